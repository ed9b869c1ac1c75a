/-! The two constructors. -/
def r0 : Me := nw (me0 0) 11 0
def r1 : Me := sP (nw r0 24 4) 0 0 (some 1)
def r2 : Me := sP (mz r1) 0 1 (some 2)
def r3 : Me := sP (nw r2 20 4) 0 2 (some 7)
def r4 : Me := sP (nw r3 25 12) 0 3 (some 8)
def r5 : Me := nw r4 6 0
def r6 : Me := sI r5 9 0 (12)
def r7 : Me := sI r6 9 3 (10)
def r8 : Me := sI r7 9 4 (1)
def r9 : Me := sI r8 9 5 (1)
def r10 : Me := sI r9 9 6 (5)
def r11 : Me := sP (nw r10 20 25) 9 7 (some 10)
def r12 : Me := sP (nw r11 20 25) 9 8 (some 11)
def r13 : Me := sP (nw r12 20 25) 9 9 (some 12)
def r14 : Me := sP r13 0 5 (some 9)
def r15 : Me := sP (nw r14 20 6) 0 12 (some 13)
def r16 : Me := sL r15 0 14 (0)
def r17 : Me := sL r16 0 15 (1)
def r18 : Me := sP (nw r17 20 6) 0 17 (some 14)
def r19 : Me := nw r18 1 0
def r20 : Me := sP (nw r19 20 7) 15 1 (some 16)
def r21 : Me := sP r20 1 0 (some 15)
def r22 : Me := nw r21 1 0
def r23 : Me := sP (nw r22 20 7) 17 1 (some 18)
def r24 : Me := sP r23 1 1 (some 17)
def r25 : Me := nw r24 1 0
def r26 : Me := sP (nw r25 20 7) 19 1 (some 20)
def r27 : Me := sP r26 1 2 (some 19)
def r28 : Me := nw r27 1 0
def r29 : Me := sP (nw r28 20 7) 21 1 (some 22)
def r30 : Me := sP r29 1 3 (some 21)
def rS : Nat → Me
  | 0 => r30
  | j + 1 => sI (rS j) 7 j (-1)
theorem rS_T : ∀ j, gT (rS j) = gT r30
  | 0 => rfl
  | j + 1 => rS_T j
theorem rS_N : ∀ j, gN (rS j) = gN r30
  | 0 => rfl
  | j + 1 => rS_N j
theorem rS_P : ∀ j, gP (rS j) = gP r30
  | 0 => rfl
  | j + 1 => rS_P j
def rT : Me := rS 4
def r31 : Me := nw rT 8 0
def r32 : Me := sP (nw r31 21 481) 23 0 (some 24)
def r33 : Me := sP (nw r32 21 481) 23 1 (some 25)
def r34 : Me := sP (nw r33 20 481) 23 2 (some 26)
def r35 : Me := sP (nw r34 20 481) 23 3 (some 27)
def r36 : Me := nw r35 10 0
def r37 : Me := sP (nw r36 20 49) 28 2 (some 29)
def r38 : Me := sP (nw r37 22 49) 28 3 (some 30)
def r39 : Me := sP r38 28 0 (some 9)
def r40 : Me := sP r39 28 1 (some 23)
def r41 : Me := sP r40 0 6 (some 28)
def r42 : Me := nw r41 4 0
def r43 : Me := sP (nw r42 21 325) 31 1 (some 32)
def r44 : Me := sP (nw r43 21 325) 31 2 (some 33)
def r45 : Me := sP r44 31 0 (some 9)
def r46 : Me := sP r45 0 7 (some 31)
def r47 : Me := nw r46 7 0
def r48 : Me := sP (nw r47 20 3) 34 1 (some 35)
def r49 : Me := sP r48 34 0 (some 23)
def r50 : Me := sP r49 0 8 (some 34)
def m0 : Me := nw r50 12 0
def r51 : Me := sP (nw m0 20 6) 36 1 (some 37)
def r52 : Me := sP (nw r51 22 4) 36 4 (some 38)
def r53 : Me := sP (nw r52 20 28) 36 5 (some 39)
def r54 : Me := sP (nw r53 20 7) 36 6 (some 40)
def r55 : Me := sP (nw r54 20 4) 36 7 (some 41)
def r56 : Me := sP (nw r55 23 100) 36 8 (some 42)
def r57 : Me := sP (nw r56 20 12) 36 10 (some 43)
def r58 : Me := sP (nw r57 20 12) 36 11 (some 44)
def r59 : Me := sP (nw r58 20 12) 36 12 (some 45)
def r60 : Me := sP (nw r59 20 12) 36 13 (some 46)
def r61 : Me := sP (nw r60 20 12) 36 14 (some 47)
def r62 : Me := sP (nw r61 23 300) 36 15 (some 48)
def r63 : Me := sP (nw r62 22 12) 36 16 (some 49)
def r64 : Me := sP (nw r63 20 17000) 36 30 (some 50)
def r65 : Me := sP (nw r64 21 17000) 36 31 (some 51)
def r66 : Me := sP (nw r65 20 17000) 36 33 (some 52)
def r67 : Me := sP (nw r66 21 17000) 36 34 (some 53)
def r68 : Me := sP (nw r67 20 17000) 36 36 (some 54)
def r69 : Me := sP (nw r68 20 17000) 36 37 (some 55)
def r70 : Me := sP (nw r69 21 17000) 36 45 (some 56)
def r71 : Me := sP (nw r70 21 17000) 36 46 (some 57)
def r72 : Me := sP (nw r71 20 6) 36 56 (some 58)
def r73 : Me := sL r72 36 3 (1)
def r74 : Me := sI r73 36 17 (12)
def r75 : Me := sI r74 36 20 (10)
def r76 : Me := sI r75 36 21 (1)
def r77 : Me := sI r76 36 22 (1)
def r78 : Me := sI r77 36 23 (5)
def r79 : Me := sI r78 36 48 (-9)
def r80 : Me := sI r79 36 49 (-9)
def mS : Nat → Me
  | 0 => r80
  | j + 1 => sI (mS j) 41 j (-1)
theorem mS_T : ∀ j, gT (mS j) = gT r80
  | 0 => rfl
  | j + 1 => mS_T j
theorem mS_N : ∀ j, gN (mS j) = gN r80
  | 0 => rfl
  | j + 1 => mS_N j
theorem mS_P : ∀ j, gP (mS j) = gP r80
  | 0 => rfl
  | j + 1 => mS_P j
set_option maxHeartbeats 1000000 in
set_option maxRecDepth 100000 in
theorem start_X (z : Nat) {Q : Me → Prop} (hQ : Q (lift z r50)) : pX11_init (lift z r0) z Q := by
  unfold pX11_init
  refine l_fld (o := 0) (p := 1) (R' := r1) (by decide +kernel) rfl (by decide +kernel) ?_
  refine l_mz (o := 0) (p := 2) (R' := r2) (by decide +kernel) rfl (by decide +kernel) ?_
  refine l_fld (o := 0) (p := 7) (R' := r3) (by decide +kernel) rfl (by decide +kernel) ?_
  refine l_fld (o := 0) (p := 8) (R' := r4) (by decide +kernel) rfl (by decide +kernel) ?_
  refine l_obj (p := 9) (R' := r5) (by decide +kernel) rfl ?_
  show pX6_init _ _ _
  refine ⟨l_T (o := 9) (by decide +kernel), ?_⟩
  refine l_sI (o := 9) (R' := r6) rfl ?_
  refine l_sI (o := 9) (R' := r7) rfl ?_
  refine l_sI (o := 9) (R' := r8) rfl ?_
  refine l_sI (o := 9) (R' := r9) rfl ?_
  refine l_sI (o := 9) (R' := r10) rfl ?_
  refine l_fld (o := 9) (p := 10) (R' := r11) (by decide +kernel) rfl (by decide +kernel) ?_
  refine l_fld (o := 9) (p := 11) (R' := r12) (by decide +kernel) rfl (by decide +kernel) ?_
  refine l_fld (o := 9) (p := 12) (R' := r13) (by decide +kernel) rfl (by decide +kernel) ?_
  refine ⟨l_T (o := 0) (by decide +kernel), ?_⟩
  refine l_set (o := 0) (p := 9) (R' := r14) rfl ?_
  refine l_fld (o := 0) (p := 13) (R' := r15) (by decide +kernel) rfl (by decide +kernel) ?_
  refine l_sL (o := 0) (R' := r16) rfl ?_
  refine l_sL (o := 0) (R' := r17) rfl ?_
  refine l_fld (o := 0) (p := 14) (R' := r18) (by decide +kernel) rfl (by decide +kernel) ?_
  refine ⟨z + 1, l_P (o := 0) (by decide +kernel), l_T (o := 1) (by decide +kernel), by rw [l_N (o := 1) (t := 4) (by decide +kernel)]; decide, ?_⟩
  refine l_obj (p := 15) (R' := r19) (by decide +kernel) rfl ?_
  show pX1_init _ _ _
  refine l_fld (o := 15) (p := 16) (R' := r20) (by decide +kernel) rfl (by decide +kernel) ?_
  refine ⟨l_T (o := 1) (by decide +kernel), by rw [l_N (o := 1) (t := 4) (by decide +kernel)]; exact vp_in_nI (show 0 < 4 by omega) (by omega), l_T (o := 15) (by decide +kernel), ?_⟩
  refine l_set (o := 1) (p := 15) (R' := r21) (congrArg (fun k => sP r20 1 k (some 15)) (show (0 : Int32).toNatClampNeg = 0 by decide)) ?_
  intro x0 e0
  have e0' : x0 = 1 := e0.trans (by decide)
  clear e0
  subst e0'
  refine ⟨l_T (o := 0) (by decide +kernel), ?_⟩
  refine ⟨z + 1, l_P (o := 0) (by decide +kernel), l_T (o := 1) (by decide +kernel), by rw [l_N (o := 1) (t := 4) (by decide +kernel)]; decide, ?_⟩
  refine l_obj (p := 17) (R' := r22) (by decide +kernel) rfl ?_
  show pX1_init _ _ _
  refine l_fld (o := 17) (p := 18) (R' := r23) (by decide +kernel) rfl (by decide +kernel) ?_
  refine ⟨l_T (o := 1) (by decide +kernel), by rw [l_N (o := 1) (t := 4) (by decide +kernel)]; exact vp_in_nI (show 1 < 4 by omega) (by omega), l_T (o := 17) (by decide +kernel), ?_⟩
  refine l_set (o := 1) (p := 17) (R' := r24) (congrArg (fun k => sP r23 1 k (some 17)) (show (1 : Int32).toNatClampNeg = 1 by decide)) ?_
  intro x1 e1
  have e1' : x1 = 2 := e1.trans (by decide)
  clear e1
  subst e1'
  refine ⟨l_T (o := 0) (by decide +kernel), ?_⟩
  refine ⟨z + 1, l_P (o := 0) (by decide +kernel), l_T (o := 1) (by decide +kernel), by rw [l_N (o := 1) (t := 4) (by decide +kernel)]; decide, ?_⟩
  refine l_obj (p := 19) (R' := r25) (by decide +kernel) rfl ?_
  show pX1_init _ _ _
  refine l_fld (o := 19) (p := 20) (R' := r26) (by decide +kernel) rfl (by decide +kernel) ?_
  refine ⟨l_T (o := 1) (by decide +kernel), by rw [l_N (o := 1) (t := 4) (by decide +kernel)]; exact vp_in_nI (show 2 < 4 by omega) (by omega), l_T (o := 19) (by decide +kernel), ?_⟩
  refine l_set (o := 1) (p := 19) (R' := r27) (congrArg (fun k => sP r26 1 k (some 19)) (show (2 : Int32).toNatClampNeg = 2 by decide)) ?_
  intro x2 e2
  have e2' : x2 = 3 := e2.trans (by decide)
  clear e2
  subst e2'
  refine ⟨l_T (o := 0) (by decide +kernel), ?_⟩
  refine ⟨z + 1, l_P (o := 0) (by decide +kernel), l_T (o := 1) (by decide +kernel), by rw [l_N (o := 1) (t := 4) (by decide +kernel)]; decide, ?_⟩
  refine l_obj (p := 21) (R' := r28) (by decide +kernel) rfl ?_
  show pX1_init _ _ _
  refine l_fld (o := 21) (p := 22) (R' := r29) (by decide +kernel) rfl (by decide +kernel) ?_
  refine ⟨l_T (o := 1) (by decide +kernel), by rw [l_N (o := 1) (t := 4) (by decide +kernel)]; exact vp_in_nI (show 3 < 4 by omega) (by omega), l_T (o := 21) (by decide +kernel), ?_⟩
  refine l_set (o := 1) (p := 21) (R' := r30) (congrArg (fun k => sP r29 1 k (some 21)) (show (3 : Int32).toNatClampNeg = 3 by decide)) ?_
  intro x3 e3
  have e3' : x3 = 4 := e3.trans (by decide)
  clear e3
  subst e3'
  refine ⟨l_T (o := 0) (by decide +kernel), ?_⟩
  refine ⟨z + 1, l_P (o := 0) (by decide +kernel), l_T (o := 1) (by decide +kernel), by rw [l_N (o := 1) (t := 4) (by decide +kernel)]; decide, ?_⟩
  refine ⟨fun n σ w => ∃ j, j ≤ 4 ∧ w = nI j ∧ n = 4 - j ∧ σ = lift z (rS j), ?_, 4, 0, by omega, rfl, rfl, rfl⟩
  rintro n σ w ⟨j, hj, rfl, rfl, es⟩
  rw [es]
  refine ⟨l_T (o := 0) (by rw [rS_T]; decide +kernel), z + 7, l_P (o := 0) (by rw [rS_P]; decide +kernel), l_T (o := 7) (by rw [rS_T]; decide +kernel), ?_⟩
  rw [l_N (o := 7) (t := 4) (by rw [rS_N]; decide +kernel)]
  refine ⟨fun q => ?_, fun q => ?_⟩
  rotate_left
  · have hj2 : j < 4 := by
      have : ¬ 4 ≤ j := fun y => q ((nI_leI (by omega) (by omega)).mpr y)
      omega
    refine ⟨vp_in_nI hj2 (by omega), ?_⟩
    rw [nI_clamp (show j < 2 ^ 31 by omega)]
    refine l_sI (o := 7) (R' := rS (j + 1)) rfl ?_
    rintro _ rfl
    exact ⟨4 - (j + 1), by omega, j + 1, by omega, sc1 j, rfl, rfl⟩
  have ej : j = 4 := by
    have := (nI_leI (by omega) (by omega)).mp q
    omega
  subst ej
  change ∀ (b98 : Nat) (σ99 : Me), b98 = gz (lift z rT) → σ99 = nw (lift z rT) 8 0 → _
  refine l_obj (p := 23) (R' := r31) (by decide +kernel) rfl ?_
  show pX8_init _ _ _
  refine l_fld (o := 23) (p := 24) (R' := r32) (by decide +kernel) rfl (by decide +kernel) ?_
  refine l_fld (o := 23) (p := 25) (R' := r33) (by decide +kernel) rfl (by decide +kernel) ?_
  refine l_fld (o := 23) (p := 26) (R' := r34) (by decide +kernel) rfl (by decide +kernel) ?_
  refine l_fld (o := 23) (p := 27) (R' := r35) (by decide +kernel) rfl (by decide +kernel) ?_
  refine l_obj (p := 28) (R' := r36) (by decide +kernel) rfl ?_
  refine ⟨l_T (o := 0) (by decide +kernel), z + 9, l_P (o := 0) (by decide +kernel), ?_⟩
  show pX10_init _ _ _ _ _
  refine l_fld (o := 28) (p := 29) (R' := r37) (by decide +kernel) rfl (by decide +kernel) ?_
  refine l_fld (o := 28) (p := 30) (R' := r38) (by decide +kernel) rfl (by decide +kernel) ?_
  refine l_set (o := 28) (p := 9) (R' := r39) rfl ?_
  refine l_set (o := 28) (p := 23) (R' := r40) rfl ?_
  refine ⟨l_T (o := 0) (by decide +kernel), ?_⟩
  refine l_set (o := 0) (p := 28) (R' := r41) rfl ?_
  refine l_obj (p := 31) (R' := r42) (by decide +kernel) rfl ?_
  refine ⟨l_T (o := 0) (by decide +kernel), z + 9, l_P (o := 0) (by decide +kernel), ?_⟩
  show pX4_init _ _ _ _
  refine l_fld (o := 31) (p := 32) (R' := r43) (by decide +kernel) rfl (by decide +kernel) ?_
  refine l_fld (o := 31) (p := 33) (R' := r44) (by decide +kernel) rfl (by decide +kernel) ?_
  refine l_set (o := 31) (p := 9) (R' := r45) rfl ?_
  refine ⟨l_T (o := 0) (by decide +kernel), ?_⟩
  refine l_set (o := 0) (p := 31) (R' := r46) rfl ?_
  refine l_obj (p := 34) (R' := r47) (by decide +kernel) rfl ?_
  show pX7_init _ _ _ _
  refine l_fld (o := 34) (p := 35) (R' := r48) (by decide +kernel) rfl (by decide +kernel) ?_
  refine l_set (o := 34) (p := 23) (R' := r49) rfl ?_
  refine ⟨l_T (o := 0) (by decide +kernel), ?_⟩
  refine l_set (o := 0) (p := 34) (R' := r50) rfl ?_
  exact hQ
set_option maxHeartbeats 1000000 in
set_option maxRecDepth 100000 in
theorem start_M (z : Nat) {Q : Me → Prop} (hQ : Q (lift z (mS 4))) : pX12_init (lift z m0) (z + 36) Q := by
  unfold pX12_init
  refine l_fld (o := 36) (p := 37) (R' := r51) (by decide +kernel) rfl (by decide +kernel) ?_
  refine l_fld (o := 36) (p := 38) (R' := r52) (by decide +kernel) rfl (by decide +kernel) ?_
  refine l_fld (o := 36) (p := 39) (R' := r53) (by decide +kernel) rfl (by decide +kernel) ?_
  refine l_fld (o := 36) (p := 40) (R' := r54) (by decide +kernel) rfl (by decide +kernel) ?_
  refine l_fld (o := 36) (p := 41) (R' := r55) (by decide +kernel) rfl (by decide +kernel) ?_
  refine l_fld (o := 36) (p := 42) (R' := r56) (by decide +kernel) rfl (by decide +kernel) ?_
  refine l_fld (o := 36) (p := 43) (R' := r57) (by decide +kernel) rfl (by decide +kernel) ?_
  refine l_fld (o := 36) (p := 44) (R' := r58) (by decide +kernel) rfl (by decide +kernel) ?_
  refine l_fld (o := 36) (p := 45) (R' := r59) (by decide +kernel) rfl (by decide +kernel) ?_
  refine l_fld (o := 36) (p := 46) (R' := r60) (by decide +kernel) rfl (by decide +kernel) ?_
  refine l_fld (o := 36) (p := 47) (R' := r61) (by decide +kernel) rfl (by decide +kernel) ?_
  refine l_fld (o := 36) (p := 48) (R' := r62) (by decide +kernel) rfl (by decide +kernel) ?_
  refine l_fld (o := 36) (p := 49) (R' := r63) (by decide +kernel) rfl (by decide +kernel) ?_
  refine l_fld (o := 36) (p := 50) (R' := r64) (by decide +kernel) rfl (by decide +kernel) ?_
  refine l_fld (o := 36) (p := 51) (R' := r65) (by decide +kernel) rfl (by decide +kernel) ?_
  refine l_fld (o := 36) (p := 52) (R' := r66) (by decide +kernel) rfl (by decide +kernel) ?_
  refine l_fld (o := 36) (p := 53) (R' := r67) (by decide +kernel) rfl (by decide +kernel) ?_
  refine l_fld (o := 36) (p := 54) (R' := r68) (by decide +kernel) rfl (by decide +kernel) ?_
  refine l_fld (o := 36) (p := 55) (R' := r69) (by decide +kernel) rfl (by decide +kernel) ?_
  refine l_fld (o := 36) (p := 56) (R' := r70) (by decide +kernel) rfl (by decide +kernel) ?_
  refine l_fld (o := 36) (p := 57) (R' := r71) (by decide +kernel) rfl (by decide +kernel) ?_
  refine l_fld (o := 36) (p := 58) (R' := r72) (by decide +kernel) rfl (by decide +kernel) ?_
  refine l_sL (o := 36) (R' := r73) rfl ?_
  refine l_sI (o := 36) (R' := r74) rfl ?_
  refine l_sI (o := 36) (R' := r75) rfl ?_
  refine l_sI (o := 36) (R' := r76) rfl ?_
  refine l_sI (o := 36) (R' := r77) rfl ?_
  refine l_sI (o := 36) (R' := r78) rfl ?_
  refine l_sI (o := 36) (R' := r79) rfl ?_
  refine l_sI (o := 36) (R' := r80) rfl ?_
  refine ⟨fun n σ w => ∃ j, j ≤ 4 ∧ w = nI j ∧ n = 4 - j ∧ σ = lift z (mS j), ?_, 4, 0, by omega, rfl, rfl, rfl⟩
  rintro n σ w ⟨j, hj, rfl, rfl, es⟩
  rw [es]
  refine ⟨fun q => ?_, fun q => ?_⟩
  · have ej : j = 4 := by
      have := (nI_leI (a := 4) (by omega) (by omega)).mp q
      omega
    subst ej
    exact hQ
  · have hj2 : j < 4 := by
      have : ¬ 4 ≤ j := fun y => q ((nI_leI (a := 4) (by omega) (by omega)).mpr y)
      omega
    refine ⟨l_T (o := 36) (by rw [mS_T]; decide +kernel), z + 41, l_P (o := 36) (by rw [mS_P]; decide +kernel), l_T (o := 41) (by rw [mS_T]; decide +kernel), ?_⟩
    rw [l_N (o := 41) (t := 4) (by rw [mS_N]; decide +kernel)]
    refine ⟨vp_in_nI hj2 (by omega), ?_⟩
    rw [nI_clamp (show j < 2 ^ 31 by omega)]
    refine l_sI (o := 41) (R' := mS (j + 1)) rfl ?_
    rintro _ rfl
    exact ⟨4 - (j + 1), by omega, j + 1, by omega, sc1 j, rfl, rfl⟩
def rXe : Me := r50
