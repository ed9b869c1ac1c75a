theorem lc_v (x y : Int64) : (lg_cmp x y = 0 ↔ x = y) ∧ (lg_cmp x y < 0 ↔ x < y) ∧ (0 ≤ lg_cmp x y ↔ y ≤ x) ∧ (0 < lg_cmp x y ↔ y < x) ∧ (lg_cmp x y ≤ 0 ↔ x ≤ y) := by
  rcases Int.lt_trichotomy x.toInt y.toInt with h | h | h
  · have h1 : x < y := Int64.lt_iff_toInt_lt.mpr h
    have h2 : ¬ x > y := fun q => by have := Int64.lt_iff_toInt_lt.mp q; omega
    have h3 : ¬ x = y := fun q => by rw [q] at h; omega
    have h4 : ¬ y ≤ x := fun q => by have := Int64.le_iff_toInt_le.mp q; omega
    have h5 : x ≤ y := Int64.le_iff_toInt_le.mpr (by omega)
    have e : lg_cmp x y = -1 := by unfold lg_cmp; rw [if_neg h2, if_neg h3]
    rw [e]
    exact ⟨⟨fun q => absurd q (by decide), fun q => absurd q h3⟩, ⟨fun _ => h1, fun _ => by decide⟩, ⟨fun q => absurd q (by decide), fun q => absurd q h4⟩, ⟨fun q => absurd q (by decide), fun q => absurd q h2⟩, ⟨fun _ => h5, fun _ => by decide⟩⟩
  · have h3 : x = y := Int64.toInt_inj.mp h
    subst h3
    have h2 : ¬ x > x := fun q => by have := Int64.lt_iff_toInt_lt.mp q; omega
    have h5 : x ≤ x := Int64.le_iff_toInt_le.mpr (by omega)
    have e : lg_cmp x x = 0 := by unfold lg_cmp; rw [if_neg h2, if_pos rfl]
    rw [e]
    exact ⟨⟨fun _ => rfl, fun _ => rfl⟩, ⟨fun q => absurd q (by decide), fun q => absurd q h2⟩, ⟨fun _ => h5, fun _ => by decide⟩, ⟨fun q => absurd q (by decide), fun q => absurd q h2⟩, ⟨fun _ => h5, fun _ => by decide⟩⟩
  · have h1 : x > y := Int64.lt_iff_toInt_lt.mpr h
    have h2 : ¬ x < y := fun q => by have := Int64.lt_iff_toInt_lt.mp q; omega
    have h3 : ¬ x = y := fun q => by rw [q] at h; omega
    have h4 : ¬ x ≤ y := fun q => by have := Int64.le_iff_toInt_le.mp q; omega
    have h5 : y ≤ x := Int64.le_iff_toInt_le.mpr (by omega)
    have e : lg_cmp x y = 1 := by unfold lg_cmp; rw [if_pos h1]
    rw [e]
    exact ⟨⟨fun q => absurd q (by decide), fun q => absurd q h3⟩, ⟨fun q => absurd q (by decide), fun q => absurd q h2⟩, ⟨fun _ => h5, fun _ => by decide⟩, ⟨fun _ => h1, fun _ => by decide⟩, ⟨fun q => absurd q (by decide), fun q => absurd q h4⟩⟩
theorem lc_eq_t {x y : Int64} (h : lg_cmp x y = 0) : x = y := (lc_v x y).1.mp h
theorem lc_eq_f {x y : Int64} (h : ¬ lg_cmp x y = 0) : ¬ x = y := fun q => h ((lc_v x y).1.mpr q)
theorem lc_lt_t {x y : Int64} (h : lg_cmp x y < 0) : x < y := (lc_v x y).2.1.mp h
theorem lc_lt_f {x y : Int64} (h : ¬ lg_cmp x y < 0) : ¬ x < y := fun q => h ((lc_v x y).2.1.mpr q)
theorem lc_ge_t {x y : Int64} (h : 0 ≤ lg_cmp x y) : y ≤ x := (lc_v x y).2.2.1.mp h
theorem lc_ge_f {x y : Int64} (h : ¬ 0 ≤ lg_cmp x y) : ¬ y ≤ x := fun q => h ((lc_v x y).2.2.1.mpr q)
theorem lc_gt_t {x y : Int64} (h : 0 < lg_cmp x y) : y < x := (lc_v x y).2.2.2.1.mp h
theorem lc_gt_f {x y : Int64} (h : ¬ 0 < lg_cmp x y) : ¬ y < x := fun q => h ((lc_v x y).2.2.2.1.mpr q)
theorem lc_le_t {x y : Int64} (h : lg_cmp x y ≤ 0) : x ≤ y := (lc_v x y).2.2.2.2.mp h
theorem lc_le_f {x y : Int64} (h : ¬ lg_cmp x y ≤ 0) : ¬ x ≤ y := fun q => h ((lc_v x y).2.2.2.2.mpr q)
theorem lc_ne_t {x y : Int64} (h : ¬ lg_cmp x y = 0) : ¬ x = y := fun q => h ((lc_v x y).1.mpr q)
theorem lc_ne_f {x y : Int64} (h : lg_cmp x y = 0) : x = y := (lc_v x y).1.mp h
theorem wo_in : Cond.instanceMethod Lib.objectInit ∈ gTab := gTab_in 64 (by decide +kernel) rfl
theorem wo_co : Cond.code Lib.objectInit ⟨#[0xb1]⟩ 1 none ∈ gTab := gTab_in 65 (by decide +kernel) rfl
theorem wm_st : Cond.static Lib.Math.max.name ∈ gTab := gTab_in 390 (by decide +kernel) rfl
theorem wm_co : Cond.code Lib.Math.max.name Lib.Math.max.code 2 (some .int) ∈ gTab := gTab_in 391 (by decide +kernel) rfl
theorem wn_st : Cond.static Lib.Math.min.name ∈ gTab := gTab_in 387 (by decide +kernel) rfl
theorem wn_co : Cond.code Lib.Math.min.name Lib.Math.min.code 2 (some .int) ∈ gTab := gTab_in 388 (by decide +kernel) rfl
theorem wm_in : Cond.initialized "java/lang/Math" ∈ gTab := gTab_in 54 (by decide +kernel) rfl
theorem wa_st : Cond.static arraycopyName ∈ gTab := gTab_in 341 (by decide +kernel) rfl
theorem wa_na : Cond.native arraycopyName ∈ gTab := gTab_in 342 (by decide +kernel) rfl
theorem wa_in : Cond.initialized "java/lang/System" ∈ gTab := gTab_in 51 (by decide +kernel) rfl
section MS
variable {p : Program} {l : Launch} {e : Env} {R : Room} {s : State} {m : MethodId} {args : Array Value} {below : List Frame} {meth : Method} {c : Code} {H : Heap} {locs : List Loc} {cells slots : Nat} {Q : State → Prop}
variable {cc : ByteArray} {pc nL : Nat} {ls : Array Slot} {rest : List Value} {D : va_G} {cA : Nat → ClassId} {a z0 c0 N index : Nat} {σ : Me} {own ref C : String} {T : u_T}
theorem m_objInit (X : Cx p m c cc nL s args own D cA) (hl : Cond.methodLink own index Lib.objectInit ∈ gTab) (hsz : ls.size = nL) (hd : decode cc pc = .ok (.invokespecial index, 3)) (hf : 1 ≤ R.frames) (hlo : (rest.map fun v => v.category).sum + 12 ≤ R.locals) (kk : W p l e R s m args below meth c H locs cells slots Q (F0 m (pc + 3) ls rest)) : W p l e R s m args below meth c H locs cells slots Q (F0 m pc ls (.ref a :: rest)) :=
  W.objInit X.1.1 X.1.2.1 X.1.2.2.2.1 (X.1.2.2.2.2 _ hl) (X.1.2.2.2.2 _ wo_in) (X.1.2.2.2.2 _ wo_co) rfl (by rw [X.1.2.2.1]; exact hsz) rfl hd hf (by show 2 * 0 + _ + 12 ≤ _; omega) kk
theorem m_max (X : Cx p m c cc nL s args own D cA) (hl : Cond.methodLink own index Lib.Math.max.name ∈ gTab) (hsz : ls.size = nL) (hf : 1 ≤ R.frames) (hlo : (rest.map fun v => v.category).sum + 13 ≤ R.locals) (hcs : cells ≤ R.cells ∧ slots ≤ R.slots) {x y : Int32} (hd : decode cc pc = .ok (.invokestatic index, 3)) (kk : W p l e R s m args below meth c H locs cells slots Q (F0 m (pc + 3) ls (.int (if x < y then y else x) :: rest))) : W p l e R s m args below meth c H locs cells slots Q (F0 m pc ls (.int y :: .int x :: rest)) :=
  va_mmax X.1.1 X.1.2.1 (X.1.2.2.1.trans hsz.symm) X.1.2.2.2.1 (X.1.2.2.2.2 _ hl) (X.1.2.2.2.2 _ wm_st) (X.1.2.2.2.2 _ wm_in) (X.1.2.2.2.2 _ wm_co) hf hlo hcs.1 hcs.2 hd kk
theorem m_min (X : Cx p m c cc nL s args own D cA) (hl : Cond.methodLink own index Lib.Math.min.name ∈ gTab) (hsz : ls.size = nL) (hf : 1 ≤ R.frames) (hlo : (rest.map fun v => v.category).sum + 13 ≤ R.locals) (hcs : cells ≤ R.cells ∧ slots ≤ R.slots) {x y : Int32} (hd : decode cc pc = .ok (.invokestatic index, 3)) (kk : W p l e R s m args below meth c H locs cells slots Q (F0 m (pc + 3) ls (.int (if y < x then y else x) :: rest))) : W p l e R s m args below meth c H locs cells slots Q (F0 m pc ls (.int y :: .int x :: rest)) :=
  va_mmin X.1.1 X.1.2.1 (X.1.2.2.1.trans hsz.symm) X.1.2.2.2.1 (X.1.2.2.2.2 _ hl) (X.1.2.2.2.2 _ wn_st) (X.1.2.2.2.2 _ wm_in) (X.1.2.2.2.2 _ wn_co) hf hlo hcs.1 hcs.2 hd kk
theorem m_leq (X : Cx p m c cc nL s args own D cA) {x y : Int64} {off : Int} {tgt : Nat} (hd1 : decode cc pc = .ok (.lcmp, 1)) (hd2 : decode cc (pc + 1) = .ok (.ifCond .eq off, 3)) (ht : ((pc + 1 : Nat) : Int) + off = (tgt : Int)) (kt : x = y → W p l e R s m args below meth c H locs cells slots Q (F0 m tgt ls rest)) (kf : ¬ x = y → W p l e R s m args below meth c H locs cells slots Q (F0 m (pc + 1 + 3) ls rest)) : W p l e R s m args below meth c H locs cells slots Q (F0 m pc ls (.long y :: .long x :: rest)) :=
  W.lcmp X.1.1 X.1.2.1 hd1 (lv_if_eq X.1.1 X.1.2.1 hd2 ht (fun h => kt (lc_eq_t h)) (fun h => kf (lc_eq_f h)))
theorem m_lne (X : Cx p m c cc nL s args own D cA) {x y : Int64} {off : Int} {tgt : Nat} (hd1 : decode cc pc = .ok (.lcmp, 1)) (hd2 : decode cc (pc + 1) = .ok (.ifCond .ne off, 3)) (ht : ((pc + 1 : Nat) : Int) + off = (tgt : Int)) (kt : ¬ x = y → W p l e R s m args below meth c H locs cells slots Q (F0 m tgt ls rest)) (kf : x = y → W p l e R s m args below meth c H locs cells slots Q (F0 m (pc + 1 + 3) ls rest)) : W p l e R s m args below meth c H locs cells slots Q (F0 m pc ls (.long y :: .long x :: rest)) :=
  W.lcmp X.1.1 X.1.2.1 hd1 (lv_if_ne X.1.1 X.1.2.1 hd2 ht (fun h => kt (lc_ne_t h)) (fun h => kf (lc_ne_f h)))
theorem m_llt (X : Cx p m c cc nL s args own D cA) {x y : Int64} {off : Int} {tgt : Nat} (hd1 : decode cc pc = .ok (.lcmp, 1)) (hd2 : decode cc (pc + 1) = .ok (.ifCond .lt off, 3)) (ht : ((pc + 1 : Nat) : Int) + off = (tgt : Int)) (kt : x < y → W p l e R s m args below meth c H locs cells slots Q (F0 m tgt ls rest)) (kf : ¬ x < y → W p l e R s m args below meth c H locs cells slots Q (F0 m (pc + 1 + 3) ls rest)) : W p l e R s m args below meth c H locs cells slots Q (F0 m pc ls (.long y :: .long x :: rest)) :=
  W.lcmp X.1.1 X.1.2.1 hd1 (lv_if_lt X.1.1 X.1.2.1 hd2 ht (fun h => kt (lc_lt_t h)) (fun h => kf (lc_lt_f h)))
theorem m_lge (X : Cx p m c cc nL s args own D cA) {x y : Int64} {off : Int} {tgt : Nat} (hd1 : decode cc pc = .ok (.lcmp, 1)) (hd2 : decode cc (pc + 1) = .ok (.ifCond .ge off, 3)) (ht : ((pc + 1 : Nat) : Int) + off = (tgt : Int)) (kt : y ≤ x → W p l e R s m args below meth c H locs cells slots Q (F0 m tgt ls rest)) (kf : ¬ y ≤ x → W p l e R s m args below meth c H locs cells slots Q (F0 m (pc + 1 + 3) ls rest)) : W p l e R s m args below meth c H locs cells slots Q (F0 m pc ls (.long y :: .long x :: rest)) :=
  W.lcmp X.1.1 X.1.2.1 hd1 (lv_if_ge X.1.1 X.1.2.1 hd2 ht (fun h => kt (lc_ge_t h)) (fun h => kf (lc_ge_f h)))
theorem m_lgt (X : Cx p m c cc nL s args own D cA) {x y : Int64} {off : Int} {tgt : Nat} (hd1 : decode cc pc = .ok (.lcmp, 1)) (hd2 : decode cc (pc + 1) = .ok (.ifCond .gt off, 3)) (ht : ((pc + 1 : Nat) : Int) + off = (tgt : Int)) (kt : y < x → W p l e R s m args below meth c H locs cells slots Q (F0 m tgt ls rest)) (kf : ¬ y < x → W p l e R s m args below meth c H locs cells slots Q (F0 m (pc + 1 + 3) ls rest)) : W p l e R s m args below meth c H locs cells slots Q (F0 m pc ls (.long y :: .long x :: rest)) :=
  W.lcmp X.1.1 X.1.2.1 hd1 (lv_if_gt X.1.1 X.1.2.1 hd2 ht (fun h => kt (lc_gt_t h)) (fun h => kf (lc_gt_f h)))
theorem m_lle (X : Cx p m c cc nL s args own D cA) {x y : Int64} {off : Int} {tgt : Nat} (hd1 : decode cc pc = .ok (.lcmp, 1)) (hd2 : decode cc (pc + 1) = .ok (.ifCond .le off, 3)) (ht : ((pc + 1 : Nat) : Int) + off = (tgt : Int)) (kt : x ≤ y → W p l e R s m args below meth c H locs cells slots Q (F0 m tgt ls rest)) (kf : ¬ x ≤ y → W p l e R s m args below meth c H locs cells slots Q (F0 m (pc + 1 + 3) ls rest)) : W p l e R s m args below meth c H locs cells slots Q (F0 m pc ls (.long y :: .long x :: rest)) :=
  W.lcmp X.1.1 X.1.2.1 hd1 (lv_if_le X.1.1 X.1.2.1 hd2 ht (fun h => kt (lc_le_t h)) (fun h => kf (lc_le_f h)))
end MS
section ME
variable {p : Program} {l : Launch} {e : Env} {R : Room} {s : State} {m : MethodId} {args : Array Value} {below : List Frame} {meth : Method} {c : Code} {H : Heap} {locs : List Loc} {cells slots : Nat} {Q : State → Prop}
variable {cc : ByteArray} {pc nL : Nat} {ls : Array Slot} {rest : List Value} {D : va_G} {cA : Nat → ClassId} {a z0 c0 N index : Nat} {σ : Me} {own ref C : String} {T : u_T}
theorem m_iret {post : Int32 → Me → Prop} {v : Int32} (X : Cx p m c cc nL s args own D cA) (hlk : meth.locks = false) (hr : meth.sig.returnType = some .int) (hw : wS D cA z0 s σ H locs) (h : post v σ) (hdg : decode cc pc = .ok (.ireturn, 1)) : W p l e R s m args below meth c H locs cells slots (MQ below (va_Qi post (BM D cA z0) (AM z0)) args s cells slots (AM z0)) (F0 m pc ls [.int v]) :=
  W.iret (v := v) X.1.1 X.1.2.1 hr (fun t ht hW => ⟨⟨v, σ, rfl, h, by show wd _ _ _ _ _; rw [ht]; exact hw.1⟩, hw.2.F ht⟩) hw.2.2.2 hdg hlk
theorem m_zret {post : Int32 → Me → Prop} {v : Int32} (X : Cx p m c cc nL s args own D cA) (hlk : meth.locks = false) (hr : meth.sig.returnType = some .boolean) (hw : wS D cA z0 s σ H locs) (hv : v = 0 ∨ v = 1) (h : post v σ) (hdg : decode cc pc = .ok (.ireturn, 1)) : W p l e R s m args below meth c H locs cells slots (MQ below (va_Qi post (BM D cA z0) (AM z0)) args s cells slots (AM z0)) (F0 m pc ls [.int v]) :=
  W.zret (v := v) X.1.1 X.1.2.1 hr (by rcases hv with rfl | rfl <;> decide) (fun t ht hW => ⟨⟨v, σ, rfl, h, by show wd _ _ _ _ _; rw [ht]; exact hw.1⟩, hw.2.F ht⟩) hw.2.2.2 hdg hlk
theorem m_lret {post : Int64 → Me → Prop} {v : Int64} (X : Cx p m c cc nL s args own D cA) (hlk : meth.locks = false) (hr : meth.sig.returnType = some .long) (hw : wS D cA z0 s σ H locs) (h : post v σ) (hdg : decode cc pc = .ok (.lreturn, 1)) : W p l e R s m args below meth c H locs cells slots (MQ below (va_Ql post (BM D cA z0) (AM z0)) args s cells slots (AM z0)) (F0 m pc ls [.long v]) :=
  W.lret (v := v) X.1.1 X.1.2.1 hr (fun t ht hW => ⟨⟨v, σ, rfl, h, by show wd _ _ _ _ _; rw [ht]; exact hw.1⟩, hw.2.F ht⟩) hw.2.2.2 hdg hlk
theorem m_vret {post : Me → Prop} (X : Cx p m c cc nL s args own D cA) (hlk : meth.locks = false) (hr : meth.sig.returnType = none) (hw : wS D cA z0 s σ H locs) (h : post σ) (hdg : decode cc pc = .ok (.return_, 1)) : W p l e R s m args below meth c H locs cells slots (MQ below (va_Qv post (BM D cA z0) (AM z0)) args s cells slots (AM z0)) (F0 m pc ls []) :=
  W.vret X.1.1 X.1.2.1 hr (fun t ht hW => ⟨⟨σ, rfl, h, by show wd _ _ _ _ _; rw [ht]; exact hw.1⟩, hw.2.F ht⟩) hw.2.2.2 hdg hlk
end ME
