section MV
variable {p : Program} {l : Launch} {e : Env} {R : Room} {s : State} {m : MethodId} {args : Array Value} {below : List Frame} {meth : Method} {c : Code} {H : Heap} {locs : List Loc} {cells slots : Nat} {Q : State → Prop}
variable {cc : ByteArray} {pc nL : Nat} {ls : Array Slot} {rest : List Value} {D : va_G} {cA : Nat → ClassId} {a z0 c0 N index : Nat} {σ : Me} {own ref C : String} {T : u_T}
variable {x y : MethodName} {bytes : ByteArray} {maxL mc ms n : Nat} {ret : Option FieldType} {rm : Room} {As st0 : List Value} {b : Nat} {owner : String}
theorem gU (h1 : Cond.methodLink own index x ∈ gTab) (h2 : Cond.sameMethod x.cls owner x.name x.desc ∈ gTab) (h3 : Cond.selects C x y ∈ gTab) (h4 : Cond.instanceMethod y ∈ gTab) (h5 : Cond.initialized y.cls ∈ gTab) (h6 : Cond.code y bytes maxL ret ∈ gTab) : GoodIn gTab (va_wsU own index C owner x y (Cond.code y bytes maxL ret :: gTab)) := by
  intro w hw
  refine gTab_good w ?_
  simp only [va_wsU, List.cons_append, List.nil_append, List.mem_cons] at hw
  rcases hw with rfl | rfl | rfl | rfl | rfl | rfl | hw
  · exact h1
  · exact h2
  · exact h3
  · exact h4
  · exact h5
  · exact h6
  · exact hw
theorem gO (h0 : Cond.instanceMethod ⟨owner, x.name, x.desc⟩ ∈ gTab) (h1 : Cond.methodLink own index x ∈ gTab) (h2 : Cond.sameMethod x.cls owner x.name x.desc ∈ gTab) (h3 : Cond.selects C x y ∈ gTab) (h4 : Cond.instanceMethod y ∈ gTab) (h5 : Cond.initialized y.cls ∈ gTab) (h6 : Cond.code y bytes maxL ret ∈ gTab) : GoodIn gTab (va_wsO own index C owner x y (Cond.code y bytes maxL ret :: gTab)) := by
  intro w hw
  refine gTab_good w ?_
  simp only [va_wsO, List.cons_append, List.nil_append, List.mem_cons] at hw
  rcases hw with rfl | rfl | rfl | rfl | rfl | rfl | rfl | hw
  · exact h1
  · exact h2
  · exact h0
  · exact h3
  · exact h4
  · exact h5
  · exact h6
  · exact hw
theorem m_runA {Qc : Array Value → State → Outcome → State → Prop} (X : Cx p m c cc nL s args own D cA) (hw : wS D cA z0 s σ H locs) (hM : Met l y (Cond.code y bytes maxL ret :: gTab) rm (PcM D cA z0 σ (.ref b :: As)) Qc mc ms (AM z0)) (hG : GoodIn gTab (va_wsU own index C owner x y (Cond.code y bytes maxL ret :: gTab))) (hz : Cond.declares ⟨owner, x.name, x.desc⟩ ∈ declW) (hd : owner ≠ "java/lang/invoke/MethodHandle" ∧ owner ≠ "java/lang/invoke/VarHandle" ∧ (parseMethodDescriptor x.desc).map (fun d => d.parameters.length) = some n) (K : Cls c0 C T N) (hT : gT σ b = c0) (hR : fitR rm R maxL mc ms cells slots) (hn : As.length = n) (hsz : ls.size = nL) (hstk : st0 = As.reverse ++ .ref b :: rest) (hW : (rest.map fun v => v.category).sum ≤ 8) (hdg : decode cc pc = .ok (.invokevirtual index, 3)) :
    va_Run p l e R s m args below meth c H locs cells slots mc ms (F0 m pc ls st0) rest (Qc (Value.ref b :: As).toArray) (AM z0) :=
  va_runU (C := C) X.1 hM (va_cwA n X.1.2.2.2.2 hG rfl hR.1.1 hR.1.2.1 (X.2.2.2.1 _ hz) hd ⟨hR.1.2.2.1, hR.1.2.2.2⟩) ⟨PcM.blind, m_recv X.2 hw K hT, m_pre X.2 hw⟩ rfl hn hsz hstk (lv_room hW) hdg hR.2
theorem m_runO {Qc : Array Value → State → Outcome → State → Prop} (X : Cx p m c cc nL s args own D cA) (hw : wS D cA z0 s σ H locs) (hM : Met l y (Cond.code y bytes maxL ret :: gTab) rm (PcM D cA z0 σ (.ref b :: As)) Qc mc ms (AM z0)) (hG : GoodIn gTab (va_wsO own index C owner x y (Cond.code y bytes maxL ret :: gTab))) {b2 : ByteArray} {m2 : Nat} {r2 : Option FieldType} (hco : Cond.code ⟨owner, x.name, x.desc⟩ b2 m2 r2 ∈ gTab) (hd : owner ≠ "java/lang/invoke/MethodHandle" ∧ owner ≠ "java/lang/invoke/VarHandle" ∧ (parseMethodDescriptor x.desc).map (fun d => d.parameters.length) = some n) (K : Cls c0 C T N) (hT : gT σ b = c0) (hR : fitR rm R maxL mc ms cells slots) (hn : As.length = n) (hsz : ls.size = nL) (hstk : st0 = As.reverse ++ .ref b :: rest) (hW : (rest.map fun v => v.category).sum ≤ 8) (hdg : decode cc pc = .ok (.invokevirtual index, 3)) :
    va_Run p l e R s m args below meth c H locs cells slots mc ms (F0 m pc ls st0) rest (Qc (Value.ref b :: As).toArray) (AM z0) :=
  va_runU (C := C) X.1 hM (va_cwO n X.1.2.2.2.2 hG rfl hR.1.1 hR.1.2.1 hco hd ⟨hR.1.2.2.1, hR.1.2.2.2⟩) ⟨PcM.blind, m_recv X.2 hw K hT, m_pre X.2 hw⟩ rfl hn hsz hstk (lv_room hW) hdg hR.2
end MV
def vkindNumber (σ : Me) (a : Nat) (Q : Int32 → Me → Prop) : Prop := (gT σ a = 0 ∧ pX0_kindNumber σ a Q) ∨ (gT σ a = 2 ∧ pX2_kindNumber σ a Q) ∨ (gT σ a = 3 ∧ pX3_kindNumber σ a Q) ∨ (gT σ a = 9 ∧ pX9_kindNumber σ a Q)
section MVkindNumber
variable {p : Program} {l : Launch} {e : Env} {R : Room} {s : State} {m : MethodId} {args : Array Value} {below : List Frame} {meth : Method} {c : Code} {H : Heap} {locs : List Loc} {cells slots : Nat} {Q : State → Prop}
variable {cc : ByteArray} {pc nL : Nat} {ls : Array Slot} {rest : List Value} {D : va_G} {cA : Nat → ClassId} {a z0 c0 N index : Nat} {σ : Me} {own ref C : String} {T : u_T}
theorem m_v_kindNumber (X : Cx p m c cc nL s args own D cA) (hw : wS D cA z0 s σ H locs) {post : Int32 → Me → Prop} (h : vkindNumber σ a post) (hl : Cond.methodLink own index ⟨"SendForMore$Rule", "kindNumber", "()I"⟩ ∈ gTab) (hsz : ls.size = nL) {st0 : List Value} (hstk : st0 = ([] : List Value).reverse ++ .ref a :: rest) (hW : (rest.map fun v => v.category).sum ≤ 8) (hdg : decode cc pc = .ok (.invokevirtual index, 3)) (hR : 3 ≤ R.frames ∧ 100 ≤ R.locals ∧ cells ≤ R.cells ∧ slots ≤ R.slots)
    (kk : ∀ (r : Int32) (σ' : Me) (H1 : Heap) (locs1 : List Loc), post r σ' → wS D cA z0 s σ' H1 locs1 → W p l e R s m args below meth c H1 locs1 cells slots Q (F0 m (pc + 3) ls (.int r :: rest))) : W p l e R s m args below meth c H locs cells slots Q (F0 m pc ls st0) := by
  rcases h with ⟨hT, h⟩ | ⟨hT, h⟩ | ⟨hT, h⟩ | ⟨hT, h⟩
  · exact m_ci (m_runA (n := 0) (x := ⟨"SendForMore$Rule", "kindNumber", "()I"⟩) (owner := "SendForMore$Rule") (C := RX0) X hw (tX0_kindNumber h) (gU hl k_466 k_467 k_468 mtX0_kindNumber.2.1 mtX0_kindNumber.1) (List.mem_of_getElem? (i := 0) rfl) (by decide +kernel) cl0 hT ⟨⟨rfl, rfl, Nat.le_trans (by decide) hR.1, Nat.le_trans (by decide) hR.2.1⟩, hR.2.2.1, hR.2.2.2⟩ rfl hsz hstk hW hdg) hw kk
  · exact m_ci (m_runA (n := 0) (x := ⟨"SendForMore$Rule", "kindNumber", "()I"⟩) (owner := "SendForMore$Rule") (C := RX2) X hw (tX2_kindNumber h) (gU hl k_466 k_470 k_471 mtX2_kindNumber.2.1 mtX2_kindNumber.1) (List.mem_of_getElem? (i := 0) rfl) (by decide +kernel) cl2 hT ⟨⟨rfl, rfl, Nat.le_trans (by decide) hR.1, Nat.le_trans (by decide) hR.2.1⟩, hR.2.2.1, hR.2.2.2⟩ rfl hsz hstk hW hdg) hw kk
  · exact m_ci (m_runA (n := 0) (x := ⟨"SendForMore$Rule", "kindNumber", "()I"⟩) (owner := "SendForMore$Rule") (C := RX3) X hw (tX3_kindNumber h) (gU hl k_466 k_473 k_474 mtX3_kindNumber.2.1 mtX3_kindNumber.1) (List.mem_of_getElem? (i := 0) rfl) (by decide +kernel) cl3 hT ⟨⟨rfl, rfl, Nat.le_trans (by decide) hR.1, Nat.le_trans (by decide) hR.2.1⟩, hR.2.2.1, hR.2.2.2⟩ rfl hsz hstk hW hdg) hw kk
  · exact m_ci (m_runA (n := 0) (x := ⟨"SendForMore$Rule", "kindNumber", "()I"⟩) (owner := "SendForMore$Rule") (C := RX9) X hw (tX9_kindNumber h) (gU hl k_466 k_476 k_477 mtX9_kindNumber.2.1 mtX9_kindNumber.1) (List.mem_of_getElem? (i := 0) rfl) (by decide +kernel) cl9 hT ⟨⟨rfl, rfl, Nat.le_trans (by decide) hR.1, Nat.le_trans (by decide) hR.2.1⟩, hR.2.2.1, hR.2.2.2⟩ rfl hsz hstk hW hdg) hw kk
end MVkindNumber
def vtopMark (σ : Me) (a : Nat) (Q : Int32 → Me → Prop) : Prop := (gT σ a = 0 ∧ pX0_topMark σ a Q) ∨ (gT σ a = 2 ∧ pX5_topMark σ a Q) ∨ (gT σ a = 3 ∧ pX0_topMark3 σ a Q) ∨ (gT σ a = 9 ∧ pX5_topMark σ a Q)
section MVtopMark
variable {p : Program} {l : Launch} {e : Env} {R : Room} {s : State} {m : MethodId} {args : Array Value} {below : List Frame} {meth : Method} {c : Code} {H : Heap} {locs : List Loc} {cells slots : Nat} {Q : State → Prop}
variable {cc : ByteArray} {pc nL : Nat} {ls : Array Slot} {rest : List Value} {D : va_G} {cA : Nat → ClassId} {a z0 c0 N index : Nat} {σ : Me} {own ref C : String} {T : u_T}
theorem m_v_topMark (X : Cx p m c cc nL s args own D cA) (hw : wS D cA z0 s σ H locs) {post : Int32 → Me → Prop} (h : vtopMark σ a post) (hl : Cond.methodLink own index ⟨"SendForMore$Rule", "topMark", "()I"⟩ ∈ gTab) (hsz : ls.size = nL) {st0 : List Value} (hstk : st0 = ([] : List Value).reverse ++ .ref a :: rest) (hW : (rest.map fun v => v.category).sum ≤ 8) (hdg : decode cc pc = .ok (.invokevirtual index, 3)) (hR : 3 ≤ R.frames ∧ 100 ≤ R.locals ∧ cells ≤ R.cells ∧ slots ≤ R.slots)
    (kk : ∀ (r : Int32) (σ' : Me) (H1 : Heap) (locs1 : List Loc), post r σ' → wS D cA z0 s σ' H1 locs1 → W p l e R s m args below meth c H1 locs1 cells slots Q (F0 m (pc + 3) ls (.int r :: rest))) : W p l e R s m args below meth c H locs cells slots Q (F0 m pc ls st0) := by
  rcases h with ⟨hT, h⟩ | ⟨hT, h⟩ | ⟨hT, h⟩ | ⟨hT, h⟩
  · exact m_ci (m_runO (n := 0) (x := ⟨"SendForMore$Rule", "topMark", "()I"⟩) (owner := "SendForMore$Rule") (C := RX0) X hw (tX0_topMark h) (gO k_480 hl k_481 k_482 k_483 mtX0_topMark.2.1 mtX0_topMark.1) mtX5_topMark.1 (by decide +kernel) cl0 hT ⟨⟨rfl, rfl, Nat.le_trans (by decide) hR.1, Nat.le_trans (by decide) hR.2.1⟩, hR.2.2.1, hR.2.2.2⟩ rfl hsz hstk hW hdg) hw kk
  · exact m_ci (m_runV X hw (tX5_topMark h) mtX5_topMark hl ⟨k_480, k_485⟩ cl2 hT ⟨⟨rfl, rfl, Nat.le_trans (by decide) hR.1, Nat.le_trans (by decide) hR.2.1⟩, hR.2.2.1, hR.2.2.2⟩ rfl hsz hstk hW hdg) hw kk
  · exact m_ci (m_runO (n := 0) (x := ⟨"SendForMore$Rule", "topMark", "()I"⟩) (owner := "SendForMore$Rule") (C := RX3) X hw (tX0_topMark3 h) (gO k_480 hl k_481 k_486 k_483 mtX0_topMark.2.1 mtX0_topMark.1) mtX5_topMark.1 (by decide +kernel) cl3 hT ⟨⟨rfl, rfl, Nat.le_trans (by decide) hR.1, Nat.le_trans (by decide) hR.2.1⟩, hR.2.2.1, hR.2.2.2⟩ rfl hsz hstk hW hdg) hw kk
  · exact m_ci (m_runV X hw (tX5_topMark h) mtX5_topMark hl ⟨k_480, k_487⟩ cl9 hT ⟨⟨rfl, rfl, Nat.le_trans (by decide) hR.1, Nat.le_trans (by decide) hR.2.1⟩, hR.2.2.1, hR.2.2.2⟩ rfl hsz hstk hW hdg) hw kk
end MVtopMark
def vlowMark (σ : Me) (a : Nat) (Q : Int32 → Me → Prop) : Prop := (gT σ a = 0 ∧ pX5_lowMark σ a Q) ∨ (gT σ a = 2 ∧ pX2_lowMark σ a Q) ∨ (gT σ a = 3 ∧ pX3_lowMark σ a Q) ∨ (gT σ a = 9 ∧ pX5_lowMark σ a Q)
section MVlowMark
variable {p : Program} {l : Launch} {e : Env} {R : Room} {s : State} {m : MethodId} {args : Array Value} {below : List Frame} {meth : Method} {c : Code} {H : Heap} {locs : List Loc} {cells slots : Nat} {Q : State → Prop}
variable {cc : ByteArray} {pc nL : Nat} {ls : Array Slot} {rest : List Value} {D : va_G} {cA : Nat → ClassId} {a z0 c0 N index : Nat} {σ : Me} {own ref C : String} {T : u_T}
theorem m_v_lowMark (X : Cx p m c cc nL s args own D cA) (hw : wS D cA z0 s σ H locs) {post : Int32 → Me → Prop} (h : vlowMark σ a post) (hl : Cond.methodLink own index ⟨"SendForMore$Rule", "lowMark", "()I"⟩ ∈ gTab) (hsz : ls.size = nL) {st0 : List Value} (hstk : st0 = ([] : List Value).reverse ++ .ref a :: rest) (hW : (rest.map fun v => v.category).sum ≤ 8) (hdg : decode cc pc = .ok (.invokevirtual index, 3)) (hR : 3 ≤ R.frames ∧ 100 ≤ R.locals ∧ cells ≤ R.cells ∧ slots ≤ R.slots)
    (kk : ∀ (r : Int32) (σ' : Me) (H1 : Heap) (locs1 : List Loc), post r σ' → wS D cA z0 s σ' H1 locs1 → W p l e R s m args below meth c H1 locs1 cells slots Q (F0 m (pc + 3) ls (.int r :: rest))) : W p l e R s m args below meth c H locs cells slots Q (F0 m pc ls st0) := by
  rcases h with ⟨hT, h⟩ | ⟨hT, h⟩ | ⟨hT, h⟩ | ⟨hT, h⟩
  · exact m_ci (m_runV X hw (tX5_lowMark h) mtX5_lowMark hl ⟨k_490, k_492⟩ cl0 hT ⟨⟨rfl, rfl, Nat.le_trans (by decide) hR.1, Nat.le_trans (by decide) hR.2.1⟩, hR.2.2.1, hR.2.2.2⟩ rfl hsz hstk hW hdg) hw kk
  · exact m_ci (m_runO (n := 0) (x := ⟨"SendForMore$Rule", "lowMark", "()I"⟩) (owner := "SendForMore$Rule") (C := RX2) X hw (tX2_lowMark h) (gO k_490 hl k_491 k_493 k_494 mtX2_lowMark.2.1 mtX2_lowMark.1) mtX5_lowMark.1 (by decide +kernel) cl2 hT ⟨⟨rfl, rfl, Nat.le_trans (by decide) hR.1, Nat.le_trans (by decide) hR.2.1⟩, hR.2.2.1, hR.2.2.2⟩ rfl hsz hstk hW hdg) hw kk
  · exact m_ci (m_runO (n := 0) (x := ⟨"SendForMore$Rule", "lowMark", "()I"⟩) (owner := "SendForMore$Rule") (C := RX3) X hw (tX3_lowMark h) (gO k_490 hl k_491 k_496 k_497 mtX3_lowMark.2.1 mtX3_lowMark.1) mtX5_lowMark.1 (by decide +kernel) cl3 hT ⟨⟨rfl, rfl, Nat.le_trans (by decide) hR.1, Nat.le_trans (by decide) hR.2.1⟩, hR.2.2.1, hR.2.2.2⟩ rfl hsz hstk hW hdg) hw kk
  · exact m_ci (m_runV X hw (tX5_lowMark h) mtX5_lowMark hl ⟨k_490, k_499⟩ cl9 hT ⟨⟨rfl, rfl, Nat.le_trans (by decide) hR.1, Nat.le_trans (by decide) hR.2.1⟩, hR.2.2.1, hR.2.2.2⟩ rfl hsz hstk hW hdg) hw kk
end MVlowMark
def vlotSize (σ : Me) (a : Nat) (Q : Int32 → Me → Prop) : Prop := (gT σ a = 0 ∧ pX5_lotSize σ a Q) ∨ (gT σ a = 2 ∧ pX2_lotSize σ a Q) ∨ (gT σ a = 3 ∧ pX5_lotSize σ a Q) ∨ (gT σ a = 9 ∧ pX5_lotSize σ a Q)
section MVlotSize
variable {p : Program} {l : Launch} {e : Env} {R : Room} {s : State} {m : MethodId} {args : Array Value} {below : List Frame} {meth : Method} {c : Code} {H : Heap} {locs : List Loc} {cells slots : Nat} {Q : State → Prop}
variable {cc : ByteArray} {pc nL : Nat} {ls : Array Slot} {rest : List Value} {D : va_G} {cA : Nat → ClassId} {a z0 c0 N index : Nat} {σ : Me} {own ref C : String} {T : u_T}
theorem m_v_lotSize (X : Cx p m c cc nL s args own D cA) (hw : wS D cA z0 s σ H locs) {post : Int32 → Me → Prop} (h : vlotSize σ a post) (hl : Cond.methodLink own index ⟨"SendForMore$Rule", "lotSize", "()I"⟩ ∈ gTab) (hsz : ls.size = nL) {st0 : List Value} (hstk : st0 = ([] : List Value).reverse ++ .ref a :: rest) (hW : (rest.map fun v => v.category).sum ≤ 8) (hdg : decode cc pc = .ok (.invokevirtual index, 3)) (hR : 3 ≤ R.frames ∧ 100 ≤ R.locals ∧ cells ≤ R.cells ∧ slots ≤ R.slots)
    (kk : ∀ (r : Int32) (σ' : Me) (H1 : Heap) (locs1 : List Loc), post r σ' → wS D cA z0 s σ' H1 locs1 → W p l e R s m args below meth c H1 locs1 cells slots Q (F0 m (pc + 3) ls (.int r :: rest))) : W p l e R s m args below meth c H locs cells slots Q (F0 m pc ls st0) := by
  rcases h with ⟨hT, h⟩ | ⟨hT, h⟩ | ⟨hT, h⟩ | ⟨hT, h⟩
  · exact m_ci (m_runV X hw (tX5_lotSize h) mtX5_lotSize hl ⟨k_502, k_504⟩ cl0 hT ⟨⟨rfl, rfl, Nat.le_trans (by decide) hR.1, Nat.le_trans (by decide) hR.2.1⟩, hR.2.2.1, hR.2.2.2⟩ rfl hsz hstk hW hdg) hw kk
  · exact m_ci (m_runO (n := 0) (x := ⟨"SendForMore$Rule", "lotSize", "()I"⟩) (owner := "SendForMore$Rule") (C := RX2) X hw (tX2_lotSize h) (gO k_502 hl k_503 k_505 k_506 mtX2_lotSize.2.1 mtX2_lotSize.1) mtX5_lotSize.1 (by decide +kernel) cl2 hT ⟨⟨rfl, rfl, Nat.le_trans (by decide) hR.1, Nat.le_trans (by decide) hR.2.1⟩, hR.2.2.1, hR.2.2.2⟩ rfl hsz hstk hW hdg) hw kk
  · exact m_ci (m_runV X hw (tX5_lotSize h) mtX5_lotSize hl ⟨k_502, k_508⟩ cl3 hT ⟨⟨rfl, rfl, Nat.le_trans (by decide) hR.1, Nat.le_trans (by decide) hR.2.1⟩, hR.2.2.1, hR.2.2.2⟩ rfl hsz hstk hW hdg) hw kk
  · exact m_ci (m_runV X hw (tX5_lotSize h) mtX5_lotSize hl ⟨k_502, k_509⟩ cl9 hT ⟨⟨rfl, rfl, Nat.le_trans (by decide) hR.1, Nat.le_trans (by decide) hR.2.1⟩, hR.2.2.1, hR.2.2.2⟩ rfl hsz hstk hW hdg) hw kk
end MVlotSize
def vtableSize (σ : Me) (a : Nat) (Q : Int32 → Me → Prop) : Prop := (gT σ a = 0 ∧ pX5_tableSize σ a Q) ∨ (gT σ a = 2 ∧ pX5_tableSize σ a Q) ∨ (gT σ a = 3 ∧ pX5_tableSize σ a Q) ∨ (gT σ a = 9 ∧ pX9_tableSize σ a Q)
section MVtableSize
variable {p : Program} {l : Launch} {e : Env} {R : Room} {s : State} {m : MethodId} {args : Array Value} {below : List Frame} {meth : Method} {c : Code} {H : Heap} {locs : List Loc} {cells slots : Nat} {Q : State → Prop}
variable {cc : ByteArray} {pc nL : Nat} {ls : Array Slot} {rest : List Value} {D : va_G} {cA : Nat → ClassId} {a z0 c0 N index : Nat} {σ : Me} {own ref C : String} {T : u_T}
theorem m_v_tableSize (X : Cx p m c cc nL s args own D cA) (hw : wS D cA z0 s σ H locs) {post : Int32 → Me → Prop} (h : vtableSize σ a post) (hl : Cond.methodLink own index ⟨"SendForMore$Rule", "tableSize", "()I"⟩ ∈ gTab) (hsz : ls.size = nL) {st0 : List Value} (hstk : st0 = ([] : List Value).reverse ++ .ref a :: rest) (hW : (rest.map fun v => v.category).sum ≤ 8) (hdg : decode cc pc = .ok (.invokevirtual index, 3)) (hR : 3 ≤ R.frames ∧ 100 ≤ R.locals ∧ cells ≤ R.cells ∧ slots ≤ R.slots)
    (kk : ∀ (r : Int32) (σ' : Me) (H1 : Heap) (locs1 : List Loc), post r σ' → wS D cA z0 s σ' H1 locs1 → W p l e R s m args below meth c H1 locs1 cells slots Q (F0 m (pc + 3) ls (.int r :: rest))) : W p l e R s m args below meth c H locs cells slots Q (F0 m pc ls st0) := by
  rcases h with ⟨hT, h⟩ | ⟨hT, h⟩ | ⟨hT, h⟩ | ⟨hT, h⟩
  · exact m_ci (m_runV X hw (tX5_tableSize h) mtX5_tableSize hl ⟨k_512, k_514⟩ cl0 hT ⟨⟨rfl, rfl, Nat.le_trans (by decide) hR.1, Nat.le_trans (by decide) hR.2.1⟩, hR.2.2.1, hR.2.2.2⟩ rfl hsz hstk hW hdg) hw kk
  · exact m_ci (m_runV X hw (tX5_tableSize h) mtX5_tableSize hl ⟨k_512, k_515⟩ cl2 hT ⟨⟨rfl, rfl, Nat.le_trans (by decide) hR.1, Nat.le_trans (by decide) hR.2.1⟩, hR.2.2.1, hR.2.2.2⟩ rfl hsz hstk hW hdg) hw kk
  · exact m_ci (m_runV X hw (tX5_tableSize h) mtX5_tableSize hl ⟨k_512, k_516⟩ cl3 hT ⟨⟨rfl, rfl, Nat.le_trans (by decide) hR.1, Nat.le_trans (by decide) hR.2.1⟩, hR.2.2.1, hR.2.2.2⟩ rfl hsz hstk hW hdg) hw kk
  · exact m_ci (m_runO (n := 0) (x := ⟨"SendForMore$Rule", "tableSize", "()I"⟩) (owner := "SendForMore$Rule") (C := RX9) X hw (tX9_tableSize h) (gO k_512 hl k_513 k_517 k_518 mtX9_tableSize.2.1 mtX9_tableSize.1) mtX5_tableSize.1 (by decide +kernel) cl9 hT ⟨⟨rfl, rfl, Nat.le_trans (by decide) hR.1, Nat.le_trans (by decide) hR.2.1⟩, hR.2.2.1, hR.2.2.2⟩ rfl hsz hstk hW hdg) hw kk
end MVtableSize
def vwants (σ : Me) (a : Nat) (x : Int32) (Q : Int32 → Me → Prop) : Prop := (gT σ a = 0 ∧ pX0_wants σ a x Q) ∨ (gT σ a = 2 ∧ pX2_wants σ a x Q) ∨ (gT σ a = 3 ∧ pX3_wants σ a x Q) ∨ (gT σ a = 9 ∧ pX9_wants σ a x Q)
section MVwants
variable {p : Program} {l : Launch} {e : Env} {R : Room} {s : State} {m : MethodId} {args : Array Value} {below : List Frame} {meth : Method} {c : Code} {H : Heap} {locs : List Loc} {cells slots : Nat} {Q : State → Prop}
variable {cc : ByteArray} {pc nL : Nat} {ls : Array Slot} {rest : List Value} {D : va_G} {cA : Nat → ClassId} {a z0 c0 N index : Nat} {σ : Me} {own ref C : String} {T : u_T}
theorem m_v_wants (X : Cx p m c cc nL s args own D cA) (hw : wS D cA z0 s σ H locs) {x : Int32} {post : Int32 → Me → Prop} (h : vwants σ a x post) (hl : Cond.methodLink own index ⟨"SendForMore$Rule", "wants", "(I)I"⟩ ∈ gTab) (hsz : ls.size = nL) {st0 : List Value} (hstk : st0 = ([.int x] : List Value).reverse ++ .ref a :: rest) (hW : (rest.map fun v => v.category).sum ≤ 8) (hdg : decode cc pc = .ok (.invokevirtual index, 3)) (hR : 3 ≤ R.frames ∧ 100 ≤ R.locals ∧ cells ≤ R.cells ∧ slots ≤ R.slots)
    (kk : ∀ (r : Int32) (σ' : Me) (H1 : Heap) (locs1 : List Loc), post r σ' → wS D cA z0 s σ' H1 locs1 → W p l e R s m args below meth c H1 locs1 cells slots Q (F0 m (pc + 3) ls (.int r :: rest))) : W p l e R s m args below meth c H locs cells slots Q (F0 m pc ls st0) := by
  rcases h with ⟨hT, h⟩ | ⟨hT, h⟩ | ⟨hT, h⟩ | ⟨hT, h⟩
  · exact m_ci (m_runA (n := 1) (x := ⟨"SendForMore$Rule", "wants", "(I)I"⟩) (owner := "SendForMore$Rule") (C := RX0) X hw (tX0_wants h) (gU hl k_534 k_535 k_536 mtX0_wants.2.1 mtX0_wants.1) (List.mem_of_getElem? (i := 1) rfl) (by decide +kernel) cl0 hT ⟨⟨rfl, rfl, Nat.le_trans (by decide) hR.1, Nat.le_trans (by decide) hR.2.1⟩, hR.2.2.1, hR.2.2.2⟩ rfl hsz hstk hW hdg) hw kk
  · exact m_ci (m_runA (n := 1) (x := ⟨"SendForMore$Rule", "wants", "(I)I"⟩) (owner := "SendForMore$Rule") (C := RX2) X hw (tX2_wants h) (gU hl k_534 k_538 k_539 mtX2_wants.2.1 mtX2_wants.1) (List.mem_of_getElem? (i := 1) rfl) (by decide +kernel) cl2 hT ⟨⟨rfl, rfl, Nat.le_trans (by decide) hR.1, Nat.le_trans (by decide) hR.2.1⟩, hR.2.2.1, hR.2.2.2⟩ rfl hsz hstk hW hdg) hw kk
  · exact m_ci (m_runA (n := 1) (x := ⟨"SendForMore$Rule", "wants", "(I)I"⟩) (owner := "SendForMore$Rule") (C := RX3) X hw (tX3_wants h) (gU hl k_534 k_541 k_542 mtX3_wants.2.1 mtX3_wants.1) (List.mem_of_getElem? (i := 1) rfl) (by decide +kernel) cl3 hT ⟨⟨rfl, rfl, Nat.le_trans (by decide) hR.1, Nat.le_trans (by decide) hR.2.1⟩, hR.2.2.1, hR.2.2.2⟩ rfl hsz hstk hW hdg) hw kk
  · exact m_ci (m_runA (n := 1) (x := ⟨"SendForMore$Rule", "wants", "(I)I"⟩) (owner := "SendForMore$Rule") (C := RX9) X hw (tX9_wants h) (gU hl k_534 k_547 k_548 mtX9_wants.2.1 mtX9_wants.1) (List.mem_of_getElem? (i := 1) rfl) (by decide +kernel) cl9 hT ⟨⟨rfl, rfl, Nat.le_trans (by decide) hR.1, Nat.le_trans (by decide) hR.2.1⟩, hR.2.2.1, hR.2.2.2⟩ rfl hsz hstk hW hdg) hw kk
end MVwants
