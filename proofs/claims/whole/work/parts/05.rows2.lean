/-! New cells, references, calls, ends. -/
theorem gT_nw_self (σ : Me) (t n : Nat) : gT (nw σ t n) (gz σ) = t := by simp [gT, gz, nw, va_up]
theorem gN_nw_self (σ : Me) (t n : Nat) : gN (nw σ t n) (gz σ) = n := by simp [gN, gz, nw, va_up]
theorem gT_nw {σ : Me} {t n q : Nat} (h : q ≠ gz σ) : gT (nw σ t n) q = gT σ q := by simp only [gz] at h; simp [gT, nw, va_up, h]
theorem gN_nw {σ : Me} {t n q : Nat} (h : q ≠ gz σ) : gN (nw σ t n) q = gN σ q := by simp only [gz] at h; simp [gN, nw, va_up, h]
theorem gI_nw {σ : Me} {t n q : Nat} (h : q ≠ gz σ) (j : Nat) : gI (nw σ t n) q j = gI σ q j := by simp only [gz] at h; simp [gI, nw, va_up, h]
theorem gL_nw {σ : Me} {t n q : Nat} (h : q ≠ gz σ) (j : Nat) : gL (nw σ t n) q j = gL σ q j := by simp only [gz] at h; simp [gL, nw, va_up, h]
theorem gP_nw {σ : Me} {t n q : Nat} (h : q ≠ gz σ) (j : Nat) : gP (nw σ t n) q j = gP σ q j := by simp only [gz] at h; simp [gP, nw, va_up, h]
theorem gI_nw_self (σ : Me) (t n j : Nat) : gI (nw σ t n) (gz σ) j = 0 := by simp [gI, gz, nw, va_up]
theorem gL_nw_self (σ : Me) (t n j : Nat) : gL (nw σ t n) (gz σ) j = 0 := by simp [gL, gz, nw, va_up]
theorem gP_nw_self (σ : Me) (t n j : Nat) : gP (nw σ t n) (gz σ) j = none := by simp [gP, gz, nw, va_up]
theorem gz_nw (σ : Me) (t n : Nat) : gz (nw σ t n) = gz σ + 1 := rfl
theorem fv_zero (t : FieldType) (h : kd t < 3) (σ : Me) (c n k : Nat) : fv (kd t) (nw σ c n) (gz σ) k = defaultValue t := by
  cases t <;> first | (simp [kd] at h; done) | (simp [kd, fv, gI_nw_self, gL_nw_self, gP_nw_self, va_rf, defaultValue]; done) | (simp [kd, fv, gI_nw_self, gL_nw_self, gP_nw_self, va_rf, defaultValue]; rfl)
theorem wd_new {D : va_G} {cA : Nat → ClassId} {z0 t n : Nat} {σ : Me} {H H' : Heap} (hw : wd D cA z0 σ H) (hz : H'.size = H.size + 1) (ho : ∀ q, q < H.size → H'[q]? = H[q]?) (hc : cel D cA (nw σ t n) (gz σ) H') : wd D cA z0 (nw σ t n) H' := by
  refine ⟨by rw [hz, hw.1]; rfl, by rw [gz_nw]; have := hw.2.1; omega, fun q hq => ?_⟩
  by_cases e : q = gz σ
  · subst e
    exact ⟨hw.2.1, by rw [gz_nw]; omega, hc⟩
  · rw [gT_nw e] at hq
    obtain ⟨h1, h2, h3⟩ := hw.2.2 q hq
    exact ⟨h1, by rw [gz_nw]; omega, cel_same h3 (gT_nw e) (gN_nw e) (gI_nw e) (gL_nw e) (gP_nw e) (ho q (by rw [hw.1]; exact h2))⟩
theorem va_S_new {z0 : Nat} {H0 H H' : Heap} {locs : List Loc} (h : va_S (fun q => z0 ≤ q) H0 H locs) (hz : H'.size = H.size + 1) (ho : ∀ q, q < H.size → H'[q]? = H[q]?) : va_S (fun q => z0 ≤ q) H0 H' locs :=
  ⟨by rw [hz]; have := h.1; omega, fun q h1 h2 => (ho q (Nat.lt_of_lt_of_le h1 h.1)).trans (h.2.1 q h1 h2), h.2.2⟩
/-- a method's start and ends over a memory -/
def PcM (D : va_G) (cA : Nat → ClassId) (z0 : Nat) (σ : Me) (av : List Value) : Array Value → State → Prop := va_Pc av (fun U => wd D cA z0 σ U.heap ∧ KN D cA U)
abbrev BM (D : va_G) (cA : Nat → ClassId) (z0 : Nat) : Me → State → Prop := fun σ' t => wd D cA z0 σ' t.heap
abbrev AM (z0 : Nat) : Nat → Prop := fun q => z0 ≤ q
theorem KN_same {D : va_G} {cA : Nat → ClassId} {u U : State} (hv : u.vm = U.vm) (h : KN D cA u) : KN D cA U := by
  obtain ⟨h1, h2, h3, h4, h5, h6⟩ := h
  have ha : u.vm.Alike U.vm := by rw [hv]; exact Vm.Alike.refl _
  have n1 : ∀ w ∈ nestW, w.onTables = true := by unfold nestW; simp [Cond.onTables]
  have n2 : ∀ w ∈ declW, w.onTables = true := by unfold declW; simp [Cond.onTables]
  have n3 : ∀ w ∈ castW, w.onTables = true := by unfold castW; simp [Cond.onTables]
  exact ⟨va_K.moved ha h1, fun w hw => va_Nw.same (n1 w hw) hv (h2 w hw), fun w hw => va_Nw.same (n2 w hw) hv (h3 w hw), fun w hw => va_Nw.same (n3 w hw) hv (h4 w hw), fun q hq => va_Nc.moved ha (h5 q hq), by rw [← hv]; exact h6⟩
theorem PcM.blind {D : va_G} {cA : Nat → ClassId} {z0 : Nat} {σ : Me} {av : List Value} : FrameBlind (PcM D cA z0 σ av) := by
  intro a U g mk q
  obtain ⟨q0, q1, q2⟩ := q
  exact ⟨q0, q1, KN_same (u := U) (U := U.calling g mk a) rfl q2⟩
/-- a method that is called: its code is among the words, its class is ready -/
def Mth (y : MethodName) (bytes : ByteArray) (maxL : Nat) (ret : Option FieldType) (n : Nat) : Prop := Cond.code y bytes maxL ret ∈ gTab ∧ Cond.initialized y.cls ∈ gTab ∧ (y.cls ≠ "java/lang/invoke/MethodHandle" ∧ y.cls ≠ "java/lang/invoke/VarHandle" ∧ (parseMethodDescriptor y.desc).map (fun d => d.parameters.length) = some n)
def fitR (rm R : Room) (maxL mc ms cells slots : Nat) : Prop := (rm.cells = mc ∧ rm.slots = ms ∧ rm.frames + 1 ≤ R.frames ∧ 8 + (maxL + 11) + rm.locals ≤ R.locals) ∧ cells + mc ≤ R.cells ∧ slots + ms ≤ R.slots
section MC
variable {p : Program} {l : Launch} {e : Env} {R : Room} {s : State} {m : MethodId} {args : Array Value} {below : List Frame} {meth : Method} {c : Code} {H : Heap} {locs : List Loc} {cells slots : Nat} {Q : State → Prop}
variable {cc : ByteArray} {pc nL : Nat} {ls : Array Slot} {rest : List Value} {D : va_G} {cA : Nat → ClassId} {a z0 c0 N index : Nat} {σ : Me} {own ref C : String} {T : u_T}
theorem m_new (X : Cx p m c cc nL s args own D cA) (hw : wS D cA z0 s σ H locs) (K : Cls c0 C T N) (hkd : ∀ k, k < N → kd (tyC c0 k) < 3) (hcl : Cond.classLink own index C ∈ gTab) (hinst : Cond.instantiable C N ∈ gTab) (hini : Cond.initialized C ∈ gTab) (hcells : cells + 1 ≤ R.cells ∧ slots + N ≤ R.slots) (hdg : decode cc pc = .ok (.new index, 3))
    (kk : ∀ (H1 : Heap), wS D cA z0 s (nw σ c0 0) H1 locs → W p l e R s m args below meth c H1 locs (cells + 1) (slots + N) Q (F0 m (pc + 3) ls (.ref (gz σ) :: rest))) : W p l e R s m args below meth c H locs cells slots Q (F0 m pc ls rest) := by
  obtain ⟨⟨hx, hb, hml, hown, hts⟩, hK⟩ := X
  have hKn := hK.1.1 c0 _ K.1
  refine W.newcK hx hb hown (hts _ hcl) (hts _ hinst) (hts _ hini) rfl hdg hcells.1 hcells.2 hKn.2.1 hw.1.1 fun H1 kC hkC e1 z1 o1 => ?_
  refine kk H1 ⟨wd_new hw.1 (by rw [z1, hw.1.1]) (fun q hq => o1 q (by rw [← hw.1.1]; exact hq)) ⟨fun h => ?_, fun h => ?_⟩, va_S_new hw.2 (by rw [z1, hw.1.1]) (fun q hq => o1 q (by rw [← hw.1.1]; exact hq))⟩
  · rw [gT_nw_self]
    exact ⟨_, K.1, (u_born (tyC c0) hts K.2.1 hKn hkC e1 K.2.2.1).to (fun j hj => (fv_zero _ (hkd j hj) σ c0 0 j).symm)⟩
  · rw [gT_nw_self] at h
    have := K.2.2.2.2
    omega
theorem m_newa (X : Cx p m c cc nL s args own D cA) (hw : wS D cA z0 s σ H locs) {t : Nat} (ht : t < 4) {atype : ArrayType} (hty : newarray.typeOf atype = tyA t) (harr : Cond.arrayClass (tyA t) ∈ gTab) {n : Int32} {N' : Nat} (hn : ¬ n < 0) (hN : n.toNatClampNeg = N') (hbytes : N' * componentBytes (tyA t) ≤ 536870912) (hcells : cells + 1 ≤ R.cells ∧ slots + N' ≤ R.slots) (hdg : decode cc pc = .ok (.newarray atype, 2))
    (kk : ∀ (H1 : Heap), wS D cA z0 s (nw σ (20 + t) N') H1 locs → W p l e R s m args below meth c H1 locs (cells + 1) (slots + N') Q (F0 m (pc + 2) ls (.ref (gz σ) :: rest))) : W p l e R s m args below meth c H locs cells slots Q (F0 m pc ls (.int n :: rest)) := by
  obtain ⟨⟨hx, hb, hml, hown, hts⟩, hK⟩ := X
  refine va_newaK hx hb (by rw [hty]; exact hts _ harr) rfl hdg rfl hn hN (by rw [hty]; exact hbytes) hcells.1 hcells.2 hw.1.1 fun H1 cA1 e1 z1 o1 hAr hNm => ?_
  have hcA : cA1 = cA t := by
    have h := (arr_ty hK t (by omega)).2
    rw [hty] at hNm
    have h2 : s.vm.findClass ("[" ++ (tyA t).toString) = some (cA t) := by
      match t, ht, h with
      | 0, _, h => exact h
      | 1, _, h => exact h
      | 2, _, h => exact h
      | 3, _, h => exact h
    exact Option.some.inj (hNm.symm.trans h2)
  subst hcA
  refine kk H1 ⟨wd_new hw.1 (by rw [z1, hw.1.1]) (fun q hq => o1 q (by rw [← hw.1.1]; exact hq)) ⟨fun h => ?_, fun h => ?_⟩, va_S_new hw.2 (by rw [z1, hw.1.1]) (fun q hq => o1 q (by rw [← hw.1.1]; exact hq))⟩
  · rw [gT_nw_self] at h
    omega
  · rw [gT_nw_self, gN_nw_self, Nat.add_sub_cancel_left, e1, hty]
    congr 2
    funext k
    refine (fv_zero (tyA t) ?_ σ _ _ k).symm
    match t, ht with
    | 0, _ => decide
    | 1, _ => decide
    | 2, _ => decide
    | 3, _ => decide
theorem m_newq (X : Cx p m c cc nL s args own D cA) (hw : wS D cA z0 s σ H locs) {t : Nat} (ht : tyA t = .object C) (ht7 : t < 7) (hcl : Cond.classLink own index C ∈ gTab) (hover : va_AO C s) {n : Int32} {N' : Nat} (hn : ¬ n < 0) (hN : n.toNatClampNeg = N') (hbytes : N' * 4 ≤ 536870912) (hcells : cells + 1 ≤ R.cells ∧ slots + N' ≤ R.slots) (hdg : decode cc pc = .ok (.anewarray index, 3))
    (kk : ∀ (H1 : Heap), wS D cA z0 s (nw σ (20 + t) N') H1 locs → W p l e R s m args below meth c H1 locs (cells + 1) (slots + N') Q (F0 m (pc + 3) ls (.ref (gz σ) :: rest))) : W p l e R s m args below meth c H locs cells slots Q (F0 m pc ls (.int n :: rest)) := by
  obtain ⟨⟨hx, hb, hml, hown, hts⟩, hK⟩ := X
  subst hN
  refine W.anew hx hb hown (hts _ hcl) (va_AO.use hover) rfl hdg rfl hn hbytes hcells.1 hcells.2 fun cA1 kA comp f1 f2 f3 f4 => ?_
  have hcA : cA1 = cA t := by
    have h := (arr_ty hK t ht7).2
    rw [ht] at h
    obtain ⟨_, _, _, _, _, h4⟩ := h
    exact Option.some.inj (f1.symm.trans h4)
  subst hcA
  generalize hH1 : H.push ({ cls := cA t, slots := Array.replicate n.toNatClampNeg .null, vm := .none } : Cell) = H1
  have z1 : H1.size = H.size + 1 := by rw [← hH1, Array.size_push]
  have e1 : H1[H.size]? = some (arrV (cA t) n.toNatClampNeg (fun _ => .null)) := by rw [← hH1, Array.getElem?_push_size, ← arrV_new]
  have o1 : ∀ q : Nat, q < H.size → H1[q]? = H[q]? := fun q hq => by rw [← hH1, Array.getElem?_push, if_neg (Nat.ne_of_lt hq)]
  rw [hw.1.1] at e1 ⊢
  refine kk H1 ⟨wd_new hw.1 z1 o1 ⟨fun h => ?_, fun h => ?_⟩, va_S_new hw.2 z1 o1⟩
  · rw [gT_nw_self] at h
    omega
  · rw [gT_nw_self, gN_nw_self, Nat.add_sub_cancel_left, e1]
    congr 2
    funext k
    have := fv_zero (tyA t) (by rw [ht]; show (2 : Nat) < 3; omega) σ (20 + t) n.toNatClampNeg k
    rw [this, ht]
    rfl
/-- the cell of a known class, as a receiver -/
theorem m_recv (hK : KN D cA s) (hw : wS D cA z0 s σ H locs) (K : Cls c0 C T N) (hT : gT σ a = c0) : ∃ cell : Cell, H[a]? = some cell ∧ cell.vm.isStatics = false ∧ s.vm.findClass C = some cell.cls := by
  obtain ⟨-, -, cell, q1, q2, q3, q4⟩ := wd_obj hw.1 K hT
  exact ⟨cell, q1, by rw [q3]; rfl, by rw [q2]; exact (hK.1.1 c0 _ K.1).2.1⟩
theorem m_pre {av : List Value} (hK : KN D cA s) (hw : wS D cA z0 s σ H locs) : ∀ U : State, U.heap = H → s.WarmedH U.vm → PcM D cA z0 σ av av.toArray U := fun U hU hW => ⟨rfl, by rw [hU]; exact hw.1, KN.warm hW hK⟩
variable {y : MethodName} {bytes : ByteArray} {maxL mc ms n : Nat} {ret : Option FieldType} {rm : Room} {As st0 : List Value} {b : Nat}
theorem m_callB (X : Cx p m c cc nL s args own D cA) (M : Mth y bytes maxL ret n) (hl : Cond.methodLink own index y ∈ gTab) (hR : fitR rm R maxL mc ms cells slots) : CallB R s args own index y bytes maxL ret (Cond.code y bytes maxL ret :: gTab) rm mc ms n :=
  callB_of n X.1.2.2.2.2 (gTab_call M.1) rfl hR.1.1 hR.1.2.1 (X.1.2.2.2.2 _ M.2.1) (X.1.2.2.2.2 _ hl) M.2.2 ⟨hR.1.2.2.1, hR.1.2.2.2⟩
theorem m_runS {Qc : Array Value → State → Outcome → State → Prop} (X : Cx p m c cc nL s args own D cA) (hw : wS D cA z0 s σ H locs) (hM : Met l y (Cond.code y bytes maxL ret :: gTab) rm (PcM D cA z0 σ As) Qc mc ms (AM z0)) (M : Mth y bytes maxL ret n) (hl : Cond.methodLink own index y ∈ gTab) (hst : Cond.static y ∈ gTab) (hR : fitR rm R maxL mc ms cells slots) (hn : As.length = n) (hsz : ls.size = nL) (hstk : st0 = As.reverse ++ rest) (hW : (rest.map fun v => v.category).sum ≤ 8) (hdg : decode cc pc = .ok (.invokestatic index, 3)) :
    va_Run p l e R s m args below meth c H locs cells slots mc ms (F0 m pc ls st0) rest (Qc As.toArray) (AM z0) :=
  va_runS X.1 hM ⟨m_callB X M hl hR, X.1.2.2.2.2 _ hst⟩ ⟨PcM.blind, m_pre X.2 hw⟩ rfl hn hsz hstk (lv_room hW) hdg hR.2
theorem m_runV {Qc : Array Value → State → Outcome → State → Prop} (X : Cx p m c cc nL s args own D cA) (hw : wS D cA z0 s σ H locs) (hM : Met l y (Cond.code y bytes maxL ret :: gTab) rm (PcM D cA z0 σ (.ref b :: As)) Qc mc ms (AM z0)) (M : Mth y bytes maxL ret n) (hl : Cond.methodLink own index y ∈ gTab) (hin : Cond.instanceMethod y ∈ gTab ∧ Cond.selects C y y ∈ gTab) (K : Cls c0 C T N) (hT : gT σ b = c0) (hR : fitR rm R maxL mc ms cells slots) (hn : As.length = n) (hsz : ls.size = nL) (hstk : st0 = As.reverse ++ .ref b :: rest) (hW : (rest.map fun v => v.category).sum ≤ 8) (hdg : decode cc pc = .ok (.invokevirtual index, 3)) :
    va_Run p l e R s m args below meth c H locs cells slots mc ms (F0 m pc ls st0) rest (Qc (Value.ref b :: As).toArray) (AM z0) :=
  va_runV (C := C) X.1 hM ⟨m_callB X M hl hR, X.1.2.2.2.2 _ hin.1, X.1.2.2.2.2 _ hin.2⟩ ⟨PcM.blind, m_recv X.2 hw K hT, m_pre X.2 hw⟩ rfl hn hsz hstk (lv_room hW) hdg hR.2
theorem m_runI {Qc : Array Value → State → Outcome → State → Prop} (X : Cx p m c cc nL s args own D cA) (hw : wS D cA z0 s σ H locs) (hM : Met l y (Cond.code y bytes maxL none :: gTab) rm (PcM D cA z0 σ (.ref b :: As)) Qc mc ms (AM z0)) (M : Mth y bytes maxL none n) (hl : Cond.methodLink own index y ∈ gTab) (hin : Cond.instanceMethod y ∈ gTab) (hy1 : y.name = "<init>") (hR : fitR rm R maxL mc ms cells slots) (hn : As.length = n) (hsz : ls.size = nL) (hstk : st0 = As.reverse ++ .ref b :: rest) (hW : (rest.map fun v => v.category).sum ≤ 8) (hdg : decode cc pc = .ok (.invokespecial index, 3)) :
    va_Run p l e R s m args below meth c H locs cells slots mc ms (F0 m pc ls st0) rest (Qc (Value.ref b :: As).toArray) (AM z0) :=
  va_runI X.1 hM ⟨m_callB X M hl hR, hy1, X.1.2.2.2.2 _ hin⟩ ⟨PcM.blind, m_pre X.2 hw⟩ rfl hn hsz hstk (lv_room hW) hdg hR.2
theorem m_callN {host : String} (X : Cx p m c cc nL s args own D cA) (M : Mth y bytes maxL ret n) (hl : Cond.methodLinkNest own index y host ∈ nestW) (hR : fitR rm R maxL mc ms cells slots) : va_CN R s args own index y host bytes maxL ret (Cond.code y bytes maxL ret :: gTab) rm mc ms n :=
  va_cnB n X.1.2.2.2.2 (gTab_call M.1) rfl hR.1.1 hR.1.2.1 (X.2.2.1 _ hl) (X.1.2.2.2.2 _ M.2.1) M.2.2 ⟨hR.1.2.2.1, hR.1.2.2.2⟩
theorem m_runSN {host : String} {Qc : Array Value → State → Outcome → State → Prop} (X : Cx p m c cc nL s args own D cA) (hw : wS D cA z0 s σ H locs) (hM : Met l y (Cond.code y bytes maxL ret :: gTab) rm (PcM D cA z0 σ As) Qc mc ms (AM z0)) (M : Mth y bytes maxL ret n) (hl : Cond.methodLinkNest own index y host ∈ nestW) (hst : Cond.static y ∈ gTab) (hR : fitR rm R maxL mc ms cells slots) (hn : As.length = n) (hsz : ls.size = nL) (hstk : st0 = As.reverse ++ rest) (hW : (rest.map fun v => v.category).sum ≤ 8) (hdg : decode cc pc = .ok (.invokestatic index, 3)) :
    va_Run p l e R s m args below meth c H locs cells slots mc ms (F0 m pc ls st0) rest (Qc As.toArray) (AM z0) :=
  va_runSN X.1 hM ⟨m_callN X M hl hR, X.1.2.2.2.2 _ hst, trivial⟩ ⟨PcM.blind, m_pre X.2 hw⟩ rfl hn hsz hstk (lv_room hW) hdg hR.2
theorem m_runIN {host : String} {Qc : Array Value → State → Outcome → State → Prop} (X : Cx p m c cc nL s args own D cA) (hw : wS D cA z0 s σ H locs) (hM : Met l y (Cond.code y bytes maxL none :: gTab) rm (PcM D cA z0 σ (.ref b :: As)) Qc mc ms (AM z0)) (M : Mth y bytes maxL none n) (hl : Cond.methodLinkNest own index y host ∈ nestW) (hin : Cond.instanceMethod y ∈ gTab) (hy1 : y.name = "<init>") (hR : fitR rm R maxL mc ms cells slots) (hn : As.length = n) (hsz : ls.size = nL) (hstk : st0 = As.reverse ++ .ref b :: rest) (hW : (rest.map fun v => v.category).sum ≤ 8) (hdg : decode cc pc = .ok (.invokespecial index, 3)) :
    va_Run p l e R s m args below meth c H locs cells slots mc ms (F0 m pc ls st0) rest (Qc (Value.ref b :: As).toArray) (AM z0) :=
  va_runIN X.1 hM ⟨m_callN X M hl hR, hy1, X.1.2.2.2.2 _ hin⟩ ⟨PcM.blind, m_pre X.2 hw⟩ rfl hn hsz hstk (lv_room hW) hdg hR.2
theorem m_ci {post : Int32 → Me → Prop} {av : Array Value} (hr : va_Run p l e R s m args below meth c H locs cells slots mc ms (F0 m pc ls st0) rest (va_Qi post (BM D cA z0) (AM z0) av) (AM z0)) (hw : wS D cA z0 s σ H locs)
    (kk : ∀ (r : Int32) (σ' : Me) (H1 : Heap) (locs1 : List Loc), post r σ' → wS D cA z0 s σ' H1 locs1 → W p l e R s m args below meth c H1 locs1 (cells + mc) (slots + ms) Q (F0 m (pc + 3) ls (.int r :: rest))) : W p l e R s m args below meth c H locs cells slots Q (F0 m pc ls st0) :=
  va_calli hr hw.2 (fun _ _ h => h) (fun _ h => h) fun r u t H1 locs1 ht _ hp hB _ _ hS => kk r u H1 locs1 hp ⟨by rw [← ht]; exact hB, hS⟩
theorem m_cl {post : Int64 → Me → Prop} {av : Array Value} (hr : va_Run p l e R s m args below meth c H locs cells slots mc ms (F0 m pc ls st0) rest (va_Ql post (BM D cA z0) (AM z0) av) (AM z0)) (hw : wS D cA z0 s σ H locs)
    (kk : ∀ (r : Int64) (σ' : Me) (H1 : Heap) (locs1 : List Loc), post r σ' → wS D cA z0 s σ' H1 locs1 → W p l e R s m args below meth c H1 locs1 (cells + mc) (slots + ms) Q (F0 m (pc + 3) ls (.long r :: rest))) : W p l e R s m args below meth c H locs cells slots Q (F0 m pc ls st0) :=
  va_calll hr hw.2 (fun _ _ h => h) (fun _ h => h) fun r u t H1 locs1 ht _ hp hB _ _ hS => kk r u H1 locs1 hp ⟨by rw [← ht]; exact hB, hS⟩
theorem m_cv {post : Me → Prop} {av : Array Value} (hr : va_Run p l e R s m args below meth c H locs cells slots mc ms (F0 m pc ls st0) rest (va_Qv post (BM D cA z0) (AM z0) av) (AM z0)) (hw : wS D cA z0 s σ H locs)
    (kk : ∀ (σ' : Me) (H1 : Heap) (locs1 : List Loc), post σ' → wS D cA z0 s σ' H1 locs1 → W p l e R s m args below meth c H1 locs1 (cells + mc) (slots + ms) Q (F0 m (pc + 3) ls rest)) : W p l e R s m args below meth c H locs cells slots Q (F0 m pc ls st0) :=
  va_callv hr hw.2 (fun _ _ h => h) (fun _ h => h) fun u t H1 locs1 ht _ hp hB _ _ hS => kk u H1 locs1 hp ⟨by rw [← ht]; exact hB, hS⟩
-- null or not
theorem m_aloadQ_n (X : Cx p m c cc nL s args own D cA) {k : Fin 4} {i : Nat} {x : Option Nat} (hdg : decode cc pc = .ok (.aload_n k, 1)) (hi : (k : Nat) = i) (hl : ls[i]? = some (.val (va_rf x))) (kk : W p l e R s m args below meth c H locs cells slots Q (F0 m (pc + 1) ls (va_rf x :: rest))) : W p l e R s m args below meth c H locs cells slots Q (F0 m pc ls rest) := by
  cases x with
  | none => exact lv_aload_nN X.1.1 X.1.2.1 hdg hi hl kk
  | some b => exact lv_aload_n X.1.1 X.1.2.1 hdg hi hl kk
theorem m_aloadQ (X : Cx p m c cc nL s args own D cA) {i : Nat} {x : Option Nat} (hdg : decode cc pc = .ok (.aload i, 2)) (hl : ls[i]? = some (.val (va_rf x))) (kk : W p l e R s m args below meth c H locs cells slots Q (F0 m (pc + 2) ls (va_rf x :: rest))) : W p l e R s m args below meth c H locs cells slots Q (F0 m pc ls rest) := by
  cases x with
  | none => exact lv_aloadN X.1.1 X.1.2.1 hdg hl kk
  | some b => exact lv_aload X.1.1 X.1.2.1 hdg hl kk
theorem m_astoreQ_n (X : Cx p m c cc nL s args own D cA) {k : Fin 4} {i nL' : Nat} {x : Option Nat} {lv lv' : List (Nat × Value)} (hdg : decode cc pc = .ok (.astore_n k, 1)) (hi : (k : Nat) = i) (h : lv_has ls nL' lv) (hn : i < nL') (hl : (i, va_rf x) :: lv.filter (fun q => !(q.1 == i) && !(q.1 + 1 == i && q.2.category == 2)) = lv') (kk : ∀ ls' : Array Slot, lv_has ls' nL' lv' → W p l e R s m args below meth c H locs cells slots Q (F0 m (pc + 1) ls' rest)) : W p l e R s m args below meth c H locs cells slots Q (F0 m pc ls (va_rf x :: rest)) := by
  cases x with
  | none => exact lv_astore_nN X.1.1 X.1.2.1 hdg hi h hn hl kk
  | some b => exact lv_astore_n X.1.1 X.1.2.1 hdg hi h hn hl kk
theorem m_ifnonnull (X : Cx p m c cc nL s args own D cA) {x : Option Nat} {off : Int} {tgt : Nat} (hdg : decode cc pc = .ok (.ifnonnull off, 3)) (ht : (pc : Int) + off = (tgt : Int)) (ks : ∀ b, x = some b → W p l e R s m args below meth c H locs cells slots Q (F0 m tgt ls rest)) (kn : x = none → W p l e R s m args below meth c H locs cells slots Q (F0 m (pc + 3) ls rest)) : W p l e R s m args below meth c H locs cells slots Q (F0 m pc ls (va_rf x :: rest)) := by
  cases x with
  | none => exact lv_ifnonnullN X.1.1 X.1.2.1 hdg (kn rfl)
  | some b => exact lv_ifnonnull X.1.1 X.1.2.1 hdg ht (ks b rfl)
theorem m_ifnull (X : Cx p m c cc nL s args own D cA) {x : Option Nat} {off : Int} {tgt : Nat} (hdg : decode cc pc = .ok (.ifnull off, 3)) (ht : (pc : Int) + off = (tgt : Int)) (kn : x = none → W p l e R s m args below meth c H locs cells slots Q (F0 m tgt ls rest)) (ks : ∀ b, x = some b → W p l e R s m args below meth c H locs cells slots Q (F0 m (pc + 3) ls rest)) : W p l e R s m args below meth c H locs cells slots Q (F0 m pc ls (va_rf x :: rest)) := by
  cases x with
  | none => exact lv_ifnullN X.1.1 X.1.2.1 hdg ht (kn rfl)
  | some b => exact lv_ifnull X.1.1 X.1.2.1 hdg (ks b rfl)
/-- a store of an object of the array's own class (Books: 24, class 1) -/
theorem m_aastB (X : Cx p m c cc nL s args own D cA) (hw : wS D cA z0 s σ H locs) (hT : gT σ a = 24) {i : Int32} {v : Nat} (hv : gT σ v = 1) (hin : vp_in i (gN σ a)) (hdg : decode cc pc = .ok (.aastore, 1))
    (kk : ∀ (H1 : Heap) (locs1 : List Loc), wS D cA z0 s (sP σ a i.toNatClampNeg (some v)) H1 locs1 → W p l e R s m args below meth c H1 locs1 cells slots Q (F0 m (pc + 1) ls rest)) : W p l e R s m args below meth c H locs cells slots Q (F0 m pc ls (.ref v :: .int i :: .ref a :: rest)) := by
  obtain ⟨⟨hx, hb, hml, hown, hts⟩, hK⟩ := X
  obtain ⟨h1, h2, h3⟩ := wd_arr (t := 4) hw.1 hT (by omega)
  have hlt : i.toNatClampNeg < gN σ a := Nat.not_le.mp fun q => hin (Or.inr q)
  have h0 : ¬ i < 0 := fun q => hin (Or.inl q)
  obtain ⟨-, -, cellV, g1, g2, g3, -⟩ := wd_obj hw.1 cl1 hv
  have hcls := (hK.1.1 1 _ cl1.1).2
  obtain ⟨kA, comp, k1, k2, k3, -⟩ := (arr_ty hK 4 (by omega)).2
  have hcomp : comp = D.1 1 := Option.some.inj (k3.symm.trans hcls.1)
  subst hcomp
  obtain ⟨kC, hkC, -⟩ := hcls.2
  refine W.aast hx hb h3 (fun q h => by cases h) (fun h => by cases h) k1 k2 rfl hkC ⟨h0, by rw [arrV_size]; exact hlt⟩ g1 (fun q h => by rw [g3] at h; cases h) (by rw [g2]; exact hkC) (by rw [g2]; exact va_assign hcls) rfl rfl hdg fun H' e1 e2 e3 => ?_
  exact kk H' _ (wd_ast (t := 4) hw (by omega) hT rfl (fun _ => rfl) (fun _ => rfl) (fun _ _ _ => rfl) (fun _ _ _ => rfl) (fun _ _ h => up2_ne h) (fv_sP (κ := fun _ => 2) rfl) e1 e2 e3)
theorem m_aastN (X : Cx p m c cc nL s args own D cA) (hw : wS D cA z0 s σ H locs) (hT : gT σ a = 25) {i : Int32} (hin : vp_in i (gN σ a)) (hdg : decode cc pc = .ok (.aastore, 1))
    (kk : ∀ (H1 : Heap) (locs1 : List Loc), wS D cA z0 s (sP σ a i.toNatClampNeg none) H1 locs1 → W p l e R s m args below meth c H1 locs1 cells slots Q (F0 m (pc + 1) ls rest)) : W p l e R s m args below meth c H locs cells slots Q (F0 m pc ls (.null :: .int i :: .ref a :: rest)) := by
  obtain ⟨⟨hx, hb, hml, hown, hts⟩, hK⟩ := X
  obtain ⟨h1, h2, h3⟩ := wd_arr (t := 5) hw.1 hT (by omega)
  refine va_WaastN (C := "SendForMore$Rule") hx hb h3 ((arr_ty hK 5 (by omega)).1 _ _) (fun h => by cases h) (by rw [arrV_size]; exact hin) rfl rfl hdg fun H' e1 e2 e3 => ?_
  exact kk H' _ (wd_ast (t := 5) (v := .null) hw (by omega) hT rfl (fun _ => rfl) (fun _ => rfl) (fun _ _ _ => rfl) (fun _ _ _ => rfl) (fun _ _ h => up2_ne h) (fv_sP (κ := fun _ => 2) (v := none) rfl) e1 e2 e3)
/-- a store of a Rule (Base 0, Lot 2, Pair 3, Table 9) -/
theorem m_aastR (X : Cx p m c cc nL s args own D cA) (hw : wS D cA z0 s σ H locs) (hT : gT σ a = 25) {i : Int32} {v : Nat} (K : Cls c0 C T N) (hc : Cond.castable C "SendForMore$Rule" ∈ castW) (hv : gT σ v = c0) (hin : vp_in i (gN σ a)) (hdg : decode cc pc = .ok (.aastore, 1))
    (kk : ∀ (H1 : Heap) (locs1 : List Loc), wS D cA z0 s (sP σ a i.toNatClampNeg (some v)) H1 locs1 → W p l e R s m args below meth c H1 locs1 cells slots Q (F0 m (pc + 1) ls rest)) : W p l e R s m args below meth c H locs cells slots Q (F0 m pc ls (.ref v :: .int i :: .ref a :: rest)) := by
  obtain ⟨⟨hx, hb, hml, hown, hts⟩, hK⟩ := X
  obtain ⟨h1, h2, h3⟩ := wd_arr (t := 5) hw.1 hT (by omega)
  have hlt : i.toNatClampNeg < gN σ a := Nat.not_le.mp fun q => hin (Or.inr q)
  have h0 : ¬ i < 0 := fun q => hin (Or.inl q)
  obtain ⟨-, -, cellV, g1, g2, g3, -⟩ := wd_obj hw.1 K hv
  have hcls := (hK.1.1 c0 _ K.1).2
  obtain ⟨kA, comp, k1, k2, k3, -⟩ := (arr_ty hK 5 (by omega)).2
  obtain ⟨cS, cT, f1, f2, f3⟩ := Cond.castable_spec (va_Nw.use (A := args) rfl (hK.2.2.2.1 _ hc))
  have e1 : cS = D.1 c0 := Option.some.inj (f1.symm.trans hcls.1)
  have e2 : cT = comp := Option.some.inj (f2.symm.trans k3)
  subst e1; subst e2
  obtain ⟨kC, hkC, -⟩ := hcls.2
  obtain ⟨cR, kR, hcR, hkR⟩ := hK.2.2.2.2.2
  have eR : cR = cT := Option.some.inj (hcR.symm.trans k3)
  refine W.aast hx hb h3 (fun q h => by cases h) (fun h => by cases h) k1 k2 rfl (by rw [← eR]; exact hkR) ⟨h0, by rw [arrV_size]; exact hlt⟩ g1 (fun q h => by rw [g3] at h; cases h) (by rw [g2]; exact hkC) (by rw [g2]; exact f3) rfl rfl hdg fun H' e1 e2 e3 => ?_
  exact kk H' _ (wd_ast (t := 5) hw (by omega) hT rfl (fun _ => rfl) (fun _ => rfl) (fun _ _ _ => rfl) (fun _ _ _ => rfl) (fun _ _ h => up2_ne h) (fv_sP (κ := fun _ => 2) rfl) e1 e2 e3)
end MC
