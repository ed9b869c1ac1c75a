/-! new byte[4][25], step by step: the outer row, then each inner row and its place in the outer one. -/
def mr_in (cI : ClassId) : Cell := { cls := cI, slots := Array.replicate 25 (.int 0), vm := .none }
def mr_out (cO : ClassId) (h0 : Nat) : Nat → Cell
  | 0 => { cls := cO, slots := Array.replicate 4 .null, vm := .none }
  | i + 1 => (mr_out cO h0 i).setSlot i (.ref (h0 + 1 + i))
def mr_st (s : State) (cO cI : ClassId) : Nat → State
  | 0 => s.pushCell (mr_out cO s.heap.size 0)
  | i + 1 => ((mr_st s cO cI i).pushCell (mr_in cI)).setCell s.heap.size (mr_out cO s.heap.size (i + 1))
theorem mr_out_f (cO : ClassId) (h0 : Nat) : ∀ i, (mr_out cO h0 i).cls = cO ∧ (mr_out cO h0 i).vm = .none ∧ (mr_out cO h0 i).slots.size = 4
  | 0 => ⟨rfl, rfl, by simp [mr_out]⟩
  | i + 1 => by
    obtain ⟨h1, h2, h3⟩ := mr_out_f cO h0 i
    exact ⟨h1, h2, by simp [mr_out, Cell.setSlot, h3]⟩
theorem mr_st_f (s : State) (cO cI : ClassId) : ∀ i, (mr_st s cO cI i).heap.size = s.heap.size + 1 + i ∧ (mr_st s cO cI i).heap[s.heap.size]? = some (mr_out cO s.heap.size i) ∧ (mr_st s cO cI i).vm = s.vm ∧ (mr_st s cO cI i).slotsUsed = s.slotsUsed + 4 + i * 25
  | 0 => ⟨by simp [mr_st, State.pushCell], by simp [mr_st, State.pushCell], rfl, by simp [mr_st, State.pushCell, mr_out]⟩
  | i + 1 => by
    obtain ⟨h1, h2, h3, h4⟩ := mr_st_f s cO cI i
    have hlt : s.heap.size < ((mr_st s cO cI i).pushCell (mr_in cI)).heap.size := by rw [size_pushCell, h1]; omega
    refine ⟨?_, heapAt_setCell_self _ hlt, h3, ?_⟩
    · show (State.setCell _ _ _).heap.size = _
      rw [size_setCell, size_pushCell, h1]
      omega
    · have e1 : (mr_st s cO cI (i + 1)).slotsUsed = (mr_st s cO cI i).slotsUsed + 25 := by simp [mr_st, State.setCell, State.pushCell, mr_in]
      rw [e1, h4]
      omega
theorem mr_st_top (s : State) (f : JFrame) (cO cI : ClassId) : ∀ i, mr_st (s.setTop f) cO cI i = (mr_st s cO cI i).setTop f
  | 0 => rfl
  | i + 1 => by
    show ((mr_st (s.setTop f) cO cI i).pushCell _).setCell _ _ = _
    rw [mr_st_top s f cO cI i]
    rfl
theorem mr_st_old (s : State) (cO cI : ClassId) {a : Addr} (ha : a < s.heap.size) : ∀ i, (mr_st s cO cI i).heap[a]? = s.heap[a]?
  | 0 => State.heap_pushCell_of_lt _ _ ha
  | i + 1 => by
    have h1 := (mr_st_f s cO cI i).1
    show (State.setCell _ _ _).heap[a]? = _
    rw [heapAt_setCell_ne _ (Nat.ne_of_gt ha), State.heap_pushCell_of_lt (h := (show a < (mr_st s cO cI i).heap.size by rw [h1]; exact Nat.lt_of_lt_of_le ha (by omega))), mr_st_old s cO cI ha i]
theorem mr_st_row (s : State) (cO cI : ClassId) : ∀ i j, j < i → (mr_st s cO cI i).heap[s.heap.size + 1 + j]? = some (mr_in cI)
  | 0, _, h => absurd h (Nat.not_lt_zero _)
  | i + 1, j, h => by
    have h1 := (mr_st_f s cO cI i).1
    show (State.setCell _ _ _).heap[_]? = _
    rw [heapAt_setCell_ne _ (show s.heap.size ≠ s.heap.size + 1 + j by omega)]
    by_cases e : j = i
    · subst e
      rw [← h1]
      simp [State.pushCell]
    · rw [State.heap_pushCell_of_lt (h := (show s.heap.size + 1 + j < (mr_st s cO cI i).heap.size by rw [h1]; omega))]
      exact mr_st_row s cO cI i j (by omega)
section MR1
variable {E : CtlPost} {e : Env} {d : Bool} {acts : List Action} {s : State}
theorem mr_newArray {c0 comp : ClassId} {k : Class} {type : FieldType} {len : Nat} {init : Value} (hk : s.vm.classes[c0]? = some k) (hkind : k.kind = .array comp type) (hlim : ¬ len > e.platform.arrayLengthLimit) (hheap : ¬ len * componentBytes type > e.platform.maxHeapBytes) (hfit : fits type init = true) (hdef : init.isDefault = true) {Q : Addr → Pre} (h1 : s.heap.size < e.platform.maxCells) (h2 : s.slotsUsed + len ≤ e.platform.maxSlots)
    (hq : Q s.heap.size d acts (s.pushCell { cls := c0, slots := Array.replicate len init, vm := .none })) : wp (_root_.Jvm.newArray c0 len init) Q E e d acts s := by
  have hall : ∀ i v, (Array.replicate len init)[i]? = some v → s.fitsSlot c0 .none i v = true := by
    intro i v hv
    rw [Array.getElem?_replicate] at hv
    split at hv
    · cases hv
      simp [State.fitsSlot, State.slotType?, hk, hkind, hfit]
    · cases hv
  have hact : allocActs (Array.replicate len init) s.heap.size acts = acts := by
    unfold allocActs
    rw [if_pos]
    rw [Array.all_replicate]
    split <;> simp [hdef]
  simp only [_root_.Jvm.newArray, _root_.Jvm.arrayFits, wp_bind', _root_.Jvm.W.ask, _root_.Jvm.W.ite, hlim, if_false, wp_pure', _root_.Jvm.W.theClass, hk, hkind, hheap, _root_.Jvm.W.alloc, _root_.Jvm.W.stop, Option.some.injEq, exists_eq_left', Array.size_replicate, hact]
  rw [if_neg (by omega)]
  exact ⟨h1, h2, hall, hq⟩
theorem mr_one {cI cc : ClassId} {kc : Class} (hkc : s.vm.classes[cI]? = some kc) (hkind : kc.kind = .array cc .byte) (hlim : ¬ 25 > e.platform.arrayLengthLimit) (hheap : ¬ 25 * componentBytes .byte > e.platform.maxHeapBytes) (h1 : s.heap.size < e.platform.maxCells) (h2 : s.slotsUsed + 25 ≤ e.platform.maxSlots) {Q : Addr → Pre} (hq : Q s.heap.size d acts (s.pushCell (mr_in cI))) : wp (multianewarray.make cI [(25 : Int32)]) Q E e d acts s := by
  rw [multianewarray.make]
  simp only [wp_bind', _root_.Jvm.W.ite, show ¬ (25 : Int32) < 0 by decide, if_false, wp_pure', _root_.Jvm.W.theClass, hkc, hkind, Option.some.injEq, exists_eq_left']
  exact mr_newArray hkc hkind hlim hheap rfl rfl h1 h2 hq
theorem mr_two {cO cI cc : ClassId} {k kc : Class} (hk : s.vm.classes[cO]? = some k) (hkind : k.kind = .array cI (.array .byte)) (hkc : s.vm.classes[cI]? = some kc) (hkindc : kc.kind = .array cc .byte) (hl1 : ¬ 4 > e.platform.arrayLengthLimit) (hh1 : ¬ 4 * componentBytes (.array .byte) > e.platform.maxHeapBytes) (hl2 : ¬ 25 > e.platform.arrayLengthLimit) (hh2 : ¬ 25 * componentBytes .byte > e.platform.maxHeapBytes)
    (hc : s.heap.size + 5 ≤ e.platform.maxCells) (hs : s.slotsUsed + 104 ≤ e.platform.maxSlots) {Q : Addr → Pre} (hq : ∀ d' acts', Q s.heap.size d' acts' (mr_st s cO cI 4)) : wp (multianewarray.make cO [(4 : Int32), 25]) Q E e d acts s := by
  rw [multianewarray.make]
  simp only [wp_bind', _root_.Jvm.W.ite, show ¬ (4 : Int32) < 0 by decide, if_false, wp_pure', _root_.Jvm.W.theClass, hk, hkind, Option.some.injEq, exists_eq_left']
  refine mr_newArray (len := 4) hk hkind hl1 hh1 rfl rfl (by omega) (by omega) ?_
  simp only [show ([(25 : Int32)].find? (· < 0)) = none by decide]
  rw [ite_self, wp_bind', Std.Legacy.Range.forIn_eq_forIn_range']
  show wp (forIn (List.range' 0 4 1) PUnit.unit _) _ E e d acts _
  refine wp_forIn_inv (fun rest s' => ∃ i, i ≤ 4 ∧ rest = List.range' i (4 - i) ∧ s' = mr_st s cO cI i) _ _ ⟨0, Nat.zero_le _, rfl, rfl⟩ ?_ ?_
  · rintro x rest s' d' acts' Q' ⟨i, hi, hl, rfl⟩ hnext
    have hlt : i < 4 := by
      rcases Nat.lt_or_ge i 4 with h | h
      · exact h
      · rw [show 4 - i = 0 by omega] at hl
        cases hl
    rw [show 4 - i = (4 - (i + 1)) + 1 by omega, List.range'_succ] at hl
    obtain ⟨rfl, hrest⟩ := List.cons.inj hl
    obtain ⟨f1, f2, f3, f4⟩ := mr_st_f s cO cI x
    obtain ⟨o1, o2, o3⟩ := mr_out_f cO s.heap.size x
    simp only [wp_bind']
    refine mr_one (by rw [f3]; exact hkc) hkindc hl2 hh2 (by rw [f1]; omega) (by rw [f4]; omega) ?_
    have hlt0 : s.heap.size < (mr_st s cO cI x).heap.size := by rw [f1]; omega
    simp only [wp_bind', _root_.Jvm.W.writeLoc, wp_pure']
    refine ⟨mr_out cO s.heap.size x, by rw [State.heap_pushCell_of_lt (h := hlt0)]; exact f2, by rw [o2]; simp, by rw [o3]; exact hlt, ?_, hnext _ _ _ ⟨x + 1, hlt, hrest, ?_⟩⟩
    · rw [o1, o2]
      simp [State.fitsSlot, State.slotType?, f3, hk, hkind, fits]
    · rw [f1]
      rfl
  · rintro s' d' acts' ⟨i, hi, hl, rfl⟩
    have hi4 : i = 4 := by
      rcases Nat.lt_or_ge i 4 with h | h
      · rw [show 4 - i = (4 - (i + 1)) + 1 by omega, List.range'_succ] at hl
        cases hl
      · omega
    subst hi4
    simp only [wp_pure']
    exact hq _ _
end MR1
/-- what the tables say of the class of byte[][] -/
def aoB (U : State) : Prop := (Cond.arrayOver (.array .byte)).before #[] U = true
theorem aoB_spec {U : State} (h : aoB U) : ∃ comp c0 k, U.vm.findClass (FieldType.array .byte).toString = some comp ∧ U.vm.classes[c0]? = some k ∧ k.kind = .array comp (.array .byte) ∧ U.vm.findClass ("[" ++ (FieldType.array .byte).toString) = some c0 := by
  unfold aoB Cond.before at h
  simp only [Cond.holds, Cond.value, beq_iff_eq] at h
  cases hc : U.vm.findClass (FieldType.array .byte).toString with
  | none => simp [hc] at h
  | some comp =>
    simp only [hc, Option.bind_some, Option.bind_eq_some_iff, Option.map_eq_some_iff] at h
    obtain ⟨c0, hi, k, hk, hb⟩ := h
    obtain ⟨hlt, hp, -⟩ := Array.findIdx?_eq_some_iff_getElem.mp hi
    rw [(Array.getElem?_eq_some_iff.mp hk).2] at hp
    cases hkind : k.kind with
    | array component ty =>
      rw [hkind] at hb hp
      simp at hb hp
      exact ⟨comp, c0, k, rfl, hk, by rw [hkind, hp, hb.1], hb.2⟩
    | _ => rw [hkind] at hb; simp at hb
/-- the same, as what it says -/
def aoS (U : State) : Prop := ∃ (comp c0 : ClassId) (k : Class), U.vm.findClass (FieldType.array .byte).toString = some comp ∧ U.vm.classes[c0]? = some k ∧ k.kind = .array comp (.array .byte) ∧ U.vm.findClass ("[" ++ (FieldType.array .byte).toString) = some c0
theorem aoS.moved {u U : State} (hvm : u.vm.Alike U.vm) (h : aoS u) : aoS U := by
  obtain ⟨comp, c0, k, h1, h2, h3, h4⟩ := h
  obtain ⟨k', hk', he⟩ := hvm.2.2 _ _ h2
  exact ⟨comp, c0, k', by rw [hvm.findClass]; exact h1, hk', by rw [he]; exact h3, by rw [hvm.findClass]; exact h4⟩
section MR2
variable {p : Program} {l : Launch} {e : Env} {R : Room} {s : State} {m : MethodId} {args : Array Value} {below : List Frame} {meth : Method} {c : Code} {T : State} {locs : List Loc} {cells slots : Nat}
theorem mr_stand (X : Stand p l e R s m args below meth c T locs cells slots) (cO cI : ClassId) : ∀ i, Stand p l e R s m args below meth c (mr_st T cO cI i) (locs ++ (List.range i).map fun j => ⟨T.heap.size, j⟩) (cells + 1 + i) (slots + 4 + i * 25)
  | 0 => by
    have h := X.pushed (mr_out cO T.heap.size 0)
    rw [(mr_out_f cO T.heap.size 0).2.2] at h
    simpa [mr_st] using h
  | i + 1 => by
    have Xi := mr_stand X cO cI i
    obtain ⟨f1, f2, f3, f4⟩ := mr_st_f T cO cI i
    have hlt : T.heap.size < (mr_st T cO cI i).heap.size := by rw [f1]; omega
    have h := (Xi.pushed (mr_in cI)).stored (by rw [State.heap_pushCell_of_lt (h := hlt)]; exact f2) i (.ref (T.heap.size + 1 + i))
    rw [show (mr_in cI).slots.size = 25 by simp [mr_in]] at h
    rw [show (locs ++ (List.range (i + 1)).map fun j => (⟨T.heap.size, j⟩ : Loc)) = (locs ++ (List.range i).map fun j => (⟨T.heap.size, j⟩ : Loc)) ++ [⟨T.heap.size, i⟩] by simp [List.range_succ, List.append_assoc], show slots + 4 + (i + 1) * 25 = slots + 4 + i * 25 + 25 by omega]
    exact h
theorem mr_multi (X : Stand p l e R s m args below meth c T locs cells slots) (hexec : p.tables.exec = _root_.Jvm.exec) {own : String} {index : Nat} (hown : s.vm.findClass own = some m.cls) (hcl : (Cond.classLink own index ("[" ++ (FieldType.array .byte).toString)).before args s = true) (hover : aoS s) (harr : (Cond.arrayClass .byte).before args s = true)
    {g : JFrame} (hg : g.method = m) (hdg : decode c.code g.pc = .ok (.multianewarray index 2, 4)) {rest : List Value} (hstack : g.stack = .int 25 :: .int 4 :: rest) (hcells : cells + 5 ≤ R.cells) (hslots : slots + 104 ≤ R.slots) :
    ∃ (vm₁ : Vm) (cO cI : ClassId), s.WarmedH vm₁ ∧ s.vm.findClass ("[" ++ (FieldType.array .byte).toString) = some cO ∧ s.vm.findClass (FieldType.array .byte).toString = some cI ∧ Stand p l e R s m args below meth c (mr_st (T.setVm vm₁) cO cI 4) (locs ++ (List.range 4).map fun j => ⟨T.heap.size, j⟩) (cells + 1 + 4) (slots + 4 + 4 * 25) ∧
      ∀ target, Steps p.tables e below ((mr_st (T.setVm vm₁) cO cI 4).setTop { g with pc := g.pc + 4, stack := .ref T.heap.size :: rest }) target → Steps p.tables e below (T.setTop g) target := by
  subst hg
  have hpl : e.platform.magicAccessors = ({} : Platform).magicAccessors := by rw [X.admits.platform]
  obtain ⟨cI, cO, kO, hcI, hkO, hkindO, hnameO⟩ := hover
  obtain ⟨cI', kI, cc, hcI', hkI, hkindI⟩ := Cond.arrayClass_spec harr
  have ec : cI' = cI := Option.some.inj (hcI'.symm.trans hcI)
  subst ec
  obtain ⟨c0, hfc0, hlk⟩ := Cond.classLink_spec hown hcl e.platform hpl
  cases hnameO.symm.trans hfc0
  obtain ⟨hg₁, hwarm₁, hready₁⟩ := State.classEntry (e := e) X.warmed hlk
  generalize T.vm.noted g.method.cls index (.cls cO) = vm₁ at hg₁ hwarm₁ hready₁
  obtain ⟨kO₁, hkO₁, heO⟩ := hwarm₁.alike.2.2 _ _ hkO
  obtain ⟨kI₁, hkI₁, heI⟩ := hwarm₁.alike.2.2 _ _ hkI
  have hkindO₁ : kO₁.kind = .array cI' (.array .byte) := by rw [heO]; exact hkindO
  have hkindI₁ : kI₁.kind = .array cc .byte := by rw [heI]; exact hkindI
  have X₁ := X.noted hwarm₁
  obtain ⟨hr1, hr2⟩ := X.roomAbove hcells hslots
  refine ⟨vm₁, cO, cI', hwarm₁, hnameO, hcI, mr_stand X₁ cO cI' 4, fun target hrest => ?_⟩
  have hlim : e.platform.arrayLengthLimit = _ := Launch.admits_arrayLengthLimit X.admits
  have hhp : e.platform.maxHeapBytes = _ := Launch.admits_maxHeapBytes X.admits
  jvm_step X.here [hexec, hdg]
  simp only [multianewarray.sem, wp_bind', _root_.Jvm.W.resolveClassAt_links (State.method?_setTop g X.here.top) hg₁]
  rw [_root_.Jvm.W.popN, if_neg (by decide)]
  refine ⟨g, State.topJava?_setTop' (s := T.setVm vm₁) g X.here.top, [.int 4, .int 25], rest, rfl, hstack, ?_⟩
  simp only [List.mapM_cons, List.mapM_nil, wp_bind', wp_pure']
  refine mr_two (k := kO₁) (kc := kI₁) hkO₁ hkindO₁ hkI₁ hkindI₁ (by rw [hlim]; decide) (by rw [hhp]; decide) (by rw [hlim]; decide) (by rw [hhp]; decide) (by show T.heap.size + 5 ≤ _; omega) (by show T.slotsUsed + 104 ≤ _; omega) (fun d' acts' => ?_)
  have XF := mr_stand X₁ cO cI' 4
  have eS : ((T.setTop g).setVm vm₁).setTop { g with stack := rest } = (T.setVm vm₁).setTop { g with stack := rest } := by
    show ((T.setVm vm₁).setTop g).setTop _ = _
    rw [State.setTop_setTop]
  rw [eS, mr_st_top]
  simp only [wp_bind', _root_.Jvm.W.mark, _root_.Jvm.W.pushRef, State.topJava?_setTop' _ XF.here.top, Option.some.injEq, exists_eq_left', State.setTop_setTop, State.heap_setTop]
  intro acts
  simp [jvm, XF.here.top]
  exact hrest
end MR2
/-- the memory behind new byte[4][25] -/
def mz (σ : Me) : Me := (σ.1 + 5, fun q => if q = σ.1 then 26 else if σ.1 < q ∧ q ≤ σ.1 + 4 then 23 else σ.2.1 q, fun q => if q = σ.1 then 4 else if σ.1 < q ∧ q ≤ σ.1 + 4 then 25 else σ.2.2.1 q, fun q j => if σ.1 ≤ q ∧ q ≤ σ.1 + 4 then 0 else σ.2.2.2.1 q j, fun q j => if σ.1 ≤ q ∧ q ≤ σ.1 + 4 then 0 else σ.2.2.2.2.1 q j, fun q j => if q = σ.1 then (if j < 4 then some (σ.1 + 1 + j) else none) else if σ.1 < q ∧ q ≤ σ.1 + 4 then none else σ.2.2.2.2.2 q j)
theorem mr_out_v (cO : ClassId) (h0 : Nat) : ∀ i : Nat, mr_out cO h0 i = arrV cO 4 (fun j => va_rf (if j < i then some (h0 + 1 + j) else none))
  | 0 => by
    show ({ cls := cO, slots := Array.replicate 4 .null, vm := .none } : Cell) = _
    rw [arrV_new]
    refine congrArg (arrV cO 4) (funext fun j => ?_)
    simp [va_rf]
  | i + 1 => by
    show (mr_out cO h0 i).setSlot i (.ref (h0 + 1 + i)) = _
    rw [mr_out_v cO h0 i, arrV_store]
    refine congrArg (arrV cO 4) (funext fun j => ?_)
    by_cases e : j = i
    · subst e
      simp [updV, va_rf]
    · by_cases h : j < i
      · simp [updV, e, h, Nat.lt_succ_of_lt h]
      · simp [updV, e, h, show ¬ j < i + 1 by omega]
section MR3
variable {p : Program} {l : Launch} {e : Env} {R : Room} {s : State} {m : MethodId} {args : Array Value} {below : List Frame} {meth : Method} {c : Code} {H : Heap} {locs : List Loc} {cells slots : Nat} {Q : State → Prop}
variable {cc : ByteArray} {pc nL : Nat} {ls : Array Slot} {rest : List Value} {D : va_G} {cA : Nat → ClassId} {z0 index : Nat} {σ : Me} {own : String}
theorem m_multi (X : Cx p m c cc nL s args own D cA) (hw : wS D cA z0 s σ H locs) (hcl : Cond.classLink own index "[[B" ∈ gTab) (hover : aoS s) (harr : Cond.arrayClass .byte ∈ gTab) (hcells : cells + 5 ≤ R.cells ∧ slots + 104 ≤ R.slots) (hdg : decode cc pc = .ok (.multianewarray index 2, 4))
    (kk : ∀ (H1 : Heap) (locs1 : List Loc), wS D cA z0 s (mz σ) H1 locs1 → W p l e R s m args below meth c H1 locs1 (cells + 5) (slots + 104) Q (F0 m (pc + 4) ls (.ref (gz σ) :: rest))) : W p l e R s m args below meth c H locs cells slots Q (F0 m pc ls (.int 25 :: .int 4 :: rest)) := by
  obtain ⟨⟨hx, hb, hml, hown, hts⟩, hK⟩ := X
  intro T hT Xs
  obtain ⟨vm₁, cO, cI, -, fO, fI, X', step⟩ := mr_multi Xs hx hown (hts _ hcl) hover (hts _ harr) (g := F0 m pc ls (.int 25 :: .int 4 :: rest)) rfl (by rw [hb]; exact hdg) rfl hcells.1 hcells.2
  have hcO : cO = cA 6 := by
    have h : s.vm.findClass ("[" ++ (FieldType.array .byte).toString) = some (cA 6) := (arr_ty hK 6 (by omega)).2
    exact Option.some.inj (fO.symm.trans h)
  have hcI : cI = cA 3 := by
    have h : s.vm.findClass ("[" ++ FieldType.byte.toString) = some (cA 3) := (arr_ty hK 3 (by omega)).2
    exact Option.some.inj (fI.symm.trans h)
  subst hcO; subst hcI
  have hTh : (T.setVm vm₁).heap = H := hT
  generalize hF : mr_st (T.setVm vm₁) (cA 6) (cA 3) 4 = F at X' step
  obtain ⟨f1, f2, -, -⟩ := mr_st_f (T.setVm vm₁) (cA 6) (cA 3) 4
  rw [hF, hTh] at f1 f2
  have hold : ∀ x : Nat, x < H.size → F.heap[x]? = H[x]? := fun x hx => by
    have := mr_st_old (T.setVm vm₁) (cA 6) (cA 3) (a := x) (by rw [hTh]; exact hx) 4
    rw [hF, hTh] at this
    exact this
  have hrow : ∀ j : Nat, j < 4 → F.heap[H.size + 1 + j]? = some (mr_in (cA 3)) := fun j hj => by
    have := mr_st_row (T.setVm vm₁) (cA 6) (cA 3) 4 j hj
    rw [hF, hTh] at this
    exact this
  have hz : H.size = gz σ := hw.1.1
  rw [hz] at f1 f2 hrow hold
  have hT0 : T.heap.size = gz σ := by rw [hT]; exact hz
  have hwd : wd D cA z0 (mz σ) F.heap := by
    refine ⟨f1, by show z0 ≤ gz σ + 5; have := hw.1.2.1; omega, fun q hq => ?_⟩
    by_cases e1 : q = gz σ
    · subst e1
      refine ⟨hw.1.2.1, by show gz σ < gz σ + 5; omega, fun h => ?_, fun h => ?_⟩
      · have e2 : gT (mz σ) (gz σ) = 26 := by simp [gT, mz, gz]
        rw [e2] at h
        omega
      · have e2 : gT (mz σ) (gz σ) = 26 := by simp [gT, mz, gz]
        have e3 : gN (mz σ) (gz σ) = 4 := by simp [gN, mz, gz]
        rw [e2, e3, f2, mr_out_v]
        refine congrArg some (congrArg (arrV (cA 6) 4) (funext fun j => ?_))
        show _ = va_rf (gP (mz σ) (gz σ) j)
        simp [gP, mz, gz]
    · by_cases e2 : gz σ < q ∧ q ≤ gz σ + 4
      · have t2 : gT (mz σ) q = 23 := by
          show (if q = gz σ then 26 else if gz σ < q ∧ q ≤ gz σ + 4 then 23 else _) = 23
          rw [if_neg e1, if_pos e2]
        have n2 : gN (mz σ) q = 25 := by
          show (if q = gz σ then 4 else if gz σ < q ∧ q ≤ gz σ + 4 then 25 else _) = 25
          rw [if_neg e1, if_pos e2]
        refine ⟨by have := hw.1.2.1; omega, by show q < gz σ + 5; omega, fun h => ?_, fun h => ?_⟩
        · rw [t2] at h
          omega
        · obtain ⟨j, hj, rfl⟩ : ∃ j, j < 4 ∧ q = gz σ + 1 + j := ⟨q - (gz σ + 1), by omega, by omega⟩
          rw [t2, n2, hrow j hj]
          show some (mr_in (cA 3)) = some (arrV (cA 3) 25 _)
          have e5 : mr_in (cA 3) = arrV (cA 3) 25 (fun _ => .int 0) := by rw [← arrV_new]; rfl
          rw [e5]
          refine congrArg some (congrArg (arrV (cA 3) 25) (funext fun i => ?_))
          show Value.int 0 = Value.int (gI (mz σ) (gz σ + 1 + j) i)
          congr 1
          show (0 : Int32) = if gz σ ≤ gz σ + 1 + j ∧ gz σ + 1 + j ≤ gz σ + 4 then 0 else _
          rw [if_pos (by omega)]
      · have t2 : gT (mz σ) q = gT σ q := by
          show (if q = gz σ then 26 else if gz σ < q ∧ q ≤ gz σ + 4 then 23 else _) = _
          rw [if_neg e1, if_neg e2]
          rfl
        rw [t2] at hq
        obtain ⟨h1, h2, h3⟩ := hw.1.2.2 q hq
        refine ⟨h1, by show q < gz σ + 5; omega, cel_same h3 t2 ?_ (fun j => ?_) (fun j => ?_) (fun j => ?_) (hold q h2)⟩
        · show (if q = gz σ then 4 else if gz σ < q ∧ q ≤ gz σ + 4 then 25 else _) = _
          rw [if_neg e1, if_neg e2]
          rfl
        · show (if gz σ ≤ q ∧ q ≤ gz σ + 4 then 0 else _) = _
          rw [if_neg (by omega)]
          rfl
        · show (if gz σ ≤ q ∧ q ≤ gz σ + 4 then 0 else _) = _
          rw [if_neg (by omega)]
          rfl
        · show (if q = gz σ then (if j < 4 then some (gz σ + 1 + j) else none) else if gz σ < q ∧ q ≤ gz σ + 4 then none else _) = _
          rw [if_neg e1, if_neg e2]
          rfl
  obtain ⟨t, a1, b1⟩ := kk F.heap _ ⟨hwd, ⟨by rw [f1]; have := hw.2.1; omega, fun x h1 h2 => (hold x (by have := hw.2.1; omega)).trans (hw.2.2.1 x h1 h2), fun q hq => by
    rcases List.mem_append.mp hq with h | h
    · exact hw.2.2.2 q h
    · obtain ⟨j, -, rfl⟩ := List.mem_map.mp h
      show z0 ≤ T.heap.size
      rw [hT0]
      exact hw.1.2.1⟩⟩ F rfl X'
  refine ⟨t, step t ?_, b1⟩
  rw [hT0]
  exact a1
end MR3
