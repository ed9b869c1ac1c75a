theorem met_of {l : Launch} {y : MethodName} {bytes : ByteArray} {maxL : Nat} {ret : Option FieldType} {rm : Room} {D : va_G} {cA : Nat → ClassId} {z0 : Nat} {σ : Me} {av : List Value} {Qc : Array Value → State → Outcome → State → Prop} {mc ms : Nat} (hy : plainName y.cls = true) (hlen : (lg_sl av).length ≤ maxL)
    (hW : ∀ {p : Program} {e : Env} {s : State} {m : MethodId} {args : Array Value} {below : List Frame} {meth : Method} {c : Code} {ls : Array Slot}, Cx p m c bytes maxL s args y.cls D cA → meth.locks = false → meth.sig.returnType = ret → meth.name = y.name → wS D cA z0 s σ s.heap [] → lv_has ls maxL (lv_args 0 av) → W p l e rm s m args below meth c s.heap [] 0 0 (MQ below Qc args s mc ms (AM z0)) (F0 m 0 ls [])) :
    Met l y (Cond.code y bytes maxL ret :: gTab) rm (PcM D cA z0 σ av) Qc mc ms (AM z0) := by
  refine Met.ofW (cc := bytes) (maxL := maxL) (ret := ret) hy rfl ?_
  intro p e s m args below meth c s₁ B hml hv
  obtain ⟨rfl, hw0, hK⟩ := hv
  have hts := atoms_spec (ws := Cond.code y bytes maxL ret :: gTab) B.pre
  have hX : Cx p m c bytes maxL s av.toArray y.cls D cA := ⟨⟨B.exec, B.bytes, hml, findClass_of_methodNamed B.named, fun w hw => hts w (List.mem_cons_of_mem _ hw)⟩, hK⟩
  have hl := lv_entry av (n := maxL) hlen
  rw [lg_entry_eq]
  generalize (lg_sl av ++ List.replicate (maxL - (lg_sl av).length) Slot.unset).toArray = ls at hl ⊢
  exact hW hX B.notSynchronized B.returns (name_of_methodNamed B.named B.method).1 ⟨hw0, va_S.rf⟩ hl
