/-- how many cells the class's own world has when it is made: the other world begins there -/
abbrev mOff : Nat := 36
def PcX (D : va_G) (cA : Nat → ClassId) (z0 : Nat) (σ : Me) (av : List Value) : Array Value → State → Prop := va_Pc av (fun U => (wd D cA z0 σ U.heap ∧ KN D cA U) ∧ AO3 U)
theorem AO3.moved {u U : State} (hvm : u.vm.Alike U.vm) (h : AO3 u) : AO3 U := ⟨va_AO.moved hvm h.1, va_AO.moved hvm h.2.1, aoS.moved hvm h.2.2⟩
theorem PcX.blind {D : va_G} {cA : Nat → ClassId} {z0 : Nat} {σ : Me} {av : List Value} : FrameBlind (PcX D cA z0 σ av) := by
  intro a U g mk q
  obtain ⟨q0, ⟨q1, q2⟩, q3⟩ := q
  exact ⟨q0, ⟨q1, KN_same (u := U) (U := U.calling g mk a) rfl q2⟩, AO3.moved (u := U) (U := U.calling g mk a) (Vm.Alike.refl U.vm) q3⟩
theorem tX11_init {l : Launch} {D : va_G} {cA : Nat → ClassId} {z0 : Nat} {σ : Me} {a0 : Nat} {Q : Me → Prop} (h : pX11_init σ a0 Q) : Met l yX11_init (Cond.code yX11_init cX11_init 2 none :: gTab) rX11_init (PcX D cA z0 σ [.ref a0]) (va_Qv Q (BM D cA z0) (AM z0)) 35 2959 (AM z0) := by
  refine Met.ofW (cc := cX11_init) (maxL := 2) (ret := none) (by decide) rfl ?_
  intro p e s m args below meth c s₁ B hml hv
  obtain ⟨rfl, ⟨hw0, hK⟩, hao⟩ := hv
  have hts := atoms_spec (ws := Cond.code yX11_init cX11_init 2 none :: gTab) B.pre
  have hX : Cx p m c cX11_init 2 s [Value.ref a0].toArray RX11 D cA := ⟨⟨B.exec, B.bytes, hml, findClass_of_methodNamed B.named, fun w hw => hts w (List.mem_cons_of_mem _ hw)⟩, hK⟩
  have hl := lv_entry [Value.ref a0] (n := 2) (Nat.le_of_ble_eq_true rfl)
  rw [lg_entry_eq]
  generalize (lg_sl [Value.ref a0] ++ List.replicate (2 - (lg_sl [Value.ref a0]).length) Slot.unset).toArray = ls at hl ⊢
  exact wX11_init hX B.notSynchronized B.returns (name_of_methodNamed B.named B.method).1 hao h ⟨hw0, va_S.rf⟩ hl
/-- nothing made yet -/
def me0 (z : Nat) : Me := (z, fun _ => 99, fun _ => 0, fun _ _ => 0, fun _ _ => 0, fun _ _ => none)
/-- both constructors, one behind the other -/
def Start (Inv : Nat → Nat → Me → Prop) : Prop := ∀ z : Nat, pX11_init (nw (me0 z) 11 0) z (fun σ1 => ∀ (am : Nat) (σ2 : Me), am = gz σ1 → σ2 = nw σ1 12 0 → pX12_init σ2 am (fun σ3 => am = z + mOff ∧ Inv z 0 σ3))
theorem k_58 : Cond.classLink R_law 7 "SendForMore" ∈ gTab := gTab_in 58 (by decide +kernel) rfl
theorem k_59 : Cond.instantiable RX11 18 ∈ gTab := gTab_in 59 (by decide +kernel) rfl
theorem k_60 : Cond.methodLink R_law 9 yX11_init ∈ gTab := gTab_in 60 (by decide +kernel) rfl
theorem k_61 : Cond.instanceMethod yX11_init ∈ gTab := gTab_in 61 (by decide +kernel) rfl
theorem k_868 : Cond.classLink R_law 10 "SendForMoreModel" ∈ gTab := gTab_in 868 (by decide +kernel) rfl
theorem k_869 : Cond.instantiable RX12 57 ∈ gTab := gTab_in 869 (by decide +kernel) rfl
theorem k_870 : Cond.methodLink R_law 12 yX12_init ∈ gTab := gTab_in 870 (by decide +kernel) rfl
theorem k_871 : Cond.instanceMethod yX12_init ∈ gTab := gTab_in 871 (by decide +kernel) rfl
set_option maxHeartbeats 4000000 in
set_option maxRecDepth 100000 in
theorem whole_of {Inv : Nat → Nat → Me → Prop} (hIn : Start Inv) (hT : ∀ z n σ, Inv z n σ → gT σ z = 11) (hM : ∀ z n σ, Inv z n σ → Inv z (n + 1) σ) (hSt : ∀ z, Step (Inv z) z (z + mOff)) {p : Program} {e : Env} {s : State} {m : MethodId} {below : List Frame} {meth : Method} {c : Code} (l : Launch) {b L : Nat} {xs : Nat → Int32} (hL : L ≤ 3072) (C0 : lw_At p s m meth c b L xs) : W p l e room_1 s m #[Value.ref b] below meth c s.heap [] 0 0 (lw_Z below #[Value.ref b] s) (entryFrame m ([Value.ref b] : List Value).toArray 4) := by
  obtain ⟨hx, hb, hr, hml, hown, hts, hXs, hbl, hlocks, hgv⟩ := id C0
  obtain ⟨D, cA, hKN, hao⟩ := kn_start hts hgv
  have hX : Cx p m c code 4 s #[Value.ref b] R_law D cA := ⟨⟨hx, hb, hml, hown, fun w hw => hts w (List.mem_filter.mp hw).1⟩, hKN⟩
  have hw : wS D cA s.heap.size s (me0 s.heap.size) s.heap [] := ⟨⟨rfl, Nat.le_refl _, fun q hq => absurd hq (by show ¬ (99 : Nat) < 30; omega)⟩, va_S.rf⟩
  have h := hIn s.heap.size
  have hl := lv_entry ([.ref b]) (n := 4) (Nat.le_of_ble_eq_true rfl)
  rw [lg_entry_eq]
  generalize (lg_sl ([.ref b]) ++ List.replicate (4 - (lg_sl ([.ref b])).length) Slot.unset).toArray = ls at hl ⊢
  have hl : lv_has ls 4 [(0, .ref b)] := hl
  refine m_new hX hw cl11 (by decide) k_58 k_59 k_43 ⟨Nat.le_of_ble_eq_true rfl, Nat.le_of_ble_eq_true rfl⟩ dL_law_0 (fun H hw => ?_)
  refine lv_dup hx hb dL_law_3 rfl ?_
  refine m_cv (va_runI (As := []) (b := s.heap.size) (rest := [_]) hX.1 (tX11_init h) ⟨m_callB (cells := 1) (slots := 18) hX mtX11_init k_60 ⟨⟨rfl, rfl, Nat.le_of_ble_eq_true rfl, Nat.le_of_ble_eq_true rfl⟩, Nat.le_of_ble_eq_true rfl, Nat.le_of_ble_eq_true rfl⟩, rfl, hX.1.2.2.2.2 _ k_61⟩ ⟨PcX.blind, fun U hU hW => ⟨rfl, ⟨by rw [hU]; exact hw.1, KN.warm hW hKN⟩, AO3.moved hW.alike hao⟩⟩ rfl rfl hl.1 rfl (lv_room (Nat.le_of_ble_eq_true rfl)) dL_law_4 ⟨Nat.le_of_ble_eq_true rfl, Nat.le_of_ble_eq_true rfl⟩) hw (fun σ1 H locs h hw => ?_)
  refine lv_astore_n (lv' := [(1, _), (0, _)]) hx hb dL_law_7 rfl hl (by decide) rfl (fun ls hl => ?_)
  refine m_new hX hw cl12 (by decide) k_868 k_869 k_50 ⟨Nat.le_of_ble_eq_true rfl, Nat.le_of_ble_eq_true rfl⟩ dL_law_8 (fun H hw => ?_)
  have h := h _ _ rfl rfl
  refine lv_dup hx hb dL_law_11 rfl ?_
  refine m_cv (m_runI (rest := [_]) hX hw (tX12_init h) mtX12_init k_870 k_871 rfl ⟨⟨rfl, rfl, Nat.le_of_ble_eq_true rfl, Nat.le_of_ble_eq_true rfl⟩, Nat.le_of_ble_eq_true rfl, Nat.le_of_ble_eq_true rfl⟩ rfl hl.1 rfl (Nat.le_of_ble_eq_true rfl) dL_law_12) hw (fun σ3 H locs h hw => ?_)
  obtain ⟨ham, hI⟩ := h
  rw [ham]
  refine lv_astore_n (lv' := [(2, _), (1, _), (0, _)]) hx hb dL_law_15 rfl hl (by decide) rfl (fun ls hl => ?_)
  refine lv_iconst (v := 0) hx hb dL_law_16 (by decide) ?_
  refine lv_istore_n (lv' := [(3, _), (2, _), (1, _), (0, _)]) hx hb dL_law_17 rfl hl (by decide) rfl (fun ls hl => ?_)
  refine W.widen (k := 59 + 2 * 0) (n := 139561 + 26 * 0) (Nat.le_of_ble_eq_true rfl) (Nat.le_of_ble_eq_true rfl) ?_
  exact law_loop hL C0 hKN ⟨by omega, by omega⟩ (hT s.heap.size) (hM s.heap.size) (hSt s.heap.size) 513 0 (by omega) (Nat.zero_le _) σ3 H locs ls 0 (by decide) hI hw (lv_sub hl [3, 2, 1, 0] rfl)
