/-! One-instruction rows over a memory. -/
def Cx (p : Program) (m : MethodId) (c : Code) (cc : ByteArray) (nL : Nat) (s : State) (args : Array Value) (own : String) (D : va_G) (cA : Nat → ClassId) : Prop := CallFix p m c cc nL s args gTab own ∧ KN D cA s
def wS (D : va_G) (cA : Nat → ClassId) (z0 : Nat) (s : State) (σ : Me) (H : Heap) (locs : List Loc) : Prop := wd D cA z0 σ H ∧ va_S (fun q => z0 ≤ q) s.heap H locs
theorem va_S_put {z0 a : Nat} {H0 H H' : Heap} {locs : List Loc} {i : Nat} (h : va_S (fun q => z0 ≤ q) H0 H locs) (ha : z0 ≤ a) (e2 : H'.size = H.size) (e3 : ∀ q, q ≠ a → H'[q]? = H[q]?) : va_S (fun q => z0 ≤ q) H0 H' (locs ++ [⟨a, i⟩]) := by
  refine ⟨by rw [e2]; exact h.1, fun q h1 h2 => ?_, fun q hq => ?_⟩
  · rw [e3 q (fun e => h2 (by rw [e]; exact ha))]
    exact h.2.1 q h1 h2
  · rcases List.mem_append.mp hq with h1 | h1
    · exact h.2.2 q h1
    · rw [List.mem_singleton.mp h1]
      exact ha
section MR
variable {p : Program} {l : Launch} {e : Env} {R : Room} {s : State} {m : MethodId} {args : Array Value} {below : List Frame} {meth : Method} {c : Code} {H : Heap} {locs : List Loc} {cells slots : Nat} {Q : State → Prop}
variable {cc : ByteArray} {pc nL : Nat} {ls : Array Slot} {rest : List Value} {D : va_G} {cA : Nat → ClassId} {a z0 c0 N index : Nat} {σ : Me} {own ref C : String} {T : u_T}
theorem m_get (X : Cx p m c cc nL s args own D cA) (hw : wS D cA z0 s σ H locs) (K : Cls c0 C T N) (hT : gT σ a = c0) (k : Nat) (hk : k < N) (hlink : Cond.fieldLink own index ref (T k).2.1 (T k).2.2.1 ∈ gTab) (hsame : ∀ x, s.fieldFound? (T k).1 (T k).2.1 (T k).2.2.1 = some x → s.fieldFound? ref (T k).2.1 (T k).2.2.1 = some x) {v : Value} (hv : fv (kd (tyC c0 k)) σ a k = v) (hdg : decode cc pc = .ok (.getfield index, 3))
    (kk : W p l e R s m args below meth c H locs cells slots Q (F0 m (pc + 3) ls (v :: rest))) : W p l e R s m args below meth c H locs cells slots Q (F0 m pc ls (.ref a :: rest)) := by
  obtain ⟨⟨hx, hb, hml, hown, hts⟩, hK⟩ := X
  obtain ⟨-, -, cell, q1, q2, q3, q4⟩ := wd_obj hw.1 K hT
  obtain ⟨hS, hfc, kC, hkC, hkind⟩ := hK.1.1 c0 _ K.1
  obtain ⟨cf, kf, fi, f, hi, hsl⟩ := hS k hk
  refine W.getf hx hb hown (hts _ hlink) (hsame _ hi) (u_facts hfc hkC (u_lays hts K.2.1 hk) hi).1 q1 (by rw [q3]; exact fun h => by cases h) (v := v) ?_ rfl rfl hdg kk
  rw [hsl, q4 k hk]
  exact congrArg some hv
theorem m_put (X : Cx p m c cc nL s args own D cA) (hw : wS D cA z0 s σ H locs) (K : Cls c0 C T N) (hT : gT σ a = c0) (k : Nat) (hk : k < N) (hlink : Cond.fieldLink own index ref (T k).2.1 (T k).2.2.1 ∈ gTab) (hsame : ∀ x, s.fieldFound? (T k).1 (T k).2.1 (T k).2.2.1 = some x → s.fieldFound? ref (T k).2.1 (T k).2.2.1 = some x) (hfin : (T k).2.2.2 = false) {v : Value} (hn : narrow (tyC c0 k) v = v) (hfit : fits (tyC c0 k) v = true) {σ' : Me}
    (hz : gz σ' = gz σ) (hTT : ∀ q, gT σ' q = gT σ q) (hNN : ∀ q, gN σ' q = gN σ q) (hI : ∀ q j, q ≠ a → gI σ' q j = gI σ q j) (hL : ∀ q j, q ≠ a → gL σ' q j = gL σ q j) (hP : ∀ q j, q ≠ a → gP σ' q j = gP σ q j) (hf : ∀ j, fv (kd (tyC c0 j)) σ' a j = updV (fun i => fv (kd (tyC c0 i)) σ a i) k v j)
    (hdg : decode cc pc = .ok (.putfield index, 3)) (kk : ∀ (H1 : Heap) (locs1 : List Loc), wS D cA z0 s σ' H1 locs1 → W p l e R s m args below meth c H1 locs1 cells slots Q (F0 m (pc + 3) ls rest)) : W p l e R s m args below meth c H locs cells slots Q (F0 m pc ls (v :: .ref a :: rest)) := by
  obtain ⟨⟨hx, hb, hml, hown, hts⟩, hK⟩ := X
  have hap := va_apart (own := own) hts K.2.1 (tyC c0) K.2.2.1 K.2.2.2.1 hK.1 K.1
  obtain ⟨hz0, hz1, cell, q1, q2, q3, q4⟩ := wd_obj hw.1 K hT
  obtain ⟨hS, hfc, kC, hkC, hkind⟩ := hK.1.1 c0 _ K.1
  obtain ⟨cf, kf, fi, f, hi, hsl⟩ := hS k hk
  have hlay := hts _ (K.2.1 _ (u_in_lay hk))
  unfold u_lay at hlay
  rw [if_neg (by rw [hfin]; decide)] at hlay
  have hst := (u_facts hfc hkC (u_lays hts K.2.1 hk) hi).1
  have h6 := u_store hfc hkC hkind hlay hi (K.2.2.1 k hk) hn hfit
  refine W.putK hx hb (f := f) ⟨hown, hts _ hlink, ⟨_, _, _, hsame _ hi⟩, hst⟩ (by rw [q2]; exact h6) q1 q3 (by rw [hsl]; exact k2_hasslot (q4 k hk)) rfl rfl hdg fun H' e1 e2 e3 => ?_
  rw [hsl] at e1 ⊢
  refine kk H' _ ⟨wd_set hw.1 hz hTT hNN hI hL hP e2 e3 ⟨fun h => ?_, fun h => ?_⟩, va_S_put hw.2 hz0 e2 e3⟩
  · rw [hTT, hT]
    exact ⟨_, K.1, t_OB.to (V := updV (fun i => fv (kd (tyC c0 i)) σ a i) k v) ⟨_, e1, q2, q3, t_set q4 hap hk v⟩ (fun j _ => (hf j).symm)⟩
  · rw [hTT, hT] at h
    have := K.2.2.2.2
    omega
theorem m_putF (X : Cx p m c cc nL s args own D cA) (hin2 : meth.name = "<init>") (hw : wS D cA z0 s σ H locs) (K : Cls c0 C T N) (hT : gT σ a = c0) (k : Nat) (hk : k < N) (hlink : Cond.fieldLink own index ref (T k).2.1 (T k).2.2.1 ∈ gTab) (hsame : ∀ x, s.fieldFound? (T k).1 (T k).2.1 (T k).2.2.1 = some x → s.fieldFound? ref (T k).2.1 (T k).2.2.1 = some x) (hfin : (T k).2.2.2 = true) (hdecl : (T k).1 = own) {v : Value} (hn : narrow (tyC c0 k) v = v) (hfit : fits (tyC c0 k) v = true) {σ' : Me}
    (hz : gz σ' = gz σ) (hTT : ∀ q, gT σ' q = gT σ q) (hNN : ∀ q, gN σ' q = gN σ q) (hI : ∀ q j, q ≠ a → gI σ' q j = gI σ q j) (hL : ∀ q j, q ≠ a → gL σ' q j = gL σ q j) (hP : ∀ q j, q ≠ a → gP σ' q j = gP σ q j) (hf : ∀ j, fv (kd (tyC c0 j)) σ' a j = updV (fun i => fv (kd (tyC c0 i)) σ a i) k v j)
    (hdg : decode cc pc = .ok (.putfield index, 3)) (kk : ∀ (H1 : Heap) (locs1 : List Loc), wS D cA z0 s σ' H1 locs1 → W p l e R s m args below meth c H1 locs1 cells slots Q (F0 m (pc + 3) ls rest)) : W p l e R s m args below meth c H locs cells slots Q (F0 m pc ls (v :: .ref a :: rest)) := by
  obtain ⟨⟨hx, hb, hml, hown, hts⟩, hK⟩ := X
  have hap := va_apart (own := own) hts K.2.1 (tyC c0) K.2.2.1 K.2.2.2.1 hK.1 K.1
  obtain ⟨hz0, hz1, cell, q1, q2, q3, q4⟩ := wd_obj hw.1 K hT
  obtain ⟨hS, hfc, kC, hkC, hkind⟩ := hK.1.1 c0 _ K.1
  obtain ⟨cf, kf, fi, f, hi, hsl⟩ := hS k hk
  have hlay := hts _ (K.2.1 _ (u_in_lay hk))
  unfold u_lay at hlay
  rw [if_pos hfin] at hlay
  have hst := (u_facts hfc hkC (u_lays hts K.2.1 hk) hi).1
  have hcf : m.cls = cf := by
    obtain ⟨_, _, c', _, _, _, -, -, hf', -, -, -, hown2, -⟩ := Cond.laysFinal_spec hlay
    have e1 : c' = cf := by have := hi.symm.trans hf'; simp at this; exact this.1.symm
    rw [hdecl] at hown2
    rw [← e1]; exact Option.some.inj (hown.symm.trans hown2)
  have h6 := u_fits hfc hkC hkind (Or.inr hlay) hi (K.2.2.1 k hk) hn hfit
  refine W.putFinK hx hb hown (hts _ hlink) (hsame _ hi) hst hcf hin2 (by rw [q2]; exact h6) q1 q3 (by rw [hsl]; exact k2_hasslot (q4 k hk)) rfl rfl hdg fun H' e1 e2 e3 => ?_
  rw [hsl] at e1 ⊢
  refine kk H' _ ⟨wd_set hw.1 hz hTT hNN hI hL hP e2 e3 ⟨fun h => ?_, fun h => ?_⟩, va_S_put hw.2 hz0 e2 e3⟩
  · rw [hTT, hT]
    exact ⟨_, K.1, t_OB.to (V := updV (fun i => fv (kd (tyC c0 i)) σ a i) k v) ⟨_, e1, q2, q3, t_set q4 hap hk v⟩ (fun j _ => (hf j).symm)⟩
  · rw [hTT, hT] at h
    have := K.2.2.2.2
    omega
theorem m_putI (X : Cx p m c cc nL s args own D cA) (hw : wS D cA z0 s σ H locs) (K : Cls c0 C T N) (hT : gT σ a = c0) (k : Nat) (hk : k < N) (hlink : Cond.fieldLink own index ref (T k).2.1 (T k).2.2.1 ∈ gTab) (hsame : ∀ x, s.fieldFound? (T k).1 (T k).2.1 (T k).2.2.1 = some x → s.fieldFound? ref (T k).2.1 (T k).2.2.1 = some x) (hfin : (T k).2.2.2 = false) {v : Int32} (hty : tyC c0 k = .int)
    (hdg : decode cc pc = .ok (.putfield index, 3)) (kk : ∀ (H1 : Heap) (locs1 : List Loc), wS D cA z0 s (sI σ a k v) H1 locs1 → W p l e R s m args below meth c H1 locs1 cells slots Q (F0 m (pc + 3) ls rest)) : W p l e R s m args below meth c H locs cells slots Q (F0 m pc ls (.int v :: .ref a :: rest)) :=
  m_put X hw K hT k hk hlink hsame hfin (by rw [hty]; rfl) (by rw [hty]; rfl) (σ' := sI σ a k v) rfl (fun _ => rfl) (fun _ => rfl) (fun _ _ h => up2_ne h) (fun _ _ _ => rfl) (fun _ _ _ => rfl) (fv_sI (κ := fun j => kd (tyC c0 j)) (by show kd (tyC c0 k) = 0; rw [hty]; rfl)) hdg kk
theorem m_putZ (X : Cx p m c cc nL s args own D cA) (hw : wS D cA z0 s σ H locs) (K : Cls c0 C T N) (hT : gT σ a = c0) (k : Nat) (hk : k < N) (hlink : Cond.fieldLink own index ref (T k).2.1 (T k).2.2.1 ∈ gTab) (hsame : ∀ x, s.fieldFound? (T k).1 (T k).2.1 (T k).2.2.1 = some x → s.fieldFound? ref (T k).2.1 (T k).2.2.1 = some x) (hfin : (T k).2.2.2 = false) {v : Int32} (hty : tyC c0 k = .boolean) (hv : v = 0 ∨ v = 1)
    (hdg : decode cc pc = .ok (.putfield index, 3)) (kk : ∀ (H1 : Heap) (locs1 : List Loc), wS D cA z0 s (sI σ a k v) H1 locs1 → W p l e R s m args below meth c H1 locs1 cells slots Q (F0 m (pc + 3) ls rest)) : W p l e R s m args below meth c H locs cells slots Q (F0 m pc ls (.int v :: .ref a :: rest)) :=
  m_put X hw K hT k hk hlink hsame hfin (by rw [hty]; rcases hv with rfl | rfl <;> decide) (by rw [hty]; rcases hv with rfl | rfl <;> decide) (σ' := sI σ a k v) rfl (fun _ => rfl) (fun _ => rfl) (fun _ _ h => up2_ne h) (fun _ _ _ => rfl) (fun _ _ _ => rfl) (fv_sI (κ := fun j => kd (tyC c0 j)) (by show kd (tyC c0 k) = 0; rw [hty]; rfl)) hdg kk
theorem m_putL (X : Cx p m c cc nL s args own D cA) (hw : wS D cA z0 s σ H locs) (K : Cls c0 C T N) (hT : gT σ a = c0) (k : Nat) (hk : k < N) (hlink : Cond.fieldLink own index ref (T k).2.1 (T k).2.2.1 ∈ gTab) (hsame : ∀ x, s.fieldFound? (T k).1 (T k).2.1 (T k).2.2.1 = some x → s.fieldFound? ref (T k).2.1 (T k).2.2.1 = some x) (hfin : (T k).2.2.2 = false) {v : Int64} (hty : tyC c0 k = .long)
    (hdg : decode cc pc = .ok (.putfield index, 3)) (kk : ∀ (H1 : Heap) (locs1 : List Loc), wS D cA z0 s (sL σ a k v) H1 locs1 → W p l e R s m args below meth c H1 locs1 cells slots Q (F0 m (pc + 3) ls rest)) : W p l e R s m args below meth c H locs cells slots Q (F0 m pc ls (.long v :: .ref a :: rest)) :=
  m_put X hw K hT k hk hlink hsame hfin (by rw [hty]; rfl) (by rw [hty]; rfl) (σ' := sL σ a k v) rfl (fun _ => rfl) (fun _ => rfl) (fun _ _ _ => rfl) (fun _ _ h => up2_ne h) (fun _ _ _ => rfl) (fv_sL (κ := fun j => kd (tyC c0 j)) (by show kd (tyC c0 k) = 1; rw [hty]; rfl)) hdg kk
theorem m_putP (X : Cx p m c cc nL s args own D cA) (hw : wS D cA z0 s σ H locs) (K : Cls c0 C T N) (hT : gT σ a = c0) (k : Nat) (hk : k < N) (hlink : Cond.fieldLink own index ref (T k).2.1 (T k).2.2.1 ∈ gTab) (hsame : ∀ x, s.fieldFound? (T k).1 (T k).2.1 (T k).2.2.1 = some x → s.fieldFound? ref (T k).2.1 (T k).2.2.1 = some x) (hfin : (T k).2.2.2 = false) {b : Nat} (hkd : kd (tyC c0 k) = 2) (hn : narrow (tyC c0 k) (.ref b) = .ref b) (hfit : fits (tyC c0 k) (.ref b) = true)
    (hdg : decode cc pc = .ok (.putfield index, 3)) (kk : ∀ (H1 : Heap) (locs1 : List Loc), wS D cA z0 s (sP σ a k (some b)) H1 locs1 → W p l e R s m args below meth c H1 locs1 cells slots Q (F0 m (pc + 3) ls rest)) : W p l e R s m args below meth c H locs cells slots Q (F0 m pc ls (.ref b :: .ref a :: rest)) :=
  m_put X hw K hT k hk hlink hsame hfin hn hfit (σ' := sP σ a k (some b)) rfl (fun _ => rfl) (fun _ => rfl) (fun _ _ _ => rfl) (fun _ _ _ => rfl) (fun _ _ h => up2_ne h) (fv_sP (κ := fun j => kd (tyC c0 j)) hkd) hdg kk
theorem m_putFI (X : Cx p m c cc nL s args own D cA) (hin2 : meth.name = "<init>") (hw : wS D cA z0 s σ H locs) (K : Cls c0 C T N) (hT : gT σ a = c0) (k : Nat) (hk : k < N) (hlink : Cond.fieldLink own index ref (T k).2.1 (T k).2.2.1 ∈ gTab) (hsame : ∀ x, s.fieldFound? (T k).1 (T k).2.1 (T k).2.2.1 = some x → s.fieldFound? ref (T k).2.1 (T k).2.2.1 = some x) (hfin : (T k).2.2.2 = true) (hdecl : (T k).1 = own) {v : Int32} (hty : tyC c0 k = .int)
    (hdg : decode cc pc = .ok (.putfield index, 3)) (kk : ∀ (H1 : Heap) (locs1 : List Loc), wS D cA z0 s (sI σ a k v) H1 locs1 → W p l e R s m args below meth c H1 locs1 cells slots Q (F0 m (pc + 3) ls rest)) : W p l e R s m args below meth c H locs cells slots Q (F0 m pc ls (.int v :: .ref a :: rest)) :=
  m_putF X hin2 hw K hT k hk hlink hsame hfin hdecl (by rw [hty]; rfl) (by rw [hty]; rfl) (σ' := sI σ a k v) rfl (fun _ => rfl) (fun _ => rfl) (fun _ _ h => up2_ne h) (fun _ _ _ => rfl) (fun _ _ _ => rfl) (fv_sI (κ := fun j => kd (tyC c0 j)) (by show kd (tyC c0 k) = 0; rw [hty]; rfl)) hdg kk
theorem m_putFP (X : Cx p m c cc nL s args own D cA) (hin2 : meth.name = "<init>") (hw : wS D cA z0 s σ H locs) (K : Cls c0 C T N) (hT : gT σ a = c0) (k : Nat) (hk : k < N) (hlink : Cond.fieldLink own index ref (T k).2.1 (T k).2.2.1 ∈ gTab) (hsame : ∀ x, s.fieldFound? (T k).1 (T k).2.1 (T k).2.2.1 = some x → s.fieldFound? ref (T k).2.1 (T k).2.2.1 = some x) (hfin : (T k).2.2.2 = true) (hdecl : (T k).1 = own) {b : Nat} (hkd : kd (tyC c0 k) = 2) (hn : narrow (tyC c0 k) (.ref b) = .ref b) (hfit : fits (tyC c0 k) (.ref b) = true)
    (hdg : decode cc pc = .ok (.putfield index, 3)) (kk : ∀ (H1 : Heap) (locs1 : List Loc), wS D cA z0 s (sP σ a k (some b)) H1 locs1 → W p l e R s m args below meth c H1 locs1 cells slots Q (F0 m (pc + 3) ls rest)) : W p l e R s m args below meth c H locs cells slots Q (F0 m pc ls (.ref b :: .ref a :: rest)) :=
  m_putF X hin2 hw K hT k hk hlink hsame hfin hdecl hn hfit (σ' := sP σ a k (some b)) rfl (fun _ => rfl) (fun _ => rfl) (fun _ _ _ => rfl) (fun _ _ _ => rfl) (fun _ _ h => up2_ne h) (fv_sP (κ := fun j => kd (tyC c0 j)) hkd) hdg kk
-- arrays
theorem arr_ty (hK : KN D cA s) : ∀ t, t < 7 → ArrOfT s (cA t) (tyA t) ∧ va_RA s (cA t) (tyA t)
  | 0, _ => hK.1.2 0 _ rfl
  | 1, _ => hK.1.2 1 _ rfl
  | 2, _ => hK.1.2 2 _ rfl
  | 3, _ => hK.1.2 3 _ rfl
  | 4, _ => hK.1.2 4 _ rfl
  | 5, _ => hK.1.2 5 _ rfl
  | 6, _ => hK.1.2 6 _ rfl
  | n + 7, h => absurd h (by omega)
theorem m_alen (X : Cx p m c cc nL s args own D cA) (hw : wS D cA z0 s σ H locs) {t : Nat} (ht : t < 7) (hT : gT σ a = 20 + t) (hdg : decode cc pc = .ok (.arraylength, 1))
    (kk : W p l e R s m args below meth c H locs cells slots Q (F0 m (pc + 1) ls (.int (nI (gN σ a)) :: rest))) : W p l e R s m args below meth c H locs cells slots Q (F0 m pc ls (.ref a :: rest)) := by
  obtain ⟨⟨hx, hb, hml, hown, hts⟩, hK⟩ := X
  obtain ⟨h1, h2, h3⟩ := wd_arr hw.1 hT (by omega)
  exact W.alen (n := nI (gN σ a)) hx hb h3 ((arr_ty hK t ht).1 _ _) (by rw [arrV_size] <;> rfl) rfl rfl hdg kk
theorem m_iald (X : Cx p m c cc nL s args own D cA) (hw : wS D cA z0 s σ H locs) (hT : gT σ a = 20) {i : Int32} (hin : vp_in i (gN σ a)) (hdg : decode cc pc = .ok (.iaload, 1))
    (kk : W p l e R s m args below meth c H locs cells slots Q (F0 m (pc + 1) ls (.int (gI σ a i.toNatClampNeg) :: rest))) : W p l e R s m args below meth c H locs cells slots Q (F0 m pc ls (.int i :: .ref a :: rest)) := by
  obtain ⟨⟨hx, hb, hml, hown, hts⟩, hK⟩ := X
  obtain ⟨h1, h2, h3⟩ := wd_arr (t := 0) hw.1 hT (by omega)
  have hlt : i.toNatClampNeg < gN σ a := Nat.not_le.mp fun q => hin (Or.inr q)
  exact W.iald (v := .int (gI σ a i.toNatClampNeg)) hx hb h3 ((arr_ty hK 0 (by omega)).1 _ _) (fun q => by cases q) (by rw [arrV_size]; exact hin) (by rw [arrV_read _ _ hlt]; rfl) rfl rfl hdg kk
theorem m_lald (X : Cx p m c cc nL s args own D cA) (hw : wS D cA z0 s σ H locs) (hT : gT σ a = 21) {i : Int32} (hin : vp_in i (gN σ a)) (hdg : decode cc pc = .ok (.laload, 1))
    (kk : W p l e R s m args below meth c H locs cells slots Q (F0 m (pc + 1) ls (.long (gL σ a i.toNatClampNeg) :: rest))) : W p l e R s m args below meth c H locs cells slots Q (F0 m pc ls (.int i :: .ref a :: rest)) := by
  obtain ⟨⟨hx, hb, hml, hown, hts⟩, hK⟩ := X
  obtain ⟨h1, h2, h3⟩ := wd_arr (t := 1) hw.1 hT (by omega)
  have hlt : i.toNatClampNeg < gN σ a := Nat.not_le.mp fun q => hin (Or.inr q)
  exact W.lald (v := .long (gL σ a i.toNatClampNeg)) hx hb h3 ((arr_ty hK 1 (by omega)).1 _ _) (fun q => by cases q) (by rw [arrV_size]; exact hin) (by rw [arrV_read _ _ hlt]; rfl) rfl rfl hdg kk
theorem m_zald (X : Cx p m c cc nL s args own D cA) (hw : wS D cA z0 s σ H locs) (hT : gT σ a = 22) {i : Int32} (hin : vp_in i (gN σ a)) (hdg : decode cc pc = .ok (.baload, 1))
    (kk : W p l e R s m args below meth c H locs cells slots Q (F0 m (pc + 1) ls (.int (gI σ a i.toNatClampNeg) :: rest))) : W p l e R s m args below meth c H locs cells slots Q (F0 m pc ls (.int i :: .ref a :: rest)) := by
  obtain ⟨⟨hx, hb, hml, hown, hts⟩, hK⟩ := X
  obtain ⟨h1, h2, h3⟩ := wd_arr (t := 2) hw.1 hT (by omega)
  have hlt : i.toNatClampNeg < gN σ a := Nat.not_le.mp fun q => hin (Or.inr q)
  exact W.zald (v := .int (gI σ a i.toNatClampNeg)) hx hb h3 ((arr_ty hK 2 (by omega)).1 _ _) (fun q => by cases q) (by rw [arrV_size]; exact hin) (by rw [arrV_read _ _ hlt]; rfl) rfl rfl hdg kk
theorem m_bald (X : Cx p m c cc nL s args own D cA) (hw : wS D cA z0 s σ H locs) (hT : gT σ a = 23) {i : Int32} (hin : vp_in i (gN σ a)) (hdg : decode cc pc = .ok (.baload, 1))
    (kk : W p l e R s m args below meth c H locs cells slots Q (F0 m (pc + 1) ls (.int (gI σ a i.toNatClampNeg) :: rest))) : W p l e R s m args below meth c H locs cells slots Q (F0 m pc ls (.int i :: .ref a :: rest)) := by
  obtain ⟨⟨hx, hb, hml, hown, hts⟩, hK⟩ := X
  obtain ⟨h1, h2, h3⟩ := wd_arr (t := 3) hw.1 hT (by omega)
  have hlt : i.toNatClampNeg < gN σ a := Nat.not_le.mp fun q => hin (Or.inr q)
  exact W.bald (v := .int (gI σ a i.toNatClampNeg)) hx hb h3 ((arr_ty hK 3 (by omega)).1 _ _) (fun q => by cases q) (by rw [arrV_size]; exact hin) (by rw [arrV_read _ _ hlt]; rfl) rfl rfl hdg kk
/-- a reference out of an array of Books (24), Rules (25), byte rows (26): perhaps null -/
theorem m_aald (X : Cx p m c cc nL s args own D cA) (hw : wS D cA z0 s σ H locs) {t : Nat} (ht : t = 4 ∨ t = 5 ∨ t = 6) (hT : gT σ a = 20 + t) {i : Int32} (hin : vp_in i (gN σ a)) (hdg : decode cc pc = .ok (.aaload, 1))
    (kk : W p l e R s m args below meth c H locs cells slots Q (F0 m (pc + 1) ls (va_rf (gP σ a i.toNatClampNeg) :: rest))) : W p l e R s m args below meth c H locs cells slots Q (F0 m pc ls (.int i :: .ref a :: rest)) := by
  obtain ⟨⟨hx, hb, hml, hown, hts⟩, hK⟩ := X
  obtain ⟨h1, h2, h3⟩ := wd_arr hw.1 hT (by omega)
  have hlt : i.toNatClampNeg < gN σ a := Nat.not_le.mp fun q => hin (Or.inr q)
  have e : fv (kd (tyA t)) σ a i.toNatClampNeg = va_rf (gP σ a i.toNatClampNeg) := by rcases ht with rfl | rfl | rfl <;> rfl
  exact W.aald (v := va_rf (gP σ a i.toNatClampNeg)) (ty := tyA t) hx hb h3 ((arr_ty hK t (by omega)).1 _ _) (by rcases ht with rfl | rfl | rfl <;> rfl) (fun q => by cases q) (by rw [arrV_size]; exact hin) (by rw [arrV_read _ _ hlt, e]) rfl rfl hdg kk
theorem wd_ast {t i : Nat} {v : Value} {H' : Heap} {σ' : Me} (hw : wS D cA z0 s σ H locs) (ht : t < 7) (hT : gT σ a = 20 + t)
    (hz : gz σ' = gz σ) (hTT : ∀ q, gT σ' q = gT σ q) (hNN : ∀ q, gN σ' q = gN σ q) (hI : ∀ q j, q ≠ a → gI σ' q j = gI σ q j) (hL : ∀ q j, q ≠ a → gL σ' q j = gL σ q j) (hP : ∀ q j, q ≠ a → gP σ' q j = gP σ q j) (hf : ∀ j, fv (kd (tyA t)) σ' a j = updV (fun j => fv (kd (tyA t)) σ a j) i v j)
    (e1 : H'[a]? = some ((arrV (cA t) (gN σ a) (fun k => fv (kd (tyA t)) σ a k)).setSlot i v)) (e2 : H'.size = H.size) (e3 : ∀ q, q ≠ a → H'[q]? = H[q]?) : wS D cA z0 s σ' H' (locs ++ [⟨a, i⟩]) := by
  obtain ⟨h1, h2, h3⟩ := wd_arr hw.1 hT (by omega)
  refine ⟨wd_set hw.1 hz hTT hNN hI hL hP e2 e3 ⟨fun h => ?_, fun h => ?_⟩, va_S_put hw.2 h1 e2 e3⟩
  · rw [hTT, hT] at h
    omega
  · rw [hTT, hT, hNN, Nat.add_sub_cancel_left, e1, arrV_store]
    congr 2
    funext j
    exact (hf j).symm
theorem m_iast (X : Cx p m c cc nL s args own D cA) (hw : wS D cA z0 s σ H locs) (hT : gT σ a = 20) {i x : Int32} (hin : vp_in i (gN σ a)) (hdg : decode cc pc = .ok (.iastore, 1))
    (kk : ∀ (H1 : Heap) (locs1 : List Loc), wS D cA z0 s (sI σ a i.toNatClampNeg x) H1 locs1 → W p l e R s m args below meth c H1 locs1 cells slots Q (F0 m (pc + 1) ls rest)) : W p l e R s m args below meth c H locs cells slots Q (F0 m pc ls (.int x :: .int i :: .ref a :: rest)) := by
  obtain ⟨⟨hx, hb, hml, hown, hts⟩, hK⟩ := X
  obtain ⟨h1, h2, h3⟩ := wd_arr (t := 0) hw.1 hT (by omega)
  refine W.iast hx hb h3 ((arr_ty hK 0 (by omega)).1 _ _) (fun q => by cases q) (by rw [arrV_size]; exact hin) rfl rfl hdg fun H' e1 e2 e3 => ?_
  exact kk H' _ (wd_ast (t := 0) hw (by omega) hT rfl (fun _ => rfl) (fun _ => rfl) (fun _ _ h => up2_ne h) (fun _ _ _ => rfl) (fun _ _ _ => rfl) (fv_sI (κ := fun _ => 0) rfl) e1 e2 e3)
theorem m_bast (X : Cx p m c cc nL s args own D cA) (hw : wS D cA z0 s σ H locs) (hT : gT σ a = 23) {i x : Int32} (hin : vp_in i (gN σ a)) (hdg : decode cc pc = .ok (.bastore, 1))
    (kk : ∀ (H1 : Heap) (locs1 : List Loc), wS D cA z0 s (sI σ a i.toNatClampNeg (vp_nar .byte x)) H1 locs1 → W p l e R s m args below meth c H1 locs1 cells slots Q (F0 m (pc + 1) ls rest)) : W p l e R s m args below meth c H locs cells slots Q (F0 m pc ls (.int x :: .int i :: .ref a :: rest)) := by
  obtain ⟨⟨hx, hb, hml, hown, hts⟩, hK⟩ := X
  obtain ⟨h1, h2, h3⟩ := wd_arr (t := 3) hw.1 hT (by omega)
  refine W.bast hx hb h3 ((arr_ty hK 3 (by omega)).1 _ _) (fun q => by cases q) (by rw [arrV_size]; exact hin) rfl rfl hdg fun H' e1 e2 e3 => ?_
  exact kk H' _ (wd_ast (t := 3) hw (by omega) hT rfl (fun _ => rfl) (fun _ => rfl) (fun _ _ h => up2_ne h) (fun _ _ _ => rfl) (fun _ _ _ => rfl) (fv_sI (κ := fun _ => 0) rfl) e1 e2 e3)
theorem m_zast (X : Cx p m c cc nL s args own D cA) (hw : wS D cA z0 s σ H locs) (hT : gT σ a = 22) {i x : Int32} (hin : vp_in i (gN σ a)) (hdg : decode cc pc = .ok (.bastore, 1))
    (kk : ∀ (H1 : Heap) (locs1 : List Loc), wS D cA z0 s (sI σ a i.toNatClampNeg (vp_nar .boolean x)) H1 locs1 → W p l e R s m args below meth c H1 locs1 cells slots Q (F0 m (pc + 1) ls rest)) : W p l e R s m args below meth c H locs cells slots Q (F0 m pc ls (.int x :: .int i :: .ref a :: rest)) := by
  obtain ⟨⟨hx, hb, hml, hown, hts⟩, hK⟩ := X
  obtain ⟨h1, h2, h3⟩ := wd_arr (t := 2) hw.1 hT (by omega)
  refine W.zast hx hb h3 ((arr_ty hK 2 (by omega)).1 _ _) (fun q => by cases q) (by rw [arrV_size]; exact hin) rfl rfl hdg fun H' e1 e2 e3 => ?_
  exact kk H' _ (wd_ast (t := 2) hw (by omega) hT rfl (fun _ => rfl) (fun _ => rfl) (fun _ _ h => up2_ne h) (fun _ _ _ => rfl) (fun _ _ _ => rfl) (fv_sI (κ := fun _ => 0) rfl) e1 e2 e3)
theorem m_last (X : Cx p m c cc nL s args own D cA) (hw : wS D cA z0 s σ H locs) (hT : gT σ a = 21) {i : Int32} {x : Int64} (hin : vp_in i (gN σ a)) (hdg : decode cc pc = .ok (.lastore, 1))
    (kk : ∀ (H1 : Heap) (locs1 : List Loc), wS D cA z0 s (sL σ a i.toNatClampNeg x) H1 locs1 → W p l e R s m args below meth c H1 locs1 cells slots Q (F0 m (pc + 1) ls rest)) : W p l e R s m args below meth c H locs cells slots Q (F0 m pc ls (.long x :: .int i :: .ref a :: rest)) := by
  obtain ⟨⟨hx, hb, hml, hown, hts⟩, hK⟩ := X
  obtain ⟨h1, h2, h3⟩ := wd_arr (t := 1) hw.1 hT (by omega)
  refine W.last hx hb h3 ((arr_ty hK 1 (by omega)).1 _ _) (fun q => by cases q) (by rw [arrV_size]; exact hin) rfl rfl hdg fun H' e1 e2 e3 => ?_
  exact kk H' _ (wd_ast (t := 1) hw (by omega) hT rfl (fun _ => rfl) (fun _ => rfl) (fun _ _ _ => rfl) (fun _ _ h => up2_ne h) (fun _ _ _ => rfl) (fv_sL (κ := fun _ => 1) rfl) e1 e2 e3)
end MR
