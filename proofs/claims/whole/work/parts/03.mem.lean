/-! A memory as a value: size, the kind of each cell, the length of each array, ints, longs, references. Kinds: 0 .. 12 an object of that class, 20 + k an array of tyA k, anything else: not ours. -/
abbrev Me : Type := Nat × (Nat → Nat) × (Nat → Nat) × (Nat → Nat → Int32) × (Nat → Nat → Int64) × (Nat → Nat → Option Nat)
def gz (σ : Me) : Nat := σ.1
def gT (σ : Me) (a : Nat) : Nat := σ.2.1 a
def gN (σ : Me) (a : Nat) : Nat := σ.2.2.1 a
def gI (σ : Me) (a k : Nat) : Int32 := σ.2.2.2.1 a k
def gL (σ : Me) (a k : Nat) : Int64 := σ.2.2.2.2.1 a k
def gP (σ : Me) (a k : Nat) : Option Nat := σ.2.2.2.2.2 a k
def up2 {α : Type} (f : Nat → Nat → α) (a k : Nat) (v : α) : Nat → Nat → α := fun b j => if b = a ∧ j = k then v else f b j
def sI (σ : Me) (a k : Nat) (v : Int32) : Me := (σ.1, σ.2.1, σ.2.2.1, up2 σ.2.2.2.1 a k v, σ.2.2.2.2.1, σ.2.2.2.2.2)
def sL (σ : Me) (a k : Nat) (v : Int64) : Me := (σ.1, σ.2.1, σ.2.2.1, σ.2.2.2.1, up2 σ.2.2.2.2.1 a k v, σ.2.2.2.2.2)
def sP (σ : Me) (a k : Nat) (v : Option Nat) : Me := (σ.1, σ.2.1, σ.2.2.1, σ.2.2.2.1, σ.2.2.2.2.1, up2 σ.2.2.2.2.2 a k v)
/-- a new cell of kind t, of length n (an array), all 0 -/
def nw (σ : Me) (t n : Nat) : Me := (σ.1 + 1, va_up σ.2.1 σ.1 t, va_up σ.2.2.1 σ.1 n, va_up σ.2.2.2.1 σ.1 (fun _ => 0), va_up σ.2.2.2.2.1 σ.1 (fun _ => 0), va_up σ.2.2.2.2.2 σ.1 (fun _ => none))
def kd (t : FieldType) : Nat := match t with
  | .long => 1
  | .object _ => 2
  | .array _ => 2
  | .float => 3
  | .double => 3
  | _ => 0
def fv (κ : Nat) (σ : Me) (a k : Nat) : Value := match κ with
  | 0 => .int (gI σ a k)
  | 1 => .long (gL σ a k)
  | _ => va_rf (gP σ a k)
def cel (D : va_G) (cA : Nat → ClassId) (σ : Me) (q : Nat) (H : Heap) : Prop :=
  (gT σ q < 20 → ∃ r : vw_C, classes[gT σ q]? = some r ∧ t_OB q (D.1 (gT σ q)) r.2.2 (D.2 (gT σ q)) H (fun k => fv (kd (tyC (gT σ q) k)) σ q k)) ∧
  (20 ≤ gT σ q → H[q]? = some (arrV (cA (gT σ q - 20)) (gN σ q) (fun k => fv (kd (tyA (gT σ q - 20))) σ q k)))
def wd (D : va_G) (cA : Nat → ClassId) (z0 : Nat) (σ : Me) (H : Heap) : Prop := H.size = gz σ ∧ z0 ≤ gz σ ∧ ∀ q : Nat, gT σ q < 30 → z0 ≤ q ∧ q < gz σ ∧ cel D cA σ q H
theorem fv_same {κ : Nat} {σ σ' : Me} {q : Nat} (hI : ∀ j, gI σ' q j = gI σ q j) (hL : ∀ j, gL σ' q j = gL σ q j) (hP : ∀ j, gP σ' q j = gP σ q j) (k : Nat) : fv κ σ' q k = fv κ σ q k := by
  unfold fv
  rw [hI, hL, hP]
theorem cel_same {D : va_G} {cA : Nat → ClassId} {σ σ' : Me} {q : Nat} {H H' : Heap} (h : cel D cA σ q H) (hT : gT σ' q = gT σ q) (hN : gN σ' q = gN σ q) (hI : ∀ j, gI σ' q j = gI σ q j) (hL : ∀ j, gL σ' q j = gL σ q j) (hP : ∀ j, gP σ' q j = gP σ q j) (hq : H'[q]? = H[q]?) : cel D cA σ' q H' := by
  unfold cel at *
  rw [hT, hN]
  refine ⟨fun hc => ?_, fun hc => ?_⟩
  · obtain ⟨r, h1, h2⟩ := h.1 hc
    exact ⟨r, h1, (h2.kept hq).to fun k _ => (fv_same hI hL hP k).symm⟩
  · rw [hq, h.2 hc]
    congr 2
    funext k
    exact (fv_same hI hL hP k).symm
theorem up2_ne {α : Type} {f : Nat → Nat → α} {a k b j : Nat} {v : α} (h : b ≠ a) : up2 f a k v b j = f b j := by simp [up2, h]
theorem up2_nk {α : Type} {f : Nat → Nat → α} {a k b j : Nat} {v : α} (h : j ≠ k) : up2 f a k v b j = f b j := by simp [up2, h]
theorem up2_eq {α : Type} {f : Nat → Nat → α} {a k : Nat} {v : α} : up2 f a k v a k = v := by simp [up2]
/-- the words that go with a call, and those that are kept beside -/
def gTab : List Cond := lw_tbl.filter goodWord
theorem gTab_in {w : Cond} (i : Nat) (h : lw_tbl[i]? = some w) (hg : goodWord w = true) : w ∈ gTab := List.mem_filter.mpr ⟨List.mem_of_getElem? h, hg⟩
theorem gTab_good : GoodIn gTab gTab := fun w h => ⟨h, good_of_word (List.mem_filter.mp h).2⟩
theorem gTab_call {w : Cond} (h : w ∈ gTab) : GoodIn gTab (w :: gTab) := fun x hx => by
  rcases List.mem_cons.mp hx with rfl | hx
  · exact gTab_good _ h
  · exact gTab_good _ hx
def nestW : List Cond := [.methodLinkNest "SendForMore" 32 yX6_init "SendForMore", .methodLinkNest "SendForMore" 50 yX1_init "SendForMore", .methodLinkNest "SendForMore" 53 yX8_init "SendForMore", .methodLinkNest "SendForMore$Table" 3 yX5_init "SendForMore", .methodLinkNest "SendForMore$Base" 3 yX5_init "SendForMore", .methodLinkNest "SendForMore$Lot" 3 yX5_init "SendForMore", .methodLinkNest "SendForMore$Table" 30 yX11_isWithin "SendForMore", .methodLinkNest "SendForMore$Walk" 33 yX11_cutOrder "SendForMore", .methodLinkNest "SendForMore$Walk" 42 yX11_isPosition "SendForMore", .methodLinkNest "SendForMore$Walk" 62 yX11_rowsOf "SendForMore", .methodLinkNest "SendForMore$Planner" 39 yX11_rowsOf "SendForMore"]
def declW : List Cond := [.declares ⟨"SendForMore$Rule", "kindNumber", "()I"⟩, .declares ⟨"SendForMore$Rule", "wants", "(I)I"⟩]
def castW : List Cond := [.castable "SendForMore$Pair" "SendForMore$Base", .castable "SendForMore$Table" "SendForMore$Rule", .castable "SendForMore$Base" "SendForMore$Rule", .castable "SendForMore$Pair" "SendForMore$Rule", .castable "SendForMore$Lot" "SendForMore$Rule"]
def noCast : List (String × String) := [("SendForMore$Lot", "SendForMore$Base"), ("SendForMore$Table", "SendForMore$Base"), ("SendForMore$Base", "SendForMore$Pair"), ("SendForMore$Lot", "SendForMore$Pair"), ("SendForMore$Table", "SendForMore$Pair"), ("SendForMore$Base", "SendForMore$Lot"), ("SendForMore$Pair", "SendForMore$Lot"), ("SendForMore$Table", "SendForMore$Lot")]
abbrev tysL (cA : Nat → ClassId) : List (ClassId × FieldType) := [(cA 0, .int), (cA 1, .long), (cA 2, .boolean), (cA 3, .byte), (cA 4, .object "SendForMore$Book"), (cA 5, .object "SendForMore$Rule"), (cA 6, .array .byte)]
/-- what is known of the machine's tables, over and above the words -/
def KN (D : va_G) (cA : Nat → ClassId) (U : State) : Prop := va_K D classes (tysL cA) U ∧ (∀ w ∈ nestW, va_Nw w U) ∧ (∀ w ∈ declW, va_Nw w U) ∧ (∀ w ∈ castW, va_Nw w U) ∧ (∀ q ∈ noCast, va_Nc q.1 q.2 U) ∧ (∃ (cR : ClassId) (kR : Class), U.vm.findClass RX5 = some cR ∧ U.vm.classes[cR]? = some kR)
theorem KN.warm {D : va_G} {cA : Nat → ClassId} {s U : State} (hW : s.WarmedH U.vm) (h : KN D cA s) : KN D cA U := by
  obtain ⟨h1, h2, h3, h4, h5, cR, kR, h6, h7⟩ := h
  obtain ⟨kR', h7', -⟩ := hW.alike.2.2 _ _ h7
  refine ⟨va_K.moved hW.alike h1, ?_, ?_, ?_, fun q hq => va_Nc.moved hW.alike (h5 q hq), cR, kR', by rw [hW.alike.findClass]; exact h6, h7'⟩
  · unfold nestW at *
    simp only [List.forall_mem_cons] at h2 ⊢
    obtain ⟨a1, a2, a3, a4, a5, a6, a7, a8, a9, a10, a11, -⟩ := h2
    exact ⟨va_Nw.warmM hW a1, va_Nw.warmM hW a2, va_Nw.warmM hW a3, va_Nw.warmM hW a4, va_Nw.warmM hW a5, va_Nw.warmM hW a6, va_Nw.warmM hW a7, va_Nw.warmM hW a8, va_Nw.warmM hW a9, va_Nw.warmM hW a10, va_Nw.warmM hW a11, fun _ h => absurd h List.not_mem_nil⟩
  · unfold declW at *
    simp only [List.forall_mem_cons] at h3 ⊢
    obtain ⟨a1, a2, -⟩ := h3
    exact ⟨va_Nw.warmD hW a1, va_Nw.warmD hW a2, fun _ h => absurd h List.not_mem_nil⟩
  · unfold castW at *
    simp only [List.forall_mem_cons] at h4 ⊢
    obtain ⟨a1, a2, a3, a4, a5, -⟩ := h4
    exact ⟨va_Nw.warmC hW a1, va_Nw.warmC hW a2, va_Nw.warmC hW a3, va_Nw.warmC hW a4, va_Nw.warmC hW a5, fun _ h => absurd h List.not_mem_nil⟩
/-- a class of the world: its number, name, fields -/
def Cls (c0 : Nat) (C : String) (T : u_T) (N : Nat) : Prop := classes[c0]? = some (C, T, N) ∧ (∀ w ∈ u_ws C T N, w ∈ gTab) ∧ (∀ k, k < N → parseFieldDescriptor (T k).2.2.1 = some (tyC c0 k)) ∧ (∀ a, a < N → ∀ b, b < N → a ≠ b → (T a).2.1 ≠ (T b).2.1) ∧ c0 < 20
theorem gTab_sub {ws : List Cond} (h : ws.all (fun w => decide (w ∈ lw_tbl) && goodWord w) = true) : ∀ w ∈ ws, w ∈ gTab := by
  intro w hw
  have h1 := List.all_eq_true.mp h w hw
  simp only [Bool.and_eq_true, decide_eq_true_eq] at h1
  exact List.mem_filter.mpr h1
theorem cl0 : Cls 0 RX0 TX0 1 := ⟨rfl, gTab_sub (by decide +kernel), tyX0_ok, nmX0, by decide⟩
theorem cl1 : Cls 1 RX1 TX1 2 := ⟨rfl, gTab_sub (by decide +kernel), tyX1_ok, nmX1, by decide⟩
theorem cl2 : Cls 2 RX2 TX2 2 := ⟨rfl, gTab_sub (by decide +kernel), tyX2_ok, nmX2, by decide⟩
theorem cl3 : Cls 3 RX3 TX3 2 := ⟨rfl, gTab_sub (by decide +kernel), tyX3_ok, nmX3, by decide⟩
theorem cl4 : Cls 4 RX4 TX4 7 := ⟨rfl, gTab_sub (by decide +kernel), tyX4_ok, nmX4, by decide⟩
theorem cl6 : Cls 6 RX6 TX6 10 := ⟨rfl, gTab_sub (by decide +kernel), tyX6_ok, nmX6, by decide⟩
theorem cl7 : Cls 7 RX7 TX7 6 := ⟨rfl, gTab_sub (by decide +kernel), tyX7_ok, nmX7, by decide⟩
theorem cl8 : Cls 8 RX8 TX8 6 := ⟨rfl, gTab_sub (by decide +kernel), tyX8_ok, nmX8, by decide⟩
theorem cl9 : Cls 9 RX9 TX9 1 := ⟨rfl, gTab_sub (by decide +kernel), tyX9_ok, nmX9, by decide⟩
theorem cl10 : Cls 10 RX10 TX10 8 := ⟨rfl, gTab_sub (by decide +kernel), tyX10_ok, nmX10, by decide⟩
theorem cl11 : Cls 11 RX11 TX11 18 := ⟨rfl, gTab_sub (by decide +kernel), tyX11_ok, nmX11, by decide⟩
theorem cl12 : Cls 12 RX12 TX12 57 := ⟨rfl, gTab_sub (by decide +kernel), tyX12_ok, nmX12, by decide⟩
theorem wd_obj {D : va_G} {cA : Nat → ClassId} {z0 : Nat} {σ : Me} {H : Heap} {c0 a N : Nat} {C : String} {T : u_T} (hw : wd D cA z0 σ H) (K : Cls c0 C T N) (hT : gT σ a = c0) : z0 ≤ a ∧ a < gz σ ∧ t_OB a (D.1 c0) N (D.2 c0) H (fun k => fv (kd (tyC c0 k)) σ a k) := by
  have h20 : c0 < 20 := K.2.2.2.2
  obtain ⟨h1, h2, h3, -⟩ := hw.2.2 a (by omega)
  refine ⟨h1, h2, ?_⟩
  obtain ⟨r, hr, ho⟩ := h3 (by omega)
  rw [hT] at hr ho
  have e : r = (C, T, N) := Option.some.inj (hr.symm.trans K.1)
  subst e
  exact ho
theorem wd_arr {D : va_G} {cA : Nat → ClassId} {z0 : Nat} {σ : Me} {H : Heap} {a t : Nat} (hw : wd D cA z0 σ H) (hT : gT σ a = 20 + t) (ht : t < 10) : z0 ≤ a ∧ a < gz σ ∧ H[a]? = some (arrV (cA t) (gN σ a) (fun k => fv (kd (tyA t)) σ a k)) := by
  obtain ⟨h1, h2, -, h3⟩ := hw.2.2 a (by omega)
  refine ⟨h1, h2, ?_⟩
  have h4 := h3 (by omega)
  rw [hT, Nat.add_sub_cancel_left] at h4
  exact h4
theorem wd_set {D : va_G} {cA : Nat → ClassId} {z0 a : Nat} {σ σ' : Me} {H H' : Heap} (hw : wd D cA z0 σ H) (hz : gz σ' = gz σ) (hT : ∀ q, gT σ' q = gT σ q) (hN : ∀ q, gN σ' q = gN σ q) (hI : ∀ q j, q ≠ a → gI σ' q j = gI σ q j) (hL : ∀ q j, q ≠ a → gL σ' q j = gL σ q j) (hP : ∀ q j, q ≠ a → gP σ' q j = gP σ q j)
    (he2 : H'.size = H.size) (he3 : ∀ q, q ≠ a → H'[q]? = H[q]?) (ha : cel D cA σ' a H') : wd D cA z0 σ' H' := by
  refine ⟨by rw [he2, hz]; exact hw.1, by rw [hz]; exact hw.2.1, fun q hq => ?_⟩
  rw [hT] at hq
  obtain ⟨h1, h2, h3⟩ := hw.2.2 q hq
  refine ⟨h1, by rw [hz]; exact h2, ?_⟩
  by_cases e : q = a
  · subst e; exact ha
  · exact cel_same h3 (hT q) (hN q) (fun j => hI q j e) (fun j => hL q j e) (fun j => hP q j e) (he3 q e)
theorem fv_sI {κ : Nat → Nat} {σ : Me} {a k : Nat} {v : Int32} (h : κ k = 0) (j : Nat) : fv (κ j) (sI σ a k v) a j = updV (fun i => fv (κ i) σ a i) k (.int v) j := by
  by_cases e : j = k
  · subst e
    simp [updV, h, fv, gI, sI, up2]
  · have e1 : gI (sI σ a k v) a j = gI σ a j := up2_nk e
    unfold updV
    rw [if_neg e]
    unfold fv
    rw [e1]
    rfl
theorem fv_sL {κ : Nat → Nat} {σ : Me} {a k : Nat} {v : Int64} (h : κ k = 1) (j : Nat) : fv (κ j) (sL σ a k v) a j = updV (fun i => fv (κ i) σ a i) k (.long v) j := by
  by_cases e : j = k
  · subst e
    simp [updV, h, fv, gL, sL, up2]
  · have e1 : gL (sL σ a k v) a j = gL σ a j := up2_nk e
    unfold updV
    rw [if_neg e]
    unfold fv
    rw [e1]
    rfl
theorem fv_sP {κ : Nat → Nat} {σ : Me} {a k : Nat} {v : Option Nat} (h : κ k = 2) (j : Nat) : fv (κ j) (sP σ a k v) a j = updV (fun i => fv (κ i) σ a i) k (va_rf v) j := by
  by_cases e : j = k
  · subst e
    simp [updV, h, fv, gP, sP, up2]
  · have e1 : gP (sP σ a k v) a j = gP σ a j := up2_nk e
    unfold updV
    rw [if_neg e]
    unfold fv
    rw [e1]
    rfl
