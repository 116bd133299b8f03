/-! THE FLAT WORLD. All cells that the run makes lie behind 'base', in the order of their making: number k at base + k. What a cell is (its class, its length) is a closed table (Kd, Ln); what it holds: ints h k j, references r k j (numbers of cells). -/
abbrev Hp : Type := Nat → Nat → Int32
abbrev Rp : Type := Nat → Nat → Option Nat
def u2 {α : Type} (f : Nat → Nat → α) (a j : Nat) (v : α) : Nat → Nat → α := fun k => if k = a then (fun i => if i = j then v else f a i) else f k
abbrev cls : List vw_C := [(RX0, TX0, 3), (RX1, TX1, 6), (RX2, TX2, 4), (RX3, TX3, 5), (RX4, TX4, 7), (RX5, TX5, 9), (RX6, TX6, 7), (RX7, TX7, 13), (RX12, TX12, 47), (RX9, TX9, 9), (RX10, TX10, 2), (RX11, TX11, 11)]
def FT : List (List Bool) := [[false, false, false], [true, true, true, false, false, false], [true, true, true, false], [true, false, true, false, false], [true, true, true, false, false, false, false],
  [true, false, true, true, true, true, true, false, false], [true, false, true, true, true, false, false], [false, false, false, false, false, false, false, false, false, false, false, false, false], [false, true, false, true, false, false, true, false, false, false, true, true, true, true, true, true, true, true, false, true, true, true, false, false, false, false, false, true, true, true, true, true, true, true, false, false, true, false, false, false, true, true, true, false, false, false, false], [true, true, true, true, true, true, true, false, false], [true, false], [true, true, true, true, true, true, true, true, true, false, false]]
def nF (c : Nat) : Nat := (FT.getD c []).length
def rF (c j : Nat) : Bool := (FT.getD c []).getD j false
def KL : List Nat := [11, 10, 12, 4, 12, 12, 12, 1, 16, 7, 7, 7, 7, 7, 7, 7, 7, 7, 7, 7, 7, 7, 7, 7, 7, 7, 7, 7, 7, 7, 7, 7, 7, 7, 15, 9, 7, 7, 7, 7, 12, 6, 12, 14, 12, 3, 12, 5, 12, 12, 12, 12, 12, 2, 12, 12, 12, 1, 16, 7, 7, 7, 7, 7, 7, 7, 7, 7, 7, 7, 7, 7, 7, 7, 7, 7, 7, 7, 7, 7, 7, 7, 7, 7, 1, 16, 7, 7, 7, 7, 7, 7, 7, 7, 7, 7, 7, 7, 7, 7, 7, 7, 7, 7, 7, 7, 7, 7, 7, 7, 7, 8, 12, 12, 12, 12, 12, 12, 12, 12, 12, 12, 12, 12, 12, 13, 12, 12, 12, 12, 12, 12, 12, 12, 12, 12, 12]
def Kd (k : Nat) : Nat := KL.getD k 0
def LL : List Nat := [0, 0, 48, 0, 36, 49, 49, 0, 24, 0, 0, 0, 0, 0, 0, 0, 0, 0, 0, 0, 0, 0, 0, 0, 0, 0, 0, 0, 0, 0, 0, 0, 0, 0, 2, 0, 0, 0, 0, 0, 24, 0, 7056, 4, 16, 0, 441, 0, 441, 6, 6, 6, 6, 0, 16, 10, 10, 0, 24, 0, 0, 0, 0, 0, 0, 0, 0, 0, 0, 0, 0, 0, 0, 0, 0, 0, 0, 0, 0, 0, 0, 0, 0, 0, 0, 24, 0, 0, 0, 0, 0, 0, 0, 0, 0, 0, 0, 0, 0, 0, 0, 0, 0, 0, 0, 0, 0, 0, 0, 0, 0, 0, 48, 36, 36, 24, 24, 24, 24, 24, 24, 24, 96, 266, 532, 2, 4, 4, 4, 1296, 1296, 20736, 1296, 6, 16, 10, 10]
def Ln (k : Nat) : Nat := LL.getD k 0
abbrev wE : Type := va_G × (Nat → ClassId) × Nat × Nat × Nat
abbrev eD (E : wE) : va_G := E.1
abbrev eC (E : wE) : Nat → ClassId := E.2.1
abbrev eB (E : wE) : Nat := E.2.2.1
abbrev eP (E : wE) : Nat := E.2.2.2.1
abbrev eR (E : wE) : Nat := E.2.2.2.2
def fv (b c : Nat) (f : Nat → Int32) (g : Nat → Option Nat) (j : Nat) : Value := if rF c j = true then va_rf ((g j).map (fun q => b + q)) else .int (f j)
def atK (E : wE) (c k : Nat) (f : Nat → Int32) (g : Nat → Option Nat) (H : Heap) : Prop :=
  if c < 12 then t_OB (eB E + k) ((eD E).1 c) (nF c) ((eD E).2 c) H (fv (eB E) c f g)
  else if c < 14 then H[eB E + k]? = some (arrV (eC E c) (Ln k) (fun j => .int (f j)))
  else H[eB E + k]? = some (arrV (eC E c) (Ln k) (fun j => va_rf ((g j).map (fun q => eB E + q))))
def wd (E : wE) (N : Nat) (h : Hp) (r : Rp) (H : Heap) : Prop := H.size = eB E + N ∧ (∀ k, k < N → atK E (Kd k) k (h k) (r k) H) ∧ ∀ j a, r 43 j = some a → 137 ≤ a ∧ a < N
theorem atK.kept {E : wE} {c k : Nat} {f : Nat → Int32} {g : Nat → Option Nat} {H H1 : Heap} (h : atK E c k f g H) (hq : H1[eB E + k]? = H[eB E + k]?) : atK E c k f g H1 := by
  unfold atK at h ⊢
  split
  next hc => rw [if_pos hc] at h; exact h.kept hq
  next hc =>
    rw [if_neg hc] at h
    split
    next hc2 => rw [if_pos hc2] at h; rw [hq]; exact h
    next hc2 => rw [if_neg hc2] at h; rw [hq]; exact h
theorem wd.ob {E : wE} {N : Nat} {h : Hp} {r : Rp} {H : Heap} (w : wd E N h r H) {a c : Nat} (ha : a < N) (hk : Kd a = c) (hc : c < 12) : t_OB (eB E + a) ((eD E).1 c) (nF c) ((eD E).2 c) H (fv (eB E) c (h a) (r a)) := by
  have q := w.2.1 a ha
  rw [hk] at q
  unfold atK at q
  rw [if_pos hc] at q
  exact q
theorem wd.ai {E : wE} {N : Nat} {h : Hp} {r : Rp} {H : Heap} (w : wd E N h r H) {a c : Nat} (ha : a < N) (hk : Kd a = c) (hc : ¬ c < 12) (hc2 : c < 14) : H[eB E + a]? = some (arrV (eC E c) (Ln a) (fun j => .int (h a j))) := by
  have q := w.2.1 a ha
  rw [hk] at q
  unfold atK at q
  rw [if_neg hc, if_pos hc2] at q
  exact q
theorem wd.ar {E : wE} {N : Nat} {h : Hp} {r : Rp} {H : Heap} (w : wd E N h r H) {a c : Nat} (ha : a < N) (hk : Kd a = c) (hc : ¬ c < 12) (hc2 : ¬ c < 14) : H[eB E + a]? = some (arrV (eC E c) (Ln a) (fun j => va_rf ((r a j).map (fun q => eB E + q)))) := by
  have q := w.2.1 a ha
  rw [hk] at q
  unfold atK at q
  rw [if_neg hc, if_neg hc2] at q
  exact q
/-- one cell of the world is another one now -/
theorem wd.set {E : wE} {N : Nat} {h h' : Hp} {r r' : Rp} {H H1 : Heap} (w : wd E N h r H) (a : Nat) (ha : a < N) (hz : H1.size = H.size) (oq : ∀ q : Nat, q ≠ eB E + a → H1[q]? = H[q]?) (he : atK E (Kd a) a (h' a) (r' a) H1) (hh : ∀ k, k ≠ a → h' k = h k) (hr : ∀ k, k ≠ a → r' k = r k)
    (ht : ∀ j b, r' 43 j = some b → 137 ≤ b ∧ b < N) : wd E N h' r' H1 := by
  refine ⟨hz.trans w.1, fun k hk => ?_, ht⟩
  by_cases e : k = a
  · subst e; exact he
  · rw [hh k e, hr k e]
    exact (w.2.1 k hk).kept (oq _ (by omega))
theorem u2_self {α : Type} (f : Nat → Nat → α) (a j : Nat) (v : α) : u2 f a j v a = fun i => if i = j then v else f a i := by
  unfold u2
  rw [if_pos rfl]
theorem u2_ne {α : Type} (f : Nat → Nat → α) {a k : Nat} (j : Nat) (v : α) (h : k ≠ a) : u2 f a j v k = f k := by
  unfold u2
  rw [if_neg h]
/-- a new cell -/
theorem wd.push {E : wE} {N : Nat} {h : Hp} {r : Rp} {H H1 : Heap} (w : wd E N h r H) (f : Nat → Int32) (g : Nat → Option Nat) (hz : H1.size = H.size + 1) (oq : ∀ q : Nat, q < H.size → H1[q]? = H[q]?) (he : atK E (Kd N) N f g H1) (h43 : N ≠ 43 ∨ ∀ j, g j = none) : wd E (N + 1) (va_up h N f) (va_up r N g) H1 := by
  refine ⟨by rw [hz, w.1]; rfl, fun k hk => ?_, fun j a q => ?_⟩
  · by_cases e : k = N
    · subst e
      simpa [va_up] using he
    · simp only [va_up, e, if_false]
      exact (w.2.1 k (by omega)).kept (oq _ (by rw [w.1]; omega))
  · by_cases e : 43 = N
    · rcases h43 with h43 | h43
      · exact absurd e.symm h43
      · simp only [va_up, e, if_true, h43] at q
        cases q
    · simp only [va_up, e, if_false] at q
      obtain ⟨q1, q2⟩ := w.2.2 j a q
      exact ⟨q1, by omega⟩
def spM : List (String × Nat × MethodName × String) := [("WheelAndWire", 11, ⟨"WheelAndWire$Text", "<init>", "()V"⟩, "WheelAndWire"), ("WheelAndWire$Board", 17, ⟨"WheelAndWire$Piece", "<init>", "()V"⟩, "WheelAndWire"), ("WheelAndWire$Shop", 11, ⟨"WheelAndWire$Piece", "<init>", "()V"⟩, "WheelAndWire"), ("WheelAndWire", 68, ⟨"WheelAndWire$Books", "<init>", "()V"⟩, "WheelAndWire"), ("WheelAndWire$Text", 19, ⟨"WheelAndWire", "kindOf", "(I)I"⟩, "WheelAndWire"), ("WheelAndWire$Form", 45, ⟨"WheelAndWire", "kindOf", "(I)I"⟩, "WheelAndWire")]
def spF : List (String × Nat × String × String × String × String) := [("WheelAndWire$Form", 53, "WheelAndWire", "PLACE_WEIGHTS", "[I", "WheelAndWire"), ("WheelAndWire$Piece", 88, "WheelAndWire", "DRYING", "[I", "WheelAndWire")]
def spD : List MethodName := [⟨"WheelAndWire$Plan", "workOut", "(I)V"⟩, ⟨"WheelAndWire$Plan", "verdict", "(IIIII)I"⟩, ⟨"WheelAndWire$Plan", "cutPrice", "(I)I"⟩, ⟨"WheelAndWire$Plan", "costOfAll", "(I)I"⟩, ⟨"WheelAndWire$Plan", "cutCost", "(IIIIZII)I"⟩]
def Sp (U : State) : Prop := (∀ q ∈ spM, va_Nw (.methodLinkNest q.1 q.2.1 q.2.2.1 q.2.2.2) U) ∧ (∀ q ∈ spF, va_Nw (.fieldLinkNest q.1 q.2.1 q.2.2.1 q.2.2.2.1 q.2.2.2.2.1 q.2.2.2.2.2) U) ∧ (∀ q ∈ spD, va_Nw (.declares q) U) ∧ va_AO RX0 U ∧ va_AO RX1 U ∧ va_AO RX7 U
theorem Sp.warm {s U : State} (hW : s.WarmedH U.vm) (h : Sp s) : Sp U := ⟨fun q hq => va_Nw.warmM hW (h.1 q hq), fun q hq => va_Nw.warmF hW (h.2.1 q hq), fun q hq => va_Nw.warmD hW (h.2.2.1 q hq), h.2.2.2.1.moved hW.alike, h.2.2.2.2.1.moved hW.alike, h.2.2.2.2.2.moved hW.alike⟩
theorem Sp.same {u U : State} (e : u.vm = U.vm) (h : Sp u) : Sp U := ⟨fun q hq => va_Nw.same rfl e (h.1 q hq), fun q hq => va_Nw.same rfl e (h.2.1 q hq), fun q hq => va_Nw.same rfl e (h.2.2.1 q hq), h.2.2.2.1.moved (by rw [← e]; exact Vm.Alike.refl _), h.2.2.2.2.1.moved (by rw [← e]; exact Vm.Alike.refl _), h.2.2.2.2.2.moved (by rw [← e]; exact Vm.Alike.refl _)⟩
abbrev tys (E : wE) : List (ClassId × FieldType) := [(eC E 12, .int), (eC E 13, .boolean), (eC E 14, .object RX0), (eC E 15, .object RX1), (eC E 16, .object RX7)]
def pwT : Nat → Int32 := fun j => if j = 0 then 10 else if j = 1 then 8 else 0
def drT : Nat → Int32 := fun j => if j = 0 then 10 else if j = 1 then 5 else 2
def Sta (E : wE) (U : State) (H : Heap) : Prop := va_Z "WheelAndWire" "PLACE_WEIGHTS" "[I" (.ref (eP E)) (fun q => eB E ≤ q) U H ∧ va_Z "WheelAndWire" "DRYING" "[I" (.ref (eR E)) (fun q => eB E ≤ q) U H ∧ va_T .int (eP E) 3 (fun j => .int (pwT j)) (fun q => eB E ≤ q) U H ∧ va_T .int (eR E) 3 (fun j => .int (drT j)) (fun q => eB E ≤ q) U H
theorem Sta.moved {E : wE} {u U : State} {H : Heap} (hvm : u.vm.Alike U.vm) (h : Sta E u H) : Sta E U H := ⟨h.1.moved hvm, h.2.1.moved hvm, h.2.2.1.moved hvm, h.2.2.2.moved hvm⟩
theorem Sta.kept {E : wE} {U : State} {H H1 : Heap} (h : Sta E U H) (hq : ∀ a : Nat, a < H.size → ¬ (eB E ≤ a) → H1[a]? = H[a]?) : Sta E U H1 := ⟨h.1.kept hq, h.2.1.kept hq, h.2.2.1.kept hq, h.2.2.2.kept hq⟩
/-- what a method finds at its start -/
def Pw (E : wE) (N : Nat) (h : Hp) (r : Rp) (U : State) : Prop := wd E N h r U.heap ∧ va_K (eD E) cls (tys E) U ∧ Sp U ∧ Sta E U U.heap
abbrev Rs : Type := Option Value × Nat × Hp × Rp
/-- what it leaves behind -/
def Qw (E : wE) (y : Rs) : Array Value → State → Outcome → State → Prop := fun _ st oc t => oc = .returned y.1 ∧ wd E y.2.1 y.2.2.1 y.2.2.2 t.heap ∧ va_F (fun q => eB E ≤ q) st t
/-- A METHOD'S CONTRACT: from the world (N, h, r) it returns, and leaves y -/
def CT (l : Launch) (E : wE) (y : MethodName) (cc : ByteArray) (mL : Nat) (ret : Option FieldType) (rm : Room) (as : List Value) (N : Nat) (h : Hp) (r : Rp) (z : Rs) : Prop :=
  Met l y (.code y cc mL ret :: BIG) rm (va_Pc as (Pw E N h r)) (Qw E z) rm.cells rm.slots (fun q => eB E ≤ q)
theorem Pw.blind {E : wE} {N : Nat} {h : Hp} {r : Rp} {as : List Value} : FrameBlind (va_Pc as (Pw E N h r)) := fun a U g mk q => ⟨q.1, q.2.1, va_K.moved (u := U) (U := U.calling g mk a) (Vm.Alike.refl U.vm) q.2.2.1, q.2.2.2.1.same rfl, Sta.moved (u := U) (U := U.calling g mk a) (Vm.Alike.refl U.vm) q.2.2.2.2⟩
-- a method that is being walked
abbrev wX : Type := Program × Launch × Env × Room × State × MethodId × Array Value × List Frame × Method × Code × wE
abbrev xp (X : wX) : Program := X.1
abbrev xl (X : wX) : Launch := X.2.1
abbrev xe (X : wX) : Env := X.2.2.1
abbrev xR (X : wX) : Room := X.2.2.2.1
abbrev xs (X : wX) : State := X.2.2.2.2.1
abbrev xm (X : wX) : MethodId := X.2.2.2.2.2.1
abbrev xa (X : wX) : Array Value := X.2.2.2.2.2.2.1
abbrev xb (X : wX) : List Frame := X.2.2.2.2.2.2.2.1
abbrev xM (X : wX) : Method := X.2.2.2.2.2.2.2.2.1
abbrev xc (X : wX) : Code := X.2.2.2.2.2.2.2.2.2.1
abbrev xE (X : wX) : wE := X.2.2.2.2.2.2.2.2.2.2
abbrev xB (X : wX) : Nat := eB (xE X)
def Cx (X : wX) (y : MethodName) (cc : ByteArray) (mL : Nat) (ret : Option FieldType) (rm : Room) : Prop :=
  (xp X).tables.exec = Jvm.exec ∧ (xc X).code = cc ∧ (xc X).maxLocals = mL ∧ (xs X).vm.findClass y.cls = some (xm X).cls ∧ (∀ w ∈ BIG, w.before (xa X) (xs X) = true) ∧ (xM X).locks = false ∧ (xM X).sig.returnType = ret ∧ (xM X).name = y.name ∧ xR X = rm ∧ va_K (eD (xE X)) cls (tys (xE X)) (xs X) ∧ Sp (xs X) ∧ Sta (xE X) (xs X) (xs X).heap ∧ xB X ≤ (xs X).heap.size
def gQ (X : wX) (mL : Nat) (Q : State → Prop) (N : Nat) (h : Hp) (r : Rp) (cl sl pc : Nat) (L : List (Nat × Value)) (st : List Value) : Prop :=
  ∀ (H : Heap) (locs : List Loc) (ls : Array Slot), wd (xE X) N h r H → va_S (fun q => xB X ≤ q) (xs X).heap H locs → lv_has ls mL L → W (xp X) (xl X) (xe X) (xR X) (xs X) (xm X) (xa X) (xb X) (xM X) (xc X) H locs cl sl Q (F0 (xm X) pc ls st)
/-- from here, if the pure computation k comes to y, the machine comes to what E y says -/
def wG {ρ : Type} (X : wX) (mL : Nat) (Z : ρ → (State → Prop) → Prop) (k : Option ρ) (N : Nat) (h : Hp) (r : Rp) (cl sl pc : Nat) (L : List (Nat × Value)) (st : List Value) : Prop :=
  ∀ y, k = some y → ∀ Q, Z y Q → gQ X mL Q N h r cl sl pc L st
/-- the end of a method -/
def eM {ρ : Type} (X : wX) (φ : ρ → Rs) : ρ → (State → Prop) → Prop := fun y Q => Q = MQ (xb X) (Qw (xE X) (φ y)) (xa X) (xs X) (xR X).cells (xR X).slots (fun q => xB X ≤ q)
theorem CT.of {ρ : Type} {l : Launch} {E : wE} {y : MethodName} {cc : ByteArray} {mL : Nat} {ret : Option FieldType} {rm : Room} {as : List Value} {N : Nat} {h : Hp} {r : Rp} {φ : ρ → Rs} {k : Option ρ} (hy : plainName y.cls = true) (hlen : (lg_sl as).length ≤ mL)
    (G : ∀ X, xl X = l → xE X = E → Cx X y cc mL ret rm → wG X mL (eM X φ) k N h r 0 0 0 (lv_args 0 as) []) : ∀ z, k = some z → CT l E y cc mL ret rm as N h r (φ z) := by
  intro z hz
  refine Met.ofW (cc := cc) (maxL := mL) (ret := ret) hy rfl ?_
  intro p e s m args below meth c s₁ B hml hv
  obtain ⟨rfl, hw, hK, hSp, hSt⟩ := hv
  have hts := atoms_spec (ws := .code y cc mL ret :: BIG) B.pre
  have g := G (p, l, e, rm, s, m, as.toArray, below, meth, c, E) rfl rfl ⟨B.exec, B.bytes, hml, findClass_of_methodNamed B.named, fun w hw => hts w (List.mem_cons_of_mem _ hw), B.notSynchronized, B.returns, (name_of_methodNamed B.named B.method).1, rfl, hK, hSp, hSt, by show eB E ≤ s.heap.size; rw [hw.1]; exact Nat.le_add_right _ _⟩ z hz _ rfl
  rw [lg_entry_eq]
  exact g s.heap [] _ hw va_S.rf (lv_entry as hlen)
