/-! THE ROWS OF THE FLAT WORLD, 2: ends, calls, statics, Math, switches, new cells -/
section ROWS2
variable {ρ : Type} {X : wX} {y : MethodName} {cc : ByteArray} {mL : Nat} {ret : Option FieldType} {rm : Room} {Z : ρ → (State → Prop) → Prop} {k kt kf : Option ρ} {N : Nat} {h : Hp} {r : Rp} {cl sl pc pc' tgt cl' sl' : Nat} {L L' : List (Nat × Value)} {st rest : List Value} {off : Int}
theorem Cx.hR (C : Cx X y cc mL ret rm) : xR X = rm := C.2.2.2.2.2.2.2.2.1
theorem Cx.lk (C : Cx X y cc mL ret rm) : (xM X).locks = false := C.2.2.2.2.2.1
theorem Cx.rt (C : Cx X y cc mL ret rm) : (xM X).sig.returnType = ret := C.2.2.2.2.2.2.1
theorem Cx.hts (C : Cx X y cc mL ret rm) : ∀ w ∈ BIG, w.before (xa X) (xs X) = true := C.2.2.2.2.1
theorem Cx.sp (C : Cx X y cc mL ret rm) : Sp (xs X) := C.2.2.2.2.2.2.2.2.2.2.1
theorem Cx.sta (C : Cx X y cc mL ret rm) : Sta (xE X) (xs X) (xs X).heap := C.2.2.2.2.2.2.2.2.2.2.2.1
theorem Cx.hK (C : Cx X y cc mL ret rm) : va_K (eD (xE X)) cls (tys (xE X)) (xs X) := C.2.2.2.2.2.2.2.2.2.1
/-- the end that a method has with the answer v -/
abbrev mQ (X : wX) (v : Option Value) (N : Nat) (h : Hp) (r : Rp) : State → Prop := MQ (xb X) (Qw (xE X) (v, N, h, r)) (xa X) (xs X) (xR X).cells (xR X).slots (fun q => xB X ≤ q)
theorem wG_iret (C : Cx X y cc mL (some .int) rm) {v : Int32} {z : ρ} (hd : decode cc pc = .ok (.ireturn, 1)) (hc : cl ≤ rm.cells ∧ sl ≤ rm.slots) (hZ : ∀ Q, Z z Q → Q = mQ X (some (.int v)) N h r) : wG X mL Z (some z) N h r cl sl pc L [.int v] := by
  intro z' hz Q hQ H locs ls w S hl
  cases hz
  rw [hZ Q hQ]
  refine W.widen (k := (xR X).cells) (n := (xR X).slots) (by rw [C.hR]; exact hc.1) (by rw [C.hR]; exact hc.2) ?_
  exact W.iret C.1 C.2.1 C.rt (fun t ht hW => ⟨rfl, by rw [ht]; exact w, S.F ht⟩) S.2.2 hd C.lk
theorem wG_zret (C : Cx X y cc mL (some .boolean) rm) {v : Int32} {z : ρ} (hd : decode cc pc = .ok (.ireturn, 1)) (hn : narrow .boolean (.int v) = .int v) (hc : cl ≤ rm.cells ∧ sl ≤ rm.slots) (hZ : ∀ Q, Z z Q → Q = mQ X (some (.int v)) N h r) : wG X mL Z (some z) N h r cl sl pc L [.int v] := by
  intro z' hz Q hQ H locs ls w S hl
  cases hz
  rw [hZ Q hQ]
  refine W.widen (k := (xR X).cells) (n := (xR X).slots) (by rw [C.hR]; exact hc.1) (by rw [C.hR]; exact hc.2) ?_
  exact W.zret C.1 C.2.1 C.rt hn (fun t ht hW => ⟨rfl, by rw [ht]; exact w, S.F ht⟩) S.2.2 hd C.lk
theorem wG_lret (C : Cx X y cc mL (some .long) rm) {v : Int64} {z : ρ} (hd : decode cc pc = .ok (.lreturn, 1)) (hc : cl ≤ rm.cells ∧ sl ≤ rm.slots) (hZ : ∀ Q, Z z Q → Q = mQ X (some (.long v)) N h r) : wG X mL Z (some z) N h r cl sl pc L [.long v] := by
  intro z' hz Q hQ H locs ls w S hl
  cases hz
  rw [hZ Q hQ]
  refine W.widen (k := (xR X).cells) (n := (xR X).slots) (by rw [C.hR]; exact hc.1) (by rw [C.hR]; exact hc.2) ?_
  exact W.lret C.1 C.2.1 C.rt (fun t ht hW => ⟨rfl, by rw [ht]; exact w, S.F ht⟩) S.2.2 hd C.lk
theorem wG_vret (C : Cx X y cc mL none rm) {z : ρ} (hd : decode cc pc = .ok (.return_, 1)) (hc : cl ≤ rm.cells ∧ sl ≤ rm.slots) (hZ : ∀ Q, Z z Q → Q = mQ X none N h r) : wG X mL Z (some z) N h r cl sl pc L [] := by
  intro z' hz Q hQ H locs ls w S hl
  cases hz
  rw [hZ Q hQ]
  refine W.widen (k := (xR X).cells) (n := (xR X).slots) (by rw [C.hR]; exact hc.1) (by rw [C.hR]; exact hc.2) ?_
  exact W.vret C.1 C.2.1 C.rt (fun t ht hW => ⟨rfl, by rw [ht]; exact w, S.F ht⟩) S.2.2 hd C.lk
/-- behind a call -/
theorem wG_run {σ : Type} {f : Option σ} {φ : σ → Rs} {kk : σ → Option ρ} {mc ms : Nat} {a : Array Value} (hcl : cl + mc = cl') (hsl : sl + ms = sl') (hp : pc + 3 = pc')
    (hr : ∀ u, f = some u → ∀ (H : Heap) (locs : List Loc) (ls : Array Slot), wd (xE X) N h r H → va_S (fun q => xB X ≤ q) (xs X).heap H locs → lv_has ls mL L → va_Run (xp X) (xl X) (xe X) (xR X) (xs X) (xm X) (xa X) (xb X) (xM X) (xc X) H locs cl sl mc ms (F0 (xm X) pc ls st) rest (Qw (xE X) (φ u) a) (fun q => xB X ≤ q))
    (g : ∀ u, wG X mL Z (kk u) (φ u).2.1 (φ u).2.2.1 (φ u).2.2.2 cl' sl' pc' L ((φ u).1.toList ++ rest)) : wG X mL Z (f.bind kk) N h r cl sl pc L st := by
  subst hcl; subst hsl; subst hp
  intro z hz Q hQ H locs ls w S hl
  cases hf : f with
  | none => rw [hf] at hz; cases hz
  | some u =>
    rw [hf] at hz
    have hr' := hr u hf H locs ls w S hl
    intro T hT XX
    obtain ⟨v, st₀, t, T', LL, h0, X', hL, e1, e2, ⟨hv, hw, hF⟩, stp⟩ := hr' T hT XX
    have hv' : v = (φ u).1 := Outcome.returned.inj hv
    subst hv'
    have hz0 := hF.1
    have hk0 := hF.2
    rw [h0] at hz0 hk0
    have S' : va_S (fun q => xB X ≤ q) (xs X).heap T'.heap (locs ++ LL) := ⟨Nat.le_trans S.1 (by rw [e1]; exact hz0), fun q h1 h2 => by rw [e1, hk0 q (Nat.lt_of_lt_of_le h1 S.1) h2]; exact S.2.1 q h1 h2, fun q hq => by
      rcases List.mem_append.mp hq with h | h
      · exact S.2.2 q h
      · exact hL q h⟩
    obtain ⟨t2, a1, b1⟩ := g u z hz Q hQ T'.heap (locs ++ LL) ls (by rw [e1]; exact hw) S' hl T' rfl X'
    exact ⟨t2, stp t2 a1, b1⟩
theorem Cx.pre (C : Cx X y cc mL ret rm) {H : Heap} {locs : List Loc} (w : wd (xE X) N h r H) (S : va_S (fun q => xB X ≤ q) (xs X).heap H locs) : ∀ U : State, U.heap = H → (xs X).WarmedH U.vm → Pw (xE X) N h r U := fun U hU hW => ⟨by rw [hU]; exact w, va_K.moved hW.alike C.hK, C.sp.warm hW, by rw [hU]; exact Sta.moved hW.alike (C.sta.kept S.2.1)⟩
theorem Cx.recv (C : Cx X y cc mL ret rm) {H : Heap} (w : wd (xE X) N h r H) {a c : Nat} {q : vw_C} (hc : cls[c]? = some q) (hc12 : c < 12) (hk : Kd a = c) (ha : a < N) : ∃ cell : Cell, H[xB X + a]? = some cell ∧ cell.vm.isStatics = false ∧ (xs X).vm.findClass q.1 = some cell.cls := by
  obtain ⟨cell, g1, g2, g3, -⟩ := w.ob ha hk hc12
  exact ⟨cell, g1, by rw [g3]; rfl, by rw [g2]; exact (C.hK.1 c q hc).2.1⟩
/-- the words of a call: of a method of the receiver's own class -/
def vW (own : String) (idx c : Nat) (y' : MethodName) (cc' : ByteArray) (mL' : Nat) (ret' : Option FieldType) (n : Nat) : Prop := (∃ q, cls[c]? = some q ∧ c < 12 ∧ q.1 = y'.cls) ∧ Cond.methodLink own idx y' ∈ BIG ∧ Cond.instanceMethod y' ∈ BIG ∧ Cond.selects y'.cls y' y' ∈ BIG ∧ Cond.initialized y'.cls ∈ BIG ∧ Cond.code y' cc' mL' ret' ∈ BIG ∧ (y'.cls ≠ "java/lang/invoke/MethodHandle" ∧ y'.cls ≠ "java/lang/invoke/VarHandle" ∧ (parseMethodDescriptor y'.desc).map (fun d => d.parameters.length) = some n)
abbrev rmOk (rm' rm : Room) (mL' cl sl : Nat) : Prop := rm'.frames + 1 ≤ rm.frames ∧ 8 + (mL' + 11) + rm'.locals ≤ rm.locals ∧ cl + rm'.cells ≤ rm.cells ∧ sl + rm'.slots ≤ rm.slots
section CALLS
variable {σ : Type} {f : Option σ} {φ : σ → Rs} {kk : σ → Option ρ} {idx c n mL' a : Nat} {y' x' : MethodName} {cc' : ByteArray} {ret' : Option FieldType} {rm' : Room} {As : List Value}
theorem wG_callV (C : Cx X y cc mL ret rm) (hw : vW y.cls idx c y' cc' mL' ret' n) (hM : ∀ u, f = some u → CT (xl X) (xE X) y' cc' mL' ret' rm' (.ref (xB X + a) :: As) N h r (φ u)) (hk : Kd a = c) (ha : a < N) (hR : rmOk rm' rm mL' cl sl) (hn : As.length = n) (hst : st = As.reverse ++ .ref (xB X + a) :: rest) (hcat : (rest.map fun v => v.category).sum ≤ 8) (hd : dcd cc pc (.invokevirtual idx) 3 pc') (hcl : cl + rm'.cells = cl') (hsl : sl + rm'.slots = sl')
    (g : ∀ u, wG X mL Z (kk u) (φ u).2.1 (φ u).2.2.1 (φ u).2.2.2 cl' sl' pc' L ((φ u).1.toList ++ rest)) : wG X mL Z (f.bind kk) N h r cl sl pc L st := by
  obtain ⟨⟨q, hq, hc12, hqy⟩, w1, w2, w3, w4, w5, w6⟩ := hw
  refine wG_run (a := (Value.ref (xB X + a) :: As).toArray) hcl hsl hd.2 (fun u hu H locs ls w S hl => ?_) g
  have hT : GoodIn BIG (wsV y.cls idx y'.cls y' (.code y' cc' mL' ret' :: BIG)) := by
    intro v hv
    unfold wsV at hv
    rcases List.mem_append.mp hv with hv | hv
    · simp only [List.mem_cons, List.not_mem_nil, or_false] at hv
      rcases hv with rfl | rfl | rfl | rfl
      · exact ⟨w1, BIG_good _ w1⟩
      · exact ⟨w2, BIG_good _ w2⟩
      · exact ⟨w3, BIG_good _ w3⟩
      · exact ⟨w4, BIG_good _ w4⟩
    · exact good_wsB w5 v hv
  refine va_runV (As := As) (rest := rest) (C := y'.cls) (cc := cc) (nL := mL) (Ts := BIG) (own := y.cls) ⟨C.1, C.2.1, C.2.2.1, C.2.2.2.1, C.hts⟩ (hM u hu) (cwV n C.hts hT rfl rfl rfl ⟨rfl, w6⟩ (by rw [C.hR]; exact ⟨hR.1, hR.2.1⟩)) ⟨Pw.blind, by rw [← hqy]; exact C.recv w hq hc12 hk ha, fun U hU hW => ⟨rfl, C.pre w S U hU hW⟩⟩ rfl hn hl.1 hst (lv_room hcat) hd.1 (by rw [C.hR]; exact hR.2.2)
/-- of an inherited or an abstract method: the reference names x', the receiver's class selects y' -/
def uW (own : String) (idx c : Nat) (owner : String) (x' y' : MethodName) (cc' : ByteArray) (mL' : Nat) (ret' : Option FieldType) (n : Nat) : Prop := ∃ q, cls[c]? = some q ∧ c < 12 ∧ Cond.methodLink own idx x' ∈ BIG ∧ Cond.sameMethod x'.cls owner x'.name x'.desc ∈ BIG ∧ Cond.selects q.1 x' y' ∈ BIG ∧ Cond.instanceMethod y' ∈ BIG ∧ Cond.initialized y'.cls ∈ BIG ∧ Cond.code y' cc' mL' ret' ∈ BIG ∧ (owner ≠ "java/lang/invoke/MethodHandle" ∧ owner ≠ "java/lang/invoke/VarHandle" ∧ (parseMethodDescriptor x'.desc).map (fun d => d.parameters.length) = some n) ∧ (y' = ⟨owner, x'.name, x'.desc⟩ ∨ (⟨owner, x'.name, x'.desc⟩ : MethodName) ∈ spD)
theorem wG_callU {owner : String} (C : Cx X y cc mL ret rm) (hw : uW y.cls idx c owner x' y' cc' mL' ret' n) (hM : ∀ u, f = some u → CT (xl X) (xE X) y' cc' mL' ret' rm' (.ref (xB X + a) :: As) N h r (φ u)) (hk : Kd a = c) (ha : a < N) (hR : rmOk rm' rm mL' cl sl) (hn : As.length = n) (hst : st = As.reverse ++ .ref (xB X + a) :: rest) (hcat : (rest.map fun v => v.category).sum ≤ 8) (hd : dcd cc pc (.invokevirtual idx) 3 pc') (hcl : cl + rm'.cells = cl') (hsl : sl + rm'.slots = sl')
    (g : ∀ u, wG X mL Z (kk u) (φ u).2.1 (φ u).2.2.1 (φ u).2.2.2 cl' sl' pc' L ((φ u).1.toList ++ rest)) : wG X mL Z (f.bind kk) N h r cl sl pc L st := by
  obtain ⟨q, hq, hc12, w1, w2, w3, w4, w5, w6, w7, w8⟩ := hw
  refine wG_run (a := (Value.ref (xB X + a) :: As).toArray) hcl hsl hd.2 (fun u hu H locs ls w S hl => ?_) g
  have hT : GoodIn BIG (va_wsU y.cls idx q.1 owner x' y' (.code y' cc' mL' ret' :: BIG)) := by
    intro v hv
    unfold va_wsU at hv
    rcases List.mem_append.mp hv with hv | hv
    · simp only [List.mem_cons, List.not_mem_nil, or_false] at hv
      rcases hv with rfl | rfl | rfl | rfl | rfl
      · exact ⟨w1, BIG_good _ w1⟩
      · exact ⟨w2, BIG_good _ w2⟩
      · exact ⟨w3, BIG_good _ w3⟩
      · exact ⟨w4, BIG_good _ w4⟩
      · exact ⟨w5, BIG_good _ w5⟩
    · exact good_wsB w6 v hv
  have cw : va_CU (xR X) (xs X) (xa X) y.cls q.1 owner idx x' y' cc' mL' ret' (.code y' cc' mL' ret' :: BIG) rm' rm'.cells rm'.slots n := by
    rcases w8 with w8 | w8
    · exact va_cwU n C.hts hT rfl rfl rfl w8 w7 (by rw [C.hR]; exact ⟨hR.1, hR.2.1⟩)
    · exact va_cwA n C.hts hT rfl rfl rfl (C.sp.2.2.1 _ w8) w7 (by rw [C.hR]; exact ⟨hR.1, hR.2.1⟩)
  exact va_runU (As := As) (rest := rest) (C := q.1) (cc := cc) (nL := mL) (Ts := BIG) (own := y.cls) ⟨C.1, C.2.1, C.2.2.1, C.2.2.2.1, C.hts⟩ (hM u hu) cw ⟨Pw.blind, C.recv w hq hc12 hk ha, fun U hU hW => ⟨rfl, C.pre w S U hU hW⟩⟩ rfl hn hl.1 hst (lv_room hcat) hd.1 (by rw [C.hR]; exact hR.2.2)
/-- of a static method of the class itself -/
def sW (own : String) (idx : Nat) (y' : MethodName) (cc' : ByteArray) (mL' : Nat) (ret' : Option FieldType) (n : Nat) : Prop := y'.cls = own ∧ Cond.methodLink own idx y' ∈ BIG ∧ Cond.static y' ∈ BIG ∧ Cond.initialized own ∈ BIG ∧ Cond.code y' cc' mL' ret' ∈ BIG ∧ (y'.cls ≠ "java/lang/invoke/MethodHandle" ∧ y'.cls ≠ "java/lang/invoke/VarHandle" ∧ (parseMethodDescriptor y'.desc).map (fun d => d.parameters.length) = some n)
theorem wG_callS (C : Cx X y cc mL ret rm) (hw : sW y.cls idx y' cc' mL' ret' n) (hM : ∀ u, f = some u → CT (xl X) (xE X) y' cc' mL' ret' rm' As N h r (φ u)) (hR : rmOk rm' rm mL' cl sl) (hn : As.length = n) (hst : st = As.reverse ++ rest) (hcat : (rest.map fun v => v.category).sum ≤ 8) (hd : dcd cc pc (.invokestatic idx) 3 pc') (hcl : cl + rm'.cells = cl') (hsl : sl + rm'.slots = sl')
    (g : ∀ u, wG X mL Z (kk u) (φ u).2.1 (φ u).2.2.1 (φ u).2.2.2 cl' sl' pc' L ((φ u).1.toList ++ rest)) : wG X mL Z (f.bind kk) N h r cl sl pc L st := by
  obtain ⟨w0, w1, w2, w4, w5, w6⟩ := hw
  refine wG_run (a := As.toArray) hcl hsl hd.2 (fun u hu H locs ls w S hl => ?_) g
  have hT : GoodIn BIG (wsS y.cls idx y' (.code y' cc' mL' ret' :: BIG)) := by
    intro v hv
    unfold wsS at hv
    rcases List.mem_append.mp hv with hv | hv
    · simp only [List.mem_cons, List.not_mem_nil, or_false] at hv
      rcases hv with rfl | rfl | rfl
      · exact ⟨w1, BIG_good _ w1⟩
      · exact ⟨w2, BIG_good _ w2⟩
      · exact ⟨w4, BIG_good _ w4⟩
    · exact good_wsB w5 v hv
  exact va_runS (As := As) (rest := rest) (cc := cc) (nL := mL) (Ts := BIG) (own := y.cls) ⟨C.1, C.2.1, C.2.2.1, C.2.2.2.1, C.hts⟩ (hM u hu) (cwS n C.hts hT rfl rfl rfl ⟨w0, w6⟩ (by rw [C.hR]; exact ⟨hR.1, hR.2.1⟩)) ⟨Pw.blind, fun U hU hW => ⟨rfl, C.pre w S U hU hW⟩⟩ rfl hn hl.1 hst (lv_room hcat) hd.1 (by rw [C.hR]; exact hR.2.2)
/-- of a nest mate's private static method -/
def nW (own : String) (idx : Nat) (y' : MethodName) (cc' : ByteArray) (mL' : Nat) (ret' : Option FieldType) (n : Nat) (w : Cond) : Prop := ∃ host, (own, idx, y', host) ∈ spM ∧ w ∈ BIG ∧ Cond.initialized y'.cls ∈ BIG ∧ Cond.code y' cc' mL' ret' ∈ BIG ∧ (y'.cls ≠ "java/lang/invoke/MethodHandle" ∧ y'.cls ≠ "java/lang/invoke/VarHandle" ∧ (parseMethodDescriptor y'.desc).map (fun d => d.parameters.length) = some n)
theorem wG_callSN (C : Cx X y cc mL ret rm) (hw : nW y.cls idx y' cc' mL' ret' n (.static y')) (hM : ∀ u, f = some u → CT (xl X) (xE X) y' cc' mL' ret' rm' As N h r (φ u)) (hR : rmOk rm' rm mL' cl sl) (hn : As.length = n) (hst : st = As.reverse ++ rest) (hcat : (rest.map fun v => v.category).sum ≤ 8) (hd : dcd cc pc (.invokestatic idx) 3 pc') (hcl : cl + rm'.cells = cl') (hsl : sl + rm'.slots = sl')
    (g : ∀ u, wG X mL Z (kk u) (φ u).2.1 (φ u).2.2.1 (φ u).2.2.2 cl' sl' pc' L ((φ u).1.toList ++ rest)) : wG X mL Z (f.bind kk) N h r cl sl pc L st := by
  obtain ⟨host, w1, w2, w4, w5, w6⟩ := hw
  refine wG_run (a := As.toArray) hcl hsl hd.2 (fun u hu H locs ls w S hl => ?_) g
  exact va_runSN (As := As) (rest := rest) (cc := cc) (nL := mL) (Ts := BIG) (own := y.cls) (host := host) ⟨C.1, C.2.1, C.2.2.1, C.2.2.2.1, C.hts⟩ (hM u hu) ⟨va_cnB n C.hts (good_wsB w5) rfl rfl rfl (C.sp.1 _ w1) (C.hts _ w4) w6 (by rw [C.hR]; exact ⟨hR.1, hR.2.1⟩), C.hts _ w2, trivial⟩ ⟨Pw.blind, fun U hU hW => ⟨rfl, C.pre w S U hU hW⟩⟩ rfl hn hl.1 hst (lv_room hcat) hd.1 (by rw [C.hR]; exact hR.2.2)
/-- of a nest mate's private constructor -/
theorem wG_callIN (C : Cx X y cc mL ret rm) (hw : nW y.cls idx y' cc' mL' none n (.instanceMethod y')) (hi : y'.name = "<init>") (hM : ∀ u, f = some u → CT (xl X) (xE X) y' cc' mL' none rm' (.ref (xB X + a) :: As) N h r (φ u)) (hR : rmOk rm' rm mL' cl sl) (hn : As.length = n) (hst : st = As.reverse ++ .ref (xB X + a) :: rest) (hcat : (rest.map fun v => v.category).sum ≤ 8) (hd : dcd cc pc (.invokespecial idx) 3 pc') (hcl : cl + rm'.cells = cl') (hsl : sl + rm'.slots = sl')
    (g : ∀ u, wG X mL Z (kk u) (φ u).2.1 (φ u).2.2.1 (φ u).2.2.2 cl' sl' pc' L ((φ u).1.toList ++ rest)) : wG X mL Z (f.bind kk) N h r cl sl pc L st := by
  obtain ⟨host, w1, w2, w4, w5, w6⟩ := hw
  refine wG_run (a := (Value.ref (xB X + a) :: As).toArray) hcl hsl hd.2 (fun u hu H locs ls w S hl => ?_) g
  exact va_runIN (As := As) (rest := rest) (cc := cc) (nL := mL) (Ts := BIG) (own := y.cls) (host := host) ⟨C.1, C.2.1, C.2.2.1, C.2.2.2.1, C.hts⟩ (hM u hu) ⟨va_cnB n C.hts (good_wsB w5) rfl rfl rfl (C.sp.1 _ w1) (C.hts _ w4) w6 (by rw [C.hR]; exact ⟨hR.1, hR.2.1⟩), hi, C.hts _ w2⟩ ⟨Pw.blind, fun U hU hW => ⟨rfl, C.pre w S U hU hW⟩⟩ rfl hn hl.1 hst (lv_room hcat) hd.1 (by rw [C.hR]; exact hR.2.2)
/-- of a constructor -/
def iW (own : String) (idx : Nat) (y' : MethodName) (cc' : ByteArray) (mL' : Nat) (n : Nat) : Prop := y'.name = "<init>" ∧ Cond.methodLink own idx y' ∈ BIG ∧ Cond.instanceMethod y' ∈ BIG ∧ Cond.initialized y'.cls ∈ BIG ∧ Cond.code y' cc' mL' none ∈ BIG ∧ (y'.cls ≠ "java/lang/invoke/MethodHandle" ∧ y'.cls ≠ "java/lang/invoke/VarHandle" ∧ (parseMethodDescriptor y'.desc).map (fun d => d.parameters.length) = some n)
theorem wG_callI (C : Cx X y cc mL ret rm) (hw : iW y.cls idx y' cc' mL' n) (hM : ∀ u, f = some u → CT (xl X) (xE X) y' cc' mL' none rm' (.ref (xB X + a) :: As) N h r (φ u)) (hR : rmOk rm' rm mL' cl sl) (hn : As.length = n) (hst : st = As.reverse ++ .ref (xB X + a) :: rest) (hcat : (rest.map fun v => v.category).sum ≤ 8) (hd : dcd cc pc (.invokespecial idx) 3 pc') (hcl : cl + rm'.cells = cl') (hsl : sl + rm'.slots = sl')
    (g : ∀ u, wG X mL Z (kk u) (φ u).2.1 (φ u).2.2.1 (φ u).2.2.2 cl' sl' pc' L ((φ u).1.toList ++ rest)) : wG X mL Z (f.bind kk) N h r cl sl pc L st := by
  obtain ⟨w0, w1, w2, w4, w5, w6⟩ := hw
  refine wG_run (a := (Value.ref (xB X + a) :: As).toArray) hcl hsl hd.2 (fun u hu H locs ls w S hl => ?_) g
  exact va_runI (As := As) (rest := rest) (cc := cc) (nL := mL) (Ts := BIG) (own := y.cls) ⟨C.1, C.2.1, C.2.2.1, C.2.2.2.1, C.hts⟩ (hM u hu) (cwI n C.hts (good_wsB w5) rfl rfl rfl (C.hts _ w4) (C.hts _ w1) (C.hts _ w2) w0 w6 (by rw [C.hR]; exact ⟨hR.1, hR.2.1⟩)) ⟨Pw.blind, fun U hU hW => ⟨rfl, C.pre w S U hU hW⟩⟩ rfl hn hl.1 hst (lv_room hcat) hd.1 (by rw [C.hR]; exact hR.2.2)
end CALLS
theorem wG_cV_ri {f : Option (Int32)} {kk : Int32 → Option ρ} {idx n mL' : Nat} {y' : MethodName} {cc' : ByteArray} {rm' : Room} {c a : Nat} {ret' : Option FieldType} (As rest : List Value) (C : Cx X y cc mL ret rm) (hw : vW y.cls idx c y' cc' mL' ret' n) (hM : ∀ u, f = some u → CT (xl X) (xE X) y' cc' mL' ret' rm' (.ref (xB X + a) :: As) N h r (some (.int u), N, h, r)) (hk : Kd a = c) (ha : a < N) (hR : rmOk rm' rm mL' cl sl) (hn : As.length = n) (hst : st = As.reverse ++ .ref (xB X + a) :: rest) (hcat : (rest.map fun v => v.category).sum ≤ 8) (hd : dcd cc pc (.invokevirtual idx) 3 pc') (hcl : cl + rm'.cells = cl') (hsl : sl + rm'.slots = sl')
    (g : ∀ u, wG X mL Z (kk u) N h r cl' sl' pc' L (.int u :: rest)) : wG X mL Z (f.bind kk) N h r cl sl pc L st := wG_callV (φ := fun u => (some (.int u), N, h, r)) C hw hM hk ha hR hn hst hcat hd hcl hsl g
theorem wG_cV_rl {f : Option (Int64)} {kk : Int64 → Option ρ} {idx n mL' : Nat} {y' : MethodName} {cc' : ByteArray} {rm' : Room} {c a : Nat} {ret' : Option FieldType} (As rest : List Value) (C : Cx X y cc mL ret rm) (hw : vW y.cls idx c y' cc' mL' ret' n) (hM : ∀ u, f = some u → CT (xl X) (xE X) y' cc' mL' ret' rm' (.ref (xB X + a) :: As) N h r (some (.long u), N, h, r)) (hk : Kd a = c) (ha : a < N) (hR : rmOk rm' rm mL' cl sl) (hn : As.length = n) (hst : st = As.reverse ++ .ref (xB X + a) :: rest) (hcat : (rest.map fun v => v.category).sum ≤ 8) (hd : dcd cc pc (.invokevirtual idx) 3 pc') (hcl : cl + rm'.cells = cl') (hsl : sl + rm'.slots = sl')
    (g : ∀ u, wG X mL Z (kk u) N h r cl' sl' pc' L (.long u :: rest)) : wG X mL Z (f.bind kk) N h r cl sl pc L st := wG_callV (φ := fun u => (some (.long u), N, h, r)) C hw hM hk ha hR hn hst hcat hd hcl hsl g
theorem wG_cV_rv {f : Option (Unit)} {kk : Unit → Option ρ} {idx n mL' : Nat} {y' : MethodName} {cc' : ByteArray} {rm' : Room} {c a : Nat} {ret' : Option FieldType} (As rest : List Value) (C : Cx X y cc mL ret rm) (hw : vW y.cls idx c y' cc' mL' ret' n) (hM : ∀ u, f = some u → CT (xl X) (xE X) y' cc' mL' ret' rm' (.ref (xB X + a) :: As) N h r (none, N, h, r)) (hk : Kd a = c) (ha : a < N) (hR : rmOk rm' rm mL' cl sl) (hn : As.length = n) (hst : st = As.reverse ++ .ref (xB X + a) :: rest) (hcat : (rest.map fun v => v.category).sum ≤ 8) (hd : dcd cc pc (.invokevirtual idx) 3 pc') (hcl : cl + rm'.cells = cl') (hsl : sl + rm'.slots = sl')
    (g : ∀ u, wG X mL Z (kk u) N h r cl' sl' pc' L (rest)) : wG X mL Z (f.bind kk) N h r cl sl pc L st := wG_callV (φ := fun u => (none, N, h, r)) C hw hM hk ha hR hn hst hcat hd hcl hsl g
theorem wG_cV_wi {f : Option (Int32 × Hp)} {kk : (Int32 × Hp) → Option ρ} {idx n mL' : Nat} {y' : MethodName} {cc' : ByteArray} {rm' : Room} {c a : Nat} {ret' : Option FieldType} (As rest : List Value) (C : Cx X y cc mL ret rm) (hw : vW y.cls idx c y' cc' mL' ret' n) (hM : ∀ u, f = some u → CT (xl X) (xE X) y' cc' mL' ret' rm' (.ref (xB X + a) :: As) N h r (some (.int u.1), N, u.2, r)) (hk : Kd a = c) (ha : a < N) (hR : rmOk rm' rm mL' cl sl) (hn : As.length = n) (hst : st = As.reverse ++ .ref (xB X + a) :: rest) (hcat : (rest.map fun v => v.category).sum ≤ 8) (hd : dcd cc pc (.invokevirtual idx) 3 pc') (hcl : cl + rm'.cells = cl') (hsl : sl + rm'.slots = sl')
    (g : ∀ u, wG X mL Z (kk u) N u.2 r cl' sl' pc' L (.int u.1 :: rest)) : wG X mL Z (f.bind kk) N h r cl sl pc L st := wG_callV (φ := fun u => (some (.int u.1), N, u.2, r)) C hw hM hk ha hR hn hst hcat hd hcl hsl g
theorem wG_cV_wv {f : Option (Hp)} {kk : Hp → Option ρ} {idx n mL' : Nat} {y' : MethodName} {cc' : ByteArray} {rm' : Room} {c a : Nat} {ret' : Option FieldType} (As rest : List Value) (C : Cx X y cc mL ret rm) (hw : vW y.cls idx c y' cc' mL' ret' n) (hM : ∀ u, f = some u → CT (xl X) (xE X) y' cc' mL' ret' rm' (.ref (xB X + a) :: As) N h r (none, N, u, r)) (hk : Kd a = c) (ha : a < N) (hR : rmOk rm' rm mL' cl sl) (hn : As.length = n) (hst : st = As.reverse ++ .ref (xB X + a) :: rest) (hcat : (rest.map fun v => v.category).sum ≤ 8) (hd : dcd cc pc (.invokevirtual idx) 3 pc') (hcl : cl + rm'.cells = cl') (hsl : sl + rm'.slots = sl')
    (g : ∀ u, wG X mL Z (kk u) N u r cl' sl' pc' L (rest)) : wG X mL Z (f.bind kk) N h r cl sl pc L st := wG_callV (φ := fun u => (none, N, u, r)) C hw hM hk ha hR hn hst hcat hd hcl hsl g
theorem wG_cV_fi {f : Option (Int32 × Nat × Hp × Rp)} {kk : (Int32 × Nat × Hp × Rp) → Option ρ} {idx n mL' : Nat} {y' : MethodName} {cc' : ByteArray} {rm' : Room} {c a : Nat} {ret' : Option FieldType} (As rest : List Value) (C : Cx X y cc mL ret rm) (hw : vW y.cls idx c y' cc' mL' ret' n) (hM : ∀ u, f = some u → CT (xl X) (xE X) y' cc' mL' ret' rm' (.ref (xB X + a) :: As) N h r (some (.int u.1), u.2.1, u.2.2.1, u.2.2.2)) (hk : Kd a = c) (ha : a < N) (hR : rmOk rm' rm mL' cl sl) (hn : As.length = n) (hst : st = As.reverse ++ .ref (xB X + a) :: rest) (hcat : (rest.map fun v => v.category).sum ≤ 8) (hd : dcd cc pc (.invokevirtual idx) 3 pc') (hcl : cl + rm'.cells = cl') (hsl : sl + rm'.slots = sl')
    (g : ∀ u, wG X mL Z (kk u) u.2.1 u.2.2.1 u.2.2.2 cl' sl' pc' L (.int u.1 :: rest)) : wG X mL Z (f.bind kk) N h r cl sl pc L st := wG_callV (φ := fun u => (some (.int u.1), u.2.1, u.2.2.1, u.2.2.2)) C hw hM hk ha hR hn hst hcat hd hcl hsl g
theorem wG_cV_fv {f : Option (Nat × Hp × Rp)} {kk : (Nat × Hp × Rp) → Option ρ} {idx n mL' : Nat} {y' : MethodName} {cc' : ByteArray} {rm' : Room} {c a : Nat} {ret' : Option FieldType} (As rest : List Value) (C : Cx X y cc mL ret rm) (hw : vW y.cls idx c y' cc' mL' ret' n) (hM : ∀ u, f = some u → CT (xl X) (xE X) y' cc' mL' ret' rm' (.ref (xB X + a) :: As) N h r (none, u.1, u.2.1, u.2.2)) (hk : Kd a = c) (ha : a < N) (hR : rmOk rm' rm mL' cl sl) (hn : As.length = n) (hst : st = As.reverse ++ .ref (xB X + a) :: rest) (hcat : (rest.map fun v => v.category).sum ≤ 8) (hd : dcd cc pc (.invokevirtual idx) 3 pc') (hcl : cl + rm'.cells = cl') (hsl : sl + rm'.slots = sl')
    (g : ∀ u, wG X mL Z (kk u) u.1 u.2.1 u.2.2 cl' sl' pc' L (rest)) : wG X mL Z (f.bind kk) N h r cl sl pc L st := wG_callV (φ := fun u => (none, u.1, u.2.1, u.2.2)) C hw hM hk ha hR hn hst hcat hd hcl hsl g
theorem wG_cU_ri {f : Option (Int32)} {kk : Int32 → Option ρ} {idx n mL' : Nat} {y' : MethodName} {cc' : ByteArray} {rm' : Room} {c a : Nat} {x' : MethodName} {owner : String} {ret' : Option FieldType} (As rest : List Value) (C : Cx X y cc mL ret rm) (hw : uW y.cls idx c owner x' y' cc' mL' ret' n) (hM : ∀ u, f = some u → CT (xl X) (xE X) y' cc' mL' ret' rm' (.ref (xB X + a) :: As) N h r (some (.int u), N, h, r)) (hk : Kd a = c) (ha : a < N) (hR : rmOk rm' rm mL' cl sl) (hn : As.length = n) (hst : st = As.reverse ++ .ref (xB X + a) :: rest) (hcat : (rest.map fun v => v.category).sum ≤ 8) (hd : dcd cc pc (.invokevirtual idx) 3 pc') (hcl : cl + rm'.cells = cl') (hsl : sl + rm'.slots = sl')
    (g : ∀ u, wG X mL Z (kk u) N h r cl' sl' pc' L (.int u :: rest)) : wG X mL Z (f.bind kk) N h r cl sl pc L st := wG_callU (φ := fun u => (some (.int u), N, h, r)) C hw hM hk ha hR hn hst hcat hd hcl hsl g
theorem wG_cU_wi {f : Option (Int32 × Hp)} {kk : (Int32 × Hp) → Option ρ} {idx n mL' : Nat} {y' : MethodName} {cc' : ByteArray} {rm' : Room} {c a : Nat} {x' : MethodName} {owner : String} {ret' : Option FieldType} (As rest : List Value) (C : Cx X y cc mL ret rm) (hw : uW y.cls idx c owner x' y' cc' mL' ret' n) (hM : ∀ u, f = some u → CT (xl X) (xE X) y' cc' mL' ret' rm' (.ref (xB X + a) :: As) N h r (some (.int u.1), N, u.2, r)) (hk : Kd a = c) (ha : a < N) (hR : rmOk rm' rm mL' cl sl) (hn : As.length = n) (hst : st = As.reverse ++ .ref (xB X + a) :: rest) (hcat : (rest.map fun v => v.category).sum ≤ 8) (hd : dcd cc pc (.invokevirtual idx) 3 pc') (hcl : cl + rm'.cells = cl') (hsl : sl + rm'.slots = sl')
    (g : ∀ u, wG X mL Z (kk u) N u.2 r cl' sl' pc' L (.int u.1 :: rest)) : wG X mL Z (f.bind kk) N h r cl sl pc L st := wG_callU (φ := fun u => (some (.int u.1), N, u.2, r)) C hw hM hk ha hR hn hst hcat hd hcl hsl g
theorem wG_cU_wv {f : Option (Hp)} {kk : Hp → Option ρ} {idx n mL' : Nat} {y' : MethodName} {cc' : ByteArray} {rm' : Room} {c a : Nat} {x' : MethodName} {owner : String} {ret' : Option FieldType} (As rest : List Value) (C : Cx X y cc mL ret rm) (hw : uW y.cls idx c owner x' y' cc' mL' ret' n) (hM : ∀ u, f = some u → CT (xl X) (xE X) y' cc' mL' ret' rm' (.ref (xB X + a) :: As) N h r (none, N, u, r)) (hk : Kd a = c) (ha : a < N) (hR : rmOk rm' rm mL' cl sl) (hn : As.length = n) (hst : st = As.reverse ++ .ref (xB X + a) :: rest) (hcat : (rest.map fun v => v.category).sum ≤ 8) (hd : dcd cc pc (.invokevirtual idx) 3 pc') (hcl : cl + rm'.cells = cl') (hsl : sl + rm'.slots = sl')
    (g : ∀ u, wG X mL Z (kk u) N u r cl' sl' pc' L (rest)) : wG X mL Z (f.bind kk) N h r cl sl pc L st := wG_callU (φ := fun u => (none, N, u, r)) C hw hM hk ha hR hn hst hcat hd hcl hsl g
theorem wG_cU_rv {f : Option (Unit)} {kk : Unit → Option ρ} {idx n mL' : Nat} {y' : MethodName} {cc' : ByteArray} {rm' : Room} {c a : Nat} {x' : MethodName} {owner : String} {ret' : Option FieldType} (As rest : List Value) (C : Cx X y cc mL ret rm) (hw : uW y.cls idx c owner x' y' cc' mL' ret' n) (hM : ∀ u, f = some u → CT (xl X) (xE X) y' cc' mL' ret' rm' (.ref (xB X + a) :: As) N h r (none, N, h, r)) (hk : Kd a = c) (ha : a < N) (hR : rmOk rm' rm mL' cl sl) (hn : As.length = n) (hst : st = As.reverse ++ .ref (xB X + a) :: rest) (hcat : (rest.map fun v => v.category).sum ≤ 8) (hd : dcd cc pc (.invokevirtual idx) 3 pc') (hcl : cl + rm'.cells = cl') (hsl : sl + rm'.slots = sl')
    (g : ∀ u, wG X mL Z (kk u) N h r cl' sl' pc' L (rest)) : wG X mL Z (f.bind kk) N h r cl sl pc L st := wG_callU (φ := fun u => (none, N, h, r)) C hw hM hk ha hR hn hst hcat hd hcl hsl g
theorem wG_cS_ri {f : Option (Int32)} {kk : Int32 → Option ρ} {idx n mL' : Nat} {y' : MethodName} {cc' : ByteArray} {rm' : Room} {ret' : Option FieldType} (As rest : List Value) (C : Cx X y cc mL ret rm) (hw : sW y.cls idx y' cc' mL' ret' n) (hM : ∀ u, f = some u → CT (xl X) (xE X) y' cc' mL' ret' rm' As N h r (some (.int u), N, h, r)) (hR : rmOk rm' rm mL' cl sl) (hn : As.length = n) (hst : st = As.reverse ++ rest) (hcat : (rest.map fun v => v.category).sum ≤ 8) (hd : dcd cc pc (.invokestatic idx) 3 pc') (hcl : cl + rm'.cells = cl') (hsl : sl + rm'.slots = sl')
    (g : ∀ u, wG X mL Z (kk u) N h r cl' sl' pc' L (.int u :: rest)) : wG X mL Z (f.bind kk) N h r cl sl pc L st := wG_callS (φ := fun u => (some (.int u), N, h, r)) C hw hM hR hn hst hcat hd hcl hsl g
theorem wG_cS_rl {f : Option (Int64)} {kk : Int64 → Option ρ} {idx n mL' : Nat} {y' : MethodName} {cc' : ByteArray} {rm' : Room} {ret' : Option FieldType} (As rest : List Value) (C : Cx X y cc mL ret rm) (hw : sW y.cls idx y' cc' mL' ret' n) (hM : ∀ u, f = some u → CT (xl X) (xE X) y' cc' mL' ret' rm' As N h r (some (.long u), N, h, r)) (hR : rmOk rm' rm mL' cl sl) (hn : As.length = n) (hst : st = As.reverse ++ rest) (hcat : (rest.map fun v => v.category).sum ≤ 8) (hd : dcd cc pc (.invokestatic idx) 3 pc') (hcl : cl + rm'.cells = cl') (hsl : sl + rm'.slots = sl')
    (g : ∀ u, wG X mL Z (kk u) N h r cl' sl' pc' L (.long u :: rest)) : wG X mL Z (f.bind kk) N h r cl sl pc L st := wG_callS (φ := fun u => (some (.long u), N, h, r)) C hw hM hR hn hst hcat hd hcl hsl g
theorem wG_cS_wv {f : Option (Hp)} {kk : Hp → Option ρ} {idx n mL' : Nat} {y' : MethodName} {cc' : ByteArray} {rm' : Room} {ret' : Option FieldType} (As rest : List Value) (C : Cx X y cc mL ret rm) (hw : sW y.cls idx y' cc' mL' ret' n) (hM : ∀ u, f = some u → CT (xl X) (xE X) y' cc' mL' ret' rm' As N h r (none, N, u, r)) (hR : rmOk rm' rm mL' cl sl) (hn : As.length = n) (hst : st = As.reverse ++ rest) (hcat : (rest.map fun v => v.category).sum ≤ 8) (hd : dcd cc pc (.invokestatic idx) 3 pc') (hcl : cl + rm'.cells = cl') (hsl : sl + rm'.slots = sl')
    (g : ∀ u, wG X mL Z (kk u) N u r cl' sl' pc' L (rest)) : wG X mL Z (f.bind kk) N h r cl sl pc L st := wG_callS (φ := fun u => (none, N, u, r)) C hw hM hR hn hst hcat hd hcl hsl g
theorem wG_cSN_ri {f : Option (Int32)} {kk : Int32 → Option ρ} {idx n mL' : Nat} {y' : MethodName} {cc' : ByteArray} {rm' : Room} {ret' : Option FieldType} (As rest : List Value) (C : Cx X y cc mL ret rm) (hw : nW y.cls idx y' cc' mL' ret' n (.static y')) (hM : ∀ u, f = some u → CT (xl X) (xE X) y' cc' mL' ret' rm' As N h r (some (.int u), N, h, r)) (hR : rmOk rm' rm mL' cl sl) (hn : As.length = n) (hst : st = As.reverse ++ rest) (hcat : (rest.map fun v => v.category).sum ≤ 8) (hd : dcd cc pc (.invokestatic idx) 3 pc') (hcl : cl + rm'.cells = cl') (hsl : sl + rm'.slots = sl')
    (g : ∀ u, wG X mL Z (kk u) N h r cl' sl' pc' L (.int u :: rest)) : wG X mL Z (f.bind kk) N h r cl sl pc L st := wG_callSN (φ := fun u => (some (.int u), N, h, r)) C hw hM hR hn hst hcat hd hcl hsl g
theorem wG_cI_rv {f : Option (Unit)} {kk : Unit → Option ρ} {idx n mL' : Nat} {y' : MethodName} {cc' : ByteArray} {rm' : Room} {a : Nat} (As rest : List Value) (C : Cx X y cc mL ret rm) (hw : iW y.cls idx y' cc' mL' n) (hM : ∀ u, f = some u → CT (xl X) (xE X) y' cc' mL' none rm' (.ref (xB X + a) :: As) N h r (none, N, h, r)) (hR : rmOk rm' rm mL' cl sl) (hn : As.length = n) (hst : st = As.reverse ++ .ref (xB X + a) :: rest) (hcat : (rest.map fun v => v.category).sum ≤ 8) (hd : dcd cc pc (.invokespecial idx) 3 pc') (hcl : cl + rm'.cells = cl') (hsl : sl + rm'.slots = sl')
    (g : ∀ u, wG X mL Z (kk u) N h r cl' sl' pc' L (rest)) : wG X mL Z (f.bind kk) N h r cl sl pc L st := wG_callI (φ := fun u => (none, N, h, r)) C hw hM hR hn hst hcat hd hcl hsl g
theorem wG_cI_wv {f : Option (Hp)} {kk : Hp → Option ρ} {idx n mL' : Nat} {y' : MethodName} {cc' : ByteArray} {rm' : Room} {a : Nat} (As rest : List Value) (C : Cx X y cc mL ret rm) (hw : iW y.cls idx y' cc' mL' n) (hM : ∀ u, f = some u → CT (xl X) (xE X) y' cc' mL' none rm' (.ref (xB X + a) :: As) N h r (none, N, u, r)) (hR : rmOk rm' rm mL' cl sl) (hn : As.length = n) (hst : st = As.reverse ++ .ref (xB X + a) :: rest) (hcat : (rest.map fun v => v.category).sum ≤ 8) (hd : dcd cc pc (.invokespecial idx) 3 pc') (hcl : cl + rm'.cells = cl') (hsl : sl + rm'.slots = sl')
    (g : ∀ u, wG X mL Z (kk u) N u r cl' sl' pc' L (rest)) : wG X mL Z (f.bind kk) N h r cl sl pc L st := wG_callI (φ := fun u => (none, N, u, r)) C hw hM hR hn hst hcat hd hcl hsl g
theorem wG_cI_fv {f : Option (Nat × Hp × Rp)} {kk : (Nat × Hp × Rp) → Option ρ} {idx n mL' : Nat} {y' : MethodName} {cc' : ByteArray} {rm' : Room} {a : Nat} (As rest : List Value) (C : Cx X y cc mL ret rm) (hw : iW y.cls idx y' cc' mL' n) (hM : ∀ u, f = some u → CT (xl X) (xE X) y' cc' mL' none rm' (.ref (xB X + a) :: As) N h r (none, u.1, u.2.1, u.2.2)) (hR : rmOk rm' rm mL' cl sl) (hn : As.length = n) (hst : st = As.reverse ++ .ref (xB X + a) :: rest) (hcat : (rest.map fun v => v.category).sum ≤ 8) (hd : dcd cc pc (.invokespecial idx) 3 pc') (hcl : cl + rm'.cells = cl') (hsl : sl + rm'.slots = sl')
    (g : ∀ u, wG X mL Z (kk u) u.1 u.2.1 u.2.2 cl' sl' pc' L (rest)) : wG X mL Z (f.bind kk) N h r cl sl pc L st := wG_callI (φ := fun u => (none, u.1, u.2.1, u.2.2)) C hw hM hR hn hst hcat hd hcl hsl g
theorem wG_cIN_rv {f : Option (Unit)} {kk : Unit → Option ρ} {idx n mL' : Nat} {y' : MethodName} {cc' : ByteArray} {rm' : Room} {a : Nat} (As rest : List Value) (C : Cx X y cc mL ret rm) (hw : nW y.cls idx y' cc' mL' none n (.instanceMethod y')) (hi : y'.name = "<init>") (hM : ∀ u, f = some u → CT (xl X) (xE X) y' cc' mL' none rm' (.ref (xB X + a) :: As) N h r (none, N, h, r)) (hR : rmOk rm' rm mL' cl sl) (hn : As.length = n) (hst : st = As.reverse ++ .ref (xB X + a) :: rest) (hcat : (rest.map fun v => v.category).sum ≤ 8) (hd : dcd cc pc (.invokespecial idx) 3 pc') (hcl : cl + rm'.cells = cl') (hsl : sl + rm'.slots = sl')
    (g : ∀ u, wG X mL Z (kk u) N h r cl' sl' pc' L (rest)) : wG X mL Z (f.bind kk) N h r cl sl pc L st := wG_callIN (φ := fun u => (none, N, h, r)) C hw hi hM hR hn hst hcat hd hcl hsl g
theorem wG_cIN_wv {f : Option (Hp)} {kk : Hp → Option ρ} {idx n mL' : Nat} {y' : MethodName} {cc' : ByteArray} {rm' : Room} {a : Nat} (As rest : List Value) (C : Cx X y cc mL ret rm) (hw : nW y.cls idx y' cc' mL' none n (.instanceMethod y')) (hi : y'.name = "<init>") (hM : ∀ u, f = some u → CT (xl X) (xE X) y' cc' mL' none rm' (.ref (xB X + a) :: As) N h r (none, N, u, r)) (hR : rmOk rm' rm mL' cl sl) (hn : As.length = n) (hst : st = As.reverse ++ .ref (xB X + a) :: rest) (hcat : (rest.map fun v => v.category).sum ≤ 8) (hd : dcd cc pc (.invokespecial idx) 3 pc') (hcl : cl + rm'.cells = cl') (hsl : sl + rm'.slots = sl')
    (g : ∀ u, wG X mL Z (kk u) N u r cl' sl' pc' L (rest)) : wG X mL Z (f.bind kk) N h r cl sl pc L st := wG_callIN (φ := fun u => (none, N, u, r)) C hw hi hM hR hn hst hcat hd hcl hsl g
theorem wG_cIN_fv {f : Option (Nat × Hp × Rp)} {kk : (Nat × Hp × Rp) → Option ρ} {idx n mL' : Nat} {y' : MethodName} {cc' : ByteArray} {rm' : Room} {a : Nat} (As rest : List Value) (C : Cx X y cc mL ret rm) (hw : nW y.cls idx y' cc' mL' none n (.instanceMethod y')) (hi : y'.name = "<init>") (hM : ∀ u, f = some u → CT (xl X) (xE X) y' cc' mL' none rm' (.ref (xB X + a) :: As) N h r (none, u.1, u.2.1, u.2.2)) (hR : rmOk rm' rm mL' cl sl) (hn : As.length = n) (hst : st = As.reverse ++ .ref (xB X + a) :: rest) (hcat : (rest.map fun v => v.category).sum ≤ 8) (hd : dcd cc pc (.invokespecial idx) 3 pc') (hcl : cl + rm'.cells = cl') (hsl : sl + rm'.slots = sl')
    (g : ∀ u, wG X mL Z (kk u) u.1 u.2.1 u.2.2 cl' sl' pc' L (rest)) : wG X mL Z (f.bind kk) N h r cl sl pc L st := wG_callIN (φ := fun u => (none, u.1, u.2.1, u.2.2)) C hw hi hM hR hn hst hcat hd hcl hsl g
-- Object()
theorem wG_obj (C : Cx X y cc mL ret rm) {idx a : Nat} (hw : Cond.methodLink y.cls idx Lib.objectInit ∈ BIG ∧ Cond.instanceMethod Lib.objectInit ∈ BIG ∧ Cond.code Lib.objectInit ⟨#[0xb1]⟩ 1 none ∈ BIG) (hR : 1 ≤ rm.frames ∧ (st.map fun v => v.category).sum + 12 ≤ rm.locals) (hd : dcd cc pc (.invokespecial idx) 3 pc') (g : wG X mL Z k N h r cl sl pc' L st) : wG X mL Z k N h r cl sl pc L (.ref a :: st) := by
  obtain ⟨hd, rfl⟩ := hd
  intro z hz Q hQ H locs ls w S hl
  exact W.objInit C.1 C.2.1 C.2.2.2.1 (C.hts _ hw.1) (C.hts _ hw.2.1) (C.hts _ hw.2.2) rfl (by rw [C.2.2.1]; exact hl.1) rfl hd (by rw [C.hR]; exact hR.1) (by rw [C.hR]; show 2 * 0 + _ + 12 ≤ _; omega) (g z hz Q hQ H locs ls w S hl)
-- statics
theorem wG_gsN (C : Cx X y cc mL ret rm) {idx : Nat} {n host : String} {t : Nat} (hw : (y.cls, idx, "WheelAndWire", n, "[I", host) ∈ spF) (hZ : va_Z "WheelAndWire" n "[I" (.ref t) (fun q => xB X ≤ q) (xs X) (xs X).heap) (hd : dcd cc pc (.getstatic idx) 3 pc') (g : wG X mL Z k N h r cl sl pc' L (.ref t :: st)) : wG X mL Z k N h r cl sl pc L st := by
  obtain ⟨hd, rfl⟩ := hd
  intro z hz Q hQ H locs ls w S hl
  exact va_getsN C.1 C.2.1 hZ S C.2.2.2.1 (va_Nw.use rfl (C.sp.2.1 _ hw)) (fun _ q => q) hd (g z hz Q hQ H locs ls w S hl)
theorem wG_gs (C : Cx X y cc mL ret rm) {idx : Nat} {n : String} {t : Nat} (hw : Cond.fieldLink y.cls idx "WheelAndWire" n "[I" ∈ BIG) (hZ : va_Z "WheelAndWire" n "[I" (.ref t) (fun q => xB X ≤ q) (xs X) (xs X).heap) (hd : dcd cc pc (.getstatic idx) 3 pc') (g : wG X mL Z k N h r cl sl pc' L (.ref t :: st)) : wG X mL Z k N h r cl sl pc L st := by
  obtain ⟨hd, rfl⟩ := hd
  intro z hz Q hQ H locs ls w S hl
  exact va_gets C.1 C.2.1 hZ S C.2.2.2.1 (C.hts _ hw) (fun _ q => q) hd (g z hz Q hQ H locs ls w S hl)
theorem wG_iaS (C : Cx X y cc mL ret rm) {t : Nat} {f : Nat → Int32} {i : Int32} (hT : va_T .int t 3 (fun j => .int (f j)) (fun q => xB X ≤ q) (xs X) (xs X).heap) (hd : dcd cc pc .iaload 1 pc') (g : wG X mL Z k N h r cl sl pc' L (.int (f (ix i)) :: st)) : wG X mL Z (if inB i 3 then k else none) N h r cl sl pc L (.int i :: .ref t :: st) := by
  obtain ⟨hd, rfl⟩ := hd
  intro z hz Q hQ H locs ls w S hl
  by_cases hin : inB i 3
  · rw [if_pos hin] at hz
    exact va_ti C.1 C.2.1 hT S hin.vp rfl hd (g z hz Q hQ H locs ls w S hl)
  · rw [if_neg hin] at hz; cases hz
theorem wG_alS (C : Cx X y cc mL ret rm) {t : Nat} {f : Nat → Int32} (hT : va_T .int t 3 (fun j => .int (f j)) (fun q => xB X ≤ q) (xs X) (xs X).heap) (hd : dcd cc pc .arraylength 1 pc') (g : wG X mL Z k N h r cl sl pc' L (.int 3 :: st)) : wG X mL Z k N h r cl sl pc L (.ref t :: st) := by
  obtain ⟨hd, rfl⟩ := hd
  intro z hz Q hQ H locs ls w S hl
  exact va_tlen C.1 C.2.1 hT S (v := 3) rfl hd (g z hz Q hQ H locs ls w S hl)
theorem wG_mmax (C : Cx X y cc mL ret rm) {idx : Nat} {x y1 : Int32} (hw : Cond.methodLink y.cls idx Lib.Math.max.name ∈ BIG ∧ Cond.static Lib.Math.max.name ∈ BIG ∧ Cond.initialized "java/lang/Math" ∈ BIG ∧ Cond.code Lib.Math.max.name Lib.Math.max.code 2 (some .int) ∈ BIG) (hR : 1 ≤ rm.frames ∧ (st.map fun v => v.category).sum + 13 ≤ rm.locals ∧ cl ≤ rm.cells ∧ sl ≤ rm.slots) (hd : dcd cc pc (.invokestatic idx) 3 pc') (g : wG X mL Z k N h r cl sl pc' L (.int (if x < y1 then y1 else x) :: st)) : wG X mL Z k N h r cl sl pc L (.int y1 :: .int x :: st) := by
  obtain ⟨hd, rfl⟩ := hd
  intro z hz Q hQ H locs ls w S hl
  exact va_mmax C.1 C.2.1 (C.2.2.1.trans hl.1.symm) C.2.2.2.1 (C.hts _ hw.1) (C.hts _ hw.2.1) (C.hts _ hw.2.2.1) (C.hts _ hw.2.2.2) (by rw [C.hR]; exact hR.1) (by rw [C.hR]; exact hR.2.1) (by rw [C.hR]; exact hR.2.2.1) (by rw [C.hR]; exact hR.2.2.2) hd (g z hz Q hQ H locs ls w S hl)
theorem wG_mmin (C : Cx X y cc mL ret rm) {idx : Nat} {x y1 : Int32} (hw : Cond.methodLink y.cls idx Lib.Math.min.name ∈ BIG ∧ Cond.static Lib.Math.min.name ∈ BIG ∧ Cond.initialized "java/lang/Math" ∈ BIG ∧ Cond.code Lib.Math.min.name Lib.Math.min.code 2 (some .int) ∈ BIG) (hR : 1 ≤ rm.frames ∧ (st.map fun v => v.category).sum + 13 ≤ rm.locals ∧ cl ≤ rm.cells ∧ sl ≤ rm.slots) (hd : dcd cc pc (.invokestatic idx) 3 pc') (g : wG X mL Z k N h r cl sl pc' L (.int (if y1 < x then y1 else x) :: st)) : wG X mL Z k N h r cl sl pc L (.int y1 :: .int x :: st) := by
  obtain ⟨hd, rfl⟩ := hd
  intro z hz Q hQ H locs ls w S hl
  exact va_mmin C.1 C.2.1 (C.2.2.1.trans hl.1.symm) C.2.2.2.1 (C.hts _ hw.1) (C.hts _ hw.2.1) (C.hts _ hw.2.2.1) (C.hts _ hw.2.2.2) (by rw [C.hR]; exact hR.1) (by rw [C.hR]; exact hR.2.1) (by rw [C.hR]; exact hR.2.2.1) (by rw [C.hR]; exact hR.2.2.2) hd (g z hz Q hQ H locs ls w S hl)
theorem wG_mmax_long (C : Cx X y cc mL ret rm) {idx : Nat} {x y1 : Int64} (hw : Cond.methodLink y.cls idx Lib.MathLoose.max_long.x ∈ BIG ∧ Cond.static Lib.MathLoose.max_long.x ∈ BIG ∧ Cond.initialized "java/lang/Math" ∈ BIG ∧ Cond.code Lib.MathLoose.max_long.x Lib.MathLoose.max_long.code 4 (some .long) ∈ BIG) (hR : 1 ≤ rm.frames ∧ (st.map fun v => v.category).sum + 15 ≤ rm.locals ∧ cl ≤ rm.cells ∧ sl ≤ rm.slots) (hd : dcd cc pc (.invokestatic idx) 3 pc') (g : wG X mL Z k N h r cl sl pc' L (.long (if y1 < x then x else y1) :: st)) : wG X mL Z k N h r cl sl pc L (.long y1 :: .long x :: st) := by
  obtain ⟨hd, rfl⟩ := hd
  intro z hz Q hQ H locs ls w S hl
  exact va_mmax_long C.1 C.2.1 (C.2.2.1.trans hl.1.symm) C.2.2.2.1 (C.hts _ hw.1) (C.hts _ hw.2.1) (C.hts _ hw.2.2.1) (C.hts _ hw.2.2.2) (by rw [C.hR]; exact hR.1) (by rw [C.hR]; exact hR.2.1) (by rw [C.hR]; exact hR.2.2.1) (by rw [C.hR]; exact hR.2.2.2) hd (g z hz Q hQ H locs ls w S hl)
theorem wG_mabs_long (C : Cx X y cc mL ret rm) {idx : Nat} {x : Int64} (hw : Cond.methodLink y.cls idx Lib.MathLoose.abs_long.x ∈ BIG ∧ Cond.static Lib.MathLoose.abs_long.x ∈ BIG ∧ Cond.initialized "java/lang/Math" ∈ BIG ∧ Cond.code Lib.MathLoose.abs_long.x Lib.MathLoose.abs_long.code 2 (some .long) ∈ BIG) (hR : 1 ≤ rm.frames ∧ (st.map fun v => v.category).sum + 13 ≤ rm.locals ∧ cl ≤ rm.cells ∧ sl ≤ rm.slots) (hd : dcd cc pc (.invokestatic idx) 3 pc') (g : wG X mL Z k N h r cl sl pc' L (.long (if 0 < x then x else -x) :: st)) : wG X mL Z k N h r cl sl pc L (.long x :: st) := by
  obtain ⟨hd, rfl⟩ := hd
  intro z hz Q hQ H locs ls w S hl
  exact va_mabs_long C.1 C.2.1 (C.2.2.1.trans hl.1.symm) C.2.2.2.1 (C.hts _ hw.1) (C.hts _ hw.2.1) (C.hts _ hw.2.2.1) (C.hts _ hw.2.2.2) (by rw [C.hR]; exact hR.1) (by rw [C.hR]; exact hR.2.1) (by rw [C.hR]; exact hR.2.2.1) (by rw [C.hR]; exact hR.2.2.2) hd (g z hz Q hQ H locs ls w S hl)
-- switches: the case is known
theorem wG_if {c : Prop} [Decidable c] (g1 : c → wG X mL Z kt N h r cl sl pc L st) (g2 : ¬ c → wG X mL Z kf N h r cl sl pc L st) : wG X mL Z (if c then kt else kf) N h r cl sl pc L st := by
  by_cases hc : c
  · rw [if_pos hc]; exact g1 hc
  · rw [if_neg hc]; exact g2 hc
theorem wG_tsI (C : Cx X y cc mL ret rm) {dflt lo hi : Int} {offs : Array Int} {len : Nat} {x v : Int32} (e : x = v) (hd : decode cc pc = .ok (.tableswitch dflt lo hi offs, len)) (h1 : ¬ v.toInt < lo) (h2 : ¬ hi < v.toInt) (off : Int) (ho : offs[(v.toInt - lo).toNat]? = some off) (ht : (pc : Int) + off = (tgt : Int)) (g : wG X mL Z k N h r cl sl tgt L st) : wG X mL Z k N h r cl sl pc L (.int x :: st) := by
  subst e
  intro z hz Q hQ H locs ls w S hl
  exact lv_tableIn C.1 C.2.1 hd h1 h2 ho ht (g z hz Q hQ H locs ls w S hl)
theorem wG_tsO (C : Cx X y cc mL ret rm) {dflt lo hi : Int} {offs : Array Int} {len : Nat} {x : Int32} (e : x.toInt < lo ∨ hi < x.toInt) (hd : decode cc pc = .ok (.tableswitch dflt lo hi offs, len)) (ht : (pc : Int) + dflt = (tgt : Int)) (g : wG X mL Z k N h r cl sl tgt L st) : wG X mL Z k N h r cl sl pc L (.int x :: st) := by
  intro z hz Q hQ H locs ls w S hl
  exact lv_tableOut C.1 C.2.1 hd e ht (g z hz Q hQ H locs ls w S hl)
theorem wG_lsw (C : Cx X y cc mL ret rm) {dflt : Int} {ps : Array (Int × Int)} {len : Nat} {x : Int32} (off : Int) (hd : decode cc pc = .ok (.lookupswitch dflt ps, len)) (hp : (ps.toList.zip (ps.toList.drop 1)).all (fun (a, next) => a.1 < next.1) = true) (ho : Op.lookupswitch.offset ps.toList dflt x.toInt = off) (ht : (pc : Int) + off = (tgt : Int)) (g : wG X mL Z k N h r cl sl tgt L st) : wG X mL Z k N h r cl sl pc L (.int x :: st) := by
  intro z hz Q hQ H locs ls w S hl
  exact lv_lookup C.1 C.2.1 hd hp ho ht (g z hz Q hQ H locs ls w S hl)
-- new cells
/-- the words of 'new' -/
def oW (own : String) (idx c : Nat) : Prop := ∃ (Cn : String) (T : u_T) (nn : Nat) (ty : Nat → FieldType), cls[c]? = some (Cn, T, nn) ∧ nn = nF c ∧ c < 12 ∧ (∀ w ∈ u_ws Cn T nn, w ∈ BIG) ∧ (∀ k, k < nn → parseFieldDescriptor (T k).2.2.1 = some (ty k)) ∧ Cond.classLink own idx Cn ∈ BIG ∧ Cond.instantiable Cn nn ∈ BIG ∧ Cond.initialized Cn ∈ BIG ∧ ∀ j, j < nn → defaultValue (ty j) = if rF c j = true then .null else .int 0
theorem wG_new (C : Cx X y cc mL ret rm) {idx c nn : Nat} {kk : Hp → Rp → Option ρ} (hw : oW y.cls idx c) (hk : Kd N = c) (hnn : nF c = nn) (hR : cl + 1 ≤ rm.cells ∧ sl + nn ≤ rm.slots) (hd : dcd cc pc (.new idx) 3 pc') (hcl : cl + 1 = cl') (hsl : sl + nn = sl')
    (g : ∀ h' r', wG X mL Z (kk h' r') (N + 1) h' r' cl' sl' pc' L (.ref (xB X + N) :: st)) : wG X mL Z (vB (va_up h N (fun _ => 0)) fun h' => vB (va_up r N (fun _ => none)) fun r' => kk h' r') N h r cl sl pc L st := by
  obtain ⟨hd, rfl⟩ := hd
  obtain ⟨Cn, T, n0, ty, hc, hn0, hc12, hin, hty, w1, w2, w3, hdf⟩ := hw
  subst hnn; subst hcl; subst hsl; subst hn0
  intro z hz Q hQ H locs ls w S hl
  have hKn := C.hK.1 c _ hc
  refine W.newcK C.1 C.2.1 C.2.2.2.1 (C.hts _ w1) (C.hts _ w2) (C.hts _ w3) rfl hd (by rw [C.hR]; exact hR.1) (by rw [C.hR]; exact hR.2) hKn.2.1 w.1 fun H1 kC hkC e1 z1 o1 => ?_
  refine g _ _ z hz Q hQ H1 locs ls (w.push (fun _ => 0) (fun _ => none) (by rw [z1, w.1]) (fun q hq => o1 q (by rw [← w.1]; exact hq)) ?_ (Or.inr fun _ => rfl)) ⟨Nat.le_trans S.1 (by rw [z1, ← w.1]; exact Nat.le_succ _), fun q h1 h2 => (o1 q (by rw [← w.1]; exact Nat.lt_of_lt_of_le h1 S.1)).trans (S.2.1 q h1 h2), S.2.2⟩ hl
  rw [hk]
  unfold atK
  rw [if_pos hc12]
  refine (u_born ty C.hts hin hKn hkC e1 hty).to (fun j hj => ?_)
  rw [hdf j hj]
  unfold fv
  split <;> rfl
theorem wG_newa (C : Cx X y cc mL ret rm) {n : Int32} {c nn : Nat} {kk : Hp → Rp → Option ρ} {at' : ArrayType} {ty : FieldType} (hat : newarray.typeOf at' = ty) (hct : (c = 12 ∧ ty = .int) ∨ (c = 13 ∧ ty = .boolean)) (hw : Cond.arrayClass ty ∈ BIG) (hk : Kd N = c) (hln : Ln N = nn) (hnn : nn ≤ 100000) (hR : cl + 1 ≤ rm.cells ∧ sl + nn ≤ rm.slots) (hd : dcd cc pc (.newarray at') 2 pc') (hcl : cl + 1 = cl') (hsl : sl + nn = sl')
    (g : ∀ h' r', wG X mL Z (kk h' r') (N + 1) h' r' cl' sl' pc' L (.ref (xB X + N) :: st)) : wG X mL Z (if n = nI nn then (vB (va_up h N (fun _ => 0)) fun h' => vB (va_up r N (fun _ => none)) fun r' => kk h' r') else none) N h r cl sl pc L (.int n :: st) := by
  obtain ⟨hd, rfl⟩ := hd
  subst hcl; subst hsl; subst hat
  intro z hz Q hQ H locs ls w S hl
  by_cases hin : n = nI nn
  · rw [if_pos hin] at hz
    subst hin
    have hb : componentBytes (newarray.typeOf at') ≤ 4 := by rcases hct with ⟨-, e⟩ | ⟨-, e⟩ <;> rw [e] <;> decide
    refine va_newaK C.1 C.2.1 (C.hts _ hw) rfl hd rfl (nI_pos (by omega)) (nI_clamp (by omega)) (Nat.le_trans (Nat.mul_le_mul hnn hb) (Nat.le_of_ble_eq_true rfl)) (by rw [C.hR]; exact hR.1) (by rw [C.hR]; exact hR.2) w.1 fun H1 cA e1 z1 o1 hAr hNm => ?_
    refine g _ _ z hz Q hQ H1 locs ls (w.push (fun _ => 0) (fun _ => none) (by rw [z1, w.1]) (fun q hq => o1 q (by rw [← w.1]; exact hq)) ?_ (Or.inr fun _ => rfl)) ⟨Nat.le_trans S.1 (by rw [z1, ← w.1]; exact Nat.le_succ _), fun q h1 h2 => (o1 q (by rw [← w.1]; exact Nat.lt_of_lt_of_le h1 S.1)).trans (S.2.1 q h1 h2), S.2.2⟩ hl
    rcases hct with ⟨e, e2⟩ | ⟨e, e2⟩
    · have hq := (C.hK.2 0 _ rfl).2
      have hcA : eC (xE X) 12 = cA := by rw [e2] at hNm; exact Option.some.inj (Eq.trans (Eq.symm hq) hNm)
      refine atK_ai (hk.trans e) (by decide) (by decide) ?_
      rw [hcA, hln, e1, e2]; rfl
    · have hq := (C.hK.2 1 _ rfl).2
      have hcA : eC (xE X) 13 = cA := by rw [e2] at hNm; exact Option.some.inj (Eq.trans (Eq.symm hq) hNm)
      refine atK_ai (hk.trans e) (by decide) (by decide) ?_
      rw [hcA, hln, e1, e2]; rfl
  · rw [if_neg hin] at hz; cases hz
theorem wG_newr (C : Cx X y cc mL ret rm) {n : Int32} {idx c nn : Nat} {Cn : String} {kk : Hp → Rp → Option ρ} (hw : Cond.classLink y.cls idx Cn ∈ BIG) (hao : va_AO Cn (xs X)) (hty : (tys (xE X))[c - 12]? = some (eC (xE X) c, .object Cn)) (hc : ¬ c < 12) (hc2 : ¬ c < 14) (hk : Kd N = c) (hln : Ln N = nn) (hnn : nn ≤ 100000) (hR : cl + 1 ≤ rm.cells ∧ sl + nn ≤ rm.slots) (hd : dcd cc pc (.anewarray idx) 3 pc') (hcl : cl + 1 = cl') (hsl : sl + nn = sl')
    (g : ∀ h' r', wG X mL Z (kk h' r') (N + 1) h' r' cl' sl' pc' L (.ref (xB X + N) :: st)) : wG X mL Z (if n = nI nn then (vB (va_up h N (fun _ => 0)) fun h' => vB (va_up r N (fun _ => none)) fun r' => kk h' r') else none) N h r cl sl pc L (.int n :: st) := by
  obtain ⟨hd, rfl⟩ := hd
  subst hcl; subst hsl
  intro z hz Q hQ H locs ls w S hl
  by_cases hin : n = nI nn
  · rw [if_pos hin] at hz
    subst hin
    have hcl : (nI nn).toNatClampNeg = nn := nI_clamp (by omega)
    refine W.anew C.1 C.2.1 C.2.2.2.1 (C.hts _ hw) (va_AO.use hao) rfl hd rfl (nI_pos (by omega)) (by rw [hcl]; omega) (by rw [C.hR]; exact hR.1) (by rw [C.hR, hcl]; exact hR.2) fun cA kA comp f1 f2 f3 f4 => ?_
    rw [hcl]
    generalize hH1 : H.push ({ cls := cA, slots := Array.replicate nn .null, vm := .none } : Cell) = H1
    have z1 : H1.size = H.size + 1 := by rw [← hH1, Array.size_push]
    have e1 : H1[H.size]? = some (arrV cA nn (fun _ => .null)) := by rw [← hH1, Array.getElem?_push_size, ← arrV_new]
    have o1 : ∀ q : Nat, q < H.size → H1[q]? = H[q]? := fun q hq => by rw [← hH1, Array.getElem?_push, if_neg (Nat.ne_of_lt hq)]
    have hcA : eC (xE X) c = cA := by
      obtain ⟨_, _, _, _, _, q4⟩ := (C.hK.2 _ _ hty).2
      exact Option.some.inj (q4.symm.trans f1)
    have hs : H.size = xB X + N := w.1
    show W _ _ _ _ _ _ _ _ _ _ _ _ _ _ _ (F0 (xm X) (pc + 3) ls (.ref H.size :: st))
    rw [hs]
    refine g _ _ z hz Q hQ H1 locs ls (w.push (fun _ => 0) (fun _ => none) z1 o1 (atK_ar hk hc hc2 ?_) (Or.inr fun _ => rfl)) ⟨Nat.le_trans S.1 (by omega), fun q h1 h2 => (o1 q (Nat.lt_of_lt_of_le h1 S.1)).trans (S.2.1 q h1 h2), S.2.2⟩ hl
    rw [hcA, hln, ← hs, e1]; rfl
  · rw [if_neg hin] at hz; cases hz
theorem wG_aast (C : Cx X y cc mL ret rm) {a n c b cb : Nat} {i : Int32} {q : vw_C} {kk : Rp → Option ρ} (hk : Kd a = c) (hc : ¬ c < 12) (hc2 : ¬ c < 14) (hty : (tys (xE X))[c - 12]? = some (eC (xE X) c, .object q.1)) (ha : a < N) (hn : Ln a = n) (hkb : Kd b = cb) (hcb : cb < 12) (hq : cls[cb]? = some q) (hb : b < N) (h43 : a = 43 → 137 ≤ b) (hd : dcd cc pc .aastore 1 pc')
    (g : ∀ r', wG X mL Z (kk r') N h r' cl sl pc' L st) : wG X mL Z (if inB i n then vB (u2 r a (ix i) (some b)) kk else none) N h r cl sl pc L (.ref (xB X + b) :: .int i :: .ref (xB X + a) :: st) := by
  obtain ⟨hd, rfl⟩ := hd
  subst hn
  intro z hz Q hQ H locs ls w S hl
  by_cases hin : inB i (Ln a)
  · rw [if_pos hin] at hz
    obtain ⟨cellV, g1, g2, g3, -⟩ := w.ob hb hkb hcb
    have hcls := (C.hK.1 cb q hq).2
    obtain ⟨kA, comp, k1, k2, k3, -⟩ := (C.hK.2 _ _ hty).2
    have hcomp : comp = (eD (xE X)).1 cb := Option.some.inj (k3.symm.trans hcls.1)
    subst hcomp
    obtain ⟨kC, hkC, -⟩ := hcls.2
    refine W.aast C.1 C.2.1 (w.ar ha hk hc hc2) (fun q h => by cases h) (fun h => by cases h) k1 k2 rfl hkC ⟨fun e => hin.vp (Or.inl e), by rw [arrV_size]; exact ix_lt hin⟩ g1 (fun q h => by rw [g3] at h; cases h) (by rw [g2]; exact hkC) (by rw [g2]; exact va_assign hcls) rfl rfl hd fun H1 e zz oq => ?_
    refine g (u2 r a (ix i) (some b)) z hz Q hQ H1 _ ls (w.set a ha zz oq (atK_ar hk hc hc2 ?_) (fun _ _ => rfl) (fun _ e => u2_ne _ _ _ e) (fun j d hq2 => ?_)) (S.put zz oq (Nat.le_add_right _ _)) hl
    · rw [e, arrV_store, u2_self]
      congr 2
      funext q
      by_cases hq : q = ix i
      · subst hq; simp [updV, va_rf]
      · simp [updV, hq]
    · by_cases e43 : a = 43
      · subst e43
        rw [u2_self] at hq2
        dsimp only at hq2
        by_cases ej : j = ix i
        · rw [if_pos ej] at hq2; cases hq2; exact ⟨h43 rfl, hb⟩
        · rw [if_neg ej] at hq2; exact w.2.2 j d hq2
      · rw [u2_ne _ _ _ (Ne.symm e43)] at hq2; exact w.2.2 j d hq2
  · rw [if_neg hin] at hz; cases hz
end ROWS2
