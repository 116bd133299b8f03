/-! THE CONSTRUCTORS: numbers of cells and references stand written out; loops unrolled -/
section ROWSK
variable {ρ : Type} {X : wX} {y : MethodName} {cc : ByteArray} {mL : Nat} {ret : Option FieldType} {rm : Room} {Z : ρ → (State → Prop) → Prop} {k kt kf : Option ρ} {N : Nat} {h : Hp} {r : Rp} {cl sl pc pc' tgt cl' sl' : Nat} {L L' : List (Nat × Value)} {st rest : List Value} {off : Int}
theorem wG_newK (C : Cx X y cc mL ret rm) {idx c nn N' : Nat} {kk : Hp → Option ρ} (hw : oW y.cls idx c) (hk : Kd N = c) (hnn : nF c = nn) (hR : cl + 1 ≤ rm.cells ∧ sl + nn ≤ rm.slots) (hd : dcd cc pc (.new idx) 3 pc') (hcl : cl + 1 = cl') (hsl : sl + nn = sl') (hN' : N + 1 = N')
    (g : ∀ h', wG X mL Z (kk h') N' h' (va_up r N (fun _ => none)) cl' sl' pc' L (.ref (xB X + N) :: st)) : wG X mL Z (vB (va_up h N (fun _ => 0)) kk) N h r cl sl pc L st := by
  subst hN'
  intro z hz
  classical
  exact wG_new (kk := fun h' r' => if r' = va_up r N (fun _ => none) then kk h' else none) C hw hk hnn hR hd hcl hsl (fun h' r' => by
    by_cases e : r' = va_up r N (fun _ => none)
    · rw [if_pos e, e]; exact g h'
    · rw [if_neg e]; exact wG_none) z (by unfold vB at hz ⊢; show (if _ then _ else _) = _; rw [if_pos rfl]; exact hz)
theorem wG_newaK (C : Cx X y cc mL ret rm) {n : Int32} {c nn N' : Nat} {kk : Hp → Option ρ} {at' : ArrayType} {ty : FieldType} (hat : newarray.typeOf at' = ty) (hct : (c = 12 ∧ ty = .int) ∨ (c = 13 ∧ ty = .boolean)) (hw : Cond.arrayClass ty ∈ BIG) (hk : Kd N = c) (hln : Ln N = nn) (hnn : nn ≤ 100000) (hR : cl + 1 ≤ rm.cells ∧ sl + nn ≤ rm.slots) (hd : dcd cc pc (.newarray at') 2 pc') (hcl : cl + 1 = cl') (hsl : sl + nn = sl') (hN' : N + 1 = N')
    (g : ∀ h', wG X mL Z (kk h') N' h' (va_up r N (fun _ => none)) cl' sl' pc' L (.ref (xB X + N) :: st)) : wG X mL Z (if n = nI nn then vB (va_up h N (fun _ => 0)) kk else none) N h r cl sl pc L (.int n :: st) := by
  subst hN'
  intro z hz
  classical
  refine wG_newa (kk := fun h' r' => if r' = va_up r N (fun _ => none) then kk h' else none) C hat hct hw hk hln hnn hR hd hcl hsl (fun h' r' => ?_) z ?_
  · by_cases e : r' = va_up r N (fun _ => none)
    · rw [if_pos e, e]; exact g h'
    · rw [if_neg e]; exact wG_none
  · by_cases e : n = nI nn
    · rw [if_pos e] at hz ⊢; unfold vB at hz ⊢; show (if _ then _ else _) = _; rw [if_pos rfl]; exact hz
    · rw [if_neg e] at hz; cases hz
theorem wG_newrK (C : Cx X y cc mL ret rm) {n : Int32} {idx c nn N' : Nat} {Cn : String} {kk : Hp → Option ρ} (hw : Cond.classLink y.cls idx Cn ∈ BIG) (hao : va_AO Cn (xs X)) (hty : (tys (xE X))[c - 12]? = some (eC (xE X) c, .object Cn)) (hc : ¬ c < 12) (hc2 : ¬ c < 14) (hk : Kd N = c) (hln : Ln N = nn) (hnn : nn ≤ 100000) (hR : cl + 1 ≤ rm.cells ∧ sl + nn ≤ rm.slots) (hd : dcd cc pc (.anewarray idx) 3 pc') (hcl : cl + 1 = cl') (hsl : sl + nn = sl') (hN' : N + 1 = N')
    (g : ∀ h', wG X mL Z (kk h') N' h' (va_up r N (fun _ => none)) cl' sl' pc' L (.ref (xB X + N) :: st)) : wG X mL Z (if n = nI nn then vB (va_up h N (fun _ => 0)) kk else none) N h r cl sl pc L (.int n :: st) := by
  subst hN'
  intro z hz
  classical
  refine wG_newr (kk := fun h' r' => if r' = va_up r N (fun _ => none) then kk h' else none) C hw hao hty hc hc2 hk hln hnn hR hd hcl hsl (fun h' r' => ?_) z ?_
  · by_cases e : r' = va_up r N (fun _ => none)
    · rw [if_pos e, e]; exact g h'
    · rw [if_neg e]; exact wG_none
  · by_cases e : n = nI nn
    · rw [if_pos e] at hz ⊢; unfold vB at hz ⊢; show (if _ then _ else _) = _; rw [if_pos rfl]; exact hz
    · rw [if_neg e] at hz; cases hz
theorem wG_putRK (C : Cx X y cc mL ret rm) {idx c j a b : Nat} {fin : Bool} {ty : FieldType} (hf : fL y.cls idx c j) (hp : fP c j fin y.cls ty) (hfn : fin = true → y.name = "<init>") (hr : rF c j = true) (hk : Kd a = c) (ha : a < N) (hty : (∃ n, ty = .object n) ∨ ∃ t, ty = .array t) (h43 : a ≠ 43) (hd : dcd cc pc (.putfield idx) 3 pc')
    (g : wG X mL Z k N h (u2 r a j (some b)) cl sl pc' L st) : wG X mL Z k N h r cl sl pc L (.ref (xB X + b) :: .ref (xB X + a) :: st) := by
  intro z hz
  classical
  refine wG_putR (kk := fun r' => if r' = u2 r a j (some b) then k else none) C hf hp hfn hr hk ha hty h43 hd (fun r' => ?_) z ?_
  · by_cases e : r' = u2 r a j (some b)
    · rw [if_pos e, e]; exact g
    · rw [if_neg e]; exact wG_none
  · unfold vB; show (if _ then _ else _) = _; rw [if_pos rfl]; exact hz
theorem wG_aastK (C : Cx X y cc mL ret rm) {a n c b cb : Nat} {i : Int32} {q : vw_C} (hk : Kd a = c) (hc : ¬ c < 12) (hc2 : ¬ c < 14) (hty : (tys (xE X))[c - 12]? = some (eC (xE X) c, .object q.1)) (ha : a < N) (hn : Ln a = n) (hkb : Kd b = cb) (hcb : cb < 12) (hq : cls[cb]? = some q) (hb : b < N) (h43 : a = 43 → 137 ≤ b) {j : Nat} (hij : ix i = j) (hd : dcd cc pc .aastore 1 pc')
    (g : wG X mL Z k N h (u2 r a j (some b)) cl sl pc' L st) : wG X mL Z (if inB i n then k else none) N h r cl sl pc L (.ref (xB X + b) :: .int i :: .ref (xB X + a) :: st) := by
  subst hij
  intro z hz
  classical
  refine wG_aast (kk := fun r' => if r' = u2 r a (ix i) (some b) then k else none) C hk hc hc2 hty ha hn hkb hcb hq hb h43 hd (fun r' => ?_) z ?_
  · by_cases e : r' = u2 r a (ix i) (some b)
    · rw [if_pos e, e]; exact g
    · rw [if_neg e]; exact wG_none
  · by_cases e : inB i n
    · rw [if_pos e] at hz ⊢; unfold vB; show (if _ then _ else _) = _; rw [if_pos rfl]; exact hz
    · rw [if_neg e] at hz; cases hz
theorem wG_iincK (C : Cx X y cc mL ret rm) {i : Nat} {n : Int} {x v w : Int32} (hd : dcd cc pc (.iinc i n) 3 pc') (p : Nat) (hp : L[p]? = some (i, .int x)) (hv : Int32.ofInt n = v) (hw : x + v = w) (hn : i < mL) (ks : List Nat) (hf : lv_pick ((i, Value.int w) :: L.filter (fun q => !(q.1 == i) && !(q.1 + 1 == i && q.2.category == 2))) ks = L') (g : wG X mL Z k N h r cl sl pc' L' st) : wG X mL Z k N h r cl sl pc L st := by
  obtain ⟨hd, rfl⟩ := hd
  intro z hz Q hQ H locs ls w' S hl
  exact lv_iinc (v := w) C.1 C.2.1 hd hl hp (by rw [hv]; exact hw) hn rfl (fun ls' hl' => g z hz Q hQ H locs ls' w' S (lv_sub hl' ks hf))
theorem wG_geT (C : Cx X y cc mL ret rm) {x y1 : Int32} (hc : y1 ≤ x) (hd : dcb cc pc (.if_icmp .ge off) off tgt pc') (g : wG X mL Z k N h r cl sl tgt L st) : wG X mL Z k N h r cl sl pc L (.int y1 :: .int x :: st) := wG_of (if_pos hc).symm (wG_icmp_ge (kf := none) C hd g wG_none)
theorem wG_geF (C : Cx X y cc mL ret rm) {x y1 : Int32} (hc : ¬ y1 ≤ x) (hd : dcb cc pc (.if_icmp .ge off) off tgt pc') (g : wG X mL Z k N h r cl sl pc' L st) : wG X mL Z k N h r cl sl pc L (.int y1 :: .int x :: st) := wG_of (if_neg hc).symm (wG_icmp_ge (kt := none) C hd wG_none g)
theorem wG_cI_kv {f : Option Hp} {kk : Hp → Option ρ} {idx n mL' a : Nat} {y' : MethodName} {cc' : ByteArray} {rm' : Room} (N' : Nat) (r' : Rp) (As rest : List Value) (C : Cx X y cc mL ret rm) (hw : iW y.cls idx y' cc' mL' n) (hM : ∀ u, f = some u → CT (xl X) (xE X) y' cc' mL' none rm' (.ref (xB X + a) :: As) N h r (none, N', u, r')) (hR : rmOk rm' rm mL' cl sl) (hn : As.length = n) (hst : st = As.reverse ++ .ref (xB X + a) :: rest) (hcat : (rest.map fun v => v.category).sum ≤ 8) (hd : dcd cc pc (.invokespecial idx) 3 pc') (hcl : cl + rm'.cells = cl') (hsl : sl + rm'.slots = sl')
    (g : ∀ u, wG X mL Z (kk u) N' u r' cl' sl' pc' L rest) : wG X mL Z (f.bind kk) N h r cl sl pc L st := wG_callI (φ := fun u => (none, N', u, r')) C hw hM hR hn hst hcat hd hcl hsl g
theorem wG_cIN_kv {f : Option Hp} {kk : Hp → Option ρ} {idx n mL' a : Nat} {y' : MethodName} {cc' : ByteArray} {rm' : Room} (N' : Nat) (r' : Rp) (As rest : List Value) (C : Cx X y cc mL ret rm) (hw : nW y.cls idx y' cc' mL' none n (.instanceMethod y')) (hi : y'.name = "<init>") (hM : ∀ u, f = some u → CT (xl X) (xE X) y' cc' mL' none rm' (.ref (xB X + a) :: As) N h r (none, N', u, r')) (hR : rmOk rm' rm mL' cl sl) (hn : As.length = n) (hst : st = As.reverse ++ .ref (xB X + a) :: rest) (hcat : (rest.map fun v => v.category).sum ≤ 8) (hd : dcd cc pc (.invokespecial idx) 3 pc') (hcl : cl + rm'.cells = cl') (hsl : sl + rm'.slots = sl')
    (g : ∀ u, wG X mL Z (kk u) N' u r' cl' sl' pc' L rest) : wG X mL Z (f.bind kk) N h r cl sl pc L st := wG_callIN (φ := fun u => (none, N', u, r')) C hw hi hM hR hn hst hcat hd hcl hsl g
end ROWSK
theorem bw_X7_3 : Cond.methodLink RX7 3 Lib.objectInit ∈ BIG ∧ Cond.instanceMethod Lib.objectInit ∈ BIG ∧ Cond.code Lib.objectInit ⟨#[0xb1]⟩ 1 none ∈ BIG := ⟨m_144, m_60, m_61⟩
theorem bw_X10_3 : Cond.methodLink RX10 3 Lib.objectInit ∈ BIG ∧ Cond.instanceMethod Lib.objectInit ∈ BIG ∧ Cond.code Lib.objectInit ⟨#[0xb1]⟩ 1 none ∈ BIG := ⟨m_67, m_60, m_61⟩
theorem fr_10_0_X10 : fP 10 0 true RX10 (.array .int) := ⟨RX10, TX10, 2, tyX10, rfl, tyX10_ok, nmX10, rfl, fun _ => rfl, rfl⟩
theorem bw_X4_3 : Cond.methodLink RX4 3 Lib.objectInit ∈ BIG ∧ Cond.instanceMethod Lib.objectInit ∈ BIG ∧ Cond.code Lib.objectInit ⟨#[0xb1]⟩ 1 none ∈ BIG := ⟨m_84, m_60, m_61⟩
theorem fr_4_0_X4 : fP 4 0 true RX4 (.array .int) := ⟨RX4, TX4, 7, tyX4, rfl, tyX4_ok, nmX4, rfl, fun _ => rfl, rfl⟩
theorem fr_4_1_X4 : fP 4 1 true RX4 (.array .int) := ⟨RX4, TX4, 7, tyX4, rfl, tyX4_ok, nmX4, rfl, fun _ => rfl, rfl⟩
theorem fr_4_2_X4 : fP 4 2 true RX4 (.array .int) := ⟨RX4, TX4, 7, tyX4, rfl, tyX4_ok, nmX4, rfl, fun _ => rfl, rfl⟩
theorem bw_X1_3 : Cond.methodLink RX1 3 Lib.objectInit ∈ BIG ∧ Cond.instanceMethod Lib.objectInit ∈ BIG ∧ Cond.code Lib.objectInit ⟨#[0xb1]⟩ 1 none ∈ BIG := ⟨m_137, m_60, m_61⟩
theorem fr_1_1_X1 : fP 1 1 true RX1 (.array (.object "WheelAndWire$Piece")) := ⟨RX1, TX1, 6, tyX1, rfl, tyX1_ok, nmX1, rfl, fun _ => rfl, rfl⟩
theorem ow_X1_9 : oW RX1 9 7 := ⟨RX7, TX7, 13, tyX7, rfl, rfl, by decide, iX7, tyX7_ok, m_138, m_140, m_44, by decide +kernel⟩
theorem nw_X1_17 : nW RX1 17 yX7_init cX7_init 1 none 0 (.instanceMethod yX7_init) := ⟨"WheelAndWire", by decide +kernel, m_142, m_44, m_143, ⟨by decide +kernel, by decide +kernel, by decide +kernel⟩⟩
theorem fr_1_2_X1 : fP 1 2 true RX1 (.object "WheelAndWire$Piece") := ⟨RX1, TX1, 6, tyX1, rfl, tyX1_ok, nmX1, rfl, fun _ => rfl, rfl⟩
theorem fr_1_0_X1 : fP 1 0 true RX1 (.object "WheelAndWire$Form") := ⟨RX1, TX1, 6, tyX1, rfl, tyX1_ok, nmX1, rfl, fun _ => rfl, rfl⟩
theorem vw_X1_26 : vW RX1 26 1 yX1_startAnew cX1_startAnew 1 none 0 := ⟨⟨_, rfl, by decide, rfl⟩, m_194, m_195, m_196, m_43, m_197, ⟨by decide +kernel, by decide +kernel, by decide +kernel⟩⟩
theorem bw_X9_3 : Cond.methodLink RX9 3 Lib.objectInit ∈ BIG ∧ Cond.instanceMethod Lib.objectInit ∈ BIG ∧ Cond.code Lib.objectInit ⟨#[0xb1]⟩ 1 none ∈ BIG := ⟨m_248, m_60, m_61⟩
theorem ow_X9_9 : oW RX9 9 7 := ⟨RX7, TX7, 13, tyX7, rfl, rfl, by decide, iX7, tyX7_ok, m_249, m_140, m_44, by decide +kernel⟩
theorem nw_X9_11 : nW RX9 11 yX7_init cX7_init 1 none 0 (.instanceMethod yX7_init) := ⟨"WheelAndWire", by decide +kernel, m_142, m_44, m_143, ⟨by decide +kernel, by decide +kernel, by decide +kernel⟩⟩
theorem fr_9_2_X9 : fP 9 2 true RX9 (.object "WheelAndWire$Piece") := ⟨RX9, TX9, 9, tyX9, rfl, tyX9_ok, nmX9, rfl, fun _ => rfl, rfl⟩
theorem fr_9_3_X9 : fP 9 3 true RX9 (.object "WheelAndWire$Piece") := ⟨RX9, TX9, 9, tyX9, rfl, tyX9_ok, nmX9, rfl, fun _ => rfl, rfl⟩
theorem fr_9_4_X9 : fP 9 4 true RX9 (.object "WheelAndWire$Piece") := ⟨RX9, TX9, 9, tyX9, rfl, tyX9_ok, nmX9, rfl, fun _ => rfl, rfl⟩
theorem fr_9_5_X9 : fP 9 5 true RX9 (.object "WheelAndWire$Piece") := ⟨RX9, TX9, 9, tyX9, rfl, tyX9_ok, nmX9, rfl, fun _ => rfl, rfl⟩
theorem fr_9_6_X9 : fP 9 6 true RX9 (.array .int) := ⟨RX9, TX9, 9, tyX9, rfl, tyX9_ok, nmX9, rfl, fun _ => rfl, rfl⟩
theorem fr_9_0_X9 : fP 9 0 true RX9 (.object "WheelAndWire$Form") := ⟨RX9, TX9, 9, tyX9, rfl, tyX9_ok, nmX9, rfl, fun _ => rfl, rfl⟩
theorem fr_9_1_X9 : fP 9 1 true RX9 (.object "WheelAndWire$Board") := ⟨RX9, TX9, 9, tyX9, rfl, tyX9_ok, nmX9, rfl, fun _ => rfl, rfl⟩
theorem bw_X8_3 : Cond.methodLink RX8 3 Lib.objectInit ∈ BIG ∧ Cond.instanceMethod Lib.objectInit ∈ BIG ∧ Cond.code Lib.objectInit ⟨#[0xb1]⟩ 1 none ∈ BIG := ⟨m_289, m_60, m_61⟩
theorem fr_6_0_X8 : fP 6 0 true RX8 (.object "WheelAndWire$Form") := ⟨RX6, TX6, 7, tyX6, rfl, tyX6_ok, nmX6, rfl, fun _ => rfl, rfl⟩
theorem mw_X8_15 : Cond.methodLink RX8 15 Lib.Math.max.name ∈ BIG ∧ Cond.static Lib.Math.max.name ∈ BIG ∧ Cond.initialized "java/lang/Math" ∈ BIG ∧ Cond.code Lib.Math.max.name Lib.Math.max.code 2 (some .int) ∈ BIG := ⟨m_290, m_291, m_48, m_292⟩
theorem fp_6_1_f : fP 6 1 true RX8 .int := ⟨RX6, TX6, 7, tyX6, rfl, tyX6_ok, nmX6, rfl, fun _ => rfl, rfl⟩
theorem fr_6_2_X8 : fP 6 2 true RX8 (.array .int) := ⟨RX6, TX6, 7, tyX6, rfl, tyX6_ok, nmX6, rfl, fun _ => rfl, rfl⟩
theorem iw_X6_3 : iW RX6 3 yX8_init cX8_init 3 2 := ⟨rfl, m_286, m_287, m_46, m_288, ⟨by decide +kernel, by decide +kernel, by decide +kernel⟩⟩
theorem fr_6_3_X6 : fP 6 3 true RX6 (.array (.object "WheelAndWire$Ask")) := ⟨RX6, TX6, 7, tyX6, rfl, tyX6_ok, nmX6, rfl, fun _ => rfl, rfl⟩
theorem fr_6_4_X6 : fP 6 4 true RX6 (.array .int) := ⟨RX6, TX6, 7, tyX6, rfl, tyX6_ok, nmX6, rfl, fun _ => rfl, rfl⟩
theorem fr_3_0_X8 : fP 3 0 true RX8 (.object "WheelAndWire$Form") := ⟨RX3, TX3, 5, tyX3, rfl, tyX3_ok, nmX3, rfl, fun _ => rfl, rfl⟩
theorem fp_3_1_f : fP 3 1 true RX8 .int := ⟨RX3, TX3, 5, tyX3, rfl, tyX3_ok, nmX3, rfl, fun _ => rfl, rfl⟩
theorem fr_3_2_X8 : fP 3 2 true RX8 (.array .int) := ⟨RX3, TX3, 5, tyX3, rfl, tyX3_ok, nmX3, rfl, fun _ => rfl, rfl⟩
theorem iw_X3_3 : iW RX3 3 yX8_init cX8_init 3 2 := ⟨rfl, m_328, m_287, m_46, m_288, ⟨by decide +kernel, by decide +kernel, by decide +kernel⟩⟩
theorem fr_5_0_X8 : fP 5 0 true RX8 (.object "WheelAndWire$Form") := ⟨RX5, TX5, 9, tyX5, rfl, tyX5_ok, nmX5, rfl, fun _ => rfl, rfl⟩
theorem fp_5_1_f : fP 5 1 true RX8 .int := ⟨RX5, TX5, 9, tyX5, rfl, tyX5_ok, nmX5, rfl, fun _ => rfl, rfl⟩
theorem fr_5_2_X8 : fP 5 2 true RX8 (.array .int) := ⟨RX5, TX5, 9, tyX5, rfl, tyX5_ok, nmX5, rfl, fun _ => rfl, rfl⟩
theorem iw_X5_3 : iW RX5 3 yX8_init cX8_init 3 2 := ⟨rfl, m_344, m_287, m_46, m_288, ⟨by decide +kernel, by decide +kernel, by decide +kernel⟩⟩
theorem fr_5_3_X5 : fP 5 3 true RX5 (.array .int) := ⟨RX5, TX5, 9, tyX5, rfl, tyX5_ok, nmX5, rfl, fun _ => rfl, rfl⟩
theorem fr_5_4_X5 : fP 5 4 true RX5 (.array .int) := ⟨RX5, TX5, 9, tyX5, rfl, tyX5_ok, nmX5, rfl, fun _ => rfl, rfl⟩
theorem fr_5_5_X5 : fP 5 5 true RX5 (.array .int) := ⟨RX5, TX5, 9, tyX5, rfl, tyX5_ok, nmX5, rfl, fun _ => rfl, rfl⟩
theorem fr_5_6_X5 : fP 5 6 true RX5 (.array .int) := ⟨RX5, TX5, 9, tyX5, rfl, tyX5_ok, nmX5, rfl, fun _ => rfl, rfl⟩
theorem bw_X2_3 : Cond.methodLink RX2 3 Lib.objectInit ∈ BIG ∧ Cond.instanceMethod Lib.objectInit ∈ BIG ∧ Cond.code Lib.objectInit ⟨#[0xb1]⟩ 1 none ∈ BIG := ⟨m_373, m_60, m_61⟩
theorem fr_2_0_X2 : fP 2 0 true RX2 (.array .int) := ⟨RX2, TX2, 4, tyX2, rfl, tyX2_ok, nmX2, rfl, fun _ => rfl, rfl⟩
theorem fr_2_1_X2 : fP 2 1 true RX2 (.array .int) := ⟨RX2, TX2, 4, tyX2, rfl, tyX2_ok, nmX2, rfl, fun _ => rfl, rfl⟩
theorem fr_2_2_X2 : fP 2 2 true RX2 (.array .int) := ⟨RX2, TX2, 4, tyX2, rfl, tyX2_ok, nmX2, rfl, fun _ => rfl, rfl⟩
theorem bw_X11_3 : Cond.methodLink RX11 3 Lib.objectInit ∈ BIG ∧ Cond.instanceMethod Lib.objectInit ∈ BIG ∧ Cond.code Lib.objectInit ⟨#[0xb1]⟩ 1 none ∈ BIG := ⟨m_59, m_60, m_61⟩
theorem ow_X11_9 : oW RX11 9 10 := ⟨RX10, TX10, 2, tyX10, rfl, rfl, by decide, iX10, tyX10_ok, m_62, m_63, m_41, by decide +kernel⟩
theorem nw_X11_11 : nW RX11 11 yX10_init cX10_init 1 none 0 (.instanceMethod yX10_init) := ⟨"WheelAndWire", by decide +kernel, m_65, m_41, m_66, ⟨by decide +kernel, by decide +kernel, by decide +kernel⟩⟩
theorem fr_11_0_X11 : fP 11 0 true RX11 (.object "WheelAndWire$Text") := ⟨RX11, TX11, 11, tyX11, rfl, tyX11_ok, nmX11, rfl, fun _ => rfl, rfl⟩
theorem ow_X11_16 : oW RX11 16 4 := ⟨RX4, TX4, 7, tyX4, rfl, rfl, by decide, iX4, tyX4_ok, m_79, m_80, m_42, by decide +kernel⟩
theorem iw_X11_18 : iW RX11 18 yX4_init cX4_init 1 0 := ⟨rfl, m_81, m_82, m_42, m_83, ⟨by decide +kernel, by decide +kernel, by decide +kernel⟩⟩
theorem fr_11_1_X11 : fP 11 1 true RX11 (.object "WheelAndWire$Form") := ⟨RX11, TX11, 11, tyX11, rfl, tyX11_ok, nmX11, rfl, fun _ => rfl, rfl⟩
theorem ow_X11_23 : oW RX11 23 1 := ⟨RX1, TX1, 6, tyX1, rfl, rfl, by decide, iX1, tyX1_ok, m_132, m_133, m_43, by decide +kernel⟩
theorem iw_X11_25 : iW RX11 25 yX1_init cX1_init 3 1 := ⟨rfl, m_134, m_135, m_43, m_136, ⟨by decide +kernel, by decide +kernel, by decide +kernel⟩⟩
theorem fr_11_2_X11 : fP 11 2 true RX11 (.object "WheelAndWire$Board") := ⟨RX11, TX11, 11, tyX11, rfl, tyX11_ok, nmX11, rfl, fun _ => rfl, rfl⟩
theorem fr_11_3_X11 : fP 11 3 true RX11 (.array (.object "WheelAndWire$Board")) := ⟨RX11, TX11, 11, tyX11, rfl, tyX11_ok, nmX11, rfl, fun _ => rfl, rfl⟩
theorem ow_X11_36 : oW RX11 36 9 := ⟨RX9, TX9, 9, tyX9, rfl, rfl, by decide, iX9, tyX9_ok, m_243, m_244, m_45, by decide +kernel⟩
theorem iw_X11_38 : iW RX11 38 yX9_init cX9_init 3 2 := ⟨rfl, m_245, m_246, m_45, m_247, ⟨by decide +kernel, by decide +kernel, by decide +kernel⟩⟩
theorem fr_11_4_X11 : fP 11 4 true RX11 (.object "WheelAndWire$Shop") := ⟨RX11, TX11, 11, tyX11, rfl, tyX11_ok, nmX11, rfl, fun _ => rfl, rfl⟩
theorem ow_X11_45 : oW RX11 45 6 := ⟨RX6, TX6, 7, tyX6, rfl, rfl, by decide, iX6, tyX6_ok, m_281, m_282, m_47, by decide +kernel⟩
theorem iw_X11_47 : iW RX11 47 yX6_init cX6_init 2 1 := ⟨rfl, m_283, m_284, m_47, m_285, ⟨by decide +kernel, by decide +kernel, by decide +kernel⟩⟩
theorem fr_11_5_X11 : fP 11 5 true RX11 (.object "WheelAndWire$OrderPlan") := ⟨RX11, TX11, 11, tyX11, rfl, tyX11_ok, nmX11, rfl, fun _ => rfl, rfl⟩
theorem ow_X11_52 : oW RX11 52 3 := ⟨RX3, TX3, 5, tyX3, rfl, rfl, by decide, iX3, tyX3_ok, m_323, m_324, m_49, by decide +kernel⟩
theorem iw_X11_54 : iW RX11 54 yX3_init cX3_init 2 1 := ⟨rfl, m_325, m_326, m_49, m_327, ⟨by decide +kernel, by decide +kernel, by decide +kernel⟩⟩
theorem fr_11_6_X11 : fP 11 6 true RX11 (.object "WheelAndWire$FairPlan") := ⟨RX11, TX11, 11, tyX11, rfl, tyX11_ok, nmX11, rfl, fun _ => rfl, rfl⟩
theorem ow_X11_59 : oW RX11 59 5 := ⟨RX5, TX5, 9, tyX5, rfl, rfl, by decide, iX5, tyX5_ok, m_339, m_340, m_50, by decide +kernel⟩
theorem iw_X11_61 : iW RX11 61 yX5_init cX5_init 2 1 := ⟨rfl, m_341, m_342, m_50, m_343, ⟨by decide +kernel, by decide +kernel, by decide +kernel⟩⟩
theorem fr_11_7_X11 : fP 11 7 true RX11 (.object "WheelAndWire$LeftPlan") := ⟨RX11, TX11, 11, tyX11, rfl, tyX11_ok, nmX11, rfl, fun _ => rfl, rfl⟩
theorem ow_X11_66 : oW RX11 66 2 := ⟨RX2, TX2, 4, tyX2, rfl, rfl, by decide, iX2, tyX2_ok, m_368, m_369, m_51, by decide +kernel⟩
theorem nw_X11_68 : nW RX11 68 yX2_init cX2_init 1 none 0 (.instanceMethod yX2_init) := ⟨"WheelAndWire", by decide +kernel, m_371, m_51, m_372, ⟨by decide +kernel, by decide +kernel, by decide +kernel⟩⟩
theorem fr_11_8_X11 : fP 11 8 true RX11 (.object "WheelAndWire$Books") := ⟨RX11, TX11, 11, tyX11, rfl, tyX11_ok, nmX11, rfl, fun _ => rfl, rfl⟩
theorem bw_X12_7 : Cond.methodLink RX12 7 Lib.objectInit ∈ BIG ∧ Cond.instanceMethod Lib.objectInit ∈ BIG ∧ Cond.code Lib.objectInit ⟨#[0xb1]⟩ 1 none ∈ BIG := ⟨m_1002, m_60, m_61⟩
theorem fr_8_1_X12 : fP 8 1 true RX12 (.array .int) := ⟨RX12, TX12, 47, tyX12, rfl, tyX12_ok, nmX12, rfl, fun _ => rfl, rfl⟩
theorem fr_8_3_X12 : fP 8 3 true RX12 (.array .int) := ⟨RX12, TX12, 47, tyX12, rfl, tyX12_ok, nmX12, rfl, fun _ => rfl, rfl⟩
theorem fr_8_6_X12 : fP 8 6 true RX12 (.array .int) := ⟨RX12, TX12, 47, tyX12, rfl, tyX12_ok, nmX12, rfl, fun _ => rfl, rfl⟩
theorem fr_8_10_X12 : fP 8 10 true RX12 (.array .int) := ⟨RX12, TX12, 47, tyX12, rfl, tyX12_ok, nmX12, rfl, fun _ => rfl, rfl⟩
theorem fr_8_11_X12 : fP 8 11 true RX12 (.array .int) := ⟨RX12, TX12, 47, tyX12, rfl, tyX12_ok, nmX12, rfl, fun _ => rfl, rfl⟩
theorem fr_8_12_X12 : fP 8 12 true RX12 (.array .int) := ⟨RX12, TX12, 47, tyX12, rfl, tyX12_ok, nmX12, rfl, fun _ => rfl, rfl⟩
theorem fr_8_13_X12 : fP 8 13 true RX12 (.array .int) := ⟨RX12, TX12, 47, tyX12, rfl, tyX12_ok, nmX12, rfl, fun _ => rfl, rfl⟩
theorem fr_8_14_X12 : fP 8 14 true RX12 (.array .int) := ⟨RX12, TX12, 47, tyX12, rfl, tyX12_ok, nmX12, rfl, fun _ => rfl, rfl⟩
theorem fr_8_15_X12 : fP 8 15 true RX12 (.array .int) := ⟨RX12, TX12, 47, tyX12, rfl, tyX12_ok, nmX12, rfl, fun _ => rfl, rfl⟩
theorem fr_8_16_X12 : fP 8 16 true RX12 (.array .int) := ⟨RX12, TX12, 47, tyX12, rfl, tyX12_ok, nmX12, rfl, fun _ => rfl, rfl⟩
theorem fr_8_17_X12 : fP 8 17 true RX12 (.array .int) := ⟨RX12, TX12, 47, tyX12, rfl, tyX12_ok, nmX12, rfl, fun _ => rfl, rfl⟩
theorem fr_8_19_X12 : fP 8 19 true RX12 (.array .int) := ⟨RX12, TX12, 47, tyX12, rfl, tyX12_ok, nmX12, rfl, fun _ => rfl, rfl⟩
theorem fr_8_20_X12 : fP 8 20 true RX12 (.array .int) := ⟨RX12, TX12, 47, tyX12, rfl, tyX12_ok, nmX12, rfl, fun _ => rfl, rfl⟩
theorem fr_8_21_X12 : fP 8 21 true RX12 (.array .boolean) := ⟨RX12, TX12, 47, tyX12, rfl, tyX12_ok, nmX12, rfl, fun _ => rfl, rfl⟩
theorem fr_8_27_X12 : fP 8 27 true RX12 (.array .int) := ⟨RX12, TX12, 47, tyX12, rfl, tyX12_ok, nmX12, rfl, fun _ => rfl, rfl⟩
theorem fr_8_28_X12 : fP 8 28 true RX12 (.array .int) := ⟨RX12, TX12, 47, tyX12, rfl, tyX12_ok, nmX12, rfl, fun _ => rfl, rfl⟩
theorem fr_8_29_X12 : fP 8 29 true RX12 (.array .int) := ⟨RX12, TX12, 47, tyX12, rfl, tyX12_ok, nmX12, rfl, fun _ => rfl, rfl⟩
theorem fr_8_30_X12 : fP 8 30 true RX12 (.array .int) := ⟨RX12, TX12, 47, tyX12, rfl, tyX12_ok, nmX12, rfl, fun _ => rfl, rfl⟩
theorem fr_8_31_X12 : fP 8 31 true RX12 (.array .int) := ⟨RX12, TX12, 47, tyX12, rfl, tyX12_ok, nmX12, rfl, fun _ => rfl, rfl⟩
theorem fr_8_32_X12 : fP 8 32 true RX12 (.array .int) := ⟨RX12, TX12, 47, tyX12, rfl, tyX12_ok, nmX12, rfl, fun _ => rfl, rfl⟩
theorem fr_8_33_X12 : fP 8 33 true RX12 (.array .int) := ⟨RX12, TX12, 47, tyX12, rfl, tyX12_ok, nmX12, rfl, fun _ => rfl, rfl⟩
theorem fr_8_36_X12 : fP 8 36 true RX12 (.array .int) := ⟨RX12, TX12, 47, tyX12, rfl, tyX12_ok, nmX12, rfl, fun _ => rfl, rfl⟩
theorem fr_8_40_X12 : fP 8 40 true RX12 (.array .int) := ⟨RX12, TX12, 47, tyX12, rfl, tyX12_ok, nmX12, rfl, fun _ => rfl, rfl⟩
theorem fr_8_41_X12 : fP 8 41 true RX12 (.array .int) := ⟨RX12, TX12, 47, tyX12, rfl, tyX12_ok, nmX12, rfl, fun _ => rfl, rfl⟩
theorem fr_8_42_X12 : fP 8 42 true RX12 (.array .int) := ⟨RX12, TX12, 47, tyX12, rfl, tyX12_ok, nmX12, rfl, fun _ => rfl, rfl⟩
def rm_X7_init : Room := { frames := 1, cells := 0, slots := 0, locals := 23 }
def f_X7_init : Option Unit := some ()
theorem w_X7_init {X : wX} (C : Cx X yX7_init cX7_init 1 none rm_X7_init) (N : Nat) (r : Rp) (h : Hp) (a0 : Nat) : wG X 1 (eM X (fun _ => (none, N, h, r))) f_X7_init N h r 0 0 0 [(0, .ref (xB X + a0))] [] := by
  refine wG_of (f_X7_init.eq_1 ..) ?_
  refine wG_aload_n C dX7_init_0 0 rfl ?_
  refine wG_obj C bw_X7_3 ⟨by decide, Nat.le_of_ble_eq_true rfl⟩ dX7_init_1 ?_
  exact wG_vret C dX7_init_4 ⟨by decide, by decide⟩ (fun _ e => e)
theorem c_X7_init (l : Launch) (E : wE) (N : Nat) (r : Rp) (h : Hp) (a0 : Nat) : ∀ z, f_X7_init = some z → CT l E yX7_init cX7_init 1 none rm_X7_init [.ref (eB E + a0)] N h r ((fun _ => (none, N, h, r)) z) := CT.of (by decide +kernel) (Nat.le_of_ble_eq_true rfl) (fun X _ e C => by subst e; exact w_X7_init C N r h a0)
def rmk_X10_init_1 : Room := { frames := 1, cells := 1, slots := 48, locals := 23 }
def R_X10_init_1 (r : Rp) : Rp := (u2 (va_up r 2 (fun _ => none)) 1 0 (some 2))
def fk_X10_init_1 (h : Hp) : Option Hp :=
  if (48 : Int32) = nI 48 then vB (va_up h 2 (fun _ => 0)) fun h_1 =>
  some h_1 else none
set_option maxRecDepth 10000 in
theorem wk_X10_init_1 {X : wX} (C : Cx X yX10_init cX10_init 1 none rmk_X10_init_1) (r : Rp) (h : Hp) : wG X 1 (eM X (fun u => (none, 3, u, R_X10_init_1 r))) (fk_X10_init_1 h) 2 h r 0 0 0 [(0, .ref (xB X + 1))] [] := by
  refine wG_of (fk_X10_init_1.eq_1 ..) ?_
  refine wG_aload_n C dX10_init_0 0 rfl ?_
  refine wG_obj C bw_X10_3 ⟨by decide, Nat.le_of_ble_eq_true rfl⟩ dX10_init_1 ?_
  refine wG_aload_n C dX10_init_4 0 rfl ?_
  refine wG_bipush C dX10_init_5 (v := 48) (by decide) ?_
  refine wG_newaK C (ty := .int) rfl (Or.inl ⟨rfl, rfl⟩) m_78 kd_2 ln_2 (by decide) ⟨by decide, by decide⟩ dX10_init_7 (cl' := 1) (sl' := 48) rfl rfl (N' := 3) rfl (fun h_1 => ?_)
  refine wG_putRK C fl_X10_9_10 fr_10_0_X10 (fun _ => rfl) rfl kd_1 (by decide) (Or.inr ⟨_, rfl⟩) (by decide) dX10_init_9 ?_
  exact wG_vret C dX10_init_12 ⟨by decide, by decide⟩ (fun _ e => e)
theorem ck_X10_init_1 (l : Launch) (E : wE) (r : Rp) (h : Hp) : ∀ z, fk_X10_init_1 h = some z → CT l E yX10_init cX10_init 1 none rmk_X10_init_1 [.ref (eB E + 1)] 2 h r (none, 3, z, R_X10_init_1 r) := CT.of (φ := fun u => (none, 3, u, R_X10_init_1 r)) (by decide +kernel) (Nat.le_of_ble_eq_true rfl) (fun X _ e C => by subst e; exact wk_X10_init_1 C r h)
def rmk_X4_init_3 : Room := { frames := 2, cells := 3, slots := 134, locals := 47 }
def R_X4_init_3 (r : Rp) : Rp := (u2 (va_up (u2 (va_up (u2 (va_up r 4 (fun _ => none)) 3 0 (some 4)) 5 (fun _ => none)) 3 1 (some 5)) 6 (fun _ => none)) 3 2 (some 6))
def fk_X4_init_3 (h : Hp) : Option Hp :=
  if (36 : Int32) = nI 36 then vB (va_up h 4 (fun _ => 0)) fun h_1 =>
  if (49 : Int32) = nI 49 then vB (va_up h_1 5 (fun _ => 0)) fun h_2 =>
  if (49 : Int32) = nI 49 then vB (va_up h_2 6 (fun _ => 0)) fun h_3 =>
  vB (u2 h_3 3 3 1) fun h_4 =>
  vB (u2 h_4 3 4 1) fun h_5 =>
  vB (u2 h_5 3 5 5) fun h_6 =>
  vB (u2 h_6 3 6 6) fun h_7 =>
  (f_X4_addUp h_7).bind fun u_8 =>
  some u_8 else none else none else none
set_option maxRecDepth 10000 in
theorem wk_X4_init_3 {X : wX} (C : Cx X yX4_init cX4_init 1 none rmk_X4_init_3) (r : Rp) (h : Hp) : wG X 1 (eM X (fun u => (none, 7, u, R_X4_init_3 r))) (fk_X4_init_3 h) 4 h r 0 0 0 [(0, .ref (xB X + 3))] [] := by
  refine wG_of (fk_X4_init_3.eq_1 ..) ?_
  refine wG_aload_n C dX4_init_0 0 rfl ?_
  refine wG_obj C bw_X4_3 ⟨by decide, Nat.le_of_ble_eq_true rfl⟩ dX4_init_1 ?_
  refine wG_aload_n C dX4_init_4 0 rfl ?_
  refine wG_bipush C dX4_init_5 (v := 36) (by decide) ?_
  refine wG_newaK C (ty := .int) rfl (Or.inl ⟨rfl, rfl⟩) m_78 kd_4 ln_4 (by decide) ⟨by decide, by decide⟩ dX4_init_7 (cl' := 1) (sl' := 36) rfl rfl (N' := 5) rfl (fun h_1 => ?_)
  refine wG_putRK C fl_X4_9_4 fr_4_0_X4 (fun _ => rfl) rfl kd_3 (by decide) (Or.inr ⟨_, rfl⟩) (by decide) dX4_init_9 ?_
  refine wG_aload_n C dX4_init_12 0 rfl ?_
  refine wG_bipush C dX4_init_13 (v := 49) (by decide) ?_
  refine wG_newaK C (ty := .int) rfl (Or.inl ⟨rfl, rfl⟩) m_78 kd_5 ln_5 (by decide) ⟨by decide, by decide⟩ dX4_init_15 (cl' := 2) (sl' := 85) rfl rfl (N' := 6) rfl (fun h_2 => ?_)
  refine wG_putRK C fl_X4_15_4 fr_4_1_X4 (fun _ => rfl) rfl kd_3 (by decide) (Or.inr ⟨_, rfl⟩) (by decide) dX4_init_17 ?_
  refine wG_aload_n C dX4_init_20 0 rfl ?_
  refine wG_bipush C dX4_init_21 (v := 49) (by decide) ?_
  refine wG_newaK C (ty := .int) rfl (Or.inl ⟨rfl, rfl⟩) m_78 kd_6 ln_6 (by decide) ⟨by decide, by decide⟩ dX4_init_23 (cl' := 3) (sl' := 134) rfl rfl (N' := 7) rfl (fun h_3 => ?_)
  refine wG_putRK C fl_X4_18_4 fr_4_2_X4 (fun _ => rfl) rfl kd_3 (by decide) (Or.inr ⟨_, rfl⟩) (by decide) dX4_init_25 ?_
  refine wG_aload_n C dX4_init_28 0 rfl ?_
  refine wG_iconst C dX4_init_29 (v := 1) (by decide) ?_
  refine wG_putI C fl_X4_21_4 (fp_4_3 _) (fun _ => rfl) rfl kd_3 (by decide) dX4_init_30 (fun h_4 => ?_)
  refine wG_aload_n C dX4_init_33 0 rfl ?_
  refine wG_iconst C dX4_init_34 (v := 1) (by decide) ?_
  refine wG_putI C fl_X4_25_4 (fp_4_4 _) (fun _ => rfl) rfl kd_3 (by decide) dX4_init_35 (fun h_5 => ?_)
  refine wG_aload_n C dX4_init_38 0 rfl ?_
  refine wG_iconst C dX4_init_39 (v := 5) (by decide) ?_
  refine wG_putI C fl_X4_28_4 (fp_4_5 _) (fun _ => rfl) rfl kd_3 (by decide) dX4_init_40 (fun h_6 => ?_)
  refine wG_aload_n C dX4_init_43 0 rfl ?_
  refine wG_bipush C dX4_init_44 (v := 6) (by decide) ?_
  refine wG_putI C fl_X4_31_4 (fp_4_6 _) (fun _ => rfl) rfl kd_3 (by decide) dX4_init_46 (fun h_7 => ?_)
  refine wG_aload_n C dX4_init_49 0 rfl ?_
  refine wG_cV_wv [] [] C vw_X4_34 (c_X4_addUp (xl X) (xE X) _ _ (by decide) ⟨rfl, rfl, rfl⟩ h_7) kd_3 (by decide) (by decide) rfl rfl (Nat.le_of_ble_eq_true rfl) dX4_init_50 (cl' := 3) (sl' := 134) rfl rfl (fun u_8 => ?_)
  exact wG_vret C dX4_init_53 ⟨by decide, by decide⟩ (fun _ e => e)
theorem ck_X4_init_3 (l : Launch) (E : wE) (r : Rp) (h : Hp) : ∀ z, fk_X4_init_3 h = some z → CT l E yX4_init cX4_init 1 none rmk_X4_init_3 [.ref (eB E + 3)] 4 h r (none, 7, z, R_X4_init_3 r) := CT.of (φ := fun u => (none, 7, u, R_X4_init_3 r)) (by decide +kernel) (Nat.le_of_ble_eq_true rfl) (fun X _ e C => by subst e; exact wk_X4_init_3 C r h)
def rmk_X1_init_7 : Room := { frames := 4, cells := 26, slots := 349, locals := 92 }
def R_X1_init_7 (r : Rp) : Rp := (u2 (va_up (u2 (va_up (u2 (va_up (u2 (va_up (u2 (va_up (u2 (va_up (u2 (va_up (u2 (va_up (u2 (va_up (u2 (va_up (u2 (va_up (u2 (va_up (u2 (va_up (u2 (va_up (u2 (va_up (u2 (va_up (u2 (va_up (u2 (va_up (u2 (va_up (u2 (va_up (u2 (va_up (u2 (va_up (u2 (va_up (u2 (va_up (u2 (u2 (va_up (u2 (va_up r 8 (fun _ => none)) 7 1 (some 8)) 9 (fun _ => none)) 7 2 (some 9)) 7 0 (some 3)) 10 (fun _ => none)) 8 0 (some 10)) 11 (fun _ => none)) 8 1 (some 11)) 12 (fun _ => none)) 8 2 (some 12)) 13 (fun _ => none)) 8 3 (some 13)) 14 (fun _ => none)) 8 4 (some 14)) 15 (fun _ => none)) 8 5 (some 15)) 16 (fun _ => none)) 8 6 (some 16)) 17 (fun _ => none)) 8 7 (some 17)) 18 (fun _ => none)) 8 8 (some 18)) 19 (fun _ => none)) 8 9 (some 19)) 20 (fun _ => none)) 8 10 (some 20)) 21 (fun _ => none)) 8 11 (some 21)) 22 (fun _ => none)) 8 12 (some 22)) 23 (fun _ => none)) 8 13 (some 23)) 24 (fun _ => none)) 8 14 (some 24)) 25 (fun _ => none)) 8 15 (some 25)) 26 (fun _ => none)) 8 16 (some 26)) 27 (fun _ => none)) 8 17 (some 27)) 28 (fun _ => none)) 8 18 (some 28)) 29 (fun _ => none)) 8 19 (some 29)) 30 (fun _ => none)) 8 20 (some 30)) 31 (fun _ => none)) 8 21 (some 31)) 32 (fun _ => none)) 8 22 (some 32)) 33 (fun _ => none)) 8 23 (some 33))
def fk_X1_init_7 (h : Hp) : Option Hp :=
  if (24 : Int32) = nI 24 then vB (va_up h 8 (fun _ => 0)) fun h_1 =>
  vB (va_up h_1 9 (fun _ => 0)) fun h_2 =>
  (f_X7_init).bind fun u_3 =>
  vB (va_up h_2 10 (fun _ => 0)) fun h_4 =>
  (f_X7_init).bind fun u_5 =>
  if inB 0 24 then
  vB (va_up h_4 11 (fun _ => 0)) fun h_6 =>
  (f_X7_init).bind fun u_7 =>
  if inB 1 24 then
  vB (va_up h_6 12 (fun _ => 0)) fun h_8 =>
  (f_X7_init).bind fun u_9 =>
  if inB 2 24 then
  vB (va_up h_8 13 (fun _ => 0)) fun h_10 =>
  (f_X7_init).bind fun u_11 =>
  if inB 3 24 then
  vB (va_up h_10 14 (fun _ => 0)) fun h_12 =>
  (f_X7_init).bind fun u_13 =>
  if inB 4 24 then
  vB (va_up h_12 15 (fun _ => 0)) fun h_14 =>
  (f_X7_init).bind fun u_15 =>
  if inB 5 24 then
  vB (va_up h_14 16 (fun _ => 0)) fun h_16 =>
  (f_X7_init).bind fun u_17 =>
  if inB 6 24 then
  vB (va_up h_16 17 (fun _ => 0)) fun h_18 =>
  (f_X7_init).bind fun u_19 =>
  if inB 7 24 then
  vB (va_up h_18 18 (fun _ => 0)) fun h_20 =>
  (f_X7_init).bind fun u_21 =>
  if inB 8 24 then
  vB (va_up h_20 19 (fun _ => 0)) fun h_22 =>
  (f_X7_init).bind fun u_23 =>
  if inB 9 24 then
  vB (va_up h_22 20 (fun _ => 0)) fun h_24 =>
  (f_X7_init).bind fun u_25 =>
  if inB 10 24 then
  vB (va_up h_24 21 (fun _ => 0)) fun h_26 =>
  (f_X7_init).bind fun u_27 =>
  if inB 11 24 then
  vB (va_up h_26 22 (fun _ => 0)) fun h_28 =>
  (f_X7_init).bind fun u_29 =>
  if inB 12 24 then
  vB (va_up h_28 23 (fun _ => 0)) fun h_30 =>
  (f_X7_init).bind fun u_31 =>
  if inB 13 24 then
  vB (va_up h_30 24 (fun _ => 0)) fun h_32 =>
  (f_X7_init).bind fun u_33 =>
  if inB 14 24 then
  vB (va_up h_32 25 (fun _ => 0)) fun h_34 =>
  (f_X7_init).bind fun u_35 =>
  if inB 15 24 then
  vB (va_up h_34 26 (fun _ => 0)) fun h_36 =>
  (f_X7_init).bind fun u_37 =>
  if inB 16 24 then
  vB (va_up h_36 27 (fun _ => 0)) fun h_38 =>
  (f_X7_init).bind fun u_39 =>
  if inB 17 24 then
  vB (va_up h_38 28 (fun _ => 0)) fun h_40 =>
  (f_X7_init).bind fun u_41 =>
  if inB 18 24 then
  vB (va_up h_40 29 (fun _ => 0)) fun h_42 =>
  (f_X7_init).bind fun u_43 =>
  if inB 19 24 then
  vB (va_up h_42 30 (fun _ => 0)) fun h_44 =>
  (f_X7_init).bind fun u_45 =>
  if inB 20 24 then
  vB (va_up h_44 31 (fun _ => 0)) fun h_46 =>
  (f_X7_init).bind fun u_47 =>
  if inB 21 24 then
  vB (va_up h_46 32 (fun _ => 0)) fun h_48 =>
  (f_X7_init).bind fun u_49 =>
  if inB 22 24 then
  vB (va_up h_48 33 (fun _ => 0)) fun h_50 =>
  (f_X7_init).bind fun u_51 =>
  if inB 23 24 then
  (f_X1_startAnew h_50 7).bind fun u_52 =>
  some u_52 else none else none else none else none else none else none else none else none else none else none else none else none else none else none else none else none else none else none else none else none else none else none else none else none else none
set_option maxRecDepth 10000 in
theorem wk_X1_init_7 {X : wX} (C : Cx X yX1_init cX1_init 3 none rmk_X1_init_7) (r : Rp) (h : Hp) (hF : r 3 0 = some 4 ∧ r 3 1 = some 5 ∧ r 3 2 = some 6) : wG X 3 (eM X (fun u => (none, 34, u, R_X1_init_7 r))) (fk_X1_init_7 h) 8 h r 0 0 0 [(0, .ref (xB X + 7)), (1, .ref (xB X + 3))] [] := by
  refine wG_of (fk_X1_init_7.eq_1 ..) ?_
  refine wG_aload_n C dX1_init_0 0 rfl ?_
  refine wG_obj C bw_X1_3 ⟨by decide, Nat.le_of_ble_eq_true rfl⟩ dX1_init_1 ?_
  refine wG_aload_n C dX1_init_4 0 rfl ?_
  refine wG_bipush C dX1_init_5 (v := 24) (by decide) ?_
  refine wG_newrK C (Cn := RX7) m_138 C.sp.2.2.2.2.2 rfl (by decide) (by decide) kd_8 ln_8 (by decide) ⟨by decide, by decide⟩ dX1_init_7 (cl' := 1) (sl' := 24) rfl rfl (N' := 9) rfl (fun h_1 => ?_)
  refine wG_putRK C fl_X1_11_1 fr_1_1_X1 (fun _ => rfl) rfl kd_7 (by decide) (Or.inr ⟨_, rfl⟩) (by decide) dX1_init_10 ?_
  refine wG_aload_n C dX1_init_13 0 rfl ?_
  refine wG_newK C ow_X1_9 kd_9 (show nF 7 = 13 from rfl) ⟨by decide, by decide⟩ dX1_init_14 (cl' := 2) (sl' := 37) rfl rfl (N' := 10) rfl (fun h_2 => ?_)
  refine wG_dup C dX1_init_17 rfl ?_
  refine wG_cIN_rv [] [.ref (xB X + 9), .ref (xB X + 7)] C nw_X1_17 rfl (c_X7_init (xl X) (xE X) _ _ _ 9) (by decide) rfl rfl (Nat.le_of_ble_eq_true rfl) dX1_init_18 (cl' := 2) (sl' := 37) rfl rfl (fun u_3 => ?_)
  refine wG_putRK C fl_X1_18_1 fr_1_2_X1 (fun _ => rfl) rfl kd_7 (by decide) (Or.inl ⟨_, rfl⟩) (by decide) dX1_init_21 ?_
  refine wG_aload_n C dX1_init_24 0 rfl ?_
  refine wG_aload_n C dX1_init_25 1 rfl ?_
  refine wG_putRK C fl_X1_22_1 fr_1_0_X1 (fun _ => rfl) rfl kd_7 (by decide) (Or.inl ⟨_, rfl⟩) (by decide) dX1_init_26 ?_
  refine wG_iconst C dX1_init_29 (v := 0) (by decide) ?_
  refine wG_istore_n C (L' := [(0, .ref (xB X + 7)), (1, .ref (xB X + 3)), (2, .int 0)]) dX1_init_30 (by decide) [1, 2, 0] rfl ?_
  refine wG_iload_n C dX1_init_31 2 rfl ?_
  refine wG_bipush C dX1_init_32 (v := 24) (by decide) ?_
  refine wG_geF C (by decide) dX1_init_34 ?_
  refine wG_aload_n C dX1_init_37 0 rfl ?_
  refine wG_getR C (b := 8) fl_X1_11_1 rfl kd_7 (by decide) rfl dX1_init_38 ?_
  refine wG_iload_n C dX1_init_41 2 rfl ?_
  refine wG_newK C ow_X1_9 kd_10 (show nF 7 = 13 from rfl) ⟨by decide, by decide⟩ dX1_init_42 (cl' := 3) (sl' := 50) rfl rfl (N' := 11) rfl (fun h_4 => ?_)
  refine wG_dup C dX1_init_45 rfl ?_
  refine wG_cIN_rv [] [.ref (xB X + 10), .int 0, .ref (xB X + 8)] C nw_X1_17 rfl (c_X7_init (xl X) (xE X) _ _ _ 10) (by decide) rfl rfl (Nat.le_of_ble_eq_true rfl) dX1_init_46 (cl' := 3) (sl' := 50) rfl rfl (fun u_5 => ?_)
  refine wG_aastK C (q := (RX7, TX7, 13)) kd_8 (by decide) (by decide) rfl (by decide) ln_8 kd_10 (by decide) rfl (by decide) (by decide) (j := 0) rfl dX1_init_49 ?_
  refine wG_iincK C (v := 1) (w := 1) (L' := [(0, .ref (xB X + 7)), (1, .ref (xB X + 3)), (2, .int 1)]) dX1_init_50 2 rfl (by decide) (by decide) (by decide) [1, 2, 0] rfl ?_
  refine wG_goto C dX1_init_53 ?_
  refine wG_iload_n C dX1_init_31 2 rfl ?_
  refine wG_bipush C dX1_init_32 (v := 24) (by decide) ?_
  refine wG_geF C (by decide) dX1_init_34 ?_
  refine wG_aload_n C dX1_init_37 0 rfl ?_
  refine wG_getR C (b := 8) fl_X1_11_1 rfl kd_7 (by decide) rfl dX1_init_38 ?_
  refine wG_iload_n C dX1_init_41 2 rfl ?_
  refine wG_newK C ow_X1_9 kd_11 (show nF 7 = 13 from rfl) ⟨by decide, by decide⟩ dX1_init_42 (cl' := 4) (sl' := 63) rfl rfl (N' := 12) rfl (fun h_6 => ?_)
  refine wG_dup C dX1_init_45 rfl ?_
  refine wG_cIN_rv [] [.ref (xB X + 11), .int 1, .ref (xB X + 8)] C nw_X1_17 rfl (c_X7_init (xl X) (xE X) _ _ _ 11) (by decide) rfl rfl (Nat.le_of_ble_eq_true rfl) dX1_init_46 (cl' := 4) (sl' := 63) rfl rfl (fun u_7 => ?_)
  refine wG_aastK C (q := (RX7, TX7, 13)) kd_8 (by decide) (by decide) rfl (by decide) ln_8 kd_11 (by decide) rfl (by decide) (by decide) (j := 1) rfl dX1_init_49 ?_
  refine wG_iincK C (v := 1) (w := 2) (L' := [(0, .ref (xB X + 7)), (1, .ref (xB X + 3)), (2, .int 2)]) dX1_init_50 2 rfl (by decide) (by decide) (by decide) [1, 2, 0] rfl ?_
  refine wG_goto C dX1_init_53 ?_
  refine wG_iload_n C dX1_init_31 2 rfl ?_
  refine wG_bipush C dX1_init_32 (v := 24) (by decide) ?_
  refine wG_geF C (by decide) dX1_init_34 ?_
  refine wG_aload_n C dX1_init_37 0 rfl ?_
  refine wG_getR C (b := 8) fl_X1_11_1 rfl kd_7 (by decide) rfl dX1_init_38 ?_
  refine wG_iload_n C dX1_init_41 2 rfl ?_
  refine wG_newK C ow_X1_9 kd_12 (show nF 7 = 13 from rfl) ⟨by decide, by decide⟩ dX1_init_42 (cl' := 5) (sl' := 76) rfl rfl (N' := 13) rfl (fun h_8 => ?_)
  refine wG_dup C dX1_init_45 rfl ?_
  refine wG_cIN_rv [] [.ref (xB X + 12), .int 2, .ref (xB X + 8)] C nw_X1_17 rfl (c_X7_init (xl X) (xE X) _ _ _ 12) (by decide) rfl rfl (Nat.le_of_ble_eq_true rfl) dX1_init_46 (cl' := 5) (sl' := 76) rfl rfl (fun u_9 => ?_)
  refine wG_aastK C (q := (RX7, TX7, 13)) kd_8 (by decide) (by decide) rfl (by decide) ln_8 kd_12 (by decide) rfl (by decide) (by decide) (j := 2) rfl dX1_init_49 ?_
  refine wG_iincK C (v := 1) (w := 3) (L' := [(0, .ref (xB X + 7)), (1, .ref (xB X + 3)), (2, .int 3)]) dX1_init_50 2 rfl (by decide) (by decide) (by decide) [1, 2, 0] rfl ?_
  refine wG_goto C dX1_init_53 ?_
  refine wG_iload_n C dX1_init_31 2 rfl ?_
  refine wG_bipush C dX1_init_32 (v := 24) (by decide) ?_
  refine wG_geF C (by decide) dX1_init_34 ?_
  refine wG_aload_n C dX1_init_37 0 rfl ?_
  refine wG_getR C (b := 8) fl_X1_11_1 rfl kd_7 (by decide) rfl dX1_init_38 ?_
  refine wG_iload_n C dX1_init_41 2 rfl ?_
  refine wG_newK C ow_X1_9 kd_13 (show nF 7 = 13 from rfl) ⟨by decide, by decide⟩ dX1_init_42 (cl' := 6) (sl' := 89) rfl rfl (N' := 14) rfl (fun h_10 => ?_)
  refine wG_dup C dX1_init_45 rfl ?_
  refine wG_cIN_rv [] [.ref (xB X + 13), .int 3, .ref (xB X + 8)] C nw_X1_17 rfl (c_X7_init (xl X) (xE X) _ _ _ 13) (by decide) rfl rfl (Nat.le_of_ble_eq_true rfl) dX1_init_46 (cl' := 6) (sl' := 89) rfl rfl (fun u_11 => ?_)
  refine wG_aastK C (q := (RX7, TX7, 13)) kd_8 (by decide) (by decide) rfl (by decide) ln_8 kd_13 (by decide) rfl (by decide) (by decide) (j := 3) rfl dX1_init_49 ?_
  refine wG_iincK C (v := 1) (w := 4) (L' := [(0, .ref (xB X + 7)), (1, .ref (xB X + 3)), (2, .int 4)]) dX1_init_50 2 rfl (by decide) (by decide) (by decide) [1, 2, 0] rfl ?_
  refine wG_goto C dX1_init_53 ?_
  refine wG_iload_n C dX1_init_31 2 rfl ?_
  refine wG_bipush C dX1_init_32 (v := 24) (by decide) ?_
  refine wG_geF C (by decide) dX1_init_34 ?_
  refine wG_aload_n C dX1_init_37 0 rfl ?_
  refine wG_getR C (b := 8) fl_X1_11_1 rfl kd_7 (by decide) rfl dX1_init_38 ?_
  refine wG_iload_n C dX1_init_41 2 rfl ?_
  refine wG_newK C ow_X1_9 kd_14 (show nF 7 = 13 from rfl) ⟨by decide, by decide⟩ dX1_init_42 (cl' := 7) (sl' := 102) rfl rfl (N' := 15) rfl (fun h_12 => ?_)
  refine wG_dup C dX1_init_45 rfl ?_
  refine wG_cIN_rv [] [.ref (xB X + 14), .int 4, .ref (xB X + 8)] C nw_X1_17 rfl (c_X7_init (xl X) (xE X) _ _ _ 14) (by decide) rfl rfl (Nat.le_of_ble_eq_true rfl) dX1_init_46 (cl' := 7) (sl' := 102) rfl rfl (fun u_13 => ?_)
  refine wG_aastK C (q := (RX7, TX7, 13)) kd_8 (by decide) (by decide) rfl (by decide) ln_8 kd_14 (by decide) rfl (by decide) (by decide) (j := 4) rfl dX1_init_49 ?_
  refine wG_iincK C (v := 1) (w := 5) (L' := [(0, .ref (xB X + 7)), (1, .ref (xB X + 3)), (2, .int 5)]) dX1_init_50 2 rfl (by decide) (by decide) (by decide) [1, 2, 0] rfl ?_
  refine wG_goto C dX1_init_53 ?_
  refine wG_iload_n C dX1_init_31 2 rfl ?_
  refine wG_bipush C dX1_init_32 (v := 24) (by decide) ?_
  refine wG_geF C (by decide) dX1_init_34 ?_
  refine wG_aload_n C dX1_init_37 0 rfl ?_
  refine wG_getR C (b := 8) fl_X1_11_1 rfl kd_7 (by decide) rfl dX1_init_38 ?_
  refine wG_iload_n C dX1_init_41 2 rfl ?_
  refine wG_newK C ow_X1_9 kd_15 (show nF 7 = 13 from rfl) ⟨by decide, by decide⟩ dX1_init_42 (cl' := 8) (sl' := 115) rfl rfl (N' := 16) rfl (fun h_14 => ?_)
  refine wG_dup C dX1_init_45 rfl ?_
  refine wG_cIN_rv [] [.ref (xB X + 15), .int 5, .ref (xB X + 8)] C nw_X1_17 rfl (c_X7_init (xl X) (xE X) _ _ _ 15) (by decide) rfl rfl (Nat.le_of_ble_eq_true rfl) dX1_init_46 (cl' := 8) (sl' := 115) rfl rfl (fun u_15 => ?_)
  refine wG_aastK C (q := (RX7, TX7, 13)) kd_8 (by decide) (by decide) rfl (by decide) ln_8 kd_15 (by decide) rfl (by decide) (by decide) (j := 5) rfl dX1_init_49 ?_
  refine wG_iincK C (v := 1) (w := 6) (L' := [(0, .ref (xB X + 7)), (1, .ref (xB X + 3)), (2, .int 6)]) dX1_init_50 2 rfl (by decide) (by decide) (by decide) [1, 2, 0] rfl ?_
  refine wG_goto C dX1_init_53 ?_
  refine wG_iload_n C dX1_init_31 2 rfl ?_
  refine wG_bipush C dX1_init_32 (v := 24) (by decide) ?_
  refine wG_geF C (by decide) dX1_init_34 ?_
  refine wG_aload_n C dX1_init_37 0 rfl ?_
  refine wG_getR C (b := 8) fl_X1_11_1 rfl kd_7 (by decide) rfl dX1_init_38 ?_
  refine wG_iload_n C dX1_init_41 2 rfl ?_
  refine wG_newK C ow_X1_9 kd_16 (show nF 7 = 13 from rfl) ⟨by decide, by decide⟩ dX1_init_42 (cl' := 9) (sl' := 128) rfl rfl (N' := 17) rfl (fun h_16 => ?_)
  refine wG_dup C dX1_init_45 rfl ?_
  refine wG_cIN_rv [] [.ref (xB X + 16), .int 6, .ref (xB X + 8)] C nw_X1_17 rfl (c_X7_init (xl X) (xE X) _ _ _ 16) (by decide) rfl rfl (Nat.le_of_ble_eq_true rfl) dX1_init_46 (cl' := 9) (sl' := 128) rfl rfl (fun u_17 => ?_)
  refine wG_aastK C (q := (RX7, TX7, 13)) kd_8 (by decide) (by decide) rfl (by decide) ln_8 kd_16 (by decide) rfl (by decide) (by decide) (j := 6) rfl dX1_init_49 ?_
  refine wG_iincK C (v := 1) (w := 7) (L' := [(0, .ref (xB X + 7)), (1, .ref (xB X + 3)), (2, .int 7)]) dX1_init_50 2 rfl (by decide) (by decide) (by decide) [1, 2, 0] rfl ?_
  refine wG_goto C dX1_init_53 ?_
  refine wG_iload_n C dX1_init_31 2 rfl ?_
  refine wG_bipush C dX1_init_32 (v := 24) (by decide) ?_
  refine wG_geF C (by decide) dX1_init_34 ?_
  refine wG_aload_n C dX1_init_37 0 rfl ?_
  refine wG_getR C (b := 8) fl_X1_11_1 rfl kd_7 (by decide) rfl dX1_init_38 ?_
  refine wG_iload_n C dX1_init_41 2 rfl ?_
  refine wG_newK C ow_X1_9 kd_17 (show nF 7 = 13 from rfl) ⟨by decide, by decide⟩ dX1_init_42 (cl' := 10) (sl' := 141) rfl rfl (N' := 18) rfl (fun h_18 => ?_)
  refine wG_dup C dX1_init_45 rfl ?_
  refine wG_cIN_rv [] [.ref (xB X + 17), .int 7, .ref (xB X + 8)] C nw_X1_17 rfl (c_X7_init (xl X) (xE X) _ _ _ 17) (by decide) rfl rfl (Nat.le_of_ble_eq_true rfl) dX1_init_46 (cl' := 10) (sl' := 141) rfl rfl (fun u_19 => ?_)
  refine wG_aastK C (q := (RX7, TX7, 13)) kd_8 (by decide) (by decide) rfl (by decide) ln_8 kd_17 (by decide) rfl (by decide) (by decide) (j := 7) rfl dX1_init_49 ?_
  refine wG_iincK C (v := 1) (w := 8) (L' := [(0, .ref (xB X + 7)), (1, .ref (xB X + 3)), (2, .int 8)]) dX1_init_50 2 rfl (by decide) (by decide) (by decide) [1, 2, 0] rfl ?_
  refine wG_goto C dX1_init_53 ?_
  refine wG_iload_n C dX1_init_31 2 rfl ?_
  refine wG_bipush C dX1_init_32 (v := 24) (by decide) ?_
  refine wG_geF C (by decide) dX1_init_34 ?_
  refine wG_aload_n C dX1_init_37 0 rfl ?_
  refine wG_getR C (b := 8) fl_X1_11_1 rfl kd_7 (by decide) rfl dX1_init_38 ?_
  refine wG_iload_n C dX1_init_41 2 rfl ?_
  refine wG_newK C ow_X1_9 kd_18 (show nF 7 = 13 from rfl) ⟨by decide, by decide⟩ dX1_init_42 (cl' := 11) (sl' := 154) rfl rfl (N' := 19) rfl (fun h_20 => ?_)
  refine wG_dup C dX1_init_45 rfl ?_
  refine wG_cIN_rv [] [.ref (xB X + 18), .int 8, .ref (xB X + 8)] C nw_X1_17 rfl (c_X7_init (xl X) (xE X) _ _ _ 18) (by decide) rfl rfl (Nat.le_of_ble_eq_true rfl) dX1_init_46 (cl' := 11) (sl' := 154) rfl rfl (fun u_21 => ?_)
  refine wG_aastK C (q := (RX7, TX7, 13)) kd_8 (by decide) (by decide) rfl (by decide) ln_8 kd_18 (by decide) rfl (by decide) (by decide) (j := 8) rfl dX1_init_49 ?_
  refine wG_iincK C (v := 1) (w := 9) (L' := [(0, .ref (xB X + 7)), (1, .ref (xB X + 3)), (2, .int 9)]) dX1_init_50 2 rfl (by decide) (by decide) (by decide) [1, 2, 0] rfl ?_
  refine wG_goto C dX1_init_53 ?_
  refine wG_iload_n C dX1_init_31 2 rfl ?_
  refine wG_bipush C dX1_init_32 (v := 24) (by decide) ?_
  refine wG_geF C (by decide) dX1_init_34 ?_
  refine wG_aload_n C dX1_init_37 0 rfl ?_
  refine wG_getR C (b := 8) fl_X1_11_1 rfl kd_7 (by decide) rfl dX1_init_38 ?_
  refine wG_iload_n C dX1_init_41 2 rfl ?_
  refine wG_newK C ow_X1_9 kd_19 (show nF 7 = 13 from rfl) ⟨by decide, by decide⟩ dX1_init_42 (cl' := 12) (sl' := 167) rfl rfl (N' := 20) rfl (fun h_22 => ?_)
  refine wG_dup C dX1_init_45 rfl ?_
  refine wG_cIN_rv [] [.ref (xB X + 19), .int 9, .ref (xB X + 8)] C nw_X1_17 rfl (c_X7_init (xl X) (xE X) _ _ _ 19) (by decide) rfl rfl (Nat.le_of_ble_eq_true rfl) dX1_init_46 (cl' := 12) (sl' := 167) rfl rfl (fun u_23 => ?_)
  refine wG_aastK C (q := (RX7, TX7, 13)) kd_8 (by decide) (by decide) rfl (by decide) ln_8 kd_19 (by decide) rfl (by decide) (by decide) (j := 9) rfl dX1_init_49 ?_
  refine wG_iincK C (v := 1) (w := 10) (L' := [(0, .ref (xB X + 7)), (1, .ref (xB X + 3)), (2, .int 10)]) dX1_init_50 2 rfl (by decide) (by decide) (by decide) [1, 2, 0] rfl ?_
  refine wG_goto C dX1_init_53 ?_
  refine wG_iload_n C dX1_init_31 2 rfl ?_
  refine wG_bipush C dX1_init_32 (v := 24) (by decide) ?_
  refine wG_geF C (by decide) dX1_init_34 ?_
  refine wG_aload_n C dX1_init_37 0 rfl ?_
  refine wG_getR C (b := 8) fl_X1_11_1 rfl kd_7 (by decide) rfl dX1_init_38 ?_
  refine wG_iload_n C dX1_init_41 2 rfl ?_
  refine wG_newK C ow_X1_9 kd_20 (show nF 7 = 13 from rfl) ⟨by decide, by decide⟩ dX1_init_42 (cl' := 13) (sl' := 180) rfl rfl (N' := 21) rfl (fun h_24 => ?_)
  refine wG_dup C dX1_init_45 rfl ?_
  refine wG_cIN_rv [] [.ref (xB X + 20), .int 10, .ref (xB X + 8)] C nw_X1_17 rfl (c_X7_init (xl X) (xE X) _ _ _ 20) (by decide) rfl rfl (Nat.le_of_ble_eq_true rfl) dX1_init_46 (cl' := 13) (sl' := 180) rfl rfl (fun u_25 => ?_)
  refine wG_aastK C (q := (RX7, TX7, 13)) kd_8 (by decide) (by decide) rfl (by decide) ln_8 kd_20 (by decide) rfl (by decide) (by decide) (j := 10) rfl dX1_init_49 ?_
  refine wG_iincK C (v := 1) (w := 11) (L' := [(0, .ref (xB X + 7)), (1, .ref (xB X + 3)), (2, .int 11)]) dX1_init_50 2 rfl (by decide) (by decide) (by decide) [1, 2, 0] rfl ?_
  refine wG_goto C dX1_init_53 ?_
  refine wG_iload_n C dX1_init_31 2 rfl ?_
  refine wG_bipush C dX1_init_32 (v := 24) (by decide) ?_
  refine wG_geF C (by decide) dX1_init_34 ?_
  refine wG_aload_n C dX1_init_37 0 rfl ?_
  refine wG_getR C (b := 8) fl_X1_11_1 rfl kd_7 (by decide) rfl dX1_init_38 ?_
  refine wG_iload_n C dX1_init_41 2 rfl ?_
  refine wG_newK C ow_X1_9 kd_21 (show nF 7 = 13 from rfl) ⟨by decide, by decide⟩ dX1_init_42 (cl' := 14) (sl' := 193) rfl rfl (N' := 22) rfl (fun h_26 => ?_)
  refine wG_dup C dX1_init_45 rfl ?_
  refine wG_cIN_rv [] [.ref (xB X + 21), .int 11, .ref (xB X + 8)] C nw_X1_17 rfl (c_X7_init (xl X) (xE X) _ _ _ 21) (by decide) rfl rfl (Nat.le_of_ble_eq_true rfl) dX1_init_46 (cl' := 14) (sl' := 193) rfl rfl (fun u_27 => ?_)
  refine wG_aastK C (q := (RX7, TX7, 13)) kd_8 (by decide) (by decide) rfl (by decide) ln_8 kd_21 (by decide) rfl (by decide) (by decide) (j := 11) rfl dX1_init_49 ?_
  refine wG_iincK C (v := 1) (w := 12) (L' := [(0, .ref (xB X + 7)), (1, .ref (xB X + 3)), (2, .int 12)]) dX1_init_50 2 rfl (by decide) (by decide) (by decide) [1, 2, 0] rfl ?_
  refine wG_goto C dX1_init_53 ?_
  refine wG_iload_n C dX1_init_31 2 rfl ?_
  refine wG_bipush C dX1_init_32 (v := 24) (by decide) ?_
  refine wG_geF C (by decide) dX1_init_34 ?_
  refine wG_aload_n C dX1_init_37 0 rfl ?_
  refine wG_getR C (b := 8) fl_X1_11_1 rfl kd_7 (by decide) rfl dX1_init_38 ?_
  refine wG_iload_n C dX1_init_41 2 rfl ?_
  refine wG_newK C ow_X1_9 kd_22 (show nF 7 = 13 from rfl) ⟨by decide, by decide⟩ dX1_init_42 (cl' := 15) (sl' := 206) rfl rfl (N' := 23) rfl (fun h_28 => ?_)
  refine wG_dup C dX1_init_45 rfl ?_
  refine wG_cIN_rv [] [.ref (xB X + 22), .int 12, .ref (xB X + 8)] C nw_X1_17 rfl (c_X7_init (xl X) (xE X) _ _ _ 22) (by decide) rfl rfl (Nat.le_of_ble_eq_true rfl) dX1_init_46 (cl' := 15) (sl' := 206) rfl rfl (fun u_29 => ?_)
  refine wG_aastK C (q := (RX7, TX7, 13)) kd_8 (by decide) (by decide) rfl (by decide) ln_8 kd_22 (by decide) rfl (by decide) (by decide) (j := 12) rfl dX1_init_49 ?_
  refine wG_iincK C (v := 1) (w := 13) (L' := [(0, .ref (xB X + 7)), (1, .ref (xB X + 3)), (2, .int 13)]) dX1_init_50 2 rfl (by decide) (by decide) (by decide) [1, 2, 0] rfl ?_
  refine wG_goto C dX1_init_53 ?_
  refine wG_iload_n C dX1_init_31 2 rfl ?_
  refine wG_bipush C dX1_init_32 (v := 24) (by decide) ?_
  refine wG_geF C (by decide) dX1_init_34 ?_
  refine wG_aload_n C dX1_init_37 0 rfl ?_
  refine wG_getR C (b := 8) fl_X1_11_1 rfl kd_7 (by decide) rfl dX1_init_38 ?_
  refine wG_iload_n C dX1_init_41 2 rfl ?_
  refine wG_newK C ow_X1_9 kd_23 (show nF 7 = 13 from rfl) ⟨by decide, by decide⟩ dX1_init_42 (cl' := 16) (sl' := 219) rfl rfl (N' := 24) rfl (fun h_30 => ?_)
  refine wG_dup C dX1_init_45 rfl ?_
  refine wG_cIN_rv [] [.ref (xB X + 23), .int 13, .ref (xB X + 8)] C nw_X1_17 rfl (c_X7_init (xl X) (xE X) _ _ _ 23) (by decide) rfl rfl (Nat.le_of_ble_eq_true rfl) dX1_init_46 (cl' := 16) (sl' := 219) rfl rfl (fun u_31 => ?_)
  refine wG_aastK C (q := (RX7, TX7, 13)) kd_8 (by decide) (by decide) rfl (by decide) ln_8 kd_23 (by decide) rfl (by decide) (by decide) (j := 13) rfl dX1_init_49 ?_
  refine wG_iincK C (v := 1) (w := 14) (L' := [(0, .ref (xB X + 7)), (1, .ref (xB X + 3)), (2, .int 14)]) dX1_init_50 2 rfl (by decide) (by decide) (by decide) [1, 2, 0] rfl ?_
  refine wG_goto C dX1_init_53 ?_
  refine wG_iload_n C dX1_init_31 2 rfl ?_
  refine wG_bipush C dX1_init_32 (v := 24) (by decide) ?_
  refine wG_geF C (by decide) dX1_init_34 ?_
  refine wG_aload_n C dX1_init_37 0 rfl ?_
  refine wG_getR C (b := 8) fl_X1_11_1 rfl kd_7 (by decide) rfl dX1_init_38 ?_
  refine wG_iload_n C dX1_init_41 2 rfl ?_
  refine wG_newK C ow_X1_9 kd_24 (show nF 7 = 13 from rfl) ⟨by decide, by decide⟩ dX1_init_42 (cl' := 17) (sl' := 232) rfl rfl (N' := 25) rfl (fun h_32 => ?_)
  refine wG_dup C dX1_init_45 rfl ?_
  refine wG_cIN_rv [] [.ref (xB X + 24), .int 14, .ref (xB X + 8)] C nw_X1_17 rfl (c_X7_init (xl X) (xE X) _ _ _ 24) (by decide) rfl rfl (Nat.le_of_ble_eq_true rfl) dX1_init_46 (cl' := 17) (sl' := 232) rfl rfl (fun u_33 => ?_)
  refine wG_aastK C (q := (RX7, TX7, 13)) kd_8 (by decide) (by decide) rfl (by decide) ln_8 kd_24 (by decide) rfl (by decide) (by decide) (j := 14) rfl dX1_init_49 ?_
  refine wG_iincK C (v := 1) (w := 15) (L' := [(0, .ref (xB X + 7)), (1, .ref (xB X + 3)), (2, .int 15)]) dX1_init_50 2 rfl (by decide) (by decide) (by decide) [1, 2, 0] rfl ?_
  refine wG_goto C dX1_init_53 ?_
  refine wG_iload_n C dX1_init_31 2 rfl ?_
  refine wG_bipush C dX1_init_32 (v := 24) (by decide) ?_
  refine wG_geF C (by decide) dX1_init_34 ?_
  refine wG_aload_n C dX1_init_37 0 rfl ?_
  refine wG_getR C (b := 8) fl_X1_11_1 rfl kd_7 (by decide) rfl dX1_init_38 ?_
  refine wG_iload_n C dX1_init_41 2 rfl ?_
  refine wG_newK C ow_X1_9 kd_25 (show nF 7 = 13 from rfl) ⟨by decide, by decide⟩ dX1_init_42 (cl' := 18) (sl' := 245) rfl rfl (N' := 26) rfl (fun h_34 => ?_)
  refine wG_dup C dX1_init_45 rfl ?_
  refine wG_cIN_rv [] [.ref (xB X + 25), .int 15, .ref (xB X + 8)] C nw_X1_17 rfl (c_X7_init (xl X) (xE X) _ _ _ 25) (by decide) rfl rfl (Nat.le_of_ble_eq_true rfl) dX1_init_46 (cl' := 18) (sl' := 245) rfl rfl (fun u_35 => ?_)
  refine wG_aastK C (q := (RX7, TX7, 13)) kd_8 (by decide) (by decide) rfl (by decide) ln_8 kd_25 (by decide) rfl (by decide) (by decide) (j := 15) rfl dX1_init_49 ?_
  refine wG_iincK C (v := 1) (w := 16) (L' := [(0, .ref (xB X + 7)), (1, .ref (xB X + 3)), (2, .int 16)]) dX1_init_50 2 rfl (by decide) (by decide) (by decide) [1, 2, 0] rfl ?_
  refine wG_goto C dX1_init_53 ?_
  refine wG_iload_n C dX1_init_31 2 rfl ?_
  refine wG_bipush C dX1_init_32 (v := 24) (by decide) ?_
  refine wG_geF C (by decide) dX1_init_34 ?_
  refine wG_aload_n C dX1_init_37 0 rfl ?_
  refine wG_getR C (b := 8) fl_X1_11_1 rfl kd_7 (by decide) rfl dX1_init_38 ?_
  refine wG_iload_n C dX1_init_41 2 rfl ?_
  refine wG_newK C ow_X1_9 kd_26 (show nF 7 = 13 from rfl) ⟨by decide, by decide⟩ dX1_init_42 (cl' := 19) (sl' := 258) rfl rfl (N' := 27) rfl (fun h_36 => ?_)
  refine wG_dup C dX1_init_45 rfl ?_
  refine wG_cIN_rv [] [.ref (xB X + 26), .int 16, .ref (xB X + 8)] C nw_X1_17 rfl (c_X7_init (xl X) (xE X) _ _ _ 26) (by decide) rfl rfl (Nat.le_of_ble_eq_true rfl) dX1_init_46 (cl' := 19) (sl' := 258) rfl rfl (fun u_37 => ?_)
  refine wG_aastK C (q := (RX7, TX7, 13)) kd_8 (by decide) (by decide) rfl (by decide) ln_8 kd_26 (by decide) rfl (by decide) (by decide) (j := 16) rfl dX1_init_49 ?_
  refine wG_iincK C (v := 1) (w := 17) (L' := [(0, .ref (xB X + 7)), (1, .ref (xB X + 3)), (2, .int 17)]) dX1_init_50 2 rfl (by decide) (by decide) (by decide) [1, 2, 0] rfl ?_
  refine wG_goto C dX1_init_53 ?_
  refine wG_iload_n C dX1_init_31 2 rfl ?_
  refine wG_bipush C dX1_init_32 (v := 24) (by decide) ?_
  refine wG_geF C (by decide) dX1_init_34 ?_
  refine wG_aload_n C dX1_init_37 0 rfl ?_
  refine wG_getR C (b := 8) fl_X1_11_1 rfl kd_7 (by decide) rfl dX1_init_38 ?_
  refine wG_iload_n C dX1_init_41 2 rfl ?_
  refine wG_newK C ow_X1_9 kd_27 (show nF 7 = 13 from rfl) ⟨by decide, by decide⟩ dX1_init_42 (cl' := 20) (sl' := 271) rfl rfl (N' := 28) rfl (fun h_38 => ?_)
  refine wG_dup C dX1_init_45 rfl ?_
  refine wG_cIN_rv [] [.ref (xB X + 27), .int 17, .ref (xB X + 8)] C nw_X1_17 rfl (c_X7_init (xl X) (xE X) _ _ _ 27) (by decide) rfl rfl (Nat.le_of_ble_eq_true rfl) dX1_init_46 (cl' := 20) (sl' := 271) rfl rfl (fun u_39 => ?_)
  refine wG_aastK C (q := (RX7, TX7, 13)) kd_8 (by decide) (by decide) rfl (by decide) ln_8 kd_27 (by decide) rfl (by decide) (by decide) (j := 17) rfl dX1_init_49 ?_
  refine wG_iincK C (v := 1) (w := 18) (L' := [(0, .ref (xB X + 7)), (1, .ref (xB X + 3)), (2, .int 18)]) dX1_init_50 2 rfl (by decide) (by decide) (by decide) [1, 2, 0] rfl ?_
  refine wG_goto C dX1_init_53 ?_
  refine wG_iload_n C dX1_init_31 2 rfl ?_
  refine wG_bipush C dX1_init_32 (v := 24) (by decide) ?_
  refine wG_geF C (by decide) dX1_init_34 ?_
  refine wG_aload_n C dX1_init_37 0 rfl ?_
  refine wG_getR C (b := 8) fl_X1_11_1 rfl kd_7 (by decide) rfl dX1_init_38 ?_
  refine wG_iload_n C dX1_init_41 2 rfl ?_
  refine wG_newK C ow_X1_9 kd_28 (show nF 7 = 13 from rfl) ⟨by decide, by decide⟩ dX1_init_42 (cl' := 21) (sl' := 284) rfl rfl (N' := 29) rfl (fun h_40 => ?_)
  refine wG_dup C dX1_init_45 rfl ?_
  refine wG_cIN_rv [] [.ref (xB X + 28), .int 18, .ref (xB X + 8)] C nw_X1_17 rfl (c_X7_init (xl X) (xE X) _ _ _ 28) (by decide) rfl rfl (Nat.le_of_ble_eq_true rfl) dX1_init_46 (cl' := 21) (sl' := 284) rfl rfl (fun u_41 => ?_)
  refine wG_aastK C (q := (RX7, TX7, 13)) kd_8 (by decide) (by decide) rfl (by decide) ln_8 kd_28 (by decide) rfl (by decide) (by decide) (j := 18) rfl dX1_init_49 ?_
  refine wG_iincK C (v := 1) (w := 19) (L' := [(0, .ref (xB X + 7)), (1, .ref (xB X + 3)), (2, .int 19)]) dX1_init_50 2 rfl (by decide) (by decide) (by decide) [1, 2, 0] rfl ?_
  refine wG_goto C dX1_init_53 ?_
  refine wG_iload_n C dX1_init_31 2 rfl ?_
  refine wG_bipush C dX1_init_32 (v := 24) (by decide) ?_
  refine wG_geF C (by decide) dX1_init_34 ?_
  refine wG_aload_n C dX1_init_37 0 rfl ?_
  refine wG_getR C (b := 8) fl_X1_11_1 rfl kd_7 (by decide) rfl dX1_init_38 ?_
  refine wG_iload_n C dX1_init_41 2 rfl ?_
  refine wG_newK C ow_X1_9 kd_29 (show nF 7 = 13 from rfl) ⟨by decide, by decide⟩ dX1_init_42 (cl' := 22) (sl' := 297) rfl rfl (N' := 30) rfl (fun h_42 => ?_)
  refine wG_dup C dX1_init_45 rfl ?_
  refine wG_cIN_rv [] [.ref (xB X + 29), .int 19, .ref (xB X + 8)] C nw_X1_17 rfl (c_X7_init (xl X) (xE X) _ _ _ 29) (by decide) rfl rfl (Nat.le_of_ble_eq_true rfl) dX1_init_46 (cl' := 22) (sl' := 297) rfl rfl (fun u_43 => ?_)
  refine wG_aastK C (q := (RX7, TX7, 13)) kd_8 (by decide) (by decide) rfl (by decide) ln_8 kd_29 (by decide) rfl (by decide) (by decide) (j := 19) rfl dX1_init_49 ?_
  refine wG_iincK C (v := 1) (w := 20) (L' := [(0, .ref (xB X + 7)), (1, .ref (xB X + 3)), (2, .int 20)]) dX1_init_50 2 rfl (by decide) (by decide) (by decide) [1, 2, 0] rfl ?_
  refine wG_goto C dX1_init_53 ?_
  refine wG_iload_n C dX1_init_31 2 rfl ?_
  refine wG_bipush C dX1_init_32 (v := 24) (by decide) ?_
  refine wG_geF C (by decide) dX1_init_34 ?_
  refine wG_aload_n C dX1_init_37 0 rfl ?_
  refine wG_getR C (b := 8) fl_X1_11_1 rfl kd_7 (by decide) rfl dX1_init_38 ?_
  refine wG_iload_n C dX1_init_41 2 rfl ?_
  refine wG_newK C ow_X1_9 kd_30 (show nF 7 = 13 from rfl) ⟨by decide, by decide⟩ dX1_init_42 (cl' := 23) (sl' := 310) rfl rfl (N' := 31) rfl (fun h_44 => ?_)
  refine wG_dup C dX1_init_45 rfl ?_
  refine wG_cIN_rv [] [.ref (xB X + 30), .int 20, .ref (xB X + 8)] C nw_X1_17 rfl (c_X7_init (xl X) (xE X) _ _ _ 30) (by decide) rfl rfl (Nat.le_of_ble_eq_true rfl) dX1_init_46 (cl' := 23) (sl' := 310) rfl rfl (fun u_45 => ?_)
  refine wG_aastK C (q := (RX7, TX7, 13)) kd_8 (by decide) (by decide) rfl (by decide) ln_8 kd_30 (by decide) rfl (by decide) (by decide) (j := 20) rfl dX1_init_49 ?_
  refine wG_iincK C (v := 1) (w := 21) (L' := [(0, .ref (xB X + 7)), (1, .ref (xB X + 3)), (2, .int 21)]) dX1_init_50 2 rfl (by decide) (by decide) (by decide) [1, 2, 0] rfl ?_
  refine wG_goto C dX1_init_53 ?_
  refine wG_iload_n C dX1_init_31 2 rfl ?_
  refine wG_bipush C dX1_init_32 (v := 24) (by decide) ?_
  refine wG_geF C (by decide) dX1_init_34 ?_
  refine wG_aload_n C dX1_init_37 0 rfl ?_
  refine wG_getR C (b := 8) fl_X1_11_1 rfl kd_7 (by decide) rfl dX1_init_38 ?_
  refine wG_iload_n C dX1_init_41 2 rfl ?_
  refine wG_newK C ow_X1_9 kd_31 (show nF 7 = 13 from rfl) ⟨by decide, by decide⟩ dX1_init_42 (cl' := 24) (sl' := 323) rfl rfl (N' := 32) rfl (fun h_46 => ?_)
  refine wG_dup C dX1_init_45 rfl ?_
  refine wG_cIN_rv [] [.ref (xB X + 31), .int 21, .ref (xB X + 8)] C nw_X1_17 rfl (c_X7_init (xl X) (xE X) _ _ _ 31) (by decide) rfl rfl (Nat.le_of_ble_eq_true rfl) dX1_init_46 (cl' := 24) (sl' := 323) rfl rfl (fun u_47 => ?_)
  refine wG_aastK C (q := (RX7, TX7, 13)) kd_8 (by decide) (by decide) rfl (by decide) ln_8 kd_31 (by decide) rfl (by decide) (by decide) (j := 21) rfl dX1_init_49 ?_
  refine wG_iincK C (v := 1) (w := 22) (L' := [(0, .ref (xB X + 7)), (1, .ref (xB X + 3)), (2, .int 22)]) dX1_init_50 2 rfl (by decide) (by decide) (by decide) [1, 2, 0] rfl ?_
  refine wG_goto C dX1_init_53 ?_
  refine wG_iload_n C dX1_init_31 2 rfl ?_
  refine wG_bipush C dX1_init_32 (v := 24) (by decide) ?_
  refine wG_geF C (by decide) dX1_init_34 ?_
  refine wG_aload_n C dX1_init_37 0 rfl ?_
  refine wG_getR C (b := 8) fl_X1_11_1 rfl kd_7 (by decide) rfl dX1_init_38 ?_
  refine wG_iload_n C dX1_init_41 2 rfl ?_
  refine wG_newK C ow_X1_9 kd_32 (show nF 7 = 13 from rfl) ⟨by decide, by decide⟩ dX1_init_42 (cl' := 25) (sl' := 336) rfl rfl (N' := 33) rfl (fun h_48 => ?_)
  refine wG_dup C dX1_init_45 rfl ?_
  refine wG_cIN_rv [] [.ref (xB X + 32), .int 22, .ref (xB X + 8)] C nw_X1_17 rfl (c_X7_init (xl X) (xE X) _ _ _ 32) (by decide) rfl rfl (Nat.le_of_ble_eq_true rfl) dX1_init_46 (cl' := 25) (sl' := 336) rfl rfl (fun u_49 => ?_)
  refine wG_aastK C (q := (RX7, TX7, 13)) kd_8 (by decide) (by decide) rfl (by decide) ln_8 kd_32 (by decide) rfl (by decide) (by decide) (j := 22) rfl dX1_init_49 ?_
  refine wG_iincK C (v := 1) (w := 23) (L' := [(0, .ref (xB X + 7)), (1, .ref (xB X + 3)), (2, .int 23)]) dX1_init_50 2 rfl (by decide) (by decide) (by decide) [1, 2, 0] rfl ?_
  refine wG_goto C dX1_init_53 ?_
  refine wG_iload_n C dX1_init_31 2 rfl ?_
  refine wG_bipush C dX1_init_32 (v := 24) (by decide) ?_
  refine wG_geF C (by decide) dX1_init_34 ?_
  refine wG_aload_n C dX1_init_37 0 rfl ?_
  refine wG_getR C (b := 8) fl_X1_11_1 rfl kd_7 (by decide) rfl dX1_init_38 ?_
  refine wG_iload_n C dX1_init_41 2 rfl ?_
  refine wG_newK C ow_X1_9 kd_33 (show nF 7 = 13 from rfl) ⟨by decide, by decide⟩ dX1_init_42 (cl' := 26) (sl' := 349) rfl rfl (N' := 34) rfl (fun h_50 => ?_)
  refine wG_dup C dX1_init_45 rfl ?_
  refine wG_cIN_rv [] [.ref (xB X + 33), .int 23, .ref (xB X + 8)] C nw_X1_17 rfl (c_X7_init (xl X) (xE X) _ _ _ 33) (by decide) rfl rfl (Nat.le_of_ble_eq_true rfl) dX1_init_46 (cl' := 26) (sl' := 349) rfl rfl (fun u_51 => ?_)
  refine wG_aastK C (q := (RX7, TX7, 13)) kd_8 (by decide) (by decide) rfl (by decide) ln_8 kd_33 (by decide) rfl (by decide) (by decide) (j := 23) rfl dX1_init_49 ?_
  refine wG_iincK C (v := 1) (w := 24) (L' := [(0, .ref (xB X + 7)), (1, .ref (xB X + 3)), (2, .int 24)]) dX1_init_50 2 rfl (by decide) (by decide) (by decide) [1, 2, 0] rfl ?_
  refine wG_goto C dX1_init_53 ?_
  refine wG_iload_n C dX1_init_31 2 rfl ?_
  refine wG_bipush C dX1_init_32 (v := 24) (by decide) ?_
  refine wG_geT C (by decide) dX1_init_34 ?_
  refine wG_aload_n C dX1_init_56 0 rfl ?_
  have hFK : (u2 (va_up (u2 (va_up (u2 (va_up (u2 (va_up (u2 (va_up (u2 (va_up (u2 (va_up (u2 (va_up (u2 (va_up (u2 (va_up (u2 (va_up (u2 (va_up (u2 (va_up (u2 (va_up (u2 (va_up (u2 (va_up (u2 (va_up (u2 (va_up (u2 (va_up (u2 (va_up (u2 (va_up (u2 (va_up (u2 (va_up (u2 (va_up (u2 (u2 (va_up (u2 (va_up r 8 (fun _ => none)) 7 1 (some 8)) 9 (fun _ => none)) 7 2 (some 9)) 7 0 (some 3)) 10 (fun _ => none)) 8 0 (some 10)) 11 (fun _ => none)) 8 1 (some 11)) 12 (fun _ => none)) 8 2 (some 12)) 13 (fun _ => none)) 8 3 (some 13)) 14 (fun _ => none)) 8 4 (some 14)) 15 (fun _ => none)) 8 5 (some 15)) 16 (fun _ => none)) 8 6 (some 16)) 17 (fun _ => none)) 8 7 (some 17)) 18 (fun _ => none)) 8 8 (some 18)) 19 (fun _ => none)) 8 9 (some 19)) 20 (fun _ => none)) 8 10 (some 20)) 21 (fun _ => none)) 8 11 (some 21)) 22 (fun _ => none)) 8 12 (some 22)) 23 (fun _ => none)) 8 13 (some 23)) 24 (fun _ => none)) 8 14 (some 24)) 25 (fun _ => none)) 8 15 (some 25)) 26 (fun _ => none)) 8 16 (some 26)) 27 (fun _ => none)) 8 17 (some 27)) 28 (fun _ => none)) 8 18 (some 28)) 29 (fun _ => none)) 8 19 (some 29)) 30 (fun _ => none)) 8 20 (some 30)) 31 (fun _ => none)) 8 21 (some 31)) 32 (fun _ => none)) 8 22 (some 32)) 33 (fun _ => none)) 8 23 (some 33)) 3 0 = some 4 ∧ (u2 (va_up (u2 (va_up (u2 (va_up (u2 (va_up (u2 (va_up (u2 (va_up (u2 (va_up (u2 (va_up (u2 (va_up (u2 (va_up (u2 (va_up (u2 (va_up (u2 (va_up (u2 (va_up (u2 (va_up (u2 (va_up (u2 (va_up (u2 (va_up (u2 (va_up (u2 (va_up (u2 (va_up (u2 (va_up (u2 (va_up (u2 (va_up (u2 (u2 (va_up (u2 (va_up r 8 (fun _ => none)) 7 1 (some 8)) 9 (fun _ => none)) 7 2 (some 9)) 7 0 (some 3)) 10 (fun _ => none)) 8 0 (some 10)) 11 (fun _ => none)) 8 1 (some 11)) 12 (fun _ => none)) 8 2 (some 12)) 13 (fun _ => none)) 8 3 (some 13)) 14 (fun _ => none)) 8 4 (some 14)) 15 (fun _ => none)) 8 5 (some 15)) 16 (fun _ => none)) 8 6 (some 16)) 17 (fun _ => none)) 8 7 (some 17)) 18 (fun _ => none)) 8 8 (some 18)) 19 (fun _ => none)) 8 9 (some 19)) 20 (fun _ => none)) 8 10 (some 20)) 21 (fun _ => none)) 8 11 (some 21)) 22 (fun _ => none)) 8 12 (some 22)) 23 (fun _ => none)) 8 13 (some 23)) 24 (fun _ => none)) 8 14 (some 24)) 25 (fun _ => none)) 8 15 (some 25)) 26 (fun _ => none)) 8 16 (some 26)) 27 (fun _ => none)) 8 17 (some 27)) 28 (fun _ => none)) 8 18 (some 28)) 29 (fun _ => none)) 8 19 (some 29)) 30 (fun _ => none)) 8 20 (some 30)) 31 (fun _ => none)) 8 21 (some 31)) 32 (fun _ => none)) 8 22 (some 32)) 33 (fun _ => none)) 8 23 (some 33)) 3 1 = some 5 ∧ (u2 (va_up (u2 (va_up (u2 (va_up (u2 (va_up (u2 (va_up (u2 (va_up (u2 (va_up (u2 (va_up (u2 (va_up (u2 (va_up (u2 (va_up (u2 (va_up (u2 (va_up (u2 (va_up (u2 (va_up (u2 (va_up (u2 (va_up (u2 (va_up (u2 (va_up (u2 (va_up (u2 (va_up (u2 (va_up (u2 (va_up (u2 (va_up (u2 (u2 (va_up (u2 (va_up r 8 (fun _ => none)) 7 1 (some 8)) 9 (fun _ => none)) 7 2 (some 9)) 7 0 (some 3)) 10 (fun _ => none)) 8 0 (some 10)) 11 (fun _ => none)) 8 1 (some 11)) 12 (fun _ => none)) 8 2 (some 12)) 13 (fun _ => none)) 8 3 (some 13)) 14 (fun _ => none)) 8 4 (some 14)) 15 (fun _ => none)) 8 5 (some 15)) 16 (fun _ => none)) 8 6 (some 16)) 17 (fun _ => none)) 8 7 (some 17)) 18 (fun _ => none)) 8 8 (some 18)) 19 (fun _ => none)) 8 9 (some 19)) 20 (fun _ => none)) 8 10 (some 20)) 21 (fun _ => none)) 8 11 (some 21)) 22 (fun _ => none)) 8 12 (some 22)) 23 (fun _ => none)) 8 13 (some 23)) 24 (fun _ => none)) 8 14 (some 24)) 25 (fun _ => none)) 8 15 (some 25)) 26 (fun _ => none)) 8 16 (some 26)) 27 (fun _ => none)) 8 17 (some 27)) 28 (fun _ => none)) 8 18 (some 28)) 29 (fun _ => none)) 8 19 (some 29)) 30 (fun _ => none)) 8 20 (some 30)) 31 (fun _ => none)) 8 21 (some 31)) 32 (fun _ => none)) 8 22 (some 32)) 33 (fun _ => none)) 8 23 (some 33)) 3 2 = some 6 := hF
  refine wG_cV_wv [] [] C vw_X1_26 (c_X1_startAnew (xl X) (xE X) _ _ (by decide) hFK h_50 7 kd_7 (by decide) ⟨rfl, rfl, rfl⟩ (by decide)) kd_7 (by decide) (by decide) rfl rfl (Nat.le_of_ble_eq_true rfl) dX1_init_57 (cl' := 26) (sl' := 349) rfl rfl (fun u_52 => ?_)
  exact wG_vret C dX1_init_60 ⟨by decide, by decide⟩ (fun _ e => e)
theorem ck_X1_init_7 (l : Launch) (E : wE) (r : Rp) (h : Hp) (hF : r 3 0 = some 4 ∧ r 3 1 = some 5 ∧ r 3 2 = some 6) : ∀ z, fk_X1_init_7 h = some z → CT l E yX1_init cX1_init 3 none rmk_X1_init_7 [.ref (eB E + 7), .ref (eB E + 3)] 8 h r (none, 34, z, R_X1_init_7 r) := CT.of (φ := fun u => (none, 34, u, R_X1_init_7 r)) (by decide +kernel) (Nat.le_of_ble_eq_true rfl) (fun X _ e C => by subst e; exact wk_X1_init_7 C r h hF)
def rmk_X9_init_35 : Room := { frames := 2, cells := 5, slots := 76, locals := 43 }
def R_X9_init_35 (r : Rp) : Rp := (u2 (u2 (u2 (va_up (u2 (va_up (u2 (va_up (u2 (va_up (u2 (va_up r 36 (fun _ => none)) 35 2 (some 36)) 37 (fun _ => none)) 35 3 (some 37)) 38 (fun _ => none)) 35 4 (some 38)) 39 (fun _ => none)) 35 5 (some 39)) 40 (fun _ => none)) 35 6 (some 40)) 35 0 (some 3)) 35 1 (some 7))
def fk_X9_init_35 (h : Hp) : Option Hp :=
  vB (va_up h 36 (fun _ => 0)) fun h_1 =>
  (f_X7_init).bind fun u_2 =>
  vB (va_up h_1 37 (fun _ => 0)) fun h_3 =>
  (f_X7_init).bind fun u_4 =>
  vB (va_up h_3 38 (fun _ => 0)) fun h_5 =>
  (f_X7_init).bind fun u_6 =>
  vB (va_up h_5 39 (fun _ => 0)) fun h_7 =>
  (f_X7_init).bind fun u_8 =>
  if (24 : Int32) = nI 24 then vB (va_up h_7 40 (fun _ => 0)) fun h_9 =>
  some h_9 else none
set_option maxRecDepth 10000 in
theorem wk_X9_init_35 {X : wX} (C : Cx X yX9_init cX9_init 3 none rmk_X9_init_35) (r : Rp) (h : Hp) : wG X 3 (eM X (fun u => (none, 41, u, R_X9_init_35 r))) (fk_X9_init_35 h) 36 h r 0 0 0 [(0, .ref (xB X + 35)), (1, .ref (xB X + 3)), (2, .ref (xB X + 7))] [] := by
  refine wG_of (fk_X9_init_35.eq_1 ..) ?_
  refine wG_aload_n C dX9_init_0 0 rfl ?_
  refine wG_obj C bw_X9_3 ⟨by decide, Nat.le_of_ble_eq_true rfl⟩ dX9_init_1 ?_
  refine wG_aload_n C dX9_init_4 0 rfl ?_
  refine wG_newK C ow_X9_9 kd_36 (show nF 7 = 13 from rfl) ⟨by decide, by decide⟩ dX9_init_5 (cl' := 1) (sl' := 13) rfl rfl (N' := 37) rfl (fun h_1 => ?_)
  refine wG_dup C dX9_init_8 rfl ?_
  refine wG_cIN_rv [] [.ref (xB X + 36), .ref (xB X + 35)] C nw_X9_11 rfl (c_X7_init (xl X) (xE X) _ _ _ 36) (by decide) rfl rfl (Nat.le_of_ble_eq_true rfl) dX9_init_9 (cl' := 1) (sl' := 13) rfl rfl (fun u_2 => ?_)
  refine wG_putRK C fl_X9_12_9 fr_9_2_X9 (fun _ => rfl) rfl kd_35 (by decide) (Or.inl ⟨_, rfl⟩) (by decide) dX9_init_12 ?_
  refine wG_aload_n C dX9_init_15 0 rfl ?_
  refine wG_newK C ow_X9_9 kd_37 (show nF 7 = 13 from rfl) ⟨by decide, by decide⟩ dX9_init_16 (cl' := 2) (sl' := 26) rfl rfl (N' := 38) rfl (fun h_3 => ?_)
  refine wG_dup C dX9_init_19 rfl ?_
  refine wG_cIN_rv [] [.ref (xB X + 37), .ref (xB X + 35)] C nw_X9_11 rfl (c_X7_init (xl X) (xE X) _ _ _ 37) (by decide) rfl rfl (Nat.le_of_ble_eq_true rfl) dX9_init_20 (cl' := 2) (sl' := 26) rfl rfl (fun u_4 => ?_)
  refine wG_putRK C fl_X9_18_9 fr_9_3_X9 (fun _ => rfl) rfl kd_35 (by decide) (Or.inl ⟨_, rfl⟩) (by decide) dX9_init_23 ?_
  refine wG_aload_n C dX9_init_26 0 rfl ?_
  refine wG_newK C ow_X9_9 kd_38 (show nF 7 = 13 from rfl) ⟨by decide, by decide⟩ dX9_init_27 (cl' := 3) (sl' := 39) rfl rfl (N' := 39) rfl (fun h_5 => ?_)
  refine wG_dup C dX9_init_30 rfl ?_
  refine wG_cIN_rv [] [.ref (xB X + 38), .ref (xB X + 35)] C nw_X9_11 rfl (c_X7_init (xl X) (xE X) _ _ _ 38) (by decide) rfl rfl (Nat.le_of_ble_eq_true rfl) dX9_init_31 (cl' := 3) (sl' := 39) rfl rfl (fun u_6 => ?_)
  refine wG_putRK C fl_X9_21_9 fr_9_4_X9 (fun _ => rfl) rfl kd_35 (by decide) (Or.inl ⟨_, rfl⟩) (by decide) dX9_init_34 ?_
  refine wG_aload_n C dX9_init_37 0 rfl ?_
  refine wG_newK C ow_X9_9 kd_39 (show nF 7 = 13 from rfl) ⟨by decide, by decide⟩ dX9_init_38 (cl' := 4) (sl' := 52) rfl rfl (N' := 40) rfl (fun h_7 => ?_)
  refine wG_dup C dX9_init_41 rfl ?_
  refine wG_cIN_rv [] [.ref (xB X + 39), .ref (xB X + 35)] C nw_X9_11 rfl (c_X7_init (xl X) (xE X) _ _ _ 39) (by decide) rfl rfl (Nat.le_of_ble_eq_true rfl) dX9_init_42 (cl' := 4) (sl' := 52) rfl rfl (fun u_8 => ?_)
  refine wG_putRK C fl_X9_24_9 fr_9_5_X9 (fun _ => rfl) rfl kd_35 (by decide) (Or.inl ⟨_, rfl⟩) (by decide) dX9_init_45 ?_
  refine wG_aload_n C dX9_init_48 0 rfl ?_
  refine wG_bipush C dX9_init_49 (v := 24) (by decide) ?_
  refine wG_newaK C (ty := .int) rfl (Or.inl ⟨rfl, rfl⟩) m_78 kd_40 ln_40 (by decide) ⟨by decide, by decide⟩ dX9_init_51 (cl' := 5) (sl' := 76) rfl rfl (N' := 41) rfl (fun h_9 => ?_)
  refine wG_putRK C fl_X9_27_9 fr_9_6_X9 (fun _ => rfl) rfl kd_35 (by decide) (Or.inr ⟨_, rfl⟩) (by decide) dX9_init_53 ?_
  refine wG_aload_n C dX9_init_56 0 rfl ?_
  refine wG_aload_n C dX9_init_57 1 rfl ?_
  refine wG_putRK C fl_X9_31_9 fr_9_0_X9 (fun _ => rfl) rfl kd_35 (by decide) (Or.inl ⟨_, rfl⟩) (by decide) dX9_init_58 ?_
  refine wG_aload_n C dX9_init_61 0 rfl ?_
  refine wG_aload_n C dX9_init_62 2 rfl ?_
  refine wG_putRK C fl_X9_35_9 fr_9_1_X9 (fun _ => rfl) rfl kd_35 (by decide) (Or.inl ⟨_, rfl⟩) (by decide) dX9_init_63 ?_
  exact wG_vret C dX9_init_66 ⟨by decide, by decide⟩ (fun _ e => e)
theorem ck_X9_init_35 (l : Launch) (E : wE) (r : Rp) (h : Hp) : ∀ z, fk_X9_init_35 h = some z → CT l E yX9_init cX9_init 3 none rmk_X9_init_35 [.ref (eB E + 35), .ref (eB E + 3), .ref (eB E + 7)] 36 h r (none, 41, z, R_X9_init_35 r) := CT.of (φ := fun u => (none, 41, u, R_X9_init_35 r)) (by decide +kernel) (Nat.le_of_ble_eq_true rfl) (fun X _ e C => by subst e; exact wk_X9_init_35 C r h)
def rmk_X8_init_41 : Room := { frames := 1, cells := 1, slots := 7056, locals := 23 }
def R_X8_init_41 (r : Rp) : Rp := (u2 (va_up (u2 r 41 0 (some 3)) 42 (fun _ => none)) 41 2 (some 42))
def fk_X8_init_41 (h : Hp) (x2 : Int32) : Option Hp :=
  vB (u2 h 41 1 (if 1 < x2 then x2 else 1)) fun h_1 =>
  if ((441 * (h_1 41 1)) : Int32) = nI 7056 then vB (va_up h_1 42 (fun _ => 0)) fun h_2 =>
  some h_2 else none
set_option maxRecDepth 10000 in
theorem wk_X8_init_41 {X : wX} (C : Cx X yX8_init cX8_init 3 none rmk_X8_init_41) (r : Rp) (h : Hp) (x2 : Int32) : wG X 3 (eM X (fun u => (none, 43, u, R_X8_init_41 r))) (fk_X8_init_41 h x2) 42 h r 0 0 0 [(0, .ref (xB X + 41)), (1, .ref (xB X + 3)), (2, .int x2)] [] := by
  refine wG_of (fk_X8_init_41.eq_1 ..) ?_
  refine wG_aload_n C dX8_init_0 0 rfl ?_
  refine wG_obj C bw_X8_3 ⟨by decide, Nat.le_of_ble_eq_true rfl⟩ dX8_init_1 ?_
  refine wG_aload_n C dX8_init_4 0 rfl ?_
  refine wG_aload_n C dX8_init_5 1 rfl ?_
  refine wG_putRK C fl_X8_9_6 fr_6_0_X8 (fun _ => rfl) rfl kd_41 (by decide) (Or.inl ⟨_, rfl⟩) (by decide) dX8_init_6 ?_
  refine wG_aload_n C dX8_init_9 0 rfl ?_
  refine wG_iconst C dX8_init_10 (v := 1) (by decide) ?_
  refine wG_iload_n C dX8_init_11 2 rfl ?_
  refine wG_mmax C mw_X8_15 ⟨by decide, Nat.le_of_ble_eq_true rfl, by decide, by decide⟩ dX8_init_12 ?_
  refine wG_putI C fl_X8_21_6 fp_6_1_f (fun _ => rfl) rfl kd_41 (by decide) dX8_init_15 (fun h_1 => ?_)
  refine wG_aload_n C dX8_init_18 0 rfl ?_
  refine wG_sipush C dX8_init_19 (v := 441) (by decide) ?_
  refine wG_aload_n C dX8_init_22 0 rfl ?_
  refine wG_getI C fl_X8_21_6 rfl kd_41 (by decide) dX8_init_23 ?_
  refine wG_imul C dX8_init_26 ?_
  refine wG_newaK C (ty := .int) rfl (Or.inl ⟨rfl, rfl⟩) m_78 kd_42 ln_42 (by decide) ⟨by decide, by decide⟩ dX8_init_27 (cl' := 1) (sl' := 7056) rfl rfl (N' := 43) rfl (fun h_2 => ?_)
  refine wG_putRK C fl_X8_25_6 fr_6_2_X8 (fun _ => rfl) rfl kd_41 (by decide) (Or.inr ⟨_, rfl⟩) (by decide) dX8_init_29 ?_
  exact wG_vret C dX8_init_32 ⟨by decide, by decide⟩ (fun _ e => e)
theorem ck_X8_init_41 (l : Launch) (E : wE) (r : Rp) (h : Hp) (x2 : Int32) : ∀ z, fk_X8_init_41 h x2 = some z → CT l E yX8_init cX8_init 3 none rmk_X8_init_41 [.ref (eB E + 41), .ref (eB E + 3), .int x2] 42 h r (none, 43, z, R_X8_init_41 r) := CT.of (φ := fun u => (none, 43, u, R_X8_init_41 r)) (by decide +kernel) (Nat.le_of_ble_eq_true rfl) (fun X _ e C => by subst e; exact wk_X8_init_41 C r h x2)
def rmk_X6_init_41 : Room := { frames := 2, cells := 3, slots := 7076, locals := 45 }
def R_X6_init_41 (r : Rp) : Rp := (u2 (va_up (u2 (va_up (R_X8_init_41 r) 43 (fun _ => none)) 41 3 (some 43)) 44 (fun _ => none)) 41 4 (some 44))
def fk_X6_init_41 (h : Hp) : Option Hp :=
  (fk_X8_init_41 h 16).bind fun u_1 =>
  if (4 : Int32) = nI 4 then vB (va_up u_1 43 (fun _ => 0)) fun h_2 =>
  if (16 : Int32) = nI 16 then vB (va_up h_2 44 (fun _ => 0)) fun h_3 =>
  some h_3 else none else none
set_option maxRecDepth 10000 in
theorem wk_X6_init_41 {X : wX} (C : Cx X yX6_init cX6_init 2 none rmk_X6_init_41) (r : Rp) (h : Hp) : wG X 2 (eM X (fun u => (none, 45, u, R_X6_init_41 r))) (fk_X6_init_41 h) 42 h r 0 0 0 [(0, .ref (xB X + 41)), (1, .ref (xB X + 3))] [] := by
  refine wG_of (fk_X6_init_41.eq_1 ..) ?_
  refine wG_aload_n C dX6_init_0 0 rfl ?_
  refine wG_aload_n C dX6_init_1 1 rfl ?_
  refine wG_bipush C dX6_init_2 (v := 16) (by decide) ?_
  refine wG_cI_kv 43 (R_X8_init_41 r) [.ref (xB X + 3), .int 16] [] C iw_X6_3 (ck_X8_init_41 (xl X) (xE X) r h 16) (by decide) rfl rfl (Nat.le_of_ble_eq_true rfl) dX6_init_4 (cl' := 1) (sl' := 7056) rfl rfl (fun u_1 => ?_)
  refine wG_aload_n C dX6_init_7 0 rfl ?_
  refine wG_iconst C dX6_init_8 (v := 4) (by decide) ?_
  refine wG_newrK C (Cn := RX0) m_293 C.sp.2.2.2.1 rfl (by decide) (by decide) kd_43 ln_43 (by decide) ⟨by decide, by decide⟩ dX6_init_9 (cl' := 2) (sl' := 7060) rfl rfl (N' := 44) rfl (fun h_2 => ?_)
  refine wG_putRK C fl_X6_11_6 fr_6_3_X6 (fun _ => rfl) rfl kd_41 (by decide) (Or.inr ⟨_, rfl⟩) (by decide) dX6_init_12 ?_
  refine wG_aload_n C dX6_init_15 0 rfl ?_
  refine wG_bipush C dX6_init_16 (v := 16) (by decide) ?_
  refine wG_newaK C (ty := .int) rfl (Or.inl ⟨rfl, rfl⟩) m_78 kd_44 ln_44 (by decide) ⟨by decide, by decide⟩ dX6_init_18 (cl' := 3) (sl' := 7076) rfl rfl (N' := 45) rfl (fun h_3 => ?_)
  refine wG_putRK C fl_X6_17_6 fr_6_4_X6 (fun _ => rfl) rfl kd_41 (by decide) (Or.inr ⟨_, rfl⟩) (by decide) dX6_init_20 ?_
  exact wG_vret C dX6_init_23 ⟨by decide, by decide⟩ (fun _ e => e)
theorem ck_X6_init_41 (l : Launch) (E : wE) (r : Rp) (h : Hp) : ∀ z, fk_X6_init_41 h = some z → CT l E yX6_init cX6_init 2 none rmk_X6_init_41 [.ref (eB E + 41), .ref (eB E + 3)] 42 h r (none, 45, z, R_X6_init_41 r) := CT.of (φ := fun u => (none, 45, u, R_X6_init_41 r)) (by decide +kernel) (Nat.le_of_ble_eq_true rfl) (fun X _ e C => by subst e; exact wk_X6_init_41 C r h)
def rmk_X8_init_45 : Room := { frames := 1, cells := 1, slots := 441, locals := 23 }
def R_X8_init_45 (r : Rp) : Rp := (u2 (va_up (u2 r 45 0 (some 3)) 46 (fun _ => none)) 45 2 (some 46))
def fk_X8_init_45 (h : Hp) (x2 : Int32) : Option Hp :=
  vB (u2 h 45 1 (if 1 < x2 then x2 else 1)) fun h_1 =>
  if ((441 * (h_1 45 1)) : Int32) = nI 441 then vB (va_up h_1 46 (fun _ => 0)) fun h_2 =>
  some h_2 else none
set_option maxRecDepth 10000 in
theorem wk_X8_init_45 {X : wX} (C : Cx X yX8_init cX8_init 3 none rmk_X8_init_45) (r : Rp) (h : Hp) (x2 : Int32) : wG X 3 (eM X (fun u => (none, 47, u, R_X8_init_45 r))) (fk_X8_init_45 h x2) 46 h r 0 0 0 [(0, .ref (xB X + 45)), (1, .ref (xB X + 3)), (2, .int x2)] [] := by
  refine wG_of (fk_X8_init_45.eq_1 ..) ?_
  refine wG_aload_n C dX8_init_0 0 rfl ?_
  refine wG_obj C bw_X8_3 ⟨by decide, Nat.le_of_ble_eq_true rfl⟩ dX8_init_1 ?_
  refine wG_aload_n C dX8_init_4 0 rfl ?_
  refine wG_aload_n C dX8_init_5 1 rfl ?_
  refine wG_putRK C fl_X8_9_3 fr_3_0_X8 (fun _ => rfl) rfl kd_45 (by decide) (Or.inl ⟨_, rfl⟩) (by decide) dX8_init_6 ?_
  refine wG_aload_n C dX8_init_9 0 rfl ?_
  refine wG_iconst C dX8_init_10 (v := 1) (by decide) ?_
  refine wG_iload_n C dX8_init_11 2 rfl ?_
  refine wG_mmax C mw_X8_15 ⟨by decide, Nat.le_of_ble_eq_true rfl, by decide, by decide⟩ dX8_init_12 ?_
  refine wG_putI C fl_X8_21_3 fp_3_1_f (fun _ => rfl) rfl kd_45 (by decide) dX8_init_15 (fun h_1 => ?_)
  refine wG_aload_n C dX8_init_18 0 rfl ?_
  refine wG_sipush C dX8_init_19 (v := 441) (by decide) ?_
  refine wG_aload_n C dX8_init_22 0 rfl ?_
  refine wG_getI C fl_X8_21_3 rfl kd_45 (by decide) dX8_init_23 ?_
  refine wG_imul C dX8_init_26 ?_
  refine wG_newaK C (ty := .int) rfl (Or.inl ⟨rfl, rfl⟩) m_78 kd_46 ln_46 (by decide) ⟨by decide, by decide⟩ dX8_init_27 (cl' := 1) (sl' := 441) rfl rfl (N' := 47) rfl (fun h_2 => ?_)
  refine wG_putRK C fl_X8_25_3 fr_3_2_X8 (fun _ => rfl) rfl kd_45 (by decide) (Or.inr ⟨_, rfl⟩) (by decide) dX8_init_29 ?_
  exact wG_vret C dX8_init_32 ⟨by decide, by decide⟩ (fun _ e => e)
theorem ck_X8_init_45 (l : Launch) (E : wE) (r : Rp) (h : Hp) (x2 : Int32) : ∀ z, fk_X8_init_45 h x2 = some z → CT l E yX8_init cX8_init 3 none rmk_X8_init_45 [.ref (eB E + 45), .ref (eB E + 3), .int x2] 46 h r (none, 47, z, R_X8_init_45 r) := CT.of (φ := fun u => (none, 47, u, R_X8_init_45 r)) (by decide +kernel) (Nat.le_of_ble_eq_true rfl) (fun X _ e C => by subst e; exact wk_X8_init_45 C r h x2)
def rmk_X3_init_45 : Room := { frames := 2, cells := 1, slots := 441, locals := 45 }
def R_X3_init_45 (r : Rp) : Rp := (R_X8_init_45 r)
def fk_X3_init_45 (h : Hp) : Option Hp :=
  (fk_X8_init_45 h 1).bind fun u_1 =>
  vB (u2 u_1 45 3 1) fun h_2 =>
  some h_2
set_option maxRecDepth 10000 in
theorem wk_X3_init_45 {X : wX} (C : Cx X yX3_init cX3_init 2 none rmk_X3_init_45) (r : Rp) (h : Hp) : wG X 2 (eM X (fun u => (none, 47, u, R_X3_init_45 r))) (fk_X3_init_45 h) 46 h r 0 0 0 [(0, .ref (xB X + 45)), (1, .ref (xB X + 3))] [] := by
  refine wG_of (fk_X3_init_45.eq_1 ..) ?_
  refine wG_aload_n C dX3_init_0 0 rfl ?_
  refine wG_aload_n C dX3_init_1 1 rfl ?_
  refine wG_iconst C dX3_init_2 (v := 1) (by decide) ?_
  refine wG_cI_kv 47 (R_X8_init_45 r) [.ref (xB X + 3), .int 1] [] C iw_X3_3 (ck_X8_init_45 (xl X) (xE X) r h 1) (by decide) rfl rfl (Nat.le_of_ble_eq_true rfl) dX3_init_3 (cl' := 1) (sl' := 441) rfl rfl (fun u_1 => ?_)
  refine wG_aload_n C dX3_init_6 0 rfl ?_
  refine wG_iconst C dX3_init_7 (v := 1) (by decide) ?_
  refine wG_putI C fl_X3_9_3 (fp_3_3 _) (fun _ => rfl) rfl kd_45 (by decide) dX3_init_8 (fun h_2 => ?_)
  exact wG_vret C dX3_init_11 ⟨by decide, by decide⟩ (fun _ e => e)
theorem ck_X3_init_45 (l : Launch) (E : wE) (r : Rp) (h : Hp) : ∀ z, fk_X3_init_45 h = some z → CT l E yX3_init cX3_init 2 none rmk_X3_init_45 [.ref (eB E + 45), .ref (eB E + 3)] 46 h r (none, 47, z, R_X3_init_45 r) := CT.of (φ := fun u => (none, 47, u, R_X3_init_45 r)) (by decide +kernel) (Nat.le_of_ble_eq_true rfl) (fun X _ e C => by subst e; exact wk_X3_init_45 C r h)
def rmk_X8_init_47 : Room := { frames := 1, cells := 1, slots := 441, locals := 23 }
def R_X8_init_47 (r : Rp) : Rp := (u2 (va_up (u2 r 47 0 (some 3)) 48 (fun _ => none)) 47 2 (some 48))
def fk_X8_init_47 (h : Hp) (x2 : Int32) : Option Hp :=
  vB (u2 h 47 1 (if 1 < x2 then x2 else 1)) fun h_1 =>
  if ((441 * (h_1 47 1)) : Int32) = nI 441 then vB (va_up h_1 48 (fun _ => 0)) fun h_2 =>
  some h_2 else none
set_option maxRecDepth 10000 in
theorem wk_X8_init_47 {X : wX} (C : Cx X yX8_init cX8_init 3 none rmk_X8_init_47) (r : Rp) (h : Hp) (x2 : Int32) : wG X 3 (eM X (fun u => (none, 49, u, R_X8_init_47 r))) (fk_X8_init_47 h x2) 48 h r 0 0 0 [(0, .ref (xB X + 47)), (1, .ref (xB X + 3)), (2, .int x2)] [] := by
  refine wG_of (fk_X8_init_47.eq_1 ..) ?_
  refine wG_aload_n C dX8_init_0 0 rfl ?_
  refine wG_obj C bw_X8_3 ⟨by decide, Nat.le_of_ble_eq_true rfl⟩ dX8_init_1 ?_
  refine wG_aload_n C dX8_init_4 0 rfl ?_
  refine wG_aload_n C dX8_init_5 1 rfl ?_
  refine wG_putRK C fl_X8_9_5 fr_5_0_X8 (fun _ => rfl) rfl kd_47 (by decide) (Or.inl ⟨_, rfl⟩) (by decide) dX8_init_6 ?_
  refine wG_aload_n C dX8_init_9 0 rfl ?_
  refine wG_iconst C dX8_init_10 (v := 1) (by decide) ?_
  refine wG_iload_n C dX8_init_11 2 rfl ?_
  refine wG_mmax C mw_X8_15 ⟨by decide, Nat.le_of_ble_eq_true rfl, by decide, by decide⟩ dX8_init_12 ?_
  refine wG_putI C fl_X8_21_5 fp_5_1_f (fun _ => rfl) rfl kd_47 (by decide) dX8_init_15 (fun h_1 => ?_)
  refine wG_aload_n C dX8_init_18 0 rfl ?_
  refine wG_sipush C dX8_init_19 (v := 441) (by decide) ?_
  refine wG_aload_n C dX8_init_22 0 rfl ?_
  refine wG_getI C fl_X8_21_5 rfl kd_47 (by decide) dX8_init_23 ?_
  refine wG_imul C dX8_init_26 ?_
  refine wG_newaK C (ty := .int) rfl (Or.inl ⟨rfl, rfl⟩) m_78 kd_48 ln_48 (by decide) ⟨by decide, by decide⟩ dX8_init_27 (cl' := 1) (sl' := 441) rfl rfl (N' := 49) rfl (fun h_2 => ?_)
  refine wG_putRK C fl_X8_25_5 fr_5_2_X8 (fun _ => rfl) rfl kd_47 (by decide) (Or.inr ⟨_, rfl⟩) (by decide) dX8_init_29 ?_
  exact wG_vret C dX8_init_32 ⟨by decide, by decide⟩ (fun _ e => e)
theorem ck_X8_init_47 (l : Launch) (E : wE) (r : Rp) (h : Hp) (x2 : Int32) : ∀ z, fk_X8_init_47 h x2 = some z → CT l E yX8_init cX8_init 3 none rmk_X8_init_47 [.ref (eB E + 47), .ref (eB E + 3), .int x2] 48 h r (none, 49, z, R_X8_init_47 r) := CT.of (φ := fun u => (none, 49, u, R_X8_init_47 r)) (by decide +kernel) (Nat.le_of_ble_eq_true rfl) (fun X _ e C => by subst e; exact wk_X8_init_47 C r h x2)
def rmk_X5_init_47 : Room := { frames := 2, cells := 5, slots := 465, locals := 45 }
def R_X5_init_47 (r : Rp) : Rp := (u2 (va_up (u2 (va_up (u2 (va_up (u2 (va_up (R_X8_init_47 r) 49 (fun _ => none)) 47 3 (some 49)) 50 (fun _ => none)) 47 4 (some 50)) 51 (fun _ => none)) 47 5 (some 51)) 52 (fun _ => none)) 47 6 (some 52))
def fk_X5_init_47 (h : Hp) : Option Hp :=
  (fk_X8_init_47 h 1).bind fun u_1 =>
  if (6 : Int32) = nI 6 then vB (va_up u_1 49 (fun _ => 0)) fun h_2 =>
  if (6 : Int32) = nI 6 then vB (va_up h_2 50 (fun _ => 0)) fun h_3 =>
  if (6 : Int32) = nI 6 then vB (va_up h_3 51 (fun _ => 0)) fun h_4 =>
  if (6 : Int32) = nI 6 then vB (va_up h_4 52 (fun _ => 0)) fun h_5 =>
  some h_5 else none else none else none else none
set_option maxRecDepth 10000 in
theorem wk_X5_init_47 {X : wX} (C : Cx X yX5_init cX5_init 2 none rmk_X5_init_47) (r : Rp) (h : Hp) : wG X 2 (eM X (fun u => (none, 53, u, R_X5_init_47 r))) (fk_X5_init_47 h) 48 h r 0 0 0 [(0, .ref (xB X + 47)), (1, .ref (xB X + 3))] [] := by
  refine wG_of (fk_X5_init_47.eq_1 ..) ?_
  refine wG_aload_n C dX5_init_0 0 rfl ?_
  refine wG_aload_n C dX5_init_1 1 rfl ?_
  refine wG_iconst C dX5_init_2 (v := 1) (by decide) ?_
  refine wG_cI_kv 49 (R_X8_init_47 r) [.ref (xB X + 3), .int 1] [] C iw_X5_3 (ck_X8_init_47 (xl X) (xE X) r h 1) (by decide) rfl rfl (Nat.le_of_ble_eq_true rfl) dX5_init_3 (cl' := 1) (sl' := 441) rfl rfl (fun u_1 => ?_)
  refine wG_aload_n C dX5_init_6 0 rfl ?_
  refine wG_bipush C dX5_init_7 (v := 6) (by decide) ?_
  refine wG_newaK C (ty := .int) rfl (Or.inl ⟨rfl, rfl⟩) m_78 kd_49 ln_49 (by decide) ⟨by decide, by decide⟩ dX5_init_9 (cl' := 2) (sl' := 447) rfl rfl (N' := 50) rfl (fun h_2 => ?_)
  refine wG_putRK C fl_X5_9_5 fr_5_3_X5 (fun _ => rfl) rfl kd_47 (by decide) (Or.inr ⟨_, rfl⟩) (by decide) dX5_init_11 ?_
  refine wG_aload_n C dX5_init_14 0 rfl ?_
  refine wG_bipush C dX5_init_15 (v := 6) (by decide) ?_
  refine wG_newaK C (ty := .int) rfl (Or.inl ⟨rfl, rfl⟩) m_78 kd_50 ln_50 (by decide) ⟨by decide, by decide⟩ dX5_init_17 (cl' := 3) (sl' := 453) rfl rfl (N' := 51) rfl (fun h_3 => ?_)
  refine wG_putRK C fl_X5_15_5 fr_5_4_X5 (fun _ => rfl) rfl kd_47 (by decide) (Or.inr ⟨_, rfl⟩) (by decide) dX5_init_19 ?_
  refine wG_aload_n C dX5_init_22 0 rfl ?_
  refine wG_bipush C dX5_init_23 (v := 6) (by decide) ?_
  refine wG_newaK C (ty := .int) rfl (Or.inl ⟨rfl, rfl⟩) m_78 kd_51 ln_51 (by decide) ⟨by decide, by decide⟩ dX5_init_25 (cl' := 4) (sl' := 459) rfl rfl (N' := 52) rfl (fun h_4 => ?_)
  refine wG_putRK C fl_X5_18_5 fr_5_5_X5 (fun _ => rfl) rfl kd_47 (by decide) (Or.inr ⟨_, rfl⟩) (by decide) dX5_init_27 ?_
  refine wG_aload_n C dX5_init_30 0 rfl ?_
  refine wG_bipush C dX5_init_31 (v := 6) (by decide) ?_
  refine wG_newaK C (ty := .int) rfl (Or.inl ⟨rfl, rfl⟩) m_78 kd_52 ln_52 (by decide) ⟨by decide, by decide⟩ dX5_init_33 (cl' := 5) (sl' := 465) rfl rfl (N' := 53) rfl (fun h_5 => ?_)
  refine wG_putRK C fl_X5_21_5 fr_5_6_X5 (fun _ => rfl) rfl kd_47 (by decide) (Or.inr ⟨_, rfl⟩) (by decide) dX5_init_35 ?_
  exact wG_vret C dX5_init_38 ⟨by decide, by decide⟩ (fun _ e => e)
theorem ck_X5_init_47 (l : Launch) (E : wE) (r : Rp) (h : Hp) : ∀ z, fk_X5_init_47 h = some z → CT l E yX5_init cX5_init 2 none rmk_X5_init_47 [.ref (eB E + 47), .ref (eB E + 3)] 48 h r (none, 53, z, R_X5_init_47 r) := CT.of (φ := fun u => (none, 53, u, R_X5_init_47 r)) (by decide +kernel) (Nat.le_of_ble_eq_true rfl) (fun X _ e C => by subst e; exact wk_X5_init_47 C r h)
def rmk_X2_init_53 : Room := { frames := 1, cells := 3, slots := 36, locals := 23 }
def R_X2_init_53 (r : Rp) : Rp := (u2 (va_up (u2 (va_up (u2 (va_up r 54 (fun _ => none)) 53 0 (some 54)) 55 (fun _ => none)) 53 1 (some 55)) 56 (fun _ => none)) 53 2 (some 56))
def fk_X2_init_53 (h : Hp) : Option Hp :=
  if (16 : Int32) = nI 16 then vB (va_up h 54 (fun _ => 0)) fun h_1 =>
  if (10 : Int32) = nI 10 then vB (va_up h_1 55 (fun _ => 0)) fun h_2 =>
  if (10 : Int32) = nI 10 then vB (va_up h_2 56 (fun _ => 0)) fun h_3 =>
  some h_3 else none else none else none
set_option maxRecDepth 10000 in
theorem wk_X2_init_53 {X : wX} (C : Cx X yX2_init cX2_init 1 none rmk_X2_init_53) (r : Rp) (h : Hp) : wG X 1 (eM X (fun u => (none, 57, u, R_X2_init_53 r))) (fk_X2_init_53 h) 54 h r 0 0 0 [(0, .ref (xB X + 53))] [] := by
  refine wG_of (fk_X2_init_53.eq_1 ..) ?_
  refine wG_aload_n C dX2_init_0 0 rfl ?_
  refine wG_obj C bw_X2_3 ⟨by decide, Nat.le_of_ble_eq_true rfl⟩ dX2_init_1 ?_
  refine wG_aload_n C dX2_init_4 0 rfl ?_
  refine wG_bipush C dX2_init_5 (v := 16) (by decide) ?_
  refine wG_newaK C (ty := .int) rfl (Or.inl ⟨rfl, rfl⟩) m_78 kd_54 ln_54 (by decide) ⟨by decide, by decide⟩ dX2_init_7 (cl' := 1) (sl' := 16) rfl rfl (N' := 55) rfl (fun h_1 => ?_)
  refine wG_putRK C fl_X2_9_2 fr_2_0_X2 (fun _ => rfl) rfl kd_53 (by decide) (Or.inr ⟨_, rfl⟩) (by decide) dX2_init_9 ?_
  refine wG_aload_n C dX2_init_12 0 rfl ?_
  refine wG_bipush C dX2_init_13 (v := 10) (by decide) ?_
  refine wG_newaK C (ty := .int) rfl (Or.inl ⟨rfl, rfl⟩) m_78 kd_55 ln_55 (by decide) ⟨by decide, by decide⟩ dX2_init_15 (cl' := 2) (sl' := 26) rfl rfl (N' := 56) rfl (fun h_2 => ?_)
  refine wG_putRK C fl_X2_15_2 fr_2_1_X2 (fun _ => rfl) rfl kd_53 (by decide) (Or.inr ⟨_, rfl⟩) (by decide) dX2_init_17 ?_
  refine wG_aload_n C dX2_init_20 0 rfl ?_
  refine wG_bipush C dX2_init_21 (v := 10) (by decide) ?_
  refine wG_newaK C (ty := .int) rfl (Or.inl ⟨rfl, rfl⟩) m_78 kd_56 ln_56 (by decide) ⟨by decide, by decide⟩ dX2_init_23 (cl' := 3) (sl' := 36) rfl rfl (N' := 57) rfl (fun h_3 => ?_)
  refine wG_putRK C fl_X2_18_2 fr_2_2_X2 (fun _ => rfl) rfl kd_53 (by decide) (Or.inr ⟨_, rfl⟩) (by decide) dX2_init_25 ?_
  exact wG_vret C dX2_init_28 ⟨by decide, by decide⟩ (fun _ e => e)
theorem ck_X2_init_53 (l : Launch) (E : wE) (r : Rp) (h : Hp) : ∀ z, fk_X2_init_53 h = some z → CT l E yX2_init cX2_init 1 none rmk_X2_init_53 [.ref (eB E + 53)] 54 h r (none, 57, z, R_X2_init_53 r) := CT.of (φ := fun u => (none, 57, u, R_X2_init_53 r)) (by decide +kernel) (Nat.le_of_ble_eq_true rfl) (fun X _ e C => by subst e; exact wk_X2_init_53 C r h)
def rmk_X1_init_57 : Room := { frames := 4, cells := 26, slots := 349, locals := 92 }
def R_X1_init_57 (r : Rp) : Rp := (u2 (va_up (u2 (va_up (u2 (va_up (u2 (va_up (u2 (va_up (u2 (va_up (u2 (va_up (u2 (va_up (u2 (va_up (u2 (va_up (u2 (va_up (u2 (va_up (u2 (va_up (u2 (va_up (u2 (va_up (u2 (va_up (u2 (va_up (u2 (va_up (u2 (va_up (u2 (va_up (u2 (va_up (u2 (va_up (u2 (va_up (u2 (va_up (u2 (u2 (va_up (u2 (va_up r 58 (fun _ => none)) 57 1 (some 58)) 59 (fun _ => none)) 57 2 (some 59)) 57 0 (some 3)) 60 (fun _ => none)) 58 0 (some 60)) 61 (fun _ => none)) 58 1 (some 61)) 62 (fun _ => none)) 58 2 (some 62)) 63 (fun _ => none)) 58 3 (some 63)) 64 (fun _ => none)) 58 4 (some 64)) 65 (fun _ => none)) 58 5 (some 65)) 66 (fun _ => none)) 58 6 (some 66)) 67 (fun _ => none)) 58 7 (some 67)) 68 (fun _ => none)) 58 8 (some 68)) 69 (fun _ => none)) 58 9 (some 69)) 70 (fun _ => none)) 58 10 (some 70)) 71 (fun _ => none)) 58 11 (some 71)) 72 (fun _ => none)) 58 12 (some 72)) 73 (fun _ => none)) 58 13 (some 73)) 74 (fun _ => none)) 58 14 (some 74)) 75 (fun _ => none)) 58 15 (some 75)) 76 (fun _ => none)) 58 16 (some 76)) 77 (fun _ => none)) 58 17 (some 77)) 78 (fun _ => none)) 58 18 (some 78)) 79 (fun _ => none)) 58 19 (some 79)) 80 (fun _ => none)) 58 20 (some 80)) 81 (fun _ => none)) 58 21 (some 81)) 82 (fun _ => none)) 58 22 (some 82)) 83 (fun _ => none)) 58 23 (some 83))
def fk_X1_init_57 (h : Hp) : Option Hp :=
  if (24 : Int32) = nI 24 then vB (va_up h 58 (fun _ => 0)) fun h_1 =>
  vB (va_up h_1 59 (fun _ => 0)) fun h_2 =>
  (f_X7_init).bind fun u_3 =>
  vB (va_up h_2 60 (fun _ => 0)) fun h_4 =>
  (f_X7_init).bind fun u_5 =>
  if inB 0 24 then
  vB (va_up h_4 61 (fun _ => 0)) fun h_6 =>
  (f_X7_init).bind fun u_7 =>
  if inB 1 24 then
  vB (va_up h_6 62 (fun _ => 0)) fun h_8 =>
  (f_X7_init).bind fun u_9 =>
  if inB 2 24 then
  vB (va_up h_8 63 (fun _ => 0)) fun h_10 =>
  (f_X7_init).bind fun u_11 =>
  if inB 3 24 then
  vB (va_up h_10 64 (fun _ => 0)) fun h_12 =>
  (f_X7_init).bind fun u_13 =>
  if inB 4 24 then
  vB (va_up h_12 65 (fun _ => 0)) fun h_14 =>
  (f_X7_init).bind fun u_15 =>
  if inB 5 24 then
  vB (va_up h_14 66 (fun _ => 0)) fun h_16 =>
  (f_X7_init).bind fun u_17 =>
  if inB 6 24 then
  vB (va_up h_16 67 (fun _ => 0)) fun h_18 =>
  (f_X7_init).bind fun u_19 =>
  if inB 7 24 then
  vB (va_up h_18 68 (fun _ => 0)) fun h_20 =>
  (f_X7_init).bind fun u_21 =>
  if inB 8 24 then
  vB (va_up h_20 69 (fun _ => 0)) fun h_22 =>
  (f_X7_init).bind fun u_23 =>
  if inB 9 24 then
  vB (va_up h_22 70 (fun _ => 0)) fun h_24 =>
  (f_X7_init).bind fun u_25 =>
  if inB 10 24 then
  vB (va_up h_24 71 (fun _ => 0)) fun h_26 =>
  (f_X7_init).bind fun u_27 =>
  if inB 11 24 then
  vB (va_up h_26 72 (fun _ => 0)) fun h_28 =>
  (f_X7_init).bind fun u_29 =>
  if inB 12 24 then
  vB (va_up h_28 73 (fun _ => 0)) fun h_30 =>
  (f_X7_init).bind fun u_31 =>
  if inB 13 24 then
  vB (va_up h_30 74 (fun _ => 0)) fun h_32 =>
  (f_X7_init).bind fun u_33 =>
  if inB 14 24 then
  vB (va_up h_32 75 (fun _ => 0)) fun h_34 =>
  (f_X7_init).bind fun u_35 =>
  if inB 15 24 then
  vB (va_up h_34 76 (fun _ => 0)) fun h_36 =>
  (f_X7_init).bind fun u_37 =>
  if inB 16 24 then
  vB (va_up h_36 77 (fun _ => 0)) fun h_38 =>
  (f_X7_init).bind fun u_39 =>
  if inB 17 24 then
  vB (va_up h_38 78 (fun _ => 0)) fun h_40 =>
  (f_X7_init).bind fun u_41 =>
  if inB 18 24 then
  vB (va_up h_40 79 (fun _ => 0)) fun h_42 =>
  (f_X7_init).bind fun u_43 =>
  if inB 19 24 then
  vB (va_up h_42 80 (fun _ => 0)) fun h_44 =>
  (f_X7_init).bind fun u_45 =>
  if inB 20 24 then
  vB (va_up h_44 81 (fun _ => 0)) fun h_46 =>
  (f_X7_init).bind fun u_47 =>
  if inB 21 24 then
  vB (va_up h_46 82 (fun _ => 0)) fun h_48 =>
  (f_X7_init).bind fun u_49 =>
  if inB 22 24 then
  vB (va_up h_48 83 (fun _ => 0)) fun h_50 =>
  (f_X7_init).bind fun u_51 =>
  if inB 23 24 then
  (f_X1_startAnew h_50 57).bind fun u_52 =>
  some u_52 else none else none else none else none else none else none else none else none else none else none else none else none else none else none else none else none else none else none else none else none else none else none else none else none else none
set_option maxRecDepth 10000 in
theorem wk_X1_init_57 {X : wX} (C : Cx X yX1_init cX1_init 3 none rmk_X1_init_57) (r : Rp) (h : Hp) (hF : r 3 0 = some 4 ∧ r 3 1 = some 5 ∧ r 3 2 = some 6) : wG X 3 (eM X (fun u => (none, 84, u, R_X1_init_57 r))) (fk_X1_init_57 h) 58 h r 0 0 0 [(0, .ref (xB X + 57)), (1, .ref (xB X + 3))] [] := by
  refine wG_of (fk_X1_init_57.eq_1 ..) ?_
  refine wG_aload_n C dX1_init_0 0 rfl ?_
  refine wG_obj C bw_X1_3 ⟨by decide, Nat.le_of_ble_eq_true rfl⟩ dX1_init_1 ?_
  refine wG_aload_n C dX1_init_4 0 rfl ?_
  refine wG_bipush C dX1_init_5 (v := 24) (by decide) ?_
  refine wG_newrK C (Cn := RX7) m_138 C.sp.2.2.2.2.2 rfl (by decide) (by decide) kd_58 ln_58 (by decide) ⟨by decide, by decide⟩ dX1_init_7 (cl' := 1) (sl' := 24) rfl rfl (N' := 59) rfl (fun h_1 => ?_)
  refine wG_putRK C fl_X1_11_1 fr_1_1_X1 (fun _ => rfl) rfl kd_57 (by decide) (Or.inr ⟨_, rfl⟩) (by decide) dX1_init_10 ?_
  refine wG_aload_n C dX1_init_13 0 rfl ?_
  refine wG_newK C ow_X1_9 kd_59 (show nF 7 = 13 from rfl) ⟨by decide, by decide⟩ dX1_init_14 (cl' := 2) (sl' := 37) rfl rfl (N' := 60) rfl (fun h_2 => ?_)
  refine wG_dup C dX1_init_17 rfl ?_
  refine wG_cIN_rv [] [.ref (xB X + 59), .ref (xB X + 57)] C nw_X1_17 rfl (c_X7_init (xl X) (xE X) _ _ _ 59) (by decide) rfl rfl (Nat.le_of_ble_eq_true rfl) dX1_init_18 (cl' := 2) (sl' := 37) rfl rfl (fun u_3 => ?_)
  refine wG_putRK C fl_X1_18_1 fr_1_2_X1 (fun _ => rfl) rfl kd_57 (by decide) (Or.inl ⟨_, rfl⟩) (by decide) dX1_init_21 ?_
  refine wG_aload_n C dX1_init_24 0 rfl ?_
  refine wG_aload_n C dX1_init_25 1 rfl ?_
  refine wG_putRK C fl_X1_22_1 fr_1_0_X1 (fun _ => rfl) rfl kd_57 (by decide) (Or.inl ⟨_, rfl⟩) (by decide) dX1_init_26 ?_
  refine wG_iconst C dX1_init_29 (v := 0) (by decide) ?_
  refine wG_istore_n C (L' := [(0, .ref (xB X + 57)), (1, .ref (xB X + 3)), (2, .int 0)]) dX1_init_30 (by decide) [1, 2, 0] rfl ?_
  refine wG_iload_n C dX1_init_31 2 rfl ?_
  refine wG_bipush C dX1_init_32 (v := 24) (by decide) ?_
  refine wG_geF C (by decide) dX1_init_34 ?_
  refine wG_aload_n C dX1_init_37 0 rfl ?_
  refine wG_getR C (b := 58) fl_X1_11_1 rfl kd_57 (by decide) rfl dX1_init_38 ?_
  refine wG_iload_n C dX1_init_41 2 rfl ?_
  refine wG_newK C ow_X1_9 kd_60 (show nF 7 = 13 from rfl) ⟨by decide, by decide⟩ dX1_init_42 (cl' := 3) (sl' := 50) rfl rfl (N' := 61) rfl (fun h_4 => ?_)
  refine wG_dup C dX1_init_45 rfl ?_
  refine wG_cIN_rv [] [.ref (xB X + 60), .int 0, .ref (xB X + 58)] C nw_X1_17 rfl (c_X7_init (xl X) (xE X) _ _ _ 60) (by decide) rfl rfl (Nat.le_of_ble_eq_true rfl) dX1_init_46 (cl' := 3) (sl' := 50) rfl rfl (fun u_5 => ?_)
  refine wG_aastK C (q := (RX7, TX7, 13)) kd_58 (by decide) (by decide) rfl (by decide) ln_58 kd_60 (by decide) rfl (by decide) (by decide) (j := 0) rfl dX1_init_49 ?_
  refine wG_iincK C (v := 1) (w := 1) (L' := [(0, .ref (xB X + 57)), (1, .ref (xB X + 3)), (2, .int 1)]) dX1_init_50 2 rfl (by decide) (by decide) (by decide) [1, 2, 0] rfl ?_
  refine wG_goto C dX1_init_53 ?_
  refine wG_iload_n C dX1_init_31 2 rfl ?_
  refine wG_bipush C dX1_init_32 (v := 24) (by decide) ?_
  refine wG_geF C (by decide) dX1_init_34 ?_
  refine wG_aload_n C dX1_init_37 0 rfl ?_
  refine wG_getR C (b := 58) fl_X1_11_1 rfl kd_57 (by decide) rfl dX1_init_38 ?_
  refine wG_iload_n C dX1_init_41 2 rfl ?_
  refine wG_newK C ow_X1_9 kd_61 (show nF 7 = 13 from rfl) ⟨by decide, by decide⟩ dX1_init_42 (cl' := 4) (sl' := 63) rfl rfl (N' := 62) rfl (fun h_6 => ?_)
  refine wG_dup C dX1_init_45 rfl ?_
  refine wG_cIN_rv [] [.ref (xB X + 61), .int 1, .ref (xB X + 58)] C nw_X1_17 rfl (c_X7_init (xl X) (xE X) _ _ _ 61) (by decide) rfl rfl (Nat.le_of_ble_eq_true rfl) dX1_init_46 (cl' := 4) (sl' := 63) rfl rfl (fun u_7 => ?_)
  refine wG_aastK C (q := (RX7, TX7, 13)) kd_58 (by decide) (by decide) rfl (by decide) ln_58 kd_61 (by decide) rfl (by decide) (by decide) (j := 1) rfl dX1_init_49 ?_
  refine wG_iincK C (v := 1) (w := 2) (L' := [(0, .ref (xB X + 57)), (1, .ref (xB X + 3)), (2, .int 2)]) dX1_init_50 2 rfl (by decide) (by decide) (by decide) [1, 2, 0] rfl ?_
  refine wG_goto C dX1_init_53 ?_
  refine wG_iload_n C dX1_init_31 2 rfl ?_
  refine wG_bipush C dX1_init_32 (v := 24) (by decide) ?_
  refine wG_geF C (by decide) dX1_init_34 ?_
  refine wG_aload_n C dX1_init_37 0 rfl ?_
  refine wG_getR C (b := 58) fl_X1_11_1 rfl kd_57 (by decide) rfl dX1_init_38 ?_
  refine wG_iload_n C dX1_init_41 2 rfl ?_
  refine wG_newK C ow_X1_9 kd_62 (show nF 7 = 13 from rfl) ⟨by decide, by decide⟩ dX1_init_42 (cl' := 5) (sl' := 76) rfl rfl (N' := 63) rfl (fun h_8 => ?_)
  refine wG_dup C dX1_init_45 rfl ?_
  refine wG_cIN_rv [] [.ref (xB X + 62), .int 2, .ref (xB X + 58)] C nw_X1_17 rfl (c_X7_init (xl X) (xE X) _ _ _ 62) (by decide) rfl rfl (Nat.le_of_ble_eq_true rfl) dX1_init_46 (cl' := 5) (sl' := 76) rfl rfl (fun u_9 => ?_)
  refine wG_aastK C (q := (RX7, TX7, 13)) kd_58 (by decide) (by decide) rfl (by decide) ln_58 kd_62 (by decide) rfl (by decide) (by decide) (j := 2) rfl dX1_init_49 ?_
  refine wG_iincK C (v := 1) (w := 3) (L' := [(0, .ref (xB X + 57)), (1, .ref (xB X + 3)), (2, .int 3)]) dX1_init_50 2 rfl (by decide) (by decide) (by decide) [1, 2, 0] rfl ?_
  refine wG_goto C dX1_init_53 ?_
  refine wG_iload_n C dX1_init_31 2 rfl ?_
  refine wG_bipush C dX1_init_32 (v := 24) (by decide) ?_
  refine wG_geF C (by decide) dX1_init_34 ?_
  refine wG_aload_n C dX1_init_37 0 rfl ?_
  refine wG_getR C (b := 58) fl_X1_11_1 rfl kd_57 (by decide) rfl dX1_init_38 ?_
  refine wG_iload_n C dX1_init_41 2 rfl ?_
  refine wG_newK C ow_X1_9 kd_63 (show nF 7 = 13 from rfl) ⟨by decide, by decide⟩ dX1_init_42 (cl' := 6) (sl' := 89) rfl rfl (N' := 64) rfl (fun h_10 => ?_)
  refine wG_dup C dX1_init_45 rfl ?_
  refine wG_cIN_rv [] [.ref (xB X + 63), .int 3, .ref (xB X + 58)] C nw_X1_17 rfl (c_X7_init (xl X) (xE X) _ _ _ 63) (by decide) rfl rfl (Nat.le_of_ble_eq_true rfl) dX1_init_46 (cl' := 6) (sl' := 89) rfl rfl (fun u_11 => ?_)
  refine wG_aastK C (q := (RX7, TX7, 13)) kd_58 (by decide) (by decide) rfl (by decide) ln_58 kd_63 (by decide) rfl (by decide) (by decide) (j := 3) rfl dX1_init_49 ?_
  refine wG_iincK C (v := 1) (w := 4) (L' := [(0, .ref (xB X + 57)), (1, .ref (xB X + 3)), (2, .int 4)]) dX1_init_50 2 rfl (by decide) (by decide) (by decide) [1, 2, 0] rfl ?_
  refine wG_goto C dX1_init_53 ?_
  refine wG_iload_n C dX1_init_31 2 rfl ?_
  refine wG_bipush C dX1_init_32 (v := 24) (by decide) ?_
  refine wG_geF C (by decide) dX1_init_34 ?_
  refine wG_aload_n C dX1_init_37 0 rfl ?_
  refine wG_getR C (b := 58) fl_X1_11_1 rfl kd_57 (by decide) rfl dX1_init_38 ?_
  refine wG_iload_n C dX1_init_41 2 rfl ?_
  refine wG_newK C ow_X1_9 kd_64 (show nF 7 = 13 from rfl) ⟨by decide, by decide⟩ dX1_init_42 (cl' := 7) (sl' := 102) rfl rfl (N' := 65) rfl (fun h_12 => ?_)
  refine wG_dup C dX1_init_45 rfl ?_
  refine wG_cIN_rv [] [.ref (xB X + 64), .int 4, .ref (xB X + 58)] C nw_X1_17 rfl (c_X7_init (xl X) (xE X) _ _ _ 64) (by decide) rfl rfl (Nat.le_of_ble_eq_true rfl) dX1_init_46 (cl' := 7) (sl' := 102) rfl rfl (fun u_13 => ?_)
  refine wG_aastK C (q := (RX7, TX7, 13)) kd_58 (by decide) (by decide) rfl (by decide) ln_58 kd_64 (by decide) rfl (by decide) (by decide) (j := 4) rfl dX1_init_49 ?_
  refine wG_iincK C (v := 1) (w := 5) (L' := [(0, .ref (xB X + 57)), (1, .ref (xB X + 3)), (2, .int 5)]) dX1_init_50 2 rfl (by decide) (by decide) (by decide) [1, 2, 0] rfl ?_
  refine wG_goto C dX1_init_53 ?_
  refine wG_iload_n C dX1_init_31 2 rfl ?_
  refine wG_bipush C dX1_init_32 (v := 24) (by decide) ?_
  refine wG_geF C (by decide) dX1_init_34 ?_
  refine wG_aload_n C dX1_init_37 0 rfl ?_
  refine wG_getR C (b := 58) fl_X1_11_1 rfl kd_57 (by decide) rfl dX1_init_38 ?_
  refine wG_iload_n C dX1_init_41 2 rfl ?_
  refine wG_newK C ow_X1_9 kd_65 (show nF 7 = 13 from rfl) ⟨by decide, by decide⟩ dX1_init_42 (cl' := 8) (sl' := 115) rfl rfl (N' := 66) rfl (fun h_14 => ?_)
  refine wG_dup C dX1_init_45 rfl ?_
  refine wG_cIN_rv [] [.ref (xB X + 65), .int 5, .ref (xB X + 58)] C nw_X1_17 rfl (c_X7_init (xl X) (xE X) _ _ _ 65) (by decide) rfl rfl (Nat.le_of_ble_eq_true rfl) dX1_init_46 (cl' := 8) (sl' := 115) rfl rfl (fun u_15 => ?_)
  refine wG_aastK C (q := (RX7, TX7, 13)) kd_58 (by decide) (by decide) rfl (by decide) ln_58 kd_65 (by decide) rfl (by decide) (by decide) (j := 5) rfl dX1_init_49 ?_
  refine wG_iincK C (v := 1) (w := 6) (L' := [(0, .ref (xB X + 57)), (1, .ref (xB X + 3)), (2, .int 6)]) dX1_init_50 2 rfl (by decide) (by decide) (by decide) [1, 2, 0] rfl ?_
  refine wG_goto C dX1_init_53 ?_
  refine wG_iload_n C dX1_init_31 2 rfl ?_
  refine wG_bipush C dX1_init_32 (v := 24) (by decide) ?_
  refine wG_geF C (by decide) dX1_init_34 ?_
  refine wG_aload_n C dX1_init_37 0 rfl ?_
  refine wG_getR C (b := 58) fl_X1_11_1 rfl kd_57 (by decide) rfl dX1_init_38 ?_
  refine wG_iload_n C dX1_init_41 2 rfl ?_
  refine wG_newK C ow_X1_9 kd_66 (show nF 7 = 13 from rfl) ⟨by decide, by decide⟩ dX1_init_42 (cl' := 9) (sl' := 128) rfl rfl (N' := 67) rfl (fun h_16 => ?_)
  refine wG_dup C dX1_init_45 rfl ?_
  refine wG_cIN_rv [] [.ref (xB X + 66), .int 6, .ref (xB X + 58)] C nw_X1_17 rfl (c_X7_init (xl X) (xE X) _ _ _ 66) (by decide) rfl rfl (Nat.le_of_ble_eq_true rfl) dX1_init_46 (cl' := 9) (sl' := 128) rfl rfl (fun u_17 => ?_)
  refine wG_aastK C (q := (RX7, TX7, 13)) kd_58 (by decide) (by decide) rfl (by decide) ln_58 kd_66 (by decide) rfl (by decide) (by decide) (j := 6) rfl dX1_init_49 ?_
  refine wG_iincK C (v := 1) (w := 7) (L' := [(0, .ref (xB X + 57)), (1, .ref (xB X + 3)), (2, .int 7)]) dX1_init_50 2 rfl (by decide) (by decide) (by decide) [1, 2, 0] rfl ?_
  refine wG_goto C dX1_init_53 ?_
  refine wG_iload_n C dX1_init_31 2 rfl ?_
  refine wG_bipush C dX1_init_32 (v := 24) (by decide) ?_
  refine wG_geF C (by decide) dX1_init_34 ?_
  refine wG_aload_n C dX1_init_37 0 rfl ?_
  refine wG_getR C (b := 58) fl_X1_11_1 rfl kd_57 (by decide) rfl dX1_init_38 ?_
  refine wG_iload_n C dX1_init_41 2 rfl ?_
  refine wG_newK C ow_X1_9 kd_67 (show nF 7 = 13 from rfl) ⟨by decide, by decide⟩ dX1_init_42 (cl' := 10) (sl' := 141) rfl rfl (N' := 68) rfl (fun h_18 => ?_)
  refine wG_dup C dX1_init_45 rfl ?_
  refine wG_cIN_rv [] [.ref (xB X + 67), .int 7, .ref (xB X + 58)] C nw_X1_17 rfl (c_X7_init (xl X) (xE X) _ _ _ 67) (by decide) rfl rfl (Nat.le_of_ble_eq_true rfl) dX1_init_46 (cl' := 10) (sl' := 141) rfl rfl (fun u_19 => ?_)
  refine wG_aastK C (q := (RX7, TX7, 13)) kd_58 (by decide) (by decide) rfl (by decide) ln_58 kd_67 (by decide) rfl (by decide) (by decide) (j := 7) rfl dX1_init_49 ?_
  refine wG_iincK C (v := 1) (w := 8) (L' := [(0, .ref (xB X + 57)), (1, .ref (xB X + 3)), (2, .int 8)]) dX1_init_50 2 rfl (by decide) (by decide) (by decide) [1, 2, 0] rfl ?_
  refine wG_goto C dX1_init_53 ?_
  refine wG_iload_n C dX1_init_31 2 rfl ?_
  refine wG_bipush C dX1_init_32 (v := 24) (by decide) ?_
  refine wG_geF C (by decide) dX1_init_34 ?_
  refine wG_aload_n C dX1_init_37 0 rfl ?_
  refine wG_getR C (b := 58) fl_X1_11_1 rfl kd_57 (by decide) rfl dX1_init_38 ?_
  refine wG_iload_n C dX1_init_41 2 rfl ?_
  refine wG_newK C ow_X1_9 kd_68 (show nF 7 = 13 from rfl) ⟨by decide, by decide⟩ dX1_init_42 (cl' := 11) (sl' := 154) rfl rfl (N' := 69) rfl (fun h_20 => ?_)
  refine wG_dup C dX1_init_45 rfl ?_
  refine wG_cIN_rv [] [.ref (xB X + 68), .int 8, .ref (xB X + 58)] C nw_X1_17 rfl (c_X7_init (xl X) (xE X) _ _ _ 68) (by decide) rfl rfl (Nat.le_of_ble_eq_true rfl) dX1_init_46 (cl' := 11) (sl' := 154) rfl rfl (fun u_21 => ?_)
  refine wG_aastK C (q := (RX7, TX7, 13)) kd_58 (by decide) (by decide) rfl (by decide) ln_58 kd_68 (by decide) rfl (by decide) (by decide) (j := 8) rfl dX1_init_49 ?_
  refine wG_iincK C (v := 1) (w := 9) (L' := [(0, .ref (xB X + 57)), (1, .ref (xB X + 3)), (2, .int 9)]) dX1_init_50 2 rfl (by decide) (by decide) (by decide) [1, 2, 0] rfl ?_
  refine wG_goto C dX1_init_53 ?_
  refine wG_iload_n C dX1_init_31 2 rfl ?_
  refine wG_bipush C dX1_init_32 (v := 24) (by decide) ?_
  refine wG_geF C (by decide) dX1_init_34 ?_
  refine wG_aload_n C dX1_init_37 0 rfl ?_
  refine wG_getR C (b := 58) fl_X1_11_1 rfl kd_57 (by decide) rfl dX1_init_38 ?_
  refine wG_iload_n C dX1_init_41 2 rfl ?_
  refine wG_newK C ow_X1_9 kd_69 (show nF 7 = 13 from rfl) ⟨by decide, by decide⟩ dX1_init_42 (cl' := 12) (sl' := 167) rfl rfl (N' := 70) rfl (fun h_22 => ?_)
  refine wG_dup C dX1_init_45 rfl ?_
  refine wG_cIN_rv [] [.ref (xB X + 69), .int 9, .ref (xB X + 58)] C nw_X1_17 rfl (c_X7_init (xl X) (xE X) _ _ _ 69) (by decide) rfl rfl (Nat.le_of_ble_eq_true rfl) dX1_init_46 (cl' := 12) (sl' := 167) rfl rfl (fun u_23 => ?_)
  refine wG_aastK C (q := (RX7, TX7, 13)) kd_58 (by decide) (by decide) rfl (by decide) ln_58 kd_69 (by decide) rfl (by decide) (by decide) (j := 9) rfl dX1_init_49 ?_
  refine wG_iincK C (v := 1) (w := 10) (L' := [(0, .ref (xB X + 57)), (1, .ref (xB X + 3)), (2, .int 10)]) dX1_init_50 2 rfl (by decide) (by decide) (by decide) [1, 2, 0] rfl ?_
  refine wG_goto C dX1_init_53 ?_
  refine wG_iload_n C dX1_init_31 2 rfl ?_
  refine wG_bipush C dX1_init_32 (v := 24) (by decide) ?_
  refine wG_geF C (by decide) dX1_init_34 ?_
  refine wG_aload_n C dX1_init_37 0 rfl ?_
  refine wG_getR C (b := 58) fl_X1_11_1 rfl kd_57 (by decide) rfl dX1_init_38 ?_
  refine wG_iload_n C dX1_init_41 2 rfl ?_
  refine wG_newK C ow_X1_9 kd_70 (show nF 7 = 13 from rfl) ⟨by decide, by decide⟩ dX1_init_42 (cl' := 13) (sl' := 180) rfl rfl (N' := 71) rfl (fun h_24 => ?_)
  refine wG_dup C dX1_init_45 rfl ?_
  refine wG_cIN_rv [] [.ref (xB X + 70), .int 10, .ref (xB X + 58)] C nw_X1_17 rfl (c_X7_init (xl X) (xE X) _ _ _ 70) (by decide) rfl rfl (Nat.le_of_ble_eq_true rfl) dX1_init_46 (cl' := 13) (sl' := 180) rfl rfl (fun u_25 => ?_)
  refine wG_aastK C (q := (RX7, TX7, 13)) kd_58 (by decide) (by decide) rfl (by decide) ln_58 kd_70 (by decide) rfl (by decide) (by decide) (j := 10) rfl dX1_init_49 ?_
  refine wG_iincK C (v := 1) (w := 11) (L' := [(0, .ref (xB X + 57)), (1, .ref (xB X + 3)), (2, .int 11)]) dX1_init_50 2 rfl (by decide) (by decide) (by decide) [1, 2, 0] rfl ?_
  refine wG_goto C dX1_init_53 ?_
  refine wG_iload_n C dX1_init_31 2 rfl ?_
  refine wG_bipush C dX1_init_32 (v := 24) (by decide) ?_
  refine wG_geF C (by decide) dX1_init_34 ?_
  refine wG_aload_n C dX1_init_37 0 rfl ?_
  refine wG_getR C (b := 58) fl_X1_11_1 rfl kd_57 (by decide) rfl dX1_init_38 ?_
  refine wG_iload_n C dX1_init_41 2 rfl ?_
  refine wG_newK C ow_X1_9 kd_71 (show nF 7 = 13 from rfl) ⟨by decide, by decide⟩ dX1_init_42 (cl' := 14) (sl' := 193) rfl rfl (N' := 72) rfl (fun h_26 => ?_)
  refine wG_dup C dX1_init_45 rfl ?_
  refine wG_cIN_rv [] [.ref (xB X + 71), .int 11, .ref (xB X + 58)] C nw_X1_17 rfl (c_X7_init (xl X) (xE X) _ _ _ 71) (by decide) rfl rfl (Nat.le_of_ble_eq_true rfl) dX1_init_46 (cl' := 14) (sl' := 193) rfl rfl (fun u_27 => ?_)
  refine wG_aastK C (q := (RX7, TX7, 13)) kd_58 (by decide) (by decide) rfl (by decide) ln_58 kd_71 (by decide) rfl (by decide) (by decide) (j := 11) rfl dX1_init_49 ?_
  refine wG_iincK C (v := 1) (w := 12) (L' := [(0, .ref (xB X + 57)), (1, .ref (xB X + 3)), (2, .int 12)]) dX1_init_50 2 rfl (by decide) (by decide) (by decide) [1, 2, 0] rfl ?_
  refine wG_goto C dX1_init_53 ?_
  refine wG_iload_n C dX1_init_31 2 rfl ?_
  refine wG_bipush C dX1_init_32 (v := 24) (by decide) ?_
  refine wG_geF C (by decide) dX1_init_34 ?_
  refine wG_aload_n C dX1_init_37 0 rfl ?_
  refine wG_getR C (b := 58) fl_X1_11_1 rfl kd_57 (by decide) rfl dX1_init_38 ?_
  refine wG_iload_n C dX1_init_41 2 rfl ?_
  refine wG_newK C ow_X1_9 kd_72 (show nF 7 = 13 from rfl) ⟨by decide, by decide⟩ dX1_init_42 (cl' := 15) (sl' := 206) rfl rfl (N' := 73) rfl (fun h_28 => ?_)
  refine wG_dup C dX1_init_45 rfl ?_
  refine wG_cIN_rv [] [.ref (xB X + 72), .int 12, .ref (xB X + 58)] C nw_X1_17 rfl (c_X7_init (xl X) (xE X) _ _ _ 72) (by decide) rfl rfl (Nat.le_of_ble_eq_true rfl) dX1_init_46 (cl' := 15) (sl' := 206) rfl rfl (fun u_29 => ?_)
  refine wG_aastK C (q := (RX7, TX7, 13)) kd_58 (by decide) (by decide) rfl (by decide) ln_58 kd_72 (by decide) rfl (by decide) (by decide) (j := 12) rfl dX1_init_49 ?_
  refine wG_iincK C (v := 1) (w := 13) (L' := [(0, .ref (xB X + 57)), (1, .ref (xB X + 3)), (2, .int 13)]) dX1_init_50 2 rfl (by decide) (by decide) (by decide) [1, 2, 0] rfl ?_
  refine wG_goto C dX1_init_53 ?_
  refine wG_iload_n C dX1_init_31 2 rfl ?_
  refine wG_bipush C dX1_init_32 (v := 24) (by decide) ?_
  refine wG_geF C (by decide) dX1_init_34 ?_
  refine wG_aload_n C dX1_init_37 0 rfl ?_
  refine wG_getR C (b := 58) fl_X1_11_1 rfl kd_57 (by decide) rfl dX1_init_38 ?_
  refine wG_iload_n C dX1_init_41 2 rfl ?_
  refine wG_newK C ow_X1_9 kd_73 (show nF 7 = 13 from rfl) ⟨by decide, by decide⟩ dX1_init_42 (cl' := 16) (sl' := 219) rfl rfl (N' := 74) rfl (fun h_30 => ?_)
  refine wG_dup C dX1_init_45 rfl ?_
  refine wG_cIN_rv [] [.ref (xB X + 73), .int 13, .ref (xB X + 58)] C nw_X1_17 rfl (c_X7_init (xl X) (xE X) _ _ _ 73) (by decide) rfl rfl (Nat.le_of_ble_eq_true rfl) dX1_init_46 (cl' := 16) (sl' := 219) rfl rfl (fun u_31 => ?_)
  refine wG_aastK C (q := (RX7, TX7, 13)) kd_58 (by decide) (by decide) rfl (by decide) ln_58 kd_73 (by decide) rfl (by decide) (by decide) (j := 13) rfl dX1_init_49 ?_
  refine wG_iincK C (v := 1) (w := 14) (L' := [(0, .ref (xB X + 57)), (1, .ref (xB X + 3)), (2, .int 14)]) dX1_init_50 2 rfl (by decide) (by decide) (by decide) [1, 2, 0] rfl ?_
  refine wG_goto C dX1_init_53 ?_
  refine wG_iload_n C dX1_init_31 2 rfl ?_
  refine wG_bipush C dX1_init_32 (v := 24) (by decide) ?_
  refine wG_geF C (by decide) dX1_init_34 ?_
  refine wG_aload_n C dX1_init_37 0 rfl ?_
  refine wG_getR C (b := 58) fl_X1_11_1 rfl kd_57 (by decide) rfl dX1_init_38 ?_
  refine wG_iload_n C dX1_init_41 2 rfl ?_
  refine wG_newK C ow_X1_9 kd_74 (show nF 7 = 13 from rfl) ⟨by decide, by decide⟩ dX1_init_42 (cl' := 17) (sl' := 232) rfl rfl (N' := 75) rfl (fun h_32 => ?_)
  refine wG_dup C dX1_init_45 rfl ?_
  refine wG_cIN_rv [] [.ref (xB X + 74), .int 14, .ref (xB X + 58)] C nw_X1_17 rfl (c_X7_init (xl X) (xE X) _ _ _ 74) (by decide) rfl rfl (Nat.le_of_ble_eq_true rfl) dX1_init_46 (cl' := 17) (sl' := 232) rfl rfl (fun u_33 => ?_)
  refine wG_aastK C (q := (RX7, TX7, 13)) kd_58 (by decide) (by decide) rfl (by decide) ln_58 kd_74 (by decide) rfl (by decide) (by decide) (j := 14) rfl dX1_init_49 ?_
  refine wG_iincK C (v := 1) (w := 15) (L' := [(0, .ref (xB X + 57)), (1, .ref (xB X + 3)), (2, .int 15)]) dX1_init_50 2 rfl (by decide) (by decide) (by decide) [1, 2, 0] rfl ?_
  refine wG_goto C dX1_init_53 ?_
  refine wG_iload_n C dX1_init_31 2 rfl ?_
  refine wG_bipush C dX1_init_32 (v := 24) (by decide) ?_
  refine wG_geF C (by decide) dX1_init_34 ?_
  refine wG_aload_n C dX1_init_37 0 rfl ?_
  refine wG_getR C (b := 58) fl_X1_11_1 rfl kd_57 (by decide) rfl dX1_init_38 ?_
  refine wG_iload_n C dX1_init_41 2 rfl ?_
  refine wG_newK C ow_X1_9 kd_75 (show nF 7 = 13 from rfl) ⟨by decide, by decide⟩ dX1_init_42 (cl' := 18) (sl' := 245) rfl rfl (N' := 76) rfl (fun h_34 => ?_)
  refine wG_dup C dX1_init_45 rfl ?_
  refine wG_cIN_rv [] [.ref (xB X + 75), .int 15, .ref (xB X + 58)] C nw_X1_17 rfl (c_X7_init (xl X) (xE X) _ _ _ 75) (by decide) rfl rfl (Nat.le_of_ble_eq_true rfl) dX1_init_46 (cl' := 18) (sl' := 245) rfl rfl (fun u_35 => ?_)
  refine wG_aastK C (q := (RX7, TX7, 13)) kd_58 (by decide) (by decide) rfl (by decide) ln_58 kd_75 (by decide) rfl (by decide) (by decide) (j := 15) rfl dX1_init_49 ?_
  refine wG_iincK C (v := 1) (w := 16) (L' := [(0, .ref (xB X + 57)), (1, .ref (xB X + 3)), (2, .int 16)]) dX1_init_50 2 rfl (by decide) (by decide) (by decide) [1, 2, 0] rfl ?_
  refine wG_goto C dX1_init_53 ?_
  refine wG_iload_n C dX1_init_31 2 rfl ?_
  refine wG_bipush C dX1_init_32 (v := 24) (by decide) ?_
  refine wG_geF C (by decide) dX1_init_34 ?_
  refine wG_aload_n C dX1_init_37 0 rfl ?_
  refine wG_getR C (b := 58) fl_X1_11_1 rfl kd_57 (by decide) rfl dX1_init_38 ?_
  refine wG_iload_n C dX1_init_41 2 rfl ?_
  refine wG_newK C ow_X1_9 kd_76 (show nF 7 = 13 from rfl) ⟨by decide, by decide⟩ dX1_init_42 (cl' := 19) (sl' := 258) rfl rfl (N' := 77) rfl (fun h_36 => ?_)
  refine wG_dup C dX1_init_45 rfl ?_
  refine wG_cIN_rv [] [.ref (xB X + 76), .int 16, .ref (xB X + 58)] C nw_X1_17 rfl (c_X7_init (xl X) (xE X) _ _ _ 76) (by decide) rfl rfl (Nat.le_of_ble_eq_true rfl) dX1_init_46 (cl' := 19) (sl' := 258) rfl rfl (fun u_37 => ?_)
  refine wG_aastK C (q := (RX7, TX7, 13)) kd_58 (by decide) (by decide) rfl (by decide) ln_58 kd_76 (by decide) rfl (by decide) (by decide) (j := 16) rfl dX1_init_49 ?_
  refine wG_iincK C (v := 1) (w := 17) (L' := [(0, .ref (xB X + 57)), (1, .ref (xB X + 3)), (2, .int 17)]) dX1_init_50 2 rfl (by decide) (by decide) (by decide) [1, 2, 0] rfl ?_
  refine wG_goto C dX1_init_53 ?_
  refine wG_iload_n C dX1_init_31 2 rfl ?_
  refine wG_bipush C dX1_init_32 (v := 24) (by decide) ?_
  refine wG_geF C (by decide) dX1_init_34 ?_
  refine wG_aload_n C dX1_init_37 0 rfl ?_
  refine wG_getR C (b := 58) fl_X1_11_1 rfl kd_57 (by decide) rfl dX1_init_38 ?_
  refine wG_iload_n C dX1_init_41 2 rfl ?_
  refine wG_newK C ow_X1_9 kd_77 (show nF 7 = 13 from rfl) ⟨by decide, by decide⟩ dX1_init_42 (cl' := 20) (sl' := 271) rfl rfl (N' := 78) rfl (fun h_38 => ?_)
  refine wG_dup C dX1_init_45 rfl ?_
  refine wG_cIN_rv [] [.ref (xB X + 77), .int 17, .ref (xB X + 58)] C nw_X1_17 rfl (c_X7_init (xl X) (xE X) _ _ _ 77) (by decide) rfl rfl (Nat.le_of_ble_eq_true rfl) dX1_init_46 (cl' := 20) (sl' := 271) rfl rfl (fun u_39 => ?_)
  refine wG_aastK C (q := (RX7, TX7, 13)) kd_58 (by decide) (by decide) rfl (by decide) ln_58 kd_77 (by decide) rfl (by decide) (by decide) (j := 17) rfl dX1_init_49 ?_
  refine wG_iincK C (v := 1) (w := 18) (L' := [(0, .ref (xB X + 57)), (1, .ref (xB X + 3)), (2, .int 18)]) dX1_init_50 2 rfl (by decide) (by decide) (by decide) [1, 2, 0] rfl ?_
  refine wG_goto C dX1_init_53 ?_
  refine wG_iload_n C dX1_init_31 2 rfl ?_
  refine wG_bipush C dX1_init_32 (v := 24) (by decide) ?_
  refine wG_geF C (by decide) dX1_init_34 ?_
  refine wG_aload_n C dX1_init_37 0 rfl ?_
  refine wG_getR C (b := 58) fl_X1_11_1 rfl kd_57 (by decide) rfl dX1_init_38 ?_
  refine wG_iload_n C dX1_init_41 2 rfl ?_
  refine wG_newK C ow_X1_9 kd_78 (show nF 7 = 13 from rfl) ⟨by decide, by decide⟩ dX1_init_42 (cl' := 21) (sl' := 284) rfl rfl (N' := 79) rfl (fun h_40 => ?_)
  refine wG_dup C dX1_init_45 rfl ?_
  refine wG_cIN_rv [] [.ref (xB X + 78), .int 18, .ref (xB X + 58)] C nw_X1_17 rfl (c_X7_init (xl X) (xE X) _ _ _ 78) (by decide) rfl rfl (Nat.le_of_ble_eq_true rfl) dX1_init_46 (cl' := 21) (sl' := 284) rfl rfl (fun u_41 => ?_)
  refine wG_aastK C (q := (RX7, TX7, 13)) kd_58 (by decide) (by decide) rfl (by decide) ln_58 kd_78 (by decide) rfl (by decide) (by decide) (j := 18) rfl dX1_init_49 ?_
  refine wG_iincK C (v := 1) (w := 19) (L' := [(0, .ref (xB X + 57)), (1, .ref (xB X + 3)), (2, .int 19)]) dX1_init_50 2 rfl (by decide) (by decide) (by decide) [1, 2, 0] rfl ?_
  refine wG_goto C dX1_init_53 ?_
  refine wG_iload_n C dX1_init_31 2 rfl ?_
  refine wG_bipush C dX1_init_32 (v := 24) (by decide) ?_
  refine wG_geF C (by decide) dX1_init_34 ?_
  refine wG_aload_n C dX1_init_37 0 rfl ?_
  refine wG_getR C (b := 58) fl_X1_11_1 rfl kd_57 (by decide) rfl dX1_init_38 ?_
  refine wG_iload_n C dX1_init_41 2 rfl ?_
  refine wG_newK C ow_X1_9 kd_79 (show nF 7 = 13 from rfl) ⟨by decide, by decide⟩ dX1_init_42 (cl' := 22) (sl' := 297) rfl rfl (N' := 80) rfl (fun h_42 => ?_)
  refine wG_dup C dX1_init_45 rfl ?_
  refine wG_cIN_rv [] [.ref (xB X + 79), .int 19, .ref (xB X + 58)] C nw_X1_17 rfl (c_X7_init (xl X) (xE X) _ _ _ 79) (by decide) rfl rfl (Nat.le_of_ble_eq_true rfl) dX1_init_46 (cl' := 22) (sl' := 297) rfl rfl (fun u_43 => ?_)
  refine wG_aastK C (q := (RX7, TX7, 13)) kd_58 (by decide) (by decide) rfl (by decide) ln_58 kd_79 (by decide) rfl (by decide) (by decide) (j := 19) rfl dX1_init_49 ?_
  refine wG_iincK C (v := 1) (w := 20) (L' := [(0, .ref (xB X + 57)), (1, .ref (xB X + 3)), (2, .int 20)]) dX1_init_50 2 rfl (by decide) (by decide) (by decide) [1, 2, 0] rfl ?_
  refine wG_goto C dX1_init_53 ?_
  refine wG_iload_n C dX1_init_31 2 rfl ?_
  refine wG_bipush C dX1_init_32 (v := 24) (by decide) ?_
  refine wG_geF C (by decide) dX1_init_34 ?_
  refine wG_aload_n C dX1_init_37 0 rfl ?_
  refine wG_getR C (b := 58) fl_X1_11_1 rfl kd_57 (by decide) rfl dX1_init_38 ?_
  refine wG_iload_n C dX1_init_41 2 rfl ?_
  refine wG_newK C ow_X1_9 kd_80 (show nF 7 = 13 from rfl) ⟨by decide, by decide⟩ dX1_init_42 (cl' := 23) (sl' := 310) rfl rfl (N' := 81) rfl (fun h_44 => ?_)
  refine wG_dup C dX1_init_45 rfl ?_
  refine wG_cIN_rv [] [.ref (xB X + 80), .int 20, .ref (xB X + 58)] C nw_X1_17 rfl (c_X7_init (xl X) (xE X) _ _ _ 80) (by decide) rfl rfl (Nat.le_of_ble_eq_true rfl) dX1_init_46 (cl' := 23) (sl' := 310) rfl rfl (fun u_45 => ?_)
  refine wG_aastK C (q := (RX7, TX7, 13)) kd_58 (by decide) (by decide) rfl (by decide) ln_58 kd_80 (by decide) rfl (by decide) (by decide) (j := 20) rfl dX1_init_49 ?_
  refine wG_iincK C (v := 1) (w := 21) (L' := [(0, .ref (xB X + 57)), (1, .ref (xB X + 3)), (2, .int 21)]) dX1_init_50 2 rfl (by decide) (by decide) (by decide) [1, 2, 0] rfl ?_
  refine wG_goto C dX1_init_53 ?_
  refine wG_iload_n C dX1_init_31 2 rfl ?_
  refine wG_bipush C dX1_init_32 (v := 24) (by decide) ?_
  refine wG_geF C (by decide) dX1_init_34 ?_
  refine wG_aload_n C dX1_init_37 0 rfl ?_
  refine wG_getR C (b := 58) fl_X1_11_1 rfl kd_57 (by decide) rfl dX1_init_38 ?_
  refine wG_iload_n C dX1_init_41 2 rfl ?_
  refine wG_newK C ow_X1_9 kd_81 (show nF 7 = 13 from rfl) ⟨by decide, by decide⟩ dX1_init_42 (cl' := 24) (sl' := 323) rfl rfl (N' := 82) rfl (fun h_46 => ?_)
  refine wG_dup C dX1_init_45 rfl ?_
  refine wG_cIN_rv [] [.ref (xB X + 81), .int 21, .ref (xB X + 58)] C nw_X1_17 rfl (c_X7_init (xl X) (xE X) _ _ _ 81) (by decide) rfl rfl (Nat.le_of_ble_eq_true rfl) dX1_init_46 (cl' := 24) (sl' := 323) rfl rfl (fun u_47 => ?_)
  refine wG_aastK C (q := (RX7, TX7, 13)) kd_58 (by decide) (by decide) rfl (by decide) ln_58 kd_81 (by decide) rfl (by decide) (by decide) (j := 21) rfl dX1_init_49 ?_
  refine wG_iincK C (v := 1) (w := 22) (L' := [(0, .ref (xB X + 57)), (1, .ref (xB X + 3)), (2, .int 22)]) dX1_init_50 2 rfl (by decide) (by decide) (by decide) [1, 2, 0] rfl ?_
  refine wG_goto C dX1_init_53 ?_
  refine wG_iload_n C dX1_init_31 2 rfl ?_
  refine wG_bipush C dX1_init_32 (v := 24) (by decide) ?_
  refine wG_geF C (by decide) dX1_init_34 ?_
  refine wG_aload_n C dX1_init_37 0 rfl ?_
  refine wG_getR C (b := 58) fl_X1_11_1 rfl kd_57 (by decide) rfl dX1_init_38 ?_
  refine wG_iload_n C dX1_init_41 2 rfl ?_
  refine wG_newK C ow_X1_9 kd_82 (show nF 7 = 13 from rfl) ⟨by decide, by decide⟩ dX1_init_42 (cl' := 25) (sl' := 336) rfl rfl (N' := 83) rfl (fun h_48 => ?_)
  refine wG_dup C dX1_init_45 rfl ?_
  refine wG_cIN_rv [] [.ref (xB X + 82), .int 22, .ref (xB X + 58)] C nw_X1_17 rfl (c_X7_init (xl X) (xE X) _ _ _ 82) (by decide) rfl rfl (Nat.le_of_ble_eq_true rfl) dX1_init_46 (cl' := 25) (sl' := 336) rfl rfl (fun u_49 => ?_)
  refine wG_aastK C (q := (RX7, TX7, 13)) kd_58 (by decide) (by decide) rfl (by decide) ln_58 kd_82 (by decide) rfl (by decide) (by decide) (j := 22) rfl dX1_init_49 ?_
  refine wG_iincK C (v := 1) (w := 23) (L' := [(0, .ref (xB X + 57)), (1, .ref (xB X + 3)), (2, .int 23)]) dX1_init_50 2 rfl (by decide) (by decide) (by decide) [1, 2, 0] rfl ?_
  refine wG_goto C dX1_init_53 ?_
  refine wG_iload_n C dX1_init_31 2 rfl ?_
  refine wG_bipush C dX1_init_32 (v := 24) (by decide) ?_
  refine wG_geF C (by decide) dX1_init_34 ?_
  refine wG_aload_n C dX1_init_37 0 rfl ?_
  refine wG_getR C (b := 58) fl_X1_11_1 rfl kd_57 (by decide) rfl dX1_init_38 ?_
  refine wG_iload_n C dX1_init_41 2 rfl ?_
  refine wG_newK C ow_X1_9 kd_83 (show nF 7 = 13 from rfl) ⟨by decide, by decide⟩ dX1_init_42 (cl' := 26) (sl' := 349) rfl rfl (N' := 84) rfl (fun h_50 => ?_)
  refine wG_dup C dX1_init_45 rfl ?_
  refine wG_cIN_rv [] [.ref (xB X + 83), .int 23, .ref (xB X + 58)] C nw_X1_17 rfl (c_X7_init (xl X) (xE X) _ _ _ 83) (by decide) rfl rfl (Nat.le_of_ble_eq_true rfl) dX1_init_46 (cl' := 26) (sl' := 349) rfl rfl (fun u_51 => ?_)
  refine wG_aastK C (q := (RX7, TX7, 13)) kd_58 (by decide) (by decide) rfl (by decide) ln_58 kd_83 (by decide) rfl (by decide) (by decide) (j := 23) rfl dX1_init_49 ?_
  refine wG_iincK C (v := 1) (w := 24) (L' := [(0, .ref (xB X + 57)), (1, .ref (xB X + 3)), (2, .int 24)]) dX1_init_50 2 rfl (by decide) (by decide) (by decide) [1, 2, 0] rfl ?_
  refine wG_goto C dX1_init_53 ?_
  refine wG_iload_n C dX1_init_31 2 rfl ?_
  refine wG_bipush C dX1_init_32 (v := 24) (by decide) ?_
  refine wG_geT C (by decide) dX1_init_34 ?_
  refine wG_aload_n C dX1_init_56 0 rfl ?_
  have hFK : (u2 (va_up (u2 (va_up (u2 (va_up (u2 (va_up (u2 (va_up (u2 (va_up (u2 (va_up (u2 (va_up (u2 (va_up (u2 (va_up (u2 (va_up (u2 (va_up (u2 (va_up (u2 (va_up (u2 (va_up (u2 (va_up (u2 (va_up (u2 (va_up (u2 (va_up (u2 (va_up (u2 (va_up (u2 (va_up (u2 (va_up (u2 (va_up (u2 (u2 (va_up (u2 (va_up r 58 (fun _ => none)) 57 1 (some 58)) 59 (fun _ => none)) 57 2 (some 59)) 57 0 (some 3)) 60 (fun _ => none)) 58 0 (some 60)) 61 (fun _ => none)) 58 1 (some 61)) 62 (fun _ => none)) 58 2 (some 62)) 63 (fun _ => none)) 58 3 (some 63)) 64 (fun _ => none)) 58 4 (some 64)) 65 (fun _ => none)) 58 5 (some 65)) 66 (fun _ => none)) 58 6 (some 66)) 67 (fun _ => none)) 58 7 (some 67)) 68 (fun _ => none)) 58 8 (some 68)) 69 (fun _ => none)) 58 9 (some 69)) 70 (fun _ => none)) 58 10 (some 70)) 71 (fun _ => none)) 58 11 (some 71)) 72 (fun _ => none)) 58 12 (some 72)) 73 (fun _ => none)) 58 13 (some 73)) 74 (fun _ => none)) 58 14 (some 74)) 75 (fun _ => none)) 58 15 (some 75)) 76 (fun _ => none)) 58 16 (some 76)) 77 (fun _ => none)) 58 17 (some 77)) 78 (fun _ => none)) 58 18 (some 78)) 79 (fun _ => none)) 58 19 (some 79)) 80 (fun _ => none)) 58 20 (some 80)) 81 (fun _ => none)) 58 21 (some 81)) 82 (fun _ => none)) 58 22 (some 82)) 83 (fun _ => none)) 58 23 (some 83)) 3 0 = some 4 ∧ (u2 (va_up (u2 (va_up (u2 (va_up (u2 (va_up (u2 (va_up (u2 (va_up (u2 (va_up (u2 (va_up (u2 (va_up (u2 (va_up (u2 (va_up (u2 (va_up (u2 (va_up (u2 (va_up (u2 (va_up (u2 (va_up (u2 (va_up (u2 (va_up (u2 (va_up (u2 (va_up (u2 (va_up (u2 (va_up (u2 (va_up (u2 (va_up (u2 (u2 (va_up (u2 (va_up r 58 (fun _ => none)) 57 1 (some 58)) 59 (fun _ => none)) 57 2 (some 59)) 57 0 (some 3)) 60 (fun _ => none)) 58 0 (some 60)) 61 (fun _ => none)) 58 1 (some 61)) 62 (fun _ => none)) 58 2 (some 62)) 63 (fun _ => none)) 58 3 (some 63)) 64 (fun _ => none)) 58 4 (some 64)) 65 (fun _ => none)) 58 5 (some 65)) 66 (fun _ => none)) 58 6 (some 66)) 67 (fun _ => none)) 58 7 (some 67)) 68 (fun _ => none)) 58 8 (some 68)) 69 (fun _ => none)) 58 9 (some 69)) 70 (fun _ => none)) 58 10 (some 70)) 71 (fun _ => none)) 58 11 (some 71)) 72 (fun _ => none)) 58 12 (some 72)) 73 (fun _ => none)) 58 13 (some 73)) 74 (fun _ => none)) 58 14 (some 74)) 75 (fun _ => none)) 58 15 (some 75)) 76 (fun _ => none)) 58 16 (some 76)) 77 (fun _ => none)) 58 17 (some 77)) 78 (fun _ => none)) 58 18 (some 78)) 79 (fun _ => none)) 58 19 (some 79)) 80 (fun _ => none)) 58 20 (some 80)) 81 (fun _ => none)) 58 21 (some 81)) 82 (fun _ => none)) 58 22 (some 82)) 83 (fun _ => none)) 58 23 (some 83)) 3 1 = some 5 ∧ (u2 (va_up (u2 (va_up (u2 (va_up (u2 (va_up (u2 (va_up (u2 (va_up (u2 (va_up (u2 (va_up (u2 (va_up (u2 (va_up (u2 (va_up (u2 (va_up (u2 (va_up (u2 (va_up (u2 (va_up (u2 (va_up (u2 (va_up (u2 (va_up (u2 (va_up (u2 (va_up (u2 (va_up (u2 (va_up (u2 (va_up (u2 (va_up (u2 (u2 (va_up (u2 (va_up r 58 (fun _ => none)) 57 1 (some 58)) 59 (fun _ => none)) 57 2 (some 59)) 57 0 (some 3)) 60 (fun _ => none)) 58 0 (some 60)) 61 (fun _ => none)) 58 1 (some 61)) 62 (fun _ => none)) 58 2 (some 62)) 63 (fun _ => none)) 58 3 (some 63)) 64 (fun _ => none)) 58 4 (some 64)) 65 (fun _ => none)) 58 5 (some 65)) 66 (fun _ => none)) 58 6 (some 66)) 67 (fun _ => none)) 58 7 (some 67)) 68 (fun _ => none)) 58 8 (some 68)) 69 (fun _ => none)) 58 9 (some 69)) 70 (fun _ => none)) 58 10 (some 70)) 71 (fun _ => none)) 58 11 (some 71)) 72 (fun _ => none)) 58 12 (some 72)) 73 (fun _ => none)) 58 13 (some 73)) 74 (fun _ => none)) 58 14 (some 74)) 75 (fun _ => none)) 58 15 (some 75)) 76 (fun _ => none)) 58 16 (some 76)) 77 (fun _ => none)) 58 17 (some 77)) 78 (fun _ => none)) 58 18 (some 78)) 79 (fun _ => none)) 58 19 (some 79)) 80 (fun _ => none)) 58 20 (some 80)) 81 (fun _ => none)) 58 21 (some 81)) 82 (fun _ => none)) 58 22 (some 82)) 83 (fun _ => none)) 58 23 (some 83)) 3 2 = some 6 := hF
  refine wG_cV_wv [] [] C vw_X1_26 (c_X1_startAnew (xl X) (xE X) _ _ (by decide) hFK h_50 57 kd_57 (by decide) ⟨rfl, rfl, rfl⟩ (by decide)) kd_57 (by decide) (by decide) rfl rfl (Nat.le_of_ble_eq_true rfl) dX1_init_57 (cl' := 26) (sl' := 349) rfl rfl (fun u_52 => ?_)
  exact wG_vret C dX1_init_60 ⟨by decide, by decide⟩ (fun _ e => e)
theorem ck_X1_init_57 (l : Launch) (E : wE) (r : Rp) (h : Hp) (hF : r 3 0 = some 4 ∧ r 3 1 = some 5 ∧ r 3 2 = some 6) : ∀ z, fk_X1_init_57 h = some z → CT l E yX1_init cX1_init 3 none rmk_X1_init_57 [.ref (eB E + 57), .ref (eB E + 3)] 58 h r (none, 84, z, R_X1_init_57 r) := CT.of (φ := fun u => (none, 84, u, R_X1_init_57 r)) (by decide +kernel) (Nat.le_of_ble_eq_true rfl) (fun X _ e C => by subst e; exact wk_X1_init_57 C r h hF)
def rmk_X1_init_84 : Room := { frames := 4, cells := 26, slots := 349, locals := 92 }
def R_X1_init_84 (r : Rp) : Rp := (u2 (va_up (u2 (va_up (u2 (va_up (u2 (va_up (u2 (va_up (u2 (va_up (u2 (va_up (u2 (va_up (u2 (va_up (u2 (va_up (u2 (va_up (u2 (va_up (u2 (va_up (u2 (va_up (u2 (va_up (u2 (va_up (u2 (va_up (u2 (va_up (u2 (va_up (u2 (va_up (u2 (va_up (u2 (va_up (u2 (va_up (u2 (va_up (u2 (u2 (va_up (u2 (va_up r 85 (fun _ => none)) 84 1 (some 85)) 86 (fun _ => none)) 84 2 (some 86)) 84 0 (some 3)) 87 (fun _ => none)) 85 0 (some 87)) 88 (fun _ => none)) 85 1 (some 88)) 89 (fun _ => none)) 85 2 (some 89)) 90 (fun _ => none)) 85 3 (some 90)) 91 (fun _ => none)) 85 4 (some 91)) 92 (fun _ => none)) 85 5 (some 92)) 93 (fun _ => none)) 85 6 (some 93)) 94 (fun _ => none)) 85 7 (some 94)) 95 (fun _ => none)) 85 8 (some 95)) 96 (fun _ => none)) 85 9 (some 96)) 97 (fun _ => none)) 85 10 (some 97)) 98 (fun _ => none)) 85 11 (some 98)) 99 (fun _ => none)) 85 12 (some 99)) 100 (fun _ => none)) 85 13 (some 100)) 101 (fun _ => none)) 85 14 (some 101)) 102 (fun _ => none)) 85 15 (some 102)) 103 (fun _ => none)) 85 16 (some 103)) 104 (fun _ => none)) 85 17 (some 104)) 105 (fun _ => none)) 85 18 (some 105)) 106 (fun _ => none)) 85 19 (some 106)) 107 (fun _ => none)) 85 20 (some 107)) 108 (fun _ => none)) 85 21 (some 108)) 109 (fun _ => none)) 85 22 (some 109)) 110 (fun _ => none)) 85 23 (some 110))
def fk_X1_init_84 (h : Hp) : Option Hp :=
  if (24 : Int32) = nI 24 then vB (va_up h 85 (fun _ => 0)) fun h_1 =>
  vB (va_up h_1 86 (fun _ => 0)) fun h_2 =>
  (f_X7_init).bind fun u_3 =>
  vB (va_up h_2 87 (fun _ => 0)) fun h_4 =>
  (f_X7_init).bind fun u_5 =>
  if inB 0 24 then
  vB (va_up h_4 88 (fun _ => 0)) fun h_6 =>
  (f_X7_init).bind fun u_7 =>
  if inB 1 24 then
  vB (va_up h_6 89 (fun _ => 0)) fun h_8 =>
  (f_X7_init).bind fun u_9 =>
  if inB 2 24 then
  vB (va_up h_8 90 (fun _ => 0)) fun h_10 =>
  (f_X7_init).bind fun u_11 =>
  if inB 3 24 then
  vB (va_up h_10 91 (fun _ => 0)) fun h_12 =>
  (f_X7_init).bind fun u_13 =>
  if inB 4 24 then
  vB (va_up h_12 92 (fun _ => 0)) fun h_14 =>
  (f_X7_init).bind fun u_15 =>
  if inB 5 24 then
  vB (va_up h_14 93 (fun _ => 0)) fun h_16 =>
  (f_X7_init).bind fun u_17 =>
  if inB 6 24 then
  vB (va_up h_16 94 (fun _ => 0)) fun h_18 =>
  (f_X7_init).bind fun u_19 =>
  if inB 7 24 then
  vB (va_up h_18 95 (fun _ => 0)) fun h_20 =>
  (f_X7_init).bind fun u_21 =>
  if inB 8 24 then
  vB (va_up h_20 96 (fun _ => 0)) fun h_22 =>
  (f_X7_init).bind fun u_23 =>
  if inB 9 24 then
  vB (va_up h_22 97 (fun _ => 0)) fun h_24 =>
  (f_X7_init).bind fun u_25 =>
  if inB 10 24 then
  vB (va_up h_24 98 (fun _ => 0)) fun h_26 =>
  (f_X7_init).bind fun u_27 =>
  if inB 11 24 then
  vB (va_up h_26 99 (fun _ => 0)) fun h_28 =>
  (f_X7_init).bind fun u_29 =>
  if inB 12 24 then
  vB (va_up h_28 100 (fun _ => 0)) fun h_30 =>
  (f_X7_init).bind fun u_31 =>
  if inB 13 24 then
  vB (va_up h_30 101 (fun _ => 0)) fun h_32 =>
  (f_X7_init).bind fun u_33 =>
  if inB 14 24 then
  vB (va_up h_32 102 (fun _ => 0)) fun h_34 =>
  (f_X7_init).bind fun u_35 =>
  if inB 15 24 then
  vB (va_up h_34 103 (fun _ => 0)) fun h_36 =>
  (f_X7_init).bind fun u_37 =>
  if inB 16 24 then
  vB (va_up h_36 104 (fun _ => 0)) fun h_38 =>
  (f_X7_init).bind fun u_39 =>
  if inB 17 24 then
  vB (va_up h_38 105 (fun _ => 0)) fun h_40 =>
  (f_X7_init).bind fun u_41 =>
  if inB 18 24 then
  vB (va_up h_40 106 (fun _ => 0)) fun h_42 =>
  (f_X7_init).bind fun u_43 =>
  if inB 19 24 then
  vB (va_up h_42 107 (fun _ => 0)) fun h_44 =>
  (f_X7_init).bind fun u_45 =>
  if inB 20 24 then
  vB (va_up h_44 108 (fun _ => 0)) fun h_46 =>
  (f_X7_init).bind fun u_47 =>
  if inB 21 24 then
  vB (va_up h_46 109 (fun _ => 0)) fun h_48 =>
  (f_X7_init).bind fun u_49 =>
  if inB 22 24 then
  vB (va_up h_48 110 (fun _ => 0)) fun h_50 =>
  (f_X7_init).bind fun u_51 =>
  if inB 23 24 then
  (f_X1_startAnew h_50 84).bind fun u_52 =>
  some u_52 else none else none else none else none else none else none else none else none else none else none else none else none else none else none else none else none else none else none else none else none else none else none else none else none else none
set_option maxRecDepth 10000 in
theorem wk_X1_init_84 {X : wX} (C : Cx X yX1_init cX1_init 3 none rmk_X1_init_84) (r : Rp) (h : Hp) (hF : r 3 0 = some 4 ∧ r 3 1 = some 5 ∧ r 3 2 = some 6) : wG X 3 (eM X (fun u => (none, 111, u, R_X1_init_84 r))) (fk_X1_init_84 h) 85 h r 0 0 0 [(0, .ref (xB X + 84)), (1, .ref (xB X + 3))] [] := by
  refine wG_of (fk_X1_init_84.eq_1 ..) ?_
  refine wG_aload_n C dX1_init_0 0 rfl ?_
  refine wG_obj C bw_X1_3 ⟨by decide, Nat.le_of_ble_eq_true rfl⟩ dX1_init_1 ?_
  refine wG_aload_n C dX1_init_4 0 rfl ?_
  refine wG_bipush C dX1_init_5 (v := 24) (by decide) ?_
  refine wG_newrK C (Cn := RX7) m_138 C.sp.2.2.2.2.2 rfl (by decide) (by decide) kd_85 ln_85 (by decide) ⟨by decide, by decide⟩ dX1_init_7 (cl' := 1) (sl' := 24) rfl rfl (N' := 86) rfl (fun h_1 => ?_)
  refine wG_putRK C fl_X1_11_1 fr_1_1_X1 (fun _ => rfl) rfl kd_84 (by decide) (Or.inr ⟨_, rfl⟩) (by decide) dX1_init_10 ?_
  refine wG_aload_n C dX1_init_13 0 rfl ?_
  refine wG_newK C ow_X1_9 kd_86 (show nF 7 = 13 from rfl) ⟨by decide, by decide⟩ dX1_init_14 (cl' := 2) (sl' := 37) rfl rfl (N' := 87) rfl (fun h_2 => ?_)
  refine wG_dup C dX1_init_17 rfl ?_
  refine wG_cIN_rv [] [.ref (xB X + 86), .ref (xB X + 84)] C nw_X1_17 rfl (c_X7_init (xl X) (xE X) _ _ _ 86) (by decide) rfl rfl (Nat.le_of_ble_eq_true rfl) dX1_init_18 (cl' := 2) (sl' := 37) rfl rfl (fun u_3 => ?_)
  refine wG_putRK C fl_X1_18_1 fr_1_2_X1 (fun _ => rfl) rfl kd_84 (by decide) (Or.inl ⟨_, rfl⟩) (by decide) dX1_init_21 ?_
  refine wG_aload_n C dX1_init_24 0 rfl ?_
  refine wG_aload_n C dX1_init_25 1 rfl ?_
  refine wG_putRK C fl_X1_22_1 fr_1_0_X1 (fun _ => rfl) rfl kd_84 (by decide) (Or.inl ⟨_, rfl⟩) (by decide) dX1_init_26 ?_
  refine wG_iconst C dX1_init_29 (v := 0) (by decide) ?_
  refine wG_istore_n C (L' := [(0, .ref (xB X + 84)), (1, .ref (xB X + 3)), (2, .int 0)]) dX1_init_30 (by decide) [1, 2, 0] rfl ?_
  refine wG_iload_n C dX1_init_31 2 rfl ?_
  refine wG_bipush C dX1_init_32 (v := 24) (by decide) ?_
  refine wG_geF C (by decide) dX1_init_34 ?_
  refine wG_aload_n C dX1_init_37 0 rfl ?_
  refine wG_getR C (b := 85) fl_X1_11_1 rfl kd_84 (by decide) rfl dX1_init_38 ?_
  refine wG_iload_n C dX1_init_41 2 rfl ?_
  refine wG_newK C ow_X1_9 kd_87 (show nF 7 = 13 from rfl) ⟨by decide, by decide⟩ dX1_init_42 (cl' := 3) (sl' := 50) rfl rfl (N' := 88) rfl (fun h_4 => ?_)
  refine wG_dup C dX1_init_45 rfl ?_
  refine wG_cIN_rv [] [.ref (xB X + 87), .int 0, .ref (xB X + 85)] C nw_X1_17 rfl (c_X7_init (xl X) (xE X) _ _ _ 87) (by decide) rfl rfl (Nat.le_of_ble_eq_true rfl) dX1_init_46 (cl' := 3) (sl' := 50) rfl rfl (fun u_5 => ?_)
  refine wG_aastK C (q := (RX7, TX7, 13)) kd_85 (by decide) (by decide) rfl (by decide) ln_85 kd_87 (by decide) rfl (by decide) (by decide) (j := 0) rfl dX1_init_49 ?_
  refine wG_iincK C (v := 1) (w := 1) (L' := [(0, .ref (xB X + 84)), (1, .ref (xB X + 3)), (2, .int 1)]) dX1_init_50 2 rfl (by decide) (by decide) (by decide) [1, 2, 0] rfl ?_
  refine wG_goto C dX1_init_53 ?_
  refine wG_iload_n C dX1_init_31 2 rfl ?_
  refine wG_bipush C dX1_init_32 (v := 24) (by decide) ?_
  refine wG_geF C (by decide) dX1_init_34 ?_
  refine wG_aload_n C dX1_init_37 0 rfl ?_
  refine wG_getR C (b := 85) fl_X1_11_1 rfl kd_84 (by decide) rfl dX1_init_38 ?_
  refine wG_iload_n C dX1_init_41 2 rfl ?_
  refine wG_newK C ow_X1_9 kd_88 (show nF 7 = 13 from rfl) ⟨by decide, by decide⟩ dX1_init_42 (cl' := 4) (sl' := 63) rfl rfl (N' := 89) rfl (fun h_6 => ?_)
  refine wG_dup C dX1_init_45 rfl ?_
  refine wG_cIN_rv [] [.ref (xB X + 88), .int 1, .ref (xB X + 85)] C nw_X1_17 rfl (c_X7_init (xl X) (xE X) _ _ _ 88) (by decide) rfl rfl (Nat.le_of_ble_eq_true rfl) dX1_init_46 (cl' := 4) (sl' := 63) rfl rfl (fun u_7 => ?_)
  refine wG_aastK C (q := (RX7, TX7, 13)) kd_85 (by decide) (by decide) rfl (by decide) ln_85 kd_88 (by decide) rfl (by decide) (by decide) (j := 1) rfl dX1_init_49 ?_
  refine wG_iincK C (v := 1) (w := 2) (L' := [(0, .ref (xB X + 84)), (1, .ref (xB X + 3)), (2, .int 2)]) dX1_init_50 2 rfl (by decide) (by decide) (by decide) [1, 2, 0] rfl ?_
  refine wG_goto C dX1_init_53 ?_
  refine wG_iload_n C dX1_init_31 2 rfl ?_
  refine wG_bipush C dX1_init_32 (v := 24) (by decide) ?_
  refine wG_geF C (by decide) dX1_init_34 ?_
  refine wG_aload_n C dX1_init_37 0 rfl ?_
  refine wG_getR C (b := 85) fl_X1_11_1 rfl kd_84 (by decide) rfl dX1_init_38 ?_
  refine wG_iload_n C dX1_init_41 2 rfl ?_
  refine wG_newK C ow_X1_9 kd_89 (show nF 7 = 13 from rfl) ⟨by decide, by decide⟩ dX1_init_42 (cl' := 5) (sl' := 76) rfl rfl (N' := 90) rfl (fun h_8 => ?_)
  refine wG_dup C dX1_init_45 rfl ?_
  refine wG_cIN_rv [] [.ref (xB X + 89), .int 2, .ref (xB X + 85)] C nw_X1_17 rfl (c_X7_init (xl X) (xE X) _ _ _ 89) (by decide) rfl rfl (Nat.le_of_ble_eq_true rfl) dX1_init_46 (cl' := 5) (sl' := 76) rfl rfl (fun u_9 => ?_)
  refine wG_aastK C (q := (RX7, TX7, 13)) kd_85 (by decide) (by decide) rfl (by decide) ln_85 kd_89 (by decide) rfl (by decide) (by decide) (j := 2) rfl dX1_init_49 ?_
  refine wG_iincK C (v := 1) (w := 3) (L' := [(0, .ref (xB X + 84)), (1, .ref (xB X + 3)), (2, .int 3)]) dX1_init_50 2 rfl (by decide) (by decide) (by decide) [1, 2, 0] rfl ?_
  refine wG_goto C dX1_init_53 ?_
  refine wG_iload_n C dX1_init_31 2 rfl ?_
  refine wG_bipush C dX1_init_32 (v := 24) (by decide) ?_
  refine wG_geF C (by decide) dX1_init_34 ?_
  refine wG_aload_n C dX1_init_37 0 rfl ?_
  refine wG_getR C (b := 85) fl_X1_11_1 rfl kd_84 (by decide) rfl dX1_init_38 ?_
  refine wG_iload_n C dX1_init_41 2 rfl ?_
  refine wG_newK C ow_X1_9 kd_90 (show nF 7 = 13 from rfl) ⟨by decide, by decide⟩ dX1_init_42 (cl' := 6) (sl' := 89) rfl rfl (N' := 91) rfl (fun h_10 => ?_)
  refine wG_dup C dX1_init_45 rfl ?_
  refine wG_cIN_rv [] [.ref (xB X + 90), .int 3, .ref (xB X + 85)] C nw_X1_17 rfl (c_X7_init (xl X) (xE X) _ _ _ 90) (by decide) rfl rfl (Nat.le_of_ble_eq_true rfl) dX1_init_46 (cl' := 6) (sl' := 89) rfl rfl (fun u_11 => ?_)
  refine wG_aastK C (q := (RX7, TX7, 13)) kd_85 (by decide) (by decide) rfl (by decide) ln_85 kd_90 (by decide) rfl (by decide) (by decide) (j := 3) rfl dX1_init_49 ?_
  refine wG_iincK C (v := 1) (w := 4) (L' := [(0, .ref (xB X + 84)), (1, .ref (xB X + 3)), (2, .int 4)]) dX1_init_50 2 rfl (by decide) (by decide) (by decide) [1, 2, 0] rfl ?_
  refine wG_goto C dX1_init_53 ?_
  refine wG_iload_n C dX1_init_31 2 rfl ?_
  refine wG_bipush C dX1_init_32 (v := 24) (by decide) ?_
  refine wG_geF C (by decide) dX1_init_34 ?_
  refine wG_aload_n C dX1_init_37 0 rfl ?_
  refine wG_getR C (b := 85) fl_X1_11_1 rfl kd_84 (by decide) rfl dX1_init_38 ?_
  refine wG_iload_n C dX1_init_41 2 rfl ?_
  refine wG_newK C ow_X1_9 kd_91 (show nF 7 = 13 from rfl) ⟨by decide, by decide⟩ dX1_init_42 (cl' := 7) (sl' := 102) rfl rfl (N' := 92) rfl (fun h_12 => ?_)
  refine wG_dup C dX1_init_45 rfl ?_
  refine wG_cIN_rv [] [.ref (xB X + 91), .int 4, .ref (xB X + 85)] C nw_X1_17 rfl (c_X7_init (xl X) (xE X) _ _ _ 91) (by decide) rfl rfl (Nat.le_of_ble_eq_true rfl) dX1_init_46 (cl' := 7) (sl' := 102) rfl rfl (fun u_13 => ?_)
  refine wG_aastK C (q := (RX7, TX7, 13)) kd_85 (by decide) (by decide) rfl (by decide) ln_85 kd_91 (by decide) rfl (by decide) (by decide) (j := 4) rfl dX1_init_49 ?_
  refine wG_iincK C (v := 1) (w := 5) (L' := [(0, .ref (xB X + 84)), (1, .ref (xB X + 3)), (2, .int 5)]) dX1_init_50 2 rfl (by decide) (by decide) (by decide) [1, 2, 0] rfl ?_
  refine wG_goto C dX1_init_53 ?_
  refine wG_iload_n C dX1_init_31 2 rfl ?_
  refine wG_bipush C dX1_init_32 (v := 24) (by decide) ?_
  refine wG_geF C (by decide) dX1_init_34 ?_
  refine wG_aload_n C dX1_init_37 0 rfl ?_
  refine wG_getR C (b := 85) fl_X1_11_1 rfl kd_84 (by decide) rfl dX1_init_38 ?_
  refine wG_iload_n C dX1_init_41 2 rfl ?_
  refine wG_newK C ow_X1_9 kd_92 (show nF 7 = 13 from rfl) ⟨by decide, by decide⟩ dX1_init_42 (cl' := 8) (sl' := 115) rfl rfl (N' := 93) rfl (fun h_14 => ?_)
  refine wG_dup C dX1_init_45 rfl ?_
  refine wG_cIN_rv [] [.ref (xB X + 92), .int 5, .ref (xB X + 85)] C nw_X1_17 rfl (c_X7_init (xl X) (xE X) _ _ _ 92) (by decide) rfl rfl (Nat.le_of_ble_eq_true rfl) dX1_init_46 (cl' := 8) (sl' := 115) rfl rfl (fun u_15 => ?_)
  refine wG_aastK C (q := (RX7, TX7, 13)) kd_85 (by decide) (by decide) rfl (by decide) ln_85 kd_92 (by decide) rfl (by decide) (by decide) (j := 5) rfl dX1_init_49 ?_
  refine wG_iincK C (v := 1) (w := 6) (L' := [(0, .ref (xB X + 84)), (1, .ref (xB X + 3)), (2, .int 6)]) dX1_init_50 2 rfl (by decide) (by decide) (by decide) [1, 2, 0] rfl ?_
  refine wG_goto C dX1_init_53 ?_
  refine wG_iload_n C dX1_init_31 2 rfl ?_
  refine wG_bipush C dX1_init_32 (v := 24) (by decide) ?_
  refine wG_geF C (by decide) dX1_init_34 ?_
  refine wG_aload_n C dX1_init_37 0 rfl ?_
  refine wG_getR C (b := 85) fl_X1_11_1 rfl kd_84 (by decide) rfl dX1_init_38 ?_
  refine wG_iload_n C dX1_init_41 2 rfl ?_
  refine wG_newK C ow_X1_9 kd_93 (show nF 7 = 13 from rfl) ⟨by decide, by decide⟩ dX1_init_42 (cl' := 9) (sl' := 128) rfl rfl (N' := 94) rfl (fun h_16 => ?_)
  refine wG_dup C dX1_init_45 rfl ?_
  refine wG_cIN_rv [] [.ref (xB X + 93), .int 6, .ref (xB X + 85)] C nw_X1_17 rfl (c_X7_init (xl X) (xE X) _ _ _ 93) (by decide) rfl rfl (Nat.le_of_ble_eq_true rfl) dX1_init_46 (cl' := 9) (sl' := 128) rfl rfl (fun u_17 => ?_)
  refine wG_aastK C (q := (RX7, TX7, 13)) kd_85 (by decide) (by decide) rfl (by decide) ln_85 kd_93 (by decide) rfl (by decide) (by decide) (j := 6) rfl dX1_init_49 ?_
  refine wG_iincK C (v := 1) (w := 7) (L' := [(0, .ref (xB X + 84)), (1, .ref (xB X + 3)), (2, .int 7)]) dX1_init_50 2 rfl (by decide) (by decide) (by decide) [1, 2, 0] rfl ?_
  refine wG_goto C dX1_init_53 ?_
  refine wG_iload_n C dX1_init_31 2 rfl ?_
  refine wG_bipush C dX1_init_32 (v := 24) (by decide) ?_
  refine wG_geF C (by decide) dX1_init_34 ?_
  refine wG_aload_n C dX1_init_37 0 rfl ?_
  refine wG_getR C (b := 85) fl_X1_11_1 rfl kd_84 (by decide) rfl dX1_init_38 ?_
  refine wG_iload_n C dX1_init_41 2 rfl ?_
  refine wG_newK C ow_X1_9 kd_94 (show nF 7 = 13 from rfl) ⟨by decide, by decide⟩ dX1_init_42 (cl' := 10) (sl' := 141) rfl rfl (N' := 95) rfl (fun h_18 => ?_)
  refine wG_dup C dX1_init_45 rfl ?_
  refine wG_cIN_rv [] [.ref (xB X + 94), .int 7, .ref (xB X + 85)] C nw_X1_17 rfl (c_X7_init (xl X) (xE X) _ _ _ 94) (by decide) rfl rfl (Nat.le_of_ble_eq_true rfl) dX1_init_46 (cl' := 10) (sl' := 141) rfl rfl (fun u_19 => ?_)
  refine wG_aastK C (q := (RX7, TX7, 13)) kd_85 (by decide) (by decide) rfl (by decide) ln_85 kd_94 (by decide) rfl (by decide) (by decide) (j := 7) rfl dX1_init_49 ?_
  refine wG_iincK C (v := 1) (w := 8) (L' := [(0, .ref (xB X + 84)), (1, .ref (xB X + 3)), (2, .int 8)]) dX1_init_50 2 rfl (by decide) (by decide) (by decide) [1, 2, 0] rfl ?_
  refine wG_goto C dX1_init_53 ?_
  refine wG_iload_n C dX1_init_31 2 rfl ?_
  refine wG_bipush C dX1_init_32 (v := 24) (by decide) ?_
  refine wG_geF C (by decide) dX1_init_34 ?_
  refine wG_aload_n C dX1_init_37 0 rfl ?_
  refine wG_getR C (b := 85) fl_X1_11_1 rfl kd_84 (by decide) rfl dX1_init_38 ?_
  refine wG_iload_n C dX1_init_41 2 rfl ?_
  refine wG_newK C ow_X1_9 kd_95 (show nF 7 = 13 from rfl) ⟨by decide, by decide⟩ dX1_init_42 (cl' := 11) (sl' := 154) rfl rfl (N' := 96) rfl (fun h_20 => ?_)
  refine wG_dup C dX1_init_45 rfl ?_
  refine wG_cIN_rv [] [.ref (xB X + 95), .int 8, .ref (xB X + 85)] C nw_X1_17 rfl (c_X7_init (xl X) (xE X) _ _ _ 95) (by decide) rfl rfl (Nat.le_of_ble_eq_true rfl) dX1_init_46 (cl' := 11) (sl' := 154) rfl rfl (fun u_21 => ?_)
  refine wG_aastK C (q := (RX7, TX7, 13)) kd_85 (by decide) (by decide) rfl (by decide) ln_85 kd_95 (by decide) rfl (by decide) (by decide) (j := 8) rfl dX1_init_49 ?_
  refine wG_iincK C (v := 1) (w := 9) (L' := [(0, .ref (xB X + 84)), (1, .ref (xB X + 3)), (2, .int 9)]) dX1_init_50 2 rfl (by decide) (by decide) (by decide) [1, 2, 0] rfl ?_
  refine wG_goto C dX1_init_53 ?_
  refine wG_iload_n C dX1_init_31 2 rfl ?_
  refine wG_bipush C dX1_init_32 (v := 24) (by decide) ?_
  refine wG_geF C (by decide) dX1_init_34 ?_
  refine wG_aload_n C dX1_init_37 0 rfl ?_
  refine wG_getR C (b := 85) fl_X1_11_1 rfl kd_84 (by decide) rfl dX1_init_38 ?_
  refine wG_iload_n C dX1_init_41 2 rfl ?_
  refine wG_newK C ow_X1_9 kd_96 (show nF 7 = 13 from rfl) ⟨by decide, by decide⟩ dX1_init_42 (cl' := 12) (sl' := 167) rfl rfl (N' := 97) rfl (fun h_22 => ?_)
  refine wG_dup C dX1_init_45 rfl ?_
  refine wG_cIN_rv [] [.ref (xB X + 96), .int 9, .ref (xB X + 85)] C nw_X1_17 rfl (c_X7_init (xl X) (xE X) _ _ _ 96) (by decide) rfl rfl (Nat.le_of_ble_eq_true rfl) dX1_init_46 (cl' := 12) (sl' := 167) rfl rfl (fun u_23 => ?_)
  refine wG_aastK C (q := (RX7, TX7, 13)) kd_85 (by decide) (by decide) rfl (by decide) ln_85 kd_96 (by decide) rfl (by decide) (by decide) (j := 9) rfl dX1_init_49 ?_
  refine wG_iincK C (v := 1) (w := 10) (L' := [(0, .ref (xB X + 84)), (1, .ref (xB X + 3)), (2, .int 10)]) dX1_init_50 2 rfl (by decide) (by decide) (by decide) [1, 2, 0] rfl ?_
  refine wG_goto C dX1_init_53 ?_
  refine wG_iload_n C dX1_init_31 2 rfl ?_
  refine wG_bipush C dX1_init_32 (v := 24) (by decide) ?_
  refine wG_geF C (by decide) dX1_init_34 ?_
  refine wG_aload_n C dX1_init_37 0 rfl ?_
  refine wG_getR C (b := 85) fl_X1_11_1 rfl kd_84 (by decide) rfl dX1_init_38 ?_
  refine wG_iload_n C dX1_init_41 2 rfl ?_
  refine wG_newK C ow_X1_9 kd_97 (show nF 7 = 13 from rfl) ⟨by decide, by decide⟩ dX1_init_42 (cl' := 13) (sl' := 180) rfl rfl (N' := 98) rfl (fun h_24 => ?_)
  refine wG_dup C dX1_init_45 rfl ?_
  refine wG_cIN_rv [] [.ref (xB X + 97), .int 10, .ref (xB X + 85)] C nw_X1_17 rfl (c_X7_init (xl X) (xE X) _ _ _ 97) (by decide) rfl rfl (Nat.le_of_ble_eq_true rfl) dX1_init_46 (cl' := 13) (sl' := 180) rfl rfl (fun u_25 => ?_)
  refine wG_aastK C (q := (RX7, TX7, 13)) kd_85 (by decide) (by decide) rfl (by decide) ln_85 kd_97 (by decide) rfl (by decide) (by decide) (j := 10) rfl dX1_init_49 ?_
  refine wG_iincK C (v := 1) (w := 11) (L' := [(0, .ref (xB X + 84)), (1, .ref (xB X + 3)), (2, .int 11)]) dX1_init_50 2 rfl (by decide) (by decide) (by decide) [1, 2, 0] rfl ?_
  refine wG_goto C dX1_init_53 ?_
  refine wG_iload_n C dX1_init_31 2 rfl ?_
  refine wG_bipush C dX1_init_32 (v := 24) (by decide) ?_
  refine wG_geF C (by decide) dX1_init_34 ?_
  refine wG_aload_n C dX1_init_37 0 rfl ?_
  refine wG_getR C (b := 85) fl_X1_11_1 rfl kd_84 (by decide) rfl dX1_init_38 ?_
  refine wG_iload_n C dX1_init_41 2 rfl ?_
  refine wG_newK C ow_X1_9 kd_98 (show nF 7 = 13 from rfl) ⟨by decide, by decide⟩ dX1_init_42 (cl' := 14) (sl' := 193) rfl rfl (N' := 99) rfl (fun h_26 => ?_)
  refine wG_dup C dX1_init_45 rfl ?_
  refine wG_cIN_rv [] [.ref (xB X + 98), .int 11, .ref (xB X + 85)] C nw_X1_17 rfl (c_X7_init (xl X) (xE X) _ _ _ 98) (by decide) rfl rfl (Nat.le_of_ble_eq_true rfl) dX1_init_46 (cl' := 14) (sl' := 193) rfl rfl (fun u_27 => ?_)
  refine wG_aastK C (q := (RX7, TX7, 13)) kd_85 (by decide) (by decide) rfl (by decide) ln_85 kd_98 (by decide) rfl (by decide) (by decide) (j := 11) rfl dX1_init_49 ?_
  refine wG_iincK C (v := 1) (w := 12) (L' := [(0, .ref (xB X + 84)), (1, .ref (xB X + 3)), (2, .int 12)]) dX1_init_50 2 rfl (by decide) (by decide) (by decide) [1, 2, 0] rfl ?_
  refine wG_goto C dX1_init_53 ?_
  refine wG_iload_n C dX1_init_31 2 rfl ?_
  refine wG_bipush C dX1_init_32 (v := 24) (by decide) ?_
  refine wG_geF C (by decide) dX1_init_34 ?_
  refine wG_aload_n C dX1_init_37 0 rfl ?_
  refine wG_getR C (b := 85) fl_X1_11_1 rfl kd_84 (by decide) rfl dX1_init_38 ?_
  refine wG_iload_n C dX1_init_41 2 rfl ?_
  refine wG_newK C ow_X1_9 kd_99 (show nF 7 = 13 from rfl) ⟨by decide, by decide⟩ dX1_init_42 (cl' := 15) (sl' := 206) rfl rfl (N' := 100) rfl (fun h_28 => ?_)
  refine wG_dup C dX1_init_45 rfl ?_
  refine wG_cIN_rv [] [.ref (xB X + 99), .int 12, .ref (xB X + 85)] C nw_X1_17 rfl (c_X7_init (xl X) (xE X) _ _ _ 99) (by decide) rfl rfl (Nat.le_of_ble_eq_true rfl) dX1_init_46 (cl' := 15) (sl' := 206) rfl rfl (fun u_29 => ?_)
  refine wG_aastK C (q := (RX7, TX7, 13)) kd_85 (by decide) (by decide) rfl (by decide) ln_85 kd_99 (by decide) rfl (by decide) (by decide) (j := 12) rfl dX1_init_49 ?_
  refine wG_iincK C (v := 1) (w := 13) (L' := [(0, .ref (xB X + 84)), (1, .ref (xB X + 3)), (2, .int 13)]) dX1_init_50 2 rfl (by decide) (by decide) (by decide) [1, 2, 0] rfl ?_
  refine wG_goto C dX1_init_53 ?_
  refine wG_iload_n C dX1_init_31 2 rfl ?_
  refine wG_bipush C dX1_init_32 (v := 24) (by decide) ?_
  refine wG_geF C (by decide) dX1_init_34 ?_
  refine wG_aload_n C dX1_init_37 0 rfl ?_
  refine wG_getR C (b := 85) fl_X1_11_1 rfl kd_84 (by decide) rfl dX1_init_38 ?_
  refine wG_iload_n C dX1_init_41 2 rfl ?_
  refine wG_newK C ow_X1_9 kd_100 (show nF 7 = 13 from rfl) ⟨by decide, by decide⟩ dX1_init_42 (cl' := 16) (sl' := 219) rfl rfl (N' := 101) rfl (fun h_30 => ?_)
  refine wG_dup C dX1_init_45 rfl ?_
  refine wG_cIN_rv [] [.ref (xB X + 100), .int 13, .ref (xB X + 85)] C nw_X1_17 rfl (c_X7_init (xl X) (xE X) _ _ _ 100) (by decide) rfl rfl (Nat.le_of_ble_eq_true rfl) dX1_init_46 (cl' := 16) (sl' := 219) rfl rfl (fun u_31 => ?_)
  refine wG_aastK C (q := (RX7, TX7, 13)) kd_85 (by decide) (by decide) rfl (by decide) ln_85 kd_100 (by decide) rfl (by decide) (by decide) (j := 13) rfl dX1_init_49 ?_
  refine wG_iincK C (v := 1) (w := 14) (L' := [(0, .ref (xB X + 84)), (1, .ref (xB X + 3)), (2, .int 14)]) dX1_init_50 2 rfl (by decide) (by decide) (by decide) [1, 2, 0] rfl ?_
  refine wG_goto C dX1_init_53 ?_
  refine wG_iload_n C dX1_init_31 2 rfl ?_
  refine wG_bipush C dX1_init_32 (v := 24) (by decide) ?_
  refine wG_geF C (by decide) dX1_init_34 ?_
  refine wG_aload_n C dX1_init_37 0 rfl ?_
  refine wG_getR C (b := 85) fl_X1_11_1 rfl kd_84 (by decide) rfl dX1_init_38 ?_
  refine wG_iload_n C dX1_init_41 2 rfl ?_
  refine wG_newK C ow_X1_9 kd_101 (show nF 7 = 13 from rfl) ⟨by decide, by decide⟩ dX1_init_42 (cl' := 17) (sl' := 232) rfl rfl (N' := 102) rfl (fun h_32 => ?_)
  refine wG_dup C dX1_init_45 rfl ?_
  refine wG_cIN_rv [] [.ref (xB X + 101), .int 14, .ref (xB X + 85)] C nw_X1_17 rfl (c_X7_init (xl X) (xE X) _ _ _ 101) (by decide) rfl rfl (Nat.le_of_ble_eq_true rfl) dX1_init_46 (cl' := 17) (sl' := 232) rfl rfl (fun u_33 => ?_)
  refine wG_aastK C (q := (RX7, TX7, 13)) kd_85 (by decide) (by decide) rfl (by decide) ln_85 kd_101 (by decide) rfl (by decide) (by decide) (j := 14) rfl dX1_init_49 ?_
  refine wG_iincK C (v := 1) (w := 15) (L' := [(0, .ref (xB X + 84)), (1, .ref (xB X + 3)), (2, .int 15)]) dX1_init_50 2 rfl (by decide) (by decide) (by decide) [1, 2, 0] rfl ?_
  refine wG_goto C dX1_init_53 ?_
  refine wG_iload_n C dX1_init_31 2 rfl ?_
  refine wG_bipush C dX1_init_32 (v := 24) (by decide) ?_
  refine wG_geF C (by decide) dX1_init_34 ?_
  refine wG_aload_n C dX1_init_37 0 rfl ?_
  refine wG_getR C (b := 85) fl_X1_11_1 rfl kd_84 (by decide) rfl dX1_init_38 ?_
  refine wG_iload_n C dX1_init_41 2 rfl ?_
  refine wG_newK C ow_X1_9 kd_102 (show nF 7 = 13 from rfl) ⟨by decide, by decide⟩ dX1_init_42 (cl' := 18) (sl' := 245) rfl rfl (N' := 103) rfl (fun h_34 => ?_)
  refine wG_dup C dX1_init_45 rfl ?_
  refine wG_cIN_rv [] [.ref (xB X + 102), .int 15, .ref (xB X + 85)] C nw_X1_17 rfl (c_X7_init (xl X) (xE X) _ _ _ 102) (by decide) rfl rfl (Nat.le_of_ble_eq_true rfl) dX1_init_46 (cl' := 18) (sl' := 245) rfl rfl (fun u_35 => ?_)
  refine wG_aastK C (q := (RX7, TX7, 13)) kd_85 (by decide) (by decide) rfl (by decide) ln_85 kd_102 (by decide) rfl (by decide) (by decide) (j := 15) rfl dX1_init_49 ?_
  refine wG_iincK C (v := 1) (w := 16) (L' := [(0, .ref (xB X + 84)), (1, .ref (xB X + 3)), (2, .int 16)]) dX1_init_50 2 rfl (by decide) (by decide) (by decide) [1, 2, 0] rfl ?_
  refine wG_goto C dX1_init_53 ?_
  refine wG_iload_n C dX1_init_31 2 rfl ?_
  refine wG_bipush C dX1_init_32 (v := 24) (by decide) ?_
  refine wG_geF C (by decide) dX1_init_34 ?_
  refine wG_aload_n C dX1_init_37 0 rfl ?_
  refine wG_getR C (b := 85) fl_X1_11_1 rfl kd_84 (by decide) rfl dX1_init_38 ?_
  refine wG_iload_n C dX1_init_41 2 rfl ?_
  refine wG_newK C ow_X1_9 kd_103 (show nF 7 = 13 from rfl) ⟨by decide, by decide⟩ dX1_init_42 (cl' := 19) (sl' := 258) rfl rfl (N' := 104) rfl (fun h_36 => ?_)
  refine wG_dup C dX1_init_45 rfl ?_
  refine wG_cIN_rv [] [.ref (xB X + 103), .int 16, .ref (xB X + 85)] C nw_X1_17 rfl (c_X7_init (xl X) (xE X) _ _ _ 103) (by decide) rfl rfl (Nat.le_of_ble_eq_true rfl) dX1_init_46 (cl' := 19) (sl' := 258) rfl rfl (fun u_37 => ?_)
  refine wG_aastK C (q := (RX7, TX7, 13)) kd_85 (by decide) (by decide) rfl (by decide) ln_85 kd_103 (by decide) rfl (by decide) (by decide) (j := 16) rfl dX1_init_49 ?_
  refine wG_iincK C (v := 1) (w := 17) (L' := [(0, .ref (xB X + 84)), (1, .ref (xB X + 3)), (2, .int 17)]) dX1_init_50 2 rfl (by decide) (by decide) (by decide) [1, 2, 0] rfl ?_
  refine wG_goto C dX1_init_53 ?_
  refine wG_iload_n C dX1_init_31 2 rfl ?_
  refine wG_bipush C dX1_init_32 (v := 24) (by decide) ?_
  refine wG_geF C (by decide) dX1_init_34 ?_
  refine wG_aload_n C dX1_init_37 0 rfl ?_
  refine wG_getR C (b := 85) fl_X1_11_1 rfl kd_84 (by decide) rfl dX1_init_38 ?_
  refine wG_iload_n C dX1_init_41 2 rfl ?_
  refine wG_newK C ow_X1_9 kd_104 (show nF 7 = 13 from rfl) ⟨by decide, by decide⟩ dX1_init_42 (cl' := 20) (sl' := 271) rfl rfl (N' := 105) rfl (fun h_38 => ?_)
  refine wG_dup C dX1_init_45 rfl ?_
  refine wG_cIN_rv [] [.ref (xB X + 104), .int 17, .ref (xB X + 85)] C nw_X1_17 rfl (c_X7_init (xl X) (xE X) _ _ _ 104) (by decide) rfl rfl (Nat.le_of_ble_eq_true rfl) dX1_init_46 (cl' := 20) (sl' := 271) rfl rfl (fun u_39 => ?_)
  refine wG_aastK C (q := (RX7, TX7, 13)) kd_85 (by decide) (by decide) rfl (by decide) ln_85 kd_104 (by decide) rfl (by decide) (by decide) (j := 17) rfl dX1_init_49 ?_
  refine wG_iincK C (v := 1) (w := 18) (L' := [(0, .ref (xB X + 84)), (1, .ref (xB X + 3)), (2, .int 18)]) dX1_init_50 2 rfl (by decide) (by decide) (by decide) [1, 2, 0] rfl ?_
  refine wG_goto C dX1_init_53 ?_
  refine wG_iload_n C dX1_init_31 2 rfl ?_
  refine wG_bipush C dX1_init_32 (v := 24) (by decide) ?_
  refine wG_geF C (by decide) dX1_init_34 ?_
  refine wG_aload_n C dX1_init_37 0 rfl ?_
  refine wG_getR C (b := 85) fl_X1_11_1 rfl kd_84 (by decide) rfl dX1_init_38 ?_
  refine wG_iload_n C dX1_init_41 2 rfl ?_
  refine wG_newK C ow_X1_9 kd_105 (show nF 7 = 13 from rfl) ⟨by decide, by decide⟩ dX1_init_42 (cl' := 21) (sl' := 284) rfl rfl (N' := 106) rfl (fun h_40 => ?_)
  refine wG_dup C dX1_init_45 rfl ?_
  refine wG_cIN_rv [] [.ref (xB X + 105), .int 18, .ref (xB X + 85)] C nw_X1_17 rfl (c_X7_init (xl X) (xE X) _ _ _ 105) (by decide) rfl rfl (Nat.le_of_ble_eq_true rfl) dX1_init_46 (cl' := 21) (sl' := 284) rfl rfl (fun u_41 => ?_)
  refine wG_aastK C (q := (RX7, TX7, 13)) kd_85 (by decide) (by decide) rfl (by decide) ln_85 kd_105 (by decide) rfl (by decide) (by decide) (j := 18) rfl dX1_init_49 ?_
  refine wG_iincK C (v := 1) (w := 19) (L' := [(0, .ref (xB X + 84)), (1, .ref (xB X + 3)), (2, .int 19)]) dX1_init_50 2 rfl (by decide) (by decide) (by decide) [1, 2, 0] rfl ?_
  refine wG_goto C dX1_init_53 ?_
  refine wG_iload_n C dX1_init_31 2 rfl ?_
  refine wG_bipush C dX1_init_32 (v := 24) (by decide) ?_
  refine wG_geF C (by decide) dX1_init_34 ?_
  refine wG_aload_n C dX1_init_37 0 rfl ?_
  refine wG_getR C (b := 85) fl_X1_11_1 rfl kd_84 (by decide) rfl dX1_init_38 ?_
  refine wG_iload_n C dX1_init_41 2 rfl ?_
  refine wG_newK C ow_X1_9 kd_106 (show nF 7 = 13 from rfl) ⟨by decide, by decide⟩ dX1_init_42 (cl' := 22) (sl' := 297) rfl rfl (N' := 107) rfl (fun h_42 => ?_)
  refine wG_dup C dX1_init_45 rfl ?_
  refine wG_cIN_rv [] [.ref (xB X + 106), .int 19, .ref (xB X + 85)] C nw_X1_17 rfl (c_X7_init (xl X) (xE X) _ _ _ 106) (by decide) rfl rfl (Nat.le_of_ble_eq_true rfl) dX1_init_46 (cl' := 22) (sl' := 297) rfl rfl (fun u_43 => ?_)
  refine wG_aastK C (q := (RX7, TX7, 13)) kd_85 (by decide) (by decide) rfl (by decide) ln_85 kd_106 (by decide) rfl (by decide) (by decide) (j := 19) rfl dX1_init_49 ?_
  refine wG_iincK C (v := 1) (w := 20) (L' := [(0, .ref (xB X + 84)), (1, .ref (xB X + 3)), (2, .int 20)]) dX1_init_50 2 rfl (by decide) (by decide) (by decide) [1, 2, 0] rfl ?_
  refine wG_goto C dX1_init_53 ?_
  refine wG_iload_n C dX1_init_31 2 rfl ?_
  refine wG_bipush C dX1_init_32 (v := 24) (by decide) ?_
  refine wG_geF C (by decide) dX1_init_34 ?_
  refine wG_aload_n C dX1_init_37 0 rfl ?_
  refine wG_getR C (b := 85) fl_X1_11_1 rfl kd_84 (by decide) rfl dX1_init_38 ?_
  refine wG_iload_n C dX1_init_41 2 rfl ?_
  refine wG_newK C ow_X1_9 kd_107 (show nF 7 = 13 from rfl) ⟨by decide, by decide⟩ dX1_init_42 (cl' := 23) (sl' := 310) rfl rfl (N' := 108) rfl (fun h_44 => ?_)
  refine wG_dup C dX1_init_45 rfl ?_
  refine wG_cIN_rv [] [.ref (xB X + 107), .int 20, .ref (xB X + 85)] C nw_X1_17 rfl (c_X7_init (xl X) (xE X) _ _ _ 107) (by decide) rfl rfl (Nat.le_of_ble_eq_true rfl) dX1_init_46 (cl' := 23) (sl' := 310) rfl rfl (fun u_45 => ?_)
  refine wG_aastK C (q := (RX7, TX7, 13)) kd_85 (by decide) (by decide) rfl (by decide) ln_85 kd_107 (by decide) rfl (by decide) (by decide) (j := 20) rfl dX1_init_49 ?_
  refine wG_iincK C (v := 1) (w := 21) (L' := [(0, .ref (xB X + 84)), (1, .ref (xB X + 3)), (2, .int 21)]) dX1_init_50 2 rfl (by decide) (by decide) (by decide) [1, 2, 0] rfl ?_
  refine wG_goto C dX1_init_53 ?_
  refine wG_iload_n C dX1_init_31 2 rfl ?_
  refine wG_bipush C dX1_init_32 (v := 24) (by decide) ?_
  refine wG_geF C (by decide) dX1_init_34 ?_
  refine wG_aload_n C dX1_init_37 0 rfl ?_
  refine wG_getR C (b := 85) fl_X1_11_1 rfl kd_84 (by decide) rfl dX1_init_38 ?_
  refine wG_iload_n C dX1_init_41 2 rfl ?_
  refine wG_newK C ow_X1_9 kd_108 (show nF 7 = 13 from rfl) ⟨by decide, by decide⟩ dX1_init_42 (cl' := 24) (sl' := 323) rfl rfl (N' := 109) rfl (fun h_46 => ?_)
  refine wG_dup C dX1_init_45 rfl ?_
  refine wG_cIN_rv [] [.ref (xB X + 108), .int 21, .ref (xB X + 85)] C nw_X1_17 rfl (c_X7_init (xl X) (xE X) _ _ _ 108) (by decide) rfl rfl (Nat.le_of_ble_eq_true rfl) dX1_init_46 (cl' := 24) (sl' := 323) rfl rfl (fun u_47 => ?_)
  refine wG_aastK C (q := (RX7, TX7, 13)) kd_85 (by decide) (by decide) rfl (by decide) ln_85 kd_108 (by decide) rfl (by decide) (by decide) (j := 21) rfl dX1_init_49 ?_
  refine wG_iincK C (v := 1) (w := 22) (L' := [(0, .ref (xB X + 84)), (1, .ref (xB X + 3)), (2, .int 22)]) dX1_init_50 2 rfl (by decide) (by decide) (by decide) [1, 2, 0] rfl ?_
  refine wG_goto C dX1_init_53 ?_
  refine wG_iload_n C dX1_init_31 2 rfl ?_
  refine wG_bipush C dX1_init_32 (v := 24) (by decide) ?_
  refine wG_geF C (by decide) dX1_init_34 ?_
  refine wG_aload_n C dX1_init_37 0 rfl ?_
  refine wG_getR C (b := 85) fl_X1_11_1 rfl kd_84 (by decide) rfl dX1_init_38 ?_
  refine wG_iload_n C dX1_init_41 2 rfl ?_
  refine wG_newK C ow_X1_9 kd_109 (show nF 7 = 13 from rfl) ⟨by decide, by decide⟩ dX1_init_42 (cl' := 25) (sl' := 336) rfl rfl (N' := 110) rfl (fun h_48 => ?_)
  refine wG_dup C dX1_init_45 rfl ?_
  refine wG_cIN_rv [] [.ref (xB X + 109), .int 22, .ref (xB X + 85)] C nw_X1_17 rfl (c_X7_init (xl X) (xE X) _ _ _ 109) (by decide) rfl rfl (Nat.le_of_ble_eq_true rfl) dX1_init_46 (cl' := 25) (sl' := 336) rfl rfl (fun u_49 => ?_)
  refine wG_aastK C (q := (RX7, TX7, 13)) kd_85 (by decide) (by decide) rfl (by decide) ln_85 kd_109 (by decide) rfl (by decide) (by decide) (j := 22) rfl dX1_init_49 ?_
  refine wG_iincK C (v := 1) (w := 23) (L' := [(0, .ref (xB X + 84)), (1, .ref (xB X + 3)), (2, .int 23)]) dX1_init_50 2 rfl (by decide) (by decide) (by decide) [1, 2, 0] rfl ?_
  refine wG_goto C dX1_init_53 ?_
  refine wG_iload_n C dX1_init_31 2 rfl ?_
  refine wG_bipush C dX1_init_32 (v := 24) (by decide) ?_
  refine wG_geF C (by decide) dX1_init_34 ?_
  refine wG_aload_n C dX1_init_37 0 rfl ?_
  refine wG_getR C (b := 85) fl_X1_11_1 rfl kd_84 (by decide) rfl dX1_init_38 ?_
  refine wG_iload_n C dX1_init_41 2 rfl ?_
  refine wG_newK C ow_X1_9 kd_110 (show nF 7 = 13 from rfl) ⟨by decide, by decide⟩ dX1_init_42 (cl' := 26) (sl' := 349) rfl rfl (N' := 111) rfl (fun h_50 => ?_)
  refine wG_dup C dX1_init_45 rfl ?_
  refine wG_cIN_rv [] [.ref (xB X + 110), .int 23, .ref (xB X + 85)] C nw_X1_17 rfl (c_X7_init (xl X) (xE X) _ _ _ 110) (by decide) rfl rfl (Nat.le_of_ble_eq_true rfl) dX1_init_46 (cl' := 26) (sl' := 349) rfl rfl (fun u_51 => ?_)
  refine wG_aastK C (q := (RX7, TX7, 13)) kd_85 (by decide) (by decide) rfl (by decide) ln_85 kd_110 (by decide) rfl (by decide) (by decide) (j := 23) rfl dX1_init_49 ?_
  refine wG_iincK C (v := 1) (w := 24) (L' := [(0, .ref (xB X + 84)), (1, .ref (xB X + 3)), (2, .int 24)]) dX1_init_50 2 rfl (by decide) (by decide) (by decide) [1, 2, 0] rfl ?_
  refine wG_goto C dX1_init_53 ?_
  refine wG_iload_n C dX1_init_31 2 rfl ?_
  refine wG_bipush C dX1_init_32 (v := 24) (by decide) ?_
  refine wG_geT C (by decide) dX1_init_34 ?_
  refine wG_aload_n C dX1_init_56 0 rfl ?_
  have hFK : (u2 (va_up (u2 (va_up (u2 (va_up (u2 (va_up (u2 (va_up (u2 (va_up (u2 (va_up (u2 (va_up (u2 (va_up (u2 (va_up (u2 (va_up (u2 (va_up (u2 (va_up (u2 (va_up (u2 (va_up (u2 (va_up (u2 (va_up (u2 (va_up (u2 (va_up (u2 (va_up (u2 (va_up (u2 (va_up (u2 (va_up (u2 (va_up (u2 (u2 (va_up (u2 (va_up r 85 (fun _ => none)) 84 1 (some 85)) 86 (fun _ => none)) 84 2 (some 86)) 84 0 (some 3)) 87 (fun _ => none)) 85 0 (some 87)) 88 (fun _ => none)) 85 1 (some 88)) 89 (fun _ => none)) 85 2 (some 89)) 90 (fun _ => none)) 85 3 (some 90)) 91 (fun _ => none)) 85 4 (some 91)) 92 (fun _ => none)) 85 5 (some 92)) 93 (fun _ => none)) 85 6 (some 93)) 94 (fun _ => none)) 85 7 (some 94)) 95 (fun _ => none)) 85 8 (some 95)) 96 (fun _ => none)) 85 9 (some 96)) 97 (fun _ => none)) 85 10 (some 97)) 98 (fun _ => none)) 85 11 (some 98)) 99 (fun _ => none)) 85 12 (some 99)) 100 (fun _ => none)) 85 13 (some 100)) 101 (fun _ => none)) 85 14 (some 101)) 102 (fun _ => none)) 85 15 (some 102)) 103 (fun _ => none)) 85 16 (some 103)) 104 (fun _ => none)) 85 17 (some 104)) 105 (fun _ => none)) 85 18 (some 105)) 106 (fun _ => none)) 85 19 (some 106)) 107 (fun _ => none)) 85 20 (some 107)) 108 (fun _ => none)) 85 21 (some 108)) 109 (fun _ => none)) 85 22 (some 109)) 110 (fun _ => none)) 85 23 (some 110)) 3 0 = some 4 ∧ (u2 (va_up (u2 (va_up (u2 (va_up (u2 (va_up (u2 (va_up (u2 (va_up (u2 (va_up (u2 (va_up (u2 (va_up (u2 (va_up (u2 (va_up (u2 (va_up (u2 (va_up (u2 (va_up (u2 (va_up (u2 (va_up (u2 (va_up (u2 (va_up (u2 (va_up (u2 (va_up (u2 (va_up (u2 (va_up (u2 (va_up (u2 (va_up (u2 (u2 (va_up (u2 (va_up r 85 (fun _ => none)) 84 1 (some 85)) 86 (fun _ => none)) 84 2 (some 86)) 84 0 (some 3)) 87 (fun _ => none)) 85 0 (some 87)) 88 (fun _ => none)) 85 1 (some 88)) 89 (fun _ => none)) 85 2 (some 89)) 90 (fun _ => none)) 85 3 (some 90)) 91 (fun _ => none)) 85 4 (some 91)) 92 (fun _ => none)) 85 5 (some 92)) 93 (fun _ => none)) 85 6 (some 93)) 94 (fun _ => none)) 85 7 (some 94)) 95 (fun _ => none)) 85 8 (some 95)) 96 (fun _ => none)) 85 9 (some 96)) 97 (fun _ => none)) 85 10 (some 97)) 98 (fun _ => none)) 85 11 (some 98)) 99 (fun _ => none)) 85 12 (some 99)) 100 (fun _ => none)) 85 13 (some 100)) 101 (fun _ => none)) 85 14 (some 101)) 102 (fun _ => none)) 85 15 (some 102)) 103 (fun _ => none)) 85 16 (some 103)) 104 (fun _ => none)) 85 17 (some 104)) 105 (fun _ => none)) 85 18 (some 105)) 106 (fun _ => none)) 85 19 (some 106)) 107 (fun _ => none)) 85 20 (some 107)) 108 (fun _ => none)) 85 21 (some 108)) 109 (fun _ => none)) 85 22 (some 109)) 110 (fun _ => none)) 85 23 (some 110)) 3 1 = some 5 ∧ (u2 (va_up (u2 (va_up (u2 (va_up (u2 (va_up (u2 (va_up (u2 (va_up (u2 (va_up (u2 (va_up (u2 (va_up (u2 (va_up (u2 (va_up (u2 (va_up (u2 (va_up (u2 (va_up (u2 (va_up (u2 (va_up (u2 (va_up (u2 (va_up (u2 (va_up (u2 (va_up (u2 (va_up (u2 (va_up (u2 (va_up (u2 (va_up (u2 (u2 (va_up (u2 (va_up r 85 (fun _ => none)) 84 1 (some 85)) 86 (fun _ => none)) 84 2 (some 86)) 84 0 (some 3)) 87 (fun _ => none)) 85 0 (some 87)) 88 (fun _ => none)) 85 1 (some 88)) 89 (fun _ => none)) 85 2 (some 89)) 90 (fun _ => none)) 85 3 (some 90)) 91 (fun _ => none)) 85 4 (some 91)) 92 (fun _ => none)) 85 5 (some 92)) 93 (fun _ => none)) 85 6 (some 93)) 94 (fun _ => none)) 85 7 (some 94)) 95 (fun _ => none)) 85 8 (some 95)) 96 (fun _ => none)) 85 9 (some 96)) 97 (fun _ => none)) 85 10 (some 97)) 98 (fun _ => none)) 85 11 (some 98)) 99 (fun _ => none)) 85 12 (some 99)) 100 (fun _ => none)) 85 13 (some 100)) 101 (fun _ => none)) 85 14 (some 101)) 102 (fun _ => none)) 85 15 (some 102)) 103 (fun _ => none)) 85 16 (some 103)) 104 (fun _ => none)) 85 17 (some 104)) 105 (fun _ => none)) 85 18 (some 105)) 106 (fun _ => none)) 85 19 (some 106)) 107 (fun _ => none)) 85 20 (some 107)) 108 (fun _ => none)) 85 21 (some 108)) 109 (fun _ => none)) 85 22 (some 109)) 110 (fun _ => none)) 85 23 (some 110)) 3 2 = some 6 := hF
  refine wG_cV_wv [] [] C vw_X1_26 (c_X1_startAnew (xl X) (xE X) _ _ (by decide) hFK h_50 84 kd_84 (by decide) ⟨rfl, rfl, rfl⟩ (by decide)) kd_84 (by decide) (by decide) rfl rfl (Nat.le_of_ble_eq_true rfl) dX1_init_57 (cl' := 26) (sl' := 349) rfl rfl (fun u_52 => ?_)
  exact wG_vret C dX1_init_60 ⟨by decide, by decide⟩ (fun _ e => e)
theorem ck_X1_init_84 (l : Launch) (E : wE) (r : Rp) (h : Hp) (hF : r 3 0 = some 4 ∧ r 3 1 = some 5 ∧ r 3 2 = some 6) : ∀ z, fk_X1_init_84 h = some z → CT l E yX1_init cX1_init 3 none rmk_X1_init_84 [.ref (eB E + 84), .ref (eB E + 3)] 85 h r (none, 111, z, R_X1_init_84 r) := CT.of (φ := fun u => (none, 111, u, R_X1_init_84 r)) (by decide +kernel) (Nat.le_of_ble_eq_true rfl) (fun X _ e C => by subst e; exact wk_X1_init_84 C r h hF)
def rmk_X11_init_0 : Room := { frames := 5, cells := 110, slots := 9386, locals := 114 }
def R_X11_init_0 (r : Rp) : Rp := (u2 (R_X1_init_84 (va_up (u2 (R_X1_init_57 (va_up (u2 (R_X2_init_53 (va_up (u2 (R_X5_init_47 (va_up (u2 (R_X3_init_45 (va_up (u2 (R_X6_init_41 (va_up (u2 (R_X9_init_35 (va_up (u2 (va_up (u2 (R_X1_init_7 (va_up (u2 (R_X4_init_3 (va_up (u2 (R_X10_init_1 (va_up r 1 (fun _ => none))) 0 0 (some 1)) 3 (fun _ => none))) 0 1 (some 3)) 7 (fun _ => none))) 0 2 (some 7)) 34 (fun _ => none)) 0 3 (some 34)) 35 (fun _ => none))) 0 4 (some 35)) 41 (fun _ => none))) 0 5 (some 41)) 45 (fun _ => none))) 0 6 (some 45)) 47 (fun _ => none))) 0 7 (some 47)) 53 (fun _ => none))) 0 8 (some 53)) 57 (fun _ => none))) 34 0 (some 57)) 84 (fun _ => none))) 34 1 (some 84))
def fk_X11_init_0 (h : Hp) : Option Hp :=
  vB (va_up h 1 (fun _ => 0)) fun h_1 =>
  (fk_X10_init_1 h_1).bind fun u_2 =>
  vB (va_up u_2 3 (fun _ => 0)) fun h_3 =>
  (fk_X4_init_3 h_3).bind fun u_4 =>
  vB (va_up u_4 7 (fun _ => 0)) fun h_5 =>
  (fk_X1_init_7 h_5).bind fun u_6 =>
  if (2 : Int32) = nI 2 then vB (va_up u_6 34 (fun _ => 0)) fun h_7 =>
  vB (va_up h_7 35 (fun _ => 0)) fun h_8 =>
  (fk_X9_init_35 h_8).bind fun u_9 =>
  vB (va_up u_9 41 (fun _ => 0)) fun h_10 =>
  (fk_X6_init_41 h_10).bind fun u_11 =>
  vB (va_up u_11 45 (fun _ => 0)) fun h_12 =>
  (fk_X3_init_45 h_12).bind fun u_13 =>
  vB (va_up u_13 47 (fun _ => 0)) fun h_14 =>
  (fk_X5_init_47 h_14).bind fun u_15 =>
  vB (va_up u_15 53 (fun _ => 0)) fun h_16 =>
  (fk_X2_init_53 h_16).bind fun u_17 =>
  vB (u2 u_17 0 9 3) fun h_18 =>
  vB (u2 h_18 0 10 1) fun h_19 =>
  vB (va_up h_19 57 (fun _ => 0)) fun h_20 =>
  (fk_X1_init_57 h_20).bind fun u_21 =>
  if inB 0 2 then
  vB (va_up u_21 84 (fun _ => 0)) fun h_22 =>
  (fk_X1_init_84 h_22).bind fun u_23 =>
  if inB 1 2 then
  some u_23 else none else none else none
set_option maxRecDepth 10000 in
theorem wk_X11_init_0 {X : wX} (C : Cx X yX11_init cX11_init 2 none rmk_X11_init_0) (r : Rp) (h : Hp) : wG X 2 (eM X (fun u => (none, 111, u, R_X11_init_0 r))) (fk_X11_init_0 h) 1 h r 0 0 0 [(0, .ref (xB X + 0))] [] := by
  refine wG_of (fk_X11_init_0.eq_1 ..) ?_
  refine wG_aload_n C dX11_init_0 0 rfl ?_
  refine wG_obj C bw_X11_3 ⟨by decide, Nat.le_of_ble_eq_true rfl⟩ dX11_init_1 ?_
  refine wG_aload_n C dX11_init_4 0 rfl ?_
  refine wG_newK C ow_X11_9 kd_1 (show nF 10 = 2 from rfl) ⟨by decide, by decide⟩ dX11_init_5 (cl' := 1) (sl' := 2) rfl rfl (N' := 2) rfl (fun h_1 => ?_)
  refine wG_dup C dX11_init_8 rfl ?_
  refine wG_cIN_kv 3 (R_X10_init_1 (va_up r 1 (fun _ => none))) [] [.ref (xB X + 1), .ref (xB X + 0)] C nw_X11_11 rfl (ck_X10_init_1 (xl X) (xE X) (va_up r 1 (fun _ => none)) h_1) (by decide) rfl rfl (Nat.le_of_ble_eq_true rfl) dX11_init_9 (cl' := 2) (sl' := 50) rfl rfl (fun u_2 => ?_)
  refine wG_putRK C fl_X11_12_11 fr_11_0_X11 (fun _ => rfl) rfl kd_0 (by decide) (Or.inl ⟨_, rfl⟩) (by decide) dX11_init_12 ?_
  refine wG_aload_n C dX11_init_15 0 rfl ?_
  refine wG_newK C ow_X11_16 kd_3 (show nF 4 = 7 from rfl) ⟨by decide, by decide⟩ dX11_init_16 (cl' := 3) (sl' := 57) rfl rfl (N' := 4) rfl (fun h_3 => ?_)
  refine wG_dup C dX11_init_19 rfl ?_
  refine wG_cI_kv 7 (R_X4_init_3 (va_up (u2 (R_X10_init_1 (va_up r 1 (fun _ => none))) 0 0 (some 1)) 3 (fun _ => none))) [] [.ref (xB X + 3), .ref (xB X + 0)] C iw_X11_18 (ck_X4_init_3 (xl X) (xE X) (va_up (u2 (R_X10_init_1 (va_up r 1 (fun _ => none))) 0 0 (some 1)) 3 (fun _ => none)) h_3) (by decide) rfl rfl (Nat.le_of_ble_eq_true rfl) dX11_init_20 (cl' := 6) (sl' := 191) rfl rfl (fun u_4 => ?_)
  refine wG_putRK C fl_X11_19_11 fr_11_1_X11 (fun _ => rfl) rfl kd_0 (by decide) (Or.inl ⟨_, rfl⟩) (by decide) dX11_init_23 ?_
  refine wG_aload_n C dX11_init_26 0 rfl ?_
  refine wG_newK C ow_X11_23 kd_7 (show nF 1 = 6 from rfl) ⟨by decide, by decide⟩ dX11_init_27 (cl' := 7) (sl' := 197) rfl rfl (N' := 8) rfl (fun h_5 => ?_)
  refine wG_dup C dX11_init_30 rfl ?_
  refine wG_aload_n C dX11_init_31 0 rfl ?_
  refine wG_getR C (b := 3) fl_X11_19_11 rfl kd_0 (by decide) rfl dX11_init_32 ?_
  refine wG_cI_kv 34 (R_X1_init_7 (va_up (u2 (R_X4_init_3 (va_up (u2 (R_X10_init_1 (va_up r 1 (fun _ => none))) 0 0 (some 1)) 3 (fun _ => none))) 0 1 (some 3)) 7 (fun _ => none))) [.ref (xB X + 3)] [.ref (xB X + 7), .ref (xB X + 0)] C iw_X11_25 (ck_X1_init_7 (xl X) (xE X) (va_up (u2 (R_X4_init_3 (va_up (u2 (R_X10_init_1 (va_up r 1 (fun _ => none))) 0 0 (some 1)) 3 (fun _ => none))) 0 1 (some 3)) 7 (fun _ => none)) h_5 ⟨rfl, rfl, rfl⟩) (by decide) rfl rfl (Nat.le_of_ble_eq_true rfl) dX11_init_35 (cl' := 33) (sl' := 546) rfl rfl (fun u_6 => ?_)
  refine wG_putRK C fl_X11_28_11 fr_11_2_X11 (fun _ => rfl) rfl kd_0 (by decide) (Or.inl ⟨_, rfl⟩) (by decide) dX11_init_38 ?_
  refine wG_aload_n C dX11_init_41 0 rfl ?_
  refine wG_iconst C dX11_init_42 (v := 2) (by decide) ?_
  refine wG_newrK C (Cn := RX1) m_132 C.sp.2.2.2.2.1 rfl (by decide) (by decide) kd_34 ln_34 (by decide) ⟨by decide, by decide⟩ dX11_init_43 (cl' := 34) (sl' := 548) rfl rfl (N' := 35) rfl (fun h_7 => ?_)
  refine wG_putRK C fl_X11_32_11 fr_11_3_X11 (fun _ => rfl) rfl kd_0 (by decide) (Or.inr ⟨_, rfl⟩) (by decide) dX11_init_46 ?_
  refine wG_aload_n C dX11_init_49 0 rfl ?_
  refine wG_newK C ow_X11_36 kd_35 (show nF 9 = 9 from rfl) ⟨by decide, by decide⟩ dX11_init_50 (cl' := 35) (sl' := 557) rfl rfl (N' := 36) rfl (fun h_8 => ?_)
  refine wG_dup C dX11_init_53 rfl ?_
  refine wG_aload_n C dX11_init_54 0 rfl ?_
  refine wG_getR C (b := 3) fl_X11_19_11 rfl kd_0 (by decide) rfl dX11_init_55 ?_
  refine wG_aload_n C dX11_init_58 0 rfl ?_
  refine wG_getR C (b := 7) fl_X11_28_11 rfl kd_0 (by decide) rfl dX11_init_59 ?_
  refine wG_cI_kv 41 (R_X9_init_35 (va_up (u2 (va_up (u2 (R_X1_init_7 (va_up (u2 (R_X4_init_3 (va_up (u2 (R_X10_init_1 (va_up r 1 (fun _ => none))) 0 0 (some 1)) 3 (fun _ => none))) 0 1 (some 3)) 7 (fun _ => none))) 0 2 (some 7)) 34 (fun _ => none)) 0 3 (some 34)) 35 (fun _ => none))) [.ref (xB X + 3), .ref (xB X + 7)] [.ref (xB X + 35), .ref (xB X + 0)] C iw_X11_38 (ck_X9_init_35 (xl X) (xE X) (va_up (u2 (va_up (u2 (R_X1_init_7 (va_up (u2 (R_X4_init_3 (va_up (u2 (R_X10_init_1 (va_up r 1 (fun _ => none))) 0 0 (some 1)) 3 (fun _ => none))) 0 1 (some 3)) 7 (fun _ => none))) 0 2 (some 7)) 34 (fun _ => none)) 0 3 (some 34)) 35 (fun _ => none)) h_8) (by decide) rfl rfl (Nat.le_of_ble_eq_true rfl) dX11_init_62 (cl' := 40) (sl' := 633) rfl rfl (fun u_9 => ?_)
  refine wG_putRK C fl_X11_41_11 fr_11_4_X11 (fun _ => rfl) rfl kd_0 (by decide) (Or.inl ⟨_, rfl⟩) (by decide) dX11_init_65 ?_
  refine wG_aload_n C dX11_init_68 0 rfl ?_
  refine wG_newK C ow_X11_45 kd_41 (show nF 6 = 7 from rfl) ⟨by decide, by decide⟩ dX11_init_69 (cl' := 41) (sl' := 640) rfl rfl (N' := 42) rfl (fun h_10 => ?_)
  refine wG_dup C dX11_init_72 rfl ?_
  refine wG_aload_n C dX11_init_73 0 rfl ?_
  refine wG_getR C (b := 3) fl_X11_19_11 rfl kd_0 (by decide) rfl dX11_init_74 ?_
  refine wG_cI_kv 45 (R_X6_init_41 (va_up (u2 (R_X9_init_35 (va_up (u2 (va_up (u2 (R_X1_init_7 (va_up (u2 (R_X4_init_3 (va_up (u2 (R_X10_init_1 (va_up r 1 (fun _ => none))) 0 0 (some 1)) 3 (fun _ => none))) 0 1 (some 3)) 7 (fun _ => none))) 0 2 (some 7)) 34 (fun _ => none)) 0 3 (some 34)) 35 (fun _ => none))) 0 4 (some 35)) 41 (fun _ => none))) [.ref (xB X + 3)] [.ref (xB X + 41), .ref (xB X + 0)] C iw_X11_47 (ck_X6_init_41 (xl X) (xE X) (va_up (u2 (R_X9_init_35 (va_up (u2 (va_up (u2 (R_X1_init_7 (va_up (u2 (R_X4_init_3 (va_up (u2 (R_X10_init_1 (va_up r 1 (fun _ => none))) 0 0 (some 1)) 3 (fun _ => none))) 0 1 (some 3)) 7 (fun _ => none))) 0 2 (some 7)) 34 (fun _ => none)) 0 3 (some 34)) 35 (fun _ => none))) 0 4 (some 35)) 41 (fun _ => none)) h_10) (by decide) rfl rfl (Nat.le_of_ble_eq_true rfl) dX11_init_77 (cl' := 44) (sl' := 7716) rfl rfl (fun u_11 => ?_)
  refine wG_putRK C fl_X11_48_11 fr_11_5_X11 (fun _ => rfl) rfl kd_0 (by decide) (Or.inl ⟨_, rfl⟩) (by decide) dX11_init_80 ?_
  refine wG_aload_n C dX11_init_83 0 rfl ?_
  refine wG_newK C ow_X11_52 kd_45 (show nF 3 = 5 from rfl) ⟨by decide, by decide⟩ dX11_init_84 (cl' := 45) (sl' := 7721) rfl rfl (N' := 46) rfl (fun h_12 => ?_)
  refine wG_dup C dX11_init_87 rfl ?_
  refine wG_aload_n C dX11_init_88 0 rfl ?_
  refine wG_getR C (b := 3) fl_X11_19_11 rfl kd_0 (by decide) rfl dX11_init_89 ?_
  refine wG_cI_kv 47 (R_X3_init_45 (va_up (u2 (R_X6_init_41 (va_up (u2 (R_X9_init_35 (va_up (u2 (va_up (u2 (R_X1_init_7 (va_up (u2 (R_X4_init_3 (va_up (u2 (R_X10_init_1 (va_up r 1 (fun _ => none))) 0 0 (some 1)) 3 (fun _ => none))) 0 1 (some 3)) 7 (fun _ => none))) 0 2 (some 7)) 34 (fun _ => none)) 0 3 (some 34)) 35 (fun _ => none))) 0 4 (some 35)) 41 (fun _ => none))) 0 5 (some 41)) 45 (fun _ => none))) [.ref (xB X + 3)] [.ref (xB X + 45), .ref (xB X + 0)] C iw_X11_54 (ck_X3_init_45 (xl X) (xE X) (va_up (u2 (R_X6_init_41 (va_up (u2 (R_X9_init_35 (va_up (u2 (va_up (u2 (R_X1_init_7 (va_up (u2 (R_X4_init_3 (va_up (u2 (R_X10_init_1 (va_up r 1 (fun _ => none))) 0 0 (some 1)) 3 (fun _ => none))) 0 1 (some 3)) 7 (fun _ => none))) 0 2 (some 7)) 34 (fun _ => none)) 0 3 (some 34)) 35 (fun _ => none))) 0 4 (some 35)) 41 (fun _ => none))) 0 5 (some 41)) 45 (fun _ => none)) h_12) (by decide) rfl rfl (Nat.le_of_ble_eq_true rfl) dX11_init_92 (cl' := 46) (sl' := 8162) rfl rfl (fun u_13 => ?_)
  refine wG_putRK C fl_X11_55_11 fr_11_6_X11 (fun _ => rfl) rfl kd_0 (by decide) (Or.inl ⟨_, rfl⟩) (by decide) dX11_init_95 ?_
  refine wG_aload_n C dX11_init_98 0 rfl ?_
  refine wG_newK C ow_X11_59 kd_47 (show nF 5 = 9 from rfl) ⟨by decide, by decide⟩ dX11_init_99 (cl' := 47) (sl' := 8171) rfl rfl (N' := 48) rfl (fun h_14 => ?_)
  refine wG_dup C dX11_init_102 rfl ?_
  refine wG_aload_n C dX11_init_103 0 rfl ?_
  refine wG_getR C (b := 3) fl_X11_19_11 rfl kd_0 (by decide) rfl dX11_init_104 ?_
  refine wG_cI_kv 53 (R_X5_init_47 (va_up (u2 (R_X3_init_45 (va_up (u2 (R_X6_init_41 (va_up (u2 (R_X9_init_35 (va_up (u2 (va_up (u2 (R_X1_init_7 (va_up (u2 (R_X4_init_3 (va_up (u2 (R_X10_init_1 (va_up r 1 (fun _ => none))) 0 0 (some 1)) 3 (fun _ => none))) 0 1 (some 3)) 7 (fun _ => none))) 0 2 (some 7)) 34 (fun _ => none)) 0 3 (some 34)) 35 (fun _ => none))) 0 4 (some 35)) 41 (fun _ => none))) 0 5 (some 41)) 45 (fun _ => none))) 0 6 (some 45)) 47 (fun _ => none))) [.ref (xB X + 3)] [.ref (xB X + 47), .ref (xB X + 0)] C iw_X11_61 (ck_X5_init_47 (xl X) (xE X) (va_up (u2 (R_X3_init_45 (va_up (u2 (R_X6_init_41 (va_up (u2 (R_X9_init_35 (va_up (u2 (va_up (u2 (R_X1_init_7 (va_up (u2 (R_X4_init_3 (va_up (u2 (R_X10_init_1 (va_up r 1 (fun _ => none))) 0 0 (some 1)) 3 (fun _ => none))) 0 1 (some 3)) 7 (fun _ => none))) 0 2 (some 7)) 34 (fun _ => none)) 0 3 (some 34)) 35 (fun _ => none))) 0 4 (some 35)) 41 (fun _ => none))) 0 5 (some 41)) 45 (fun _ => none))) 0 6 (some 45)) 47 (fun _ => none)) h_14) (by decide) rfl rfl (Nat.le_of_ble_eq_true rfl) dX11_init_107 (cl' := 52) (sl' := 8636) rfl rfl (fun u_15 => ?_)
  refine wG_putRK C fl_X11_62_11 fr_11_7_X11 (fun _ => rfl) rfl kd_0 (by decide) (Or.inl ⟨_, rfl⟩) (by decide) dX11_init_110 ?_
  refine wG_aload_n C dX11_init_113 0 rfl ?_
  refine wG_newK C ow_X11_66 kd_53 (show nF 2 = 4 from rfl) ⟨by decide, by decide⟩ dX11_init_114 (cl' := 53) (sl' := 8640) rfl rfl (N' := 54) rfl (fun h_16 => ?_)
  refine wG_dup C dX11_init_117 rfl ?_
  refine wG_cIN_kv 57 (R_X2_init_53 (va_up (u2 (R_X5_init_47 (va_up (u2 (R_X3_init_45 (va_up (u2 (R_X6_init_41 (va_up (u2 (R_X9_init_35 (va_up (u2 (va_up (u2 (R_X1_init_7 (va_up (u2 (R_X4_init_3 (va_up (u2 (R_X10_init_1 (va_up r 1 (fun _ => none))) 0 0 (some 1)) 3 (fun _ => none))) 0 1 (some 3)) 7 (fun _ => none))) 0 2 (some 7)) 34 (fun _ => none)) 0 3 (some 34)) 35 (fun _ => none))) 0 4 (some 35)) 41 (fun _ => none))) 0 5 (some 41)) 45 (fun _ => none))) 0 6 (some 45)) 47 (fun _ => none))) 0 7 (some 47)) 53 (fun _ => none))) [] [.ref (xB X + 53), .ref (xB X + 0)] C nw_X11_68 rfl (ck_X2_init_53 (xl X) (xE X) (va_up (u2 (R_X5_init_47 (va_up (u2 (R_X3_init_45 (va_up (u2 (R_X6_init_41 (va_up (u2 (R_X9_init_35 (va_up (u2 (va_up (u2 (R_X1_init_7 (va_up (u2 (R_X4_init_3 (va_up (u2 (R_X10_init_1 (va_up r 1 (fun _ => none))) 0 0 (some 1)) 3 (fun _ => none))) 0 1 (some 3)) 7 (fun _ => none))) 0 2 (some 7)) 34 (fun _ => none)) 0 3 (some 34)) 35 (fun _ => none))) 0 4 (some 35)) 41 (fun _ => none))) 0 5 (some 41)) 45 (fun _ => none))) 0 6 (some 45)) 47 (fun _ => none))) 0 7 (some 47)) 53 (fun _ => none)) h_16) (by decide) rfl rfl (Nat.le_of_ble_eq_true rfl) dX11_init_118 (cl' := 56) (sl' := 8676) rfl rfl (fun u_17 => ?_)
  refine wG_putRK C fl_X11_69_11 fr_11_8_X11 (fun _ => rfl) rfl kd_0 (by decide) (Or.inl ⟨_, rfl⟩) (by decide) dX11_init_121 ?_
  refine wG_aload_n C dX11_init_124 0 rfl ?_
  refine wG_iconst C dX11_init_125 (v := 3) (by decide) ?_
  refine wG_putI C fl_X11_73_11 (fp_11_9 _) (fun _ => rfl) rfl kd_0 (by decide) dX11_init_126 (fun h_18 => ?_)
  refine wG_aload_n C dX11_init_129 0 rfl ?_
  refine wG_iconst C dX11_init_130 (v := 1) (by decide) ?_
  refine wG_putI C fl_X11_77_11 (fp_11_10 _) (fun _ => rfl) rfl kd_0 (by decide) dX11_init_131 (fun h_19 => ?_)
  refine wG_iconst C dX11_init_134 (v := 0) (by decide) ?_
  refine wG_istore_n C (L' := [(0, .ref (xB X + 0)), (1, .int 0)]) dX11_init_135 (by decide) [1, 0] rfl ?_
  refine wG_iload_n C dX11_init_136 1 rfl ?_
  refine wG_iconst C dX11_init_137 (v := 2) (by decide) ?_
  refine wG_geF C (by decide) dX11_init_138 ?_
  refine wG_aload_n C dX11_init_141 0 rfl ?_
  refine wG_getR C (b := 34) fl_X11_32_11 rfl kd_0 (by decide) rfl dX11_init_142 ?_
  refine wG_iload_n C dX11_init_145 1 rfl ?_
  refine wG_newK C ow_X11_23 kd_57 (show nF 1 = 6 from rfl) ⟨by decide, by decide⟩ dX11_init_146 (cl' := 57) (sl' := 8682) rfl rfl (N' := 58) rfl (fun h_20 => ?_)
  refine wG_dup C dX11_init_149 rfl ?_
  refine wG_aload_n C dX11_init_150 0 rfl ?_
  refine wG_getR C (b := 3) fl_X11_19_11 rfl kd_0 (by decide) rfl dX11_init_151 ?_
  refine wG_cI_kv 84 (R_X1_init_57 (va_up (u2 (R_X2_init_53 (va_up (u2 (R_X5_init_47 (va_up (u2 (R_X3_init_45 (va_up (u2 (R_X6_init_41 (va_up (u2 (R_X9_init_35 (va_up (u2 (va_up (u2 (R_X1_init_7 (va_up (u2 (R_X4_init_3 (va_up (u2 (R_X10_init_1 (va_up r 1 (fun _ => none))) 0 0 (some 1)) 3 (fun _ => none))) 0 1 (some 3)) 7 (fun _ => none))) 0 2 (some 7)) 34 (fun _ => none)) 0 3 (some 34)) 35 (fun _ => none))) 0 4 (some 35)) 41 (fun _ => none))) 0 5 (some 41)) 45 (fun _ => none))) 0 6 (some 45)) 47 (fun _ => none))) 0 7 (some 47)) 53 (fun _ => none))) 0 8 (some 53)) 57 (fun _ => none))) [.ref (xB X + 3)] [.ref (xB X + 57), .int 0, .ref (xB X + 34)] C iw_X11_25 (ck_X1_init_57 (xl X) (xE X) (va_up (u2 (R_X2_init_53 (va_up (u2 (R_X5_init_47 (va_up (u2 (R_X3_init_45 (va_up (u2 (R_X6_init_41 (va_up (u2 (R_X9_init_35 (va_up (u2 (va_up (u2 (R_X1_init_7 (va_up (u2 (R_X4_init_3 (va_up (u2 (R_X10_init_1 (va_up r 1 (fun _ => none))) 0 0 (some 1)) 3 (fun _ => none))) 0 1 (some 3)) 7 (fun _ => none))) 0 2 (some 7)) 34 (fun _ => none)) 0 3 (some 34)) 35 (fun _ => none))) 0 4 (some 35)) 41 (fun _ => none))) 0 5 (some 41)) 45 (fun _ => none))) 0 6 (some 45)) 47 (fun _ => none))) 0 7 (some 47)) 53 (fun _ => none))) 0 8 (some 53)) 57 (fun _ => none)) h_20 ⟨rfl, rfl, rfl⟩) (by decide) rfl rfl (Nat.le_of_ble_eq_true rfl) dX11_init_154 (cl' := 83) (sl' := 9031) rfl rfl (fun u_21 => ?_)
  refine wG_aastK C (q := (RX1, TX1, 6)) kd_34 (by decide) (by decide) rfl (by decide) ln_34 kd_57 (by decide) rfl (by decide) (by decide) (j := 0) rfl dX11_init_157 ?_
  refine wG_iincK C (v := 1) (w := 1) (L' := [(0, .ref (xB X + 0)), (1, .int 1)]) dX11_init_158 1 rfl (by decide) (by decide) (by decide) [1, 0] rfl ?_
  refine wG_goto C dX11_init_161 ?_
  refine wG_iload_n C dX11_init_136 1 rfl ?_
  refine wG_iconst C dX11_init_137 (v := 2) (by decide) ?_
  refine wG_geF C (by decide) dX11_init_138 ?_
  refine wG_aload_n C dX11_init_141 0 rfl ?_
  refine wG_getR C (b := 34) fl_X11_32_11 rfl kd_0 (by decide) rfl dX11_init_142 ?_
  refine wG_iload_n C dX11_init_145 1 rfl ?_
  refine wG_newK C ow_X11_23 kd_84 (show nF 1 = 6 from rfl) ⟨by decide, by decide⟩ dX11_init_146 (cl' := 84) (sl' := 9037) rfl rfl (N' := 85) rfl (fun h_22 => ?_)
  refine wG_dup C dX11_init_149 rfl ?_
  refine wG_aload_n C dX11_init_150 0 rfl ?_
  refine wG_getR C (b := 3) fl_X11_19_11 rfl kd_0 (by decide) rfl dX11_init_151 ?_
  refine wG_cI_kv 111 (R_X1_init_84 (va_up (u2 (R_X1_init_57 (va_up (u2 (R_X2_init_53 (va_up (u2 (R_X5_init_47 (va_up (u2 (R_X3_init_45 (va_up (u2 (R_X6_init_41 (va_up (u2 (R_X9_init_35 (va_up (u2 (va_up (u2 (R_X1_init_7 (va_up (u2 (R_X4_init_3 (va_up (u2 (R_X10_init_1 (va_up r 1 (fun _ => none))) 0 0 (some 1)) 3 (fun _ => none))) 0 1 (some 3)) 7 (fun _ => none))) 0 2 (some 7)) 34 (fun _ => none)) 0 3 (some 34)) 35 (fun _ => none))) 0 4 (some 35)) 41 (fun _ => none))) 0 5 (some 41)) 45 (fun _ => none))) 0 6 (some 45)) 47 (fun _ => none))) 0 7 (some 47)) 53 (fun _ => none))) 0 8 (some 53)) 57 (fun _ => none))) 34 0 (some 57)) 84 (fun _ => none))) [.ref (xB X + 3)] [.ref (xB X + 84), .int 1, .ref (xB X + 34)] C iw_X11_25 (ck_X1_init_84 (xl X) (xE X) (va_up (u2 (R_X1_init_57 (va_up (u2 (R_X2_init_53 (va_up (u2 (R_X5_init_47 (va_up (u2 (R_X3_init_45 (va_up (u2 (R_X6_init_41 (va_up (u2 (R_X9_init_35 (va_up (u2 (va_up (u2 (R_X1_init_7 (va_up (u2 (R_X4_init_3 (va_up (u2 (R_X10_init_1 (va_up r 1 (fun _ => none))) 0 0 (some 1)) 3 (fun _ => none))) 0 1 (some 3)) 7 (fun _ => none))) 0 2 (some 7)) 34 (fun _ => none)) 0 3 (some 34)) 35 (fun _ => none))) 0 4 (some 35)) 41 (fun _ => none))) 0 5 (some 41)) 45 (fun _ => none))) 0 6 (some 45)) 47 (fun _ => none))) 0 7 (some 47)) 53 (fun _ => none))) 0 8 (some 53)) 57 (fun _ => none))) 34 0 (some 57)) 84 (fun _ => none)) h_22 ⟨rfl, rfl, rfl⟩) (by decide) rfl rfl (Nat.le_of_ble_eq_true rfl) dX11_init_154 (cl' := 110) (sl' := 9386) rfl rfl (fun u_23 => ?_)
  refine wG_aastK C (q := (RX1, TX1, 6)) kd_34 (by decide) (by decide) rfl (by decide) ln_34 kd_84 (by decide) rfl (by decide) (by decide) (j := 1) rfl dX11_init_157 ?_
  refine wG_iincK C (v := 1) (w := 2) (L' := [(0, .ref (xB X + 0)), (1, .int 2)]) dX11_init_158 1 rfl (by decide) (by decide) (by decide) [1, 0] rfl ?_
  refine wG_goto C dX11_init_161 ?_
  refine wG_iload_n C dX11_init_136 1 rfl ?_
  refine wG_iconst C dX11_init_137 (v := 2) (by decide) ?_
  refine wG_geT C (by decide) dX11_init_138 ?_
  exact wG_vret C dX11_init_164 ⟨by decide, by decide⟩ (fun _ e => e)
theorem ck_X11_init_0 (l : Launch) (E : wE) (r : Rp) (h : Hp) : ∀ z, fk_X11_init_0 h = some z → CT l E yX11_init cX11_init 2 none rmk_X11_init_0 [.ref (eB E + 0)] 1 h r (none, 111, z, R_X11_init_0 r) := CT.of (φ := fun u => (none, 111, u, R_X11_init_0 r)) (by decide +kernel) (Nat.le_of_ble_eq_true rfl) (fun X _ e C => by subst e; exact wk_X11_init_0 C r h)
def rmk_X12_init_111 : Room := { frames := 1, cells := 25, slots := 25862, locals := 23 }
def R_X12_init_111 (r : Rp) : Rp := (u2 (va_up (u2 (va_up (u2 (va_up (u2 (va_up (u2 (va_up (u2 (va_up (u2 (va_up (u2 (va_up (u2 (va_up (u2 (va_up (u2 (va_up (u2 (va_up (u2 (va_up (u2 (va_up (u2 (va_up (u2 (va_up (u2 (va_up (u2 (va_up (u2 (va_up (u2 (va_up (u2 (va_up (u2 (va_up (u2 (va_up (u2 (va_up (u2 (va_up r 112 (fun _ => none)) 111 1 (some 112)) 113 (fun _ => none)) 111 3 (some 113)) 114 (fun _ => none)) 111 6 (some 114)) 115 (fun _ => none)) 111 10 (some 115)) 116 (fun _ => none)) 111 11 (some 116)) 117 (fun _ => none)) 111 12 (some 117)) 118 (fun _ => none)) 111 13 (some 118)) 119 (fun _ => none)) 111 14 (some 119)) 120 (fun _ => none)) 111 15 (some 120)) 121 (fun _ => none)) 111 16 (some 121)) 122 (fun _ => none)) 111 17 (some 122)) 123 (fun _ => none)) 111 19 (some 123)) 124 (fun _ => none)) 111 20 (some 124)) 125 (fun _ => none)) 111 21 (some 125)) 126 (fun _ => none)) 111 27 (some 126)) 127 (fun _ => none)) 111 28 (some 127)) 128 (fun _ => none)) 111 29 (some 128)) 129 (fun _ => none)) 111 30 (some 129)) 130 (fun _ => none)) 111 31 (some 130)) 131 (fun _ => none)) 111 32 (some 131)) 132 (fun _ => none)) 111 33 (some 132)) 133 (fun _ => none)) 111 36 (some 133)) 134 (fun _ => none)) 111 40 (some 134)) 135 (fun _ => none)) 111 41 (some 135)) 136 (fun _ => none)) 111 42 (some 136))
def fk_X12_init_111 (h : Hp) : Option Hp :=
  if (48 : Int32) = nI 48 then vB (va_up h 112 (fun _ => 0)) fun h_1 =>
  if (36 : Int32) = nI 36 then vB (va_up h_1 113 (fun _ => 0)) fun h_2 =>
  vB (u2 h_2 111 4 1) fun h_3 =>
  vB (u2 h_3 111 5 1) fun h_4 =>
  if (36 : Int32) = nI 36 then vB (va_up h_4 114 (fun _ => 0)) fun h_5 =>
  vB (u2 h_5 111 9 1) fun h_6 =>
  if (24 : Int32) = nI 24 then vB (va_up h_6 115 (fun _ => 0)) fun h_7 =>
  if (24 : Int32) = nI 24 then vB (va_up h_7 116 (fun _ => 0)) fun h_8 =>
  if (24 : Int32) = nI 24 then vB (va_up h_8 117 (fun _ => 0)) fun h_9 =>
  if (24 : Int32) = nI 24 then vB (va_up h_9 118 (fun _ => 0)) fun h_10 =>
  if (24 : Int32) = nI 24 then vB (va_up h_10 119 (fun _ => 0)) fun h_11 =>
  if (24 : Int32) = nI 24 then vB (va_up h_11 120 (fun _ => 0)) fun h_12 =>
  if (24 : Int32) = nI 24 then vB (va_up h_12 121 (fun _ => 0)) fun h_13 =>
  if (96 : Int32) = nI 96 then vB (va_up h_13 122 (fun _ => 0)) fun h_14 =>
  if (266 : Int32) = nI 266 then vB (va_up h_14 123 (fun _ => 0)) fun h_15 =>
  if (532 : Int32) = nI 532 then vB (va_up h_15 124 (fun _ => 0)) fun h_16 =>
  if (2 : Int32) = nI 2 then vB (va_up h_16 125 (fun _ => 0)) fun h_17 =>
  if (4 : Int32) = nI 4 then vB (va_up h_17 126 (fun _ => 0)) fun h_18 =>
  if (4 : Int32) = nI 4 then vB (va_up h_18 127 (fun _ => 0)) fun h_19 =>
  if (4 : Int32) = nI 4 then vB (va_up h_19 128 (fun _ => 0)) fun h_20 =>
  if (1296 : Int32) = nI 1296 then vB (va_up h_20 129 (fun _ => 0)) fun h_21 =>
  if (1296 : Int32) = nI 1296 then vB (va_up h_21 130 (fun _ => 0)) fun h_22 =>
  if (20736 : Int32) = nI 20736 then vB (va_up h_22 131 (fun _ => 0)) fun h_23 =>
  if (1296 : Int32) = nI 1296 then vB (va_up h_23 132 (fun _ => 0)) fun h_24 =>
  if (6 : Int32) = nI 6 then vB (va_up h_24 133 (fun _ => 0)) fun h_25 =>
  vB (u2 h_25 111 37 5) fun h_26 =>
  vB (u2 h_26 111 38 6) fun h_27 =>
  if (16 : Int32) = nI 16 then vB (va_up h_27 134 (fun _ => 0)) fun h_28 =>
  if (10 : Int32) = nI 10 then vB (va_up h_28 135 (fun _ => 0)) fun h_29 =>
  if (10 : Int32) = nI 10 then vB (va_up h_29 136 (fun _ => 0)) fun h_30 =>
  vB (u2 h_30 111 43 3) fun h_31 =>
  vB (u2 h_31 111 44 1) fun h_32 =>
  if inB 0 24 then vB (u2 h_32 117 (ix 0) 1) fun h_33 =>
  if inB 0 24 then vB (u2 h_33 118 (ix 0) 1) fun h_34 =>
  some h_34 else none else none else none else none else none else none else none else none else none else none else none else none else none else none else none else none else none else none else none else none else none else none else none else none else none else none else none
set_option maxRecDepth 10000 in
theorem wk_X12_init_111 {X : wX} (C : Cx X yX12_init cX12_init 1 none rmk_X12_init_111) (r : Rp) (h : Hp) : wG X 1 (eM X (fun u => (none, 137, u, R_X12_init_111 r))) (fk_X12_init_111 h) 112 h r 0 0 0 [(0, .ref (xB X + 111))] [] := by
  refine wG_of (fk_X12_init_111.eq_1 ..) ?_
  refine wG_aload_n C dX12_init_0 0 rfl ?_
  refine wG_obj C bw_X12_7 ⟨by decide, Nat.le_of_ble_eq_true rfl⟩ dX12_init_1 ?_
  refine wG_aload_n C dX12_init_4 0 rfl ?_
  refine wG_bipush C dX12_init_5 (v := 48) (by decide) ?_
  refine wG_newaK C (ty := .int) rfl (Or.inl ⟨rfl, rfl⟩) m_78 kd_112 ln_112 (by decide) ⟨by decide, by decide⟩ dX12_init_7 (cl' := 1) (sl' := 48) rfl rfl (N' := 113) rfl (fun h_1 => ?_)
  refine wG_putRK C fl_X12_13_8 fr_8_1_X12 (fun _ => rfl) rfl kd_111 (by decide) (Or.inr ⟨_, rfl⟩) (by decide) dX12_init_9 ?_
  refine wG_aload_n C dX12_init_12 0 rfl ?_
  refine wG_bipush C dX12_init_13 (v := 36) (by decide) ?_
  refine wG_newaK C (ty := .int) rfl (Or.inl ⟨rfl, rfl⟩) m_78 kd_113 ln_113 (by decide) ⟨by decide, by decide⟩ dX12_init_15 (cl' := 2) (sl' := 84) rfl rfl (N' := 114) rfl (fun h_2 => ?_)
  refine wG_putRK C fl_X12_17_8 fr_8_3_X12 (fun _ => rfl) rfl kd_111 (by decide) (Or.inr ⟨_, rfl⟩) (by decide) dX12_init_17 ?_
  refine wG_aload_n C dX12_init_20 0 rfl ?_
  refine wG_iconst C dX12_init_21 (v := 1) (by decide) ?_
  refine wG_putI C fl_X12_20_8 (fp_8_4 _) (fun _ => rfl) rfl kd_111 (by decide) dX12_init_22 (fun h_3 => ?_)
  refine wG_aload_n C dX12_init_25 0 rfl ?_
  refine wG_iconst C dX12_init_26 (v := 1) (by decide) ?_
  refine wG_putI C fl_X12_23_8 (fp_8_5 _) (fun _ => rfl) rfl kd_111 (by decide) dX12_init_27 (fun h_4 => ?_)
  refine wG_aload_n C dX12_init_30 0 rfl ?_
  refine wG_bipush C dX12_init_31 (v := 36) (by decide) ?_
  refine wG_newaK C (ty := .int) rfl (Or.inl ⟨rfl, rfl⟩) m_78 kd_114 ln_114 (by decide) ⟨by decide, by decide⟩ dX12_init_33 (cl' := 3) (sl' := 120) rfl rfl (N' := 115) rfl (fun h_5 => ?_)
  refine wG_putRK C fl_X12_26_8 fr_8_6_X12 (fun _ => rfl) rfl kd_111 (by decide) (Or.inr ⟨_, rfl⟩) (by decide) dX12_init_35 ?_
  refine wG_aload_n C dX12_init_38 0 rfl ?_
  refine wG_iconst C dX12_init_39 (v := 1) (by decide) ?_
  refine wG_putI C fl_X12_29_8 (fp_8_9 _) (fun _ => rfl) rfl kd_111 (by decide) dX12_init_40 (fun h_6 => ?_)
  refine wG_aload_n C dX12_init_43 0 rfl ?_
  refine wG_bipush C dX12_init_44 (v := 24) (by decide) ?_
  refine wG_newaK C (ty := .int) rfl (Or.inl ⟨rfl, rfl⟩) m_78 kd_115 ln_115 (by decide) ⟨by decide, by decide⟩ dX12_init_46 (cl' := 4) (sl' := 144) rfl rfl (N' := 116) rfl (fun h_7 => ?_)
  refine wG_putRK C fl_X12_32_8 fr_8_10_X12 (fun _ => rfl) rfl kd_111 (by decide) (Or.inr ⟨_, rfl⟩) (by decide) dX12_init_48 ?_
  refine wG_aload_n C dX12_init_51 0 rfl ?_
  refine wG_bipush C dX12_init_52 (v := 24) (by decide) ?_
  refine wG_newaK C (ty := .int) rfl (Or.inl ⟨rfl, rfl⟩) m_78 kd_116 ln_116 (by decide) ⟨by decide, by decide⟩ dX12_init_54 (cl' := 5) (sl' := 168) rfl rfl (N' := 117) rfl (fun h_8 => ?_)
  refine wG_putRK C fl_X12_35_8 fr_8_11_X12 (fun _ => rfl) rfl kd_111 (by decide) (Or.inr ⟨_, rfl⟩) (by decide) dX12_init_56 ?_
  refine wG_aload_n C dX12_init_59 0 rfl ?_
  refine wG_bipush C dX12_init_60 (v := 24) (by decide) ?_
  refine wG_newaK C (ty := .int) rfl (Or.inl ⟨rfl, rfl⟩) m_78 kd_117 ln_117 (by decide) ⟨by decide, by decide⟩ dX12_init_62 (cl' := 6) (sl' := 192) rfl rfl (N' := 118) rfl (fun h_9 => ?_)
  refine wG_putRK C fl_X12_38_8 fr_8_12_X12 (fun _ => rfl) rfl kd_111 (by decide) (Or.inr ⟨_, rfl⟩) (by decide) dX12_init_64 ?_
  refine wG_aload_n C dX12_init_67 0 rfl ?_
  refine wG_bipush C dX12_init_68 (v := 24) (by decide) ?_
  refine wG_newaK C (ty := .int) rfl (Or.inl ⟨rfl, rfl⟩) m_78 kd_118 ln_118 (by decide) ⟨by decide, by decide⟩ dX12_init_70 (cl' := 7) (sl' := 216) rfl rfl (N' := 119) rfl (fun h_10 => ?_)
  refine wG_putRK C fl_X12_41_8 fr_8_13_X12 (fun _ => rfl) rfl kd_111 (by decide) (Or.inr ⟨_, rfl⟩) (by decide) dX12_init_72 ?_
  refine wG_aload_n C dX12_init_75 0 rfl ?_
  refine wG_bipush C dX12_init_76 (v := 24) (by decide) ?_
  refine wG_newaK C (ty := .int) rfl (Or.inl ⟨rfl, rfl⟩) m_78 kd_119 ln_119 (by decide) ⟨by decide, by decide⟩ dX12_init_78 (cl' := 8) (sl' := 240) rfl rfl (N' := 120) rfl (fun h_11 => ?_)
  refine wG_putRK C fl_X12_44_8 fr_8_14_X12 (fun _ => rfl) rfl kd_111 (by decide) (Or.inr ⟨_, rfl⟩) (by decide) dX12_init_80 ?_
  refine wG_aload_n C dX12_init_83 0 rfl ?_
  refine wG_bipush C dX12_init_84 (v := 24) (by decide) ?_
  refine wG_newaK C (ty := .int) rfl (Or.inl ⟨rfl, rfl⟩) m_78 kd_120 ln_120 (by decide) ⟨by decide, by decide⟩ dX12_init_86 (cl' := 9) (sl' := 264) rfl rfl (N' := 121) rfl (fun h_12 => ?_)
  refine wG_putRK C fl_X12_47_8 fr_8_15_X12 (fun _ => rfl) rfl kd_111 (by decide) (Or.inr ⟨_, rfl⟩) (by decide) dX12_init_88 ?_
  refine wG_aload_n C dX12_init_91 0 rfl ?_
  refine wG_bipush C dX12_init_92 (v := 24) (by decide) ?_
  refine wG_newaK C (ty := .int) rfl (Or.inl ⟨rfl, rfl⟩) m_78 kd_121 ln_121 (by decide) ⟨by decide, by decide⟩ dX12_init_94 (cl' := 10) (sl' := 288) rfl rfl (N' := 122) rfl (fun h_13 => ?_)
  refine wG_putRK C fl_X12_50_8 fr_8_16_X12 (fun _ => rfl) rfl kd_111 (by decide) (Or.inr ⟨_, rfl⟩) (by decide) dX12_init_96 ?_
  refine wG_aload_n C dX12_init_99 0 rfl ?_
  refine wG_bipush C dX12_init_100 (v := 96) (by decide) ?_
  refine wG_newaK C (ty := .int) rfl (Or.inl ⟨rfl, rfl⟩) m_78 kd_122 ln_122 (by decide) ⟨by decide, by decide⟩ dX12_init_102 (cl' := 11) (sl' := 384) rfl rfl (N' := 123) rfl (fun h_14 => ?_)
  refine wG_putRK C fl_X12_53_8 fr_8_17_X12 (fun _ => rfl) rfl kd_111 (by decide) (Or.inr ⟨_, rfl⟩) (by decide) dX12_init_104 ?_
  refine wG_aload_n C dX12_init_107 0 rfl ?_
  refine wG_sipush C dX12_init_108 (v := 266) (by decide) ?_
  refine wG_newaK C (ty := .int) rfl (Or.inl ⟨rfl, rfl⟩) m_78 kd_123 ln_123 (by decide) ⟨by decide, by decide⟩ dX12_init_111 (cl' := 12) (sl' := 650) rfl rfl (N' := 124) rfl (fun h_15 => ?_)
  refine wG_putRK C fl_X12_56_8 fr_8_19_X12 (fun _ => rfl) rfl kd_111 (by decide) (Or.inr ⟨_, rfl⟩) (by decide) dX12_init_113 ?_
  refine wG_aload_n C dX12_init_116 0 rfl ?_
  refine wG_sipush C dX12_init_117 (v := 532) (by decide) ?_
  refine wG_newaK C (ty := .int) rfl (Or.inl ⟨rfl, rfl⟩) m_78 kd_124 ln_124 (by decide) ⟨by decide, by decide⟩ dX12_init_120 (cl' := 13) (sl' := 1182) rfl rfl (N' := 125) rfl (fun h_16 => ?_)
  refine wG_putRK C fl_X12_59_8 fr_8_20_X12 (fun _ => rfl) rfl kd_111 (by decide) (Or.inr ⟨_, rfl⟩) (by decide) dX12_init_122 ?_
  refine wG_aload_n C dX12_init_125 0 rfl ?_
  refine wG_iconst C dX12_init_126 (v := 2) (by decide) ?_
  refine wG_newaK C (ty := .boolean) rfl (Or.inr ⟨rfl, rfl⟩) m_1145 kd_125 ln_125 (by decide) ⟨by decide, by decide⟩ dX12_init_127 (cl' := 14) (sl' := 1184) rfl rfl (N' := 126) rfl (fun h_17 => ?_)
  refine wG_putRK C fl_X12_62_8 fr_8_21_X12 (fun _ => rfl) rfl kd_111 (by decide) (Or.inr ⟨_, rfl⟩) (by decide) dX12_init_129 ?_
  refine wG_aload_n C dX12_init_132 0 rfl ?_
  refine wG_iconst C dX12_init_133 (v := 4) (by decide) ?_
  refine wG_newaK C (ty := .int) rfl (Or.inl ⟨rfl, rfl⟩) m_78 kd_126 ln_126 (by decide) ⟨by decide, by decide⟩ dX12_init_134 (cl' := 15) (sl' := 1188) rfl rfl (N' := 127) rfl (fun h_18 => ?_)
  refine wG_putRK C fl_X12_66_8 fr_8_27_X12 (fun _ => rfl) rfl kd_111 (by decide) (Or.inr ⟨_, rfl⟩) (by decide) dX12_init_136 ?_
  refine wG_aload_n C dX12_init_139 0 rfl ?_
  refine wG_iconst C dX12_init_140 (v := 4) (by decide) ?_
  refine wG_newaK C (ty := .int) rfl (Or.inl ⟨rfl, rfl⟩) m_78 kd_127 ln_127 (by decide) ⟨by decide, by decide⟩ dX12_init_141 (cl' := 16) (sl' := 1192) rfl rfl (N' := 128) rfl (fun h_19 => ?_)
  refine wG_putRK C fl_X12_69_8 fr_8_28_X12 (fun _ => rfl) rfl kd_111 (by decide) (Or.inr ⟨_, rfl⟩) (by decide) dX12_init_143 ?_
  refine wG_aload_n C dX12_init_146 0 rfl ?_
  refine wG_iconst C dX12_init_147 (v := 4) (by decide) ?_
  refine wG_newaK C (ty := .int) rfl (Or.inl ⟨rfl, rfl⟩) m_78 kd_128 ln_128 (by decide) ⟨by decide, by decide⟩ dX12_init_148 (cl' := 17) (sl' := 1196) rfl rfl (N' := 129) rfl (fun h_20 => ?_)
  refine wG_putRK C fl_X12_72_8 fr_8_29_X12 (fun _ => rfl) rfl kd_111 (by decide) (Or.inr ⟨_, rfl⟩) (by decide) dX12_init_150 ?_
  refine wG_aload_n C dX12_init_153 0 rfl ?_
  refine wG_sipush C dX12_init_154 (v := 1296) (by decide) ?_
  refine wG_newaK C (ty := .int) rfl (Or.inl ⟨rfl, rfl⟩) m_78 kd_129 ln_129 (by decide) ⟨by decide, by decide⟩ dX12_init_157 (cl' := 18) (sl' := 2492) rfl rfl (N' := 130) rfl (fun h_21 => ?_)
  refine wG_putRK C fl_X12_75_8 fr_8_30_X12 (fun _ => rfl) rfl kd_111 (by decide) (Or.inr ⟨_, rfl⟩) (by decide) dX12_init_159 ?_
  refine wG_aload_n C dX12_init_162 0 rfl ?_
  refine wG_sipush C dX12_init_163 (v := 1296) (by decide) ?_
  refine wG_newaK C (ty := .int) rfl (Or.inl ⟨rfl, rfl⟩) m_78 kd_130 ln_130 (by decide) ⟨by decide, by decide⟩ dX12_init_166 (cl' := 19) (sl' := 3788) rfl rfl (N' := 131) rfl (fun h_22 => ?_)
  refine wG_putRK C fl_X12_78_8 fr_8_31_X12 (fun _ => rfl) rfl kd_111 (by decide) (Or.inr ⟨_, rfl⟩) (by decide) dX12_init_168 ?_
  refine wG_aload_n C dX12_init_171 0 rfl ?_
  refine wG_sipush C dX12_init_172 (v := 20736) (by decide) ?_
  refine wG_newaK C (ty := .int) rfl (Or.inl ⟨rfl, rfl⟩) m_78 kd_131 ln_131 (by decide) ⟨by decide, by decide⟩ dX12_init_175 (cl' := 20) (sl' := 24524) rfl rfl (N' := 132) rfl (fun h_23 => ?_)
  refine wG_putRK C fl_X12_81_8 fr_8_32_X12 (fun _ => rfl) rfl kd_111 (by decide) (Or.inr ⟨_, rfl⟩) (by decide) dX12_init_177 ?_
  refine wG_aload_n C dX12_init_180 0 rfl ?_
  refine wG_sipush C dX12_init_181 (v := 1296) (by decide) ?_
  refine wG_newaK C (ty := .int) rfl (Or.inl ⟨rfl, rfl⟩) m_78 kd_132 ln_132 (by decide) ⟨by decide, by decide⟩ dX12_init_184 (cl' := 21) (sl' := 25820) rfl rfl (N' := 133) rfl (fun h_24 => ?_)
  refine wG_putRK C fl_X12_84_8 fr_8_33_X12 (fun _ => rfl) rfl kd_111 (by decide) (Or.inr ⟨_, rfl⟩) (by decide) dX12_init_186 ?_
  refine wG_aload_n C dX12_init_189 0 rfl ?_
  refine wG_bipush C dX12_init_190 (v := 6) (by decide) ?_
  refine wG_newaK C (ty := .int) rfl (Or.inl ⟨rfl, rfl⟩) m_78 kd_133 ln_133 (by decide) ⟨by decide, by decide⟩ dX12_init_192 (cl' := 22) (sl' := 25826) rfl rfl (N' := 134) rfl (fun h_25 => ?_)
  refine wG_putRK C fl_X12_87_8 fr_8_36_X12 (fun _ => rfl) rfl kd_111 (by decide) (Or.inr ⟨_, rfl⟩) (by decide) dX12_init_194 ?_
  refine wG_aload_n C dX12_init_197 0 rfl ?_
  refine wG_iconst C dX12_init_198 (v := 5) (by decide) ?_
  refine wG_putI C fl_X12_90_8 (fp_8_37 _) (fun _ => rfl) rfl kd_111 (by decide) dX12_init_199 (fun h_26 => ?_)
  refine wG_aload_n C dX12_init_202 0 rfl ?_
  refine wG_bipush C dX12_init_203 (v := 6) (by decide) ?_
  refine wG_putI C fl_X12_93_8 (fp_8_38 _) (fun _ => rfl) rfl kd_111 (by decide) dX12_init_205 (fun h_27 => ?_)
  refine wG_aload_n C dX12_init_208 0 rfl ?_
  refine wG_bipush C dX12_init_209 (v := 16) (by decide) ?_
  refine wG_newaK C (ty := .int) rfl (Or.inl ⟨rfl, rfl⟩) m_78 kd_134 ln_134 (by decide) ⟨by decide, by decide⟩ dX12_init_211 (cl' := 23) (sl' := 25842) rfl rfl (N' := 135) rfl (fun h_28 => ?_)
  refine wG_putRK C fl_X12_96_8 fr_8_40_X12 (fun _ => rfl) rfl kd_111 (by decide) (Or.inr ⟨_, rfl⟩) (by decide) dX12_init_213 ?_
  refine wG_aload_n C dX12_init_216 0 rfl ?_
  refine wG_bipush C dX12_init_217 (v := 10) (by decide) ?_
  refine wG_newaK C (ty := .int) rfl (Or.inl ⟨rfl, rfl⟩) m_78 kd_135 ln_135 (by decide) ⟨by decide, by decide⟩ dX12_init_219 (cl' := 24) (sl' := 25852) rfl rfl (N' := 136) rfl (fun h_29 => ?_)
  refine wG_putRK C fl_X12_99_8 fr_8_41_X12 (fun _ => rfl) rfl kd_111 (by decide) (Or.inr ⟨_, rfl⟩) (by decide) dX12_init_221 ?_
  refine wG_aload_n C dX12_init_224 0 rfl ?_
  refine wG_bipush C dX12_init_225 (v := 10) (by decide) ?_
  refine wG_newaK C (ty := .int) rfl (Or.inl ⟨rfl, rfl⟩) m_78 kd_136 ln_136 (by decide) ⟨by decide, by decide⟩ dX12_init_227 (cl' := 25) (sl' := 25862) rfl rfl (N' := 137) rfl (fun h_30 => ?_)
  refine wG_putRK C fl_X12_102_8 fr_8_42_X12 (fun _ => rfl) rfl kd_111 (by decide) (Or.inr ⟨_, rfl⟩) (by decide) dX12_init_229 ?_
  refine wG_aload_n C dX12_init_232 0 rfl ?_
  refine wG_iconst C dX12_init_233 (v := 3) (by decide) ?_
  refine wG_putI C fl_X12_105_8 (fp_8_43 _) (fun _ => rfl) rfl kd_111 (by decide) dX12_init_234 (fun h_31 => ?_)
  refine wG_aload_n C dX12_init_237 0 rfl ?_
  refine wG_iconst C dX12_init_238 (v := 1) (by decide) ?_
  refine wG_putI C fl_X12_108_8 (fp_8_44 _) (fun _ => rfl) rfl kd_111 (by decide) dX12_init_239 (fun h_32 => ?_)
  refine wG_aload_n C dX12_init_242 0 rfl ?_
  refine wG_getR C (b := 117) fl_X12_38_8 rfl kd_111 (by decide) rfl dX12_init_243 ?_
  refine wG_iconst C dX12_init_246 (v := 0) (by decide) ?_
  refine wG_iconst C dX12_init_247 (v := 1) (by decide) ?_
  refine wG_iast C kd_117 (by decide) ln_117 dX12_init_248 (fun h_33 => ?_)
  refine wG_aload_n C dX12_init_249 0 rfl ?_
  refine wG_getR C (b := 118) fl_X12_41_8 rfl kd_111 (by decide) rfl dX12_init_250 ?_
  refine wG_iconst C dX12_init_253 (v := 0) (by decide) ?_
  refine wG_iconst C dX12_init_254 (v := 1) (by decide) ?_
  refine wG_iast C kd_118 (by decide) ln_118 dX12_init_255 (fun h_34 => ?_)
  exact wG_vret C dX12_init_256 ⟨by decide, by decide⟩ (fun _ e => e)
theorem ck_X12_init_111 (l : Launch) (E : wE) (r : Rp) (h : Hp) : ∀ z, fk_X12_init_111 h = some z → CT l E yX12_init cX12_init 1 none rmk_X12_init_111 [.ref (eB E + 111)] 112 h r (none, 137, z, R_X12_init_111 r) := CT.of (φ := fun u => (none, 137, u, R_X12_init_111 r)) (by decide +kernel) (Nat.le_of_ble_eq_true rfl) (fun X _ e C => by subst e; exact wk_X12_init_111 C r h)
