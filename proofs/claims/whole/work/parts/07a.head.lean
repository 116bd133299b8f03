/-! what the printed walks need -/
abbrev Qp : Type := Nat → Option Nat
def FU : Nat := 2000
def vK {α ρ : Type} (k : α → Option ρ) (f : (α → Option ρ) → Option ρ) : Option ρ := f k
theorem bms {ws : List Cond} (ps : List Nat) (hp : ws = ps.filterMap (fun i => lw_tbl[i]?)) (hg : ws.all goodWord = true) : ∀ w ∈ ws, w ∈ BIG := by
  intro w hw
  have h1 := List.all_eq_true.mp hg w hw
  rw [hp] at hw
  obtain ⟨i, -, hi⟩ := List.mem_filterMap.mp hw
  exact bm hi h1
section ROWS3
variable {ρ : Type} {X : wX} {y : MethodName} {cc : ByteArray} {mL : Nat} {ret : Option FieldType} {rm : Room} {Z : ρ → (State → Prop) → Prop} {k kt kf : Option ρ} {N : Nat} {h : Hp} {r : Rp} {cl sl pc pc' tgt cl' sl' : Nat} {L L' : List (Nat × Value)} {st rest : List Value} {off : Int}
theorem wG_vK {α : Type} {kk : α → Option ρ} {f : (α → Option ρ) → Option ρ} {N' : α → Nat} {h' : α → Hp} {r' : α → Rp} {cl' sl' pc' : α → Nat} {L' : α → List (Nat × Value)} {st' : α → List Value} (g1 : ∀ a, wG X mL Z (kk a) (N' a) (h' a) (r' a) (cl' a) (sl' a) (pc' a) (L' a) (st' a))
    (g2 : ∀ K : α → Option ρ, (∀ a, wG X mL Z (K a) (N' a) (h' a) (r' a) (cl' a) (sl' a) (pc' a) (L' a) (st' a)) → wG X mL Z (f K) N h r cl sl pc L st) : wG X mL Z (vK kk f) N h r cl sl pc L st := g2 kk g1
/-- a reference out of an array, known -/
theorem wG_aaH (C : Cx X y cc mL ret rm) {a n c b : Nat} {i : Int32} {Cn : String} (hk : Kd a = c) (hc : ¬ c < 12) (hc2 : ¬ c < 14) (hty : (tys (xE X))[c - 12]? = some (eC (xE X) c, .object Cn)) (ha : a < N) (hn : Ln a = n) (hb : r a (ix i) = some b) (hd : dcd cc pc .aaload 1 pc') (g : wG X mL Z k N h r cl sl pc' L (.ref (xB X + b) :: st)) : wG X mL Z (if inB i n then k else none) N h r cl sl pc L (.int i :: .ref (xB X + a) :: st) := by
  have key := wG_aald (kk := fun _ => k) (i := i) (r := r) (Z := Z) (L := L) (st := st) (h := h) (cl := cl) (sl := sl) C hk hc hc2 hty ha hn hd
  rw [hb] at key
  exact key (fun b' e => by cases e; exact g)
theorem wG_cV_qi {f : Option (Int32 × Nat × Hp × Qp)} {kk : (Int32 × Nat × Hp × Qp) → Option ρ} {idx c n mL' a : Nat} {y' : MethodName} {cc' : ByteArray} {ret' : Option FieldType} {rm' : Room} (As rest : List Value) (C : Cx X y cc mL ret rm) (hw : vW y.cls idx c y' cc' mL' ret' n) (hM : ∀ u, f = some u → CT (xl X) (xE X) y' cc' mL' ret' rm' (.ref (xB X + a) :: As) N h r (some (.int u.1), u.2.1, u.2.2.1, rq u.2.2.2)) (hk : Kd a = c) (ha : a < N) (hR : rmOk rm' rm mL' cl sl) (hn : As.length = n) (hst : st = As.reverse ++ .ref (xB X + a) :: rest) (hcat : (rest.map fun v => v.category).sum ≤ 8) (hd : dcd cc pc (.invokevirtual idx) 3 pc') (hcl : cl + rm'.cells = cl') (hsl : sl + rm'.slots = sl')
    (g : ∀ u, wG X mL Z (kk u) u.2.1 u.2.2.1 (rq u.2.2.2) cl' sl' pc' L (.int u.1 :: rest)) : wG X mL Z (f.bind kk) N h r cl sl pc L st := wG_callV (φ := fun u => (some (.int u.1), u.2.1, u.2.2.1, rq u.2.2.2)) C hw hM hk ha hR hn hst hcat hd hcl hsl g
theorem wG_cV_qv {f : Option (Nat × Hp × Qp)} {kk : (Nat × Hp × Qp) → Option ρ} {idx c n mL' a : Nat} {y' : MethodName} {cc' : ByteArray} {ret' : Option FieldType} {rm' : Room} (As rest : List Value) (C : Cx X y cc mL ret rm) (hw : vW y.cls idx c y' cc' mL' ret' n) (hM : ∀ u, f = some u → CT (xl X) (xE X) y' cc' mL' ret' rm' (.ref (xB X + a) :: As) N h r (none, u.1, u.2.1, rq u.2.2)) (hk : Kd a = c) (ha : a < N) (hR : rmOk rm' rm mL' cl sl) (hn : As.length = n) (hst : st = As.reverse ++ .ref (xB X + a) :: rest) (hcat : (rest.map fun v => v.category).sum ≤ 8) (hd : dcd cc pc (.invokevirtual idx) 3 pc') (hcl : cl + rm'.cells = cl') (hsl : sl + rm'.slots = sl')
    (g : ∀ u, wG X mL Z (kk u) u.1 u.2.1 (rq u.2.2) cl' sl' pc' L rest) : wG X mL Z (f.bind kk) N h r cl sl pc L st := wG_callV (φ := fun u => (none, u.1, u.2.1, rq u.2.2)) C hw hM hk ha hR hn hst hcat hd hcl hsl g
theorem wG_cV_pv {f : Option (Hp × Qp)} {kk : (Hp × Qp) → Option ρ} {idx c n mL' a : Nat} {y' : MethodName} {cc' : ByteArray} {ret' : Option FieldType} {rm' : Room} (As rest : List Value) (C : Cx X y cc mL ret rm) (hw : vW y.cls idx c y' cc' mL' ret' n) (hM : ∀ u, f = some u → CT (xl X) (xE X) y' cc' mL' ret' rm' (.ref (xB X + a) :: As) N h r (none, N, u.1, rq u.2)) (hk : Kd a = c) (ha : a < N) (hR : rmOk rm' rm mL' cl sl) (hn : As.length = n) (hst : st = As.reverse ++ .ref (xB X + a) :: rest) (hcat : (rest.map fun v => v.category).sum ≤ 8) (hd : dcd cc pc (.invokevirtual idx) 3 pc') (hcl : cl + rm'.cells = cl') (hsl : sl + rm'.slots = sl')
    (g : ∀ u, wG X mL Z (kk u) N u.1 (rq u.2) cl' sl' pc' L rest) : wG X mL Z (f.bind kk) N h r cl sl pc L st := wG_callV (φ := fun u => (none, N, u.1, rq u.2)) C hw hM hk ha hR hn hst hcat hd hcl hsl g
theorem wG_cV_wl {f : Option (Int64 × Hp)} {kk : (Int64 × Hp) → Option ρ} {idx c n mL' a : Nat} {y' : MethodName} {cc' : ByteArray} {ret' : Option FieldType} {rm' : Room} (As rest : List Value) (C : Cx X y cc mL ret rm) (hw : vW y.cls idx c y' cc' mL' ret' n) (hM : ∀ u, f = some u → CT (xl X) (xE X) y' cc' mL' ret' rm' (.ref (xB X + a) :: As) N h r (some (.long u.1), N, u.2, r)) (hk : Kd a = c) (ha : a < N) (hR : rmOk rm' rm mL' cl sl) (hn : As.length = n) (hst : st = As.reverse ++ .ref (xB X + a) :: rest) (hcat : (rest.map fun v => v.category).sum ≤ 8) (hd : dcd cc pc (.invokevirtual idx) 3 pc') (hcl : cl + rm'.cells = cl') (hsl : sl + rm'.slots = sl')
    (g : ∀ u, wG X mL Z (kk u) N u.2 r cl' sl' pc' L (.long u.1 :: rest)) : wG X mL Z (f.bind kk) N h r cl sl pc L st := wG_callV (φ := fun u => (some (.long u.1), N, u.2, r)) C hw hM hk ha hR hn hst hcat hd hcl hsl g
end ROWS3
