/-! THE ROWS OF THE FLAT WORLD: an instruction, a row; the pure computation k goes with it -/
abbrev inB (i : Int32) (n : Nat) : Prop := 0 ≤ i.toInt ∧ i.toInt < (n : Int)
abbrev ix (i : Int32) : Nat := i.toNatClampNeg
def vB {α β : Type} (e : α) (k : α → Option β) : Option β := k e
theorem inB.vp {i : Int32} {n : Nat} (h : inB i n) : vp_in i n := vp_in_iff.mpr h
theorem ix_lt {i : Int32} {n : Nat} (h : inB i n) : ix i < n := Nat.not_le.mp fun q => h.vp (Or.inr q)
section ROWS
variable {ρ : Type} {X : wX} {y : MethodName} {cc : ByteArray} {mL : Nat} {ret : Option FieldType} {rm : Room} {Z : ρ → (State → Prop) → Prop} {k kt kf : Option ρ} {N : Nat} {h : Hp} {r : Rp} {cl sl pc pc' tgt : Nat} {L L' : List (Nat × Value)} {st : List Value} {off : Int}
theorem wG_of {k' : Option ρ} (e : k = k') (g : wG X mL Z k' N h r cl sl pc L st) : wG X mL Z k N h r cl sl pc L st := e ▸ g
theorem wG_none : wG X mL Z none N h r cl sl pc L st := fun _ q => by cases q
theorem wG_nm {α : Type} {e : α} {v : α → Value} {kk : α → Option ρ} (g : ∀ x, wG X mL Z (kk x) N h r cl sl pc L (v x :: st)) : wG X mL Z (vB e kk) N h r cl sl pc L (v e :: st) := g e
theorem wG_nmI {e : Int32} {kk : Int32 → Option ρ} (g : ∀ x, wG X mL Z (kk x) N h r cl sl pc L (.int x :: st)) : wG X mL Z (vB e kk) N h r cl sl pc L (.int e :: st) := g e
theorem wG_nmL {e : Int64} {kk : Int64 → Option ρ} (g : ∀ x, wG X mL Z (kk x) N h r cl sl pc L (.long x :: st)) : wG X mL Z (vB e kk) N h r cl sl pc L (.long e :: st) := g e
theorem wG_nmR {e c : Nat} {kk : Nat → Option ρ} (hk : Kd e = c) (g : ∀ x, Kd x = c → wG X mL Z (kk x) N h r cl sl pc L (.ref (xB X + x) :: st)) : wG X mL Z (vB e kk) N h r cl sl pc L (.ref (xB X + e) :: st) := g e hk
/-- to another state of the locals -/
theorem wG_lv (ks : List Nat) (hl : lv_pick L ks = L') (g : wG X mL Z k N h r cl sl pc L' st) : wG X mL Z k N h r cl sl pc L st := fun z hz Q hQ H locs ls w S hv => g z hz Q hQ H locs ls w S (lv_sub hv ks hl)
/-- an end of a region: its state is reached -/
theorem wG_exit {z : ρ} (hZ : ∀ Q, Z z Q → gQ X mL Q N h r cl sl pc L st) : wG X mL Z (some z) N h r cl sl pc L st := fun z' hz Q hQ => by cases hz; exact hZ Q hQ
theorem gQ_lv {Q : State → Prop} (ks : List Nat) (hl : lv_pick L ks = L') (g : gQ X mL Q N h r cl sl pc L' st) : gQ X mL Q N h r cl sl pc L st := fun H locs ls w S hv => g H locs ls w S (lv_sub hv ks hl)
/-- a region m that comes to the state J, and what follows it -/
theorem wG_bind {α : Type} {m : Option α} {kk : α → Option ρ} {J : α → (State → Prop) → Prop} (g : wG X mL J m N h r cl sl pc L st) (g2 : ∀ a z, kk a = some z → ∀ Q, Z z Q → J a Q) : wG X mL Z (m.bind kk) N h r cl sl pc L st := by
  intro z hz Q hQ
  cases hm : m with
  | none => rw [hm] at hz; cases hz
  | some a => rw [hm] at hz; exact g a hm Q (g2 a z hz Q hQ)
theorem wG_ite {c : Prop} [Decidable c] {α : Type} {a b : α} {F : α → Option ρ} (g1 : c → wG X mL Z (F a) N h r cl sl pc L st) (g2 : ¬ c → wG X mL Z (F b) N h r cl sl pc L st) : wG X mL Z (F (if c then a else b)) N h r cl sl pc L st := by
  by_cases hc : c
  · rw [if_pos hc]; exact g1 hc
  · rw [if_neg hc]; exact g2 hc
/-- a value by a condition: both ways -/
theorem wG_dia {c : Prop} [Decidable c] {α : Type} {a b : α} {kk : α → Option ρ} (g : wG X mL Z (if c then vB a kk else vB b kk) N h r cl sl pc L st) : wG X mL Z (vB (if c then a else b) kk) N h r cl sl pc L st := by
  by_cases hc : c
  · rw [if_pos hc] at g ⊢; exact g
  · rw [if_neg hc] at g ⊢; exact g
theorem wG_iconst (C : Cx X y cc mL ret rm) {n : Int} {v : Int32} (hd : dcd cc pc (.iconst n) 1 pc') (hv : Int32.ofInt n = v) (g : wG X mL Z k N h r cl sl pc' L (.int v :: st)) : wG X mL Z k N h r cl sl pc L (st) := by
  obtain ⟨hd, rfl⟩ := hd
  intro z hz Q hQ H locs ls w S hl
  exact lv_iconst C.1 C.2.1 hd hv (g z hz Q hQ H locs ls w S hl)
theorem wG_bipush (C : Cx X y cc mL ret rm) {n : Int} {v : Int32} (hd : dcd cc pc (.bipush n) 2 pc') (hv : (Int8.ofInt n).toInt32 = v) (g : wG X mL Z k N h r cl sl pc' L (.int v :: st)) : wG X mL Z k N h r cl sl pc L (st) := by
  obtain ⟨hd, rfl⟩ := hd
  intro z hz Q hQ H locs ls w S hl
  exact lv_bipush C.1 C.2.1 hd hv (g z hz Q hQ H locs ls w S hl)
theorem wG_sipush (C : Cx X y cc mL ret rm) {n : Int} {v : Int32} (hd : dcd cc pc (.sipush n) 3 pc') (hv : (Int16.ofInt n).toInt32 = v) (g : wG X mL Z k N h r cl sl pc' L (.int v :: st)) : wG X mL Z k N h r cl sl pc L (st) := by
  obtain ⟨hd, rfl⟩ := hd
  intro z hz Q hQ H locs ls w S hl
  exact lv_sipush C.1 C.2.1 hd hv (g z hz Q hQ H locs ls w S hl)
theorem wG_lconst (C : Cx X y cc mL ret rm) {n : Fin 2} {v : Int64} (hd : dcd cc pc (.lconst n) 1 pc') (hv : Int64.ofNat (n : Nat) = v) (g : wG X mL Z k N h r cl sl pc' L (.long v :: st)) : wG X mL Z k N h r cl sl pc L (st) := by
  obtain ⟨hd, rfl⟩ := hd
  intro z hz Q hQ H locs ls w S hl
  exact lv_lconst C.1 C.2.1 hd hv (g z hz Q hQ H locs ls w S hl)
theorem wG_ldc (C : Cx X y cc mL ret rm) {i : Nat} {v : Int32} (hd : dcd cc pc (.ldc i) 2 pc') (hw : Cond.constant y.cls i v ∈ BIG) (g : wG X mL Z k N h r cl sl pc' L (.int v :: st)) : wG X mL Z k N h r cl sl pc L (st) := by
  obtain ⟨hd, rfl⟩ := hd
  intro z hz Q hQ H locs ls w S hl
  exact lv_ldc C.1 C.2.1 C.2.2.2.1 (C.2.2.2.2.1 _ hw) hd (g z hz Q hQ H locs ls w S hl)
theorem wG_ldcw (C : Cx X y cc mL ret rm) {i : Nat} {v : Int32} (hd : dcd cc pc (.ldc_w i) 3 pc') (hw : Cond.constant y.cls i v ∈ BIG) (g : wG X mL Z k N h r cl sl pc' L (.int v :: st)) : wG X mL Z k N h r cl sl pc L (st) := by
  obtain ⟨hd, rfl⟩ := hd
  intro z hz Q hQ H locs ls w S hl
  exact lv_ldcw C.1 C.2.1 C.2.2.2.1 (C.2.2.2.2.1 _ hw) hd (g z hz Q hQ H locs ls w S hl)
theorem wG_ldc2 (C : Cx X y cc mL ret rm) {i : Nat} {v : Int64} (hd : dcd cc pc (.ldc2_w i) 3 pc') (hw : Cond.constantLong y.cls i v ∈ BIG) (g : wG X mL Z k N h r cl sl pc' L (.long v :: st)) : wG X mL Z k N h r cl sl pc L (st) := by
  obtain ⟨hd, rfl⟩ := hd
  intro z hz Q hQ H locs ls w S hl
  exact lv_ldc2 C.1 C.2.1 C.2.2.2.1 (C.2.2.2.2.1 _ hw) hd (g z hz Q hQ H locs ls w S hl)
theorem wG_iload_n (C : Cx X y cc mL ret rm) {i : Fin 4} {x : Int32} (hd : dcd cc pc (.iload_n i) 1 pc') (p : Nat) (hp : L[p]? = some ((i : Nat), .int x)) (g : wG X mL Z k N h r cl sl pc' L (.int x :: st)) : wG X mL Z k N h r cl sl pc L st := by
  obtain ⟨hd, rfl⟩ := hd
  intro z hz Q hQ H locs ls w S hl
  exact lv_iload_n C.1 C.2.1 hd rfl (lv_at hl p hp) (g z hz Q hQ H locs ls w S hl)
theorem wG_iload (C : Cx X y cc mL ret rm) {i : Nat} {x : Int32} (hd : dcd cc pc (.iload i) 2 pc') (p : Nat) (hp : L[p]? = some (i, .int x)) (g : wG X mL Z k N h r cl sl pc' L (.int x :: st)) : wG X mL Z k N h r cl sl pc L st := by
  obtain ⟨hd, rfl⟩ := hd
  intro z hz Q hQ H locs ls w S hl
  exact lv_iload C.1 C.2.1 hd (lv_at hl p hp) (g z hz Q hQ H locs ls w S hl)
theorem wG_lload_n (C : Cx X y cc mL ret rm) {i : Fin 4} {x : Int64} (hd : dcd cc pc (.lload_n i) 1 pc') (p : Nat) (hp : L[p]? = some ((i : Nat), .long x)) (g : wG X mL Z k N h r cl sl pc' L (.long x :: st)) : wG X mL Z k N h r cl sl pc L st := by
  obtain ⟨hd, rfl⟩ := hd
  intro z hz Q hQ H locs ls w S hl
  exact lv_lload_n C.1 C.2.1 hd rfl (lv_at hl p hp) (g z hz Q hQ H locs ls w S hl)
theorem wG_lload (C : Cx X y cc mL ret rm) {i : Nat} {x : Int64} (hd : dcd cc pc (.lload i) 2 pc') (p : Nat) (hp : L[p]? = some (i, .long x)) (g : wG X mL Z k N h r cl sl pc' L (.long x :: st)) : wG X mL Z k N h r cl sl pc L st := by
  obtain ⟨hd, rfl⟩ := hd
  intro z hz Q hQ H locs ls w S hl
  exact lv_lload C.1 C.2.1 hd (lv_at hl p hp) (g z hz Q hQ H locs ls w S hl)
theorem wG_aload_n (C : Cx X y cc mL ret rm) {i : Fin 4} {x : Nat} (hd : dcd cc pc (.aload_n i) 1 pc') (p : Nat) (hp : L[p]? = some ((i : Nat), .ref x)) (g : wG X mL Z k N h r cl sl pc' L (.ref x :: st)) : wG X mL Z k N h r cl sl pc L st := by
  obtain ⟨hd, rfl⟩ := hd
  intro z hz Q hQ H locs ls w S hl
  exact lv_aload_n C.1 C.2.1 hd rfl (lv_at hl p hp) (g z hz Q hQ H locs ls w S hl)
theorem wG_aload (C : Cx X y cc mL ret rm) {i : Nat} {x : Nat} (hd : dcd cc pc (.aload i) 2 pc') (p : Nat) (hp : L[p]? = some (i, .ref x)) (g : wG X mL Z k N h r cl sl pc' L (.ref x :: st)) : wG X mL Z k N h r cl sl pc L st := by
  obtain ⟨hd, rfl⟩ := hd
  intro z hz Q hQ H locs ls w S hl
  exact lv_aload C.1 C.2.1 hd (lv_at hl p hp) (g z hz Q hQ H locs ls w S hl)
theorem wG_istore_n (C : Cx X y cc mL ret rm) {i : Fin 4} {x : Int32} (hd : dcd cc pc (.istore_n i) 1 pc') (hn : (i : Nat) < mL) (ks : List Nat) (hf : lv_pick (((i : Nat), Value.int x) :: L.filter (fun q => !(q.1 == (i : Nat)) && !(q.1 + 1 == (i : Nat) && q.2.category == 2))) ks = L') (g : wG X mL Z k N h r cl sl pc' L' st) : wG X mL Z k N h r cl sl pc L (.int x :: st) := by
  obtain ⟨hd, rfl⟩ := hd
  intro z hz Q hQ H locs ls w S hl
  exact lv_istore_n C.1 C.2.1 hd rfl hl hn rfl (fun ls' hl' => g z hz Q hQ H locs ls' w S (lv_sub hl' ks hf))
theorem wG_istore (C : Cx X y cc mL ret rm) {i : Nat} {x : Int32} (hd : dcd cc pc (.istore i) 2 pc') (hn : i < mL) (ks : List Nat) (hf : lv_pick ((i, Value.int x) :: L.filter (fun q => !(q.1 == i) && !(q.1 + 1 == i && q.2.category == 2))) ks = L') (g : wG X mL Z k N h r cl sl pc' L' st) : wG X mL Z k N h r cl sl pc L (.int x :: st) := by
  obtain ⟨hd, rfl⟩ := hd
  intro z hz Q hQ H locs ls w S hl
  exact lv_istore C.1 C.2.1 hd hl hn rfl (fun ls' hl' => g z hz Q hQ H locs ls' w S (lv_sub hl' ks hf))
theorem wG_astore_n (C : Cx X y cc mL ret rm) {i : Fin 4} {x : Nat} (hd : dcd cc pc (.astore_n i) 1 pc') (hn : (i : Nat) < mL) (ks : List Nat) (hf : lv_pick (((i : Nat), Value.ref x) :: L.filter (fun q => !(q.1 == (i : Nat)) && !(q.1 + 1 == (i : Nat) && q.2.category == 2))) ks = L') (g : wG X mL Z k N h r cl sl pc' L' st) : wG X mL Z k N h r cl sl pc L (.ref x :: st) := by
  obtain ⟨hd, rfl⟩ := hd
  intro z hz Q hQ H locs ls w S hl
  exact lv_astore_n C.1 C.2.1 hd rfl hl hn rfl (fun ls' hl' => g z hz Q hQ H locs ls' w S (lv_sub hl' ks hf))
theorem wG_astore (C : Cx X y cc mL ret rm) {i : Nat} {x : Nat} (hd : dcd cc pc (.astore i) 2 pc') (hn : i < mL) (ks : List Nat) (hf : lv_pick ((i, Value.ref x) :: L.filter (fun q => !(q.1 == i) && !(q.1 + 1 == i && q.2.category == 2))) ks = L') (g : wG X mL Z k N h r cl sl pc' L' st) : wG X mL Z k N h r cl sl pc L (.ref x :: st) := by
  obtain ⟨hd, rfl⟩ := hd
  intro z hz Q hQ H locs ls w S hl
  exact lv_astore C.1 C.2.1 hd hl hn rfl (fun ls' hl' => g z hz Q hQ H locs ls' w S (lv_sub hl' ks hf))
theorem wG_lstore_n (C : Cx X y cc mL ret rm) {i : Fin 4} {x : Int64} (hd : dcd cc pc (.lstore_n i) 1 pc') (hn : (i : Nat) + 1 < mL) (ks : List Nat) (hf : lv_pick (((i : Nat), Value.long x) :: L.filter (fun q => !(q.1 == (i : Nat)) && (!(q.1 == (i : Nat) + 1) && !(q.1 + 1 == (i : Nat) && q.2.category == 2)))) ks = L') (g : wG X mL Z k N h r cl sl pc' L' st) : wG X mL Z k N h r cl sl pc L (.long x :: st) := by
  obtain ⟨hd, rfl⟩ := hd
  intro z hz Q hQ H locs ls w S hl
  exact lv_lstore_n C.1 C.2.1 hd rfl hl hn rfl (fun ls' hl' => g z hz Q hQ H locs ls' w S (lv_sub hl' ks hf))
theorem wG_lstore (C : Cx X y cc mL ret rm) {i : Nat} {x : Int64} (hd : dcd cc pc (.lstore i) 2 pc') (hn : i + 1 < mL) (ks : List Nat) (hf : lv_pick ((i, Value.long x) :: L.filter (fun q => !(q.1 == i) && (!(q.1 == i + 1) && !(q.1 + 1 == i && q.2.category == 2)))) ks = L') (g : wG X mL Z k N h r cl sl pc' L' st) : wG X mL Z k N h r cl sl pc L (.long x :: st) := by
  obtain ⟨hd, rfl⟩ := hd
  intro z hz Q hQ H locs ls w S hl
  exact lv_lstore C.1 C.2.1 hd hl hn rfl (fun ls' hl' => g z hz Q hQ H locs ls' w S (lv_sub hl' ks hf))
theorem wG_iinc (C : Cx X y cc mL ret rm) {i : Nat} {n : Int} {x v : Int32} {kk : Int32 → Option ρ} {LL : Int32 → List (Nat × Value)} (hd : dcd cc pc (.iinc i n) 3 pc') (p : Nat) (hp : L[p]? = some (i, .int x)) (hv : Int32.ofInt n = v) (hn : i < mL) (ks : List Nat) (hf : ∀ x, lv_pick ((i, Value.int x) :: L.filter (fun q => !(q.1 == i) && !(q.1 + 1 == i && q.2.category == 2))) ks = LL x) (g : ∀ x, wG X mL Z (kk x) N h r cl sl pc' (LL x) st) : wG X mL Z (vB (x + v) kk) N h r cl sl pc L st := by
  obtain ⟨hd, rfl⟩ := hd
  intro z hz Q hQ H locs ls w S hl
  exact lv_iinc (v := x + v) C.1 C.2.1 hd hl hp (by rw [hv]) hn rfl (fun ls' hl' => g _ z hz Q hQ H locs ls' w S (lv_sub hl' ks (hf _)))
theorem wG_iadd (C : Cx X y cc mL ret rm) {x y1 : Int32} (hd : dcd cc pc .iadd 1 pc') (g : wG X mL Z k N h r cl sl pc' L (.int (x + y1) :: st)) : wG X mL Z k N h r cl sl pc L (.int y1 :: .int x :: st) := by
  obtain ⟨hd, rfl⟩ := hd
  intro z hz Q hQ H locs ls w S hl
  exact lv_iadd C.1 C.2.1 hd (g z hz Q hQ H locs ls w S hl)
theorem wG_isub (C : Cx X y cc mL ret rm) {x y1 : Int32} (hd : dcd cc pc .isub 1 pc') (g : wG X mL Z k N h r cl sl pc' L (.int (x - y1) :: st)) : wG X mL Z k N h r cl sl pc L (.int y1 :: .int x :: st) := by
  obtain ⟨hd, rfl⟩ := hd
  intro z hz Q hQ H locs ls w S hl
  exact lv_isub C.1 C.2.1 hd (g z hz Q hQ H locs ls w S hl)
theorem wG_imul (C : Cx X y cc mL ret rm) {x y1 : Int32} (hd : dcd cc pc .imul 1 pc') (g : wG X mL Z k N h r cl sl pc' L (.int (x * y1) :: st)) : wG X mL Z k N h r cl sl pc L (.int y1 :: .int x :: st) := by
  obtain ⟨hd, rfl⟩ := hd
  intro z hz Q hQ H locs ls w S hl
  exact lv_imul C.1 C.2.1 hd (g z hz Q hQ H locs ls w S hl)
theorem wG_iand (C : Cx X y cc mL ret rm) {x y1 : Int32} (hd : dcd cc pc .iand 1 pc') (g : wG X mL Z k N h r cl sl pc' L (.int (x &&& y1) :: st)) : wG X mL Z k N h r cl sl pc L (.int y1 :: .int x :: st) := by
  obtain ⟨hd, rfl⟩ := hd
  intro z hz Q hQ H locs ls w S hl
  exact lv_iand C.1 C.2.1 hd (g z hz Q hQ H locs ls w S hl)
theorem wG_ior (C : Cx X y cc mL ret rm) {x y1 : Int32} (hd : dcd cc pc .ior 1 pc') (g : wG X mL Z k N h r cl sl pc' L (.int (x ||| y1) :: st)) : wG X mL Z k N h r cl sl pc L (.int y1 :: .int x :: st) := by
  obtain ⟨hd, rfl⟩ := hd
  intro z hz Q hQ H locs ls w S hl
  exact lv_ior C.1 C.2.1 hd (g z hz Q hQ H locs ls w S hl)
theorem wG_ixor (C : Cx X y cc mL ret rm) {x y1 : Int32} (hd : dcd cc pc .ixor 1 pc') (g : wG X mL Z k N h r cl sl pc' L (.int (x ^^^ y1) :: st)) : wG X mL Z k N h r cl sl pc L (.int y1 :: .int x :: st) := by
  obtain ⟨hd, rfl⟩ := hd
  intro z hz Q hQ H locs ls w S hl
  exact lv_ixor C.1 C.2.1 hd (g z hz Q hQ H locs ls w S hl)
theorem wG_ishl (C : Cx X y cc mL ret rm) {x y1 : Int32} (hd : dcd cc pc .ishl 1 pc') (g : wG X mL Z k N h r cl sl pc' L (.int (x <<< (y1 &&& 31)) :: st)) : wG X mL Z k N h r cl sl pc L (.int y1 :: .int x :: st) := by
  obtain ⟨hd, rfl⟩ := hd
  intro z hz Q hQ H locs ls w S hl
  exact lv_ishl C.1 C.2.1 hd (g z hz Q hQ H locs ls w S hl)
theorem wG_ishr (C : Cx X y cc mL ret rm) {x y1 : Int32} (hd : dcd cc pc .ishr 1 pc') (g : wG X mL Z k N h r cl sl pc' L (.int (x >>> (y1 &&& 31)) :: st)) : wG X mL Z k N h r cl sl pc L (.int y1 :: .int x :: st) := by
  obtain ⟨hd, rfl⟩ := hd
  intro z hz Q hQ H locs ls w S hl
  exact lv_ishr C.1 C.2.1 hd (g z hz Q hQ H locs ls w S hl)
theorem wG_ladd (C : Cx X y cc mL ret rm) {x y1 : Int64} (hd : dcd cc pc .ladd 1 pc') (g : wG X mL Z k N h r cl sl pc' L (.long (x + y1) :: st)) : wG X mL Z k N h r cl sl pc L (.long y1 :: .long x :: st) := by
  obtain ⟨hd, rfl⟩ := hd
  intro z hz Q hQ H locs ls w S hl
  exact lv_ladd C.1 C.2.1 hd (g z hz Q hQ H locs ls w S hl)
theorem wG_lsub (C : Cx X y cc mL ret rm) {x y1 : Int64} (hd : dcd cc pc .lsub 1 pc') (g : wG X mL Z k N h r cl sl pc' L (.long (x - y1) :: st)) : wG X mL Z k N h r cl sl pc L (.long y1 :: .long x :: st) := by
  obtain ⟨hd, rfl⟩ := hd
  intro z hz Q hQ H locs ls w S hl
  exact lv_lsub C.1 C.2.1 hd (g z hz Q hQ H locs ls w S hl)
theorem wG_lmul (C : Cx X y cc mL ret rm) {x y1 : Int64} (hd : dcd cc pc .lmul 1 pc') (g : wG X mL Z k N h r cl sl pc' L (.long (x * y1) :: st)) : wG X mL Z k N h r cl sl pc L (.long y1 :: .long x :: st) := by
  obtain ⟨hd, rfl⟩ := hd
  intro z hz Q hQ H locs ls w S hl
  exact lv_lmul C.1 C.2.1 hd (g z hz Q hQ H locs ls w S hl)
theorem wG_land (C : Cx X y cc mL ret rm) {x y1 : Int64} (hd : dcd cc pc .land 1 pc') (g : wG X mL Z k N h r cl sl pc' L (.long (x &&& y1) :: st)) : wG X mL Z k N h r cl sl pc L (.long y1 :: .long x :: st) := by
  obtain ⟨hd, rfl⟩ := hd
  intro z hz Q hQ H locs ls w S hl
  exact lv_land C.1 C.2.1 hd (g z hz Q hQ H locs ls w S hl)
theorem wG_lor (C : Cx X y cc mL ret rm) {x y1 : Int64} (hd : dcd cc pc .lor 1 pc') (g : wG X mL Z k N h r cl sl pc' L (.long (x ||| y1) :: st)) : wG X mL Z k N h r cl sl pc L (.long y1 :: .long x :: st) := by
  obtain ⟨hd, rfl⟩ := hd
  intro z hz Q hQ H locs ls w S hl
  exact lv_lor C.1 C.2.1 hd (g z hz Q hQ H locs ls w S hl)
theorem wG_ineg (C : Cx X y cc mL ret rm) {x : Int32} (hd : dcd cc pc .ineg 1 pc') (g : wG X mL Z k N h r cl sl pc' L (.int (-x) :: st)) : wG X mL Z k N h r cl sl pc L (.int x :: st) := by
  obtain ⟨hd, rfl⟩ := hd
  intro z hz Q hQ H locs ls w S hl
  exact lv_ineg C.1 C.2.1 hd (g z hz Q hQ H locs ls w S hl)
theorem wG_lneg (C : Cx X y cc mL ret rm) {x : Int64} (hd : dcd cc pc .lneg 1 pc') (g : wG X mL Z k N h r cl sl pc' L (.long (-x) :: st)) : wG X mL Z k N h r cl sl pc L (.long x :: st) := by
  obtain ⟨hd, rfl⟩ := hd
  intro z hz Q hQ H locs ls w S hl
  exact lv_lneg C.1 C.2.1 hd (g z hz Q hQ H locs ls w S hl)
theorem wG_i2l (C : Cx X y cc mL ret rm) {x : Int32} (hd : dcd cc pc .i2l 1 pc') (g : wG X mL Z k N h r cl sl pc' L (.long x.toInt64 :: st)) : wG X mL Z k N h r cl sl pc L (.int x :: st) := by
  obtain ⟨hd, rfl⟩ := hd
  intro z hz Q hQ H locs ls w S hl
  exact lv_i2l C.1 C.2.1 hd rfl (g z hz Q hQ H locs ls w S hl)
theorem wG_l2i (C : Cx X y cc mL ret rm) {x : Int64} (hd : dcd cc pc .l2i 1 pc') (g : wG X mL Z k N h r cl sl pc' L (.int x.toInt32 :: st)) : wG X mL Z k N h r cl sl pc L (.long x :: st) := by
  obtain ⟨hd, rfl⟩ := hd
  intro z hz Q hQ H locs ls w S hl
  exact lv_l2i C.1 C.2.1 hd rfl (g z hz Q hQ H locs ls w S hl)
theorem wG_lushr (C : Cx X y cc mL ret rm) {x : Int64} {y1 : Int32} (hd : dcd cc pc .lushr 1 pc') (g : wG X mL Z k N h r cl sl pc' L (.long (x.toUInt64 >>> (y1.toInt64.toUInt64 &&& Int64.toUInt64 63)).toInt64 :: st)) : wG X mL Z k N h r cl sl pc L (.int y1 :: .long x :: st) := by
  obtain ⟨hd, rfl⟩ := hd
  intro z hz Q hQ H locs ls w S hl
  exact lv_lushr C.1 C.2.1 hd rfl (g z hz Q hQ H locs ls w S hl)
theorem wG_lshl (C : Cx X y cc mL ret rm) {x : Int64} {y1 : Int32} (hd : dcd cc pc .lshl 1 pc') (g : wG X mL Z k N h r cl sl pc' L (.long (x <<< (y1.toInt64 &&& 63)) :: st)) : wG X mL Z k N h r cl sl pc L (.int y1 :: .long x :: st) := by
  obtain ⟨hd, rfl⟩ := hd
  intro z hz Q hQ H locs ls w S hl
  exact lv_lshl C.1 C.2.1 hd rfl (g z hz Q hQ H locs ls w S hl)
theorem wG_lshr (C : Cx X y cc mL ret rm) {x : Int64} {y1 : Int32} (hd : dcd cc pc .lshr 1 pc') (g : wG X mL Z k N h r cl sl pc' L (.long (x >>> (y1.toInt64 &&& 63)) :: st)) : wG X mL Z k N h r cl sl pc L (.int y1 :: .long x :: st) := by
  obtain ⟨hd, rfl⟩ := hd
  intro z hz Q hQ H locs ls w S hl
  exact lv_lshr C.1 C.2.1 hd rfl (g z hz Q hQ H locs ls w S hl)
theorem wG_lcmp (C : Cx X y cc mL ret rm) {x y1 : Int64} (hd : dcd cc pc .lcmp 1 pc') (g : wG X mL Z k N h r cl sl pc' L (.int (lg_cmp x y1) :: st)) : wG X mL Z k N h r cl sl pc L (.long y1 :: .long x :: st) := by
  obtain ⟨hd, rfl⟩ := hd
  intro z hz Q hQ H locs ls w S hl
  exact W.lcmp C.1 C.2.1 hd (g z hz Q hQ H locs ls w S hl)
theorem wG_dup (C : Cx X y cc mL ret rm) {v : Value} (hd : dcd cc pc .dup 1 pc') (hv : v.category = 1) (g : wG X mL Z k N h r cl sl pc' L (v :: v :: st)) : wG X mL Z k N h r cl sl pc L (v :: st) := by
  obtain ⟨hd, rfl⟩ := hd
  intro z hz Q hQ H locs ls w S hl
  exact lv_dup C.1 C.2.1 hd hv (g z hz Q hQ H locs ls w S hl)
theorem wG_pop (C : Cx X y cc mL ret rm) {v : Value} (hd : dcd cc pc .pop 1 pc') (hv : v.category = 1) (g : wG X mL Z k N h r cl sl pc' L (st)) : wG X mL Z k N h r cl sl pc L (v :: st) := by
  obtain ⟨hd, rfl⟩ := hd
  intro z hz Q hQ H locs ls w S hl
  exact lv_pop C.1 C.2.1 hd hv (g z hz Q hQ H locs ls w S hl)
theorem wG_dup2 (C : Cx X y cc mL ret rm) {v v2 : Value} (hd : dcd cc pc .dup2 1 pc') (hv : v.category = 1) (hv2 : v2.category = 1) (g : wG X mL Z k N h r cl sl pc' L (v :: v2 :: v :: v2 :: st)) : wG X mL Z k N h r cl sl pc L (v :: v2 :: st) := by
  obtain ⟨hd, rfl⟩ := hd
  intro z hz Q hQ H locs ls w S hl
  exact lv_dup2_11 C.1 C.2.1 hd hv hv2 (g z hz Q hQ H locs ls w S hl)
theorem wG_idivK (C : Cx X y cc mL ret rm) {x y1 : Int32} (hd : dcd cc pc .idiv 1 pc') (hne : ¬ y1 = 0) (g : wG X mL Z k N h r cl sl pc' L (.int (x / y1) :: st)) : wG X mL Z k N h r cl sl pc L (.int y1 :: .int x :: st) := by
  obtain ⟨hd, rfl⟩ := hd
  intro z hz Q hQ H locs ls w S hl
  exact lv_idiv C.1 C.2.1 hd hne (g z hz Q hQ H locs ls w S hl)
theorem wG_idiv (C : Cx X y cc mL ret rm) {x y1 : Int32} (hd : dcd cc pc .idiv 1 pc') (g : wG X mL Z k N h r cl sl pc' L (.int (x / y1) :: st)) : wG X mL Z (if y1 = 0 then none else k) N h r cl sl pc L (.int y1 :: .int x :: st) := by
  by_cases h0 : y1 = 0
  · rw [if_pos h0]; exact wG_none
  · rw [if_neg h0]; exact wG_idivK C hd h0 g
theorem wG_iremK (C : Cx X y cc mL ret rm) {x y1 : Int32} (hd : dcd cc pc .irem 1 pc') (hne : ¬ y1 = 0) (g : wG X mL Z k N h r cl sl pc' L (.int (x - x / y1 * y1) :: st)) : wG X mL Z k N h r cl sl pc L (.int y1 :: .int x :: st) := by
  obtain ⟨hd, rfl⟩ := hd
  intro z hz Q hQ H locs ls w S hl
  exact lv_irem C.1 C.2.1 hd hne (g z hz Q hQ H locs ls w S hl)
theorem wG_irem (C : Cx X y cc mL ret rm) {x y1 : Int32} (hd : dcd cc pc .irem 1 pc') (g : wG X mL Z k N h r cl sl pc' L (.int (x - x / y1 * y1) :: st)) : wG X mL Z (if y1 = 0 then none else k) N h r cl sl pc L (.int y1 :: .int x :: st) := by
  by_cases h0 : y1 = 0
  · rw [if_pos h0]; exact wG_none
  · rw [if_neg h0]; exact wG_iremK C hd h0 g
theorem wG_ldivK (C : Cx X y cc mL ret rm) {x y1 : Int64} (hd : dcd cc pc .ldiv 1 pc') (hne : ¬ y1 = 0) (g : wG X mL Z k N h r cl sl pc' L (.long (x / y1) :: st)) : wG X mL Z k N h r cl sl pc L (.long y1 :: .long x :: st) := by
  obtain ⟨hd, rfl⟩ := hd
  intro z hz Q hQ H locs ls w S hl
  exact lv_ldiv C.1 C.2.1 hd hne (g z hz Q hQ H locs ls w S hl)
theorem wG_ldiv (C : Cx X y cc mL ret rm) {x y1 : Int64} (hd : dcd cc pc .ldiv 1 pc') (g : wG X mL Z k N h r cl sl pc' L (.long (x / y1) :: st)) : wG X mL Z (if y1 = 0 then none else k) N h r cl sl pc L (.long y1 :: .long x :: st) := by
  by_cases h0 : y1 = 0
  · rw [if_pos h0]; exact wG_none
  · rw [if_neg h0]; exact wG_ldivK C hd h0 g
theorem wG_lremK (C : Cx X y cc mL ret rm) {x y1 : Int64} (hd : dcd cc pc .lrem 1 pc') (hne : ¬ y1 = 0) (g : wG X mL Z k N h r cl sl pc' L (.long (x - x / y1 * y1) :: st)) : wG X mL Z k N h r cl sl pc L (.long y1 :: .long x :: st) := by
  obtain ⟨hd, rfl⟩ := hd
  intro z hz Q hQ H locs ls w S hl
  exact lv_lrem C.1 C.2.1 hd hne (g z hz Q hQ H locs ls w S hl)
theorem wG_lrem (C : Cx X y cc mL ret rm) {x y1 : Int64} (hd : dcd cc pc .lrem 1 pc') (g : wG X mL Z k N h r cl sl pc' L (.long (x - x / y1 * y1) :: st)) : wG X mL Z (if y1 = 0 then none else k) N h r cl sl pc L (.long y1 :: .long x :: st) := by
  by_cases h0 : y1 = 0
  · rw [if_pos h0]; exact wG_none
  · rw [if_neg h0]; exact wG_lremK C hd h0 g
theorem wG_icmp_eq (C : Cx X y cc mL ret rm) {x y1 : Int32} (hd : dcb cc pc (.if_icmp .eq off) off tgt pc') (gt : wG X mL Z kt N h r cl sl tgt L st) (gf : wG X mL Z kf N h r cl sl pc' L st) : wG X mL Z (if x = y1 then kt else kf) N h r cl sl pc L (.int y1 :: .int x :: st) := by
  obtain ⟨hd, ht, rfl⟩ := hd
  intro z hz Q hQ H locs ls w S hl
  refine lv_icmp_eq C.1 C.2.1 hd ht (fun q => ?_) (fun q => ?_)
  · rw [if_pos q] at hz; exact gt z hz Q hQ H locs ls w S hl
  · rw [if_neg q] at hz; exact gf z hz Q hQ H locs ls w S hl
theorem wG_if_eq (C : Cx X y cc mL ret rm) {x : Int32} (hd : dcb cc pc (.ifCond .eq off) off tgt pc') (gt : wG X mL Z kt N h r cl sl tgt L st) (gf : wG X mL Z kf N h r cl sl pc' L st) : wG X mL Z (if x = 0 then kt else kf) N h r cl sl pc L (.int x :: st) := by
  obtain ⟨hd, ht, rfl⟩ := hd
  intro z hz Q hQ H locs ls w S hl
  refine lv_if_eq C.1 C.2.1 hd ht (fun q => ?_) (fun q => ?_)
  · rw [if_pos q] at hz; exact gt z hz Q hQ H locs ls w S hl
  · rw [if_neg q] at hz; exact gf z hz Q hQ H locs ls w S hl
theorem wG_icmp_ne (C : Cx X y cc mL ret rm) {x y1 : Int32} (hd : dcb cc pc (.if_icmp .ne off) off tgt pc') (gf : wG X mL Z kf N h r cl sl pc' L st) (gt : wG X mL Z kt N h r cl sl tgt L st) : wG X mL Z (if x = y1 then kf else kt) N h r cl sl pc L (.int y1 :: .int x :: st) := by
  obtain ⟨hd, ht, rfl⟩ := hd
  intro z hz Q hQ H locs ls w S hl
  refine lv_icmp_ne C.1 C.2.1 hd ht (fun q => ?_) (fun q => ?_)
  · rw [if_neg q] at hz; exact gt z hz Q hQ H locs ls w S hl
  · rw [if_pos q] at hz; exact gf z hz Q hQ H locs ls w S hl
theorem wG_if_ne (C : Cx X y cc mL ret rm) {x : Int32} (hd : dcb cc pc (.ifCond .ne off) off tgt pc') (gf : wG X mL Z kf N h r cl sl pc' L st) (gt : wG X mL Z kt N h r cl sl tgt L st) : wG X mL Z (if x = 0 then kf else kt) N h r cl sl pc L (.int x :: st) := by
  obtain ⟨hd, ht, rfl⟩ := hd
  intro z hz Q hQ H locs ls w S hl
  refine lv_if_ne C.1 C.2.1 hd ht (fun q => ?_) (fun q => ?_)
  · rw [if_neg q] at hz; exact gt z hz Q hQ H locs ls w S hl
  · rw [if_pos q] at hz; exact gf z hz Q hQ H locs ls w S hl
theorem wG_icmp_lt (C : Cx X y cc mL ret rm) {x y1 : Int32} (hd : dcb cc pc (.if_icmp .lt off) off tgt pc') (gt : wG X mL Z kt N h r cl sl tgt L st) (gf : wG X mL Z kf N h r cl sl pc' L st) : wG X mL Z (if x < y1 then kt else kf) N h r cl sl pc L (.int y1 :: .int x :: st) := by
  obtain ⟨hd, ht, rfl⟩ := hd
  intro z hz Q hQ H locs ls w S hl
  refine lv_icmp_lt C.1 C.2.1 hd ht (fun q => ?_) (fun q => ?_)
  · rw [if_pos q] at hz; exact gt z hz Q hQ H locs ls w S hl
  · rw [if_neg q] at hz; exact gf z hz Q hQ H locs ls w S hl
theorem wG_if_lt (C : Cx X y cc mL ret rm) {x : Int32} (hd : dcb cc pc (.ifCond .lt off) off tgt pc') (gt : wG X mL Z kt N h r cl sl tgt L st) (gf : wG X mL Z kf N h r cl sl pc' L st) : wG X mL Z (if x < 0 then kt else kf) N h r cl sl pc L (.int x :: st) := by
  obtain ⟨hd, ht, rfl⟩ := hd
  intro z hz Q hQ H locs ls w S hl
  refine lv_if_lt C.1 C.2.1 hd ht (fun q => ?_) (fun q => ?_)
  · rw [if_pos q] at hz; exact gt z hz Q hQ H locs ls w S hl
  · rw [if_neg q] at hz; exact gf z hz Q hQ H locs ls w S hl
theorem wG_icmp_ge (C : Cx X y cc mL ret rm) {x y1 : Int32} (hd : dcb cc pc (.if_icmp .ge off) off tgt pc') (gt : wG X mL Z kt N h r cl sl tgt L st) (gf : wG X mL Z kf N h r cl sl pc' L st) : wG X mL Z (if y1 ≤ x then kt else kf) N h r cl sl pc L (.int y1 :: .int x :: st) := by
  obtain ⟨hd, ht, rfl⟩ := hd
  intro z hz Q hQ H locs ls w S hl
  refine lv_icmp_ge C.1 C.2.1 hd ht (fun q => ?_) (fun q => ?_)
  · rw [if_pos q] at hz; exact gt z hz Q hQ H locs ls w S hl
  · rw [if_neg q] at hz; exact gf z hz Q hQ H locs ls w S hl
theorem wG_if_ge (C : Cx X y cc mL ret rm) {x : Int32} (hd : dcb cc pc (.ifCond .ge off) off tgt pc') (gt : wG X mL Z kt N h r cl sl tgt L st) (gf : wG X mL Z kf N h r cl sl pc' L st) : wG X mL Z (if 0 ≤ x then kt else kf) N h r cl sl pc L (.int x :: st) := by
  obtain ⟨hd, ht, rfl⟩ := hd
  intro z hz Q hQ H locs ls w S hl
  refine lv_if_ge C.1 C.2.1 hd ht (fun q => ?_) (fun q => ?_)
  · rw [if_pos q] at hz; exact gt z hz Q hQ H locs ls w S hl
  · rw [if_neg q] at hz; exact gf z hz Q hQ H locs ls w S hl
theorem wG_icmp_gt (C : Cx X y cc mL ret rm) {x y1 : Int32} (hd : dcb cc pc (.if_icmp .gt off) off tgt pc') (gt : wG X mL Z kt N h r cl sl tgt L st) (gf : wG X mL Z kf N h r cl sl pc' L st) : wG X mL Z (if y1 < x then kt else kf) N h r cl sl pc L (.int y1 :: .int x :: st) := by
  obtain ⟨hd, ht, rfl⟩ := hd
  intro z hz Q hQ H locs ls w S hl
  refine lv_icmp_gt C.1 C.2.1 hd ht (fun q => ?_) (fun q => ?_)
  · rw [if_pos q] at hz; exact gt z hz Q hQ H locs ls w S hl
  · rw [if_neg q] at hz; exact gf z hz Q hQ H locs ls w S hl
theorem wG_if_gt (C : Cx X y cc mL ret rm) {x : Int32} (hd : dcb cc pc (.ifCond .gt off) off tgt pc') (gt : wG X mL Z kt N h r cl sl tgt L st) (gf : wG X mL Z kf N h r cl sl pc' L st) : wG X mL Z (if 0 < x then kt else kf) N h r cl sl pc L (.int x :: st) := by
  obtain ⟨hd, ht, rfl⟩ := hd
  intro z hz Q hQ H locs ls w S hl
  refine lv_if_gt C.1 C.2.1 hd ht (fun q => ?_) (fun q => ?_)
  · rw [if_pos q] at hz; exact gt z hz Q hQ H locs ls w S hl
  · rw [if_neg q] at hz; exact gf z hz Q hQ H locs ls w S hl
theorem wG_icmp_le (C : Cx X y cc mL ret rm) {x y1 : Int32} (hd : dcb cc pc (.if_icmp .le off) off tgt pc') (gt : wG X mL Z kt N h r cl sl tgt L st) (gf : wG X mL Z kf N h r cl sl pc' L st) : wG X mL Z (if x ≤ y1 then kt else kf) N h r cl sl pc L (.int y1 :: .int x :: st) := by
  obtain ⟨hd, ht, rfl⟩ := hd
  intro z hz Q hQ H locs ls w S hl
  refine lv_icmp_le C.1 C.2.1 hd ht (fun q => ?_) (fun q => ?_)
  · rw [if_pos q] at hz; exact gt z hz Q hQ H locs ls w S hl
  · rw [if_neg q] at hz; exact gf z hz Q hQ H locs ls w S hl
theorem wG_if_le (C : Cx X y cc mL ret rm) {x : Int32} (hd : dcb cc pc (.ifCond .le off) off tgt pc') (gt : wG X mL Z kt N h r cl sl tgt L st) (gf : wG X mL Z kf N h r cl sl pc' L st) : wG X mL Z (if x ≤ 0 then kt else kf) N h r cl sl pc L (.int x :: st) := by
  obtain ⟨hd, ht, rfl⟩ := hd
  intro z hz Q hQ H locs ls w S hl
  refine lv_if_le C.1 C.2.1 hd ht (fun q => ?_) (fun q => ?_)
  · rw [if_pos q] at hz; exact gt z hz Q hQ H locs ls w S hl
  · rw [if_neg q] at hz; exact gf z hz Q hQ H locs ls w S hl
theorem wG_goto (C : Cx X y cc mL ret rm) (hd : dcb cc pc (.goto off) off tgt pc') (g : wG X mL Z k N h r cl sl tgt L st) : wG X mL Z k N h r cl sl pc L st := by
  obtain ⟨hd, ht, -⟩ := hd
  intro z hz Q hQ H locs ls w S hl
  exact lv_goto C.1 C.2.1 hd ht (g z hz Q hQ H locs ls w S hl)
/-- a field of class number c, place j, as the pool of 'own' names it at idx -/
def fL (own : String) (idx c j : Nat) : Prop := ∃ (Cn : String) (T : u_T) (nn : Nat) (ref : String), cls[c]? = some (Cn, T, nn) ∧ nn = nF c ∧ c < 12 ∧ j < nn ∧ Cond.fieldLink own idx ref (T j).2.1 (T j).2.2.1 ∈ BIG ∧ (ref = (T j).1 ∨ Cond.sameField ref (T j).1 (T j).2.1 (T j).2.2.1 ∈ BIG) ∧ ∀ w ∈ u_ws Cn T nn, w ∈ BIG
theorem wG_getf (C : Cx X y cc mL ret rm) {idx c j a : Nat} (hf : fL y.cls idx c j) (hk : Kd a = c) (ha : a < N) (hd : dcd cc pc (.getfield idx) 3 pc') {v : Value} (hv : fv (xB X) c (h a) (r a) j = v) (g : wG X mL Z k N h r cl sl pc' L (v :: st)) : wG X mL Z k N h r cl sl pc L (.ref (xB X + a) :: st) := by
  obtain ⟨hd, rfl⟩ := hd
  obtain ⟨Cn, T, nn, ref, hc, hnn, hc12, hj, hlk, hsm, hin⟩ := hf
  subst hnn
  intro z hz Q hQ H locs ls w S hl
  obtain ⟨cell, q1, q2, q3, q4⟩ := w.ob ha hk hc12
  have hK := C.2.2.2.2.2.2.2.2.2.1
  have hts := C.2.2.2.2.1
  obtain ⟨hS, hfc, kC, hkC, hkind⟩ := hK.1 c _ hc
  obtain ⟨cf, kf, fi, f, hi, hsl⟩ := hS j hj
  have hsame : ∀ x, (xs X).fieldFound? (T j).1 (T j).2.1 (T j).2.2.1 = some x → (xs X).fieldFound? ref (T j).2.1 (T j).2.2.1 = some x := by
    rcases hsm with rfl | hsm
    · exact fun _ q => q
    · exact fun x q => u_same (hts _ hsm) x q
  refine W.getf C.1 C.2.1 C.2.2.2.1 (hts _ hlk) (hsame _ hi) (u_facts hfc hkC (u_lays hts hin hj) hi).1 q1 (by rw [q3]; exact fun q => by cases q) (v := v) ?_ rfl rfl hd (g z hz Q hQ H locs ls w S hl)
  rw [hsl, q4 j hj, hv]
theorem fv_i {b c j : Nat} {f : Nat → Int32} {g : Nat → Option Nat} (hr : rF c j = false) : fv b c f g j = .int (f j) := by
  unfold fv
  rw [if_neg (by rw [hr]; exact Bool.false_ne_true)]
theorem fv_r {b c j a : Nat} {f : Nat → Int32} {g : Nat → Option Nat} (hr : rF c j = true) (ha : g j = some a) : fv b c f g j = .ref (b + a) := by
  unfold fv
  rw [if_pos hr, ha]
  rfl
theorem wG_getI (C : Cx X y cc mL ret rm) {idx c j a : Nat} (hf : fL y.cls idx c j) (hr : rF c j = false) (hk : Kd a = c) (ha : a < N) (hd : dcd cc pc (.getfield idx) 3 pc') (g : wG X mL Z k N h r cl sl pc' L (.int (h a j) :: st)) : wG X mL Z k N h r cl sl pc L (.ref (xB X + a) :: st) := wG_getf C hf hk ha hd (fv_i hr) g
theorem wG_getR (C : Cx X y cc mL ret rm) {idx c j a b : Nat} (hf : fL y.cls idx c j) (hr : rF c j = true) (hk : Kd a = c) (ha : a < N) (hb : r a j = some b) (hd : dcd cc pc (.getfield idx) 3 pc') (g : wG X mL Z k N h r cl sl pc' L (.ref (xB X + b) :: st)) : wG X mL Z k N h r cl sl pc L (.ref (xB X + a) :: st) := wG_getf C hf hk ha hd (fv_r hr hb) g
/-- what may be put into a field: its type, whether it is final -/
def fP (c j : Nat) (fin : Bool) (own : String) (ty : FieldType) : Prop := ∃ (Cn : String) (T : u_T) (nn : Nat) (ty0 : Nat → FieldType), cls[c]? = some (Cn, T, nn) ∧ (∀ k, k < nn → parseFieldDescriptor (T k).2.2.1 = some (ty0 k)) ∧ (∀ a, a < nn → ∀ b, b < nn → a ≠ b → (T a).2.1 ≠ (T b).2.1) ∧ (T j).2.2.2 = fin ∧ (fin = true → (T j).1 = own) ∧ ty0 j = ty
theorem wG_put0 (C : Cx X y cc mL ret rm) {idx c j a : Nat} {fin : Bool} {ty : FieldType} (hf : fL y.cls idx c j) (hp : fP c j fin y.cls ty) (hfn : fin = true → y.name = "<init>") (hk : Kd a = c) (ha : a < N) {v : Value} (hn : narrow ty v = v) (hfit : fits ty v = true) (hd : dcd cc pc (.putfield idx) 3 pc')
    {h' : Hp} {r' : Rp} (hv : fv (xB X) c (h' a) (r' a) j = v) (ho : ∀ i, i ≠ j → fv (xB X) c (h' a) (r' a) i = fv (xB X) c (h a) (r a) i) (hh : ∀ q, q ≠ a → h' q = h q) (hr : ∀ q, q ≠ a → r' q = r q) (ht : ∀ j b, r' 43 j = some b → 137 ≤ b ∧ b < N ∨ r 43 j = some b)
    (g : wG X mL Z k N h' r' cl sl pc' L st) : wG X mL Z k N h r cl sl pc L (v :: .ref (xB X + a) :: st) := by
  obtain ⟨hd, rfl⟩ := hd
  obtain ⟨Cn, T, nn, ref, hc, hnn, hc12, hj, hlk, hsm, hin⟩ := hf
  obtain ⟨Cn', T', nn', ty0, hc', hty, hnm, hfin, hown2, hty0⟩ := hp
  cases hc.symm.trans hc'
  subst hnn
  subst hty0
  intro z hz Q hQ H locs ls w S hl
  have hK := C.2.2.2.2.2.2.2.2.2.1
  have hts := C.2.2.2.2.1
  have hap := va_apart (own := y.cls) hts hin ty0 hty hnm hK hc
  obtain ⟨cell, q1, q2, q3, q4⟩ := w.ob ha hk hc12
  obtain ⟨hS, hfc, kC, hkC, hkind⟩ := hK.1 c _ hc
  obtain ⟨cf, kf, fi, f, hi, hsl⟩ := hS j hj
  have hsame : ∀ x, (xs X).fieldFound? (T j).1 (T j).2.1 (T j).2.2.1 = some x → (xs X).fieldFound? ref (T j).2.1 (T j).2.2.1 = some x := by
    rcases hsm with rfl | hsm
    · exact fun _ q => q
    · exact fun x q => u_same (hts _ hsm) x q
  have hst := (u_facts hfc hkC (u_lays hts hin hj) hi).1
  have key : ∀ H1 : Heap, H1[xB X + a]? = some (cell.setSlot f.slot v) → H1.size = H.size → (∀ q, q ≠ xB X + a → H1[q]? = H[q]?) → W (xp X) (xl X) (xe X) (xR X) (xs X) (xm X) (xa X) (xb X) (xM X) (xc X) H1 (locs ++ [⟨xB X + a, f.slot⟩]) cl sl Q (F0 (xm X) (pc + 3) ls st) := by
    intro H1 e1 e2 e3
    rw [hsl] at e1
    refine g z hz Q hQ H1 _ ls (w.set a ha e2 e3 ?_ hh hr ?_) (S.put e2 e3 (Nat.le_add_right _ _)) hl
    · rw [hk]
      unfold atK
      rw [if_pos hc12]
      refine t_OB.to (V := updV (fv (xB X) c (h a) (r a)) j v) ⟨_, e1, q2, q3, t_set q4 hap hj v⟩ (fun i _ => ?_)
      by_cases e : i = j
      · subst e; simp [updV, hv]
      · simp [updV, e, ho i e]
    · intro j b q
      rcases ht j b q with q | q
      · exact q
      · exact w.2.2 j b q
  cases fin with
  | false =>
    have hlay := hts _ (hin _ (u_in_lay hj))
    unfold u_lay at hlay
    rw [if_neg (by rw [hfin]; decide)] at hlay
    have h6 := u_store hfc hkC hkind hlay hi (hty j hj) hn hfit
    exact W.putK C.1 C.2.1 (f := f) ⟨C.2.2.2.1, hts _ hlk, ⟨_, _, _, hsame _ hi⟩, hst⟩ (by rw [q2]; exact h6) q1 q3 (by rw [hsl]; exact k2_hasslot (q4 j hj)) rfl rfl hd key
  | true =>
    have hlay := hts _ (hin _ (u_in_lay hj))
    unfold u_lay at hlay
    rw [if_pos hfin] at hlay
    have hcf : (xm X).cls = cf := by
      obtain ⟨_, _, c', _, _, _, -, -, hf', -, -, -, hown3, -⟩ := Cond.laysFinal_spec hlay
      have e1 : c' = cf := by have := hi.symm.trans hf'; simp at this; exact this.1.symm
      rw [hown2 rfl] at hown3
      rw [← e1]; exact Option.some.inj (C.2.2.2.1.symm.trans hown3)
    have h6 := u_fits hfc hkC hkind (Or.inr hlay) hi (hty j hj) hn hfit
    exact W.putFinK C.1 C.2.1 C.2.2.2.1 (hts _ hlk) (hsame _ hi) hst hcf (C.2.2.2.2.2.2.2.1.trans (hfn rfl)) (by rw [q2]; exact h6) q1 q3 (by rw [hsl]; exact k2_hasslot (q4 j hj)) rfl rfl hd key
theorem fv_set {b c j : Nat} {h : Hp} {r : Rp} {a : Nat} {v : Int32} (hr : rF c j = false) : fv b c (u2 h a j v a) (r a) j = .int v := by
  rw [fv_i hr, u2_self]; simp
theorem fv_keep {b c j : Nat} {h : Hp} {r : Rp} {a : Nat} {v : Int32} {i : Nat} (e : i ≠ j) : fv b c (u2 h a j v a) (r a) i = fv b c (h a) (r a) i := by
  rw [u2_self]; simp [fv, e]
theorem wG_putI (C : Cx X y cc mL ret rm) {idx c j a : Nat} {fin : Bool} {v : Int32} {kk : Hp → Option ρ} (hf : fL y.cls idx c j) (hp : fP c j fin y.cls .int) (hfn : fin = true → y.name = "<init>") (hr : rF c j = false) (hk : Kd a = c) (ha : a < N) (hd : dcd cc pc (.putfield idx) 3 pc')
    (g : ∀ h', wG X mL Z (kk h') N h' r cl sl pc' L st) : wG X mL Z (vB (u2 h a j v) kk) N h r cl sl pc L (.int v :: .ref (xB X + a) :: st) :=
  wG_put0 (h' := u2 h a j v) (r' := r) C hf hp hfn hk ha rfl rfl hd (fv_set hr) (fun _ e => fv_keep e) (fun _ e => u2_ne _ _ _ e) (fun _ _ => rfl) (fun _ _ q => Or.inr q) (g _)
theorem wG_putZ (C : Cx X y cc mL ret rm) {idx c j a : Nat} {fin : Bool} {v : Int32} {kk : Hp → Option ρ} (hf : fL y.cls idx c j) (hp : fP c j fin y.cls .boolean) (hfn : fin = true → y.name = "<init>") (hr : rF c j = false) (hk : Kd a = c) (ha : a < N) (hn : narrow .boolean (.int v) = .int v) (hfit : fits .boolean (.int v) = true) (hd : dcd cc pc (.putfield idx) 3 pc')
    (g : ∀ h', wG X mL Z (kk h') N h' r cl sl pc' L st) : wG X mL Z (vB (u2 h a j v) kk) N h r cl sl pc L (.int v :: .ref (xB X + a) :: st) :=
  wG_put0 (h' := u2 h a j v) (r' := r) C hf hp hfn hk ha hn hfit hd (fv_set hr) (fun _ e => fv_keep e) (fun _ e => u2_ne _ _ _ e) (fun _ _ => rfl) (fun _ _ q => Or.inr q) (g _)
theorem wG_putR (C : Cx X y cc mL ret rm) {idx c j a b : Nat} {fin : Bool} {ty : FieldType} {kk : Rp → Option ρ} (hf : fL y.cls idx c j) (hp : fP c j fin y.cls ty) (hfn : fin = true → y.name = "<init>") (hr : rF c j = true) (hk : Kd a = c) (ha : a < N) (hty : (∃ n, ty = .object n) ∨ ∃ t, ty = .array t) (h43 : a ≠ 43) (hd : dcd cc pc (.putfield idx) 3 pc')
    (g : ∀ r', wG X mL Z (kk r') N h r' cl sl pc' L st) : wG X mL Z (vB (u2 r a j (some b)) kk) N h r cl sl pc L (.ref (xB X + b) :: .ref (xB X + a) :: st) := by
  refine wG_put0 (h' := h) (r' := u2 r a j (some b)) C hf hp hfn hk ha (v := .ref (xB X + b)) ?_ ?_ hd ?_ ?_ (fun _ _ => rfl) (fun _ e => u2_ne _ _ _ e) (fun i q hq => Or.inr (by rw [u2_ne _ _ _ (Ne.symm h43)] at hq; exact hq)) (g _)
  · rcases hty with ⟨n, rfl⟩ | ⟨t, rfl⟩ <;> rfl
  · rcases hty with ⟨n, rfl⟩ | ⟨t, rfl⟩ <;> rfl
  · exact fv_r hr (by rw [u2_self]; simp)
  · intro i e
    rw [u2_self]; simp [fv, e]
-- arrays
theorem Cx.arr (C : Cx X y cc mL ret rm) (t0 : Nat) {q : ClassId × FieldType} (ht : (tys (xE X))[t0]? = some q) : ArrOfT (xs X) q.1 q.2 := (C.2.2.2.2.2.2.2.2.2.1.2 t0 _ ht).1
theorem wG_iald (C : Cx X y cc mL ret rm) {a n : Nat} {i : Int32} (hk : Kd a = 12) (ha : a < N) (hn : Ln a = n) (hd : dcd cc pc .iaload 1 pc') (g : wG X mL Z k N h r cl sl pc' L (.int (h a (ix i)) :: st)) : wG X mL Z (if inB i n then k else none) N h r cl sl pc L (.int i :: .ref (xB X + a) :: st) := by
  obtain ⟨hd, rfl⟩ := hd
  subst hn
  intro z hz Q hQ H locs ls w S hl
  by_cases hin : inB i (Ln a)
  · rw [if_pos hin] at hz
    exact W.iald (v := .int (h a (ix i))) C.1 C.2.1 (w.ai ha hk (by decide) (by decide)) (C.arr 0 rfl _ _) (fun q => by cases q) (by rw [arrV_size]; exact hin.vp) (by rw [arrV_read _ _ (ix_lt hin)]) rfl rfl hd (g z hz Q hQ H locs ls w S hl)
  · rw [if_neg hin] at hz; cases hz
theorem wG_zald (C : Cx X y cc mL ret rm) {a n : Nat} {i : Int32} (hk : Kd a = 13) (ha : a < N) (hn : Ln a = n) (hd : dcd cc pc .baload 1 pc') (g : wG X mL Z k N h r cl sl pc' L (.int (h a (ix i)) :: st)) : wG X mL Z (if inB i n then k else none) N h r cl sl pc L (.int i :: .ref (xB X + a) :: st) := by
  obtain ⟨hd, rfl⟩ := hd
  subst hn
  intro z hz Q hQ H locs ls w S hl
  by_cases hin : inB i (Ln a)
  · rw [if_pos hin] at hz
    exact W.zald (v := .int (h a (ix i))) C.1 C.2.1 (w.ai ha hk (by decide) (by decide)) (C.arr 1 rfl _ _) (fun q => by cases q) (by rw [arrV_size]; exact hin.vp) (by rw [arrV_read _ _ (ix_lt hin)]) rfl rfl hd (g z hz Q hQ H locs ls w S hl)
  · rw [if_neg hin] at hz; cases hz
theorem atK_ai {E : wE} {a c : Nat} {f : Nat → Int32} {g : Nat → Option Nat} {H : Heap} (hk : Kd a = c) (hc : ¬ c < 12) (hc2 : c < 14) (h : H[eB E + a]? = some (arrV (eC E c) (Ln a) (fun j => .int (f j)))) : atK E (Kd a) a f g H := by
  rw [hk]
  unfold atK
  rw [if_neg hc, if_pos hc2]
  exact h
theorem atK_ar {E : wE} {a c : Nat} {f : Nat → Int32} {g : Nat → Option Nat} {H : Heap} (hk : Kd a = c) (hc : ¬ c < 12) (hc2 : ¬ c < 14) (h : H[eB E + a]? = some (arrV (eC E c) (Ln a) (fun j => va_rf ((g j).map (fun q => eB E + q))))) : atK E (Kd a) a f g H := by
  rw [hk]
  unfold atK
  rw [if_neg hc, if_neg hc2]
  exact h
theorem wG_iast (C : Cx X y cc mL ret rm) {a n : Nat} {i v : Int32} {kk : Hp → Option ρ} (hk : Kd a = 12) (ha : a < N) (hn : Ln a = n) (hd : dcd cc pc .iastore 1 pc') (g : ∀ h', wG X mL Z (kk h') N h' r cl sl pc' L st) : wG X mL Z (if inB i n then vB (u2 h a (ix i) v) kk else none) N h r cl sl pc L (.int v :: .int i :: .ref (xB X + a) :: st) := by
  obtain ⟨hd, rfl⟩ := hd
  subst hn
  intro z hz Q hQ H locs ls w S hl
  by_cases hin : inB i (Ln a)
  · rw [if_pos hin] at hz
    refine W.iast C.1 C.2.1 (w.ai ha hk (by decide) (by decide)) (C.arr 0 rfl _ _) (fun q => by cases q) (by rw [arrV_size]; exact hin.vp) rfl rfl hd fun H1 e zz oq => ?_
    refine g (u2 h a (ix i) v) z hz Q hQ H1 _ ls (w.set a ha zz oq (atK_ai hk (by decide) (by decide) ?_) (fun _ e => u2_ne _ _ _ e) (fun _ _ => rfl) w.2.2) (S.put zz oq (Nat.le_add_right _ _)) hl
    rw [e, arrV_store, u2_self]
    congr 2
    funext q
    by_cases hq : q = ix i
    · subst hq; simp [updV]
    · simp [updV, hq]
  · rw [if_neg hin] at hz; cases hz
theorem wG_zast (C : Cx X y cc mL ret rm) {a n : Nat} {i v : Int32} {kk : Hp → Option ρ} (hk : Kd a = 13) (ha : a < N) (hn : Ln a = n) (hv : narrow .boolean (.int v) = .int v) (hd : dcd cc pc .bastore 1 pc') (g : ∀ h', wG X mL Z (kk h') N h' r cl sl pc' L st) : wG X mL Z (if inB i n then vB (u2 h a (ix i) v) kk else none) N h r cl sl pc L (.int v :: .int i :: .ref (xB X + a) :: st) := by
  obtain ⟨hd, rfl⟩ := hd
  subst hn
  intro z hz Q hQ H locs ls w S hl
  by_cases hin : inB i (Ln a)
  · rw [if_pos hin] at hz
    refine W.zast C.1 C.2.1 (w.ai ha hk (by decide) (by decide)) (C.arr 1 rfl _ _) (fun q => by cases q) (by rw [arrV_size]; exact hin.vp) rfl rfl hd fun H1 e zz oq => ?_
    refine g (u2 h a (ix i) v) z hz Q hQ H1 _ ls (w.set a ha zz oq (atK_ai hk (by decide) (by decide) ?_) (fun _ e => u2_ne _ _ _ e) (fun _ _ => rfl) w.2.2) (S.put zz oq (Nat.le_add_right _ _)) hl
    rw [e, hv, arrV_store, u2_self]
    congr 2
    funext q
    by_cases hq : q = ix i
    · subst hq; simp [updV]
    · simp [updV, hq]
  · rw [if_neg hin] at hz; cases hz
theorem Cx.arrR (C : Cx X y cc mL ret rm) {c : Nat} {Cn : String} (hc : (tys (xE X))[c - 12]? = some (eC (xE X) c, .object Cn)) : ArrOfT (xs X) (eC (xE X) c) (.object Cn) := C.arr (c - 12) hc
/-- a reference out of an array: its place is the number b -/
theorem wG_aald (C : Cx X y cc mL ret rm) {a n c : Nat} {i : Int32} {Cn : String} {kk : Nat → Option ρ} (hk : Kd a = c) (hc : ¬ c < 12) (hc2 : ¬ c < 14) (hty : (tys (xE X))[c - 12]? = some (eC (xE X) c, .object Cn)) (ha : a < N) (hn : Ln a = n) (hd : dcd cc pc .aaload 1 pc') (g : ∀ b, r a (ix i) = some b → wG X mL Z (kk b) N h r cl sl pc' L (.ref (xB X + b) :: st)) : wG X mL Z (if inB i n then (r a (ix i)).bind kk else none) N h r cl sl pc L (.int i :: .ref (xB X + a) :: st) := by
  obtain ⟨hd, rfl⟩ := hd
  subst hn
  intro z hz Q hQ H locs ls w S hl
  by_cases hin : inB i (Ln a)
  · rw [if_pos hin] at hz
    cases hb : r a (ix i) with
    | none => rw [hb] at hz; cases hz
    | some b =>
      rw [hb] at hz
      exact W.aald (v := .ref (xB X + b)) (ty := .object Cn) C.1 C.2.1 (w.ar ha hk hc hc2) (C.arrR hty _ _) rfl (fun q => by cases q) (by rw [arrV_size]; exact hin.vp) (by rw [arrV_read _ _ (ix_lt hin), hb]; rfl) rfl rfl hd (g b hb z hz Q hQ H locs ls w S hl)
  · rw [if_neg hin] at hz; cases hz
theorem wG_alen (C : Cx X y cc mL ret rm) {a : Nat} {v : Int32} (hk : Kd a = 12) (ha : a < N) (hn : (Ln a).toInt32 = v) (hd : dcd cc pc .arraylength 1 pc') (g : wG X mL Z k N h r cl sl pc' L (.int v :: st)) : wG X mL Z k N h r cl sl pc L (.ref (xB X + a) :: st) := by
  obtain ⟨hd, rfl⟩ := hd
  intro z hz Q hQ H locs ls w S hl
  exact W.alen (n := v) C.1 C.2.1 (w.ai ha hk (by decide) (by decide)) (C.arr 0 rfl _ _) (by rw [arrV_size]; exact hn) rfl rfl hd (g z hz Q hQ H locs ls w S hl)
end ROWS
