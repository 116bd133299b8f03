/-! THE CLAIM OUT OF ONE WALK OF THE LAW'S BODY (the skeleton's rows) -/
def R_lawS : String := "WheelAndWireLaw"
def lw_P (b : Addr) (xs : List Int32) (args : Array Value) (s : State) : Prop := args = #[.ref b] ∧ s.IntsAt b xs ∧ xs.length ≤ 3072 ∧ (Jvm.Cond.and given_1 narrow_1).before args s = true
def lw_Q (_ : Array Value) (s : State) (o : Outcome) (t : State) : Prop := o = .returned (some (.int 1)) ∧ Framed s o t [] 600000 7302250
def lw_Z (below : List Frame) (a : Array Value) (s : State) : State → Prop := fun t => ∃ o, t.status = .running ∧ Ended t below o ∧ lw_Q a s o t
/-- the law's own end, with 1 on the stack, nothing written that was there before, its room as the claim has it -/
theorem lw_ret {p : Program} {l : Launch} {e : Env} {s : State} {m : MethodId} {below : List Frame} {meth : Method} {c : Code} {b : Nat} (hx : p.tables.exec = Jvm.exec) (hb : c.code = code) (hr : meth.sig.returnType = ret) (hlocks : meth.locks = false) {pc : Nat} {H : Heap} {ls : Array Slot} (hdg : decode code pc = .ok (.ireturn, 1)) : W p l e room_1 s m #[Value.ref b] below meth c H [] 600000 7302250 (lw_Z below #[Value.ref b] s) (F0 m pc ls [.int 1]) := by
  intro T hT X
  obtain ⟨fs, hret, hrun, hended, hW, hframe⟩ := X.leave (v := some (.int 1)) (hlocks := hlocks) (fun h => by rw [hr] at h; cases h)
  have hmeth' : T.vm.method? m = some meth := X.method'
  refine ⟨T.setFrames fs, ?_, .returned (some (.int 1)), hrun, hended, rfl, ⟨_, rfl⟩, hW, hframe⟩
  jvm_step X.here [X.here.top, hx, hb, hdg, hmeth', hr, ret, narrow_b1]
  (try refine ⟨rfl, ?_⟩); (try refine ⟨rfl, ?_⟩)
  first | (intro acts; rw [hret _ acts rfl rfl rfl]) | rw [hret _ _ rfl rfl rfl]
  exact Steps.refl _
/-- what holds at the law's entry: the machine, the code, the tables' words (any of lw_tbl by 'hts w (by decide +kernel)'), the script of L ints xs at the cell b, what the Statement gives of the start (any of its parts by flat_of_before) -/
def lw_At (p : Program) (s : State) (m : MethodId) (meth : Method) (c : Code) (b L : Nat) (xs : Nat → Int32) : Prop :=
  p.tables.exec = Jvm.exec ∧ c.code = code ∧ meth.sig.returnType = ret ∧ c.maxLocals = 4 ∧ s.vm.findClass R_lawS = some m.cls ∧ (∀ w ∈ lw_tbl, w.before #[Value.ref b] s = true) ∧ va_X b L xs s s.heap ∧ b < s.heap.size ∧ meth.locks = false ∧ (Jvm.Cond.and given_1 narrow_1).before #[Value.ref b] s = true ∧ meth.name = "law"
/-- THE CLAIM'S WALK, out of a pure invariant -/
theorem whole_run (Inv : Nat → Nat → Hp → Qp → Prop) (h137 : ∀ k N h q, Inv k N h q → 137 ≤ N) (hI : ∃ u, f_start (fun _ _ => 0) = some u ∧ Inv 0 137 u (fun _ => none))
    (hS : ∀ (sc : Nat → Int32) (Ls : Nat), Ls ≤ 3072 → ∀ k N h q, Inv k N h q → 6 * k + 6 ≤ Ls → ∃ t, f_step sc Ls (nI (6 * k)) q N h = some t ∧ Inv (k + 1) t.1 t.2.1 t.2.2)
    {p : Program} {e : Env} {s : State} {m : MethodId} {below : List Frame} {meth : Method} {c : Code} (l : Launch) {b L : Nat} {xs : Nat → Int32} (hL : L ≤ 3072) (C0 : lw_At p s m meth c b L xs) : W p l e room_1 s m #[Value.ref b] below meth c s.heap [] 0 0 (lw_Z below #[Value.ref b] s) (entryFrame m ([Value.ref b] : List Value).toArray 4) := by
  obtain ⟨hx, hb, hr, hml, hown, hts, hX, hbl, hlocks, hgv, hnm⟩ := id C0
  obtain ⟨E, hB, hK, hSp, hSt⟩ := law_E hts hgv
  have htB : ∀ w ∈ BIG, w.before #[Value.ref b] s = true := fun w h => hts w (List.mem_filter.mp h).1
  obtain ⟨X, hXe⟩ : ∃ X : wX, X = (p, l, e, room_1, s, m, #[Value.ref b], below, meth, c, E) := ⟨_, rfl⟩
  have C : Cx X x code 4 (some .boolean) room_1 := by
    subst hXe
    exact ⟨hx, hb, hml, hown, htB, hlocks, hr, hnm, rfl, hK, hSp, hSt, Nat.le_of_eq hB⟩
  have D : scr X b L xs := by
    subst hXe
    exact ⟨hX, hbl, hB⟩
  obtain ⟨u, hu, hI0⟩ := hI
  have hQ : ∀ N h q, gQ X 4 (lw_Z below #[Value.ref b] s) N h (rq q) 600000 7302250 1457 [] [.int 1] := by
    subst hXe
    intro N h q H locs ls w S hl
    refine va_forget (fun q hq => ?_) (lw_ret hx hb hr hlocks dL_law_1457)
    have := S.2.2 q hq
    exact Nat.le_trans (Nat.le_of_eq hB.symm) this
  have hloop := law_loop C D hL Inv h137 (hS xs L hL) hQ (L + 1) 0 137 u (fun _ => none) (by omega) (by decide) hI0
  have hst : gQ X 4 (lw_Z below #[Value.ref b] s) 137 u R_law 137 35306 18 [(0, .ref b), (1, .ref (xB X + 0)), (2, .ref (xB X + 111)), (3, .int 0)] [] := fun H locs ls w S hl => hloop H locs ls (wd_stand w) S hl
  have g := w_start (b := b) C (fun _ _ => 0) u hu _ hst
  subst hXe
  have hl := lv_entry ([.ref b]) (n := 4) (Nat.le_of_ble_eq_true rfl)
  rw [lg_entry_eq]
  exact g s.heap [] _ ⟨by show s.heap.size = eB E + 0; rw [hB]; rfl, fun k hk => absurd hk (Nat.not_lt_zero k), fun j a q => by cases q⟩ va_S.rf hl
