def rm_X10_append : Room := { frames := 0, cells := 0, slots := 0, locals := 0 }
def L_X10_append_5 (x2 : Int64) : Nat → Int32 → Hp → Option Hp
  | 0, _, _ => none
  | n + 1, x4_2, h_3 =>
    (if x4_2 < 0 then
    some h_3
    else
    (if (48 : Int32) ≤ (h_3 1 1) then
    some h_3
    else
    if inB (h_3 1 1) 48 then vB (u2 h_3 2 (ix (h_3 1 1)) (((x2.toUInt64 >>> ((8 * x4_2).toInt64.toUInt64 &&& Int64.toUInt64 63)).toInt64).toInt32 &&& 255)) fun h_5 =>
    vB (u2 h_5 1 1 ((h_5 1 1) + 1)) fun h_6 =>
    vB (x4_2 + (-1)) fun (x4_7 : Int32) =>
    L_X10_append_5 x2 n x4_7 h_6 else none))
def f_X10_append (h : Hp) (x1 : Int32) (x2 : Int64) : Option Hp :=
  vB (x1 - 1) fun (x4_1 : Int32) =>
  (L_X10_append_5 x2 FU x4_1 h).bind fun t_4 =>
  some t_4
set_option maxRecDepth 4000 in
theorem wL_X10_append_5 {X : wX} (C : Cx X yX10_append cX10_append 5 none rm_X10_append) {N : Nat} {q : Qp} (hN : 137 ≤ N) (h : Hp) (x1 : Int32) (x2 : Int64) (x4_1 : Int32) : ∀ n x4_2 h_3, wG X 5 (fun (t_4 : Hp) Q => gQ X 5 Q N t_4 (rq q) 0 0 56 [] []) (L_X10_append_5 x2 n x4_2 h_3) N h_3 (rq q) 0 0 5 [(0, .ref (xB X + 1)), (2, .long x2), (4, .int x4_2)] [] := by
  intro n
  induction n with
  | zero => intro _ _; exact wG_none
  | succ n ih =>
    intro x4_2 h_3
    refine wG_of (L_X10_append_5.eq_2 ..) ?_
    refine wG_iload C dX10_append_5 2 rfl ?_
    refine wG_if_lt C dX10_append_7 ?_ ?_
    · exact wG_exit (fun Q e => gQ_lv [] rfl e)
    · refine wG_aload_n C dX10_append_10 0 rfl ?_
      refine wG_getI C fl_X10_15_10 rfl kd_1 (wll hN (by decide)) dX10_append_11 ?_
      refine wG_bipush C dX10_append_14 (v := 48) (by decide) ?_
      refine wG_icmp_ge C dX10_append_16 ?_ ?_
      · exact wG_exit (fun Q e => gQ_lv [] rfl e)
      · refine wG_aload_n C dX10_append_19 0 rfl ?_
        refine wG_getR C fl_X10_9_10 rfl kd_1 (wll hN (by decide)) (rf_1_0 q) dX10_append_20 ?_
        refine wG_aload_n C dX10_append_23 0 rfl ?_
        refine wG_getI C fl_X10_15_10 rfl kd_1 (wll hN (by decide)) dX10_append_24 ?_
        refine wG_lload_n C dX10_append_27 1 rfl ?_
        refine wG_bipush C dX10_append_28 (v := 8) (by decide) ?_
        refine wG_iload C dX10_append_30 2 rfl ?_
        refine wG_imul C dX10_append_32 ?_
        refine wG_lushr C dX10_append_33 ?_
        refine wG_l2i C dX10_append_34 ?_
        refine wG_sipush C dX10_append_35 (v := 255) (by decide) ?_
        refine wG_iand C dX10_append_38 ?_
        refine wG_iast C kd_2 (wll hN (by decide)) ln_2 dX10_append_39 (fun h_5 => ?_)
        refine wG_aload_n C dX10_append_40 0 rfl ?_
        refine wG_dup C dX10_append_41 rfl ?_
        refine wG_getI C fl_X10_15_10 rfl kd_1 (wll hN (by decide)) dX10_append_42 ?_
        refine wG_iconst C dX10_append_45 (v := 1) (by decide) ?_
        refine wG_iadd C dX10_append_46 ?_
        refine wG_putI C fl_X10_15_10 (fp_10_1 _) (fun e => Bool.noConfusion e) rfl kd_1 (wll hN (by decide)) dX10_append_47 (fun h_6 => ?_)
        refine wG_iinc C (v := (-1)) (LL := fun x4_7 => [(0, .ref (xB X + 1)), (2, .long x2), (4, .int x4_7)]) dX10_append_50 2 rfl (by decide) (by decide) [1, 2, 0] (fun _ => rfl) (fun x4_7 => ?_)
        refine wG_goto C dX10_append_53 ?_
        exact wG_lv [0, 1, 2] rfl (ih x4_7 h_6)
set_option maxRecDepth 4000 in
theorem w_X10_append {X : wX} (C : Cx X yX10_append cX10_append 5 none rm_X10_append) {N : Nat} {q : Qp} (hN : 137 ≤ N) (h : Hp) (x1 : Int32) (x2 : Int64) : wG X 5 (eM X (fun u => (none, N, u, (rq q)))) (f_X10_append h x1 x2) N h (rq q) 0 0 0 [(0, .ref (xB X + 1)), (1, .int x1), (2, .long x2)] [] := by
  refine wG_of (f_X10_append.eq_1 ..) ?_
  refine wG_iload_n C dX10_append_0 1 rfl ?_
  refine wG_iconst C dX10_append_1 (v := 1) (by decide) ?_
  refine wG_isub C dX10_append_2 ?_
  refine wG_nmI (fun x4_1 => ?_)
  refine wG_istore C (L' := [(0, .ref (xB X + 1)), (2, .long x2), (4, .int x4_1)]) dX10_append_3 (by decide) [1, 3, 0] rfl ?_
  refine wG_lv (L' := [(0, .ref (xB X + 1)), (2, .long x2), (4, .int x4_1)]) [0, 1, 2] rfl ?_
  refine wG_bind (wL_X10_append_5 C hN h x1 x2 x4_1 FU x4_1 h) (fun t_4 => (?_ : wG X 5 _ _ N t_4 (rq q) 0 0 56 [] []))
  exact wG_vret C dX10_append_56 ⟨by decide, by decide⟩ (fun _ e => e)
theorem c_X10_append (l : Launch) (E : wE) (N : Nat) (q : Qp) (hN : 137 ≤ N) (h : Hp) (x1 : Int32) (x2 : Int64) : ∀ z, f_X10_append h x1 x2 = some z → CT l E yX10_append cX10_append 5 none rm_X10_append [.ref (eB E + 1), .int x1, .long x2] N h (rq q) ((fun u => (none, N, u, (rq q))) z) := CT.of (by decide +kernel) (Nat.le_of_ble_eq_true rfl) (fun X _ e C => by subst e; exact w_X10_append C hN h x1 x2)
def rm_X11_write : Room := { frames := 1, cells := 0, slots := 0, locals := 24 }
def f_X11_write (h : Hp) (x1 : Int32) (x2 : Int64) : Option (Int32 × Hp) :=
  (if x1 < 1 then
  some ((-2), h)
  else
  (if x1 ≤ 8 then
  (if ((h 1 1) + x1) ≤ 48 then
  (f_X10_append h x1 x2).bind fun u_1 =>
  some ((u_1 1 1), u_1)
  else
  some ((-4), h))
  else
  some ((-2), h)))
set_option maxRecDepth 4000 in
theorem w_X11_write {X : wX} (C : Cx X yX11_write cX11_write 4 (some .int) rm_X11_write) {N : Nat} {q : Qp} (hN : 137 ≤ N) (h : Hp) (x1 : Int32) (x2 : Int64) : wG X 4 (eM X (fun u => (some (.int u.1), N, u.2, (rq q)))) (f_X11_write h x1 x2) N h (rq q) 0 0 0 [(0, .ref (xB X + 0)), (1, .int x1), (2, .long x2)] [] := by
  refine wG_of (f_X11_write.eq_1 ..) ?_
  refine wG_iload_n C dX11_write_0 1 rfl ?_
  refine wG_iconst C dX11_write_1 (v := 1) (by decide) ?_
  refine wG_icmp_lt C dX11_write_2 ?_ ?_
  · refine wG_bipush C dX11_write_11 (v := (-2)) (by decide) ?_
    exact wG_iret C dX11_write_13 ⟨by decide, by decide⟩ (fun _ e => e)
  · refine wG_iload_n C dX11_write_5 1 rfl ?_
    refine wG_bipush C dX11_write_6 (v := 8) (by decide) ?_
    refine wG_icmp_le C dX11_write_8 ?_ ?_
    · refine wG_aload_n C dX11_write_14 0 rfl ?_
      refine wG_getR C fl_X11_12_11 rfl kd_0 (wll hN (by decide)) (rf_0_0 q) dX11_write_15 ?_
      refine wG_getI C fl_X11_80_10 rfl kd_1 (wll hN (by decide)) dX11_write_18 ?_
      refine wG_iload_n C dX11_write_21 1 rfl ?_
      refine wG_iadd C dX11_write_22 ?_
      refine wG_bipush C dX11_write_23 (v := 48) (by decide) ?_
      refine wG_icmp_le C dX11_write_25 ?_ ?_
      · refine wG_aload_n C dX11_write_31 0 rfl ?_
        refine wG_getR C fl_X11_12_11 rfl kd_0 (wll hN (by decide)) (rf_0_0 q) dX11_write_32 ?_
        refine wG_iload_n C dX11_write_35 1 rfl ?_
        refine wG_lload_n C dX11_write_36 2 rfl ?_
        refine wG_cV_wv [.int x1, .long x2] [] C vw_X11_83 (c_X10_append (xl X) (xE X) N q hN h x1 x2) kd_1 (wll hN (by decide)) (by decide) rfl rfl (Nat.le_of_ble_eq_true rfl) dX11_write_37 (cl' := 0) (sl' := 0) rfl rfl (fun u_1 => ?_)
        refine wG_aload_n C dX11_write_40 0 rfl ?_
        refine wG_getR C fl_X11_12_11 rfl kd_0 (wll hN (by decide)) (rf_0_0 q) dX11_write_41 ?_
        refine wG_getI C fl_X11_80_10 rfl kd_1 (wll hN (by decide)) dX11_write_44 ?_
        exact wG_iret C dX11_write_47 ⟨by decide, by decide⟩ (fun _ e => e)
      · refine wG_bipush C dX11_write_28 (v := (-4)) (by decide) ?_
        exact wG_iret C dX11_write_30 ⟨by decide, by decide⟩ (fun _ e => e)
    · refine wG_bipush C dX11_write_11 (v := (-2)) (by decide) ?_
      exact wG_iret C dX11_write_13 ⟨by decide, by decide⟩ (fun _ e => e)
theorem c_X11_write (l : Launch) (E : wE) (N : Nat) (q : Qp) (hN : 137 ≤ N) (h : Hp) (x1 : Int32) (x2 : Int64) : ∀ z, f_X11_write h x1 x2 = some z → CT l E yX11_write cX11_write 4 (some .int) rm_X11_write [.ref (eB E + 0), .int x1, .long x2] N h (rq q) ((fun u => (some (.int u.1), N, u.2, (rq q))) z) := CT.of (by decide +kernel) (Nat.le_of_ble_eq_true rfl) (fun X _ e C => by subst e; exact w_X11_write C hN h x1 x2)
def rm_X11_wipe : Room := { frames := 0, cells := 0, slots := 0, locals := 0 }
def f_X11_wipe (h : Hp) : Option (Int32 × Hp) :=
  vB (h 1 1) fun (x1_1 : Int32) =>
  vB (u2 h 1 1 0) fun h_2 =>
  some (x1_1, h_2)
set_option maxRecDepth 4000 in
theorem w_X11_wipe {X : wX} (C : Cx X yX11_wipe cX11_wipe 2 (some .int) rm_X11_wipe) {N : Nat} {q : Qp} (hN : 137 ≤ N) (h : Hp) : wG X 2 (eM X (fun u => (some (.int u.1), N, u.2, (rq q)))) (f_X11_wipe h) N h (rq q) 0 0 0 [(0, .ref (xB X + 0))] [] := by
  refine wG_of (f_X11_wipe.eq_1 ..) ?_
  refine wG_aload_n C dX11_wipe_0 0 rfl ?_
  refine wG_getR C fl_X11_12_11 rfl kd_0 (wll hN (by decide)) (rf_0_0 q) dX11_wipe_1 ?_
  refine wG_getI C fl_X11_80_10 rfl kd_1 (wll hN (by decide)) dX11_wipe_4 ?_
  refine wG_nmI (fun x1_1 => ?_)
  refine wG_istore_n C (L' := [(0, .ref (xB X + 0)), (1, .int x1_1)]) dX11_wipe_7 (by decide) [1, 0] rfl ?_
  refine wG_aload_n C dX11_wipe_8 0 rfl ?_
  refine wG_getR C fl_X11_12_11 rfl kd_0 (wll hN (by decide)) (rf_0_0 q) dX11_wipe_9 ?_
  refine wG_iconst C dX11_wipe_12 (v := 0) (by decide) ?_
  refine wG_putI C fl_X11_80_10 (fp_10_1 _) (fun e => Bool.noConfusion e) rfl kd_1 (wll hN (by decide)) dX11_wipe_13 (fun h_2 => ?_)
  refine wG_iload_n C dX11_wipe_16 1 rfl ?_
  exact wG_iret C dX11_wipe_17 ⟨by decide, by decide⟩ (fun _ e => e)
theorem c_X11_wipe (l : Launch) (E : wE) (N : Nat) (q : Qp) (hN : 137 ≤ N) (h : Hp) : ∀ z, f_X11_wipe h = some z → CT l E yX11_wipe cX11_wipe 2 (some .int) rm_X11_wipe [.ref (eB E + 0)] N h (rq q) ((fun u => (some (.int u.1), N, u.2, (rq q))) z) := CT.of (by decide +kernel) (Nat.le_of_ble_eq_true rfl) (fun X _ e C => by subst e; exact w_X11_wipe C hN h)
def rm_X11_kindOf : Room := { frames := 0, cells := 0, slots := 0, locals := 0 }
def f_X11_kindOf (x0 : Int32) : Option Int32 :=
  (if x0 = 65 then
  some 2
  else
  (if x0 = 80 then
  some 0
  else
  (if x0 = 82 then
  some 1
  else
  some (-9))))
set_option maxRecDepth 4000 in
theorem w_X11_kindOf {X : wX} (C : Cx X yX11_kindOf cX11_kindOf 1 (some .int) rm_X11_kindOf) {N : Nat} {q : Qp} (hN : 137 ≤ N) (h : Hp) (x0 : Int32) : wG X 1 (eM X (fun u => (some (.int u), N, h, (rq q)))) (f_X11_kindOf x0) N h (rq q) 0 0 0 [(0, .int x0)] [] := by
  refine wG_of (f_X11_kindOf.eq_1 ..) ?_
  refine wG_iload_n C dX11_kindOf_0 0 rfl ?_
  refine wG_if (fun c0 => ?_) (fun c0 => ?_)
  · refine wG_lsw C (tgt := 40) (39) dX11_kindOf_1 (by decide) (by rw [c0]; decide) (by decide) ?_
    refine wG_iconst C dX11_kindOf_40 (v := 2) (by decide) ?_
    exact wG_iret C dX11_kindOf_41 ⟨by decide, by decide⟩ (fun _ e => e)
  · refine wG_if (fun c1 => ?_) (fun c1 => ?_)
    · refine wG_lsw C (tgt := 36) (35) dX11_kindOf_1 (by decide) (by rw [c1]; decide) (by decide) ?_
      refine wG_iconst C dX11_kindOf_36 (v := 0) (by decide) ?_
      exact wG_iret C dX11_kindOf_37 ⟨by decide, by decide⟩ (fun _ e => e)
    · refine wG_if (fun c2 => ?_) (fun c2 => ?_)
      · refine wG_lsw C (tgt := 38) (37) dX11_kindOf_1 (by decide) (by rw [c2]; decide) (by decide) ?_
        refine wG_iconst C dX11_kindOf_38 (v := 1) (by decide) ?_
        exact wG_iret C dX11_kindOf_39 ⟨by decide, by decide⟩ (fun _ e => e)
      · refine wG_lsw C (tgt := 42) (41) dX11_kindOf_1 (by decide) (by show Op.lookupswitch.offset _ _ _ = _; rw [lv_osw c0 (by decide)]; rw [lv_osw c1 (by decide)]; rw [lv_osw c2 (by decide)]; rfl) (by decide) ?_
        refine wG_bipush C dX11_kindOf_42 (v := (-9)) (by decide) ?_
        exact wG_iret C dX11_kindOf_44 ⟨by decide, by decide⟩ (fun _ e => e)
theorem c_X11_kindOf (l : Launch) (E : wE) (N : Nat) (q : Qp) (hN : 137 ≤ N) (h : Hp) (x0 : Int32) : ∀ z, f_X11_kindOf x0 = some z → CT l E yX11_kindOf cX11_kindOf 1 (some .int) rm_X11_kindOf [.int x0] N h (rq q) ((fun u => (some (.int u), N, h, (rq q))) z) := CT.of (by decide +kernel) (Nat.le_of_ble_eq_true rfl) (fun X _ e C => by subst e; exact w_X11_kindOf C hN h x0)
def rm_X10_firstFault : Room := { frames := 1, cells := 0, slots := 0, locals := 20 }
def L_X10_firstFault_9 (h : Hp) (K : (Int32 × Int32) → Option Int32) : Nat → Int32 → Int32 → Int32 → Int32 → Option Int32
  | 0, _, _, _, _ => none
  | n + 1, x1_5, x2_6, x3_7, x4_8 =>
    (if (h 1 1) ≤ x4_8 then
    K (x2_6, x3_7)
    else
    if inB x4_8 48 then
    vK (fun (t_10 : (Int32 × Int32 × Int32)) =>
    vB (x4_8 + 1) fun (x4_12 : Int32) =>
    L_X10_firstFault_9 h K n t_10.1 t_10.2.1 t_10.2.2 x4_12) fun K_11 =>
    (if (h 2 (ix x4_8)) = 47 then
    (if x2_6 = 0 then
    some x4_8
    else
    (if x2_6 < x3_7 then
    some x4_8
    else
    (if x1_5 = 6 then
    some x4_8
    else
    vB x2_6 fun (x3_16 : Int32) =>
    vB (x1_5 + 1) fun (x1_17 : Int32) =>
    vB 0 fun (x2_18 : Int32) =>
    K_11 (x1_17, x2_18, x3_16))))
    else
    if inB x4_8 48 then
    (f_X11_kindOf (h 2 (ix x4_8))).bind fun u_13 =>
    (if u_13 = (-9) then
    some x4_8
    else
    ((if x3_7 = 0 then
    some 6
    else
    some x3_7)).bind fun t_14 =>
    (if x2_6 = t_14 then
    some x4_8
    else
    vB (x2_6 + 1) fun (x2_15 : Int32) =>
    K_11 (x1_5, x2_15, x3_7))) else none) else none)
def f_X10_firstFault (h : Hp) : Option Int32 :=
  vB 1 fun (x1_1 : Int32) =>
  vB 0 fun (x2_2 : Int32) =>
  vB 0 fun (x3_3 : Int32) =>
  vB 0 fun (x4_4 : Int32) =>
  L_X10_firstFault_9 h (fun (t_9 : (Int32 × Int32)) =>
  vK (fun (t_19 : Unit) =>
  some (h 1 1)) fun K_20 =>
  (if t_9.1 = 0 then
  K_20 ()
  else
  (if t_9.2 ≤ t_9.1 then
  some (-9)
  else
  K_20 ()))) FU x1_1 x2_2 x3_3 x4_4
set_option maxRecDepth 4000 in
theorem wL_X10_firstFault_9 {X : wX} (C : Cx X yX10_firstFault cX10_firstFault 5 (some .int) rm_X10_firstFault) {N : Nat} {q : Qp} (hN : 137 ≤ N) (h : Hp) (x1_1 : Int32) (x2_2 : Int32) (x3_3 : Int32) (x4_4 : Int32) (K : (Int32 × Int32) → Option Int32) (hK : ∀ t_9, wG X 5 (eM X (fun u => (some (.int u), N, h, (rq q)))) (K t_9) N h (rq q) 0 0 99 [(0, .ref (xB X + 1)), (2, .int t_9.1), (3, .int t_9.2)] []) : ∀ n x1_5 x2_6 x3_7 x4_8, wG X 5 (eM X (fun u => (some (.int u), N, h, (rq q)))) (L_X10_firstFault_9 h K n x1_5 x2_6 x3_7 x4_8) N h (rq q) 0 0 9 [(0, .ref (xB X + 1)), (1, .int x1_5), (2, .int x2_6), (3, .int x3_7), (4, .int x4_8)] [] := by
  intro n
  induction n with
  | zero => intro _ _ _ _; exact wG_none
  | succ n ih =>
    intro x1_5 x2_6 x3_7 x4_8
    refine wG_of (L_X10_firstFault_9.eq_2 ..) ?_
    refine wG_iload C dX10_firstFault_9 4 rfl ?_
    refine wG_aload_n C dX10_firstFault_11 0 rfl ?_
    refine wG_getI C fl_X10_15_10 rfl kd_1 (wll hN (by decide)) dX10_firstFault_12 ?_
    refine wG_icmp_ge C dX10_firstFault_15 ?_ ?_
    · exact wG_lv [0, 2, 3] rfl (hK (x2_6, x3_7))
    · refine wG_aload_n C dX10_firstFault_18 0 rfl ?_
      refine wG_getR C fl_X10_9_10 rfl kd_1 (wll hN (by decide)) (rf_1_0 q) dX10_firstFault_19 ?_
      refine wG_iload C dX10_firstFault_22 4 rfl ?_
      refine wG_iald C kd_2 (wll hN (by decide)) ln_2 dX10_firstFault_24 ?_
      refine wG_bipush C dX10_firstFault_25 (v := 47) (by decide) ?_
      refine wG_vK (fun t_10 => (?_ : wG X 5 _ _ N h (rq q) 0 0 93 [(0, .ref (xB X + 1)), (1, .int t_10.1), (2, .int t_10.2.1), (3, .int t_10.2.2), (4, .int x4_8)] [])) (fun K_11 hK_K_11 => ?_)
      · refine wG_iinc C (v := 1) (LL := fun x4_12 => [(0, .ref (xB X + 1)), (1, .int t_10.1), (2, .int t_10.2.1), (3, .int t_10.2.2), (4, .int x4_12)]) dX10_firstFault_93 4 rfl (by decide) (by decide) [1, 2, 3, 4, 0] (fun _ => rfl) (fun x4_12 => ?_)
        refine wG_goto C dX10_firstFault_96 ?_
        exact wG_lv [0, 1, 2, 3, 4] rfl (ih t_10.1 t_10.2.1 t_10.2.2 x4_12)
      · refine wG_icmp_ne C dX10_firstFault_27 ?_ ?_
        · refine wG_iload_n C dX10_firstFault_30 2 rfl ?_
          refine wG_if_eq C dX10_firstFault_31 ?_ ?_
          · refine wG_iload C dX10_firstFault_45 4 rfl ?_
            exact wG_iret C dX10_firstFault_47 ⟨by decide, by decide⟩ (fun _ e => e)
          · refine wG_iload_n C dX10_firstFault_34 2 rfl ?_
            refine wG_iload_n C dX10_firstFault_35 3 rfl ?_
            refine wG_icmp_lt C dX10_firstFault_36 ?_ ?_
            · refine wG_iload C dX10_firstFault_45 4 rfl ?_
              exact wG_iret C dX10_firstFault_47 ⟨by decide, by decide⟩ (fun _ e => e)
            · refine wG_iload_n C dX10_firstFault_39 1 rfl ?_
              refine wG_bipush C dX10_firstFault_40 (v := 6) (by decide) ?_
              refine wG_icmp_ne C dX10_firstFault_42 ?_ ?_
              · refine wG_iload C dX10_firstFault_45 4 rfl ?_
                exact wG_iret C dX10_firstFault_47 ⟨by decide, by decide⟩ (fun _ e => e)
              · refine wG_iload_n C dX10_firstFault_48 2 rfl ?_
                refine wG_nmI (fun x3_16 => ?_)
                refine wG_istore_n C (L' := [(0, .ref (xB X + 1)), (1, .int x1_5), (3, .int x3_16), (4, .int x4_8)]) dX10_firstFault_49 (by decide) [1, 2, 0, 4] rfl ?_
                refine wG_iinc C (v := 1) (LL := fun x1_17 => [(0, .ref (xB X + 1)), (1, .int x1_17), (3, .int x3_16), (4, .int x4_8)]) dX10_firstFault_50 1 rfl (by decide) (by decide) [1, 0, 2, 3] (fun _ => rfl) (fun x1_17 => ?_)
                refine wG_iconst C dX10_firstFault_53 (v := 0) (by decide) ?_
                refine wG_nmI (fun x2_18 => ?_)
                refine wG_istore_n C (L' := [(0, .ref (xB X + 1)), (1, .int x1_17), (2, .int x2_18), (3, .int x3_16), (4, .int x4_8)]) dX10_firstFault_54 (by decide) [1, 2, 0, 3, 4] rfl ?_
                refine wG_goto C dX10_firstFault_55 ?_
                exact wG_lv [0, 1, 2, 3, 4] rfl (hK_K_11 (x1_17, x2_18, x3_16))
        · refine wG_aload_n C dX10_firstFault_58 0 rfl ?_
          refine wG_getR C fl_X10_9_10 rfl kd_1 (wll hN (by decide)) (rf_1_0 q) dX10_firstFault_59 ?_
          refine wG_iload C dX10_firstFault_62 4 rfl ?_
          refine wG_iald C kd_2 (wll hN (by decide)) ln_2 dX10_firstFault_64 ?_
          refine wG_cSN_ri [.int (h 2 (ix x4_8))] [] C nw_X10_19 (c_X11_kindOf (xl X) (xE X) N q hN h (h 2 (ix x4_8))) (by decide) rfl rfl (Nat.le_of_ble_eq_true rfl) dX10_firstFault_65 (cl' := 0) (sl' := 0) rfl rfl (fun u_13 => ?_)
          refine wG_bipush C dX10_firstFault_68 (v := (-9)) (by decide) ?_
          refine wG_icmp_eq C dX10_firstFault_70 ?_ ?_
          · refine wG_iload C dX10_firstFault_87 4 rfl ?_
            exact wG_iret C dX10_firstFault_89 ⟨by decide, by decide⟩ (fun _ e => e)
          · refine wG_iload_n C dX10_firstFault_73 2 rfl ?_
            refine wG_iload_n C dX10_firstFault_74 3 rfl ?_
            refine wG_bind (J := (fun (t_14 : Int32) Q => gQ X 5 Q N h (rq q) 0 0 84 [(0, .ref (xB X + 1)), (1, .int x1_5), (2, .int x2_6), (3, .int x3_7), (4, .int x4_8)] [.int t_14, .int x2_6])) ?_ (fun t_14 => (?_ : wG X 5 _ _ N h (rq q) 0 0 84 [(0, .ref (xB X + 1)), (1, .int x1_5), (2, .int x2_6), (3, .int x3_7), (4, .int x4_8)] [.int t_14, .int x2_6]))
            · refine wG_if_ne C dX10_firstFault_75 ?_ ?_
              · refine wG_bipush C dX10_firstFault_78 (v := 6) (by decide) ?_
                refine wG_goto C dX10_firstFault_80 ?_
                exact wG_exit (fun Q e => gQ_lv [0, 1, 2, 3, 4] rfl e)
              · refine wG_iload_n C dX10_firstFault_83 3 rfl ?_
                exact wG_exit (fun Q e => gQ_lv [0, 1, 2, 3, 4] rfl e)
            · refine wG_icmp_ne C dX10_firstFault_84 ?_ ?_
              · refine wG_iload C dX10_firstFault_87 4 rfl ?_
                exact wG_iret C dX10_firstFault_89 ⟨by decide, by decide⟩ (fun _ e => e)
              · refine wG_iinc C (v := 1) (LL := fun x2_15 => [(0, .ref (xB X + 1)), (1, .int x1_5), (2, .int x2_15), (3, .int x3_7), (4, .int x4_8)]) dX10_firstFault_90 2 rfl (by decide) (by decide) [1, 2, 0, 3, 4] (fun _ => rfl) (fun x2_15 => ?_)
                exact wG_lv [0, 1, 2, 3, 4] rfl (hK_K_11 (x1_5, x2_15, x3_7))
set_option maxRecDepth 4000 in
theorem w_X10_firstFault {X : wX} (C : Cx X yX10_firstFault cX10_firstFault 5 (some .int) rm_X10_firstFault) {N : Nat} {q : Qp} (hN : 137 ≤ N) (h : Hp) : wG X 5 (eM X (fun u => (some (.int u), N, h, (rq q)))) (f_X10_firstFault h) N h (rq q) 0 0 0 [(0, .ref (xB X + 1))] [] := by
  refine wG_of (f_X10_firstFault.eq_1 ..) ?_
  refine wG_iconst C dX10_firstFault_0 (v := 1) (by decide) ?_
  refine wG_nmI (fun x1_1 => ?_)
  refine wG_istore_n C (L' := [(0, .ref (xB X + 1)), (1, .int x1_1)]) dX10_firstFault_1 (by decide) [1, 0] rfl ?_
  refine wG_iconst C dX10_firstFault_2 (v := 0) (by decide) ?_
  refine wG_nmI (fun x2_2 => ?_)
  refine wG_istore_n C (L' := [(0, .ref (xB X + 1)), (1, .int x1_1), (2, .int x2_2)]) dX10_firstFault_3 (by decide) [1, 2, 0] rfl ?_
  refine wG_iconst C dX10_firstFault_4 (v := 0) (by decide) ?_
  refine wG_nmI (fun x3_3 => ?_)
  refine wG_istore_n C (L' := [(0, .ref (xB X + 1)), (1, .int x1_1), (2, .int x2_2), (3, .int x3_3)]) dX10_firstFault_5 (by decide) [1, 2, 3, 0] rfl ?_
  refine wG_iconst C dX10_firstFault_6 (v := 0) (by decide) ?_
  refine wG_nmI (fun x4_4 => ?_)
  refine wG_istore C (L' := [(0, .ref (xB X + 1)), (1, .int x1_1), (2, .int x2_2), (3, .int x3_3), (4, .int x4_4)]) dX10_firstFault_7 (by decide) [1, 2, 3, 4, 0] rfl ?_
  refine wG_lv (L' := [(0, .ref (xB X + 1)), (1, .int x1_1), (2, .int x2_2), (3, .int x3_3), (4, .int x4_4)]) [0, 1, 2, 3, 4] rfl ?_
  refine wL_X10_firstFault_9 C hN h x1_1 x2_2 x3_3 x4_4 _ (fun t_9 => (?_ : wG X 5 _ _ N h (rq q) 0 0 99 [(0, .ref (xB X + 1)), (2, .int t_9.1), (3, .int t_9.2)] [])) FU x1_1 x2_2 x3_3 x4_4
  refine wG_iload_n C dX10_firstFault_99 1 rfl ?_
  refine wG_vK (fun t_19 => (?_ : wG X 5 _ _ N h (rq q) 0 0 108 [(0, .ref (xB X + 1))] [])) (fun K_20 hK_K_20 => ?_)
  · refine wG_aload_n C dX10_firstFault_108 0 rfl ?_
    refine wG_getI C fl_X10_15_10 rfl kd_1 (wll hN (by decide)) dX10_firstFault_109 ?_
    refine wG_goto C dX10_firstFault_112 ?_
    exact wG_iret C dX10_firstFault_117 ⟨by decide, by decide⟩ (fun _ e => e)
  · refine wG_if_eq C dX10_firstFault_100 ?_ ?_
    · exact wG_lv [0] rfl (hK_K_20 ())
    · refine wG_iload_n C dX10_firstFault_103 1 rfl ?_
      refine wG_iload_n C dX10_firstFault_104 2 rfl ?_
      refine wG_icmp_ge C dX10_firstFault_105 ?_ ?_
      · refine wG_bipush C dX10_firstFault_115 (v := (-9)) (by decide) ?_
        exact wG_iret C dX10_firstFault_117 ⟨by decide, by decide⟩ (fun _ e => e)
      · exact wG_lv [0] rfl (hK_K_20 ())
theorem c_X10_firstFault (l : Launch) (E : wE) (N : Nat) (q : Qp) (hN : 137 ≤ N) (h : Hp) : ∀ z, f_X10_firstFault h = some z → CT l E yX10_firstFault cX10_firstFault 5 (some .int) rm_X10_firstFault [.ref (eB E + 1)] N h (rq q) ((fun u => (some (.int u), N, h, (rq q))) z) := CT.of (by decide +kernel) (Nat.le_of_ble_eq_true rfl) (fun X _ e C => by subst e; exact w_X10_firstFault C hN h)
def rm_X11_fault : Room := { frames := 2, cells := 0, slots := 0, locals := 44 }
def f_X11_fault (h : Hp) : Option Int32 :=
  (f_X10_firstFault h).bind fun u_1 =>
  some u_1
set_option maxRecDepth 4000 in
theorem w_X11_fault {X : wX} (C : Cx X yX11_fault cX11_fault 1 (some .int) rm_X11_fault) {N : Nat} {q : Qp} (hN : 137 ≤ N) (h : Hp) : wG X 1 (eM X (fun u => (some (.int u), N, h, (rq q)))) (f_X11_fault h) N h (rq q) 0 0 0 [(0, .ref (xB X + 0))] [] := by
  refine wG_of (f_X11_fault.eq_1 ..) ?_
  refine wG_aload_n C dX11_fault_0 0 rfl ?_
  refine wG_getR C fl_X11_12_11 rfl kd_0 (wll hN (by decide)) (rf_0_0 q) dX11_fault_1 ?_
  refine wG_cV_ri [] [] C vw_X11_87 (c_X10_firstFault (xl X) (xE X) N q hN h) kd_1 (wll hN (by decide)) (by decide) rfl rfl (Nat.le_of_ble_eq_true rfl) dX11_fault_4 (cl' := 0) (sl' := 0) rfl rfl (fun u_1 => ?_)
  exact wG_iret C dX11_fault_7 ⟨by decide, by decide⟩ (fun _ e => e)
theorem c_X11_fault (l : Launch) (E : wE) (N : Nat) (q : Qp) (hN : 137 ≤ N) (h : Hp) : ∀ z, f_X11_fault h = some z → CT l E yX11_fault cX11_fault 1 (some .int) rm_X11_fault [.ref (eB E + 0)] N h (rq q) ((fun u => (some (.int u), N, h, (rq q))) z) := CT.of (by decide +kernel) (Nat.le_of_ble_eq_true rfl) (fun X _ e C => by subst e; exact w_X11_fault C hN h)
def rm_X4_kindAt : Room := { frames := 0, cells := 0, slots := 0, locals := 0 }
def f_X4_kindAt (h : Hp) (x1 : Int32) (x2 : Int32) : Option Int32 :=
  if inB ((x1 * 6) + x2) 36 then
  vB (h 4 (ix ((x1 * 6) + x2))) fun (x3_1 : Int32) =>
  (if x3_1 = 1 then
  some x3_1
  else
  (if x3_1 = 2 then
  some x3_1
  else
  some 0)) else none
set_option maxRecDepth 4000 in
theorem w_X4_kindAt {X : wX} (C : Cx X yX4_kindAt cX4_kindAt 4 (some .int) rm_X4_kindAt) {N : Nat} {r : Rp} (hN : 7 ≤ N) (hF : r 3 0 = some 4 ∧ r 3 1 = some 5 ∧ r 3 2 = some 6) (h : Hp) (x1 : Int32) (x2 : Int32) : wG X 4 (eM X (fun u => (some (.int u), N, h, r))) (f_X4_kindAt h x1 x2) N h r 0 0 0 [(0, .ref (xB X + 3)), (1, .int x1), (2, .int x2)] [] := by
  refine wG_of (f_X4_kindAt.eq_1 ..) ?_
  refine wG_aload_n C dX4_kindAt_0 0 rfl ?_
  refine wG_getR C fl_X4_9_4 rfl kd_3 (Nat.lt_of_lt_of_le (by decide) hN) hF.1 dX4_kindAt_1 ?_
  refine wG_iload_n C dX4_kindAt_4 1 rfl ?_
  refine wG_bipush C dX4_kindAt_5 (v := 6) (by decide) ?_
  refine wG_imul C dX4_kindAt_7 ?_
  refine wG_iload_n C dX4_kindAt_8 2 rfl ?_
  refine wG_iadd C dX4_kindAt_9 ?_
  refine wG_iald C kd_4 (Nat.lt_of_lt_of_le (by decide) hN) ln_4 dX4_kindAt_10 ?_
  refine wG_nmI (fun x3_1 => ?_)
  refine wG_istore_n C (L' := [(3, .int x3_1)]) dX4_kindAt_11 (by decide) [0] rfl ?_
  refine wG_iload_n C dX4_kindAt_12 0 rfl ?_
  refine wG_iconst C dX4_kindAt_13 (v := 1) (by decide) ?_
  refine wG_icmp_eq C dX4_kindAt_14 ?_ ?_
  · refine wG_iload_n C dX4_kindAt_22 0 rfl ?_
    refine wG_goto C dX4_kindAt_23 ?_
    exact wG_iret C dX4_kindAt_27 ⟨by decide, by decide⟩ (fun _ e => e)
  · refine wG_iload_n C dX4_kindAt_17 0 rfl ?_
    refine wG_iconst C dX4_kindAt_18 (v := 2) (by decide) ?_
    refine wG_icmp_ne C dX4_kindAt_19 ?_ ?_
    · refine wG_iload_n C dX4_kindAt_22 0 rfl ?_
      refine wG_goto C dX4_kindAt_23 ?_
      exact wG_iret C dX4_kindAt_27 ⟨by decide, by decide⟩ (fun _ e => e)
    · refine wG_iconst C dX4_kindAt_26 (v := 0) (by decide) ?_
      exact wG_iret C dX4_kindAt_27 ⟨by decide, by decide⟩ (fun _ e => e)
theorem c_X4_kindAt (l : Launch) (E : wE) (N : Nat) (r : Rp) (hN : 7 ≤ N) (hF : r 3 0 = some 4 ∧ r 3 1 = some 5 ∧ r 3 2 = some 6) (h : Hp) (x1 : Int32) (x2 : Int32) : ∀ z, f_X4_kindAt h x1 x2 = some z → CT l E yX4_kindAt cX4_kindAt 4 (some .int) rm_X4_kindAt [.ref (eB E + 3), .int x1, .int x2] N h r ((fun u => (some (.int u), N, h, r)) z) := CT.of (by decide +kernel) (Nat.le_of_ble_eq_true rfl) (fun X _ e C => by subst e; exact w_X4_kindAt C hN hF h x1 x2)
def rm_X4_addPlace : Room := { frames := 0, cells := 0, slots := 0, locals := 0 }
def f_X4_addPlace (h : Hp) (a0 : Nat) (x1 : Int32) (x2 : Int32) (x3 : Int32) : Option Hp :=
  vB ((x1 * 7) + x2) fun (x4_1 : Int32) =>
  if inB (x4_1 + 7) 49 then
  if inB (x4_1 + 1) 49 then
  if inB x4_1 49 then
  if inB ((x4_1 + 7) + 1) 49 then vB (u2 h a0 (ix ((x4_1 + 7) + 1)) (((x3 + (h a0 (ix (x4_1 + 7)))) + (h a0 (ix (x4_1 + 1)))) - (h a0 (ix x4_1)))) fun h_2 =>
  some h_2 else none else none else none else none
set_option maxRecDepth 4000 in
theorem w_X4_addPlace {X : wX} (C : Cx X yX4_addPlace cX4_addPlace 5 none rm_X4_addPlace) {N : Nat} {r : Rp} (hN : 7 ≤ N) (hF : r 3 0 = some 4 ∧ r 3 1 = some 5 ∧ r 3 2 = some 6) (h : Hp) (a0 : Nat) (hk_a0 : Kd a0 = 12) (hb_a0 : a0 < N) (hl_a0 : Ln a0 = 49) (x1 : Int32) (x2 : Int32) (x3 : Int32) : wG X 5 (eM X (fun u => (none, N, u, r))) (f_X4_addPlace h a0 x1 x2 x3) N h r 0 0 0 [(0, .ref (xB X + a0)), (1, .int x1), (2, .int x2), (3, .int x3)] [] := by
  refine wG_of (f_X4_addPlace.eq_1 ..) ?_
  refine wG_iload_n C dX4_addPlace_0 1 rfl ?_
  refine wG_bipush C dX4_addPlace_1 (v := 7) (by decide) ?_
  refine wG_imul C dX4_addPlace_3 ?_
  refine wG_iload_n C dX4_addPlace_4 2 rfl ?_
  refine wG_iadd C dX4_addPlace_5 ?_
  refine wG_nmI (fun x4_1 => ?_)
  refine wG_istore C (L' := [(0, .ref (xB X + a0)), (3, .int x3), (4, .int x4_1)]) dX4_addPlace_6 (by decide) [1, 4, 0] rfl ?_
  refine wG_aload_n C dX4_addPlace_8 0 rfl ?_
  refine wG_iload C dX4_addPlace_9 2 rfl ?_
  refine wG_bipush C dX4_addPlace_11 (v := 7) (by decide) ?_
  refine wG_iadd C dX4_addPlace_13 ?_
  refine wG_iconst C dX4_addPlace_14 (v := 1) (by decide) ?_
  refine wG_iadd C dX4_addPlace_15 ?_
  refine wG_iload_n C dX4_addPlace_16 1 rfl ?_
  refine wG_aload_n C dX4_addPlace_17 0 rfl ?_
  refine wG_iload C dX4_addPlace_18 2 rfl ?_
  refine wG_bipush C dX4_addPlace_20 (v := 7) (by decide) ?_
  refine wG_iadd C dX4_addPlace_22 ?_
  refine wG_iald C hk_a0 hb_a0 hl_a0 dX4_addPlace_23 ?_
  refine wG_iadd C dX4_addPlace_24 ?_
  refine wG_aload_n C dX4_addPlace_25 0 rfl ?_
  refine wG_iload C dX4_addPlace_26 2 rfl ?_
  refine wG_iconst C dX4_addPlace_28 (v := 1) (by decide) ?_
  refine wG_iadd C dX4_addPlace_29 ?_
  refine wG_iald C hk_a0 hb_a0 hl_a0 dX4_addPlace_30 ?_
  refine wG_iadd C dX4_addPlace_31 ?_
  refine wG_aload_n C dX4_addPlace_32 0 rfl ?_
  refine wG_iload C dX4_addPlace_33 2 rfl ?_
  refine wG_iald C hk_a0 hb_a0 hl_a0 dX4_addPlace_35 ?_
  refine wG_isub C dX4_addPlace_36 ?_
  refine wG_iast C hk_a0 hb_a0 hl_a0 dX4_addPlace_37 (fun h_2 => ?_)
  exact wG_vret C dX4_addPlace_38 ⟨by decide, by decide⟩ (fun _ e => e)
theorem c_X4_addPlace (l : Launch) (E : wE) (N : Nat) (r : Rp) (hN : 7 ≤ N) (hF : r 3 0 = some 4 ∧ r 3 1 = some 5 ∧ r 3 2 = some 6) (h : Hp) (a0 : Nat) (x1 : Int32) (x2 : Int32) (x3 : Int32) (hk_a0 : Kd a0 = 12) (hb_a0 : a0 < N) (hl_a0 : Ln a0 = 49) : ∀ z, f_X4_addPlace h a0 x1 x2 x3 = some z → CT l E yX4_addPlace cX4_addPlace 5 none rm_X4_addPlace [.ref (eB E + a0), .int x1, .int x2, .int x3] N h r ((fun u => (none, N, u, r)) z) := CT.of (by decide +kernel) (Nat.le_of_ble_eq_true rfl) (fun X _ e C => by subst e; exact w_X4_addPlace C hN hF h a0 hk_a0 hb_a0 hl_a0 x1 x2 x3)
def rm_X4_addUp : Room := { frames := 1, cells := 0, slots := 0, locals := 24 }
def L_X4_addUp_12 (x1_2 : Int32) : Nat → Int32 → Hp → Option Hp
  | 0, _, _ => none
  | n + 1, x2_6, h_7 =>
    (if (h_7 3 4) ≤ x2_6 then
    some h_7
    else
    (f_X4_kindAt h_7 x1_2 x2_6).bind fun u_9 =>
    vB u_9 fun (x3_10 : Int32) =>
    if inB x3_10 3 then
    (f_X4_addPlace h_7 5 x1_2 x2_6 (pwT (ix x3_10))).bind fun u_11 =>
    ((if x3_10 = 1 then
    some 1
    else
    some 0)).bind fun t_12 =>
    (f_X4_addPlace u_11 6 x1_2 x2_6 t_12).bind fun u_13 =>
    vB (x2_6 + 1) fun (x2_14 : Int32) =>
    L_X4_addUp_12 x1_2 n x2_14 u_13 else none)
def L_X4_addUp_2  : Nat → Int32 → Hp → Option Hp
  | 0, _, _ => none
  | n + 1, x1_2, h_3 =>
    (if (h_3 3 3) ≤ x1_2 then
    some h_3
    else
    vB 0 fun (x2_5 : Int32) =>
    (L_X4_addUp_12 x1_2 FU x2_5 h_3).bind fun t_8 =>
    vB (x1_2 + 1) fun (x1_15 : Int32) =>
    L_X4_addUp_2 n x1_15 t_8)
def f_X4_addUp (h : Hp) : Option Hp :=
  vB 0 fun (x1_1 : Int32) =>
  (L_X4_addUp_2 FU x1_1 h).bind fun t_4 =>
  some t_4
set_option maxRecDepth 4000 in
theorem wL_X4_addUp_12 {X : wX} (C : Cx X yX4_addUp cX4_addUp 4 none rm_X4_addUp) {N : Nat} {r : Rp} (hN : 7 ≤ N) (hF : r 3 0 = some 4 ∧ r 3 1 = some 5 ∧ r 3 2 = some 6) (h : Hp) (x1_1 : Int32) (x1_2 : Int32) (h_3 : Hp) (x2_5 : Int32) : ∀ n x2_6 h_7, wG X 4 (fun (t_8 : Hp) Q => gQ X 4 Q N t_8 r 0 0 66 [(0, .ref (xB X + 3)), (1, .int x1_2)] []) (L_X4_addUp_12 x1_2 n x2_6 h_7) N h_7 r 0 0 12 [(0, .ref (xB X + 3)), (1, .int x1_2), (2, .int x2_6)] [] := by
  intro n
  induction n with
  | zero => intro _ _; exact wG_none
  | succ n ih =>
    intro x2_6 h_7
    refine wG_of (L_X4_addUp_12.eq_2 ..) ?_
    refine wG_iload_n C dX4_addUp_12 2 rfl ?_
    refine wG_aload_n C dX4_addUp_13 0 rfl ?_
    refine wG_getI C fl_X4_25_4 rfl kd_3 (Nat.lt_of_lt_of_le (by decide) hN) dX4_addUp_14 ?_
    refine wG_icmp_ge C dX4_addUp_17 ?_ ?_
    · exact wG_exit (fun Q e => gQ_lv [0, 1] rfl e)
    · refine wG_aload_n C dX4_addUp_20 0 rfl ?_
      refine wG_iload_n C dX4_addUp_21 1 rfl ?_
      refine wG_iload_n C dX4_addUp_22 2 rfl ?_
      refine wG_cV_ri [.int x1_2, .int x2_6] [] C vw_X4_49 (c_X4_kindAt (xl X) (xE X) N r hN hF h_7 x1_2 x2_6) kd_3 (Nat.lt_of_lt_of_le (by decide) hN) (by decide) rfl rfl (Nat.le_of_ble_eq_true rfl) dX4_addUp_23 (cl' := 0) (sl' := 0) rfl rfl (fun u_9 => ?_)
      refine wG_nmI (fun x3_10 => ?_)
      refine wG_istore_n C (L' := [(0, .ref (xB X + 3)), (1, .int x1_2), (2, .int x2_6), (3, .int x3_10)]) dX4_addUp_26 (by decide) [1, 2, 3, 0] rfl ?_
      refine wG_aload_n C dX4_addUp_27 0 rfl ?_
      refine wG_getR C fl_X4_15_4 rfl kd_3 (Nat.lt_of_lt_of_le (by decide) hN) hF.2.1 dX4_addUp_28 ?_
      refine wG_iload_n C dX4_addUp_31 1 rfl ?_
      refine wG_iload_n C dX4_addUp_32 2 rfl ?_
      refine wG_gsN C (n := "PLACE_WEIGHTS") (host := "WheelAndWire") (by decide +kernel) C.sta.1 dX4_addUp_33 ?_
      refine wG_iload_n C dX4_addUp_36 3 rfl ?_
      refine wG_iaS C C.sta.2.2.1 dX4_addUp_37 ?_
      refine wG_cS_wv [.ref (xB X + 5), .int x1_2, .int x2_6, .int (pwT (ix x3_10))] [] C sw_X4_56 (c_X4_addPlace (xl X) (xE X) N r hN hF h_7 5 x1_2 x2_6 (pwT (ix x3_10)) kd_5 (Nat.lt_of_lt_of_le (by decide) hN) ln_5) (by decide) rfl rfl (Nat.le_of_ble_eq_true rfl) dX4_addUp_38 (cl' := 0) (sl' := 0) rfl rfl (fun u_11 => ?_)
      refine wG_aload_n C dX4_addUp_41 0 rfl ?_
      refine wG_getR C fl_X4_18_4 rfl kd_3 (Nat.lt_of_lt_of_le (by decide) hN) hF.2.2 dX4_addUp_42 ?_
      refine wG_iload_n C dX4_addUp_45 1 rfl ?_
      refine wG_iload_n C dX4_addUp_46 2 rfl ?_
      refine wG_iload_n C dX4_addUp_47 3 rfl ?_
      refine wG_iconst C dX4_addUp_48 (v := 1) (by decide) ?_
      refine wG_bind (J := (fun (t_12 : Int32) Q => gQ X 4 Q N u_11 r 0 0 57 [(0, .ref (xB X + 3)), (1, .int x1_2), (2, .int x2_6)] [.int t_12, .int x2_6, .int x1_2, .ref (xB X + 6)])) ?_ (fun t_12 => (?_ : wG X 4 _ _ N u_11 r 0 0 57 [(0, .ref (xB X + 3)), (1, .int x1_2), (2, .int x2_6)] [.int t_12, .int x2_6, .int x1_2, .ref (xB X + 6)]))
      · refine wG_icmp_ne C dX4_addUp_49 ?_ ?_
        · refine wG_iconst C dX4_addUp_52 (v := 1) (by decide) ?_
          refine wG_goto C dX4_addUp_53 ?_
          exact wG_exit (fun Q e => gQ_lv [0, 1, 2] rfl e)
        · refine wG_iconst C dX4_addUp_56 (v := 0) (by decide) ?_
          exact wG_exit (fun Q e => gQ_lv [0, 1, 2] rfl e)
      · refine wG_cS_wv [.ref (xB X + 6), .int x1_2, .int x2_6, .int t_12] [] C sw_X4_56 (c_X4_addPlace (xl X) (xE X) N r hN hF u_11 6 x1_2 x2_6 t_12 kd_6 (Nat.lt_of_lt_of_le (by decide) hN) ln_6) (by decide) rfl rfl (Nat.le_of_ble_eq_true rfl) dX4_addUp_57 (cl' := 0) (sl' := 0) rfl rfl (fun u_13 => ?_)
        refine wG_iinc C (v := 1) (LL := fun x2_14 => [(0, .ref (xB X + 3)), (1, .int x1_2), (2, .int x2_14)]) dX4_addUp_60 2 rfl (by decide) (by decide) [1, 2, 0] (fun _ => rfl) (fun x2_14 => ?_)
        refine wG_goto C dX4_addUp_63 ?_
        exact wG_lv [0, 1, 2] rfl (ih x2_14 u_13)
set_option maxRecDepth 4000 in
theorem wL_X4_addUp_2 {X : wX} (C : Cx X yX4_addUp cX4_addUp 4 none rm_X4_addUp) {N : Nat} {r : Rp} (hN : 7 ≤ N) (hF : r 3 0 = some 4 ∧ r 3 1 = some 5 ∧ r 3 2 = some 6) (h : Hp) (x1_1 : Int32) : ∀ n x1_2 h_3, wG X 4 (fun (t_4 : Hp) Q => gQ X 4 Q N t_4 r 0 0 72 [] []) (L_X4_addUp_2 n x1_2 h_3) N h_3 r 0 0 2 [(0, .ref (xB X + 3)), (1, .int x1_2)] [] := by
  intro n
  induction n with
  | zero => intro _ _; exact wG_none
  | succ n ih =>
    intro x1_2 h_3
    refine wG_of (L_X4_addUp_2.eq_2 ..) ?_
    refine wG_iload_n C dX4_addUp_2 1 rfl ?_
    refine wG_aload_n C dX4_addUp_3 0 rfl ?_
    refine wG_getI C fl_X4_21_4 rfl kd_3 (Nat.lt_of_lt_of_le (by decide) hN) dX4_addUp_4 ?_
    refine wG_icmp_ge C dX4_addUp_7 ?_ ?_
    · exact wG_exit (fun Q e => gQ_lv [] rfl e)
    · refine wG_iconst C dX4_addUp_10 (v := 0) (by decide) ?_
      refine wG_nmI (fun x2_5 => ?_)
      refine wG_istore_n C (L' := [(0, .ref (xB X + 3)), (1, .int x1_2), (2, .int x2_5)]) dX4_addUp_11 (by decide) [1, 2, 0] rfl ?_
      refine wG_lv (L' := [(0, .ref (xB X + 3)), (1, .int x1_2), (2, .int x2_5)]) [0, 1, 2] rfl ?_
      refine wG_bind (wL_X4_addUp_12 C hN hF h x1_1 x1_2 h_3 x2_5 FU x2_5 h_3) (fun t_8 => (?_ : wG X 4 _ _ N t_8 r 0 0 66 [(0, .ref (xB X + 3)), (1, .int x1_2)] []))
      refine wG_iinc C (v := 1) (LL := fun x1_15 => [(0, .ref (xB X + 3)), (1, .int x1_15)]) dX4_addUp_66 1 rfl (by decide) (by decide) [1, 0] (fun _ => rfl) (fun x1_15 => ?_)
      refine wG_goto C dX4_addUp_69 ?_
      exact wG_lv [0, 1] rfl (ih x1_15 t_8)
set_option maxRecDepth 4000 in
theorem w_X4_addUp {X : wX} (C : Cx X yX4_addUp cX4_addUp 4 none rm_X4_addUp) {N : Nat} {r : Rp} (hN : 7 ≤ N) (hF : r 3 0 = some 4 ∧ r 3 1 = some 5 ∧ r 3 2 = some 6) (h : Hp) : wG X 4 (eM X (fun u => (none, N, u, r))) (f_X4_addUp h) N h r 0 0 0 [(0, .ref (xB X + 3))] [] := by
  refine wG_of (f_X4_addUp.eq_1 ..) ?_
  refine wG_iconst C dX4_addUp_0 (v := 0) (by decide) ?_
  refine wG_nmI (fun x1_1 => ?_)
  refine wG_istore_n C (L' := [(0, .ref (xB X + 3)), (1, .int x1_1)]) dX4_addUp_1 (by decide) [1, 0] rfl ?_
  refine wG_lv (L' := [(0, .ref (xB X + 3)), (1, .int x1_1)]) [0, 1] rfl ?_
  refine wG_bind (wL_X4_addUp_2 C hN hF h x1_1 FU x1_1 h) (fun t_4 => (?_ : wG X 4 _ _ N t_4 r 0 0 72 [] []))
  exact wG_vret C dX4_addUp_72 ⟨by decide, by decide⟩ (fun _ e => e)
theorem c_X4_addUp (l : Launch) (E : wE) (N : Nat) (r : Rp) (hN : 7 ≤ N) (hF : r 3 0 = some 4 ∧ r 3 1 = some 5 ∧ r 3 2 = some 6) (h : Hp) : ∀ z, f_X4_addUp h = some z → CT l E yX4_addUp cX4_addUp 4 none rm_X4_addUp [.ref (eB E + 3)] N h r ((fun u => (none, N, u, r)) z) := CT.of (by decide +kernel) (Nat.le_of_ble_eq_true rfl) (fun X _ e C => by subst e; exact w_X4_addUp C hN hF h)
def rm_X4_take : Room := { frames := 2, cells := 0, slots := 0, locals := 47 }
def L_X4_take_7  : Nat → Int32 → Int32 → Int32 → Hp → Option (Int32 × Int32 × Hp)
  | 0, _, _, _, _ => none
  | n + 1, x2_4, x3_5, x4_6, h_7 =>
    (if (h_7 1 1) ≤ x4_6 then
    some (x2_4, x3_5, h_7)
    else
    if inB x4_6 48 then
    ((if (h_7 2 (ix x4_6)) = 47 then
    vB (x2_4 + 1) fun (x2_13 : Int32) =>
    vB 0 fun (x3_14 : Int32) =>
    some (x2_13, x3_14, h_7)
    else
    (if (6 : Int32) ≤ x2_4 then
    some (x2_4, x3_5, h_7)
    else
    (if (6 : Int32) ≤ x3_5 then
    some (x2_4, x3_5, h_7)
    else
    if inB x4_6 48 then
    (f_X11_kindOf (h_7 2 (ix x4_6))).bind fun u_10 =>
    if inB ((x2_4 * 6) + x3_5) 36 then vB (u2 h_7 4 (ix ((x2_4 * 6) + x3_5)) u_10) fun h_11 =>
    vB (x3_5 + 1) fun (x3_12 : Int32) =>
    some (x2_4, x3_12, h_11) else none else none)))).bind fun t_9 =>
    vB (x4_6 + 1) fun (x4_15 : Int32) =>
    L_X4_take_7 n t_9.1 t_9.2.1 x4_15 t_9.2.2 else none)
def f_X4_take (h : Hp) : Option Hp :=
  vB 0 fun (x2_1 : Int32) =>
  vB 0 fun (x3_2 : Int32) =>
  vB 0 fun (x4_3 : Int32) =>
  (L_X4_take_7 FU x2_1 x3_2 x4_3 h).bind fun t_8 =>
  vB (u2 t_8.2.2 3 3 (t_8.1 + 1)) fun h_16 =>
  vB (u2 h_16 3 4 t_8.2.1) fun h_17 =>
  (f_X4_addUp h_17).bind fun u_18 =>
  some u_18
set_option maxRecDepth 4000 in
theorem wL_X4_take_7 {X : wX} (C : Cx X yX4_take cX4_take 5 none rm_X4_take) {N : Nat} {q : Qp} (hN : 137 ≤ N) (h : Hp) (x2_1 : Int32) (x3_2 : Int32) (x4_3 : Int32) : ∀ n x2_4 x3_5 x4_6 h_7, wG X 5 (fun (t_8 : (Int32 × Int32 × Hp)) Q => gQ X 5 Q N t_8.2.2 (rq q) 0 0 78 [(0, .ref (xB X + 3)), (2, .int t_8.1), (3, .int t_8.2.1)] []) (L_X4_take_7 n x2_4 x3_5 x4_6 h_7) N h_7 (rq q) 0 0 7 [(0, .ref (xB X + 3)), (1, .ref (xB X + 1)), (2, .int x2_4), (3, .int x3_5), (4, .int x4_6)] [] := by
  intro n
  induction n with
  | zero => intro _ _ _ _; exact wG_none
  | succ n ih =>
    intro x2_4 x3_5 x4_6 h_7
    refine wG_of (L_X4_take_7.eq_2 ..) ?_
    refine wG_iload C dX4_take_7 4 rfl ?_
    refine wG_aload_n C dX4_take_9 1 rfl ?_
    refine wG_getI C fl_X4_37_10 rfl kd_1 (wll hN (by decide)) dX4_take_10 ?_
    refine wG_icmp_ge C dX4_take_13 ?_ ?_
    · exact wG_exit (fun Q e => gQ_lv [0, 2, 3] rfl e)
    · refine wG_aload_n C dX4_take_16 1 rfl ?_
      refine wG_getR C fl_X4_42_10 rfl kd_1 (wll hN (by decide)) (rf_1_0 q) dX4_take_17 ?_
      refine wG_iload C dX4_take_20 4 rfl ?_
      refine wG_iald C kd_2 (wll hN (by decide)) ln_2 dX4_take_22 ?_
      refine wG_bipush C dX4_take_23 (v := 47) (by decide) ?_
      refine wG_bind (J := (fun (t_9 : (Int32 × Int32 × Hp)) Q => gQ X 5 Q N t_9.2.2 (rq q) 0 0 72 [(0, .ref (xB X + 3)), (1, .ref (xB X + 1)), (2, .int t_9.1), (3, .int t_9.2.1), (4, .int x4_6)] [])) ?_ (fun t_9 => (?_ : wG X 5 _ _ N t_9.2.2 (rq q) 0 0 72 [(0, .ref (xB X + 3)), (1, .ref (xB X + 1)), (2, .int t_9.1), (3, .int t_9.2.1), (4, .int x4_6)] []))
      · refine wG_icmp_ne C dX4_take_25 ?_ ?_
        · refine wG_iinc C (v := 1) (LL := fun x2_13 => [(0, .ref (xB X + 3)), (1, .ref (xB X + 1)), (2, .int x2_13), (4, .int x4_6)]) dX4_take_28 2 rfl (by decide) (by decide) [1, 2, 0, 4] (fun _ => rfl) (fun x2_13 => ?_)
          refine wG_iconst C dX4_take_31 (v := 0) (by decide) ?_
          refine wG_nmI (fun x3_14 => ?_)
          refine wG_istore_n C (L' := [(0, .ref (xB X + 3)), (1, .ref (xB X + 1)), (2, .int x2_13), (3, .int x3_14), (4, .int x4_6)]) dX4_take_32 (by decide) [1, 2, 3, 0, 4] rfl ?_
          refine wG_goto C dX4_take_33 ?_
          exact wG_exit (fun Q e => gQ_lv [0, 1, 2, 3, 4] rfl e)
        · refine wG_iload_n C dX4_take_36 2 rfl ?_
          refine wG_bipush C dX4_take_37 (v := 6) (by decide) ?_
          refine wG_icmp_ge C dX4_take_39 ?_ ?_
          · exact wG_exit (fun Q e => gQ_lv [0, 1, 2, 3, 4] rfl e)
          · refine wG_iload_n C dX4_take_42 3 rfl ?_
            refine wG_bipush C dX4_take_43 (v := 6) (by decide) ?_
            refine wG_icmp_ge C dX4_take_45 ?_ ?_
            · exact wG_exit (fun Q e => gQ_lv [0, 1, 2, 3, 4] rfl e)
            · refine wG_aload_n C dX4_take_48 0 rfl ?_
              refine wG_getR C fl_X4_9_4 rfl kd_3 (wll hN (by decide)) (rf_3_0 q) dX4_take_49 ?_
              refine wG_iload_n C dX4_take_52 2 rfl ?_
              refine wG_bipush C dX4_take_53 (v := 6) (by decide) ?_
              refine wG_imul C dX4_take_55 ?_
              refine wG_iload_n C dX4_take_56 3 rfl ?_
              refine wG_iadd C dX4_take_57 ?_
              refine wG_aload_n C dX4_take_58 1 rfl ?_
              refine wG_getR C fl_X4_42_10 rfl kd_1 (wll hN (by decide)) (rf_1_0 q) dX4_take_59 ?_
              refine wG_iload C dX4_take_62 4 rfl ?_
              refine wG_iald C kd_2 (wll hN (by decide)) ln_2 dX4_take_64 ?_
              refine wG_cSN_ri [.int (h_7 2 (ix x4_6))] [.int ((x2_4 * 6) + x3_5), .ref (xB X + 4)] C nw_X4_45 (c_X11_kindOf (xl X) (xE X) N q hN h_7 (h_7 2 (ix x4_6))) (by decide) rfl rfl (Nat.le_of_ble_eq_true rfl) dX4_take_65 (cl' := 0) (sl' := 0) rfl rfl (fun u_10 => ?_)
              refine wG_iast C kd_4 (wll hN (by decide)) ln_4 dX4_take_68 (fun h_11 => ?_)
              refine wG_iinc C (v := 1) (LL := fun x3_12 => [(0, .ref (xB X + 3)), (1, .ref (xB X + 1)), (2, .int x2_4), (3, .int x3_12), (4, .int x4_6)]) dX4_take_69 3 rfl (by decide) (by decide) [1, 2, 3, 0, 4] (fun _ => rfl) (fun x3_12 => ?_)
              exact wG_exit (fun Q e => gQ_lv [0, 1, 2, 3, 4] rfl e)
      · refine wG_iinc C (v := 1) (LL := fun x4_15 => [(0, .ref (xB X + 3)), (1, .ref (xB X + 1)), (2, .int t_9.1), (3, .int t_9.2.1), (4, .int x4_15)]) dX4_take_72 4 rfl (by decide) (by decide) [1, 2, 3, 4, 0] (fun _ => rfl) (fun x4_15 => ?_)
        refine wG_goto C dX4_take_75 ?_
        exact wG_lv [0, 1, 2, 3, 4] rfl (ih t_9.1 t_9.2.1 x4_15 t_9.2.2)
set_option maxRecDepth 4000 in
theorem w_X4_take {X : wX} (C : Cx X yX4_take cX4_take 5 none rm_X4_take) {N : Nat} {q : Qp} (hN : 137 ≤ N) (h : Hp) : wG X 5 (eM X (fun u => (none, N, u, (rq q)))) (f_X4_take h) N h (rq q) 0 0 0 [(0, .ref (xB X + 3)), (1, .ref (xB X + 1))] [] := by
  refine wG_of (f_X4_take.eq_1 ..) ?_
  refine wG_iconst C dX4_take_0 (v := 0) (by decide) ?_
  refine wG_nmI (fun x2_1 => ?_)
  refine wG_istore_n C (L' := [(0, .ref (xB X + 3)), (1, .ref (xB X + 1)), (2, .int x2_1)]) dX4_take_1 (by decide) [1, 2, 0] rfl ?_
  refine wG_iconst C dX4_take_2 (v := 0) (by decide) ?_
  refine wG_nmI (fun x3_2 => ?_)
  refine wG_istore_n C (L' := [(0, .ref (xB X + 3)), (1, .ref (xB X + 1)), (2, .int x2_1), (3, .int x3_2)]) dX4_take_3 (by decide) [1, 2, 3, 0] rfl ?_
  refine wG_iconst C dX4_take_4 (v := 0) (by decide) ?_
  refine wG_nmI (fun x4_3 => ?_)
  refine wG_istore C (L' := [(0, .ref (xB X + 3)), (1, .ref (xB X + 1)), (2, .int x2_1), (3, .int x3_2), (4, .int x4_3)]) dX4_take_5 (by decide) [1, 2, 3, 4, 0] rfl ?_
  refine wG_lv (L' := [(0, .ref (xB X + 3)), (1, .ref (xB X + 1)), (2, .int x2_1), (3, .int x3_2), (4, .int x4_3)]) [0, 1, 2, 3, 4] rfl ?_
  refine wG_bind (wL_X4_take_7 C hN h x2_1 x3_2 x4_3 FU x2_1 x3_2 x4_3 h) (fun t_8 => (?_ : wG X 5 _ _ N t_8.2.2 (rq q) 0 0 78 [(0, .ref (xB X + 3)), (2, .int t_8.1), (3, .int t_8.2.1)] []))
  refine wG_aload_n C dX4_take_78 0 rfl ?_
  refine wG_iload_n C dX4_take_79 1 rfl ?_
  refine wG_iconst C dX4_take_80 (v := 1) (by decide) ?_
  refine wG_iadd C dX4_take_81 ?_
  refine wG_putI C fl_X4_21_4 (fp_4_3 _) (fun e => Bool.noConfusion e) rfl kd_3 (wll hN (by decide)) dX4_take_82 (fun h_16 => ?_)
  refine wG_aload_n C dX4_take_85 0 rfl ?_
  refine wG_iload_n C dX4_take_86 2 rfl ?_
  refine wG_putI C fl_X4_25_4 (fp_4_4 _) (fun e => Bool.noConfusion e) rfl kd_3 (wll hN (by decide)) dX4_take_87 (fun h_17 => ?_)
  refine wG_aload_n C dX4_take_90 0 rfl ?_
  refine wG_cV_wv [] [] C vw_X4_34 (c_X4_addUp (xl X) (xE X) N (rq q) (Nat.le_trans (by decide) hN) ⟨rf_3_0 q, rf_3_1 q, rf_3_2 q⟩ h_17) kd_3 (wll hN (by decide)) (by decide) rfl rfl (Nat.le_of_ble_eq_true rfl) dX4_take_91 (cl' := 0) (sl' := 0) rfl rfl (fun u_18 => ?_)
  exact wG_vret C dX4_take_94 ⟨by decide, by decide⟩ (fun _ e => e)
theorem c_X4_take (l : Launch) (E : wE) (N : Nat) (q : Qp) (hN : 137 ≤ N) (h : Hp) : ∀ z, f_X4_take h = some z → CT l E yX4_take cX4_take 5 none rm_X4_take [.ref (eB E + 3), .ref (eB E + 1)] N h (rq q) ((fun u => (none, N, u, (rq q))) z) := CT.of (by decide +kernel) (Nat.le_of_ble_eq_true rfl) (fun X _ e C => by subst e; exact w_X4_take C hN h)
def rm_X4_sumIn : Room := { frames := 0, cells := 0, slots := 0, locals := 0 }
def f_X4_sumIn (h : Hp) (a1 : Nat) (x2 : Int32) (x3 : Int32) (x4 : Int32) (x5 : Int32) : Option Int32 :=
  vB ((x2 * 7) + x3) fun (x6_1 : Int32) =>
  vB (x6_1 + (x4 * 7)) fun (x7_2 : Int32) =>
  (if x6_1 < 0 then
  some 0
  else
  (if x7_2 < x6_1 then
  some 0
  else
  (if x5 < 0 then
  some 0
  else
  (if (x7_2 + x5) < 49 then
  if inB (x7_2 + x5) 49 then
  if inB x7_2 49 then
  if inB (x6_1 + x5) 49 then
  if inB x6_1 49 then
  some ((((h a1 (ix (x7_2 + x5))) - (h a1 (ix x7_2))) - (h a1 (ix (x6_1 + x5)))) + (h a1 (ix x6_1))) else none else none else none else none
  else
  some 0))))
set_option maxRecDepth 4000 in
theorem w_X4_sumIn {X : wX} (C : Cx X yX4_sumIn cX4_sumIn 8 (some .int) rm_X4_sumIn) {N : Nat} {r : Rp} (hN : 7 ≤ N) (hF : r 3 0 = some 4 ∧ r 3 1 = some 5 ∧ r 3 2 = some 6) (h : Hp) (a1 : Nat) (hk_a1 : Kd a1 = 12) (hb_a1 : a1 < N) (hl_a1 : Ln a1 = 49) (x2 : Int32) (x3 : Int32) (x4 : Int32) (x5 : Int32) : wG X 8 (eM X (fun u => (some (.int u), N, h, r))) (f_X4_sumIn h a1 x2 x3 x4 x5) N h r 0 0 0 [(0, .ref (xB X + 3)), (1, .ref (xB X + a1)), (2, .int x2), (3, .int x3), (4, .int x4), (5, .int x5)] [] := by
  refine wG_of (f_X4_sumIn.eq_1 ..) ?_
  refine wG_iload_n C dX4_sumIn_0 2 rfl ?_
  refine wG_bipush C dX4_sumIn_1 (v := 7) (by decide) ?_
  refine wG_imul C dX4_sumIn_3 ?_
  refine wG_iload_n C dX4_sumIn_4 3 rfl ?_
  refine wG_iadd C dX4_sumIn_5 ?_
  refine wG_nmI (fun x6_1 => ?_)
  refine wG_istore C (L' := [(1, .ref (xB X + a1)), (4, .int x4), (5, .int x5), (6, .int x6_1)]) dX4_sumIn_6 (by decide) [2, 5, 6, 0] rfl ?_
  refine wG_iload C dX4_sumIn_8 3 rfl ?_
  refine wG_iload C dX4_sumIn_10 1 rfl ?_
  refine wG_bipush C dX4_sumIn_12 (v := 7) (by decide) ?_
  refine wG_imul C dX4_sumIn_14 ?_
  refine wG_iadd C dX4_sumIn_15 ?_
  refine wG_nmI (fun x7_2 => ?_)
  refine wG_istore C (L' := [(1, .ref (xB X + a1)), (5, .int x5), (6, .int x6_1), (7, .int x7_2)]) dX4_sumIn_16 (by decide) [1, 3, 4, 0] rfl ?_
  refine wG_iload C dX4_sumIn_18 2 rfl ?_
  refine wG_if_lt C dX4_sumIn_20 ?_ ?_
  · refine wG_iconst C dX4_sumIn_45 (v := 0) (by decide) ?_
    exact wG_iret C dX4_sumIn_46 ⟨by decide, by decide⟩ (fun _ e => e)
  · refine wG_iload C dX4_sumIn_23 3 rfl ?_
    refine wG_iload C dX4_sumIn_25 2 rfl ?_
    refine wG_icmp_lt C dX4_sumIn_27 ?_ ?_
    · refine wG_iconst C dX4_sumIn_45 (v := 0) (by decide) ?_
      exact wG_iret C dX4_sumIn_46 ⟨by decide, by decide⟩ (fun _ e => e)
    · refine wG_iload C dX4_sumIn_30 1 rfl ?_
      refine wG_if_lt C dX4_sumIn_32 ?_ ?_
      · refine wG_iconst C dX4_sumIn_45 (v := 0) (by decide) ?_
        exact wG_iret C dX4_sumIn_46 ⟨by decide, by decide⟩ (fun _ e => e)
      · refine wG_iload C dX4_sumIn_35 3 rfl ?_
        refine wG_iload C dX4_sumIn_37 1 rfl ?_
        refine wG_iadd C dX4_sumIn_39 ?_
        refine wG_aload_n C dX4_sumIn_40 0 rfl ?_
        refine wG_alen C (v := 49) hk_a1 hb_a1 (by rw [hl_a1]; rfl) dX4_sumIn_41 ?_
        refine wG_icmp_lt C dX4_sumIn_42 ?_ ?_
        · refine wG_aload_n C dX4_sumIn_47 0 rfl ?_
          refine wG_iload C dX4_sumIn_48 3 rfl ?_
          refine wG_iload C dX4_sumIn_50 1 rfl ?_
          refine wG_iadd C dX4_sumIn_52 ?_
          refine wG_iald C hk_a1 hb_a1 hl_a1 dX4_sumIn_53 ?_
          refine wG_aload_n C dX4_sumIn_54 0 rfl ?_
          refine wG_iload C dX4_sumIn_55 3 rfl ?_
          refine wG_iald C hk_a1 hb_a1 hl_a1 dX4_sumIn_57 ?_
          refine wG_isub C dX4_sumIn_58 ?_
          refine wG_aload_n C dX4_sumIn_59 0 rfl ?_
          refine wG_iload C dX4_sumIn_60 2 rfl ?_
          refine wG_iload C dX4_sumIn_62 1 rfl ?_
          refine wG_iadd C dX4_sumIn_64 ?_
          refine wG_iald C hk_a1 hb_a1 hl_a1 dX4_sumIn_65 ?_
          refine wG_isub C dX4_sumIn_66 ?_
          refine wG_aload_n C dX4_sumIn_67 0 rfl ?_
          refine wG_iload C dX4_sumIn_68 2 rfl ?_
          refine wG_iald C hk_a1 hb_a1 hl_a1 dX4_sumIn_70 ?_
          refine wG_iadd C dX4_sumIn_71 ?_
          exact wG_iret C dX4_sumIn_72 ⟨by decide, by decide⟩ (fun _ e => e)
        · refine wG_iconst C dX4_sumIn_45 (v := 0) (by decide) ?_
          exact wG_iret C dX4_sumIn_46 ⟨by decide, by decide⟩ (fun _ e => e)
theorem c_X4_sumIn (l : Launch) (E : wE) (N : Nat) (r : Rp) (hN : 7 ≤ N) (hF : r 3 0 = some 4 ∧ r 3 1 = some 5 ∧ r 3 2 = some 6) (h : Hp) (a1 : Nat) (x2 : Int32) (x3 : Int32) (x4 : Int32) (x5 : Int32) (hk_a1 : Kd a1 = 12) (hb_a1 : a1 < N) (hl_a1 : Ln a1 = 49) : ∀ z, f_X4_sumIn h a1 x2 x3 x4 x5 = some z → CT l E yX4_sumIn cX4_sumIn 8 (some .int) rm_X4_sumIn [.ref (eB E + 3), .ref (eB E + a1), .int x2, .int x3, .int x4, .int x5] N h r ((fun u => (some (.int u), N, h, r)) z) := CT.of (by decide +kernel) (Nat.le_of_ble_eq_true rfl) (fun X _ e C => by subst e; exact w_X4_sumIn C hN hF h a1 hk_a1 hb_a1 hl_a1 x2 x3 x4 x5)
def rm_X4_weightIn : Room := { frames := 1, cells := 0, slots := 0, locals := 27 }
def f_X4_weightIn (h : Hp) (x1 : Int32) (x2 : Int32) (x3 : Int32) (x4 : Int32) : Option Int32 :=
  (f_X4_sumIn h 5 x1 x2 x3 x4).bind fun u_1 =>
  some u_1
set_option maxRecDepth 4000 in
theorem w_X4_weightIn {X : wX} (C : Cx X yX4_weightIn cX4_weightIn 5 (some .int) rm_X4_weightIn) {N : Nat} {r : Rp} (hN : 7 ≤ N) (hF : r 3 0 = some 4 ∧ r 3 1 = some 5 ∧ r 3 2 = some 6) (h : Hp) (x1 : Int32) (x2 : Int32) (x3 : Int32) (x4 : Int32) : wG X 5 (eM X (fun u => (some (.int u), N, h, r))) (f_X4_weightIn h x1 x2 x3 x4) N h r 0 0 0 [(0, .ref (xB X + 3)), (1, .int x1), (2, .int x2), (3, .int x3), (4, .int x4)] [] := by
  refine wG_of (f_X4_weightIn.eq_1 ..) ?_
  refine wG_aload_n C dX4_weightIn_0 0 rfl ?_
  refine wG_aload_n C dX4_weightIn_1 0 rfl ?_
  refine wG_getR C fl_X4_15_4 rfl kd_3 (Nat.lt_of_lt_of_le (by decide) hN) hF.2.1 dX4_weightIn_2 ?_
  refine wG_iload_n C dX4_weightIn_5 1 rfl ?_
  refine wG_iload_n C dX4_weightIn_6 2 rfl ?_
  refine wG_iload_n C dX4_weightIn_7 3 rfl ?_
  refine wG_iload C dX4_weightIn_8 4 rfl ?_
  refine wG_cV_ri [.ref (xB X + 5), .int x1, .int x2, .int x3, .int x4] [] C vw_X4_60 (c_X4_sumIn (xl X) (xE X) N r hN hF h 5 x1 x2 x3 x4 kd_5 (Nat.lt_of_lt_of_le (by decide) hN) ln_5) kd_3 (Nat.lt_of_lt_of_le (by decide) hN) (by decide) rfl rfl (Nat.le_of_ble_eq_true rfl) dX4_weightIn_10 (cl' := 0) (sl' := 0) rfl rfl (fun u_1 => ?_)
  exact wG_iret C dX4_weightIn_13 ⟨by decide, by decide⟩ (fun _ e => e)
theorem c_X4_weightIn (l : Launch) (E : wE) (N : Nat) (r : Rp) (hN : 7 ≤ N) (hF : r 3 0 = some 4 ∧ r 3 1 = some 5 ∧ r 3 2 = some 6) (h : Hp) (x1 : Int32) (x2 : Int32) (x3 : Int32) (x4 : Int32) : ∀ z, f_X4_weightIn h x1 x2 x3 x4 = some z → CT l E yX4_weightIn cX4_weightIn 5 (some .int) rm_X4_weightIn [.ref (eB E + 3), .int x1, .int x2, .int x3, .int x4] N h r ((fun u => (some (.int u), N, h, r)) z) := CT.of (by decide +kernel) (Nat.le_of_ble_eq_true rfl) (fun X _ e C => by subst e; exact w_X4_weightIn C hN hF h x1 x2 x3 x4)
def rm_X4_rindIn : Room := { frames := 1, cells := 0, slots := 0, locals := 27 }
def f_X4_rindIn (h : Hp) (x1 : Int32) (x2 : Int32) (x3 : Int32) (x4 : Int32) : Option Int32 :=
  (f_X4_sumIn h 6 x1 x2 x3 x4).bind fun u_1 =>
  some u_1
set_option maxRecDepth 4000 in
theorem w_X4_rindIn {X : wX} (C : Cx X yX4_rindIn cX4_rindIn 5 (some .int) rm_X4_rindIn) {N : Nat} {r : Rp} (hN : 7 ≤ N) (hF : r 3 0 = some 4 ∧ r 3 1 = some 5 ∧ r 3 2 = some 6) (h : Hp) (x1 : Int32) (x2 : Int32) (x3 : Int32) (x4 : Int32) : wG X 5 (eM X (fun u => (some (.int u), N, h, r))) (f_X4_rindIn h x1 x2 x3 x4) N h r 0 0 0 [(0, .ref (xB X + 3)), (1, .int x1), (2, .int x2), (3, .int x3), (4, .int x4)] [] := by
  refine wG_of (f_X4_rindIn.eq_1 ..) ?_
  refine wG_aload_n C dX4_rindIn_0 0 rfl ?_
  refine wG_aload_n C dX4_rindIn_1 0 rfl ?_
  refine wG_getR C fl_X4_18_4 rfl kd_3 (Nat.lt_of_lt_of_le (by decide) hN) hF.2.2 dX4_rindIn_2 ?_
  refine wG_iload_n C dX4_rindIn_5 1 rfl ?_
  refine wG_iload_n C dX4_rindIn_6 2 rfl ?_
  refine wG_iload_n C dX4_rindIn_7 3 rfl ?_
  refine wG_iload C dX4_rindIn_8 4 rfl ?_
  refine wG_cV_ri [.ref (xB X + 6), .int x1, .int x2, .int x3, .int x4] [] C vw_X4_60 (c_X4_sumIn (xl X) (xE X) N r hN hF h 6 x1 x2 x3 x4 kd_6 (Nat.lt_of_lt_of_le (by decide) hN) ln_6) kd_3 (Nat.lt_of_lt_of_le (by decide) hN) (by decide) rfl rfl (Nat.le_of_ble_eq_true rfl) dX4_rindIn_10 (cl' := 0) (sl' := 0) rfl rfl (fun u_1 => ?_)
  exact wG_iret C dX4_rindIn_13 ⟨by decide, by decide⟩ (fun _ e => e)
theorem c_X4_rindIn (l : Launch) (E : wE) (N : Nat) (r : Rp) (hN : 7 ≤ N) (hF : r 3 0 = some 4 ∧ r 3 1 = some 5 ∧ r 3 2 = some 6) (h : Hp) (x1 : Int32) (x2 : Int32) (x3 : Int32) (x4 : Int32) : ∀ z, f_X4_rindIn h x1 x2 x3 x4 = some z → CT l E yX4_rindIn cX4_rindIn 5 (some .int) rm_X4_rindIn [.ref (eB E + 3), .int x1, .int x2, .int x3, .int x4] N h r ((fun u => (some (.int u), N, h, r)) z) := CT.of (by decide +kernel) (Nat.le_of_ble_eq_true rfl) (fun X _ e C => by subst e; exact w_X4_rindIn C hN hF h x1 x2 x3 x4)
def rm_X7_dryAnew : Room := { frames := 0, cells := 0, slots := 0, locals := 0 }
def f_X7_dryAnew (h : Hp) (a0 : Nat) : Option Hp :=
  vB (u2 h a0 9 0) fun h_1 =>
  vB (u2 h_1 a0 10 0) fun h_2 =>
  vB (u2 h_2 a0 11 0) fun h_3 =>
  vB (u2 h_3 a0 12 0) fun h_4 =>
  some h_4
set_option maxRecDepth 4000 in
theorem w_X7_dryAnew {X : wX} (C : Cx X yX7_dryAnew cX7_dryAnew 1 none rm_X7_dryAnew) {N : Nat} {r : Rp} (hN : 7 ≤ N) (hF : r 3 0 = some 4 ∧ r 3 1 = some 5 ∧ r 3 2 = some 6) (h : Hp) (a0 : Nat) (hk_a0 : Kd a0 = 7) (hb_a0 : a0 < N) : wG X 1 (eM X (fun u => (none, N, u, r))) (f_X7_dryAnew h a0) N h r 0 0 0 [(0, .ref (xB X + a0))] [] := by
  refine wG_of (f_X7_dryAnew.eq_1 ..) ?_
  refine wG_aload_n C dX7_dryAnew_0 0 rfl ?_
  refine wG_iconst C dX7_dryAnew_1 (v := 0) (by decide) ?_
  refine wG_putI C fl_X7_53_7 (fp_7_9 _) (fun e => Bool.noConfusion e) rfl hk_a0 hb_a0 dX7_dryAnew_2 (fun h_1 => ?_)
  refine wG_aload_n C dX7_dryAnew_5 0 rfl ?_
  refine wG_iconst C dX7_dryAnew_6 (v := 0) (by decide) ?_
  refine wG_putI C fl_X7_56_7 (fp_7_10 _) (fun e => Bool.noConfusion e) rfl hk_a0 hb_a0 dX7_dryAnew_7 (fun h_2 => ?_)
  refine wG_aload_n C dX7_dryAnew_10 0 rfl ?_
  refine wG_iconst C dX7_dryAnew_11 (v := 0) (by decide) ?_
  refine wG_putI C fl_X7_59_7 (fp_7_11 _) (fun e => Bool.noConfusion e) rfl hk_a0 hb_a0 dX7_dryAnew_12 (fun h_3 => ?_)
  refine wG_aload_n C dX7_dryAnew_15 0 rfl ?_
  refine wG_iconst C dX7_dryAnew_16 (v := 0) (by decide) ?_
  refine wG_putI C fl_X7_62_7 (fp_7_12 _) (fun e => Bool.noConfusion e) rfl hk_a0 hb_a0 dX7_dryAnew_17 (fun h_4 => ?_)
  exact wG_vret C dX7_dryAnew_20 ⟨by decide, by decide⟩ (fun _ e => e)
theorem c_X7_dryAnew (l : Launch) (E : wE) (N : Nat) (r : Rp) (hN : 7 ≤ N) (hF : r 3 0 = some 4 ∧ r 3 1 = some 5 ∧ r 3 2 = some 6) (h : Hp) (a0 : Nat) (hk_a0 : Kd a0 = 7) (hb_a0 : a0 < N) : ∀ z, f_X7_dryAnew h a0 = some z → CT l E yX7_dryAnew cX7_dryAnew 1 none rm_X7_dryAnew [.ref (eB E + a0)] N h r ((fun u => (none, N, u, r)) z) := CT.of (by decide +kernel) (Nat.le_of_ble_eq_true rfl) (fun X _ e C => by subst e; exact w_X7_dryAnew C hN hF h a0 hk_a0 hb_a0)
def rm_X7_becomeAll : Room := { frames := 2, cells := 0, slots := 0, locals := 51 }
def f_X7_becomeAll (h : Hp) (a0 : Nat) : Option Hp :=
  vB (u2 h a0 0 0) fun h_1 =>
  vB (u2 h_1 a0 1 0) fun h_2 =>
  vB (u2 h_2 a0 2 (h_2 3 3)) fun h_3 =>
  vB (u2 h_3 a0 3 (h_3 3 4)) fun h_4 =>
  (f_X4_weightIn h_4 (h_4 a0 0) (h_4 a0 1) (h_4 a0 2) (h_4 a0 3)).bind fun u_5 =>
  vB (u2 h_4 a0 4 u_5) fun h_6 =>
  (f_X4_rindIn h_6 (h_6 a0 0) (h_6 a0 1) (h_6 a0 2) (h_6 a0 3)).bind fun u_7 =>
  vB (u2 h_6 a0 5 u_7) fun h_8 =>
  vB (u2 h_8 a0 6 0) fun h_9 =>
  vB (u2 h_9 a0 7 0) fun h_10 =>
  vB (u2 h_10 a0 8 0) fun h_11 =>
  (f_X7_dryAnew h_11 a0).bind fun u_12 =>
  some u_12
set_option maxRecDepth 4000 in
theorem w_X7_becomeAll {X : wX} (C : Cx X yX7_becomeAll cX7_becomeAll 2 none rm_X7_becomeAll) {N : Nat} {r : Rp} (hN : 7 ≤ N) (hF : r 3 0 = some 4 ∧ r 3 1 = some 5 ∧ r 3 2 = some 6) (h : Hp) (a0 : Nat) (hk_a0 : Kd a0 = 7) (hb_a0 : a0 < N) : wG X 2 (eM X (fun u => (none, N, u, r))) (f_X7_becomeAll h a0) N h r 0 0 0 [(0, .ref (xB X + a0)), (1, .ref (xB X + 3))] [] := by
  refine wG_of (f_X7_becomeAll.eq_1 ..) ?_
  refine wG_aload_n C dX7_becomeAll_0 0 rfl ?_
  refine wG_iconst C dX7_becomeAll_1 (v := 0) (by decide) ?_
  refine wG_putI C fl_X7_9_7 (fp_7_0 _) (fun e => Bool.noConfusion e) rfl hk_a0 hb_a0 dX7_becomeAll_2 (fun h_1 => ?_)
  refine wG_aload_n C dX7_becomeAll_5 0 rfl ?_
  refine wG_iconst C dX7_becomeAll_6 (v := 0) (by decide) ?_
  refine wG_putI C fl_X7_15_7 (fp_7_1 _) (fun e => Bool.noConfusion e) rfl hk_a0 hb_a0 dX7_becomeAll_7 (fun h_2 => ?_)
  refine wG_aload_n C dX7_becomeAll_10 0 rfl ?_
  refine wG_aload_n C dX7_becomeAll_11 1 rfl ?_
  refine wG_getI C fl_X7_18_4 rfl kd_3 (Nat.lt_of_lt_of_le (by decide) hN) dX7_becomeAll_12 ?_
  refine wG_putI C fl_X7_23_7 (fp_7_2 _) (fun e => Bool.noConfusion e) rfl hk_a0 hb_a0 dX7_becomeAll_15 (fun h_3 => ?_)
  refine wG_aload_n C dX7_becomeAll_18 0 rfl ?_
  refine wG_aload_n C dX7_becomeAll_19 1 rfl ?_
  refine wG_getI C fl_X7_24_4 rfl kd_3 (Nat.lt_of_lt_of_le (by decide) hN) dX7_becomeAll_20 ?_
  refine wG_putI C fl_X7_27_7 (fp_7_3 _) (fun e => Bool.noConfusion e) rfl hk_a0 hb_a0 dX7_becomeAll_23 (fun h_4 => ?_)
  refine wG_aload_n C dX7_becomeAll_26 0 rfl ?_
  refine wG_aload_n C dX7_becomeAll_27 1 rfl ?_
  refine wG_aload_n C dX7_becomeAll_28 0 rfl ?_
  refine wG_getI C fl_X7_9_7 rfl hk_a0 hb_a0 dX7_becomeAll_29 ?_
  refine wG_aload_n C dX7_becomeAll_32 0 rfl ?_
  refine wG_getI C fl_X7_15_7 rfl hk_a0 hb_a0 dX7_becomeAll_33 ?_
  refine wG_aload_n C dX7_becomeAll_36 0 rfl ?_
  refine wG_getI C fl_X7_23_7 rfl hk_a0 hb_a0 dX7_becomeAll_37 ?_
  refine wG_aload_n C dX7_becomeAll_40 0 rfl ?_
  refine wG_getI C fl_X7_27_7 rfl hk_a0 hb_a0 dX7_becomeAll_41 ?_
  refine wG_cV_ri [.int (h_4 a0 0), .int (h_4 a0 1), .int (h_4 a0 2), .int (h_4 a0 3)] [.ref (xB X + a0)] C vw_X7_28 (c_X4_weightIn (xl X) (xE X) N r hN hF h_4 (h_4 a0 0) (h_4 a0 1) (h_4 a0 2) (h_4 a0 3)) kd_3 (Nat.lt_of_lt_of_le (by decide) hN) (by decide) rfl rfl (Nat.le_of_ble_eq_true rfl) dX7_becomeAll_44 (cl' := 0) (sl' := 0) rfl rfl (fun u_5 => ?_)
  refine wG_putI C fl_X7_32_7 (fp_7_4 _) (fun e => Bool.noConfusion e) rfl hk_a0 hb_a0 dX7_becomeAll_47 (fun h_6 => ?_)
  refine wG_aload_n C dX7_becomeAll_50 0 rfl ?_
  refine wG_aload_n C dX7_becomeAll_51 1 rfl ?_
  refine wG_aload_n C dX7_becomeAll_52 0 rfl ?_
  refine wG_getI C fl_X7_9_7 rfl hk_a0 hb_a0 dX7_becomeAll_53 ?_
  refine wG_aload_n C dX7_becomeAll_56 0 rfl ?_
  refine wG_getI C fl_X7_15_7 rfl hk_a0 hb_a0 dX7_becomeAll_57 ?_
  refine wG_aload_n C dX7_becomeAll_60 0 rfl ?_
  refine wG_getI C fl_X7_23_7 rfl hk_a0 hb_a0 dX7_becomeAll_61 ?_
  refine wG_aload_n C dX7_becomeAll_64 0 rfl ?_
  refine wG_getI C fl_X7_27_7 rfl hk_a0 hb_a0 dX7_becomeAll_65 ?_
  refine wG_cV_ri [.int (h_6 a0 0), .int (h_6 a0 1), .int (h_6 a0 2), .int (h_6 a0 3)] [.ref (xB X + a0)] C vw_X7_35 (c_X4_rindIn (xl X) (xE X) N r hN hF h_6 (h_6 a0 0) (h_6 a0 1) (h_6 a0 2) (h_6 a0 3)) kd_3 (Nat.lt_of_lt_of_le (by decide) hN) (by decide) rfl rfl (Nat.le_of_ble_eq_true rfl) dX7_becomeAll_68 (cl' := 0) (sl' := 0) rfl rfl (fun u_7 => ?_)
  refine wG_putI C fl_X7_38_7 (fp_7_5 _) (fun e => Bool.noConfusion e) rfl hk_a0 hb_a0 dX7_becomeAll_71 (fun h_8 => ?_)
  refine wG_aload_n C dX7_becomeAll_74 0 rfl ?_
  refine wG_iconst C dX7_becomeAll_75 (v := 0) (by decide) ?_
  refine wG_putI C fl_X7_41_7 (fp_7_6 _) (fun e => Bool.noConfusion e) rfl hk_a0 hb_a0 dX7_becomeAll_76 (fun h_9 => ?_)
  refine wG_aload_n C dX7_becomeAll_79 0 rfl ?_
  refine wG_iconst C dX7_becomeAll_80 (v := 0) (by decide) ?_
  refine wG_putI C fl_X7_44_7 (fp_7_7 _) (fun e => Bool.noConfusion e) rfl hk_a0 hb_a0 dX7_becomeAll_81 (fun h_10 => ?_)
  refine wG_aload_n C dX7_becomeAll_84 0 rfl ?_
  refine wG_iconst C dX7_becomeAll_85 (v := 0) (by decide) ?_
  refine wG_putI C fl_X7_47_7 (fp_7_8 _) (fun e => Bool.noConfusion e) rfl hk_a0 hb_a0 dX7_becomeAll_86 (fun h_11 => ?_)
  refine wG_aload_n C dX7_becomeAll_89 0 rfl ?_
  refine wG_cV_wv [] [] C vw_X7_50 (c_X7_dryAnew (xl X) (xE X) N r hN hF h_11 a0 hk_a0 hb_a0) hk_a0 hb_a0 (by decide) rfl rfl (Nat.le_of_ble_eq_true rfl) dX7_becomeAll_90 (cl' := 0) (sl' := 0) rfl rfl (fun u_12 => ?_)
  exact wG_vret C dX7_becomeAll_93 ⟨by decide, by decide⟩ (fun _ e => e)
theorem c_X7_becomeAll (l : Launch) (E : wE) (N : Nat) (r : Rp) (hN : 7 ≤ N) (hF : r 3 0 = some 4 ∧ r 3 1 = some 5 ∧ r 3 2 = some 6) (h : Hp) (a0 : Nat) (hk_a0 : Kd a0 = 7) (hb_a0 : a0 < N) : ∀ z, f_X7_becomeAll h a0 = some z → CT l E yX7_becomeAll cX7_becomeAll 2 none rm_X7_becomeAll [.ref (eB E + a0), .ref (eB E + 3)] N h r ((fun u => (none, N, u, r)) z) := CT.of (by decide +kernel) (Nat.le_of_ble_eq_true rfl) (fun X _ e C => by subst e; exact w_X7_becomeAll C hN hF h a0 hk_a0 hb_a0)
def rm_X1_startAnew : Room := { frames := 3, cells := 0, slots := 0, locals := 72 }
def f_X1_startAnew (h : Hp) (a0 : Nat) : Option Hp :=
  if inB 0 24 then
  (f_X7_becomeAll h (a0 + 3)).bind fun u_2 =>
  vB (u2 u_2 a0 3 1) fun h_3 =>
  vB (u2 h_3 a0 4 0) fun h_4 =>
  some h_4 else none
set_option maxRecDepth 4000 in
theorem w_X1_startAnew {X : wX} (C : Cx X yX1_startAnew cX1_startAnew 1 none rm_X1_startAnew) {N : Nat} {r : Rp} (hN : 7 ≤ N) (hF : r 3 0 = some 4 ∧ r 3 1 = some 5 ∧ r 3 2 = some 6) (h : Hp) (a0 : Nat) (hk_a0 : Kd a0 = 1) (hb_a0 : a0 < N) (hB : r a0 0 = some 3 ∧ r a0 1 = some (a0 + 1) ∧ r (a0 + 1) (ix 0) = some (a0 + 3)) (hBN : a0 + 3 < N) : wG X 1 (eM X (fun u => (none, N, u, r))) (f_X1_startAnew h a0) N h r 0 0 0 [(0, .ref (xB X + a0))] [] := by
  refine wG_of (f_X1_startAnew.eq_1 ..) ?_
  refine wG_aload_n C dX1_startAnew_0 0 rfl ?_
  refine wG_getR C fl_X1_11_1 rfl hk_a0 hb_a0 hB.2.1 dX1_startAnew_1 ?_
  refine wG_iconst C dX1_startAnew_4 (v := 0) (by decide) ?_
  refine wG_aaH C (Cn := RX7) (kb1 hk_a0) (by decide) (by decide) rfl (Nat.lt_of_le_of_lt (Nat.add_le_add_left (by decide) _) hBN) (lb1 hk_a0) hB.2.2 dX1_startAnew_5 ?_
  refine wG_aload_n C dX1_startAnew_6 0 rfl ?_
  refine wG_getR C fl_X1_22_1 rfl hk_a0 hb_a0 hB.1 dX1_startAnew_7 ?_
  refine wG_cV_wv [.ref (xB X + 3)] [] C vw_X1_29 (c_X7_becomeAll (xl X) (xE X) N r hN hF h (a0 + 3) (kp (i := 0) hk_a0 (by decide)) hBN) (kp (i := 0) hk_a0 (by decide)) hBN (by decide) rfl rfl (Nat.le_of_ble_eq_true rfl) dX1_startAnew_10 (cl' := 0) (sl' := 0) rfl rfl (fun u_2 => ?_)
  refine wG_aload_n C dX1_startAnew_13 0 rfl ?_
  refine wG_iconst C dX1_startAnew_14 (v := 1) (by decide) ?_
  refine wG_putI C fl_X1_33_1 (fp_1_3 _) (fun e => Bool.noConfusion e) rfl hk_a0 hb_a0 dX1_startAnew_15 (fun h_3 => ?_)
  refine wG_aload_n C dX1_startAnew_18 0 rfl ?_
  refine wG_iconst C dX1_startAnew_19 (v := 0) (by decide) ?_
  refine wG_putI C fl_X1_37_1 (fp_1_4 _) (fun e => Bool.noConfusion e) rfl hk_a0 hb_a0 dX1_startAnew_20 (fun h_4 => ?_)
  exact wG_vret C dX1_startAnew_23 ⟨by decide, by decide⟩ (fun _ e => e)
theorem c_X1_startAnew (l : Launch) (E : wE) (N : Nat) (r : Rp) (hN : 7 ≤ N) (hF : r 3 0 = some 4 ∧ r 3 1 = some 5 ∧ r 3 2 = some 6) (h : Hp) (a0 : Nat) (hk_a0 : Kd a0 = 1) (hb_a0 : a0 < N) (hB : r a0 0 = some 3 ∧ r a0 1 = some (a0 + 1) ∧ r (a0 + 1) (ix 0) = some (a0 + 3)) (hBN : a0 + 3 < N) : ∀ z, f_X1_startAnew h a0 = some z → CT l E yX1_startAnew cX1_startAnew 1 none rm_X1_startAnew [.ref (eB E + a0)] N h r ((fun u => (none, N, u, r)) z) := CT.of (by decide +kernel) (Nat.le_of_ble_eq_true rfl) (fun X _ e C => by subst e; exact w_X1_startAnew C hN hF h a0 hk_a0 hb_a0 hB hBN)
def rm_X5_empty : Room := { frames := 0, cells := 0, slots := 0, locals := 0 }
def f_X5_empty (h : Hp) : Option Hp :=
  vB (u2 h 47 7 0) fun h_1 =>
  vB (u2 h_1 47 8 0) fun h_2 =>
  some h_2
set_option maxRecDepth 4000 in
theorem w_X5_empty {X : wX} (C : Cx X yX5_empty cX5_empty 1 none rm_X5_empty) {N : Nat} {q : Qp} (hN : 137 ≤ N) (h : Hp) : wG X 1 (eM X (fun u => (none, N, u, (rq q)))) (f_X5_empty h) N h (rq q) 0 0 0 [(0, .ref (xB X + 47))] [] := by
  refine wG_of (f_X5_empty.eq_1 ..) ?_
  refine wG_aload_n C dX5_empty_0 0 rfl ?_
  refine wG_iconst C dX5_empty_1 (v := 0) (by decide) ?_
  refine wG_putI C fl_X5_24_5 (fp_5_7 _) (fun e => Bool.noConfusion e) rfl kd_47 (wll hN (by decide)) dX5_empty_2 (fun h_1 => ?_)
  refine wG_aload_n C dX5_empty_5 0 rfl ?_
  refine wG_iconst C dX5_empty_6 (v := 0) (by decide) ?_
  refine wG_putZ C fl_X5_28_5 (fp_5_8 _) (fun e => Bool.noConfusion e) rfl kd_47 (wll hN (by decide)) rfl rfl dX5_empty_7 (fun h_2 => ?_)
  exact wG_vret C dX5_empty_10 ⟨by decide, by decide⟩ (fun _ e => e)
theorem c_X5_empty (l : Launch) (E : wE) (N : Nat) (q : Qp) (hN : 137 ≤ N) (h : Hp) : ∀ z, f_X5_empty h = some z → CT l E yX5_empty cX5_empty 1 none rm_X5_empty [.ref (eB E + 47)] N h (rq q) ((fun u => (none, N, u, (rq q))) z) := CT.of (by decide +kernel) (Nat.le_of_ble_eq_true rfl) (fun X _ e C => by subst e; exact w_X5_empty C hN h)
def rm_X11_form : Room := { frames := 4, cells := 0, slots := 0, locals := 92 }
def L_X11_form_35  : Nat → Int32 → Hp → Option Hp
  | 0, _, _ => none
  | n + 1, x1_5, h_6 =>
    (if (2 : Int32) ≤ x1_5 then
    some h_6
    else
    if inB x1_5 2 then vB (57 + 27 * ix x1_5) fun a_8 =>
    vB (u2 h_6 a_8 5 0) fun h_9 =>
    vB (x1_5 + 1) fun (x1_10 : Int32) =>
    L_X11_form_35 n x1_10 h_9 else none)
def f_X11_form (h : Hp) : Option (Int32 × Hp) :=
  (f_X10_firstFault h).bind fun u_1 =>
  (if u_1 = (-9) then
  (f_X4_take h).bind fun u_2 =>
  (f_X1_startAnew u_2 7).bind fun u_3 =>
  vB 0 fun (x1_4 : Int32) =>
  (L_X11_form_35 FU x1_4 u_3).bind fun t_7 =>
  (f_X5_empty t_7).bind fun u_11 =>
  vB (u2 u_11 41 6 0) fun h_12 =>
  some (((h_12 3 3) * (h_12 3 4)), h_12)
  else
  some ((-3), h))
set_option maxRecDepth 4000 in
theorem wL_X11_form_35 {X : wX} (C : Cx X yX11_form cX11_form 2 (some .int) rm_X11_form) {N : Nat} {q : Qp} (hN : 137 ≤ N) (h : Hp) (u_1 : Int32) (u_2 : Hp) (u_3 : Hp) (x1_4 : Int32) : ∀ n x1_5 h_6, wG X 2 (fun (t_7 : Hp) Q => gQ X 2 Q N t_7 (rq q) 0 0 56 [(0, .ref (xB X + 0))] []) (L_X11_form_35 n x1_5 h_6) N h_6 (rq q) 0 0 35 [(0, .ref (xB X + 0)), (1, .int x1_5)] [] := by
  intro n
  induction n with
  | zero => intro _ _; exact wG_none
  | succ n ih =>
    intro x1_5 h_6
    refine wG_of (L_X11_form_35.eq_2 ..) ?_
    refine wG_iload_n C dX11_form_35 1 rfl ?_
    refine wG_iconst C dX11_form_36 (v := 2) (by decide) ?_
    refine wG_icmp_ge C dX11_form_37 ?_ ?_
    · exact wG_exit (fun Q e => gQ_lv [0] rfl e)
    · refine wG_aload_n C dX11_form_40 0 rfl ?_
      refine wG_getR C fl_X11_32_11 rfl kd_0 (wll hN (by decide)) (rf_0_3 q) dX11_form_41 ?_
      refine wG_iload_n C dX11_form_44 1 rfl ?_
      refine wG_aaS C hN dX11_form_45 (fun a_8 hk_a_8 => ?_)
      refine wG_iconst C dX11_form_46 (v := 0) (by decide) ?_
      refine wG_putZ C fl_X11_98_1 (fp_1_5 _) (fun e => Bool.noConfusion e) rfl hk_a_8 (wlt hN hk_a_8 (by decide)) rfl rfl dX11_form_47 (fun h_9 => ?_)
      refine wG_iinc C (v := 1) (LL := fun x1_10 => [(0, .ref (xB X + 0)), (1, .int x1_10)]) dX11_form_50 1 rfl (by decide) (by decide) [1, 0] (fun _ => rfl) (fun x1_10 => ?_)
      refine wG_goto C dX11_form_53 ?_
      exact wG_lv [0, 1] rfl (ih x1_10 h_9)
set_option maxRecDepth 4000 in
theorem w_X11_form {X : wX} (C : Cx X yX11_form cX11_form 2 (some .int) rm_X11_form) {N : Nat} {q : Qp} (hN : 137 ≤ N) (h : Hp) : wG X 2 (eM X (fun u => (some (.int u.1), N, u.2, (rq q)))) (f_X11_form h) N h (rq q) 0 0 0 [(0, .ref (xB X + 0))] [] := by
  refine wG_of (f_X11_form.eq_1 ..) ?_
  refine wG_aload_n C dX11_form_0 0 rfl ?_
  refine wG_getR C fl_X11_12_11 rfl kd_0 (wll hN (by decide)) (rf_0_0 q) dX11_form_1 ?_
  refine wG_cV_ri [] [] C vw_X11_87 (c_X10_firstFault (xl X) (xE X) N q hN h) kd_1 (wll hN (by decide)) (by decide) rfl rfl (Nat.le_of_ble_eq_true rfl) dX11_form_4 (cl' := 0) (sl' := 0) rfl rfl (fun u_1 => ?_)
  refine wG_bipush C dX11_form_7 (v := (-9)) (by decide) ?_
  refine wG_icmp_eq C dX11_form_9 ?_ ?_
  · refine wG_aload_n C dX11_form_15 0 rfl ?_
    refine wG_getR C fl_X11_19_11 rfl kd_0 (wll hN (by decide)) (rf_0_1 q) dX11_form_16 ?_
    refine wG_aload_n C dX11_form_19 0 rfl ?_
    refine wG_getR C fl_X11_12_11 rfl kd_0 (wll hN (by decide)) (rf_0_0 q) dX11_form_20 ?_
    refine wG_cV_wv [.ref (xB X + 1)] [] C vw_X11_91 (c_X4_take (xl X) (xE X) N q hN h) kd_3 (wll hN (by decide)) (by decide) rfl rfl (Nat.le_of_ble_eq_true rfl) dX11_form_23 (cl' := 0) (sl' := 0) rfl rfl (fun u_2 => ?_)
    refine wG_aload_n C dX11_form_26 0 rfl ?_
    refine wG_getR C fl_X11_28_11 rfl kd_0 (wll hN (by decide)) (rf_0_2 q) dX11_form_27 ?_
    refine wG_cV_wv [] [] C vw_X11_95 (c_X1_startAnew (xl X) (xE X) N (rq q) (Nat.le_trans (by decide) hN) ⟨rf_3_0 q, rf_3_1 q, rf_3_2 q⟩ u_2 7 kd_7 (wll hN (by decide)) ⟨rb0 q kd_7, rb1 q kd_7, rp (i := 0) q kd_7 (by decide)⟩ (wll hN (by decide))) kd_7 (wll hN (by decide)) (by decide) rfl rfl (Nat.le_of_ble_eq_true rfl) dX11_form_30 (cl' := 0) (sl' := 0) rfl rfl (fun u_3 => ?_)
    refine wG_iconst C dX11_form_33 (v := 0) (by decide) ?_
    refine wG_nmI (fun x1_4 => ?_)
    refine wG_istore_n C (L' := [(0, .ref (xB X + 0)), (1, .int x1_4)]) dX11_form_34 (by decide) [1, 0] rfl ?_
    refine wG_lv (L' := [(0, .ref (xB X + 0)), (1, .int x1_4)]) [0, 1] rfl ?_
    refine wG_bind (wL_X11_form_35 C hN h u_1 u_2 u_3 x1_4 FU x1_4 u_3) (fun t_7 => (?_ : wG X 2 _ _ N t_7 (rq q) 0 0 56 [(0, .ref (xB X + 0))] []))
    refine wG_aload_n C dX11_form_56 0 rfl ?_
    refine wG_getR C fl_X11_62_11 rfl kd_0 (wll hN (by decide)) (rf_0_7 q) dX11_form_57 ?_
    refine wG_cV_wv [] [] C vw_X11_102 (c_X5_empty (xl X) (xE X) N q hN t_7) kd_47 (wll hN (by decide)) (by decide) rfl rfl (Nat.le_of_ble_eq_true rfl) dX11_form_60 (cl' := 0) (sl' := 0) rfl rfl (fun u_11 => ?_)
    refine wG_aload_n C dX11_form_63 0 rfl ?_
    refine wG_getR C fl_X11_48_11 rfl kd_0 (wll hN (by decide)) (rf_0_5 q) dX11_form_64 ?_
    refine wG_iconst C dX11_form_67 (v := 0) (by decide) ?_
    refine wG_putZ C fl_X11_105_6 (fp_6_6 _) (fun e => Bool.noConfusion e) rfl kd_41 (wll hN (by decide)) rfl rfl dX11_form_68 (fun h_12 => ?_)
    refine wG_aload_n C dX11_form_71 0 rfl ?_
    refine wG_getR C fl_X11_19_11 rfl kd_0 (wll hN (by decide)) (rf_0_1 q) dX11_form_72 ?_
    refine wG_getI C fl_X11_108_4 rfl kd_3 (wll hN (by decide)) dX11_form_75 ?_
    refine wG_aload_n C dX11_form_78 0 rfl ?_
    refine wG_getR C fl_X11_19_11 rfl kd_0 (wll hN (by decide)) (rf_0_1 q) dX11_form_79 ?_
    refine wG_getI C fl_X11_111_4 rfl kd_3 (wll hN (by decide)) dX11_form_82 ?_
    refine wG_imul C dX11_form_85 ?_
    exact wG_iret C dX11_form_86 ⟨by decide, by decide⟩ (fun _ e => e)
  · refine wG_bipush C dX11_form_12 (v := (-3)) (by decide) ?_
    exact wG_iret C dX11_form_14 ⟨by decide, by decide⟩ (fun _ e => e)
theorem c_X11_form (l : Launch) (E : wE) (N : Nat) (q : Qp) (hN : 137 ≤ N) (h : Hp) : ∀ z, f_X11_form h = some z → CT l E yX11_form cX11_form 2 (some .int) rm_X11_form [.ref (eB E + 0)] N h (rq q) ((fun u => (some (.int u.1), N, u.2, (rq q))) z) := CT.of (by decide +kernel) (Nat.le_of_ble_eq_true rfl) (fun X _ e C => by subst e; exact w_X11_form C hN h)
def rm_X4_holds : Room := { frames := 0, cells := 0, slots := 0, locals := 0 }
def f_X4_holds (h : Hp) (x1 : Int32) (x2 : Int32) (x3 : Int32) (x4 : Int32) : Option Int32 :=
  (if x1 < 0 then
  some 0
  else
  (if (h 3 3) ≤ x1 then
  some 0
  else
  (if x2 < 0 then
  some 0
  else
  (if (h 3 4) ≤ x2 then
  some 0
  else
  (if x3 < 1 then
  some 0
  else
  (if ((h 3 3) - x1) < x3 then
  some 0
  else
  (if x4 < 1 then
  some 0
  else
  (if ((h 3 4) - x2) < x4 then
  some 0
  else
  some 1))))))))
set_option maxRecDepth 4000 in
theorem w_X4_holds {X : wX} (C : Cx X yX4_holds cX4_holds 5 (some .boolean) rm_X4_holds) {N : Nat} {q : Qp} (hN : 137 ≤ N) (h : Hp) (x1 : Int32) (x2 : Int32) (x3 : Int32) (x4 : Int32) : wG X 5 (eM X (fun u => (some (.int u), N, h, (rq q)))) (f_X4_holds h x1 x2 x3 x4) N h (rq q) 0 0 0 [(0, .ref (xB X + 3)), (1, .int x1), (2, .int x2), (3, .int x3), (4, .int x4)] [] := by
  refine wG_of (f_X4_holds.eq_1 ..) ?_
  refine wG_iload_n C dX4_holds_0 1 rfl ?_
  refine wG_if_lt C dX4_holds_1 ?_ ?_
  · refine wG_iconst C dX4_holds_60 (v := 0) (by decide) ?_
    exact wG_zret C dX4_holds_61 rfl ⟨by decide, by decide⟩ (fun _ e => e)
  · refine wG_iload_n C dX4_holds_4 1 rfl ?_
    refine wG_aload_n C dX4_holds_5 0 rfl ?_
    refine wG_getI C fl_X4_21_4 rfl kd_3 (wll hN (by decide)) dX4_holds_6 ?_
    refine wG_icmp_ge C dX4_holds_9 ?_ ?_
    · refine wG_iconst C dX4_holds_60 (v := 0) (by decide) ?_
      exact wG_zret C dX4_holds_61 rfl ⟨by decide, by decide⟩ (fun _ e => e)
    · refine wG_iload_n C dX4_holds_12 2 rfl ?_
      refine wG_if_lt C dX4_holds_13 ?_ ?_
      · refine wG_iconst C dX4_holds_60 (v := 0) (by decide) ?_
        exact wG_zret C dX4_holds_61 rfl ⟨by decide, by decide⟩ (fun _ e => e)
      · refine wG_iload_n C dX4_holds_16 2 rfl ?_
        refine wG_aload_n C dX4_holds_17 0 rfl ?_
        refine wG_getI C fl_X4_25_4 rfl kd_3 (wll hN (by decide)) dX4_holds_18 ?_
        refine wG_icmp_ge C dX4_holds_21 ?_ ?_
        · refine wG_iconst C dX4_holds_60 (v := 0) (by decide) ?_
          exact wG_zret C dX4_holds_61 rfl ⟨by decide, by decide⟩ (fun _ e => e)
        · refine wG_iload_n C dX4_holds_24 3 rfl ?_
          refine wG_iconst C dX4_holds_25 (v := 1) (by decide) ?_
          refine wG_icmp_lt C dX4_holds_26 ?_ ?_
          · refine wG_iconst C dX4_holds_60 (v := 0) (by decide) ?_
            exact wG_zret C dX4_holds_61 rfl ⟨by decide, by decide⟩ (fun _ e => e)
          · refine wG_iload_n C dX4_holds_29 3 rfl ?_
            refine wG_aload_n C dX4_holds_30 0 rfl ?_
            refine wG_getI C fl_X4_21_4 rfl kd_3 (wll hN (by decide)) dX4_holds_31 ?_
            refine wG_iload_n C dX4_holds_34 1 rfl ?_
            refine wG_isub C dX4_holds_35 ?_
            refine wG_icmp_gt C dX4_holds_36 ?_ ?_
            · refine wG_iconst C dX4_holds_60 (v := 0) (by decide) ?_
              exact wG_zret C dX4_holds_61 rfl ⟨by decide, by decide⟩ (fun _ e => e)
            · refine wG_iload C dX4_holds_39 4 rfl ?_
              refine wG_iconst C dX4_holds_41 (v := 1) (by decide) ?_
              refine wG_icmp_lt C dX4_holds_42 ?_ ?_
              · refine wG_iconst C dX4_holds_60 (v := 0) (by decide) ?_
                exact wG_zret C dX4_holds_61 rfl ⟨by decide, by decide⟩ (fun _ e => e)
              · refine wG_iload C dX4_holds_45 4 rfl ?_
                refine wG_aload_n C dX4_holds_47 0 rfl ?_
                refine wG_getI C fl_X4_25_4 rfl kd_3 (wll hN (by decide)) dX4_holds_48 ?_
                refine wG_iload_n C dX4_holds_51 2 rfl ?_
                refine wG_isub C dX4_holds_52 ?_
                refine wG_icmp_gt C dX4_holds_53 ?_ ?_
                · refine wG_iconst C dX4_holds_60 (v := 0) (by decide) ?_
                  exact wG_zret C dX4_holds_61 rfl ⟨by decide, by decide⟩ (fun _ e => e)
                · refine wG_iconst C dX4_holds_56 (v := 1) (by decide) ?_
                  refine wG_goto C dX4_holds_57 ?_
                  exact wG_zret C dX4_holds_61 rfl ⟨by decide, by decide⟩ (fun _ e => e)
theorem c_X4_holds (l : Launch) (E : wE) (N : Nat) (q : Qp) (hN : 137 ≤ N) (h : Hp) (x1 : Int32) (x2 : Int32) (x3 : Int32) (x4 : Int32) : ∀ z, f_X4_holds h x1 x2 x3 x4 = some z → CT l E yX4_holds cX4_holds 5 (some .boolean) rm_X4_holds [.ref (eB E + 3), .int x1, .int x2, .int x3, .int x4] N h (rq q) ((fun u => (some (.int u), N, h, (rq q))) z) := CT.of (by decide +kernel) (Nat.le_of_ble_eq_true rfl) (fun X _ e C => by subst e; exact w_X4_holds C hN h x1 x2 x3 x4)
def rm_X11_place : Room := { frames := 1, cells := 0, slots := 0, locals := 24 }
def f_X11_place (h : Hp) (x1 : Int32) (x2 : Int32) : Option Int32 :=
  (f_X4_holds h x1 x2 1 1).bind fun u_1 =>
  (if u_1 = 0 then
  some (-1)
  else
  (f_X4_kindAt h x1 x2).bind fun u_2 =>
  some u_2)
set_option maxRecDepth 4000 in
theorem w_X11_place {X : wX} (C : Cx X yX11_place cX11_place 3 (some .int) rm_X11_place) {N : Nat} {q : Qp} (hN : 137 ≤ N) (h : Hp) (x1 : Int32) (x2 : Int32) : wG X 3 (eM X (fun u => (some (.int u), N, h, (rq q)))) (f_X11_place h x1 x2) N h (rq q) 0 0 0 [(0, .ref (xB X + 0)), (1, .int x1), (2, .int x2)] [] := by
  refine wG_of (f_X11_place.eq_1 ..) ?_
  refine wG_aload_n C dX11_place_0 0 rfl ?_
  refine wG_getR C fl_X11_19_11 rfl kd_0 (wll hN (by decide)) (rf_0_1 q) dX11_place_1 ?_
  refine wG_iload_n C dX11_place_4 1 rfl ?_
  refine wG_iload_n C dX11_place_5 2 rfl ?_
  refine wG_iconst C dX11_place_6 (v := 1) (by decide) ?_
  refine wG_iconst C dX11_place_7 (v := 1) (by decide) ?_
  refine wG_cV_ri [.int x1, .int x2, .int 1, .int 1] [] C vw_X11_114 (c_X4_holds (xl X) (xE X) N q hN h x1 x2 1 1) kd_3 (wll hN (by decide)) (by decide) rfl rfl (Nat.le_of_ble_eq_true rfl) dX11_place_8 (cl' := 0) (sl' := 0) rfl rfl (fun u_1 => ?_)
  refine wG_if_eq C dX11_place_11 ?_ ?_
  · refine wG_iconst C dX11_place_26 (v := (-1)) (by decide) ?_
    exact wG_iret C dX11_place_27 ⟨by decide, by decide⟩ (fun _ e => e)
  · refine wG_aload_n C dX11_place_14 0 rfl ?_
    refine wG_getR C fl_X11_19_11 rfl kd_0 (wll hN (by decide)) (rf_0_1 q) dX11_place_15 ?_
    refine wG_iload_n C dX11_place_18 1 rfl ?_
    refine wG_iload_n C dX11_place_19 2 rfl ?_
    refine wG_cV_ri [.int x1, .int x2] [] C vw_X11_118 (c_X4_kindAt (xl X) (xE X) N (rq q) (Nat.le_trans (by decide) hN) ⟨rf_3_0 q, rf_3_1 q, rf_3_2 q⟩ h x1 x2) kd_3 (wll hN (by decide)) (by decide) rfl rfl (Nat.le_of_ble_eq_true rfl) dX11_place_20 (cl' := 0) (sl' := 0) rfl rfl (fun u_2 => ?_)
    refine wG_goto C dX11_place_23 ?_
    exact wG_iret C dX11_place_27 ⟨by decide, by decide⟩ (fun _ e => e)
theorem c_X11_place (l : Launch) (E : wE) (N : Nat) (q : Qp) (hN : 137 ≤ N) (h : Hp) (x1 : Int32) (x2 : Int32) : ∀ z, f_X11_place h x1 x2 = some z → CT l E yX11_place cX11_place 3 (some .int) rm_X11_place [.ref (eB E + 0), .int x1, .int x2] N h (rq q) ((fun u => (some (.int u), N, h, (rq q))) z) := CT.of (by decide +kernel) (Nat.le_of_ble_eq_true rfl) (fun X _ e C => by subst e; exact w_X11_place C hN h x1 x2)
def rm_X1_knows : Room := { frames := 0, cells := 0, slots := 0, locals := 0 }
def f_X1_knows (h : Hp) (x1 : Int32) : Option Int32 :=
  (if x1 < 0 then
  some 0
  else
  (if (h 7 3) ≤ x1 then
  some 0
  else
  some 1))
set_option maxRecDepth 4000 in
theorem w_X1_knows {X : wX} (C : Cx X yX1_knows cX1_knows 2 (some .boolean) rm_X1_knows) {N : Nat} {q : Qp} (hN : 137 ≤ N) (h : Hp) (x1 : Int32) : wG X 2 (eM X (fun u => (some (.int u), N, h, (rq q)))) (f_X1_knows h x1) N h (rq q) 0 0 0 [(0, .ref (xB X + 7)), (1, .int x1)] [] := by
  refine wG_of (f_X1_knows.eq_1 ..) ?_
  refine wG_iload_n C dX1_knows_0 1 rfl ?_
  refine wG_if_lt C dX1_knows_1 ?_ ?_
  · refine wG_iconst C dX1_knows_16 (v := 0) (by decide) ?_
    exact wG_zret C dX1_knows_17 rfl ⟨by decide, by decide⟩ (fun _ e => e)
  · refine wG_iload_n C dX1_knows_4 1 rfl ?_
    refine wG_aload_n C dX1_knows_5 0 rfl ?_
    refine wG_getI C fl_X1_33_1 rfl kd_7 (wll hN (by decide)) dX1_knows_6 ?_
    refine wG_icmp_ge C dX1_knows_9 ?_ ?_
    · refine wG_iconst C dX1_knows_16 (v := 0) (by decide) ?_
      exact wG_zret C dX1_knows_17 rfl ⟨by decide, by decide⟩ (fun _ e => e)
    · refine wG_iconst C dX1_knows_12 (v := 1) (by decide) ?_
      refine wG_goto C dX1_knows_13 ?_
      exact wG_zret C dX1_knows_17 rfl ⟨by decide, by decide⟩ (fun _ e => e)
theorem c_X1_knows (l : Launch) (E : wE) (N : Nat) (q : Qp) (hN : 137 ≤ N) (h : Hp) (x1 : Int32) : ∀ z, f_X1_knows h x1 = some z → CT l E yX1_knows cX1_knows 2 (some .boolean) rm_X1_knows [.ref (eB E + 7), .int x1] N h (rq q) ((fun u => (some (.int u), N, h, (rq q))) z) := CT.of (by decide +kernel) (Nat.le_of_ble_eq_true rfl) (fun X _ e C => by subst e; exact w_X1_knows C hN h x1)
def rm_X1_stillHas : Room := { frames := 1, cells := 0, slots := 0, locals := 21 }
def f_X1_stillHas (h : Hp) (x1 : Int32) : Option Int32 :=
  (f_X1_knows h x1).bind fun u_1 =>
  (if u_1 = 0 then
  some 0
  else
  if inB x1 24 then vB (10 + ix x1) fun a_2 =>
  (if (h a_2 6) = 0 then
  some 1
  else
  some 0) else none)
set_option maxRecDepth 4000 in
theorem w_X1_stillHas {X : wX} (C : Cx X yX1_stillHas cX1_stillHas 2 (some .boolean) rm_X1_stillHas) {N : Nat} {q : Qp} (hN : 137 ≤ N) (h : Hp) (x1 : Int32) : wG X 2 (eM X (fun u => (some (.int u), N, h, (rq q)))) (f_X1_stillHas h x1) N h (rq q) 0 0 0 [(0, .ref (xB X + 7)), (1, .int x1)] [] := by
  refine wG_of (f_X1_stillHas.eq_1 ..) ?_
  refine wG_aload_n C dX1_stillHas_0 0 rfl ?_
  refine wG_iload_n C dX1_stillHas_1 1 rfl ?_
  refine wG_cV_ri [.int x1] [] C vw_X1_44 (c_X1_knows (xl X) (xE X) N q hN h x1) kd_7 (wll hN (by decide)) (by decide) rfl rfl (Nat.le_of_ble_eq_true rfl) dX1_stillHas_2 (cl' := 0) (sl' := 0) rfl rfl (fun u_1 => ?_)
  refine wG_if_eq C dX1_stillHas_5 ?_ ?_
  · refine wG_iconst C dX1_stillHas_24 (v := 0) (by decide) ?_
    exact wG_zret C dX1_stillHas_25 rfl ⟨by decide, by decide⟩ (fun _ e => e)
  · refine wG_aload_n C dX1_stillHas_8 0 rfl ?_
    refine wG_getR C fl_X1_11_1 rfl kd_7 (wll hN (by decide)) (rf_7_1 q) dX1_stillHas_9 ?_
    refine wG_iload_n C dX1_stillHas_12 1 rfl ?_
    refine wG_aaP C hN kd_7 rfl rfl dX1_stillHas_13 (fun a_2 hk_a_2 => ?_)
    refine wG_getI C fl_X1_48_7 rfl hk_a_2 (wlt hN hk_a_2 (by decide)) dX1_stillHas_14 ?_
    refine wG_if_ne C dX1_stillHas_17 ?_ ?_
    · refine wG_iconst C dX1_stillHas_20 (v := 1) (by decide) ?_
      refine wG_goto C dX1_stillHas_21 ?_
      exact wG_zret C dX1_stillHas_25 rfl ⟨by decide, by decide⟩ (fun _ e => e)
    · refine wG_iconst C dX1_stillHas_24 (v := 0) (by decide) ?_
      exact wG_zret C dX1_stillHas_25 rfl ⟨by decide, by decide⟩ (fun _ e => e)
theorem c_X1_stillHas (l : Launch) (E : wE) (N : Nat) (q : Qp) (hN : 137 ≤ N) (h : Hp) (x1 : Int32) : ∀ z, f_X1_stillHas h x1 = some z → CT l E yX1_stillHas cX1_stillHas 2 (some .boolean) rm_X1_stillHas [.ref (eB E + 7), .int x1] N h (rq q) ((fun u => (some (.int u), N, h, (rq q))) z) := CT.of (by decide +kernel) (Nat.le_of_ble_eq_true rfl) (fun X _ e C => by subst e; exact w_X1_stillHas C hN h x1)
def rm_X7_become : Room := { frames := 0, cells := 0, slots := 0, locals := 0 }
def f_X7_become (h : Hp) (a0 : Nat) (a1 : Nat) : Option Hp :=
  vB (u2 h a0 0 (h a1 0)) fun h_1 =>
  vB (u2 h_1 a0 1 (h_1 a1 1)) fun h_2 =>
  vB (u2 h_2 a0 2 (h_2 a1 2)) fun h_3 =>
  vB (u2 h_3 a0 3 (h_3 a1 3)) fun h_4 =>
  vB (u2 h_4 a0 4 (h_4 a1 4)) fun h_5 =>
  vB (u2 h_5 a0 5 (h_5 a1 5)) fun h_6 =>
  vB (u2 h_6 a0 6 (h_6 a1 6)) fun h_7 =>
  vB (u2 h_7 a0 7 (h_7 a1 7)) fun h_8 =>
  vB (u2 h_8 a0 8 (h_8 a1 8)) fun h_9 =>
  vB (u2 h_9 a0 9 (h_9 a1 9)) fun h_10 =>
  vB (u2 h_10 a0 10 (h_10 a1 10)) fun h_11 =>
  vB (u2 h_11 a0 11 (h_11 a1 11)) fun h_12 =>
  vB (u2 h_12 a0 12 (h_12 a1 12)) fun h_13 =>
  some h_13
set_option maxRecDepth 4000 in
theorem w_X7_become {X : wX} (C : Cx X yX7_become cX7_become 2 none rm_X7_become) {N : Nat} {q : Qp} (hN : 137 ≤ N) (h : Hp) (a0 : Nat) (hk_a0 : Kd a0 = 7) (a1 : Nat) (hk_a1 : Kd a1 = 7) : wG X 2 (eM X (fun u => (none, N, u, (rq q)))) (f_X7_become h a0 a1) N h (rq q) 0 0 0 [(0, .ref (xB X + a0)), (1, .ref (xB X + a1))] [] := by
  refine wG_of (f_X7_become.eq_1 ..) ?_
  refine wG_aload_n C dX7_become_0 0 rfl ?_
  refine wG_aload_n C dX7_become_1 1 rfl ?_
  refine wG_getI C fl_X7_9_7 rfl hk_a1 (wlt hN hk_a1 (by decide)) dX7_become_2 ?_
  refine wG_putI C fl_X7_9_7 (fp_7_0 _) (fun e => Bool.noConfusion e) rfl hk_a0 (wlt hN hk_a0 (by decide)) dX7_become_5 (fun h_1 => ?_)
  refine wG_aload_n C dX7_become_8 0 rfl ?_
  refine wG_aload_n C dX7_become_9 1 rfl ?_
  refine wG_getI C fl_X7_15_7 rfl hk_a1 (wlt hN hk_a1 (by decide)) dX7_become_10 ?_
  refine wG_putI C fl_X7_15_7 (fp_7_1 _) (fun e => Bool.noConfusion e) rfl hk_a0 (wlt hN hk_a0 (by decide)) dX7_become_13 (fun h_2 => ?_)
  refine wG_aload_n C dX7_become_16 0 rfl ?_
  refine wG_aload_n C dX7_become_17 1 rfl ?_
  refine wG_getI C fl_X7_23_7 rfl hk_a1 (wlt hN hk_a1 (by decide)) dX7_become_18 ?_
  refine wG_putI C fl_X7_23_7 (fp_7_2 _) (fun e => Bool.noConfusion e) rfl hk_a0 (wlt hN hk_a0 (by decide)) dX7_become_21 (fun h_3 => ?_)
  refine wG_aload_n C dX7_become_24 0 rfl ?_
  refine wG_aload_n C dX7_become_25 1 rfl ?_
  refine wG_getI C fl_X7_27_7 rfl hk_a1 (wlt hN hk_a1 (by decide)) dX7_become_26 ?_
  refine wG_putI C fl_X7_27_7 (fp_7_3 _) (fun e => Bool.noConfusion e) rfl hk_a0 (wlt hN hk_a0 (by decide)) dX7_become_29 (fun h_4 => ?_)
  refine wG_aload_n C dX7_become_32 0 rfl ?_
  refine wG_aload_n C dX7_become_33 1 rfl ?_
  refine wG_getI C fl_X7_32_7 rfl hk_a1 (wlt hN hk_a1 (by decide)) dX7_become_34 ?_
  refine wG_putI C fl_X7_32_7 (fp_7_4 _) (fun e => Bool.noConfusion e) rfl hk_a0 (wlt hN hk_a0 (by decide)) dX7_become_37 (fun h_5 => ?_)
  refine wG_aload_n C dX7_become_40 0 rfl ?_
  refine wG_aload_n C dX7_become_41 1 rfl ?_
  refine wG_getI C fl_X7_38_7 rfl hk_a1 (wlt hN hk_a1 (by decide)) dX7_become_42 ?_
  refine wG_putI C fl_X7_38_7 (fp_7_5 _) (fun e => Bool.noConfusion e) rfl hk_a0 (wlt hN hk_a0 (by decide)) dX7_become_45 (fun h_6 => ?_)
  refine wG_aload_n C dX7_become_48 0 rfl ?_
  refine wG_aload_n C dX7_become_49 1 rfl ?_
  refine wG_getI C fl_X7_41_7 rfl hk_a1 (wlt hN hk_a1 (by decide)) dX7_become_50 ?_
  refine wG_putI C fl_X7_41_7 (fp_7_6 _) (fun e => Bool.noConfusion e) rfl hk_a0 (wlt hN hk_a0 (by decide)) dX7_become_53 (fun h_7 => ?_)
  refine wG_aload_n C dX7_become_56 0 rfl ?_
  refine wG_aload_n C dX7_become_57 1 rfl ?_
  refine wG_getI C fl_X7_44_7 rfl hk_a1 (wlt hN hk_a1 (by decide)) dX7_become_58 ?_
  refine wG_putI C fl_X7_44_7 (fp_7_7 _) (fun e => Bool.noConfusion e) rfl hk_a0 (wlt hN hk_a0 (by decide)) dX7_become_61 (fun h_8 => ?_)
  refine wG_aload_n C dX7_become_64 0 rfl ?_
  refine wG_aload_n C dX7_become_65 1 rfl ?_
  refine wG_getI C fl_X7_47_7 rfl hk_a1 (wlt hN hk_a1 (by decide)) dX7_become_66 ?_
  refine wG_putI C fl_X7_47_7 (fp_7_8 _) (fun e => Bool.noConfusion e) rfl hk_a0 (wlt hN hk_a0 (by decide)) dX7_become_69 (fun h_9 => ?_)
  refine wG_aload_n C dX7_become_72 0 rfl ?_
  refine wG_aload_n C dX7_become_73 1 rfl ?_
  refine wG_getI C fl_X7_53_7 rfl hk_a1 (wlt hN hk_a1 (by decide)) dX7_become_74 ?_
  refine wG_putI C fl_X7_53_7 (fp_7_9 _) (fun e => Bool.noConfusion e) rfl hk_a0 (wlt hN hk_a0 (by decide)) dX7_become_77 (fun h_10 => ?_)
  refine wG_aload_n C dX7_become_80 0 rfl ?_
  refine wG_aload_n C dX7_become_81 1 rfl ?_
  refine wG_getI C fl_X7_56_7 rfl hk_a1 (wlt hN hk_a1 (by decide)) dX7_become_82 ?_
  refine wG_putI C fl_X7_56_7 (fp_7_10 _) (fun e => Bool.noConfusion e) rfl hk_a0 (wlt hN hk_a0 (by decide)) dX7_become_85 (fun h_11 => ?_)
  refine wG_aload_n C dX7_become_88 0 rfl ?_
  refine wG_aload_n C dX7_become_89 1 rfl ?_
  refine wG_getI C fl_X7_59_7 rfl hk_a1 (wlt hN hk_a1 (by decide)) dX7_become_90 ?_
  refine wG_putI C fl_X7_59_7 (fp_7_11 _) (fun e => Bool.noConfusion e) rfl hk_a0 (wlt hN hk_a0 (by decide)) dX7_become_93 (fun h_12 => ?_)
  refine wG_aload_n C dX7_become_96 0 rfl ?_
  refine wG_aload_n C dX7_become_97 1 rfl ?_
  refine wG_getI C fl_X7_62_7 rfl hk_a1 (wlt hN hk_a1 (by decide)) dX7_become_98 ?_
  refine wG_putI C fl_X7_62_7 (fp_7_12 _) (fun e => Bool.noConfusion e) rfl hk_a0 (wlt hN hk_a0 (by decide)) dX7_become_101 (fun h_13 => ?_)
  exact wG_vret C dX7_become_104 ⟨by decide, by decide⟩ (fun _ e => e)
theorem c_X7_become (l : Launch) (E : wE) (N : Nat) (q : Qp) (hN : 137 ≤ N) (h : Hp) (a0 : Nat) (a1 : Nat) (hk_a0 : Kd a0 = 7) (hk_a1 : Kd a1 = 7) : ∀ z, f_X7_become h a0 a1 = some z → CT l E yX7_become cX7_become 2 none rm_X7_become [.ref (eB E + a0), .ref (eB E + a1)] N h (rq q) ((fun u => (none, N, u, (rq q))) z) := CT.of (by decide +kernel) (Nat.le_of_ble_eq_true rfl) (fun X _ e C => by subst e; exact w_X7_become C hN h a0 hk_a0 a1 hk_a1)
def rm_X7_share : Room := { frames := 0, cells := 0, slots := 0, locals := 0 }
def f_X7_share (x0 : Int32) (x1 : Int32) (x2 : Int32) : Option Int32 :=
  (if x2 ≤ 0 then
  some 0
  else
  if x2 = 0 then none else
  some ((x0 * x1) / x2))
set_option maxRecDepth 4000 in
theorem w_X7_share {X : wX} (C : Cx X yX7_share cX7_share 3 (some .int) rm_X7_share) {N : Nat} {q : Qp} (hN : 137 ≤ N) (h : Hp) (x0 : Int32) (x1 : Int32) (x2 : Int32) : wG X 3 (eM X (fun u => (some (.int u), N, h, (rq q)))) (f_X7_share x0 x1 x2) N h (rq q) 0 0 0 [(0, .int x0), (1, .int x1), (2, .int x2)] [] := by
  refine wG_of (f_X7_share.eq_1 ..) ?_
  refine wG_iload_n C dX7_share_0 2 rfl ?_
  refine wG_if_le C dX7_share_1 ?_ ?_
  · refine wG_iconst C dX7_share_12 (v := 0) (by decide) ?_
    exact wG_iret C dX7_share_13 ⟨by decide, by decide⟩ (fun _ e => e)
  · refine wG_iload_n C dX7_share_4 0 rfl ?_
    refine wG_iload_n C dX7_share_5 1 rfl ?_
    refine wG_imul C dX7_share_6 ?_
    refine wG_iload_n C dX7_share_7 2 rfl ?_
    refine wG_idiv C dX7_share_8 ?_
    refine wG_goto C dX7_share_9 ?_
    exact wG_iret C dX7_share_13 ⟨by decide, by decide⟩ (fun _ e => e)
theorem c_X7_share (l : Launch) (E : wE) (N : Nat) (q : Qp) (hN : 137 ≤ N) (h : Hp) (x0 : Int32) (x1 : Int32) (x2 : Int32) : ∀ z, f_X7_share x0 x1 x2 = some z → CT l E yX7_share cX7_share 3 (some .int) rm_X7_share [.int x0, .int x1, .int x2] N h (rq q) ((fun u => (some (.int u), N, h, (rq q))) z) := CT.of (by decide +kernel) (Nat.le_of_ble_eq_true rfl) (fun X _ e C => by subst e; exact w_X7_share C hN h x0 x1 x2)
def rm_X7_part : Room := { frames := 2, cells := 0, slots := 0, locals := 51 }
def f_X7_part (h : Hp) (a0 : Nat) (x2 : Int32) (x3 : Int32) (a4 : Nat) (a5 : Nat) : Option Hp :=
  (f_X7_become h a4 a0).bind fun u_1 =>
  (f_X7_become u_1 a5 a0).bind fun u_2 =>
  ((if x2 = 0 then
  vB (u2 u_2 a4 3 x3) fun h_4 =>
  vB (u2 h_4 a5 1 ((h_4 a0 1) + x3)) fun h_5 =>
  vB (u2 h_5 a5 3 ((h_5 a0 3) - x3)) fun h_6 =>
  vB (u2 h_6 a4 12 0) fun h_7 =>
  vB (u2 h_7 a5 11 0) fun h_8 =>
  (f_X7_share (h_8 a0 9) x3 (h_8 a0 3)).bind fun u_9 =>
  vB (u2 h_8 a4 9 u_9) fun h_10 =>
  (f_X7_share (h_10 a0 10) x3 (h_10 a0 3)).bind fun u_11 =>
  vB (u2 h_10 a4 10 u_11) fun h_12 =>
  vB (u2 h_12 a5 9 ((h_12 a0 9) - (h_12 a4 9))) fun h_13 =>
  vB (u2 h_13 a5 10 ((h_13 a0 10) - (h_13 a4 10))) fun h_14 =>
  some h_14
  else
  vB (u2 u_2 a4 2 x3) fun h_15 =>
  vB (u2 h_15 a5 0 ((h_15 a0 0) + x3)) fun h_16 =>
  vB (u2 h_16 a5 2 ((h_16 a0 2) - x3)) fun h_17 =>
  vB (u2 h_17 a4 10 0) fun h_18 =>
  vB (u2 h_18 a5 9 0) fun h_19 =>
  (f_X7_share (h_19 a0 11) x3 (h_19 a0 2)).bind fun u_20 =>
  vB (u2 h_19 a4 11 u_20) fun h_21 =>
  (f_X7_share (h_21 a0 12) x3 (h_21 a0 2)).bind fun u_22 =>
  vB (u2 h_21 a4 12 u_22) fun h_23 =>
  vB (u2 h_23 a5 11 ((h_23 a0 11) - (h_23 a4 11))) fun h_24 =>
  vB (u2 h_24 a5 12 ((h_24 a0 12) - (h_24 a4 12))) fun h_25 =>
  some h_25)).bind fun t_3 =>
  (f_X4_weightIn t_3 (t_3 a0 0) (t_3 a0 1) (t_3 a4 2) (t_3 a4 3)).bind fun u_26 =>
  vB (u2 t_3 a4 4 u_26) fun h_27 =>
  vB (u2 h_27 a5 4 ((h_27 a0 4) - (h_27 a4 4))) fun h_28 =>
  (f_X4_rindIn h_28 (h_28 a0 0) (h_28 a0 1) (h_28 a4 2) (h_28 a4 3)).bind fun u_29 =>
  vB (u2 h_28 a4 5 u_29) fun h_30 =>
  vB (u2 h_30 a5 5 ((h_30 a0 5) - (h_30 a4 5))) fun h_31 =>
  (f_X7_share (h_31 a0 8) (h_31 a4 4) (h_31 a0 4)).bind fun u_32 =>
  vB (u2 h_31 a4 8 u_32) fun h_33 =>
  vB (u2 h_33 a5 8 ((h_33 a0 8) - (h_33 a4 8))) fun h_34 =>
  some h_34
set_option maxRecDepth 4000 in
theorem w_X7_part {X : wX} (C : Cx X yX7_part cX7_part 6 none rm_X7_part) {N : Nat} {q : Qp} (hN : 137 ≤ N) (h : Hp) (a0 : Nat) (hk_a0 : Kd a0 = 7) (x2 : Int32) (x3 : Int32) (a4 : Nat) (hk_a4 : Kd a4 = 7) (a5 : Nat) (hk_a5 : Kd a5 = 7) : wG X 6 (eM X (fun u => (none, N, u, (rq q)))) (f_X7_part h a0 x2 x3 a4 a5) N h (rq q) 0 0 0 [(0, .ref (xB X + a0)), (1, .ref (xB X + 3)), (2, .int x2), (3, .int x3), (4, .ref (xB X + a4)), (5, .ref (xB X + a5))] [] := by
  refine wG_of (f_X7_part.eq_1 ..) ?_
  refine wG_aload C dX7_part_0 4 rfl ?_
  refine wG_aload_n C dX7_part_2 0 rfl ?_
  refine wG_cV_wv [.ref (xB X + a0)] [] C vw_X7_99 (c_X7_become (xl X) (xE X) N q hN h a4 a0 hk_a4 hk_a0) hk_a4 (wlt hN hk_a4 (by decide)) (by decide) rfl rfl (Nat.le_of_ble_eq_true rfl) dX7_part_3 (cl' := 0) (sl' := 0) rfl rfl (fun u_1 => ?_)
  refine wG_aload C dX7_part_6 5 rfl ?_
  refine wG_aload_n C dX7_part_8 0 rfl ?_
  refine wG_cV_wv [.ref (xB X + a0)] [] C vw_X7_99 (c_X7_become (xl X) (xE X) N q hN u_1 a5 a0 hk_a5 hk_a0) hk_a5 (wlt hN hk_a5 (by decide)) (by decide) rfl rfl (Nat.le_of_ble_eq_true rfl) dX7_part_9 (cl' := 0) (sl' := 0) rfl rfl (fun u_2 => ?_)
  refine wG_iload_n C dX7_part_12 2 rfl ?_
  refine wG_bind (J := (fun (t_3 : Hp) Q => gQ X 6 Q N t_3 (rq q) 0 0 227 [(0, .ref (xB X + a0)), (1, .ref (xB X + 3)), (4, .ref (xB X + a4)), (5, .ref (xB X + a5))] [])) ?_ (fun t_3 => (?_ : wG X 6 _ _ N t_3 (rq q) 0 0 227 [(0, .ref (xB X + a0)), (1, .ref (xB X + 3)), (4, .ref (xB X + a4)), (5, .ref (xB X + a5))] []))
  · refine wG_if_eq C dX7_part_13 ?_ ?_
    · refine wG_aload C dX7_part_123 4 rfl ?_
      refine wG_iload_n C dX7_part_125 3 rfl ?_
      refine wG_putI C fl_X7_27_7 (fp_7_3 _) (fun e => Bool.noConfusion e) rfl hk_a4 (wlt hN hk_a4 (by decide)) dX7_part_126 (fun h_4 => ?_)
      refine wG_aload C dX7_part_129 5 rfl ?_
      refine wG_aload_n C dX7_part_131 0 rfl ?_
      refine wG_getI C fl_X7_15_7 rfl hk_a0 (wlt hN hk_a0 (by decide)) dX7_part_132 ?_
      refine wG_iload_n C dX7_part_135 3 rfl ?_
      refine wG_iadd C dX7_part_136 ?_
      refine wG_putI C fl_X7_15_7 (fp_7_1 _) (fun e => Bool.noConfusion e) rfl hk_a5 (wlt hN hk_a5 (by decide)) dX7_part_137 (fun h_5 => ?_)
      refine wG_aload C dX7_part_140 5 rfl ?_
      refine wG_aload_n C dX7_part_142 0 rfl ?_
      refine wG_getI C fl_X7_27_7 rfl hk_a0 (wlt hN hk_a0 (by decide)) dX7_part_143 ?_
      refine wG_iload_n C dX7_part_146 3 rfl ?_
      refine wG_isub C dX7_part_147 ?_
      refine wG_putI C fl_X7_27_7 (fp_7_3 _) (fun e => Bool.noConfusion e) rfl hk_a5 (wlt hN hk_a5 (by decide)) dX7_part_148 (fun h_6 => ?_)
      refine wG_aload C dX7_part_151 4 rfl ?_
      refine wG_iconst C dX7_part_153 (v := 0) (by decide) ?_
      refine wG_putI C fl_X7_62_7 (fp_7_12 _) (fun e => Bool.noConfusion e) rfl hk_a4 (wlt hN hk_a4 (by decide)) dX7_part_154 (fun h_7 => ?_)
      refine wG_aload C dX7_part_157 5 rfl ?_
      refine wG_iconst C dX7_part_159 (v := 0) (by decide) ?_
      refine wG_putI C fl_X7_59_7 (fp_7_11 _) (fun e => Bool.noConfusion e) rfl hk_a5 (wlt hN hk_a5 (by decide)) dX7_part_160 (fun h_8 => ?_)
      refine wG_aload C dX7_part_163 4 rfl ?_
      refine wG_aload_n C dX7_part_165 0 rfl ?_
      refine wG_getI C fl_X7_53_7 rfl hk_a0 (wlt hN hk_a0 (by decide)) dX7_part_166 ?_
      refine wG_iload_n C dX7_part_169 3 rfl ?_
      refine wG_aload_n C dX7_part_170 0 rfl ?_
      refine wG_getI C fl_X7_27_7 rfl hk_a0 (wlt hN hk_a0 (by decide)) dX7_part_171 ?_
      refine wG_cS_ri [.int (h_8 a0 9), .int x3, .int (h_8 a0 3)] [.ref (xB X + a4)] C sw_X7_103 (c_X7_share (xl X) (xE X) N q hN h_8 (h_8 a0 9) x3 (h_8 a0 3)) (by decide) rfl rfl (Nat.le_of_ble_eq_true rfl) dX7_part_174 (cl' := 0) (sl' := 0) rfl rfl (fun u_9 => ?_)
      refine wG_putI C fl_X7_53_7 (fp_7_9 _) (fun e => Bool.noConfusion e) rfl hk_a4 (wlt hN hk_a4 (by decide)) dX7_part_177 (fun h_10 => ?_)
      refine wG_aload C dX7_part_180 4 rfl ?_
      refine wG_aload_n C dX7_part_182 0 rfl ?_
      refine wG_getI C fl_X7_56_7 rfl hk_a0 (wlt hN hk_a0 (by decide)) dX7_part_183 ?_
      refine wG_iload_n C dX7_part_186 3 rfl ?_
      refine wG_aload_n C dX7_part_187 0 rfl ?_
      refine wG_getI C fl_X7_27_7 rfl hk_a0 (wlt hN hk_a0 (by decide)) dX7_part_188 ?_
      refine wG_cS_ri [.int (h_10 a0 10), .int x3, .int (h_10 a0 3)] [.ref (xB X + a4)] C sw_X7_103 (c_X7_share (xl X) (xE X) N q hN h_10 (h_10 a0 10) x3 (h_10 a0 3)) (by decide) rfl rfl (Nat.le_of_ble_eq_true rfl) dX7_part_191 (cl' := 0) (sl' := 0) rfl rfl (fun u_11 => ?_)
      refine wG_putI C fl_X7_56_7 (fp_7_10 _) (fun e => Bool.noConfusion e) rfl hk_a4 (wlt hN hk_a4 (by decide)) dX7_part_194 (fun h_12 => ?_)
      refine wG_aload C dX7_part_197 5 rfl ?_
      refine wG_aload_n C dX7_part_199 0 rfl ?_
      refine wG_getI C fl_X7_53_7 rfl hk_a0 (wlt hN hk_a0 (by decide)) dX7_part_200 ?_
      refine wG_aload C dX7_part_203 4 rfl ?_
      refine wG_getI C fl_X7_53_7 rfl hk_a4 (wlt hN hk_a4 (by decide)) dX7_part_205 ?_
      refine wG_isub C dX7_part_208 ?_
      refine wG_putI C fl_X7_53_7 (fp_7_9 _) (fun e => Bool.noConfusion e) rfl hk_a5 (wlt hN hk_a5 (by decide)) dX7_part_209 (fun h_13 => ?_)
      refine wG_aload C dX7_part_212 5 rfl ?_
      refine wG_aload_n C dX7_part_214 0 rfl ?_
      refine wG_getI C fl_X7_56_7 rfl hk_a0 (wlt hN hk_a0 (by decide)) dX7_part_215 ?_
      refine wG_aload C dX7_part_218 4 rfl ?_
      refine wG_getI C fl_X7_56_7 rfl hk_a4 (wlt hN hk_a4 (by decide)) dX7_part_220 ?_
      refine wG_isub C dX7_part_223 ?_
      refine wG_putI C fl_X7_56_7 (fp_7_10 _) (fun e => Bool.noConfusion e) rfl hk_a5 (wlt hN hk_a5 (by decide)) dX7_part_224 (fun h_14 => ?_)
      exact wG_exit (fun Q e => gQ_lv [0, 1, 4, 5] rfl e)
    · refine wG_aload C dX7_part_16 4 rfl ?_
      refine wG_iload_n C dX7_part_18 3 rfl ?_
      refine wG_putI C fl_X7_23_7 (fp_7_2 _) (fun e => Bool.noConfusion e) rfl hk_a4 (wlt hN hk_a4 (by decide)) dX7_part_19 (fun h_15 => ?_)
      refine wG_aload C dX7_part_22 5 rfl ?_
      refine wG_aload_n C dX7_part_24 0 rfl ?_
      refine wG_getI C fl_X7_9_7 rfl hk_a0 (wlt hN hk_a0 (by decide)) dX7_part_25 ?_
      refine wG_iload_n C dX7_part_28 3 rfl ?_
      refine wG_iadd C dX7_part_29 ?_
      refine wG_putI C fl_X7_9_7 (fp_7_0 _) (fun e => Bool.noConfusion e) rfl hk_a5 (wlt hN hk_a5 (by decide)) dX7_part_30 (fun h_16 => ?_)
      refine wG_aload C dX7_part_33 5 rfl ?_
      refine wG_aload_n C dX7_part_35 0 rfl ?_
      refine wG_getI C fl_X7_23_7 rfl hk_a0 (wlt hN hk_a0 (by decide)) dX7_part_36 ?_
      refine wG_iload_n C dX7_part_39 3 rfl ?_
      refine wG_isub C dX7_part_40 ?_
      refine wG_putI C fl_X7_23_7 (fp_7_2 _) (fun e => Bool.noConfusion e) rfl hk_a5 (wlt hN hk_a5 (by decide)) dX7_part_41 (fun h_17 => ?_)
      refine wG_aload C dX7_part_44 4 rfl ?_
      refine wG_iconst C dX7_part_46 (v := 0) (by decide) ?_
      refine wG_putI C fl_X7_56_7 (fp_7_10 _) (fun e => Bool.noConfusion e) rfl hk_a4 (wlt hN hk_a4 (by decide)) dX7_part_47 (fun h_18 => ?_)
      refine wG_aload C dX7_part_50 5 rfl ?_
      refine wG_iconst C dX7_part_52 (v := 0) (by decide) ?_
      refine wG_putI C fl_X7_53_7 (fp_7_9 _) (fun e => Bool.noConfusion e) rfl hk_a5 (wlt hN hk_a5 (by decide)) dX7_part_53 (fun h_19 => ?_)
      refine wG_aload C dX7_part_56 4 rfl ?_
      refine wG_aload_n C dX7_part_58 0 rfl ?_
      refine wG_getI C fl_X7_59_7 rfl hk_a0 (wlt hN hk_a0 (by decide)) dX7_part_59 ?_
      refine wG_iload_n C dX7_part_62 3 rfl ?_
      refine wG_aload_n C dX7_part_63 0 rfl ?_
      refine wG_getI C fl_X7_23_7 rfl hk_a0 (wlt hN hk_a0 (by decide)) dX7_part_64 ?_
      refine wG_cS_ri [.int (h_19 a0 11), .int x3, .int (h_19 a0 2)] [.ref (xB X + a4)] C sw_X7_103 (c_X7_share (xl X) (xE X) N q hN h_19 (h_19 a0 11) x3 (h_19 a0 2)) (by decide) rfl rfl (Nat.le_of_ble_eq_true rfl) dX7_part_67 (cl' := 0) (sl' := 0) rfl rfl (fun u_20 => ?_)
      refine wG_putI C fl_X7_59_7 (fp_7_11 _) (fun e => Bool.noConfusion e) rfl hk_a4 (wlt hN hk_a4 (by decide)) dX7_part_70 (fun h_21 => ?_)
      refine wG_aload C dX7_part_73 4 rfl ?_
      refine wG_aload_n C dX7_part_75 0 rfl ?_
      refine wG_getI C fl_X7_62_7 rfl hk_a0 (wlt hN hk_a0 (by decide)) dX7_part_76 ?_
      refine wG_iload_n C dX7_part_79 3 rfl ?_
      refine wG_aload_n C dX7_part_80 0 rfl ?_
      refine wG_getI C fl_X7_23_7 rfl hk_a0 (wlt hN hk_a0 (by decide)) dX7_part_81 ?_
      refine wG_cS_ri [.int (h_21 a0 12), .int x3, .int (h_21 a0 2)] [.ref (xB X + a4)] C sw_X7_103 (c_X7_share (xl X) (xE X) N q hN h_21 (h_21 a0 12) x3 (h_21 a0 2)) (by decide) rfl rfl (Nat.le_of_ble_eq_true rfl) dX7_part_84 (cl' := 0) (sl' := 0) rfl rfl (fun u_22 => ?_)
      refine wG_putI C fl_X7_62_7 (fp_7_12 _) (fun e => Bool.noConfusion e) rfl hk_a4 (wlt hN hk_a4 (by decide)) dX7_part_87 (fun h_23 => ?_)
      refine wG_aload C dX7_part_90 5 rfl ?_
      refine wG_aload_n C dX7_part_92 0 rfl ?_
      refine wG_getI C fl_X7_59_7 rfl hk_a0 (wlt hN hk_a0 (by decide)) dX7_part_93 ?_
      refine wG_aload C dX7_part_96 4 rfl ?_
      refine wG_getI C fl_X7_59_7 rfl hk_a4 (wlt hN hk_a4 (by decide)) dX7_part_98 ?_
      refine wG_isub C dX7_part_101 ?_
      refine wG_putI C fl_X7_59_7 (fp_7_11 _) (fun e => Bool.noConfusion e) rfl hk_a5 (wlt hN hk_a5 (by decide)) dX7_part_102 (fun h_24 => ?_)
      refine wG_aload C dX7_part_105 5 rfl ?_
      refine wG_aload_n C dX7_part_107 0 rfl ?_
      refine wG_getI C fl_X7_62_7 rfl hk_a0 (wlt hN hk_a0 (by decide)) dX7_part_108 ?_
      refine wG_aload C dX7_part_111 4 rfl ?_
      refine wG_getI C fl_X7_62_7 rfl hk_a4 (wlt hN hk_a4 (by decide)) dX7_part_113 ?_
      refine wG_isub C dX7_part_116 ?_
      refine wG_putI C fl_X7_62_7 (fp_7_12 _) (fun e => Bool.noConfusion e) rfl hk_a5 (wlt hN hk_a5 (by decide)) dX7_part_117 (fun h_25 => ?_)
      refine wG_goto C dX7_part_120 ?_
      exact wG_exit (fun Q e => gQ_lv [0, 1, 4, 5] rfl e)
  · refine wG_aload C dX7_part_227 2 rfl ?_
    refine wG_aload_n C dX7_part_229 1 rfl ?_
    refine wG_aload_n C dX7_part_230 0 rfl ?_
    refine wG_getI C fl_X7_9_7 rfl hk_a0 (wlt hN hk_a0 (by decide)) dX7_part_231 ?_
    refine wG_aload_n C dX7_part_234 0 rfl ?_
    refine wG_getI C fl_X7_15_7 rfl hk_a0 (wlt hN hk_a0 (by decide)) dX7_part_235 ?_
    refine wG_aload C dX7_part_238 2 rfl ?_
    refine wG_getI C fl_X7_23_7 rfl hk_a4 (wlt hN hk_a4 (by decide)) dX7_part_240 ?_
    refine wG_aload C dX7_part_243 2 rfl ?_
    refine wG_getI C fl_X7_27_7 rfl hk_a4 (wlt hN hk_a4 (by decide)) dX7_part_245 ?_
    refine wG_cV_ri [.int (t_3 a0 0), .int (t_3 a0 1), .int (t_3 a4 2), .int (t_3 a4 3)] [.ref (xB X + a4)] C vw_X7_28 (c_X4_weightIn (xl X) (xE X) N (rq q) (Nat.le_trans (by decide) hN) ⟨rf_3_0 q, rf_3_1 q, rf_3_2 q⟩ t_3 (t_3 a0 0) (t_3 a0 1) (t_3 a4 2) (t_3 a4 3)) kd_3 (wll hN (by decide)) (by decide) rfl rfl (Nat.le_of_ble_eq_true rfl) dX7_part_248 (cl' := 0) (sl' := 0) rfl rfl (fun u_26 => ?_)
    refine wG_putI C fl_X7_32_7 (fp_7_4 _) (fun e => Bool.noConfusion e) rfl hk_a4 (wlt hN hk_a4 (by decide)) dX7_part_251 (fun h_27 => ?_)
    refine wG_aload C dX7_part_254 3 rfl ?_
    refine wG_aload_n C dX7_part_256 0 rfl ?_
    refine wG_getI C fl_X7_32_7 rfl hk_a0 (wlt hN hk_a0 (by decide)) dX7_part_257 ?_
    refine wG_aload C dX7_part_260 2 rfl ?_
    refine wG_getI C fl_X7_32_7 rfl hk_a4 (wlt hN hk_a4 (by decide)) dX7_part_262 ?_
    refine wG_isub C dX7_part_265 ?_
    refine wG_putI C fl_X7_32_7 (fp_7_4 _) (fun e => Bool.noConfusion e) rfl hk_a5 (wlt hN hk_a5 (by decide)) dX7_part_266 (fun h_28 => ?_)
    refine wG_aload C dX7_part_269 2 rfl ?_
    refine wG_aload_n C dX7_part_271 1 rfl ?_
    refine wG_aload_n C dX7_part_272 0 rfl ?_
    refine wG_getI C fl_X7_9_7 rfl hk_a0 (wlt hN hk_a0 (by decide)) dX7_part_273 ?_
    refine wG_aload_n C dX7_part_276 0 rfl ?_
    refine wG_getI C fl_X7_15_7 rfl hk_a0 (wlt hN hk_a0 (by decide)) dX7_part_277 ?_
    refine wG_aload C dX7_part_280 2 rfl ?_
    refine wG_getI C fl_X7_23_7 rfl hk_a4 (wlt hN hk_a4 (by decide)) dX7_part_282 ?_
    refine wG_aload C dX7_part_285 2 rfl ?_
    refine wG_getI C fl_X7_27_7 rfl hk_a4 (wlt hN hk_a4 (by decide)) dX7_part_287 ?_
    refine wG_cV_ri [.int (h_28 a0 0), .int (h_28 a0 1), .int (h_28 a4 2), .int (h_28 a4 3)] [.ref (xB X + a4)] C vw_X7_35 (c_X4_rindIn (xl X) (xE X) N (rq q) (Nat.le_trans (by decide) hN) ⟨rf_3_0 q, rf_3_1 q, rf_3_2 q⟩ h_28 (h_28 a0 0) (h_28 a0 1) (h_28 a4 2) (h_28 a4 3)) kd_3 (wll hN (by decide)) (by decide) rfl rfl (Nat.le_of_ble_eq_true rfl) dX7_part_290 (cl' := 0) (sl' := 0) rfl rfl (fun u_29 => ?_)
    refine wG_putI C fl_X7_38_7 (fp_7_5 _) (fun e => Bool.noConfusion e) rfl hk_a4 (wlt hN hk_a4 (by decide)) dX7_part_293 (fun h_30 => ?_)
    refine wG_aload C dX7_part_296 3 rfl ?_
    refine wG_aload_n C dX7_part_298 0 rfl ?_
    refine wG_getI C fl_X7_38_7 rfl hk_a0 (wlt hN hk_a0 (by decide)) dX7_part_299 ?_
    refine wG_aload C dX7_part_302 2 rfl ?_
    refine wG_getI C fl_X7_38_7 rfl hk_a4 (wlt hN hk_a4 (by decide)) dX7_part_304 ?_
    refine wG_isub C dX7_part_307 ?_
    refine wG_putI C fl_X7_38_7 (fp_7_5 _) (fun e => Bool.noConfusion e) rfl hk_a5 (wlt hN hk_a5 (by decide)) dX7_part_308 (fun h_31 => ?_)
    refine wG_aload C dX7_part_311 2 rfl ?_
    refine wG_aload_n C dX7_part_313 0 rfl ?_
    refine wG_getI C fl_X7_47_7 rfl hk_a0 (wlt hN hk_a0 (by decide)) dX7_part_314 ?_
    refine wG_aload C dX7_part_317 2 rfl ?_
    refine wG_getI C fl_X7_32_7 rfl hk_a4 (wlt hN hk_a4 (by decide)) dX7_part_319 ?_
    refine wG_aload_n C dX7_part_322 0 rfl ?_
    refine wG_getI C fl_X7_32_7 rfl hk_a0 (wlt hN hk_a0 (by decide)) dX7_part_323 ?_
    refine wG_cS_ri [.int (h_31 a0 8), .int (h_31 a4 4), .int (h_31 a0 4)] [.ref (xB X + a4)] C sw_X7_103 (c_X7_share (xl X) (xE X) N q hN h_31 (h_31 a0 8) (h_31 a4 4) (h_31 a0 4)) (by decide) rfl rfl (Nat.le_of_ble_eq_true rfl) dX7_part_326 (cl' := 0) (sl' := 0) rfl rfl (fun u_32 => ?_)
    refine wG_putI C fl_X7_47_7 (fp_7_8 _) (fun e => Bool.noConfusion e) rfl hk_a4 (wlt hN hk_a4 (by decide)) dX7_part_329 (fun h_33 => ?_)
    refine wG_aload C dX7_part_332 3 rfl ?_
    refine wG_aload_n C dX7_part_334 0 rfl ?_
    refine wG_getI C fl_X7_47_7 rfl hk_a0 (wlt hN hk_a0 (by decide)) dX7_part_335 ?_
    refine wG_aload C dX7_part_338 2 rfl ?_
    refine wG_getI C fl_X7_47_7 rfl hk_a4 (wlt hN hk_a4 (by decide)) dX7_part_340 ?_
    refine wG_isub C dX7_part_343 ?_
    refine wG_putI C fl_X7_47_7 (fp_7_8 _) (fun e => Bool.noConfusion e) rfl hk_a5 (wlt hN hk_a5 (by decide)) dX7_part_344 (fun h_34 => ?_)
    exact wG_vret C dX7_part_347 ⟨by decide, by decide⟩ (fun _ e => e)
theorem c_X7_part (l : Launch) (E : wE) (N : Nat) (q : Qp) (hN : 137 ≤ N) (h : Hp) (a0 : Nat) (x2 : Int32) (x3 : Int32) (a4 : Nat) (a5 : Nat) (hk_a0 : Kd a0 = 7) (hk_a4 : Kd a4 = 7) (hk_a5 : Kd a5 = 7) : ∀ z, f_X7_part h a0 x2 x3 a4 a5 = some z → CT l E yX7_part cX7_part 6 none rm_X7_part [.ref (eB E + a0), .ref (eB E + 3), .int x2, .int x3, .ref (eB E + a4), .ref (eB E + a5)] N h (rq q) ((fun u => (none, N, u, (rq q))) z) := CT.of (by decide +kernel) (Nat.le_of_ble_eq_true rfl) (fun X _ e C => by subst e; exact w_X7_part C hN h a0 hk_a0 x2 x3 a4 hk_a4 a5 hk_a5)
def rm_X1_divide : Room := { frames := 3, cells := 0, slots := 0, locals := 76 }
def f_X1_divide (h : Hp) (x1 : Int32) (x2 : Int32) (x3 : Int32) : Option (Int32 × Hp) :=
  (if (h 7 3) < 24 then
  if inB x1 24 then vB (10 + ix x1) fun a_1 =>
  if inB (h 7 3) 24 then vB (10 + ix (h 7 3)) fun a_2 =>
  (f_X7_part h a_1 x2 x3 9 a_2).bind fun u_3 =>
  if inB x1 24 then vB (10 + ix x1) fun a_4 =>
  (f_X7_become u_3 a_4 9).bind fun u_5 =>
  vB (u2 u_5 7 3 ((u_5 7 3) + 1)) fun h_6 =>
  some (((h_6 7 3) - 1), h_6) else none else none else none
  else
  some ((-4), h))
set_option maxRecDepth 4000 in
theorem w_X1_divide {X : wX} (C : Cx X yX1_divide cX1_divide 4 (some .int) rm_X1_divide) {N : Nat} {q : Qp} (hN : 137 ≤ N) (h : Hp) (x1 : Int32) (x2 : Int32) (x3 : Int32) : wG X 4 (eM X (fun u => (some (.int u.1), N, u.2, (rq q)))) (f_X1_divide h x1 x2 x3) N h (rq q) 0 0 0 [(0, .ref (xB X + 7)), (1, .int x1), (2, .int x2), (3, .int x3)] [] := by
  refine wG_of (f_X1_divide.eq_1 ..) ?_
  refine wG_aload_n C dX1_divide_0 0 rfl ?_
  refine wG_getI C fl_X1_33_1 rfl kd_7 (wll hN (by decide)) dX1_divide_1 ?_
  refine wG_bipush C dX1_divide_4 (v := 24) (by decide) ?_
  refine wG_icmp_lt C dX1_divide_6 ?_ ?_
  · refine wG_aload_n C dX1_divide_12 0 rfl ?_
    refine wG_getR C fl_X1_11_1 rfl kd_7 (wll hN (by decide)) (rf_7_1 q) dX1_divide_13 ?_
    refine wG_iload_n C dX1_divide_16 1 rfl ?_
    refine wG_aaP C hN kd_7 rfl rfl dX1_divide_17 (fun a_1 hk_a_1 => ?_)
    refine wG_aload_n C dX1_divide_18 0 rfl ?_
    refine wG_getR C fl_X1_22_1 rfl kd_7 (wll hN (by decide)) (rf_7_0 q) dX1_divide_19 ?_
    refine wG_iload_n C dX1_divide_22 2 rfl ?_
    refine wG_iload_n C dX1_divide_23 3 rfl ?_
    refine wG_aload_n C dX1_divide_24 0 rfl ?_
    refine wG_getR C fl_X1_18_1 rfl kd_7 (wll hN (by decide)) (rf_7_2 q) dX1_divide_25 ?_
    refine wG_aload_n C dX1_divide_28 0 rfl ?_
    refine wG_getR C fl_X1_11_1 rfl kd_7 (wll hN (by decide)) (rf_7_1 q) dX1_divide_29 ?_
    refine wG_aload_n C dX1_divide_32 0 rfl ?_
    refine wG_getI C fl_X1_33_1 rfl kd_7 (wll hN (by decide)) dX1_divide_33 ?_
    refine wG_aaP C hN kd_7 rfl rfl dX1_divide_36 (fun a_2 hk_a_2 => ?_)
    refine wG_cV_wv [.ref (xB X + 3), .int x2, .int x3, .ref (xB X + 9), .ref (xB X + a_2)] [] C vw_X1_51 (c_X7_part (xl X) (xE X) N q hN h a_1 x2 x3 9 a_2 hk_a_1 kd_9 hk_a_2) hk_a_1 (wlt hN hk_a_1 (by decide)) (by decide) rfl rfl (Nat.le_of_ble_eq_true rfl) dX1_divide_37 (cl' := 0) (sl' := 0) rfl rfl (fun u_3 => ?_)
    refine wG_aload_n C dX1_divide_40 0 rfl ?_
    refine wG_getR C fl_X1_11_1 rfl kd_7 (wll hN (by decide)) (rf_7_1 q) dX1_divide_41 ?_
    refine wG_iload_n C dX1_divide_44 1 rfl ?_
    refine wG_aaP C hN kd_7 rfl rfl dX1_divide_45 (fun a_4 hk_a_4 => ?_)
    refine wG_aload_n C dX1_divide_46 0 rfl ?_
    refine wG_getR C fl_X1_18_1 rfl kd_7 (wll hN (by decide)) (rf_7_2 q) dX1_divide_47 ?_
    refine wG_cV_wv [.ref (xB X + 9)] [] C vw_X1_40 (c_X7_become (xl X) (xE X) N q hN u_3 a_4 9 hk_a_4 kd_9) hk_a_4 (wlt hN hk_a_4 (by decide)) (by decide) rfl rfl (Nat.le_of_ble_eq_true rfl) dX1_divide_50 (cl' := 0) (sl' := 0) rfl rfl (fun u_5 => ?_)
    refine wG_aload_n C dX1_divide_53 0 rfl ?_
    refine wG_dup C dX1_divide_54 rfl ?_
    refine wG_getI C fl_X1_33_1 rfl kd_7 (wll hN (by decide)) dX1_divide_55 ?_
    refine wG_iconst C dX1_divide_58 (v := 1) (by decide) ?_
    refine wG_iadd C dX1_divide_59 ?_
    refine wG_putI C fl_X1_33_1 (fp_1_3 _) (fun e => Bool.noConfusion e) rfl kd_7 (wll hN (by decide)) dX1_divide_60 (fun h_6 => ?_)
    refine wG_aload_n C dX1_divide_63 0 rfl ?_
    refine wG_getI C fl_X1_33_1 rfl kd_7 (wll hN (by decide)) dX1_divide_64 ?_
    refine wG_iconst C dX1_divide_67 (v := 1) (by decide) ?_
    refine wG_isub C dX1_divide_68 ?_
    exact wG_iret C dX1_divide_69 ⟨by decide, by decide⟩ (fun _ e => e)
  · refine wG_bipush C dX1_divide_9 (v := (-4)) (by decide) ?_
    exact wG_iret C dX1_divide_11 ⟨by decide, by decide⟩ (fun _ e => e)
theorem c_X1_divide (l : Launch) (E : wE) (N : Nat) (q : Qp) (hN : 137 ≤ N) (h : Hp) (x1 : Int32) (x2 : Int32) (x3 : Int32) : ∀ z, f_X1_divide h x1 x2 x3 = some z → CT l E yX1_divide cX1_divide 4 (some .int) rm_X1_divide [.ref (eB E + 7), .int x1, .int x2, .int x3] N h (rq q) ((fun u => (some (.int u.1), N, u.2, (rq q))) z) := CT.of (by decide +kernel) (Nat.le_of_ble_eq_true rfl) (fun X _ e C => by subst e; exact w_X1_divide C hN h x1 x2 x3)
def rm_X11_cut : Room := { frames := 4, cells := 0, slots := 0, locals := 99 }
def f_X11_cut (h : Hp) (x1 : Int32) (x2 : Int32) (x3 : Int32) : Option (Int32 × Hp) :=
  (f_X1_stillHas h x1).bind fun u_1 =>
  (if u_1 = 0 then
  some ((-1), h)
  else
  if inB x1 24 then vB (10 + ix x1) fun a_2 =>
  (if x3 < 1 then
  some ((-2), h)
  else
  ((if x2 = 0 then
  some (h a_2 3)
  else
  some (h a_2 2))).bind fun t_3 =>
  (if x3 < t_3 then
  (f_X1_divide h x1 x2 x3).bind fun u_4 =>
  some (u_4.1, u_4.2)
  else
  some ((-2), h))) else none)
set_option maxRecDepth 4000 in
theorem w_X11_cut {X : wX} (C : Cx X yX11_cut cX11_cut 5 (some .int) rm_X11_cut) {N : Nat} {q : Qp} (hN : 137 ≤ N) (h : Hp) (x1 : Int32) (x2 : Int32) (x3 : Int32) : wG X 5 (eM X (fun u => (some (.int u.1), N, u.2, (rq q)))) (f_X11_cut h x1 x2 x3) N h (rq q) 0 0 0 [(0, .ref (xB X + 0)), (1, .int x1), (2, .int x2), (3, .int x3)] [] := by
  refine wG_of (f_X11_cut.eq_1 ..) ?_
  refine wG_aload_n C dX11_cut_0 0 rfl ?_
  refine wG_getR C fl_X11_28_11 rfl kd_0 (wll hN (by decide)) (rf_0_2 q) dX11_cut_1 ?_
  refine wG_iload_n C dX11_cut_4 1 rfl ?_
  refine wG_cV_ri [.int x1] [] C vw_X11_122 (c_X1_stillHas (xl X) (xE X) N q hN h x1) kd_7 (wll hN (by decide)) (by decide) rfl rfl (Nat.le_of_ble_eq_true rfl) dX11_cut_5 (cl' := 0) (sl' := 0) rfl rfl (fun u_1 => ?_)
  refine wG_if_ne C dX11_cut_8 ?_ ?_
  · refine wG_iconst C dX11_cut_11 (v := (-1)) (by decide) ?_
    exact wG_iret C dX11_cut_12 ⟨by decide, by decide⟩ (fun _ e => e)
  · refine wG_aload_n C dX11_cut_13 0 rfl ?_
    refine wG_getR C fl_X11_28_11 rfl kd_0 (wll hN (by decide)) (rf_0_2 q) dX11_cut_14 ?_
    refine wG_getR C fl_X11_126_1 rfl kd_7 (wll hN (by decide)) (rf_7_1 q) dX11_cut_17 ?_
    refine wG_iload_n C dX11_cut_20 1 rfl ?_
    refine wG_aaP C hN kd_7 rfl rfl dX11_cut_21 (fun a_2 hk_a_2 => ?_)
    refine wG_astore C (L' := [(0, .ref (xB X + 0)), (1, .int x1), (2, .int x2), (3, .int x3), (4, .ref (xB X + a_2))]) dX11_cut_22 (by decide) [1, 2, 3, 4, 0] rfl ?_
    refine wG_iload_n C dX11_cut_24 3 rfl ?_
    refine wG_iconst C dX11_cut_25 (v := 1) (by decide) ?_
    refine wG_icmp_lt C dX11_cut_26 ?_ ?_
    · refine wG_bipush C dX11_cut_50 (v := (-2)) (by decide) ?_
      exact wG_iret C dX11_cut_52 ⟨by decide, by decide⟩ (fun _ e => e)
    · refine wG_iload_n C dX11_cut_29 3 rfl ?_
      refine wG_iload_n C dX11_cut_30 2 rfl ?_
      refine wG_bind (J := (fun (t_3 : Int32) Q => gQ X 5 Q N h (rq q) 0 0 47 [(0, .ref (xB X + 0)), (1, .int x1), (2, .int x2), (3, .int x3)] [.int t_3, .int x3])) ?_ (fun t_3 => (?_ : wG X 5 _ _ N h (rq q) 0 0 47 [(0, .ref (xB X + 0)), (1, .int x1), (2, .int x2), (3, .int x3)] [.int t_3, .int x3]))
      · refine wG_if_eq C dX11_cut_31 ?_ ?_
        · refine wG_aload C dX11_cut_42 4 rfl ?_
          refine wG_getI C fl_X11_133_7 rfl hk_a_2 (wlt hN hk_a_2 (by decide)) dX11_cut_44 ?_
          exact wG_exit (fun Q e => gQ_lv [0, 1, 2, 3] rfl e)
        · refine wG_aload C dX11_cut_34 4 rfl ?_
          refine wG_getI C fl_X11_130_7 rfl hk_a_2 (wlt hN hk_a_2 (by decide)) dX11_cut_36 ?_
          refine wG_goto C dX11_cut_39 ?_
          exact wG_exit (fun Q e => gQ_lv [0, 1, 2, 3] rfl e)
      · refine wG_icmp_lt C dX11_cut_47 ?_ ?_
        · refine wG_aload_n C dX11_cut_53 0 rfl ?_
          refine wG_getR C fl_X11_28_11 rfl kd_0 (wll hN (by decide)) (rf_0_2 q) dX11_cut_54 ?_
          refine wG_iload_n C dX11_cut_57 1 rfl ?_
          refine wG_iload_n C dX11_cut_58 2 rfl ?_
          refine wG_iload_n C dX11_cut_59 3 rfl ?_
          refine wG_cV_wi [.int x1, .int x2, .int x3] [] C vw_X11_134 (c_X1_divide (xl X) (xE X) N q hN h x1 x2 x3) kd_7 (wll hN (by decide)) (by decide) rfl rfl (Nat.le_of_ble_eq_true rfl) dX11_cut_60 (cl' := 0) (sl' := 0) rfl rfl (fun u_4 => ?_)
          exact wG_iret C dX11_cut_63 ⟨by decide, by decide⟩ (fun _ e => e)
        · refine wG_bipush C dX11_cut_50 (v := (-2)) (by decide) ?_
          exact wG_iret C dX11_cut_52 ⟨by decide, by decide⟩ (fun _ e => e)
theorem c_X11_cut (l : Launch) (E : wE) (N : Nat) (q : Qp) (hN : 137 ≤ N) (h : Hp) (x1 : Int32) (x2 : Int32) (x3 : Int32) : ∀ z, f_X11_cut h x1 x2 x3 = some z → CT l E yX11_cut cX11_cut 5 (some .int) rm_X11_cut [.ref (eB E + 0), .int x1, .int x2, .int x3] N h (rq q) ((fun u => (some (.int u.1), N, u.2, (rq q))) z) := CT.of (by decide +kernel) (Nat.le_of_ble_eq_true rfl) (fun X _ e C => by subst e; exact w_X11_cut C hN h x1 x2 x3)
def rm_X7_block : Room := { frames := 0, cells := 0, slots := 0, locals := 0 }
def f_X7_block (h : Hp) (a0 : Nat) : Option Int32 :=
  some ((((1000 * (h a0 0)) + (100 * (h a0 1))) + (10 * (h a0 2))) + (h a0 3))
set_option maxRecDepth 4000 in
theorem w_X7_block {X : wX} (C : Cx X yX7_block cX7_block 1 (some .int) rm_X7_block) {N : Nat} {q : Qp} (hN : 137 ≤ N) (h : Hp) (a0 : Nat) (hk_a0 : Kd a0 = 7) : wG X 1 (eM X (fun u => (some (.int u), N, h, (rq q)))) (f_X7_block h a0) N h (rq q) 0 0 0 [(0, .ref (xB X + a0))] [] := by
  refine wG_of (f_X7_block.eq_1 ..) ?_
  refine wG_sipush C dX7_block_0 (v := 1000) (by decide) ?_
  refine wG_aload_n C dX7_block_3 0 rfl ?_
  refine wG_getI C fl_X7_9_7 rfl hk_a0 (wlt hN hk_a0 (by decide)) dX7_block_4 ?_
  refine wG_imul C dX7_block_7 ?_
  refine wG_bipush C dX7_block_8 (v := 100) (by decide) ?_
  refine wG_aload_n C dX7_block_10 0 rfl ?_
  refine wG_getI C fl_X7_15_7 rfl hk_a0 (wlt hN hk_a0 (by decide)) dX7_block_11 ?_
  refine wG_imul C dX7_block_14 ?_
  refine wG_iadd C dX7_block_15 ?_
  refine wG_bipush C dX7_block_16 (v := 10) (by decide) ?_
  refine wG_aload_n C dX7_block_18 0 rfl ?_
  refine wG_getI C fl_X7_23_7 rfl hk_a0 (wlt hN hk_a0 (by decide)) dX7_block_19 ?_
  refine wG_imul C dX7_block_22 ?_
  refine wG_iadd C dX7_block_23 ?_
  refine wG_aload_n C dX7_block_24 0 rfl ?_
  refine wG_getI C fl_X7_27_7 rfl hk_a0 (wlt hN hk_a0 (by decide)) dX7_block_25 ?_
  refine wG_iadd C dX7_block_28 ?_
  exact wG_iret C dX7_block_29 ⟨by decide, by decide⟩ (fun _ e => e)
theorem c_X7_block (l : Launch) (E : wE) (N : Nat) (q : Qp) (hN : 137 ≤ N) (h : Hp) (a0 : Nat) (hk_a0 : Kd a0 = 7) : ∀ z, f_X7_block h a0 = some z → CT l E yX7_block cX7_block 1 (some .int) rm_X7_block [.ref (eB E + a0)] N h (rq q) ((fun u => (some (.int u), N, h, (rq q))) z) := CT.of (by decide +kernel) (Nat.le_of_ble_eq_true rfl) (fun X _ e C => by subst e; exact w_X7_block C hN h a0 hk_a0)
def rm_X7_edgesAbove : Room := { frames := 0, cells := 0, slots := 0, locals := 0 }
def f_X7_edgesAbove (h : Hp) (a0 : Nat) : Option Int32 :=
  (if (h a0 0) ≤ 0 then
  some 0
  else
  some (h a0 3))
set_option maxRecDepth 4000 in
theorem w_X7_edgesAbove {X : wX} (C : Cx X yX7_edgesAbove cX7_edgesAbove 1 (some .int) rm_X7_edgesAbove) {N : Nat} {q : Qp} (hN : 137 ≤ N) (h : Hp) (a0 : Nat) (hk_a0 : Kd a0 = 7) : wG X 1 (eM X (fun u => (some (.int u), N, h, (rq q)))) (f_X7_edgesAbove h a0) N h (rq q) 0 0 0 [(0, .ref (xB X + a0))] [] := by
  refine wG_of (f_X7_edgesAbove.eq_1 ..) ?_
  refine wG_aload_n C dX7_edgesAbove_0 0 rfl ?_
  refine wG_getI C fl_X7_9_7 rfl hk_a0 (wlt hN hk_a0 (by decide)) dX7_edgesAbove_1 ?_
  refine wG_if_le C dX7_edgesAbove_4 ?_ ?_
  · refine wG_iconst C dX7_edgesAbove_14 (v := 0) (by decide) ?_
    exact wG_iret C dX7_edgesAbove_15 ⟨by decide, by decide⟩ (fun _ e => e)
  · refine wG_aload_n C dX7_edgesAbove_7 0 rfl ?_
    refine wG_getI C fl_X7_27_7 rfl hk_a0 (wlt hN hk_a0 (by decide)) dX7_edgesAbove_8 ?_
    refine wG_goto C dX7_edgesAbove_11 ?_
    exact wG_iret C dX7_edgesAbove_15 ⟨by decide, by decide⟩ (fun _ e => e)
theorem c_X7_edgesAbove (l : Launch) (E : wE) (N : Nat) (q : Qp) (hN : 137 ≤ N) (h : Hp) (a0 : Nat) (hk_a0 : Kd a0 = 7) : ∀ z, f_X7_edgesAbove h a0 = some z → CT l E yX7_edgesAbove cX7_edgesAbove 1 (some .int) rm_X7_edgesAbove [.ref (eB E + a0)] N h (rq q) ((fun u => (some (.int u), N, h, (rq q))) z) := CT.of (by decide +kernel) (Nat.le_of_ble_eq_true rfl) (fun X _ e C => by subst e; exact w_X7_edgesAbove C hN h a0 hk_a0)
def rm_X7_edgesBelow : Room := { frames := 0, cells := 0, slots := 0, locals := 0 }
def f_X7_edgesBelow (h : Hp) (a0 : Nat) : Option Int32 :=
  (if (h 3 3) ≤ ((h a0 0) + (h a0 2)) then
  some 0
  else
  some (h a0 3))
set_option maxRecDepth 4000 in
theorem w_X7_edgesBelow {X : wX} (C : Cx X yX7_edgesBelow cX7_edgesBelow 2 (some .int) rm_X7_edgesBelow) {N : Nat} {q : Qp} (hN : 137 ≤ N) (h : Hp) (a0 : Nat) (hk_a0 : Kd a0 = 7) : wG X 2 (eM X (fun u => (some (.int u), N, h, (rq q)))) (f_X7_edgesBelow h a0) N h (rq q) 0 0 0 [(0, .ref (xB X + a0)), (1, .ref (xB X + 3))] [] := by
  refine wG_of (f_X7_edgesBelow.eq_1 ..) ?_
  refine wG_aload_n C dX7_edgesBelow_0 0 rfl ?_
  refine wG_getI C fl_X7_9_7 rfl hk_a0 (wlt hN hk_a0 (by decide)) dX7_edgesBelow_1 ?_
  refine wG_aload_n C dX7_edgesBelow_4 0 rfl ?_
  refine wG_getI C fl_X7_23_7 rfl hk_a0 (wlt hN hk_a0 (by decide)) dX7_edgesBelow_5 ?_
  refine wG_iadd C dX7_edgesBelow_8 ?_
  refine wG_aload_n C dX7_edgesBelow_9 1 rfl ?_
  refine wG_getI C fl_X7_18_4 rfl kd_3 (wll hN (by decide)) dX7_edgesBelow_10 ?_
  refine wG_icmp_ge C dX7_edgesBelow_13 ?_ ?_
  · refine wG_iconst C dX7_edgesBelow_23 (v := 0) (by decide) ?_
    exact wG_iret C dX7_edgesBelow_24 ⟨by decide, by decide⟩ (fun _ e => e)
  · refine wG_aload_n C dX7_edgesBelow_16 0 rfl ?_
    refine wG_getI C fl_X7_27_7 rfl hk_a0 (wlt hN hk_a0 (by decide)) dX7_edgesBelow_17 ?_
    refine wG_goto C dX7_edgesBelow_20 ?_
    exact wG_iret C dX7_edgesBelow_24 ⟨by decide, by decide⟩ (fun _ e => e)
theorem c_X7_edgesBelow (l : Launch) (E : wE) (N : Nat) (q : Qp) (hN : 137 ≤ N) (h : Hp) (a0 : Nat) (hk_a0 : Kd a0 = 7) : ∀ z, f_X7_edgesBelow h a0 = some z → CT l E yX7_edgesBelow cX7_edgesBelow 2 (some .int) rm_X7_edgesBelow [.ref (eB E + a0), .ref (eB E + 3)] N h (rq q) ((fun u => (some (.int u), N, h, (rq q))) z) := CT.of (by decide +kernel) (Nat.le_of_ble_eq_true rfl) (fun X _ e C => by subst e; exact w_X7_edgesBelow C hN h a0 hk_a0)
def rm_X7_edgesLeft : Room := { frames := 0, cells := 0, slots := 0, locals := 0 }
def f_X7_edgesLeft (h : Hp) (a0 : Nat) : Option Int32 :=
  (if (h a0 1) ≤ 0 then
  some 0
  else
  some (h a0 2))
set_option maxRecDepth 4000 in
theorem w_X7_edgesLeft {X : wX} (C : Cx X yX7_edgesLeft cX7_edgesLeft 1 (some .int) rm_X7_edgesLeft) {N : Nat} {q : Qp} (hN : 137 ≤ N) (h : Hp) (a0 : Nat) (hk_a0 : Kd a0 = 7) : wG X 1 (eM X (fun u => (some (.int u), N, h, (rq q)))) (f_X7_edgesLeft h a0) N h (rq q) 0 0 0 [(0, .ref (xB X + a0))] [] := by
  refine wG_of (f_X7_edgesLeft.eq_1 ..) ?_
  refine wG_aload_n C dX7_edgesLeft_0 0 rfl ?_
  refine wG_getI C fl_X7_15_7 rfl hk_a0 (wlt hN hk_a0 (by decide)) dX7_edgesLeft_1 ?_
  refine wG_if_le C dX7_edgesLeft_4 ?_ ?_
  · refine wG_iconst C dX7_edgesLeft_14 (v := 0) (by decide) ?_
    exact wG_iret C dX7_edgesLeft_15 ⟨by decide, by decide⟩ (fun _ e => e)
  · refine wG_aload_n C dX7_edgesLeft_7 0 rfl ?_
    refine wG_getI C fl_X7_23_7 rfl hk_a0 (wlt hN hk_a0 (by decide)) dX7_edgesLeft_8 ?_
    refine wG_goto C dX7_edgesLeft_11 ?_
    exact wG_iret C dX7_edgesLeft_15 ⟨by decide, by decide⟩ (fun _ e => e)
theorem c_X7_edgesLeft (l : Launch) (E : wE) (N : Nat) (q : Qp) (hN : 137 ≤ N) (h : Hp) (a0 : Nat) (hk_a0 : Kd a0 = 7) : ∀ z, f_X7_edgesLeft h a0 = some z → CT l E yX7_edgesLeft cX7_edgesLeft 1 (some .int) rm_X7_edgesLeft [.ref (eB E + a0)] N h (rq q) ((fun u => (some (.int u), N, h, (rq q))) z) := CT.of (by decide +kernel) (Nat.le_of_ble_eq_true rfl) (fun X _ e C => by subst e; exact w_X7_edgesLeft C hN h a0 hk_a0)
def rm_X7_edgesRight : Room := { frames := 0, cells := 0, slots := 0, locals := 0 }
def f_X7_edgesRight (h : Hp) (a0 : Nat) : Option Int32 :=
  (if (h 3 4) ≤ ((h a0 1) + (h a0 3)) then
  some 0
  else
  some (h a0 2))
set_option maxRecDepth 4000 in
theorem w_X7_edgesRight {X : wX} (C : Cx X yX7_edgesRight cX7_edgesRight 2 (some .int) rm_X7_edgesRight) {N : Nat} {q : Qp} (hN : 137 ≤ N) (h : Hp) (a0 : Nat) (hk_a0 : Kd a0 = 7) : wG X 2 (eM X (fun u => (some (.int u), N, h, (rq q)))) (f_X7_edgesRight h a0) N h (rq q) 0 0 0 [(0, .ref (xB X + a0)), (1, .ref (xB X + 3))] [] := by
  refine wG_of (f_X7_edgesRight.eq_1 ..) ?_
  refine wG_aload_n C dX7_edgesRight_0 0 rfl ?_
  refine wG_getI C fl_X7_15_7 rfl hk_a0 (wlt hN hk_a0 (by decide)) dX7_edgesRight_1 ?_
  refine wG_aload_n C dX7_edgesRight_4 0 rfl ?_
  refine wG_getI C fl_X7_27_7 rfl hk_a0 (wlt hN hk_a0 (by decide)) dX7_edgesRight_5 ?_
  refine wG_iadd C dX7_edgesRight_8 ?_
  refine wG_aload_n C dX7_edgesRight_9 1 rfl ?_
  refine wG_getI C fl_X7_24_4 rfl kd_3 (wll hN (by decide)) dX7_edgesRight_10 ?_
  refine wG_icmp_ge C dX7_edgesRight_13 ?_ ?_
  · refine wG_iconst C dX7_edgesRight_23 (v := 0) (by decide) ?_
    exact wG_iret C dX7_edgesRight_24 ⟨by decide, by decide⟩ (fun _ e => e)
  · refine wG_aload_n C dX7_edgesRight_16 0 rfl ?_
    refine wG_getI C fl_X7_23_7 rfl hk_a0 (wlt hN hk_a0 (by decide)) dX7_edgesRight_17 ?_
    refine wG_goto C dX7_edgesRight_20 ?_
    exact wG_iret C dX7_edgesRight_24 ⟨by decide, by decide⟩ (fun _ e => e)
theorem c_X7_edgesRight (l : Launch) (E : wE) (N : Nat) (q : Qp) (hN : 137 ≤ N) (h : Hp) (a0 : Nat) (hk_a0 : Kd a0 = 7) : ∀ z, f_X7_edgesRight h a0 = some z → CT l E yX7_edgesRight cX7_edgesRight 2 (some .int) rm_X7_edgesRight [.ref (eB E + a0), .ref (eB E + 3)] N h (rq q) ((fun u => (some (.int u), N, h, (rq q))) z) := CT.of (by decide +kernel) (Nat.le_of_ble_eq_true rfl) (fun X _ e C => by subst e; exact w_X7_edgesRight C hN h a0 hk_a0)
def rm_X7_bareEdges : Room := { frames := 1, cells := 0, slots := 0, locals := 21 }
def f_X7_bareEdges (h : Hp) (a0 : Nat) : Option Int32 :=
  (f_X7_edgesAbove h a0).bind fun u_1 =>
  (f_X7_edgesBelow h a0).bind fun u_2 =>
  (f_X7_edgesLeft h a0).bind fun u_3 =>
  (f_X7_edgesRight h a0).bind fun u_4 =>
  some (((u_1 + u_2) + u_3) + u_4)
set_option maxRecDepth 4000 in
theorem w_X7_bareEdges {X : wX} (C : Cx X yX7_bareEdges cX7_bareEdges 2 (some .int) rm_X7_bareEdges) {N : Nat} {q : Qp} (hN : 137 ≤ N) (h : Hp) (a0 : Nat) (hk_a0 : Kd a0 = 7) : wG X 2 (eM X (fun u => (some (.int u), N, h, (rq q)))) (f_X7_bareEdges h a0) N h (rq q) 0 0 0 [(0, .ref (xB X + a0)), (1, .ref (xB X + 3))] [] := by
  refine wG_of (f_X7_bareEdges.eq_1 ..) ?_
  refine wG_aload_n C dX7_bareEdges_0 0 rfl ?_
  refine wG_cV_ri [] [] C vw_X7_65 (c_X7_edgesAbove (xl X) (xE X) N q hN h a0 hk_a0) hk_a0 (wlt hN hk_a0 (by decide)) (by decide) rfl rfl (Nat.le_of_ble_eq_true rfl) dX7_bareEdges_1 (cl' := 0) (sl' := 0) rfl rfl (fun u_1 => ?_)
  refine wG_aload_n C dX7_bareEdges_4 0 rfl ?_
  refine wG_aload_n C dX7_bareEdges_5 1 rfl ?_
  refine wG_cV_ri [.ref (xB X + 3)] [.int u_1] C vw_X7_69 (c_X7_edgesBelow (xl X) (xE X) N q hN h a0 hk_a0) hk_a0 (wlt hN hk_a0 (by decide)) (by decide) rfl rfl (Nat.le_of_ble_eq_true rfl) dX7_bareEdges_6 (cl' := 0) (sl' := 0) rfl rfl (fun u_2 => ?_)
  refine wG_iadd C dX7_bareEdges_9 ?_
  refine wG_aload_n C dX7_bareEdges_10 0 rfl ?_
  refine wG_cV_ri [] [.int (u_1 + u_2)] C vw_X7_73 (c_X7_edgesLeft (xl X) (xE X) N q hN h a0 hk_a0) hk_a0 (wlt hN hk_a0 (by decide)) (by decide) rfl rfl (Nat.le_of_ble_eq_true rfl) dX7_bareEdges_11 (cl' := 0) (sl' := 0) rfl rfl (fun u_3 => ?_)
  refine wG_iadd C dX7_bareEdges_14 ?_
  refine wG_aload_n C dX7_bareEdges_15 0 rfl ?_
  refine wG_aload_n C dX7_bareEdges_16 1 rfl ?_
  refine wG_cV_ri [.ref (xB X + 3)] [.int ((u_1 + u_2) + u_3)] C vw_X7_76 (c_X7_edgesRight (xl X) (xE X) N q hN h a0 hk_a0) hk_a0 (wlt hN hk_a0 (by decide)) (by decide) rfl rfl (Nat.le_of_ble_eq_true rfl) dX7_bareEdges_17 (cl' := 0) (sl' := 0) rfl rfl (fun u_4 => ?_)
  refine wG_iadd C dX7_bareEdges_20 ?_
  exact wG_iret C dX7_bareEdges_21 ⟨by decide, by decide⟩ (fun _ e => e)
theorem c_X7_bareEdges (l : Launch) (E : wE) (N : Nat) (q : Qp) (hN : 137 ≤ N) (h : Hp) (a0 : Nat) (hk_a0 : Kd a0 = 7) : ∀ z, f_X7_bareEdges h a0 = some z → CT l E yX7_bareEdges cX7_bareEdges 2 (some .int) rm_X7_bareEdges [.ref (eB E + a0), .ref (eB E + 3)] N h (rq q) ((fun u => (some (.int u), N, h, (rq q))) z) := CT.of (by decide +kernel) (Nat.le_of_ble_eq_true rfl) (fun X _ e C => by subst e; exact w_X7_bareEdges C hN h a0 hk_a0)
def rm_X7_dried : Room := { frames := 0, cells := 0, slots := 0, locals := 0 }
def f_X7_dried (h : Hp) (a0 : Nat) : Option Int32 :=
  some ((((h a0 9) + (h a0 10)) + (h a0 11)) + (h a0 12))
set_option maxRecDepth 4000 in
theorem w_X7_dried {X : wX} (C : Cx X yX7_dried cX7_dried 1 (some .int) rm_X7_dried) {N : Nat} {q : Qp} (hN : 137 ≤ N) (h : Hp) (a0 : Nat) (hk_a0 : Kd a0 = 7) : wG X 1 (eM X (fun u => (some (.int u), N, h, (rq q)))) (f_X7_dried h a0) N h (rq q) 0 0 0 [(0, .ref (xB X + a0))] [] := by
  refine wG_of (f_X7_dried.eq_1 ..) ?_
  refine wG_aload_n C dX7_dried_0 0 rfl ?_
  refine wG_getI C fl_X7_53_7 rfl hk_a0 (wlt hN hk_a0 (by decide)) dX7_dried_1 ?_
  refine wG_aload_n C dX7_dried_4 0 rfl ?_
  refine wG_getI C fl_X7_56_7 rfl hk_a0 (wlt hN hk_a0 (by decide)) dX7_dried_5 ?_
  refine wG_iadd C dX7_dried_8 ?_
  refine wG_aload_n C dX7_dried_9 0 rfl ?_
  refine wG_getI C fl_X7_59_7 rfl hk_a0 (wlt hN hk_a0 (by decide)) dX7_dried_10 ?_
  refine wG_iadd C dX7_dried_13 ?_
  refine wG_aload_n C dX7_dried_14 0 rfl ?_
  refine wG_getI C fl_X7_62_7 rfl hk_a0 (wlt hN hk_a0 (by decide)) dX7_dried_15 ?_
  refine wG_iadd C dX7_dried_18 ?_
  exact wG_iret C dX7_dried_19 ⟨by decide, by decide⟩ (fun _ e => e)
theorem c_X7_dried (l : Launch) (E : wE) (N : Nat) (q : Qp) (hN : 137 ≤ N) (h : Hp) (a0 : Nat) (hk_a0 : Kd a0 = 7) : ∀ z, f_X7_dried h a0 = some z → CT l E yX7_dried cX7_dried 1 (some .int) rm_X7_dried [.ref (eB E + a0)] N h (rq q) ((fun u => (some (.int u), N, h, (rq q))) z) := CT.of (by decide +kernel) (Nat.le_of_ble_eq_true rfl) (fun X _ e C => by subst e; exact w_X7_dried C hN h a0 hk_a0)
def rm_X7_isEnd : Room := { frames := 1, cells := 0, slots := 0, locals := 21 }
def f_X7_isEnd (h : Hp) (a0 : Nat) : Option Int32 :=
  (f_X7_edgesAbove h a0).bind fun u_1 =>
  ((if u_1 = 0 then
  some 1
  else
  some 0)).bind fun t_2 =>
  (f_X7_edgesBelow h a0).bind fun u_3 =>
  ((if u_3 = 0 then
  some 1
  else
  some 0)).bind fun t_4 =>
  (f_X7_edgesLeft h a0).bind fun u_5 =>
  ((if u_5 = 0 then
  some 1
  else
  some 0)).bind fun t_6 =>
  (f_X7_edgesRight h a0).bind fun u_7 =>
  ((if u_7 = 0 then
  some 1
  else
  some 0)).bind fun t_8 =>
  vB (((t_2 + t_4) + t_6) + t_8) fun (x2_9 : Int32) =>
  (if x2_9 < 3 then
  some 0
  else
  some 1)
set_option maxRecDepth 4000 in
theorem w_X7_isEnd {X : wX} (C : Cx X yX7_isEnd cX7_isEnd 3 (some .boolean) rm_X7_isEnd) {N : Nat} {q : Qp} (hN : 137 ≤ N) (h : Hp) (a0 : Nat) (hk_a0 : Kd a0 = 7) : wG X 3 (eM X (fun u => (some (.int u), N, h, (rq q)))) (f_X7_isEnd h a0) N h (rq q) 0 0 0 [(0, .ref (xB X + a0)), (1, .ref (xB X + 3))] [] := by
  refine wG_of (f_X7_isEnd.eq_1 ..) ?_
  refine wG_aload_n C dX7_isEnd_0 0 rfl ?_
  refine wG_cV_ri [] [] C vw_X7_65 (c_X7_edgesAbove (xl X) (xE X) N q hN h a0 hk_a0) hk_a0 (wlt hN hk_a0 (by decide)) (by decide) rfl rfl (Nat.le_of_ble_eq_true rfl) dX7_isEnd_1 (cl' := 0) (sl' := 0) rfl rfl (fun u_1 => ?_)
  refine wG_bind (J := (fun (t_2 : Int32) Q => gQ X 3 Q N h (rq q) 0 0 12 [(0, .ref (xB X + a0)), (1, .ref (xB X + 3))] [.int t_2])) ?_ (fun t_2 => (?_ : wG X 3 _ _ N h (rq q) 0 0 12 [(0, .ref (xB X + a0)), (1, .ref (xB X + 3))] [.int t_2]))
  · refine wG_if_ne C dX7_isEnd_4 ?_ ?_
    · refine wG_iconst C dX7_isEnd_7 (v := 1) (by decide) ?_
      refine wG_goto C dX7_isEnd_8 ?_
      exact wG_exit (fun Q e => gQ_lv [0, 1] rfl e)
    · refine wG_iconst C dX7_isEnd_11 (v := 0) (by decide) ?_
      exact wG_exit (fun Q e => gQ_lv [0, 1] rfl e)
  · refine wG_aload_n C dX7_isEnd_12 0 rfl ?_
    refine wG_aload_n C dX7_isEnd_13 1 rfl ?_
    refine wG_cV_ri [.ref (xB X + 3)] [.int t_2] C vw_X7_69 (c_X7_edgesBelow (xl X) (xE X) N q hN h a0 hk_a0) hk_a0 (wlt hN hk_a0 (by decide)) (by decide) rfl rfl (Nat.le_of_ble_eq_true rfl) dX7_isEnd_14 (cl' := 0) (sl' := 0) rfl rfl (fun u_3 => ?_)
    refine wG_bind (J := (fun (t_4 : Int32) Q => gQ X 3 Q N h (rq q) 0 0 25 [(0, .ref (xB X + a0)), (1, .ref (xB X + 3))] [.int t_4, .int t_2])) ?_ (fun t_4 => (?_ : wG X 3 _ _ N h (rq q) 0 0 25 [(0, .ref (xB X + a0)), (1, .ref (xB X + 3))] [.int t_4, .int t_2]))
    · refine wG_if_ne C dX7_isEnd_17 ?_ ?_
      · refine wG_iconst C dX7_isEnd_20 (v := 1) (by decide) ?_
        refine wG_goto C dX7_isEnd_21 ?_
        exact wG_exit (fun Q e => gQ_lv [0, 1] rfl e)
      · refine wG_iconst C dX7_isEnd_24 (v := 0) (by decide) ?_
        exact wG_exit (fun Q e => gQ_lv [0, 1] rfl e)
    · refine wG_iadd C dX7_isEnd_25 ?_
      refine wG_aload_n C dX7_isEnd_26 0 rfl ?_
      refine wG_cV_ri [] [.int (t_2 + t_4)] C vw_X7_73 (c_X7_edgesLeft (xl X) (xE X) N q hN h a0 hk_a0) hk_a0 (wlt hN hk_a0 (by decide)) (by decide) rfl rfl (Nat.le_of_ble_eq_true rfl) dX7_isEnd_27 (cl' := 0) (sl' := 0) rfl rfl (fun u_5 => ?_)
      refine wG_bind (J := (fun (t_6 : Int32) Q => gQ X 3 Q N h (rq q) 0 0 38 [(0, .ref (xB X + a0)), (1, .ref (xB X + 3))] [.int t_6, .int (t_2 + t_4)])) ?_ (fun t_6 => (?_ : wG X 3 _ _ N h (rq q) 0 0 38 [(0, .ref (xB X + a0)), (1, .ref (xB X + 3))] [.int t_6, .int (t_2 + t_4)]))
      · refine wG_if_ne C dX7_isEnd_30 ?_ ?_
        · refine wG_iconst C dX7_isEnd_33 (v := 1) (by decide) ?_
          refine wG_goto C dX7_isEnd_34 ?_
          exact wG_exit (fun Q e => gQ_lv [0, 1] rfl e)
        · refine wG_iconst C dX7_isEnd_37 (v := 0) (by decide) ?_
          exact wG_exit (fun Q e => gQ_lv [0, 1] rfl e)
      · refine wG_iadd C dX7_isEnd_38 ?_
        refine wG_aload_n C dX7_isEnd_39 0 rfl ?_
        refine wG_aload_n C dX7_isEnd_40 1 rfl ?_
        refine wG_cV_ri [.ref (xB X + 3)] [.int ((t_2 + t_4) + t_6)] C vw_X7_76 (c_X7_edgesRight (xl X) (xE X) N q hN h a0 hk_a0) hk_a0 (wlt hN hk_a0 (by decide)) (by decide) rfl rfl (Nat.le_of_ble_eq_true rfl) dX7_isEnd_41 (cl' := 0) (sl' := 0) rfl rfl (fun u_7 => ?_)
        refine wG_bind (J := (fun (t_8 : Int32) Q => gQ X 3 Q N h (rq q) 0 0 52 [] [.int t_8, .int ((t_2 + t_4) + t_6)])) ?_ (fun t_8 => (?_ : wG X 3 _ _ N h (rq q) 0 0 52 [] [.int t_8, .int ((t_2 + t_4) + t_6)]))
        · refine wG_if_ne C dX7_isEnd_44 ?_ ?_
          · refine wG_iconst C dX7_isEnd_47 (v := 1) (by decide) ?_
            refine wG_goto C dX7_isEnd_48 ?_
            exact wG_exit (fun Q e => gQ_lv [] rfl e)
          · refine wG_iconst C dX7_isEnd_51 (v := 0) (by decide) ?_
            exact wG_exit (fun Q e => gQ_lv [] rfl e)
        · refine wG_iadd C dX7_isEnd_52 ?_
          refine wG_nmI (fun x2_9 => ?_)
          refine wG_istore_n C (L' := [(2, .int x2_9)]) dX7_isEnd_53 (by decide) [0] rfl ?_
          refine wG_iload_n C dX7_isEnd_54 0 rfl ?_
          refine wG_iconst C dX7_isEnd_55 (v := 3) (by decide) ?_
          refine wG_icmp_lt C dX7_isEnd_56 ?_ ?_
          · refine wG_iconst C dX7_isEnd_63 (v := 0) (by decide) ?_
            exact wG_zret C dX7_isEnd_64 rfl ⟨by decide, by decide⟩ (fun _ e => e)
          · refine wG_iconst C dX7_isEnd_59 (v := 1) (by decide) ?_
            refine wG_goto C dX7_isEnd_60 ?_
            exact wG_zret C dX7_isEnd_64 rfl ⟨by decide, by decide⟩ (fun _ e => e)
theorem c_X7_isEnd (l : Launch) (E : wE) (N : Nat) (q : Qp) (hN : 137 ≤ N) (h : Hp) (a0 : Nat) (hk_a0 : Kd a0 = 7) : ∀ z, f_X7_isEnd h a0 = some z → CT l E yX7_isEnd cX7_isEnd 3 (some .boolean) rm_X7_isEnd [.ref (eB E + a0), .ref (eB E + 3)] N h (rq q) ((fun u => (some (.int u), N, h, (rq q))) z) := CT.of (by decide +kernel) (Nat.le_of_ble_eq_true rfl) (fun X _ e C => by subst e; exact w_X7_isEnd C hN h a0 hk_a0)
def rm_X11_about : Room := { frames := 2, cells := 0, slots := 0, locals := 43 }
def f_X11_about (h : Hp) (x1 : Int32) (x2 : Int32) : Option Int32 :=
  (f_X1_knows h x1).bind fun u_1 =>
  (if u_1 = 0 then
  some (-1)
  else
  if inB x1 24 then vB (10 + ix x1) fun a_2 =>
  (if x2 = 0 then
  (f_X7_block h a_2).bind fun u_3 =>
  some u_3
  else
  (if x2 = 1 then
  some (h a_2 6)
  else
  (if x2 = 2 then
  some (h a_2 5)
  else
  (if x2 = 3 then
  (f_X7_bareEdges h a_2).bind fun u_4 =>
  some u_4
  else
  (if x2 = 4 then
  (f_X7_dried h a_2).bind fun u_5 =>
  some u_5
  else
  (if x2 = 5 then
  some (h a_2 8)
  else
  (if x2 = 6 then
  some (h a_2 7)
  else
  (if x2 = 7 then
  (f_X7_isEnd h a_2).bind fun u_6 =>
  (if u_6 = 0 then
  some 0
  else
  some 1)
  else
  some (-2))))))))) else none)
set_option maxRecDepth 4000 in
theorem w_X11_about {X : wX} (C : Cx X yX11_about cX11_about 4 (some .int) rm_X11_about) {N : Nat} {q : Qp} (hN : 137 ≤ N) (h : Hp) (x1 : Int32) (x2 : Int32) : wG X 4 (eM X (fun u => (some (.int u), N, h, (rq q)))) (f_X11_about h x1 x2) N h (rq q) 0 0 0 [(0, .ref (xB X + 0)), (1, .int x1), (2, .int x2)] [] := by
  refine wG_of (f_X11_about.eq_1 ..) ?_
  refine wG_aload_n C dX11_about_0 0 rfl ?_
  refine wG_getR C fl_X11_28_11 rfl kd_0 (wll hN (by decide)) (rf_0_2 q) dX11_about_1 ?_
  refine wG_iload_n C dX11_about_4 1 rfl ?_
  refine wG_cV_ri [.int x1] [] C vw_X11_138 (c_X1_knows (xl X) (xE X) N q hN h x1) kd_7 (wll hN (by decide)) (by decide) rfl rfl (Nat.le_of_ble_eq_true rfl) dX11_about_5 (cl' := 0) (sl' := 0) rfl rfl (fun u_1 => ?_)
  refine wG_if_ne C dX11_about_8 ?_ ?_
  · refine wG_iconst C dX11_about_11 (v := (-1)) (by decide) ?_
    exact wG_iret C dX11_about_12 ⟨by decide, by decide⟩ (fun _ e => e)
  · refine wG_aload_n C dX11_about_13 0 rfl ?_
    refine wG_getR C fl_X11_28_11 rfl kd_0 (wll hN (by decide)) (rf_0_2 q) dX11_about_14 ?_
    refine wG_getR C fl_X11_126_1 rfl kd_7 (wll hN (by decide)) (rf_7_1 q) dX11_about_17 ?_
    refine wG_iload_n C dX11_about_20 1 rfl ?_
    refine wG_aaP C hN kd_7 rfl rfl dX11_about_21 (fun a_2 hk_a_2 => ?_)
    refine wG_astore_n C (L' := [(0, .ref (xB X + 0)), (2, .int x2), (3, .ref (xB X + a_2))]) dX11_about_22 (by decide) [1, 3, 0] rfl ?_
    refine wG_iload_n C dX11_about_23 1 rfl ?_
    refine wG_if (fun c0 => ?_) (fun c0 => ?_)
    · refine wG_tsI C (tgt := 72) c0 dX11_about_24 (by decide) (by decide) (48) (by decide) (by decide) ?_
      refine wG_aload_n C dX11_about_72 2 rfl ?_
      refine wG_cV_ri [] [] C vw_X11_141 (c_X7_block (xl X) (xE X) N q hN h a_2 hk_a_2) hk_a_2 (wlt hN hk_a_2 (by decide)) (by decide) rfl rfl (Nat.le_of_ble_eq_true rfl) dX11_about_73 (cl' := 0) (sl' := 0) rfl rfl (fun u_3 => ?_)
      exact wG_iret C dX11_about_76 ⟨by decide, by decide⟩ (fun _ e => e)
    · refine wG_if (fun c1 => ?_) (fun c1 => ?_)
      · refine wG_tsI C (tgt := 77) c1 dX11_about_24 (by decide) (by decide) (53) (by decide) (by decide) ?_
        refine wG_aload_n C dX11_about_77 2 rfl ?_
        refine wG_getI C fl_X11_144_7 rfl hk_a_2 (wlt hN hk_a_2 (by decide)) dX11_about_78 ?_
        exact wG_iret C dX11_about_81 ⟨by decide, by decide⟩ (fun _ e => e)
      · refine wG_if (fun c2 => ?_) (fun c2 => ?_)
        · refine wG_tsI C (tgt := 82) c2 dX11_about_24 (by decide) (by decide) (58) (by decide) (by decide) ?_
          refine wG_aload_n C dX11_about_82 2 rfl ?_
          refine wG_getI C fl_X11_147_7 rfl hk_a_2 (wlt hN hk_a_2 (by decide)) dX11_about_83 ?_
          exact wG_iret C dX11_about_86 ⟨by decide, by decide⟩ (fun _ e => e)
        · refine wG_if (fun c3 => ?_) (fun c3 => ?_)
          · refine wG_tsI C (tgt := 87) c3 dX11_about_24 (by decide) (by decide) (63) (by decide) (by decide) ?_
            refine wG_aload_n C dX11_about_87 2 rfl ?_
            refine wG_aload_n C dX11_about_88 0 rfl ?_
            refine wG_getR C fl_X11_19_11 rfl kd_0 (wll hN (by decide)) (rf_0_1 q) dX11_about_89 ?_
            refine wG_cV_ri [.ref (xB X + 3)] [] C vw_X11_150 (c_X7_bareEdges (xl X) (xE X) N q hN h a_2 hk_a_2) hk_a_2 (wlt hN hk_a_2 (by decide)) (by decide) rfl rfl (Nat.le_of_ble_eq_true rfl) dX11_about_92 (cl' := 0) (sl' := 0) rfl rfl (fun u_4 => ?_)
            exact wG_iret C dX11_about_95 ⟨by decide, by decide⟩ (fun _ e => e)
          · refine wG_if (fun c4 => ?_) (fun c4 => ?_)
            · refine wG_tsI C (tgt := 96) c4 dX11_about_24 (by decide) (by decide) (72) (by decide) (by decide) ?_
              refine wG_aload_n C dX11_about_96 2 rfl ?_
              refine wG_cV_ri [] [] C vw_X11_154 (c_X7_dried (xl X) (xE X) N q hN h a_2 hk_a_2) hk_a_2 (wlt hN hk_a_2 (by decide)) (by decide) rfl rfl (Nat.le_of_ble_eq_true rfl) dX11_about_97 (cl' := 0) (sl' := 0) rfl rfl (fun u_5 => ?_)
              exact wG_iret C dX11_about_100 ⟨by decide, by decide⟩ (fun _ e => e)
            · refine wG_if (fun c5 => ?_) (fun c5 => ?_)
              · refine wG_tsI C (tgt := 101) c5 dX11_about_24 (by decide) (by decide) (77) (by decide) (by decide) ?_
                refine wG_aload_n C dX11_about_101 2 rfl ?_
                refine wG_getI C fl_X11_157_7 rfl hk_a_2 (wlt hN hk_a_2 (by decide)) dX11_about_102 ?_
                exact wG_iret C dX11_about_105 ⟨by decide, by decide⟩ (fun _ e => e)
              · refine wG_if (fun c6 => ?_) (fun c6 => ?_)
                · refine wG_tsI C (tgt := 106) c6 dX11_about_24 (by decide) (by decide) (82) (by decide) (by decide) ?_
                  refine wG_aload_n C dX11_about_106 2 rfl ?_
                  refine wG_getI C fl_X11_160_7 rfl hk_a_2 (wlt hN hk_a_2 (by decide)) dX11_about_107 ?_
                  exact wG_iret C dX11_about_110 ⟨by decide, by decide⟩ (fun _ e => e)
                · refine wG_if (fun c7 => ?_) (fun c7 => ?_)
                  · refine wG_tsI C (tgt := 111) c7 dX11_about_24 (by decide) (by decide) (87) (by decide) (by decide) ?_
                    refine wG_aload_n C dX11_about_111 2 rfl ?_
                    refine wG_aload_n C dX11_about_112 0 rfl ?_
                    refine wG_getR C fl_X11_19_11 rfl kd_0 (wll hN (by decide)) (rf_0_1 q) dX11_about_113 ?_
                    refine wG_cV_ri [.ref (xB X + 3)] [] C vw_X11_163 (c_X7_isEnd (xl X) (xE X) N q hN h a_2 hk_a_2) hk_a_2 (wlt hN hk_a_2 (by decide)) (by decide) rfl rfl (Nat.le_of_ble_eq_true rfl) dX11_about_116 (cl' := 0) (sl' := 0) rfl rfl (fun u_6 => ?_)
                    refine wG_if_eq C dX11_about_119 ?_ ?_
                    · refine wG_iconst C dX11_about_126 (v := 0) (by decide) ?_
                      exact wG_iret C dX11_about_127 ⟨by decide, by decide⟩ (fun _ e => e)
                    · refine wG_iconst C dX11_about_122 (v := 1) (by decide) ?_
                      refine wG_goto C dX11_about_123 ?_
                      exact wG_iret C dX11_about_127 ⟨by decide, by decide⟩ (fun _ e => e)
                  · refine wG_tsO C (tgt := 128) (by have e0 := lv_neT (a := 0) c0 rfl; have e1 := lv_neT (a := 1) c1 rfl; have e2 := lv_neT (a := 2) c2 rfl; have e3 := lv_neT (a := 3) c3 rfl; have e4 := lv_neT (a := 4) c4 rfl; have e5 := lv_neT (a := 5) c5 rfl; have e6 := lv_neT (a := 6) c6 rfl; have e7 := lv_neT (a := 7) c7 rfl; omega) dX11_about_24 (by decide) ?_
                    refine wG_bipush C dX11_about_128 (v := (-2)) (by decide) ?_
                    exact wG_iret C dX11_about_130 ⟨by decide, by decide⟩ (fun _ e => e)
theorem c_X11_about (l : Launch) (E : wE) (N : Nat) (q : Qp) (hN : 137 ≤ N) (h : Hp) (x1 : Int32) (x2 : Int32) : ∀ z, f_X11_about h x1 x2 = some z → CT l E yX11_about cX11_about 4 (some .int) rm_X11_about [.ref (eB E + 0), .int x1, .int x2] N h (rq q) ((fun u => (some (.int u), N, h, (rq q))) z) := CT.of (by decide +kernel) (Nat.le_of_ble_eq_true rfl) (fun X _ e C => by subst e; exact w_X11_about C hN h x1 x2)
def rm_X7_weight : Room := { frames := 1, cells := 0, slots := 0, locals := 23 }
def f_X7_weight (h : Hp) (a0 : Nat) : Option Int32 :=
  (f_X7_dried h a0).bind fun u_1 =>
  some (if 0 < (((h a0 4) - (u_1 / 40)) - (h a0 8)) then (((h a0 4) - (u_1 / 40)) - (h a0 8)) else 0)
set_option maxRecDepth 4000 in
theorem w_X7_weight {X : wX} (C : Cx X yX7_weight cX7_weight 1 (some .int) rm_X7_weight) {N : Nat} {q : Qp} (hN : 137 ≤ N) (h : Hp) (a0 : Nat) (hk_a0 : Kd a0 = 7) : wG X 1 (eM X (fun u => (some (.int u), N, h, (rq q)))) (f_X7_weight h a0) N h (rq q) 0 0 0 [(0, .ref (xB X + a0))] [] := by
  refine wG_of (f_X7_weight.eq_1 ..) ?_
  refine wG_iconst C dX7_weight_0 (v := 0) (by decide) ?_
  refine wG_aload_n C dX7_weight_1 0 rfl ?_
  refine wG_getI C fl_X7_32_7 rfl hk_a0 (wlt hN hk_a0 (by decide)) dX7_weight_2 ?_
  refine wG_aload_n C dX7_weight_5 0 rfl ?_
  refine wG_cV_ri [] [.int (h a0 4), .int 0] C vw_X7_79 (c_X7_dried (xl X) (xE X) N q hN h a0 hk_a0) hk_a0 (wlt hN hk_a0 (by decide)) (by decide) rfl rfl (Nat.le_of_ble_eq_true rfl) dX7_weight_6 (cl' := 0) (sl' := 0) rfl rfl (fun u_1 => ?_)
  refine wG_bipush C dX7_weight_9 (v := 40) (by decide) ?_
  refine wG_idivK C dX7_weight_11 (by decide) ?_
  refine wG_isub C dX7_weight_12 ?_
  refine wG_aload_n C dX7_weight_13 0 rfl ?_
  refine wG_getI C fl_X7_47_7 rfl hk_a0 (wlt hN hk_a0 (by decide)) dX7_weight_14 ?_
  refine wG_isub C dX7_weight_17 ?_
  refine wG_mmax C mw_X7_82 ⟨by decide, Nat.le_of_ble_eq_true rfl, by decide, by decide⟩ dX7_weight_18 ?_
  exact wG_iret C dX7_weight_21 ⟨by decide, by decide⟩ (fun _ e => e)
theorem c_X7_weight (l : Launch) (E : wE) (N : Nat) (q : Qp) (hN : 137 ≤ N) (h : Hp) (a0 : Nat) (hk_a0 : Kd a0 = 7) : ∀ z, f_X7_weight h a0 = some z → CT l E yX7_weight cX7_weight 1 (some .int) rm_X7_weight [.ref (eB E + a0)] N h (rq q) ((fun u => (some (.int u), N, h, (rq q))) z) := CT.of (by decide +kernel) (Nat.le_of_ble_eq_true rfl) (fun X _ e C => by subst e; exact w_X7_weight C hN h a0 hk_a0)
def rm_X11_weighs : Room := { frames := 2, cells := 0, slots := 0, locals := 43 }
def f_X11_weighs (h : Hp) (x1 : Int32) : Option Int32 :=
  (f_X1_knows h x1).bind fun u_1 =>
  (if u_1 = 0 then
  some (-1)
  else
  if inB x1 24 then vB (10 + ix x1) fun a_2 =>
  (f_X7_weight h a_2).bind fun u_3 =>
  some u_3 else none)
set_option maxRecDepth 4000 in
theorem w_X11_weighs {X : wX} (C : Cx X yX11_weighs cX11_weighs 2 (some .int) rm_X11_weighs) {N : Nat} {q : Qp} (hN : 137 ≤ N) (h : Hp) (x1 : Int32) : wG X 2 (eM X (fun u => (some (.int u), N, h, (rq q)))) (f_X11_weighs h x1) N h (rq q) 0 0 0 [(0, .ref (xB X + 0)), (1, .int x1)] [] := by
  refine wG_of (f_X11_weighs.eq_1 ..) ?_
  refine wG_aload_n C dX11_weighs_0 0 rfl ?_
  refine wG_getR C fl_X11_28_11 rfl kd_0 (wll hN (by decide)) (rf_0_2 q) dX11_weighs_1 ?_
  refine wG_iload_n C dX11_weighs_4 1 rfl ?_
  refine wG_cV_ri [.int x1] [] C vw_X11_138 (c_X1_knows (xl X) (xE X) N q hN h x1) kd_7 (wll hN (by decide)) (by decide) rfl rfl (Nat.le_of_ble_eq_true rfl) dX11_weighs_5 (cl' := 0) (sl' := 0) rfl rfl (fun u_1 => ?_)
  refine wG_if_eq C dX11_weighs_8 ?_ ?_
  · refine wG_iconst C dX11_weighs_26 (v := (-1)) (by decide) ?_
    exact wG_iret C dX11_weighs_27 ⟨by decide, by decide⟩ (fun _ e => e)
  · refine wG_aload_n C dX11_weighs_11 0 rfl ?_
    refine wG_getR C fl_X11_28_11 rfl kd_0 (wll hN (by decide)) (rf_0_2 q) dX11_weighs_12 ?_
    refine wG_getR C fl_X11_126_1 rfl kd_7 (wll hN (by decide)) (rf_7_1 q) dX11_weighs_15 ?_
    refine wG_iload_n C dX11_weighs_18 1 rfl ?_
    refine wG_aaP C hN kd_7 rfl rfl dX11_weighs_19 (fun a_2 hk_a_2 => ?_)
    refine wG_cV_ri [] [] C vw_X11_167 (c_X7_weight (xl X) (xE X) N q hN h a_2 hk_a_2) hk_a_2 (wlt hN hk_a_2 (by decide)) (by decide) rfl rfl (Nat.le_of_ble_eq_true rfl) dX11_weighs_20 (cl' := 0) (sl' := 0) rfl rfl (fun u_3 => ?_)
    refine wG_goto C dX11_weighs_23 ?_
    exact wG_iret C dX11_weighs_27 ⟨by decide, by decide⟩ (fun _ e => e)
theorem c_X11_weighs (l : Launch) (E : wE) (N : Nat) (q : Qp) (hN : 137 ≤ N) (h : Hp) (x1 : Int32) : ∀ z, f_X11_weighs h x1 = some z → CT l E yX11_weighs cX11_weighs 2 (some .int) rm_X11_weighs [.ref (eB E + 0), .int x1] N h (rq q) ((fun u => (some (.int u), N, h, (rq q))) z) := CT.of (by decide +kernel) (Nat.le_of_ble_eq_true rfl) (fun X _ e C => by subst e; exact w_X11_weighs C hN h x1)
def rm_X7_dry : Room := { frames := 1, cells := 0, slots := 0, locals := 21 }
def f_X7_dry (h : Hp) (a0 : Nat) (x2 : Int32) : Option Hp :=
  ((if (h a0 7) < 0 then
  some 0
  else
  (if (3 : Int32) ≤ (h a0 7) then
  some 0
  else
  if inB (h a0 7) 3 then
  some ((drT (ix (h a0 7))) * x2) else none))).bind fun t_1 =>
  vB t_1 fun (x3_2 : Int32) =>
  (f_X7_edgesAbove h a0).bind fun u_3 =>
  vB (u2 h a0 9 ((h a0 9) + (x3_2 * u_3))) fun h_4 =>
  (f_X7_edgesBelow h_4 a0).bind fun u_5 =>
  vB (u2 h_4 a0 10 ((h_4 a0 10) + (x3_2 * u_5))) fun h_6 =>
  (f_X7_edgesLeft h_6 a0).bind fun u_7 =>
  vB (u2 h_6 a0 11 ((h_6 a0 11) + (x3_2 * u_7))) fun h_8 =>
  (f_X7_edgesRight h_8 a0).bind fun u_9 =>
  vB (u2 h_8 a0 12 ((h_8 a0 12) + (x3_2 * u_9))) fun h_10 =>
  some h_10
set_option maxRecDepth 4000 in
theorem w_X7_dry {X : wX} (C : Cx X yX7_dry cX7_dry 4 none rm_X7_dry) {N : Nat} {q : Qp} (hN : 137 ≤ N) (h : Hp) (a0 : Nat) (hk_a0 : Kd a0 = 7) (x2 : Int32) : wG X 4 (eM X (fun u => (none, N, u, (rq q)))) (f_X7_dry h a0 x2) N h (rq q) 0 0 0 [(0, .ref (xB X + a0)), (1, .ref (xB X + 3)), (2, .int x2)] [] := by
  refine wG_of (f_X7_dry.eq_1 ..) ?_
  refine wG_aload_n C dX7_dry_0 0 rfl ?_
  refine wG_getI C fl_X7_44_7 rfl hk_a0 (wlt hN hk_a0 (by decide)) dX7_dry_1 ?_
  refine wG_bind (J := (fun (t_1 : Int32) Q => gQ X 4 Q N h (rq q) 0 0 32 [(0, .ref (xB X + a0)), (1, .ref (xB X + 3))] [.int t_1])) ?_ (fun t_1 => (?_ : wG X 4 _ _ N h (rq q) 0 0 32 [(0, .ref (xB X + a0)), (1, .ref (xB X + 3))] [.int t_1]))
  · refine wG_if_lt C dX7_dry_4 ?_ ?_
    · refine wG_iconst C dX7_dry_31 (v := 0) (by decide) ?_
      exact wG_exit (fun Q e => gQ_lv [0, 1] rfl e)
    · refine wG_aload_n C dX7_dry_7 0 rfl ?_
      refine wG_getI C fl_X7_44_7 rfl hk_a0 (wlt hN hk_a0 (by decide)) dX7_dry_8 ?_
      refine wG_gsN C (n := "DRYING") (host := "WheelAndWire") (by decide +kernel) C.sta.2.1 dX7_dry_11 ?_
      refine wG_alS C C.sta.2.2.2 dX7_dry_14 ?_
      refine wG_icmp_ge C dX7_dry_15 ?_ ?_
      · refine wG_iconst C dX7_dry_31 (v := 0) (by decide) ?_
        exact wG_exit (fun Q e => gQ_lv [0, 1] rfl e)
      · refine wG_gsN C (n := "DRYING") (host := "WheelAndWire") (by decide +kernel) C.sta.2.1 dX7_dry_18 ?_
        refine wG_aload_n C dX7_dry_21 0 rfl ?_
        refine wG_getI C fl_X7_44_7 rfl hk_a0 (wlt hN hk_a0 (by decide)) dX7_dry_22 ?_
        refine wG_iaS C C.sta.2.2.2 dX7_dry_25 ?_
        refine wG_iload_n C dX7_dry_26 2 rfl ?_
        refine wG_imul C dX7_dry_27 ?_
        refine wG_goto C dX7_dry_28 ?_
        exact wG_exit (fun Q e => gQ_lv [0, 1] rfl e)
  · refine wG_nmI (fun x3_2 => ?_)
    refine wG_istore_n C (L' := [(0, .ref (xB X + a0)), (1, .ref (xB X + 3)), (3, .int x3_2)]) dX7_dry_32 (by decide) [1, 2, 0] rfl ?_
    refine wG_aload_n C dX7_dry_33 0 rfl ?_
    refine wG_dup C dX7_dry_34 rfl ?_
    refine wG_getI C fl_X7_53_7 rfl hk_a0 (wlt hN hk_a0 (by decide)) dX7_dry_35 ?_
    refine wG_iload_n C dX7_dry_38 2 rfl ?_
    refine wG_aload_n C dX7_dry_39 0 rfl ?_
    refine wG_cV_ri [] [.int x3_2, .int (h a0 9), .ref (xB X + a0)] C vw_X7_65 (c_X7_edgesAbove (xl X) (xE X) N q hN h a0 hk_a0) hk_a0 (wlt hN hk_a0 (by decide)) (by decide) rfl rfl (Nat.le_of_ble_eq_true rfl) dX7_dry_40 (cl' := 0) (sl' := 0) rfl rfl (fun u_3 => ?_)
    refine wG_imul C dX7_dry_43 ?_
    refine wG_iadd C dX7_dry_44 ?_
    refine wG_putI C fl_X7_53_7 (fp_7_9 _) (fun e => Bool.noConfusion e) rfl hk_a0 (wlt hN hk_a0 (by decide)) dX7_dry_45 (fun h_4 => ?_)
    refine wG_aload_n C dX7_dry_48 0 rfl ?_
    refine wG_dup C dX7_dry_49 rfl ?_
    refine wG_getI C fl_X7_56_7 rfl hk_a0 (wlt hN hk_a0 (by decide)) dX7_dry_50 ?_
    refine wG_iload_n C dX7_dry_53 2 rfl ?_
    refine wG_aload_n C dX7_dry_54 0 rfl ?_
    refine wG_aload_n C dX7_dry_55 1 rfl ?_
    refine wG_cV_ri [.ref (xB X + 3)] [.int x3_2, .int (h_4 a0 10), .ref (xB X + a0)] C vw_X7_69 (c_X7_edgesBelow (xl X) (xE X) N q hN h_4 a0 hk_a0) hk_a0 (wlt hN hk_a0 (by decide)) (by decide) rfl rfl (Nat.le_of_ble_eq_true rfl) dX7_dry_56 (cl' := 0) (sl' := 0) rfl rfl (fun u_5 => ?_)
    refine wG_imul C dX7_dry_59 ?_
    refine wG_iadd C dX7_dry_60 ?_
    refine wG_putI C fl_X7_56_7 (fp_7_10 _) (fun e => Bool.noConfusion e) rfl hk_a0 (wlt hN hk_a0 (by decide)) dX7_dry_61 (fun h_6 => ?_)
    refine wG_aload_n C dX7_dry_64 0 rfl ?_
    refine wG_dup C dX7_dry_65 rfl ?_
    refine wG_getI C fl_X7_59_7 rfl hk_a0 (wlt hN hk_a0 (by decide)) dX7_dry_66 ?_
    refine wG_iload_n C dX7_dry_69 2 rfl ?_
    refine wG_aload_n C dX7_dry_70 0 rfl ?_
    refine wG_cV_ri [] [.int x3_2, .int (h_6 a0 11), .ref (xB X + a0)] C vw_X7_73 (c_X7_edgesLeft (xl X) (xE X) N q hN h_6 a0 hk_a0) hk_a0 (wlt hN hk_a0 (by decide)) (by decide) rfl rfl (Nat.le_of_ble_eq_true rfl) dX7_dry_71 (cl' := 0) (sl' := 0) rfl rfl (fun u_7 => ?_)
    refine wG_imul C dX7_dry_74 ?_
    refine wG_iadd C dX7_dry_75 ?_
    refine wG_putI C fl_X7_59_7 (fp_7_11 _) (fun e => Bool.noConfusion e) rfl hk_a0 (wlt hN hk_a0 (by decide)) dX7_dry_76 (fun h_8 => ?_)
    refine wG_aload_n C dX7_dry_79 0 rfl ?_
    refine wG_dup C dX7_dry_80 rfl ?_
    refine wG_getI C fl_X7_62_7 rfl hk_a0 (wlt hN hk_a0 (by decide)) dX7_dry_81 ?_
    refine wG_iload_n C dX7_dry_84 2 rfl ?_
    refine wG_aload_n C dX7_dry_85 0 rfl ?_
    refine wG_aload_n C dX7_dry_86 1 rfl ?_
    refine wG_cV_ri [.ref (xB X + 3)] [.int x3_2, .int (h_8 a0 12), .ref (xB X + a0)] C vw_X7_76 (c_X7_edgesRight (xl X) (xE X) N q hN h_8 a0 hk_a0) hk_a0 (wlt hN hk_a0 (by decide)) (by decide) rfl rfl (Nat.le_of_ble_eq_true rfl) dX7_dry_87 (cl' := 0) (sl' := 0) rfl rfl (fun u_9 => ?_)
    refine wG_imul C dX7_dry_90 ?_
    refine wG_iadd C dX7_dry_91 ?_
    refine wG_putI C fl_X7_62_7 (fp_7_12 _) (fun e => Bool.noConfusion e) rfl hk_a0 (wlt hN hk_a0 (by decide)) dX7_dry_92 (fun h_10 => ?_)
    exact wG_vret C dX7_dry_95 ⟨by decide, by decide⟩ (fun _ e => e)
theorem c_X7_dry (l : Launch) (E : wE) (N : Nat) (q : Qp) (hN : 137 ≤ N) (h : Hp) (a0 : Nat) (x2 : Int32) (hk_a0 : Kd a0 = 7) : ∀ z, f_X7_dry h a0 x2 = some z → CT l E yX7_dry cX7_dry 4 none rm_X7_dry [.ref (eB E + a0), .ref (eB E + 3), .int x2] N h (rq q) ((fun u => (none, N, u, (rq q))) z) := CT.of (by decide +kernel) (Nat.le_of_ble_eq_true rfl) (fun X _ e C => by subst e; exact w_X7_dry C hN h a0 hk_a0 x2)
def rm_X1_goBy : Room := { frames := 2, cells := 0, slots := 0, locals := 44 }
def L_X1_goBy_12 (x1 : Int32) : Nat → Int32 → Hp → Option Hp
  | 0, _, _ => none
  | n + 1, x2_3, h_4 =>
    (if (h_4 7 3) ≤ x2_3 then
    some h_4
    else
    if inB x2_3 24 then vB (10 + ix x2_3) fun a_6 =>
    ((if (h_4 a_6 6) = 0 then
    if inB x2_3 24 then vB (10 + ix x2_3) fun a_8 =>
    (f_X7_dry h_4 a_8 x1).bind fun u_9 =>
    some u_9 else none
    else
    some h_4)).bind fun t_7 =>
    vB (x2_3 + 1) fun (x2_10 : Int32) =>
    L_X1_goBy_12 x1 n x2_10 t_7 else none)
def f_X1_goBy (h : Hp) (x1 : Int32) : Option Hp :=
  vB (u2 h 7 4 ((h 7 4) + x1)) fun h_1 =>
  vB 0 fun (x2_2 : Int32) =>
  (L_X1_goBy_12 x1 FU x2_2 h_1).bind fun t_5 =>
  some t_5
set_option maxRecDepth 4000 in
theorem wL_X1_goBy_12 {X : wX} (C : Cx X yX1_goBy cX1_goBy 3 none rm_X1_goBy) {N : Nat} {q : Qp} (hN : 137 ≤ N) (h : Hp) (x1 : Int32) (h_1 : Hp) (x2_2 : Int32) : ∀ n x2_3 h_4, wG X 3 (fun (t_5 : Hp) Q => gQ X 3 Q N t_5 (rq q) 0 0 52 [] []) (L_X1_goBy_12 x1 n x2_3 h_4) N h_4 (rq q) 0 0 12 [(0, .ref (xB X + 7)), (1, .int x1), (2, .int x2_3)] [] := by
  intro n
  induction n with
  | zero => intro _ _; exact wG_none
  | succ n ih =>
    intro x2_3 h_4
    refine wG_of (L_X1_goBy_12.eq_2 ..) ?_
    refine wG_iload_n C dX1_goBy_12 2 rfl ?_
    refine wG_aload_n C dX1_goBy_13 0 rfl ?_
    refine wG_getI C fl_X1_33_1 rfl kd_7 (wll hN (by decide)) dX1_goBy_14 ?_
    refine wG_icmp_ge C dX1_goBy_17 ?_ ?_
    · exact wG_exit (fun Q e => gQ_lv [] rfl e)
    · refine wG_aload_n C dX1_goBy_20 0 rfl ?_
      refine wG_getR C fl_X1_11_1 rfl kd_7 (wll hN (by decide)) (rf_7_1 q) dX1_goBy_21 ?_
      refine wG_iload_n C dX1_goBy_24 2 rfl ?_
      refine wG_aaP C hN kd_7 rfl rfl dX1_goBy_25 (fun a_6 hk_a_6 => ?_)
      refine wG_getI C fl_X1_48_7 rfl hk_a_6 (wlt hN hk_a_6 (by decide)) dX1_goBy_26 ?_
      refine wG_bind (J := (fun (t_7 : Hp) Q => gQ X 3 Q N t_7 (rq q) 0 0 46 [(0, .ref (xB X + 7)), (1, .int x1), (2, .int x2_3)] [])) ?_ (fun t_7 => (?_ : wG X 3 _ _ N t_7 (rq q) 0 0 46 [(0, .ref (xB X + 7)), (1, .int x1), (2, .int x2_3)] []))
      · refine wG_if_ne C dX1_goBy_29 ?_ ?_
        · refine wG_aload_n C dX1_goBy_32 0 rfl ?_
          refine wG_getR C fl_X1_11_1 rfl kd_7 (wll hN (by decide)) (rf_7_1 q) dX1_goBy_33 ?_
          refine wG_iload_n C dX1_goBy_36 2 rfl ?_
          refine wG_aaP C hN kd_7 rfl rfl dX1_goBy_37 (fun a_8 hk_a_8 => ?_)
          refine wG_aload_n C dX1_goBy_38 0 rfl ?_
          refine wG_getR C fl_X1_22_1 rfl kd_7 (wll hN (by decide)) (rf_7_0 q) dX1_goBy_39 ?_
          refine wG_iload_n C dX1_goBy_42 1 rfl ?_
          refine wG_cV_wv [.ref (xB X + 3), .int x1] [] C vw_X1_55 (c_X7_dry (xl X) (xE X) N q hN h_4 a_8 x1 hk_a_8) hk_a_8 (wlt hN hk_a_8 (by decide)) (by decide) rfl rfl (Nat.le_of_ble_eq_true rfl) dX1_goBy_43 (cl' := 0) (sl' := 0) rfl rfl (fun u_9 => ?_)
          exact wG_exit (fun Q e => gQ_lv [0, 1, 2] rfl e)
        · exact wG_exit (fun Q e => gQ_lv [0, 1, 2] rfl e)
      · refine wG_iinc C (v := 1) (LL := fun x2_10 => [(0, .ref (xB X + 7)), (1, .int x1), (2, .int x2_10)]) dX1_goBy_46 2 rfl (by decide) (by decide) [1, 2, 0] (fun _ => rfl) (fun x2_10 => ?_)
        refine wG_goto C dX1_goBy_49 ?_
        exact wG_lv [0, 1, 2] rfl (ih x2_10 t_7)
set_option maxRecDepth 4000 in
theorem w_X1_goBy {X : wX} (C : Cx X yX1_goBy cX1_goBy 3 none rm_X1_goBy) {N : Nat} {q : Qp} (hN : 137 ≤ N) (h : Hp) (x1 : Int32) : wG X 3 (eM X (fun u => (none, N, u, (rq q)))) (f_X1_goBy h x1) N h (rq q) 0 0 0 [(0, .ref (xB X + 7)), (1, .int x1)] [] := by
  refine wG_of (f_X1_goBy.eq_1 ..) ?_
  refine wG_aload_n C dX1_goBy_0 0 rfl ?_
  refine wG_dup C dX1_goBy_1 rfl ?_
  refine wG_getI C fl_X1_37_1 rfl kd_7 (wll hN (by decide)) dX1_goBy_2 ?_
  refine wG_iload_n C dX1_goBy_5 1 rfl ?_
  refine wG_iadd C dX1_goBy_6 ?_
  refine wG_putI C fl_X1_37_1 (fp_1_4 _) (fun e => Bool.noConfusion e) rfl kd_7 (wll hN (by decide)) dX1_goBy_7 (fun h_1 => ?_)
  refine wG_iconst C dX1_goBy_10 (v := 0) (by decide) ?_
  refine wG_nmI (fun x2_2 => ?_)
  refine wG_istore_n C (L' := [(0, .ref (xB X + 7)), (1, .int x1), (2, .int x2_2)]) dX1_goBy_11 (by decide) [1, 2, 0] rfl ?_
  refine wG_lv (L' := [(0, .ref (xB X + 7)), (1, .int x1), (2, .int x2_2)]) [0, 1, 2] rfl ?_
  refine wG_bind (wL_X1_goBy_12 C hN h x1 h_1 x2_2 FU x2_2 h_1) (fun t_5 => (?_ : wG X 3 _ _ N t_5 (rq q) 0 0 52 [] []))
  exact wG_vret C dX1_goBy_52 ⟨by decide, by decide⟩ (fun _ e => e)
theorem c_X1_goBy (l : Launch) (E : wE) (N : Nat) (q : Qp) (hN : 137 ≤ N) (h : Hp) (x1 : Int32) : ∀ z, f_X1_goBy h x1 = some z → CT l E yX1_goBy cX1_goBy 3 none rm_X1_goBy [.ref (eB E + 7), .int x1] N h (rq q) ((fun u => (none, N, u, (rq q))) z) := CT.of (by decide +kernel) (Nat.le_of_ble_eq_true rfl) (fun X _ e C => by subst e; exact w_X1_goBy C hN h x1)
def rm_X11_pass : Room := { frames := 3, cells := 0, slots := 0, locals := 66 }
def f_X11_pass (h : Hp) (x1 : Int32) : Option (Int32 × Hp) :=
  (if x1 < 1 then
  some ((-2), h)
  else
  (if (999 : Int32) < x1 then
  some ((-2), h)
  else
  (if ((h 7 4) + x1) ≤ 9999 then
  (f_X1_goBy h x1).bind fun u_1 =>
  some ((u_1 7 4), u_1)
  else
  some ((-2), h))))
set_option maxRecDepth 4000 in
theorem w_X11_pass {X : wX} (C : Cx X yX11_pass cX11_pass 2 (some .int) rm_X11_pass) {N : Nat} {q : Qp} (hN : 137 ≤ N) (h : Hp) (x1 : Int32) : wG X 2 (eM X (fun u => (some (.int u.1), N, u.2, (rq q)))) (f_X11_pass h x1) N h (rq q) 0 0 0 [(0, .ref (xB X + 0)), (1, .int x1)] [] := by
  refine wG_of (f_X11_pass.eq_1 ..) ?_
  refine wG_iload_n C dX11_pass_0 1 rfl ?_
  refine wG_iconst C dX11_pass_1 (v := 1) (by decide) ?_
  refine wG_icmp_lt C dX11_pass_2 ?_ ?_
  · refine wG_bipush C dX11_pass_27 (v := (-2)) (by decide) ?_
    exact wG_iret C dX11_pass_29 ⟨by decide, by decide⟩ (fun _ e => e)
  · refine wG_iload_n C dX11_pass_5 1 rfl ?_
    refine wG_sipush C dX11_pass_6 (v := 999) (by decide) ?_
    refine wG_icmp_gt C dX11_pass_9 ?_ ?_
    · refine wG_bipush C dX11_pass_27 (v := (-2)) (by decide) ?_
      exact wG_iret C dX11_pass_29 ⟨by decide, by decide⟩ (fun _ e => e)
    · refine wG_aload_n C dX11_pass_12 0 rfl ?_
      refine wG_getR C fl_X11_28_11 rfl kd_0 (wll hN (by decide)) (rf_0_2 q) dX11_pass_13 ?_
      refine wG_getI C fl_X11_170_1 rfl kd_7 (wll hN (by decide)) dX11_pass_16 ?_
      refine wG_iload_n C dX11_pass_19 1 rfl ?_
      refine wG_iadd C dX11_pass_20 ?_
      refine wG_sipush C dX11_pass_21 (v := 9999) (by decide) ?_
      refine wG_icmp_le C dX11_pass_24 ?_ ?_
      · refine wG_aload_n C dX11_pass_30 0 rfl ?_
        refine wG_getR C fl_X11_28_11 rfl kd_0 (wll hN (by decide)) (rf_0_2 q) dX11_pass_31 ?_
        refine wG_iload_n C dX11_pass_34 1 rfl ?_
        refine wG_cV_wv [.int x1] [] C vw_X11_173 (c_X1_goBy (xl X) (xE X) N q hN h x1) kd_7 (wll hN (by decide)) (by decide) rfl rfl (Nat.le_of_ble_eq_true rfl) dX11_pass_35 (cl' := 0) (sl' := 0) rfl rfl (fun u_1 => ?_)
        refine wG_aload_n C dX11_pass_38 0 rfl ?_
        refine wG_getR C fl_X11_28_11 rfl kd_0 (wll hN (by decide)) (rf_0_2 q) dX11_pass_39 ?_
        refine wG_getI C fl_X11_170_1 rfl kd_7 (wll hN (by decide)) dX11_pass_42 ?_
        exact wG_iret C dX11_pass_45 ⟨by decide, by decide⟩ (fun _ e => e)
      · refine wG_bipush C dX11_pass_27 (v := (-2)) (by decide) ?_
        exact wG_iret C dX11_pass_29 ⟨by decide, by decide⟩ (fun _ e => e)
theorem c_X11_pass (l : Launch) (E : wE) (N : Nat) (q : Qp) (hN : 137 ≤ N) (h : Hp) (x1 : Int32) : ∀ z, f_X11_pass h x1 = some z → CT l E yX11_pass cX11_pass 2 (some .int) rm_X11_pass [.ref (eB E + 0), .int x1] N h (rq q) ((fun u => (some (.int u.1), N, u.2, (rq q))) z) := CT.of (by decide +kernel) (Nat.le_of_ble_eq_true rfl) (fun X _ e C => by subst e; exact w_X11_pass C hN h x1)
def rm_X11_wrap : Room := { frames := 2, cells := 0, slots := 0, locals := 42 }
def f_X11_wrap (h : Hp) (x1 : Int32) (x2 : Int32) : Option (Int32 × Hp) :=
  (f_X1_stillHas h x1).bind fun u_1 =>
  (if u_1 = 0 then
  some ((-1), h)
  else
  (if x2 < 0 then
  some ((-2), h)
  else
  (if x2 < 3 then
  if inB x1 24 then vB (10 + ix x1) fun a_2 =>
  vB (h a_2 7) fun (x3_3 : Int32) =>
  if inB x1 24 then vB (10 + ix x1) fun a_4 =>
  vB (u2 h a_4 7 x2) fun h_5 =>
  some (x3_3, h_5) else none else none
  else
  some ((-2), h))))
set_option maxRecDepth 4000 in
theorem w_X11_wrap {X : wX} (C : Cx X yX11_wrap cX11_wrap 4 (some .int) rm_X11_wrap) {N : Nat} {q : Qp} (hN : 137 ≤ N) (h : Hp) (x1 : Int32) (x2 : Int32) : wG X 4 (eM X (fun u => (some (.int u.1), N, u.2, (rq q)))) (f_X11_wrap h x1 x2) N h (rq q) 0 0 0 [(0, .ref (xB X + 0)), (1, .int x1), (2, .int x2)] [] := by
  refine wG_of (f_X11_wrap.eq_1 ..) ?_
  refine wG_aload_n C dX11_wrap_0 0 rfl ?_
  refine wG_getR C fl_X11_28_11 rfl kd_0 (wll hN (by decide)) (rf_0_2 q) dX11_wrap_1 ?_
  refine wG_iload_n C dX11_wrap_4 1 rfl ?_
  refine wG_cV_ri [.int x1] [] C vw_X11_122 (c_X1_stillHas (xl X) (xE X) N q hN h x1) kd_7 (wll hN (by decide)) (by decide) rfl rfl (Nat.le_of_ble_eq_true rfl) dX11_wrap_5 (cl' := 0) (sl' := 0) rfl rfl (fun u_1 => ?_)
  refine wG_if_ne C dX11_wrap_8 ?_ ?_
  · refine wG_iconst C dX11_wrap_11 (v := (-1)) (by decide) ?_
    exact wG_iret C dX11_wrap_12 ⟨by decide, by decide⟩ (fun _ e => e)
  · refine wG_iload_n C dX11_wrap_13 2 rfl ?_
    refine wG_if_lt C dX11_wrap_14 ?_ ?_
    · refine wG_bipush C dX11_wrap_25 (v := (-2)) (by decide) ?_
      exact wG_iret C dX11_wrap_27 ⟨by decide, by decide⟩ (fun _ e => e)
    · refine wG_iload_n C dX11_wrap_17 2 rfl ?_
      refine wG_gs C (n := "DRYING") m_562 C.sta.2.1 dX11_wrap_18 ?_
      refine wG_alS C C.sta.2.2.2 dX11_wrap_21 ?_
      refine wG_icmp_lt C dX11_wrap_22 ?_ ?_
      · refine wG_aload_n C dX11_wrap_28 0 rfl ?_
        refine wG_getR C fl_X11_28_11 rfl kd_0 (wll hN (by decide)) (rf_0_2 q) dX11_wrap_29 ?_
        refine wG_getR C fl_X11_126_1 rfl kd_7 (wll hN (by decide)) (rf_7_1 q) dX11_wrap_32 ?_
        refine wG_iload_n C dX11_wrap_35 1 rfl ?_
        refine wG_aaP C hN kd_7 rfl rfl dX11_wrap_36 (fun a_2 hk_a_2 => ?_)
        refine wG_getI C fl_X11_160_7 rfl hk_a_2 (wlt hN hk_a_2 (by decide)) dX11_wrap_37 ?_
        refine wG_nmI (fun x3_3 => ?_)
        refine wG_istore_n C (L' := [(0, .ref (xB X + 0)), (1, .int x1), (2, .int x2), (3, .int x3_3)]) dX11_wrap_40 (by decide) [1, 2, 3, 0] rfl ?_
        refine wG_aload_n C dX11_wrap_41 0 rfl ?_
        refine wG_getR C fl_X11_28_11 rfl kd_0 (wll hN (by decide)) (rf_0_2 q) dX11_wrap_42 ?_
        refine wG_getR C fl_X11_126_1 rfl kd_7 (wll hN (by decide)) (rf_7_1 q) dX11_wrap_45 ?_
        refine wG_iload_n C dX11_wrap_48 1 rfl ?_
        refine wG_aaP C hN kd_7 rfl rfl dX11_wrap_49 (fun a_4 hk_a_4 => ?_)
        refine wG_iload_n C dX11_wrap_50 2 rfl ?_
        refine wG_putI C fl_X11_160_7 (fp_7_7 _) (fun e => Bool.noConfusion e) rfl hk_a_4 (wlt hN hk_a_4 (by decide)) dX11_wrap_51 (fun h_5 => ?_)
        refine wG_iload_n C dX11_wrap_54 3 rfl ?_
        exact wG_iret C dX11_wrap_55 ⟨by decide, by decide⟩ (fun _ e => e)
      · refine wG_bipush C dX11_wrap_25 (v := (-2)) (by decide) ?_
        exact wG_iret C dX11_wrap_27 ⟨by decide, by decide⟩ (fun _ e => e)
theorem c_X11_wrap (l : Launch) (E : wE) (N : Nat) (q : Qp) (hN : 137 ≤ N) (h : Hp) (x1 : Int32) (x2 : Int32) : ∀ z, f_X11_wrap h x1 x2 = some z → CT l E yX11_wrap cX11_wrap 4 (some .int) rm_X11_wrap [.ref (eB E + 0), .int x1, .int x2] N h (rq q) ((fun u => (some (.int u.1), N, u.2, (rq q))) z) := CT.of (by decide +kernel) (Nat.le_of_ble_eq_true rfl) (fun X _ e C => by subst e; exact w_X11_wrap C hN h x1 x2)
def rm_X7_shave : Room := { frames := 2, cells := 0, slots := 0, locals := 42 }
def f_X7_shave (h : Hp) (a0 : Nat) : Option Hp :=
  (f_X7_dried h a0).bind fun u_1 =>
  (f_X7_bareEdges h a0).bind fun u_2 =>
  vB (u2 h a0 8 ((h a0 8) + ((u_1 / 40) + u_2))) fun h_3 =>
  (f_X7_dryAnew h_3 a0).bind fun u_4 =>
  some u_4
set_option maxRecDepth 4000 in
theorem w_X7_shave {X : wX} (C : Cx X yX7_shave cX7_shave 2 none rm_X7_shave) {N : Nat} {q : Qp} (hN : 137 ≤ N) (h : Hp) (a0 : Nat) (hk_a0 : Kd a0 = 7) : wG X 2 (eM X (fun u => (none, N, u, (rq q)))) (f_X7_shave h a0) N h (rq q) 0 0 0 [(0, .ref (xB X + a0)), (1, .ref (xB X + 3))] [] := by
  refine wG_of (f_X7_shave.eq_1 ..) ?_
  refine wG_aload_n C dX7_shave_0 0 rfl ?_
  refine wG_dup C dX7_shave_1 rfl ?_
  refine wG_getI C fl_X7_47_7 rfl hk_a0 (wlt hN hk_a0 (by decide)) dX7_shave_2 ?_
  refine wG_aload_n C dX7_shave_5 0 rfl ?_
  refine wG_cV_ri [] [.int (h a0 8), .ref (xB X + a0)] C vw_X7_79 (c_X7_dried (xl X) (xE X) N q hN h a0 hk_a0) hk_a0 (wlt hN hk_a0 (by decide)) (by decide) rfl rfl (Nat.le_of_ble_eq_true rfl) dX7_shave_6 (cl' := 0) (sl' := 0) rfl rfl (fun u_1 => ?_)
  refine wG_bipush C dX7_shave_9 (v := 40) (by decide) ?_
  refine wG_idivK C dX7_shave_11 (by decide) ?_
  refine wG_aload_n C dX7_shave_12 0 rfl ?_
  refine wG_aload_n C dX7_shave_13 1 rfl ?_
  refine wG_cV_ri [.ref (xB X + 3)] [.int (u_1 / 40), .int (h a0 8), .ref (xB X + a0)] C vw_X7_92 (c_X7_bareEdges (xl X) (xE X) N q hN h a0 hk_a0) hk_a0 (wlt hN hk_a0 (by decide)) (by decide) rfl rfl (Nat.le_of_ble_eq_true rfl) dX7_shave_14 (cl' := 0) (sl' := 0) rfl rfl (fun u_2 => ?_)
  refine wG_iadd C dX7_shave_17 ?_
  refine wG_iadd C dX7_shave_18 ?_
  refine wG_putI C fl_X7_47_7 (fp_7_8 _) (fun e => Bool.noConfusion e) rfl hk_a0 (wlt hN hk_a0 (by decide)) dX7_shave_19 (fun h_3 => ?_)
  refine wG_aload_n C dX7_shave_22 0 rfl ?_
  refine wG_cV_wv [] [] C vw_X7_50 (c_X7_dryAnew (xl X) (xE X) N (rq q) (Nat.le_trans (by decide) hN) ⟨rf_3_0 q, rf_3_1 q, rf_3_2 q⟩ h_3 a0 hk_a0 (wlt hN hk_a0 (by decide))) hk_a0 (wlt hN hk_a0 (by decide)) (by decide) rfl rfl (Nat.le_of_ble_eq_true rfl) dX7_shave_23 (cl' := 0) (sl' := 0) rfl rfl (fun u_4 => ?_)
  exact wG_vret C dX7_shave_26 ⟨by decide, by decide⟩ (fun _ e => e)
theorem c_X7_shave (l : Launch) (E : wE) (N : Nat) (q : Qp) (hN : 137 ≤ N) (h : Hp) (a0 : Nat) (hk_a0 : Kd a0 = 7) : ∀ z, f_X7_shave h a0 = some z → CT l E yX7_shave cX7_shave 2 none rm_X7_shave [.ref (eB E + a0), .ref (eB E + 3)] N h (rq q) ((fun u => (none, N, u, (rq q))) z) := CT.of (by decide +kernel) (Nat.le_of_ble_eq_true rfl) (fun X _ e C => by subst e; exact w_X7_shave C hN h a0 hk_a0)
def rm_X11_trim : Room := { frames := 3, cells := 0, slots := 0, locals := 63 }
def f_X11_trim (h : Hp) (x1 : Int32) : Option (Int32 × Hp) :=
  (f_X1_stillHas h x1).bind fun u_1 =>
  (if u_1 = 0 then
  some ((-1), h)
  else
  if inB x1 24 then vB (10 + ix x1) fun a_2 =>
  (f_X7_weight h a_2).bind fun u_3 =>
  vB u_3 fun (x2_4 : Int32) =>
  if inB x1 24 then vB (10 + ix x1) fun a_5 =>
  (f_X7_shave h a_5).bind fun u_6 =>
  if inB x1 24 then vB (10 + ix x1) fun a_7 =>
  (f_X7_weight u_6 a_7).bind fun u_8 =>
  some ((x2_4 - u_8), u_6) else none else none else none)
set_option maxRecDepth 4000 in
theorem w_X11_trim {X : wX} (C : Cx X yX11_trim cX11_trim 3 (some .int) rm_X11_trim) {N : Nat} {q : Qp} (hN : 137 ≤ N) (h : Hp) (x1 : Int32) : wG X 3 (eM X (fun u => (some (.int u.1), N, u.2, (rq q)))) (f_X11_trim h x1) N h (rq q) 0 0 0 [(0, .ref (xB X + 0)), (1, .int x1)] [] := by
  refine wG_of (f_X11_trim.eq_1 ..) ?_
  refine wG_aload_n C dX11_trim_0 0 rfl ?_
  refine wG_getR C fl_X11_28_11 rfl kd_0 (wll hN (by decide)) (rf_0_2 q) dX11_trim_1 ?_
  refine wG_iload_n C dX11_trim_4 1 rfl ?_
  refine wG_cV_ri [.int x1] [] C vw_X11_122 (c_X1_stillHas (xl X) (xE X) N q hN h x1) kd_7 (wll hN (by decide)) (by decide) rfl rfl (Nat.le_of_ble_eq_true rfl) dX11_trim_5 (cl' := 0) (sl' := 0) rfl rfl (fun u_1 => ?_)
  refine wG_if_ne C dX11_trim_8 ?_ ?_
  · refine wG_iconst C dX11_trim_11 (v := (-1)) (by decide) ?_
    exact wG_iret C dX11_trim_12 ⟨by decide, by decide⟩ (fun _ e => e)
  · refine wG_aload_n C dX11_trim_13 0 rfl ?_
    refine wG_getR C fl_X11_28_11 rfl kd_0 (wll hN (by decide)) (rf_0_2 q) dX11_trim_14 ?_
    refine wG_getR C fl_X11_126_1 rfl kd_7 (wll hN (by decide)) (rf_7_1 q) dX11_trim_17 ?_
    refine wG_iload_n C dX11_trim_20 1 rfl ?_
    refine wG_aaP C hN kd_7 rfl rfl dX11_trim_21 (fun a_2 hk_a_2 => ?_)
    refine wG_cV_ri [] [] C vw_X11_167 (c_X7_weight (xl X) (xE X) N q hN h a_2 hk_a_2) hk_a_2 (wlt hN hk_a_2 (by decide)) (by decide) rfl rfl (Nat.le_of_ble_eq_true rfl) dX11_trim_22 (cl' := 0) (sl' := 0) rfl rfl (fun u_3 => ?_)
    refine wG_nmI (fun x2_4 => ?_)
    refine wG_istore_n C (L' := [(0, .ref (xB X + 0)), (1, .int x1), (2, .int x2_4)]) dX11_trim_25 (by decide) [1, 2, 0] rfl ?_
    refine wG_aload_n C dX11_trim_26 0 rfl ?_
    refine wG_getR C fl_X11_28_11 rfl kd_0 (wll hN (by decide)) (rf_0_2 q) dX11_trim_27 ?_
    refine wG_getR C fl_X11_126_1 rfl kd_7 (wll hN (by decide)) (rf_7_1 q) dX11_trim_30 ?_
    refine wG_iload_n C dX11_trim_33 1 rfl ?_
    refine wG_aaP C hN kd_7 rfl rfl dX11_trim_34 (fun a_5 hk_a_5 => ?_)
    refine wG_aload_n C dX11_trim_35 0 rfl ?_
    refine wG_getR C fl_X11_19_11 rfl kd_0 (wll hN (by decide)) (rf_0_1 q) dX11_trim_36 ?_
    refine wG_cV_wv [.ref (xB X + 3)] [] C vw_X11_181 (c_X7_shave (xl X) (xE X) N q hN h a_5 hk_a_5) hk_a_5 (wlt hN hk_a_5 (by decide)) (by decide) rfl rfl (Nat.le_of_ble_eq_true rfl) dX11_trim_39 (cl' := 0) (sl' := 0) rfl rfl (fun u_6 => ?_)
    refine wG_iload_n C dX11_trim_42 2 rfl ?_
    refine wG_aload_n C dX11_trim_43 0 rfl ?_
    refine wG_getR C fl_X11_28_11 rfl kd_0 (wll hN (by decide)) (rf_0_2 q) dX11_trim_44 ?_
    refine wG_getR C fl_X11_126_1 rfl kd_7 (wll hN (by decide)) (rf_7_1 q) dX11_trim_47 ?_
    refine wG_iload_n C dX11_trim_50 1 rfl ?_
    refine wG_aaP C hN kd_7 rfl rfl dX11_trim_51 (fun a_7 hk_a_7 => ?_)
    refine wG_cV_ri [] [.int x2_4] C vw_X11_167 (c_X7_weight (xl X) (xE X) N q hN u_6 a_7 hk_a_7) hk_a_7 (wlt hN hk_a_7 (by decide)) (by decide) rfl rfl (Nat.le_of_ble_eq_true rfl) dX11_trim_52 (cl' := 0) (sl' := 0) rfl rfl (fun u_8 => ?_)
    refine wG_isub C dX11_trim_55 ?_
    exact wG_iret C dX11_trim_56 ⟨by decide, by decide⟩ (fun _ e => e)
theorem c_X11_trim (l : Launch) (E : wE) (N : Nat) (q : Qp) (hN : 137 ≤ N) (h : Hp) (x1 : Int32) : ∀ z, f_X11_trim h x1 = some z → CT l E yX11_trim cX11_trim 3 (some .int) rm_X11_trim [.ref (eB E + 0), .int x1] N h (rq q) ((fun u => (some (.int u.1), N, u.2, (rq q))) z) := CT.of (by decide +kernel) (Nat.le_of_ble_eq_true rfl) (fun X _ e C => by subst e; exact w_X11_trim C hN h x1)
def rm_X11_sell : Room := { frames := 2, cells := 0, slots := 0, locals := 43 }
def f_X11_sell (h : Hp) (x1 : Int32) (x2 : Int32) : Option (Int32 × Hp) :=
  (f_X1_stillHas h x1).bind fun u_1 =>
  (if u_1 = 0 then
  some ((-1), h)
  else
  if inB x1 24 then vB (10 + ix x1) fun a_2 =>
  ((if x2 = 0 then
  some 1
  else
  some 2)).bind fun t_3 =>
  vB (u2 h a_2 6 t_3) fun h_4 =>
  if inB x1 24 then vB (10 + ix x1) fun a_5 =>
  (f_X7_weight h_4 a_5).bind fun u_6 =>
  some (u_6, h_4) else none else none)
set_option maxRecDepth 4000 in
theorem w_X11_sell {X : wX} (C : Cx X yX11_sell cX11_sell 3 (some .int) rm_X11_sell) {N : Nat} {q : Qp} (hN : 137 ≤ N) (h : Hp) (x1 : Int32) (x2 : Int32) : wG X 3 (eM X (fun u => (some (.int u.1), N, u.2, (rq q)))) (f_X11_sell h x1 x2) N h (rq q) 0 0 0 [(0, .ref (xB X + 0)), (1, .int x1), (2, .int x2)] [] := by
  refine wG_of (f_X11_sell.eq_1 ..) ?_
  refine wG_aload_n C dX11_sell_0 0 rfl ?_
  refine wG_getR C fl_X11_28_11 rfl kd_0 (wll hN (by decide)) (rf_0_2 q) dX11_sell_1 ?_
  refine wG_iload_n C dX11_sell_4 1 rfl ?_
  refine wG_cV_ri [.int x1] [] C vw_X11_122 (c_X1_stillHas (xl X) (xE X) N q hN h x1) kd_7 (wll hN (by decide)) (by decide) rfl rfl (Nat.le_of_ble_eq_true rfl) dX11_sell_5 (cl' := 0) (sl' := 0) rfl rfl (fun u_1 => ?_)
  refine wG_if_ne C dX11_sell_8 ?_ ?_
  · refine wG_iconst C dX11_sell_11 (v := (-1)) (by decide) ?_
    exact wG_iret C dX11_sell_12 ⟨by decide, by decide⟩ (fun _ e => e)
  · refine wG_aload_n C dX11_sell_13 0 rfl ?_
    refine wG_getR C fl_X11_28_11 rfl kd_0 (wll hN (by decide)) (rf_0_2 q) dX11_sell_14 ?_
    refine wG_getR C fl_X11_126_1 rfl kd_7 (wll hN (by decide)) (rf_7_1 q) dX11_sell_17 ?_
    refine wG_iload_n C dX11_sell_20 1 rfl ?_
    refine wG_aaP C hN kd_7 rfl rfl dX11_sell_21 (fun a_2 hk_a_2 => ?_)
    refine wG_iload_n C dX11_sell_22 2 rfl ?_
    refine wG_bind (J := (fun (t_3 : Int32) Q => gQ X 3 Q N h (rq q) 0 0 31 [(0, .ref (xB X + 0)), (1, .int x1)] [.int t_3, .ref (xB X + a_2)])) ?_ (fun t_3 => (?_ : wG X 3 _ _ N h (rq q) 0 0 31 [(0, .ref (xB X + 0)), (1, .int x1)] [.int t_3, .ref (xB X + a_2)]))
    · refine wG_if_eq C dX11_sell_23 ?_ ?_
      · refine wG_iconst C dX11_sell_30 (v := 1) (by decide) ?_
        exact wG_exit (fun Q e => gQ_lv [0, 1] rfl e)
      · refine wG_iconst C dX11_sell_26 (v := 2) (by decide) ?_
        refine wG_goto C dX11_sell_27 ?_
        exact wG_exit (fun Q e => gQ_lv [0, 1] rfl e)
    · refine wG_putI C fl_X11_144_7 (fp_7_6 _) (fun e => Bool.noConfusion e) rfl hk_a_2 (wlt hN hk_a_2 (by decide)) dX11_sell_31 (fun h_4 => ?_)
      refine wG_aload_n C dX11_sell_34 0 rfl ?_
      refine wG_getR C fl_X11_28_11 rfl kd_0 (wll hN (by decide)) (rf_0_2 q) dX11_sell_35 ?_
      refine wG_getR C fl_X11_126_1 rfl kd_7 (wll hN (by decide)) (rf_7_1 q) dX11_sell_38 ?_
      refine wG_iload_n C dX11_sell_41 1 rfl ?_
      refine wG_aaP C hN kd_7 rfl rfl dX11_sell_42 (fun a_5 hk_a_5 => ?_)
      refine wG_cV_ri [] [] C vw_X11_167 (c_X7_weight (xl X) (xE X) N q hN h_4 a_5 hk_a_5) hk_a_5 (wlt hN hk_a_5 (by decide)) (by decide) rfl rfl (Nat.le_of_ble_eq_true rfl) dX11_sell_43 (cl' := 0) (sl' := 0) rfl rfl (fun u_6 => ?_)
      exact wG_iret C dX11_sell_46 ⟨by decide, by decide⟩ (fun _ e => e)
theorem c_X11_sell (l : Launch) (E : wE) (N : Nat) (q : Qp) (hN : 137 ≤ N) (h : Hp) (x1 : Int32) (x2 : Int32) : ∀ z, f_X11_sell h x1 x2 = some z → CT l E yX11_sell cX11_sell 3 (some .int) rm_X11_sell [.ref (eB E + 0), .int x1, .int x2] N h (rq q) ((fun u => (some (.int u.1), N, u.2, (rq q))) z) := CT.of (by decide +kernel) (Nat.le_of_ble_eq_true rfl) (fun X _ e C => by subst e; exact w_X11_sell C hN h x1 x2)
def rm_X11_isAsk : Room := { frames := 0, cells := 0, slots := 0, locals := 0 }
def f_X11_isAsk (x0 : Int32) (x1 : Int32) (x2 : Int32) : Option Int32 :=
  (if x0 < 1 then
  some 0
  else
  (if (360 : Int32) < x0 then
  some 0
  else
  (if x1 < 0 then
  some 0
  else
  (if (99 : Int32) < x1 then
  some 0
  else
  (if x2 < 0 then
  some 0
  else
  (if (36 : Int32) < x2 then
  some 0
  else
  some 1))))))
set_option maxRecDepth 4000 in
theorem w_X11_isAsk {X : wX} (C : Cx X yX11_isAsk cX11_isAsk 3 (some .boolean) rm_X11_isAsk) {N : Nat} {q : Qp} (hN : 137 ≤ N) (h : Hp) (x0 : Int32) (x1 : Int32) (x2 : Int32) : wG X 3 (eM X (fun u => (some (.int u), N, h, (rq q)))) (f_X11_isAsk x0 x1 x2) N h (rq q) 0 0 0 [(0, .int x0), (1, .int x1), (2, .int x2)] [] := by
  refine wG_of (f_X11_isAsk.eq_1 ..) ?_
  refine wG_iload_n C dX11_isAsk_0 0 rfl ?_
  refine wG_iconst C dX11_isAsk_1 (v := 1) (by decide) ?_
  refine wG_icmp_lt C dX11_isAsk_2 ?_ ?_
  · refine wG_iconst C dX11_isAsk_36 (v := 0) (by decide) ?_
    exact wG_zret C dX11_isAsk_37 rfl ⟨by decide, by decide⟩ (fun _ e => e)
  · refine wG_iload_n C dX11_isAsk_5 0 rfl ?_
    refine wG_sipush C dX11_isAsk_6 (v := 360) (by decide) ?_
    refine wG_icmp_gt C dX11_isAsk_9 ?_ ?_
    · refine wG_iconst C dX11_isAsk_36 (v := 0) (by decide) ?_
      exact wG_zret C dX11_isAsk_37 rfl ⟨by decide, by decide⟩ (fun _ e => e)
    · refine wG_iload_n C dX11_isAsk_12 1 rfl ?_
      refine wG_if_lt C dX11_isAsk_13 ?_ ?_
      · refine wG_iconst C dX11_isAsk_36 (v := 0) (by decide) ?_
        exact wG_zret C dX11_isAsk_37 rfl ⟨by decide, by decide⟩ (fun _ e => e)
      · refine wG_iload_n C dX11_isAsk_16 1 rfl ?_
        refine wG_bipush C dX11_isAsk_17 (v := 99) (by decide) ?_
        refine wG_icmp_gt C dX11_isAsk_19 ?_ ?_
        · refine wG_iconst C dX11_isAsk_36 (v := 0) (by decide) ?_
          exact wG_zret C dX11_isAsk_37 rfl ⟨by decide, by decide⟩ (fun _ e => e)
        · refine wG_iload_n C dX11_isAsk_22 2 rfl ?_
          refine wG_if_lt C dX11_isAsk_23 ?_ ?_
          · refine wG_iconst C dX11_isAsk_36 (v := 0) (by decide) ?_
            exact wG_zret C dX11_isAsk_37 rfl ⟨by decide, by decide⟩ (fun _ e => e)
          · refine wG_iload_n C dX11_isAsk_26 2 rfl ?_
            refine wG_bipush C dX11_isAsk_27 (v := 36) (by decide) ?_
            refine wG_icmp_gt C dX11_isAsk_29 ?_ ?_
            · refine wG_iconst C dX11_isAsk_36 (v := 0) (by decide) ?_
              exact wG_zret C dX11_isAsk_37 rfl ⟨by decide, by decide⟩ (fun _ e => e)
            · refine wG_iconst C dX11_isAsk_32 (v := 1) (by decide) ?_
              refine wG_goto C dX11_isAsk_33 ?_
              exact wG_zret C dX11_isAsk_37 rfl ⟨by decide, by decide⟩ (fun _ e => e)
theorem c_X11_isAsk (l : Launch) (E : wE) (N : Nat) (q : Qp) (hN : 137 ≤ N) (h : Hp) (x0 : Int32) (x1 : Int32) (x2 : Int32) : ∀ z, f_X11_isAsk x0 x1 x2 = some z → CT l E yX11_isAsk cX11_isAsk 3 (some .boolean) rm_X11_isAsk [.int x0, .int x1, .int x2] N h (rq q) ((fun u => (some (.int u), N, h, (rq q))) z) := CT.of (by decide +kernel) (Nat.le_of_ble_eq_true rfl) (fun X _ e C => by subst e; exact w_X11_isAsk C hN h x0 x1 x2)
def rm_X0_init : Room := { frames := 1, cells := 0, slots := 0, locals := 23 }
def f_X0_init (h : Hp) (a0 : Nat) (x1 : Int32) (x2 : Int32) (x3 : Int32) : Option Hp :=
  vB (u2 h a0 0 x1) fun h_1 =>
  vB (u2 h_1 a0 1 (x1 + x2)) fun h_2 =>
  vB (u2 h_2 a0 2 x3) fun h_3 =>
  some h_3
set_option maxRecDepth 4000 in
theorem w_X0_init {X : wX} (C : Cx X yX0_init cX0_init 4 none rm_X0_init) {N : Nat} {q : Qp} (hN : 137 ≤ N) (h : Hp) (a0 : Nat) (hk_a0 : Kd a0 = 0) (hb_a0 : a0 < N) (x1 : Int32) (x2 : Int32) (x3 : Int32) : wG X 4 (eM X (fun u => (none, N, u, (rq q)))) (f_X0_init h a0 x1 x2 x3) N h (rq q) 0 0 0 [(0, .ref (xB X + a0)), (1, .int x1), (2, .int x2), (3, .int x3)] [] := by
  refine wG_of (f_X0_init.eq_1 ..) ?_
  refine wG_aload_n C dX0_init_0 0 rfl ?_
  refine wG_obj C bw_X0_3 ⟨by decide, Nat.le_of_ble_eq_true rfl⟩ dX0_init_1 ?_
  refine wG_aload_n C dX0_init_4 0 rfl ?_
  refine wG_iload_n C dX0_init_5 1 rfl ?_
  refine wG_putI C fl_X0_9_0 fp_0_0_f (fun _ => rfl) rfl hk_a0 hb_a0 dX0_init_6 (fun h_1 => ?_)
  refine wG_aload_n C dX0_init_9 0 rfl ?_
  refine wG_iload_n C dX0_init_10 1 rfl ?_
  refine wG_iload_n C dX0_init_11 2 rfl ?_
  refine wG_iadd C dX0_init_12 ?_
  refine wG_putI C fl_X0_15_0 fp_0_1_f (fun _ => rfl) rfl hk_a0 hb_a0 dX0_init_13 (fun h_2 => ?_)
  refine wG_aload_n C dX0_init_16 0 rfl ?_
  refine wG_iload_n C dX0_init_17 3 rfl ?_
  refine wG_putI C fl_X0_18_0 fp_0_2_f (fun _ => rfl) rfl hk_a0 hb_a0 dX0_init_18 (fun h_3 => ?_)
  exact wG_vret C dX0_init_21 ⟨by decide, by decide⟩ (fun _ e => e)
theorem c_X0_init (l : Launch) (E : wE) (N : Nat) (q : Qp) (hN : 137 ≤ N) (h : Hp) (a0 : Nat) (x1 : Int32) (x2 : Int32) (x3 : Int32) (hk_a0 : Kd a0 = 0) (hb_a0 : a0 < N) : ∀ z, f_X0_init h a0 x1 x2 x3 = some z → CT l E yX0_init cX0_init 4 none rm_X0_init [.ref (eB E + a0), .int x1, .int x2, .int x3] N h (rq q) ((fun u => (none, N, u, (rq q))) z) := CT.of (by decide +kernel) (Nat.le_of_ble_eq_true rfl) (fun X _ e C => by subst e; exact w_X0_init C hN h a0 hk_a0 hb_a0 x1 x2 x3)
