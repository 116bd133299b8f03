def rm_X12_in : Room := { frames := 0, cells := 0, slots := 0, locals := 0 }
def f_X12_in (x0 : Int64) (x2 : Int64) (x4 : Int64) : Option Int32 :=
  (if (lg_cmp x0 x2) < 0 then
  some 0
  else
  (if (0 : Int32) < (lg_cmp x0 x4) then
  some 0
  else
  some 1))
set_option maxRecDepth 4000 in
theorem w_X12_in {X : wX} (C : Cx X yX12_in cX12_in 6 (some .boolean) rm_X12_in) {N : Nat} {q : Qp} (hN : 137 ≤ N) (h : Hp) (x0 : Int64) (x2 : Int64) (x4 : Int64) : wG X 6 (eM X (fun u => (some (.int u), N, h, (rq q)))) (f_X12_in x0 x2 x4) N h (rq q) 0 0 0 [(0, .long x0), (2, .long x2), (4, .long x4)] [] := by
  refine wG_of (f_X12_in.eq_1 ..) ?_
  refine wG_lload_n C dX12_in_0 0 rfl ?_
  refine wG_lload_n C dX12_in_1 1 rfl ?_
  refine wG_lcmp C dX12_in_2 ?_
  refine wG_if_lt C dX12_in_3 ?_ ?_
  · refine wG_iconst C dX12_in_17 (v := 0) (by decide) ?_
    exact wG_zret C dX12_in_18 rfl ⟨by decide, by decide⟩ (fun _ e => e)
  · refine wG_lload_n C dX12_in_6 0 rfl ?_
    refine wG_lload C dX12_in_7 2 rfl ?_
    refine wG_lcmp C dX12_in_9 ?_
    refine wG_if_gt C dX12_in_10 ?_ ?_
    · refine wG_iconst C dX12_in_17 (v := 0) (by decide) ?_
      exact wG_zret C dX12_in_18 rfl ⟨by decide, by decide⟩ (fun _ e => e)
    · refine wG_iconst C dX12_in_13 (v := 1) (by decide) ?_
      refine wG_goto C dX12_in_14 ?_
      exact wG_zret C dX12_in_18 rfl ⟨by decide, by decide⟩ (fun _ e => e)
theorem c_X12_in (l : Launch) (E : wE) (N : Nat) (q : Qp) (hN : 137 ≤ N) (h : Hp) (x0 : Int64) (x2 : Int64) (x4 : Int64) : ∀ z, f_X12_in x0 x2 x4 = some z → CT l E yX12_in cX12_in 6 (some .boolean) rm_X12_in [.long x0, .long x2, .long x4] N h (rq q) ((fun u => (some (.int u), N, h, (rq q))) z) := CT.of (by decide +kernel) (Nat.le_of_ble_eq_true rfl) (fun X _ e C => by subst e; exact w_X12_in C hN h x0 x2 x4)
def rm_X12_write : Room := { frames := 1, cells := 0, slots := 0, locals := 25 }
def L_X12_write_39 (x2 : Int64) : Nat → Int32 → Hp → Option Hp
  | 0, _, _ => none
  | n + 1, x4_4, h_5 =>
    (if x4_4 < 0 then
    some h_5
    else
    if inB (h_5 111 2) 48 then vB (u2 h_5 112 (ix (h_5 111 2)) ((x2 >>> ((8 * x4_4).toInt64 &&& 63)).toInt32 &&& 255)) fun h_7 =>
    vB (u2 h_7 111 2 ((h_7 111 2) + 1)) fun h_8 =>
    vB (x4_4 + (-1)) fun (x4_9 : Int32) =>
    L_X12_write_39 x2 n x4_9 h_8 else none)
def f_X12_write (h : Hp) (x1 : Int32) (x2 : Int64) : Option (Int32 × Hp) :=
  vB (u2 h 111 0 0) fun h_1 =>
  (f_X12_in x1.toInt64 1 8).bind fun u_2 =>
  (if u_2 = 0 then
  some ((-2), h_1)
  else
  (if ((h_1 111 2) + x1) ≤ 48 then
  vB (x1 - 1) fun (x4_3 : Int32) =>
  (L_X12_write_39 x2 FU x4_3 h_1).bind fun t_6 =>
  some ((t_6 111 2), t_6)
  else
  some ((-4), h_1)))
set_option maxRecDepth 4000 in
theorem wL_X12_write_39 {X : wX} (C : Cx X yX12_write cX12_write 5 (some .int) rm_X12_write) {N : Nat} {q : Qp} (hN : 137 ≤ N) (h : Hp) (x1 : Int32) (x2 : Int64) (h_1 : Hp) (u_2 : Int32) (x4_3 : Int32) : ∀ n x4_4 h_5, wG X 5 (fun (t_6 : Hp) Q => gQ X 5 Q N t_6 (rq q) 0 0 81 [(0, .ref (xB X + 111))] []) (L_X12_write_39 x2 n x4_4 h_5) N h_5 (rq q) 0 0 39 [(0, .ref (xB X + 111)), (2, .long x2), (4, .int x4_4)] [] := by
  intro n
  induction n with
  | zero => intro _ _; exact wG_none
  | succ n ih =>
    intro x4_4 h_5
    refine wG_of (L_X12_write_39.eq_2 ..) ?_
    refine wG_iload C dX12_write_39 2 rfl ?_
    refine wG_if_lt C dX12_write_41 ?_ ?_
    · exact wG_exit (fun Q e => gQ_lv [0] rfl e)
    · refine wG_aload_n C dX12_write_44 0 rfl ?_
      refine wG_getR C fl_X12_13_8 rfl kd_111 (wll hN (by decide)) (rf_111_1 q) dX12_write_45 ?_
      refine wG_aload_n C dX12_write_48 0 rfl ?_
      refine wG_getI C fl_X12_117_8 rfl kd_111 (wll hN (by decide)) dX12_write_49 ?_
      refine wG_lload_n C dX12_write_52 1 rfl ?_
      refine wG_bipush C dX12_write_53 (v := 8) (by decide) ?_
      refine wG_iload C dX12_write_55 2 rfl ?_
      refine wG_imul C dX12_write_57 ?_
      refine wG_lshr C dX12_write_58 ?_
      refine wG_l2i C dX12_write_59 ?_
      refine wG_sipush C dX12_write_60 (v := 255) (by decide) ?_
      refine wG_iand C dX12_write_63 ?_
      refine wG_iast C kd_112 (wll hN (by decide)) ln_112 dX12_write_64 (fun h_7 => ?_)
      refine wG_aload_n C dX12_write_65 0 rfl ?_
      refine wG_dup C dX12_write_66 rfl ?_
      refine wG_getI C fl_X12_117_8 rfl kd_111 (wll hN (by decide)) dX12_write_67 ?_
      refine wG_iconst C dX12_write_70 (v := 1) (by decide) ?_
      refine wG_iadd C dX12_write_71 ?_
      refine wG_putI C fl_X12_117_8 (fp_8_2 _) (fun e => Bool.noConfusion e) rfl kd_111 (wll hN (by decide)) dX12_write_72 (fun h_8 => ?_)
      refine wG_iinc C (v := (-1)) (LL := fun x4_9 => [(0, .ref (xB X + 111)), (2, .long x2), (4, .int x4_9)]) dX12_write_75 2 rfl (by decide) (by decide) [1, 2, 0] (fun _ => rfl) (fun x4_9 => ?_)
      refine wG_goto C dX12_write_78 ?_
      exact wG_lv [0, 1, 2] rfl (ih x4_9 h_8)
set_option maxRecDepth 4000 in
theorem w_X12_write {X : wX} (C : Cx X yX12_write cX12_write 5 (some .int) rm_X12_write) {N : Nat} {q : Qp} (hN : 137 ≤ N) (h : Hp) (x1 : Int32) (x2 : Int64) : wG X 5 (eM X (fun u => (some (.int u.1), N, u.2, (rq q)))) (f_X12_write h x1 x2) N h (rq q) 0 0 0 [(0, .ref (xB X + 111)), (1, .int x1), (2, .long x2)] [] := by
  refine wG_of (f_X12_write.eq_1 ..) ?_
  refine wG_aload_n C dX12_write_0 0 rfl ?_
  refine wG_iconst C dX12_write_1 (v := 0) (by decide) ?_
  refine wG_putI C fl_X12_1_8 (fp_8_0 _) (fun e => Bool.noConfusion e) rfl kd_111 (wll hN (by decide)) dX12_write_2 (fun h_1 => ?_)
  refine wG_iload_n C dX12_write_5 1 rfl ?_
  refine wG_i2l C dX12_write_6 ?_
  refine wG_lconst C dX12_write_7 (v := 1) (by decide) ?_
  refine wG_ldc2 C dX12_write_8 m_1150 ?_
  refine wG_cS_ri [.long x1.toInt64, .long 1, .long 8] [] C sw_X12_113 (c_X12_in (xl X) (xE X) N q hN h_1 x1.toInt64 1 8) (by decide) rfl rfl (Nat.le_of_ble_eq_true rfl) dX12_write_11 (cl' := 0) (sl' := 0) rfl rfl (fun u_2 => ?_)
  refine wG_if_ne C dX12_write_14 ?_ ?_
  · refine wG_bipush C dX12_write_17 (v := (-2)) (by decide) ?_
    exact wG_iret C dX12_write_19 ⟨by decide, by decide⟩ (fun _ e => e)
  · refine wG_aload_n C dX12_write_20 0 rfl ?_
    refine wG_getI C fl_X12_117_8 rfl kd_111 (wll hN (by decide)) dX12_write_21 ?_
    refine wG_iload_n C dX12_write_24 1 rfl ?_
    refine wG_iadd C dX12_write_25 ?_
    refine wG_bipush C dX12_write_26 (v := 48) (by decide) ?_
    refine wG_icmp_le C dX12_write_28 ?_ ?_
    · refine wG_iload_n C dX12_write_34 1 rfl ?_
      refine wG_iconst C dX12_write_35 (v := 1) (by decide) ?_
      refine wG_isub C dX12_write_36 ?_
      refine wG_nmI (fun x4_3 => ?_)
      refine wG_istore C (L' := [(0, .ref (xB X + 111)), (2, .long x2), (4, .int x4_3)]) dX12_write_37 (by decide) [1, 3, 0] rfl ?_
      refine wG_lv (L' := [(0, .ref (xB X + 111)), (2, .long x2), (4, .int x4_3)]) [0, 1, 2] rfl ?_
      refine wG_bind (wL_X12_write_39 C hN h x1 x2 h_1 u_2 x4_3 FU x4_3 h_1) (fun t_6 => (?_ : wG X 5 _ _ N t_6 (rq q) 0 0 81 [(0, .ref (xB X + 111))] []))
      refine wG_aload_n C dX12_write_81 0 rfl ?_
      refine wG_getI C fl_X12_117_8 rfl kd_111 (wll hN (by decide)) dX12_write_82 ?_
      exact wG_iret C dX12_write_85 ⟨by decide, by decide⟩ (fun _ e => e)
    · refine wG_bipush C dX12_write_31 (v := (-4)) (by decide) ?_
      exact wG_iret C dX12_write_33 ⟨by decide, by decide⟩ (fun _ e => e)
theorem c_X12_write (l : Launch) (E : wE) (N : Nat) (q : Qp) (hN : 137 ≤ N) (h : Hp) (x1 : Int32) (x2 : Int64) : ∀ z, f_X12_write h x1 x2 = some z → CT l E yX12_write cX12_write 5 (some .int) rm_X12_write [.ref (eB E + 111), .int x1, .long x2] N h (rq q) ((fun u => (some (.int u.1), N, u.2, (rq q))) z) := CT.of (by decide +kernel) (Nat.le_of_ble_eq_true rfl) (fun X _ e C => by subst e; exact w_X12_write C hN h x1 x2)
def rm_X12_wipe : Room := { frames := 0, cells := 0, slots := 0, locals := 0 }
def f_X12_wipe (h : Hp) : Option (Int32 × Hp) :=
  vB (u2 h 111 0 0) fun h_1 =>
  vB (h_1 111 2) fun (x1_2 : Int32) =>
  vB (u2 h_1 111 2 0) fun h_3 =>
  some (x1_2, h_3)
set_option maxRecDepth 4000 in
theorem w_X12_wipe {X : wX} (C : Cx X yX12_wipe cX12_wipe 2 (some .int) rm_X12_wipe) {N : Nat} {q : Qp} (hN : 137 ≤ N) (h : Hp) : wG X 2 (eM X (fun u => (some (.int u.1), N, u.2, (rq q)))) (f_X12_wipe h) N h (rq q) 0 0 0 [(0, .ref (xB X + 111))] [] := by
  refine wG_of (f_X12_wipe.eq_1 ..) ?_
  refine wG_aload_n C dX12_wipe_0 0 rfl ?_
  refine wG_iconst C dX12_wipe_1 (v := 0) (by decide) ?_
  refine wG_putI C fl_X12_1_8 (fp_8_0 _) (fun e => Bool.noConfusion e) rfl kd_111 (wll hN (by decide)) dX12_wipe_2 (fun h_1 => ?_)
  refine wG_aload_n C dX12_wipe_5 0 rfl ?_
  refine wG_getI C fl_X12_117_8 rfl kd_111 (wll hN (by decide)) dX12_wipe_6 ?_
  refine wG_nmI (fun x1_2 => ?_)
  refine wG_istore_n C (L' := [(0, .ref (xB X + 111)), (1, .int x1_2)]) dX12_wipe_9 (by decide) [1, 0] rfl ?_
  refine wG_aload_n C dX12_wipe_10 0 rfl ?_
  refine wG_iconst C dX12_wipe_11 (v := 0) (by decide) ?_
  refine wG_putI C fl_X12_117_8 (fp_8_2 _) (fun e => Bool.noConfusion e) rfl kd_111 (wll hN (by decide)) dX12_wipe_12 (fun h_3 => ?_)
  refine wG_iload_n C dX12_wipe_15 1 rfl ?_
  exact wG_iret C dX12_wipe_16 ⟨by decide, by decide⟩ (fun _ e => e)
theorem c_X12_wipe (l : Launch) (E : wE) (N : Nat) (q : Qp) (hN : 137 ≤ N) (h : Hp) : ∀ z, f_X12_wipe h = some z → CT l E yX12_wipe cX12_wipe 2 (some .int) rm_X12_wipe [.ref (eB E + 111)] N h (rq q) ((fun u => (some (.int u.1), N, u.2, (rq q))) z) := CT.of (by decide +kernel) (Nat.le_of_ble_eq_true rfl) (fun X _ e C => by subst e; exact w_X12_wipe C hN h)
def rm_X12_kind : Room := { frames := 0, cells := 0, slots := 0, locals := 0 }
def f_X12_kind (x0 : Int32) : Option Int32 :=
  (if x0 = 80 then
  some 0
  else
  (if x0 = 82 then
  some 1
  else
  (if x0 = 65 then
  some 2
  else
  some (-9))))
set_option maxRecDepth 4000 in
theorem w_X12_kind {X : wX} (C : Cx X yX12_kind cX12_kind 1 (some .int) rm_X12_kind) {N : Nat} {q : Qp} (hN : 137 ≤ N) (h : Hp) (x0 : Int32) : wG X 1 (eM X (fun u => (some (.int u), N, h, (rq q)))) (f_X12_kind x0) N h (rq q) 0 0 0 [(0, .int x0)] [] := by
  refine wG_of (f_X12_kind.eq_1 ..) ?_
  refine wG_iload_n C dX12_kind_0 0 rfl ?_
  refine wG_bipush C dX12_kind_1 (v := 80) (by decide) ?_
  refine wG_icmp_ne C dX12_kind_3 ?_ ?_
  · refine wG_iconst C dX12_kind_6 (v := 0) (by decide) ?_
    refine wG_goto C dX12_kind_7 ?_
    exact wG_iret C dX12_kind_32 ⟨by decide, by decide⟩ (fun _ e => e)
  · refine wG_iload_n C dX12_kind_10 0 rfl ?_
    refine wG_bipush C dX12_kind_11 (v := 82) (by decide) ?_
    refine wG_icmp_ne C dX12_kind_13 ?_ ?_
    · refine wG_iconst C dX12_kind_16 (v := 1) (by decide) ?_
      refine wG_goto C dX12_kind_17 ?_
      exact wG_iret C dX12_kind_32 ⟨by decide, by decide⟩ (fun _ e => e)
    · refine wG_iload_n C dX12_kind_20 0 rfl ?_
      refine wG_bipush C dX12_kind_21 (v := 65) (by decide) ?_
      refine wG_icmp_ne C dX12_kind_23 ?_ ?_
      · refine wG_iconst C dX12_kind_26 (v := 2) (by decide) ?_
        refine wG_goto C dX12_kind_27 ?_
        exact wG_iret C dX12_kind_32 ⟨by decide, by decide⟩ (fun _ e => e)
      · refine wG_bipush C dX12_kind_30 (v := (-9)) (by decide) ?_
        exact wG_iret C dX12_kind_32 ⟨by decide, by decide⟩ (fun _ e => e)
theorem c_X12_kind (l : Launch) (E : wE) (N : Nat) (q : Qp) (hN : 137 ≤ N) (h : Hp) (x0 : Int32) : ∀ z, f_X12_kind x0 = some z → CT l E yX12_kind cX12_kind 1 (some .int) rm_X12_kind [.int x0] N h (rq q) ((fun u => (some (.int u), N, h, (rq q))) z) := CT.of (by decide +kernel) (Nat.le_of_ble_eq_true rfl) (fun X _ e C => by subst e; exact w_X12_kind C hN h x0)
def rm_X12_readForm : Room := { frames := 1, cells := 0, slots := 0, locals := 20 }
def L_X12_readForm_14  (K : (Int32 × Hp) → Option (Int32 × Hp)) : Nat → Int32 → Int32 → Hp → Option (Int32 × Hp)
  | 0, _, _, _ => none
  | n + 1, x1_5, x2_6, h_7 =>
    (if (h_7 111 2) ≤ x2_6 then
    K (x1_5, h_7)
    else
    ((if (h_7 111 7) = 1 then
    some 6
    else
    some (h_7 111 8))).bind fun t_9 =>
    vB t_9 fun (x3_10 : Int32) =>
    if inB x2_6 48 then
    vK (fun (t_11 : (Int32 × Hp)) =>
    vB (x2_6 + 1) fun (x2_13 : Int32) =>
    L_X12_readForm_14 K n t_11.1 x2_13 t_11.2) fun K_12 =>
    (if (h_7 112 (ix x2_6)) = 47 then
    ((if x1_5 ≤ 0 then
    some 0
    else
    vK (fun (t_19 : Unit) =>
    some 1) fun K_20 =>
    (if (h_7 111 7) = 1 then
    K_20 ()
    else
    (if x1_5 = (h_7 111 8) then
    K_20 ()
    else
    some 0)))).bind fun t_18 =>
    vB t_18 fun (x4_21 : Int32) =>
    (if x4_21 = 0 then
    some (x2_6, h_7)
    else
    (if (h_7 111 7) = 6 then
    some (x2_6, h_7)
    else
    vB (u2 h_7 111 8 x1_5) fun h_22 =>
    vB (u2 h_22 111 7 ((h_22 111 7) + 1)) fun h_23 =>
    vB 0 fun (x1_24 : Int32) =>
    K_12 (x1_24, h_23)))
    else
    if inB x2_6 48 then
    (f_X12_kind (h_7 112 (ix x2_6))).bind fun u_14 =>
    vB u_14 fun (x4_15 : Int32) =>
    (if x4_15 = (-9) then
    some (x2_6, h_7)
    else
    (if x1_5 = x3_10 then
    some (x2_6, h_7)
    else
    if inB ((6 * ((h_7 111 7) - 1)) + x1_5) 36 then vB (u2 h_7 114 (ix ((6 * ((h_7 111 7) - 1)) + x1_5)) x4_15) fun h_16 =>
    vB (x1_5 + 1) fun (x1_17 : Int32) =>
    K_12 (x1_17, h_16) else none)) else none) else none)
def f_X12_readForm (h : Hp) : Option (Int32 × Hp) :=
  vB (u2 h 111 7 1) fun h_1 =>
  vB (u2 h_1 111 8 0) fun h_2 =>
  vB 0 fun (x1_3 : Int32) =>
  vB 0 fun (x2_4 : Int32) =>
  L_X12_readForm_14 (fun (t_8 : (Int32 × Hp)) =>
  vK (fun (t_25 : Hp) =>
  some ((t_25 111 2), t_25)) fun K_26 =>
  (if t_8.1 = 0 then
  K_26 t_8.2
  else
  vK (fun (t_27 : Unit) =>
  vB (u2 t_8.2 111 8 t_8.1) fun h_29 =>
  some ((-9), h_29)) fun K_28 =>
  (if (t_8.2 111 7) ≤ 1 then
  K_28 ()
  else
  (if (t_8.2 111 8) ≤ t_8.1 then
  K_28 ()
  else
  K_26 t_8.2)))) FU x1_3 x2_4 h_2
set_option maxRecDepth 4000 in
theorem wL_X12_readForm_14 {X : wX} (C : Cx X yX12_readForm cX12_readForm 5 (some .int) rm_X12_readForm) {N : Nat} {q : Qp} (hN : 137 ≤ N) (h : Hp) (h_1 : Hp) (h_2 : Hp) (x1_3 : Int32) (x2_4 : Int32) (K : (Int32 × Hp) → Option (Int32 × Hp)) (hK : ∀ t_8, wG X 5 (eM X (fun u => (some (.int u.1), N, u.2, (rq q)))) (K t_8) N t_8.2 (rq q) 0 0 166 [(0, .ref (xB X + 111)), (1, .int t_8.1)] []) : ∀ n x1_5 x2_6 h_7, wG X 5 (eM X (fun u => (some (.int u.1), N, u.2, (rq q)))) (L_X12_readForm_14 K n x1_5 x2_6 h_7) N h_7 (rq q) 0 0 14 [(0, .ref (xB X + 111)), (1, .int x1_5), (2, .int x2_6)] [] := by
  intro n
  induction n with
  | zero => intro _ _ _; exact wG_none
  | succ n ih =>
    intro x1_5 x2_6 h_7
    refine wG_of (L_X12_readForm_14.eq_2 ..) ?_
    refine wG_iload_n C dX12_readForm_14 2 rfl ?_
    refine wG_aload_n C dX12_readForm_15 0 rfl ?_
    refine wG_getI C fl_X12_117_8 rfl kd_111 (wll hN (by decide)) dX12_readForm_16 ?_
    refine wG_icmp_ge C dX12_readForm_19 ?_ ?_
    · exact wG_lv [0, 1] rfl (hK (x1_5, h_7))
    · refine wG_aload_n C dX12_readForm_22 0 rfl ?_
      refine wG_getI C fl_X12_120_8 rfl kd_111 (wll hN (by decide)) dX12_readForm_23 ?_
      refine wG_iconst C dX12_readForm_26 (v := 1) (by decide) ?_
      refine wG_bind (J := (fun (t_9 : Int32) Q => gQ X 5 Q N h_7 (rq q) 0 0 39 [(0, .ref (xB X + 111)), (1, .int x1_5), (2, .int x2_6)] [.int t_9])) ?_ (fun t_9 => (?_ : wG X 5 _ _ N h_7 (rq q) 0 0 39 [(0, .ref (xB X + 111)), (1, .int x1_5), (2, .int x2_6)] [.int t_9]))
      · refine wG_icmp_ne C dX12_readForm_27 ?_ ?_
        · refine wG_bipush C dX12_readForm_30 (v := 6) (by decide) ?_
          refine wG_goto C dX12_readForm_32 ?_
          exact wG_exit (fun Q e => gQ_lv [0, 1, 2] rfl e)
        · refine wG_aload_n C dX12_readForm_35 0 rfl ?_
          refine wG_getI C fl_X12_123_8 rfl kd_111 (wll hN (by decide)) dX12_readForm_36 ?_
          exact wG_exit (fun Q e => gQ_lv [0, 1, 2] rfl e)
      · refine wG_nmI (fun x3_10 => ?_)
        refine wG_istore_n C (L' := [(0, .ref (xB X + 111)), (1, .int x1_5), (2, .int x2_6), (3, .int x3_10)]) dX12_readForm_39 (by decide) [1, 2, 3, 0] rfl ?_
        refine wG_aload_n C dX12_readForm_40 0 rfl ?_
        refine wG_getR C fl_X12_13_8 rfl kd_111 (wll hN (by decide)) (rf_111_1 q) dX12_readForm_41 ?_
        refine wG_iload_n C dX12_readForm_44 2 rfl ?_
        refine wG_iald C kd_112 (wll hN (by decide)) ln_112 dX12_readForm_45 ?_
        refine wG_bipush C dX12_readForm_46 (v := 47) (by decide) ?_
        refine wG_vK (fun t_11 => (?_ : wG X 5 _ _ N t_11.2 (rq q) 0 0 160 [(0, .ref (xB X + 111)), (1, .int t_11.1), (2, .int x2_6)] [])) (fun K_12 hK_K_12 => ?_)
        · refine wG_iinc C (v := 1) (LL := fun x2_13 => [(0, .ref (xB X + 111)), (1, .int t_11.1), (2, .int x2_13)]) dX12_readForm_160 2 rfl (by decide) (by decide) [1, 2, 0] (fun _ => rfl) (fun x2_13 => ?_)
          refine wG_goto C dX12_readForm_163 ?_
          exact wG_lv [0, 1, 2] rfl (ih t_11.1 x2_13 t_11.2)
        · refine wG_icmp_ne C dX12_readForm_48 ?_ ?_
          · refine wG_iload_n C dX12_readForm_51 1 rfl ?_
            refine wG_bind (J := (fun (t_18 : Int32) Q => gQ X 5 Q N h_7 (rq q) 0 0 76 [(0, .ref (xB X + 111)), (1, .int x1_5), (2, .int x2_6)] [.int t_18])) ?_ (fun t_18 => (?_ : wG X 5 _ _ N h_7 (rq q) 0 0 76 [(0, .ref (xB X + 111)), (1, .int x1_5), (2, .int x2_6)] [.int t_18]))
            · refine wG_if_le C dX12_readForm_52 ?_ ?_
              · refine wG_iconst C dX12_readForm_75 (v := 0) (by decide) ?_
                exact wG_exit (fun Q e => gQ_lv [0, 1, 2] rfl e)
              · refine wG_aload_n C dX12_readForm_55 0 rfl ?_
                refine wG_getI C fl_X12_120_8 rfl kd_111 (wll hN (by decide)) dX12_readForm_56 ?_
                refine wG_iconst C dX12_readForm_59 (v := 1) (by decide) ?_
                refine wG_vK (fun t_19 => (?_ : wG X 5 _ _ N h_7 (rq q) 0 0 71 [(0, .ref (xB X + 111)), (1, .int x1_5), (2, .int x2_6)] [])) (fun K_20 hK_K_20 => ?_)
                · refine wG_iconst C dX12_readForm_71 (v := 1) (by decide) ?_
                  refine wG_goto C dX12_readForm_72 ?_
                  exact wG_exit (fun Q e => gQ_lv [0, 1, 2] rfl e)
                · refine wG_icmp_eq C dX12_readForm_60 ?_ ?_
                  · exact wG_lv [0, 1, 2] rfl (hK_K_20 ())
                  · refine wG_iload_n C dX12_readForm_63 1 rfl ?_
                    refine wG_aload_n C dX12_readForm_64 0 rfl ?_
                    refine wG_getI C fl_X12_123_8 rfl kd_111 (wll hN (by decide)) dX12_readForm_65 ?_
                    refine wG_icmp_ne C dX12_readForm_68 ?_ ?_
                    · exact wG_lv [0, 1, 2] rfl (hK_K_20 ())
                    · refine wG_iconst C dX12_readForm_75 (v := 0) (by decide) ?_
                      exact wG_exit (fun Q e => gQ_lv [0, 1, 2] rfl e)
            · refine wG_nmI (fun x4_21 => ?_)
              refine wG_istore C (L' := [(0, .ref (xB X + 111)), (1, .int x1_5), (2, .int x2_6), (4, .int x4_21)]) dX12_readForm_76 (by decide) [1, 2, 3, 0] rfl ?_
              refine wG_iload C dX12_readForm_78 3 rfl ?_
              refine wG_if_eq C dX12_readForm_80 ?_ ?_
              · refine wG_iload_n C dX12_readForm_92 2 rfl ?_
                exact wG_iret C dX12_readForm_93 ⟨by decide, by decide⟩ (fun _ e => e)
              · refine wG_aload_n C dX12_readForm_83 0 rfl ?_
                refine wG_getI C fl_X12_120_8 rfl kd_111 (wll hN (by decide)) dX12_readForm_84 ?_
                refine wG_bipush C dX12_readForm_87 (v := 6) (by decide) ?_
                refine wG_icmp_ne C dX12_readForm_89 ?_ ?_
                · refine wG_iload_n C dX12_readForm_92 2 rfl ?_
                  exact wG_iret C dX12_readForm_93 ⟨by decide, by decide⟩ (fun _ e => e)
                · refine wG_aload_n C dX12_readForm_94 0 rfl ?_
                  refine wG_iload_n C dX12_readForm_95 1 rfl ?_
                  refine wG_putI C fl_X12_123_8 (fp_8_8 _) (fun e => Bool.noConfusion e) rfl kd_111 (wll hN (by decide)) dX12_readForm_96 (fun h_22 => ?_)
                  refine wG_aload_n C dX12_readForm_99 0 rfl ?_
                  refine wG_dup C dX12_readForm_100 rfl ?_
                  refine wG_getI C fl_X12_120_8 rfl kd_111 (wll hN (by decide)) dX12_readForm_101 ?_
                  refine wG_iconst C dX12_readForm_104 (v := 1) (by decide) ?_
                  refine wG_iadd C dX12_readForm_105 ?_
                  refine wG_putI C fl_X12_120_8 (fp_8_7 _) (fun e => Bool.noConfusion e) rfl kd_111 (wll hN (by decide)) dX12_readForm_106 (fun h_23 => ?_)
                  refine wG_iconst C dX12_readForm_109 (v := 0) (by decide) ?_
                  refine wG_nmI (fun x1_24 => ?_)
                  refine wG_istore_n C (L' := [(0, .ref (xB X + 111)), (1, .int x1_24), (2, .int x2_6)]) dX12_readForm_110 (by decide) [1, 0, 2] rfl ?_
                  refine wG_goto C dX12_readForm_111 ?_
                  exact wG_lv [0, 1, 2] rfl (hK_K_12 (x1_24, h_23))
          · refine wG_aload_n C dX12_readForm_114 0 rfl ?_
            refine wG_getR C fl_X12_13_8 rfl kd_111 (wll hN (by decide)) (rf_111_1 q) dX12_readForm_115 ?_
            refine wG_iload_n C dX12_readForm_118 2 rfl ?_
            refine wG_iald C kd_112 (wll hN (by decide)) ln_112 dX12_readForm_119 ?_
            refine wG_cS_ri [.int (h_7 112 (ix x2_6))] [] C sw_X12_126 (c_X12_kind (xl X) (xE X) N q hN h_7 (h_7 112 (ix x2_6))) (by decide) rfl rfl (Nat.le_of_ble_eq_true rfl) dX12_readForm_120 (cl' := 0) (sl' := 0) rfl rfl (fun u_14 => ?_)
            refine wG_nmI (fun x4_15 => ?_)
            refine wG_istore C (L' := [(0, .ref (xB X + 111)), (1, .int x1_5), (2, .int x2_6), (3, .int x3_10), (4, .int x4_15)]) dX12_readForm_123 (by decide) [1, 2, 3, 4, 0] rfl ?_
            refine wG_iload C dX12_readForm_125 4 rfl ?_
            refine wG_bipush C dX12_readForm_127 (v := (-9)) (by decide) ?_
            refine wG_icmp_eq C dX12_readForm_129 ?_ ?_
            · refine wG_iload_n C dX12_readForm_137 2 rfl ?_
              exact wG_iret C dX12_readForm_138 ⟨by decide, by decide⟩ (fun _ e => e)
            · refine wG_iload_n C dX12_readForm_132 1 rfl ?_
              refine wG_iload_n C dX12_readForm_133 3 rfl ?_
              refine wG_icmp_ne C dX12_readForm_134 ?_ ?_
              · refine wG_iload_n C dX12_readForm_137 2 rfl ?_
                exact wG_iret C dX12_readForm_138 ⟨by decide, by decide⟩ (fun _ e => e)
              · refine wG_aload_n C dX12_readForm_139 0 rfl ?_
                refine wG_getR C fl_X12_26_8 rfl kd_111 (wll hN (by decide)) (rf_111_6 q) dX12_readForm_140 ?_
                refine wG_bipush C dX12_readForm_143 (v := 6) (by decide) ?_
                refine wG_aload_n C dX12_readForm_145 0 rfl ?_
                refine wG_getI C fl_X12_120_8 rfl kd_111 (wll hN (by decide)) dX12_readForm_146 ?_
                refine wG_iconst C dX12_readForm_149 (v := 1) (by decide) ?_
                refine wG_isub C dX12_readForm_150 ?_
                refine wG_imul C dX12_readForm_151 ?_
                refine wG_iload_n C dX12_readForm_152 1 rfl ?_
                refine wG_iadd C dX12_readForm_153 ?_
                refine wG_iload C dX12_readForm_154 4 rfl ?_
                refine wG_iast C kd_114 (wll hN (by decide)) ln_114 dX12_readForm_156 (fun h_16 => ?_)
                refine wG_iinc C (v := 1) (LL := fun x1_17 => [(0, .ref (xB X + 111)), (1, .int x1_17), (2, .int x2_6)]) dX12_readForm_157 1 rfl (by decide) (by decide) [1, 0, 2] (fun _ => rfl) (fun x1_17 => ?_)
                exact wG_lv [0, 1, 2] rfl (hK_K_12 (x1_17, h_16))
set_option maxRecDepth 4000 in
theorem w_X12_readForm {X : wX} (C : Cx X yX12_readForm cX12_readForm 5 (some .int) rm_X12_readForm) {N : Nat} {q : Qp} (hN : 137 ≤ N) (h : Hp) : wG X 5 (eM X (fun u => (some (.int u.1), N, u.2, (rq q)))) (f_X12_readForm h) N h (rq q) 0 0 0 [(0, .ref (xB X + 111))] [] := by
  refine wG_of (f_X12_readForm.eq_1 ..) ?_
  refine wG_aload_n C dX12_readForm_0 0 rfl ?_
  refine wG_iconst C dX12_readForm_1 (v := 1) (by decide) ?_
  refine wG_putI C fl_X12_120_8 (fp_8_7 _) (fun e => Bool.noConfusion e) rfl kd_111 (wll hN (by decide)) dX12_readForm_2 (fun h_1 => ?_)
  refine wG_aload_n C dX12_readForm_5 0 rfl ?_
  refine wG_iconst C dX12_readForm_6 (v := 0) (by decide) ?_
  refine wG_putI C fl_X12_123_8 (fp_8_8 _) (fun e => Bool.noConfusion e) rfl kd_111 (wll hN (by decide)) dX12_readForm_7 (fun h_2 => ?_)
  refine wG_iconst C dX12_readForm_10 (v := 0) (by decide) ?_
  refine wG_nmI (fun x1_3 => ?_)
  refine wG_istore_n C (L' := [(0, .ref (xB X + 111)), (1, .int x1_3)]) dX12_readForm_11 (by decide) [1, 0] rfl ?_
  refine wG_iconst C dX12_readForm_12 (v := 0) (by decide) ?_
  refine wG_nmI (fun x2_4 => ?_)
  refine wG_istore_n C (L' := [(0, .ref (xB X + 111)), (1, .int x1_3), (2, .int x2_4)]) dX12_readForm_13 (by decide) [1, 2, 0] rfl ?_
  refine wG_lv (L' := [(0, .ref (xB X + 111)), (1, .int x1_3), (2, .int x2_4)]) [0, 1, 2] rfl ?_
  refine wL_X12_readForm_14 C hN h h_1 h_2 x1_3 x2_4 _ (fun t_8 => (?_ : wG X 5 _ _ N t_8.2 (rq q) 0 0 166 [(0, .ref (xB X + 111)), (1, .int t_8.1)] [])) FU x1_3 x2_4 h_2
  refine wG_iload_n C dX12_readForm_166 1 rfl ?_
  refine wG_vK (fun t_25 => (?_ : wG X 5 _ _ N t_25 (rq q) 0 0 186 [(0, .ref (xB X + 111))] [])) (fun K_26 hK_K_26 => ?_)
  · refine wG_aload_n C dX12_readForm_186 0 rfl ?_
    refine wG_getI C fl_X12_117_8 rfl kd_111 (wll hN (by decide)) dX12_readForm_187 ?_
    exact wG_iret C dX12_readForm_190 ⟨by decide, by decide⟩ (fun _ e => e)
  · refine wG_if_eq C dX12_readForm_167 ?_ ?_
    · exact wG_lv [0] rfl (hK_K_26 t_8.2)
    · refine wG_aload_n C dX12_readForm_170 0 rfl ?_
      refine wG_getI C fl_X12_120_8 rfl kd_111 (wll hN (by decide)) dX12_readForm_171 ?_
      refine wG_iconst C dX12_readForm_174 (v := 1) (by decide) ?_
      refine wG_vK (fun t_27 => (?_ : wG X 5 _ _ N t_8.2 (rq q) 0 0 191 [(0, .ref (xB X + 111)), (1, .int t_8.1)] [])) (fun K_28 hK_K_28 => ?_)
      · refine wG_aload_n C dX12_readForm_191 0 rfl ?_
        refine wG_iload_n C dX12_readForm_192 1 rfl ?_
        refine wG_putI C fl_X12_123_8 (fp_8_8 _) (fun e => Bool.noConfusion e) rfl kd_111 (wll hN (by decide)) dX12_readForm_193 (fun h_29 => ?_)
        refine wG_bipush C dX12_readForm_196 (v := (-9)) (by decide) ?_
        exact wG_iret C dX12_readForm_198 ⟨by decide, by decide⟩ (fun _ e => e)
      · refine wG_icmp_le C dX12_readForm_175 ?_ ?_
        · exact wG_lv [0, 1] rfl (hK_K_28 ())
        · refine wG_iload_n C dX12_readForm_178 1 rfl ?_
          refine wG_aload_n C dX12_readForm_179 0 rfl ?_
          refine wG_getI C fl_X12_123_8 rfl kd_111 (wll hN (by decide)) dX12_readForm_180 ?_
          refine wG_icmp_ge C dX12_readForm_183 ?_ ?_
          · exact wG_lv [0, 1] rfl (hK_K_28 ())
          · exact wG_lv [0] rfl (hK_K_26 t_8.2)
theorem c_X12_readForm (l : Launch) (E : wE) (N : Nat) (q : Qp) (hN : 137 ≤ N) (h : Hp) : ∀ z, f_X12_readForm h = some z → CT l E yX12_readForm cX12_readForm 5 (some .int) rm_X12_readForm [.ref (eB E + 111)] N h (rq q) ((fun u => (some (.int u.1), N, u.2, (rq q))) z) := CT.of (by decide +kernel) (Nat.le_of_ble_eq_true rfl) (fun X _ e C => by subst e; exact w_X12_readForm C hN h)
def rm_X12_fault : Room := { frames := 2, cells := 0, slots := 0, locals := 44 }
def f_X12_fault (h : Hp) : Option (Int32 × Hp) :=
  vB (u2 h 111 0 0) fun h_1 =>
  (f_X12_readForm h_1).bind fun u_2 =>
  some (u_2.1, u_2.2)
set_option maxRecDepth 4000 in
theorem w_X12_fault {X : wX} (C : Cx X yX12_fault cX12_fault 1 (some .int) rm_X12_fault) {N : Nat} {q : Qp} (hN : 137 ≤ N) (h : Hp) : wG X 1 (eM X (fun u => (some (.int u.1), N, u.2, (rq q)))) (f_X12_fault h) N h (rq q) 0 0 0 [(0, .ref (xB X + 111))] [] := by
  refine wG_of (f_X12_fault.eq_1 ..) ?_
  refine wG_aload_n C dX12_fault_0 0 rfl ?_
  refine wG_iconst C dX12_fault_1 (v := 0) (by decide) ?_
  refine wG_putI C fl_X12_1_8 (fp_8_0 _) (fun e => Bool.noConfusion e) rfl kd_111 (wll hN (by decide)) dX12_fault_2 (fun h_1 => ?_)
  refine wG_aload_n C dX12_fault_5 0 rfl ?_
  refine wG_cV_wi [] [] C vw_X12_130 (c_X12_readForm (xl X) (xE X) N q hN h_1) kd_111 (wll hN (by decide)) (by decide) rfl rfl (Nat.le_of_ble_eq_true rfl) dX12_fault_6 (cl' := 0) (sl' := 0) rfl rfl (fun u_2 => ?_)
  exact wG_iret C dX12_fault_9 ⟨by decide, by decide⟩ (fun _ e => e)
theorem c_X12_fault (l : Launch) (E : wE) (N : Nat) (q : Qp) (hN : 137 ≤ N) (h : Hp) : ∀ z, f_X12_fault h = some z → CT l E yX12_fault cX12_fault 1 (some .int) rm_X12_fault [.ref (eB E + 111)] N h (rq q) ((fun u => (some (.int u.1), N, u.2, (rq q))) z) := CT.of (by decide +kernel) (Nat.le_of_ble_eq_true rfl) (fun X _ e C => by subst e; exact w_X12_fault C hN h)
def rm_X12_begin : Room := { frames := 0, cells := 0, slots := 0, locals := 0 }
def L_X12_begin_62  : Nat → Int32 → Hp → Option Hp
  | 0, _, _ => none
  | n + 1, x1_10, h_11 =>
    (if (4 : Int32) ≤ x1_10 then
    some h_11
    else
    if inB x1_10 96 then vB (u2 h_11 122 (ix x1_10) 0) fun h_13 =>
    vB (x1_10 + 1) fun (x1_14 : Int32) =>
    L_X12_begin_62 n x1_14 h_13 else none)
def f_X12_begin (h : Hp) : Option Hp :=
  vB (u2 h 111 9 1) fun h_1 =>
  if inB 0 24 then vB (u2 h_1 115 (ix 0) 0) fun h_2 =>
  if inB 0 24 then vB (u2 h_2 116 (ix 0) 0) fun h_3 =>
  if inB 0 24 then vB (u2 h_3 117 (ix 0) (h_3 111 4)) fun h_4 =>
  if inB 0 24 then vB (u2 h_4 118 (ix 0) (h_4 111 5)) fun h_5 =>
  if inB 0 24 then vB (u2 h_5 119 (ix 0) 0) fun h_6 =>
  if inB 0 24 then vB (u2 h_6 120 (ix 0) 0) fun h_7 =>
  if inB 0 24 then vB (u2 h_7 121 (ix 0) 0) fun h_8 =>
  vB 0 fun (x1_9 : Int32) =>
  (L_X12_begin_62 FU x1_9 h_8).bind fun t_12 =>
  vB (u2 t_12 111 18 0) fun h_15 =>
  if inB 0 2 then vB (u2 h_15 125 (ix 0) 0) fun h_16 =>
  if inB 1 2 then vB (u2 h_16 125 (ix 1) 0) fun h_17 =>
  vB (u2 h_17 111 35 0) fun h_18 =>
  some h_18 else none else none else none else none else none else none else none else none else none
set_option maxRecDepth 4000 in
theorem wL_X12_begin_62 {X : wX} (C : Cx X yX12_begin cX12_begin 2 none rm_X12_begin) {N : Nat} {q : Qp} (hN : 137 ≤ N) (h : Hp) (h_1 : Hp) (h_2 : Hp) (h_3 : Hp) (h_4 : Hp) (h_5 : Hp) (h_6 : Hp) (h_7 : Hp) (h_8 : Hp) (x1_9 : Int32) : ∀ n x1_10 h_11, wG X 2 (fun (t_12 : Hp) Q => gQ X 2 Q N t_12 (rq q) 0 0 80 [(0, .ref (xB X + 111))] []) (L_X12_begin_62 n x1_10 h_11) N h_11 (rq q) 0 0 62 [(0, .ref (xB X + 111)), (1, .int x1_10)] [] := by
  intro n
  induction n with
  | zero => intro _ _; exact wG_none
  | succ n ih =>
    intro x1_10 h_11
    refine wG_of (L_X12_begin_62.eq_2 ..) ?_
    refine wG_iload_n C dX12_begin_62 1 rfl ?_
    refine wG_iconst C dX12_begin_63 (v := 4) (by decide) ?_
    refine wG_icmp_ge C dX12_begin_64 ?_ ?_
    · exact wG_exit (fun Q e => gQ_lv [0] rfl e)
    · refine wG_aload_n C dX12_begin_67 0 rfl ?_
      refine wG_getR C fl_X12_53_8 rfl kd_111 (wll hN (by decide)) (rf_111_17 q) dX12_begin_68 ?_
      refine wG_iload_n C dX12_begin_71 1 rfl ?_
      refine wG_iconst C dX12_begin_72 (v := 0) (by decide) ?_
      refine wG_iast C kd_122 (wll hN (by decide)) ln_122 dX12_begin_73 (fun h_13 => ?_)
      refine wG_iinc C (v := 1) (LL := fun x1_14 => [(0, .ref (xB X + 111)), (1, .int x1_14)]) dX12_begin_74 1 rfl (by decide) (by decide) [1, 0] (fun _ => rfl) (fun x1_14 => ?_)
      refine wG_goto C dX12_begin_77 ?_
      exact wG_lv [0, 1] rfl (ih x1_14 h_13)
set_option maxRecDepth 4000 in
theorem w_X12_begin {X : wX} (C : Cx X yX12_begin cX12_begin 2 none rm_X12_begin) {N : Nat} {q : Qp} (hN : 137 ≤ N) (h : Hp) : wG X 2 (eM X (fun u => (none, N, u, (rq q)))) (f_X12_begin h) N h (rq q) 0 0 0 [(0, .ref (xB X + 111))] [] := by
  refine wG_of (f_X12_begin.eq_1 ..) ?_
  refine wG_aload_n C dX12_begin_0 0 rfl ?_
  refine wG_iconst C dX12_begin_1 (v := 1) (by decide) ?_
  refine wG_putI C fl_X12_29_8 (fp_8_9 _) (fun e => Bool.noConfusion e) rfl kd_111 (wll hN (by decide)) dX12_begin_2 (fun h_1 => ?_)
  refine wG_aload_n C dX12_begin_5 0 rfl ?_
  refine wG_getR C fl_X12_32_8 rfl kd_111 (wll hN (by decide)) (rf_111_10 q) dX12_begin_6 ?_
  refine wG_iconst C dX12_begin_9 (v := 0) (by decide) ?_
  refine wG_iconst C dX12_begin_10 (v := 0) (by decide) ?_
  refine wG_iast C kd_115 (wll hN (by decide)) ln_115 dX12_begin_11 (fun h_2 => ?_)
  refine wG_aload_n C dX12_begin_12 0 rfl ?_
  refine wG_getR C fl_X12_35_8 rfl kd_111 (wll hN (by decide)) (rf_111_11 q) dX12_begin_13 ?_
  refine wG_iconst C dX12_begin_16 (v := 0) (by decide) ?_
  refine wG_iconst C dX12_begin_17 (v := 0) (by decide) ?_
  refine wG_iast C kd_116 (wll hN (by decide)) ln_116 dX12_begin_18 (fun h_3 => ?_)
  refine wG_aload_n C dX12_begin_19 0 rfl ?_
  refine wG_getR C fl_X12_38_8 rfl kd_111 (wll hN (by decide)) (rf_111_12 q) dX12_begin_20 ?_
  refine wG_iconst C dX12_begin_23 (v := 0) (by decide) ?_
  refine wG_aload_n C dX12_begin_24 0 rfl ?_
  refine wG_getI C fl_X12_20_8 rfl kd_111 (wll hN (by decide)) dX12_begin_25 ?_
  refine wG_iast C kd_117 (wll hN (by decide)) ln_117 dX12_begin_28 (fun h_4 => ?_)
  refine wG_aload_n C dX12_begin_29 0 rfl ?_
  refine wG_getR C fl_X12_41_8 rfl kd_111 (wll hN (by decide)) (rf_111_13 q) dX12_begin_30 ?_
  refine wG_iconst C dX12_begin_33 (v := 0) (by decide) ?_
  refine wG_aload_n C dX12_begin_34 0 rfl ?_
  refine wG_getI C fl_X12_23_8 rfl kd_111 (wll hN (by decide)) dX12_begin_35 ?_
  refine wG_iast C kd_118 (wll hN (by decide)) ln_118 dX12_begin_38 (fun h_5 => ?_)
  refine wG_aload_n C dX12_begin_39 0 rfl ?_
  refine wG_getR C fl_X12_44_8 rfl kd_111 (wll hN (by decide)) (rf_111_14 q) dX12_begin_40 ?_
  refine wG_iconst C dX12_begin_43 (v := 0) (by decide) ?_
  refine wG_iconst C dX12_begin_44 (v := 0) (by decide) ?_
  refine wG_iast C kd_119 (wll hN (by decide)) ln_119 dX12_begin_45 (fun h_6 => ?_)
  refine wG_aload_n C dX12_begin_46 0 rfl ?_
  refine wG_getR C fl_X12_47_8 rfl kd_111 (wll hN (by decide)) (rf_111_15 q) dX12_begin_47 ?_
  refine wG_iconst C dX12_begin_50 (v := 0) (by decide) ?_
  refine wG_iconst C dX12_begin_51 (v := 0) (by decide) ?_
  refine wG_iast C kd_120 (wll hN (by decide)) ln_120 dX12_begin_52 (fun h_7 => ?_)
  refine wG_aload_n C dX12_begin_53 0 rfl ?_
  refine wG_getR C fl_X12_50_8 rfl kd_111 (wll hN (by decide)) (rf_111_16 q) dX12_begin_54 ?_
  refine wG_iconst C dX12_begin_57 (v := 0) (by decide) ?_
  refine wG_iconst C dX12_begin_58 (v := 0) (by decide) ?_
  refine wG_iast C kd_121 (wll hN (by decide)) ln_121 dX12_begin_59 (fun h_8 => ?_)
  refine wG_iconst C dX12_begin_60 (v := 0) (by decide) ?_
  refine wG_nmI (fun x1_9 => ?_)
  refine wG_istore_n C (L' := [(0, .ref (xB X + 111)), (1, .int x1_9)]) dX12_begin_61 (by decide) [1, 0] rfl ?_
  refine wG_lv (L' := [(0, .ref (xB X + 111)), (1, .int x1_9)]) [0, 1] rfl ?_
  refine wG_bind (wL_X12_begin_62 C hN h h_1 h_2 h_3 h_4 h_5 h_6 h_7 h_8 x1_9 FU x1_9 h_8) (fun t_12 => (?_ : wG X 2 _ _ N t_12 (rq q) 0 0 80 [(0, .ref (xB X + 111))] []))
  refine wG_aload_n C dX12_begin_80 0 rfl ?_
  refine wG_iconst C dX12_begin_81 (v := 0) (by decide) ?_
  refine wG_putI C fl_X12_134_8 (fp_8_18 _) (fun e => Bool.noConfusion e) rfl kd_111 (wll hN (by decide)) dX12_begin_82 (fun h_15 => ?_)
  refine wG_aload_n C dX12_begin_85 0 rfl ?_
  refine wG_getR C fl_X12_62_8 rfl kd_111 (wll hN (by decide)) (rf_111_21 q) dX12_begin_86 ?_
  refine wG_iconst C dX12_begin_89 (v := 0) (by decide) ?_
  refine wG_iconst C dX12_begin_90 (v := 0) (by decide) ?_
  refine wG_zast C kd_125 (wll hN (by decide)) ln_125 rfl dX12_begin_91 (fun h_16 => ?_)
  refine wG_aload_n C dX12_begin_92 0 rfl ?_
  refine wG_getR C fl_X12_62_8 rfl kd_111 (wll hN (by decide)) (rf_111_21 q) dX12_begin_93 ?_
  refine wG_iconst C dX12_begin_96 (v := 1) (by decide) ?_
  refine wG_iconst C dX12_begin_97 (v := 0) (by decide) ?_
  refine wG_zast C kd_125 (wll hN (by decide)) ln_125 rfl dX12_begin_98 (fun h_17 => ?_)
  refine wG_aload_n C dX12_begin_99 0 rfl ?_
  refine wG_iconst C dX12_begin_100 (v := 0) (by decide) ?_
  refine wG_putI C fl_X12_137_8 (fp_8_35 _) (fun e => Bool.noConfusion e) rfl kd_111 (wll hN (by decide)) dX12_begin_101 (fun h_18 => ?_)
  exact wG_vret C dX12_begin_104 ⟨by decide, by decide⟩ (fun _ e => e)
theorem c_X12_begin (l : Launch) (E : wE) (N : Nat) (q : Qp) (hN : 137 ≤ N) (h : Hp) : ∀ z, f_X12_begin h = some z → CT l E yX12_begin cX12_begin 2 none rm_X12_begin [.ref (eB E + 111)] N h (rq q) ((fun u => (none, N, u, (rq q))) z) := CT.of (by decide +kernel) (Nat.le_of_ble_eq_true rfl) (fun X _ e C => by subst e; exact w_X12_begin C hN h)
def rm_X12_form : Room := { frames := 2, cells := 0, slots := 0, locals := 44 }
def L_X12_form_35  : Nat → Int32 → Hp → Option Hp
  | 0, _, _ => none
  | n + 1, x1_6, h_7 =>
    (if (36 : Int32) ≤ x1_6 then
    some h_7
    else
    if inB x1_6 36 then
    if inB x1_6 36 then vB (u2 h_7 113 (ix x1_6) (h_7 114 (ix x1_6))) fun h_9 =>
    vB (x1_6 + 1) fun (x1_10 : Int32) =>
    L_X12_form_35 n x1_10 h_9 else none else none)
def f_X12_form (h : Hp) : Option (Int32 × Hp) :=
  vB (u2 h 111 0 0) fun h_1 =>
  (f_X12_readForm h_1).bind fun u_2 =>
  (if u_2.1 = (-9) then
  vB (u2 u_2.2 111 4 (u_2.2 111 7)) fun h_3 =>
  vB (u2 h_3 111 5 (h_3 111 8)) fun h_4 =>
  vB 0 fun (x1_5 : Int32) =>
  (L_X12_form_35 FU x1_5 h_4).bind fun t_8 =>
  (f_X12_begin t_8).bind fun u_11 =>
  some (((u_11 111 4) * (u_11 111 5)), u_11)
  else
  some ((-3), u_2.2))
set_option maxRecDepth 4000 in
theorem wL_X12_form_35 {X : wX} (C : Cx X yX12_form cX12_form 2 (some .int) rm_X12_form) {N : Nat} {q : Qp} (hN : 137 ≤ N) (h : Hp) (h_1 : Hp) (u_2 : (Int32 × Hp)) (h_3 : Hp) (h_4 : Hp) (x1_5 : Int32) : ∀ n x1_6 h_7, wG X 2 (fun (t_8 : Hp) Q => gQ X 2 Q N t_8 (rq q) 0 0 59 [(0, .ref (xB X + 111))] []) (L_X12_form_35 n x1_6 h_7) N h_7 (rq q) 0 0 35 [(0, .ref (xB X + 111)), (1, .int x1_6)] [] := by
  intro n
  induction n with
  | zero => intro _ _; exact wG_none
  | succ n ih =>
    intro x1_6 h_7
    refine wG_of (L_X12_form_35.eq_2 ..) ?_
    refine wG_iload_n C dX12_form_35 1 rfl ?_
    refine wG_bipush C dX12_form_36 (v := 36) (by decide) ?_
    refine wG_icmp_ge C dX12_form_38 ?_ ?_
    · exact wG_exit (fun Q e => gQ_lv [0] rfl e)
    · refine wG_aload_n C dX12_form_41 0 rfl ?_
      refine wG_getR C fl_X12_17_8 rfl kd_111 (wll hN (by decide)) (rf_111_3 q) dX12_form_42 ?_
      refine wG_iload_n C dX12_form_45 1 rfl ?_
      refine wG_aload_n C dX12_form_46 0 rfl ?_
      refine wG_getR C fl_X12_26_8 rfl kd_111 (wll hN (by decide)) (rf_111_6 q) dX12_form_47 ?_
      refine wG_iload_n C dX12_form_50 1 rfl ?_
      refine wG_iald C kd_114 (wll hN (by decide)) ln_114 dX12_form_51 ?_
      refine wG_iast C kd_113 (wll hN (by decide)) ln_113 dX12_form_52 (fun h_9 => ?_)
      refine wG_iinc C (v := 1) (LL := fun x1_10 => [(0, .ref (xB X + 111)), (1, .int x1_10)]) dX12_form_53 1 rfl (by decide) (by decide) [1, 0] (fun _ => rfl) (fun x1_10 => ?_)
      refine wG_goto C dX12_form_56 ?_
      exact wG_lv [0, 1] rfl (ih x1_10 h_9)
set_option maxRecDepth 4000 in
theorem w_X12_form {X : wX} (C : Cx X yX12_form cX12_form 2 (some .int) rm_X12_form) {N : Nat} {q : Qp} (hN : 137 ≤ N) (h : Hp) : wG X 2 (eM X (fun u => (some (.int u.1), N, u.2, (rq q)))) (f_X12_form h) N h (rq q) 0 0 0 [(0, .ref (xB X + 111))] [] := by
  refine wG_of (f_X12_form.eq_1 ..) ?_
  refine wG_aload_n C dX12_form_0 0 rfl ?_
  refine wG_iconst C dX12_form_1 (v := 0) (by decide) ?_
  refine wG_putI C fl_X12_1_8 (fp_8_0 _) (fun e => Bool.noConfusion e) rfl kd_111 (wll hN (by decide)) dX12_form_2 (fun h_1 => ?_)
  refine wG_aload_n C dX12_form_5 0 rfl ?_
  refine wG_cV_wi [] [] C vw_X12_130 (c_X12_readForm (xl X) (xE X) N q hN h_1) kd_111 (wll hN (by decide)) (by decide) rfl rfl (Nat.le_of_ble_eq_true rfl) dX12_form_6 (cl' := 0) (sl' := 0) rfl rfl (fun u_2 => ?_)
  refine wG_bipush C dX12_form_9 (v := (-9)) (by decide) ?_
  refine wG_icmp_eq C dX12_form_11 ?_ ?_
  · refine wG_aload_n C dX12_form_17 0 rfl ?_
    refine wG_aload_n C dX12_form_18 0 rfl ?_
    refine wG_getI C fl_X12_120_8 rfl kd_111 (wll hN (by decide)) dX12_form_19 ?_
    refine wG_putI C fl_X12_20_8 (fp_8_4 _) (fun e => Bool.noConfusion e) rfl kd_111 (wll hN (by decide)) dX12_form_22 (fun h_3 => ?_)
    refine wG_aload_n C dX12_form_25 0 rfl ?_
    refine wG_aload_n C dX12_form_26 0 rfl ?_
    refine wG_getI C fl_X12_123_8 rfl kd_111 (wll hN (by decide)) dX12_form_27 ?_
    refine wG_putI C fl_X12_23_8 (fp_8_5 _) (fun e => Bool.noConfusion e) rfl kd_111 (wll hN (by decide)) dX12_form_30 (fun h_4 => ?_)
    refine wG_iconst C dX12_form_33 (v := 0) (by decide) ?_
    refine wG_nmI (fun x1_5 => ?_)
    refine wG_istore_n C (L' := [(0, .ref (xB X + 111)), (1, .int x1_5)]) dX12_form_34 (by decide) [1, 0] rfl ?_
    refine wG_lv (L' := [(0, .ref (xB X + 111)), (1, .int x1_5)]) [0, 1] rfl ?_
    refine wG_bind (wL_X12_form_35 C hN h h_1 u_2 h_3 h_4 x1_5 FU x1_5 h_4) (fun t_8 => (?_ : wG X 2 _ _ N t_8 (rq q) 0 0 59 [(0, .ref (xB X + 111))] []))
    refine wG_aload_n C dX12_form_59 0 rfl ?_
    refine wG_cV_wv [] [] C vw_X12_140 (c_X12_begin (xl X) (xE X) N q hN t_8) kd_111 (wll hN (by decide)) (by decide) rfl rfl (Nat.le_of_ble_eq_true rfl) dX12_form_60 (cl' := 0) (sl' := 0) rfl rfl (fun u_11 => ?_)
    refine wG_aload_n C dX12_form_63 0 rfl ?_
    refine wG_getI C fl_X12_20_8 rfl kd_111 (wll hN (by decide)) dX12_form_64 ?_
    refine wG_aload_n C dX12_form_67 0 rfl ?_
    refine wG_getI C fl_X12_23_8 rfl kd_111 (wll hN (by decide)) dX12_form_68 ?_
    refine wG_imul C dX12_form_71 ?_
    exact wG_iret C dX12_form_72 ⟨by decide, by decide⟩ (fun _ e => e)
  · refine wG_bipush C dX12_form_14 (v := (-3)) (by decide) ?_
    exact wG_iret C dX12_form_16 ⟨by decide, by decide⟩ (fun _ e => e)
theorem c_X12_form (l : Launch) (E : wE) (N : Nat) (q : Qp) (hN : 137 ≤ N) (h : Hp) : ∀ z, f_X12_form h = some z → CT l E yX12_form cX12_form 2 (some .int) rm_X12_form [.ref (eB E + 111)] N h (rq q) ((fun u => (some (.int u.1), N, u.2, (rq q))) z) := CT.of (by decide +kernel) (Nat.le_of_ble_eq_true rfl) (fun X _ e C => by subst e; exact w_X12_form C hN h)
def rm_X12_place : Room := { frames := 1, cells := 0, slots := 0, locals := 25 }
def f_X12_place (h : Hp) (x1 : Int32) (x2 : Int32) : Option (Int32 × Hp) :=
  vB (u2 h 111 0 0) fun h_1 =>
  (f_X12_in x1.toInt64 0 (((h_1 111 4) - 1).toInt64)).bind fun u_2 =>
  (if u_2 = 0 then
  some ((-1), h_1)
  else
  (f_X12_in x2.toInt64 0 (((h_1 111 5) - 1).toInt64)).bind fun u_3 =>
  (if u_3 = 0 then
  some ((-1), h_1)
  else
  if inB ((6 * x1) + x2) 36 then
  some ((h_1 113 (ix ((6 * x1) + x2))), h_1) else none))
set_option maxRecDepth 4000 in
theorem w_X12_place {X : wX} (C : Cx X yX12_place cX12_place 3 (some .int) rm_X12_place) {N : Nat} {q : Qp} (hN : 137 ≤ N) (h : Hp) (x1 : Int32) (x2 : Int32) : wG X 3 (eM X (fun u => (some (.int u.1), N, u.2, (rq q)))) (f_X12_place h x1 x2) N h (rq q) 0 0 0 [(0, .ref (xB X + 111)), (1, .int x1), (2, .int x2)] [] := by
  refine wG_of (f_X12_place.eq_1 ..) ?_
  refine wG_aload_n C dX12_place_0 0 rfl ?_
  refine wG_iconst C dX12_place_1 (v := 0) (by decide) ?_
  refine wG_putI C fl_X12_1_8 (fp_8_0 _) (fun e => Bool.noConfusion e) rfl kd_111 (wll hN (by decide)) dX12_place_2 (fun h_1 => ?_)
  refine wG_iload_n C dX12_place_5 1 rfl ?_
  refine wG_i2l C dX12_place_6 ?_
  refine wG_lconst C dX12_place_7 (v := 0) (by decide) ?_
  refine wG_aload_n C dX12_place_8 0 rfl ?_
  refine wG_getI C fl_X12_20_8 rfl kd_111 (wll hN (by decide)) dX12_place_9 ?_
  refine wG_iconst C dX12_place_12 (v := 1) (by decide) ?_
  refine wG_isub C dX12_place_13 ?_
  refine wG_i2l C dX12_place_14 ?_
  refine wG_cS_ri [.long x1.toInt64, .long 0, .long (((h_1 111 4) - 1).toInt64)] [] C sw_X12_113 (c_X12_in (xl X) (xE X) N q hN h_1 x1.toInt64 0 (((h_1 111 4) - 1).toInt64)) (by decide) rfl rfl (Nat.le_of_ble_eq_true rfl) dX12_place_15 (cl' := 0) (sl' := 0) rfl rfl (fun u_2 => ?_)
  refine wG_if_eq C dX12_place_18 ?_ ?_
  · refine wG_iconst C dX12_place_51 (v := (-1)) (by decide) ?_
    exact wG_iret C dX12_place_52 ⟨by decide, by decide⟩ (fun _ e => e)
  · refine wG_iload_n C dX12_place_21 2 rfl ?_
    refine wG_i2l C dX12_place_22 ?_
    refine wG_lconst C dX12_place_23 (v := 0) (by decide) ?_
    refine wG_aload_n C dX12_place_24 0 rfl ?_
    refine wG_getI C fl_X12_23_8 rfl kd_111 (wll hN (by decide)) dX12_place_25 ?_
    refine wG_iconst C dX12_place_28 (v := 1) (by decide) ?_
    refine wG_isub C dX12_place_29 ?_
    refine wG_i2l C dX12_place_30 ?_
    refine wG_cS_ri [.long x2.toInt64, .long 0, .long (((h_1 111 5) - 1).toInt64)] [] C sw_X12_113 (c_X12_in (xl X) (xE X) N q hN h_1 x2.toInt64 0 (((h_1 111 5) - 1).toInt64)) (by decide) rfl rfl (Nat.le_of_ble_eq_true rfl) dX12_place_31 (cl' := 0) (sl' := 0) rfl rfl (fun u_3 => ?_)
    refine wG_if_eq C dX12_place_34 ?_ ?_
    · refine wG_iconst C dX12_place_51 (v := (-1)) (by decide) ?_
      exact wG_iret C dX12_place_52 ⟨by decide, by decide⟩ (fun _ e => e)
    · refine wG_aload_n C dX12_place_37 0 rfl ?_
      refine wG_getR C fl_X12_17_8 rfl kd_111 (wll hN (by decide)) (rf_111_3 q) dX12_place_38 ?_
      refine wG_bipush C dX12_place_41 (v := 6) (by decide) ?_
      refine wG_iload_n C dX12_place_43 1 rfl ?_
      refine wG_imul C dX12_place_44 ?_
      refine wG_iload_n C dX12_place_45 2 rfl ?_
      refine wG_iadd C dX12_place_46 ?_
      refine wG_iald C kd_113 (wll hN (by decide)) ln_113 dX12_place_47 ?_
      refine wG_goto C dX12_place_48 ?_
      exact wG_iret C dX12_place_52 ⟨by decide, by decide⟩ (fun _ e => e)
theorem c_X12_place (l : Launch) (E : wE) (N : Nat) (q : Qp) (hN : 137 ≤ N) (h : Hp) (x1 : Int32) (x2 : Int32) : ∀ z, f_X12_place h x1 x2 = some z → CT l E yX12_place cX12_place 3 (some .int) rm_X12_place [.ref (eB E + 111), .int x1, .int x2] N h (rq q) ((fun u => (some (.int u.1), N, u.2, (rq q))) z) := CT.of (by decide +kernel) (Nat.le_of_ble_eq_true rfl) (fun X _ e C => by subst e; exact w_X12_place C hN h x1 x2)
def rm_X12_noPiece : Room := { frames := 1, cells := 0, slots := 0, locals := 25 }
def f_X12_noPiece (h : Hp) (x1 : Int32) : Option Int32 :=
  (f_X12_in x1.toInt64 0 (((h 111 9) - 1).toInt64)).bind fun u_1 =>
  (if u_1 = 0 then
  some 1
  else
  some 0)
set_option maxRecDepth 4000 in
theorem w_X12_noPiece {X : wX} (C : Cx X yX12_noPiece cX12_noPiece 2 (some .boolean) rm_X12_noPiece) {N : Nat} {q : Qp} (hN : 137 ≤ N) (h : Hp) (x1 : Int32) : wG X 2 (eM X (fun u => (some (.int u), N, h, (rq q)))) (f_X12_noPiece h x1) N h (rq q) 0 0 0 [(0, .ref (xB X + 111)), (1, .int x1)] [] := by
  refine wG_of (f_X12_noPiece.eq_1 ..) ?_
  refine wG_iload_n C dX12_noPiece_0 1 rfl ?_
  refine wG_i2l C dX12_noPiece_1 ?_
  refine wG_lconst C dX12_noPiece_2 (v := 0) (by decide) ?_
  refine wG_aload_n C dX12_noPiece_3 0 rfl ?_
  refine wG_getI C fl_X12_29_8 rfl kd_111 (wll hN (by decide)) dX12_noPiece_4 ?_
  refine wG_iconst C dX12_noPiece_7 (v := 1) (by decide) ?_
  refine wG_isub C dX12_noPiece_8 ?_
  refine wG_i2l C dX12_noPiece_9 ?_
  refine wG_cS_ri [.long x1.toInt64, .long 0, .long (((h 111 9) - 1).toInt64)] [] C sw_X12_113 (c_X12_in (xl X) (xE X) N q hN h x1.toInt64 0 (((h 111 9) - 1).toInt64)) (by decide) rfl rfl (Nat.le_of_ble_eq_true rfl) dX12_noPiece_10 (cl' := 0) (sl' := 0) rfl rfl (fun u_1 => ?_)
  refine wG_if_ne C dX12_noPiece_13 ?_ ?_
  · refine wG_iconst C dX12_noPiece_16 (v := 1) (by decide) ?_
    refine wG_goto C dX12_noPiece_17 ?_
    exact wG_zret C dX12_noPiece_21 rfl ⟨by decide, by decide⟩ (fun _ e => e)
  · refine wG_iconst C dX12_noPiece_20 (v := 0) (by decide) ?_
    exact wG_zret C dX12_noPiece_21 rfl ⟨by decide, by decide⟩ (fun _ e => e)
theorem c_X12_noPiece (l : Launch) (E : wE) (N : Nat) (q : Qp) (hN : 137 ≤ N) (h : Hp) (x1 : Int32) : ∀ z, f_X12_noPiece h x1 = some z → CT l E yX12_noPiece cX12_noPiece 2 (some .boolean) rm_X12_noPiece [.ref (eB E + 111), .int x1] N h (rq q) ((fun u => (some (.int u), N, h, (rq q))) z) := CT.of (by decide +kernel) (Nat.le_of_ble_eq_true rfl) (fun X _ e C => by subst e; exact w_X12_noPiece C hN h x1)
def rm_X12_noStand : Room := { frames := 2, cells := 0, slots := 0, locals := 46 }
def f_X12_noStand (h : Hp) (x1 : Int32) : Option Int32 :=
  (f_X12_noPiece h x1).bind fun u_1 =>
  (if u_1 = 0 then
  if inB x1 24 then
  (if (h 119 (ix x1)) = 0 then
  some 0
  else
  some 1) else none
  else
  some 1)
set_option maxRecDepth 4000 in
theorem w_X12_noStand {X : wX} (C : Cx X yX12_noStand cX12_noStand 2 (some .boolean) rm_X12_noStand) {N : Nat} {q : Qp} (hN : 137 ≤ N) (h : Hp) (x1 : Int32) : wG X 2 (eM X (fun u => (some (.int u), N, h, (rq q)))) (f_X12_noStand h x1) N h (rq q) 0 0 0 [(0, .ref (xB X + 111)), (1, .int x1)] [] := by
  refine wG_of (f_X12_noStand.eq_1 ..) ?_
  refine wG_aload_n C dX12_noStand_0 0 rfl ?_
  refine wG_iload_n C dX12_noStand_1 1 rfl ?_
  refine wG_cV_ri [.int x1] [] C vw_X12_143 (c_X12_noPiece (xl X) (xE X) N q hN h x1) kd_111 (wll hN (by decide)) (by decide) rfl rfl (Nat.le_of_ble_eq_true rfl) dX12_noStand_2 (cl' := 0) (sl' := 0) rfl rfl (fun u_1 => ?_)
  refine wG_if_ne C dX12_noStand_5 ?_ ?_
  · refine wG_aload_n C dX12_noStand_8 0 rfl ?_
    refine wG_getR C fl_X12_44_8 rfl kd_111 (wll hN (by decide)) (rf_111_14 q) dX12_noStand_9 ?_
    refine wG_iload_n C dX12_noStand_12 1 rfl ?_
    refine wG_iald C kd_119 (wll hN (by decide)) ln_119 dX12_noStand_13 ?_
    refine wG_if_eq C dX12_noStand_14 ?_ ?_
    · refine wG_iconst C dX12_noStand_21 (v := 0) (by decide) ?_
      exact wG_zret C dX12_noStand_22 rfl ⟨by decide, by decide⟩ (fun _ e => e)
    · refine wG_iconst C dX12_noStand_17 (v := 1) (by decide) ?_
      refine wG_goto C dX12_noStand_18 ?_
      exact wG_zret C dX12_noStand_22 rfl ⟨by decide, by decide⟩ (fun _ e => e)
  · refine wG_iconst C dX12_noStand_17 (v := 1) (by decide) ?_
    refine wG_goto C dX12_noStand_18 ?_
    exact wG_zret C dX12_noStand_22 rfl ⟨by decide, by decide⟩ (fun _ e => e)
theorem c_X12_noStand (l : Launch) (E : wE) (N : Nat) (q : Qp) (hN : 137 ≤ N) (h : Hp) (x1 : Int32) : ∀ z, f_X12_noStand h x1 = some z → CT l E yX12_noStand cX12_noStand 2 (some .boolean) rm_X12_noStand [.ref (eB E + 111), .int x1] N h (rq q) ((fun u => (some (.int u), N, h, (rq q))) z) := CT.of (by decide +kernel) (Nat.le_of_ble_eq_true rfl) (fun X _ e C => by subst e; exact w_X12_noStand C hN h x1)
def rm_X12_weightOf : Room := { frames := 0, cells := 0, slots := 0, locals := 0 }
def L_X12_weightOf_17 (h : Hp) (x2 : Int32) (x4 : Int32) (x6_4 : Int32) : Nat → Int32 → Int32 → Option Int32
  | 0, _, _ => none
  | n + 1, x5_7, x7_8 =>
    (if (x2 + x4) ≤ x7_8 then
    some x5_7
    else
    if inB ((6 * x6_4) + x7_8) 36 then
    vB (h 113 (ix ((6 * x6_4) + x7_8))) fun (x8_10 : Int32) =>
    ((if x8_10 = 0 then
    some 10
    else
    (if x8_10 = 1 then
    some 8
    else
    some 0))).bind fun t_11 =>
    vB (x5_7 + t_11) fun (x5_12 : Int32) =>
    vB (x7_8 + 1) fun (x7_13 : Int32) =>
    L_X12_weightOf_17 h x2 x4 x6_4 n x5_12 x7_13 else none)
def L_X12_weightOf_6 (h : Hp) (x1 : Int32) (x2 : Int32) (x3 : Int32) (x4 : Int32) : Nat → Int32 → Int32 → Option Int32
  | 0, _, _ => none
  | n + 1, x5_3, x6_4 =>
    (if (x1 + x3) ≤ x6_4 then
    some x5_3
    else
    vB x2 fun (x7_6 : Int32) =>
    (L_X12_weightOf_17 h x2 x4 x6_4 FU x5_3 x7_6).bind fun t_9 =>
    vB (x6_4 + 1) fun (x6_14 : Int32) =>
    L_X12_weightOf_6 h x1 x2 x3 x4 n t_9 x6_14)
def f_X12_weightOf (h : Hp) (x1 : Int32) (x2 : Int32) (x3 : Int32) (x4 : Int32) : Option Int32 :=
  vB 0 fun (x5_1 : Int32) =>
  vB x1 fun (x6_2 : Int32) =>
  (L_X12_weightOf_6 h x1 x2 x3 x4 FU x5_1 x6_2).bind fun t_5 =>
  some t_5
set_option maxRecDepth 4000 in
theorem wL_X12_weightOf_17 {X : wX} (C : Cx X yX12_weightOf cX12_weightOf 9 (some .int) rm_X12_weightOf) {N : Nat} {q : Qp} (hN : 137 ≤ N) (h : Hp) (x1 : Int32) (x2 : Int32) (x3 : Int32) (x4 : Int32) (x5_1 : Int32) (x6_2 : Int32) (x5_3 : Int32) (x6_4 : Int32) (x7_6 : Int32) : ∀ n x5_7 x7_8, wG X 9 (fun (t_9 : Int32) Q => gQ X 9 Q N h (rq q) 0 0 74 [(0, .ref (xB X + 111)), (1, .int x1), (2, .int x2), (3, .int x3), (4, .int x4), (5, .int t_9), (6, .int x6_4)] []) (L_X12_weightOf_17 h x2 x4 x6_4 n x5_7 x7_8) N h (rq q) 0 0 17 [(0, .ref (xB X + 111)), (1, .int x1), (2, .int x2), (3, .int x3), (4, .int x4), (5, .int x5_7), (6, .int x6_4), (7, .int x7_8)] [] := by
  intro n
  induction n with
  | zero => intro _ _; exact wG_none
  | succ n ih =>
    intro x5_7 x7_8
    refine wG_of (L_X12_weightOf_17.eq_2 ..) ?_
    refine wG_iload C dX12_weightOf_17 7 rfl ?_
    refine wG_iload_n C dX12_weightOf_19 2 rfl ?_
    refine wG_iload C dX12_weightOf_20 4 rfl ?_
    refine wG_iadd C dX12_weightOf_22 ?_
    refine wG_icmp_ge C dX12_weightOf_23 ?_ ?_
    · exact wG_exit (fun Q e => gQ_lv [0, 1, 2, 3, 4, 5, 6] rfl e)
    · refine wG_aload_n C dX12_weightOf_26 0 rfl ?_
      refine wG_getR C fl_X12_17_8 rfl kd_111 (wll hN (by decide)) (rf_111_3 q) dX12_weightOf_27 ?_
      refine wG_bipush C dX12_weightOf_30 (v := 6) (by decide) ?_
      refine wG_iload C dX12_weightOf_32 6 rfl ?_
      refine wG_imul C dX12_weightOf_34 ?_
      refine wG_iload C dX12_weightOf_35 7 rfl ?_
      refine wG_iadd C dX12_weightOf_37 ?_
      refine wG_iald C kd_113 (wll hN (by decide)) ln_113 dX12_weightOf_38 ?_
      refine wG_nmI (fun x8_10 => ?_)
      refine wG_istore C (L' := [(0, .ref (xB X + 111)), (1, .int x1), (2, .int x2), (3, .int x3), (4, .int x4), (5, .int x5_7), (6, .int x6_4), (7, .int x7_8), (8, .int x8_10)]) dX12_weightOf_39 (by decide) [1, 2, 3, 4, 5, 6, 7, 8, 0] rfl ?_
      refine wG_iload C dX12_weightOf_41 5 rfl ?_
      refine wG_iload C dX12_weightOf_43 8 rfl ?_
      refine wG_bind (J := (fun (t_11 : Int32) Q => gQ X 9 Q N h (rq q) 0 0 65 [(0, .ref (xB X + 111)), (1, .int x1), (2, .int x2), (3, .int x3), (4, .int x4), (6, .int x6_4), (7, .int x7_8)] [.int t_11, .int x5_7])) ?_ (fun t_11 => (?_ : wG X 9 _ _ N h (rq q) 0 0 65 [(0, .ref (xB X + 111)), (1, .int x1), (2, .int x2), (3, .int x3), (4, .int x4), (6, .int x6_4), (7, .int x7_8)] [.int t_11, .int x5_7]))
      · refine wG_if_ne C dX12_weightOf_45 ?_ ?_
        · refine wG_bipush C dX12_weightOf_48 (v := 10) (by decide) ?_
          refine wG_goto C dX12_weightOf_50 ?_
          exact wG_exit (fun Q e => gQ_lv [0, 1, 2, 3, 4, 6, 7] rfl e)
        · refine wG_iload C dX12_weightOf_53 8 rfl ?_
          refine wG_iconst C dX12_weightOf_55 (v := 1) (by decide) ?_
          refine wG_icmp_ne C dX12_weightOf_56 ?_ ?_
          · refine wG_bipush C dX12_weightOf_59 (v := 8) (by decide) ?_
            refine wG_goto C dX12_weightOf_61 ?_
            exact wG_exit (fun Q e => gQ_lv [0, 1, 2, 3, 4, 6, 7] rfl e)
          · refine wG_iconst C dX12_weightOf_64 (v := 0) (by decide) ?_
            exact wG_exit (fun Q e => gQ_lv [0, 1, 2, 3, 4, 6, 7] rfl e)
      · refine wG_iadd C dX12_weightOf_65 ?_
        refine wG_nmI (fun x5_12 => ?_)
        refine wG_istore C (L' := [(0, .ref (xB X + 111)), (1, .int x1), (2, .int x2), (3, .int x3), (4, .int x4), (5, .int x5_12), (6, .int x6_4), (7, .int x7_8)]) dX12_weightOf_66 (by decide) [1, 2, 3, 4, 5, 0, 6, 7] rfl ?_
        refine wG_iinc C (v := 1) (LL := fun x7_13 => [(0, .ref (xB X + 111)), (1, .int x1), (2, .int x2), (3, .int x3), (4, .int x4), (5, .int x5_12), (6, .int x6_4), (7, .int x7_13)]) dX12_weightOf_68 7 rfl (by decide) (by decide) [1, 2, 3, 4, 5, 6, 7, 0] (fun _ => rfl) (fun x7_13 => ?_)
        refine wG_goto C dX12_weightOf_71 ?_
        exact wG_lv [0, 1, 2, 3, 4, 5, 6, 7] rfl (ih x5_12 x7_13)
set_option maxRecDepth 4000 in
theorem wL_X12_weightOf_6 {X : wX} (C : Cx X yX12_weightOf cX12_weightOf 9 (some .int) rm_X12_weightOf) {N : Nat} {q : Qp} (hN : 137 ≤ N) (h : Hp) (x1 : Int32) (x2 : Int32) (x3 : Int32) (x4 : Int32) (x5_1 : Int32) (x6_2 : Int32) : ∀ n x5_3 x6_4, wG X 9 (fun (t_5 : Int32) Q => gQ X 9 Q N h (rq q) 0 0 80 [(5, .int t_5)] []) (L_X12_weightOf_6 h x1 x2 x3 x4 n x5_3 x6_4) N h (rq q) 0 0 6 [(0, .ref (xB X + 111)), (1, .int x1), (2, .int x2), (3, .int x3), (4, .int x4), (5, .int x5_3), (6, .int x6_4)] [] := by
  intro n
  induction n with
  | zero => intro _ _; exact wG_none
  | succ n ih =>
    intro x5_3 x6_4
    refine wG_of (L_X12_weightOf_6.eq_2 ..) ?_
    refine wG_iload C dX12_weightOf_6 6 rfl ?_
    refine wG_iload_n C dX12_weightOf_8 1 rfl ?_
    refine wG_iload_n C dX12_weightOf_9 3 rfl ?_
    refine wG_iadd C dX12_weightOf_10 ?_
    refine wG_icmp_ge C dX12_weightOf_11 ?_ ?_
    · exact wG_exit (fun Q e => gQ_lv [5] rfl e)
    · refine wG_iload_n C dX12_weightOf_14 2 rfl ?_
      refine wG_nmI (fun x7_6 => ?_)
      refine wG_istore C (L' := [(0, .ref (xB X + 111)), (1, .int x1), (2, .int x2), (3, .int x3), (4, .int x4), (5, .int x5_3), (6, .int x6_4), (7, .int x7_6)]) dX12_weightOf_15 (by decide) [1, 2, 3, 4, 5, 6, 7, 0] rfl ?_
      refine wG_lv (L' := [(0, .ref (xB X + 111)), (1, .int x1), (2, .int x2), (3, .int x3), (4, .int x4), (5, .int x5_3), (6, .int x6_4), (7, .int x7_6)]) [0, 1, 2, 3, 4, 5, 6, 7] rfl ?_
      refine wG_bind (wL_X12_weightOf_17 C hN h x1 x2 x3 x4 x5_1 x6_2 x5_3 x6_4 x7_6 FU x5_3 x7_6) (fun t_9 => (?_ : wG X 9 _ _ N h (rq q) 0 0 74 [(0, .ref (xB X + 111)), (1, .int x1), (2, .int x2), (3, .int x3), (4, .int x4), (5, .int t_9), (6, .int x6_4)] []))
      refine wG_iinc C (v := 1) (LL := fun x6_14 => [(0, .ref (xB X + 111)), (1, .int x1), (2, .int x2), (3, .int x3), (4, .int x4), (5, .int t_9), (6, .int x6_14)]) dX12_weightOf_74 6 rfl (by decide) (by decide) [1, 2, 3, 4, 5, 6, 0] (fun _ => rfl) (fun x6_14 => ?_)
      refine wG_goto C dX12_weightOf_77 ?_
      exact wG_lv [0, 1, 2, 3, 4, 5, 6] rfl (ih t_9 x6_14)
set_option maxRecDepth 4000 in
theorem w_X12_weightOf {X : wX} (C : Cx X yX12_weightOf cX12_weightOf 9 (some .int) rm_X12_weightOf) {N : Nat} {q : Qp} (hN : 137 ≤ N) (h : Hp) (x1 : Int32) (x2 : Int32) (x3 : Int32) (x4 : Int32) : wG X 9 (eM X (fun u => (some (.int u), N, h, (rq q)))) (f_X12_weightOf h x1 x2 x3 x4) N h (rq q) 0 0 0 [(0, .ref (xB X + 111)), (1, .int x1), (2, .int x2), (3, .int x3), (4, .int x4)] [] := by
  refine wG_of (f_X12_weightOf.eq_1 ..) ?_
  refine wG_iconst C dX12_weightOf_0 (v := 0) (by decide) ?_
  refine wG_nmI (fun x5_1 => ?_)
  refine wG_istore C (L' := [(0, .ref (xB X + 111)), (1, .int x1), (2, .int x2), (3, .int x3), (4, .int x4), (5, .int x5_1)]) dX12_weightOf_1 (by decide) [1, 2, 3, 4, 5, 0] rfl ?_
  refine wG_iload_n C dX12_weightOf_3 1 rfl ?_
  refine wG_nmI (fun x6_2 => ?_)
  refine wG_istore C (L' := [(0, .ref (xB X + 111)), (1, .int x1), (2, .int x2), (3, .int x3), (4, .int x4), (5, .int x5_1), (6, .int x6_2)]) dX12_weightOf_4 (by decide) [1, 2, 3, 4, 5, 6, 0] rfl ?_
  refine wG_lv (L' := [(0, .ref (xB X + 111)), (1, .int x1), (2, .int x2), (3, .int x3), (4, .int x4), (5, .int x5_1), (6, .int x6_2)]) [0, 1, 2, 3, 4, 5, 6] rfl ?_
  refine wG_bind (wL_X12_weightOf_6 C hN h x1 x2 x3 x4 x5_1 x6_2 FU x5_1 x6_2) (fun t_5 => (?_ : wG X 9 _ _ N h (rq q) 0 0 80 [(5, .int t_5)] []))
  refine wG_iload C dX12_weightOf_80 0 rfl ?_
  exact wG_iret C dX12_weightOf_82 ⟨by decide, by decide⟩ (fun _ e => e)
theorem c_X12_weightOf (l : Launch) (E : wE) (N : Nat) (q : Qp) (hN : 137 ≤ N) (h : Hp) (x1 : Int32) (x2 : Int32) (x3 : Int32) (x4 : Int32) : ∀ z, f_X12_weightOf h x1 x2 x3 x4 = some z → CT l E yX12_weightOf cX12_weightOf 9 (some .int) rm_X12_weightOf [.ref (eB E + 111), .int x1, .int x2, .int x3, .int x4] N h (rq q) ((fun u => (some (.int u), N, h, (rq q))) z) := CT.of (by decide +kernel) (Nat.le_of_ble_eq_true rfl) (fun X _ e C => by subst e; exact w_X12_weightOf C hN h x1 x2 x3 x4)
def rm_X12_offAhead : Room := { frames := 1, cells := 0, slots := 0, locals := 28 }
def f_X12_offAhead (h : Hp) (x1 : Int32) (x2 : Int32) (x3 : Int32) : Option Int32 :=
  if inB x1 24 then
  if inB x1 24 then
  if inB x1 24 then
  if inB x1 24 then
  (f_X12_weightOf h (h 115 (ix x1)) (h 116 (ix x1)) (h 117 (ix x1)) (h 118 (ix x1))).bind fun u_1 =>
  vB u_1 fun (x4_2 : Int32) =>
  ((if x2 = 0 then
  if inB x1 24 then
  if inB x1 24 then
  if inB x1 24 then
  (f_X12_weightOf h (h 115 (ix x1)) (h 116 (ix x1)) (h 117 (ix x1)) x3).bind fun u_4 =>
  some u_4 else none else none else none
  else
  if inB x1 24 then
  if inB x1 24 then
  if inB x1 24 then
  (f_X12_weightOf h (h 115 (ix x1)) (h 116 (ix x1)) x3 (h 118 (ix x1))).bind fun u_5 =>
  some u_5 else none else none else none)).bind fun t_3 =>
  vB t_3 fun (x5_6 : Int32) =>
  (if x4_2 = 0 then
  some 0
  else
  if inB x1 24 then
  if x4_2 = 0 then none else
  some (((h 121 (ix x1)) * x5_6) / x4_2) else none) else none else none else none else none
set_option maxRecDepth 4000 in
theorem w_X12_offAhead {X : wX} (C : Cx X yX12_offAhead cX12_offAhead 6 (some .int) rm_X12_offAhead) {N : Nat} {q : Qp} (hN : 137 ≤ N) (h : Hp) (x1 : Int32) (x2 : Int32) (x3 : Int32) : wG X 6 (eM X (fun u => (some (.int u), N, h, (rq q)))) (f_X12_offAhead h x1 x2 x3) N h (rq q) 0 0 0 [(0, .ref (xB X + 111)), (1, .int x1), (2, .int x2), (3, .int x3)] [] := by
  refine wG_of (f_X12_offAhead.eq_1 ..) ?_
  refine wG_aload_n C dX12_offAhead_0 0 rfl ?_
  refine wG_aload_n C dX12_offAhead_1 0 rfl ?_
  refine wG_getR C fl_X12_32_8 rfl kd_111 (wll hN (by decide)) (rf_111_10 q) dX12_offAhead_2 ?_
  refine wG_iload_n C dX12_offAhead_5 1 rfl ?_
  refine wG_iald C kd_115 (wll hN (by decide)) ln_115 dX12_offAhead_6 ?_
  refine wG_aload_n C dX12_offAhead_7 0 rfl ?_
  refine wG_getR C fl_X12_35_8 rfl kd_111 (wll hN (by decide)) (rf_111_11 q) dX12_offAhead_8 ?_
  refine wG_iload_n C dX12_offAhead_11 1 rfl ?_
  refine wG_iald C kd_116 (wll hN (by decide)) ln_116 dX12_offAhead_12 ?_
  refine wG_aload_n C dX12_offAhead_13 0 rfl ?_
  refine wG_getR C fl_X12_38_8 rfl kd_111 (wll hN (by decide)) (rf_111_12 q) dX12_offAhead_14 ?_
  refine wG_iload_n C dX12_offAhead_17 1 rfl ?_
  refine wG_iald C kd_117 (wll hN (by decide)) ln_117 dX12_offAhead_18 ?_
  refine wG_aload_n C dX12_offAhead_19 0 rfl ?_
  refine wG_getR C fl_X12_41_8 rfl kd_111 (wll hN (by decide)) (rf_111_13 q) dX12_offAhead_20 ?_
  refine wG_iload_n C dX12_offAhead_23 1 rfl ?_
  refine wG_iald C kd_118 (wll hN (by decide)) ln_118 dX12_offAhead_24 ?_
  refine wG_cV_ri [.int (h 115 (ix x1)), .int (h 116 (ix x1)), .int (h 117 (ix x1)), .int (h 118 (ix x1))] [] C vw_X12_151 (c_X12_weightOf (xl X) (xE X) N q hN h (h 115 (ix x1)) (h 116 (ix x1)) (h 117 (ix x1)) (h 118 (ix x1))) kd_111 (wll hN (by decide)) (by decide) rfl rfl (Nat.le_of_ble_eq_true rfl) dX12_offAhead_25 (cl' := 0) (sl' := 0) rfl rfl (fun u_1 => ?_)
  refine wG_nmI (fun x4_2 => ?_)
  refine wG_istore C (L' := [(0, .ref (xB X + 111)), (1, .int x1), (2, .int x2), (3, .int x3), (4, .int x4_2)]) dX12_offAhead_28 (by decide) [1, 2, 3, 4, 0] rfl ?_
  refine wG_iload_n C dX12_offAhead_30 2 rfl ?_
  refine wG_bind (J := (fun (t_3 : Int32) Q => gQ X 6 Q N h (rq q) 0 0 83 [(0, .ref (xB X + 111)), (1, .int x1), (4, .int x4_2)] [.int t_3])) ?_ (fun t_3 => (?_ : wG X 6 _ _ N h (rq q) 0 0 83 [(0, .ref (xB X + 111)), (1, .int x1), (4, .int x4_2)] [.int t_3]))
  · refine wG_if_eq C dX12_offAhead_31 ?_ ?_
    · refine wG_aload_n C dX12_offAhead_60 0 rfl ?_
      refine wG_aload_n C dX12_offAhead_61 0 rfl ?_
      refine wG_getR C fl_X12_32_8 rfl kd_111 (wll hN (by decide)) (rf_111_10 q) dX12_offAhead_62 ?_
      refine wG_iload_n C dX12_offAhead_65 1 rfl ?_
      refine wG_iald C kd_115 (wll hN (by decide)) ln_115 dX12_offAhead_66 ?_
      refine wG_aload_n C dX12_offAhead_67 0 rfl ?_
      refine wG_getR C fl_X12_35_8 rfl kd_111 (wll hN (by decide)) (rf_111_11 q) dX12_offAhead_68 ?_
      refine wG_iload_n C dX12_offAhead_71 1 rfl ?_
      refine wG_iald C kd_116 (wll hN (by decide)) ln_116 dX12_offAhead_72 ?_
      refine wG_aload_n C dX12_offAhead_73 0 rfl ?_
      refine wG_getR C fl_X12_38_8 rfl kd_111 (wll hN (by decide)) (rf_111_12 q) dX12_offAhead_74 ?_
      refine wG_iload_n C dX12_offAhead_77 1 rfl ?_
      refine wG_iald C kd_117 (wll hN (by decide)) ln_117 dX12_offAhead_78 ?_
      refine wG_iload_n C dX12_offAhead_79 3 rfl ?_
      refine wG_cV_ri [.int (h 115 (ix x1)), .int (h 116 (ix x1)), .int (h 117 (ix x1)), .int x3] [] C vw_X12_151 (c_X12_weightOf (xl X) (xE X) N q hN h (h 115 (ix x1)) (h 116 (ix x1)) (h 117 (ix x1)) x3) kd_111 (wll hN (by decide)) (by decide) rfl rfl (Nat.le_of_ble_eq_true rfl) dX12_offAhead_80 (cl' := 0) (sl' := 0) rfl rfl (fun u_4 => ?_)
      exact wG_exit (fun Q e => gQ_lv [0, 1, 4] rfl e)
    · refine wG_aload_n C dX12_offAhead_34 0 rfl ?_
      refine wG_aload_n C dX12_offAhead_35 0 rfl ?_
      refine wG_getR C fl_X12_32_8 rfl kd_111 (wll hN (by decide)) (rf_111_10 q) dX12_offAhead_36 ?_
      refine wG_iload_n C dX12_offAhead_39 1 rfl ?_
      refine wG_iald C kd_115 (wll hN (by decide)) ln_115 dX12_offAhead_40 ?_
      refine wG_aload_n C dX12_offAhead_41 0 rfl ?_
      refine wG_getR C fl_X12_35_8 rfl kd_111 (wll hN (by decide)) (rf_111_11 q) dX12_offAhead_42 ?_
      refine wG_iload_n C dX12_offAhead_45 1 rfl ?_
      refine wG_iald C kd_116 (wll hN (by decide)) ln_116 dX12_offAhead_46 ?_
      refine wG_iload_n C dX12_offAhead_47 3 rfl ?_
      refine wG_aload_n C dX12_offAhead_48 0 rfl ?_
      refine wG_getR C fl_X12_41_8 rfl kd_111 (wll hN (by decide)) (rf_111_13 q) dX12_offAhead_49 ?_
      refine wG_iload_n C dX12_offAhead_52 1 rfl ?_
      refine wG_iald C kd_118 (wll hN (by decide)) ln_118 dX12_offAhead_53 ?_
      refine wG_cV_ri [.int (h 115 (ix x1)), .int (h 116 (ix x1)), .int x3, .int (h 118 (ix x1))] [] C vw_X12_151 (c_X12_weightOf (xl X) (xE X) N q hN h (h 115 (ix x1)) (h 116 (ix x1)) x3 (h 118 (ix x1))) kd_111 (wll hN (by decide)) (by decide) rfl rfl (Nat.le_of_ble_eq_true rfl) dX12_offAhead_54 (cl' := 0) (sl' := 0) rfl rfl (fun u_5 => ?_)
      refine wG_goto C dX12_offAhead_57 ?_
      exact wG_exit (fun Q e => gQ_lv [0, 1, 4] rfl e)
  · refine wG_nmI (fun x5_6 => ?_)
    refine wG_istore C (L' := [(0, .ref (xB X + 111)), (1, .int x1), (4, .int x4_2), (5, .int x5_6)]) dX12_offAhead_83 (by decide) [1, 2, 3, 0] rfl ?_
    refine wG_iload C dX12_offAhead_85 2 rfl ?_
    refine wG_if_ne C dX12_offAhead_87 ?_ ?_
    · refine wG_iconst C dX12_offAhead_90 (v := 0) (by decide) ?_
      refine wG_goto C dX12_offAhead_91 ?_
      exact wG_iret C dX12_offAhead_106 ⟨by decide, by decide⟩ (fun _ e => e)
    · refine wG_aload_n C dX12_offAhead_94 0 rfl ?_
      refine wG_getR C fl_X12_50_8 rfl kd_111 (wll hN (by decide)) (rf_111_16 q) dX12_offAhead_95 ?_
      refine wG_iload_n C dX12_offAhead_98 1 rfl ?_
      refine wG_iald C kd_121 (wll hN (by decide)) ln_121 dX12_offAhead_99 ?_
      refine wG_iload C dX12_offAhead_100 3 rfl ?_
      refine wG_imul C dX12_offAhead_102 ?_
      refine wG_iload C dX12_offAhead_103 2 rfl ?_
      refine wG_idiv C dX12_offAhead_105 ?_
      exact wG_iret C dX12_offAhead_106 ⟨by decide, by decide⟩ (fun _ e => e)
theorem c_X12_offAhead (l : Launch) (E : wE) (N : Nat) (q : Qp) (hN : 137 ≤ N) (h : Hp) (x1 : Int32) (x2 : Int32) (x3 : Int32) : ∀ z, f_X12_offAhead h x1 x2 x3 = some z → CT l E yX12_offAhead cX12_offAhead 6 (some .int) rm_X12_offAhead [.ref (eB E + 111), .int x1, .int x2, .int x3] N h (rq q) ((fun u => (some (.int u), N, h, (rq q))) z) := CT.of (by decide +kernel) (Nat.le_of_ble_eq_true rfl) (fun X _ e C => by subst e; exact w_X12_offAhead C hN h x1 x2 x3)
def rm_X12_driedAhead : Room := { frames := 0, cells := 0, slots := 0, locals := 0 }
def f_X12_driedAhead (h : Hp) (x1 : Int32) (x2 : Int32) (x3 : Int32) (x4 : Int32) : Option Int32 :=
  if inB ((4 * x1) + x2) 96 then
  ((if x3 = 0 then
  if inB x1 24 then
  some (h 118 (ix x1)) else none
  else
  if inB x1 24 then
  some (h 117 (ix x1)) else none)).bind fun t_1 =>
  if t_1 = 0 then none else
  some (((h 122 (ix ((4 * x1) + x2))) * x4) / t_1) else none
set_option maxRecDepth 4000 in
theorem w_X12_driedAhead {X : wX} (C : Cx X yX12_driedAhead cX12_driedAhead 5 (some .int) rm_X12_driedAhead) {N : Nat} {q : Qp} (hN : 137 ≤ N) (h : Hp) (x1 : Int32) (x2 : Int32) (x3 : Int32) (x4 : Int32) : wG X 5 (eM X (fun u => (some (.int u), N, h, (rq q)))) (f_X12_driedAhead h x1 x2 x3 x4) N h (rq q) 0 0 0 [(0, .ref (xB X + 111)), (1, .int x1), (2, .int x2), (3, .int x3), (4, .int x4)] [] := by
  refine wG_of (f_X12_driedAhead.eq_1 ..) ?_
  refine wG_aload_n C dX12_driedAhead_0 0 rfl ?_
  refine wG_getR C fl_X12_53_8 rfl kd_111 (wll hN (by decide)) (rf_111_17 q) dX12_driedAhead_1 ?_
  refine wG_iconst C dX12_driedAhead_4 (v := 4) (by decide) ?_
  refine wG_iload_n C dX12_driedAhead_5 1 rfl ?_
  refine wG_imul C dX12_driedAhead_6 ?_
  refine wG_iload_n C dX12_driedAhead_7 2 rfl ?_
  refine wG_iadd C dX12_driedAhead_8 ?_
  refine wG_iald C kd_122 (wll hN (by decide)) ln_122 dX12_driedAhead_9 ?_
  refine wG_iload C dX12_driedAhead_10 4 rfl ?_
  refine wG_imul C dX12_driedAhead_12 ?_
  refine wG_iload_n C dX12_driedAhead_13 3 rfl ?_
  refine wG_bind (J := (fun (t_1 : Int32) Q => gQ X 5 Q N h (rq q) 0 0 32 [] [.int t_1, .int ((h 122 (ix ((4 * x1) + x2))) * x4)])) ?_ (fun t_1 => (?_ : wG X 5 _ _ N h (rq q) 0 0 32 [] [.int t_1, .int ((h 122 (ix ((4 * x1) + x2))) * x4)]))
  · refine wG_if_eq C dX12_driedAhead_14 ?_ ?_
    · refine wG_aload_n C dX12_driedAhead_26 0 rfl ?_
      refine wG_getR C fl_X12_41_8 rfl kd_111 (wll hN (by decide)) (rf_111_13 q) dX12_driedAhead_27 ?_
      refine wG_iload_n C dX12_driedAhead_30 1 rfl ?_
      refine wG_iald C kd_118 (wll hN (by decide)) ln_118 dX12_driedAhead_31 ?_
      exact wG_exit (fun Q e => gQ_lv [] rfl e)
    · refine wG_aload_n C dX12_driedAhead_17 0 rfl ?_
      refine wG_getR C fl_X12_38_8 rfl kd_111 (wll hN (by decide)) (rf_111_12 q) dX12_driedAhead_18 ?_
      refine wG_iload_n C dX12_driedAhead_21 1 rfl ?_
      refine wG_iald C kd_117 (wll hN (by decide)) ln_117 dX12_driedAhead_22 ?_
      refine wG_goto C dX12_driedAhead_23 ?_
      exact wG_exit (fun Q e => gQ_lv [] rfl e)
  · refine wG_idiv C dX12_driedAhead_32 ?_
    exact wG_iret C dX12_driedAhead_33 ⟨by decide, by decide⟩ (fun _ e => e)
theorem c_X12_driedAhead (l : Launch) (E : wE) (N : Nat) (q : Qp) (hN : 137 ≤ N) (h : Hp) (x1 : Int32) (x2 : Int32) (x3 : Int32) (x4 : Int32) : ∀ z, f_X12_driedAhead h x1 x2 x3 x4 = some z → CT l E yX12_driedAhead cX12_driedAhead 5 (some .int) rm_X12_driedAhead [.ref (eB E + 111), .int x1, .int x2, .int x3, .int x4] N h (rq q) ((fun u => (some (.int u), N, h, (rq q))) z) := CT.of (by decide +kernel) (Nat.le_of_ble_eq_true rfl) (fun X _ e C => by subst e; exact w_X12_driedAhead C hN h x1 x2 x3 x4)
def rm_X12_makeCut : Room := { frames := 2, cells := 0, slots := 0, locals := 53 }
def L_X12_makeCut_169 (x1 : Int32) (x2 : Int32) (x3 : Int32) (x4_1 : Int32) (x6_16 : Int32) : Nat → Int32 → Hp → Option Hp
  | 0, _, _ => none
  | n + 1, x7_18, h_19 =>
    (if (x6_16 + 2) ≤ x7_18 then
    some h_19
    else
    (f_X12_driedAhead h_19 x1 x7_18 x2 x3).bind fun u_21 =>
    vB u_21 fun (x8_22 : Int32) =>
    if inB ((4 * x1) + x7_18) 96 then
    if inB ((4 * x4_1) + x7_18) 96 then vB (u2 h_19 122 (ix ((4 * x4_1) + x7_18)) ((h_19 122 (ix ((4 * x1) + x7_18))) - x8_22)) fun h_23 =>
    if inB ((4 * x1) + x7_18) 96 then vB (u2 h_23 122 (ix ((4 * x1) + x7_18)) x8_22) fun h_24 =>
    vB (x7_18 + 1) fun (x7_25 : Int32) =>
    L_X12_makeCut_169 x1 x2 x3 x4_1 x6_16 n x7_25 h_24 else none else none else none)
def f_X12_makeCut (h : Hp) (x1 : Int32) (x2 : Int32) (x3 : Int32) : Option (Int32 × Hp) :=
  vB (h 111 9) fun (x4_1 : Int32) =>
  (f_X12_offAhead h x1 x2 x3).bind fun u_2 =>
  vB u_2 fun (x5_3 : Int32) =>
  if inB x1 24 then
  ((if x2 = 0 then
  some 0
  else
  some x3)).bind fun t_4 =>
  if inB x4_1 24 then vB (u2 h 115 (ix x4_1) ((h 115 (ix x1)) + t_4)) fun h_5 =>
  if inB x1 24 then
  ((if x2 = 0 then
  some x3
  else
  some 0)).bind fun t_6 =>
  if inB x4_1 24 then vB (u2 h_5 116 (ix x4_1) ((h_5 116 (ix x1)) + t_6)) fun h_7 =>
  ((if x2 = 0 then
  if inB x1 24 then
  some (h_7 117 (ix x1)) else none
  else
  if inB x1 24 then
  some ((h_7 117 (ix x1)) - x3) else none)).bind fun t_8 =>
  if inB x4_1 24 then vB (u2 h_7 117 (ix x4_1) t_8) fun h_9 =>
  ((if x2 = 0 then
  if inB x1 24 then
  some ((h_9 118 (ix x1)) - x3) else none
  else
  if inB x1 24 then
  some (h_9 118 (ix x1)) else none)).bind fun t_10 =>
  if inB x4_1 24 then vB (u2 h_9 118 (ix x4_1) t_10) fun h_11 =>
  if inB x4_1 24 then vB (u2 h_11 119 (ix x4_1) 0) fun h_12 =>
  if inB x1 24 then
  if inB x4_1 24 then vB (u2 h_12 120 (ix x4_1) (h_12 120 (ix x1))) fun h_13 =>
  if inB x1 24 then
  if inB x4_1 24 then vB (u2 h_13 121 (ix x4_1) ((h_13 121 (ix x1)) - x5_3)) fun h_14 =>
  ((if x2 = 0 then
  some 0
  else
  some 2)).bind fun t_15 =>
  vB t_15 fun (x6_16 : Int32) =>
  vB x6_16 fun (x7_17 : Int32) =>
  (L_X12_makeCut_169 x1 x2 x3 x4_1 x6_16 FU x7_17 h_14).bind fun t_20 =>
  ((if x2 = 0 then
  some 2
  else
  some 0)).bind fun t_26 =>
  vB t_26 fun (x7_27 : Int32) =>
  if inB ((4 * x4_1) + x7_27) 96 then vB (u2 t_20 122 (ix ((4 * x4_1) + x7_27)) 0) fun h_28 =>
  if inB (((4 * x1) + x7_27) + 1) 96 then
  if inB (((4 * x4_1) + x7_27) + 1) 96 then vB (u2 h_28 122 (ix (((4 * x4_1) + x7_27) + 1)) (h_28 122 (ix (((4 * x1) + x7_27) + 1)))) fun h_29 =>
  if inB (((4 * x1) + x7_27) + 1) 96 then vB (u2 h_29 122 (ix (((4 * x1) + x7_27) + 1)) 0) fun h_30 =>
  if inB x1 24 then vB (u2 h_30 121 (ix x1) x5_3) fun h_31 =>
  ((if x2 = 0 then
  if inB x1 24 then
  some (h_31 117 (ix x1)) else none
  else
  some x3)).bind fun t_32 =>
  if inB x1 24 then vB (u2 h_31 117 (ix x1) t_32) fun h_33 =>
  ((if x2 = 0 then
  some x3
  else
  if inB x1 24 then
  some (h_33 118 (ix x1)) else none)).bind fun t_34 =>
  if inB x1 24 then vB (u2 h_33 118 (ix x1) t_34) fun h_35 =>
  vB (u2 h_35 111 9 ((h_35 111 9) + 1)) fun h_36 =>
  some (x4_1, h_36) else none else none else none else none else none else none else none else none else none else none else none else none else none else none else none else none else none else none
set_option maxRecDepth 4000 in
theorem wL_X12_makeCut_169 {X : wX} (C : Cx X yX12_makeCut cX12_makeCut 9 (some .int) rm_X12_makeCut) {N : Nat} {q : Qp} (hN : 137 ≤ N) (h : Hp) (x1 : Int32) (x2 : Int32) (x3 : Int32) (x4_1 : Int32) (u_2 : Int32) (x5_3 : Int32) (t_4 : Int32) (h_5 : Hp) (t_6 : Int32) (h_7 : Hp) (t_8 : Int32) (h_9 : Hp) (t_10 : Int32) (h_11 : Hp) (h_12 : Hp) (h_13 : Hp) (h_14 : Hp) (t_15 : Int32) (x6_16 : Int32) (x7_17 : Int32) : ∀ n x7_18 h_19, wG X 9 (fun (t_20 : Hp) Q => gQ X 9 Q N t_20 (rq q) 0 0 234 [(0, .ref (xB X + 111)), (1, .int x1), (2, .int x2), (3, .int x3), (4, .int x4_1), (5, .int x5_3)] []) (L_X12_makeCut_169 x1 x2 x3 x4_1 x6_16 n x7_18 h_19) N h_19 (rq q) 0 0 169 [(0, .ref (xB X + 111)), (1, .int x1), (2, .int x2), (3, .int x3), (4, .int x4_1), (5, .int x5_3), (6, .int x6_16), (7, .int x7_18)] [] := by
  intro n
  induction n with
  | zero => intro _ _; exact wG_none
  | succ n ih =>
    intro x7_18 h_19
    refine wG_of (L_X12_makeCut_169.eq_2 ..) ?_
    refine wG_iload C dX12_makeCut_169 7 rfl ?_
    refine wG_iload C dX12_makeCut_171 6 rfl ?_
    refine wG_iconst C dX12_makeCut_173 (v := 2) (by decide) ?_
    refine wG_iadd C dX12_makeCut_174 ?_
    refine wG_icmp_ge C dX12_makeCut_175 ?_ ?_
    · exact wG_exit (fun Q e => gQ_lv [0, 1, 2, 3, 4, 5] rfl e)
    · refine wG_aload_n C dX12_makeCut_178 0 rfl ?_
      refine wG_iload_n C dX12_makeCut_179 1 rfl ?_
      refine wG_iload C dX12_makeCut_180 7 rfl ?_
      refine wG_iload_n C dX12_makeCut_182 2 rfl ?_
      refine wG_iload_n C dX12_makeCut_183 3 rfl ?_
      refine wG_cV_ri [.int x1, .int x7_18, .int x2, .int x3] [] C vw_X12_161 (c_X12_driedAhead (xl X) (xE X) N q hN h_19 x1 x7_18 x2 x3) kd_111 (wll hN (by decide)) (by decide) rfl rfl (Nat.le_of_ble_eq_true rfl) dX12_makeCut_184 (cl' := 0) (sl' := 0) rfl rfl (fun u_21 => ?_)
      refine wG_nmI (fun x8_22 => ?_)
      refine wG_istore C (L' := [(0, .ref (xB X + 111)), (1, .int x1), (2, .int x2), (3, .int x3), (4, .int x4_1), (5, .int x5_3), (6, .int x6_16), (7, .int x7_18), (8, .int x8_22)]) dX12_makeCut_187 (by decide) [1, 2, 3, 4, 5, 6, 7, 8, 0] rfl ?_
      refine wG_aload_n C dX12_makeCut_189 0 rfl ?_
      refine wG_getR C fl_X12_53_8 rfl kd_111 (wll hN (by decide)) (rf_111_17 q) dX12_makeCut_190 ?_
      refine wG_iconst C dX12_makeCut_193 (v := 4) (by decide) ?_
      refine wG_iload C dX12_makeCut_194 4 rfl ?_
      refine wG_imul C dX12_makeCut_196 ?_
      refine wG_iload C dX12_makeCut_197 7 rfl ?_
      refine wG_iadd C dX12_makeCut_199 ?_
      refine wG_aload_n C dX12_makeCut_200 0 rfl ?_
      refine wG_getR C fl_X12_53_8 rfl kd_111 (wll hN (by decide)) (rf_111_17 q) dX12_makeCut_201 ?_
      refine wG_iconst C dX12_makeCut_204 (v := 4) (by decide) ?_
      refine wG_iload_n C dX12_makeCut_205 1 rfl ?_
      refine wG_imul C dX12_makeCut_206 ?_
      refine wG_iload C dX12_makeCut_207 7 rfl ?_
      refine wG_iadd C dX12_makeCut_209 ?_
      refine wG_iald C kd_122 (wll hN (by decide)) ln_122 dX12_makeCut_210 ?_
      refine wG_iload C dX12_makeCut_211 8 rfl ?_
      refine wG_isub C dX12_makeCut_213 ?_
      refine wG_iast C kd_122 (wll hN (by decide)) ln_122 dX12_makeCut_214 (fun h_23 => ?_)
      refine wG_aload_n C dX12_makeCut_215 0 rfl ?_
      refine wG_getR C fl_X12_53_8 rfl kd_111 (wll hN (by decide)) (rf_111_17 q) dX12_makeCut_216 ?_
      refine wG_iconst C dX12_makeCut_219 (v := 4) (by decide) ?_
      refine wG_iload_n C dX12_makeCut_220 1 rfl ?_
      refine wG_imul C dX12_makeCut_221 ?_
      refine wG_iload C dX12_makeCut_222 7 rfl ?_
      refine wG_iadd C dX12_makeCut_224 ?_
      refine wG_iload C dX12_makeCut_225 8 rfl ?_
      refine wG_iast C kd_122 (wll hN (by decide)) ln_122 dX12_makeCut_227 (fun h_24 => ?_)
      refine wG_iinc C (v := 1) (LL := fun x7_25 => [(0, .ref (xB X + 111)), (1, .int x1), (2, .int x2), (3, .int x3), (4, .int x4_1), (5, .int x5_3), (6, .int x6_16), (7, .int x7_25)]) dX12_makeCut_228 7 rfl (by decide) (by decide) [1, 2, 3, 4, 5, 6, 7, 0] (fun _ => rfl) (fun x7_25 => ?_)
      refine wG_goto C dX12_makeCut_231 ?_
      exact wG_lv [0, 1, 2, 3, 4, 5, 6, 7] rfl (ih x7_25 h_24)
set_option maxRecDepth 4000 in
theorem w_X12_makeCut {X : wX} (C : Cx X yX12_makeCut cX12_makeCut 9 (some .int) rm_X12_makeCut) {N : Nat} {q : Qp} (hN : 137 ≤ N) (h : Hp) (x1 : Int32) (x2 : Int32) (x3 : Int32) : wG X 9 (eM X (fun u => (some (.int u.1), N, u.2, (rq q)))) (f_X12_makeCut h x1 x2 x3) N h (rq q) 0 0 0 [(0, .ref (xB X + 111)), (1, .int x1), (2, .int x2), (3, .int x3)] [] := by
  refine wG_of (f_X12_makeCut.eq_1 ..) ?_
  refine wG_aload_n C dX12_makeCut_0 0 rfl ?_
  refine wG_getI C fl_X12_29_8 rfl kd_111 (wll hN (by decide)) dX12_makeCut_1 ?_
  refine wG_nmI (fun x4_1 => ?_)
  refine wG_istore C (L' := [(0, .ref (xB X + 111)), (1, .int x1), (2, .int x2), (3, .int x3), (4, .int x4_1)]) dX12_makeCut_4 (by decide) [1, 2, 3, 4, 0] rfl ?_
  refine wG_aload_n C dX12_makeCut_6 0 rfl ?_
  refine wG_iload_n C dX12_makeCut_7 1 rfl ?_
  refine wG_iload_n C dX12_makeCut_8 2 rfl ?_
  refine wG_iload_n C dX12_makeCut_9 3 rfl ?_
  refine wG_cV_ri [.int x1, .int x2, .int x3] [] C vw_X12_165 (c_X12_offAhead (xl X) (xE X) N q hN h x1 x2 x3) kd_111 (wll hN (by decide)) (by decide) rfl rfl (Nat.le_of_ble_eq_true rfl) dX12_makeCut_10 (cl' := 0) (sl' := 0) rfl rfl (fun u_2 => ?_)
  refine wG_nmI (fun x5_3 => ?_)
  refine wG_istore C (L' := [(0, .ref (xB X + 111)), (1, .int x1), (2, .int x2), (3, .int x3), (4, .int x4_1), (5, .int x5_3)]) dX12_makeCut_13 (by decide) [1, 2, 3, 4, 5, 0] rfl ?_
  refine wG_aload_n C dX12_makeCut_15 0 rfl ?_
  refine wG_getR C fl_X12_32_8 rfl kd_111 (wll hN (by decide)) (rf_111_10 q) dX12_makeCut_16 ?_
  refine wG_iload C dX12_makeCut_19 4 rfl ?_
  refine wG_aload_n C dX12_makeCut_21 0 rfl ?_
  refine wG_getR C fl_X12_32_8 rfl kd_111 (wll hN (by decide)) (rf_111_10 q) dX12_makeCut_22 ?_
  refine wG_iload_n C dX12_makeCut_25 1 rfl ?_
  refine wG_iald C kd_115 (wll hN (by decide)) ln_115 dX12_makeCut_26 ?_
  refine wG_iload_n C dX12_makeCut_27 2 rfl ?_
  refine wG_bind (J := (fun (t_4 : Int32) Q => gQ X 9 Q N h (rq q) 0 0 36 [(0, .ref (xB X + 111)), (1, .int x1), (2, .int x2), (3, .int x3), (4, .int x4_1), (5, .int x5_3)] [.int t_4, .int (h 115 (ix x1)), .int x4_1, .ref (xB X + 115)])) ?_ (fun t_4 => (?_ : wG X 9 _ _ N h (rq q) 0 0 36 [(0, .ref (xB X + 111)), (1, .int x1), (2, .int x2), (3, .int x3), (4, .int x4_1), (5, .int x5_3)] [.int t_4, .int (h 115 (ix x1)), .int x4_1, .ref (xB X + 115)]))
  · refine wG_if_eq C dX12_makeCut_28 ?_ ?_
    · refine wG_iconst C dX12_makeCut_35 (v := 0) (by decide) ?_
      exact wG_exit (fun Q e => gQ_lv [0, 1, 2, 3, 4, 5] rfl e)
    · refine wG_iload_n C dX12_makeCut_31 3 rfl ?_
      refine wG_goto C dX12_makeCut_32 ?_
      exact wG_exit (fun Q e => gQ_lv [0, 1, 2, 3, 4, 5] rfl e)
  · refine wG_iadd C dX12_makeCut_36 ?_
    refine wG_iast C kd_115 (wll hN (by decide)) ln_115 dX12_makeCut_37 (fun h_5 => ?_)
    refine wG_aload_n C dX12_makeCut_38 0 rfl ?_
    refine wG_getR C fl_X12_35_8 rfl kd_111 (wll hN (by decide)) (rf_111_11 q) dX12_makeCut_39 ?_
    refine wG_iload C dX12_makeCut_42 4 rfl ?_
    refine wG_aload_n C dX12_makeCut_44 0 rfl ?_
    refine wG_getR C fl_X12_35_8 rfl kd_111 (wll hN (by decide)) (rf_111_11 q) dX12_makeCut_45 ?_
    refine wG_iload_n C dX12_makeCut_48 1 rfl ?_
    refine wG_iald C kd_116 (wll hN (by decide)) ln_116 dX12_makeCut_49 ?_
    refine wG_iload_n C dX12_makeCut_50 2 rfl ?_
    refine wG_bind (J := (fun (t_6 : Int32) Q => gQ X 9 Q N h_5 (rq q) 0 0 59 [(0, .ref (xB X + 111)), (1, .int x1), (2, .int x2), (3, .int x3), (4, .int x4_1), (5, .int x5_3)] [.int t_6, .int (h_5 116 (ix x1)), .int x4_1, .ref (xB X + 116)])) ?_ (fun t_6 => (?_ : wG X 9 _ _ N h_5 (rq q) 0 0 59 [(0, .ref (xB X + 111)), (1, .int x1), (2, .int x2), (3, .int x3), (4, .int x4_1), (5, .int x5_3)] [.int t_6, .int (h_5 116 (ix x1)), .int x4_1, .ref (xB X + 116)]))
    · refine wG_if_eq C dX12_makeCut_51 ?_ ?_
      · refine wG_iload_n C dX12_makeCut_58 3 rfl ?_
        exact wG_exit (fun Q e => gQ_lv [0, 1, 2, 3, 4, 5] rfl e)
      · refine wG_iconst C dX12_makeCut_54 (v := 0) (by decide) ?_
        refine wG_goto C dX12_makeCut_55 ?_
        exact wG_exit (fun Q e => gQ_lv [0, 1, 2, 3, 4, 5] rfl e)
    · refine wG_iadd C dX12_makeCut_59 ?_
      refine wG_iast C kd_116 (wll hN (by decide)) ln_116 dX12_makeCut_60 (fun h_7 => ?_)
      refine wG_aload_n C dX12_makeCut_61 0 rfl ?_
      refine wG_getR C fl_X12_38_8 rfl kd_111 (wll hN (by decide)) (rf_111_12 q) dX12_makeCut_62 ?_
      refine wG_iload C dX12_makeCut_65 4 rfl ?_
      refine wG_iload_n C dX12_makeCut_67 2 rfl ?_
      refine wG_bind (J := (fun (t_8 : Int32) Q => gQ X 9 Q N h_7 (rq q) 0 0 88 [(0, .ref (xB X + 111)), (1, .int x1), (2, .int x2), (3, .int x3), (4, .int x4_1), (5, .int x5_3)] [.int t_8, .int x4_1, .ref (xB X + 117)])) ?_ (fun t_8 => (?_ : wG X 9 _ _ N h_7 (rq q) 0 0 88 [(0, .ref (xB X + 111)), (1, .int x1), (2, .int x2), (3, .int x3), (4, .int x4_1), (5, .int x5_3)] [.int t_8, .int x4_1, .ref (xB X + 117)]))
      · refine wG_if_eq C dX12_makeCut_68 ?_ ?_
        · refine wG_aload_n C dX12_makeCut_82 0 rfl ?_
          refine wG_getR C fl_X12_38_8 rfl kd_111 (wll hN (by decide)) (rf_111_12 q) dX12_makeCut_83 ?_
          refine wG_iload_n C dX12_makeCut_86 1 rfl ?_
          refine wG_iald C kd_117 (wll hN (by decide)) ln_117 dX12_makeCut_87 ?_
          exact wG_exit (fun Q e => gQ_lv [0, 1, 2, 3, 4, 5] rfl e)
        · refine wG_aload_n C dX12_makeCut_71 0 rfl ?_
          refine wG_getR C fl_X12_38_8 rfl kd_111 (wll hN (by decide)) (rf_111_12 q) dX12_makeCut_72 ?_
          refine wG_iload_n C dX12_makeCut_75 1 rfl ?_
          refine wG_iald C kd_117 (wll hN (by decide)) ln_117 dX12_makeCut_76 ?_
          refine wG_iload_n C dX12_makeCut_77 3 rfl ?_
          refine wG_isub C dX12_makeCut_78 ?_
          refine wG_goto C dX12_makeCut_79 ?_
          exact wG_exit (fun Q e => gQ_lv [0, 1, 2, 3, 4, 5] rfl e)
      · refine wG_iast C kd_117 (wll hN (by decide)) ln_117 dX12_makeCut_88 (fun h_9 => ?_)
        refine wG_aload_n C dX12_makeCut_89 0 rfl ?_
        refine wG_getR C fl_X12_41_8 rfl kd_111 (wll hN (by decide)) (rf_111_13 q) dX12_makeCut_90 ?_
        refine wG_iload C dX12_makeCut_93 4 rfl ?_
        refine wG_iload_n C dX12_makeCut_95 2 rfl ?_
        refine wG_bind (J := (fun (t_10 : Int32) Q => gQ X 9 Q N h_9 (rq q) 0 0 116 [(0, .ref (xB X + 111)), (1, .int x1), (2, .int x2), (3, .int x3), (4, .int x4_1), (5, .int x5_3)] [.int t_10, .int x4_1, .ref (xB X + 118)])) ?_ (fun t_10 => (?_ : wG X 9 _ _ N h_9 (rq q) 0 0 116 [(0, .ref (xB X + 111)), (1, .int x1), (2, .int x2), (3, .int x3), (4, .int x4_1), (5, .int x5_3)] [.int t_10, .int x4_1, .ref (xB X + 118)]))
        · refine wG_if_eq C dX12_makeCut_96 ?_ ?_
          · refine wG_aload_n C dX12_makeCut_108 0 rfl ?_
            refine wG_getR C fl_X12_41_8 rfl kd_111 (wll hN (by decide)) (rf_111_13 q) dX12_makeCut_109 ?_
            refine wG_iload_n C dX12_makeCut_112 1 rfl ?_
            refine wG_iald C kd_118 (wll hN (by decide)) ln_118 dX12_makeCut_113 ?_
            refine wG_iload_n C dX12_makeCut_114 3 rfl ?_
            refine wG_isub C dX12_makeCut_115 ?_
            exact wG_exit (fun Q e => gQ_lv [0, 1, 2, 3, 4, 5] rfl e)
          · refine wG_aload_n C dX12_makeCut_99 0 rfl ?_
            refine wG_getR C fl_X12_41_8 rfl kd_111 (wll hN (by decide)) (rf_111_13 q) dX12_makeCut_100 ?_
            refine wG_iload_n C dX12_makeCut_103 1 rfl ?_
            refine wG_iald C kd_118 (wll hN (by decide)) ln_118 dX12_makeCut_104 ?_
            refine wG_goto C dX12_makeCut_105 ?_
            exact wG_exit (fun Q e => gQ_lv [0, 1, 2, 3, 4, 5] rfl e)
        · refine wG_iast C kd_118 (wll hN (by decide)) ln_118 dX12_makeCut_116 (fun h_11 => ?_)
          refine wG_aload_n C dX12_makeCut_117 0 rfl ?_
          refine wG_getR C fl_X12_44_8 rfl kd_111 (wll hN (by decide)) (rf_111_14 q) dX12_makeCut_118 ?_
          refine wG_iload C dX12_makeCut_121 4 rfl ?_
          refine wG_iconst C dX12_makeCut_123 (v := 0) (by decide) ?_
          refine wG_iast C kd_119 (wll hN (by decide)) ln_119 dX12_makeCut_124 (fun h_12 => ?_)
          refine wG_aload_n C dX12_makeCut_125 0 rfl ?_
          refine wG_getR C fl_X12_47_8 rfl kd_111 (wll hN (by decide)) (rf_111_15 q) dX12_makeCut_126 ?_
          refine wG_iload C dX12_makeCut_129 4 rfl ?_
          refine wG_aload_n C dX12_makeCut_131 0 rfl ?_
          refine wG_getR C fl_X12_47_8 rfl kd_111 (wll hN (by decide)) (rf_111_15 q) dX12_makeCut_132 ?_
          refine wG_iload_n C dX12_makeCut_135 1 rfl ?_
          refine wG_iald C kd_120 (wll hN (by decide)) ln_120 dX12_makeCut_136 ?_
          refine wG_iast C kd_120 (wll hN (by decide)) ln_120 dX12_makeCut_137 (fun h_13 => ?_)
          refine wG_aload_n C dX12_makeCut_138 0 rfl ?_
          refine wG_getR C fl_X12_50_8 rfl kd_111 (wll hN (by decide)) (rf_111_16 q) dX12_makeCut_139 ?_
          refine wG_iload C dX12_makeCut_142 4 rfl ?_
          refine wG_aload_n C dX12_makeCut_144 0 rfl ?_
          refine wG_getR C fl_X12_50_8 rfl kd_111 (wll hN (by decide)) (rf_111_16 q) dX12_makeCut_145 ?_
          refine wG_iload_n C dX12_makeCut_148 1 rfl ?_
          refine wG_iald C kd_121 (wll hN (by decide)) ln_121 dX12_makeCut_149 ?_
          refine wG_iload C dX12_makeCut_150 5 rfl ?_
          refine wG_isub C dX12_makeCut_152 ?_
          refine wG_iast C kd_121 (wll hN (by decide)) ln_121 dX12_makeCut_153 (fun h_14 => ?_)
          refine wG_iload_n C dX12_makeCut_154 2 rfl ?_
          refine wG_bind (J := (fun (t_15 : Int32) Q => gQ X 9 Q N h_14 (rq q) 0 0 163 [(0, .ref (xB X + 111)), (1, .int x1), (2, .int x2), (3, .int x3), (4, .int x4_1), (5, .int x5_3)] [.int t_15])) ?_ (fun t_15 => (?_ : wG X 9 _ _ N h_14 (rq q) 0 0 163 [(0, .ref (xB X + 111)), (1, .int x1), (2, .int x2), (3, .int x3), (4, .int x4_1), (5, .int x5_3)] [.int t_15]))
          · refine wG_if_eq C dX12_makeCut_155 ?_ ?_
            · refine wG_iconst C dX12_makeCut_162 (v := 0) (by decide) ?_
              exact wG_exit (fun Q e => gQ_lv [0, 1, 2, 3, 4, 5] rfl e)
            · refine wG_iconst C dX12_makeCut_158 (v := 2) (by decide) ?_
              refine wG_goto C dX12_makeCut_159 ?_
              exact wG_exit (fun Q e => gQ_lv [0, 1, 2, 3, 4, 5] rfl e)
          · refine wG_nmI (fun x6_16 => ?_)
            refine wG_istore C (L' := [(0, .ref (xB X + 111)), (1, .int x1), (2, .int x2), (3, .int x3), (4, .int x4_1), (5, .int x5_3), (6, .int x6_16)]) dX12_makeCut_163 (by decide) [1, 2, 3, 4, 5, 6, 0] rfl ?_
            refine wG_iload C dX12_makeCut_165 6 rfl ?_
            refine wG_nmI (fun x7_17 => ?_)
            refine wG_istore C (L' := [(0, .ref (xB X + 111)), (1, .int x1), (2, .int x2), (3, .int x3), (4, .int x4_1), (5, .int x5_3), (6, .int x6_16), (7, .int x7_17)]) dX12_makeCut_167 (by decide) [1, 2, 3, 4, 5, 6, 7, 0] rfl ?_
            refine wG_lv (L' := [(0, .ref (xB X + 111)), (1, .int x1), (2, .int x2), (3, .int x3), (4, .int x4_1), (5, .int x5_3), (6, .int x6_16), (7, .int x7_17)]) [0, 1, 2, 3, 4, 5, 6, 7] rfl ?_
            refine wG_bind (wL_X12_makeCut_169 C hN h x1 x2 x3 x4_1 u_2 x5_3 t_4 h_5 t_6 h_7 t_8 h_9 t_10 h_11 h_12 h_13 h_14 t_15 x6_16 x7_17 FU x7_17 h_14) (fun t_20 => (?_ : wG X 9 _ _ N t_20 (rq q) 0 0 234 [(0, .ref (xB X + 111)), (1, .int x1), (2, .int x2), (3, .int x3), (4, .int x4_1), (5, .int x5_3)] []))
            refine wG_iload_n C dX12_makeCut_234 2 rfl ?_
            refine wG_bind (J := (fun (t_26 : Int32) Q => gQ X 9 Q N t_20 (rq q) 0 0 243 [(0, .ref (xB X + 111)), (1, .int x1), (2, .int x2), (3, .int x3), (4, .int x4_1), (5, .int x5_3)] [.int t_26])) ?_ (fun t_26 => (?_ : wG X 9 _ _ N t_20 (rq q) 0 0 243 [(0, .ref (xB X + 111)), (1, .int x1), (2, .int x2), (3, .int x3), (4, .int x4_1), (5, .int x5_3)] [.int t_26]))
            · refine wG_if_eq C dX12_makeCut_235 ?_ ?_
              · refine wG_iconst C dX12_makeCut_242 (v := 2) (by decide) ?_
                exact wG_exit (fun Q e => gQ_lv [0, 1, 2, 3, 4, 5] rfl e)
              · refine wG_iconst C dX12_makeCut_238 (v := 0) (by decide) ?_
                refine wG_goto C dX12_makeCut_239 ?_
                exact wG_exit (fun Q e => gQ_lv [0, 1, 2, 3, 4, 5] rfl e)
            · refine wG_nmI (fun x7_27 => ?_)
              refine wG_istore C (L' := [(0, .ref (xB X + 111)), (1, .int x1), (2, .int x2), (3, .int x3), (4, .int x4_1), (5, .int x5_3), (7, .int x7_27)]) dX12_makeCut_243 (by decide) [1, 2, 3, 4, 5, 6, 0] rfl ?_
              refine wG_aload_n C dX12_makeCut_245 0 rfl ?_
              refine wG_getR C fl_X12_53_8 rfl kd_111 (wll hN (by decide)) (rf_111_17 q) dX12_makeCut_246 ?_
              refine wG_iconst C dX12_makeCut_249 (v := 4) (by decide) ?_
              refine wG_iload C dX12_makeCut_250 4 rfl ?_
              refine wG_imul C dX12_makeCut_252 ?_
              refine wG_iload C dX12_makeCut_253 6 rfl ?_
              refine wG_iadd C dX12_makeCut_255 ?_
              refine wG_iconst C dX12_makeCut_256 (v := 0) (by decide) ?_
              refine wG_iast C kd_122 (wll hN (by decide)) ln_122 dX12_makeCut_257 (fun h_28 => ?_)
              refine wG_aload_n C dX12_makeCut_258 0 rfl ?_
              refine wG_getR C fl_X12_53_8 rfl kd_111 (wll hN (by decide)) (rf_111_17 q) dX12_makeCut_259 ?_
              refine wG_iconst C dX12_makeCut_262 (v := 4) (by decide) ?_
              refine wG_iload C dX12_makeCut_263 4 rfl ?_
              refine wG_imul C dX12_makeCut_265 ?_
              refine wG_iload C dX12_makeCut_266 6 rfl ?_
              refine wG_iadd C dX12_makeCut_268 ?_
              refine wG_iconst C dX12_makeCut_269 (v := 1) (by decide) ?_
              refine wG_iadd C dX12_makeCut_270 ?_
              refine wG_aload_n C dX12_makeCut_271 0 rfl ?_
              refine wG_getR C fl_X12_53_8 rfl kd_111 (wll hN (by decide)) (rf_111_17 q) dX12_makeCut_272 ?_
              refine wG_iconst C dX12_makeCut_275 (v := 4) (by decide) ?_
              refine wG_iload_n C dX12_makeCut_276 1 rfl ?_
              refine wG_imul C dX12_makeCut_277 ?_
              refine wG_iload C dX12_makeCut_278 6 rfl ?_
              refine wG_iadd C dX12_makeCut_280 ?_
              refine wG_iconst C dX12_makeCut_281 (v := 1) (by decide) ?_
              refine wG_iadd C dX12_makeCut_282 ?_
              refine wG_iald C kd_122 (wll hN (by decide)) ln_122 dX12_makeCut_283 ?_
              refine wG_iast C kd_122 (wll hN (by decide)) ln_122 dX12_makeCut_284 (fun h_29 => ?_)
              refine wG_aload_n C dX12_makeCut_285 0 rfl ?_
              refine wG_getR C fl_X12_53_8 rfl kd_111 (wll hN (by decide)) (rf_111_17 q) dX12_makeCut_286 ?_
              refine wG_iconst C dX12_makeCut_289 (v := 4) (by decide) ?_
              refine wG_iload_n C dX12_makeCut_290 1 rfl ?_
              refine wG_imul C dX12_makeCut_291 ?_
              refine wG_iload C dX12_makeCut_292 6 rfl ?_
              refine wG_iadd C dX12_makeCut_294 ?_
              refine wG_iconst C dX12_makeCut_295 (v := 1) (by decide) ?_
              refine wG_iadd C dX12_makeCut_296 ?_
              refine wG_iconst C dX12_makeCut_297 (v := 0) (by decide) ?_
              refine wG_iast C kd_122 (wll hN (by decide)) ln_122 dX12_makeCut_298 (fun h_30 => ?_)
              refine wG_aload_n C dX12_makeCut_299 0 rfl ?_
              refine wG_getR C fl_X12_50_8 rfl kd_111 (wll hN (by decide)) (rf_111_16 q) dX12_makeCut_300 ?_
              refine wG_iload_n C dX12_makeCut_303 1 rfl ?_
              refine wG_iload C dX12_makeCut_304 5 rfl ?_
              refine wG_iast C kd_121 (wll hN (by decide)) ln_121 dX12_makeCut_306 (fun h_31 => ?_)
              refine wG_aload_n C dX12_makeCut_307 0 rfl ?_
              refine wG_getR C fl_X12_38_8 rfl kd_111 (wll hN (by decide)) (rf_111_12 q) dX12_makeCut_308 ?_
              refine wG_iload_n C dX12_makeCut_311 1 rfl ?_
              refine wG_iload_n C dX12_makeCut_312 2 rfl ?_
              refine wG_bind (J := (fun (t_32 : Int32) Q => gQ X 9 Q N h_31 (rq q) 0 0 326 [(0, .ref (xB X + 111)), (1, .int x1), (2, .int x2), (3, .int x3), (4, .int x4_1)] [.int t_32, .int x1, .ref (xB X + 117)])) ?_ (fun t_32 => (?_ : wG X 9 _ _ N h_31 (rq q) 0 0 326 [(0, .ref (xB X + 111)), (1, .int x1), (2, .int x2), (3, .int x3), (4, .int x4_1)] [.int t_32, .int x1, .ref (xB X + 117)]))
              · refine wG_if_eq C dX12_makeCut_313 ?_ ?_
                · refine wG_aload_n C dX12_makeCut_320 0 rfl ?_
                  refine wG_getR C fl_X12_38_8 rfl kd_111 (wll hN (by decide)) (rf_111_12 q) dX12_makeCut_321 ?_
                  refine wG_iload_n C dX12_makeCut_324 1 rfl ?_
                  refine wG_iald C kd_117 (wll hN (by decide)) ln_117 dX12_makeCut_325 ?_
                  exact wG_exit (fun Q e => gQ_lv [0, 1, 2, 3, 4] rfl e)
                · refine wG_iload_n C dX12_makeCut_316 3 rfl ?_
                  refine wG_goto C dX12_makeCut_317 ?_
                  exact wG_exit (fun Q e => gQ_lv [0, 1, 2, 3, 4] rfl e)
              · refine wG_iast C kd_117 (wll hN (by decide)) ln_117 dX12_makeCut_326 (fun h_33 => ?_)
                refine wG_aload_n C dX12_makeCut_327 0 rfl ?_
                refine wG_getR C fl_X12_41_8 rfl kd_111 (wll hN (by decide)) (rf_111_13 q) dX12_makeCut_328 ?_
                refine wG_iload_n C dX12_makeCut_331 1 rfl ?_
                refine wG_iload_n C dX12_makeCut_332 2 rfl ?_
                refine wG_bind (J := (fun (t_34 : Int32) Q => gQ X 9 Q N h_33 (rq q) 0 0 346 [(0, .ref (xB X + 111)), (4, .int x4_1)] [.int t_34, .int x1, .ref (xB X + 118)])) ?_ (fun t_34 => (?_ : wG X 9 _ _ N h_33 (rq q) 0 0 346 [(0, .ref (xB X + 111)), (4, .int x4_1)] [.int t_34, .int x1, .ref (xB X + 118)]))
                · refine wG_if_eq C dX12_makeCut_333 ?_ ?_
                  · refine wG_iload_n C dX12_makeCut_345 3 rfl ?_
                    exact wG_exit (fun Q e => gQ_lv [0, 4] rfl e)
                  · refine wG_aload_n C dX12_makeCut_336 0 rfl ?_
                    refine wG_getR C fl_X12_41_8 rfl kd_111 (wll hN (by decide)) (rf_111_13 q) dX12_makeCut_337 ?_
                    refine wG_iload_n C dX12_makeCut_340 1 rfl ?_
                    refine wG_iald C kd_118 (wll hN (by decide)) ln_118 dX12_makeCut_341 ?_
                    refine wG_goto C dX12_makeCut_342 ?_
                    exact wG_exit (fun Q e => gQ_lv [0, 4] rfl e)
                · refine wG_iast C kd_118 (wll hN (by decide)) ln_118 dX12_makeCut_346 (fun h_35 => ?_)
                  refine wG_aload_n C dX12_makeCut_347 0 rfl ?_
                  refine wG_dup C dX12_makeCut_348 rfl ?_
                  refine wG_getI C fl_X12_29_8 rfl kd_111 (wll hN (by decide)) dX12_makeCut_349 ?_
                  refine wG_iconst C dX12_makeCut_352 (v := 1) (by decide) ?_
                  refine wG_iadd C dX12_makeCut_353 ?_
                  refine wG_putI C fl_X12_29_8 (fp_8_9 _) (fun e => Bool.noConfusion e) rfl kd_111 (wll hN (by decide)) dX12_makeCut_354 (fun h_36 => ?_)
                  refine wG_iload C dX12_makeCut_357 1 rfl ?_
                  exact wG_iret C dX12_makeCut_359 ⟨by decide, by decide⟩ (fun _ e => e)
theorem c_X12_makeCut (l : Launch) (E : wE) (N : Nat) (q : Qp) (hN : 137 ≤ N) (h : Hp) (x1 : Int32) (x2 : Int32) (x3 : Int32) : ∀ z, f_X12_makeCut h x1 x2 x3 = some z → CT l E yX12_makeCut cX12_makeCut 9 (some .int) rm_X12_makeCut [.ref (eB E + 111), .int x1, .int x2, .int x3] N h (rq q) ((fun u => (some (.int u.1), N, u.2, (rq q))) z) := CT.of (by decide +kernel) (Nat.le_of_ble_eq_true rfl) (fun X _ e C => by subst e; exact w_X12_makeCut C hN h x1 x2 x3)
def rm_X12_cut : Room := { frames := 3, cells := 0, slots := 0, locals := 81 }
def f_X12_cut (h : Hp) (x1 : Int32) (x2 : Int32) (x3 : Int32) : Option (Int32 × Hp) :=
  vB (u2 h 111 0 0) fun h_1 =>
  (f_X12_noStand h_1 x1).bind fun u_2 =>
  (if u_2 = 0 then
  ((if x2 = 0 then
  if inB x1 24 then
  some (h_1 118 (ix x1)) else none
  else
  if inB x1 24 then
  some (h_1 117 (ix x1)) else none)).bind fun t_3 =>
  (f_X12_in x3.toInt64 1 ((t_3 - 1).toInt64)).bind fun u_4 =>
  (if u_4 = 0 then
  some ((-2), h_1)
  else
  (if (h_1 111 9) = 24 then
  some ((-4), h_1)
  else
  (f_X12_makeCut h_1 x1 x2 x3).bind fun u_5 =>
  some (u_5.1, u_5.2)))
  else
  some ((-1), h_1))
set_option maxRecDepth 4000 in
theorem w_X12_cut {X : wX} (C : Cx X yX12_cut cX12_cut 4 (some .int) rm_X12_cut) {N : Nat} {q : Qp} (hN : 137 ≤ N) (h : Hp) (x1 : Int32) (x2 : Int32) (x3 : Int32) : wG X 4 (eM X (fun u => (some (.int u.1), N, u.2, (rq q)))) (f_X12_cut h x1 x2 x3) N h (rq q) 0 0 0 [(0, .ref (xB X + 111)), (1, .int x1), (2, .int x2), (3, .int x3)] [] := by
  refine wG_of (f_X12_cut.eq_1 ..) ?_
  refine wG_aload_n C dX12_cut_0 0 rfl ?_
  refine wG_iconst C dX12_cut_1 (v := 0) (by decide) ?_
  refine wG_putI C fl_X12_1_8 (fp_8_0 _) (fun e => Bool.noConfusion e) rfl kd_111 (wll hN (by decide)) dX12_cut_2 (fun h_1 => ?_)
  refine wG_aload_n C dX12_cut_5 0 rfl ?_
  refine wG_iload_n C dX12_cut_6 1 rfl ?_
  refine wG_cV_ri [.int x1] [] C vw_X12_179 (c_X12_noStand (xl X) (xE X) N q hN h_1 x1) kd_111 (wll hN (by decide)) (by decide) rfl rfl (Nat.le_of_ble_eq_true rfl) dX12_cut_7 (cl' := 0) (sl' := 0) rfl rfl (fun u_2 => ?_)
  refine wG_if_eq C dX12_cut_10 ?_ ?_
  · refine wG_iload_n C dX12_cut_15 3 rfl ?_
    refine wG_i2l C dX12_cut_16 ?_
    refine wG_lconst C dX12_cut_17 (v := 1) (by decide) ?_
    refine wG_iload_n C dX12_cut_18 2 rfl ?_
    refine wG_bind (J := (fun (t_3 : Int32) Q => gQ X 4 Q N h_1 (rq q) 0 0 37 [(0, .ref (xB X + 111)), (1, .int x1), (2, .int x2), (3, .int x3)] [.int t_3, .long 1, .long x3.toInt64])) ?_ (fun t_3 => (?_ : wG X 4 _ _ N h_1 (rq q) 0 0 37 [(0, .ref (xB X + 111)), (1, .int x1), (2, .int x2), (3, .int x3)] [.int t_3, .long 1, .long x3.toInt64]))
    · refine wG_if_eq C dX12_cut_19 ?_ ?_
      · refine wG_aload_n C dX12_cut_31 0 rfl ?_
        refine wG_getR C fl_X12_41_8 rfl kd_111 (wll hN (by decide)) (rf_111_13 q) dX12_cut_32 ?_
        refine wG_iload_n C dX12_cut_35 1 rfl ?_
        refine wG_iald C kd_118 (wll hN (by decide)) ln_118 dX12_cut_36 ?_
        exact wG_exit (fun Q e => gQ_lv [0, 1, 2, 3] rfl e)
      · refine wG_aload_n C dX12_cut_22 0 rfl ?_
        refine wG_getR C fl_X12_38_8 rfl kd_111 (wll hN (by decide)) (rf_111_12 q) dX12_cut_23 ?_
        refine wG_iload_n C dX12_cut_26 1 rfl ?_
        refine wG_iald C kd_117 (wll hN (by decide)) ln_117 dX12_cut_27 ?_
        refine wG_goto C dX12_cut_28 ?_
        exact wG_exit (fun Q e => gQ_lv [0, 1, 2, 3] rfl e)
    · refine wG_iconst C dX12_cut_37 (v := 1) (by decide) ?_
      refine wG_isub C dX12_cut_38 ?_
      refine wG_i2l C dX12_cut_39 ?_
      refine wG_cS_ri [.long x3.toInt64, .long 1, .long ((t_3 - 1).toInt64)] [] C sw_X12_113 (c_X12_in (xl X) (xE X) N q hN h_1 x3.toInt64 1 ((t_3 - 1).toInt64)) (by decide) rfl rfl (Nat.le_of_ble_eq_true rfl) dX12_cut_40 (cl' := 0) (sl' := 0) rfl rfl (fun u_4 => ?_)
      refine wG_if_ne C dX12_cut_43 ?_ ?_
      · refine wG_bipush C dX12_cut_46 (v := (-2)) (by decide) ?_
        exact wG_iret C dX12_cut_48 ⟨by decide, by decide⟩ (fun _ e => e)
      · refine wG_aload_n C dX12_cut_49 0 rfl ?_
        refine wG_getI C fl_X12_29_8 rfl kd_111 (wll hN (by decide)) dX12_cut_50 ?_
        refine wG_bipush C dX12_cut_53 (v := 24) (by decide) ?_
        refine wG_icmp_ne C dX12_cut_55 ?_ ?_
        · refine wG_bipush C dX12_cut_58 (v := (-4)) (by decide) ?_
          refine wG_goto C dX12_cut_60 ?_
          exact wG_iret C dX12_cut_70 ⟨by decide, by decide⟩ (fun _ e => e)
        · refine wG_aload_n C dX12_cut_63 0 rfl ?_
          refine wG_iload_n C dX12_cut_64 1 rfl ?_
          refine wG_iload_n C dX12_cut_65 2 rfl ?_
          refine wG_iload_n C dX12_cut_66 3 rfl ?_
          refine wG_cV_wi [.int x1, .int x2, .int x3] [] C vw_X12_182 (c_X12_makeCut (xl X) (xE X) N q hN h_1 x1 x2 x3) kd_111 (wll hN (by decide)) (by decide) rfl rfl (Nat.le_of_ble_eq_true rfl) dX12_cut_67 (cl' := 0) (sl' := 0) rfl rfl (fun u_5 => ?_)
          exact wG_iret C dX12_cut_70 ⟨by decide, by decide⟩ (fun _ e => e)
  · refine wG_iconst C dX12_cut_13 (v := (-1)) (by decide) ?_
    exact wG_iret C dX12_cut_14 ⟨by decide, by decide⟩ (fun _ e => e)
theorem c_X12_cut (l : Launch) (E : wE) (N : Nat) (q : Qp) (hN : 137 ≤ N) (h : Hp) (x1 : Int32) (x2 : Int32) (x3 : Int32) : ∀ z, f_X12_cut h x1 x2 x3 = some z → CT l E yX12_cut cX12_cut 4 (some .int) rm_X12_cut [.ref (eB E + 111), .int x1, .int x2, .int x3] N h (rq q) ((fun u => (some (.int u.1), N, u.2, (rq q))) z) := CT.of (by decide +kernel) (Nat.le_of_ble_eq_true rfl) (fun X _ e C => by subst e; exact w_X12_cut C hN h x1 x2 x3)
def rm_X12_countOf : Room := { frames := 0, cells := 0, slots := 0, locals := 0 }
def L_X12_countOf_17 (h : Hp) (x2 : Int32) (x4 : Int32) (x5 : Int32) (x7_4 : Int32) : Nat → Int32 → Int32 → Option Int32
  | 0, _, _ => none
  | n + 1, x6_7, x8_8 =>
    (if (x2 + x4) ≤ x8_8 then
    some x6_7
    else
    if inB ((6 * x7_4) + x8_8) 36 then
    ((if (h 113 (ix ((6 * x7_4) + x8_8))) = x5 then
    some 1
    else
    some 0)).bind fun t_10 =>
    vB (x6_7 + t_10) fun (x6_11 : Int32) =>
    vB (x8_8 + 1) fun (x8_12 : Int32) =>
    L_X12_countOf_17 h x2 x4 x5 x7_4 n x6_11 x8_12 else none)
def L_X12_countOf_6 (h : Hp) (x1 : Int32) (x2 : Int32) (x3 : Int32) (x4 : Int32) (x5 : Int32) : Nat → Int32 → Int32 → Option Int32
  | 0, _, _ => none
  | n + 1, x6_3, x7_4 =>
    (if (x1 + x3) ≤ x7_4 then
    some x6_3
    else
    vB x2 fun (x8_6 : Int32) =>
    (L_X12_countOf_17 h x2 x4 x5 x7_4 FU x6_3 x8_6).bind fun t_9 =>
    vB (x7_4 + 1) fun (x7_13 : Int32) =>
    L_X12_countOf_6 h x1 x2 x3 x4 x5 n t_9 x7_13)
def f_X12_countOf (h : Hp) (x1 : Int32) (x2 : Int32) (x3 : Int32) (x4 : Int32) (x5 : Int32) : Option Int32 :=
  vB 0 fun (x6_1 : Int32) =>
  vB x1 fun (x7_2 : Int32) =>
  (L_X12_countOf_6 h x1 x2 x3 x4 x5 FU x6_1 x7_2).bind fun t_5 =>
  some t_5
set_option maxRecDepth 4000 in
theorem wL_X12_countOf_17 {X : wX} (C : Cx X yX12_countOf cX12_countOf 9 (some .int) rm_X12_countOf) {N : Nat} {q : Qp} (hN : 137 ≤ N) (h : Hp) (x1 : Int32) (x2 : Int32) (x3 : Int32) (x4 : Int32) (x5 : Int32) (x6_1 : Int32) (x7_2 : Int32) (x6_3 : Int32) (x7_4 : Int32) (x8_6 : Int32) : ∀ n x6_7 x8_8, wG X 9 (fun (t_9 : Int32) Q => gQ X 9 Q N h (rq q) 0 0 60 [(0, .ref (xB X + 111)), (1, .int x1), (2, .int x2), (3, .int x3), (4, .int x4), (5, .int x5), (6, .int t_9), (7, .int x7_4)] []) (L_X12_countOf_17 h x2 x4 x5 x7_4 n x6_7 x8_8) N h (rq q) 0 0 17 [(0, .ref (xB X + 111)), (1, .int x1), (2, .int x2), (3, .int x3), (4, .int x4), (5, .int x5), (6, .int x6_7), (7, .int x7_4), (8, .int x8_8)] [] := by
  intro n
  induction n with
  | zero => intro _ _; exact wG_none
  | succ n ih =>
    intro x6_7 x8_8
    refine wG_of (L_X12_countOf_17.eq_2 ..) ?_
    refine wG_iload C dX12_countOf_17 8 rfl ?_
    refine wG_iload_n C dX12_countOf_19 2 rfl ?_
    refine wG_iload C dX12_countOf_20 4 rfl ?_
    refine wG_iadd C dX12_countOf_22 ?_
    refine wG_icmp_ge C dX12_countOf_23 ?_ ?_
    · exact wG_exit (fun Q e => gQ_lv [0, 1, 2, 3, 4, 5, 6, 7] rfl e)
    · refine wG_iload C dX12_countOf_26 6 rfl ?_
      refine wG_aload_n C dX12_countOf_28 0 rfl ?_
      refine wG_getR C fl_X12_17_8 rfl kd_111 (wll hN (by decide)) (rf_111_3 q) dX12_countOf_29 ?_
      refine wG_bipush C dX12_countOf_32 (v := 6) (by decide) ?_
      refine wG_iload C dX12_countOf_34 7 rfl ?_
      refine wG_imul C dX12_countOf_36 ?_
      refine wG_iload C dX12_countOf_37 8 rfl ?_
      refine wG_iadd C dX12_countOf_39 ?_
      refine wG_iald C kd_113 (wll hN (by decide)) ln_113 dX12_countOf_40 ?_
      refine wG_iload C dX12_countOf_41 5 rfl ?_
      refine wG_bind (J := (fun (t_10 : Int32) Q => gQ X 9 Q N h (rq q) 0 0 51 [(0, .ref (xB X + 111)), (1, .int x1), (2, .int x2), (3, .int x3), (4, .int x4), (5, .int x5), (7, .int x7_4), (8, .int x8_8)] [.int t_10, .int x6_7])) ?_ (fun t_10 => (?_ : wG X 9 _ _ N h (rq q) 0 0 51 [(0, .ref (xB X + 111)), (1, .int x1), (2, .int x2), (3, .int x3), (4, .int x4), (5, .int x5), (7, .int x7_4), (8, .int x8_8)] [.int t_10, .int x6_7]))
      · refine wG_icmp_ne C dX12_countOf_43 ?_ ?_
        · refine wG_iconst C dX12_countOf_46 (v := 1) (by decide) ?_
          refine wG_goto C dX12_countOf_47 ?_
          exact wG_exit (fun Q e => gQ_lv [0, 1, 2, 3, 4, 5, 7, 8] rfl e)
        · refine wG_iconst C dX12_countOf_50 (v := 0) (by decide) ?_
          exact wG_exit (fun Q e => gQ_lv [0, 1, 2, 3, 4, 5, 7, 8] rfl e)
      · refine wG_iadd C dX12_countOf_51 ?_
        refine wG_nmI (fun x6_11 => ?_)
        refine wG_istore C (L' := [(0, .ref (xB X + 111)), (1, .int x1), (2, .int x2), (3, .int x3), (4, .int x4), (5, .int x5), (6, .int x6_11), (7, .int x7_4), (8, .int x8_8)]) dX12_countOf_52 (by decide) [1, 2, 3, 4, 5, 6, 0, 7, 8] rfl ?_
        refine wG_iinc C (v := 1) (LL := fun x8_12 => [(0, .ref (xB X + 111)), (1, .int x1), (2, .int x2), (3, .int x3), (4, .int x4), (5, .int x5), (6, .int x6_11), (7, .int x7_4), (8, .int x8_12)]) dX12_countOf_54 8 rfl (by decide) (by decide) [1, 2, 3, 4, 5, 6, 7, 8, 0] (fun _ => rfl) (fun x8_12 => ?_)
        refine wG_goto C dX12_countOf_57 ?_
        exact wG_lv [0, 1, 2, 3, 4, 5, 6, 7, 8] rfl (ih x6_11 x8_12)
set_option maxRecDepth 4000 in
theorem wL_X12_countOf_6 {X : wX} (C : Cx X yX12_countOf cX12_countOf 9 (some .int) rm_X12_countOf) {N : Nat} {q : Qp} (hN : 137 ≤ N) (h : Hp) (x1 : Int32) (x2 : Int32) (x3 : Int32) (x4 : Int32) (x5 : Int32) (x6_1 : Int32) (x7_2 : Int32) : ∀ n x6_3 x7_4, wG X 9 (fun (t_5 : Int32) Q => gQ X 9 Q N h (rq q) 0 0 66 [(6, .int t_5)] []) (L_X12_countOf_6 h x1 x2 x3 x4 x5 n x6_3 x7_4) N h (rq q) 0 0 6 [(0, .ref (xB X + 111)), (1, .int x1), (2, .int x2), (3, .int x3), (4, .int x4), (5, .int x5), (6, .int x6_3), (7, .int x7_4)] [] := by
  intro n
  induction n with
  | zero => intro _ _; exact wG_none
  | succ n ih =>
    intro x6_3 x7_4
    refine wG_of (L_X12_countOf_6.eq_2 ..) ?_
    refine wG_iload C dX12_countOf_6 7 rfl ?_
    refine wG_iload_n C dX12_countOf_8 1 rfl ?_
    refine wG_iload_n C dX12_countOf_9 3 rfl ?_
    refine wG_iadd C dX12_countOf_10 ?_
    refine wG_icmp_ge C dX12_countOf_11 ?_ ?_
    · exact wG_exit (fun Q e => gQ_lv [6] rfl e)
    · refine wG_iload_n C dX12_countOf_14 2 rfl ?_
      refine wG_nmI (fun x8_6 => ?_)
      refine wG_istore C (L' := [(0, .ref (xB X + 111)), (1, .int x1), (2, .int x2), (3, .int x3), (4, .int x4), (5, .int x5), (6, .int x6_3), (7, .int x7_4), (8, .int x8_6)]) dX12_countOf_15 (by decide) [1, 2, 3, 4, 5, 6, 7, 8, 0] rfl ?_
      refine wG_lv (L' := [(0, .ref (xB X + 111)), (1, .int x1), (2, .int x2), (3, .int x3), (4, .int x4), (5, .int x5), (6, .int x6_3), (7, .int x7_4), (8, .int x8_6)]) [0, 1, 2, 3, 4, 5, 6, 7, 8] rfl ?_
      refine wG_bind (wL_X12_countOf_17 C hN h x1 x2 x3 x4 x5 x6_1 x7_2 x6_3 x7_4 x8_6 FU x6_3 x8_6) (fun t_9 => (?_ : wG X 9 _ _ N h (rq q) 0 0 60 [(0, .ref (xB X + 111)), (1, .int x1), (2, .int x2), (3, .int x3), (4, .int x4), (5, .int x5), (6, .int t_9), (7, .int x7_4)] []))
      refine wG_iinc C (v := 1) (LL := fun x7_13 => [(0, .ref (xB X + 111)), (1, .int x1), (2, .int x2), (3, .int x3), (4, .int x4), (5, .int x5), (6, .int t_9), (7, .int x7_13)]) dX12_countOf_60 7 rfl (by decide) (by decide) [1, 2, 3, 4, 5, 6, 7, 0] (fun _ => rfl) (fun x7_13 => ?_)
      refine wG_goto C dX12_countOf_63 ?_
      exact wG_lv [0, 1, 2, 3, 4, 5, 6, 7] rfl (ih t_9 x7_13)
set_option maxRecDepth 4000 in
theorem w_X12_countOf {X : wX} (C : Cx X yX12_countOf cX12_countOf 9 (some .int) rm_X12_countOf) {N : Nat} {q : Qp} (hN : 137 ≤ N) (h : Hp) (x1 : Int32) (x2 : Int32) (x3 : Int32) (x4 : Int32) (x5 : Int32) : wG X 9 (eM X (fun u => (some (.int u), N, h, (rq q)))) (f_X12_countOf h x1 x2 x3 x4 x5) N h (rq q) 0 0 0 [(0, .ref (xB X + 111)), (1, .int x1), (2, .int x2), (3, .int x3), (4, .int x4), (5, .int x5)] [] := by
  refine wG_of (f_X12_countOf.eq_1 ..) ?_
  refine wG_iconst C dX12_countOf_0 (v := 0) (by decide) ?_
  refine wG_nmI (fun x6_1 => ?_)
  refine wG_istore C (L' := [(0, .ref (xB X + 111)), (1, .int x1), (2, .int x2), (3, .int x3), (4, .int x4), (5, .int x5), (6, .int x6_1)]) dX12_countOf_1 (by decide) [1, 2, 3, 4, 5, 6, 0] rfl ?_
  refine wG_iload_n C dX12_countOf_3 1 rfl ?_
  refine wG_nmI (fun x7_2 => ?_)
  refine wG_istore C (L' := [(0, .ref (xB X + 111)), (1, .int x1), (2, .int x2), (3, .int x3), (4, .int x4), (5, .int x5), (6, .int x6_1), (7, .int x7_2)]) dX12_countOf_4 (by decide) [1, 2, 3, 4, 5, 6, 7, 0] rfl ?_
  refine wG_lv (L' := [(0, .ref (xB X + 111)), (1, .int x1), (2, .int x2), (3, .int x3), (4, .int x4), (5, .int x5), (6, .int x6_1), (7, .int x7_2)]) [0, 1, 2, 3, 4, 5, 6, 7] rfl ?_
  refine wG_bind (wL_X12_countOf_6 C hN h x1 x2 x3 x4 x5 x6_1 x7_2 FU x6_1 x7_2) (fun t_5 => (?_ : wG X 9 _ _ N h (rq q) 0 0 66 [(6, .int t_5)] []))
  refine wG_iload C dX12_countOf_66 0 rfl ?_
  exact wG_iret C dX12_countOf_68 ⟨by decide, by decide⟩ (fun _ e => e)
theorem c_X12_countOf (l : Launch) (E : wE) (N : Nat) (q : Qp) (hN : 137 ≤ N) (h : Hp) (x1 : Int32) (x2 : Int32) (x3 : Int32) (x4 : Int32) (x5 : Int32) : ∀ z, f_X12_countOf h x1 x2 x3 x4 x5 = some z → CT l E yX12_countOf cX12_countOf 9 (some .int) rm_X12_countOf [.ref (eB E + 111), .int x1, .int x2, .int x3, .int x4, .int x5] N h (rq q) ((fun u => (some (.int u), N, h, (rq q))) z) := CT.of (by decide +kernel) (Nat.le_of_ble_eq_true rfl) (fun X _ e C => by subst e; exact w_X12_countOf C hN h x1 x2 x3 x4 x5)
def rm_X12_face : Room := { frames := 0, cells := 0, slots := 0, locals := 0 }
def f_X12_face (h : Hp) (x1 : Int32) (x2 : Int32) : Option Int32 :=
  ((if x2 = 0 then
  if inB x1 24 then
  (if (h 115 (ix x1)) ≤ 0 then
  some 0
  else
  some 1) else none
  else
  (if x2 = 1 then
  if inB x1 24 then
  if inB x1 24 then
  (if (h 111 4) ≤ ((h 115 (ix x1)) + (h 117 (ix x1))) then
  some 0
  else
  some 1) else none else none
  else
  (if x2 = 2 then
  if inB x1 24 then
  (if (h 116 (ix x1)) ≤ 0 then
  some 0
  else
  some 1) else none
  else
  if inB x1 24 then
  if inB x1 24 then
  (if (h 111 5) ≤ ((h 116 (ix x1)) + (h 118 (ix x1))) then
  some 0
  else
  some 1) else none else none)))).bind fun t_1 =>
  vB t_1 fun (x3_2 : Int32) =>
  (if x3_2 = 0 then
  some 0
  else
  (if (2 : Int32) ≤ x2 then
  if inB x1 24 then
  some (h 117 (ix x1)) else none
  else
  if inB x1 24 then
  some (h 118 (ix x1)) else none))
set_option maxRecDepth 4000 in
theorem w_X12_face {X : wX} (C : Cx X yX12_face cX12_face 4 (some .int) rm_X12_face) {N : Nat} {q : Qp} (hN : 137 ≤ N) (h : Hp) (x1 : Int32) (x2 : Int32) : wG X 4 (eM X (fun u => (some (.int u), N, h, (rq q)))) (f_X12_face h x1 x2) N h (rq q) 0 0 0 [(0, .ref (xB X + 111)), (1, .int x1), (2, .int x2)] [] := by
  refine wG_of (f_X12_face.eq_1 ..) ?_
  refine wG_iload_n C dX12_face_0 2 rfl ?_
  refine wG_bind (J := (fun (t_1 : Int32) Q => gQ X 4 Q N h (rq q) 0 0 101 [(0, .ref (xB X + 111)), (1, .int x1), (2, .int x2)] [.int t_1])) ?_ (fun t_1 => (?_ : wG X 4 _ _ N h (rq q) 0 0 101 [(0, .ref (xB X + 111)), (1, .int x1), (2, .int x2)] [.int t_1]))
  · refine wG_if_ne C dX12_face_1 ?_ ?_
    · refine wG_aload_n C dX12_face_4 0 rfl ?_
      refine wG_getR C fl_X12_32_8 rfl kd_111 (wll hN (by decide)) (rf_111_10 q) dX12_face_5 ?_
      refine wG_iload_n C dX12_face_8 1 rfl ?_
      refine wG_iald C kd_115 (wll hN (by decide)) ln_115 dX12_face_9 ?_
      refine wG_if_le C dX12_face_10 ?_ ?_
      · refine wG_iconst C dX12_face_17 (v := 0) (by decide) ?_
        refine wG_goto C dX12_face_18 ?_
        exact wG_exit (fun Q e => gQ_lv [0, 1, 2] rfl e)
      · refine wG_iconst C dX12_face_13 (v := 1) (by decide) ?_
        refine wG_goto C dX12_face_14 ?_
        exact wG_exit (fun Q e => gQ_lv [0, 1, 2] rfl e)
    · refine wG_iload_n C dX12_face_21 2 rfl ?_
      refine wG_iconst C dX12_face_22 (v := 1) (by decide) ?_
      refine wG_icmp_ne C dX12_face_23 ?_ ?_
      · refine wG_aload_n C dX12_face_26 0 rfl ?_
        refine wG_getR C fl_X12_32_8 rfl kd_111 (wll hN (by decide)) (rf_111_10 q) dX12_face_27 ?_
        refine wG_iload_n C dX12_face_30 1 rfl ?_
        refine wG_iald C kd_115 (wll hN (by decide)) ln_115 dX12_face_31 ?_
        refine wG_aload_n C dX12_face_32 0 rfl ?_
        refine wG_getR C fl_X12_38_8 rfl kd_111 (wll hN (by decide)) (rf_111_12 q) dX12_face_33 ?_
        refine wG_iload_n C dX12_face_36 1 rfl ?_
        refine wG_iald C kd_117 (wll hN (by decide)) ln_117 dX12_face_37 ?_
        refine wG_iadd C dX12_face_38 ?_
        refine wG_aload_n C dX12_face_39 0 rfl ?_
        refine wG_getI C fl_X12_20_8 rfl kd_111 (wll hN (by decide)) dX12_face_40 ?_
        refine wG_icmp_ge C dX12_face_43 ?_ ?_
        · refine wG_iconst C dX12_face_50 (v := 0) (by decide) ?_
          refine wG_goto C dX12_face_51 ?_
          exact wG_exit (fun Q e => gQ_lv [0, 1, 2] rfl e)
        · refine wG_iconst C dX12_face_46 (v := 1) (by decide) ?_
          refine wG_goto C dX12_face_47 ?_
          exact wG_exit (fun Q e => gQ_lv [0, 1, 2] rfl e)
      · refine wG_iload_n C dX12_face_54 2 rfl ?_
        refine wG_iconst C dX12_face_55 (v := 2) (by decide) ?_
        refine wG_icmp_ne C dX12_face_56 ?_ ?_
        · refine wG_aload_n C dX12_face_59 0 rfl ?_
          refine wG_getR C fl_X12_35_8 rfl kd_111 (wll hN (by decide)) (rf_111_11 q) dX12_face_60 ?_
          refine wG_iload_n C dX12_face_63 1 rfl ?_
          refine wG_iald C kd_116 (wll hN (by decide)) ln_116 dX12_face_64 ?_
          refine wG_if_le C dX12_face_65 ?_ ?_
          · refine wG_iconst C dX12_face_72 (v := 0) (by decide) ?_
            refine wG_goto C dX12_face_73 ?_
            exact wG_exit (fun Q e => gQ_lv [0, 1, 2] rfl e)
          · refine wG_iconst C dX12_face_68 (v := 1) (by decide) ?_
            refine wG_goto C dX12_face_69 ?_
            exact wG_exit (fun Q e => gQ_lv [0, 1, 2] rfl e)
        · refine wG_aload_n C dX12_face_76 0 rfl ?_
          refine wG_getR C fl_X12_35_8 rfl kd_111 (wll hN (by decide)) (rf_111_11 q) dX12_face_77 ?_
          refine wG_iload_n C dX12_face_80 1 rfl ?_
          refine wG_iald C kd_116 (wll hN (by decide)) ln_116 dX12_face_81 ?_
          refine wG_aload_n C dX12_face_82 0 rfl ?_
          refine wG_getR C fl_X12_41_8 rfl kd_111 (wll hN (by decide)) (rf_111_13 q) dX12_face_83 ?_
          refine wG_iload_n C dX12_face_86 1 rfl ?_
          refine wG_iald C kd_118 (wll hN (by decide)) ln_118 dX12_face_87 ?_
          refine wG_iadd C dX12_face_88 ?_
          refine wG_aload_n C dX12_face_89 0 rfl ?_
          refine wG_getI C fl_X12_23_8 rfl kd_111 (wll hN (by decide)) dX12_face_90 ?_
          refine wG_icmp_ge C dX12_face_93 ?_ ?_
          · refine wG_iconst C dX12_face_100 (v := 0) (by decide) ?_
            exact wG_exit (fun Q e => gQ_lv [0, 1, 2] rfl e)
          · refine wG_iconst C dX12_face_96 (v := 1) (by decide) ?_
            refine wG_goto C dX12_face_97 ?_
            exact wG_exit (fun Q e => gQ_lv [0, 1, 2] rfl e)
  · refine wG_nmI (fun x3_2 => ?_)
    refine wG_istore_n C (L' := [(0, .ref (xB X + 111)), (1, .int x1), (2, .int x2), (3, .int x3_2)]) dX12_face_101 (by decide) [1, 2, 3, 0] rfl ?_
    refine wG_iload_n C dX12_face_102 3 rfl ?_
    refine wG_if_ne C dX12_face_103 ?_ ?_
    · refine wG_iconst C dX12_face_106 (v := 0) (by decide) ?_
      refine wG_goto C dX12_face_107 ?_
      exact wG_iret C dX12_face_130 ⟨by decide, by decide⟩ (fun _ e => e)
    · refine wG_iload_n C dX12_face_110 2 rfl ?_
      refine wG_iconst C dX12_face_111 (v := 2) (by decide) ?_
      refine wG_icmp_ge C dX12_face_112 ?_ ?_
      · refine wG_aload_n C dX12_face_124 0 rfl ?_
        refine wG_getR C fl_X12_38_8 rfl kd_111 (wll hN (by decide)) (rf_111_12 q) dX12_face_125 ?_
        refine wG_iload_n C dX12_face_128 1 rfl ?_
        refine wG_iald C kd_117 (wll hN (by decide)) ln_117 dX12_face_129 ?_
        exact wG_iret C dX12_face_130 ⟨by decide, by decide⟩ (fun _ e => e)
      · refine wG_aload_n C dX12_face_115 0 rfl ?_
        refine wG_getR C fl_X12_41_8 rfl kd_111 (wll hN (by decide)) (rf_111_13 q) dX12_face_116 ?_
        refine wG_iload_n C dX12_face_119 1 rfl ?_
        refine wG_iald C kd_118 (wll hN (by decide)) ln_118 dX12_face_120 ?_
        refine wG_goto C dX12_face_121 ?_
        exact wG_iret C dX12_face_130 ⟨by decide, by decide⟩ (fun _ e => e)
theorem c_X12_face (l : Launch) (E : wE) (N : Nat) (q : Qp) (hN : 137 ≤ N) (h : Hp) (x1 : Int32) (x2 : Int32) : ∀ z, f_X12_face h x1 x2 = some z → CT l E yX12_face cX12_face 4 (some .int) rm_X12_face [.ref (eB E + 111), .int x1, .int x2] N h (rq q) ((fun u => (some (.int u), N, h, (rq q))) z) := CT.of (by decide +kernel) (Nat.le_of_ble_eq_true rfl) (fun X _ e C => by subst e; exact w_X12_face C hN h x1 x2)
def rm_X12_edges : Room := { frames := 1, cells := 0, slots := 0, locals := 23 }
def L_X12_edges_4 (h : Hp) (x1 : Int32) : Nat → Int32 → Int32 → Option Int32
  | 0, _, _ => none
  | n + 1, x2_3, x3_4 =>
    (if (4 : Int32) ≤ x3_4 then
    some x2_3
    else
    (f_X12_face h x1 x3_4).bind fun u_6 =>
    vB (x2_3 + u_6) fun (x2_7 : Int32) =>
    vB (x3_4 + 1) fun (x3_8 : Int32) =>
    L_X12_edges_4 h x1 n x2_7 x3_8)
def f_X12_edges (h : Hp) (x1 : Int32) : Option Int32 :=
  vB 0 fun (x2_1 : Int32) =>
  vB 0 fun (x3_2 : Int32) =>
  (L_X12_edges_4 h x1 FU x2_1 x3_2).bind fun t_5 =>
  some t_5
set_option maxRecDepth 4000 in
theorem wL_X12_edges_4 {X : wX} (C : Cx X yX12_edges cX12_edges 4 (some .int) rm_X12_edges) {N : Nat} {q : Qp} (hN : 137 ≤ N) (h : Hp) (x1 : Int32) (x2_1 : Int32) (x3_2 : Int32) : ∀ n x2_3 x3_4, wG X 4 (fun (t_5 : Int32) Q => gQ X 4 Q N h (rq q) 0 0 24 [(2, .int t_5)] []) (L_X12_edges_4 h x1 n x2_3 x3_4) N h (rq q) 0 0 4 [(0, .ref (xB X + 111)), (1, .int x1), (2, .int x2_3), (3, .int x3_4)] [] := by
  intro n
  induction n with
  | zero => intro _ _; exact wG_none
  | succ n ih =>
    intro x2_3 x3_4
    refine wG_of (L_X12_edges_4.eq_2 ..) ?_
    refine wG_iload_n C dX12_edges_4 3 rfl ?_
    refine wG_iconst C dX12_edges_5 (v := 4) (by decide) ?_
    refine wG_icmp_ge C dX12_edges_6 ?_ ?_
    · exact wG_exit (fun Q e => gQ_lv [2] rfl e)
    · refine wG_iload_n C dX12_edges_9 2 rfl ?_
      refine wG_aload_n C dX12_edges_10 0 rfl ?_
      refine wG_iload_n C dX12_edges_11 1 rfl ?_
      refine wG_iload_n C dX12_edges_12 3 rfl ?_
      refine wG_cV_ri [.int x1, .int x3_4] [.int x2_3] C vw_X12_147 (c_X12_face (xl X) (xE X) N q hN h x1 x3_4) kd_111 (wll hN (by decide)) (by decide) rfl rfl (Nat.le_of_ble_eq_true rfl) dX12_edges_13 (cl' := 0) (sl' := 0) rfl rfl (fun u_6 => ?_)
      refine wG_iadd C dX12_edges_16 ?_
      refine wG_nmI (fun x2_7 => ?_)
      refine wG_istore_n C (L' := [(0, .ref (xB X + 111)), (1, .int x1), (2, .int x2_7), (3, .int x3_4)]) dX12_edges_17 (by decide) [1, 2, 0, 3] rfl ?_
      refine wG_iinc C (v := 1) (LL := fun x3_8 => [(0, .ref (xB X + 111)), (1, .int x1), (2, .int x2_7), (3, .int x3_8)]) dX12_edges_18 3 rfl (by decide) (by decide) [1, 2, 3, 0] (fun _ => rfl) (fun x3_8 => ?_)
      refine wG_goto C dX12_edges_21 ?_
      exact wG_lv [0, 1, 2, 3] rfl (ih x2_7 x3_8)
set_option maxRecDepth 4000 in
theorem w_X12_edges {X : wX} (C : Cx X yX12_edges cX12_edges 4 (some .int) rm_X12_edges) {N : Nat} {q : Qp} (hN : 137 ≤ N) (h : Hp) (x1 : Int32) : wG X 4 (eM X (fun u => (some (.int u), N, h, (rq q)))) (f_X12_edges h x1) N h (rq q) 0 0 0 [(0, .ref (xB X + 111)), (1, .int x1)] [] := by
  refine wG_of (f_X12_edges.eq_1 ..) ?_
  refine wG_iconst C dX12_edges_0 (v := 0) (by decide) ?_
  refine wG_nmI (fun x2_1 => ?_)
  refine wG_istore_n C (L' := [(0, .ref (xB X + 111)), (1, .int x1), (2, .int x2_1)]) dX12_edges_1 (by decide) [1, 2, 0] rfl ?_
  refine wG_iconst C dX12_edges_2 (v := 0) (by decide) ?_
  refine wG_nmI (fun x3_2 => ?_)
  refine wG_istore_n C (L' := [(0, .ref (xB X + 111)), (1, .int x1), (2, .int x2_1), (3, .int x3_2)]) dX12_edges_3 (by decide) [1, 2, 3, 0] rfl ?_
  refine wG_lv (L' := [(0, .ref (xB X + 111)), (1, .int x1), (2, .int x2_1), (3, .int x3_2)]) [0, 1, 2, 3] rfl ?_
  refine wG_bind (wL_X12_edges_4 C hN h x1 x2_1 x3_2 FU x2_1 x3_2) (fun t_5 => (?_ : wG X 4 _ _ N h (rq q) 0 0 24 [(2, .int t_5)] []))
  refine wG_iload_n C dX12_edges_24 0 rfl ?_
  exact wG_iret C dX12_edges_25 ⟨by decide, by decide⟩ (fun _ e => e)
theorem c_X12_edges (l : Launch) (E : wE) (N : Nat) (q : Qp) (hN : 137 ≤ N) (h : Hp) (x1 : Int32) : ∀ z, f_X12_edges h x1 = some z → CT l E yX12_edges cX12_edges 4 (some .int) rm_X12_edges [.ref (eB E + 111), .int x1] N h (rq q) ((fun u => (some (.int u), N, h, (rq q))) z) := CT.of (by decide +kernel) (Nat.le_of_ble_eq_true rfl) (fun X _ e C => by subst e; exact w_X12_edges C hN h x1)
def rm_X12_allDried : Room := { frames := 0, cells := 0, slots := 0, locals := 0 }
def L_X12_allDried_4 (h : Hp) (x1 : Int32) : Nat → Int32 → Int32 → Option Int32
  | 0, _, _ => none
  | n + 1, x2_3, x3_4 =>
    (if (4 : Int32) ≤ x3_4 then
    some x2_3
    else
    if inB ((4 * x1) + x3_4) 96 then
    vB (x2_3 + (h 122 (ix ((4 * x1) + x3_4)))) fun (x2_6 : Int32) =>
    vB (x3_4 + 1) fun (x3_7 : Int32) =>
    L_X12_allDried_4 h x1 n x2_6 x3_7 else none)
def f_X12_allDried (h : Hp) (x1 : Int32) : Option Int32 :=
  vB 0 fun (x2_1 : Int32) =>
  vB 0 fun (x3_2 : Int32) =>
  (L_X12_allDried_4 h x1 FU x2_1 x3_2).bind fun t_5 =>
  some t_5
set_option maxRecDepth 4000 in
theorem wL_X12_allDried_4 {X : wX} (C : Cx X yX12_allDried cX12_allDried 4 (some .int) rm_X12_allDried) {N : Nat} {q : Qp} (hN : 137 ≤ N) (h : Hp) (x1 : Int32) (x2_1 : Int32) (x3_2 : Int32) : ∀ n x2_3 x3_4, wG X 4 (fun (t_5 : Int32) Q => gQ X 4 Q N h (rq q) 0 0 28 [(2, .int t_5)] []) (L_X12_allDried_4 h x1 n x2_3 x3_4) N h (rq q) 0 0 4 [(0, .ref (xB X + 111)), (1, .int x1), (2, .int x2_3), (3, .int x3_4)] [] := by
  intro n
  induction n with
  | zero => intro _ _; exact wG_none
  | succ n ih =>
    intro x2_3 x3_4
    refine wG_of (L_X12_allDried_4.eq_2 ..) ?_
    refine wG_iload_n C dX12_allDried_4 3 rfl ?_
    refine wG_iconst C dX12_allDried_5 (v := 4) (by decide) ?_
    refine wG_icmp_ge C dX12_allDried_6 ?_ ?_
    · exact wG_exit (fun Q e => gQ_lv [2] rfl e)
    · refine wG_iload_n C dX12_allDried_9 2 rfl ?_
      refine wG_aload_n C dX12_allDried_10 0 rfl ?_
      refine wG_getR C fl_X12_53_8 rfl kd_111 (wll hN (by decide)) (rf_111_17 q) dX12_allDried_11 ?_
      refine wG_iconst C dX12_allDried_14 (v := 4) (by decide) ?_
      refine wG_iload_n C dX12_allDried_15 1 rfl ?_
      refine wG_imul C dX12_allDried_16 ?_
      refine wG_iload_n C dX12_allDried_17 3 rfl ?_
      refine wG_iadd C dX12_allDried_18 ?_
      refine wG_iald C kd_122 (wll hN (by decide)) ln_122 dX12_allDried_19 ?_
      refine wG_iadd C dX12_allDried_20 ?_
      refine wG_nmI (fun x2_6 => ?_)
      refine wG_istore_n C (L' := [(0, .ref (xB X + 111)), (1, .int x1), (2, .int x2_6), (3, .int x3_4)]) dX12_allDried_21 (by decide) [1, 2, 0, 3] rfl ?_
      refine wG_iinc C (v := 1) (LL := fun x3_7 => [(0, .ref (xB X + 111)), (1, .int x1), (2, .int x2_6), (3, .int x3_7)]) dX12_allDried_22 3 rfl (by decide) (by decide) [1, 2, 3, 0] (fun _ => rfl) (fun x3_7 => ?_)
      refine wG_goto C dX12_allDried_25 ?_
      exact wG_lv [0, 1, 2, 3] rfl (ih x2_6 x3_7)
set_option maxRecDepth 4000 in
theorem w_X12_allDried {X : wX} (C : Cx X yX12_allDried cX12_allDried 4 (some .int) rm_X12_allDried) {N : Nat} {q : Qp} (hN : 137 ≤ N) (h : Hp) (x1 : Int32) : wG X 4 (eM X (fun u => (some (.int u), N, h, (rq q)))) (f_X12_allDried h x1) N h (rq q) 0 0 0 [(0, .ref (xB X + 111)), (1, .int x1)] [] := by
  refine wG_of (f_X12_allDried.eq_1 ..) ?_
  refine wG_iconst C dX12_allDried_0 (v := 0) (by decide) ?_
  refine wG_nmI (fun x2_1 => ?_)
  refine wG_istore_n C (L' := [(0, .ref (xB X + 111)), (1, .int x1), (2, .int x2_1)]) dX12_allDried_1 (by decide) [1, 2, 0] rfl ?_
  refine wG_iconst C dX12_allDried_2 (v := 0) (by decide) ?_
  refine wG_nmI (fun x3_2 => ?_)
  refine wG_istore_n C (L' := [(0, .ref (xB X + 111)), (1, .int x1), (2, .int x2_1), (3, .int x3_2)]) dX12_allDried_3 (by decide) [1, 2, 3, 0] rfl ?_
  refine wG_lv (L' := [(0, .ref (xB X + 111)), (1, .int x1), (2, .int x2_1), (3, .int x3_2)]) [0, 1, 2, 3] rfl ?_
  refine wG_bind (wL_X12_allDried_4 C hN h x1 x2_1 x3_2 FU x2_1 x3_2) (fun t_5 => (?_ : wG X 4 _ _ N h (rq q) 0 0 28 [(2, .int t_5)] []))
  refine wG_iload_n C dX12_allDried_28 0 rfl ?_
  exact wG_iret C dX12_allDried_29 ⟨by decide, by decide⟩ (fun _ e => e)
theorem c_X12_allDried (l : Launch) (E : wE) (N : Nat) (q : Qp) (hN : 137 ≤ N) (h : Hp) (x1 : Int32) : ∀ z, f_X12_allDried h x1 = some z → CT l E yX12_allDried cX12_allDried 4 (some .int) rm_X12_allDried [.ref (eB E + 111), .int x1] N h (rq q) ((fun u => (some (.int u), N, h, (rq q))) z) := CT.of (by decide +kernel) (Nat.le_of_ble_eq_true rfl) (fun X _ e C => by subst e; exact w_X12_allDried C hN h x1)
def rm_X12_isEnd : Room := { frames := 1, cells := 0, slots := 0, locals := 23 }
def L_X12_isEnd_4 (h : Hp) (x1 : Int32) : Nat → Int32 → Int32 → Option Int32
  | 0, _, _ => none
  | n + 1, x2_3, x3_4 =>
    (if (4 : Int32) ≤ x3_4 then
    some x2_3
    else
    (f_X12_face h x1 x3_4).bind fun u_6 =>
    ((if u_6 = 0 then
    some 1
    else
    some 0)).bind fun t_7 =>
    vB (x2_3 + t_7) fun (x2_8 : Int32) =>
    vB (x3_4 + 1) fun (x3_9 : Int32) =>
    L_X12_isEnd_4 h x1 n x2_8 x3_9)
def f_X12_isEnd (h : Hp) (x1 : Int32) : Option Int32 :=
  vB 0 fun (x2_1 : Int32) =>
  vB 0 fun (x3_2 : Int32) =>
  (L_X12_isEnd_4 h x1 FU x2_1 x3_2).bind fun t_5 =>
  (if t_5 ≤ 2 then
  some 0
  else
  some 1)
set_option maxRecDepth 4000 in
theorem wL_X12_isEnd_4 {X : wX} (C : Cx X yX12_isEnd cX12_isEnd 4 (some .boolean) rm_X12_isEnd) {N : Nat} {q : Qp} (hN : 137 ≤ N) (h : Hp) (x1 : Int32) (x2_1 : Int32) (x3_2 : Int32) : ∀ n x2_3 x3_4, wG X 4 (fun (t_5 : Int32) Q => gQ X 4 Q N h (rq q) 0 0 32 [(2, .int t_5)] []) (L_X12_isEnd_4 h x1 n x2_3 x3_4) N h (rq q) 0 0 4 [(0, .ref (xB X + 111)), (1, .int x1), (2, .int x2_3), (3, .int x3_4)] [] := by
  intro n
  induction n with
  | zero => intro _ _; exact wG_none
  | succ n ih =>
    intro x2_3 x3_4
    refine wG_of (L_X12_isEnd_4.eq_2 ..) ?_
    refine wG_iload_n C dX12_isEnd_4 3 rfl ?_
    refine wG_iconst C dX12_isEnd_5 (v := 4) (by decide) ?_
    refine wG_icmp_ge C dX12_isEnd_6 ?_ ?_
    · exact wG_exit (fun Q e => gQ_lv [2] rfl e)
    · refine wG_iload_n C dX12_isEnd_9 2 rfl ?_
      refine wG_aload_n C dX12_isEnd_10 0 rfl ?_
      refine wG_iload_n C dX12_isEnd_11 1 rfl ?_
      refine wG_iload_n C dX12_isEnd_12 3 rfl ?_
      refine wG_cV_ri [.int x1, .int x3_4] [.int x2_3] C vw_X12_147 (c_X12_face (xl X) (xE X) N q hN h x1 x3_4) kd_111 (wll hN (by decide)) (by decide) rfl rfl (Nat.le_of_ble_eq_true rfl) dX12_isEnd_13 (cl' := 0) (sl' := 0) rfl rfl (fun u_6 => ?_)
      refine wG_bind (J := (fun (t_7 : Int32) Q => gQ X 4 Q N h (rq q) 0 0 24 [(0, .ref (xB X + 111)), (1, .int x1), (3, .int x3_4)] [.int t_7, .int x2_3])) ?_ (fun t_7 => (?_ : wG X 4 _ _ N h (rq q) 0 0 24 [(0, .ref (xB X + 111)), (1, .int x1), (3, .int x3_4)] [.int t_7, .int x2_3]))
      · refine wG_if_ne C dX12_isEnd_16 ?_ ?_
        · refine wG_iconst C dX12_isEnd_19 (v := 1) (by decide) ?_
          refine wG_goto C dX12_isEnd_20 ?_
          exact wG_exit (fun Q e => gQ_lv [0, 1, 3] rfl e)
        · refine wG_iconst C dX12_isEnd_23 (v := 0) (by decide) ?_
          exact wG_exit (fun Q e => gQ_lv [0, 1, 3] rfl e)
      · refine wG_iadd C dX12_isEnd_24 ?_
        refine wG_nmI (fun x2_8 => ?_)
        refine wG_istore_n C (L' := [(0, .ref (xB X + 111)), (1, .int x1), (2, .int x2_8), (3, .int x3_4)]) dX12_isEnd_25 (by decide) [1, 2, 0, 3] rfl ?_
        refine wG_iinc C (v := 1) (LL := fun x3_9 => [(0, .ref (xB X + 111)), (1, .int x1), (2, .int x2_8), (3, .int x3_9)]) dX12_isEnd_26 3 rfl (by decide) (by decide) [1, 2, 3, 0] (fun _ => rfl) (fun x3_9 => ?_)
        refine wG_goto C dX12_isEnd_29 ?_
        exact wG_lv [0, 1, 2, 3] rfl (ih x2_8 x3_9)
set_option maxRecDepth 4000 in
theorem w_X12_isEnd {X : wX} (C : Cx X yX12_isEnd cX12_isEnd 4 (some .boolean) rm_X12_isEnd) {N : Nat} {q : Qp} (hN : 137 ≤ N) (h : Hp) (x1 : Int32) : wG X 4 (eM X (fun u => (some (.int u), N, h, (rq q)))) (f_X12_isEnd h x1) N h (rq q) 0 0 0 [(0, .ref (xB X + 111)), (1, .int x1)] [] := by
  refine wG_of (f_X12_isEnd.eq_1 ..) ?_
  refine wG_iconst C dX12_isEnd_0 (v := 0) (by decide) ?_
  refine wG_nmI (fun x2_1 => ?_)
  refine wG_istore_n C (L' := [(0, .ref (xB X + 111)), (1, .int x1), (2, .int x2_1)]) dX12_isEnd_1 (by decide) [1, 2, 0] rfl ?_
  refine wG_iconst C dX12_isEnd_2 (v := 0) (by decide) ?_
  refine wG_nmI (fun x3_2 => ?_)
  refine wG_istore_n C (L' := [(0, .ref (xB X + 111)), (1, .int x1), (2, .int x2_1), (3, .int x3_2)]) dX12_isEnd_3 (by decide) [1, 2, 3, 0] rfl ?_
  refine wG_lv (L' := [(0, .ref (xB X + 111)), (1, .int x1), (2, .int x2_1), (3, .int x3_2)]) [0, 1, 2, 3] rfl ?_
  refine wG_bind (wL_X12_isEnd_4 C hN h x1 x2_1 x3_2 FU x2_1 x3_2) (fun t_5 => (?_ : wG X 4 _ _ N h (rq q) 0 0 32 [(2, .int t_5)] []))
  refine wG_iload_n C dX12_isEnd_32 0 rfl ?_
  refine wG_iconst C dX12_isEnd_33 (v := 2) (by decide) ?_
  refine wG_icmp_le C dX12_isEnd_34 ?_ ?_
  · refine wG_iconst C dX12_isEnd_41 (v := 0) (by decide) ?_
    exact wG_zret C dX12_isEnd_42 rfl ⟨by decide, by decide⟩ (fun _ e => e)
  · refine wG_iconst C dX12_isEnd_37 (v := 1) (by decide) ?_
    refine wG_goto C dX12_isEnd_38 ?_
    exact wG_zret C dX12_isEnd_42 rfl ⟨by decide, by decide⟩ (fun _ e => e)
theorem c_X12_isEnd (l : Launch) (E : wE) (N : Nat) (q : Qp) (hN : 137 ≤ N) (h : Hp) (x1 : Int32) : ∀ z, f_X12_isEnd h x1 = some z → CT l E yX12_isEnd cX12_isEnd 4 (some .boolean) rm_X12_isEnd [.ref (eB E + 111), .int x1] N h (rq q) ((fun u => (some (.int u), N, h, (rq q))) z) := CT.of (by decide +kernel) (Nat.le_of_ble_eq_true rfl) (fun X _ e C => by subst e; exact w_X12_isEnd C hN h x1)
def rm_X12_about : Room := { frames := 2, cells := 0, slots := 0, locals := 46 }
def f_X12_about (h : Hp) (x1 : Int32) (x2 : Int32) : Option (Int32 × Hp) :=
  vB (u2 h 111 0 0) fun h_1 =>
  (f_X12_noPiece h_1 x1).bind fun u_2 =>
  (if u_2 = 0 then
  (if x2 = 0 then
  if inB x1 24 then
  if inB x1 24 then
  if inB x1 24 then
  if inB x1 24 then
  some (((((1000 * (h_1 115 (ix x1))) + (100 * (h_1 116 (ix x1)))) + (10 * (h_1 117 (ix x1)))) + (h_1 118 (ix x1))), h_1) else none else none else none else none
  else
  (if x2 = 1 then
  if inB x1 24 then
  some ((h_1 119 (ix x1)), h_1) else none
  else
  (if x2 = 2 then
  if inB x1 24 then
  if inB x1 24 then
  if inB x1 24 then
  if inB x1 24 then
  (f_X12_countOf h_1 (h_1 115 (ix x1)) (h_1 116 (ix x1)) (h_1 117 (ix x1)) (h_1 118 (ix x1)) 1).bind fun u_3 =>
  some (u_3, h_1) else none else none else none else none
  else
  (if x2 = 3 then
  (f_X12_edges h_1 x1).bind fun u_4 =>
  some (u_4, h_1)
  else
  (if x2 = 4 then
  (f_X12_allDried h_1 x1).bind fun u_5 =>
  some (u_5, h_1)
  else
  (if x2 = 5 then
  if inB x1 24 then
  some ((h_1 121 (ix x1)), h_1) else none
  else
  (if x2 = 6 then
  if inB x1 24 then
  some ((h_1 120 (ix x1)), h_1) else none
  else
  (if x2 = 7 then
  (f_X12_isEnd h_1 x1).bind fun u_6 =>
  (if u_6 = 0 then
  some (0, h_1)
  else
  some (1, h_1))
  else
  some ((-2), h_1)))))))))
  else
  some ((-1), h_1))
set_option maxRecDepth 4000 in
theorem w_X12_about {X : wX} (C : Cx X yX12_about cX12_about 3 (some .int) rm_X12_about) {N : Nat} {q : Qp} (hN : 137 ≤ N) (h : Hp) (x1 : Int32) (x2 : Int32) : wG X 3 (eM X (fun u => (some (.int u.1), N, u.2, (rq q)))) (f_X12_about h x1 x2) N h (rq q) 0 0 0 [(0, .ref (xB X + 111)), (1, .int x1), (2, .int x2)] [] := by
  refine wG_of (f_X12_about.eq_1 ..) ?_
  refine wG_aload_n C dX12_about_0 0 rfl ?_
  refine wG_iconst C dX12_about_1 (v := 0) (by decide) ?_
  refine wG_putI C fl_X12_1_8 (fp_8_0 _) (fun e => Bool.noConfusion e) rfl kd_111 (wll hN (by decide)) dX12_about_2 (fun h_1 => ?_)
  refine wG_aload_n C dX12_about_5 0 rfl ?_
  refine wG_iload_n C dX12_about_6 1 rfl ?_
  refine wG_cV_ri [.int x1] [] C vw_X12_143 (c_X12_noPiece (xl X) (xE X) N q hN h_1 x1) kd_111 (wll hN (by decide)) (by decide) rfl rfl (Nat.le_of_ble_eq_true rfl) dX12_about_7 (cl' := 0) (sl' := 0) rfl rfl (fun u_2 => ?_)
  refine wG_if_eq C dX12_about_10 ?_ ?_
  · refine wG_iload_n C dX12_about_15 2 rfl ?_
    refine wG_if (fun c0 => ?_) (fun c0 => ?_)
    · refine wG_tsI C (tgt := 64) c0 dX12_about_16 (by decide) (by decide) (48) (by decide) (by decide) ?_
      refine wG_sipush C dX12_about_64 (v := 1000) (by decide) ?_
      refine wG_aload_n C dX12_about_67 0 rfl ?_
      refine wG_getR C fl_X12_32_8 rfl kd_111 (wll hN (by decide)) (rf_111_10 q) dX12_about_68 ?_
      refine wG_iload_n C dX12_about_71 1 rfl ?_
      refine wG_iald C kd_115 (wll hN (by decide)) ln_115 dX12_about_72 ?_
      refine wG_imul C dX12_about_73 ?_
      refine wG_bipush C dX12_about_74 (v := 100) (by decide) ?_
      refine wG_aload_n C dX12_about_76 0 rfl ?_
      refine wG_getR C fl_X12_35_8 rfl kd_111 (wll hN (by decide)) (rf_111_11 q) dX12_about_77 ?_
      refine wG_iload_n C dX12_about_80 1 rfl ?_
      refine wG_iald C kd_116 (wll hN (by decide)) ln_116 dX12_about_81 ?_
      refine wG_imul C dX12_about_82 ?_
      refine wG_iadd C dX12_about_83 ?_
      refine wG_bipush C dX12_about_84 (v := 10) (by decide) ?_
      refine wG_aload_n C dX12_about_86 0 rfl ?_
      refine wG_getR C fl_X12_38_8 rfl kd_111 (wll hN (by decide)) (rf_111_12 q) dX12_about_87 ?_
      refine wG_iload_n C dX12_about_90 1 rfl ?_
      refine wG_iald C kd_117 (wll hN (by decide)) ln_117 dX12_about_91 ?_
      refine wG_imul C dX12_about_92 ?_
      refine wG_iadd C dX12_about_93 ?_
      refine wG_aload_n C dX12_about_94 0 rfl ?_
      refine wG_getR C fl_X12_41_8 rfl kd_111 (wll hN (by decide)) (rf_111_13 q) dX12_about_95 ?_
      refine wG_iload_n C dX12_about_98 1 rfl ?_
      refine wG_iald C kd_118 (wll hN (by decide)) ln_118 dX12_about_99 ?_
      refine wG_iadd C dX12_about_100 ?_
      exact wG_iret C dX12_about_101 ⟨by decide, by decide⟩ (fun _ e => e)
    · refine wG_if (fun c1 => ?_) (fun c1 => ?_)
      · refine wG_tsI C (tgt := 102) c1 dX12_about_16 (by decide) (by decide) (86) (by decide) (by decide) ?_
        refine wG_aload_n C dX12_about_102 0 rfl ?_
        refine wG_getR C fl_X12_44_8 rfl kd_111 (wll hN (by decide)) (rf_111_14 q) dX12_about_103 ?_
        refine wG_iload_n C dX12_about_106 1 rfl ?_
        refine wG_iald C kd_119 (wll hN (by decide)) ln_119 dX12_about_107 ?_
        exact wG_iret C dX12_about_108 ⟨by decide, by decide⟩ (fun _ e => e)
      · refine wG_if (fun c2 => ?_) (fun c2 => ?_)
        · refine wG_tsI C (tgt := 109) c2 dX12_about_16 (by decide) (by decide) (93) (by decide) (by decide) ?_
          refine wG_aload_n C dX12_about_109 0 rfl ?_
          refine wG_aload_n C dX12_about_110 0 rfl ?_
          refine wG_getR C fl_X12_32_8 rfl kd_111 (wll hN (by decide)) (rf_111_10 q) dX12_about_111 ?_
          refine wG_iload_n C dX12_about_114 1 rfl ?_
          refine wG_iald C kd_115 (wll hN (by decide)) ln_115 dX12_about_115 ?_
          refine wG_aload_n C dX12_about_116 0 rfl ?_
          refine wG_getR C fl_X12_35_8 rfl kd_111 (wll hN (by decide)) (rf_111_11 q) dX12_about_117 ?_
          refine wG_iload_n C dX12_about_120 1 rfl ?_
          refine wG_iald C kd_116 (wll hN (by decide)) ln_116 dX12_about_121 ?_
          refine wG_aload_n C dX12_about_122 0 rfl ?_
          refine wG_getR C fl_X12_38_8 rfl kd_111 (wll hN (by decide)) (rf_111_12 q) dX12_about_123 ?_
          refine wG_iload_n C dX12_about_126 1 rfl ?_
          refine wG_iald C kd_117 (wll hN (by decide)) ln_117 dX12_about_127 ?_
          refine wG_aload_n C dX12_about_128 0 rfl ?_
          refine wG_getR C fl_X12_41_8 rfl kd_111 (wll hN (by decide)) (rf_111_13 q) dX12_about_129 ?_
          refine wG_iload_n C dX12_about_132 1 rfl ?_
          refine wG_iald C kd_118 (wll hN (by decide)) ln_118 dX12_about_133 ?_
          refine wG_iconst C dX12_about_134 (v := 1) (by decide) ?_
          refine wG_cV_ri [.int (h_1 115 (ix x1)), .int (h_1 116 (ix x1)), .int (h_1 117 (ix x1)), .int (h_1 118 (ix x1)), .int 1] [] C vw_X12_172 (c_X12_countOf (xl X) (xE X) N q hN h_1 (h_1 115 (ix x1)) (h_1 116 (ix x1)) (h_1 117 (ix x1)) (h_1 118 (ix x1)) 1) kd_111 (wll hN (by decide)) (by decide) rfl rfl (Nat.le_of_ble_eq_true rfl) dX12_about_135 (cl' := 0) (sl' := 0) rfl rfl (fun u_3 => ?_)
          exact wG_iret C dX12_about_138 ⟨by decide, by decide⟩ (fun _ e => e)
        · refine wG_if (fun c3 => ?_) (fun c3 => ?_)
          · refine wG_tsI C (tgt := 139) c3 dX12_about_16 (by decide) (by decide) (123) (by decide) (by decide) ?_
            refine wG_aload_n C dX12_about_139 0 rfl ?_
            refine wG_iload_n C dX12_about_140 1 rfl ?_
            refine wG_cV_ri [.int x1] [] C vw_X12_185 (c_X12_edges (xl X) (xE X) N q hN h_1 x1) kd_111 (wll hN (by decide)) (by decide) rfl rfl (Nat.le_of_ble_eq_true rfl) dX12_about_141 (cl' := 0) (sl' := 0) rfl rfl (fun u_4 => ?_)
            exact wG_iret C dX12_about_144 ⟨by decide, by decide⟩ (fun _ e => e)
          · refine wG_if (fun c4 => ?_) (fun c4 => ?_)
            · refine wG_tsI C (tgt := 145) c4 dX12_about_16 (by decide) (by decide) (129) (by decide) (by decide) ?_
              refine wG_aload_n C dX12_about_145 0 rfl ?_
              refine wG_iload_n C dX12_about_146 1 rfl ?_
              refine wG_cV_ri [.int x1] [] C vw_X12_155 (c_X12_allDried (xl X) (xE X) N q hN h_1 x1) kd_111 (wll hN (by decide)) (by decide) rfl rfl (Nat.le_of_ble_eq_true rfl) dX12_about_147 (cl' := 0) (sl' := 0) rfl rfl (fun u_5 => ?_)
              exact wG_iret C dX12_about_150 ⟨by decide, by decide⟩ (fun _ e => e)
            · refine wG_if (fun c5 => ?_) (fun c5 => ?_)
              · refine wG_tsI C (tgt := 151) c5 dX12_about_16 (by decide) (by decide) (135) (by decide) (by decide) ?_
                refine wG_aload_n C dX12_about_151 0 rfl ?_
                refine wG_getR C fl_X12_50_8 rfl kd_111 (wll hN (by decide)) (rf_111_16 q) dX12_about_152 ?_
                refine wG_iload_n C dX12_about_155 1 rfl ?_
                refine wG_iald C kd_121 (wll hN (by decide)) ln_121 dX12_about_156 ?_
                exact wG_iret C dX12_about_157 ⟨by decide, by decide⟩ (fun _ e => e)
              · refine wG_if (fun c6 => ?_) (fun c6 => ?_)
                · refine wG_tsI C (tgt := 158) c6 dX12_about_16 (by decide) (by decide) (142) (by decide) (by decide) ?_
                  refine wG_aload_n C dX12_about_158 0 rfl ?_
                  refine wG_getR C fl_X12_47_8 rfl kd_111 (wll hN (by decide)) (rf_111_15 q) dX12_about_159 ?_
                  refine wG_iload_n C dX12_about_162 1 rfl ?_
                  refine wG_iald C kd_120 (wll hN (by decide)) ln_120 dX12_about_163 ?_
                  exact wG_iret C dX12_about_164 ⟨by decide, by decide⟩ (fun _ e => e)
                · refine wG_if (fun c7 => ?_) (fun c7 => ?_)
                  · refine wG_tsI C (tgt := 165) c7 dX12_about_16 (by decide) (by decide) (149) (by decide) (by decide) ?_
                    refine wG_aload_n C dX12_about_165 0 rfl ?_
                    refine wG_iload_n C dX12_about_166 1 rfl ?_
                    refine wG_cV_ri [.int x1] [] C vw_X12_188 (c_X12_isEnd (xl X) (xE X) N q hN h_1 x1) kd_111 (wll hN (by decide)) (by decide) rfl rfl (Nat.le_of_ble_eq_true rfl) dX12_about_167 (cl' := 0) (sl' := 0) rfl rfl (fun u_6 => ?_)
                    refine wG_if_eq C dX12_about_170 ?_ ?_
                    · refine wG_iconst C dX12_about_177 (v := 0) (by decide) ?_
                      exact wG_iret C dX12_about_178 ⟨by decide, by decide⟩ (fun _ e => e)
                    · refine wG_iconst C dX12_about_173 (v := 1) (by decide) ?_
                      refine wG_goto C dX12_about_174 ?_
                      exact wG_iret C dX12_about_178 ⟨by decide, by decide⟩ (fun _ e => e)
                  · refine wG_tsO C (tgt := 179) (by have e0 := lv_neT (a := 0) c0 rfl; have e1 := lv_neT (a := 1) c1 rfl; have e2 := lv_neT (a := 2) c2 rfl; have e3 := lv_neT (a := 3) c3 rfl; have e4 := lv_neT (a := 4) c4 rfl; have e5 := lv_neT (a := 5) c5 rfl; have e6 := lv_neT (a := 6) c6 rfl; have e7 := lv_neT (a := 7) c7 rfl; omega) dX12_about_16 (by decide) ?_
                    refine wG_bipush C dX12_about_179 (v := (-2)) (by decide) ?_
                    exact wG_iret C dX12_about_181 ⟨by decide, by decide⟩ (fun _ e => e)
  · refine wG_iconst C dX12_about_13 (v := (-1)) (by decide) ?_
    exact wG_iret C dX12_about_14 ⟨by decide, by decide⟩ (fun _ e => e)
theorem c_X12_about (l : Launch) (E : wE) (N : Nat) (q : Qp) (hN : 137 ≤ N) (h : Hp) (x1 : Int32) (x2 : Int32) : ∀ z, f_X12_about h x1 x2 = some z → CT l E yX12_about cX12_about 3 (some .int) rm_X12_about [.ref (eB E + 111), .int x1, .int x2] N h (rq q) ((fun u => (some (.int u.1), N, u.2, (rq q))) z) := CT.of (by decide +kernel) (Nat.le_of_ble_eq_true rfl) (fun X _ e C => by subst e; exact w_X12_about C hN h x1 x2)
def rm_X12_more : Room := { frames := 0, cells := 0, slots := 0, locals := 0 }
def f_X12_more (x0 : Int32) : Option Int32 :=
  (if (0 : Int32) ≤ x0 then
  some x0
  else
  some 0)
set_option maxRecDepth 4000 in
theorem w_X12_more {X : wX} (C : Cx X yX12_more cX12_more 1 (some .int) rm_X12_more) {N : Nat} {q : Qp} (hN : 137 ≤ N) (h : Hp) (x0 : Int32) : wG X 1 (eM X (fun u => (some (.int u), N, h, (rq q)))) (f_X12_more x0) N h (rq q) 0 0 0 [(0, .int x0)] [] := by
  refine wG_of (f_X12_more.eq_1 ..) ?_
  refine wG_iload_n C dX12_more_0 0 rfl ?_
  refine wG_if_ge C dX12_more_1 ?_ ?_
  · refine wG_iload_n C dX12_more_8 0 rfl ?_
    exact wG_iret C dX12_more_9 ⟨by decide, by decide⟩ (fun _ e => e)
  · refine wG_iconst C dX12_more_4 (v := 0) (by decide) ?_
    refine wG_goto C dX12_more_5 ?_
    exact wG_iret C dX12_more_9 ⟨by decide, by decide⟩ (fun _ e => e)
theorem c_X12_more (l : Launch) (E : wE) (N : Nat) (q : Qp) (hN : 137 ≤ N) (h : Hp) (x0 : Int32) : ∀ z, f_X12_more x0 = some z → CT l E yX12_more cX12_more 1 (some .int) rm_X12_more [.int x0] N h (rq q) ((fun u => (some (.int u), N, h, (rq q))) z) := CT.of (by decide +kernel) (Nat.le_of_ble_eq_true rfl) (fun X _ e C => by subst e; exact w_X12_more C hN h x0)
def rm_X12_weighsOf : Room := { frames := 1, cells := 0, slots := 0, locals := 28 }
def f_X12_weighsOf (h : Hp) (x1 : Int32) : Option Int32 :=
  if inB x1 24 then
  if inB x1 24 then
  if inB x1 24 then
  if inB x1 24 then
  (f_X12_weightOf h (h 115 (ix x1)) (h 116 (ix x1)) (h 117 (ix x1)) (h 118 (ix x1))).bind fun u_1 =>
  (f_X12_allDried h x1).bind fun u_2 =>
  if inB x1 24 then
  (f_X12_more ((u_1 - (u_2 / 40)) - (h 121 (ix x1)))).bind fun u_3 =>
  some u_3 else none else none else none else none else none
set_option maxRecDepth 4000 in
theorem w_X12_weighsOf {X : wX} (C : Cx X yX12_weighsOf cX12_weighsOf 2 (some .int) rm_X12_weighsOf) {N : Nat} {q : Qp} (hN : 137 ≤ N) (h : Hp) (x1 : Int32) : wG X 2 (eM X (fun u => (some (.int u), N, h, (rq q)))) (f_X12_weighsOf h x1) N h (rq q) 0 0 0 [(0, .ref (xB X + 111)), (1, .int x1)] [] := by
  refine wG_of (f_X12_weighsOf.eq_1 ..) ?_
  refine wG_aload_n C dX12_weighsOf_0 0 rfl ?_
  refine wG_aload_n C dX12_weighsOf_1 0 rfl ?_
  refine wG_getR C fl_X12_32_8 rfl kd_111 (wll hN (by decide)) (rf_111_10 q) dX12_weighsOf_2 ?_
  refine wG_iload_n C dX12_weighsOf_5 1 rfl ?_
  refine wG_iald C kd_115 (wll hN (by decide)) ln_115 dX12_weighsOf_6 ?_
  refine wG_aload_n C dX12_weighsOf_7 0 rfl ?_
  refine wG_getR C fl_X12_35_8 rfl kd_111 (wll hN (by decide)) (rf_111_11 q) dX12_weighsOf_8 ?_
  refine wG_iload_n C dX12_weighsOf_11 1 rfl ?_
  refine wG_iald C kd_116 (wll hN (by decide)) ln_116 dX12_weighsOf_12 ?_
  refine wG_aload_n C dX12_weighsOf_13 0 rfl ?_
  refine wG_getR C fl_X12_38_8 rfl kd_111 (wll hN (by decide)) (rf_111_12 q) dX12_weighsOf_14 ?_
  refine wG_iload_n C dX12_weighsOf_17 1 rfl ?_
  refine wG_iald C kd_117 (wll hN (by decide)) ln_117 dX12_weighsOf_18 ?_
  refine wG_aload_n C dX12_weighsOf_19 0 rfl ?_
  refine wG_getR C fl_X12_41_8 rfl kd_111 (wll hN (by decide)) (rf_111_13 q) dX12_weighsOf_20 ?_
  refine wG_iload_n C dX12_weighsOf_23 1 rfl ?_
  refine wG_iald C kd_118 (wll hN (by decide)) ln_118 dX12_weighsOf_24 ?_
  refine wG_cV_ri [.int (h 115 (ix x1)), .int (h 116 (ix x1)), .int (h 117 (ix x1)), .int (h 118 (ix x1))] [] C vw_X12_151 (c_X12_weightOf (xl X) (xE X) N q hN h (h 115 (ix x1)) (h 116 (ix x1)) (h 117 (ix x1)) (h 118 (ix x1))) kd_111 (wll hN (by decide)) (by decide) rfl rfl (Nat.le_of_ble_eq_true rfl) dX12_weighsOf_25 (cl' := 0) (sl' := 0) rfl rfl (fun u_1 => ?_)
  refine wG_aload_n C dX12_weighsOf_28 0 rfl ?_
  refine wG_iload_n C dX12_weighsOf_29 1 rfl ?_
  refine wG_cV_ri [.int x1] [.int u_1] C vw_X12_155 (c_X12_allDried (xl X) (xE X) N q hN h x1) kd_111 (wll hN (by decide)) (by decide) rfl rfl (Nat.le_of_ble_eq_true rfl) dX12_weighsOf_30 (cl' := 0) (sl' := 0) rfl rfl (fun u_2 => ?_)
  refine wG_bipush C dX12_weighsOf_33 (v := 40) (by decide) ?_
  refine wG_idivK C dX12_weighsOf_35 (by decide) ?_
  refine wG_isub C dX12_weighsOf_36 ?_
  refine wG_aload_n C dX12_weighsOf_37 0 rfl ?_
  refine wG_getR C fl_X12_50_8 rfl kd_111 (wll hN (by decide)) (rf_111_16 q) dX12_weighsOf_38 ?_
  refine wG_iload_n C dX12_weighsOf_41 1 rfl ?_
  refine wG_iald C kd_121 (wll hN (by decide)) ln_121 dX12_weighsOf_42 ?_
  refine wG_isub C dX12_weighsOf_43 ?_
  refine wG_cS_ri [.int ((u_1 - (u_2 / 40)) - (h 121 (ix x1)))] [] C sw_X12_158 (c_X12_more (xl X) (xE X) N q hN h ((u_1 - (u_2 / 40)) - (h 121 (ix x1)))) (by decide) rfl rfl (Nat.le_of_ble_eq_true rfl) dX12_weighsOf_44 (cl' := 0) (sl' := 0) rfl rfl (fun u_3 => ?_)
  exact wG_iret C dX12_weighsOf_47 ⟨by decide, by decide⟩ (fun _ e => e)
theorem c_X12_weighsOf (l : Launch) (E : wE) (N : Nat) (q : Qp) (hN : 137 ≤ N) (h : Hp) (x1 : Int32) : ∀ z, f_X12_weighsOf h x1 = some z → CT l E yX12_weighsOf cX12_weighsOf 2 (some .int) rm_X12_weighsOf [.ref (eB E + 111), .int x1] N h (rq q) ((fun u => (some (.int u), N, h, (rq q))) z) := CT.of (by decide +kernel) (Nat.le_of_ble_eq_true rfl) (fun X _ e C => by subst e; exact w_X12_weighsOf C hN h x1)
def rm_X12_weighs : Room := { frames := 2, cells := 0, slots := 0, locals := 49 }
def f_X12_weighs (h : Hp) (x1 : Int32) : Option (Int32 × Hp) :=
  vB (u2 h 111 0 0) fun h_1 =>
  (f_X12_noPiece h_1 x1).bind fun u_2 =>
  (if u_2 = 0 then
  (f_X12_weighsOf h_1 x1).bind fun u_3 =>
  some (u_3, h_1)
  else
  some ((-1), h_1))
set_option maxRecDepth 4000 in
theorem w_X12_weighs {X : wX} (C : Cx X yX12_weighs cX12_weighs 2 (some .int) rm_X12_weighs) {N : Nat} {q : Qp} (hN : 137 ≤ N) (h : Hp) (x1 : Int32) : wG X 2 (eM X (fun u => (some (.int u.1), N, u.2, (rq q)))) (f_X12_weighs h x1) N h (rq q) 0 0 0 [(0, .ref (xB X + 111)), (1, .int x1)] [] := by
  refine wG_of (f_X12_weighs.eq_1 ..) ?_
  refine wG_aload_n C dX12_weighs_0 0 rfl ?_
  refine wG_iconst C dX12_weighs_1 (v := 0) (by decide) ?_
  refine wG_putI C fl_X12_1_8 (fp_8_0 _) (fun e => Bool.noConfusion e) rfl kd_111 (wll hN (by decide)) dX12_weighs_2 (fun h_1 => ?_)
  refine wG_aload_n C dX12_weighs_5 0 rfl ?_
  refine wG_iload_n C dX12_weighs_6 1 rfl ?_
  refine wG_cV_ri [.int x1] [] C vw_X12_143 (c_X12_noPiece (xl X) (xE X) N q hN h_1 x1) kd_111 (wll hN (by decide)) (by decide) rfl rfl (Nat.le_of_ble_eq_true rfl) dX12_weighs_7 (cl' := 0) (sl' := 0) rfl rfl (fun u_2 => ?_)
  refine wG_if_eq C dX12_weighs_10 ?_ ?_
  · refine wG_aload_n C dX12_weighs_17 0 rfl ?_
    refine wG_iload_n C dX12_weighs_18 1 rfl ?_
    refine wG_cV_ri [.int x1] [] C vw_X12_191 (c_X12_weighsOf (xl X) (xE X) N q hN h_1 x1) kd_111 (wll hN (by decide)) (by decide) rfl rfl (Nat.le_of_ble_eq_true rfl) dX12_weighs_19 (cl' := 0) (sl' := 0) rfl rfl (fun u_3 => ?_)
    exact wG_iret C dX12_weighs_22 ⟨by decide, by decide⟩ (fun _ e => e)
  · refine wG_iconst C dX12_weighs_13 (v := (-1)) (by decide) ?_
    refine wG_goto C dX12_weighs_14 ?_
    exact wG_iret C dX12_weighs_22 ⟨by decide, by decide⟩ (fun _ e => e)
theorem c_X12_weighs (l : Launch) (E : wE) (N : Nat) (q : Qp) (hN : 137 ≤ N) (h : Hp) (x1 : Int32) : ∀ z, f_X12_weighs h x1 = some z → CT l E yX12_weighs cX12_weighs 2 (some .int) rm_X12_weighs [.ref (eB E + 111), .int x1] N h (rq q) ((fun u => (some (.int u.1), N, u.2, (rq q))) z) := CT.of (by decide +kernel) (Nat.le_of_ble_eq_true rfl) (fun X _ e C => by subst e; exact w_X12_weighs C hN h x1)
def rm_X12_pass : Room := { frames := 1, cells := 0, slots := 0, locals := 25 }
def L_X12_pass_75 (x1 : Int32) (x2_4 : Int32) (x3_8 : Int32) : Nat → Int32 → Hp → Option Hp
  | 0, _, _ => none
  | n + 1, x4_10, h_11 =>
    (if (4 : Int32) ≤ x4_10 then
    some h_11
    else
    if inB ((4 * x2_4) + x4_10) 96 then
    if inB x2_4 24 then
    ((if (h_11 119 (ix x2_4)) = 0 then
    (f_X12_face h_11 x2_4 x4_10).bind fun u_14 =>
    some ((x3_8 * x1) * u_14)
    else
    some 0)).bind fun t_13 =>
    if inB ((4 * x2_4) + x4_10) 96 then vB (u2 h_11 122 (ix ((4 * x2_4) + x4_10)) ((h_11 122 (ix ((4 * x2_4) + x4_10))) + t_13)) fun h_15 =>
    vB (x4_10 + 1) fun (x4_16 : Int32) =>
    L_X12_pass_75 x1 x2_4 x3_8 n x4_16 h_15 else none else none else none)
def L_X12_pass_34 (x1 : Int32) : Nat → Int32 → Hp → Option Hp
  | 0, _, _ => none
  | n + 1, x2_4, h_5 =>
    (if (h_5 111 9) ≤ x2_4 then
    some h_5
    else
    if inB x2_4 24 then
    ((if (h_5 120 (ix x2_4)) = 0 then
    some 10
    else
    if inB x2_4 24 then
    (if (h_5 120 (ix x2_4)) = 1 then
    some 5
    else
    some 2) else none)).bind fun t_7 =>
    vB t_7 fun (x3_8 : Int32) =>
    vB 0 fun (x4_9 : Int32) =>
    (L_X12_pass_75 x1 x2_4 x3_8 FU x4_9 h_5).bind fun t_12 =>
    vB (x2_4 + 1) fun (x2_17 : Int32) =>
    L_X12_pass_34 x1 n x2_17 t_12 else none)
def f_X12_pass (h : Hp) (x1 : Int32) : Option (Int32 × Hp) :=
  vB (u2 h 111 0 0) fun h_1 =>
  (f_X12_in x1.toInt64 1 999).bind fun u_2 =>
  (if u_2 = 0 then
  some ((-2), h_1)
  else
  (if ((h_1 111 18) + x1) ≤ 9999 then
  vB 0 fun (x2_3 : Int32) =>
  (L_X12_pass_34 x1 FU x2_3 h_1).bind fun t_6 =>
  vB (u2 t_6 111 18 ((t_6 111 18) + x1)) fun h_18 =>
  some ((h_18 111 18), h_18)
  else
  some ((-2), h_1)))
set_option maxRecDepth 4000 in
theorem wL_X12_pass_75 {X : wX} (C : Cx X yX12_pass cX12_pass 5 (some .int) rm_X12_pass) {N : Nat} {q : Qp} (hN : 137 ≤ N) (h : Hp) (x1 : Int32) (h_1 : Hp) (u_2 : Int32) (x2_3 : Int32) (x2_4 : Int32) (h_5 : Hp) (t_7 : Int32) (x3_8 : Int32) (x4_9 : Int32) : ∀ n x4_10 h_11, wG X 5 (fun (t_12 : Hp) Q => gQ X 5 Q N t_12 (rq q) 0 0 125 [(0, .ref (xB X + 111)), (1, .int x1), (2, .int x2_4)] []) (L_X12_pass_75 x1 x2_4 x3_8 n x4_10 h_11) N h_11 (rq q) 0 0 75 [(0, .ref (xB X + 111)), (1, .int x1), (2, .int x2_4), (3, .int x3_8), (4, .int x4_10)] [] := by
  intro n
  induction n with
  | zero => intro _ _; exact wG_none
  | succ n ih =>
    intro x4_10 h_11
    refine wG_of (L_X12_pass_75.eq_2 ..) ?_
    refine wG_iload C dX12_pass_75 4 rfl ?_
    refine wG_iconst C dX12_pass_77 (v := 4) (by decide) ?_
    refine wG_icmp_ge C dX12_pass_78 ?_ ?_
    · exact wG_exit (fun Q e => gQ_lv [0, 1, 2] rfl e)
    · refine wG_aload_n C dX12_pass_81 0 rfl ?_
      refine wG_getR C fl_X12_53_8 rfl kd_111 (wll hN (by decide)) (rf_111_17 q) dX12_pass_82 ?_
      refine wG_iconst C dX12_pass_85 (v := 4) (by decide) ?_
      refine wG_iload_n C dX12_pass_86 2 rfl ?_
      refine wG_imul C dX12_pass_87 ?_
      refine wG_iload C dX12_pass_88 4 rfl ?_
      refine wG_iadd C dX12_pass_90 ?_
      refine wG_dup2 C dX12_pass_91 rfl rfl ?_
      refine wG_iald C kd_122 (wll hN (by decide)) ln_122 dX12_pass_92 ?_
      refine wG_aload_n C dX12_pass_93 0 rfl ?_
      refine wG_getR C fl_X12_44_8 rfl kd_111 (wll hN (by decide)) (rf_111_14 q) dX12_pass_94 ?_
      refine wG_iload_n C dX12_pass_97 2 rfl ?_
      refine wG_iald C kd_119 (wll hN (by decide)) ln_119 dX12_pass_98 ?_
      refine wG_bind (J := (fun (t_13 : Int32) Q => gQ X 5 Q N h_11 (rq q) 0 0 117 [(0, .ref (xB X + 111)), (1, .int x1), (2, .int x2_4), (3, .int x3_8), (4, .int x4_10)] [.int t_13, .int (h_11 122 (ix ((4 * x2_4) + x4_10))), .int ((4 * x2_4) + x4_10), .ref (xB X + 122)])) ?_ (fun t_13 => (?_ : wG X 5 _ _ N h_11 (rq q) 0 0 117 [(0, .ref (xB X + 111)), (1, .int x1), (2, .int x2_4), (3, .int x3_8), (4, .int x4_10)] [.int t_13, .int (h_11 122 (ix ((4 * x2_4) + x4_10))), .int ((4 * x2_4) + x4_10), .ref (xB X + 122)]))
      · refine wG_if_ne C dX12_pass_99 ?_ ?_
        · refine wG_iload_n C dX12_pass_102 3 rfl ?_
          refine wG_iload_n C dX12_pass_103 1 rfl ?_
          refine wG_imul C dX12_pass_104 ?_
          refine wG_aload_n C dX12_pass_105 0 rfl ?_
          refine wG_iload_n C dX12_pass_106 2 rfl ?_
          refine wG_iload C dX12_pass_107 4 rfl ?_
          refine wG_cV_ri [.int x2_4, .int x4_10] [.int (x3_8 * x1), .int (h_11 122 (ix ((4 * x2_4) + x4_10))), .int ((4 * x2_4) + x4_10), .ref (xB X + 122)] C vw_X12_147 (c_X12_face (xl X) (xE X) N q hN h_11 x2_4 x4_10) kd_111 (wll hN (by decide)) (by decide) rfl rfl (Nat.le_of_ble_eq_true rfl) dX12_pass_109 (cl' := 0) (sl' := 0) rfl rfl (fun u_14 => ?_)
          refine wG_imul C dX12_pass_112 ?_
          refine wG_goto C dX12_pass_113 ?_
          exact wG_exit (fun Q e => gQ_lv [0, 1, 2, 3, 4] rfl e)
        · refine wG_iconst C dX12_pass_116 (v := 0) (by decide) ?_
          exact wG_exit (fun Q e => gQ_lv [0, 1, 2, 3, 4] rfl e)
      · refine wG_iadd C dX12_pass_117 ?_
        refine wG_iast C kd_122 (wll hN (by decide)) ln_122 dX12_pass_118 (fun h_15 => ?_)
        refine wG_iinc C (v := 1) (LL := fun x4_16 => [(0, .ref (xB X + 111)), (1, .int x1), (2, .int x2_4), (3, .int x3_8), (4, .int x4_16)]) dX12_pass_119 4 rfl (by decide) (by decide) [1, 2, 3, 4, 0] (fun _ => rfl) (fun x4_16 => ?_)
        refine wG_goto C dX12_pass_122 ?_
        exact wG_lv [0, 1, 2, 3, 4] rfl (ih x4_16 h_15)
set_option maxRecDepth 4000 in
theorem wL_X12_pass_34 {X : wX} (C : Cx X yX12_pass cX12_pass 5 (some .int) rm_X12_pass) {N : Nat} {q : Qp} (hN : 137 ≤ N) (h : Hp) (x1 : Int32) (h_1 : Hp) (u_2 : Int32) (x2_3 : Int32) : ∀ n x2_4 h_5, wG X 5 (fun (t_6 : Hp) Q => gQ X 5 Q N t_6 (rq q) 0 0 131 [(0, .ref (xB X + 111)), (1, .int x1)] []) (L_X12_pass_34 x1 n x2_4 h_5) N h_5 (rq q) 0 0 34 [(0, .ref (xB X + 111)), (1, .int x1), (2, .int x2_4)] [] := by
  intro n
  induction n with
  | zero => intro _ _; exact wG_none
  | succ n ih =>
    intro x2_4 h_5
    refine wG_of (L_X12_pass_34.eq_2 ..) ?_
    refine wG_iload_n C dX12_pass_34 2 rfl ?_
    refine wG_aload_n C dX12_pass_35 0 rfl ?_
    refine wG_getI C fl_X12_29_8 rfl kd_111 (wll hN (by decide)) dX12_pass_36 ?_
    refine wG_icmp_ge C dX12_pass_39 ?_ ?_
    · exact wG_exit (fun Q e => gQ_lv [0, 1] rfl e)
    · refine wG_aload_n C dX12_pass_42 0 rfl ?_
      refine wG_getR C fl_X12_47_8 rfl kd_111 (wll hN (by decide)) (rf_111_15 q) dX12_pass_43 ?_
      refine wG_iload_n C dX12_pass_46 2 rfl ?_
      refine wG_iald C kd_120 (wll hN (by decide)) ln_120 dX12_pass_47 ?_
      refine wG_bind (J := (fun (t_7 : Int32) Q => gQ X 5 Q N h_5 (rq q) 0 0 71 [(0, .ref (xB X + 111)), (1, .int x1), (2, .int x2_4)] [.int t_7])) ?_ (fun t_7 => (?_ : wG X 5 _ _ N h_5 (rq q) 0 0 71 [(0, .ref (xB X + 111)), (1, .int x1), (2, .int x2_4)] [.int t_7]))
      · refine wG_if_ne C dX12_pass_48 ?_ ?_
        · refine wG_bipush C dX12_pass_51 (v := 10) (by decide) ?_
          refine wG_goto C dX12_pass_53 ?_
          exact wG_exit (fun Q e => gQ_lv [0, 1, 2] rfl e)
        · refine wG_aload_n C dX12_pass_56 0 rfl ?_
          refine wG_getR C fl_X12_47_8 rfl kd_111 (wll hN (by decide)) (rf_111_15 q) dX12_pass_57 ?_
          refine wG_iload_n C dX12_pass_60 2 rfl ?_
          refine wG_iald C kd_120 (wll hN (by decide)) ln_120 dX12_pass_61 ?_
          refine wG_iconst C dX12_pass_62 (v := 1) (by decide) ?_
          refine wG_icmp_ne C dX12_pass_63 ?_ ?_
          · refine wG_iconst C dX12_pass_66 (v := 5) (by decide) ?_
            refine wG_goto C dX12_pass_67 ?_
            exact wG_exit (fun Q e => gQ_lv [0, 1, 2] rfl e)
          · refine wG_iconst C dX12_pass_70 (v := 2) (by decide) ?_
            exact wG_exit (fun Q e => gQ_lv [0, 1, 2] rfl e)
      · refine wG_nmI (fun x3_8 => ?_)
        refine wG_istore_n C (L' := [(0, .ref (xB X + 111)), (1, .int x1), (2, .int x2_4), (3, .int x3_8)]) dX12_pass_71 (by decide) [1, 2, 3, 0] rfl ?_
        refine wG_iconst C dX12_pass_72 (v := 0) (by decide) ?_
        refine wG_nmI (fun x4_9 => ?_)
        refine wG_istore C (L' := [(0, .ref (xB X + 111)), (1, .int x1), (2, .int x2_4), (3, .int x3_8), (4, .int x4_9)]) dX12_pass_73 (by decide) [1, 2, 3, 4, 0] rfl ?_
        refine wG_lv (L' := [(0, .ref (xB X + 111)), (1, .int x1), (2, .int x2_4), (3, .int x3_8), (4, .int x4_9)]) [0, 1, 2, 3, 4] rfl ?_
        refine wG_bind (wL_X12_pass_75 C hN h x1 h_1 u_2 x2_3 x2_4 h_5 t_7 x3_8 x4_9 FU x4_9 h_5) (fun t_12 => (?_ : wG X 5 _ _ N t_12 (rq q) 0 0 125 [(0, .ref (xB X + 111)), (1, .int x1), (2, .int x2_4)] []))
        refine wG_iinc C (v := 1) (LL := fun x2_17 => [(0, .ref (xB X + 111)), (1, .int x1), (2, .int x2_17)]) dX12_pass_125 2 rfl (by decide) (by decide) [1, 2, 0] (fun _ => rfl) (fun x2_17 => ?_)
        refine wG_goto C dX12_pass_128 ?_
        exact wG_lv [0, 1, 2] rfl (ih x2_17 t_12)
set_option maxRecDepth 4000 in
theorem w_X12_pass {X : wX} (C : Cx X yX12_pass cX12_pass 5 (some .int) rm_X12_pass) {N : Nat} {q : Qp} (hN : 137 ≤ N) (h : Hp) (x1 : Int32) : wG X 5 (eM X (fun u => (some (.int u.1), N, u.2, (rq q)))) (f_X12_pass h x1) N h (rq q) 0 0 0 [(0, .ref (xB X + 111)), (1, .int x1)] [] := by
  refine wG_of (f_X12_pass.eq_1 ..) ?_
  refine wG_aload_n C dX12_pass_0 0 rfl ?_
  refine wG_iconst C dX12_pass_1 (v := 0) (by decide) ?_
  refine wG_putI C fl_X12_1_8 (fp_8_0 _) (fun e => Bool.noConfusion e) rfl kd_111 (wll hN (by decide)) dX12_pass_2 (fun h_1 => ?_)
  refine wG_iload_n C dX12_pass_5 1 rfl ?_
  refine wG_i2l C dX12_pass_6 ?_
  refine wG_lconst C dX12_pass_7 (v := 1) (by decide) ?_
  refine wG_ldc2 C dX12_pass_8 m_1248 ?_
  refine wG_cS_ri [.long x1.toInt64, .long 1, .long 999] [] C sw_X12_113 (c_X12_in (xl X) (xE X) N q hN h_1 x1.toInt64 1 999) (by decide) rfl rfl (Nat.le_of_ble_eq_true rfl) dX12_pass_11 (cl' := 0) (sl' := 0) rfl rfl (fun u_2 => ?_)
  refine wG_if_eq C dX12_pass_14 ?_ ?_
  · refine wG_bipush C dX12_pass_29 (v := (-2)) (by decide) ?_
    exact wG_iret C dX12_pass_31 ⟨by decide, by decide⟩ (fun _ e => e)
  · refine wG_aload_n C dX12_pass_17 0 rfl ?_
    refine wG_getI C fl_X12_134_8 rfl kd_111 (wll hN (by decide)) dX12_pass_18 ?_
    refine wG_iload_n C dX12_pass_21 1 rfl ?_
    refine wG_iadd C dX12_pass_22 ?_
    refine wG_sipush C dX12_pass_23 (v := 9999) (by decide) ?_
    refine wG_icmp_le C dX12_pass_26 ?_ ?_
    · refine wG_iconst C dX12_pass_32 (v := 0) (by decide) ?_
      refine wG_nmI (fun x2_3 => ?_)
      refine wG_istore_n C (L' := [(0, .ref (xB X + 111)), (1, .int x1), (2, .int x2_3)]) dX12_pass_33 (by decide) [1, 2, 0] rfl ?_
      refine wG_lv (L' := [(0, .ref (xB X + 111)), (1, .int x1), (2, .int x2_3)]) [0, 1, 2] rfl ?_
      refine wG_bind (wL_X12_pass_34 C hN h x1 h_1 u_2 x2_3 FU x2_3 h_1) (fun t_6 => (?_ : wG X 5 _ _ N t_6 (rq q) 0 0 131 [(0, .ref (xB X + 111)), (1, .int x1)] []))
      refine wG_aload_n C dX12_pass_131 0 rfl ?_
      refine wG_dup C dX12_pass_132 rfl ?_
      refine wG_getI C fl_X12_134_8 rfl kd_111 (wll hN (by decide)) dX12_pass_133 ?_
      refine wG_iload_n C dX12_pass_136 1 rfl ?_
      refine wG_iadd C dX12_pass_137 ?_
      refine wG_putI C fl_X12_134_8 (fp_8_18 _) (fun e => Bool.noConfusion e) rfl kd_111 (wll hN (by decide)) dX12_pass_138 (fun h_18 => ?_)
      refine wG_aload_n C dX12_pass_141 0 rfl ?_
      refine wG_getI C fl_X12_134_8 rfl kd_111 (wll hN (by decide)) dX12_pass_142 ?_
      exact wG_iret C dX12_pass_145 ⟨by decide, by decide⟩ (fun _ e => e)
    · refine wG_bipush C dX12_pass_29 (v := (-2)) (by decide) ?_
      exact wG_iret C dX12_pass_31 ⟨by decide, by decide⟩ (fun _ e => e)
theorem c_X12_pass (l : Launch) (E : wE) (N : Nat) (q : Qp) (hN : 137 ≤ N) (h : Hp) (x1 : Int32) : ∀ z, f_X12_pass h x1 = some z → CT l E yX12_pass cX12_pass 5 (some .int) rm_X12_pass [.ref (eB E + 111), .int x1] N h (rq q) ((fun u => (some (.int u.1), N, u.2, (rq q))) z) := CT.of (by decide +kernel) (Nat.le_of_ble_eq_true rfl) (fun X _ e C => by subst e; exact w_X12_pass C hN h x1)
def rm_X12_wrap : Room := { frames := 3, cells := 0, slots := 0, locals := 67 }
def f_X12_wrap (h : Hp) (x1 : Int32) (x2 : Int32) : Option (Int32 × Hp) :=
  vB (u2 h 111 0 0) fun h_1 =>
  (f_X12_noStand h_1 x1).bind fun u_2 =>
  (if u_2 = 0 then
  (f_X12_in x2.toInt64 0 2).bind fun u_3 =>
  (if u_3 = 0 then
  some ((-2), h_1)
  else
  if inB x1 24 then
  vB (h_1 120 (ix x1)) fun (x3_4 : Int32) =>
  if inB x1 24 then vB (u2 h_1 120 (ix x1) x2) fun h_5 =>
  some (x3_4, h_5) else none else none)
  else
  some ((-1), h_1))
set_option maxRecDepth 4000 in
theorem w_X12_wrap {X : wX} (C : Cx X yX12_wrap cX12_wrap 4 (some .int) rm_X12_wrap) {N : Nat} {q : Qp} (hN : 137 ≤ N) (h : Hp) (x1 : Int32) (x2 : Int32) : wG X 4 (eM X (fun u => (some (.int u.1), N, u.2, (rq q)))) (f_X12_wrap h x1 x2) N h (rq q) 0 0 0 [(0, .ref (xB X + 111)), (1, .int x1), (2, .int x2)] [] := by
  refine wG_of (f_X12_wrap.eq_1 ..) ?_
  refine wG_aload_n C dX12_wrap_0 0 rfl ?_
  refine wG_iconst C dX12_wrap_1 (v := 0) (by decide) ?_
  refine wG_putI C fl_X12_1_8 (fp_8_0 _) (fun e => Bool.noConfusion e) rfl kd_111 (wll hN (by decide)) dX12_wrap_2 (fun h_1 => ?_)
  refine wG_aload_n C dX12_wrap_5 0 rfl ?_
  refine wG_iload_n C dX12_wrap_6 1 rfl ?_
  refine wG_cV_ri [.int x1] [] C vw_X12_179 (c_X12_noStand (xl X) (xE X) N q hN h_1 x1) kd_111 (wll hN (by decide)) (by decide) rfl rfl (Nat.le_of_ble_eq_true rfl) dX12_wrap_7 (cl' := 0) (sl' := 0) rfl rfl (fun u_2 => ?_)
  refine wG_if_eq C dX12_wrap_10 ?_ ?_
  · refine wG_iload_n C dX12_wrap_15 2 rfl ?_
    refine wG_i2l C dX12_wrap_16 ?_
    refine wG_lconst C dX12_wrap_17 (v := 0) (by decide) ?_
    refine wG_ldc2 C dX12_wrap_18 m_1253 ?_
    refine wG_cS_ri [.long x2.toInt64, .long 0, .long 2] [] C sw_X12_113 (c_X12_in (xl X) (xE X) N q hN h_1 x2.toInt64 0 2) (by decide) rfl rfl (Nat.le_of_ble_eq_true rfl) dX12_wrap_21 (cl' := 0) (sl' := 0) rfl rfl (fun u_3 => ?_)
    refine wG_if_ne C dX12_wrap_24 ?_ ?_
    · refine wG_bipush C dX12_wrap_27 (v := (-2)) (by decide) ?_
      exact wG_iret C dX12_wrap_29 ⟨by decide, by decide⟩ (fun _ e => e)
    · refine wG_aload_n C dX12_wrap_30 0 rfl ?_
      refine wG_getR C fl_X12_47_8 rfl kd_111 (wll hN (by decide)) (rf_111_15 q) dX12_wrap_31 ?_
      refine wG_iload_n C dX12_wrap_34 1 rfl ?_
      refine wG_iald C kd_120 (wll hN (by decide)) ln_120 dX12_wrap_35 ?_
      refine wG_nmI (fun x3_4 => ?_)
      refine wG_istore_n C (L' := [(0, .ref (xB X + 111)), (1, .int x1), (2, .int x2), (3, .int x3_4)]) dX12_wrap_36 (by decide) [1, 2, 3, 0] rfl ?_
      refine wG_aload_n C dX12_wrap_37 0 rfl ?_
      refine wG_getR C fl_X12_47_8 rfl kd_111 (wll hN (by decide)) (rf_111_15 q) dX12_wrap_38 ?_
      refine wG_iload_n C dX12_wrap_41 1 rfl ?_
      refine wG_iload_n C dX12_wrap_42 2 rfl ?_
      refine wG_iast C kd_120 (wll hN (by decide)) ln_120 dX12_wrap_43 (fun h_5 => ?_)
      refine wG_iload_n C dX12_wrap_44 3 rfl ?_
      exact wG_iret C dX12_wrap_45 ⟨by decide, by decide⟩ (fun _ e => e)
  · refine wG_iconst C dX12_wrap_13 (v := (-1)) (by decide) ?_
    exact wG_iret C dX12_wrap_14 ⟨by decide, by decide⟩ (fun _ e => e)
theorem c_X12_wrap (l : Launch) (E : wE) (N : Nat) (q : Qp) (hN : 137 ≤ N) (h : Hp) (x1 : Int32) (x2 : Int32) : ∀ z, f_X12_wrap h x1 x2 = some z → CT l E yX12_wrap cX12_wrap 4 (some .int) rm_X12_wrap [.ref (eB E + 111), .int x1, .int x2] N h (rq q) ((fun u => (some (.int u.1), N, u.2, (rq q))) z) := CT.of (by decide +kernel) (Nat.le_of_ble_eq_true rfl) (fun X _ e C => by subst e; exact w_X12_wrap C hN h x1 x2)
def rm_X12_trim : Room := { frames := 3, cells := 0, slots := 0, locals := 67 }
def L_X12_trim_46 (x1 : Int32) : Nat → Int32 → Hp → Option Hp
  | 0, _, _ => none
  | n + 1, x3_9, h_10 =>
    (if (4 : Int32) ≤ x3_9 then
    some h_10
    else
    if inB ((4 * x1) + x3_9) 96 then vB (u2 h_10 122 (ix ((4 * x1) + x3_9)) 0) fun h_12 =>
    vB (x3_9 + 1) fun (x3_13 : Int32) =>
    L_X12_trim_46 x1 n x3_13 h_12 else none)
def f_X12_trim (h : Hp) (x1 : Int32) : Option (Int32 × Hp) :=
  vB (u2 h 111 0 0) fun h_1 =>
  (f_X12_noStand h_1 x1).bind fun u_2 =>
  (if u_2 = 0 then
  (f_X12_weighsOf h_1 x1).bind fun u_3 =>
  vB u_3 fun (x2_4 : Int32) =>
  if inB x1 24 then
  (f_X12_allDried h_1 x1).bind fun u_5 =>
  (f_X12_edges h_1 x1).bind fun u_6 =>
  if inB x1 24 then vB (u2 h_1 121 (ix x1) ((h_1 121 (ix x1)) + ((u_5 / 40) + u_6))) fun h_7 =>
  vB 0 fun (x3_8 : Int32) =>
  (L_X12_trim_46 x1 FU x3_8 h_7).bind fun t_11 =>
  (f_X12_weighsOf t_11 x1).bind fun u_14 =>
  some ((x2_4 - u_14), t_11) else none else none
  else
  some ((-1), h_1))
set_option maxRecDepth 4000 in
theorem wL_X12_trim_46 {X : wX} (C : Cx X yX12_trim cX12_trim 4 (some .int) rm_X12_trim) {N : Nat} {q : Qp} (hN : 137 ≤ N) (h : Hp) (x1 : Int32) (h_1 : Hp) (u_2 : Int32) (u_3 : Int32) (x2_4 : Int32) (u_5 : Int32) (u_6 : Int32) (h_7 : Hp) (x3_8 : Int32) : ∀ n x3_9 h_10, wG X 4 (fun (t_11 : Hp) Q => gQ X 4 Q N t_11 (rq q) 0 0 68 [(0, .ref (xB X + 111)), (1, .int x1), (2, .int x2_4)] []) (L_X12_trim_46 x1 n x3_9 h_10) N h_10 (rq q) 0 0 46 [(0, .ref (xB X + 111)), (1, .int x1), (2, .int x2_4), (3, .int x3_9)] [] := by
  intro n
  induction n with
  | zero => intro _ _; exact wG_none
  | succ n ih =>
    intro x3_9 h_10
    refine wG_of (L_X12_trim_46.eq_2 ..) ?_
    refine wG_iload_n C dX12_trim_46 3 rfl ?_
    refine wG_iconst C dX12_trim_47 (v := 4) (by decide) ?_
    refine wG_icmp_ge C dX12_trim_48 ?_ ?_
    · exact wG_exit (fun Q e => gQ_lv [0, 1, 2] rfl e)
    · refine wG_aload_n C dX12_trim_51 0 rfl ?_
      refine wG_getR C fl_X12_53_8 rfl kd_111 (wll hN (by decide)) (rf_111_17 q) dX12_trim_52 ?_
      refine wG_iconst C dX12_trim_55 (v := 4) (by decide) ?_
      refine wG_iload_n C dX12_trim_56 1 rfl ?_
      refine wG_imul C dX12_trim_57 ?_
      refine wG_iload_n C dX12_trim_58 3 rfl ?_
      refine wG_iadd C dX12_trim_59 ?_
      refine wG_iconst C dX12_trim_60 (v := 0) (by decide) ?_
      refine wG_iast C kd_122 (wll hN (by decide)) ln_122 dX12_trim_61 (fun h_12 => ?_)
      refine wG_iinc C (v := 1) (LL := fun x3_13 => [(0, .ref (xB X + 111)), (1, .int x1), (2, .int x2_4), (3, .int x3_13)]) dX12_trim_62 3 rfl (by decide) (by decide) [1, 2, 3, 0] (fun _ => rfl) (fun x3_13 => ?_)
      refine wG_goto C dX12_trim_65 ?_
      exact wG_lv [0, 1, 2, 3] rfl (ih x3_13 h_12)
set_option maxRecDepth 4000 in
theorem w_X12_trim {X : wX} (C : Cx X yX12_trim cX12_trim 4 (some .int) rm_X12_trim) {N : Nat} {q : Qp} (hN : 137 ≤ N) (h : Hp) (x1 : Int32) : wG X 4 (eM X (fun u => (some (.int u.1), N, u.2, (rq q)))) (f_X12_trim h x1) N h (rq q) 0 0 0 [(0, .ref (xB X + 111)), (1, .int x1)] [] := by
  refine wG_of (f_X12_trim.eq_1 ..) ?_
  refine wG_aload_n C dX12_trim_0 0 rfl ?_
  refine wG_iconst C dX12_trim_1 (v := 0) (by decide) ?_
  refine wG_putI C fl_X12_1_8 (fp_8_0 _) (fun e => Bool.noConfusion e) rfl kd_111 (wll hN (by decide)) dX12_trim_2 (fun h_1 => ?_)
  refine wG_aload_n C dX12_trim_5 0 rfl ?_
  refine wG_iload_n C dX12_trim_6 1 rfl ?_
  refine wG_cV_ri [.int x1] [] C vw_X12_179 (c_X12_noStand (xl X) (xE X) N q hN h_1 x1) kd_111 (wll hN (by decide)) (by decide) rfl rfl (Nat.le_of_ble_eq_true rfl) dX12_trim_7 (cl' := 0) (sl' := 0) rfl rfl (fun u_2 => ?_)
  refine wG_if_eq C dX12_trim_10 ?_ ?_
  · refine wG_aload_n C dX12_trim_15 0 rfl ?_
    refine wG_iload_n C dX12_trim_16 1 rfl ?_
    refine wG_cV_ri [.int x1] [] C vw_X12_191 (c_X12_weighsOf (xl X) (xE X) N q hN h_1 x1) kd_111 (wll hN (by decide)) (by decide) rfl rfl (Nat.le_of_ble_eq_true rfl) dX12_trim_17 (cl' := 0) (sl' := 0) rfl rfl (fun u_3 => ?_)
    refine wG_nmI (fun x2_4 => ?_)
    refine wG_istore_n C (L' := [(0, .ref (xB X + 111)), (1, .int x1), (2, .int x2_4)]) dX12_trim_20 (by decide) [1, 2, 0] rfl ?_
    refine wG_aload_n C dX12_trim_21 0 rfl ?_
    refine wG_getR C fl_X12_50_8 rfl kd_111 (wll hN (by decide)) (rf_111_16 q) dX12_trim_22 ?_
    refine wG_iload_n C dX12_trim_25 1 rfl ?_
    refine wG_dup2 C dX12_trim_26 rfl rfl ?_
    refine wG_iald C kd_121 (wll hN (by decide)) ln_121 dX12_trim_27 ?_
    refine wG_aload_n C dX12_trim_28 0 rfl ?_
    refine wG_iload_n C dX12_trim_29 1 rfl ?_
    refine wG_cV_ri [.int x1] [.int (h_1 121 (ix x1)), .int x1, .ref (xB X + 121)] C vw_X12_155 (c_X12_allDried (xl X) (xE X) N q hN h_1 x1) kd_111 (wll hN (by decide)) (by decide) rfl rfl (Nat.le_of_ble_eq_true rfl) dX12_trim_30 (cl' := 0) (sl' := 0) rfl rfl (fun u_5 => ?_)
    refine wG_bipush C dX12_trim_33 (v := 40) (by decide) ?_
    refine wG_idivK C dX12_trim_35 (by decide) ?_
    refine wG_aload_n C dX12_trim_36 0 rfl ?_
    refine wG_iload_n C dX12_trim_37 1 rfl ?_
    refine wG_cV_ri [.int x1] [.int (u_5 / 40), .int (h_1 121 (ix x1)), .int x1, .ref (xB X + 121)] C vw_X12_185 (c_X12_edges (xl X) (xE X) N q hN h_1 x1) kd_111 (wll hN (by decide)) (by decide) rfl rfl (Nat.le_of_ble_eq_true rfl) dX12_trim_38 (cl' := 0) (sl' := 0) rfl rfl (fun u_6 => ?_)
    refine wG_iadd C dX12_trim_41 ?_
    refine wG_iadd C dX12_trim_42 ?_
    refine wG_iast C kd_121 (wll hN (by decide)) ln_121 dX12_trim_43 (fun h_7 => ?_)
    refine wG_iconst C dX12_trim_44 (v := 0) (by decide) ?_
    refine wG_nmI (fun x3_8 => ?_)
    refine wG_istore_n C (L' := [(0, .ref (xB X + 111)), (1, .int x1), (2, .int x2_4), (3, .int x3_8)]) dX12_trim_45 (by decide) [1, 2, 3, 0] rfl ?_
    refine wG_lv (L' := [(0, .ref (xB X + 111)), (1, .int x1), (2, .int x2_4), (3, .int x3_8)]) [0, 1, 2, 3] rfl ?_
    refine wG_bind (wL_X12_trim_46 C hN h x1 h_1 u_2 u_3 x2_4 u_5 u_6 h_7 x3_8 FU x3_8 h_7) (fun t_11 => (?_ : wG X 4 _ _ N t_11 (rq q) 0 0 68 [(0, .ref (xB X + 111)), (1, .int x1), (2, .int x2_4)] []))
    refine wG_iload_n C dX12_trim_68 2 rfl ?_
    refine wG_aload_n C dX12_trim_69 0 rfl ?_
    refine wG_iload_n C dX12_trim_70 1 rfl ?_
    refine wG_cV_ri [.int x1] [.int x2_4] C vw_X12_191 (c_X12_weighsOf (xl X) (xE X) N q hN t_11 x1) kd_111 (wll hN (by decide)) (by decide) rfl rfl (Nat.le_of_ble_eq_true rfl) dX12_trim_71 (cl' := 0) (sl' := 0) rfl rfl (fun u_14 => ?_)
    refine wG_isub C dX12_trim_74 ?_
    exact wG_iret C dX12_trim_75 ⟨by decide, by decide⟩ (fun _ e => e)
  · refine wG_iconst C dX12_trim_13 (v := (-1)) (by decide) ?_
    exact wG_iret C dX12_trim_14 ⟨by decide, by decide⟩ (fun _ e => e)
theorem c_X12_trim (l : Launch) (E : wE) (N : Nat) (q : Qp) (hN : 137 ≤ N) (h : Hp) (x1 : Int32) : ∀ z, f_X12_trim h x1 = some z → CT l E yX12_trim cX12_trim 4 (some .int) rm_X12_trim [.ref (eB E + 111), .int x1] N h (rq q) ((fun u => (some (.int u.1), N, u.2, (rq q))) z) := CT.of (by decide +kernel) (Nat.le_of_ble_eq_true rfl) (fun X _ e C => by subst e; exact w_X12_trim C hN h x1)
