def rm_X12_ripest : Room := { frames := 3, cells := 0, slots := 0, locals := 75 }
def L_X12_ripest_31 (x1 : Int32) (h_1 : Hp) : Nat → Int32 → Int32 → Int32 → Int32 → Option Int32
  | 0, _, _, _, _ => none
  | n + 1, x2_7, x3_8, x4_9, x5_10 =>
    (if (h_1 111 9) ≤ x5_10 then
    some x2_7
    else
    (f_X12_ripeIn h_1 x5_10 x1).bind fun u_12 =>
    vB u_12 fun (x6_13 : Int32) =>
    (f_X12_paste h_1 x5_10).bind fun u_14 =>
    ((if u_14 = 0 then
    some 1
    else
    (f_X12_paste h_1 x5_10).bind fun u_16 =>
    some u_16)).bind fun t_15 =>
    vB t_15 fun (x7_17 : Int32) =>
    if inB x5_10 24 then
    ((if (h_1 119 (ix x5_10)) = 0 then
    vK (fun (t_19 : Unit) =>
    vB x5_10 fun (x2_21 : Int32) =>
    vB x6_13 fun (x3_22 : Int32) =>
    vB x7_17 fun (x4_23 : Int32) =>
    some (x2_21, x3_22, x4_23)) fun K_20 =>
    (if x2_7 = (-9) then
    K_20 ()
    else
    (if (x6_13 * x4_9) ≤ (x3_8 * x7_17) then
    some (x2_7, x3_8, x4_9)
    else
    K_20 ()))
    else
    some (x2_7, x3_8, x4_9))).bind fun t_18 =>
    vB (x5_10 + 1) fun (x5_24 : Int32) =>
    L_X12_ripest_31 x1 h_1 n t_18.1 t_18.2.1 t_18.2.2 x5_24 else none)
def f_X12_ripest (h : Hp) (x1 : Int32) : Option (Int32 × Hp) :=
  vB (u2 h 111 0 0) fun h_1 =>
  (f_X12_in x1.toInt64 0 999).bind fun u_2 =>
  (if u_2 = 0 then
  some ((-2), h_1)
  else
  vB (-9) fun (x2_3 : Int32) =>
  vB 0 fun (x3_4 : Int32) =>
  vB 1 fun (x4_5 : Int32) =>
  vB 0 fun (x5_6 : Int32) =>
  (L_X12_ripest_31 x1 h_1 FU x2_3 x3_4 x4_5 x5_6).bind fun t_11 =>
  some (t_11, h_1))
set_option maxRecDepth 4000 in
theorem wL_X12_ripest_31 {X : wX} (C : Cx X yX12_ripest cX12_ripest 8 (some .int) rm_X12_ripest) {N : Nat} {q : Qp} (hN : 137 ≤ N) (h : Hp) (x1 : Int32) (h_1 : Hp) (u_2 : Int32) (x2_3 : Int32) (x3_4 : Int32) (x4_5 : Int32) (x5_6 : Int32) : ∀ n x2_7 x3_8 x4_9 x5_10, wG X 8 (fun (t_11 : Int32) Q => gQ X 8 Q N h_1 (rq q) 0 0 114 [(2, .int t_11)] []) (L_X12_ripest_31 x1 h_1 n x2_7 x3_8 x4_9 x5_10) N h_1 (rq q) 0 0 31 [(0, .ref (xB X + 111)), (1, .int x1), (2, .int x2_7), (3, .int x3_8), (4, .int x4_9), (5, .int x5_10)] [] := by
  intro n
  induction n with
  | zero => intro _ _ _ _; exact wG_none
  | succ n ih =>
    intro x2_7 x3_8 x4_9 x5_10
    refine wG_of (L_X12_ripest_31.eq_2 ..) ?_
    refine wG_iload C dX12_ripest_31 5 rfl ?_
    refine wG_aload_n C dX12_ripest_33 0 rfl ?_
    refine wG_getI C fl_X12_29_8 rfl kd_111 (wll hN (by decide)) dX12_ripest_34 ?_
    refine wG_icmp_ge C dX12_ripest_37 ?_ ?_
    · exact wG_exit (fun Q e => gQ_lv [2] rfl e)
    · refine wG_aload_n C dX12_ripest_40 0 rfl ?_
      refine wG_iload C dX12_ripest_41 5 rfl ?_
      refine wG_iload_n C dX12_ripest_43 1 rfl ?_
      refine wG_cV_ri [.int x5_10, .int x1] [] C vw_X12_316 (c_X12_ripeIn (xl X) (xE X) N q hN h_1 x5_10 x1) kd_111 (wll hN (by decide)) (by decide) rfl rfl (Nat.le_of_ble_eq_true rfl) dX12_ripest_44 (cl' := 0) (sl' := 0) rfl rfl (fun u_12 => ?_)
      refine wG_nmI (fun x6_13 => ?_)
      refine wG_istore C (L' := [(0, .ref (xB X + 111)), (1, .int x1), (2, .int x2_7), (3, .int x3_8), (4, .int x4_9), (5, .int x5_10), (6, .int x6_13)]) dX12_ripest_47 (by decide) [1, 2, 3, 4, 5, 6, 0] rfl ?_
      refine wG_aload_n C dX12_ripest_49 0 rfl ?_
      refine wG_iload C dX12_ripest_50 5 rfl ?_
      refine wG_cV_ri [.int x5_10] [] C vw_X12_313 (c_X12_paste (xl X) (xE X) N q hN h_1 x5_10) kd_111 (wll hN (by decide)) (by decide) rfl rfl (Nat.le_of_ble_eq_true rfl) dX12_ripest_52 (cl' := 0) (sl' := 0) rfl rfl (fun u_14 => ?_)
      refine wG_bind (J := (fun (t_15 : Int32) Q => gQ X 8 Q N h_1 (rq q) 0 0 68 [(0, .ref (xB X + 111)), (1, .int x1), (2, .int x2_7), (3, .int x3_8), (4, .int x4_9), (5, .int x5_10), (6, .int x6_13)] [.int t_15])) ?_ (fun t_15 => (?_ : wG X 8 _ _ N h_1 (rq q) 0 0 68 [(0, .ref (xB X + 111)), (1, .int x1), (2, .int x2_7), (3, .int x3_8), (4, .int x4_9), (5, .int x5_10), (6, .int x6_13)] [.int t_15]))
      · refine wG_if_ne C dX12_ripest_55 ?_ ?_
        · refine wG_iconst C dX12_ripest_58 (v := 1) (by decide) ?_
          refine wG_goto C dX12_ripest_59 ?_
          exact wG_exit (fun Q e => gQ_lv [0, 1, 2, 3, 4, 5, 6] rfl e)
        · refine wG_aload_n C dX12_ripest_62 0 rfl ?_
          refine wG_iload C dX12_ripest_63 5 rfl ?_
          refine wG_cV_ri [.int x5_10] [] C vw_X12_313 (c_X12_paste (xl X) (xE X) N q hN h_1 x5_10) kd_111 (wll hN (by decide)) (by decide) rfl rfl (Nat.le_of_ble_eq_true rfl) dX12_ripest_65 (cl' := 0) (sl' := 0) rfl rfl (fun u_16 => ?_)
          exact wG_exit (fun Q e => gQ_lv [0, 1, 2, 3, 4, 5, 6] rfl e)
      · refine wG_nmI (fun x7_17 => ?_)
        refine wG_istore C (L' := [(0, .ref (xB X + 111)), (1, .int x1), (2, .int x2_7), (3, .int x3_8), (4, .int x4_9), (5, .int x5_10), (6, .int x6_13), (7, .int x7_17)]) dX12_ripest_68 (by decide) [1, 2, 3, 4, 5, 6, 7, 0] rfl ?_
        refine wG_aload_n C dX12_ripest_70 0 rfl ?_
        refine wG_getR C fl_X12_44_8 rfl kd_111 (wll hN (by decide)) (rf_111_14 q) dX12_ripest_71 ?_
        refine wG_iload C dX12_ripest_74 5 rfl ?_
        refine wG_iald C kd_119 (wll hN (by decide)) ln_119 dX12_ripest_76 ?_
        refine wG_bind (J := (fun (t_18 : (Int32 × Int32 × Int32)) Q => gQ X 8 Q N h_1 (rq q) 0 0 108 [(0, .ref (xB X + 111)), (1, .int x1), (2, .int t_18.1), (3, .int t_18.2.1), (4, .int t_18.2.2), (5, .int x5_10)] [])) ?_ (fun t_18 => (?_ : wG X 8 _ _ N h_1 (rq q) 0 0 108 [(0, .ref (xB X + 111)), (1, .int x1), (2, .int t_18.1), (3, .int t_18.2.1), (4, .int t_18.2.2), (5, .int x5_10)] []))
        · refine wG_if_ne C dX12_ripest_77 ?_ ?_
          · refine wG_iload_n C dX12_ripest_80 2 rfl ?_
            refine wG_bipush C dX12_ripest_81 (v := (-9)) (by decide) ?_
            refine wG_vK (fun t_19 => (?_ : wG X 8 _ _ N h_1 (rq q) 0 0 98 [(0, .ref (xB X + 111)), (1, .int x1), (5, .int x5_10), (6, .int x6_13), (7, .int x7_17)] [])) (fun K_20 hK_K_20 => ?_)
            · refine wG_iload C dX12_ripest_98 2 rfl ?_
              refine wG_nmI (fun x2_21 => ?_)
              refine wG_istore_n C (L' := [(0, .ref (xB X + 111)), (1, .int x1), (2, .int x2_21), (5, .int x5_10), (6, .int x6_13), (7, .int x7_17)]) dX12_ripest_100 (by decide) [1, 2, 0, 3, 4, 5] rfl ?_
              refine wG_iload C dX12_ripest_101 4 rfl ?_
              refine wG_nmI (fun x3_22 => ?_)
              refine wG_istore_n C (L' := [(0, .ref (xB X + 111)), (1, .int x1), (2, .int x2_21), (3, .int x3_22), (5, .int x5_10), (7, .int x7_17)]) dX12_ripest_103 (by decide) [1, 2, 3, 0, 4, 6] rfl ?_
              refine wG_iload C dX12_ripest_104 5 rfl ?_
              refine wG_nmI (fun x4_23 => ?_)
              refine wG_istore C (L' := [(0, .ref (xB X + 111)), (1, .int x1), (2, .int x2_21), (3, .int x3_22), (4, .int x4_23), (5, .int x5_10)]) dX12_ripest_106 (by decide) [1, 2, 3, 4, 0, 5] rfl ?_
              exact wG_exit (fun Q e => gQ_lv [0, 1, 2, 3, 4, 5] rfl e)
            · refine wG_icmp_eq C dX12_ripest_83 ?_ ?_
              · exact wG_lv [0, 1, 5, 6, 7] rfl (hK_K_20 ())
              · refine wG_iload C dX12_ripest_86 6 rfl ?_
                refine wG_iload C dX12_ripest_88 4 rfl ?_
                refine wG_imul C dX12_ripest_90 ?_
                refine wG_iload_n C dX12_ripest_91 3 rfl ?_
                refine wG_iload C dX12_ripest_92 7 rfl ?_
                refine wG_imul C dX12_ripest_94 ?_
                refine wG_icmp_le C dX12_ripest_95 ?_ ?_
                · exact wG_exit (fun Q e => gQ_lv [0, 1, 2, 3, 4, 5] rfl e)
                · exact wG_lv [0, 1, 5, 6, 7] rfl (hK_K_20 ())
          · exact wG_exit (fun Q e => gQ_lv [0, 1, 2, 3, 4, 5] rfl e)
        · refine wG_iinc C (v := 1) (LL := fun x5_24 => [(0, .ref (xB X + 111)), (1, .int x1), (2, .int t_18.1), (3, .int t_18.2.1), (4, .int t_18.2.2), (5, .int x5_24)]) dX12_ripest_108 5 rfl (by decide) (by decide) [1, 2, 3, 4, 5, 0] (fun _ => rfl) (fun x5_24 => ?_)
          refine wG_goto C dX12_ripest_111 ?_
          exact wG_lv [0, 1, 2, 3, 4, 5] rfl (ih t_18.1 t_18.2.1 t_18.2.2 x5_24)
set_option maxRecDepth 4000 in
theorem w_X12_ripest {X : wX} (C : Cx X yX12_ripest cX12_ripest 8 (some .int) rm_X12_ripest) {N : Nat} {q : Qp} (hN : 137 ≤ N) (h : Hp) (x1 : Int32) : wG X 8 (eM X (fun u => (some (.int u.1), N, u.2, (rq q)))) (f_X12_ripest h x1) N h (rq q) 0 0 0 [(0, .ref (xB X + 111)), (1, .int x1)] [] := by
  refine wG_of (f_X12_ripest.eq_1 ..) ?_
  refine wG_aload_n C dX12_ripest_0 0 rfl ?_
  refine wG_iconst C dX12_ripest_1 (v := 0) (by decide) ?_
  refine wG_putI C fl_X12_1_8 (fp_8_0 _) (fun e => Bool.noConfusion e) rfl kd_111 (wll hN (by decide)) dX12_ripest_2 (fun h_1 => ?_)
  refine wG_iload_n C dX12_ripest_5 1 rfl ?_
  refine wG_i2l C dX12_ripest_6 ?_
  refine wG_lconst C dX12_ripest_7 (v := 0) (by decide) ?_
  refine wG_ldc2 C dX12_ripest_8 m_1248 ?_
  refine wG_cS_ri [.long x1.toInt64, .long 0, .long 999] [] C sw_X12_113 (c_X12_in (xl X) (xE X) N q hN h_1 x1.toInt64 0 999) (by decide) rfl rfl (Nat.le_of_ble_eq_true rfl) dX12_ripest_11 (cl' := 0) (sl' := 0) rfl rfl (fun u_2 => ?_)
  refine wG_if_ne C dX12_ripest_14 ?_ ?_
  · refine wG_bipush C dX12_ripest_17 (v := (-2)) (by decide) ?_
    exact wG_iret C dX12_ripest_19 ⟨by decide, by decide⟩ (fun _ e => e)
  · refine wG_bipush C dX12_ripest_20 (v := (-9)) (by decide) ?_
    refine wG_nmI (fun x2_3 => ?_)
    refine wG_istore_n C (L' := [(0, .ref (xB X + 111)), (1, .int x1), (2, .int x2_3)]) dX12_ripest_22 (by decide) [1, 2, 0] rfl ?_
    refine wG_iconst C dX12_ripest_23 (v := 0) (by decide) ?_
    refine wG_nmI (fun x3_4 => ?_)
    refine wG_istore_n C (L' := [(0, .ref (xB X + 111)), (1, .int x1), (2, .int x2_3), (3, .int x3_4)]) dX12_ripest_24 (by decide) [1, 2, 3, 0] rfl ?_
    refine wG_iconst C dX12_ripest_25 (v := 1) (by decide) ?_
    refine wG_nmI (fun x4_5 => ?_)
    refine wG_istore C (L' := [(0, .ref (xB X + 111)), (1, .int x1), (2, .int x2_3), (3, .int x3_4), (4, .int x4_5)]) dX12_ripest_26 (by decide) [1, 2, 3, 4, 0] rfl ?_
    refine wG_iconst C dX12_ripest_28 (v := 0) (by decide) ?_
    refine wG_nmI (fun x5_6 => ?_)
    refine wG_istore C (L' := [(0, .ref (xB X + 111)), (1, .int x1), (2, .int x2_3), (3, .int x3_4), (4, .int x4_5), (5, .int x5_6)]) dX12_ripest_29 (by decide) [1, 2, 3, 4, 5, 0] rfl ?_
    refine wG_lv (L' := [(0, .ref (xB X + 111)), (1, .int x1), (2, .int x2_3), (3, .int x3_4), (4, .int x4_5), (5, .int x5_6)]) [0, 1, 2, 3, 4, 5] rfl ?_
    refine wG_bind (wL_X12_ripest_31 C hN h x1 h_1 u_2 x2_3 x3_4 x4_5 x5_6 FU x2_3 x3_4 x4_5 x5_6) (fun t_11 => (?_ : wG X 8 _ _ N h_1 (rq q) 0 0 114 [(2, .int t_11)] []))
    refine wG_iload_n C dX12_ripest_114 0 rfl ?_
    exact wG_iret C dX12_ripest_115 ⟨by decide, by decide⟩ (fun _ e => e)
theorem c_X12_ripest (l : Launch) (E : wE) (N : Nat) (q : Qp) (hN : 137 ≤ N) (h : Hp) (x1 : Int32) : ∀ z, f_X12_ripest h x1 = some z → CT l E yX12_ripest cX12_ripest 8 (some .int) rm_X12_ripest [.ref (eB E + 111), .int x1] N h (rq q) ((fun u => (some (.int u.1), N, u.2, (rq q))) z) := CT.of (by decide +kernel) (Nat.le_of_ble_eq_true rfl) (fun X _ e C => by subst e; exact w_X12_ripest C hN h x1)
def rm_X12_book : Room := { frames := 1, cells := 0, slots := 0, locals := 25 }
def f_X12_book (h : Hp) (x1 : Int32) : Option (Int32 × Hp) :=
  vB (u2 h 111 0 0) fun h_1 =>
  (f_X12_in x1.toInt64 0 99).bind fun u_2 =>
  (if u_2 = 0 then
  some ((-2), h_1)
  else
  (if (h_1 111 39) = 16 then
  some ((-4), h_1)
  else
  if inB (h_1 111 39) 16 then vB (u2 h_1 134 (ix (h_1 111 39)) x1) fun h_3 =>
  vB (u2 h_3 111 39 ((h_3 111 39) + 1)) fun h_4 =>
  some ((h_4 111 39), h_4) else none))
set_option maxRecDepth 4000 in
theorem w_X12_book {X : wX} (C : Cx X yX12_book cX12_book 2 (some .int) rm_X12_book) {N : Nat} {q : Qp} (hN : 137 ≤ N) (h : Hp) (x1 : Int32) : wG X 2 (eM X (fun u => (some (.int u.1), N, u.2, (rq q)))) (f_X12_book h x1) N h (rq q) 0 0 0 [(0, .ref (xB X + 111)), (1, .int x1)] [] := by
  refine wG_of (f_X12_book.eq_1 ..) ?_
  refine wG_aload_n C dX12_book_0 0 rfl ?_
  refine wG_iconst C dX12_book_1 (v := 0) (by decide) ?_
  refine wG_putI C fl_X12_1_8 (fp_8_0 _) (fun e => Bool.noConfusion e) rfl kd_111 (wll hN (by decide)) dX12_book_2 (fun h_1 => ?_)
  refine wG_iload_n C dX12_book_5 1 rfl ?_
  refine wG_i2l C dX12_book_6 ?_
  refine wG_lconst C dX12_book_7 (v := 0) (by decide) ?_
  refine wG_ldc2 C dX12_book_8 m_1270 ?_
  refine wG_cS_ri [.long x1.toInt64, .long 0, .long 99] [] C sw_X12_113 (c_X12_in (xl X) (xE X) N q hN h_1 x1.toInt64 0 99) (by decide) rfl rfl (Nat.le_of_ble_eq_true rfl) dX12_book_11 (cl' := 0) (sl' := 0) rfl rfl (fun u_2 => ?_)
  refine wG_if_ne C dX12_book_14 ?_ ?_
  · refine wG_bipush C dX12_book_17 (v := (-2)) (by decide) ?_
    exact wG_iret C dX12_book_19 ⟨by decide, by decide⟩ (fun _ e => e)
  · refine wG_aload_n C dX12_book_20 0 rfl ?_
    refine wG_getI C fl_X12_323_8 rfl kd_111 (wll hN (by decide)) dX12_book_21 ?_
    refine wG_bipush C dX12_book_24 (v := 16) (by decide) ?_
    refine wG_icmp_ne C dX12_book_26 ?_ ?_
    · refine wG_bipush C dX12_book_29 (v := (-4)) (by decide) ?_
      exact wG_iret C dX12_book_31 ⟨by decide, by decide⟩ (fun _ e => e)
    · refine wG_aload_n C dX12_book_32 0 rfl ?_
      refine wG_getR C fl_X12_96_8 rfl kd_111 (wll hN (by decide)) (rf_111_40 q) dX12_book_33 ?_
      refine wG_aload_n C dX12_book_36 0 rfl ?_
      refine wG_getI C fl_X12_323_8 rfl kd_111 (wll hN (by decide)) dX12_book_37 ?_
      refine wG_iload_n C dX12_book_40 1 rfl ?_
      refine wG_iast C kd_134 (wll hN (by decide)) ln_134 dX12_book_41 (fun h_3 => ?_)
      refine wG_aload_n C dX12_book_42 0 rfl ?_
      refine wG_dup C dX12_book_43 rfl ?_
      refine wG_getI C fl_X12_323_8 rfl kd_111 (wll hN (by decide)) dX12_book_44 ?_
      refine wG_iconst C dX12_book_47 (v := 1) (by decide) ?_
      refine wG_iadd C dX12_book_48 ?_
      refine wG_putI C fl_X12_323_8 (fp_8_39 _) (fun e => Bool.noConfusion e) rfl kd_111 (wll hN (by decide)) dX12_book_49 (fun h_4 => ?_)
      refine wG_aload_n C dX12_book_52 0 rfl ?_
      refine wG_getI C fl_X12_323_8 rfl kd_111 (wll hN (by decide)) dX12_book_53 ?_
      exact wG_iret C dX12_book_56 ⟨by decide, by decide⟩ (fun _ e => e)
theorem c_X12_book (l : Launch) (E : wE) (N : Nat) (q : Qp) (hN : 137 ≤ N) (h : Hp) (x1 : Int32) : ∀ z, f_X12_book h x1 = some z → CT l E yX12_book cX12_book 2 (some .int) rm_X12_book [.ref (eB E + 111), .int x1] N h (rq q) ((fun u => (some (.int u.1), N, u.2, (rq q))) z) := CT.of (by decide +kernel) (Nat.le_of_ble_eq_true rfl) (fun X _ e C => by subst e; exact w_X12_book C hN h x1)
def rm_X12_earns : Room := { frames := 0, cells := 0, slots := 0, locals := 0 }
def L_X12_earns_4 (h : Hp) (x1 : Int32) : Nat → Int32 → Int32 → Option Int32
  | 0, _, _ => none
  | n + 1, x2_3, x3_4 =>
    (if (h 111 39) ≤ x3_4 then
    some x2_3
    else
    if inB x3_4 16 then
    ((if (h 134 (ix x3_4)) < x1 then
    some (-12)
    else
    some x1)).bind fun t_6 =>
    vB (x2_3 + t_6) fun (x2_7 : Int32) =>
    vB (x3_4 + 1) fun (x3_8 : Int32) =>
    L_X12_earns_4 h x1 n x2_7 x3_8 else none)
def f_X12_earns (h : Hp) (x1 : Int32) : Option Int32 :=
  vB 0 fun (x2_1 : Int32) =>
  vB 0 fun (x3_2 : Int32) =>
  (L_X12_earns_4 h x1 FU x2_1 x3_2).bind fun t_5 =>
  some t_5
set_option maxRecDepth 4000 in
theorem wL_X12_earns_4 {X : wX} (C : Cx X yX12_earns cX12_earns 4 (some .int) rm_X12_earns) {N : Nat} {q : Qp} (hN : 137 ≤ N) (h : Hp) (x1 : Int32) (x2_1 : Int32) (x3_2 : Int32) : ∀ n x2_3 x3_4, wG X 4 (fun (t_5 : Int32) Q => gQ X 4 Q N h (rq q) 0 0 37 [(2, .int t_5)] []) (L_X12_earns_4 h x1 n x2_3 x3_4) N h (rq q) 0 0 4 [(0, .ref (xB X + 111)), (1, .int x1), (2, .int x2_3), (3, .int x3_4)] [] := by
  intro n
  induction n with
  | zero => intro _ _; exact wG_none
  | succ n ih =>
    intro x2_3 x3_4
    refine wG_of (L_X12_earns_4.eq_2 ..) ?_
    refine wG_iload_n C dX12_earns_4 3 rfl ?_
    refine wG_aload_n C dX12_earns_5 0 rfl ?_
    refine wG_getI C fl_X12_323_8 rfl kd_111 (wll hN (by decide)) dX12_earns_6 ?_
    refine wG_icmp_ge C dX12_earns_9 ?_ ?_
    · exact wG_exit (fun Q e => gQ_lv [2] rfl e)
    · refine wG_iload_n C dX12_earns_12 2 rfl ?_
      refine wG_aload_n C dX12_earns_13 0 rfl ?_
      refine wG_getR C fl_X12_96_8 rfl kd_111 (wll hN (by decide)) (rf_111_40 q) dX12_earns_14 ?_
      refine wG_iload_n C dX12_earns_17 3 rfl ?_
      refine wG_iald C kd_134 (wll hN (by decide)) ln_134 dX12_earns_18 ?_
      refine wG_iload_n C dX12_earns_19 1 rfl ?_
      refine wG_bind (J := (fun (t_6 : Int32) Q => gQ X 4 Q N h (rq q) 0 0 29 [(0, .ref (xB X + 111)), (1, .int x1), (3, .int x3_4)] [.int t_6, .int x2_3])) ?_ (fun t_6 => (?_ : wG X 4 _ _ N h (rq q) 0 0 29 [(0, .ref (xB X + 111)), (1, .int x1), (3, .int x3_4)] [.int t_6, .int x2_3]))
      · refine wG_icmp_lt C dX12_earns_20 ?_ ?_
        · refine wG_bipush C dX12_earns_27 (v := (-12)) (by decide) ?_
          exact wG_exit (fun Q e => gQ_lv [0, 1, 3] rfl e)
        · refine wG_iload_n C dX12_earns_23 1 rfl ?_
          refine wG_goto C dX12_earns_24 ?_
          exact wG_exit (fun Q e => gQ_lv [0, 1, 3] rfl e)
      · refine wG_iadd C dX12_earns_29 ?_
        refine wG_nmI (fun x2_7 => ?_)
        refine wG_istore_n C (L' := [(0, .ref (xB X + 111)), (1, .int x1), (2, .int x2_7), (3, .int x3_4)]) dX12_earns_30 (by decide) [1, 2, 0, 3] rfl ?_
        refine wG_iinc C (v := 1) (LL := fun x3_8 => [(0, .ref (xB X + 111)), (1, .int x1), (2, .int x2_7), (3, .int x3_8)]) dX12_earns_31 3 rfl (by decide) (by decide) [1, 2, 3, 0] (fun _ => rfl) (fun x3_8 => ?_)
        refine wG_goto C dX12_earns_34 ?_
        exact wG_lv [0, 1, 2, 3] rfl (ih x2_7 x3_8)
set_option maxRecDepth 4000 in
theorem w_X12_earns {X : wX} (C : Cx X yX12_earns cX12_earns 4 (some .int) rm_X12_earns) {N : Nat} {q : Qp} (hN : 137 ≤ N) (h : Hp) (x1 : Int32) : wG X 4 (eM X (fun u => (some (.int u), N, h, (rq q)))) (f_X12_earns h x1) N h (rq q) 0 0 0 [(0, .ref (xB X + 111)), (1, .int x1)] [] := by
  refine wG_of (f_X12_earns.eq_1 ..) ?_
  refine wG_iconst C dX12_earns_0 (v := 0) (by decide) ?_
  refine wG_nmI (fun x2_1 => ?_)
  refine wG_istore_n C (L' := [(0, .ref (xB X + 111)), (1, .int x1), (2, .int x2_1)]) dX12_earns_1 (by decide) [1, 2, 0] rfl ?_
  refine wG_iconst C dX12_earns_2 (v := 0) (by decide) ?_
  refine wG_nmI (fun x3_2 => ?_)
  refine wG_istore_n C (L' := [(0, .ref (xB X + 111)), (1, .int x1), (2, .int x2_1), (3, .int x3_2)]) dX12_earns_3 (by decide) [1, 2, 3, 0] rfl ?_
  refine wG_lv (L' := [(0, .ref (xB X + 111)), (1, .int x1), (2, .int x2_1), (3, .int x3_2)]) [0, 1, 2, 3] rfl ?_
  refine wG_bind (wL_X12_earns_4 C hN h x1 x2_1 x3_2 FU x2_1 x3_2) (fun t_5 => (?_ : wG X 4 _ _ N h (rq q) 0 0 37 [(2, .int t_5)] []))
  refine wG_iload_n C dX12_earns_37 0 rfl ?_
  exact wG_iret C dX12_earns_38 ⟨by decide, by decide⟩ (fun _ e => e)
theorem c_X12_earns (l : Launch) (E : wE) (N : Nat) (q : Qp) (hN : 137 ≤ N) (h : Hp) (x1 : Int32) : ∀ z, f_X12_earns h x1 = some z → CT l E yX12_earns cX12_earns 4 (some .int) rm_X12_earns [.ref (eB E + 111), .int x1] N h (rq q) ((fun u => (some (.int u), N, h, (rq q))) z) := CT.of (by decide +kernel) (Nat.le_of_ble_eq_true rfl) (fun X _ e C => by subst e; exact w_X12_earns C hN h x1)
def rm_X12_over : Room := { frames := 1, cells := 0, slots := 0, locals := 25 }
def f_X12_over (h : Hp) (x1 : Int32) : Option (Int32 × Hp) :=
  vB (u2 h 111 0 0) fun h_1 =>
  (f_X12_in x1.toInt64 0 99).bind fun u_2 =>
  (if u_2 = 0 then
  some ((-2), h_1)
  else
  (f_X12_earns h_1 x1).bind fun u_3 =>
  some ((1000 + u_3), h_1))
set_option maxRecDepth 4000 in
theorem w_X12_over {X : wX} (C : Cx X yX12_over cX12_over 2 (some .int) rm_X12_over) {N : Nat} {q : Qp} (hN : 137 ≤ N) (h : Hp) (x1 : Int32) : wG X 2 (eM X (fun u => (some (.int u.1), N, u.2, (rq q)))) (f_X12_over h x1) N h (rq q) 0 0 0 [(0, .ref (xB X + 111)), (1, .int x1)] [] := by
  refine wG_of (f_X12_over.eq_1 ..) ?_
  refine wG_aload_n C dX12_over_0 0 rfl ?_
  refine wG_iconst C dX12_over_1 (v := 0) (by decide) ?_
  refine wG_putI C fl_X12_1_8 (fp_8_0 _) (fun e => Bool.noConfusion e) rfl kd_111 (wll hN (by decide)) dX12_over_2 (fun h_1 => ?_)
  refine wG_iload_n C dX12_over_5 1 rfl ?_
  refine wG_i2l C dX12_over_6 ?_
  refine wG_lconst C dX12_over_7 (v := 0) (by decide) ?_
  refine wG_ldc2 C dX12_over_8 m_1270 ?_
  refine wG_cS_ri [.long x1.toInt64, .long 0, .long 99] [] C sw_X12_113 (c_X12_in (xl X) (xE X) N q hN h_1 x1.toInt64 0 99) (by decide) rfl rfl (Nat.le_of_ble_eq_true rfl) dX12_over_11 (cl' := 0) (sl' := 0) rfl rfl (fun u_2 => ?_)
  refine wG_if_eq C dX12_over_14 ?_ ?_
  · refine wG_bipush C dX12_over_29 (v := (-2)) (by decide) ?_
    exact wG_iret C dX12_over_31 ⟨by decide, by decide⟩ (fun _ e => e)
  · refine wG_sipush C dX12_over_17 (v := 1000) (by decide) ?_
    refine wG_aload_n C dX12_over_20 0 rfl ?_
    refine wG_iload_n C dX12_over_21 1 rfl ?_
    refine wG_cV_ri [.int x1] [.int 1000] C vw_X12_326 (c_X12_earns (xl X) (xE X) N q hN h_1 x1) kd_111 (wll hN (by decide)) (by decide) rfl rfl (Nat.le_of_ble_eq_true rfl) dX12_over_22 (cl' := 0) (sl' := 0) rfl rfl (fun u_3 => ?_)
    refine wG_iadd C dX12_over_25 ?_
    refine wG_goto C dX12_over_26 ?_
    exact wG_iret C dX12_over_31 ⟨by decide, by decide⟩ (fun _ e => e)
theorem c_X12_over (l : Launch) (E : wE) (N : Nat) (q : Qp) (hN : 137 ≤ N) (h : Hp) (x1 : Int32) : ∀ z, f_X12_over h x1 = some z → CT l E yX12_over cX12_over 2 (some .int) rm_X12_over [.ref (eB E + 111), .int x1] N h (rq q) ((fun u => (some (.int u.1), N, u.2, (rq q))) z) := CT.of (by decide +kernel) (Nat.le_of_ble_eq_true rfl) (fun X _ e C => by subst e; exact w_X12_over C hN h x1)
def rm_X12_bestOver : Room := { frames := 1, cells := 0, slots := 0, locals := 23 }
def L_X12_bestOver_9 (h_1 : Hp) : Nat → Int32 → Int32 → Option Int32
  | 0, _, _ => none
  | n + 1, x1_4, x2_5 =>
    (if (100 : Int32) ≤ x2_5 then
    some x1_4
    else
    (f_X12_earns h_1 x2_5).bind fun u_7 =>
    (f_X12_earns h_1 x1_4).bind fun u_8 =>
    ((if u_7 ≤ u_8 then
    some x1_4
    else
    some x2_5)).bind fun t_9 =>
    vB t_9 fun (x1_10 : Int32) =>
    vB (x2_5 + 1) fun (x2_11 : Int32) =>
    L_X12_bestOver_9 h_1 n x1_10 x2_11)
def f_X12_bestOver (h : Hp) : Option (Int32 × Hp) :=
  vB (u2 h 111 0 0) fun h_1 =>
  vB 0 fun (x1_2 : Int32) =>
  vB 1 fun (x2_3 : Int32) =>
  (L_X12_bestOver_9 h_1 FU x1_2 x2_3).bind fun t_6 =>
  some (t_6, h_1)
set_option maxRecDepth 4000 in
theorem wL_X12_bestOver_9 {X : wX} (C : Cx X yX12_bestOver cX12_bestOver 3 (some .int) rm_X12_bestOver) {N : Nat} {q : Qp} (hN : 137 ≤ N) (h : Hp) (h_1 : Hp) (x1_2 : Int32) (x2_3 : Int32) : ∀ n x1_4 x2_5, wG X 3 (fun (t_6 : Int32) Q => gQ X 3 Q N h_1 (rq q) 0 0 40 [(1, .int t_6)] []) (L_X12_bestOver_9 h_1 n x1_4 x2_5) N h_1 (rq q) 0 0 9 [(0, .ref (xB X + 111)), (1, .int x1_4), (2, .int x2_5)] [] := by
  intro n
  induction n with
  | zero => intro _ _; exact wG_none
  | succ n ih =>
    intro x1_4 x2_5
    refine wG_of (L_X12_bestOver_9.eq_2 ..) ?_
    refine wG_iload_n C dX12_bestOver_9 2 rfl ?_
    refine wG_bipush C dX12_bestOver_10 (v := 100) (by decide) ?_
    refine wG_icmp_ge C dX12_bestOver_12 ?_ ?_
    · exact wG_exit (fun Q e => gQ_lv [1] rfl e)
    · refine wG_aload_n C dX12_bestOver_15 0 rfl ?_
      refine wG_iload_n C dX12_bestOver_16 2 rfl ?_
      refine wG_cV_ri [.int x2_5] [] C vw_X12_326 (c_X12_earns (xl X) (xE X) N q hN h_1 x2_5) kd_111 (wll hN (by decide)) (by decide) rfl rfl (Nat.le_of_ble_eq_true rfl) dX12_bestOver_17 (cl' := 0) (sl' := 0) rfl rfl (fun u_7 => ?_)
      refine wG_aload_n C dX12_bestOver_20 0 rfl ?_
      refine wG_iload_n C dX12_bestOver_21 1 rfl ?_
      refine wG_cV_ri [.int x1_4] [.int u_7] C vw_X12_326 (c_X12_earns (xl X) (xE X) N q hN h_1 x1_4) kd_111 (wll hN (by decide)) (by decide) rfl rfl (Nat.le_of_ble_eq_true rfl) dX12_bestOver_22 (cl' := 0) (sl' := 0) rfl rfl (fun u_8 => ?_)
      refine wG_bind (J := (fun (t_9 : Int32) Q => gQ X 3 Q N h_1 (rq q) 0 0 33 [(0, .ref (xB X + 111)), (2, .int x2_5)] [.int t_9])) ?_ (fun t_9 => (?_ : wG X 3 _ _ N h_1 (rq q) 0 0 33 [(0, .ref (xB X + 111)), (2, .int x2_5)] [.int t_9]))
      · refine wG_icmp_le C dX12_bestOver_25 ?_ ?_
        · refine wG_iload_n C dX12_bestOver_32 1 rfl ?_
          exact wG_exit (fun Q e => gQ_lv [0, 2] rfl e)
        · refine wG_iload_n C dX12_bestOver_28 2 rfl ?_
          refine wG_goto C dX12_bestOver_29 ?_
          exact wG_exit (fun Q e => gQ_lv [0, 2] rfl e)
      · refine wG_nmI (fun x1_10 => ?_)
        refine wG_istore_n C (L' := [(0, .ref (xB X + 111)), (1, .int x1_10), (2, .int x2_5)]) dX12_bestOver_33 (by decide) [1, 0, 2] rfl ?_
        refine wG_iinc C (v := 1) (LL := fun x2_11 => [(0, .ref (xB X + 111)), (1, .int x1_10), (2, .int x2_11)]) dX12_bestOver_34 2 rfl (by decide) (by decide) [1, 2, 0] (fun _ => rfl) (fun x2_11 => ?_)
        refine wG_goto C dX12_bestOver_37 ?_
        exact wG_lv [0, 1, 2] rfl (ih x1_10 x2_11)
set_option maxRecDepth 4000 in
theorem w_X12_bestOver {X : wX} (C : Cx X yX12_bestOver cX12_bestOver 3 (some .int) rm_X12_bestOver) {N : Nat} {q : Qp} (hN : 137 ≤ N) (h : Hp) : wG X 3 (eM X (fun u => (some (.int u.1), N, u.2, (rq q)))) (f_X12_bestOver h) N h (rq q) 0 0 0 [(0, .ref (xB X + 111))] [] := by
  refine wG_of (f_X12_bestOver.eq_1 ..) ?_
  refine wG_aload_n C dX12_bestOver_0 0 rfl ?_
  refine wG_iconst C dX12_bestOver_1 (v := 0) (by decide) ?_
  refine wG_putI C fl_X12_1_8 (fp_8_0 _) (fun e => Bool.noConfusion e) rfl kd_111 (wll hN (by decide)) dX12_bestOver_2 (fun h_1 => ?_)
  refine wG_iconst C dX12_bestOver_5 (v := 0) (by decide) ?_
  refine wG_nmI (fun x1_2 => ?_)
  refine wG_istore_n C (L' := [(0, .ref (xB X + 111)), (1, .int x1_2)]) dX12_bestOver_6 (by decide) [1, 0] rfl ?_
  refine wG_iconst C dX12_bestOver_7 (v := 1) (by decide) ?_
  refine wG_nmI (fun x2_3 => ?_)
  refine wG_istore_n C (L' := [(0, .ref (xB X + 111)), (1, .int x1_2), (2, .int x2_3)]) dX12_bestOver_8 (by decide) [1, 2, 0] rfl ?_
  refine wG_lv (L' := [(0, .ref (xB X + 111)), (1, .int x1_2), (2, .int x2_3)]) [0, 1, 2] rfl ?_
  refine wG_bind (wL_X12_bestOver_9 C hN h h_1 x1_2 x2_3 FU x1_2 x2_3) (fun t_6 => (?_ : wG X 3 _ _ N h_1 (rq q) 0 0 40 [(1, .int t_6)] []))
  refine wG_iload_n C dX12_bestOver_40 0 rfl ?_
  exact wG_iret C dX12_bestOver_41 ⟨by decide, by decide⟩ (fun _ e => e)
theorem c_X12_bestOver (l : Launch) (E : wE) (N : Nat) (q : Qp) (hN : 137 ≤ N) (h : Hp) : ∀ z, f_X12_bestOver h = some z → CT l E yX12_bestOver cX12_bestOver 3 (some .int) rm_X12_bestOver [.ref (eB E + 111)] N h (rq q) ((fun u => (some (.int u.1), N, u.2, (rq q))) z) := CT.of (by decide +kernel) (Nat.le_of_ble_eq_true rfl) (fun X _ e C => by subst e; exact w_X12_bestOver C hN h)
def rm_X12_taste : Room := { frames := 1, cells := 0, slots := 0, locals := 25 }
def f_X12_taste (h : Hp) (x1 : Int32) (x2 : Int32) : Option (Int32 × Hp) :=
  vB (u2 h 111 0 0) fun h_1 =>
  (f_X12_in x1.toInt64 0 9).bind fun u_2 =>
  (if u_2 = 0 then
  some ((-2), h_1)
  else
  if inB x1 10 then
  if inB x1 10 then vB (u2 h_1 135 (ix x1) ((h_1 135 (ix x1)) + 1)) fun h_3 =>
  if inB x1 10 then
  ((if x2 = 0 then
  some 0
  else
  some 1)).bind fun t_4 =>
  if inB x1 10 then vB (u2 h_3 136 (ix x1) ((h_3 136 (ix x1)) + t_4)) fun h_5 =>
  if inB x1 10 then
  some ((h_5 135 (ix x1)), h_5) else none else none else none else none else none)
set_option maxRecDepth 4000 in
theorem w_X12_taste {X : wX} (C : Cx X yX12_taste cX12_taste 3 (some .int) rm_X12_taste) {N : Nat} {q : Qp} (hN : 137 ≤ N) (h : Hp) (x1 : Int32) (x2 : Int32) : wG X 3 (eM X (fun u => (some (.int u.1), N, u.2, (rq q)))) (f_X12_taste h x1 x2) N h (rq q) 0 0 0 [(0, .ref (xB X + 111)), (1, .int x1), (2, .int x2)] [] := by
  refine wG_of (f_X12_taste.eq_1 ..) ?_
  refine wG_aload_n C dX12_taste_0 0 rfl ?_
  refine wG_iconst C dX12_taste_1 (v := 0) (by decide) ?_
  refine wG_putI C fl_X12_1_8 (fp_8_0 _) (fun e => Bool.noConfusion e) rfl kd_111 (wll hN (by decide)) dX12_taste_2 (fun h_1 => ?_)
  refine wG_iload_n C dX12_taste_5 1 rfl ?_
  refine wG_i2l C dX12_taste_6 ?_
  refine wG_lconst C dX12_taste_7 (v := 0) (by decide) ?_
  refine wG_ldc2 C dX12_taste_8 m_1461 ?_
  refine wG_cS_ri [.long x1.toInt64, .long 0, .long 9] [] C sw_X12_113 (c_X12_in (xl X) (xE X) N q hN h_1 x1.toInt64 0 9) (by decide) rfl rfl (Nat.le_of_ble_eq_true rfl) dX12_taste_11 (cl' := 0) (sl' := 0) rfl rfl (fun u_2 => ?_)
  refine wG_if_ne C dX12_taste_14 ?_ ?_
  · refine wG_bipush C dX12_taste_17 (v := (-2)) (by decide) ?_
    exact wG_iret C dX12_taste_19 ⟨by decide, by decide⟩ (fun _ e => e)
  · refine wG_aload_n C dX12_taste_20 0 rfl ?_
    refine wG_getR C fl_X12_99_8 rfl kd_111 (wll hN (by decide)) (rf_111_41 q) dX12_taste_21 ?_
    refine wG_iload_n C dX12_taste_24 1 rfl ?_
    refine wG_dup2 C dX12_taste_25 rfl rfl ?_
    refine wG_iald C kd_135 (wll hN (by decide)) ln_135 dX12_taste_26 ?_
    refine wG_iconst C dX12_taste_27 (v := 1) (by decide) ?_
    refine wG_iadd C dX12_taste_28 ?_
    refine wG_iast C kd_135 (wll hN (by decide)) ln_135 dX12_taste_29 (fun h_3 => ?_)
    refine wG_aload_n C dX12_taste_30 0 rfl ?_
    refine wG_getR C fl_X12_102_8 rfl kd_111 (wll hN (by decide)) (rf_111_42 q) dX12_taste_31 ?_
    refine wG_iload_n C dX12_taste_34 1 rfl ?_
    refine wG_dup2 C dX12_taste_35 rfl rfl ?_
    refine wG_iald C kd_136 (wll hN (by decide)) ln_136 dX12_taste_36 ?_
    refine wG_iload_n C dX12_taste_37 2 rfl ?_
    refine wG_bind (J := (fun (t_4 : Int32) Q => gQ X 3 Q N h_3 (rq q) 0 0 46 [(0, .ref (xB X + 111)), (1, .int x1)] [.int t_4, .int (h_3 136 (ix x1)), .int x1, .ref (xB X + 136)])) ?_ (fun t_4 => (?_ : wG X 3 _ _ N h_3 (rq q) 0 0 46 [(0, .ref (xB X + 111)), (1, .int x1)] [.int t_4, .int (h_3 136 (ix x1)), .int x1, .ref (xB X + 136)]))
    · refine wG_if_eq C dX12_taste_38 ?_ ?_
      · refine wG_iconst C dX12_taste_45 (v := 0) (by decide) ?_
        exact wG_exit (fun Q e => gQ_lv [0, 1] rfl e)
      · refine wG_iconst C dX12_taste_41 (v := 1) (by decide) ?_
        refine wG_goto C dX12_taste_42 ?_
        exact wG_exit (fun Q e => gQ_lv [0, 1] rfl e)
    · refine wG_iadd C dX12_taste_46 ?_
      refine wG_iast C kd_136 (wll hN (by decide)) ln_136 dX12_taste_47 (fun h_5 => ?_)
      refine wG_aload_n C dX12_taste_48 0 rfl ?_
      refine wG_getR C fl_X12_99_8 rfl kd_111 (wll hN (by decide)) (rf_111_41 q) dX12_taste_49 ?_
      refine wG_iload_n C dX12_taste_52 1 rfl ?_
      refine wG_iald C kd_135 (wll hN (by decide)) ln_135 dX12_taste_53 ?_
      exact wG_iret C dX12_taste_54 ⟨by decide, by decide⟩ (fun _ e => e)
theorem c_X12_taste (l : Launch) (E : wE) (N : Nat) (q : Qp) (hN : 137 ≤ N) (h : Hp) (x1 : Int32) (x2 : Int32) : ∀ z, f_X12_taste h x1 x2 = some z → CT l E yX12_taste cX12_taste 3 (some .int) rm_X12_taste [.ref (eB E + 111), .int x1, .int x2] N h (rq q) ((fun u => (some (.int u.1), N, u.2, (rq q))) z) := CT.of (by decide +kernel) (Nat.le_of_ble_eq_true rfl) (fun X _ e C => by subst e; exact w_X12_taste C hN h x1 x2)
def rm_X12_gain : Room := { frames := 0, cells := 0, slots := 0, locals := 0 }
def f_X12_gain (h : Hp) (x1 : Int32) : Option Int32 :=
  if inB x1 10 then
  if inB x1 10 then
  some ((20 * ((h 136 (ix x1)) + 1)) - (x1 * ((h 135 (ix x1)) + 2))) else none else none
set_option maxRecDepth 4000 in
theorem w_X12_gain {X : wX} (C : Cx X yX12_gain cX12_gain 2 (some .int) rm_X12_gain) {N : Nat} {q : Qp} (hN : 137 ≤ N) (h : Hp) (x1 : Int32) : wG X 2 (eM X (fun u => (some (.int u), N, h, (rq q)))) (f_X12_gain h x1) N h (rq q) 0 0 0 [(0, .ref (xB X + 111)), (1, .int x1)] [] := by
  refine wG_of (f_X12_gain.eq_1 ..) ?_
  refine wG_bipush C dX12_gain_0 (v := 20) (by decide) ?_
  refine wG_aload_n C dX12_gain_2 0 rfl ?_
  refine wG_getR C fl_X12_102_8 rfl kd_111 (wll hN (by decide)) (rf_111_42 q) dX12_gain_3 ?_
  refine wG_iload_n C dX12_gain_6 1 rfl ?_
  refine wG_iald C kd_136 (wll hN (by decide)) ln_136 dX12_gain_7 ?_
  refine wG_iconst C dX12_gain_8 (v := 1) (by decide) ?_
  refine wG_iadd C dX12_gain_9 ?_
  refine wG_imul C dX12_gain_10 ?_
  refine wG_iload_n C dX12_gain_11 1 rfl ?_
  refine wG_aload_n C dX12_gain_12 0 rfl ?_
  refine wG_getR C fl_X12_99_8 rfl kd_111 (wll hN (by decide)) (rf_111_41 q) dX12_gain_13 ?_
  refine wG_iload_n C dX12_gain_16 1 rfl ?_
  refine wG_iald C kd_135 (wll hN (by decide)) ln_135 dX12_gain_17 ?_
  refine wG_iconst C dX12_gain_18 (v := 2) (by decide) ?_
  refine wG_iadd C dX12_gain_19 ?_
  refine wG_imul C dX12_gain_20 ?_
  refine wG_isub C dX12_gain_21 ?_
  exact wG_iret C dX12_gain_22 ⟨by decide, by decide⟩ (fun _ e => e)
theorem c_X12_gain (l : Launch) (E : wE) (N : Nat) (q : Qp) (hN : 137 ≤ N) (h : Hp) (x1 : Int32) : ∀ z, f_X12_gain h x1 = some z → CT l E yX12_gain cX12_gain 2 (some .int) rm_X12_gain [.ref (eB E + 111), .int x1] N h (rq q) ((fun u => (some (.int u), N, h, (rq q))) z) := CT.of (by decide +kernel) (Nat.le_of_ble_eq_true rfl) (fun X _ e C => by subst e; exact w_X12_gain C hN h x1)
def rm_X12_brings : Room := { frames := 1, cells := 0, slots := 0, locals := 29 }
def f_X12_brings (h : Hp) (x1 : Int32) (x2 : Int32) : Option (Int64 × Hp) :=
  vB (u2 h 111 0 0) fun h_1 =>
  (f_X12_in x1.toInt64 0 9).bind fun u_2 =>
  (if u_2 = 0 then
  some ((-2), h_1)
  else
  (f_X12_gain h_1 x1).bind fun u_3 =>
  if inB x1 10 then
  (f_X12_common u_3.toInt64 (((h_1 135 (ix x1)) + 2).toInt64)).bind fun u_4 =>
  vB u_4 fun (x3_5 : Int64) =>
  (if x2 = 0 then
  if inB x1 10 then
  if x3_5 = 0 then none else
  some ((((h_1 135 (ix x1)) + 2).toInt64 / x3_5), h_1) else none
  else
  (f_X12_gain h_1 x1).bind fun u_6 =>
  if x3_5 = 0 then none else
  some ((1000000 + (u_6.toInt64 / x3_5)), h_1)) else none)
set_option maxRecDepth 4000 in
theorem w_X12_brings {X : wX} (C : Cx X yX12_brings cX12_brings 5 (some .long) rm_X12_brings) {N : Nat} {q : Qp} (hN : 137 ≤ N) (h : Hp) (x1 : Int32) (x2 : Int32) : wG X 5 (eM X (fun u => (some (.long u.1), N, u.2, (rq q)))) (f_X12_brings h x1 x2) N h (rq q) 0 0 0 [(0, .ref (xB X + 111)), (1, .int x1), (2, .int x2)] [] := by
  refine wG_of (f_X12_brings.eq_1 ..) ?_
  refine wG_aload_n C dX12_brings_0 0 rfl ?_
  refine wG_iconst C dX12_brings_1 (v := 0) (by decide) ?_
  refine wG_putI C fl_X12_1_8 (fp_8_0 _) (fun e => Bool.noConfusion e) rfl kd_111 (wll hN (by decide)) dX12_brings_2 (fun h_1 => ?_)
  refine wG_iload_n C dX12_brings_5 1 rfl ?_
  refine wG_i2l C dX12_brings_6 ?_
  refine wG_lconst C dX12_brings_7 (v := 0) (by decide) ?_
  refine wG_ldc2 C dX12_brings_8 m_1461 ?_
  refine wG_cS_ri [.long x1.toInt64, .long 0, .long 9] [] C sw_X12_113 (c_X12_in (xl X) (xE X) N q hN h_1 x1.toInt64 0 9) (by decide) rfl rfl (Nat.le_of_ble_eq_true rfl) dX12_brings_11 (cl' := 0) (sl' := 0) rfl rfl (fun u_2 => ?_)
  refine wG_if_ne C dX12_brings_14 ?_ ?_
  · refine wG_ldc2 C dX12_brings_17 m_1418 ?_
    exact wG_lret C dX12_brings_20 ⟨by decide, by decide⟩ (fun _ e => e)
  · refine wG_aload_n C dX12_brings_21 0 rfl ?_
    refine wG_iload_n C dX12_brings_22 1 rfl ?_
    refine wG_cV_ri [.int x1] [] C vw_X12_331 (c_X12_gain (xl X) (xE X) N q hN h_1 x1) kd_111 (wll hN (by decide)) (by decide) rfl rfl (Nat.le_of_ble_eq_true rfl) dX12_brings_23 (cl' := 0) (sl' := 0) rfl rfl (fun u_3 => ?_)
    refine wG_i2l C dX12_brings_26 ?_
    refine wG_aload_n C dX12_brings_27 0 rfl ?_
    refine wG_getR C fl_X12_99_8 rfl kd_111 (wll hN (by decide)) (rf_111_41 q) dX12_brings_28 ?_
    refine wG_iload_n C dX12_brings_31 1 rfl ?_
    refine wG_iald C kd_135 (wll hN (by decide)) ln_135 dX12_brings_32 ?_
    refine wG_iconst C dX12_brings_33 (v := 2) (by decide) ?_
    refine wG_iadd C dX12_brings_34 ?_
    refine wG_i2l C dX12_brings_35 ?_
    refine wG_cS_rl [.long u_3.toInt64, .long (((h_1 135 (ix x1)) + 2).toInt64)] [] C sw_X12_319 (c_X12_common (xl X) (xE X) N q hN h_1 u_3.toInt64 (((h_1 135 (ix x1)) + 2).toInt64)) (by decide) rfl rfl (Nat.le_of_ble_eq_true rfl) dX12_brings_36 (cl' := 0) (sl' := 0) rfl rfl (fun u_4 => ?_)
    refine wG_nmL (fun x3_5 => ?_)
    refine wG_lstore_n C (L' := [(0, .ref (xB X + 111)), (1, .int x1), (2, .int x2), (3, .long x3_5)]) dX12_brings_39 (by decide) [1, 2, 3, 0] rfl ?_
    refine wG_iload_n C dX12_brings_40 2 rfl ?_
    refine wG_if_eq C dX12_brings_41 ?_ ?_
    · refine wG_aload_n C dX12_brings_59 0 rfl ?_
      refine wG_getR C fl_X12_99_8 rfl kd_111 (wll hN (by decide)) (rf_111_41 q) dX12_brings_60 ?_
      refine wG_iload_n C dX12_brings_63 1 rfl ?_
      refine wG_iald C kd_135 (wll hN (by decide)) ln_135 dX12_brings_64 ?_
      refine wG_iconst C dX12_brings_65 (v := 2) (by decide) ?_
      refine wG_iadd C dX12_brings_66 ?_
      refine wG_i2l C dX12_brings_67 ?_
      refine wG_lload_n C dX12_brings_68 3 rfl ?_
      refine wG_ldiv C dX12_brings_69 ?_
      exact wG_lret C dX12_brings_70 ⟨by decide, by decide⟩ (fun _ e => e)
    · refine wG_ldc2 C dX12_brings_44 m_1470 ?_
      refine wG_aload_n C dX12_brings_47 0 rfl ?_
      refine wG_iload_n C dX12_brings_48 1 rfl ?_
      refine wG_cV_ri [.int x1] [.long 1000000] C vw_X12_331 (c_X12_gain (xl X) (xE X) N q hN h_1 x1) kd_111 (wll hN (by decide)) (by decide) rfl rfl (Nat.le_of_ble_eq_true rfl) dX12_brings_49 (cl' := 0) (sl' := 0) rfl rfl (fun u_6 => ?_)
      refine wG_i2l C dX12_brings_52 ?_
      refine wG_lload_n C dX12_brings_53 3 rfl ?_
      refine wG_ldiv C dX12_brings_54 ?_
      refine wG_ladd C dX12_brings_55 ?_
      refine wG_goto C dX12_brings_56 ?_
      exact wG_lret C dX12_brings_70 ⟨by decide, by decide⟩ (fun _ e => e)
theorem c_X12_brings (l : Launch) (E : wE) (N : Nat) (q : Qp) (hN : 137 ≤ N) (h : Hp) (x1 : Int32) (x2 : Int32) : ∀ z, f_X12_brings h x1 x2 = some z → CT l E yX12_brings cX12_brings 5 (some .long) rm_X12_brings [.ref (eB E + 111), .int x1, .int x2] N h (rq q) ((fun u => (some (.long u.1), N, u.2, (rq q))) z) := CT.of (by decide +kernel) (Nat.le_of_ble_eq_true rfl) (fun X _ e C => by subst e; exact w_X12_brings C hN h x1 x2)
def rm_X12_bestTaste : Room := { frames := 1, cells := 0, slots := 0, locals := 21 }
def L_X12_bestTaste_9 (h_1 : Hp) : Nat → Int32 → Int32 → Option Int32
  | 0, _, _ => none
  | n + 1, x1_4, x2_5 =>
    (if (10 : Int32) ≤ x2_5 then
    some x1_4
    else
    (f_X12_gain h_1 x2_5).bind fun u_7 =>
    if inB x1_4 10 then
    vB (u_7.toInt64 * ((h_1 135 (ix x1_4)) + 2).toInt64) fun (x3_8 : Int64) =>
    (f_X12_gain h_1 x1_4).bind fun u_9 =>
    if inB x2_5 10 then
    ((if (lg_cmp x3_8 (u_9.toInt64 * ((h_1 135 (ix x2_5)) + 2).toInt64)) ≤ 0 then
    some x1_4
    else
    some x2_5)).bind fun t_10 =>
    vB t_10 fun (x1_11 : Int32) =>
    vB (x2_5 + 1) fun (x2_12 : Int32) =>
    L_X12_bestTaste_9 h_1 n x1_11 x2_12 else none else none)
def f_X12_bestTaste (h : Hp) : Option (Int32 × Hp) :=
  vB (u2 h 111 0 0) fun h_1 =>
  vB 0 fun (x1_2 : Int32) =>
  vB 1 fun (x2_3 : Int32) =>
  (L_X12_bestTaste_9 h_1 FU x1_2 x2_3).bind fun t_6 =>
  some (t_6, h_1)
set_option maxRecDepth 4000 in
theorem wL_X12_bestTaste_9 {X : wX} (C : Cx X yX12_bestTaste cX12_bestTaste 5 (some .int) rm_X12_bestTaste) {N : Nat} {q : Qp} (hN : 137 ≤ N) (h : Hp) (h_1 : Hp) (x1_2 : Int32) (x2_3 : Int32) : ∀ n x1_4 x2_5, wG X 5 (fun (t_6 : Int32) Q => gQ X 5 Q N h_1 (rq q) 0 0 65 [(1, .int t_6)] []) (L_X12_bestTaste_9 h_1 n x1_4 x2_5) N h_1 (rq q) 0 0 9 [(0, .ref (xB X + 111)), (1, .int x1_4), (2, .int x2_5)] [] := by
  intro n
  induction n with
  | zero => intro _ _; exact wG_none
  | succ n ih =>
    intro x1_4 x2_5
    refine wG_of (L_X12_bestTaste_9.eq_2 ..) ?_
    refine wG_iload_n C dX12_bestTaste_9 2 rfl ?_
    refine wG_bipush C dX12_bestTaste_10 (v := 10) (by decide) ?_
    refine wG_icmp_ge C dX12_bestTaste_12 ?_ ?_
    · exact wG_exit (fun Q e => gQ_lv [1] rfl e)
    · refine wG_aload_n C dX12_bestTaste_15 0 rfl ?_
      refine wG_iload_n C dX12_bestTaste_16 2 rfl ?_
      refine wG_cV_ri [.int x2_5] [] C vw_X12_331 (c_X12_gain (xl X) (xE X) N q hN h_1 x2_5) kd_111 (wll hN (by decide)) (by decide) rfl rfl (Nat.le_of_ble_eq_true rfl) dX12_bestTaste_17 (cl' := 0) (sl' := 0) rfl rfl (fun u_7 => ?_)
      refine wG_i2l C dX12_bestTaste_20 ?_
      refine wG_aload_n C dX12_bestTaste_21 0 rfl ?_
      refine wG_getR C fl_X12_99_8 rfl kd_111 (wll hN (by decide)) (rf_111_41 q) dX12_bestTaste_22 ?_
      refine wG_iload_n C dX12_bestTaste_25 1 rfl ?_
      refine wG_iald C kd_135 (wll hN (by decide)) ln_135 dX12_bestTaste_26 ?_
      refine wG_iconst C dX12_bestTaste_27 (v := 2) (by decide) ?_
      refine wG_iadd C dX12_bestTaste_28 ?_
      refine wG_i2l C dX12_bestTaste_29 ?_
      refine wG_lmul C dX12_bestTaste_30 ?_
      refine wG_nmL (fun x3_8 => ?_)
      refine wG_lstore_n C (L' := [(0, .ref (xB X + 111)), (1, .int x1_4), (2, .int x2_5), (3, .long x3_8)]) dX12_bestTaste_31 (by decide) [1, 2, 3, 0] rfl ?_
      refine wG_lload_n C dX12_bestTaste_32 3 rfl ?_
      refine wG_aload_n C dX12_bestTaste_33 0 rfl ?_
      refine wG_iload_n C dX12_bestTaste_34 1 rfl ?_
      refine wG_cV_ri [.int x1_4] [.long x3_8] C vw_X12_331 (c_X12_gain (xl X) (xE X) N q hN h_1 x1_4) kd_111 (wll hN (by decide)) (by decide) rfl rfl (Nat.le_of_ble_eq_true rfl) dX12_bestTaste_35 (cl' := 0) (sl' := 0) rfl rfl (fun u_9 => ?_)
      refine wG_i2l C dX12_bestTaste_38 ?_
      refine wG_aload_n C dX12_bestTaste_39 0 rfl ?_
      refine wG_getR C fl_X12_99_8 rfl kd_111 (wll hN (by decide)) (rf_111_41 q) dX12_bestTaste_40 ?_
      refine wG_iload_n C dX12_bestTaste_43 2 rfl ?_
      refine wG_iald C kd_135 (wll hN (by decide)) ln_135 dX12_bestTaste_44 ?_
      refine wG_iconst C dX12_bestTaste_45 (v := 2) (by decide) ?_
      refine wG_iadd C dX12_bestTaste_46 ?_
      refine wG_i2l C dX12_bestTaste_47 ?_
      refine wG_lmul C dX12_bestTaste_48 ?_
      refine wG_lcmp C dX12_bestTaste_49 ?_
      refine wG_bind (J := (fun (t_10 : Int32) Q => gQ X 5 Q N h_1 (rq q) 0 0 58 [(0, .ref (xB X + 111)), (2, .int x2_5)] [.int t_10])) ?_ (fun t_10 => (?_ : wG X 5 _ _ N h_1 (rq q) 0 0 58 [(0, .ref (xB X + 111)), (2, .int x2_5)] [.int t_10]))
      · refine wG_if_le C dX12_bestTaste_50 ?_ ?_
        · refine wG_iload_n C dX12_bestTaste_57 1 rfl ?_
          exact wG_exit (fun Q e => gQ_lv [0, 2] rfl e)
        · refine wG_iload_n C dX12_bestTaste_53 2 rfl ?_
          refine wG_goto C dX12_bestTaste_54 ?_
          exact wG_exit (fun Q e => gQ_lv [0, 2] rfl e)
      · refine wG_nmI (fun x1_11 => ?_)
        refine wG_istore_n C (L' := [(0, .ref (xB X + 111)), (1, .int x1_11), (2, .int x2_5)]) dX12_bestTaste_58 (by decide) [1, 0, 2] rfl ?_
        refine wG_iinc C (v := 1) (LL := fun x2_12 => [(0, .ref (xB X + 111)), (1, .int x1_11), (2, .int x2_12)]) dX12_bestTaste_59 2 rfl (by decide) (by decide) [1, 2, 0] (fun _ => rfl) (fun x2_12 => ?_)
        refine wG_goto C dX12_bestTaste_62 ?_
        exact wG_lv [0, 1, 2] rfl (ih x1_11 x2_12)
set_option maxRecDepth 4000 in
theorem w_X12_bestTaste {X : wX} (C : Cx X yX12_bestTaste cX12_bestTaste 5 (some .int) rm_X12_bestTaste) {N : Nat} {q : Qp} (hN : 137 ≤ N) (h : Hp) : wG X 5 (eM X (fun u => (some (.int u.1), N, u.2, (rq q)))) (f_X12_bestTaste h) N h (rq q) 0 0 0 [(0, .ref (xB X + 111))] [] := by
  refine wG_of (f_X12_bestTaste.eq_1 ..) ?_
  refine wG_aload_n C dX12_bestTaste_0 0 rfl ?_
  refine wG_iconst C dX12_bestTaste_1 (v := 0) (by decide) ?_
  refine wG_putI C fl_X12_1_8 (fp_8_0 _) (fun e => Bool.noConfusion e) rfl kd_111 (wll hN (by decide)) dX12_bestTaste_2 (fun h_1 => ?_)
  refine wG_iconst C dX12_bestTaste_5 (v := 0) (by decide) ?_
  refine wG_nmI (fun x1_2 => ?_)
  refine wG_istore_n C (L' := [(0, .ref (xB X + 111)), (1, .int x1_2)]) dX12_bestTaste_6 (by decide) [1, 0] rfl ?_
  refine wG_iconst C dX12_bestTaste_7 (v := 1) (by decide) ?_
  refine wG_nmI (fun x2_3 => ?_)
  refine wG_istore_n C (L' := [(0, .ref (xB X + 111)), (1, .int x1_2), (2, .int x2_3)]) dX12_bestTaste_8 (by decide) [1, 2, 0] rfl ?_
  refine wG_lv (L' := [(0, .ref (xB X + 111)), (1, .int x1_2), (2, .int x2_3)]) [0, 1, 2] rfl ?_
  refine wG_bind (wL_X12_bestTaste_9 C hN h h_1 x1_2 x2_3 FU x1_2 x2_3) (fun t_6 => (?_ : wG X 5 _ _ N h_1 (rq q) 0 0 65 [(1, .int t_6)] []))
  refine wG_iload_n C dX12_bestTaste_65 0 rfl ?_
  exact wG_iret C dX12_bestTaste_66 ⟨by decide, by decide⟩ (fun _ e => e)
theorem c_X12_bestTaste (l : Launch) (E : wE) (N : Nat) (q : Qp) (hN : 137 ≤ N) (h : Hp) : ∀ z, f_X12_bestTaste h = some z → CT l E yX12_bestTaste cX12_bestTaste 5 (some .int) rm_X12_bestTaste [.ref (eB E + 111)] N h (rq q) ((fun u => (some (.int u.1), N, u.2, (rq q))) z) := CT.of (by decide +kernel) (Nat.le_of_ble_eq_true rfl) (fun X _ e C => by subst e; exact w_X12_bestTaste C hN h)
def rm_X12_prices : Room := { frames := 1, cells := 0, slots := 0, locals := 25 }
def f_X12_prices (h : Hp) (x1 : Int32) (x2 : Int32) : Option (Int32 × Hp) :=
  vB (u2 h 111 0 0) fun h_1 =>
  (f_X12_in x1.toInt64 1 9).bind fun u_2 =>
  (if u_2 = 0 then
  some ((-2), h_1)
  else
  (f_X12_in x2.toInt64 0 9).bind fun u_3 =>
  (if u_3 = 0 then
  some ((-2), h_1)
  else
  vB ((10 * (h_1 111 43)) + (h_1 111 44)) fun (x3_4 : Int32) =>
  vB (u2 h_1 111 43 x1) fun h_5 =>
  vB (u2 h_5 111 44 x2) fun h_6 =>
  some (x3_4, h_6)))
set_option maxRecDepth 4000 in
theorem w_X12_prices {X : wX} (C : Cx X yX12_prices cX12_prices 4 (some .int) rm_X12_prices) {N : Nat} {q : Qp} (hN : 137 ≤ N) (h : Hp) (x1 : Int32) (x2 : Int32) : wG X 4 (eM X (fun u => (some (.int u.1), N, u.2, (rq q)))) (f_X12_prices h x1 x2) N h (rq q) 0 0 0 [(0, .ref (xB X + 111)), (1, .int x1), (2, .int x2)] [] := by
  refine wG_of (f_X12_prices.eq_1 ..) ?_
  refine wG_aload_n C dX12_prices_0 0 rfl ?_
  refine wG_iconst C dX12_prices_1 (v := 0) (by decide) ?_
  refine wG_putI C fl_X12_1_8 (fp_8_0 _) (fun e => Bool.noConfusion e) rfl kd_111 (wll hN (by decide)) dX12_prices_2 (fun h_1 => ?_)
  refine wG_iload_n C dX12_prices_5 1 rfl ?_
  refine wG_i2l C dX12_prices_6 ?_
  refine wG_lconst C dX12_prices_7 (v := 1) (by decide) ?_
  refine wG_ldc2 C dX12_prices_8 m_1461 ?_
  refine wG_cS_ri [.long x1.toInt64, .long 1, .long 9] [] C sw_X12_113 (c_X12_in (xl X) (xE X) N q hN h_1 x1.toInt64 1 9) (by decide) rfl rfl (Nat.le_of_ble_eq_true rfl) dX12_prices_11 (cl' := 0) (sl' := 0) rfl rfl (fun u_2 => ?_)
  refine wG_if_eq C dX12_prices_14 ?_ ?_
  · refine wG_bipush C dX12_prices_29 (v := (-2)) (by decide) ?_
    exact wG_iret C dX12_prices_31 ⟨by decide, by decide⟩ (fun _ e => e)
  · refine wG_iload_n C dX12_prices_17 2 rfl ?_
    refine wG_i2l C dX12_prices_18 ?_
    refine wG_lconst C dX12_prices_19 (v := 0) (by decide) ?_
    refine wG_ldc2 C dX12_prices_20 m_1461 ?_
    refine wG_cS_ri [.long x2.toInt64, .long 0, .long 9] [] C sw_X12_113 (c_X12_in (xl X) (xE X) N q hN h_1 x2.toInt64 0 9) (by decide) rfl rfl (Nat.le_of_ble_eq_true rfl) dX12_prices_23 (cl' := 0) (sl' := 0) rfl rfl (fun u_3 => ?_)
    refine wG_if_ne C dX12_prices_26 ?_ ?_
    · refine wG_bipush C dX12_prices_29 (v := (-2)) (by decide) ?_
      exact wG_iret C dX12_prices_31 ⟨by decide, by decide⟩ (fun _ e => e)
    · refine wG_bipush C dX12_prices_32 (v := 10) (by decide) ?_
      refine wG_aload_n C dX12_prices_34 0 rfl ?_
      refine wG_getI C fl_X12_105_8 rfl kd_111 (wll hN (by decide)) dX12_prices_35 ?_
      refine wG_imul C dX12_prices_38 ?_
      refine wG_aload_n C dX12_prices_39 0 rfl ?_
      refine wG_getI C fl_X12_108_8 rfl kd_111 (wll hN (by decide)) dX12_prices_40 ?_
      refine wG_iadd C dX12_prices_43 ?_
      refine wG_nmI (fun x3_4 => ?_)
      refine wG_istore_n C (L' := [(0, .ref (xB X + 111)), (1, .int x1), (2, .int x2), (3, .int x3_4)]) dX12_prices_44 (by decide) [1, 2, 3, 0] rfl ?_
      refine wG_aload_n C dX12_prices_45 0 rfl ?_
      refine wG_iload_n C dX12_prices_46 1 rfl ?_
      refine wG_putI C fl_X12_105_8 (fp_8_43 _) (fun e => Bool.noConfusion e) rfl kd_111 (wll hN (by decide)) dX12_prices_47 (fun h_5 => ?_)
      refine wG_aload_n C dX12_prices_50 0 rfl ?_
      refine wG_iload_n C dX12_prices_51 2 rfl ?_
      refine wG_putI C fl_X12_108_8 (fp_8_44 _) (fun e => Bool.noConfusion e) rfl kd_111 (wll hN (by decide)) dX12_prices_52 (fun h_6 => ?_)
      refine wG_iload_n C dX12_prices_55 3 rfl ?_
      exact wG_iret C dX12_prices_56 ⟨by decide, by decide⟩ (fun _ e => e)
theorem c_X12_prices (l : Launch) (E : wE) (N : Nat) (q : Qp) (hN : 137 ≤ N) (h : Hp) (x1 : Int32) (x2 : Int32) : ∀ z, f_X12_prices h x1 x2 = some z → CT l E yX12_prices cX12_prices 4 (some .int) rm_X12_prices [.ref (eB E + 111), .int x1, .int x2] N h (rq q) ((fun u => (some (.int u.1), N, u.2, (rq q))) z) := CT.of (by decide +kernel) (Nat.le_of_ble_eq_true rfl) (fun X _ e C => by subst e; exact w_X12_prices C hN h x1 x2)
def rm_X12_worth : Room := { frames := 2, cells := 0, slots := 0, locals := 49 }
def L_X12_worth_9 (h_1 : Hp) : Nat → Int32 → Int32 → Option Int32
  | 0, _, _ => none
  | n + 1, x1_4, x2_5 =>
    (if (h_1 111 9) ≤ x2_5 then
    some x1_4
    else
    if inB x2_5 24 then
    ((if (h_1 119 (ix x2_5)) = 0 then
    (f_X12_weighsOf h_1 x2_5).bind fun u_8 =>
    (f_X12_isEnd h_1 x2_5).bind fun u_9 =>
    ((if u_9 = 0 then
    some (h_1 111 43)
    else
    some (h_1 111 44))).bind fun t_10 =>
    some (u_8 * t_10)
    else
    some 0)).bind fun t_7 =>
    vB (x1_4 + t_7) fun (x1_11 : Int32) =>
    vB (x2_5 + 1) fun (x2_12 : Int32) =>
    L_X12_worth_9 h_1 n x1_11 x2_12 else none)
def f_X12_worth (h : Hp) : Option (Int32 × Hp) :=
  vB (u2 h 111 0 0) fun h_1 =>
  vB 0 fun (x1_2 : Int32) =>
  vB 0 fun (x2_3 : Int32) =>
  (L_X12_worth_9 h_1 FU x1_2 x2_3).bind fun t_6 =>
  some (t_6, h_1)
set_option maxRecDepth 4000 in
theorem wL_X12_worth_9 {X : wX} (C : Cx X yX12_worth cX12_worth 3 (some .int) rm_X12_worth) {N : Nat} {q : Qp} (hN : 137 ≤ N) (h : Hp) (h_1 : Hp) (x1_2 : Int32) (x2_3 : Int32) : ∀ n x1_4 x2_5, wG X 3 (fun (t_6 : Int32) Q => gQ X 3 Q N h_1 (rq q) 0 0 64 [(1, .int t_6)] []) (L_X12_worth_9 h_1 n x1_4 x2_5) N h_1 (rq q) 0 0 9 [(0, .ref (xB X + 111)), (1, .int x1_4), (2, .int x2_5)] [] := by
  intro n
  induction n with
  | zero => intro _ _; exact wG_none
  | succ n ih =>
    intro x1_4 x2_5
    refine wG_of (L_X12_worth_9.eq_2 ..) ?_
    refine wG_iload_n C dX12_worth_9 2 rfl ?_
    refine wG_aload_n C dX12_worth_10 0 rfl ?_
    refine wG_getI C fl_X12_29_8 rfl kd_111 (wll hN (by decide)) dX12_worth_11 ?_
    refine wG_icmp_ge C dX12_worth_14 ?_ ?_
    · exact wG_exit (fun Q e => gQ_lv [1] rfl e)
    · refine wG_iload_n C dX12_worth_17 1 rfl ?_
      refine wG_aload_n C dX12_worth_18 0 rfl ?_
      refine wG_getR C fl_X12_44_8 rfl kd_111 (wll hN (by decide)) (rf_111_14 q) dX12_worth_19 ?_
      refine wG_iload_n C dX12_worth_22 2 rfl ?_
      refine wG_iald C kd_119 (wll hN (by decide)) ln_119 dX12_worth_23 ?_
      refine wG_bind (J := (fun (t_7 : Int32) Q => gQ X 3 Q N h_1 (rq q) 0 0 56 [(0, .ref (xB X + 111)), (2, .int x2_5)] [.int t_7, .int x1_4])) ?_ (fun t_7 => (?_ : wG X 3 _ _ N h_1 (rq q) 0 0 56 [(0, .ref (xB X + 111)), (2, .int x2_5)] [.int t_7, .int x1_4]))
      · refine wG_if_eq C dX12_worth_24 ?_ ?_
        · refine wG_aload_n C dX12_worth_31 0 rfl ?_
          refine wG_iload_n C dX12_worth_32 2 rfl ?_
          refine wG_cV_ri [.int x2_5] [.int x1_4] C vw_X12_191 (c_X12_weighsOf (xl X) (xE X) N q hN h_1 x2_5) kd_111 (wll hN (by decide)) (by decide) rfl rfl (Nat.le_of_ble_eq_true rfl) dX12_worth_33 (cl' := 0) (sl' := 0) rfl rfl (fun u_8 => ?_)
          refine wG_aload_n C dX12_worth_36 0 rfl ?_
          refine wG_iload_n C dX12_worth_37 2 rfl ?_
          refine wG_cV_ri [.int x2_5] [.int u_8, .int x1_4] C vw_X12_188 (c_X12_isEnd (xl X) (xE X) N q hN h_1 x2_5) kd_111 (wll hN (by decide)) (by decide) rfl rfl (Nat.le_of_ble_eq_true rfl) dX12_worth_38 (cl' := 0) (sl' := 0) rfl rfl (fun u_9 => ?_)
          refine wG_bind (J := (fun (t_10 : Int32) Q => gQ X 3 Q N h_1 (rq q) 0 0 55 [(0, .ref (xB X + 111)), (2, .int x2_5)] [.int t_10, .int u_8, .int x1_4])) ?_ (fun t_10 => (?_ : wG X 3 _ _ N h_1 (rq q) 0 0 55 [(0, .ref (xB X + 111)), (2, .int x2_5)] [.int t_10, .int u_8, .int x1_4]))
          · refine wG_if_eq C dX12_worth_41 ?_ ?_
            · refine wG_aload_n C dX12_worth_51 0 rfl ?_
              refine wG_getI C fl_X12_105_8 rfl kd_111 (wll hN (by decide)) dX12_worth_52 ?_
              exact wG_exit (fun Q e => gQ_lv [0, 2] rfl e)
            · refine wG_aload_n C dX12_worth_44 0 rfl ?_
              refine wG_getI C fl_X12_108_8 rfl kd_111 (wll hN (by decide)) dX12_worth_45 ?_
              refine wG_goto C dX12_worth_48 ?_
              exact wG_exit (fun Q e => gQ_lv [0, 2] rfl e)
          · refine wG_imul C dX12_worth_55 ?_
            exact wG_exit (fun Q e => gQ_lv [0, 1] rfl e)
        · refine wG_iconst C dX12_worth_27 (v := 0) (by decide) ?_
          refine wG_goto C dX12_worth_28 ?_
          exact wG_exit (fun Q e => gQ_lv [0, 2] rfl e)
      · refine wG_iadd C dX12_worth_56 ?_
        refine wG_nmI (fun x1_11 => ?_)
        refine wG_istore_n C (L' := [(0, .ref (xB X + 111)), (1, .int x1_11), (2, .int x2_5)]) dX12_worth_57 (by decide) [1, 0, 2] rfl ?_
        refine wG_iinc C (v := 1) (LL := fun x2_12 => [(0, .ref (xB X + 111)), (1, .int x1_11), (2, .int x2_12)]) dX12_worth_58 2 rfl (by decide) (by decide) [1, 2, 0] (fun _ => rfl) (fun x2_12 => ?_)
        refine wG_goto C dX12_worth_61 ?_
        exact wG_lv [0, 1, 2] rfl (ih x1_11 x2_12)
set_option maxRecDepth 4000 in
theorem w_X12_worth {X : wX} (C : Cx X yX12_worth cX12_worth 3 (some .int) rm_X12_worth) {N : Nat} {q : Qp} (hN : 137 ≤ N) (h : Hp) : wG X 3 (eM X (fun u => (some (.int u.1), N, u.2, (rq q)))) (f_X12_worth h) N h (rq q) 0 0 0 [(0, .ref (xB X + 111))] [] := by
  refine wG_of (f_X12_worth.eq_1 ..) ?_
  refine wG_aload_n C dX12_worth_0 0 rfl ?_
  refine wG_iconst C dX12_worth_1 (v := 0) (by decide) ?_
  refine wG_putI C fl_X12_1_8 (fp_8_0 _) (fun e => Bool.noConfusion e) rfl kd_111 (wll hN (by decide)) dX12_worth_2 (fun h_1 => ?_)
  refine wG_iconst C dX12_worth_5 (v := 0) (by decide) ?_
  refine wG_nmI (fun x1_2 => ?_)
  refine wG_istore_n C (L' := [(0, .ref (xB X + 111)), (1, .int x1_2)]) dX12_worth_6 (by decide) [1, 0] rfl ?_
  refine wG_iconst C dX12_worth_7 (v := 0) (by decide) ?_
  refine wG_nmI (fun x2_3 => ?_)
  refine wG_istore_n C (L' := [(0, .ref (xB X + 111)), (1, .int x1_2), (2, .int x2_3)]) dX12_worth_8 (by decide) [1, 2, 0] rfl ?_
  refine wG_lv (L' := [(0, .ref (xB X + 111)), (1, .int x1_2), (2, .int x2_3)]) [0, 1, 2] rfl ?_
  refine wG_bind (wL_X12_worth_9 C hN h h_1 x1_2 x2_3 FU x1_2 x2_3) (fun t_6 => (?_ : wG X 3 _ _ N h_1 (rq q) 0 0 64 [(1, .int t_6)] []))
  refine wG_iload_n C dX12_worth_64 0 rfl ?_
  exact wG_iret C dX12_worth_65 ⟨by decide, by decide⟩ (fun _ e => e)
theorem c_X12_worth (l : Launch) (E : wE) (N : Nat) (q : Qp) (hN : 137 ≤ N) (h : Hp) : ∀ z, f_X12_worth h = some z → CT l E yX12_worth cX12_worth 3 (some .int) rm_X12_worth [.ref (eB E + 111)] N h (rq q) ((fun u => (some (.int u.1), N, u.2, (rq q))) z) := CT.of (by decide +kernel) (Nat.le_of_ble_eq_true rfl) (fun X _ e C => by subst e; exact w_X12_worth C hN h)
def rm_X12_standing : Room := { frames := 0, cells := 0, slots := 0, locals := 0 }
def L_X12_standing_4 (h : Hp) : Nat → Int32 → Int32 → Option Int32
  | 0, _, _ => none
  | n + 1, x1_3, x2_4 =>
    (if (h 111 9) ≤ x2_4 then
    some x1_3
    else
    if inB x2_4 24 then
    ((if (h 119 (ix x2_4)) = 0 then
    some 1
    else
    some 0)).bind fun t_6 =>
    vB (x1_3 + t_6) fun (x1_7 : Int32) =>
    vB (x2_4 + 1) fun (x2_8 : Int32) =>
    L_X12_standing_4 h n x1_7 x2_8 else none)
def f_X12_standing (h : Hp) : Option Int32 :=
  vB 0 fun (x1_1 : Int32) =>
  vB 0 fun (x2_2 : Int32) =>
  (L_X12_standing_4 h FU x1_1 x2_2).bind fun t_5 =>
  some t_5
set_option maxRecDepth 4000 in
theorem wL_X12_standing_4 {X : wX} (C : Cx X yX12_standing cX12_standing 3 (some .int) rm_X12_standing) {N : Nat} {q : Qp} (hN : 137 ≤ N) (h : Hp) (x1_1 : Int32) (x2_2 : Int32) : ∀ n x1_3 x2_4, wG X 3 (fun (t_5 : Int32) Q => gQ X 3 Q N h (rq q) 0 0 35 [(1, .int t_5)] []) (L_X12_standing_4 h n x1_3 x2_4) N h (rq q) 0 0 4 [(0, .ref (xB X + 111)), (1, .int x1_3), (2, .int x2_4)] [] := by
  intro n
  induction n with
  | zero => intro _ _; exact wG_none
  | succ n ih =>
    intro x1_3 x2_4
    refine wG_of (L_X12_standing_4.eq_2 ..) ?_
    refine wG_iload_n C dX12_standing_4 2 rfl ?_
    refine wG_aload_n C dX12_standing_5 0 rfl ?_
    refine wG_getI C fl_X12_29_8 rfl kd_111 (wll hN (by decide)) dX12_standing_6 ?_
    refine wG_icmp_ge C dX12_standing_9 ?_ ?_
    · exact wG_exit (fun Q e => gQ_lv [1] rfl e)
    · refine wG_iload_n C dX12_standing_12 1 rfl ?_
      refine wG_aload_n C dX12_standing_13 0 rfl ?_
      refine wG_getR C fl_X12_44_8 rfl kd_111 (wll hN (by decide)) (rf_111_14 q) dX12_standing_14 ?_
      refine wG_iload_n C dX12_standing_17 2 rfl ?_
      refine wG_iald C kd_119 (wll hN (by decide)) ln_119 dX12_standing_18 ?_
      refine wG_bind (J := (fun (t_6 : Int32) Q => gQ X 3 Q N h (rq q) 0 0 27 [(0, .ref (xB X + 111)), (2, .int x2_4)] [.int t_6, .int x1_3])) ?_ (fun t_6 => (?_ : wG X 3 _ _ N h (rq q) 0 0 27 [(0, .ref (xB X + 111)), (2, .int x2_4)] [.int t_6, .int x1_3]))
      · refine wG_if_ne C dX12_standing_19 ?_ ?_
        · refine wG_iconst C dX12_standing_22 (v := 1) (by decide) ?_
          refine wG_goto C dX12_standing_23 ?_
          exact wG_exit (fun Q e => gQ_lv [0, 2] rfl e)
        · refine wG_iconst C dX12_standing_26 (v := 0) (by decide) ?_
          exact wG_exit (fun Q e => gQ_lv [0, 2] rfl e)
      · refine wG_iadd C dX12_standing_27 ?_
        refine wG_nmI (fun x1_7 => ?_)
        refine wG_istore_n C (L' := [(0, .ref (xB X + 111)), (1, .int x1_7), (2, .int x2_4)]) dX12_standing_28 (by decide) [1, 0, 2] rfl ?_
        refine wG_iinc C (v := 1) (LL := fun x2_8 => [(0, .ref (xB X + 111)), (1, .int x1_7), (2, .int x2_8)]) dX12_standing_29 2 rfl (by decide) (by decide) [1, 2, 0] (fun _ => rfl) (fun x2_8 => ?_)
        refine wG_goto C dX12_standing_32 ?_
        exact wG_lv [0, 1, 2] rfl (ih x1_7 x2_8)
set_option maxRecDepth 4000 in
theorem w_X12_standing {X : wX} (C : Cx X yX12_standing cX12_standing 3 (some .int) rm_X12_standing) {N : Nat} {q : Qp} (hN : 137 ≤ N) (h : Hp) : wG X 3 (eM X (fun u => (some (.int u), N, h, (rq q)))) (f_X12_standing h) N h (rq q) 0 0 0 [(0, .ref (xB X + 111))] [] := by
  refine wG_of (f_X12_standing.eq_1 ..) ?_
  refine wG_iconst C dX12_standing_0 (v := 0) (by decide) ?_
  refine wG_nmI (fun x1_1 => ?_)
  refine wG_istore_n C (L' := [(0, .ref (xB X + 111)), (1, .int x1_1)]) dX12_standing_1 (by decide) [1, 0] rfl ?_
  refine wG_iconst C dX12_standing_2 (v := 0) (by decide) ?_
  refine wG_nmI (fun x2_2 => ?_)
  refine wG_istore_n C (L' := [(0, .ref (xB X + 111)), (1, .int x1_1), (2, .int x2_2)]) dX12_standing_3 (by decide) [1, 2, 0] rfl ?_
  refine wG_lv (L' := [(0, .ref (xB X + 111)), (1, .int x1_1), (2, .int x2_2)]) [0, 1, 2] rfl ?_
  refine wG_bind (wL_X12_standing_4 C hN h x1_1 x2_2 FU x1_1 x2_2) (fun t_5 => (?_ : wG X 3 _ _ N h (rq q) 0 0 35 [(1, .int t_5)] []))
  refine wG_iload_n C dX12_standing_35 0 rfl ?_
  exact wG_iret C dX12_standing_36 ⟨by decide, by decide⟩ (fun _ e => e)
theorem c_X12_standing (l : Launch) (E : wE) (N : Nat) (q : Qp) (hN : 137 ≤ N) (h : Hp) : ∀ z, f_X12_standing h = some z → CT l E yX12_standing cX12_standing 3 (some .int) rm_X12_standing [.ref (eB E + 111)] N h (rq q) ((fun u => (some (.int u), N, h, (rq q))) z) := CT.of (by decide +kernel) (Nat.le_of_ble_eq_true rfl) (fun X _ e C => by subst e; exact w_X12_standing C hN h)
def rm_X12_keep : Room := { frames := 1, cells := 0, slots := 0, locals := 25 }
def L_X12_keep_30 (x1 : Int32) : Nat → Int32 → Hp → Option Hp
  | 0, _, _ => none
  | n + 1, x2_6, h_7 =>
    (if (266 : Int32) ≤ x2_6 then
    some h_7
    else
    if inB x2_6 266 then
    if inB ((266 * x1) + x2_6) 532 then vB (u2 h_7 124 (ix ((266 * x1) + x2_6)) (h_7 123 (ix x2_6))) fun h_9 =>
    vB (x2_6 + 1) fun (x2_10 : Int32) =>
    L_X12_keep_30 x1 n x2_10 h_9 else none else none)
def f_X12_keep (h : Hp) (x1 : Int32) : Option (Int32 × Hp) :=
  vB (u2 h 111 0 0) fun h_1 =>
  (f_X12_in x1.toInt64 0 1).bind fun u_2 =>
  (if u_2 = 0 then
  some ((-1), h_1)
  else
  if inB x1 2 then vB (u2 h_1 125 (ix x1) 1) fun h_3 =>
  (f_X12_putAside h_3).bind fun u_4 =>
  vB 0 fun (x2_5 : Int32) =>
  (L_X12_keep_30 x1 FU x2_5 u_4).bind fun t_8 =>
  (f_X12_standing t_8).bind fun u_11 =>
  some (u_11, t_8) else none)
set_option maxRecDepth 4000 in
theorem wL_X12_keep_30 {X : wX} (C : Cx X yX12_keep cX12_keep 3 (some .int) rm_X12_keep) {N : Nat} {q : Qp} (hN : 137 ≤ N) (h : Hp) (x1 : Int32) (h_1 : Hp) (u_2 : Int32) (h_3 : Hp) (u_4 : Hp) (x2_5 : Int32) : ∀ n x2_6 h_7, wG X 3 (fun (t_8 : Hp) Q => gQ X 3 Q N t_8 (rq q) 0 0 61 [(0, .ref (xB X + 111))] []) (L_X12_keep_30 x1 n x2_6 h_7) N h_7 (rq q) 0 0 30 [(0, .ref (xB X + 111)), (1, .int x1), (2, .int x2_6)] [] := by
  intro n
  induction n with
  | zero => intro _ _; exact wG_none
  | succ n ih =>
    intro x2_6 h_7
    refine wG_of (L_X12_keep_30.eq_2 ..) ?_
    refine wG_iload_n C dX12_keep_30 2 rfl ?_
    refine wG_sipush C dX12_keep_31 (v := 266) (by decide) ?_
    refine wG_icmp_ge C dX12_keep_34 ?_ ?_
    · exact wG_exit (fun Q e => gQ_lv [0] rfl e)
    · refine wG_aload_n C dX12_keep_37 0 rfl ?_
      refine wG_getR C fl_X12_59_8 rfl kd_111 (wll hN (by decide)) (rf_111_20 q) dX12_keep_38 ?_
      refine wG_sipush C dX12_keep_41 (v := 266) (by decide) ?_
      refine wG_iload_n C dX12_keep_44 1 rfl ?_
      refine wG_imul C dX12_keep_45 ?_
      refine wG_iload_n C dX12_keep_46 2 rfl ?_
      refine wG_iadd C dX12_keep_47 ?_
      refine wG_aload_n C dX12_keep_48 0 rfl ?_
      refine wG_getR C fl_X12_56_8 rfl kd_111 (wll hN (by decide)) (rf_111_19 q) dX12_keep_49 ?_
      refine wG_iload_n C dX12_keep_52 2 rfl ?_
      refine wG_iald C kd_123 (wll hN (by decide)) ln_123 dX12_keep_53 ?_
      refine wG_iast C kd_124 (wll hN (by decide)) ln_124 dX12_keep_54 (fun h_9 => ?_)
      refine wG_iinc C (v := 1) (LL := fun x2_10 => [(0, .ref (xB X + 111)), (1, .int x1), (2, .int x2_10)]) dX12_keep_55 2 rfl (by decide) (by decide) [1, 2, 0] (fun _ => rfl) (fun x2_10 => ?_)
      refine wG_goto C dX12_keep_58 ?_
      exact wG_lv [0, 1, 2] rfl (ih x2_10 h_9)
set_option maxRecDepth 4000 in
theorem w_X12_keep {X : wX} (C : Cx X yX12_keep cX12_keep 3 (some .int) rm_X12_keep) {N : Nat} {q : Qp} (hN : 137 ≤ N) (h : Hp) (x1 : Int32) : wG X 3 (eM X (fun u => (some (.int u.1), N, u.2, (rq q)))) (f_X12_keep h x1) N h (rq q) 0 0 0 [(0, .ref (xB X + 111)), (1, .int x1)] [] := by
  refine wG_of (f_X12_keep.eq_1 ..) ?_
  refine wG_aload_n C dX12_keep_0 0 rfl ?_
  refine wG_iconst C dX12_keep_1 (v := 0) (by decide) ?_
  refine wG_putI C fl_X12_1_8 (fp_8_0 _) (fun e => Bool.noConfusion e) rfl kd_111 (wll hN (by decide)) dX12_keep_2 (fun h_1 => ?_)
  refine wG_iload_n C dX12_keep_5 1 rfl ?_
  refine wG_i2l C dX12_keep_6 ?_
  refine wG_lconst C dX12_keep_7 (v := 0) (by decide) ?_
  refine wG_lconst C dX12_keep_8 (v := 1) (by decide) ?_
  refine wG_cS_ri [.long x1.toInt64, .long 0, .long 1] [] C sw_X12_113 (c_X12_in (xl X) (xE X) N q hN h_1 x1.toInt64 0 1) (by decide) rfl rfl (Nat.le_of_ble_eq_true rfl) dX12_keep_9 (cl' := 0) (sl' := 0) rfl rfl (fun u_2 => ?_)
  refine wG_if_ne C dX12_keep_12 ?_ ?_
  · refine wG_iconst C dX12_keep_15 (v := (-1)) (by decide) ?_
    exact wG_iret C dX12_keep_16 ⟨by decide, by decide⟩ (fun _ e => e)
  · refine wG_aload_n C dX12_keep_17 0 rfl ?_
    refine wG_getR C fl_X12_62_8 rfl kd_111 (wll hN (by decide)) (rf_111_21 q) dX12_keep_18 ?_
    refine wG_iload_n C dX12_keep_21 1 rfl ?_
    refine wG_iconst C dX12_keep_22 (v := 1) (by decide) ?_
    refine wG_zast C kd_125 (wll hN (by decide)) ln_125 rfl dX12_keep_23 (fun h_3 => ?_)
    refine wG_aload_n C dX12_keep_24 0 rfl ?_
    refine wG_cV_wv [] [] C vw_X12_244 (c_X12_putAside (xl X) (xE X) N q hN h_3) kd_111 (wll hN (by decide)) (by decide) rfl rfl (Nat.le_of_ble_eq_true rfl) dX12_keep_25 (cl' := 0) (sl' := 0) rfl rfl (fun u_4 => ?_)
    refine wG_iconst C dX12_keep_28 (v := 0) (by decide) ?_
    refine wG_nmI (fun x2_5 => ?_)
    refine wG_istore_n C (L' := [(0, .ref (xB X + 111)), (1, .int x1), (2, .int x2_5)]) dX12_keep_29 (by decide) [1, 2, 0] rfl ?_
    refine wG_lv (L' := [(0, .ref (xB X + 111)), (1, .int x1), (2, .int x2_5)]) [0, 1, 2] rfl ?_
    refine wG_bind (wL_X12_keep_30 C hN h x1 h_1 u_2 h_3 u_4 x2_5 FU x2_5 u_4) (fun t_8 => (?_ : wG X 3 _ _ N t_8 (rq q) 0 0 61 [(0, .ref (xB X + 111))] []))
    refine wG_aload_n C dX12_keep_61 0 rfl ?_
    refine wG_cV_ri [] [] C vw_X12_336 (c_X12_standing (xl X) (xE X) N q hN t_8) kd_111 (wll hN (by decide)) (by decide) rfl rfl (Nat.le_of_ble_eq_true rfl) dX12_keep_62 (cl' := 0) (sl' := 0) rfl rfl (fun u_11 => ?_)
    exact wG_iret C dX12_keep_65 ⟨by decide, by decide⟩ (fun _ e => e)
theorem c_X12_keep (l : Launch) (E : wE) (N : Nat) (q : Qp) (hN : 137 ≤ N) (h : Hp) (x1 : Int32) : ∀ z, f_X12_keep h x1 = some z → CT l E yX12_keep cX12_keep 3 (some .int) rm_X12_keep [.ref (eB E + 111), .int x1] N h (rq q) ((fun u => (some (.int u.1), N, u.2, (rq q))) z) := CT.of (by decide +kernel) (Nat.le_of_ble_eq_true rfl) (fun X _ e C => by subst e; exact w_X12_keep C hN h x1)
def rm_X12_again : Room := { frames := 1, cells := 0, slots := 0, locals := 25 }
def L_X12_again_31 (x1 : Int32) : Nat → Int32 → Hp → Option Hp
  | 0, _, _ => none
  | n + 1, x2_4, h_5 =>
    (if (266 : Int32) ≤ x2_4 then
    some h_5
    else
    if inB ((266 * x1) + x2_4) 532 then
    if inB x2_4 266 then vB (u2 h_5 123 (ix x2_4) (h_5 124 (ix ((266 * x1) + x2_4)))) fun h_7 =>
    vB (x2_4 + 1) fun (x2_8 : Int32) =>
    L_X12_again_31 x1 n x2_8 h_7 else none else none)
def f_X12_again (h : Hp) (x1 : Int32) : Option (Int32 × Hp) :=
  vB (u2 h 111 0 0) fun h_1 =>
  (f_X12_in x1.toInt64 0 1).bind fun u_2 =>
  (if u_2 = 0 then
  some ((-1), h_1)
  else
  if inB x1 2 then
  (if (h_1 125 (ix x1)) = 0 then
  some ((-3), h_1)
  else
  vB 0 fun (x2_3 : Int32) =>
  (L_X12_again_31 x1 FU x2_3 h_1).bind fun t_6 =>
  (f_X12_takeBack t_6).bind fun u_9 =>
  (f_X12_standing u_9).bind fun u_10 =>
  some (u_10, u_9)) else none)
set_option maxRecDepth 4000 in
theorem wL_X12_again_31 {X : wX} (C : Cx X yX12_again cX12_again 3 (some .int) rm_X12_again) {N : Nat} {q : Qp} (hN : 137 ≤ N) (h : Hp) (x1 : Int32) (h_1 : Hp) (u_2 : Int32) (x2_3 : Int32) : ∀ n x2_4 h_5, wG X 3 (fun (t_6 : Hp) Q => gQ X 3 Q N t_6 (rq q) 0 0 62 [(0, .ref (xB X + 111))] []) (L_X12_again_31 x1 n x2_4 h_5) N h_5 (rq q) 0 0 31 [(0, .ref (xB X + 111)), (1, .int x1), (2, .int x2_4)] [] := by
  intro n
  induction n with
  | zero => intro _ _; exact wG_none
  | succ n ih =>
    intro x2_4 h_5
    refine wG_of (L_X12_again_31.eq_2 ..) ?_
    refine wG_iload_n C dX12_again_31 2 rfl ?_
    refine wG_sipush C dX12_again_32 (v := 266) (by decide) ?_
    refine wG_icmp_ge C dX12_again_35 ?_ ?_
    · exact wG_exit (fun Q e => gQ_lv [0] rfl e)
    · refine wG_aload_n C dX12_again_38 0 rfl ?_
      refine wG_getR C fl_X12_56_8 rfl kd_111 (wll hN (by decide)) (rf_111_19 q) dX12_again_39 ?_
      refine wG_iload_n C dX12_again_42 2 rfl ?_
      refine wG_aload_n C dX12_again_43 0 rfl ?_
      refine wG_getR C fl_X12_59_8 rfl kd_111 (wll hN (by decide)) (rf_111_20 q) dX12_again_44 ?_
      refine wG_sipush C dX12_again_47 (v := 266) (by decide) ?_
      refine wG_iload_n C dX12_again_50 1 rfl ?_
      refine wG_imul C dX12_again_51 ?_
      refine wG_iload_n C dX12_again_52 2 rfl ?_
      refine wG_iadd C dX12_again_53 ?_
      refine wG_iald C kd_124 (wll hN (by decide)) ln_124 dX12_again_54 ?_
      refine wG_iast C kd_123 (wll hN (by decide)) ln_123 dX12_again_55 (fun h_7 => ?_)
      refine wG_iinc C (v := 1) (LL := fun x2_8 => [(0, .ref (xB X + 111)), (1, .int x1), (2, .int x2_8)]) dX12_again_56 2 rfl (by decide) (by decide) [1, 2, 0] (fun _ => rfl) (fun x2_8 => ?_)
      refine wG_goto C dX12_again_59 ?_
      exact wG_lv [0, 1, 2] rfl (ih x2_8 h_7)
set_option maxRecDepth 4000 in
theorem w_X12_again {X : wX} (C : Cx X yX12_again cX12_again 3 (some .int) rm_X12_again) {N : Nat} {q : Qp} (hN : 137 ≤ N) (h : Hp) (x1 : Int32) : wG X 3 (eM X (fun u => (some (.int u.1), N, u.2, (rq q)))) (f_X12_again h x1) N h (rq q) 0 0 0 [(0, .ref (xB X + 111)), (1, .int x1)] [] := by
  refine wG_of (f_X12_again.eq_1 ..) ?_
  refine wG_aload_n C dX12_again_0 0 rfl ?_
  refine wG_iconst C dX12_again_1 (v := 0) (by decide) ?_
  refine wG_putI C fl_X12_1_8 (fp_8_0 _) (fun e => Bool.noConfusion e) rfl kd_111 (wll hN (by decide)) dX12_again_2 (fun h_1 => ?_)
  refine wG_iload_n C dX12_again_5 1 rfl ?_
  refine wG_i2l C dX12_again_6 ?_
  refine wG_lconst C dX12_again_7 (v := 0) (by decide) ?_
  refine wG_lconst C dX12_again_8 (v := 1) (by decide) ?_
  refine wG_cS_ri [.long x1.toInt64, .long 0, .long 1] [] C sw_X12_113 (c_X12_in (xl X) (xE X) N q hN h_1 x1.toInt64 0 1) (by decide) rfl rfl (Nat.le_of_ble_eq_true rfl) dX12_again_9 (cl' := 0) (sl' := 0) rfl rfl (fun u_2 => ?_)
  refine wG_if_ne C dX12_again_12 ?_ ?_
  · refine wG_iconst C dX12_again_15 (v := (-1)) (by decide) ?_
    exact wG_iret C dX12_again_16 ⟨by decide, by decide⟩ (fun _ e => e)
  · refine wG_aload_n C dX12_again_17 0 rfl ?_
    refine wG_getR C fl_X12_62_8 rfl kd_111 (wll hN (by decide)) (rf_111_21 q) dX12_again_18 ?_
    refine wG_iload_n C dX12_again_21 1 rfl ?_
    refine wG_zald C kd_125 (wll hN (by decide)) ln_125 dX12_again_22 ?_
    refine wG_if_ne C dX12_again_23 ?_ ?_
    · refine wG_bipush C dX12_again_26 (v := (-3)) (by decide) ?_
      exact wG_iret C dX12_again_28 ⟨by decide, by decide⟩ (fun _ e => e)
    · refine wG_iconst C dX12_again_29 (v := 0) (by decide) ?_
      refine wG_nmI (fun x2_3 => ?_)
      refine wG_istore_n C (L' := [(0, .ref (xB X + 111)), (1, .int x1), (2, .int x2_3)]) dX12_again_30 (by decide) [1, 2, 0] rfl ?_
      refine wG_lv (L' := [(0, .ref (xB X + 111)), (1, .int x1), (2, .int x2_3)]) [0, 1, 2] rfl ?_
      refine wG_bind (wL_X12_again_31 C hN h x1 h_1 u_2 x2_3 FU x2_3 h_1) (fun t_6 => (?_ : wG X 3 _ _ N t_6 (rq q) 0 0 62 [(0, .ref (xB X + 111))] []))
      refine wG_aload_n C dX12_again_62 0 rfl ?_
      refine wG_cV_wv [] [] C vw_X12_254 (c_X12_takeBack (xl X) (xE X) N q hN t_6) kd_111 (wll hN (by decide)) (by decide) rfl rfl (Nat.le_of_ble_eq_true rfl) dX12_again_63 (cl' := 0) (sl' := 0) rfl rfl (fun u_9 => ?_)
      refine wG_aload_n C dX12_again_66 0 rfl ?_
      refine wG_cV_ri [] [] C vw_X12_336 (c_X12_standing (xl X) (xE X) N q hN u_9) kd_111 (wll hN (by decide)) (by decide) rfl rfl (Nat.le_of_ble_eq_true rfl) dX12_again_67 (cl' := 0) (sl' := 0) rfl rfl (fun u_10 => ?_)
      exact wG_iret C dX12_again_70 ⟨by decide, by decide⟩ (fun _ e => e)
theorem c_X12_again (l : Launch) (E : wE) (N : Nat) (q : Qp) (hN : 137 ≤ N) (h : Hp) (x1 : Int32) : ∀ z, f_X12_again h x1 = some z → CT l E yX12_again cX12_again 3 (some .int) rm_X12_again [.ref (eB E + 111), .int x1] N h (rq q) ((fun u => (some (.int u.1), N, u.2, (rq q))) z) := CT.of (by decide +kernel) (Nat.le_of_ble_eq_true rfl) (fun X _ e C => by subst e; exact w_X12_again C hN h x1)
def rm_X12_count : Room := { frames := 1, cells := 0, slots := 0, locals := 22 }
def f_X12_count (h : Hp) (x1 : Int32) : Option (Int32 × Hp) :=
  vB (u2 h 111 0 0) fun h_1 =>
  (if x1 = 0 then
  some ((h_1 111 9), h_1)
  else
  (if x1 = 1 then
  (f_X12_standing h_1).bind fun u_2 =>
  some (u_2, h_1)
  else
  (if x1 = 2 then
  some ((h_1 111 18), h_1)
  else
  (if x1 = 3 then
  some ((h_1 111 26), h_1)
  else
  (if x1 = 4 then
  some ((h_1 111 35), h_1)
  else
  (if x1 = 5 then
  some ((h_1 111 2), h_1)
  else
  (if x1 = 6 then
  some ((h_1 111 39), h_1)
  else
  some ((-2), h_1))))))))
set_option maxRecDepth 4000 in
theorem w_X12_count {X : wX} (C : Cx X yX12_count cX12_count 2 (some .int) rm_X12_count) {N : Nat} {q : Qp} (hN : 137 ≤ N) (h : Hp) (x1 : Int32) : wG X 2 (eM X (fun u => (some (.int u.1), N, u.2, (rq q)))) (f_X12_count h x1) N h (rq q) 0 0 0 [(0, .ref (xB X + 111)), (1, .int x1)] [] := by
  refine wG_of (f_X12_count.eq_1 ..) ?_
  refine wG_aload_n C dX12_count_0 0 rfl ?_
  refine wG_iconst C dX12_count_1 (v := 0) (by decide) ?_
  refine wG_putI C fl_X12_1_8 (fp_8_0 _) (fun e => Bool.noConfusion e) rfl kd_111 (wll hN (by decide)) dX12_count_2 (fun h_1 => ?_)
  refine wG_iload_n C dX12_count_5 1 rfl ?_
  refine wG_if (fun c0 => ?_) (fun c0 => ?_)
  · refine wG_tsI C (tgt := 48) c0 dX12_count_6 (by decide) (by decide) (42) (by decide) (by decide) ?_
    refine wG_aload_n C dX12_count_48 0 rfl ?_
    refine wG_getI C fl_X12_29_8 rfl kd_111 (wll hN (by decide)) dX12_count_49 ?_
    exact wG_iret C dX12_count_52 ⟨by decide, by decide⟩ (fun _ e => e)
  · refine wG_if (fun c1 => ?_) (fun c1 => ?_)
    · refine wG_tsI C (tgt := 53) c1 dX12_count_6 (by decide) (by decide) (47) (by decide) (by decide) ?_
      refine wG_aload_n C dX12_count_53 0 rfl ?_
      refine wG_cV_ri [] [] C vw_X12_336 (c_X12_standing (xl X) (xE X) N q hN h_1) kd_111 (wll hN (by decide)) (by decide) rfl rfl (Nat.le_of_ble_eq_true rfl) dX12_count_54 (cl' := 0) (sl' := 0) rfl rfl (fun u_2 => ?_)
      exact wG_iret C dX12_count_57 ⟨by decide, by decide⟩ (fun _ e => e)
    · refine wG_if (fun c2 => ?_) (fun c2 => ?_)
      · refine wG_tsI C (tgt := 58) c2 dX12_count_6 (by decide) (by decide) (52) (by decide) (by decide) ?_
        refine wG_aload_n C dX12_count_58 0 rfl ?_
        refine wG_getI C fl_X12_134_8 rfl kd_111 (wll hN (by decide)) dX12_count_59 ?_
        exact wG_iret C dX12_count_62 ⟨by decide, by decide⟩ (fun _ e => e)
      · refine wG_if (fun c3 => ?_) (fun c3 => ?_)
        · refine wG_tsI C (tgt := 63) c3 dX12_count_6 (by decide) (by decide) (57) (by decide) (by decide) ?_
          refine wG_aload_n C dX12_count_63 0 rfl ?_
          refine wG_getI C fl_X12_262_8 rfl kd_111 (wll hN (by decide)) dX12_count_64 ?_
          exact wG_iret C dX12_count_67 ⟨by decide, by decide⟩ (fun _ e => e)
        · refine wG_if (fun c4 => ?_) (fun c4 => ?_)
          · refine wG_tsI C (tgt := 68) c4 dX12_count_6 (by decide) (by decide) (62) (by decide) (by decide) ?_
            refine wG_aload_n C dX12_count_68 0 rfl ?_
            refine wG_getI C fl_X12_137_8 rfl kd_111 (wll hN (by decide)) dX12_count_69 ?_
            exact wG_iret C dX12_count_72 ⟨by decide, by decide⟩ (fun _ e => e)
          · refine wG_if (fun c5 => ?_) (fun c5 => ?_)
            · refine wG_tsI C (tgt := 73) c5 dX12_count_6 (by decide) (by decide) (67) (by decide) (by decide) ?_
              refine wG_aload_n C dX12_count_73 0 rfl ?_
              refine wG_getI C fl_X12_117_8 rfl kd_111 (wll hN (by decide)) dX12_count_74 ?_
              exact wG_iret C dX12_count_77 ⟨by decide, by decide⟩ (fun _ e => e)
            · refine wG_if (fun c6 => ?_) (fun c6 => ?_)
              · refine wG_tsI C (tgt := 78) c6 dX12_count_6 (by decide) (by decide) (72) (by decide) (by decide) ?_
                refine wG_aload_n C dX12_count_78 0 rfl ?_
                refine wG_getI C fl_X12_323_8 rfl kd_111 (wll hN (by decide)) dX12_count_79 ?_
                exact wG_iret C dX12_count_82 ⟨by decide, by decide⟩ (fun _ e => e)
              · refine wG_tsO C (tgt := 83) (by have e0 := lv_neT (a := 0) c0 rfl; have e1 := lv_neT (a := 1) c1 rfl; have e2 := lv_neT (a := 2) c2 rfl; have e3 := lv_neT (a := 3) c3 rfl; have e4 := lv_neT (a := 4) c4 rfl; have e5 := lv_neT (a := 5) c5 rfl; have e6 := lv_neT (a := 6) c6 rfl; omega) dX12_count_6 (by decide) ?_
                refine wG_bipush C dX12_count_83 (v := (-2)) (by decide) ?_
                exact wG_iret C dX12_count_85 ⟨by decide, by decide⟩ (fun _ e => e)
theorem c_X12_count (l : Launch) (E : wE) (N : Nat) (q : Qp) (hN : 137 ≤ N) (h : Hp) (x1 : Int32) : ∀ z, f_X12_count h x1 = some z → CT l E yX12_count cX12_count 2 (some .int) rm_X12_count [.ref (eB E + 111), .int x1] N h (rq q) ((fun u => (some (.int u.1), N, u.2, (rq q))) z) := CT.of (by decide +kernel) (Nat.le_of_ble_eq_true rfl) (fun X _ e C => by subst e; exact w_X12_count C hN h x1)
