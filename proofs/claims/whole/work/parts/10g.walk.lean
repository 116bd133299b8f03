def rm_X12_bestWire : Room := { frames := 1, cells := 0, slots := 0, locals := 23 }
def L_X12_bestWire_106 (x3 : Int32) (x4 : Int32) (x5 : Int32) (x7_5 : Int32) (x8_10 : Int32) (x9_17 : Int32) (x10_21 : Int32) : Nat → Int32 → Int32 → Hp → Option (Int32 × Hp)
  | 0, _, _, _ => none
  | n + 1, x6_23, x11_24, h_25 =>
    (if x5 < x11_24 then
    some (x6_23, h_25)
    else
    ((if (x11_24 &&& (x5 ^^^ (-1))) = 0 then
    ((if x7_5 = 0 then
    some x4
    else
    some x3)).bind fun t_28 =>
    if inB ((16 * x9_17) + x11_24) 20736 then
    if inB (((16 * x10_21) + x5) - x11_24) 20736 then
    vB ((t_28 + (h_25 131 (ix ((16 * x9_17) + x11_24)))) + (h_25 131 (ix (((16 * x10_21) + x5) - x11_24)))) fun (x12_29 : Int32) =>
    (if x6_23 ≤ x12_29 then
    some (x6_23, h_25)
    else
    vB x12_29 fun (x6_30 : Int32) =>
    vB (u2 h_25 111 34 ((100 * x7_5) + x8_10)) fun h_31 =>
    some (x6_30, h_31)) else none else none
    else
    some (x6_23, h_25))).bind fun t_27 =>
    vB (x11_24 + 1) fun (x11_32 : Int32) =>
    L_X12_bestWire_106 x3 x4 x5 x7_5 x8_10 x9_17 x10_21 n t_27.1 x11_32 t_27.2)
def L_X12_bestWire_22 (x1 : Int32) (x2 : Int32) (x3 : Int32) (x4 : Int32) (x5 : Int32) (x7_5 : Int32) : Nat → Int32 → Int32 → Hp → Option (Int32 × Hp)
  | 0, _, _, _ => none
  | n + 1, x6_9, x8_10, h_11 =>
    ((if x7_5 = 0 then
    some x3
    else
    some x4)).bind fun t_13 =>
    (if t_13 ≤ x8_10 then
    some (x6_9, h_11)
    else
    ((if x7_5 = 0 then
    (f_X12_block x1 x2 x8_10 x4).bind fun u_16 =>
    some u_16
    else
    (f_X12_block x1 x2 x3 x8_10).bind fun u_15 =>
    some u_15)).bind fun t_14 =>
    vB t_14 fun (x9_17 : Int32) =>
    ((if x7_5 = 0 then
    (f_X12_block (x1 + x8_10) x2 (x3 - x8_10) x4).bind fun u_20 =>
    some u_20
    else
    (f_X12_block x1 (x2 + x8_10) x3 (x4 - x8_10)).bind fun u_19 =>
    some u_19)).bind fun t_18 =>
    vB t_18 fun (x10_21 : Int32) =>
    vB 0 fun (x11_22 : Int32) =>
    (L_X12_bestWire_106 x3 x4 x5 x7_5 x8_10 x9_17 x10_21 FU x6_9 x11_22 h_11).bind fun t_26 =>
    vB (x8_10 + 1) fun (x8_33 : Int32) =>
    L_X12_bestWire_22 x1 x2 x3 x4 x5 x7_5 n t_26.1 x8_33 t_26.2)
def L_X12_bestWire_13 (x1 : Int32) (x2 : Int32) (x3 : Int32) (x4 : Int32) (x5 : Int32) : Nat → Int32 → Int32 → Hp → Option (Int32 × Hp)
  | 0, _, _, _ => none
  | n + 1, x6_4, x7_5, h_6 =>
    (if (2 : Int32) ≤ x7_5 then
    some (x6_4, h_6)
    else
    vB 1 fun (x8_8 : Int32) =>
    (L_X12_bestWire_22 x1 x2 x3 x4 x5 x7_5 FU x6_4 x8_8 h_6).bind fun t_12 =>
    vB (x7_5 + 1) fun (x7_34 : Int32) =>
    L_X12_bestWire_13 x1 x2 x3 x4 x5 n t_12.1 x7_34 t_12.2)
def f_X12_bestWire (h : Hp) (x1 : Int32) (x2 : Int32) (x3 : Int32) (x4 : Int32) (x5 : Int32) : Option (Int32 × Hp) :=
  vB 1000000 fun (x6_1 : Int32) =>
  vB (u2 h 111 34 (-9)) fun h_2 =>
  vB 0 fun (x7_3 : Int32) =>
  (L_X12_bestWire_13 x1 x2 x3 x4 x5 FU x6_1 x7_3 h_2).bind fun t_7 =>
  some (t_7.1, t_7.2)
set_option maxRecDepth 4000 in
theorem wL_X12_bestWire_106 {X : wX} (C : Cx X yX12_bestWire cX12_bestWire 13 (some .int) rm_X12_bestWire) {N : Nat} {q : Qp} (hN : 137 ≤ N) (h : Hp) (x1 : Int32) (x2 : Int32) (x3 : Int32) (x4 : Int32) (x5 : Int32) (x6_1 : Int32) (h_2 : Hp) (x7_3 : Int32) (x6_4 : Int32) (x7_5 : Int32) (h_6 : Hp) (x8_8 : Int32) (x6_9 : Int32) (x8_10 : Int32) (h_11 : Hp) (t_13 : Int32) (t_14 : Int32) (x9_17 : Int32) (t_18 : Int32) (x10_21 : Int32) (x11_22 : Int32) : ∀ n x6_23 x11_24 h_25, wG X 13 (fun (t_26 : (Int32 × Hp)) Q => gQ X 13 Q N t_26.2 (rq q) 0 0 196 [(0, .ref (xB X + 111)), (1, .int x1), (2, .int x2), (3, .int x3), (4, .int x4), (5, .int x5), (6, .int t_26.1), (7, .int x7_5), (8, .int x8_10)] []) (L_X12_bestWire_106 x3 x4 x5 x7_5 x8_10 x9_17 x10_21 n x6_23 x11_24 h_25) N h_25 (rq q) 0 0 106 [(0, .ref (xB X + 111)), (1, .int x1), (2, .int x2), (3, .int x3), (4, .int x4), (5, .int x5), (6, .int x6_23), (7, .int x7_5), (8, .int x8_10), (9, .int x9_17), (10, .int x10_21), (11, .int x11_24)] [] := by
  intro n
  induction n with
  | zero => intro _ _ _; exact wG_none
  | succ n ih =>
    intro x6_23 x11_24 h_25
    refine wG_of (L_X12_bestWire_106.eq_2 ..) ?_
    refine wG_iload C dX12_bestWire_106 11 rfl ?_
    refine wG_iload C dX12_bestWire_108 5 rfl ?_
    refine wG_icmp_gt C dX12_bestWire_110 ?_ ?_
    · exact wG_exit (fun Q e => gQ_lv [0, 1, 2, 3, 4, 5, 6, 7, 8] rfl e)
    · refine wG_iload C dX12_bestWire_113 11 rfl ?_
      refine wG_iload C dX12_bestWire_115 5 rfl ?_
      refine wG_iconst C dX12_bestWire_117 (v := (-1)) (by decide) ?_
      refine wG_ixor C dX12_bestWire_118 ?_
      refine wG_iand C dX12_bestWire_119 ?_
      refine wG_bind (J := (fun (t_27 : (Int32 × Hp)) Q => gQ X 13 Q N t_27.2 (rq q) 0 0 190 [(0, .ref (xB X + 111)), (1, .int x1), (2, .int x2), (3, .int x3), (4, .int x4), (5, .int x5), (6, .int t_27.1), (7, .int x7_5), (8, .int x8_10), (9, .int x9_17), (10, .int x10_21), (11, .int x11_24)] [])) ?_ (fun t_27 => (?_ : wG X 13 _ _ N t_27.2 (rq q) 0 0 190 [(0, .ref (xB X + 111)), (1, .int x1), (2, .int x2), (3, .int x3), (4, .int x4), (5, .int x5), (6, .int t_27.1), (7, .int x7_5), (8, .int x8_10), (9, .int x9_17), (10, .int x10_21), (11, .int x11_24)] []))
      · refine wG_if_ne C dX12_bestWire_120 ?_ ?_
        · refine wG_iload C dX12_bestWire_123 7 rfl ?_
          refine wG_bind (J := (fun (t_28 : Int32) Q => gQ X 13 Q N h_25 (rq q) 0 0 134 [(0, .ref (xB X + 111)), (1, .int x1), (2, .int x2), (3, .int x3), (4, .int x4), (5, .int x5), (6, .int x6_23), (7, .int x7_5), (8, .int x8_10), (9, .int x9_17), (10, .int x10_21), (11, .int x11_24)] [.int t_28])) ?_ (fun t_28 => (?_ : wG X 13 _ _ N h_25 (rq q) 0 0 134 [(0, .ref (xB X + 111)), (1, .int x1), (2, .int x2), (3, .int x3), (4, .int x4), (5, .int x5), (6, .int x6_23), (7, .int x7_5), (8, .int x8_10), (9, .int x9_17), (10, .int x10_21), (11, .int x11_24)] [.int t_28]))
          · refine wG_if_ne C dX12_bestWire_125 ?_ ?_
            · refine wG_iload C dX12_bestWire_128 4 rfl ?_
              refine wG_goto C dX12_bestWire_130 ?_
              exact wG_exit (fun Q e => gQ_lv [0, 1, 2, 3, 4, 5, 6, 7, 8, 9, 10, 11] rfl e)
            · refine wG_iload_n C dX12_bestWire_133 3 rfl ?_
              exact wG_exit (fun Q e => gQ_lv [0, 1, 2, 3, 4, 5, 6, 7, 8, 9, 10, 11] rfl e)
          · refine wG_aload_n C dX12_bestWire_134 0 rfl ?_
            refine wG_getR C fl_X12_81_8 rfl kd_111 (wll hN (by decide)) (rf_111_32 q) dX12_bestWire_135 ?_
            refine wG_bipush C dX12_bestWire_138 (v := 16) (by decide) ?_
            refine wG_iload C dX12_bestWire_140 9 rfl ?_
            refine wG_imul C dX12_bestWire_142 ?_
            refine wG_iload C dX12_bestWire_143 11 rfl ?_
            refine wG_iadd C dX12_bestWire_145 ?_
            refine wG_iald C kd_131 (wll hN (by decide)) ln_131 dX12_bestWire_146 ?_
            refine wG_iadd C dX12_bestWire_147 ?_
            refine wG_aload_n C dX12_bestWire_148 0 rfl ?_
            refine wG_getR C fl_X12_81_8 rfl kd_111 (wll hN (by decide)) (rf_111_32 q) dX12_bestWire_149 ?_
            refine wG_bipush C dX12_bestWire_152 (v := 16) (by decide) ?_
            refine wG_iload C dX12_bestWire_154 10 rfl ?_
            refine wG_imul C dX12_bestWire_156 ?_
            refine wG_iload C dX12_bestWire_157 5 rfl ?_
            refine wG_iadd C dX12_bestWire_159 ?_
            refine wG_iload C dX12_bestWire_160 11 rfl ?_
            refine wG_isub C dX12_bestWire_162 ?_
            refine wG_iald C kd_131 (wll hN (by decide)) ln_131 dX12_bestWire_163 ?_
            refine wG_iadd C dX12_bestWire_164 ?_
            refine wG_nmI (fun x12_29 => ?_)
            refine wG_istore C (L' := [(0, .ref (xB X + 111)), (1, .int x1), (2, .int x2), (3, .int x3), (4, .int x4), (5, .int x5), (6, .int x6_23), (7, .int x7_5), (8, .int x8_10), (9, .int x9_17), (10, .int x10_21), (11, .int x11_24), (12, .int x12_29)]) dX12_bestWire_165 (by decide) [1, 2, 3, 4, 5, 6, 7, 8, 9, 10, 11, 12, 0] rfl ?_
            refine wG_iload C dX12_bestWire_167 12 rfl ?_
            refine wG_iload C dX12_bestWire_169 6 rfl ?_
            refine wG_icmp_ge C dX12_bestWire_171 ?_ ?_
            · exact wG_exit (fun Q e => gQ_lv [0, 1, 2, 3, 4, 5, 6, 7, 8, 9, 10, 11] rfl e)
            · refine wG_iload C dX12_bestWire_174 12 rfl ?_
              refine wG_nmI (fun x6_30 => ?_)
              refine wG_istore C (L' := [(0, .ref (xB X + 111)), (1, .int x1), (2, .int x2), (3, .int x3), (4, .int x4), (5, .int x5), (6, .int x6_30), (7, .int x7_5), (8, .int x8_10), (9, .int x9_17), (10, .int x10_21), (11, .int x11_24)]) dX12_bestWire_176 (by decide) [1, 2, 3, 4, 5, 6, 0, 7, 8, 9, 10, 11] rfl ?_
              refine wG_aload_n C dX12_bestWire_178 0 rfl ?_
              refine wG_bipush C dX12_bestWire_179 (v := 100) (by decide) ?_
              refine wG_iload C dX12_bestWire_181 7 rfl ?_
              refine wG_imul C dX12_bestWire_183 ?_
              refine wG_iload C dX12_bestWire_184 8 rfl ?_
              refine wG_iadd C dX12_bestWire_186 ?_
              refine wG_putI C fl_X12_268_8 (fp_8_34 _) (fun e => Bool.noConfusion e) rfl kd_111 (wll hN (by decide)) dX12_bestWire_187 (fun h_31 => ?_)
              exact wG_exit (fun Q e => gQ_lv [0, 1, 2, 3, 4, 5, 6, 7, 8, 9, 10, 11] rfl e)
        · exact wG_exit (fun Q e => gQ_lv [0, 1, 2, 3, 4, 5, 6, 7, 8, 9, 10, 11] rfl e)
      · refine wG_iinc C (v := 1) (LL := fun x11_32 => [(0, .ref (xB X + 111)), (1, .int x1), (2, .int x2), (3, .int x3), (4, .int x4), (5, .int x5), (6, .int t_27.1), (7, .int x7_5), (8, .int x8_10), (9, .int x9_17), (10, .int x10_21), (11, .int x11_32)]) dX12_bestWire_190 11 rfl (by decide) (by decide) [1, 2, 3, 4, 5, 6, 7, 8, 9, 10, 11, 0] (fun _ => rfl) (fun x11_32 => ?_)
        refine wG_goto C dX12_bestWire_193 ?_
        exact wG_lv [0, 1, 2, 3, 4, 5, 6, 7, 8, 9, 10, 11] rfl (ih t_27.1 x11_32 t_27.2)
set_option maxRecDepth 4000 in
theorem wL_X12_bestWire_22 {X : wX} (C : Cx X yX12_bestWire cX12_bestWire 13 (some .int) rm_X12_bestWire) {N : Nat} {q : Qp} (hN : 137 ≤ N) (h : Hp) (x1 : Int32) (x2 : Int32) (x3 : Int32) (x4 : Int32) (x5 : Int32) (x6_1 : Int32) (h_2 : Hp) (x7_3 : Int32) (x6_4 : Int32) (x7_5 : Int32) (h_6 : Hp) (x8_8 : Int32) : ∀ n x6_9 x8_10 h_11, wG X 13 (fun (t_12 : (Int32 × Hp)) Q => gQ X 13 Q N t_12.2 (rq q) 0 0 202 [(0, .ref (xB X + 111)), (1, .int x1), (2, .int x2), (3, .int x3), (4, .int x4), (5, .int x5), (6, .int t_12.1), (7, .int x7_5)] []) (L_X12_bestWire_22 x1 x2 x3 x4 x5 x7_5 n x6_9 x8_10 h_11) N h_11 (rq q) 0 0 22 [(0, .ref (xB X + 111)), (1, .int x1), (2, .int x2), (3, .int x3), (4, .int x4), (5, .int x5), (6, .int x6_9), (7, .int x7_5), (8, .int x8_10)] [] := by
  intro n
  induction n with
  | zero => intro _ _ _; exact wG_none
  | succ n ih =>
    intro x6_9 x8_10 h_11
    refine wG_of (L_X12_bestWire_22.eq_2 ..) ?_
    refine wG_iload C dX12_bestWire_22 8 rfl ?_
    refine wG_iload C dX12_bestWire_24 7 rfl ?_
    refine wG_bind (J := (fun (t_13 : Int32) Q => gQ X 13 Q N h_11 (rq q) 0 0 35 [(0, .ref (xB X + 111)), (1, .int x1), (2, .int x2), (3, .int x3), (4, .int x4), (5, .int x5), (6, .int x6_9), (7, .int x7_5), (8, .int x8_10)] [.int t_13, .int x8_10])) ?_ (fun t_13 => (?_ : wG X 13 _ _ N h_11 (rq q) 0 0 35 [(0, .ref (xB X + 111)), (1, .int x1), (2, .int x2), (3, .int x3), (4, .int x4), (5, .int x5), (6, .int x6_9), (7, .int x7_5), (8, .int x8_10)] [.int t_13, .int x8_10]))
    · refine wG_if_ne C dX12_bestWire_26 ?_ ?_
      · refine wG_iload_n C dX12_bestWire_29 3 rfl ?_
        refine wG_goto C dX12_bestWire_30 ?_
        exact wG_exit (fun Q e => gQ_lv [0, 1, 2, 3, 4, 5, 6, 7, 8] rfl e)
      · refine wG_iload C dX12_bestWire_33 4 rfl ?_
        exact wG_exit (fun Q e => gQ_lv [0, 1, 2, 3, 4, 5, 6, 7, 8] rfl e)
    · refine wG_icmp_ge C dX12_bestWire_35 ?_ ?_
      · exact wG_exit (fun Q e => gQ_lv [0, 1, 2, 3, 4, 5, 6, 7] rfl e)
      · refine wG_iload C dX12_bestWire_38 7 rfl ?_
        refine wG_bind (J := (fun (t_14 : Int32) Q => gQ X 13 Q N h_11 (rq q) 0 0 63 [(0, .ref (xB X + 111)), (1, .int x1), (2, .int x2), (3, .int x3), (4, .int x4), (5, .int x5), (6, .int x6_9), (7, .int x7_5), (8, .int x8_10)] [.int t_14])) ?_ (fun t_14 => (?_ : wG X 13 _ _ N h_11 (rq q) 0 0 63 [(0, .ref (xB X + 111)), (1, .int x1), (2, .int x2), (3, .int x3), (4, .int x4), (5, .int x5), (6, .int x6_9), (7, .int x7_5), (8, .int x8_10)] [.int t_14]))
        · refine wG_if_ne C dX12_bestWire_40 ?_ ?_
          · refine wG_iload_n C dX12_bestWire_43 1 rfl ?_
            refine wG_iload_n C dX12_bestWire_44 2 rfl ?_
            refine wG_iload C dX12_bestWire_45 8 rfl ?_
            refine wG_iload C dX12_bestWire_47 4 rfl ?_
            refine wG_cS_ri [.int x1, .int x2, .int x8_10, .int x4] [] C sw_X12_265 (c_X12_block (xl X) (xE X) N q hN h_11 x1 x2 x8_10 x4) (by decide) rfl rfl (Nat.le_of_ble_eq_true rfl) dX12_bestWire_49 (cl' := 0) (sl' := 0) rfl rfl (fun u_16 => ?_)
            refine wG_goto C dX12_bestWire_52 ?_
            exact wG_exit (fun Q e => gQ_lv [0, 1, 2, 3, 4, 5, 6, 7, 8] rfl e)
          · refine wG_iload_n C dX12_bestWire_55 1 rfl ?_
            refine wG_iload_n C dX12_bestWire_56 2 rfl ?_
            refine wG_iload_n C dX12_bestWire_57 3 rfl ?_
            refine wG_iload C dX12_bestWire_58 8 rfl ?_
            refine wG_cS_ri [.int x1, .int x2, .int x3, .int x8_10] [] C sw_X12_265 (c_X12_block (xl X) (xE X) N q hN h_11 x1 x2 x3 x8_10) (by decide) rfl rfl (Nat.le_of_ble_eq_true rfl) dX12_bestWire_60 (cl' := 0) (sl' := 0) rfl rfl (fun u_15 => ?_)
            exact wG_exit (fun Q e => gQ_lv [0, 1, 2, 3, 4, 5, 6, 7, 8] rfl e)
        · refine wG_nmI (fun x9_17 => ?_)
          refine wG_istore C (L' := [(0, .ref (xB X + 111)), (1, .int x1), (2, .int x2), (3, .int x3), (4, .int x4), (5, .int x5), (6, .int x6_9), (7, .int x7_5), (8, .int x8_10), (9, .int x9_17)]) dX12_bestWire_63 (by decide) [1, 2, 3, 4, 5, 6, 7, 8, 9, 0] rfl ?_
          refine wG_iload C dX12_bestWire_65 7 rfl ?_
          refine wG_bind (J := (fun (t_18 : Int32) Q => gQ X 13 Q N h_11 (rq q) 0 0 101 [(0, .ref (xB X + 111)), (1, .int x1), (2, .int x2), (3, .int x3), (4, .int x4), (5, .int x5), (6, .int x6_9), (7, .int x7_5), (8, .int x8_10), (9, .int x9_17)] [.int t_18])) ?_ (fun t_18 => (?_ : wG X 13 _ _ N h_11 (rq q) 0 0 101 [(0, .ref (xB X + 111)), (1, .int x1), (2, .int x2), (3, .int x3), (4, .int x4), (5, .int x5), (6, .int x6_9), (7, .int x7_5), (8, .int x8_10), (9, .int x9_17)] [.int t_18]))
          · refine wG_if_ne C dX12_bestWire_67 ?_ ?_
            · refine wG_iload_n C dX12_bestWire_70 1 rfl ?_
              refine wG_iload C dX12_bestWire_71 8 rfl ?_
              refine wG_iadd C dX12_bestWire_73 ?_
              refine wG_iload_n C dX12_bestWire_74 2 rfl ?_
              refine wG_iload_n C dX12_bestWire_75 3 rfl ?_
              refine wG_iload C dX12_bestWire_76 8 rfl ?_
              refine wG_isub C dX12_bestWire_78 ?_
              refine wG_iload C dX12_bestWire_79 4 rfl ?_
              refine wG_cS_ri [.int (x1 + x8_10), .int x2, .int (x3 - x8_10), .int x4] [] C sw_X12_265 (c_X12_block (xl X) (xE X) N q hN h_11 (x1 + x8_10) x2 (x3 - x8_10) x4) (by decide) rfl rfl (Nat.le_of_ble_eq_true rfl) dX12_bestWire_81 (cl' := 0) (sl' := 0) rfl rfl (fun u_20 => ?_)
              refine wG_goto C dX12_bestWire_84 ?_
              exact wG_exit (fun Q e => gQ_lv [0, 1, 2, 3, 4, 5, 6, 7, 8, 9] rfl e)
            · refine wG_iload_n C dX12_bestWire_87 1 rfl ?_
              refine wG_iload_n C dX12_bestWire_88 2 rfl ?_
              refine wG_iload C dX12_bestWire_89 8 rfl ?_
              refine wG_iadd C dX12_bestWire_91 ?_
              refine wG_iload_n C dX12_bestWire_92 3 rfl ?_
              refine wG_iload C dX12_bestWire_93 4 rfl ?_
              refine wG_iload C dX12_bestWire_95 8 rfl ?_
              refine wG_isub C dX12_bestWire_97 ?_
              refine wG_cS_ri [.int x1, .int (x2 + x8_10), .int x3, .int (x4 - x8_10)] [] C sw_X12_265 (c_X12_block (xl X) (xE X) N q hN h_11 x1 (x2 + x8_10) x3 (x4 - x8_10)) (by decide) rfl rfl (Nat.le_of_ble_eq_true rfl) dX12_bestWire_98 (cl' := 0) (sl' := 0) rfl rfl (fun u_19 => ?_)
              exact wG_exit (fun Q e => gQ_lv [0, 1, 2, 3, 4, 5, 6, 7, 8, 9] rfl e)
          · refine wG_nmI (fun x10_21 => ?_)
            refine wG_istore C (L' := [(0, .ref (xB X + 111)), (1, .int x1), (2, .int x2), (3, .int x3), (4, .int x4), (5, .int x5), (6, .int x6_9), (7, .int x7_5), (8, .int x8_10), (9, .int x9_17), (10, .int x10_21)]) dX12_bestWire_101 (by decide) [1, 2, 3, 4, 5, 6, 7, 8, 9, 10, 0] rfl ?_
            refine wG_iconst C dX12_bestWire_103 (v := 0) (by decide) ?_
            refine wG_nmI (fun x11_22 => ?_)
            refine wG_istore C (L' := [(0, .ref (xB X + 111)), (1, .int x1), (2, .int x2), (3, .int x3), (4, .int x4), (5, .int x5), (6, .int x6_9), (7, .int x7_5), (8, .int x8_10), (9, .int x9_17), (10, .int x10_21), (11, .int x11_22)]) dX12_bestWire_104 (by decide) [1, 2, 3, 4, 5, 6, 7, 8, 9, 10, 11, 0] rfl ?_
            refine wG_lv (L' := [(0, .ref (xB X + 111)), (1, .int x1), (2, .int x2), (3, .int x3), (4, .int x4), (5, .int x5), (6, .int x6_9), (7, .int x7_5), (8, .int x8_10), (9, .int x9_17), (10, .int x10_21), (11, .int x11_22)]) [0, 1, 2, 3, 4, 5, 6, 7, 8, 9, 10, 11] rfl ?_
            refine wG_bind (wL_X12_bestWire_106 C hN h x1 x2 x3 x4 x5 x6_1 h_2 x7_3 x6_4 x7_5 h_6 x8_8 x6_9 x8_10 h_11 t_13 t_14 x9_17 t_18 x10_21 x11_22 FU x6_9 x11_22 h_11) (fun t_26 => (?_ : wG X 13 _ _ N t_26.2 (rq q) 0 0 196 [(0, .ref (xB X + 111)), (1, .int x1), (2, .int x2), (3, .int x3), (4, .int x4), (5, .int x5), (6, .int t_26.1), (7, .int x7_5), (8, .int x8_10)] []))
            refine wG_iinc C (v := 1) (LL := fun x8_33 => [(0, .ref (xB X + 111)), (1, .int x1), (2, .int x2), (3, .int x3), (4, .int x4), (5, .int x5), (6, .int t_26.1), (7, .int x7_5), (8, .int x8_33)]) dX12_bestWire_196 8 rfl (by decide) (by decide) [1, 2, 3, 4, 5, 6, 7, 8, 0] (fun _ => rfl) (fun x8_33 => ?_)
            refine wG_goto C dX12_bestWire_199 ?_
            exact wG_lv [0, 1, 2, 3, 4, 5, 6, 7, 8] rfl (ih t_26.1 x8_33 t_26.2)
set_option maxRecDepth 4000 in
theorem wL_X12_bestWire_13 {X : wX} (C : Cx X yX12_bestWire cX12_bestWire 13 (some .int) rm_X12_bestWire) {N : Nat} {q : Qp} (hN : 137 ≤ N) (h : Hp) (x1 : Int32) (x2 : Int32) (x3 : Int32) (x4 : Int32) (x5 : Int32) (x6_1 : Int32) (h_2 : Hp) (x7_3 : Int32) : ∀ n x6_4 x7_5 h_6, wG X 13 (fun (t_7 : (Int32 × Hp)) Q => gQ X 13 Q N t_7.2 (rq q) 0 0 208 [(6, .int t_7.1)] []) (L_X12_bestWire_13 x1 x2 x3 x4 x5 n x6_4 x7_5 h_6) N h_6 (rq q) 0 0 13 [(0, .ref (xB X + 111)), (1, .int x1), (2, .int x2), (3, .int x3), (4, .int x4), (5, .int x5), (6, .int x6_4), (7, .int x7_5)] [] := by
  intro n
  induction n with
  | zero => intro _ _ _; exact wG_none
  | succ n ih =>
    intro x6_4 x7_5 h_6
    refine wG_of (L_X12_bestWire_13.eq_2 ..) ?_
    refine wG_iload C dX12_bestWire_13 7 rfl ?_
    refine wG_iconst C dX12_bestWire_15 (v := 2) (by decide) ?_
    refine wG_icmp_ge C dX12_bestWire_16 ?_ ?_
    · exact wG_exit (fun Q e => gQ_lv [6] rfl e)
    · refine wG_iconst C dX12_bestWire_19 (v := 1) (by decide) ?_
      refine wG_nmI (fun x8_8 => ?_)
      refine wG_istore C (L' := [(0, .ref (xB X + 111)), (1, .int x1), (2, .int x2), (3, .int x3), (4, .int x4), (5, .int x5), (6, .int x6_4), (7, .int x7_5), (8, .int x8_8)]) dX12_bestWire_20 (by decide) [1, 2, 3, 4, 5, 6, 7, 8, 0] rfl ?_
      refine wG_lv (L' := [(0, .ref (xB X + 111)), (1, .int x1), (2, .int x2), (3, .int x3), (4, .int x4), (5, .int x5), (6, .int x6_4), (7, .int x7_5), (8, .int x8_8)]) [0, 1, 2, 3, 4, 5, 6, 7, 8] rfl ?_
      refine wG_bind (wL_X12_bestWire_22 C hN h x1 x2 x3 x4 x5 x6_1 h_2 x7_3 x6_4 x7_5 h_6 x8_8 FU x6_4 x8_8 h_6) (fun t_12 => (?_ : wG X 13 _ _ N t_12.2 (rq q) 0 0 202 [(0, .ref (xB X + 111)), (1, .int x1), (2, .int x2), (3, .int x3), (4, .int x4), (5, .int x5), (6, .int t_12.1), (7, .int x7_5)] []))
      refine wG_iinc C (v := 1) (LL := fun x7_34 => [(0, .ref (xB X + 111)), (1, .int x1), (2, .int x2), (3, .int x3), (4, .int x4), (5, .int x5), (6, .int t_12.1), (7, .int x7_34)]) dX12_bestWire_202 7 rfl (by decide) (by decide) [1, 2, 3, 4, 5, 6, 7, 0] (fun _ => rfl) (fun x7_34 => ?_)
      refine wG_goto C dX12_bestWire_205 ?_
      exact wG_lv [0, 1, 2, 3, 4, 5, 6, 7] rfl (ih t_12.1 x7_34 t_12.2)
set_option maxRecDepth 4000 in
theorem w_X12_bestWire {X : wX} (C : Cx X yX12_bestWire cX12_bestWire 13 (some .int) rm_X12_bestWire) {N : Nat} {q : Qp} (hN : 137 ≤ N) (h : Hp) (x1 : Int32) (x2 : Int32) (x3 : Int32) (x4 : Int32) (x5 : Int32) : wG X 13 (eM X (fun u => (some (.int u.1), N, u.2, (rq q)))) (f_X12_bestWire h x1 x2 x3 x4 x5) N h (rq q) 0 0 0 [(0, .ref (xB X + 111)), (1, .int x1), (2, .int x2), (3, .int x3), (4, .int x4), (5, .int x5)] [] := by
  refine wG_of (f_X12_bestWire.eq_1 ..) ?_
  refine wG_ldc C dX12_bestWire_0 m_1292 ?_
  refine wG_nmI (fun x6_1 => ?_)
  refine wG_istore C (L' := [(0, .ref (xB X + 111)), (1, .int x1), (2, .int x2), (3, .int x3), (4, .int x4), (5, .int x5), (6, .int x6_1)]) dX12_bestWire_2 (by decide) [1, 2, 3, 4, 5, 6, 0] rfl ?_
  refine wG_aload_n C dX12_bestWire_4 0 rfl ?_
  refine wG_bipush C dX12_bestWire_5 (v := (-9)) (by decide) ?_
  refine wG_putI C fl_X12_268_8 (fp_8_34 _) (fun e => Bool.noConfusion e) rfl kd_111 (wll hN (by decide)) dX12_bestWire_7 (fun h_2 => ?_)
  refine wG_iconst C dX12_bestWire_10 (v := 0) (by decide) ?_
  refine wG_nmI (fun x7_3 => ?_)
  refine wG_istore C (L' := [(0, .ref (xB X + 111)), (1, .int x1), (2, .int x2), (3, .int x3), (4, .int x4), (5, .int x5), (6, .int x6_1), (7, .int x7_3)]) dX12_bestWire_11 (by decide) [1, 2, 3, 4, 5, 6, 7, 0] rfl ?_
  refine wG_lv (L' := [(0, .ref (xB X + 111)), (1, .int x1), (2, .int x2), (3, .int x3), (4, .int x4), (5, .int x5), (6, .int x6_1), (7, .int x7_3)]) [0, 1, 2, 3, 4, 5, 6, 7] rfl ?_
  refine wG_bind (wL_X12_bestWire_13 C hN h x1 x2 x3 x4 x5 x6_1 h_2 x7_3 FU x6_1 x7_3 h_2) (fun t_7 => (?_ : wG X 13 _ _ N t_7.2 (rq q) 0 0 208 [(6, .int t_7.1)] []))
  refine wG_iload C dX12_bestWire_208 0 rfl ?_
  exact wG_iret C dX12_bestWire_210 ⟨by decide, by decide⟩ (fun _ e => e)
theorem c_X12_bestWire (l : Launch) (E : wE) (N : Nat) (q : Qp) (hN : 137 ≤ N) (h : Hp) (x1 : Int32) (x2 : Int32) (x3 : Int32) (x4 : Int32) (x5 : Int32) : ∀ z, f_X12_bestWire h x1 x2 x3 x4 x5 = some z → CT l E yX12_bestWire cX12_bestWire 13 (some .int) rm_X12_bestWire [.ref (eB E + 111), .int x1, .int x2, .int x3, .int x4, .int x5] N h (rq q) ((fun u => (some (.int u.1), N, u.2, (rq q))) z) := CT.of (by decide +kernel) (Nat.le_of_ble_eq_true rfl) (fun X _ e C => by subst e; exact w_X12_bestWire C hN h x1 x2 x3 x4 x5)
def rm_X12_layWires : Room := { frames := 2, cells := 0, slots := 0, locals := 55 }
def L_X12_layWires_74 (x1_3 : Int32) (x2_7 : Int32) (x3_11 : Int32) (x4_15 : Int32) (x5_19 : Int32) : Nat → Int32 → Hp → Option Hp
  | 0, _, _ => none
  | n + 1, x6_22, h_23 =>
    (if ((1 : Int32) <<< ((h_23 111 26) &&& 31)) ≤ x6_22 then
    some h_23
    else
    ((if x6_22 = 1 then
    some 0
    else
    (if x6_22 = 2 then
    some 1
    else
    (if x6_22 = 4 then
    some 2
    else
    (if x6_22 = 8 then
    some 3
    else
    some (-9)))))).bind fun t_25 =>
    vB t_25 fun (x7_26 : Int32) =>
    ((if x7_26 = (-9) then
    (f_X12_bestWire h_23 x3_11 x4_15 x1_3 x2_7 x6_22).bind fun u_28 =>
    some (u_28.1, u_28.2)
    else
    (f_X12_isAsk h_23 x5_19 x7_26).bind fun u_29 =>
    (if u_29 = 0 then
    (f_X12_bestWire h_23 x3_11 x4_15 x1_3 x2_7 x6_22).bind fun u_30 =>
    some (u_30.1, u_30.2)
    else
    some (0, h_23)))).bind fun t_27 =>
    if inB ((16 * x5_19) + x6_22) 20736 then vB (u2 t_27.2 131 (ix ((16 * x5_19) + x6_22)) t_27.1) fun h_31 =>
    vB (x6_22 + 1) fun (x6_32 : Int32) =>
    L_X12_layWires_74 x1_3 x2_7 x3_11 x4_15 x5_19 n x6_32 h_31 else none)
def L_X12_layWires_39 (x1_3 : Int32) (x2_7 : Int32) (x3_11 : Int32) : Nat → Int32 → Hp → Option Hp
  | 0, _, _ => none
  | n + 1, x4_15, h_16 =>
    (if (h_16 111 5) < (x4_15 + x2_7) then
    some h_16
    else
    (f_X12_block x3_11 x4_15 x1_3 x2_7).bind fun u_18 =>
    vB u_18 fun (x5_19 : Int32) =>
    if inB (16 * x5_19) 20736 then vB (u2 h_16 131 (ix (16 * x5_19)) 0) fun h_20 =>
    vB 1 fun (x6_21 : Int32) =>
    (L_X12_layWires_74 x1_3 x2_7 x3_11 x4_15 x5_19 FU x6_21 h_20).bind fun t_24 =>
    vB (x4_15 + 1) fun (x4_33 : Int32) =>
    L_X12_layWires_39 x1_3 x2_7 x3_11 n x4_33 t_24 else none)
def L_X12_layWires_26 (x1_3 : Int32) (x2_7 : Int32) : Nat → Int32 → Hp → Option Hp
  | 0, _, _ => none
  | n + 1, x3_11, h_12 =>
    (if (h_12 111 4) < (x3_11 + x1_3) then
    some h_12
    else
    vB 0 fun (x4_14 : Int32) =>
    (L_X12_layWires_39 x1_3 x2_7 x3_11 FU x4_14 h_12).bind fun t_17 =>
    vB (x3_11 + 1) fun (x3_34 : Int32) =>
    L_X12_layWires_26 x1_3 x2_7 n x3_34 t_17)
def L_X12_layWires_16 (x1_3 : Int32) : Nat → Int32 → Hp → Option Hp
  | 0, _, _ => none
  | n + 1, x2_7, h_8 =>
    (if (h_8 111 5) < x2_7 then
    some h_8
    else
    vB 0 fun (x3_10 : Int32) =>
    (L_X12_layWires_26 x1_3 x2_7 FU x3_10 h_8).bind fun t_13 =>
    vB (x2_7 + 1) fun (x2_35 : Int32) =>
    L_X12_layWires_16 x1_3 n x2_35 t_13)
def L_X12_layWires_6  : Nat → Int32 → Hp → Option Hp
  | 0, _, _ => none
  | n + 1, x1_3, h_4 =>
    (if (h_4 111 4) < x1_3 then
    some h_4
    else
    vB 1 fun (x2_6 : Int32) =>
    (L_X12_layWires_16 x1_3 FU x2_6 h_4).bind fun t_9 =>
    vB (x1_3 + 1) fun (x1_36 : Int32) =>
    L_X12_layWires_6 n x1_36 t_9)
def f_X12_layWires (h : Hp) : Option Hp :=
  (f_X12_layBlocks h).bind fun u_1 =>
  vB 1 fun (x1_2 : Int32) =>
  (L_X12_layWires_6 FU x1_2 u_1).bind fun t_5 =>
  some t_5
set_option maxRecDepth 4000 in
theorem wL_X12_layWires_74 {X : wX} (C : Cx X yX12_layWires cX12_layWires 8 none rm_X12_layWires) {N : Nat} {q : Qp} (hN : 137 ≤ N) (h : Hp) (u_1 : Hp) (x1_2 : Int32) (x1_3 : Int32) (h_4 : Hp) (x2_6 : Int32) (x2_7 : Int32) (h_8 : Hp) (x3_10 : Int32) (x3_11 : Int32) (h_12 : Hp) (x4_14 : Int32) (x4_15 : Int32) (h_16 : Hp) (u_18 : Int32) (x5_19 : Int32) (h_20 : Hp) (x6_21 : Int32) : ∀ n x6_22 h_23, wG X 8 (fun (t_24 : Hp) Q => gQ X 8 Q N t_24 (rq q) 0 0 182 [(0, .ref (xB X + 111)), (1, .int x1_3), (2, .int x2_7), (3, .int x3_11), (4, .int x4_15)] []) (L_X12_layWires_74 x1_3 x2_7 x3_11 x4_15 x5_19 n x6_22 h_23) N h_23 (rq q) 0 0 74 [(0, .ref (xB X + 111)), (1, .int x1_3), (2, .int x2_7), (3, .int x3_11), (4, .int x4_15), (5, .int x5_19), (6, .int x6_22)] [] := by
  intro n
  induction n with
  | zero => intro _ _; exact wG_none
  | succ n ih =>
    intro x6_22 h_23
    refine wG_of (L_X12_layWires_74.eq_2 ..) ?_
    refine wG_iload C dX12_layWires_74 6 rfl ?_
    refine wG_iconst C dX12_layWires_76 (v := 1) (by decide) ?_
    refine wG_aload_n C dX12_layWires_77 0 rfl ?_
    refine wG_getI C fl_X12_262_8 rfl kd_111 (wll hN (by decide)) dX12_layWires_78 ?_
    refine wG_ishl C dX12_layWires_81 ?_
    refine wG_icmp_ge C dX12_layWires_82 ?_ ?_
    · exact wG_exit (fun Q e => gQ_lv [0, 1, 2, 3, 4] rfl e)
    · refine wG_iload C dX12_layWires_85 6 rfl ?_
      refine wG_iconst C dX12_layWires_87 (v := 1) (by decide) ?_
      refine wG_bind (J := (fun (t_25 : Int32) Q => gQ X 8 Q N h_23 (rq q) 0 0 128 [(0, .ref (xB X + 111)), (1, .int x1_3), (2, .int x2_7), (3, .int x3_11), (4, .int x4_15), (5, .int x5_19), (6, .int x6_22)] [.int t_25])) ?_ (fun t_25 => (?_ : wG X 8 _ _ N h_23 (rq q) 0 0 128 [(0, .ref (xB X + 111)), (1, .int x1_3), (2, .int x2_7), (3, .int x3_11), (4, .int x4_15), (5, .int x5_19), (6, .int x6_22)] [.int t_25]))
      · refine wG_icmp_ne C dX12_layWires_88 ?_ ?_
        · refine wG_iconst C dX12_layWires_91 (v := 0) (by decide) ?_
          refine wG_goto C dX12_layWires_92 ?_
          exact wG_exit (fun Q e => gQ_lv [0, 1, 2, 3, 4, 5, 6] rfl e)
        · refine wG_iload C dX12_layWires_95 6 rfl ?_
          refine wG_iconst C dX12_layWires_97 (v := 2) (by decide) ?_
          refine wG_icmp_ne C dX12_layWires_98 ?_ ?_
          · refine wG_iconst C dX12_layWires_101 (v := 1) (by decide) ?_
            refine wG_goto C dX12_layWires_102 ?_
            exact wG_exit (fun Q e => gQ_lv [0, 1, 2, 3, 4, 5, 6] rfl e)
          · refine wG_iload C dX12_layWires_105 6 rfl ?_
            refine wG_iconst C dX12_layWires_107 (v := 4) (by decide) ?_
            refine wG_icmp_ne C dX12_layWires_108 ?_ ?_
            · refine wG_iconst C dX12_layWires_111 (v := 2) (by decide) ?_
              refine wG_goto C dX12_layWires_112 ?_
              exact wG_exit (fun Q e => gQ_lv [0, 1, 2, 3, 4, 5, 6] rfl e)
            · refine wG_iload C dX12_layWires_115 6 rfl ?_
              refine wG_bipush C dX12_layWires_117 (v := 8) (by decide) ?_
              refine wG_icmp_ne C dX12_layWires_119 ?_ ?_
              · refine wG_iconst C dX12_layWires_122 (v := 3) (by decide) ?_
                refine wG_goto C dX12_layWires_123 ?_
                exact wG_exit (fun Q e => gQ_lv [0, 1, 2, 3, 4, 5, 6] rfl e)
              · refine wG_bipush C dX12_layWires_126 (v := (-9)) (by decide) ?_
                exact wG_exit (fun Q e => gQ_lv [0, 1, 2, 3, 4, 5, 6] rfl e)
      · refine wG_nmI (fun x7_26 => ?_)
        refine wG_istore C (L' := [(0, .ref (xB X + 111)), (1, .int x1_3), (2, .int x2_7), (3, .int x3_11), (4, .int x4_15), (5, .int x5_19), (6, .int x6_22), (7, .int x7_26)]) dX12_layWires_128 (by decide) [1, 2, 3, 4, 5, 6, 7, 0] rfl ?_
        refine wG_aload_n C dX12_layWires_130 0 rfl ?_
        refine wG_getR C fl_X12_81_8 rfl kd_111 (wll hN (by decide)) (rf_111_32 q) dX12_layWires_131 ?_
        refine wG_bipush C dX12_layWires_134 (v := 16) (by decide) ?_
        refine wG_iload C dX12_layWires_136 5 rfl ?_
        refine wG_imul C dX12_layWires_138 ?_
        refine wG_iload C dX12_layWires_139 6 rfl ?_
        refine wG_iadd C dX12_layWires_141 ?_
        refine wG_iload C dX12_layWires_142 7 rfl ?_
        refine wG_bipush C dX12_layWires_144 (v := (-9)) (by decide) ?_
        refine wG_bind (J := (fun (t_27 : (Int32 × Hp)) Q => gQ X 8 Q N t_27.2 (rq q) 0 0 175 [(0, .ref (xB X + 111)), (1, .int x1_3), (2, .int x2_7), (3, .int x3_11), (4, .int x4_15), (5, .int x5_19), (6, .int x6_22)] [.int t_27.1, .int ((16 * x5_19) + x6_22), .ref (xB X + 131)])) ?_ (fun t_27 => (?_ : wG X 8 _ _ N t_27.2 (rq q) 0 0 175 [(0, .ref (xB X + 111)), (1, .int x1_3), (2, .int x2_7), (3, .int x3_11), (4, .int x4_15), (5, .int x5_19), (6, .int x6_22)] [.int t_27.1, .int ((16 * x5_19) + x6_22), .ref (xB X + 131)]))
        · refine wG_icmp_eq C dX12_layWires_146 ?_ ?_
          · refine wG_aload_n C dX12_layWires_164 0 rfl ?_
            refine wG_iload_n C dX12_layWires_165 3 rfl ?_
            refine wG_iload C dX12_layWires_166 4 rfl ?_
            refine wG_iload_n C dX12_layWires_168 1 rfl ?_
            refine wG_iload_n C dX12_layWires_169 2 rfl ?_
            refine wG_iload C dX12_layWires_170 6 rfl ?_
            refine wG_cV_wi [.int x3_11, .int x4_15, .int x1_3, .int x2_7, .int x6_22] [.int ((16 * x5_19) + x6_22), .ref (xB X + 131)] C vw_X12_278 (c_X12_bestWire (xl X) (xE X) N q hN h_23 x3_11 x4_15 x1_3 x2_7 x6_22) kd_111 (wll hN (by decide)) (by decide) rfl rfl (Nat.le_of_ble_eq_true rfl) dX12_layWires_172 (cl' := 0) (sl' := 0) rfl rfl (fun u_28 => ?_)
            exact wG_exit (fun Q e => gQ_lv [0, 1, 2, 3, 4, 5, 6] rfl e)
          · refine wG_aload_n C dX12_layWires_149 0 rfl ?_
            refine wG_iload C dX12_layWires_150 5 rfl ?_
            refine wG_iload C dX12_layWires_152 7 rfl ?_
            refine wG_cV_ri [.int x5_19, .int x7_26] [.int ((16 * x5_19) + x6_22), .ref (xB X + 131)] C vw_X12_274 (c_X12_isAsk (xl X) (xE X) N q hN h_23 x5_19 x7_26) kd_111 (wll hN (by decide)) (by decide) rfl rfl (Nat.le_of_ble_eq_true rfl) dX12_layWires_154 (cl' := 0) (sl' := 0) rfl rfl (fun u_29 => ?_)
            refine wG_if_eq C dX12_layWires_157 ?_ ?_
            · refine wG_aload_n C dX12_layWires_164 0 rfl ?_
              refine wG_iload_n C dX12_layWires_165 3 rfl ?_
              refine wG_iload C dX12_layWires_166 4 rfl ?_
              refine wG_iload_n C dX12_layWires_168 1 rfl ?_
              refine wG_iload_n C dX12_layWires_169 2 rfl ?_
              refine wG_iload C dX12_layWires_170 6 rfl ?_
              refine wG_cV_wi [.int x3_11, .int x4_15, .int x1_3, .int x2_7, .int x6_22] [.int ((16 * x5_19) + x6_22), .ref (xB X + 131)] C vw_X12_278 (c_X12_bestWire (xl X) (xE X) N q hN h_23 x3_11 x4_15 x1_3 x2_7 x6_22) kd_111 (wll hN (by decide)) (by decide) rfl rfl (Nat.le_of_ble_eq_true rfl) dX12_layWires_172 (cl' := 0) (sl' := 0) rfl rfl (fun u_30 => ?_)
              exact wG_exit (fun Q e => gQ_lv [0, 1, 2, 3, 4, 5, 6] rfl e)
            · refine wG_iconst C dX12_layWires_160 (v := 0) (by decide) ?_
              refine wG_goto C dX12_layWires_161 ?_
              exact wG_exit (fun Q e => gQ_lv [0, 1, 2, 3, 4, 5, 6] rfl e)
        · refine wG_iast C kd_131 (wll hN (by decide)) ln_131 dX12_layWires_175 (fun h_31 => ?_)
          refine wG_iinc C (v := 1) (LL := fun x6_32 => [(0, .ref (xB X + 111)), (1, .int x1_3), (2, .int x2_7), (3, .int x3_11), (4, .int x4_15), (5, .int x5_19), (6, .int x6_32)]) dX12_layWires_176 6 rfl (by decide) (by decide) [1, 2, 3, 4, 5, 6, 0] (fun _ => rfl) (fun x6_32 => ?_)
          refine wG_goto C dX12_layWires_179 ?_
          exact wG_lv [0, 1, 2, 3, 4, 5, 6] rfl (ih x6_32 h_31)
set_option maxRecDepth 4000 in
theorem wL_X12_layWires_39 {X : wX} (C : Cx X yX12_layWires cX12_layWires 8 none rm_X12_layWires) {N : Nat} {q : Qp} (hN : 137 ≤ N) (h : Hp) (u_1 : Hp) (x1_2 : Int32) (x1_3 : Int32) (h_4 : Hp) (x2_6 : Int32) (x2_7 : Int32) (h_8 : Hp) (x3_10 : Int32) (x3_11 : Int32) (h_12 : Hp) (x4_14 : Int32) : ∀ n x4_15 h_16, wG X 8 (fun (t_17 : Hp) Q => gQ X 8 Q N t_17 (rq q) 0 0 188 [(0, .ref (xB X + 111)), (1, .int x1_3), (2, .int x2_7), (3, .int x3_11)] []) (L_X12_layWires_39 x1_3 x2_7 x3_11 n x4_15 h_16) N h_16 (rq q) 0 0 39 [(0, .ref (xB X + 111)), (1, .int x1_3), (2, .int x2_7), (3, .int x3_11), (4, .int x4_15)] [] := by
  intro n
  induction n with
  | zero => intro _ _; exact wG_none
  | succ n ih =>
    intro x4_15 h_16
    refine wG_of (L_X12_layWires_39.eq_2 ..) ?_
    refine wG_iload C dX12_layWires_39 4 rfl ?_
    refine wG_iload_n C dX12_layWires_41 2 rfl ?_
    refine wG_iadd C dX12_layWires_42 ?_
    refine wG_aload_n C dX12_layWires_43 0 rfl ?_
    refine wG_getI C fl_X12_23_8 rfl kd_111 (wll hN (by decide)) dX12_layWires_44 ?_
    refine wG_icmp_gt C dX12_layWires_47 ?_ ?_
    · exact wG_exit (fun Q e => gQ_lv [0, 1, 2, 3] rfl e)
    · refine wG_iload_n C dX12_layWires_50 3 rfl ?_
      refine wG_iload C dX12_layWires_51 4 rfl ?_
      refine wG_iload_n C dX12_layWires_53 1 rfl ?_
      refine wG_iload_n C dX12_layWires_54 2 rfl ?_
      refine wG_cS_ri [.int x3_11, .int x4_15, .int x1_3, .int x2_7] [] C sw_X12_265 (c_X12_block (xl X) (xE X) N q hN h_16 x3_11 x4_15 x1_3 x2_7) (by decide) rfl rfl (Nat.le_of_ble_eq_true rfl) dX12_layWires_55 (cl' := 0) (sl' := 0) rfl rfl (fun u_18 => ?_)
      refine wG_nmI (fun x5_19 => ?_)
      refine wG_istore C (L' := [(0, .ref (xB X + 111)), (1, .int x1_3), (2, .int x2_7), (3, .int x3_11), (4, .int x4_15), (5, .int x5_19)]) dX12_layWires_58 (by decide) [1, 2, 3, 4, 5, 0] rfl ?_
      refine wG_aload_n C dX12_layWires_60 0 rfl ?_
      refine wG_getR C fl_X12_81_8 rfl kd_111 (wll hN (by decide)) (rf_111_32 q) dX12_layWires_61 ?_
      refine wG_bipush C dX12_layWires_64 (v := 16) (by decide) ?_
      refine wG_iload C dX12_layWires_66 5 rfl ?_
      refine wG_imul C dX12_layWires_68 ?_
      refine wG_iconst C dX12_layWires_69 (v := 0) (by decide) ?_
      refine wG_iast C kd_131 (wll hN (by decide)) ln_131 dX12_layWires_70 (fun h_20 => ?_)
      refine wG_iconst C dX12_layWires_71 (v := 1) (by decide) ?_
      refine wG_nmI (fun x6_21 => ?_)
      refine wG_istore C (L' := [(0, .ref (xB X + 111)), (1, .int x1_3), (2, .int x2_7), (3, .int x3_11), (4, .int x4_15), (5, .int x5_19), (6, .int x6_21)]) dX12_layWires_72 (by decide) [1, 2, 3, 4, 5, 6, 0] rfl ?_
      refine wG_lv (L' := [(0, .ref (xB X + 111)), (1, .int x1_3), (2, .int x2_7), (3, .int x3_11), (4, .int x4_15), (5, .int x5_19), (6, .int x6_21)]) [0, 1, 2, 3, 4, 5, 6] rfl ?_
      refine wG_bind (wL_X12_layWires_74 C hN h u_1 x1_2 x1_3 h_4 x2_6 x2_7 h_8 x3_10 x3_11 h_12 x4_14 x4_15 h_16 u_18 x5_19 h_20 x6_21 FU x6_21 h_20) (fun t_24 => (?_ : wG X 8 _ _ N t_24 (rq q) 0 0 182 [(0, .ref (xB X + 111)), (1, .int x1_3), (2, .int x2_7), (3, .int x3_11), (4, .int x4_15)] []))
      refine wG_iinc C (v := 1) (LL := fun x4_33 => [(0, .ref (xB X + 111)), (1, .int x1_3), (2, .int x2_7), (3, .int x3_11), (4, .int x4_33)]) dX12_layWires_182 4 rfl (by decide) (by decide) [1, 2, 3, 4, 0] (fun _ => rfl) (fun x4_33 => ?_)
      refine wG_goto C dX12_layWires_185 ?_
      exact wG_lv [0, 1, 2, 3, 4] rfl (ih x4_33 t_24)
set_option maxRecDepth 4000 in
theorem wL_X12_layWires_26 {X : wX} (C : Cx X yX12_layWires cX12_layWires 8 none rm_X12_layWires) {N : Nat} {q : Qp} (hN : 137 ≤ N) (h : Hp) (u_1 : Hp) (x1_2 : Int32) (x1_3 : Int32) (h_4 : Hp) (x2_6 : Int32) (x2_7 : Int32) (h_8 : Hp) (x3_10 : Int32) : ∀ n x3_11 h_12, wG X 8 (fun (t_13 : Hp) Q => gQ X 8 Q N t_13 (rq q) 0 0 194 [(0, .ref (xB X + 111)), (1, .int x1_3), (2, .int x2_7)] []) (L_X12_layWires_26 x1_3 x2_7 n x3_11 h_12) N h_12 (rq q) 0 0 26 [(0, .ref (xB X + 111)), (1, .int x1_3), (2, .int x2_7), (3, .int x3_11)] [] := by
  intro n
  induction n with
  | zero => intro _ _; exact wG_none
  | succ n ih =>
    intro x3_11 h_12
    refine wG_of (L_X12_layWires_26.eq_2 ..) ?_
    refine wG_iload_n C dX12_layWires_26 3 rfl ?_
    refine wG_iload_n C dX12_layWires_27 1 rfl ?_
    refine wG_iadd C dX12_layWires_28 ?_
    refine wG_aload_n C dX12_layWires_29 0 rfl ?_
    refine wG_getI C fl_X12_20_8 rfl kd_111 (wll hN (by decide)) dX12_layWires_30 ?_
    refine wG_icmp_gt C dX12_layWires_33 ?_ ?_
    · exact wG_exit (fun Q e => gQ_lv [0, 1, 2] rfl e)
    · refine wG_iconst C dX12_layWires_36 (v := 0) (by decide) ?_
      refine wG_nmI (fun x4_14 => ?_)
      refine wG_istore C (L' := [(0, .ref (xB X + 111)), (1, .int x1_3), (2, .int x2_7), (3, .int x3_11), (4, .int x4_14)]) dX12_layWires_37 (by decide) [1, 2, 3, 4, 0] rfl ?_
      refine wG_lv (L' := [(0, .ref (xB X + 111)), (1, .int x1_3), (2, .int x2_7), (3, .int x3_11), (4, .int x4_14)]) [0, 1, 2, 3, 4] rfl ?_
      refine wG_bind (wL_X12_layWires_39 C hN h u_1 x1_2 x1_3 h_4 x2_6 x2_7 h_8 x3_10 x3_11 h_12 x4_14 FU x4_14 h_12) (fun t_17 => (?_ : wG X 8 _ _ N t_17 (rq q) 0 0 188 [(0, .ref (xB X + 111)), (1, .int x1_3), (2, .int x2_7), (3, .int x3_11)] []))
      refine wG_iinc C (v := 1) (LL := fun x3_34 => [(0, .ref (xB X + 111)), (1, .int x1_3), (2, .int x2_7), (3, .int x3_34)]) dX12_layWires_188 3 rfl (by decide) (by decide) [1, 2, 3, 0] (fun _ => rfl) (fun x3_34 => ?_)
      refine wG_goto C dX12_layWires_191 ?_
      exact wG_lv [0, 1, 2, 3] rfl (ih x3_34 t_17)
set_option maxRecDepth 4000 in
theorem wL_X12_layWires_16 {X : wX} (C : Cx X yX12_layWires cX12_layWires 8 none rm_X12_layWires) {N : Nat} {q : Qp} (hN : 137 ≤ N) (h : Hp) (u_1 : Hp) (x1_2 : Int32) (x1_3 : Int32) (h_4 : Hp) (x2_6 : Int32) : ∀ n x2_7 h_8, wG X 8 (fun (t_9 : Hp) Q => gQ X 8 Q N t_9 (rq q) 0 0 200 [(0, .ref (xB X + 111)), (1, .int x1_3)] []) (L_X12_layWires_16 x1_3 n x2_7 h_8) N h_8 (rq q) 0 0 16 [(0, .ref (xB X + 111)), (1, .int x1_3), (2, .int x2_7)] [] := by
  intro n
  induction n with
  | zero => intro _ _; exact wG_none
  | succ n ih =>
    intro x2_7 h_8
    refine wG_of (L_X12_layWires_16.eq_2 ..) ?_
    refine wG_iload_n C dX12_layWires_16 2 rfl ?_
    refine wG_aload_n C dX12_layWires_17 0 rfl ?_
    refine wG_getI C fl_X12_23_8 rfl kd_111 (wll hN (by decide)) dX12_layWires_18 ?_
    refine wG_icmp_gt C dX12_layWires_21 ?_ ?_
    · exact wG_exit (fun Q e => gQ_lv [0, 1] rfl e)
    · refine wG_iconst C dX12_layWires_24 (v := 0) (by decide) ?_
      refine wG_nmI (fun x3_10 => ?_)
      refine wG_istore_n C (L' := [(0, .ref (xB X + 111)), (1, .int x1_3), (2, .int x2_7), (3, .int x3_10)]) dX12_layWires_25 (by decide) [1, 2, 3, 0] rfl ?_
      refine wG_lv (L' := [(0, .ref (xB X + 111)), (1, .int x1_3), (2, .int x2_7), (3, .int x3_10)]) [0, 1, 2, 3] rfl ?_
      refine wG_bind (wL_X12_layWires_26 C hN h u_1 x1_2 x1_3 h_4 x2_6 x2_7 h_8 x3_10 FU x3_10 h_8) (fun t_13 => (?_ : wG X 8 _ _ N t_13 (rq q) 0 0 194 [(0, .ref (xB X + 111)), (1, .int x1_3), (2, .int x2_7)] []))
      refine wG_iinc C (v := 1) (LL := fun x2_35 => [(0, .ref (xB X + 111)), (1, .int x1_3), (2, .int x2_35)]) dX12_layWires_194 2 rfl (by decide) (by decide) [1, 2, 0] (fun _ => rfl) (fun x2_35 => ?_)
      refine wG_goto C dX12_layWires_197 ?_
      exact wG_lv [0, 1, 2] rfl (ih x2_35 t_13)
set_option maxRecDepth 4000 in
theorem wL_X12_layWires_6 {X : wX} (C : Cx X yX12_layWires cX12_layWires 8 none rm_X12_layWires) {N : Nat} {q : Qp} (hN : 137 ≤ N) (h : Hp) (u_1 : Hp) (x1_2 : Int32) : ∀ n x1_3 h_4, wG X 8 (fun (t_5 : Hp) Q => gQ X 8 Q N t_5 (rq q) 0 0 206 [] []) (L_X12_layWires_6 n x1_3 h_4) N h_4 (rq q) 0 0 6 [(0, .ref (xB X + 111)), (1, .int x1_3)] [] := by
  intro n
  induction n with
  | zero => intro _ _; exact wG_none
  | succ n ih =>
    intro x1_3 h_4
    refine wG_of (L_X12_layWires_6.eq_2 ..) ?_
    refine wG_iload_n C dX12_layWires_6 1 rfl ?_
    refine wG_aload_n C dX12_layWires_7 0 rfl ?_
    refine wG_getI C fl_X12_20_8 rfl kd_111 (wll hN (by decide)) dX12_layWires_8 ?_
    refine wG_icmp_gt C dX12_layWires_11 ?_ ?_
    · exact wG_exit (fun Q e => gQ_lv [] rfl e)
    · refine wG_iconst C dX12_layWires_14 (v := 1) (by decide) ?_
      refine wG_nmI (fun x2_6 => ?_)
      refine wG_istore_n C (L' := [(0, .ref (xB X + 111)), (1, .int x1_3), (2, .int x2_6)]) dX12_layWires_15 (by decide) [1, 2, 0] rfl ?_
      refine wG_lv (L' := [(0, .ref (xB X + 111)), (1, .int x1_3), (2, .int x2_6)]) [0, 1, 2] rfl ?_
      refine wG_bind (wL_X12_layWires_16 C hN h u_1 x1_2 x1_3 h_4 x2_6 FU x2_6 h_4) (fun t_9 => (?_ : wG X 8 _ _ N t_9 (rq q) 0 0 200 [(0, .ref (xB X + 111)), (1, .int x1_3)] []))
      refine wG_iinc C (v := 1) (LL := fun x1_36 => [(0, .ref (xB X + 111)), (1, .int x1_36)]) dX12_layWires_200 1 rfl (by decide) (by decide) [1, 0] (fun _ => rfl) (fun x1_36 => ?_)
      refine wG_goto C dX12_layWires_203 ?_
      exact wG_lv [0, 1] rfl (ih x1_36 t_9)
set_option maxRecDepth 4000 in
theorem w_X12_layWires {X : wX} (C : Cx X yX12_layWires cX12_layWires 8 none rm_X12_layWires) {N : Nat} {q : Qp} (hN : 137 ≤ N) (h : Hp) : wG X 8 (eM X (fun u => (none, N, u, (rq q)))) (f_X12_layWires h) N h (rq q) 0 0 0 [(0, .ref (xB X + 111))] [] := by
  refine wG_of (f_X12_layWires.eq_1 ..) ?_
  refine wG_aload_n C dX12_layWires_0 0 rfl ?_
  refine wG_cV_wv [] [] C vw_X12_271 (c_X12_layBlocks (xl X) (xE X) N q hN h) kd_111 (wll hN (by decide)) (by decide) rfl rfl (Nat.le_of_ble_eq_true rfl) dX12_layWires_1 (cl' := 0) (sl' := 0) rfl rfl (fun u_1 => ?_)
  refine wG_iconst C dX12_layWires_4 (v := 1) (by decide) ?_
  refine wG_nmI (fun x1_2 => ?_)
  refine wG_istore_n C (L' := [(0, .ref (xB X + 111)), (1, .int x1_2)]) dX12_layWires_5 (by decide) [1, 0] rfl ?_
  refine wG_lv (L' := [(0, .ref (xB X + 111)), (1, .int x1_2)]) [0, 1] rfl ?_
  refine wG_bind (wL_X12_layWires_6 C hN h u_1 x1_2 FU x1_2 u_1) (fun t_5 => (?_ : wG X 8 _ _ N t_5 (rq q) 0 0 206 [] []))
  exact wG_vret C dX12_layWires_206 ⟨by decide, by decide⟩ (fun _ e => e)
theorem c_X12_layWires (l : Launch) (E : wE) (N : Nat) (q : Qp) (hN : 137 ≤ N) (h : Hp) : ∀ z, f_X12_layWires h = some z → CT l E yX12_layWires cX12_layWires 8 none rm_X12_layWires [.ref (eB E + 111)] N h (rq q) ((fun u => (none, N, u, (rq q))) z) := CT.of (by decide +kernel) (Nat.le_of_ble_eq_true rfl) (fun X _ e C => by subst e; exact w_X12_layWires C hN h)
def rm_X12_wholeWire : Room := { frames := 3, cells := 0, slots := 0, locals := 82 }
def f_X12_wholeWire (h : Hp) : Option (Int32 × Hp) :=
  (f_X12_layWires h).bind fun u_1 =>
  (f_X12_block 0 0 (u_1 111 4) (u_1 111 5)).bind fun u_2 =>
  if inB (((16 * u_2) + ((1 : Int32) <<< ((u_1 111 26) &&& 31))) - 1) 20736 then
  some ((u_1 131 (ix (((16 * u_2) + ((1 : Int32) <<< ((u_1 111 26) &&& 31))) - 1))), u_1) else none
set_option maxRecDepth 4000 in
theorem w_X12_wholeWire {X : wX} (C : Cx X yX12_wholeWire cX12_wholeWire 1 (some .int) rm_X12_wholeWire) {N : Nat} {q : Qp} (hN : 137 ≤ N) (h : Hp) : wG X 1 (eM X (fun u => (some (.int u.1), N, u.2, (rq q)))) (f_X12_wholeWire h) N h (rq q) 0 0 0 [(0, .ref (xB X + 111))] [] := by
  refine wG_of (f_X12_wholeWire.eq_1 ..) ?_
  refine wG_aload_n C dX12_wholeWire_0 0 rfl ?_
  refine wG_cV_wv [] [] C vw_X12_281 (c_X12_layWires (xl X) (xE X) N q hN h) kd_111 (wll hN (by decide)) (by decide) rfl rfl (Nat.le_of_ble_eq_true rfl) dX12_wholeWire_1 (cl' := 0) (sl' := 0) rfl rfl (fun u_1 => ?_)
  refine wG_aload_n C dX12_wholeWire_4 0 rfl ?_
  refine wG_getR C fl_X12_81_8 rfl kd_111 (wll hN (by decide)) (rf_111_32 q) dX12_wholeWire_5 ?_
  refine wG_bipush C dX12_wholeWire_8 (v := 16) (by decide) ?_
  refine wG_iconst C dX12_wholeWire_10 (v := 0) (by decide) ?_
  refine wG_iconst C dX12_wholeWire_11 (v := 0) (by decide) ?_
  refine wG_aload_n C dX12_wholeWire_12 0 rfl ?_
  refine wG_getI C fl_X12_20_8 rfl kd_111 (wll hN (by decide)) dX12_wholeWire_13 ?_
  refine wG_aload_n C dX12_wholeWire_16 0 rfl ?_
  refine wG_getI C fl_X12_23_8 rfl kd_111 (wll hN (by decide)) dX12_wholeWire_17 ?_
  refine wG_cS_ri [.int 0, .int 0, .int (u_1 111 4), .int (u_1 111 5)] [.int 16, .ref (xB X + 131)] C sw_X12_265 (c_X12_block (xl X) (xE X) N q hN u_1 0 0 (u_1 111 4) (u_1 111 5)) (by decide) rfl rfl (Nat.le_of_ble_eq_true rfl) dX12_wholeWire_20 (cl' := 0) (sl' := 0) rfl rfl (fun u_2 => ?_)
  refine wG_imul C dX12_wholeWire_23 ?_
  refine wG_iconst C dX12_wholeWire_24 (v := 1) (by decide) ?_
  refine wG_aload_n C dX12_wholeWire_25 0 rfl ?_
  refine wG_getI C fl_X12_262_8 rfl kd_111 (wll hN (by decide)) dX12_wholeWire_26 ?_
  refine wG_ishl C dX12_wholeWire_29 ?_
  refine wG_iadd C dX12_wholeWire_30 ?_
  refine wG_iconst C dX12_wholeWire_31 (v := 1) (by decide) ?_
  refine wG_isub C dX12_wholeWire_32 ?_
  refine wG_iald C kd_131 (wll hN (by decide)) ln_131 dX12_wholeWire_33 ?_
  exact wG_iret C dX12_wholeWire_34 ⟨by decide, by decide⟩ (fun _ e => e)
theorem c_X12_wholeWire (l : Launch) (E : wE) (N : Nat) (q : Qp) (hN : 137 ≤ N) (h : Hp) : ∀ z, f_X12_wholeWire h = some z → CT l E yX12_wholeWire cX12_wholeWire 1 (some .int) rm_X12_wholeWire [.ref (eB E + 111)] N h (rq q) ((fun u => (some (.int u.1), N, u.2, (rq q))) z) := CT.of (by decide +kernel) (Nat.le_of_ble_eq_true rfl) (fun X _ e C => by subst e; exact w_X12_wholeWire C hN h)
def rm_X12_whole : Room := { frames := 4, cells := 0, slots := 0, locals := 102 }
def f_X12_whole (h : Hp) : Option (Int32 × Hp) :=
  vB (u2 h 111 0 0) fun h_1 =>
  (f_X12_wholeWire h_1).bind fun u_2 =>
  vB u_2.1 fun (x1_3 : Int32) =>
  (if (1000000 : Int32) ≤ x1_3 then
  some ((-9), u_2.2)
  else
  some (x1_3, u_2.2))
set_option maxRecDepth 4000 in
theorem w_X12_whole {X : wX} (C : Cx X yX12_whole cX12_whole 2 (some .int) rm_X12_whole) {N : Nat} {q : Qp} (hN : 137 ≤ N) (h : Hp) : wG X 2 (eM X (fun u => (some (.int u.1), N, u.2, (rq q)))) (f_X12_whole h) N h (rq q) 0 0 0 [(0, .ref (xB X + 111))] [] := by
  refine wG_of (f_X12_whole.eq_1 ..) ?_
  refine wG_aload_n C dX12_whole_0 0 rfl ?_
  refine wG_iconst C dX12_whole_1 (v := 0) (by decide) ?_
  refine wG_putI C fl_X12_1_8 (fp_8_0 _) (fun e => Bool.noConfusion e) rfl kd_111 (wll hN (by decide)) dX12_whole_2 (fun h_1 => ?_)
  refine wG_aload_n C dX12_whole_5 0 rfl ?_
  refine wG_cV_wi [] [] C vw_X12_284 (c_X12_wholeWire (xl X) (xE X) N q hN h_1) kd_111 (wll hN (by decide)) (by decide) rfl rfl (Nat.le_of_ble_eq_true rfl) dX12_whole_6 (cl' := 0) (sl' := 0) rfl rfl (fun u_2 => ?_)
  refine wG_nmI (fun x1_3 => ?_)
  refine wG_istore_n C (L' := [(1, .int x1_3)]) dX12_whole_9 (by decide) [0] rfl ?_
  refine wG_iload_n C dX12_whole_10 0 rfl ?_
  refine wG_ldc C dX12_whole_11 m_1292 ?_
  refine wG_icmp_ge C dX12_whole_13 ?_ ?_
  · refine wG_bipush C dX12_whole_20 (v := (-9)) (by decide) ?_
    exact wG_iret C dX12_whole_22 ⟨by decide, by decide⟩ (fun _ e => e)
  · refine wG_iload_n C dX12_whole_16 0 rfl ?_
    refine wG_goto C dX12_whole_17 ?_
    exact wG_iret C dX12_whole_22 ⟨by decide, by decide⟩ (fun _ e => e)
theorem c_X12_whole (l : Launch) (E : wE) (N : Nat) (q : Qp) (hN : 137 ≤ N) (h : Hp) : ∀ z, f_X12_whole h = some z → CT l E yX12_whole cX12_whole 2 (some .int) rm_X12_whole [.ref (eB E + 111)] N h (rq q) ((fun u => (some (.int u.1), N, u.2, (rq q))) z) := CT.of (by decide +kernel) (Nat.le_of_ble_eq_true rfl) (fun X _ e C => by subst e; exact w_X12_whole C hN h)
def rm_X12_first : Room := { frames := 4, cells := 0, slots := 0, locals := 102 }
def f_X12_first (h : Hp) : Option (Int32 × Hp) :=
  vB (u2 h 111 0 0) fun h_1 =>
  (f_X12_wholeWire h_1).bind fun u_2 =>
  vB u_2.1 fun (x1_3 : Int32) =>
  (if x1_3 = 0 then
  some ((-9), u_2.2)
  else
  (if x1_3 < 1000000 then
  (f_X12_bestWire u_2.2 0 0 (u_2.2 111 4) (u_2.2 111 5) (((1 : Int32) <<< ((u_2.2 111 26) &&& 31)) - 1)).bind fun u_4 =>
  some ((u_4.2 111 34), u_4.2)
  else
  some ((-9), u_2.2)))
set_option maxRecDepth 4000 in
theorem w_X12_first {X : wX} (C : Cx X yX12_first cX12_first 2 (some .int) rm_X12_first) {N : Nat} {q : Qp} (hN : 137 ≤ N) (h : Hp) : wG X 2 (eM X (fun u => (some (.int u.1), N, u.2, (rq q)))) (f_X12_first h) N h (rq q) 0 0 0 [(0, .ref (xB X + 111))] [] := by
  refine wG_of (f_X12_first.eq_1 ..) ?_
  refine wG_aload_n C dX12_first_0 0 rfl ?_
  refine wG_iconst C dX12_first_1 (v := 0) (by decide) ?_
  refine wG_putI C fl_X12_1_8 (fp_8_0 _) (fun e => Bool.noConfusion e) rfl kd_111 (wll hN (by decide)) dX12_first_2 (fun h_1 => ?_)
  refine wG_aload_n C dX12_first_5 0 rfl ?_
  refine wG_cV_wi [] [] C vw_X12_284 (c_X12_wholeWire (xl X) (xE X) N q hN h_1) kd_111 (wll hN (by decide)) (by decide) rfl rfl (Nat.le_of_ble_eq_true rfl) dX12_first_6 (cl' := 0) (sl' := 0) rfl rfl (fun u_2 => ?_)
  refine wG_nmI (fun x1_3 => ?_)
  refine wG_istore_n C (L' := [(0, .ref (xB X + 111)), (1, .int x1_3)]) dX12_first_9 (by decide) [1, 0] rfl ?_
  refine wG_iload_n C dX12_first_10 1 rfl ?_
  refine wG_if_eq C dX12_first_11 ?_ ?_
  · refine wG_bipush C dX12_first_20 (v := (-9)) (by decide) ?_
    exact wG_iret C dX12_first_22 ⟨by decide, by decide⟩ (fun _ e => e)
  · refine wG_iload_n C dX12_first_14 1 rfl ?_
    refine wG_ldc C dX12_first_15 m_1292 ?_
    refine wG_icmp_lt C dX12_first_17 ?_ ?_
    · refine wG_aload_n C dX12_first_23 0 rfl ?_
      refine wG_iconst C dX12_first_24 (v := 0) (by decide) ?_
      refine wG_iconst C dX12_first_25 (v := 0) (by decide) ?_
      refine wG_aload_n C dX12_first_26 0 rfl ?_
      refine wG_getI C fl_X12_20_8 rfl kd_111 (wll hN (by decide)) dX12_first_27 ?_
      refine wG_aload_n C dX12_first_30 0 rfl ?_
      refine wG_getI C fl_X12_23_8 rfl kd_111 (wll hN (by decide)) dX12_first_31 ?_
      refine wG_iconst C dX12_first_34 (v := 1) (by decide) ?_
      refine wG_aload_n C dX12_first_35 0 rfl ?_
      refine wG_getI C fl_X12_262_8 rfl kd_111 (wll hN (by decide)) dX12_first_36 ?_
      refine wG_ishl C dX12_first_39 ?_
      refine wG_iconst C dX12_first_40 (v := 1) (by decide) ?_
      refine wG_isub C dX12_first_41 ?_
      refine wG_cV_wi [.int 0, .int 0, .int (u_2.2 111 4), .int (u_2.2 111 5), .int (((1 : Int32) <<< ((u_2.2 111 26) &&& 31)) - 1)] [] C vw_X12_278 (c_X12_bestWire (xl X) (xE X) N q hN u_2.2 0 0 (u_2.2 111 4) (u_2.2 111 5) (((1 : Int32) <<< ((u_2.2 111 26) &&& 31)) - 1)) kd_111 (wll hN (by decide)) (by decide) rfl rfl (Nat.le_of_ble_eq_true rfl) dX12_first_42 (cl' := 0) (sl' := 0) rfl rfl (fun u_4 => ?_)
      refine wG_pop C dX12_first_45 rfl ?_
      refine wG_aload_n C dX12_first_46 0 rfl ?_
      refine wG_getI C fl_X12_268_8 rfl kd_111 (wll hN (by decide)) dX12_first_47 ?_
      exact wG_iret C dX12_first_50 ⟨by decide, by decide⟩ (fun _ e => e)
    · refine wG_bipush C dX12_first_20 (v := (-9)) (by decide) ?_
      exact wG_iret C dX12_first_22 ⟨by decide, by decide⟩ (fun _ e => e)
theorem c_X12_first (l : Launch) (E : wE) (N : Nat) (q : Qp) (hN : 137 ≤ N) (h : Hp) : ∀ z, f_X12_first h = some z → CT l E yX12_first cX12_first 2 (some .int) rm_X12_first [.ref (eB E + 111)] N h (rq q) ((fun u => (some (.int u.1), N, u.2, (rq q))) z) := CT.of (by decide +kernel) (Nat.le_of_ble_eq_true rfl) (fun X _ e C => by subst e; exact w_X12_first C hN h)
def rm_X12_meets : Room := { frames := 0, cells := 0, slots := 0, locals := 0 }
def f_X12_meets (x0 : Int32) (x1 : Int32) : Option Int32 :=
  ((if ((x0 / 1000) + ((x0 / 10) - (x0 / 10) / 10 * 10)) ≤ (x1 / 1000) then
  some 1
  else
  (if (x0 / 1000) < ((x1 / 1000) + ((x1 / 10) - (x1 / 10) / 10 * 10)) then
  some 0
  else
  some 1))).bind fun t_1 =>
  vB t_1 fun (x2_2 : Int32) =>
  (if x2_2 = 0 then
  (if (((x0 / 100) - (x0 / 100) / 10 * 10) + (x0 - x0 / 10 * 10)) ≤ ((x1 / 100) - (x1 / 100) / 10 * 10) then
  some 0
  else
  (if (((x1 / 100) - (x1 / 100) / 10 * 10) + (x1 - x1 / 10 * 10)) ≤ ((x0 / 100) - (x0 / 100) / 10 * 10) then
  some 0
  else
  some 1))
  else
  some 0)
set_option maxRecDepth 4000 in
theorem w_X12_meets {X : wX} (C : Cx X yX12_meets cX12_meets 3 (some .boolean) rm_X12_meets) {N : Nat} {q : Qp} (hN : 137 ≤ N) (h : Hp) (x0 : Int32) (x1 : Int32) : wG X 3 (eM X (fun u => (some (.int u), N, h, (rq q)))) (f_X12_meets x0 x1) N h (rq q) 0 0 0 [(0, .int x0), (1, .int x1)] [] := by
  refine wG_of (f_X12_meets.eq_1 ..) ?_
  refine wG_iload_n C dX12_meets_0 0 rfl ?_
  refine wG_sipush C dX12_meets_1 (v := 1000) (by decide) ?_
  refine wG_idivK C dX12_meets_4 (by decide) ?_
  refine wG_iload_n C dX12_meets_5 0 rfl ?_
  refine wG_bipush C dX12_meets_6 (v := 10) (by decide) ?_
  refine wG_idivK C dX12_meets_8 (by decide) ?_
  refine wG_bipush C dX12_meets_9 (v := 10) (by decide) ?_
  refine wG_iremK C dX12_meets_11 (by decide) ?_
  refine wG_iadd C dX12_meets_12 ?_
  refine wG_iload_n C dX12_meets_13 1 rfl ?_
  refine wG_sipush C dX12_meets_14 (v := 1000) (by decide) ?_
  refine wG_idivK C dX12_meets_17 (by decide) ?_
  refine wG_bind (J := (fun (t_1 : Int32) Q => gQ X 3 Q N h (rq q) 0 0 47 [(0, .int x0), (1, .int x1)] [.int t_1])) ?_ (fun t_1 => (?_ : wG X 3 _ _ N h (rq q) 0 0 47 [(0, .int x0), (1, .int x1)] [.int t_1]))
  · refine wG_icmp_le C dX12_meets_18 ?_ ?_
    · refine wG_iconst C dX12_meets_42 (v := 1) (by decide) ?_
      refine wG_goto C dX12_meets_43 ?_
      exact wG_exit (fun Q e => gQ_lv [0, 1] rfl e)
    · refine wG_iload_n C dX12_meets_21 1 rfl ?_
      refine wG_sipush C dX12_meets_22 (v := 1000) (by decide) ?_
      refine wG_idivK C dX12_meets_25 (by decide) ?_
      refine wG_iload_n C dX12_meets_26 1 rfl ?_
      refine wG_bipush C dX12_meets_27 (v := 10) (by decide) ?_
      refine wG_idivK C dX12_meets_29 (by decide) ?_
      refine wG_bipush C dX12_meets_30 (v := 10) (by decide) ?_
      refine wG_iremK C dX12_meets_32 (by decide) ?_
      refine wG_iadd C dX12_meets_33 ?_
      refine wG_iload_n C dX12_meets_34 0 rfl ?_
      refine wG_sipush C dX12_meets_35 (v := 1000) (by decide) ?_
      refine wG_idivK C dX12_meets_38 (by decide) ?_
      refine wG_icmp_gt C dX12_meets_39 ?_ ?_
      · refine wG_iconst C dX12_meets_46 (v := 0) (by decide) ?_
        exact wG_exit (fun Q e => gQ_lv [0, 1] rfl e)
      · refine wG_iconst C dX12_meets_42 (v := 1) (by decide) ?_
        refine wG_goto C dX12_meets_43 ?_
        exact wG_exit (fun Q e => gQ_lv [0, 1] rfl e)
  · refine wG_nmI (fun x2_2 => ?_)
    refine wG_istore_n C (L' := [(0, .int x0), (1, .int x1), (2, .int x2_2)]) dX12_meets_47 (by decide) [1, 2, 0] rfl ?_
    refine wG_iload_n C dX12_meets_48 2 rfl ?_
    refine wG_if_ne C dX12_meets_49 ?_ ?_
    · refine wG_iload_n C dX12_meets_52 0 rfl ?_
      refine wG_bipush C dX12_meets_53 (v := 100) (by decide) ?_
      refine wG_idivK C dX12_meets_55 (by decide) ?_
      refine wG_bipush C dX12_meets_56 (v := 10) (by decide) ?_
      refine wG_iremK C dX12_meets_58 (by decide) ?_
      refine wG_iload_n C dX12_meets_59 0 rfl ?_
      refine wG_bipush C dX12_meets_60 (v := 10) (by decide) ?_
      refine wG_iremK C dX12_meets_62 (by decide) ?_
      refine wG_iadd C dX12_meets_63 ?_
      refine wG_iload_n C dX12_meets_64 1 rfl ?_
      refine wG_bipush C dX12_meets_65 (v := 100) (by decide) ?_
      refine wG_idivK C dX12_meets_67 (by decide) ?_
      refine wG_bipush C dX12_meets_68 (v := 10) (by decide) ?_
      refine wG_iremK C dX12_meets_70 (by decide) ?_
      refine wG_icmp_le C dX12_meets_71 ?_ ?_
      · refine wG_iconst C dX12_meets_100 (v := 0) (by decide) ?_
        exact wG_zret C dX12_meets_101 rfl ⟨by decide, by decide⟩ (fun _ e => e)
      · refine wG_iload_n C dX12_meets_74 1 rfl ?_
        refine wG_bipush C dX12_meets_75 (v := 100) (by decide) ?_
        refine wG_idivK C dX12_meets_77 (by decide) ?_
        refine wG_bipush C dX12_meets_78 (v := 10) (by decide) ?_
        refine wG_iremK C dX12_meets_80 (by decide) ?_
        refine wG_iload_n C dX12_meets_81 1 rfl ?_
        refine wG_bipush C dX12_meets_82 (v := 10) (by decide) ?_
        refine wG_iremK C dX12_meets_84 (by decide) ?_
        refine wG_iadd C dX12_meets_85 ?_
        refine wG_iload_n C dX12_meets_86 0 rfl ?_
        refine wG_bipush C dX12_meets_87 (v := 100) (by decide) ?_
        refine wG_idivK C dX12_meets_89 (by decide) ?_
        refine wG_bipush C dX12_meets_90 (v := 10) (by decide) ?_
        refine wG_iremK C dX12_meets_92 (by decide) ?_
        refine wG_icmp_le C dX12_meets_93 ?_ ?_
        · refine wG_iconst C dX12_meets_100 (v := 0) (by decide) ?_
          exact wG_zret C dX12_meets_101 rfl ⟨by decide, by decide⟩ (fun _ e => e)
        · refine wG_iconst C dX12_meets_96 (v := 1) (by decide) ?_
          refine wG_goto C dX12_meets_97 ?_
          exact wG_zret C dX12_meets_101 rfl ⟨by decide, by decide⟩ (fun _ e => e)
    · refine wG_iconst C dX12_meets_100 (v := 0) (by decide) ?_
      exact wG_zret C dX12_meets_101 rfl ⟨by decide, by decide⟩ (fun _ e => e)
theorem c_X12_meets (l : Launch) (E : wE) (N : Nat) (q : Qp) (hN : 137 ≤ N) (h : Hp) (x0 : Int32) (x1 : Int32) : ∀ z, f_X12_meets x0 x1 = some z → CT l E yX12_meets cX12_meets 3 (some .boolean) rm_X12_meets [.int x0, .int x1] N h (rq q) ((fun u => (some (.int u), N, h, (rq q))) z) := CT.of (by decide +kernel) (Nat.le_of_ble_eq_true rfl) (fun X _ e C => by subst e; exact w_X12_meets C hN h x0 x1)
def rm_X12_goesThrough : Room := { frames := 1, cells := 0, slots := 0, locals := 22 }
def L_X12_goesThrough_100 (h : Hp) (x7_2 : Int32) (x8_4 : Int32) : Nat → Int32 → Int32 → Option Int32
  | 0, _, _ => none
  | n + 1, x9_7, x10_8 =>
    (if (h 111 35) ≤ x10_8 then
    some x9_7
    else
    ((if x9_7 = 0 then
    if inB x10_8 6 then
    (f_X12_meets x7_2 (h 133 (ix x10_8))).bind fun u_11 =>
    (if u_11 = 0 then
    some 0
    else
    if inB x10_8 6 then
    (f_X12_meets x8_4 (h 133 (ix x10_8))).bind fun u_12 =>
    (if u_12 = 0 then
    some 0
    else
    some 1) else none) else none
    else
    some 1)).bind fun t_10 =>
    vB t_10 fun (x9_13 : Int32) =>
    vB (x10_8 + 1) fun (x10_14 : Int32) =>
    L_X12_goesThrough_100 h x7_2 x8_4 n x9_13 x10_14)
def f_X12_goesThrough (h : Hp) (x1 : Int32) (x2 : Int32) (x3 : Int32) (x4 : Int32) (x5 : Int32) (x6 : Int32) : Option Int32 :=
  ((if x5 = 0 then
  some ((10 * x3) + x6)
  else
  some ((10 * x6) + x4))).bind fun t_1 =>
  vB (((1000 * x1) + (100 * x2)) + t_1) fun (x7_2 : Int32) =>
  ((if x5 = 0 then
  some (((((1000 * x1) + (100 * (x2 + x6))) + (10 * x3)) + x4) - x6)
  else
  some ((((1000 * (x1 + x6)) + (100 * x2)) + (10 * (x3 - x6))) + x4))).bind fun t_3 =>
  vB t_3 fun (x8_4 : Int32) =>
  vB 0 fun (x9_5 : Int32) =>
  vB 0 fun (x10_6 : Int32) =>
  (L_X12_goesThrough_100 h x7_2 x8_4 FU x9_5 x10_6).bind fun t_9 =>
  (if (t_9 = 0 ∨ t_9 = 1) then some t_9 else none)
set_option maxRecDepth 4000 in
theorem wL_X12_goesThrough_100 {X : wX} (C : Cx X yX12_goesThrough cX12_goesThrough 11 (some .boolean) rm_X12_goesThrough) {N : Nat} {q : Qp} (hN : 137 ≤ N) (h : Hp) (x1 : Int32) (x2 : Int32) (x3 : Int32) (x4 : Int32) (x5 : Int32) (x6 : Int32) (t_1 : Int32) (x7_2 : Int32) (t_3 : Int32) (x8_4 : Int32) (x9_5 : Int32) (x10_6 : Int32) : ∀ n x9_7 x10_8, wG X 11 (fun (t_9 : Int32) Q => gQ X 11 Q N h (rq q) 0 0 157 [(9, .int t_9)] []) (L_X12_goesThrough_100 h x7_2 x8_4 n x9_7 x10_8) N h (rq q) 0 0 100 [(0, .ref (xB X + 111)), (7, .int x7_2), (8, .int x8_4), (9, .int x9_7), (10, .int x10_8)] [] := by
  intro n
  induction n with
  | zero => intro _ _; exact wG_none
  | succ n ih =>
    intro x9_7 x10_8
    refine wG_of (L_X12_goesThrough_100.eq_2 ..) ?_
    refine wG_iload C dX12_goesThrough_100 4 rfl ?_
    refine wG_aload_n C dX12_goesThrough_102 0 rfl ?_
    refine wG_getI C fl_X12_137_8 rfl kd_111 (wll hN (by decide)) dX12_goesThrough_103 ?_
    refine wG_icmp_ge C dX12_goesThrough_106 ?_ ?_
    · exact wG_exit (fun Q e => gQ_lv [3] rfl e)
    · refine wG_iload C dX12_goesThrough_109 3 rfl ?_
      refine wG_bind (J := (fun (t_10 : Int32) Q => gQ X 11 Q N h (rq q) 0 0 149 [(0, .ref (xB X + 111)), (7, .int x7_2), (8, .int x8_4), (10, .int x10_8)] [.int t_10])) ?_ (fun t_10 => (?_ : wG X 11 _ _ N h (rq q) 0 0 149 [(0, .ref (xB X + 111)), (7, .int x7_2), (8, .int x8_4), (10, .int x10_8)] [.int t_10]))
      · refine wG_if_ne C dX12_goesThrough_111 ?_ ?_
        · refine wG_iload C dX12_goesThrough_114 1 rfl ?_
          refine wG_aload_n C dX12_goesThrough_116 0 rfl ?_
          refine wG_getR C fl_X12_87_8 rfl kd_111 (wll hN (by decide)) (rf_111_36 q) dX12_goesThrough_117 ?_
          refine wG_iload C dX12_goesThrough_120 4 rfl ?_
          refine wG_iald C kd_133 (wll hN (by decide)) ln_133 dX12_goesThrough_122 ?_
          refine wG_cS_ri [.int x7_2, .int (h 133 (ix x10_8))] [] C sw_X12_298 (c_X12_meets (xl X) (xE X) N q hN h x7_2 (h 133 (ix x10_8))) (by decide) rfl rfl (Nat.le_of_ble_eq_true rfl) dX12_goesThrough_123 (cl' := 0) (sl' := 0) rfl rfl (fun u_11 => ?_)
          refine wG_if_eq C dX12_goesThrough_126 ?_ ?_
          · refine wG_iconst C dX12_goesThrough_148 (v := 0) (by decide) ?_
            exact wG_exit (fun Q e => gQ_lv [0, 1, 2, 4] rfl e)
          · refine wG_iload C dX12_goesThrough_129 2 rfl ?_
            refine wG_aload_n C dX12_goesThrough_131 0 rfl ?_
            refine wG_getR C fl_X12_87_8 rfl kd_111 (wll hN (by decide)) (rf_111_36 q) dX12_goesThrough_132 ?_
            refine wG_iload C dX12_goesThrough_135 4 rfl ?_
            refine wG_iald C kd_133 (wll hN (by decide)) ln_133 dX12_goesThrough_137 ?_
            refine wG_cS_ri [.int x8_4, .int (h 133 (ix x10_8))] [] C sw_X12_298 (c_X12_meets (xl X) (xE X) N q hN h x8_4 (h 133 (ix x10_8))) (by decide) rfl rfl (Nat.le_of_ble_eq_true rfl) dX12_goesThrough_138 (cl' := 0) (sl' := 0) rfl rfl (fun u_12 => ?_)
            refine wG_if_eq C dX12_goesThrough_141 ?_ ?_
            · refine wG_iconst C dX12_goesThrough_148 (v := 0) (by decide) ?_
              exact wG_exit (fun Q e => gQ_lv [0, 1, 2, 4] rfl e)
            · refine wG_iconst C dX12_goesThrough_144 (v := 1) (by decide) ?_
              refine wG_goto C dX12_goesThrough_145 ?_
              exact wG_exit (fun Q e => gQ_lv [0, 1, 2, 4] rfl e)
        · refine wG_iconst C dX12_goesThrough_144 (v := 1) (by decide) ?_
          refine wG_goto C dX12_goesThrough_145 ?_
          exact wG_exit (fun Q e => gQ_lv [0, 1, 2, 4] rfl e)
      · refine wG_nmI (fun x9_13 => ?_)
        refine wG_istore C (L' := [(0, .ref (xB X + 111)), (7, .int x7_2), (8, .int x8_4), (9, .int x9_13), (10, .int x10_8)]) dX12_goesThrough_149 (by decide) [1, 2, 3, 0, 4] rfl ?_
        refine wG_iinc C (v := 1) (LL := fun x10_14 => [(0, .ref (xB X + 111)), (7, .int x7_2), (8, .int x8_4), (9, .int x9_13), (10, .int x10_14)]) dX12_goesThrough_151 4 rfl (by decide) (by decide) [1, 2, 3, 4, 0] (fun _ => rfl) (fun x10_14 => ?_)
        refine wG_goto C dX12_goesThrough_154 ?_
        exact wG_lv [0, 1, 2, 3, 4] rfl (ih x9_13 x10_14)
set_option maxRecDepth 4000 in
theorem w_X12_goesThrough {X : wX} (C : Cx X yX12_goesThrough cX12_goesThrough 11 (some .boolean) rm_X12_goesThrough) {N : Nat} {q : Qp} (hN : 137 ≤ N) (h : Hp) (x1 : Int32) (x2 : Int32) (x3 : Int32) (x4 : Int32) (x5 : Int32) (x6 : Int32) : wG X 11 (eM X (fun u => (some (.int u), N, h, (rq q)))) (f_X12_goesThrough h x1 x2 x3 x4 x5 x6) N h (rq q) 0 0 0 [(0, .ref (xB X + 111)), (1, .int x1), (2, .int x2), (3, .int x3), (4, .int x4), (5, .int x5), (6, .int x6)] [] := by
  refine wG_of (f_X12_goesThrough.eq_1 ..) ?_
  refine wG_sipush C dX12_goesThrough_0 (v := 1000) (by decide) ?_
  refine wG_iload_n C dX12_goesThrough_3 1 rfl ?_
  refine wG_imul C dX12_goesThrough_4 ?_
  refine wG_bipush C dX12_goesThrough_5 (v := 100) (by decide) ?_
  refine wG_iload_n C dX12_goesThrough_7 2 rfl ?_
  refine wG_imul C dX12_goesThrough_8 ?_
  refine wG_iadd C dX12_goesThrough_9 ?_
  refine wG_iload C dX12_goesThrough_10 5 rfl ?_
  refine wG_bind (J := (fun (t_1 : Int32) Q => gQ X 11 Q N h (rq q) 0 0 33 [(0, .ref (xB X + 111)), (1, .int x1), (2, .int x2), (3, .int x3), (4, .int x4), (5, .int x5), (6, .int x6)] [.int t_1, .int ((1000 * x1) + (100 * x2))])) ?_ (fun t_1 => (?_ : wG X 11 _ _ N h (rq q) 0 0 33 [(0, .ref (xB X + 111)), (1, .int x1), (2, .int x2), (3, .int x3), (4, .int x4), (5, .int x5), (6, .int x6)] [.int t_1, .int ((1000 * x1) + (100 * x2))]))
  · refine wG_if_eq C dX12_goesThrough_12 ?_ ?_
    · refine wG_bipush C dX12_goesThrough_26 (v := 10) (by decide) ?_
      refine wG_iload_n C dX12_goesThrough_28 3 rfl ?_
      refine wG_imul C dX12_goesThrough_29 ?_
      refine wG_iload C dX12_goesThrough_30 6 rfl ?_
      refine wG_iadd C dX12_goesThrough_32 ?_
      exact wG_exit (fun Q e => gQ_lv [0, 1, 2, 3, 4, 5, 6] rfl e)
    · refine wG_bipush C dX12_goesThrough_15 (v := 10) (by decide) ?_
      refine wG_iload C dX12_goesThrough_17 6 rfl ?_
      refine wG_imul C dX12_goesThrough_19 ?_
      refine wG_iload C dX12_goesThrough_20 4 rfl ?_
      refine wG_iadd C dX12_goesThrough_22 ?_
      refine wG_goto C dX12_goesThrough_23 ?_
      exact wG_exit (fun Q e => gQ_lv [0, 1, 2, 3, 4, 5, 6] rfl e)
  · refine wG_iadd C dX12_goesThrough_33 ?_
    refine wG_nmI (fun x7_2 => ?_)
    refine wG_istore C (L' := [(0, .ref (xB X + 111)), (1, .int x1), (2, .int x2), (3, .int x3), (4, .int x4), (5, .int x5), (6, .int x6), (7, .int x7_2)]) dX12_goesThrough_34 (by decide) [1, 2, 3, 4, 5, 6, 7, 0] rfl ?_
    refine wG_iload C dX12_goesThrough_36 5 rfl ?_
    refine wG_bind (J := (fun (t_3 : Int32) Q => gQ X 11 Q N h (rq q) 0 0 92 [(0, .ref (xB X + 111)), (7, .int x7_2)] [.int t_3])) ?_ (fun t_3 => (?_ : wG X 11 _ _ N h (rq q) 0 0 92 [(0, .ref (xB X + 111)), (7, .int x7_2)] [.int t_3]))
    · refine wG_if_eq C dX12_goesThrough_38 ?_ ?_
      · refine wG_sipush C dX12_goesThrough_68 (v := 1000) (by decide) ?_
        refine wG_iload_n C dX12_goesThrough_71 1 rfl ?_
        refine wG_imul C dX12_goesThrough_72 ?_
        refine wG_bipush C dX12_goesThrough_73 (v := 100) (by decide) ?_
        refine wG_iload_n C dX12_goesThrough_75 2 rfl ?_
        refine wG_iload C dX12_goesThrough_76 6 rfl ?_
        refine wG_iadd C dX12_goesThrough_78 ?_
        refine wG_imul C dX12_goesThrough_79 ?_
        refine wG_iadd C dX12_goesThrough_80 ?_
        refine wG_bipush C dX12_goesThrough_81 (v := 10) (by decide) ?_
        refine wG_iload_n C dX12_goesThrough_83 3 rfl ?_
        refine wG_imul C dX12_goesThrough_84 ?_
        refine wG_iadd C dX12_goesThrough_85 ?_
        refine wG_iload C dX12_goesThrough_86 4 rfl ?_
        refine wG_iadd C dX12_goesThrough_88 ?_
        refine wG_iload C dX12_goesThrough_89 6 rfl ?_
        refine wG_isub C dX12_goesThrough_91 ?_
        exact wG_exit (fun Q e => gQ_lv [0, 7] rfl e)
      · refine wG_sipush C dX12_goesThrough_41 (v := 1000) (by decide) ?_
        refine wG_iload_n C dX12_goesThrough_44 1 rfl ?_
        refine wG_iload C dX12_goesThrough_45 6 rfl ?_
        refine wG_iadd C dX12_goesThrough_47 ?_
        refine wG_imul C dX12_goesThrough_48 ?_
        refine wG_bipush C dX12_goesThrough_49 (v := 100) (by decide) ?_
        refine wG_iload_n C dX12_goesThrough_51 2 rfl ?_
        refine wG_imul C dX12_goesThrough_52 ?_
        refine wG_iadd C dX12_goesThrough_53 ?_
        refine wG_bipush C dX12_goesThrough_54 (v := 10) (by decide) ?_
        refine wG_iload_n C dX12_goesThrough_56 3 rfl ?_
        refine wG_iload C dX12_goesThrough_57 6 rfl ?_
        refine wG_isub C dX12_goesThrough_59 ?_
        refine wG_imul C dX12_goesThrough_60 ?_
        refine wG_iadd C dX12_goesThrough_61 ?_
        refine wG_iload C dX12_goesThrough_62 4 rfl ?_
        refine wG_iadd C dX12_goesThrough_64 ?_
        refine wG_goto C dX12_goesThrough_65 ?_
        exact wG_exit (fun Q e => gQ_lv [0, 7] rfl e)
    · refine wG_nmI (fun x8_4 => ?_)
      refine wG_istore C (L' := [(0, .ref (xB X + 111)), (7, .int x7_2), (8, .int x8_4)]) dX12_goesThrough_92 (by decide) [1, 2, 0] rfl ?_
      refine wG_iconst C dX12_goesThrough_94 (v := 0) (by decide) ?_
      refine wG_nmI (fun x9_5 => ?_)
      refine wG_istore C (L' := [(0, .ref (xB X + 111)), (7, .int x7_2), (8, .int x8_4), (9, .int x9_5)]) dX12_goesThrough_95 (by decide) [1, 2, 3, 0] rfl ?_
      refine wG_iconst C dX12_goesThrough_97 (v := 0) (by decide) ?_
      refine wG_nmI (fun x10_6 => ?_)
      refine wG_istore C (L' := [(0, .ref (xB X + 111)), (7, .int x7_2), (8, .int x8_4), (9, .int x9_5), (10, .int x10_6)]) dX12_goesThrough_98 (by decide) [1, 2, 3, 4, 0] rfl ?_
      refine wG_lv (L' := [(0, .ref (xB X + 111)), (7, .int x7_2), (8, .int x8_4), (9, .int x9_5), (10, .int x10_6)]) [0, 1, 2, 3, 4] rfl ?_
      refine wG_bind (wL_X12_goesThrough_100 C hN h x1 x2 x3 x4 x5 x6 t_1 x7_2 t_3 x8_4 x9_5 x10_6 FU x9_5 x10_6) (fun t_9 => (?_ : wG X 11 _ _ N h (rq q) 0 0 157 [(9, .int t_9)] []))
      refine wG_iload C dX12_goesThrough_157 0 rfl ?_
      refine wG_if (fun c => ?_) (fun _ => wG_none)
      exact wG_zret C dX12_goesThrough_159 (by rcases c with c | c <;> rw [c] <;> rfl) ⟨by decide, by decide⟩ (fun _ e => e)
theorem c_X12_goesThrough (l : Launch) (E : wE) (N : Nat) (q : Qp) (hN : 137 ≤ N) (h : Hp) (x1 : Int32) (x2 : Int32) (x3 : Int32) (x4 : Int32) (x5 : Int32) (x6 : Int32) : ∀ z, f_X12_goesThrough h x1 x2 x3 x4 x5 x6 = some z → CT l E yX12_goesThrough cX12_goesThrough 11 (some .boolean) rm_X12_goesThrough [.ref (eB E + 111), .int x1, .int x2, .int x3, .int x4, .int x5, .int x6] N h (rq q) ((fun u => (some (.int u), N, h, (rq q))) z) := CT.of (by decide +kernel) (Nat.le_of_ble_eq_true rfl) (fun X _ e C => by subst e; exact w_X12_goesThrough C hN h x1 x2 x3 x4 x5 x6)
def rm_X12_bestOf : Room := { frames := 2, cells := 0, slots := 0, locals := 52 }
def L_X12_bestOf_16 (h : Hp) (x1 : Int32) (x2 : Int32) (x3 : Int32) (x4 : Int32) (x5 : Int32) (x6 : Int32) (x8_4 : Int32) : Nat → Int32 → Int32 → Option Int32
  | 0, _, _ => none
  | n + 1, x7_7, x9_8 =>
    ((if x8_4 = 0 then
    some x3
    else
    some x4)).bind fun t_10 =>
    (if t_10 ≤ x9_8 then
    some x7_7
    else
    ((if x8_4 = 0 then
    (f_X12_block x1 x2 x9_8 x4).bind fun u_13 =>
    some u_13
    else
    (f_X12_block x1 x2 x3 x9_8).bind fun u_12 =>
    some u_12)).bind fun t_11 =>
    vB t_11 fun (x10_14 : Int32) =>
    ((if x8_4 = 0 then
    (f_X12_block (x1 + x9_8) x2 (x3 - x9_8) x4).bind fun u_17 =>
    some u_17
    else
    (f_X12_block x1 (x2 + x9_8) x3 (x4 - x9_8)).bind fun u_16 =>
    some u_16)).bind fun t_15 =>
    vB t_15 fun (x11_18 : Int32) =>
    ((if x5 = 0 then
    some 1
    else
    (if x8_4 = 0 then
    some x4
    else
    some x3))).bind fun t_19 =>
    if inB x10_14 1296 then
    if inB x11_18 1296 then
    vB ((t_19 + (h 132 (ix x10_14))) + (h 132 (ix x11_18))) fun (x12_20 : Int32) =>
    ((if x6 = 0 then
    some 1
    else
    ((if x8_4 = 0 then
    some 1
    else
    some 0)).bind fun t_22 =>
    (f_X12_goesThrough h x1 x2 x3 x4 t_22 x9_8).bind fun u_23 =>
    (if u_23 = 0 then
    some 1
    else
    some 0))).bind fun t_21 =>
    vB t_21 fun (x13_24 : Int32) =>
    ((if x13_24 = 0 then
    some x7_7
    else
    (if x7_7 ≤ x12_20 then
    some x7_7
    else
    some x12_20))).bind fun t_25 =>
    vB t_25 fun (x7_26 : Int32) =>
    vB (x9_8 + 1) fun (x9_27 : Int32) =>
    L_X12_bestOf_16 h x1 x2 x3 x4 x5 x6 x8_4 n x7_26 x9_27 else none else none)
def L_X12_bestOf_7 (h : Hp) (x1 : Int32) (x2 : Int32) (x3 : Int32) (x4 : Int32) (x5 : Int32) (x6 : Int32) : Nat → Int32 → Int32 → Option Int32
  | 0, _, _ => none
  | n + 1, x7_3, x8_4 =>
    (if (2 : Int32) ≤ x8_4 then
    some x7_3
    else
    vB 1 fun (x9_6 : Int32) =>
    (L_X12_bestOf_16 h x1 x2 x3 x4 x5 x6 x8_4 FU x7_3 x9_6).bind fun t_9 =>
    vB (x8_4 + 1) fun (x8_28 : Int32) =>
    L_X12_bestOf_7 h x1 x2 x3 x4 x5 x6 n t_9 x8_28)
def f_X12_bestOf (h : Hp) (x1 : Int32) (x2 : Int32) (x3 : Int32) (x4 : Int32) (x5 : Int32) (x6 : Int32) : Option Int32 :=
  vB 1000000 fun (x7_1 : Int32) =>
  vB 0 fun (x8_2 : Int32) =>
  (L_X12_bestOf_7 h x1 x2 x3 x4 x5 x6 FU x7_1 x8_2).bind fun t_5 =>
  some t_5
set_option maxRecDepth 4000 in
theorem wL_X12_bestOf_16 {X : wX} (C : Cx X yX12_bestOf cX12_bestOf 14 (some .int) rm_X12_bestOf) {N : Nat} {q : Qp} (hN : 137 ≤ N) (h : Hp) (x1 : Int32) (x2 : Int32) (x3 : Int32) (x4 : Int32) (x5 : Int32) (x6 : Int32) (x7_1 : Int32) (x8_2 : Int32) (x7_3 : Int32) (x8_4 : Int32) (x9_6 : Int32) : ∀ n x7_7 x9_8, wG X 14 (fun (t_9 : Int32) Q => gQ X 14 Q N h (rq q) 0 0 198 [(0, .ref (xB X + 111)), (1, .int x1), (2, .int x2), (3, .int x3), (4, .int x4), (5, .int x5), (6, .int x6), (7, .int t_9), (8, .int x8_4)] []) (L_X12_bestOf_16 h x1 x2 x3 x4 x5 x6 x8_4 n x7_7 x9_8) N h (rq q) 0 0 16 [(0, .ref (xB X + 111)), (1, .int x1), (2, .int x2), (3, .int x3), (4, .int x4), (5, .int x5), (6, .int x6), (7, .int x7_7), (8, .int x8_4), (9, .int x9_8)] [] := by
  intro n
  induction n with
  | zero => intro _ _; exact wG_none
  | succ n ih =>
    intro x7_7 x9_8
    refine wG_of (L_X12_bestOf_16.eq_2 ..) ?_
    refine wG_iload C dX12_bestOf_16 9 rfl ?_
    refine wG_iload C dX12_bestOf_18 8 rfl ?_
    refine wG_bind (J := (fun (t_10 : Int32) Q => gQ X 14 Q N h (rq q) 0 0 29 [(0, .ref (xB X + 111)), (1, .int x1), (2, .int x2), (3, .int x3), (4, .int x4), (5, .int x5), (6, .int x6), (7, .int x7_7), (8, .int x8_4), (9, .int x9_8)] [.int t_10, .int x9_8])) ?_ (fun t_10 => (?_ : wG X 14 _ _ N h (rq q) 0 0 29 [(0, .ref (xB X + 111)), (1, .int x1), (2, .int x2), (3, .int x3), (4, .int x4), (5, .int x5), (6, .int x6), (7, .int x7_7), (8, .int x8_4), (9, .int x9_8)] [.int t_10, .int x9_8]))
    · refine wG_if_ne C dX12_bestOf_20 ?_ ?_
      · refine wG_iload_n C dX12_bestOf_23 3 rfl ?_
        refine wG_goto C dX12_bestOf_24 ?_
        exact wG_exit (fun Q e => gQ_lv [0, 1, 2, 3, 4, 5, 6, 7, 8, 9] rfl e)
      · refine wG_iload C dX12_bestOf_27 4 rfl ?_
        exact wG_exit (fun Q e => gQ_lv [0, 1, 2, 3, 4, 5, 6, 7, 8, 9] rfl e)
    · refine wG_icmp_ge C dX12_bestOf_29 ?_ ?_
      · exact wG_exit (fun Q e => gQ_lv [0, 1, 2, 3, 4, 5, 6, 7, 8] rfl e)
      · refine wG_iload C dX12_bestOf_32 8 rfl ?_
        refine wG_bind (J := (fun (t_11 : Int32) Q => gQ X 14 Q N h (rq q) 0 0 57 [(0, .ref (xB X + 111)), (1, .int x1), (2, .int x2), (3, .int x3), (4, .int x4), (5, .int x5), (6, .int x6), (7, .int x7_7), (8, .int x8_4), (9, .int x9_8)] [.int t_11])) ?_ (fun t_11 => (?_ : wG X 14 _ _ N h (rq q) 0 0 57 [(0, .ref (xB X + 111)), (1, .int x1), (2, .int x2), (3, .int x3), (4, .int x4), (5, .int x5), (6, .int x6), (7, .int x7_7), (8, .int x8_4), (9, .int x9_8)] [.int t_11]))
        · refine wG_if_ne C dX12_bestOf_34 ?_ ?_
          · refine wG_iload_n C dX12_bestOf_37 1 rfl ?_
            refine wG_iload_n C dX12_bestOf_38 2 rfl ?_
            refine wG_iload C dX12_bestOf_39 9 rfl ?_
            refine wG_iload C dX12_bestOf_41 4 rfl ?_
            refine wG_cS_ri [.int x1, .int x2, .int x9_8, .int x4] [] C sw_X12_265 (c_X12_block (xl X) (xE X) N q hN h x1 x2 x9_8 x4) (by decide) rfl rfl (Nat.le_of_ble_eq_true rfl) dX12_bestOf_43 (cl' := 0) (sl' := 0) rfl rfl (fun u_13 => ?_)
            refine wG_goto C dX12_bestOf_46 ?_
            exact wG_exit (fun Q e => gQ_lv [0, 1, 2, 3, 4, 5, 6, 7, 8, 9] rfl e)
          · refine wG_iload_n C dX12_bestOf_49 1 rfl ?_
            refine wG_iload_n C dX12_bestOf_50 2 rfl ?_
            refine wG_iload_n C dX12_bestOf_51 3 rfl ?_
            refine wG_iload C dX12_bestOf_52 9 rfl ?_
            refine wG_cS_ri [.int x1, .int x2, .int x3, .int x9_8] [] C sw_X12_265 (c_X12_block (xl X) (xE X) N q hN h x1 x2 x3 x9_8) (by decide) rfl rfl (Nat.le_of_ble_eq_true rfl) dX12_bestOf_54 (cl' := 0) (sl' := 0) rfl rfl (fun u_12 => ?_)
            exact wG_exit (fun Q e => gQ_lv [0, 1, 2, 3, 4, 5, 6, 7, 8, 9] rfl e)
        · refine wG_nmI (fun x10_14 => ?_)
          refine wG_istore C (L' := [(0, .ref (xB X + 111)), (1, .int x1), (2, .int x2), (3, .int x3), (4, .int x4), (5, .int x5), (6, .int x6), (7, .int x7_7), (8, .int x8_4), (9, .int x9_8), (10, .int x10_14)]) dX12_bestOf_57 (by decide) [1, 2, 3, 4, 5, 6, 7, 8, 9, 10, 0] rfl ?_
          refine wG_iload C dX12_bestOf_59 8 rfl ?_
          refine wG_bind (J := (fun (t_15 : Int32) Q => gQ X 14 Q N h (rq q) 0 0 95 [(0, .ref (xB X + 111)), (1, .int x1), (2, .int x2), (3, .int x3), (4, .int x4), (5, .int x5), (6, .int x6), (7, .int x7_7), (8, .int x8_4), (9, .int x9_8), (10, .int x10_14)] [.int t_15])) ?_ (fun t_15 => (?_ : wG X 14 _ _ N h (rq q) 0 0 95 [(0, .ref (xB X + 111)), (1, .int x1), (2, .int x2), (3, .int x3), (4, .int x4), (5, .int x5), (6, .int x6), (7, .int x7_7), (8, .int x8_4), (9, .int x9_8), (10, .int x10_14)] [.int t_15]))
          · refine wG_if_ne C dX12_bestOf_61 ?_ ?_
            · refine wG_iload_n C dX12_bestOf_64 1 rfl ?_
              refine wG_iload C dX12_bestOf_65 9 rfl ?_
              refine wG_iadd C dX12_bestOf_67 ?_
              refine wG_iload_n C dX12_bestOf_68 2 rfl ?_
              refine wG_iload_n C dX12_bestOf_69 3 rfl ?_
              refine wG_iload C dX12_bestOf_70 9 rfl ?_
              refine wG_isub C dX12_bestOf_72 ?_
              refine wG_iload C dX12_bestOf_73 4 rfl ?_
              refine wG_cS_ri [.int (x1 + x9_8), .int x2, .int (x3 - x9_8), .int x4] [] C sw_X12_265 (c_X12_block (xl X) (xE X) N q hN h (x1 + x9_8) x2 (x3 - x9_8) x4) (by decide) rfl rfl (Nat.le_of_ble_eq_true rfl) dX12_bestOf_75 (cl' := 0) (sl' := 0) rfl rfl (fun u_17 => ?_)
              refine wG_goto C dX12_bestOf_78 ?_
              exact wG_exit (fun Q e => gQ_lv [0, 1, 2, 3, 4, 5, 6, 7, 8, 9, 10] rfl e)
            · refine wG_iload_n C dX12_bestOf_81 1 rfl ?_
              refine wG_iload_n C dX12_bestOf_82 2 rfl ?_
              refine wG_iload C dX12_bestOf_83 9 rfl ?_
              refine wG_iadd C dX12_bestOf_85 ?_
              refine wG_iload_n C dX12_bestOf_86 3 rfl ?_
              refine wG_iload C dX12_bestOf_87 4 rfl ?_
              refine wG_iload C dX12_bestOf_89 9 rfl ?_
              refine wG_isub C dX12_bestOf_91 ?_
              refine wG_cS_ri [.int x1, .int (x2 + x9_8), .int x3, .int (x4 - x9_8)] [] C sw_X12_265 (c_X12_block (xl X) (xE X) N q hN h x1 (x2 + x9_8) x3 (x4 - x9_8)) (by decide) rfl rfl (Nat.le_of_ble_eq_true rfl) dX12_bestOf_92 (cl' := 0) (sl' := 0) rfl rfl (fun u_16 => ?_)
              exact wG_exit (fun Q e => gQ_lv [0, 1, 2, 3, 4, 5, 6, 7, 8, 9, 10] rfl e)
          · refine wG_nmI (fun x11_18 => ?_)
            refine wG_istore C (L' := [(0, .ref (xB X + 111)), (1, .int x1), (2, .int x2), (3, .int x3), (4, .int x4), (5, .int x5), (6, .int x6), (7, .int x7_7), (8, .int x8_4), (9, .int x9_8), (10, .int x10_14), (11, .int x11_18)]) dX12_bestOf_95 (by decide) [1, 2, 3, 4, 5, 6, 7, 8, 9, 10, 11, 0] rfl ?_
            refine wG_iload C dX12_bestOf_97 5 rfl ?_
            refine wG_bind (J := (fun (t_19 : Int32) Q => gQ X 14 Q N h (rq q) 0 0 117 [(0, .ref (xB X + 111)), (1, .int x1), (2, .int x2), (3, .int x3), (4, .int x4), (5, .int x5), (6, .int x6), (7, .int x7_7), (8, .int x8_4), (9, .int x9_8), (10, .int x10_14), (11, .int x11_18)] [.int t_19])) ?_ (fun t_19 => (?_ : wG X 14 _ _ N h (rq q) 0 0 117 [(0, .ref (xB X + 111)), (1, .int x1), (2, .int x2), (3, .int x3), (4, .int x4), (5, .int x5), (6, .int x6), (7, .int x7_7), (8, .int x8_4), (9, .int x9_8), (10, .int x10_14), (11, .int x11_18)] [.int t_19]))
            · refine wG_if_eq C dX12_bestOf_99 ?_ ?_
              · refine wG_iconst C dX12_bestOf_116 (v := 1) (by decide) ?_
                exact wG_exit (fun Q e => gQ_lv [0, 1, 2, 3, 4, 5, 6, 7, 8, 9, 10, 11] rfl e)
              · refine wG_iload C dX12_bestOf_102 8 rfl ?_
                refine wG_if_ne C dX12_bestOf_104 ?_ ?_
                · refine wG_iload C dX12_bestOf_107 4 rfl ?_
                  refine wG_goto C dX12_bestOf_109 ?_
                  exact wG_exit (fun Q e => gQ_lv [0, 1, 2, 3, 4, 5, 6, 7, 8, 9, 10, 11] rfl e)
                · refine wG_iload_n C dX12_bestOf_112 3 rfl ?_
                  refine wG_goto C dX12_bestOf_113 ?_
                  exact wG_exit (fun Q e => gQ_lv [0, 1, 2, 3, 4, 5, 6, 7, 8, 9, 10, 11] rfl e)
            · refine wG_aload_n C dX12_bestOf_117 0 rfl ?_
              refine wG_getR C fl_X12_84_8 rfl kd_111 (wll hN (by decide)) (rf_111_33 q) dX12_bestOf_118 ?_
              refine wG_iload C dX12_bestOf_121 10 rfl ?_
              refine wG_iald C kd_132 (wll hN (by decide)) ln_132 dX12_bestOf_123 ?_
              refine wG_iadd C dX12_bestOf_124 ?_
              refine wG_aload_n C dX12_bestOf_125 0 rfl ?_
              refine wG_getR C fl_X12_84_8 rfl kd_111 (wll hN (by decide)) (rf_111_33 q) dX12_bestOf_126 ?_
              refine wG_iload C dX12_bestOf_129 11 rfl ?_
              refine wG_iald C kd_132 (wll hN (by decide)) ln_132 dX12_bestOf_131 ?_
              refine wG_iadd C dX12_bestOf_132 ?_
              refine wG_nmI (fun x12_20 => ?_)
              refine wG_istore C (L' := [(0, .ref (xB X + 111)), (1, .int x1), (2, .int x2), (3, .int x3), (4, .int x4), (5, .int x5), (6, .int x6), (7, .int x7_7), (8, .int x8_4), (9, .int x9_8), (12, .int x12_20)]) dX12_bestOf_133 (by decide) [1, 2, 3, 4, 5, 6, 7, 8, 9, 10, 0] rfl ?_
              refine wG_iload C dX12_bestOf_135 6 rfl ?_
              refine wG_bind (J := (fun (t_21 : Int32) Q => gQ X 14 Q N h (rq q) 0 0 169 [(0, .ref (xB X + 111)), (1, .int x1), (2, .int x2), (3, .int x3), (4, .int x4), (5, .int x5), (6, .int x6), (7, .int x7_7), (8, .int x8_4), (9, .int x9_8), (12, .int x12_20)] [.int t_21])) ?_ (fun t_21 => (?_ : wG X 14 _ _ N h (rq q) 0 0 169 [(0, .ref (xB X + 111)), (1, .int x1), (2, .int x2), (3, .int x3), (4, .int x4), (5, .int x5), (6, .int x6), (7, .int x7_7), (8, .int x8_4), (9, .int x9_8), (12, .int x12_20)] [.int t_21]))
              · refine wG_if_eq C dX12_bestOf_137 ?_ ?_
                · refine wG_iconst C dX12_bestOf_164 (v := 1) (by decide) ?_
                  refine wG_goto C dX12_bestOf_165 ?_
                  exact wG_exit (fun Q e => gQ_lv [0, 1, 2, 3, 4, 5, 6, 7, 8, 9, 10] rfl e)
                · refine wG_aload_n C dX12_bestOf_140 0 rfl ?_
                  refine wG_iload_n C dX12_bestOf_141 1 rfl ?_
                  refine wG_iload_n C dX12_bestOf_142 2 rfl ?_
                  refine wG_iload_n C dX12_bestOf_143 3 rfl ?_
                  refine wG_iload C dX12_bestOf_144 4 rfl ?_
                  refine wG_iload C dX12_bestOf_146 8 rfl ?_
                  refine wG_bind (J := (fun (t_22 : Int32) Q => gQ X 14 Q N h (rq q) 0 0 156 [(0, .ref (xB X + 111)), (1, .int x1), (2, .int x2), (3, .int x3), (4, .int x4), (5, .int x5), (6, .int x6), (7, .int x7_7), (8, .int x8_4), (9, .int x9_8), (12, .int x12_20)] [.int t_22, .int x4, .int x3, .int x2, .int x1, .ref (xB X + 111)])) ?_ (fun t_22 => (?_ : wG X 14 _ _ N h (rq q) 0 0 156 [(0, .ref (xB X + 111)), (1, .int x1), (2, .int x2), (3, .int x3), (4, .int x4), (5, .int x5), (6, .int x6), (7, .int x7_7), (8, .int x8_4), (9, .int x9_8), (12, .int x12_20)] [.int t_22, .int x4, .int x3, .int x2, .int x1, .ref (xB X + 111)]))
                  · refine wG_if_ne C dX12_bestOf_148 ?_ ?_
                    · refine wG_iconst C dX12_bestOf_151 (v := 1) (by decide) ?_
                      refine wG_goto C dX12_bestOf_152 ?_
                      exact wG_exit (fun Q e => gQ_lv [0, 1, 2, 3, 4, 5, 6, 7, 8, 9, 10] rfl e)
                    · refine wG_iconst C dX12_bestOf_155 (v := 0) (by decide) ?_
                      exact wG_exit (fun Q e => gQ_lv [0, 1, 2, 3, 4, 5, 6, 7, 8, 9, 10] rfl e)
                  · refine wG_iload C dX12_bestOf_156 9 rfl ?_
                    refine wG_cV_ri [.int x1, .int x2, .int x3, .int x4, .int t_22, .int x9_8] [] C vw_X12_287 (c_X12_goesThrough (xl X) (xE X) N q hN h x1 x2 x3 x4 t_22 x9_8) kd_111 (wll hN (by decide)) (by decide) rfl rfl (Nat.le_of_ble_eq_true rfl) dX12_bestOf_158 (cl' := 0) (sl' := 0) rfl rfl (fun u_23 => ?_)
                    refine wG_if_ne C dX12_bestOf_161 ?_ ?_
                    · refine wG_iconst C dX12_bestOf_164 (v := 1) (by decide) ?_
                      refine wG_goto C dX12_bestOf_165 ?_
                      exact wG_exit (fun Q e => gQ_lv [0, 1, 2, 3, 4, 5, 6, 7, 8, 9, 10] rfl e)
                    · refine wG_iconst C dX12_bestOf_168 (v := 0) (by decide) ?_
                      exact wG_exit (fun Q e => gQ_lv [0, 1, 2, 3, 4, 5, 6, 7, 8, 9, 10] rfl e)
              · refine wG_nmI (fun x13_24 => ?_)
                refine wG_istore C (L' := [(0, .ref (xB X + 111)), (1, .int x1), (2, .int x2), (3, .int x3), (4, .int x4), (5, .int x5), (6, .int x6), (7, .int x7_7), (8, .int x8_4), (9, .int x9_8), (12, .int x12_20), (13, .int x13_24)]) dX12_bestOf_169 (by decide) [1, 2, 3, 4, 5, 6, 7, 8, 9, 10, 11, 0] rfl ?_
                refine wG_iload C dX12_bestOf_171 11 rfl ?_
                refine wG_bind (J := (fun (t_25 : Int32) Q => gQ X 14 Q N h (rq q) 0 0 190 [(0, .ref (xB X + 111)), (1, .int x1), (2, .int x2), (3, .int x3), (4, .int x4), (5, .int x5), (6, .int x6), (8, .int x8_4), (9, .int x9_8)] [.int t_25])) ?_ (fun t_25 => (?_ : wG X 14 _ _ N h (rq q) 0 0 190 [(0, .ref (xB X + 111)), (1, .int x1), (2, .int x2), (3, .int x3), (4, .int x4), (5, .int x5), (6, .int x6), (8, .int x8_4), (9, .int x9_8)] [.int t_25]))
                · refine wG_if_eq C dX12_bestOf_173 ?_ ?_
                  · refine wG_iload C dX12_bestOf_188 7 rfl ?_
                    exact wG_exit (fun Q e => gQ_lv [0, 1, 2, 3, 4, 5, 6, 8, 9] rfl e)
                  · refine wG_iload C dX12_bestOf_176 10 rfl ?_
                    refine wG_iload C dX12_bestOf_178 7 rfl ?_
                    refine wG_icmp_ge C dX12_bestOf_180 ?_ ?_
                    · refine wG_iload C dX12_bestOf_188 7 rfl ?_
                      exact wG_exit (fun Q e => gQ_lv [0, 1, 2, 3, 4, 5, 6, 8, 9] rfl e)
                    · refine wG_iload C dX12_bestOf_183 10 rfl ?_
                      refine wG_goto C dX12_bestOf_185 ?_
                      exact wG_exit (fun Q e => gQ_lv [0, 1, 2, 3, 4, 5, 6, 8, 9] rfl e)
                · refine wG_nmI (fun x7_26 => ?_)
                  refine wG_istore C (L' := [(0, .ref (xB X + 111)), (1, .int x1), (2, .int x2), (3, .int x3), (4, .int x4), (5, .int x5), (6, .int x6), (7, .int x7_26), (8, .int x8_4), (9, .int x9_8)]) dX12_bestOf_190 (by decide) [1, 2, 3, 4, 5, 6, 7, 0, 8, 9] rfl ?_
                  refine wG_iinc C (v := 1) (LL := fun x9_27 => [(0, .ref (xB X + 111)), (1, .int x1), (2, .int x2), (3, .int x3), (4, .int x4), (5, .int x5), (6, .int x6), (7, .int x7_26), (8, .int x8_4), (9, .int x9_27)]) dX12_bestOf_192 9 rfl (by decide) (by decide) [1, 2, 3, 4, 5, 6, 7, 8, 9, 0] (fun _ => rfl) (fun x9_27 => ?_)
                  refine wG_goto C dX12_bestOf_195 ?_
                  exact wG_lv [0, 1, 2, 3, 4, 5, 6, 7, 8, 9] rfl (ih x7_26 x9_27)
set_option maxRecDepth 4000 in
theorem wL_X12_bestOf_7 {X : wX} (C : Cx X yX12_bestOf cX12_bestOf 14 (some .int) rm_X12_bestOf) {N : Nat} {q : Qp} (hN : 137 ≤ N) (h : Hp) (x1 : Int32) (x2 : Int32) (x3 : Int32) (x4 : Int32) (x5 : Int32) (x6 : Int32) (x7_1 : Int32) (x8_2 : Int32) : ∀ n x7_3 x8_4, wG X 14 (fun (t_5 : Int32) Q => gQ X 14 Q N h (rq q) 0 0 204 [(7, .int t_5)] []) (L_X12_bestOf_7 h x1 x2 x3 x4 x5 x6 n x7_3 x8_4) N h (rq q) 0 0 7 [(0, .ref (xB X + 111)), (1, .int x1), (2, .int x2), (3, .int x3), (4, .int x4), (5, .int x5), (6, .int x6), (7, .int x7_3), (8, .int x8_4)] [] := by
  intro n
  induction n with
  | zero => intro _ _; exact wG_none
  | succ n ih =>
    intro x7_3 x8_4
    refine wG_of (L_X12_bestOf_7.eq_2 ..) ?_
    refine wG_iload C dX12_bestOf_7 8 rfl ?_
    refine wG_iconst C dX12_bestOf_9 (v := 2) (by decide) ?_
    refine wG_icmp_ge C dX12_bestOf_10 ?_ ?_
    · exact wG_exit (fun Q e => gQ_lv [7] rfl e)
    · refine wG_iconst C dX12_bestOf_13 (v := 1) (by decide) ?_
      refine wG_nmI (fun x9_6 => ?_)
      refine wG_istore C (L' := [(0, .ref (xB X + 111)), (1, .int x1), (2, .int x2), (3, .int x3), (4, .int x4), (5, .int x5), (6, .int x6), (7, .int x7_3), (8, .int x8_4), (9, .int x9_6)]) dX12_bestOf_14 (by decide) [1, 2, 3, 4, 5, 6, 7, 8, 9, 0] rfl ?_
      refine wG_lv (L' := [(0, .ref (xB X + 111)), (1, .int x1), (2, .int x2), (3, .int x3), (4, .int x4), (5, .int x5), (6, .int x6), (7, .int x7_3), (8, .int x8_4), (9, .int x9_6)]) [0, 1, 2, 3, 4, 5, 6, 7, 8, 9] rfl ?_
      refine wG_bind (wL_X12_bestOf_16 C hN h x1 x2 x3 x4 x5 x6 x7_1 x8_2 x7_3 x8_4 x9_6 FU x7_3 x9_6) (fun t_9 => (?_ : wG X 14 _ _ N h (rq q) 0 0 198 [(0, .ref (xB X + 111)), (1, .int x1), (2, .int x2), (3, .int x3), (4, .int x4), (5, .int x5), (6, .int x6), (7, .int t_9), (8, .int x8_4)] []))
      refine wG_iinc C (v := 1) (LL := fun x8_28 => [(0, .ref (xB X + 111)), (1, .int x1), (2, .int x2), (3, .int x3), (4, .int x4), (5, .int x5), (6, .int x6), (7, .int t_9), (8, .int x8_28)]) dX12_bestOf_198 8 rfl (by decide) (by decide) [1, 2, 3, 4, 5, 6, 7, 8, 0] (fun _ => rfl) (fun x8_28 => ?_)
      refine wG_goto C dX12_bestOf_201 ?_
      exact wG_lv [0, 1, 2, 3, 4, 5, 6, 7, 8] rfl (ih t_9 x8_28)
set_option maxRecDepth 4000 in
theorem w_X12_bestOf {X : wX} (C : Cx X yX12_bestOf cX12_bestOf 14 (some .int) rm_X12_bestOf) {N : Nat} {q : Qp} (hN : 137 ≤ N) (h : Hp) (x1 : Int32) (x2 : Int32) (x3 : Int32) (x4 : Int32) (x5 : Int32) (x6 : Int32) : wG X 14 (eM X (fun u => (some (.int u), N, h, (rq q)))) (f_X12_bestOf h x1 x2 x3 x4 x5 x6) N h (rq q) 0 0 0 [(0, .ref (xB X + 111)), (1, .int x1), (2, .int x2), (3, .int x3), (4, .int x4), (5, .int x5), (6, .int x6)] [] := by
  refine wG_of (f_X12_bestOf.eq_1 ..) ?_
  refine wG_ldc C dX12_bestOf_0 m_1292 ?_
  refine wG_nmI (fun x7_1 => ?_)
  refine wG_istore C (L' := [(0, .ref (xB X + 111)), (1, .int x1), (2, .int x2), (3, .int x3), (4, .int x4), (5, .int x5), (6, .int x6), (7, .int x7_1)]) dX12_bestOf_2 (by decide) [1, 2, 3, 4, 5, 6, 7, 0] rfl ?_
  refine wG_iconst C dX12_bestOf_4 (v := 0) (by decide) ?_
  refine wG_nmI (fun x8_2 => ?_)
  refine wG_istore C (L' := [(0, .ref (xB X + 111)), (1, .int x1), (2, .int x2), (3, .int x3), (4, .int x4), (5, .int x5), (6, .int x6), (7, .int x7_1), (8, .int x8_2)]) dX12_bestOf_5 (by decide) [1, 2, 3, 4, 5, 6, 7, 8, 0] rfl ?_
  refine wG_lv (L' := [(0, .ref (xB X + 111)), (1, .int x1), (2, .int x2), (3, .int x3), (4, .int x4), (5, .int x5), (6, .int x6), (7, .int x7_1), (8, .int x8_2)]) [0, 1, 2, 3, 4, 5, 6, 7, 8] rfl ?_
  refine wG_bind (wL_X12_bestOf_7 C hN h x1 x2 x3 x4 x5 x6 x7_1 x8_2 FU x7_1 x8_2) (fun t_5 => (?_ : wG X 14 _ _ N h (rq q) 0 0 204 [(7, .int t_5)] []))
  refine wG_iload C dX12_bestOf_204 0 rfl ?_
  exact wG_iret C dX12_bestOf_206 ⟨by decide, by decide⟩ (fun _ e => e)
theorem c_X12_bestOf (l : Launch) (E : wE) (N : Nat) (q : Qp) (hN : 137 ≤ N) (h : Hp) (x1 : Int32) (x2 : Int32) (x3 : Int32) (x4 : Int32) (x5 : Int32) (x6 : Int32) : ∀ z, f_X12_bestOf h x1 x2 x3 x4 x5 x6 = some z → CT l E yX12_bestOf cX12_bestOf 14 (some .int) rm_X12_bestOf [.ref (eB E + 111), .int x1, .int x2, .int x3, .int x4, .int x5, .int x6] N h (rq q) ((fun u => (some (.int u), N, h, (rq q))) z) := CT.of (by decide +kernel) (Nat.le_of_ble_eq_true rfl) (fun X _ e C => by subst e; exact w_X12_bestOf C hN h x1 x2 x3 x4 x5 x6)
def rm_X12_fair : Room := { frames := 3, cells := 0, slots := 0, locals := 85 }
def L_X12_fair_115 (x1 : Int32) (x3_6 : Int32) (x4_7 : Int32) (x5_9 : Int32) (x6_13 : Int32) (x7_17 : Int32) : Nat → Int32 → Hp → Option Hp
  | 0, _, _ => none
  | n + 1, x8_21, h_22 =>
    (if (h_22 111 5) < (x8_21 + x6_13) then
    some h_22
    else
    (f_X12_block x7_17 x8_21 x5_9 x6_13).bind fun u_24 =>
    vB u_24 fun (x9_25 : Int32) =>
    if inB x9_25 1296 then
    if x1 = 0 then none else
    ((if (h_22 129 (ix x9_25)) = (x3_6 / x1) then
    if inB x9_25 1296 then
    if x1 = 0 then none else
    (if (h_22 130 (ix x9_25)) = (x4_7 / x1) then
    some 1
    else
    some 0) else none
    else
    some 0)).bind fun t_26 =>
    vB t_26 fun (x10_27 : Int32) =>
    ((if x10_27 = 0 then
    (f_X12_bestOf h_22 x7_17 x8_21 x5_9 x6_13 1 0).bind fun u_29 =>
    some u_29
    else
    some 0)).bind fun t_28 =>
    if inB x9_25 1296 then vB (u2 h_22 132 (ix x9_25) t_28) fun h_30 =>
    vB (x8_21 + 1) fun (x8_31 : Int32) =>
    L_X12_fair_115 x1 x3_6 x4_7 x5_9 x6_13 x7_17 n x8_31 h_30 else none else none)
def L_X12_fair_100 (x1 : Int32) (x3_6 : Int32) (x4_7 : Int32) (x5_9 : Int32) (x6_13 : Int32) : Nat → Int32 → Hp → Option Hp
  | 0, _, _ => none
  | n + 1, x7_17, h_18 =>
    (if (h_18 111 4) < (x7_17 + x5_9) then
    some h_18
    else
    vB 0 fun (x8_20 : Int32) =>
    (L_X12_fair_115 x1 x3_6 x4_7 x5_9 x6_13 x7_17 FU x8_20 h_18).bind fun t_23 =>
    vB (x7_17 + 1) fun (x7_32 : Int32) =>
    L_X12_fair_100 x1 x3_6 x4_7 x5_9 x6_13 n x7_32 t_23)
def L_X12_fair_88 (x1 : Int32) (x3_6 : Int32) (x4_7 : Int32) (x5_9 : Int32) : Nat → Int32 → Hp → Option Hp
  | 0, _, _ => none
  | n + 1, x6_13, h_14 =>
    (if (h_14 111 5) < x6_13 then
    some h_14
    else
    vB 0 fun (x7_16 : Int32) =>
    (L_X12_fair_100 x1 x3_6 x4_7 x5_9 x6_13 FU x7_16 h_14).bind fun t_19 =>
    vB (x6_13 + 1) fun (x6_33 : Int32) =>
    L_X12_fair_88 x1 x3_6 x4_7 x5_9 n x6_33 t_19)
def L_X12_fair_76 (x1 : Int32) (x3_6 : Int32) (x4_7 : Int32) : Nat → Int32 → Hp → Option Hp
  | 0, _, _ => none
  | n + 1, x5_9, h_10 =>
    (if (h_10 111 4) < x5_9 then
    some h_10
    else
    vB 1 fun (x6_12 : Int32) =>
    (L_X12_fair_88 x1 x3_6 x4_7 x5_9 FU x6_12 h_10).bind fun t_15 =>
    vB (x5_9 + 1) fun (x5_34 : Int32) =>
    L_X12_fair_76 x1 x3_6 x4_7 n x5_34 t_15)
def f_X12_fair (h : Hp) (x1 : Int32) : Option (Int32 × Hp) :=
  vB (u2 h 111 0 0) fun h_1 =>
  (f_X12_in x1.toInt64 1 36).bind fun u_2 =>
  (if u_2 = 0 then
  some ((-2), h_1)
  else
  (f_X12_layBlocks h_1).bind fun u_3 =>
  (f_X12_block 0 0 (u_3 111 4) (u_3 111 5)).bind fun u_4 =>
  vB u_4 fun (x2_5 : Int32) =>
  if inB x2_5 1296 then
  vB (u_3 129 (ix x2_5)) fun (x3_6 : Int32) =>
  if inB x2_5 1296 then
  vB (u_3 130 (ix x2_5)) fun (x4_7 : Int32) =>
  (if x3_6 = 0 then
  some ((-9), u_3)
  else
  if x1 = 0 then none else
  (if (0 : Int32) < (x3_6 - x3_6 / x1 * x1) then
  some ((-9), u_3)
  else
  if x1 = 0 then none else
  (if (x4_7 - x4_7 / x1 * x1) ≤ 0 then
  vB 1 fun (x5_8 : Int32) =>
  (L_X12_fair_76 x1 x3_6 x4_7 FU x5_8 u_3).bind fun t_11 =>
  if inB x2_5 1296 then
  (if (1000000 : Int32) ≤ (t_11 132 (ix x2_5)) then
  some ((-9), t_11)
  else
  if inB x2_5 1296 then
  some ((t_11 132 (ix x2_5)), t_11) else none) else none
  else
  some ((-9), u_3)))) else none else none)
set_option maxRecDepth 4000 in
theorem wL_X12_fair_115 {X : wX} (C : Cx X yX12_fair cX12_fair 11 (some .int) rm_X12_fair) {N : Nat} {q : Qp} (hN : 137 ≤ N) (h : Hp) (x1 : Int32) (h_1 : Hp) (u_2 : Int32) (u_3 : Hp) (u_4 : Int32) (x2_5 : Int32) (x3_6 : Int32) (x4_7 : Int32) (x5_8 : Int32) (x5_9 : Int32) (h_10 : Hp) (x6_12 : Int32) (x6_13 : Int32) (h_14 : Hp) (x7_16 : Int32) (x7_17 : Int32) (h_18 : Hp) (x8_20 : Int32) : ∀ n x8_21 h_22, wG X 11 (fun (t_23 : Hp) Q => gQ X 11 Q N t_23 (rq q) 0 0 210 [(0, .ref (xB X + 111)), (1, .int x1), (2, .int x2_5), (3, .int x3_6), (4, .int x4_7), (5, .int x5_9), (6, .int x6_13), (7, .int x7_17)] []) (L_X12_fair_115 x1 x3_6 x4_7 x5_9 x6_13 x7_17 n x8_21 h_22) N h_22 (rq q) 0 0 115 [(0, .ref (xB X + 111)), (1, .int x1), (2, .int x2_5), (3, .int x3_6), (4, .int x4_7), (5, .int x5_9), (6, .int x6_13), (7, .int x7_17), (8, .int x8_21)] [] := by
  intro n
  induction n with
  | zero => intro _ _; exact wG_none
  | succ n ih =>
    intro x8_21 h_22
    refine wG_of (L_X12_fair_115.eq_2 ..) ?_
    refine wG_iload C dX12_fair_115 8 rfl ?_
    refine wG_iload C dX12_fair_117 6 rfl ?_
    refine wG_iadd C dX12_fair_119 ?_
    refine wG_aload_n C dX12_fair_120 0 rfl ?_
    refine wG_getI C fl_X12_23_8 rfl kd_111 (wll hN (by decide)) dX12_fair_121 ?_
    refine wG_icmp_gt C dX12_fair_124 ?_ ?_
    · exact wG_exit (fun Q e => gQ_lv [0, 1, 2, 3, 4, 5, 6, 7] rfl e)
    · refine wG_iload C dX12_fair_127 7 rfl ?_
      refine wG_iload C dX12_fair_129 8 rfl ?_
      refine wG_iload C dX12_fair_131 5 rfl ?_
      refine wG_iload C dX12_fair_133 6 rfl ?_
      refine wG_cS_ri [.int x7_17, .int x8_21, .int x5_9, .int x6_13] [] C sw_X12_265 (c_X12_block (xl X) (xE X) N q hN h_22 x7_17 x8_21 x5_9 x6_13) (by decide) rfl rfl (Nat.le_of_ble_eq_true rfl) dX12_fair_135 (cl' := 0) (sl' := 0) rfl rfl (fun u_24 => ?_)
      refine wG_nmI (fun x9_25 => ?_)
      refine wG_istore C (L' := [(0, .ref (xB X + 111)), (1, .int x1), (2, .int x2_5), (3, .int x3_6), (4, .int x4_7), (5, .int x5_9), (6, .int x6_13), (7, .int x7_17), (8, .int x8_21), (9, .int x9_25)]) dX12_fair_138 (by decide) [1, 2, 3, 4, 5, 6, 7, 8, 9, 0] rfl ?_
      refine wG_aload_n C dX12_fair_140 0 rfl ?_
      refine wG_getR C fl_X12_75_8 rfl kd_111 (wll hN (by decide)) (rf_111_30 q) dX12_fair_141 ?_
      refine wG_iload C dX12_fair_144 9 rfl ?_
      refine wG_iald C kd_129 (wll hN (by decide)) ln_129 dX12_fair_146 ?_
      refine wG_iload_n C dX12_fair_147 3 rfl ?_
      refine wG_iload_n C dX12_fair_148 1 rfl ?_
      refine wG_idiv C dX12_fair_149 ?_
      refine wG_bind (J := (fun (t_26 : Int32) Q => gQ X 11 Q N h_22 (rq q) 0 0 172 [(0, .ref (xB X + 111)), (1, .int x1), (2, .int x2_5), (3, .int x3_6), (4, .int x4_7), (5, .int x5_9), (6, .int x6_13), (7, .int x7_17), (8, .int x8_21), (9, .int x9_25)] [.int t_26])) ?_ (fun t_26 => (?_ : wG X 11 _ _ N h_22 (rq q) 0 0 172 [(0, .ref (xB X + 111)), (1, .int x1), (2, .int x2_5), (3, .int x3_6), (4, .int x4_7), (5, .int x5_9), (6, .int x6_13), (7, .int x7_17), (8, .int x8_21), (9, .int x9_25)] [.int t_26]))
      · refine wG_icmp_ne C dX12_fair_150 ?_ ?_
        · refine wG_aload_n C dX12_fair_153 0 rfl ?_
          refine wG_getR C fl_X12_78_8 rfl kd_111 (wll hN (by decide)) (rf_111_31 q) dX12_fair_154 ?_
          refine wG_iload C dX12_fair_157 9 rfl ?_
          refine wG_iald C kd_130 (wll hN (by decide)) ln_130 dX12_fair_159 ?_
          refine wG_iload C dX12_fair_160 4 rfl ?_
          refine wG_iload_n C dX12_fair_162 1 rfl ?_
          refine wG_idiv C dX12_fair_163 ?_
          refine wG_icmp_ne C dX12_fair_164 ?_ ?_
          · refine wG_iconst C dX12_fair_167 (v := 1) (by decide) ?_
            refine wG_goto C dX12_fair_168 ?_
            exact wG_exit (fun Q e => gQ_lv [0, 1, 2, 3, 4, 5, 6, 7, 8, 9] rfl e)
          · refine wG_iconst C dX12_fair_171 (v := 0) (by decide) ?_
            exact wG_exit (fun Q e => gQ_lv [0, 1, 2, 3, 4, 5, 6, 7, 8, 9] rfl e)
        · refine wG_iconst C dX12_fair_171 (v := 0) (by decide) ?_
          exact wG_exit (fun Q e => gQ_lv [0, 1, 2, 3, 4, 5, 6, 7, 8, 9] rfl e)
      · refine wG_nmI (fun x10_27 => ?_)
        refine wG_istore C (L' := [(0, .ref (xB X + 111)), (1, .int x1), (2, .int x2_5), (3, .int x3_6), (4, .int x4_7), (5, .int x5_9), (6, .int x6_13), (7, .int x7_17), (8, .int x8_21), (9, .int x9_25), (10, .int x10_27)]) dX12_fair_172 (by decide) [1, 2, 3, 4, 5, 6, 7, 8, 9, 10, 0] rfl ?_
        refine wG_aload_n C dX12_fair_174 0 rfl ?_
        refine wG_getR C fl_X12_84_8 rfl kd_111 (wll hN (by decide)) (rf_111_33 q) dX12_fair_175 ?_
        refine wG_iload C dX12_fair_178 9 rfl ?_
        refine wG_iload C dX12_fair_180 10 rfl ?_
        refine wG_bind (J := (fun (t_28 : Int32) Q => gQ X 11 Q N h_22 (rq q) 0 0 203 [(0, .ref (xB X + 111)), (1, .int x1), (2, .int x2_5), (3, .int x3_6), (4, .int x4_7), (5, .int x5_9), (6, .int x6_13), (7, .int x7_17), (8, .int x8_21)] [.int t_28, .int x9_25, .ref (xB X + 132)])) ?_ (fun t_28 => (?_ : wG X 11 _ _ N h_22 (rq q) 0 0 203 [(0, .ref (xB X + 111)), (1, .int x1), (2, .int x2_5), (3, .int x3_6), (4, .int x4_7), (5, .int x5_9), (6, .int x6_13), (7, .int x7_17), (8, .int x8_21)] [.int t_28, .int x9_25, .ref (xB X + 132)]))
        · refine wG_if_eq C dX12_fair_182 ?_ ?_
          · refine wG_aload_n C dX12_fair_189 0 rfl ?_
            refine wG_iload C dX12_fair_190 7 rfl ?_
            refine wG_iload C dX12_fair_192 8 rfl ?_
            refine wG_iload C dX12_fair_194 5 rfl ?_
            refine wG_iload C dX12_fair_196 6 rfl ?_
            refine wG_iconst C dX12_fair_198 (v := 1) (by decide) ?_
            refine wG_iconst C dX12_fair_199 (v := 0) (by decide) ?_
            refine wG_cV_ri [.int x7_17, .int x8_21, .int x5_9, .int x6_13, .int 1, .int 0] [.int x9_25, .ref (xB X + 132)] C vw_X12_291 (c_X12_bestOf (xl X) (xE X) N q hN h_22 x7_17 x8_21 x5_9 x6_13 1 0) kd_111 (wll hN (by decide)) (by decide) rfl rfl (Nat.le_of_ble_eq_true rfl) dX12_fair_200 (cl' := 0) (sl' := 0) rfl rfl (fun u_29 => ?_)
            exact wG_exit (fun Q e => gQ_lv [0, 1, 2, 3, 4, 5, 6, 7, 8] rfl e)
          · refine wG_iconst C dX12_fair_185 (v := 0) (by decide) ?_
            refine wG_goto C dX12_fair_186 ?_
            exact wG_exit (fun Q e => gQ_lv [0, 1, 2, 3, 4, 5, 6, 7, 8] rfl e)
        · refine wG_iast C kd_132 (wll hN (by decide)) ln_132 dX12_fair_203 (fun h_30 => ?_)
          refine wG_iinc C (v := 1) (LL := fun x8_31 => [(0, .ref (xB X + 111)), (1, .int x1), (2, .int x2_5), (3, .int x3_6), (4, .int x4_7), (5, .int x5_9), (6, .int x6_13), (7, .int x7_17), (8, .int x8_31)]) dX12_fair_204 8 rfl (by decide) (by decide) [1, 2, 3, 4, 5, 6, 7, 8, 0] (fun _ => rfl) (fun x8_31 => ?_)
          refine wG_goto C dX12_fair_207 ?_
          exact wG_lv [0, 1, 2, 3, 4, 5, 6, 7, 8] rfl (ih x8_31 h_30)
set_option maxRecDepth 4000 in
theorem wL_X12_fair_100 {X : wX} (C : Cx X yX12_fair cX12_fair 11 (some .int) rm_X12_fair) {N : Nat} {q : Qp} (hN : 137 ≤ N) (h : Hp) (x1 : Int32) (h_1 : Hp) (u_2 : Int32) (u_3 : Hp) (u_4 : Int32) (x2_5 : Int32) (x3_6 : Int32) (x4_7 : Int32) (x5_8 : Int32) (x5_9 : Int32) (h_10 : Hp) (x6_12 : Int32) (x6_13 : Int32) (h_14 : Hp) (x7_16 : Int32) : ∀ n x7_17 h_18, wG X 11 (fun (t_19 : Hp) Q => gQ X 11 Q N t_19 (rq q) 0 0 216 [(0, .ref (xB X + 111)), (1, .int x1), (2, .int x2_5), (3, .int x3_6), (4, .int x4_7), (5, .int x5_9), (6, .int x6_13)] []) (L_X12_fair_100 x1 x3_6 x4_7 x5_9 x6_13 n x7_17 h_18) N h_18 (rq q) 0 0 100 [(0, .ref (xB X + 111)), (1, .int x1), (2, .int x2_5), (3, .int x3_6), (4, .int x4_7), (5, .int x5_9), (6, .int x6_13), (7, .int x7_17)] [] := by
  intro n
  induction n with
  | zero => intro _ _; exact wG_none
  | succ n ih =>
    intro x7_17 h_18
    refine wG_of (L_X12_fair_100.eq_2 ..) ?_
    refine wG_iload C dX12_fair_100 7 rfl ?_
    refine wG_iload C dX12_fair_102 5 rfl ?_
    refine wG_iadd C dX12_fair_104 ?_
    refine wG_aload_n C dX12_fair_105 0 rfl ?_
    refine wG_getI C fl_X12_20_8 rfl kd_111 (wll hN (by decide)) dX12_fair_106 ?_
    refine wG_icmp_gt C dX12_fair_109 ?_ ?_
    · exact wG_exit (fun Q e => gQ_lv [0, 1, 2, 3, 4, 5, 6] rfl e)
    · refine wG_iconst C dX12_fair_112 (v := 0) (by decide) ?_
      refine wG_nmI (fun x8_20 => ?_)
      refine wG_istore C (L' := [(0, .ref (xB X + 111)), (1, .int x1), (2, .int x2_5), (3, .int x3_6), (4, .int x4_7), (5, .int x5_9), (6, .int x6_13), (7, .int x7_17), (8, .int x8_20)]) dX12_fair_113 (by decide) [1, 2, 3, 4, 5, 6, 7, 8, 0] rfl ?_
      refine wG_lv (L' := [(0, .ref (xB X + 111)), (1, .int x1), (2, .int x2_5), (3, .int x3_6), (4, .int x4_7), (5, .int x5_9), (6, .int x6_13), (7, .int x7_17), (8, .int x8_20)]) [0, 1, 2, 3, 4, 5, 6, 7, 8] rfl ?_
      refine wG_bind (wL_X12_fair_115 C hN h x1 h_1 u_2 u_3 u_4 x2_5 x3_6 x4_7 x5_8 x5_9 h_10 x6_12 x6_13 h_14 x7_16 x7_17 h_18 x8_20 FU x8_20 h_18) (fun t_23 => (?_ : wG X 11 _ _ N t_23 (rq q) 0 0 210 [(0, .ref (xB X + 111)), (1, .int x1), (2, .int x2_5), (3, .int x3_6), (4, .int x4_7), (5, .int x5_9), (6, .int x6_13), (7, .int x7_17)] []))
      refine wG_iinc C (v := 1) (LL := fun x7_32 => [(0, .ref (xB X + 111)), (1, .int x1), (2, .int x2_5), (3, .int x3_6), (4, .int x4_7), (5, .int x5_9), (6, .int x6_13), (7, .int x7_32)]) dX12_fair_210 7 rfl (by decide) (by decide) [1, 2, 3, 4, 5, 6, 7, 0] (fun _ => rfl) (fun x7_32 => ?_)
      refine wG_goto C dX12_fair_213 ?_
      exact wG_lv [0, 1, 2, 3, 4, 5, 6, 7] rfl (ih x7_32 t_23)
set_option maxRecDepth 4000 in
theorem wL_X12_fair_88 {X : wX} (C : Cx X yX12_fair cX12_fair 11 (some .int) rm_X12_fair) {N : Nat} {q : Qp} (hN : 137 ≤ N) (h : Hp) (x1 : Int32) (h_1 : Hp) (u_2 : Int32) (u_3 : Hp) (u_4 : Int32) (x2_5 : Int32) (x3_6 : Int32) (x4_7 : Int32) (x5_8 : Int32) (x5_9 : Int32) (h_10 : Hp) (x6_12 : Int32) : ∀ n x6_13 h_14, wG X 11 (fun (t_15 : Hp) Q => gQ X 11 Q N t_15 (rq q) 0 0 222 [(0, .ref (xB X + 111)), (1, .int x1), (2, .int x2_5), (3, .int x3_6), (4, .int x4_7), (5, .int x5_9)] []) (L_X12_fair_88 x1 x3_6 x4_7 x5_9 n x6_13 h_14) N h_14 (rq q) 0 0 88 [(0, .ref (xB X + 111)), (1, .int x1), (2, .int x2_5), (3, .int x3_6), (4, .int x4_7), (5, .int x5_9), (6, .int x6_13)] [] := by
  intro n
  induction n with
  | zero => intro _ _; exact wG_none
  | succ n ih =>
    intro x6_13 h_14
    refine wG_of (L_X12_fair_88.eq_2 ..) ?_
    refine wG_iload C dX12_fair_88 6 rfl ?_
    refine wG_aload_n C dX12_fair_90 0 rfl ?_
    refine wG_getI C fl_X12_23_8 rfl kd_111 (wll hN (by decide)) dX12_fair_91 ?_
    refine wG_icmp_gt C dX12_fair_94 ?_ ?_
    · exact wG_exit (fun Q e => gQ_lv [0, 1, 2, 3, 4, 5] rfl e)
    · refine wG_iconst C dX12_fair_97 (v := 0) (by decide) ?_
      refine wG_nmI (fun x7_16 => ?_)
      refine wG_istore C (L' := [(0, .ref (xB X + 111)), (1, .int x1), (2, .int x2_5), (3, .int x3_6), (4, .int x4_7), (5, .int x5_9), (6, .int x6_13), (7, .int x7_16)]) dX12_fair_98 (by decide) [1, 2, 3, 4, 5, 6, 7, 0] rfl ?_
      refine wG_lv (L' := [(0, .ref (xB X + 111)), (1, .int x1), (2, .int x2_5), (3, .int x3_6), (4, .int x4_7), (5, .int x5_9), (6, .int x6_13), (7, .int x7_16)]) [0, 1, 2, 3, 4, 5, 6, 7] rfl ?_
      refine wG_bind (wL_X12_fair_100 C hN h x1 h_1 u_2 u_3 u_4 x2_5 x3_6 x4_7 x5_8 x5_9 h_10 x6_12 x6_13 h_14 x7_16 FU x7_16 h_14) (fun t_19 => (?_ : wG X 11 _ _ N t_19 (rq q) 0 0 216 [(0, .ref (xB X + 111)), (1, .int x1), (2, .int x2_5), (3, .int x3_6), (4, .int x4_7), (5, .int x5_9), (6, .int x6_13)] []))
      refine wG_iinc C (v := 1) (LL := fun x6_33 => [(0, .ref (xB X + 111)), (1, .int x1), (2, .int x2_5), (3, .int x3_6), (4, .int x4_7), (5, .int x5_9), (6, .int x6_33)]) dX12_fair_216 6 rfl (by decide) (by decide) [1, 2, 3, 4, 5, 6, 0] (fun _ => rfl) (fun x6_33 => ?_)
      refine wG_goto C dX12_fair_219 ?_
      exact wG_lv [0, 1, 2, 3, 4, 5, 6] rfl (ih x6_33 t_19)
set_option maxRecDepth 4000 in
theorem wL_X12_fair_76 {X : wX} (C : Cx X yX12_fair cX12_fair 11 (some .int) rm_X12_fair) {N : Nat} {q : Qp} (hN : 137 ≤ N) (h : Hp) (x1 : Int32) (h_1 : Hp) (u_2 : Int32) (u_3 : Hp) (u_4 : Int32) (x2_5 : Int32) (x3_6 : Int32) (x4_7 : Int32) (x5_8 : Int32) : ∀ n x5_9 h_10, wG X 11 (fun (t_11 : Hp) Q => gQ X 11 Q N t_11 (rq q) 0 0 228 [(0, .ref (xB X + 111)), (2, .int x2_5)] []) (L_X12_fair_76 x1 x3_6 x4_7 n x5_9 h_10) N h_10 (rq q) 0 0 76 [(0, .ref (xB X + 111)), (1, .int x1), (2, .int x2_5), (3, .int x3_6), (4, .int x4_7), (5, .int x5_9)] [] := by
  intro n
  induction n with
  | zero => intro _ _; exact wG_none
  | succ n ih =>
    intro x5_9 h_10
    refine wG_of (L_X12_fair_76.eq_2 ..) ?_
    refine wG_iload C dX12_fair_76 5 rfl ?_
    refine wG_aload_n C dX12_fair_78 0 rfl ?_
    refine wG_getI C fl_X12_20_8 rfl kd_111 (wll hN (by decide)) dX12_fair_79 ?_
    refine wG_icmp_gt C dX12_fair_82 ?_ ?_
    · exact wG_exit (fun Q e => gQ_lv [0, 2] rfl e)
    · refine wG_iconst C dX12_fair_85 (v := 1) (by decide) ?_
      refine wG_nmI (fun x6_12 => ?_)
      refine wG_istore C (L' := [(0, .ref (xB X + 111)), (1, .int x1), (2, .int x2_5), (3, .int x3_6), (4, .int x4_7), (5, .int x5_9), (6, .int x6_12)]) dX12_fair_86 (by decide) [1, 2, 3, 4, 5, 6, 0] rfl ?_
      refine wG_lv (L' := [(0, .ref (xB X + 111)), (1, .int x1), (2, .int x2_5), (3, .int x3_6), (4, .int x4_7), (5, .int x5_9), (6, .int x6_12)]) [0, 1, 2, 3, 4, 5, 6] rfl ?_
      refine wG_bind (wL_X12_fair_88 C hN h x1 h_1 u_2 u_3 u_4 x2_5 x3_6 x4_7 x5_8 x5_9 h_10 x6_12 FU x6_12 h_10) (fun t_15 => (?_ : wG X 11 _ _ N t_15 (rq q) 0 0 222 [(0, .ref (xB X + 111)), (1, .int x1), (2, .int x2_5), (3, .int x3_6), (4, .int x4_7), (5, .int x5_9)] []))
      refine wG_iinc C (v := 1) (LL := fun x5_34 => [(0, .ref (xB X + 111)), (1, .int x1), (2, .int x2_5), (3, .int x3_6), (4, .int x4_7), (5, .int x5_34)]) dX12_fair_222 5 rfl (by decide) (by decide) [1, 2, 3, 4, 5, 0] (fun _ => rfl) (fun x5_34 => ?_)
      refine wG_goto C dX12_fair_225 ?_
      exact wG_lv [0, 1, 2, 3, 4, 5] rfl (ih x5_34 t_15)
set_option maxRecDepth 4000 in
theorem w_X12_fair {X : wX} (C : Cx X yX12_fair cX12_fair 11 (some .int) rm_X12_fair) {N : Nat} {q : Qp} (hN : 137 ≤ N) (h : Hp) (x1 : Int32) : wG X 11 (eM X (fun u => (some (.int u.1), N, u.2, (rq q)))) (f_X12_fair h x1) N h (rq q) 0 0 0 [(0, .ref (xB X + 111)), (1, .int x1)] [] := by
  refine wG_of (f_X12_fair.eq_1 ..) ?_
  refine wG_aload_n C dX12_fair_0 0 rfl ?_
  refine wG_iconst C dX12_fair_1 (v := 0) (by decide) ?_
  refine wG_putI C fl_X12_1_8 (fp_8_0 _) (fun e => Bool.noConfusion e) rfl kd_111 (wll hN (by decide)) dX12_fair_2 (fun h_1 => ?_)
  refine wG_iload_n C dX12_fair_5 1 rfl ?_
  refine wG_i2l C dX12_fair_6 ?_
  refine wG_lconst C dX12_fair_7 (v := 1) (by decide) ?_
  refine wG_ldc2 C dX12_fair_8 m_1271 ?_
  refine wG_cS_ri [.long x1.toInt64, .long 1, .long 36] [] C sw_X12_113 (c_X12_in (xl X) (xE X) N q hN h_1 x1.toInt64 1 36) (by decide) rfl rfl (Nat.le_of_ble_eq_true rfl) dX12_fair_11 (cl' := 0) (sl' := 0) rfl rfl (fun u_2 => ?_)
  refine wG_if_ne C dX12_fair_14 ?_ ?_
  · refine wG_bipush C dX12_fair_17 (v := (-2)) (by decide) ?_
    exact wG_iret C dX12_fair_19 ⟨by decide, by decide⟩ (fun _ e => e)
  · refine wG_aload_n C dX12_fair_20 0 rfl ?_
    refine wG_cV_wv [] [] C vw_X12_271 (c_X12_layBlocks (xl X) (xE X) N q hN h_1) kd_111 (wll hN (by decide)) (by decide) rfl rfl (Nat.le_of_ble_eq_true rfl) dX12_fair_21 (cl' := 0) (sl' := 0) rfl rfl (fun u_3 => ?_)
    refine wG_iconst C dX12_fair_24 (v := 0) (by decide) ?_
    refine wG_iconst C dX12_fair_25 (v := 0) (by decide) ?_
    refine wG_aload_n C dX12_fair_26 0 rfl ?_
    refine wG_getI C fl_X12_20_8 rfl kd_111 (wll hN (by decide)) dX12_fair_27 ?_
    refine wG_aload_n C dX12_fair_30 0 rfl ?_
    refine wG_getI C fl_X12_23_8 rfl kd_111 (wll hN (by decide)) dX12_fair_31 ?_
    refine wG_cS_ri [.int 0, .int 0, .int (u_3 111 4), .int (u_3 111 5)] [] C sw_X12_265 (c_X12_block (xl X) (xE X) N q hN u_3 0 0 (u_3 111 4) (u_3 111 5)) (by decide) rfl rfl (Nat.le_of_ble_eq_true rfl) dX12_fair_34 (cl' := 0) (sl' := 0) rfl rfl (fun u_4 => ?_)
    refine wG_nmI (fun x2_5 => ?_)
    refine wG_istore_n C (L' := [(0, .ref (xB X + 111)), (1, .int x1), (2, .int x2_5)]) dX12_fair_37 (by decide) [1, 2, 0] rfl ?_
    refine wG_aload_n C dX12_fair_38 0 rfl ?_
    refine wG_getR C fl_X12_75_8 rfl kd_111 (wll hN (by decide)) (rf_111_30 q) dX12_fair_39 ?_
    refine wG_iload_n C dX12_fair_42 2 rfl ?_
    refine wG_iald C kd_129 (wll hN (by decide)) ln_129 dX12_fair_43 ?_
    refine wG_nmI (fun x3_6 => ?_)
    refine wG_istore_n C (L' := [(0, .ref (xB X + 111)), (1, .int x1), (2, .int x2_5), (3, .int x3_6)]) dX12_fair_44 (by decide) [1, 2, 3, 0] rfl ?_
    refine wG_aload_n C dX12_fair_45 0 rfl ?_
    refine wG_getR C fl_X12_78_8 rfl kd_111 (wll hN (by decide)) (rf_111_31 q) dX12_fair_46 ?_
    refine wG_iload_n C dX12_fair_49 2 rfl ?_
    refine wG_iald C kd_130 (wll hN (by decide)) ln_130 dX12_fair_50 ?_
    refine wG_nmI (fun x4_7 => ?_)
    refine wG_istore C (L' := [(0, .ref (xB X + 111)), (1, .int x1), (2, .int x2_5), (3, .int x3_6), (4, .int x4_7)]) dX12_fair_51 (by decide) [1, 2, 3, 4, 0] rfl ?_
    refine wG_iload_n C dX12_fair_53 3 rfl ?_
    refine wG_if_eq C dX12_fair_54 ?_ ?_
    · refine wG_bipush C dX12_fair_70 (v := (-9)) (by decide) ?_
      exact wG_iret C dX12_fair_72 ⟨by decide, by decide⟩ (fun _ e => e)
    · refine wG_iload_n C dX12_fair_57 3 rfl ?_
      refine wG_iload_n C dX12_fair_58 1 rfl ?_
      refine wG_irem C dX12_fair_59 ?_
      refine wG_if_gt C dX12_fair_60 ?_ ?_
      · refine wG_bipush C dX12_fair_70 (v := (-9)) (by decide) ?_
        exact wG_iret C dX12_fair_72 ⟨by decide, by decide⟩ (fun _ e => e)
      · refine wG_iload C dX12_fair_63 4 rfl ?_
        refine wG_iload_n C dX12_fair_65 1 rfl ?_
        refine wG_irem C dX12_fair_66 ?_
        refine wG_if_le C dX12_fair_67 ?_ ?_
        · refine wG_iconst C dX12_fair_73 (v := 1) (by decide) ?_
          refine wG_nmI (fun x5_8 => ?_)
          refine wG_istore C (L' := [(0, .ref (xB X + 111)), (1, .int x1), (2, .int x2_5), (3, .int x3_6), (4, .int x4_7), (5, .int x5_8)]) dX12_fair_74 (by decide) [1, 2, 3, 4, 5, 0] rfl ?_
          refine wG_lv (L' := [(0, .ref (xB X + 111)), (1, .int x1), (2, .int x2_5), (3, .int x3_6), (4, .int x4_7), (5, .int x5_8)]) [0, 1, 2, 3, 4, 5] rfl ?_
          refine wG_bind (wL_X12_fair_76 C hN h x1 h_1 u_2 u_3 u_4 x2_5 x3_6 x4_7 x5_8 FU x5_8 u_3) (fun t_11 => (?_ : wG X 11 _ _ N t_11 (rq q) 0 0 228 [(0, .ref (xB X + 111)), (2, .int x2_5)] []))
          refine wG_aload_n C dX12_fair_228 0 rfl ?_
          refine wG_getR C fl_X12_84_8 rfl kd_111 (wll hN (by decide)) (rf_111_33 q) dX12_fair_229 ?_
          refine wG_iload_n C dX12_fair_232 1 rfl ?_
          refine wG_iald C kd_132 (wll hN (by decide)) ln_132 dX12_fair_233 ?_
          refine wG_ldc C dX12_fair_234 m_1292 ?_
          refine wG_icmp_ge C dX12_fair_236 ?_ ?_
          · refine wG_bipush C dX12_fair_248 (v := (-9)) (by decide) ?_
            exact wG_iret C dX12_fair_250 ⟨by decide, by decide⟩ (fun _ e => e)
          · refine wG_aload_n C dX12_fair_239 0 rfl ?_
            refine wG_getR C fl_X12_84_8 rfl kd_111 (wll hN (by decide)) (rf_111_33 q) dX12_fair_240 ?_
            refine wG_iload_n C dX12_fair_243 1 rfl ?_
            refine wG_iald C kd_132 (wll hN (by decide)) ln_132 dX12_fair_244 ?_
            refine wG_goto C dX12_fair_245 ?_
            exact wG_iret C dX12_fair_250 ⟨by decide, by decide⟩ (fun _ e => e)
        · refine wG_bipush C dX12_fair_70 (v := (-9)) (by decide) ?_
          exact wG_iret C dX12_fair_72 ⟨by decide, by decide⟩ (fun _ e => e)
theorem c_X12_fair (l : Launch) (E : wE) (N : Nat) (q : Qp) (hN : 137 ≤ N) (h : Hp) (x1 : Int32) : ∀ z, f_X12_fair h x1 = some z → CT l E yX12_fair cX12_fair 11 (some .int) rm_X12_fair [.ref (eB E + 111), .int x1] N h (rq q) ((fun u => (some (.int u.1), N, u.2, (rq q))) z) := CT.of (by decide +kernel) (Nat.le_of_ble_eq_true rfl) (fun X _ e C => by subst e; exact w_X12_fair C hN h x1)
def rm_X12_noBlock : Room := { frames := 0, cells := 0, slots := 0, locals := 0 }
def f_X12_noBlock (h : Hp) (x1 : Int32) : Option Int32 :=
  vB (x1 / 1000) fun (x2_1 : Int32) =>
  vB ((x1 / 100) - (x1 / 100) / 10 * 10) fun (x3_2 : Int32) =>
  vB ((x1 / 10) - (x1 / 10) / 10 * 10) fun (x4_3 : Int32) =>
  vB (x1 - x1 / 10 * 10) fun (x5_4 : Int32) =>
  (if x1 < 0 then
  some 1
  else
  (if x4_3 < 1 then
  some 1
  else
  (if x5_4 < 1 then
  some 1
  else
  (if (h 111 4) < (x2_1 + x4_3) then
  some 1
  else
  (if (x3_2 + x5_4) ≤ (h 111 5) then
  some 0
  else
  some 1)))))
set_option maxRecDepth 4000 in
theorem w_X12_noBlock {X : wX} (C : Cx X yX12_noBlock cX12_noBlock 6 (some .boolean) rm_X12_noBlock) {N : Nat} {q : Qp} (hN : 137 ≤ N) (h : Hp) (x1 : Int32) : wG X 6 (eM X (fun u => (some (.int u), N, h, (rq q)))) (f_X12_noBlock h x1) N h (rq q) 0 0 0 [(0, .ref (xB X + 111)), (1, .int x1)] [] := by
  refine wG_of (f_X12_noBlock.eq_1 ..) ?_
  refine wG_iload_n C dX12_noBlock_0 1 rfl ?_
  refine wG_sipush C dX12_noBlock_1 (v := 1000) (by decide) ?_
  refine wG_idivK C dX12_noBlock_4 (by decide) ?_
  refine wG_nmI (fun x2_1 => ?_)
  refine wG_istore_n C (L' := [(0, .ref (xB X + 111)), (1, .int x1), (2, .int x2_1)]) dX12_noBlock_5 (by decide) [1, 2, 0] rfl ?_
  refine wG_iload_n C dX12_noBlock_6 1 rfl ?_
  refine wG_bipush C dX12_noBlock_7 (v := 100) (by decide) ?_
  refine wG_idivK C dX12_noBlock_9 (by decide) ?_
  refine wG_bipush C dX12_noBlock_10 (v := 10) (by decide) ?_
  refine wG_iremK C dX12_noBlock_12 (by decide) ?_
  refine wG_nmI (fun x3_2 => ?_)
  refine wG_istore_n C (L' := [(0, .ref (xB X + 111)), (1, .int x1), (2, .int x2_1), (3, .int x3_2)]) dX12_noBlock_13 (by decide) [1, 2, 3, 0] rfl ?_
  refine wG_iload_n C dX12_noBlock_14 1 rfl ?_
  refine wG_bipush C dX12_noBlock_15 (v := 10) (by decide) ?_
  refine wG_idivK C dX12_noBlock_17 (by decide) ?_
  refine wG_bipush C dX12_noBlock_18 (v := 10) (by decide) ?_
  refine wG_iremK C dX12_noBlock_20 (by decide) ?_
  refine wG_nmI (fun x4_3 => ?_)
  refine wG_istore C (L' := [(0, .ref (xB X + 111)), (1, .int x1), (2, .int x2_1), (3, .int x3_2), (4, .int x4_3)]) dX12_noBlock_21 (by decide) [1, 2, 3, 4, 0] rfl ?_
  refine wG_iload_n C dX12_noBlock_23 1 rfl ?_
  refine wG_bipush C dX12_noBlock_24 (v := 10) (by decide) ?_
  refine wG_iremK C dX12_noBlock_26 (by decide) ?_
  refine wG_nmI (fun x5_4 => ?_)
  refine wG_istore C (L' := [(0, .ref (xB X + 111)), (1, .int x1), (2, .int x2_1), (3, .int x3_2), (4, .int x4_3), (5, .int x5_4)]) dX12_noBlock_27 (by decide) [1, 2, 3, 4, 5, 0] rfl ?_
  refine wG_iload_n C dX12_noBlock_29 1 rfl ?_
  refine wG_if_lt C dX12_noBlock_30 ?_ ?_
  · refine wG_iconst C dX12_noBlock_67 (v := 1) (by decide) ?_
    refine wG_goto C dX12_noBlock_68 ?_
    exact wG_zret C dX12_noBlock_72 rfl ⟨by decide, by decide⟩ (fun _ e => e)
  · refine wG_iload C dX12_noBlock_33 4 rfl ?_
    refine wG_iconst C dX12_noBlock_35 (v := 1) (by decide) ?_
    refine wG_icmp_lt C dX12_noBlock_36 ?_ ?_
    · refine wG_iconst C dX12_noBlock_67 (v := 1) (by decide) ?_
      refine wG_goto C dX12_noBlock_68 ?_
      exact wG_zret C dX12_noBlock_72 rfl ⟨by decide, by decide⟩ (fun _ e => e)
    · refine wG_iload C dX12_noBlock_39 5 rfl ?_
      refine wG_iconst C dX12_noBlock_41 (v := 1) (by decide) ?_
      refine wG_icmp_lt C dX12_noBlock_42 ?_ ?_
      · refine wG_iconst C dX12_noBlock_67 (v := 1) (by decide) ?_
        refine wG_goto C dX12_noBlock_68 ?_
        exact wG_zret C dX12_noBlock_72 rfl ⟨by decide, by decide⟩ (fun _ e => e)
      · refine wG_iload_n C dX12_noBlock_45 2 rfl ?_
        refine wG_iload C dX12_noBlock_46 4 rfl ?_
        refine wG_iadd C dX12_noBlock_48 ?_
        refine wG_aload_n C dX12_noBlock_49 0 rfl ?_
        refine wG_getI C fl_X12_20_8 rfl kd_111 (wll hN (by decide)) dX12_noBlock_50 ?_
        refine wG_icmp_gt C dX12_noBlock_53 ?_ ?_
        · refine wG_iconst C dX12_noBlock_67 (v := 1) (by decide) ?_
          refine wG_goto C dX12_noBlock_68 ?_
          exact wG_zret C dX12_noBlock_72 rfl ⟨by decide, by decide⟩ (fun _ e => e)
        · refine wG_iload_n C dX12_noBlock_56 3 rfl ?_
          refine wG_iload C dX12_noBlock_57 5 rfl ?_
          refine wG_iadd C dX12_noBlock_59 ?_
          refine wG_aload_n C dX12_noBlock_60 0 rfl ?_
          refine wG_getI C fl_X12_23_8 rfl kd_111 (wll hN (by decide)) dX12_noBlock_61 ?_
          refine wG_icmp_le C dX12_noBlock_64 ?_ ?_
          · refine wG_iconst C dX12_noBlock_71 (v := 0) (by decide) ?_
            exact wG_zret C dX12_noBlock_72 rfl ⟨by decide, by decide⟩ (fun _ e => e)
          · refine wG_iconst C dX12_noBlock_67 (v := 1) (by decide) ?_
            refine wG_goto C dX12_noBlock_68 ?_
            exact wG_zret C dX12_noBlock_72 rfl ⟨by decide, by decide⟩ (fun _ e => e)
theorem c_X12_noBlock (l : Launch) (E : wE) (N : Nat) (q : Qp) (hN : 137 ≤ N) (h : Hp) (x1 : Int32) : ∀ z, f_X12_noBlock h x1 = some z → CT l E yX12_noBlock cX12_noBlock 6 (some .boolean) rm_X12_noBlock [.ref (eB E + 111), .int x1] N h (rq q) ((fun u => (some (.int u), N, h, (rq q))) z) := CT.of (by decide +kernel) (Nat.le_of_ble_eq_true rfl) (fun X _ e C => by subst e; exact w_X12_noBlock C hN h x1)
def rm_X12_left : Room := { frames := 1, cells := 0, slots := 0, locals := 25 }
def L_X12_left_17 (x1 : Int32) (h_1 : Hp) (K : Unit → Option (Int32 × Hp)) : Nat → Int32 → Option (Int32 × Hp)
  | 0, _ => none
  | n + 1, x2_4 =>
    (if (h_1 111 35) ≤ x2_4 then
    K ()
    else
    if inB x2_4 6 then
    (f_X12_meets x1 (h_1 133 (ix x2_4))).bind fun u_6 =>
    (if u_6 = 0 then
    vB (x2_4 + 1) fun (x2_7 : Int32) =>
    L_X12_left_17 x1 h_1 K n x2_7
    else
    some ((-3), h_1)) else none)
def f_X12_left (h : Hp) (x1 : Int32) : Option (Int32 × Hp) :=
  vB (u2 h 111 0 0) fun h_1 =>
  (f_X12_noBlock h_1 x1).bind fun u_2 =>
  (if u_2 = 0 then
  vB 0 fun (x2_3 : Int32) =>
  L_X12_left_17 x1 h_1 (fun (t_5 : Unit) =>
  (if (h_1 111 35) = 6 then
  some ((-4), h_1)
  else
  if inB (h_1 111 35) 6 then vB (u2 h_1 133 (ix (h_1 111 35)) x1) fun h_8 =>
  vB (u2 h_8 111 35 ((h_8 111 35) + 1)) fun h_9 =>
  some ((h_9 111 35), h_9) else none)) FU x2_3
  else
  some ((-1), h_1))
set_option maxRecDepth 4000 in
theorem wL_X12_left_17 {X : wX} (C : Cx X yX12_left cX12_left 3 (some .int) rm_X12_left) {N : Nat} {q : Qp} (hN : 137 ≤ N) (h : Hp) (x1 : Int32) (h_1 : Hp) (u_2 : Int32) (x2_3 : Int32) (K : Unit → Option (Int32 × Hp)) (hK : ∀ t_5, wG X 3 (eM X (fun u => (some (.int u.1), N, u.2, (rq q)))) (K t_5) N h_1 (rq q) 0 0 47 [(0, .ref (xB X + 111)), (1, .int x1)] []) : ∀ n x2_4, wG X 3 (eM X (fun u => (some (.int u.1), N, u.2, (rq q)))) (L_X12_left_17 x1 h_1 K n x2_4) N h_1 (rq q) 0 0 17 [(0, .ref (xB X + 111)), (1, .int x1), (2, .int x2_4)] [] := by
  intro n
  induction n with
  | zero => intro _; exact wG_none
  | succ n ih =>
    intro x2_4
    refine wG_of (L_X12_left_17.eq_2 ..) ?_
    refine wG_iload_n C dX12_left_17 2 rfl ?_
    refine wG_aload_n C dX12_left_18 0 rfl ?_
    refine wG_getI C fl_X12_137_8 rfl kd_111 (wll hN (by decide)) dX12_left_19 ?_
    refine wG_icmp_ge C dX12_left_22 ?_ ?_
    · exact wG_lv [0, 1] rfl (hK ())
    · refine wG_iload_n C dX12_left_25 1 rfl ?_
      refine wG_aload_n C dX12_left_26 0 rfl ?_
      refine wG_getR C fl_X12_87_8 rfl kd_111 (wll hN (by decide)) (rf_111_36 q) dX12_left_27 ?_
      refine wG_iload_n C dX12_left_30 2 rfl ?_
      refine wG_iald C kd_133 (wll hN (by decide)) ln_133 dX12_left_31 ?_
      refine wG_cS_ri [.int x1, .int (h_1 133 (ix x2_4))] [] C sw_X12_298 (c_X12_meets (xl X) (xE X) N q hN h_1 x1 (h_1 133 (ix x2_4))) (by decide) rfl rfl (Nat.le_of_ble_eq_true rfl) dX12_left_32 (cl' := 0) (sl' := 0) rfl rfl (fun u_6 => ?_)
      refine wG_if_eq C dX12_left_35 ?_ ?_
      · refine wG_iinc C (v := 1) (LL := fun x2_7 => [(0, .ref (xB X + 111)), (1, .int x1), (2, .int x2_7)]) dX12_left_41 2 rfl (by decide) (by decide) [1, 2, 0] (fun _ => rfl) (fun x2_7 => ?_)
        refine wG_goto C dX12_left_44 ?_
        exact wG_lv [0, 1, 2] rfl (ih x2_7)
      · refine wG_bipush C dX12_left_38 (v := (-3)) (by decide) ?_
        exact wG_iret C dX12_left_40 ⟨by decide, by decide⟩ (fun _ e => e)
set_option maxRecDepth 4000 in
theorem w_X12_left {X : wX} (C : Cx X yX12_left cX12_left 3 (some .int) rm_X12_left) {N : Nat} {q : Qp} (hN : 137 ≤ N) (h : Hp) (x1 : Int32) : wG X 3 (eM X (fun u => (some (.int u.1), N, u.2, (rq q)))) (f_X12_left h x1) N h (rq q) 0 0 0 [(0, .ref (xB X + 111)), (1, .int x1)] [] := by
  refine wG_of (f_X12_left.eq_1 ..) ?_
  refine wG_aload_n C dX12_left_0 0 rfl ?_
  refine wG_iconst C dX12_left_1 (v := 0) (by decide) ?_
  refine wG_putI C fl_X12_1_8 (fp_8_0 _) (fun e => Bool.noConfusion e) rfl kd_111 (wll hN (by decide)) dX12_left_2 (fun h_1 => ?_)
  refine wG_aload_n C dX12_left_5 0 rfl ?_
  refine wG_iload_n C dX12_left_6 1 rfl ?_
  refine wG_cV_ri [.int x1] [] C vw_X12_295 (c_X12_noBlock (xl X) (xE X) N q hN h_1 x1) kd_111 (wll hN (by decide)) (by decide) rfl rfl (Nat.le_of_ble_eq_true rfl) dX12_left_7 (cl' := 0) (sl' := 0) rfl rfl (fun u_2 => ?_)
  refine wG_if_eq C dX12_left_10 ?_ ?_
  · refine wG_iconst C dX12_left_15 (v := 0) (by decide) ?_
    refine wG_nmI (fun x2_3 => ?_)
    refine wG_istore_n C (L' := [(0, .ref (xB X + 111)), (1, .int x1), (2, .int x2_3)]) dX12_left_16 (by decide) [1, 2, 0] rfl ?_
    refine wG_lv (L' := [(0, .ref (xB X + 111)), (1, .int x1), (2, .int x2_3)]) [0, 1, 2] rfl ?_
    refine wL_X12_left_17 C hN h x1 h_1 u_2 x2_3 _ (fun t_5 => (?_ : wG X 3 _ _ N h_1 (rq q) 0 0 47 [(0, .ref (xB X + 111)), (1, .int x1)] [])) FU x2_3
    refine wG_aload_n C dX12_left_47 0 rfl ?_
    refine wG_getI C fl_X12_137_8 rfl kd_111 (wll hN (by decide)) dX12_left_48 ?_
    refine wG_bipush C dX12_left_51 (v := 6) (by decide) ?_
    refine wG_icmp_ne C dX12_left_53 ?_ ?_
    · refine wG_bipush C dX12_left_56 (v := (-4)) (by decide) ?_
      exact wG_iret C dX12_left_58 ⟨by decide, by decide⟩ (fun _ e => e)
    · refine wG_aload_n C dX12_left_59 0 rfl ?_
      refine wG_getR C fl_X12_87_8 rfl kd_111 (wll hN (by decide)) (rf_111_36 q) dX12_left_60 ?_
      refine wG_aload_n C dX12_left_63 0 rfl ?_
      refine wG_getI C fl_X12_137_8 rfl kd_111 (wll hN (by decide)) dX12_left_64 ?_
      refine wG_iload_n C dX12_left_67 1 rfl ?_
      refine wG_iast C kd_133 (wll hN (by decide)) ln_133 dX12_left_68 (fun h_8 => ?_)
      refine wG_aload_n C dX12_left_69 0 rfl ?_
      refine wG_dup C dX12_left_70 rfl ?_
      refine wG_getI C fl_X12_137_8 rfl kd_111 (wll hN (by decide)) dX12_left_71 ?_
      refine wG_iconst C dX12_left_74 (v := 1) (by decide) ?_
      refine wG_iadd C dX12_left_75 ?_
      refine wG_putI C fl_X12_137_8 (fp_8_35 _) (fun e => Bool.noConfusion e) rfl kd_111 (wll hN (by decide)) dX12_left_76 (fun h_9 => ?_)
      refine wG_aload_n C dX12_left_79 0 rfl ?_
      refine wG_getI C fl_X12_137_8 rfl kd_111 (wll hN (by decide)) dX12_left_80 ?_
      exact wG_iret C dX12_left_83 ⟨by decide, by decide⟩ (fun _ e => e)
  · refine wG_iconst C dX12_left_13 (v := (-1)) (by decide) ?_
    exact wG_iret C dX12_left_14 ⟨by decide, by decide⟩ (fun _ e => e)
theorem c_X12_left (l : Launch) (E : wE) (N : Nat) (q : Qp) (hN : 137 ≤ N) (h : Hp) (x1 : Int32) : ∀ z, f_X12_left h x1 = some z → CT l E yX12_left cX12_left 3 (some .int) rm_X12_left [.ref (eB E + 111), .int x1] N h (rq q) ((fun u => (some (.int u.1), N, u.2, (rq q))) z) := CT.of (by decide +kernel) (Nat.le_of_ble_eq_true rfl) (fun X _ e C => by subst e; exact w_X12_left C hN h x1)
def rm_X12_read : Room := { frames := 3, cells := 0, slots := 0, locals := 85 }
def L_X12_read_77 (h_16 : Hp) (x5_18 : Int32) : Nat → Int32 → Int32 → Option Int32
  | 0, _, _ => none
  | n + 1, x6_21, x7_22 =>
    (if (h_16 111 35) ≤ x7_22 then
    some x6_21
    else
    ((if x6_21 = 0 then
    some 0
    else
    if inB x7_22 6 then
    (f_X12_meets x5_18 (h_16 133 (ix x7_22))).bind fun u_25 =>
    vK (fun (t_26 : Unit) =>
    some 1) fun K_27 =>
    (if u_25 = 0 then
    K_27 ()
    else
    if inB x7_22 6 then
    (if x5_18 = (h_16 133 (ix x7_22)) then
    K_27 ()
    else
    some 0) else none) else none)).bind fun t_24 =>
    vB t_24 fun (x6_28 : Int32) =>
    vB (x7_22 + 1) fun (x7_29 : Int32) =>
    L_X12_read_77 h_16 x5_18 n x6_28 x7_29)
def L_X12_read_40 (x1_3 : Int32) (x2_7 : Int32) (x3_11 : Int32) : Nat → Int32 → Hp → Option Hp
  | 0, _, _ => none
  | n + 1, x4_15, h_16 =>
    (if (h_16 111 5) < (x4_15 + x2_7) then
    some h_16
    else
    vB ((((1000 * x3_11) + (100 * x4_15)) + (10 * x1_3)) + x2_7) fun (x5_18 : Int32) =>
    vB 1 fun (x6_19 : Int32) =>
    vB 0 fun (x7_20 : Int32) =>
    (L_X12_read_77 h_16 x5_18 FU x6_19 x7_20).bind fun t_23 =>
    (f_X12_block x3_11 x4_15 x1_3 x2_7).bind fun u_30 =>
    ((if t_23 = 0 then
    (f_X12_bestOf h_16 x3_11 x4_15 x1_3 x2_7 0 1).bind fun u_32 =>
    some u_32
    else
    some 0)).bind fun t_31 =>
    if inB u_30 1296 then vB (u2 h_16 132 (ix u_30) t_31) fun h_33 =>
    vB (x4_15 + 1) fun (x4_34 : Int32) =>
    L_X12_read_40 x1_3 x2_7 x3_11 n x4_34 h_33 else none)
def L_X12_read_27 (x1_3 : Int32) (x2_7 : Int32) : Nat → Int32 → Hp → Option Hp
  | 0, _, _ => none
  | n + 1, x3_11, h_12 =>
    (if (h_12 111 4) < (x3_11 + x1_3) then
    some h_12
    else
    vB 0 fun (x4_14 : Int32) =>
    (L_X12_read_40 x1_3 x2_7 x3_11 FU x4_14 h_12).bind fun t_17 =>
    vB (x3_11 + 1) fun (x3_35 : Int32) =>
    L_X12_read_27 x1_3 x2_7 n x3_35 t_17)
def L_X12_read_17 (x1_3 : Int32) : Nat → Int32 → Hp → Option Hp
  | 0, _, _ => none
  | n + 1, x2_7, h_8 =>
    (if (h_8 111 5) < x2_7 then
    some h_8
    else
    vB 0 fun (x3_10 : Int32) =>
    (L_X12_read_27 x1_3 x2_7 FU x3_10 h_8).bind fun t_13 =>
    vB (x2_7 + 1) fun (x2_36 : Int32) =>
    L_X12_read_17 x1_3 n x2_36 t_13)
def L_X12_read_7  : Nat → Int32 → Hp → Option Hp
  | 0, _, _ => none
  | n + 1, x1_3, h_4 =>
    (if (h_4 111 4) < x1_3 then
    some h_4
    else
    vB 1 fun (x2_6 : Int32) =>
    (L_X12_read_17 x1_3 FU x2_6 h_4).bind fun t_9 =>
    vB (x1_3 + 1) fun (x1_37 : Int32) =>
    L_X12_read_7 n x1_37 t_9)
def f_X12_read (h : Hp) : Option (Int32 × Hp) :=
  vB (u2 h 111 0 0) fun h_1 =>
  vB 1 fun (x1_2 : Int32) =>
  (L_X12_read_7 FU x1_2 h_1).bind fun t_5 =>
  (f_X12_block 0 0 (t_5 111 4) (t_5 111 5)).bind fun u_38 =>
  if inB u_38 1296 then
  vB (t_5 132 (ix u_38)) fun (x1_39 : Int32) =>
  (if (1000000 : Int32) ≤ x1_39 then
  some ((-9), t_5)
  else
  some (x1_39, t_5)) else none
set_option maxRecDepth 4000 in
theorem wL_X12_read_77 {X : wX} (C : Cx X yX12_read cX12_read 8 (some .int) rm_X12_read) {N : Nat} {q : Qp} (hN : 137 ≤ N) (h : Hp) (h_1 : Hp) (x1_2 : Int32) (x1_3 : Int32) (h_4 : Hp) (x2_6 : Int32) (x2_7 : Int32) (h_8 : Hp) (x3_10 : Int32) (x3_11 : Int32) (h_12 : Hp) (x4_14 : Int32) (x4_15 : Int32) (h_16 : Hp) (x5_18 : Int32) (x6_19 : Int32) (x7_20 : Int32) : ∀ n x6_21 x7_22, wG X 8 (fun (t_23 : Int32) Q => gQ X 8 Q N h_16 (rq q) 0 0 131 [(0, .ref (xB X + 111)), (1, .int x1_3), (2, .int x2_7), (3, .int x3_11), (4, .int x4_15), (6, .int t_23)] []) (L_X12_read_77 h_16 x5_18 n x6_21 x7_22) N h_16 (rq q) 0 0 77 [(0, .ref (xB X + 111)), (1, .int x1_3), (2, .int x2_7), (3, .int x3_11), (4, .int x4_15), (5, .int x5_18), (6, .int x6_21), (7, .int x7_22)] [] := by
  intro n
  induction n with
  | zero => intro _ _; exact wG_none
  | succ n ih =>
    intro x6_21 x7_22
    refine wG_of (L_X12_read_77.eq_2 ..) ?_
    refine wG_iload C dX12_read_77 7 rfl ?_
    refine wG_aload_n C dX12_read_79 0 rfl ?_
    refine wG_getI C fl_X12_137_8 rfl kd_111 (wll hN (by decide)) dX12_read_80 ?_
    refine wG_icmp_ge C dX12_read_83 ?_ ?_
    · exact wG_exit (fun Q e => gQ_lv [0, 1, 2, 3, 4, 6] rfl e)
    · refine wG_iload C dX12_read_86 6 rfl ?_
      refine wG_bind (J := (fun (t_24 : Int32) Q => gQ X 8 Q N h_16 (rq q) 0 0 123 [(0, .ref (xB X + 111)), (1, .int x1_3), (2, .int x2_7), (3, .int x3_11), (4, .int x4_15), (5, .int x5_18), (7, .int x7_22)] [.int t_24])) ?_ (fun t_24 => (?_ : wG X 8 _ _ N h_16 (rq q) 0 0 123 [(0, .ref (xB X + 111)), (1, .int x1_3), (2, .int x2_7), (3, .int x3_11), (4, .int x4_15), (5, .int x5_18), (7, .int x7_22)] [.int t_24]))
      · refine wG_if_eq C dX12_read_88 ?_ ?_
        · refine wG_iconst C dX12_read_122 (v := 0) (by decide) ?_
          exact wG_exit (fun Q e => gQ_lv [0, 1, 2, 3, 4, 5, 7] rfl e)
        · refine wG_iload C dX12_read_91 5 rfl ?_
          refine wG_aload_n C dX12_read_93 0 rfl ?_
          refine wG_getR C fl_X12_87_8 rfl kd_111 (wll hN (by decide)) (rf_111_36 q) dX12_read_94 ?_
          refine wG_iload C dX12_read_97 7 rfl ?_
          refine wG_iald C kd_133 (wll hN (by decide)) ln_133 dX12_read_99 ?_
          refine wG_cS_ri [.int x5_18, .int (h_16 133 (ix x7_22))] [] C sw_X12_298 (c_X12_meets (xl X) (xE X) N q hN h_16 x5_18 (h_16 133 (ix x7_22))) (by decide) rfl rfl (Nat.le_of_ble_eq_true rfl) dX12_read_100 (cl' := 0) (sl' := 0) rfl rfl (fun u_25 => ?_)
          refine wG_vK (fun t_26 => (?_ : wG X 8 _ _ N h_16 (rq q) 0 0 118 [(0, .ref (xB X + 111)), (1, .int x1_3), (2, .int x2_7), (3, .int x3_11), (4, .int x4_15), (5, .int x5_18), (7, .int x7_22)] [])) (fun K_27 hK_K_27 => ?_)
          · refine wG_iconst C dX12_read_118 (v := 1) (by decide) ?_
            refine wG_goto C dX12_read_119 ?_
            exact wG_exit (fun Q e => gQ_lv [0, 1, 2, 3, 4, 5, 6] rfl e)
          · refine wG_if_eq C dX12_read_103 ?_ ?_
            · exact wG_lv [0, 1, 2, 3, 4, 5, 7] rfl (hK_K_27 ())
            · refine wG_iload C dX12_read_106 5 rfl ?_
              refine wG_aload_n C dX12_read_108 0 rfl ?_
              refine wG_getR C fl_X12_87_8 rfl kd_111 (wll hN (by decide)) (rf_111_36 q) dX12_read_109 ?_
              refine wG_iload C dX12_read_112 7 rfl ?_
              refine wG_iald C kd_133 (wll hN (by decide)) ln_133 dX12_read_114 ?_
              refine wG_icmp_ne C dX12_read_115 ?_ ?_
              · exact wG_lv [0, 1, 2, 3, 4, 5, 7] rfl (hK_K_27 ())
              · refine wG_iconst C dX12_read_122 (v := 0) (by decide) ?_
                exact wG_exit (fun Q e => gQ_lv [0, 1, 2, 3, 4, 5, 7] rfl e)
      · refine wG_nmI (fun x6_28 => ?_)
        refine wG_istore C (L' := [(0, .ref (xB X + 111)), (1, .int x1_3), (2, .int x2_7), (3, .int x3_11), (4, .int x4_15), (5, .int x5_18), (6, .int x6_28), (7, .int x7_22)]) dX12_read_123 (by decide) [1, 2, 3, 4, 5, 6, 0, 7] rfl ?_
        refine wG_iinc C (v := 1) (LL := fun x7_29 => [(0, .ref (xB X + 111)), (1, .int x1_3), (2, .int x2_7), (3, .int x3_11), (4, .int x4_15), (5, .int x5_18), (6, .int x6_28), (7, .int x7_29)]) dX12_read_125 7 rfl (by decide) (by decide) [1, 2, 3, 4, 5, 6, 7, 0] (fun _ => rfl) (fun x7_29 => ?_)
        refine wG_goto C dX12_read_128 ?_
        exact wG_lv [0, 1, 2, 3, 4, 5, 6, 7] rfl (ih x6_28 x7_29)
set_option maxRecDepth 4000 in
theorem wL_X12_read_40 {X : wX} (C : Cx X yX12_read cX12_read 8 (some .int) rm_X12_read) {N : Nat} {q : Qp} (hN : 137 ≤ N) (h : Hp) (h_1 : Hp) (x1_2 : Int32) (x1_3 : Int32) (h_4 : Hp) (x2_6 : Int32) (x2_7 : Int32) (h_8 : Hp) (x3_10 : Int32) (x3_11 : Int32) (h_12 : Hp) (x4_14 : Int32) : ∀ n x4_15 h_16, wG X 8 (fun (t_17 : Hp) Q => gQ X 8 Q N t_17 (rq q) 0 0 170 [(0, .ref (xB X + 111)), (1, .int x1_3), (2, .int x2_7), (3, .int x3_11)] []) (L_X12_read_40 x1_3 x2_7 x3_11 n x4_15 h_16) N h_16 (rq q) 0 0 40 [(0, .ref (xB X + 111)), (1, .int x1_3), (2, .int x2_7), (3, .int x3_11), (4, .int x4_15)] [] := by
  intro n
  induction n with
  | zero => intro _ _; exact wG_none
  | succ n ih =>
    intro x4_15 h_16
    refine wG_of (L_X12_read_40.eq_2 ..) ?_
    refine wG_iload C dX12_read_40 4 rfl ?_
    refine wG_iload_n C dX12_read_42 2 rfl ?_
    refine wG_iadd C dX12_read_43 ?_
    refine wG_aload_n C dX12_read_44 0 rfl ?_
    refine wG_getI C fl_X12_23_8 rfl kd_111 (wll hN (by decide)) dX12_read_45 ?_
    refine wG_icmp_gt C dX12_read_48 ?_ ?_
    · exact wG_exit (fun Q e => gQ_lv [0, 1, 2, 3] rfl e)
    · refine wG_sipush C dX12_read_51 (v := 1000) (by decide) ?_
      refine wG_iload_n C dX12_read_54 3 rfl ?_
      refine wG_imul C dX12_read_55 ?_
      refine wG_bipush C dX12_read_56 (v := 100) (by decide) ?_
      refine wG_iload C dX12_read_58 4 rfl ?_
      refine wG_imul C dX12_read_60 ?_
      refine wG_iadd C dX12_read_61 ?_
      refine wG_bipush C dX12_read_62 (v := 10) (by decide) ?_
      refine wG_iload_n C dX12_read_64 1 rfl ?_
      refine wG_imul C dX12_read_65 ?_
      refine wG_iadd C dX12_read_66 ?_
      refine wG_iload_n C dX12_read_67 2 rfl ?_
      refine wG_iadd C dX12_read_68 ?_
      refine wG_nmI (fun x5_18 => ?_)
      refine wG_istore C (L' := [(0, .ref (xB X + 111)), (1, .int x1_3), (2, .int x2_7), (3, .int x3_11), (4, .int x4_15), (5, .int x5_18)]) dX12_read_69 (by decide) [1, 2, 3, 4, 5, 0] rfl ?_
      refine wG_iconst C dX12_read_71 (v := 1) (by decide) ?_
      refine wG_nmI (fun x6_19 => ?_)
      refine wG_istore C (L' := [(0, .ref (xB X + 111)), (1, .int x1_3), (2, .int x2_7), (3, .int x3_11), (4, .int x4_15), (5, .int x5_18), (6, .int x6_19)]) dX12_read_72 (by decide) [1, 2, 3, 4, 5, 6, 0] rfl ?_
      refine wG_iconst C dX12_read_74 (v := 0) (by decide) ?_
      refine wG_nmI (fun x7_20 => ?_)
      refine wG_istore C (L' := [(0, .ref (xB X + 111)), (1, .int x1_3), (2, .int x2_7), (3, .int x3_11), (4, .int x4_15), (5, .int x5_18), (6, .int x6_19), (7, .int x7_20)]) dX12_read_75 (by decide) [1, 2, 3, 4, 5, 6, 7, 0] rfl ?_
      refine wG_lv (L' := [(0, .ref (xB X + 111)), (1, .int x1_3), (2, .int x2_7), (3, .int x3_11), (4, .int x4_15), (5, .int x5_18), (6, .int x6_19), (7, .int x7_20)]) [0, 1, 2, 3, 4, 5, 6, 7] rfl ?_
      refine wG_bind (wL_X12_read_77 C hN h h_1 x1_2 x1_3 h_4 x2_6 x2_7 h_8 x3_10 x3_11 h_12 x4_14 x4_15 h_16 x5_18 x6_19 x7_20 FU x6_19 x7_20) (fun t_23 => (?_ : wG X 8 _ _ N h_16 (rq q) 0 0 131 [(0, .ref (xB X + 111)), (1, .int x1_3), (2, .int x2_7), (3, .int x3_11), (4, .int x4_15), (6, .int t_23)] []))
      refine wG_aload_n C dX12_read_131 0 rfl ?_
      refine wG_getR C fl_X12_84_8 rfl kd_111 (wll hN (by decide)) (rf_111_33 q) dX12_read_132 ?_
      refine wG_iload_n C dX12_read_135 3 rfl ?_
      refine wG_iload C dX12_read_136 4 rfl ?_
      refine wG_iload_n C dX12_read_138 1 rfl ?_
      refine wG_iload_n C dX12_read_139 2 rfl ?_
      refine wG_cS_ri [.int x3_11, .int x4_15, .int x1_3, .int x2_7] [.ref (xB X + 132)] C sw_X12_265 (c_X12_block (xl X) (xE X) N q hN h_16 x3_11 x4_15 x1_3 x2_7) (by decide) rfl rfl (Nat.le_of_ble_eq_true rfl) dX12_read_140 (cl' := 0) (sl' := 0) rfl rfl (fun u_30 => ?_)
      refine wG_iload C dX12_read_143 5 rfl ?_
      refine wG_bind (J := (fun (t_31 : Int32) Q => gQ X 8 Q N h_16 (rq q) 0 0 163 [(0, .ref (xB X + 111)), (1, .int x1_3), (2, .int x2_7), (3, .int x3_11), (4, .int x4_15)] [.int t_31, .int u_30, .ref (xB X + 132)])) ?_ (fun t_31 => (?_ : wG X 8 _ _ N h_16 (rq q) 0 0 163 [(0, .ref (xB X + 111)), (1, .int x1_3), (2, .int x2_7), (3, .int x3_11), (4, .int x4_15)] [.int t_31, .int u_30, .ref (xB X + 132)]))
      · refine wG_if_eq C dX12_read_145 ?_ ?_
        · refine wG_aload_n C dX12_read_152 0 rfl ?_
          refine wG_iload_n C dX12_read_153 3 rfl ?_
          refine wG_iload C dX12_read_154 4 rfl ?_
          refine wG_iload_n C dX12_read_156 1 rfl ?_
          refine wG_iload_n C dX12_read_157 2 rfl ?_
          refine wG_iconst C dX12_read_158 (v := 0) (by decide) ?_
          refine wG_iconst C dX12_read_159 (v := 1) (by decide) ?_
          refine wG_cV_ri [.int x3_11, .int x4_15, .int x1_3, .int x2_7, .int 0, .int 1] [.int u_30, .ref (xB X + 132)] C vw_X12_291 (c_X12_bestOf (xl X) (xE X) N q hN h_16 x3_11 x4_15 x1_3 x2_7 0 1) kd_111 (wll hN (by decide)) (by decide) rfl rfl (Nat.le_of_ble_eq_true rfl) dX12_read_160 (cl' := 0) (sl' := 0) rfl rfl (fun u_32 => ?_)
          exact wG_exit (fun Q e => gQ_lv [0, 1, 2, 3, 4] rfl e)
        · refine wG_iconst C dX12_read_148 (v := 0) (by decide) ?_
          refine wG_goto C dX12_read_149 ?_
          exact wG_exit (fun Q e => gQ_lv [0, 1, 2, 3, 4] rfl e)
      · refine wG_iast C kd_132 (wll hN (by decide)) ln_132 dX12_read_163 (fun h_33 => ?_)
        refine wG_iinc C (v := 1) (LL := fun x4_34 => [(0, .ref (xB X + 111)), (1, .int x1_3), (2, .int x2_7), (3, .int x3_11), (4, .int x4_34)]) dX12_read_164 4 rfl (by decide) (by decide) [1, 2, 3, 4, 0] (fun _ => rfl) (fun x4_34 => ?_)
        refine wG_goto C dX12_read_167 ?_
        exact wG_lv [0, 1, 2, 3, 4] rfl (ih x4_34 h_33)
set_option maxRecDepth 4000 in
theorem wL_X12_read_27 {X : wX} (C : Cx X yX12_read cX12_read 8 (some .int) rm_X12_read) {N : Nat} {q : Qp} (hN : 137 ≤ N) (h : Hp) (h_1 : Hp) (x1_2 : Int32) (x1_3 : Int32) (h_4 : Hp) (x2_6 : Int32) (x2_7 : Int32) (h_8 : Hp) (x3_10 : Int32) : ∀ n x3_11 h_12, wG X 8 (fun (t_13 : Hp) Q => gQ X 8 Q N t_13 (rq q) 0 0 176 [(0, .ref (xB X + 111)), (1, .int x1_3), (2, .int x2_7)] []) (L_X12_read_27 x1_3 x2_7 n x3_11 h_12) N h_12 (rq q) 0 0 27 [(0, .ref (xB X + 111)), (1, .int x1_3), (2, .int x2_7), (3, .int x3_11)] [] := by
  intro n
  induction n with
  | zero => intro _ _; exact wG_none
  | succ n ih =>
    intro x3_11 h_12
    refine wG_of (L_X12_read_27.eq_2 ..) ?_
    refine wG_iload_n C dX12_read_27 3 rfl ?_
    refine wG_iload_n C dX12_read_28 1 rfl ?_
    refine wG_iadd C dX12_read_29 ?_
    refine wG_aload_n C dX12_read_30 0 rfl ?_
    refine wG_getI C fl_X12_20_8 rfl kd_111 (wll hN (by decide)) dX12_read_31 ?_
    refine wG_icmp_gt C dX12_read_34 ?_ ?_
    · exact wG_exit (fun Q e => gQ_lv [0, 1, 2] rfl e)
    · refine wG_iconst C dX12_read_37 (v := 0) (by decide) ?_
      refine wG_nmI (fun x4_14 => ?_)
      refine wG_istore C (L' := [(0, .ref (xB X + 111)), (1, .int x1_3), (2, .int x2_7), (3, .int x3_11), (4, .int x4_14)]) dX12_read_38 (by decide) [1, 2, 3, 4, 0] rfl ?_
      refine wG_lv (L' := [(0, .ref (xB X + 111)), (1, .int x1_3), (2, .int x2_7), (3, .int x3_11), (4, .int x4_14)]) [0, 1, 2, 3, 4] rfl ?_
      refine wG_bind (wL_X12_read_40 C hN h h_1 x1_2 x1_3 h_4 x2_6 x2_7 h_8 x3_10 x3_11 h_12 x4_14 FU x4_14 h_12) (fun t_17 => (?_ : wG X 8 _ _ N t_17 (rq q) 0 0 170 [(0, .ref (xB X + 111)), (1, .int x1_3), (2, .int x2_7), (3, .int x3_11)] []))
      refine wG_iinc C (v := 1) (LL := fun x3_35 => [(0, .ref (xB X + 111)), (1, .int x1_3), (2, .int x2_7), (3, .int x3_35)]) dX12_read_170 3 rfl (by decide) (by decide) [1, 2, 3, 0] (fun _ => rfl) (fun x3_35 => ?_)
      refine wG_goto C dX12_read_173 ?_
      exact wG_lv [0, 1, 2, 3] rfl (ih x3_35 t_17)
set_option maxRecDepth 4000 in
theorem wL_X12_read_17 {X : wX} (C : Cx X yX12_read cX12_read 8 (some .int) rm_X12_read) {N : Nat} {q : Qp} (hN : 137 ≤ N) (h : Hp) (h_1 : Hp) (x1_2 : Int32) (x1_3 : Int32) (h_4 : Hp) (x2_6 : Int32) : ∀ n x2_7 h_8, wG X 8 (fun (t_9 : Hp) Q => gQ X 8 Q N t_9 (rq q) 0 0 182 [(0, .ref (xB X + 111)), (1, .int x1_3)] []) (L_X12_read_17 x1_3 n x2_7 h_8) N h_8 (rq q) 0 0 17 [(0, .ref (xB X + 111)), (1, .int x1_3), (2, .int x2_7)] [] := by
  intro n
  induction n with
  | zero => intro _ _; exact wG_none
  | succ n ih =>
    intro x2_7 h_8
    refine wG_of (L_X12_read_17.eq_2 ..) ?_
    refine wG_iload_n C dX12_read_17 2 rfl ?_
    refine wG_aload_n C dX12_read_18 0 rfl ?_
    refine wG_getI C fl_X12_23_8 rfl kd_111 (wll hN (by decide)) dX12_read_19 ?_
    refine wG_icmp_gt C dX12_read_22 ?_ ?_
    · exact wG_exit (fun Q e => gQ_lv [0, 1] rfl e)
    · refine wG_iconst C dX12_read_25 (v := 0) (by decide) ?_
      refine wG_nmI (fun x3_10 => ?_)
      refine wG_istore_n C (L' := [(0, .ref (xB X + 111)), (1, .int x1_3), (2, .int x2_7), (3, .int x3_10)]) dX12_read_26 (by decide) [1, 2, 3, 0] rfl ?_
      refine wG_lv (L' := [(0, .ref (xB X + 111)), (1, .int x1_3), (2, .int x2_7), (3, .int x3_10)]) [0, 1, 2, 3] rfl ?_
      refine wG_bind (wL_X12_read_27 C hN h h_1 x1_2 x1_3 h_4 x2_6 x2_7 h_8 x3_10 FU x3_10 h_8) (fun t_13 => (?_ : wG X 8 _ _ N t_13 (rq q) 0 0 176 [(0, .ref (xB X + 111)), (1, .int x1_3), (2, .int x2_7)] []))
      refine wG_iinc C (v := 1) (LL := fun x2_36 => [(0, .ref (xB X + 111)), (1, .int x1_3), (2, .int x2_36)]) dX12_read_176 2 rfl (by decide) (by decide) [1, 2, 0] (fun _ => rfl) (fun x2_36 => ?_)
      refine wG_goto C dX12_read_179 ?_
      exact wG_lv [0, 1, 2] rfl (ih x2_36 t_13)
set_option maxRecDepth 4000 in
theorem wL_X12_read_7 {X : wX} (C : Cx X yX12_read cX12_read 8 (some .int) rm_X12_read) {N : Nat} {q : Qp} (hN : 137 ≤ N) (h : Hp) (h_1 : Hp) (x1_2 : Int32) : ∀ n x1_3 h_4, wG X 8 (fun (t_5 : Hp) Q => gQ X 8 Q N t_5 (rq q) 0 0 188 [(0, .ref (xB X + 111))] []) (L_X12_read_7 n x1_3 h_4) N h_4 (rq q) 0 0 7 [(0, .ref (xB X + 111)), (1, .int x1_3)] [] := by
  intro n
  induction n with
  | zero => intro _ _; exact wG_none
  | succ n ih =>
    intro x1_3 h_4
    refine wG_of (L_X12_read_7.eq_2 ..) ?_
    refine wG_iload_n C dX12_read_7 1 rfl ?_
    refine wG_aload_n C dX12_read_8 0 rfl ?_
    refine wG_getI C fl_X12_20_8 rfl kd_111 (wll hN (by decide)) dX12_read_9 ?_
    refine wG_icmp_gt C dX12_read_12 ?_ ?_
    · exact wG_exit (fun Q e => gQ_lv [0] rfl e)
    · refine wG_iconst C dX12_read_15 (v := 1) (by decide) ?_
      refine wG_nmI (fun x2_6 => ?_)
      refine wG_istore_n C (L' := [(0, .ref (xB X + 111)), (1, .int x1_3), (2, .int x2_6)]) dX12_read_16 (by decide) [1, 2, 0] rfl ?_
      refine wG_lv (L' := [(0, .ref (xB X + 111)), (1, .int x1_3), (2, .int x2_6)]) [0, 1, 2] rfl ?_
      refine wG_bind (wL_X12_read_17 C hN h h_1 x1_2 x1_3 h_4 x2_6 FU x2_6 h_4) (fun t_9 => (?_ : wG X 8 _ _ N t_9 (rq q) 0 0 182 [(0, .ref (xB X + 111)), (1, .int x1_3)] []))
      refine wG_iinc C (v := 1) (LL := fun x1_37 => [(0, .ref (xB X + 111)), (1, .int x1_37)]) dX12_read_182 1 rfl (by decide) (by decide) [1, 0] (fun _ => rfl) (fun x1_37 => ?_)
      refine wG_goto C dX12_read_185 ?_
      exact wG_lv [0, 1] rfl (ih x1_37 t_9)
set_option maxRecDepth 4000 in
theorem w_X12_read {X : wX} (C : Cx X yX12_read cX12_read 8 (some .int) rm_X12_read) {N : Nat} {q : Qp} (hN : 137 ≤ N) (h : Hp) : wG X 8 (eM X (fun u => (some (.int u.1), N, u.2, (rq q)))) (f_X12_read h) N h (rq q) 0 0 0 [(0, .ref (xB X + 111))] [] := by
  refine wG_of (f_X12_read.eq_1 ..) ?_
  refine wG_aload_n C dX12_read_0 0 rfl ?_
  refine wG_iconst C dX12_read_1 (v := 0) (by decide) ?_
  refine wG_putI C fl_X12_1_8 (fp_8_0 _) (fun e => Bool.noConfusion e) rfl kd_111 (wll hN (by decide)) dX12_read_2 (fun h_1 => ?_)
  refine wG_iconst C dX12_read_5 (v := 1) (by decide) ?_
  refine wG_nmI (fun x1_2 => ?_)
  refine wG_istore_n C (L' := [(0, .ref (xB X + 111)), (1, .int x1_2)]) dX12_read_6 (by decide) [1, 0] rfl ?_
  refine wG_lv (L' := [(0, .ref (xB X + 111)), (1, .int x1_2)]) [0, 1] rfl ?_
  refine wG_bind (wL_X12_read_7 C hN h h_1 x1_2 FU x1_2 h_1) (fun t_5 => (?_ : wG X 8 _ _ N t_5 (rq q) 0 0 188 [(0, .ref (xB X + 111))] []))
  refine wG_aload_n C dX12_read_188 0 rfl ?_
  refine wG_getR C fl_X12_84_8 rfl kd_111 (wll hN (by decide)) (rf_111_33 q) dX12_read_189 ?_
  refine wG_iconst C dX12_read_192 (v := 0) (by decide) ?_
  refine wG_iconst C dX12_read_193 (v := 0) (by decide) ?_
  refine wG_aload_n C dX12_read_194 0 rfl ?_
  refine wG_getI C fl_X12_20_8 rfl kd_111 (wll hN (by decide)) dX12_read_195 ?_
  refine wG_aload_n C dX12_read_198 0 rfl ?_
  refine wG_getI C fl_X12_23_8 rfl kd_111 (wll hN (by decide)) dX12_read_199 ?_
  refine wG_cS_ri [.int 0, .int 0, .int (t_5 111 4), .int (t_5 111 5)] [.ref (xB X + 132)] C sw_X12_265 (c_X12_block (xl X) (xE X) N q hN t_5 0 0 (t_5 111 4) (t_5 111 5)) (by decide) rfl rfl (Nat.le_of_ble_eq_true rfl) dX12_read_202 (cl' := 0) (sl' := 0) rfl rfl (fun u_38 => ?_)
  refine wG_iald C kd_132 (wll hN (by decide)) ln_132 dX12_read_205 ?_
  refine wG_nmI (fun x1_39 => ?_)
  refine wG_istore_n C (L' := [(1, .int x1_39)]) dX12_read_206 (by decide) [0] rfl ?_
  refine wG_iload_n C dX12_read_207 0 rfl ?_
  refine wG_ldc C dX12_read_208 m_1292 ?_
  refine wG_icmp_ge C dX12_read_210 ?_ ?_
  · refine wG_bipush C dX12_read_217 (v := (-9)) (by decide) ?_
    exact wG_iret C dX12_read_219 ⟨by decide, by decide⟩ (fun _ e => e)
  · refine wG_iload_n C dX12_read_213 0 rfl ?_
    refine wG_goto C dX12_read_214 ?_
    exact wG_iret C dX12_read_219 ⟨by decide, by decide⟩ (fun _ e => e)
theorem c_X12_read (l : Launch) (E : wE) (N : Nat) (q : Qp) (hN : 137 ≤ N) (h : Hp) : ∀ z, f_X12_read h = some z → CT l E yX12_read cX12_read 8 (some .int) rm_X12_read [.ref (eB E + 111)] N h (rq q) ((fun u => (some (.int u.1), N, u.2, (rq q))) z) := CT.of (by decide +kernel) (Nat.le_of_ble_eq_true rfl) (fun X _ e C => by subst e; exact w_X12_read C hN h)
def rm_X12_unleft : Room := { frames := 0, cells := 0, slots := 0, locals := 0 }
def f_X12_unleft (h : Hp) : Option (Int32 × Hp) :=
  vB (u2 h 111 0 0) fun h_1 =>
  vB (h_1 111 35) fun (x1_2 : Int32) =>
  vB (u2 h_1 111 35 0) fun h_3 =>
  some (x1_2, h_3)
set_option maxRecDepth 4000 in
theorem w_X12_unleft {X : wX} (C : Cx X yX12_unleft cX12_unleft 2 (some .int) rm_X12_unleft) {N : Nat} {q : Qp} (hN : 137 ≤ N) (h : Hp) : wG X 2 (eM X (fun u => (some (.int u.1), N, u.2, (rq q)))) (f_X12_unleft h) N h (rq q) 0 0 0 [(0, .ref (xB X + 111))] [] := by
  refine wG_of (f_X12_unleft.eq_1 ..) ?_
  refine wG_aload_n C dX12_unleft_0 0 rfl ?_
  refine wG_iconst C dX12_unleft_1 (v := 0) (by decide) ?_
  refine wG_putI C fl_X12_1_8 (fp_8_0 _) (fun e => Bool.noConfusion e) rfl kd_111 (wll hN (by decide)) dX12_unleft_2 (fun h_1 => ?_)
  refine wG_aload_n C dX12_unleft_5 0 rfl ?_
  refine wG_getI C fl_X12_137_8 rfl kd_111 (wll hN (by decide)) dX12_unleft_6 ?_
  refine wG_nmI (fun x1_2 => ?_)
  refine wG_istore_n C (L' := [(0, .ref (xB X + 111)), (1, .int x1_2)]) dX12_unleft_9 (by decide) [1, 0] rfl ?_
  refine wG_aload_n C dX12_unleft_10 0 rfl ?_
  refine wG_iconst C dX12_unleft_11 (v := 0) (by decide) ?_
  refine wG_putI C fl_X12_137_8 (fp_8_35 _) (fun e => Bool.noConfusion e) rfl kd_111 (wll hN (by decide)) dX12_unleft_12 (fun h_3 => ?_)
  refine wG_iload_n C dX12_unleft_15 1 rfl ?_
  exact wG_iret C dX12_unleft_16 ⟨by decide, by decide⟩ (fun _ e => e)
theorem c_X12_unleft (l : Launch) (E : wE) (N : Nat) (q : Qp) (hN : 137 ≤ N) (h : Hp) : ∀ z, f_X12_unleft h = some z → CT l E yX12_unleft cX12_unleft 2 (some .int) rm_X12_unleft [.ref (eB E + 111)] N h (rq q) ((fun u => (some (.int u.1), N, u.2, (rq q))) z) := CT.of (by decide +kernel) (Nat.le_of_ble_eq_true rfl) (fun X _ e C => by subst e; exact w_X12_unleft C hN h)
def rm_X12_ripens : Room := { frames := 1, cells := 0, slots := 0, locals := 25 }
def f_X12_ripens (h : Hp) (x1 : Int32) (x2 : Int32) : Option (Int32 × Hp) :=
  vB (u2 h 111 0 0) fun h_1 =>
  (f_X12_in x1.toInt64 0 30).bind fun u_2 =>
  (if u_2 = 0 then
  some ((-2), h_1)
  else
  (f_X12_in x2.toInt64 1 30).bind fun u_3 =>
  (if u_3 = 0 then
  some ((-2), h_1)
  else
  vB ((100 * (h_1 111 37)) + (h_1 111 38)) fun (x3_4 : Int32) =>
  vB (u2 h_1 111 37 x1) fun h_5 =>
  vB (u2 h_5 111 38 x2) fun h_6 =>
  some (x3_4, h_6)))
set_option maxRecDepth 4000 in
theorem w_X12_ripens {X : wX} (C : Cx X yX12_ripens cX12_ripens 4 (some .int) rm_X12_ripens) {N : Nat} {q : Qp} (hN : 137 ≤ N) (h : Hp) (x1 : Int32) (x2 : Int32) : wG X 4 (eM X (fun u => (some (.int u.1), N, u.2, (rq q)))) (f_X12_ripens h x1 x2) N h (rq q) 0 0 0 [(0, .ref (xB X + 111)), (1, .int x1), (2, .int x2)] [] := by
  refine wG_of (f_X12_ripens.eq_1 ..) ?_
  refine wG_aload_n C dX12_ripens_0 0 rfl ?_
  refine wG_iconst C dX12_ripens_1 (v := 0) (by decide) ?_
  refine wG_putI C fl_X12_1_8 (fp_8_0 _) (fun e => Bool.noConfusion e) rfl kd_111 (wll hN (by decide)) dX12_ripens_2 (fun h_1 => ?_)
  refine wG_iload_n C dX12_ripens_5 1 rfl ?_
  refine wG_i2l C dX12_ripens_6 ?_
  refine wG_lconst C dX12_ripens_7 (v := 0) (by decide) ?_
  refine wG_ldc2 C dX12_ripens_8 m_1412 ?_
  refine wG_cS_ri [.long x1.toInt64, .long 0, .long 30] [] C sw_X12_113 (c_X12_in (xl X) (xE X) N q hN h_1 x1.toInt64 0 30) (by decide) rfl rfl (Nat.le_of_ble_eq_true rfl) dX12_ripens_11 (cl' := 0) (sl' := 0) rfl rfl (fun u_2 => ?_)
  refine wG_if_eq C dX12_ripens_14 ?_ ?_
  · refine wG_bipush C dX12_ripens_29 (v := (-2)) (by decide) ?_
    exact wG_iret C dX12_ripens_31 ⟨by decide, by decide⟩ (fun _ e => e)
  · refine wG_iload_n C dX12_ripens_17 2 rfl ?_
    refine wG_i2l C dX12_ripens_18 ?_
    refine wG_lconst C dX12_ripens_19 (v := 1) (by decide) ?_
    refine wG_ldc2 C dX12_ripens_20 m_1412 ?_
    refine wG_cS_ri [.long x2.toInt64, .long 1, .long 30] [] C sw_X12_113 (c_X12_in (xl X) (xE X) N q hN h_1 x2.toInt64 1 30) (by decide) rfl rfl (Nat.le_of_ble_eq_true rfl) dX12_ripens_23 (cl' := 0) (sl' := 0) rfl rfl (fun u_3 => ?_)
    refine wG_if_ne C dX12_ripens_26 ?_ ?_
    · refine wG_bipush C dX12_ripens_29 (v := (-2)) (by decide) ?_
      exact wG_iret C dX12_ripens_31 ⟨by decide, by decide⟩ (fun _ e => e)
    · refine wG_bipush C dX12_ripens_32 (v := 100) (by decide) ?_
      refine wG_aload_n C dX12_ripens_34 0 rfl ?_
      refine wG_getI C fl_X12_90_8 rfl kd_111 (wll hN (by decide)) dX12_ripens_35 ?_
      refine wG_imul C dX12_ripens_38 ?_
      refine wG_aload_n C dX12_ripens_39 0 rfl ?_
      refine wG_getI C fl_X12_93_8 rfl kd_111 (wll hN (by decide)) dX12_ripens_40 ?_
      refine wG_iadd C dX12_ripens_43 ?_
      refine wG_nmI (fun x3_4 => ?_)
      refine wG_istore_n C (L' := [(0, .ref (xB X + 111)), (1, .int x1), (2, .int x2), (3, .int x3_4)]) dX12_ripens_44 (by decide) [1, 2, 3, 0] rfl ?_
      refine wG_aload_n C dX12_ripens_45 0 rfl ?_
      refine wG_iload_n C dX12_ripens_46 1 rfl ?_
      refine wG_putI C fl_X12_90_8 (fp_8_37 _) (fun e => Bool.noConfusion e) rfl kd_111 (wll hN (by decide)) dX12_ripens_47 (fun h_5 => ?_)
      refine wG_aload_n C dX12_ripens_50 0 rfl ?_
      refine wG_iload_n C dX12_ripens_51 2 rfl ?_
      refine wG_putI C fl_X12_93_8 (fp_8_38 _) (fun e => Bool.noConfusion e) rfl kd_111 (wll hN (by decide)) dX12_ripens_52 (fun h_6 => ?_)
      refine wG_iload_n C dX12_ripens_55 3 rfl ?_
      exact wG_iret C dX12_ripens_56 ⟨by decide, by decide⟩ (fun _ e => e)
theorem c_X12_ripens (l : Launch) (E : wE) (N : Nat) (q : Qp) (hN : 137 ≤ N) (h : Hp) (x1 : Int32) (x2 : Int32) : ∀ z, f_X12_ripens h x1 x2 = some z → CT l E yX12_ripens cX12_ripens 4 (some .int) rm_X12_ripens [.ref (eB E + 111), .int x1, .int x2] N h (rq q) ((fun u => (some (.int u.1), N, u.2, (rq q))) z) := CT.of (by decide +kernel) (Nat.le_of_ble_eq_true rfl) (fun X _ e C => by subst e; exact w_X12_ripens C hN h x1 x2)
def rm_X12_paste : Room := { frames := 1, cells := 0, slots := 0, locals := 28 }
def f_X12_paste (h : Hp) (x1 : Int32) : Option Int32 :=
  if inB x1 24 then
  if inB x1 24 then
  if inB x1 24 then
  if inB x1 24 then
  (f_X12_countOf h (h 115 (ix x1)) (h 116 (ix x1)) (h 117 (ix x1)) (h 118 (ix x1)) 0).bind fun u_1 =>
  some u_1 else none else none else none else none
set_option maxRecDepth 4000 in
theorem w_X12_paste {X : wX} (C : Cx X yX12_paste cX12_paste 2 (some .int) rm_X12_paste) {N : Nat} {q : Qp} (hN : 137 ≤ N) (h : Hp) (x1 : Int32) : wG X 2 (eM X (fun u => (some (.int u), N, h, (rq q)))) (f_X12_paste h x1) N h (rq q) 0 0 0 [(0, .ref (xB X + 111)), (1, .int x1)] [] := by
  refine wG_of (f_X12_paste.eq_1 ..) ?_
  refine wG_aload_n C dX12_paste_0 0 rfl ?_
  refine wG_aload_n C dX12_paste_1 0 rfl ?_
  refine wG_getR C fl_X12_32_8 rfl kd_111 (wll hN (by decide)) (rf_111_10 q) dX12_paste_2 ?_
  refine wG_iload_n C dX12_paste_5 1 rfl ?_
  refine wG_iald C kd_115 (wll hN (by decide)) ln_115 dX12_paste_6 ?_
  refine wG_aload_n C dX12_paste_7 0 rfl ?_
  refine wG_getR C fl_X12_35_8 rfl kd_111 (wll hN (by decide)) (rf_111_11 q) dX12_paste_8 ?_
  refine wG_iload_n C dX12_paste_11 1 rfl ?_
  refine wG_iald C kd_116 (wll hN (by decide)) ln_116 dX12_paste_12 ?_
  refine wG_aload_n C dX12_paste_13 0 rfl ?_
  refine wG_getR C fl_X12_38_8 rfl kd_111 (wll hN (by decide)) (rf_111_12 q) dX12_paste_14 ?_
  refine wG_iload_n C dX12_paste_17 1 rfl ?_
  refine wG_iald C kd_117 (wll hN (by decide)) ln_117 dX12_paste_18 ?_
  refine wG_aload_n C dX12_paste_19 0 rfl ?_
  refine wG_getR C fl_X12_41_8 rfl kd_111 (wll hN (by decide)) (rf_111_13 q) dX12_paste_20 ?_
  refine wG_iload_n C dX12_paste_23 1 rfl ?_
  refine wG_iald C kd_118 (wll hN (by decide)) ln_118 dX12_paste_24 ?_
  refine wG_iconst C dX12_paste_25 (v := 0) (by decide) ?_
  refine wG_cV_ri [.int (h 115 (ix x1)), .int (h 116 (ix x1)), .int (h 117 (ix x1)), .int (h 118 (ix x1)), .int 0] [] C vw_X12_172 (c_X12_countOf (xl X) (xE X) N q hN h (h 115 (ix x1)) (h 116 (ix x1)) (h 117 (ix x1)) (h 118 (ix x1)) 0) kd_111 (wll hN (by decide)) (by decide) rfl rfl (Nat.le_of_ble_eq_true rfl) dX12_paste_26 (cl' := 0) (sl' := 0) rfl rfl (fun u_1 => ?_)
  exact wG_iret C dX12_paste_29 ⟨by decide, by decide⟩ (fun _ e => e)
theorem c_X12_paste (l : Launch) (E : wE) (N : Nat) (q : Qp) (hN : 137 ≤ N) (h : Hp) (x1 : Int32) : ∀ z, f_X12_paste h x1 = some z → CT l E yX12_paste cX12_paste 2 (some .int) rm_X12_paste [.ref (eB E + 111), .int x1] N h (rq q) ((fun u => (some (.int u), N, h, (rq q))) z) := CT.of (by decide +kernel) (Nat.le_of_ble_eq_true rfl) (fun X _ e C => by subst e; exact w_X12_paste C hN h x1)
def rm_X12_lesser : Room := { frames := 0, cells := 0, slots := 0, locals := 0 }
def f_X12_lesser (x0 : Int32) (x1 : Int32) : Option Int32 :=
  (if x1 ≤ x0 then
  some x1
  else
  some x0)
set_option maxRecDepth 4000 in
theorem w_X12_lesser {X : wX} (C : Cx X yX12_lesser cX12_lesser 2 (some .int) rm_X12_lesser) {N : Nat} {q : Qp} (hN : 137 ≤ N) (h : Hp) (x0 : Int32) (x1 : Int32) : wG X 2 (eM X (fun u => (some (.int u), N, h, (rq q)))) (f_X12_lesser x0 x1) N h (rq q) 0 0 0 [(0, .int x0), (1, .int x1)] [] := by
  refine wG_of (f_X12_lesser.eq_1 ..) ?_
  refine wG_iload_n C dX12_lesser_0 0 rfl ?_
  refine wG_iload_n C dX12_lesser_1 1 rfl ?_
  refine wG_icmp_ge C dX12_lesser_2 ?_ ?_
  · refine wG_iload_n C dX12_lesser_9 1 rfl ?_
    exact wG_iret C dX12_lesser_10 ⟨by decide, by decide⟩ (fun _ e => e)
  · refine wG_iload_n C dX12_lesser_5 0 rfl ?_
    refine wG_goto C dX12_lesser_6 ?_
    exact wG_iret C dX12_lesser_10 ⟨by decide, by decide⟩ (fun _ e => e)
theorem c_X12_lesser (l : Launch) (E : wE) (N : Nat) (q : Qp) (hN : 137 ≤ N) (h : Hp) (x0 : Int32) (x1 : Int32) : ∀ z, f_X12_lesser x0 x1 = some z → CT l E yX12_lesser cX12_lesser 2 (some .int) rm_X12_lesser [.int x0, .int x1] N h (rq q) ((fun u => (some (.int u), N, h, (rq q))) z) := CT.of (by decide +kernel) (Nat.le_of_ble_eq_true rfl) (fun X _ e C => by subst e; exact w_X12_lesser C hN h x0 x1)
def rm_X12_isRipe : Room := { frames := 1, cells := 0, slots := 0, locals := 25 }
def f_X12_isRipe (h : Hp) (x1 : Int32) (x2 : Int32) (x3 : Int32) : Option Int32 :=
  (f_X12_lesser x1 (((h 111 4) - 1) - x1)).bind fun u_1 =>
  (f_X12_lesser x2 (((h 111 5) - 1) - x2)).bind fun u_2 =>
  (f_X12_lesser u_1 u_2).bind fun u_3 =>
  vB u_3 fun (x4_4 : Int32) =>
  vB ((h 111 37) + (2 * x4_4)) fun (x5_5 : Int32) =>
  if inB ((6 * x1) + x2) 36 then
  (if (h 113 (ix ((6 * x1) + x2))) = 0 then
  (f_X12_in x3.toInt64 x5_5.toInt64 (((x5_5 + (h 111 38)) - 1).toInt64)).bind fun u_6 =>
  (if u_6 = 0 then
  some 0
  else
  some 1)
  else
  some 0) else none
set_option maxRecDepth 4000 in
theorem w_X12_isRipe {X : wX} (C : Cx X yX12_isRipe cX12_isRipe 6 (some .boolean) rm_X12_isRipe) {N : Nat} {q : Qp} (hN : 137 ≤ N) (h : Hp) (x1 : Int32) (x2 : Int32) (x3 : Int32) : wG X 6 (eM X (fun u => (some (.int u), N, h, (rq q)))) (f_X12_isRipe h x1 x2 x3) N h (rq q) 0 0 0 [(0, .ref (xB X + 111)), (1, .int x1), (2, .int x2), (3, .int x3)] [] := by
  refine wG_of (f_X12_isRipe.eq_1 ..) ?_
  refine wG_iload_n C dX12_isRipe_0 1 rfl ?_
  refine wG_aload_n C dX12_isRipe_1 0 rfl ?_
  refine wG_getI C fl_X12_20_8 rfl kd_111 (wll hN (by decide)) dX12_isRipe_2 ?_
  refine wG_iconst C dX12_isRipe_5 (v := 1) (by decide) ?_
  refine wG_isub C dX12_isRipe_6 ?_
  refine wG_iload_n C dX12_isRipe_7 1 rfl ?_
  refine wG_isub C dX12_isRipe_8 ?_
  refine wG_cS_ri [.int x1, .int (((h 111 4) - 1) - x1)] [] C sw_X12_303 (c_X12_lesser (xl X) (xE X) N q hN h x1 (((h 111 4) - 1) - x1)) (by decide) rfl rfl (Nat.le_of_ble_eq_true rfl) dX12_isRipe_9 (cl' := 0) (sl' := 0) rfl rfl (fun u_1 => ?_)
  refine wG_iload_n C dX12_isRipe_12 2 rfl ?_
  refine wG_aload_n C dX12_isRipe_13 0 rfl ?_
  refine wG_getI C fl_X12_23_8 rfl kd_111 (wll hN (by decide)) dX12_isRipe_14 ?_
  refine wG_iconst C dX12_isRipe_17 (v := 1) (by decide) ?_
  refine wG_isub C dX12_isRipe_18 ?_
  refine wG_iload_n C dX12_isRipe_19 2 rfl ?_
  refine wG_isub C dX12_isRipe_20 ?_
  refine wG_cS_ri [.int x2, .int (((h 111 5) - 1) - x2)] [.int u_1] C sw_X12_303 (c_X12_lesser (xl X) (xE X) N q hN h x2 (((h 111 5) - 1) - x2)) (by decide) rfl rfl (Nat.le_of_ble_eq_true rfl) dX12_isRipe_21 (cl' := 0) (sl' := 0) rfl rfl (fun u_2 => ?_)
  refine wG_cS_ri [.int u_1, .int u_2] [] C sw_X12_303 (c_X12_lesser (xl X) (xE X) N q hN h u_1 u_2) (by decide) rfl rfl (Nat.le_of_ble_eq_true rfl) dX12_isRipe_24 (cl' := 0) (sl' := 0) rfl rfl (fun u_3 => ?_)
  refine wG_nmI (fun x4_4 => ?_)
  refine wG_istore C (L' := [(0, .ref (xB X + 111)), (1, .int x1), (2, .int x2), (3, .int x3), (4, .int x4_4)]) dX12_isRipe_27 (by decide) [1, 2, 3, 4, 0] rfl ?_
  refine wG_aload_n C dX12_isRipe_29 0 rfl ?_
  refine wG_getI C fl_X12_90_8 rfl kd_111 (wll hN (by decide)) dX12_isRipe_30 ?_
  refine wG_iconst C dX12_isRipe_33 (v := 2) (by decide) ?_
  refine wG_iload C dX12_isRipe_34 4 rfl ?_
  refine wG_imul C dX12_isRipe_36 ?_
  refine wG_iadd C dX12_isRipe_37 ?_
  refine wG_nmI (fun x5_5 => ?_)
  refine wG_istore C (L' := [(0, .ref (xB X + 111)), (1, .int x1), (2, .int x2), (3, .int x3), (5, .int x5_5)]) dX12_isRipe_38 (by decide) [1, 2, 3, 4, 0] rfl ?_
  refine wG_aload_n C dX12_isRipe_40 0 rfl ?_
  refine wG_getR C fl_X12_17_8 rfl kd_111 (wll hN (by decide)) (rf_111_3 q) dX12_isRipe_41 ?_
  refine wG_bipush C dX12_isRipe_44 (v := 6) (by decide) ?_
  refine wG_iload_n C dX12_isRipe_46 1 rfl ?_
  refine wG_imul C dX12_isRipe_47 ?_
  refine wG_iload_n C dX12_isRipe_48 2 rfl ?_
  refine wG_iadd C dX12_isRipe_49 ?_
  refine wG_iald C kd_113 (wll hN (by decide)) ln_113 dX12_isRipe_50 ?_
  refine wG_if_ne C dX12_isRipe_51 ?_ ?_
  · refine wG_iload_n C dX12_isRipe_54 3 rfl ?_
    refine wG_i2l C dX12_isRipe_55 ?_
    refine wG_iload C dX12_isRipe_56 4 rfl ?_
    refine wG_i2l C dX12_isRipe_58 ?_
    refine wG_iload C dX12_isRipe_59 4 rfl ?_
    refine wG_aload_n C dX12_isRipe_61 0 rfl ?_
    refine wG_getI C fl_X12_93_8 rfl kd_111 (wll hN (by decide)) dX12_isRipe_62 ?_
    refine wG_iadd C dX12_isRipe_65 ?_
    refine wG_iconst C dX12_isRipe_66 (v := 1) (by decide) ?_
    refine wG_isub C dX12_isRipe_67 ?_
    refine wG_i2l C dX12_isRipe_68 ?_
    refine wG_cS_ri [.long x3.toInt64, .long x5_5.toInt64, .long (((x5_5 + (h 111 38)) - 1).toInt64)] [] C sw_X12_113 (c_X12_in (xl X) (xE X) N q hN h x3.toInt64 x5_5.toInt64 (((x5_5 + (h 111 38)) - 1).toInt64)) (by decide) rfl rfl (Nat.le_of_ble_eq_true rfl) dX12_isRipe_69 (cl' := 0) (sl' := 0) rfl rfl (fun u_6 => ?_)
    refine wG_if_eq C dX12_isRipe_72 ?_ ?_
    · refine wG_iconst C dX12_isRipe_79 (v := 0) (by decide) ?_
      exact wG_zret C dX12_isRipe_80 rfl ⟨by decide, by decide⟩ (fun _ e => e)
    · refine wG_iconst C dX12_isRipe_75 (v := 1) (by decide) ?_
      refine wG_goto C dX12_isRipe_76 ?_
      exact wG_zret C dX12_isRipe_80 rfl ⟨by decide, by decide⟩ (fun _ e => e)
  · refine wG_iconst C dX12_isRipe_79 (v := 0) (by decide) ?_
    exact wG_zret C dX12_isRipe_80 rfl ⟨by decide, by decide⟩ (fun _ e => e)
theorem c_X12_isRipe (l : Launch) (E : wE) (N : Nat) (q : Qp) (hN : 137 ≤ N) (h : Hp) (x1 : Int32) (x2 : Int32) (x3 : Int32) : ∀ z, f_X12_isRipe h x1 x2 x3 = some z → CT l E yX12_isRipe cX12_isRipe 6 (some .boolean) rm_X12_isRipe [.ref (eB E + 111), .int x1, .int x2, .int x3] N h (rq q) ((fun u => (some (.int u), N, h, (rq q))) z) := CT.of (by decide +kernel) (Nat.le_of_ble_eq_true rfl) (fun X _ e C => by subst e; exact w_X12_isRipe C hN h x1 x2 x3)
def rm_X12_ripeIn : Room := { frames := 2, cells := 0, slots := 0, locals := 50 }
def L_X12_ripeIn_36 (h : Hp) (x1 : Int32) (x2 : Int32) (x4_4 : Int32) : Nat → Int32 → Int32 → Option Int32
  | 0, _, _ => none
  | n + 1, x3_7, x5_8 =>
    if inB x1 24 then
    if inB x1 24 then
    (if ((h 116 (ix x1)) + (h 118 (ix x1))) ≤ x5_8 then
    some x3_7
    else
    (f_X12_isRipe h x4_4 x5_8 x2).bind fun u_10 =>
    ((if u_10 = 0 then
    some 0
    else
    some 1)).bind fun t_11 =>
    vB (x3_7 + t_11) fun (x3_12 : Int32) =>
    vB (x5_8 + 1) fun (x5_13 : Int32) =>
    L_X12_ripeIn_36 h x1 x2 x4_4 n x3_12 x5_13) else none else none
def L_X12_ripeIn_10 (h : Hp) (x1 : Int32) (x2 : Int32) : Nat → Int32 → Int32 → Option Int32
  | 0, _, _ => none
  | n + 1, x3_3, x4_4 =>
    if inB x1 24 then
    if inB x1 24 then
    (if ((h 115 (ix x1)) + (h 117 (ix x1))) ≤ x4_4 then
    some x3_3
    else
    if inB x1 24 then
    vB (h 116 (ix x1)) fun (x5_6 : Int32) =>
    (L_X12_ripeIn_36 h x1 x2 x4_4 FU x3_3 x5_6).bind fun t_9 =>
    vB (x4_4 + 1) fun (x4_14 : Int32) =>
    L_X12_ripeIn_10 h x1 x2 n t_9 x4_14 else none) else none else none
def f_X12_ripeIn (h : Hp) (x1 : Int32) (x2 : Int32) : Option Int32 :=
  vB 0 fun (x3_1 : Int32) =>
  if inB x1 24 then
  vB (h 115 (ix x1)) fun (x4_2 : Int32) =>
  (L_X12_ripeIn_10 h x1 x2 FU x3_1 x4_2).bind fun t_5 =>
  some t_5 else none
set_option maxRecDepth 4000 in
theorem wL_X12_ripeIn_36 {X : wX} (C : Cx X yX12_ripeIn cX12_ripeIn 6 (some .int) rm_X12_ripeIn) {N : Nat} {q : Qp} (hN : 137 ≤ N) (h : Hp) (x1 : Int32) (x2 : Int32) (x3_1 : Int32) (x4_2 : Int32) (x3_3 : Int32) (x4_4 : Int32) (x5_6 : Int32) : ∀ n x3_7 x5_8, wG X 6 (fun (t_9 : Int32) Q => gQ X 6 Q N h (rq q) 0 0 80 [(0, .ref (xB X + 111)), (1, .int x1), (2, .int x2), (3, .int t_9), (4, .int x4_4)] []) (L_X12_ripeIn_36 h x1 x2 x4_4 n x3_7 x5_8) N h (rq q) 0 0 36 [(0, .ref (xB X + 111)), (1, .int x1), (2, .int x2), (3, .int x3_7), (4, .int x4_4), (5, .int x5_8)] [] := by
  intro n
  induction n with
  | zero => intro _ _; exact wG_none
  | succ n ih =>
    intro x3_7 x5_8
    refine wG_of (L_X12_ripeIn_36.eq_2 ..) ?_
    refine wG_iload C dX12_ripeIn_36 5 rfl ?_
    refine wG_aload_n C dX12_ripeIn_38 0 rfl ?_
    refine wG_getR C fl_X12_35_8 rfl kd_111 (wll hN (by decide)) (rf_111_11 q) dX12_ripeIn_39 ?_
    refine wG_iload_n C dX12_ripeIn_42 1 rfl ?_
    refine wG_iald C kd_116 (wll hN (by decide)) ln_116 dX12_ripeIn_43 ?_
    refine wG_aload_n C dX12_ripeIn_44 0 rfl ?_
    refine wG_getR C fl_X12_41_8 rfl kd_111 (wll hN (by decide)) (rf_111_13 q) dX12_ripeIn_45 ?_
    refine wG_iload_n C dX12_ripeIn_48 1 rfl ?_
    refine wG_iald C kd_118 (wll hN (by decide)) ln_118 dX12_ripeIn_49 ?_
    refine wG_iadd C dX12_ripeIn_50 ?_
    refine wG_icmp_ge C dX12_ripeIn_51 ?_ ?_
    · exact wG_exit (fun Q e => gQ_lv [0, 1, 2, 3, 4] rfl e)
    · refine wG_iload_n C dX12_ripeIn_54 3 rfl ?_
      refine wG_aload_n C dX12_ripeIn_55 0 rfl ?_
      refine wG_iload C dX12_ripeIn_56 4 rfl ?_
      refine wG_iload C dX12_ripeIn_58 5 rfl ?_
      refine wG_iload_n C dX12_ripeIn_60 2 rfl ?_
      refine wG_cV_ri [.int x4_4, .int x5_8, .int x2] [.int x3_7] C vw_X12_306 (c_X12_isRipe (xl X) (xE X) N q hN h x4_4 x5_8 x2) kd_111 (wll hN (by decide)) (by decide) rfl rfl (Nat.le_of_ble_eq_true rfl) dX12_ripeIn_61 (cl' := 0) (sl' := 0) rfl rfl (fun u_10 => ?_)
      refine wG_bind (J := (fun (t_11 : Int32) Q => gQ X 6 Q N h (rq q) 0 0 72 [(0, .ref (xB X + 111)), (1, .int x1), (2, .int x2), (4, .int x4_4), (5, .int x5_8)] [.int t_11, .int x3_7])) ?_ (fun t_11 => (?_ : wG X 6 _ _ N h (rq q) 0 0 72 [(0, .ref (xB X + 111)), (1, .int x1), (2, .int x2), (4, .int x4_4), (5, .int x5_8)] [.int t_11, .int x3_7]))
      · refine wG_if_eq C dX12_ripeIn_64 ?_ ?_
        · refine wG_iconst C dX12_ripeIn_71 (v := 0) (by decide) ?_
          exact wG_exit (fun Q e => gQ_lv [0, 1, 2, 4, 5] rfl e)
        · refine wG_iconst C dX12_ripeIn_67 (v := 1) (by decide) ?_
          refine wG_goto C dX12_ripeIn_68 ?_
          exact wG_exit (fun Q e => gQ_lv [0, 1, 2, 4, 5] rfl e)
      · refine wG_iadd C dX12_ripeIn_72 ?_
        refine wG_nmI (fun x3_12 => ?_)
        refine wG_istore_n C (L' := [(0, .ref (xB X + 111)), (1, .int x1), (2, .int x2), (3, .int x3_12), (4, .int x4_4), (5, .int x5_8)]) dX12_ripeIn_73 (by decide) [1, 2, 3, 0, 4, 5] rfl ?_
        refine wG_iinc C (v := 1) (LL := fun x5_13 => [(0, .ref (xB X + 111)), (1, .int x1), (2, .int x2), (3, .int x3_12), (4, .int x4_4), (5, .int x5_13)]) dX12_ripeIn_74 5 rfl (by decide) (by decide) [1, 2, 3, 4, 5, 0] (fun _ => rfl) (fun x5_13 => ?_)
        refine wG_goto C dX12_ripeIn_77 ?_
        exact wG_lv [0, 1, 2, 3, 4, 5] rfl (ih x3_12 x5_13)
set_option maxRecDepth 4000 in
theorem wL_X12_ripeIn_10 {X : wX} (C : Cx X yX12_ripeIn cX12_ripeIn 6 (some .int) rm_X12_ripeIn) {N : Nat} {q : Qp} (hN : 137 ≤ N) (h : Hp) (x1 : Int32) (x2 : Int32) (x3_1 : Int32) (x4_2 : Int32) : ∀ n x3_3 x4_4, wG X 6 (fun (t_5 : Int32) Q => gQ X 6 Q N h (rq q) 0 0 86 [(3, .int t_5)] []) (L_X12_ripeIn_10 h x1 x2 n x3_3 x4_4) N h (rq q) 0 0 10 [(0, .ref (xB X + 111)), (1, .int x1), (2, .int x2), (3, .int x3_3), (4, .int x4_4)] [] := by
  intro n
  induction n with
  | zero => intro _ _; exact wG_none
  | succ n ih =>
    intro x3_3 x4_4
    refine wG_of (L_X12_ripeIn_10.eq_2 ..) ?_
    refine wG_iload C dX12_ripeIn_10 4 rfl ?_
    refine wG_aload_n C dX12_ripeIn_12 0 rfl ?_
    refine wG_getR C fl_X12_32_8 rfl kd_111 (wll hN (by decide)) (rf_111_10 q) dX12_ripeIn_13 ?_
    refine wG_iload_n C dX12_ripeIn_16 1 rfl ?_
    refine wG_iald C kd_115 (wll hN (by decide)) ln_115 dX12_ripeIn_17 ?_
    refine wG_aload_n C dX12_ripeIn_18 0 rfl ?_
    refine wG_getR C fl_X12_38_8 rfl kd_111 (wll hN (by decide)) (rf_111_12 q) dX12_ripeIn_19 ?_
    refine wG_iload_n C dX12_ripeIn_22 1 rfl ?_
    refine wG_iald C kd_117 (wll hN (by decide)) ln_117 dX12_ripeIn_23 ?_
    refine wG_iadd C dX12_ripeIn_24 ?_
    refine wG_icmp_ge C dX12_ripeIn_25 ?_ ?_
    · exact wG_exit (fun Q e => gQ_lv [3] rfl e)
    · refine wG_aload_n C dX12_ripeIn_28 0 rfl ?_
      refine wG_getR C fl_X12_35_8 rfl kd_111 (wll hN (by decide)) (rf_111_11 q) dX12_ripeIn_29 ?_
      refine wG_iload_n C dX12_ripeIn_32 1 rfl ?_
      refine wG_iald C kd_116 (wll hN (by decide)) ln_116 dX12_ripeIn_33 ?_
      refine wG_nmI (fun x5_6 => ?_)
      refine wG_istore C (L' := [(0, .ref (xB X + 111)), (1, .int x1), (2, .int x2), (3, .int x3_3), (4, .int x4_4), (5, .int x5_6)]) dX12_ripeIn_34 (by decide) [1, 2, 3, 4, 5, 0] rfl ?_
      refine wG_lv (L' := [(0, .ref (xB X + 111)), (1, .int x1), (2, .int x2), (3, .int x3_3), (4, .int x4_4), (5, .int x5_6)]) [0, 1, 2, 3, 4, 5] rfl ?_
      refine wG_bind (wL_X12_ripeIn_36 C hN h x1 x2 x3_1 x4_2 x3_3 x4_4 x5_6 FU x3_3 x5_6) (fun t_9 => (?_ : wG X 6 _ _ N h (rq q) 0 0 80 [(0, .ref (xB X + 111)), (1, .int x1), (2, .int x2), (3, .int t_9), (4, .int x4_4)] []))
      refine wG_iinc C (v := 1) (LL := fun x4_14 => [(0, .ref (xB X + 111)), (1, .int x1), (2, .int x2), (3, .int t_9), (4, .int x4_14)]) dX12_ripeIn_80 4 rfl (by decide) (by decide) [1, 2, 3, 4, 0] (fun _ => rfl) (fun x4_14 => ?_)
      refine wG_goto C dX12_ripeIn_83 ?_
      exact wG_lv [0, 1, 2, 3, 4] rfl (ih t_9 x4_14)
set_option maxRecDepth 4000 in
theorem w_X12_ripeIn {X : wX} (C : Cx X yX12_ripeIn cX12_ripeIn 6 (some .int) rm_X12_ripeIn) {N : Nat} {q : Qp} (hN : 137 ≤ N) (h : Hp) (x1 : Int32) (x2 : Int32) : wG X 6 (eM X (fun u => (some (.int u), N, h, (rq q)))) (f_X12_ripeIn h x1 x2) N h (rq q) 0 0 0 [(0, .ref (xB X + 111)), (1, .int x1), (2, .int x2)] [] := by
  refine wG_of (f_X12_ripeIn.eq_1 ..) ?_
  refine wG_iconst C dX12_ripeIn_0 (v := 0) (by decide) ?_
  refine wG_nmI (fun x3_1 => ?_)
  refine wG_istore_n C (L' := [(0, .ref (xB X + 111)), (1, .int x1), (2, .int x2), (3, .int x3_1)]) dX12_ripeIn_1 (by decide) [1, 2, 3, 0] rfl ?_
  refine wG_aload_n C dX12_ripeIn_2 0 rfl ?_
  refine wG_getR C fl_X12_32_8 rfl kd_111 (wll hN (by decide)) (rf_111_10 q) dX12_ripeIn_3 ?_
  refine wG_iload_n C dX12_ripeIn_6 1 rfl ?_
  refine wG_iald C kd_115 (wll hN (by decide)) ln_115 dX12_ripeIn_7 ?_
  refine wG_nmI (fun x4_2 => ?_)
  refine wG_istore C (L' := [(0, .ref (xB X + 111)), (1, .int x1), (2, .int x2), (3, .int x3_1), (4, .int x4_2)]) dX12_ripeIn_8 (by decide) [1, 2, 3, 4, 0] rfl ?_
  refine wG_lv (L' := [(0, .ref (xB X + 111)), (1, .int x1), (2, .int x2), (3, .int x3_1), (4, .int x4_2)]) [0, 1, 2, 3, 4] rfl ?_
  refine wG_bind (wL_X12_ripeIn_10 C hN h x1 x2 x3_1 x4_2 FU x3_1 x4_2) (fun t_5 => (?_ : wG X 6 _ _ N h (rq q) 0 0 86 [(3, .int t_5)] []))
  refine wG_iload_n C dX12_ripeIn_86 0 rfl ?_
  exact wG_iret C dX12_ripeIn_87 ⟨by decide, by decide⟩ (fun _ e => e)
theorem c_X12_ripeIn (l : Launch) (E : wE) (N : Nat) (q : Qp) (hN : 137 ≤ N) (h : Hp) (x1 : Int32) (x2 : Int32) : ∀ z, f_X12_ripeIn h x1 x2 = some z → CT l E yX12_ripeIn cX12_ripeIn 6 (some .int) rm_X12_ripeIn [.ref (eB E + 111), .int x1, .int x2] N h (rq q) ((fun u => (some (.int u), N, h, (rq q))) z) := CT.of (by decide +kernel) (Nat.le_of_ble_eq_true rfl) (fun X _ e C => by subst e; exact w_X12_ripeIn C hN h x1 x2)
def rm_X12_common : Room := { frames := 0, cells := 0, slots := 0, locals := 0 }
def L_X12_common_17  : Nat → Int64 → Int64 → Option Int64
  | 0, _, _ => none
  | n + 1, x4_4, x6_5 =>
    (if (lg_cmp x6_5 0) = 0 then
    some x4_4
    else
    if x6_5 = 0 then none else
    vB (x4_4 - x4_4 / x6_5 * x6_5) fun (x8_7 : Int64) =>
    vB x6_5 fun (x4_8 : Int64) =>
    vB x8_7 fun (x6_9 : Int64) =>
    L_X12_common_17 n x4_8 x6_9)
def f_X12_common (x0 : Int64) (x2 : Int64) : Option Int64 :=
  ((if (0 : Int32) ≤ (lg_cmp x0 0) then
  some x0
  else
  some (-x0))).bind fun t_1 =>
  vB t_1 fun (x4_2 : Int64) =>
  vB x2 fun (x6_3 : Int64) =>
  (L_X12_common_17 FU x4_2 x6_3).bind fun t_6 =>
  some t_6
set_option maxRecDepth 4000 in
theorem wL_X12_common_17 {X : wX} (C : Cx X yX12_common cX12_common 10 (some .long) rm_X12_common) {N : Nat} {q : Qp} (hN : 137 ≤ N) (h : Hp) (x0 : Int64) (x2 : Int64) (t_1 : Int64) (x4_2 : Int64) (x6_3 : Int64) : ∀ n x4_4 x6_5, wG X 10 (fun (t_6 : Int64) Q => gQ X 10 Q N h (rq q) 0 0 42 [(4, .long t_6)] []) (L_X12_common_17 n x4_4 x6_5) N h (rq q) 0 0 17 [(4, .long x4_4), (6, .long x6_5)] [] := by
  intro n
  induction n with
  | zero => intro _ _; exact wG_none
  | succ n ih =>
    intro x4_4 x6_5
    refine wG_of (L_X12_common_17.eq_2 ..) ?_
    refine wG_lload C dX12_common_17 1 rfl ?_
    refine wG_lconst C dX12_common_19 (v := 0) (by decide) ?_
    refine wG_lcmp C dX12_common_20 ?_
    refine wG_if_eq C dX12_common_21 ?_ ?_
    · exact wG_exit (fun Q e => gQ_lv [0] rfl e)
    · refine wG_lload C dX12_common_24 0 rfl ?_
      refine wG_lload C dX12_common_26 1 rfl ?_
      refine wG_lrem C dX12_common_28 ?_
      refine wG_nmL (fun x8_7 => ?_)
      refine wG_lstore C (L' := [(6, .long x6_5), (8, .long x8_7)]) dX12_common_29 (by decide) [2, 0] rfl ?_
      refine wG_lload C dX12_common_31 0 rfl ?_
      refine wG_nmL (fun x4_8 => ?_)
      refine wG_lstore C (L' := [(4, .long x4_8), (8, .long x8_7)]) dX12_common_33 (by decide) [0, 2] rfl ?_
      refine wG_lload C dX12_common_35 1 rfl ?_
      refine wG_nmL (fun x6_9 => ?_)
      refine wG_lstore C (L' := [(4, .long x4_8), (6, .long x6_9)]) dX12_common_37 (by decide) [1, 0] rfl ?_
      refine wG_goto C dX12_common_39 ?_
      exact wG_lv [0, 1] rfl (ih x4_8 x6_9)
set_option maxRecDepth 4000 in
theorem w_X12_common {X : wX} (C : Cx X yX12_common cX12_common 10 (some .long) rm_X12_common) {N : Nat} {q : Qp} (hN : 137 ≤ N) (h : Hp) (x0 : Int64) (x2 : Int64) : wG X 10 (eM X (fun u => (some (.long u), N, h, (rq q)))) (f_X12_common x0 x2) N h (rq q) 0 0 0 [(0, .long x0), (2, .long x2)] [] := by
  refine wG_of (f_X12_common.eq_1 ..) ?_
  refine wG_lload_n C dX12_common_0 0 rfl ?_
  refine wG_lconst C dX12_common_1 (v := 0) (by decide) ?_
  refine wG_lcmp C dX12_common_2 ?_
  refine wG_bind (J := (fun (t_1 : Int64) Q => gQ X 10 Q N h (rq q) 0 0 12 [(2, .long x2)] [.long t_1])) ?_ (fun t_1 => (?_ : wG X 10 _ _ N h (rq q) 0 0 12 [(2, .long x2)] [.long t_1]))
  · refine wG_if_ge C dX12_common_3 ?_ ?_
    · refine wG_lload_n C dX12_common_11 0 rfl ?_
      exact wG_exit (fun Q e => gQ_lv [1] rfl e)
    · refine wG_lload_n C dX12_common_6 0 rfl ?_
      refine wG_lneg C dX12_common_7 ?_
      refine wG_goto C dX12_common_8 ?_
      exact wG_exit (fun Q e => gQ_lv [1] rfl e)
  · refine wG_nmL (fun x4_2 => ?_)
    refine wG_lstore C (L' := [(2, .long x2), (4, .long x4_2)]) dX12_common_12 (by decide) [1, 0] rfl ?_
    refine wG_lload_n C dX12_common_14 0 rfl ?_
    refine wG_nmL (fun x6_3 => ?_)
    refine wG_lstore C (L' := [(4, .long x4_2), (6, .long x6_3)]) dX12_common_15 (by decide) [2, 0] rfl ?_
    refine wG_lv (L' := [(4, .long x4_2), (6, .long x6_3)]) [0, 1] rfl ?_
    refine wG_bind (wL_X12_common_17 C hN h x0 x2 t_1 x4_2 x6_3 FU x4_2 x6_3) (fun t_6 => (?_ : wG X 10 _ _ N h (rq q) 0 0 42 [(4, .long t_6)] []))
    refine wG_lload C dX12_common_42 0 rfl ?_
    exact wG_lret C dX12_common_44 ⟨by decide, by decide⟩ (fun _ e => e)
theorem c_X12_common (l : Launch) (E : wE) (N : Nat) (q : Qp) (hN : 137 ≤ N) (h : Hp) (x0 : Int64) (x2 : Int64) : ∀ z, f_X12_common x0 x2 = some z → CT l E yX12_common cX12_common 10 (some .long) rm_X12_common [.long x0, .long x2] N h (rq q) ((fun u => (some (.long u), N, h, (rq q))) z) := CT.of (by decide +kernel) (Nat.le_of_ble_eq_true rfl) (fun X _ e C => by subst e; exact w_X12_common C hN h x0 x2)
def rm_X12_ripe : Room := { frames := 3, cells := 0, slots := 0, locals := 75 }
def f_X12_ripe (h : Hp) (x1 : Int32) (x2 : Int32) (x3 : Int32) : Option (Int64 × Hp) :=
  vB (u2 h 111 0 0) fun h_1 =>
  (f_X12_noPiece h_1 x1).bind fun u_2 =>
  (if u_2 = 0 then
  (f_X12_in x2.toInt64 0 999).bind fun u_3 =>
  (if u_3 = 0 then
  some ((-2), h_1)
  else
  (f_X12_paste h_1 x1).bind fun u_4 =>
  vB u_4 fun (x4_5 : Int32) =>
  (if x4_5 = 0 then
  (if x3 = 0 then
  some (1, h_1)
  else
  some (0, h_1))
  else
  (f_X12_ripeIn h_1 x1 x2).bind fun u_6 =>
  vB u_6 fun (x5_7 : Int32) =>
  ((if x3 = 0 then
  some x4_5
  else
  some x5_7)).bind fun t_8 =>
  (f_X12_common x5_7.toInt64 x4_5.toInt64).bind fun u_9 =>
  if u_9 = 0 then none else
  some ((t_8.toInt64 / u_9), h_1)))
  else
  some ((-1), h_1))
set_option maxRecDepth 4000 in
theorem w_X12_ripe {X : wX} (C : Cx X yX12_ripe cX12_ripe 6 (some .long) rm_X12_ripe) {N : Nat} {q : Qp} (hN : 137 ≤ N) (h : Hp) (x1 : Int32) (x2 : Int32) (x3 : Int32) : wG X 6 (eM X (fun u => (some (.long u.1), N, u.2, (rq q)))) (f_X12_ripe h x1 x2 x3) N h (rq q) 0 0 0 [(0, .ref (xB X + 111)), (1, .int x1), (2, .int x2), (3, .int x3)] [] := by
  refine wG_of (f_X12_ripe.eq_1 ..) ?_
  refine wG_aload_n C dX12_ripe_0 0 rfl ?_
  refine wG_iconst C dX12_ripe_1 (v := 0) (by decide) ?_
  refine wG_putI C fl_X12_1_8 (fp_8_0 _) (fun e => Bool.noConfusion e) rfl kd_111 (wll hN (by decide)) dX12_ripe_2 (fun h_1 => ?_)
  refine wG_aload_n C dX12_ripe_5 0 rfl ?_
  refine wG_iload_n C dX12_ripe_6 1 rfl ?_
  refine wG_cV_ri [.int x1] [] C vw_X12_143 (c_X12_noPiece (xl X) (xE X) N q hN h_1 x1) kd_111 (wll hN (by decide)) (by decide) rfl rfl (Nat.le_of_ble_eq_true rfl) dX12_ripe_7 (cl' := 0) (sl' := 0) rfl rfl (fun u_2 => ?_)
  refine wG_if_eq C dX12_ripe_10 ?_ ?_
  · refine wG_iload_n C dX12_ripe_17 2 rfl ?_
    refine wG_i2l C dX12_ripe_18 ?_
    refine wG_lconst C dX12_ripe_19 (v := 0) (by decide) ?_
    refine wG_ldc2 C dX12_ripe_20 m_1248 ?_
    refine wG_cS_ri [.long x2.toInt64, .long 0, .long 999] [] C sw_X12_113 (c_X12_in (xl X) (xE X) N q hN h_1 x2.toInt64 0 999) (by decide) rfl rfl (Nat.le_of_ble_eq_true rfl) dX12_ripe_23 (cl' := 0) (sl' := 0) rfl rfl (fun u_3 => ?_)
    refine wG_if_ne C dX12_ripe_26 ?_ ?_
    · refine wG_ldc2 C dX12_ripe_29 m_1418 ?_
      exact wG_lret C dX12_ripe_32 ⟨by decide, by decide⟩ (fun _ e => e)
    · refine wG_aload_n C dX12_ripe_33 0 rfl ?_
      refine wG_iload_n C dX12_ripe_34 1 rfl ?_
      refine wG_cV_ri [.int x1] [] C vw_X12_313 (c_X12_paste (xl X) (xE X) N q hN h_1 x1) kd_111 (wll hN (by decide)) (by decide) rfl rfl (Nat.le_of_ble_eq_true rfl) dX12_ripe_35 (cl' := 0) (sl' := 0) rfl rfl (fun u_4 => ?_)
      refine wG_nmI (fun x4_5 => ?_)
      refine wG_istore C (L' := [(0, .ref (xB X + 111)), (1, .int x1), (2, .int x2), (3, .int x3), (4, .int x4_5)]) dX12_ripe_38 (by decide) [1, 2, 3, 4, 0] rfl ?_
      refine wG_iload C dX12_ripe_40 4 rfl ?_
      refine wG_if_ne C dX12_ripe_42 ?_ ?_
      · refine wG_iload_n C dX12_ripe_45 3 rfl ?_
        refine wG_if_eq C dX12_ripe_46 ?_ ?_
        · refine wG_lconst C dX12_ripe_53 (v := 1) (by decide) ?_
          exact wG_lret C dX12_ripe_54 ⟨by decide, by decide⟩ (fun _ e => e)
        · refine wG_lconst C dX12_ripe_49 (v := 0) (by decide) ?_
          refine wG_goto C dX12_ripe_50 ?_
          exact wG_lret C dX12_ripe_54 ⟨by decide, by decide⟩ (fun _ e => e)
      · refine wG_aload_n C dX12_ripe_55 0 rfl ?_
        refine wG_iload_n C dX12_ripe_56 1 rfl ?_
        refine wG_iload_n C dX12_ripe_57 2 rfl ?_
        refine wG_cV_ri [.int x1, .int x2] [] C vw_X12_316 (c_X12_ripeIn (xl X) (xE X) N q hN h_1 x1 x2) kd_111 (wll hN (by decide)) (by decide) rfl rfl (Nat.le_of_ble_eq_true rfl) dX12_ripe_58 (cl' := 0) (sl' := 0) rfl rfl (fun u_6 => ?_)
        refine wG_nmI (fun x5_7 => ?_)
        refine wG_istore C (L' := [(3, .int x3), (4, .int x4_5), (5, .int x5_7)]) dX12_ripe_61 (by decide) [4, 5, 0] rfl ?_
        refine wG_iload_n C dX12_ripe_63 0 rfl ?_
        refine wG_bind (J := (fun (t_8 : Int32) Q => gQ X 6 Q N h_1 (rq q) 0 0 74 [(4, .int x4_5), (5, .int x5_7)] [.int t_8])) ?_ (fun t_8 => (?_ : wG X 6 _ _ N h_1 (rq q) 0 0 74 [(4, .int x4_5), (5, .int x5_7)] [.int t_8]))
        · refine wG_if_eq C dX12_ripe_64 ?_ ?_
          · refine wG_iload C dX12_ripe_72 1 rfl ?_
            exact wG_exit (fun Q e => gQ_lv [1, 2] rfl e)
          · refine wG_iload C dX12_ripe_67 2 rfl ?_
            refine wG_goto C dX12_ripe_69 ?_
            exact wG_exit (fun Q e => gQ_lv [1, 2] rfl e)
        · refine wG_i2l C dX12_ripe_74 ?_
          refine wG_iload C dX12_ripe_75 1 rfl ?_
          refine wG_i2l C dX12_ripe_77 ?_
          refine wG_iload C dX12_ripe_78 0 rfl ?_
          refine wG_i2l C dX12_ripe_80 ?_
          refine wG_cS_rl [.long x5_7.toInt64, .long x4_5.toInt64] [.long t_8.toInt64] C sw_X12_319 (c_X12_common (xl X) (xE X) N q hN h_1 x5_7.toInt64 x4_5.toInt64) (by decide) rfl rfl (Nat.le_of_ble_eq_true rfl) dX12_ripe_81 (cl' := 0) (sl' := 0) rfl rfl (fun u_9 => ?_)
          refine wG_ldiv C dX12_ripe_84 ?_
          exact wG_lret C dX12_ripe_85 ⟨by decide, by decide⟩ (fun _ e => e)
  · refine wG_ldc2 C dX12_ripe_13 m_1417 ?_
    exact wG_lret C dX12_ripe_16 ⟨by decide, by decide⟩ (fun _ e => e)
theorem c_X12_ripe (l : Launch) (E : wE) (N : Nat) (q : Qp) (hN : 137 ≤ N) (h : Hp) (x1 : Int32) (x2 : Int32) (x3 : Int32) : ∀ z, f_X12_ripe h x1 x2 x3 = some z → CT l E yX12_ripe cX12_ripe 6 (some .long) rm_X12_ripe [.ref (eB E + 111), .int x1, .int x2, .int x3] N h (rq q) ((fun u => (some (.long u.1), N, u.2, (rq q))) z) := CT.of (by decide +kernel) (Nat.le_of_ble_eq_true rfl) (fun X _ e C => by subst e; exact w_X12_ripe C hN h x1 x2 x3)
