def rm_X12_sell : Room := { frames := 3, cells := 0, slots := 0, locals := 67 }
def f_X12_sell (h : Hp) (x1 : Int32) (x2 : Int32) : Option (Int32 × Hp) :=
  vB (u2 h 111 0 0) fun h_1 =>
  (f_X12_noStand h_1 x1).bind fun u_2 =>
  (if u_2 = 0 then
  ((if x2 = 0 then
  some 1
  else
  some 2)).bind fun t_3 =>
  if inB x1 24 then vB (u2 h_1 119 (ix x1) t_3) fun h_4 =>
  (f_X12_weighsOf h_4 x1).bind fun u_5 =>
  some (u_5, h_4) else none
  else
  some ((-1), h_1))
set_option maxRecDepth 4000 in
theorem w_X12_sell {X : wX} (C : Cx X yX12_sell cX12_sell 3 (some .int) rm_X12_sell) {N : Nat} {q : Qp} (hN : 137 ≤ N) (h : Hp) (x1 : Int32) (x2 : Int32) : wG X 3 (eM X (fun u => (some (.int u.1), N, u.2, (rq q)))) (f_X12_sell h x1 x2) N h (rq q) 0 0 0 [(0, .ref (xB X + 111)), (1, .int x1), (2, .int x2)] [] := by
  refine wG_of (f_X12_sell.eq_1 ..) ?_
  refine wG_aload_n C dX12_sell_0 0 rfl ?_
  refine wG_iconst C dX12_sell_1 (v := 0) (by decide) ?_
  refine wG_putI C fl_X12_1_8 (fp_8_0 _) (fun e => Bool.noConfusion e) rfl kd_111 (wll hN (by decide)) dX12_sell_2 (fun h_1 => ?_)
  refine wG_aload_n C dX12_sell_5 0 rfl ?_
  refine wG_iload_n C dX12_sell_6 1 rfl ?_
  refine wG_cV_ri [.int x1] [] C vw_X12_179 (c_X12_noStand (xl X) (xE X) N q hN h_1 x1) kd_111 (wll hN (by decide)) (by decide) rfl rfl (Nat.le_of_ble_eq_true rfl) dX12_sell_7 (cl' := 0) (sl' := 0) rfl rfl (fun u_2 => ?_)
  refine wG_if_eq C dX12_sell_10 ?_ ?_
  · refine wG_aload_n C dX12_sell_15 0 rfl ?_
    refine wG_getR C fl_X12_44_8 rfl kd_111 (wll hN (by decide)) (rf_111_14 q) dX12_sell_16 ?_
    refine wG_iload_n C dX12_sell_19 1 rfl ?_
    refine wG_iload_n C dX12_sell_20 2 rfl ?_
    refine wG_bind (J := (fun (t_3 : Int32) Q => gQ X 3 Q N h_1 (rq q) 0 0 29 [(0, .ref (xB X + 111)), (1, .int x1)] [.int t_3, .int x1, .ref (xB X + 119)])) ?_ (fun t_3 => (?_ : wG X 3 _ _ N h_1 (rq q) 0 0 29 [(0, .ref (xB X + 111)), (1, .int x1)] [.int t_3, .int x1, .ref (xB X + 119)]))
    · refine wG_if_eq C dX12_sell_21 ?_ ?_
      · refine wG_iconst C dX12_sell_28 (v := 1) (by decide) ?_
        exact wG_exit (fun Q e => gQ_lv [0, 1] rfl e)
      · refine wG_iconst C dX12_sell_24 (v := 2) (by decide) ?_
        refine wG_goto C dX12_sell_25 ?_
        exact wG_exit (fun Q e => gQ_lv [0, 1] rfl e)
    · refine wG_iast C kd_119 (wll hN (by decide)) ln_119 dX12_sell_29 (fun h_4 => ?_)
      refine wG_aload_n C dX12_sell_30 0 rfl ?_
      refine wG_iload_n C dX12_sell_31 1 rfl ?_
      refine wG_cV_ri [.int x1] [] C vw_X12_191 (c_X12_weighsOf (xl X) (xE X) N q hN h_4 x1) kd_111 (wll hN (by decide)) (by decide) rfl rfl (Nat.le_of_ble_eq_true rfl) dX12_sell_32 (cl' := 0) (sl' := 0) rfl rfl (fun u_5 => ?_)
      exact wG_iret C dX12_sell_35 ⟨by decide, by decide⟩ (fun _ e => e)
  · refine wG_iconst C dX12_sell_13 (v := (-1)) (by decide) ?_
    exact wG_iret C dX12_sell_14 ⟨by decide, by decide⟩ (fun _ e => e)
theorem c_X12_sell (l : Launch) (E : wE) (N : Nat) (q : Qp) (hN : 137 ≤ N) (h : Hp) (x1 : Int32) (x2 : Int32) : ∀ z, f_X12_sell h x1 x2 = some z → CT l E yX12_sell cX12_sell 3 (some .int) rm_X12_sell [.ref (eB E + 111), .int x1, .int x2] N h (rq q) ((fun u => (some (.int u.1), N, u.2, (rq q))) z) := CT.of (by decide +kernel) (Nat.le_of_ble_eq_true rfl) (fun X _ e C => by subst e; exact w_X12_sell C hN h x1 x2)
def rm_X12_noAsk : Room := { frames := 1, cells := 0, slots := 0, locals := 25 }
def f_X12_noAsk (x0 : Int32) (x1 : Int32) (x2 : Int32) : Option Int32 :=
  (f_X12_in x0.toInt64 1 360).bind fun u_1 =>
  (if u_1 = 0 then
  some 1
  else
  (f_X12_in x1.toInt64 0 99).bind fun u_2 =>
  (if u_2 = 0 then
  some 1
  else
  (f_X12_in x2.toInt64 0 36).bind fun u_3 =>
  (if u_3 = 0 then
  some 1
  else
  some 0)))
set_option maxRecDepth 4000 in
theorem w_X12_noAsk {X : wX} (C : Cx X yX12_noAsk cX12_noAsk 3 (some .boolean) rm_X12_noAsk) {N : Nat} {q : Qp} (hN : 137 ≤ N) (h : Hp) (x0 : Int32) (x1 : Int32) (x2 : Int32) : wG X 3 (eM X (fun u => (some (.int u), N, h, (rq q)))) (f_X12_noAsk x0 x1 x2) N h (rq q) 0 0 0 [(0, .int x0), (1, .int x1), (2, .int x2)] [] := by
  refine wG_of (f_X12_noAsk.eq_1 ..) ?_
  refine wG_iload_n C dX12_noAsk_0 0 rfl ?_
  refine wG_i2l C dX12_noAsk_1 ?_
  refine wG_lconst C dX12_noAsk_2 (v := 1) (by decide) ?_
  refine wG_ldc2 C dX12_noAsk_3 m_1269 ?_
  refine wG_cS_ri [.long x0.toInt64, .long 1, .long 360] [] C sw_X12_113 (c_X12_in (xl X) (xE X) N q hN h x0.toInt64 1 360) (by decide) rfl rfl (Nat.le_of_ble_eq_true rfl) dX12_noAsk_6 (cl' := 0) (sl' := 0) rfl rfl (fun u_1 => ?_)
  refine wG_if_eq C dX12_noAsk_9 ?_ ?_
  · refine wG_iconst C dX12_noAsk_36 (v := 1) (by decide) ?_
    refine wG_goto C dX12_noAsk_37 ?_
    exact wG_zret C dX12_noAsk_41 rfl ⟨by decide, by decide⟩ (fun _ e => e)
  · refine wG_iload_n C dX12_noAsk_12 1 rfl ?_
    refine wG_i2l C dX12_noAsk_13 ?_
    refine wG_lconst C dX12_noAsk_14 (v := 0) (by decide) ?_
    refine wG_ldc2 C dX12_noAsk_15 m_1270 ?_
    refine wG_cS_ri [.long x1.toInt64, .long 0, .long 99] [] C sw_X12_113 (c_X12_in (xl X) (xE X) N q hN h x1.toInt64 0 99) (by decide) rfl rfl (Nat.le_of_ble_eq_true rfl) dX12_noAsk_18 (cl' := 0) (sl' := 0) rfl rfl (fun u_2 => ?_)
    refine wG_if_eq C dX12_noAsk_21 ?_ ?_
    · refine wG_iconst C dX12_noAsk_36 (v := 1) (by decide) ?_
      refine wG_goto C dX12_noAsk_37 ?_
      exact wG_zret C dX12_noAsk_41 rfl ⟨by decide, by decide⟩ (fun _ e => e)
    · refine wG_iload_n C dX12_noAsk_24 2 rfl ?_
      refine wG_i2l C dX12_noAsk_25 ?_
      refine wG_lconst C dX12_noAsk_26 (v := 0) (by decide) ?_
      refine wG_ldc2 C dX12_noAsk_27 m_1271 ?_
      refine wG_cS_ri [.long x2.toInt64, .long 0, .long 36] [] C sw_X12_113 (c_X12_in (xl X) (xE X) N q hN h x2.toInt64 0 36) (by decide) rfl rfl (Nat.le_of_ble_eq_true rfl) dX12_noAsk_30 (cl' := 0) (sl' := 0) rfl rfl (fun u_3 => ?_)
      refine wG_if_ne C dX12_noAsk_33 ?_ ?_
      · refine wG_iconst C dX12_noAsk_36 (v := 1) (by decide) ?_
        refine wG_goto C dX12_noAsk_37 ?_
        exact wG_zret C dX12_noAsk_41 rfl ⟨by decide, by decide⟩ (fun _ e => e)
      · refine wG_iconst C dX12_noAsk_40 (v := 0) (by decide) ?_
        exact wG_zret C dX12_noAsk_41 rfl ⟨by decide, by decide⟩ (fun _ e => e)
theorem c_X12_noAsk (l : Launch) (E : wE) (N : Nat) (q : Qp) (hN : 137 ≤ N) (h : Hp) (x0 : Int32) (x1 : Int32) (x2 : Int32) : ∀ z, f_X12_noAsk x0 x1 x2 = some z → CT l E yX12_noAsk cX12_noAsk 3 (some .boolean) rm_X12_noAsk [.int x0, .int x1, .int x2] N h (rq q) ((fun u => (some (.int u), N, h, (rq q))) z) := CT.of (by decide +kernel) (Nat.le_of_ble_eq_true rfl) (fun X _ e C => by subst e; exact w_X12_noAsk C hN h x0 x1 x2)
def rm_X12_isServed : Room := { frames := 2, cells := 0, slots := 0, locals := 49 }
def f_X12_isServed (h : Hp) (x1 : Int32) (x2 : Int32) (x3 : Int32) (x4 : Int32) : Option Int32 :=
  if inB x1 24 then
  (if (h 119 (ix x1)) = 0 then
  (f_X12_weighsOf h x1).bind fun u_1 =>
  (f_X12_in u_1.toInt64 x2.toInt64 ((x2 + x3).toInt64)).bind fun u_2 =>
  (if u_2 = 0 then
  some 0
  else
  if inB x1 24 then
  if inB x1 24 then
  if inB x1 24 then
  if inB x1 24 then
  (f_X12_countOf h (h 115 (ix x1)) (h 116 (ix x1)) (h 117 (ix x1)) (h 118 (ix x1)) 1).bind fun u_3 =>
  (if x4 < u_3 then
  some 0
  else
  some 1) else none else none else none else none)
  else
  some 0) else none
set_option maxRecDepth 4000 in
theorem w_X12_isServed {X : wX} (C : Cx X yX12_isServed cX12_isServed 5 (some .boolean) rm_X12_isServed) {N : Nat} {q : Qp} (hN : 137 ≤ N) (h : Hp) (x1 : Int32) (x2 : Int32) (x3 : Int32) (x4 : Int32) : wG X 5 (eM X (fun u => (some (.int u), N, h, (rq q)))) (f_X12_isServed h x1 x2 x3 x4) N h (rq q) 0 0 0 [(0, .ref (xB X + 111)), (1, .int x1), (2, .int x2), (3, .int x3), (4, .int x4)] [] := by
  refine wG_of (f_X12_isServed.eq_1 ..) ?_
  refine wG_aload_n C dX12_isServed_0 0 rfl ?_
  refine wG_getR C fl_X12_44_8 rfl kd_111 (wll hN (by decide)) (rf_111_14 q) dX12_isServed_1 ?_
  refine wG_iload_n C dX12_isServed_4 1 rfl ?_
  refine wG_iald C kd_119 (wll hN (by decide)) ln_119 dX12_isServed_5 ?_
  refine wG_if_ne C dX12_isServed_6 ?_ ?_
  · refine wG_aload_n C dX12_isServed_9 0 rfl ?_
    refine wG_iload_n C dX12_isServed_10 1 rfl ?_
    refine wG_cV_ri [.int x1] [] C vw_X12_191 (c_X12_weighsOf (xl X) (xE X) N q hN h x1) kd_111 (wll hN (by decide)) (by decide) rfl rfl (Nat.le_of_ble_eq_true rfl) dX12_isServed_11 (cl' := 0) (sl' := 0) rfl rfl (fun u_1 => ?_)
    refine wG_i2l C dX12_isServed_14 ?_
    refine wG_iload_n C dX12_isServed_15 2 rfl ?_
    refine wG_i2l C dX12_isServed_16 ?_
    refine wG_iload_n C dX12_isServed_17 2 rfl ?_
    refine wG_iload_n C dX12_isServed_18 3 rfl ?_
    refine wG_iadd C dX12_isServed_19 ?_
    refine wG_i2l C dX12_isServed_20 ?_
    refine wG_cS_ri [.long u_1.toInt64, .long x2.toInt64, .long ((x2 + x3).toInt64)] [] C sw_X12_113 (c_X12_in (xl X) (xE X) N q hN h u_1.toInt64 x2.toInt64 ((x2 + x3).toInt64)) (by decide) rfl rfl (Nat.le_of_ble_eq_true rfl) dX12_isServed_21 (cl' := 0) (sl' := 0) rfl rfl (fun u_2 => ?_)
    refine wG_if_eq C dX12_isServed_24 ?_ ?_
    · refine wG_iconst C dX12_isServed_65 (v := 0) (by decide) ?_
      exact wG_zret C dX12_isServed_66 rfl ⟨by decide, by decide⟩ (fun _ e => e)
    · refine wG_aload_n C dX12_isServed_27 0 rfl ?_
      refine wG_aload_n C dX12_isServed_28 0 rfl ?_
      refine wG_getR C fl_X12_32_8 rfl kd_111 (wll hN (by decide)) (rf_111_10 q) dX12_isServed_29 ?_
      refine wG_iload_n C dX12_isServed_32 1 rfl ?_
      refine wG_iald C kd_115 (wll hN (by decide)) ln_115 dX12_isServed_33 ?_
      refine wG_aload_n C dX12_isServed_34 0 rfl ?_
      refine wG_getR C fl_X12_35_8 rfl kd_111 (wll hN (by decide)) (rf_111_11 q) dX12_isServed_35 ?_
      refine wG_iload_n C dX12_isServed_38 1 rfl ?_
      refine wG_iald C kd_116 (wll hN (by decide)) ln_116 dX12_isServed_39 ?_
      refine wG_aload_n C dX12_isServed_40 0 rfl ?_
      refine wG_getR C fl_X12_38_8 rfl kd_111 (wll hN (by decide)) (rf_111_12 q) dX12_isServed_41 ?_
      refine wG_iload_n C dX12_isServed_44 1 rfl ?_
      refine wG_iald C kd_117 (wll hN (by decide)) ln_117 dX12_isServed_45 ?_
      refine wG_aload_n C dX12_isServed_46 0 rfl ?_
      refine wG_getR C fl_X12_41_8 rfl kd_111 (wll hN (by decide)) (rf_111_13 q) dX12_isServed_47 ?_
      refine wG_iload_n C dX12_isServed_50 1 rfl ?_
      refine wG_iald C kd_118 (wll hN (by decide)) ln_118 dX12_isServed_51 ?_
      refine wG_iconst C dX12_isServed_52 (v := 1) (by decide) ?_
      refine wG_cV_ri [.int (h 115 (ix x1)), .int (h 116 (ix x1)), .int (h 117 (ix x1)), .int (h 118 (ix x1)), .int 1] [] C vw_X12_172 (c_X12_countOf (xl X) (xE X) N q hN h (h 115 (ix x1)) (h 116 (ix x1)) (h 117 (ix x1)) (h 118 (ix x1)) 1) kd_111 (wll hN (by decide)) (by decide) rfl rfl (Nat.le_of_ble_eq_true rfl) dX12_isServed_53 (cl' := 0) (sl' := 0) rfl rfl (fun u_3 => ?_)
      refine wG_iload C dX12_isServed_56 4 rfl ?_
      refine wG_icmp_gt C dX12_isServed_58 ?_ ?_
      · refine wG_iconst C dX12_isServed_65 (v := 0) (by decide) ?_
        exact wG_zret C dX12_isServed_66 rfl ⟨by decide, by decide⟩ (fun _ e => e)
      · refine wG_iconst C dX12_isServed_61 (v := 1) (by decide) ?_
        refine wG_goto C dX12_isServed_62 ?_
        exact wG_zret C dX12_isServed_66 rfl ⟨by decide, by decide⟩ (fun _ e => e)
  · refine wG_iconst C dX12_isServed_65 (v := 0) (by decide) ?_
    exact wG_zret C dX12_isServed_66 rfl ⟨by decide, by decide⟩ (fun _ e => e)
theorem c_X12_isServed (l : Launch) (E : wE) (N : Nat) (q : Qp) (hN : 137 ≤ N) (h : Hp) (x1 : Int32) (x2 : Int32) (x3 : Int32) (x4 : Int32) : ∀ z, f_X12_isServed h x1 x2 x3 x4 = some z → CT l E yX12_isServed cX12_isServed 5 (some .boolean) rm_X12_isServed [.ref (eB E + 111), .int x1, .int x2, .int x3, .int x4] N h (rq q) ((fun u => (some (.int u), N, h, (rq q))) z) := CT.of (by decide +kernel) (Nat.le_of_ble_eq_true rfl) (fun X _ e C => by subst e; exact w_X12_isServed C hN h x1 x2 x3 x4)
def rm_X12_serves : Room := { frames := 3, cells := 0, slots := 0, locals := 73 }
def f_X12_serves (h : Hp) (x1 : Int32) (x2 : Int32) (x3 : Int32) (x4 : Int32) : Option (Int32 × Hp) :=
  vB (u2 h 111 0 0) fun h_1 =>
  (f_X12_noPiece h_1 x1).bind fun u_2 =>
  (if u_2 = 0 then
  (f_X12_noAsk x2 x3 x4).bind fun u_3 =>
  (if u_3 = 0 then
  (f_X12_isServed h_1 x1 x2 x3 x4).bind fun u_4 =>
  (if u_4 = 0 then
  some (0, h_1)
  else
  some (1, h_1))
  else
  some ((-2), h_1))
  else
  some ((-1), h_1))
set_option maxRecDepth 4000 in
theorem w_X12_serves {X : wX} (C : Cx X yX12_serves cX12_serves 5 (some .int) rm_X12_serves) {N : Nat} {q : Qp} (hN : 137 ≤ N) (h : Hp) (x1 : Int32) (x2 : Int32) (x3 : Int32) (x4 : Int32) : wG X 5 (eM X (fun u => (some (.int u.1), N, u.2, (rq q)))) (f_X12_serves h x1 x2 x3 x4) N h (rq q) 0 0 0 [(0, .ref (xB X + 111)), (1, .int x1), (2, .int x2), (3, .int x3), (4, .int x4)] [] := by
  refine wG_of (f_X12_serves.eq_1 ..) ?_
  refine wG_aload_n C dX12_serves_0 0 rfl ?_
  refine wG_iconst C dX12_serves_1 (v := 0) (by decide) ?_
  refine wG_putI C fl_X12_1_8 (fp_8_0 _) (fun e => Bool.noConfusion e) rfl kd_111 (wll hN (by decide)) dX12_serves_2 (fun h_1 => ?_)
  refine wG_aload_n C dX12_serves_5 0 rfl ?_
  refine wG_iload_n C dX12_serves_6 1 rfl ?_
  refine wG_cV_ri [.int x1] [] C vw_X12_143 (c_X12_noPiece (xl X) (xE X) N q hN h_1 x1) kd_111 (wll hN (by decide)) (by decide) rfl rfl (Nat.le_of_ble_eq_true rfl) dX12_serves_7 (cl' := 0) (sl' := 0) rfl rfl (fun u_2 => ?_)
  refine wG_if_eq C dX12_serves_10 ?_ ?_
  · refine wG_iload_n C dX12_serves_15 2 rfl ?_
    refine wG_iload_n C dX12_serves_16 3 rfl ?_
    refine wG_iload C dX12_serves_17 4 rfl ?_
    refine wG_cS_ri [.int x2, .int x3, .int x4] [] C sw_X12_204 (c_X12_noAsk (xl X) (xE X) N q hN h_1 x2 x3 x4) (by decide) rfl rfl (Nat.le_of_ble_eq_true rfl) dX12_serves_19 (cl' := 0) (sl' := 0) rfl rfl (fun u_3 => ?_)
    refine wG_if_eq C dX12_serves_22 ?_ ?_
    · refine wG_aload_n C dX12_serves_30 0 rfl ?_
      refine wG_iload_n C dX12_serves_31 1 rfl ?_
      refine wG_iload_n C dX12_serves_32 2 rfl ?_
      refine wG_iload_n C dX12_serves_33 3 rfl ?_
      refine wG_iload C dX12_serves_34 4 rfl ?_
      refine wG_cV_ri [.int x1, .int x2, .int x3, .int x4] [] C vw_X12_208 (c_X12_isServed (xl X) (xE X) N q hN h_1 x1 x2 x3 x4) kd_111 (wll hN (by decide)) (by decide) rfl rfl (Nat.le_of_ble_eq_true rfl) dX12_serves_36 (cl' := 0) (sl' := 0) rfl rfl (fun u_4 => ?_)
      refine wG_if_eq C dX12_serves_39 ?_ ?_
      · refine wG_iconst C dX12_serves_46 (v := 0) (by decide) ?_
        exact wG_iret C dX12_serves_47 ⟨by decide, by decide⟩ (fun _ e => e)
      · refine wG_iconst C dX12_serves_42 (v := 1) (by decide) ?_
        refine wG_goto C dX12_serves_43 ?_
        exact wG_iret C dX12_serves_47 ⟨by decide, by decide⟩ (fun _ e => e)
    · refine wG_bipush C dX12_serves_25 (v := (-2)) (by decide) ?_
      refine wG_goto C dX12_serves_27 ?_
      exact wG_iret C dX12_serves_47 ⟨by decide, by decide⟩ (fun _ e => e)
  · refine wG_iconst C dX12_serves_13 (v := (-1)) (by decide) ?_
    exact wG_iret C dX12_serves_14 ⟨by decide, by decide⟩ (fun _ e => e)
theorem c_X12_serves (l : Launch) (E : wE) (N : Nat) (q : Qp) (hN : 137 ≤ N) (h : Hp) (x1 : Int32) (x2 : Int32) (x3 : Int32) (x4 : Int32) : ∀ z, f_X12_serves h x1 x2 x3 x4 = some z → CT l E yX12_serves cX12_serves 5 (some .int) rm_X12_serves [.ref (eB E + 111), .int x1, .int x2, .int x3, .int x4] N h (rq q) ((fun u => (some (.int u.1), N, u.2, (rq q))) z) := CT.of (by decide +kernel) (Nat.le_of_ble_eq_true rfl) (fun X _ e C => by subst e; exact w_X12_serves C hN h x1 x2 x3 x4)
def rm_X12_standsFor : Room := { frames := 3, cells := 0, slots := 0, locals := 73 }
def L_X12_standsFor_7 (h : Hp) (x1 : Int32) (x2 : Int32) (x3 : Int32) : Nat → Int32 → Int32 → Option Int32
  | 0, _, _ => none
  | n + 1, x4_3, x5_4 =>
    (if (h 111 9) ≤ x5_4 then
    some x4_3
    else
    (f_X12_isServed h x5_4 x1 x2 x3).bind fun u_6 =>
    vB u_6 fun (x6_7 : Int32) =>
    ((if x6_7 = 0 then
    some x4_3
    else
    vK (fun (t_9 : Unit) =>
    some x5_4) fun K_10 =>
    (if x4_3 = (-9) then
    K_10 ()
    else
    (f_X12_weighsOf h x5_4).bind fun u_11 =>
    (f_X12_weighsOf h x4_3).bind fun u_12 =>
    (if u_12 ≤ u_11 then
    some x4_3
    else
    K_10 ())))).bind fun t_8 =>
    vB t_8 fun (x4_13 : Int32) =>
    vB (x5_4 + 1) fun (x5_14 : Int32) =>
    L_X12_standsFor_7 h x1 x2 x3 n x4_13 x5_14)
def f_X12_standsFor (h : Hp) (x1 : Int32) (x2 : Int32) (x3 : Int32) : Option Int32 :=
  vB (-9) fun (x4_1 : Int32) =>
  vB 0 fun (x5_2 : Int32) =>
  (L_X12_standsFor_7 h x1 x2 x3 FU x4_1 x5_2).bind fun t_5 =>
  some t_5
set_option maxRecDepth 4000 in
theorem wL_X12_standsFor_7 {X : wX} (C : Cx X yX12_standsFor cX12_standsFor 7 (some .int) rm_X12_standsFor) {N : Nat} {q : Qp} (hN : 137 ≤ N) (h : Hp) (x1 : Int32) (x2 : Int32) (x3 : Int32) (x4_1 : Int32) (x5_2 : Int32) : ∀ n x4_3 x5_4, wG X 7 (fun (t_5 : Int32) Q => gQ X 7 Q N h (rq q) 0 0 69 [(4, .int t_5)] []) (L_X12_standsFor_7 h x1 x2 x3 n x4_3 x5_4) N h (rq q) 0 0 7 [(0, .ref (xB X + 111)), (1, .int x1), (2, .int x2), (3, .int x3), (4, .int x4_3), (5, .int x5_4)] [] := by
  intro n
  induction n with
  | zero => intro _ _; exact wG_none
  | succ n ih =>
    intro x4_3 x5_4
    refine wG_of (L_X12_standsFor_7.eq_2 ..) ?_
    refine wG_iload C dX12_standsFor_7 5 rfl ?_
    refine wG_aload_n C dX12_standsFor_9 0 rfl ?_
    refine wG_getI C fl_X12_29_8 rfl kd_111 (wll hN (by decide)) dX12_standsFor_10 ?_
    refine wG_icmp_ge C dX12_standsFor_13 ?_ ?_
    · exact wG_exit (fun Q e => gQ_lv [4] rfl e)
    · refine wG_aload_n C dX12_standsFor_16 0 rfl ?_
      refine wG_iload C dX12_standsFor_17 5 rfl ?_
      refine wG_iload_n C dX12_standsFor_19 1 rfl ?_
      refine wG_iload_n C dX12_standsFor_20 2 rfl ?_
      refine wG_iload_n C dX12_standsFor_21 3 rfl ?_
      refine wG_cV_ri [.int x5_4, .int x1, .int x2, .int x3] [] C vw_X12_208 (c_X12_isServed (xl X) (xE X) N q hN h x5_4 x1 x2 x3) kd_111 (wll hN (by decide)) (by decide) rfl rfl (Nat.le_of_ble_eq_true rfl) dX12_standsFor_22 (cl' := 0) (sl' := 0) rfl rfl (fun u_6 => ?_)
      refine wG_nmI (fun x6_7 => ?_)
      refine wG_istore C (L' := [(0, .ref (xB X + 111)), (1, .int x1), (2, .int x2), (3, .int x3), (4, .int x4_3), (5, .int x5_4), (6, .int x6_7)]) dX12_standsFor_25 (by decide) [1, 2, 3, 4, 5, 6, 0] rfl ?_
      refine wG_iload C dX12_standsFor_27 6 rfl ?_
      refine wG_bind (J := (fun (t_8 : Int32) Q => gQ X 7 Q N h (rq q) 0 0 61 [(0, .ref (xB X + 111)), (1, .int x1), (2, .int x2), (3, .int x3), (5, .int x5_4)] [.int t_8])) ?_ (fun t_8 => (?_ : wG X 7 _ _ N h (rq q) 0 0 61 [(0, .ref (xB X + 111)), (1, .int x1), (2, .int x2), (3, .int x3), (5, .int x5_4)] [.int t_8]))
      · refine wG_if_eq C dX12_standsFor_29 ?_ ?_
        · refine wG_iload C dX12_standsFor_59 4 rfl ?_
          exact wG_exit (fun Q e => gQ_lv [0, 1, 2, 3, 5] rfl e)
        · refine wG_iload C dX12_standsFor_32 4 rfl ?_
          refine wG_bipush C dX12_standsFor_34 (v := (-9)) (by decide) ?_
          refine wG_vK (fun t_9 => (?_ : wG X 7 _ _ N h (rq q) 0 0 54 [(0, .ref (xB X + 111)), (1, .int x1), (2, .int x2), (3, .int x3), (5, .int x5_4)] [])) (fun K_10 hK_K_10 => ?_)
          · refine wG_iload C dX12_standsFor_54 4 rfl ?_
            refine wG_goto C dX12_standsFor_56 ?_
            exact wG_exit (fun Q e => gQ_lv [0, 1, 2, 3, 4] rfl e)
          · refine wG_icmp_eq C dX12_standsFor_36 ?_ ?_
            · exact wG_lv [0, 1, 2, 3, 5] rfl (hK_K_10 ())
            · refine wG_aload_n C dX12_standsFor_39 0 rfl ?_
              refine wG_iload C dX12_standsFor_40 5 rfl ?_
              refine wG_cV_ri [.int x5_4] [] C vw_X12_191 (c_X12_weighsOf (xl X) (xE X) N q hN h x5_4) kd_111 (wll hN (by decide)) (by decide) rfl rfl (Nat.le_of_ble_eq_true rfl) dX12_standsFor_42 (cl' := 0) (sl' := 0) rfl rfl (fun u_11 => ?_)
              refine wG_aload_n C dX12_standsFor_45 0 rfl ?_
              refine wG_iload C dX12_standsFor_46 4 rfl ?_
              refine wG_cV_ri [.int x4_3] [.int u_11] C vw_X12_191 (c_X12_weighsOf (xl X) (xE X) N q hN h x4_3) kd_111 (wll hN (by decide)) (by decide) rfl rfl (Nat.le_of_ble_eq_true rfl) dX12_standsFor_48 (cl' := 0) (sl' := 0) rfl rfl (fun u_12 => ?_)
              refine wG_icmp_ge C dX12_standsFor_51 ?_ ?_
              · refine wG_iload C dX12_standsFor_59 4 rfl ?_
                exact wG_exit (fun Q e => gQ_lv [0, 1, 2, 3, 5] rfl e)
              · exact wG_lv [0, 1, 2, 3, 5] rfl (hK_K_10 ())
      · refine wG_nmI (fun x4_13 => ?_)
        refine wG_istore C (L' := [(0, .ref (xB X + 111)), (1, .int x1), (2, .int x2), (3, .int x3), (4, .int x4_13), (5, .int x5_4)]) dX12_standsFor_61 (by decide) [1, 2, 3, 4, 0, 5] rfl ?_
        refine wG_iinc C (v := 1) (LL := fun x5_14 => [(0, .ref (xB X + 111)), (1, .int x1), (2, .int x2), (3, .int x3), (4, .int x4_13), (5, .int x5_14)]) dX12_standsFor_63 5 rfl (by decide) (by decide) [1, 2, 3, 4, 5, 0] (fun _ => rfl) (fun x5_14 => ?_)
        refine wG_goto C dX12_standsFor_66 ?_
        exact wG_lv [0, 1, 2, 3, 4, 5] rfl (ih x4_13 x5_14)
set_option maxRecDepth 4000 in
theorem w_X12_standsFor {X : wX} (C : Cx X yX12_standsFor cX12_standsFor 7 (some .int) rm_X12_standsFor) {N : Nat} {q : Qp} (hN : 137 ≤ N) (h : Hp) (x1 : Int32) (x2 : Int32) (x3 : Int32) : wG X 7 (eM X (fun u => (some (.int u), N, h, (rq q)))) (f_X12_standsFor h x1 x2 x3) N h (rq q) 0 0 0 [(0, .ref (xB X + 111)), (1, .int x1), (2, .int x2), (3, .int x3)] [] := by
  refine wG_of (f_X12_standsFor.eq_1 ..) ?_
  refine wG_bipush C dX12_standsFor_0 (v := (-9)) (by decide) ?_
  refine wG_nmI (fun x4_1 => ?_)
  refine wG_istore C (L' := [(0, .ref (xB X + 111)), (1, .int x1), (2, .int x2), (3, .int x3), (4, .int x4_1)]) dX12_standsFor_2 (by decide) [1, 2, 3, 4, 0] rfl ?_
  refine wG_iconst C dX12_standsFor_4 (v := 0) (by decide) ?_
  refine wG_nmI (fun x5_2 => ?_)
  refine wG_istore C (L' := [(0, .ref (xB X + 111)), (1, .int x1), (2, .int x2), (3, .int x3), (4, .int x4_1), (5, .int x5_2)]) dX12_standsFor_5 (by decide) [1, 2, 3, 4, 5, 0] rfl ?_
  refine wG_lv (L' := [(0, .ref (xB X + 111)), (1, .int x1), (2, .int x2), (3, .int x3), (4, .int x4_1), (5, .int x5_2)]) [0, 1, 2, 3, 4, 5] rfl ?_
  refine wG_bind (wL_X12_standsFor_7 C hN h x1 x2 x3 x4_1 x5_2 FU x4_1 x5_2) (fun t_5 => (?_ : wG X 7 _ _ N h (rq q) 0 0 69 [(4, .int t_5)] []))
  refine wG_iload C dX12_standsFor_69 0 rfl ?_
  exact wG_iret C dX12_standsFor_71 ⟨by decide, by decide⟩ (fun _ e => e)
theorem c_X12_standsFor (l : Launch) (E : wE) (N : Nat) (q : Qp) (hN : 137 ≤ N) (h : Hp) (x1 : Int32) (x2 : Int32) (x3 : Int32) : ∀ z, f_X12_standsFor h x1 x2 x3 = some z → CT l E yX12_standsFor cX12_standsFor 7 (some .int) rm_X12_standsFor [.ref (eB E + 111), .int x1, .int x2, .int x3] N h (rq q) ((fun u => (some (.int u), N, h, (rq q))) z) := CT.of (by decide +kernel) (Nat.le_of_ble_eq_true rfl) (fun X _ e C => by subst e; exact w_X12_standsFor C hN h x1 x2 x3)
def rm_X12_stands : Room := { frames := 4, cells := 0, slots := 0, locals := 99 }
def f_X12_stands (h : Hp) (x1 : Int32) (x2 : Int32) (x3 : Int32) : Option (Int32 × Hp) :=
  vB (u2 h 111 0 0) fun h_1 =>
  (f_X12_noAsk x1 x2 x3).bind fun u_2 =>
  (if u_2 = 0 then
  (f_X12_standsFor h_1 x1 x2 x3).bind fun u_3 =>
  some (u_3, h_1)
  else
  some ((-2), h_1))
set_option maxRecDepth 4000 in
theorem w_X12_stands {X : wX} (C : Cx X yX12_stands cX12_stands 4 (some .int) rm_X12_stands) {N : Nat} {q : Qp} (hN : 137 ≤ N) (h : Hp) (x1 : Int32) (x2 : Int32) (x3 : Int32) : wG X 4 (eM X (fun u => (some (.int u.1), N, u.2, (rq q)))) (f_X12_stands h x1 x2 x3) N h (rq q) 0 0 0 [(0, .ref (xB X + 111)), (1, .int x1), (2, .int x2), (3, .int x3)] [] := by
  refine wG_of (f_X12_stands.eq_1 ..) ?_
  refine wG_aload_n C dX12_stands_0 0 rfl ?_
  refine wG_iconst C dX12_stands_1 (v := 0) (by decide) ?_
  refine wG_putI C fl_X12_1_8 (fp_8_0 _) (fun e => Bool.noConfusion e) rfl kd_111 (wll hN (by decide)) dX12_stands_2 (fun h_1 => ?_)
  refine wG_iload_n C dX12_stands_5 1 rfl ?_
  refine wG_iload_n C dX12_stands_6 2 rfl ?_
  refine wG_iload_n C dX12_stands_7 3 rfl ?_
  refine wG_cS_ri [.int x1, .int x2, .int x3] [] C sw_X12_204 (c_X12_noAsk (xl X) (xE X) N q hN h_1 x1 x2 x3) (by decide) rfl rfl (Nat.le_of_ble_eq_true rfl) dX12_stands_8 (cl' := 0) (sl' := 0) rfl rfl (fun u_2 => ?_)
  refine wG_if_eq C dX12_stands_11 ?_ ?_
  · refine wG_aload_n C dX12_stands_19 0 rfl ?_
    refine wG_iload_n C dX12_stands_20 1 rfl ?_
    refine wG_iload_n C dX12_stands_21 2 rfl ?_
    refine wG_iload_n C dX12_stands_22 3 rfl ?_
    refine wG_cV_ri [.int x1, .int x2, .int x3] [] C vw_X12_212 (c_X12_standsFor (xl X) (xE X) N q hN h_1 x1 x2 x3) kd_111 (wll hN (by decide)) (by decide) rfl rfl (Nat.le_of_ble_eq_true rfl) dX12_stands_23 (cl' := 0) (sl' := 0) rfl rfl (fun u_3 => ?_)
    exact wG_iret C dX12_stands_26 ⟨by decide, by decide⟩ (fun _ e => e)
  · refine wG_bipush C dX12_stands_14 (v := (-2)) (by decide) ?_
    refine wG_goto C dX12_stands_16 ?_
    exact wG_iret C dX12_stands_26 ⟨by decide, by decide⟩ (fun _ e => e)
theorem c_X12_stands (l : Launch) (E : wE) (N : Nat) (q : Qp) (hN : 137 ≤ N) (h : Hp) (x1 : Int32) (x2 : Int32) (x3 : Int32) : ∀ z, f_X12_stands h x1 x2 x3 = some z → CT l E yX12_stands cX12_stands 4 (some .int) rm_X12_stands [.ref (eB E + 111), .int x1, .int x2, .int x3] N h (rq q) ((fun u => (some (.int u.1), N, u.2, (rq q))) z) := CT.of (by decide +kernel) (Nat.le_of_ble_eq_true rfl) (fun X _ e C => by subst e; exact w_X12_stands C hN h x1 x2 x3)
def rm_X12_layPart : Room := { frames := 2, cells := 0, slots := 0, locals := 53 }
def L_X12_layPart_163 (h : Hp) (x1 : Int32) (x2 : Int32) (x3 : Int32) (x4 : Int32) (x9_10 : Int32) : Nat → Int32 → Int32 → Option Int32
  | 0, _, _ => none
  | n + 1, x10_14, x11_15 =>
    (if (x9_10 + 2) ≤ x11_15 then
    some x10_14
    else
    (f_X12_driedAhead h x1 x11_15 x2 x3).bind fun u_17 =>
    vB u_17 fun (x12_18 : Int32) =>
    ((if x4 = 0 then
    some x12_18
    else
    if inB ((4 * x1) + x11_15) 96 then
    some ((h 122 (ix ((4 * x1) + x11_15))) - x12_18) else none)).bind fun t_19 =>
    vB (x10_14 + t_19) fun (x10_20 : Int32) =>
    vB (x11_15 + 1) fun (x11_21 : Int32) =>
    L_X12_layPart_163 h x1 x2 x3 x4 x9_10 n x10_20 x11_21)
def f_X12_layPart (h : Hp) (x1 : Int32) (x2 : Int32) (x3 : Int32) (x4 : Int32) : Option Hp :=
  if inB x1 24 then
  ((if x2 = 0 then
  some 0
  else
  (if x4 = 0 then
  some 0
  else
  some x3))).bind fun t_1 =>
  vB ((h 115 (ix x1)) + t_1) fun (x5_2 : Int32) =>
  if inB x1 24 then
  ((if x2 = 0 then
  (if x4 = 0 then
  some 0
  else
  some x3)
  else
  some 0)).bind fun t_3 =>
  vB ((h 116 (ix x1)) + t_3) fun (x6_4 : Int32) =>
  ((if x2 = 0 then
  if inB x1 24 then
  some (h 117 (ix x1)) else none
  else
  (if x4 = 0 then
  some x3
  else
  if inB x1 24 then
  some ((h 117 (ix x1)) - x3) else none))).bind fun t_5 =>
  vB t_5 fun (x7_6 : Int32) =>
  ((if x2 = 0 then
  (if x4 = 0 then
  some x3
  else
  if inB x1 24 then
  some ((h 118 (ix x1)) - x3) else none)
  else
  if inB x1 24 then
  some (h 118 (ix x1)) else none)).bind fun t_7 =>
  vB t_7 fun (x8_8 : Int32) =>
  ((if x2 = 0 then
  some 0
  else
  some 2)).bind fun t_9 =>
  vB t_9 fun (x9_10 : Int32) =>
  ((if x2 = 0 then
  (if x4 = 0 then
  some 2
  else
  some 3)
  else
  (if x4 = 0 then
  some 0
  else
  some 1))).bind fun t_11 =>
  if inB ((4 * x1) + t_11) 96 then
  vB (h 122 (ix ((4 * x1) + t_11))) fun (x10_12 : Int32) =>
  vB x9_10 fun (x11_13 : Int32) =>
  (L_X12_layPart_163 h x1 x2 x3 x4 x9_10 FU x10_12 x11_13).bind fun t_16 =>
  (f_X12_offAhead h x1 x2 x3).bind fun u_22 =>
  vB u_22 fun (x11_23 : Int32) =>
  (f_X12_weightOf h x5_2 x6_4 x7_6 x8_8).bind fun u_24 =>
  ((if x4 = 0 then
  some x11_23
  else
  if inB x1 24 then
  some ((h 121 (ix x1)) - x11_23) else none)).bind fun t_25 =>
  (f_X12_more ((u_24 - (t_16 / 40)) - t_25)).bind fun u_26 =>
  vB (u2 h 111 22 u_26) fun h_27 =>
  (f_X12_countOf h_27 x5_2 x6_4 x7_6 x8_8 1).bind fun u_28 =>
  vB (u2 h_27 111 23 u_28) fun h_29 =>
  some h_29 else none else none else none
set_option maxRecDepth 4000 in
theorem wL_X12_layPart_163 {X : wX} (C : Cx X yX12_layPart cX12_layPart 13 none rm_X12_layPart) {N : Nat} {q : Qp} (hN : 137 ≤ N) (h : Hp) (x1 : Int32) (x2 : Int32) (x3 : Int32) (x4 : Int32) (t_1 : Int32) (x5_2 : Int32) (t_3 : Int32) (x6_4 : Int32) (t_5 : Int32) (x7_6 : Int32) (t_7 : Int32) (x8_8 : Int32) (t_9 : Int32) (x9_10 : Int32) (t_11 : Int32) (x10_12 : Int32) (x11_13 : Int32) : ∀ n x10_14 x11_15, wG X 13 (fun (t_16 : Int32) Q => gQ X 13 Q N h (rq q) 0 0 218 [(0, .ref (xB X + 111)), (1, .int x1), (2, .int x2), (3, .int x3), (4, .int x4), (5, .int x5_2), (6, .int x6_4), (7, .int x7_6), (8, .int x8_8), (10, .int t_16)] []) (L_X12_layPart_163 h x1 x2 x3 x4 x9_10 n x10_14 x11_15) N h (rq q) 0 0 163 [(0, .ref (xB X + 111)), (1, .int x1), (2, .int x2), (3, .int x3), (4, .int x4), (5, .int x5_2), (6, .int x6_4), (7, .int x7_6), (8, .int x8_8), (9, .int x9_10), (10, .int x10_14), (11, .int x11_15)] [] := by
  intro n
  induction n with
  | zero => intro _ _; exact wG_none
  | succ n ih =>
    intro x10_14 x11_15
    refine wG_of (L_X12_layPart_163.eq_2 ..) ?_
    refine wG_iload C dX12_layPart_163 11 rfl ?_
    refine wG_iload C dX12_layPart_165 9 rfl ?_
    refine wG_iconst C dX12_layPart_167 (v := 2) (by decide) ?_
    refine wG_iadd C dX12_layPart_168 ?_
    refine wG_icmp_ge C dX12_layPart_169 ?_ ?_
    · exact wG_exit (fun Q e => gQ_lv [0, 1, 2, 3, 4, 5, 6, 7, 8, 10] rfl e)
    · refine wG_aload_n C dX12_layPart_172 0 rfl ?_
      refine wG_iload_n C dX12_layPart_173 1 rfl ?_
      refine wG_iload C dX12_layPart_174 11 rfl ?_
      refine wG_iload_n C dX12_layPart_176 2 rfl ?_
      refine wG_iload_n C dX12_layPart_177 3 rfl ?_
      refine wG_cV_ri [.int x1, .int x11_15, .int x2, .int x3] [] C vw_X12_161 (c_X12_driedAhead (xl X) (xE X) N q hN h x1 x11_15 x2 x3) kd_111 (wll hN (by decide)) (by decide) rfl rfl (Nat.le_of_ble_eq_true rfl) dX12_layPart_178 (cl' := 0) (sl' := 0) rfl rfl (fun u_17 => ?_)
      refine wG_nmI (fun x12_18 => ?_)
      refine wG_istore C (L' := [(0, .ref (xB X + 111)), (1, .int x1), (2, .int x2), (3, .int x3), (4, .int x4), (5, .int x5_2), (6, .int x6_4), (7, .int x7_6), (8, .int x8_8), (9, .int x9_10), (10, .int x10_14), (11, .int x11_15), (12, .int x12_18)]) dX12_layPart_181 (by decide) [1, 2, 3, 4, 5, 6, 7, 8, 9, 10, 11, 12, 0] rfl ?_
      refine wG_iload C dX12_layPart_183 10 rfl ?_
      refine wG_iload C dX12_layPart_185 4 rfl ?_
      refine wG_bind (J := (fun (t_19 : Int32) Q => gQ X 13 Q N h (rq q) 0 0 209 [(0, .ref (xB X + 111)), (1, .int x1), (2, .int x2), (3, .int x3), (4, .int x4), (5, .int x5_2), (6, .int x6_4), (7, .int x7_6), (8, .int x8_8), (9, .int x9_10), (11, .int x11_15)] [.int t_19, .int x10_14])) ?_ (fun t_19 => (?_ : wG X 13 _ _ N h (rq q) 0 0 209 [(0, .ref (xB X + 111)), (1, .int x1), (2, .int x2), (3, .int x3), (4, .int x4), (5, .int x5_2), (6, .int x6_4), (7, .int x7_6), (8, .int x8_8), (9, .int x9_10), (11, .int x11_15)] [.int t_19, .int x10_14]))
      · refine wG_if_eq C dX12_layPart_187 ?_ ?_
        · refine wG_iload C dX12_layPart_207 12 rfl ?_
          exact wG_exit (fun Q e => gQ_lv [0, 1, 2, 3, 4, 5, 6, 7, 8, 9, 11] rfl e)
        · refine wG_aload_n C dX12_layPart_190 0 rfl ?_
          refine wG_getR C fl_X12_53_8 rfl kd_111 (wll hN (by decide)) (rf_111_17 q) dX12_layPart_191 ?_
          refine wG_iconst C dX12_layPart_194 (v := 4) (by decide) ?_
          refine wG_iload_n C dX12_layPart_195 1 rfl ?_
          refine wG_imul C dX12_layPart_196 ?_
          refine wG_iload C dX12_layPart_197 11 rfl ?_
          refine wG_iadd C dX12_layPart_199 ?_
          refine wG_iald C kd_122 (wll hN (by decide)) ln_122 dX12_layPart_200 ?_
          refine wG_iload C dX12_layPart_201 12 rfl ?_
          refine wG_isub C dX12_layPart_203 ?_
          refine wG_goto C dX12_layPart_204 ?_
          exact wG_exit (fun Q e => gQ_lv [0, 1, 2, 3, 4, 5, 6, 7, 8, 9, 11] rfl e)
      · refine wG_iadd C dX12_layPart_209 ?_
        refine wG_nmI (fun x10_20 => ?_)
        refine wG_istore C (L' := [(0, .ref (xB X + 111)), (1, .int x1), (2, .int x2), (3, .int x3), (4, .int x4), (5, .int x5_2), (6, .int x6_4), (7, .int x7_6), (8, .int x8_8), (9, .int x9_10), (10, .int x10_20), (11, .int x11_15)]) dX12_layPart_210 (by decide) [1, 2, 3, 4, 5, 6, 7, 8, 9, 10, 0, 11] rfl ?_
        refine wG_iinc C (v := 1) (LL := fun x11_21 => [(0, .ref (xB X + 111)), (1, .int x1), (2, .int x2), (3, .int x3), (4, .int x4), (5, .int x5_2), (6, .int x6_4), (7, .int x7_6), (8, .int x8_8), (9, .int x9_10), (10, .int x10_20), (11, .int x11_21)]) dX12_layPart_212 11 rfl (by decide) (by decide) [1, 2, 3, 4, 5, 6, 7, 8, 9, 10, 11, 0] (fun _ => rfl) (fun x11_21 => ?_)
        refine wG_goto C dX12_layPart_215 ?_
        exact wG_lv [0, 1, 2, 3, 4, 5, 6, 7, 8, 9, 10, 11] rfl (ih x10_20 x11_21)
set_option maxRecDepth 4000 in
theorem w_X12_layPart {X : wX} (C : Cx X yX12_layPart cX12_layPart 13 none rm_X12_layPart) {N : Nat} {q : Qp} (hN : 137 ≤ N) (h : Hp) (x1 : Int32) (x2 : Int32) (x3 : Int32) (x4 : Int32) : wG X 13 (eM X (fun u => (none, N, u, (rq q)))) (f_X12_layPart h x1 x2 x3 x4) N h (rq q) 0 0 0 [(0, .ref (xB X + 111)), (1, .int x1), (2, .int x2), (3, .int x3), (4, .int x4)] [] := by
  refine wG_of (f_X12_layPart.eq_1 ..) ?_
  refine wG_aload_n C dX12_layPart_0 0 rfl ?_
  refine wG_getR C fl_X12_32_8 rfl kd_111 (wll hN (by decide)) (rf_111_10 q) dX12_layPart_1 ?_
  refine wG_iload_n C dX12_layPart_4 1 rfl ?_
  refine wG_iald C kd_115 (wll hN (by decide)) ln_115 dX12_layPart_5 ?_
  refine wG_iload_n C dX12_layPart_6 2 rfl ?_
  refine wG_bind (J := (fun (t_1 : Int32) Q => gQ X 13 Q N h (rq q) 0 0 20 [(0, .ref (xB X + 111)), (1, .int x1), (2, .int x2), (3, .int x3), (4, .int x4)] [.int t_1, .int (h 115 (ix x1))])) ?_ (fun t_1 => (?_ : wG X 13 _ _ N h (rq q) 0 0 20 [(0, .ref (xB X + 111)), (1, .int x1), (2, .int x2), (3, .int x3), (4, .int x4)] [.int t_1, .int (h 115 (ix x1))]))
  · refine wG_if_eq C dX12_layPart_7 ?_ ?_
    · refine wG_iconst C dX12_layPart_19 (v := 0) (by decide) ?_
      exact wG_exit (fun Q e => gQ_lv [0, 1, 2, 3, 4] rfl e)
    · refine wG_iload C dX12_layPart_10 4 rfl ?_
      refine wG_if_eq C dX12_layPart_12 ?_ ?_
      · refine wG_iconst C dX12_layPart_19 (v := 0) (by decide) ?_
        exact wG_exit (fun Q e => gQ_lv [0, 1, 2, 3, 4] rfl e)
      · refine wG_iload_n C dX12_layPart_15 3 rfl ?_
        refine wG_goto C dX12_layPart_16 ?_
        exact wG_exit (fun Q e => gQ_lv [0, 1, 2, 3, 4] rfl e)
  · refine wG_iadd C dX12_layPart_20 ?_
    refine wG_nmI (fun x5_2 => ?_)
    refine wG_istore C (L' := [(0, .ref (xB X + 111)), (1, .int x1), (2, .int x2), (3, .int x3), (4, .int x4), (5, .int x5_2)]) dX12_layPart_21 (by decide) [1, 2, 3, 4, 5, 0] rfl ?_
    refine wG_aload_n C dX12_layPart_23 0 rfl ?_
    refine wG_getR C fl_X12_35_8 rfl kd_111 (wll hN (by decide)) (rf_111_11 q) dX12_layPart_24 ?_
    refine wG_iload_n C dX12_layPart_27 1 rfl ?_
    refine wG_iald C kd_116 (wll hN (by decide)) ln_116 dX12_layPart_28 ?_
    refine wG_iload_n C dX12_layPart_29 2 rfl ?_
    refine wG_bind (J := (fun (t_3 : Int32) Q => gQ X 13 Q N h (rq q) 0 0 43 [(0, .ref (xB X + 111)), (1, .int x1), (2, .int x2), (3, .int x3), (4, .int x4), (5, .int x5_2)] [.int t_3, .int (h 116 (ix x1))])) ?_ (fun t_3 => (?_ : wG X 13 _ _ N h (rq q) 0 0 43 [(0, .ref (xB X + 111)), (1, .int x1), (2, .int x2), (3, .int x3), (4, .int x4), (5, .int x5_2)] [.int t_3, .int (h 116 (ix x1))]))
    · refine wG_if_ne C dX12_layPart_30 ?_ ?_
      · refine wG_iload C dX12_layPart_33 4 rfl ?_
        refine wG_if_eq C dX12_layPart_35 ?_ ?_
        · refine wG_iconst C dX12_layPart_42 (v := 0) (by decide) ?_
          exact wG_exit (fun Q e => gQ_lv [0, 1, 2, 3, 4, 5] rfl e)
        · refine wG_iload_n C dX12_layPart_38 3 rfl ?_
          refine wG_goto C dX12_layPart_39 ?_
          exact wG_exit (fun Q e => gQ_lv [0, 1, 2, 3, 4, 5] rfl e)
      · refine wG_iconst C dX12_layPart_42 (v := 0) (by decide) ?_
        exact wG_exit (fun Q e => gQ_lv [0, 1, 2, 3, 4, 5] rfl e)
    · refine wG_iadd C dX12_layPart_43 ?_
      refine wG_nmI (fun x6_4 => ?_)
      refine wG_istore C (L' := [(0, .ref (xB X + 111)), (1, .int x1), (2, .int x2), (3, .int x3), (4, .int x4), (5, .int x5_2), (6, .int x6_4)]) dX12_layPart_44 (by decide) [1, 2, 3, 4, 5, 6, 0] rfl ?_
      refine wG_iload_n C dX12_layPart_46 2 rfl ?_
      refine wG_bind (J := (fun (t_5 : Int32) Q => gQ X 13 Q N h (rq q) 0 0 76 [(0, .ref (xB X + 111)), (1, .int x1), (2, .int x2), (3, .int x3), (4, .int x4), (5, .int x5_2), (6, .int x6_4)] [.int t_5])) ?_ (fun t_5 => (?_ : wG X 13 _ _ N h (rq q) 0 0 76 [(0, .ref (xB X + 111)), (1, .int x1), (2, .int x2), (3, .int x3), (4, .int x4), (5, .int x5_2), (6, .int x6_4)] [.int t_5]))
      · refine wG_if_ne C dX12_layPart_47 ?_ ?_
        · refine wG_aload_n C dX12_layPart_50 0 rfl ?_
          refine wG_getR C fl_X12_38_8 rfl kd_111 (wll hN (by decide)) (rf_111_12 q) dX12_layPart_51 ?_
          refine wG_iload_n C dX12_layPart_54 1 rfl ?_
          refine wG_iald C kd_117 (wll hN (by decide)) ln_117 dX12_layPart_55 ?_
          refine wG_goto C dX12_layPart_56 ?_
          exact wG_exit (fun Q e => gQ_lv [0, 1, 2, 3, 4, 5, 6] rfl e)
        · refine wG_iload C dX12_layPart_59 4 rfl ?_
          refine wG_if_eq C dX12_layPart_61 ?_ ?_
          · refine wG_iload_n C dX12_layPart_75 3 rfl ?_
            exact wG_exit (fun Q e => gQ_lv [0, 1, 2, 3, 4, 5, 6] rfl e)
          · refine wG_aload_n C dX12_layPart_64 0 rfl ?_
            refine wG_getR C fl_X12_38_8 rfl kd_111 (wll hN (by decide)) (rf_111_12 q) dX12_layPart_65 ?_
            refine wG_iload_n C dX12_layPart_68 1 rfl ?_
            refine wG_iald C kd_117 (wll hN (by decide)) ln_117 dX12_layPart_69 ?_
            refine wG_iload_n C dX12_layPart_70 3 rfl ?_
            refine wG_isub C dX12_layPart_71 ?_
            refine wG_goto C dX12_layPart_72 ?_
            exact wG_exit (fun Q e => gQ_lv [0, 1, 2, 3, 4, 5, 6] rfl e)
      · refine wG_nmI (fun x7_6 => ?_)
        refine wG_istore C (L' := [(0, .ref (xB X + 111)), (1, .int x1), (2, .int x2), (3, .int x3), (4, .int x4), (5, .int x5_2), (6, .int x6_4), (7, .int x7_6)]) dX12_layPart_76 (by decide) [1, 2, 3, 4, 5, 6, 7, 0] rfl ?_
        refine wG_iload_n C dX12_layPart_78 2 rfl ?_
        refine wG_bind (J := (fun (t_7 : Int32) Q => gQ X 13 Q N h (rq q) 0 0 108 [(0, .ref (xB X + 111)), (1, .int x1), (2, .int x2), (3, .int x3), (4, .int x4), (5, .int x5_2), (6, .int x6_4), (7, .int x7_6)] [.int t_7])) ?_ (fun t_7 => (?_ : wG X 13 _ _ N h (rq q) 0 0 108 [(0, .ref (xB X + 111)), (1, .int x1), (2, .int x2), (3, .int x3), (4, .int x4), (5, .int x5_2), (6, .int x6_4), (7, .int x7_6)] [.int t_7]))
        · refine wG_if_eq C dX12_layPart_79 ?_ ?_
          · refine wG_iload C dX12_layPart_91 4 rfl ?_
            refine wG_if_eq C dX12_layPart_93 ?_ ?_
            · refine wG_iload_n C dX12_layPart_107 3 rfl ?_
              exact wG_exit (fun Q e => gQ_lv [0, 1, 2, 3, 4, 5, 6, 7] rfl e)
            · refine wG_aload_n C dX12_layPart_96 0 rfl ?_
              refine wG_getR C fl_X12_41_8 rfl kd_111 (wll hN (by decide)) (rf_111_13 q) dX12_layPart_97 ?_
              refine wG_iload_n C dX12_layPart_100 1 rfl ?_
              refine wG_iald C kd_118 (wll hN (by decide)) ln_118 dX12_layPart_101 ?_
              refine wG_iload_n C dX12_layPart_102 3 rfl ?_
              refine wG_isub C dX12_layPart_103 ?_
              refine wG_goto C dX12_layPart_104 ?_
              exact wG_exit (fun Q e => gQ_lv [0, 1, 2, 3, 4, 5, 6, 7] rfl e)
          · refine wG_aload_n C dX12_layPart_82 0 rfl ?_
            refine wG_getR C fl_X12_41_8 rfl kd_111 (wll hN (by decide)) (rf_111_13 q) dX12_layPart_83 ?_
            refine wG_iload_n C dX12_layPart_86 1 rfl ?_
            refine wG_iald C kd_118 (wll hN (by decide)) ln_118 dX12_layPart_87 ?_
            refine wG_goto C dX12_layPart_88 ?_
            exact wG_exit (fun Q e => gQ_lv [0, 1, 2, 3, 4, 5, 6, 7] rfl e)
        · refine wG_nmI (fun x8_8 => ?_)
          refine wG_istore C (L' := [(0, .ref (xB X + 111)), (1, .int x1), (2, .int x2), (3, .int x3), (4, .int x4), (5, .int x5_2), (6, .int x6_4), (7, .int x7_6), (8, .int x8_8)]) dX12_layPart_108 (by decide) [1, 2, 3, 4, 5, 6, 7, 8, 0] rfl ?_
          refine wG_iload_n C dX12_layPart_110 2 rfl ?_
          refine wG_bind (J := (fun (t_9 : Int32) Q => gQ X 13 Q N h (rq q) 0 0 119 [(0, .ref (xB X + 111)), (1, .int x1), (2, .int x2), (3, .int x3), (4, .int x4), (5, .int x5_2), (6, .int x6_4), (7, .int x7_6), (8, .int x8_8)] [.int t_9])) ?_ (fun t_9 => (?_ : wG X 13 _ _ N h (rq q) 0 0 119 [(0, .ref (xB X + 111)), (1, .int x1), (2, .int x2), (3, .int x3), (4, .int x4), (5, .int x5_2), (6, .int x6_4), (7, .int x7_6), (8, .int x8_8)] [.int t_9]))
          · refine wG_if_eq C dX12_layPart_111 ?_ ?_
            · refine wG_iconst C dX12_layPart_118 (v := 0) (by decide) ?_
              exact wG_exit (fun Q e => gQ_lv [0, 1, 2, 3, 4, 5, 6, 7, 8] rfl e)
            · refine wG_iconst C dX12_layPart_114 (v := 2) (by decide) ?_
              refine wG_goto C dX12_layPart_115 ?_
              exact wG_exit (fun Q e => gQ_lv [0, 1, 2, 3, 4, 5, 6, 7, 8] rfl e)
          · refine wG_nmI (fun x9_10 => ?_)
            refine wG_istore C (L' := [(0, .ref (xB X + 111)), (1, .int x1), (2, .int x2), (3, .int x3), (4, .int x4), (5, .int x5_2), (6, .int x6_4), (7, .int x7_6), (8, .int x8_8), (9, .int x9_10)]) dX12_layPart_119 (by decide) [1, 2, 3, 4, 5, 6, 7, 8, 9, 0] rfl ?_
            refine wG_aload_n C dX12_layPart_121 0 rfl ?_
            refine wG_getR C fl_X12_53_8 rfl kd_111 (wll hN (by decide)) (rf_111_17 q) dX12_layPart_122 ?_
            refine wG_iconst C dX12_layPart_125 (v := 4) (by decide) ?_
            refine wG_iload_n C dX12_layPart_126 1 rfl ?_
            refine wG_imul C dX12_layPart_127 ?_
            refine wG_iload_n C dX12_layPart_128 2 rfl ?_
            refine wG_bind (J := (fun (t_11 : Int32) Q => gQ X 13 Q N h (rq q) 0 0 155 [(0, .ref (xB X + 111)), (1, .int x1), (2, .int x2), (3, .int x3), (4, .int x4), (5, .int x5_2), (6, .int x6_4), (7, .int x7_6), (8, .int x8_8), (9, .int x9_10)] [.int t_11, .int (4 * x1), .ref (xB X + 122)])) ?_ (fun t_11 => (?_ : wG X 13 _ _ N h (rq q) 0 0 155 [(0, .ref (xB X + 111)), (1, .int x1), (2, .int x2), (3, .int x3), (4, .int x4), (5, .int x5_2), (6, .int x6_4), (7, .int x7_6), (8, .int x8_8), (9, .int x9_10)] [.int t_11, .int (4 * x1), .ref (xB X + 122)]))
            · refine wG_if_eq C dX12_layPart_129 ?_ ?_
              · refine wG_iload C dX12_layPart_145 4 rfl ?_
                refine wG_if_eq C dX12_layPart_147 ?_ ?_
                · refine wG_iconst C dX12_layPart_154 (v := 2) (by decide) ?_
                  exact wG_exit (fun Q e => gQ_lv [0, 1, 2, 3, 4, 5, 6, 7, 8, 9] rfl e)
                · refine wG_iconst C dX12_layPart_150 (v := 3) (by decide) ?_
                  refine wG_goto C dX12_layPart_151 ?_
                  exact wG_exit (fun Q e => gQ_lv [0, 1, 2, 3, 4, 5, 6, 7, 8, 9] rfl e)
              · refine wG_iload C dX12_layPart_132 4 rfl ?_
                refine wG_if_eq C dX12_layPart_134 ?_ ?_
                · refine wG_iconst C dX12_layPart_141 (v := 0) (by decide) ?_
                  refine wG_goto C dX12_layPart_142 ?_
                  exact wG_exit (fun Q e => gQ_lv [0, 1, 2, 3, 4, 5, 6, 7, 8, 9] rfl e)
                · refine wG_iconst C dX12_layPart_137 (v := 1) (by decide) ?_
                  refine wG_goto C dX12_layPart_138 ?_
                  exact wG_exit (fun Q e => gQ_lv [0, 1, 2, 3, 4, 5, 6, 7, 8, 9] rfl e)
            · refine wG_iadd C dX12_layPart_155 ?_
              refine wG_iald C kd_122 (wll hN (by decide)) ln_122 dX12_layPart_156 ?_
              refine wG_nmI (fun x10_12 => ?_)
              refine wG_istore C (L' := [(0, .ref (xB X + 111)), (1, .int x1), (2, .int x2), (3, .int x3), (4, .int x4), (5, .int x5_2), (6, .int x6_4), (7, .int x7_6), (8, .int x8_8), (9, .int x9_10), (10, .int x10_12)]) dX12_layPart_157 (by decide) [1, 2, 3, 4, 5, 6, 7, 8, 9, 10, 0] rfl ?_
              refine wG_iload C dX12_layPart_159 9 rfl ?_
              refine wG_nmI (fun x11_13 => ?_)
              refine wG_istore C (L' := [(0, .ref (xB X + 111)), (1, .int x1), (2, .int x2), (3, .int x3), (4, .int x4), (5, .int x5_2), (6, .int x6_4), (7, .int x7_6), (8, .int x8_8), (9, .int x9_10), (10, .int x10_12), (11, .int x11_13)]) dX12_layPart_161 (by decide) [1, 2, 3, 4, 5, 6, 7, 8, 9, 10, 11, 0] rfl ?_
              refine wG_lv (L' := [(0, .ref (xB X + 111)), (1, .int x1), (2, .int x2), (3, .int x3), (4, .int x4), (5, .int x5_2), (6, .int x6_4), (7, .int x7_6), (8, .int x8_8), (9, .int x9_10), (10, .int x10_12), (11, .int x11_13)]) [0, 1, 2, 3, 4, 5, 6, 7, 8, 9, 10, 11] rfl ?_
              refine wG_bind (wL_X12_layPart_163 C hN h x1 x2 x3 x4 t_1 x5_2 t_3 x6_4 t_5 x7_6 t_7 x8_8 t_9 x9_10 t_11 x10_12 x11_13 FU x10_12 x11_13) (fun t_16 => (?_ : wG X 13 _ _ N h (rq q) 0 0 218 [(0, .ref (xB X + 111)), (1, .int x1), (2, .int x2), (3, .int x3), (4, .int x4), (5, .int x5_2), (6, .int x6_4), (7, .int x7_6), (8, .int x8_8), (10, .int t_16)] []))
              refine wG_aload_n C dX12_layPart_218 0 rfl ?_
              refine wG_iload_n C dX12_layPart_219 1 rfl ?_
              refine wG_iload_n C dX12_layPart_220 2 rfl ?_
              refine wG_iload_n C dX12_layPart_221 3 rfl ?_
              refine wG_cV_ri [.int x1, .int x2, .int x3] [] C vw_X12_165 (c_X12_offAhead (xl X) (xE X) N q hN h x1 x2 x3) kd_111 (wll hN (by decide)) (by decide) rfl rfl (Nat.le_of_ble_eq_true rfl) dX12_layPart_222 (cl' := 0) (sl' := 0) rfl rfl (fun u_22 => ?_)
              refine wG_nmI (fun x11_23 => ?_)
              refine wG_istore C (L' := [(0, .ref (xB X + 111)), (1, .int x1), (4, .int x4), (5, .int x5_2), (6, .int x6_4), (7, .int x7_6), (8, .int x8_8), (10, .int t_16), (11, .int x11_23)]) dX12_layPart_225 (by decide) [1, 2, 5, 6, 7, 8, 9, 10, 0] rfl ?_
              refine wG_aload_n C dX12_layPart_227 0 rfl ?_
              refine wG_aload_n C dX12_layPart_228 0 rfl ?_
              refine wG_iload C dX12_layPart_229 3 rfl ?_
              refine wG_iload C dX12_layPart_231 4 rfl ?_
              refine wG_iload C dX12_layPart_233 5 rfl ?_
              refine wG_iload C dX12_layPart_235 6 rfl ?_
              refine wG_cV_ri [.int x5_2, .int x6_4, .int x7_6, .int x8_8] [.ref (xB X + 111)] C vw_X12_151 (c_X12_weightOf (xl X) (xE X) N q hN h x5_2 x6_4 x7_6 x8_8) kd_111 (wll hN (by decide)) (by decide) rfl rfl (Nat.le_of_ble_eq_true rfl) dX12_layPart_237 (cl' := 0) (sl' := 0) rfl rfl (fun u_24 => ?_)
              refine wG_iload C dX12_layPart_240 7 rfl ?_
              refine wG_bipush C dX12_layPart_242 (v := 40) (by decide) ?_
              refine wG_idivK C dX12_layPart_244 (by decide) ?_
              refine wG_isub C dX12_layPart_245 ?_
              refine wG_iload C dX12_layPart_246 2 rfl ?_
              refine wG_bind (J := (fun (t_25 : Int32) Q => gQ X 13 Q N h (rq q) 0 0 265 [(0, .ref (xB X + 111)), (5, .int x5_2), (6, .int x6_4), (7, .int x7_6), (8, .int x8_8)] [.int t_25, .int (u_24 - (t_16 / 40)), .ref (xB X + 111)])) ?_ (fun t_25 => (?_ : wG X 13 _ _ N h (rq q) 0 0 265 [(0, .ref (xB X + 111)), (5, .int x5_2), (6, .int x6_4), (7, .int x7_6), (8, .int x8_8)] [.int t_25, .int (u_24 - (t_16 / 40)), .ref (xB X + 111)]))
              · refine wG_if_eq C dX12_layPart_248 ?_ ?_
                · refine wG_iload C dX12_layPart_263 8 rfl ?_
                  exact wG_exit (fun Q e => gQ_lv [0, 3, 4, 5, 6] rfl e)
                · refine wG_aload_n C dX12_layPart_251 0 rfl ?_
                  refine wG_getR C fl_X12_50_8 rfl kd_111 (wll hN (by decide)) (rf_111_16 q) dX12_layPart_252 ?_
                  refine wG_iload_n C dX12_layPart_255 1 rfl ?_
                  refine wG_iald C kd_121 (wll hN (by decide)) ln_121 dX12_layPart_256 ?_
                  refine wG_iload C dX12_layPart_257 8 rfl ?_
                  refine wG_isub C dX12_layPart_259 ?_
                  refine wG_goto C dX12_layPart_260 ?_
                  exact wG_exit (fun Q e => gQ_lv [0, 3, 4, 5, 6] rfl e)
              · refine wG_isub C dX12_layPart_265 ?_
                refine wG_cS_ri [.int ((u_24 - (t_16 / 40)) - t_25)] [.ref (xB X + 111)] C sw_X12_158 (c_X12_more (xl X) (xE X) N q hN h ((u_24 - (t_16 / 40)) - t_25)) (by decide) rfl rfl (Nat.le_of_ble_eq_true rfl) dX12_layPart_266 (cl' := 0) (sl' := 0) rfl rfl (fun u_26 => ?_)
                refine wG_putI C fl_X12_169_8 (fp_8_22 _) (fun e => Bool.noConfusion e) rfl kd_111 (wll hN (by decide)) dX12_layPart_269 (fun h_27 => ?_)
                refine wG_aload_n C dX12_layPart_272 0 rfl ?_
                refine wG_aload_n C dX12_layPart_273 0 rfl ?_
                refine wG_iload C dX12_layPart_274 1 rfl ?_
                refine wG_iload C dX12_layPart_276 2 rfl ?_
                refine wG_iload C dX12_layPart_278 3 rfl ?_
                refine wG_iload C dX12_layPart_280 4 rfl ?_
                refine wG_iconst C dX12_layPart_282 (v := 1) (by decide) ?_
                refine wG_cV_ri [.int x5_2, .int x6_4, .int x7_6, .int x8_8, .int 1] [.ref (xB X + 111)] C vw_X12_172 (c_X12_countOf (xl X) (xE X) N q hN h_27 x5_2 x6_4 x7_6 x8_8 1) kd_111 (wll hN (by decide)) (by decide) rfl rfl (Nat.le_of_ble_eq_true rfl) dX12_layPart_283 (cl' := 0) (sl' := 0) rfl rfl (fun u_28 => ?_)
                refine wG_putI C fl_X12_176_8 (fp_8_23 _) (fun e => Bool.noConfusion e) rfl kd_111 (wll hN (by decide)) dX12_layPart_286 (fun h_29 => ?_)
                exact wG_vret C dX12_layPart_289 ⟨by decide, by decide⟩ (fun _ e => e)
theorem c_X12_layPart (l : Launch) (E : wE) (N : Nat) (q : Qp) (hN : 137 ≤ N) (h : Hp) (x1 : Int32) (x2 : Int32) (x3 : Int32) (x4 : Int32) : ∀ z, f_X12_layPart h x1 x2 x3 x4 = some z → CT l E yX12_layPart cX12_layPart 13 none rm_X12_layPart [.ref (eB E + 111), .int x1, .int x2, .int x3, .int x4] N h (rq q) ((fun u => (none, N, u, (rq q))) z) := CT.of (by decide +kernel) (Nat.le_of_ble_eq_true rfl) (fun X _ e C => by subst e; exact w_X12_layPart C hN h x1 x2 x3 x4)
def rm_X12_isPart : Room := { frames := 3, cells := 0, slots := 0, locals := 85 }
def f_X12_isPart (h : Hp) (x1 : Int32) (x2 : Int32) (x3 : Int32) (x4 : Int32) (x5 : Int32) (x6 : Int32) (x7 : Int32) : Option (Int32 × Hp) :=
  (f_X12_layPart h x1 x2 x3 x4).bind fun u_1 =>
  (f_X12_in ((u_1 111 22).toInt64) x5.toInt64 ((x5 + x6).toInt64)).bind fun u_2 =>
  (if u_2 = 0 then
  some (0, u_1)
  else
  (if x7 < (u_1 111 23) then
  some (0, u_1)
  else
  some (1, u_1)))
set_option maxRecDepth 4000 in
theorem w_X12_isPart {X : wX} (C : Cx X yX12_isPart cX12_isPart 8 (some .boolean) rm_X12_isPart) {N : Nat} {q : Qp} (hN : 137 ≤ N) (h : Hp) (x1 : Int32) (x2 : Int32) (x3 : Int32) (x4 : Int32) (x5 : Int32) (x6 : Int32) (x7 : Int32) : wG X 8 (eM X (fun u => (some (.int u.1), N, u.2, (rq q)))) (f_X12_isPart h x1 x2 x3 x4 x5 x6 x7) N h (rq q) 0 0 0 [(0, .ref (xB X + 111)), (1, .int x1), (2, .int x2), (3, .int x3), (4, .int x4), (5, .int x5), (6, .int x6), (7, .int x7)] [] := by
  refine wG_of (f_X12_isPart.eq_1 ..) ?_
  refine wG_aload_n C dX12_isPart_0 0 rfl ?_
  refine wG_iload_n C dX12_isPart_1 1 rfl ?_
  refine wG_iload_n C dX12_isPart_2 2 rfl ?_
  refine wG_iload_n C dX12_isPart_3 3 rfl ?_
  refine wG_iload C dX12_isPart_4 4 rfl ?_
  refine wG_cV_wv [.int x1, .int x2, .int x3, .int x4] [] C vw_X12_216 (c_X12_layPart (xl X) (xE X) N q hN h x1 x2 x3 x4) kd_111 (wll hN (by decide)) (by decide) rfl rfl (Nat.le_of_ble_eq_true rfl) dX12_isPart_6 (cl' := 0) (sl' := 0) rfl rfl (fun u_1 => ?_)
  refine wG_aload_n C dX12_isPart_9 0 rfl ?_
  refine wG_getI C fl_X12_169_8 rfl kd_111 (wll hN (by decide)) dX12_isPart_10 ?_
  refine wG_i2l C dX12_isPart_13 ?_
  refine wG_iload C dX12_isPart_14 5 rfl ?_
  refine wG_i2l C dX12_isPart_16 ?_
  refine wG_iload C dX12_isPart_17 5 rfl ?_
  refine wG_iload C dX12_isPart_19 6 rfl ?_
  refine wG_iadd C dX12_isPart_21 ?_
  refine wG_i2l C dX12_isPart_22 ?_
  refine wG_cS_ri [.long ((u_1 111 22).toInt64), .long x5.toInt64, .long ((x5 + x6).toInt64)] [] C sw_X12_113 (c_X12_in (xl X) (xE X) N q hN u_1 ((u_1 111 22).toInt64) x5.toInt64 ((x5 + x6).toInt64)) (by decide) rfl rfl (Nat.le_of_ble_eq_true rfl) dX12_isPart_23 (cl' := 0) (sl' := 0) rfl rfl (fun u_2 => ?_)
  refine wG_if_eq C dX12_isPart_26 ?_ ?_
  · refine wG_iconst C dX12_isPart_42 (v := 0) (by decide) ?_
    exact wG_zret C dX12_isPart_43 rfl ⟨by decide, by decide⟩ (fun _ e => e)
  · refine wG_aload_n C dX12_isPart_29 0 rfl ?_
    refine wG_getI C fl_X12_176_8 rfl kd_111 (wll hN (by decide)) dX12_isPart_30 ?_
    refine wG_iload C dX12_isPart_33 7 rfl ?_
    refine wG_icmp_gt C dX12_isPart_35 ?_ ?_
    · refine wG_iconst C dX12_isPart_42 (v := 0) (by decide) ?_
      exact wG_zret C dX12_isPart_43 rfl ⟨by decide, by decide⟩ (fun _ e => e)
    · refine wG_iconst C dX12_isPart_38 (v := 1) (by decide) ?_
      refine wG_goto C dX12_isPart_39 ?_
      exact wG_zret C dX12_isPart_43 rfl ⟨by decide, by decide⟩ (fun _ e => e)
theorem c_X12_isPart (l : Launch) (E : wE) (N : Nat) (q : Qp) (hN : 137 ≤ N) (h : Hp) (x1 : Int32) (x2 : Int32) (x3 : Int32) (x4 : Int32) (x5 : Int32) (x6 : Int32) (x7 : Int32) : ∀ z, f_X12_isPart h x1 x2 x3 x4 x5 x6 x7 = some z → CT l E yX12_isPart cX12_isPart 8 (some .boolean) rm_X12_isPart [.ref (eB E + 111), .int x1, .int x2, .int x3, .int x4, .int x5, .int x6, .int x7] N h (rq q) ((fun u => (some (.int u.1), N, u.2, (rq q))) z) := CT.of (by decide +kernel) (Nat.le_of_ble_eq_true rfl) (fun X _ e C => by subst e; exact w_X12_isPart C hN h x1 x2 x3 x4 x5 x6 x7)
def rm_X12_findCut : Room := { frames := 4, cells := 0, slots := 0, locals := 112 }
def L_X12_findCut_81 (x1 : Int32) (x2 : Int32) (x3 : Int32) (x4_4 : Int32) (x5_8 : Int32) (x6_12 : Int32) (x7_14 : Int32) : Nat → Int32 → Hp → Option Hp
  | 0, _, _ => none
  | n + 1, x8_16, h_17 =>
    if inB x4_4 24 then
    (if (h_17 119 (ix x4_4)) = 0 then
    ((if x6_12 = 0 then
    if inB x4_4 24 then
    some (h_17 118 (ix x4_4)) else none
    else
    if inB x4_4 24 then
    some (h_17 117 (ix x4_4)) else none)).bind fun t_19 =>
    (if t_19 ≤ x8_16 then
    some h_17
    else
    (f_X12_isPart h_17 x4_4 x6_12 x8_16 0 x1 x2 x3).bind fun u_20 =>
    vB u_20.1 fun (x9_21 : Int32) =>
    ((if (u_20.2 111 25) ≤ x7_14 then
    some u_20.2
    else
    vK (fun (t_23 : Hp) =>
    vB (u2 t_23 111 25 x7_14) fun h_25 =>
    ((if x9_21 = 0 then
    some 1
    else
    some 0)).bind fun t_26 =>
    vB (u2 h_25 111 24 ((((1000 * x4_4) + (100 * x5_8)) + (10 * x8_16)) + t_26)) fun h_27 =>
    some h_27) fun K_24 =>
    (if x9_21 = 0 then
    (f_X12_isPart u_20.2 x4_4 x6_12 x8_16 1 x1 x2 x3).bind fun u_28 =>
    (if u_28.1 = 0 then
    some u_28.2
    else
    K_24 u_28.2)
    else
    K_24 u_20.2))).bind fun t_22 =>
    vB (x8_16 + 1) fun (x8_29 : Int32) =>
    L_X12_findCut_81 x1 x2 x3 x4_4 x5_8 x6_12 x7_14 n x8_29 t_22)
    else
    some h_17) else none
def L_X12_findCut_36 (x1 : Int32) (x2 : Int32) (x3 : Int32) (x4_4 : Int32) : Nat → Int32 → Hp → Option Hp
  | 0, _, _ => none
  | n + 1, x5_8, h_9 =>
    (if (2 : Int32) ≤ x5_8 then
    some h_9
    else
    ((if x5_8 = 0 then
    some 1
    else
    some 0)).bind fun t_11 =>
    vB t_11 fun (x6_12 : Int32) =>
    ((if x6_12 = 0 then
    if inB x4_4 24 then
    some (h_9 117 (ix x4_4)) else none
    else
    if inB x4_4 24 then
    some (h_9 118 (ix x4_4)) else none)).bind fun t_13 =>
    vB t_13 fun (x7_14 : Int32) =>
    vB 1 fun (x8_15 : Int32) =>
    (L_X12_findCut_81 x1 x2 x3 x4_4 x5_8 x6_12 x7_14 FU x8_15 h_9).bind fun t_18 =>
    vB (x5_8 + 1) fun (x5_30 : Int32) =>
    L_X12_findCut_36 x1 x2 x3 x4_4 n x5_30 t_18)
def L_X12_findCut_15 (x1 : Int32) (x2 : Int32) (x3 : Int32) : Nat → Int32 → Hp → Option Hp
  | 0, _, _ => none
  | n + 1, x4_4, h_5 =>
    (if (h_5 111 9) ≤ x4_4 then
    some h_5
    else
    (if (24 : Int32) ≤ (h_5 111 9) then
    some h_5
    else
    vB 0 fun (x5_7 : Int32) =>
    (L_X12_findCut_36 x1 x2 x3 x4_4 FU x5_7 h_5).bind fun t_10 =>
    vB (x4_4 + 1) fun (x4_31 : Int32) =>
    L_X12_findCut_15 x1 x2 x3 n x4_31 t_10))
def f_X12_findCut (h : Hp) (x1 : Int32) (x2 : Int32) (x3 : Int32) : Option Hp :=
  vB (u2 h 111 24 (-9)) fun h_1 =>
  vB (u2 h_1 111 25 1000000) fun h_2 =>
  vB 0 fun (x4_3 : Int32) =>
  (L_X12_findCut_15 x1 x2 x3 FU x4_3 h_2).bind fun t_6 =>
  some t_6
set_option maxRecDepth 4000 in
theorem wL_X12_findCut_81 {X : wX} (C : Cx X yX12_findCut cX12_findCut 10 none rm_X12_findCut) {N : Nat} {q : Qp} (hN : 137 ≤ N) (h : Hp) (x1 : Int32) (x2 : Int32) (x3 : Int32) (h_1 : Hp) (h_2 : Hp) (x4_3 : Int32) (x4_4 : Int32) (h_5 : Hp) (x5_7 : Int32) (x5_8 : Int32) (h_9 : Hp) (t_11 : Int32) (x6_12 : Int32) (t_13 : Int32) (x7_14 : Int32) (x8_15 : Int32) : ∀ n x8_16 h_17, wG X 10 (fun (t_18 : Hp) Q => gQ X 10 Q N t_18 (rq q) 0 0 210 [(0, .ref (xB X + 111)), (1, .int x1), (2, .int x2), (3, .int x3), (4, .int x4_4), (5, .int x5_8)] []) (L_X12_findCut_81 x1 x2 x3 x4_4 x5_8 x6_12 x7_14 n x8_16 h_17) N h_17 (rq q) 0 0 81 [(0, .ref (xB X + 111)), (1, .int x1), (2, .int x2), (3, .int x3), (4, .int x4_4), (5, .int x5_8), (6, .int x6_12), (7, .int x7_14), (8, .int x8_16)] [] := by
  intro n
  induction n with
  | zero => intro _ _; exact wG_none
  | succ n ih =>
    intro x8_16 h_17
    refine wG_of (L_X12_findCut_81.eq_2 ..) ?_
    refine wG_aload_n C dX12_findCut_81 0 rfl ?_
    refine wG_getR C fl_X12_44_8 rfl kd_111 (wll hN (by decide)) (rf_111_14 q) dX12_findCut_82 ?_
    refine wG_iload C dX12_findCut_85 4 rfl ?_
    refine wG_iald C kd_119 (wll hN (by decide)) ln_119 dX12_findCut_87 ?_
    refine wG_if_ne C dX12_findCut_88 ?_ ?_
    · refine wG_iload C dX12_findCut_91 8 rfl ?_
      refine wG_iload C dX12_findCut_93 6 rfl ?_
      refine wG_bind (J := (fun (t_19 : Int32) Q => gQ X 10 Q N h_17 (rq q) 0 0 115 [(0, .ref (xB X + 111)), (1, .int x1), (2, .int x2), (3, .int x3), (4, .int x4_4), (5, .int x5_8), (6, .int x6_12), (7, .int x7_14), (8, .int x8_16)] [.int t_19, .int x8_16])) ?_ (fun t_19 => (?_ : wG X 10 _ _ N h_17 (rq q) 0 0 115 [(0, .ref (xB X + 111)), (1, .int x1), (2, .int x2), (3, .int x3), (4, .int x4_4), (5, .int x5_8), (6, .int x6_12), (7, .int x7_14), (8, .int x8_16)] [.int t_19, .int x8_16]))
      · refine wG_if_eq C dX12_findCut_95 ?_ ?_
        · refine wG_aload_n C dX12_findCut_108 0 rfl ?_
          refine wG_getR C fl_X12_41_8 rfl kd_111 (wll hN (by decide)) (rf_111_13 q) dX12_findCut_109 ?_
          refine wG_iload C dX12_findCut_112 4 rfl ?_
          refine wG_iald C kd_118 (wll hN (by decide)) ln_118 dX12_findCut_114 ?_
          exact wG_exit (fun Q e => gQ_lv [0, 1, 2, 3, 4, 5, 6, 7, 8] rfl e)
        · refine wG_aload_n C dX12_findCut_98 0 rfl ?_
          refine wG_getR C fl_X12_38_8 rfl kd_111 (wll hN (by decide)) (rf_111_12 q) dX12_findCut_99 ?_
          refine wG_iload C dX12_findCut_102 4 rfl ?_
          refine wG_iald C kd_117 (wll hN (by decide)) ln_117 dX12_findCut_104 ?_
          refine wG_goto C dX12_findCut_105 ?_
          exact wG_exit (fun Q e => gQ_lv [0, 1, 2, 3, 4, 5, 6, 7, 8] rfl e)
      · refine wG_icmp_ge C dX12_findCut_115 ?_ ?_
        · exact wG_exit (fun Q e => gQ_lv [0, 1, 2, 3, 4, 5] rfl e)
        · refine wG_aload_n C dX12_findCut_118 0 rfl ?_
          refine wG_iload C dX12_findCut_119 4 rfl ?_
          refine wG_iload C dX12_findCut_121 6 rfl ?_
          refine wG_iload C dX12_findCut_123 8 rfl ?_
          refine wG_iconst C dX12_findCut_125 (v := 0) (by decide) ?_
          refine wG_iload_n C dX12_findCut_126 1 rfl ?_
          refine wG_iload_n C dX12_findCut_127 2 rfl ?_
          refine wG_iload_n C dX12_findCut_128 3 rfl ?_
          refine wG_cV_wi [.int x4_4, .int x6_12, .int x8_16, .int 0, .int x1, .int x2, .int x3] [] C vw_X12_227 (c_X12_isPart (xl X) (xE X) N q hN h_17 x4_4 x6_12 x8_16 0 x1 x2 x3) kd_111 (wll hN (by decide)) (by decide) rfl rfl (Nat.le_of_ble_eq_true rfl) dX12_findCut_129 (cl' := 0) (sl' := 0) rfl rfl (fun u_20 => ?_)
          refine wG_nmI (fun x9_21 => ?_)
          refine wG_istore C (L' := [(0, .ref (xB X + 111)), (1, .int x1), (2, .int x2), (3, .int x3), (4, .int x4_4), (5, .int x5_8), (6, .int x6_12), (7, .int x7_14), (8, .int x8_16), (9, .int x9_21)]) dX12_findCut_132 (by decide) [1, 2, 3, 4, 5, 6, 7, 8, 9, 0] rfl ?_
          refine wG_iload C dX12_findCut_134 7 rfl ?_
          refine wG_aload_n C dX12_findCut_136 0 rfl ?_
          refine wG_getI C fl_X12_224_8 rfl kd_111 (wll hN (by decide)) dX12_findCut_137 ?_
          refine wG_bind (J := (fun (t_22 : Hp) Q => gQ X 10 Q N t_22 (rq q) 0 0 204 [(0, .ref (xB X + 111)), (1, .int x1), (2, .int x2), (3, .int x3), (4, .int x4_4), (5, .int x5_8), (6, .int x6_12), (7, .int x7_14), (8, .int x8_16)] [])) ?_ (fun t_22 => (?_ : wG X 10 _ _ N t_22 (rq q) 0 0 204 [(0, .ref (xB X + 111)), (1, .int x1), (2, .int x2), (3, .int x3), (4, .int x4_4), (5, .int x5_8), (6, .int x6_12), (7, .int x7_14), (8, .int x8_16)] []))
          · refine wG_icmp_ge C dX12_findCut_140 ?_ ?_
            · exact wG_exit (fun Q e => gQ_lv [0, 1, 2, 3, 4, 5, 6, 7, 8] rfl e)
            · refine wG_iload C dX12_findCut_143 9 rfl ?_
              refine wG_vK (fun t_23 => (?_ : wG X 10 _ _ N t_23 (rq q) 0 0 165 [(0, .ref (xB X + 111)), (1, .int x1), (2, .int x2), (3, .int x3), (4, .int x4_4), (5, .int x5_8), (6, .int x6_12), (7, .int x7_14), (8, .int x8_16), (9, .int x9_21)] [])) (fun K_24 hK_K_24 => ?_)
              · refine wG_aload_n C dX12_findCut_165 0 rfl ?_
                refine wG_iload C dX12_findCut_166 7 rfl ?_
                refine wG_putI C fl_X12_224_8 (fp_8_25 _) (fun e => Bool.noConfusion e) rfl kd_111 (wll hN (by decide)) dX12_findCut_168 (fun h_25 => ?_)
                refine wG_aload_n C dX12_findCut_171 0 rfl ?_
                refine wG_sipush C dX12_findCut_172 (v := 1000) (by decide) ?_
                refine wG_iload C dX12_findCut_175 4 rfl ?_
                refine wG_imul C dX12_findCut_177 ?_
                refine wG_bipush C dX12_findCut_178 (v := 100) (by decide) ?_
                refine wG_iload C dX12_findCut_180 5 rfl ?_
                refine wG_imul C dX12_findCut_182 ?_
                refine wG_iadd C dX12_findCut_183 ?_
                refine wG_bipush C dX12_findCut_184 (v := 10) (by decide) ?_
                refine wG_iload C dX12_findCut_186 8 rfl ?_
                refine wG_imul C dX12_findCut_188 ?_
                refine wG_iadd C dX12_findCut_189 ?_
                refine wG_iload C dX12_findCut_190 9 rfl ?_
                refine wG_bind (J := (fun (t_26 : Int32) Q => gQ X 10 Q N h_25 (rq q) 0 0 200 [(0, .ref (xB X + 111)), (1, .int x1), (2, .int x2), (3, .int x3), (4, .int x4_4), (5, .int x5_8), (6, .int x6_12), (7, .int x7_14), (8, .int x8_16)] [.int t_26, .int (((1000 * x4_4) + (100 * x5_8)) + (10 * x8_16)), .ref (xB X + 111)])) ?_ (fun t_26 => (?_ : wG X 10 _ _ N h_25 (rq q) 0 0 200 [(0, .ref (xB X + 111)), (1, .int x1), (2, .int x2), (3, .int x3), (4, .int x4_4), (5, .int x5_8), (6, .int x6_12), (7, .int x7_14), (8, .int x8_16)] [.int t_26, .int (((1000 * x4_4) + (100 * x5_8)) + (10 * x8_16)), .ref (xB X + 111)]))
                · refine wG_if_eq C dX12_findCut_192 ?_ ?_
                  · refine wG_iconst C dX12_findCut_199 (v := 1) (by decide) ?_
                    exact wG_exit (fun Q e => gQ_lv [0, 1, 2, 3, 4, 5, 6, 7, 8] rfl e)
                  · refine wG_iconst C dX12_findCut_195 (v := 0) (by decide) ?_
                    refine wG_goto C dX12_findCut_196 ?_
                    exact wG_exit (fun Q e => gQ_lv [0, 1, 2, 3, 4, 5, 6, 7, 8] rfl e)
                · refine wG_iadd C dX12_findCut_200 ?_
                  refine wG_putI C fl_X12_220_8 (fp_8_24 _) (fun e => Bool.noConfusion e) rfl kd_111 (wll hN (by decide)) dX12_findCut_201 (fun h_27 => ?_)
                  exact wG_exit (fun Q e => gQ_lv [0, 1, 2, 3, 4, 5, 6, 7, 8] rfl e)
              · refine wG_if_ne C dX12_findCut_145 ?_ ?_
                · refine wG_aload_n C dX12_findCut_148 0 rfl ?_
                  refine wG_iload C dX12_findCut_149 4 rfl ?_
                  refine wG_iload C dX12_findCut_151 6 rfl ?_
                  refine wG_iload C dX12_findCut_153 8 rfl ?_
                  refine wG_iconst C dX12_findCut_155 (v := 1) (by decide) ?_
                  refine wG_iload_n C dX12_findCut_156 1 rfl ?_
                  refine wG_iload_n C dX12_findCut_157 2 rfl ?_
                  refine wG_iload_n C dX12_findCut_158 3 rfl ?_
                  refine wG_cV_wi [.int x4_4, .int x6_12, .int x8_16, .int 1, .int x1, .int x2, .int x3] [] C vw_X12_227 (c_X12_isPart (xl X) (xE X) N q hN u_20.2 x4_4 x6_12 x8_16 1 x1 x2 x3) kd_111 (wll hN (by decide)) (by decide) rfl rfl (Nat.le_of_ble_eq_true rfl) dX12_findCut_159 (cl' := 0) (sl' := 0) rfl rfl (fun u_28 => ?_)
                  refine wG_if_eq C dX12_findCut_162 ?_ ?_
                  · exact wG_exit (fun Q e => gQ_lv [0, 1, 2, 3, 4, 5, 6, 7, 8] rfl e)
                  · exact wG_lv [0, 1, 2, 3, 4, 5, 6, 7, 8, 9] rfl (hK_K_24 u_28.2)
                · exact wG_lv [0, 1, 2, 3, 4, 5, 6, 7, 8, 9] rfl (hK_K_24 u_20.2)
          · refine wG_iinc C (v := 1) (LL := fun x8_29 => [(0, .ref (xB X + 111)), (1, .int x1), (2, .int x2), (3, .int x3), (4, .int x4_4), (5, .int x5_8), (6, .int x6_12), (7, .int x7_14), (8, .int x8_29)]) dX12_findCut_204 8 rfl (by decide) (by decide) [1, 2, 3, 4, 5, 6, 7, 8, 0] (fun _ => rfl) (fun x8_29 => ?_)
            refine wG_goto C dX12_findCut_207 ?_
            exact wG_lv [0, 1, 2, 3, 4, 5, 6, 7, 8] rfl (ih x8_29 t_22)
    · exact wG_exit (fun Q e => gQ_lv [0, 1, 2, 3, 4, 5] rfl e)
set_option maxRecDepth 4000 in
theorem wL_X12_findCut_36 {X : wX} (C : Cx X yX12_findCut cX12_findCut 10 none rm_X12_findCut) {N : Nat} {q : Qp} (hN : 137 ≤ N) (h : Hp) (x1 : Int32) (x2 : Int32) (x3 : Int32) (h_1 : Hp) (h_2 : Hp) (x4_3 : Int32) (x4_4 : Int32) (h_5 : Hp) (x5_7 : Int32) : ∀ n x5_8 h_9, wG X 10 (fun (t_10 : Hp) Q => gQ X 10 Q N t_10 (rq q) 0 0 216 [(0, .ref (xB X + 111)), (1, .int x1), (2, .int x2), (3, .int x3), (4, .int x4_4)] []) (L_X12_findCut_36 x1 x2 x3 x4_4 n x5_8 h_9) N h_9 (rq q) 0 0 36 [(0, .ref (xB X + 111)), (1, .int x1), (2, .int x2), (3, .int x3), (4, .int x4_4), (5, .int x5_8)] [] := by
  intro n
  induction n with
  | zero => intro _ _; exact wG_none
  | succ n ih =>
    intro x5_8 h_9
    refine wG_of (L_X12_findCut_36.eq_2 ..) ?_
    refine wG_iload C dX12_findCut_36 5 rfl ?_
    refine wG_iconst C dX12_findCut_38 (v := 2) (by decide) ?_
    refine wG_icmp_ge C dX12_findCut_39 ?_ ?_
    · exact wG_exit (fun Q e => gQ_lv [0, 1, 2, 3, 4] rfl e)
    · refine wG_iload C dX12_findCut_42 5 rfl ?_
      refine wG_bind (J := (fun (t_11 : Int32) Q => gQ X 10 Q N h_9 (rq q) 0 0 52 [(0, .ref (xB X + 111)), (1, .int x1), (2, .int x2), (3, .int x3), (4, .int x4_4), (5, .int x5_8)] [.int t_11])) ?_ (fun t_11 => (?_ : wG X 10 _ _ N h_9 (rq q) 0 0 52 [(0, .ref (xB X + 111)), (1, .int x1), (2, .int x2), (3, .int x3), (4, .int x4_4), (5, .int x5_8)] [.int t_11]))
      · refine wG_if_ne C dX12_findCut_44 ?_ ?_
        · refine wG_iconst C dX12_findCut_47 (v := 1) (by decide) ?_
          refine wG_goto C dX12_findCut_48 ?_
          exact wG_exit (fun Q e => gQ_lv [0, 1, 2, 3, 4, 5] rfl e)
        · refine wG_iconst C dX12_findCut_51 (v := 0) (by decide) ?_
          exact wG_exit (fun Q e => gQ_lv [0, 1, 2, 3, 4, 5] rfl e)
      · refine wG_nmI (fun x6_12 => ?_)
        refine wG_istore C (L' := [(0, .ref (xB X + 111)), (1, .int x1), (2, .int x2), (3, .int x3), (4, .int x4_4), (5, .int x5_8), (6, .int x6_12)]) dX12_findCut_52 (by decide) [1, 2, 3, 4, 5, 6, 0] rfl ?_
        refine wG_iload C dX12_findCut_54 6 rfl ?_
        refine wG_bind (J := (fun (t_13 : Int32) Q => gQ X 10 Q N h_9 (rq q) 0 0 76 [(0, .ref (xB X + 111)), (1, .int x1), (2, .int x2), (3, .int x3), (4, .int x4_4), (5, .int x5_8), (6, .int x6_12)] [.int t_13])) ?_ (fun t_13 => (?_ : wG X 10 _ _ N h_9 (rq q) 0 0 76 [(0, .ref (xB X + 111)), (1, .int x1), (2, .int x2), (3, .int x3), (4, .int x4_4), (5, .int x5_8), (6, .int x6_12)] [.int t_13]))
        · refine wG_if_eq C dX12_findCut_56 ?_ ?_
          · refine wG_aload_n C dX12_findCut_69 0 rfl ?_
            refine wG_getR C fl_X12_38_8 rfl kd_111 (wll hN (by decide)) (rf_111_12 q) dX12_findCut_70 ?_
            refine wG_iload C dX12_findCut_73 4 rfl ?_
            refine wG_iald C kd_117 (wll hN (by decide)) ln_117 dX12_findCut_75 ?_
            exact wG_exit (fun Q e => gQ_lv [0, 1, 2, 3, 4, 5, 6] rfl e)
          · refine wG_aload_n C dX12_findCut_59 0 rfl ?_
            refine wG_getR C fl_X12_41_8 rfl kd_111 (wll hN (by decide)) (rf_111_13 q) dX12_findCut_60 ?_
            refine wG_iload C dX12_findCut_63 4 rfl ?_
            refine wG_iald C kd_118 (wll hN (by decide)) ln_118 dX12_findCut_65 ?_
            refine wG_goto C dX12_findCut_66 ?_
            exact wG_exit (fun Q e => gQ_lv [0, 1, 2, 3, 4, 5, 6] rfl e)
        · refine wG_nmI (fun x7_14 => ?_)
          refine wG_istore C (L' := [(0, .ref (xB X + 111)), (1, .int x1), (2, .int x2), (3, .int x3), (4, .int x4_4), (5, .int x5_8), (6, .int x6_12), (7, .int x7_14)]) dX12_findCut_76 (by decide) [1, 2, 3, 4, 5, 6, 7, 0] rfl ?_
          refine wG_iconst C dX12_findCut_78 (v := 1) (by decide) ?_
          refine wG_nmI (fun x8_15 => ?_)
          refine wG_istore C (L' := [(0, .ref (xB X + 111)), (1, .int x1), (2, .int x2), (3, .int x3), (4, .int x4_4), (5, .int x5_8), (6, .int x6_12), (7, .int x7_14), (8, .int x8_15)]) dX12_findCut_79 (by decide) [1, 2, 3, 4, 5, 6, 7, 8, 0] rfl ?_
          refine wG_lv (L' := [(0, .ref (xB X + 111)), (1, .int x1), (2, .int x2), (3, .int x3), (4, .int x4_4), (5, .int x5_8), (6, .int x6_12), (7, .int x7_14), (8, .int x8_15)]) [0, 1, 2, 3, 4, 5, 6, 7, 8] rfl ?_
          refine wG_bind (wL_X12_findCut_81 C hN h x1 x2 x3 h_1 h_2 x4_3 x4_4 h_5 x5_7 x5_8 h_9 t_11 x6_12 t_13 x7_14 x8_15 FU x8_15 h_9) (fun t_18 => (?_ : wG X 10 _ _ N t_18 (rq q) 0 0 210 [(0, .ref (xB X + 111)), (1, .int x1), (2, .int x2), (3, .int x3), (4, .int x4_4), (5, .int x5_8)] []))
          refine wG_iinc C (v := 1) (LL := fun x5_30 => [(0, .ref (xB X + 111)), (1, .int x1), (2, .int x2), (3, .int x3), (4, .int x4_4), (5, .int x5_30)]) dX12_findCut_210 5 rfl (by decide) (by decide) [1, 2, 3, 4, 5, 0] (fun _ => rfl) (fun x5_30 => ?_)
          refine wG_goto C dX12_findCut_213 ?_
          exact wG_lv [0, 1, 2, 3, 4, 5] rfl (ih x5_30 t_18)
set_option maxRecDepth 4000 in
theorem wL_X12_findCut_15 {X : wX} (C : Cx X yX12_findCut cX12_findCut 10 none rm_X12_findCut) {N : Nat} {q : Qp} (hN : 137 ≤ N) (h : Hp) (x1 : Int32) (x2 : Int32) (x3 : Int32) (h_1 : Hp) (h_2 : Hp) (x4_3 : Int32) : ∀ n x4_4 h_5, wG X 10 (fun (t_6 : Hp) Q => gQ X 10 Q N t_6 (rq q) 0 0 222 [] []) (L_X12_findCut_15 x1 x2 x3 n x4_4 h_5) N h_5 (rq q) 0 0 15 [(0, .ref (xB X + 111)), (1, .int x1), (2, .int x2), (3, .int x3), (4, .int x4_4)] [] := by
  intro n
  induction n with
  | zero => intro _ _; exact wG_none
  | succ n ih =>
    intro x4_4 h_5
    refine wG_of (L_X12_findCut_15.eq_2 ..) ?_
    refine wG_iload C dX12_findCut_15 4 rfl ?_
    refine wG_aload_n C dX12_findCut_17 0 rfl ?_
    refine wG_getI C fl_X12_29_8 rfl kd_111 (wll hN (by decide)) dX12_findCut_18 ?_
    refine wG_icmp_ge C dX12_findCut_21 ?_ ?_
    · exact wG_exit (fun Q e => gQ_lv [] rfl e)
    · refine wG_aload_n C dX12_findCut_24 0 rfl ?_
      refine wG_getI C fl_X12_29_8 rfl kd_111 (wll hN (by decide)) dX12_findCut_25 ?_
      refine wG_bipush C dX12_findCut_28 (v := 24) (by decide) ?_
      refine wG_icmp_ge C dX12_findCut_30 ?_ ?_
      · exact wG_exit (fun Q e => gQ_lv [] rfl e)
      · refine wG_iconst C dX12_findCut_33 (v := 0) (by decide) ?_
        refine wG_nmI (fun x5_7 => ?_)
        refine wG_istore C (L' := [(0, .ref (xB X + 111)), (1, .int x1), (2, .int x2), (3, .int x3), (4, .int x4_4), (5, .int x5_7)]) dX12_findCut_34 (by decide) [1, 2, 3, 4, 5, 0] rfl ?_
        refine wG_lv (L' := [(0, .ref (xB X + 111)), (1, .int x1), (2, .int x2), (3, .int x3), (4, .int x4_4), (5, .int x5_7)]) [0, 1, 2, 3, 4, 5] rfl ?_
        refine wG_bind (wL_X12_findCut_36 C hN h x1 x2 x3 h_1 h_2 x4_3 x4_4 h_5 x5_7 FU x5_7 h_5) (fun t_10 => (?_ : wG X 10 _ _ N t_10 (rq q) 0 0 216 [(0, .ref (xB X + 111)), (1, .int x1), (2, .int x2), (3, .int x3), (4, .int x4_4)] []))
        refine wG_iinc C (v := 1) (LL := fun x4_31 => [(0, .ref (xB X + 111)), (1, .int x1), (2, .int x2), (3, .int x3), (4, .int x4_31)]) dX12_findCut_216 4 rfl (by decide) (by decide) [1, 2, 3, 4, 0] (fun _ => rfl) (fun x4_31 => ?_)
        refine wG_goto C dX12_findCut_219 ?_
        exact wG_lv [0, 1, 2, 3, 4] rfl (ih x4_31 t_10)
set_option maxRecDepth 4000 in
theorem w_X12_findCut {X : wX} (C : Cx X yX12_findCut cX12_findCut 10 none rm_X12_findCut) {N : Nat} {q : Qp} (hN : 137 ≤ N) (h : Hp) (x1 : Int32) (x2 : Int32) (x3 : Int32) : wG X 10 (eM X (fun u => (none, N, u, (rq q)))) (f_X12_findCut h x1 x2 x3) N h (rq q) 0 0 0 [(0, .ref (xB X + 111)), (1, .int x1), (2, .int x2), (3, .int x3)] [] := by
  refine wG_of (f_X12_findCut.eq_1 ..) ?_
  refine wG_aload_n C dX12_findCut_0 0 rfl ?_
  refine wG_bipush C dX12_findCut_1 (v := (-9)) (by decide) ?_
  refine wG_putI C fl_X12_220_8 (fp_8_24 _) (fun e => Bool.noConfusion e) rfl kd_111 (wll hN (by decide)) dX12_findCut_3 (fun h_1 => ?_)
  refine wG_aload_n C dX12_findCut_6 0 rfl ?_
  refine wG_ldc C dX12_findCut_7 m_1292 ?_
  refine wG_putI C fl_X12_224_8 (fp_8_25 _) (fun e => Bool.noConfusion e) rfl kd_111 (wll hN (by decide)) dX12_findCut_9 (fun h_2 => ?_)
  refine wG_iconst C dX12_findCut_12 (v := 0) (by decide) ?_
  refine wG_nmI (fun x4_3 => ?_)
  refine wG_istore C (L' := [(0, .ref (xB X + 111)), (1, .int x1), (2, .int x2), (3, .int x3), (4, .int x4_3)]) dX12_findCut_13 (by decide) [1, 2, 3, 4, 0] rfl ?_
  refine wG_lv (L' := [(0, .ref (xB X + 111)), (1, .int x1), (2, .int x2), (3, .int x3), (4, .int x4_3)]) [0, 1, 2, 3, 4] rfl ?_
  refine wG_bind (wL_X12_findCut_15 C hN h x1 x2 x3 h_1 h_2 x4_3 FU x4_3 h_2) (fun t_6 => (?_ : wG X 10 _ _ N t_6 (rq q) 0 0 222 [] []))
  exact wG_vret C dX12_findCut_222 ⟨by decide, by decide⟩ (fun _ e => e)
theorem c_X12_findCut (l : Launch) (E : wE) (N : Nat) (q : Qp) (hN : 137 ≤ N) (h : Hp) (x1 : Int32) (x2 : Int32) (x3 : Int32) : ∀ z, f_X12_findCut h x1 x2 x3 = some z → CT l E yX12_findCut cX12_findCut 10 none rm_X12_findCut [.ref (eB E + 111), .int x1, .int x2, .int x3] N h (rq q) ((fun u => (none, N, u, (rq q))) z) := CT.of (by decide +kernel) (Nat.le_of_ble_eq_true rfl) (fun X _ e C => by subst e; exact w_X12_findCut C hN h x1 x2 x3)
def rm_X12_next : Room := { frames := 5, cells := 0, slots := 0, locals := 141 }
def f_X12_next (h : Hp) (x1 : Int32) (x2 : Int32) (x3 : Int32) : Option (Int32 × Hp) :=
  vB (u2 h 111 0 0) fun h_1 =>
  (f_X12_noAsk x1 x2 x3).bind fun u_2 =>
  (if u_2 = 0 then
  (f_X12_findCut h_1 x1 x2 x3).bind fun u_3 =>
  (f_X12_standsFor u_3 x1 x2 x3).bind fun u_4 =>
  (if u_4 = (-9) then
  some ((u_3 111 24), u_3)
  else
  some ((-9), u_3))
  else
  some ((-2), h_1))
set_option maxRecDepth 4000 in
theorem w_X12_next {X : wX} (C : Cx X yX12_next cX12_next 4 (some .int) rm_X12_next) {N : Nat} {q : Qp} (hN : 137 ≤ N) (h : Hp) (x1 : Int32) (x2 : Int32) (x3 : Int32) : wG X 4 (eM X (fun u => (some (.int u.1), N, u.2, (rq q)))) (f_X12_next h x1 x2 x3) N h (rq q) 0 0 0 [(0, .ref (xB X + 111)), (1, .int x1), (2, .int x2), (3, .int x3)] [] := by
  refine wG_of (f_X12_next.eq_1 ..) ?_
  refine wG_aload_n C dX12_next_0 0 rfl ?_
  refine wG_iconst C dX12_next_1 (v := 0) (by decide) ?_
  refine wG_putI C fl_X12_1_8 (fp_8_0 _) (fun e => Bool.noConfusion e) rfl kd_111 (wll hN (by decide)) dX12_next_2 (fun h_1 => ?_)
  refine wG_iload_n C dX12_next_5 1 rfl ?_
  refine wG_iload_n C dX12_next_6 2 rfl ?_
  refine wG_iload_n C dX12_next_7 3 rfl ?_
  refine wG_cS_ri [.int x1, .int x2, .int x3] [] C sw_X12_204 (c_X12_noAsk (xl X) (xE X) N q hN h_1 x1 x2 x3) (by decide) rfl rfl (Nat.le_of_ble_eq_true rfl) dX12_next_8 (cl' := 0) (sl' := 0) rfl rfl (fun u_2 => ?_)
  refine wG_if_eq C dX12_next_11 ?_ ?_
  · refine wG_aload_n C dX12_next_17 0 rfl ?_
    refine wG_iload_n C dX12_next_18 1 rfl ?_
    refine wG_iload_n C dX12_next_19 2 rfl ?_
    refine wG_iload_n C dX12_next_20 3 rfl ?_
    refine wG_cV_wv [.int x1, .int x2, .int x3] [] C vw_X12_231 (c_X12_findCut (xl X) (xE X) N q hN h_1 x1 x2 x3) kd_111 (wll hN (by decide)) (by decide) rfl rfl (Nat.le_of_ble_eq_true rfl) dX12_next_21 (cl' := 0) (sl' := 0) rfl rfl (fun u_3 => ?_)
    refine wG_aload_n C dX12_next_24 0 rfl ?_
    refine wG_iload_n C dX12_next_25 1 rfl ?_
    refine wG_iload_n C dX12_next_26 2 rfl ?_
    refine wG_iload_n C dX12_next_27 3 rfl ?_
    refine wG_cV_ri [.int x1, .int x2, .int x3] [] C vw_X12_212 (c_X12_standsFor (xl X) (xE X) N q hN u_3 x1 x2 x3) kd_111 (wll hN (by decide)) (by decide) rfl rfl (Nat.le_of_ble_eq_true rfl) dX12_next_28 (cl' := 0) (sl' := 0) rfl rfl (fun u_4 => ?_)
    refine wG_bipush C dX12_next_31 (v := (-9)) (by decide) ?_
    refine wG_icmp_ne C dX12_next_33 ?_ ?_
    · refine wG_aload_n C dX12_next_36 0 rfl ?_
      refine wG_getI C fl_X12_220_8 rfl kd_111 (wll hN (by decide)) dX12_next_37 ?_
      refine wG_goto C dX12_next_40 ?_
      exact wG_iret C dX12_next_45 ⟨by decide, by decide⟩ (fun _ e => e)
    · refine wG_bipush C dX12_next_43 (v := (-9)) (by decide) ?_
      exact wG_iret C dX12_next_45 ⟨by decide, by decide⟩ (fun _ e => e)
  · refine wG_bipush C dX12_next_14 (v := (-2)) (by decide) ?_
    exact wG_iret C dX12_next_16 ⟨by decide, by decide⟩ (fun _ e => e)
theorem c_X12_next (l : Launch) (E : wE) (N : Nat) (q : Qp) (hN : 137 ≤ N) (h : Hp) (x1 : Int32) (x2 : Int32) (x3 : Int32) : ∀ z, f_X12_next h x1 x2 x3 = some z → CT l E yX12_next cX12_next 4 (some .int) rm_X12_next [.ref (eB E + 111), .int x1, .int x2, .int x3] N h (rq q) ((fun u => (some (.int u.1), N, u.2, (rq q))) z) := CT.of (by decide +kernel) (Nat.le_of_ble_eq_true rfl) (fun X _ e C => by subst e; exact w_X12_next C hN h x1 x2 x3)
def rm_X12_make : Room := { frames := 3, cells := 0, slots := 0, locals := 81 }
def f_X12_make (h : Hp) (x1 : Int32) : Option (Int32 × Hp) :=
  vB (x1 / 1000) fun (x2_1 : Int32) =>
  ((if ((x1 / 100) - (x1 / 100) / 10 * 10) = 0 then
  some 1
  else
  some 0)).bind fun t_2 =>
  (f_X12_makeCut h x2_1 t_2 ((x1 / 10) - (x1 / 10) / 10 * 10)).bind fun u_3 =>
  vB u_3.1 fun (x3_4 : Int32) =>
  ((if (x1 - x1 / 10 * 10) = 1 then
  some x3_4
  else
  some x2_1)).bind fun t_5 =>
  vB t_5 fun (x4_6 : Int32) =>
  if inB x4_6 24 then vB (u2 u_3.2 119 (ix x4_6) 1) fun h_7 =>
  some (x4_6, h_7) else none
set_option maxRecDepth 4000 in
theorem w_X12_make {X : wX} (C : Cx X yX12_make cX12_make 5 (some .int) rm_X12_make) {N : Nat} {q : Qp} (hN : 137 ≤ N) (h : Hp) (x1 : Int32) : wG X 5 (eM X (fun u => (some (.int u.1), N, u.2, (rq q)))) (f_X12_make h x1) N h (rq q) 0 0 0 [(0, .ref (xB X + 111)), (1, .int x1)] [] := by
  refine wG_of (f_X12_make.eq_1 ..) ?_
  refine wG_iload_n C dX12_make_0 1 rfl ?_
  refine wG_sipush C dX12_make_1 (v := 1000) (by decide) ?_
  refine wG_idivK C dX12_make_4 (by decide) ?_
  refine wG_nmI (fun x2_1 => ?_)
  refine wG_istore_n C (L' := [(0, .ref (xB X + 111)), (1, .int x1), (2, .int x2_1)]) dX12_make_5 (by decide) [1, 2, 0] rfl ?_
  refine wG_aload_n C dX12_make_6 0 rfl ?_
  refine wG_iload_n C dX12_make_7 2 rfl ?_
  refine wG_iload_n C dX12_make_8 1 rfl ?_
  refine wG_bipush C dX12_make_9 (v := 100) (by decide) ?_
  refine wG_idivK C dX12_make_11 (by decide) ?_
  refine wG_bipush C dX12_make_12 (v := 10) (by decide) ?_
  refine wG_iremK C dX12_make_14 (by decide) ?_
  refine wG_bind (J := (fun (t_2 : Int32) Q => gQ X 5 Q N h (rq q) 0 0 23 [(0, .ref (xB X + 111)), (1, .int x1), (2, .int x2_1)] [.int t_2, .int x2_1, .ref (xB X + 111)])) ?_ (fun t_2 => (?_ : wG X 5 _ _ N h (rq q) 0 0 23 [(0, .ref (xB X + 111)), (1, .int x1), (2, .int x2_1)] [.int t_2, .int x2_1, .ref (xB X + 111)]))
  · refine wG_if_ne C dX12_make_15 ?_ ?_
    · refine wG_iconst C dX12_make_18 (v := 1) (by decide) ?_
      refine wG_goto C dX12_make_19 ?_
      exact wG_exit (fun Q e => gQ_lv [0, 1, 2] rfl e)
    · refine wG_iconst C dX12_make_22 (v := 0) (by decide) ?_
      exact wG_exit (fun Q e => gQ_lv [0, 1, 2] rfl e)
  · refine wG_iload_n C dX12_make_23 1 rfl ?_
    refine wG_bipush C dX12_make_24 (v := 10) (by decide) ?_
    refine wG_idivK C dX12_make_26 (by decide) ?_
    refine wG_bipush C dX12_make_27 (v := 10) (by decide) ?_
    refine wG_iremK C dX12_make_29 (by decide) ?_
    refine wG_cV_wi [.int x2_1, .int t_2, .int ((x1 / 10) - (x1 / 10) / 10 * 10)] [] C vw_X12_182 (c_X12_makeCut (xl X) (xE X) N q hN h x2_1 t_2 ((x1 / 10) - (x1 / 10) / 10 * 10)) kd_111 (wll hN (by decide)) (by decide) rfl rfl (Nat.le_of_ble_eq_true rfl) dX12_make_30 (cl' := 0) (sl' := 0) rfl rfl (fun u_3 => ?_)
    refine wG_nmI (fun x3_4 => ?_)
    refine wG_istore_n C (L' := [(0, .ref (xB X + 111)), (1, .int x1), (2, .int x2_1), (3, .int x3_4)]) dX12_make_33 (by decide) [1, 2, 3, 0] rfl ?_
    refine wG_iload_n C dX12_make_34 1 rfl ?_
    refine wG_bipush C dX12_make_35 (v := 10) (by decide) ?_
    refine wG_iremK C dX12_make_37 (by decide) ?_
    refine wG_iconst C dX12_make_38 (v := 1) (by decide) ?_
    refine wG_bind (J := (fun (t_5 : Int32) Q => gQ X 5 Q N u_3.2 (rq q) 0 0 47 [(0, .ref (xB X + 111))] [.int t_5])) ?_ (fun t_5 => (?_ : wG X 5 _ _ N u_3.2 (rq q) 0 0 47 [(0, .ref (xB X + 111))] [.int t_5]))
    · refine wG_icmp_ne C dX12_make_39 ?_ ?_
      · refine wG_iload_n C dX12_make_42 3 rfl ?_
        refine wG_goto C dX12_make_43 ?_
        exact wG_exit (fun Q e => gQ_lv [0] rfl e)
      · refine wG_iload_n C dX12_make_46 2 rfl ?_
        exact wG_exit (fun Q e => gQ_lv [0] rfl e)
    · refine wG_nmI (fun x4_6 => ?_)
      refine wG_istore C (L' := [(0, .ref (xB X + 111)), (4, .int x4_6)]) dX12_make_47 (by decide) [1, 0] rfl ?_
      refine wG_aload_n C dX12_make_49 0 rfl ?_
      refine wG_getR C fl_X12_44_8 rfl kd_111 (wll hN (by decide)) (rf_111_14 q) dX12_make_50 ?_
      refine wG_iload C dX12_make_53 1 rfl ?_
      refine wG_iconst C dX12_make_55 (v := 1) (by decide) ?_
      refine wG_iast C kd_119 (wll hN (by decide)) ln_119 dX12_make_56 (fun h_7 => ?_)
      refine wG_iload C dX12_make_57 1 rfl ?_
      exact wG_iret C dX12_make_59 ⟨by decide, by decide⟩ (fun _ e => e)
theorem c_X12_make (l : Launch) (E : wE) (N : Nat) (q : Qp) (hN : 137 ≤ N) (h : Hp) (x1 : Int32) : ∀ z, f_X12_make h x1 = some z → CT l E yX12_make cX12_make 5 (some .int) rm_X12_make [.ref (eB E + 111), .int x1] N h (rq q) ((fun u => (some (.int u.1), N, u.2, (rq q))) z) := CT.of (by decide +kernel) (Nat.le_of_ble_eq_true rfl) (fun X _ e C => by subst e; exact w_X12_make C hN h x1)
def rm_X12_serve : Room := { frames := 5, cells := 0, slots := 0, locals := 141 }
def f_X12_serve (h : Hp) (x1 : Int32) (x2 : Int32) (x3 : Int32) : Option (Int32 × Hp) :=
  vB (u2 h 111 0 0) fun h_1 =>
  (f_X12_noAsk x1 x2 x3).bind fun u_2 =>
  (if u_2 = 0 then
  (f_X12_standsFor h_1 x1 x2 x3).bind fun u_3 =>
  vB u_3 fun (x4_4 : Int32) =>
  (if x4_4 = (-9) then
  (f_X12_findCut h_1 x1 x2 x3).bind fun u_5 =>
  (if (u_5 111 24) = (-9) then
  some ((-9), u_5)
  else
  (f_X12_make u_5 (u_5 111 24)).bind fun u_6 =>
  some (u_6.1, u_6.2))
  else
  if inB x4_4 24 then vB (u2 h_1 119 (ix x4_4) 1) fun h_7 =>
  some (x4_4, h_7) else none)
  else
  some ((-2), h_1))
set_option maxRecDepth 4000 in
theorem w_X12_serve {X : wX} (C : Cx X yX12_serve cX12_serve 5 (some .int) rm_X12_serve) {N : Nat} {q : Qp} (hN : 137 ≤ N) (h : Hp) (x1 : Int32) (x2 : Int32) (x3 : Int32) : wG X 5 (eM X (fun u => (some (.int u.1), N, u.2, (rq q)))) (f_X12_serve h x1 x2 x3) N h (rq q) 0 0 0 [(0, .ref (xB X + 111)), (1, .int x1), (2, .int x2), (3, .int x3)] [] := by
  refine wG_of (f_X12_serve.eq_1 ..) ?_
  refine wG_aload_n C dX12_serve_0 0 rfl ?_
  refine wG_iconst C dX12_serve_1 (v := 0) (by decide) ?_
  refine wG_putI C fl_X12_1_8 (fp_8_0 _) (fun e => Bool.noConfusion e) rfl kd_111 (wll hN (by decide)) dX12_serve_2 (fun h_1 => ?_)
  refine wG_iload_n C dX12_serve_5 1 rfl ?_
  refine wG_iload_n C dX12_serve_6 2 rfl ?_
  refine wG_iload_n C dX12_serve_7 3 rfl ?_
  refine wG_cS_ri [.int x1, .int x2, .int x3] [] C sw_X12_204 (c_X12_noAsk (xl X) (xE X) N q hN h_1 x1 x2 x3) (by decide) rfl rfl (Nat.le_of_ble_eq_true rfl) dX12_serve_8 (cl' := 0) (sl' := 0) rfl rfl (fun u_2 => ?_)
  refine wG_if_eq C dX12_serve_11 ?_ ?_
  · refine wG_aload_n C dX12_serve_17 0 rfl ?_
    refine wG_iload_n C dX12_serve_18 1 rfl ?_
    refine wG_iload_n C dX12_serve_19 2 rfl ?_
    refine wG_iload_n C dX12_serve_20 3 rfl ?_
    refine wG_cV_ri [.int x1, .int x2, .int x3] [] C vw_X12_212 (c_X12_standsFor (xl X) (xE X) N q hN h_1 x1 x2 x3) kd_111 (wll hN (by decide)) (by decide) rfl rfl (Nat.le_of_ble_eq_true rfl) dX12_serve_21 (cl' := 0) (sl' := 0) rfl rfl (fun u_3 => ?_)
    refine wG_nmI (fun x4_4 => ?_)
    refine wG_istore C (L' := [(0, .ref (xB X + 111)), (1, .int x1), (2, .int x2), (3, .int x3), (4, .int x4_4)]) dX12_serve_24 (by decide) [1, 2, 3, 4, 0] rfl ?_
    refine wG_iload C dX12_serve_26 4 rfl ?_
    refine wG_bipush C dX12_serve_28 (v := (-9)) (by decide) ?_
    refine wG_icmp_eq C dX12_serve_30 ?_ ?_
    · refine wG_aload_n C dX12_serve_44 0 rfl ?_
      refine wG_iload_n C dX12_serve_45 1 rfl ?_
      refine wG_iload_n C dX12_serve_46 2 rfl ?_
      refine wG_iload_n C dX12_serve_47 3 rfl ?_
      refine wG_cV_wv [.int x1, .int x2, .int x3] [] C vw_X12_231 (c_X12_findCut (xl X) (xE X) N q hN h_1 x1 x2 x3) kd_111 (wll hN (by decide)) (by decide) rfl rfl (Nat.le_of_ble_eq_true rfl) dX12_serve_48 (cl' := 0) (sl' := 0) rfl rfl (fun u_5 => ?_)
      refine wG_aload_n C dX12_serve_51 0 rfl ?_
      refine wG_getI C fl_X12_220_8 rfl kd_111 (wll hN (by decide)) dX12_serve_52 ?_
      refine wG_bipush C dX12_serve_55 (v := (-9)) (by decide) ?_
      refine wG_icmp_ne C dX12_serve_57 ?_ ?_
      · refine wG_bipush C dX12_serve_60 (v := (-9)) (by decide) ?_
        refine wG_goto C dX12_serve_62 ?_
        exact wG_iret C dX12_serve_73 ⟨by decide, by decide⟩ (fun _ e => e)
      · refine wG_aload_n C dX12_serve_65 0 rfl ?_
        refine wG_aload_n C dX12_serve_66 0 rfl ?_
        refine wG_getI C fl_X12_220_8 rfl kd_111 (wll hN (by decide)) dX12_serve_67 ?_
        refine wG_cV_wi [.int (u_5 111 24)] [] C vw_X12_235 (c_X12_make (xl X) (xE X) N q hN u_5 (u_5 111 24)) kd_111 (wll hN (by decide)) (by decide) rfl rfl (Nat.le_of_ble_eq_true rfl) dX12_serve_70 (cl' := 0) (sl' := 0) rfl rfl (fun u_6 => ?_)
        exact wG_iret C dX12_serve_73 ⟨by decide, by decide⟩ (fun _ e => e)
    · refine wG_aload_n C dX12_serve_33 0 rfl ?_
      refine wG_getR C fl_X12_44_8 rfl kd_111 (wll hN (by decide)) (rf_111_14 q) dX12_serve_34 ?_
      refine wG_iload C dX12_serve_37 4 rfl ?_
      refine wG_iconst C dX12_serve_39 (v := 1) (by decide) ?_
      refine wG_iast C kd_119 (wll hN (by decide)) ln_119 dX12_serve_40 (fun h_7 => ?_)
      refine wG_iload C dX12_serve_41 4 rfl ?_
      exact wG_iret C dX12_serve_43 ⟨by decide, by decide⟩ (fun _ e => e)
  · refine wG_bipush C dX12_serve_14 (v := (-2)) (by decide) ?_
    exact wG_iret C dX12_serve_16 ⟨by decide, by decide⟩ (fun _ e => e)
theorem c_X12_serve (l : Launch) (E : wE) (N : Nat) (q : Qp) (hN : 137 ≤ N) (h : Hp) (x1 : Int32) (x2 : Int32) (x3 : Int32) : ∀ z, f_X12_serve h x1 x2 x3 = some z → CT l E yX12_serve cX12_serve 5 (some .int) rm_X12_serve [.ref (eB E + 111), .int x1, .int x2, .int x3] N h (rq q) ((fun u => (some (.int u.1), N, u.2, (rq q))) z) := CT.of (by decide +kernel) (Nat.le_of_ble_eq_true rfl) (fun X _ e C => by subst e; exact w_X12_serve C hN h x1 x2 x3)
def rm_X12_putAside : Room := { frames := 0, cells := 0, slots := 0, locals := 0 }
def L_X12_putAside_134 (x1_4 : Int32) (x2_7 : Int32) : Nat → Int32 → Hp → Option Hp
  | 0, _, _ => none
  | n + 1, x3_16, h_17 =>
    (if (4 : Int32) ≤ x3_16 then
    some h_17
    else
    if inB ((4 * x1_4) + x3_16) 96 then
    if inB ((x2_7 + 7) + x3_16) 266 then vB (u2 h_17 123 (ix ((x2_7 + 7) + x3_16)) (h_17 122 (ix ((4 * x1_4) + x3_16)))) fun h_19 =>
    vB (x3_16 + 1) fun (x3_20 : Int32) =>
    L_X12_putAside_134 x1_4 x2_7 n x3_20 h_19 else none else none)
def L_X12_putAside_22  : Nat → Int32 → Hp → Option Hp
  | 0, _, _ => none
  | n + 1, x1_4, h_5 =>
    (if (24 : Int32) ≤ x1_4 then
    some h_5
    else
    vB (2 + (11 * x1_4)) fun (x2_7 : Int32) =>
    if inB x1_4 24 then
    if inB x2_7 266 then vB (u2 h_5 123 (ix x2_7) (h_5 115 (ix x1_4))) fun h_8 =>
    if inB x1_4 24 then
    if inB (x2_7 + 1) 266 then vB (u2 h_8 123 (ix (x2_7 + 1)) (h_8 116 (ix x1_4))) fun h_9 =>
    if inB x1_4 24 then
    if inB (x2_7 + 2) 266 then vB (u2 h_9 123 (ix (x2_7 + 2)) (h_9 117 (ix x1_4))) fun h_10 =>
    if inB x1_4 24 then
    if inB (x2_7 + 3) 266 then vB (u2 h_10 123 (ix (x2_7 + 3)) (h_10 118 (ix x1_4))) fun h_11 =>
    if inB x1_4 24 then
    if inB (x2_7 + 4) 266 then vB (u2 h_11 123 (ix (x2_7 + 4)) (h_11 119 (ix x1_4))) fun h_12 =>
    if inB x1_4 24 then
    if inB (x2_7 + 5) 266 then vB (u2 h_12 123 (ix (x2_7 + 5)) (h_12 120 (ix x1_4))) fun h_13 =>
    if inB x1_4 24 then
    if inB (x2_7 + 6) 266 then vB (u2 h_13 123 (ix (x2_7 + 6)) (h_13 121 (ix x1_4))) fun h_14 =>
    vB 0 fun (x3_15 : Int32) =>
    (L_X12_putAside_134 x1_4 x2_7 FU x3_15 h_14).bind fun t_18 =>
    vB (x1_4 + 1) fun (x1_21 : Int32) =>
    L_X12_putAside_22 n x1_21 t_18 else none else none else none else none else none else none else none else none else none else none else none else none else none else none)
def f_X12_putAside (h : Hp) : Option Hp :=
  if inB 0 266 then vB (u2 h 123 (ix 0) (h 111 9)) fun h_1 =>
  if inB 1 266 then vB (u2 h_1 123 (ix 1) (h_1 111 18)) fun h_2 =>
  vB 0 fun (x1_3 : Int32) =>
  (L_X12_putAside_22 FU x1_3 h_2).bind fun t_6 =>
  some t_6 else none else none
set_option maxRecDepth 4000 in
theorem wL_X12_putAside_134 {X : wX} (C : Cx X yX12_putAside cX12_putAside 4 none rm_X12_putAside) {N : Nat} {q : Qp} (hN : 137 ≤ N) (h : Hp) (h_1 : Hp) (h_2 : Hp) (x1_3 : Int32) (x1_4 : Int32) (h_5 : Hp) (x2_7 : Int32) (h_8 : Hp) (h_9 : Hp) (h_10 : Hp) (h_11 : Hp) (h_12 : Hp) (h_13 : Hp) (h_14 : Hp) (x3_15 : Int32) : ∀ n x3_16 h_17, wG X 4 (fun (t_18 : Hp) Q => gQ X 4 Q N t_18 (rq q) 0 0 166 [(0, .ref (xB X + 111)), (1, .int x1_4)] []) (L_X12_putAside_134 x1_4 x2_7 n x3_16 h_17) N h_17 (rq q) 0 0 134 [(0, .ref (xB X + 111)), (1, .int x1_4), (2, .int x2_7), (3, .int x3_16)] [] := by
  intro n
  induction n with
  | zero => intro _ _; exact wG_none
  | succ n ih =>
    intro x3_16 h_17
    refine wG_of (L_X12_putAside_134.eq_2 ..) ?_
    refine wG_iload_n C dX12_putAside_134 3 rfl ?_
    refine wG_iconst C dX12_putAside_135 (v := 4) (by decide) ?_
    refine wG_icmp_ge C dX12_putAside_136 ?_ ?_
    · exact wG_exit (fun Q e => gQ_lv [0, 1] rfl e)
    · refine wG_aload_n C dX12_putAside_139 0 rfl ?_
      refine wG_getR C fl_X12_56_8 rfl kd_111 (wll hN (by decide)) (rf_111_19 q) dX12_putAside_140 ?_
      refine wG_iload_n C dX12_putAside_143 2 rfl ?_
      refine wG_bipush C dX12_putAside_144 (v := 7) (by decide) ?_
      refine wG_iadd C dX12_putAside_146 ?_
      refine wG_iload_n C dX12_putAside_147 3 rfl ?_
      refine wG_iadd C dX12_putAside_148 ?_
      refine wG_aload_n C dX12_putAside_149 0 rfl ?_
      refine wG_getR C fl_X12_53_8 rfl kd_111 (wll hN (by decide)) (rf_111_17 q) dX12_putAside_150 ?_
      refine wG_iconst C dX12_putAside_153 (v := 4) (by decide) ?_
      refine wG_iload_n C dX12_putAside_154 1 rfl ?_
      refine wG_imul C dX12_putAside_155 ?_
      refine wG_iload_n C dX12_putAside_156 3 rfl ?_
      refine wG_iadd C dX12_putAside_157 ?_
      refine wG_iald C kd_122 (wll hN (by decide)) ln_122 dX12_putAside_158 ?_
      refine wG_iast C kd_123 (wll hN (by decide)) ln_123 dX12_putAside_159 (fun h_19 => ?_)
      refine wG_iinc C (v := 1) (LL := fun x3_20 => [(0, .ref (xB X + 111)), (1, .int x1_4), (2, .int x2_7), (3, .int x3_20)]) dX12_putAside_160 3 rfl (by decide) (by decide) [1, 2, 3, 0] (fun _ => rfl) (fun x3_20 => ?_)
      refine wG_goto C dX12_putAside_163 ?_
      exact wG_lv [0, 1, 2, 3] rfl (ih x3_20 h_19)
set_option maxRecDepth 4000 in
theorem wL_X12_putAside_22 {X : wX} (C : Cx X yX12_putAside cX12_putAside 4 none rm_X12_putAside) {N : Nat} {q : Qp} (hN : 137 ≤ N) (h : Hp) (h_1 : Hp) (h_2 : Hp) (x1_3 : Int32) : ∀ n x1_4 h_5, wG X 4 (fun (t_6 : Hp) Q => gQ X 4 Q N t_6 (rq q) 0 0 172 [] []) (L_X12_putAside_22 n x1_4 h_5) N h_5 (rq q) 0 0 22 [(0, .ref (xB X + 111)), (1, .int x1_4)] [] := by
  intro n
  induction n with
  | zero => intro _ _; exact wG_none
  | succ n ih =>
    intro x1_4 h_5
    refine wG_of (L_X12_putAside_22.eq_2 ..) ?_
    refine wG_iload_n C dX12_putAside_22 1 rfl ?_
    refine wG_bipush C dX12_putAside_23 (v := 24) (by decide) ?_
    refine wG_icmp_ge C dX12_putAside_25 ?_ ?_
    · exact wG_exit (fun Q e => gQ_lv [] rfl e)
    · refine wG_iconst C dX12_putAside_28 (v := 2) (by decide) ?_
      refine wG_bipush C dX12_putAside_29 (v := 11) (by decide) ?_
      refine wG_iload_n C dX12_putAside_31 1 rfl ?_
      refine wG_imul C dX12_putAside_32 ?_
      refine wG_iadd C dX12_putAside_33 ?_
      refine wG_nmI (fun x2_7 => ?_)
      refine wG_istore_n C (L' := [(0, .ref (xB X + 111)), (1, .int x1_4), (2, .int x2_7)]) dX12_putAside_34 (by decide) [1, 2, 0] rfl ?_
      refine wG_aload_n C dX12_putAside_35 0 rfl ?_
      refine wG_getR C fl_X12_56_8 rfl kd_111 (wll hN (by decide)) (rf_111_19 q) dX12_putAside_36 ?_
      refine wG_iload_n C dX12_putAside_39 2 rfl ?_
      refine wG_aload_n C dX12_putAside_40 0 rfl ?_
      refine wG_getR C fl_X12_32_8 rfl kd_111 (wll hN (by decide)) (rf_111_10 q) dX12_putAside_41 ?_
      refine wG_iload_n C dX12_putAside_44 1 rfl ?_
      refine wG_iald C kd_115 (wll hN (by decide)) ln_115 dX12_putAside_45 ?_
      refine wG_iast C kd_123 (wll hN (by decide)) ln_123 dX12_putAside_46 (fun h_8 => ?_)
      refine wG_aload_n C dX12_putAside_47 0 rfl ?_
      refine wG_getR C fl_X12_56_8 rfl kd_111 (wll hN (by decide)) (rf_111_19 q) dX12_putAside_48 ?_
      refine wG_iload_n C dX12_putAside_51 2 rfl ?_
      refine wG_iconst C dX12_putAside_52 (v := 1) (by decide) ?_
      refine wG_iadd C dX12_putAside_53 ?_
      refine wG_aload_n C dX12_putAside_54 0 rfl ?_
      refine wG_getR C fl_X12_35_8 rfl kd_111 (wll hN (by decide)) (rf_111_11 q) dX12_putAside_55 ?_
      refine wG_iload_n C dX12_putAside_58 1 rfl ?_
      refine wG_iald C kd_116 (wll hN (by decide)) ln_116 dX12_putAside_59 ?_
      refine wG_iast C kd_123 (wll hN (by decide)) ln_123 dX12_putAside_60 (fun h_9 => ?_)
      refine wG_aload_n C dX12_putAside_61 0 rfl ?_
      refine wG_getR C fl_X12_56_8 rfl kd_111 (wll hN (by decide)) (rf_111_19 q) dX12_putAside_62 ?_
      refine wG_iload_n C dX12_putAside_65 2 rfl ?_
      refine wG_iconst C dX12_putAside_66 (v := 2) (by decide) ?_
      refine wG_iadd C dX12_putAside_67 ?_
      refine wG_aload_n C dX12_putAside_68 0 rfl ?_
      refine wG_getR C fl_X12_38_8 rfl kd_111 (wll hN (by decide)) (rf_111_12 q) dX12_putAside_69 ?_
      refine wG_iload_n C dX12_putAside_72 1 rfl ?_
      refine wG_iald C kd_117 (wll hN (by decide)) ln_117 dX12_putAside_73 ?_
      refine wG_iast C kd_123 (wll hN (by decide)) ln_123 dX12_putAside_74 (fun h_10 => ?_)
      refine wG_aload_n C dX12_putAside_75 0 rfl ?_
      refine wG_getR C fl_X12_56_8 rfl kd_111 (wll hN (by decide)) (rf_111_19 q) dX12_putAside_76 ?_
      refine wG_iload_n C dX12_putAside_79 2 rfl ?_
      refine wG_iconst C dX12_putAside_80 (v := 3) (by decide) ?_
      refine wG_iadd C dX12_putAside_81 ?_
      refine wG_aload_n C dX12_putAside_82 0 rfl ?_
      refine wG_getR C fl_X12_41_8 rfl kd_111 (wll hN (by decide)) (rf_111_13 q) dX12_putAside_83 ?_
      refine wG_iload_n C dX12_putAside_86 1 rfl ?_
      refine wG_iald C kd_118 (wll hN (by decide)) ln_118 dX12_putAside_87 ?_
      refine wG_iast C kd_123 (wll hN (by decide)) ln_123 dX12_putAside_88 (fun h_11 => ?_)
      refine wG_aload_n C dX12_putAside_89 0 rfl ?_
      refine wG_getR C fl_X12_56_8 rfl kd_111 (wll hN (by decide)) (rf_111_19 q) dX12_putAside_90 ?_
      refine wG_iload_n C dX12_putAside_93 2 rfl ?_
      refine wG_iconst C dX12_putAside_94 (v := 4) (by decide) ?_
      refine wG_iadd C dX12_putAside_95 ?_
      refine wG_aload_n C dX12_putAside_96 0 rfl ?_
      refine wG_getR C fl_X12_44_8 rfl kd_111 (wll hN (by decide)) (rf_111_14 q) dX12_putAside_97 ?_
      refine wG_iload_n C dX12_putAside_100 1 rfl ?_
      refine wG_iald C kd_119 (wll hN (by decide)) ln_119 dX12_putAside_101 ?_
      refine wG_iast C kd_123 (wll hN (by decide)) ln_123 dX12_putAside_102 (fun h_12 => ?_)
      refine wG_aload_n C dX12_putAside_103 0 rfl ?_
      refine wG_getR C fl_X12_56_8 rfl kd_111 (wll hN (by decide)) (rf_111_19 q) dX12_putAside_104 ?_
      refine wG_iload_n C dX12_putAside_107 2 rfl ?_
      refine wG_iconst C dX12_putAside_108 (v := 5) (by decide) ?_
      refine wG_iadd C dX12_putAside_109 ?_
      refine wG_aload_n C dX12_putAside_110 0 rfl ?_
      refine wG_getR C fl_X12_47_8 rfl kd_111 (wll hN (by decide)) (rf_111_15 q) dX12_putAside_111 ?_
      refine wG_iload_n C dX12_putAside_114 1 rfl ?_
      refine wG_iald C kd_120 (wll hN (by decide)) ln_120 dX12_putAside_115 ?_
      refine wG_iast C kd_123 (wll hN (by decide)) ln_123 dX12_putAside_116 (fun h_13 => ?_)
      refine wG_aload_n C dX12_putAside_117 0 rfl ?_
      refine wG_getR C fl_X12_56_8 rfl kd_111 (wll hN (by decide)) (rf_111_19 q) dX12_putAside_118 ?_
      refine wG_iload_n C dX12_putAside_121 2 rfl ?_
      refine wG_bipush C dX12_putAside_122 (v := 6) (by decide) ?_
      refine wG_iadd C dX12_putAside_124 ?_
      refine wG_aload_n C dX12_putAside_125 0 rfl ?_
      refine wG_getR C fl_X12_50_8 rfl kd_111 (wll hN (by decide)) (rf_111_16 q) dX12_putAside_126 ?_
      refine wG_iload_n C dX12_putAside_129 1 rfl ?_
      refine wG_iald C kd_121 (wll hN (by decide)) ln_121 dX12_putAside_130 ?_
      refine wG_iast C kd_123 (wll hN (by decide)) ln_123 dX12_putAside_131 (fun h_14 => ?_)
      refine wG_iconst C dX12_putAside_132 (v := 0) (by decide) ?_
      refine wG_nmI (fun x3_15 => ?_)
      refine wG_istore_n C (L' := [(0, .ref (xB X + 111)), (1, .int x1_4), (2, .int x2_7), (3, .int x3_15)]) dX12_putAside_133 (by decide) [1, 2, 3, 0] rfl ?_
      refine wG_lv (L' := [(0, .ref (xB X + 111)), (1, .int x1_4), (2, .int x2_7), (3, .int x3_15)]) [0, 1, 2, 3] rfl ?_
      refine wG_bind (wL_X12_putAside_134 C hN h h_1 h_2 x1_3 x1_4 h_5 x2_7 h_8 h_9 h_10 h_11 h_12 h_13 h_14 x3_15 FU x3_15 h_14) (fun t_18 => (?_ : wG X 4 _ _ N t_18 (rq q) 0 0 166 [(0, .ref (xB X + 111)), (1, .int x1_4)] []))
      refine wG_iinc C (v := 1) (LL := fun x1_21 => [(0, .ref (xB X + 111)), (1, .int x1_21)]) dX12_putAside_166 1 rfl (by decide) (by decide) [1, 0] (fun _ => rfl) (fun x1_21 => ?_)
      refine wG_goto C dX12_putAside_169 ?_
      exact wG_lv [0, 1] rfl (ih x1_21 t_18)
set_option maxRecDepth 4000 in
theorem w_X12_putAside {X : wX} (C : Cx X yX12_putAside cX12_putAside 4 none rm_X12_putAside) {N : Nat} {q : Qp} (hN : 137 ≤ N) (h : Hp) : wG X 4 (eM X (fun u => (none, N, u, (rq q)))) (f_X12_putAside h) N h (rq q) 0 0 0 [(0, .ref (xB X + 111))] [] := by
  refine wG_of (f_X12_putAside.eq_1 ..) ?_
  refine wG_aload_n C dX12_putAside_0 0 rfl ?_
  refine wG_getR C fl_X12_56_8 rfl kd_111 (wll hN (by decide)) (rf_111_19 q) dX12_putAside_1 ?_
  refine wG_iconst C dX12_putAside_4 (v := 0) (by decide) ?_
  refine wG_aload_n C dX12_putAside_5 0 rfl ?_
  refine wG_getI C fl_X12_29_8 rfl kd_111 (wll hN (by decide)) dX12_putAside_6 ?_
  refine wG_iast C kd_123 (wll hN (by decide)) ln_123 dX12_putAside_9 (fun h_1 => ?_)
  refine wG_aload_n C dX12_putAside_10 0 rfl ?_
  refine wG_getR C fl_X12_56_8 rfl kd_111 (wll hN (by decide)) (rf_111_19 q) dX12_putAside_11 ?_
  refine wG_iconst C dX12_putAside_14 (v := 1) (by decide) ?_
  refine wG_aload_n C dX12_putAside_15 0 rfl ?_
  refine wG_getI C fl_X12_134_8 rfl kd_111 (wll hN (by decide)) dX12_putAside_16 ?_
  refine wG_iast C kd_123 (wll hN (by decide)) ln_123 dX12_putAside_19 (fun h_2 => ?_)
  refine wG_iconst C dX12_putAside_20 (v := 0) (by decide) ?_
  refine wG_nmI (fun x1_3 => ?_)
  refine wG_istore_n C (L' := [(0, .ref (xB X + 111)), (1, .int x1_3)]) dX12_putAside_21 (by decide) [1, 0] rfl ?_
  refine wG_lv (L' := [(0, .ref (xB X + 111)), (1, .int x1_3)]) [0, 1] rfl ?_
  refine wG_bind (wL_X12_putAside_22 C hN h h_1 h_2 x1_3 FU x1_3 h_2) (fun t_6 => (?_ : wG X 4 _ _ N t_6 (rq q) 0 0 172 [] []))
  exact wG_vret C dX12_putAside_172 ⟨by decide, by decide⟩ (fun _ e => e)
theorem c_X12_putAside (l : Launch) (E : wE) (N : Nat) (q : Qp) (hN : 137 ≤ N) (h : Hp) : ∀ z, f_X12_putAside h = some z → CT l E yX12_putAside cX12_putAside 4 none rm_X12_putAside [.ref (eB E + 111)] N h (rq q) ((fun u => (none, N, u, (rq q))) z) := CT.of (by decide +kernel) (Nat.le_of_ble_eq_true rfl) (fun X _ e C => by subst e; exact w_X12_putAside C hN h)
def rm_X12_second : Room := { frames := 5, cells := 0, slots := 0, locals := 141 }
def f_X12_second (h : Hp) (x1 : Int32) (x2 : Int32) (x3 : Int32) : Option (Int32 × Hp) :=
  (f_X12_standsFor h x1 x2 x3).bind fun u_1 =>
  (if u_1 = (-9) then
  (f_X12_findCut h x1 x2 x3).bind fun u_2 =>
  some ((u_2 111 25), u_2)
  else
  some (0, h))
set_option maxRecDepth 4000 in
theorem w_X12_second {X : wX} (C : Cx X yX12_second cX12_second 4 (some .int) rm_X12_second) {N : Nat} {q : Qp} (hN : 137 ≤ N) (h : Hp) (x1 : Int32) (x2 : Int32) (x3 : Int32) : wG X 4 (eM X (fun u => (some (.int u.1), N, u.2, (rq q)))) (f_X12_second h x1 x2 x3) N h (rq q) 0 0 0 [(0, .ref (xB X + 111)), (1, .int x1), (2, .int x2), (3, .int x3)] [] := by
  refine wG_of (f_X12_second.eq_1 ..) ?_
  refine wG_aload_n C dX12_second_0 0 rfl ?_
  refine wG_iload_n C dX12_second_1 1 rfl ?_
  refine wG_iload_n C dX12_second_2 2 rfl ?_
  refine wG_iload_n C dX12_second_3 3 rfl ?_
  refine wG_cV_ri [.int x1, .int x2, .int x3] [] C vw_X12_212 (c_X12_standsFor (xl X) (xE X) N q hN h x1 x2 x3) kd_111 (wll hN (by decide)) (by decide) rfl rfl (Nat.le_of_ble_eq_true rfl) dX12_second_4 (cl' := 0) (sl' := 0) rfl rfl (fun u_1 => ?_)
  refine wG_bipush C dX12_second_7 (v := (-9)) (by decide) ?_
  refine wG_icmp_eq C dX12_second_9 ?_ ?_
  · refine wG_aload_n C dX12_second_14 0 rfl ?_
    refine wG_iload_n C dX12_second_15 1 rfl ?_
    refine wG_iload_n C dX12_second_16 2 rfl ?_
    refine wG_iload_n C dX12_second_17 3 rfl ?_
    refine wG_cV_wv [.int x1, .int x2, .int x3] [] C vw_X12_231 (c_X12_findCut (xl X) (xE X) N q hN h x1 x2 x3) kd_111 (wll hN (by decide)) (by decide) rfl rfl (Nat.le_of_ble_eq_true rfl) dX12_second_18 (cl' := 0) (sl' := 0) rfl rfl (fun u_2 => ?_)
    refine wG_aload_n C dX12_second_21 0 rfl ?_
    refine wG_getI C fl_X12_224_8 rfl kd_111 (wll hN (by decide)) dX12_second_22 ?_
    exact wG_iret C dX12_second_25 ⟨by decide, by decide⟩ (fun _ e => e)
  · refine wG_iconst C dX12_second_12 (v := 0) (by decide) ?_
    exact wG_iret C dX12_second_13 ⟨by decide, by decide⟩ (fun _ e => e)
theorem c_X12_second (l : Launch) (E : wE) (N : Nat) (q : Qp) (hN : 137 ≤ N) (h : Hp) (x1 : Int32) (x2 : Int32) (x3 : Int32) : ∀ z, f_X12_second h x1 x2 x3 = some z → CT l E yX12_second cX12_second 4 (some .int) rm_X12_second [.ref (eB E + 111), .int x1, .int x2, .int x3] N h (rq q) ((fun u => (some (.int u.1), N, u.2, (rq q))) z) := CT.of (by decide +kernel) (Nat.le_of_ble_eq_true rfl) (fun X _ e C => by subst e; exact w_X12_second C hN h x1 x2 x3)
def rm_X12_keepTwo : Room := { frames := 0, cells := 0, slots := 0, locals := 0 }
def f_X12_keepTwo (h : Hp) (x1 : Int32) (x2 : Int32) : Option Hp :=
  (if (h 111 45) ≤ x1 then
  some h
  else
  vB (u2 h 111 45 x1) fun h_1 =>
  vB (u2 h_1 111 46 x2) fun h_2 =>
  some h_2)
set_option maxRecDepth 4000 in
theorem w_X12_keepTwo {X : wX} (C : Cx X yX12_keepTwo cX12_keepTwo 3 none rm_X12_keepTwo) {N : Nat} {q : Qp} (hN : 137 ≤ N) (h : Hp) (x1 : Int32) (x2 : Int32) : wG X 3 (eM X (fun u => (none, N, u, (rq q)))) (f_X12_keepTwo h x1 x2) N h (rq q) 0 0 0 [(0, .ref (xB X + 111)), (1, .int x1), (2, .int x2)] [] := by
  refine wG_of (f_X12_keepTwo.eq_1 ..) ?_
  refine wG_iload_n C dX12_keepTwo_0 1 rfl ?_
  refine wG_aload_n C dX12_keepTwo_1 0 rfl ?_
  refine wG_getI C fl_X12_238_8 rfl kd_111 (wll hN (by decide)) dX12_keepTwo_2 ?_
  refine wG_icmp_ge C dX12_keepTwo_5 ?_ ?_
  · exact wG_vret C dX12_keepTwo_18 ⟨by decide, by decide⟩ (fun _ e => e)
  · refine wG_aload_n C dX12_keepTwo_8 0 rfl ?_
    refine wG_iload_n C dX12_keepTwo_9 1 rfl ?_
    refine wG_putI C fl_X12_238_8 (fp_8_45 _) (fun e => Bool.noConfusion e) rfl kd_111 (wll hN (by decide)) dX12_keepTwo_10 (fun h_1 => ?_)
    refine wG_aload_n C dX12_keepTwo_13 0 rfl ?_
    refine wG_iload_n C dX12_keepTwo_14 2 rfl ?_
    refine wG_putI C fl_X12_241_8 (fp_8_46 _) (fun e => Bool.noConfusion e) rfl kd_111 (wll hN (by decide)) dX12_keepTwo_15 (fun h_2 => ?_)
    exact wG_vret C dX12_keepTwo_18 ⟨by decide, by decide⟩ (fun _ e => e)
theorem c_X12_keepTwo (l : Launch) (E : wE) (N : Nat) (q : Qp) (hN : 137 ≤ N) (h : Hp) (x1 : Int32) (x2 : Int32) : ∀ z, f_X12_keepTwo h x1 x2 = some z → CT l E yX12_keepTwo cX12_keepTwo 3 none rm_X12_keepTwo [.ref (eB E + 111), .int x1, .int x2] N h (rq q) ((fun u => (none, N, u, (rq q))) z) := CT.of (by decide +kernel) (Nat.le_of_ble_eq_true rfl) (fun X _ e C => by subst e; exact w_X12_keepTwo C hN h x1 x2)
def rm_X12_takeBack : Room := { frames := 0, cells := 0, slots := 0, locals := 0 }
def L_X12_takeBack_134 (x1_4 : Int32) (x2_7 : Int32) : Nat → Int32 → Hp → Option Hp
  | 0, _, _ => none
  | n + 1, x3_16, h_17 =>
    (if (4 : Int32) ≤ x3_16 then
    some h_17
    else
    if inB ((x2_7 + 7) + x3_16) 266 then
    if inB ((4 * x1_4) + x3_16) 96 then vB (u2 h_17 122 (ix ((4 * x1_4) + x3_16)) (h_17 123 (ix ((x2_7 + 7) + x3_16)))) fun h_19 =>
    vB (x3_16 + 1) fun (x3_20 : Int32) =>
    L_X12_takeBack_134 x1_4 x2_7 n x3_20 h_19 else none else none)
def L_X12_takeBack_22  : Nat → Int32 → Hp → Option Hp
  | 0, _, _ => none
  | n + 1, x1_4, h_5 =>
    (if (24 : Int32) ≤ x1_4 then
    some h_5
    else
    vB (2 + (11 * x1_4)) fun (x2_7 : Int32) =>
    if inB x2_7 266 then
    if inB x1_4 24 then vB (u2 h_5 115 (ix x1_4) (h_5 123 (ix x2_7))) fun h_8 =>
    if inB (x2_7 + 1) 266 then
    if inB x1_4 24 then vB (u2 h_8 116 (ix x1_4) (h_8 123 (ix (x2_7 + 1)))) fun h_9 =>
    if inB (x2_7 + 2) 266 then
    if inB x1_4 24 then vB (u2 h_9 117 (ix x1_4) (h_9 123 (ix (x2_7 + 2)))) fun h_10 =>
    if inB (x2_7 + 3) 266 then
    if inB x1_4 24 then vB (u2 h_10 118 (ix x1_4) (h_10 123 (ix (x2_7 + 3)))) fun h_11 =>
    if inB (x2_7 + 4) 266 then
    if inB x1_4 24 then vB (u2 h_11 119 (ix x1_4) (h_11 123 (ix (x2_7 + 4)))) fun h_12 =>
    if inB (x2_7 + 5) 266 then
    if inB x1_4 24 then vB (u2 h_12 120 (ix x1_4) (h_12 123 (ix (x2_7 + 5)))) fun h_13 =>
    if inB (x2_7 + 6) 266 then
    if inB x1_4 24 then vB (u2 h_13 121 (ix x1_4) (h_13 123 (ix (x2_7 + 6)))) fun h_14 =>
    vB 0 fun (x3_15 : Int32) =>
    (L_X12_takeBack_134 x1_4 x2_7 FU x3_15 h_14).bind fun t_18 =>
    vB (x1_4 + 1) fun (x1_21 : Int32) =>
    L_X12_takeBack_22 n x1_21 t_18 else none else none else none else none else none else none else none else none else none else none else none else none else none else none)
def f_X12_takeBack (h : Hp) : Option Hp :=
  if inB 0 266 then
  vB (u2 h 111 9 (h 123 (ix 0))) fun h_1 =>
  if inB 1 266 then
  vB (u2 h_1 111 18 (h_1 123 (ix 1))) fun h_2 =>
  vB 0 fun (x1_3 : Int32) =>
  (L_X12_takeBack_22 FU x1_3 h_2).bind fun t_6 =>
  some t_6 else none else none
set_option maxRecDepth 4000 in
theorem wL_X12_takeBack_134 {X : wX} (C : Cx X yX12_takeBack cX12_takeBack 4 none rm_X12_takeBack) {N : Nat} {q : Qp} (hN : 137 ≤ N) (h : Hp) (h_1 : Hp) (h_2 : Hp) (x1_3 : Int32) (x1_4 : Int32) (h_5 : Hp) (x2_7 : Int32) (h_8 : Hp) (h_9 : Hp) (h_10 : Hp) (h_11 : Hp) (h_12 : Hp) (h_13 : Hp) (h_14 : Hp) (x3_15 : Int32) : ∀ n x3_16 h_17, wG X 4 (fun (t_18 : Hp) Q => gQ X 4 Q N t_18 (rq q) 0 0 166 [(0, .ref (xB X + 111)), (1, .int x1_4)] []) (L_X12_takeBack_134 x1_4 x2_7 n x3_16 h_17) N h_17 (rq q) 0 0 134 [(0, .ref (xB X + 111)), (1, .int x1_4), (2, .int x2_7), (3, .int x3_16)] [] := by
  intro n
  induction n with
  | zero => intro _ _; exact wG_none
  | succ n ih =>
    intro x3_16 h_17
    refine wG_of (L_X12_takeBack_134.eq_2 ..) ?_
    refine wG_iload_n C dX12_takeBack_134 3 rfl ?_
    refine wG_iconst C dX12_takeBack_135 (v := 4) (by decide) ?_
    refine wG_icmp_ge C dX12_takeBack_136 ?_ ?_
    · exact wG_exit (fun Q e => gQ_lv [0, 1] rfl e)
    · refine wG_aload_n C dX12_takeBack_139 0 rfl ?_
      refine wG_getR C fl_X12_53_8 rfl kd_111 (wll hN (by decide)) (rf_111_17 q) dX12_takeBack_140 ?_
      refine wG_iconst C dX12_takeBack_143 (v := 4) (by decide) ?_
      refine wG_iload_n C dX12_takeBack_144 1 rfl ?_
      refine wG_imul C dX12_takeBack_145 ?_
      refine wG_iload_n C dX12_takeBack_146 3 rfl ?_
      refine wG_iadd C dX12_takeBack_147 ?_
      refine wG_aload_n C dX12_takeBack_148 0 rfl ?_
      refine wG_getR C fl_X12_56_8 rfl kd_111 (wll hN (by decide)) (rf_111_19 q) dX12_takeBack_149 ?_
      refine wG_iload_n C dX12_takeBack_152 2 rfl ?_
      refine wG_bipush C dX12_takeBack_153 (v := 7) (by decide) ?_
      refine wG_iadd C dX12_takeBack_155 ?_
      refine wG_iload_n C dX12_takeBack_156 3 rfl ?_
      refine wG_iadd C dX12_takeBack_157 ?_
      refine wG_iald C kd_123 (wll hN (by decide)) ln_123 dX12_takeBack_158 ?_
      refine wG_iast C kd_122 (wll hN (by decide)) ln_122 dX12_takeBack_159 (fun h_19 => ?_)
      refine wG_iinc C (v := 1) (LL := fun x3_20 => [(0, .ref (xB X + 111)), (1, .int x1_4), (2, .int x2_7), (3, .int x3_20)]) dX12_takeBack_160 3 rfl (by decide) (by decide) [1, 2, 3, 0] (fun _ => rfl) (fun x3_20 => ?_)
      refine wG_goto C dX12_takeBack_163 ?_
      exact wG_lv [0, 1, 2, 3] rfl (ih x3_20 h_19)
set_option maxRecDepth 4000 in
theorem wL_X12_takeBack_22 {X : wX} (C : Cx X yX12_takeBack cX12_takeBack 4 none rm_X12_takeBack) {N : Nat} {q : Qp} (hN : 137 ≤ N) (h : Hp) (h_1 : Hp) (h_2 : Hp) (x1_3 : Int32) : ∀ n x1_4 h_5, wG X 4 (fun (t_6 : Hp) Q => gQ X 4 Q N t_6 (rq q) 0 0 172 [] []) (L_X12_takeBack_22 n x1_4 h_5) N h_5 (rq q) 0 0 22 [(0, .ref (xB X + 111)), (1, .int x1_4)] [] := by
  intro n
  induction n with
  | zero => intro _ _; exact wG_none
  | succ n ih =>
    intro x1_4 h_5
    refine wG_of (L_X12_takeBack_22.eq_2 ..) ?_
    refine wG_iload_n C dX12_takeBack_22 1 rfl ?_
    refine wG_bipush C dX12_takeBack_23 (v := 24) (by decide) ?_
    refine wG_icmp_ge C dX12_takeBack_25 ?_ ?_
    · exact wG_exit (fun Q e => gQ_lv [] rfl e)
    · refine wG_iconst C dX12_takeBack_28 (v := 2) (by decide) ?_
      refine wG_bipush C dX12_takeBack_29 (v := 11) (by decide) ?_
      refine wG_iload_n C dX12_takeBack_31 1 rfl ?_
      refine wG_imul C dX12_takeBack_32 ?_
      refine wG_iadd C dX12_takeBack_33 ?_
      refine wG_nmI (fun x2_7 => ?_)
      refine wG_istore_n C (L' := [(0, .ref (xB X + 111)), (1, .int x1_4), (2, .int x2_7)]) dX12_takeBack_34 (by decide) [1, 2, 0] rfl ?_
      refine wG_aload_n C dX12_takeBack_35 0 rfl ?_
      refine wG_getR C fl_X12_32_8 rfl kd_111 (wll hN (by decide)) (rf_111_10 q) dX12_takeBack_36 ?_
      refine wG_iload_n C dX12_takeBack_39 1 rfl ?_
      refine wG_aload_n C dX12_takeBack_40 0 rfl ?_
      refine wG_getR C fl_X12_56_8 rfl kd_111 (wll hN (by decide)) (rf_111_19 q) dX12_takeBack_41 ?_
      refine wG_iload_n C dX12_takeBack_44 2 rfl ?_
      refine wG_iald C kd_123 (wll hN (by decide)) ln_123 dX12_takeBack_45 ?_
      refine wG_iast C kd_115 (wll hN (by decide)) ln_115 dX12_takeBack_46 (fun h_8 => ?_)
      refine wG_aload_n C dX12_takeBack_47 0 rfl ?_
      refine wG_getR C fl_X12_35_8 rfl kd_111 (wll hN (by decide)) (rf_111_11 q) dX12_takeBack_48 ?_
      refine wG_iload_n C dX12_takeBack_51 1 rfl ?_
      refine wG_aload_n C dX12_takeBack_52 0 rfl ?_
      refine wG_getR C fl_X12_56_8 rfl kd_111 (wll hN (by decide)) (rf_111_19 q) dX12_takeBack_53 ?_
      refine wG_iload_n C dX12_takeBack_56 2 rfl ?_
      refine wG_iconst C dX12_takeBack_57 (v := 1) (by decide) ?_
      refine wG_iadd C dX12_takeBack_58 ?_
      refine wG_iald C kd_123 (wll hN (by decide)) ln_123 dX12_takeBack_59 ?_
      refine wG_iast C kd_116 (wll hN (by decide)) ln_116 dX12_takeBack_60 (fun h_9 => ?_)
      refine wG_aload_n C dX12_takeBack_61 0 rfl ?_
      refine wG_getR C fl_X12_38_8 rfl kd_111 (wll hN (by decide)) (rf_111_12 q) dX12_takeBack_62 ?_
      refine wG_iload_n C dX12_takeBack_65 1 rfl ?_
      refine wG_aload_n C dX12_takeBack_66 0 rfl ?_
      refine wG_getR C fl_X12_56_8 rfl kd_111 (wll hN (by decide)) (rf_111_19 q) dX12_takeBack_67 ?_
      refine wG_iload_n C dX12_takeBack_70 2 rfl ?_
      refine wG_iconst C dX12_takeBack_71 (v := 2) (by decide) ?_
      refine wG_iadd C dX12_takeBack_72 ?_
      refine wG_iald C kd_123 (wll hN (by decide)) ln_123 dX12_takeBack_73 ?_
      refine wG_iast C kd_117 (wll hN (by decide)) ln_117 dX12_takeBack_74 (fun h_10 => ?_)
      refine wG_aload_n C dX12_takeBack_75 0 rfl ?_
      refine wG_getR C fl_X12_41_8 rfl kd_111 (wll hN (by decide)) (rf_111_13 q) dX12_takeBack_76 ?_
      refine wG_iload_n C dX12_takeBack_79 1 rfl ?_
      refine wG_aload_n C dX12_takeBack_80 0 rfl ?_
      refine wG_getR C fl_X12_56_8 rfl kd_111 (wll hN (by decide)) (rf_111_19 q) dX12_takeBack_81 ?_
      refine wG_iload_n C dX12_takeBack_84 2 rfl ?_
      refine wG_iconst C dX12_takeBack_85 (v := 3) (by decide) ?_
      refine wG_iadd C dX12_takeBack_86 ?_
      refine wG_iald C kd_123 (wll hN (by decide)) ln_123 dX12_takeBack_87 ?_
      refine wG_iast C kd_118 (wll hN (by decide)) ln_118 dX12_takeBack_88 (fun h_11 => ?_)
      refine wG_aload_n C dX12_takeBack_89 0 rfl ?_
      refine wG_getR C fl_X12_44_8 rfl kd_111 (wll hN (by decide)) (rf_111_14 q) dX12_takeBack_90 ?_
      refine wG_iload_n C dX12_takeBack_93 1 rfl ?_
      refine wG_aload_n C dX12_takeBack_94 0 rfl ?_
      refine wG_getR C fl_X12_56_8 rfl kd_111 (wll hN (by decide)) (rf_111_19 q) dX12_takeBack_95 ?_
      refine wG_iload_n C dX12_takeBack_98 2 rfl ?_
      refine wG_iconst C dX12_takeBack_99 (v := 4) (by decide) ?_
      refine wG_iadd C dX12_takeBack_100 ?_
      refine wG_iald C kd_123 (wll hN (by decide)) ln_123 dX12_takeBack_101 ?_
      refine wG_iast C kd_119 (wll hN (by decide)) ln_119 dX12_takeBack_102 (fun h_12 => ?_)
      refine wG_aload_n C dX12_takeBack_103 0 rfl ?_
      refine wG_getR C fl_X12_47_8 rfl kd_111 (wll hN (by decide)) (rf_111_15 q) dX12_takeBack_104 ?_
      refine wG_iload_n C dX12_takeBack_107 1 rfl ?_
      refine wG_aload_n C dX12_takeBack_108 0 rfl ?_
      refine wG_getR C fl_X12_56_8 rfl kd_111 (wll hN (by decide)) (rf_111_19 q) dX12_takeBack_109 ?_
      refine wG_iload_n C dX12_takeBack_112 2 rfl ?_
      refine wG_iconst C dX12_takeBack_113 (v := 5) (by decide) ?_
      refine wG_iadd C dX12_takeBack_114 ?_
      refine wG_iald C kd_123 (wll hN (by decide)) ln_123 dX12_takeBack_115 ?_
      refine wG_iast C kd_120 (wll hN (by decide)) ln_120 dX12_takeBack_116 (fun h_13 => ?_)
      refine wG_aload_n C dX12_takeBack_117 0 rfl ?_
      refine wG_getR C fl_X12_50_8 rfl kd_111 (wll hN (by decide)) (rf_111_16 q) dX12_takeBack_118 ?_
      refine wG_iload_n C dX12_takeBack_121 1 rfl ?_
      refine wG_aload_n C dX12_takeBack_122 0 rfl ?_
      refine wG_getR C fl_X12_56_8 rfl kd_111 (wll hN (by decide)) (rf_111_19 q) dX12_takeBack_123 ?_
      refine wG_iload_n C dX12_takeBack_126 2 rfl ?_
      refine wG_bipush C dX12_takeBack_127 (v := 6) (by decide) ?_
      refine wG_iadd C dX12_takeBack_129 ?_
      refine wG_iald C kd_123 (wll hN (by decide)) ln_123 dX12_takeBack_130 ?_
      refine wG_iast C kd_121 (wll hN (by decide)) ln_121 dX12_takeBack_131 (fun h_14 => ?_)
      refine wG_iconst C dX12_takeBack_132 (v := 0) (by decide) ?_
      refine wG_nmI (fun x3_15 => ?_)
      refine wG_istore_n C (L' := [(0, .ref (xB X + 111)), (1, .int x1_4), (2, .int x2_7), (3, .int x3_15)]) dX12_takeBack_133 (by decide) [1, 2, 3, 0] rfl ?_
      refine wG_lv (L' := [(0, .ref (xB X + 111)), (1, .int x1_4), (2, .int x2_7), (3, .int x3_15)]) [0, 1, 2, 3] rfl ?_
      refine wG_bind (wL_X12_takeBack_134 C hN h h_1 h_2 x1_3 x1_4 h_5 x2_7 h_8 h_9 h_10 h_11 h_12 h_13 h_14 x3_15 FU x3_15 h_14) (fun t_18 => (?_ : wG X 4 _ _ N t_18 (rq q) 0 0 166 [(0, .ref (xB X + 111)), (1, .int x1_4)] []))
      refine wG_iinc C (v := 1) (LL := fun x1_21 => [(0, .ref (xB X + 111)), (1, .int x1_21)]) dX12_takeBack_166 1 rfl (by decide) (by decide) [1, 0] (fun _ => rfl) (fun x1_21 => ?_)
      refine wG_goto C dX12_takeBack_169 ?_
      exact wG_lv [0, 1] rfl (ih x1_21 t_18)
set_option maxRecDepth 4000 in
theorem w_X12_takeBack {X : wX} (C : Cx X yX12_takeBack cX12_takeBack 4 none rm_X12_takeBack) {N : Nat} {q : Qp} (hN : 137 ≤ N) (h : Hp) : wG X 4 (eM X (fun u => (none, N, u, (rq q)))) (f_X12_takeBack h) N h (rq q) 0 0 0 [(0, .ref (xB X + 111))] [] := by
  refine wG_of (f_X12_takeBack.eq_1 ..) ?_
  refine wG_aload_n C dX12_takeBack_0 0 rfl ?_
  refine wG_aload_n C dX12_takeBack_1 0 rfl ?_
  refine wG_getR C fl_X12_56_8 rfl kd_111 (wll hN (by decide)) (rf_111_19 q) dX12_takeBack_2 ?_
  refine wG_iconst C dX12_takeBack_5 (v := 0) (by decide) ?_
  refine wG_iald C kd_123 (wll hN (by decide)) ln_123 dX12_takeBack_6 ?_
  refine wG_putI C fl_X12_29_8 (fp_8_9 _) (fun e => Bool.noConfusion e) rfl kd_111 (wll hN (by decide)) dX12_takeBack_7 (fun h_1 => ?_)
  refine wG_aload_n C dX12_takeBack_10 0 rfl ?_
  refine wG_aload_n C dX12_takeBack_11 0 rfl ?_
  refine wG_getR C fl_X12_56_8 rfl kd_111 (wll hN (by decide)) (rf_111_19 q) dX12_takeBack_12 ?_
  refine wG_iconst C dX12_takeBack_15 (v := 1) (by decide) ?_
  refine wG_iald C kd_123 (wll hN (by decide)) ln_123 dX12_takeBack_16 ?_
  refine wG_putI C fl_X12_134_8 (fp_8_18 _) (fun e => Bool.noConfusion e) rfl kd_111 (wll hN (by decide)) dX12_takeBack_17 (fun h_2 => ?_)
  refine wG_iconst C dX12_takeBack_20 (v := 0) (by decide) ?_
  refine wG_nmI (fun x1_3 => ?_)
  refine wG_istore_n C (L' := [(0, .ref (xB X + 111)), (1, .int x1_3)]) dX12_takeBack_21 (by decide) [1, 0] rfl ?_
  refine wG_lv (L' := [(0, .ref (xB X + 111)), (1, .int x1_3)]) [0, 1] rfl ?_
  refine wG_bind (wL_X12_takeBack_22 C hN h h_1 h_2 x1_3 FU x1_3 h_2) (fun t_6 => (?_ : wG X 4 _ _ N t_6 (rq q) 0 0 172 [] []))
  exact wG_vret C dX12_takeBack_172 ⟨by decide, by decide⟩ (fun _ e => e)
theorem c_X12_takeBack (l : Launch) (E : wE) (N : Nat) (q : Qp) (hN : 137 ≤ N) (h : Hp) : ∀ z, f_X12_takeBack h = some z → CT l E yX12_takeBack cX12_takeBack 4 none rm_X12_takeBack [.ref (eB E + 111)] N h (rq q) ((fun u => (none, N, u, (rq q))) z) := CT.of (by decide +kernel) (Nat.le_of_ble_eq_true rfl) (fun X _ e C => by subst e; exact w_X12_takeBack C hN h)
def rm_X12_findTwo : Room := { frames := 6, cells := 0, slots := 0, locals := 164 }
def L_X12_findTwo_19 (x1 : Int32) (x2 : Int32) (x3 : Int32) (x4 : Int32) (x5 : Int32) : Nat → Int32 → Hp → Option Hp
  | 0, _, _ => none
  | n + 1, x6_5, h_6 =>
    if inB 0 266 then
    (if (h_6 123 (ix 0)) ≤ x6_5 then
    some h_6
    else
    (f_X12_isServed h_6 x6_5 x1 x2 x5).bind fun u_8 =>
    ((if u_8 = 0 then
    some h_6
    else
    if inB x6_5 24 then vB (u2 h_6 119 (ix x6_5) 1) fun h_10 =>
    (f_X12_second h_10 x3 x4 x5).bind fun u_11 =>
    (f_X12_keepTwo u_11.2 u_11.1 x6_5).bind fun u_12 =>
    (f_X12_takeBack u_12).bind fun u_13 =>
    some u_13 else none)).bind fun t_9 =>
    vB (x6_5 + 1) fun (x6_14 : Int32) =>
    L_X12_findTwo_19 x1 x2 x3 x4 x5 n x6_14 t_9) else none
def L_X12_findTwo_151 (x1 : Int32) (x2 : Int32) (x3 : Int32) (x4 : Int32) (x5 : Int32) (x6_16 : Int32) (x7_20 : Int32) (x8_24 : Int32) : Nat → Int32 → Hp → Option Hp
  | 0, _, _ => none
  | n + 1, x9_29, h_30 =>
    (if (2 : Int32) ≤ x9_29 then
    some h_30
    else
    ((if x7_20 = 0 then
    some 1
    else
    some 0)).bind fun t_32 =>
    ((if x9_29 = 1 then
    some 1
    else
    some 0)).bind fun t_33 =>
    (f_X12_isPart h_30 x6_16 t_32 x8_24 t_33 x1 x2 x5).bind fun u_34 =>
    ((if u_34.1 = 0 then
    some u_34.2
    else
    ((if x7_20 = 0 then
    if inB x6_16 24 then
    some (u_34.2 118 (ix x6_16)) else none
    else
    if inB x6_16 24 then
    some (u_34.2 117 (ix x6_16)) else none)).bind fun t_36 =>
    vB t_36 fun (x10_37 : Int32) =>
    vB ((((1000 * x6_16) + (100 * x7_20)) + (10 * x8_24)) + x9_29) fun (x11_38 : Int32) =>
    (f_X12_make u_34.2 x11_38).bind fun u_39 =>
    (f_X12_second u_39.2 x3 x4 x5).bind fun u_40 =>
    (f_X12_keepTwo u_40.2 (x10_37 + u_40.1) (100000 + x11_38)).bind fun u_41 =>
    (f_X12_takeBack u_41).bind fun u_42 =>
    some u_42)).bind fun t_35 =>
    vB (x9_29 + 1) fun (x9_43 : Int32) =>
    L_X12_findTwo_151 x1 x2 x3 x4 x5 x6_16 x7_20 x8_24 n x9_43 t_35)
def L_X12_findTwo_111 (x1 : Int32) (x2 : Int32) (x3 : Int32) (x4 : Int32) (x5 : Int32) (x6_16 : Int32) (x7_20 : Int32) : Nat → Int32 → Hp → Option Hp
  | 0, _, _ => none
  | n + 1, x8_24, h_25 =>
    if inB x6_16 24 then
    (if (h_25 119 (ix x6_16)) = 0 then
    ((if x7_20 = 0 then
    if inB x6_16 24 then
    some (h_25 117 (ix x6_16)) else none
    else
    if inB x6_16 24 then
    some (h_25 118 (ix x6_16)) else none)).bind fun t_27 =>
    (if t_27 ≤ x8_24 then
    some h_25
    else
    vB 0 fun (x9_28 : Int32) =>
    (L_X12_findTwo_151 x1 x2 x3 x4 x5 x6_16 x7_20 x8_24 FU x9_28 h_25).bind fun t_31 =>
    vB (x8_24 + 1) fun (x8_44 : Int32) =>
    L_X12_findTwo_111 x1 x2 x3 x4 x5 x6_16 x7_20 n x8_44 t_31)
    else
    some h_25) else none
def L_X12_findTwo_102 (x1 : Int32) (x2 : Int32) (x3 : Int32) (x4 : Int32) (x5 : Int32) (x6_16 : Int32) : Nat → Int32 → Hp → Option Hp
  | 0, _, _ => none
  | n + 1, x7_20, h_21 =>
    (if (2 : Int32) ≤ x7_20 then
    some h_21
    else
    vB 1 fun (x8_23 : Int32) =>
    (L_X12_findTwo_111 x1 x2 x3 x4 x5 x6_16 x7_20 FU x8_23 h_21).bind fun t_26 =>
    vB (x7_20 + 1) fun (x7_45 : Int32) =>
    L_X12_findTwo_102 x1 x2 x3 x4 x5 x6_16 n x7_45 t_26)
def L_X12_findTwo_79 (x1 : Int32) (x2 : Int32) (x3 : Int32) (x4 : Int32) (x5 : Int32) : Nat → Int32 → Hp → Option Hp
  | 0, _, _ => none
  | n + 1, x6_16, h_17 =>
    if inB 0 266 then
    (if (h_17 123 (ix 0)) ≤ x6_16 then
    some h_17
    else
    (if (24 : Int32) ≤ (h_17 111 9) then
    some h_17
    else
    vB 0 fun (x7_19 : Int32) =>
    (L_X12_findTwo_102 x1 x2 x3 x4 x5 x6_16 FU x7_19 h_17).bind fun t_22 =>
    vB (x6_16 + 1) fun (x6_46 : Int32) =>
    L_X12_findTwo_79 x1 x2 x3 x4 x5 n x6_46 t_22)) else none
def f_X12_findTwo (h : Hp) (x1 : Int32) (x2 : Int32) (x3 : Int32) (x4 : Int32) (x5 : Int32) : Option Hp :=
  vB (u2 h 111 45 1000000) fun h_1 =>
  vB (u2 h_1 111 46 (-9)) fun h_2 =>
  (f_X12_putAside h_2).bind fun u_3 =>
  vB 0 fun (x6_4 : Int32) =>
  (L_X12_findTwo_19 x1 x2 x3 x4 x5 FU x6_4 u_3).bind fun t_7 =>
  vB 0 fun (x6_15 : Int32) =>
  (L_X12_findTwo_79 x1 x2 x3 x4 x5 FU x6_15 t_7).bind fun t_18 =>
  some t_18
set_option maxRecDepth 4000 in
theorem wL_X12_findTwo_19 {X : wX} (C : Cx X yX12_findTwo cX12_findTwo 12 none rm_X12_findTwo) {N : Nat} {q : Qp} (hN : 137 ≤ N) (h : Hp) (x1 : Int32) (x2 : Int32) (x3 : Int32) (x4 : Int32) (x5 : Int32) (h_1 : Hp) (h_2 : Hp) (u_3 : Hp) (x6_4 : Int32) : ∀ n x6_5 h_6, wG X 12 (fun (t_7 : Hp) Q => gQ X 12 Q N t_7 (rq q) 0 0 76 [(0, .ref (xB X + 111)), (1, .int x1), (2, .int x2), (3, .int x3), (4, .int x4), (5, .int x5)] []) (L_X12_findTwo_19 x1 x2 x3 x4 x5 n x6_5 h_6) N h_6 (rq q) 0 0 19 [(0, .ref (xB X + 111)), (1, .int x1), (2, .int x2), (3, .int x3), (4, .int x4), (5, .int x5), (6, .int x6_5)] [] := by
  intro n
  induction n with
  | zero => intro _ _; exact wG_none
  | succ n ih =>
    intro x6_5 h_6
    refine wG_of (L_X12_findTwo_19.eq_2 ..) ?_
    refine wG_iload C dX12_findTwo_19 6 rfl ?_
    refine wG_aload_n C dX12_findTwo_21 0 rfl ?_
    refine wG_getR C fl_X12_56_8 rfl kd_111 (wll hN (by decide)) (rf_111_19 q) dX12_findTwo_22 ?_
    refine wG_iconst C dX12_findTwo_25 (v := 0) (by decide) ?_
    refine wG_iald C kd_123 (wll hN (by decide)) ln_123 dX12_findTwo_26 ?_
    refine wG_icmp_ge C dX12_findTwo_27 ?_ ?_
    · exact wG_exit (fun Q e => gQ_lv [0, 1, 2, 3, 4, 5] rfl e)
    · refine wG_aload_n C dX12_findTwo_30 0 rfl ?_
      refine wG_iload C dX12_findTwo_31 6 rfl ?_
      refine wG_iload_n C dX12_findTwo_33 1 rfl ?_
      refine wG_iload_n C dX12_findTwo_34 2 rfl ?_
      refine wG_iload C dX12_findTwo_35 5 rfl ?_
      refine wG_cV_ri [.int x6_5, .int x1, .int x2, .int x5] [] C vw_X12_208 (c_X12_isServed (xl X) (xE X) N q hN h_6 x6_5 x1 x2 x5) kd_111 (wll hN (by decide)) (by decide) rfl rfl (Nat.le_of_ble_eq_true rfl) dX12_findTwo_37 (cl' := 0) (sl' := 0) rfl rfl (fun u_8 => ?_)
      refine wG_bind (J := (fun (t_9 : Hp) Q => gQ X 12 Q N t_9 (rq q) 0 0 70 [(0, .ref (xB X + 111)), (1, .int x1), (2, .int x2), (3, .int x3), (4, .int x4), (5, .int x5), (6, .int x6_5)] [])) ?_ (fun t_9 => (?_ : wG X 12 _ _ N t_9 (rq q) 0 0 70 [(0, .ref (xB X + 111)), (1, .int x1), (2, .int x2), (3, .int x3), (4, .int x4), (5, .int x5), (6, .int x6_5)] []))
      · refine wG_if_eq C dX12_findTwo_40 ?_ ?_
        · exact wG_exit (fun Q e => gQ_lv [0, 1, 2, 3, 4, 5, 6] rfl e)
        · refine wG_aload_n C dX12_findTwo_43 0 rfl ?_
          refine wG_getR C fl_X12_44_8 rfl kd_111 (wll hN (by decide)) (rf_111_14 q) dX12_findTwo_44 ?_
          refine wG_iload C dX12_findTwo_47 6 rfl ?_
          refine wG_iconst C dX12_findTwo_49 (v := 1) (by decide) ?_
          refine wG_iast C kd_119 (wll hN (by decide)) ln_119 dX12_findTwo_50 (fun h_10 => ?_)
          refine wG_aload_n C dX12_findTwo_51 0 rfl ?_
          refine wG_aload_n C dX12_findTwo_52 0 rfl ?_
          refine wG_iload_n C dX12_findTwo_53 3 rfl ?_
          refine wG_iload C dX12_findTwo_54 4 rfl ?_
          refine wG_iload C dX12_findTwo_56 5 rfl ?_
          refine wG_cV_wi [.int x3, .int x4, .int x5] [.ref (xB X + 111)] C vw_X12_247 (c_X12_second (xl X) (xE X) N q hN h_10 x3 x4 x5) kd_111 (wll hN (by decide)) (by decide) rfl rfl (Nat.le_of_ble_eq_true rfl) dX12_findTwo_58 (cl' := 0) (sl' := 0) rfl rfl (fun u_11 => ?_)
          refine wG_iload C dX12_findTwo_61 6 rfl ?_
          refine wG_cV_wv [.int u_11.1, .int x6_5] [] C vw_X12_250 (c_X12_keepTwo (xl X) (xE X) N q hN u_11.2 u_11.1 x6_5) kd_111 (wll hN (by decide)) (by decide) rfl rfl (Nat.le_of_ble_eq_true rfl) dX12_findTwo_63 (cl' := 0) (sl' := 0) rfl rfl (fun u_12 => ?_)
          refine wG_aload_n C dX12_findTwo_66 0 rfl ?_
          refine wG_cV_wv [] [] C vw_X12_254 (c_X12_takeBack (xl X) (xE X) N q hN u_12) kd_111 (wll hN (by decide)) (by decide) rfl rfl (Nat.le_of_ble_eq_true rfl) dX12_findTwo_67 (cl' := 0) (sl' := 0) rfl rfl (fun u_13 => ?_)
          exact wG_exit (fun Q e => gQ_lv [0, 1, 2, 3, 4, 5, 6] rfl e)
      · refine wG_iinc C (v := 1) (LL := fun x6_14 => [(0, .ref (xB X + 111)), (1, .int x1), (2, .int x2), (3, .int x3), (4, .int x4), (5, .int x5), (6, .int x6_14)]) dX12_findTwo_70 6 rfl (by decide) (by decide) [1, 2, 3, 4, 5, 6, 0] (fun _ => rfl) (fun x6_14 => ?_)
        refine wG_goto C dX12_findTwo_73 ?_
        exact wG_lv [0, 1, 2, 3, 4, 5, 6] rfl (ih x6_14 t_9)
set_option maxRecDepth 4000 in
theorem wL_X12_findTwo_151 {X : wX} (C : Cx X yX12_findTwo cX12_findTwo 12 none rm_X12_findTwo) {N : Nat} {q : Qp} (hN : 137 ≤ N) (h : Hp) (x1 : Int32) (x2 : Int32) (x3 : Int32) (x4 : Int32) (x5 : Int32) (h_1 : Hp) (h_2 : Hp) (u_3 : Hp) (x6_4 : Int32) (t_7 : Hp) (x6_15 : Int32) (x6_16 : Int32) (h_17 : Hp) (x7_19 : Int32) (x7_20 : Int32) (h_21 : Hp) (x8_23 : Int32) (x8_24 : Int32) (h_25 : Hp) (t_27 : Int32) (x9_28 : Int32) : ∀ n x9_29 h_30, wG X 12 (fun (t_31 : Hp) Q => gQ X 12 Q N t_31 (rq q) 0 0 279 [(0, .ref (xB X + 111)), (1, .int x1), (2, .int x2), (3, .int x3), (4, .int x4), (5, .int x5), (6, .int x6_16), (7, .int x7_20), (8, .int x8_24)] []) (L_X12_findTwo_151 x1 x2 x3 x4 x5 x6_16 x7_20 x8_24 n x9_29 h_30) N h_30 (rq q) 0 0 151 [(0, .ref (xB X + 111)), (1, .int x1), (2, .int x2), (3, .int x3), (4, .int x4), (5, .int x5), (6, .int x6_16), (7, .int x7_20), (8, .int x8_24), (9, .int x9_29)] [] := by
  intro n
  induction n with
  | zero => intro _ _; exact wG_none
  | succ n ih =>
    intro x9_29 h_30
    refine wG_of (L_X12_findTwo_151.eq_2 ..) ?_
    refine wG_iload C dX12_findTwo_151 9 rfl ?_
    refine wG_iconst C dX12_findTwo_153 (v := 2) (by decide) ?_
    refine wG_icmp_ge C dX12_findTwo_154 ?_ ?_
    · exact wG_exit (fun Q e => gQ_lv [0, 1, 2, 3, 4, 5, 6, 7, 8] rfl e)
    · refine wG_aload_n C dX12_findTwo_157 0 rfl ?_
      refine wG_iload C dX12_findTwo_158 6 rfl ?_
      refine wG_iload C dX12_findTwo_160 7 rfl ?_
      refine wG_bind (J := (fun (t_32 : Int32) Q => gQ X 12 Q N h_30 (rq q) 0 0 170 [(0, .ref (xB X + 111)), (1, .int x1), (2, .int x2), (3, .int x3), (4, .int x4), (5, .int x5), (6, .int x6_16), (7, .int x7_20), (8, .int x8_24), (9, .int x9_29)] [.int t_32, .int x6_16, .ref (xB X + 111)])) ?_ (fun t_32 => (?_ : wG X 12 _ _ N h_30 (rq q) 0 0 170 [(0, .ref (xB X + 111)), (1, .int x1), (2, .int x2), (3, .int x3), (4, .int x4), (5, .int x5), (6, .int x6_16), (7, .int x7_20), (8, .int x8_24), (9, .int x9_29)] [.int t_32, .int x6_16, .ref (xB X + 111)]))
      · refine wG_if_ne C dX12_findTwo_162 ?_ ?_
        · refine wG_iconst C dX12_findTwo_165 (v := 1) (by decide) ?_
          refine wG_goto C dX12_findTwo_166 ?_
          exact wG_exit (fun Q e => gQ_lv [0, 1, 2, 3, 4, 5, 6, 7, 8, 9] rfl e)
        · refine wG_iconst C dX12_findTwo_169 (v := 0) (by decide) ?_
          exact wG_exit (fun Q e => gQ_lv [0, 1, 2, 3, 4, 5, 6, 7, 8, 9] rfl e)
      · refine wG_iload C dX12_findTwo_170 8 rfl ?_
        refine wG_iload C dX12_findTwo_172 9 rfl ?_
        refine wG_iconst C dX12_findTwo_174 (v := 1) (by decide) ?_
        refine wG_bind (J := (fun (t_33 : Int32) Q => gQ X 12 Q N h_30 (rq q) 0 0 183 [(0, .ref (xB X + 111)), (1, .int x1), (2, .int x2), (3, .int x3), (4, .int x4), (5, .int x5), (6, .int x6_16), (7, .int x7_20), (8, .int x8_24), (9, .int x9_29)] [.int t_33, .int x8_24, .int t_32, .int x6_16, .ref (xB X + 111)])) ?_ (fun t_33 => (?_ : wG X 12 _ _ N h_30 (rq q) 0 0 183 [(0, .ref (xB X + 111)), (1, .int x1), (2, .int x2), (3, .int x3), (4, .int x4), (5, .int x5), (6, .int x6_16), (7, .int x7_20), (8, .int x8_24), (9, .int x9_29)] [.int t_33, .int x8_24, .int t_32, .int x6_16, .ref (xB X + 111)]))
        · refine wG_icmp_ne C dX12_findTwo_175 ?_ ?_
          · refine wG_iconst C dX12_findTwo_178 (v := 1) (by decide) ?_
            refine wG_goto C dX12_findTwo_179 ?_
            exact wG_exit (fun Q e => gQ_lv [0, 1, 2, 3, 4, 5, 6, 7, 8, 9] rfl e)
          · refine wG_iconst C dX12_findTwo_182 (v := 0) (by decide) ?_
            exact wG_exit (fun Q e => gQ_lv [0, 1, 2, 3, 4, 5, 6, 7, 8, 9] rfl e)
        · refine wG_iload_n C dX12_findTwo_183 1 rfl ?_
          refine wG_iload_n C dX12_findTwo_184 2 rfl ?_
          refine wG_iload C dX12_findTwo_185 5 rfl ?_
          refine wG_cV_wi [.int x6_16, .int t_32, .int x8_24, .int t_33, .int x1, .int x2, .int x5] [] C vw_X12_227 (c_X12_isPart (xl X) (xE X) N q hN h_30 x6_16 t_32 x8_24 t_33 x1 x2 x5) kd_111 (wll hN (by decide)) (by decide) rfl rfl (Nat.le_of_ble_eq_true rfl) dX12_findTwo_187 (cl' := 0) (sl' := 0) rfl rfl (fun u_34 => ?_)
          refine wG_bind (J := (fun (t_35 : Hp) Q => gQ X 12 Q N t_35 (rq q) 0 0 273 [(0, .ref (xB X + 111)), (1, .int x1), (2, .int x2), (3, .int x3), (4, .int x4), (5, .int x5), (6, .int x6_16), (7, .int x7_20), (8, .int x8_24), (9, .int x9_29)] [])) ?_ (fun t_35 => (?_ : wG X 12 _ _ N t_35 (rq q) 0 0 273 [(0, .ref (xB X + 111)), (1, .int x1), (2, .int x2), (3, .int x3), (4, .int x4), (5, .int x5), (6, .int x6_16), (7, .int x7_20), (8, .int x8_24), (9, .int x9_29)] []))
          · refine wG_if_eq C dX12_findTwo_190 ?_ ?_
            · exact wG_exit (fun Q e => gQ_lv [0, 1, 2, 3, 4, 5, 6, 7, 8, 9] rfl e)
            · refine wG_iload C dX12_findTwo_193 7 rfl ?_
              refine wG_bind (J := (fun (t_36 : Int32) Q => gQ X 12 Q N u_34.2 (rq q) 0 0 215 [(0, .ref (xB X + 111)), (1, .int x1), (2, .int x2), (3, .int x3), (4, .int x4), (5, .int x5), (6, .int x6_16), (7, .int x7_20), (8, .int x8_24), (9, .int x9_29)] [.int t_36])) ?_ (fun t_36 => (?_ : wG X 12 _ _ N u_34.2 (rq q) 0 0 215 [(0, .ref (xB X + 111)), (1, .int x1), (2, .int x2), (3, .int x3), (4, .int x4), (5, .int x5), (6, .int x6_16), (7, .int x7_20), (8, .int x8_24), (9, .int x9_29)] [.int t_36]))
              · refine wG_if_ne C dX12_findTwo_195 ?_ ?_
                · refine wG_aload_n C dX12_findTwo_198 0 rfl ?_
                  refine wG_getR C fl_X12_41_8 rfl kd_111 (wll hN (by decide)) (rf_111_13 q) dX12_findTwo_199 ?_
                  refine wG_iload C dX12_findTwo_202 6 rfl ?_
                  refine wG_iald C kd_118 (wll hN (by decide)) ln_118 dX12_findTwo_204 ?_
                  refine wG_goto C dX12_findTwo_205 ?_
                  exact wG_exit (fun Q e => gQ_lv [0, 1, 2, 3, 4, 5, 6, 7, 8, 9] rfl e)
                · refine wG_aload_n C dX12_findTwo_208 0 rfl ?_
                  refine wG_getR C fl_X12_38_8 rfl kd_111 (wll hN (by decide)) (rf_111_12 q) dX12_findTwo_209 ?_
                  refine wG_iload C dX12_findTwo_212 6 rfl ?_
                  refine wG_iald C kd_117 (wll hN (by decide)) ln_117 dX12_findTwo_214 ?_
                  exact wG_exit (fun Q e => gQ_lv [0, 1, 2, 3, 4, 5, 6, 7, 8, 9] rfl e)
              · refine wG_nmI (fun x10_37 => ?_)
                refine wG_istore C (L' := [(0, .ref (xB X + 111)), (1, .int x1), (2, .int x2), (3, .int x3), (4, .int x4), (5, .int x5), (6, .int x6_16), (7, .int x7_20), (8, .int x8_24), (9, .int x9_29), (10, .int x10_37)]) dX12_findTwo_215 (by decide) [1, 2, 3, 4, 5, 6, 7, 8, 9, 10, 0] rfl ?_
                refine wG_sipush C dX12_findTwo_217 (v := 1000) (by decide) ?_
                refine wG_iload C dX12_findTwo_220 6 rfl ?_
                refine wG_imul C dX12_findTwo_222 ?_
                refine wG_bipush C dX12_findTwo_223 (v := 100) (by decide) ?_
                refine wG_iload C dX12_findTwo_225 7 rfl ?_
                refine wG_imul C dX12_findTwo_227 ?_
                refine wG_iadd C dX12_findTwo_228 ?_
                refine wG_bipush C dX12_findTwo_229 (v := 10) (by decide) ?_
                refine wG_iload C dX12_findTwo_231 8 rfl ?_
                refine wG_imul C dX12_findTwo_233 ?_
                refine wG_iadd C dX12_findTwo_234 ?_
                refine wG_iload C dX12_findTwo_235 9 rfl ?_
                refine wG_iadd C dX12_findTwo_237 ?_
                refine wG_nmI (fun x11_38 => ?_)
                refine wG_istore C (L' := [(0, .ref (xB X + 111)), (1, .int x1), (2, .int x2), (3, .int x3), (4, .int x4), (5, .int x5), (6, .int x6_16), (7, .int x7_20), (8, .int x8_24), (9, .int x9_29), (10, .int x10_37), (11, .int x11_38)]) dX12_findTwo_238 (by decide) [1, 2, 3, 4, 5, 6, 7, 8, 9, 10, 11, 0] rfl ?_
                refine wG_aload_n C dX12_findTwo_240 0 rfl ?_
                refine wG_iload C dX12_findTwo_241 11 rfl ?_
                refine wG_cV_wi [.int x11_38] [] C vw_X12_235 (c_X12_make (xl X) (xE X) N q hN u_34.2 x11_38) kd_111 (wll hN (by decide)) (by decide) rfl rfl (Nat.le_of_ble_eq_true rfl) dX12_findTwo_243 (cl' := 0) (sl' := 0) rfl rfl (fun u_39 => ?_)
                refine wG_pop C dX12_findTwo_246 rfl ?_
                refine wG_aload_n C dX12_findTwo_247 0 rfl ?_
                refine wG_iload C dX12_findTwo_248 10 rfl ?_
                refine wG_aload_n C dX12_findTwo_250 0 rfl ?_
                refine wG_iload_n C dX12_findTwo_251 3 rfl ?_
                refine wG_iload C dX12_findTwo_252 4 rfl ?_
                refine wG_iload C dX12_findTwo_254 5 rfl ?_
                refine wG_cV_wi [.int x3, .int x4, .int x5] [.int x10_37, .ref (xB X + 111)] C vw_X12_247 (c_X12_second (xl X) (xE X) N q hN u_39.2 x3 x4 x5) kd_111 (wll hN (by decide)) (by decide) rfl rfl (Nat.le_of_ble_eq_true rfl) dX12_findTwo_256 (cl' := 0) (sl' := 0) rfl rfl (fun u_40 => ?_)
                refine wG_iadd C dX12_findTwo_259 ?_
                refine wG_ldcw C dX12_findTwo_260 m_1333 ?_
                refine wG_iload C dX12_findTwo_263 11 rfl ?_
                refine wG_iadd C dX12_findTwo_265 ?_
                refine wG_cV_wv [.int (x10_37 + u_40.1), .int (100000 + x11_38)] [] C vw_X12_250 (c_X12_keepTwo (xl X) (xE X) N q hN u_40.2 (x10_37 + u_40.1) (100000 + x11_38)) kd_111 (wll hN (by decide)) (by decide) rfl rfl (Nat.le_of_ble_eq_true rfl) dX12_findTwo_266 (cl' := 0) (sl' := 0) rfl rfl (fun u_41 => ?_)
                refine wG_aload_n C dX12_findTwo_269 0 rfl ?_
                refine wG_cV_wv [] [] C vw_X12_254 (c_X12_takeBack (xl X) (xE X) N q hN u_41) kd_111 (wll hN (by decide)) (by decide) rfl rfl (Nat.le_of_ble_eq_true rfl) dX12_findTwo_270 (cl' := 0) (sl' := 0) rfl rfl (fun u_42 => ?_)
                exact wG_exit (fun Q e => gQ_lv [0, 1, 2, 3, 4, 5, 6, 7, 8, 9] rfl e)
          · refine wG_iinc C (v := 1) (LL := fun x9_43 => [(0, .ref (xB X + 111)), (1, .int x1), (2, .int x2), (3, .int x3), (4, .int x4), (5, .int x5), (6, .int x6_16), (7, .int x7_20), (8, .int x8_24), (9, .int x9_43)]) dX12_findTwo_273 9 rfl (by decide) (by decide) [1, 2, 3, 4, 5, 6, 7, 8, 9, 0] (fun _ => rfl) (fun x9_43 => ?_)
            refine wG_goto C dX12_findTwo_276 ?_
            exact wG_lv [0, 1, 2, 3, 4, 5, 6, 7, 8, 9] rfl (ih x9_43 t_35)
set_option maxRecDepth 4000 in
theorem wL_X12_findTwo_111 {X : wX} (C : Cx X yX12_findTwo cX12_findTwo 12 none rm_X12_findTwo) {N : Nat} {q : Qp} (hN : 137 ≤ N) (h : Hp) (x1 : Int32) (x2 : Int32) (x3 : Int32) (x4 : Int32) (x5 : Int32) (h_1 : Hp) (h_2 : Hp) (u_3 : Hp) (x6_4 : Int32) (t_7 : Hp) (x6_15 : Int32) (x6_16 : Int32) (h_17 : Hp) (x7_19 : Int32) (x7_20 : Int32) (h_21 : Hp) (x8_23 : Int32) : ∀ n x8_24 h_25, wG X 12 (fun (t_26 : Hp) Q => gQ X 12 Q N t_26 (rq q) 0 0 285 [(0, .ref (xB X + 111)), (1, .int x1), (2, .int x2), (3, .int x3), (4, .int x4), (5, .int x5), (6, .int x6_16), (7, .int x7_20)] []) (L_X12_findTwo_111 x1 x2 x3 x4 x5 x6_16 x7_20 n x8_24 h_25) N h_25 (rq q) 0 0 111 [(0, .ref (xB X + 111)), (1, .int x1), (2, .int x2), (3, .int x3), (4, .int x4), (5, .int x5), (6, .int x6_16), (7, .int x7_20), (8, .int x8_24)] [] := by
  intro n
  induction n with
  | zero => intro _ _; exact wG_none
  | succ n ih =>
    intro x8_24 h_25
    refine wG_of (L_X12_findTwo_111.eq_2 ..) ?_
    refine wG_aload_n C dX12_findTwo_111 0 rfl ?_
    refine wG_getR C fl_X12_44_8 rfl kd_111 (wll hN (by decide)) (rf_111_14 q) dX12_findTwo_112 ?_
    refine wG_iload C dX12_findTwo_115 6 rfl ?_
    refine wG_iald C kd_119 (wll hN (by decide)) ln_119 dX12_findTwo_117 ?_
    refine wG_if_ne C dX12_findTwo_118 ?_ ?_
    · refine wG_iload C dX12_findTwo_121 8 rfl ?_
      refine wG_iload C dX12_findTwo_123 7 rfl ?_
      refine wG_bind (J := (fun (t_27 : Int32) Q => gQ X 12 Q N h_25 (rq q) 0 0 145 [(0, .ref (xB X + 111)), (1, .int x1), (2, .int x2), (3, .int x3), (4, .int x4), (5, .int x5), (6, .int x6_16), (7, .int x7_20), (8, .int x8_24)] [.int t_27, .int x8_24])) ?_ (fun t_27 => (?_ : wG X 12 _ _ N h_25 (rq q) 0 0 145 [(0, .ref (xB X + 111)), (1, .int x1), (2, .int x2), (3, .int x3), (4, .int x4), (5, .int x5), (6, .int x6_16), (7, .int x7_20), (8, .int x8_24)] [.int t_27, .int x8_24]))
      · refine wG_if_ne C dX12_findTwo_125 ?_ ?_
        · refine wG_aload_n C dX12_findTwo_128 0 rfl ?_
          refine wG_getR C fl_X12_38_8 rfl kd_111 (wll hN (by decide)) (rf_111_12 q) dX12_findTwo_129 ?_
          refine wG_iload C dX12_findTwo_132 6 rfl ?_
          refine wG_iald C kd_117 (wll hN (by decide)) ln_117 dX12_findTwo_134 ?_
          refine wG_goto C dX12_findTwo_135 ?_
          exact wG_exit (fun Q e => gQ_lv [0, 1, 2, 3, 4, 5, 6, 7, 8] rfl e)
        · refine wG_aload_n C dX12_findTwo_138 0 rfl ?_
          refine wG_getR C fl_X12_41_8 rfl kd_111 (wll hN (by decide)) (rf_111_13 q) dX12_findTwo_139 ?_
          refine wG_iload C dX12_findTwo_142 6 rfl ?_
          refine wG_iald C kd_118 (wll hN (by decide)) ln_118 dX12_findTwo_144 ?_
          exact wG_exit (fun Q e => gQ_lv [0, 1, 2, 3, 4, 5, 6, 7, 8] rfl e)
      · refine wG_icmp_ge C dX12_findTwo_145 ?_ ?_
        · exact wG_exit (fun Q e => gQ_lv [0, 1, 2, 3, 4, 5, 6, 7] rfl e)
        · refine wG_iconst C dX12_findTwo_148 (v := 0) (by decide) ?_
          refine wG_nmI (fun x9_28 => ?_)
          refine wG_istore C (L' := [(0, .ref (xB X + 111)), (1, .int x1), (2, .int x2), (3, .int x3), (4, .int x4), (5, .int x5), (6, .int x6_16), (7, .int x7_20), (8, .int x8_24), (9, .int x9_28)]) dX12_findTwo_149 (by decide) [1, 2, 3, 4, 5, 6, 7, 8, 9, 0] rfl ?_
          refine wG_lv (L' := [(0, .ref (xB X + 111)), (1, .int x1), (2, .int x2), (3, .int x3), (4, .int x4), (5, .int x5), (6, .int x6_16), (7, .int x7_20), (8, .int x8_24), (9, .int x9_28)]) [0, 1, 2, 3, 4, 5, 6, 7, 8, 9] rfl ?_
          refine wG_bind (wL_X12_findTwo_151 C hN h x1 x2 x3 x4 x5 h_1 h_2 u_3 x6_4 t_7 x6_15 x6_16 h_17 x7_19 x7_20 h_21 x8_23 x8_24 h_25 t_27 x9_28 FU x9_28 h_25) (fun t_31 => (?_ : wG X 12 _ _ N t_31 (rq q) 0 0 279 [(0, .ref (xB X + 111)), (1, .int x1), (2, .int x2), (3, .int x3), (4, .int x4), (5, .int x5), (6, .int x6_16), (7, .int x7_20), (8, .int x8_24)] []))
          refine wG_iinc C (v := 1) (LL := fun x8_44 => [(0, .ref (xB X + 111)), (1, .int x1), (2, .int x2), (3, .int x3), (4, .int x4), (5, .int x5), (6, .int x6_16), (7, .int x7_20), (8, .int x8_44)]) dX12_findTwo_279 8 rfl (by decide) (by decide) [1, 2, 3, 4, 5, 6, 7, 8, 0] (fun _ => rfl) (fun x8_44 => ?_)
          refine wG_goto C dX12_findTwo_282 ?_
          exact wG_lv [0, 1, 2, 3, 4, 5, 6, 7, 8] rfl (ih x8_44 t_31)
    · exact wG_exit (fun Q e => gQ_lv [0, 1, 2, 3, 4, 5, 6, 7] rfl e)
set_option maxRecDepth 4000 in
theorem wL_X12_findTwo_102 {X : wX} (C : Cx X yX12_findTwo cX12_findTwo 12 none rm_X12_findTwo) {N : Nat} {q : Qp} (hN : 137 ≤ N) (h : Hp) (x1 : Int32) (x2 : Int32) (x3 : Int32) (x4 : Int32) (x5 : Int32) (h_1 : Hp) (h_2 : Hp) (u_3 : Hp) (x6_4 : Int32) (t_7 : Hp) (x6_15 : Int32) (x6_16 : Int32) (h_17 : Hp) (x7_19 : Int32) : ∀ n x7_20 h_21, wG X 12 (fun (t_22 : Hp) Q => gQ X 12 Q N t_22 (rq q) 0 0 291 [(0, .ref (xB X + 111)), (1, .int x1), (2, .int x2), (3, .int x3), (4, .int x4), (5, .int x5), (6, .int x6_16)] []) (L_X12_findTwo_102 x1 x2 x3 x4 x5 x6_16 n x7_20 h_21) N h_21 (rq q) 0 0 102 [(0, .ref (xB X + 111)), (1, .int x1), (2, .int x2), (3, .int x3), (4, .int x4), (5, .int x5), (6, .int x6_16), (7, .int x7_20)] [] := by
  intro n
  induction n with
  | zero => intro _ _; exact wG_none
  | succ n ih =>
    intro x7_20 h_21
    refine wG_of (L_X12_findTwo_102.eq_2 ..) ?_
    refine wG_iload C dX12_findTwo_102 7 rfl ?_
    refine wG_iconst C dX12_findTwo_104 (v := 2) (by decide) ?_
    refine wG_icmp_ge C dX12_findTwo_105 ?_ ?_
    · exact wG_exit (fun Q e => gQ_lv [0, 1, 2, 3, 4, 5, 6] rfl e)
    · refine wG_iconst C dX12_findTwo_108 (v := 1) (by decide) ?_
      refine wG_nmI (fun x8_23 => ?_)
      refine wG_istore C (L' := [(0, .ref (xB X + 111)), (1, .int x1), (2, .int x2), (3, .int x3), (4, .int x4), (5, .int x5), (6, .int x6_16), (7, .int x7_20), (8, .int x8_23)]) dX12_findTwo_109 (by decide) [1, 2, 3, 4, 5, 6, 7, 8, 0] rfl ?_
      refine wG_lv (L' := [(0, .ref (xB X + 111)), (1, .int x1), (2, .int x2), (3, .int x3), (4, .int x4), (5, .int x5), (6, .int x6_16), (7, .int x7_20), (8, .int x8_23)]) [0, 1, 2, 3, 4, 5, 6, 7, 8] rfl ?_
      refine wG_bind (wL_X12_findTwo_111 C hN h x1 x2 x3 x4 x5 h_1 h_2 u_3 x6_4 t_7 x6_15 x6_16 h_17 x7_19 x7_20 h_21 x8_23 FU x8_23 h_21) (fun t_26 => (?_ : wG X 12 _ _ N t_26 (rq q) 0 0 285 [(0, .ref (xB X + 111)), (1, .int x1), (2, .int x2), (3, .int x3), (4, .int x4), (5, .int x5), (6, .int x6_16), (7, .int x7_20)] []))
      refine wG_iinc C (v := 1) (LL := fun x7_45 => [(0, .ref (xB X + 111)), (1, .int x1), (2, .int x2), (3, .int x3), (4, .int x4), (5, .int x5), (6, .int x6_16), (7, .int x7_45)]) dX12_findTwo_285 7 rfl (by decide) (by decide) [1, 2, 3, 4, 5, 6, 7, 0] (fun _ => rfl) (fun x7_45 => ?_)
      refine wG_goto C dX12_findTwo_288 ?_
      exact wG_lv [0, 1, 2, 3, 4, 5, 6, 7] rfl (ih x7_45 t_26)
set_option maxRecDepth 4000 in
theorem wL_X12_findTwo_79 {X : wX} (C : Cx X yX12_findTwo cX12_findTwo 12 none rm_X12_findTwo) {N : Nat} {q : Qp} (hN : 137 ≤ N) (h : Hp) (x1 : Int32) (x2 : Int32) (x3 : Int32) (x4 : Int32) (x5 : Int32) (h_1 : Hp) (h_2 : Hp) (u_3 : Hp) (x6_4 : Int32) (t_7 : Hp) (x6_15 : Int32) : ∀ n x6_16 h_17, wG X 12 (fun (t_18 : Hp) Q => gQ X 12 Q N t_18 (rq q) 0 0 297 [] []) (L_X12_findTwo_79 x1 x2 x3 x4 x5 n x6_16 h_17) N h_17 (rq q) 0 0 79 [(0, .ref (xB X + 111)), (1, .int x1), (2, .int x2), (3, .int x3), (4, .int x4), (5, .int x5), (6, .int x6_16)] [] := by
  intro n
  induction n with
  | zero => intro _ _; exact wG_none
  | succ n ih =>
    intro x6_16 h_17
    refine wG_of (L_X12_findTwo_79.eq_2 ..) ?_
    refine wG_iload C dX12_findTwo_79 6 rfl ?_
    refine wG_aload_n C dX12_findTwo_81 0 rfl ?_
    refine wG_getR C fl_X12_56_8 rfl kd_111 (wll hN (by decide)) (rf_111_19 q) dX12_findTwo_82 ?_
    refine wG_iconst C dX12_findTwo_85 (v := 0) (by decide) ?_
    refine wG_iald C kd_123 (wll hN (by decide)) ln_123 dX12_findTwo_86 ?_
    refine wG_icmp_ge C dX12_findTwo_87 ?_ ?_
    · exact wG_exit (fun Q e => gQ_lv [] rfl e)
    · refine wG_aload_n C dX12_findTwo_90 0 rfl ?_
      refine wG_getI C fl_X12_29_8 rfl kd_111 (wll hN (by decide)) dX12_findTwo_91 ?_
      refine wG_bipush C dX12_findTwo_94 (v := 24) (by decide) ?_
      refine wG_icmp_ge C dX12_findTwo_96 ?_ ?_
      · exact wG_exit (fun Q e => gQ_lv [] rfl e)
      · refine wG_iconst C dX12_findTwo_99 (v := 0) (by decide) ?_
        refine wG_nmI (fun x7_19 => ?_)
        refine wG_istore C (L' := [(0, .ref (xB X + 111)), (1, .int x1), (2, .int x2), (3, .int x3), (4, .int x4), (5, .int x5), (6, .int x6_16), (7, .int x7_19)]) dX12_findTwo_100 (by decide) [1, 2, 3, 4, 5, 6, 7, 0] rfl ?_
        refine wG_lv (L' := [(0, .ref (xB X + 111)), (1, .int x1), (2, .int x2), (3, .int x3), (4, .int x4), (5, .int x5), (6, .int x6_16), (7, .int x7_19)]) [0, 1, 2, 3, 4, 5, 6, 7] rfl ?_
        refine wG_bind (wL_X12_findTwo_102 C hN h x1 x2 x3 x4 x5 h_1 h_2 u_3 x6_4 t_7 x6_15 x6_16 h_17 x7_19 FU x7_19 h_17) (fun t_22 => (?_ : wG X 12 _ _ N t_22 (rq q) 0 0 291 [(0, .ref (xB X + 111)), (1, .int x1), (2, .int x2), (3, .int x3), (4, .int x4), (5, .int x5), (6, .int x6_16)] []))
        refine wG_iinc C (v := 1) (LL := fun x6_46 => [(0, .ref (xB X + 111)), (1, .int x1), (2, .int x2), (3, .int x3), (4, .int x4), (5, .int x5), (6, .int x6_46)]) dX12_findTwo_291 6 rfl (by decide) (by decide) [1, 2, 3, 4, 5, 6, 0] (fun _ => rfl) (fun x6_46 => ?_)
        refine wG_goto C dX12_findTwo_294 ?_
        exact wG_lv [0, 1, 2, 3, 4, 5, 6] rfl (ih x6_46 t_22)
set_option maxRecDepth 4000 in
theorem w_X12_findTwo {X : wX} (C : Cx X yX12_findTwo cX12_findTwo 12 none rm_X12_findTwo) {N : Nat} {q : Qp} (hN : 137 ≤ N) (h : Hp) (x1 : Int32) (x2 : Int32) (x3 : Int32) (x4 : Int32) (x5 : Int32) : wG X 12 (eM X (fun u => (none, N, u, (rq q)))) (f_X12_findTwo h x1 x2 x3 x4 x5) N h (rq q) 0 0 0 [(0, .ref (xB X + 111)), (1, .int x1), (2, .int x2), (3, .int x3), (4, .int x4), (5, .int x5)] [] := by
  refine wG_of (f_X12_findTwo.eq_1 ..) ?_
  refine wG_aload_n C dX12_findTwo_0 0 rfl ?_
  refine wG_ldc C dX12_findTwo_1 m_1292 ?_
  refine wG_putI C fl_X12_238_8 (fp_8_45 _) (fun e => Bool.noConfusion e) rfl kd_111 (wll hN (by decide)) dX12_findTwo_3 (fun h_1 => ?_)
  refine wG_aload_n C dX12_findTwo_6 0 rfl ?_
  refine wG_bipush C dX12_findTwo_7 (v := (-9)) (by decide) ?_
  refine wG_putI C fl_X12_241_8 (fp_8_46 _) (fun e => Bool.noConfusion e) rfl kd_111 (wll hN (by decide)) dX12_findTwo_9 (fun h_2 => ?_)
  refine wG_aload_n C dX12_findTwo_12 0 rfl ?_
  refine wG_cV_wv [] [] C vw_X12_244 (c_X12_putAside (xl X) (xE X) N q hN h_2) kd_111 (wll hN (by decide)) (by decide) rfl rfl (Nat.le_of_ble_eq_true rfl) dX12_findTwo_13 (cl' := 0) (sl' := 0) rfl rfl (fun u_3 => ?_)
  refine wG_iconst C dX12_findTwo_16 (v := 0) (by decide) ?_
  refine wG_nmI (fun x6_4 => ?_)
  refine wG_istore C (L' := [(0, .ref (xB X + 111)), (1, .int x1), (2, .int x2), (3, .int x3), (4, .int x4), (5, .int x5), (6, .int x6_4)]) dX12_findTwo_17 (by decide) [1, 2, 3, 4, 5, 6, 0] rfl ?_
  refine wG_lv (L' := [(0, .ref (xB X + 111)), (1, .int x1), (2, .int x2), (3, .int x3), (4, .int x4), (5, .int x5), (6, .int x6_4)]) [0, 1, 2, 3, 4, 5, 6] rfl ?_
  refine wG_bind (wL_X12_findTwo_19 C hN h x1 x2 x3 x4 x5 h_1 h_2 u_3 x6_4 FU x6_4 u_3) (fun t_7 => (?_ : wG X 12 _ _ N t_7 (rq q) 0 0 76 [(0, .ref (xB X + 111)), (1, .int x1), (2, .int x2), (3, .int x3), (4, .int x4), (5, .int x5)] []))
  refine wG_iconst C dX12_findTwo_76 (v := 0) (by decide) ?_
  refine wG_nmI (fun x6_15 => ?_)
  refine wG_istore C (L' := [(0, .ref (xB X + 111)), (1, .int x1), (2, .int x2), (3, .int x3), (4, .int x4), (5, .int x5), (6, .int x6_15)]) dX12_findTwo_77 (by decide) [1, 2, 3, 4, 5, 6, 0] rfl ?_
  refine wG_lv (L' := [(0, .ref (xB X + 111)), (1, .int x1), (2, .int x2), (3, .int x3), (4, .int x4), (5, .int x5), (6, .int x6_15)]) [0, 1, 2, 3, 4, 5, 6] rfl ?_
  refine wG_bind (wL_X12_findTwo_79 C hN h x1 x2 x3 x4 x5 h_1 h_2 u_3 x6_4 t_7 x6_15 FU x6_15 t_7) (fun t_18 => (?_ : wG X 12 _ _ N t_18 (rq q) 0 0 297 [] []))
  exact wG_vret C dX12_findTwo_297 ⟨by decide, by decide⟩ (fun _ e => e)
theorem c_X12_findTwo (l : Launch) (E : wE) (N : Nat) (q : Qp) (hN : 137 ≤ N) (h : Hp) (x1 : Int32) (x2 : Int32) (x3 : Int32) (x4 : Int32) (x5 : Int32) : ∀ z, f_X12_findTwo h x1 x2 x3 x4 x5 = some z → CT l E yX12_findTwo cX12_findTwo 12 none rm_X12_findTwo [.ref (eB E + 111), .int x1, .int x2, .int x3, .int x4, .int x5] N h (rq q) ((fun u => (none, N, u, (rq q))) z) := CT.of (by decide +kernel) (Nat.le_of_ble_eq_true rfl) (fun X _ e C => by subst e; exact w_X12_findTwo C hN h x1 x2 x3 x4 x5)
def rm_X12_two : Room := { frames := 7, cells := 0, slots := 0, locals := 195 }
def f_X12_two (h : Hp) (x1 : Int32) (x2 : Int32) (x3 : Int32) (x4 : Int32) (x5 : Int32) : Option (Int32 × Hp) :=
  vB (u2 h 111 0 0) fun h_1 =>
  (f_X12_noAsk x1 x2 x5).bind fun u_2 =>
  (if u_2 = 0 then
  (f_X12_noAsk x3 x4 x5).bind fun u_3 =>
  (if u_3 = 0 then
  (f_X12_findTwo h_1 x1 x2 x3 x4 x5).bind fun u_4 =>
  (if (u_4 111 46) = (-9) then
  some ((-9), u_4)
  else
  some ((u_4 111 45), u_4))
  else
  some ((-2), h_1))
  else
  some ((-2), h_1))
set_option maxRecDepth 4000 in
theorem w_X12_two {X : wX} (C : Cx X yX12_two cX12_two 6 (some .int) rm_X12_two) {N : Nat} {q : Qp} (hN : 137 ≤ N) (h : Hp) (x1 : Int32) (x2 : Int32) (x3 : Int32) (x4 : Int32) (x5 : Int32) : wG X 6 (eM X (fun u => (some (.int u.1), N, u.2, (rq q)))) (f_X12_two h x1 x2 x3 x4 x5) N h (rq q) 0 0 0 [(0, .ref (xB X + 111)), (1, .int x1), (2, .int x2), (3, .int x3), (4, .int x4), (5, .int x5)] [] := by
  refine wG_of (f_X12_two.eq_1 ..) ?_
  refine wG_aload_n C dX12_two_0 0 rfl ?_
  refine wG_iconst C dX12_two_1 (v := 0) (by decide) ?_
  refine wG_putI C fl_X12_1_8 (fp_8_0 _) (fun e => Bool.noConfusion e) rfl kd_111 (wll hN (by decide)) dX12_two_2 (fun h_1 => ?_)
  refine wG_iload_n C dX12_two_5 1 rfl ?_
  refine wG_iload_n C dX12_two_6 2 rfl ?_
  refine wG_iload C dX12_two_7 5 rfl ?_
  refine wG_cS_ri [.int x1, .int x2, .int x5] [] C sw_X12_204 (c_X12_noAsk (xl X) (xE X) N q hN h_1 x1 x2 x5) (by decide) rfl rfl (Nat.le_of_ble_eq_true rfl) dX12_two_9 (cl' := 0) (sl' := 0) rfl rfl (fun u_2 => ?_)
  refine wG_if_ne C dX12_two_12 ?_ ?_
  · refine wG_iload_n C dX12_two_15 3 rfl ?_
    refine wG_iload C dX12_two_16 4 rfl ?_
    refine wG_iload C dX12_two_18 5 rfl ?_
    refine wG_cS_ri [.int x3, .int x4, .int x5] [] C sw_X12_204 (c_X12_noAsk (xl X) (xE X) N q hN h_1 x3 x4 x5) (by decide) rfl rfl (Nat.le_of_ble_eq_true rfl) dX12_two_20 (cl' := 0) (sl' := 0) rfl rfl (fun u_3 => ?_)
    refine wG_if_eq C dX12_two_23 ?_ ?_
    · refine wG_aload_n C dX12_two_29 0 rfl ?_
      refine wG_iload_n C dX12_two_30 1 rfl ?_
      refine wG_iload_n C dX12_two_31 2 rfl ?_
      refine wG_iload_n C dX12_two_32 3 rfl ?_
      refine wG_iload C dX12_two_33 4 rfl ?_
      refine wG_iload C dX12_two_35 5 rfl ?_
      refine wG_cV_wv [.int x1, .int x2, .int x3, .int x4, .int x5] [] C vw_X12_258 (c_X12_findTwo (xl X) (xE X) N q hN h_1 x1 x2 x3 x4 x5) kd_111 (wll hN (by decide)) (by decide) rfl rfl (Nat.le_of_ble_eq_true rfl) dX12_two_37 (cl' := 0) (sl' := 0) rfl rfl (fun u_4 => ?_)
      refine wG_aload_n C dX12_two_40 0 rfl ?_
      refine wG_getI C fl_X12_241_8 rfl kd_111 (wll hN (by decide)) dX12_two_41 ?_
      refine wG_bipush C dX12_two_44 (v := (-9)) (by decide) ?_
      refine wG_icmp_ne C dX12_two_46 ?_ ?_
      · refine wG_bipush C dX12_two_49 (v := (-9)) (by decide) ?_
        refine wG_goto C dX12_two_51 ?_
        exact wG_iret C dX12_two_58 ⟨by decide, by decide⟩ (fun _ e => e)
      · refine wG_aload_n C dX12_two_54 0 rfl ?_
        refine wG_getI C fl_X12_238_8 rfl kd_111 (wll hN (by decide)) dX12_two_55 ?_
        exact wG_iret C dX12_two_58 ⟨by decide, by decide⟩ (fun _ e => e)
    · refine wG_bipush C dX12_two_26 (v := (-2)) (by decide) ?_
      exact wG_iret C dX12_two_28 ⟨by decide, by decide⟩ (fun _ e => e)
  · refine wG_bipush C dX12_two_26 (v := (-2)) (by decide) ?_
    exact wG_iret C dX12_two_28 ⟨by decide, by decide⟩ (fun _ e => e)
theorem c_X12_two (l : Launch) (E : wE) (N : Nat) (q : Qp) (hN : 137 ≤ N) (h : Hp) (x1 : Int32) (x2 : Int32) (x3 : Int32) (x4 : Int32) (x5 : Int32) : ∀ z, f_X12_two h x1 x2 x3 x4 x5 = some z → CT l E yX12_two cX12_two 6 (some .int) rm_X12_two [.ref (eB E + 111), .int x1, .int x2, .int x3, .int x4, .int x5] N h (rq q) ((fun u => (some (.int u.1), N, u.2, (rq q))) z) := CT.of (by decide +kernel) (Nat.le_of_ble_eq_true rfl) (fun X _ e C => by subst e; exact w_X12_two C hN h x1 x2 x3 x4 x5)
def rm_X12_twoFirst : Room := { frames := 7, cells := 0, slots := 0, locals := 195 }
def f_X12_twoFirst (h : Hp) (x1 : Int32) (x2 : Int32) (x3 : Int32) (x4 : Int32) (x5 : Int32) : Option (Int32 × Hp) :=
  vB (u2 h 111 0 0) fun h_1 =>
  (f_X12_noAsk x1 x2 x5).bind fun u_2 =>
  (if u_2 = 0 then
  (f_X12_noAsk x3 x4 x5).bind fun u_3 =>
  (if u_3 = 0 then
  (f_X12_findTwo h_1 x1 x2 x3 x4 x5).bind fun u_4 =>
  some ((u_4 111 46), u_4)
  else
  some ((-2), h_1))
  else
  some ((-2), h_1))
set_option maxRecDepth 4000 in
theorem w_X12_twoFirst {X : wX} (C : Cx X yX12_twoFirst cX12_twoFirst 6 (some .int) rm_X12_twoFirst) {N : Nat} {q : Qp} (hN : 137 ≤ N) (h : Hp) (x1 : Int32) (x2 : Int32) (x3 : Int32) (x4 : Int32) (x5 : Int32) : wG X 6 (eM X (fun u => (some (.int u.1), N, u.2, (rq q)))) (f_X12_twoFirst h x1 x2 x3 x4 x5) N h (rq q) 0 0 0 [(0, .ref (xB X + 111)), (1, .int x1), (2, .int x2), (3, .int x3), (4, .int x4), (5, .int x5)] [] := by
  refine wG_of (f_X12_twoFirst.eq_1 ..) ?_
  refine wG_aload_n C dX12_twoFirst_0 0 rfl ?_
  refine wG_iconst C dX12_twoFirst_1 (v := 0) (by decide) ?_
  refine wG_putI C fl_X12_1_8 (fp_8_0 _) (fun e => Bool.noConfusion e) rfl kd_111 (wll hN (by decide)) dX12_twoFirst_2 (fun h_1 => ?_)
  refine wG_iload_n C dX12_twoFirst_5 1 rfl ?_
  refine wG_iload_n C dX12_twoFirst_6 2 rfl ?_
  refine wG_iload C dX12_twoFirst_7 5 rfl ?_
  refine wG_cS_ri [.int x1, .int x2, .int x5] [] C sw_X12_204 (c_X12_noAsk (xl X) (xE X) N q hN h_1 x1 x2 x5) (by decide) rfl rfl (Nat.le_of_ble_eq_true rfl) dX12_twoFirst_9 (cl' := 0) (sl' := 0) rfl rfl (fun u_2 => ?_)
  refine wG_if_ne C dX12_twoFirst_12 ?_ ?_
  · refine wG_iload_n C dX12_twoFirst_15 3 rfl ?_
    refine wG_iload C dX12_twoFirst_16 4 rfl ?_
    refine wG_iload C dX12_twoFirst_18 5 rfl ?_
    refine wG_cS_ri [.int x3, .int x4, .int x5] [] C sw_X12_204 (c_X12_noAsk (xl X) (xE X) N q hN h_1 x3 x4 x5) (by decide) rfl rfl (Nat.le_of_ble_eq_true rfl) dX12_twoFirst_20 (cl' := 0) (sl' := 0) rfl rfl (fun u_3 => ?_)
    refine wG_if_eq C dX12_twoFirst_23 ?_ ?_
    · refine wG_aload_n C dX12_twoFirst_29 0 rfl ?_
      refine wG_iload_n C dX12_twoFirst_30 1 rfl ?_
      refine wG_iload_n C dX12_twoFirst_31 2 rfl ?_
      refine wG_iload_n C dX12_twoFirst_32 3 rfl ?_
      refine wG_iload C dX12_twoFirst_33 4 rfl ?_
      refine wG_iload C dX12_twoFirst_35 5 rfl ?_
      refine wG_cV_wv [.int x1, .int x2, .int x3, .int x4, .int x5] [] C vw_X12_258 (c_X12_findTwo (xl X) (xE X) N q hN h_1 x1 x2 x3 x4 x5) kd_111 (wll hN (by decide)) (by decide) rfl rfl (Nat.le_of_ble_eq_true rfl) dX12_twoFirst_37 (cl' := 0) (sl' := 0) rfl rfl (fun u_4 => ?_)
      refine wG_aload_n C dX12_twoFirst_40 0 rfl ?_
      refine wG_getI C fl_X12_241_8 rfl kd_111 (wll hN (by decide)) dX12_twoFirst_41 ?_
      exact wG_iret C dX12_twoFirst_44 ⟨by decide, by decide⟩ (fun _ e => e)
    · refine wG_bipush C dX12_twoFirst_26 (v := (-2)) (by decide) ?_
      exact wG_iret C dX12_twoFirst_28 ⟨by decide, by decide⟩ (fun _ e => e)
  · refine wG_bipush C dX12_twoFirst_26 (v := (-2)) (by decide) ?_
    exact wG_iret C dX12_twoFirst_28 ⟨by decide, by decide⟩ (fun _ e => e)
theorem c_X12_twoFirst (l : Launch) (E : wE) (N : Nat) (q : Qp) (hN : 137 ≤ N) (h : Hp) (x1 : Int32) (x2 : Int32) (x3 : Int32) (x4 : Int32) (x5 : Int32) : ∀ z, f_X12_twoFirst h x1 x2 x3 x4 x5 = some z → CT l E yX12_twoFirst cX12_twoFirst 6 (some .int) rm_X12_twoFirst [.ref (eB E + 111), .int x1, .int x2, .int x3, .int x4, .int x5] N h (rq q) ((fun u => (some (.int u.1), N, u.2, (rq q))) z) := CT.of (by decide +kernel) (Nat.le_of_ble_eq_true rfl) (fun X _ e C => by subst e; exact w_X12_twoFirst C hN h x1 x2 x3 x4 x5)
def rm_X12_order : Room := { frames := 2, cells := 0, slots := 0, locals := 47 }
def f_X12_order (h : Hp) (x1 : Int32) (x2 : Int32) (x3 : Int32) : Option (Int32 × Hp) :=
  vB (u2 h 111 0 0) fun h_1 =>
  (f_X12_noAsk x1 x2 x3).bind fun u_2 =>
  (if u_2 = 0 then
  (if (h_1 111 26) = 4 then
  some ((-4), h_1)
  else
  if inB (h_1 111 26) 4 then vB (u2 h_1 126 (ix (h_1 111 26)) x1) fun h_3 =>
  if inB (h_3 111 26) 4 then vB (u2 h_3 127 (ix (h_3 111 26)) x2) fun h_4 =>
  if inB (h_4 111 26) 4 then vB (u2 h_4 128 (ix (h_4 111 26)) x3) fun h_5 =>
  vB (u2 h_5 111 26 ((h_5 111 26) + 1)) fun h_6 =>
  some ((h_6 111 26), h_6) else none else none else none)
  else
  some ((-2), h_1))
set_option maxRecDepth 4000 in
theorem w_X12_order {X : wX} (C : Cx X yX12_order cX12_order 4 (some .int) rm_X12_order) {N : Nat} {q : Qp} (hN : 137 ≤ N) (h : Hp) (x1 : Int32) (x2 : Int32) (x3 : Int32) : wG X 4 (eM X (fun u => (some (.int u.1), N, u.2, (rq q)))) (f_X12_order h x1 x2 x3) N h (rq q) 0 0 0 [(0, .ref (xB X + 111)), (1, .int x1), (2, .int x2), (3, .int x3)] [] := by
  refine wG_of (f_X12_order.eq_1 ..) ?_
  refine wG_aload_n C dX12_order_0 0 rfl ?_
  refine wG_iconst C dX12_order_1 (v := 0) (by decide) ?_
  refine wG_putI C fl_X12_1_8 (fp_8_0 _) (fun e => Bool.noConfusion e) rfl kd_111 (wll hN (by decide)) dX12_order_2 (fun h_1 => ?_)
  refine wG_iload_n C dX12_order_5 1 rfl ?_
  refine wG_iload_n C dX12_order_6 2 rfl ?_
  refine wG_iload_n C dX12_order_7 3 rfl ?_
  refine wG_cS_ri [.int x1, .int x2, .int x3] [] C sw_X12_204 (c_X12_noAsk (xl X) (xE X) N q hN h_1 x1 x2 x3) (by decide) rfl rfl (Nat.le_of_ble_eq_true rfl) dX12_order_8 (cl' := 0) (sl' := 0) rfl rfl (fun u_2 => ?_)
  refine wG_if_eq C dX12_order_11 ?_ ?_
  · refine wG_aload_n C dX12_order_17 0 rfl ?_
    refine wG_getI C fl_X12_262_8 rfl kd_111 (wll hN (by decide)) dX12_order_18 ?_
    refine wG_iconst C dX12_order_21 (v := 4) (by decide) ?_
    refine wG_icmp_ne C dX12_order_22 ?_ ?_
    · refine wG_bipush C dX12_order_25 (v := (-4)) (by decide) ?_
      exact wG_iret C dX12_order_27 ⟨by decide, by decide⟩ (fun _ e => e)
    · refine wG_aload_n C dX12_order_28 0 rfl ?_
      refine wG_getR C fl_X12_66_8 rfl kd_111 (wll hN (by decide)) (rf_111_27 q) dX12_order_29 ?_
      refine wG_aload_n C dX12_order_32 0 rfl ?_
      refine wG_getI C fl_X12_262_8 rfl kd_111 (wll hN (by decide)) dX12_order_33 ?_
      refine wG_iload_n C dX12_order_36 1 rfl ?_
      refine wG_iast C kd_126 (wll hN (by decide)) ln_126 dX12_order_37 (fun h_3 => ?_)
      refine wG_aload_n C dX12_order_38 0 rfl ?_
      refine wG_getR C fl_X12_69_8 rfl kd_111 (wll hN (by decide)) (rf_111_28 q) dX12_order_39 ?_
      refine wG_aload_n C dX12_order_42 0 rfl ?_
      refine wG_getI C fl_X12_262_8 rfl kd_111 (wll hN (by decide)) dX12_order_43 ?_
      refine wG_iload_n C dX12_order_46 2 rfl ?_
      refine wG_iast C kd_127 (wll hN (by decide)) ln_127 dX12_order_47 (fun h_4 => ?_)
      refine wG_aload_n C dX12_order_48 0 rfl ?_
      refine wG_getR C fl_X12_72_8 rfl kd_111 (wll hN (by decide)) (rf_111_29 q) dX12_order_49 ?_
      refine wG_aload_n C dX12_order_52 0 rfl ?_
      refine wG_getI C fl_X12_262_8 rfl kd_111 (wll hN (by decide)) dX12_order_53 ?_
      refine wG_iload_n C dX12_order_56 3 rfl ?_
      refine wG_iast C kd_128 (wll hN (by decide)) ln_128 dX12_order_57 (fun h_5 => ?_)
      refine wG_aload_n C dX12_order_58 0 rfl ?_
      refine wG_dup C dX12_order_59 rfl ?_
      refine wG_getI C fl_X12_262_8 rfl kd_111 (wll hN (by decide)) dX12_order_60 ?_
      refine wG_iconst C dX12_order_63 (v := 1) (by decide) ?_
      refine wG_iadd C dX12_order_64 ?_
      refine wG_putI C fl_X12_262_8 (fp_8_26 _) (fun e => Bool.noConfusion e) rfl kd_111 (wll hN (by decide)) dX12_order_65 (fun h_6 => ?_)
      refine wG_aload_n C dX12_order_68 0 rfl ?_
      refine wG_getI C fl_X12_262_8 rfl kd_111 (wll hN (by decide)) dX12_order_69 ?_
      exact wG_iret C dX12_order_72 ⟨by decide, by decide⟩ (fun _ e => e)
  · refine wG_bipush C dX12_order_14 (v := (-2)) (by decide) ?_
    exact wG_iret C dX12_order_16 ⟨by decide, by decide⟩ (fun _ e => e)
theorem c_X12_order (l : Launch) (E : wE) (N : Nat) (q : Qp) (hN : 137 ≤ N) (h : Hp) (x1 : Int32) (x2 : Int32) (x3 : Int32) : ∀ z, f_X12_order h x1 x2 x3 = some z → CT l E yX12_order cX12_order 4 (some .int) rm_X12_order [.ref (eB E + 111), .int x1, .int x2, .int x3] N h (rq q) ((fun u => (some (.int u.1), N, u.2, (rq q))) z) := CT.of (by decide +kernel) (Nat.le_of_ble_eq_true rfl) (fun X _ e C => by subst e; exact w_X12_order C hN h x1 x2 x3)
def rm_X12_unorder : Room := { frames := 0, cells := 0, slots := 0, locals := 0 }
def f_X12_unorder (h : Hp) : Option (Int32 × Hp) :=
  vB (u2 h 111 0 0) fun h_1 =>
  vB (h_1 111 26) fun (x1_2 : Int32) =>
  vB (u2 h_1 111 26 0) fun h_3 =>
  some (x1_2, h_3)
set_option maxRecDepth 4000 in
theorem w_X12_unorder {X : wX} (C : Cx X yX12_unorder cX12_unorder 2 (some .int) rm_X12_unorder) {N : Nat} {q : Qp} (hN : 137 ≤ N) (h : Hp) : wG X 2 (eM X (fun u => (some (.int u.1), N, u.2, (rq q)))) (f_X12_unorder h) N h (rq q) 0 0 0 [(0, .ref (xB X + 111))] [] := by
  refine wG_of (f_X12_unorder.eq_1 ..) ?_
  refine wG_aload_n C dX12_unorder_0 0 rfl ?_
  refine wG_iconst C dX12_unorder_1 (v := 0) (by decide) ?_
  refine wG_putI C fl_X12_1_8 (fp_8_0 _) (fun e => Bool.noConfusion e) rfl kd_111 (wll hN (by decide)) dX12_unorder_2 (fun h_1 => ?_)
  refine wG_aload_n C dX12_unorder_5 0 rfl ?_
  refine wG_getI C fl_X12_262_8 rfl kd_111 (wll hN (by decide)) dX12_unorder_6 ?_
  refine wG_nmI (fun x1_2 => ?_)
  refine wG_istore_n C (L' := [(0, .ref (xB X + 111)), (1, .int x1_2)]) dX12_unorder_9 (by decide) [1, 0] rfl ?_
  refine wG_aload_n C dX12_unorder_10 0 rfl ?_
  refine wG_iconst C dX12_unorder_11 (v := 0) (by decide) ?_
  refine wG_putI C fl_X12_262_8 (fp_8_26 _) (fun e => Bool.noConfusion e) rfl kd_111 (wll hN (by decide)) dX12_unorder_12 (fun h_3 => ?_)
  refine wG_iload_n C dX12_unorder_15 1 rfl ?_
  exact wG_iret C dX12_unorder_16 ⟨by decide, by decide⟩ (fun _ e => e)
theorem c_X12_unorder (l : Launch) (E : wE) (N : Nat) (q : Qp) (hN : 137 ≤ N) (h : Hp) : ∀ z, f_X12_unorder h = some z → CT l E yX12_unorder cX12_unorder 2 (some .int) rm_X12_unorder [.ref (eB E + 111)] N h (rq q) ((fun u => (some (.int u.1), N, u.2, (rq q))) z) := CT.of (by decide +kernel) (Nat.le_of_ble_eq_true rfl) (fun X _ e C => by subst e; exact w_X12_unorder C hN h)
def rm_X12_block : Room := { frames := 0, cells := 0, slots := 0, locals := 0 }
def f_X12_block (x0 : Int32) (x1 : Int32) (x2 : Int32) (x3 : Int32) : Option Int32 :=
  some (((((216 * x0) + (36 * x1)) + (6 * (x2 - 1))) + x3) - 1)
set_option maxRecDepth 4000 in
theorem w_X12_block {X : wX} (C : Cx X yX12_block cX12_block 4 (some .int) rm_X12_block) {N : Nat} {q : Qp} (hN : 137 ≤ N) (h : Hp) (x0 : Int32) (x1 : Int32) (x2 : Int32) (x3 : Int32) : wG X 4 (eM X (fun u => (some (.int u), N, h, (rq q)))) (f_X12_block x0 x1 x2 x3) N h (rq q) 0 0 0 [(0, .int x0), (1, .int x1), (2, .int x2), (3, .int x3)] [] := by
  refine wG_of (f_X12_block.eq_1 ..) ?_
  refine wG_sipush C dX12_block_0 (v := 216) (by decide) ?_
  refine wG_iload_n C dX12_block_3 0 rfl ?_
  refine wG_imul C dX12_block_4 ?_
  refine wG_bipush C dX12_block_5 (v := 36) (by decide) ?_
  refine wG_iload_n C dX12_block_7 1 rfl ?_
  refine wG_imul C dX12_block_8 ?_
  refine wG_iadd C dX12_block_9 ?_
  refine wG_bipush C dX12_block_10 (v := 6) (by decide) ?_
  refine wG_iload_n C dX12_block_12 2 rfl ?_
  refine wG_iconst C dX12_block_13 (v := 1) (by decide) ?_
  refine wG_isub C dX12_block_14 ?_
  refine wG_imul C dX12_block_15 ?_
  refine wG_iadd C dX12_block_16 ?_
  refine wG_iload_n C dX12_block_17 3 rfl ?_
  refine wG_iadd C dX12_block_18 ?_
  refine wG_iconst C dX12_block_19 (v := 1) (by decide) ?_
  refine wG_isub C dX12_block_20 ?_
  exact wG_iret C dX12_block_21 ⟨by decide, by decide⟩ (fun _ e => e)
theorem c_X12_block (l : Launch) (E : wE) (N : Nat) (q : Qp) (hN : 137 ≤ N) (h : Hp) (x0 : Int32) (x1 : Int32) (x2 : Int32) (x3 : Int32) : ∀ z, f_X12_block x0 x1 x2 x3 = some z → CT l E yX12_block cX12_block 4 (some .int) rm_X12_block [.int x0, .int x1, .int x2, .int x3] N h (rq q) ((fun u => (some (.int u), N, h, (rq q))) z) := CT.of (by decide +kernel) (Nat.le_of_ble_eq_true rfl) (fun X _ e C => by subst e; exact w_X12_block C hN h x0 x1 x2 x3)
def rm_X12_layBlocks : Room := { frames := 1, cells := 0, slots := 0, locals := 28 }
def L_X12_layBlocks_35 (x1_2 : Int32) (x2_6 : Int32) (x3_10 : Int32) : Nat → Int32 → Hp → Option Hp
  | 0, _, _ => none
  | n + 1, x4_14, h_15 =>
    (if (h_15 111 5) < (x2_6 + x4_14) then
    some h_15
    else
    (f_X12_block x1_2 x2_6 x3_10 x4_14).bind fun u_17 =>
    (f_X12_weightOf h_15 x1_2 x2_6 x3_10 x4_14).bind fun u_18 =>
    if inB u_17 1296 then vB (u2 h_15 129 (ix u_17) u_18) fun h_19 =>
    (f_X12_block x1_2 x2_6 x3_10 x4_14).bind fun u_20 =>
    (f_X12_countOf h_19 x1_2 x2_6 x3_10 x4_14 1).bind fun u_21 =>
    if inB u_20 1296 then vB (u2 h_19 130 (ix u_20) u_21) fun h_22 =>
    vB (x4_14 + 1) fun (x4_23 : Int32) =>
    L_X12_layBlocks_35 x1_2 x2_6 x3_10 n x4_23 h_22 else none else none)
def L_X12_layBlocks_22 (x1_2 : Int32) (x2_6 : Int32) : Nat → Int32 → Hp → Option Hp
  | 0, _, _ => none
  | n + 1, x3_10, h_11 =>
    (if (h_11 111 4) < (x1_2 + x3_10) then
    some h_11
    else
    vB 1 fun (x4_13 : Int32) =>
    (L_X12_layBlocks_35 x1_2 x2_6 x3_10 FU x4_13 h_11).bind fun t_16 =>
    vB (x3_10 + 1) fun (x3_24 : Int32) =>
    L_X12_layBlocks_22 x1_2 x2_6 n x3_24 t_16)
def L_X12_layBlocks_12 (x1_2 : Int32) : Nat → Int32 → Hp → Option Hp
  | 0, _, _ => none
  | n + 1, x2_6, h_7 =>
    (if (h_7 111 5) ≤ x2_6 then
    some h_7
    else
    vB 1 fun (x3_9 : Int32) =>
    (L_X12_layBlocks_22 x1_2 x2_6 FU x3_9 h_7).bind fun t_12 =>
    vB (x2_6 + 1) fun (x2_25 : Int32) =>
    L_X12_layBlocks_12 x1_2 n x2_25 t_12)
def L_X12_layBlocks_2  : Nat → Int32 → Hp → Option Hp
  | 0, _, _ => none
  | n + 1, x1_2, h_3 =>
    (if (h_3 111 4) ≤ x1_2 then
    some h_3
    else
    vB 0 fun (x2_5 : Int32) =>
    (L_X12_layBlocks_12 x1_2 FU x2_5 h_3).bind fun t_8 =>
    vB (x1_2 + 1) fun (x1_26 : Int32) =>
    L_X12_layBlocks_2 n x1_26 t_8)
def f_X12_layBlocks (h : Hp) : Option Hp :=
  vB 0 fun (x1_1 : Int32) =>
  (L_X12_layBlocks_2 FU x1_1 h).bind fun t_4 =>
  some t_4
set_option maxRecDepth 4000 in
theorem wL_X12_layBlocks_35 {X : wX} (C : Cx X yX12_layBlocks cX12_layBlocks 5 none rm_X12_layBlocks) {N : Nat} {q : Qp} (hN : 137 ≤ N) (h : Hp) (x1_1 : Int32) (x1_2 : Int32) (h_3 : Hp) (x2_5 : Int32) (x2_6 : Int32) (h_7 : Hp) (x3_9 : Int32) (x3_10 : Int32) (h_11 : Hp) (x4_13 : Int32) : ∀ n x4_14 h_15, wG X 5 (fun (t_16 : Hp) Q => gQ X 5 Q N t_16 (rq q) 0 0 97 [(0, .ref (xB X + 111)), (1, .int x1_2), (2, .int x2_6), (3, .int x3_10)] []) (L_X12_layBlocks_35 x1_2 x2_6 x3_10 n x4_14 h_15) N h_15 (rq q) 0 0 35 [(0, .ref (xB X + 111)), (1, .int x1_2), (2, .int x2_6), (3, .int x3_10), (4, .int x4_14)] [] := by
  intro n
  induction n with
  | zero => intro _ _; exact wG_none
  | succ n ih =>
    intro x4_14 h_15
    refine wG_of (L_X12_layBlocks_35.eq_2 ..) ?_
    refine wG_iload_n C dX12_layBlocks_35 2 rfl ?_
    refine wG_iload C dX12_layBlocks_36 4 rfl ?_
    refine wG_iadd C dX12_layBlocks_38 ?_
    refine wG_aload_n C dX12_layBlocks_39 0 rfl ?_
    refine wG_getI C fl_X12_23_8 rfl kd_111 (wll hN (by decide)) dX12_layBlocks_40 ?_
    refine wG_icmp_gt C dX12_layBlocks_43 ?_ ?_
    · exact wG_exit (fun Q e => gQ_lv [0, 1, 2, 3] rfl e)
    · refine wG_aload_n C dX12_layBlocks_46 0 rfl ?_
      refine wG_getR C fl_X12_75_8 rfl kd_111 (wll hN (by decide)) (rf_111_30 q) dX12_layBlocks_47 ?_
      refine wG_iload_n C dX12_layBlocks_50 1 rfl ?_
      refine wG_iload_n C dX12_layBlocks_51 2 rfl ?_
      refine wG_iload_n C dX12_layBlocks_52 3 rfl ?_
      refine wG_iload C dX12_layBlocks_53 4 rfl ?_
      refine wG_cS_ri [.int x1_2, .int x2_6, .int x3_10, .int x4_14] [.ref (xB X + 129)] C sw_X12_265 (c_X12_block (xl X) (xE X) N q hN h_15 x1_2 x2_6 x3_10 x4_14) (by decide) rfl rfl (Nat.le_of_ble_eq_true rfl) dX12_layBlocks_55 (cl' := 0) (sl' := 0) rfl rfl (fun u_17 => ?_)
      refine wG_aload_n C dX12_layBlocks_58 0 rfl ?_
      refine wG_iload_n C dX12_layBlocks_59 1 rfl ?_
      refine wG_iload_n C dX12_layBlocks_60 2 rfl ?_
      refine wG_iload_n C dX12_layBlocks_61 3 rfl ?_
      refine wG_iload C dX12_layBlocks_62 4 rfl ?_
      refine wG_cV_ri [.int x1_2, .int x2_6, .int x3_10, .int x4_14] [.int u_17, .ref (xB X + 129)] C vw_X12_151 (c_X12_weightOf (xl X) (xE X) N q hN h_15 x1_2 x2_6 x3_10 x4_14) kd_111 (wll hN (by decide)) (by decide) rfl rfl (Nat.le_of_ble_eq_true rfl) dX12_layBlocks_64 (cl' := 0) (sl' := 0) rfl rfl (fun u_18 => ?_)
      refine wG_iast C kd_129 (wll hN (by decide)) ln_129 dX12_layBlocks_67 (fun h_19 => ?_)
      refine wG_aload_n C dX12_layBlocks_68 0 rfl ?_
      refine wG_getR C fl_X12_78_8 rfl kd_111 (wll hN (by decide)) (rf_111_31 q) dX12_layBlocks_69 ?_
      refine wG_iload_n C dX12_layBlocks_72 1 rfl ?_
      refine wG_iload_n C dX12_layBlocks_73 2 rfl ?_
      refine wG_iload_n C dX12_layBlocks_74 3 rfl ?_
      refine wG_iload C dX12_layBlocks_75 4 rfl ?_
      refine wG_cS_ri [.int x1_2, .int x2_6, .int x3_10, .int x4_14] [.ref (xB X + 130)] C sw_X12_265 (c_X12_block (xl X) (xE X) N q hN h_19 x1_2 x2_6 x3_10 x4_14) (by decide) rfl rfl (Nat.le_of_ble_eq_true rfl) dX12_layBlocks_77 (cl' := 0) (sl' := 0) rfl rfl (fun u_20 => ?_)
      refine wG_aload_n C dX12_layBlocks_80 0 rfl ?_
      refine wG_iload_n C dX12_layBlocks_81 1 rfl ?_
      refine wG_iload_n C dX12_layBlocks_82 2 rfl ?_
      refine wG_iload_n C dX12_layBlocks_83 3 rfl ?_
      refine wG_iload C dX12_layBlocks_84 4 rfl ?_
      refine wG_iconst C dX12_layBlocks_86 (v := 1) (by decide) ?_
      refine wG_cV_ri [.int x1_2, .int x2_6, .int x3_10, .int x4_14, .int 1] [.int u_20, .ref (xB X + 130)] C vw_X12_172 (c_X12_countOf (xl X) (xE X) N q hN h_19 x1_2 x2_6 x3_10 x4_14 1) kd_111 (wll hN (by decide)) (by decide) rfl rfl (Nat.le_of_ble_eq_true rfl) dX12_layBlocks_87 (cl' := 0) (sl' := 0) rfl rfl (fun u_21 => ?_)
      refine wG_iast C kd_130 (wll hN (by decide)) ln_130 dX12_layBlocks_90 (fun h_22 => ?_)
      refine wG_iinc C (v := 1) (LL := fun x4_23 => [(0, .ref (xB X + 111)), (1, .int x1_2), (2, .int x2_6), (3, .int x3_10), (4, .int x4_23)]) dX12_layBlocks_91 4 rfl (by decide) (by decide) [1, 2, 3, 4, 0] (fun _ => rfl) (fun x4_23 => ?_)
      refine wG_goto C dX12_layBlocks_94 ?_
      exact wG_lv [0, 1, 2, 3, 4] rfl (ih x4_23 h_22)
set_option maxRecDepth 4000 in
theorem wL_X12_layBlocks_22 {X : wX} (C : Cx X yX12_layBlocks cX12_layBlocks 5 none rm_X12_layBlocks) {N : Nat} {q : Qp} (hN : 137 ≤ N) (h : Hp) (x1_1 : Int32) (x1_2 : Int32) (h_3 : Hp) (x2_5 : Int32) (x2_6 : Int32) (h_7 : Hp) (x3_9 : Int32) : ∀ n x3_10 h_11, wG X 5 (fun (t_12 : Hp) Q => gQ X 5 Q N t_12 (rq q) 0 0 103 [(0, .ref (xB X + 111)), (1, .int x1_2), (2, .int x2_6)] []) (L_X12_layBlocks_22 x1_2 x2_6 n x3_10 h_11) N h_11 (rq q) 0 0 22 [(0, .ref (xB X + 111)), (1, .int x1_2), (2, .int x2_6), (3, .int x3_10)] [] := by
  intro n
  induction n with
  | zero => intro _ _; exact wG_none
  | succ n ih =>
    intro x3_10 h_11
    refine wG_of (L_X12_layBlocks_22.eq_2 ..) ?_
    refine wG_iload_n C dX12_layBlocks_22 1 rfl ?_
    refine wG_iload_n C dX12_layBlocks_23 3 rfl ?_
    refine wG_iadd C dX12_layBlocks_24 ?_
    refine wG_aload_n C dX12_layBlocks_25 0 rfl ?_
    refine wG_getI C fl_X12_20_8 rfl kd_111 (wll hN (by decide)) dX12_layBlocks_26 ?_
    refine wG_icmp_gt C dX12_layBlocks_29 ?_ ?_
    · exact wG_exit (fun Q e => gQ_lv [0, 1, 2] rfl e)
    · refine wG_iconst C dX12_layBlocks_32 (v := 1) (by decide) ?_
      refine wG_nmI (fun x4_13 => ?_)
      refine wG_istore C (L' := [(0, .ref (xB X + 111)), (1, .int x1_2), (2, .int x2_6), (3, .int x3_10), (4, .int x4_13)]) dX12_layBlocks_33 (by decide) [1, 2, 3, 4, 0] rfl ?_
      refine wG_lv (L' := [(0, .ref (xB X + 111)), (1, .int x1_2), (2, .int x2_6), (3, .int x3_10), (4, .int x4_13)]) [0, 1, 2, 3, 4] rfl ?_
      refine wG_bind (wL_X12_layBlocks_35 C hN h x1_1 x1_2 h_3 x2_5 x2_6 h_7 x3_9 x3_10 h_11 x4_13 FU x4_13 h_11) (fun t_16 => (?_ : wG X 5 _ _ N t_16 (rq q) 0 0 97 [(0, .ref (xB X + 111)), (1, .int x1_2), (2, .int x2_6), (3, .int x3_10)] []))
      refine wG_iinc C (v := 1) (LL := fun x3_24 => [(0, .ref (xB X + 111)), (1, .int x1_2), (2, .int x2_6), (3, .int x3_24)]) dX12_layBlocks_97 3 rfl (by decide) (by decide) [1, 2, 3, 0] (fun _ => rfl) (fun x3_24 => ?_)
      refine wG_goto C dX12_layBlocks_100 ?_
      exact wG_lv [0, 1, 2, 3] rfl (ih x3_24 t_16)
set_option maxRecDepth 4000 in
theorem wL_X12_layBlocks_12 {X : wX} (C : Cx X yX12_layBlocks cX12_layBlocks 5 none rm_X12_layBlocks) {N : Nat} {q : Qp} (hN : 137 ≤ N) (h : Hp) (x1_1 : Int32) (x1_2 : Int32) (h_3 : Hp) (x2_5 : Int32) : ∀ n x2_6 h_7, wG X 5 (fun (t_8 : Hp) Q => gQ X 5 Q N t_8 (rq q) 0 0 109 [(0, .ref (xB X + 111)), (1, .int x1_2)] []) (L_X12_layBlocks_12 x1_2 n x2_6 h_7) N h_7 (rq q) 0 0 12 [(0, .ref (xB X + 111)), (1, .int x1_2), (2, .int x2_6)] [] := by
  intro n
  induction n with
  | zero => intro _ _; exact wG_none
  | succ n ih =>
    intro x2_6 h_7
    refine wG_of (L_X12_layBlocks_12.eq_2 ..) ?_
    refine wG_iload_n C dX12_layBlocks_12 2 rfl ?_
    refine wG_aload_n C dX12_layBlocks_13 0 rfl ?_
    refine wG_getI C fl_X12_23_8 rfl kd_111 (wll hN (by decide)) dX12_layBlocks_14 ?_
    refine wG_icmp_ge C dX12_layBlocks_17 ?_ ?_
    · exact wG_exit (fun Q e => gQ_lv [0, 1] rfl e)
    · refine wG_iconst C dX12_layBlocks_20 (v := 1) (by decide) ?_
      refine wG_nmI (fun x3_9 => ?_)
      refine wG_istore_n C (L' := [(0, .ref (xB X + 111)), (1, .int x1_2), (2, .int x2_6), (3, .int x3_9)]) dX12_layBlocks_21 (by decide) [1, 2, 3, 0] rfl ?_
      refine wG_lv (L' := [(0, .ref (xB X + 111)), (1, .int x1_2), (2, .int x2_6), (3, .int x3_9)]) [0, 1, 2, 3] rfl ?_
      refine wG_bind (wL_X12_layBlocks_22 C hN h x1_1 x1_2 h_3 x2_5 x2_6 h_7 x3_9 FU x3_9 h_7) (fun t_12 => (?_ : wG X 5 _ _ N t_12 (rq q) 0 0 103 [(0, .ref (xB X + 111)), (1, .int x1_2), (2, .int x2_6)] []))
      refine wG_iinc C (v := 1) (LL := fun x2_25 => [(0, .ref (xB X + 111)), (1, .int x1_2), (2, .int x2_25)]) dX12_layBlocks_103 2 rfl (by decide) (by decide) [1, 2, 0] (fun _ => rfl) (fun x2_25 => ?_)
      refine wG_goto C dX12_layBlocks_106 ?_
      exact wG_lv [0, 1, 2] rfl (ih x2_25 t_12)
set_option maxRecDepth 4000 in
theorem wL_X12_layBlocks_2 {X : wX} (C : Cx X yX12_layBlocks cX12_layBlocks 5 none rm_X12_layBlocks) {N : Nat} {q : Qp} (hN : 137 ≤ N) (h : Hp) (x1_1 : Int32) : ∀ n x1_2 h_3, wG X 5 (fun (t_4 : Hp) Q => gQ X 5 Q N t_4 (rq q) 0 0 115 [] []) (L_X12_layBlocks_2 n x1_2 h_3) N h_3 (rq q) 0 0 2 [(0, .ref (xB X + 111)), (1, .int x1_2)] [] := by
  intro n
  induction n with
  | zero => intro _ _; exact wG_none
  | succ n ih =>
    intro x1_2 h_3
    refine wG_of (L_X12_layBlocks_2.eq_2 ..) ?_
    refine wG_iload_n C dX12_layBlocks_2 1 rfl ?_
    refine wG_aload_n C dX12_layBlocks_3 0 rfl ?_
    refine wG_getI C fl_X12_20_8 rfl kd_111 (wll hN (by decide)) dX12_layBlocks_4 ?_
    refine wG_icmp_ge C dX12_layBlocks_7 ?_ ?_
    · exact wG_exit (fun Q e => gQ_lv [] rfl e)
    · refine wG_iconst C dX12_layBlocks_10 (v := 0) (by decide) ?_
      refine wG_nmI (fun x2_5 => ?_)
      refine wG_istore_n C (L' := [(0, .ref (xB X + 111)), (1, .int x1_2), (2, .int x2_5)]) dX12_layBlocks_11 (by decide) [1, 2, 0] rfl ?_
      refine wG_lv (L' := [(0, .ref (xB X + 111)), (1, .int x1_2), (2, .int x2_5)]) [0, 1, 2] rfl ?_
      refine wG_bind (wL_X12_layBlocks_12 C hN h x1_1 x1_2 h_3 x2_5 FU x2_5 h_3) (fun t_8 => (?_ : wG X 5 _ _ N t_8 (rq q) 0 0 109 [(0, .ref (xB X + 111)), (1, .int x1_2)] []))
      refine wG_iinc C (v := 1) (LL := fun x1_26 => [(0, .ref (xB X + 111)), (1, .int x1_26)]) dX12_layBlocks_109 1 rfl (by decide) (by decide) [1, 0] (fun _ => rfl) (fun x1_26 => ?_)
      refine wG_goto C dX12_layBlocks_112 ?_
      exact wG_lv [0, 1] rfl (ih x1_26 t_8)
set_option maxRecDepth 4000 in
theorem w_X12_layBlocks {X : wX} (C : Cx X yX12_layBlocks cX12_layBlocks 5 none rm_X12_layBlocks) {N : Nat} {q : Qp} (hN : 137 ≤ N) (h : Hp) : wG X 5 (eM X (fun u => (none, N, u, (rq q)))) (f_X12_layBlocks h) N h (rq q) 0 0 0 [(0, .ref (xB X + 111))] [] := by
  refine wG_of (f_X12_layBlocks.eq_1 ..) ?_
  refine wG_iconst C dX12_layBlocks_0 (v := 0) (by decide) ?_
  refine wG_nmI (fun x1_1 => ?_)
  refine wG_istore_n C (L' := [(0, .ref (xB X + 111)), (1, .int x1_1)]) dX12_layBlocks_1 (by decide) [1, 0] rfl ?_
  refine wG_lv (L' := [(0, .ref (xB X + 111)), (1, .int x1_1)]) [0, 1] rfl ?_
  refine wG_bind (wL_X12_layBlocks_2 C hN h x1_1 FU x1_1 h) (fun t_4 => (?_ : wG X 5 _ _ N t_4 (rq q) 0 0 115 [] []))
  exact wG_vret C dX12_layBlocks_115 ⟨by decide, by decide⟩ (fun _ e => e)
theorem c_X12_layBlocks (l : Launch) (E : wE) (N : Nat) (q : Qp) (hN : 137 ≤ N) (h : Hp) : ∀ z, f_X12_layBlocks h = some z → CT l E yX12_layBlocks cX12_layBlocks 5 none rm_X12_layBlocks [.ref (eB E + 111)] N h (rq q) ((fun u => (none, N, u, (rq q))) z) := CT.of (by decide +kernel) (Nat.le_of_ble_eq_true rfl) (fun X _ e C => by subst e; exact w_X12_layBlocks C hN h)
def rm_X12_isAsk : Room := { frames := 1, cells := 0, slots := 0, locals := 25 }
def f_X12_isAsk (h : Hp) (x1 : Int32) (x2 : Int32) : Option Int32 :=
  if inB x1 1296 then
  if inB x2 4 then
  if inB x2 4 then
  if inB x2 4 then
  (f_X12_in ((h 129 (ix x1)).toInt64) ((h 126 (ix x2)).toInt64) (((h 126 (ix x2)) + (h 127 (ix x2))).toInt64)).bind fun u_1 =>
  (if u_1 = 0 then
  some 0
  else
  if inB x1 1296 then
  if inB x2 4 then
  (if (h 128 (ix x2)) < (h 130 (ix x1)) then
  some 0
  else
  some 1) else none else none) else none else none else none else none
set_option maxRecDepth 4000 in
theorem w_X12_isAsk {X : wX} (C : Cx X yX12_isAsk cX12_isAsk 3 (some .boolean) rm_X12_isAsk) {N : Nat} {q : Qp} (hN : 137 ≤ N) (h : Hp) (x1 : Int32) (x2 : Int32) : wG X 3 (eM X (fun u => (some (.int u), N, h, (rq q)))) (f_X12_isAsk h x1 x2) N h (rq q) 0 0 0 [(0, .ref (xB X + 111)), (1, .int x1), (2, .int x2)] [] := by
  refine wG_of (f_X12_isAsk.eq_1 ..) ?_
  refine wG_aload_n C dX12_isAsk_0 0 rfl ?_
  refine wG_getR C fl_X12_75_8 rfl kd_111 (wll hN (by decide)) (rf_111_30 q) dX12_isAsk_1 ?_
  refine wG_iload_n C dX12_isAsk_4 1 rfl ?_
  refine wG_iald C kd_129 (wll hN (by decide)) ln_129 dX12_isAsk_5 ?_
  refine wG_i2l C dX12_isAsk_6 ?_
  refine wG_aload_n C dX12_isAsk_7 0 rfl ?_
  refine wG_getR C fl_X12_66_8 rfl kd_111 (wll hN (by decide)) (rf_111_27 q) dX12_isAsk_8 ?_
  refine wG_iload_n C dX12_isAsk_11 2 rfl ?_
  refine wG_iald C kd_126 (wll hN (by decide)) ln_126 dX12_isAsk_12 ?_
  refine wG_i2l C dX12_isAsk_13 ?_
  refine wG_aload_n C dX12_isAsk_14 0 rfl ?_
  refine wG_getR C fl_X12_66_8 rfl kd_111 (wll hN (by decide)) (rf_111_27 q) dX12_isAsk_15 ?_
  refine wG_iload_n C dX12_isAsk_18 2 rfl ?_
  refine wG_iald C kd_126 (wll hN (by decide)) ln_126 dX12_isAsk_19 ?_
  refine wG_aload_n C dX12_isAsk_20 0 rfl ?_
  refine wG_getR C fl_X12_69_8 rfl kd_111 (wll hN (by decide)) (rf_111_28 q) dX12_isAsk_21 ?_
  refine wG_iload_n C dX12_isAsk_24 2 rfl ?_
  refine wG_iald C kd_127 (wll hN (by decide)) ln_127 dX12_isAsk_25 ?_
  refine wG_iadd C dX12_isAsk_26 ?_
  refine wG_i2l C dX12_isAsk_27 ?_
  refine wG_cS_ri [.long ((h 129 (ix x1)).toInt64), .long ((h 126 (ix x2)).toInt64), .long (((h 126 (ix x2)) + (h 127 (ix x2))).toInt64)] [] C sw_X12_113 (c_X12_in (xl X) (xE X) N q hN h ((h 129 (ix x1)).toInt64) ((h 126 (ix x2)).toInt64) (((h 126 (ix x2)) + (h 127 (ix x2))).toInt64)) (by decide) rfl rfl (Nat.le_of_ble_eq_true rfl) dX12_isAsk_28 (cl' := 0) (sl' := 0) rfl rfl (fun u_1 => ?_)
  refine wG_if_eq C dX12_isAsk_31 ?_ ?_
  · refine wG_iconst C dX12_isAsk_53 (v := 0) (by decide) ?_
    exact wG_zret C dX12_isAsk_54 rfl ⟨by decide, by decide⟩ (fun _ e => e)
  · refine wG_aload_n C dX12_isAsk_34 0 rfl ?_
    refine wG_getR C fl_X12_78_8 rfl kd_111 (wll hN (by decide)) (rf_111_31 q) dX12_isAsk_35 ?_
    refine wG_iload_n C dX12_isAsk_38 1 rfl ?_
    refine wG_iald C kd_130 (wll hN (by decide)) ln_130 dX12_isAsk_39 ?_
    refine wG_aload_n C dX12_isAsk_40 0 rfl ?_
    refine wG_getR C fl_X12_72_8 rfl kd_111 (wll hN (by decide)) (rf_111_29 q) dX12_isAsk_41 ?_
    refine wG_iload_n C dX12_isAsk_44 2 rfl ?_
    refine wG_iald C kd_128 (wll hN (by decide)) ln_128 dX12_isAsk_45 ?_
    refine wG_icmp_gt C dX12_isAsk_46 ?_ ?_
    · refine wG_iconst C dX12_isAsk_53 (v := 0) (by decide) ?_
      exact wG_zret C dX12_isAsk_54 rfl ⟨by decide, by decide⟩ (fun _ e => e)
    · refine wG_iconst C dX12_isAsk_49 (v := 1) (by decide) ?_
      refine wG_goto C dX12_isAsk_50 ?_
      exact wG_zret C dX12_isAsk_54 rfl ⟨by decide, by decide⟩ (fun _ e => e)
theorem c_X12_isAsk (l : Launch) (E : wE) (N : Nat) (q : Qp) (hN : 137 ≤ N) (h : Hp) (x1 : Int32) (x2 : Int32) : ∀ z, f_X12_isAsk h x1 x2 = some z → CT l E yX12_isAsk cX12_isAsk 3 (some .boolean) rm_X12_isAsk [.ref (eB E + 111), .int x1, .int x2] N h (rq q) ((fun u => (some (.int u), N, h, (rq q))) z) := CT.of (by decide +kernel) (Nat.le_of_ble_eq_true rfl) (fun X _ e C => by subst e; exact w_X12_isAsk C hN h x1 x2)
