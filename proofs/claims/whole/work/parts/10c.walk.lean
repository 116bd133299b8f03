def rm_X8_costOfAll_O : Room := { frames := 1, cells := 0, slots := 0, locals := 26 }
def f_X8_costOfAll_O (h : Hp) (x1 : Int32) : Option Int32 :=
  (f_X8_spotOf_O h 0 0 (h 3 3) (h 3 4)).bind fun u_1 =>
  if inB (u_1 + x1) 7056 then
  some (h 42 (ix (u_1 + x1))) else none
set_option maxRecDepth 4000 in
theorem w_X8_costOfAll_O {X : wX} (C : Cx X yX8_costOfAll cX8_costOfAll 2 (some .int) rm_X8_costOfAll_O) {N : Nat} {q : Qp} (hN : 137 ≤ N) (h : Hp) (x1 : Int32) : wG X 2 (eM X (fun u => (some (.int u), N, h, (rq q)))) (f_X8_costOfAll_O h x1) N h (rq q) 0 0 0 [(0, .ref (xB X + 41)), (1, .int x1)] [] := by
  refine wG_of (f_X8_costOfAll_O.eq_1 ..) ?_
  refine wG_aload_n C dX8_costOfAll_0 0 rfl ?_
  refine wG_getR C fl_X8_25_6 rfl kd_41 (wll hN (by decide)) (rf_41_2 q) dX8_costOfAll_1 ?_
  refine wG_aload_n C dX8_costOfAll_4 0 rfl ?_
  refine wG_iconst C dX8_costOfAll_5 (v := 0) (by decide) ?_
  refine wG_iconst C dX8_costOfAll_6 (v := 0) (by decide) ?_
  refine wG_aload_n C dX8_costOfAll_7 0 rfl ?_
  refine wG_getR C fl_X8_9_6 rfl kd_41 (wll hN (by decide)) (rf_41_0 q) dX8_costOfAll_8 ?_
  refine wG_getI C fl_X8_29_4 rfl kd_3 (wll hN (by decide)) dX8_costOfAll_11 ?_
  refine wG_aload_n C dX8_costOfAll_14 0 rfl ?_
  refine wG_getR C fl_X8_9_6 rfl kd_41 (wll hN (by decide)) (rf_41_0 q) dX8_costOfAll_15 ?_
  refine wG_getI C fl_X8_34_4 rfl kd_3 (wll hN (by decide)) dX8_costOfAll_18 ?_
  refine wG_cU_ri [.int 0, .int 0, .int (h 3 3), .int (h 3 4)] [.ref (xB X + 42)] C uw_X8_44_6 (c_X8_spotOf_O (xl X) (xE X) N q hN h 0 0 (h 3 3) (h 3 4)) kd_41 (wll hN (by decide)) (by decide) rfl rfl (Nat.le_of_ble_eq_true rfl) dX8_costOfAll_21 (cl' := 0) (sl' := 0) rfl rfl (fun u_1 => ?_)
  refine wG_iload_n C dX8_costOfAll_24 1 rfl ?_
  refine wG_iadd C dX8_costOfAll_25 ?_
  refine wG_iald C kd_42 (wll hN (by decide)) ln_42 dX8_costOfAll_26 ?_
  exact wG_iret C dX8_costOfAll_27 ⟨by decide, by decide⟩ (fun _ e => e)
theorem c_X8_costOfAll_O (l : Launch) (E : wE) (N : Nat) (q : Qp) (hN : 137 ≤ N) (h : Hp) (x1 : Int32) : ∀ z, f_X8_costOfAll_O h x1 = some z → CT l E yX8_costOfAll cX8_costOfAll 2 (some .int) rm_X8_costOfAll_O [.ref (eB E + 41), .int x1] N h (rq q) ((fun u => (some (.int u), N, h, (rq q))) z) := CT.of (by decide +kernel) (Nat.le_of_ble_eq_true rfl) (fun X _ e C => by subst e; exact w_X8_costOfAll_O C hN h x1)
def rm_X6_shortest : Room := { frames := 5, cells := 0, slots := 0, locals := 135 }
def f_X6_shortest (q : Qp) (h : Hp) : Option (Int32 × Hp) :=
  ((if (h 41 6) = 0 then
  (f_X6_addUpWishes q h).bind fun u_2 =>
  (f_X6_everyAsk u_2).bind fun u_3 =>
  (f_X8_workOut_O q u_2 u_3).bind fun u_4 =>
  vB (u2 u_4 41 6 1) fun h_5 =>
  some h_5
  else
  some h)).bind fun t_1 =>
  (f_X6_everyAsk t_1).bind fun u_6 =>
  (f_X8_costOfAll_O t_1 u_6).bind fun u_7 =>
  some (u_7, t_1)
set_option maxRecDepth 4000 in
theorem w_X6_shortest {X : wX} (C : Cx X yX6_shortest cX6_shortest 1 (some .int) rm_X6_shortest) {N : Nat} {q : Qp} (hN : 137 ≤ N) (h : Hp) : wG X 1 (eM X (fun u => (some (.int u.1), N, u.2, (rq q)))) (f_X6_shortest q h) N h (rq q) 0 0 0 [(0, .ref (xB X + 41))] [] := by
  refine wG_of (f_X6_shortest.eq_1 ..) ?_
  refine wG_aload_n C dX6_shortest_0 0 rfl ?_
  refine wG_getI C fl_X6_25_6 rfl kd_41 (wll hN (by decide)) dX6_shortest_1 ?_
  refine wG_bind (J := (fun (t_1 : Hp) Q => gQ X 1 Q N t_1 (rq q) 0 0 24 [(0, .ref (xB X + 41))] [])) ?_ (fun t_1 => (?_ : wG X 1 _ _ N t_1 (rq q) 0 0 24 [(0, .ref (xB X + 41))] []))
  · refine wG_if_ne C dX6_shortest_4 ?_ ?_
    · refine wG_aload_n C dX6_shortest_7 0 rfl ?_
      refine wG_cV_wv [] [] C vw_X6_29 (c_X6_addUpWishes (xl X) (xE X) N q hN h) kd_41 (wll hN (by decide)) (by decide) rfl rfl (Nat.le_of_ble_eq_true rfl) dX6_shortest_8 (cl' := 0) (sl' := 0) rfl rfl (fun u_2 => ?_)
      refine wG_aload_n C dX6_shortest_11 0 rfl ?_
      refine wG_aload_n C dX6_shortest_12 0 rfl ?_
      refine wG_cV_ri [] [.ref (xB X + 41)] C vw_X6_33 (c_X6_everyAsk (xl X) (xE X) N q hN u_2) kd_41 (wll hN (by decide)) (by decide) rfl rfl (Nat.le_of_ble_eq_true rfl) dX6_shortest_13 (cl' := 0) (sl' := 0) rfl rfl (fun u_3 => ?_)
      refine wG_cU_wv [.int u_3] [] C uw_X6_37_6 (c_X8_workOut_O (xl X) (xE X) N q hN u_2 u_3) kd_41 (wll hN (by decide)) (by decide) rfl rfl (Nat.le_of_ble_eq_true rfl) dX6_shortest_16 (cl' := 0) (sl' := 0) rfl rfl (fun u_4 => ?_)
      refine wG_aload_n C dX6_shortest_19 0 rfl ?_
      refine wG_iconst C dX6_shortest_20 (v := 1) (by decide) ?_
      refine wG_putZ C fl_X6_25_6 (fp_6_6 _) (fun e => Bool.noConfusion e) rfl kd_41 (wll hN (by decide)) rfl rfl dX6_shortest_21 (fun h_5 => ?_)
      exact wG_exit (fun Q e => gQ_lv [0] rfl e)
    · exact wG_exit (fun Q e => gQ_lv [0] rfl e)
  · refine wG_aload_n C dX6_shortest_24 0 rfl ?_
    refine wG_aload_n C dX6_shortest_25 0 rfl ?_
    refine wG_cV_ri [] [.ref (xB X + 41)] C vw_X6_33 (c_X6_everyAsk (xl X) (xE X) N q hN t_1) kd_41 (wll hN (by decide)) (by decide) rfl rfl (Nat.le_of_ble_eq_true rfl) dX6_shortest_26 (cl' := 0) (sl' := 0) rfl rfl (fun u_6 => ?_)
    refine wG_cU_ri [.int u_6] [] C uw_X6_41_6 (c_X8_costOfAll_O (xl X) (xE X) N q hN t_1 u_6) kd_41 (wll hN (by decide)) (by decide) rfl rfl (Nat.le_of_ble_eq_true rfl) dX6_shortest_29 (cl' := 0) (sl' := 0) rfl rfl (fun u_7 => ?_)
    exact wG_iret C dX6_shortest_32 ⟨by decide, by decide⟩ (fun _ e => e)
theorem c_X6_shortest (l : Launch) (E : wE) (N : Nat) (q : Qp) (hN : 137 ≤ N) (h : Hp) : ∀ z, f_X6_shortest q h = some z → CT l E yX6_shortest cX6_shortest 1 (some .int) rm_X6_shortest [.ref (eB E + 41)] N h (rq q) ((fun u => (some (.int u.1), N, u.2, (rq q))) z) := CT.of (by decide +kernel) (Nat.le_of_ble_eq_true rfl) (fun X _ e C => by subst e; exact w_X6_shortest C hN h)
def rm_X11_whole : Room := { frames := 6, cells := 0, slots := 0, locals := 155 }
def f_X11_whole (q : Qp) (h : Hp) : Option (Int32 × Hp) :=
  (f_X6_shortest q h).bind fun u_1 =>
  vB u_1.1 fun (x1_2 : Int32) =>
  (if (1000000 : Int32) ≤ x1_2 then
  some ((-9), u_1.2)
  else
  some (x1_2, u_1.2))
set_option maxRecDepth 4000 in
theorem w_X11_whole {X : wX} (C : Cx X yX11_whole cX11_whole 2 (some .int) rm_X11_whole) {N : Nat} {q : Qp} (hN : 137 ≤ N) (h : Hp) : wG X 2 (eM X (fun u => (some (.int u.1), N, u.2, (rq q)))) (f_X11_whole q h) N h (rq q) 0 0 0 [(0, .ref (xB X + 0))] [] := by
  refine wG_of (f_X11_whole.eq_1 ..) ?_
  refine wG_aload_n C dX11_whole_0 0 rfl ?_
  refine wG_getR C fl_X11_48_11 rfl kd_0 (wll hN (by decide)) (rf_0_5 q) dX11_whole_1 ?_
  refine wG_cV_wi [] [] C vw_X11_227 (c_X6_shortest (xl X) (xE X) N q hN h) kd_41 (wll hN (by decide)) (by decide) rfl rfl (Nat.le_of_ble_eq_true rfl) dX11_whole_4 (cl' := 0) (sl' := 0) rfl rfl (fun u_1 => ?_)
  refine wG_nmI (fun x1_2 => ?_)
  refine wG_istore_n C (L' := [(1, .int x1_2)]) dX11_whole_7 (by decide) [0] rfl ?_
  refine wG_iload_n C dX11_whole_8 0 rfl ?_
  refine wG_ldc C dX11_whole_9 m_688 ?_
  refine wG_icmp_ge C dX11_whole_11 ?_ ?_
  · refine wG_bipush C dX11_whole_18 (v := (-9)) (by decide) ?_
    exact wG_iret C dX11_whole_20 ⟨by decide, by decide⟩ (fun _ e => e)
  · refine wG_iload_n C dX11_whole_14 0 rfl ?_
    refine wG_goto C dX11_whole_15 ?_
    exact wG_iret C dX11_whole_20 ⟨by decide, by decide⟩ (fun _ e => e)
theorem c_X11_whole (l : Launch) (E : wE) (N : Nat) (q : Qp) (hN : 137 ≤ N) (h : Hp) : ∀ z, f_X11_whole q h = some z → CT l E yX11_whole cX11_whole 2 (some .int) rm_X11_whole [.ref (eB E + 0)] N h (rq q) ((fun u => (some (.int u.1), N, u.2, (rq q))) z) := CT.of (by decide +kernel) (Nat.le_of_ble_eq_true rfl) (fun X _ e C => by subst e; exact w_X11_whole C hN h)
def rm_X6_firstCut : Room := { frames := 2, cells := 0, slots := 0, locals := 55 }
def L_X6_firstCut_15 (h : Hp) (x1 : Int32) (K : Unit → Option Int32) : Nat → Int32 → Option Int32
  | 0, _ => none
  | n + 1, x2_2 =>
    (if (h 3 3) ≤ x2_2 then
    K ()
    else
    (f_X6_everyAsk h).bind fun u_4 =>
    (f_X8_cutCost_O h 0 0 (h 3 3) (h 3 4) 1 x2_2 u_4).bind fun u_5 =>
    (if u_5 = x1 then
    some x2_2
    else
    vB (x2_2 + 1) fun (x2_6 : Int32) =>
    L_X6_firstCut_15 h x1 K n x2_6))
def L_X6_firstCut_66 (h : Hp) (x1 : Int32) (K : Unit → Option Int32) : Nat → Int32 → Option Int32
  | 0, _ => none
  | n + 1, x2_8 =>
    (if (h 3 4) ≤ x2_8 then
    K ()
    else
    (f_X6_everyAsk h).bind fun u_10 =>
    (f_X8_cutCost_O h 0 0 (h 3 3) (h 3 4) 0 x2_8 u_10).bind fun u_11 =>
    (if u_11 = x1 then
    some (100 + x2_8)
    else
    vB (x2_8 + 1) fun (x2_12 : Int32) =>
    L_X6_firstCut_66 h x1 K n x2_12))
def f_X6_firstCut (h : Hp) (x1 : Int32) : Option Int32 :=
  (if x1 = 0 then
  some (-9)
  else
  (if x1 < 1000000 then
  vB 1 fun (x2_1 : Int32) =>
  L_X6_firstCut_15 h x1 (fun (t_3 : Unit) =>
  vB 1 fun (x2_7 : Int32) =>
  L_X6_firstCut_66 h x1 (fun (t_9 : Unit) =>
  some (-9)) FU x2_7) FU x2_1
  else
  some (-9)))
set_option maxRecDepth 4000 in
theorem wL_X6_firstCut_15 {X : wX} (C : Cx X yX6_firstCut cX6_firstCut 3 (some .int) rm_X6_firstCut) {N : Nat} {q : Qp} (hN : 137 ≤ N) (h : Hp) (x1 : Int32) (x2_1 : Int32) (K : Unit → Option Int32) (hK : ∀ t_3, wG X 3 (eM X (fun u => (some (.int u), N, h, (rq q)))) (K t_3) N h (rq q) 0 0 64 [(0, .ref (xB X + 41)), (1, .int x1)] []) : ∀ n x2_2, wG X 3 (eM X (fun u => (some (.int u), N, h, (rq q)))) (L_X6_firstCut_15 h x1 K n x2_2) N h (rq q) 0 0 15 [(0, .ref (xB X + 41)), (1, .int x1), (2, .int x2_2)] [] := by
  intro n
  induction n with
  | zero => intro _; exact wG_none
  | succ n ih =>
    intro x2_2
    refine wG_of (L_X6_firstCut_15.eq_2 ..) ?_
    refine wG_iload_n C dX6_firstCut_15 2 rfl ?_
    refine wG_aload_n C dX6_firstCut_16 0 rfl ?_
    refine wG_getR C fl_X6_49_6 rfl kd_41 (wll hN (by decide)) (rf_41_0 q) dX6_firstCut_17 ?_
    refine wG_getI C fl_X6_53_4 rfl kd_3 (wll hN (by decide)) dX6_firstCut_20 ?_
    refine wG_icmp_ge C dX6_firstCut_23 ?_ ?_
    · exact wG_lv [0, 1] rfl (hK ())
    · refine wG_aload_n C dX6_firstCut_26 0 rfl ?_
      refine wG_iconst C dX6_firstCut_27 (v := 0) (by decide) ?_
      refine wG_iconst C dX6_firstCut_28 (v := 0) (by decide) ?_
      refine wG_aload_n C dX6_firstCut_29 0 rfl ?_
      refine wG_getR C fl_X6_49_6 rfl kd_41 (wll hN (by decide)) (rf_41_0 q) dX6_firstCut_30 ?_
      refine wG_getI C fl_X6_53_4 rfl kd_3 (wll hN (by decide)) dX6_firstCut_33 ?_
      refine wG_aload_n C dX6_firstCut_36 0 rfl ?_
      refine wG_getR C fl_X6_49_6 rfl kd_41 (wll hN (by decide)) (rf_41_0 q) dX6_firstCut_37 ?_
      refine wG_getI C fl_X6_58_4 rfl kd_3 (wll hN (by decide)) dX6_firstCut_40 ?_
      refine wG_iconst C dX6_firstCut_43 (v := 1) (by decide) ?_
      refine wG_iload_n C dX6_firstCut_44 2 rfl ?_
      refine wG_aload_n C dX6_firstCut_45 0 rfl ?_
      refine wG_cV_ri [] [.int x2_2, .int 1, .int (h 3 4), .int (h 3 3), .int 0, .int 0, .ref (xB X + 41)] C vw_X6_33 (c_X6_everyAsk (xl X) (xE X) N q hN h) kd_41 (wll hN (by decide)) (by decide) rfl rfl (Nat.le_of_ble_eq_true rfl) dX6_firstCut_46 (cl' := 0) (sl' := 0) rfl rfl (fun u_4 => ?_)
      refine wG_cU_ri [.int 0, .int 0, .int (h 3 3), .int (h 3 4), .int 1, .int x2_2, .int u_4] [] C uw_X6_61_6 (c_X8_cutCost_O (xl X) (xE X) N q hN h 0 0 (h 3 3) (h 3 4) 1 x2_2 u_4) kd_41 (wll hN (by decide)) (by decide) rfl rfl (Nat.le_of_ble_eq_true rfl) dX6_firstCut_49 (cl' := 0) (sl' := 0) rfl rfl (fun u_5 => ?_)
      refine wG_iload_n C dX6_firstCut_52 1 rfl ?_
      refine wG_icmp_ne C dX6_firstCut_53 ?_ ?_
      · refine wG_iload_n C dX6_firstCut_56 2 rfl ?_
        exact wG_iret C dX6_firstCut_57 ⟨by decide, by decide⟩ (fun _ e => e)
      · refine wG_iinc C (v := 1) (LL := fun x2_6 => [(0, .ref (xB X + 41)), (1, .int x1), (2, .int x2_6)]) dX6_firstCut_58 2 rfl (by decide) (by decide) [1, 2, 0] (fun _ => rfl) (fun x2_6 => ?_)
        refine wG_goto C dX6_firstCut_61 ?_
        exact wG_lv [0, 1, 2] rfl (ih x2_6)
set_option maxRecDepth 4000 in
theorem wL_X6_firstCut_66 {X : wX} (C : Cx X yX6_firstCut cX6_firstCut 3 (some .int) rm_X6_firstCut) {N : Nat} {q : Qp} (hN : 137 ≤ N) (h : Hp) (x1 : Int32) (x2_1 : Int32) (t_3 : Unit) (x2_7 : Int32) (K : Unit → Option Int32) (hK : ∀ t_9, wG X 3 (eM X (fun u => (some (.int u), N, h, (rq q)))) (K t_9) N h (rq q) 0 0 118 [] []) : ∀ n x2_8, wG X 3 (eM X (fun u => (some (.int u), N, h, (rq q)))) (L_X6_firstCut_66 h x1 K n x2_8) N h (rq q) 0 0 66 [(0, .ref (xB X + 41)), (1, .int x1), (2, .int x2_8)] [] := by
  intro n
  induction n with
  | zero => intro _; exact wG_none
  | succ n ih =>
    intro x2_8
    refine wG_of (L_X6_firstCut_66.eq_2 ..) ?_
    refine wG_iload_n C dX6_firstCut_66 2 rfl ?_
    refine wG_aload_n C dX6_firstCut_67 0 rfl ?_
    refine wG_getR C fl_X6_49_6 rfl kd_41 (wll hN (by decide)) (rf_41_0 q) dX6_firstCut_68 ?_
    refine wG_getI C fl_X6_58_4 rfl kd_3 (wll hN (by decide)) dX6_firstCut_71 ?_
    refine wG_icmp_ge C dX6_firstCut_74 ?_ ?_
    · exact wG_lv [] rfl (hK ())
    · refine wG_aload_n C dX6_firstCut_77 0 rfl ?_
      refine wG_iconst C dX6_firstCut_78 (v := 0) (by decide) ?_
      refine wG_iconst C dX6_firstCut_79 (v := 0) (by decide) ?_
      refine wG_aload_n C dX6_firstCut_80 0 rfl ?_
      refine wG_getR C fl_X6_49_6 rfl kd_41 (wll hN (by decide)) (rf_41_0 q) dX6_firstCut_81 ?_
      refine wG_getI C fl_X6_53_4 rfl kd_3 (wll hN (by decide)) dX6_firstCut_84 ?_
      refine wG_aload_n C dX6_firstCut_87 0 rfl ?_
      refine wG_getR C fl_X6_49_6 rfl kd_41 (wll hN (by decide)) (rf_41_0 q) dX6_firstCut_88 ?_
      refine wG_getI C fl_X6_58_4 rfl kd_3 (wll hN (by decide)) dX6_firstCut_91 ?_
      refine wG_iconst C dX6_firstCut_94 (v := 0) (by decide) ?_
      refine wG_iload_n C dX6_firstCut_95 2 rfl ?_
      refine wG_aload_n C dX6_firstCut_96 0 rfl ?_
      refine wG_cV_ri [] [.int x2_8, .int 0, .int (h 3 4), .int (h 3 3), .int 0, .int 0, .ref (xB X + 41)] C vw_X6_33 (c_X6_everyAsk (xl X) (xE X) N q hN h) kd_41 (wll hN (by decide)) (by decide) rfl rfl (Nat.le_of_ble_eq_true rfl) dX6_firstCut_97 (cl' := 0) (sl' := 0) rfl rfl (fun u_10 => ?_)
      refine wG_cU_ri [.int 0, .int 0, .int (h 3 3), .int (h 3 4), .int 0, .int x2_8, .int u_10] [] C uw_X6_61_6 (c_X8_cutCost_O (xl X) (xE X) N q hN h 0 0 (h 3 3) (h 3 4) 0 x2_8 u_10) kd_41 (wll hN (by decide)) (by decide) rfl rfl (Nat.le_of_ble_eq_true rfl) dX6_firstCut_100 (cl' := 0) (sl' := 0) rfl rfl (fun u_11 => ?_)
      refine wG_iload_n C dX6_firstCut_103 1 rfl ?_
      refine wG_icmp_ne C dX6_firstCut_104 ?_ ?_
      · refine wG_bipush C dX6_firstCut_107 (v := 100) (by decide) ?_
        refine wG_iload_n C dX6_firstCut_109 2 rfl ?_
        refine wG_iadd C dX6_firstCut_110 ?_
        exact wG_iret C dX6_firstCut_111 ⟨by decide, by decide⟩ (fun _ e => e)
      · refine wG_iinc C (v := 1) (LL := fun x2_12 => [(0, .ref (xB X + 41)), (1, .int x1), (2, .int x2_12)]) dX6_firstCut_112 2 rfl (by decide) (by decide) [1, 2, 0] (fun _ => rfl) (fun x2_12 => ?_)
        refine wG_goto C dX6_firstCut_115 ?_
        exact wG_lv [0, 1, 2] rfl (ih x2_12)
set_option maxRecDepth 4000 in
theorem w_X6_firstCut {X : wX} (C : Cx X yX6_firstCut cX6_firstCut 3 (some .int) rm_X6_firstCut) {N : Nat} {q : Qp} (hN : 137 ≤ N) (h : Hp) (x1 : Int32) : wG X 3 (eM X (fun u => (some (.int u), N, h, (rq q)))) (f_X6_firstCut h x1) N h (rq q) 0 0 0 [(0, .ref (xB X + 41)), (1, .int x1)] [] := by
  refine wG_of (f_X6_firstCut.eq_1 ..) ?_
  refine wG_iload_n C dX6_firstCut_0 1 rfl ?_
  refine wG_if_eq C dX6_firstCut_1 ?_ ?_
  · refine wG_bipush C dX6_firstCut_10 (v := (-9)) (by decide) ?_
    exact wG_iret C dX6_firstCut_12 ⟨by decide, by decide⟩ (fun _ e => e)
  · refine wG_iload_n C dX6_firstCut_4 1 rfl ?_
    refine wG_ldc C dX6_firstCut_5 m_767 ?_
    refine wG_icmp_lt C dX6_firstCut_7 ?_ ?_
    · refine wG_iconst C dX6_firstCut_13 (v := 1) (by decide) ?_
      refine wG_nmI (fun x2_1 => ?_)
      refine wG_istore_n C (L' := [(0, .ref (xB X + 41)), (1, .int x1), (2, .int x2_1)]) dX6_firstCut_14 (by decide) [1, 2, 0] rfl ?_
      refine wG_lv (L' := [(0, .ref (xB X + 41)), (1, .int x1), (2, .int x2_1)]) [0, 1, 2] rfl ?_
      refine wL_X6_firstCut_15 C hN h x1 x2_1 _ (fun t_3 => (?_ : wG X 3 _ _ N h (rq q) 0 0 64 [(0, .ref (xB X + 41)), (1, .int x1)] [])) FU x2_1
      refine wG_iconst C dX6_firstCut_64 (v := 1) (by decide) ?_
      refine wG_nmI (fun x2_7 => ?_)
      refine wG_istore_n C (L' := [(0, .ref (xB X + 41)), (1, .int x1), (2, .int x2_7)]) dX6_firstCut_65 (by decide) [1, 2, 0] rfl ?_
      refine wG_lv (L' := [(0, .ref (xB X + 41)), (1, .int x1), (2, .int x2_7)]) [0, 1, 2] rfl ?_
      refine wL_X6_firstCut_66 C hN h x1 x2_1 t_3 x2_7 _ (fun t_9 => (?_ : wG X 3 _ _ N h (rq q) 0 0 118 [] [])) FU x2_7
      refine wG_bipush C dX6_firstCut_118 (v := (-9)) (by decide) ?_
      exact wG_iret C dX6_firstCut_120 ⟨by decide, by decide⟩ (fun _ e => e)
    · refine wG_bipush C dX6_firstCut_10 (v := (-9)) (by decide) ?_
      exact wG_iret C dX6_firstCut_12 ⟨by decide, by decide⟩ (fun _ e => e)
theorem c_X6_firstCut (l : Launch) (E : wE) (N : Nat) (q : Qp) (hN : 137 ≤ N) (h : Hp) (x1 : Int32) : ∀ z, f_X6_firstCut h x1 = some z → CT l E yX6_firstCut cX6_firstCut 3 (some .int) rm_X6_firstCut [.ref (eB E + 41), .int x1] N h (rq q) ((fun u => (some (.int u), N, h, (rq q))) z) := CT.of (by decide +kernel) (Nat.le_of_ble_eq_true rfl) (fun X _ e C => by subst e; exact w_X6_firstCut C hN h x1)
def rm_X11_first : Room := { frames := 6, cells := 0, slots := 0, locals := 155 }
def f_X11_first (q : Qp) (h : Hp) : Option (Int32 × Hp) :=
  (f_X6_shortest q h).bind fun u_1 =>
  (f_X6_firstCut u_1.2 u_1.1).bind fun u_2 =>
  some (u_2, u_1.2)
set_option maxRecDepth 4000 in
theorem w_X11_first {X : wX} (C : Cx X yX11_first cX11_first 1 (some .int) rm_X11_first) {N : Nat} {q : Qp} (hN : 137 ≤ N) (h : Hp) : wG X 1 (eM X (fun u => (some (.int u.1), N, u.2, (rq q)))) (f_X11_first q h) N h (rq q) 0 0 0 [(0, .ref (xB X + 0))] [] := by
  refine wG_of (f_X11_first.eq_1 ..) ?_
  refine wG_aload_n C dX11_first_0 0 rfl ?_
  refine wG_getR C fl_X11_48_11 rfl kd_0 (wll hN (by decide)) (rf_0_5 q) dX11_first_1 ?_
  refine wG_aload_n C dX11_first_4 0 rfl ?_
  refine wG_getR C fl_X11_48_11 rfl kd_0 (wll hN (by decide)) (rf_0_5 q) dX11_first_5 ?_
  refine wG_cV_wi [] [.ref (xB X + 41)] C vw_X11_227 (c_X6_shortest (xl X) (xE X) N q hN h) kd_41 (wll hN (by decide)) (by decide) rfl rfl (Nat.le_of_ble_eq_true rfl) dX11_first_8 (cl' := 0) (sl' := 0) rfl rfl (fun u_1 => ?_)
  refine wG_cV_ri [.int u_1.1] [] C vw_X11_230 (c_X6_firstCut (xl X) (xE X) N q hN u_1.2 u_1.1) kd_41 (wll hN (by decide)) (by decide) rfl rfl (Nat.le_of_ble_eq_true rfl) dX11_first_11 (cl' := 0) (sl' := 0) rfl rfl (fun u_2 => ?_)
  exact wG_iret C dX11_first_14 ⟨by decide, by decide⟩ (fun _ e => e)
theorem c_X11_first (l : Launch) (E : wE) (N : Nat) (q : Qp) (hN : 137 ≤ N) (h : Hp) : ∀ z, f_X11_first q h = some z → CT l E yX11_first cX11_first 1 (some .int) rm_X11_first [.ref (eB E + 0)] N h (rq q) ((fun u => (some (.int u.1), N, u.2, (rq q))) z) := CT.of (by decide +kernel) (Nat.le_of_ble_eq_true rfl) (fun X _ e C => by subst e; exact w_X11_first C hN h)
def rm_X8_spotOf_F : Room := { frames := 0, cells := 0, slots := 0, locals := 0 }
def f_X8_spotOf_F (h : Hp) (x1 : Int32) (x2 : Int32) (x3 : Int32) (x4 : Int32) : Option Int32 :=
  vB ((((x1 * (13 - x1)) / 2) + x3) - 1) fun (x5_1 : Int32) =>
  vB ((((x2 * (13 - x2)) / 2) + x4) - 1) fun (x6_2 : Int32) =>
  some (((x5_1 * 21) + x6_2) * (h 45 1))
set_option maxRecDepth 4000 in
theorem w_X8_spotOf_F {X : wX} (C : Cx X yX8_spotOf cX8_spotOf 7 (some .int) rm_X8_spotOf_F) {N : Nat} {q : Qp} (hN : 137 ≤ N) (h : Hp) (x1 : Int32) (x2 : Int32) (x3 : Int32) (x4 : Int32) : wG X 7 (eM X (fun u => (some (.int u), N, h, (rq q)))) (f_X8_spotOf_F h x1 x2 x3 x4) N h (rq q) 0 0 0 [(0, .ref (xB X + 45)), (1, .int x1), (2, .int x2), (3, .int x3), (4, .int x4)] [] := by
  refine wG_of (f_X8_spotOf_F.eq_1 ..) ?_
  refine wG_iload_n C dX8_spotOf_0 1 rfl ?_
  refine wG_bipush C dX8_spotOf_1 (v := 13) (by decide) ?_
  refine wG_iload_n C dX8_spotOf_3 1 rfl ?_
  refine wG_isub C dX8_spotOf_4 ?_
  refine wG_imul C dX8_spotOf_5 ?_
  refine wG_iconst C dX8_spotOf_6 (v := 2) (by decide) ?_
  refine wG_idivK C dX8_spotOf_7 (by decide) ?_
  refine wG_iload_n C dX8_spotOf_8 3 rfl ?_
  refine wG_iadd C dX8_spotOf_9 ?_
  refine wG_iconst C dX8_spotOf_10 (v := 1) (by decide) ?_
  refine wG_isub C dX8_spotOf_11 ?_
  refine wG_nmI (fun x5_1 => ?_)
  refine wG_istore C (L' := [(0, .ref (xB X + 45)), (2, .int x2), (4, .int x4), (5, .int x5_1)]) dX8_spotOf_12 (by decide) [1, 3, 5, 0] rfl ?_
  refine wG_iload_n C dX8_spotOf_14 1 rfl ?_
  refine wG_bipush C dX8_spotOf_15 (v := 13) (by decide) ?_
  refine wG_iload_n C dX8_spotOf_17 1 rfl ?_
  refine wG_isub C dX8_spotOf_18 ?_
  refine wG_imul C dX8_spotOf_19 ?_
  refine wG_iconst C dX8_spotOf_20 (v := 2) (by decide) ?_
  refine wG_idivK C dX8_spotOf_21 (by decide) ?_
  refine wG_iload C dX8_spotOf_22 2 rfl ?_
  refine wG_iadd C dX8_spotOf_24 ?_
  refine wG_iconst C dX8_spotOf_25 (v := 1) (by decide) ?_
  refine wG_isub C dX8_spotOf_26 ?_
  refine wG_nmI (fun x6_2 => ?_)
  refine wG_istore C (L' := [(0, .ref (xB X + 45)), (5, .int x5_1), (6, .int x6_2)]) dX8_spotOf_27 (by decide) [1, 4, 0] rfl ?_
  refine wG_iload C dX8_spotOf_29 1 rfl ?_
  refine wG_bipush C dX8_spotOf_31 (v := 21) (by decide) ?_
  refine wG_imul C dX8_spotOf_33 ?_
  refine wG_iload C dX8_spotOf_34 2 rfl ?_
  refine wG_iadd C dX8_spotOf_36 ?_
  refine wG_aload_n C dX8_spotOf_37 0 rfl ?_
  refine wG_getI C fl_X8_21_3 rfl kd_45 (wll hN (by decide)) dX8_spotOf_38 ?_
  refine wG_imul C dX8_spotOf_41 ?_
  exact wG_iret C dX8_spotOf_42 ⟨by decide, by decide⟩ (fun _ e => e)
theorem c_X8_spotOf_F (l : Launch) (E : wE) (N : Nat) (q : Qp) (hN : 137 ≤ N) (h : Hp) (x1 : Int32) (x2 : Int32) (x3 : Int32) (x4 : Int32) : ∀ z, f_X8_spotOf_F h x1 x2 x3 x4 = some z → CT l E yX8_spotOf cX8_spotOf 7 (some .int) rm_X8_spotOf_F [.ref (eB E + 45), .int x1, .int x2, .int x3, .int x4] N h (rq q) ((fun u => (some (.int u), N, h, (rq q))) z) := CT.of (by decide +kernel) (Nat.le_of_ble_eq_true rfl) (fun X _ e C => by subst e; exact w_X8_spotOf_F C hN h x1 x2 x3 x4)
def rm_X3_verdict : Room := { frames := 2, cells := 0, slots := 0, locals := 51 }
def f_X3_verdict (h : Hp) (x1 : Int32) (x2 : Int32) (x3 : Int32) (x4 : Int32) (x5 : Int32) : Option Int32 :=
  (f_X4_weightIn h x1 x2 x3 x4).bind fun u_1 =>
  vB u_1 fun (x6_2 : Int32) =>
  (if x6_2 = 0 then
  some 1000000
  else
  (if (h 45 3) < 1 then
  some 1000000
  else
  if (h 45 3) = 0 then none else
  (if (x6_2 - x6_2 / (h 45 3) * (h 45 3)) = 0 then
  if (h 45 3) = 0 then none else
  vB (x6_2 / (h 45 3)) fun (x7_3 : Int32) =>
  (f_X4_rindIn h x1 x2 x3 x4).bind fun u_4 =>
  (if u_4 = (x7_3 * (h 45 4)) then
  (if x7_3 = 1 then
  some 0
  else
  some (-1))
  else
  some 1000000)
  else
  some 1000000)))
set_option maxRecDepth 4000 in
theorem w_X3_verdict {X : wX} (C : Cx X yX3_verdict cX3_verdict 8 (some .int) rm_X3_verdict) {N : Nat} {q : Qp} (hN : 137 ≤ N) (h : Hp) (x1 : Int32) (x2 : Int32) (x3 : Int32) (x4 : Int32) (x5 : Int32) : wG X 8 (eM X (fun u => (some (.int u), N, h, (rq q)))) (f_X3_verdict h x1 x2 x3 x4 x5) N h (rq q) 0 0 0 [(0, .ref (xB X + 45)), (1, .int x1), (2, .int x2), (3, .int x3), (4, .int x4), (5, .int x5)] [] := by
  refine wG_of (f_X3_verdict.eq_1 ..) ?_
  refine wG_aload_n C dX3_verdict_0 0 rfl ?_
  refine wG_getR C fl_X3_15_3 rfl kd_45 (wll hN (by decide)) (rf_45_0 q) dX3_verdict_1 ?_
  refine wG_iload_n C dX3_verdict_4 1 rfl ?_
  refine wG_iload_n C dX3_verdict_5 2 rfl ?_
  refine wG_iload_n C dX3_verdict_6 3 rfl ?_
  refine wG_iload C dX3_verdict_7 4 rfl ?_
  refine wG_cV_ri [.int x1, .int x2, .int x3, .int x4] [] C vw_X3_27 (c_X4_weightIn (xl X) (xE X) N (rq q) (Nat.le_trans (by decide) hN) ⟨rf_3_0 q, rf_3_1 q, rf_3_2 q⟩ h x1 x2 x3 x4) kd_3 (wll hN (by decide)) (by decide) rfl rfl (Nat.le_of_ble_eq_true rfl) dX3_verdict_9 (cl' := 0) (sl' := 0) rfl rfl (fun u_1 => ?_)
  refine wG_nmI (fun x6_2 => ?_)
  refine wG_istore C (L' := [(0, .ref (xB X + 45)), (1, .int x1), (2, .int x2), (3, .int x3), (4, .int x4), (6, .int x6_2)]) dX3_verdict_12 (by decide) [1, 2, 3, 4, 5, 0] rfl ?_
  refine wG_iload C dX3_verdict_14 5 rfl ?_
  refine wG_if_eq C dX3_verdict_16 ?_ ?_
  · refine wG_ldc C dX3_verdict_37 m_753 ?_
    exact wG_iret C dX3_verdict_39 ⟨by decide, by decide⟩ (fun _ e => e)
  · refine wG_aload_n C dX3_verdict_19 0 rfl ?_
    refine wG_getI C fl_X3_9_3 rfl kd_45 (wll hN (by decide)) dX3_verdict_20 ?_
    refine wG_iconst C dX3_verdict_23 (v := 1) (by decide) ?_
    refine wG_icmp_lt C dX3_verdict_24 ?_ ?_
    · refine wG_ldc C dX3_verdict_37 m_753 ?_
      exact wG_iret C dX3_verdict_39 ⟨by decide, by decide⟩ (fun _ e => e)
    · refine wG_iload C dX3_verdict_27 5 rfl ?_
      refine wG_aload_n C dX3_verdict_29 0 rfl ?_
      refine wG_getI C fl_X3_9_3 rfl kd_45 (wll hN (by decide)) dX3_verdict_30 ?_
      refine wG_irem C dX3_verdict_33 ?_
      refine wG_if_eq C dX3_verdict_34 ?_ ?_
      · refine wG_iload C dX3_verdict_40 5 rfl ?_
        refine wG_aload_n C dX3_verdict_42 0 rfl ?_
        refine wG_getI C fl_X3_9_3 rfl kd_45 (wll hN (by decide)) dX3_verdict_43 ?_
        refine wG_idiv C dX3_verdict_46 ?_
        refine wG_nmI (fun x7_3 => ?_)
        refine wG_istore C (L' := [(0, .ref (xB X + 45)), (1, .int x1), (2, .int x2), (3, .int x3), (4, .int x4), (7, .int x7_3)]) dX3_verdict_47 (by decide) [1, 2, 3, 4, 5, 0] rfl ?_
        refine wG_aload_n C dX3_verdict_49 0 rfl ?_
        refine wG_getR C fl_X3_15_3 rfl kd_45 (wll hN (by decide)) (rf_45_0 q) dX3_verdict_50 ?_
        refine wG_iload_n C dX3_verdict_53 1 rfl ?_
        refine wG_iload_n C dX3_verdict_54 2 rfl ?_
        refine wG_iload_n C dX3_verdict_55 3 rfl ?_
        refine wG_iload C dX3_verdict_56 4 rfl ?_
        refine wG_cV_ri [.int x1, .int x2, .int x3, .int x4] [] C vw_X3_31 (c_X4_rindIn (xl X) (xE X) N (rq q) (Nat.le_trans (by decide) hN) ⟨rf_3_0 q, rf_3_1 q, rf_3_2 q⟩ h x1 x2 x3 x4) kd_3 (wll hN (by decide)) (by decide) rfl rfl (Nat.le_of_ble_eq_true rfl) dX3_verdict_58 (cl' := 0) (sl' := 0) rfl rfl (fun u_4 => ?_)
        refine wG_iload C dX3_verdict_61 5 rfl ?_
        refine wG_aload_n C dX3_verdict_63 0 rfl ?_
        refine wG_getI C fl_X3_35_3 rfl kd_45 (wll hN (by decide)) dX3_verdict_64 ?_
        refine wG_imul C dX3_verdict_67 ?_
        refine wG_icmp_eq C dX3_verdict_68 ?_ ?_
        · refine wG_iload C dX3_verdict_74 5 rfl ?_
          refine wG_iconst C dX3_verdict_76 (v := 1) (by decide) ?_
          refine wG_icmp_ne C dX3_verdict_77 ?_ ?_
          · refine wG_iconst C dX3_verdict_80 (v := 0) (by decide) ?_
            refine wG_goto C dX3_verdict_81 ?_
            exact wG_iret C dX3_verdict_85 ⟨by decide, by decide⟩ (fun _ e => e)
          · refine wG_iconst C dX3_verdict_84 (v := (-1)) (by decide) ?_
            exact wG_iret C dX3_verdict_85 ⟨by decide, by decide⟩ (fun _ e => e)
        · refine wG_ldc C dX3_verdict_71 m_753 ?_
          exact wG_iret C dX3_verdict_73 ⟨by decide, by decide⟩ (fun _ e => e)
      · refine wG_ldc C dX3_verdict_37 m_753 ?_
        exact wG_iret C dX3_verdict_39 ⟨by decide, by decide⟩ (fun _ e => e)
theorem c_X3_verdict (l : Launch) (E : wE) (N : Nat) (q : Qp) (hN : 137 ≤ N) (h : Hp) (x1 : Int32) (x2 : Int32) (x3 : Int32) (x4 : Int32) (x5 : Int32) : ∀ z, f_X3_verdict h x1 x2 x3 x4 x5 = some z → CT l E yX3_verdict cX3_verdict 8 (some .int) rm_X3_verdict [.ref (eB E + 45), .int x1, .int x2, .int x3, .int x4, .int x5] N h (rq q) ((fun u => (some (.int u), N, h, (rq q))) z) := CT.of (by decide +kernel) (Nat.le_of_ble_eq_true rfl) (fun X _ e C => by subst e; exact w_X3_verdict C hN h x1 x2 x3 x4 x5)
def rm_X3_cutPrice : Room := { frames := 0, cells := 0, slots := 0, locals := 0 }
def f_X3_cutPrice (x1 : Int32) : Option Int32 :=
  some x1
set_option maxRecDepth 4000 in
theorem w_X3_cutPrice {X : wX} (C : Cx X yX3_cutPrice cX3_cutPrice 2 (some .int) rm_X3_cutPrice) {N : Nat} {q : Qp} (hN : 137 ≤ N) (h : Hp) (x1 : Int32) : wG X 2 (eM X (fun u => (some (.int u), N, h, (rq q)))) (f_X3_cutPrice x1) N h (rq q) 0 0 0 [(0, .ref (xB X + 45)), (1, .int x1)] [] := by
  refine wG_of (f_X3_cutPrice.eq_1 ..) ?_
  refine wG_iload_n C dX3_cutPrice_0 1 rfl ?_
  exact wG_iret C dX3_cutPrice_1 ⟨by decide, by decide⟩ (fun _ e => e)
theorem c_X3_cutPrice (l : Launch) (E : wE) (N : Nat) (q : Qp) (hN : 137 ≤ N) (h : Hp) (x1 : Int32) : ∀ z, f_X3_cutPrice x1 = some z → CT l E yX3_cutPrice cX3_cutPrice 2 (some .int) rm_X3_cutPrice [.ref (eB E + 45), .int x1] N h (rq q) ((fun u => (some (.int u), N, h, (rq q))) z) := CT.of (by decide +kernel) (Nat.le_of_ble_eq_true rfl) (fun X _ e C => by subst e; exact w_X3_cutPrice C hN h x1)
def rm_X8_bothCost_F : Room := { frames := 0, cells := 0, slots := 0, locals := 0 }
def L_X8_bothCost_F_7 (h : Hp) (x1 : Int32) (x2 : Int32) (x3 : Int32) : Nat → Int32 → Int32 → Option Int32
  | 0, _, _ => none
  | n + 1, x4_3, x5_4 =>
    (if x5_4 < 0 then
    some x4_3
    else
    vB (x5_4 &&& x3) fun (x5_6 : Int32) =>
    if inB (x1 + x5_6) 441 then
    if inB (x2 + (x3 ^^^ x5_6)) 441 then
    vB ((h 46 (ix (x1 + x5_6))) + (h 46 (ix (x2 + (x3 ^^^ x5_6))))) fun (x6_7 : Int32) =>
    ((if x4_3 ≤ x6_7 then
    some x4_3
    else
    vB x6_7 fun (x4_9 : Int32) =>
    some x4_9)).bind fun t_8 =>
    vB (x5_6 + (-1)) fun (x5_10 : Int32) =>
    L_X8_bothCost_F_7 h x1 x2 x3 n t_8 x5_10 else none else none)
def f_X8_bothCost_F (h : Hp) (x1 : Int32) (x2 : Int32) (x3 : Int32) : Option Int32 :=
  vB 1000000 fun (x4_1 : Int32) =>
  vB x3 fun (x5_2 : Int32) =>
  (L_X8_bothCost_F_7 h x1 x2 x3 FU x4_1 x5_2).bind fun t_5 =>
  some t_5
set_option maxRecDepth 4000 in
theorem wL_X8_bothCost_F_7 {X : wX} (C : Cx X yX8_bothCost cX8_bothCost 7 (some .int) rm_X8_bothCost_F) {N : Nat} {q : Qp} (hN : 137 ≤ N) (h : Hp) (x1 : Int32) (x2 : Int32) (x3 : Int32) (x4_1 : Int32) (x5_2 : Int32) : ∀ n x4_3 x5_4, wG X 7 (fun (t_5 : Int32) Q => gQ X 7 Q N h (rq q) 0 0 58 [(4, .int t_5)] []) (L_X8_bothCost_F_7 h x1 x2 x3 n x4_3 x5_4) N h (rq q) 0 0 7 [(0, .ref (xB X + 45)), (1, .int x1), (2, .int x2), (3, .int x3), (4, .int x4_3), (5, .int x5_4)] [] := by
  intro n
  induction n with
  | zero => intro _ _; exact wG_none
  | succ n ih =>
    intro x4_3 x5_4
    refine wG_of (L_X8_bothCost_F_7.eq_2 ..) ?_
    refine wG_iload C dX8_bothCost_7 5 rfl ?_
    refine wG_if_lt C dX8_bothCost_9 ?_ ?_
    · exact wG_exit (fun Q e => gQ_lv [4] rfl e)
    · refine wG_iload C dX8_bothCost_12 5 rfl ?_
      refine wG_iload_n C dX8_bothCost_14 3 rfl ?_
      refine wG_iand C dX8_bothCost_15 ?_
      refine wG_nmI (fun x5_6 => ?_)
      refine wG_istore C (L' := [(0, .ref (xB X + 45)), (1, .int x1), (2, .int x2), (3, .int x3), (4, .int x4_3), (5, .int x5_6)]) dX8_bothCost_16 (by decide) [1, 2, 3, 4, 5, 0] rfl ?_
      refine wG_aload_n C dX8_bothCost_18 0 rfl ?_
      refine wG_getR C fl_X8_25_3 rfl kd_45 (wll hN (by decide)) (rf_45_2 q) dX8_bothCost_19 ?_
      refine wG_iload_n C dX8_bothCost_22 1 rfl ?_
      refine wG_iload C dX8_bothCost_23 5 rfl ?_
      refine wG_iadd C dX8_bothCost_25 ?_
      refine wG_iald C kd_46 (wll hN (by decide)) ln_46 dX8_bothCost_26 ?_
      refine wG_aload_n C dX8_bothCost_27 0 rfl ?_
      refine wG_getR C fl_X8_25_3 rfl kd_45 (wll hN (by decide)) (rf_45_2 q) dX8_bothCost_28 ?_
      refine wG_iload_n C dX8_bothCost_31 2 rfl ?_
      refine wG_iload_n C dX8_bothCost_32 3 rfl ?_
      refine wG_iload C dX8_bothCost_33 5 rfl ?_
      refine wG_ixor C dX8_bothCost_35 ?_
      refine wG_iadd C dX8_bothCost_36 ?_
      refine wG_iald C kd_46 (wll hN (by decide)) ln_46 dX8_bothCost_37 ?_
      refine wG_iadd C dX8_bothCost_38 ?_
      refine wG_nmI (fun x6_7 => ?_)
      refine wG_istore C (L' := [(0, .ref (xB X + 45)), (1, .int x1), (2, .int x2), (3, .int x3), (4, .int x4_3), (5, .int x5_6), (6, .int x6_7)]) dX8_bothCost_39 (by decide) [1, 2, 3, 4, 5, 6, 0] rfl ?_
      refine wG_iload C dX8_bothCost_41 6 rfl ?_
      refine wG_iload C dX8_bothCost_43 4 rfl ?_
      refine wG_bind (J := (fun (t_8 : Int32) Q => gQ X 7 Q N h (rq q) 0 0 52 [(0, .ref (xB X + 45)), (1, .int x1), (2, .int x2), (3, .int x3), (4, .int t_8), (5, .int x5_6)] [])) ?_ (fun t_8 => (?_ : wG X 7 _ _ N h (rq q) 0 0 52 [(0, .ref (xB X + 45)), (1, .int x1), (2, .int x2), (3, .int x3), (4, .int t_8), (5, .int x5_6)] []))
      · refine wG_icmp_ge C dX8_bothCost_45 ?_ ?_
        · exact wG_exit (fun Q e => gQ_lv [0, 1, 2, 3, 4, 5] rfl e)
        · refine wG_iload C dX8_bothCost_48 6 rfl ?_
          refine wG_nmI (fun x4_9 => ?_)
          refine wG_istore C (L' := [(0, .ref (xB X + 45)), (1, .int x1), (2, .int x2), (3, .int x3), (4, .int x4_9), (5, .int x5_6)]) dX8_bothCost_50 (by decide) [1, 2, 3, 4, 0, 5] rfl ?_
          exact wG_exit (fun Q e => gQ_lv [0, 1, 2, 3, 4, 5] rfl e)
      · refine wG_iinc C (v := (-1)) (LL := fun x5_10 => [(0, .ref (xB X + 45)), (1, .int x1), (2, .int x2), (3, .int x3), (4, .int t_8), (5, .int x5_10)]) dX8_bothCost_52 5 rfl (by decide) (by decide) [1, 2, 3, 4, 5, 0] (fun _ => rfl) (fun x5_10 => ?_)
        refine wG_goto C dX8_bothCost_55 ?_
        exact wG_lv [0, 1, 2, 3, 4, 5] rfl (ih t_8 x5_10)
set_option maxRecDepth 4000 in
theorem w_X8_bothCost_F {X : wX} (C : Cx X yX8_bothCost cX8_bothCost 7 (some .int) rm_X8_bothCost_F) {N : Nat} {q : Qp} (hN : 137 ≤ N) (h : Hp) (x1 : Int32) (x2 : Int32) (x3 : Int32) : wG X 7 (eM X (fun u => (some (.int u), N, h, (rq q)))) (f_X8_bothCost_F h x1 x2 x3) N h (rq q) 0 0 0 [(0, .ref (xB X + 45)), (1, .int x1), (2, .int x2), (3, .int x3)] [] := by
  refine wG_of (f_X8_bothCost_F.eq_1 ..) ?_
  refine wG_ldc C dX8_bothCost_0 m_777 ?_
  refine wG_nmI (fun x4_1 => ?_)
  refine wG_istore C (L' := [(0, .ref (xB X + 45)), (1, .int x1), (2, .int x2), (3, .int x3), (4, .int x4_1)]) dX8_bothCost_2 (by decide) [1, 2, 3, 4, 0] rfl ?_
  refine wG_iload_n C dX8_bothCost_4 3 rfl ?_
  refine wG_nmI (fun x5_2 => ?_)
  refine wG_istore C (L' := [(0, .ref (xB X + 45)), (1, .int x1), (2, .int x2), (3, .int x3), (4, .int x4_1), (5, .int x5_2)]) dX8_bothCost_5 (by decide) [1, 2, 3, 4, 5, 0] rfl ?_
  refine wG_lv (L' := [(0, .ref (xB X + 45)), (1, .int x1), (2, .int x2), (3, .int x3), (4, .int x4_1), (5, .int x5_2)]) [0, 1, 2, 3, 4, 5] rfl ?_
  refine wG_bind (wL_X8_bothCost_F_7 C hN h x1 x2 x3 x4_1 x5_2 FU x4_1 x5_2) (fun t_5 => (?_ : wG X 7 _ _ N h (rq q) 0 0 58 [(4, .int t_5)] []))
  refine wG_iload C dX8_bothCost_58 0 rfl ?_
  exact wG_iret C dX8_bothCost_60 ⟨by decide, by decide⟩ (fun _ e => e)
theorem c_X8_bothCost_F (l : Launch) (E : wE) (N : Nat) (q : Qp) (hN : 137 ≤ N) (h : Hp) (x1 : Int32) (x2 : Int32) (x3 : Int32) : ∀ z, f_X8_bothCost_F h x1 x2 x3 = some z → CT l E yX8_bothCost cX8_bothCost 7 (some .int) rm_X8_bothCost_F [.ref (eB E + 45), .int x1, .int x2, .int x3] N h (rq q) ((fun u => (some (.int u), N, h, (rq q))) z) := CT.of (by decide +kernel) (Nat.le_of_ble_eq_true rfl) (fun X _ e C => by subst e; exact w_X8_bothCost_F C hN h x1 x2 x3)
def rm_X8_cutCost_F : Room := { frames := 1, cells := 0, slots := 0, locals := 26 }
def f_X8_cutCost_F (h : Hp) (x1 : Int32) (x2 : Int32) (x3 : Int32) (x4 : Int32) (x5 : Int32) (x6 : Int32) (x7 : Int32) : Option Int32 :=
  (if x5 = 0 then
  (f_X8_spotOf_F h x1 x2 x3 x6).bind fun u_1 =>
  vB u_1 fun (x8_2 : Int32) =>
  (f_X8_spotOf_F h x1 (x2 + x6) x3 (x4 - x6)).bind fun u_3 =>
  vB u_3 fun (x9_4 : Int32) =>
  (f_X3_cutPrice x3).bind fun u_5 =>
  (f_X8_bothCost_F h x8_2 x9_4 x7).bind fun u_6 =>
  some (u_5 + u_6)
  else
  (f_X8_spotOf_F h x1 x2 x6 x4).bind fun u_7 =>
  vB u_7 fun (x8_8 : Int32) =>
  (f_X8_spotOf_F h (x1 + x6) x2 (x3 - x6) x4).bind fun u_9 =>
  vB u_9 fun (x9_10 : Int32) =>
  (f_X3_cutPrice x4).bind fun u_11 =>
  (f_X8_bothCost_F h x8_8 x9_10 x7).bind fun u_12 =>
  some (u_11 + u_12))
set_option maxRecDepth 4000 in
theorem w_X8_cutCost_F {X : wX} (C : Cx X yX8_cutCost cX8_cutCost 10 (some .int) rm_X8_cutCost_F) {N : Nat} {q : Qp} (hN : 137 ≤ N) (h : Hp) (x1 : Int32) (x2 : Int32) (x3 : Int32) (x4 : Int32) (x5 : Int32) (x6 : Int32) (x7 : Int32) : wG X 10 (eM X (fun u => (some (.int u), N, h, (rq q)))) (f_X8_cutCost_F h x1 x2 x3 x4 x5 x6 x7) N h (rq q) 0 0 0 [(0, .ref (xB X + 45)), (1, .int x1), (2, .int x2), (3, .int x3), (4, .int x4), (5, .int x5), (6, .int x6), (7, .int x7)] [] := by
  refine wG_of (f_X8_cutCost_F.eq_1 ..) ?_
  refine wG_iload C dX8_cutCost_0 5 rfl ?_
  refine wG_if_eq C dX8_cutCost_2 ?_ ?_
  · refine wG_aload_n C dX8_cutCost_52 0 rfl ?_
    refine wG_iload_n C dX8_cutCost_53 1 rfl ?_
    refine wG_iload_n C dX8_cutCost_54 2 rfl ?_
    refine wG_iload_n C dX8_cutCost_55 3 rfl ?_
    refine wG_iload C dX8_cutCost_56 6 rfl ?_
    refine wG_cU_ri [.int x1, .int x2, .int x3, .int x6] [] C uw_X8_44_3 (c_X8_spotOf_F (xl X) (xE X) N q hN h x1 x2 x3 x6) kd_45 (wll hN (by decide)) (by decide) rfl rfl (Nat.le_of_ble_eq_true rfl) dX8_cutCost_58 (cl' := 0) (sl' := 0) rfl rfl (fun u_1 => ?_)
    refine wG_nmI (fun x8_2 => ?_)
    refine wG_istore C (L' := [(0, .ref (xB X + 45)), (1, .int x1), (2, .int x2), (3, .int x3), (4, .int x4), (6, .int x6), (7, .int x7), (8, .int x8_2)]) dX8_cutCost_61 (by decide) [1, 2, 3, 4, 5, 7, 8, 0] rfl ?_
    refine wG_aload_n C dX8_cutCost_63 0 rfl ?_
    refine wG_iload_n C dX8_cutCost_64 1 rfl ?_
    refine wG_iload_n C dX8_cutCost_65 2 rfl ?_
    refine wG_iload C dX8_cutCost_66 5 rfl ?_
    refine wG_iadd C dX8_cutCost_68 ?_
    refine wG_iload_n C dX8_cutCost_69 3 rfl ?_
    refine wG_iload C dX8_cutCost_70 4 rfl ?_
    refine wG_iload C dX8_cutCost_72 5 rfl ?_
    refine wG_isub C dX8_cutCost_74 ?_
    refine wG_cU_ri [.int x1, .int (x2 + x6), .int x3, .int (x4 - x6)] [] C uw_X8_44_3 (c_X8_spotOf_F (xl X) (xE X) N q hN h x1 (x2 + x6) x3 (x4 - x6)) kd_45 (wll hN (by decide)) (by decide) rfl rfl (Nat.le_of_ble_eq_true rfl) dX8_cutCost_75 (cl' := 0) (sl' := 0) rfl rfl (fun u_3 => ?_)
    refine wG_nmI (fun x9_4 => ?_)
    refine wG_istore C (L' := [(0, .ref (xB X + 45)), (3, .int x3), (7, .int x7), (8, .int x8_2), (9, .int x9_4)]) dX8_cutCost_78 (by decide) [1, 4, 7, 8, 0] rfl ?_
    refine wG_aload_n C dX8_cutCost_80 0 rfl ?_
    refine wG_iload_n C dX8_cutCost_81 1 rfl ?_
    refine wG_cU_ri [.int x3] [] C uw_X8_60_3 (c_X3_cutPrice (xl X) (xE X) N q hN h x3) kd_45 (wll hN (by decide)) (by decide) rfl rfl (Nat.le_of_ble_eq_true rfl) dX8_cutCost_82 (cl' := 0) (sl' := 0) rfl rfl (fun u_5 => ?_)
    refine wG_aload_n C dX8_cutCost_85 0 rfl ?_
    refine wG_iload C dX8_cutCost_86 3 rfl ?_
    refine wG_iload C dX8_cutCost_88 4 rfl ?_
    refine wG_iload C dX8_cutCost_90 2 rfl ?_
    refine wG_cU_ri [.int x8_2, .int x9_4, .int x7] [.int u_5] C uw_X8_64_3 (c_X8_bothCost_F (xl X) (xE X) N q hN h x8_2 x9_4 x7) kd_45 (wll hN (by decide)) (by decide) rfl rfl (Nat.le_of_ble_eq_true rfl) dX8_cutCost_92 (cl' := 0) (sl' := 0) rfl rfl (fun u_6 => ?_)
    refine wG_iadd C dX8_cutCost_95 ?_
    exact wG_iret C dX8_cutCost_96 ⟨by decide, by decide⟩ (fun _ e => e)
  · refine wG_aload_n C dX8_cutCost_5 0 rfl ?_
    refine wG_iload_n C dX8_cutCost_6 1 rfl ?_
    refine wG_iload_n C dX8_cutCost_7 2 rfl ?_
    refine wG_iload C dX8_cutCost_8 6 rfl ?_
    refine wG_iload C dX8_cutCost_10 4 rfl ?_
    refine wG_cU_ri [.int x1, .int x2, .int x6, .int x4] [] C uw_X8_44_3 (c_X8_spotOf_F (xl X) (xE X) N q hN h x1 x2 x6 x4) kd_45 (wll hN (by decide)) (by decide) rfl rfl (Nat.le_of_ble_eq_true rfl) dX8_cutCost_12 (cl' := 0) (sl' := 0) rfl rfl (fun u_7 => ?_)
    refine wG_nmI (fun x8_8 => ?_)
    refine wG_istore C (L' := [(0, .ref (xB X + 45)), (1, .int x1), (2, .int x2), (3, .int x3), (4, .int x4), (6, .int x6), (7, .int x7), (8, .int x8_8)]) dX8_cutCost_15 (by decide) [1, 2, 3, 4, 5, 7, 8, 0] rfl ?_
    refine wG_aload_n C dX8_cutCost_17 0 rfl ?_
    refine wG_iload_n C dX8_cutCost_18 1 rfl ?_
    refine wG_iload C dX8_cutCost_19 5 rfl ?_
    refine wG_iadd C dX8_cutCost_21 ?_
    refine wG_iload_n C dX8_cutCost_22 2 rfl ?_
    refine wG_iload_n C dX8_cutCost_23 3 rfl ?_
    refine wG_iload C dX8_cutCost_24 5 rfl ?_
    refine wG_isub C dX8_cutCost_26 ?_
    refine wG_iload C dX8_cutCost_27 4 rfl ?_
    refine wG_cU_ri [.int (x1 + x6), .int x2, .int (x3 - x6), .int x4] [] C uw_X8_44_3 (c_X8_spotOf_F (xl X) (xE X) N q hN h (x1 + x6) x2 (x3 - x6) x4) kd_45 (wll hN (by decide)) (by decide) rfl rfl (Nat.le_of_ble_eq_true rfl) dX8_cutCost_29 (cl' := 0) (sl' := 0) rfl rfl (fun u_9 => ?_)
    refine wG_nmI (fun x9_10 => ?_)
    refine wG_istore C (L' := [(0, .ref (xB X + 45)), (4, .int x4), (7, .int x7), (8, .int x8_8), (9, .int x9_10)]) dX8_cutCost_32 (by decide) [1, 5, 7, 8, 0] rfl ?_
    refine wG_aload_n C dX8_cutCost_34 0 rfl ?_
    refine wG_iload C dX8_cutCost_35 1 rfl ?_
    refine wG_cU_ri [.int x4] [] C uw_X8_60_3 (c_X3_cutPrice (xl X) (xE X) N q hN h x4) kd_45 (wll hN (by decide)) (by decide) rfl rfl (Nat.le_of_ble_eq_true rfl) dX8_cutCost_37 (cl' := 0) (sl' := 0) rfl rfl (fun u_11 => ?_)
    refine wG_aload_n C dX8_cutCost_40 0 rfl ?_
    refine wG_iload C dX8_cutCost_41 3 rfl ?_
    refine wG_iload C dX8_cutCost_43 4 rfl ?_
    refine wG_iload C dX8_cutCost_45 2 rfl ?_
    refine wG_cU_ri [.int x8_8, .int x9_10, .int x7] [.int u_11] C uw_X8_64_3 (c_X8_bothCost_F (xl X) (xE X) N q hN h x8_8 x9_10 x7) kd_45 (wll hN (by decide)) (by decide) rfl rfl (Nat.le_of_ble_eq_true rfl) dX8_cutCost_47 (cl' := 0) (sl' := 0) rfl rfl (fun u_12 => ?_)
    refine wG_iadd C dX8_cutCost_50 ?_
    exact wG_iret C dX8_cutCost_51 ⟨by decide, by decide⟩ (fun _ e => e)
theorem c_X8_cutCost_F (l : Launch) (E : wE) (N : Nat) (q : Qp) (hN : 137 ≤ N) (h : Hp) (x1 : Int32) (x2 : Int32) (x3 : Int32) (x4 : Int32) (x5 : Int32) (x6 : Int32) (x7 : Int32) : ∀ z, f_X8_cutCost_F h x1 x2 x3 x4 x5 x6 x7 = some z → CT l E yX8_cutCost cX8_cutCost 10 (some .int) rm_X8_cutCost_F [.ref (eB E + 45), .int x1, .int x2, .int x3, .int x4, .int x5, .int x6, .int x7] N h (rq q) ((fun u => (some (.int u), N, h, (rq q))) z) := CT.of (by decide +kernel) (Nat.le_of_ble_eq_true rfl) (fun X _ e C => by subst e; exact w_X8_cutCost_F C hN h x1 x2 x3 x4 x5 x6 x7)
def rm_X8_leastCut_F : Room := { frames := 2, cells := 0, slots := 0, locals := 55 }
def L_X8_leastCut_F_7 (h : Hp) (x1 : Int32) (x2 : Int32) (x3 : Int32) (x4 : Int32) (x5 : Int32) : Nat → Int32 → Int32 → Option Int32
  | 0, _, _ => none
  | n + 1, x6_3, x7_4 =>
    (if x3 ≤ x7_4 then
    some x6_3
    else
    (f_X8_cutCost_F h x1 x2 x3 x4 1 x7_4 x5).bind fun u_6 =>
    vB (if u_6 < x6_3 then u_6 else x6_3) fun (x6_7 : Int32) =>
    vB (x7_4 + 1) fun (x7_8 : Int32) =>
    L_X8_leastCut_F_7 h x1 x2 x3 x4 x5 n x6_7 x7_8)
def L_X8_leastCut_F_43 (h : Hp) (x1 : Int32) (x2 : Int32) (x3 : Int32) (x4 : Int32) (x5 : Int32) : Nat → Int32 → Int32 → Option Int32
  | 0, _, _ => none
  | n + 1, x6_10, x7_11 =>
    (if x4 ≤ x7_11 then
    some x6_10
    else
    (f_X8_cutCost_F h x1 x2 x3 x4 0 x7_11 x5).bind fun u_13 =>
    vB (if u_13 < x6_10 then u_13 else x6_10) fun (x6_14 : Int32) =>
    vB (x7_11 + 1) fun (x7_15 : Int32) =>
    L_X8_leastCut_F_43 h x1 x2 x3 x4 x5 n x6_14 x7_15)
def f_X8_leastCut_F (h : Hp) (x1 : Int32) (x2 : Int32) (x3 : Int32) (x4 : Int32) (x5 : Int32) : Option Int32 :=
  vB 1000000 fun (x6_1 : Int32) =>
  vB 1 fun (x7_2 : Int32) =>
  (L_X8_leastCut_F_7 h x1 x2 x3 x4 x5 FU x6_1 x7_2).bind fun t_5 =>
  vB 1 fun (x7_9 : Int32) =>
  (L_X8_leastCut_F_43 h x1 x2 x3 x4 x5 FU t_5 x7_9).bind fun t_12 =>
  some t_12
set_option maxRecDepth 4000 in
theorem wL_X8_leastCut_F_7 {X : wX} (C : Cx X yX8_leastCut cX8_leastCut 8 (some .int) rm_X8_leastCut_F) {N : Nat} {q : Qp} (hN : 137 ≤ N) (h : Hp) (x1 : Int32) (x2 : Int32) (x3 : Int32) (x4 : Int32) (x5 : Int32) (x6_1 : Int32) (x7_2 : Int32) : ∀ n x6_3 x7_4, wG X 8 (fun (t_5 : Int32) Q => gQ X 8 Q N h (rq q) 0 0 40 [(0, .ref (xB X + 45)), (1, .int x1), (2, .int x2), (3, .int x3), (4, .int x4), (5, .int x5), (6, .int t_5)] []) (L_X8_leastCut_F_7 h x1 x2 x3 x4 x5 n x6_3 x7_4) N h (rq q) 0 0 7 [(0, .ref (xB X + 45)), (1, .int x1), (2, .int x2), (3, .int x3), (4, .int x4), (5, .int x5), (6, .int x6_3), (7, .int x7_4)] [] := by
  intro n
  induction n with
  | zero => intro _ _; exact wG_none
  | succ n ih =>
    intro x6_3 x7_4
    refine wG_of (L_X8_leastCut_F_7.eq_2 ..) ?_
    refine wG_iload C dX8_leastCut_7 7 rfl ?_
    refine wG_iload_n C dX8_leastCut_9 3 rfl ?_
    refine wG_icmp_ge C dX8_leastCut_10 ?_ ?_
    · exact wG_exit (fun Q e => gQ_lv [0, 1, 2, 3, 4, 5, 6] rfl e)
    · refine wG_iload C dX8_leastCut_13 6 rfl ?_
      refine wG_aload_n C dX8_leastCut_15 0 rfl ?_
      refine wG_iload_n C dX8_leastCut_16 1 rfl ?_
      refine wG_iload_n C dX8_leastCut_17 2 rfl ?_
      refine wG_iload_n C dX8_leastCut_18 3 rfl ?_
      refine wG_iload C dX8_leastCut_19 4 rfl ?_
      refine wG_iconst C dX8_leastCut_21 (v := 1) (by decide) ?_
      refine wG_iload C dX8_leastCut_22 7 rfl ?_
      refine wG_iload C dX8_leastCut_24 5 rfl ?_
      refine wG_cU_ri [.int x1, .int x2, .int x3, .int x4, .int 1, .int x7_4, .int x5] [.int x6_3] C uw_X8_56_3 (c_X8_cutCost_F (xl X) (xE X) N q hN h x1 x2 x3 x4 1 x7_4 x5) kd_45 (wll hN (by decide)) (by decide) rfl rfl (Nat.le_of_ble_eq_true rfl) dX8_leastCut_26 (cl' := 0) (sl' := 0) rfl rfl (fun u_6 => ?_)
      refine wG_mmin C mw_X8_37 ⟨by decide, Nat.le_of_ble_eq_true rfl, by decide, by decide⟩ dX8_leastCut_29 ?_
      refine wG_nmI (fun x6_7 => ?_)
      refine wG_istore C (L' := [(0, .ref (xB X + 45)), (1, .int x1), (2, .int x2), (3, .int x3), (4, .int x4), (5, .int x5), (6, .int x6_7), (7, .int x7_4)]) dX8_leastCut_32 (by decide) [1, 2, 3, 4, 5, 6, 0, 7] rfl ?_
      refine wG_iinc C (v := 1) (LL := fun x7_8 => [(0, .ref (xB X + 45)), (1, .int x1), (2, .int x2), (3, .int x3), (4, .int x4), (5, .int x5), (6, .int x6_7), (7, .int x7_8)]) dX8_leastCut_34 7 rfl (by decide) (by decide) [1, 2, 3, 4, 5, 6, 7, 0] (fun _ => rfl) (fun x7_8 => ?_)
      refine wG_goto C dX8_leastCut_37 ?_
      exact wG_lv [0, 1, 2, 3, 4, 5, 6, 7] rfl (ih x6_7 x7_8)
set_option maxRecDepth 4000 in
theorem wL_X8_leastCut_F_43 {X : wX} (C : Cx X yX8_leastCut cX8_leastCut 8 (some .int) rm_X8_leastCut_F) {N : Nat} {q : Qp} (hN : 137 ≤ N) (h : Hp) (x1 : Int32) (x2 : Int32) (x3 : Int32) (x4 : Int32) (x5 : Int32) (x6_1 : Int32) (x7_2 : Int32) (t_5 : Int32) (x7_9 : Int32) : ∀ n x6_10 x7_11, wG X 8 (fun (t_12 : Int32) Q => gQ X 8 Q N h (rq q) 0 0 77 [(6, .int t_12)] []) (L_X8_leastCut_F_43 h x1 x2 x3 x4 x5 n x6_10 x7_11) N h (rq q) 0 0 43 [(0, .ref (xB X + 45)), (1, .int x1), (2, .int x2), (3, .int x3), (4, .int x4), (5, .int x5), (6, .int x6_10), (7, .int x7_11)] [] := by
  intro n
  induction n with
  | zero => intro _ _; exact wG_none
  | succ n ih =>
    intro x6_10 x7_11
    refine wG_of (L_X8_leastCut_F_43.eq_2 ..) ?_
    refine wG_iload C dX8_leastCut_43 7 rfl ?_
    refine wG_iload C dX8_leastCut_45 4 rfl ?_
    refine wG_icmp_ge C dX8_leastCut_47 ?_ ?_
    · exact wG_exit (fun Q e => gQ_lv [6] rfl e)
    · refine wG_iload C dX8_leastCut_50 6 rfl ?_
      refine wG_aload_n C dX8_leastCut_52 0 rfl ?_
      refine wG_iload_n C dX8_leastCut_53 1 rfl ?_
      refine wG_iload_n C dX8_leastCut_54 2 rfl ?_
      refine wG_iload_n C dX8_leastCut_55 3 rfl ?_
      refine wG_iload C dX8_leastCut_56 4 rfl ?_
      refine wG_iconst C dX8_leastCut_58 (v := 0) (by decide) ?_
      refine wG_iload C dX8_leastCut_59 7 rfl ?_
      refine wG_iload C dX8_leastCut_61 5 rfl ?_
      refine wG_cU_ri [.int x1, .int x2, .int x3, .int x4, .int 0, .int x7_11, .int x5] [.int x6_10] C uw_X8_56_3 (c_X8_cutCost_F (xl X) (xE X) N q hN h x1 x2 x3 x4 0 x7_11 x5) kd_45 (wll hN (by decide)) (by decide) rfl rfl (Nat.le_of_ble_eq_true rfl) dX8_leastCut_63 (cl' := 0) (sl' := 0) rfl rfl (fun u_13 => ?_)
      refine wG_mmin C mw_X8_37 ⟨by decide, Nat.le_of_ble_eq_true rfl, by decide, by decide⟩ dX8_leastCut_66 ?_
      refine wG_nmI (fun x6_14 => ?_)
      refine wG_istore C (L' := [(0, .ref (xB X + 45)), (1, .int x1), (2, .int x2), (3, .int x3), (4, .int x4), (5, .int x5), (6, .int x6_14), (7, .int x7_11)]) dX8_leastCut_69 (by decide) [1, 2, 3, 4, 5, 6, 0, 7] rfl ?_
      refine wG_iinc C (v := 1) (LL := fun x7_15 => [(0, .ref (xB X + 45)), (1, .int x1), (2, .int x2), (3, .int x3), (4, .int x4), (5, .int x5), (6, .int x6_14), (7, .int x7_15)]) dX8_leastCut_71 7 rfl (by decide) (by decide) [1, 2, 3, 4, 5, 6, 7, 0] (fun _ => rfl) (fun x7_15 => ?_)
      refine wG_goto C dX8_leastCut_74 ?_
      exact wG_lv [0, 1, 2, 3, 4, 5, 6, 7] rfl (ih x6_14 x7_15)
set_option maxRecDepth 4000 in
theorem w_X8_leastCut_F {X : wX} (C : Cx X yX8_leastCut cX8_leastCut 8 (some .int) rm_X8_leastCut_F) {N : Nat} {q : Qp} (hN : 137 ≤ N) (h : Hp) (x1 : Int32) (x2 : Int32) (x3 : Int32) (x4 : Int32) (x5 : Int32) : wG X 8 (eM X (fun u => (some (.int u), N, h, (rq q)))) (f_X8_leastCut_F h x1 x2 x3 x4 x5) N h (rq q) 0 0 0 [(0, .ref (xB X + 45)), (1, .int x1), (2, .int x2), (3, .int x3), (4, .int x4), (5, .int x5)] [] := by
  refine wG_of (f_X8_leastCut_F.eq_1 ..) ?_
  refine wG_ldc C dX8_leastCut_0 m_777 ?_
  refine wG_nmI (fun x6_1 => ?_)
  refine wG_istore C (L' := [(0, .ref (xB X + 45)), (1, .int x1), (2, .int x2), (3, .int x3), (4, .int x4), (5, .int x5), (6, .int x6_1)]) dX8_leastCut_2 (by decide) [1, 2, 3, 4, 5, 6, 0] rfl ?_
  refine wG_iconst C dX8_leastCut_4 (v := 1) (by decide) ?_
  refine wG_nmI (fun x7_2 => ?_)
  refine wG_istore C (L' := [(0, .ref (xB X + 45)), (1, .int x1), (2, .int x2), (3, .int x3), (4, .int x4), (5, .int x5), (6, .int x6_1), (7, .int x7_2)]) dX8_leastCut_5 (by decide) [1, 2, 3, 4, 5, 6, 7, 0] rfl ?_
  refine wG_lv (L' := [(0, .ref (xB X + 45)), (1, .int x1), (2, .int x2), (3, .int x3), (4, .int x4), (5, .int x5), (6, .int x6_1), (7, .int x7_2)]) [0, 1, 2, 3, 4, 5, 6, 7] rfl ?_
  refine wG_bind (wL_X8_leastCut_F_7 C hN h x1 x2 x3 x4 x5 x6_1 x7_2 FU x6_1 x7_2) (fun t_5 => (?_ : wG X 8 _ _ N h (rq q) 0 0 40 [(0, .ref (xB X + 45)), (1, .int x1), (2, .int x2), (3, .int x3), (4, .int x4), (5, .int x5), (6, .int t_5)] []))
  refine wG_iconst C dX8_leastCut_40 (v := 1) (by decide) ?_
  refine wG_nmI (fun x7_9 => ?_)
  refine wG_istore C (L' := [(0, .ref (xB X + 45)), (1, .int x1), (2, .int x2), (3, .int x3), (4, .int x4), (5, .int x5), (6, .int t_5), (7, .int x7_9)]) dX8_leastCut_41 (by decide) [1, 2, 3, 4, 5, 6, 7, 0] rfl ?_
  refine wG_lv (L' := [(0, .ref (xB X + 45)), (1, .int x1), (2, .int x2), (3, .int x3), (4, .int x4), (5, .int x5), (6, .int t_5), (7, .int x7_9)]) [0, 1, 2, 3, 4, 5, 6, 7] rfl ?_
  refine wG_bind (wL_X8_leastCut_F_43 C hN h x1 x2 x3 x4 x5 x6_1 x7_2 t_5 x7_9 FU t_5 x7_9) (fun t_12 => (?_ : wG X 8 _ _ N h (rq q) 0 0 77 [(6, .int t_12)] []))
  refine wG_iload C dX8_leastCut_77 0 rfl ?_
  exact wG_iret C dX8_leastCut_79 ⟨by decide, by decide⟩ (fun _ e => e)
theorem c_X8_leastCut_F (l : Launch) (E : wE) (N : Nat) (q : Qp) (hN : 137 ≤ N) (h : Hp) (x1 : Int32) (x2 : Int32) (x3 : Int32) (x4 : Int32) (x5 : Int32) : ∀ z, f_X8_leastCut_F h x1 x2 x3 x4 x5 = some z → CT l E yX8_leastCut cX8_leastCut 8 (some .int) rm_X8_leastCut_F [.ref (eB E + 45), .int x1, .int x2, .int x3, .int x4, .int x5] N h (rq q) ((fun u => (some (.int u), N, h, (rq q))) z) := CT.of (by decide +kernel) (Nat.le_of_ble_eq_true rfl) (fun X _ e C => by subst e; exact w_X8_leastCut_F C hN h x1 x2 x3 x4 x5)
def rm_X8_settle_F : Room := { frames := 3, cells := 0, slots := 0, locals := 82 }
def L_X8_settle_F_14 (x1 : Int32) (x2 : Int32) (x3 : Int32) (x4 : Int32) (x5 : Int32) (x6_2 : Int32) : Nat → Int32 → Hp → Option Hp
  | 0, _, _ => none
  | n + 1, x7_4, h_5 =>
    (if x5 < x7_4 then
    some h_5
    else
    (f_X3_verdict h_5 x1 x2 x3 x4 x7_4).bind fun u_7 =>
    vB u_7 fun (x8_8 : Int32) =>
    ((if x8_8 = (-1) then
    (f_X8_leastCut_F h_5 x1 x2 x3 x4 x7_4).bind fun u_10 =>
    some u_10
    else
    some x8_8)).bind fun t_9 =>
    if inB (x6_2 + x7_4) 441 then vB (u2 h_5 46 (ix (x6_2 + x7_4)) t_9) fun h_11 =>
    vB (x7_4 + 1) fun (x7_12 : Int32) =>
    L_X8_settle_F_14 x1 x2 x3 x4 x5 x6_2 n x7_12 h_11 else none)
def f_X8_settle_F (h : Hp) (x1 : Int32) (x2 : Int32) (x3 : Int32) (x4 : Int32) (x5 : Int32) : Option Hp :=
  (f_X8_spotOf_F h x1 x2 x3 x4).bind fun u_1 =>
  vB u_1 fun (x6_2 : Int32) =>
  vB 0 fun (x7_3 : Int32) =>
  (L_X8_settle_F_14 x1 x2 x3 x4 x5 x6_2 FU x7_3 h).bind fun t_6 =>
  some t_6
set_option maxRecDepth 4000 in
theorem wL_X8_settle_F_14 {X : wX} (C : Cx X yX8_settle cX8_settle 9 none rm_X8_settle_F) {N : Nat} {q : Qp} (hN : 137 ≤ N) (h : Hp) (x1 : Int32) (x2 : Int32) (x3 : Int32) (x4 : Int32) (x5 : Int32) (u_1 : Int32) (x6_2 : Int32) (x7_3 : Int32) : ∀ n x7_4 h_5, wG X 9 (fun (t_6 : Hp) Q => gQ X 9 Q N t_6 (rq q) 0 0 72 [] []) (L_X8_settle_F_14 x1 x2 x3 x4 x5 x6_2 n x7_4 h_5) N h_5 (rq q) 0 0 14 [(0, .ref (xB X + 45)), (1, .int x1), (2, .int x2), (3, .int x3), (4, .int x4), (5, .int x5), (6, .int x6_2), (7, .int x7_4)] [] := by
  intro n
  induction n with
  | zero => intro _ _; exact wG_none
  | succ n ih =>
    intro x7_4 h_5
    refine wG_of (L_X8_settle_F_14.eq_2 ..) ?_
    refine wG_iload C dX8_settle_14 7 rfl ?_
    refine wG_iload C dX8_settle_16 5 rfl ?_
    refine wG_icmp_gt C dX8_settle_18 ?_ ?_
    · exact wG_exit (fun Q e => gQ_lv [] rfl e)
    · refine wG_aload_n C dX8_settle_21 0 rfl ?_
      refine wG_iload_n C dX8_settle_22 1 rfl ?_
      refine wG_iload_n C dX8_settle_23 2 rfl ?_
      refine wG_iload_n C dX8_settle_24 3 rfl ?_
      refine wG_iload C dX8_settle_25 4 rfl ?_
      refine wG_iload C dX8_settle_27 7 rfl ?_
      refine wG_cU_ri [.int x1, .int x2, .int x3, .int x4, .int x7_4] [] C uw_X8_48_3 (c_X3_verdict (xl X) (xE X) N q hN h_5 x1 x2 x3 x4 x7_4) kd_45 (wll hN (by decide)) (by decide) rfl rfl (Nat.le_of_ble_eq_true rfl) dX8_settle_29 (cl' := 0) (sl' := 0) rfl rfl (fun u_7 => ?_)
      refine wG_nmI (fun x8_8 => ?_)
      refine wG_istore C (L' := [(0, .ref (xB X + 45)), (1, .int x1), (2, .int x2), (3, .int x3), (4, .int x4), (5, .int x5), (6, .int x6_2), (7, .int x7_4), (8, .int x8_8)]) dX8_settle_32 (by decide) [1, 2, 3, 4, 5, 6, 7, 8, 0] rfl ?_
      refine wG_aload_n C dX8_settle_34 0 rfl ?_
      refine wG_getR C fl_X8_25_3 rfl kd_45 (wll hN (by decide)) (rf_45_2 q) dX8_settle_35 ?_
      refine wG_iload C dX8_settle_38 6 rfl ?_
      refine wG_iload C dX8_settle_40 7 rfl ?_
      refine wG_iadd C dX8_settle_42 ?_
      refine wG_iload C dX8_settle_43 8 rfl ?_
      refine wG_iconst C dX8_settle_45 (v := (-1)) (by decide) ?_
      refine wG_bind (J := (fun (t_9 : Int32) Q => gQ X 9 Q N h_5 (rq q) 0 0 65 [(0, .ref (xB X + 45)), (1, .int x1), (2, .int x2), (3, .int x3), (4, .int x4), (5, .int x5), (6, .int x6_2), (7, .int x7_4)] [.int t_9, .int (x6_2 + x7_4), .ref (xB X + 46)])) ?_ (fun t_9 => (?_ : wG X 9 _ _ N h_5 (rq q) 0 0 65 [(0, .ref (xB X + 45)), (1, .int x1), (2, .int x2), (3, .int x3), (4, .int x4), (5, .int x5), (6, .int x6_2), (7, .int x7_4)] [.int t_9, .int (x6_2 + x7_4), .ref (xB X + 46)]))
      · refine wG_icmp_ne C dX8_settle_46 ?_ ?_
        · refine wG_aload_n C dX8_settle_49 0 rfl ?_
          refine wG_iload_n C dX8_settle_50 1 rfl ?_
          refine wG_iload_n C dX8_settle_51 2 rfl ?_
          refine wG_iload_n C dX8_settle_52 3 rfl ?_
          refine wG_iload C dX8_settle_53 4 rfl ?_
          refine wG_iload C dX8_settle_55 7 rfl ?_
          refine wG_cU_ri [.int x1, .int x2, .int x3, .int x4, .int x7_4] [.int (x6_2 + x7_4), .ref (xB X + 46)] C uw_X8_52_3 (c_X8_leastCut_F (xl X) (xE X) N q hN h_5 x1 x2 x3 x4 x7_4) kd_45 (wll hN (by decide)) (by decide) rfl rfl (Nat.le_of_ble_eq_true rfl) dX8_settle_57 (cl' := 0) (sl' := 0) rfl rfl (fun u_10 => ?_)
          refine wG_goto C dX8_settle_60 ?_
          exact wG_exit (fun Q e => gQ_lv [0, 1, 2, 3, 4, 5, 6, 7] rfl e)
        · refine wG_iload C dX8_settle_63 8 rfl ?_
          exact wG_exit (fun Q e => gQ_lv [0, 1, 2, 3, 4, 5, 6, 7] rfl e)
      · refine wG_iast C kd_46 (wll hN (by decide)) ln_46 dX8_settle_65 (fun h_11 => ?_)
        refine wG_iinc C (v := 1) (LL := fun x7_12 => [(0, .ref (xB X + 45)), (1, .int x1), (2, .int x2), (3, .int x3), (4, .int x4), (5, .int x5), (6, .int x6_2), (7, .int x7_12)]) dX8_settle_66 7 rfl (by decide) (by decide) [1, 2, 3, 4, 5, 6, 7, 0] (fun _ => rfl) (fun x7_12 => ?_)
        refine wG_goto C dX8_settle_69 ?_
        exact wG_lv [0, 1, 2, 3, 4, 5, 6, 7] rfl (ih x7_12 h_11)
set_option maxRecDepth 4000 in
theorem w_X8_settle_F {X : wX} (C : Cx X yX8_settle cX8_settle 9 none rm_X8_settle_F) {N : Nat} {q : Qp} (hN : 137 ≤ N) (h : Hp) (x1 : Int32) (x2 : Int32) (x3 : Int32) (x4 : Int32) (x5 : Int32) : wG X 9 (eM X (fun u => (none, N, u, (rq q)))) (f_X8_settle_F h x1 x2 x3 x4 x5) N h (rq q) 0 0 0 [(0, .ref (xB X + 45)), (1, .int x1), (2, .int x2), (3, .int x3), (4, .int x4), (5, .int x5)] [] := by
  refine wG_of (f_X8_settle_F.eq_1 ..) ?_
  refine wG_aload_n C dX8_settle_0 0 rfl ?_
  refine wG_iload_n C dX8_settle_1 1 rfl ?_
  refine wG_iload_n C dX8_settle_2 2 rfl ?_
  refine wG_iload_n C dX8_settle_3 3 rfl ?_
  refine wG_iload C dX8_settle_4 4 rfl ?_
  refine wG_cU_ri [.int x1, .int x2, .int x3, .int x4] [] C uw_X8_44_3 (c_X8_spotOf_F (xl X) (xE X) N q hN h x1 x2 x3 x4) kd_45 (wll hN (by decide)) (by decide) rfl rfl (Nat.le_of_ble_eq_true rfl) dX8_settle_6 (cl' := 0) (sl' := 0) rfl rfl (fun u_1 => ?_)
  refine wG_nmI (fun x6_2 => ?_)
  refine wG_istore C (L' := [(0, .ref (xB X + 45)), (1, .int x1), (2, .int x2), (3, .int x3), (4, .int x4), (5, .int x5), (6, .int x6_2)]) dX8_settle_9 (by decide) [1, 2, 3, 4, 5, 6, 0] rfl ?_
  refine wG_iconst C dX8_settle_11 (v := 0) (by decide) ?_
  refine wG_nmI (fun x7_3 => ?_)
  refine wG_istore C (L' := [(0, .ref (xB X + 45)), (1, .int x1), (2, .int x2), (3, .int x3), (4, .int x4), (5, .int x5), (6, .int x6_2), (7, .int x7_3)]) dX8_settle_12 (by decide) [1, 2, 3, 4, 5, 6, 7, 0] rfl ?_
  refine wG_lv (L' := [(0, .ref (xB X + 45)), (1, .int x1), (2, .int x2), (3, .int x3), (4, .int x4), (5, .int x5), (6, .int x6_2), (7, .int x7_3)]) [0, 1, 2, 3, 4, 5, 6, 7] rfl ?_
  refine wG_bind (wL_X8_settle_F_14 C hN h x1 x2 x3 x4 x5 u_1 x6_2 x7_3 FU x7_3 h) (fun t_6 => (?_ : wG X 9 _ _ N t_6 (rq q) 0 0 72 [] []))
  exact wG_vret C dX8_settle_72 ⟨by decide, by decide⟩ (fun _ e => e)
theorem c_X8_settle_F (l : Launch) (E : wE) (N : Nat) (q : Qp) (hN : 137 ≤ N) (h : Hp) (x1 : Int32) (x2 : Int32) (x3 : Int32) (x4 : Int32) (x5 : Int32) : ∀ z, f_X8_settle_F h x1 x2 x3 x4 x5 = some z → CT l E yX8_settle cX8_settle 9 none rm_X8_settle_F [.ref (eB E + 45), .int x1, .int x2, .int x3, .int x4, .int x5] N h (rq q) ((fun u => (none, N, u, (rq q))) z) := CT.of (by decide +kernel) (Nat.le_of_ble_eq_true rfl) (fun X _ e C => by subst e; exact w_X8_settle_F C hN h x1 x2 x3 x4 x5)
def rm_X8_workOut_F : Room := { frames := 4, cells := 0, slots := 0, locals := 110 }
def L_X8_workOut_F_46 (x1 : Int32) (x2_2 : Int32) (x3_6 : Int32) (x4_10 : Int32) : Nat → Int32 → Hp → Option Hp
  | 0, _, _ => none
  | n + 1, x5_14, h_15 =>
    (if ((h_15 3 4) - x3_6) < x5_14 then
    some h_15
    else
    (f_X8_settle_F h_15 x4_10 x5_14 x2_2 x3_6 (if ((h_15 45 1) - 1) < x1 then ((h_15 45 1) - 1) else x1)).bind fun u_17 =>
    vB (x5_14 + 1) fun (x5_18 : Int32) =>
    L_X8_workOut_F_46 x1 x2_2 x3_6 x4_10 n x5_18 u_17)
def L_X8_workOut_F_29 (x1 : Int32) (x2_2 : Int32) (x3_6 : Int32) : Nat → Int32 → Hp → Option Hp
  | 0, _, _ => none
  | n + 1, x4_10, h_11 =>
    (if ((h_11 3 3) - x2_2) < x4_10 then
    some h_11
    else
    vB 0 fun (x5_13 : Int32) =>
    (L_X8_workOut_F_46 x1 x2_2 x3_6 x4_10 FU x5_13 h_11).bind fun t_16 =>
    vB (x4_10 + 1) fun (x4_19 : Int32) =>
    L_X8_workOut_F_29 x1 x2_2 x3_6 n x4_19 t_16)
def L_X8_workOut_F_15 (x1 : Int32) (x2_2 : Int32) : Nat → Int32 → Hp → Option Hp
  | 0, _, _ => none
  | n + 1, x3_6, h_7 =>
    (if (h_7 3 4) < x3_6 then
    some h_7
    else
    vB 0 fun (x4_9 : Int32) =>
    (L_X8_workOut_F_29 x1 x2_2 x3_6 FU x4_9 h_7).bind fun t_12 =>
    vB (x3_6 + 1) fun (x3_20 : Int32) =>
    L_X8_workOut_F_15 x1 x2_2 n x3_20 t_12)
def L_X8_workOut_F_2 (x1 : Int32) : Nat → Int32 → Hp → Option Hp
  | 0, _, _ => none
  | n + 1, x2_2, h_3 =>
    (if (h_3 3 3) < x2_2 then
    some h_3
    else
    vB 1 fun (x3_5 : Int32) =>
    (L_X8_workOut_F_15 x1 x2_2 FU x3_5 h_3).bind fun t_8 =>
    vB (x2_2 + 1) fun (x2_21 : Int32) =>
    L_X8_workOut_F_2 x1 n x2_21 t_8)
def f_X8_workOut_F (h : Hp) (x1 : Int32) : Option Hp :=
  vB 1 fun (x2_1 : Int32) =>
  (L_X8_workOut_F_2 x1 FU x2_1 h).bind fun t_4 =>
  some t_4
set_option maxRecDepth 4000 in
theorem wL_X8_workOut_F_46 {X : wX} (C : Cx X yX8_workOut cX8_workOut 6 none rm_X8_workOut_F) {N : Nat} {q : Qp} (hN : 137 ≤ N) (h : Hp) (x1 : Int32) (x2_1 : Int32) (x2_2 : Int32) (h_3 : Hp) (x3_5 : Int32) (x3_6 : Int32) (h_7 : Hp) (x4_9 : Int32) (x4_10 : Int32) (h_11 : Hp) (x5_13 : Int32) : ∀ n x5_14 h_15, wG X 6 (fun (t_16 : Hp) Q => gQ X 6 Q N t_16 (rq q) 0 0 86 [(0, .ref (xB X + 45)), (1, .int x1), (2, .int x2_2), (3, .int x3_6), (4, .int x4_10)] []) (L_X8_workOut_F_46 x1 x2_2 x3_6 x4_10 n x5_14 h_15) N h_15 (rq q) 0 0 46 [(0, .ref (xB X + 45)), (1, .int x1), (2, .int x2_2), (3, .int x3_6), (4, .int x4_10), (5, .int x5_14)] [] := by
  intro n
  induction n with
  | zero => intro _ _; exact wG_none
  | succ n ih =>
    intro x5_14 h_15
    refine wG_of (L_X8_workOut_F_46.eq_2 ..) ?_
    refine wG_iload C dX8_workOut_46 5 rfl ?_
    refine wG_aload_n C dX8_workOut_48 0 rfl ?_
    refine wG_getR C fl_X8_9_3 rfl kd_45 (wll hN (by decide)) (rf_45_0 q) dX8_workOut_49 ?_
    refine wG_getI C fl_X8_34_4 rfl kd_3 (wll hN (by decide)) dX8_workOut_52 ?_
    refine wG_iload_n C dX8_workOut_55 3 rfl ?_
    refine wG_isub C dX8_workOut_56 ?_
    refine wG_icmp_gt C dX8_workOut_57 ?_ ?_
    · exact wG_exit (fun Q e => gQ_lv [0, 1, 2, 3, 4] rfl e)
    · refine wG_aload_n C dX8_workOut_60 0 rfl ?_
      refine wG_iload C dX8_workOut_61 4 rfl ?_
      refine wG_iload C dX8_workOut_63 5 rfl ?_
      refine wG_iload_n C dX8_workOut_65 2 rfl ?_
      refine wG_iload_n C dX8_workOut_66 3 rfl ?_
      refine wG_iload_n C dX8_workOut_67 1 rfl ?_
      refine wG_aload_n C dX8_workOut_68 0 rfl ?_
      refine wG_getI C fl_X8_21_3 rfl kd_45 (wll hN (by decide)) dX8_workOut_69 ?_
      refine wG_iconst C dX8_workOut_72 (v := 1) (by decide) ?_
      refine wG_isub C dX8_workOut_73 ?_
      refine wG_mmin C mw_X8_37 ⟨by decide, Nat.le_of_ble_eq_true rfl, by decide, by decide⟩ dX8_workOut_74 ?_
      refine wG_cU_wv [.int x4_10, .int x5_14, .int x2_2, .int x3_6, .int (if ((h_15 45 1) - 1) < x1 then ((h_15 45 1) - 1) else x1)] [] C uw_X8_40_3 (c_X8_settle_F (xl X) (xE X) N q hN h_15 x4_10 x5_14 x2_2 x3_6 (if ((h_15 45 1) - 1) < x1 then ((h_15 45 1) - 1) else x1)) kd_45 (wll hN (by decide)) (by decide) rfl rfl (Nat.le_of_ble_eq_true rfl) dX8_workOut_77 (cl' := 0) (sl' := 0) rfl rfl (fun u_17 => ?_)
      refine wG_iinc C (v := 1) (LL := fun x5_18 => [(0, .ref (xB X + 45)), (1, .int x1), (2, .int x2_2), (3, .int x3_6), (4, .int x4_10), (5, .int x5_18)]) dX8_workOut_80 5 rfl (by decide) (by decide) [1, 2, 3, 4, 5, 0] (fun _ => rfl) (fun x5_18 => ?_)
      refine wG_goto C dX8_workOut_83 ?_
      exact wG_lv [0, 1, 2, 3, 4, 5] rfl (ih x5_18 u_17)
set_option maxRecDepth 4000 in
theorem wL_X8_workOut_F_29 {X : wX} (C : Cx X yX8_workOut cX8_workOut 6 none rm_X8_workOut_F) {N : Nat} {q : Qp} (hN : 137 ≤ N) (h : Hp) (x1 : Int32) (x2_1 : Int32) (x2_2 : Int32) (h_3 : Hp) (x3_5 : Int32) (x3_6 : Int32) (h_7 : Hp) (x4_9 : Int32) : ∀ n x4_10 h_11, wG X 6 (fun (t_12 : Hp) Q => gQ X 6 Q N t_12 (rq q) 0 0 92 [(0, .ref (xB X + 45)), (1, .int x1), (2, .int x2_2), (3, .int x3_6)] []) (L_X8_workOut_F_29 x1 x2_2 x3_6 n x4_10 h_11) N h_11 (rq q) 0 0 29 [(0, .ref (xB X + 45)), (1, .int x1), (2, .int x2_2), (3, .int x3_6), (4, .int x4_10)] [] := by
  intro n
  induction n with
  | zero => intro _ _; exact wG_none
  | succ n ih =>
    intro x4_10 h_11
    refine wG_of (L_X8_workOut_F_29.eq_2 ..) ?_
    refine wG_iload C dX8_workOut_29 4 rfl ?_
    refine wG_aload_n C dX8_workOut_31 0 rfl ?_
    refine wG_getR C fl_X8_9_3 rfl kd_45 (wll hN (by decide)) (rf_45_0 q) dX8_workOut_32 ?_
    refine wG_getI C fl_X8_29_4 rfl kd_3 (wll hN (by decide)) dX8_workOut_35 ?_
    refine wG_iload_n C dX8_workOut_38 2 rfl ?_
    refine wG_isub C dX8_workOut_39 ?_
    refine wG_icmp_gt C dX8_workOut_40 ?_ ?_
    · exact wG_exit (fun Q e => gQ_lv [0, 1, 2, 3] rfl e)
    · refine wG_iconst C dX8_workOut_43 (v := 0) (by decide) ?_
      refine wG_nmI (fun x5_13 => ?_)
      refine wG_istore C (L' := [(0, .ref (xB X + 45)), (1, .int x1), (2, .int x2_2), (3, .int x3_6), (4, .int x4_10), (5, .int x5_13)]) dX8_workOut_44 (by decide) [1, 2, 3, 4, 5, 0] rfl ?_
      refine wG_lv (L' := [(0, .ref (xB X + 45)), (1, .int x1), (2, .int x2_2), (3, .int x3_6), (4, .int x4_10), (5, .int x5_13)]) [0, 1, 2, 3, 4, 5] rfl ?_
      refine wG_bind (wL_X8_workOut_F_46 C hN h x1 x2_1 x2_2 h_3 x3_5 x3_6 h_7 x4_9 x4_10 h_11 x5_13 FU x5_13 h_11) (fun t_16 => (?_ : wG X 6 _ _ N t_16 (rq q) 0 0 86 [(0, .ref (xB X + 45)), (1, .int x1), (2, .int x2_2), (3, .int x3_6), (4, .int x4_10)] []))
      refine wG_iinc C (v := 1) (LL := fun x4_19 => [(0, .ref (xB X + 45)), (1, .int x1), (2, .int x2_2), (3, .int x3_6), (4, .int x4_19)]) dX8_workOut_86 4 rfl (by decide) (by decide) [1, 2, 3, 4, 0] (fun _ => rfl) (fun x4_19 => ?_)
      refine wG_goto C dX8_workOut_89 ?_
      exact wG_lv [0, 1, 2, 3, 4] rfl (ih x4_19 t_16)
set_option maxRecDepth 4000 in
theorem wL_X8_workOut_F_15 {X : wX} (C : Cx X yX8_workOut cX8_workOut 6 none rm_X8_workOut_F) {N : Nat} {q : Qp} (hN : 137 ≤ N) (h : Hp) (x1 : Int32) (x2_1 : Int32) (x2_2 : Int32) (h_3 : Hp) (x3_5 : Int32) : ∀ n x3_6 h_7, wG X 6 (fun (t_8 : Hp) Q => gQ X 6 Q N t_8 (rq q) 0 0 98 [(0, .ref (xB X + 45)), (1, .int x1), (2, .int x2_2)] []) (L_X8_workOut_F_15 x1 x2_2 n x3_6 h_7) N h_7 (rq q) 0 0 15 [(0, .ref (xB X + 45)), (1, .int x1), (2, .int x2_2), (3, .int x3_6)] [] := by
  intro n
  induction n with
  | zero => intro _ _; exact wG_none
  | succ n ih =>
    intro x3_6 h_7
    refine wG_of (L_X8_workOut_F_15.eq_2 ..) ?_
    refine wG_iload_n C dX8_workOut_15 3 rfl ?_
    refine wG_aload_n C dX8_workOut_16 0 rfl ?_
    refine wG_getR C fl_X8_9_3 rfl kd_45 (wll hN (by decide)) (rf_45_0 q) dX8_workOut_17 ?_
    refine wG_getI C fl_X8_34_4 rfl kd_3 (wll hN (by decide)) dX8_workOut_20 ?_
    refine wG_icmp_gt C dX8_workOut_23 ?_ ?_
    · exact wG_exit (fun Q e => gQ_lv [0, 1, 2] rfl e)
    · refine wG_iconst C dX8_workOut_26 (v := 0) (by decide) ?_
      refine wG_nmI (fun x4_9 => ?_)
      refine wG_istore C (L' := [(0, .ref (xB X + 45)), (1, .int x1), (2, .int x2_2), (3, .int x3_6), (4, .int x4_9)]) dX8_workOut_27 (by decide) [1, 2, 3, 4, 0] rfl ?_
      refine wG_lv (L' := [(0, .ref (xB X + 45)), (1, .int x1), (2, .int x2_2), (3, .int x3_6), (4, .int x4_9)]) [0, 1, 2, 3, 4] rfl ?_
      refine wG_bind (wL_X8_workOut_F_29 C hN h x1 x2_1 x2_2 h_3 x3_5 x3_6 h_7 x4_9 FU x4_9 h_7) (fun t_12 => (?_ : wG X 6 _ _ N t_12 (rq q) 0 0 92 [(0, .ref (xB X + 45)), (1, .int x1), (2, .int x2_2), (3, .int x3_6)] []))
      refine wG_iinc C (v := 1) (LL := fun x3_20 => [(0, .ref (xB X + 45)), (1, .int x1), (2, .int x2_2), (3, .int x3_20)]) dX8_workOut_92 3 rfl (by decide) (by decide) [1, 2, 3, 0] (fun _ => rfl) (fun x3_20 => ?_)
      refine wG_goto C dX8_workOut_95 ?_
      exact wG_lv [0, 1, 2, 3] rfl (ih x3_20 t_12)
set_option maxRecDepth 4000 in
theorem wL_X8_workOut_F_2 {X : wX} (C : Cx X yX8_workOut cX8_workOut 6 none rm_X8_workOut_F) {N : Nat} {q : Qp} (hN : 137 ≤ N) (h : Hp) (x1 : Int32) (x2_1 : Int32) : ∀ n x2_2 h_3, wG X 6 (fun (t_4 : Hp) Q => gQ X 6 Q N t_4 (rq q) 0 0 104 [] []) (L_X8_workOut_F_2 x1 n x2_2 h_3) N h_3 (rq q) 0 0 2 [(0, .ref (xB X + 45)), (1, .int x1), (2, .int x2_2)] [] := by
  intro n
  induction n with
  | zero => intro _ _; exact wG_none
  | succ n ih =>
    intro x2_2 h_3
    refine wG_of (L_X8_workOut_F_2.eq_2 ..) ?_
    refine wG_iload_n C dX8_workOut_2 2 rfl ?_
    refine wG_aload_n C dX8_workOut_3 0 rfl ?_
    refine wG_getR C fl_X8_9_3 rfl kd_45 (wll hN (by decide)) (rf_45_0 q) dX8_workOut_4 ?_
    refine wG_getI C fl_X8_29_4 rfl kd_3 (wll hN (by decide)) dX8_workOut_7 ?_
    refine wG_icmp_gt C dX8_workOut_10 ?_ ?_
    · exact wG_exit (fun Q e => gQ_lv [] rfl e)
    · refine wG_iconst C dX8_workOut_13 (v := 1) (by decide) ?_
      refine wG_nmI (fun x3_5 => ?_)
      refine wG_istore_n C (L' := [(0, .ref (xB X + 45)), (1, .int x1), (2, .int x2_2), (3, .int x3_5)]) dX8_workOut_14 (by decide) [1, 2, 3, 0] rfl ?_
      refine wG_lv (L' := [(0, .ref (xB X + 45)), (1, .int x1), (2, .int x2_2), (3, .int x3_5)]) [0, 1, 2, 3] rfl ?_
      refine wG_bind (wL_X8_workOut_F_15 C hN h x1 x2_1 x2_2 h_3 x3_5 FU x3_5 h_3) (fun t_8 => (?_ : wG X 6 _ _ N t_8 (rq q) 0 0 98 [(0, .ref (xB X + 45)), (1, .int x1), (2, .int x2_2)] []))
      refine wG_iinc C (v := 1) (LL := fun x2_21 => [(0, .ref (xB X + 45)), (1, .int x1), (2, .int x2_21)]) dX8_workOut_98 2 rfl (by decide) (by decide) [1, 2, 0] (fun _ => rfl) (fun x2_21 => ?_)
      refine wG_goto C dX8_workOut_101 ?_
      exact wG_lv [0, 1, 2] rfl (ih x2_21 t_8)
set_option maxRecDepth 4000 in
theorem w_X8_workOut_F {X : wX} (C : Cx X yX8_workOut cX8_workOut 6 none rm_X8_workOut_F) {N : Nat} {q : Qp} (hN : 137 ≤ N) (h : Hp) (x1 : Int32) : wG X 6 (eM X (fun u => (none, N, u, (rq q)))) (f_X8_workOut_F h x1) N h (rq q) 0 0 0 [(0, .ref (xB X + 45)), (1, .int x1)] [] := by
  refine wG_of (f_X8_workOut_F.eq_1 ..) ?_
  refine wG_iconst C dX8_workOut_0 (v := 1) (by decide) ?_
  refine wG_nmI (fun x2_1 => ?_)
  refine wG_istore_n C (L' := [(0, .ref (xB X + 45)), (1, .int x1), (2, .int x2_1)]) dX8_workOut_1 (by decide) [1, 2, 0] rfl ?_
  refine wG_lv (L' := [(0, .ref (xB X + 45)), (1, .int x1), (2, .int x2_1)]) [0, 1, 2] rfl ?_
  refine wG_bind (wL_X8_workOut_F_2 C hN h x1 x2_1 FU x2_1 h) (fun t_4 => (?_ : wG X 6 _ _ N t_4 (rq q) 0 0 104 [] []))
  exact wG_vret C dX8_workOut_104 ⟨by decide, by decide⟩ (fun _ e => e)
theorem c_X8_workOut_F (l : Launch) (E : wE) (N : Nat) (q : Qp) (hN : 137 ≤ N) (h : Hp) (x1 : Int32) : ∀ z, f_X8_workOut_F h x1 = some z → CT l E yX8_workOut cX8_workOut 6 none rm_X8_workOut_F [.ref (eB E + 45), .int x1] N h (rq q) ((fun u => (none, N, u, (rq q))) z) := CT.of (by decide +kernel) (Nat.le_of_ble_eq_true rfl) (fun X _ e C => by subst e; exact w_X8_workOut_F C hN h x1)
def rm_X8_costOfAll_F : Room := { frames := 1, cells := 0, slots := 0, locals := 26 }
def f_X8_costOfAll_F (h : Hp) (x1 : Int32) : Option Int32 :=
  (f_X8_spotOf_F h 0 0 (h 3 3) (h 3 4)).bind fun u_1 =>
  if inB (u_1 + x1) 441 then
  some (h 46 (ix (u_1 + x1))) else none
set_option maxRecDepth 4000 in
theorem w_X8_costOfAll_F {X : wX} (C : Cx X yX8_costOfAll cX8_costOfAll 2 (some .int) rm_X8_costOfAll_F) {N : Nat} {q : Qp} (hN : 137 ≤ N) (h : Hp) (x1 : Int32) : wG X 2 (eM X (fun u => (some (.int u), N, h, (rq q)))) (f_X8_costOfAll_F h x1) N h (rq q) 0 0 0 [(0, .ref (xB X + 45)), (1, .int x1)] [] := by
  refine wG_of (f_X8_costOfAll_F.eq_1 ..) ?_
  refine wG_aload_n C dX8_costOfAll_0 0 rfl ?_
  refine wG_getR C fl_X8_25_3 rfl kd_45 (wll hN (by decide)) (rf_45_2 q) dX8_costOfAll_1 ?_
  refine wG_aload_n C dX8_costOfAll_4 0 rfl ?_
  refine wG_iconst C dX8_costOfAll_5 (v := 0) (by decide) ?_
  refine wG_iconst C dX8_costOfAll_6 (v := 0) (by decide) ?_
  refine wG_aload_n C dX8_costOfAll_7 0 rfl ?_
  refine wG_getR C fl_X8_9_3 rfl kd_45 (wll hN (by decide)) (rf_45_0 q) dX8_costOfAll_8 ?_
  refine wG_getI C fl_X8_29_4 rfl kd_3 (wll hN (by decide)) dX8_costOfAll_11 ?_
  refine wG_aload_n C dX8_costOfAll_14 0 rfl ?_
  refine wG_getR C fl_X8_9_3 rfl kd_45 (wll hN (by decide)) (rf_45_0 q) dX8_costOfAll_15 ?_
  refine wG_getI C fl_X8_34_4 rfl kd_3 (wll hN (by decide)) dX8_costOfAll_18 ?_
  refine wG_cU_ri [.int 0, .int 0, .int (h 3 3), .int (h 3 4)] [.ref (xB X + 46)] C uw_X8_44_3 (c_X8_spotOf_F (xl X) (xE X) N q hN h 0 0 (h 3 3) (h 3 4)) kd_45 (wll hN (by decide)) (by decide) rfl rfl (Nat.le_of_ble_eq_true rfl) dX8_costOfAll_21 (cl' := 0) (sl' := 0) rfl rfl (fun u_1 => ?_)
  refine wG_iload_n C dX8_costOfAll_24 1 rfl ?_
  refine wG_iadd C dX8_costOfAll_25 ?_
  refine wG_iald C kd_46 (wll hN (by decide)) ln_46 dX8_costOfAll_26 ?_
  exact wG_iret C dX8_costOfAll_27 ⟨by decide, by decide⟩ (fun _ e => e)
theorem c_X8_costOfAll_F (l : Launch) (E : wE) (N : Nat) (q : Qp) (hN : 137 ≤ N) (h : Hp) (x1 : Int32) : ∀ z, f_X8_costOfAll_F h x1 = some z → CT l E yX8_costOfAll cX8_costOfAll 2 (some .int) rm_X8_costOfAll_F [.ref (eB E + 45), .int x1] N h (rq q) ((fun u => (some (.int u), N, h, (rq q))) z) := CT.of (by decide +kernel) (Nat.le_of_ble_eq_true rfl) (fun X _ e C => by subst e; exact w_X8_costOfAll_F C hN h x1)
def rm_X3_shortest : Room := { frames := 5, cells := 0, slots := 0, locals := 135 }
def f_X3_shortest (h : Hp) (x1 : Int32) : Option (Int32 × Hp) :=
  (f_X4_weightIn h 0 0 (h 3 3) (h 3 4)).bind fun u_1 =>
  vB u_1 fun (x2_2 : Int32) =>
  (f_X4_rindIn h 0 0 (h 3 3) (h 3 4)).bind fun u_3 =>
  vB u_3 fun (x3_4 : Int32) =>
  (if x1 < 1 then
  some (1000000, h)
  else
  (if x2_2 = 0 then
  some (1000000, h)
  else
  if x1 = 0 then none else
  (if (x2_2 - x2_2 / x1 * x1) = 0 then
  if x1 = 0 then none else
  (if (x3_4 - x3_4 / x1 * x1) = 0 then
  if x1 = 0 then none else
  vB (u2 h 45 3 (x2_2 / x1)) fun h_5 =>
  if x1 = 0 then none else
  vB (u2 h_5 45 4 (x3_4 / x1)) fun h_6 =>
  (f_X8_workOut_F h_6 0).bind fun u_7 =>
  (f_X8_costOfAll_F u_7 0).bind fun u_8 =>
  some (u_8, u_7)
  else
  some (1000000, h))
  else
  some (1000000, h))))
set_option maxRecDepth 4000 in
theorem w_X3_shortest {X : wX} (C : Cx X yX3_shortest cX3_shortest 4 (some .int) rm_X3_shortest) {N : Nat} {q : Qp} (hN : 137 ≤ N) (h : Hp) (x1 : Int32) : wG X 4 (eM X (fun u => (some (.int u.1), N, u.2, (rq q)))) (f_X3_shortest h x1) N h (rq q) 0 0 0 [(0, .ref (xB X + 45)), (1, .int x1)] [] := by
  refine wG_of (f_X3_shortest.eq_1 ..) ?_
  refine wG_aload_n C dX3_shortest_0 0 rfl ?_
  refine wG_getR C fl_X3_15_3 rfl kd_45 (wll hN (by decide)) (rf_45_0 q) dX3_shortest_1 ?_
  refine wG_iconst C dX3_shortest_4 (v := 0) (by decide) ?_
  refine wG_iconst C dX3_shortest_5 (v := 0) (by decide) ?_
  refine wG_aload_n C dX3_shortest_6 0 rfl ?_
  refine wG_getR C fl_X3_15_3 rfl kd_45 (wll hN (by decide)) (rf_45_0 q) dX3_shortest_7 ?_
  refine wG_getI C fl_X3_19_4 rfl kd_3 (wll hN (by decide)) dX3_shortest_10 ?_
  refine wG_aload_n C dX3_shortest_13 0 rfl ?_
  refine wG_getR C fl_X3_15_3 rfl kd_45 (wll hN (by decide)) (rf_45_0 q) dX3_shortest_14 ?_
  refine wG_getI C fl_X3_24_4 rfl kd_3 (wll hN (by decide)) dX3_shortest_17 ?_
  refine wG_cV_ri [.int 0, .int 0, .int (h 3 3), .int (h 3 4)] [] C vw_X3_27 (c_X4_weightIn (xl X) (xE X) N (rq q) (Nat.le_trans (by decide) hN) ⟨rf_3_0 q, rf_3_1 q, rf_3_2 q⟩ h 0 0 (h 3 3) (h 3 4)) kd_3 (wll hN (by decide)) (by decide) rfl rfl (Nat.le_of_ble_eq_true rfl) dX3_shortest_20 (cl' := 0) (sl' := 0) rfl rfl (fun u_1 => ?_)
  refine wG_nmI (fun x2_2 => ?_)
  refine wG_istore_n C (L' := [(0, .ref (xB X + 45)), (1, .int x1), (2, .int x2_2)]) dX3_shortest_23 (by decide) [1, 2, 0] rfl ?_
  refine wG_aload_n C dX3_shortest_24 0 rfl ?_
  refine wG_getR C fl_X3_15_3 rfl kd_45 (wll hN (by decide)) (rf_45_0 q) dX3_shortest_25 ?_
  refine wG_iconst C dX3_shortest_28 (v := 0) (by decide) ?_
  refine wG_iconst C dX3_shortest_29 (v := 0) (by decide) ?_
  refine wG_aload_n C dX3_shortest_30 0 rfl ?_
  refine wG_getR C fl_X3_15_3 rfl kd_45 (wll hN (by decide)) (rf_45_0 q) dX3_shortest_31 ?_
  refine wG_getI C fl_X3_19_4 rfl kd_3 (wll hN (by decide)) dX3_shortest_34 ?_
  refine wG_aload_n C dX3_shortest_37 0 rfl ?_
  refine wG_getR C fl_X3_15_3 rfl kd_45 (wll hN (by decide)) (rf_45_0 q) dX3_shortest_38 ?_
  refine wG_getI C fl_X3_24_4 rfl kd_3 (wll hN (by decide)) dX3_shortest_41 ?_
  refine wG_cV_ri [.int 0, .int 0, .int (h 3 3), .int (h 3 4)] [] C vw_X3_31 (c_X4_rindIn (xl X) (xE X) N (rq q) (Nat.le_trans (by decide) hN) ⟨rf_3_0 q, rf_3_1 q, rf_3_2 q⟩ h 0 0 (h 3 3) (h 3 4)) kd_3 (wll hN (by decide)) (by decide) rfl rfl (Nat.le_of_ble_eq_true rfl) dX3_shortest_44 (cl' := 0) (sl' := 0) rfl rfl (fun u_3 => ?_)
  refine wG_nmI (fun x3_4 => ?_)
  refine wG_istore_n C (L' := [(0, .ref (xB X + 45)), (1, .int x1), (2, .int x2_2), (3, .int x3_4)]) dX3_shortest_47 (by decide) [1, 2, 3, 0] rfl ?_
  refine wG_iload_n C dX3_shortest_48 1 rfl ?_
  refine wG_iconst C dX3_shortest_49 (v := 1) (by decide) ?_
  refine wG_icmp_lt C dX3_shortest_50 ?_ ?_
  · refine wG_ldc C dX3_shortest_69 m_753 ?_
    exact wG_iret C dX3_shortest_71 ⟨by decide, by decide⟩ (fun _ e => e)
  · refine wG_iload_n C dX3_shortest_53 2 rfl ?_
    refine wG_if_eq C dX3_shortest_54 ?_ ?_
    · refine wG_ldc C dX3_shortest_69 m_753 ?_
      exact wG_iret C dX3_shortest_71 ⟨by decide, by decide⟩ (fun _ e => e)
    · refine wG_iload_n C dX3_shortest_57 2 rfl ?_
      refine wG_iload_n C dX3_shortest_58 1 rfl ?_
      refine wG_irem C dX3_shortest_59 ?_
      refine wG_if_ne C dX3_shortest_60 ?_ ?_
      · refine wG_iload_n C dX3_shortest_63 3 rfl ?_
        refine wG_iload_n C dX3_shortest_64 1 rfl ?_
        refine wG_irem C dX3_shortest_65 ?_
        refine wG_if_eq C dX3_shortest_66 ?_ ?_
        · refine wG_aload_n C dX3_shortest_72 0 rfl ?_
          refine wG_iload_n C dX3_shortest_73 2 rfl ?_
          refine wG_iload_n C dX3_shortest_74 1 rfl ?_
          refine wG_idiv C dX3_shortest_75 ?_
          refine wG_putI C fl_X3_9_3 (fp_3_3 _) (fun e => Bool.noConfusion e) rfl kd_45 (wll hN (by decide)) dX3_shortest_76 (fun h_5 => ?_)
          refine wG_aload_n C dX3_shortest_79 0 rfl ?_
          refine wG_iload_n C dX3_shortest_80 3 rfl ?_
          refine wG_iload_n C dX3_shortest_81 1 rfl ?_
          refine wG_idiv C dX3_shortest_82 ?_
          refine wG_putI C fl_X3_35_3 (fp_3_4 _) (fun e => Bool.noConfusion e) rfl kd_45 (wll hN (by decide)) dX3_shortest_83 (fun h_6 => ?_)
          refine wG_aload_n C dX3_shortest_86 0 rfl ?_
          refine wG_iconst C dX3_shortest_87 (v := 0) (by decide) ?_
          refine wG_cU_wv [.int 0] [] C uw_X3_38_3 (c_X8_workOut_F (xl X) (xE X) N q hN h_6 0) kd_45 (wll hN (by decide)) (by decide) rfl rfl (Nat.le_of_ble_eq_true rfl) dX3_shortest_88 (cl' := 0) (sl' := 0) rfl rfl (fun u_7 => ?_)
          refine wG_aload_n C dX3_shortest_91 0 rfl ?_
          refine wG_iconst C dX3_shortest_92 (v := 0) (by decide) ?_
          refine wG_cU_ri [.int 0] [] C uw_X3_42_3 (c_X8_costOfAll_F (xl X) (xE X) N q hN u_7 0) kd_45 (wll hN (by decide)) (by decide) rfl rfl (Nat.le_of_ble_eq_true rfl) dX3_shortest_93 (cl' := 0) (sl' := 0) rfl rfl (fun u_8 => ?_)
          exact wG_iret C dX3_shortest_96 ⟨by decide, by decide⟩ (fun _ e => e)
        · refine wG_ldc C dX3_shortest_69 m_753 ?_
          exact wG_iret C dX3_shortest_71 ⟨by decide, by decide⟩ (fun _ e => e)
      · refine wG_ldc C dX3_shortest_69 m_753 ?_
        exact wG_iret C dX3_shortest_71 ⟨by decide, by decide⟩ (fun _ e => e)
theorem c_X3_shortest (l : Launch) (E : wE) (N : Nat) (q : Qp) (hN : 137 ≤ N) (h : Hp) (x1 : Int32) : ∀ z, f_X3_shortest h x1 = some z → CT l E yX3_shortest cX3_shortest 4 (some .int) rm_X3_shortest [.ref (eB E + 45), .int x1] N h (rq q) ((fun u => (some (.int u.1), N, u.2, (rq q))) z) := CT.of (by decide +kernel) (Nat.le_of_ble_eq_true rfl) (fun X _ e C => by subst e; exact w_X3_shortest C hN h x1)
def rm_X11_fair : Room := { frames := 6, cells := 0, slots := 0, locals := 158 }
def f_X11_fair (h : Hp) (x1 : Int32) : Option (Int32 × Hp) :=
  (if x1 < 1 then
  some ((-2), h)
  else
  (if x1 ≤ 36 then
  (f_X3_shortest h x1).bind fun u_1 =>
  vB u_1.1 fun (x2_2 : Int32) =>
  (if (1000000 : Int32) ≤ x2_2 then
  some ((-9), u_1.2)
  else
  some (x2_2, u_1.2))
  else
  some ((-2), h)))
set_option maxRecDepth 4000 in
theorem w_X11_fair {X : wX} (C : Cx X yX11_fair cX11_fair 3 (some .int) rm_X11_fair) {N : Nat} {q : Qp} (hN : 137 ≤ N) (h : Hp) (x1 : Int32) : wG X 3 (eM X (fun u => (some (.int u.1), N, u.2, (rq q)))) (f_X11_fair h x1) N h (rq q) 0 0 0 [(0, .ref (xB X + 0)), (1, .int x1)] [] := by
  refine wG_of (f_X11_fair.eq_1 ..) ?_
  refine wG_iload_n C dX11_fair_0 1 rfl ?_
  refine wG_iconst C dX11_fair_1 (v := 1) (by decide) ?_
  refine wG_icmp_lt C dX11_fair_2 ?_ ?_
  · refine wG_bipush C dX11_fair_11 (v := (-2)) (by decide) ?_
    exact wG_iret C dX11_fair_13 ⟨by decide, by decide⟩ (fun _ e => e)
  · refine wG_iload_n C dX11_fair_5 1 rfl ?_
    refine wG_bipush C dX11_fair_6 (v := 36) (by decide) ?_
    refine wG_icmp_le C dX11_fair_8 ?_ ?_
    · refine wG_aload_n C dX11_fair_14 0 rfl ?_
      refine wG_getR C fl_X11_55_11 rfl kd_0 (wll hN (by decide)) (rf_0_6 q) dX11_fair_15 ?_
      refine wG_iload_n C dX11_fair_18 1 rfl ?_
      refine wG_cV_wi [.int x1] [] C vw_X11_233 (c_X3_shortest (xl X) (xE X) N q hN h x1) kd_45 (wll hN (by decide)) (by decide) rfl rfl (Nat.le_of_ble_eq_true rfl) dX11_fair_19 (cl' := 0) (sl' := 0) rfl rfl (fun u_1 => ?_)
      refine wG_nmI (fun x2_2 => ?_)
      refine wG_istore_n C (L' := [(2, .int x2_2)]) dX11_fair_22 (by decide) [0] rfl ?_
      refine wG_iload_n C dX11_fair_23 0 rfl ?_
      refine wG_ldc C dX11_fair_24 m_688 ?_
      refine wG_icmp_ge C dX11_fair_26 ?_ ?_
      · refine wG_bipush C dX11_fair_33 (v := (-9)) (by decide) ?_
        exact wG_iret C dX11_fair_35 ⟨by decide, by decide⟩ (fun _ e => e)
      · refine wG_iload_n C dX11_fair_29 0 rfl ?_
        refine wG_goto C dX11_fair_30 ?_
        exact wG_iret C dX11_fair_35 ⟨by decide, by decide⟩ (fun _ e => e)
    · refine wG_bipush C dX11_fair_11 (v := (-2)) (by decide) ?_
      exact wG_iret C dX11_fair_13 ⟨by decide, by decide⟩ (fun _ e => e)
theorem c_X11_fair (l : Launch) (E : wE) (N : Nat) (q : Qp) (hN : 137 ≤ N) (h : Hp) (x1 : Int32) : ∀ z, f_X11_fair h x1 = some z → CT l E yX11_fair cX11_fair 3 (some .int) rm_X11_fair [.ref (eB E + 0), .int x1] N h (rq q) ((fun u => (some (.int u.1), N, u.2, (rq q))) z) := CT.of (by decide +kernel) (Nat.le_of_ble_eq_true rfl) (fun X _ e C => by subst e; exact w_X11_fair C hN h x1)
def rm_X5_isApart : Room := { frames := 0, cells := 0, slots := 0, locals := 0 }
def f_X5_isApart (h : Hp) (x1 : Int32) (x2 : Int32) (x3 : Int32) (x4 : Int32) (x5 : Int32) : Option Int32 :=
  if inB x1 6 then
  (if x4 ≤ (h 49 (ix x1)) then
  some 1
  else
  if inB x1 6 then
  (if (h 50 (ix x1)) ≤ x2 then
  some 1
  else
  if inB x1 6 then
  (if x5 ≤ (h 51 (ix x1)) then
  some 1
  else
  if inB x1 6 then
  (if x3 < (h 52 (ix x1)) then
  some 0
  else
  some 1) else none) else none) else none) else none
set_option maxRecDepth 4000 in
theorem w_X5_isApart {X : wX} (C : Cx X yX5_isApart cX5_isApart 6 (some .boolean) rm_X5_isApart) {N : Nat} {q : Qp} (hN : 137 ≤ N) (h : Hp) (x1 : Int32) (x2 : Int32) (x3 : Int32) (x4 : Int32) (x5 : Int32) : wG X 6 (eM X (fun u => (some (.int u), N, h, (rq q)))) (f_X5_isApart h x1 x2 x3 x4 x5) N h (rq q) 0 0 0 [(0, .ref (xB X + 47)), (1, .int x1), (2, .int x2), (3, .int x3), (4, .int x4), (5, .int x5)] [] := by
  refine wG_of (f_X5_isApart.eq_1 ..) ?_
  refine wG_aload_n C dX5_isApart_0 0 rfl ?_
  refine wG_getR C fl_X5_9_5 rfl kd_47 (wll hN (by decide)) (rf_47_3 q) dX5_isApart_1 ?_
  refine wG_iload_n C dX5_isApart_4 1 rfl ?_
  refine wG_iald C kd_49 (wll hN (by decide)) ln_49 dX5_isApart_5 ?_
  refine wG_iload C dX5_isApart_6 4 rfl ?_
  refine wG_icmp_ge C dX5_isApart_8 ?_ ?_
  · refine wG_iconst C dX5_isApart_42 (v := 1) (by decide) ?_
    refine wG_goto C dX5_isApart_43 ?_
    exact wG_zret C dX5_isApart_47 rfl ⟨by decide, by decide⟩ (fun _ e => e)
  · refine wG_aload_n C dX5_isApart_11 0 rfl ?_
    refine wG_getR C fl_X5_15_5 rfl kd_47 (wll hN (by decide)) (rf_47_4 q) dX5_isApart_12 ?_
    refine wG_iload_n C dX5_isApart_15 1 rfl ?_
    refine wG_iald C kd_50 (wll hN (by decide)) ln_50 dX5_isApart_16 ?_
    refine wG_iload_n C dX5_isApart_17 2 rfl ?_
    refine wG_icmp_le C dX5_isApart_18 ?_ ?_
    · refine wG_iconst C dX5_isApart_42 (v := 1) (by decide) ?_
      refine wG_goto C dX5_isApart_43 ?_
      exact wG_zret C dX5_isApart_47 rfl ⟨by decide, by decide⟩ (fun _ e => e)
    · refine wG_aload_n C dX5_isApart_21 0 rfl ?_
      refine wG_getR C fl_X5_18_5 rfl kd_47 (wll hN (by decide)) (rf_47_5 q) dX5_isApart_22 ?_
      refine wG_iload_n C dX5_isApart_25 1 rfl ?_
      refine wG_iald C kd_51 (wll hN (by decide)) ln_51 dX5_isApart_26 ?_
      refine wG_iload C dX5_isApart_27 5 rfl ?_
      refine wG_icmp_ge C dX5_isApart_29 ?_ ?_
      · refine wG_iconst C dX5_isApart_42 (v := 1) (by decide) ?_
        refine wG_goto C dX5_isApart_43 ?_
        exact wG_zret C dX5_isApart_47 rfl ⟨by decide, by decide⟩ (fun _ e => e)
      · refine wG_aload_n C dX5_isApart_32 0 rfl ?_
        refine wG_getR C fl_X5_21_5 rfl kd_47 (wll hN (by decide)) (rf_47_6 q) dX5_isApart_33 ?_
        refine wG_iload_n C dX5_isApart_36 1 rfl ?_
        refine wG_iald C kd_52 (wll hN (by decide)) ln_52 dX5_isApart_37 ?_
        refine wG_iload_n C dX5_isApart_38 3 rfl ?_
        refine wG_icmp_gt C dX5_isApart_39 ?_ ?_
        · refine wG_iconst C dX5_isApart_46 (v := 0) (by decide) ?_
          exact wG_zret C dX5_isApart_47 rfl ⟨by decide, by decide⟩ (fun _ e => e)
        · refine wG_iconst C dX5_isApart_42 (v := 1) (by decide) ?_
          refine wG_goto C dX5_isApart_43 ?_
          exact wG_zret C dX5_isApart_47 rfl ⟨by decide, by decide⟩ (fun _ e => e)
theorem c_X5_isApart (l : Launch) (E : wE) (N : Nat) (q : Qp) (hN : 137 ≤ N) (h : Hp) (x1 : Int32) (x2 : Int32) (x3 : Int32) (x4 : Int32) (x5 : Int32) : ∀ z, f_X5_isApart h x1 x2 x3 x4 x5 = some z → CT l E yX5_isApart cX5_isApart 6 (some .boolean) rm_X5_isApart [.ref (eB E + 47), .int x1, .int x2, .int x3, .int x4, .int x5] N h (rq q) ((fun u => (some (.int u), N, h, (rq q))) z) := CT.of (by decide +kernel) (Nat.le_of_ble_eq_true rfl) (fun X _ e C => by subst e; exact w_X5_isApart C hN h x1 x2 x3 x4 x5)
def rm_X5_touches : Room := { frames := 1, cells := 0, slots := 0, locals := 25 }
def L_X5_touches_3 (h : Hp) (x1 : Int32) (x2 : Int32) (x3 : Int32) (x4 : Int32) (K : Unit → Option Int32) : Nat → Int32 → Option Int32
  | 0, _ => none
  | n + 1, x5_2 =>
    (if (h 47 7) ≤ x5_2 then
    K ()
    else
    (f_X5_isApart h x5_2 x1 x2 (x1 + x3) (x2 + x4)).bind fun u_4 =>
    (if u_4 = 0 then
    some 1
    else
    vB (x5_2 + 1) fun (x5_5 : Int32) =>
    L_X5_touches_3 h x1 x2 x3 x4 K n x5_5))
def f_X5_touches (h : Hp) (x1 : Int32) (x2 : Int32) (x3 : Int32) (x4 : Int32) : Option Int32 :=
  vB 0 fun (x5_1 : Int32) =>
  L_X5_touches_3 h x1 x2 x3 x4 (fun (t_3 : Unit) =>
  some 0) FU x5_1
set_option maxRecDepth 4000 in
theorem wL_X5_touches_3 {X : wX} (C : Cx X yX5_touches cX5_touches 6 (some .boolean) rm_X5_touches) {N : Nat} {q : Qp} (hN : 137 ≤ N) (h : Hp) (x1 : Int32) (x2 : Int32) (x3 : Int32) (x4 : Int32) (x5_1 : Int32) (K : Unit → Option Int32) (hK : ∀ t_3, wG X 6 (eM X (fun u => (some (.int u), N, h, (rq q)))) (K t_3) N h (rq q) 0 0 38 [] []) : ∀ n x5_2, wG X 6 (eM X (fun u => (some (.int u), N, h, (rq q)))) (L_X5_touches_3 h x1 x2 x3 x4 K n x5_2) N h (rq q) 0 0 3 [(0, .ref (xB X + 47)), (1, .int x1), (2, .int x2), (3, .int x3), (4, .int x4), (5, .int x5_2)] [] := by
  intro n
  induction n with
  | zero => intro _; exact wG_none
  | succ n ih =>
    intro x5_2
    refine wG_of (L_X5_touches_3.eq_2 ..) ?_
    refine wG_iload C dX5_touches_3 5 rfl ?_
    refine wG_aload_n C dX5_touches_5 0 rfl ?_
    refine wG_getI C fl_X5_24_5 rfl kd_47 (wll hN (by decide)) dX5_touches_6 ?_
    refine wG_icmp_ge C dX5_touches_9 ?_ ?_
    · exact wG_lv [] rfl (hK ())
    · refine wG_aload_n C dX5_touches_12 0 rfl ?_
      refine wG_iload C dX5_touches_13 5 rfl ?_
      refine wG_iload_n C dX5_touches_15 1 rfl ?_
      refine wG_iload_n C dX5_touches_16 2 rfl ?_
      refine wG_iload_n C dX5_touches_17 1 rfl ?_
      refine wG_iload_n C dX5_touches_18 3 rfl ?_
      refine wG_iadd C dX5_touches_19 ?_
      refine wG_iload_n C dX5_touches_20 2 rfl ?_
      refine wG_iload C dX5_touches_21 4 rfl ?_
      refine wG_iadd C dX5_touches_23 ?_
      refine wG_cV_ri [.int x5_2, .int x1, .int x2, .int (x1 + x3), .int (x2 + x4)] [] C vw_X5_32 (c_X5_isApart (xl X) (xE X) N q hN h x5_2 x1 x2 (x1 + x3) (x2 + x4)) kd_47 (wll hN (by decide)) (by decide) rfl rfl (Nat.le_of_ble_eq_true rfl) dX5_touches_24 (cl' := 0) (sl' := 0) rfl rfl (fun u_4 => ?_)
      refine wG_if_ne C dX5_touches_27 ?_ ?_
      · refine wG_iconst C dX5_touches_30 (v := 1) (by decide) ?_
        exact wG_zret C dX5_touches_31 rfl ⟨by decide, by decide⟩ (fun _ e => e)
      · refine wG_iinc C (v := 1) (LL := fun x5_5 => [(0, .ref (xB X + 47)), (1, .int x1), (2, .int x2), (3, .int x3), (4, .int x4), (5, .int x5_5)]) dX5_touches_32 5 rfl (by decide) (by decide) [1, 2, 3, 4, 5, 0] (fun _ => rfl) (fun x5_5 => ?_)
        refine wG_goto C dX5_touches_35 ?_
        exact wG_lv [0, 1, 2, 3, 4, 5] rfl (ih x5_5)
set_option maxRecDepth 4000 in
theorem w_X5_touches {X : wX} (C : Cx X yX5_touches cX5_touches 6 (some .boolean) rm_X5_touches) {N : Nat} {q : Qp} (hN : 137 ≤ N) (h : Hp) (x1 : Int32) (x2 : Int32) (x3 : Int32) (x4 : Int32) : wG X 6 (eM X (fun u => (some (.int u), N, h, (rq q)))) (f_X5_touches h x1 x2 x3 x4) N h (rq q) 0 0 0 [(0, .ref (xB X + 47)), (1, .int x1), (2, .int x2), (3, .int x3), (4, .int x4)] [] := by
  refine wG_of (f_X5_touches.eq_1 ..) ?_
  refine wG_iconst C dX5_touches_0 (v := 0) (by decide) ?_
  refine wG_nmI (fun x5_1 => ?_)
  refine wG_istore C (L' := [(0, .ref (xB X + 47)), (1, .int x1), (2, .int x2), (3, .int x3), (4, .int x4), (5, .int x5_1)]) dX5_touches_1 (by decide) [1, 2, 3, 4, 5, 0] rfl ?_
  refine wG_lv (L' := [(0, .ref (xB X + 47)), (1, .int x1), (2, .int x2), (3, .int x3), (4, .int x4), (5, .int x5_1)]) [0, 1, 2, 3, 4, 5] rfl ?_
  refine wL_X5_touches_3 C hN h x1 x2 x3 x4 x5_1 _ (fun t_3 => (?_ : wG X 6 _ _ N h (rq q) 0 0 38 [] [])) FU x5_1
  refine wG_iconst C dX5_touches_38 (v := 0) (by decide) ?_
  exact wG_zret C dX5_touches_39 rfl ⟨by decide, by decide⟩ (fun _ e => e)
theorem c_X5_touches (l : Launch) (E : wE) (N : Nat) (q : Qp) (hN : 137 ≤ N) (h : Hp) (x1 : Int32) (x2 : Int32) (x3 : Int32) (x4 : Int32) : ∀ z, f_X5_touches h x1 x2 x3 x4 = some z → CT l E yX5_touches cX5_touches 6 (some .boolean) rm_X5_touches [.ref (eB E + 47), .int x1, .int x2, .int x3, .int x4] N h (rq q) ((fun u => (some (.int u), N, h, (rq q))) z) := CT.of (by decide +kernel) (Nat.le_of_ble_eq_true rfl) (fun X _ e C => by subst e; exact w_X5_touches C hN h x1 x2 x3 x4)
def rm_X5_enter : Room := { frames := 0, cells := 0, slots := 0, locals := 0 }
def f_X5_enter (h : Hp) (x1 : Int32) (x2 : Int32) (x3 : Int32) (x4 : Int32) : Option Hp :=
  (if (6 : Int32) ≤ (h 47 7) then
  some h
  else
  if inB (h 47 7) 6 then vB (u2 h 49 (ix (h 47 7)) x1) fun h_1 =>
  if inB (h_1 47 7) 6 then vB (u2 h_1 50 (ix (h_1 47 7)) (x1 + x3)) fun h_2 =>
  if inB (h_2 47 7) 6 then vB (u2 h_2 51 (ix (h_2 47 7)) x2) fun h_3 =>
  if inB (h_3 47 7) 6 then vB (u2 h_3 52 (ix (h_3 47 7)) (x2 + x4)) fun h_4 =>
  vB (u2 h_4 47 7 ((h_4 47 7) + 1)) fun h_5 =>
  vB (u2 h_5 47 8 0) fun h_6 =>
  some h_6 else none else none else none else none)
set_option maxRecDepth 4000 in
theorem w_X5_enter {X : wX} (C : Cx X yX5_enter cX5_enter 5 none rm_X5_enter) {N : Nat} {q : Qp} (hN : 137 ≤ N) (h : Hp) (x1 : Int32) (x2 : Int32) (x3 : Int32) (x4 : Int32) : wG X 5 (eM X (fun u => (none, N, u, (rq q)))) (f_X5_enter h x1 x2 x3 x4) N h (rq q) 0 0 0 [(0, .ref (xB X + 47)), (1, .int x1), (2, .int x2), (3, .int x3), (4, .int x4)] [] := by
  refine wG_of (f_X5_enter.eq_1 ..) ?_
  refine wG_aload_n C dX5_enter_0 0 rfl ?_
  refine wG_getI C fl_X5_24_5 rfl kd_47 (wll hN (by decide)) dX5_enter_1 ?_
  refine wG_bipush C dX5_enter_4 (v := 6) (by decide) ?_
  refine wG_icmp_ge C dX5_enter_6 ?_ ?_
  · exact wG_vret C dX5_enter_69 ⟨by decide, by decide⟩ (fun _ e => e)
  · refine wG_aload_n C dX5_enter_9 0 rfl ?_
    refine wG_getR C fl_X5_9_5 rfl kd_47 (wll hN (by decide)) (rf_47_3 q) dX5_enter_10 ?_
    refine wG_aload_n C dX5_enter_13 0 rfl ?_
    refine wG_getI C fl_X5_24_5 rfl kd_47 (wll hN (by decide)) dX5_enter_14 ?_
    refine wG_iload_n C dX5_enter_17 1 rfl ?_
    refine wG_iast C kd_49 (wll hN (by decide)) ln_49 dX5_enter_18 (fun h_1 => ?_)
    refine wG_aload_n C dX5_enter_19 0 rfl ?_
    refine wG_getR C fl_X5_15_5 rfl kd_47 (wll hN (by decide)) (rf_47_4 q) dX5_enter_20 ?_
    refine wG_aload_n C dX5_enter_23 0 rfl ?_
    refine wG_getI C fl_X5_24_5 rfl kd_47 (wll hN (by decide)) dX5_enter_24 ?_
    refine wG_iload_n C dX5_enter_27 1 rfl ?_
    refine wG_iload_n C dX5_enter_28 3 rfl ?_
    refine wG_iadd C dX5_enter_29 ?_
    refine wG_iast C kd_50 (wll hN (by decide)) ln_50 dX5_enter_30 (fun h_2 => ?_)
    refine wG_aload_n C dX5_enter_31 0 rfl ?_
    refine wG_getR C fl_X5_18_5 rfl kd_47 (wll hN (by decide)) (rf_47_5 q) dX5_enter_32 ?_
    refine wG_aload_n C dX5_enter_35 0 rfl ?_
    refine wG_getI C fl_X5_24_5 rfl kd_47 (wll hN (by decide)) dX5_enter_36 ?_
    refine wG_iload_n C dX5_enter_39 2 rfl ?_
    refine wG_iast C kd_51 (wll hN (by decide)) ln_51 dX5_enter_40 (fun h_3 => ?_)
    refine wG_aload_n C dX5_enter_41 0 rfl ?_
    refine wG_getR C fl_X5_21_5 rfl kd_47 (wll hN (by decide)) (rf_47_6 q) dX5_enter_42 ?_
    refine wG_aload_n C dX5_enter_45 0 rfl ?_
    refine wG_getI C fl_X5_24_5 rfl kd_47 (wll hN (by decide)) dX5_enter_46 ?_
    refine wG_iload_n C dX5_enter_49 2 rfl ?_
    refine wG_iload C dX5_enter_50 4 rfl ?_
    refine wG_iadd C dX5_enter_52 ?_
    refine wG_iast C kd_52 (wll hN (by decide)) ln_52 dX5_enter_53 (fun h_4 => ?_)
    refine wG_aload_n C dX5_enter_54 0 rfl ?_
    refine wG_dup C dX5_enter_55 rfl ?_
    refine wG_getI C fl_X5_24_5 rfl kd_47 (wll hN (by decide)) dX5_enter_56 ?_
    refine wG_iconst C dX5_enter_59 (v := 1) (by decide) ?_
    refine wG_iadd C dX5_enter_60 ?_
    refine wG_putI C fl_X5_24_5 (fp_5_7 _) (fun e => Bool.noConfusion e) rfl kd_47 (wll hN (by decide)) dX5_enter_61 (fun h_5 => ?_)
    refine wG_aload_n C dX5_enter_64 0 rfl ?_
    refine wG_iconst C dX5_enter_65 (v := 0) (by decide) ?_
    refine wG_putZ C fl_X5_28_5 (fp_5_8 _) (fun e => Bool.noConfusion e) rfl kd_47 (wll hN (by decide)) rfl rfl dX5_enter_66 (fun h_6 => ?_)
    exact wG_vret C dX5_enter_69 ⟨by decide, by decide⟩ (fun _ e => e)
theorem c_X5_enter (l : Launch) (E : wE) (N : Nat) (q : Qp) (hN : 137 ≤ N) (h : Hp) (x1 : Int32) (x2 : Int32) (x3 : Int32) (x4 : Int32) : ∀ z, f_X5_enter h x1 x2 x3 x4 = some z → CT l E yX5_enter cX5_enter 5 none rm_X5_enter [.ref (eB E + 47), .int x1, .int x2, .int x3, .int x4] N h (rq q) ((fun u => (none, N, u, (rq q))) z) := CT.of (by decide +kernel) (Nat.le_of_ble_eq_true rfl) (fun X _ e C => by subst e; exact w_X5_enter C hN h x1 x2 x3 x4)
def rm_X11_left : Room := { frames := 2, cells := 0, slots := 0, locals := 50 }
def f_X11_left (h : Hp) (x1 : Int32) : Option (Int32 × Hp) :=
  vB (x1 / 1000) fun (x2_1 : Int32) =>
  vB ((x1 / 100) - (x1 / 100) / 10 * 10) fun (x3_2 : Int32) =>
  vB ((x1 / 10) - (x1 / 10) / 10 * 10) fun (x4_3 : Int32) =>
  vB (x1 - x1 / 10 * 10) fun (x5_4 : Int32) =>
  (f_X4_holds h x2_1 x3_2 x4_3 x5_4).bind fun u_5 =>
  (if u_5 = 0 then
  some ((-1), h)
  else
  (f_X5_touches h x2_1 x3_2 x4_3 x5_4).bind fun u_6 =>
  (if u_6 = 0 then
  (if (h 47 7) < 6 then
  (f_X5_enter h x2_1 x3_2 x4_3 x5_4).bind fun u_7 =>
  some ((u_7 47 7), u_7)
  else
  some ((-4), h))
  else
  some ((-3), h)))
set_option maxRecDepth 4000 in
theorem w_X11_left {X : wX} (C : Cx X yX11_left cX11_left 6 (some .int) rm_X11_left) {N : Nat} {q : Qp} (hN : 137 ≤ N) (h : Hp) (x1 : Int32) : wG X 6 (eM X (fun u => (some (.int u.1), N, u.2, (rq q)))) (f_X11_left h x1) N h (rq q) 0 0 0 [(0, .ref (xB X + 0)), (1, .int x1)] [] := by
  refine wG_of (f_X11_left.eq_1 ..) ?_
  refine wG_iload_n C dX11_left_0 1 rfl ?_
  refine wG_sipush C dX11_left_1 (v := 1000) (by decide) ?_
  refine wG_idivK C dX11_left_4 (by decide) ?_
  refine wG_nmI (fun x2_1 => ?_)
  refine wG_istore_n C (L' := [(0, .ref (xB X + 0)), (1, .int x1), (2, .int x2_1)]) dX11_left_5 (by decide) [1, 2, 0] rfl ?_
  refine wG_iload_n C dX11_left_6 1 rfl ?_
  refine wG_bipush C dX11_left_7 (v := 100) (by decide) ?_
  refine wG_idivK C dX11_left_9 (by decide) ?_
  refine wG_bipush C dX11_left_10 (v := 10) (by decide) ?_
  refine wG_iremK C dX11_left_12 (by decide) ?_
  refine wG_nmI (fun x3_2 => ?_)
  refine wG_istore_n C (L' := [(0, .ref (xB X + 0)), (1, .int x1), (2, .int x2_1), (3, .int x3_2)]) dX11_left_13 (by decide) [1, 2, 3, 0] rfl ?_
  refine wG_iload_n C dX11_left_14 1 rfl ?_
  refine wG_bipush C dX11_left_15 (v := 10) (by decide) ?_
  refine wG_idivK C dX11_left_17 (by decide) ?_
  refine wG_bipush C dX11_left_18 (v := 10) (by decide) ?_
  refine wG_iremK C dX11_left_20 (by decide) ?_
  refine wG_nmI (fun x4_3 => ?_)
  refine wG_istore C (L' := [(0, .ref (xB X + 0)), (1, .int x1), (2, .int x2_1), (3, .int x3_2), (4, .int x4_3)]) dX11_left_21 (by decide) [1, 2, 3, 4, 0] rfl ?_
  refine wG_iload_n C dX11_left_23 1 rfl ?_
  refine wG_bipush C dX11_left_24 (v := 10) (by decide) ?_
  refine wG_iremK C dX11_left_26 (by decide) ?_
  refine wG_nmI (fun x5_4 => ?_)
  refine wG_istore C (L' := [(0, .ref (xB X + 0)), (2, .int x2_1), (3, .int x3_2), (4, .int x4_3), (5, .int x5_4)]) dX11_left_27 (by decide) [1, 3, 4, 5, 0] rfl ?_
  refine wG_aload_n C dX11_left_29 0 rfl ?_
  refine wG_getR C fl_X11_19_11 rfl kd_0 (wll hN (by decide)) (rf_0_1 q) dX11_left_30 ?_
  refine wG_iload_n C dX11_left_33 1 rfl ?_
  refine wG_iload_n C dX11_left_34 2 rfl ?_
  refine wG_iload C dX11_left_35 3 rfl ?_
  refine wG_iload C dX11_left_37 4 rfl ?_
  refine wG_cV_ri [.int x2_1, .int x3_2, .int x4_3, .int x5_4] [] C vw_X11_114 (c_X4_holds (xl X) (xE X) N q hN h x2_1 x3_2 x4_3 x5_4) kd_3 (wll hN (by decide)) (by decide) rfl rfl (Nat.le_of_ble_eq_true rfl) dX11_left_39 (cl' := 0) (sl' := 0) rfl rfl (fun u_5 => ?_)
  refine wG_if_ne C dX11_left_42 ?_ ?_
  · refine wG_iconst C dX11_left_45 (v := (-1)) (by decide) ?_
    exact wG_iret C dX11_left_46 ⟨by decide, by decide⟩ (fun _ e => e)
  · refine wG_aload_n C dX11_left_47 0 rfl ?_
    refine wG_getR C fl_X11_62_11 rfl kd_0 (wll hN (by decide)) (rf_0_7 q) dX11_left_48 ?_
    refine wG_iload_n C dX11_left_51 1 rfl ?_
    refine wG_iload_n C dX11_left_52 2 rfl ?_
    refine wG_iload C dX11_left_53 3 rfl ?_
    refine wG_iload C dX11_left_55 4 rfl ?_
    refine wG_cV_ri [.int x2_1, .int x3_2, .int x4_3, .int x5_4] [] C vw_X11_235 (c_X5_touches (xl X) (xE X) N q hN h x2_1 x3_2 x4_3 x5_4) kd_47 (wll hN (by decide)) (by decide) rfl rfl (Nat.le_of_ble_eq_true rfl) dX11_left_57 (cl' := 0) (sl' := 0) rfl rfl (fun u_6 => ?_)
    refine wG_if_eq C dX11_left_60 ?_ ?_
    · refine wG_aload_n C dX11_left_66 0 rfl ?_
      refine wG_getR C fl_X11_62_11 rfl kd_0 (wll hN (by decide)) (rf_0_7 q) dX11_left_67 ?_
      refine wG_getI C fl_X11_238_5 rfl kd_47 (wll hN (by decide)) dX11_left_70 ?_
      refine wG_bipush C dX11_left_73 (v := 6) (by decide) ?_
      refine wG_icmp_lt C dX11_left_75 ?_ ?_
      · refine wG_aload_n C dX11_left_81 0 rfl ?_
        refine wG_getR C fl_X11_62_11 rfl kd_0 (wll hN (by decide)) (rf_0_7 q) dX11_left_82 ?_
        refine wG_iload_n C dX11_left_85 1 rfl ?_
        refine wG_iload_n C dX11_left_86 2 rfl ?_
        refine wG_iload C dX11_left_87 3 rfl ?_
        refine wG_iload C dX11_left_89 4 rfl ?_
        refine wG_cV_wv [.int x2_1, .int x3_2, .int x4_3, .int x5_4] [] C vw_X11_239 (c_X5_enter (xl X) (xE X) N q hN h x2_1 x3_2 x4_3 x5_4) kd_47 (wll hN (by decide)) (by decide) rfl rfl (Nat.le_of_ble_eq_true rfl) dX11_left_91 (cl' := 0) (sl' := 0) rfl rfl (fun u_7 => ?_)
        refine wG_aload_n C dX11_left_94 0 rfl ?_
        refine wG_getR C fl_X11_62_11 rfl kd_0 (wll hN (by decide)) (rf_0_7 q) dX11_left_95 ?_
        refine wG_getI C fl_X11_238_5 rfl kd_47 (wll hN (by decide)) dX11_left_98 ?_
        exact wG_iret C dX11_left_101 ⟨by decide, by decide⟩ (fun _ e => e)
      · refine wG_bipush C dX11_left_78 (v := (-4)) (by decide) ?_
        exact wG_iret C dX11_left_80 ⟨by decide, by decide⟩ (fun _ e => e)
    · refine wG_bipush C dX11_left_63 (v := (-3)) (by decide) ?_
      exact wG_iret C dX11_left_65 ⟨by decide, by decide⟩ (fun _ e => e)
theorem c_X11_left (l : Launch) (E : wE) (N : Nat) (q : Qp) (hN : 137 ≤ N) (h : Hp) (x1 : Int32) : ∀ z, f_X11_left h x1 = some z → CT l E yX11_left cX11_left 6 (some .int) rm_X11_left [.ref (eB E + 0), .int x1] N h (rq q) ((fun u => (some (.int u.1), N, u.2, (rq q))) z) := CT.of (by decide +kernel) (Nat.le_of_ble_eq_true rfl) (fun X _ e C => by subst e; exact w_X11_left C hN h x1)
def rm_X8_spotOf_L : Room := { frames := 0, cells := 0, slots := 0, locals := 0 }
def f_X8_spotOf_L (h : Hp) (x1 : Int32) (x2 : Int32) (x3 : Int32) (x4 : Int32) : Option Int32 :=
  vB ((((x1 * (13 - x1)) / 2) + x3) - 1) fun (x5_1 : Int32) =>
  vB ((((x2 * (13 - x2)) / 2) + x4) - 1) fun (x6_2 : Int32) =>
  some (((x5_1 * 21) + x6_2) * (h 47 1))
set_option maxRecDepth 4000 in
theorem w_X8_spotOf_L {X : wX} (C : Cx X yX8_spotOf cX8_spotOf 7 (some .int) rm_X8_spotOf_L) {N : Nat} {q : Qp} (hN : 137 ≤ N) (h : Hp) (x1 : Int32) (x2 : Int32) (x3 : Int32) (x4 : Int32) : wG X 7 (eM X (fun u => (some (.int u), N, h, (rq q)))) (f_X8_spotOf_L h x1 x2 x3 x4) N h (rq q) 0 0 0 [(0, .ref (xB X + 47)), (1, .int x1), (2, .int x2), (3, .int x3), (4, .int x4)] [] := by
  refine wG_of (f_X8_spotOf_L.eq_1 ..) ?_
  refine wG_iload_n C dX8_spotOf_0 1 rfl ?_
  refine wG_bipush C dX8_spotOf_1 (v := 13) (by decide) ?_
  refine wG_iload_n C dX8_spotOf_3 1 rfl ?_
  refine wG_isub C dX8_spotOf_4 ?_
  refine wG_imul C dX8_spotOf_5 ?_
  refine wG_iconst C dX8_spotOf_6 (v := 2) (by decide) ?_
  refine wG_idivK C dX8_spotOf_7 (by decide) ?_
  refine wG_iload_n C dX8_spotOf_8 3 rfl ?_
  refine wG_iadd C dX8_spotOf_9 ?_
  refine wG_iconst C dX8_spotOf_10 (v := 1) (by decide) ?_
  refine wG_isub C dX8_spotOf_11 ?_
  refine wG_nmI (fun x5_1 => ?_)
  refine wG_istore C (L' := [(0, .ref (xB X + 47)), (2, .int x2), (4, .int x4), (5, .int x5_1)]) dX8_spotOf_12 (by decide) [1, 3, 5, 0] rfl ?_
  refine wG_iload_n C dX8_spotOf_14 1 rfl ?_
  refine wG_bipush C dX8_spotOf_15 (v := 13) (by decide) ?_
  refine wG_iload_n C dX8_spotOf_17 1 rfl ?_
  refine wG_isub C dX8_spotOf_18 ?_
  refine wG_imul C dX8_spotOf_19 ?_
  refine wG_iconst C dX8_spotOf_20 (v := 2) (by decide) ?_
  refine wG_idivK C dX8_spotOf_21 (by decide) ?_
  refine wG_iload C dX8_spotOf_22 2 rfl ?_
  refine wG_iadd C dX8_spotOf_24 ?_
  refine wG_iconst C dX8_spotOf_25 (v := 1) (by decide) ?_
  refine wG_isub C dX8_spotOf_26 ?_
  refine wG_nmI (fun x6_2 => ?_)
  refine wG_istore C (L' := [(0, .ref (xB X + 47)), (5, .int x5_1), (6, .int x6_2)]) dX8_spotOf_27 (by decide) [1, 4, 0] rfl ?_
  refine wG_iload C dX8_spotOf_29 1 rfl ?_
  refine wG_bipush C dX8_spotOf_31 (v := 21) (by decide) ?_
  refine wG_imul C dX8_spotOf_33 ?_
  refine wG_iload C dX8_spotOf_34 2 rfl ?_
  refine wG_iadd C dX8_spotOf_36 ?_
  refine wG_aload_n C dX8_spotOf_37 0 rfl ?_
  refine wG_getI C fl_X8_21_5 rfl kd_47 (wll hN (by decide)) dX8_spotOf_38 ?_
  refine wG_imul C dX8_spotOf_41 ?_
  exact wG_iret C dX8_spotOf_42 ⟨by decide, by decide⟩ (fun _ e => e)
theorem c_X8_spotOf_L (l : Launch) (E : wE) (N : Nat) (q : Qp) (hN : 137 ≤ N) (h : Hp) (x1 : Int32) (x2 : Int32) (x3 : Int32) (x4 : Int32) : ∀ z, f_X8_spotOf_L h x1 x2 x3 x4 = some z → CT l E yX8_spotOf cX8_spotOf 7 (some .int) rm_X8_spotOf_L [.ref (eB E + 47), .int x1, .int x2, .int x3, .int x4] N h (rq q) ((fun u => (some (.int u), N, h, (rq q))) z) := CT.of (by decide +kernel) (Nat.le_of_ble_eq_true rfl) (fun X _ e C => by subst e; exact w_X8_spotOf_L C hN h x1 x2 x3 x4)
def rm_X5_verdict : Room := { frames := 1, cells := 0, slots := 0, locals := 25 }
def L_X5_verdict_17 (h : Hp) (x1 : Int32) (x2 : Int32) (x6_1 : Int32) (x7_2 : Int32) (K : Int32 → Option Int32) : Nat → Int32 → Int32 → Option Int32
  | 0, _, _ => none
  | n + 1, x8_5, x9_6 =>
    (if (h 47 7) ≤ x9_6 then
    K x8_5
    else
    (f_X5_isApart h x9_6 x1 x2 x6_1 x7_2).bind fun u_8 =>
    vK (fun (t_9 : Int32) =>
    vB (x9_6 + 1) fun (x9_11 : Int32) =>
    L_X5_verdict_17 h x1 x2 x6_1 x7_2 K n t_9 x9_11) fun K_10 =>
    (if u_8 = 0 then
    if inB x9_6 6 then
    (if (h 49 (ix x9_6)) < x1 then
    some 1000000
    else
    if inB x9_6 6 then
    (if x6_1 < (h 50 (ix x9_6)) then
    some 1000000
    else
    if inB x9_6 6 then
    (if (h 51 (ix x9_6)) < x2 then
    some 1000000
    else
    if inB x9_6 6 then
    (if (h 52 (ix x9_6)) ≤ x7_2 then
    if inB x9_6 6 then
    vK (fun (t_12 : Unit) =>
    vB (-1) fun (x8_14 : Int32) =>
    K_10 x8_14) fun K_13 =>
    (if x1 < (h 49 (ix x9_6)) then
    K_13 ()
    else
    if inB x9_6 6 then
    (if (h 50 (ix x9_6)) < x6_1 then
    K_13 ()
    else
    if inB x9_6 6 then
    (if x2 < (h 51 (ix x9_6)) then
    K_13 ()
    else
    if inB x9_6 6 then
    (if x7_2 ≤ (h 52 (ix x9_6)) then
    K_10 x8_5
    else
    K_13 ()) else none) else none) else none) else none
    else
    some 1000000) else none) else none) else none) else none
    else
    K_10 x8_5))
def f_X5_verdict (h : Hp) (x1 : Int32) (x2 : Int32) (x3 : Int32) (x4 : Int32) (x5 : Int32) : Option Int32 :=
  vB (x1 + x3) fun (x6_1 : Int32) =>
  vB (x2 + x4) fun (x7_2 : Int32) =>
  vB 0 fun (x8_3 : Int32) =>
  vB 0 fun (x9_4 : Int32) =>
  L_X5_verdict_17 h x1 x2 x6_1 x7_2 (fun (t_7 : Int32) =>
  some t_7) FU x8_3 x9_4
set_option maxRecDepth 4000 in
theorem wL_X5_verdict_17 {X : wX} (C : Cx X yX5_verdict cX5_verdict 10 (some .int) rm_X5_verdict) {N : Nat} {q : Qp} (hN : 137 ≤ N) (h : Hp) (x1 : Int32) (x2 : Int32) (x3 : Int32) (x4 : Int32) (x5 : Int32) (x6_1 : Int32) (x7_2 : Int32) (x8_3 : Int32) (x9_4 : Int32) (K : Int32 → Option Int32) (hK : ∀ t_7, wG X 10 (eM X (fun u => (some (.int u), N, h, (rq q)))) (K t_7) N h (rq q) 0 0 145 [(8, .int t_7)] []) : ∀ n x8_5 x9_6, wG X 10 (eM X (fun u => (some (.int u), N, h, (rq q)))) (L_X5_verdict_17 h x1 x2 x6_1 x7_2 K n x8_5 x9_6) N h (rq q) 0 0 17 [(0, .ref (xB X + 47)), (1, .int x1), (2, .int x2), (6, .int x6_1), (7, .int x7_2), (8, .int x8_5), (9, .int x9_6)] [] := by
  intro n
  induction n with
  | zero => intro _ _; exact wG_none
  | succ n ih =>
    intro x8_5 x9_6
    refine wG_of (L_X5_verdict_17.eq_2 ..) ?_
    refine wG_iload C dX5_verdict_17 6 rfl ?_
    refine wG_aload_n C dX5_verdict_19 0 rfl ?_
    refine wG_getI C fl_X5_24_5 rfl kd_47 (wll hN (by decide)) dX5_verdict_20 ?_
    refine wG_icmp_ge C dX5_verdict_23 ?_ ?_
    · exact wG_lv [5] rfl (hK x8_5)
    · refine wG_aload_n C dX5_verdict_26 0 rfl ?_
      refine wG_iload C dX5_verdict_27 6 rfl ?_
      refine wG_iload_n C dX5_verdict_29 1 rfl ?_
      refine wG_iload_n C dX5_verdict_30 2 rfl ?_
      refine wG_iload C dX5_verdict_31 3 rfl ?_
      refine wG_iload C dX5_verdict_33 4 rfl ?_
      refine wG_cV_ri [.int x9_6, .int x1, .int x2, .int x6_1, .int x7_2] [] C vw_X5_32 (c_X5_isApart (xl X) (xE X) N q hN h x9_6 x1 x2 x6_1 x7_2) kd_47 (wll hN (by decide)) (by decide) rfl rfl (Nat.le_of_ble_eq_true rfl) dX5_verdict_35 (cl' := 0) (sl' := 0) rfl rfl (fun u_8 => ?_)
      refine wG_vK (fun t_9 => (?_ : wG X 10 _ _ N h (rq q) 0 0 139 [(0, .ref (xB X + 47)), (1, .int x1), (2, .int x2), (6, .int x6_1), (7, .int x7_2), (8, .int t_9), (9, .int x9_6)] [])) (fun K_10 hK_K_10 => ?_)
      · refine wG_iinc C (v := 1) (LL := fun x9_11 => [(0, .ref (xB X + 47)), (1, .int x1), (2, .int x2), (6, .int x6_1), (7, .int x7_2), (8, .int t_9), (9, .int x9_11)]) dX5_verdict_139 6 rfl (by decide) (by decide) [1, 2, 3, 4, 5, 6, 0] (fun _ => rfl) (fun x9_11 => ?_)
        refine wG_goto C dX5_verdict_142 ?_
        exact wG_lv [0, 1, 2, 3, 4, 5, 6] rfl (ih t_9 x9_11)
      · refine wG_if_ne C dX5_verdict_38 ?_ ?_
        · refine wG_aload_n C dX5_verdict_41 0 rfl ?_
          refine wG_getR C fl_X5_9_5 rfl kd_47 (wll hN (by decide)) (rf_47_3 q) dX5_verdict_42 ?_
          refine wG_iload C dX5_verdict_45 6 rfl ?_
          refine wG_iald C kd_49 (wll hN (by decide)) ln_49 dX5_verdict_47 ?_
          refine wG_iload_n C dX5_verdict_48 1 rfl ?_
          refine wG_icmp_lt C dX5_verdict_49 ?_ ?_
          · refine wG_ldc C dX5_verdict_87 m_762 ?_
            exact wG_iret C dX5_verdict_89 ⟨by decide, by decide⟩ (fun _ e => e)
          · refine wG_aload_n C dX5_verdict_52 0 rfl ?_
            refine wG_getR C fl_X5_15_5 rfl kd_47 (wll hN (by decide)) (rf_47_4 q) dX5_verdict_53 ?_
            refine wG_iload C dX5_verdict_56 6 rfl ?_
            refine wG_iald C kd_50 (wll hN (by decide)) ln_50 dX5_verdict_58 ?_
            refine wG_iload C dX5_verdict_59 3 rfl ?_
            refine wG_icmp_gt C dX5_verdict_61 ?_ ?_
            · refine wG_ldc C dX5_verdict_87 m_762 ?_
              exact wG_iret C dX5_verdict_89 ⟨by decide, by decide⟩ (fun _ e => e)
            · refine wG_aload_n C dX5_verdict_64 0 rfl ?_
              refine wG_getR C fl_X5_18_5 rfl kd_47 (wll hN (by decide)) (rf_47_5 q) dX5_verdict_65 ?_
              refine wG_iload C dX5_verdict_68 6 rfl ?_
              refine wG_iald C kd_51 (wll hN (by decide)) ln_51 dX5_verdict_70 ?_
              refine wG_iload_n C dX5_verdict_71 2 rfl ?_
              refine wG_icmp_lt C dX5_verdict_72 ?_ ?_
              · refine wG_ldc C dX5_verdict_87 m_762 ?_
                exact wG_iret C dX5_verdict_89 ⟨by decide, by decide⟩ (fun _ e => e)
              · refine wG_aload_n C dX5_verdict_75 0 rfl ?_
                refine wG_getR C fl_X5_21_5 rfl kd_47 (wll hN (by decide)) (rf_47_6 q) dX5_verdict_76 ?_
                refine wG_iload C dX5_verdict_79 6 rfl ?_
                refine wG_iald C kd_52 (wll hN (by decide)) ln_52 dX5_verdict_81 ?_
                refine wG_iload C dX5_verdict_82 4 rfl ?_
                refine wG_icmp_le C dX5_verdict_84 ?_ ?_
                · refine wG_aload_n C dX5_verdict_90 0 rfl ?_
                  refine wG_getR C fl_X5_9_5 rfl kd_47 (wll hN (by decide)) (rf_47_3 q) dX5_verdict_91 ?_
                  refine wG_iload C dX5_verdict_94 6 rfl ?_
                  refine wG_iald C kd_49 (wll hN (by decide)) ln_49 dX5_verdict_96 ?_
                  refine wG_iload_n C dX5_verdict_97 1 rfl ?_
                  refine wG_vK (fun t_12 => (?_ : wG X 10 _ _ N h (rq q) 0 0 136 [(0, .ref (xB X + 47)), (1, .int x1), (2, .int x2), (6, .int x6_1), (7, .int x7_2), (9, .int x9_6)] [])) (fun K_13 hK_K_13 => ?_)
                  · refine wG_iconst C dX5_verdict_136 (v := (-1)) (by decide) ?_
                    refine wG_nmI (fun x8_14 => ?_)
                    refine wG_istore C (L' := [(0, .ref (xB X + 47)), (1, .int x1), (2, .int x2), (6, .int x6_1), (7, .int x7_2), (8, .int x8_14), (9, .int x9_6)]) dX5_verdict_137 (by decide) [1, 2, 3, 4, 5, 0, 6] rfl ?_
                    exact wG_lv [0, 1, 2, 3, 4, 5, 6] rfl (hK_K_10 x8_14)
                  · refine wG_icmp_gt C dX5_verdict_98 ?_ ?_
                    · exact wG_lv [0, 1, 2, 3, 4, 6] rfl (hK_K_13 ())
                    · refine wG_aload_n C dX5_verdict_101 0 rfl ?_
                      refine wG_getR C fl_X5_15_5 rfl kd_47 (wll hN (by decide)) (rf_47_4 q) dX5_verdict_102 ?_
                      refine wG_iload C dX5_verdict_105 6 rfl ?_
                      refine wG_iald C kd_50 (wll hN (by decide)) ln_50 dX5_verdict_107 ?_
                      refine wG_iload C dX5_verdict_108 3 rfl ?_
                      refine wG_icmp_lt C dX5_verdict_110 ?_ ?_
                      · exact wG_lv [0, 1, 2, 3, 4, 6] rfl (hK_K_13 ())
                      · refine wG_aload_n C dX5_verdict_113 0 rfl ?_
                        refine wG_getR C fl_X5_18_5 rfl kd_47 (wll hN (by decide)) (rf_47_5 q) dX5_verdict_114 ?_
                        refine wG_iload C dX5_verdict_117 6 rfl ?_
                        refine wG_iald C kd_51 (wll hN (by decide)) ln_51 dX5_verdict_119 ?_
                        refine wG_iload_n C dX5_verdict_120 2 rfl ?_
                        refine wG_icmp_gt C dX5_verdict_121 ?_ ?_
                        · exact wG_lv [0, 1, 2, 3, 4, 6] rfl (hK_K_13 ())
                        · refine wG_aload_n C dX5_verdict_124 0 rfl ?_
                          refine wG_getR C fl_X5_21_5 rfl kd_47 (wll hN (by decide)) (rf_47_6 q) dX5_verdict_125 ?_
                          refine wG_iload C dX5_verdict_128 6 rfl ?_
                          refine wG_iald C kd_52 (wll hN (by decide)) ln_52 dX5_verdict_130 ?_
                          refine wG_iload C dX5_verdict_131 4 rfl ?_
                          refine wG_icmp_ge C dX5_verdict_133 ?_ ?_
                          · exact wG_lv [0, 1, 2, 3, 4, 5, 6] rfl (hK_K_10 x8_5)
                          · exact wG_lv [0, 1, 2, 3, 4, 6] rfl (hK_K_13 ())
                · refine wG_ldc C dX5_verdict_87 m_762 ?_
                  exact wG_iret C dX5_verdict_89 ⟨by decide, by decide⟩ (fun _ e => e)
        · exact wG_lv [0, 1, 2, 3, 4, 5, 6] rfl (hK_K_10 x8_5)
set_option maxRecDepth 4000 in
theorem w_X5_verdict {X : wX} (C : Cx X yX5_verdict cX5_verdict 10 (some .int) rm_X5_verdict) {N : Nat} {q : Qp} (hN : 137 ≤ N) (h : Hp) (x1 : Int32) (x2 : Int32) (x3 : Int32) (x4 : Int32) (x5 : Int32) : wG X 10 (eM X (fun u => (some (.int u), N, h, (rq q)))) (f_X5_verdict h x1 x2 x3 x4 x5) N h (rq q) 0 0 0 [(0, .ref (xB X + 47)), (1, .int x1), (2, .int x2), (3, .int x3), (4, .int x4), (5, .int x5)] [] := by
  refine wG_of (f_X5_verdict.eq_1 ..) ?_
  refine wG_iload_n C dX5_verdict_0 1 rfl ?_
  refine wG_iload_n C dX5_verdict_1 3 rfl ?_
  refine wG_iadd C dX5_verdict_2 ?_
  refine wG_nmI (fun x6_1 => ?_)
  refine wG_istore C (L' := [(0, .ref (xB X + 47)), (1, .int x1), (2, .int x2), (4, .int x4), (6, .int x6_1)]) dX5_verdict_3 (by decide) [1, 2, 3, 5, 0] rfl ?_
  refine wG_iload_n C dX5_verdict_5 2 rfl ?_
  refine wG_iload C dX5_verdict_6 3 rfl ?_
  refine wG_iadd C dX5_verdict_8 ?_
  refine wG_nmI (fun x7_2 => ?_)
  refine wG_istore C (L' := [(0, .ref (xB X + 47)), (1, .int x1), (2, .int x2), (6, .int x6_1), (7, .int x7_2)]) dX5_verdict_9 (by decide) [1, 2, 3, 5, 0] rfl ?_
  refine wG_iconst C dX5_verdict_11 (v := 0) (by decide) ?_
  refine wG_nmI (fun x8_3 => ?_)
  refine wG_istore C (L' := [(0, .ref (xB X + 47)), (1, .int x1), (2, .int x2), (6, .int x6_1), (7, .int x7_2), (8, .int x8_3)]) dX5_verdict_12 (by decide) [1, 2, 3, 4, 5, 0] rfl ?_
  refine wG_iconst C dX5_verdict_14 (v := 0) (by decide) ?_
  refine wG_nmI (fun x9_4 => ?_)
  refine wG_istore C (L' := [(0, .ref (xB X + 47)), (1, .int x1), (2, .int x2), (6, .int x6_1), (7, .int x7_2), (8, .int x8_3), (9, .int x9_4)]) dX5_verdict_15 (by decide) [1, 2, 3, 4, 5, 6, 0] rfl ?_
  refine wG_lv (L' := [(0, .ref (xB X + 47)), (1, .int x1), (2, .int x2), (6, .int x6_1), (7, .int x7_2), (8, .int x8_3), (9, .int x9_4)]) [0, 1, 2, 3, 4, 5, 6] rfl ?_
  refine wL_X5_verdict_17 C hN h x1 x2 x3 x4 x5 x6_1 x7_2 x8_3 x9_4 _ (fun t_7 => (?_ : wG X 10 _ _ N h (rq q) 0 0 145 [(8, .int t_7)] [])) FU x8_3 x9_4
  refine wG_iload C dX5_verdict_145 0 rfl ?_
  exact wG_iret C dX5_verdict_147 ⟨by decide, by decide⟩ (fun _ e => e)
theorem c_X5_verdict (l : Launch) (E : wE) (N : Nat) (q : Qp) (hN : 137 ≤ N) (h : Hp) (x1 : Int32) (x2 : Int32) (x3 : Int32) (x4 : Int32) (x5 : Int32) : ∀ z, f_X5_verdict h x1 x2 x3 x4 x5 = some z → CT l E yX5_verdict cX5_verdict 10 (some .int) rm_X5_verdict [.ref (eB E + 47), .int x1, .int x2, .int x3, .int x4, .int x5] N h (rq q) ((fun u => (some (.int u), N, h, (rq q))) z) := CT.of (by decide +kernel) (Nat.le_of_ble_eq_true rfl) (fun X _ e C => by subst e; exact w_X5_verdict C hN h x1 x2 x3 x4 x5)
def rm_X5_cutPrice : Room := { frames := 0, cells := 0, slots := 0, locals := 0 }
def f_X5_cutPrice (x1 : Int32) : Option Int32 :=
  some 1
set_option maxRecDepth 4000 in
theorem w_X5_cutPrice {X : wX} (C : Cx X yX5_cutPrice cX5_cutPrice 2 (some .int) rm_X5_cutPrice) {N : Nat} {q : Qp} (hN : 137 ≤ N) (h : Hp) (x1 : Int32) : wG X 2 (eM X (fun u => (some (.int u), N, h, (rq q)))) (f_X5_cutPrice x1) N h (rq q) 0 0 0 [(0, .ref (xB X + 47)), (1, .int x1)] [] := by
  refine wG_of (f_X5_cutPrice.eq_1 ..) ?_
  refine wG_iconst C dX5_cutPrice_0 (v := 1) (by decide) ?_
  exact wG_iret C dX5_cutPrice_1 ⟨by decide, by decide⟩ (fun _ e => e)
theorem c_X5_cutPrice (l : Launch) (E : wE) (N : Nat) (q : Qp) (hN : 137 ≤ N) (h : Hp) (x1 : Int32) : ∀ z, f_X5_cutPrice x1 = some z → CT l E yX5_cutPrice cX5_cutPrice 2 (some .int) rm_X5_cutPrice [.ref (eB E + 47), .int x1] N h (rq q) ((fun u => (some (.int u), N, h, (rq q))) z) := CT.of (by decide +kernel) (Nat.le_of_ble_eq_true rfl) (fun X _ e C => by subst e; exact w_X5_cutPrice C hN h x1)
def rm_X8_bothCost_L : Room := { frames := 0, cells := 0, slots := 0, locals := 0 }
def L_X8_bothCost_L_7 (h : Hp) (x1 : Int32) (x2 : Int32) (x3 : Int32) : Nat → Int32 → Int32 → Option Int32
  | 0, _, _ => none
  | n + 1, x4_3, x5_4 =>
    (if x5_4 < 0 then
    some x4_3
    else
    vB (x5_4 &&& x3) fun (x5_6 : Int32) =>
    if inB (x1 + x5_6) 441 then
    if inB (x2 + (x3 ^^^ x5_6)) 441 then
    vB ((h 48 (ix (x1 + x5_6))) + (h 48 (ix (x2 + (x3 ^^^ x5_6))))) fun (x6_7 : Int32) =>
    ((if x4_3 ≤ x6_7 then
    some x4_3
    else
    vB x6_7 fun (x4_9 : Int32) =>
    some x4_9)).bind fun t_8 =>
    vB (x5_6 + (-1)) fun (x5_10 : Int32) =>
    L_X8_bothCost_L_7 h x1 x2 x3 n t_8 x5_10 else none else none)
def f_X8_bothCost_L (h : Hp) (x1 : Int32) (x2 : Int32) (x3 : Int32) : Option Int32 :=
  vB 1000000 fun (x4_1 : Int32) =>
  vB x3 fun (x5_2 : Int32) =>
  (L_X8_bothCost_L_7 h x1 x2 x3 FU x4_1 x5_2).bind fun t_5 =>
  some t_5
set_option maxRecDepth 4000 in
theorem wL_X8_bothCost_L_7 {X : wX} (C : Cx X yX8_bothCost cX8_bothCost 7 (some .int) rm_X8_bothCost_L) {N : Nat} {q : Qp} (hN : 137 ≤ N) (h : Hp) (x1 : Int32) (x2 : Int32) (x3 : Int32) (x4_1 : Int32) (x5_2 : Int32) : ∀ n x4_3 x5_4, wG X 7 (fun (t_5 : Int32) Q => gQ X 7 Q N h (rq q) 0 0 58 [(4, .int t_5)] []) (L_X8_bothCost_L_7 h x1 x2 x3 n x4_3 x5_4) N h (rq q) 0 0 7 [(0, .ref (xB X + 47)), (1, .int x1), (2, .int x2), (3, .int x3), (4, .int x4_3), (5, .int x5_4)] [] := by
  intro n
  induction n with
  | zero => intro _ _; exact wG_none
  | succ n ih =>
    intro x4_3 x5_4
    refine wG_of (L_X8_bothCost_L_7.eq_2 ..) ?_
    refine wG_iload C dX8_bothCost_7 5 rfl ?_
    refine wG_if_lt C dX8_bothCost_9 ?_ ?_
    · exact wG_exit (fun Q e => gQ_lv [4] rfl e)
    · refine wG_iload C dX8_bothCost_12 5 rfl ?_
      refine wG_iload_n C dX8_bothCost_14 3 rfl ?_
      refine wG_iand C dX8_bothCost_15 ?_
      refine wG_nmI (fun x5_6 => ?_)
      refine wG_istore C (L' := [(0, .ref (xB X + 47)), (1, .int x1), (2, .int x2), (3, .int x3), (4, .int x4_3), (5, .int x5_6)]) dX8_bothCost_16 (by decide) [1, 2, 3, 4, 5, 0] rfl ?_
      refine wG_aload_n C dX8_bothCost_18 0 rfl ?_
      refine wG_getR C fl_X8_25_5 rfl kd_47 (wll hN (by decide)) (rf_47_2 q) dX8_bothCost_19 ?_
      refine wG_iload_n C dX8_bothCost_22 1 rfl ?_
      refine wG_iload C dX8_bothCost_23 5 rfl ?_
      refine wG_iadd C dX8_bothCost_25 ?_
      refine wG_iald C kd_48 (wll hN (by decide)) ln_48 dX8_bothCost_26 ?_
      refine wG_aload_n C dX8_bothCost_27 0 rfl ?_
      refine wG_getR C fl_X8_25_5 rfl kd_47 (wll hN (by decide)) (rf_47_2 q) dX8_bothCost_28 ?_
      refine wG_iload_n C dX8_bothCost_31 2 rfl ?_
      refine wG_iload_n C dX8_bothCost_32 3 rfl ?_
      refine wG_iload C dX8_bothCost_33 5 rfl ?_
      refine wG_ixor C dX8_bothCost_35 ?_
      refine wG_iadd C dX8_bothCost_36 ?_
      refine wG_iald C kd_48 (wll hN (by decide)) ln_48 dX8_bothCost_37 ?_
      refine wG_iadd C dX8_bothCost_38 ?_
      refine wG_nmI (fun x6_7 => ?_)
      refine wG_istore C (L' := [(0, .ref (xB X + 47)), (1, .int x1), (2, .int x2), (3, .int x3), (4, .int x4_3), (5, .int x5_6), (6, .int x6_7)]) dX8_bothCost_39 (by decide) [1, 2, 3, 4, 5, 6, 0] rfl ?_
      refine wG_iload C dX8_bothCost_41 6 rfl ?_
      refine wG_iload C dX8_bothCost_43 4 rfl ?_
      refine wG_bind (J := (fun (t_8 : Int32) Q => gQ X 7 Q N h (rq q) 0 0 52 [(0, .ref (xB X + 47)), (1, .int x1), (2, .int x2), (3, .int x3), (4, .int t_8), (5, .int x5_6)] [])) ?_ (fun t_8 => (?_ : wG X 7 _ _ N h (rq q) 0 0 52 [(0, .ref (xB X + 47)), (1, .int x1), (2, .int x2), (3, .int x3), (4, .int t_8), (5, .int x5_6)] []))
      · refine wG_icmp_ge C dX8_bothCost_45 ?_ ?_
        · exact wG_exit (fun Q e => gQ_lv [0, 1, 2, 3, 4, 5] rfl e)
        · refine wG_iload C dX8_bothCost_48 6 rfl ?_
          refine wG_nmI (fun x4_9 => ?_)
          refine wG_istore C (L' := [(0, .ref (xB X + 47)), (1, .int x1), (2, .int x2), (3, .int x3), (4, .int x4_9), (5, .int x5_6)]) dX8_bothCost_50 (by decide) [1, 2, 3, 4, 0, 5] rfl ?_
          exact wG_exit (fun Q e => gQ_lv [0, 1, 2, 3, 4, 5] rfl e)
      · refine wG_iinc C (v := (-1)) (LL := fun x5_10 => [(0, .ref (xB X + 47)), (1, .int x1), (2, .int x2), (3, .int x3), (4, .int t_8), (5, .int x5_10)]) dX8_bothCost_52 5 rfl (by decide) (by decide) [1, 2, 3, 4, 5, 0] (fun _ => rfl) (fun x5_10 => ?_)
        refine wG_goto C dX8_bothCost_55 ?_
        exact wG_lv [0, 1, 2, 3, 4, 5] rfl (ih t_8 x5_10)
set_option maxRecDepth 4000 in
theorem w_X8_bothCost_L {X : wX} (C : Cx X yX8_bothCost cX8_bothCost 7 (some .int) rm_X8_bothCost_L) {N : Nat} {q : Qp} (hN : 137 ≤ N) (h : Hp) (x1 : Int32) (x2 : Int32) (x3 : Int32) : wG X 7 (eM X (fun u => (some (.int u), N, h, (rq q)))) (f_X8_bothCost_L h x1 x2 x3) N h (rq q) 0 0 0 [(0, .ref (xB X + 47)), (1, .int x1), (2, .int x2), (3, .int x3)] [] := by
  refine wG_of (f_X8_bothCost_L.eq_1 ..) ?_
  refine wG_ldc C dX8_bothCost_0 m_777 ?_
  refine wG_nmI (fun x4_1 => ?_)
  refine wG_istore C (L' := [(0, .ref (xB X + 47)), (1, .int x1), (2, .int x2), (3, .int x3), (4, .int x4_1)]) dX8_bothCost_2 (by decide) [1, 2, 3, 4, 0] rfl ?_
  refine wG_iload_n C dX8_bothCost_4 3 rfl ?_
  refine wG_nmI (fun x5_2 => ?_)
  refine wG_istore C (L' := [(0, .ref (xB X + 47)), (1, .int x1), (2, .int x2), (3, .int x3), (4, .int x4_1), (5, .int x5_2)]) dX8_bothCost_5 (by decide) [1, 2, 3, 4, 5, 0] rfl ?_
  refine wG_lv (L' := [(0, .ref (xB X + 47)), (1, .int x1), (2, .int x2), (3, .int x3), (4, .int x4_1), (5, .int x5_2)]) [0, 1, 2, 3, 4, 5] rfl ?_
  refine wG_bind (wL_X8_bothCost_L_7 C hN h x1 x2 x3 x4_1 x5_2 FU x4_1 x5_2) (fun t_5 => (?_ : wG X 7 _ _ N h (rq q) 0 0 58 [(4, .int t_5)] []))
  refine wG_iload C dX8_bothCost_58 0 rfl ?_
  exact wG_iret C dX8_bothCost_60 ⟨by decide, by decide⟩ (fun _ e => e)
theorem c_X8_bothCost_L (l : Launch) (E : wE) (N : Nat) (q : Qp) (hN : 137 ≤ N) (h : Hp) (x1 : Int32) (x2 : Int32) (x3 : Int32) : ∀ z, f_X8_bothCost_L h x1 x2 x3 = some z → CT l E yX8_bothCost cX8_bothCost 7 (some .int) rm_X8_bothCost_L [.ref (eB E + 47), .int x1, .int x2, .int x3] N h (rq q) ((fun u => (some (.int u), N, h, (rq q))) z) := CT.of (by decide +kernel) (Nat.le_of_ble_eq_true rfl) (fun X _ e C => by subst e; exact w_X8_bothCost_L C hN h x1 x2 x3)
def rm_X8_cutCost_L : Room := { frames := 1, cells := 0, slots := 0, locals := 26 }
def f_X8_cutCost_L (h : Hp) (x1 : Int32) (x2 : Int32) (x3 : Int32) (x4 : Int32) (x5 : Int32) (x6 : Int32) (x7 : Int32) : Option Int32 :=
  (if x5 = 0 then
  (f_X8_spotOf_L h x1 x2 x3 x6).bind fun u_1 =>
  vB u_1 fun (x8_2 : Int32) =>
  (f_X8_spotOf_L h x1 (x2 + x6) x3 (x4 - x6)).bind fun u_3 =>
  vB u_3 fun (x9_4 : Int32) =>
  (f_X5_cutPrice x3).bind fun u_5 =>
  (f_X8_bothCost_L h x8_2 x9_4 x7).bind fun u_6 =>
  some (u_5 + u_6)
  else
  (f_X8_spotOf_L h x1 x2 x6 x4).bind fun u_7 =>
  vB u_7 fun (x8_8 : Int32) =>
  (f_X8_spotOf_L h (x1 + x6) x2 (x3 - x6) x4).bind fun u_9 =>
  vB u_9 fun (x9_10 : Int32) =>
  (f_X5_cutPrice x4).bind fun u_11 =>
  (f_X8_bothCost_L h x8_8 x9_10 x7).bind fun u_12 =>
  some (u_11 + u_12))
set_option maxRecDepth 4000 in
theorem w_X8_cutCost_L {X : wX} (C : Cx X yX8_cutCost cX8_cutCost 10 (some .int) rm_X8_cutCost_L) {N : Nat} {q : Qp} (hN : 137 ≤ N) (h : Hp) (x1 : Int32) (x2 : Int32) (x3 : Int32) (x4 : Int32) (x5 : Int32) (x6 : Int32) (x7 : Int32) : wG X 10 (eM X (fun u => (some (.int u), N, h, (rq q)))) (f_X8_cutCost_L h x1 x2 x3 x4 x5 x6 x7) N h (rq q) 0 0 0 [(0, .ref (xB X + 47)), (1, .int x1), (2, .int x2), (3, .int x3), (4, .int x4), (5, .int x5), (6, .int x6), (7, .int x7)] [] := by
  refine wG_of (f_X8_cutCost_L.eq_1 ..) ?_
  refine wG_iload C dX8_cutCost_0 5 rfl ?_
  refine wG_if_eq C dX8_cutCost_2 ?_ ?_
  · refine wG_aload_n C dX8_cutCost_52 0 rfl ?_
    refine wG_iload_n C dX8_cutCost_53 1 rfl ?_
    refine wG_iload_n C dX8_cutCost_54 2 rfl ?_
    refine wG_iload_n C dX8_cutCost_55 3 rfl ?_
    refine wG_iload C dX8_cutCost_56 6 rfl ?_
    refine wG_cU_ri [.int x1, .int x2, .int x3, .int x6] [] C uw_X8_44_5 (c_X8_spotOf_L (xl X) (xE X) N q hN h x1 x2 x3 x6) kd_47 (wll hN (by decide)) (by decide) rfl rfl (Nat.le_of_ble_eq_true rfl) dX8_cutCost_58 (cl' := 0) (sl' := 0) rfl rfl (fun u_1 => ?_)
    refine wG_nmI (fun x8_2 => ?_)
    refine wG_istore C (L' := [(0, .ref (xB X + 47)), (1, .int x1), (2, .int x2), (3, .int x3), (4, .int x4), (6, .int x6), (7, .int x7), (8, .int x8_2)]) dX8_cutCost_61 (by decide) [1, 2, 3, 4, 5, 7, 8, 0] rfl ?_
    refine wG_aload_n C dX8_cutCost_63 0 rfl ?_
    refine wG_iload_n C dX8_cutCost_64 1 rfl ?_
    refine wG_iload_n C dX8_cutCost_65 2 rfl ?_
    refine wG_iload C dX8_cutCost_66 5 rfl ?_
    refine wG_iadd C dX8_cutCost_68 ?_
    refine wG_iload_n C dX8_cutCost_69 3 rfl ?_
    refine wG_iload C dX8_cutCost_70 4 rfl ?_
    refine wG_iload C dX8_cutCost_72 5 rfl ?_
    refine wG_isub C dX8_cutCost_74 ?_
    refine wG_cU_ri [.int x1, .int (x2 + x6), .int x3, .int (x4 - x6)] [] C uw_X8_44_5 (c_X8_spotOf_L (xl X) (xE X) N q hN h x1 (x2 + x6) x3 (x4 - x6)) kd_47 (wll hN (by decide)) (by decide) rfl rfl (Nat.le_of_ble_eq_true rfl) dX8_cutCost_75 (cl' := 0) (sl' := 0) rfl rfl (fun u_3 => ?_)
    refine wG_nmI (fun x9_4 => ?_)
    refine wG_istore C (L' := [(0, .ref (xB X + 47)), (3, .int x3), (7, .int x7), (8, .int x8_2), (9, .int x9_4)]) dX8_cutCost_78 (by decide) [1, 4, 7, 8, 0] rfl ?_
    refine wG_aload_n C dX8_cutCost_80 0 rfl ?_
    refine wG_iload_n C dX8_cutCost_81 1 rfl ?_
    refine wG_cU_ri [.int x3] [] C uw_X8_60_5 (c_X5_cutPrice (xl X) (xE X) N q hN h x3) kd_47 (wll hN (by decide)) (by decide) rfl rfl (Nat.le_of_ble_eq_true rfl) dX8_cutCost_82 (cl' := 0) (sl' := 0) rfl rfl (fun u_5 => ?_)
    refine wG_aload_n C dX8_cutCost_85 0 rfl ?_
    refine wG_iload C dX8_cutCost_86 3 rfl ?_
    refine wG_iload C dX8_cutCost_88 4 rfl ?_
    refine wG_iload C dX8_cutCost_90 2 rfl ?_
    refine wG_cU_ri [.int x8_2, .int x9_4, .int x7] [.int u_5] C uw_X8_64_5 (c_X8_bothCost_L (xl X) (xE X) N q hN h x8_2 x9_4 x7) kd_47 (wll hN (by decide)) (by decide) rfl rfl (Nat.le_of_ble_eq_true rfl) dX8_cutCost_92 (cl' := 0) (sl' := 0) rfl rfl (fun u_6 => ?_)
    refine wG_iadd C dX8_cutCost_95 ?_
    exact wG_iret C dX8_cutCost_96 ⟨by decide, by decide⟩ (fun _ e => e)
  · refine wG_aload_n C dX8_cutCost_5 0 rfl ?_
    refine wG_iload_n C dX8_cutCost_6 1 rfl ?_
    refine wG_iload_n C dX8_cutCost_7 2 rfl ?_
    refine wG_iload C dX8_cutCost_8 6 rfl ?_
    refine wG_iload C dX8_cutCost_10 4 rfl ?_
    refine wG_cU_ri [.int x1, .int x2, .int x6, .int x4] [] C uw_X8_44_5 (c_X8_spotOf_L (xl X) (xE X) N q hN h x1 x2 x6 x4) kd_47 (wll hN (by decide)) (by decide) rfl rfl (Nat.le_of_ble_eq_true rfl) dX8_cutCost_12 (cl' := 0) (sl' := 0) rfl rfl (fun u_7 => ?_)
    refine wG_nmI (fun x8_8 => ?_)
    refine wG_istore C (L' := [(0, .ref (xB X + 47)), (1, .int x1), (2, .int x2), (3, .int x3), (4, .int x4), (6, .int x6), (7, .int x7), (8, .int x8_8)]) dX8_cutCost_15 (by decide) [1, 2, 3, 4, 5, 7, 8, 0] rfl ?_
    refine wG_aload_n C dX8_cutCost_17 0 rfl ?_
    refine wG_iload_n C dX8_cutCost_18 1 rfl ?_
    refine wG_iload C dX8_cutCost_19 5 rfl ?_
    refine wG_iadd C dX8_cutCost_21 ?_
    refine wG_iload_n C dX8_cutCost_22 2 rfl ?_
    refine wG_iload_n C dX8_cutCost_23 3 rfl ?_
    refine wG_iload C dX8_cutCost_24 5 rfl ?_
    refine wG_isub C dX8_cutCost_26 ?_
    refine wG_iload C dX8_cutCost_27 4 rfl ?_
    refine wG_cU_ri [.int (x1 + x6), .int x2, .int (x3 - x6), .int x4] [] C uw_X8_44_5 (c_X8_spotOf_L (xl X) (xE X) N q hN h (x1 + x6) x2 (x3 - x6) x4) kd_47 (wll hN (by decide)) (by decide) rfl rfl (Nat.le_of_ble_eq_true rfl) dX8_cutCost_29 (cl' := 0) (sl' := 0) rfl rfl (fun u_9 => ?_)
    refine wG_nmI (fun x9_10 => ?_)
    refine wG_istore C (L' := [(0, .ref (xB X + 47)), (4, .int x4), (7, .int x7), (8, .int x8_8), (9, .int x9_10)]) dX8_cutCost_32 (by decide) [1, 5, 7, 8, 0] rfl ?_
    refine wG_aload_n C dX8_cutCost_34 0 rfl ?_
    refine wG_iload C dX8_cutCost_35 1 rfl ?_
    refine wG_cU_ri [.int x4] [] C uw_X8_60_5 (c_X5_cutPrice (xl X) (xE X) N q hN h x4) kd_47 (wll hN (by decide)) (by decide) rfl rfl (Nat.le_of_ble_eq_true rfl) dX8_cutCost_37 (cl' := 0) (sl' := 0) rfl rfl (fun u_11 => ?_)
    refine wG_aload_n C dX8_cutCost_40 0 rfl ?_
    refine wG_iload C dX8_cutCost_41 3 rfl ?_
    refine wG_iload C dX8_cutCost_43 4 rfl ?_
    refine wG_iload C dX8_cutCost_45 2 rfl ?_
    refine wG_cU_ri [.int x8_8, .int x9_10, .int x7] [.int u_11] C uw_X8_64_5 (c_X8_bothCost_L (xl X) (xE X) N q hN h x8_8 x9_10 x7) kd_47 (wll hN (by decide)) (by decide) rfl rfl (Nat.le_of_ble_eq_true rfl) dX8_cutCost_47 (cl' := 0) (sl' := 0) rfl rfl (fun u_12 => ?_)
    refine wG_iadd C dX8_cutCost_50 ?_
    exact wG_iret C dX8_cutCost_51 ⟨by decide, by decide⟩ (fun _ e => e)
theorem c_X8_cutCost_L (l : Launch) (E : wE) (N : Nat) (q : Qp) (hN : 137 ≤ N) (h : Hp) (x1 : Int32) (x2 : Int32) (x3 : Int32) (x4 : Int32) (x5 : Int32) (x6 : Int32) (x7 : Int32) : ∀ z, f_X8_cutCost_L h x1 x2 x3 x4 x5 x6 x7 = some z → CT l E yX8_cutCost cX8_cutCost 10 (some .int) rm_X8_cutCost_L [.ref (eB E + 47), .int x1, .int x2, .int x3, .int x4, .int x5, .int x6, .int x7] N h (rq q) ((fun u => (some (.int u), N, h, (rq q))) z) := CT.of (by decide +kernel) (Nat.le_of_ble_eq_true rfl) (fun X _ e C => by subst e; exact w_X8_cutCost_L C hN h x1 x2 x3 x4 x5 x6 x7)
def rm_X8_leastCut_L : Room := { frames := 2, cells := 0, slots := 0, locals := 55 }
def L_X8_leastCut_L_7 (h : Hp) (x1 : Int32) (x2 : Int32) (x3 : Int32) (x4 : Int32) (x5 : Int32) : Nat → Int32 → Int32 → Option Int32
  | 0, _, _ => none
  | n + 1, x6_3, x7_4 =>
    (if x3 ≤ x7_4 then
    some x6_3
    else
    (f_X8_cutCost_L h x1 x2 x3 x4 1 x7_4 x5).bind fun u_6 =>
    vB (if u_6 < x6_3 then u_6 else x6_3) fun (x6_7 : Int32) =>
    vB (x7_4 + 1) fun (x7_8 : Int32) =>
    L_X8_leastCut_L_7 h x1 x2 x3 x4 x5 n x6_7 x7_8)
def L_X8_leastCut_L_43 (h : Hp) (x1 : Int32) (x2 : Int32) (x3 : Int32) (x4 : Int32) (x5 : Int32) : Nat → Int32 → Int32 → Option Int32
  | 0, _, _ => none
  | n + 1, x6_10, x7_11 =>
    (if x4 ≤ x7_11 then
    some x6_10
    else
    (f_X8_cutCost_L h x1 x2 x3 x4 0 x7_11 x5).bind fun u_13 =>
    vB (if u_13 < x6_10 then u_13 else x6_10) fun (x6_14 : Int32) =>
    vB (x7_11 + 1) fun (x7_15 : Int32) =>
    L_X8_leastCut_L_43 h x1 x2 x3 x4 x5 n x6_14 x7_15)
def f_X8_leastCut_L (h : Hp) (x1 : Int32) (x2 : Int32) (x3 : Int32) (x4 : Int32) (x5 : Int32) : Option Int32 :=
  vB 1000000 fun (x6_1 : Int32) =>
  vB 1 fun (x7_2 : Int32) =>
  (L_X8_leastCut_L_7 h x1 x2 x3 x4 x5 FU x6_1 x7_2).bind fun t_5 =>
  vB 1 fun (x7_9 : Int32) =>
  (L_X8_leastCut_L_43 h x1 x2 x3 x4 x5 FU t_5 x7_9).bind fun t_12 =>
  some t_12
set_option maxRecDepth 4000 in
theorem wL_X8_leastCut_L_7 {X : wX} (C : Cx X yX8_leastCut cX8_leastCut 8 (some .int) rm_X8_leastCut_L) {N : Nat} {q : Qp} (hN : 137 ≤ N) (h : Hp) (x1 : Int32) (x2 : Int32) (x3 : Int32) (x4 : Int32) (x5 : Int32) (x6_1 : Int32) (x7_2 : Int32) : ∀ n x6_3 x7_4, wG X 8 (fun (t_5 : Int32) Q => gQ X 8 Q N h (rq q) 0 0 40 [(0, .ref (xB X + 47)), (1, .int x1), (2, .int x2), (3, .int x3), (4, .int x4), (5, .int x5), (6, .int t_5)] []) (L_X8_leastCut_L_7 h x1 x2 x3 x4 x5 n x6_3 x7_4) N h (rq q) 0 0 7 [(0, .ref (xB X + 47)), (1, .int x1), (2, .int x2), (3, .int x3), (4, .int x4), (5, .int x5), (6, .int x6_3), (7, .int x7_4)] [] := by
  intro n
  induction n with
  | zero => intro _ _; exact wG_none
  | succ n ih =>
    intro x6_3 x7_4
    refine wG_of (L_X8_leastCut_L_7.eq_2 ..) ?_
    refine wG_iload C dX8_leastCut_7 7 rfl ?_
    refine wG_iload_n C dX8_leastCut_9 3 rfl ?_
    refine wG_icmp_ge C dX8_leastCut_10 ?_ ?_
    · exact wG_exit (fun Q e => gQ_lv [0, 1, 2, 3, 4, 5, 6] rfl e)
    · refine wG_iload C dX8_leastCut_13 6 rfl ?_
      refine wG_aload_n C dX8_leastCut_15 0 rfl ?_
      refine wG_iload_n C dX8_leastCut_16 1 rfl ?_
      refine wG_iload_n C dX8_leastCut_17 2 rfl ?_
      refine wG_iload_n C dX8_leastCut_18 3 rfl ?_
      refine wG_iload C dX8_leastCut_19 4 rfl ?_
      refine wG_iconst C dX8_leastCut_21 (v := 1) (by decide) ?_
      refine wG_iload C dX8_leastCut_22 7 rfl ?_
      refine wG_iload C dX8_leastCut_24 5 rfl ?_
      refine wG_cU_ri [.int x1, .int x2, .int x3, .int x4, .int 1, .int x7_4, .int x5] [.int x6_3] C uw_X8_56_5 (c_X8_cutCost_L (xl X) (xE X) N q hN h x1 x2 x3 x4 1 x7_4 x5) kd_47 (wll hN (by decide)) (by decide) rfl rfl (Nat.le_of_ble_eq_true rfl) dX8_leastCut_26 (cl' := 0) (sl' := 0) rfl rfl (fun u_6 => ?_)
      refine wG_mmin C mw_X8_37 ⟨by decide, Nat.le_of_ble_eq_true rfl, by decide, by decide⟩ dX8_leastCut_29 ?_
      refine wG_nmI (fun x6_7 => ?_)
      refine wG_istore C (L' := [(0, .ref (xB X + 47)), (1, .int x1), (2, .int x2), (3, .int x3), (4, .int x4), (5, .int x5), (6, .int x6_7), (7, .int x7_4)]) dX8_leastCut_32 (by decide) [1, 2, 3, 4, 5, 6, 0, 7] rfl ?_
      refine wG_iinc C (v := 1) (LL := fun x7_8 => [(0, .ref (xB X + 47)), (1, .int x1), (2, .int x2), (3, .int x3), (4, .int x4), (5, .int x5), (6, .int x6_7), (7, .int x7_8)]) dX8_leastCut_34 7 rfl (by decide) (by decide) [1, 2, 3, 4, 5, 6, 7, 0] (fun _ => rfl) (fun x7_8 => ?_)
      refine wG_goto C dX8_leastCut_37 ?_
      exact wG_lv [0, 1, 2, 3, 4, 5, 6, 7] rfl (ih x6_7 x7_8)
set_option maxRecDepth 4000 in
theorem wL_X8_leastCut_L_43 {X : wX} (C : Cx X yX8_leastCut cX8_leastCut 8 (some .int) rm_X8_leastCut_L) {N : Nat} {q : Qp} (hN : 137 ≤ N) (h : Hp) (x1 : Int32) (x2 : Int32) (x3 : Int32) (x4 : Int32) (x5 : Int32) (x6_1 : Int32) (x7_2 : Int32) (t_5 : Int32) (x7_9 : Int32) : ∀ n x6_10 x7_11, wG X 8 (fun (t_12 : Int32) Q => gQ X 8 Q N h (rq q) 0 0 77 [(6, .int t_12)] []) (L_X8_leastCut_L_43 h x1 x2 x3 x4 x5 n x6_10 x7_11) N h (rq q) 0 0 43 [(0, .ref (xB X + 47)), (1, .int x1), (2, .int x2), (3, .int x3), (4, .int x4), (5, .int x5), (6, .int x6_10), (7, .int x7_11)] [] := by
  intro n
  induction n with
  | zero => intro _ _; exact wG_none
  | succ n ih =>
    intro x6_10 x7_11
    refine wG_of (L_X8_leastCut_L_43.eq_2 ..) ?_
    refine wG_iload C dX8_leastCut_43 7 rfl ?_
    refine wG_iload C dX8_leastCut_45 4 rfl ?_
    refine wG_icmp_ge C dX8_leastCut_47 ?_ ?_
    · exact wG_exit (fun Q e => gQ_lv [6] rfl e)
    · refine wG_iload C dX8_leastCut_50 6 rfl ?_
      refine wG_aload_n C dX8_leastCut_52 0 rfl ?_
      refine wG_iload_n C dX8_leastCut_53 1 rfl ?_
      refine wG_iload_n C dX8_leastCut_54 2 rfl ?_
      refine wG_iload_n C dX8_leastCut_55 3 rfl ?_
      refine wG_iload C dX8_leastCut_56 4 rfl ?_
      refine wG_iconst C dX8_leastCut_58 (v := 0) (by decide) ?_
      refine wG_iload C dX8_leastCut_59 7 rfl ?_
      refine wG_iload C dX8_leastCut_61 5 rfl ?_
      refine wG_cU_ri [.int x1, .int x2, .int x3, .int x4, .int 0, .int x7_11, .int x5] [.int x6_10] C uw_X8_56_5 (c_X8_cutCost_L (xl X) (xE X) N q hN h x1 x2 x3 x4 0 x7_11 x5) kd_47 (wll hN (by decide)) (by decide) rfl rfl (Nat.le_of_ble_eq_true rfl) dX8_leastCut_63 (cl' := 0) (sl' := 0) rfl rfl (fun u_13 => ?_)
      refine wG_mmin C mw_X8_37 ⟨by decide, Nat.le_of_ble_eq_true rfl, by decide, by decide⟩ dX8_leastCut_66 ?_
      refine wG_nmI (fun x6_14 => ?_)
      refine wG_istore C (L' := [(0, .ref (xB X + 47)), (1, .int x1), (2, .int x2), (3, .int x3), (4, .int x4), (5, .int x5), (6, .int x6_14), (7, .int x7_11)]) dX8_leastCut_69 (by decide) [1, 2, 3, 4, 5, 6, 0, 7] rfl ?_
      refine wG_iinc C (v := 1) (LL := fun x7_15 => [(0, .ref (xB X + 47)), (1, .int x1), (2, .int x2), (3, .int x3), (4, .int x4), (5, .int x5), (6, .int x6_14), (7, .int x7_15)]) dX8_leastCut_71 7 rfl (by decide) (by decide) [1, 2, 3, 4, 5, 6, 7, 0] (fun _ => rfl) (fun x7_15 => ?_)
      refine wG_goto C dX8_leastCut_74 ?_
      exact wG_lv [0, 1, 2, 3, 4, 5, 6, 7] rfl (ih x6_14 x7_15)
set_option maxRecDepth 4000 in
theorem w_X8_leastCut_L {X : wX} (C : Cx X yX8_leastCut cX8_leastCut 8 (some .int) rm_X8_leastCut_L) {N : Nat} {q : Qp} (hN : 137 ≤ N) (h : Hp) (x1 : Int32) (x2 : Int32) (x3 : Int32) (x4 : Int32) (x5 : Int32) : wG X 8 (eM X (fun u => (some (.int u), N, h, (rq q)))) (f_X8_leastCut_L h x1 x2 x3 x4 x5) N h (rq q) 0 0 0 [(0, .ref (xB X + 47)), (1, .int x1), (2, .int x2), (3, .int x3), (4, .int x4), (5, .int x5)] [] := by
  refine wG_of (f_X8_leastCut_L.eq_1 ..) ?_
  refine wG_ldc C dX8_leastCut_0 m_777 ?_
  refine wG_nmI (fun x6_1 => ?_)
  refine wG_istore C (L' := [(0, .ref (xB X + 47)), (1, .int x1), (2, .int x2), (3, .int x3), (4, .int x4), (5, .int x5), (6, .int x6_1)]) dX8_leastCut_2 (by decide) [1, 2, 3, 4, 5, 6, 0] rfl ?_
  refine wG_iconst C dX8_leastCut_4 (v := 1) (by decide) ?_
  refine wG_nmI (fun x7_2 => ?_)
  refine wG_istore C (L' := [(0, .ref (xB X + 47)), (1, .int x1), (2, .int x2), (3, .int x3), (4, .int x4), (5, .int x5), (6, .int x6_1), (7, .int x7_2)]) dX8_leastCut_5 (by decide) [1, 2, 3, 4, 5, 6, 7, 0] rfl ?_
  refine wG_lv (L' := [(0, .ref (xB X + 47)), (1, .int x1), (2, .int x2), (3, .int x3), (4, .int x4), (5, .int x5), (6, .int x6_1), (7, .int x7_2)]) [0, 1, 2, 3, 4, 5, 6, 7] rfl ?_
  refine wG_bind (wL_X8_leastCut_L_7 C hN h x1 x2 x3 x4 x5 x6_1 x7_2 FU x6_1 x7_2) (fun t_5 => (?_ : wG X 8 _ _ N h (rq q) 0 0 40 [(0, .ref (xB X + 47)), (1, .int x1), (2, .int x2), (3, .int x3), (4, .int x4), (5, .int x5), (6, .int t_5)] []))
  refine wG_iconst C dX8_leastCut_40 (v := 1) (by decide) ?_
  refine wG_nmI (fun x7_9 => ?_)
  refine wG_istore C (L' := [(0, .ref (xB X + 47)), (1, .int x1), (2, .int x2), (3, .int x3), (4, .int x4), (5, .int x5), (6, .int t_5), (7, .int x7_9)]) dX8_leastCut_41 (by decide) [1, 2, 3, 4, 5, 6, 7, 0] rfl ?_
  refine wG_lv (L' := [(0, .ref (xB X + 47)), (1, .int x1), (2, .int x2), (3, .int x3), (4, .int x4), (5, .int x5), (6, .int t_5), (7, .int x7_9)]) [0, 1, 2, 3, 4, 5, 6, 7] rfl ?_
  refine wG_bind (wL_X8_leastCut_L_43 C hN h x1 x2 x3 x4 x5 x6_1 x7_2 t_5 x7_9 FU t_5 x7_9) (fun t_12 => (?_ : wG X 8 _ _ N h (rq q) 0 0 77 [(6, .int t_12)] []))
  refine wG_iload C dX8_leastCut_77 0 rfl ?_
  exact wG_iret C dX8_leastCut_79 ⟨by decide, by decide⟩ (fun _ e => e)
theorem c_X8_leastCut_L (l : Launch) (E : wE) (N : Nat) (q : Qp) (hN : 137 ≤ N) (h : Hp) (x1 : Int32) (x2 : Int32) (x3 : Int32) (x4 : Int32) (x5 : Int32) : ∀ z, f_X8_leastCut_L h x1 x2 x3 x4 x5 = some z → CT l E yX8_leastCut cX8_leastCut 8 (some .int) rm_X8_leastCut_L [.ref (eB E + 47), .int x1, .int x2, .int x3, .int x4, .int x5] N h (rq q) ((fun u => (some (.int u), N, h, (rq q))) z) := CT.of (by decide +kernel) (Nat.le_of_ble_eq_true rfl) (fun X _ e C => by subst e; exact w_X8_leastCut_L C hN h x1 x2 x3 x4 x5)
def rm_X8_settle_L : Room := { frames := 3, cells := 0, slots := 0, locals := 82 }
def L_X8_settle_L_14 (x1 : Int32) (x2 : Int32) (x3 : Int32) (x4 : Int32) (x5 : Int32) (x6_2 : Int32) : Nat → Int32 → Hp → Option Hp
  | 0, _, _ => none
  | n + 1, x7_4, h_5 =>
    (if x5 < x7_4 then
    some h_5
    else
    (f_X5_verdict h_5 x1 x2 x3 x4 x7_4).bind fun u_7 =>
    vB u_7 fun (x8_8 : Int32) =>
    ((if x8_8 = (-1) then
    (f_X8_leastCut_L h_5 x1 x2 x3 x4 x7_4).bind fun u_10 =>
    some u_10
    else
    some x8_8)).bind fun t_9 =>
    if inB (x6_2 + x7_4) 441 then vB (u2 h_5 48 (ix (x6_2 + x7_4)) t_9) fun h_11 =>
    vB (x7_4 + 1) fun (x7_12 : Int32) =>
    L_X8_settle_L_14 x1 x2 x3 x4 x5 x6_2 n x7_12 h_11 else none)
def f_X8_settle_L (h : Hp) (x1 : Int32) (x2 : Int32) (x3 : Int32) (x4 : Int32) (x5 : Int32) : Option Hp :=
  (f_X8_spotOf_L h x1 x2 x3 x4).bind fun u_1 =>
  vB u_1 fun (x6_2 : Int32) =>
  vB 0 fun (x7_3 : Int32) =>
  (L_X8_settle_L_14 x1 x2 x3 x4 x5 x6_2 FU x7_3 h).bind fun t_6 =>
  some t_6
set_option maxRecDepth 4000 in
theorem wL_X8_settle_L_14 {X : wX} (C : Cx X yX8_settle cX8_settle 9 none rm_X8_settle_L) {N : Nat} {q : Qp} (hN : 137 ≤ N) (h : Hp) (x1 : Int32) (x2 : Int32) (x3 : Int32) (x4 : Int32) (x5 : Int32) (u_1 : Int32) (x6_2 : Int32) (x7_3 : Int32) : ∀ n x7_4 h_5, wG X 9 (fun (t_6 : Hp) Q => gQ X 9 Q N t_6 (rq q) 0 0 72 [] []) (L_X8_settle_L_14 x1 x2 x3 x4 x5 x6_2 n x7_4 h_5) N h_5 (rq q) 0 0 14 [(0, .ref (xB X + 47)), (1, .int x1), (2, .int x2), (3, .int x3), (4, .int x4), (5, .int x5), (6, .int x6_2), (7, .int x7_4)] [] := by
  intro n
  induction n with
  | zero => intro _ _; exact wG_none
  | succ n ih =>
    intro x7_4 h_5
    refine wG_of (L_X8_settle_L_14.eq_2 ..) ?_
    refine wG_iload C dX8_settle_14 7 rfl ?_
    refine wG_iload C dX8_settle_16 5 rfl ?_
    refine wG_icmp_gt C dX8_settle_18 ?_ ?_
    · exact wG_exit (fun Q e => gQ_lv [] rfl e)
    · refine wG_aload_n C dX8_settle_21 0 rfl ?_
      refine wG_iload_n C dX8_settle_22 1 rfl ?_
      refine wG_iload_n C dX8_settle_23 2 rfl ?_
      refine wG_iload_n C dX8_settle_24 3 rfl ?_
      refine wG_iload C dX8_settle_25 4 rfl ?_
      refine wG_iload C dX8_settle_27 7 rfl ?_
      refine wG_cU_ri [.int x1, .int x2, .int x3, .int x4, .int x7_4] [] C uw_X8_48_5 (c_X5_verdict (xl X) (xE X) N q hN h_5 x1 x2 x3 x4 x7_4) kd_47 (wll hN (by decide)) (by decide) rfl rfl (Nat.le_of_ble_eq_true rfl) dX8_settle_29 (cl' := 0) (sl' := 0) rfl rfl (fun u_7 => ?_)
      refine wG_nmI (fun x8_8 => ?_)
      refine wG_istore C (L' := [(0, .ref (xB X + 47)), (1, .int x1), (2, .int x2), (3, .int x3), (4, .int x4), (5, .int x5), (6, .int x6_2), (7, .int x7_4), (8, .int x8_8)]) dX8_settle_32 (by decide) [1, 2, 3, 4, 5, 6, 7, 8, 0] rfl ?_
      refine wG_aload_n C dX8_settle_34 0 rfl ?_
      refine wG_getR C fl_X8_25_5 rfl kd_47 (wll hN (by decide)) (rf_47_2 q) dX8_settle_35 ?_
      refine wG_iload C dX8_settle_38 6 rfl ?_
      refine wG_iload C dX8_settle_40 7 rfl ?_
      refine wG_iadd C dX8_settle_42 ?_
      refine wG_iload C dX8_settle_43 8 rfl ?_
      refine wG_iconst C dX8_settle_45 (v := (-1)) (by decide) ?_
      refine wG_bind (J := (fun (t_9 : Int32) Q => gQ X 9 Q N h_5 (rq q) 0 0 65 [(0, .ref (xB X + 47)), (1, .int x1), (2, .int x2), (3, .int x3), (4, .int x4), (5, .int x5), (6, .int x6_2), (7, .int x7_4)] [.int t_9, .int (x6_2 + x7_4), .ref (xB X + 48)])) ?_ (fun t_9 => (?_ : wG X 9 _ _ N h_5 (rq q) 0 0 65 [(0, .ref (xB X + 47)), (1, .int x1), (2, .int x2), (3, .int x3), (4, .int x4), (5, .int x5), (6, .int x6_2), (7, .int x7_4)] [.int t_9, .int (x6_2 + x7_4), .ref (xB X + 48)]))
      · refine wG_icmp_ne C dX8_settle_46 ?_ ?_
        · refine wG_aload_n C dX8_settle_49 0 rfl ?_
          refine wG_iload_n C dX8_settle_50 1 rfl ?_
          refine wG_iload_n C dX8_settle_51 2 rfl ?_
          refine wG_iload_n C dX8_settle_52 3 rfl ?_
          refine wG_iload C dX8_settle_53 4 rfl ?_
          refine wG_iload C dX8_settle_55 7 rfl ?_
          refine wG_cU_ri [.int x1, .int x2, .int x3, .int x4, .int x7_4] [.int (x6_2 + x7_4), .ref (xB X + 48)] C uw_X8_52_5 (c_X8_leastCut_L (xl X) (xE X) N q hN h_5 x1 x2 x3 x4 x7_4) kd_47 (wll hN (by decide)) (by decide) rfl rfl (Nat.le_of_ble_eq_true rfl) dX8_settle_57 (cl' := 0) (sl' := 0) rfl rfl (fun u_10 => ?_)
          refine wG_goto C dX8_settle_60 ?_
          exact wG_exit (fun Q e => gQ_lv [0, 1, 2, 3, 4, 5, 6, 7] rfl e)
        · refine wG_iload C dX8_settle_63 8 rfl ?_
          exact wG_exit (fun Q e => gQ_lv [0, 1, 2, 3, 4, 5, 6, 7] rfl e)
      · refine wG_iast C kd_48 (wll hN (by decide)) ln_48 dX8_settle_65 (fun h_11 => ?_)
        refine wG_iinc C (v := 1) (LL := fun x7_12 => [(0, .ref (xB X + 47)), (1, .int x1), (2, .int x2), (3, .int x3), (4, .int x4), (5, .int x5), (6, .int x6_2), (7, .int x7_12)]) dX8_settle_66 7 rfl (by decide) (by decide) [1, 2, 3, 4, 5, 6, 7, 0] (fun _ => rfl) (fun x7_12 => ?_)
        refine wG_goto C dX8_settle_69 ?_
        exact wG_lv [0, 1, 2, 3, 4, 5, 6, 7] rfl (ih x7_12 h_11)
set_option maxRecDepth 4000 in
theorem w_X8_settle_L {X : wX} (C : Cx X yX8_settle cX8_settle 9 none rm_X8_settle_L) {N : Nat} {q : Qp} (hN : 137 ≤ N) (h : Hp) (x1 : Int32) (x2 : Int32) (x3 : Int32) (x4 : Int32) (x5 : Int32) : wG X 9 (eM X (fun u => (none, N, u, (rq q)))) (f_X8_settle_L h x1 x2 x3 x4 x5) N h (rq q) 0 0 0 [(0, .ref (xB X + 47)), (1, .int x1), (2, .int x2), (3, .int x3), (4, .int x4), (5, .int x5)] [] := by
  refine wG_of (f_X8_settle_L.eq_1 ..) ?_
  refine wG_aload_n C dX8_settle_0 0 rfl ?_
  refine wG_iload_n C dX8_settle_1 1 rfl ?_
  refine wG_iload_n C dX8_settle_2 2 rfl ?_
  refine wG_iload_n C dX8_settle_3 3 rfl ?_
  refine wG_iload C dX8_settle_4 4 rfl ?_
  refine wG_cU_ri [.int x1, .int x2, .int x3, .int x4] [] C uw_X8_44_5 (c_X8_spotOf_L (xl X) (xE X) N q hN h x1 x2 x3 x4) kd_47 (wll hN (by decide)) (by decide) rfl rfl (Nat.le_of_ble_eq_true rfl) dX8_settle_6 (cl' := 0) (sl' := 0) rfl rfl (fun u_1 => ?_)
  refine wG_nmI (fun x6_2 => ?_)
  refine wG_istore C (L' := [(0, .ref (xB X + 47)), (1, .int x1), (2, .int x2), (3, .int x3), (4, .int x4), (5, .int x5), (6, .int x6_2)]) dX8_settle_9 (by decide) [1, 2, 3, 4, 5, 6, 0] rfl ?_
  refine wG_iconst C dX8_settle_11 (v := 0) (by decide) ?_
  refine wG_nmI (fun x7_3 => ?_)
  refine wG_istore C (L' := [(0, .ref (xB X + 47)), (1, .int x1), (2, .int x2), (3, .int x3), (4, .int x4), (5, .int x5), (6, .int x6_2), (7, .int x7_3)]) dX8_settle_12 (by decide) [1, 2, 3, 4, 5, 6, 7, 0] rfl ?_
  refine wG_lv (L' := [(0, .ref (xB X + 47)), (1, .int x1), (2, .int x2), (3, .int x3), (4, .int x4), (5, .int x5), (6, .int x6_2), (7, .int x7_3)]) [0, 1, 2, 3, 4, 5, 6, 7] rfl ?_
  refine wG_bind (wL_X8_settle_L_14 C hN h x1 x2 x3 x4 x5 u_1 x6_2 x7_3 FU x7_3 h) (fun t_6 => (?_ : wG X 9 _ _ N t_6 (rq q) 0 0 72 [] []))
  exact wG_vret C dX8_settle_72 ⟨by decide, by decide⟩ (fun _ e => e)
theorem c_X8_settle_L (l : Launch) (E : wE) (N : Nat) (q : Qp) (hN : 137 ≤ N) (h : Hp) (x1 : Int32) (x2 : Int32) (x3 : Int32) (x4 : Int32) (x5 : Int32) : ∀ z, f_X8_settle_L h x1 x2 x3 x4 x5 = some z → CT l E yX8_settle cX8_settle 9 none rm_X8_settle_L [.ref (eB E + 47), .int x1, .int x2, .int x3, .int x4, .int x5] N h (rq q) ((fun u => (none, N, u, (rq q))) z) := CT.of (by decide +kernel) (Nat.le_of_ble_eq_true rfl) (fun X _ e C => by subst e; exact w_X8_settle_L C hN h x1 x2 x3 x4 x5)
def rm_X8_workOut_L : Room := { frames := 4, cells := 0, slots := 0, locals := 110 }
def L_X8_workOut_L_46 (x1 : Int32) (x2_2 : Int32) (x3_6 : Int32) (x4_10 : Int32) : Nat → Int32 → Hp → Option Hp
  | 0, _, _ => none
  | n + 1, x5_14, h_15 =>
    (if ((h_15 3 4) - x3_6) < x5_14 then
    some h_15
    else
    (f_X8_settle_L h_15 x4_10 x5_14 x2_2 x3_6 (if ((h_15 47 1) - 1) < x1 then ((h_15 47 1) - 1) else x1)).bind fun u_17 =>
    vB (x5_14 + 1) fun (x5_18 : Int32) =>
    L_X8_workOut_L_46 x1 x2_2 x3_6 x4_10 n x5_18 u_17)
def L_X8_workOut_L_29 (x1 : Int32) (x2_2 : Int32) (x3_6 : Int32) : Nat → Int32 → Hp → Option Hp
  | 0, _, _ => none
  | n + 1, x4_10, h_11 =>
    (if ((h_11 3 3) - x2_2) < x4_10 then
    some h_11
    else
    vB 0 fun (x5_13 : Int32) =>
    (L_X8_workOut_L_46 x1 x2_2 x3_6 x4_10 FU x5_13 h_11).bind fun t_16 =>
    vB (x4_10 + 1) fun (x4_19 : Int32) =>
    L_X8_workOut_L_29 x1 x2_2 x3_6 n x4_19 t_16)
def L_X8_workOut_L_15 (x1 : Int32) (x2_2 : Int32) : Nat → Int32 → Hp → Option Hp
  | 0, _, _ => none
  | n + 1, x3_6, h_7 =>
    (if (h_7 3 4) < x3_6 then
    some h_7
    else
    vB 0 fun (x4_9 : Int32) =>
    (L_X8_workOut_L_29 x1 x2_2 x3_6 FU x4_9 h_7).bind fun t_12 =>
    vB (x3_6 + 1) fun (x3_20 : Int32) =>
    L_X8_workOut_L_15 x1 x2_2 n x3_20 t_12)
def L_X8_workOut_L_2 (x1 : Int32) : Nat → Int32 → Hp → Option Hp
  | 0, _, _ => none
  | n + 1, x2_2, h_3 =>
    (if (h_3 3 3) < x2_2 then
    some h_3
    else
    vB 1 fun (x3_5 : Int32) =>
    (L_X8_workOut_L_15 x1 x2_2 FU x3_5 h_3).bind fun t_8 =>
    vB (x2_2 + 1) fun (x2_21 : Int32) =>
    L_X8_workOut_L_2 x1 n x2_21 t_8)
def f_X8_workOut_L (h : Hp) (x1 : Int32) : Option Hp :=
  vB 1 fun (x2_1 : Int32) =>
  (L_X8_workOut_L_2 x1 FU x2_1 h).bind fun t_4 =>
  some t_4
set_option maxRecDepth 4000 in
theorem wL_X8_workOut_L_46 {X : wX} (C : Cx X yX8_workOut cX8_workOut 6 none rm_X8_workOut_L) {N : Nat} {q : Qp} (hN : 137 ≤ N) (h : Hp) (x1 : Int32) (x2_1 : Int32) (x2_2 : Int32) (h_3 : Hp) (x3_5 : Int32) (x3_6 : Int32) (h_7 : Hp) (x4_9 : Int32) (x4_10 : Int32) (h_11 : Hp) (x5_13 : Int32) : ∀ n x5_14 h_15, wG X 6 (fun (t_16 : Hp) Q => gQ X 6 Q N t_16 (rq q) 0 0 86 [(0, .ref (xB X + 47)), (1, .int x1), (2, .int x2_2), (3, .int x3_6), (4, .int x4_10)] []) (L_X8_workOut_L_46 x1 x2_2 x3_6 x4_10 n x5_14 h_15) N h_15 (rq q) 0 0 46 [(0, .ref (xB X + 47)), (1, .int x1), (2, .int x2_2), (3, .int x3_6), (4, .int x4_10), (5, .int x5_14)] [] := by
  intro n
  induction n with
  | zero => intro _ _; exact wG_none
  | succ n ih =>
    intro x5_14 h_15
    refine wG_of (L_X8_workOut_L_46.eq_2 ..) ?_
    refine wG_iload C dX8_workOut_46 5 rfl ?_
    refine wG_aload_n C dX8_workOut_48 0 rfl ?_
    refine wG_getR C fl_X8_9_5 rfl kd_47 (wll hN (by decide)) (rf_47_0 q) dX8_workOut_49 ?_
    refine wG_getI C fl_X8_34_4 rfl kd_3 (wll hN (by decide)) dX8_workOut_52 ?_
    refine wG_iload_n C dX8_workOut_55 3 rfl ?_
    refine wG_isub C dX8_workOut_56 ?_
    refine wG_icmp_gt C dX8_workOut_57 ?_ ?_
    · exact wG_exit (fun Q e => gQ_lv [0, 1, 2, 3, 4] rfl e)
    · refine wG_aload_n C dX8_workOut_60 0 rfl ?_
      refine wG_iload C dX8_workOut_61 4 rfl ?_
      refine wG_iload C dX8_workOut_63 5 rfl ?_
      refine wG_iload_n C dX8_workOut_65 2 rfl ?_
      refine wG_iload_n C dX8_workOut_66 3 rfl ?_
      refine wG_iload_n C dX8_workOut_67 1 rfl ?_
      refine wG_aload_n C dX8_workOut_68 0 rfl ?_
      refine wG_getI C fl_X8_21_5 rfl kd_47 (wll hN (by decide)) dX8_workOut_69 ?_
      refine wG_iconst C dX8_workOut_72 (v := 1) (by decide) ?_
      refine wG_isub C dX8_workOut_73 ?_
      refine wG_mmin C mw_X8_37 ⟨by decide, Nat.le_of_ble_eq_true rfl, by decide, by decide⟩ dX8_workOut_74 ?_
      refine wG_cU_wv [.int x4_10, .int x5_14, .int x2_2, .int x3_6, .int (if ((h_15 47 1) - 1) < x1 then ((h_15 47 1) - 1) else x1)] [] C uw_X8_40_5 (c_X8_settle_L (xl X) (xE X) N q hN h_15 x4_10 x5_14 x2_2 x3_6 (if ((h_15 47 1) - 1) < x1 then ((h_15 47 1) - 1) else x1)) kd_47 (wll hN (by decide)) (by decide) rfl rfl (Nat.le_of_ble_eq_true rfl) dX8_workOut_77 (cl' := 0) (sl' := 0) rfl rfl (fun u_17 => ?_)
      refine wG_iinc C (v := 1) (LL := fun x5_18 => [(0, .ref (xB X + 47)), (1, .int x1), (2, .int x2_2), (3, .int x3_6), (4, .int x4_10), (5, .int x5_18)]) dX8_workOut_80 5 rfl (by decide) (by decide) [1, 2, 3, 4, 5, 0] (fun _ => rfl) (fun x5_18 => ?_)
      refine wG_goto C dX8_workOut_83 ?_
      exact wG_lv [0, 1, 2, 3, 4, 5] rfl (ih x5_18 u_17)
set_option maxRecDepth 4000 in
theorem wL_X8_workOut_L_29 {X : wX} (C : Cx X yX8_workOut cX8_workOut 6 none rm_X8_workOut_L) {N : Nat} {q : Qp} (hN : 137 ≤ N) (h : Hp) (x1 : Int32) (x2_1 : Int32) (x2_2 : Int32) (h_3 : Hp) (x3_5 : Int32) (x3_6 : Int32) (h_7 : Hp) (x4_9 : Int32) : ∀ n x4_10 h_11, wG X 6 (fun (t_12 : Hp) Q => gQ X 6 Q N t_12 (rq q) 0 0 92 [(0, .ref (xB X + 47)), (1, .int x1), (2, .int x2_2), (3, .int x3_6)] []) (L_X8_workOut_L_29 x1 x2_2 x3_6 n x4_10 h_11) N h_11 (rq q) 0 0 29 [(0, .ref (xB X + 47)), (1, .int x1), (2, .int x2_2), (3, .int x3_6), (4, .int x4_10)] [] := by
  intro n
  induction n with
  | zero => intro _ _; exact wG_none
  | succ n ih =>
    intro x4_10 h_11
    refine wG_of (L_X8_workOut_L_29.eq_2 ..) ?_
    refine wG_iload C dX8_workOut_29 4 rfl ?_
    refine wG_aload_n C dX8_workOut_31 0 rfl ?_
    refine wG_getR C fl_X8_9_5 rfl kd_47 (wll hN (by decide)) (rf_47_0 q) dX8_workOut_32 ?_
    refine wG_getI C fl_X8_29_4 rfl kd_3 (wll hN (by decide)) dX8_workOut_35 ?_
    refine wG_iload_n C dX8_workOut_38 2 rfl ?_
    refine wG_isub C dX8_workOut_39 ?_
    refine wG_icmp_gt C dX8_workOut_40 ?_ ?_
    · exact wG_exit (fun Q e => gQ_lv [0, 1, 2, 3] rfl e)
    · refine wG_iconst C dX8_workOut_43 (v := 0) (by decide) ?_
      refine wG_nmI (fun x5_13 => ?_)
      refine wG_istore C (L' := [(0, .ref (xB X + 47)), (1, .int x1), (2, .int x2_2), (3, .int x3_6), (4, .int x4_10), (5, .int x5_13)]) dX8_workOut_44 (by decide) [1, 2, 3, 4, 5, 0] rfl ?_
      refine wG_lv (L' := [(0, .ref (xB X + 47)), (1, .int x1), (2, .int x2_2), (3, .int x3_6), (4, .int x4_10), (5, .int x5_13)]) [0, 1, 2, 3, 4, 5] rfl ?_
      refine wG_bind (wL_X8_workOut_L_46 C hN h x1 x2_1 x2_2 h_3 x3_5 x3_6 h_7 x4_9 x4_10 h_11 x5_13 FU x5_13 h_11) (fun t_16 => (?_ : wG X 6 _ _ N t_16 (rq q) 0 0 86 [(0, .ref (xB X + 47)), (1, .int x1), (2, .int x2_2), (3, .int x3_6), (4, .int x4_10)] []))
      refine wG_iinc C (v := 1) (LL := fun x4_19 => [(0, .ref (xB X + 47)), (1, .int x1), (2, .int x2_2), (3, .int x3_6), (4, .int x4_19)]) dX8_workOut_86 4 rfl (by decide) (by decide) [1, 2, 3, 4, 0] (fun _ => rfl) (fun x4_19 => ?_)
      refine wG_goto C dX8_workOut_89 ?_
      exact wG_lv [0, 1, 2, 3, 4] rfl (ih x4_19 t_16)
set_option maxRecDepth 4000 in
theorem wL_X8_workOut_L_15 {X : wX} (C : Cx X yX8_workOut cX8_workOut 6 none rm_X8_workOut_L) {N : Nat} {q : Qp} (hN : 137 ≤ N) (h : Hp) (x1 : Int32) (x2_1 : Int32) (x2_2 : Int32) (h_3 : Hp) (x3_5 : Int32) : ∀ n x3_6 h_7, wG X 6 (fun (t_8 : Hp) Q => gQ X 6 Q N t_8 (rq q) 0 0 98 [(0, .ref (xB X + 47)), (1, .int x1), (2, .int x2_2)] []) (L_X8_workOut_L_15 x1 x2_2 n x3_6 h_7) N h_7 (rq q) 0 0 15 [(0, .ref (xB X + 47)), (1, .int x1), (2, .int x2_2), (3, .int x3_6)] [] := by
  intro n
  induction n with
  | zero => intro _ _; exact wG_none
  | succ n ih =>
    intro x3_6 h_7
    refine wG_of (L_X8_workOut_L_15.eq_2 ..) ?_
    refine wG_iload_n C dX8_workOut_15 3 rfl ?_
    refine wG_aload_n C dX8_workOut_16 0 rfl ?_
    refine wG_getR C fl_X8_9_5 rfl kd_47 (wll hN (by decide)) (rf_47_0 q) dX8_workOut_17 ?_
    refine wG_getI C fl_X8_34_4 rfl kd_3 (wll hN (by decide)) dX8_workOut_20 ?_
    refine wG_icmp_gt C dX8_workOut_23 ?_ ?_
    · exact wG_exit (fun Q e => gQ_lv [0, 1, 2] rfl e)
    · refine wG_iconst C dX8_workOut_26 (v := 0) (by decide) ?_
      refine wG_nmI (fun x4_9 => ?_)
      refine wG_istore C (L' := [(0, .ref (xB X + 47)), (1, .int x1), (2, .int x2_2), (3, .int x3_6), (4, .int x4_9)]) dX8_workOut_27 (by decide) [1, 2, 3, 4, 0] rfl ?_
      refine wG_lv (L' := [(0, .ref (xB X + 47)), (1, .int x1), (2, .int x2_2), (3, .int x3_6), (4, .int x4_9)]) [0, 1, 2, 3, 4] rfl ?_
      refine wG_bind (wL_X8_workOut_L_29 C hN h x1 x2_1 x2_2 h_3 x3_5 x3_6 h_7 x4_9 FU x4_9 h_7) (fun t_12 => (?_ : wG X 6 _ _ N t_12 (rq q) 0 0 92 [(0, .ref (xB X + 47)), (1, .int x1), (2, .int x2_2), (3, .int x3_6)] []))
      refine wG_iinc C (v := 1) (LL := fun x3_20 => [(0, .ref (xB X + 47)), (1, .int x1), (2, .int x2_2), (3, .int x3_20)]) dX8_workOut_92 3 rfl (by decide) (by decide) [1, 2, 3, 0] (fun _ => rfl) (fun x3_20 => ?_)
      refine wG_goto C dX8_workOut_95 ?_
      exact wG_lv [0, 1, 2, 3] rfl (ih x3_20 t_12)
set_option maxRecDepth 4000 in
theorem wL_X8_workOut_L_2 {X : wX} (C : Cx X yX8_workOut cX8_workOut 6 none rm_X8_workOut_L) {N : Nat} {q : Qp} (hN : 137 ≤ N) (h : Hp) (x1 : Int32) (x2_1 : Int32) : ∀ n x2_2 h_3, wG X 6 (fun (t_4 : Hp) Q => gQ X 6 Q N t_4 (rq q) 0 0 104 [] []) (L_X8_workOut_L_2 x1 n x2_2 h_3) N h_3 (rq q) 0 0 2 [(0, .ref (xB X + 47)), (1, .int x1), (2, .int x2_2)] [] := by
  intro n
  induction n with
  | zero => intro _ _; exact wG_none
  | succ n ih =>
    intro x2_2 h_3
    refine wG_of (L_X8_workOut_L_2.eq_2 ..) ?_
    refine wG_iload_n C dX8_workOut_2 2 rfl ?_
    refine wG_aload_n C dX8_workOut_3 0 rfl ?_
    refine wG_getR C fl_X8_9_5 rfl kd_47 (wll hN (by decide)) (rf_47_0 q) dX8_workOut_4 ?_
    refine wG_getI C fl_X8_29_4 rfl kd_3 (wll hN (by decide)) dX8_workOut_7 ?_
    refine wG_icmp_gt C dX8_workOut_10 ?_ ?_
    · exact wG_exit (fun Q e => gQ_lv [] rfl e)
    · refine wG_iconst C dX8_workOut_13 (v := 1) (by decide) ?_
      refine wG_nmI (fun x3_5 => ?_)
      refine wG_istore_n C (L' := [(0, .ref (xB X + 47)), (1, .int x1), (2, .int x2_2), (3, .int x3_5)]) dX8_workOut_14 (by decide) [1, 2, 3, 0] rfl ?_
      refine wG_lv (L' := [(0, .ref (xB X + 47)), (1, .int x1), (2, .int x2_2), (3, .int x3_5)]) [0, 1, 2, 3] rfl ?_
      refine wG_bind (wL_X8_workOut_L_15 C hN h x1 x2_1 x2_2 h_3 x3_5 FU x3_5 h_3) (fun t_8 => (?_ : wG X 6 _ _ N t_8 (rq q) 0 0 98 [(0, .ref (xB X + 47)), (1, .int x1), (2, .int x2_2)] []))
      refine wG_iinc C (v := 1) (LL := fun x2_21 => [(0, .ref (xB X + 47)), (1, .int x1), (2, .int x2_21)]) dX8_workOut_98 2 rfl (by decide) (by decide) [1, 2, 0] (fun _ => rfl) (fun x2_21 => ?_)
      refine wG_goto C dX8_workOut_101 ?_
      exact wG_lv [0, 1, 2] rfl (ih x2_21 t_8)
set_option maxRecDepth 4000 in
theorem w_X8_workOut_L {X : wX} (C : Cx X yX8_workOut cX8_workOut 6 none rm_X8_workOut_L) {N : Nat} {q : Qp} (hN : 137 ≤ N) (h : Hp) (x1 : Int32) : wG X 6 (eM X (fun u => (none, N, u, (rq q)))) (f_X8_workOut_L h x1) N h (rq q) 0 0 0 [(0, .ref (xB X + 47)), (1, .int x1)] [] := by
  refine wG_of (f_X8_workOut_L.eq_1 ..) ?_
  refine wG_iconst C dX8_workOut_0 (v := 1) (by decide) ?_
  refine wG_nmI (fun x2_1 => ?_)
  refine wG_istore_n C (L' := [(0, .ref (xB X + 47)), (1, .int x1), (2, .int x2_1)]) dX8_workOut_1 (by decide) [1, 2, 0] rfl ?_
  refine wG_lv (L' := [(0, .ref (xB X + 47)), (1, .int x1), (2, .int x2_1)]) [0, 1, 2] rfl ?_
  refine wG_bind (wL_X8_workOut_L_2 C hN h x1 x2_1 FU x2_1 h) (fun t_4 => (?_ : wG X 6 _ _ N t_4 (rq q) 0 0 104 [] []))
  exact wG_vret C dX8_workOut_104 ⟨by decide, by decide⟩ (fun _ e => e)
theorem c_X8_workOut_L (l : Launch) (E : wE) (N : Nat) (q : Qp) (hN : 137 ≤ N) (h : Hp) (x1 : Int32) : ∀ z, f_X8_workOut_L h x1 = some z → CT l E yX8_workOut cX8_workOut 6 none rm_X8_workOut_L [.ref (eB E + 47), .int x1] N h (rq q) ((fun u => (none, N, u, (rq q))) z) := CT.of (by decide +kernel) (Nat.le_of_ble_eq_true rfl) (fun X _ e C => by subst e; exact w_X8_workOut_L C hN h x1)
def rm_X8_costOfAll_L : Room := { frames := 1, cells := 0, slots := 0, locals := 26 }
def f_X8_costOfAll_L (h : Hp) (x1 : Int32) : Option Int32 :=
  (f_X8_spotOf_L h 0 0 (h 3 3) (h 3 4)).bind fun u_1 =>
  if inB (u_1 + x1) 441 then
  some (h 48 (ix (u_1 + x1))) else none
set_option maxRecDepth 4000 in
theorem w_X8_costOfAll_L {X : wX} (C : Cx X yX8_costOfAll cX8_costOfAll 2 (some .int) rm_X8_costOfAll_L) {N : Nat} {q : Qp} (hN : 137 ≤ N) (h : Hp) (x1 : Int32) : wG X 2 (eM X (fun u => (some (.int u), N, h, (rq q)))) (f_X8_costOfAll_L h x1) N h (rq q) 0 0 0 [(0, .ref (xB X + 47)), (1, .int x1)] [] := by
  refine wG_of (f_X8_costOfAll_L.eq_1 ..) ?_
  refine wG_aload_n C dX8_costOfAll_0 0 rfl ?_
  refine wG_getR C fl_X8_25_5 rfl kd_47 (wll hN (by decide)) (rf_47_2 q) dX8_costOfAll_1 ?_
  refine wG_aload_n C dX8_costOfAll_4 0 rfl ?_
  refine wG_iconst C dX8_costOfAll_5 (v := 0) (by decide) ?_
  refine wG_iconst C dX8_costOfAll_6 (v := 0) (by decide) ?_
  refine wG_aload_n C dX8_costOfAll_7 0 rfl ?_
  refine wG_getR C fl_X8_9_5 rfl kd_47 (wll hN (by decide)) (rf_47_0 q) dX8_costOfAll_8 ?_
  refine wG_getI C fl_X8_29_4 rfl kd_3 (wll hN (by decide)) dX8_costOfAll_11 ?_
  refine wG_aload_n C dX8_costOfAll_14 0 rfl ?_
  refine wG_getR C fl_X8_9_5 rfl kd_47 (wll hN (by decide)) (rf_47_0 q) dX8_costOfAll_15 ?_
  refine wG_getI C fl_X8_34_4 rfl kd_3 (wll hN (by decide)) dX8_costOfAll_18 ?_
  refine wG_cU_ri [.int 0, .int 0, .int (h 3 3), .int (h 3 4)] [.ref (xB X + 48)] C uw_X8_44_5 (c_X8_spotOf_L (xl X) (xE X) N q hN h 0 0 (h 3 3) (h 3 4)) kd_47 (wll hN (by decide)) (by decide) rfl rfl (Nat.le_of_ble_eq_true rfl) dX8_costOfAll_21 (cl' := 0) (sl' := 0) rfl rfl (fun u_1 => ?_)
  refine wG_iload_n C dX8_costOfAll_24 1 rfl ?_
  refine wG_iadd C dX8_costOfAll_25 ?_
  refine wG_iald C kd_48 (wll hN (by decide)) ln_48 dX8_costOfAll_26 ?_
  exact wG_iret C dX8_costOfAll_27 ⟨by decide, by decide⟩ (fun _ e => e)
theorem c_X8_costOfAll_L (l : Launch) (E : wE) (N : Nat) (q : Qp) (hN : 137 ≤ N) (h : Hp) (x1 : Int32) : ∀ z, f_X8_costOfAll_L h x1 = some z → CT l E yX8_costOfAll cX8_costOfAll 2 (some .int) rm_X8_costOfAll_L [.ref (eB E + 47), .int x1] N h (rq q) ((fun u => (some (.int u), N, h, (rq q))) z) := CT.of (by decide +kernel) (Nat.le_of_ble_eq_true rfl) (fun X _ e C => by subst e; exact w_X8_costOfAll_L C hN h x1)
def rm_X5_fewest : Room := { frames := 5, cells := 0, slots := 0, locals := 135 }
def f_X5_fewest (h : Hp) : Option (Int32 × Hp) :=
  ((if (h 47 8) = 0 then
  (f_X8_workOut_L h 0).bind fun u_2 =>
  vB (u2 u_2 47 8 1) fun h_3 =>
  some h_3
  else
  some h)).bind fun t_1 =>
  (f_X8_costOfAll_L t_1 0).bind fun u_4 =>
  some (u_4, t_1)
set_option maxRecDepth 4000 in
theorem w_X5_fewest {X : wX} (C : Cx X yX5_fewest cX5_fewest 1 (some .int) rm_X5_fewest) {N : Nat} {q : Qp} (hN : 137 ≤ N) (h : Hp) : wG X 1 (eM X (fun u => (some (.int u.1), N, u.2, (rq q)))) (f_X5_fewest h) N h (rq q) 0 0 0 [(0, .ref (xB X + 47))] [] := by
  refine wG_of (f_X5_fewest.eq_1 ..) ?_
  refine wG_aload_n C dX5_fewest_0 0 rfl ?_
  refine wG_getI C fl_X5_28_5 rfl kd_47 (wll hN (by decide)) dX5_fewest_1 ?_
  refine wG_bind (J := (fun (t_1 : Hp) Q => gQ X 1 Q N t_1 (rq q) 0 0 17 [(0, .ref (xB X + 47))] [])) ?_ (fun t_1 => (?_ : wG X 1 _ _ N t_1 (rq q) 0 0 17 [(0, .ref (xB X + 47))] []))
  · refine wG_if_ne C dX5_fewest_4 ?_ ?_
    · refine wG_aload_n C dX5_fewest_7 0 rfl ?_
      refine wG_iconst C dX5_fewest_8 (v := 0) (by decide) ?_
      refine wG_cU_wv [.int 0] [] C uw_X5_36_5 (c_X8_workOut_L (xl X) (xE X) N q hN h 0) kd_47 (wll hN (by decide)) (by decide) rfl rfl (Nat.le_of_ble_eq_true rfl) dX5_fewest_9 (cl' := 0) (sl' := 0) rfl rfl (fun u_2 => ?_)
      refine wG_aload_n C dX5_fewest_12 0 rfl ?_
      refine wG_iconst C dX5_fewest_13 (v := 1) (by decide) ?_
      refine wG_putZ C fl_X5_28_5 (fp_5_8 _) (fun e => Bool.noConfusion e) rfl kd_47 (wll hN (by decide)) rfl rfl dX5_fewest_14 (fun h_3 => ?_)
      exact wG_exit (fun Q e => gQ_lv [0] rfl e)
    · exact wG_exit (fun Q e => gQ_lv [0] rfl e)
  · refine wG_aload_n C dX5_fewest_17 0 rfl ?_
    refine wG_iconst C dX5_fewest_18 (v := 0) (by decide) ?_
    refine wG_cU_ri [.int 0] [] C uw_X5_40_5 (c_X8_costOfAll_L (xl X) (xE X) N q hN t_1 0) kd_47 (wll hN (by decide)) (by decide) rfl rfl (Nat.le_of_ble_eq_true rfl) dX5_fewest_19 (cl' := 0) (sl' := 0) rfl rfl (fun u_4 => ?_)
    exact wG_iret C dX5_fewest_22 ⟨by decide, by decide⟩ (fun _ e => e)
theorem c_X5_fewest (l : Launch) (E : wE) (N : Nat) (q : Qp) (hN : 137 ≤ N) (h : Hp) : ∀ z, f_X5_fewest h = some z → CT l E yX5_fewest cX5_fewest 1 (some .int) rm_X5_fewest [.ref (eB E + 47)] N h (rq q) ((fun u => (some (.int u.1), N, u.2, (rq q))) z) := CT.of (by decide +kernel) (Nat.le_of_ble_eq_true rfl) (fun X _ e C => by subst e; exact w_X5_fewest C hN h)
def rm_X11_read : Room := { frames := 6, cells := 0, slots := 0, locals := 155 }
def f_X11_read (h : Hp) : Option (Int32 × Hp) :=
  (f_X5_fewest h).bind fun u_1 =>
  vB u_1.1 fun (x1_2 : Int32) =>
  (if (1000000 : Int32) ≤ x1_2 then
  some ((-9), u_1.2)
  else
  some (x1_2, u_1.2))
set_option maxRecDepth 4000 in
theorem w_X11_read {X : wX} (C : Cx X yX11_read cX11_read 2 (some .int) rm_X11_read) {N : Nat} {q : Qp} (hN : 137 ≤ N) (h : Hp) : wG X 2 (eM X (fun u => (some (.int u.1), N, u.2, (rq q)))) (f_X11_read h) N h (rq q) 0 0 0 [(0, .ref (xB X + 0))] [] := by
  refine wG_of (f_X11_read.eq_1 ..) ?_
  refine wG_aload_n C dX11_read_0 0 rfl ?_
  refine wG_getR C fl_X11_62_11 rfl kd_0 (wll hN (by decide)) (rf_0_7 q) dX11_read_1 ?_
  refine wG_cV_wi [] [] C vw_X11_242 (c_X5_fewest (xl X) (xE X) N q hN h) kd_47 (wll hN (by decide)) (by decide) rfl rfl (Nat.le_of_ble_eq_true rfl) dX11_read_4 (cl' := 0) (sl' := 0) rfl rfl (fun u_1 => ?_)
  refine wG_nmI (fun x1_2 => ?_)
  refine wG_istore_n C (L' := [(1, .int x1_2)]) dX11_read_7 (by decide) [0] rfl ?_
  refine wG_iload_n C dX11_read_8 0 rfl ?_
  refine wG_ldc C dX11_read_9 m_688 ?_
  refine wG_icmp_ge C dX11_read_11 ?_ ?_
  · refine wG_bipush C dX11_read_18 (v := (-9)) (by decide) ?_
    exact wG_iret C dX11_read_20 ⟨by decide, by decide⟩ (fun _ e => e)
  · refine wG_iload_n C dX11_read_14 0 rfl ?_
    refine wG_goto C dX11_read_15 ?_
    exact wG_iret C dX11_read_20 ⟨by decide, by decide⟩ (fun _ e => e)
theorem c_X11_read (l : Launch) (E : wE) (N : Nat) (q : Qp) (hN : 137 ≤ N) (h : Hp) : ∀ z, f_X11_read h = some z → CT l E yX11_read cX11_read 2 (some .int) rm_X11_read [.ref (eB E + 0)] N h (rq q) ((fun u => (some (.int u.1), N, u.2, (rq q))) z) := CT.of (by decide +kernel) (Nat.le_of_ble_eq_true rfl) (fun X _ e C => by subst e; exact w_X11_read C hN h)
def rm_X11_unleft : Room := { frames := 1, cells := 0, slots := 0, locals := 20 }
def f_X11_unleft (h : Hp) : Option (Int32 × Hp) :=
  vB (h 47 7) fun (x1_1 : Int32) =>
  (f_X5_empty h).bind fun u_2 =>
  some (x1_1, u_2)
set_option maxRecDepth 4000 in
theorem w_X11_unleft {X : wX} (C : Cx X yX11_unleft cX11_unleft 2 (some .int) rm_X11_unleft) {N : Nat} {q : Qp} (hN : 137 ≤ N) (h : Hp) : wG X 2 (eM X (fun u => (some (.int u.1), N, u.2, (rq q)))) (f_X11_unleft h) N h (rq q) 0 0 0 [(0, .ref (xB X + 0))] [] := by
  refine wG_of (f_X11_unleft.eq_1 ..) ?_
  refine wG_aload_n C dX11_unleft_0 0 rfl ?_
  refine wG_getR C fl_X11_62_11 rfl kd_0 (wll hN (by decide)) (rf_0_7 q) dX11_unleft_1 ?_
  refine wG_getI C fl_X11_238_5 rfl kd_47 (wll hN (by decide)) dX11_unleft_4 ?_
  refine wG_nmI (fun x1_1 => ?_)
  refine wG_istore_n C (L' := [(0, .ref (xB X + 0)), (1, .int x1_1)]) dX11_unleft_7 (by decide) [1, 0] rfl ?_
  refine wG_aload_n C dX11_unleft_8 0 rfl ?_
  refine wG_getR C fl_X11_62_11 rfl kd_0 (wll hN (by decide)) (rf_0_7 q) dX11_unleft_9 ?_
  refine wG_cV_wv [] [] C vw_X11_102 (c_X5_empty (xl X) (xE X) N q hN h) kd_47 (wll hN (by decide)) (by decide) rfl rfl (Nat.le_of_ble_eq_true rfl) dX11_unleft_12 (cl' := 0) (sl' := 0) rfl rfl (fun u_2 => ?_)
  refine wG_iload_n C dX11_unleft_15 1 rfl ?_
  exact wG_iret C dX11_unleft_16 ⟨by decide, by decide⟩ (fun _ e => e)
theorem c_X11_unleft (l : Launch) (E : wE) (N : Nat) (q : Qp) (hN : 137 ≤ N) (h : Hp) : ∀ z, f_X11_unleft h = some z → CT l E yX11_unleft cX11_unleft 2 (some .int) rm_X11_unleft [.ref (eB E + 0)] N h (rq q) ((fun u => (some (.int u.1), N, u.2, (rq q))) z) := CT.of (by decide +kernel) (Nat.le_of_ble_eq_true rfl) (fun X _ e C => by subst e; exact w_X11_unleft C hN h)
def rm_X11_ripens : Room := { frames := 0, cells := 0, slots := 0, locals := 0 }
def f_X11_ripens (h : Hp) (x1 : Int32) (x2 : Int32) : Option (Int32 × Hp) :=
  (if x1 < 0 then
  some ((-2), h)
  else
  (if (30 : Int32) < x1 then
  some ((-2), h)
  else
  (if x2 < 1 then
  some ((-2), h)
  else
  (if x2 ≤ 30 then
  vB ((100 * (h 3 5)) + (h 3 6)) fun (x3_1 : Int32) =>
  vB (u2 h 3 5 x1) fun h_2 =>
  vB (u2 h_2 3 6 x2) fun h_3 =>
  some (x3_1, h_3)
  else
  some ((-2), h)))))
set_option maxRecDepth 4000 in
theorem w_X11_ripens {X : wX} (C : Cx X yX11_ripens cX11_ripens 4 (some .int) rm_X11_ripens) {N : Nat} {q : Qp} (hN : 137 ≤ N) (h : Hp) (x1 : Int32) (x2 : Int32) : wG X 4 (eM X (fun u => (some (.int u.1), N, u.2, (rq q)))) (f_X11_ripens h x1 x2) N h (rq q) 0 0 0 [(0, .ref (xB X + 0)), (1, .int x1), (2, .int x2)] [] := by
  refine wG_of (f_X11_ripens.eq_1 ..) ?_
  refine wG_iload_n C dX11_ripens_0 1 rfl ?_
  refine wG_if_lt C dX11_ripens_1 ?_ ?_
  · refine wG_bipush C dX11_ripens_21 (v := (-2)) (by decide) ?_
    exact wG_iret C dX11_ripens_23 ⟨by decide, by decide⟩ (fun _ e => e)
  · refine wG_iload_n C dX11_ripens_4 1 rfl ?_
    refine wG_bipush C dX11_ripens_5 (v := 30) (by decide) ?_
    refine wG_icmp_gt C dX11_ripens_7 ?_ ?_
    · refine wG_bipush C dX11_ripens_21 (v := (-2)) (by decide) ?_
      exact wG_iret C dX11_ripens_23 ⟨by decide, by decide⟩ (fun _ e => e)
    · refine wG_iload_n C dX11_ripens_10 2 rfl ?_
      refine wG_iconst C dX11_ripens_11 (v := 1) (by decide) ?_
      refine wG_icmp_lt C dX11_ripens_12 ?_ ?_
      · refine wG_bipush C dX11_ripens_21 (v := (-2)) (by decide) ?_
        exact wG_iret C dX11_ripens_23 ⟨by decide, by decide⟩ (fun _ e => e)
      · refine wG_iload_n C dX11_ripens_15 2 rfl ?_
        refine wG_bipush C dX11_ripens_16 (v := 30) (by decide) ?_
        refine wG_icmp_le C dX11_ripens_18 ?_ ?_
        · refine wG_bipush C dX11_ripens_24 (v := 100) (by decide) ?_
          refine wG_aload_n C dX11_ripens_26 0 rfl ?_
          refine wG_getR C fl_X11_19_11 rfl kd_0 (wll hN (by decide)) (rf_0_1 q) dX11_ripens_27 ?_
          refine wG_getI C fl_X11_245_4 rfl kd_3 (wll hN (by decide)) dX11_ripens_30 ?_
          refine wG_imul C dX11_ripens_33 ?_
          refine wG_aload_n C dX11_ripens_34 0 rfl ?_
          refine wG_getR C fl_X11_19_11 rfl kd_0 (wll hN (by decide)) (rf_0_1 q) dX11_ripens_35 ?_
          refine wG_getI C fl_X11_248_4 rfl kd_3 (wll hN (by decide)) dX11_ripens_38 ?_
          refine wG_iadd C dX11_ripens_41 ?_
          refine wG_nmI (fun x3_1 => ?_)
          refine wG_istore_n C (L' := [(0, .ref (xB X + 0)), (1, .int x1), (2, .int x2), (3, .int x3_1)]) dX11_ripens_42 (by decide) [1, 2, 3, 0] rfl ?_
          refine wG_aload_n C dX11_ripens_43 0 rfl ?_
          refine wG_getR C fl_X11_19_11 rfl kd_0 (wll hN (by decide)) (rf_0_1 q) dX11_ripens_44 ?_
          refine wG_iload_n C dX11_ripens_47 1 rfl ?_
          refine wG_putI C fl_X11_245_4 (fp_4_5 _) (fun e => Bool.noConfusion e) rfl kd_3 (wll hN (by decide)) dX11_ripens_48 (fun h_2 => ?_)
          refine wG_aload_n C dX11_ripens_51 0 rfl ?_
          refine wG_getR C fl_X11_19_11 rfl kd_0 (wll hN (by decide)) (rf_0_1 q) dX11_ripens_52 ?_
          refine wG_iload_n C dX11_ripens_55 2 rfl ?_
          refine wG_putI C fl_X11_248_4 (fp_4_6 _) (fun e => Bool.noConfusion e) rfl kd_3 (wll hN (by decide)) dX11_ripens_56 (fun h_3 => ?_)
          refine wG_iload_n C dX11_ripens_59 3 rfl ?_
          exact wG_iret C dX11_ripens_60 ⟨by decide, by decide⟩ (fun _ e => e)
        · refine wG_bipush C dX11_ripens_21 (v := (-2)) (by decide) ?_
          exact wG_iret C dX11_ripens_23 ⟨by decide, by decide⟩ (fun _ e => e)
theorem c_X11_ripens (l : Launch) (E : wE) (N : Nat) (q : Qp) (hN : 137 ≤ N) (h : Hp) (x1 : Int32) (x2 : Int32) : ∀ z, f_X11_ripens h x1 x2 = some z → CT l E yX11_ripens cX11_ripens 4 (some .int) rm_X11_ripens [.ref (eB E + 0), .int x1, .int x2] N h (rq q) ((fun u => (some (.int u.1), N, u.2, (rq q))) z) := CT.of (by decide +kernel) (Nat.le_of_ble_eq_true rfl) (fun X _ e C => by subst e; exact w_X11_ripens C hN h x1 x2)
def rm_X4_isRipe : Room := { frames := 1, cells := 0, slots := 0, locals := 23 }
def f_X4_isRipe (h : Hp) (x1 : Int32) (x2 : Int32) (x3 : Int32) : Option Int32 :=
  vB (if (if (((h 3 4) - 1) - x2) < x2 then (((h 3 4) - 1) - x2) else x2) < (if (((h 3 3) - 1) - x1) < x1 then (((h 3 3) - 1) - x1) else x1) then (if (((h 3 4) - 1) - x2) < x2 then (((h 3 4) - 1) - x2) else x2) else (if (((h 3 3) - 1) - x1) < x1 then (((h 3 3) - 1) - x1) else x1)) fun (x4_1 : Int32) =>
  vB ((h 3 5) + (2 * x4_1)) fun (x5_2 : Int32) =>
  (f_X4_kindAt h x1 x2).bind fun u_3 =>
  (if u_3 = 0 then
  (if x3 < x5_2 then
  some 0
  else
  (if (x5_2 + (h 3 6)) ≤ x3 then
  some 0
  else
  some 1))
  else
  some 0)
set_option maxRecDepth 4000 in
theorem w_X4_isRipe {X : wX} (C : Cx X yX4_isRipe cX4_isRipe 6 (some .boolean) rm_X4_isRipe) {N : Nat} {q : Qp} (hN : 137 ≤ N) (h : Hp) (x1 : Int32) (x2 : Int32) (x3 : Int32) : wG X 6 (eM X (fun u => (some (.int u), N, h, (rq q)))) (f_X4_isRipe h x1 x2 x3) N h (rq q) 0 0 0 [(0, .ref (xB X + 3)), (1, .int x1), (2, .int x2), (3, .int x3)] [] := by
  refine wG_of (f_X4_isRipe.eq_1 ..) ?_
  refine wG_iload_n C dX4_isRipe_0 1 rfl ?_
  refine wG_aload_n C dX4_isRipe_1 0 rfl ?_
  refine wG_getI C fl_X4_21_4 rfl kd_3 (wll hN (by decide)) dX4_isRipe_2 ?_
  refine wG_iconst C dX4_isRipe_5 (v := 1) (by decide) ?_
  refine wG_isub C dX4_isRipe_6 ?_
  refine wG_iload_n C dX4_isRipe_7 1 rfl ?_
  refine wG_isub C dX4_isRipe_8 ?_
  refine wG_mmin C mw_X4_64 ⟨by decide, Nat.le_of_ble_eq_true rfl, by decide, by decide⟩ dX4_isRipe_9 ?_
  refine wG_iload_n C dX4_isRipe_12 2 rfl ?_
  refine wG_aload_n C dX4_isRipe_13 0 rfl ?_
  refine wG_getI C fl_X4_25_4 rfl kd_3 (wll hN (by decide)) dX4_isRipe_14 ?_
  refine wG_iconst C dX4_isRipe_17 (v := 1) (by decide) ?_
  refine wG_isub C dX4_isRipe_18 ?_
  refine wG_iload_n C dX4_isRipe_19 2 rfl ?_
  refine wG_isub C dX4_isRipe_20 ?_
  refine wG_mmin C mw_X4_64 ⟨by decide, Nat.le_of_ble_eq_true rfl, by decide, by decide⟩ dX4_isRipe_21 ?_
  refine wG_mmin C mw_X4_64 ⟨by decide, Nat.le_of_ble_eq_true rfl, by decide, by decide⟩ dX4_isRipe_24 ?_
  refine wG_nmI (fun x4_1 => ?_)
  refine wG_istore C (L' := [(0, .ref (xB X + 3)), (1, .int x1), (2, .int x2), (3, .int x3), (4, .int x4_1)]) dX4_isRipe_27 (by decide) [1, 2, 3, 4, 0] rfl ?_
  refine wG_aload_n C dX4_isRipe_29 0 rfl ?_
  refine wG_getI C fl_X4_28_4 rfl kd_3 (wll hN (by decide)) dX4_isRipe_30 ?_
  refine wG_iconst C dX4_isRipe_33 (v := 2) (by decide) ?_
  refine wG_iload C dX4_isRipe_34 4 rfl ?_
  refine wG_imul C dX4_isRipe_36 ?_
  refine wG_iadd C dX4_isRipe_37 ?_
  refine wG_nmI (fun x5_2 => ?_)
  refine wG_istore C (L' := [(0, .ref (xB X + 3)), (1, .int x1), (2, .int x2), (3, .int x3), (5, .int x5_2)]) dX4_isRipe_38 (by decide) [1, 2, 3, 4, 0] rfl ?_
  refine wG_aload_n C dX4_isRipe_40 0 rfl ?_
  refine wG_iload_n C dX4_isRipe_41 1 rfl ?_
  refine wG_iload_n C dX4_isRipe_42 2 rfl ?_
  refine wG_cV_ri [.int x1, .int x2] [] C vw_X4_49 (c_X4_kindAt (xl X) (xE X) N (rq q) (Nat.le_trans (by decide) hN) ⟨rf_3_0 q, rf_3_1 q, rf_3_2 q⟩ h x1 x2) kd_3 (wll hN (by decide)) (by decide) rfl rfl (Nat.le_of_ble_eq_true rfl) dX4_isRipe_43 (cl' := 0) (sl' := 0) rfl rfl (fun u_3 => ?_)
  refine wG_if_ne C dX4_isRipe_46 ?_ ?_
  · refine wG_iload_n C dX4_isRipe_49 3 rfl ?_
    refine wG_iload C dX4_isRipe_50 4 rfl ?_
    refine wG_icmp_lt C dX4_isRipe_52 ?_ ?_
    · refine wG_iconst C dX4_isRipe_70 (v := 0) (by decide) ?_
      exact wG_zret C dX4_isRipe_71 rfl ⟨by decide, by decide⟩ (fun _ e => e)
    · refine wG_iload_n C dX4_isRipe_55 3 rfl ?_
      refine wG_iload C dX4_isRipe_56 4 rfl ?_
      refine wG_aload_n C dX4_isRipe_58 0 rfl ?_
      refine wG_getI C fl_X4_31_4 rfl kd_3 (wll hN (by decide)) dX4_isRipe_59 ?_
      refine wG_iadd C dX4_isRipe_62 ?_
      refine wG_icmp_ge C dX4_isRipe_63 ?_ ?_
      · refine wG_iconst C dX4_isRipe_70 (v := 0) (by decide) ?_
        exact wG_zret C dX4_isRipe_71 rfl ⟨by decide, by decide⟩ (fun _ e => e)
      · refine wG_iconst C dX4_isRipe_66 (v := 1) (by decide) ?_
        refine wG_goto C dX4_isRipe_67 ?_
        exact wG_zret C dX4_isRipe_71 rfl ⟨by decide, by decide⟩ (fun _ e => e)
  · refine wG_iconst C dX4_isRipe_70 (v := 0) (by decide) ?_
    exact wG_zret C dX4_isRipe_71 rfl ⟨by decide, by decide⟩ (fun _ e => e)
theorem c_X4_isRipe (l : Launch) (E : wE) (N : Nat) (q : Qp) (hN : 137 ≤ N) (h : Hp) (x1 : Int32) (x2 : Int32) (x3 : Int32) : ∀ z, f_X4_isRipe h x1 x2 x3 = some z → CT l E yX4_isRipe cX4_isRipe 6 (some .boolean) rm_X4_isRipe [.ref (eB E + 3), .int x1, .int x2, .int x3] N h (rq q) ((fun u => (some (.int u), N, h, (rq q))) z) := CT.of (by decide +kernel) (Nat.le_of_ble_eq_true rfl) (fun X _ e C => by subst e; exact w_X4_isRipe C hN h x1 x2 x3)
def rm_X7_ripePlaces : Room := { frames := 2, cells := 0, slots := 0, locals := 48 }
def L_X7_ripePlaces_28 (h : Hp) (a0 : Nat) (x2 : Int32) (x4_4 : Int32) : Nat → Int32 → Int32 → Option Int32
  | 0, _, _ => none
  | n + 1, x3_7, x5_8 =>
    (if ((h a0 1) + (h a0 3)) ≤ x5_8 then
    some x3_7
    else
    (f_X4_isRipe h x4_4 x5_8 x2).bind fun u_10 =>
    ((if u_10 = 0 then
    some 0
    else
    some 1)).bind fun t_11 =>
    vB (x3_7 + t_11) fun (x3_12 : Int32) =>
    vB (x5_8 + 1) fun (x5_13 : Int32) =>
    L_X7_ripePlaces_28 h a0 x2 x4_4 n x3_12 x5_13)
def L_X7_ripePlaces_8 (h : Hp) (a0 : Nat) (x2 : Int32) : Nat → Int32 → Int32 → Option Int32
  | 0, _, _ => none
  | n + 1, x3_3, x4_4 =>
    (if ((h a0 0) + (h a0 2)) ≤ x4_4 then
    some x3_3
    else
    vB (h a0 1) fun (x5_6 : Int32) =>
    (L_X7_ripePlaces_28 h a0 x2 x4_4 FU x3_3 x5_6).bind fun t_9 =>
    vB (x4_4 + 1) fun (x4_14 : Int32) =>
    L_X7_ripePlaces_8 h a0 x2 n t_9 x4_14)
def f_X7_ripePlaces (h : Hp) (a0 : Nat) (x2 : Int32) : Option Int32 :=
  vB 0 fun (x3_1 : Int32) =>
  vB (h a0 0) fun (x4_2 : Int32) =>
  (L_X7_ripePlaces_8 h a0 x2 FU x3_1 x4_2).bind fun t_5 =>
  some t_5
set_option maxRecDepth 4000 in
theorem wL_X7_ripePlaces_28 {X : wX} (C : Cx X yX7_ripePlaces cX7_ripePlaces 6 (some .int) rm_X7_ripePlaces) {N : Nat} {q : Qp} (hN : 137 ≤ N) (h : Hp) (a0 : Nat) (hk_a0 : Kd a0 = 7) (x2 : Int32) (x3_1 : Int32) (x4_2 : Int32) (x3_3 : Int32) (x4_4 : Int32) (x5_6 : Int32) : ∀ n x3_7 x5_8, wG X 6 (fun (t_9 : Int32) Q => gQ X 6 Q N h (rq q) 0 0 68 [(0, .ref (xB X + a0)), (1, .ref (xB X + 3)), (2, .int x2), (3, .int t_9), (4, .int x4_4)] []) (L_X7_ripePlaces_28 h a0 x2 x4_4 n x3_7 x5_8) N h (rq q) 0 0 28 [(0, .ref (xB X + a0)), (1, .ref (xB X + 3)), (2, .int x2), (3, .int x3_7), (4, .int x4_4), (5, .int x5_8)] [] := by
  intro n
  induction n with
  | zero => intro _ _; exact wG_none
  | succ n ih =>
    intro x3_7 x5_8
    refine wG_of (L_X7_ripePlaces_28.eq_2 ..) ?_
    refine wG_iload C dX7_ripePlaces_28 5 rfl ?_
    refine wG_aload_n C dX7_ripePlaces_30 0 rfl ?_
    refine wG_getI C fl_X7_15_7 rfl hk_a0 (wlt hN hk_a0 (by decide)) dX7_ripePlaces_31 ?_
    refine wG_aload_n C dX7_ripePlaces_34 0 rfl ?_
    refine wG_getI C fl_X7_27_7 rfl hk_a0 (wlt hN hk_a0 (by decide)) dX7_ripePlaces_35 ?_
    refine wG_iadd C dX7_ripePlaces_38 ?_
    refine wG_icmp_ge C dX7_ripePlaces_39 ?_ ?_
    · exact wG_exit (fun Q e => gQ_lv [0, 1, 2, 3, 4] rfl e)
    · refine wG_iload_n C dX7_ripePlaces_42 3 rfl ?_
      refine wG_aload_n C dX7_ripePlaces_43 1 rfl ?_
      refine wG_iload C dX7_ripePlaces_44 4 rfl ?_
      refine wG_iload C dX7_ripePlaces_46 5 rfl ?_
      refine wG_iload_n C dX7_ripePlaces_48 2 rfl ?_
      refine wG_cV_ri [.int x4_4, .int x5_8, .int x2] [.int x3_7] C vw_X7_110 (c_X4_isRipe (xl X) (xE X) N q hN h x4_4 x5_8 x2) kd_3 (wll hN (by decide)) (by decide) rfl rfl (Nat.le_of_ble_eq_true rfl) dX7_ripePlaces_49 (cl' := 0) (sl' := 0) rfl rfl (fun u_10 => ?_)
      refine wG_bind (J := (fun (t_11 : Int32) Q => gQ X 6 Q N h (rq q) 0 0 60 [(0, .ref (xB X + a0)), (1, .ref (xB X + 3)), (2, .int x2), (4, .int x4_4), (5, .int x5_8)] [.int t_11, .int x3_7])) ?_ (fun t_11 => (?_ : wG X 6 _ _ N h (rq q) 0 0 60 [(0, .ref (xB X + a0)), (1, .ref (xB X + 3)), (2, .int x2), (4, .int x4_4), (5, .int x5_8)] [.int t_11, .int x3_7]))
      · refine wG_if_eq C dX7_ripePlaces_52 ?_ ?_
        · refine wG_iconst C dX7_ripePlaces_59 (v := 0) (by decide) ?_
          exact wG_exit (fun Q e => gQ_lv [0, 1, 2, 4, 5] rfl e)
        · refine wG_iconst C dX7_ripePlaces_55 (v := 1) (by decide) ?_
          refine wG_goto C dX7_ripePlaces_56 ?_
          exact wG_exit (fun Q e => gQ_lv [0, 1, 2, 4, 5] rfl e)
      · refine wG_iadd C dX7_ripePlaces_60 ?_
        refine wG_nmI (fun x3_12 => ?_)
        refine wG_istore_n C (L' := [(0, .ref (xB X + a0)), (1, .ref (xB X + 3)), (2, .int x2), (3, .int x3_12), (4, .int x4_4), (5, .int x5_8)]) dX7_ripePlaces_61 (by decide) [1, 2, 3, 0, 4, 5] rfl ?_
        refine wG_iinc C (v := 1) (LL := fun x5_13 => [(0, .ref (xB X + a0)), (1, .ref (xB X + 3)), (2, .int x2), (3, .int x3_12), (4, .int x4_4), (5, .int x5_13)]) dX7_ripePlaces_62 5 rfl (by decide) (by decide) [1, 2, 3, 4, 5, 0] (fun _ => rfl) (fun x5_13 => ?_)
        refine wG_goto C dX7_ripePlaces_65 ?_
        exact wG_lv [0, 1, 2, 3, 4, 5] rfl (ih x3_12 x5_13)
set_option maxRecDepth 4000 in
theorem wL_X7_ripePlaces_8 {X : wX} (C : Cx X yX7_ripePlaces cX7_ripePlaces 6 (some .int) rm_X7_ripePlaces) {N : Nat} {q : Qp} (hN : 137 ≤ N) (h : Hp) (a0 : Nat) (hk_a0 : Kd a0 = 7) (x2 : Int32) (x3_1 : Int32) (x4_2 : Int32) : ∀ n x3_3 x4_4, wG X 6 (fun (t_5 : Int32) Q => gQ X 6 Q N h (rq q) 0 0 74 [(3, .int t_5)] []) (L_X7_ripePlaces_8 h a0 x2 n x3_3 x4_4) N h (rq q) 0 0 8 [(0, .ref (xB X + a0)), (1, .ref (xB X + 3)), (2, .int x2), (3, .int x3_3), (4, .int x4_4)] [] := by
  intro n
  induction n with
  | zero => intro _ _; exact wG_none
  | succ n ih =>
    intro x3_3 x4_4
    refine wG_of (L_X7_ripePlaces_8.eq_2 ..) ?_
    refine wG_iload C dX7_ripePlaces_8 4 rfl ?_
    refine wG_aload_n C dX7_ripePlaces_10 0 rfl ?_
    refine wG_getI C fl_X7_9_7 rfl hk_a0 (wlt hN hk_a0 (by decide)) dX7_ripePlaces_11 ?_
    refine wG_aload_n C dX7_ripePlaces_14 0 rfl ?_
    refine wG_getI C fl_X7_23_7 rfl hk_a0 (wlt hN hk_a0 (by decide)) dX7_ripePlaces_15 ?_
    refine wG_iadd C dX7_ripePlaces_18 ?_
    refine wG_icmp_ge C dX7_ripePlaces_19 ?_ ?_
    · exact wG_exit (fun Q e => gQ_lv [3] rfl e)
    · refine wG_aload_n C dX7_ripePlaces_22 0 rfl ?_
      refine wG_getI C fl_X7_15_7 rfl hk_a0 (wlt hN hk_a0 (by decide)) dX7_ripePlaces_23 ?_
      refine wG_nmI (fun x5_6 => ?_)
      refine wG_istore C (L' := [(0, .ref (xB X + a0)), (1, .ref (xB X + 3)), (2, .int x2), (3, .int x3_3), (4, .int x4_4), (5, .int x5_6)]) dX7_ripePlaces_26 (by decide) [1, 2, 3, 4, 5, 0] rfl ?_
      refine wG_lv (L' := [(0, .ref (xB X + a0)), (1, .ref (xB X + 3)), (2, .int x2), (3, .int x3_3), (4, .int x4_4), (5, .int x5_6)]) [0, 1, 2, 3, 4, 5] rfl ?_
      refine wG_bind (wL_X7_ripePlaces_28 C hN h a0 hk_a0 x2 x3_1 x4_2 x3_3 x4_4 x5_6 FU x3_3 x5_6) (fun t_9 => (?_ : wG X 6 _ _ N h (rq q) 0 0 68 [(0, .ref (xB X + a0)), (1, .ref (xB X + 3)), (2, .int x2), (3, .int t_9), (4, .int x4_4)] []))
      refine wG_iinc C (v := 1) (LL := fun x4_14 => [(0, .ref (xB X + a0)), (1, .ref (xB X + 3)), (2, .int x2), (3, .int t_9), (4, .int x4_14)]) dX7_ripePlaces_68 4 rfl (by decide) (by decide) [1, 2, 3, 4, 0] (fun _ => rfl) (fun x4_14 => ?_)
      refine wG_goto C dX7_ripePlaces_71 ?_
      exact wG_lv [0, 1, 2, 3, 4] rfl (ih t_9 x4_14)
set_option maxRecDepth 4000 in
theorem w_X7_ripePlaces {X : wX} (C : Cx X yX7_ripePlaces cX7_ripePlaces 6 (some .int) rm_X7_ripePlaces) {N : Nat} {q : Qp} (hN : 137 ≤ N) (h : Hp) (a0 : Nat) (hk_a0 : Kd a0 = 7) (x2 : Int32) : wG X 6 (eM X (fun u => (some (.int u), N, h, (rq q)))) (f_X7_ripePlaces h a0 x2) N h (rq q) 0 0 0 [(0, .ref (xB X + a0)), (1, .ref (xB X + 3)), (2, .int x2)] [] := by
  refine wG_of (f_X7_ripePlaces.eq_1 ..) ?_
  refine wG_iconst C dX7_ripePlaces_0 (v := 0) (by decide) ?_
  refine wG_nmI (fun x3_1 => ?_)
  refine wG_istore_n C (L' := [(0, .ref (xB X + a0)), (1, .ref (xB X + 3)), (2, .int x2), (3, .int x3_1)]) dX7_ripePlaces_1 (by decide) [1, 2, 3, 0] rfl ?_
  refine wG_aload_n C dX7_ripePlaces_2 0 rfl ?_
  refine wG_getI C fl_X7_9_7 rfl hk_a0 (wlt hN hk_a0 (by decide)) dX7_ripePlaces_3 ?_
  refine wG_nmI (fun x4_2 => ?_)
  refine wG_istore C (L' := [(0, .ref (xB X + a0)), (1, .ref (xB X + 3)), (2, .int x2), (3, .int x3_1), (4, .int x4_2)]) dX7_ripePlaces_6 (by decide) [1, 2, 3, 4, 0] rfl ?_
  refine wG_lv (L' := [(0, .ref (xB X + a0)), (1, .ref (xB X + 3)), (2, .int x2), (3, .int x3_1), (4, .int x4_2)]) [0, 1, 2, 3, 4] rfl ?_
  refine wG_bind (wL_X7_ripePlaces_8 C hN h a0 hk_a0 x2 x3_1 x4_2 FU x3_1 x4_2) (fun t_5 => (?_ : wG X 6 _ _ N h (rq q) 0 0 74 [(3, .int t_5)] []))
  refine wG_iload_n C dX7_ripePlaces_74 0 rfl ?_
  exact wG_iret C dX7_ripePlaces_75 ⟨by decide, by decide⟩ (fun _ e => e)
theorem c_X7_ripePlaces (l : Launch) (E : wE) (N : Nat) (q : Qp) (hN : 137 ≤ N) (h : Hp) (a0 : Nat) (x2 : Int32) (hk_a0 : Kd a0 = 7) : ∀ z, f_X7_ripePlaces h a0 x2 = some z → CT l E yX7_ripePlaces cX7_ripePlaces 6 (some .int) rm_X7_ripePlaces [.ref (eB E + a0), .ref (eB E + 3), .int x2] N h (rq q) ((fun u => (some (.int u), N, h, (rq q))) z) := CT.of (by decide +kernel) (Nat.le_of_ble_eq_true rfl) (fun X _ e C => by subst e; exact w_X7_ripePlaces C hN h a0 hk_a0 x2)
def rm_X7_pastePlaces : Room := { frames := 1, cells := 0, slots := 0, locals := 23 }
def L_X7_pastePlaces_26 (h : Hp) (a0 : Nat) (x3_4 : Int32) : Nat → Int32 → Int32 → Option Int32
  | 0, _, _ => none
  | n + 1, x2_7, x4_8 =>
    (if ((h a0 1) + (h a0 3)) ≤ x4_8 then
    some x2_7
    else
    (f_X4_kindAt h x3_4 x4_8).bind fun u_10 =>
    ((if u_10 = 0 then
    some 1
    else
    some 0)).bind fun t_11 =>
    vB (x2_7 + t_11) fun (x2_12 : Int32) =>
    vB (x4_8 + 1) fun (x4_13 : Int32) =>
    L_X7_pastePlaces_26 h a0 x3_4 n x2_12 x4_13)
def L_X7_pastePlaces_7 (h : Hp) (a0 : Nat) : Nat → Int32 → Int32 → Option Int32
  | 0, _, _ => none
  | n + 1, x2_3, x3_4 =>
    (if ((h a0 0) + (h a0 2)) ≤ x3_4 then
    some x2_3
    else
    vB (h a0 1) fun (x4_6 : Int32) =>
    (L_X7_pastePlaces_26 h a0 x3_4 FU x2_3 x4_6).bind fun t_9 =>
    vB (x3_4 + 1) fun (x3_14 : Int32) =>
    L_X7_pastePlaces_7 h a0 n t_9 x3_14)
def f_X7_pastePlaces (h : Hp) (a0 : Nat) : Option Int32 :=
  vB 0 fun (x2_1 : Int32) =>
  vB (h a0 0) fun (x3_2 : Int32) =>
  (L_X7_pastePlaces_7 h a0 FU x2_1 x3_2).bind fun t_5 =>
  some t_5
set_option maxRecDepth 4000 in
theorem wL_X7_pastePlaces_26 {X : wX} (C : Cx X yX7_pastePlaces cX7_pastePlaces 5 (some .int) rm_X7_pastePlaces) {N : Nat} {q : Qp} (hN : 137 ≤ N) (h : Hp) (a0 : Nat) (hk_a0 : Kd a0 = 7) (x2_1 : Int32) (x3_2 : Int32) (x2_3 : Int32) (x3_4 : Int32) (x4_6 : Int32) : ∀ n x2_7 x4_8, wG X 5 (fun (t_9 : Int32) Q => gQ X 5 Q N h (rq q) 0 0 64 [(0, .ref (xB X + a0)), (1, .ref (xB X + 3)), (2, .int t_9), (3, .int x3_4)] []) (L_X7_pastePlaces_26 h a0 x3_4 n x2_7 x4_8) N h (rq q) 0 0 26 [(0, .ref (xB X + a0)), (1, .ref (xB X + 3)), (2, .int x2_7), (3, .int x3_4), (4, .int x4_8)] [] := by
  intro n
  induction n with
  | zero => intro _ _; exact wG_none
  | succ n ih =>
    intro x2_7 x4_8
    refine wG_of (L_X7_pastePlaces_26.eq_2 ..) ?_
    refine wG_iload C dX7_pastePlaces_26 4 rfl ?_
    refine wG_aload_n C dX7_pastePlaces_28 0 rfl ?_
    refine wG_getI C fl_X7_15_7 rfl hk_a0 (wlt hN hk_a0 (by decide)) dX7_pastePlaces_29 ?_
    refine wG_aload_n C dX7_pastePlaces_32 0 rfl ?_
    refine wG_getI C fl_X7_27_7 rfl hk_a0 (wlt hN hk_a0 (by decide)) dX7_pastePlaces_33 ?_
    refine wG_iadd C dX7_pastePlaces_36 ?_
    refine wG_icmp_ge C dX7_pastePlaces_37 ?_ ?_
    · exact wG_exit (fun Q e => gQ_lv [0, 1, 2, 3] rfl e)
    · refine wG_iload_n C dX7_pastePlaces_40 2 rfl ?_
      refine wG_aload_n C dX7_pastePlaces_41 1 rfl ?_
      refine wG_iload_n C dX7_pastePlaces_42 3 rfl ?_
      refine wG_iload C dX7_pastePlaces_43 4 rfl ?_
      refine wG_cV_ri [.int x3_4, .int x4_8] [.int x2_7] C vw_X7_107 (c_X4_kindAt (xl X) (xE X) N (rq q) (Nat.le_trans (by decide) hN) ⟨rf_3_0 q, rf_3_1 q, rf_3_2 q⟩ h x3_4 x4_8) kd_3 (wll hN (by decide)) (by decide) rfl rfl (Nat.le_of_ble_eq_true rfl) dX7_pastePlaces_45 (cl' := 0) (sl' := 0) rfl rfl (fun u_10 => ?_)
      refine wG_bind (J := (fun (t_11 : Int32) Q => gQ X 5 Q N h (rq q) 0 0 56 [(0, .ref (xB X + a0)), (1, .ref (xB X + 3)), (3, .int x3_4), (4, .int x4_8)] [.int t_11, .int x2_7])) ?_ (fun t_11 => (?_ : wG X 5 _ _ N h (rq q) 0 0 56 [(0, .ref (xB X + a0)), (1, .ref (xB X + 3)), (3, .int x3_4), (4, .int x4_8)] [.int t_11, .int x2_7]))
      · refine wG_if_ne C dX7_pastePlaces_48 ?_ ?_
        · refine wG_iconst C dX7_pastePlaces_51 (v := 1) (by decide) ?_
          refine wG_goto C dX7_pastePlaces_52 ?_
          exact wG_exit (fun Q e => gQ_lv [0, 1, 3, 4] rfl e)
        · refine wG_iconst C dX7_pastePlaces_55 (v := 0) (by decide) ?_
          exact wG_exit (fun Q e => gQ_lv [0, 1, 3, 4] rfl e)
      · refine wG_iadd C dX7_pastePlaces_56 ?_
        refine wG_nmI (fun x2_12 => ?_)
        refine wG_istore_n C (L' := [(0, .ref (xB X + a0)), (1, .ref (xB X + 3)), (2, .int x2_12), (3, .int x3_4), (4, .int x4_8)]) dX7_pastePlaces_57 (by decide) [1, 2, 0, 3, 4] rfl ?_
        refine wG_iinc C (v := 1) (LL := fun x4_13 => [(0, .ref (xB X + a0)), (1, .ref (xB X + 3)), (2, .int x2_12), (3, .int x3_4), (4, .int x4_13)]) dX7_pastePlaces_58 4 rfl (by decide) (by decide) [1, 2, 3, 4, 0] (fun _ => rfl) (fun x4_13 => ?_)
        refine wG_goto C dX7_pastePlaces_61 ?_
        exact wG_lv [0, 1, 2, 3, 4] rfl (ih x2_12 x4_13)
set_option maxRecDepth 4000 in
theorem wL_X7_pastePlaces_7 {X : wX} (C : Cx X yX7_pastePlaces cX7_pastePlaces 5 (some .int) rm_X7_pastePlaces) {N : Nat} {q : Qp} (hN : 137 ≤ N) (h : Hp) (a0 : Nat) (hk_a0 : Kd a0 = 7) (x2_1 : Int32) (x3_2 : Int32) : ∀ n x2_3 x3_4, wG X 5 (fun (t_5 : Int32) Q => gQ X 5 Q N h (rq q) 0 0 70 [(2, .int t_5)] []) (L_X7_pastePlaces_7 h a0 n x2_3 x3_4) N h (rq q) 0 0 7 [(0, .ref (xB X + a0)), (1, .ref (xB X + 3)), (2, .int x2_3), (3, .int x3_4)] [] := by
  intro n
  induction n with
  | zero => intro _ _; exact wG_none
  | succ n ih =>
    intro x2_3 x3_4
    refine wG_of (L_X7_pastePlaces_7.eq_2 ..) ?_
    refine wG_iload_n C dX7_pastePlaces_7 3 rfl ?_
    refine wG_aload_n C dX7_pastePlaces_8 0 rfl ?_
    refine wG_getI C fl_X7_9_7 rfl hk_a0 (wlt hN hk_a0 (by decide)) dX7_pastePlaces_9 ?_
    refine wG_aload_n C dX7_pastePlaces_12 0 rfl ?_
    refine wG_getI C fl_X7_23_7 rfl hk_a0 (wlt hN hk_a0 (by decide)) dX7_pastePlaces_13 ?_
    refine wG_iadd C dX7_pastePlaces_16 ?_
    refine wG_icmp_ge C dX7_pastePlaces_17 ?_ ?_
    · exact wG_exit (fun Q e => gQ_lv [2] rfl e)
    · refine wG_aload_n C dX7_pastePlaces_20 0 rfl ?_
      refine wG_getI C fl_X7_15_7 rfl hk_a0 (wlt hN hk_a0 (by decide)) dX7_pastePlaces_21 ?_
      refine wG_nmI (fun x4_6 => ?_)
      refine wG_istore C (L' := [(0, .ref (xB X + a0)), (1, .ref (xB X + 3)), (2, .int x2_3), (3, .int x3_4), (4, .int x4_6)]) dX7_pastePlaces_24 (by decide) [1, 2, 3, 4, 0] rfl ?_
      refine wG_lv (L' := [(0, .ref (xB X + a0)), (1, .ref (xB X + 3)), (2, .int x2_3), (3, .int x3_4), (4, .int x4_6)]) [0, 1, 2, 3, 4] rfl ?_
      refine wG_bind (wL_X7_pastePlaces_26 C hN h a0 hk_a0 x2_1 x3_2 x2_3 x3_4 x4_6 FU x2_3 x4_6) (fun t_9 => (?_ : wG X 5 _ _ N h (rq q) 0 0 64 [(0, .ref (xB X + a0)), (1, .ref (xB X + 3)), (2, .int t_9), (3, .int x3_4)] []))
      refine wG_iinc C (v := 1) (LL := fun x3_14 => [(0, .ref (xB X + a0)), (1, .ref (xB X + 3)), (2, .int t_9), (3, .int x3_14)]) dX7_pastePlaces_64 3 rfl (by decide) (by decide) [1, 2, 3, 0] (fun _ => rfl) (fun x3_14 => ?_)
      refine wG_goto C dX7_pastePlaces_67 ?_
      exact wG_lv [0, 1, 2, 3] rfl (ih t_9 x3_14)
set_option maxRecDepth 4000 in
theorem w_X7_pastePlaces {X : wX} (C : Cx X yX7_pastePlaces cX7_pastePlaces 5 (some .int) rm_X7_pastePlaces) {N : Nat} {q : Qp} (hN : 137 ≤ N) (h : Hp) (a0 : Nat) (hk_a0 : Kd a0 = 7) : wG X 5 (eM X (fun u => (some (.int u), N, h, (rq q)))) (f_X7_pastePlaces h a0) N h (rq q) 0 0 0 [(0, .ref (xB X + a0)), (1, .ref (xB X + 3))] [] := by
  refine wG_of (f_X7_pastePlaces.eq_1 ..) ?_
  refine wG_iconst C dX7_pastePlaces_0 (v := 0) (by decide) ?_
  refine wG_nmI (fun x2_1 => ?_)
  refine wG_istore_n C (L' := [(0, .ref (xB X + a0)), (1, .ref (xB X + 3)), (2, .int x2_1)]) dX7_pastePlaces_1 (by decide) [1, 2, 0] rfl ?_
  refine wG_aload_n C dX7_pastePlaces_2 0 rfl ?_
  refine wG_getI C fl_X7_9_7 rfl hk_a0 (wlt hN hk_a0 (by decide)) dX7_pastePlaces_3 ?_
  refine wG_nmI (fun x3_2 => ?_)
  refine wG_istore_n C (L' := [(0, .ref (xB X + a0)), (1, .ref (xB X + 3)), (2, .int x2_1), (3, .int x3_2)]) dX7_pastePlaces_6 (by decide) [1, 2, 3, 0] rfl ?_
  refine wG_lv (L' := [(0, .ref (xB X + a0)), (1, .ref (xB X + 3)), (2, .int x2_1), (3, .int x3_2)]) [0, 1, 2, 3] rfl ?_
  refine wG_bind (wL_X7_pastePlaces_7 C hN h a0 hk_a0 x2_1 x3_2 FU x2_1 x3_2) (fun t_5 => (?_ : wG X 5 _ _ N h (rq q) 0 0 70 [(2, .int t_5)] []))
  refine wG_iload_n C dX7_pastePlaces_70 0 rfl ?_
  exact wG_iret C dX7_pastePlaces_71 ⟨by decide, by decide⟩ (fun _ e => e)
theorem c_X7_pastePlaces (l : Launch) (E : wE) (N : Nat) (q : Qp) (hN : 137 ≤ N) (h : Hp) (a0 : Nat) (hk_a0 : Kd a0 = 7) : ∀ z, f_X7_pastePlaces h a0 = some z → CT l E yX7_pastePlaces cX7_pastePlaces 5 (some .int) rm_X7_pastePlaces [.ref (eB E + a0), .ref (eB E + 3)] N h (rq q) ((fun u => (some (.int u), N, h, (rq q))) z) := CT.of (by decide +kernel) (Nat.le_of_ble_eq_true rfl) (fun X _ e C => by subst e; exact w_X7_pastePlaces C hN h a0 hk_a0)
