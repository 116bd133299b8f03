def rm_X0_fits : Room := { frames := 0, cells := 0, slots := 0, locals := 0 }
def f_X0_fits (h : Hp) (a0 : Nat) (x1 : Int32) (x2 : Int32) : Option Int32 :=
  (if x1 < (h a0 0) then
  some 0
  else
  (if (h a0 1) < x1 then
  some 0
  else
  (if (h a0 2) < x2 then
  some 0
  else
  some 1)))
set_option maxRecDepth 4000 in
theorem w_X0_fits {X : wX} (C : Cx X yX0_fits cX0_fits 3 (some .boolean) rm_X0_fits) {N : Nat} {q : Qp} (hN : 137 ≤ N) (h : Hp) (a0 : Nat) (hk_a0 : Kd a0 = 0) (hb_a0 : a0 < N) (x1 : Int32) (x2 : Int32) : wG X 3 (eM X (fun u => (some (.int u), N, h, (rq q)))) (f_X0_fits h a0 x1 x2) N h (rq q) 0 0 0 [(0, .ref (xB X + a0)), (1, .int x1), (2, .int x2)] [] := by
  refine wG_of (f_X0_fits.eq_1 ..) ?_
  refine wG_iload_n C dX0_fits_0 1 rfl ?_
  refine wG_aload_n C dX0_fits_1 0 rfl ?_
  refine wG_getI C fl_X0_9_0 rfl hk_a0 hb_a0 dX0_fits_2 ?_
  refine wG_icmp_lt C dX0_fits_5 ?_ ?_
  · refine wG_iconst C dX0_fits_28 (v := 0) (by decide) ?_
    exact wG_zret C dX0_fits_29 rfl ⟨by decide, by decide⟩ (fun _ e => e)
  · refine wG_iload_n C dX0_fits_8 1 rfl ?_
    refine wG_aload_n C dX0_fits_9 0 rfl ?_
    refine wG_getI C fl_X0_15_0 rfl hk_a0 hb_a0 dX0_fits_10 ?_
    refine wG_icmp_gt C dX0_fits_13 ?_ ?_
    · refine wG_iconst C dX0_fits_28 (v := 0) (by decide) ?_
      exact wG_zret C dX0_fits_29 rfl ⟨by decide, by decide⟩ (fun _ e => e)
    · refine wG_iload_n C dX0_fits_16 2 rfl ?_
      refine wG_aload_n C dX0_fits_17 0 rfl ?_
      refine wG_getI C fl_X0_18_0 rfl hk_a0 hb_a0 dX0_fits_18 ?_
      refine wG_icmp_gt C dX0_fits_21 ?_ ?_
      · refine wG_iconst C dX0_fits_28 (v := 0) (by decide) ?_
        exact wG_zret C dX0_fits_29 rfl ⟨by decide, by decide⟩ (fun _ e => e)
      · refine wG_iconst C dX0_fits_24 (v := 1) (by decide) ?_
        refine wG_goto C dX0_fits_25 ?_
        exact wG_zret C dX0_fits_29 rfl ⟨by decide, by decide⟩ (fun _ e => e)
theorem c_X0_fits (l : Launch) (E : wE) (N : Nat) (q : Qp) (hN : 137 ≤ N) (h : Hp) (a0 : Nat) (x1 : Int32) (x2 : Int32) (hk_a0 : Kd a0 = 0) (hb_a0 : a0 < N) : ∀ z, f_X0_fits h a0 x1 x2 = some z → CT l E yX0_fits cX0_fits 3 (some .boolean) rm_X0_fits [.ref (eB E + a0), .int x1, .int x2] N h (rq q) ((fun u => (some (.int u), N, h, (rq q))) z) := CT.of (by decide +kernel) (Nat.le_of_ble_eq_true rfl) (fun X _ e C => by subst e; exact w_X0_fits C hN h a0 hk_a0 hb_a0 x1 x2)
def rm_X0_isServedBy : Room := { frames := 2, cells := 0, slots := 0, locals := 43 }
def f_X0_isServedBy (h : Hp) (a0 : Nat) (a1 : Nat) : Option Int32 :=
  (if (h a1 6) = 0 then
  (f_X7_weight h a1).bind fun u_1 =>
  (f_X0_fits h a0 u_1 (h a1 5)).bind fun u_2 =>
  (if u_2 = 0 then
  some 0
  else
  some 1)
  else
  some 0)
set_option maxRecDepth 4000 in
theorem w_X0_isServedBy {X : wX} (C : Cx X yX0_isServedBy cX0_isServedBy 2 (some .boolean) rm_X0_isServedBy) {N : Nat} {q : Qp} (hN : 137 ≤ N) (h : Hp) (a0 : Nat) (hk_a0 : Kd a0 = 0) (hb_a0 : a0 < N) (a1 : Nat) (hk_a1 : Kd a1 = 7) : wG X 2 (eM X (fun u => (some (.int u), N, h, (rq q)))) (f_X0_isServedBy h a0 a1) N h (rq q) 0 0 0 [(0, .ref (xB X + a0)), (1, .ref (xB X + a1))] [] := by
  refine wG_of (f_X0_isServedBy.eq_1 ..) ?_
  refine wG_aload_n C dX0_isServedBy_0 1 rfl ?_
  refine wG_getI C fl_X0_21_7 rfl hk_a1 (wlt hN hk_a1 (by decide)) dX0_isServedBy_1 ?_
  refine wG_if_ne C dX0_isServedBy_4 ?_ ?_
  · refine wG_aload_n C dX0_isServedBy_7 0 rfl ?_
    refine wG_aload_n C dX0_isServedBy_8 1 rfl ?_
    refine wG_cV_ri [] [.ref (xB X + a0)] C vw_X0_26 (c_X7_weight (xl X) (xE X) N q hN h a1 hk_a1) hk_a1 (wlt hN hk_a1 (by decide)) (by decide) rfl rfl (Nat.le_of_ble_eq_true rfl) dX0_isServedBy_9 (cl' := 0) (sl' := 0) rfl rfl (fun u_1 => ?_)
    refine wG_aload_n C dX0_isServedBy_12 1 rfl ?_
    refine wG_getI C fl_X0_29_7 rfl hk_a1 (wlt hN hk_a1 (by decide)) dX0_isServedBy_13 ?_
    refine wG_cV_ri [.int u_1, .int (h a1 5)] [] C vw_X0_30 (c_X0_fits (xl X) (xE X) N q hN h a0 u_1 (h a1 5) hk_a0 hb_a0) hk_a0 hb_a0 (by decide) rfl rfl (Nat.le_of_ble_eq_true rfl) dX0_isServedBy_16 (cl' := 0) (sl' := 0) rfl rfl (fun u_2 => ?_)
    refine wG_if_eq C dX0_isServedBy_19 ?_ ?_
    · refine wG_iconst C dX0_isServedBy_26 (v := 0) (by decide) ?_
      exact wG_zret C dX0_isServedBy_27 rfl ⟨by decide, by decide⟩ (fun _ e => e)
    · refine wG_iconst C dX0_isServedBy_22 (v := 1) (by decide) ?_
      refine wG_goto C dX0_isServedBy_23 ?_
      exact wG_zret C dX0_isServedBy_27 rfl ⟨by decide, by decide⟩ (fun _ e => e)
  · refine wG_iconst C dX0_isServedBy_26 (v := 0) (by decide) ?_
    exact wG_zret C dX0_isServedBy_27 rfl ⟨by decide, by decide⟩ (fun _ e => e)
theorem c_X0_isServedBy (l : Launch) (E : wE) (N : Nat) (q : Qp) (hN : 137 ≤ N) (h : Hp) (a0 : Nat) (a1 : Nat) (hk_a0 : Kd a0 = 0) (hb_a0 : a0 < N) (hk_a1 : Kd a1 = 7) : ∀ z, f_X0_isServedBy h a0 a1 = some z → CT l E yX0_isServedBy cX0_isServedBy 2 (some .boolean) rm_X0_isServedBy [.ref (eB E + a0), .ref (eB E + a1)] N h (rq q) ((fun u => (some (.int u), N, h, (rq q))) z) := CT.of (by decide +kernel) (Nat.le_of_ble_eq_true rfl) (fun X _ e C => by subst e; exact w_X0_isServedBy C hN h a0 hk_a0 hb_a0 a1 hk_a1)
def rm_X11_serves : Room := { frames := 3, cells := 1, slots := 3, locals := 64 }
def f_X11_serves (q : Qp) (N : Nat) (h : Hp) (x1 : Int32) (x2 : Int32) (x3 : Int32) (x4 : Int32) : Option (Int32 × Nat × Hp × Qp) :=
  (f_X1_knows h x1).bind fun u_1 =>
  (if u_1 = 0 then
  some ((-1), N, h, q)
  else
  (f_X11_isAsk x2 x3 x4).bind fun u_2 =>
  (if u_2 = 0 then
  some ((-2), N, h, q)
  else
  vB (va_up h N (fun _ => 0)) fun h_3 =>
  (f_X0_init h_3 N x2 x3 x4).bind fun u_4 =>
  if inB x1 24 then vB (10 + ix x1) fun a_5 =>
  (f_X0_isServedBy u_4 N a_5).bind fun u_6 =>
  (if u_6 = 0 then
  some (0, (N + 1), u_4, q)
  else
  some (1, (N + 1), u_4, q)) else none))
set_option maxRecDepth 4000 in
theorem w_X11_serves {X : wX} (C : Cx X yX11_serves cX11_serves 5 (some .int) rm_X11_serves) {N : Nat} {q : Qp} (hN : 137 ≤ N) (h : Hp) (x1 : Int32) (x2 : Int32) (x3 : Int32) (x4 : Int32) : wG X 5 (eM X (fun u => (some (.int u.1), u.2.1, u.2.2.1, rq u.2.2.2))) (f_X11_serves q N h x1 x2 x3 x4) N h (rq q) 0 0 0 [(0, .ref (xB X + 0)), (1, .int x1), (2, .int x2), (3, .int x3), (4, .int x4)] [] := by
  refine wG_of (f_X11_serves.eq_1 ..) ?_
  refine wG_aload_n C dX11_serves_0 0 rfl ?_
  refine wG_getR C fl_X11_28_11 rfl kd_0 (wll hN (by decide)) (rf_0_2 q) dX11_serves_1 ?_
  refine wG_iload_n C dX11_serves_4 1 rfl ?_
  refine wG_cV_ri [.int x1] [] C vw_X11_138 (c_X1_knows (xl X) (xE X) N q hN h x1) kd_7 (wll hN (by decide)) (by decide) rfl rfl (Nat.le_of_ble_eq_true rfl) dX11_serves_5 (cl' := 0) (sl' := 0) rfl rfl (fun u_1 => ?_)
  refine wG_if_ne C dX11_serves_8 ?_ ?_
  · refine wG_iconst C dX11_serves_11 (v := (-1)) (by decide) ?_
    exact wG_iret C dX11_serves_12 ⟨by decide, by decide⟩ (fun _ e => e)
  · refine wG_iload_n C dX11_serves_13 2 rfl ?_
    refine wG_iload_n C dX11_serves_14 3 rfl ?_
    refine wG_iload C dX11_serves_15 4 rfl ?_
    refine wG_cS_ri [.int x2, .int x3, .int x4] [] C sw_X11_184 (c_X11_isAsk (xl X) (xE X) N q hN h x2 x3 x4) (by decide) rfl rfl (Nat.le_of_ble_eq_true rfl) dX11_serves_17 (cl' := 0) (sl' := 0) rfl rfl (fun u_2 => ?_)
    refine wG_if_ne C dX11_serves_20 ?_ ?_
    · refine wG_bipush C dX11_serves_23 (v := (-2)) (by decide) ?_
      exact wG_iret C dX11_serves_25 ⟨by decide, by decide⟩ (fun _ e => e)
    · refine wG_newA C hN ow_X11_188 ⟨by decide, by decide⟩ dX11_serves_26 (cl' := 1) (sl' := 3) rfl rfl (fun h_3 => ?_)
      refine wG_dup C dX11_serves_29 rfl ?_
      refine wG_iload_n C dX11_serves_30 2 rfl ?_
      refine wG_iload_n C dX11_serves_31 3 rfl ?_
      refine wG_iload C dX11_serves_32 4 rfl ?_
      refine wG_cI_wv [.int x2, .int x3, .int x4] [.ref (xB X + N)] C iw_X11_190 (c_X0_init (xl X) (xE X) (N + 1) q (Nat.le_succ_of_le hN) h_3 N x2 x3 x4 (Kd_ge hN) (Nat.lt_succ_self _)) (by decide) rfl rfl (Nat.le_of_ble_eq_true rfl) dX11_serves_34 (cl' := 1) (sl' := 3) rfl rfl (fun u_4 => ?_)
      refine wG_aload_n C dX11_serves_37 0 rfl ?_
      refine wG_getR C fl_X11_28_11 rfl kd_0 (wll (Nat.le_succ_of_le hN) (by decide)) (rf_0_2 q) dX11_serves_38 ?_
      refine wG_getR C fl_X11_126_1 rfl kd_7 (wll (Nat.le_succ_of_le hN) (by decide)) (rf_7_1 q) dX11_serves_41 ?_
      refine wG_iload_n C dX11_serves_44 1 rfl ?_
      refine wG_aaP C (Nat.le_succ_of_le hN) kd_7 rfl rfl dX11_serves_45 (fun a_5 hk_a_5 => ?_)
      refine wG_cV_ri [.ref (xB X + a_5)] [] C vw_X11_193 (c_X0_isServedBy (xl X) (xE X) (N + 1) q (Nat.le_succ_of_le hN) u_4 N a_5 (Kd_ge hN) (Nat.lt_succ_self _) hk_a_5) (Kd_ge hN) (Nat.lt_succ_self _) (by decide) rfl rfl (Nat.le_of_ble_eq_true rfl) dX11_serves_46 (cl' := 1) (sl' := 3) rfl rfl (fun u_6 => ?_)
      refine wG_if_eq C dX11_serves_49 ?_ ?_
      · refine wG_iconst C dX11_serves_56 (v := 0) (by decide) ?_
        exact wG_iret C dX11_serves_57 ⟨by decide, by decide⟩ (fun _ e => e)
      · refine wG_iconst C dX11_serves_52 (v := 1) (by decide) ?_
        refine wG_goto C dX11_serves_53 ?_
        exact wG_iret C dX11_serves_57 ⟨by decide, by decide⟩ (fun _ e => e)
theorem c_X11_serves (l : Launch) (E : wE) (N : Nat) (q : Qp) (hN : 137 ≤ N) (h : Hp) (x1 : Int32) (x2 : Int32) (x3 : Int32) (x4 : Int32) : ∀ z, f_X11_serves q N h x1 x2 x3 x4 = some z → CT l E yX11_serves cX11_serves 5 (some .int) rm_X11_serves [.ref (eB E + 0), .int x1, .int x2, .int x3, .int x4] N h (rq q) ((fun u => (some (.int u.1), u.2.1, u.2.2.1, rq u.2.2.2)) z) := CT.of (by decide +kernel) (Nat.le_of_ble_eq_true rfl) (fun X _ e C => by subst e; exact w_X11_serves C hN h x1 x2 x3 x4)
def rm_X9_lightestPiece : Room := { frames := 3, cells := 0, slots := 0, locals := 64 }
def L_X9_lightestPiece_8 (h : Hp) (a1 : Nat) : Nat → Int32 → Int32 → Int32 → Option Int32
  | 0, _, _, _ => none
  | n + 1, x2_4, x3_5, x4_6 =>
    (if (h 7 3) ≤ x4_6 then
    some x2_4
    else
    if inB x4_6 24 then vB (10 + ix x4_6) fun a_8 =>
    (f_X7_weight h a_8).bind fun u_9 =>
    vB u_9 fun (x6_10 : Int32) =>
    (f_X0_isServedBy h a1 a_8).bind fun u_11 =>
    ((if u_11 = 0 then
    some (x2_4, x3_5)
    else
    vK (fun (t_13 : Unit) =>
    vB x4_6 fun (x2_15 : Int32) =>
    vB x6_10 fun (x3_16 : Int32) =>
    some (x2_15, x3_16)) fun K_14 =>
    (if x2_4 = (-9) then
    K_14 ()
    else
    (if x3_5 ≤ x6_10 then
    some (x2_4, x3_5)
    else
    K_14 ())))).bind fun t_12 =>
    vB (x4_6 + 1) fun (x4_17 : Int32) =>
    L_X9_lightestPiece_8 h a1 n t_12.1 t_12.2 x4_17 else none)
def f_X9_lightestPiece (h : Hp) (a1 : Nat) : Option Int32 :=
  vB (-9) fun (x2_1 : Int32) =>
  vB 0 fun (x3_2 : Int32) =>
  vB 0 fun (x4_3 : Int32) =>
  (L_X9_lightestPiece_8 h a1 FU x2_1 x3_2 x4_3).bind fun t_7 =>
  some t_7
set_option maxRecDepth 4000 in
theorem wL_X9_lightestPiece_8 {X : wX} (C : Cx X yX9_lightestPiece cX9_lightestPiece 7 (some .int) rm_X9_lightestPiece) {N : Nat} {q : Qp} (hN : 137 ≤ N) (h : Hp) (a1 : Nat) (hk_a1 : Kd a1 = 0) (hb_a1 : a1 < N) (x2_1 : Int32) (x3_2 : Int32) (x4_3 : Int32) : ∀ n x2_4 x3_5 x4_6, wG X 7 (fun (t_7 : Int32) Q => gQ X 7 Q N h (rq q) 0 0 72 [(2, .int t_7)] []) (L_X9_lightestPiece_8 h a1 n x2_4 x3_5 x4_6) N h (rq q) 0 0 8 [(0, .ref (xB X + 35)), (1, .ref (xB X + a1)), (2, .int x2_4), (3, .int x3_5), (4, .int x4_6)] [] := by
  intro n
  induction n with
  | zero => intro _ _ _; exact wG_none
  | succ n ih =>
    intro x2_4 x3_5 x4_6
    refine wG_of (L_X9_lightestPiece_8.eq_2 ..) ?_
    refine wG_iload C dX9_lightestPiece_8 4 rfl ?_
    refine wG_aload_n C dX9_lightestPiece_10 0 rfl ?_
    refine wG_getR C fl_X9_35_9 rfl kd_35 (wll hN (by decide)) (rf_35_1 q) dX9_lightestPiece_11 ?_
    refine wG_getI C fl_X9_39_1 rfl kd_7 (wll hN (by decide)) dX9_lightestPiece_14 ?_
    refine wG_icmp_ge C dX9_lightestPiece_17 ?_ ?_
    · exact wG_exit (fun Q e => gQ_lv [2] rfl e)
    · refine wG_aload_n C dX9_lightestPiece_20 0 rfl ?_
      refine wG_getR C fl_X9_35_9 rfl kd_35 (wll hN (by decide)) (rf_35_1 q) dX9_lightestPiece_21 ?_
      refine wG_getR C fl_X9_45_1 rfl kd_7 (wll hN (by decide)) (rf_7_1 q) dX9_lightestPiece_24 ?_
      refine wG_iload C dX9_lightestPiece_27 4 rfl ?_
      refine wG_aaP C hN kd_7 rfl rfl dX9_lightestPiece_29 (fun a_8 hk_a_8 => ?_)
      refine wG_astore C (L' := [(0, .ref (xB X + 35)), (1, .ref (xB X + a1)), (2, .int x2_4), (3, .int x3_5), (4, .int x4_6), (5, .ref (xB X + a_8))]) dX9_lightestPiece_30 (by decide) [1, 2, 3, 4, 5, 0] rfl ?_
      refine wG_aload C dX9_lightestPiece_32 5 rfl ?_
      refine wG_cV_ri [] [] C vw_X9_49 (c_X7_weight (xl X) (xE X) N q hN h a_8 hk_a_8) hk_a_8 (wlt hN hk_a_8 (by decide)) (by decide) rfl rfl (Nat.le_of_ble_eq_true rfl) dX9_lightestPiece_34 (cl' := 0) (sl' := 0) rfl rfl (fun u_9 => ?_)
      refine wG_nmI (fun x6_10 => ?_)
      refine wG_istore C (L' := [(0, .ref (xB X + 35)), (1, .ref (xB X + a1)), (2, .int x2_4), (3, .int x3_5), (4, .int x4_6), (5, .ref (xB X + a_8)), (6, .int x6_10)]) dX9_lightestPiece_37 (by decide) [1, 2, 3, 4, 5, 6, 0] rfl ?_
      refine wG_aload_n C dX9_lightestPiece_39 1 rfl ?_
      refine wG_aload C dX9_lightestPiece_40 5 rfl ?_
      refine wG_cV_ri [.ref (xB X + a_8)] [] C vw_X9_53 (c_X0_isServedBy (xl X) (xE X) N q hN h a1 a_8 hk_a1 hb_a1 hk_a_8) hk_a1 hb_a1 (by decide) rfl rfl (Nat.le_of_ble_eq_true rfl) dX9_lightestPiece_42 (cl' := 0) (sl' := 0) rfl rfl (fun u_11 => ?_)
      refine wG_bind (J := (fun (t_12 : (Int32 × Int32)) Q => gQ X 7 Q N h (rq q) 0 0 66 [(0, .ref (xB X + 35)), (1, .ref (xB X + a1)), (2, .int t_12.1), (3, .int t_12.2), (4, .int x4_6)] [])) ?_ (fun t_12 => (?_ : wG X 7 _ _ N h (rq q) 0 0 66 [(0, .ref (xB X + 35)), (1, .ref (xB X + a1)), (2, .int t_12.1), (3, .int t_12.2), (4, .int x4_6)] []))
      · refine wG_if_eq C dX9_lightestPiece_45 ?_ ?_
        · exact wG_exit (fun Q e => gQ_lv [0, 1, 2, 3, 4] rfl e)
        · refine wG_iload_n C dX9_lightestPiece_48 2 rfl ?_
          refine wG_bipush C dX9_lightestPiece_49 (v := (-9)) (by decide) ?_
          refine wG_vK (fun t_13 => (?_ : wG X 7 _ _ N h (rq q) 0 0 60 [(0, .ref (xB X + 35)), (1, .ref (xB X + a1)), (4, .int x4_6), (6, .int x6_10)] [])) (fun K_14 hK_K_14 => ?_)
          · refine wG_iload C dX9_lightestPiece_60 2 rfl ?_
            refine wG_nmI (fun x2_15 => ?_)
            refine wG_istore_n C (L' := [(0, .ref (xB X + 35)), (1, .ref (xB X + a1)), (2, .int x2_15), (4, .int x4_6), (6, .int x6_10)]) dX9_lightestPiece_62 (by decide) [1, 2, 0, 3, 4] rfl ?_
            refine wG_iload C dX9_lightestPiece_63 4 rfl ?_
            refine wG_nmI (fun x3_16 => ?_)
            refine wG_istore_n C (L' := [(0, .ref (xB X + 35)), (1, .ref (xB X + a1)), (2, .int x2_15), (3, .int x3_16), (4, .int x4_6)]) dX9_lightestPiece_65 (by decide) [1, 2, 3, 0, 4] rfl ?_
            exact wG_exit (fun Q e => gQ_lv [0, 1, 2, 3, 4] rfl e)
          · refine wG_icmp_eq C dX9_lightestPiece_51 ?_ ?_
            · exact wG_lv [0, 1, 4, 6] rfl (hK_K_14 ())
            · refine wG_iload C dX9_lightestPiece_54 6 rfl ?_
              refine wG_iload_n C dX9_lightestPiece_56 3 rfl ?_
              refine wG_icmp_ge C dX9_lightestPiece_57 ?_ ?_
              · exact wG_exit (fun Q e => gQ_lv [0, 1, 2, 3, 4] rfl e)
              · exact wG_lv [0, 1, 4, 6] rfl (hK_K_14 ())
      · refine wG_iinc C (v := 1) (LL := fun x4_17 => [(0, .ref (xB X + 35)), (1, .ref (xB X + a1)), (2, .int t_12.1), (3, .int t_12.2), (4, .int x4_17)]) dX9_lightestPiece_66 4 rfl (by decide) (by decide) [1, 2, 3, 4, 0] (fun _ => rfl) (fun x4_17 => ?_)
        refine wG_goto C dX9_lightestPiece_69 ?_
        exact wG_lv [0, 1, 2, 3, 4] rfl (ih t_12.1 t_12.2 x4_17)
set_option maxRecDepth 4000 in
theorem w_X9_lightestPiece {X : wX} (C : Cx X yX9_lightestPiece cX9_lightestPiece 7 (some .int) rm_X9_lightestPiece) {N : Nat} {q : Qp} (hN : 137 ≤ N) (h : Hp) (a1 : Nat) (hk_a1 : Kd a1 = 0) (hb_a1 : a1 < N) : wG X 7 (eM X (fun u => (some (.int u), N, h, (rq q)))) (f_X9_lightestPiece h a1) N h (rq q) 0 0 0 [(0, .ref (xB X + 35)), (1, .ref (xB X + a1))] [] := by
  refine wG_of (f_X9_lightestPiece.eq_1 ..) ?_
  refine wG_bipush C dX9_lightestPiece_0 (v := (-9)) (by decide) ?_
  refine wG_nmI (fun x2_1 => ?_)
  refine wG_istore_n C (L' := [(0, .ref (xB X + 35)), (1, .ref (xB X + a1)), (2, .int x2_1)]) dX9_lightestPiece_2 (by decide) [1, 2, 0] rfl ?_
  refine wG_iconst C dX9_lightestPiece_3 (v := 0) (by decide) ?_
  refine wG_nmI (fun x3_2 => ?_)
  refine wG_istore_n C (L' := [(0, .ref (xB X + 35)), (1, .ref (xB X + a1)), (2, .int x2_1), (3, .int x3_2)]) dX9_lightestPiece_4 (by decide) [1, 2, 3, 0] rfl ?_
  refine wG_iconst C dX9_lightestPiece_5 (v := 0) (by decide) ?_
  refine wG_nmI (fun x4_3 => ?_)
  refine wG_istore C (L' := [(0, .ref (xB X + 35)), (1, .ref (xB X + a1)), (2, .int x2_1), (3, .int x3_2), (4, .int x4_3)]) dX9_lightestPiece_6 (by decide) [1, 2, 3, 4, 0] rfl ?_
  refine wG_lv (L' := [(0, .ref (xB X + 35)), (1, .ref (xB X + a1)), (2, .int x2_1), (3, .int x3_2), (4, .int x4_3)]) [0, 1, 2, 3, 4] rfl ?_
  refine wG_bind (wL_X9_lightestPiece_8 C hN h a1 hk_a1 hb_a1 x2_1 x3_2 x4_3 FU x2_1 x3_2 x4_3) (fun t_7 => (?_ : wG X 7 _ _ N h (rq q) 0 0 72 [(2, .int t_7)] []))
  refine wG_iload_n C dX9_lightestPiece_72 0 rfl ?_
  exact wG_iret C dX9_lightestPiece_73 ⟨by decide, by decide⟩ (fun _ e => e)
theorem c_X9_lightestPiece (l : Launch) (E : wE) (N : Nat) (q : Qp) (hN : 137 ≤ N) (h : Hp) (a1 : Nat) (hk_a1 : Kd a1 = 0) (hb_a1 : a1 < N) : ∀ z, f_X9_lightestPiece h a1 = some z → CT l E yX9_lightestPiece cX9_lightestPiece 7 (some .int) rm_X9_lightestPiece [.ref (eB E + 35), .ref (eB E + a1)] N h (rq q) ((fun u => (some (.int u), N, h, (rq q))) z) := CT.of (by decide +kernel) (Nat.le_of_ble_eq_true rfl) (fun X _ e C => by subst e; exact w_X9_lightestPiece C hN h a1 hk_a1 hb_a1)
def rm_X11_stands : Room := { frames := 4, cells := 1, slots := 3, locals := 90 }
def f_X11_stands (q : Qp) (N : Nat) (h : Hp) (x1 : Int32) (x2 : Int32) (x3 : Int32) : Option (Int32 × Nat × Hp × Qp) :=
  (f_X11_isAsk x1 x2 x3).bind fun u_1 =>
  (if u_1 = 0 then
  some ((-2), N, h, q)
  else
  vB (va_up h N (fun _ => 0)) fun h_2 =>
  (f_X0_init h_2 N x1 x2 x3).bind fun u_3 =>
  (f_X9_lightestPiece u_3 N).bind fun u_4 =>
  some (u_4, (N + 1), u_3, q))
set_option maxRecDepth 4000 in
theorem w_X11_stands {X : wX} (C : Cx X yX11_stands cX11_stands 4 (some .int) rm_X11_stands) {N : Nat} {q : Qp} (hN : 137 ≤ N) (h : Hp) (x1 : Int32) (x2 : Int32) (x3 : Int32) : wG X 4 (eM X (fun u => (some (.int u.1), u.2.1, u.2.2.1, rq u.2.2.2))) (f_X11_stands q N h x1 x2 x3) N h (rq q) 0 0 0 [(0, .ref (xB X + 0)), (1, .int x1), (2, .int x2), (3, .int x3)] [] := by
  refine wG_of (f_X11_stands.eq_1 ..) ?_
  refine wG_iload_n C dX11_stands_0 1 rfl ?_
  refine wG_iload_n C dX11_stands_1 2 rfl ?_
  refine wG_iload_n C dX11_stands_2 3 rfl ?_
  refine wG_cS_ri [.int x1, .int x2, .int x3] [] C sw_X11_184 (c_X11_isAsk (xl X) (xE X) N q hN h x1 x2 x3) (by decide) rfl rfl (Nat.le_of_ble_eq_true rfl) dX11_stands_3 (cl' := 0) (sl' := 0) rfl rfl (fun u_1 => ?_)
  refine wG_if_eq C dX11_stands_6 ?_ ?_
  · refine wG_bipush C dX11_stands_29 (v := (-2)) (by decide) ?_
    exact wG_iret C dX11_stands_31 ⟨by decide, by decide⟩ (fun _ e => e)
  · refine wG_aload_n C dX11_stands_9 0 rfl ?_
    refine wG_getR C fl_X11_41_11 rfl kd_0 (wll hN (by decide)) (rf_0_4 q) dX11_stands_10 ?_
    refine wG_newA C hN ow_X11_188 ⟨by decide, by decide⟩ dX11_stands_13 (cl' := 1) (sl' := 3) rfl rfl (fun h_2 => ?_)
    refine wG_dup C dX11_stands_16 rfl ?_
    refine wG_iload_n C dX11_stands_17 1 rfl ?_
    refine wG_iload_n C dX11_stands_18 2 rfl ?_
    refine wG_iload_n C dX11_stands_19 3 rfl ?_
    refine wG_cI_wv [.int x1, .int x2, .int x3] [.ref (xB X + N), .ref (xB X + 35)] C iw_X11_190 (c_X0_init (xl X) (xE X) (N + 1) q (Nat.le_succ_of_le hN) h_2 N x1 x2 x3 (Kd_ge hN) (Nat.lt_succ_self _)) (by decide) rfl rfl (Nat.le_of_ble_eq_true rfl) dX11_stands_20 (cl' := 1) (sl' := 3) rfl rfl (fun u_3 => ?_)
    refine wG_cV_ri [.ref (xB X + N)] [] C vw_X11_197 (c_X9_lightestPiece (xl X) (xE X) (N + 1) q (Nat.le_succ_of_le hN) u_3 N (Kd_ge hN) (Nat.lt_succ_self _)) kd_35 (wll (Nat.le_succ_of_le hN) (by decide)) (by decide) rfl rfl (Nat.le_of_ble_eq_true rfl) dX11_stands_23 (cl' := 1) (sl' := 3) rfl rfl (fun u_4 => ?_)
    refine wG_goto C dX11_stands_26 ?_
    exact wG_iret C dX11_stands_31 ⟨by decide, by decide⟩ (fun _ e => e)
theorem c_X11_stands (l : Launch) (E : wE) (N : Nat) (q : Qp) (hN : 137 ≤ N) (h : Hp) (x1 : Int32) (x2 : Int32) (x3 : Int32) : ∀ z, f_X11_stands q N h x1 x2 x3 = some z → CT l E yX11_stands cX11_stands 4 (some .int) rm_X11_stands [.ref (eB E + 0), .int x1, .int x2, .int x3] N h (rq q) ((fun u => (some (.int u.1), u.2.1, u.2.2.1, rq u.2.2.2)) z) := CT.of (by decide +kernel) (Nat.le_of_ble_eq_true rfl) (fun X _ e C => by subst e; exact w_X11_stands C hN h x1 x2 x3)
def rm_X7_cuts : Room := { frames := 0, cells := 0, slots := 0, locals := 0 }
def f_X7_cuts (h : Hp) (a0 : Nat) : Option Int32 :=
  some ((((h a0 2) - 1) + (h a0 3)) - 1)
set_option maxRecDepth 4000 in
theorem w_X7_cuts {X : wX} (C : Cx X yX7_cuts cX7_cuts 1 (some .int) rm_X7_cuts) {N : Nat} {q : Qp} (hN : 137 ≤ N) (h : Hp) (a0 : Nat) (hk_a0 : Kd a0 = 7) : wG X 1 (eM X (fun u => (some (.int u), N, h, (rq q)))) (f_X7_cuts h a0) N h (rq q) 0 0 0 [(0, .ref (xB X + a0))] [] := by
  refine wG_of (f_X7_cuts.eq_1 ..) ?_
  refine wG_aload_n C dX7_cuts_0 0 rfl ?_
  refine wG_getI C fl_X7_23_7 rfl hk_a0 (wlt hN hk_a0 (by decide)) dX7_cuts_1 ?_
  refine wG_iconst C dX7_cuts_4 (v := 1) (by decide) ?_
  refine wG_isub C dX7_cuts_5 ?_
  refine wG_aload_n C dX7_cuts_6 0 rfl ?_
  refine wG_getI C fl_X7_27_7 rfl hk_a0 (wlt hN hk_a0 (by decide)) dX7_cuts_7 ?_
  refine wG_iadd C dX7_cuts_10 ?_
  refine wG_iconst C dX7_cuts_11 (v := 1) (by decide) ?_
  refine wG_isub C dX7_cuts_12 ?_
  exact wG_iret C dX7_cuts_13 ⟨by decide, by decide⟩ (fun _ e => e)
theorem c_X7_cuts (l : Launch) (E : wE) (N : Nat) (q : Qp) (hN : 137 ≤ N) (h : Hp) (a0 : Nat) (hk_a0 : Kd a0 = 7) : ∀ z, f_X7_cuts h a0 = some z → CT l E yX7_cuts cX7_cuts 1 (some .int) rm_X7_cuts [.ref (eB E + a0)] N h (rq q) ((fun u => (some (.int u), N, h, (rq q))) z) := CT.of (by decide +kernel) (Nat.le_of_ble_eq_true rfl) (fun X _ e C => by subst e; exact w_X7_cuts C hN h a0 hk_a0)
def rm_X7_isAcross : Room := { frames := 0, cells := 0, slots := 0, locals := 0 }
def f_X7_isAcross (h : Hp) (a0 : Nat) (x1 : Int32) : Option Int32 :=
  (if ((h a0 2) - 1) ≤ x1 then
  some 0
  else
  some 1)
set_option maxRecDepth 4000 in
theorem w_X7_isAcross {X : wX} (C : Cx X yX7_isAcross cX7_isAcross 2 (some .boolean) rm_X7_isAcross) {N : Nat} {q : Qp} (hN : 137 ≤ N) (h : Hp) (a0 : Nat) (hk_a0 : Kd a0 = 7) (x1 : Int32) : wG X 2 (eM X (fun u => (some (.int u), N, h, (rq q)))) (f_X7_isAcross h a0 x1) N h (rq q) 0 0 0 [(0, .ref (xB X + a0)), (1, .int x1)] [] := by
  refine wG_of (f_X7_isAcross.eq_1 ..) ?_
  refine wG_iload_n C dX7_isAcross_0 1 rfl ?_
  refine wG_aload_n C dX7_isAcross_1 0 rfl ?_
  refine wG_getI C fl_X7_23_7 rfl hk_a0 (wlt hN hk_a0 (by decide)) dX7_isAcross_2 ?_
  refine wG_iconst C dX7_isAcross_5 (v := 1) (by decide) ?_
  refine wG_isub C dX7_isAcross_6 ?_
  refine wG_icmp_ge C dX7_isAcross_7 ?_ ?_
  · refine wG_iconst C dX7_isAcross_14 (v := 0) (by decide) ?_
    exact wG_zret C dX7_isAcross_15 rfl ⟨by decide, by decide⟩ (fun _ e => e)
  · refine wG_iconst C dX7_isAcross_10 (v := 1) (by decide) ?_
    refine wG_goto C dX7_isAcross_11 ?_
    exact wG_zret C dX7_isAcross_15 rfl ⟨by decide, by decide⟩ (fun _ e => e)
theorem c_X7_isAcross (l : Launch) (E : wE) (N : Nat) (q : Qp) (hN : 137 ≤ N) (h : Hp) (a0 : Nat) (x1 : Int32) (hk_a0 : Kd a0 = 7) : ∀ z, f_X7_isAcross h a0 x1 = some z → CT l E yX7_isAcross cX7_isAcross 2 (some .boolean) rm_X7_isAcross [.ref (eB E + a0), .int x1] N h (rq q) ((fun u => (some (.int u), N, h, (rq q))) z) := CT.of (by decide +kernel) (Nat.le_of_ble_eq_true rfl) (fun X _ e C => by subst e; exact w_X7_isAcross C hN h a0 hk_a0 x1)
def rm_X7_cutEdges : Room := { frames := 1, cells := 0, slots := 0, locals := 21 }
def f_X7_cutEdges (h : Hp) (a0 : Nat) (x1 : Int32) : Option Int32 :=
  (f_X7_isAcross h a0 x1).bind fun u_1 =>
  (if u_1 = 0 then
  some (h a0 2)
  else
  some (h a0 3))
set_option maxRecDepth 4000 in
theorem w_X7_cutEdges {X : wX} (C : Cx X yX7_cutEdges cX7_cutEdges 2 (some .int) rm_X7_cutEdges) {N : Nat} {q : Qp} (hN : 137 ≤ N) (h : Hp) (a0 : Nat) (hk_a0 : Kd a0 = 7) (x1 : Int32) : wG X 2 (eM X (fun u => (some (.int u), N, h, (rq q)))) (f_X7_cutEdges h a0 x1) N h (rq q) 0 0 0 [(0, .ref (xB X + a0)), (1, .int x1)] [] := by
  refine wG_of (f_X7_cutEdges.eq_1 ..) ?_
  refine wG_aload_n C dX7_cutEdges_0 0 rfl ?_
  refine wG_iload_n C dX7_cutEdges_1 1 rfl ?_
  refine wG_cV_ri [.int x1] [] C vw_X7_95 (c_X7_isAcross (xl X) (xE X) N q hN h a0 x1 hk_a0) hk_a0 (wlt hN hk_a0 (by decide)) (by decide) rfl rfl (Nat.le_of_ble_eq_true rfl) dX7_cutEdges_2 (cl' := 0) (sl' := 0) rfl rfl (fun u_1 => ?_)
  refine wG_if_eq C dX7_cutEdges_5 ?_ ?_
  · refine wG_aload_n C dX7_cutEdges_15 0 rfl ?_
    refine wG_getI C fl_X7_23_7 rfl hk_a0 (wlt hN hk_a0 (by decide)) dX7_cutEdges_16 ?_
    exact wG_iret C dX7_cutEdges_19 ⟨by decide, by decide⟩ (fun _ e => e)
  · refine wG_aload_n C dX7_cutEdges_8 0 rfl ?_
    refine wG_getI C fl_X7_27_7 rfl hk_a0 (wlt hN hk_a0 (by decide)) dX7_cutEdges_9 ?_
    refine wG_goto C dX7_cutEdges_12 ?_
    exact wG_iret C dX7_cutEdges_19 ⟨by decide, by decide⟩ (fun _ e => e)
theorem c_X7_cutEdges (l : Launch) (E : wE) (N : Nat) (q : Qp) (hN : 137 ≤ N) (h : Hp) (a0 : Nat) (x1 : Int32) (hk_a0 : Kd a0 = 7) : ∀ z, f_X7_cutEdges h a0 x1 = some z → CT l E yX7_cutEdges cX7_cutEdges 2 (some .int) rm_X7_cutEdges [.ref (eB E + a0), .int x1] N h (rq q) ((fun u => (some (.int u), N, h, (rq q))) z) := CT.of (by decide +kernel) (Nat.le_of_ble_eq_true rfl) (fun X _ e C => by subst e; exact w_X7_cutEdges C hN h a0 hk_a0 x1)
def rm_X7_cutAt : Room := { frames := 1, cells := 0, slots := 0, locals := 21 }
def f_X7_cutAt (h : Hp) (a0 : Nat) (x1 : Int32) : Option Int32 :=
  (f_X7_isAcross h a0 x1).bind fun u_1 =>
  (if u_1 = 0 then
  some ((x1 + 1) - ((h a0 2) - 1))
  else
  some (x1 + 1))
set_option maxRecDepth 4000 in
theorem w_X7_cutAt {X : wX} (C : Cx X yX7_cutAt cX7_cutAt 2 (some .int) rm_X7_cutAt) {N : Nat} {q : Qp} (hN : 137 ≤ N) (h : Hp) (a0 : Nat) (hk_a0 : Kd a0 = 7) (x1 : Int32) : wG X 2 (eM X (fun u => (some (.int u), N, h, (rq q)))) (f_X7_cutAt h a0 x1) N h (rq q) 0 0 0 [(0, .ref (xB X + a0)), (1, .int x1)] [] := by
  refine wG_of (f_X7_cutAt.eq_1 ..) ?_
  refine wG_aload_n C dX7_cutAt_0 0 rfl ?_
  refine wG_iload_n C dX7_cutAt_1 1 rfl ?_
  refine wG_cV_ri [.int x1] [] C vw_X7_95 (c_X7_isAcross (xl X) (xE X) N q hN h a0 x1 hk_a0) hk_a0 (wlt hN hk_a0 (by decide)) (by decide) rfl rfl (Nat.le_of_ble_eq_true rfl) dX7_cutAt_2 (cl' := 0) (sl' := 0) rfl rfl (fun u_1 => ?_)
  refine wG_if_eq C dX7_cutAt_5 ?_ ?_
  · refine wG_iload_n C dX7_cutAt_14 1 rfl ?_
    refine wG_iconst C dX7_cutAt_15 (v := 1) (by decide) ?_
    refine wG_iadd C dX7_cutAt_16 ?_
    refine wG_aload_n C dX7_cutAt_17 0 rfl ?_
    refine wG_getI C fl_X7_23_7 rfl hk_a0 (wlt hN hk_a0 (by decide)) dX7_cutAt_18 ?_
    refine wG_iconst C dX7_cutAt_21 (v := 1) (by decide) ?_
    refine wG_isub C dX7_cutAt_22 ?_
    refine wG_isub C dX7_cutAt_23 ?_
    exact wG_iret C dX7_cutAt_24 ⟨by decide, by decide⟩ (fun _ e => e)
  · refine wG_iload_n C dX7_cutAt_8 1 rfl ?_
    refine wG_iconst C dX7_cutAt_9 (v := 1) (by decide) ?_
    refine wG_iadd C dX7_cutAt_10 ?_
    refine wG_goto C dX7_cutAt_11 ?_
    exact wG_iret C dX7_cutAt_24 ⟨by decide, by decide⟩ (fun _ e => e)
theorem c_X7_cutAt (l : Launch) (E : wE) (N : Nat) (q : Qp) (hN : 137 ≤ N) (h : Hp) (a0 : Nat) (x1 : Int32) (hk_a0 : Kd a0 = 7) : ∀ z, f_X7_cutAt h a0 x1 = some z → CT l E yX7_cutAt cX7_cutAt 2 (some .int) rm_X7_cutAt [.ref (eB E + a0), .int x1] N h (rq q) ((fun u => (some (.int u), N, h, (rq q))) z) := CT.of (by decide +kernel) (Nat.le_of_ble_eq_true rfl) (fun X _ e C => by subst e; exact w_X7_cutAt C hN h a0 hk_a0 x1)
def rm_X9_told : Room := { frames := 2, cells := 0, slots := 0, locals := 42 }
def f_X9_told (h : Hp) (x1 : Int32) (x2 : Int32) (x3 : Int32) : Option Int32 :=
  if inB x1 24 then vB (10 + ix x1) fun a_1 =>
  (f_X7_isAcross h a_1 x2).bind fun u_2 =>
  ((if u_2 = 0 then
  some 100
  else
  some 0)).bind fun t_3 =>
  (f_X7_cutAt h a_1 x2).bind fun u_4 =>
  ((if x3 = 0 then
  some 0
  else
  some 1)).bind fun t_5 =>
  some ((((1000 * x1) + t_3) + (10 * u_4)) + t_5) else none
set_option maxRecDepth 4000 in
theorem w_X9_told {X : wX} (C : Cx X yX9_told cX9_told 5 (some .int) rm_X9_told) {N : Nat} {q : Qp} (hN : 137 ≤ N) (h : Hp) (x1 : Int32) (x2 : Int32) (x3 : Int32) : wG X 5 (eM X (fun u => (some (.int u), N, h, (rq q)))) (f_X9_told h x1 x2 x3) N h (rq q) 0 0 0 [(0, .ref (xB X + 35)), (1, .int x1), (2, .int x2), (3, .int x3)] [] := by
  refine wG_of (f_X9_told.eq_1 ..) ?_
  refine wG_aload_n C dX9_told_0 0 rfl ?_
  refine wG_getR C fl_X9_35_9 rfl kd_35 (wll hN (by decide)) (rf_35_1 q) dX9_told_1 ?_
  refine wG_getR C fl_X9_45_1 rfl kd_7 (wll hN (by decide)) (rf_7_1 q) dX9_told_4 ?_
  refine wG_iload_n C dX9_told_7 1 rfl ?_
  refine wG_aaP C hN kd_7 rfl rfl dX9_told_8 (fun a_1 hk_a_1 => ?_)
  refine wG_astore C (L' := [(1, .int x1), (2, .int x2), (3, .int x3), (4, .ref (xB X + a_1))]) dX9_told_9 (by decide) [2, 3, 4, 0] rfl ?_
  refine wG_sipush C dX9_told_11 (v := 1000) (by decide) ?_
  refine wG_iload_n C dX9_told_14 0 rfl ?_
  refine wG_imul C dX9_told_15 ?_
  refine wG_aload C dX9_told_16 3 rfl ?_
  refine wG_iload_n C dX9_told_18 1 rfl ?_
  refine wG_cV_ri [.int x2] [.int (1000 * x1)] C vw_X9_67 (c_X7_isAcross (xl X) (xE X) N q hN h a_1 x2 hk_a_1) hk_a_1 (wlt hN hk_a_1 (by decide)) (by decide) rfl rfl (Nat.le_of_ble_eq_true rfl) dX9_told_19 (cl' := 0) (sl' := 0) rfl rfl (fun u_2 => ?_)
  refine wG_bind (J := (fun (t_3 : Int32) Q => gQ X 5 Q N h (rq q) 0 0 31 [(2, .int x2), (3, .int x3), (4, .ref (xB X + a_1))] [.int t_3, .int (1000 * x1)])) ?_ (fun t_3 => (?_ : wG X 5 _ _ N h (rq q) 0 0 31 [(2, .int x2), (3, .int x3), (4, .ref (xB X + a_1))] [.int t_3, .int (1000 * x1)]))
  · refine wG_if_eq C dX9_told_22 ?_ ?_
    · refine wG_bipush C dX9_told_29 (v := 100) (by decide) ?_
      exact wG_exit (fun Q e => gQ_lv [1, 2, 3] rfl e)
    · refine wG_iconst C dX9_told_25 (v := 0) (by decide) ?_
      refine wG_goto C dX9_told_26 ?_
      exact wG_exit (fun Q e => gQ_lv [1, 2, 3] rfl e)
  · refine wG_iadd C dX9_told_31 ?_
    refine wG_bipush C dX9_told_32 (v := 10) (by decide) ?_
    refine wG_aload C dX9_told_34 2 rfl ?_
    refine wG_iload_n C dX9_told_36 0 rfl ?_
    refine wG_cV_ri [.int x2] [.int 10, .int ((1000 * x1) + t_3)] C vw_X9_71 (c_X7_cutAt (xl X) (xE X) N q hN h a_1 x2 hk_a_1) hk_a_1 (wlt hN hk_a_1 (by decide)) (by decide) rfl rfl (Nat.le_of_ble_eq_true rfl) dX9_told_37 (cl' := 0) (sl' := 0) rfl rfl (fun u_4 => ?_)
    refine wG_imul C dX9_told_40 ?_
    refine wG_iadd C dX9_told_41 ?_
    refine wG_iload_n C dX9_told_42 1 rfl ?_
    refine wG_bind (J := (fun (t_5 : Int32) Q => gQ X 5 Q N h (rq q) 0 0 51 [] [.int t_5, .int (((1000 * x1) + t_3) + (10 * u_4))])) ?_ (fun t_5 => (?_ : wG X 5 _ _ N h (rq q) 0 0 51 [] [.int t_5, .int (((1000 * x1) + t_3) + (10 * u_4))]))
    · refine wG_if_eq C dX9_told_43 ?_ ?_
      · refine wG_iconst C dX9_told_50 (v := 0) (by decide) ?_
        exact wG_exit (fun Q e => gQ_lv [] rfl e)
      · refine wG_iconst C dX9_told_46 (v := 1) (by decide) ?_
        refine wG_goto C dX9_told_47 ?_
        exact wG_exit (fun Q e => gQ_lv [] rfl e)
    · refine wG_iadd C dX9_told_51 ?_
      exact wG_iret C dX9_told_52 ⟨by decide, by decide⟩ (fun _ e => e)
theorem c_X9_told (l : Launch) (E : wE) (N : Nat) (q : Qp) (hN : 137 ≤ N) (h : Hp) (x1 : Int32) (x2 : Int32) (x3 : Int32) : ∀ z, f_X9_told h x1 x2 x3 = some z → CT l E yX9_told cX9_told 5 (some .int) rm_X9_told [.ref (eB E + 35), .int x1, .int x2, .int x3] N h (rq q) ((fun u => (some (.int u), N, h, (rq q))) z) := CT.of (by decide +kernel) (Nat.le_of_ble_eq_true rfl) (fun X _ e C => by subst e; exact w_X9_told C hN h x1 x2 x3)
def rm_X9_shortestCut : Room := { frames := 3, cells := 0, slots := 0, locals := 76 }
def L_X9_shortestCut_48 (a1 : Nat) (x4_6 : Int32) (a_9 : Nat) : Nat → Int32 → Int32 → Int32 → Hp → Option (Int32 × Int32 × Hp)
  | 0, _, _, _, _ => none
  | n + 1, x2_11, x3_12, x6_13, h_14 =>
    (f_X7_cuts h_14 a_9).bind fun u_16 =>
    (if u_16 ≤ x6_13 then
    some (x2_11, x3_12, h_14)
    else
    (f_X7_cutEdges h_14 a_9 x6_13).bind fun u_17 =>
    ((if x3_12 ≤ u_17 then
    some (x2_11, x3_12, h_14)
    else
    (f_X7_isAcross h_14 a_9 x6_13).bind fun u_19 =>
    (f_X7_cutAt h_14 a_9 x6_13).bind fun u_20 =>
    (f_X7_part h_14 a_9 u_19 u_20 36 37).bind fun u_21 =>
    (f_X0_isServedBy u_21 a1 36).bind fun u_22 =>
    vB u_22 fun (x7_23 : Int32) =>
    vK (fun (t_24 : Unit) =>
    ((if x7_23 = 0 then
    some 1
    else
    some 0)).bind fun t_26 =>
    (f_X9_told u_21 x4_6 x6_13 t_26).bind fun u_27 =>
    vB u_27 fun (x2_28 : Int32) =>
    (f_X7_cutEdges u_21 a_9 x6_13).bind fun u_29 =>
    vB u_29 fun (x3_30 : Int32) =>
    some (x2_28, x3_30, u_21)) fun K_25 =>
    (if x7_23 = 0 then
    (f_X0_isServedBy u_21 a1 37).bind fun u_31 =>
    (if u_31 = 0 then
    some (x2_11, x3_12, u_21)
    else
    K_25 ())
    else
    K_25 ()))).bind fun t_18 =>
    vB (x6_13 + 1) fun (x6_32 : Int32) =>
    L_X9_shortestCut_48 a1 x4_6 a_9 n t_18.1 t_18.2.1 x6_32 t_18.2.2)
def L_X9_shortestCut_9 (a1 : Nat) : Nat → Int32 → Int32 → Int32 → Hp → Option (Int32 × Hp)
  | 0, _, _, _, _ => none
  | n + 1, x2_4, x3_5, x4_6, h_7 =>
    (if (h_7 7 3) ≤ x4_6 then
    some (x2_4, h_7)
    else
    (if (24 : Int32) ≤ (h_7 7 3) then
    some (x2_4, h_7)
    else
    if inB x4_6 24 then vB (10 + ix x4_6) fun a_9 =>
    vB 0 fun (x6_10 : Int32) =>
    (L_X9_shortestCut_48 a1 x4_6 a_9 FU x2_4 x3_5 x6_10 h_7).bind fun t_15 =>
    vB (x4_6 + 1) fun (x4_33 : Int32) =>
    L_X9_shortestCut_9 a1 n t_15.1 t_15.2.1 x4_33 t_15.2.2 else none))
def f_X9_shortestCut (h : Hp) (a1 : Nat) : Option (Int32 × Hp) :=
  vB (-9) fun (x2_1 : Int32) =>
  vB 1000000 fun (x3_2 : Int32) =>
  vB 0 fun (x4_3 : Int32) =>
  (L_X9_shortestCut_9 a1 FU x2_1 x3_2 x4_3 h).bind fun t_8 =>
  some (t_8.1, t_8.2)
set_option maxRecDepth 4000 in
theorem wL_X9_shortestCut_48 {X : wX} (C : Cx X yX9_shortestCut cX9_shortestCut 8 (some .int) rm_X9_shortestCut) {N : Nat} {q : Qp} (hN : 137 ≤ N) (h : Hp) (a1 : Nat) (hk_a1 : Kd a1 = 0) (hb_a1 : a1 < N) (x2_1 : Int32) (x3_2 : Int32) (x4_3 : Int32) (x2_4 : Int32) (x3_5 : Int32) (x4_6 : Int32) (h_7 : Hp) (a_9 : Nat) (hk_a_9 : Kd a_9 = 7) (x6_10 : Int32) : ∀ n x2_11 x3_12 x6_13 h_14, wG X 8 (fun (t_15 : (Int32 × Int32 × Hp)) Q => gQ X 8 Q N t_15.2.2 (rq q) 0 0 159 [(0, .ref (xB X + 35)), (1, .ref (xB X + a1)), (2, .int t_15.1), (3, .int t_15.2.1), (4, .int x4_6)] []) (L_X9_shortestCut_48 a1 x4_6 a_9 n x2_11 x3_12 x6_13 h_14) N h_14 (rq q) 0 0 48 [(0, .ref (xB X + 35)), (1, .ref (xB X + a1)), (2, .int x2_11), (3, .int x3_12), (4, .int x4_6), (5, .ref (xB X + a_9)), (6, .int x6_13)] [] := by
  intro n
  induction n with
  | zero => intro _ _ _ _; exact wG_none
  | succ n ih =>
    intro x2_11 x3_12 x6_13 h_14
    refine wG_of (L_X9_shortestCut_48.eq_2 ..) ?_
    refine wG_iload C dX9_shortestCut_48 6 rfl ?_
    refine wG_aload C dX9_shortestCut_50 5 rfl ?_
    refine wG_cV_ri [] [.int x6_13] C vw_X9_60 (c_X7_cuts (xl X) (xE X) N q hN h_14 a_9 hk_a_9) hk_a_9 (wlt hN hk_a_9 (by decide)) (by decide) rfl rfl (Nat.le_of_ble_eq_true rfl) dX9_shortestCut_52 (cl' := 0) (sl' := 0) rfl rfl (fun u_16 => ?_)
    refine wG_icmp_ge C dX9_shortestCut_55 ?_ ?_
    · exact wG_exit (fun Q e => gQ_lv [0, 1, 2, 3, 4] rfl e)
    · refine wG_aload C dX9_shortestCut_58 5 rfl ?_
      refine wG_iload C dX9_shortestCut_60 6 rfl ?_
      refine wG_cV_ri [.int x6_13] [] C vw_X9_63 (c_X7_cutEdges (xl X) (xE X) N q hN h_14 a_9 x6_13 hk_a_9) hk_a_9 (wlt hN hk_a_9 (by decide)) (by decide) rfl rfl (Nat.le_of_ble_eq_true rfl) dX9_shortestCut_62 (cl' := 0) (sl' := 0) rfl rfl (fun u_17 => ?_)
      refine wG_iload_n C dX9_shortestCut_65 3 rfl ?_
      refine wG_bind (J := (fun (t_18 : (Int32 × Int32 × Hp)) Q => gQ X 8 Q N t_18.2.2 (rq q) 0 0 153 [(0, .ref (xB X + 35)), (1, .ref (xB X + a1)), (2, .int t_18.1), (3, .int t_18.2.1), (4, .int x4_6), (5, .ref (xB X + a_9)), (6, .int x6_13)] [])) ?_ (fun t_18 => (?_ : wG X 8 _ _ N t_18.2.2 (rq q) 0 0 153 [(0, .ref (xB X + 35)), (1, .ref (xB X + a1)), (2, .int t_18.1), (3, .int t_18.2.1), (4, .int x4_6), (5, .ref (xB X + a_9)), (6, .int x6_13)] []))
      · refine wG_icmp_ge C dX9_shortestCut_66 ?_ ?_
        · exact wG_exit (fun Q e => gQ_lv [0, 1, 2, 3, 4, 5, 6] rfl e)
        · refine wG_aload C dX9_shortestCut_69 5 rfl ?_
          refine wG_aload_n C dX9_shortestCut_71 0 rfl ?_
          refine wG_getR C fl_X9_31_9 rfl kd_35 (wll hN (by decide)) (rf_35_0 q) dX9_shortestCut_72 ?_
          refine wG_aload C dX9_shortestCut_75 5 rfl ?_
          refine wG_iload C dX9_shortestCut_77 6 rfl ?_
          refine wG_cV_ri [.int x6_13] [.ref (xB X + 3), .ref (xB X + a_9)] C vw_X9_67 (c_X7_isAcross (xl X) (xE X) N q hN h_14 a_9 x6_13 hk_a_9) hk_a_9 (wlt hN hk_a_9 (by decide)) (by decide) rfl rfl (Nat.le_of_ble_eq_true rfl) dX9_shortestCut_79 (cl' := 0) (sl' := 0) rfl rfl (fun u_19 => ?_)
          refine wG_aload C dX9_shortestCut_82 5 rfl ?_
          refine wG_iload C dX9_shortestCut_84 6 rfl ?_
          refine wG_cV_ri [.int x6_13] [.int u_19, .ref (xB X + 3), .ref (xB X + a_9)] C vw_X9_71 (c_X7_cutAt (xl X) (xE X) N q hN h_14 a_9 x6_13 hk_a_9) hk_a_9 (wlt hN hk_a_9 (by decide)) (by decide) rfl rfl (Nat.le_of_ble_eq_true rfl) dX9_shortestCut_86 (cl' := 0) (sl' := 0) rfl rfl (fun u_20 => ?_)
          refine wG_aload_n C dX9_shortestCut_89 0 rfl ?_
          refine wG_getR C fl_X9_12_9 rfl kd_35 (wll hN (by decide)) (rf_35_2 q) dX9_shortestCut_90 ?_
          refine wG_aload_n C dX9_shortestCut_93 0 rfl ?_
          refine wG_getR C fl_X9_18_9 rfl kd_35 (wll hN (by decide)) (rf_35_3 q) dX9_shortestCut_94 ?_
          refine wG_cV_wv [.ref (xB X + 3), .int u_19, .int u_20, .ref (xB X + 36), .ref (xB X + 37)] [] C vw_X9_74 (c_X7_part (xl X) (xE X) N q hN h_14 a_9 u_19 u_20 36 37 hk_a_9 kd_36 kd_37) hk_a_9 (wlt hN hk_a_9 (by decide)) (by decide) rfl rfl (Nat.le_of_ble_eq_true rfl) dX9_shortestCut_97 (cl' := 0) (sl' := 0) rfl rfl (fun u_21 => ?_)
          refine wG_aload_n C dX9_shortestCut_100 1 rfl ?_
          refine wG_aload_n C dX9_shortestCut_101 0 rfl ?_
          refine wG_getR C fl_X9_12_9 rfl kd_35 (wll hN (by decide)) (rf_35_2 q) dX9_shortestCut_102 ?_
          refine wG_cV_ri [.ref (xB X + 36)] [] C vw_X9_53 (c_X0_isServedBy (xl X) (xE X) N q hN u_21 a1 36 hk_a1 hb_a1 kd_36) hk_a1 hb_a1 (by decide) rfl rfl (Nat.le_of_ble_eq_true rfl) dX9_shortestCut_105 (cl' := 0) (sl' := 0) rfl rfl (fun u_22 => ?_)
          refine wG_nmI (fun x7_23 => ?_)
          refine wG_istore C (L' := [(0, .ref (xB X + 35)), (1, .ref (xB X + a1)), (2, .int x2_11), (3, .int x3_12), (4, .int x4_6), (5, .ref (xB X + a_9)), (6, .int x6_13), (7, .int x7_23)]) dX9_shortestCut_108 (by decide) [1, 2, 3, 4, 5, 6, 7, 0] rfl ?_
          refine wG_iload C dX9_shortestCut_110 7 rfl ?_
          refine wG_vK (fun t_24 => (?_ : wG X 8 _ _ N u_21 (rq q) 0 0 126 [(0, .ref (xB X + 35)), (1, .ref (xB X + a1)), (4, .int x4_6), (5, .ref (xB X + a_9)), (6, .int x6_13), (7, .int x7_23)] [])) (fun K_25 hK_K_25 => ?_)
          · refine wG_aload_n C dX9_shortestCut_126 0 rfl ?_
            refine wG_iload C dX9_shortestCut_127 2 rfl ?_
            refine wG_iload C dX9_shortestCut_129 4 rfl ?_
            refine wG_iload C dX9_shortestCut_131 5 rfl ?_
            refine wG_bind (J := (fun (t_26 : Int32) Q => gQ X 8 Q N u_21 (rq q) 0 0 141 [(0, .ref (xB X + 35)), (1, .ref (xB X + a1)), (4, .int x4_6), (5, .ref (xB X + a_9)), (6, .int x6_13)] [.int t_26, .int x6_13, .int x4_6, .ref (xB X + 35)])) ?_ (fun t_26 => (?_ : wG X 8 _ _ N u_21 (rq q) 0 0 141 [(0, .ref (xB X + 35)), (1, .ref (xB X + a1)), (4, .int x4_6), (5, .ref (xB X + a_9)), (6, .int x6_13)] [.int t_26, .int x6_13, .int x4_6, .ref (xB X + 35)]))
            · refine wG_if_ne C dX9_shortestCut_133 ?_ ?_
              · refine wG_iconst C dX9_shortestCut_136 (v := 1) (by decide) ?_
                refine wG_goto C dX9_shortestCut_137 ?_
                exact wG_exit (fun Q e => gQ_lv [0, 1, 2, 3, 4] rfl e)
              · refine wG_iconst C dX9_shortestCut_140 (v := 0) (by decide) ?_
                exact wG_exit (fun Q e => gQ_lv [0, 1, 2, 3, 4] rfl e)
            · refine wG_cV_ri [.int x4_6, .int x6_13, .int t_26] [] C vw_X9_78 (c_X9_told (xl X) (xE X) N q hN u_21 x4_6 x6_13 t_26) kd_35 (wll hN (by decide)) (by decide) rfl rfl (Nat.le_of_ble_eq_true rfl) dX9_shortestCut_141 (cl' := 0) (sl' := 0) rfl rfl (fun u_27 => ?_)
              refine wG_nmI (fun x2_28 => ?_)
              refine wG_istore_n C (L' := [(0, .ref (xB X + 35)), (1, .ref (xB X + a1)), (2, .int x2_28), (4, .int x4_6), (5, .ref (xB X + a_9)), (6, .int x6_13)]) dX9_shortestCut_144 (by decide) [1, 2, 0, 3, 4, 5] rfl ?_
              refine wG_aload C dX9_shortestCut_145 4 rfl ?_
              refine wG_iload C dX9_shortestCut_147 5 rfl ?_
              refine wG_cV_ri [.int x6_13] [] C vw_X9_63 (c_X7_cutEdges (xl X) (xE X) N q hN u_21 a_9 x6_13 hk_a_9) hk_a_9 (wlt hN hk_a_9 (by decide)) (by decide) rfl rfl (Nat.le_of_ble_eq_true rfl) dX9_shortestCut_149 (cl' := 0) (sl' := 0) rfl rfl (fun u_29 => ?_)
              refine wG_nmI (fun x3_30 => ?_)
              refine wG_istore_n C (L' := [(0, .ref (xB X + 35)), (1, .ref (xB X + a1)), (2, .int x2_28), (3, .int x3_30), (4, .int x4_6), (5, .ref (xB X + a_9)), (6, .int x6_13)]) dX9_shortestCut_152 (by decide) [1, 2, 3, 0, 4, 5, 6] rfl ?_
              exact wG_exit (fun Q e => gQ_lv [0, 1, 2, 3, 4, 5, 6] rfl e)
          · refine wG_if_ne C dX9_shortestCut_112 ?_ ?_
            · refine wG_aload_n C dX9_shortestCut_115 1 rfl ?_
              refine wG_aload_n C dX9_shortestCut_116 0 rfl ?_
              refine wG_getR C fl_X9_18_9 rfl kd_35 (wll hN (by decide)) (rf_35_3 q) dX9_shortestCut_117 ?_
              refine wG_cV_ri [.ref (xB X + 37)] [] C vw_X9_53 (c_X0_isServedBy (xl X) (xE X) N q hN u_21 a1 37 hk_a1 hb_a1 kd_37) hk_a1 hb_a1 (by decide) rfl rfl (Nat.le_of_ble_eq_true rfl) dX9_shortestCut_120 (cl' := 0) (sl' := 0) rfl rfl (fun u_31 => ?_)
              refine wG_if_eq C dX9_shortestCut_123 ?_ ?_
              · exact wG_exit (fun Q e => gQ_lv [0, 1, 2, 3, 4, 5, 6] rfl e)
              · exact wG_lv [0, 1, 4, 5, 6, 7] rfl (hK_K_25 ())
            · exact wG_lv [0, 1, 4, 5, 6, 7] rfl (hK_K_25 ())
      · refine wG_iinc C (v := 1) (LL := fun x6_32 => [(0, .ref (xB X + 35)), (1, .ref (xB X + a1)), (2, .int t_18.1), (3, .int t_18.2.1), (4, .int x4_6), (5, .ref (xB X + a_9)), (6, .int x6_32)]) dX9_shortestCut_153 6 rfl (by decide) (by decide) [1, 2, 3, 4, 5, 6, 0] (fun _ => rfl) (fun x6_32 => ?_)
        refine wG_goto C dX9_shortestCut_156 ?_
        exact wG_lv [0, 1, 2, 3, 4, 5, 6] rfl (ih t_18.1 t_18.2.1 x6_32 t_18.2.2)
set_option maxRecDepth 4000 in
theorem wL_X9_shortestCut_9 {X : wX} (C : Cx X yX9_shortestCut cX9_shortestCut 8 (some .int) rm_X9_shortestCut) {N : Nat} {q : Qp} (hN : 137 ≤ N) (h : Hp) (a1 : Nat) (hk_a1 : Kd a1 = 0) (hb_a1 : a1 < N) (x2_1 : Int32) (x3_2 : Int32) (x4_3 : Int32) : ∀ n x2_4 x3_5 x4_6 h_7, wG X 8 (fun (t_8 : (Int32 × Hp)) Q => gQ X 8 Q N t_8.2 (rq q) 0 0 165 [(2, .int t_8.1)] []) (L_X9_shortestCut_9 a1 n x2_4 x3_5 x4_6 h_7) N h_7 (rq q) 0 0 9 [(0, .ref (xB X + 35)), (1, .ref (xB X + a1)), (2, .int x2_4), (3, .int x3_5), (4, .int x4_6)] [] := by
  intro n
  induction n with
  | zero => intro _ _ _ _; exact wG_none
  | succ n ih =>
    intro x2_4 x3_5 x4_6 h_7
    refine wG_of (L_X9_shortestCut_9.eq_2 ..) ?_
    refine wG_iload C dX9_shortestCut_9 4 rfl ?_
    refine wG_aload_n C dX9_shortestCut_11 0 rfl ?_
    refine wG_getR C fl_X9_35_9 rfl kd_35 (wll hN (by decide)) (rf_35_1 q) dX9_shortestCut_12 ?_
    refine wG_getI C fl_X9_39_1 rfl kd_7 (wll hN (by decide)) dX9_shortestCut_15 ?_
    refine wG_icmp_ge C dX9_shortestCut_18 ?_ ?_
    · exact wG_exit (fun Q e => gQ_lv [2] rfl e)
    · refine wG_aload_n C dX9_shortestCut_21 0 rfl ?_
      refine wG_getR C fl_X9_35_9 rfl kd_35 (wll hN (by decide)) (rf_35_1 q) dX9_shortestCut_22 ?_
      refine wG_getI C fl_X9_39_1 rfl kd_7 (wll hN (by decide)) dX9_shortestCut_25 ?_
      refine wG_bipush C dX9_shortestCut_28 (v := 24) (by decide) ?_
      refine wG_icmp_ge C dX9_shortestCut_30 ?_ ?_
      · exact wG_exit (fun Q e => gQ_lv [2] rfl e)
      · refine wG_aload_n C dX9_shortestCut_33 0 rfl ?_
        refine wG_getR C fl_X9_35_9 rfl kd_35 (wll hN (by decide)) (rf_35_1 q) dX9_shortestCut_34 ?_
        refine wG_getR C fl_X9_45_1 rfl kd_7 (wll hN (by decide)) (rf_7_1 q) dX9_shortestCut_37 ?_
        refine wG_iload C dX9_shortestCut_40 4 rfl ?_
        refine wG_aaP C hN kd_7 rfl rfl dX9_shortestCut_42 (fun a_9 hk_a_9 => ?_)
        refine wG_astore C (L' := [(0, .ref (xB X + 35)), (1, .ref (xB X + a1)), (2, .int x2_4), (3, .int x3_5), (4, .int x4_6), (5, .ref (xB X + a_9))]) dX9_shortestCut_43 (by decide) [1, 2, 3, 4, 5, 0] rfl ?_
        refine wG_iconst C dX9_shortestCut_45 (v := 0) (by decide) ?_
        refine wG_nmI (fun x6_10 => ?_)
        refine wG_istore C (L' := [(0, .ref (xB X + 35)), (1, .ref (xB X + a1)), (2, .int x2_4), (3, .int x3_5), (4, .int x4_6), (5, .ref (xB X + a_9)), (6, .int x6_10)]) dX9_shortestCut_46 (by decide) [1, 2, 3, 4, 5, 6, 0] rfl ?_
        refine wG_lv (L' := [(0, .ref (xB X + 35)), (1, .ref (xB X + a1)), (2, .int x2_4), (3, .int x3_5), (4, .int x4_6), (5, .ref (xB X + a_9)), (6, .int x6_10)]) [0, 1, 2, 3, 4, 5, 6] rfl ?_
        refine wG_bind (wL_X9_shortestCut_48 C hN h a1 hk_a1 hb_a1 x2_1 x3_2 x4_3 x2_4 x3_5 x4_6 h_7 a_9 hk_a_9 x6_10 FU x2_4 x3_5 x6_10 h_7) (fun t_15 => (?_ : wG X 8 _ _ N t_15.2.2 (rq q) 0 0 159 [(0, .ref (xB X + 35)), (1, .ref (xB X + a1)), (2, .int t_15.1), (3, .int t_15.2.1), (4, .int x4_6)] []))
        refine wG_iinc C (v := 1) (LL := fun x4_33 => [(0, .ref (xB X + 35)), (1, .ref (xB X + a1)), (2, .int t_15.1), (3, .int t_15.2.1), (4, .int x4_33)]) dX9_shortestCut_159 4 rfl (by decide) (by decide) [1, 2, 3, 4, 0] (fun _ => rfl) (fun x4_33 => ?_)
        refine wG_goto C dX9_shortestCut_162 ?_
        exact wG_lv [0, 1, 2, 3, 4] rfl (ih t_15.1 t_15.2.1 x4_33 t_15.2.2)
set_option maxRecDepth 4000 in
theorem w_X9_shortestCut {X : wX} (C : Cx X yX9_shortestCut cX9_shortestCut 8 (some .int) rm_X9_shortestCut) {N : Nat} {q : Qp} (hN : 137 ≤ N) (h : Hp) (a1 : Nat) (hk_a1 : Kd a1 = 0) (hb_a1 : a1 < N) : wG X 8 (eM X (fun u => (some (.int u.1), N, u.2, (rq q)))) (f_X9_shortestCut h a1) N h (rq q) 0 0 0 [(0, .ref (xB X + 35)), (1, .ref (xB X + a1))] [] := by
  refine wG_of (f_X9_shortestCut.eq_1 ..) ?_
  refine wG_bipush C dX9_shortestCut_0 (v := (-9)) (by decide) ?_
  refine wG_nmI (fun x2_1 => ?_)
  refine wG_istore_n C (L' := [(0, .ref (xB X + 35)), (1, .ref (xB X + a1)), (2, .int x2_1)]) dX9_shortestCut_2 (by decide) [1, 2, 0] rfl ?_
  refine wG_ldc C dX9_shortestCut_3 m_627 ?_
  refine wG_nmI (fun x3_2 => ?_)
  refine wG_istore_n C (L' := [(0, .ref (xB X + 35)), (1, .ref (xB X + a1)), (2, .int x2_1), (3, .int x3_2)]) dX9_shortestCut_5 (by decide) [1, 2, 3, 0] rfl ?_
  refine wG_iconst C dX9_shortestCut_6 (v := 0) (by decide) ?_
  refine wG_nmI (fun x4_3 => ?_)
  refine wG_istore C (L' := [(0, .ref (xB X + 35)), (1, .ref (xB X + a1)), (2, .int x2_1), (3, .int x3_2), (4, .int x4_3)]) dX9_shortestCut_7 (by decide) [1, 2, 3, 4, 0] rfl ?_
  refine wG_lv (L' := [(0, .ref (xB X + 35)), (1, .ref (xB X + a1)), (2, .int x2_1), (3, .int x3_2), (4, .int x4_3)]) [0, 1, 2, 3, 4] rfl ?_
  refine wG_bind (wL_X9_shortestCut_9 C hN h a1 hk_a1 hb_a1 x2_1 x3_2 x4_3 FU x2_1 x3_2 x4_3 h) (fun t_8 => (?_ : wG X 8 _ _ N t_8.2 (rq q) 0 0 165 [(2, .int t_8.1)] []))
  refine wG_iload_n C dX9_shortestCut_165 0 rfl ?_
  exact wG_iret C dX9_shortestCut_166 ⟨by decide, by decide⟩ (fun _ e => e)
theorem c_X9_shortestCut (l : Launch) (E : wE) (N : Nat) (q : Qp) (hN : 137 ≤ N) (h : Hp) (a1 : Nat) (hk_a1 : Kd a1 = 0) (hb_a1 : a1 < N) : ∀ z, f_X9_shortestCut h a1 = some z → CT l E yX9_shortestCut cX9_shortestCut 8 (some .int) rm_X9_shortestCut [.ref (eB E + 35), .ref (eB E + a1)] N h (rq q) ((fun u => (some (.int u.1), N, u.2, (rq q))) z) := CT.of (by decide +kernel) (Nat.le_of_ble_eq_true rfl) (fun X _ e C => by subst e; exact w_X9_shortestCut C hN h a1 hk_a1 hb_a1)
def rm_X11_next : Room := { frames := 4, cells := 1, slots := 3, locals := 103 }
def f_X11_next (q : Qp) (N : Nat) (h : Hp) (x1 : Int32) (x2 : Int32) (x3 : Int32) : Option (Int32 × Nat × Hp × Qp) :=
  (f_X11_isAsk x1 x2 x3).bind fun u_1 =>
  (if u_1 = 0 then
  some ((-2), N, h, q)
  else
  vB (va_up h N (fun _ => 0)) fun h_2 =>
  (f_X0_init h_2 N x1 x2 x3).bind fun u_3 =>
  (f_X9_lightestPiece u_3 N).bind fun u_4 =>
  (if u_4 = (-9) then
  (f_X9_shortestCut u_3 N).bind fun u_5 =>
  some (u_5.1, (N + 1), u_5.2, q)
  else
  some ((-9), (N + 1), u_3, q)))
set_option maxRecDepth 4000 in
theorem w_X11_next {X : wX} (C : Cx X yX11_next cX11_next 5 (some .int) rm_X11_next) {N : Nat} {q : Qp} (hN : 137 ≤ N) (h : Hp) (x1 : Int32) (x2 : Int32) (x3 : Int32) : wG X 5 (eM X (fun u => (some (.int u.1), u.2.1, u.2.2.1, rq u.2.2.2))) (f_X11_next q N h x1 x2 x3) N h (rq q) 0 0 0 [(0, .ref (xB X + 0)), (1, .int x1), (2, .int x2), (3, .int x3)] [] := by
  refine wG_of (f_X11_next.eq_1 ..) ?_
  refine wG_iload_n C dX11_next_0 1 rfl ?_
  refine wG_iload_n C dX11_next_1 2 rfl ?_
  refine wG_iload_n C dX11_next_2 3 rfl ?_
  refine wG_cS_ri [.int x1, .int x2, .int x3] [] C sw_X11_184 (c_X11_isAsk (xl X) (xE X) N q hN h x1 x2 x3) (by decide) rfl rfl (Nat.le_of_ble_eq_true rfl) dX11_next_3 (cl' := 0) (sl' := 0) rfl rfl (fun u_1 => ?_)
  refine wG_if_ne C dX11_next_6 ?_ ?_
  · refine wG_bipush C dX11_next_9 (v := (-2)) (by decide) ?_
    exact wG_iret C dX11_next_11 ⟨by decide, by decide⟩ (fun _ e => e)
  · refine wG_newA C hN ow_X11_188 ⟨by decide, by decide⟩ dX11_next_12 (cl' := 1) (sl' := 3) rfl rfl (fun h_2 => ?_)
    refine wG_dup C dX11_next_15 rfl ?_
    refine wG_iload_n C dX11_next_16 1 rfl ?_
    refine wG_iload_n C dX11_next_17 2 rfl ?_
    refine wG_iload_n C dX11_next_18 3 rfl ?_
    refine wG_cI_wv [.int x1, .int x2, .int x3] [.ref (xB X + N)] C iw_X11_190 (c_X0_init (xl X) (xE X) (N + 1) q (Nat.le_succ_of_le hN) h_2 N x1 x2 x3 (Kd_ge hN) (Nat.lt_succ_self _)) (by decide) rfl rfl (Nat.le_of_ble_eq_true rfl) dX11_next_19 (cl' := 1) (sl' := 3) rfl rfl (fun u_3 => ?_)
    refine wG_astore C (L' := [(0, .ref (xB X + 0)), (4, .ref (xB X + N))]) dX11_next_22 (by decide) [1, 0] rfl ?_
    refine wG_aload_n C dX11_next_24 0 rfl ?_
    refine wG_getR C fl_X11_41_11 rfl kd_0 (wll (Nat.le_succ_of_le hN) (by decide)) (rf_0_4 q) dX11_next_25 ?_
    refine wG_aload C dX11_next_28 1 rfl ?_
    refine wG_cV_ri [.ref (xB X + N)] [] C vw_X11_197 (c_X9_lightestPiece (xl X) (xE X) (N + 1) q (Nat.le_succ_of_le hN) u_3 N (Kd_ge hN) (Nat.lt_succ_self _)) kd_35 (wll (Nat.le_succ_of_le hN) (by decide)) (by decide) rfl rfl (Nat.le_of_ble_eq_true rfl) dX11_next_30 (cl' := 1) (sl' := 3) rfl rfl (fun u_4 => ?_)
    refine wG_bipush C dX11_next_33 (v := (-9)) (by decide) ?_
    refine wG_icmp_ne C dX11_next_35 ?_ ?_
    · refine wG_aload_n C dX11_next_38 0 rfl ?_
      refine wG_getR C fl_X11_41_11 rfl kd_0 (wll (Nat.le_succ_of_le hN) (by decide)) (rf_0_4 q) dX11_next_39 ?_
      refine wG_aload C dX11_next_42 1 rfl ?_
      refine wG_cV_wi [.ref (xB X + N)] [] C vw_X11_201 (c_X9_shortestCut (xl X) (xE X) (N + 1) q (Nat.le_succ_of_le hN) u_3 N (Kd_ge hN) (Nat.lt_succ_self _)) kd_35 (wll (Nat.le_succ_of_le hN) (by decide)) (by decide) rfl rfl (Nat.le_of_ble_eq_true rfl) dX11_next_44 (cl' := 1) (sl' := 3) rfl rfl (fun u_5 => ?_)
      refine wG_goto C dX11_next_47 ?_
      exact wG_iret C dX11_next_52 ⟨by decide, by decide⟩ (fun _ e => e)
    · refine wG_bipush C dX11_next_50 (v := (-9)) (by decide) ?_
      exact wG_iret C dX11_next_52 ⟨by decide, by decide⟩ (fun _ e => e)
theorem c_X11_next (l : Launch) (E : wE) (N : Nat) (q : Qp) (hN : 137 ≤ N) (h : Hp) (x1 : Int32) (x2 : Int32) (x3 : Int32) : ∀ z, f_X11_next q N h x1 x2 x3 = some z → CT l E yX11_next cX11_next 5 (some .int) rm_X11_next [.ref (eB E + 0), .int x1, .int x2, .int x3] N h (rq q) ((fun u => (some (.int u.1), u.2.1, u.2.2.1, rq u.2.2.2)) z) := CT.of (by decide +kernel) (Nat.le_of_ble_eq_true rfl) (fun X _ e C => by subst e; exact w_X11_next C hN h x1 x2 x3)
def rm_X9_cutOff : Room := { frames := 4, cells := 0, slots := 0, locals := 99 }
def f_X9_cutOff (h : Hp) (x1 : Int32) : Option (Int32 × Hp) :=
  vB (x1 / 1000) fun (x2_1 : Int32) =>
  (if x1 < 0 then
  some ((-9), h)
  else
  (f_X1_stillHas h x2_1).bind fun u_2 =>
  (if u_2 = 0 then
  some ((-9), h)
  else
  ((if ((x1 / 100) - (x1 / 100) / 10 * 10) = 0 then
  some 1
  else
  some 0)).bind fun t_3 =>
  (f_X1_divide h x2_1 t_3 ((x1 / 10) - (x1 / 10) / 10 * 10)).bind fun u_4 =>
  vB u_4.1 fun (x3_5 : Int32) =>
  (if (x1 - x1 / 10 * 10) = 1 then
  some (x3_5, u_4.2)
  else
  some (x2_1, u_4.2))))
set_option maxRecDepth 4000 in
theorem w_X9_cutOff {X : wX} (C : Cx X yX9_cutOff cX9_cutOff 4 (some .int) rm_X9_cutOff) {N : Nat} {q : Qp} (hN : 137 ≤ N) (h : Hp) (x1 : Int32) : wG X 4 (eM X (fun u => (some (.int u.1), N, u.2, (rq q)))) (f_X9_cutOff h x1) N h (rq q) 0 0 0 [(0, .ref (xB X + 35)), (1, .int x1)] [] := by
  refine wG_of (f_X9_cutOff.eq_1 ..) ?_
  refine wG_iload_n C dX9_cutOff_0 1 rfl ?_
  refine wG_sipush C dX9_cutOff_1 (v := 1000) (by decide) ?_
  refine wG_idivK C dX9_cutOff_4 (by decide) ?_
  refine wG_nmI (fun x2_1 => ?_)
  refine wG_istore_n C (L' := [(0, .ref (xB X + 35)), (1, .int x1), (2, .int x2_1)]) dX9_cutOff_5 (by decide) [1, 2, 0] rfl ?_
  refine wG_iload_n C dX9_cutOff_6 1 rfl ?_
  refine wG_if_lt C dX9_cutOff_7 ?_ ?_
  · refine wG_bipush C dX9_cutOff_21 (v := (-9)) (by decide) ?_
    exact wG_iret C dX9_cutOff_23 ⟨by decide, by decide⟩ (fun _ e => e)
  · refine wG_aload_n C dX9_cutOff_10 0 rfl ?_
    refine wG_getR C fl_X9_35_9 rfl kd_35 (wll hN (by decide)) (rf_35_1 q) dX9_cutOff_11 ?_
    refine wG_iload_n C dX9_cutOff_14 2 rfl ?_
    refine wG_cV_ri [.int x2_1] [] C vw_X9_82 (c_X1_stillHas (xl X) (xE X) N q hN h x2_1) kd_7 (wll hN (by decide)) (by decide) rfl rfl (Nat.le_of_ble_eq_true rfl) dX9_cutOff_15 (cl' := 0) (sl' := 0) rfl rfl (fun u_2 => ?_)
    refine wG_if_ne C dX9_cutOff_18 ?_ ?_
    · refine wG_bipush C dX9_cutOff_21 (v := (-9)) (by decide) ?_
      exact wG_iret C dX9_cutOff_23 ⟨by decide, by decide⟩ (fun _ e => e)
    · refine wG_aload_n C dX9_cutOff_24 0 rfl ?_
      refine wG_getR C fl_X9_35_9 rfl kd_35 (wll hN (by decide)) (rf_35_1 q) dX9_cutOff_25 ?_
      refine wG_iload_n C dX9_cutOff_28 2 rfl ?_
      refine wG_iload_n C dX9_cutOff_29 1 rfl ?_
      refine wG_bipush C dX9_cutOff_30 (v := 100) (by decide) ?_
      refine wG_idivK C dX9_cutOff_32 (by decide) ?_
      refine wG_bipush C dX9_cutOff_33 (v := 10) (by decide) ?_
      refine wG_iremK C dX9_cutOff_35 (by decide) ?_
      refine wG_bind (J := (fun (t_3 : Int32) Q => gQ X 4 Q N h (rq q) 0 0 44 [(1, .int x1), (2, .int x2_1)] [.int t_3, .int x2_1, .ref (xB X + 7)])) ?_ (fun t_3 => (?_ : wG X 4 _ _ N h (rq q) 0 0 44 [(1, .int x1), (2, .int x2_1)] [.int t_3, .int x2_1, .ref (xB X + 7)]))
      · refine wG_if_ne C dX9_cutOff_36 ?_ ?_
        · refine wG_iconst C dX9_cutOff_39 (v := 1) (by decide) ?_
          refine wG_goto C dX9_cutOff_40 ?_
          exact wG_exit (fun Q e => gQ_lv [1, 2] rfl e)
        · refine wG_iconst C dX9_cutOff_43 (v := 0) (by decide) ?_
          exact wG_exit (fun Q e => gQ_lv [1, 2] rfl e)
      · refine wG_iload_n C dX9_cutOff_44 0 rfl ?_
        refine wG_bipush C dX9_cutOff_45 (v := 10) (by decide) ?_
        refine wG_idivK C dX9_cutOff_47 (by decide) ?_
        refine wG_bipush C dX9_cutOff_48 (v := 10) (by decide) ?_
        refine wG_iremK C dX9_cutOff_50 (by decide) ?_
        refine wG_cV_wi [.int x2_1, .int t_3, .int ((x1 / 10) - (x1 / 10) / 10 * 10)] [] C vw_X9_85 (c_X1_divide (xl X) (xE X) N q hN h x2_1 t_3 ((x1 / 10) - (x1 / 10) / 10 * 10)) kd_7 (wll hN (by decide)) (by decide) rfl rfl (Nat.le_of_ble_eq_true rfl) dX9_cutOff_51 (cl' := 0) (sl' := 0) rfl rfl (fun u_4 => ?_)
        refine wG_nmI (fun x3_5 => ?_)
        refine wG_istore_n C (L' := [(1, .int x1), (2, .int x2_1), (3, .int x3_5)]) dX9_cutOff_54 (by decide) [1, 2, 0] rfl ?_
        refine wG_iload_n C dX9_cutOff_55 0 rfl ?_
        refine wG_bipush C dX9_cutOff_56 (v := 10) (by decide) ?_
        refine wG_iremK C dX9_cutOff_58 (by decide) ?_
        refine wG_iconst C dX9_cutOff_59 (v := 1) (by decide) ?_
        refine wG_icmp_ne C dX9_cutOff_60 ?_ ?_
        · refine wG_iload_n C dX9_cutOff_63 2 rfl ?_
          refine wG_goto C dX9_cutOff_64 ?_
          exact wG_iret C dX9_cutOff_68 ⟨by decide, by decide⟩ (fun _ e => e)
        · refine wG_iload_n C dX9_cutOff_67 1 rfl ?_
          exact wG_iret C dX9_cutOff_68 ⟨by decide, by decide⟩ (fun _ e => e)
theorem c_X9_cutOff (l : Launch) (E : wE) (N : Nat) (q : Qp) (hN : 137 ≤ N) (h : Hp) (x1 : Int32) : ∀ z, f_X9_cutOff h x1 = some z → CT l E yX9_cutOff cX9_cutOff 4 (some .int) rm_X9_cutOff [.ref (eB E + 35), .int x1] N h (rq q) ((fun u => (some (.int u.1), N, u.2, (rq q))) z) := CT.of (by decide +kernel) (Nat.le_of_ble_eq_true rfl) (fun X _ e C => by subst e; exact w_X9_cutOff C hN h x1)
def rm_X11_serve : Room := { frames := 5, cells := 1, slots := 3, locals := 122 }
def f_X11_serve (q : Qp) (N : Nat) (h : Hp) (x1 : Int32) (x2 : Int32) (x3 : Int32) : Option (Int32 × Nat × Hp × Qp) :=
  (f_X11_isAsk x1 x2 x3).bind fun u_1 =>
  (if u_1 = 0 then
  some ((-2), N, h, q)
  else
  vB (va_up h N (fun _ => 0)) fun h_2 =>
  (f_X0_init h_2 N x1 x2 x3).bind fun u_3 =>
  (f_X9_lightestPiece u_3 N).bind fun u_4 =>
  vB u_4 fun (x5_5 : Int32) =>
  ((if x5_5 = (-9) then
  (f_X9_shortestCut u_3 N).bind fun u_7 =>
  (f_X9_cutOff u_7.2 u_7.1).bind fun u_8 =>
  vB u_8.1 fun (x5_9 : Int32) =>
  some (x5_9, u_8.2)
  else
  some (x5_5, u_3))).bind fun t_6 =>
  (f_X1_stillHas t_6.2 t_6.1).bind fun u_10 =>
  (if u_10 = 0 then
  some ((-9), (N + 1), t_6.2, q)
  else
  if inB t_6.1 24 then vB (10 + ix t_6.1) fun a_11 =>
  vB (u2 t_6.2 a_11 6 1) fun h_12 =>
  some (t_6.1, (N + 1), h_12, q) else none))
set_option maxRecDepth 4000 in
theorem w_X11_serve {X : wX} (C : Cx X yX11_serve cX11_serve 6 (some .int) rm_X11_serve) {N : Nat} {q : Qp} (hN : 137 ≤ N) (h : Hp) (x1 : Int32) (x2 : Int32) (x3 : Int32) : wG X 6 (eM X (fun u => (some (.int u.1), u.2.1, u.2.2.1, rq u.2.2.2))) (f_X11_serve q N h x1 x2 x3) N h (rq q) 0 0 0 [(0, .ref (xB X + 0)), (1, .int x1), (2, .int x2), (3, .int x3)] [] := by
  refine wG_of (f_X11_serve.eq_1 ..) ?_
  refine wG_iload_n C dX11_serve_0 1 rfl ?_
  refine wG_iload_n C dX11_serve_1 2 rfl ?_
  refine wG_iload_n C dX11_serve_2 3 rfl ?_
  refine wG_cS_ri [.int x1, .int x2, .int x3] [] C sw_X11_184 (c_X11_isAsk (xl X) (xE X) N q hN h x1 x2 x3) (by decide) rfl rfl (Nat.le_of_ble_eq_true rfl) dX11_serve_3 (cl' := 0) (sl' := 0) rfl rfl (fun u_1 => ?_)
  refine wG_if_ne C dX11_serve_6 ?_ ?_
  · refine wG_bipush C dX11_serve_9 (v := (-2)) (by decide) ?_
    exact wG_iret C dX11_serve_11 ⟨by decide, by decide⟩ (fun _ e => e)
  · refine wG_newA C hN ow_X11_188 ⟨by decide, by decide⟩ dX11_serve_12 (cl' := 1) (sl' := 3) rfl rfl (fun h_2 => ?_)
    refine wG_dup C dX11_serve_15 rfl ?_
    refine wG_iload_n C dX11_serve_16 1 rfl ?_
    refine wG_iload_n C dX11_serve_17 2 rfl ?_
    refine wG_iload_n C dX11_serve_18 3 rfl ?_
    refine wG_cI_wv [.int x1, .int x2, .int x3] [.ref (xB X + N)] C iw_X11_190 (c_X0_init (xl X) (xE X) (N + 1) q (Nat.le_succ_of_le hN) h_2 N x1 x2 x3 (Kd_ge hN) (Nat.lt_succ_self _)) (by decide) rfl rfl (Nat.le_of_ble_eq_true rfl) dX11_serve_19 (cl' := 1) (sl' := 3) rfl rfl (fun u_3 => ?_)
    refine wG_astore C (L' := [(0, .ref (xB X + 0)), (4, .ref (xB X + N))]) dX11_serve_22 (by decide) [1, 0] rfl ?_
    refine wG_aload_n C dX11_serve_24 0 rfl ?_
    refine wG_getR C fl_X11_41_11 rfl kd_0 (wll (Nat.le_succ_of_le hN) (by decide)) (rf_0_4 q) dX11_serve_25 ?_
    refine wG_aload C dX11_serve_28 1 rfl ?_
    refine wG_cV_ri [.ref (xB X + N)] [] C vw_X11_197 (c_X9_lightestPiece (xl X) (xE X) (N + 1) q (Nat.le_succ_of_le hN) u_3 N (Kd_ge hN) (Nat.lt_succ_self _)) kd_35 (wll (Nat.le_succ_of_le hN) (by decide)) (by decide) rfl rfl (Nat.le_of_ble_eq_true rfl) dX11_serve_30 (cl' := 1) (sl' := 3) rfl rfl (fun u_4 => ?_)
    refine wG_nmI (fun x5_5 => ?_)
    refine wG_istore C (L' := [(0, .ref (xB X + 0)), (4, .ref (xB X + N)), (5, .int x5_5)]) dX11_serve_33 (by decide) [1, 2, 0] rfl ?_
    refine wG_iload C dX11_serve_35 2 rfl ?_
    refine wG_bipush C dX11_serve_37 (v := (-9)) (by decide) ?_
    refine wG_bind (J := (fun (t_6 : (Int32 × Hp)) Q => gQ X 6 Q (N + 1) t_6.2 (rq q) 1 3 60 [(0, .ref (xB X + 0)), (5, .int t_6.1)] [])) ?_ (fun t_6 => (?_ : wG X 6 _ _ (N + 1) t_6.2 (rq q) 1 3 60 [(0, .ref (xB X + 0)), (5, .int t_6.1)] []))
    · refine wG_icmp_ne C dX11_serve_39 ?_ ?_
      · refine wG_aload_n C dX11_serve_42 0 rfl ?_
        refine wG_getR C fl_X11_41_11 rfl kd_0 (wll (Nat.le_succ_of_le hN) (by decide)) (rf_0_4 q) dX11_serve_43 ?_
        refine wG_aload_n C dX11_serve_46 0 rfl ?_
        refine wG_getR C fl_X11_41_11 rfl kd_0 (wll (Nat.le_succ_of_le hN) (by decide)) (rf_0_4 q) dX11_serve_47 ?_
        refine wG_aload C dX11_serve_50 1 rfl ?_
        refine wG_cV_wi [.ref (xB X + N)] [.ref (xB X + 35)] C vw_X11_201 (c_X9_shortestCut (xl X) (xE X) (N + 1) q (Nat.le_succ_of_le hN) u_3 N (Kd_ge hN) (Nat.lt_succ_self _)) kd_35 (wll (Nat.le_succ_of_le hN) (by decide)) (by decide) rfl rfl (Nat.le_of_ble_eq_true rfl) dX11_serve_52 (cl' := 1) (sl' := 3) rfl rfl (fun u_7 => ?_)
        refine wG_cV_wi [.int u_7.1] [] C vw_X11_204 (c_X9_cutOff (xl X) (xE X) (N + 1) q (Nat.le_succ_of_le hN) u_7.2 u_7.1) kd_35 (wll (Nat.le_succ_of_le hN) (by decide)) (by decide) rfl rfl (Nat.le_of_ble_eq_true rfl) dX11_serve_55 (cl' := 1) (sl' := 3) rfl rfl (fun u_8 => ?_)
        refine wG_nmI (fun x5_9 => ?_)
        refine wG_istore C (L' := [(0, .ref (xB X + 0)), (5, .int x5_9)]) dX11_serve_58 (by decide) [1, 0] rfl ?_
        exact wG_exit (fun Q e => gQ_lv [0, 1] rfl e)
      · exact wG_exit (fun Q e => gQ_lv [0, 2] rfl e)
    · refine wG_aload_n C dX11_serve_60 0 rfl ?_
      refine wG_getR C fl_X11_28_11 rfl kd_0 (wll (Nat.le_succ_of_le hN) (by decide)) (rf_0_2 q) dX11_serve_61 ?_
      refine wG_iload C dX11_serve_64 1 rfl ?_
      refine wG_cV_ri [.int t_6.1] [] C vw_X11_122 (c_X1_stillHas (xl X) (xE X) (N + 1) q (Nat.le_succ_of_le hN) t_6.2 t_6.1) kd_7 (wll (Nat.le_succ_of_le hN) (by decide)) (by decide) rfl rfl (Nat.le_of_ble_eq_true rfl) dX11_serve_66 (cl' := 1) (sl' := 3) rfl rfl (fun u_10 => ?_)
      refine wG_if_ne C dX11_serve_69 ?_ ?_
      · refine wG_bipush C dX11_serve_72 (v := (-9)) (by decide) ?_
        exact wG_iret C dX11_serve_74 ⟨by decide, by decide⟩ (fun _ e => e)
      · refine wG_aload_n C dX11_serve_75 0 rfl ?_
        refine wG_getR C fl_X11_28_11 rfl kd_0 (wll (Nat.le_succ_of_le hN) (by decide)) (rf_0_2 q) dX11_serve_76 ?_
        refine wG_getR C fl_X11_126_1 rfl kd_7 (wll (Nat.le_succ_of_le hN) (by decide)) (rf_7_1 q) dX11_serve_79 ?_
        refine wG_iload C dX11_serve_82 1 rfl ?_
        refine wG_aaP C (Nat.le_succ_of_le hN) kd_7 rfl rfl dX11_serve_84 (fun a_11 hk_a_11 => ?_)
        refine wG_iconst C dX11_serve_85 (v := 1) (by decide) ?_
        refine wG_putI C fl_X11_144_7 (fp_7_6 _) (fun e => Bool.noConfusion e) rfl hk_a_11 (wlt (Nat.le_succ_of_le hN) hk_a_11 (by decide)) dX11_serve_86 (fun h_12 => ?_)
        refine wG_iload C dX11_serve_89 1 rfl ?_
        exact wG_iret C dX11_serve_91 ⟨by decide, by decide⟩ (fun _ e => e)
theorem c_X11_serve (l : Launch) (E : wE) (N : Nat) (q : Qp) (hN : 137 ≤ N) (h : Hp) (x1 : Int32) (x2 : Int32) (x3 : Int32) : ∀ z, f_X11_serve q N h x1 x2 x3 = some z → CT l E yX11_serve cX11_serve 6 (some .int) rm_X11_serve [.ref (eB E + 0), .int x1, .int x2, .int x3] N h (rq q) ((fun u => (some (.int u.1), u.2.1, u.2.2.1, rq u.2.2.2)) z) := CT.of (by decide +kernel) (Nat.le_of_ble_eq_true rfl) (fun X _ e C => by subst e; exact w_X11_serve C hN h x1 x2 x3)
def rm_X9_laterWire : Room := { frames := 3, cells := 0, slots := 0, locals := 76 }
def L_X9_laterWire_17 (a1 : Nat) (a2 : Nat) (x3 : Int32) : Nat → Int32 → Int32 → Hp → Option (Int32 × Hp)
  | 0, _, _, _ => none
  | n + 1, x4_4, x5_5, h_6 =>
    (f_X7_cuts h_6 a1).bind fun u_8 =>
    (if u_8 ≤ x5_5 then
    some (x4_4, h_6)
    else
    (if x3 = 0 then
    some (x4_4, h_6)
    else
    (f_X7_cutEdges h_6 a1 x5_5).bind fun u_9 =>
    ((if x4_4 ≤ u_9 then
    some (x4_4, h_6)
    else
    (f_X7_isAcross h_6 a1 x5_5).bind fun u_11 =>
    (f_X7_cutAt h_6 a1 x5_5).bind fun u_12 =>
    (f_X7_part h_6 a1 u_11 u_12 38 39).bind fun u_13 =>
    (f_X0_isServedBy u_13 a2 38).bind fun u_14 =>
    vK (fun (t_15 : Unit) =>
    (f_X7_cutEdges u_13 a1 x5_5).bind fun u_17 =>
    vB u_17 fun (x4_18 : Int32) =>
    some (x4_18, u_13)) fun K_16 =>
    (if u_14 = 0 then
    (f_X0_isServedBy u_13 a2 39).bind fun u_19 =>
    (if u_19 = 0 then
    some (x4_4, u_13)
    else
    K_16 ())
    else
    K_16 ()))).bind fun t_10 =>
    vB (x5_5 + 1) fun (x5_20 : Int32) =>
    L_X9_laterWire_17 a1 a2 x3 n t_10.1 x5_20 t_10.2))
def f_X9_laterWire (h : Hp) (a1 : Nat) (a2 : Nat) (x3 : Int32) : Option (Int32 × Hp) :=
  (f_X0_isServedBy h a2 a1).bind fun u_1 =>
  (if u_1 = 0 then
  vB 1000000 fun (x4_2 : Int32) =>
  vB 0 fun (x5_3 : Int32) =>
  (L_X9_laterWire_17 a1 a2 x3 FU x4_2 x5_3 h).bind fun t_7 =>
  some (t_7.1, t_7.2)
  else
  some (0, h))
set_option maxRecDepth 4000 in
theorem wL_X9_laterWire_17 {X : wX} (C : Cx X yX9_laterWire cX9_laterWire 6 (some .int) rm_X9_laterWire) {N : Nat} {q : Qp} (hN : 137 ≤ N) (h : Hp) (a1 : Nat) (hk_a1 : Kd a1 = 7) (a2 : Nat) (hk_a2 : Kd a2 = 0) (hb_a2 : a2 < N) (x3 : Int32) (u_1 : Int32) (x4_2 : Int32) (x5_3 : Int32) : ∀ n x4_4 x5_5 h_6, wG X 6 (fun (t_7 : (Int32 × Hp)) Q => gQ X 6 Q N t_7.2 (rq q) 0 0 105 [(4, .int t_7.1)] []) (L_X9_laterWire_17 a1 a2 x3 n x4_4 x5_5 h_6) N h_6 (rq q) 0 0 17 [(0, .ref (xB X + 35)), (1, .ref (xB X + a1)), (2, .ref (xB X + a2)), (3, .int x3), (4, .int x4_4), (5, .int x5_5)] [] := by
  intro n
  induction n with
  | zero => intro _ _ _; exact wG_none
  | succ n ih =>
    intro x4_4 x5_5 h_6
    refine wG_of (L_X9_laterWire_17.eq_2 ..) ?_
    refine wG_iload C dX9_laterWire_17 5 rfl ?_
    refine wG_aload_n C dX9_laterWire_19 1 rfl ?_
    refine wG_cV_ri [] [.int x5_5] C vw_X9_60 (c_X7_cuts (xl X) (xE X) N q hN h_6 a1 hk_a1) hk_a1 (wlt hN hk_a1 (by decide)) (by decide) rfl rfl (Nat.le_of_ble_eq_true rfl) dX9_laterWire_20 (cl' := 0) (sl' := 0) rfl rfl (fun u_8 => ?_)
    refine wG_icmp_ge C dX9_laterWire_23 ?_ ?_
    · exact wG_exit (fun Q e => gQ_lv [4] rfl e)
    · refine wG_iload_n C dX9_laterWire_26 3 rfl ?_
      refine wG_if_eq C dX9_laterWire_27 ?_ ?_
      · exact wG_exit (fun Q e => gQ_lv [4] rfl e)
      · refine wG_aload_n C dX9_laterWire_30 1 rfl ?_
        refine wG_iload C dX9_laterWire_31 5 rfl ?_
        refine wG_cV_ri [.int x5_5] [] C vw_X9_63 (c_X7_cutEdges (xl X) (xE X) N q hN h_6 a1 x5_5 hk_a1) hk_a1 (wlt hN hk_a1 (by decide)) (by decide) rfl rfl (Nat.le_of_ble_eq_true rfl) dX9_laterWire_33 (cl' := 0) (sl' := 0) rfl rfl (fun u_9 => ?_)
        refine wG_iload C dX9_laterWire_36 4 rfl ?_
        refine wG_bind (J := (fun (t_10 : (Int32 × Hp)) Q => gQ X 6 Q N t_10.2 (rq q) 0 0 99 [(0, .ref (xB X + 35)), (1, .ref (xB X + a1)), (2, .ref (xB X + a2)), (3, .int x3), (4, .int t_10.1), (5, .int x5_5)] [])) ?_ (fun t_10 => (?_ : wG X 6 _ _ N t_10.2 (rq q) 0 0 99 [(0, .ref (xB X + 35)), (1, .ref (xB X + a1)), (2, .ref (xB X + a2)), (3, .int x3), (4, .int t_10.1), (5, .int x5_5)] []))
        · refine wG_icmp_ge C dX9_laterWire_38 ?_ ?_
          · exact wG_exit (fun Q e => gQ_lv [0, 1, 2, 3, 4, 5] rfl e)
          · refine wG_aload_n C dX9_laterWire_41 1 rfl ?_
            refine wG_aload_n C dX9_laterWire_42 0 rfl ?_
            refine wG_getR C fl_X9_31_9 rfl kd_35 (wll hN (by decide)) (rf_35_0 q) dX9_laterWire_43 ?_
            refine wG_aload_n C dX9_laterWire_46 1 rfl ?_
            refine wG_iload C dX9_laterWire_47 5 rfl ?_
            refine wG_cV_ri [.int x5_5] [.ref (xB X + 3), .ref (xB X + a1)] C vw_X9_67 (c_X7_isAcross (xl X) (xE X) N q hN h_6 a1 x5_5 hk_a1) hk_a1 (wlt hN hk_a1 (by decide)) (by decide) rfl rfl (Nat.le_of_ble_eq_true rfl) dX9_laterWire_49 (cl' := 0) (sl' := 0) rfl rfl (fun u_11 => ?_)
            refine wG_aload_n C dX9_laterWire_52 1 rfl ?_
            refine wG_iload C dX9_laterWire_53 5 rfl ?_
            refine wG_cV_ri [.int x5_5] [.int u_11, .ref (xB X + 3), .ref (xB X + a1)] C vw_X9_71 (c_X7_cutAt (xl X) (xE X) N q hN h_6 a1 x5_5 hk_a1) hk_a1 (wlt hN hk_a1 (by decide)) (by decide) rfl rfl (Nat.le_of_ble_eq_true rfl) dX9_laterWire_55 (cl' := 0) (sl' := 0) rfl rfl (fun u_12 => ?_)
            refine wG_aload_n C dX9_laterWire_58 0 rfl ?_
            refine wG_getR C fl_X9_21_9 rfl kd_35 (wll hN (by decide)) (rf_35_4 q) dX9_laterWire_59 ?_
            refine wG_aload_n C dX9_laterWire_62 0 rfl ?_
            refine wG_getR C fl_X9_24_9 rfl kd_35 (wll hN (by decide)) (rf_35_5 q) dX9_laterWire_63 ?_
            refine wG_cV_wv [.ref (xB X + 3), .int u_11, .int u_12, .ref (xB X + 38), .ref (xB X + 39)] [] C vw_X9_74 (c_X7_part (xl X) (xE X) N q hN h_6 a1 u_11 u_12 38 39 hk_a1 kd_38 kd_39) hk_a1 (wlt hN hk_a1 (by decide)) (by decide) rfl rfl (Nat.le_of_ble_eq_true rfl) dX9_laterWire_66 (cl' := 0) (sl' := 0) rfl rfl (fun u_13 => ?_)
            refine wG_aload_n C dX9_laterWire_69 2 rfl ?_
            refine wG_aload_n C dX9_laterWire_70 0 rfl ?_
            refine wG_getR C fl_X9_21_9 rfl kd_35 (wll hN (by decide)) (rf_35_4 q) dX9_laterWire_71 ?_
            refine wG_cV_ri [.ref (xB X + 38)] [] C vw_X9_53 (c_X0_isServedBy (xl X) (xE X) N q hN u_13 a2 38 hk_a2 hb_a2 kd_38) hk_a2 hb_a2 (by decide) rfl rfl (Nat.le_of_ble_eq_true rfl) dX9_laterWire_74 (cl' := 0) (sl' := 0) rfl rfl (fun u_14 => ?_)
            refine wG_vK (fun t_15 => (?_ : wG X 6 _ _ N u_13 (rq q) 0 0 91 [(0, .ref (xB X + 35)), (1, .ref (xB X + a1)), (2, .ref (xB X + a2)), (3, .int x3), (5, .int x5_5)] [])) (fun K_16 hK_K_16 => ?_)
            · refine wG_aload_n C dX9_laterWire_91 1 rfl ?_
              refine wG_iload C dX9_laterWire_92 4 rfl ?_
              refine wG_cV_ri [.int x5_5] [] C vw_X9_63 (c_X7_cutEdges (xl X) (xE X) N q hN u_13 a1 x5_5 hk_a1) hk_a1 (wlt hN hk_a1 (by decide)) (by decide) rfl rfl (Nat.le_of_ble_eq_true rfl) dX9_laterWire_94 (cl' := 0) (sl' := 0) rfl rfl (fun u_17 => ?_)
              refine wG_nmI (fun x4_18 => ?_)
              refine wG_istore C (L' := [(0, .ref (xB X + 35)), (1, .ref (xB X + a1)), (2, .ref (xB X + a2)), (3, .int x3), (4, .int x4_18), (5, .int x5_5)]) dX9_laterWire_97 (by decide) [1, 2, 3, 4, 0, 5] rfl ?_
              exact wG_exit (fun Q e => gQ_lv [0, 1, 2, 3, 4, 5] rfl e)
            · refine wG_if_ne C dX9_laterWire_77 ?_ ?_
              · refine wG_aload_n C dX9_laterWire_80 2 rfl ?_
                refine wG_aload_n C dX9_laterWire_81 0 rfl ?_
                refine wG_getR C fl_X9_24_9 rfl kd_35 (wll hN (by decide)) (rf_35_5 q) dX9_laterWire_82 ?_
                refine wG_cV_ri [.ref (xB X + 39)] [] C vw_X9_53 (c_X0_isServedBy (xl X) (xE X) N q hN u_13 a2 39 hk_a2 hb_a2 kd_39) hk_a2 hb_a2 (by decide) rfl rfl (Nat.le_of_ble_eq_true rfl) dX9_laterWire_85 (cl' := 0) (sl' := 0) rfl rfl (fun u_19 => ?_)
                refine wG_if_eq C dX9_laterWire_88 ?_ ?_
                · exact wG_exit (fun Q e => gQ_lv [0, 1, 2, 3, 4, 5] rfl e)
                · exact wG_lv [0, 1, 2, 3, 5] rfl (hK_K_16 ())
              · exact wG_lv [0, 1, 2, 3, 5] rfl (hK_K_16 ())
        · refine wG_iinc C (v := 1) (LL := fun x5_20 => [(0, .ref (xB X + 35)), (1, .ref (xB X + a1)), (2, .ref (xB X + a2)), (3, .int x3), (4, .int t_10.1), (5, .int x5_20)]) dX9_laterWire_99 5 rfl (by decide) (by decide) [1, 2, 3, 4, 5, 0] (fun _ => rfl) (fun x5_20 => ?_)
          refine wG_goto C dX9_laterWire_102 ?_
          exact wG_lv [0, 1, 2, 3, 4, 5] rfl (ih t_10.1 x5_20 t_10.2)
set_option maxRecDepth 4000 in
theorem w_X9_laterWire {X : wX} (C : Cx X yX9_laterWire cX9_laterWire 6 (some .int) rm_X9_laterWire) {N : Nat} {q : Qp} (hN : 137 ≤ N) (h : Hp) (a1 : Nat) (hk_a1 : Kd a1 = 7) (a2 : Nat) (hk_a2 : Kd a2 = 0) (hb_a2 : a2 < N) (x3 : Int32) : wG X 6 (eM X (fun u => (some (.int u.1), N, u.2, (rq q)))) (f_X9_laterWire h a1 a2 x3) N h (rq q) 0 0 0 [(0, .ref (xB X + 35)), (1, .ref (xB X + a1)), (2, .ref (xB X + a2)), (3, .int x3)] [] := by
  refine wG_of (f_X9_laterWire.eq_1 ..) ?_
  refine wG_aload_n C dX9_laterWire_0 2 rfl ?_
  refine wG_aload_n C dX9_laterWire_1 1 rfl ?_
  refine wG_cV_ri [.ref (xB X + a1)] [] C vw_X9_53 (c_X0_isServedBy (xl X) (xE X) N q hN h a2 a1 hk_a2 hb_a2 hk_a1) hk_a2 hb_a2 (by decide) rfl rfl (Nat.le_of_ble_eq_true rfl) dX9_laterWire_2 (cl' := 0) (sl' := 0) rfl rfl (fun u_1 => ?_)
  refine wG_if_eq C dX9_laterWire_5 ?_ ?_
  · refine wG_ldc C dX9_laterWire_10 m_627 ?_
    refine wG_nmI (fun x4_2 => ?_)
    refine wG_istore C (L' := [(0, .ref (xB X + 35)), (1, .ref (xB X + a1)), (2, .ref (xB X + a2)), (3, .int x3), (4, .int x4_2)]) dX9_laterWire_12 (by decide) [1, 2, 3, 4, 0] rfl ?_
    refine wG_iconst C dX9_laterWire_14 (v := 0) (by decide) ?_
    refine wG_nmI (fun x5_3 => ?_)
    refine wG_istore C (L' := [(0, .ref (xB X + 35)), (1, .ref (xB X + a1)), (2, .ref (xB X + a2)), (3, .int x3), (4, .int x4_2), (5, .int x5_3)]) dX9_laterWire_15 (by decide) [1, 2, 3, 4, 5, 0] rfl ?_
    refine wG_lv (L' := [(0, .ref (xB X + 35)), (1, .ref (xB X + a1)), (2, .ref (xB X + a2)), (3, .int x3), (4, .int x4_2), (5, .int x5_3)]) [0, 1, 2, 3, 4, 5] rfl ?_
    refine wG_bind (wL_X9_laterWire_17 C hN h a1 hk_a1 a2 hk_a2 hb_a2 x3 u_1 x4_2 x5_3 FU x4_2 x5_3 h) (fun t_7 => (?_ : wG X 6 _ _ N t_7.2 (rq q) 0 0 105 [(4, .int t_7.1)] []))
    refine wG_iload C dX9_laterWire_105 0 rfl ?_
    exact wG_iret C dX9_laterWire_107 ⟨by decide, by decide⟩ (fun _ e => e)
  · refine wG_iconst C dX9_laterWire_8 (v := 0) (by decide) ?_
    exact wG_iret C dX9_laterWire_9 ⟨by decide, by decide⟩ (fun _ e => e)
theorem c_X9_laterWire (l : Launch) (E : wE) (N : Nat) (q : Qp) (hN : 137 ≤ N) (h : Hp) (a1 : Nat) (a2 : Nat) (x3 : Int32) (hk_a1 : Kd a1 = 7) (hk_a2 : Kd a2 = 0) (hb_a2 : a2 < N) : ∀ z, f_X9_laterWire h a1 a2 x3 = some z → CT l E yX9_laterWire cX9_laterWire 6 (some .int) rm_X9_laterWire [.ref (eB E + 35), .ref (eB E + a1), .ref (eB E + a2), .int x3] N h (rq q) ((fun u => (some (.int u.1), N, u.2, (rq q))) z) := CT.of (by decide +kernel) (Nat.le_of_ble_eq_true rfl) (fun X _ e C => by subst e; exact w_X9_laterWire C hN h a1 hk_a1 a2 hk_a2 hb_a2 x3)
def rm_X9_laterWireElsewhere : Room := { frames := 1, cells := 0, slots := 0, locals := 23 }
def L_X9_laterWireElsewhere_6 (h : Hp) (x1 : Int32) (x2 : Int32) : Nat → Int32 → Int32 → Option Int32
  | 0, _, _ => none
  | n + 1, x3_3, x4_4 =>
    (if (h 7 3) ≤ x4_4 then
    some x3_3
    else
    if inB x4_4 24 then
    vB (h 40 (ix x4_4)) fun (x5_6 : Int32) =>
    ((if x4_4 = x1 then
    some x3_3
    else
    vK (fun (t_8 : Unit) =>
    vB (if x5_6 < x3_3 then x5_6 else x3_3) fun (x3_10 : Int32) =>
    some x3_10) fun K_9 =>
    (if x2 = 0 then
    (if x5_6 = 0 then
    K_9 ()
    else
    some x3_3)
    else
    K_9 ()))).bind fun t_7 =>
    vB (x4_4 + 1) fun (x4_11 : Int32) =>
    L_X9_laterWireElsewhere_6 h x1 x2 n t_7 x4_11 else none)
def f_X9_laterWireElsewhere (h : Hp) (x1 : Int32) (x2 : Int32) : Option Int32 :=
  vB 1000000 fun (x3_1 : Int32) =>
  vB 0 fun (x4_2 : Int32) =>
  (L_X9_laterWireElsewhere_6 h x1 x2 FU x3_1 x4_2).bind fun t_5 =>
  some t_5
set_option maxRecDepth 4000 in
theorem wL_X9_laterWireElsewhere_6 {X : wX} (C : Cx X yX9_laterWireElsewhere cX9_laterWireElsewhere 6 (some .int) rm_X9_laterWireElsewhere) {N : Nat} {q : Qp} (hN : 137 ≤ N) (h : Hp) (x1 : Int32) (x2 : Int32) (x3_1 : Int32) (x4_2 : Int32) : ∀ n x3_3 x4_4, wG X 6 (fun (t_5 : Int32) Q => gQ X 6 Q N h (rq q) 0 0 55 [(3, .int t_5)] []) (L_X9_laterWireElsewhere_6 h x1 x2 n x3_3 x4_4) N h (rq q) 0 0 6 [(0, .ref (xB X + 35)), (1, .int x1), (2, .int x2), (3, .int x3_3), (4, .int x4_4)] [] := by
  intro n
  induction n with
  | zero => intro _ _; exact wG_none
  | succ n ih =>
    intro x3_3 x4_4
    refine wG_of (L_X9_laterWireElsewhere_6.eq_2 ..) ?_
    refine wG_iload C dX9_laterWireElsewhere_6 4 rfl ?_
    refine wG_aload_n C dX9_laterWireElsewhere_8 0 rfl ?_
    refine wG_getR C fl_X9_35_9 rfl kd_35 (wll hN (by decide)) (rf_35_1 q) dX9_laterWireElsewhere_9 ?_
    refine wG_getI C fl_X9_39_1 rfl kd_7 (wll hN (by decide)) dX9_laterWireElsewhere_12 ?_
    refine wG_icmp_ge C dX9_laterWireElsewhere_15 ?_ ?_
    · exact wG_exit (fun Q e => gQ_lv [3] rfl e)
    · refine wG_aload_n C dX9_laterWireElsewhere_18 0 rfl ?_
      refine wG_getR C fl_X9_27_9 rfl kd_35 (wll hN (by decide)) (rf_35_6 q) dX9_laterWireElsewhere_19 ?_
      refine wG_iload C dX9_laterWireElsewhere_22 4 rfl ?_
      refine wG_iald C kd_40 (wll hN (by decide)) ln_40 dX9_laterWireElsewhere_24 ?_
      refine wG_nmI (fun x5_6 => ?_)
      refine wG_istore C (L' := [(0, .ref (xB X + 35)), (1, .int x1), (2, .int x2), (3, .int x3_3), (4, .int x4_4), (5, .int x5_6)]) dX9_laterWireElsewhere_25 (by decide) [1, 2, 3, 4, 5, 0] rfl ?_
      refine wG_iload C dX9_laterWireElsewhere_27 4 rfl ?_
      refine wG_iload_n C dX9_laterWireElsewhere_29 1 rfl ?_
      refine wG_bind (J := (fun (t_7 : Int32) Q => gQ X 6 Q N h (rq q) 0 0 49 [(0, .ref (xB X + 35)), (1, .int x1), (2, .int x2), (3, .int t_7), (4, .int x4_4)] [])) ?_ (fun t_7 => (?_ : wG X 6 _ _ N h (rq q) 0 0 49 [(0, .ref (xB X + 35)), (1, .int x1), (2, .int x2), (3, .int t_7), (4, .int x4_4)] []))
      · refine wG_icmp_eq C dX9_laterWireElsewhere_30 ?_ ?_
        · exact wG_exit (fun Q e => gQ_lv [0, 1, 2, 3, 4] rfl e)
        · refine wG_iload_n C dX9_laterWireElsewhere_33 2 rfl ?_
          refine wG_vK (fun t_8 => (?_ : wG X 6 _ _ N h (rq q) 0 0 42 [(0, .ref (xB X + 35)), (1, .int x1), (2, .int x2), (3, .int x3_3), (4, .int x4_4), (5, .int x5_6)] [])) (fun K_9 hK_K_9 => ?_)
          · refine wG_iload_n C dX9_laterWireElsewhere_42 3 rfl ?_
            refine wG_iload C dX9_laterWireElsewhere_43 5 rfl ?_
            refine wG_mmin C mw_X9_112 ⟨by decide, Nat.le_of_ble_eq_true rfl, by decide, by decide⟩ dX9_laterWireElsewhere_45 ?_
            refine wG_nmI (fun x3_10 => ?_)
            refine wG_istore_n C (L' := [(0, .ref (xB X + 35)), (1, .int x1), (2, .int x2), (3, .int x3_10), (4, .int x4_4)]) dX9_laterWireElsewhere_48 (by decide) [1, 2, 3, 0, 4] rfl ?_
            exact wG_exit (fun Q e => gQ_lv [0, 1, 2, 3, 4] rfl e)
          · refine wG_if_ne C dX9_laterWireElsewhere_34 ?_ ?_
            · refine wG_iload C dX9_laterWireElsewhere_37 5 rfl ?_
              refine wG_if_ne C dX9_laterWireElsewhere_39 ?_ ?_
              · exact wG_lv [0, 1, 2, 3, 4, 5] rfl (hK_K_9 ())
              · exact wG_exit (fun Q e => gQ_lv [0, 1, 2, 3, 4] rfl e)
            · exact wG_lv [0, 1, 2, 3, 4, 5] rfl (hK_K_9 ())
      · refine wG_iinc C (v := 1) (LL := fun x4_11 => [(0, .ref (xB X + 35)), (1, .int x1), (2, .int x2), (3, .int t_7), (4, .int x4_11)]) dX9_laterWireElsewhere_49 4 rfl (by decide) (by decide) [1, 2, 3, 4, 0] (fun _ => rfl) (fun x4_11 => ?_)
        refine wG_goto C dX9_laterWireElsewhere_52 ?_
        exact wG_lv [0, 1, 2, 3, 4] rfl (ih t_7 x4_11)
set_option maxRecDepth 4000 in
theorem w_X9_laterWireElsewhere {X : wX} (C : Cx X yX9_laterWireElsewhere cX9_laterWireElsewhere 6 (some .int) rm_X9_laterWireElsewhere) {N : Nat} {q : Qp} (hN : 137 ≤ N) (h : Hp) (x1 : Int32) (x2 : Int32) : wG X 6 (eM X (fun u => (some (.int u), N, h, (rq q)))) (f_X9_laterWireElsewhere h x1 x2) N h (rq q) 0 0 0 [(0, .ref (xB X + 35)), (1, .int x1), (2, .int x2)] [] := by
  refine wG_of (f_X9_laterWireElsewhere.eq_1 ..) ?_
  refine wG_ldc C dX9_laterWireElsewhere_0 m_627 ?_
  refine wG_nmI (fun x3_1 => ?_)
  refine wG_istore_n C (L' := [(0, .ref (xB X + 35)), (1, .int x1), (2, .int x2), (3, .int x3_1)]) dX9_laterWireElsewhere_2 (by decide) [1, 2, 3, 0] rfl ?_
  refine wG_iconst C dX9_laterWireElsewhere_3 (v := 0) (by decide) ?_
  refine wG_nmI (fun x4_2 => ?_)
  refine wG_istore C (L' := [(0, .ref (xB X + 35)), (1, .int x1), (2, .int x2), (3, .int x3_1), (4, .int x4_2)]) dX9_laterWireElsewhere_4 (by decide) [1, 2, 3, 4, 0] rfl ?_
  refine wG_lv (L' := [(0, .ref (xB X + 35)), (1, .int x1), (2, .int x2), (3, .int x3_1), (4, .int x4_2)]) [0, 1, 2, 3, 4] rfl ?_
  refine wG_bind (wL_X9_laterWireElsewhere_6 C hN h x1 x2 x3_1 x4_2 FU x3_1 x4_2) (fun t_5 => (?_ : wG X 6 _ _ N h (rq q) 0 0 55 [(3, .int t_5)] []))
  refine wG_iload_n C dX9_laterWireElsewhere_55 0 rfl ?_
  exact wG_iret C dX9_laterWireElsewhere_56 ⟨by decide, by decide⟩ (fun _ e => e)
theorem c_X9_laterWireElsewhere (l : Launch) (E : wE) (N : Nat) (q : Qp) (hN : 137 ≤ N) (h : Hp) (x1 : Int32) (x2 : Int32) : ∀ z, f_X9_laterWireElsewhere h x1 x2 = some z → CT l E yX9_laterWireElsewhere cX9_laterWireElsewhere 6 (some .int) rm_X9_laterWireElsewhere [.ref (eB E + 35), .int x1, .int x2] N h (rq q) ((fun u => (some (.int u), N, h, (rq q))) z) := CT.of (by decide +kernel) (Nat.le_of_ble_eq_true rfl) (fun X _ e C => by subst e; exact w_X9_laterWireElsewhere C hN h x1 x2)
def rm_X9_weighWay : Room := { frames := 0, cells := 0, slots := 0, locals := 0 }
def f_X9_weighWay (h : Hp) (x1 : Int32) (x2 : Int32) : Option Hp :=
  (if (h 35 7) ≤ x2 then
  some h
  else
  vB (u2 h 35 7 x2) fun h_1 =>
  vB (u2 h_1 35 8 x1) fun h_2 =>
  some h_2)
set_option maxRecDepth 4000 in
theorem w_X9_weighWay {X : wX} (C : Cx X yX9_weighWay cX9_weighWay 3 none rm_X9_weighWay) {N : Nat} {q : Qp} (hN : 137 ≤ N) (h : Hp) (x1 : Int32) (x2 : Int32) : wG X 3 (eM X (fun u => (none, N, u, (rq q)))) (f_X9_weighWay h x1 x2) N h (rq q) 0 0 0 [(0, .ref (xB X + 35)), (1, .int x1), (2, .int x2)] [] := by
  refine wG_of (f_X9_weighWay.eq_1 ..) ?_
  refine wG_iload_n C dX9_weighWay_0 2 rfl ?_
  refine wG_aload_n C dX9_weighWay_1 0 rfl ?_
  refine wG_getI C fl_X9_89_9 rfl kd_35 (wll hN (by decide)) dX9_weighWay_2 ?_
  refine wG_icmp_ge C dX9_weighWay_5 ?_ ?_
  · exact wG_vret C dX9_weighWay_18 ⟨by decide, by decide⟩ (fun _ e => e)
  · refine wG_aload_n C dX9_weighWay_8 0 rfl ?_
    refine wG_iload_n C dX9_weighWay_9 2 rfl ?_
    refine wG_putI C fl_X9_89_9 (fp_9_7 _) (fun e => Bool.noConfusion e) rfl kd_35 (wll hN (by decide)) dX9_weighWay_10 (fun h_1 => ?_)
    refine wG_aload_n C dX9_weighWay_13 0 rfl ?_
    refine wG_iload_n C dX9_weighWay_14 1 rfl ?_
    refine wG_putI C fl_X9_92_9 (fp_9_8 _) (fun e => Bool.noConfusion e) rfl kd_35 (wll hN (by decide)) dX9_weighWay_15 (fun h_2 => ?_)
    exact wG_vret C dX9_weighWay_18 ⟨by decide, by decide⟩ (fun _ e => e)
theorem c_X9_weighWay (l : Launch) (E : wE) (N : Nat) (q : Qp) (hN : 137 ≤ N) (h : Hp) (x1 : Int32) (x2 : Int32) : ∀ z, f_X9_weighWay h x1 x2 = some z → CT l E yX9_weighWay cX9_weighWay 3 none rm_X9_weighWay [.ref (eB E + 35), .int x1, .int x2] N h (rq q) ((fun u => (none, N, u, (rq q))) z) := CT.of (by decide +kernel) (Nat.le_of_ble_eq_true rfl) (fun X _ e C => by subst e; exact w_X9_weighWay C hN h x1 x2)
def rm_X9_tryCuts : Room := { frames := 4, cells := 0, slots := 0, locals := 101 }
def L_X9_tryCuts_44 (x1 : Int32) (a2 : Nat) (a3 : Nat) (a_1 : Nat) (x5_3 : Int32) (x6_5 : Int32) : Nat → Int32 → Hp → Option Hp
  | 0, _, _ => none
  | n + 1, x7_7, h_8 =>
    (f_X7_cuts h_8 a_1).bind fun u_10 =>
    (if u_10 ≤ x7_7 then
    some h_8
    else
    (f_X7_cutEdges h_8 a_1 x7_7).bind fun u_11 =>
    vB u_11 fun (x8_12 : Int32) =>
    (f_X7_isAcross h_8 a_1 x7_7).bind fun u_13 =>
    (f_X7_cutAt h_8 a_1 x7_7).bind fun u_14 =>
    (f_X7_part h_8 a_1 u_13 u_14 36 37).bind fun u_15 =>
    (f_X0_isServedBy u_15 a2 36).bind fun u_16 =>
    ((if u_16 = 0 then
    some u_15
    else
    (f_X9_laterWire u_15 37 a3 x5_3).bind fun u_18 =>
    vB u_18.1 fun (x9_19 : Int32) =>
    (f_X9_told u_18.2 x1 x7_7 0).bind fun u_20 =>
    (f_X9_weighWay u_18.2 (100000 + u_20) (x8_12 + (if x9_19 < x6_5 then x9_19 else x6_5))).bind fun u_21 =>
    some u_21)).bind fun t_17 =>
    (f_X0_isServedBy t_17 a2 37).bind fun u_22 =>
    ((if u_22 = 0 then
    some t_17
    else
    (f_X9_laterWire t_17 36 a3 x5_3).bind fun u_24 =>
    vB u_24.1 fun (x9_25 : Int32) =>
    (f_X9_told u_24.2 x1 x7_7 1).bind fun u_26 =>
    (f_X9_weighWay u_24.2 (100000 + u_26) (x8_12 + (if x9_25 < x6_5 then x9_25 else x6_5))).bind fun u_27 =>
    some u_27)).bind fun t_23 =>
    vB (x7_7 + 1) fun (x7_28 : Int32) =>
    L_X9_tryCuts_44 x1 a2 a3 a_1 x5_3 x6_5 n x7_28 t_23)
def f_X9_tryCuts (h : Hp) (x1 : Int32) (a2 : Nat) (a3 : Nat) : Option Hp :=
  if inB x1 24 then vB (10 + ix x1) fun a_1 =>
  ((if (24 : Int32) ≤ ((h 7 3) + 1) then
  some 0
  else
  some 1)).bind fun t_2 =>
  vB t_2 fun (x5_3 : Int32) =>
  (f_X9_laterWireElsewhere h x1 x5_3).bind fun u_4 =>
  vB u_4 fun (x6_5 : Int32) =>
  vB 0 fun (x7_6 : Int32) =>
  (L_X9_tryCuts_44 x1 a2 a3 a_1 x5_3 x6_5 FU x7_6 h).bind fun t_9 =>
  some t_9 else none
set_option maxRecDepth 4000 in
theorem wL_X9_tryCuts_44 {X : wX} (C : Cx X yX9_tryCuts cX9_tryCuts 10 none rm_X9_tryCuts) {N : Nat} {q : Qp} (hN : 137 ≤ N) (h : Hp) (x1 : Int32) (a2 : Nat) (hk_a2 : Kd a2 = 0) (hb_a2 : a2 < N) (a3 : Nat) (hk_a3 : Kd a3 = 0) (hb_a3 : a3 < N) (a_1 : Nat) (hk_a_1 : Kd a_1 = 7) (t_2 : Int32) (x5_3 : Int32) (u_4 : Int32) (x6_5 : Int32) (x7_6 : Int32) : ∀ n x7_7 h_8, wG X 10 (fun (t_9 : Hp) Q => gQ X 10 Q N t_9 (rq q) 0 0 198 [] []) (L_X9_tryCuts_44 x1 a2 a3 a_1 x5_3 x6_5 n x7_7 h_8) N h_8 (rq q) 0 0 44 [(0, .ref (xB X + 35)), (1, .int x1), (2, .ref (xB X + a2)), (3, .ref (xB X + a3)), (4, .ref (xB X + a_1)), (5, .int x5_3), (6, .int x6_5), (7, .int x7_7)] [] := by
  intro n
  induction n with
  | zero => intro _ _; exact wG_none
  | succ n ih =>
    intro x7_7 h_8
    refine wG_of (L_X9_tryCuts_44.eq_2 ..) ?_
    refine wG_iload C dX9_tryCuts_44 7 rfl ?_
    refine wG_aload C dX9_tryCuts_46 4 rfl ?_
    refine wG_cV_ri [] [.int x7_7] C vw_X9_60 (c_X7_cuts (xl X) (xE X) N q hN h_8 a_1 hk_a_1) hk_a_1 (wlt hN hk_a_1 (by decide)) (by decide) rfl rfl (Nat.le_of_ble_eq_true rfl) dX9_tryCuts_48 (cl' := 0) (sl' := 0) rfl rfl (fun u_10 => ?_)
    refine wG_icmp_ge C dX9_tryCuts_51 ?_ ?_
    · exact wG_exit (fun Q e => gQ_lv [] rfl e)
    · refine wG_aload C dX9_tryCuts_54 4 rfl ?_
      refine wG_iload C dX9_tryCuts_56 7 rfl ?_
      refine wG_cV_ri [.int x7_7] [] C vw_X9_63 (c_X7_cutEdges (xl X) (xE X) N q hN h_8 a_1 x7_7 hk_a_1) hk_a_1 (wlt hN hk_a_1 (by decide)) (by decide) rfl rfl (Nat.le_of_ble_eq_true rfl) dX9_tryCuts_58 (cl' := 0) (sl' := 0) rfl rfl (fun u_11 => ?_)
      refine wG_nmI (fun x8_12 => ?_)
      refine wG_istore C (L' := [(0, .ref (xB X + 35)), (1, .int x1), (2, .ref (xB X + a2)), (3, .ref (xB X + a3)), (4, .ref (xB X + a_1)), (5, .int x5_3), (6, .int x6_5), (7, .int x7_7), (8, .int x8_12)]) dX9_tryCuts_61 (by decide) [1, 2, 3, 4, 5, 6, 7, 8, 0] rfl ?_
      refine wG_aload C dX9_tryCuts_63 4 rfl ?_
      refine wG_aload_n C dX9_tryCuts_65 0 rfl ?_
      refine wG_getR C fl_X9_31_9 rfl kd_35 (wll hN (by decide)) (rf_35_0 q) dX9_tryCuts_66 ?_
      refine wG_aload C dX9_tryCuts_69 4 rfl ?_
      refine wG_iload C dX9_tryCuts_71 7 rfl ?_
      refine wG_cV_ri [.int x7_7] [.ref (xB X + 3), .ref (xB X + a_1)] C vw_X9_67 (c_X7_isAcross (xl X) (xE X) N q hN h_8 a_1 x7_7 hk_a_1) hk_a_1 (wlt hN hk_a_1 (by decide)) (by decide) rfl rfl (Nat.le_of_ble_eq_true rfl) dX9_tryCuts_73 (cl' := 0) (sl' := 0) rfl rfl (fun u_13 => ?_)
      refine wG_aload C dX9_tryCuts_76 4 rfl ?_
      refine wG_iload C dX9_tryCuts_78 7 rfl ?_
      refine wG_cV_ri [.int x7_7] [.int u_13, .ref (xB X + 3), .ref (xB X + a_1)] C vw_X9_71 (c_X7_cutAt (xl X) (xE X) N q hN h_8 a_1 x7_7 hk_a_1) hk_a_1 (wlt hN hk_a_1 (by decide)) (by decide) rfl rfl (Nat.le_of_ble_eq_true rfl) dX9_tryCuts_80 (cl' := 0) (sl' := 0) rfl rfl (fun u_14 => ?_)
      refine wG_aload_n C dX9_tryCuts_83 0 rfl ?_
      refine wG_getR C fl_X9_12_9 rfl kd_35 (wll hN (by decide)) (rf_35_2 q) dX9_tryCuts_84 ?_
      refine wG_aload_n C dX9_tryCuts_87 0 rfl ?_
      refine wG_getR C fl_X9_18_9 rfl kd_35 (wll hN (by decide)) (rf_35_3 q) dX9_tryCuts_88 ?_
      refine wG_cV_wv [.ref (xB X + 3), .int u_13, .int u_14, .ref (xB X + 36), .ref (xB X + 37)] [] C vw_X9_74 (c_X7_part (xl X) (xE X) N q hN h_8 a_1 u_13 u_14 36 37 hk_a_1 kd_36 kd_37) hk_a_1 (wlt hN hk_a_1 (by decide)) (by decide) rfl rfl (Nat.le_of_ble_eq_true rfl) dX9_tryCuts_91 (cl' := 0) (sl' := 0) rfl rfl (fun u_15 => ?_)
      refine wG_aload_n C dX9_tryCuts_94 2 rfl ?_
      refine wG_aload_n C dX9_tryCuts_95 0 rfl ?_
      refine wG_getR C fl_X9_12_9 rfl kd_35 (wll hN (by decide)) (rf_35_2 q) dX9_tryCuts_96 ?_
      refine wG_cV_ri [.ref (xB X + 36)] [] C vw_X9_53 (c_X0_isServedBy (xl X) (xE X) N q hN u_15 a2 36 hk_a2 hb_a2 kd_36) hk_a2 hb_a2 (by decide) rfl rfl (Nat.le_of_ble_eq_true rfl) dX9_tryCuts_99 (cl' := 0) (sl' := 0) rfl rfl (fun u_16 => ?_)
      refine wG_bind (J := (fun (t_17 : Hp) Q => gQ X 10 Q N t_17 (rq q) 0 0 143 [(0, .ref (xB X + 35)), (1, .int x1), (2, .ref (xB X + a2)), (3, .ref (xB X + a3)), (4, .ref (xB X + a_1)), (5, .int x5_3), (6, .int x6_5), (7, .int x7_7), (8, .int x8_12)] [])) ?_ (fun t_17 => (?_ : wG X 10 _ _ N t_17 (rq q) 0 0 143 [(0, .ref (xB X + 35)), (1, .int x1), (2, .ref (xB X + a2)), (3, .ref (xB X + a3)), (4, .ref (xB X + a_1)), (5, .int x5_3), (6, .int x6_5), (7, .int x7_7), (8, .int x8_12)] []))
      · refine wG_if_eq C dX9_tryCuts_102 ?_ ?_
        · exact wG_exit (fun Q e => gQ_lv [0, 1, 2, 3, 4, 5, 6, 7, 8] rfl e)
        · refine wG_aload_n C dX9_tryCuts_105 0 rfl ?_
          refine wG_aload_n C dX9_tryCuts_106 0 rfl ?_
          refine wG_getR C fl_X9_18_9 rfl kd_35 (wll hN (by decide)) (rf_35_3 q) dX9_tryCuts_107 ?_
          refine wG_aload_n C dX9_tryCuts_110 3 rfl ?_
          refine wG_iload C dX9_tryCuts_111 5 rfl ?_
          refine wG_cV_wi [.ref (xB X + 37), .ref (xB X + a3), .int x5_3] [] C vw_X9_95 (c_X9_laterWire (xl X) (xE X) N q hN u_15 37 a3 x5_3 kd_37 hk_a3 hb_a3) kd_35 (wll hN (by decide)) (by decide) rfl rfl (Nat.le_of_ble_eq_true rfl) dX9_tryCuts_113 (cl' := 0) (sl' := 0) rfl rfl (fun u_18 => ?_)
          refine wG_nmI (fun x9_19 => ?_)
          refine wG_istore C (L' := [(0, .ref (xB X + 35)), (1, .int x1), (2, .ref (xB X + a2)), (3, .ref (xB X + a3)), (4, .ref (xB X + a_1)), (5, .int x5_3), (6, .int x6_5), (7, .int x7_7), (8, .int x8_12), (9, .int x9_19)]) dX9_tryCuts_116 (by decide) [1, 2, 3, 4, 5, 6, 7, 8, 9, 0] rfl ?_
          refine wG_aload_n C dX9_tryCuts_118 0 rfl ?_
          refine wG_ldc C dX9_tryCuts_119 m_687 ?_
          refine wG_aload_n C dX9_tryCuts_121 0 rfl ?_
          refine wG_iload_n C dX9_tryCuts_122 1 rfl ?_
          refine wG_iload C dX9_tryCuts_123 7 rfl ?_
          refine wG_iconst C dX9_tryCuts_125 (v := 0) (by decide) ?_
          refine wG_cV_ri [.int x1, .int x7_7, .int 0] [.int 100000, .ref (xB X + 35)] C vw_X9_78 (c_X9_told (xl X) (xE X) N q hN u_18.2 x1 x7_7 0) kd_35 (wll hN (by decide)) (by decide) rfl rfl (Nat.le_of_ble_eq_true rfl) dX9_tryCuts_126 (cl' := 0) (sl' := 0) rfl rfl (fun u_20 => ?_)
          refine wG_iadd C dX9_tryCuts_129 ?_
          refine wG_iload C dX9_tryCuts_130 8 rfl ?_
          refine wG_iload C dX9_tryCuts_132 6 rfl ?_
          refine wG_iload C dX9_tryCuts_134 9 rfl ?_
          refine wG_mmin C mw_X9_112 ⟨by decide, Nat.le_of_ble_eq_true rfl, by decide, by decide⟩ dX9_tryCuts_136 ?_
          refine wG_iadd C dX9_tryCuts_139 ?_
          refine wG_cV_wv [.int (100000 + u_20), .int (x8_12 + (if x9_19 < x6_5 then x9_19 else x6_5))] [] C vw_X9_103 (c_X9_weighWay (xl X) (xE X) N q hN u_18.2 (100000 + u_20) (x8_12 + (if x9_19 < x6_5 then x9_19 else x6_5))) kd_35 (wll hN (by decide)) (by decide) rfl rfl (Nat.le_of_ble_eq_true rfl) dX9_tryCuts_140 (cl' := 0) (sl' := 0) rfl rfl (fun u_21 => ?_)
          exact wG_exit (fun Q e => gQ_lv [0, 1, 2, 3, 4, 5, 6, 7, 8] rfl e)
      · refine wG_aload_n C dX9_tryCuts_143 2 rfl ?_
        refine wG_aload_n C dX9_tryCuts_144 0 rfl ?_
        refine wG_getR C fl_X9_18_9 rfl kd_35 (wll hN (by decide)) (rf_35_3 q) dX9_tryCuts_145 ?_
        refine wG_cV_ri [.ref (xB X + 37)] [] C vw_X9_53 (c_X0_isServedBy (xl X) (xE X) N q hN t_17 a2 37 hk_a2 hb_a2 kd_37) hk_a2 hb_a2 (by decide) rfl rfl (Nat.le_of_ble_eq_true rfl) dX9_tryCuts_148 (cl' := 0) (sl' := 0) rfl rfl (fun u_22 => ?_)
        refine wG_bind (J := (fun (t_23 : Hp) Q => gQ X 10 Q N t_23 (rq q) 0 0 192 [(0, .ref (xB X + 35)), (1, .int x1), (2, .ref (xB X + a2)), (3, .ref (xB X + a3)), (4, .ref (xB X + a_1)), (5, .int x5_3), (6, .int x6_5), (7, .int x7_7)] [])) ?_ (fun t_23 => (?_ : wG X 10 _ _ N t_23 (rq q) 0 0 192 [(0, .ref (xB X + 35)), (1, .int x1), (2, .ref (xB X + a2)), (3, .ref (xB X + a3)), (4, .ref (xB X + a_1)), (5, .int x5_3), (6, .int x6_5), (7, .int x7_7)] []))
        · refine wG_if_eq C dX9_tryCuts_151 ?_ ?_
          · exact wG_exit (fun Q e => gQ_lv [0, 1, 2, 3, 4, 5, 6, 7] rfl e)
          · refine wG_aload_n C dX9_tryCuts_154 0 rfl ?_
            refine wG_aload_n C dX9_tryCuts_155 0 rfl ?_
            refine wG_getR C fl_X9_12_9 rfl kd_35 (wll hN (by decide)) (rf_35_2 q) dX9_tryCuts_156 ?_
            refine wG_aload_n C dX9_tryCuts_159 3 rfl ?_
            refine wG_iload C dX9_tryCuts_160 5 rfl ?_
            refine wG_cV_wi [.ref (xB X + 36), .ref (xB X + a3), .int x5_3] [] C vw_X9_95 (c_X9_laterWire (xl X) (xE X) N q hN t_17 36 a3 x5_3 kd_36 hk_a3 hb_a3) kd_35 (wll hN (by decide)) (by decide) rfl rfl (Nat.le_of_ble_eq_true rfl) dX9_tryCuts_162 (cl' := 0) (sl' := 0) rfl rfl (fun u_24 => ?_)
            refine wG_nmI (fun x9_25 => ?_)
            refine wG_istore C (L' := [(0, .ref (xB X + 35)), (1, .int x1), (2, .ref (xB X + a2)), (3, .ref (xB X + a3)), (4, .ref (xB X + a_1)), (5, .int x5_3), (6, .int x6_5), (7, .int x7_7), (8, .int x8_12), (9, .int x9_25)]) dX9_tryCuts_165 (by decide) [1, 2, 3, 4, 5, 6, 7, 8, 9, 0] rfl ?_
            refine wG_aload_n C dX9_tryCuts_167 0 rfl ?_
            refine wG_ldc C dX9_tryCuts_168 m_687 ?_
            refine wG_aload_n C dX9_tryCuts_170 0 rfl ?_
            refine wG_iload_n C dX9_tryCuts_171 1 rfl ?_
            refine wG_iload C dX9_tryCuts_172 7 rfl ?_
            refine wG_iconst C dX9_tryCuts_174 (v := 1) (by decide) ?_
            refine wG_cV_ri [.int x1, .int x7_7, .int 1] [.int 100000, .ref (xB X + 35)] C vw_X9_78 (c_X9_told (xl X) (xE X) N q hN u_24.2 x1 x7_7 1) kd_35 (wll hN (by decide)) (by decide) rfl rfl (Nat.le_of_ble_eq_true rfl) dX9_tryCuts_175 (cl' := 0) (sl' := 0) rfl rfl (fun u_26 => ?_)
            refine wG_iadd C dX9_tryCuts_178 ?_
            refine wG_iload C dX9_tryCuts_179 8 rfl ?_
            refine wG_iload C dX9_tryCuts_181 6 rfl ?_
            refine wG_iload C dX9_tryCuts_183 9 rfl ?_
            refine wG_mmin C mw_X9_112 ⟨by decide, Nat.le_of_ble_eq_true rfl, by decide, by decide⟩ dX9_tryCuts_185 ?_
            refine wG_iadd C dX9_tryCuts_188 ?_
            refine wG_cV_wv [.int (100000 + u_26), .int (x8_12 + (if x9_25 < x6_5 then x9_25 else x6_5))] [] C vw_X9_103 (c_X9_weighWay (xl X) (xE X) N q hN u_24.2 (100000 + u_26) (x8_12 + (if x9_25 < x6_5 then x9_25 else x6_5))) kd_35 (wll hN (by decide)) (by decide) rfl rfl (Nat.le_of_ble_eq_true rfl) dX9_tryCuts_189 (cl' := 0) (sl' := 0) rfl rfl (fun u_27 => ?_)
            exact wG_exit (fun Q e => gQ_lv [0, 1, 2, 3, 4, 5, 6, 7] rfl e)
        · refine wG_iinc C (v := 1) (LL := fun x7_28 => [(0, .ref (xB X + 35)), (1, .int x1), (2, .ref (xB X + a2)), (3, .ref (xB X + a3)), (4, .ref (xB X + a_1)), (5, .int x5_3), (6, .int x6_5), (7, .int x7_28)]) dX9_tryCuts_192 7 rfl (by decide) (by decide) [1, 2, 3, 4, 5, 6, 7, 0] (fun _ => rfl) (fun x7_28 => ?_)
          refine wG_goto C dX9_tryCuts_195 ?_
          exact wG_lv [0, 1, 2, 3, 4, 5, 6, 7] rfl (ih x7_28 t_23)
set_option maxRecDepth 4000 in
theorem w_X9_tryCuts {X : wX} (C : Cx X yX9_tryCuts cX9_tryCuts 10 none rm_X9_tryCuts) {N : Nat} {q : Qp} (hN : 137 ≤ N) (h : Hp) (x1 : Int32) (a2 : Nat) (hk_a2 : Kd a2 = 0) (hb_a2 : a2 < N) (a3 : Nat) (hk_a3 : Kd a3 = 0) (hb_a3 : a3 < N) : wG X 10 (eM X (fun u => (none, N, u, (rq q)))) (f_X9_tryCuts h x1 a2 a3) N h (rq q) 0 0 0 [(0, .ref (xB X + 35)), (1, .int x1), (2, .ref (xB X + a2)), (3, .ref (xB X + a3))] [] := by
  refine wG_of (f_X9_tryCuts.eq_1 ..) ?_
  refine wG_aload_n C dX9_tryCuts_0 0 rfl ?_
  refine wG_getR C fl_X9_35_9 rfl kd_35 (wll hN (by decide)) (rf_35_1 q) dX9_tryCuts_1 ?_
  refine wG_getR C fl_X9_45_1 rfl kd_7 (wll hN (by decide)) (rf_7_1 q) dX9_tryCuts_4 ?_
  refine wG_iload_n C dX9_tryCuts_7 1 rfl ?_
  refine wG_aaP C hN kd_7 rfl rfl dX9_tryCuts_8 (fun a_1 hk_a_1 => ?_)
  refine wG_astore C (L' := [(0, .ref (xB X + 35)), (1, .int x1), (2, .ref (xB X + a2)), (3, .ref (xB X + a3)), (4, .ref (xB X + a_1))]) dX9_tryCuts_9 (by decide) [1, 2, 3, 4, 0] rfl ?_
  refine wG_aload_n C dX9_tryCuts_11 0 rfl ?_
  refine wG_getR C fl_X9_35_9 rfl kd_35 (wll hN (by decide)) (rf_35_1 q) dX9_tryCuts_12 ?_
  refine wG_getI C fl_X9_39_1 rfl kd_7 (wll hN (by decide)) dX9_tryCuts_15 ?_
  refine wG_iconst C dX9_tryCuts_18 (v := 1) (by decide) ?_
  refine wG_iadd C dX9_tryCuts_19 ?_
  refine wG_bipush C dX9_tryCuts_20 (v := 24) (by decide) ?_
  refine wG_bind (J := (fun (t_2 : Int32) Q => gQ X 10 Q N h (rq q) 0 0 30 [(0, .ref (xB X + 35)), (1, .int x1), (2, .ref (xB X + a2)), (3, .ref (xB X + a3)), (4, .ref (xB X + a_1))] [.int t_2])) ?_ (fun t_2 => (?_ : wG X 10 _ _ N h (rq q) 0 0 30 [(0, .ref (xB X + 35)), (1, .int x1), (2, .ref (xB X + a2)), (3, .ref (xB X + a3)), (4, .ref (xB X + a_1))] [.int t_2]))
  · refine wG_icmp_ge C dX9_tryCuts_22 ?_ ?_
    · refine wG_iconst C dX9_tryCuts_29 (v := 0) (by decide) ?_
      exact wG_exit (fun Q e => gQ_lv [0, 1, 2, 3, 4] rfl e)
    · refine wG_iconst C dX9_tryCuts_25 (v := 1) (by decide) ?_
      refine wG_goto C dX9_tryCuts_26 ?_
      exact wG_exit (fun Q e => gQ_lv [0, 1, 2, 3, 4] rfl e)
  · refine wG_nmI (fun x5_3 => ?_)
    refine wG_istore C (L' := [(0, .ref (xB X + 35)), (1, .int x1), (2, .ref (xB X + a2)), (3, .ref (xB X + a3)), (4, .ref (xB X + a_1)), (5, .int x5_3)]) dX9_tryCuts_30 (by decide) [1, 2, 3, 4, 5, 0] rfl ?_
    refine wG_aload_n C dX9_tryCuts_32 0 rfl ?_
    refine wG_iload_n C dX9_tryCuts_33 1 rfl ?_
    refine wG_iload C dX9_tryCuts_34 5 rfl ?_
    refine wG_cV_ri [.int x1, .int x5_3] [] C vw_X9_99 (c_X9_laterWireElsewhere (xl X) (xE X) N q hN h x1 x5_3) kd_35 (wll hN (by decide)) (by decide) rfl rfl (Nat.le_of_ble_eq_true rfl) dX9_tryCuts_36 (cl' := 0) (sl' := 0) rfl rfl (fun u_4 => ?_)
    refine wG_nmI (fun x6_5 => ?_)
    refine wG_istore C (L' := [(0, .ref (xB X + 35)), (1, .int x1), (2, .ref (xB X + a2)), (3, .ref (xB X + a3)), (4, .ref (xB X + a_1)), (5, .int x5_3), (6, .int x6_5)]) dX9_tryCuts_39 (by decide) [1, 2, 3, 4, 5, 6, 0] rfl ?_
    refine wG_iconst C dX9_tryCuts_41 (v := 0) (by decide) ?_
    refine wG_nmI (fun x7_6 => ?_)
    refine wG_istore C (L' := [(0, .ref (xB X + 35)), (1, .int x1), (2, .ref (xB X + a2)), (3, .ref (xB X + a3)), (4, .ref (xB X + a_1)), (5, .int x5_3), (6, .int x6_5), (7, .int x7_6)]) dX9_tryCuts_42 (by decide) [1, 2, 3, 4, 5, 6, 7, 0] rfl ?_
    refine wG_lv (L' := [(0, .ref (xB X + 35)), (1, .int x1), (2, .ref (xB X + a2)), (3, .ref (xB X + a3)), (4, .ref (xB X + a_1)), (5, .int x5_3), (6, .int x6_5), (7, .int x7_6)]) [0, 1, 2, 3, 4, 5, 6, 7] rfl ?_
    refine wG_bind (wL_X9_tryCuts_44 C hN h x1 a2 hk_a2 hb_a2 a3 hk_a3 hb_a3 a_1 hk_a_1 t_2 x5_3 u_4 x6_5 x7_6 FU x7_6 h) (fun t_9 => (?_ : wG X 10 _ _ N t_9 (rq q) 0 0 198 [] []))
    exact wG_vret C dX9_tryCuts_198 ⟨by decide, by decide⟩ (fun _ e => e)
theorem c_X9_tryCuts (l : Launch) (E : wE) (N : Nat) (q : Qp) (hN : 137 ≤ N) (h : Hp) (x1 : Int32) (a2 : Nat) (a3 : Nat) (hk_a2 : Kd a2 = 0) (hb_a2 : a2 < N) (hk_a3 : Kd a3 = 0) (hb_a3 : a3 < N) : ∀ z, f_X9_tryCuts h x1 a2 a3 = some z → CT l E yX9_tryCuts cX9_tryCuts 10 none rm_X9_tryCuts [.ref (eB E + 35), .int x1, .ref (eB E + a2), .ref (eB E + a3)] N h (rq q) ((fun u => (none, N, u, (rq q))) z) := CT.of (by decide +kernel) (Nat.le_of_ble_eq_true rfl) (fun X _ e C => by subst e; exact w_X9_tryCuts C hN h x1 a2 hk_a2 hb_a2 a3 hk_a3 hb_a3)
def rm_X9_lookTwoAhead : Room := { frames := 5, cells := 0, slots := 0, locals := 130 }
def L_X9_lookTwoAhead_33 (a2 : Nat) (x3_4 : Int32) : Nat → Int32 → Hp → Option Hp
  | 0, _, _ => none
  | n + 1, x4_6, h_7 =>
    (if (h_7 7 3) ≤ x4_6 then
    some h_7
    else
    if inB x4_6 24 then vB (10 + ix x4_6) fun a_9 =>
    (f_X9_laterWire h_7 a_9 a2 x3_4).bind fun u_10 =>
    if inB x4_6 24 then vB (u2 u_10.2 40 (ix x4_6) u_10.1) fun h_11 =>
    vB (x4_6 + 1) fun (x4_12 : Int32) =>
    L_X9_lookTwoAhead_33 a2 x3_4 n x4_12 h_11 else none else none)
def L_X9_lookTwoAhead_77 (a1 : Nat) (x3_4 : Int32) : Nat → Int32 → Hp → Option Hp
  | 0, _, _ => none
  | n + 1, x4_14, h_15 =>
    (if (h_15 7 3) ≤ x4_14 then
    some h_15
    else
    if inB x4_14 24 then vB (10 + ix x4_14) fun a_17 =>
    (f_X0_isServedBy h_15 a1 a_17).bind fun u_18 =>
    ((if u_18 = 0 then
    some h_15
    else
    (f_X9_laterWireElsewhere h_15 x4_14 x3_4).bind fun u_20 =>
    (f_X9_weighWay h_15 x4_14 u_20).bind fun u_21 =>
    some u_21)).bind fun t_19 =>
    vB (x4_14 + 1) fun (x4_22 : Int32) =>
    L_X9_lookTwoAhead_77 a1 x3_4 n x4_22 t_19 else none)
def L_X9_lookTwoAhead_128 (a1 : Nat) (a2 : Nat) (x3_4 : Int32) : Nat → Int32 → Hp → Option Hp
  | 0, _, _ => none
  | n + 1, x4_24, h_25 =>
    (if (h_25 7 3) ≤ x4_24 then
    some h_25
    else
    (if x3_4 = 0 then
    some h_25
    else
    (f_X9_tryCuts h_25 x4_24 a1 a2).bind fun u_27 =>
    vB (x4_24 + 1) fun (x4_28 : Int32) =>
    L_X9_lookTwoAhead_128 a1 a2 x3_4 n x4_28 u_27))
def f_X9_lookTwoAhead (h : Hp) (a1 : Nat) (a2 : Nat) : Option Hp :=
  vB (u2 h 35 7 1000000) fun h_1 =>
  vB (u2 h_1 35 8 (-9)) fun h_2 =>
  ((if (24 : Int32) ≤ (h_2 7 3) then
  some 0
  else
  some 1)).bind fun t_3 =>
  vB t_3 fun (x3_4 : Int32) =>
  vB 0 fun (x4_5 : Int32) =>
  (L_X9_lookTwoAhead_33 a2 x3_4 FU x4_5 h_2).bind fun t_8 =>
  vB 0 fun (x4_13 : Int32) =>
  (L_X9_lookTwoAhead_77 a1 x3_4 FU x4_13 t_8).bind fun t_16 =>
  vB 0 fun (x4_23 : Int32) =>
  (L_X9_lookTwoAhead_128 a1 a2 x3_4 FU x4_23 t_16).bind fun t_26 =>
  some t_26
set_option maxRecDepth 4000 in
theorem wL_X9_lookTwoAhead_33 {X : wX} (C : Cx X yX9_lookTwoAhead cX9_lookTwoAhead 5 none rm_X9_lookTwoAhead) {N : Nat} {q : Qp} (hN : 137 ≤ N) (h : Hp) (a1 : Nat) (hk_a1 : Kd a1 = 0) (hb_a1 : a1 < N) (a2 : Nat) (hk_a2 : Kd a2 = 0) (hb_a2 : a2 < N) (h_1 : Hp) (h_2 : Hp) (t_3 : Int32) (x3_4 : Int32) (x4_5 : Int32) : ∀ n x4_6 h_7, wG X 5 (fun (t_8 : Hp) Q => gQ X 5 Q N t_8 (rq q) 0 0 74 [(0, .ref (xB X + 35)), (1, .ref (xB X + a1)), (2, .ref (xB X + a2)), (3, .int x3_4)] []) (L_X9_lookTwoAhead_33 a2 x3_4 n x4_6 h_7) N h_7 (rq q) 0 0 33 [(0, .ref (xB X + 35)), (1, .ref (xB X + a1)), (2, .ref (xB X + a2)), (3, .int x3_4), (4, .int x4_6)] [] := by
  intro n
  induction n with
  | zero => intro _ _; exact wG_none
  | succ n ih =>
    intro x4_6 h_7
    refine wG_of (L_X9_lookTwoAhead_33.eq_2 ..) ?_
    refine wG_iload C dX9_lookTwoAhead_33 4 rfl ?_
    refine wG_aload_n C dX9_lookTwoAhead_35 0 rfl ?_
    refine wG_getR C fl_X9_35_9 rfl kd_35 (wll hN (by decide)) (rf_35_1 q) dX9_lookTwoAhead_36 ?_
    refine wG_getI C fl_X9_39_1 rfl kd_7 (wll hN (by decide)) dX9_lookTwoAhead_39 ?_
    refine wG_icmp_ge C dX9_lookTwoAhead_42 ?_ ?_
    · exact wG_exit (fun Q e => gQ_lv [0, 1, 2, 3] rfl e)
    · refine wG_aload_n C dX9_lookTwoAhead_45 0 rfl ?_
      refine wG_getR C fl_X9_27_9 rfl kd_35 (wll hN (by decide)) (rf_35_6 q) dX9_lookTwoAhead_46 ?_
      refine wG_iload C dX9_lookTwoAhead_49 4 rfl ?_
      refine wG_aload_n C dX9_lookTwoAhead_51 0 rfl ?_
      refine wG_aload_n C dX9_lookTwoAhead_52 0 rfl ?_
      refine wG_getR C fl_X9_35_9 rfl kd_35 (wll hN (by decide)) (rf_35_1 q) dX9_lookTwoAhead_53 ?_
      refine wG_getR C fl_X9_45_1 rfl kd_7 (wll hN (by decide)) (rf_7_1 q) dX9_lookTwoAhead_56 ?_
      refine wG_iload C dX9_lookTwoAhead_59 4 rfl ?_
      refine wG_aaP C hN kd_7 rfl rfl dX9_lookTwoAhead_61 (fun a_9 hk_a_9 => ?_)
      refine wG_aload_n C dX9_lookTwoAhead_62 2 rfl ?_
      refine wG_iload_n C dX9_lookTwoAhead_63 3 rfl ?_
      refine wG_cV_wi [.ref (xB X + a_9), .ref (xB X + a2), .int x3_4] [.int x4_6, .ref (xB X + 40)] C vw_X9_95 (c_X9_laterWire (xl X) (xE X) N q hN h_7 a_9 a2 x3_4 hk_a_9 hk_a2 hb_a2) kd_35 (wll hN (by decide)) (by decide) rfl rfl (Nat.le_of_ble_eq_true rfl) dX9_lookTwoAhead_64 (cl' := 0) (sl' := 0) rfl rfl (fun u_10 => ?_)
      refine wG_iast C kd_40 (wll hN (by decide)) ln_40 dX9_lookTwoAhead_67 (fun h_11 => ?_)
      refine wG_iinc C (v := 1) (LL := fun x4_12 => [(0, .ref (xB X + 35)), (1, .ref (xB X + a1)), (2, .ref (xB X + a2)), (3, .int x3_4), (4, .int x4_12)]) dX9_lookTwoAhead_68 4 rfl (by decide) (by decide) [1, 2, 3, 4, 0] (fun _ => rfl) (fun x4_12 => ?_)
      refine wG_goto C dX9_lookTwoAhead_71 ?_
      exact wG_lv [0, 1, 2, 3, 4] rfl (ih x4_12 h_11)
set_option maxRecDepth 4000 in
theorem wL_X9_lookTwoAhead_77 {X : wX} (C : Cx X yX9_lookTwoAhead cX9_lookTwoAhead 5 none rm_X9_lookTwoAhead) {N : Nat} {q : Qp} (hN : 137 ≤ N) (h : Hp) (a1 : Nat) (hk_a1 : Kd a1 = 0) (hb_a1 : a1 < N) (a2 : Nat) (hk_a2 : Kd a2 = 0) (hb_a2 : a2 < N) (h_1 : Hp) (h_2 : Hp) (t_3 : Int32) (x3_4 : Int32) (x4_5 : Int32) (t_8 : Hp) (x4_13 : Int32) : ∀ n x4_14 h_15, wG X 5 (fun (t_16 : Hp) Q => gQ X 5 Q N t_16 (rq q) 0 0 125 [(0, .ref (xB X + 35)), (1, .ref (xB X + a1)), (2, .ref (xB X + a2)), (3, .int x3_4)] []) (L_X9_lookTwoAhead_77 a1 x3_4 n x4_14 h_15) N h_15 (rq q) 0 0 77 [(0, .ref (xB X + 35)), (1, .ref (xB X + a1)), (2, .ref (xB X + a2)), (3, .int x3_4), (4, .int x4_14)] [] := by
  intro n
  induction n with
  | zero => intro _ _; exact wG_none
  | succ n ih =>
    intro x4_14 h_15
    refine wG_of (L_X9_lookTwoAhead_77.eq_2 ..) ?_
    refine wG_iload C dX9_lookTwoAhead_77 4 rfl ?_
    refine wG_aload_n C dX9_lookTwoAhead_79 0 rfl ?_
    refine wG_getR C fl_X9_35_9 rfl kd_35 (wll hN (by decide)) (rf_35_1 q) dX9_lookTwoAhead_80 ?_
    refine wG_getI C fl_X9_39_1 rfl kd_7 (wll hN (by decide)) dX9_lookTwoAhead_83 ?_
    refine wG_icmp_ge C dX9_lookTwoAhead_86 ?_ ?_
    · exact wG_exit (fun Q e => gQ_lv [0, 1, 2, 3] rfl e)
    · refine wG_aload_n C dX9_lookTwoAhead_89 1 rfl ?_
      refine wG_aload_n C dX9_lookTwoAhead_90 0 rfl ?_
      refine wG_getR C fl_X9_35_9 rfl kd_35 (wll hN (by decide)) (rf_35_1 q) dX9_lookTwoAhead_91 ?_
      refine wG_getR C fl_X9_45_1 rfl kd_7 (wll hN (by decide)) (rf_7_1 q) dX9_lookTwoAhead_94 ?_
      refine wG_iload C dX9_lookTwoAhead_97 4 rfl ?_
      refine wG_aaP C hN kd_7 rfl rfl dX9_lookTwoAhead_99 (fun a_17 hk_a_17 => ?_)
      refine wG_cV_ri [.ref (xB X + a_17)] [] C vw_X9_53 (c_X0_isServedBy (xl X) (xE X) N q hN h_15 a1 a_17 hk_a1 hb_a1 hk_a_17) hk_a1 hb_a1 (by decide) rfl rfl (Nat.le_of_ble_eq_true rfl) dX9_lookTwoAhead_100 (cl' := 0) (sl' := 0) rfl rfl (fun u_18 => ?_)
      refine wG_bind (J := (fun (t_19 : Hp) Q => gQ X 5 Q N t_19 (rq q) 0 0 119 [(0, .ref (xB X + 35)), (1, .ref (xB X + a1)), (2, .ref (xB X + a2)), (3, .int x3_4), (4, .int x4_14)] [])) ?_ (fun t_19 => (?_ : wG X 5 _ _ N t_19 (rq q) 0 0 119 [(0, .ref (xB X + 35)), (1, .ref (xB X + a1)), (2, .ref (xB X + a2)), (3, .int x3_4), (4, .int x4_14)] []))
      · refine wG_if_eq C dX9_lookTwoAhead_103 ?_ ?_
        · exact wG_exit (fun Q e => gQ_lv [0, 1, 2, 3, 4] rfl e)
        · refine wG_aload_n C dX9_lookTwoAhead_106 0 rfl ?_
          refine wG_iload C dX9_lookTwoAhead_107 4 rfl ?_
          refine wG_aload_n C dX9_lookTwoAhead_109 0 rfl ?_
          refine wG_iload C dX9_lookTwoAhead_110 4 rfl ?_
          refine wG_iload_n C dX9_lookTwoAhead_112 3 rfl ?_
          refine wG_cV_ri [.int x4_14, .int x3_4] [.int x4_14, .ref (xB X + 35)] C vw_X9_99 (c_X9_laterWireElsewhere (xl X) (xE X) N q hN h_15 x4_14 x3_4) kd_35 (wll hN (by decide)) (by decide) rfl rfl (Nat.le_of_ble_eq_true rfl) dX9_lookTwoAhead_113 (cl' := 0) (sl' := 0) rfl rfl (fun u_20 => ?_)
          refine wG_cV_wv [.int x4_14, .int u_20] [] C vw_X9_103 (c_X9_weighWay (xl X) (xE X) N q hN h_15 x4_14 u_20) kd_35 (wll hN (by decide)) (by decide) rfl rfl (Nat.le_of_ble_eq_true rfl) dX9_lookTwoAhead_116 (cl' := 0) (sl' := 0) rfl rfl (fun u_21 => ?_)
          exact wG_exit (fun Q e => gQ_lv [0, 1, 2, 3, 4] rfl e)
      · refine wG_iinc C (v := 1) (LL := fun x4_22 => [(0, .ref (xB X + 35)), (1, .ref (xB X + a1)), (2, .ref (xB X + a2)), (3, .int x3_4), (4, .int x4_22)]) dX9_lookTwoAhead_119 4 rfl (by decide) (by decide) [1, 2, 3, 4, 0] (fun _ => rfl) (fun x4_22 => ?_)
        refine wG_goto C dX9_lookTwoAhead_122 ?_
        exact wG_lv [0, 1, 2, 3, 4] rfl (ih x4_22 t_19)
set_option maxRecDepth 4000 in
theorem wL_X9_lookTwoAhead_128 {X : wX} (C : Cx X yX9_lookTwoAhead cX9_lookTwoAhead 5 none rm_X9_lookTwoAhead) {N : Nat} {q : Qp} (hN : 137 ≤ N) (h : Hp) (a1 : Nat) (hk_a1 : Kd a1 = 0) (hb_a1 : a1 < N) (a2 : Nat) (hk_a2 : Kd a2 = 0) (hb_a2 : a2 < N) (h_1 : Hp) (h_2 : Hp) (t_3 : Int32) (x3_4 : Int32) (x4_5 : Int32) (t_8 : Hp) (x4_13 : Int32) (t_16 : Hp) (x4_23 : Int32) : ∀ n x4_24 h_25, wG X 5 (fun (t_26 : Hp) Q => gQ X 5 Q N t_26 (rq q) 0 0 158 [] []) (L_X9_lookTwoAhead_128 a1 a2 x3_4 n x4_24 h_25) N h_25 (rq q) 0 0 128 [(0, .ref (xB X + 35)), (1, .ref (xB X + a1)), (2, .ref (xB X + a2)), (3, .int x3_4), (4, .int x4_24)] [] := by
  intro n
  induction n with
  | zero => intro _ _; exact wG_none
  | succ n ih =>
    intro x4_24 h_25
    refine wG_of (L_X9_lookTwoAhead_128.eq_2 ..) ?_
    refine wG_iload C dX9_lookTwoAhead_128 4 rfl ?_
    refine wG_aload_n C dX9_lookTwoAhead_130 0 rfl ?_
    refine wG_getR C fl_X9_35_9 rfl kd_35 (wll hN (by decide)) (rf_35_1 q) dX9_lookTwoAhead_131 ?_
    refine wG_getI C fl_X9_39_1 rfl kd_7 (wll hN (by decide)) dX9_lookTwoAhead_134 ?_
    refine wG_icmp_ge C dX9_lookTwoAhead_137 ?_ ?_
    · exact wG_exit (fun Q e => gQ_lv [] rfl e)
    · refine wG_iload_n C dX9_lookTwoAhead_140 3 rfl ?_
      refine wG_if_eq C dX9_lookTwoAhead_141 ?_ ?_
      · exact wG_exit (fun Q e => gQ_lv [] rfl e)
      · refine wG_aload_n C dX9_lookTwoAhead_144 0 rfl ?_
        refine wG_iload C dX9_lookTwoAhead_145 4 rfl ?_
        refine wG_aload_n C dX9_lookTwoAhead_147 1 rfl ?_
        refine wG_aload_n C dX9_lookTwoAhead_148 2 rfl ?_
        refine wG_cV_wv [.int x4_24, .ref (xB X + a1), .ref (xB X + a2)] [] C vw_X9_107 (c_X9_tryCuts (xl X) (xE X) N q hN h_25 x4_24 a1 a2 hk_a1 hb_a1 hk_a2 hb_a2) kd_35 (wll hN (by decide)) (by decide) rfl rfl (Nat.le_of_ble_eq_true rfl) dX9_lookTwoAhead_149 (cl' := 0) (sl' := 0) rfl rfl (fun u_27 => ?_)
        refine wG_iinc C (v := 1) (LL := fun x4_28 => [(0, .ref (xB X + 35)), (1, .ref (xB X + a1)), (2, .ref (xB X + a2)), (3, .int x3_4), (4, .int x4_28)]) dX9_lookTwoAhead_152 4 rfl (by decide) (by decide) [1, 2, 3, 4, 0] (fun _ => rfl) (fun x4_28 => ?_)
        refine wG_goto C dX9_lookTwoAhead_155 ?_
        exact wG_lv [0, 1, 2, 3, 4] rfl (ih x4_28 u_27)
set_option maxRecDepth 4000 in
theorem w_X9_lookTwoAhead {X : wX} (C : Cx X yX9_lookTwoAhead cX9_lookTwoAhead 5 none rm_X9_lookTwoAhead) {N : Nat} {q : Qp} (hN : 137 ≤ N) (h : Hp) (a1 : Nat) (hk_a1 : Kd a1 = 0) (hb_a1 : a1 < N) (a2 : Nat) (hk_a2 : Kd a2 = 0) (hb_a2 : a2 < N) : wG X 5 (eM X (fun u => (none, N, u, (rq q)))) (f_X9_lookTwoAhead h a1 a2) N h (rq q) 0 0 0 [(0, .ref (xB X + 35)), (1, .ref (xB X + a1)), (2, .ref (xB X + a2))] [] := by
  refine wG_of (f_X9_lookTwoAhead.eq_1 ..) ?_
  refine wG_aload_n C dX9_lookTwoAhead_0 0 rfl ?_
  refine wG_ldc C dX9_lookTwoAhead_1 m_627 ?_
  refine wG_putI C fl_X9_89_9 (fp_9_7 _) (fun e => Bool.noConfusion e) rfl kd_35 (wll hN (by decide)) dX9_lookTwoAhead_3 (fun h_1 => ?_)
  refine wG_aload_n C dX9_lookTwoAhead_6 0 rfl ?_
  refine wG_bipush C dX9_lookTwoAhead_7 (v := (-9)) (by decide) ?_
  refine wG_putI C fl_X9_92_9 (fp_9_8 _) (fun e => Bool.noConfusion e) rfl kd_35 (wll hN (by decide)) dX9_lookTwoAhead_9 (fun h_2 => ?_)
  refine wG_aload_n C dX9_lookTwoAhead_12 0 rfl ?_
  refine wG_getR C fl_X9_35_9 rfl kd_35 (wll hN (by decide)) (rf_35_1 q) dX9_lookTwoAhead_13 ?_
  refine wG_getI C fl_X9_39_1 rfl kd_7 (wll hN (by decide)) dX9_lookTwoAhead_16 ?_
  refine wG_bipush C dX9_lookTwoAhead_19 (v := 24) (by decide) ?_
  refine wG_bind (J := (fun (t_3 : Int32) Q => gQ X 5 Q N h_2 (rq q) 0 0 29 [(0, .ref (xB X + 35)), (1, .ref (xB X + a1)), (2, .ref (xB X + a2))] [.int t_3])) ?_ (fun t_3 => (?_ : wG X 5 _ _ N h_2 (rq q) 0 0 29 [(0, .ref (xB X + 35)), (1, .ref (xB X + a1)), (2, .ref (xB X + a2))] [.int t_3]))
  · refine wG_icmp_ge C dX9_lookTwoAhead_21 ?_ ?_
    · refine wG_iconst C dX9_lookTwoAhead_28 (v := 0) (by decide) ?_
      exact wG_exit (fun Q e => gQ_lv [0, 1, 2] rfl e)
    · refine wG_iconst C dX9_lookTwoAhead_24 (v := 1) (by decide) ?_
      refine wG_goto C dX9_lookTwoAhead_25 ?_
      exact wG_exit (fun Q e => gQ_lv [0, 1, 2] rfl e)
  · refine wG_nmI (fun x3_4 => ?_)
    refine wG_istore_n C (L' := [(0, .ref (xB X + 35)), (1, .ref (xB X + a1)), (2, .ref (xB X + a2)), (3, .int x3_4)]) dX9_lookTwoAhead_29 (by decide) [1, 2, 3, 0] rfl ?_
    refine wG_iconst C dX9_lookTwoAhead_30 (v := 0) (by decide) ?_
    refine wG_nmI (fun x4_5 => ?_)
    refine wG_istore C (L' := [(0, .ref (xB X + 35)), (1, .ref (xB X + a1)), (2, .ref (xB X + a2)), (3, .int x3_4), (4, .int x4_5)]) dX9_lookTwoAhead_31 (by decide) [1, 2, 3, 4, 0] rfl ?_
    refine wG_lv (L' := [(0, .ref (xB X + 35)), (1, .ref (xB X + a1)), (2, .ref (xB X + a2)), (3, .int x3_4), (4, .int x4_5)]) [0, 1, 2, 3, 4] rfl ?_
    refine wG_bind (wL_X9_lookTwoAhead_33 C hN h a1 hk_a1 hb_a1 a2 hk_a2 hb_a2 h_1 h_2 t_3 x3_4 x4_5 FU x4_5 h_2) (fun t_8 => (?_ : wG X 5 _ _ N t_8 (rq q) 0 0 74 [(0, .ref (xB X + 35)), (1, .ref (xB X + a1)), (2, .ref (xB X + a2)), (3, .int x3_4)] []))
    refine wG_iconst C dX9_lookTwoAhead_74 (v := 0) (by decide) ?_
    refine wG_nmI (fun x4_13 => ?_)
    refine wG_istore C (L' := [(0, .ref (xB X + 35)), (1, .ref (xB X + a1)), (2, .ref (xB X + a2)), (3, .int x3_4), (4, .int x4_13)]) dX9_lookTwoAhead_75 (by decide) [1, 2, 3, 4, 0] rfl ?_
    refine wG_lv (L' := [(0, .ref (xB X + 35)), (1, .ref (xB X + a1)), (2, .ref (xB X + a2)), (3, .int x3_4), (4, .int x4_13)]) [0, 1, 2, 3, 4] rfl ?_
    refine wG_bind (wL_X9_lookTwoAhead_77 C hN h a1 hk_a1 hb_a1 a2 hk_a2 hb_a2 h_1 h_2 t_3 x3_4 x4_5 t_8 x4_13 FU x4_13 t_8) (fun t_16 => (?_ : wG X 5 _ _ N t_16 (rq q) 0 0 125 [(0, .ref (xB X + 35)), (1, .ref (xB X + a1)), (2, .ref (xB X + a2)), (3, .int x3_4)] []))
    refine wG_iconst C dX9_lookTwoAhead_125 (v := 0) (by decide) ?_
    refine wG_nmI (fun x4_23 => ?_)
    refine wG_istore C (L' := [(0, .ref (xB X + 35)), (1, .ref (xB X + a1)), (2, .ref (xB X + a2)), (3, .int x3_4), (4, .int x4_23)]) dX9_lookTwoAhead_126 (by decide) [1, 2, 3, 4, 0] rfl ?_
    refine wG_lv (L' := [(0, .ref (xB X + 35)), (1, .ref (xB X + a1)), (2, .ref (xB X + a2)), (3, .int x3_4), (4, .int x4_23)]) [0, 1, 2, 3, 4] rfl ?_
    refine wG_bind (wL_X9_lookTwoAhead_128 C hN h a1 hk_a1 hb_a1 a2 hk_a2 hb_a2 h_1 h_2 t_3 x3_4 x4_5 t_8 x4_13 t_16 x4_23 FU x4_23 t_16) (fun t_26 => (?_ : wG X 5 _ _ N t_26 (rq q) 0 0 158 [] []))
    exact wG_vret C dX9_lookTwoAhead_158 ⟨by decide, by decide⟩ (fun _ e => e)
theorem c_X9_lookTwoAhead (l : Launch) (E : wE) (N : Nat) (q : Qp) (hN : 137 ≤ N) (h : Hp) (a1 : Nat) (a2 : Nat) (hk_a1 : Kd a1 = 0) (hb_a1 : a1 < N) (hk_a2 : Kd a2 = 0) (hb_a2 : a2 < N) : ∀ z, f_X9_lookTwoAhead h a1 a2 = some z → CT l E yX9_lookTwoAhead cX9_lookTwoAhead 5 none rm_X9_lookTwoAhead [.ref (eB E + 35), .ref (eB E + a1), .ref (eB E + a2)] N h (rq q) ((fun u => (none, N, u, (rq q))) z) := CT.of (by decide +kernel) (Nat.le_of_ble_eq_true rfl) (fun X _ e C => by subst e; exact w_X9_lookTwoAhead C hN h a1 hk_a1 hb_a1 a2 hk_a2 hb_a2)
def rm_X11_two : Room := { frames := 6, cells := 2, slots := 6, locals := 154 }
def f_X11_two (q : Qp) (N : Nat) (h : Hp) (x1 : Int32) (x2 : Int32) (x3 : Int32) (x4 : Int32) (x5 : Int32) : Option (Int32 × Nat × Hp × Qp) :=
  (f_X11_isAsk x1 x2 x5).bind fun u_1 =>
  (if u_1 = 0 then
  some ((-2), N, h, q)
  else
  (f_X11_isAsk x3 x4 x5).bind fun u_2 =>
  (if u_2 = 0 then
  some ((-2), N, h, q)
  else
  vB (va_up h N (fun _ => 0)) fun h_3 =>
  (f_X0_init h_3 N x1 x2 x5).bind fun u_4 =>
  vB (va_up u_4 (N + 1) (fun _ => 0)) fun h_5 =>
  (f_X0_init h_5 (N + 1) x3 x4 x5).bind fun u_6 =>
  (f_X9_lookTwoAhead u_6 N (N + 1)).bind fun u_7 =>
  (if (1000000 : Int32) ≤ (u_7 35 7) then
  some ((-9), ((N + 1) + 1), u_7, q)
  else
  some ((u_7 35 7), ((N + 1) + 1), u_7, q))))
set_option maxRecDepth 4000 in
theorem w_X11_two {X : wX} (C : Cx X yX11_two cX11_two 6 (some .int) rm_X11_two) {N : Nat} {q : Qp} (hN : 137 ≤ N) (h : Hp) (x1 : Int32) (x2 : Int32) (x3 : Int32) (x4 : Int32) (x5 : Int32) : wG X 6 (eM X (fun u => (some (.int u.1), u.2.1, u.2.2.1, rq u.2.2.2))) (f_X11_two q N h x1 x2 x3 x4 x5) N h (rq q) 0 0 0 [(0, .ref (xB X + 0)), (1, .int x1), (2, .int x2), (3, .int x3), (4, .int x4), (5, .int x5)] [] := by
  refine wG_of (f_X11_two.eq_1 ..) ?_
  refine wG_iload_n C dX11_two_0 1 rfl ?_
  refine wG_iload_n C dX11_two_1 2 rfl ?_
  refine wG_iload C dX11_two_2 5 rfl ?_
  refine wG_cS_ri [.int x1, .int x2, .int x5] [] C sw_X11_184 (c_X11_isAsk (xl X) (xE X) N q hN h x1 x2 x5) (by decide) rfl rfl (Nat.le_of_ble_eq_true rfl) dX11_two_4 (cl' := 0) (sl' := 0) rfl rfl (fun u_1 => ?_)
  refine wG_if_eq C dX11_two_7 ?_ ?_
  · refine wG_bipush C dX11_two_21 (v := (-2)) (by decide) ?_
    exact wG_iret C dX11_two_23 ⟨by decide, by decide⟩ (fun _ e => e)
  · refine wG_iload_n C dX11_two_10 3 rfl ?_
    refine wG_iload C dX11_two_11 4 rfl ?_
    refine wG_iload C dX11_two_13 5 rfl ?_
    refine wG_cS_ri [.int x3, .int x4, .int x5] [] C sw_X11_184 (c_X11_isAsk (xl X) (xE X) N q hN h x3 x4 x5) (by decide) rfl rfl (Nat.le_of_ble_eq_true rfl) dX11_two_15 (cl' := 0) (sl' := 0) rfl rfl (fun u_2 => ?_)
    refine wG_if_ne C dX11_two_18 ?_ ?_
    · refine wG_bipush C dX11_two_21 (v := (-2)) (by decide) ?_
      exact wG_iret C dX11_two_23 ⟨by decide, by decide⟩ (fun _ e => e)
    · refine wG_aload_n C dX11_two_24 0 rfl ?_
      refine wG_getR C fl_X11_41_11 rfl kd_0 (wll hN (by decide)) (rf_0_4 q) dX11_two_25 ?_
      refine wG_newA C hN ow_X11_188 ⟨by decide, by decide⟩ dX11_two_28 (cl' := 1) (sl' := 3) rfl rfl (fun h_3 => ?_)
      refine wG_dup C dX11_two_31 rfl ?_
      refine wG_iload_n C dX11_two_32 1 rfl ?_
      refine wG_iload_n C dX11_two_33 2 rfl ?_
      refine wG_iload C dX11_two_34 5 rfl ?_
      refine wG_cI_wv [.int x1, .int x2, .int x5] [.ref (xB X + N), .ref (xB X + 35)] C iw_X11_190 (c_X0_init (xl X) (xE X) (N + 1) q (Nat.le_succ_of_le hN) h_3 N x1 x2 x5 (Kd_ge hN) (Nat.lt_succ_self _)) (by decide) rfl rfl (Nat.le_of_ble_eq_true rfl) dX11_two_36 (cl' := 1) (sl' := 3) rfl rfl (fun u_4 => ?_)
      refine wG_newA C (Nat.le_succ_of_le hN) ow_X11_188 ⟨by decide, by decide⟩ dX11_two_39 (cl' := 2) (sl' := 6) rfl rfl (fun h_5 => ?_)
      refine wG_dup C dX11_two_42 rfl ?_
      refine wG_iload_n C dX11_two_43 3 rfl ?_
      refine wG_iload C dX11_two_44 4 rfl ?_
      refine wG_iload C dX11_two_46 5 rfl ?_
      refine wG_cI_wv [.int x3, .int x4, .int x5] [.ref (xB X + (N + 1)), .ref (xB X + N), .ref (xB X + 35)] C iw_X11_190 (c_X0_init (xl X) (xE X) ((N + 1) + 1) q (Nat.le_succ_of_le (Nat.le_succ_of_le hN)) h_5 (N + 1) x3 x4 x5 (Kd_ge (Nat.le_succ_of_le hN)) (Nat.lt_succ_self _)) (by decide) rfl rfl (Nat.le_of_ble_eq_true rfl) dX11_two_48 (cl' := 2) (sl' := 6) rfl rfl (fun u_6 => ?_)
      refine wG_cV_wv [.ref (xB X + N), .ref (xB X + (N + 1))] [] C vw_X11_208 (c_X9_lookTwoAhead (xl X) (xE X) ((N + 1) + 1) q (Nat.le_succ_of_le (Nat.le_succ_of_le hN)) u_6 N (N + 1) (Kd_ge hN) (Nat.lt_succ_of_lt (Nat.lt_succ_self _)) (Kd_ge (Nat.le_succ_of_le hN)) (Nat.lt_succ_self _)) kd_35 (wll (Nat.le_succ_of_le (Nat.le_succ_of_le hN)) (by decide)) (by decide) rfl rfl (Nat.le_of_ble_eq_true rfl) dX11_two_51 (cl' := 2) (sl' := 6) rfl rfl (fun u_7 => ?_)
      refine wG_aload_n C dX11_two_54 0 rfl ?_
      refine wG_getR C fl_X11_41_11 rfl kd_0 (wll (Nat.le_succ_of_le (Nat.le_succ_of_le hN)) (by decide)) (rf_0_4 q) dX11_two_55 ?_
      refine wG_getI C fl_X11_212_9 rfl kd_35 (wll (Nat.le_succ_of_le (Nat.le_succ_of_le hN)) (by decide)) dX11_two_58 ?_
      refine wG_ldc C dX11_two_61 m_688 ?_
      refine wG_icmp_ge C dX11_two_63 ?_ ?_
      · refine wG_bipush C dX11_two_76 (v := (-9)) (by decide) ?_
        exact wG_iret C dX11_two_78 ⟨by decide, by decide⟩ (fun _ e => e)
      · refine wG_aload_n C dX11_two_66 0 rfl ?_
        refine wG_getR C fl_X11_41_11 rfl kd_0 (wll (Nat.le_succ_of_le (Nat.le_succ_of_le hN)) (by decide)) (rf_0_4 q) dX11_two_67 ?_
        refine wG_getI C fl_X11_212_9 rfl kd_35 (wll (Nat.le_succ_of_le (Nat.le_succ_of_le hN)) (by decide)) dX11_two_70 ?_
        refine wG_goto C dX11_two_73 ?_
        exact wG_iret C dX11_two_78 ⟨by decide, by decide⟩ (fun _ e => e)
theorem c_X11_two (l : Launch) (E : wE) (N : Nat) (q : Qp) (hN : 137 ≤ N) (h : Hp) (x1 : Int32) (x2 : Int32) (x3 : Int32) (x4 : Int32) (x5 : Int32) : ∀ z, f_X11_two q N h x1 x2 x3 x4 x5 = some z → CT l E yX11_two cX11_two 6 (some .int) rm_X11_two [.ref (eB E + 0), .int x1, .int x2, .int x3, .int x4, .int x5] N h (rq q) ((fun u => (some (.int u.1), u.2.1, u.2.2.1, rq u.2.2.2)) z) := CT.of (by decide +kernel) (Nat.le_of_ble_eq_true rfl) (fun X _ e C => by subst e; exact w_X11_two C hN h x1 x2 x3 x4 x5)
def rm_X11_twoFirst : Room := { frames := 6, cells := 2, slots := 6, locals := 154 }
def f_X11_twoFirst (q : Qp) (N : Nat) (h : Hp) (x1 : Int32) (x2 : Int32) (x3 : Int32) (x4 : Int32) (x5 : Int32) : Option (Int32 × Nat × Hp × Qp) :=
  (f_X11_isAsk x1 x2 x5).bind fun u_1 =>
  (if u_1 = 0 then
  some ((-2), N, h, q)
  else
  (f_X11_isAsk x3 x4 x5).bind fun u_2 =>
  (if u_2 = 0 then
  some ((-2), N, h, q)
  else
  vB (va_up h N (fun _ => 0)) fun h_3 =>
  (f_X0_init h_3 N x1 x2 x5).bind fun u_4 =>
  vB (va_up u_4 (N + 1) (fun _ => 0)) fun h_5 =>
  (f_X0_init h_5 (N + 1) x3 x4 x5).bind fun u_6 =>
  (f_X9_lookTwoAhead u_6 N (N + 1)).bind fun u_7 =>
  some ((u_7 35 8), ((N + 1) + 1), u_7, q)))
set_option maxRecDepth 4000 in
theorem w_X11_twoFirst {X : wX} (C : Cx X yX11_twoFirst cX11_twoFirst 6 (some .int) rm_X11_twoFirst) {N : Nat} {q : Qp} (hN : 137 ≤ N) (h : Hp) (x1 : Int32) (x2 : Int32) (x3 : Int32) (x4 : Int32) (x5 : Int32) : wG X 6 (eM X (fun u => (some (.int u.1), u.2.1, u.2.2.1, rq u.2.2.2))) (f_X11_twoFirst q N h x1 x2 x3 x4 x5) N h (rq q) 0 0 0 [(0, .ref (xB X + 0)), (1, .int x1), (2, .int x2), (3, .int x3), (4, .int x4), (5, .int x5)] [] := by
  refine wG_of (f_X11_twoFirst.eq_1 ..) ?_
  refine wG_iload_n C dX11_twoFirst_0 1 rfl ?_
  refine wG_iload_n C dX11_twoFirst_1 2 rfl ?_
  refine wG_iload C dX11_twoFirst_2 5 rfl ?_
  refine wG_cS_ri [.int x1, .int x2, .int x5] [] C sw_X11_184 (c_X11_isAsk (xl X) (xE X) N q hN h x1 x2 x5) (by decide) rfl rfl (Nat.le_of_ble_eq_true rfl) dX11_twoFirst_4 (cl' := 0) (sl' := 0) rfl rfl (fun u_1 => ?_)
  refine wG_if_eq C dX11_twoFirst_7 ?_ ?_
  · refine wG_bipush C dX11_twoFirst_21 (v := (-2)) (by decide) ?_
    exact wG_iret C dX11_twoFirst_23 ⟨by decide, by decide⟩ (fun _ e => e)
  · refine wG_iload_n C dX11_twoFirst_10 3 rfl ?_
    refine wG_iload C dX11_twoFirst_11 4 rfl ?_
    refine wG_iload C dX11_twoFirst_13 5 rfl ?_
    refine wG_cS_ri [.int x3, .int x4, .int x5] [] C sw_X11_184 (c_X11_isAsk (xl X) (xE X) N q hN h x3 x4 x5) (by decide) rfl rfl (Nat.le_of_ble_eq_true rfl) dX11_twoFirst_15 (cl' := 0) (sl' := 0) rfl rfl (fun u_2 => ?_)
    refine wG_if_ne C dX11_twoFirst_18 ?_ ?_
    · refine wG_bipush C dX11_twoFirst_21 (v := (-2)) (by decide) ?_
      exact wG_iret C dX11_twoFirst_23 ⟨by decide, by decide⟩ (fun _ e => e)
    · refine wG_aload_n C dX11_twoFirst_24 0 rfl ?_
      refine wG_getR C fl_X11_41_11 rfl kd_0 (wll hN (by decide)) (rf_0_4 q) dX11_twoFirst_25 ?_
      refine wG_newA C hN ow_X11_188 ⟨by decide, by decide⟩ dX11_twoFirst_28 (cl' := 1) (sl' := 3) rfl rfl (fun h_3 => ?_)
      refine wG_dup C dX11_twoFirst_31 rfl ?_
      refine wG_iload_n C dX11_twoFirst_32 1 rfl ?_
      refine wG_iload_n C dX11_twoFirst_33 2 rfl ?_
      refine wG_iload C dX11_twoFirst_34 5 rfl ?_
      refine wG_cI_wv [.int x1, .int x2, .int x5] [.ref (xB X + N), .ref (xB X + 35)] C iw_X11_190 (c_X0_init (xl X) (xE X) (N + 1) q (Nat.le_succ_of_le hN) h_3 N x1 x2 x5 (Kd_ge hN) (Nat.lt_succ_self _)) (by decide) rfl rfl (Nat.le_of_ble_eq_true rfl) dX11_twoFirst_36 (cl' := 1) (sl' := 3) rfl rfl (fun u_4 => ?_)
      refine wG_newA C (Nat.le_succ_of_le hN) ow_X11_188 ⟨by decide, by decide⟩ dX11_twoFirst_39 (cl' := 2) (sl' := 6) rfl rfl (fun h_5 => ?_)
      refine wG_dup C dX11_twoFirst_42 rfl ?_
      refine wG_iload_n C dX11_twoFirst_43 3 rfl ?_
      refine wG_iload C dX11_twoFirst_44 4 rfl ?_
      refine wG_iload C dX11_twoFirst_46 5 rfl ?_
      refine wG_cI_wv [.int x3, .int x4, .int x5] [.ref (xB X + (N + 1)), .ref (xB X + N), .ref (xB X + 35)] C iw_X11_190 (c_X0_init (xl X) (xE X) ((N + 1) + 1) q (Nat.le_succ_of_le (Nat.le_succ_of_le hN)) h_5 (N + 1) x3 x4 x5 (Kd_ge (Nat.le_succ_of_le hN)) (Nat.lt_succ_self _)) (by decide) rfl rfl (Nat.le_of_ble_eq_true rfl) dX11_twoFirst_48 (cl' := 2) (sl' := 6) rfl rfl (fun u_6 => ?_)
      refine wG_cV_wv [.ref (xB X + N), .ref (xB X + (N + 1))] [] C vw_X11_208 (c_X9_lookTwoAhead (xl X) (xE X) ((N + 1) + 1) q (Nat.le_succ_of_le (Nat.le_succ_of_le hN)) u_6 N (N + 1) (Kd_ge hN) (Nat.lt_succ_of_lt (Nat.lt_succ_self _)) (Kd_ge (Nat.le_succ_of_le hN)) (Nat.lt_succ_self _)) kd_35 (wll (Nat.le_succ_of_le (Nat.le_succ_of_le hN)) (by decide)) (by decide) rfl rfl (Nat.le_of_ble_eq_true rfl) dX11_twoFirst_51 (cl' := 2) (sl' := 6) rfl rfl (fun u_7 => ?_)
      refine wG_aload_n C dX11_twoFirst_54 0 rfl ?_
      refine wG_getR C fl_X11_41_11 rfl kd_0 (wll (Nat.le_succ_of_le (Nat.le_succ_of_le hN)) (by decide)) (rf_0_4 q) dX11_twoFirst_55 ?_
      refine wG_getI C fl_X11_216_9 rfl kd_35 (wll (Nat.le_succ_of_le (Nat.le_succ_of_le hN)) (by decide)) dX11_twoFirst_58 ?_
      exact wG_iret C dX11_twoFirst_61 ⟨by decide, by decide⟩ (fun _ e => e)
theorem c_X11_twoFirst (l : Launch) (E : wE) (N : Nat) (q : Qp) (hN : 137 ≤ N) (h : Hp) (x1 : Int32) (x2 : Int32) (x3 : Int32) (x4 : Int32) (x5 : Int32) : ∀ z, f_X11_twoFirst q N h x1 x2 x3 x4 x5 = some z → CT l E yX11_twoFirst cX11_twoFirst 6 (some .int) rm_X11_twoFirst [.ref (eB E + 0), .int x1, .int x2, .int x3, .int x4, .int x5] N h (rq q) ((fun u => (some (.int u.1), u.2.1, u.2.2.1, rq u.2.2.2)) z) := CT.of (by decide +kernel) (Nat.le_of_ble_eq_true rfl) (fun X _ e C => by subst e; exact w_X11_twoFirst C hN h x1 x2 x3 x4 x5)
def rm_X6_enter : Room := { frames := 0, cells := 0, slots := 0, locals := 0 }
def f_X6_enter (q : Qp) (h : Hp) (a1 : Nat) : Option (Hp × Qp) :=
  (if (4 : Int32) ≤ (h 41 5) then
  some (h, q)
  else
  if inB (h 41 5) 4 then vB (va_up q (ix (h 41 5)) (some a1)) fun q_1 =>
  vB (u2 h 41 5 ((h 41 5) + 1)) fun h_2 =>
  vB (u2 h_2 41 6 0) fun h_3 =>
  some (h_3, q_1) else none)
set_option maxRecDepth 4000 in
theorem w_X6_enter {X : wX} (C : Cx X yX6_enter cX6_enter 2 none rm_X6_enter) {N : Nat} {q : Qp} (hN : 137 ≤ N) (h : Hp) (a1 : Nat) (hk_a1 : Kd a1 = 0) (hb_a1 : a1 < N) : wG X 2 (eM X (fun u => (none, N, u.1, rq u.2))) (f_X6_enter q h a1) N h (rq q) 0 0 0 [(0, .ref (xB X + 41)), (1, .ref (xB X + a1))] [] := by
  refine wG_of (f_X6_enter.eq_1 ..) ?_
  refine wG_aload_n C dX6_enter_0 0 rfl ?_
  refine wG_getI C fl_X6_21_6 rfl kd_41 (wll hN (by decide)) dX6_enter_1 ?_
  refine wG_iconst C dX6_enter_4 (v := 4) (by decide) ?_
  refine wG_icmp_ge C dX6_enter_5 ?_ ?_
  · exact wG_vret C dX6_enter_33 ⟨by decide, by decide⟩ (fun _ e => e)
  · refine wG_aload_n C dX6_enter_8 0 rfl ?_
    refine wG_getR C fl_X6_11_6 rfl kd_41 (wll hN (by decide)) (rf_41_3 q) dX6_enter_9 ?_
    refine wG_aload_n C dX6_enter_12 0 rfl ?_
    refine wG_getI C fl_X6_21_6 rfl kd_41 (wll hN (by decide)) dX6_enter_13 ?_
    refine wG_aload_n C dX6_enter_16 1 rfl ?_
    refine wG_astQ C hN (kd_ask hk_a1) hb_a1 dX6_enter_17 (fun q_1 => ?_)
    refine wG_aload_n C dX6_enter_18 0 rfl ?_
    refine wG_dup C dX6_enter_19 rfl ?_
    refine wG_getI C fl_X6_21_6 rfl kd_41 (wll hN (by decide)) dX6_enter_20 ?_
    refine wG_iconst C dX6_enter_23 (v := 1) (by decide) ?_
    refine wG_iadd C dX6_enter_24 ?_
    refine wG_putI C fl_X6_21_6 (fp_6_5 _) (fun e => Bool.noConfusion e) rfl kd_41 (wll hN (by decide)) dX6_enter_25 (fun h_2 => ?_)
    refine wG_aload_n C dX6_enter_28 0 rfl ?_
    refine wG_iconst C dX6_enter_29 (v := 0) (by decide) ?_
    refine wG_putZ C fl_X6_25_6 (fp_6_6 _) (fun e => Bool.noConfusion e) rfl kd_41 (wll hN (by decide)) rfl rfl dX6_enter_30 (fun h_3 => ?_)
    exact wG_vret C dX6_enter_33 ⟨by decide, by decide⟩ (fun _ e => e)
theorem c_X6_enter (l : Launch) (E : wE) (N : Nat) (q : Qp) (hN : 137 ≤ N) (h : Hp) (a1 : Nat) (hk_a1 : Kd a1 = 0) (hb_a1 : a1 < N) : ∀ z, f_X6_enter q h a1 = some z → CT l E yX6_enter cX6_enter 2 none rm_X6_enter [.ref (eB E + 41), .ref (eB E + a1)] N h (rq q) ((fun u => (none, N, u.1, rq u.2)) z) := CT.of (by decide +kernel) (Nat.le_of_ble_eq_true rfl) (fun X _ e C => by subst e; exact w_X6_enter C hN h a1 hk_a1 hb_a1)
def rm_X11_order : Room := { frames := 2, cells := 1, slots := 3, locals := 46 }
def f_X11_order (q : Qp) (N : Nat) (h : Hp) (x1 : Int32) (x2 : Int32) (x3 : Int32) : Option (Int32 × Nat × Hp × Qp) :=
  (f_X11_isAsk x1 x2 x3).bind fun u_1 =>
  (if u_1 = 0 then
  some ((-2), N, h, q)
  else
  (if (h 41 5) < 4 then
  vB (va_up h N (fun _ => 0)) fun h_2 =>
  (f_X0_init h_2 N x1 x2 x3).bind fun u_3 =>
  (f_X6_enter q u_3 N).bind fun u_4 =>
  some ((u_4.1 41 5), (N + 1), u_4.1, u_4.2)
  else
  some ((-4), N, h, q)))
set_option maxRecDepth 4000 in
theorem w_X11_order {X : wX} (C : Cx X yX11_order cX11_order 4 (some .int) rm_X11_order) {N : Nat} {q : Qp} (hN : 137 ≤ N) (h : Hp) (x1 : Int32) (x2 : Int32) (x3 : Int32) : wG X 4 (eM X (fun u => (some (.int u.1), u.2.1, u.2.2.1, rq u.2.2.2))) (f_X11_order q N h x1 x2 x3) N h (rq q) 0 0 0 [(0, .ref (xB X + 0)), (1, .int x1), (2, .int x2), (3, .int x3)] [] := by
  refine wG_of (f_X11_order.eq_1 ..) ?_
  refine wG_iload_n C dX11_order_0 1 rfl ?_
  refine wG_iload_n C dX11_order_1 2 rfl ?_
  refine wG_iload_n C dX11_order_2 3 rfl ?_
  refine wG_cS_ri [.int x1, .int x2, .int x3] [] C sw_X11_184 (c_X11_isAsk (xl X) (xE X) N q hN h x1 x2 x3) (by decide) rfl rfl (Nat.le_of_ble_eq_true rfl) dX11_order_3 (cl' := 0) (sl' := 0) rfl rfl (fun u_1 => ?_)
  refine wG_if_ne C dX11_order_6 ?_ ?_
  · refine wG_bipush C dX11_order_9 (v := (-2)) (by decide) ?_
    exact wG_iret C dX11_order_11 ⟨by decide, by decide⟩ (fun _ e => e)
  · refine wG_aload_n C dX11_order_12 0 rfl ?_
    refine wG_getR C fl_X11_48_11 rfl kd_0 (wll hN (by decide)) (rf_0_5 q) dX11_order_13 ?_
    refine wG_getI C fl_X11_219_6 rfl kd_41 (wll hN (by decide)) dX11_order_16 ?_
    refine wG_iconst C dX11_order_19 (v := 4) (by decide) ?_
    refine wG_icmp_lt C dX11_order_20 ?_ ?_
    · refine wG_aload_n C dX11_order_26 0 rfl ?_
      refine wG_getR C fl_X11_48_11 rfl kd_0 (wll hN (by decide)) (rf_0_5 q) dX11_order_27 ?_
      refine wG_newA C hN ow_X11_188 ⟨by decide, by decide⟩ dX11_order_30 (cl' := 1) (sl' := 3) rfl rfl (fun h_2 => ?_)
      refine wG_dup C dX11_order_33 rfl ?_
      refine wG_iload_n C dX11_order_34 1 rfl ?_
      refine wG_iload_n C dX11_order_35 2 rfl ?_
      refine wG_iload_n C dX11_order_36 3 rfl ?_
      refine wG_cI_wv [.int x1, .int x2, .int x3] [.ref (xB X + N), .ref (xB X + 41)] C iw_X11_190 (c_X0_init (xl X) (xE X) (N + 1) q (Nat.le_succ_of_le hN) h_2 N x1 x2 x3 (Kd_ge hN) (Nat.lt_succ_self _)) (by decide) rfl rfl (Nat.le_of_ble_eq_true rfl) dX11_order_37 (cl' := 1) (sl' := 3) rfl rfl (fun u_3 => ?_)
      refine wG_cV_pv [.ref (xB X + N)] [] C vw_X11_222 (c_X6_enter (xl X) (xE X) (N + 1) q (Nat.le_succ_of_le hN) u_3 N (Kd_ge hN) (Nat.lt_succ_self _)) kd_41 (wll (Nat.le_succ_of_le hN) (by decide)) (by decide) rfl rfl (Nat.le_of_ble_eq_true rfl) dX11_order_40 (cl' := 1) (sl' := 3) rfl rfl (fun u_4 => ?_)
      refine wG_aload_n C dX11_order_43 0 rfl ?_
      refine wG_getR C fl_X11_48_11 rfl kd_0 (wll (Nat.le_succ_of_le hN) (by decide)) (rf_0_5 u_4.2) dX11_order_44 ?_
      refine wG_getI C fl_X11_219_6 rfl kd_41 (wll (Nat.le_succ_of_le hN) (by decide)) dX11_order_47 ?_
      exact wG_iret C dX11_order_50 ⟨by decide, by decide⟩ (fun _ e => e)
    · refine wG_bipush C dX11_order_23 (v := (-4)) (by decide) ?_
      exact wG_iret C dX11_order_25 ⟨by decide, by decide⟩ (fun _ e => e)
theorem c_X11_order (l : Launch) (E : wE) (N : Nat) (q : Qp) (hN : 137 ≤ N) (h : Hp) (x1 : Int32) (x2 : Int32) (x3 : Int32) : ∀ z, f_X11_order q N h x1 x2 x3 = some z → CT l E yX11_order cX11_order 4 (some .int) rm_X11_order [.ref (eB E + 0), .int x1, .int x2, .int x3] N h (rq q) ((fun u => (some (.int u.1), u.2.1, u.2.2.1, rq u.2.2.2)) z) := CT.of (by decide +kernel) (Nat.le_of_ble_eq_true rfl) (fun X _ e C => by subst e; exact w_X11_order C hN h x1 x2 x3)
def rm_X6_empty : Room := { frames := 0, cells := 0, slots := 0, locals := 0 }
def f_X6_empty (h : Hp) : Option Hp :=
  vB (u2 h 41 5 0) fun h_1 =>
  vB (u2 h_1 41 6 0) fun h_2 =>
  some h_2
set_option maxRecDepth 4000 in
theorem w_X6_empty {X : wX} (C : Cx X yX6_empty cX6_empty 1 none rm_X6_empty) {N : Nat} {q : Qp} (hN : 137 ≤ N) (h : Hp) : wG X 1 (eM X (fun u => (none, N, u, (rq q)))) (f_X6_empty h) N h (rq q) 0 0 0 [(0, .ref (xB X + 41))] [] := by
  refine wG_of (f_X6_empty.eq_1 ..) ?_
  refine wG_aload_n C dX6_empty_0 0 rfl ?_
  refine wG_iconst C dX6_empty_1 (v := 0) (by decide) ?_
  refine wG_putI C fl_X6_21_6 (fp_6_5 _) (fun e => Bool.noConfusion e) rfl kd_41 (wll hN (by decide)) dX6_empty_2 (fun h_1 => ?_)
  refine wG_aload_n C dX6_empty_5 0 rfl ?_
  refine wG_iconst C dX6_empty_6 (v := 0) (by decide) ?_
  refine wG_putZ C fl_X6_25_6 (fp_6_6 _) (fun e => Bool.noConfusion e) rfl kd_41 (wll hN (by decide)) rfl rfl dX6_empty_7 (fun h_2 => ?_)
  exact wG_vret C dX6_empty_10 ⟨by decide, by decide⟩ (fun _ e => e)
theorem c_X6_empty (l : Launch) (E : wE) (N : Nat) (q : Qp) (hN : 137 ≤ N) (h : Hp) : ∀ z, f_X6_empty h = some z → CT l E yX6_empty cX6_empty 1 none rm_X6_empty [.ref (eB E + 41)] N h (rq q) ((fun u => (none, N, u, (rq q))) z) := CT.of (by decide +kernel) (Nat.le_of_ble_eq_true rfl) (fun X _ e C => by subst e; exact w_X6_empty C hN h)
def rm_X11_unorder : Room := { frames := 1, cells := 0, slots := 0, locals := 20 }
def f_X11_unorder (h : Hp) : Option (Int32 × Hp) :=
  vB (h 41 5) fun (x1_1 : Int32) =>
  (f_X6_empty h).bind fun u_2 =>
  some (x1_1, u_2)
set_option maxRecDepth 4000 in
theorem w_X11_unorder {X : wX} (C : Cx X yX11_unorder cX11_unorder 2 (some .int) rm_X11_unorder) {N : Nat} {q : Qp} (hN : 137 ≤ N) (h : Hp) : wG X 2 (eM X (fun u => (some (.int u.1), N, u.2, (rq q)))) (f_X11_unorder h) N h (rq q) 0 0 0 [(0, .ref (xB X + 0))] [] := by
  refine wG_of (f_X11_unorder.eq_1 ..) ?_
  refine wG_aload_n C dX11_unorder_0 0 rfl ?_
  refine wG_getR C fl_X11_48_11 rfl kd_0 (wll hN (by decide)) (rf_0_5 q) dX11_unorder_1 ?_
  refine wG_getI C fl_X11_219_6 rfl kd_41 (wll hN (by decide)) dX11_unorder_4 ?_
  refine wG_nmI (fun x1_1 => ?_)
  refine wG_istore_n C (L' := [(0, .ref (xB X + 0)), (1, .int x1_1)]) dX11_unorder_7 (by decide) [1, 0] rfl ?_
  refine wG_aload_n C dX11_unorder_8 0 rfl ?_
  refine wG_getR C fl_X11_48_11 rfl kd_0 (wll hN (by decide)) (rf_0_5 q) dX11_unorder_9 ?_
  refine wG_cV_wv [] [] C vw_X11_226 (c_X6_empty (xl X) (xE X) N q hN h) kd_41 (wll hN (by decide)) (by decide) rfl rfl (Nat.le_of_ble_eq_true rfl) dX11_unorder_12 (cl' := 0) (sl' := 0) rfl rfl (fun u_2 => ?_)
  refine wG_iload_n C dX11_unorder_15 1 rfl ?_
  exact wG_iret C dX11_unorder_16 ⟨by decide, by decide⟩ (fun _ e => e)
theorem c_X11_unorder (l : Launch) (E : wE) (N : Nat) (q : Qp) (hN : 137 ≤ N) (h : Hp) : ∀ z, f_X11_unorder h = some z → CT l E yX11_unorder cX11_unorder 2 (some .int) rm_X11_unorder [.ref (eB E + 0)] N h (rq q) ((fun u => (some (.int u.1), N, u.2, (rq q))) z) := CT.of (by decide +kernel) (Nat.le_of_ble_eq_true rfl) (fun X _ e C => by subst e; exact w_X11_unorder C hN h)
def rm_X6_everyAsk : Room := { frames := 0, cells := 0, slots := 0, locals := 0 }
def f_X6_everyAsk (h : Hp) : Option Int32 :=
  some (((1 : Int32) <<< ((h 41 5) &&& 31)) - 1)
set_option maxRecDepth 4000 in
theorem w_X6_everyAsk {X : wX} (C : Cx X yX6_everyAsk cX6_everyAsk 1 (some .int) rm_X6_everyAsk) {N : Nat} {q : Qp} (hN : 137 ≤ N) (h : Hp) : wG X 1 (eM X (fun u => (some (.int u), N, h, (rq q)))) (f_X6_everyAsk h) N h (rq q) 0 0 0 [(0, .ref (xB X + 41))] [] := by
  refine wG_of (f_X6_everyAsk.eq_1 ..) ?_
  refine wG_iconst C dX6_everyAsk_0 (v := 1) (by decide) ?_
  refine wG_aload_n C dX6_everyAsk_1 0 rfl ?_
  refine wG_getI C fl_X6_21_6 rfl kd_41 (wll hN (by decide)) dX6_everyAsk_2 ?_
  refine wG_ishl C dX6_everyAsk_5 ?_
  refine wG_iconst C dX6_everyAsk_6 (v := 1) (by decide) ?_
  refine wG_isub C dX6_everyAsk_7 ?_
  exact wG_iret C dX6_everyAsk_8 ⟨by decide, by decide⟩ (fun _ e => e)
theorem c_X6_everyAsk (l : Launch) (E : wE) (N : Nat) (q : Qp) (hN : 137 ≤ N) (h : Hp) : ∀ z, f_X6_everyAsk h = some z → CT l E yX6_everyAsk cX6_everyAsk 1 (some .int) rm_X6_everyAsk [.ref (eB E + 41)] N h (rq q) ((fun u => (some (.int u), N, h, (rq q))) z) := CT.of (by decide +kernel) (Nat.le_of_ble_eq_true rfl) (fun X _ e C => by subst e; exact w_X6_everyAsk C hN h)
def rm_X6_addUpWishes : Room := { frames := 1, cells := 0, slots := 0, locals := 20 }
def L_X6_addUpWishes_14 (q : Qp) (x1_2 : Int32) (h_3 : Hp) : Nat → Int32 → Int32 → Option Int32
  | 0, _, _ => none
  | n + 1, x2_8, x3_9 =>
    (if (h_3 41 5) ≤ x3_9 then
    some x2_8
    else
    ((if ((x1_2 >>> (x3_9 &&& 31)) &&& 1) = 1 then
    if inB x3_9 4 then (q (ix x3_9)).bind fun a_12 =>
    some (h_3 a_12 0) else none
    else
    some 0)).bind fun t_11 =>
    vB (x2_8 + t_11) fun (x2_13 : Int32) =>
    vB (x3_9 + 1) fun (x3_14 : Int32) =>
    L_X6_addUpWishes_14 q x1_2 h_3 n x2_13 x3_14)
def L_X6_addUpWishes_2 (q : Qp) : Nat → Int32 → Hp → Option Hp
  | 0, _, _ => none
  | n + 1, x1_2, h_3 =>
    (f_X6_everyAsk h_3).bind fun u_5 =>
    (if u_5 < x1_2 then
    some h_3
    else
    vB 0 fun (x2_6 : Int32) =>
    vB 0 fun (x3_7 : Int32) =>
    (L_X6_addUpWishes_14 q x1_2 h_3 FU x2_6 x3_7).bind fun t_10 =>
    if inB x1_2 16 then vB (u2 h_3 44 (ix x1_2) t_10) fun h_15 =>
    vB (x1_2 + 1) fun (x1_16 : Int32) =>
    L_X6_addUpWishes_2 q n x1_16 h_15 else none)
def f_X6_addUpWishes (q : Qp) (h : Hp) : Option Hp :=
  vB 0 fun (x1_1 : Int32) =>
  (L_X6_addUpWishes_2 q FU x1_1 h).bind fun t_4 =>
  some t_4
set_option maxRecDepth 4000 in
theorem wL_X6_addUpWishes_14 {X : wX} (C : Cx X yX6_addUpWishes cX6_addUpWishes 4 none rm_X6_addUpWishes) {N : Nat} {q : Qp} (hN : 137 ≤ N) (h : Hp) (x1_1 : Int32) (x1_2 : Int32) (h_3 : Hp) (u_5 : Int32) (x2_6 : Int32) (x3_7 : Int32) : ∀ n x2_8 x3_9, wG X 4 (fun (t_10 : Int32) Q => gQ X 4 Q N h_3 (rq q) 0 0 53 [(0, .ref (xB X + 41)), (1, .int x1_2), (2, .int t_10)] []) (L_X6_addUpWishes_14 q x1_2 h_3 n x2_8 x3_9) N h_3 (rq q) 0 0 14 [(0, .ref (xB X + 41)), (1, .int x1_2), (2, .int x2_8), (3, .int x3_9)] [] := by
  intro n
  induction n with
  | zero => intro _ _; exact wG_none
  | succ n ih =>
    intro x2_8 x3_9
    refine wG_of (L_X6_addUpWishes_14.eq_2 ..) ?_
    refine wG_iload_n C dX6_addUpWishes_14 3 rfl ?_
    refine wG_aload_n C dX6_addUpWishes_15 0 rfl ?_
    refine wG_getI C fl_X6_21_6 rfl kd_41 (wll hN (by decide)) dX6_addUpWishes_16 ?_
    refine wG_icmp_ge C dX6_addUpWishes_19 ?_ ?_
    · exact wG_exit (fun Q e => gQ_lv [0, 1, 2] rfl e)
    · refine wG_iload_n C dX6_addUpWishes_22 2 rfl ?_
      refine wG_iload_n C dX6_addUpWishes_23 1 rfl ?_
      refine wG_iload_n C dX6_addUpWishes_24 3 rfl ?_
      refine wG_ishr C dX6_addUpWishes_25 ?_
      refine wG_iconst C dX6_addUpWishes_26 (v := 1) (by decide) ?_
      refine wG_iand C dX6_addUpWishes_27 ?_
      refine wG_iconst C dX6_addUpWishes_28 (v := 1) (by decide) ?_
      refine wG_bind (J := (fun (t_11 : Int32) Q => gQ X 4 Q N h_3 (rq q) 0 0 45 [(0, .ref (xB X + 41)), (1, .int x1_2), (3, .int x3_9)] [.int t_11, .int x2_8])) ?_ (fun t_11 => (?_ : wG X 4 _ _ N h_3 (rq q) 0 0 45 [(0, .ref (xB X + 41)), (1, .int x1_2), (3, .int x3_9)] [.int t_11, .int x2_8]))
      · refine wG_icmp_ne C dX6_addUpWishes_29 ?_ ?_
        · refine wG_aload_n C dX6_addUpWishes_32 0 rfl ?_
          refine wG_getR C fl_X6_11_6 rfl kd_41 (wll hN (by decide)) (rf_41_3 q) dX6_addUpWishes_33 ?_
          refine wG_iload_n C dX6_addUpWishes_36 3 rfl ?_
          refine wG_aaQ C hN dX6_addUpWishes_37 (fun a_12 hk_a_12 hb_a_12 => ?_)
          refine wG_getI C fl_X6_45_0 rfl hk_a_12 hb_a_12 dX6_addUpWishes_38 ?_
          refine wG_goto C dX6_addUpWishes_41 ?_
          exact wG_exit (fun Q e => gQ_lv [0, 1, 3] rfl e)
        · refine wG_iconst C dX6_addUpWishes_44 (v := 0) (by decide) ?_
          exact wG_exit (fun Q e => gQ_lv [0, 1, 3] rfl e)
      · refine wG_iadd C dX6_addUpWishes_45 ?_
        refine wG_nmI (fun x2_13 => ?_)
        refine wG_istore_n C (L' := [(0, .ref (xB X + 41)), (1, .int x1_2), (2, .int x2_13), (3, .int x3_9)]) dX6_addUpWishes_46 (by decide) [1, 2, 0, 3] rfl ?_
        refine wG_iinc C (v := 1) (LL := fun x3_14 => [(0, .ref (xB X + 41)), (1, .int x1_2), (2, .int x2_13), (3, .int x3_14)]) dX6_addUpWishes_47 3 rfl (by decide) (by decide) [1, 2, 3, 0] (fun _ => rfl) (fun x3_14 => ?_)
        refine wG_goto C dX6_addUpWishes_50 ?_
        exact wG_lv [0, 1, 2, 3] rfl (ih x2_13 x3_14)
set_option maxRecDepth 4000 in
theorem wL_X6_addUpWishes_2 {X : wX} (C : Cx X yX6_addUpWishes cX6_addUpWishes 4 none rm_X6_addUpWishes) {N : Nat} {q : Qp} (hN : 137 ≤ N) (h : Hp) (x1_1 : Int32) : ∀ n x1_2 h_3, wG X 4 (fun (t_4 : Hp) Q => gQ X 4 Q N t_4 (rq q) 0 0 66 [] []) (L_X6_addUpWishes_2 q n x1_2 h_3) N h_3 (rq q) 0 0 2 [(0, .ref (xB X + 41)), (1, .int x1_2)] [] := by
  intro n
  induction n with
  | zero => intro _ _; exact wG_none
  | succ n ih =>
    intro x1_2 h_3
    refine wG_of (L_X6_addUpWishes_2.eq_2 ..) ?_
    refine wG_iload_n C dX6_addUpWishes_2 1 rfl ?_
    refine wG_aload_n C dX6_addUpWishes_3 0 rfl ?_
    refine wG_cV_ri [] [.int x1_2] C vw_X6_33 (c_X6_everyAsk (xl X) (xE X) N q hN h_3) kd_41 (wll hN (by decide)) (by decide) rfl rfl (Nat.le_of_ble_eq_true rfl) dX6_addUpWishes_4 (cl' := 0) (sl' := 0) rfl rfl (fun u_5 => ?_)
    refine wG_icmp_gt C dX6_addUpWishes_7 ?_ ?_
    · exact wG_exit (fun Q e => gQ_lv [] rfl e)
    · refine wG_iconst C dX6_addUpWishes_10 (v := 0) (by decide) ?_
      refine wG_nmI (fun x2_6 => ?_)
      refine wG_istore_n C (L' := [(0, .ref (xB X + 41)), (1, .int x1_2), (2, .int x2_6)]) dX6_addUpWishes_11 (by decide) [1, 2, 0] rfl ?_
      refine wG_iconst C dX6_addUpWishes_12 (v := 0) (by decide) ?_
      refine wG_nmI (fun x3_7 => ?_)
      refine wG_istore_n C (L' := [(0, .ref (xB X + 41)), (1, .int x1_2), (2, .int x2_6), (3, .int x3_7)]) dX6_addUpWishes_13 (by decide) [1, 2, 3, 0] rfl ?_
      refine wG_lv (L' := [(0, .ref (xB X + 41)), (1, .int x1_2), (2, .int x2_6), (3, .int x3_7)]) [0, 1, 2, 3] rfl ?_
      refine wG_bind (wL_X6_addUpWishes_14 C hN h x1_1 x1_2 h_3 u_5 x2_6 x3_7 FU x2_6 x3_7) (fun t_10 => (?_ : wG X 4 _ _ N h_3 (rq q) 0 0 53 [(0, .ref (xB X + 41)), (1, .int x1_2), (2, .int t_10)] []))
      refine wG_aload_n C dX6_addUpWishes_53 0 rfl ?_
      refine wG_getR C fl_X6_17_6 rfl kd_41 (wll hN (by decide)) (rf_41_4 q) dX6_addUpWishes_54 ?_
      refine wG_iload_n C dX6_addUpWishes_57 1 rfl ?_
      refine wG_iload_n C dX6_addUpWishes_58 2 rfl ?_
      refine wG_iast C kd_44 (wll hN (by decide)) ln_44 dX6_addUpWishes_59 (fun h_15 => ?_)
      refine wG_iinc C (v := 1) (LL := fun x1_16 => [(0, .ref (xB X + 41)), (1, .int x1_16)]) dX6_addUpWishes_60 1 rfl (by decide) (by decide) [1, 0] (fun _ => rfl) (fun x1_16 => ?_)
      refine wG_goto C dX6_addUpWishes_63 ?_
      exact wG_lv [0, 1] rfl (ih x1_16 h_15)
set_option maxRecDepth 4000 in
theorem w_X6_addUpWishes {X : wX} (C : Cx X yX6_addUpWishes cX6_addUpWishes 4 none rm_X6_addUpWishes) {N : Nat} {q : Qp} (hN : 137 ≤ N) (h : Hp) : wG X 4 (eM X (fun u => (none, N, u, (rq q)))) (f_X6_addUpWishes q h) N h (rq q) 0 0 0 [(0, .ref (xB X + 41))] [] := by
  refine wG_of (f_X6_addUpWishes.eq_1 ..) ?_
  refine wG_iconst C dX6_addUpWishes_0 (v := 0) (by decide) ?_
  refine wG_nmI (fun x1_1 => ?_)
  refine wG_istore_n C (L' := [(0, .ref (xB X + 41)), (1, .int x1_1)]) dX6_addUpWishes_1 (by decide) [1, 0] rfl ?_
  refine wG_lv (L' := [(0, .ref (xB X + 41)), (1, .int x1_1)]) [0, 1] rfl ?_
  refine wG_bind (wL_X6_addUpWishes_2 C hN h x1_1 FU x1_1 h) (fun t_4 => (?_ : wG X 4 _ _ N t_4 (rq q) 0 0 66 [] []))
  exact wG_vret C dX6_addUpWishes_66 ⟨by decide, by decide⟩ (fun _ e => e)
theorem c_X6_addUpWishes (l : Launch) (E : wE) (N : Nat) (q : Qp) (hN : 137 ≤ N) (h : Hp) : ∀ z, f_X6_addUpWishes q h = some z → CT l E yX6_addUpWishes cX6_addUpWishes 4 none rm_X6_addUpWishes [.ref (eB E + 41)] N h (rq q) ((fun u => (none, N, u, (rq q))) z) := CT.of (by decide +kernel) (Nat.le_of_ble_eq_true rfl) (fun X _ e C => by subst e; exact w_X6_addUpWishes C hN h)
def rm_X8_spotOf_O : Room := { frames := 0, cells := 0, slots := 0, locals := 0 }
def f_X8_spotOf_O (h : Hp) (x1 : Int32) (x2 : Int32) (x3 : Int32) (x4 : Int32) : Option Int32 :=
  vB ((((x1 * (13 - x1)) / 2) + x3) - 1) fun (x5_1 : Int32) =>
  vB ((((x2 * (13 - x2)) / 2) + x4) - 1) fun (x6_2 : Int32) =>
  some (((x5_1 * 21) + x6_2) * (h 41 1))
set_option maxRecDepth 4000 in
theorem w_X8_spotOf_O {X : wX} (C : Cx X yX8_spotOf cX8_spotOf 7 (some .int) rm_X8_spotOf_O) {N : Nat} {q : Qp} (hN : 137 ≤ N) (h : Hp) (x1 : Int32) (x2 : Int32) (x3 : Int32) (x4 : Int32) : wG X 7 (eM X (fun u => (some (.int u), N, h, (rq q)))) (f_X8_spotOf_O h x1 x2 x3 x4) N h (rq q) 0 0 0 [(0, .ref (xB X + 41)), (1, .int x1), (2, .int x2), (3, .int x3), (4, .int x4)] [] := by
  refine wG_of (f_X8_spotOf_O.eq_1 ..) ?_
  refine wG_iload_n C dX8_spotOf_0 1 rfl ?_
  refine wG_bipush C dX8_spotOf_1 (v := 13) (by decide) ?_
  refine wG_iload_n C dX8_spotOf_3 1 rfl ?_
  refine wG_isub C dX8_spotOf_4 ?_
  refine wG_imul C dX8_spotOf_5 ?_
  refine wG_iconst C dX8_spotOf_6 (v := 2) (by decide) ?_
  refine wG_idivK C dX8_spotOf_7 (by decide) ?_
  refine wG_iload_n C dX8_spotOf_8 3 rfl ?_
  refine wG_iadd C dX8_spotOf_9 ?_
  refine wG_iconst C dX8_spotOf_10 (v := 1) (by decide) ?_
  refine wG_isub C dX8_spotOf_11 ?_
  refine wG_nmI (fun x5_1 => ?_)
  refine wG_istore C (L' := [(0, .ref (xB X + 41)), (2, .int x2), (4, .int x4), (5, .int x5_1)]) dX8_spotOf_12 (by decide) [1, 3, 5, 0] rfl ?_
  refine wG_iload_n C dX8_spotOf_14 1 rfl ?_
  refine wG_bipush C dX8_spotOf_15 (v := 13) (by decide) ?_
  refine wG_iload_n C dX8_spotOf_17 1 rfl ?_
  refine wG_isub C dX8_spotOf_18 ?_
  refine wG_imul C dX8_spotOf_19 ?_
  refine wG_iconst C dX8_spotOf_20 (v := 2) (by decide) ?_
  refine wG_idivK C dX8_spotOf_21 (by decide) ?_
  refine wG_iload C dX8_spotOf_22 2 rfl ?_
  refine wG_iadd C dX8_spotOf_24 ?_
  refine wG_iconst C dX8_spotOf_25 (v := 1) (by decide) ?_
  refine wG_isub C dX8_spotOf_26 ?_
  refine wG_nmI (fun x6_2 => ?_)
  refine wG_istore C (L' := [(0, .ref (xB X + 41)), (5, .int x5_1), (6, .int x6_2)]) dX8_spotOf_27 (by decide) [1, 4, 0] rfl ?_
  refine wG_iload C dX8_spotOf_29 1 rfl ?_
  refine wG_bipush C dX8_spotOf_31 (v := 21) (by decide) ?_
  refine wG_imul C dX8_spotOf_33 ?_
  refine wG_iload C dX8_spotOf_34 2 rfl ?_
  refine wG_iadd C dX8_spotOf_36 ?_
  refine wG_aload_n C dX8_spotOf_37 0 rfl ?_
  refine wG_getI C fl_X8_21_6 rfl kd_41 (wll hN (by decide)) dX8_spotOf_38 ?_
  refine wG_imul C dX8_spotOf_41 ?_
  exact wG_iret C dX8_spotOf_42 ⟨by decide, by decide⟩ (fun _ e => e)
theorem c_X8_spotOf_O (l : Launch) (E : wE) (N : Nat) (q : Qp) (hN : 137 ≤ N) (h : Hp) (x1 : Int32) (x2 : Int32) (x3 : Int32) (x4 : Int32) : ∀ z, f_X8_spotOf_O h x1 x2 x3 x4 = some z → CT l E yX8_spotOf cX8_spotOf 7 (some .int) rm_X8_spotOf_O [.ref (eB E + 41), .int x1, .int x2, .int x3, .int x4] N h (rq q) ((fun u => (some (.int u), N, h, (rq q))) z) := CT.of (by decide +kernel) (Nat.le_of_ble_eq_true rfl) (fun X _ e C => by subst e; exact w_X8_spotOf_O C hN h x1 x2 x3 x4)
def rm_X6_verdict : Room := { frames := 2, cells := 0, slots := 0, locals := 51 }
def L_X6_verdict_39 (h : Hp) (x1 : Int32) (x2 : Int32) (x3 : Int32) (x4 : Int32) (x5 : Int32) (q : Qp) (x6_2 : Int32) (K : Unit → Option Int32) : Nat → Int32 → Option Int32
  | 0, _ => none
  | n + 1, x7_4 =>
    (if (h 41 5) ≤ x7_4 then
    K ()
    else
    vK (fun (t_6 : Unit) =>
    vB (x7_4 + 1) fun (x7_8 : Int32) =>
    L_X6_verdict_39 h x1 x2 x3 x4 x5 q x6_2 K n x7_8) fun K_7 =>
    (if x5 = ((1 : Int32) <<< (x7_4 &&& 31)) then
    if inB x7_4 4 then (q (ix x7_4)).bind fun a_9 =>
    (f_X4_rindIn h x1 x2 x3 x4).bind fun u_10 =>
    (f_X0_fits h a_9 x6_2 u_10).bind fun u_11 =>
    (if u_11 = 0 then
    K_7 ()
    else
    some 0) else none
    else
    K_7 ()))
def f_X6_verdict (q : Qp) (h : Hp) (x1 : Int32) (x2 : Int32) (x3 : Int32) (x4 : Int32) (x5 : Int32) : Option Int32 :=
  (if x5 = 0 then
  some 0
  else
  (f_X4_weightIn h x1 x2 x3 x4).bind fun u_1 =>
  vB u_1 fun (x6_2 : Int32) =>
  if inB x5 16 then
  (if (h 44 (ix x5)) ≤ x6_2 then
  vB 0 fun (x7_3 : Int32) =>
  L_X6_verdict_39 h x1 x2 x3 x4 x5 q x6_2 (fun (t_5 : Unit) =>
  some (-1)) FU x7_3
  else
  some 1000000) else none)
set_option maxRecDepth 4000 in
theorem wL_X6_verdict_39 {X : wX} (C : Cx X yX6_verdict cX6_verdict 8 (some .int) rm_X6_verdict) {N : Nat} {q : Qp} (hN : 137 ≤ N) (h : Hp) (x1 : Int32) (x2 : Int32) (x3 : Int32) (x4 : Int32) (x5 : Int32) (u_1 : Int32) (x6_2 : Int32) (x7_3 : Int32) (K : Unit → Option Int32) (hK : ∀ t_5, wG X 8 (eM X (fun u => (some (.int u), N, h, (rq q)))) (K t_5) N h (rq q) 0 0 92 [] []) : ∀ n x7_4, wG X 8 (eM X (fun u => (some (.int u), N, h, (rq q)))) (L_X6_verdict_39 h x1 x2 x3 x4 x5 q x6_2 K n x7_4) N h (rq q) 0 0 39 [(0, .ref (xB X + 41)), (1, .int x1), (2, .int x2), (3, .int x3), (4, .int x4), (5, .int x5), (6, .int x6_2), (7, .int x7_4)] [] := by
  intro n
  induction n with
  | zero => intro _; exact wG_none
  | succ n ih =>
    intro x7_4
    refine wG_of (L_X6_verdict_39.eq_2 ..) ?_
    refine wG_iload C dX6_verdict_39 7 rfl ?_
    refine wG_aload_n C dX6_verdict_41 0 rfl ?_
    refine wG_getI C fl_X6_21_6 rfl kd_41 (wll hN (by decide)) dX6_verdict_42 ?_
    refine wG_icmp_ge C dX6_verdict_45 ?_ ?_
    · exact wG_lv [] rfl (hK ())
    · refine wG_iload C dX6_verdict_48 5 rfl ?_
      refine wG_iconst C dX6_verdict_50 (v := 1) (by decide) ?_
      refine wG_iload C dX6_verdict_51 7 rfl ?_
      refine wG_ishl C dX6_verdict_53 ?_
      refine wG_vK (fun t_6 => (?_ : wG X 8 _ _ N h (rq q) 0 0 86 [(0, .ref (xB X + 41)), (1, .int x1), (2, .int x2), (3, .int x3), (4, .int x4), (5, .int x5), (6, .int x6_2), (7, .int x7_4)] [])) (fun K_7 hK_K_7 => ?_)
      · refine wG_iinc C (v := 1) (LL := fun x7_8 => [(0, .ref (xB X + 41)), (1, .int x1), (2, .int x2), (3, .int x3), (4, .int x4), (5, .int x5), (6, .int x6_2), (7, .int x7_8)]) dX6_verdict_86 7 rfl (by decide) (by decide) [1, 2, 3, 4, 5, 6, 7, 0] (fun _ => rfl) (fun x7_8 => ?_)
        refine wG_goto C dX6_verdict_89 ?_
        exact wG_lv [0, 1, 2, 3, 4, 5, 6, 7] rfl (ih x7_8)
      · refine wG_icmp_ne C dX6_verdict_54 ?_ ?_
        · refine wG_aload_n C dX6_verdict_57 0 rfl ?_
          refine wG_getR C fl_X6_11_6 rfl kd_41 (wll hN (by decide)) (rf_41_3 q) dX6_verdict_58 ?_
          refine wG_iload C dX6_verdict_61 7 rfl ?_
          refine wG_aaQ C hN dX6_verdict_63 (fun a_9 hk_a_9 hb_a_9 => ?_)
          refine wG_iload C dX6_verdict_64 6 rfl ?_
          refine wG_aload_n C dX6_verdict_66 0 rfl ?_
          refine wG_getR C fl_X6_49_6 rfl kd_41 (wll hN (by decide)) (rf_41_0 q) dX6_verdict_67 ?_
          refine wG_iload_n C dX6_verdict_70 1 rfl ?_
          refine wG_iload_n C dX6_verdict_71 2 rfl ?_
          refine wG_iload_n C dX6_verdict_72 3 rfl ?_
          refine wG_iload C dX6_verdict_73 4 rfl ?_
          refine wG_cV_ri [.int x1, .int x2, .int x3, .int x4] [.int x6_2, .ref (xB X + a_9)] C vw_X6_69 (c_X4_rindIn (xl X) (xE X) N (rq q) (Nat.le_trans (by decide) hN) ⟨rf_3_0 q, rf_3_1 q, rf_3_2 q⟩ h x1 x2 x3 x4) kd_3 (wll hN (by decide)) (by decide) rfl rfl (Nat.le_of_ble_eq_true rfl) dX6_verdict_75 (cl' := 0) (sl' := 0) rfl rfl (fun u_10 => ?_)
          refine wG_cV_ri [.int x6_2, .int u_10] [] C vw_X6_72 (c_X0_fits (xl X) (xE X) N q hN h a_9 x6_2 u_10 hk_a_9 hb_a_9) hk_a_9 hb_a_9 (by decide) rfl rfl (Nat.le_of_ble_eq_true rfl) dX6_verdict_78 (cl' := 0) (sl' := 0) rfl rfl (fun u_11 => ?_)
          refine wG_if_eq C dX6_verdict_81 ?_ ?_
          · exact wG_lv [0, 1, 2, 3, 4, 5, 6, 7] rfl (hK_K_7 ())
          · refine wG_iconst C dX6_verdict_84 (v := 0) (by decide) ?_
            exact wG_iret C dX6_verdict_85 ⟨by decide, by decide⟩ (fun _ e => e)
        · exact wG_lv [0, 1, 2, 3, 4, 5, 6, 7] rfl (hK_K_7 ())
set_option maxRecDepth 4000 in
theorem w_X6_verdict {X : wX} (C : Cx X yX6_verdict cX6_verdict 8 (some .int) rm_X6_verdict) {N : Nat} {q : Qp} (hN : 137 ≤ N) (h : Hp) (x1 : Int32) (x2 : Int32) (x3 : Int32) (x4 : Int32) (x5 : Int32) : wG X 8 (eM X (fun u => (some (.int u), N, h, (rq q)))) (f_X6_verdict q h x1 x2 x3 x4 x5) N h (rq q) 0 0 0 [(0, .ref (xB X + 41)), (1, .int x1), (2, .int x2), (3, .int x3), (4, .int x4), (5, .int x5)] [] := by
  refine wG_of (f_X6_verdict.eq_1 ..) ?_
  refine wG_iload C dX6_verdict_0 5 rfl ?_
  refine wG_if_ne C dX6_verdict_2 ?_ ?_
  · refine wG_iconst C dX6_verdict_5 (v := 0) (by decide) ?_
    exact wG_iret C dX6_verdict_6 ⟨by decide, by decide⟩ (fun _ e => e)
  · refine wG_aload_n C dX6_verdict_7 0 rfl ?_
    refine wG_getR C fl_X6_49_6 rfl kd_41 (wll hN (by decide)) (rf_41_0 q) dX6_verdict_8 ?_
    refine wG_iload_n C dX6_verdict_11 1 rfl ?_
    refine wG_iload_n C dX6_verdict_12 2 rfl ?_
    refine wG_iload_n C dX6_verdict_13 3 rfl ?_
    refine wG_iload C dX6_verdict_14 4 rfl ?_
    refine wG_cV_ri [.int x1, .int x2, .int x3, .int x4] [] C vw_X6_65 (c_X4_weightIn (xl X) (xE X) N (rq q) (Nat.le_trans (by decide) hN) ⟨rf_3_0 q, rf_3_1 q, rf_3_2 q⟩ h x1 x2 x3 x4) kd_3 (wll hN (by decide)) (by decide) rfl rfl (Nat.le_of_ble_eq_true rfl) dX6_verdict_16 (cl' := 0) (sl' := 0) rfl rfl (fun u_1 => ?_)
    refine wG_nmI (fun x6_2 => ?_)
    refine wG_istore C (L' := [(0, .ref (xB X + 41)), (1, .int x1), (2, .int x2), (3, .int x3), (4, .int x4), (5, .int x5), (6, .int x6_2)]) dX6_verdict_19 (by decide) [1, 2, 3, 4, 5, 6, 0] rfl ?_
    refine wG_iload C dX6_verdict_21 6 rfl ?_
    refine wG_aload_n C dX6_verdict_23 0 rfl ?_
    refine wG_getR C fl_X6_17_6 rfl kd_41 (wll hN (by decide)) (rf_41_4 q) dX6_verdict_24 ?_
    refine wG_iload C dX6_verdict_27 5 rfl ?_
    refine wG_iald C kd_44 (wll hN (by decide)) ln_44 dX6_verdict_29 ?_
    refine wG_icmp_ge C dX6_verdict_30 ?_ ?_
    · refine wG_iconst C dX6_verdict_36 (v := 0) (by decide) ?_
      refine wG_nmI (fun x7_3 => ?_)
      refine wG_istore C (L' := [(0, .ref (xB X + 41)), (1, .int x1), (2, .int x2), (3, .int x3), (4, .int x4), (5, .int x5), (6, .int x6_2), (7, .int x7_3)]) dX6_verdict_37 (by decide) [1, 2, 3, 4, 5, 6, 7, 0] rfl ?_
      refine wG_lv (L' := [(0, .ref (xB X + 41)), (1, .int x1), (2, .int x2), (3, .int x3), (4, .int x4), (5, .int x5), (6, .int x6_2), (7, .int x7_3)]) [0, 1, 2, 3, 4, 5, 6, 7] rfl ?_
      refine wL_X6_verdict_39 C hN h x1 x2 x3 x4 x5 u_1 x6_2 x7_3 _ (fun t_5 => (?_ : wG X 8 _ _ N h (rq q) 0 0 92 [] [])) FU x7_3
      refine wG_iconst C dX6_verdict_92 (v := (-1)) (by decide) ?_
      exact wG_iret C dX6_verdict_93 ⟨by decide, by decide⟩ (fun _ e => e)
    · refine wG_ldc C dX6_verdict_33 m_767 ?_
      exact wG_iret C dX6_verdict_35 ⟨by decide, by decide⟩ (fun _ e => e)
theorem c_X6_verdict (l : Launch) (E : wE) (N : Nat) (q : Qp) (hN : 137 ≤ N) (h : Hp) (x1 : Int32) (x2 : Int32) (x3 : Int32) (x4 : Int32) (x5 : Int32) : ∀ z, f_X6_verdict q h x1 x2 x3 x4 x5 = some z → CT l E yX6_verdict cX6_verdict 8 (some .int) rm_X6_verdict [.ref (eB E + 41), .int x1, .int x2, .int x3, .int x4, .int x5] N h (rq q) ((fun u => (some (.int u), N, h, (rq q))) z) := CT.of (by decide +kernel) (Nat.le_of_ble_eq_true rfl) (fun X _ e C => by subst e; exact w_X6_verdict C hN h x1 x2 x3 x4 x5)
def rm_X6_cutPrice : Room := { frames := 0, cells := 0, slots := 0, locals := 0 }
def f_X6_cutPrice (x1 : Int32) : Option Int32 :=
  some x1
set_option maxRecDepth 4000 in
theorem w_X6_cutPrice {X : wX} (C : Cx X yX6_cutPrice cX6_cutPrice 2 (some .int) rm_X6_cutPrice) {N : Nat} {q : Qp} (hN : 137 ≤ N) (h : Hp) (x1 : Int32) : wG X 2 (eM X (fun u => (some (.int u), N, h, (rq q)))) (f_X6_cutPrice x1) N h (rq q) 0 0 0 [(0, .ref (xB X + 41)), (1, .int x1)] [] := by
  refine wG_of (f_X6_cutPrice.eq_1 ..) ?_
  refine wG_iload_n C dX6_cutPrice_0 1 rfl ?_
  exact wG_iret C dX6_cutPrice_1 ⟨by decide, by decide⟩ (fun _ e => e)
theorem c_X6_cutPrice (l : Launch) (E : wE) (N : Nat) (q : Qp) (hN : 137 ≤ N) (h : Hp) (x1 : Int32) : ∀ z, f_X6_cutPrice x1 = some z → CT l E yX6_cutPrice cX6_cutPrice 2 (some .int) rm_X6_cutPrice [.ref (eB E + 41), .int x1] N h (rq q) ((fun u => (some (.int u), N, h, (rq q))) z) := CT.of (by decide +kernel) (Nat.le_of_ble_eq_true rfl) (fun X _ e C => by subst e; exact w_X6_cutPrice C hN h x1)
def rm_X8_bothCost_O : Room := { frames := 0, cells := 0, slots := 0, locals := 0 }
def L_X8_bothCost_O_7 (h : Hp) (x1 : Int32) (x2 : Int32) (x3 : Int32) : Nat → Int32 → Int32 → Option Int32
  | 0, _, _ => none
  | n + 1, x4_3, x5_4 =>
    (if x5_4 < 0 then
    some x4_3
    else
    vB (x5_4 &&& x3) fun (x5_6 : Int32) =>
    if inB (x1 + x5_6) 7056 then
    if inB (x2 + (x3 ^^^ x5_6)) 7056 then
    vB ((h 42 (ix (x1 + x5_6))) + (h 42 (ix (x2 + (x3 ^^^ x5_6))))) fun (x6_7 : Int32) =>
    ((if x4_3 ≤ x6_7 then
    some x4_3
    else
    vB x6_7 fun (x4_9 : Int32) =>
    some x4_9)).bind fun t_8 =>
    vB (x5_6 + (-1)) fun (x5_10 : Int32) =>
    L_X8_bothCost_O_7 h x1 x2 x3 n t_8 x5_10 else none else none)
def f_X8_bothCost_O (h : Hp) (x1 : Int32) (x2 : Int32) (x3 : Int32) : Option Int32 :=
  vB 1000000 fun (x4_1 : Int32) =>
  vB x3 fun (x5_2 : Int32) =>
  (L_X8_bothCost_O_7 h x1 x2 x3 FU x4_1 x5_2).bind fun t_5 =>
  some t_5
set_option maxRecDepth 4000 in
theorem wL_X8_bothCost_O_7 {X : wX} (C : Cx X yX8_bothCost cX8_bothCost 7 (some .int) rm_X8_bothCost_O) {N : Nat} {q : Qp} (hN : 137 ≤ N) (h : Hp) (x1 : Int32) (x2 : Int32) (x3 : Int32) (x4_1 : Int32) (x5_2 : Int32) : ∀ n x4_3 x5_4, wG X 7 (fun (t_5 : Int32) Q => gQ X 7 Q N h (rq q) 0 0 58 [(4, .int t_5)] []) (L_X8_bothCost_O_7 h x1 x2 x3 n x4_3 x5_4) N h (rq q) 0 0 7 [(0, .ref (xB X + 41)), (1, .int x1), (2, .int x2), (3, .int x3), (4, .int x4_3), (5, .int x5_4)] [] := by
  intro n
  induction n with
  | zero => intro _ _; exact wG_none
  | succ n ih =>
    intro x4_3 x5_4
    refine wG_of (L_X8_bothCost_O_7.eq_2 ..) ?_
    refine wG_iload C dX8_bothCost_7 5 rfl ?_
    refine wG_if_lt C dX8_bothCost_9 ?_ ?_
    · exact wG_exit (fun Q e => gQ_lv [4] rfl e)
    · refine wG_iload C dX8_bothCost_12 5 rfl ?_
      refine wG_iload_n C dX8_bothCost_14 3 rfl ?_
      refine wG_iand C dX8_bothCost_15 ?_
      refine wG_nmI (fun x5_6 => ?_)
      refine wG_istore C (L' := [(0, .ref (xB X + 41)), (1, .int x1), (2, .int x2), (3, .int x3), (4, .int x4_3), (5, .int x5_6)]) dX8_bothCost_16 (by decide) [1, 2, 3, 4, 5, 0] rfl ?_
      refine wG_aload_n C dX8_bothCost_18 0 rfl ?_
      refine wG_getR C fl_X8_25_6 rfl kd_41 (wll hN (by decide)) (rf_41_2 q) dX8_bothCost_19 ?_
      refine wG_iload_n C dX8_bothCost_22 1 rfl ?_
      refine wG_iload C dX8_bothCost_23 5 rfl ?_
      refine wG_iadd C dX8_bothCost_25 ?_
      refine wG_iald C kd_42 (wll hN (by decide)) ln_42 dX8_bothCost_26 ?_
      refine wG_aload_n C dX8_bothCost_27 0 rfl ?_
      refine wG_getR C fl_X8_25_6 rfl kd_41 (wll hN (by decide)) (rf_41_2 q) dX8_bothCost_28 ?_
      refine wG_iload_n C dX8_bothCost_31 2 rfl ?_
      refine wG_iload_n C dX8_bothCost_32 3 rfl ?_
      refine wG_iload C dX8_bothCost_33 5 rfl ?_
      refine wG_ixor C dX8_bothCost_35 ?_
      refine wG_iadd C dX8_bothCost_36 ?_
      refine wG_iald C kd_42 (wll hN (by decide)) ln_42 dX8_bothCost_37 ?_
      refine wG_iadd C dX8_bothCost_38 ?_
      refine wG_nmI (fun x6_7 => ?_)
      refine wG_istore C (L' := [(0, .ref (xB X + 41)), (1, .int x1), (2, .int x2), (3, .int x3), (4, .int x4_3), (5, .int x5_6), (6, .int x6_7)]) dX8_bothCost_39 (by decide) [1, 2, 3, 4, 5, 6, 0] rfl ?_
      refine wG_iload C dX8_bothCost_41 6 rfl ?_
      refine wG_iload C dX8_bothCost_43 4 rfl ?_
      refine wG_bind (J := (fun (t_8 : Int32) Q => gQ X 7 Q N h (rq q) 0 0 52 [(0, .ref (xB X + 41)), (1, .int x1), (2, .int x2), (3, .int x3), (4, .int t_8), (5, .int x5_6)] [])) ?_ (fun t_8 => (?_ : wG X 7 _ _ N h (rq q) 0 0 52 [(0, .ref (xB X + 41)), (1, .int x1), (2, .int x2), (3, .int x3), (4, .int t_8), (5, .int x5_6)] []))
      · refine wG_icmp_ge C dX8_bothCost_45 ?_ ?_
        · exact wG_exit (fun Q e => gQ_lv [0, 1, 2, 3, 4, 5] rfl e)
        · refine wG_iload C dX8_bothCost_48 6 rfl ?_
          refine wG_nmI (fun x4_9 => ?_)
          refine wG_istore C (L' := [(0, .ref (xB X + 41)), (1, .int x1), (2, .int x2), (3, .int x3), (4, .int x4_9), (5, .int x5_6)]) dX8_bothCost_50 (by decide) [1, 2, 3, 4, 0, 5] rfl ?_
          exact wG_exit (fun Q e => gQ_lv [0, 1, 2, 3, 4, 5] rfl e)
      · refine wG_iinc C (v := (-1)) (LL := fun x5_10 => [(0, .ref (xB X + 41)), (1, .int x1), (2, .int x2), (3, .int x3), (4, .int t_8), (5, .int x5_10)]) dX8_bothCost_52 5 rfl (by decide) (by decide) [1, 2, 3, 4, 5, 0] (fun _ => rfl) (fun x5_10 => ?_)
        refine wG_goto C dX8_bothCost_55 ?_
        exact wG_lv [0, 1, 2, 3, 4, 5] rfl (ih t_8 x5_10)
set_option maxRecDepth 4000 in
theorem w_X8_bothCost_O {X : wX} (C : Cx X yX8_bothCost cX8_bothCost 7 (some .int) rm_X8_bothCost_O) {N : Nat} {q : Qp} (hN : 137 ≤ N) (h : Hp) (x1 : Int32) (x2 : Int32) (x3 : Int32) : wG X 7 (eM X (fun u => (some (.int u), N, h, (rq q)))) (f_X8_bothCost_O h x1 x2 x3) N h (rq q) 0 0 0 [(0, .ref (xB X + 41)), (1, .int x1), (2, .int x2), (3, .int x3)] [] := by
  refine wG_of (f_X8_bothCost_O.eq_1 ..) ?_
  refine wG_ldc C dX8_bothCost_0 m_777 ?_
  refine wG_nmI (fun x4_1 => ?_)
  refine wG_istore C (L' := [(0, .ref (xB X + 41)), (1, .int x1), (2, .int x2), (3, .int x3), (4, .int x4_1)]) dX8_bothCost_2 (by decide) [1, 2, 3, 4, 0] rfl ?_
  refine wG_iload_n C dX8_bothCost_4 3 rfl ?_
  refine wG_nmI (fun x5_2 => ?_)
  refine wG_istore C (L' := [(0, .ref (xB X + 41)), (1, .int x1), (2, .int x2), (3, .int x3), (4, .int x4_1), (5, .int x5_2)]) dX8_bothCost_5 (by decide) [1, 2, 3, 4, 5, 0] rfl ?_
  refine wG_lv (L' := [(0, .ref (xB X + 41)), (1, .int x1), (2, .int x2), (3, .int x3), (4, .int x4_1), (5, .int x5_2)]) [0, 1, 2, 3, 4, 5] rfl ?_
  refine wG_bind (wL_X8_bothCost_O_7 C hN h x1 x2 x3 x4_1 x5_2 FU x4_1 x5_2) (fun t_5 => (?_ : wG X 7 _ _ N h (rq q) 0 0 58 [(4, .int t_5)] []))
  refine wG_iload C dX8_bothCost_58 0 rfl ?_
  exact wG_iret C dX8_bothCost_60 ⟨by decide, by decide⟩ (fun _ e => e)
theorem c_X8_bothCost_O (l : Launch) (E : wE) (N : Nat) (q : Qp) (hN : 137 ≤ N) (h : Hp) (x1 : Int32) (x2 : Int32) (x3 : Int32) : ∀ z, f_X8_bothCost_O h x1 x2 x3 = some z → CT l E yX8_bothCost cX8_bothCost 7 (some .int) rm_X8_bothCost_O [.ref (eB E + 41), .int x1, .int x2, .int x3] N h (rq q) ((fun u => (some (.int u), N, h, (rq q))) z) := CT.of (by decide +kernel) (Nat.le_of_ble_eq_true rfl) (fun X _ e C => by subst e; exact w_X8_bothCost_O C hN h x1 x2 x3)
def rm_X8_cutCost_O : Room := { frames := 1, cells := 0, slots := 0, locals := 26 }
def f_X8_cutCost_O (h : Hp) (x1 : Int32) (x2 : Int32) (x3 : Int32) (x4 : Int32) (x5 : Int32) (x6 : Int32) (x7 : Int32) : Option Int32 :=
  (if x5 = 0 then
  (f_X8_spotOf_O h x1 x2 x3 x6).bind fun u_1 =>
  vB u_1 fun (x8_2 : Int32) =>
  (f_X8_spotOf_O h x1 (x2 + x6) x3 (x4 - x6)).bind fun u_3 =>
  vB u_3 fun (x9_4 : Int32) =>
  (f_X6_cutPrice x3).bind fun u_5 =>
  (f_X8_bothCost_O h x8_2 x9_4 x7).bind fun u_6 =>
  some (u_5 + u_6)
  else
  (f_X8_spotOf_O h x1 x2 x6 x4).bind fun u_7 =>
  vB u_7 fun (x8_8 : Int32) =>
  (f_X8_spotOf_O h (x1 + x6) x2 (x3 - x6) x4).bind fun u_9 =>
  vB u_9 fun (x9_10 : Int32) =>
  (f_X6_cutPrice x4).bind fun u_11 =>
  (f_X8_bothCost_O h x8_8 x9_10 x7).bind fun u_12 =>
  some (u_11 + u_12))
set_option maxRecDepth 4000 in
theorem w_X8_cutCost_O {X : wX} (C : Cx X yX8_cutCost cX8_cutCost 10 (some .int) rm_X8_cutCost_O) {N : Nat} {q : Qp} (hN : 137 ≤ N) (h : Hp) (x1 : Int32) (x2 : Int32) (x3 : Int32) (x4 : Int32) (x5 : Int32) (x6 : Int32) (x7 : Int32) : wG X 10 (eM X (fun u => (some (.int u), N, h, (rq q)))) (f_X8_cutCost_O h x1 x2 x3 x4 x5 x6 x7) N h (rq q) 0 0 0 [(0, .ref (xB X + 41)), (1, .int x1), (2, .int x2), (3, .int x3), (4, .int x4), (5, .int x5), (6, .int x6), (7, .int x7)] [] := by
  refine wG_of (f_X8_cutCost_O.eq_1 ..) ?_
  refine wG_iload C dX8_cutCost_0 5 rfl ?_
  refine wG_if_eq C dX8_cutCost_2 ?_ ?_
  · refine wG_aload_n C dX8_cutCost_52 0 rfl ?_
    refine wG_iload_n C dX8_cutCost_53 1 rfl ?_
    refine wG_iload_n C dX8_cutCost_54 2 rfl ?_
    refine wG_iload_n C dX8_cutCost_55 3 rfl ?_
    refine wG_iload C dX8_cutCost_56 6 rfl ?_
    refine wG_cU_ri [.int x1, .int x2, .int x3, .int x6] [] C uw_X8_44_6 (c_X8_spotOf_O (xl X) (xE X) N q hN h x1 x2 x3 x6) kd_41 (wll hN (by decide)) (by decide) rfl rfl (Nat.le_of_ble_eq_true rfl) dX8_cutCost_58 (cl' := 0) (sl' := 0) rfl rfl (fun u_1 => ?_)
    refine wG_nmI (fun x8_2 => ?_)
    refine wG_istore C (L' := [(0, .ref (xB X + 41)), (1, .int x1), (2, .int x2), (3, .int x3), (4, .int x4), (6, .int x6), (7, .int x7), (8, .int x8_2)]) dX8_cutCost_61 (by decide) [1, 2, 3, 4, 5, 7, 8, 0] rfl ?_
    refine wG_aload_n C dX8_cutCost_63 0 rfl ?_
    refine wG_iload_n C dX8_cutCost_64 1 rfl ?_
    refine wG_iload_n C dX8_cutCost_65 2 rfl ?_
    refine wG_iload C dX8_cutCost_66 5 rfl ?_
    refine wG_iadd C dX8_cutCost_68 ?_
    refine wG_iload_n C dX8_cutCost_69 3 rfl ?_
    refine wG_iload C dX8_cutCost_70 4 rfl ?_
    refine wG_iload C dX8_cutCost_72 5 rfl ?_
    refine wG_isub C dX8_cutCost_74 ?_
    refine wG_cU_ri [.int x1, .int (x2 + x6), .int x3, .int (x4 - x6)] [] C uw_X8_44_6 (c_X8_spotOf_O (xl X) (xE X) N q hN h x1 (x2 + x6) x3 (x4 - x6)) kd_41 (wll hN (by decide)) (by decide) rfl rfl (Nat.le_of_ble_eq_true rfl) dX8_cutCost_75 (cl' := 0) (sl' := 0) rfl rfl (fun u_3 => ?_)
    refine wG_nmI (fun x9_4 => ?_)
    refine wG_istore C (L' := [(0, .ref (xB X + 41)), (3, .int x3), (7, .int x7), (8, .int x8_2), (9, .int x9_4)]) dX8_cutCost_78 (by decide) [1, 4, 7, 8, 0] rfl ?_
    refine wG_aload_n C dX8_cutCost_80 0 rfl ?_
    refine wG_iload_n C dX8_cutCost_81 1 rfl ?_
    refine wG_cU_ri [.int x3] [] C uw_X8_60_6 (c_X6_cutPrice (xl X) (xE X) N q hN h x3) kd_41 (wll hN (by decide)) (by decide) rfl rfl (Nat.le_of_ble_eq_true rfl) dX8_cutCost_82 (cl' := 0) (sl' := 0) rfl rfl (fun u_5 => ?_)
    refine wG_aload_n C dX8_cutCost_85 0 rfl ?_
    refine wG_iload C dX8_cutCost_86 3 rfl ?_
    refine wG_iload C dX8_cutCost_88 4 rfl ?_
    refine wG_iload C dX8_cutCost_90 2 rfl ?_
    refine wG_cU_ri [.int x8_2, .int x9_4, .int x7] [.int u_5] C uw_X8_64_6 (c_X8_bothCost_O (xl X) (xE X) N q hN h x8_2 x9_4 x7) kd_41 (wll hN (by decide)) (by decide) rfl rfl (Nat.le_of_ble_eq_true rfl) dX8_cutCost_92 (cl' := 0) (sl' := 0) rfl rfl (fun u_6 => ?_)
    refine wG_iadd C dX8_cutCost_95 ?_
    exact wG_iret C dX8_cutCost_96 ⟨by decide, by decide⟩ (fun _ e => e)
  · refine wG_aload_n C dX8_cutCost_5 0 rfl ?_
    refine wG_iload_n C dX8_cutCost_6 1 rfl ?_
    refine wG_iload_n C dX8_cutCost_7 2 rfl ?_
    refine wG_iload C dX8_cutCost_8 6 rfl ?_
    refine wG_iload C dX8_cutCost_10 4 rfl ?_
    refine wG_cU_ri [.int x1, .int x2, .int x6, .int x4] [] C uw_X8_44_6 (c_X8_spotOf_O (xl X) (xE X) N q hN h x1 x2 x6 x4) kd_41 (wll hN (by decide)) (by decide) rfl rfl (Nat.le_of_ble_eq_true rfl) dX8_cutCost_12 (cl' := 0) (sl' := 0) rfl rfl (fun u_7 => ?_)
    refine wG_nmI (fun x8_8 => ?_)
    refine wG_istore C (L' := [(0, .ref (xB X + 41)), (1, .int x1), (2, .int x2), (3, .int x3), (4, .int x4), (6, .int x6), (7, .int x7), (8, .int x8_8)]) dX8_cutCost_15 (by decide) [1, 2, 3, 4, 5, 7, 8, 0] rfl ?_
    refine wG_aload_n C dX8_cutCost_17 0 rfl ?_
    refine wG_iload_n C dX8_cutCost_18 1 rfl ?_
    refine wG_iload C dX8_cutCost_19 5 rfl ?_
    refine wG_iadd C dX8_cutCost_21 ?_
    refine wG_iload_n C dX8_cutCost_22 2 rfl ?_
    refine wG_iload_n C dX8_cutCost_23 3 rfl ?_
    refine wG_iload C dX8_cutCost_24 5 rfl ?_
    refine wG_isub C dX8_cutCost_26 ?_
    refine wG_iload C dX8_cutCost_27 4 rfl ?_
    refine wG_cU_ri [.int (x1 + x6), .int x2, .int (x3 - x6), .int x4] [] C uw_X8_44_6 (c_X8_spotOf_O (xl X) (xE X) N q hN h (x1 + x6) x2 (x3 - x6) x4) kd_41 (wll hN (by decide)) (by decide) rfl rfl (Nat.le_of_ble_eq_true rfl) dX8_cutCost_29 (cl' := 0) (sl' := 0) rfl rfl (fun u_9 => ?_)
    refine wG_nmI (fun x9_10 => ?_)
    refine wG_istore C (L' := [(0, .ref (xB X + 41)), (4, .int x4), (7, .int x7), (8, .int x8_8), (9, .int x9_10)]) dX8_cutCost_32 (by decide) [1, 5, 7, 8, 0] rfl ?_
    refine wG_aload_n C dX8_cutCost_34 0 rfl ?_
    refine wG_iload C dX8_cutCost_35 1 rfl ?_
    refine wG_cU_ri [.int x4] [] C uw_X8_60_6 (c_X6_cutPrice (xl X) (xE X) N q hN h x4) kd_41 (wll hN (by decide)) (by decide) rfl rfl (Nat.le_of_ble_eq_true rfl) dX8_cutCost_37 (cl' := 0) (sl' := 0) rfl rfl (fun u_11 => ?_)
    refine wG_aload_n C dX8_cutCost_40 0 rfl ?_
    refine wG_iload C dX8_cutCost_41 3 rfl ?_
    refine wG_iload C dX8_cutCost_43 4 rfl ?_
    refine wG_iload C dX8_cutCost_45 2 rfl ?_
    refine wG_cU_ri [.int x8_8, .int x9_10, .int x7] [.int u_11] C uw_X8_64_6 (c_X8_bothCost_O (xl X) (xE X) N q hN h x8_8 x9_10 x7) kd_41 (wll hN (by decide)) (by decide) rfl rfl (Nat.le_of_ble_eq_true rfl) dX8_cutCost_47 (cl' := 0) (sl' := 0) rfl rfl (fun u_12 => ?_)
    refine wG_iadd C dX8_cutCost_50 ?_
    exact wG_iret C dX8_cutCost_51 ⟨by decide, by decide⟩ (fun _ e => e)
theorem c_X8_cutCost_O (l : Launch) (E : wE) (N : Nat) (q : Qp) (hN : 137 ≤ N) (h : Hp) (x1 : Int32) (x2 : Int32) (x3 : Int32) (x4 : Int32) (x5 : Int32) (x6 : Int32) (x7 : Int32) : ∀ z, f_X8_cutCost_O h x1 x2 x3 x4 x5 x6 x7 = some z → CT l E yX8_cutCost cX8_cutCost 10 (some .int) rm_X8_cutCost_O [.ref (eB E + 41), .int x1, .int x2, .int x3, .int x4, .int x5, .int x6, .int x7] N h (rq q) ((fun u => (some (.int u), N, h, (rq q))) z) := CT.of (by decide +kernel) (Nat.le_of_ble_eq_true rfl) (fun X _ e C => by subst e; exact w_X8_cutCost_O C hN h x1 x2 x3 x4 x5 x6 x7)
def rm_X8_leastCut_O : Room := { frames := 2, cells := 0, slots := 0, locals := 55 }
def L_X8_leastCut_O_7 (h : Hp) (x1 : Int32) (x2 : Int32) (x3 : Int32) (x4 : Int32) (x5 : Int32) : Nat → Int32 → Int32 → Option Int32
  | 0, _, _ => none
  | n + 1, x6_3, x7_4 =>
    (if x3 ≤ x7_4 then
    some x6_3
    else
    (f_X8_cutCost_O h x1 x2 x3 x4 1 x7_4 x5).bind fun u_6 =>
    vB (if u_6 < x6_3 then u_6 else x6_3) fun (x6_7 : Int32) =>
    vB (x7_4 + 1) fun (x7_8 : Int32) =>
    L_X8_leastCut_O_7 h x1 x2 x3 x4 x5 n x6_7 x7_8)
def L_X8_leastCut_O_43 (h : Hp) (x1 : Int32) (x2 : Int32) (x3 : Int32) (x4 : Int32) (x5 : Int32) : Nat → Int32 → Int32 → Option Int32
  | 0, _, _ => none
  | n + 1, x6_10, x7_11 =>
    (if x4 ≤ x7_11 then
    some x6_10
    else
    (f_X8_cutCost_O h x1 x2 x3 x4 0 x7_11 x5).bind fun u_13 =>
    vB (if u_13 < x6_10 then u_13 else x6_10) fun (x6_14 : Int32) =>
    vB (x7_11 + 1) fun (x7_15 : Int32) =>
    L_X8_leastCut_O_43 h x1 x2 x3 x4 x5 n x6_14 x7_15)
def f_X8_leastCut_O (h : Hp) (x1 : Int32) (x2 : Int32) (x3 : Int32) (x4 : Int32) (x5 : Int32) : Option Int32 :=
  vB 1000000 fun (x6_1 : Int32) =>
  vB 1 fun (x7_2 : Int32) =>
  (L_X8_leastCut_O_7 h x1 x2 x3 x4 x5 FU x6_1 x7_2).bind fun t_5 =>
  vB 1 fun (x7_9 : Int32) =>
  (L_X8_leastCut_O_43 h x1 x2 x3 x4 x5 FU t_5 x7_9).bind fun t_12 =>
  some t_12
set_option maxRecDepth 4000 in
theorem wL_X8_leastCut_O_7 {X : wX} (C : Cx X yX8_leastCut cX8_leastCut 8 (some .int) rm_X8_leastCut_O) {N : Nat} {q : Qp} (hN : 137 ≤ N) (h : Hp) (x1 : Int32) (x2 : Int32) (x3 : Int32) (x4 : Int32) (x5 : Int32) (x6_1 : Int32) (x7_2 : Int32) : ∀ n x6_3 x7_4, wG X 8 (fun (t_5 : Int32) Q => gQ X 8 Q N h (rq q) 0 0 40 [(0, .ref (xB X + 41)), (1, .int x1), (2, .int x2), (3, .int x3), (4, .int x4), (5, .int x5), (6, .int t_5)] []) (L_X8_leastCut_O_7 h x1 x2 x3 x4 x5 n x6_3 x7_4) N h (rq q) 0 0 7 [(0, .ref (xB X + 41)), (1, .int x1), (2, .int x2), (3, .int x3), (4, .int x4), (5, .int x5), (6, .int x6_3), (7, .int x7_4)] [] := by
  intro n
  induction n with
  | zero => intro _ _; exact wG_none
  | succ n ih =>
    intro x6_3 x7_4
    refine wG_of (L_X8_leastCut_O_7.eq_2 ..) ?_
    refine wG_iload C dX8_leastCut_7 7 rfl ?_
    refine wG_iload_n C dX8_leastCut_9 3 rfl ?_
    refine wG_icmp_ge C dX8_leastCut_10 ?_ ?_
    · exact wG_exit (fun Q e => gQ_lv [0, 1, 2, 3, 4, 5, 6] rfl e)
    · refine wG_iload C dX8_leastCut_13 6 rfl ?_
      refine wG_aload_n C dX8_leastCut_15 0 rfl ?_
      refine wG_iload_n C dX8_leastCut_16 1 rfl ?_
      refine wG_iload_n C dX8_leastCut_17 2 rfl ?_
      refine wG_iload_n C dX8_leastCut_18 3 rfl ?_
      refine wG_iload C dX8_leastCut_19 4 rfl ?_
      refine wG_iconst C dX8_leastCut_21 (v := 1) (by decide) ?_
      refine wG_iload C dX8_leastCut_22 7 rfl ?_
      refine wG_iload C dX8_leastCut_24 5 rfl ?_
      refine wG_cU_ri [.int x1, .int x2, .int x3, .int x4, .int 1, .int x7_4, .int x5] [.int x6_3] C uw_X8_56_6 (c_X8_cutCost_O (xl X) (xE X) N q hN h x1 x2 x3 x4 1 x7_4 x5) kd_41 (wll hN (by decide)) (by decide) rfl rfl (Nat.le_of_ble_eq_true rfl) dX8_leastCut_26 (cl' := 0) (sl' := 0) rfl rfl (fun u_6 => ?_)
      refine wG_mmin C mw_X8_37 ⟨by decide, Nat.le_of_ble_eq_true rfl, by decide, by decide⟩ dX8_leastCut_29 ?_
      refine wG_nmI (fun x6_7 => ?_)
      refine wG_istore C (L' := [(0, .ref (xB X + 41)), (1, .int x1), (2, .int x2), (3, .int x3), (4, .int x4), (5, .int x5), (6, .int x6_7), (7, .int x7_4)]) dX8_leastCut_32 (by decide) [1, 2, 3, 4, 5, 6, 0, 7] rfl ?_
      refine wG_iinc C (v := 1) (LL := fun x7_8 => [(0, .ref (xB X + 41)), (1, .int x1), (2, .int x2), (3, .int x3), (4, .int x4), (5, .int x5), (6, .int x6_7), (7, .int x7_8)]) dX8_leastCut_34 7 rfl (by decide) (by decide) [1, 2, 3, 4, 5, 6, 7, 0] (fun _ => rfl) (fun x7_8 => ?_)
      refine wG_goto C dX8_leastCut_37 ?_
      exact wG_lv [0, 1, 2, 3, 4, 5, 6, 7] rfl (ih x6_7 x7_8)
set_option maxRecDepth 4000 in
theorem wL_X8_leastCut_O_43 {X : wX} (C : Cx X yX8_leastCut cX8_leastCut 8 (some .int) rm_X8_leastCut_O) {N : Nat} {q : Qp} (hN : 137 ≤ N) (h : Hp) (x1 : Int32) (x2 : Int32) (x3 : Int32) (x4 : Int32) (x5 : Int32) (x6_1 : Int32) (x7_2 : Int32) (t_5 : Int32) (x7_9 : Int32) : ∀ n x6_10 x7_11, wG X 8 (fun (t_12 : Int32) Q => gQ X 8 Q N h (rq q) 0 0 77 [(6, .int t_12)] []) (L_X8_leastCut_O_43 h x1 x2 x3 x4 x5 n x6_10 x7_11) N h (rq q) 0 0 43 [(0, .ref (xB X + 41)), (1, .int x1), (2, .int x2), (3, .int x3), (4, .int x4), (5, .int x5), (6, .int x6_10), (7, .int x7_11)] [] := by
  intro n
  induction n with
  | zero => intro _ _; exact wG_none
  | succ n ih =>
    intro x6_10 x7_11
    refine wG_of (L_X8_leastCut_O_43.eq_2 ..) ?_
    refine wG_iload C dX8_leastCut_43 7 rfl ?_
    refine wG_iload C dX8_leastCut_45 4 rfl ?_
    refine wG_icmp_ge C dX8_leastCut_47 ?_ ?_
    · exact wG_exit (fun Q e => gQ_lv [6] rfl e)
    · refine wG_iload C dX8_leastCut_50 6 rfl ?_
      refine wG_aload_n C dX8_leastCut_52 0 rfl ?_
      refine wG_iload_n C dX8_leastCut_53 1 rfl ?_
      refine wG_iload_n C dX8_leastCut_54 2 rfl ?_
      refine wG_iload_n C dX8_leastCut_55 3 rfl ?_
      refine wG_iload C dX8_leastCut_56 4 rfl ?_
      refine wG_iconst C dX8_leastCut_58 (v := 0) (by decide) ?_
      refine wG_iload C dX8_leastCut_59 7 rfl ?_
      refine wG_iload C dX8_leastCut_61 5 rfl ?_
      refine wG_cU_ri [.int x1, .int x2, .int x3, .int x4, .int 0, .int x7_11, .int x5] [.int x6_10] C uw_X8_56_6 (c_X8_cutCost_O (xl X) (xE X) N q hN h x1 x2 x3 x4 0 x7_11 x5) kd_41 (wll hN (by decide)) (by decide) rfl rfl (Nat.le_of_ble_eq_true rfl) dX8_leastCut_63 (cl' := 0) (sl' := 0) rfl rfl (fun u_13 => ?_)
      refine wG_mmin C mw_X8_37 ⟨by decide, Nat.le_of_ble_eq_true rfl, by decide, by decide⟩ dX8_leastCut_66 ?_
      refine wG_nmI (fun x6_14 => ?_)
      refine wG_istore C (L' := [(0, .ref (xB X + 41)), (1, .int x1), (2, .int x2), (3, .int x3), (4, .int x4), (5, .int x5), (6, .int x6_14), (7, .int x7_11)]) dX8_leastCut_69 (by decide) [1, 2, 3, 4, 5, 6, 0, 7] rfl ?_
      refine wG_iinc C (v := 1) (LL := fun x7_15 => [(0, .ref (xB X + 41)), (1, .int x1), (2, .int x2), (3, .int x3), (4, .int x4), (5, .int x5), (6, .int x6_14), (7, .int x7_15)]) dX8_leastCut_71 7 rfl (by decide) (by decide) [1, 2, 3, 4, 5, 6, 7, 0] (fun _ => rfl) (fun x7_15 => ?_)
      refine wG_goto C dX8_leastCut_74 ?_
      exact wG_lv [0, 1, 2, 3, 4, 5, 6, 7] rfl (ih x6_14 x7_15)
set_option maxRecDepth 4000 in
theorem w_X8_leastCut_O {X : wX} (C : Cx X yX8_leastCut cX8_leastCut 8 (some .int) rm_X8_leastCut_O) {N : Nat} {q : Qp} (hN : 137 ≤ N) (h : Hp) (x1 : Int32) (x2 : Int32) (x3 : Int32) (x4 : Int32) (x5 : Int32) : wG X 8 (eM X (fun u => (some (.int u), N, h, (rq q)))) (f_X8_leastCut_O h x1 x2 x3 x4 x5) N h (rq q) 0 0 0 [(0, .ref (xB X + 41)), (1, .int x1), (2, .int x2), (3, .int x3), (4, .int x4), (5, .int x5)] [] := by
  refine wG_of (f_X8_leastCut_O.eq_1 ..) ?_
  refine wG_ldc C dX8_leastCut_0 m_777 ?_
  refine wG_nmI (fun x6_1 => ?_)
  refine wG_istore C (L' := [(0, .ref (xB X + 41)), (1, .int x1), (2, .int x2), (3, .int x3), (4, .int x4), (5, .int x5), (6, .int x6_1)]) dX8_leastCut_2 (by decide) [1, 2, 3, 4, 5, 6, 0] rfl ?_
  refine wG_iconst C dX8_leastCut_4 (v := 1) (by decide) ?_
  refine wG_nmI (fun x7_2 => ?_)
  refine wG_istore C (L' := [(0, .ref (xB X + 41)), (1, .int x1), (2, .int x2), (3, .int x3), (4, .int x4), (5, .int x5), (6, .int x6_1), (7, .int x7_2)]) dX8_leastCut_5 (by decide) [1, 2, 3, 4, 5, 6, 7, 0] rfl ?_
  refine wG_lv (L' := [(0, .ref (xB X + 41)), (1, .int x1), (2, .int x2), (3, .int x3), (4, .int x4), (5, .int x5), (6, .int x6_1), (7, .int x7_2)]) [0, 1, 2, 3, 4, 5, 6, 7] rfl ?_
  refine wG_bind (wL_X8_leastCut_O_7 C hN h x1 x2 x3 x4 x5 x6_1 x7_2 FU x6_1 x7_2) (fun t_5 => (?_ : wG X 8 _ _ N h (rq q) 0 0 40 [(0, .ref (xB X + 41)), (1, .int x1), (2, .int x2), (3, .int x3), (4, .int x4), (5, .int x5), (6, .int t_5)] []))
  refine wG_iconst C dX8_leastCut_40 (v := 1) (by decide) ?_
  refine wG_nmI (fun x7_9 => ?_)
  refine wG_istore C (L' := [(0, .ref (xB X + 41)), (1, .int x1), (2, .int x2), (3, .int x3), (4, .int x4), (5, .int x5), (6, .int t_5), (7, .int x7_9)]) dX8_leastCut_41 (by decide) [1, 2, 3, 4, 5, 6, 7, 0] rfl ?_
  refine wG_lv (L' := [(0, .ref (xB X + 41)), (1, .int x1), (2, .int x2), (3, .int x3), (4, .int x4), (5, .int x5), (6, .int t_5), (7, .int x7_9)]) [0, 1, 2, 3, 4, 5, 6, 7] rfl ?_
  refine wG_bind (wL_X8_leastCut_O_43 C hN h x1 x2 x3 x4 x5 x6_1 x7_2 t_5 x7_9 FU t_5 x7_9) (fun t_12 => (?_ : wG X 8 _ _ N h (rq q) 0 0 77 [(6, .int t_12)] []))
  refine wG_iload C dX8_leastCut_77 0 rfl ?_
  exact wG_iret C dX8_leastCut_79 ⟨by decide, by decide⟩ (fun _ e => e)
theorem c_X8_leastCut_O (l : Launch) (E : wE) (N : Nat) (q : Qp) (hN : 137 ≤ N) (h : Hp) (x1 : Int32) (x2 : Int32) (x3 : Int32) (x4 : Int32) (x5 : Int32) : ∀ z, f_X8_leastCut_O h x1 x2 x3 x4 x5 = some z → CT l E yX8_leastCut cX8_leastCut 8 (some .int) rm_X8_leastCut_O [.ref (eB E + 41), .int x1, .int x2, .int x3, .int x4, .int x5] N h (rq q) ((fun u => (some (.int u), N, h, (rq q))) z) := CT.of (by decide +kernel) (Nat.le_of_ble_eq_true rfl) (fun X _ e C => by subst e; exact w_X8_leastCut_O C hN h x1 x2 x3 x4 x5)
def rm_X8_settle_O : Room := { frames := 3, cells := 0, slots := 0, locals := 82 }
def L_X8_settle_O_14 (x1 : Int32) (x2 : Int32) (x3 : Int32) (x4 : Int32) (x5 : Int32) (q : Qp) (x6_2 : Int32) : Nat → Int32 → Hp → Option Hp
  | 0, _, _ => none
  | n + 1, x7_4, h_5 =>
    (if x5 < x7_4 then
    some h_5
    else
    (f_X6_verdict q h_5 x1 x2 x3 x4 x7_4).bind fun u_7 =>
    vB u_7 fun (x8_8 : Int32) =>
    ((if x8_8 = (-1) then
    (f_X8_leastCut_O h_5 x1 x2 x3 x4 x7_4).bind fun u_10 =>
    some u_10
    else
    some x8_8)).bind fun t_9 =>
    if inB (x6_2 + x7_4) 7056 then vB (u2 h_5 42 (ix (x6_2 + x7_4)) t_9) fun h_11 =>
    vB (x7_4 + 1) fun (x7_12 : Int32) =>
    L_X8_settle_O_14 x1 x2 x3 x4 x5 q x6_2 n x7_12 h_11 else none)
def f_X8_settle_O (q : Qp) (h : Hp) (x1 : Int32) (x2 : Int32) (x3 : Int32) (x4 : Int32) (x5 : Int32) : Option Hp :=
  (f_X8_spotOf_O h x1 x2 x3 x4).bind fun u_1 =>
  vB u_1 fun (x6_2 : Int32) =>
  vB 0 fun (x7_3 : Int32) =>
  (L_X8_settle_O_14 x1 x2 x3 x4 x5 q x6_2 FU x7_3 h).bind fun t_6 =>
  some t_6
set_option maxRecDepth 4000 in
theorem wL_X8_settle_O_14 {X : wX} (C : Cx X yX8_settle cX8_settle 9 none rm_X8_settle_O) {N : Nat} {q : Qp} (hN : 137 ≤ N) (h : Hp) (x1 : Int32) (x2 : Int32) (x3 : Int32) (x4 : Int32) (x5 : Int32) (u_1 : Int32) (x6_2 : Int32) (x7_3 : Int32) : ∀ n x7_4 h_5, wG X 9 (fun (t_6 : Hp) Q => gQ X 9 Q N t_6 (rq q) 0 0 72 [] []) (L_X8_settle_O_14 x1 x2 x3 x4 x5 q x6_2 n x7_4 h_5) N h_5 (rq q) 0 0 14 [(0, .ref (xB X + 41)), (1, .int x1), (2, .int x2), (3, .int x3), (4, .int x4), (5, .int x5), (6, .int x6_2), (7, .int x7_4)] [] := by
  intro n
  induction n with
  | zero => intro _ _; exact wG_none
  | succ n ih =>
    intro x7_4 h_5
    refine wG_of (L_X8_settle_O_14.eq_2 ..) ?_
    refine wG_iload C dX8_settle_14 7 rfl ?_
    refine wG_iload C dX8_settle_16 5 rfl ?_
    refine wG_icmp_gt C dX8_settle_18 ?_ ?_
    · exact wG_exit (fun Q e => gQ_lv [] rfl e)
    · refine wG_aload_n C dX8_settle_21 0 rfl ?_
      refine wG_iload_n C dX8_settle_22 1 rfl ?_
      refine wG_iload_n C dX8_settle_23 2 rfl ?_
      refine wG_iload_n C dX8_settle_24 3 rfl ?_
      refine wG_iload C dX8_settle_25 4 rfl ?_
      refine wG_iload C dX8_settle_27 7 rfl ?_
      refine wG_cU_ri [.int x1, .int x2, .int x3, .int x4, .int x7_4] [] C uw_X8_48_6 (c_X6_verdict (xl X) (xE X) N q hN h_5 x1 x2 x3 x4 x7_4) kd_41 (wll hN (by decide)) (by decide) rfl rfl (Nat.le_of_ble_eq_true rfl) dX8_settle_29 (cl' := 0) (sl' := 0) rfl rfl (fun u_7 => ?_)
      refine wG_nmI (fun x8_8 => ?_)
      refine wG_istore C (L' := [(0, .ref (xB X + 41)), (1, .int x1), (2, .int x2), (3, .int x3), (4, .int x4), (5, .int x5), (6, .int x6_2), (7, .int x7_4), (8, .int x8_8)]) dX8_settle_32 (by decide) [1, 2, 3, 4, 5, 6, 7, 8, 0] rfl ?_
      refine wG_aload_n C dX8_settle_34 0 rfl ?_
      refine wG_getR C fl_X8_25_6 rfl kd_41 (wll hN (by decide)) (rf_41_2 q) dX8_settle_35 ?_
      refine wG_iload C dX8_settle_38 6 rfl ?_
      refine wG_iload C dX8_settle_40 7 rfl ?_
      refine wG_iadd C dX8_settle_42 ?_
      refine wG_iload C dX8_settle_43 8 rfl ?_
      refine wG_iconst C dX8_settle_45 (v := (-1)) (by decide) ?_
      refine wG_bind (J := (fun (t_9 : Int32) Q => gQ X 9 Q N h_5 (rq q) 0 0 65 [(0, .ref (xB X + 41)), (1, .int x1), (2, .int x2), (3, .int x3), (4, .int x4), (5, .int x5), (6, .int x6_2), (7, .int x7_4)] [.int t_9, .int (x6_2 + x7_4), .ref (xB X + 42)])) ?_ (fun t_9 => (?_ : wG X 9 _ _ N h_5 (rq q) 0 0 65 [(0, .ref (xB X + 41)), (1, .int x1), (2, .int x2), (3, .int x3), (4, .int x4), (5, .int x5), (6, .int x6_2), (7, .int x7_4)] [.int t_9, .int (x6_2 + x7_4), .ref (xB X + 42)]))
      · refine wG_icmp_ne C dX8_settle_46 ?_ ?_
        · refine wG_aload_n C dX8_settle_49 0 rfl ?_
          refine wG_iload_n C dX8_settle_50 1 rfl ?_
          refine wG_iload_n C dX8_settle_51 2 rfl ?_
          refine wG_iload_n C dX8_settle_52 3 rfl ?_
          refine wG_iload C dX8_settle_53 4 rfl ?_
          refine wG_iload C dX8_settle_55 7 rfl ?_
          refine wG_cU_ri [.int x1, .int x2, .int x3, .int x4, .int x7_4] [.int (x6_2 + x7_4), .ref (xB X + 42)] C uw_X8_52_6 (c_X8_leastCut_O (xl X) (xE X) N q hN h_5 x1 x2 x3 x4 x7_4) kd_41 (wll hN (by decide)) (by decide) rfl rfl (Nat.le_of_ble_eq_true rfl) dX8_settle_57 (cl' := 0) (sl' := 0) rfl rfl (fun u_10 => ?_)
          refine wG_goto C dX8_settle_60 ?_
          exact wG_exit (fun Q e => gQ_lv [0, 1, 2, 3, 4, 5, 6, 7] rfl e)
        · refine wG_iload C dX8_settle_63 8 rfl ?_
          exact wG_exit (fun Q e => gQ_lv [0, 1, 2, 3, 4, 5, 6, 7] rfl e)
      · refine wG_iast C kd_42 (wll hN (by decide)) ln_42 dX8_settle_65 (fun h_11 => ?_)
        refine wG_iinc C (v := 1) (LL := fun x7_12 => [(0, .ref (xB X + 41)), (1, .int x1), (2, .int x2), (3, .int x3), (4, .int x4), (5, .int x5), (6, .int x6_2), (7, .int x7_12)]) dX8_settle_66 7 rfl (by decide) (by decide) [1, 2, 3, 4, 5, 6, 7, 0] (fun _ => rfl) (fun x7_12 => ?_)
        refine wG_goto C dX8_settle_69 ?_
        exact wG_lv [0, 1, 2, 3, 4, 5, 6, 7] rfl (ih x7_12 h_11)
set_option maxRecDepth 4000 in
theorem w_X8_settle_O {X : wX} (C : Cx X yX8_settle cX8_settle 9 none rm_X8_settle_O) {N : Nat} {q : Qp} (hN : 137 ≤ N) (h : Hp) (x1 : Int32) (x2 : Int32) (x3 : Int32) (x4 : Int32) (x5 : Int32) : wG X 9 (eM X (fun u => (none, N, u, (rq q)))) (f_X8_settle_O q h x1 x2 x3 x4 x5) N h (rq q) 0 0 0 [(0, .ref (xB X + 41)), (1, .int x1), (2, .int x2), (3, .int x3), (4, .int x4), (5, .int x5)] [] := by
  refine wG_of (f_X8_settle_O.eq_1 ..) ?_
  refine wG_aload_n C dX8_settle_0 0 rfl ?_
  refine wG_iload_n C dX8_settle_1 1 rfl ?_
  refine wG_iload_n C dX8_settle_2 2 rfl ?_
  refine wG_iload_n C dX8_settle_3 3 rfl ?_
  refine wG_iload C dX8_settle_4 4 rfl ?_
  refine wG_cU_ri [.int x1, .int x2, .int x3, .int x4] [] C uw_X8_44_6 (c_X8_spotOf_O (xl X) (xE X) N q hN h x1 x2 x3 x4) kd_41 (wll hN (by decide)) (by decide) rfl rfl (Nat.le_of_ble_eq_true rfl) dX8_settle_6 (cl' := 0) (sl' := 0) rfl rfl (fun u_1 => ?_)
  refine wG_nmI (fun x6_2 => ?_)
  refine wG_istore C (L' := [(0, .ref (xB X + 41)), (1, .int x1), (2, .int x2), (3, .int x3), (4, .int x4), (5, .int x5), (6, .int x6_2)]) dX8_settle_9 (by decide) [1, 2, 3, 4, 5, 6, 0] rfl ?_
  refine wG_iconst C dX8_settle_11 (v := 0) (by decide) ?_
  refine wG_nmI (fun x7_3 => ?_)
  refine wG_istore C (L' := [(0, .ref (xB X + 41)), (1, .int x1), (2, .int x2), (3, .int x3), (4, .int x4), (5, .int x5), (6, .int x6_2), (7, .int x7_3)]) dX8_settle_12 (by decide) [1, 2, 3, 4, 5, 6, 7, 0] rfl ?_
  refine wG_lv (L' := [(0, .ref (xB X + 41)), (1, .int x1), (2, .int x2), (3, .int x3), (4, .int x4), (5, .int x5), (6, .int x6_2), (7, .int x7_3)]) [0, 1, 2, 3, 4, 5, 6, 7] rfl ?_
  refine wG_bind (wL_X8_settle_O_14 C hN h x1 x2 x3 x4 x5 u_1 x6_2 x7_3 FU x7_3 h) (fun t_6 => (?_ : wG X 9 _ _ N t_6 (rq q) 0 0 72 [] []))
  exact wG_vret C dX8_settle_72 ⟨by decide, by decide⟩ (fun _ e => e)
theorem c_X8_settle_O (l : Launch) (E : wE) (N : Nat) (q : Qp) (hN : 137 ≤ N) (h : Hp) (x1 : Int32) (x2 : Int32) (x3 : Int32) (x4 : Int32) (x5 : Int32) : ∀ z, f_X8_settle_O q h x1 x2 x3 x4 x5 = some z → CT l E yX8_settle cX8_settle 9 none rm_X8_settle_O [.ref (eB E + 41), .int x1, .int x2, .int x3, .int x4, .int x5] N h (rq q) ((fun u => (none, N, u, (rq q))) z) := CT.of (by decide +kernel) (Nat.le_of_ble_eq_true rfl) (fun X _ e C => by subst e; exact w_X8_settle_O C hN h x1 x2 x3 x4 x5)
def rm_X8_workOut_O : Room := { frames := 4, cells := 0, slots := 0, locals := 110 }
def L_X8_workOut_O_46 (x1 : Int32) (q : Qp) (x2_2 : Int32) (x3_6 : Int32) (x4_10 : Int32) : Nat → Int32 → Hp → Option Hp
  | 0, _, _ => none
  | n + 1, x5_14, h_15 =>
    (if ((h_15 3 4) - x3_6) < x5_14 then
    some h_15
    else
    (f_X8_settle_O q h_15 x4_10 x5_14 x2_2 x3_6 (if ((h_15 41 1) - 1) < x1 then ((h_15 41 1) - 1) else x1)).bind fun u_17 =>
    vB (x5_14 + 1) fun (x5_18 : Int32) =>
    L_X8_workOut_O_46 x1 q x2_2 x3_6 x4_10 n x5_18 u_17)
def L_X8_workOut_O_29 (x1 : Int32) (q : Qp) (x2_2 : Int32) (x3_6 : Int32) : Nat → Int32 → Hp → Option Hp
  | 0, _, _ => none
  | n + 1, x4_10, h_11 =>
    (if ((h_11 3 3) - x2_2) < x4_10 then
    some h_11
    else
    vB 0 fun (x5_13 : Int32) =>
    (L_X8_workOut_O_46 x1 q x2_2 x3_6 x4_10 FU x5_13 h_11).bind fun t_16 =>
    vB (x4_10 + 1) fun (x4_19 : Int32) =>
    L_X8_workOut_O_29 x1 q x2_2 x3_6 n x4_19 t_16)
def L_X8_workOut_O_15 (x1 : Int32) (q : Qp) (x2_2 : Int32) : Nat → Int32 → Hp → Option Hp
  | 0, _, _ => none
  | n + 1, x3_6, h_7 =>
    (if (h_7 3 4) < x3_6 then
    some h_7
    else
    vB 0 fun (x4_9 : Int32) =>
    (L_X8_workOut_O_29 x1 q x2_2 x3_6 FU x4_9 h_7).bind fun t_12 =>
    vB (x3_6 + 1) fun (x3_20 : Int32) =>
    L_X8_workOut_O_15 x1 q x2_2 n x3_20 t_12)
def L_X8_workOut_O_2 (x1 : Int32) (q : Qp) : Nat → Int32 → Hp → Option Hp
  | 0, _, _ => none
  | n + 1, x2_2, h_3 =>
    (if (h_3 3 3) < x2_2 then
    some h_3
    else
    vB 1 fun (x3_5 : Int32) =>
    (L_X8_workOut_O_15 x1 q x2_2 FU x3_5 h_3).bind fun t_8 =>
    vB (x2_2 + 1) fun (x2_21 : Int32) =>
    L_X8_workOut_O_2 x1 q n x2_21 t_8)
def f_X8_workOut_O (q : Qp) (h : Hp) (x1 : Int32) : Option Hp :=
  vB 1 fun (x2_1 : Int32) =>
  (L_X8_workOut_O_2 x1 q FU x2_1 h).bind fun t_4 =>
  some t_4
set_option maxRecDepth 4000 in
theorem wL_X8_workOut_O_46 {X : wX} (C : Cx X yX8_workOut cX8_workOut 6 none rm_X8_workOut_O) {N : Nat} {q : Qp} (hN : 137 ≤ N) (h : Hp) (x1 : Int32) (x2_1 : Int32) (x2_2 : Int32) (h_3 : Hp) (x3_5 : Int32) (x3_6 : Int32) (h_7 : Hp) (x4_9 : Int32) (x4_10 : Int32) (h_11 : Hp) (x5_13 : Int32) : ∀ n x5_14 h_15, wG X 6 (fun (t_16 : Hp) Q => gQ X 6 Q N t_16 (rq q) 0 0 86 [(0, .ref (xB X + 41)), (1, .int x1), (2, .int x2_2), (3, .int x3_6), (4, .int x4_10)] []) (L_X8_workOut_O_46 x1 q x2_2 x3_6 x4_10 n x5_14 h_15) N h_15 (rq q) 0 0 46 [(0, .ref (xB X + 41)), (1, .int x1), (2, .int x2_2), (3, .int x3_6), (4, .int x4_10), (5, .int x5_14)] [] := by
  intro n
  induction n with
  | zero => intro _ _; exact wG_none
  | succ n ih =>
    intro x5_14 h_15
    refine wG_of (L_X8_workOut_O_46.eq_2 ..) ?_
    refine wG_iload C dX8_workOut_46 5 rfl ?_
    refine wG_aload_n C dX8_workOut_48 0 rfl ?_
    refine wG_getR C fl_X8_9_6 rfl kd_41 (wll hN (by decide)) (rf_41_0 q) dX8_workOut_49 ?_
    refine wG_getI C fl_X8_34_4 rfl kd_3 (wll hN (by decide)) dX8_workOut_52 ?_
    refine wG_iload_n C dX8_workOut_55 3 rfl ?_
    refine wG_isub C dX8_workOut_56 ?_
    refine wG_icmp_gt C dX8_workOut_57 ?_ ?_
    · exact wG_exit (fun Q e => gQ_lv [0, 1, 2, 3, 4] rfl e)
    · refine wG_aload_n C dX8_workOut_60 0 rfl ?_
      refine wG_iload C dX8_workOut_61 4 rfl ?_
      refine wG_iload C dX8_workOut_63 5 rfl ?_
      refine wG_iload_n C dX8_workOut_65 2 rfl ?_
      refine wG_iload_n C dX8_workOut_66 3 rfl ?_
      refine wG_iload_n C dX8_workOut_67 1 rfl ?_
      refine wG_aload_n C dX8_workOut_68 0 rfl ?_
      refine wG_getI C fl_X8_21_6 rfl kd_41 (wll hN (by decide)) dX8_workOut_69 ?_
      refine wG_iconst C dX8_workOut_72 (v := 1) (by decide) ?_
      refine wG_isub C dX8_workOut_73 ?_
      refine wG_mmin C mw_X8_37 ⟨by decide, Nat.le_of_ble_eq_true rfl, by decide, by decide⟩ dX8_workOut_74 ?_
      refine wG_cU_wv [.int x4_10, .int x5_14, .int x2_2, .int x3_6, .int (if ((h_15 41 1) - 1) < x1 then ((h_15 41 1) - 1) else x1)] [] C uw_X8_40_6 (c_X8_settle_O (xl X) (xE X) N q hN h_15 x4_10 x5_14 x2_2 x3_6 (if ((h_15 41 1) - 1) < x1 then ((h_15 41 1) - 1) else x1)) kd_41 (wll hN (by decide)) (by decide) rfl rfl (Nat.le_of_ble_eq_true rfl) dX8_workOut_77 (cl' := 0) (sl' := 0) rfl rfl (fun u_17 => ?_)
      refine wG_iinc C (v := 1) (LL := fun x5_18 => [(0, .ref (xB X + 41)), (1, .int x1), (2, .int x2_2), (3, .int x3_6), (4, .int x4_10), (5, .int x5_18)]) dX8_workOut_80 5 rfl (by decide) (by decide) [1, 2, 3, 4, 5, 0] (fun _ => rfl) (fun x5_18 => ?_)
      refine wG_goto C dX8_workOut_83 ?_
      exact wG_lv [0, 1, 2, 3, 4, 5] rfl (ih x5_18 u_17)
set_option maxRecDepth 4000 in
theorem wL_X8_workOut_O_29 {X : wX} (C : Cx X yX8_workOut cX8_workOut 6 none rm_X8_workOut_O) {N : Nat} {q : Qp} (hN : 137 ≤ N) (h : Hp) (x1 : Int32) (x2_1 : Int32) (x2_2 : Int32) (h_3 : Hp) (x3_5 : Int32) (x3_6 : Int32) (h_7 : Hp) (x4_9 : Int32) : ∀ n x4_10 h_11, wG X 6 (fun (t_12 : Hp) Q => gQ X 6 Q N t_12 (rq q) 0 0 92 [(0, .ref (xB X + 41)), (1, .int x1), (2, .int x2_2), (3, .int x3_6)] []) (L_X8_workOut_O_29 x1 q x2_2 x3_6 n x4_10 h_11) N h_11 (rq q) 0 0 29 [(0, .ref (xB X + 41)), (1, .int x1), (2, .int x2_2), (3, .int x3_6), (4, .int x4_10)] [] := by
  intro n
  induction n with
  | zero => intro _ _; exact wG_none
  | succ n ih =>
    intro x4_10 h_11
    refine wG_of (L_X8_workOut_O_29.eq_2 ..) ?_
    refine wG_iload C dX8_workOut_29 4 rfl ?_
    refine wG_aload_n C dX8_workOut_31 0 rfl ?_
    refine wG_getR C fl_X8_9_6 rfl kd_41 (wll hN (by decide)) (rf_41_0 q) dX8_workOut_32 ?_
    refine wG_getI C fl_X8_29_4 rfl kd_3 (wll hN (by decide)) dX8_workOut_35 ?_
    refine wG_iload_n C dX8_workOut_38 2 rfl ?_
    refine wG_isub C dX8_workOut_39 ?_
    refine wG_icmp_gt C dX8_workOut_40 ?_ ?_
    · exact wG_exit (fun Q e => gQ_lv [0, 1, 2, 3] rfl e)
    · refine wG_iconst C dX8_workOut_43 (v := 0) (by decide) ?_
      refine wG_nmI (fun x5_13 => ?_)
      refine wG_istore C (L' := [(0, .ref (xB X + 41)), (1, .int x1), (2, .int x2_2), (3, .int x3_6), (4, .int x4_10), (5, .int x5_13)]) dX8_workOut_44 (by decide) [1, 2, 3, 4, 5, 0] rfl ?_
      refine wG_lv (L' := [(0, .ref (xB X + 41)), (1, .int x1), (2, .int x2_2), (3, .int x3_6), (4, .int x4_10), (5, .int x5_13)]) [0, 1, 2, 3, 4, 5] rfl ?_
      refine wG_bind (wL_X8_workOut_O_46 C hN h x1 x2_1 x2_2 h_3 x3_5 x3_6 h_7 x4_9 x4_10 h_11 x5_13 FU x5_13 h_11) (fun t_16 => (?_ : wG X 6 _ _ N t_16 (rq q) 0 0 86 [(0, .ref (xB X + 41)), (1, .int x1), (2, .int x2_2), (3, .int x3_6), (4, .int x4_10)] []))
      refine wG_iinc C (v := 1) (LL := fun x4_19 => [(0, .ref (xB X + 41)), (1, .int x1), (2, .int x2_2), (3, .int x3_6), (4, .int x4_19)]) dX8_workOut_86 4 rfl (by decide) (by decide) [1, 2, 3, 4, 0] (fun _ => rfl) (fun x4_19 => ?_)
      refine wG_goto C dX8_workOut_89 ?_
      exact wG_lv [0, 1, 2, 3, 4] rfl (ih x4_19 t_16)
set_option maxRecDepth 4000 in
theorem wL_X8_workOut_O_15 {X : wX} (C : Cx X yX8_workOut cX8_workOut 6 none rm_X8_workOut_O) {N : Nat} {q : Qp} (hN : 137 ≤ N) (h : Hp) (x1 : Int32) (x2_1 : Int32) (x2_2 : Int32) (h_3 : Hp) (x3_5 : Int32) : ∀ n x3_6 h_7, wG X 6 (fun (t_8 : Hp) Q => gQ X 6 Q N t_8 (rq q) 0 0 98 [(0, .ref (xB X + 41)), (1, .int x1), (2, .int x2_2)] []) (L_X8_workOut_O_15 x1 q x2_2 n x3_6 h_7) N h_7 (rq q) 0 0 15 [(0, .ref (xB X + 41)), (1, .int x1), (2, .int x2_2), (3, .int x3_6)] [] := by
  intro n
  induction n with
  | zero => intro _ _; exact wG_none
  | succ n ih =>
    intro x3_6 h_7
    refine wG_of (L_X8_workOut_O_15.eq_2 ..) ?_
    refine wG_iload_n C dX8_workOut_15 3 rfl ?_
    refine wG_aload_n C dX8_workOut_16 0 rfl ?_
    refine wG_getR C fl_X8_9_6 rfl kd_41 (wll hN (by decide)) (rf_41_0 q) dX8_workOut_17 ?_
    refine wG_getI C fl_X8_34_4 rfl kd_3 (wll hN (by decide)) dX8_workOut_20 ?_
    refine wG_icmp_gt C dX8_workOut_23 ?_ ?_
    · exact wG_exit (fun Q e => gQ_lv [0, 1, 2] rfl e)
    · refine wG_iconst C dX8_workOut_26 (v := 0) (by decide) ?_
      refine wG_nmI (fun x4_9 => ?_)
      refine wG_istore C (L' := [(0, .ref (xB X + 41)), (1, .int x1), (2, .int x2_2), (3, .int x3_6), (4, .int x4_9)]) dX8_workOut_27 (by decide) [1, 2, 3, 4, 0] rfl ?_
      refine wG_lv (L' := [(0, .ref (xB X + 41)), (1, .int x1), (2, .int x2_2), (3, .int x3_6), (4, .int x4_9)]) [0, 1, 2, 3, 4] rfl ?_
      refine wG_bind (wL_X8_workOut_O_29 C hN h x1 x2_1 x2_2 h_3 x3_5 x3_6 h_7 x4_9 FU x4_9 h_7) (fun t_12 => (?_ : wG X 6 _ _ N t_12 (rq q) 0 0 92 [(0, .ref (xB X + 41)), (1, .int x1), (2, .int x2_2), (3, .int x3_6)] []))
      refine wG_iinc C (v := 1) (LL := fun x3_20 => [(0, .ref (xB X + 41)), (1, .int x1), (2, .int x2_2), (3, .int x3_20)]) dX8_workOut_92 3 rfl (by decide) (by decide) [1, 2, 3, 0] (fun _ => rfl) (fun x3_20 => ?_)
      refine wG_goto C dX8_workOut_95 ?_
      exact wG_lv [0, 1, 2, 3] rfl (ih x3_20 t_12)
set_option maxRecDepth 4000 in
theorem wL_X8_workOut_O_2 {X : wX} (C : Cx X yX8_workOut cX8_workOut 6 none rm_X8_workOut_O) {N : Nat} {q : Qp} (hN : 137 ≤ N) (h : Hp) (x1 : Int32) (x2_1 : Int32) : ∀ n x2_2 h_3, wG X 6 (fun (t_4 : Hp) Q => gQ X 6 Q N t_4 (rq q) 0 0 104 [] []) (L_X8_workOut_O_2 x1 q n x2_2 h_3) N h_3 (rq q) 0 0 2 [(0, .ref (xB X + 41)), (1, .int x1), (2, .int x2_2)] [] := by
  intro n
  induction n with
  | zero => intro _ _; exact wG_none
  | succ n ih =>
    intro x2_2 h_3
    refine wG_of (L_X8_workOut_O_2.eq_2 ..) ?_
    refine wG_iload_n C dX8_workOut_2 2 rfl ?_
    refine wG_aload_n C dX8_workOut_3 0 rfl ?_
    refine wG_getR C fl_X8_9_6 rfl kd_41 (wll hN (by decide)) (rf_41_0 q) dX8_workOut_4 ?_
    refine wG_getI C fl_X8_29_4 rfl kd_3 (wll hN (by decide)) dX8_workOut_7 ?_
    refine wG_icmp_gt C dX8_workOut_10 ?_ ?_
    · exact wG_exit (fun Q e => gQ_lv [] rfl e)
    · refine wG_iconst C dX8_workOut_13 (v := 1) (by decide) ?_
      refine wG_nmI (fun x3_5 => ?_)
      refine wG_istore_n C (L' := [(0, .ref (xB X + 41)), (1, .int x1), (2, .int x2_2), (3, .int x3_5)]) dX8_workOut_14 (by decide) [1, 2, 3, 0] rfl ?_
      refine wG_lv (L' := [(0, .ref (xB X + 41)), (1, .int x1), (2, .int x2_2), (3, .int x3_5)]) [0, 1, 2, 3] rfl ?_
      refine wG_bind (wL_X8_workOut_O_15 C hN h x1 x2_1 x2_2 h_3 x3_5 FU x3_5 h_3) (fun t_8 => (?_ : wG X 6 _ _ N t_8 (rq q) 0 0 98 [(0, .ref (xB X + 41)), (1, .int x1), (2, .int x2_2)] []))
      refine wG_iinc C (v := 1) (LL := fun x2_21 => [(0, .ref (xB X + 41)), (1, .int x1), (2, .int x2_21)]) dX8_workOut_98 2 rfl (by decide) (by decide) [1, 2, 0] (fun _ => rfl) (fun x2_21 => ?_)
      refine wG_goto C dX8_workOut_101 ?_
      exact wG_lv [0, 1, 2] rfl (ih x2_21 t_8)
set_option maxRecDepth 4000 in
theorem w_X8_workOut_O {X : wX} (C : Cx X yX8_workOut cX8_workOut 6 none rm_X8_workOut_O) {N : Nat} {q : Qp} (hN : 137 ≤ N) (h : Hp) (x1 : Int32) : wG X 6 (eM X (fun u => (none, N, u, (rq q)))) (f_X8_workOut_O q h x1) N h (rq q) 0 0 0 [(0, .ref (xB X + 41)), (1, .int x1)] [] := by
  refine wG_of (f_X8_workOut_O.eq_1 ..) ?_
  refine wG_iconst C dX8_workOut_0 (v := 1) (by decide) ?_
  refine wG_nmI (fun x2_1 => ?_)
  refine wG_istore_n C (L' := [(0, .ref (xB X + 41)), (1, .int x1), (2, .int x2_1)]) dX8_workOut_1 (by decide) [1, 2, 0] rfl ?_
  refine wG_lv (L' := [(0, .ref (xB X + 41)), (1, .int x1), (2, .int x2_1)]) [0, 1, 2] rfl ?_
  refine wG_bind (wL_X8_workOut_O_2 C hN h x1 x2_1 FU x2_1 h) (fun t_4 => (?_ : wG X 6 _ _ N t_4 (rq q) 0 0 104 [] []))
  exact wG_vret C dX8_workOut_104 ⟨by decide, by decide⟩ (fun _ e => e)
theorem c_X8_workOut_O (l : Launch) (E : wE) (N : Nat) (q : Qp) (hN : 137 ≤ N) (h : Hp) (x1 : Int32) : ∀ z, f_X8_workOut_O q h x1 = some z → CT l E yX8_workOut cX8_workOut 6 none rm_X8_workOut_O [.ref (eB E + 41), .int x1] N h (rq q) ((fun u => (none, N, u, (rq q))) z) := CT.of (by decide +kernel) (Nat.le_of_ble_eq_true rfl) (fun X _ e C => by subst e; exact w_X8_workOut_O C hN h x1)
