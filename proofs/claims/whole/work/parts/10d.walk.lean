def rm_X11_commonDivisor : Room := { frames := 1, cells := 0, slots := 0, locals := 23 }
def L_X11_commonDivisor_15  : Nat → Int64 → Int64 → Int32 → Option Int64
  | 0, _, _, _ => none
  | n + 1, x4_4, x6_5, x8_6 =>
    (if (200 : Int32) ≤ x8_6 then
    some x4_4
    else
    (if (lg_cmp x6_5 0) = 0 then
    some x4_4
    else
    if x6_5 = 0 then none else
    vB (x4_4 - x4_4 / x6_5 * x6_5) fun (x9_8 : Int64) =>
    vB x6_5 fun (x4_9 : Int64) =>
    vB x9_8 fun (x6_10 : Int64) =>
    vB (x8_6 + 1) fun (x8_11 : Int32) =>
    L_X11_commonDivisor_15 n x4_9 x6_10 x8_11))
def f_X11_commonDivisor (x0 : Int64) (x2 : Int64) : Option Int64 :=
  vB (if 0 < x0 then x0 else -x0) fun (x4_1 : Int64) =>
  vB (if 0 < x2 then x2 else -x2) fun (x6_2 : Int64) =>
  vB 0 fun (x8_3 : Int32) =>
  (L_X11_commonDivisor_15 FU x4_1 x6_2 x8_3).bind fun t_7 =>
  some (if t_7 < 1 then 1 else t_7)
set_option maxRecDepth 4000 in
theorem wL_X11_commonDivisor_15 {X : wX} (C : Cx X yX11_commonDivisor cX11_commonDivisor 11 (some .long) rm_X11_commonDivisor) {N : Nat} {q : Qp} (hN : 137 ≤ N) (h : Hp) (x0 : Int64) (x2 : Int64) (x4_1 : Int64) (x6_2 : Int64) (x8_3 : Int32) : ∀ n x4_4 x6_5 x8_6, wG X 11 (fun (t_7 : Int64) Q => gQ X 11 Q N h (rq q) 0 0 51 [(4, .long t_7)] []) (L_X11_commonDivisor_15 n x4_4 x6_5 x8_6) N h (rq q) 0 0 15 [(4, .long x4_4), (6, .long x6_5), (8, .int x8_6)] [] := by
  intro n
  induction n with
  | zero => intro _ _ _; exact wG_none
  | succ n ih =>
    intro x4_4 x6_5 x8_6
    refine wG_of (L_X11_commonDivisor_15.eq_2 ..) ?_
    refine wG_iload C dX11_commonDivisor_15 2 rfl ?_
    refine wG_sipush C dX11_commonDivisor_17 (v := 200) (by decide) ?_
    refine wG_icmp_ge C dX11_commonDivisor_20 ?_ ?_
    · exact wG_exit (fun Q e => gQ_lv [0] rfl e)
    · refine wG_lload C dX11_commonDivisor_23 1 rfl ?_
      refine wG_lconst C dX11_commonDivisor_25 (v := 0) (by decide) ?_
      refine wG_lcmp C dX11_commonDivisor_26 ?_
      refine wG_if_eq C dX11_commonDivisor_27 ?_ ?_
      · exact wG_exit (fun Q e => gQ_lv [0] rfl e)
      · refine wG_lload C dX11_commonDivisor_30 0 rfl ?_
        refine wG_lload C dX11_commonDivisor_32 1 rfl ?_
        refine wG_lrem C dX11_commonDivisor_34 ?_
        refine wG_nmL (fun x9_8 => ?_)
        refine wG_lstore C (L' := [(6, .long x6_5), (8, .int x8_6), (9, .long x9_8)]) dX11_commonDivisor_35 (by decide) [2, 3, 0] rfl ?_
        refine wG_lload C dX11_commonDivisor_37 0 rfl ?_
        refine wG_nmL (fun x4_9 => ?_)
        refine wG_lstore C (L' := [(4, .long x4_9), (8, .int x8_6), (9, .long x9_8)]) dX11_commonDivisor_39 (by decide) [0, 2, 3] rfl ?_
        refine wG_lload C dX11_commonDivisor_41 2 rfl ?_
        refine wG_nmL (fun x6_10 => ?_)
        refine wG_lstore C (L' := [(4, .long x4_9), (6, .long x6_10), (8, .int x8_6)]) dX11_commonDivisor_43 (by decide) [1, 0, 2] rfl ?_
        refine wG_iinc C (v := 1) (LL := fun x8_11 => [(4, .long x4_9), (6, .long x6_10), (8, .int x8_11)]) dX11_commonDivisor_45 2 rfl (by decide) (by decide) [1, 2, 0] (fun _ => rfl) (fun x8_11 => ?_)
        refine wG_goto C dX11_commonDivisor_48 ?_
        exact wG_lv [0, 1, 2] rfl (ih x4_9 x6_10 x8_11)
set_option maxRecDepth 4000 in
theorem w_X11_commonDivisor {X : wX} (C : Cx X yX11_commonDivisor cX11_commonDivisor 11 (some .long) rm_X11_commonDivisor) {N : Nat} {q : Qp} (hN : 137 ≤ N) (h : Hp) (x0 : Int64) (x2 : Int64) : wG X 11 (eM X (fun u => (some (.long u), N, h, (rq q)))) (f_X11_commonDivisor x0 x2) N h (rq q) 0 0 0 [(0, .long x0), (2, .long x2)] [] := by
  refine wG_of (f_X11_commonDivisor.eq_1 ..) ?_
  refine wG_lload_n C dX11_commonDivisor_0 0 rfl ?_
  refine wG_mabs_long C mw_X11_312 ⟨by decide, Nat.le_of_ble_eq_true rfl, by decide, by decide⟩ dX11_commonDivisor_1 ?_
  refine wG_nmL (fun x4_1 => ?_)
  refine wG_lstore C (L' := [(2, .long x2), (4, .long x4_1)]) dX11_commonDivisor_4 (by decide) [2, 0] rfl ?_
  refine wG_lload_n C dX11_commonDivisor_6 0 rfl ?_
  refine wG_mabs_long C mw_X11_312 ⟨by decide, Nat.le_of_ble_eq_true rfl, by decide, by decide⟩ dX11_commonDivisor_7 ?_
  refine wG_nmL (fun x6_2 => ?_)
  refine wG_lstore C (L' := [(4, .long x4_1), (6, .long x6_2)]) dX11_commonDivisor_10 (by decide) [2, 0] rfl ?_
  refine wG_iconst C dX11_commonDivisor_12 (v := 0) (by decide) ?_
  refine wG_nmI (fun x8_3 => ?_)
  refine wG_istore C (L' := [(4, .long x4_1), (6, .long x6_2), (8, .int x8_3)]) dX11_commonDivisor_13 (by decide) [1, 2, 0] rfl ?_
  refine wG_lv (L' := [(4, .long x4_1), (6, .long x6_2), (8, .int x8_3)]) [0, 1, 2] rfl ?_
  refine wG_bind (wL_X11_commonDivisor_15 C hN h x0 x2 x4_1 x6_2 x8_3 FU x4_1 x6_2 x8_3) (fun t_7 => (?_ : wG X 11 _ _ N h (rq q) 0 0 51 [(4, .long t_7)] []))
  refine wG_lconst C dX11_commonDivisor_51 (v := 1) (by decide) ?_
  refine wG_lload C dX11_commonDivisor_52 0 rfl ?_
  refine wG_mmax_long C mw_X11_316 ⟨by decide, Nat.le_of_ble_eq_true rfl, by decide, by decide⟩ dX11_commonDivisor_54 ?_
  exact wG_lret C dX11_commonDivisor_57 ⟨by decide, by decide⟩ (fun _ e => e)
theorem c_X11_commonDivisor (l : Launch) (E : wE) (N : Nat) (q : Qp) (hN : 137 ≤ N) (h : Hp) (x0 : Int64) (x2 : Int64) : ∀ z, f_X11_commonDivisor x0 x2 = some z → CT l E yX11_commonDivisor cX11_commonDivisor 11 (some .long) rm_X11_commonDivisor [.long x0, .long x2] N h (rq q) ((fun u => (some (.long u), N, h, (rq q))) z) := CT.of (by decide +kernel) (Nat.le_of_ble_eq_true rfl) (fun X _ e C => by subst e; exact w_X11_commonDivisor C hN h x0 x2)
def rm_X11_ripe : Room := { frames := 3, cells := 0, slots := 0, locals := 73 }
def f_X11_ripe (h : Hp) (x1 : Int32) (x2 : Int32) (x3 : Int32) : Option Int64 :=
  (f_X1_knows h x1).bind fun u_1 =>
  (if u_1 = 0 then
  some (-1)
  else
  (if x2 < 0 then
  some (-2)
  else
  (if x2 ≤ 999 then
  if inB x1 24 then vB (10 + ix x1) fun a_2 =>
  (f_X7_ripePlaces h a_2 x2).bind fun u_3 =>
  vB u_3.toInt64 fun (x5_4 : Int64) =>
  (f_X7_pastePlaces h a_2).bind fun u_5 =>
  vB ((if 1 < u_5 then u_5 else 1).toInt64) fun (x7_6 : Int64) =>
  ((if x3 = 0 then
  some x7_6
  else
  some x5_4)).bind fun t_7 =>
  (f_X11_commonDivisor x5_4 x7_6).bind fun u_8 =>
  if u_8 = 0 then none else
  some (t_7 / u_8) else none
  else
  some (-2))))
set_option maxRecDepth 4000 in
theorem w_X11_ripe {X : wX} (C : Cx X yX11_ripe cX11_ripe 9 (some .long) rm_X11_ripe) {N : Nat} {q : Qp} (hN : 137 ≤ N) (h : Hp) (x1 : Int32) (x2 : Int32) (x3 : Int32) : wG X 9 (eM X (fun u => (some (.long u), N, h, (rq q)))) (f_X11_ripe h x1 x2 x3) N h (rq q) 0 0 0 [(0, .ref (xB X + 0)), (1, .int x1), (2, .int x2), (3, .int x3)] [] := by
  refine wG_of (f_X11_ripe.eq_1 ..) ?_
  refine wG_aload_n C dX11_ripe_0 0 rfl ?_
  refine wG_getR C fl_X11_28_11 rfl kd_0 (wll hN (by decide)) (rf_0_2 q) dX11_ripe_1 ?_
  refine wG_iload_n C dX11_ripe_4 1 rfl ?_
  refine wG_cV_ri [.int x1] [] C vw_X11_138 (c_X1_knows (xl X) (xE X) N q hN h x1) kd_7 (wll hN (by decide)) (by decide) rfl rfl (Nat.le_of_ble_eq_true rfl) dX11_ripe_5 (cl' := 0) (sl' := 0) rfl rfl (fun u_1 => ?_)
  refine wG_if_ne C dX11_ripe_8 ?_ ?_
  · refine wG_ldc2 C dX11_ripe_11 m_874 ?_
    exact wG_lret C dX11_ripe_14 ⟨by decide, by decide⟩ (fun _ e => e)
  · refine wG_iload_n C dX11_ripe_15 2 rfl ?_
    refine wG_if_lt C dX11_ripe_16 ?_ ?_
    · refine wG_ldc2 C dX11_ripe_26 m_875 ?_
      exact wG_lret C dX11_ripe_29 ⟨by decide, by decide⟩ (fun _ e => e)
    · refine wG_iload_n C dX11_ripe_19 2 rfl ?_
      refine wG_sipush C dX11_ripe_20 (v := 999) (by decide) ?_
      refine wG_icmp_le C dX11_ripe_23 ?_ ?_
      · refine wG_aload_n C dX11_ripe_30 0 rfl ?_
        refine wG_getR C fl_X11_28_11 rfl kd_0 (wll hN (by decide)) (rf_0_2 q) dX11_ripe_31 ?_
        refine wG_getR C fl_X11_126_1 rfl kd_7 (wll hN (by decide)) (rf_7_1 q) dX11_ripe_34 ?_
        refine wG_iload_n C dX11_ripe_37 1 rfl ?_
        refine wG_aaP C hN kd_7 rfl rfl dX11_ripe_38 (fun a_2 hk_a_2 => ?_)
        refine wG_astore C (L' := [(0, .ref (xB X + 0)), (2, .int x2), (3, .int x3), (4, .ref (xB X + a_2))]) dX11_ripe_39 (by decide) [1, 3, 4, 0] rfl ?_
        refine wG_aload C dX11_ripe_41 3 rfl ?_
        refine wG_aload_n C dX11_ripe_43 0 rfl ?_
        refine wG_getR C fl_X11_19_11 rfl kd_0 (wll hN (by decide)) (rf_0_1 q) dX11_ripe_44 ?_
        refine wG_iload_n C dX11_ripe_47 1 rfl ?_
        refine wG_cV_ri [.ref (xB X + 3), .int x2] [] C vw_X11_255 (c_X7_ripePlaces (xl X) (xE X) N q hN h a_2 x2 hk_a_2) hk_a_2 (wlt hN hk_a_2 (by decide)) (by decide) rfl rfl (Nat.le_of_ble_eq_true rfl) dX11_ripe_48 (cl' := 0) (sl' := 0) rfl rfl (fun u_3 => ?_)
        refine wG_i2l C dX11_ripe_51 ?_
        refine wG_nmL (fun x5_4 => ?_)
        refine wG_lstore C (L' := [(0, .ref (xB X + 0)), (3, .int x3), (4, .ref (xB X + a_2)), (5, .long x5_4)]) dX11_ripe_52 (by decide) [1, 3, 4, 0] rfl ?_
        refine wG_iconst C dX11_ripe_54 (v := 1) (by decide) ?_
        refine wG_aload C dX11_ripe_55 2 rfl ?_
        refine wG_aload_n C dX11_ripe_57 0 rfl ?_
        refine wG_getR C fl_X11_19_11 rfl kd_0 (wll hN (by decide)) (rf_0_1 q) dX11_ripe_58 ?_
        refine wG_cV_ri [.ref (xB X + 3)] [.int 1] C vw_X11_259 (c_X7_pastePlaces (xl X) (xE X) N q hN h a_2 hk_a_2) hk_a_2 (wlt hN hk_a_2 (by decide)) (by decide) rfl rfl (Nat.le_of_ble_eq_true rfl) dX11_ripe_61 (cl' := 0) (sl' := 0) rfl rfl (fun u_5 => ?_)
        refine wG_mmax C mw_X11_262 ⟨by decide, Nat.le_of_ble_eq_true rfl, by decide, by decide⟩ dX11_ripe_64 ?_
        refine wG_i2l C dX11_ripe_67 ?_
        refine wG_nmL (fun x7_6 => ?_)
        refine wG_lstore C (L' := [(3, .int x3), (5, .long x5_4), (7, .long x7_6)]) dX11_ripe_68 (by decide) [2, 4, 0] rfl ?_
        refine wG_iload_n C dX11_ripe_70 0 rfl ?_
        refine wG_bind (J := (fun (t_7 : Int64) Q => gQ X 9 Q N h (rq q) 0 0 81 [(5, .long x5_4), (7, .long x7_6)] [.long t_7])) ?_ (fun t_7 => (?_ : wG X 9 _ _ N h (rq q) 0 0 81 [(5, .long x5_4), (7, .long x7_6)] [.long t_7]))
        · refine wG_if_eq C dX11_ripe_71 ?_ ?_
          · refine wG_lload C dX11_ripe_79 2 rfl ?_
            exact wG_exit (fun Q e => gQ_lv [1, 2] rfl e)
          · refine wG_lload C dX11_ripe_74 1 rfl ?_
            refine wG_goto C dX11_ripe_76 ?_
            exact wG_exit (fun Q e => gQ_lv [1, 2] rfl e)
        · refine wG_lload C dX11_ripe_81 0 rfl ?_
          refine wG_lload C dX11_ripe_83 1 rfl ?_
          refine wG_cS_rl [.long x5_4, .long x7_6] [.long t_7] C sw_X11_267 (c_X11_commonDivisor (xl X) (xE X) N q hN h x5_4 x7_6) (by decide) rfl rfl (Nat.le_of_ble_eq_true rfl) dX11_ripe_85 (cl' := 0) (sl' := 0) rfl rfl (fun u_8 => ?_)
          refine wG_ldiv C dX11_ripe_88 ?_
          exact wG_lret C dX11_ripe_89 ⟨by decide, by decide⟩ (fun _ e => e)
      · refine wG_ldc2 C dX11_ripe_26 m_875 ?_
        exact wG_lret C dX11_ripe_29 ⟨by decide, by decide⟩ (fun _ e => e)
theorem c_X11_ripe (l : Launch) (E : wE) (N : Nat) (q : Qp) (hN : 137 ≤ N) (h : Hp) (x1 : Int32) (x2 : Int32) (x3 : Int32) : ∀ z, f_X11_ripe h x1 x2 x3 = some z → CT l E yX11_ripe cX11_ripe 9 (some .long) rm_X11_ripe [.ref (eB E + 0), .int x1, .int x2, .int x3] N h (rq q) ((fun u => (some (.long u), N, h, (rq q))) z) := CT.of (by decide +kernel) (Nat.le_of_ble_eq_true rfl) (fun X _ e C => by subst e; exact w_X11_ripe C hN h x1 x2 x3)
def rm_X1_ripestPiece : Room := { frames := 3, cells := 0, slots := 0, locals := 73 }
def L_X1_ripestPiece_11 (h : Hp) (x1 : Int32) : Nat → Int32 → Int32 → Int32 → Int32 → Option Int32
  | 0, _, _, _, _ => none
  | n + 1, x2_5, x3_6, x4_7, x5_8 =>
    (if (h 7 3) ≤ x5_8 then
    some x2_5
    else
    if inB x5_8 24 then vB (10 + ix x5_8) fun a_10 =>
    ((if (h a_10 6) = 0 then
    if inB x5_8 24 then vB (10 + ix x5_8) fun a_12 =>
    (f_X7_ripePlaces h a_12 x1).bind fun u_13 =>
    vB u_13 fun (x6_14 : Int32) =>
    if inB x5_8 24 then vB (10 + ix x5_8) fun a_15 =>
    (f_X7_pastePlaces h a_15).bind fun u_16 =>
    vB (if 1 < u_16 then u_16 else 1) fun (x7_17 : Int32) =>
    vK (fun (t_18 : Unit) =>
    vB x5_8 fun (x2_20 : Int32) =>
    vB x6_14 fun (x3_21 : Int32) =>
    vB x7_17 fun (x4_22 : Int32) =>
    some (x2_20, x3_21, x4_22)) fun K_19 =>
    (if x2_5 = (-9) then
    K_19 ()
    else
    (if (x6_14 * x4_7) ≤ (x3_6 * x7_17) then
    some (x2_5, x3_6, x4_7)
    else
    K_19 ())) else none else none
    else
    some (x2_5, x3_6, x4_7))).bind fun t_11 =>
    vB (x5_8 + 1) fun (x5_23 : Int32) =>
    L_X1_ripestPiece_11 h x1 n t_11.1 t_11.2.1 t_11.2.2 x5_23 else none)
def f_X1_ripestPiece (h : Hp) (x1 : Int32) : Option Int32 :=
  vB (-9) fun (x2_1 : Int32) =>
  vB 0 fun (x3_2 : Int32) =>
  vB 1 fun (x4_3 : Int32) =>
  vB 0 fun (x5_4 : Int32) =>
  (L_X1_ripestPiece_11 h x1 FU x2_1 x3_2 x4_3 x5_4).bind fun t_9 =>
  some t_9
set_option maxRecDepth 4000 in
theorem wL_X1_ripestPiece_11 {X : wX} (C : Cx X yX1_ripestPiece cX1_ripestPiece 8 (some .int) rm_X1_ripestPiece) {N : Nat} {q : Qp} (hN : 137 ≤ N) (h : Hp) (x1 : Int32) (x2_1 : Int32) (x3_2 : Int32) (x4_3 : Int32) (x5_4 : Int32) : ∀ n x2_5 x3_6 x4_7 x5_8, wG X 8 (fun (t_9 : Int32) Q => gQ X 8 Q N h (rq q) 0 0 104 [(2, .int t_9)] []) (L_X1_ripestPiece_11 h x1 n x2_5 x3_6 x4_7 x5_8) N h (rq q) 0 0 11 [(0, .ref (xB X + 7)), (1, .int x1), (2, .int x2_5), (3, .int x3_6), (4, .int x4_7), (5, .int x5_8)] [] := by
  intro n
  induction n with
  | zero => intro _ _ _ _; exact wG_none
  | succ n ih =>
    intro x2_5 x3_6 x4_7 x5_8
    refine wG_of (L_X1_ripestPiece_11.eq_2 ..) ?_
    refine wG_iload C dX1_ripestPiece_11 5 rfl ?_
    refine wG_aload_n C dX1_ripestPiece_13 0 rfl ?_
    refine wG_getI C fl_X1_33_1 rfl kd_7 (wll hN (by decide)) dX1_ripestPiece_14 ?_
    refine wG_icmp_ge C dX1_ripestPiece_17 ?_ ?_
    · exact wG_exit (fun Q e => gQ_lv [2] rfl e)
    · refine wG_aload_n C dX1_ripestPiece_20 0 rfl ?_
      refine wG_getR C fl_X1_11_1 rfl kd_7 (wll hN (by decide)) (rf_7_1 q) dX1_ripestPiece_21 ?_
      refine wG_iload C dX1_ripestPiece_24 5 rfl ?_
      refine wG_aaP C hN kd_7 rfl rfl dX1_ripestPiece_26 (fun a_10 hk_a_10 => ?_)
      refine wG_getI C fl_X1_48_7 rfl hk_a_10 (wlt hN hk_a_10 (by decide)) dX1_ripestPiece_27 ?_
      refine wG_bind (J := (fun (t_11 : (Int32 × Int32 × Int32)) Q => gQ X 8 Q N h (rq q) 0 0 98 [(0, .ref (xB X + 7)), (1, .int x1), (2, .int t_11.1), (3, .int t_11.2.1), (4, .int t_11.2.2), (5, .int x5_8)] [])) ?_ (fun t_11 => (?_ : wG X 8 _ _ N h (rq q) 0 0 98 [(0, .ref (xB X + 7)), (1, .int x1), (2, .int t_11.1), (3, .int t_11.2.1), (4, .int t_11.2.2), (5, .int x5_8)] []))
      · refine wG_if_ne C dX1_ripestPiece_30 ?_ ?_
        · refine wG_aload_n C dX1_ripestPiece_33 0 rfl ?_
          refine wG_getR C fl_X1_11_1 rfl kd_7 (wll hN (by decide)) (rf_7_1 q) dX1_ripestPiece_34 ?_
          refine wG_iload C dX1_ripestPiece_37 5 rfl ?_
          refine wG_aaP C hN kd_7 rfl rfl dX1_ripestPiece_39 (fun a_12 hk_a_12 => ?_)
          refine wG_aload_n C dX1_ripestPiece_40 0 rfl ?_
          refine wG_getR C fl_X1_22_1 rfl kd_7 (wll hN (by decide)) (rf_7_0 q) dX1_ripestPiece_41 ?_
          refine wG_iload_n C dX1_ripestPiece_44 1 rfl ?_
          refine wG_cV_ri [.ref (xB X + 3), .int x1] [] C vw_X1_59 (c_X7_ripePlaces (xl X) (xE X) N q hN h a_12 x1 hk_a_12) hk_a_12 (wlt hN hk_a_12 (by decide)) (by decide) rfl rfl (Nat.le_of_ble_eq_true rfl) dX1_ripestPiece_45 (cl' := 0) (sl' := 0) rfl rfl (fun u_13 => ?_)
          refine wG_nmI (fun x6_14 => ?_)
          refine wG_istore C (L' := [(0, .ref (xB X + 7)), (1, .int x1), (2, .int x2_5), (3, .int x3_6), (4, .int x4_7), (5, .int x5_8), (6, .int x6_14)]) dX1_ripestPiece_48 (by decide) [1, 2, 3, 4, 5, 6, 0] rfl ?_
          refine wG_iconst C dX1_ripestPiece_50 (v := 1) (by decide) ?_
          refine wG_aload_n C dX1_ripestPiece_51 0 rfl ?_
          refine wG_getR C fl_X1_11_1 rfl kd_7 (wll hN (by decide)) (rf_7_1 q) dX1_ripestPiece_52 ?_
          refine wG_iload C dX1_ripestPiece_55 5 rfl ?_
          refine wG_aaP C hN kd_7 rfl rfl dX1_ripestPiece_57 (fun a_15 hk_a_15 => ?_)
          refine wG_aload_n C dX1_ripestPiece_58 0 rfl ?_
          refine wG_getR C fl_X1_22_1 rfl kd_7 (wll hN (by decide)) (rf_7_0 q) dX1_ripestPiece_59 ?_
          refine wG_cV_ri [.ref (xB X + 3)] [.int 1] C vw_X1_63 (c_X7_pastePlaces (xl X) (xE X) N q hN h a_15 hk_a_15) hk_a_15 (wlt hN hk_a_15 (by decide)) (by decide) rfl rfl (Nat.le_of_ble_eq_true rfl) dX1_ripestPiece_62 (cl' := 0) (sl' := 0) rfl rfl (fun u_16 => ?_)
          refine wG_mmax C mw_X1_67 ⟨by decide, Nat.le_of_ble_eq_true rfl, by decide, by decide⟩ dX1_ripestPiece_65 ?_
          refine wG_nmI (fun x7_17 => ?_)
          refine wG_istore C (L' := [(0, .ref (xB X + 7)), (1, .int x1), (2, .int x2_5), (3, .int x3_6), (4, .int x4_7), (5, .int x5_8), (6, .int x6_14), (7, .int x7_17)]) dX1_ripestPiece_68 (by decide) [1, 2, 3, 4, 5, 6, 7, 0] rfl ?_
          refine wG_iload_n C dX1_ripestPiece_70 2 rfl ?_
          refine wG_bipush C dX1_ripestPiece_71 (v := (-9)) (by decide) ?_
          refine wG_vK (fun t_18 => (?_ : wG X 8 _ _ N h (rq q) 0 0 88 [(0, .ref (xB X + 7)), (1, .int x1), (5, .int x5_8), (6, .int x6_14), (7, .int x7_17)] [])) (fun K_19 hK_K_19 => ?_)
          · refine wG_iload C dX1_ripestPiece_88 2 rfl ?_
            refine wG_nmI (fun x2_20 => ?_)
            refine wG_istore_n C (L' := [(0, .ref (xB X + 7)), (1, .int x1), (2, .int x2_20), (5, .int x5_8), (6, .int x6_14), (7, .int x7_17)]) dX1_ripestPiece_90 (by decide) [1, 2, 0, 3, 4, 5] rfl ?_
            refine wG_iload C dX1_ripestPiece_91 4 rfl ?_
            refine wG_nmI (fun x3_21 => ?_)
            refine wG_istore_n C (L' := [(0, .ref (xB X + 7)), (1, .int x1), (2, .int x2_20), (3, .int x3_21), (5, .int x5_8), (7, .int x7_17)]) dX1_ripestPiece_93 (by decide) [1, 2, 3, 0, 4, 6] rfl ?_
            refine wG_iload C dX1_ripestPiece_94 5 rfl ?_
            refine wG_nmI (fun x4_22 => ?_)
            refine wG_istore C (L' := [(0, .ref (xB X + 7)), (1, .int x1), (2, .int x2_20), (3, .int x3_21), (4, .int x4_22), (5, .int x5_8)]) dX1_ripestPiece_96 (by decide) [1, 2, 3, 4, 0, 5] rfl ?_
            exact wG_exit (fun Q e => gQ_lv [0, 1, 2, 3, 4, 5] rfl e)
          · refine wG_icmp_eq C dX1_ripestPiece_73 ?_ ?_
            · exact wG_lv [0, 1, 5, 6, 7] rfl (hK_K_19 ())
            · refine wG_iload C dX1_ripestPiece_76 6 rfl ?_
              refine wG_iload C dX1_ripestPiece_78 4 rfl ?_
              refine wG_imul C dX1_ripestPiece_80 ?_
              refine wG_iload_n C dX1_ripestPiece_81 3 rfl ?_
              refine wG_iload C dX1_ripestPiece_82 7 rfl ?_
              refine wG_imul C dX1_ripestPiece_84 ?_
              refine wG_icmp_le C dX1_ripestPiece_85 ?_ ?_
              · exact wG_exit (fun Q e => gQ_lv [0, 1, 2, 3, 4, 5] rfl e)
              · exact wG_lv [0, 1, 5, 6, 7] rfl (hK_K_19 ())
        · exact wG_exit (fun Q e => gQ_lv [0, 1, 2, 3, 4, 5] rfl e)
      · refine wG_iinc C (v := 1) (LL := fun x5_23 => [(0, .ref (xB X + 7)), (1, .int x1), (2, .int t_11.1), (3, .int t_11.2.1), (4, .int t_11.2.2), (5, .int x5_23)]) dX1_ripestPiece_98 5 rfl (by decide) (by decide) [1, 2, 3, 4, 5, 0] (fun _ => rfl) (fun x5_23 => ?_)
        refine wG_goto C dX1_ripestPiece_101 ?_
        exact wG_lv [0, 1, 2, 3, 4, 5] rfl (ih t_11.1 t_11.2.1 t_11.2.2 x5_23)
set_option maxRecDepth 4000 in
theorem w_X1_ripestPiece {X : wX} (C : Cx X yX1_ripestPiece cX1_ripestPiece 8 (some .int) rm_X1_ripestPiece) {N : Nat} {q : Qp} (hN : 137 ≤ N) (h : Hp) (x1 : Int32) : wG X 8 (eM X (fun u => (some (.int u), N, h, (rq q)))) (f_X1_ripestPiece h x1) N h (rq q) 0 0 0 [(0, .ref (xB X + 7)), (1, .int x1)] [] := by
  refine wG_of (f_X1_ripestPiece.eq_1 ..) ?_
  refine wG_bipush C dX1_ripestPiece_0 (v := (-9)) (by decide) ?_
  refine wG_nmI (fun x2_1 => ?_)
  refine wG_istore_n C (L' := [(0, .ref (xB X + 7)), (1, .int x1), (2, .int x2_1)]) dX1_ripestPiece_2 (by decide) [1, 2, 0] rfl ?_
  refine wG_iconst C dX1_ripestPiece_3 (v := 0) (by decide) ?_
  refine wG_nmI (fun x3_2 => ?_)
  refine wG_istore_n C (L' := [(0, .ref (xB X + 7)), (1, .int x1), (2, .int x2_1), (3, .int x3_2)]) dX1_ripestPiece_4 (by decide) [1, 2, 3, 0] rfl ?_
  refine wG_iconst C dX1_ripestPiece_5 (v := 1) (by decide) ?_
  refine wG_nmI (fun x4_3 => ?_)
  refine wG_istore C (L' := [(0, .ref (xB X + 7)), (1, .int x1), (2, .int x2_1), (3, .int x3_2), (4, .int x4_3)]) dX1_ripestPiece_6 (by decide) [1, 2, 3, 4, 0] rfl ?_
  refine wG_iconst C dX1_ripestPiece_8 (v := 0) (by decide) ?_
  refine wG_nmI (fun x5_4 => ?_)
  refine wG_istore C (L' := [(0, .ref (xB X + 7)), (1, .int x1), (2, .int x2_1), (3, .int x3_2), (4, .int x4_3), (5, .int x5_4)]) dX1_ripestPiece_9 (by decide) [1, 2, 3, 4, 5, 0] rfl ?_
  refine wG_lv (L' := [(0, .ref (xB X + 7)), (1, .int x1), (2, .int x2_1), (3, .int x3_2), (4, .int x4_3), (5, .int x5_4)]) [0, 1, 2, 3, 4, 5] rfl ?_
  refine wG_bind (wL_X1_ripestPiece_11 C hN h x1 x2_1 x3_2 x4_3 x5_4 FU x2_1 x3_2 x4_3 x5_4) (fun t_9 => (?_ : wG X 8 _ _ N h (rq q) 0 0 104 [(2, .int t_9)] []))
  refine wG_iload_n C dX1_ripestPiece_104 0 rfl ?_
  exact wG_iret C dX1_ripestPiece_105 ⟨by decide, by decide⟩ (fun _ e => e)
theorem c_X1_ripestPiece (l : Launch) (E : wE) (N : Nat) (q : Qp) (hN : 137 ≤ N) (h : Hp) (x1 : Int32) : ∀ z, f_X1_ripestPiece h x1 = some z → CT l E yX1_ripestPiece cX1_ripestPiece 8 (some .int) rm_X1_ripestPiece [.ref (eB E + 7), .int x1] N h (rq q) ((fun u => (some (.int u), N, h, (rq q))) z) := CT.of (by decide +kernel) (Nat.le_of_ble_eq_true rfl) (fun X _ e C => by subst e; exact w_X1_ripestPiece C hN h x1)
def rm_X11_ripest : Room := { frames := 4, cells := 0, slots := 0, locals := 100 }
def f_X11_ripest (h : Hp) (x1 : Int32) : Option Int32 :=
  (if x1 < 0 then
  some (-2)
  else
  (if x1 ≤ 999 then
  (f_X1_ripestPiece h x1).bind fun u_1 =>
  some u_1
  else
  some (-2)))
set_option maxRecDepth 4000 in
theorem w_X11_ripest {X : wX} (C : Cx X yX11_ripest cX11_ripest 2 (some .int) rm_X11_ripest) {N : Nat} {q : Qp} (hN : 137 ≤ N) (h : Hp) (x1 : Int32) : wG X 2 (eM X (fun u => (some (.int u), N, h, (rq q)))) (f_X11_ripest h x1) N h (rq q) 0 0 0 [(0, .ref (xB X + 0)), (1, .int x1)] [] := by
  refine wG_of (f_X11_ripest.eq_1 ..) ?_
  refine wG_iload_n C dX11_ripest_0 1 rfl ?_
  refine wG_if_lt C dX11_ripest_1 ?_ ?_
  · refine wG_bipush C dX11_ripest_11 (v := (-2)) (by decide) ?_
    refine wG_goto C dX11_ripest_13 ?_
    exact wG_iret C dX11_ripest_24 ⟨by decide, by decide⟩ (fun _ e => e)
  · refine wG_iload_n C dX11_ripest_4 1 rfl ?_
    refine wG_sipush C dX11_ripest_5 (v := 999) (by decide) ?_
    refine wG_icmp_le C dX11_ripest_8 ?_ ?_
    · refine wG_aload_n C dX11_ripest_16 0 rfl ?_
      refine wG_getR C fl_X11_28_11 rfl kd_0 (wll hN (by decide)) (rf_0_2 q) dX11_ripest_17 ?_
      refine wG_iload_n C dX11_ripest_20 1 rfl ?_
      refine wG_cV_ri [.int x1] [] C vw_X11_271 (c_X1_ripestPiece (xl X) (xE X) N q hN h x1) kd_7 (wll hN (by decide)) (by decide) rfl rfl (Nat.le_of_ble_eq_true rfl) dX11_ripest_21 (cl' := 0) (sl' := 0) rfl rfl (fun u_1 => ?_)
      exact wG_iret C dX11_ripest_24 ⟨by decide, by decide⟩ (fun _ e => e)
    · refine wG_bipush C dX11_ripest_11 (v := (-2)) (by decide) ?_
      refine wG_goto C dX11_ripest_13 ?_
      exact wG_iret C dX11_ripest_24 ⟨by decide, by decide⟩ (fun _ e => e)
theorem c_X11_ripest (l : Launch) (E : wE) (N : Nat) (q : Qp) (hN : 137 ≤ N) (h : Hp) (x1 : Int32) : ∀ z, f_X11_ripest h x1 = some z → CT l E yX11_ripest cX11_ripest 2 (some .int) rm_X11_ripest [.ref (eB E + 0), .int x1] N h (rq q) ((fun u => (some (.int u), N, h, (rq q))) z) := CT.of (by decide +kernel) (Nat.le_of_ble_eq_true rfl) (fun X _ e C => by subst e; exact w_X11_ripest C hN h x1)
def rm_X2_enter : Room := { frames := 0, cells := 0, slots := 0, locals := 0 }
def f_X2_enter (h : Hp) (x1 : Int32) : Option Hp :=
  (if (16 : Int32) ≤ (h 53 3) then
  some h
  else
  if inB (h 53 3) 16 then vB (u2 h 54 (ix (h 53 3)) x1) fun h_1 =>
  vB (u2 h_1 53 3 ((h_1 53 3) + 1)) fun h_2 =>
  some h_2 else none)
set_option maxRecDepth 4000 in
theorem w_X2_enter {X : wX} (C : Cx X yX2_enter cX2_enter 2 none rm_X2_enter) {N : Nat} {q : Qp} (hN : 137 ≤ N) (h : Hp) (x1 : Int32) : wG X 2 (eM X (fun u => (none, N, u, (rq q)))) (f_X2_enter h x1) N h (rq q) 0 0 0 [(0, .ref (xB X + 53)), (1, .int x1)] [] := by
  refine wG_of (f_X2_enter.eq_1 ..) ?_
  refine wG_aload_n C dX2_enter_0 0 rfl ?_
  refine wG_getI C fl_X2_21_2 rfl kd_53 (wll hN (by decide)) dX2_enter_1 ?_
  refine wG_bipush C dX2_enter_4 (v := 16) (by decide) ?_
  refine wG_icmp_ge C dX2_enter_6 ?_ ?_
  · exact wG_vret C dX2_enter_29 ⟨by decide, by decide⟩ (fun _ e => e)
  · refine wG_aload_n C dX2_enter_9 0 rfl ?_
    refine wG_getR C fl_X2_9_2 rfl kd_53 (wll hN (by decide)) (rf_53_0 q) dX2_enter_10 ?_
    refine wG_aload_n C dX2_enter_13 0 rfl ?_
    refine wG_getI C fl_X2_21_2 rfl kd_53 (wll hN (by decide)) dX2_enter_14 ?_
    refine wG_iload_n C dX2_enter_17 1 rfl ?_
    refine wG_iast C kd_54 (wll hN (by decide)) ln_54 dX2_enter_18 (fun h_1 => ?_)
    refine wG_aload_n C dX2_enter_19 0 rfl ?_
    refine wG_dup C dX2_enter_20 rfl ?_
    refine wG_getI C fl_X2_21_2 rfl kd_53 (wll hN (by decide)) dX2_enter_21 ?_
    refine wG_iconst C dX2_enter_24 (v := 1) (by decide) ?_
    refine wG_iadd C dX2_enter_25 ?_
    refine wG_putI C fl_X2_21_2 (fp_2_3 _) (fun e => Bool.noConfusion e) rfl kd_53 (wll hN (by decide)) dX2_enter_26 (fun h_2 => ?_)
    exact wG_vret C dX2_enter_29 ⟨by decide, by decide⟩ (fun _ e => e)
theorem c_X2_enter (l : Launch) (E : wE) (N : Nat) (q : Qp) (hN : 137 ≤ N) (h : Hp) (x1 : Int32) : ∀ z, f_X2_enter h x1 = some z → CT l E yX2_enter cX2_enter 2 none rm_X2_enter [.ref (eB E + 53), .int x1] N h (rq q) ((fun u => (none, N, u, (rq q))) z) := CT.of (by decide +kernel) (Nat.le_of_ble_eq_true rfl) (fun X _ e C => by subst e; exact w_X2_enter C hN h x1)
def rm_X11_book : Room := { frames := 1, cells := 0, slots := 0, locals := 21 }
def f_X11_book (h : Hp) (x1 : Int32) : Option (Int32 × Hp) :=
  (if x1 < 0 then
  some ((-2), h)
  else
  (if x1 ≤ 99 then
  (if (h 53 3) < 16 then
  (f_X2_enter h x1).bind fun u_1 =>
  some ((u_1 53 3), u_1)
  else
  some ((-4), h))
  else
  some ((-2), h)))
set_option maxRecDepth 4000 in
theorem w_X11_book {X : wX} (C : Cx X yX11_book cX11_book 2 (some .int) rm_X11_book) {N : Nat} {q : Qp} (hN : 137 ≤ N) (h : Hp) (x1 : Int32) : wG X 2 (eM X (fun u => (some (.int u.1), N, u.2, (rq q)))) (f_X11_book h x1) N h (rq q) 0 0 0 [(0, .ref (xB X + 0)), (1, .int x1)] [] := by
  refine wG_of (f_X11_book.eq_1 ..) ?_
  refine wG_iload_n C dX11_book_0 1 rfl ?_
  refine wG_if_lt C dX11_book_1 ?_ ?_
  · refine wG_bipush C dX11_book_10 (v := (-2)) (by decide) ?_
    exact wG_iret C dX11_book_12 ⟨by decide, by decide⟩ (fun _ e => e)
  · refine wG_iload_n C dX11_book_4 1 rfl ?_
    refine wG_bipush C dX11_book_5 (v := 99) (by decide) ?_
    refine wG_icmp_le C dX11_book_7 ?_ ?_
    · refine wG_aload_n C dX11_book_13 0 rfl ?_
      refine wG_getR C fl_X11_69_11 rfl kd_0 (wll hN (by decide)) (rf_0_8 q) dX11_book_14 ?_
      refine wG_getI C fl_X11_274_2 rfl kd_53 (wll hN (by decide)) dX11_book_17 ?_
      refine wG_bipush C dX11_book_20 (v := 16) (by decide) ?_
      refine wG_icmp_lt C dX11_book_22 ?_ ?_
      · refine wG_aload_n C dX11_book_28 0 rfl ?_
        refine wG_getR C fl_X11_69_11 rfl kd_0 (wll hN (by decide)) (rf_0_8 q) dX11_book_29 ?_
        refine wG_iload_n C dX11_book_32 1 rfl ?_
        refine wG_cV_wv [.int x1] [] C vw_X11_277 (c_X2_enter (xl X) (xE X) N q hN h x1) kd_53 (wll hN (by decide)) (by decide) rfl rfl (Nat.le_of_ble_eq_true rfl) dX11_book_33 (cl' := 0) (sl' := 0) rfl rfl (fun u_1 => ?_)
        refine wG_aload_n C dX11_book_36 0 rfl ?_
        refine wG_getR C fl_X11_69_11 rfl kd_0 (wll hN (by decide)) (rf_0_8 q) dX11_book_37 ?_
        refine wG_getI C fl_X11_274_2 rfl kd_53 (wll hN (by decide)) dX11_book_40 ?_
        exact wG_iret C dX11_book_43 ⟨by decide, by decide⟩ (fun _ e => e)
      · refine wG_bipush C dX11_book_25 (v := (-4)) (by decide) ?_
        exact wG_iret C dX11_book_27 ⟨by decide, by decide⟩ (fun _ e => e)
    · refine wG_bipush C dX11_book_10 (v := (-2)) (by decide) ?_
      exact wG_iret C dX11_book_12 ⟨by decide, by decide⟩ (fun _ e => e)
theorem c_X11_book (l : Launch) (E : wE) (N : Nat) (q : Qp) (hN : 137 ≤ N) (h : Hp) (x1 : Int32) : ∀ z, f_X11_book h x1 = some z → CT l E yX11_book cX11_book 2 (some .int) rm_X11_book [.ref (eB E + 0), .int x1] N h (rq q) ((fun u => (some (.int u.1), N, u.2, (rq q))) z) := CT.of (by decide +kernel) (Nat.le_of_ble_eq_true rfl) (fun X _ e C => by subst e; exact w_X11_book C hN h x1)
def rm_X2_earnings : Room := { frames := 0, cells := 0, slots := 0, locals := 0 }
def L_X2_earnings_4 (h : Hp) (x1 : Int32) : Nat → Int32 → Int32 → Option Int32
  | 0, _, _ => none
  | n + 1, x2_3, x3_4 =>
    (if (h 53 3) ≤ x3_4 then
    some x2_3
    else
    if inB x3_4 16 then
    ((if (h 54 (ix x3_4)) < x1 then
    some (-12)
    else
    some x1)).bind fun t_6 =>
    vB (x2_3 + t_6) fun (x2_7 : Int32) =>
    vB (x3_4 + 1) fun (x3_8 : Int32) =>
    L_X2_earnings_4 h x1 n x2_7 x3_8 else none)
def f_X2_earnings (h : Hp) (x1 : Int32) : Option Int32 :=
  vB 0 fun (x2_1 : Int32) =>
  vB 0 fun (x3_2 : Int32) =>
  (L_X2_earnings_4 h x1 FU x2_1 x3_2).bind fun t_5 =>
  some t_5
set_option maxRecDepth 4000 in
theorem wL_X2_earnings_4 {X : wX} (C : Cx X yX2_earnings cX2_earnings 4 (some .int) rm_X2_earnings) {N : Nat} {q : Qp} (hN : 137 ≤ N) (h : Hp) (x1 : Int32) (x2_1 : Int32) (x3_2 : Int32) : ∀ n x2_3 x3_4, wG X 4 (fun (t_5 : Int32) Q => gQ X 4 Q N h (rq q) 0 0 37 [(2, .int t_5)] []) (L_X2_earnings_4 h x1 n x2_3 x3_4) N h (rq q) 0 0 4 [(0, .ref (xB X + 53)), (1, .int x1), (2, .int x2_3), (3, .int x3_4)] [] := by
  intro n
  induction n with
  | zero => intro _ _; exact wG_none
  | succ n ih =>
    intro x2_3 x3_4
    refine wG_of (L_X2_earnings_4.eq_2 ..) ?_
    refine wG_iload_n C dX2_earnings_4 3 rfl ?_
    refine wG_aload_n C dX2_earnings_5 0 rfl ?_
    refine wG_getI C fl_X2_21_2 rfl kd_53 (wll hN (by decide)) dX2_earnings_6 ?_
    refine wG_icmp_ge C dX2_earnings_9 ?_ ?_
    · exact wG_exit (fun Q e => gQ_lv [2] rfl e)
    · refine wG_iload_n C dX2_earnings_12 2 rfl ?_
      refine wG_iload_n C dX2_earnings_13 1 rfl ?_
      refine wG_aload_n C dX2_earnings_14 0 rfl ?_
      refine wG_getR C fl_X2_9_2 rfl kd_53 (wll hN (by decide)) (rf_53_0 q) dX2_earnings_15 ?_
      refine wG_iload_n C dX2_earnings_18 3 rfl ?_
      refine wG_iald C kd_54 (wll hN (by decide)) ln_54 dX2_earnings_19 ?_
      refine wG_bind (J := (fun (t_6 : Int32) Q => gQ X 4 Q N h (rq q) 0 0 29 [(0, .ref (xB X + 53)), (1, .int x1), (3, .int x3_4)] [.int t_6, .int x2_3])) ?_ (fun t_6 => (?_ : wG X 4 _ _ N h (rq q) 0 0 29 [(0, .ref (xB X + 53)), (1, .int x1), (3, .int x3_4)] [.int t_6, .int x2_3]))
      · refine wG_icmp_gt C dX2_earnings_20 ?_ ?_
        · refine wG_bipush C dX2_earnings_27 (v := (-12)) (by decide) ?_
          exact wG_exit (fun Q e => gQ_lv [0, 1, 3] rfl e)
        · refine wG_iload_n C dX2_earnings_23 1 rfl ?_
          refine wG_goto C dX2_earnings_24 ?_
          exact wG_exit (fun Q e => gQ_lv [0, 1, 3] rfl e)
      · refine wG_iadd C dX2_earnings_29 ?_
        refine wG_nmI (fun x2_7 => ?_)
        refine wG_istore_n C (L' := [(0, .ref (xB X + 53)), (1, .int x1), (2, .int x2_7), (3, .int x3_4)]) dX2_earnings_30 (by decide) [1, 2, 0, 3] rfl ?_
        refine wG_iinc C (v := 1) (LL := fun x3_8 => [(0, .ref (xB X + 53)), (1, .int x1), (2, .int x2_7), (3, .int x3_8)]) dX2_earnings_31 3 rfl (by decide) (by decide) [1, 2, 3, 0] (fun _ => rfl) (fun x3_8 => ?_)
        refine wG_goto C dX2_earnings_34 ?_
        exact wG_lv [0, 1, 2, 3] rfl (ih x2_7 x3_8)
set_option maxRecDepth 4000 in
theorem w_X2_earnings {X : wX} (C : Cx X yX2_earnings cX2_earnings 4 (some .int) rm_X2_earnings) {N : Nat} {q : Qp} (hN : 137 ≤ N) (h : Hp) (x1 : Int32) : wG X 4 (eM X (fun u => (some (.int u), N, h, (rq q)))) (f_X2_earnings h x1) N h (rq q) 0 0 0 [(0, .ref (xB X + 53)), (1, .int x1)] [] := by
  refine wG_of (f_X2_earnings.eq_1 ..) ?_
  refine wG_iconst C dX2_earnings_0 (v := 0) (by decide) ?_
  refine wG_nmI (fun x2_1 => ?_)
  refine wG_istore_n C (L' := [(0, .ref (xB X + 53)), (1, .int x1), (2, .int x2_1)]) dX2_earnings_1 (by decide) [1, 2, 0] rfl ?_
  refine wG_iconst C dX2_earnings_2 (v := 0) (by decide) ?_
  refine wG_nmI (fun x3_2 => ?_)
  refine wG_istore_n C (L' := [(0, .ref (xB X + 53)), (1, .int x1), (2, .int x2_1), (3, .int x3_2)]) dX2_earnings_3 (by decide) [1, 2, 3, 0] rfl ?_
  refine wG_lv (L' := [(0, .ref (xB X + 53)), (1, .int x1), (2, .int x2_1), (3, .int x3_2)]) [0, 1, 2, 3] rfl ?_
  refine wG_bind (wL_X2_earnings_4 C hN h x1 x2_1 x3_2 FU x2_1 x3_2) (fun t_5 => (?_ : wG X 4 _ _ N h (rq q) 0 0 37 [(2, .int t_5)] []))
  refine wG_iload_n C dX2_earnings_37 0 rfl ?_
  exact wG_iret C dX2_earnings_38 ⟨by decide, by decide⟩ (fun _ e => e)
theorem c_X2_earnings (l : Launch) (E : wE) (N : Nat) (q : Qp) (hN : 137 ≤ N) (h : Hp) (x1 : Int32) : ∀ z, f_X2_earnings h x1 = some z → CT l E yX2_earnings cX2_earnings 4 (some .int) rm_X2_earnings [.ref (eB E + 53), .int x1] N h (rq q) ((fun u => (some (.int u), N, h, (rq q))) z) := CT.of (by decide +kernel) (Nat.le_of_ble_eq_true rfl) (fun X _ e C => by subst e; exact w_X2_earnings C hN h x1)
def rm_X11_over : Room := { frames := 1, cells := 0, slots := 0, locals := 23 }
def f_X11_over (h : Hp) (x1 : Int32) : Option Int32 :=
  (if x1 < 0 then
  some (-2)
  else
  (if x1 ≤ 99 then
  (f_X2_earnings h x1).bind fun u_1 =>
  some (1000 + u_1)
  else
  some (-2)))
set_option maxRecDepth 4000 in
theorem w_X11_over {X : wX} (C : Cx X yX11_over cX11_over 2 (some .int) rm_X11_over) {N : Nat} {q : Qp} (hN : 137 ≤ N) (h : Hp) (x1 : Int32) : wG X 2 (eM X (fun u => (some (.int u), N, h, (rq q)))) (f_X11_over h x1) N h (rq q) 0 0 0 [(0, .ref (xB X + 0)), (1, .int x1)] [] := by
  refine wG_of (f_X11_over.eq_1 ..) ?_
  refine wG_iload_n C dX11_over_0 1 rfl ?_
  refine wG_if_lt C dX11_over_1 ?_ ?_
  · refine wG_bipush C dX11_over_10 (v := (-2)) (by decide) ?_
    refine wG_goto C dX11_over_12 ?_
    exact wG_iret C dX11_over_27 ⟨by decide, by decide⟩ (fun _ e => e)
  · refine wG_iload_n C dX11_over_4 1 rfl ?_
    refine wG_bipush C dX11_over_5 (v := 99) (by decide) ?_
    refine wG_icmp_le C dX11_over_7 ?_ ?_
    · refine wG_sipush C dX11_over_15 (v := 1000) (by decide) ?_
      refine wG_aload_n C dX11_over_18 0 rfl ?_
      refine wG_getR C fl_X11_69_11 rfl kd_0 (wll hN (by decide)) (rf_0_8 q) dX11_over_19 ?_
      refine wG_iload_n C dX11_over_22 1 rfl ?_
      refine wG_cV_ri [.int x1] [.int 1000] C vw_X11_279 (c_X2_earnings (xl X) (xE X) N q hN h x1) kd_53 (wll hN (by decide)) (by decide) rfl rfl (Nat.le_of_ble_eq_true rfl) dX11_over_23 (cl' := 0) (sl' := 0) rfl rfl (fun u_1 => ?_)
      refine wG_iadd C dX11_over_26 ?_
      exact wG_iret C dX11_over_27 ⟨by decide, by decide⟩ (fun _ e => e)
    · refine wG_bipush C dX11_over_10 (v := (-2)) (by decide) ?_
      refine wG_goto C dX11_over_12 ?_
      exact wG_iret C dX11_over_27 ⟨by decide, by decide⟩ (fun _ e => e)
theorem c_X11_over (l : Launch) (E : wE) (N : Nat) (q : Qp) (hN : 137 ≤ N) (h : Hp) (x1 : Int32) : ∀ z, f_X11_over h x1 = some z → CT l E yX11_over cX11_over 2 (some .int) rm_X11_over [.ref (eB E + 0), .int x1] N h (rq q) ((fun u => (some (.int u), N, h, (rq q))) z) := CT.of (by decide +kernel) (Nat.le_of_ble_eq_true rfl) (fun X _ e C => by subst e; exact w_X11_over C hN h x1)
def rm_X2_dearestOver : Room := { frames := 1, cells := 0, slots := 0, locals := 23 }
def L_X2_dearestOver_10 (h : Hp) : Nat → Int32 → Int32 → Int32 → Option Int32
  | 0, _, _, _ => none
  | n + 1, x1_5, x2_6, x3_7 =>
    (if (99 : Int32) < x3_7 then
    some x1_5
    else
    (f_X2_earnings h x3_7).bind fun u_9 =>
    vB u_9 fun (x4_10 : Int32) =>
    ((if x4_10 ≤ x2_6 then
    some (x1_5, x2_6)
    else
    vB x3_7 fun (x1_12 : Int32) =>
    vB x4_10 fun (x2_13 : Int32) =>
    some (x1_12, x2_13))).bind fun t_11 =>
    vB (x3_7 + 1) fun (x3_14 : Int32) =>
    L_X2_dearestOver_10 h n t_11.1 t_11.2 x3_14)
def f_X2_dearestOver (h : Hp) : Option Int32 :=
  vB 0 fun (x1_1 : Int32) =>
  (f_X2_earnings h 0).bind fun u_2 =>
  vB u_2 fun (x2_3 : Int32) =>
  vB 1 fun (x3_4 : Int32) =>
  (L_X2_dearestOver_10 h FU x1_1 x2_3 x3_4).bind fun t_8 =>
  some t_8
set_option maxRecDepth 4000 in
theorem wL_X2_dearestOver_10 {X : wX} (C : Cx X yX2_dearestOver cX2_dearestOver 5 (some .int) rm_X2_dearestOver) {N : Nat} {q : Qp} (hN : 137 ≤ N) (h : Hp) (x1_1 : Int32) (u_2 : Int32) (x2_3 : Int32) (x3_4 : Int32) : ∀ n x1_5 x2_6 x3_7, wG X 5 (fun (t_8 : Int32) Q => gQ X 5 Q N h (rq q) 0 0 40 [(1, .int t_8)] []) (L_X2_dearestOver_10 h n x1_5 x2_6 x3_7) N h (rq q) 0 0 10 [(0, .ref (xB X + 53)), (1, .int x1_5), (2, .int x2_6), (3, .int x3_7)] [] := by
  intro n
  induction n with
  | zero => intro _ _ _; exact wG_none
  | succ n ih =>
    intro x1_5 x2_6 x3_7
    refine wG_of (L_X2_dearestOver_10.eq_2 ..) ?_
    refine wG_iload_n C dX2_dearestOver_10 3 rfl ?_
    refine wG_bipush C dX2_dearestOver_11 (v := 99) (by decide) ?_
    refine wG_icmp_gt C dX2_dearestOver_13 ?_ ?_
    · exact wG_exit (fun Q e => gQ_lv [1] rfl e)
    · refine wG_aload_n C dX2_dearestOver_16 0 rfl ?_
      refine wG_iload_n C dX2_dearestOver_17 3 rfl ?_
      refine wG_cV_ri [.int x3_7] [] C vw_X2_25 (c_X2_earnings (xl X) (xE X) N q hN h x3_7) kd_53 (wll hN (by decide)) (by decide) rfl rfl (Nat.le_of_ble_eq_true rfl) dX2_dearestOver_18 (cl' := 0) (sl' := 0) rfl rfl (fun u_9 => ?_)
      refine wG_nmI (fun x4_10 => ?_)
      refine wG_istore C (L' := [(0, .ref (xB X + 53)), (1, .int x1_5), (2, .int x2_6), (3, .int x3_7), (4, .int x4_10)]) dX2_dearestOver_21 (by decide) [1, 2, 3, 4, 0] rfl ?_
      refine wG_iload C dX2_dearestOver_23 4 rfl ?_
      refine wG_iload_n C dX2_dearestOver_25 2 rfl ?_
      refine wG_bind (J := (fun (t_11 : (Int32 × Int32)) Q => gQ X 5 Q N h (rq q) 0 0 34 [(0, .ref (xB X + 53)), (1, .int t_11.1), (2, .int t_11.2), (3, .int x3_7)] [])) ?_ (fun t_11 => (?_ : wG X 5 _ _ N h (rq q) 0 0 34 [(0, .ref (xB X + 53)), (1, .int t_11.1), (2, .int t_11.2), (3, .int x3_7)] []))
      · refine wG_icmp_le C dX2_dearestOver_26 ?_ ?_
        · exact wG_exit (fun Q e => gQ_lv [0, 1, 2, 3] rfl e)
        · refine wG_iload_n C dX2_dearestOver_29 3 rfl ?_
          refine wG_nmI (fun x1_12 => ?_)
          refine wG_istore_n C (L' := [(0, .ref (xB X + 53)), (1, .int x1_12), (3, .int x3_7), (4, .int x4_10)]) dX2_dearestOver_30 (by decide) [1, 0, 3, 4] rfl ?_
          refine wG_iload C dX2_dearestOver_31 3 rfl ?_
          refine wG_nmI (fun x2_13 => ?_)
          refine wG_istore_n C (L' := [(0, .ref (xB X + 53)), (1, .int x1_12), (2, .int x2_13), (3, .int x3_7)]) dX2_dearestOver_33 (by decide) [1, 2, 0, 3] rfl ?_
          exact wG_exit (fun Q e => gQ_lv [0, 1, 2, 3] rfl e)
      · refine wG_iinc C (v := 1) (LL := fun x3_14 => [(0, .ref (xB X + 53)), (1, .int t_11.1), (2, .int t_11.2), (3, .int x3_14)]) dX2_dearestOver_34 3 rfl (by decide) (by decide) [1, 2, 3, 0] (fun _ => rfl) (fun x3_14 => ?_)
        refine wG_goto C dX2_dearestOver_37 ?_
        exact wG_lv [0, 1, 2, 3] rfl (ih t_11.1 t_11.2 x3_14)
set_option maxRecDepth 4000 in
theorem w_X2_dearestOver {X : wX} (C : Cx X yX2_dearestOver cX2_dearestOver 5 (some .int) rm_X2_dearestOver) {N : Nat} {q : Qp} (hN : 137 ≤ N) (h : Hp) : wG X 5 (eM X (fun u => (some (.int u), N, h, (rq q)))) (f_X2_dearestOver h) N h (rq q) 0 0 0 [(0, .ref (xB X + 53))] [] := by
  refine wG_of (f_X2_dearestOver.eq_1 ..) ?_
  refine wG_iconst C dX2_dearestOver_0 (v := 0) (by decide) ?_
  refine wG_nmI (fun x1_1 => ?_)
  refine wG_istore_n C (L' := [(0, .ref (xB X + 53)), (1, .int x1_1)]) dX2_dearestOver_1 (by decide) [1, 0] rfl ?_
  refine wG_aload_n C dX2_dearestOver_2 0 rfl ?_
  refine wG_iconst C dX2_dearestOver_3 (v := 0) (by decide) ?_
  refine wG_cV_ri [.int 0] [] C vw_X2_25 (c_X2_earnings (xl X) (xE X) N q hN h 0) kd_53 (wll hN (by decide)) (by decide) rfl rfl (Nat.le_of_ble_eq_true rfl) dX2_dearestOver_4 (cl' := 0) (sl' := 0) rfl rfl (fun u_2 => ?_)
  refine wG_nmI (fun x2_3 => ?_)
  refine wG_istore_n C (L' := [(0, .ref (xB X + 53)), (1, .int x1_1), (2, .int x2_3)]) dX2_dearestOver_7 (by decide) [1, 2, 0] rfl ?_
  refine wG_iconst C dX2_dearestOver_8 (v := 1) (by decide) ?_
  refine wG_nmI (fun x3_4 => ?_)
  refine wG_istore_n C (L' := [(0, .ref (xB X + 53)), (1, .int x1_1), (2, .int x2_3), (3, .int x3_4)]) dX2_dearestOver_9 (by decide) [1, 2, 3, 0] rfl ?_
  refine wG_lv (L' := [(0, .ref (xB X + 53)), (1, .int x1_1), (2, .int x2_3), (3, .int x3_4)]) [0, 1, 2, 3] rfl ?_
  refine wG_bind (wL_X2_dearestOver_10 C hN h x1_1 u_2 x2_3 x3_4 FU x1_1 x2_3 x3_4) (fun t_8 => (?_ : wG X 5 _ _ N h (rq q) 0 0 40 [(1, .int t_8)] []))
  refine wG_iload_n C dX2_dearestOver_40 0 rfl ?_
  exact wG_iret C dX2_dearestOver_41 ⟨by decide, by decide⟩ (fun _ e => e)
theorem c_X2_dearestOver (l : Launch) (E : wE) (N : Nat) (q : Qp) (hN : 137 ≤ N) (h : Hp) : ∀ z, f_X2_dearestOver h = some z → CT l E yX2_dearestOver cX2_dearestOver 5 (some .int) rm_X2_dearestOver [.ref (eB E + 53)] N h (rq q) ((fun u => (some (.int u), N, h, (rq q))) z) := CT.of (by decide +kernel) (Nat.le_of_ble_eq_true rfl) (fun X _ e C => by subst e; exact w_X2_dearestOver C hN h)
def rm_X11_bestOver : Room := { frames := 2, cells := 0, slots := 0, locals := 47 }
def f_X11_bestOver (h : Hp) : Option Int32 :=
  (f_X2_dearestOver h).bind fun u_1 =>
  some u_1
set_option maxRecDepth 4000 in
theorem w_X11_bestOver {X : wX} (C : Cx X yX11_bestOver cX11_bestOver 1 (some .int) rm_X11_bestOver) {N : Nat} {q : Qp} (hN : 137 ≤ N) (h : Hp) : wG X 1 (eM X (fun u => (some (.int u), N, h, (rq q)))) (f_X11_bestOver h) N h (rq q) 0 0 0 [(0, .ref (xB X + 0))] [] := by
  refine wG_of (f_X11_bestOver.eq_1 ..) ?_
  refine wG_aload_n C dX11_bestOver_0 0 rfl ?_
  refine wG_getR C fl_X11_69_11 rfl kd_0 (wll hN (by decide)) (rf_0_8 q) dX11_bestOver_1 ?_
  refine wG_cV_ri [] [] C vw_X11_282 (c_X2_dearestOver (xl X) (xE X) N q hN h) kd_53 (wll hN (by decide)) (by decide) rfl rfl (Nat.le_of_ble_eq_true rfl) dX11_bestOver_4 (cl' := 0) (sl' := 0) rfl rfl (fun u_1 => ?_)
  exact wG_iret C dX11_bestOver_7 ⟨by decide, by decide⟩ (fun _ e => e)
theorem c_X11_bestOver (l : Launch) (E : wE) (N : Nat) (q : Qp) (hN : 137 ≤ N) (h : Hp) : ∀ z, f_X11_bestOver h = some z → CT l E yX11_bestOver cX11_bestOver 1 (some .int) rm_X11_bestOver [.ref (eB E + 0)] N h (rq q) ((fun u => (some (.int u), N, h, (rq q))) z) := CT.of (by decide +kernel) (Nat.le_of_ble_eq_true rfl) (fun X _ e C => by subst e; exact w_X11_bestOver C hN h)
def rm_X2_enterTaste : Room := { frames := 0, cells := 0, slots := 0, locals := 0 }
def f_X2_enterTaste (h : Hp) (x1 : Int32) (x2 : Int32) : Option Hp :=
  if inB x1 10 then
  if inB x1 10 then vB (u2 h 55 (ix x1) ((h 55 (ix x1)) + 1)) fun h_1 =>
  if inB x1 10 then
  ((if x2 = 0 then
  some 0
  else
  some 1)).bind fun t_2 =>
  if inB x1 10 then vB (u2 h_1 56 (ix x1) ((h_1 56 (ix x1)) + t_2)) fun h_3 =>
  some h_3 else none else none else none else none
set_option maxRecDepth 4000 in
theorem w_X2_enterTaste {X : wX} (C : Cx X yX2_enterTaste cX2_enterTaste 3 none rm_X2_enterTaste) {N : Nat} {q : Qp} (hN : 137 ≤ N) (h : Hp) (x1 : Int32) (x2 : Int32) : wG X 3 (eM X (fun u => (none, N, u, (rq q)))) (f_X2_enterTaste h x1 x2) N h (rq q) 0 0 0 [(0, .ref (xB X + 53)), (1, .int x1), (2, .int x2)] [] := by
  refine wG_of (f_X2_enterTaste.eq_1 ..) ?_
  refine wG_aload_n C dX2_enterTaste_0 0 rfl ?_
  refine wG_getR C fl_X2_15_2 rfl kd_53 (wll hN (by decide)) (rf_53_1 q) dX2_enterTaste_1 ?_
  refine wG_iload_n C dX2_enterTaste_4 1 rfl ?_
  refine wG_dup2 C dX2_enterTaste_5 rfl rfl ?_
  refine wG_iald C kd_55 (wll hN (by decide)) ln_55 dX2_enterTaste_6 ?_
  refine wG_iconst C dX2_enterTaste_7 (v := 1) (by decide) ?_
  refine wG_iadd C dX2_enterTaste_8 ?_
  refine wG_iast C kd_55 (wll hN (by decide)) ln_55 dX2_enterTaste_9 (fun h_1 => ?_)
  refine wG_aload_n C dX2_enterTaste_10 0 rfl ?_
  refine wG_getR C fl_X2_18_2 rfl kd_53 (wll hN (by decide)) (rf_53_2 q) dX2_enterTaste_11 ?_
  refine wG_iload_n C dX2_enterTaste_14 1 rfl ?_
  refine wG_dup2 C dX2_enterTaste_15 rfl rfl ?_
  refine wG_iald C kd_56 (wll hN (by decide)) ln_56 dX2_enterTaste_16 ?_
  refine wG_iload_n C dX2_enterTaste_17 2 rfl ?_
  refine wG_bind (J := (fun (t_2 : Int32) Q => gQ X 3 Q N h_1 (rq q) 0 0 26 [] [.int t_2, .int (h_1 56 (ix x1)), .int x1, .ref (xB X + 56)])) ?_ (fun t_2 => (?_ : wG X 3 _ _ N h_1 (rq q) 0 0 26 [] [.int t_2, .int (h_1 56 (ix x1)), .int x1, .ref (xB X + 56)]))
  · refine wG_if_eq C dX2_enterTaste_18 ?_ ?_
    · refine wG_iconst C dX2_enterTaste_25 (v := 0) (by decide) ?_
      exact wG_exit (fun Q e => gQ_lv [] rfl e)
    · refine wG_iconst C dX2_enterTaste_21 (v := 1) (by decide) ?_
      refine wG_goto C dX2_enterTaste_22 ?_
      exact wG_exit (fun Q e => gQ_lv [] rfl e)
  · refine wG_iadd C dX2_enterTaste_26 ?_
    refine wG_iast C kd_56 (wll hN (by decide)) ln_56 dX2_enterTaste_27 (fun h_3 => ?_)
    exact wG_vret C dX2_enterTaste_28 ⟨by decide, by decide⟩ (fun _ e => e)
theorem c_X2_enterTaste (l : Launch) (E : wE) (N : Nat) (q : Qp) (hN : 137 ≤ N) (h : Hp) (x1 : Int32) (x2 : Int32) : ∀ z, f_X2_enterTaste h x1 x2 = some z → CT l E yX2_enterTaste cX2_enterTaste 3 none rm_X2_enterTaste [.ref (eB E + 53), .int x1, .int x2] N h (rq q) ((fun u => (none, N, u, (rq q))) z) := CT.of (by decide +kernel) (Nat.le_of_ble_eq_true rfl) (fun X _ e C => by subst e; exact w_X2_enterTaste C hN h x1 x2)
def rm_X11_taste : Room := { frames := 1, cells := 0, slots := 0, locals := 22 }
def f_X11_taste (h : Hp) (x1 : Int32) (x2 : Int32) : Option (Int32 × Hp) :=
  (if x1 < 0 then
  some ((-2), h)
  else
  (if x1 ≤ 9 then
  (f_X2_enterTaste h x1 x2).bind fun u_1 =>
  if inB x1 10 then
  some ((u_1 55 (ix x1)), u_1) else none
  else
  some ((-2), h)))
set_option maxRecDepth 4000 in
theorem w_X11_taste {X : wX} (C : Cx X yX11_taste cX11_taste 3 (some .int) rm_X11_taste) {N : Nat} {q : Qp} (hN : 137 ≤ N) (h : Hp) (x1 : Int32) (x2 : Int32) : wG X 3 (eM X (fun u => (some (.int u.1), N, u.2, (rq q)))) (f_X11_taste h x1 x2) N h (rq q) 0 0 0 [(0, .ref (xB X + 0)), (1, .int x1), (2, .int x2)] [] := by
  refine wG_of (f_X11_taste.eq_1 ..) ?_
  refine wG_iload_n C dX11_taste_0 1 rfl ?_
  refine wG_if_lt C dX11_taste_1 ?_ ?_
  · refine wG_bipush C dX11_taste_10 (v := (-2)) (by decide) ?_
    exact wG_iret C dX11_taste_12 ⟨by decide, by decide⟩ (fun _ e => e)
  · refine wG_iload_n C dX11_taste_4 1 rfl ?_
    refine wG_bipush C dX11_taste_5 (v := 9) (by decide) ?_
    refine wG_icmp_le C dX11_taste_7 ?_ ?_
    · refine wG_aload_n C dX11_taste_13 0 rfl ?_
      refine wG_getR C fl_X11_69_11 rfl kd_0 (wll hN (by decide)) (rf_0_8 q) dX11_taste_14 ?_
      refine wG_iload_n C dX11_taste_17 1 rfl ?_
      refine wG_iload_n C dX11_taste_18 2 rfl ?_
      refine wG_cV_wv [.int x1, .int x2] [] C vw_X11_285 (c_X2_enterTaste (xl X) (xE X) N q hN h x1 x2) kd_53 (wll hN (by decide)) (by decide) rfl rfl (Nat.le_of_ble_eq_true rfl) dX11_taste_19 (cl' := 0) (sl' := 0) rfl rfl (fun u_1 => ?_)
      refine wG_aload_n C dX11_taste_22 0 rfl ?_
      refine wG_getR C fl_X11_69_11 rfl kd_0 (wll hN (by decide)) (rf_0_8 q) dX11_taste_23 ?_
      refine wG_getR C fl_X11_289_2 rfl kd_53 (wll hN (by decide)) (rf_53_1 q) dX11_taste_26 ?_
      refine wG_iload_n C dX11_taste_29 1 rfl ?_
      refine wG_iald C kd_55 (wll hN (by decide)) ln_55 dX11_taste_30 ?_
      exact wG_iret C dX11_taste_31 ⟨by decide, by decide⟩ (fun _ e => e)
    · refine wG_bipush C dX11_taste_10 (v := (-2)) (by decide) ?_
      exact wG_iret C dX11_taste_12 ⟨by decide, by decide⟩ (fun _ e => e)
theorem c_X11_taste (l : Launch) (E : wE) (N : Nat) (q : Qp) (hN : 137 ≤ N) (h : Hp) (x1 : Int32) (x2 : Int32) : ∀ z, f_X11_taste h x1 x2 = some z → CT l E yX11_taste cX11_taste 3 (some .int) rm_X11_taste [.ref (eB E + 0), .int x1, .int x2] N h (rq q) ((fun u => (some (.int u.1), N, u.2, (rq q))) z) := CT.of (by decide +kernel) (Nat.le_of_ble_eq_true rfl) (fun X _ e C => by subst e; exact w_X11_taste C hN h x1 x2)
def rm_X2_gainBelow : Room := { frames := 0, cells := 0, slots := 0, locals := 0 }
def f_X2_gainBelow (h : Hp) (x1 : Int32) : Option Int64 :=
  if inB x1 10 then
  some ((h 55 (ix x1)).toInt64 + 2) else none
set_option maxRecDepth 4000 in
theorem w_X2_gainBelow {X : wX} (C : Cx X yX2_gainBelow cX2_gainBelow 2 (some .long) rm_X2_gainBelow) {N : Nat} {q : Qp} (hN : 137 ≤ N) (h : Hp) (x1 : Int32) : wG X 2 (eM X (fun u => (some (.long u), N, h, (rq q)))) (f_X2_gainBelow h x1) N h (rq q) 0 0 0 [(0, .ref (xB X + 53)), (1, .int x1)] [] := by
  refine wG_of (f_X2_gainBelow.eq_1 ..) ?_
  refine wG_aload_n C dX2_gainBelow_0 0 rfl ?_
  refine wG_getR C fl_X2_15_2 rfl kd_53 (wll hN (by decide)) (rf_53_1 q) dX2_gainBelow_1 ?_
  refine wG_iload_n C dX2_gainBelow_4 1 rfl ?_
  refine wG_iald C kd_55 (wll hN (by decide)) ln_55 dX2_gainBelow_5 ?_
  refine wG_i2l C dX2_gainBelow_6 ?_
  refine wG_ldc2 C dX2_gainBelow_7 m_957 ?_
  refine wG_ladd C dX2_gainBelow_10 ?_
  exact wG_lret C dX2_gainBelow_11 ⟨by decide, by decide⟩ (fun _ e => e)
theorem c_X2_gainBelow (l : Launch) (E : wE) (N : Nat) (q : Qp) (hN : 137 ≤ N) (h : Hp) (x1 : Int32) : ∀ z, f_X2_gainBelow h x1 = some z → CT l E yX2_gainBelow cX2_gainBelow 2 (some .long) rm_X2_gainBelow [.ref (eB E + 53), .int x1] N h (rq q) ((fun u => (some (.long u), N, h, (rq q))) z) := CT.of (by decide +kernel) (Nat.le_of_ble_eq_true rfl) (fun X _ e C => by subst e; exact w_X2_gainBelow C hN h x1)
def rm_X2_gainAbove : Room := { frames := 1, cells := 0, slots := 0, locals := 21 }
def f_X2_gainAbove (h : Hp) (x1 : Int32) : Option Int64 :=
  if inB x1 10 then
  (f_X2_gainBelow h x1).bind fun u_1 =>
  some ((20 * ((h 56 (ix x1)).toInt64 + 1)) - (x1.toInt64 * u_1)) else none
set_option maxRecDepth 4000 in
theorem w_X2_gainAbove {X : wX} (C : Cx X yX2_gainAbove cX2_gainAbove 2 (some .long) rm_X2_gainAbove) {N : Nat} {q : Qp} (hN : 137 ≤ N) (h : Hp) (x1 : Int32) : wG X 2 (eM X (fun u => (some (.long u), N, h, (rq q)))) (f_X2_gainAbove h x1) N h (rq q) 0 0 0 [(0, .ref (xB X + 53)), (1, .int x1)] [] := by
  refine wG_of (f_X2_gainAbove.eq_1 ..) ?_
  refine wG_ldc2 C dX2_gainAbove_0 m_952 ?_
  refine wG_aload_n C dX2_gainAbove_3 0 rfl ?_
  refine wG_getR C fl_X2_18_2 rfl kd_53 (wll hN (by decide)) (rf_53_2 q) dX2_gainAbove_4 ?_
  refine wG_iload_n C dX2_gainAbove_7 1 rfl ?_
  refine wG_iald C kd_56 (wll hN (by decide)) ln_56 dX2_gainAbove_8 ?_
  refine wG_i2l C dX2_gainAbove_9 ?_
  refine wG_lconst C dX2_gainAbove_10 (v := 1) (by decide) ?_
  refine wG_ladd C dX2_gainAbove_11 ?_
  refine wG_lmul C dX2_gainAbove_12 ?_
  refine wG_iload_n C dX2_gainAbove_13 1 rfl ?_
  refine wG_i2l C dX2_gainAbove_14 ?_
  refine wG_aload_n C dX2_gainAbove_15 0 rfl ?_
  refine wG_iload_n C dX2_gainAbove_16 1 rfl ?_
  refine wG_cV_rl [.int x1] [.long x1.toInt64, .long (20 * ((h 56 (ix x1)).toInt64 + 1))] C vw_X2_31 (c_X2_gainBelow (xl X) (xE X) N q hN h x1) kd_53 (wll hN (by decide)) (by decide) rfl rfl (Nat.le_of_ble_eq_true rfl) dX2_gainAbove_17 (cl' := 0) (sl' := 0) rfl rfl (fun u_1 => ?_)
  refine wG_lmul C dX2_gainAbove_20 ?_
  refine wG_lsub C dX2_gainAbove_21 ?_
  exact wG_lret C dX2_gainAbove_22 ⟨by decide, by decide⟩ (fun _ e => e)
theorem c_X2_gainAbove (l : Launch) (E : wE) (N : Nat) (q : Qp) (hN : 137 ≤ N) (h : Hp) (x1 : Int32) : ∀ z, f_X2_gainAbove h x1 = some z → CT l E yX2_gainAbove cX2_gainAbove 2 (some .long) rm_X2_gainAbove [.ref (eB E + 53), .int x1] N h (rq q) ((fun u => (some (.long u), N, h, (rq q))) z) := CT.of (by decide +kernel) (Nat.le_of_ble_eq_true rfl) (fun X _ e C => by subst e; exact w_X2_gainAbove C hN h x1)
def rm_X11_brings : Room := { frames := 2, cells := 0, slots := 0, locals := 53 }
def f_X11_brings (h : Hp) (x1 : Int32) (x2 : Int32) : Option Int64 :=
  (if x1 < 0 then
  some (-2)
  else
  (if x1 ≤ 9 then
  (f_X2_gainAbove h x1).bind fun u_1 =>
  vB u_1 fun (x3_2 : Int64) =>
  (f_X2_gainBelow h x1).bind fun u_3 =>
  vB u_3 fun (x5_4 : Int64) =>
  (f_X11_commonDivisor x3_2 x5_4).bind fun u_5 =>
  vB u_5 fun (x7_6 : Int64) =>
  (if x2 = 0 then
  if x7_6 = 0 then none else
  some (x5_4 / x7_6)
  else
  if x7_6 = 0 then none else
  some (1000000 + (x3_2 / x7_6)))
  else
  some (-2)))
set_option maxRecDepth 4000 in
theorem w_X11_brings {X : wX} (C : Cx X yX11_brings cX11_brings 9 (some .long) rm_X11_brings) {N : Nat} {q : Qp} (hN : 137 ≤ N) (h : Hp) (x1 : Int32) (x2 : Int32) : wG X 9 (eM X (fun u => (some (.long u), N, h, (rq q)))) (f_X11_brings h x1 x2) N h (rq q) 0 0 0 [(0, .ref (xB X + 0)), (1, .int x1), (2, .int x2)] [] := by
  refine wG_of (f_X11_brings.eq_1 ..) ?_
  refine wG_iload_n C dX11_brings_0 1 rfl ?_
  refine wG_if_lt C dX11_brings_1 ?_ ?_
  · refine wG_ldc2 C dX11_brings_10 m_875 ?_
    exact wG_lret C dX11_brings_13 ⟨by decide, by decide⟩ (fun _ e => e)
  · refine wG_iload_n C dX11_brings_4 1 rfl ?_
    refine wG_bipush C dX11_brings_5 (v := 9) (by decide) ?_
    refine wG_icmp_le C dX11_brings_7 ?_ ?_
    · refine wG_aload_n C dX11_brings_14 0 rfl ?_
      refine wG_getR C fl_X11_69_11 rfl kd_0 (wll hN (by decide)) (rf_0_8 q) dX11_brings_15 ?_
      refine wG_iload_n C dX11_brings_18 1 rfl ?_
      refine wG_cV_rl [.int x1] [] C vw_X11_292 (c_X2_gainAbove (xl X) (xE X) N q hN h x1) kd_53 (wll hN (by decide)) (by decide) rfl rfl (Nat.le_of_ble_eq_true rfl) dX11_brings_19 (cl' := 0) (sl' := 0) rfl rfl (fun u_1 => ?_)
      refine wG_nmL (fun x3_2 => ?_)
      refine wG_lstore_n C (L' := [(0, .ref (xB X + 0)), (1, .int x1), (2, .int x2), (3, .long x3_2)]) dX11_brings_22 (by decide) [1, 2, 3, 0] rfl ?_
      refine wG_aload_n C dX11_brings_23 0 rfl ?_
      refine wG_getR C fl_X11_69_11 rfl kd_0 (wll hN (by decide)) (rf_0_8 q) dX11_brings_24 ?_
      refine wG_iload_n C dX11_brings_27 1 rfl ?_
      refine wG_cV_rl [.int x1] [] C vw_X11_296 (c_X2_gainBelow (xl X) (xE X) N q hN h x1) kd_53 (wll hN (by decide)) (by decide) rfl rfl (Nat.le_of_ble_eq_true rfl) dX11_brings_28 (cl' := 0) (sl' := 0) rfl rfl (fun u_3 => ?_)
      refine wG_nmL (fun x5_4 => ?_)
      refine wG_lstore C (L' := [(2, .int x2), (3, .long x3_2), (5, .long x5_4)]) dX11_brings_31 (by decide) [3, 4, 0] rfl ?_
      refine wG_lload_n C dX11_brings_33 1 rfl ?_
      refine wG_lload C dX11_brings_34 2 rfl ?_
      refine wG_cS_rl [.long x3_2, .long x5_4] [] C sw_X11_267 (c_X11_commonDivisor (xl X) (xE X) N q hN h x3_2 x5_4) (by decide) rfl rfl (Nat.le_of_ble_eq_true rfl) dX11_brings_36 (cl' := 0) (sl' := 0) rfl rfl (fun u_5 => ?_)
      refine wG_nmL (fun x7_6 => ?_)
      refine wG_lstore C (L' := [(2, .int x2), (3, .long x3_2), (5, .long x5_4), (7, .long x7_6)]) dX11_brings_39 (by decide) [1, 2, 3, 0] rfl ?_
      refine wG_iload_n C dX11_brings_41 0 rfl ?_
      refine wG_if_eq C dX11_brings_42 ?_ ?_
      · refine wG_lload C dX11_brings_56 2 rfl ?_
        refine wG_lload C dX11_brings_58 3 rfl ?_
        refine wG_ldiv C dX11_brings_60 ?_
        exact wG_lret C dX11_brings_61 ⟨by decide, by decide⟩ (fun _ e => e)
      · refine wG_ldc2 C dX11_brings_45 m_959 ?_
        refine wG_lload_n C dX11_brings_48 1 rfl ?_
        refine wG_lload C dX11_brings_49 3 rfl ?_
        refine wG_ldiv C dX11_brings_51 ?_
        refine wG_ladd C dX11_brings_52 ?_
        refine wG_goto C dX11_brings_53 ?_
        exact wG_lret C dX11_brings_61 ⟨by decide, by decide⟩ (fun _ e => e)
    · refine wG_ldc2 C dX11_brings_10 m_875 ?_
      exact wG_lret C dX11_brings_13 ⟨by decide, by decide⟩ (fun _ e => e)
theorem c_X11_brings (l : Launch) (E : wE) (N : Nat) (q : Qp) (hN : 137 ≤ N) (h : Hp) (x1 : Int32) (x2 : Int32) : ∀ z, f_X11_brings h x1 x2 = some z → CT l E yX11_brings cX11_brings 9 (some .long) rm_X11_brings [.ref (eB E + 0), .int x1, .int x2] N h (rq q) ((fun u => (some (.long u), N, h, (rq q))) z) := CT.of (by decide +kernel) (Nat.le_of_ble_eq_true rfl) (fun X _ e C => by subst e; exact w_X11_brings C hN h x1 x2)
def rm_X2_dearestTastes : Room := { frames := 2, cells := 0, slots := 0, locals := 42 }
def L_X2_dearestTastes_4 (h : Hp) : Nat → Int32 → Int32 → Option Int32
  | 0, _, _ => none
  | n + 1, x1_3, x2_4 =>
    (if (9 : Int32) < x2_4 then
    some x1_3
    else
    (f_X2_gainAbove h x2_4).bind fun u_6 =>
    (f_X2_gainBelow h x1_3).bind fun u_7 =>
    (f_X2_gainAbove h x1_3).bind fun u_8 =>
    (f_X2_gainBelow h x2_4).bind fun u_9 =>
    ((if (lg_cmp (u_6 * u_7) (u_8 * u_9)) ≤ 0 then
    some x1_3
    else
    vB x2_4 fun (x1_11 : Int32) =>
    some x1_11)).bind fun t_10 =>
    vB (x2_4 + 1) fun (x2_12 : Int32) =>
    L_X2_dearestTastes_4 h n t_10 x2_12)
def f_X2_dearestTastes (h : Hp) : Option Int32 :=
  vB 0 fun (x1_1 : Int32) =>
  vB 1 fun (x2_2 : Int32) =>
  (L_X2_dearestTastes_4 h FU x1_1 x2_2).bind fun t_5 =>
  some t_5
set_option maxRecDepth 4000 in
theorem wL_X2_dearestTastes_4 {X : wX} (C : Cx X yX2_dearestTastes cX2_dearestTastes 3 (some .int) rm_X2_dearestTastes) {N : Nat} {q : Qp} (hN : 137 ≤ N) (h : Hp) (x1_1 : Int32) (x2_2 : Int32) : ∀ n x1_3 x2_4, wG X 3 (fun (t_5 : Int32) Q => gQ X 3 Q N h (rq q) 0 0 44 [(1, .int t_5)] []) (L_X2_dearestTastes_4 h n x1_3 x2_4) N h (rq q) 0 0 4 [(0, .ref (xB X + 53)), (1, .int x1_3), (2, .int x2_4)] [] := by
  intro n
  induction n with
  | zero => intro _ _; exact wG_none
  | succ n ih =>
    intro x1_3 x2_4
    refine wG_of (L_X2_dearestTastes_4.eq_2 ..) ?_
    refine wG_iload_n C dX2_dearestTastes_4 2 rfl ?_
    refine wG_bipush C dX2_dearestTastes_5 (v := 9) (by decide) ?_
    refine wG_icmp_gt C dX2_dearestTastes_7 ?_ ?_
    · exact wG_exit (fun Q e => gQ_lv [1] rfl e)
    · refine wG_aload_n C dX2_dearestTastes_10 0 rfl ?_
      refine wG_iload_n C dX2_dearestTastes_11 2 rfl ?_
      refine wG_cV_rl [.int x2_4] [] C vw_X2_37 (c_X2_gainAbove (xl X) (xE X) N q hN h x2_4) kd_53 (wll hN (by decide)) (by decide) rfl rfl (Nat.le_of_ble_eq_true rfl) dX2_dearestTastes_12 (cl' := 0) (sl' := 0) rfl rfl (fun u_6 => ?_)
      refine wG_aload_n C dX2_dearestTastes_15 0 rfl ?_
      refine wG_iload_n C dX2_dearestTastes_16 1 rfl ?_
      refine wG_cV_rl [.int x1_3] [.long u_6] C vw_X2_31 (c_X2_gainBelow (xl X) (xE X) N q hN h x1_3) kd_53 (wll hN (by decide)) (by decide) rfl rfl (Nat.le_of_ble_eq_true rfl) dX2_dearestTastes_17 (cl' := 0) (sl' := 0) rfl rfl (fun u_7 => ?_)
      refine wG_lmul C dX2_dearestTastes_20 ?_
      refine wG_aload_n C dX2_dearestTastes_21 0 rfl ?_
      refine wG_iload_n C dX2_dearestTastes_22 1 rfl ?_
      refine wG_cV_rl [.int x1_3] [.long (u_6 * u_7)] C vw_X2_37 (c_X2_gainAbove (xl X) (xE X) N q hN h x1_3) kd_53 (wll hN (by decide)) (by decide) rfl rfl (Nat.le_of_ble_eq_true rfl) dX2_dearestTastes_23 (cl' := 0) (sl' := 0) rfl rfl (fun u_8 => ?_)
      refine wG_aload_n C dX2_dearestTastes_26 0 rfl ?_
      refine wG_iload_n C dX2_dearestTastes_27 2 rfl ?_
      refine wG_cV_rl [.int x2_4] [.long u_8, .long (u_6 * u_7)] C vw_X2_31 (c_X2_gainBelow (xl X) (xE X) N q hN h x2_4) kd_53 (wll hN (by decide)) (by decide) rfl rfl (Nat.le_of_ble_eq_true rfl) dX2_dearestTastes_28 (cl' := 0) (sl' := 0) rfl rfl (fun u_9 => ?_)
      refine wG_lmul C dX2_dearestTastes_31 ?_
      refine wG_lcmp C dX2_dearestTastes_32 ?_
      refine wG_bind (J := (fun (t_10 : Int32) Q => gQ X 3 Q N h (rq q) 0 0 38 [(0, .ref (xB X + 53)), (1, .int t_10), (2, .int x2_4)] [])) ?_ (fun t_10 => (?_ : wG X 3 _ _ N h (rq q) 0 0 38 [(0, .ref (xB X + 53)), (1, .int t_10), (2, .int x2_4)] []))
      · refine wG_if_le C dX2_dearestTastes_33 ?_ ?_
        · exact wG_exit (fun Q e => gQ_lv [0, 1, 2] rfl e)
        · refine wG_iload_n C dX2_dearestTastes_36 2 rfl ?_
          refine wG_nmI (fun x1_11 => ?_)
          refine wG_istore_n C (L' := [(0, .ref (xB X + 53)), (1, .int x1_11), (2, .int x2_4)]) dX2_dearestTastes_37 (by decide) [1, 0, 2] rfl ?_
          exact wG_exit (fun Q e => gQ_lv [0, 1, 2] rfl e)
      · refine wG_iinc C (v := 1) (LL := fun x2_12 => [(0, .ref (xB X + 53)), (1, .int t_10), (2, .int x2_12)]) dX2_dearestTastes_38 2 rfl (by decide) (by decide) [1, 2, 0] (fun _ => rfl) (fun x2_12 => ?_)
        refine wG_goto C dX2_dearestTastes_41 ?_
        exact wG_lv [0, 1, 2] rfl (ih t_10 x2_12)
set_option maxRecDepth 4000 in
theorem w_X2_dearestTastes {X : wX} (C : Cx X yX2_dearestTastes cX2_dearestTastes 3 (some .int) rm_X2_dearestTastes) {N : Nat} {q : Qp} (hN : 137 ≤ N) (h : Hp) : wG X 3 (eM X (fun u => (some (.int u), N, h, (rq q)))) (f_X2_dearestTastes h) N h (rq q) 0 0 0 [(0, .ref (xB X + 53))] [] := by
  refine wG_of (f_X2_dearestTastes.eq_1 ..) ?_
  refine wG_iconst C dX2_dearestTastes_0 (v := 0) (by decide) ?_
  refine wG_nmI (fun x1_1 => ?_)
  refine wG_istore_n C (L' := [(0, .ref (xB X + 53)), (1, .int x1_1)]) dX2_dearestTastes_1 (by decide) [1, 0] rfl ?_
  refine wG_iconst C dX2_dearestTastes_2 (v := 1) (by decide) ?_
  refine wG_nmI (fun x2_2 => ?_)
  refine wG_istore_n C (L' := [(0, .ref (xB X + 53)), (1, .int x1_1), (2, .int x2_2)]) dX2_dearestTastes_3 (by decide) [1, 2, 0] rfl ?_
  refine wG_lv (L' := [(0, .ref (xB X + 53)), (1, .int x1_1), (2, .int x2_2)]) [0, 1, 2] rfl ?_
  refine wG_bind (wL_X2_dearestTastes_4 C hN h x1_1 x2_2 FU x1_1 x2_2) (fun t_5 => (?_ : wG X 3 _ _ N h (rq q) 0 0 44 [(1, .int t_5)] []))
  refine wG_iload_n C dX2_dearestTastes_44 0 rfl ?_
  exact wG_iret C dX2_dearestTastes_45 ⟨by decide, by decide⟩ (fun _ e => e)
theorem c_X2_dearestTastes (l : Launch) (E : wE) (N : Nat) (q : Qp) (hN : 137 ≤ N) (h : Hp) : ∀ z, f_X2_dearestTastes h = some z → CT l E yX2_dearestTastes cX2_dearestTastes 3 (some .int) rm_X2_dearestTastes [.ref (eB E + 53)] N h (rq q) ((fun u => (some (.int u), N, h, (rq q))) z) := CT.of (by decide +kernel) (Nat.le_of_ble_eq_true rfl) (fun X _ e C => by subst e; exact w_X2_dearestTastes C hN h)
def rm_X11_bestTaste : Room := { frames := 3, cells := 0, slots := 0, locals := 64 }
def f_X11_bestTaste (h : Hp) : Option Int32 :=
  (f_X2_dearestTastes h).bind fun u_1 =>
  some u_1
set_option maxRecDepth 4000 in
theorem w_X11_bestTaste {X : wX} (C : Cx X yX11_bestTaste cX11_bestTaste 1 (some .int) rm_X11_bestTaste) {N : Nat} {q : Qp} (hN : 137 ≤ N) (h : Hp) : wG X 1 (eM X (fun u => (some (.int u), N, h, (rq q)))) (f_X11_bestTaste h) N h (rq q) 0 0 0 [(0, .ref (xB X + 0))] [] := by
  refine wG_of (f_X11_bestTaste.eq_1 ..) ?_
  refine wG_aload_n C dX11_bestTaste_0 0 rfl ?_
  refine wG_getR C fl_X11_69_11 rfl kd_0 (wll hN (by decide)) (rf_0_8 q) dX11_bestTaste_1 ?_
  refine wG_cV_ri [] [] C vw_X11_301 (c_X2_dearestTastes (xl X) (xE X) N q hN h) kd_53 (wll hN (by decide)) (by decide) rfl rfl (Nat.le_of_ble_eq_true rfl) dX11_bestTaste_4 (cl' := 0) (sl' := 0) rfl rfl (fun u_1 => ?_)
  exact wG_iret C dX11_bestTaste_7 ⟨by decide, by decide⟩ (fun _ e => e)
theorem c_X11_bestTaste (l : Launch) (E : wE) (N : Nat) (q : Qp) (hN : 137 ≤ N) (h : Hp) : ∀ z, f_X11_bestTaste h = some z → CT l E yX11_bestTaste cX11_bestTaste 1 (some .int) rm_X11_bestTaste [.ref (eB E + 0)] N h (rq q) ((fun u => (some (.int u), N, h, (rq q))) z) := CT.of (by decide +kernel) (Nat.le_of_ble_eq_true rfl) (fun X _ e C => by subst e; exact w_X11_bestTaste C hN h)
def rm_X11_prices : Room := { frames := 0, cells := 0, slots := 0, locals := 0 }
def f_X11_prices (h : Hp) (x1 : Int32) (x2 : Int32) : Option (Int32 × Hp) :=
  (if x1 < 1 then
  some ((-2), h)
  else
  (if (9 : Int32) < x1 then
  some ((-2), h)
  else
  (if x2 < 0 then
  some ((-2), h)
  else
  (if x2 ≤ 9 then
  vB ((10 * (h 0 9)) + (h 0 10)) fun (x3_1 : Int32) =>
  vB (u2 h 0 9 x1) fun h_2 =>
  vB (u2 h_2 0 10 x2) fun h_3 =>
  some (x3_1, h_3)
  else
  some ((-2), h)))))
set_option maxRecDepth 4000 in
theorem w_X11_prices {X : wX} (C : Cx X yX11_prices cX11_prices 4 (some .int) rm_X11_prices) {N : Nat} {q : Qp} (hN : 137 ≤ N) (h : Hp) (x1 : Int32) (x2 : Int32) : wG X 4 (eM X (fun u => (some (.int u.1), N, u.2, (rq q)))) (f_X11_prices h x1 x2) N h (rq q) 0 0 0 [(0, .ref (xB X + 0)), (1, .int x1), (2, .int x2)] [] := by
  refine wG_of (f_X11_prices.eq_1 ..) ?_
  refine wG_iload_n C dX11_prices_0 1 rfl ?_
  refine wG_iconst C dX11_prices_1 (v := 1) (by decide) ?_
  refine wG_icmp_lt C dX11_prices_2 ?_ ?_
  · refine wG_bipush C dX11_prices_21 (v := (-2)) (by decide) ?_
    exact wG_iret C dX11_prices_23 ⟨by decide, by decide⟩ (fun _ e => e)
  · refine wG_iload_n C dX11_prices_5 1 rfl ?_
    refine wG_bipush C dX11_prices_6 (v := 9) (by decide) ?_
    refine wG_icmp_gt C dX11_prices_8 ?_ ?_
    · refine wG_bipush C dX11_prices_21 (v := (-2)) (by decide) ?_
      exact wG_iret C dX11_prices_23 ⟨by decide, by decide⟩ (fun _ e => e)
    · refine wG_iload_n C dX11_prices_11 2 rfl ?_
      refine wG_if_lt C dX11_prices_12 ?_ ?_
      · refine wG_bipush C dX11_prices_21 (v := (-2)) (by decide) ?_
        exact wG_iret C dX11_prices_23 ⟨by decide, by decide⟩ (fun _ e => e)
      · refine wG_iload_n C dX11_prices_15 2 rfl ?_
        refine wG_bipush C dX11_prices_16 (v := 9) (by decide) ?_
        refine wG_icmp_le C dX11_prices_18 ?_ ?_
        · refine wG_bipush C dX11_prices_24 (v := 10) (by decide) ?_
          refine wG_aload_n C dX11_prices_26 0 rfl ?_
          refine wG_getI C fl_X11_73_11 rfl kd_0 (wll hN (by decide)) dX11_prices_27 ?_
          refine wG_imul C dX11_prices_30 ?_
          refine wG_aload_n C dX11_prices_31 0 rfl ?_
          refine wG_getI C fl_X11_77_11 rfl kd_0 (wll hN (by decide)) dX11_prices_32 ?_
          refine wG_iadd C dX11_prices_35 ?_
          refine wG_nmI (fun x3_1 => ?_)
          refine wG_istore_n C (L' := [(0, .ref (xB X + 0)), (1, .int x1), (2, .int x2), (3, .int x3_1)]) dX11_prices_36 (by decide) [1, 2, 3, 0] rfl ?_
          refine wG_aload_n C dX11_prices_37 0 rfl ?_
          refine wG_iload_n C dX11_prices_38 1 rfl ?_
          refine wG_putI C fl_X11_73_11 (fp_11_9 _) (fun e => Bool.noConfusion e) rfl kd_0 (wll hN (by decide)) dX11_prices_39 (fun h_2 => ?_)
          refine wG_aload_n C dX11_prices_42 0 rfl ?_
          refine wG_iload_n C dX11_prices_43 2 rfl ?_
          refine wG_putI C fl_X11_77_11 (fp_11_10 _) (fun e => Bool.noConfusion e) rfl kd_0 (wll hN (by decide)) dX11_prices_44 (fun h_3 => ?_)
          refine wG_iload_n C dX11_prices_47 3 rfl ?_
          exact wG_iret C dX11_prices_48 ⟨by decide, by decide⟩ (fun _ e => e)
        · refine wG_bipush C dX11_prices_21 (v := (-2)) (by decide) ?_
          exact wG_iret C dX11_prices_23 ⟨by decide, by decide⟩ (fun _ e => e)
theorem c_X11_prices (l : Launch) (E : wE) (N : Nat) (q : Qp) (hN : 137 ≤ N) (h : Hp) (x1 : Int32) (x2 : Int32) : ∀ z, f_X11_prices h x1 x2 = some z → CT l E yX11_prices cX11_prices 4 (some .int) rm_X11_prices [.ref (eB E + 0), .int x1, .int x2] N h (rq q) ((fun u => (some (.int u.1), N, u.2, (rq q))) z) := CT.of (by decide +kernel) (Nat.le_of_ble_eq_true rfl) (fun X _ e C => by subst e; exact w_X11_prices C hN h x1 x2)
def rm_X11_worth : Room := { frames := 2, cells := 0, slots := 0, locals := 43 }
def L_X11_worth_4 (h : Hp) : Nat → Int32 → Int32 → Option Int32
  | 0, _, _ => none
  | n + 1, x1_3, x2_4 =>
    (if (h 7 3) ≤ x2_4 then
    some x1_3
    else
    if inB x2_4 24 then vB (10 + ix x2_4) fun a_6 =>
    ((if (h a_6 6) = 0 then
    (f_X7_weight h a_6).bind fun u_8 =>
    (f_X7_isEnd h a_6).bind fun u_9 =>
    ((if u_9 = 0 then
    some (h 0 9)
    else
    some (h 0 10))).bind fun t_10 =>
    vB (x1_3 + (u_8 * t_10)) fun (x1_11 : Int32) =>
    some x1_11
    else
    some x1_3)).bind fun t_7 =>
    vB (x2_4 + 1) fun (x2_12 : Int32) =>
    L_X11_worth_4 h n t_7 x2_12 else none)
def f_X11_worth (h : Hp) : Option Int32 :=
  vB 0 fun (x1_1 : Int32) =>
  vB 0 fun (x2_2 : Int32) =>
  (L_X11_worth_4 h FU x1_1 x2_2).bind fun t_5 =>
  some t_5
set_option maxRecDepth 4000 in
theorem wL_X11_worth_4 {X : wX} (C : Cx X yX11_worth cX11_worth 4 (some .int) rm_X11_worth) {N : Nat} {q : Qp} (hN : 137 ≤ N) (h : Hp) (x1_1 : Int32) (x2_2 : Int32) : ∀ n x1_3 x2_4, wG X 4 (fun (t_5 : Int32) Q => gQ X 4 Q N h (rq q) 0 0 68 [(1, .int t_5)] []) (L_X11_worth_4 h n x1_3 x2_4) N h (rq q) 0 0 4 [(0, .ref (xB X + 0)), (1, .int x1_3), (2, .int x2_4)] [] := by
  intro n
  induction n with
  | zero => intro _ _; exact wG_none
  | succ n ih =>
    intro x1_3 x2_4
    refine wG_of (L_X11_worth_4.eq_2 ..) ?_
    refine wG_iload_n C dX11_worth_4 2 rfl ?_
    refine wG_aload_n C dX11_worth_5 0 rfl ?_
    refine wG_getR C fl_X11_28_11 rfl kd_0 (wll hN (by decide)) (rf_0_2 q) dX11_worth_6 ?_
    refine wG_getI C fl_X11_304_1 rfl kd_7 (wll hN (by decide)) dX11_worth_9 ?_
    refine wG_icmp_ge C dX11_worth_12 ?_ ?_
    · exact wG_exit (fun Q e => gQ_lv [1] rfl e)
    · refine wG_aload_n C dX11_worth_15 0 rfl ?_
      refine wG_getR C fl_X11_28_11 rfl kd_0 (wll hN (by decide)) (rf_0_2 q) dX11_worth_16 ?_
      refine wG_getR C fl_X11_126_1 rfl kd_7 (wll hN (by decide)) (rf_7_1 q) dX11_worth_19 ?_
      refine wG_iload_n C dX11_worth_22 2 rfl ?_
      refine wG_aaP C hN kd_7 rfl rfl dX11_worth_23 (fun a_6 hk_a_6 => ?_)
      refine wG_astore_n C (L' := [(0, .ref (xB X + 0)), (1, .int x1_3), (2, .int x2_4), (3, .ref (xB X + a_6))]) dX11_worth_24 (by decide) [1, 2, 3, 0] rfl ?_
      refine wG_aload_n C dX11_worth_25 3 rfl ?_
      refine wG_getI C fl_X11_144_7 rfl hk_a_6 (wlt hN hk_a_6 (by decide)) dX11_worth_26 ?_
      refine wG_bind (J := (fun (t_7 : Int32) Q => gQ X 4 Q N h (rq q) 0 0 62 [(0, .ref (xB X + 0)), (1, .int t_7), (2, .int x2_4)] [])) ?_ (fun t_7 => (?_ : wG X 4 _ _ N h (rq q) 0 0 62 [(0, .ref (xB X + 0)), (1, .int t_7), (2, .int x2_4)] []))
      · refine wG_if_ne C dX11_worth_29 ?_ ?_
        · refine wG_iload_n C dX11_worth_32 1 rfl ?_
          refine wG_aload_n C dX11_worth_33 3 rfl ?_
          refine wG_cV_ri [] [.int x1_3] C vw_X11_167 (c_X7_weight (xl X) (xE X) N q hN h a_6 hk_a_6) hk_a_6 (wlt hN hk_a_6 (by decide)) (by decide) rfl rfl (Nat.le_of_ble_eq_true rfl) dX11_worth_34 (cl' := 0) (sl' := 0) rfl rfl (fun u_8 => ?_)
          refine wG_aload_n C dX11_worth_37 3 rfl ?_
          refine wG_aload_n C dX11_worth_38 0 rfl ?_
          refine wG_getR C fl_X11_19_11 rfl kd_0 (wll hN (by decide)) (rf_0_1 q) dX11_worth_39 ?_
          refine wG_cV_ri [.ref (xB X + 3)] [.int u_8, .int x1_3] C vw_X11_163 (c_X7_isEnd (xl X) (xE X) N q hN h a_6 hk_a_6) hk_a_6 (wlt hN hk_a_6 (by decide)) (by decide) rfl rfl (Nat.le_of_ble_eq_true rfl) dX11_worth_42 (cl' := 0) (sl' := 0) rfl rfl (fun u_9 => ?_)
          refine wG_bind (J := (fun (t_10 : Int32) Q => gQ X 4 Q N h (rq q) 0 0 59 [(0, .ref (xB X + 0)), (2, .int x2_4)] [.int t_10, .int u_8, .int x1_3])) ?_ (fun t_10 => (?_ : wG X 4 _ _ N h (rq q) 0 0 59 [(0, .ref (xB X + 0)), (2, .int x2_4)] [.int t_10, .int u_8, .int x1_3]))
          · refine wG_if_eq C dX11_worth_45 ?_ ?_
            · refine wG_aload_n C dX11_worth_55 0 rfl ?_
              refine wG_getI C fl_X11_73_11 rfl kd_0 (wll hN (by decide)) dX11_worth_56 ?_
              exact wG_exit (fun Q e => gQ_lv [0, 2] rfl e)
            · refine wG_aload_n C dX11_worth_48 0 rfl ?_
              refine wG_getI C fl_X11_77_11 rfl kd_0 (wll hN (by decide)) dX11_worth_49 ?_
              refine wG_goto C dX11_worth_52 ?_
              exact wG_exit (fun Q e => gQ_lv [0, 2] rfl e)
          · refine wG_imul C dX11_worth_59 ?_
            refine wG_iadd C dX11_worth_60 ?_
            refine wG_nmI (fun x1_11 => ?_)
            refine wG_istore_n C (L' := [(0, .ref (xB X + 0)), (1, .int x1_11), (2, .int x2_4)]) dX11_worth_61 (by decide) [1, 0, 2] rfl ?_
            exact wG_exit (fun Q e => gQ_lv [0, 1, 2] rfl e)
        · exact wG_exit (fun Q e => gQ_lv [0, 1, 2] rfl e)
      · refine wG_iinc C (v := 1) (LL := fun x2_12 => [(0, .ref (xB X + 0)), (1, .int t_7), (2, .int x2_12)]) dX11_worth_62 2 rfl (by decide) (by decide) [1, 2, 0] (fun _ => rfl) (fun x2_12 => ?_)
        refine wG_goto C dX11_worth_65 ?_
        exact wG_lv [0, 1, 2] rfl (ih t_7 x2_12)
set_option maxRecDepth 4000 in
theorem w_X11_worth {X : wX} (C : Cx X yX11_worth cX11_worth 4 (some .int) rm_X11_worth) {N : Nat} {q : Qp} (hN : 137 ≤ N) (h : Hp) : wG X 4 (eM X (fun u => (some (.int u), N, h, (rq q)))) (f_X11_worth h) N h (rq q) 0 0 0 [(0, .ref (xB X + 0))] [] := by
  refine wG_of (f_X11_worth.eq_1 ..) ?_
  refine wG_iconst C dX11_worth_0 (v := 0) (by decide) ?_
  refine wG_nmI (fun x1_1 => ?_)
  refine wG_istore_n C (L' := [(0, .ref (xB X + 0)), (1, .int x1_1)]) dX11_worth_1 (by decide) [1, 0] rfl ?_
  refine wG_iconst C dX11_worth_2 (v := 0) (by decide) ?_
  refine wG_nmI (fun x2_2 => ?_)
  refine wG_istore_n C (L' := [(0, .ref (xB X + 0)), (1, .int x1_1), (2, .int x2_2)]) dX11_worth_3 (by decide) [1, 2, 0] rfl ?_
  refine wG_lv (L' := [(0, .ref (xB X + 0)), (1, .int x1_1), (2, .int x2_2)]) [0, 1, 2] rfl ?_
  refine wG_bind (wL_X11_worth_4 C hN h x1_1 x2_2 FU x1_1 x2_2) (fun t_5 => (?_ : wG X 4 _ _ N h (rq q) 0 0 68 [(1, .int t_5)] []))
  refine wG_iload_n C dX11_worth_68 0 rfl ?_
  exact wG_iret C dX11_worth_69 ⟨by decide, by decide⟩ (fun _ e => e)
theorem c_X11_worth (l : Launch) (E : wE) (N : Nat) (q : Qp) (hN : 137 ≤ N) (h : Hp) : ∀ z, f_X11_worth h = some z → CT l E yX11_worth cX11_worth 4 (some .int) rm_X11_worth [.ref (eB E + 0)] N h (rq q) ((fun u => (some (.int u), N, h, (rq q))) z) := CT.of (by decide +kernel) (Nat.le_of_ble_eq_true rfl) (fun X _ e C => by subst e; exact w_X11_worth C hN h)
def rm_X1_become : Room := { frames := 1, cells := 0, slots := 0, locals := 21 }
def L_X1_become_18 (a0 : Nat) (a1 : Nat) : Nat → Int32 → Hp → Option Hp
  | 0, _, _ => none
  | n + 1, x2_4, h_5 =>
    (if (h_5 a0 3) ≤ x2_4 then
    some h_5
    else
    if inB x2_4 24 then vB ((a0 + 3) + ix x2_4) fun a_7 =>
    if inB x2_4 24 then vB ((a1 + 3) + ix x2_4) fun a_8 =>
    (f_X7_become h_5 a_7 a_8).bind fun u_9 =>
    vB (x2_4 + 1) fun (x2_10 : Int32) =>
    L_X1_become_18 a0 a1 n x2_10 u_9 else none else none)
def f_X1_become (h : Hp) (a0 : Nat) (a1 : Nat) : Option Hp :=
  vB (u2 h a0 3 (h a1 3)) fun h_1 =>
  vB (u2 h_1 a0 4 (h_1 a1 4)) fun h_2 =>
  vB 0 fun (x2_3 : Int32) =>
  (L_X1_become_18 a0 a1 FU x2_3 h_2).bind fun t_6 =>
  some t_6
set_option maxRecDepth 4000 in
theorem wL_X1_become_18 {X : wX} (C : Cx X yX1_become cX1_become 3 none rm_X1_become) {N : Nat} {q : Qp} (hN : 137 ≤ N) (h : Hp) (a0 : Nat) (hk_a0 : Kd a0 = 1) (a1 : Nat) (hk_a1 : Kd a1 = 1) (h_1 : Hp) (h_2 : Hp) (x2_3 : Int32) : ∀ n x2_4 h_5, wG X 3 (fun (t_6 : Hp) Q => gQ X 3 Q N t_6 (rq q) 0 0 47 [] []) (L_X1_become_18 a0 a1 n x2_4 h_5) N h_5 (rq q) 0 0 18 [(0, .ref (xB X + a0)), (1, .ref (xB X + a1)), (2, .int x2_4)] [] := by
  intro n
  induction n with
  | zero => intro _ _; exact wG_none
  | succ n ih =>
    intro x2_4 h_5
    refine wG_of (L_X1_become_18.eq_2 ..) ?_
    refine wG_iload_n C dX1_become_18 2 rfl ?_
    refine wG_aload_n C dX1_become_19 0 rfl ?_
    refine wG_getI C fl_X1_33_1 rfl hk_a0 (wlt hN hk_a0 (by decide)) dX1_become_20 ?_
    refine wG_icmp_ge C dX1_become_23 ?_ ?_
    · exact wG_exit (fun Q e => gQ_lv [] rfl e)
    · refine wG_aload_n C dX1_become_26 0 rfl ?_
      refine wG_getR C fl_X1_11_1 rfl hk_a0 (wlt hN hk_a0 (by decide)) (rb1 q hk_a0) dX1_become_27 ?_
      refine wG_iload_n C dX1_become_30 2 rfl ?_
      refine wG_aaP C hN hk_a0 rfl rfl dX1_become_31 (fun a_7 hk_a_7 => ?_)
      refine wG_aload_n C dX1_become_32 1 rfl ?_
      refine wG_getR C fl_X1_11_1 rfl hk_a1 (wlt hN hk_a1 (by decide)) (rb1 q hk_a1) dX1_become_33 ?_
      refine wG_iload_n C dX1_become_36 2 rfl ?_
      refine wG_aaP C hN hk_a1 rfl rfl dX1_become_37 (fun a_8 hk_a_8 => ?_)
      refine wG_cV_wv [.ref (xB X + a_8)] [] C vw_X1_40 (c_X7_become (xl X) (xE X) N q hN h_5 a_7 a_8 hk_a_7 hk_a_8) hk_a_7 (wlt hN hk_a_7 (by decide)) (by decide) rfl rfl (Nat.le_of_ble_eq_true rfl) dX1_become_38 (cl' := 0) (sl' := 0) rfl rfl (fun u_9 => ?_)
      refine wG_iinc C (v := 1) (LL := fun x2_10 => [(0, .ref (xB X + a0)), (1, .ref (xB X + a1)), (2, .int x2_10)]) dX1_become_41 2 rfl (by decide) (by decide) [1, 2, 0] (fun _ => rfl) (fun x2_10 => ?_)
      refine wG_goto C dX1_become_44 ?_
      exact wG_lv [0, 1, 2] rfl (ih x2_10 u_9)
set_option maxRecDepth 4000 in
theorem w_X1_become {X : wX} (C : Cx X yX1_become cX1_become 3 none rm_X1_become) {N : Nat} {q : Qp} (hN : 137 ≤ N) (h : Hp) (a0 : Nat) (hk_a0 : Kd a0 = 1) (a1 : Nat) (hk_a1 : Kd a1 = 1) : wG X 3 (eM X (fun u => (none, N, u, (rq q)))) (f_X1_become h a0 a1) N h (rq q) 0 0 0 [(0, .ref (xB X + a0)), (1, .ref (xB X + a1))] [] := by
  refine wG_of (f_X1_become.eq_1 ..) ?_
  refine wG_aload_n C dX1_become_0 0 rfl ?_
  refine wG_aload_n C dX1_become_1 1 rfl ?_
  refine wG_getI C fl_X1_33_1 rfl hk_a1 (wlt hN hk_a1 (by decide)) dX1_become_2 ?_
  refine wG_putI C fl_X1_33_1 (fp_1_3 _) (fun e => Bool.noConfusion e) rfl hk_a0 (wlt hN hk_a0 (by decide)) dX1_become_5 (fun h_1 => ?_)
  refine wG_aload_n C dX1_become_8 0 rfl ?_
  refine wG_aload_n C dX1_become_9 1 rfl ?_
  refine wG_getI C fl_X1_37_1 rfl hk_a1 (wlt hN hk_a1 (by decide)) dX1_become_10 ?_
  refine wG_putI C fl_X1_37_1 (fp_1_4 _) (fun e => Bool.noConfusion e) rfl hk_a0 (wlt hN hk_a0 (by decide)) dX1_become_13 (fun h_2 => ?_)
  refine wG_iconst C dX1_become_16 (v := 0) (by decide) ?_
  refine wG_nmI (fun x2_3 => ?_)
  refine wG_istore_n C (L' := [(0, .ref (xB X + a0)), (1, .ref (xB X + a1)), (2, .int x2_3)]) dX1_become_17 (by decide) [1, 2, 0] rfl ?_
  refine wG_lv (L' := [(0, .ref (xB X + a0)), (1, .ref (xB X + a1)), (2, .int x2_3)]) [0, 1, 2] rfl ?_
  refine wG_bind (wL_X1_become_18 C hN h a0 hk_a0 a1 hk_a1 h_1 h_2 x2_3 FU x2_3 h_2) (fun t_6 => (?_ : wG X 3 _ _ N t_6 (rq q) 0 0 47 [] []))
  exact wG_vret C dX1_become_47 ⟨by decide, by decide⟩ (fun _ e => e)
theorem c_X1_become (l : Launch) (E : wE) (N : Nat) (q : Qp) (hN : 137 ≤ N) (h : Hp) (a0 : Nat) (a1 : Nat) (hk_a0 : Kd a0 = 1) (hk_a1 : Kd a1 = 1) : ∀ z, f_X1_become h a0 a1 = some z → CT l E yX1_become cX1_become 3 none rm_X1_become [.ref (eB E + a0), .ref (eB E + a1)] N h (rq q) ((fun u => (none, N, u, (rq q))) z) := CT.of (by decide +kernel) (Nat.le_of_ble_eq_true rfl) (fun X _ e C => by subst e; exact w_X1_become C hN h a0 hk_a0 a1 hk_a1)
def rm_X1_standing : Room := { frames := 0, cells := 0, slots := 0, locals := 0 }
def L_X1_standing_4 (h : Hp) : Nat → Int32 → Int32 → Option Int32
  | 0, _, _ => none
  | n + 1, x1_3, x2_4 =>
    (if (h 7 3) ≤ x2_4 then
    some x1_3
    else
    if inB x2_4 24 then vB (10 + ix x2_4) fun a_6 =>
    ((if (h a_6 6) = 0 then
    some 1
    else
    some 0)).bind fun t_7 =>
    vB (x1_3 + t_7) fun (x1_8 : Int32) =>
    vB (x2_4 + 1) fun (x2_9 : Int32) =>
    L_X1_standing_4 h n x1_8 x2_9 else none)
def f_X1_standing (h : Hp) : Option Int32 :=
  vB 0 fun (x1_1 : Int32) =>
  vB 0 fun (x2_2 : Int32) =>
  (L_X1_standing_4 h FU x1_1 x2_2).bind fun t_5 =>
  some t_5
set_option maxRecDepth 4000 in
theorem wL_X1_standing_4 {X : wX} (C : Cx X yX1_standing cX1_standing 3 (some .int) rm_X1_standing) {N : Nat} {q : Qp} (hN : 137 ≤ N) (h : Hp) (x1_1 : Int32) (x2_2 : Int32) : ∀ n x1_3 x2_4, wG X 3 (fun (t_5 : Int32) Q => gQ X 3 Q N h (rq q) 0 0 38 [(1, .int t_5)] []) (L_X1_standing_4 h n x1_3 x2_4) N h (rq q) 0 0 4 [(0, .ref (xB X + 7)), (1, .int x1_3), (2, .int x2_4)] [] := by
  intro n
  induction n with
  | zero => intro _ _; exact wG_none
  | succ n ih =>
    intro x1_3 x2_4
    refine wG_of (L_X1_standing_4.eq_2 ..) ?_
    refine wG_iload_n C dX1_standing_4 2 rfl ?_
    refine wG_aload_n C dX1_standing_5 0 rfl ?_
    refine wG_getI C fl_X1_33_1 rfl kd_7 (wll hN (by decide)) dX1_standing_6 ?_
    refine wG_icmp_ge C dX1_standing_9 ?_ ?_
    · exact wG_exit (fun Q e => gQ_lv [1] rfl e)
    · refine wG_iload_n C dX1_standing_12 1 rfl ?_
      refine wG_aload_n C dX1_standing_13 0 rfl ?_
      refine wG_getR C fl_X1_11_1 rfl kd_7 (wll hN (by decide)) (rf_7_1 q) dX1_standing_14 ?_
      refine wG_iload_n C dX1_standing_17 2 rfl ?_
      refine wG_aaP C hN kd_7 rfl rfl dX1_standing_18 (fun a_6 hk_a_6 => ?_)
      refine wG_getI C fl_X1_48_7 rfl hk_a_6 (wlt hN hk_a_6 (by decide)) dX1_standing_19 ?_
      refine wG_bind (J := (fun (t_7 : Int32) Q => gQ X 3 Q N h (rq q) 0 0 30 [(0, .ref (xB X + 7)), (2, .int x2_4)] [.int t_7, .int x1_3])) ?_ (fun t_7 => (?_ : wG X 3 _ _ N h (rq q) 0 0 30 [(0, .ref (xB X + 7)), (2, .int x2_4)] [.int t_7, .int x1_3]))
      · refine wG_if_ne C dX1_standing_22 ?_ ?_
        · refine wG_iconst C dX1_standing_25 (v := 1) (by decide) ?_
          refine wG_goto C dX1_standing_26 ?_
          exact wG_exit (fun Q e => gQ_lv [0, 2] rfl e)
        · refine wG_iconst C dX1_standing_29 (v := 0) (by decide) ?_
          exact wG_exit (fun Q e => gQ_lv [0, 2] rfl e)
      · refine wG_iadd C dX1_standing_30 ?_
        refine wG_nmI (fun x1_8 => ?_)
        refine wG_istore_n C (L' := [(0, .ref (xB X + 7)), (1, .int x1_8), (2, .int x2_4)]) dX1_standing_31 (by decide) [1, 0, 2] rfl ?_
        refine wG_iinc C (v := 1) (LL := fun x2_9 => [(0, .ref (xB X + 7)), (1, .int x1_8), (2, .int x2_9)]) dX1_standing_32 2 rfl (by decide) (by decide) [1, 2, 0] (fun _ => rfl) (fun x2_9 => ?_)
        refine wG_goto C dX1_standing_35 ?_
        exact wG_lv [0, 1, 2] rfl (ih x1_8 x2_9)
set_option maxRecDepth 4000 in
theorem w_X1_standing {X : wX} (C : Cx X yX1_standing cX1_standing 3 (some .int) rm_X1_standing) {N : Nat} {q : Qp} (hN : 137 ≤ N) (h : Hp) : wG X 3 (eM X (fun u => (some (.int u), N, h, (rq q)))) (f_X1_standing h) N h (rq q) 0 0 0 [(0, .ref (xB X + 7))] [] := by
  refine wG_of (f_X1_standing.eq_1 ..) ?_
  refine wG_iconst C dX1_standing_0 (v := 0) (by decide) ?_
  refine wG_nmI (fun x1_1 => ?_)
  refine wG_istore_n C (L' := [(0, .ref (xB X + 7)), (1, .int x1_1)]) dX1_standing_1 (by decide) [1, 0] rfl ?_
  refine wG_iconst C dX1_standing_2 (v := 0) (by decide) ?_
  refine wG_nmI (fun x2_2 => ?_)
  refine wG_istore_n C (L' := [(0, .ref (xB X + 7)), (1, .int x1_1), (2, .int x2_2)]) dX1_standing_3 (by decide) [1, 2, 0] rfl ?_
  refine wG_lv (L' := [(0, .ref (xB X + 7)), (1, .int x1_1), (2, .int x2_2)]) [0, 1, 2] rfl ?_
  refine wG_bind (wL_X1_standing_4 C hN h x1_1 x2_2 FU x1_1 x2_2) (fun t_5 => (?_ : wG X 3 _ _ N h (rq q) 0 0 38 [(1, .int t_5)] []))
  refine wG_iload_n C dX1_standing_38 0 rfl ?_
  exact wG_iret C dX1_standing_39 ⟨by decide, by decide⟩ (fun _ e => e)
theorem c_X1_standing (l : Launch) (E : wE) (N : Nat) (q : Qp) (hN : 137 ≤ N) (h : Hp) : ∀ z, f_X1_standing h = some z → CT l E yX1_standing cX1_standing 3 (some .int) rm_X1_standing [.ref (eB E + 7)] N h (rq q) ((fun u => (some (.int u), N, h, (rq q))) z) := CT.of (by decide +kernel) (Nat.le_of_ble_eq_true rfl) (fun X _ e C => by subst e; exact w_X1_standing C hN h)
def rm_X11_keep : Room := { frames := 2, cells := 0, slots := 0, locals := 43 }
def f_X11_keep (h : Hp) (x1 : Int32) : Option (Int32 × Hp) :=
  (if x1 < 0 then
  some ((-1), h)
  else
  (if x1 < 2 then
  if inB x1 2 then vB (57 + 27 * ix x1) fun a_1 =>
  (f_X1_become h a_1 7).bind fun u_2 =>
  if inB x1 2 then vB (57 + 27 * ix x1) fun a_3 =>
  vB (u2 u_2 a_3 5 1) fun h_4 =>
  (f_X1_standing h_4).bind fun u_5 =>
  some (u_5, h_4) else none else none
  else
  some ((-1), h)))
set_option maxRecDepth 4000 in
theorem w_X11_keep {X : wX} (C : Cx X yX11_keep cX11_keep 2 (some .int) rm_X11_keep) {N : Nat} {q : Qp} (hN : 137 ≤ N) (h : Hp) (x1 : Int32) : wG X 2 (eM X (fun u => (some (.int u.1), N, u.2, (rq q)))) (f_X11_keep h x1) N h (rq q) 0 0 0 [(0, .ref (xB X + 0)), (1, .int x1)] [] := by
  refine wG_of (f_X11_keep.eq_1 ..) ?_
  refine wG_iload_n C dX11_keep_0 1 rfl ?_
  refine wG_if_lt C dX11_keep_1 ?_ ?_
  · refine wG_iconst C dX11_keep_9 (v := (-1)) (by decide) ?_
    exact wG_iret C dX11_keep_10 ⟨by decide, by decide⟩ (fun _ e => e)
  · refine wG_iload_n C dX11_keep_4 1 rfl ?_
    refine wG_iconst C dX11_keep_5 (v := 2) (by decide) ?_
    refine wG_icmp_lt C dX11_keep_6 ?_ ?_
    · refine wG_aload_n C dX11_keep_11 0 rfl ?_
      refine wG_getR C fl_X11_32_11 rfl kd_0 (wll hN (by decide)) (rf_0_3 q) dX11_keep_12 ?_
      refine wG_iload_n C dX11_keep_15 1 rfl ?_
      refine wG_aaS C hN dX11_keep_16 (fun a_1 hk_a_1 => ?_)
      refine wG_aload_n C dX11_keep_17 0 rfl ?_
      refine wG_getR C fl_X11_28_11 rfl kd_0 (wll hN (by decide)) (rf_0_2 q) dX11_keep_18 ?_
      refine wG_cV_wv [.ref (xB X + 7)] [] C vw_X11_305 (c_X1_become (xl X) (xE X) N q hN h a_1 7 hk_a_1 kd_7) hk_a_1 (wlt hN hk_a_1 (by decide)) (by decide) rfl rfl (Nat.le_of_ble_eq_true rfl) dX11_keep_21 (cl' := 0) (sl' := 0) rfl rfl (fun u_2 => ?_)
      refine wG_aload_n C dX11_keep_24 0 rfl ?_
      refine wG_getR C fl_X11_32_11 rfl kd_0 (wll hN (by decide)) (rf_0_3 q) dX11_keep_25 ?_
      refine wG_iload_n C dX11_keep_28 1 rfl ?_
      refine wG_aaS C hN dX11_keep_29 (fun a_3 hk_a_3 => ?_)
      refine wG_iconst C dX11_keep_30 (v := 1) (by decide) ?_
      refine wG_putZ C fl_X11_98_1 (fp_1_5 _) (fun e => Bool.noConfusion e) rfl hk_a_3 (wlt hN hk_a_3 (by decide)) rfl rfl dX11_keep_31 (fun h_4 => ?_)
      refine wG_aload_n C dX11_keep_34 0 rfl ?_
      refine wG_getR C fl_X11_28_11 rfl kd_0 (wll hN (by decide)) (rf_0_2 q) dX11_keep_35 ?_
      refine wG_cV_ri [] [] C vw_X11_309 (c_X1_standing (xl X) (xE X) N q hN h_4) kd_7 (wll hN (by decide)) (by decide) rfl rfl (Nat.le_of_ble_eq_true rfl) dX11_keep_38 (cl' := 0) (sl' := 0) rfl rfl (fun u_5 => ?_)
      exact wG_iret C dX11_keep_41 ⟨by decide, by decide⟩ (fun _ e => e)
    · refine wG_iconst C dX11_keep_9 (v := (-1)) (by decide) ?_
      exact wG_iret C dX11_keep_10 ⟨by decide, by decide⟩ (fun _ e => e)
theorem c_X11_keep (l : Launch) (E : wE) (N : Nat) (q : Qp) (hN : 137 ≤ N) (h : Hp) (x1 : Int32) : ∀ z, f_X11_keep h x1 = some z → CT l E yX11_keep cX11_keep 2 (some .int) rm_X11_keep [.ref (eB E + 0), .int x1] N h (rq q) ((fun u => (some (.int u.1), N, u.2, (rq q))) z) := CT.of (by decide +kernel) (Nat.le_of_ble_eq_true rfl) (fun X _ e C => by subst e; exact w_X11_keep C hN h x1)
def rm_X11_again : Room := { frames := 2, cells := 0, slots := 0, locals := 43 }
def f_X11_again (h : Hp) (x1 : Int32) : Option (Int32 × Hp) :=
  (if x1 < 0 then
  some ((-1), h)
  else
  (if x1 < 2 then
  if inB x1 2 then vB (57 + 27 * ix x1) fun a_1 =>
  (if (h a_1 5) = 0 then
  some ((-3), h)
  else
  if inB x1 2 then vB (57 + 27 * ix x1) fun a_2 =>
  (f_X1_become h 7 a_2).bind fun u_3 =>
  (f_X1_standing u_3).bind fun u_4 =>
  some (u_4, u_3) else none) else none
  else
  some ((-1), h)))
set_option maxRecDepth 4000 in
theorem w_X11_again {X : wX} (C : Cx X yX11_again cX11_again 2 (some .int) rm_X11_again) {N : Nat} {q : Qp} (hN : 137 ≤ N) (h : Hp) (x1 : Int32) : wG X 2 (eM X (fun u => (some (.int u.1), N, u.2, (rq q)))) (f_X11_again h x1) N h (rq q) 0 0 0 [(0, .ref (xB X + 0)), (1, .int x1)] [] := by
  refine wG_of (f_X11_again.eq_1 ..) ?_
  refine wG_iload_n C dX11_again_0 1 rfl ?_
  refine wG_if_lt C dX11_again_1 ?_ ?_
  · refine wG_iconst C dX11_again_9 (v := (-1)) (by decide) ?_
    exact wG_iret C dX11_again_10 ⟨by decide, by decide⟩ (fun _ e => e)
  · refine wG_iload_n C dX11_again_4 1 rfl ?_
    refine wG_iconst C dX11_again_5 (v := 2) (by decide) ?_
    refine wG_icmp_lt C dX11_again_6 ?_ ?_
    · refine wG_aload_n C dX11_again_11 0 rfl ?_
      refine wG_getR C fl_X11_32_11 rfl kd_0 (wll hN (by decide)) (rf_0_3 q) dX11_again_12 ?_
      refine wG_iload_n C dX11_again_15 1 rfl ?_
      refine wG_aaS C hN dX11_again_16 (fun a_1 hk_a_1 => ?_)
      refine wG_getI C fl_X11_98_1 rfl hk_a_1 (wlt hN hk_a_1 (by decide)) dX11_again_17 ?_
      refine wG_if_ne C dX11_again_20 ?_ ?_
      · refine wG_bipush C dX11_again_23 (v := (-3)) (by decide) ?_
        exact wG_iret C dX11_again_25 ⟨by decide, by decide⟩ (fun _ e => e)
      · refine wG_aload_n C dX11_again_26 0 rfl ?_
        refine wG_getR C fl_X11_28_11 rfl kd_0 (wll hN (by decide)) (rf_0_2 q) dX11_again_27 ?_
        refine wG_aload_n C dX11_again_30 0 rfl ?_
        refine wG_getR C fl_X11_32_11 rfl kd_0 (wll hN (by decide)) (rf_0_3 q) dX11_again_31 ?_
        refine wG_iload_n C dX11_again_34 1 rfl ?_
        refine wG_aaS C hN dX11_again_35 (fun a_2 hk_a_2 => ?_)
        refine wG_cV_wv [.ref (xB X + a_2)] [] C vw_X11_305 (c_X1_become (xl X) (xE X) N q hN h 7 a_2 kd_7 hk_a_2) kd_7 (wll hN (by decide)) (by decide) rfl rfl (Nat.le_of_ble_eq_true rfl) dX11_again_36 (cl' := 0) (sl' := 0) rfl rfl (fun u_3 => ?_)
        refine wG_aload_n C dX11_again_39 0 rfl ?_
        refine wG_getR C fl_X11_28_11 rfl kd_0 (wll hN (by decide)) (rf_0_2 q) dX11_again_40 ?_
        refine wG_cV_ri [] [] C vw_X11_309 (c_X1_standing (xl X) (xE X) N q hN u_3) kd_7 (wll hN (by decide)) (by decide) rfl rfl (Nat.le_of_ble_eq_true rfl) dX11_again_43 (cl' := 0) (sl' := 0) rfl rfl (fun u_4 => ?_)
        exact wG_iret C dX11_again_46 ⟨by decide, by decide⟩ (fun _ e => e)
    · refine wG_iconst C dX11_again_9 (v := (-1)) (by decide) ?_
      exact wG_iret C dX11_again_10 ⟨by decide, by decide⟩ (fun _ e => e)
theorem c_X11_again (l : Launch) (E : wE) (N : Nat) (q : Qp) (hN : 137 ≤ N) (h : Hp) (x1 : Int32) : ∀ z, f_X11_again h x1 = some z → CT l E yX11_again cX11_again 2 (some .int) rm_X11_again [.ref (eB E + 0), .int x1] N h (rq q) ((fun u => (some (.int u.1), N, u.2, (rq q))) z) := CT.of (by decide +kernel) (Nat.le_of_ble_eq_true rfl) (fun X _ e C => by subst e; exact w_X11_again C hN h x1)
def rm_X11_count : Room := { frames := 1, cells := 0, slots := 0, locals := 22 }
def f_X11_count (h : Hp) (x1 : Int32) : Option Int32 :=
  (if x1 = 0 then
  some (h 7 3)
  else
  (if x1 = 1 then
  (f_X1_standing h).bind fun u_1 =>
  some u_1
  else
  (if x1 = 2 then
  some (h 7 4)
  else
  (if x1 = 3 then
  some (h 41 5)
  else
  (if x1 = 4 then
  some (h 47 7)
  else
  (if x1 = 5 then
  some (h 1 1)
  else
  (if x1 = 6 then
  some (h 53 3)
  else
  some (-2))))))))
set_option maxRecDepth 4000 in
theorem w_X11_count {X : wX} (C : Cx X yX11_count cX11_count 2 (some .int) rm_X11_count) {N : Nat} {q : Qp} (hN : 137 ≤ N) (h : Hp) (x1 : Int32) : wG X 2 (eM X (fun u => (some (.int u), N, h, (rq q)))) (f_X11_count h x1) N h (rq q) 0 0 0 [(0, .ref (xB X + 0)), (1, .int x1)] [] := by
  refine wG_of (f_X11_count.eq_1 ..) ?_
  refine wG_iload_n C dX11_count_0 1 rfl ?_
  refine wG_if (fun c0 => ?_) (fun c0 => ?_)
  · refine wG_tsI C (tgt := 44) c0 dX11_count_1 (by decide) (by decide) (43) (by decide) (by decide) ?_
    refine wG_aload_n C dX11_count_44 0 rfl ?_
    refine wG_getR C fl_X11_28_11 rfl kd_0 (wll hN (by decide)) (rf_0_2 q) dX11_count_45 ?_
    refine wG_getI C fl_X11_304_1 rfl kd_7 (wll hN (by decide)) dX11_count_48 ?_
    exact wG_iret C dX11_count_51 ⟨by decide, by decide⟩ (fun _ e => e)
  · refine wG_if (fun c1 => ?_) (fun c1 => ?_)
    · refine wG_tsI C (tgt := 52) c1 dX11_count_1 (by decide) (by decide) (51) (by decide) (by decide) ?_
      refine wG_aload_n C dX11_count_52 0 rfl ?_
      refine wG_getR C fl_X11_28_11 rfl kd_0 (wll hN (by decide)) (rf_0_2 q) dX11_count_53 ?_
      refine wG_cV_ri [] [] C vw_X11_309 (c_X1_standing (xl X) (xE X) N q hN h) kd_7 (wll hN (by decide)) (by decide) rfl rfl (Nat.le_of_ble_eq_true rfl) dX11_count_56 (cl' := 0) (sl' := 0) rfl rfl (fun u_1 => ?_)
      exact wG_iret C dX11_count_59 ⟨by decide, by decide⟩ (fun _ e => e)
    · refine wG_if (fun c2 => ?_) (fun c2 => ?_)
      · refine wG_tsI C (tgt := 60) c2 dX11_count_1 (by decide) (by decide) (59) (by decide) (by decide) ?_
        refine wG_aload_n C dX11_count_60 0 rfl ?_
        refine wG_getR C fl_X11_28_11 rfl kd_0 (wll hN (by decide)) (rf_0_2 q) dX11_count_61 ?_
        refine wG_getI C fl_X11_170_1 rfl kd_7 (wll hN (by decide)) dX11_count_64 ?_
        exact wG_iret C dX11_count_67 ⟨by decide, by decide⟩ (fun _ e => e)
      · refine wG_if (fun c3 => ?_) (fun c3 => ?_)
        · refine wG_tsI C (tgt := 68) c3 dX11_count_1 (by decide) (by decide) (67) (by decide) (by decide) ?_
          refine wG_aload_n C dX11_count_68 0 rfl ?_
          refine wG_getR C fl_X11_48_11 rfl kd_0 (wll hN (by decide)) (rf_0_5 q) dX11_count_69 ?_
          refine wG_getI C fl_X11_219_6 rfl kd_41 (wll hN (by decide)) dX11_count_72 ?_
          exact wG_iret C dX11_count_75 ⟨by decide, by decide⟩ (fun _ e => e)
        · refine wG_if (fun c4 => ?_) (fun c4 => ?_)
          · refine wG_tsI C (tgt := 76) c4 dX11_count_1 (by decide) (by decide) (75) (by decide) (by decide) ?_
            refine wG_aload_n C dX11_count_76 0 rfl ?_
            refine wG_getR C fl_X11_62_11 rfl kd_0 (wll hN (by decide)) (rf_0_7 q) dX11_count_77 ?_
            refine wG_getI C fl_X11_238_5 rfl kd_47 (wll hN (by decide)) dX11_count_80 ?_
            exact wG_iret C dX11_count_83 ⟨by decide, by decide⟩ (fun _ e => e)
          · refine wG_if (fun c5 => ?_) (fun c5 => ?_)
            · refine wG_tsI C (tgt := 84) c5 dX11_count_1 (by decide) (by decide) (83) (by decide) (by decide) ?_
              refine wG_aload_n C dX11_count_84 0 rfl ?_
              refine wG_getR C fl_X11_12_11 rfl kd_0 (wll hN (by decide)) (rf_0_0 q) dX11_count_85 ?_
              refine wG_getI C fl_X11_80_10 rfl kd_1 (wll hN (by decide)) dX11_count_88 ?_
              exact wG_iret C dX11_count_91 ⟨by decide, by decide⟩ (fun _ e => e)
            · refine wG_if (fun c6 => ?_) (fun c6 => ?_)
              · refine wG_tsI C (tgt := 92) c6 dX11_count_1 (by decide) (by decide) (91) (by decide) (by decide) ?_
                refine wG_aload_n C dX11_count_92 0 rfl ?_
                refine wG_getR C fl_X11_69_11 rfl kd_0 (wll hN (by decide)) (rf_0_8 q) dX11_count_93 ?_
                refine wG_getI C fl_X11_274_2 rfl kd_53 (wll hN (by decide)) dX11_count_96 ?_
                exact wG_iret C dX11_count_99 ⟨by decide, by decide⟩ (fun _ e => e)
              · refine wG_tsO C (tgt := 100) (by have e0 := lv_neT (a := 0) c0 rfl; have e1 := lv_neT (a := 1) c1 rfl; have e2 := lv_neT (a := 2) c2 rfl; have e3 := lv_neT (a := 3) c3 rfl; have e4 := lv_neT (a := 4) c4 rfl; have e5 := lv_neT (a := 5) c5 rfl; have e6 := lv_neT (a := 6) c6 rfl; omega) dX11_count_1 (by decide) ?_
                refine wG_bipush C dX11_count_100 (v := (-2)) (by decide) ?_
                exact wG_iret C dX11_count_102 ⟨by decide, by decide⟩ (fun _ e => e)
theorem c_X11_count (l : Launch) (E : wE) (N : Nat) (q : Qp) (hN : 137 ≤ N) (h : Hp) (x1 : Int32) : ∀ z, f_X11_count h x1 = some z → CT l E yX11_count cX11_count 2 (some .int) rm_X11_count [.ref (eB E + 0), .int x1] N h (rq q) ((fun u => (some (.int u), N, h, (rq q))) z) := CT.of (by decide +kernel) (Nat.le_of_ble_eq_true rfl) (fun X _ e C => by subst e; exact w_X11_count C hN h x1)
