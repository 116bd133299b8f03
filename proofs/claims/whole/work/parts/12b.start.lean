theorem nt1 {w : Cond} {i : Nat} (h : tables_1_1[i]? = some w) : w ∈ lw_tbl := List.mem_append_right _ (List.mem_append_left _ (List.mem_of_getElem? h))
theorem nt2 {w : Cond} {i : Nat} (h : tables_1_2[i]? = some w) : w ∈ lw_tbl := List.mem_append_right _ (List.mem_append_right _ (List.mem_append_left _ (List.mem_of_getElem? h)))
theorem nt3 {w : Cond} {i : Nat} (h : tables_1_3[i]? = some w) : w ∈ lw_tbl := List.mem_append_right _ (List.mem_append_right _ (List.mem_append_right _ (List.mem_append_left _ (List.mem_of_getElem? h))))
theorem nt4 {w : Cond} {i : Nat} (h : tables_1_4[i]? = some w) : w ∈ lw_tbl := List.mem_append_right _ (List.mem_append_right _ (List.mem_append_right _ (List.mem_append_right _ (List.mem_append_left _ (List.mem_of_getElem? h)))))
theorem nt5 {w : Cond} {i : Nat} (h : tables_1_5[i]? = some w) : w ∈ lw_tbl := List.mem_append_right _ (List.mem_append_right _ (List.mem_append_right _ (List.mem_append_right _ (List.mem_append_right _ (List.mem_append_left _ (List.mem_of_getElem? h))))))
theorem nt6 {w : Cond} {i : Nat} (h : tables_1_6[i]? = some w) : w ∈ lw_tbl := List.mem_append_right _ (List.mem_append_right _ (List.mem_append_right _ (List.mem_append_right _ (List.mem_append_right _ (List.mem_append_right _ (List.mem_append_left _ (List.mem_of_getElem? h)))))))
theorem nt7 {w : Cond} {i : Nat} (h : tables_1_7[i]? = some w) : w ∈ lw_tbl := List.mem_append_right _ (List.mem_append_right _ (List.mem_append_right _ (List.mem_append_right _ (List.mem_append_right _ (List.mem_append_right _ (List.mem_append_right _ (List.mem_of_getElem? h)))))))
set_option maxRecDepth 100000 in
theorem spM_in : ∀ q ∈ spM, Cond.methodLinkNest q.1 q.2.1 q.2.2.1 q.2.2.2 ∈ lw_tbl := List.forall_mem_cons.mpr ⟨nt1 (i := 25) (Eq.refl _), List.forall_mem_cons.mpr ⟨nt1 (i := 102) (Eq.refl _), List.forall_mem_cons.mpr ⟨nt1 (i := 211) (Eq.refl _), List.forall_mem_cons.mpr ⟨nt2 (i := 91) (Eq.refl _), List.forall_mem_cons.mpr ⟨nt2 (i := 164) (Eq.refl _), List.forall_mem_cons.mpr ⟨nt2 (i := 175) (Eq.refl _), fun _ h => absurd h List.not_mem_nil⟩⟩⟩⟩⟩⟩
set_option maxRecDepth 100000 in
theorem spF_in : ∀ q ∈ spF, Cond.fieldLinkNest q.1 q.2.1 q.2.2.1 q.2.2.2.1 q.2.2.2.2.1 q.2.2.2.2.2 ∈ lw_tbl := List.forall_mem_cons.mpr ⟨nt1 (i := 54) (Eq.refl _), List.forall_mem_cons.mpr ⟨nt3 (i := 37) (Eq.refl _), fun _ h => absurd h List.not_mem_nil⟩⟩
set_option maxRecDepth 100000 in
theorem spD_in : ∀ q ∈ spD, Cond.declares q ∈ lw_tbl := List.forall_mem_cons.mpr ⟨nt3 (i := 208) (Eq.refl _), List.forall_mem_cons.mpr ⟨nt3 (i := 228) (Eq.refl _), List.forall_mem_cons.mpr ⟨nt4 (i := 27) (Eq.refl _), List.forall_mem_cons.mpr ⟨nt4 (i := 47) (Eq.refl _), List.forall_mem_cons.mpr ⟨nt4 (i := 61) (Eq.refl _), fun _ h => absurd h List.not_mem_nil⟩⟩⟩⟩⟩
set_option maxRecDepth 100000 in
theorem ao_0 : Cond.arrayOver (.object RX0) ∈ lw_tbl := nt2 (i := 15) (Eq.refl _)
set_option maxRecDepth 100000 in
theorem ao_1 : Cond.arrayOver (.object RX1) ∈ lw_tbl := nt1 (i := 203) (Eq.refl _)
set_option maxRecDepth 100000 in
theorem ao_7 : Cond.arrayOver (.object RX7) ∈ lw_tbl := nt1 (i := 100) (Eq.refl _)
set_option maxRecDepth 100000 in
theorem ls_P : Cond.laysStatic "WheelAndWire" "PLACE_WEIGHTS" "[I" ∈ lw_tbl := nt1 (i := 55) (Eq.refl _)
set_option maxRecDepth 100000 in
theorem ls_D : Cond.laysStatic "WheelAndWire" "DRYING" "[I" ∈ lw_tbl := nt3 (i := 38) (Eq.refl _)
/-- the classes and array classes of the launch, and the static tables -/
theorem law_E {args : Array Value} {s : State} (hts : ∀ w ∈ lw_tbl, w.before args s = true) (hgv : (Jvm.Cond.and given_1 narrow_1).before args s = true) : ∃ E : wE, eB E = s.heap.size ∧ va_K (eD E) cls (tys E) s ∧ Sp s ∧ Sta E s s.heap := by
  have htB : ∀ w ∈ BIG, w.before args s = true := fun w h => hts w (List.mem_filter.mp h).1
  have hc : ∀ k : Nat, ∃ p : ClassId × (Nat → Nat), ∀ q : vw_C, cls[k]? = some q → u_Kn s q.1 q.2.1 q.2.2 p.1 p.2 := by
    intro k
    match k with
    | 0 => obtain ⟨c, i, h⟩ := u_known (C := RX0) (T := TX0) (N := 3) (n := 3) htB iX0 (htB _ m_584); exact ⟨(c, i), fun q hq => by cases hq; exact h⟩
    | 1 => obtain ⟨c, i, h⟩ := u_known (C := RX1) (T := TX1) (N := 6) (n := 6) htB iX1 (htB _ m_133); exact ⟨(c, i), fun q hq => by cases hq; exact h⟩
    | 2 => obtain ⟨c, i, h⟩ := u_known (C := RX2) (T := TX2) (N := 4) (n := 4) htB iX2 (htB _ m_369); exact ⟨(c, i), fun q hq => by cases hq; exact h⟩
    | 3 => obtain ⟨c, i, h⟩ := u_known (C := RX3) (T := TX3) (N := 5) (n := 5) htB iX3 (htB _ m_324); exact ⟨(c, i), fun q hq => by cases hq; exact h⟩
    | 4 => obtain ⟨c, i, h⟩ := u_known (C := RX4) (T := TX4) (N := 7) (n := 7) htB iX4 (htB _ m_80); exact ⟨(c, i), fun q hq => by cases hq; exact h⟩
    | 5 => obtain ⟨c, i, h⟩ := u_known (C := RX5) (T := TX5) (N := 9) (n := 9) htB iX5 (htB _ m_340); exact ⟨(c, i), fun q hq => by cases hq; exact h⟩
    | 6 => obtain ⟨c, i, h⟩ := u_known (C := RX6) (T := TX6) (N := 7) (n := 7) htB iX6 (htB _ m_282); exact ⟨(c, i), fun q hq => by cases hq; exact h⟩
    | 7 => obtain ⟨c, i, h⟩ := u_known (C := RX7) (T := TX7) (N := 13) (n := 13) htB iX7 (htB _ m_140); exact ⟨(c, i), fun q hq => by cases hq; exact h⟩
    | 8 => obtain ⟨c, i, h⟩ := u_known (C := RX12) (T := TX12) (N := 47) (n := 47) htB iX12 (htB _ m_998); exact ⟨(c, i), fun q hq => by cases hq; exact h⟩
    | 9 => obtain ⟨c, i, h⟩ := u_known (C := RX9) (T := TX9) (N := 9) (n := 9) htB iX9 (htB _ m_244); exact ⟨(c, i), fun q hq => by cases hq; exact h⟩
    | 10 => obtain ⟨c, i, h⟩ := u_known (C := RX10) (T := TX10) (N := 2) (n := 2) htB iX10 (htB _ m_63); exact ⟨(c, i), fun q hq => by cases hq; exact h⟩
    | 11 => obtain ⟨c, i, h⟩ := u_known (C := RX11) (T := TX11) (N := 11) (n := 11) htB iX11 (htB _ m_55); exact ⟨(c, i), fun q hq => by cases hq; exact h⟩
    | k + 12 => exact ⟨(0, fun _ => 0), fun q hq => by simp [cls] at hq⟩
  obtain ⟨cI, kI, coI, i1, i2, i3⟩ := Cond.arrayClass_spec (htB _ m_78)
  obtain ⟨cZ, kZ, coZ, z1, z2, z3⟩ := Cond.arrayClass_spec (htB _ m_1145)
  obtain ⟨pA, cA, kA, a1, a2, a3, a4, a5⟩ := Cond.arrayOver_spec (hts _ ao_0)
  obtain ⟨pB, cB, kB, b1, b2, b3, b4, b5⟩ := Cond.arrayOver_spec (hts _ ao_1)
  obtain ⟨pP, cP, kP, p1, p2, p3, p4, p5⟩ := Cond.arrayOver_spec (hts _ ao_7)
  have hs := flat_of_before _ hgv
  have hA : ∀ a : Nat, a < s.heap.size → ¬ (s.heap.size ≤ a) := fun a h => Nat.not_le.mpr h
  obtain ⟨tP, eP1, hTP⟩ := va_Tof (args := args) (tm := .static "WheelAndWire" "PLACE_WEIGHTS" "[I") (ty := .int) (N := 3) (f := fun j => .int (pwT j)) (A := fun q => s.heap.size ≤ q) (by decide) (hs _ (by decide +kernel)) (va_eqt (hs (Cond.eq (.length (.static "WheelAndWire" "PLACE_WEIGHTS" "[I")) (.int 3)) (by decide +kernel)))
    (fun j hj => by
      match j, hj with
      | 0, _ => exact va_eqt (hs (Cond.eq (.elem (.static "WheelAndWire" "PLACE_WEIGHTS" "[I") (.int 0)) (.int 10)) (by decide +kernel))
      | 1, _ => exact va_eqt (hs (Cond.eq (.elem (.static "WheelAndWire" "PLACE_WEIGHTS" "[I") (.int 1)) (.int 8)) (by decide +kernel))
      | 2, _ => exact va_eqt (hs (Cond.eq (.elem (.static "WheelAndWire" "PLACE_WEIGHTS" "[I") (.int 2)) (.int 0)) (by decide +kernel))) hA
  obtain ⟨tD, eD1, hTD⟩ := va_Tof (args := args) (tm := .static "WheelAndWire" "DRYING" "[I") (ty := .int) (N := 3) (f := fun j => .int (drT j)) (A := fun q => s.heap.size ≤ q) (by decide) (hs _ (by decide +kernel)) (va_eqt (hs (Cond.eq (.length (.static "WheelAndWire" "DRYING" "[I")) (.int 3)) (by decide +kernel)))
    (fun j hj => by
      match j, hj with
      | 0, _ => exact va_eqt (hs (Cond.eq (.elem (.static "WheelAndWire" "DRYING" "[I") (.int 0)) (.int 10)) (by decide +kernel))
      | 1, _ => exact va_eqt (hs (Cond.eq (.elem (.static "WheelAndWire" "DRYING" "[I") (.int 1)) (.int 5)) (by decide +kernel))
      | 2, _ => exact va_eqt (hs (Cond.eq (.elem (.static "WheelAndWire" "DRYING" "[I") (.int 2)) (.int 2)) (by decide +kernel))) hA
  have hini := htB _ m_40
  refine ⟨((fun k => (Classical.choose (hc k)).1, fun k => (Classical.choose (hc k)).2), fun k => if k = 12 then cI else if k = 13 then cZ else if k = 14 then cA else if k = 15 then cB else cP, s.heap.size, tP, tD), rfl, ⟨fun c q hq => Classical.choose_spec (hc c) q hq, fun k q hq => ?_⟩, ⟨fun q hq => va_Nw.of rfl (hts _ (spM_in q hq)), fun q hq => va_Nw.of rfl (hts _ (spF_in q hq)), fun q hq => va_Nw.of rfl (hts _ (spD_in q hq)), va_AO.of (hts _ ao_0), va_AO.of (hts _ ao_1), va_AO.of (hts _ ao_7)⟩, va_Zof (hts _ ls_P) hini eP1 hA, va_Zof (hts _ ls_D) hini eD1 hA, hTP, hTD⟩
  match k, hq with
  | 0, hq => cases hq; exact ⟨fun n z => ⟨fun k h => (by cases h), kI, i2, coI, i3⟩, i1⟩
  | 1, hq => cases hq; exact ⟨fun n z => ⟨fun k h => (by cases h), kZ, z2, coZ, z3⟩, z1⟩
  | 2, hq => cases hq; exact ⟨fun n z => ⟨fun k h => (by cases h), kA, a3, pA, a4⟩, kA, pA, a3, a4, a1, a5⟩
  | 3, hq => cases hq; exact ⟨fun n z => ⟨fun k h => (by cases h), kB, b3, pB, b4⟩, kB, pB, b3, b4, b1, b5⟩
  | 4, hq => cases hq; exact ⟨fun n z => ⟨fun k h => (by cases h), kP, p3, pP, p4⟩, kP, pP, p3, p4, p1, p5⟩
  | k + 5, hq => simp [tys] at hq
-- the law's own start: both objects are made
def r0 : Rp := fun _ _ => none
def R_law : Rp := R_X12_init_111 (va_up (R_X11_init_0 (va_up r0 0 (fun _ => none))) 111 (fun _ => none))
def f_start (h : Hp) : Option Hp :=
  vB (va_up h 0 (fun _ => 0)) fun h_1 =>
  (fk_X11_init_0 h_1).bind fun u_2 =>
  vB (va_up u_2 111 (fun _ => 0)) fun h_3 =>
  (fk_X12_init_111 h_3).bind fun u_4 =>
  some u_4
theorem ow_L_7 : oW RL 7 11 := ⟨RX11, TX11, 11, tyX11, rfl, rfl, by decide, iX11, tyX11_ok, m_54, m_55, m_40, by decide +kernel⟩
theorem ow_L_10 : oW RL 10 8 := ⟨RX12, TX12, 47, tyX12, rfl, rfl, by decide, iX12, tyX12_ok, m_997, m_998, m_52, by decide +kernel⟩
theorem iw_L_9 : iW RL 9 yX11_init cX11_init 2 0 := ⟨rfl, m_56, m_57, m_40, m_58, ⟨by decide +kernel, by decide +kernel, by decide +kernel⟩⟩
theorem iw_L_12 : iW RL 12 yX12_init cX12_init 1 0 := ⟨rfl, m_999, m_1000, m_52, m_1001, ⟨by decide +kernel, by decide +kernel, by decide +kernel⟩⟩
set_option maxRecDepth 10000 in
theorem w_start {X : wX} {b : Nat} (C : Cx X x code 4 (some .boolean) room_1) (h : Hp) : wG X 4 (fun (v : Hp) Q => gQ X 4 Q 137 v R_law 137 35306 18 [(0, .ref b), (1, .ref (xB X + 0)), (2, .ref (xB X + 111)), (3, .int 0)] []) (f_start h) 0 h r0 0 0 0 [(0, .ref b)] [] := by
  refine wG_of (f_start.eq_1 ..) ?_
  refine wG_newK C ow_L_7 kd_0 (show nF 11 = 11 from rfl) ⟨by decide, by decide⟩ dL_law_0 (cl' := 1) (sl' := 11) rfl rfl (N' := 1) rfl (fun h_1 => ?_)
  refine wG_dup C dL_law_3 rfl ?_
  refine wG_cI_kv 111 (R_X11_init_0 (va_up r0 0 (fun _ => none))) [] [.ref (xB X + 0)] C iw_L_9 (ck_X11_init_0 (xl X) (xE X) (va_up r0 0 (fun _ => none)) h_1) (by decide) rfl rfl (Nat.le_of_ble_eq_true rfl) dL_law_4 (cl' := 111) (sl' := 9397) rfl rfl (fun u_2 => ?_)
  refine wG_astore_n C (L' := [(0, .ref b), (1, .ref (xB X + 0))]) dL_law_7 (by decide) [1, 0] rfl ?_
  refine wG_newK C ow_L_10 kd_111 (show nF 8 = 47 from rfl) ⟨by decide, by decide⟩ dL_law_8 (cl' := 112) (sl' := 9444) rfl rfl (N' := 112) rfl (fun h_3 => ?_)
  refine wG_dup C dL_law_11 rfl ?_
  refine wG_cI_kv 137 R_law [] [.ref (xB X + 111)] C iw_L_12 (ck_X12_init_111 (xl X) (xE X) (va_up (R_X11_init_0 (va_up r0 0 (fun _ => none))) 111 (fun _ => none)) h_3) (by decide) rfl rfl (Nat.le_of_ble_eq_true rfl) dL_law_12 (cl' := 137) (sl' := 35306) rfl rfl (fun u_4 => ?_)
  refine wG_astore_n C (L' := [(0, .ref b), (1, .ref (xB X + 0)), (2, .ref (xB X + 111))]) dL_law_15 (by decide) [1, 2, 0] rfl ?_
  refine wG_iconst C dL_law_16 (v := 0) (by decide) ?_
  refine wG_istore_n C (L' := [(0, .ref b), (1, .ref (xB X + 0)), (2, .ref (xB X + 111)), (3, .int 0)]) dL_law_17 (by decide) [1, 2, 3, 0] rfl ?_
  exact wG_exit (fun Q e => e)
set_option maxRecDepth 100000 in
theorem R_law_rq : (List.range 137).all (fun k => (List.range 47).all fun j => decide (R_law k j = rq (fun _ => none) k j)) = true := by decide +kernel
theorem R_law_eq {k j : Nat} (hk : k < 137) (hj : j < 47) : R_law k j = rq (fun _ => none) k j := by
  have h := List.all_eq_true.mp R_law_rq k (List.mem_range.mpr hk)
  exact of_decide_eq_true (List.all_eq_true.mp h j (List.mem_range.mpr hj))
theorem arrV_congr {c : ClassId} {n : Nat} {f g : Nat → Value} (h : ∀ j, j < n → f j = g j) : arrV c n f = arrV c n g := by
  unfold arrV
  congr 2
  funext j
  exact h j.1 j.2
theorem nF_le : ∀ c, c < 12 → nF c ≤ 47 := by decide +kernel
theorem LnR_le : ∀ k, k < 137 → ¬ Kd k < 14 → Ln k ≤ 47 := by decide +kernel
theorem wd_stand {E : wE} {h : Hp} {H : Heap} (w : wd E 137 h R_law H) : wd E 137 h (rq (fun _ => none)) H := by
  refine ⟨w.1, fun k hk => ?_, fun j a q => by cases q⟩
  have q := w.2.1 k hk
  unfold atK at q ⊢
  split
  next hc =>
    rw [if_pos hc] at q
    refine q.to (fun j hj => ?_)
    unfold fv
    rw [R_law_eq hk (Nat.lt_of_lt_of_le hj (nF_le _ hc))]
  next hc =>
    rw [if_neg hc] at q
    split
    next hc2 => rw [if_pos hc2] at q; exact q
    next hc2 =>
      rw [if_neg hc2] at q
      rw [q]
      congr 1
      exact arrV_congr (fun j hj => by rw [R_law_eq hk (Nat.lt_of_lt_of_le hj (LnR_le k hk hc2))])
theorem law_sub {Ls : Nat} (h : Ls ≤ 3072) : (Int32.ofNat Ls - 6).toInt = (Ls : Int) - 6 := by
  have := pk_sub_toInt (a := Ls) (b := 6) (by omega) (by decide)
  exact this
theorem law_lt {Ls k : Nat} (h : Ls ≤ 3072) (hk : 6 * k ≤ 6000) (hl : Ls < 6 * k + 6) : Int32.ofNat Ls - 6 < nI (6 * k) := by
  rw [Int32.lt_iff_toInt_lt, law_sub h, nI_toInt (by omega)]
  omega
theorem law_nlt {Ls k : Nat} (h : Ls ≤ 3072) (hl : 6 * k + 6 ≤ Ls) : ¬ Int32.ofNat Ls - 6 < nI (6 * k) := by
  rw [Int32.lt_iff_toInt_lt, law_sub h, nI_toInt (by omega)]
  omega
theorem gQ_fin {X : wX} {Q : State → Prop} {N k : Nat} {h : Hp} {q : Qp} (C : Cx X x code 4 (some .boolean) room_1) (hQ : ∀ N h q, gQ X 4 Q N h (rq q) 600000 7302250 1457 [] [.int 1]) (hk : k ≤ 512) : gQ X 4 Q N h (rq q) (137 + 2 * k) (35306 + 6 * k) 1456 [] [] := by
  have g : wG X 4 (fun (_ : Unit) Q => gQ X 4 Q N h (rq q) (137 + 2 * k) (35306 + 6 * k) 1457 [] [.int 1]) (some ()) N h (rq q) (137 + 2 * k) (35306 + 6 * k) 1456 [] [] := by
    refine wG_iconst C dL_law_1456 (v := 1) (by decide) ?_
    exact wG_exit (fun Q e => e)
  exact g () rfl Q (gQ_wide (by omega) (by omega) (hQ N h q))
-- the law's loop
theorem law_loop {X : wX} {b Ls : Nat} {sc : Nat → Int32} (C : Cx X x code 4 (some .boolean) room_1) (D : scr X b Ls sc) (hLs : Ls ≤ 3072) {Q : State → Prop} (Inv : Nat → Nat → Hp → Qp → Prop) (h137 : ∀ k N h q, Inv k N h q → 137 ≤ N)
    (hS : ∀ k N h q, Inv k N h q → 6 * k + 6 ≤ Ls → ∃ t, f_step sc Ls (nI (6 * k)) q N h = some t ∧ Inv (k + 1) t.1 t.2.1 t.2.2)
    (hQ : ∀ N h q, gQ X 4 Q N h (rq q) 600000 7302250 1457 [] [.int 1]) :
    ∀ n k N h q, Ls < 6 * k + 6 * n → k ≤ 512 → Inv k N h q → gQ X 4 Q N h (rq q) (137 + 2 * k) (35306 + 6 * k) 18 [(0, .ref b), (1, .ref (xB X + 0)), (2, .ref (xB X + 111)), (3, .int (nI (6 * k)))] [] := by
  intro n
  induction n with
  | zero =>
    intro k N h q hn hk hI
    have hlt : Ls < 6 * k := by omega
    have key : wG X 4 (fun (_ : Unit) Q => gQ X 4 Q N h (rq q) (137 + 2 * k) (35306 + 6 * k) 1456 [] []) (some ()) N h (rq q) (137 + 2 * k) (35306 + 6 * k) 18 [(0, .ref b), (1, .ref (xB X + 0)), (2, .ref (xB X + 111)), (3, .int (nI (6 * k)))] [] := by
      refine wG_iload_n C dL_law_18 3 rfl ?_
      refine wG_aload_n C dL_law_19 0 rfl ?_
      refine wG_slen C D dL_law_20 ?_
      refine wG_bipush C dL_law_21 (v := 6) (by decide) ?_
      refine wG_isub C dL_law_23 ?_
      refine wG_of (k' := if Int32.ofNat Ls - 6 < nI (6 * k) then some () else none) (by rw [if_pos (law_lt hLs (by omega) (by omega))]) ?_
      refine wG_icmp_gt C dL_law_24 ?_ wG_none
      exact wG_exit (fun Q e => gQ_lv [] rfl e)
    exact key () rfl Q (gQ_fin C hQ hk)
  | succ n ih =>
    intro k N h q hn hk hI
    by_cases hlt : Ls < 6 * k + 6
    · have key : wG X 4 (fun (_ : Unit) Q => gQ X 4 Q N h (rq q) (137 + 2 * k) (35306 + 6 * k) 1456 [] []) (some ()) N h (rq q) (137 + 2 * k) (35306 + 6 * k) 18 [(0, .ref b), (1, .ref (xB X + 0)), (2, .ref (xB X + 111)), (3, .int (nI (6 * k)))] [] := by
        refine wG_iload_n C dL_law_18 3 rfl ?_
        refine wG_aload_n C dL_law_19 0 rfl ?_
        refine wG_slen C D dL_law_20 ?_
        refine wG_bipush C dL_law_21 (v := 6) (by decide) ?_
        refine wG_isub C dL_law_23 ?_
        refine wG_of (k' := if Int32.ofNat Ls - 6 < nI (6 * k) then some () else none) (by rw [if_pos (law_lt hLs (by omega) (by omega))]) ?_
        refine wG_icmp_gt C dL_law_24 ?_ wG_none
        exact wG_exit (fun Q e => gQ_lv [] rfl e)
      exact key () rfl Q (gQ_fin C hQ hk)
    · obtain ⟨t, ht, hI'⟩ := hS k N h q hI (by omega)
      have hk' : k + 1 ≤ 512 := by omega
      have key : wG X 4 (fun (t : Nat × Hp × Qp) Q => gQ X 4 Q t.1 t.2.1 (rq t.2.2) (137 + 2 * k + 2) (35306 + 6 * k + 6) 18 [(0, .ref b), (1, .ref (xB X + 0)), (2, .ref (xB X + 111)), (3, .int (nI (6 * k) + 6))] []) (f_step sc Ls (nI (6 * k)) q N h) N h (rq q) (137 + 2 * k) (35306 + 6 * k) 18 [(0, .ref b), (1, .ref (xB X + 0)), (2, .ref (xB X + 111)), (3, .int (nI (6 * k)))] [] := by
        refine wG_iload_n C dL_law_18 3 rfl ?_
        refine wG_aload_n C dL_law_19 0 rfl ?_
        refine wG_slen C D dL_law_20 ?_
        refine wG_bipush C dL_law_21 (v := 6) (by decide) ?_
        refine wG_isub C dL_law_23 ?_
        refine wG_of (k' := if Int32.ofNat Ls - 6 < nI (6 * k) then none else f_step sc Ls (nI (6 * k)) q N h) (by rw [if_neg (law_nlt hLs (by omega))]) ?_
        refine wG_icmp_gt C dL_law_24 wG_none ?_
        intro t ht Q hQ
        refine w_step C D (h137 k N h q hI) (by omega) (by omega) h (nI (6 * k)) t ht Q ?_
        show gQ X 4 Q t.1 t.2.1 (rq t.2.2) (137 + 2 * k + 2) (35306 + 6 * k + 6) 1450 _ []
        have g2 : wG X 4 (fun (_ : Unit) Q => gQ X 4 Q t.1 t.2.1 (rq t.2.2) (137 + 2 * k + 2) (35306 + 6 * k + 6) 18 [(0, .ref b), (1, .ref (xB X + 0)), (2, .ref (xB X + 111)), (3, .int (nI (6 * k) + 6))] []) (some ()) t.1 t.2.1 (rq t.2.2) (137 + 2 * k + 2) (35306 + 6 * k + 6) 1450 [(0, .ref b), (1, .ref (xB X + 0)), (2, .ref (xB X + 111)), (3, .int (nI (6 * k)))] [] := by
          refine wG_iincK C (v := 6) (w := nI (6 * k) + 6) (L' := [(0, .ref b), (1, .ref (xB X + 0)), (2, .ref (xB X + 111)), (3, .int (nI (6 * k) + 6))]) dL_law_1450 3 rfl (by decide) rfl (by decide) [1, 2, 3, 0] rfl ?_
          refine wG_goto C dL_law_1453 ?_
          exact wG_exit (fun Q e => e)
        exact g2 () rfl Q hQ
      refine key t ht Q ?_
      have e := ih (k + 1) t.1 t.2.1 t.2.2 (by omega) hk' hI'
      have e6 : nI (6 * k) + 6 = nI (6 * (k + 1)) := by rw [show (6 : Int32) = nI 6 from rfl, nI_add]; congr 1
      show gQ X 4 Q t.1 t.2.1 (rq t.2.2) (137 + 2 * k + 2) (35306 + 6 * k + 6) 18 [(0, .ref b), (1, .ref (xB X + 0)), (2, .ref (xB X + 111)), (3, .int (nI (6 * k) + 6))] []
      rw [e6, show 137 + 2 * k + 2 = 137 + 2 * (k + 1) by omega, show 35306 + 6 * k + 6 = 35306 + 6 * (k + 1) by omega]
      exact e
