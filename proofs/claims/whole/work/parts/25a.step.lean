/-! a round of the law: each of its calls -/
theorem g_in {k Ls c : Nat} {d : Int32} (hL : 6 * k + 6 ≤ Ls) (h3 : Ls ≤ 3072) (hd : d = nI c) (hc : c < 6) : inB (nI (6 * k) + d) Ls := by
  rw [hd, nI_add]
  exact inB_nI (by omega) (by omega)
theorem t_0 {sc : Nat → Int32} {Ls k N : Nat} {h : Hp} {q : Qp} (H : Inv k N h q) (hL : 6 * k + 6 ≤ Ls) (h3 : Ls ≤ 3072) : ∃ t, fl_0 sc Ls (nI (6 * k)) q N h = some t ∧ Inv (k + 1) t.1 t.2.1 t.2.2 := by
  obtain ⟨a, h1, b, h2, e1, e2, e3, e4⟩ := s_write H (sc (ix (nI (6 * k) + 1))) (((sc (ix (nI (6 * k) + 2))).toInt64 <<< ((32 : Int32).toInt64 &&& 63)) ||| ((sc (ix (nI (6 * k) + 3))).toInt64 &&& 4294967295))
  refine ⟨(N, h2, q), ?_, e4⟩
  simp only [fl_0, if_pos (g_in (c := 1) (d := 1) hL h3 rfl (by omega)), if_pos (g_in (c := 2) (d := 2) hL h3 rfl (by omega)), if_pos (g_in (c := 3) (d := 3) hL h3 rfl (by omega)), e1, e2, Option.bind_some]
  exact if_pos e3
theorem t_1 {sc : Nat → Int32} {Ls k N : Nat} {h : Hp} {q : Qp} (H : Inv k N h q) (hL : 6 * k + 6 ≤ Ls) (h3 : Ls ≤ 3072) : ∃ t, fl_1 sc Ls (nI (6 * k)) q N h = some t ∧ Inv (k + 1) t.1 t.2.1 t.2.2 := by
  obtain ⟨a, h1, b, h2, e1, e2, e3, e4⟩ := s_wipe H 
  refine ⟨(N, h2, q), ?_, e4⟩
  simp only [fl_1, e1, e2, Option.bind_some]
  exact if_pos e3
theorem t_2 {sc : Nat → Int32} {Ls k N : Nat} {h : Hp} {q : Qp} (H : Inv k N h q) (hL : 6 * k + 6 ≤ Ls) (h3 : Ls ≤ 3072) : ∃ t, fl_2 sc Ls (nI (6 * k)) q N h = some t ∧ Inv (k + 1) t.1 t.2.1 t.2.2 := by
  obtain ⟨a, b, h2, e1, e2, e3, e4⟩ := s_fault H 
  refine ⟨(N, h2, q), ?_, e4⟩
  simp only [fl_2, e1, e2, Option.bind_some]
  exact if_pos e3
theorem t_3 {sc : Nat → Int32} {Ls k N : Nat} {h : Hp} {q : Qp} (H : Inv k N h q) (hL : 6 * k + 6 ≤ Ls) (h3 : Ls ≤ 3072) : ∃ t, fl_3 sc Ls (nI (6 * k)) q N h = some t ∧ Inv (k + 1) t.1 t.2.1 t.2.2 := by
  obtain ⟨a, h1, b, h2, e1, e2, e3, e4⟩ := s_form H 
  refine ⟨(N, h2, q), ?_, e4⟩
  simp only [fl_3, e1, e2, Option.bind_some]
  exact if_pos e3
theorem t_4 {sc : Nat → Int32} {Ls k N : Nat} {h : Hp} {q : Qp} (H : Inv k N h q) (hL : 6 * k + 6 ≤ Ls) (h3 : Ls ≤ 3072) : ∃ t, fl_4 sc Ls (nI (6 * k)) q N h = some t ∧ Inv (k + 1) t.1 t.2.1 t.2.2 := by
  obtain ⟨a, b, h2, e1, e2, e3, e4⟩ := s_place H (sc (ix (nI (6 * k) + 1))) (sc (ix (nI (6 * k) + 2)))
  refine ⟨(N, h2, q), ?_, e4⟩
  simp only [fl_4, if_pos (g_in (c := 1) (d := 1) hL h3 rfl (by omega)), if_pos (g_in (c := 2) (d := 2) hL h3 rfl (by omega)), e1, e2, Option.bind_some]
  exact if_pos e3
theorem t_5 {sc : Nat → Int32} {Ls k N : Nat} {h : Hp} {q : Qp} (H : Inv k N h q) (hL : 6 * k + 6 ≤ Ls) (h3 : Ls ≤ 3072) : ∃ t, fl_5 sc Ls (nI (6 * k)) q N h = some t ∧ Inv (k + 1) t.1 t.2.1 t.2.2 := by
  obtain ⟨a, h1, b, h2, e1, e2, e3, e4⟩ := s_cut H (sc (ix (nI (6 * k) + 1))) (if sc (ix (nI (6 * k) + 2)) = 0 then 0 else 1) (sc (ix (nI (6 * k) + 3)))
  refine ⟨(N, h2, q), ?_, e4⟩
  simp only [fl_5, if_pos (g_in (c := 1) (d := 1) hL h3 rfl (by omega)), if_pos (g_in (c := 2) (d := 2) hL h3 rfl (by omega)), if_pos (g_in (c := 3) (d := 3) hL h3 rfl (by omega)), e1, e2, Option.bind_some, ite_some]
  exact if_pos e3
theorem t_6 {sc : Nat → Int32} {Ls k N : Nat} {h : Hp} {q : Qp} (H : Inv k N h q) (hL : 6 * k + 6 ≤ Ls) (h3 : Ls ≤ 3072) : ∃ t, fl_6 sc Ls (nI (6 * k)) q N h = some t ∧ Inv (k + 1) t.1 t.2.1 t.2.2 := by
  obtain ⟨a, b, h2, e1, e2, e3, e4⟩ := s_about H (sc (ix (nI (6 * k) + 1))) (sc (ix (nI (6 * k) + 2)))
  refine ⟨(N, h2, q), ?_, e4⟩
  simp only [fl_6, if_pos (g_in (c := 1) (d := 1) hL h3 rfl (by omega)), if_pos (g_in (c := 2) (d := 2) hL h3 rfl (by omega)), e1, e2, Option.bind_some]
  exact if_pos e3
theorem t_7 {sc : Nat → Int32} {Ls k N : Nat} {h : Hp} {q : Qp} (H : Inv k N h q) (hL : 6 * k + 6 ≤ Ls) (h3 : Ls ≤ 3072) : ∃ t, fl_7 sc Ls (nI (6 * k)) q N h = some t ∧ Inv (k + 1) t.1 t.2.1 t.2.2 := by
  obtain ⟨a, b, h2, e1, e2, e3, e4⟩ := s_weighs H (sc (ix (nI (6 * k) + 1)))
  refine ⟨(N, h2, q), ?_, e4⟩
  simp only [fl_7, if_pos (g_in (c := 1) (d := 1) hL h3 rfl (by omega)), e1, e2, Option.bind_some]
  exact if_pos e3
theorem t_8 {sc : Nat → Int32} {Ls k N : Nat} {h : Hp} {q : Qp} (H : Inv k N h q) (hL : 6 * k + 6 ≤ Ls) (h3 : Ls ≤ 3072) : ∃ t, fl_8 sc Ls (nI (6 * k)) q N h = some t ∧ Inv (k + 1) t.1 t.2.1 t.2.2 := by
  obtain ⟨a, h1, b, h2, e1, e2, e3, e4⟩ := s_pass H (sc (ix (nI (6 * k) + 1)))
  refine ⟨(N, h2, q), ?_, e4⟩
  simp only [fl_8, if_pos (g_in (c := 1) (d := 1) hL h3 rfl (by omega)), e1, e2, Option.bind_some]
  exact if_pos e3
theorem t_9 {sc : Nat → Int32} {Ls k N : Nat} {h : Hp} {q : Qp} (H : Inv k N h q) (hL : 6 * k + 6 ≤ Ls) (h3 : Ls ≤ 3072) : ∃ t, fl_9 sc Ls (nI (6 * k)) q N h = some t ∧ Inv (k + 1) t.1 t.2.1 t.2.2 := by
  obtain ⟨a, h1, b, h2, e1, e2, e3, e4⟩ := s_wrap H (sc (ix (nI (6 * k) + 1))) (sc (ix (nI (6 * k) + 2)))
  refine ⟨(N, h2, q), ?_, e4⟩
  simp only [fl_9, if_pos (g_in (c := 1) (d := 1) hL h3 rfl (by omega)), if_pos (g_in (c := 2) (d := 2) hL h3 rfl (by omega)), e1, e2, Option.bind_some]
  exact if_pos e3
theorem t_10 {sc : Nat → Int32} {Ls k N : Nat} {h : Hp} {q : Qp} (H : Inv k N h q) (hL : 6 * k + 6 ≤ Ls) (h3 : Ls ≤ 3072) : ∃ t, fl_10 sc Ls (nI (6 * k)) q N h = some t ∧ Inv (k + 1) t.1 t.2.1 t.2.2 := by
  obtain ⟨a, h1, b, h2, e1, e2, e3, e4⟩ := s_trim H (sc (ix (nI (6 * k) + 1)))
  refine ⟨(N, h2, q), ?_, e4⟩
  simp only [fl_10, if_pos (g_in (c := 1) (d := 1) hL h3 rfl (by omega)), e1, e2, Option.bind_some]
  exact if_pos e3
theorem t_11 {sc : Nat → Int32} {Ls k N : Nat} {h : Hp} {q : Qp} (H : Inv k N h q) (hL : 6 * k + 6 ≤ Ls) (h3 : Ls ≤ 3072) : ∃ t, fl_11 sc Ls (nI (6 * k)) q N h = some t ∧ Inv (k + 1) t.1 t.2.1 t.2.2 := by
  obtain ⟨a, h1, b, h2, e1, e2, e3, e4⟩ := s_sell H (sc (ix (nI (6 * k) + 1))) (if sc (ix (nI (6 * k) + 2)) = 0 then 0 else 1)
  refine ⟨(N, h2, q), ?_, e4⟩
  simp only [fl_11, if_pos (g_in (c := 1) (d := 1) hL h3 rfl (by omega)), if_pos (g_in (c := 2) (d := 2) hL h3 rfl (by omega)), e1, e2, Option.bind_some, ite_some]
  exact if_pos e3
theorem t_12 {sc : Nat → Int32} {Ls k N : Nat} {h : Hp} {q : Qp} (H : Inv k N h q) (hL : 6 * k + 6 ≤ Ls) (h3 : Ls ≤ 3072) : ∃ t, fl_12 sc Ls (nI (6 * k)) q N h = some t ∧ Inv (k + 1) t.1 t.2.1 t.2.2 := by
  obtain ⟨u, b, h2, e1, e0, e2, e3, e4⟩ := s_serves H (sc (ix (nI (6 * k) + 1))) (sc (ix (nI (6 * k) + 2))) (sc (ix (nI (6 * k) + 3))) (sc (ix (nI (6 * k) + 4)))
  refine ⟨(u.2.1, h2, u.2.2.2), ?_, e4⟩
  simp only [fl_12, if_pos (g_in (c := 1) (d := 1) hL h3 rfl (by omega)), if_pos (g_in (c := 2) (d := 2) hL h3 rfl (by omega)), if_pos (g_in (c := 3) (d := 3) hL h3 rfl (by omega)), if_pos (g_in (c := 4) (d := 4) hL h3 rfl (by omega)), if_pos e0, e1, e2, Option.bind_some]
  exact if_pos e3
theorem t_13 {sc : Nat → Int32} {Ls k N : Nat} {h : Hp} {q : Qp} (H : Inv k N h q) (hL : 6 * k + 6 ≤ Ls) (h3 : Ls ≤ 3072) : ∃ t, fl_13 sc Ls (nI (6 * k)) q N h = some t ∧ Inv (k + 1) t.1 t.2.1 t.2.2 := by
  obtain ⟨u, b, h2, e1, e0, e2, e3, e4⟩ := s_stands H (sc (ix (nI (6 * k) + 1))) (sc (ix (nI (6 * k) + 2))) (sc (ix (nI (6 * k) + 3)))
  refine ⟨(u.2.1, h2, u.2.2.2), ?_, e4⟩
  simp only [fl_13, if_pos (g_in (c := 1) (d := 1) hL h3 rfl (by omega)), if_pos (g_in (c := 2) (d := 2) hL h3 rfl (by omega)), if_pos (g_in (c := 3) (d := 3) hL h3 rfl (by omega)), if_pos e0, e1, e2, Option.bind_some]
  exact if_pos e3
theorem t_14 {sc : Nat → Int32} {Ls k N : Nat} {h : Hp} {q : Qp} (H : Inv k N h q) (hL : 6 * k + 6 ≤ Ls) (h3 : Ls ≤ 3072) : ∃ t, fl_14 sc Ls (nI (6 * k)) q N h = some t ∧ Inv (k + 1) t.1 t.2.1 t.2.2 := by
  obtain ⟨u, b, h2, e1, e0, e2, e3, e4⟩ := s_next H (sc (ix (nI (6 * k) + 1))) (sc (ix (nI (6 * k) + 2))) (sc (ix (nI (6 * k) + 3)))
  refine ⟨(u.2.1, h2, u.2.2.2), ?_, e4⟩
  simp only [fl_14, if_pos (g_in (c := 1) (d := 1) hL h3 rfl (by omega)), if_pos (g_in (c := 2) (d := 2) hL h3 rfl (by omega)), if_pos (g_in (c := 3) (d := 3) hL h3 rfl (by omega)), if_pos e0, e1, e2, Option.bind_some]
  exact if_pos e3
theorem t_15 {sc : Nat → Int32} {Ls k N : Nat} {h : Hp} {q : Qp} (H : Inv k N h q) (hL : 6 * k + 6 ≤ Ls) (h3 : Ls ≤ 3072) : ∃ t, fl_15 sc Ls (nI (6 * k)) q N h = some t ∧ Inv (k + 1) t.1 t.2.1 t.2.2 := by
  obtain ⟨u, b, h2, e1, e0, e2, e3, e4⟩ := s_serve H (sc (ix (nI (6 * k) + 1))) (sc (ix (nI (6 * k) + 2))) (sc (ix (nI (6 * k) + 3)))
  refine ⟨(u.2.1, h2, u.2.2.2), ?_, e4⟩
  simp only [fl_15, if_pos (g_in (c := 1) (d := 1) hL h3 rfl (by omega)), if_pos (g_in (c := 2) (d := 2) hL h3 rfl (by omega)), if_pos (g_in (c := 3) (d := 3) hL h3 rfl (by omega)), if_pos e0, e1, e2, Option.bind_some]
  exact if_pos e3
theorem t_16 {sc : Nat → Int32} {Ls k N : Nat} {h : Hp} {q : Qp} (H : Inv k N h q) (hL : 6 * k + 6 ≤ Ls) (h3 : Ls ≤ 3072) : ∃ t, fl_16 sc Ls (nI (6 * k)) q N h = some t ∧ Inv (k + 1) t.1 t.2.1 t.2.2 := by
  obtain ⟨u, b, h2, e1, e0, e2, e3, e4⟩ := s_two H (sc (ix (nI (6 * k) + 1))) (sc (ix (nI (6 * k) + 2))) (sc (ix (nI (6 * k) + 3))) (sc (ix (nI (6 * k) + 4))) (sc (ix (nI (6 * k) + 5)))
  refine ⟨(u.2.1, h2, u.2.2.2), ?_, e4⟩
  simp only [fl_16, if_pos (g_in (c := 1) (d := 1) hL h3 rfl (by omega)), if_pos (g_in (c := 2) (d := 2) hL h3 rfl (by omega)), if_pos (g_in (c := 3) (d := 3) hL h3 rfl (by omega)), if_pos (g_in (c := 4) (d := 4) hL h3 rfl (by omega)), if_pos (g_in (c := 5) (d := 5) hL h3 rfl (by omega)), if_pos e0, e1, e2, Option.bind_some]
  exact if_pos e3
theorem t_17 {sc : Nat → Int32} {Ls k N : Nat} {h : Hp} {q : Qp} (H : Inv k N h q) (hL : 6 * k + 6 ≤ Ls) (h3 : Ls ≤ 3072) : ∃ t, fl_17 sc Ls (nI (6 * k)) q N h = some t ∧ Inv (k + 1) t.1 t.2.1 t.2.2 := by
  obtain ⟨u, b, h2, e1, e0, e2, e3, e4⟩ := s_twoFirst H (sc (ix (nI (6 * k) + 1))) (sc (ix (nI (6 * k) + 2))) (sc (ix (nI (6 * k) + 3))) (sc (ix (nI (6 * k) + 4))) (sc (ix (nI (6 * k) + 5)))
  refine ⟨(u.2.1, h2, u.2.2.2), ?_, e4⟩
  simp only [fl_17, if_pos (g_in (c := 1) (d := 1) hL h3 rfl (by omega)), if_pos (g_in (c := 2) (d := 2) hL h3 rfl (by omega)), if_pos (g_in (c := 3) (d := 3) hL h3 rfl (by omega)), if_pos (g_in (c := 4) (d := 4) hL h3 rfl (by omega)), if_pos (g_in (c := 5) (d := 5) hL h3 rfl (by omega)), if_pos e0, e1, e2, Option.bind_some]
  exact if_pos e3
theorem t_18 {sc : Nat → Int32} {Ls k N : Nat} {h : Hp} {q : Qp} (H : Inv k N h q) (hL : 6 * k + 6 ≤ Ls) (h3 : Ls ≤ 3072) : ∃ t, fl_18 sc Ls (nI (6 * k)) q N h = some t ∧ Inv (k + 1) t.1 t.2.1 t.2.2 := by
  obtain ⟨u, b, h2, e1, e0, e2, e3, e4⟩ := s_order H (sc (ix (nI (6 * k) + 1))) (sc (ix (nI (6 * k) + 2))) (sc (ix (nI (6 * k) + 3)))
  refine ⟨(u.2.1, h2, u.2.2.2), ?_, e4⟩
  simp only [fl_18, if_pos (g_in (c := 1) (d := 1) hL h3 rfl (by omega)), if_pos (g_in (c := 2) (d := 2) hL h3 rfl (by omega)), if_pos (g_in (c := 3) (d := 3) hL h3 rfl (by omega)), if_pos e0, e1, e2, Option.bind_some]
  exact if_pos e3
theorem t_19 {sc : Nat → Int32} {Ls k N : Nat} {h : Hp} {q : Qp} (H : Inv k N h q) (hL : 6 * k + 6 ≤ Ls) (h3 : Ls ≤ 3072) : ∃ t, fl_19 sc Ls (nI (6 * k)) q N h = some t ∧ Inv (k + 1) t.1 t.2.1 t.2.2 := by
  obtain ⟨a, h1, b, h2, e1, e2, e3, e4⟩ := s_unorder H 
  refine ⟨(N, h2, q), ?_, e4⟩
  simp only [fl_19, e1, e2, Option.bind_some]
  exact if_pos e3
theorem t_20 {sc : Nat → Int32} {Ls k N : Nat} {h : Hp} {q : Qp} (H : Inv k N h q) (hL : 6 * k + 6 ≤ Ls) (h3 : Ls ≤ 3072) : ∃ t, fl_20 sc Ls (nI (6 * k)) q N h = some t ∧ Inv (k + 1) t.1 t.2.1 t.2.2 := by
  obtain ⟨a, h1, b, h2, e1, e2, e3, e4⟩ := s_whole H 
  refine ⟨(N, h2, q), ?_, e4⟩
  simp only [fl_20, e1, e2, Option.bind_some]
  exact if_pos e3
theorem t_21 {sc : Nat → Int32} {Ls k N : Nat} {h : Hp} {q : Qp} (H : Inv k N h q) (hL : 6 * k + 6 ≤ Ls) (h3 : Ls ≤ 3072) : ∃ t, fl_21 sc Ls (nI (6 * k)) q N h = some t ∧ Inv (k + 1) t.1 t.2.1 t.2.2 := by
  obtain ⟨a, h1, b, h2, e1, e2, e3, e4⟩ := s_first H 
  refine ⟨(N, h2, q), ?_, e4⟩
  simp only [fl_21, e1, e2, Option.bind_some]
  exact if_pos e3
theorem t_22 {sc : Nat → Int32} {Ls k N : Nat} {h : Hp} {q : Qp} (H : Inv k N h q) (hL : 6 * k + 6 ≤ Ls) (h3 : Ls ≤ 3072) : ∃ t, fl_22 sc Ls (nI (6 * k)) q N h = some t ∧ Inv (k + 1) t.1 t.2.1 t.2.2 := by
  obtain ⟨a, h1, b, h2, e1, e2, e3, e4⟩ := s_fair H (sc (ix (nI (6 * k) + 1)))
  refine ⟨(N, h2, q), ?_, e4⟩
  simp only [fl_22, if_pos (g_in (c := 1) (d := 1) hL h3 rfl (by omega)), e1, e2, Option.bind_some]
  exact if_pos e3
theorem t_23 {sc : Nat → Int32} {Ls k N : Nat} {h : Hp} {q : Qp} (H : Inv k N h q) (hL : 6 * k + 6 ≤ Ls) (h3 : Ls ≤ 3072) : ∃ t, fl_23 sc Ls (nI (6 * k)) q N h = some t ∧ Inv (k + 1) t.1 t.2.1 t.2.2 := by
  obtain ⟨a, h1, b, h2, e1, e2, e3, e4⟩ := s_left H (sc (ix (nI (6 * k) + 1)))
  refine ⟨(N, h2, q), ?_, e4⟩
  simp only [fl_23, if_pos (g_in (c := 1) (d := 1) hL h3 rfl (by omega)), e1, e2, Option.bind_some]
  exact if_pos e3
theorem t_24 {sc : Nat → Int32} {Ls k N : Nat} {h : Hp} {q : Qp} (H : Inv k N h q) (hL : 6 * k + 6 ≤ Ls) (h3 : Ls ≤ 3072) : ∃ t, fl_24 sc Ls (nI (6 * k)) q N h = some t ∧ Inv (k + 1) t.1 t.2.1 t.2.2 := by
  obtain ⟨a, h1, b, h2, e1, e2, e3, e4⟩ := s_read H 
  refine ⟨(N, h2, q), ?_, e4⟩
  simp only [fl_24, e1, e2, Option.bind_some]
  exact if_pos e3
theorem t_25 {sc : Nat → Int32} {Ls k N : Nat} {h : Hp} {q : Qp} (H : Inv k N h q) (hL : 6 * k + 6 ≤ Ls) (h3 : Ls ≤ 3072) : ∃ t, fl_25 sc Ls (nI (6 * k)) q N h = some t ∧ Inv (k + 1) t.1 t.2.1 t.2.2 := by
  obtain ⟨a, h1, b, h2, e1, e2, e3, e4⟩ := s_unleft H 
  refine ⟨(N, h2, q), ?_, e4⟩
  simp only [fl_25, e1, e2, Option.bind_some]
  exact if_pos e3
theorem t_26 {sc : Nat → Int32} {Ls k N : Nat} {h : Hp} {q : Qp} (H : Inv k N h q) (hL : 6 * k + 6 ≤ Ls) (h3 : Ls ≤ 3072) : ∃ t, fl_26 sc Ls (nI (6 * k)) q N h = some t ∧ Inv (k + 1) t.1 t.2.1 t.2.2 := by
  obtain ⟨a, h1, b, h2, e1, e2, e3, e4⟩ := s_ripens H (sc (ix (nI (6 * k) + 1))) (sc (ix (nI (6 * k) + 2)))
  refine ⟨(N, h2, q), ?_, e4⟩
  simp only [fl_26, if_pos (g_in (c := 1) (d := 1) hL h3 rfl (by omega)), if_pos (g_in (c := 2) (d := 2) hL h3 rfl (by omega)), e1, e2, Option.bind_some]
  exact if_pos e3
theorem t_27 {sc : Nat → Int32} {Ls k N : Nat} {h : Hp} {q : Qp} (H : Inv k N h q) (hL : 6 * k + 6 ≤ Ls) (h3 : Ls ≤ 3072) : ∃ t, fl_27 sc Ls (nI (6 * k)) q N h = some t ∧ Inv (k + 1) t.1 t.2.1 t.2.2 := by
  obtain ⟨a, b, h2, e1, e2, e3, e4⟩ := s_ripe H (sc (ix (nI (6 * k) + 1))) (sc (ix (nI (6 * k) + 2))) (if sc (ix (nI (6 * k) + 3)) = 0 then 0 else 1)
  refine ⟨(N, h2, q), ?_, e4⟩
  simp only [fl_27, if_pos (g_in (c := 1) (d := 1) hL h3 rfl (by omega)), if_pos (g_in (c := 2) (d := 2) hL h3 rfl (by omega)), if_pos (g_in (c := 3) (d := 3) hL h3 rfl (by omega)), e1, e2, Option.bind_some, ite_some]
  exact if_pos ((cmp_eq _ _).mpr e3)
theorem t_28 {sc : Nat → Int32} {Ls k N : Nat} {h : Hp} {q : Qp} (H : Inv k N h q) (hL : 6 * k + 6 ≤ Ls) (h3 : Ls ≤ 3072) : ∃ t, fl_28 sc Ls (nI (6 * k)) q N h = some t ∧ Inv (k + 1) t.1 t.2.1 t.2.2 := by
  obtain ⟨a, b, h2, e1, e2, e3, e4⟩ := s_ripest H (sc (ix (nI (6 * k) + 1)))
  refine ⟨(N, h2, q), ?_, e4⟩
  simp only [fl_28, if_pos (g_in (c := 1) (d := 1) hL h3 rfl (by omega)), e1, e2, Option.bind_some]
  exact if_pos e3
theorem t_29 {sc : Nat → Int32} {Ls k N : Nat} {h : Hp} {q : Qp} (H : Inv k N h q) (hL : 6 * k + 6 ≤ Ls) (h3 : Ls ≤ 3072) : ∃ t, fl_29 sc Ls (nI (6 * k)) q N h = some t ∧ Inv (k + 1) t.1 t.2.1 t.2.2 := by
  obtain ⟨a, h1, b, h2, e1, e2, e3, e4⟩ := s_book H (sc (ix (nI (6 * k) + 1)))
  refine ⟨(N, h2, q), ?_, e4⟩
  simp only [fl_29, if_pos (g_in (c := 1) (d := 1) hL h3 rfl (by omega)), e1, e2, Option.bind_some]
  exact if_pos e3
theorem t_30 {sc : Nat → Int32} {Ls k N : Nat} {h : Hp} {q : Qp} (H : Inv k N h q) (hL : 6 * k + 6 ≤ Ls) (h3 : Ls ≤ 3072) : ∃ t, fl_30 sc Ls (nI (6 * k)) q N h = some t ∧ Inv (k + 1) t.1 t.2.1 t.2.2 := by
  obtain ⟨a, b, h2, e1, e2, e3, e4⟩ := s_over H (sc (ix (nI (6 * k) + 1)))
  refine ⟨(N, h2, q), ?_, e4⟩
  simp only [fl_30, if_pos (g_in (c := 1) (d := 1) hL h3 rfl (by omega)), e1, e2, Option.bind_some]
  exact if_pos e3
theorem t_31 {sc : Nat → Int32} {Ls k N : Nat} {h : Hp} {q : Qp} (H : Inv k N h q) (hL : 6 * k + 6 ≤ Ls) (h3 : Ls ≤ 3072) : ∃ t, fl_31 sc Ls (nI (6 * k)) q N h = some t ∧ Inv (k + 1) t.1 t.2.1 t.2.2 := by
  obtain ⟨a, b, h2, e1, e2, e3, e4⟩ := s_bestOver H 
  refine ⟨(N, h2, q), ?_, e4⟩
  simp only [fl_31, e1, e2, Option.bind_some]
  exact if_pos e3
theorem t_32 {sc : Nat → Int32} {Ls k N : Nat} {h : Hp} {q : Qp} (H : Inv k N h q) (hL : 6 * k + 6 ≤ Ls) (h3 : Ls ≤ 3072) : ∃ t, fl_32 sc Ls (nI (6 * k)) q N h = some t ∧ Inv (k + 1) t.1 t.2.1 t.2.2 := by
  obtain ⟨a, h1, b, h2, e1, e2, e3, e4⟩ := s_taste H (sc (ix (nI (6 * k) + 1))) (if sc (ix (nI (6 * k) + 2)) = 0 then 0 else 1)
  refine ⟨(N, h2, q), ?_, e4⟩
  simp only [fl_32, if_pos (g_in (c := 1) (d := 1) hL h3 rfl (by omega)), if_pos (g_in (c := 2) (d := 2) hL h3 rfl (by omega)), e1, e2, Option.bind_some, ite_some]
  exact if_pos e3
theorem t_33 {sc : Nat → Int32} {Ls k N : Nat} {h : Hp} {q : Qp} (H : Inv k N h q) (hL : 6 * k + 6 ≤ Ls) (h3 : Ls ≤ 3072) : ∃ t, fl_33 sc Ls (nI (6 * k)) q N h = some t ∧ Inv (k + 1) t.1 t.2.1 t.2.2 := by
  obtain ⟨a, b, h2, e1, e2, e3, e4⟩ := s_brings H (by omega) (sc (ix (nI (6 * k) + 1))) (if sc (ix (nI (6 * k) + 2)) = 0 then 0 else 1)
  refine ⟨(N, h2, q), ?_, e4⟩
  simp only [fl_33, if_pos (g_in (c := 1) (d := 1) hL h3 rfl (by omega)), if_pos (g_in (c := 2) (d := 2) hL h3 rfl (by omega)), e1, e2, Option.bind_some, ite_some]
  exact if_pos ((cmp_eq _ _).mpr e3)
theorem t_34 {sc : Nat → Int32} {Ls k N : Nat} {h : Hp} {q : Qp} (H : Inv k N h q) (hL : 6 * k + 6 ≤ Ls) (h3 : Ls ≤ 3072) : ∃ t, fl_34 sc Ls (nI (6 * k)) q N h = some t ∧ Inv (k + 1) t.1 t.2.1 t.2.2 := by
  obtain ⟨a, b, h2, e1, e2, e3, e4⟩ := s_bestTaste H (by omega) 
  refine ⟨(N, h2, q), ?_, e4⟩
  simp only [fl_34, e1, e2, Option.bind_some]
  exact if_pos e3
theorem t_35 {sc : Nat → Int32} {Ls k N : Nat} {h : Hp} {q : Qp} (H : Inv k N h q) (hL : 6 * k + 6 ≤ Ls) (h3 : Ls ≤ 3072) : ∃ t, fl_35 sc Ls (nI (6 * k)) q N h = some t ∧ Inv (k + 1) t.1 t.2.1 t.2.2 := by
  obtain ⟨a, h1, b, h2, e1, e2, e3, e4⟩ := s_prices H (sc (ix (nI (6 * k) + 1))) (sc (ix (nI (6 * k) + 2)))
  refine ⟨(N, h2, q), ?_, e4⟩
  simp only [fl_35, if_pos (g_in (c := 1) (d := 1) hL h3 rfl (by omega)), if_pos (g_in (c := 2) (d := 2) hL h3 rfl (by omega)), e1, e2, Option.bind_some]
  exact if_pos e3
theorem t_36 {sc : Nat → Int32} {Ls k N : Nat} {h : Hp} {q : Qp} (H : Inv k N h q) (hL : 6 * k + 6 ≤ Ls) (h3 : Ls ≤ 3072) : ∃ t, fl_36 sc Ls (nI (6 * k)) q N h = some t ∧ Inv (k + 1) t.1 t.2.1 t.2.2 := by
  obtain ⟨a, b, h2, e1, e2, e3, e4⟩ := s_worth H 
  refine ⟨(N, h2, q), ?_, e4⟩
  simp only [fl_36, e1, e2, Option.bind_some]
  exact if_pos e3
theorem t_37 {sc : Nat → Int32} {Ls k N : Nat} {h : Hp} {q : Qp} (H : Inv k N h q) (hL : 6 * k + 6 ≤ Ls) (h3 : Ls ≤ 3072) : ∃ t, fl_37 sc Ls (nI (6 * k)) q N h = some t ∧ Inv (k + 1) t.1 t.2.1 t.2.2 := by
  obtain ⟨a, h1, b, h2, e1, e2, e3, e4⟩ := s_keep H (sc (ix (nI (6 * k) + 1)))
  refine ⟨(N, h2, q), ?_, e4⟩
  simp only [fl_37, if_pos (g_in (c := 1) (d := 1) hL h3 rfl (by omega)), e1, e2, Option.bind_some]
  exact if_pos e3
theorem t_38 {sc : Nat → Int32} {Ls k N : Nat} {h : Hp} {q : Qp} (H : Inv k N h q) (hL : 6 * k + 6 ≤ Ls) (h3 : Ls ≤ 3072) : ∃ t, fl_38 sc Ls (nI (6 * k)) q N h = some t ∧ Inv (k + 1) t.1 t.2.1 t.2.2 := by
  obtain ⟨a, h1, b, h2, e1, e2, e3, e4⟩ := s_again H (sc (ix (nI (6 * k) + 1)))
  refine ⟨(N, h2, q), ?_, e4⟩
  simp only [fl_38, if_pos (g_in (c := 1) (d := 1) hL h3 rfl (by omega)), e1, e2, Option.bind_some]
  exact if_pos e3
theorem t_39 {sc : Nat → Int32} {Ls k N : Nat} {h : Hp} {q : Qp} (H : Inv k N h q) (hL : 6 * k + 6 ≤ Ls) (h3 : Ls ≤ 3072) : ∃ t, fl_39 sc Ls (nI (6 * k)) q N h = some t ∧ Inv (k + 1) t.1 t.2.1 t.2.2 := by
  obtain ⟨a, b, h2, e1, e2, e3, e4⟩ := s_count H (sc (ix (nI (6 * k) + 1)))
  refine ⟨(N, h2, q), ?_, e4⟩
  simp only [fl_39, if_pos (g_in (c := 1) (d := 1) hL h3 rfl (by omega)), e1, e2, Option.bind_some]
  exact if_pos e3
theorem Inv_step : ∀ (sc : Nat → Int32) (Ls : Nat), Ls ≤ 3072 → ∀ k N h q, Inv k N h q → 6 * k + 6 ≤ Ls → ∃ t, f_step sc Ls (nI (6 * k)) q N h = some t ∧ Inv (k + 1) t.1 t.2.1 t.2.2 := by
  intro sc Ls h3 k N h q H hL
  rw [f_step, if_pos (inB_nI (show 6 * k < Ls by omega) (by omega))]
  by_cases c0 : (sc (ix (nI (6 * k))) &&& 63) = 0
  · rw [if_pos c0]; exact t_0 H hL h3
  rw [if_neg c0]
  by_cases c1 : (sc (ix (nI (6 * k))) &&& 63) = 1
  · rw [if_pos c1]; exact t_1 H hL h3
  rw [if_neg c1]
  by_cases c2 : (sc (ix (nI (6 * k))) &&& 63) = 2
  · rw [if_pos c2]; exact t_2 H hL h3
  rw [if_neg c2]
  by_cases c3 : (sc (ix (nI (6 * k))) &&& 63) = 3
  · rw [if_pos c3]; exact t_3 H hL h3
  rw [if_neg c3]
  by_cases c4 : (sc (ix (nI (6 * k))) &&& 63) = 4
  · rw [if_pos c4]; exact t_4 H hL h3
  rw [if_neg c4]
  by_cases c5 : (sc (ix (nI (6 * k))) &&& 63) = 5
  · rw [if_pos c5]; exact t_5 H hL h3
  rw [if_neg c5]
  by_cases c6 : (sc (ix (nI (6 * k))) &&& 63) = 6
  · rw [if_pos c6]; exact t_6 H hL h3
  rw [if_neg c6]
  by_cases c7 : (sc (ix (nI (6 * k))) &&& 63) = 7
  · rw [if_pos c7]; exact t_7 H hL h3
  rw [if_neg c7]
  by_cases c8 : (sc (ix (nI (6 * k))) &&& 63) = 8
  · rw [if_pos c8]; exact t_8 H hL h3
  rw [if_neg c8]
  by_cases c9 : (sc (ix (nI (6 * k))) &&& 63) = 9
  · rw [if_pos c9]; exact t_9 H hL h3
  rw [if_neg c9]
  by_cases c10 : (sc (ix (nI (6 * k))) &&& 63) = 10
  · rw [if_pos c10]; exact t_10 H hL h3
  rw [if_neg c10]
  by_cases c11 : (sc (ix (nI (6 * k))) &&& 63) = 11
  · rw [if_pos c11]; exact t_11 H hL h3
  rw [if_neg c11]
  by_cases c12 : (sc (ix (nI (6 * k))) &&& 63) = 12
  · rw [if_pos c12]; exact t_12 H hL h3
  rw [if_neg c12]
  by_cases c13 : (sc (ix (nI (6 * k))) &&& 63) = 13
  · rw [if_pos c13]; exact t_13 H hL h3
  rw [if_neg c13]
  by_cases c14 : (sc (ix (nI (6 * k))) &&& 63) = 14
  · rw [if_pos c14]; exact t_14 H hL h3
  rw [if_neg c14]
  by_cases c15 : (sc (ix (nI (6 * k))) &&& 63) = 15
  · rw [if_pos c15]; exact t_15 H hL h3
  rw [if_neg c15]
  by_cases c16 : (sc (ix (nI (6 * k))) &&& 63) = 16
  · rw [if_pos c16]; exact t_16 H hL h3
  rw [if_neg c16]
  by_cases c17 : (sc (ix (nI (6 * k))) &&& 63) = 17
  · rw [if_pos c17]; exact t_17 H hL h3
  rw [if_neg c17]
  by_cases c18 : (sc (ix (nI (6 * k))) &&& 63) = 18
  · rw [if_pos c18]; exact t_18 H hL h3
  rw [if_neg c18]
  by_cases c19 : (sc (ix (nI (6 * k))) &&& 63) = 19
  · rw [if_pos c19]; exact t_19 H hL h3
  rw [if_neg c19]
  by_cases c20 : (sc (ix (nI (6 * k))) &&& 63) = 20
  · rw [if_pos c20]; exact t_20 H hL h3
  rw [if_neg c20]
  by_cases c21 : (sc (ix (nI (6 * k))) &&& 63) = 21
  · rw [if_pos c21]; exact t_21 H hL h3
  rw [if_neg c21]
  by_cases c22 : (sc (ix (nI (6 * k))) &&& 63) = 22
  · rw [if_pos c22]; exact t_22 H hL h3
  rw [if_neg c22]
  by_cases c23 : (sc (ix (nI (6 * k))) &&& 63) = 23
  · rw [if_pos c23]; exact t_23 H hL h3
  rw [if_neg c23]
  by_cases c24 : (sc (ix (nI (6 * k))) &&& 63) = 24
  · rw [if_pos c24]; exact t_24 H hL h3
  rw [if_neg c24]
  by_cases c25 : (sc (ix (nI (6 * k))) &&& 63) = 25
  · rw [if_pos c25]; exact t_25 H hL h3
  rw [if_neg c25]
  by_cases c26 : (sc (ix (nI (6 * k))) &&& 63) = 26
  · rw [if_pos c26]; exact t_26 H hL h3
  rw [if_neg c26]
  by_cases c27 : (sc (ix (nI (6 * k))) &&& 63) = 27
  · rw [if_pos c27]; exact t_27 H hL h3
  rw [if_neg c27]
  by_cases c28 : (sc (ix (nI (6 * k))) &&& 63) = 28
  · rw [if_pos c28]; exact t_28 H hL h3
  rw [if_neg c28]
  by_cases c29 : (sc (ix (nI (6 * k))) &&& 63) = 29
  · rw [if_pos c29]; exact t_29 H hL h3
  rw [if_neg c29]
  by_cases c30 : (sc (ix (nI (6 * k))) &&& 63) = 30
  · rw [if_pos c30]; exact t_30 H hL h3
  rw [if_neg c30]
  by_cases c31 : (sc (ix (nI (6 * k))) &&& 63) = 31
  · rw [if_pos c31]; exact t_31 H hL h3
  rw [if_neg c31]
  by_cases c32 : (sc (ix (nI (6 * k))) &&& 63) = 32
  · rw [if_pos c32]; exact t_32 H hL h3
  rw [if_neg c32]
  by_cases c33 : (sc (ix (nI (6 * k))) &&& 63) = 33
  · rw [if_pos c33]; exact t_33 H hL h3
  rw [if_neg c33]
  by_cases c34 : (sc (ix (nI (6 * k))) &&& 63) = 34
  · rw [if_pos c34]; exact t_34 H hL h3
  rw [if_neg c34]
  by_cases c35 : (sc (ix (nI (6 * k))) &&& 63) = 35
  · rw [if_pos c35]; exact t_35 H hL h3
  rw [if_neg c35]
  by_cases c36 : (sc (ix (nI (6 * k))) &&& 63) = 36
  · rw [if_pos c36]; exact t_36 H hL h3
  rw [if_neg c36]
  by_cases c37 : (sc (ix (nI (6 * k))) &&& 63) = 37
  · rw [if_pos c37]; exact t_37 H hL h3
  rw [if_neg c37]
  by_cases c38 : (sc (ix (nI (6 * k))) &&& 63) = 38
  · rw [if_pos c38]; exact t_38 H hL h3
  rw [if_neg c38]
  by_cases c39 : (sc (ix (nI (6 * k))) &&& 63) = 39
  · rw [if_pos c39]; exact t_39 H hL h3
  rw [if_neg c39]
  exact ⟨(N, h, q), rfl, Inv_keep (Nat.le_succ k) (Nat.le_refl _) (fun _ _ _ => rfl) H⟩
