/-! the start -/
theorem vu_ne (f : Hp) {a k : Nat} (v : Nat → Int32) (h : k ≠ a) : va_up f a v k = f k := by
  unfold va_up
  rw [if_neg h]
theorem vu_eq (f : Hp) (a : Nat) (v : Nat → Int32) : va_up f a v a = v := by
  unfold va_up
  rw [if_pos rfl]
theorem i_X10 (h : Hp) : fk_X10_init_1 h = some (va_up h 2 (fun _ => 0)) := by
  unfold fk_X10_init_1
  rw [if_pos (show (48 : Int32) = nI 48 from rfl), vB_def]
theorem bord_0 : bord (fun _ => 0) := fun _ _ => ⟨rfl, rfl⟩
theorem i_X4 (h : Hp) : ∃ h', fk_X4_init_3 h = some h' ∧ h' 3 3 = 1 ∧ h' 3 4 = 1 ∧ h' 3 5 = 5 ∧ h' 3 6 = 6 ∧ h' 4 0 = 0 ∧ bord (h' 5) ∧ bord (h' 6) ∧ sums (h' 5) (fun _ => wtN 0) 1 1 ∧ sums (h' 6) (fun _ => rdN 1 0) 1 1 ∧ ∀ k, ¬ (3 ≤ k ∧ k ≤ 6) → h' k = h k := by
  obtain ⟨g, hg⟩ : ∃ g, g = u2 (u2 (u2 (u2 (va_up (va_up (va_up h 4 (fun _ => 0)) 5 (fun _ => 0)) 6 (fun _ => 0)) 3 3 1) 3 4 1) 3 5 5) 3 6 6 := ⟨_, rfl⟩
  have gr : ∀ k, k ≠ 3 → g k = va_up (va_up (va_up h 4 (fun _ => 0)) 5 (fun _ => 0)) 6 (fun _ => 0) k := fun k hk => by rw [hg, u2_ne _ _ _ hk, u2_ne _ _ _ hk, u2_ne _ _ _ hk, u2_ne _ _ _ hk]
  have g4 : g 4 = fun _ => 0 := by rw [gr 4 (by omega), vu_ne _ _ (by omega), vu_ne _ _ (by omega), vu_eq]
  have g5 : g 5 = fun _ => 0 := by rw [gr 5 (by omega), vu_ne _ _ (by omega), vu_eq]
  have g6 : g 6 = fun _ => 0 := by rw [gr 6 (by omega), vu_eq]
  have g33 : g 3 3 = nI 1 := by rw [hg]; simp [u2_at]; rfl
  have g34 : g 3 4 = nI 1 := by rw [hg]; simp [u2_at]; rfl
  have g35 : g 3 5 = 5 := by rw [hg]; simp [u2_at]
  have g36 : g 3 6 = 6 := by rw [hg]; simp [u2_at]
  obtain ⟨f, f1, f2, f3, f4, f5, f6⟩ := k_addUp g (K := fun _ => 0) (R := 1) (C := 1) (fun r c _ _ => by rw [g4]; exact ⟨rfl, Or.inl rfl⟩) (by omega) (by omega) g33 g34 (by rw [g5]; exact bord_0) (by rw [g6]; exact bord_0)
  refine ⟨f, ?_, ?_, ?_, ?_, ?_, ?_, f2, f3, f4, f5, ?_⟩
  · unfold fk_X4_init_3
    rw [if_pos (show (36 : Int32) = nI 36 from rfl), vB_def, if_pos (show (49 : Int32) = nI 49 from rfl), vB_def, if_pos (show (49 : Int32) = nI 49 from rfl), vB_def, vB_def, vB_def, vB_def, vB_def, ← hg, f1, Option.bind_some]
  · rw [f6 3 (by omega) (by omega), g33]; rfl
  · rw [f6 3 (by omega) (by omega), g34]; rfl
  · rw [f6 3 (by omega) (by omega), g35]
  · rw [f6 3 (by omega) (by omega), g36]
  · rw [f6 4 (by omega) (by omega), g4]
  · intro k hk
    rw [f6 k (by omega) (by omega), gr k (by omega), vu_ne _ _ (by omega), vu_ne _ _ (by omega), vu_ne _ _ (by omega)]
theorem i_X1_7 (h : Hp) (e3 : h 3 3 = nI 1) (e4 : h 3 4 = nI 1) (s5 : sums (h 5) (fun _ => wtN 0) 1 1) (s6 : sums (h 6) (fun _ => rdN 1 0) 1 1) : ∃ h', fk_X1_init_7 h = some h' ∧ h' 7 3 = 1 ∧ h' 7 4 = 0 ∧ crow h' 10 = allP (fun _ => 0) 1 1 ∧ (∀ j, j ≠ 3 → j ≠ 4 → h' 7 j = h 7 j) ∧ ∀ k, ¬ (7 ≤ k ∧ k ≤ 33) → h' k = h k := by
  have key : ∃ g, fk_X1_init_7 h = (f_X1_startAnew g 7).bind (fun u => some u) ∧ ∀ k, ¬ (8 ≤ k ∧ k ≤ 33) → g k = h k := by
    simp only [fk_X1_init_7, vB_def, f_X7_init, Option.bind_some, if_pos (show (24 : Int32) = nI 24 from rfl), if_pos (show inB 0 24 by decide), if_pos (show inB 1 24 by decide), if_pos (show inB 2 24 by decide), if_pos (show inB 3 24 by decide), if_pos (show inB 4 24 by decide), if_pos (show inB 5 24 by decide), if_pos (show inB 6 24 by decide), if_pos (show inB 7 24 by decide), if_pos (show inB 8 24 by decide), if_pos (show inB 9 24 by decide), if_pos (show inB 10 24 by decide), if_pos (show inB 11 24 by decide), if_pos (show inB 12 24 by decide), if_pos (show inB 13 24 by decide), if_pos (show inB 14 24 by decide), if_pos (show inB 15 24 by decide), if_pos (show inB 16 24 by decide), if_pos (show inB 17 24 by decide), if_pos (show inB 18 24 by decide), if_pos (show inB 19 24 by decide), if_pos (show inB 20 24 by decide), if_pos (show inB 21 24 by decide), if_pos (show inB 22 24 by decide), if_pos (show inB 23 24 by decide)]
    refine ⟨_, rfl, fun k hk => ?_⟩
    rw [vu_ne _ _ (by omega), vu_ne _ _ (by omega), vu_ne _ _ (by omega), vu_ne _ _ (by omega), vu_ne _ _ (by omega), vu_ne _ _ (by omega), vu_ne _ _ (by omega), vu_ne _ _ (by omega), vu_ne _ _ (by omega), vu_ne _ _ (by omega), vu_ne _ _ (by omega), vu_ne _ _ (by omega), vu_ne _ _ (by omega), vu_ne _ _ (by omega), vu_ne _ _ (by omega), vu_ne _ _ (by omega), vu_ne _ _ (by omega), vu_ne _ _ (by omega), vu_ne _ _ (by omega), vu_ne _ _ (by omega), vu_ne _ _ (by omega), vu_ne _ _ (by omega), vu_ne _ _ (by omega), vu_ne _ _ (by omega), vu_ne _ _ (by omega), vu_ne _ _ (by omega)]
  obtain ⟨g, g1, g2⟩ := key
  obtain ⟨f, f1, f2, f3, f4, f5⟩ := k_startAnew g (K := fun _ => 0) (R := 1) (C := 1) 7 (by omega) (by omega) (by omega) (by rw [g2 3 (by omega)]; exact e3) (by rw [g2 3 (by omega)]; exact e4) (by rw [g2 5 (by omega)]; exact s5) (by rw [g2 6 (by omega)]; exact s6)
  refine ⟨f, ?_, f2, f3, f4, fun j h1 h2 => ?_, fun k hk => row_eq (fun j => ?_)⟩
  · rw [g1, f1, Option.bind_some]
  · rw [f5 7 j (by omega) (by omega), g2 7 (by omega)]
  · rw [f5 k j (by omega) (by omega), g2 k (by omega)]
theorem i_X1_57 (h : Hp) (e3 : h 3 3 = nI 1) (e4 : h 3 4 = nI 1) (s5 : sums (h 5) (fun _ => wtN 0) 1 1) (s6 : sums (h 6) (fun _ => rdN 1 0) 1 1) : ∃ h', fk_X1_init_57 h = some h' ∧ h' 57 3 = 1 ∧ h' 57 4 = 0 ∧ crow h' 60 = allP (fun _ => 0) 1 1 ∧ (∀ j, j ≠ 3 → j ≠ 4 → h' 57 j = h 57 j) ∧ ∀ k, ¬ (57 ≤ k ∧ k ≤ 83) → h' k = h k := by
  have key : ∃ g, fk_X1_init_57 h = (f_X1_startAnew g 57).bind (fun u => some u) ∧ ∀ k, ¬ (58 ≤ k ∧ k ≤ 83) → g k = h k := by
    simp only [fk_X1_init_57, vB_def, f_X7_init, Option.bind_some, if_pos (show (24 : Int32) = nI 24 from rfl), if_pos (show inB 0 24 by decide), if_pos (show inB 1 24 by decide), if_pos (show inB 2 24 by decide), if_pos (show inB 3 24 by decide), if_pos (show inB 4 24 by decide), if_pos (show inB 5 24 by decide), if_pos (show inB 6 24 by decide), if_pos (show inB 7 24 by decide), if_pos (show inB 8 24 by decide), if_pos (show inB 9 24 by decide), if_pos (show inB 10 24 by decide), if_pos (show inB 11 24 by decide), if_pos (show inB 12 24 by decide), if_pos (show inB 13 24 by decide), if_pos (show inB 14 24 by decide), if_pos (show inB 15 24 by decide), if_pos (show inB 16 24 by decide), if_pos (show inB 17 24 by decide), if_pos (show inB 18 24 by decide), if_pos (show inB 19 24 by decide), if_pos (show inB 20 24 by decide), if_pos (show inB 21 24 by decide), if_pos (show inB 22 24 by decide), if_pos (show inB 23 24 by decide)]
    refine ⟨_, rfl, fun k hk => ?_⟩
    rw [vu_ne _ _ (by omega), vu_ne _ _ (by omega), vu_ne _ _ (by omega), vu_ne _ _ (by omega), vu_ne _ _ (by omega), vu_ne _ _ (by omega), vu_ne _ _ (by omega), vu_ne _ _ (by omega), vu_ne _ _ (by omega), vu_ne _ _ (by omega), vu_ne _ _ (by omega), vu_ne _ _ (by omega), vu_ne _ _ (by omega), vu_ne _ _ (by omega), vu_ne _ _ (by omega), vu_ne _ _ (by omega), vu_ne _ _ (by omega), vu_ne _ _ (by omega), vu_ne _ _ (by omega), vu_ne _ _ (by omega), vu_ne _ _ (by omega), vu_ne _ _ (by omega), vu_ne _ _ (by omega), vu_ne _ _ (by omega), vu_ne _ _ (by omega), vu_ne _ _ (by omega)]
  obtain ⟨g, g1, g2⟩ := key
  obtain ⟨f, f1, f2, f3, f4, f5⟩ := k_startAnew g (K := fun _ => 0) (R := 1) (C := 1) 57 (by omega) (by omega) (by omega) (by rw [g2 3 (by omega)]; exact e3) (by rw [g2 3 (by omega)]; exact e4) (by rw [g2 5 (by omega)]; exact s5) (by rw [g2 6 (by omega)]; exact s6)
  refine ⟨f, ?_, f2, f3, f4, fun j h1 h2 => ?_, fun k hk => row_eq (fun j => ?_)⟩
  · rw [g1, f1, Option.bind_some]
  · rw [f5 57 j (by omega) (by omega), g2 57 (by omega)]
  · rw [f5 k j (by omega) (by omega), g2 k (by omega)]
theorem i_X1_84 (h : Hp) (e3 : h 3 3 = nI 1) (e4 : h 3 4 = nI 1) (s5 : sums (h 5) (fun _ => wtN 0) 1 1) (s6 : sums (h 6) (fun _ => rdN 1 0) 1 1) : ∃ h', fk_X1_init_84 h = some h' ∧ h' 84 3 = 1 ∧ h' 84 4 = 0 ∧ crow h' 87 = allP (fun _ => 0) 1 1 ∧ (∀ j, j ≠ 3 → j ≠ 4 → h' 84 j = h 84 j) ∧ ∀ k, ¬ (84 ≤ k ∧ k ≤ 110) → h' k = h k := by
  have key : ∃ g, fk_X1_init_84 h = (f_X1_startAnew g 84).bind (fun u => some u) ∧ ∀ k, ¬ (85 ≤ k ∧ k ≤ 110) → g k = h k := by
    simp only [fk_X1_init_84, vB_def, f_X7_init, Option.bind_some, if_pos (show (24 : Int32) = nI 24 from rfl), if_pos (show inB 0 24 by decide), if_pos (show inB 1 24 by decide), if_pos (show inB 2 24 by decide), if_pos (show inB 3 24 by decide), if_pos (show inB 4 24 by decide), if_pos (show inB 5 24 by decide), if_pos (show inB 6 24 by decide), if_pos (show inB 7 24 by decide), if_pos (show inB 8 24 by decide), if_pos (show inB 9 24 by decide), if_pos (show inB 10 24 by decide), if_pos (show inB 11 24 by decide), if_pos (show inB 12 24 by decide), if_pos (show inB 13 24 by decide), if_pos (show inB 14 24 by decide), if_pos (show inB 15 24 by decide), if_pos (show inB 16 24 by decide), if_pos (show inB 17 24 by decide), if_pos (show inB 18 24 by decide), if_pos (show inB 19 24 by decide), if_pos (show inB 20 24 by decide), if_pos (show inB 21 24 by decide), if_pos (show inB 22 24 by decide), if_pos (show inB 23 24 by decide)]
    refine ⟨_, rfl, fun k hk => ?_⟩
    rw [vu_ne _ _ (by omega), vu_ne _ _ (by omega), vu_ne _ _ (by omega), vu_ne _ _ (by omega), vu_ne _ _ (by omega), vu_ne _ _ (by omega), vu_ne _ _ (by omega), vu_ne _ _ (by omega), vu_ne _ _ (by omega), vu_ne _ _ (by omega), vu_ne _ _ (by omega), vu_ne _ _ (by omega), vu_ne _ _ (by omega), vu_ne _ _ (by omega), vu_ne _ _ (by omega), vu_ne _ _ (by omega), vu_ne _ _ (by omega), vu_ne _ _ (by omega), vu_ne _ _ (by omega), vu_ne _ _ (by omega), vu_ne _ _ (by omega), vu_ne _ _ (by omega), vu_ne _ _ (by omega), vu_ne _ _ (by omega), vu_ne _ _ (by omega), vu_ne _ _ (by omega)]
  obtain ⟨g, g1, g2⟩ := key
  obtain ⟨f, f1, f2, f3, f4, f5⟩ := k_startAnew g (K := fun _ => 0) (R := 1) (C := 1) 84 (by omega) (by omega) (by omega) (by rw [g2 3 (by omega)]; exact e3) (by rw [g2 3 (by omega)]; exact e4) (by rw [g2 5 (by omega)]; exact s5) (by rw [g2 6 (by omega)]; exact s6)
  refine ⟨f, ?_, f2, f3, f4, fun j h1 h2 => ?_, fun k hk => row_eq (fun j => ?_)⟩
  · rw [g1, f1, Option.bind_some]
  · rw [f5 84 j (by omega) (by omega), g2 84 (by omega)]
  · rw [f5 k j (by omega) (by omega), g2 k (by omega)]
theorem i_X9 (h : Hp) : ∃ h', fk_X9_init_35 h = some h' ∧ ∀ k, ¬ (36 ≤ k ∧ k ≤ 40) → h' k = h k := by
  simp only [fk_X9_init_35, vB_def, f_X7_init, Option.bind_some, if_pos (show (24 : Int32) = nI 24 from rfl)]
  refine ⟨_, rfl, fun k hk => ?_⟩
  rw [vu_ne _ _ (by omega), vu_ne _ _ (by omega), vu_ne _ _ (by omega), vu_ne _ _ (by omega), vu_ne _ _ (by omega)]
theorem i_X6 (h : Hp) : ∃ h', fk_X6_init_41 h = some h' ∧ h' 41 1 = 16 ∧ (∀ j, j ≠ 1 → h' 41 j = h 41 j) ∧ ∀ k, ¬ (41 ≤ k ∧ k ≤ 44) → h' k = h k := by
  have e : (441 * (u2 h 41 1 (if (1 : Int32) < 16 then 16 else 1) 41 1) : Int32) = nI 7056 := by
    rw [u2_at, if_pos ⟨rfl, rfl⟩]; decide
  have k8 : fk_X8_init_41 h 16 = some (va_up (u2 h 41 1 16) 42 (fun _ => 0)) := by
    unfold fk_X8_init_41
    rw [vB_def, if_pos e, vB_def]
    rfl
  unfold fk_X6_init_41
  rw [k8, Option.bind_some, if_pos (show (4 : Int32) = nI 4 from rfl), vB_def, if_pos (show (16 : Int32) = nI 16 from rfl), vB_def]
  refine ⟨_, rfl, ?_, fun j hj => ?_, fun k hk => ?_⟩
  · rw [vu_ne _ _ (by omega), vu_ne _ _ (by omega), vu_ne _ _ (by omega), u2_at, if_pos ⟨rfl, rfl⟩]
  · rw [vu_ne _ _ (by omega), vu_ne _ _ (by omega), vu_ne _ _ (by omega), u2_at, if_neg (by omega)]
  · rw [vu_ne _ _ (by omega), vu_ne _ _ (by omega), vu_ne _ _ (by omega), u2_ne _ _ _ (by omega)]
theorem i_X3 (h : Hp) : ∃ h', fk_X3_init_45 h = some h' ∧ h' 45 1 = 1 ∧ ∀ k, ¬ (45 ≤ k ∧ k ≤ 46) → h' k = h k := by
  have e : (441 * (u2 h 45 1 (if (1 : Int32) < 1 then 1 else 1) 45 1) : Int32) = nI 441 := by
    rw [u2_at, if_pos ⟨rfl, rfl⟩]; decide
  have k8 : fk_X8_init_45 h 1 = some (va_up (u2 h 45 1 1) 46 (fun _ => 0)) := by
    unfold fk_X8_init_45
    rw [vB_def, if_pos e, vB_def]
    rfl
  unfold fk_X3_init_45
  rw [k8, Option.bind_some, vB_def]
  refine ⟨_, rfl, ?_, fun k hk => ?_⟩
  · rw [u2_at, if_neg (by omega), vu_ne _ _ (by omega), u2_at, if_pos ⟨rfl, rfl⟩]
  · rw [u2_ne _ _ _ (by omega), vu_ne _ _ (by omega), u2_ne _ _ _ (by omega)]
theorem i_X5 (h : Hp) : ∃ h', fk_X5_init_47 h = some h' ∧ h' 47 1 = 1 ∧ (∀ j, j ≠ 1 → h' 47 j = h 47 j) ∧ ∀ k, ¬ (47 ≤ k ∧ k ≤ 52) → h' k = h k := by
  have e : (441 * (u2 h 47 1 (if (1 : Int32) < 1 then 1 else 1) 47 1) : Int32) = nI 441 := by
    rw [u2_at, if_pos ⟨rfl, rfl⟩]; decide
  have k8 : fk_X8_init_47 h 1 = some (va_up (u2 h 47 1 1) 48 (fun _ => 0)) := by
    unfold fk_X8_init_47
    rw [vB_def, if_pos e, vB_def]
    rfl
  unfold fk_X5_init_47
  rw [k8, Option.bind_some, if_pos (show (6 : Int32) = nI 6 from rfl), vB_def, if_pos (show (6 : Int32) = nI 6 from rfl), vB_def, if_pos (show (6 : Int32) = nI 6 from rfl), vB_def, if_pos (show (6 : Int32) = nI 6 from rfl), vB_def]
  refine ⟨_, rfl, ?_, fun j hj => ?_, fun k hk => ?_⟩
  · rw [vu_ne _ _ (by omega), vu_ne _ _ (by omega), vu_ne _ _ (by omega), vu_ne _ _ (by omega), vu_ne _ _ (by omega), u2_at, if_pos ⟨rfl, rfl⟩]
  · rw [vu_ne _ _ (by omega), vu_ne _ _ (by omega), vu_ne _ _ (by omega), vu_ne _ _ (by omega), vu_ne _ _ (by omega), u2_at, if_neg (by omega)]
  · rw [vu_ne _ _ (by omega), vu_ne _ _ (by omega), vu_ne _ _ (by omega), vu_ne _ _ (by omega), vu_ne _ _ (by omega), u2_ne _ _ _ (by omega)]
theorem i_X2 (h : Hp) : ∃ h', fk_X2_init_53 h = some h' ∧ (∀ j, h' 55 j = 0) ∧ (∀ j, h' 56 j = 0) ∧ ∀ k, ¬ (54 ≤ k ∧ k ≤ 56) → h' k = h k := by
  unfold fk_X2_init_53
  rw [if_pos (show (16 : Int32) = nI 16 from rfl), vB_def, if_pos (show (10 : Int32) = nI 10 from rfl), vB_def, if_pos (show (10 : Int32) = nI 10 from rfl), vB_def]
  refine ⟨_, rfl, fun j => ?_, fun j => ?_, fun k hk => ?_⟩
  · rw [vu_ne _ _ (by omega), vu_eq]
  · rw [vu_eq]
  · rw [vu_ne _ _ (by omega), vu_ne _ _ (by omega), vu_ne _ _ (by omega)]
theorem i_X12 (h : Hp) (z : ∀ j, h 111 j = 0) : ∃ h', fk_X12_init_111 h = some h' ∧ h' 111 4 = 1 ∧ h' 111 5 = 1 ∧ h' 111 9 = 1 ∧ h' 111 37 = 5 ∧ h' 111 38 = 6 ∧ h' 111 43 = 3 ∧ h' 111 44 = 1 ∧ h' 111 2 = 0 ∧ h' 111 18 = 0 ∧ h' 111 26 = 0 ∧ h' 111 35 = 0 ∧ h' 111 39 = 0 ∧ (∀ j, h' 113 j = 0) ∧ mrow h' 0 = allP (fun _ => 0) 1 1 ∧ (∀ j, h' 125 j = 0) ∧ (∀ j, h' 135 j = 0) ∧ (∀ j, h' 136 j = 0) ∧ ∀ k, k < 111 → h' k = h k := by
  simp only [fk_X12_init_111, vB_def, show ix 0 = 0 from rfl, if_pos (show inB 0 24 by decide), if_pos (show (2 : Int32) = nI 2 from rfl), if_pos (show (4 : Int32) = nI 4 from rfl), if_pos (show (6 : Int32) = nI 6 from rfl), if_pos (show (10 : Int32) = nI 10 from rfl), if_pos (show (16 : Int32) = nI 16 from rfl), if_pos (show (24 : Int32) = nI 24 from rfl), if_pos (show (36 : Int32) = nI 36 from rfl), if_pos (show (48 : Int32) = nI 48 from rfl), if_pos (show (96 : Int32) = nI 96 from rfl), if_pos (show (266 : Int32) = nI 266 from rfl), if_pos (show (532 : Int32) = nI 532 from rfl), if_pos (show (1296 : Int32) = nI 1296 from rfl), if_pos (show (20736 : Int32) = nI 20736 from rfl)]
  refine ⟨_, rfl, ?_, ?_, ?_, ?_, ?_, ?_, ?_, ?_, ?_, ?_, ?_, ?_, ?_, ?_, ?_, ?_, ?_, ?_⟩
  all_goals first
    | (simp [u2_at, va_up, z]; done)
    | (intro j; simp [u2_at, va_up]; done)
    | skip
  · refine mrow_eq (K := fun _ => 0) (R := 1) (C := 1) (by omega) (by omega) ?_ (allP_ok (by omega) (by omega)) (fun j hj => allP_far hj) ?_ ?_ ?_ ?_ ?_ ?_ ?_ ?_ ?_ ?_ ?_
    · funext j; simp [u2_at, va_up]
    all_goals simp [u2_at, va_up, allP]
    all_goals rfl
  · intro k hk
    have n : ∀ a, 111 ≤ a → k ≠ a := fun a ha => by omega
    rw [u2_ne _ _ _ (n _ (by omega)), u2_ne _ _ _ (n _ (by omega))]
    simp only [u2_ne _ _ _ (n 111 (by omega)), vu_ne _ _ (n 112 (by omega)), vu_ne _ _ (n 113 (by omega)), vu_ne _ _ (n 114 (by omega)), vu_ne _ _ (n 115 (by omega)), vu_ne _ _ (n 116 (by omega)), vu_ne _ _ (n 117 (by omega)), vu_ne _ _ (n 118 (by omega)), vu_ne _ _ (n 119 (by omega)), vu_ne _ _ (n 120 (by omega)), vu_ne _ _ (n 121 (by omega)), vu_ne _ _ (n 122 (by omega)), vu_ne _ _ (n 123 (by omega)), vu_ne _ _ (n 124 (by omega)), vu_ne _ _ (n 125 (by omega)), vu_ne _ _ (n 126 (by omega)), vu_ne _ _ (n 127 (by omega)), vu_ne _ _ (n 128 (by omega)), vu_ne _ _ (n 129 (by omega)), vu_ne _ _ (n 130 (by omega)), vu_ne _ _ (n 131 (by omega)), vu_ne _ _ (n 132 (by omega)), vu_ne _ _ (n 133 (by omega)), vu_ne _ _ (n 134 (by omega)), vu_ne _ _ (n 135 (by omega)), vu_ne _ _ (n 136 (by omega))]
theorem Inv_init : ∃ u, f_start (fun _ _ => 0) = some u ∧ Inv 0 137 u (fun _ => none) := by
  obtain ⟨A, hA⟩ : ∃ A : Hp, A = va_up (va_up (va_up (va_up (fun _ _ => 0) 0 (fun _ => 0)) 1 (fun _ => 0)) 2 (fun _ => 0)) 3 (fun _ => 0) := ⟨_, rfl⟩
  have A0 : ∀ k j, A k j = 0 := fun k j => by
    rw [hA]
    unfold va_up
    repeat (first | rfl | split)
  obtain ⟨B, b1, b33, b34, b35, b36, b4, bb5, bb6, bs5, bs6, bn⟩ := i_X4 A
  obtain ⟨D, d1, d73, d74, d10, d7, dn'⟩ := i_X1_7 (va_up B 7 (fun _ => 0)) (by rw [vu_ne _ _ (by omega)]; exact b33) (by rw [vu_ne _ _ (by omega)]; exact b34) (by rw [vu_ne _ _ (by omega)]; exact bs5) (by rw [vu_ne _ _ (by omega)]; exact bs6)
  obtain ⟨E, e1, en⟩ := i_X9 (va_up (va_up D 34 (fun _ => 0)) 35 (fun _ => 0))
  obtain ⟨F, f1, f41, f4, fn⟩ := i_X6 (va_up E 41 (fun _ => 0))
  obtain ⟨G, g1, g45, gn⟩ := i_X3 (va_up F 45 (fun _ => 0))
  obtain ⟨I, i1, i47, i4, inn⟩ := i_X5 (va_up G 47 (fun _ => 0))
  obtain ⟨J, j1, j55, j56, jn⟩ := i_X2 (va_up I 53 (fun _ => 0))
  obtain ⟨K0, hK0⟩ : ∃ K0, K0 = va_up (u2 (u2 J 0 9 3) 0 10 1) 57 (fun _ => 0) := ⟨_, rfl⟩
  have K0n : ∀ k, k ≠ 0 → k ≠ 57 → K0 k = J k := fun k h1 h2 => by rw [hK0, vu_ne _ _ h2, u2_ne _ _ _ h1, u2_ne _ _ _ h1]
  have low : ∀ k, 3 ≤ k → k ≤ 6 → J k = B k := fun k h1 h2 => by
    rw [jn k (by omega), vu_ne _ _ (by omega), inn k (by omega), vu_ne _ _ (by omega), gn k (by omega), vu_ne _ _ (by omega), fn k (by omega), vu_ne _ _ (by omega), en k (by omega), vu_ne _ _ (by omega), vu_ne _ _ (by omega), dn' k (by omega), vu_ne _ _ (by omega)]
  have K0l : ∀ k, 3 ≤ k → k ≤ 6 → K0 k = B k := fun k h1 h2 => by rw [K0n k (by omega) (by omega), low k h1 h2]
  obtain ⟨M, m1, m573, m574, m60, m57, mn'⟩ := i_X1_57 K0 (by rw [K0l 3 (by omega) (by omega)]; exact b33) (by rw [K0l 3 (by omega) (by omega)]; exact b34) (by rw [K0l 5 (by omega) (by omega)]; exact bs5) (by rw [K0l 6 (by omega) (by omega)]; exact bs6)
  have Ml : ∀ k, 3 ≤ k → k ≤ 6 → va_up M 84 (fun _ => 0) k = B k := fun k h1 h2 => by rw [vu_ne _ _ (by omega), mn' k (by omega), K0l k h1 h2]
  obtain ⟨P, p1, p843, p844, p87, p84, pn⟩ := i_X1_84 (va_up M 84 (fun _ => 0)) (by rw [Ml 3 (by omega) (by omega)]; exact b33) (by rw [Ml 3 (by omega) (by omega)]; exact b34) (by rw [Ml 5 (by omega) (by omega)]; exact bs5) (by rw [Ml 6 (by omega) (by omega)]; exact bs6)
  obtain ⟨u, u1, u4, u5, u9, u37, u38, u43, u44, u2', u18, u26, u35, u39, u113, u0, u125, u135, u136, un⟩ := i_X12 (va_up P 111 (fun _ => 0)) (fun j => by rw [vu_eq])
  have uP : ∀ k, k < 111 → u k = P k := fun k hk => by rw [un k hk, vu_ne _ _ (by omega)]
  have uM : ∀ k, k < 84 → u k = M k := fun k hk => by rw [uP k (by omega), pn k (by omega), vu_ne _ _ (by omega)]
  have uK : ∀ k, k < 57 → u k = K0 k := fun k hk => by rw [uM k (by omega), mn' k (by omega)]
  have uJ : ∀ k, 0 < k → k < 57 → u k = J k := fun k h1 hk => by rw [uK k hk, K0n k (by omega) (by omega)]
  have uI : ∀ k, 0 < k → k < 53 → u k = I k := fun k h1 hk => by rw [uJ k h1 (by omega), jn k (by omega), vu_ne _ _ (by omega)]
  have uG : ∀ k, 0 < k → k < 47 → u k = G k := fun k h1 hk => by rw [uI k h1 (by omega), inn k (by omega), vu_ne _ _ (by omega)]
  have uF : ∀ k, 0 < k → k < 45 → u k = F k := fun k h1 hk => by rw [uG k h1 (by omega), gn k (by omega), vu_ne _ _ (by omega)]
  have uE : ∀ k, 0 < k → k < 41 → u k = E k := fun k h1 hk => by rw [uF k h1 (by omega), fn k (by omega), vu_ne _ _ (by omega)]
  have uD : ∀ k, 0 < k → k < 34 → u k = D k := fun k h1 hk => by rw [uE k h1 (by omega), en k (by omega), vu_ne _ _ (by omega), vu_ne _ _ (by omega)]
  have uB : ∀ k, 0 < k → k < 7 → u k = B k := fun k h1 hk => by rw [uD k h1 (by omega), dn' k (by omega), vu_ne _ _ (by omega)]
  refine ⟨u, ?_, Nat.le_refl _, 1, 1, ?_, ?_, ?_, ?_, ?_, ?_, ?_, ?_, ?_, ?_⟩
  · have s11 : fk_X11_init_0 (va_up (fun _ _ => 0) 0 (fun _ => 0)) = some P := by
      unfold fk_X11_init_0
      rw [vB_def, i_X10, Option.bind_some, vB_def, ← hA, b1, Option.bind_some, vB_def, d1, Option.bind_some, if_pos (show (2 : Int32) = nI 2 from rfl), vB_def, vB_def, e1, Option.bind_some, vB_def, f1, Option.bind_some, vB_def, g1, Option.bind_some, vB_def, i1, Option.bind_some, vB_def, j1, Option.bind_some, vB_def, vB_def, vB_def, ← hK0, m1, Option.bind_some, if_pos (show inB 0 2 by decide), vB_def, p1, Option.bind_some, if_pos (show inB 1 2 by decide)]
    unfold f_start
    rw [vB_def, s11, Option.bind_some, vB_def, u1, Option.bind_some]
  · exact ⟨0, by omega, by rw [uB 1 (by omega) (by omega), bn 1 (by omega), A0]; rfl, by rw [u2']; rfl, fun i hi => absurd hi (by omega)⟩
  · have z113 : u 113 = fun _ => 0 := funext u113
    refine ⟨by omega, by omega, by omega, by omega, by rw [uB 3 (by omega) (by omega), b33]; rfl, by rw [uB 3 (by omega) (by omega), b34]; rfl, by rw [u4]; rfl, by rw [u5]; rfl, fun r c hr hc => ?_, ?_, ?_, fun j hj => ?_⟩
    · have : 6 * r + c = 0 := by omega
      rw [this, uB 4 (by omega) (by omega), b4, u113]
      exact ⟨rfl, Or.inl rfl⟩
    · rw [uB 5 (by omega) (by omega), z113]; exact bs5
    · rw [uB 6 (by omega) (by omega), z113]; exact bs6
    · rw [uB 5 (by omega) (by omega), uB 6 (by omega) (by omega)]
      exact ⟨(bb5 j hj).1, (bb5 j hj).2, (bb6 j hj).1, (bb6 j hj).2⟩
  · exact ⟨5, 6, by omega, by omega, by omega, by rw [uB 3 (by omega) (by omega), b35]; rfl, by rw [u37]; rfl, by rw [uB 3 (by omega) (by omega), b36]; rfl, by rw [u38]; rfl⟩
  · have z113 : u 113 = fun _ => 0 := funext u113
    refine ⟨1, by omega, by omega, by rw [uD 7 (by omega) (by omega), d73]; rfl, by rw [u9]; rfl, by rw [uD 7 (by omega) (by omega), d74, u18], fun i hi => ?_⟩
    have : i = 0 := by omega
    subst this
    rw [u0, z113]
    refine ⟨?_, 0, 0, 1, 1, allP_ok (by omega) (by omega)⟩
    rw [← d10]
    exact crow_keep (fun j => by rw [uD 10 (by omega) (by omega)])
  · intro s hs
    have z5 : u (57 + 27 * s) 5 = 0 := by
      rcases (by omega : s = 0 ∨ s = 1) with rfl | rfl
      · show u 57 5 = 0
        rw [uM 57 (by omega), m57 5 (by omega) (by omega), hK0, vu_eq]
      · show u 84 5 = 0
        rw [uP 84 (by omega), p84 5 (by omega) (by omega), vu_eq]
    rw [z5, u125]
    exact ⟨rfl, Or.inl rfl⟩
  · refine ⟨0, by omega, ?_, by rw [u26]; rfl, fun i hi => absurd hi (by omega), Or.inl ?_⟩
    · rw [uF 41 (by omega) (by omega), f4 5 (by omega), vu_eq]; rfl
    · rw [uF 41 (by omega) (by omega), f4 6 (by omega), vu_eq]
  · refine ⟨0, by omega, ?_, by rw [u35]; rfl, fun i hi => absurd hi (by omega), Or.inl ?_⟩
    · rw [uI 47 (by omega) (by omega), i4 7 (by omega), vu_eq]; rfl
    · rw [uI 47 (by omega) (by omega), i4 8 (by omega), vu_eq]
  · refine ⟨0, by omega, ?_, by rw [u39]; rfl, fun i hi => absurd hi (by omega), fun t ht => ⟨0, 0, by omega, by omega, ?_, ?_, ?_, ?_⟩⟩
    · rw [uJ 53 (by omega) (by omega), jn 53 (by omega), vu_eq]; rfl
    · rw [uJ 55 (by omega) (by omega), j55]; rfl
    · rw [u135]; rfl
    · rw [uJ 56 (by omega) (by omega), j56]; rfl
    · rw [u136]; rfl
  · refine ⟨?_, ?_⟩
    · rw [uK 0 (by omega), hK0, vu_ne _ _ (by omega), u2_at, if_neg (by omega), u2_at, if_pos ⟨rfl, rfl⟩, u43]
    · rw [uK 0 (by omega), hK0, vu_ne _ _ (by omega), u2_at, if_pos ⟨rfl, rfl⟩, u44]
  · refine ⟨?_, ?_, ?_⟩
    · rw [uF 41 (by omega) (by omega), f41]
    · rw [uG 45 (by omega) (by omega), g45]
    · rw [uI 47 (by omega) (by omega), i47]
