/-! rounds: books, prices, ripens -/
theorem Inv_u0 {k k' N : Nat} {h : Hp} {q : Qp} (hk : k ≤ k') (H : Inv k N h q) : Inv k' N (u2 h 111 0 0) q :=
  Inv_keep hk (Nat.le_refl N) (fun a b hf => by rw [u2_at, if_neg (fun p => hf (Or.inl ⟨p.1, Or.inl p.2⟩))]) H
theorem s_prices {k N : Nat} {h : Hp} {q : Qp} (H : Inv k N h q) (p e : Int32) : ∃ a h1 b h2, f_X11_prices h p e = some (a, h1) ∧ f_X12_prices h1 p e = some (b, h2) ∧ a = b ∧ Inv (k + 1) N h2 q := by
  rw [k_prices]
  by_cases c : (1 ≤ p ∧ p ≤ 9) ∧ (0 ≤ e ∧ e ≤ 9)
  · rw [if_pos c]
    refine ⟨_, _, _, _, rfl, (by rw [m_prices, if_pos c]), ?_, ?_⟩
    · obtain ⟨h0, R, C, hT, hF, hR, hB, hS, hO, hL, hK, hP, hC⟩ := H
      simp [u2_at, hP.1, hP.2]
    · obtain ⟨h0, R, C, hT, hF, hR, hB, hS, hO, hL, hK, hP, hC⟩ := H
      have f : ∀ k j, ¬ (k = 0 ∧ (j = 9 ∨ j = 10) ∨ k = 111 ∧ (j = 0 ∨ j = 43 ∨ j = 44)) → (u2 (u2 (u2 (u2 (u2 h 0 9 p) 0 10 e) 111 0 0) 111 43 p) 111 44 e) k j = h k j := fun k j hf => by
        rw [u2_at, if_neg (by omega), u2_at, if_neg (by omega), u2_at, if_neg (by omega), u2_at, if_neg (by omega), u2_at, if_neg (by omega)]
      exact ⟨h0, R, C, iT_keep (fun k j hk => f k j (by omega)) hT, iF_keep (fun k j hk => f k j (by omega)) hF, iR_keep (fun k j hk => f k j (by omega)) hR, iB_keep (fun k j hk => f k j (by omega)) hB, iS_keep (fun k j hk => f k j (by omega)) hS, iO_keep (Nat.le_refl _) (fun k j hk => f k j (by omega)) hO, iL_keep (fun k j hk => f k j (by omega)) hL, iK_keep (by omega) (fun k j hk => f k j (by omega)) hK, ⟨by simp [u2_at], by simp [u2_at]⟩, iC_keep (fun k j hk => f k j (by omega)) hC⟩
  · rw [if_neg c]
    exact ⟨_, _, _, _, rfl, (by rw [m_prices, if_neg c]), rfl, Inv_u0 (by omega) H⟩
theorem i_toNat {x : Int32} {M : Int32} {n : Nat} (hM : M.toInt = n) (h1 : 0 ≤ x) (h2 : x ≤ M) : ∃ j, j ≤ n ∧ x = nI j := nI_of2 hM (i_nlt.mpr h1) h2
theorem s_ripens {k N : Nat} {h : Hp} {q : Qp} (H : Inv k N h q) (p e : Int32) : ∃ a h1 b h2, f_X11_ripens h p e = some (a, h1) ∧ f_X12_ripens h1 p e = some (b, h2) ∧ a = b ∧ Inv (k + 1) N h2 q := by
  rw [k_ripens]
  by_cases c : (0 ≤ p ∧ p ≤ 30) ∧ (1 ≤ e ∧ e ≤ 30)
  · rw [if_pos c]
    refine ⟨_, _, _, _, rfl, (by rw [m_ripens, if_pos c]), ?_, ?_⟩
    · obtain ⟨h0, R, C, hT, hF, hR, hB, hS, hO, hL, hK, hP, hC⟩ := H
      obtain ⟨a, b, x1, x2, x3, x4, x5, x6, x7⟩ := hR
      simp [u2_at, x4, x5, x6, x7]
    · obtain ⟨h0, R, C, hT, hF, hR, hB, hS, hO, hL, hK, hP, hC⟩ := H
      have f : ∀ k j, ¬ (k = 3 ∧ (j = 5 ∨ j = 6) ∨ k = 111 ∧ (j = 0 ∨ j = 37 ∨ j = 38)) → (u2 (u2 (u2 (u2 (u2 h 3 5 p) 3 6 e) 111 0 0) 111 37 p) 111 38 e) k j = h k j := fun k j hf => by
        rw [u2_at, if_neg (by omega), u2_at, if_neg (by omega), u2_at, if_neg (by omega), u2_at, if_neg (by omega), u2_at, if_neg (by omega)]
      obtain ⟨a, ha, ea⟩ := i_toNat (n := 30) rfl c.1.1 c.1.2
      have he : (0 : Int32) ≤ e := by
        have e1 := Int32.le_iff_toInt_le.mp c.2.1
        rw [show (1 : Int32).toInt = 1 from rfl] at e1
        rw [Int32.le_iff_toInt_le, show (0 : Int32).toInt = 0 from rfl]
        omega
      obtain ⟨b, hb, eb⟩ := i_toNat (n := 30) rfl he c.2.2
      have b1 : 1 ≤ b := by
        have e1 := Int32.le_iff_toInt_le.mp c.2.1
        rw [show (1 : Int32).toInt = 1 from rfl, eb, nI_toInt (by omega)] at e1
        omega
      exact ⟨h0, R, C, iT_keep (fun k j hk => f k j (by omega)) hT, iF_keep (fun k j hk => f k j (by omega)) hF, ⟨a, b, ha, b1, hb, by simp [u2_at, ea], by simp [u2_at, ea], by simp [u2_at, eb], by simp [u2_at, eb]⟩, iB_keep (fun k j hk => f k j (by omega)) hB, iS_keep (fun k j hk => f k j (by omega)) hS, iO_keep (Nat.le_refl _) (fun k j hk => f k j (by omega)) hO, iL_keep (fun k j hk => f k j (by omega)) hL, iK_keep (by omega) (fun k j hk => f k j (by omega)) hK, iP_keep (fun k j hk => f k j (by omega)) hP, iC_keep (fun k j hk => f k j (by omega)) hC⟩
  · rw [if_neg c]
    exact ⟨_, _, _, _, rfl, (by rw [m_ripens, if_neg c]), rfl, Inv_u0 (by omega) H⟩
theorem s_book {k N : Nat} {h : Hp} {q : Qp} (H : Inv k N h q) (x : Int32) : ∃ a h1 b h2, f_X11_book h x = some (a, h1) ∧ f_X12_book h1 x = some (b, h2) ∧ a = b ∧ Inv (k + 1) N h2 q := by
  have H' := H
  obtain ⟨h0, R, C, hT, hF, hR, hB, hS, hO, hL, hK, hP, hC⟩ := H
  obtain ⟨m, m1, m2, m3, m4, m5⟩ := hK
  rw [k_book h x m2 m1]
  by_cases c : 0 ≤ x ∧ x ≤ 99
  · rw [if_pos c]
    by_cases c2 : m = 16
    · rw [if_pos c2]
      exact ⟨_, _, _, _, rfl, (by rw [m_book h x m3 m1, if_pos c, if_pos c2]), rfl, Inv_u0 (by omega) H'⟩
    · rw [if_neg c2]
      refine ⟨_, _, _, _, rfl, (by rw [m_book _ x (m := m) (by simp [u2_at, m3]) m1, if_pos c, if_neg c2]), rfl, ?_⟩
      have f : ∀ k j, ¬ (k = 54 ∧ j = m ∨ k = 53 ∧ j = 3 ∨ k = 134 ∧ j = m ∨ k = 111 ∧ (j = 0 ∨ j = 39)) → (u2 (u2 (u2 (u2 (u2 h 54 m x) 53 3 (nI (m + 1))) 111 0 0) 134 m x) 111 39 (nI (m + 1))) k j = h k j := fun k j hf => by
        rw [u2_at, if_neg (by omega), u2_at, if_neg (by omega), u2_at, if_neg (by omega), u2_at, if_neg (by omega), u2_at, if_neg (by omega)]
      exact ⟨h0, R, C, iT_keep (fun k j hk => f k j (by omega)) hT, iF_keep (fun k j hk => f k j (by omega)) hF, iR_keep (fun k j hk => f k j (by omega)) hR, iB_keep (fun k j hk => f k j (by omega)) hB, iS_keep (fun k j hk => f k j (by omega)) hS, iO_keep (Nat.le_refl _) (fun k j hk => f k j (by omega)) hO, iL_keep (fun k j hk => f k j (by omega)) hL, ⟨m + 1, by omega, by simp [u2_at], by simp [u2_at], fun i hi => by simp only [u2_at]; by_cases e : i = m <;> simp [e]; exact m4 i (by omega), fun t ht => by obtain ⟨a, b, x1, x2, x3, x4, x5, x6⟩ := m5 t ht; exact ⟨a, b, x1, by omega, by rw [f 55 t (by omega)]; exact x3, by rw [f 135 t (by omega)]; exact x4, by rw [f 56 t (by omega)]; exact x5, by rw [f 136 t (by omega)]; exact x6⟩⟩, iP_keep (fun k j hk => f k j (by omega)) hP, iC_keep (fun k j hk => f k j (by omega)) hC⟩
  · rw [if_neg c]
    exact ⟨_, _, _, _, rfl, (by rw [m_book h x m3 m1, if_neg c]), rfl, Inv_u0 (by omega) H'⟩
theorem s_over {k N : Nat} {h : Hp} {q : Qp} (H : Inv k N h q) (x : Int32) : ∃ a b h2, f_X11_over h x = some a ∧ f_X12_over h x = some (b, h2) ∧ a = b ∧ Inv (k + 1) N h2 q := by
  have H' := H
  obtain ⟨h0, R, C, hT, hF, hR, hB, hS, hO, hL, hK, hP, hC⟩ := H
  obtain ⟨m, m1, m2, m3, m4, m5⟩ := hK
  rw [k_over h x m2 m1, m_over h x m3 m1, earn_congr m4]
  by_cases c : 0 ≤ x ∧ x ≤ 99
  · simp only [if_pos c]
    exact ⟨_, _, _, rfl, rfl, rfl, Inv_u0 (by omega) H'⟩
  · simp only [if_neg c]
    exact ⟨_, _, _, rfl, rfl, rfl, Inv_u0 (by omega) H'⟩
theorem s_bestOver {k N : Nat} {h : Hp} {q : Qp} (H : Inv k N h q) : ∃ a b h2, f_X11_bestOver h = some a ∧ f_X12_bestOver h = some (b, h2) ∧ a = b ∧ Inv (k + 1) N h2 q := by
  have H' := H
  obtain ⟨h0, R, C, hT, hF, hR, hB, hS, hO, hL, hK, hP, hC⟩ := H
  obtain ⟨m, m1, m2, m3, m4, m5⟩ := hK
  rw [k_bestOver h m2 m1, m_bestOver h m3 m1, bestO_congr m4]
  exact ⟨_, _, _, rfl, rfl, rfl, Inv_u0 (by omega) H'⟩
theorem s_taste {k N : Nat} {h : Hp} {q : Qp} (H : Inv k N h q) (t y : Int32) : ∃ a h1 b h2, f_X11_taste h t y = some (a, h1) ∧ f_X12_taste h1 t y = some (b, h2) ∧ a = b ∧ Inv (k + 1) N h2 q := by
  have H' := H
  obtain ⟨h0, R, C, hT, hF, hR, hB, hS, hO, hL, hK, hP, hC⟩ := H
  rw [k_taste]
  by_cases c : 0 ≤ t ∧ t ≤ 9
  · rw [if_pos c]
    refine ⟨_, _, _, _, rfl, (by rw [m_taste, if_pos c]), ?_, ?_⟩
    all_goals obtain ⟨j, hj, ej⟩ := i_toNat (n := 9) rfl c.1 c.2
    all_goals rw [ej, ix_nI (by omega)]
    all_goals obtain ⟨m, m1, m2, m3, m4, m5⟩ := hK
    all_goals obtain ⟨a, b, x1, x2, x3, x4, x5, x6⟩ := m5 j (by omega)
    · simp [u2_at, x3, x4]
    · have f : ∀ k i, ¬ (k = 55 ∧ i = j ∨ k = 56 ∧ i = j ∨ k = 135 ∧ i = j ∨ k = 136 ∧ i = j ∨ k = 111 ∧ i = 0) → (u2 (u2 (u2 (u2 (u2 h 55 j (h 55 j + 1)) 56 j (h 56 j + (if y = 0 then 0 else 1))) 111 0 0) 135 j (u2 (u2 h 55 j (h 55 j + 1)) 56 j (h 56 j + (if y = 0 then 0 else 1)) 135 j + 1)) 136 j (u2 (u2 h 55 j (h 55 j + 1)) 56 j (h 56 j + (if y = 0 then 0 else 1)) 136 j + (if y = 0 then 0 else 1))) k i = h k i := fun k i hf => by
        rw [u2_at, if_neg (by omega), u2_at, if_neg (by omega), u2_at, if_neg (by omega), u2_at, if_neg (by omega), u2_at, if_neg (by omega)]
      refine ⟨h0, R, C, iT_keep (fun k i hk => f k i (by omega)) hT, iF_keep (fun k i hk => f k i (by omega)) hF, iR_keep (fun k i hk => f k i (by omega)) hR, iB_keep (fun k i hk => f k i (by omega)) hB, iS_keep (fun k i hk => f k i (by omega)) hS, iO_keep (Nat.le_refl _) (fun k i hk => f k i (by omega)) hO, iL_keep (fun k i hk => f k i (by omega)) hL, ?_, iP_keep (fun k i hk => f k i (by omega)) hP, iC_keep (fun k i hk => f k i (by omega)) hC⟩
      refine ⟨m, m1, by rw [f 53 3 (by omega)]; exact m2, by rw [f 111 39 (by omega)]; exact m3, fun i hi => by rw [f 54 i (by omega), f 134 i (by omega)]; exact m4 i hi, fun i hi => ?_⟩
      by_cases e : i = j
      · subst e
        by_cases y0 : y = 0
        · refine ⟨a + 1, b, by omega, by omega, ?_, ?_, ?_, ?_⟩
          · simp [u2_at, x3, nI_1]
          · simp [u2_at, x4, nI_1]
          · simp [u2_at, x5, y0]
          · simp [u2_at, x6, y0]
        · refine ⟨a + 1, b + 1, by omega, by omega, ?_, ?_, ?_, ?_⟩
          · simp [u2_at, x3, nI_1]
          · simp [u2_at, x4, nI_1]
          · simp [u2_at, x5, y0, nI_1]
          · simp [u2_at, x6, y0, nI_1]
      · obtain ⟨a', b', y1, y2, y3, y4, y5, y6⟩ := m5 i hi
        exact ⟨a', b', y1, by omega, by rw [f 55 i (by omega)]; exact y3, by rw [f 135 i (by omega)]; exact y4, by rw [f 56 i (by omega)]; exact y5, by rw [f 136 i (by omega)]; exact y6⟩
  · rw [if_neg c]
    exact ⟨_, _, _, _, rfl, (by rw [m_taste, if_neg c]), rfl, Inv_u0 (by omega) H'⟩
theorem s_brings {k N : Nat} {h : Hp} {q : Qp} (H : Inv k N h q) (hk : k ≤ 512) (t y : Int32) : ∃ a b h2, f_X11_brings h t y = some a ∧ f_X12_brings h t y = some (b, h2) ∧ a = b ∧ Inv (k + 1) N h2 q := by
  have H' := H
  obtain ⟨h0, R, C, hT, hF, hR, hB, hS, hO, hL, hK, hP, hC⟩ := H
  obtain ⟨m, m1, m2, m3, m4, m5⟩ := hK
  have g : ∀ j, j < 10 → ixr (h 56) j ≤ ixr (h 55) j ∧ ixr (h 55) j ≤ 600 ∧ h 56 j = nI (ixr (h 56) j) ∧ h 55 j = nI (ixr (h 55) j) ∧ h 136 j = nI (ixr (h 56) j) ∧ h 135 j = nI (ixr (h 55) j) := fun j hj => by
    obtain ⟨a, b, x1, x2, x3, x4, x5, x6⟩ := m5 j hj
    unfold ixr
    rw [x3, x4, x5, x6, ix_nI (by omega), ix_nI (by omega)]
    exact ⟨x1, by omega, rfl, rfl, rfl, rfl⟩
  rw [k_brings h t y (ixr (h 56)) (ixr (h 55)) (fun j hj => ⟨(g j hj).1, (g j hj).2.1, (g j hj).2.2.1, (g j hj).2.2.2.1⟩), m_brings h t y (ixr (h 56)) (ixr (h 55)) (fun j hj => ⟨(g j hj).1, (g j hj).2.1, (g j hj).2.2.2.2.1, (g j hj).2.2.2.2.2⟩)]
  by_cases c : 0 ≤ t ∧ t ≤ 9
  · simp only [if_pos c]
    exact ⟨_, _, _, rfl, rfl, rfl, Inv_u0 (by omega) H'⟩
  · simp only [if_neg c]
    exact ⟨_, _, _, rfl, rfl, rfl, Inv_u0 (by omega) H'⟩
theorem s_bestTaste {k N : Nat} {h : Hp} {q : Qp} (H : Inv k N h q) (hk : k ≤ 512) : ∃ a b h2, f_X11_bestTaste h = some a ∧ f_X12_bestTaste h = some (b, h2) ∧ a = b ∧ Inv (k + 1) N h2 q := by
  have H' := H
  obtain ⟨h0, R, C, hT, hF, hR, hB, hS, hO, hL, hK, hP, hC⟩ := H
  obtain ⟨m, m1, m2, m3, m4, m5⟩ := hK
  have g : ∀ j, j < 10 → ixr (h 56) j ≤ ixr (h 55) j ∧ ixr (h 55) j ≤ 600 ∧ h 56 j = nI (ixr (h 56) j) ∧ h 55 j = nI (ixr (h 55) j) ∧ h 136 j = nI (ixr (h 56) j) ∧ h 135 j = nI (ixr (h 55) j) := fun j hj => by
    obtain ⟨a, b, x1, x2, x3, x4, x5, x6⟩ := m5 j hj
    unfold ixr
    rw [x3, x4, x5, x6, ix_nI (by omega), ix_nI (by omega)]
    exact ⟨x1, by omega, rfl, rfl, rfl, rfl⟩
  rw [k_bestTaste h (ixr (h 56)) (ixr (h 55)) (fun j hj => ⟨(g j hj).1, (g j hj).2.1, (g j hj).2.2.1, (g j hj).2.2.2.1⟩), m_bestTaste h (ixr (h 56)) (ixr (h 55)) (fun j hj => ⟨(g j hj).1, (g j hj).2.1, (g j hj).2.2.2.2.1, (g j hj).2.2.2.2.2⟩)]
  exact ⟨_, _, _, rfl, rfl, rfl, Inv_u0 (by omega) H'⟩
