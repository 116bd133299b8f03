/-! rounds: keep, again (the steps) -/
theorem m_keepLoop (T : Hp) {s : Nat} (hs : s < 2) : ∃ T', L_X12_keep_30 (nI s) FU 0 T = some T' ∧ (∀ j, j < 266 → T' 124 (266 * s + j) = T 123 j) ∧ (∀ t, ¬ (266 * s ≤ t ∧ t < 266 * s + 266) → T' 124 t = T 124 t) ∧ ∀ k, k ≠ 124 → T' k = T k := by
  obtain ⟨T', q1, q2, q3, q4⟩ := lpE (fun N j a => L_X12_keep_30 (nI s) N (nI j) a) 266 id
    (fun j a => (∀ t, t < j → a 124 (266 * s + t) = T 123 t) ∧ (∀ t, ¬ (266 * s ≤ t ∧ t < 266 * s + j) → a 124 t = T 124 t) ∧ ∀ k, k ≠ 124 → a k = T k)
    (fun N a hP => by simp only [L_X12_keep_30]; rw [if_pos (by decide)]; rfl)
    (fun N j a hj hP => by
      obtain ⟨p1, p2, p3⟩ := hP
      simp only [L_X12_keep_30, vB_def, ix266]
      rw [if_neg (f_le 266 rfl (by omega) (by omega)), if_pos (inB_nI (show j < 266 by omega) (by omega)), if_pos (inB_nI (show 266 * s + j < 532 by omega) (by omega)), ix_nI (by omega), ix_nI (by omega), nI_1, p3 123 (by omega)]
      refine ⟨_, rfl, ?_, ?_, ?_⟩
      · intro t ht
        by_cases e : t = j
        · subst e; rw [u2_at, if_pos ⟨rfl, rfl⟩]
        · rw [u2_at, if_neg (by omega), p1 t (by omega)]
      · intro t ht
        rw [u2_at, if_neg (by omega), p2 t (by omega)]
      · intro k hk
        rw [u2_ne _ _ _ hk, p3 k hk])
    266 FU 0 T rfl (FU_gt (by omega)) ⟨fun s hs => absurd hs (by omega), fun t _ => rfl, fun k _ => rfl⟩
  exact ⟨T', q1, q2, q3, q4⟩
theorem m_againLoop (T : Hp) {s : Nat} (hs : s < 2) : ∃ T', L_X12_again_31 (nI s) FU 0 T = some T' ∧ (∀ j, j < 266 → T' 123 j = T 124 (266 * s + j)) ∧ ∀ k, k ≠ 123 → T' k = T k := by
  obtain ⟨T', q1, q2, q4⟩ := lpE (fun N j a => L_X12_again_31 (nI s) N (nI j) a) 266 id
    (fun j a => (∀ t, t < j → a 123 t = T 124 (266 * s + t)) ∧ ∀ k, k ≠ 123 → a k = T k)
    (fun N a hP => by simp only [L_X12_again_31]; rw [if_pos (by decide)]; rfl)
    (fun N j a hj hP => by
      obtain ⟨p1, p3⟩ := hP
      simp only [L_X12_again_31, vB_def, ix266]
      rw [if_neg (f_le 266 rfl (by omega) (by omega)), if_pos (inB_nI (show 266 * s + j < 532 by omega) (by omega)), if_pos (inB_nI (show j < 266 by omega) (by omega)), ix_nI (by omega), ix_nI (by omega), nI_1, p3 124 (by omega)]
      refine ⟨_, rfl, ?_, ?_⟩
      · intro t ht
        by_cases e : t = j
        · subst e; rw [u2_at, if_pos ⟨rfl, rfl⟩]
        · rw [u2_at, if_neg (by omega), p1 t (by omega)]
      · intro k hk
        rw [u2_ne _ _ _ hk, p3 k hk])
    266 FU 0 T rfl (FU_gt (by omega)) ⟨fun s hs => absurd hs (by omega), fun k _ => rfl⟩
  exact ⟨T', q1, q2, q4⟩
theorem i_lt2 (x : Int32) : x < 2 ↔ x ≤ 1 := by
  rw [Int32.lt_iff_toInt_lt, Int32.le_iff_toInt_le, show (2 : Int32).toInt = 2 from rfl, show (1 : Int32).toInt = 1 from rfl]; omega
theorem s_keep {k N : Nat} {h : Hp} {q : Qp} (H : Inv k N h q) (x : Int32) : ∃ a h1 b h2, f_X11_keep h x = some (a, h1) ∧ f_X12_keep h1 x = some (b, h2) ∧ a = b ∧ Inv (k + 1) N h2 q := by
  have H' := Inv_u0 (Nat.le_succ k) H
  obtain ⟨h0, R, C, hT, hF, hR, hB, hS, hO, hL, hK, hP, hC⟩ := H
  obtain ⟨n, n1, n2, n3, n4, n5, n6⟩ := hB
  have e1 : f_X12_in x.toInt64 0 1 = _ := in_i x 0 1
  by_cases c : 0 ≤ x ∧ x ≤ 1
  · obtain ⟨s, hs, rfl⟩ := i_toNat (n := 1) rfl c.1 c.2
    have hb : inB (nI s) 2 := inB_nI (by omega) (by omega)
    obtain ⟨g, g1, g2, g3, g4, g5⟩ := k_bBecome h (a0 := 57 + 27 * s) (a1 := 7) n2 n3 (by omega)
    have ks := k_standing (u2 g (57 + 27 * s) 5 1) n2 (by rw [u2_ne _ _ _ (by omega), g5 7 3 (by omega) (by omega)]; exact n3)
    obtain ⟨p, p1, p2, p3, p4, p5⟩ := m_putAside (u2 (u2 (u2 g (57 + 27 * s) 5 1) 111 0 0) 125 s 1)
    obtain ⟨f, f1, f2, f3, f4⟩ := m_keepLoop p (s := s) (by omega)
    have ff : ∀ k j, ¬ (k = 57 + 27 * s ∧ (j = 3 ∨ j = 4 ∨ j = 5) ∨ 57 + 27 * s + 3 ≤ k ∧ k < 57 + 27 * s + 27 ∨ k = 111 ∧ j = 0 ∨ k = 125 ∧ j = s ∨ k = 123 ∨ k = 124 ∧ 266 * s ≤ j ∧ j < 266 * s + 266) → f k j = h k j := fun k j hf => by
      by_cases k124 : k = 124
      · subst k124
        rw [f3 j (by omega), p5 _ (by omega), u2_at, if_neg (by omega), u2_at, if_neg (by omega), u2_at, if_neg (by omega), g5 _ j (by omega) (by omega)]
      · rw [f4 k k124, p5 k (by omega), u2_at, if_neg (by omega), u2_at, if_neg (by omega), u2_at, if_neg (by omega), g5 _ j (by omega) (by omega)]
    have k113 : f 113 = h 113 := row_eq (fun j => ff 113 j (by omega))
    have fm : ∀ i, mrow f i = mrow h i := fun i => mrow_keep i (fun k j hk => ff k j (by omega))
    have ms := m_standing f n2 (by rw [ff 111 9 (by omega)]; exact n4)
    refine ⟨stn (fun i => crow (u2 g (57 + 27 * s) 5 1) (10 + i)) n, u2 g (57 + 27 * s) 5 1, stn (fun i => mrow f i) n, f, ?_, ?_, ?_, ?_⟩
    · simp only [f_X11_keep, vB_def]
      rw [if_neg (i_nlt.mpr c.1), if_pos ((i_lt2 _).mpr c.2), if_pos hb, ix_nI (by omega), g1, Option.bind_some, if_pos hb, ks, Option.bind_some]
    · simp only [f_X12_keep, vB_def]
      rw [e1, if_pos c, Option.bind_some, if_neg (by decide), if_pos hb, ix_nI (by omega), p1, Option.bind_some, f1, Option.bind_some, ms, Option.bind_some]
    · refine stn_congr (fun i hi => ?_)
      show crow (u2 g (57 + 27 * s) 5 1) (10 + i) = mrow f i
      rw [fm, crow_ne _ _ _ (by omega), crow_keep (h := h) (fun j => g5 (10 + i) j (by omega) (by omega))]
      exact (n6 i hi).1
    · refine ⟨h0, R, C, iT_keep (fun k j hk => ff k j (by omega)) hT, iF_keep (fun k j hk => ff k j (by omega)) hF, iR_keep (fun k j hk => ff k j (by omega)) hR, ?_, ?_, iO_keep (Nat.le_refl _) (fun k j hk => ff k j (by omega)) hO, iL_keep (fun k j hk => ff k j (by omega)) hL, iK_keep (by omega) (fun k j hk => ff k j (by omega)) hK, iP_keep (fun k j hk => ff k j (by omega)) hP, iC_keep (fun k j hk => ff k j (by omega)) hC⟩
      · refine ⟨n, n1, n2, by rw [ff 7 3 (by omega)]; exact n3, by rw [ff 111 9 (by omega)]; exact n4, by rw [ff 7 4 (by omega), ff 111 18 (by omega)]; exact n5, fun i hi => ?_⟩
        rw [fm, k113, crow_keep (h := h) (fun j => ff (10 + i) j (by omega))]
        exact n6 i hi
      · intro t ht
        by_cases e : t = s
        · subst e
          have f5 : f (57 + 27 * t) 5 = 1 := by rw [f4 _ (by omega), p5 _ (by omega), u2_ne _ _ _ (by omega), u2_ne _ _ _ (by omega), u2_at, if_pos ⟨rfl, rfl⟩]
          have f125 : f 125 t = 1 := by rw [f4 _ (by omega), p5 _ (by omega), u2_at, if_pos ⟨rfl, rfl⟩]
          have fg : ∀ k j, k < 111 → ¬ (k = 57 + 27 * t ∧ j = 5) → f k j = g k j := fun k j hk hj => by
            rw [f4 k (by omega), p5 k (by omega), u2_at, if_neg (by omega), u2_at, if_neg (by omega), u2_at, if_neg (by omega)]
          rw [f5, f125]
          refine ⟨rfl, Or.inr ⟨n, n1, n2, by rw [fg _ _ (by omega) (by omega)]; exact g2, ?_, ?_, fun i hi => ?_⟩⟩
          · have := f2 0 (by omega)
            rw [Nat.add_zero] at this
            rw [this, p2, u2_at, if_neg (by omega), u2_at, if_neg (by omega), u2_at, if_neg (by omega), g5 _ _ (by omega) (by omega)]
            exact n4
          · rw [fg _ _ (by omega) (by omega), g3, f2 1 (by omega), p3, u2_at, if_neg (by omega), u2_at, if_neg (by omega), u2_at, if_neg (by omega), g5 _ _ (by omega) (by omega)]
            exact n5
          · have e2 : mrow h i = srow f t i := by
              refine mrow_srow k113.symm (fun j hj => ?_)
              rw [show 266 * t + 2 + 11 * i + j = 266 * t + (2 + 11 * i + j) by omega, f2 _ (by omega), p4 i j (by omega) hj]
              rcases j11 hj with rfl | rfl | rfl | rfl | rfl | rfl | rfl | rfl | rfl | rfl | rfl <;> simp only [c11] <;> rw [u2_at, if_neg (by omega), u2_at, if_neg (by omega), u2_at, if_neg (by omega), g5 _ _ (by omega) (by omega)]
            rw [← e2, k113, show 60 + 27 * t + i = 57 + 27 * t + 3 + i by omega, crow_keep (h := g) (fun j => fg _ j (by omega) (by omega)), g4 i hi]
            exact n6 i hi
        · obtain ⟨s1, s2⟩ := hS t ht
          rw [ff _ 5 (by omega), ff 125 t (by omega)]
          refine ⟨s1, s2.imp id ?_⟩
          rintro ⟨m, m1, m2, m3, m4, m5, m6⟩
          refine ⟨m, m1, m2, by rw [ff _ 3 (by omega)]; exact m3, by rw [ff 124 _ (by omega)]; exact m4, by rw [ff _ 4 (by omega), ff 124 _ (by omega)]; exact m5, fun i hi => ?_⟩
          rw [k113, srow_congr k113 (fun j hj => ff 124 _ (by omega)), crow_keep (h := h) (fun j => ff _ j (by omega))]
          exact m6 i hi
  · refine ⟨-1, h, -1, u2 h 111 0 0, ?_, ?_, rfl, H'⟩
    · simp only [f_X11_keep]
      by_cases x0 : x < 0
      · rw [if_pos x0]
      · rw [if_neg x0, if_neg (fun d => c ⟨i_nlt.mp x0, (i_lt2 _).mp d⟩)]
    · simp only [f_X12_keep, vB_def]
      rw [e1, if_neg c, Option.bind_some, if_pos rfl]
theorem s_again {k N : Nat} {h : Hp} {q : Qp} (H : Inv k N h q) (x : Int32) : ∃ a h1 b h2, f_X11_again h x = some (a, h1) ∧ f_X12_again h1 x = some (b, h2) ∧ a = b ∧ Inv (k + 1) N h2 q := by
  have H' := Inv_u0 (Nat.le_succ k) H
  obtain ⟨h0, R, C, hT, hF, hR, hB, hS, hO, hL, hK, hP, hC⟩ := H
  have e1 : f_X12_in x.toInt64 0 1 = _ := in_i x 0 1
  by_cases c : 0 ≤ x ∧ x ≤ 1
  · obtain ⟨s, hs, rfl⟩ := i_toNat (n := 1) rfl c.1 c.2
    have hb : inB (nI s) 2 := inB_nI (by omega) (by omega)
    obtain ⟨s1, s2⟩ := hS s (by omega)
    by_cases z : h 125 s = 0
    · refine ⟨-3, h, -3, u2 h 111 0 0, ?_, ?_, rfl, H'⟩
      · simp only [f_X11_again, vB_def]
        rw [if_neg (i_nlt.mpr c.1), if_pos ((i_lt2 _).mpr c.2), if_pos hb, ix_nI (by omega), s1, if_pos z]
      · simp only [f_X12_again, vB_def]
        rw [e1, if_pos c, Option.bind_some, if_neg (by decide), if_pos hb, ix_nI (by omega), u0_ne _ _ (by decide), if_pos z]
    · obtain ⟨n, n1, n2, n3, n4, n5, n6⟩ := s2.resolve_left z
      obtain ⟨g, g1, g2, g3, g4, g5⟩ := k_bBecome h (a0 := 7) (a1 := 57 + 27 * s) n2 n3 (by omega)
      have ks := k_standing g n2 g2
      obtain ⟨p, p1, p2, p5⟩ := m_againLoop (u2 g 111 0 0) (s := s) (by omega)
      obtain ⟨f, f1, f2, f3, f4, f5⟩ := m_takeBack p
      have ff : ∀ k j, ¬ (k = 7 ∧ (j = 3 ∨ j = 4) ∨ 10 ≤ k ∧ k < 34 ∨ k = 111 ∧ (j = 0 ∨ j = 9 ∨ j = 18) ∨ k = 123 ∨ 115 ≤ k ∧ k ≤ 122) → f k j = h k j := fun k j hf => by
        rw [f5 k j (by omega) (by omega), p5 k (by omega), u2_at, if_neg (by omega), g5 k j (by omega) (by omega)]
      have fg : ∀ k j, k < 111 → f k j = g k j := fun k j hk => by
        rw [f5 k j (by omega) (by omega), p5 k (by omega), u2_at, if_neg (by omega)]
      have k113 : f 113 = h 113 := row_eq (fun j => ff 113 j (by omega))
      have g124 : ∀ j, u2 g 111 0 0 124 j = h 124 j := fun j => by rw [u2_at, if_neg (by omega), g5 124 j (by omega) (by omega)]
      have f9 : f 111 9 = nI n := by
        rw [f2, p2 0 (by omega), g124, Nat.add_zero]
        exact n4
      have fm : ∀ i, i < n → mrow f i = srow h s i := fun i hi => by
        refine mrow_srow k113 (fun j hj => ?_)
        rw [f4 i j (by omega) hj, p2 _ (by omega), g124, show 266 * s + (2 + 11 * i + j) = 266 * s + 2 + 11 * i + j by omega]
      have gc : ∀ i, i < n → crow g (10 + i) = srow h s i := fun i hi => by
        rw [show crow g (10 + i) = crow g (7 + 3 + i) from rfl, g4 i hi, show 57 + 27 * s + 3 + i = 60 + 27 * s + i by omega]
        exact (n6 i hi).1
      have ms := m_standing f n2 f9
      refine ⟨stn (fun i => crow g (10 + i)) n, g, stn (fun i => mrow f i) n, f, ?_, ?_, ?_, ?_⟩
      · simp only [f_X11_again, vB_def]
        rw [if_neg (i_nlt.mpr c.1), if_pos ((i_lt2 _).mpr c.2), if_pos hb, if_pos hb, ix_nI (by omega), s1, if_neg z, g1, Option.bind_some, ks, Option.bind_some]
      · simp only [f_X12_again, vB_def]
        rw [e1, if_pos c, Option.bind_some, if_neg (by decide), if_pos hb, ix_nI (by omega), u0_ne _ _ (by decide), g5 125 s (by omega) (by omega), if_neg z, p1, Option.bind_some, f1, Option.bind_some, ms, Option.bind_some]
      · refine stn_congr (fun i hi => ?_)
        show crow g (10 + i) = mrow f i
        rw [fm i hi, gc i hi]
      · refine ⟨h0, R, C, iT_keep (fun k j hk => ff k j (by omega)) hT, iF_keep (fun k j hk => ff k j (by omega)) hF, iR_keep (fun k j hk => ff k j (by omega)) hR, ?_, iS_keep (fun k j hk => ff k j (by omega)) hS, iO_keep (Nat.le_refl _) (fun k j hk => ff k j (by omega)) hO, iL_keep (fun k j hk => ff k j (by omega)) hL, iK_keep (by omega) (fun k j hk => ff k j (by omega)) hK, iP_keep (fun k j hk => ff k j (by omega)) hP, iC_keep (fun k j hk => ff k j (by omega)) hC⟩
        refine ⟨n, n1, n2, by rw [fg 7 3 (by omega)]; exact g2, f9, ?_, fun i hi => ?_⟩
        · rw [fg 7 4 (by omega), g3, n5, f3, p2 1 (by omega), g124]
        · rw [fm i hi, k113, crow_keep (h := g) (fun j => fg (10 + i) j (by omega)), gc i hi]
          exact ⟨rfl, (n6 i hi).2⟩
  · refine ⟨-1, h, -1, u2 h 111 0 0, ?_, ?_, rfl, H'⟩
    · simp only [f_X11_again]
      by_cases x0 : x < 0
      · rw [if_pos x0]
      · rw [if_neg x0, if_neg (fun d => c ⟨i_nlt.mp x0, (i_lt2 _).mp d⟩)]
    · simp only [f_X12_again, vB_def]
      rw [e1, if_neg c, Option.bind_some, if_pos rfl]
