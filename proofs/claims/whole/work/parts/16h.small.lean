/-! rounds: place, wipe, unleft, unorder -/
theorem k_kindAt (h : Hp) {R C r c : Nat} (hF : iF h R C) (hr : r < R) (hc : c < C) : f_X4_kindAt h (nI r) (nI c) = some (h 113 (6 * r + c)) := by
  obtain ⟨e1, e2⟩ := hF.2.2.2.2.2.2.2.2.1 r c hr hc
  have hR := hF.2.1
  have hC := hF.2.2.2.1
  unfold f_X4_kindAt
  rw [ix6', if_pos (inB_nI (show 6 * r + c < 36 by omega) (by omega)), vB_def, ix_nI (by omega), e1]
  rcases e2 with e | e | e <;> rw [e] <;> rfl
theorem s_place {k N : Nat} {h : Hp} {q : Qp} (H : Inv k N h q) (x y : Int32) : ∃ a b h2, f_X11_place h x y = some a ∧ f_X12_place h x y = some (b, h2) ∧ a = b ∧ Inv (k + 1) N h2 q := by
  have H' := Inv_u0 (Nat.le_succ k) H
  obtain ⟨h0, R, C, hT, hF, hR, hB, hS, hO, hL, hK, hP, hC⟩ := H
  have hF' := hF
  obtain ⟨R1, R2, C1, C2, f1, f2, f3, f4, f5, f6, f7, f8⟩ := hF
  simp only [f_X11_place, f_X12_place, vB_def, u0_j _ _ (show 4 ≠ 0 by decide), u0_j _ _ (show 5 ≠ 0 by decide), f3, f4]
  by_cases c1 : ∃ i, i < R ∧ x = nI i
  · obtain ⟨r, hr, rfl⟩ := c1
    by_cases c2 : ∃ i, i < C ∧ y = nI i
    · obtain ⟨c, hc, rfl⟩ := c2
      have e : f_X4_holds h (nI r) (nI c) 1 1 = some 1 := by
        unfold f_X4_holds
        rw [if_neg (nI_pos (by omega)), f1, if_neg (nI_ge hr (by omega)), if_neg (nI_pos (by omega)), f2, if_neg (nI_ge hc (by omega)), if_neg (by decide), nI_sub (by omega), if_neg (f_gt 1 rfl (by omega) (by omega)), if_neg (by decide), nI_sub (by omega), if_neg (f_gt 1 rfl (by omega) (by omega))]
      rw [e, Option.bind_some, if_neg (by decide), k_kindAt h hF' hr hc, Option.bind_some, in_0_in (by omega) hr, Option.bind_some, if_neg (by decide), in_0_in (by omega) hc, Option.bind_some, if_neg (by decide), ix6, if_pos (inB_nI (show 6 * r + c < 36 by omega) (by omega)), ix_nI (by omega), u0_ne _ _ (by decide)]
      exact ⟨_, _, _, rfl, rfl, rfl, H'⟩
    · have e : f_X4_holds h (nI r) y 1 1 = some 0 := by
        unfold f_X4_holds
        rw [if_neg (nI_pos (by omega)), f1, if_neg (nI_ge hr (by omega))]
        by_cases c : y < 0
        · rw [if_pos c]
        · obtain ⟨j, hj, rfl⟩ := nI_of c
          rw [if_neg c, f2, if_pos (nI_le (Nat.not_lt.mp (fun q => c2 ⟨j, q, rfl⟩)) hj)]
      rw [e, Option.bind_some, if_pos rfl, in_0_in (by omega) hr, Option.bind_some, if_neg (by decide), in_0_out C1 (by omega) c2, Option.bind_some, if_pos rfl]
      exact ⟨_, _, _, rfl, rfl, rfl, H'⟩
  · have e : f_X4_holds h x y 1 1 = some 0 := by
      unfold f_X4_holds
      by_cases c : x < 0
      · rw [if_pos c]
      · obtain ⟨j, hj, rfl⟩ := nI_of c
        rw [if_neg c, f1, if_pos (nI_le (Nat.not_lt.mp (fun q => c1 ⟨j, q, rfl⟩)) hj)]
    rw [e, Option.bind_some, if_pos rfl, in_0_out R1 (by omega) c1, Option.bind_some, if_pos rfl]
    exact ⟨_, _, _, rfl, rfl, rfl, H'⟩
theorem s_wipe {k N : Nat} {h : Hp} {q : Qp} (H : Inv k N h q) : ∃ a h1 b h2, f_X11_wipe h = some (a, h1) ∧ f_X12_wipe h1 = some (b, h2) ∧ a = b ∧ Inv (k + 1) N h2 q := by
  obtain ⟨h0, R, C, hT, hF, hR, hB, hS, hO, hL, hK, hP, hC⟩ := H
  obtain ⟨n, n1, n2, n3, n4⟩ := hT
  refine ⟨h 1 1, u2 h 1 1 0, h 111 2, u2 (u2 (u2 h 1 1 0) 111 0 0) 111 2 0, rfl, ?_, by rw [n2, n3], ?_⟩
  · simp [f_X12_wipe, vB_def, u2_at]
  · have ff : ∀ k j, ¬ (k = 1 ∧ j = 1 ∨ k = 111 ∧ (j = 0 ∨ j = 2)) → (u2 (u2 (u2 h 1 1 0) 111 0 0) 111 2 0) k j = h k j := fun k j hf => by
      rw [u2_at, if_neg (by omega), u2_at, if_neg (by omega), u2_at, if_neg (by omega)]
    exact ⟨h0, R, C, ⟨0, by omega, by simp [u2_at]; rfl, by simp [u2_at]; rfl, fun i hi => absurd hi (by omega)⟩, iF_keep (fun k j hk => ff k j (by omega)) hF, iR_keep (fun k j hk => ff k j (by omega)) hR, iB_keep (fun k j hk => ff k j (by omega)) hB, iS_keep (fun k j hk => ff k j (by omega)) hS, iO_keep (Nat.le_refl _) (fun k j hk => ff k j (by omega)) hO, iL_keep (fun k j hk => ff k j (by omega)) hL, iK_keep (by omega) (fun k j hk => ff k j (by omega)) hK, iP_keep (fun k j hk => ff k j (by omega)) hP, iC_keep (fun k j hk => ff k j (by omega)) hC⟩
theorem s_unleft {k N : Nat} {h : Hp} {q : Qp} (H : Inv k N h q) : ∃ a h1 b h2, f_X11_unleft h = some (a, h1) ∧ f_X12_unleft h1 = some (b, h2) ∧ a = b ∧ Inv (k + 1) N h2 q := by
  obtain ⟨h0, R, C, hT, hF, hR, hB, hS, hO, hL, hK, hP, hC⟩ := H
  obtain ⟨n, n1, n2, n3, n4, n5⟩ := hL
  refine ⟨h 47 7, u2 (u2 h 47 7 0) 47 8 0, h 111 35, u2 (u2 (u2 (u2 h 47 7 0) 47 8 0) 111 0 0) 111 35 0, rfl, ?_, by rw [n2, n3], ?_⟩
  · simp [f_X12_unleft, vB_def, u2_at]
  · have ff : ∀ k j, ¬ (k = 47 ∧ (j = 7 ∨ j = 8) ∨ k = 111 ∧ (j = 0 ∨ j = 35)) → (u2 (u2 (u2 (u2 h 47 7 0) 47 8 0) 111 0 0) 111 35 0) k j = h k j := fun k j hf => by
      rw [u2_at, if_neg (by omega), u2_at, if_neg (by omega), u2_at, if_neg (by omega), u2_at, if_neg (by omega)]
    exact ⟨h0, R, C, iT_keep (fun k j hk => ff k j (by omega)) hT, iF_keep (fun k j hk => ff k j (by omega)) hF, iR_keep (fun k j hk => ff k j (by omega)) hR, iB_keep (fun k j hk => ff k j (by omega)) hB, iS_keep (fun k j hk => ff k j (by omega)) hS, iO_keep (Nat.le_refl _) (fun k j hk => ff k j (by omega)) hO, ⟨0, by omega, by simp [u2_at]; rfl, by simp [u2_at]; rfl, fun i hi => absurd hi (by omega), Or.inl (by simp [u2_at])⟩, iK_keep (by omega) (fun k j hk => ff k j (by omega)) hK, iP_keep (fun k j hk => ff k j (by omega)) hP, iC_keep (fun k j hk => ff k j (by omega)) hC⟩
theorem s_unorder {k N : Nat} {h : Hp} {q : Qp} (H : Inv k N h q) : ∃ a h1 b h2, f_X11_unorder h = some (a, h1) ∧ f_X12_unorder h1 = some (b, h2) ∧ a = b ∧ Inv (k + 1) N h2 q := by
  obtain ⟨h0, R, C, hT, hF, hR, hB, hS, hO, hL, hK, hP, hC⟩ := H
  obtain ⟨n, n1, n2, n3, n4, n5⟩ := hO
  refine ⟨h 41 5, u2 (u2 h 41 5 0) 41 6 0, h 111 26, u2 (u2 (u2 (u2 h 41 5 0) 41 6 0) 111 0 0) 111 26 0, rfl, ?_, by rw [n2, n3], ?_⟩
  · simp [f_X12_unorder, vB_def, u2_at]
  · have ff : ∀ k j, ¬ (k = 41 ∧ (j = 5 ∨ j = 6) ∨ k = 111 ∧ (j = 0 ∨ j = 26)) → (u2 (u2 (u2 (u2 h 41 5 0) 41 6 0) 111 0 0) 111 26 0) k j = h k j := fun k j hf => by
      rw [u2_at, if_neg (by omega), u2_at, if_neg (by omega), u2_at, if_neg (by omega), u2_at, if_neg (by omega)]
    exact ⟨h0, R, C, iT_keep (fun k j hk => ff k j (by omega)) hT, iF_keep (fun k j hk => ff k j (by omega)) hF, iR_keep (fun k j hk => ff k j (by omega)) hR, iB_keep (fun k j hk => ff k j (by omega)) hB, iS_keep (fun k j hk => ff k j (by omega)) hS, ⟨0, by omega, by simp [u2_at]; rfl, by simp [u2_at]; rfl, fun i hi => absurd hi (by omega), Or.inl (by simp [u2_at])⟩, iL_keep (fun k j hk => ff k j (by omega)) hL, iK_keep (by omega) (fun k j hk => ff k j (by omega)) hK, iP_keep (fun k j hk => ff k j (by omega)) hP, iC_keep (fun k j hk => ff k j (by omega)) hC⟩
