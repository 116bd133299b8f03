/-! rounds: pass, the reference's side -/
theorem fcS_congr (R C : Int32) {p p' : Pr} (s : Nat) (h : ∀ j, j < 4 → p j = p' j) : fcS R C p s = fcS R C p' s := by
  unfold fcS edA edB edL edR
  rw [h 0 (by omega), h 1 (by omega), h 2 (by omega), h 3 (by omega)]
theorem dryQ_at (R C x : Int32) (p : Pr) {s : Nat} (hs : s < 4) : dryQ R C x p (9 + s) = p (9 + s) + (if p 6 = 0 then eachP p x * fcS R C p s else 0) := by
  unfold dryQ
  by_cases z : p 6 = 0
  · rw [if_pos z, if_pos z]
    rcases (by omega : s = 0 ∨ s = 1 ∨ s = 2 ∨ s = 3) with rfl | rfl | rfl | rfl <;> simp [dryP, setp, fcS]
  · rw [if_neg z, if_neg z, Int32.add_zero]
theorem dryQ_ne (R C x : Int32) (p : Pr) {j : Nat} (hj : j < 9 ∨ 13 ≤ j) : dryQ R C x p j = p j := by
  unfold dryQ
  by_cases z : p 6 = 0
  · rw [if_pos z]
    unfold dryP
    rw [setp_ne _ _ (by omega), setp_ne _ _ (by omega), setp_ne _ _ (by omega), setp_ne _ _ (by omega)]
  · rw [if_neg z]
theorem mrow_d (h : Hp) (i : Nat) {s : Nat} (hs : s < 4) : mrow h i (9 + s) = h 122 (4 * i + s) := by
  rcases (by omega : s = 0 ∨ s = 1 ∨ s = 2 ∨ s = 3) with rfl | rfl | rfl | rfl <;> rfl
theorem mrow_low {h' h : Hp} {i j : Nat} (hj : j < 9 ∨ 13 ≤ j) (e : ∀ k, k ≠ 122 → h' k = h k) : mrow h' i j = mrow h i j := by
  by_cases h13 : j < 13
  · rcases j13 h13 with rfl | rfl | rfl | rfl | rfl | rfl | rfl | rfl | rfl | rfl | rfl | rfl | rfl <;> first | omega | simp [mrow, e]
  · rw [mrow_far _ _ h13, mrow_far _ _ h13]
theorem m_passIn (T : Hp) {i R C : Nat} (x : Int32) (hi : i < 24) (e4 : T 111 4 = nI R) (e5 : T 111 5 = nI C) :
    ∃ T', L_X12_pass_75 x (nI i) (if mrow T i 7 = 0 then 10 else if mrow T i 7 = 1 then 5 else 2) FU 0 T = some T' ∧ mrow T' i = dryQ (nI R) (nI C) x (mrow T i) ∧ (∀ t, t ≠ i → mrow T' t = mrow T t) ∧ ∀ k, k ≠ 122 → T' k = T k := by
  obtain ⟨T', q1, q2, q3, q4⟩ := lpE (fun N j a => L_X12_pass_75 x (nI i) (if mrow T i 7 = 0 then 10 else if mrow T i 7 = 1 then 5 else 2) N (nI j) a) 4 id
    (fun j a => (∀ s, s < j → a 122 (4 * i + s) = dryQ (nI R) (nI C) x (mrow T i) (9 + s)) ∧ (∀ t, ¬ (4 * i ≤ t ∧ t < 4 * i + j) → a 122 t = T 122 t) ∧ ∀ k, k ≠ 122 → a k = T k)
    (fun N a hP => by simp only [L_X12_pass_75]; rw [if_pos (by decide)]; rfl)
    (fun N j a hj hP => by
      obtain ⟨p1, p2, p3⟩ := hP
      have mf : f_X12_face a (nI i) (nI j) = some (fcS (nI R) (nI C) (mrow T i) j) := by
        rw [m_face a hi hj, p3 111 (by omega), e4, e5, fcS_congr (nI R) (nI C) (p := mrow a i) (p' := mrow T i) j (fun t ht => mrow_low (by omega) p3)]
      simp only [L_X12_pass_75, vB_def, ix4]
      rw [if_neg (f_le 4 rfl (by omega) (by omega)), if_pos (inB_nI (show 4 * i + j < 96 by omega) (by omega)), if_pos (inB_nI hi (by omega)), ix_nI (show i < 2147483648 by omega), mf, Option.bind_some, ite_some, Option.bind_some, if_pos (inB_nI (show 4 * i + j < 96 by omega) (by omega)), ix_nI (show 4 * i + j < 2147483648 by omega), nI_1, p3 119 (by omega)]
      refine ⟨_, rfl, ?_, ?_, ?_⟩
      · intro s hs
        by_cases e : s = j
        · subst e
          rw [u2_at, if_pos ⟨rfl, rfl⟩, p2 _ (by omega), dryQ_at _ _ _ _ hj, mrow_d T i hj]
          rfl
        · rw [u2_at, if_neg (by omega), p1 s (by omega)]
      · intro t ht
        rw [u2_at, if_neg (by omega), p2 t (by omega)]
      · intro k hk
        rw [u2_ne _ _ _ hk, p3 k hk])
    4 FU 0 T rfl (FU_gt (by omega)) ⟨fun s hs => absurd hs (by omega), fun t _ => rfl, fun k _ => rfl⟩
  refine ⟨T', q1, ?_, ?_, q4⟩
  · funext j
    by_cases hj : j < 9 ∨ 13 ≤ j
    · rw [mrow_low hj q4, dryQ_ne _ _ _ _ hj]
    · obtain ⟨s, rfl, hs⟩ : ∃ s, j = 9 + s ∧ s < 4 := ⟨j - 9, by omega, by omega⟩
      rw [mrow_d T' i hs, q2 s hs]
  · intro t ht
    exact mrow_congr (q4 113 (by omega)) (fun k _ _ => by rw [q4 k (by omega)]) (fun s hs => q3 _ (by omega))
theorem m_passLoop (h : Hp) {n R C : Nat} (x : Int32) (hn : n ≤ 24) (e9 : h 111 9 = nI n) (e4 : h 111 4 = nI R) (e5 : h 111 5 = nI C) :
    ∃ h', L_X12_pass_34 x FU 0 h = some h' ∧ (∀ i, i < n → mrow h' i = dryQ (nI R) (nI C) x (mrow h i)) ∧ ∀ k, k ≠ 122 → h' k = h k := by
  obtain ⟨T', q1, q2, q3, q4⟩ := lpE (fun N j a => L_X12_pass_34 x N (nI j) a) n id
    (fun j a => (∀ i, i < j → mrow a i = dryQ (nI R) (nI C) x (mrow h i)) ∧ (∀ i, j ≤ i → mrow a i = mrow h i) ∧ ∀ k, k ≠ 122 → a k = h k)
    (fun N a hP => by simp only [L_X12_pass_34]; rw [hP.2.2 111 (by omega), e9, if_pos (nI_le (Nat.le_refl n) (by omega))]; rfl)
    (fun N j a hj hP => by
      obtain ⟨p1, p2, p3⟩ := hP
      obtain ⟨T', t1, t2, t3, t4⟩ := m_passIn a (i := j) (R := R) (C := C) x (by omega) (by rw [p3 111 (by omega)]; exact e4) (by rw [p3 111 (by omega)]; exact e5)
      simp only [L_X12_pass_34, vB_def]
      rw [p3 111 (by omega), e9, if_neg (nI_ge hj (by omega)), if_pos (inB_nI (show j < 24 by omega) (by omega)), if_pos (inB_nI (show j < 24 by omega) (by omega)), ix_nI (by omega), nI_1, ite_some, ite_some, Option.bind_some]
      rw [show (if a 120 j = 0 then (10 : Int32) else if a 120 j = 1 then 5 else 2) = (if mrow a j 7 = 0 then 10 else if mrow a j 7 = 1 then 5 else 2) from rfl, t1, Option.bind_some]
      refine ⟨T', rfl, ?_, ?_, ?_⟩
      · intro i hi
        by_cases e : i = j
        · subst e
          rw [t2, p2 i (by omega)]
        · rw [t3 i e, p1 i (by omega)]
      · intro i hi
        rw [t3 i (by omega), p2 i (by omega)]
      · intro k hk
        rw [t4 k hk, p3 k hk])
    n FU 0 h (by omega) (FU_gt (by omega)) ⟨fun i hi => absurd hi (by omega), fun i _ => rfl, fun k _ => rfl⟩
  exact ⟨T', q1, q2, q4⟩
theorem dryQ_ok {K : Nat → Int32} {R C r c hh w : Nat} {p : Pr} (a b x : Int32) (ok : okP K R C p r c hh w) : okP K R C (dryQ a b x p) r c hh w := by
  unfold okP at *
  rw [dryQ_ne _ _ _ _ (by omega), dryQ_ne _ _ _ _ (by omega), dryQ_ne _ _ _ _ (by omega), dryQ_ne _ _ _ _ (by omega), dryQ_ne _ _ _ _ (by omega), dryQ_ne _ _ _ _ (by omega), dryQ_ne _ _ _ _ (by omega)]
  exact ok
theorem s_pass {k N : Nat} {h : Hp} {q : Qp} (H : Inv k N h q) (x : Int32) : ∃ a h1 b h2, f_X11_pass h x = some (a, h1) ∧ f_X12_pass h1 x = some (b, h2) ∧ a = b ∧ Inv (k + 1) N h2 q := by
  have H' := Inv_u0 (Nat.le_succ k) H
  obtain ⟨h0, R, C, hT, hF, hR, hB, hS, hO, hL, hK, hP, hC⟩ := H
  obtain ⟨n, n1, n2, n3, n4, n5, n6⟩ := hB
  have e1 := in_i x 1 999
  unfold f_X11_pass
  by_cases c1 : x < 1
  · rw [if_pos c1]
    refine ⟨_, _, _, _, rfl, ?_, rfl, H'⟩
    simp only [f_X12_pass, vB_def]
    rw [show f_X12_in x.toInt64 1 999 = _ from e1, if_neg (show ¬ (1 ≤ x ∧ x ≤ 999) from fun p => absurd p.1 (i_nle.mpr c1)), Option.bind_some, if_pos rfl]
  · rw [if_neg c1]
    by_cases c2 : 999 < x
    · rw [if_pos c2]
      refine ⟨_, _, _, _, rfl, ?_, rfl, H'⟩
      simp only [f_X12_pass, vB_def]
      rw [show f_X12_in x.toInt64 1 999 = _ from e1, if_neg (show ¬ (1 ≤ x ∧ x ≤ 999) from fun p => absurd p.2 (i_nle.mpr c2)), Option.bind_some, if_pos rfl]
    · rw [if_neg c2]
      have cc : 1 ≤ x ∧ x ≤ 999 := ⟨i_nlt.mp c1, i_nlt.mp c2⟩
      by_cases c3 : h 7 4 + x ≤ 9999
      · rw [if_pos c3]
        obtain ⟨g, g1, g2, g3, g4⟩ := k_goBy h (R := R) (C := C) x n2 n3 (fun i hi => by
          obtain ⟨ci, r, c, hh, w, ok⟩ := n6 i hi
          rw [ci]
          exact ok.2.2.2.2.2.2.2.2.2.2) hF.2.2.2.2.1 hF.2.2.2.2.2.1
        have gm : ∀ t, mrow (u2 g 111 0 0) t = mrow h t := fun t => by rw [mrow_u0]; exact mrow_keep t (fun k j hk => g4 k j (by omega))
        obtain ⟨f, f1, f2, f3⟩ := m_passLoop (u2 g 111 0 0) (n := n) (R := R) (C := C) x n2 (by rw [u0_j _ _ (by decide), g4 111 9 (by omega)]; exact n4) (by rw [u0_j _ _ (by decide), g4 111 4 (by omega)]; exact hF.2.2.2.2.2.2.1) (by rw [u0_j _ _ (by decide), g4 111 5 (by omega)]; exact hF.2.2.2.2.2.2.2.1)
        have f18 : f 111 18 = h 111 18 := by rw [f3 111 (by omega), u0_j _ _ (by decide), g4 111 18 (by omega)]
        rw [g1, Option.bind_some]
        refine ⟨_, _, h 111 18 + x, u2 f 111 18 (h 111 18 + x), rfl, ?_, by rw [g2, n5], ?_⟩
        · simp only [f_X12_pass, vB_def]
          rw [show f_X12_in x.toInt64 1 999 = _ from e1, if_pos cc, Option.bind_some, if_neg (by decide), u0_j _ _ (by decide), g4 111 18 (by omega), ← n5, if_pos c3, f1, Option.bind_some, f18, n5, u2_at, if_pos ⟨rfl, rfl⟩]
        · have ff : ∀ k j, ¬ (k = 7 ∧ j = 4 ∨ 10 ≤ k ∧ k ≤ 33 ∨ k = 111 ∧ (j = 0 ∨ j = 18) ∨ k = 122) → (u2 f 111 18 (h 111 18 + x)) k j = h k j := fun k j hf => by
            rw [u2_at, if_neg (by omega), f3 k (by omega), u2_at, if_neg (by omega), g4 k j (by omega)]
          have k113 : (u2 f 111 18 (h 111 18 + x)) 113 = h 113 := row_eq (fun j => ff 113 j (by omega))
          refine ⟨h0, R, C, iT_keep (fun k j hk => ff k j (by omega)) hT, iF_keep (fun k j hk => ff k j (by omega)) hF, iR_keep (fun k j hk => ff k j (by omega)) hR, ?_, iS_keep (fun k j hk => ff k j (by omega)) hS, iO_keep (Nat.le_refl _) (fun k j hk => ff k j (by omega)) hO, iL_keep (fun k j hk => ff k j (by omega)) hL, iK_keep (by omega) (fun k j hk => ff k j (by omega)) hK, iP_keep (fun k j hk => ff k j (by omega)) hP, iC_keep (fun k j hk => ff k j (by omega)) hC⟩
          refine ⟨n, n1, n2, by rw [ff 7 3 (by omega)]; exact n3, by rw [ff 111 9 (by omega)]; exact n4, ?_, fun t ht => ?_⟩
          · rw [u2_at, if_neg (by omega), f3 7 (by omega), u2_at, if_neg (by omega), g2, u2_at, if_pos ⟨rfl, rfl⟩, n5]
          · obtain ⟨ci, r, c, hh, w, ok⟩ := n6 t ht
            rw [k113, mrow_u0 f, f2 t ht, gm, crow_keep (h := g) (fun j => by rw [u2_at, if_neg (by omega), f3 _ (by omega), u2_at, if_neg (by omega)]), g3 t ht, ci]
            exact ⟨rfl, r, c, hh, w, dryQ_ok _ _ _ ok⟩
      · rw [if_neg c3]
        refine ⟨_, _, _, _, rfl, ?_, rfl, H'⟩
        simp only [f_X12_pass, vB_def]
        rw [show f_X12_in x.toInt64 1 999 = _ from e1, if_pos cc, Option.bind_some, if_neg (by decide), u0_j _ _ (by decide), ← n5, if_neg c3]
