/-! rounds: pieces -/
theorem k_knows_in (h : Hp) {n i : Nat} (hn : n ≤ 24) (e : h 7 3 = nI n) (hi : i < n) : f_X1_knows h (nI i) = some 1 := by
  unfold f_X1_knows
  rw [if_neg (nI_pos (by omega)), e, if_neg (nI_ge hi (by omega))]
theorem k_knows_out (h : Hp) {n : Nat} {x : Int32} (hn : n ≤ 24) (e : h 7 3 = nI n) (hx : ¬ ∃ i, i < n ∧ x = nI i) : f_X1_knows h x = some 0 := by
  unfold f_X1_knows
  by_cases c : x < 0
  · rw [if_pos c]
  · obtain ⟨j, hj, ej⟩ := nI_of c
    rw [if_neg c, e, ej, if_pos (nI_le (Nat.not_lt.mp (fun q => hx ⟨j, q, ej⟩)) hj)]
theorem in_0 (x : Int32) {n : Nat} (h1 : 1 ≤ n) (hn : n ≤ 100) : f_X12_in x.toInt64 0 ((nI n - 1).toInt64) = some (if 0 ≤ x ∧ x ≤ nI (n - 1) then 1 else 0) := by
  obtain ⟨m, rfl⟩ : ∃ m, n = m + 1 := ⟨n - 1, by omega⟩
  rw [nI_pred]
  exact in_i x 0 (nI m)
theorem in_0_in {n i : Nat} (hn : n ≤ 100) (hi : i < n) : f_X12_in (nI i).toInt64 0 ((nI n - 1).toInt64) = some 1 := by
  rw [in_0 _ (by omega) hn, if_pos ⟨nI_pos' (by omega), nI_le (by omega) (by omega)⟩]
theorem in_0_out {n : Nat} {x : Int32} (h1 : 1 ≤ n) (hn : n ≤ 100) (hx : ¬ ∃ i, i < n ∧ x = nI i) : f_X12_in x.toInt64 0 ((nI n - 1).toInt64) = some 0 := by
  rw [in_0 _ h1 hn, if_neg]
  rintro ⟨a, b⟩
  obtain ⟨j, hj, ej⟩ := nI_of (i_nlt.mpr a)
  subst ej
  exact hx ⟨j, by have := (nI_leI hj (by omega)).mp b; omega, rfl⟩
theorem m_noPiece_in (h : Hp) {n i : Nat} (hn : n ≤ 24) (e : h 111 9 = nI n) (hi : i < n) : f_X12_noPiece h (nI i) = some 0 := by
  unfold f_X12_noPiece
  rw [e, in_0_in (by omega) hi, Option.bind_some, if_neg (by decide)]
theorem m_noPiece_out (h : Hp) {n : Nat} {x : Int32} (h1 : 1 ≤ n) (hn : n ≤ 24) (e : h 111 9 = nI n) (hx : ¬ ∃ i, i < n ∧ x = nI i) : f_X12_noPiece h x = some 1 := by
  unfold f_X12_noPiece
  rw [e, in_0_out h1 (by omega) hx, Option.bind_some, if_pos rfl]
theorem k_still_in (h : Hp) {n i : Nat} (hn : n ≤ 24) (e : h 7 3 = nI n) (hi : i < n) : f_X1_stillHas h (nI i) = some (if h (10 + i) 6 = 0 then 1 else 0) := by
  unfold f_X1_stillHas
  rw [k_knows_in h hn e hi, Option.bind_some, if_neg (by decide), if_pos (inB_nI (by omega) (by omega)), vB_def, ix_nI (by omega), ite_some]
theorem k_still_out (h : Hp) {n : Nat} {x : Int32} (hn : n ≤ 24) (e : h 7 3 = nI n) (hx : ¬ ∃ i, i < n ∧ x = nI i) : f_X1_stillHas h x = some 0 := by
  unfold f_X1_stillHas
  rw [k_knows_out h hn e hx, Option.bind_some, if_pos rfl]
theorem m_still_in (h : Hp) {n i : Nat} (hn : n ≤ 24) (e : h 111 9 = nI n) (hi : i < n) : f_X12_noStand h (nI i) = some (if h 119 i = 0 then 0 else 1) := by
  unfold f_X12_noStand
  rw [m_noPiece_in h hn e hi, Option.bind_some, if_pos rfl, if_pos (inB_nI (by omega) (by omega)), ix_nI (by omega), ite_some]
theorem m_still_out (h : Hp) {n : Nat} {x : Int32} (h1 : 1 ≤ n) (hn : n ≤ 24) (e : h 111 9 = nI n) (hx : ¬ ∃ i, i < n ∧ x = nI i) : f_X12_noStand h x = some 1 := by
  unfold f_X12_noStand
  rw [m_noPiece_out h h1 hn e hx, Option.bind_some, if_neg (by decide)]
theorem mrow_u0 (h : Hp) (j : Nat) (v : Int32) (i : Nat) : mrow (u2 h 111 j v) i = mrow h i := mrow_keep i (fun k b hk => by rw [u2_at, if_neg (by omega)])
theorem u0_ne (h : Hp) (v : Int32) {k : Nat} (hk : k ≠ 111) : u2 h 111 0 v k = h k := u2_ne _ _ _ hk
theorem u0_j (h : Hp) (v : Int32) {j : Nat} (hj : j ≠ 0) : u2 h 111 0 v 111 j = h 111 j := by rw [u2_at, if_neg (by omega)]
theorem cr_at {h : Hp} {i j : Nat} (hc : crow h (10 + i) = mrow h i) (hj : j < 13) : h (10 + i) j = mrow h i j := by rw [← crow_at h (10 + i) hj, hc]
theorem s_weighs {k N : Nat} {h : Hp} {q : Qp} (H : Inv k N h q) (x : Int32) : ∃ a b h2, f_X11_weighs h x = some a ∧ f_X12_weighs h x = some (b, h2) ∧ a = b ∧ Inv (k + 1) N h2 q := by
  have H' := Inv_u0 (Nat.le_succ k) H
  obtain ⟨h0, R, C, hT, hF, hR, hB, hS, hO, hL, hK, hP, hC⟩ := H
  obtain ⟨n, n1, n2, n3, n4, n5, n6⟩ := hB
  unfold f_X11_weighs f_X12_weighs
  simp only [vB_def]
  by_cases c : ∃ i, i < n ∧ x = nI i
  · obtain ⟨i, hi, rfl⟩ := c
    obtain ⟨ci, r, c, hh, w, ok⟩ := n6 i hi
    rw [k_knows_in h n2 n3 hi, m_noPiece_in _ n2 (by rw [u0_j _ _ (by decide)]; exact n4) hi]
    have ok' : okP (u2 h 111 0 0 113) R C (mrow (u2 h 111 0 0) i) r c hh w := by rw [mrow_u0, u0_ne _ _ (by decide)]; exact ok
    simp only [Option.bind_some, show ¬ (1 : Int32) = 0 by decide, if_false, if_true, if_pos (inB_nI (show i < 24 by omega) (by omega)), ix_nI (show i < 2147483648 by omega), k_weight, ci, m_weighsOf _ (show i < 24 by omega) hF.2.1 hF.2.2.2.1 ok', mrow_u0]
    exact ⟨_, _, _, rfl, rfl, rfl, H'⟩
  · rw [k_knows_out h n2 n3 c, m_noPiece_out _ n1 n2 (by rw [u0_j _ _ (by decide)]; exact n4) c]
    simp only [Option.bind_some, show ¬ (1 : Int32) = 0 by decide, if_false, if_true]
    exact ⟨_, _, _, rfl, rfl, rfl, H'⟩
theorem s_about {k N : Nat} {h : Hp} {q : Qp} (H : Inv k N h q) (x y : Int32) : ∃ a b h2, f_X11_about h x y = some a ∧ f_X12_about h x y = some (b, h2) ∧ a = b ∧ Inv (k + 1) N h2 q := by
  have H' := Inv_u0 (Nat.le_succ k) H
  obtain ⟨h0, R, C, hT, hF, hR, hB, hS, hO, hL, hK, hP, hC⟩ := H
  obtain ⟨n, n1, n2, n3, n4, n5, n6⟩ := hB
  unfold f_X11_about f_X12_about
  simp only [vB_def]
  by_cases c : ∃ i, i < n ∧ x = nI i
  · obtain ⟨i, hi, rfl⟩ := c
    obtain ⟨ci, r, c, hh, w, ok⟩ := n6 i hi
    rw [k_knows_in h n2 n3 hi, m_noPiece_in _ n2 (by rw [u0_j _ _ (by decide)]; exact n4) hi]
    have ok' : okP (u2 h 111 0 0 113) R C (mrow (u2 h 111 0 0) i) r c hh w := by rw [mrow_u0, u0_ne _ _ (by decide)]; exact ok
    have cr := fun j hj => cr_at (j := j) ci hj
    have mr := m_rind (u2 h 111 0 0) hF.2.1 hF.2.2.2.1 ok'
    have me := m_edges (u2 h 111 0 0) (show i < 24 by omega)
    have mn := m_isEnd (u2 h 111 0 0) (show i < 24 by omega)
    have md := m_allDried (u2 h 111 0 0) (show i < 24 by omega)
    rw [mrow_u0] at mr me mn md
    rw [u0_j _ _ (by decide), u0_j _ _ (by decide), hF.2.2.2.2.2.2.1, hF.2.2.2.2.2.2.2.1] at me mn
    simp only [Option.bind_some, show ¬ (1 : Int32) = 0 by decide, if_false, if_true, if_pos (inB_nI (show i < 24 by omega) (by omega)), ix_nI (show i < 2147483648 by omega), k_bare, k_dried, k_isEnd, f_X7_block, ci, mr, me, mn, md, hF.2.2.2.2.1, hF.2.2.2.2.2.1]
    by_cases y0 : y = 0
    · simp only [if_pos y0, cr 0 (by omega), cr 1 (by omega), cr 2 (by omega), cr 3 (by omega), u0_ne _ _ (show 115 ≠ 111 by decide), u0_ne _ _ (show 116 ≠ 111 by decide), u0_ne _ _ (show 117 ≠ 111 by decide), u0_ne _ _ (show 118 ≠ 111 by decide)]
      exact ⟨_, _, _, rfl, rfl, rfl, H'⟩
    by_cases y1 : y = 1
    · simp only [if_neg y0, if_pos y1, cr 6 (by omega), u0_ne _ _ (show 119 ≠ 111 by decide)]
      exact ⟨_, _, _, rfl, rfl, rfl, H'⟩
    by_cases y2 : y = 2
    · simp only [if_neg y0, if_neg y1, if_pos y2, cr 5 (by omega)]
      exact ⟨_, _, _, rfl, rfl, rfl, H'⟩
    by_cases y3 : y = 3
    · simp only [if_neg y0, if_neg y1, if_neg y2, if_pos y3]
      exact ⟨_, _, _, rfl, rfl, rfl, H'⟩
    by_cases y4 : y = 4
    · simp only [if_neg y0, if_neg y1, if_neg y2, if_neg y3, if_pos y4]
      exact ⟨_, _, _, rfl, rfl, rfl, H'⟩
    by_cases y5 : y = 5
    · simp only [if_neg y0, if_neg y1, if_neg y2, if_neg y3, if_neg y4, if_pos y5, cr 8 (by omega), u0_ne _ _ (show 121 ≠ 111 by decide)]
      exact ⟨_, _, _, rfl, rfl, rfl, H'⟩
    by_cases y6 : y = 6
    · simp only [if_neg y0, if_neg y1, if_neg y2, if_neg y3, if_neg y4, if_neg y5, if_pos y6, cr 7 (by omega), u0_ne _ _ (show 120 ≠ 111 by decide)]
      exact ⟨_, _, _, rfl, rfl, rfl, H'⟩
    by_cases y7 : y = 7
    · simp only [if_neg y0, if_neg y1, if_neg y2, if_neg y3, if_neg y4, if_neg y5, if_neg y6, if_pos y7]
      by_cases z : pEnd (nI R) (nI C) (mrow h i) = 0
      · simp only [if_pos z]
        exact ⟨_, _, _, rfl, rfl, rfl, H'⟩
      · simp only [if_neg z]
        exact ⟨_, _, _, rfl, rfl, rfl, H'⟩
    simp only [if_neg y0, if_neg y1, if_neg y2, if_neg y3, if_neg y4, if_neg y5, if_neg y6, if_neg y7]
    exact ⟨_, _, _, rfl, rfl, rfl, H'⟩
  · rw [k_knows_out h n2 n3 c, m_noPiece_out _ n1 n2 (by rw [u0_j _ _ (by decide)]; exact n4) c]
    simp only [Option.bind_some, show ¬ (1 : Int32) = 0 by decide, if_false, if_true]
    exact ⟨_, _, _, rfl, rfl, rfl, H'⟩
