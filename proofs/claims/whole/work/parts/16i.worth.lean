/-! rounds: count, worth -/
def stn (B : Nat → Pr) (n : Nat) : Int32 := it (fun i a => a + (if B i 6 = 0 then 1 else 0)) n 0 0
theorem stn_congr {B B' : Nat → Pr} {n : Nat} (e : ∀ i, i < n → B i = B' i) : stn B n = stn B' n := it_congr n 0 0 (fun i a _ h2 => by rw [e i (by omega)])
theorem k_standing (h : Hp) {n : Nat} (hn : n ≤ 24) (e : h 7 3 = nI n) : f_X1_standing h = some (stn (fun i => crow h (10 + i)) n) := by
  have key := lpU (fun N j a => L_X1_standing_4 h N a (nI j)) (fun i a => a + (if crow h (10 + i) 6 = 0 then 1 else 0)) n id (fun _ _ => True)
    (fun N a _ => by simp only [L_X1_standing_4, e]; rw [if_pos (nI_le (Nat.le_refl n) (by omega))]; rfl)
    (fun N j a hj _ => ⟨by
      simp only [L_X1_standing_4, e, vB_def]
      rw [if_neg (nI_ge hj (by omega)), if_pos (inB_nI (show j < 24 by omega) (by omega)), ix_nI (by omega), ite_some, Option.bind_some, nI_1, crow_at h (10 + j) (show 6 < 13 by omega)], trivial⟩)
    n FU 0 0 (by omega) (FU_gt (by omega)) trivial
  simp only [f_X1_standing, vB_def]
  rw [show L_X1_standing_4 h FU 0 0 = _ from key.1, Option.bind_some]
  rfl
theorem m_standing (h : Hp) {n : Nat} (hn : n ≤ 24) (e : h 111 9 = nI n) : f_X12_standing h = some (stn (fun i => mrow h i) n) := by
  have key := lpU (fun N j a => L_X12_standing_4 h N a (nI j)) (fun i a => a + (if mrow h i 6 = 0 then 1 else 0)) n id (fun _ _ => True)
    (fun N a _ => by simp only [L_X12_standing_4, e]; rw [if_pos (nI_le (Nat.le_refl n) (by omega))]; rfl)
    (fun N j a hj _ => ⟨by
      simp only [L_X12_standing_4, e, vB_def]
      rw [if_neg (nI_ge hj (by omega)), if_pos (inB_nI (show j < 24 by omega) (by omega)), ix_nI (by omega), ite_some, Option.bind_some, nI_1]
      rfl, trivial⟩)
    n FU 0 0 (by omega) (FU_gt (by omega)) trivial
  simp only [f_X12_standing, vB_def]
  rw [show L_X12_standing_4 h FU 0 0 = _ from key.1, Option.bind_some]
  rfl
theorem s_count {k N : Nat} {h : Hp} {q : Qp} (H : Inv k N h q) (x : Int32) : ∃ a b h2, f_X11_count h x = some a ∧ f_X12_count h x = some (b, h2) ∧ a = b ∧ Inv (k + 1) N h2 q := by
  have H' := Inv_u0 (Nat.le_succ k) H
  obtain ⟨h0, R, C, hT, hF, hR, hB, hS, hO, hL, hK, hP, hC⟩ := H
  obtain ⟨n, n1, n2, n3, n4, n5, n6⟩ := hB
  have ms := m_standing (u2 h 111 0 0) n2 (by rw [u0_j _ _ (by decide)]; exact n4)
  simp only [mrow_u0] at ms
  rw [← stn_congr (B := fun i => crow h (10 + i)) (fun i hi => (n6 i hi).1)] at ms
  obtain ⟨a1, b1, b2, b3, _⟩ := hT
  obtain ⟨a2, c1, c2, c3, _⟩ := hO
  obtain ⟨a3, d1, d2, d3, _⟩ := hL
  obtain ⟨a4, g1, g2, g3, _⟩ := hK
  simp only [f_X11_count, f_X12_count, vB_def, k_standing h n2 n3, ms, Option.bind_some, u0_j _ _ (show 9 ≠ 0 by decide), u0_j _ _ (show 18 ≠ 0 by decide), u0_j _ _ (show 26 ≠ 0 by decide), u0_j _ _ (show 35 ≠ 0 by decide), u0_j _ _ (show 2 ≠ 0 by decide), u0_j _ _ (show 39 ≠ 0 by decide), n3, n4, n5, b2, b3, c2, c3, d2, d3, g2, g3]
  by_cases x0 : x = 0
  · simp only [if_pos x0]; exact ⟨_, _, _, rfl, rfl, rfl, H'⟩
  by_cases x1 : x = 1
  · simp only [if_neg x0, if_pos x1]; exact ⟨_, _, _, rfl, rfl, rfl, H'⟩
  by_cases x2 : x = 2
  · simp only [if_neg x0, if_neg x1, if_pos x2]; exact ⟨_, _, _, rfl, rfl, rfl, H'⟩
  by_cases x3 : x = 3
  · simp only [if_neg x0, if_neg x1, if_neg x2, if_pos x3]; exact ⟨_, _, _, rfl, rfl, rfl, H'⟩
  by_cases x4 : x = 4
  · simp only [if_neg x0, if_neg x1, if_neg x2, if_neg x3, if_pos x4]; exact ⟨_, _, _, rfl, rfl, rfl, H'⟩
  by_cases x5 : x = 5
  · simp only [if_neg x0, if_neg x1, if_neg x2, if_neg x3, if_neg x4, if_pos x5]; exact ⟨_, _, _, rfl, rfl, rfl, H'⟩
  by_cases x6 : x = 6
  · simp only [if_neg x0, if_neg x1, if_neg x2, if_neg x3, if_neg x4, if_neg x5, if_pos x6]; exact ⟨_, _, _, rfl, rfl, rfl, H'⟩
  simp only [if_neg x0, if_neg x1, if_neg x2, if_neg x3, if_neg x4, if_neg x5, if_neg x6]
  exact ⟨_, _, _, rfl, rfl, rfl, H'⟩
def wrt (R C P E : Int32) (B : Nat → Pr) (n : Nat) : Int32 := it (fun i a => a + (if B i 6 = 0 then pWt (B i) * (if pEnd R C (B i) = 0 then P else E) else 0)) n 0 0
theorem wrt_congr {R C P E : Int32} {B B' : Nat → Pr} {n : Nat} (e : ∀ i, i < n → B i = B' i) : wrt R C P E B n = wrt R C P E B' n := it_congr n 0 0 (fun i a _ h2 => by rw [e i (by omega)])
theorem k_worth (h : Hp) {n : Nat} (hn : n ≤ 24) (e : h 7 3 = nI n) : f_X11_worth h = some (wrt (h 3 3) (h 3 4) (h 0 9) (h 0 10) (fun i => crow h (10 + i)) n) := by
  have key := lpU (fun N j a => L_X11_worth_4 h N a (nI j)) (fun i a => a + (if crow h (10 + i) 6 = 0 then pWt (crow h (10 + i)) * (if pEnd (h 3 3) (h 3 4) (crow h (10 + i)) = 0 then h 0 9 else h 0 10) else 0)) n id (fun _ _ => True)
    (fun N a _ => by simp only [L_X11_worth_4, e]; rw [if_pos (nI_le (Nat.le_refl n) (by omega))]; rfl)
    (fun N j a hj _ => ⟨by
      simp only [L_X11_worth_4, e, vB_def]
      rw [if_neg (nI_ge hj (by omega)), if_pos (inB_nI (show j < 24 by omega) (by omega)), ix_nI (by omega), nI_1]
      simp only [k_weight, k_isEnd, Option.bind_some, ite_some]
      rw [← crow_at h (10 + j) (show 6 < 13 by omega)]
      by_cases z : crow h (10 + j) 6 = 0
      · simp only [if_pos z]
      · simp only [if_neg z, Int32.add_zero], trivial⟩)
    n FU 0 0 (by omega) (FU_gt (by omega)) trivial
  simp only [f_X11_worth, vB_def]
  rw [show L_X11_worth_4 h FU 0 0 = _ from key.1, Option.bind_some]
  rfl
theorem m_worth (h : Hp) {n R C : Nat} (hn : n ≤ 24) (hR : R ≤ 6) (hC : C ≤ 6) (e : h 111 9 = nI n) (ok : ∀ i, i < n → okQ (h 113) R C (mrow h i)) : L_X12_worth_9 h FU 0 0 = some (wrt (h 111 4) (h 111 5) (h 111 43) (h 111 44) (mrow h) n) := by
  have key := lpU (fun N j a => L_X12_worth_9 h N a (nI j)) (fun i a => a + (if mrow h i 6 = 0 then pWt (mrow h i) * (if pEnd (h 111 4) (h 111 5) (mrow h i) = 0 then h 111 43 else h 111 44) else 0)) n id (fun _ _ => True)
    (fun N a _ => by simp only [L_X12_worth_9, e]; rw [if_pos (nI_le (Nat.le_refl n) (by omega))]; rfl)
    (fun N j a hj _ => ⟨by
      obtain ⟨r, c, hh, w, o⟩ := ok j hj
      simp only [L_X12_worth_9, e, vB_def]
      rw [if_neg (nI_ge hj (by omega)), if_pos (inB_nI (show j < 24 by omega) (by omega)), ix_nI (by omega), nI_1]
      simp only [m_weighsOf h (show j < 24 by omega) hR hC o, m_isEnd h (show j < 24 by omega), Option.bind_some, ite_some]
      rfl, trivial⟩)
    n FU 0 0 (by omega) (FU_gt (by omega)) trivial
  exact key.1
theorem s_worth {k N : Nat} {h : Hp} {q : Qp} (H : Inv k N h q) : ∃ a b h2, f_X11_worth h = some a ∧ f_X12_worth h = some (b, h2) ∧ a = b ∧ Inv (k + 1) N h2 q := by
  have H' := Inv_u0 (Nat.le_succ k) H
  obtain ⟨h0, R, C, hT, hF, hR, hB, hS, hO, hL, hK, hP, hC⟩ := H
  obtain ⟨n, n1, n2, n3, n4, n5, n6⟩ := hB
  have mw := m_worth (u2 h 111 0 0) (R := R) (C := C) n2 hF.2.1 hF.2.2.2.1 (by rw [u0_j _ _ (by decide)]; exact n4) (fun i hi => by rw [mrow_u0, u0_ne _ _ (by decide)]; exact (n6 i hi).2)
  rw [show mrow (u2 h 111 0 0) = mrow h from funext (fun i => mrow_u0 h 0 0 i), u0_j _ _ (by decide), u0_j _ _ (by decide), u0_j _ _ (by decide), u0_j _ _ (by decide), hF.2.2.2.2.2.2.1, hF.2.2.2.2.2.2.2.1, ← hP.1, ← hP.2] at mw
  simp only [f_X12_worth, vB_def, mw, Option.bind_some, k_worth h n2 n3, hF.2.2.2.2.1, hF.2.2.2.2.2.1]
  exact ⟨_, _, _, rfl, rfl, wrt_congr (fun i hi => (n6 i hi).1), H'⟩
