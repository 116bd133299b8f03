/-! rounds: sell, trim -/
theorem s_sell {k N : Nat} {h : Hp} {q : Qp} (H : Inv k N h q) (x y : Int32) : ∃ a h1 b h2, f_X11_sell h x y = some (a, h1) ∧ f_X12_sell h1 x y = some (b, h2) ∧ a = b ∧ Inv (k + 1) N h2 q := by
  have H' := Inv_u0 (Nat.le_succ k) H
  obtain ⟨h0, R, C, hT, hF, hR, hB, hS, hO, hL, hK, hP, hC⟩ := H
  obtain ⟨n, n1, n2, n3, n4, n5, n6⟩ := hB
  have e111 : ∀ g : Hp, g 111 9 = nI n → u2 g 111 0 0 111 9 = nI n := fun g e => by rw [u0_j _ _ (by decide)]; exact e
  unfold f_X11_sell
  by_cases c : ∃ i, i < n ∧ x = nI i
  · obtain ⟨i, hi, rfl⟩ := c
    obtain ⟨ci, r, c, hh, w, ok⟩ := n6 i hi
    have cr := fun j hj => cr_at (j := j) ci hj
    have hb : inB (nI i) 24 := inB_nI (by omega) (by omega)
    have i6 : h (10 + i) 6 = h 119 i := cr 6 (by omega)
    rw [k_still_in h n2 n3 hi, Option.bind_some, i6]
    by_cases z : h 119 i = 0
    · simp only [if_pos z, show ¬ (1 : Int32) = 0 by decide, if_false, if_pos hb, vB_def, ix_nI (show i < 2147483648 by omega), ite_some, Option.bind_some, k_weight]
      generalize hv : (if y = 0 then (1 : Int32) else 2) = v
      have f : ∀ k j, ¬ (k = 10 + i ∧ j = 6 ∨ k = 111 ∧ j = 0 ∨ k = 119 ∧ j = i) → (u2 (u2 (u2 h (10 + i) 6 v) 111 0 0) 119 i v) k j = h k j := fun k j hf => by
        rw [u2_at, if_neg (by omega), u2_at, if_neg (by omega), u2_at, if_neg (by omega)]
      have k113 : (u2 (u2 (u2 h (10 + i) 6 v) 111 0 0) 119 i v) 113 = h 113 := row_eq (fun j => f 113 j (by omega))
      have m1 : mrow (u2 (u2 (u2 h (10 + i) 6 v) 111 0 0) 119 i v) i = setp (mrow h i) 6 v := by
        rw [mrow_set6, mrow_ne _ _ _ _ (by decide) (by omega), mrow_ne _ _ _ _ (by omega) (by omega)]
      have c1 : crow (u2 (u2 (u2 h (10 + i) 6 v) 111 0 0) 119 i v) (10 + i) = setp (crow h (10 + i)) 6 v := by
        rw [crow_ne _ _ _ (by omega), crow_ne _ _ _ (by omega), crow_set _ _ _ (by omega)]
      have ok' : okP (h 113) R C (setp (mrow h i) 6 v) r c hh w := okP_set v (by omega) ok
      refine ⟨_, _, pWt (setp (mrow h i) 6 v), u2 (u2 (u2 h (10 + i) 6 v) 111 0 0) 119 i v, rfl, ?_, ?_, ?_⟩
      · have e4 : u2 h (10 + i) 6 v 111 9 = nI n := by rw [u2_ne _ _ _ (by omega)]; exact n4
        simp only [f_X12_sell, vB_def]
        rw [m_still_in _ n2 (e111 _ e4) hi, u0_ne _ _ (by decide), u2_ne _ _ _ (by omega), if_pos z, Option.bind_some, if_pos rfl, ite_some, hv, Option.bind_some, if_pos hb, ix_nI (by omega), m_weighsOf _ (show i < 24 by omega) hF.2.1 hF.2.2.2.1 (by rw [k113, m1]; exact ok'), Option.bind_some, m1]
      · rw [crow_set _ _ _ (by omega), ci]
      · refine ⟨h0, R, C, iT_keep (fun k j hk => f k j (by omega)) hT, iF_keep (fun k j hk => f k j (by omega)) hF, iR_keep (fun k j hk => f k j (by omega)) hR, ?_, iS_keep (fun k j hk => f k j (by omega)) hS, iO_keep (Nat.le_refl _) (fun k j hk => f k j (by omega)) hO, iL_keep (fun k j hk => f k j (by omega)) hL, iK_keep (by omega) (fun k j hk => f k j (by omega)) hK, iP_keep (fun k j hk => f k j (by omega)) hP, iC_keep (fun k j hk => f k j (by omega)) hC⟩
        refine ⟨n, n1, n2, by rw [f 7 3 (by omega)]; exact n3, by rw [f 111 9 (by omega)]; exact n4, by rw [f 7 4 (by omega), f 111 18 (by omega)]; exact n5, fun t ht => ?_⟩
        rw [k113]
        by_cases e : t = i
        · subst e
          rw [m1, c1, ci]
          exact ⟨rfl, r, c, hh, w, ok'⟩
        · rw [crow_ne _ _ _ (by omega), crow_ne _ _ _ (by omega), crow_ne _ _ _ (by omega), mrow_oth _ _ e (by omega), mrow_ne _ _ _ _ (by decide) (by omega), mrow_ne _ _ _ _ (by omega) (by omega)]
          exact n6 t ht
    · simp only [if_neg z, if_true]
      refine ⟨_, _, _, _, rfl, ?_, rfl, H'⟩
      simp only [f_X12_sell, vB_def]
      rw [m_still_in _ n2 (e111 h n4) hi, u0_ne _ _ (by decide), if_neg z, Option.bind_some, if_neg (by decide)]
  · rw [k_still_out h n2 n3 c, Option.bind_some, if_pos rfl]
    refine ⟨_, _, _, _, rfl, ?_, rfl, H'⟩
    simp only [f_X12_sell, vB_def]
    rw [m_still_out _ n1 n2 (e111 h n4) c, Option.bind_some, if_neg (by decide)]
-- trim
def dry0 (p : Pr) : Pr := setp (setp (setp (setp p 9 0) 10 0) 11 0) 12 0
def trimP (R C : Int32) (p : Pr) : Pr := dry0 (setp p 8 (p 8 + (pDry p / 40 + pEd R C p)))
def c4 (h : Hp) (a : Nat) : Hp := u2 (u2 (u2 (u2 h a 9 0) a 10 0) a 11 0) a 12 0
def m4 (h : Hp) (i : Nat) : Hp := u2 (u2 (u2 (u2 h 122 (4 * i + 0) 0) 122 (4 * i + 1) 0) 122 (4 * i + 2) 0) 122 (4 * i + 3) 0
theorem c4_row (h : Hp) (a : Nat) : crow (c4 h a) a = dry0 (crow h a) := by
  unfold c4 dry0
  rw [crow_set _ _ _ (by omega), crow_set _ _ _ (by omega), crow_set _ _ _ (by omega), crow_set _ _ _ (by omega)]
theorem m4_row (h : Hp) (i : Nat) : mrow (m4 h i) i = dry0 (mrow h i) := by
  unfold m4 dry0
  rw [mrow_setd _ _ _ (by omega), mrow_setd _ _ _ (by omega), mrow_setd _ _ _ (by omega), mrow_setd _ _ _ (by omega)]
theorem c4_ne (h : Hp) {a k : Nat} (hk : k ≠ a) : c4 h a k = h k := by
  unfold c4
  rw [u2_ne _ _ _ hk, u2_ne _ _ _ hk, u2_ne _ _ _ hk, u2_ne _ _ _ hk]
theorem m4_ne (h : Hp) {i k : Nat} (hk : k ≠ 122) : m4 h i k = h k := by
  unfold m4
  rw [u2_ne _ _ _ hk, u2_ne _ _ _ hk, u2_ne _ _ _ hk, u2_ne _ _ _ hk]
theorem m4_oth (h : Hp) {i i' : Nat} (e : i' ≠ i) : mrow (m4 h i) i' = mrow h i' := by
  unfold m4
  rw [mrow_othd _ _ e (by omega), mrow_othd _ _ e (by omega), mrow_othd _ _ e (by omega), mrow_othd _ _ e (by omega)]
theorem ok_dry0 {K : Nat → Int32} {R C r c hh w : Nat} {p : Pr} (ok : okP K R C p r c hh w) : okP K R C (dry0 p) r c hh w := okP_set _ (by omega) (okP_set _ (by omega) (okP_set _ (by omega) (okP_set _ (by omega) ok)))
theorem m_trimLoop (h : Hp) {i : Nat} (hi : i < 24) : L_X12_trim_46 (nI i) FU 0 h = some (m4 h i) := by
  have key := lpU (fun n j a => L_X12_trim_46 (nI i) n (nI j) a) (fun j a => u2 a 122 (4 * i + j) 0) 4 id (fun _ _ => True)
    (fun n a _ => by simp only [L_X12_trim_46]; rw [if_pos (by decide)]; rfl)
    (fun n j a hj _ => ⟨by
      simp only [L_X12_trim_46, vB_def, ix4]
      rw [if_neg (f_le 4 rfl (by omega) (by omega)), if_pos (inB_nI (by omega) (by omega)), ix_nI (by omega), nI_1], trivial⟩)
    4 FU 0 h rfl (FU_gt (by omega)) trivial
  exact key.1
theorem s_trim {k N : Nat} {h : Hp} {q : Qp} (H : Inv k N h q) (x : Int32) : ∃ a h1 b h2, f_X11_trim h x = some (a, h1) ∧ f_X12_trim h1 x = some (b, h2) ∧ a = b ∧ Inv (k + 1) N h2 q := by
  have H' := Inv_u0 (Nat.le_succ k) H
  obtain ⟨h0, R, C, hT, hF, hR, hB, hS, hO, hL, hK, hP, hC⟩ := H
  obtain ⟨n, n1, n2, n3, n4, n5, n6⟩ := hB
  have e111 : ∀ g : Hp, g 111 9 = nI n → u2 g 111 0 0 111 9 = nI n := fun g e => by rw [u0_j _ _ (by decide)]; exact e
  unfold f_X11_trim
  by_cases c : ∃ i, i < n ∧ x = nI i
  · obtain ⟨i, hi, rfl⟩ := c
    obtain ⟨ci, r, c, hh, w, ok⟩ := n6 i hi
    have cr := fun j hj => cr_at (j := j) ci hj
    have hb : inB (nI i) 24 := inB_nI (by omega) (by omega)
    have i6 : h (10 + i) 6 = h 119 i := cr 6 (by omega)
    have i8 : h (10 + i) 8 = mrow h i 8 := cr 8 (by omega)
    rw [k_still_in h n2 n3 hi, Option.bind_some, i6]
    by_cases z : h 119 i = 0
    · simp only [if_pos z, show ¬ (1 : Int32) = 0 by decide, if_false, if_pos hb, vB_def, ix_nI (show i < 2147483648 by omega), Option.bind_some, k_weight, f_X7_shave, k_dried, k_bare, f_X7_dryAnew, ci, i8, hF.2.2.2.2.1, hF.2.2.2.2.2.1]
      generalize hv : mrow h i 8 + (pDry (mrow h i) / 40 + pEd (nI R) (nI C) (mrow h i)) = v
      show ∃ a h1 b h2, some (pWt (mrow h i) - pWt (crow (c4 (u2 h (10 + i) 8 v) (10 + i)) (10 + i)), c4 (u2 h (10 + i) 8 v) (10 + i)) = some (a, h1) ∧ _
      have h1' : ∃ g, g = c4 (u2 h (10 + i) 8 v) (10 + i) := ⟨_, rfl⟩
      obtain ⟨g, hg⟩ := h1'
      have gk : ∀ k, k ≠ 10 + i → g k = h k := fun k hk => by rw [hg, c4_ne _ hk, u2_ne _ _ _ hk]
      have gc : crow g (10 + i) = trimP (nI R) (nI C) (mrow h i) := by rw [hg, c4_row, crow_set _ _ _ (by omega), ci, ← hv]; rfl
      have gm : ∀ t, t < 24 → mrow g t = mrow h t := fun t ht => mrow_keep t (fun k j hk => by rw [gk k (by omega)])
      have g113 : g 113 = h 113 := gk 113 (by omega)
      rw [← hg]
      have f : ∀ k j, ¬ (k = 10 + i ∨ k = 111 ∧ j = 0 ∨ k = 121 ∧ j = i ∨ k = 122) → (m4 (u2 (u2 g 111 0 0) 121 i v) i) k j = h k j := fun k j hf => by
        rw [m4_ne _ (by omega), u2_at, if_neg (by omega), u2_at, if_neg (by omega), gk k (by omega)]
      have k113 : (m4 (u2 (u2 g 111 0 0) 121 i v) i) 113 = h 113 := row_eq (fun j => f 113 j (by omega))
      have m1 : mrow (m4 (u2 (u2 g 111 0 0) 121 i v) i) i = trimP (nI R) (nI C) (mrow h i) := by
        rw [m4_row, mrow_set8, mrow_ne _ _ _ _ (by decide) (by omega), gm i (by omega), ← hv]
        rfl
      have ok' : okP (h 113) R C (trimP (nI R) (nI C) (mrow h i)) r c hh w := ok_dry0 (okP_set _ (by omega) ok)
      refine ⟨_, _, pWt (mrow h i) - pWt (trimP (nI R) (nI C) (mrow h i)), m4 (u2 (u2 g 111 0 0) 121 i v) i, rfl, ?_, by rw [gc], ?_⟩
      · have e4 : g 111 9 = nI n := by rw [gk _ (by omega)]; exact n4
        have ma := m_allDried (u2 g 111 0 0) (show i < 24 by omega)
        have me := m_edges (u2 g 111 0 0) (show i < 24 by omega)
        have mw := m_weighsOf (u2 g 111 0 0) (show i < 24 by omega) hF.2.1 hF.2.2.2.1 (by rw [mrow_u0, gm i (by omega), u0_ne _ _ (by decide), g113]; exact ok)
        rw [mrow_u0, gm i (by omega)] at ma me mw
        rw [u0_j _ _ (by decide), u0_j _ _ (by decide), gk 111 (by omega), hF.2.2.2.2.2.2.1, hF.2.2.2.2.2.2.2.1] at me
        simp only [f_X12_trim, vB_def]
        rw [m_still_in _ n2 (e111 _ e4) hi, u0_ne _ _ (by decide), gk 119 (by omega), if_pos z, Option.bind_some, if_pos rfl, mw, Option.bind_some, if_pos hb, ma, Option.bind_some, me, Option.bind_some, if_pos hb, ix_nI (by omega), u0_ne _ _ (show 121 ≠ 111 by decide), gk 121 (by omega), show h 121 i = mrow h i 8 from rfl, hv, m_trimLoop _ (show i < 24 by omega), Option.bind_some, m_weighsOf _ (show i < 24 by omega) hF.2.1 hF.2.2.2.1 (by rw [k113, m1]; exact ok'), Option.bind_some, m1]
      · refine ⟨h0, R, C, iT_keep (fun k j hk => f k j (by omega)) hT, iF_keep (fun k j hk => f k j (by omega)) hF, iR_keep (fun k j hk => f k j (by omega)) hR, ?_, iS_keep (fun k j hk => f k j (by omega)) hS, iO_keep (Nat.le_refl _) (fun k j hk => f k j (by omega)) hO, iL_keep (fun k j hk => f k j (by omega)) hL, iK_keep (by omega) (fun k j hk => f k j (by omega)) hK, iP_keep (fun k j hk => f k j (by omega)) hP, iC_keep (fun k j hk => f k j (by omega)) hC⟩
        refine ⟨n, n1, n2, by rw [f 7 3 (by omega)]; exact n3, by rw [f 111 9 (by omega)]; exact n4, by rw [f 7 4 (by omega), f 111 18 (by omega)]; exact n5, fun t ht => ?_⟩
        rw [k113]
        by_cases e : t = i
        · subst e
          rw [m1, crow_keep (h := g) (fun j => by rw [m4_ne _ (by omega), u2_ne _ _ _ (by omega), u2_ne _ _ _ (by omega)]), gc]
          exact ⟨rfl, r, c, hh, w, ok'⟩
        · rw [crow_keep (h := h) (fun j => f (10 + t) j (by omega)), m4_oth _ e, mrow_oth _ _ e (by omega), mrow_ne _ _ _ _ (by decide) (by omega), gm t (by omega)]
          exact n6 t ht
    · simp only [if_neg z, if_true]
      refine ⟨_, _, _, _, rfl, ?_, rfl, H'⟩
      simp only [f_X12_trim, vB_def]
      rw [m_still_in _ n2 (e111 h n4) hi, u0_ne _ _ (by decide), if_neg z, Option.bind_some, if_neg (by decide)]
  · rw [k_still_out h n2 n3 c, Option.bind_some, if_pos rfl]
    refine ⟨_, _, _, _, rfl, ?_, rfl, H'⟩
    simp only [f_X12_trim, vB_def]
    rw [m_still_out _ n1 n2 (e111 h n4) c, Option.bind_some, if_neg (by decide)]
