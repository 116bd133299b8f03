/-! rounds: wrap, sell, trim -/
theorem lpE {α β : Type} (F : Nat → Nat → α → Option β) (m : Nat) (g : α → β) (P : Nat → α → Prop)
    (h0 : ∀ n a, P m a → F (n + 1) m a = some (g a)) (hs : ∀ n j a, j < m → P j a → ∃ a', F (n + 1) j a = F n (j + 1) a' ∧ P (j + 1) a') :
    ∀ d n j a, j + d = m → d < n → P j a → ∃ a', F n j a = some (g a') ∧ P m a'
  | 0, n, j, a, hj, hn, hp => by
    obtain ⟨n, rfl⟩ : ∃ q, n = q + 1 := ⟨n - 1, by omega⟩
    have e : j = m := by omega
    subst e
    exact ⟨a, h0 n a hp, hp⟩
  | d + 1, n, j, a, hj, hn, hp => by
    obtain ⟨n, rfl⟩ : ∃ q, n = q + 1 := ⟨n - 1, by omega⟩
    obtain ⟨a', e1, e2⟩ := hs n j a (by omega) hp
    rw [e1]
    exact lpE F m g P h0 hs d n (j + 1) a' (by omega) (by omega) e2
def setp (p : Pr) (j : Nat) (v : Int32) : Pr := fun t => if t = j then v else p t
theorem setp_ne (p : Pr) {j t : Nat} (v : Int32) (h : t ≠ j) : setp p j v t = p t := if_neg h
theorem setp_eq (p : Pr) (j : Nat) (v : Int32) : setp p j v j = v := if_pos rfl
theorem crow_set (h : Hp) (a : Nat) {j : Nat} (v : Int32) (hj : j < 13) : crow (u2 h a j v) a = setp (crow h a) j v := by
  funext t
  unfold crow setp
  by_cases e : t = j
  · subst e
    simp [hj, u2_at]
  · simp [e, u2_at]
theorem crow_ne (h : Hp) {a b : Nat} (j : Nat) (v : Int32) (hab : a ≠ b) : crow (u2 h b j v) a = crow h a := by
  unfold crow
  rw [u2_ne _ _ _ hab]
theorem mrow_ne (h : Hp) {b : Nat} (j : Nat) (v : Int32) (i : Nat) (h1 : b ≠ 113) (h2 : b < 115 ∨ 122 < b) : mrow (u2 h b j v) i = mrow h i := mrow_keep i (fun k t hk => by rw [u2_at, if_neg (by omega)])
theorem mrow_far (h : Hp) (i : Nat) {t : Nat} (ht : ¬ t < 13) : mrow h i t = 0 := by
  obtain ⟨u, rfl⟩ : ∃ u, t = u + 13 := ⟨t - 13, by omega⟩
  rfl
theorem mrow_set6 (h : Hp) (i : Nat) (v : Int32) : mrow (u2 h 119 i v) i = setp (mrow h i) 6 v := by
  funext t
  by_cases ht : t < 13
  · rcases j13 ht with rfl | rfl | rfl | rfl | rfl | rfl | rfl | rfl | rfl | rfl | rfl | rfl | rfl <;> simp [mrow, setp, u2_at, u2_ne]
  · rw [mrow_far _ _ ht, setp_ne _ _ (by omega), mrow_far _ _ ht]
theorem mrow_set7 (h : Hp) (i : Nat) (v : Int32) : mrow (u2 h 120 i v) i = setp (mrow h i) 7 v := by
  funext t
  by_cases ht : t < 13
  · rcases j13 ht with rfl | rfl | rfl | rfl | rfl | rfl | rfl | rfl | rfl | rfl | rfl | rfl | rfl <;> simp [mrow, setp, u2_at, u2_ne]
  · rw [mrow_far _ _ ht, setp_ne _ _ (by omega), mrow_far _ _ ht]
theorem mrow_set8 (h : Hp) (i : Nat) (v : Int32) : mrow (u2 h 121 i v) i = setp (mrow h i) 8 v := by
  funext t
  by_cases ht : t < 13
  · rcases j13 ht with rfl | rfl | rfl | rfl | rfl | rfl | rfl | rfl | rfl | rfl | rfl | rfl | rfl <;> simp [mrow, setp, u2_at, u2_ne]
  · rw [mrow_far _ _ ht, setp_ne _ _ (by omega), mrow_far _ _ ht]
theorem mrow_setd (h : Hp) (i : Nat) {s : Nat} (v : Int32) (hs : s < 4) : mrow (u2 h 122 (4 * i + s) v) i = setp (mrow h i) (9 + s) v := by
  funext t
  by_cases ht : t < 13
  · rcases (by omega : s = 0 ∨ s = 1 ∨ s = 2 ∨ s = 3) with rfl | rfl | rfl | rfl <;> rcases j13 ht with rfl | rfl | rfl | rfl | rfl | rfl | rfl | rfl | rfl | rfl | rfl | rfl | rfl <;> simp [mrow, setp, u2_at, u2_ne]
  · rw [mrow_far _ _ ht, setp_ne _ _ (by omega), mrow_far _ _ ht]
theorem mrow_oth (h : Hp) {b i i' : Nat} (v : Int32) (h1 : i' ≠ i) (h2 : 115 ≤ b ∧ b ≤ 121) : mrow (u2 h b i v) i' = mrow h i' := by
  refine mrow_congr (u2_ne _ _ _ (by omega)) (fun k _ _ => by rw [u2_at, if_neg (by omega)]) (fun s _ => by rw [u2_at, if_neg (by omega)])
theorem mrow_othd (h : Hp) {i i' s : Nat} (v : Int32) (h1 : i' ≠ i) (hs : s < 4) : mrow (u2 h 122 (4 * i + s) v) i' = mrow h i' := by
  refine mrow_congr (u2_ne _ _ _ (by omega)) (fun k _ _ => by rw [u2_at, if_neg (by omega)]) (fun t _ => by rw [u2_at, if_neg (by omega)])
theorem okP_set {K : Nat → Int32} {R C r c hh w j : Nat} {p : Pr} (v : Int32) (hj : 8 ≤ j ∨ j = 6) (ok : okP K R C p r c hh w) : okP K R C (setp p j v) r c hh w := by
  unfold okP at *
  rw [setp_ne _ _ (by omega), setp_ne _ _ (by omega), setp_ne _ _ (by omega), setp_ne _ _ (by omega), setp_ne _ _ (by omega), setp_ne _ _ (by omega), setp_ne _ _ (by omega)]
  exact ok
theorem okP_set7 {K : Nat → Int32} {R C r c hh w : Nat} {p : Pr} (v : Int32) (hv : v = 0 ∨ v = 1 ∨ v = 2) (ok : okP K R C p r c hh w) : okP K R C (setp p 7 v) r c hh w := by
  unfold okP at *
  rw [setp_ne _ _ (by omega), setp_ne _ _ (by omega), setp_ne _ _ (by omega), setp_ne _ _ (by omega), setp_ne _ _ (by omega), setp_ne _ _ (by omega), setp_eq]
  obtain ⟨e0, e1, e2, e3, l2, l3, l0, l1, e4, e5, e7⟩ := ok
  exact ⟨e0, e1, e2, e3, l2, l3, l0, l1, e4, e5, hv⟩
theorem s_wrap {k N : Nat} {h : Hp} {q : Qp} (H : Inv k N h q) (x y : Int32) : ∃ a h1 b h2, f_X11_wrap h x y = some (a, h1) ∧ f_X12_wrap h1 x y = some (b, h2) ∧ a = b ∧ Inv (k + 1) N h2 q := by
  have H' := Inv_u0 (Nat.le_succ k) H
  obtain ⟨h0, R, C, hT, hF, hR, hB, hS, hO, hL, hK, hP, hC⟩ := H
  obtain ⟨n, n1, n2, n3, n4, n5, n6⟩ := hB
  have e111 : ∀ g : Hp, g 111 9 = nI n → u2 g 111 0 0 111 9 = nI n := fun g e => by rw [u0_j _ _ (by decide)]; exact e
  unfold f_X11_wrap
  by_cases c : ∃ i, i < n ∧ x = nI i
  · obtain ⟨i, hi, rfl⟩ := c
    obtain ⟨ci, r, c, hh, w, ok⟩ := n6 i hi
    have cr := fun j hj => cr_at (j := j) ci hj
    have hb : inB (nI i) 24 := inB_nI (by omega) (by omega)
    have i6 : h (10 + i) 6 = h 119 i := cr 6 (by omega)
    have i7 : h (10 + i) 7 = h 120 i := cr 7 (by omega)
    rw [k_still_in h n2 n3 hi, Option.bind_some, i6]
    by_cases z : h 119 i = 0
    · simp only [if_pos z, show ¬ (1 : Int32) = 0 by decide, if_false, if_pos hb, vB_def, ix_nI (show i < 2147483648 by omega)]
      have e1 := in_i y 0 2
      by_cases y0 : y < 0
      · simp only [if_pos y0]
        refine ⟨_, _, _, _, rfl, ?_, rfl, H'⟩
        simp only [f_X12_wrap, vB_def]
        rw [m_still_in _ n2 (e111 h n4) hi, u0_ne _ _ (by decide), if_pos z, Option.bind_some, if_pos rfl, show f_X12_in y.toInt64 0 2 = _ from e1, if_neg (show ¬ (0 ≤ y ∧ y ≤ 2) from fun p => absurd p.1 (i_nle.mpr y0)), Option.bind_some, if_pos rfl]
      · simp only [if_neg y0]
        by_cases y3 : y < 3
        · simp only [if_pos y3]
          have y2 : y ≤ 2 := by
            rw [Int32.lt_iff_toInt_lt, show (3 : Int32).toInt = 3 from rfl] at y3
            rw [Int32.le_iff_toInt_le, show (2 : Int32).toInt = 2 from rfl]
            omega
          refine ⟨_, _, h 120 i, u2 (u2 (u2 h (10 + i) 7 y) 111 0 0) 120 i y, rfl, ?_, i7, ?_⟩
          · have e4 : u2 h (10 + i) 7 y 111 9 = nI n := by rw [u2_ne _ _ _ (by omega)]; exact n4
            simp only [f_X12_wrap, vB_def]
            rw [m_still_in _ n2 (e111 _ e4) hi, u0_ne _ _ (by decide), u2_ne _ _ _ (by omega), if_pos z, Option.bind_some, if_pos rfl, show f_X12_in y.toInt64 0 2 = _ from e1, if_pos (show 0 ≤ y ∧ y ≤ 2 from ⟨i_nlt.mp y0, y2⟩), Option.bind_some, if_neg (by decide), if_pos hb, if_pos hb, ix_nI (by omega), u0_ne _ _ (by decide), u2_ne _ _ _ (by omega)]
          · have f : ∀ k j, ¬ (k = 10 + i ∧ j = 7 ∨ k = 111 ∧ j = 0 ∨ k = 120 ∧ j = i) → (u2 (u2 (u2 h (10 + i) 7 y) 111 0 0) 120 i y) k j = h k j := fun k j hf => by
              rw [u2_at, if_neg (by omega), u2_at, if_neg (by omega), u2_at, if_neg (by omega)]
            refine ⟨h0, R, C, iT_keep (fun k j hk => f k j (by omega)) hT, iF_keep (fun k j hk => f k j (by omega)) hF, iR_keep (fun k j hk => f k j (by omega)) hR, ?_, iS_keep (fun k j hk => f k j (by omega)) hS, iO_keep (Nat.le_refl _) (fun k j hk => f k j (by omega)) hO, iL_keep (fun k j hk => f k j (by omega)) hL, iK_keep (by omega) (fun k j hk => f k j (by omega)) hK, iP_keep (fun k j hk => f k j (by omega)) hP, iC_keep (fun k j hk => f k j (by omega)) hC⟩
            refine ⟨n, n1, n2, by rw [f 7 3 (by omega)]; exact n3, by rw [f 111 9 (by omega)]; exact n4, by rw [f 7 4 (by omega), f 111 18 (by omega)]; exact n5, fun t ht => ?_⟩
            have k113 : (u2 (u2 (u2 h (10 + i) 7 y) 111 0 0) 120 i y) 113 = h 113 := row_eq (fun j => f 113 j (by omega))
            rw [k113]
            by_cases e : t = i
            · subst e
              have m1 : mrow (u2 (u2 (u2 h (10 + t) 7 y) 111 0 0) 120 t y) t = setp (mrow h t) 7 y := by
                rw [mrow_set7, mrow_ne _ _ _ _ (by decide) (by omega), mrow_ne _ _ _ _ (by omega) (by omega)]
              have c1 : crow (u2 (u2 (u2 h (10 + t) 7 y) 111 0 0) 120 t y) (10 + t) = setp (crow h (10 + t)) 7 y := by
                rw [crow_ne _ _ _ (by omega), crow_ne _ _ _ (by omega), crow_set _ _ _ (by omega)]
              rw [m1, c1, ci]
              obtain ⟨j, hj, ej⟩ := i_toNat (n := 2) rfl (i_nlt.mp y0) y2
              exact ⟨rfl, r, c, hh, w, okP_set7 y (by rw [ej]; rcases (by omega : j = 0 ∨ j = 1 ∨ j = 2) with rfl | rfl | rfl; exact Or.inl rfl; exact Or.inr (Or.inl rfl); exact Or.inr (Or.inr rfl)) ok⟩
            · rw [crow_ne _ _ _ (by omega), crow_ne _ _ _ (by omega), crow_ne _ _ _ (by omega), mrow_oth _ _ e (by omega), mrow_ne _ _ _ _ (by decide) (by omega), mrow_ne _ _ _ _ (by omega) (by omega)]
              exact n6 t ht
        · simp only [if_neg y3]
          refine ⟨_, _, _, _, rfl, ?_, rfl, H'⟩
          simp only [f_X12_wrap, vB_def]
          rw [m_still_in _ n2 (e111 h n4) hi, u0_ne _ _ (by decide), if_pos z, Option.bind_some, if_pos rfl, show f_X12_in y.toInt64 0 2 = _ from e1, if_neg (show ¬ (0 ≤ y ∧ y ≤ 2) from fun p => y3 (by
            have := p.2
            rw [Int32.le_iff_toInt_le, show (2 : Int32).toInt = 2 from rfl] at this
            rw [Int32.lt_iff_toInt_lt, show (3 : Int32).toInt = 3 from rfl]
            omega)), Option.bind_some, if_pos rfl]
    · simp only [if_neg z, if_true]
      refine ⟨_, _, _, _, rfl, ?_, rfl, H'⟩
      simp only [f_X12_wrap, vB_def]
      rw [m_still_in _ n2 (e111 h n4) hi, u0_ne _ _ (by decide), if_neg z, Option.bind_some, if_neg (by decide)]
  · rw [k_still_out h n2 n3 c, Option.bind_some, if_pos rfl]
    refine ⟨_, _, _, _, rfl, ?_, rfl, H'⟩
    simp only [f_X12_wrap, vB_def]
    rw [m_still_out _ n1 n2 (e111 h n4) c, Option.bind_some, if_neg (by decide)]
