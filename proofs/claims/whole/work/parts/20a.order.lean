/-! rounds: order, left -/
theorem s_order {k N : Nat} {h : Hp} {q : Qp} (H : Inv k N h q) (a o v : Int32) : ∃ u b h2, f_X11_order q N h a o v = some u ∧ 137 ≤ u.2.1 ∧ f_X12_order u.2.2.1 a o v = some (b, h2) ∧ u.1 = b ∧ Inv (k + 1) u.2.1 h2 u.2.2.2 := by
  have hN : 137 ≤ N := H.1
  have H' := Inv_u0 (Nat.le_succ k) H
  obtain ⟨h0, R, C, hT, hF, hR, hB, hS, hO, hL, hK, hP, hC⟩ := H
  obtain ⟨m, m1, m2, m3, m4, m5⟩ := hO
  simp only [f_X11_order, f_X12_order, vB_def, k_isAsk, m_noAsk, Option.bind_some, asked_def]
  by_cases ca : askOk a o v
  · simp only [if_pos ca, show ¬ (1 : Int32) = 0 by decide, if_false, if_true, m2]
    by_cases c4 : m = 4
    · rw [if_neg (by rw [c4]; decide)]
      refine ⟨_, _, _, rfl, hN, ?_, rfl, H'⟩
      simp only [u0_j _ _ (show 26 ≠ 0 by decide), m3]
      rw [if_pos (by rw [c4]; rfl)]
    · have A := asked_0 h N a o v
      have An : ∀ k, k ≠ N → asked h N a o v k = h k := fun k hk => asked_ne _ _ _ _ hk
      generalize asked h N a o v = g at *
      have g5 : g 41 5 = nI m := by rw [An 41 (by omega)]; exact m2
      have en : f_X6_enter q g N = some (u2 (u2 g 41 5 (nI (m + 1))) 41 6 0, va_up q m (some N)) := by
        simp only [f_X6_enter, vB_def, g5]
        rw [if_neg (f_le 4 rfl (by omega) (by omega)), if_pos (inB_nI (show m < 4 by omega) (by omega)), ix_nI (by omega), nI_1]
      rw [if_pos (t_gt 4 rfl (by omega) (by omega)), en, Option.bind_some]
      obtain ⟨f, hf⟩ : ∃ f, f = u2 (u2 (u2 (u2 (u2 (u2 (u2 g 41 5 (nI (m + 1))) 41 6 0) 111 0 0) 126 m a) 127 m o) 128 m v) 111 26 (nI (m + 1)) := ⟨_, rfl⟩
      have fr : ∀ k j, ¬ (k = 41 ∧ (j = 5 ∨ j = 6) ∨ k = 111 ∧ (j = 0 ∨ j = 26) ∨ (k = 126 ∨ k = 127 ∨ k = 128) ∧ j = m) → f k j = g k j := fun k j hk => by
        rw [hf, u2_at, if_neg (by omega), u2_at, if_neg (by omega), u2_at, if_neg (by omega), u2_at, if_neg (by omega), u2_at, if_neg (by omega), u2_at, if_neg (by omega), u2_at, if_neg (by omega)]
      refine ⟨_, nI (m + 1), f, rfl, (by show 137 ≤ N + 1; omega), ?_, (by simp [u2_at]), ?_⟩
      · have w0 : (u2 (u2 (u2 g 41 5 (nI (m + 1))) 41 6 0) 111 0 0) 111 26 = nI m := by
          rw [u2_at, if_neg (by omega), u2_at, if_neg (by omega), u2_at, if_neg (by omega), An 111 (by omega)]; exact m3
        have w1 : ∀ x : Int32, u2 (u2 (u2 (u2 g 41 5 (nI (m + 1))) 41 6 0) 111 0 0) 126 m x 111 26 = nI m := fun x => by rw [u2_at, if_neg (by omega)]; exact w0
        have w2 : ∀ x y : Int32, u2 (u2 (u2 (u2 (u2 g 41 5 (nI (m + 1))) 41 6 0) 111 0 0) 126 m x) 127 m y 111 26 = nI m := fun x y => by rw [u2_at, if_neg (by omega)]; exact w1 x
        have w3 : ∀ x y z : Int32, u2 (u2 (u2 (u2 (u2 (u2 g 41 5 (nI (m + 1))) 41 6 0) 111 0 0) 126 m x) 127 m y) 128 m z 111 26 = nI m := fun x y z => by rw [u2_at, if_neg (by omega)]; exact w2 x y
        simp only [w0, if_pos (inB_nI (show m < 4 by omega) (show 4 ≤ 2147483648 by omega)), ix_nI (show m < 2147483648 by omega), w1, w2, w3, nI_1, ← hf]
        rw [if_neg (fun e => c4 ((nI_eq (by omega) (by omega)).mp (e.trans (show (4 : Int32) = nI 4 from rfl)))), hf]
        simp [u2_at]
      · have ff : ∀ k j, ¬ (k = N ∨ k = 41 ∧ (j = 5 ∨ j = 6) ∨ k = 111 ∧ (j = 0 ∨ j = 26) ∨ (k = 126 ∨ k = 127 ∨ k = 128) ∧ j = m) → f k j = h k j := fun k j hk => by rw [fr k j (by omega), An k (by omega)]
        refine ⟨by show 137 ≤ N + 1; omega, R, C, iT_keep (fun k j hk => ff k j (by omega)) hT, iF_keep (fun k j hk => ff k j (by omega)) hF, iR_keep (fun k j hk => ff k j (by omega)) hR, iB_keep (fun k j hk => ff k j (by omega)) hB, iS_keep (fun k j hk => ff k j (by omega)) hS, ?_, iL_keep (fun k j hk => ff k j (by omega)) hL, iK_keep (by omega) (fun k j hk => ff k j (by omega)) hK, iP_keep (fun k j hk => ff k j (by omega)) hP, iC_keep (fun k j hk => ff k j (by omega)) hC⟩
        have a126 : f 126 m = a := by rw [hf]; simp [u2_at]
        have a127 : f 127 m = o := by rw [hf]; simp [u2_at]
        have a128 : f 128 m = v := by rw [hf]; simp [u2_at]
        refine ⟨m + 1, by omega, by rw [hf]; simp [u2_at], by rw [hf]; simp [u2_at], fun i hi => ?_, Or.inl (by rw [hf]; simp [u2_at])⟩
        by_cases ei : i = m
        · subst ei
          refine ⟨N, ?_, hN, by show N < N + 1; omega, ?_, ?_, ?_, ?_⟩
          · show va_up q i (some N) i = some N
            unfold va_up
            rw [if_pos rfl]
          · rw [a126, fr N 0 (by omega)]; exact A.1
          · rw [a126, a127, fr N 1 (by omega)]; exact A.2.1
          · rw [a128, fr N 2 (by omega)]; exact A.2.2
          · have a0 : (0 : Int32) ≤ a := by
              have e1 := Int32.le_iff_toInt_le.mp ca.1.1
              rw [show (1 : Int32).toInt = 1 from rfl] at e1
              rw [Int32.le_iff_toInt_le, show (0 : Int32).toInt = 0 from rfl]
              omega
            obtain ⟨u, hu, eu⟩ := i_toNat (n := 360) rfl a0 ca.1.2
            obtain ⟨w, hw, ew⟩ := i_toNat (n := 99) rfl ca.2.1.1 ca.2.1.2
            refine ⟨u, w, ?_, hu, hw, by rw [a126]; exact eu, by rw [a127]; exact ew⟩
            have e1 := Int32.le_iff_toInt_le.mp ca.1.1
            rw [show (1 : Int32).toInt = 1 from rfl, eu, nI_toInt (by omega)] at e1
            omega
        · obtain ⟨b, a1, a2, a3, a4, a5, a6, a7⟩ := m4 i (by omega)
          refine ⟨b, ?_, a2, by show b < N + 1; omega, ?_, ?_, ?_, ?_⟩
          · show va_up q m (some N) i = some b
            unfold va_up
            rw [if_neg ei]; exact a1
          · rw [ff b 0 (by omega), ff 126 i (by omega)]; exact a4
          · rw [ff b 1 (by omega), ff 126 i (by omega), ff 127 i (by omega)]; exact a5
          · rw [ff b 2 (by omega), ff 128 i (by omega)]; exact a6
          · rw [ff 126 i (by omega), ff 127 i (by omega)]; exact a7
  · simp only [if_neg ca, if_true]
    exact ⟨_, _, _, rfl, hN, (by simp only [show ¬ (1 : Int32) = 0 by decide, if_false]), rfl, H'⟩
-- the digits of a told block
theorem dig {n : Nat} (hn : n < 2147483648) : nI n / 1000 = nI (n / 1000) ∧ nI n / 100 - nI n / 100 / 10 * 10 = nI (n / 100 % 10) ∧ nI n / 10 - nI n / 10 / 10 * 10 = nI (n / 10 % 10) ∧ nI n - nI n / 10 * 10 = nI (n % 10) := by
  rw [show (1000 : Int32) = nI 1000 from rfl, show (100 : Int32) = nI 100 from rfl, show (10 : Int32) = nI 10 from rfl, nI_div (by omega) (by omega), nI_div (by omega) (by omega), nI_div (by omega) (by omega), nI_div (by omega) (by omega), nI_div (by omega) (by omega), nI_mul, nI_mul, nI_mul, nI_sub (by omega), nI_sub (by omega), nI_sub (by omega)]
  have e2 : n / 100 - n / 100 / 10 * 10 = n / 100 % 10 := by omega
  have e3 : n / 10 - n / 10 / 10 * 10 = n / 10 % 10 := by omega
  have e4 : n - n / 10 * 10 = n % 10 := by omega
  rw [e2, e3, e4]
  exact ⟨rfl, rfl, rfl, rfl⟩
def tdB (r c hh w : Nat) : Nat := 1000 * r + 100 * c + 10 * hh + w
theorem digB {r c hh w : Nat} (hr : r < 10) (hc : c < 10) (hh' : hh < 10) (hw : w < 10) : nI (tdB r c hh w) / 1000 = nI r ∧ nI (tdB r c hh w) / 100 - nI (tdB r c hh w) / 100 / 10 * 10 = nI c ∧ nI (tdB r c hh w) / 10 - nI (tdB r c hh w) / 10 / 10 * 10 = nI hh ∧ nI (tdB r c hh w) - nI (tdB r c hh w) / 10 * 10 = nI w := by
  have e := dig (n := tdB r c hh w) (by unfold tdB; omega)
  have e1 : tdB r c hh w / 1000 = r := by unfold tdB; omega
  have e2 : tdB r c hh w / 100 % 10 = c := by unfold tdB; omega
  have e3 : tdB r c hh w / 10 % 10 = hh := by unfold tdB; omega
  have e4 : tdB r c hh w % 10 = w := by unfold tdB; omega
  rw [e1, e2, e3, e4] at e
  exact e
/-- two blocks meet -/
abbrev mtB (r c hh w r' c' hh' w' : Nat) : Prop := r' < r + hh ∧ r < r' + hh' ∧ c' < c + w ∧ c < c' + w'
theorem m_meets {r c hh w r' c' hh' w' : Nat} (h1 : r + hh < 10) (h2 : c + w < 10) (h3 : r' + hh' < 10) (h4 : c' + w' < 10) : f_X12_meets (nI (tdB r c hh w)) (nI (tdB r' c' hh' w')) = some (if mtB r c hh w r' c' hh' w' then 1 else 0) := by
  obtain ⟨a1, a2, a3, a4⟩ := digB (r := r) (c := c) (hh := hh) (w := w) (by omega) (by omega) (by omega) (by omega)
  obtain ⟨b1, b2, b3, b4⟩ := digB (r := r') (c := c') (hh := hh') (w := w') (by omega) (by omega) (by omega) (by omega)
  unfold f_X12_meets
  rw [a1, a2, a3, a4, b1, b2, b3, b4, nI_add, nI_add, nI_add, nI_add]
  by_cases c1 : r + hh ≤ r'
  · rw [if_pos (nI_le c1 (by omega)), Option.bind_some, vB_def, if_neg (by decide), if_neg (fun q => absurd q.1 (by omega))]
  · rw [if_neg (nI_ge (by omega) (by omega))]
    by_cases c2 : r < r' + hh'
    · rw [if_pos ((nI_ltI (by omega) (by omega)).mpr c2), Option.bind_some, vB_def, if_pos rfl]
      by_cases c3 : c + w ≤ c'
      · rw [if_pos (nI_le c3 (by omega)), if_neg (fun q => absurd q.2.2.1 (by omega))]
      · rw [if_neg (nI_ge (by omega) (by omega))]
        by_cases c4 : c' + w' ≤ c
        · rw [if_pos (nI_le c4 (by omega)), if_neg (fun q => absurd q.2.2.2 (by omega))]
        · rw [if_neg (nI_ge (by omega) (by omega)), if_pos ⟨by omega, c2, by omega, by omega⟩]
    · rw [if_neg (fun q => c2 ((nI_ltI (by omega) (by omega)).mp q)), Option.bind_some, vB_def, if_neg (by decide), if_neg (fun q => c2 q.2.1)]
theorem k_isApart (h : Hp) {i r c hh w r' c' hh' w' : Nat} (hi : i < 6) (h1 : r + hh < 10) (h2 : c + w < 10) (h3 : r' + hh' < 10) (h4 : c' + w' < 10) (t : h 49 i = nI r') (b : h 50 i = nI (r' + hh')) (l : h 51 i = nI c') (g : h 52 i = nI (c' + w')) : f_X5_isApart h (nI i) (nI r) (nI c) (nI (r + hh)) (nI (c + w)) = some (if mtB r c hh w r' c' hh' w' then 0 else 1) := by
  have hb : inB (nI i) 6 := inB_nI hi (by omega)
  unfold f_X5_isApart
  simp only [if_pos hb, ix_nI (show i < 2147483648 by omega), t, b, l, g]
  by_cases c1 : r + hh ≤ r'
  · rw [if_pos (nI_le c1 (by omega)), if_neg (fun q => absurd q.1 (by omega))]
  · rw [if_neg (nI_ge (by omega) (by omega))]
    by_cases c2 : r' + hh' ≤ r
    · rw [if_pos (nI_le c2 (by omega)), if_neg (fun q => absurd q.2.1 (by omega))]
    · rw [if_neg (nI_ge (by omega) (by omega))]
      by_cases c3 : c + w ≤ c'
      · rw [if_pos (nI_le c3 (by omega)), if_neg (fun q => absurd q.2.2.1 (by omega))]
      · rw [if_neg (nI_ge (by omega) (by omega))]
        by_cases c4 : c < c' + w'
        · rw [if_pos ((nI_ltI (by omega) (by omega)).mpr c4), if_pos ⟨by omega, by omega, by omega, c4⟩]
        · rw [if_neg (fun q => c4 ((nI_ltI (by omega) (by omega)).mp q)), if_neg (fun q => c4 q.2.2.2)]
/-- the block meets one that is left, as the rows i < m tell them -/
def anyM (X : Nat → Nat × Nat × Nat × Nat) (r c hh w : Nat) : Nat → Nat → Bool
  | 0, _ => false
  | d + 1, j => if mtB r c hh w (X j).1 (X j).2.1 (X j).2.2.1 (X j).2.2.2 then true else anyM X r c hh w d (j + 1)
theorem anyM_succ (X : Nat → Nat × Nat × Nat × Nat) (r c hh w d j : Nat) : anyM X r c hh w (d + 1) j = if mtB r c hh w (X j).1 (X j).2.1 (X j).2.2.1 (X j).2.2.2 then true else anyM X r c hh w d (j + 1) := rfl
theorem tdB_eq (r c hh w : Nat) : 1000 * r + 100 * c + 10 * hh + w = tdB r c hh w := by unfold tdB; omega
theorem k_touches (h : Hp) {m r c hh w : Nat} (X : Nat → Nat × Nat × Nat × Nat) (h1 : r + hh < 10) (h2 : c + w < 10) (m6 : m ≤ 6) (e : h 47 7 = nI m) (hX : ∀ i, i < m → (X i).1 + (X i).2.2.1 < 10 ∧ (X i).2.1 + (X i).2.2.2 < 10 ∧ h 49 i = nI (X i).1 ∧ h 50 i = nI ((X i).1 + (X i).2.2.1) ∧ h 51 i = nI (X i).2.1 ∧ h 52 i = nI ((X i).2.1 + (X i).2.2.2)) :
    ∀ d N j, j + d = m → d < N → L_X5_touches_3 h (nI r) (nI c) (nI hh) (nI w) (fun _ => some 0) N (nI j) = some (if anyM X r c hh w d j = true then 1 else 0)
  | 0, N, j, hj, hN => by
    obtain ⟨N, rfl⟩ : ∃ q, N = q + 1 := ⟨N - 1, by omega⟩
    simp only [L_X5_touches_3, anyM]
    rw [e, if_pos (nI_le (by omega) (by omega))]
    rfl
  | d + 1, N, j, hj, hN => by
    obtain ⟨N, rfl⟩ : ∃ q, N = q + 1 := ⟨N - 1, by omega⟩
    obtain ⟨x1, x2, x3, x4, x5, x6⟩ := hX j (by omega)
    simp only [L_X5_touches_3, vB_def, nI_add]
    rw [anyM_succ, e, if_neg (nI_ge (show j < m by omega) (by omega)), k_isApart h (show j < 6 by omega) h1 h2 x1 x2 x3 x4 x5 x6, Option.bind_some, nI_1]
    by_cases s : mtB r c hh w (X j).1 (X j).2.1 (X j).2.2.1 (X j).2.2.2
    · rw [if_pos s, if_pos rfl, if_pos s]; rfl
    · rw [if_neg s, if_neg (by decide), if_neg s]
      exact k_touches h X h1 h2 m6 e hX d N (j + 1) (by omega) (by omega)
theorem m_left17 (h : Hp) {m r c hh w : Nat} (X : Nat → Nat × Nat × Nat × Nat) (K : Unit → Option (Int32 × Hp)) (h1 : r + hh < 10) (h2 : c + w < 10) (m6 : m ≤ 6) (e : h 111 35 = nI m) (hX : ∀ i, i < m → (X i).1 + (X i).2.2.1 < 10 ∧ (X i).2.1 + (X i).2.2.2 < 10 ∧ h 133 i = nI (tdB (X i).1 (X i).2.1 (X i).2.2.1 (X i).2.2.2)) :
    ∀ d N j, j + d = m → d < N → L_X12_left_17 (nI (tdB r c hh w)) h K N (nI j) = if anyM X r c hh w d j = true then some (-3, h) else K ()
  | 0, N, j, hj, hN => by
    obtain ⟨N, rfl⟩ : ∃ q, N = q + 1 := ⟨N - 1, by omega⟩
    simp only [L_X12_left_17, anyM]
    rw [e, if_pos (nI_le (by omega) (by omega))]
    rfl
  | d + 1, N, j, hj, hN => by
    obtain ⟨N, rfl⟩ : ∃ q, N = q + 1 := ⟨N - 1, by omega⟩
    obtain ⟨x1, x2, x3⟩ := hX j (by omega)
    simp only [L_X12_left_17, vB_def]
    rw [anyM_succ, e, if_neg (nI_ge (show j < m by omega) (by omega)), if_pos (inB_nI (show j < 6 by omega) (by omega)), ix_nI (by omega), x3, m_meets h1 h2 x1 x2, Option.bind_some, nI_1]
    by_cases s : mtB r c hh w (X j).1 (X j).2.1 (X j).2.2.1 (X j).2.2.2
    · rw [if_pos s, if_neg (by decide), if_pos s, if_pos rfl]
    · rw [if_neg s, if_pos rfl, if_neg s]
      exact m_left17 h X K h1 h2 m6 e hX d N (j + 1) (by omega) (by omega)
theorem m_left0 (h : Hp) {m r c hh w : Nat} (X : Nat → Nat × Nat × Nat × Nat) (K : Unit → Option (Int32 × Hp)) (h1 : r + hh < 10) (h2 : c + w < 10) (m6 : m ≤ 6) (e : h 111 35 = nI m) (hX : ∀ i, i < m → (X i).1 + (X i).2.2.1 < 10 ∧ (X i).2.1 + (X i).2.2.2 < 10 ∧ h 133 i = nI (tdB (X i).1 (X i).2.1 (X i).2.2.1 (X i).2.2.2)) : L_X12_left_17 (nI (tdB r c hh w)) h K FU 0 = if anyM X r c hh w m 0 = true then some (-3, h) else K () := m_left17 h X K h1 h2 m6 e hX m FU 0 (by omega) (FU_gt (by omega))
theorem k_touch0 (h : Hp) {m r c hh w : Nat} (X : Nat → Nat × Nat × Nat × Nat) (h1 : r + hh < 10) (h2 : c + w < 10) (m6 : m ≤ 6) (e : h 47 7 = nI m) (hX : ∀ i, i < m → (X i).1 + (X i).2.2.1 < 10 ∧ (X i).2.1 + (X i).2.2.2 < 10 ∧ h 49 i = nI (X i).1 ∧ h 50 i = nI ((X i).1 + (X i).2.2.1) ∧ h 51 i = nI (X i).2.1 ∧ h 52 i = nI ((X i).2.1 + (X i).2.2.2)) : f_X5_touches h (nI r) (nI c) (nI hh) (nI w) = some (if anyM X r c hh w m 0 = true then 1 else 0) := k_touches h X h1 h2 m6 e hX m FU 0 (by omega) (FU_gt (by omega))
/-- the blocks that are left -/
theorem iL_X {h : Hp} {R C m : Nat} (hR : R ≤ 6) (hC : C ≤ 6) (H : ∀ i, i < m → ∃ r c hh w, blkIn R C r c hh w ∧ h 49 i = nI r ∧ h 50 i = nI (r + hh) ∧ h 51 i = nI c ∧ h 52 i = nI (c + w) ∧ h 133 i = nI (1000 * r + 100 * c + 10 * hh + w)) :
    ∃ X : Nat → Nat × Nat × Nat × Nat, ∀ i, i < m → blkIn R C (X i).1 (X i).2.1 (X i).2.2.1 (X i).2.2.2 ∧ h 49 i = nI (X i).1 ∧ h 50 i = nI ((X i).1 + (X i).2.2.1) ∧ h 51 i = nI (X i).2.1 ∧ h 52 i = nI ((X i).2.1 + (X i).2.2.2) ∧ h 133 i = nI (tdB (X i).1 (X i).2.1 (X i).2.2.1 (X i).2.2.2) := by
  refine ⟨fun i => (ix (h 49 i), ix (h 51 i), ix (h 50 i) - ix (h 49 i), ix (h 52 i) - ix (h 51 i)), fun i hi => ?_⟩
  obtain ⟨r, c, hh, w, b, e1, e2, e3, e4, e5⟩ := H i hi
  simp only [e1, e2, e3, e4, ix_nI (show r < 2147483648 by omega), ix_nI (show c < 2147483648 by omega), ix_nI (show r + hh < 2147483648 by omega), ix_nI (show c + w < 2147483648 by omega), show r + hh - r = hh by omega, show c + w - c = w by omega]
  rw [tdB_eq] at e5
  exact ⟨b, trivial, trivial, trivial, trivial, e5⟩
theorem neg_dig {x : Int32} (x0 : x < 0) : ¬ (1 : Int32) ≤ x - x / 10 * 10 := fun q => by
    rw [Int32.lt_iff_toInt_lt, show (0 : Int32).toInt = 0 from rfl] at x0
    have t0 : x.toInt.tmod 10 ≤ 0 := by
      have := Int.tmod_nonneg (a := -x.toInt) 10 (by omega)
      rw [Int.neg_tmod] at this
      omega
    have hb : x.toInt = 10 * (x.toInt.tdiv 10) + x.toInt.tmod 10 := (Int.mul_tdiv_add_tmod x.toInt 10).symm
    have h1 := Int32.le_toInt x
    have t1 : -10 < x.toInt.tmod 10 := by
      have := Int.lt_tmod_of_pos x.toInt (b := 10) (by decide)
      omega
    have d1 : (x / 10).toInt = x.toInt.tdiv 10 := by
      rw [Int32.toInt_div_of_ne_right _ _ (by decide)]; rfl
    have e1 : (x - x / 10 * 10).toInt = x.toInt.tmod 10 := by
      rw [Int32.toInt_sub, Int32.toInt_mul, d1, show (10 : Int32).toInt = 10 from rfl]
      generalize x.toInt.tdiv 10 = A at *
      generalize x.toInt.tmod 10 = B at *
      have e3 : (A * 10).bmod (2 ^ 32) = A * 10 := Int.bmod_eq_of_le (by omega) (by omega)
      rw [e3, show x.toInt - A * 10 = B by omega]
      exact Int.bmod_eq_of_le (by omega) (by omega)
    rw [Int32.le_iff_toInt_le, e1, show (1 : Int32).toInt = 1 from rfl] at q
    omega
theorem k_holds (h : Hp) {R C r c hh w : Nat} (R2 : R ≤ 6) (C2 : C ≤ 6) (f1 : h 3 3 = nI R) (f2 : h 3 4 = nI C) (hr : r < 10000000) (hc : c < 10) (hhh : hh < 10) (hw : w < 10) : f_X4_holds h (nI r) (nI c) (nI hh) (nI w) = some (if blkIn R C r c hh w then 1 else 0) := by
  unfold f_X4_holds
  rw [if_neg (nI_pos (by omega)), f1, f2]
  by_cases c1 : r < R
  · rw [if_neg (nI_ge c1 (by omega)), if_neg (nI_pos (by omega))]
    by_cases c2 : c < C
    · rw [if_neg (nI_ge c2 (by omega))]
      by_cases c3 : 1 ≤ hh
      · rw [if_neg (f_gt 1 rfl (by omega) (by omega)), nI_sub (by omega)]
        by_cases c4 : R - r < hh
        · rw [if_pos ((nI_ltI (by omega) (by omega)).mpr c4), if_neg (by omega)]
        · rw [if_neg (fun q => c4 ((nI_ltI (by omega) (by omega)).mp q))]
          by_cases c5 : 1 ≤ w
          · rw [if_neg (f_gt 1 rfl (by omega) (by omega)), nI_sub (by omega)]
            by_cases c6 : C - c < w
            · rw [if_pos ((nI_ltI (by omega) (by omega)).mpr c6), if_neg (by omega)]
            · rw [if_neg (fun q => c6 ((nI_ltI (by omega) (by omega)).mp q)), if_pos (by omega)]
          · rw [if_pos (t_gt 1 rfl (by omega) (by omega)), if_neg (by omega)]
      · rw [if_pos (t_gt 1 rfl (by omega) (by omega)), if_neg (by omega)]
    · rw [if_pos (nI_le (by omega) (by omega)), if_neg (by omega)]
  · rw [if_pos (nI_le (by omega) (by omega)), if_neg (by omega)]
theorem m_noBlock (g : Hp) {x : Int32} {R C r c hh w : Nat} (R2 : R ≤ 6) (C2 : C ≤ 6) (x0 : ¬ x < 0) (d1 : x / 1000 = nI r) (d2 : x / 100 - x / 100 / 10 * 10 = nI c) (d3 : x / 10 - x / 10 / 10 * 10 = nI hh) (d4 : x - x / 10 * 10 = nI w) (hr : r < 10000000) (hc : c < 10) (hhh : hh < 10) (hw : w < 10) (g4 : g 111 4 = nI R) (g5 : g 111 5 = nI C) : f_X12_noBlock g x = some (if blkIn R C r c hh w then 0 else 1) := by
  simp only [f_X12_noBlock, vB_def]
  rw [d1, d2, d3, d4, g4, g5, if_neg x0, nI_add, nI_add]
  by_cases c3 : 1 ≤ hh
  · rw [if_neg (f_gt 1 rfl (by omega) (by omega))]
    by_cases c5 : 1 ≤ w
    · rw [if_neg (f_gt 1 rfl (by omega) (by omega))]
      by_cases c4 : R < r + hh
      · rw [if_pos ((nI_ltI (by omega) (by omega)).mpr c4), if_neg (by omega)]
      · rw [if_neg (fun q => c4 ((nI_ltI (by omega) (by omega)).mp q))]
        by_cases c6 : c + w ≤ C
        · rw [if_pos (nI_le c6 (by omega)), if_pos (by omega)]
        · rw [if_neg (nI_ge (by omega) (by omega)), if_neg (by omega)]
    · rw [if_pos (t_gt 1 rfl (by omega) (by omega)), if_neg (by omega)]
  · rw [if_pos (t_gt 1 rfl (by omega) (by omega)), if_neg (by omega)]
theorem dig_back (n : Nat) : n = tdB (n / 1000) (n / 100 % 10) (n / 10 % 10) (n % 10) := by
  unfold tdB
  omega
theorem k_leftE (h : Hp) (x : Int32) : f_X11_left h x = (f_X4_holds h (x / 1000) (x / 100 - x / 100 / 10 * 10) (x / 10 - x / 10 / 10 * 10) (x - x / 10 * 10)).bind fun u_5 => (if u_5 = 0 then some ((-1), h) else (f_X5_touches h (x / 1000) (x / 100 - x / 100 / 10 * 10) (x / 10 - x / 10 / 10 * 10) (x - x / 10 * 10)).bind fun u_6 => (if u_6 = 0 then (if (h 47 7) < 6 then (f_X5_enter h (x / 1000) (x / 100 - x / 100 / 10 * 10) (x / 10 - x / 10 / 10 * 10) (x - x / 10 * 10)).bind fun u_7 => some ((u_7 47 7), u_7) else some ((-4), h)) else some ((-3), h))) := rfl
theorem s_left {k N : Nat} {h : Hp} {q : Qp} (H : Inv k N h q) (x : Int32) : ∃ a h1 b h2, f_X11_left h x = some (a, h1) ∧ f_X12_left h1 x = some (b, h2) ∧ a = b ∧ Inv (k + 1) N h2 q := by
  have H' := Inv_u0 (Nat.le_succ k) H
  obtain ⟨h0, R, C, hT, hF, hR, hB, hS, hO, hL, hK, hP, hC⟩ := H
  obtain ⟨m, m1, m2, m3, m4, m5⟩ := hL
  obtain ⟨R1, R2, C1, C2, f1, f2, f3, f4, f5, f6, f7, f8⟩ := id hF
  obtain ⟨X, hX⟩ := iL_X R2 C2 m4
  have unk : f_X4_holds h (x / 1000) (x / 100 - x / 100 / 10 * 10) (x / 10 - x / 10 / 10 * 10) (x - x / 10 * 10) = some 0 → f_X12_noBlock (u2 h 111 0 0) x = some 1 → ∃ a h1 b h2, f_X11_left h x = some (a, h1) ∧ f_X12_left h1 x = some (b, h2) ∧ a = b ∧ Inv (k + 1) N h2 q := fun e1 e2 => by
    refine ⟨-1, h, -1, u2 h 111 0 0, ?_, ?_, rfl, H'⟩
    · rw [k_leftE, e1, Option.bind_some, if_pos rfl]
    · rw [f_X12_left, vB_def, e2, Option.bind_some, if_neg (by decide)]
  by_cases x0 : x < 0
  · refine unk ?_ ?_
    · have w1 := neg_dig x0
      unfold f_X4_holds
      have w2 : x - x / 10 * 10 < 1 := i_nle.mp w1
      rw [if_pos w2]
      repeat (first | rfl | split)
    · simp only [f_X12_noBlock, vB_def]
      rw [if_pos x0]
  obtain ⟨n, hn, rfl⟩ := nI_of x0
  obtain ⟨d1, d2, d3, d4⟩ := dig (n := n) (by omega)
  rw [d1, d2, d3, d4] at unk
  obtain ⟨r, hr⟩ : ∃ r, r = n / 1000 := ⟨_, rfl⟩
  obtain ⟨c, hc⟩ : ∃ c, c = n / 100 % 10 := ⟨_, rfl⟩
  obtain ⟨hh, hh'⟩ : ∃ hh, hh = n / 10 % 10 := ⟨_, rfl⟩
  obtain ⟨w, hw⟩ : ∃ w, w = n % 10 := ⟨_, rfl⟩
  rw [← hr, ← hc, ← hh', ← hw] at unk
  have hd : f_X4_holds h (nI r) (nI c) (nI hh) (nI w) = some (if blkIn R C r c hh w then 1 else 0) := k_holds h R2 C2 f1 f2 (by omega) (by omega) (by omega) (by omega)
  have hm : ∀ g : Hp, g 111 4 = nI R → g 111 5 = nI C → f_X12_noBlock g (nI n) = some (if blkIn R C r c hh w then 0 else 1) := fun g g4 g5 => m_noBlock g R2 C2 x0 (by rw [d1, hr]) (by rw [d2, hc]) (by rw [d3, hh']) (by rw [d4, hw]) (by omega) (by omega) (by omega) (by omega) g4 g5
  by_cases cb : blkIn R C r c hh w
  · rw [if_pos cb] at hd
    have en : n = tdB r c hh w := by rw [hr, hc, hh', hw]; exact dig_back n
    have kt := k_touch0 h X (show r + hh < 10 by omega) (show c + w < 10 by omega) m1 m2 (fun i hi => ⟨by have := (hX i hi).1; omega, by have := (hX i hi).1; omega, (hX i hi).2.1, (hX i hi).2.2.1, (hX i hi).2.2.2.1, (hX i hi).2.2.2.2.1⟩)
    have kl : f_X11_left h (nI n) = (if anyM X r c hh w m 0 = true then some (-3, h) else if m < 6 then (f_X5_enter h (nI r) (nI c) (nI hh) (nI w)).bind fun u => some (u 47 7, u) else some (-4, h)) := by
      rw [k_leftE, d1, d2, d3, d4, ← hr, ← hc, ← hh', ← hw, hd, Option.bind_some, if_neg (by decide), kt, Option.bind_some, m2]
      by_cases t : anyM X r c hh w m 0 = true
      · rw [if_pos t, if_neg (by decide), if_pos t]
      · rw [if_neg t, if_pos rfl, if_neg t]
        by_cases t6 : m < 6
        · rw [if_pos (t_gt 6 rfl (by omega) (by omega)), if_pos t6]
        · rw [if_neg (f_gt 6 rfl (by omega) (by omega)), if_neg t6]
    have ml : ∀ g : Hp, (∀ k j, 111 ≤ k → g k j = h k j) → f_X12_left g (nI n) = (if anyM X r c hh w m 0 = true then some (-3, u2 g 111 0 0) else if m < 6 then some (nI (m + 1), u2 (u2 (u2 g 111 0 0) 133 m (nI n)) 111 35 (nI (m + 1))) else some (-4, u2 g 111 0 0)) := fun g hg => by
      have g35 : u2 g 111 0 0 111 35 = nI m := by rw [u0_j _ _ (by decide), hg 111 35 (by omega)]; exact m3
      rw [f_X12_left, vB_def, hm (u2 g 111 0 0) (by rw [u0_j _ _ (by decide), hg 111 4 (by omega)]; exact f3) (by rw [u0_j _ _ (by decide), hg 111 5 (by omega)]; exact f4), if_pos cb, Option.bind_some, if_pos rfl, vB_def, en, m_left0 (u2 g 111 0 0) (r := r) (c := c) (hh := hh) (w := w) X _ (by omega) (by omega) m1 g35 (fun i hi => ⟨by have := (hX i hi).1; omega, by have := (hX i hi).1; omega, by rw [u2_ne _ _ _ (by decide), hg 133 i (by omega)]; exact (hX i hi).2.2.2.2.2⟩)]
      by_cases t : anyM X r c hh w m 0 = true
      · rw [if_pos t, if_pos t]
      · rw [if_neg t, if_neg t]
        simp only [vB_def, g35]
        by_cases t6 : m < 6
        · have w35 : u2 (u2 g 111 0 0) 133 m (nI (tdB r c hh w)) 111 35 = nI m := by rw [u2_at, if_neg (by omega)]; exact g35
          rw [if_neg (fun e => absurd ((nI_eq (by omega) (by omega)).mp (e.trans (show (6 : Int32) = nI 6 from rfl))) (by omega)), if_pos (inB_nI t6 (by omega)), if_pos t6, ix_nI (by omega), w35, nI_1, u2_at, if_pos ⟨rfl, rfl⟩]
        · rw [if_pos (show nI m = 6 by rw [show m = 6 by omega]; rfl), if_neg t6]
    by_cases t : anyM X r c hh w m 0 = true
    · rw [if_pos t] at kl
      refine ⟨_, _, _, _, kl, (by rw [ml h (fun _ _ _ => rfl), if_pos t]), rfl, H'⟩
    · rw [if_neg t] at kl
      by_cases t6 : m < 6
      · obtain ⟨g, hg⟩ : ∃ g, g = u2 (u2 (u2 (u2 (u2 (u2 h 49 m (nI r)) 50 m (nI (r + hh))) 51 m (nI c)) 52 m (nI (c + w))) 47 7 (nI (m + 1))) 47 8 0 := ⟨_, rfl⟩
        have en2 : f_X5_enter h (nI r) (nI c) (nI hh) (nI w) = some g := by
          have w1 : ∀ v : Int32, u2 h 49 m v 47 7 = nI m := fun v => by rw [u2_at, if_neg (by omega)]; exact m2
          have w2 : ∀ v v2 : Int32, u2 (u2 h 49 m v) 50 m v2 47 7 = nI m := fun v v2 => by rw [u2_at, if_neg (by omega)]; exact w1 v
          have w3 : ∀ v v2 v3 : Int32, u2 (u2 (u2 h 49 m v) 50 m v2) 51 m v3 47 7 = nI m := fun v v2 v3 => by rw [u2_at, if_neg (by omega)]; exact w2 v v2
          have w4 : ∀ v v2 v3 v4 : Int32, u2 (u2 (u2 (u2 h 49 m v) 50 m v2) 51 m v3) 52 m v4 47 7 = nI m := fun v v2 v3 v4 => by rw [u2_at, if_neg (by omega)]; exact w3 v v2 v3
          simp only [f_X5_enter, vB_def, m2, nI_add, if_pos (inB_nI t6 (show 6 ≤ 2147483648 by omega)), ix_nI (show m < 2147483648 by omega), w1, w2, w3, w4, nI_1, ← hg]
          rw [if_neg (f_le 6 rfl (by omega) (by omega))]
        rw [if_pos t6, en2, Option.bind_some, show g 47 7 = nI (m + 1) by rw [hg]; simp [u2_at]] at kl
        have gf : ∀ k j, ¬ ((k = 49 ∨ k = 50 ∨ k = 51 ∨ k = 52) ∧ j = m ∨ k = 47 ∧ (j = 7 ∨ j = 8)) → g k j = h k j := fun k j hk => by
          rw [hg, u2_at, if_neg (by omega), u2_at, if_neg (by omega), u2_at, if_neg (by omega), u2_at, if_neg (by omega), u2_at, if_neg (by omega), u2_at, if_neg (by omega)]
        refine ⟨_, g, nI (m + 1), u2 (u2 (u2 g 111 0 0) 133 m (nI n)) 111 35 (nI (m + 1)), kl, (by rw [ml g (fun k j hk => gf k j (by omega)), if_neg t, if_pos t6]), rfl, ?_⟩
        have fg : ∀ k j, ¬ (k = 111 ∧ (j = 0 ∨ j = 35) ∨ k = 133 ∧ j = m) → u2 (u2 (u2 g 111 0 0) 133 m (nI n)) 111 35 (nI (m + 1)) k j = g k j := fun k j hk => by
          rw [u2_at, if_neg (by omega), u2_at, if_neg (by omega), u2_at, if_neg (by omega)]
        have ff : ∀ k j, ¬ (k = 111 ∧ (j = 0 ∨ j = 35) ∨ k = 133 ∧ j = m ∨ (k = 49 ∨ k = 50 ∨ k = 51 ∨ k = 52) ∧ j = m ∨ k = 47 ∧ (j = 7 ∨ j = 8)) → u2 (u2 (u2 g 111 0 0) 133 m (nI n)) 111 35 (nI (m + 1)) k j = h k j := fun k j hk => by rw [fg k j (by omega), gf k j (by omega)]
        refine ⟨h0, R, C, iT_keep (fun k j hk => ff k j (by omega)) hT, iF_keep (fun k j hk => ff k j (by omega)) hF, iR_keep (fun k j hk => ff k j (by omega)) hR, iB_keep (fun k j hk => ff k j (by omega)) hB, iS_keep (fun k j hk => ff k j (by omega)) hS, iO_keep (Nat.le_refl _) (fun k j hk => ff k j (by omega)) hO, ?_, iK_keep (by omega) (fun k j hk => ff k j (by omega)) hK, iP_keep (fun k j hk => ff k j (by omega)) hP, iC_keep (fun k j hk => ff k j (by omega)) hC⟩
        refine ⟨m + 1, by omega, by rw [fg 47 7 (by omega), hg]; simp [u2_at], by simp [u2_at], fun i hi => ?_, Or.inl (by rw [fg 47 8 (by omega), hg]; simp [u2_at])⟩
        by_cases ei : i = m
        · subst ei
          refine ⟨r, c, hh, w, cb, ?_, ?_, ?_, ?_, ?_⟩
          · rw [fg 49 i (by omega), hg]; simp [u2_at]
          · rw [fg 50 i (by omega), hg]; simp [u2_at]
          · rw [fg 51 i (by omega), hg]; simp [u2_at]
          · rw [fg 52 i (by omega), hg]; simp [u2_at]
          · rw [tdB_eq, ← en]; simp [u2_at]
        · obtain ⟨r', c', h', w', b, e1, e2, e3, e4, e5⟩ := m4 i (by omega)
          exact ⟨r', c', h', w', b, by rw [ff 49 i (by omega)]; exact e1, by rw [ff 50 i (by omega)]; exact e2, by rw [ff 51 i (by omega)]; exact e3, by rw [ff 52 i (by omega)]; exact e4, by rw [ff 133 i (by omega)]; exact e5⟩
      · rw [if_neg t6] at kl
        refine ⟨_, _, _, _, kl, (by rw [ml h (fun _ _ _ => rfl), if_neg t, if_neg t6]), rfl, H'⟩
  · refine unk ?_ ?_
    · rw [hd, if_neg cb]
    · rw [hm (u2 h 111 0 0) (by rw [u0_j _ _ (by decide)]; exact f3) (by rw [u0_j _ _ (by decide)]; exact f4), if_neg cb]
