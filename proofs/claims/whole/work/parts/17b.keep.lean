/-! rounds: keep, again -/
def c11 (h : Hp) (i j : Nat) : Int32 := match j with
  | 0 => h 115 i
  | 1 => h 116 i
  | 2 => h 117 i
  | 3 => h 118 i
  | 4 => h 119 i
  | 5 => h 120 i
  | 6 => h 121 i
  | 7 => h 122 (4 * i)
  | 8 => h 122 (4 * i + 1)
  | 9 => h 122 (4 * i + 2)
  | 10 => h 122 (4 * i + 3)
  | _ => 0
theorem j11 {j : Nat} (h : j < 11) : j = 0 ∨ j = 1 ∨ j = 2 ∨ j = 3 ∨ j = 4 ∨ j = 5 ∨ j = 6 ∨ j = 7 ∨ j = 8 ∨ j = 9 ∨ j = 10 := by omega
theorem mrow_c11 {g h : Hp} {i : Nat} (e : g 113 = h 113) (c : ∀ j, j < 11 → c11 g i j = c11 h i j) : mrow g i = mrow h i := by
  have c0 : g 115 i = h 115 i := c 0 (by omega)
  have c1 : g 116 i = h 116 i := c 1 (by omega)
  have c2 : g 117 i = h 117 i := c 2 (by omega)
  have c3 : g 118 i = h 118 i := c 3 (by omega)
  have c4 : g 119 i = h 119 i := c 4 (by omega)
  have c5 : g 120 i = h 120 i := c 5 (by omega)
  have c6 : g 121 i = h 121 i := c 6 (by omega)
  have c7 : g 122 (4 * i) = h 122 (4 * i) := c 7 (by omega)
  have c8 : g 122 (4 * i + 1) = h 122 (4 * i + 1) := c 8 (by omega)
  have c9 : g 122 (4 * i + 2) = h 122 (4 * i + 2) := c 9 (by omega)
  have c10 : g 122 (4 * i + 3) = h 122 (4 * i + 3) := c 10 (by omega)
  unfold mrow
  simp only [e, c0, c1, c2, c3, c4, c5, c6, c7, c8, c9, c10]
theorem mrow_srow {g h : Hp} {s i : Nat} (e : g 113 = h 113) (c : ∀ j, j < 11 → c11 g i j = h 124 (266 * s + 2 + 11 * i + j)) : mrow g i = srow h s i := by
  have c0 : g 115 i = h 124 (266 * s + 2 + 11 * i) := c 0 (by omega)
  have c1 : g 116 i = h 124 (266 * s + 2 + 11 * i + 1) := c 1 (by omega)
  have c2 : g 117 i = h 124 (266 * s + 2 + 11 * i + 2) := c 2 (by omega)
  have c3 : g 118 i = h 124 (266 * s + 2 + 11 * i + 3) := c 3 (by omega)
  have c4 : g 119 i = h 124 (266 * s + 2 + 11 * i + 4) := c 4 (by omega)
  have c5 : g 120 i = h 124 (266 * s + 2 + 11 * i + 5) := c 5 (by omega)
  have c6 : g 121 i = h 124 (266 * s + 2 + 11 * i + 6) := c 6 (by omega)
  have c7 : g 122 (4 * i) = h 124 (266 * s + 2 + 11 * i + 7) := c 7 (by omega)
  have c8 : g 122 (4 * i + 1) = h 124 (266 * s + 2 + 11 * i + 8) := c 8 (by omega)
  have c9 : g 122 (4 * i + 2) = h 124 (266 * s + 2 + 11 * i + 9) := c 9 (by omega)
  have c10 : g 122 (4 * i + 3) = h 124 (266 * s + 2 + 11 * i + 10) := c 10 (by omega)
  funext t
  by_cases ht : t < 13
  · rcases j13 ht with rfl | rfl | rfl | rfl | rfl | rfl | rfl | rfl | rfl | rfl | rfl | rfl | rfl <;> simp only [mrow, srow, e, c0, c1, c2, c3, c4, c5, c6, c7, c8, c9, c10]
  · rw [mrow_far _ _ ht]
    obtain ⟨u, rfl⟩ : ∃ u, t = u + 13 := ⟨t - 13, by omega⟩
    rfl
theorem srow_congr {g h : Hp} {s i : Nat} (e : g 113 = h 113) (c : ∀ j, j < 11 → g 124 (266 * s + 2 + 11 * i + j) = h 124 (266 * s + 2 + 11 * i + j)) : srow g s i = srow h s i := by
  have c0 := c 0 (by omega)
  have c1 := c 1 (by omega)
  have c2 := c 2 (by omega)
  have c3 := c 3 (by omega)
  have c4 := c 4 (by omega)
  have c5 := c 5 (by omega)
  have c6 := c 6 (by omega)
  have c7 := c 7 (by omega)
  have c8 := c 8 (by omega)
  have c9 := c 9 (by omega)
  have c10 := c 10 (by omega)
  rw [Nat.add_zero] at c0
  unfold srow
  simp only [e, c0, c1, c2, c3, c4, c5, c6, c7, c8, c9, c10]
theorem k_bBecome (h : Hp) {a0 a1 n : Nat} (hn : n ≤ 24) (e : h a1 3 = nI n) (hd : a0 + 27 ≤ a1 ∨ a1 + 27 ≤ a0) :
    ∃ h', f_X1_become h a0 a1 = some h' ∧ h' a0 3 = nI n ∧ h' a0 4 = h a1 4 ∧ (∀ i, i < n → crow h' (a0 + 3 + i) = crow h (a1 + 3 + i)) ∧ ∀ k j, ¬ (k = a0 ∧ (j = 3 ∨ j = 4)) → ¬ (a0 + 3 ≤ k ∧ k < a0 + 27) → h' k j = h k j := by
  simp only [f_X1_become, vB_def]
  obtain ⟨T, q1, q2, q3, q4, q5⟩ := lpE (fun N j a => L_X1_become_18 a0 a1 N (nI j) a) n id (fun j a => (∀ i, i < j → crow a (a0 + 3 + i) = crow h (a1 + 3 + i)) ∧ (∀ k i, ¬ (k = a0 ∧ (i = 3 ∨ i = 4)) → ¬ (a0 + 3 ≤ k ∧ k < a0 + 3 + j) → a k i = h k i) ∧ a a0 3 = nI n ∧ a a0 4 = h a1 4)
    (fun N a hP => by simp only [L_X1_become_18]; rw [hP.2.2.1, if_pos (nI_le (Nat.le_refl n) (by omega))]; rfl)
    (fun N j a hj hP => by
      obtain ⟨p1, p2, p3, p4⟩ := hP
      obtain ⟨u, u1, w2, u3⟩ := k_become a (a0 := a0 + 3 + j) (a1 := a1 + 3 + j) (by omega)
      simp only [L_X1_become_18, vB_def]
      rw [p3, if_neg (nI_ge hj (by omega)), if_pos (inB_nI (show j < 24 by omega) (by omega)), if_pos (inB_nI (show j < 24 by omega) (by omega)), ix_nI (by omega), u1, Option.bind_some, nI_1]
      refine ⟨u, rfl, ?_, ?_, ?_, ?_⟩
      · intro i hi
        by_cases ei : i = j
        · subst ei
          exact crow_eq (fun t ht => by rw [w2 t ht, p2 _ _ (by omega) (by omega), crow_at _ _ ht]) (fun t ht => if_neg ht)
        · rw [crow_keep (h := a) (fun t => by rw [u3 _ (by omega)]), p1 i (by omega)]
      · intro k i hk1 hk2
        rw [u3 k (by omega), p2 k i hk1 (by omega)]
      · rw [u3 a0 (by omega)]; exact p3
      · rw [u3 a0 (by omega)]; exact p4)
    n FU 0 (u2 (u2 h a0 3 (h a1 3)) a0 4 (u2 h a0 3 (h a1 3) a1 4)) (by omega) (FU_gt (by omega))
    ⟨fun i hi => absurd hi (by omega), fun k i hk _ => by rw [u2_at, if_neg (by omega), u2_at, if_neg (by omega)], by rw [u2_at, if_neg (by omega), u2_at, if_pos ⟨rfl, rfl⟩]; exact e, by rw [u2_at, if_pos ⟨rfl, rfl⟩, u2_at, if_neg (by omega)]⟩
  refine ⟨T, ?_, q4, q5, q2, fun k j h1 h2 => q3 k j h1 (by omega)⟩
  rw [show L_X1_become_18 a0 a1 FU 0 _ = some T from q1]
  rfl
theorem ix11 (i : Nat) : (2 : Int32) + 11 * nI i = nI (2 + 11 * i) := by
  rw [show (11 : Int32) = nI 11 from rfl, nI_mul, show (2 : Int32) = nI 2 from rfl, nI_add]
theorem ix266 (s j : Nat) : (266 : Int32) * nI s + nI j = nI (266 * s + j) := by
  rw [show (266 : Int32) = nI 266 from rfl, nI_mul, nI_add]
theorem nI_c (m c : Nat) : nI m + nI c = nI (m + c) := nI_add m c
theorem m_putIn (T : Hp) {i : Nat} (hi : i < 24) : ∃ T', L_X12_putAside_134 (nI i) (nI (2 + 11 * i)) FU 0 T = some T' ∧ (∀ s, s < 4 → T' 123 (2 + 11 * i + 7 + s) = T 122 (4 * i + s)) ∧ (∀ t, ¬ (2 + 11 * i + 7 ≤ t ∧ t < 2 + 11 * i + 11) → T' 123 t = T 123 t) ∧ ∀ k, k ≠ 123 → T' k = T k := by
  obtain ⟨T', q1, q2, q3, q4⟩ := lpE (fun N j a => L_X12_putAside_134 (nI i) (nI (2 + 11 * i)) N (nI j) a) 4 id
    (fun j a => (∀ s, s < j → a 123 (2 + 11 * i + 7 + s) = T 122 (4 * i + s)) ∧ (∀ t, ¬ (2 + 11 * i + 7 ≤ t ∧ t < 2 + 11 * i + 7 + j) → a 123 t = T 123 t) ∧ ∀ k, k ≠ 123 → a k = T k)
    (fun N a hP => by simp only [L_X12_putAside_134]; rw [if_pos (by decide)]; rfl)
    (fun N j a hj hP => by
      obtain ⟨p1, p2, p3⟩ := hP
      simp only [L_X12_putAside_134, vB_def, ix4]
      rw [if_neg (f_le 4 rfl (by omega) (by omega)), if_pos (inB_nI (show 4 * i + j < 96 by omega) (by omega)), show nI (2 + 11 * i) + (7 : Int32) = nI (2 + 11 * i + 7) from nI_add _ 7, nI_add, if_pos (inB_nI (show 2 + 11 * i + 7 + j < 266 by omega) (by omega)), ix_nI (by omega), ix_nI (by omega), nI_1, p3 122 (by omega)]
      refine ⟨_, rfl, ?_, ?_, ?_⟩
      · intro s hs
        by_cases e : s = j
        · subst e; rw [u2_at, if_pos ⟨rfl, rfl⟩]
        · rw [u2_at, if_neg (by omega), p1 s (by omega)]
      · intro t ht
        rw [u2_at, if_neg (by omega), p2 t (by omega)]
      · intro k hk
        rw [u2_ne _ _ _ hk, p3 k hk])
    4 FU 0 T rfl (FU_gt (by omega)) ⟨fun s hs => absurd hs (by omega), fun t _ => rfl, fun k _ => rfl⟩
  exact ⟨T', q1, q2, fun t ht => q3 t (by omega), q4⟩
theorem m_putAside (h : Hp) : ∃ h', f_X12_putAside h = some h' ∧ h' 123 0 = h 111 9 ∧ h' 123 1 = h 111 18 ∧ (∀ i j, i < 24 → j < 11 → h' 123 (2 + 11 * i + j) = c11 h i j) ∧ ∀ k, k ≠ 123 → h' k = h k := by
  obtain ⟨T, q1, q2, q3, q4, q5⟩ := lpE (fun N j a => L_X12_putAside_22 N (nI j) a) 24 id
    (fun j a => (∀ i t, i < j → t < 11 → a 123 (2 + 11 * i + t) = c11 h i t) ∧ a 123 0 = h 111 9 ∧ a 123 1 = h 111 18 ∧ ∀ k, k ≠ 123 → a k = h k)
    (fun N a hP => by simp only [L_X12_putAside_22]; rw [if_pos (by decide)]; rfl)
    (fun N j a hj hP => by
      obtain ⟨p1, p2, p3, p4⟩ := hP
      have g : ∀ c, c < 11 → inB (nI (2 + 11 * j + c)) 266 := fun c hc => inB_nI (by omega) (by omega)
      have x : ∀ c, c < 11 → ix (nI (2 + 11 * j + c)) = 2 + 11 * j + c := fun c hc => ix_nI (by omega)
      have g0 : inB (nI (2 + 11 * j)) 266 := inB_nI (by omega) (by omega)
      have x0 : ix (nI (2 + 11 * j)) = 2 + 11 * j := ix_nI (by omega)
      have gj : inB (nI j) 24 := inB_nI (by omega) (by omega)
      simp only [L_X12_putAside_22, vB_def, ix11, show ∀ m, nI m + (1 : Int32) = nI (m + 1) from fun m => nI_add m 1, show ∀ m, nI m + (2 : Int32) = nI (m + 2) from fun m => nI_add m 2, show ∀ m, nI m + (3 : Int32) = nI (m + 3) from fun m => nI_add m 3, show ∀ m, nI m + (4 : Int32) = nI (m + 4) from fun m => nI_add m 4, show ∀ m, nI m + (5 : Int32) = nI (m + 5) from fun m => nI_add m 5, show ∀ m, nI m + (6 : Int32) = nI (m + 6) from fun m => nI_add m 6, if_pos gj, if_pos g0, if_pos (g 1 (by omega)), if_pos (g 2 (by omega)), if_pos (g 3 (by omega)), if_pos (g 4 (by omega)), if_pos (g 5 (by omega)), if_pos (g 6 (by omega)), x0, x 1 (by omega), x 2 (by omega), x 3 (by omega), x 4 (by omega), x 5 (by omega), x 6 (by omega), ix_nI (show j < 2147483648 by omega)]
      rw [if_neg (f_le 24 rfl (by omega) (by omega))]
      generalize hG : u2 (u2 (u2 (u2 (u2 (u2 (u2 a 123 (2 + 11 * j) (a 115 j)) 123 (2 + 11 * j + 1) _) 123 (2 + 11 * j + 2) _) 123 (2 + 11 * j + 3) _) 123 (2 + 11 * j + 4) _) 123 (2 + 11 * j + 5) _) 123 (2 + 11 * j + 6) _ = G
      have Gn : ∀ k, k ≠ 123 → G k = h k := fun k hk => by
        rw [← hG, u2_ne _ _ _ hk, u2_ne _ _ _ hk, u2_ne _ _ _ hk, u2_ne _ _ _ hk, u2_ne _ _ _ hk, u2_ne _ _ _ hk, u2_ne _ _ _ hk, p4 k hk]
      have Go : ∀ t, ¬ (2 + 11 * j ≤ t ∧ t < 2 + 11 * j + 7) → G 123 t = a 123 t := fun t ht => by
        rw [← hG, u2_at, if_neg (by omega), u2_at, if_neg (by omega), u2_at, if_neg (by omega), u2_at, if_neg (by omega), u2_at, if_neg (by omega), u2_at, if_neg (by omega), u2_at, if_neg (by omega)]
      have Gi : ∀ t, t < 7 → G 123 (2 + 11 * j + t) = c11 h j t := fun t ht => by
        rcases (by omega : t = 0 ∨ t = 1 ∨ t = 2 ∨ t = 3 ∨ t = 4 ∨ t = 5 ∨ t = 6) with rfl | rfl | rfl | rfl | rfl | rfl | rfl <;> rw [← hG] <;> simp [u2_at, c11, p4]
      obtain ⟨U, v1, v2, v3, v4⟩ := m_putIn G hj
      rw [v1, Option.bind_some]
      refine ⟨U, rfl, ?_, ?_, ?_, ?_⟩
      · intro i t hi ht
        by_cases e : i = j
        · subst e
          by_cases t7 : t < 7
          · rw [v3 _ (by omega), Gi t t7]
          · obtain ⟨s, rfl, hs⟩ : ∃ s, t = 7 + s ∧ s < 4 := ⟨t - 7, by omega, by omega⟩
            rw [← Nat.add_assoc, v2 s hs, Gn 122 (by omega)]
            rcases (by omega : s = 0 ∨ s = 1 ∨ s = 2 ∨ s = 3) with rfl | rfl | rfl | rfl <;> rfl
        · rw [v3 _ (by omega), Go _ (by omega), p1 i t (by omega) ht]
      · rw [v3 _ (by omega), Go _ (by omega), p2]
      · rw [v3 _ (by omega), Go _ (by omega), p3]
      · intro k hk
        rw [v4 k hk, Gn k hk])
    24 FU 0 (u2 (u2 h 123 0 (h 111 9)) 123 1 (h 111 18)) rfl (FU_gt (by omega))
    ⟨fun i t hi => absurd hi (by omega), by simp [u2_at], by simp [u2_at], fun k hk => by rw [u2_ne _ _ _ hk, u2_ne _ _ _ hk]⟩
  refine ⟨T, ?_, q3, q4, q2, q5⟩
  simp only [f_X12_putAside, vB_def, show ix 0 = 0 from rfl, show ix 1 = 1 from rfl]
  rw [if_pos (by decide), if_pos (by decide), u2_ne h _ _ (show 111 ≠ 123 by decide), show L_X12_putAside_22 FU 0 _ = some T from q1]
  rfl
theorem m_takeIn (T : Hp) {i : Nat} (hi : i < 24) : ∃ T', L_X12_takeBack_134 (nI i) (nI (2 + 11 * i)) FU 0 T = some T' ∧ (∀ s, s < 4 → T' 122 (4 * i + s) = T 123 (2 + 11 * i + 7 + s)) ∧ (∀ t, ¬ (4 * i ≤ t ∧ t < 4 * i + 4) → T' 122 t = T 122 t) ∧ ∀ k, k ≠ 122 → T' k = T k := by
  obtain ⟨T', q1, q2, q3, q4⟩ := lpE (fun N j a => L_X12_takeBack_134 (nI i) (nI (2 + 11 * i)) N (nI j) a) 4 id
    (fun j a => (∀ s, s < j → a 122 (4 * i + s) = T 123 (2 + 11 * i + 7 + s)) ∧ (∀ t, ¬ (4 * i ≤ t ∧ t < 4 * i + j) → a 122 t = T 122 t) ∧ ∀ k, k ≠ 122 → a k = T k)
    (fun N a hP => by simp only [L_X12_takeBack_134]; rw [if_pos (by decide)]; rfl)
    (fun N j a hj hP => by
      obtain ⟨p1, p2, p3⟩ := hP
      simp only [L_X12_takeBack_134, vB_def, ix4]
      rw [if_neg (f_le 4 rfl (by omega) (by omega)), show nI (2 + 11 * i) + (7 : Int32) = nI (2 + 11 * i + 7) from nI_add _ 7, nI_add, if_pos (inB_nI (show 2 + 11 * i + 7 + j < 266 by omega) (by omega)), if_pos (inB_nI (show 4 * i + j < 96 by omega) (by omega)), ix_nI (by omega), ix_nI (by omega), nI_1, p3 123 (by omega)]
      refine ⟨_, rfl, ?_, ?_, ?_⟩
      · intro s hs
        by_cases e : s = j
        · subst e; rw [u2_at, if_pos ⟨rfl, rfl⟩]
        · rw [u2_at, if_neg (by omega), p1 s (by omega)]
      · intro t ht
        rw [u2_at, if_neg (by omega), p2 t (by omega)]
      · intro k hk
        rw [u2_ne _ _ _ hk, p3 k hk])
    4 FU 0 T rfl (FU_gt (by omega)) ⟨fun s hs => absurd hs (by omega), fun t _ => rfl, fun k _ => rfl⟩
  exact ⟨T', q1, q2, q3, q4⟩
theorem m_takeBack (h : Hp) : ∃ h', f_X12_takeBack h = some h' ∧ h' 111 9 = h 123 0 ∧ h' 111 18 = h 123 1 ∧ (∀ i j, i < 24 → j < 11 → c11 h' i j = h 123 (2 + 11 * i + j)) ∧ ∀ k j, ¬ (115 ≤ k ∧ k ≤ 122) → ¬ (k = 111 ∧ (j = 9 ∨ j = 18)) → h' k j = h k j := by
  obtain ⟨T, q1, q2, q3⟩ := lpE (fun N j a => L_X12_takeBack_22 N (nI j) a) 24 id
    (fun j a => (∀ i t, i < j → t < 11 → c11 a i t = h 123 (2 + 11 * i + t)) ∧ ∀ k, ¬ (115 ≤ k ∧ k ≤ 122) → a k = u2 (u2 h 111 9 (h 123 0)) 111 18 (h 123 1) k)
    (fun N a hP => by simp only [L_X12_takeBack_22]; rw [if_pos (by decide)]; rfl)
    (fun N j a hj hP => by
      obtain ⟨p1, p4⟩ := hP
      have a123 : a 123 = h 123 := by rw [p4 123 (by omega), u2_ne _ _ _ (by decide), u2_ne _ _ _ (by decide)]
      have g : ∀ c, c < 11 → inB (nI (2 + 11 * j + c)) 266 := fun c hc => inB_nI (by omega) (by omega)
      have x : ∀ c, c < 11 → ix (nI (2 + 11 * j + c)) = 2 + 11 * j + c := fun c hc => ix_nI (by omega)
      have g0 : inB (nI (2 + 11 * j)) 266 := inB_nI (by omega) (by omega)
      have x0 : ix (nI (2 + 11 * j)) = 2 + 11 * j := ix_nI (by omega)
      have gj : inB (nI j) 24 := inB_nI (by omega) (by omega)
      simp only [L_X12_takeBack_22, vB_def, ix11, show ∀ m, nI m + (1 : Int32) = nI (m + 1) from fun m => nI_add m 1, show ∀ m, nI m + (2 : Int32) = nI (m + 2) from fun m => nI_add m 2, show ∀ m, nI m + (3 : Int32) = nI (m + 3) from fun m => nI_add m 3, show ∀ m, nI m + (4 : Int32) = nI (m + 4) from fun m => nI_add m 4, show ∀ m, nI m + (5 : Int32) = nI (m + 5) from fun m => nI_add m 5, show ∀ m, nI m + (6 : Int32) = nI (m + 6) from fun m => nI_add m 6, if_pos gj, if_pos g0, if_pos (g 1 (by omega)), if_pos (g 2 (by omega)), if_pos (g 3 (by omega)), if_pos (g 4 (by omega)), if_pos (g 5 (by omega)), if_pos (g 6 (by omega)), x0, x 1 (by omega), x 2 (by omega), x 3 (by omega), x 4 (by omega), x 5 (by omega), x 6 (by omega), ix_nI (show j < 2147483648 by omega)]
      rw [if_neg (f_le 24 rfl (by omega) (by omega))]
      generalize hG : u2 (u2 (u2 (u2 (u2 (u2 (u2 a 115 j _) 116 j _) 117 j _) 118 j _) 119 j _) 120 j _) 121 j _ = G
      have Gn : ∀ k, ¬ (115 ≤ k ∧ k ≤ 121) → G k = a k := fun k hk => by
        rw [← hG, u2_ne _ _ _ (by omega), u2_ne _ _ _ (by omega), u2_ne _ _ _ (by omega), u2_ne _ _ _ (by omega), u2_ne _ _ _ (by omega), u2_ne _ _ _ (by omega), u2_ne _ _ _ (by omega)]
      have Go : ∀ i t, i ≠ j → t < 7 → c11 G i t = c11 a i t := fun i t hi ht => by
        rcases (by omega : t = 0 ∨ t = 1 ∨ t = 2 ∨ t = 3 ∨ t = 4 ∨ t = 5 ∨ t = 6) with rfl | rfl | rfl | rfl | rfl | rfl | rfl <;> rw [← hG] <;> simp [u2_at, c11, hi]
      have Gi : ∀ t, t < 7 → c11 G j t = h 123 (2 + 11 * j + t) := fun t ht => by
        rcases (by omega : t = 0 ∨ t = 1 ∨ t = 2 ∨ t = 3 ∨ t = 4 ∨ t = 5 ∨ t = 6) with rfl | rfl | rfl | rfl | rfl | rfl | rfl <;> rw [← hG] <;> simp [u2_at, c11, a123]
      obtain ⟨U, v1, v2, v3, v4⟩ := m_takeIn G hj
      rw [v1, Option.bind_some]
      have U7 : ∀ i t, t < 7 → c11 U i t = c11 G i t := fun i t ht => by
        rcases (by omega : t = 0 ∨ t = 1 ∨ t = 2 ∨ t = 3 ∨ t = 4 ∨ t = 5 ∨ t = 6) with rfl | rfl | rfl | rfl | rfl | rfl | rfl <;> simp only [c11] <;> rw [v4 _ (by decide)]
      have cd : ∀ (g : Hp) (i s : Nat), s < 4 → c11 g i (7 + s) = g 122 (4 * i + s) := fun g i s hs => by
        rcases (by omega : s = 0 ∨ s = 1 ∨ s = 2 ∨ s = 3) with rfl | rfl | rfl | rfl <;> rfl
      refine ⟨U, rfl, ?_, ?_⟩
      · intro i t hi ht
        by_cases t7 : t < 7
        · rw [U7 i t t7]
          by_cases e : i = j
          · subst e; rw [Gi t t7]
          · rw [Go i t e t7, p1 i t (by omega) ht]
        · obtain ⟨s, rfl, hs⟩ : ∃ s, t = 7 + s ∧ s < 4 := ⟨t - 7, by omega, by omega⟩
          rw [cd _ _ _ hs]
          by_cases e : i = j
          · subst e
            rw [v2 s hs, Gn 123 (by omega), a123, Nat.add_assoc]
          · rw [v3 _ (by omega), Gn 122 (by omega), ← cd a i s hs, p1 i _ (by omega) ht]
      · intro k hk
        rw [v4 k (by omega), Gn k (by omega), p4 k hk])
    24 FU 0 (u2 (u2 h 111 9 (h 123 0)) 111 18 (h 123 1)) rfl (FU_gt (by omega))
    ⟨fun i t hi => absurd hi (by omega), fun k _ => rfl⟩
  refine ⟨T, ?_, ?_, ?_, q2, ?_⟩
  · simp only [f_X12_takeBack, vB_def, show ix 0 = 0 from rfl, show ix 1 = 1 from rfl]
    rw [if_pos (by decide), if_pos (by decide), u2_ne h _ _ (show 123 ≠ 111 by decide), show L_X12_takeBack_22 FU 0 _ = some T from q1]
    rfl
  · rw [q3 111 (by omega)]; simp [u2_at]
  · rw [q3 111 (by omega)]; simp [u2_at]
  · intro k j h1 h2
    rw [q3 k h1, u2_at, if_neg (by omega), u2_at, if_neg (by omega)]
