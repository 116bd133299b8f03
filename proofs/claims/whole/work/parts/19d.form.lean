/-! rounds: form -/
/-- the one piece that is all of the form -/
def allP (K : Nat → Int32) (R C : Nat) : Pr := fun j => match j with
  | 2 => nI R
  | 3 => nI C
  | 4 => nI (wtB K 0 0 R C)
  | 5 => nI (rdB K 1 0 0 R C)
  | _ => 0
theorem allP_ok {K : Nat → Int32} {R C : Nat} (hR : 1 ≤ R) (hC : 1 ≤ C) : okP K R C (allP K R C) 0 0 R C := ⟨rfl, rfl, rfl, rfl, hR, hC, by omega, by omega, rfl, rfl, Or.inl rfl⟩
theorem allP_far {K : Nat → Int32} {R C j : Nat} (h : ¬ j < 13) : allP K R C j = 0 := by
  obtain ⟨i, rfl⟩ : ∃ i, j = i + 13 := ⟨j - 13, by omega⟩
  rfl
theorem k_startAnew (h : Hp) {K : Nat → Int32} {R C : Nat} (a : Nat) (ha : 7 ≤ a) (hR : R ≤ 6) (hC : C ≤ 6) (e3 : h 3 3 = nI R) (e4 : h 3 4 = nI C) (hs5 : sums (h 5) (fun i => wtN (K i)) R C) (hs6 : sums (h 6) (fun i => rdN 1 (K i)) R C) :
    ∃ h', f_X1_startAnew h a = some h' ∧ h' a 3 = 1 ∧ h' a 4 = 0 ∧ crow h' (a + 3) = allP K R C ∧ ∀ k j, k ≠ a + 3 → ¬ (k = a ∧ (j = 3 ∨ j = 4)) → h' k j = h k j := by
  obtain ⟨g, hg⟩ : ∃ g, g = u2 (u2 (u2 (u2 h (a + 3) 0 0) (a + 3) 1 0) (a + 3) 2 (nI R)) (a + 3) 3 (nI C) := ⟨_, rfl⟩
  have gn : ∀ k, k ≠ a + 3 → g k = h k := fun k hk => by rw [hg, u2_ne _ _ _ hk, u2_ne _ _ _ hk, u2_ne _ _ _ hk, u2_ne _ _ _ hk]
  have g0 : g (a + 3) 0 = nI 0 := by rw [hg]; simp [u2_at]; rfl
  have g1 : g (a + 3) 1 = nI 0 := by rw [hg]; simp [u2_at]; rfl
  have g2 : g (a + 3) 2 = nI R := by rw [hg]; simp [u2_at]
  have g3 : g (a + 3) 3 = nI C := by rw [hg]; simp [u2_at]
  have kw := k_weightIn g (K := K) (R := R) (C := C) (r := 0) (c := 0) (hh := R) (w := C) (by rw [gn 5 (by omega)]; exact hs5) hR hC (by omega) (by omega)
  have kr := k_rindIn (u2 g (a + 3) 4 (nI (wtB K 0 0 R C))) (K := K) (R := R) (C := C) (r := 0) (c := 0) (hh := R) (w := C) (by rw [u2_ne _ _ _ (by omega), gn 6 (by omega)]; exact hs6) hR hC (by omega) (by omega)
  have x3 : ∀ v w : Int32, u2 (u2 h (a + 3) 0 v) (a + 3) 1 w 3 3 = nI R := fun v w => by rw [u2_ne _ _ _ (by omega), u2_ne _ _ _ (by omega)]; exact e3
  have x4 : ∀ v w : Int32, u2 (u2 (u2 h (a + 3) 0 v) (a + 3) 1 w) (a + 3) 2 (nI R) 3 4 = nI C := fun v w => by rw [u2_ne _ _ _ (by omega), u2_ne _ _ _ (by omega), u2_ne _ _ _ (by omega)]; exact e4
  have y : ∀ j, j ≠ 4 → u2 g (a + 3) 4 (nI (wtB K 0 0 R C)) (a + 3) j = g (a + 3) j := fun j hj => by rw [u2_at, if_neg (by omega)]
  simp only [f_X1_startAnew, f_X7_becomeAll, f_X7_dryAnew, vB_def, x3, x4, ← hg, g0, g1, g2, g3, kw, Option.bind_some, y 0 (by omega), y 1 (by omega), y 2 (by omega), y 3 (by omega), kr]
  rw [if_pos (by decide)]
  refine ⟨_, rfl, ?_, ?_, ?_, ?_⟩
  · simp [u2_at]
  · simp [u2_at]
  · refine crow_eq (fun j hj => ?_) (fun j hj => allP_far hj)
    rcases j13 hj with rfl | rfl | rfl | rfl | rfl | rfl | rfl | rfl | rfl | rfl | rfl | rfl | rfl <;> simp [u2_at, allP, g0, g1, g2, g3] <;> rfl
  · intro k j h1 h2
    rw [u2_at, if_neg (by omega), u2_at, if_neg (by omega), u2_ne _ _ _ h1, u2_ne _ _ _ h1, u2_ne _ _ _ h1, u2_ne _ _ _ h1, u2_ne _ _ _ h1, u2_ne _ _ _ h1, u2_ne _ _ _ h1, u2_ne _ _ _ h1, u2_ne _ _ _ h1, gn k h1]
theorem m_form35 (T : Hp) : ∃ T', L_X12_form_35 FU 0 T = some T' ∧ (∀ j, j < 36 → T' 113 j = T 114 j) ∧ ∀ k, k ≠ 113 → T' k = T k := by
  obtain ⟨T', q1, q2, q4⟩ := lpE (fun N j a => L_X12_form_35 N (nI j) a) 36 id
    (fun j a => (∀ t, t < j → a 113 t = T 114 t) ∧ ∀ k, k ≠ 113 → a k = T k)
    (fun N a hP => by simp only [L_X12_form_35]; rw [if_pos (by decide)]; rfl)
    (fun N j a hj hP => by
      obtain ⟨p1, p3⟩ := hP
      simp only [L_X12_form_35, vB_def]
      rw [if_neg (f_le 36 rfl (by omega) (by omega)), if_pos (inB_nI hj (by omega)), if_pos (inB_nI hj (by omega)), ix_nI (by omega), nI_1, p3 114 (by omega)]
      refine ⟨_, rfl, ?_, ?_⟩
      · intro t ht
        by_cases e : t = j
        · subst e; rw [u2_at, if_pos ⟨rfl, rfl⟩]
        · rw [u2_at, if_neg (by omega), p1 t (by omega)]
      · intro k hk
        rw [u2_ne _ _ _ hk, p3 k hk])
    36 FU 0 T rfl (FU_gt (by omega)) ⟨fun s hs => absurd hs (by omega), fun k _ => rfl⟩
  exact ⟨T', q1, q2, q4⟩
theorem m_begin62 (T : Hp) : ∃ T', L_X12_begin_62 FU 0 T = some T' ∧ (∀ j, j < 4 → T' 122 j = 0) ∧ ∀ k, k ≠ 122 → T' k = T k := by
  obtain ⟨T', q1, q2, q4⟩ := lpE (fun N j a => L_X12_begin_62 N (nI j) a) 4 id
    (fun j a => (∀ t, t < j → a 122 t = 0) ∧ ∀ k, k ≠ 122 → a k = T k)
    (fun N a hP => by simp only [L_X12_begin_62]; rw [if_pos (by decide)]; rfl)
    (fun N j a hj hP => by
      obtain ⟨p1, p3⟩ := hP
      simp only [L_X12_begin_62, vB_def]
      rw [if_neg (f_le 4 rfl (by omega) (by omega)), if_pos (inB_nI (show j < 96 by omega) (by omega)), ix_nI (by omega), nI_1]
      refine ⟨_, rfl, ?_, ?_⟩
      · intro t ht
        by_cases e : t = j
        · subst e; rw [u2_at, if_pos ⟨rfl, rfl⟩]
        · rw [u2_at, if_neg (by omega), p1 t (by omega)]
      · intro k hk
        rw [u2_ne _ _ _ hk, p3 k hk])
    4 FU 0 T rfl (FU_gt (by omega)) ⟨fun s hs => absurd hs (by omega), fun k _ => rfl⟩
  exact ⟨T', q1, q2, q4⟩
theorem m_begin (h : Hp) {R C : Nat} (hR : R ≤ 6) (hC : C ≤ 6) (R1 : 1 ≤ R) (C1 : 1 ≤ C) (e4 : h 111 4 = nI R) (e5 : h 111 5 = nI C) :
    ∃ h', f_X12_begin h = some h' ∧ h' 111 9 = 1 ∧ h' 111 18 = 0 ∧ h' 111 35 = 0 ∧ h' 125 0 = 0 ∧ h' 125 1 = 0 ∧ mrow h' 0 = allP (h 113) R C ∧ ∀ k j, ¬ (115 ≤ k ∧ k ≤ 122 ∨ k = 125 ∨ k = 111 ∧ (j = 9 ∨ j = 18 ∨ j = 35)) → h' k j = h k j := by
  simp only [f_X12_begin, vB_def, show ix 0 = 0 from rfl, show ix 1 = 1 from rfl]
  have x4 : ∀ v : Int32, u2 (u2 (u2 h 111 9 1) 115 0 v) 116 0 v 111 4 = nI R := fun v => by rw [u2_ne _ _ _ (by decide), u2_ne _ _ _ (by decide), u2_at, if_neg (by omega)]; exact e4
  have x5 : ∀ v w : Int32, u2 (u2 (u2 (u2 h 111 9 1) 115 0 v) 116 0 v) 117 0 w 111 5 = nI C := fun v w => by rw [u2_ne _ _ _ (by decide), u2_ne _ _ _ (by decide), u2_ne _ _ _ (by decide), u2_at, if_neg (by omega)]; exact e5
  simp only [x4, x5, if_pos (show inB 0 24 by decide), if_pos (show inB 0 2 by decide), if_pos (show inB 1 2 by decide)]
  obtain ⟨T, t1, t2, t3⟩ := m_begin62 (u2 (u2 (u2 (u2 (u2 (u2 (u2 (u2 h 111 9 1) 115 0 0) 116 0 0) 117 0 (nI R)) 118 0 (nI C)) 119 0 0) 120 0 0) 121 0 0)
  rw [t1, Option.bind_some]
  refine ⟨_, rfl, ?_, ?_, ?_, ?_, ?_, ?_, ?_⟩
  · simp [u2_at, t3]
  · simp [u2_at, t3]
  · simp [u2_at, t3]
  · simp [u2_at, t3]
  · simp [u2_at, t3]
  · refine mrow_eq hR hC ?_ (allP_ok R1 C1) (fun j hj => allP_far hj) ?_ ?_ ?_ ?_ ?_ ?_ ?_ ?_ ?_ ?_ ?_
    · funext j; simp [u2_at, t3]
    all_goals simp [u2_at, t3, t2, allP]
  · intro k j hk
    rw [u2_at, if_neg (by omega), u2_at, if_neg (by omega), u2_at, if_neg (by omega), u2_at, if_neg (by omega), t3 k (by omega), u2_at, if_neg (by omega), u2_at, if_neg (by omega), u2_at, if_neg (by omega), u2_at, if_neg (by omega), u2_at, if_neg (by omega), u2_at, if_neg (by omega), u2_at, if_neg (by omega), u2_at, if_neg (by omega)]
theorem s_form {k N : Nat} {h : Hp} {q : Qp} (H : Inv k N h q) : ∃ a h1 b h2, f_X11_form h = some (a, h1) ∧ f_X12_form h1 = some (b, h2) ∧ a = b ∧ Inv (k + 1) N h2 q := by
  have H' := Inv_u0 (Nat.le_succ k) H
  obtain ⟨h0, R, C, hT, hF, hR, hB, hS, hO, hL, hK, hP, hC⟩ := H
  have hT' := hT
  obtain ⟨n, n1, n2, n3, n4⟩ := hT
  have fe : ff (h 112) n n 0 1 0 0 = ff (h 2) n n 0 1 0 0 := (ff_congr n n 0 1 0 0 (fun i _ hi => n4 i (by omega))).symm
  by_cases c9 : ff (h 2) n n 0 1 0 0 = -9
  · obtain ⟨P, hP0⟩ : ∃ P, P = rd (h 2) n 0 1 0 0 (h 4) := ⟨_, rfl⟩
    obtain ⟨Q, hQ0⟩ : ∃ Q, Q = rd (h 112) n 0 1 0 0 (h 114) := ⟨_, rfl⟩
    have oS : okS 1 0 0 := by unfold okS; omega
    have rc := rd_cov n1 (h 2) n 0 1 0 0 (h 4) (h 114) (by omega) oS c9 (fun r c hrc => absurd hrc (by omega))
    rw [rd_congr (T := h 2) (T' := h 112) n 0 1 0 0 (h 114) (fun i _ hi => n4 i (by omega)), ← hP0, ← hQ0] at rc
    obtain ⟨c1, c2, r1, r6, d1, d6, cv⟩ := rc
    -- the component
    obtain ⟨T, t1, t2, t3⟩ := k_take n1 (h 2) n FU 0 1 0 0 h (by omega) (FU_gt (by omega)) oS c9 n2 rfl
    rw [← hP0] at t1 t2
    obtain ⟨R', hR'⟩ : ∃ R', R' = Q.1 := ⟨_, rfl⟩
    obtain ⟨C', hC'⟩ : ∃ C', C' = Q.2.1 := ⟨_, rfl⟩
    rw [c1, c2, ← hR', ← hC'] at t1
    rw [← hR'] at r1 r6 cv
    rw [← hC'] at d1 d6 cv
    obtain ⟨U, hU⟩ : ∃ U, U = u2 (u2 T 3 3 (nI R')) 3 4 (nI C') := ⟨_, rfl⟩
    have Un : ∀ k j, ¬ (k = 4 ∨ k = 3 ∧ (j = 3 ∨ j = 4)) → U k j = h k j := fun k j hk => by rw [hU, u2_at, if_neg (by omega), u2_at, if_neg (by omega), t3 k (by omega)]
    have U4 : U 4 = P.2.2 := by rw [hU, u2_ne _ _ _ (by decide), u2_ne _ _ _ (by decide), t2]
    have U33 : U 3 3 = nI R' := by rw [hU]; simp [u2_at]
    have U34 : U 3 4 = nI C' := by rw [hU]; simp [u2_at]
    have ub5 : bord (U 5) := by
      rw [row_eq (h := h) (fun j => Un 5 j (by omega))]
      exact fun j hj => ⟨(hF.2.2.2.2.2.2.2.2.2.2.2 j hj).1, (hF.2.2.2.2.2.2.2.2.2.2.2 j hj).2.1⟩
    have ub6 : bord (U 6) := by
      rw [row_eq (h := h) (fun j => Un 6 j (by omega))]
      exact fun j hj => ⟨(hF.2.2.2.2.2.2.2.2.2.2.2 j hj).2.2.1, (hF.2.2.2.2.2.2.2.2.2.2.2 j hj).2.2.2⟩
    obtain ⟨V, v1, v2, v3, v4, v5, v6⟩ := k_addUp U (K := Q.2.2) (R := R') (C := C') (fun r c hr hc => by rw [U4]; exact cv r c hr hc) r6 d6 U33 U34 ub5 ub6
    have tk : f_X4_take h = some V := by
      simp only [f_X4_take, vB_def]
      rw [show L_X4_take_7 FU 0 0 0 h = _ from t1, Option.bind_some]
      simp only
      rw [nI_1, show R' - 1 + 1 = R' by omega, ← hU, v1]
      rfl
    obtain ⟨Z, z1, z2, z3, z4, z5⟩ := k_startAnew V (K := Q.2.2) (R := R') (C := C') 7 (by omega) r6 d6 (by rw [v6 3 (by omega) (by omega)]; exact U33) (by rw [v6 3 (by omega) (by omega)]; exact U34) v4 v5
    have l35 : L_X11_form_35 FU 0 Z = some (u2 (u2 Z 57 5 0) 84 5 0) := by
      obtain ⟨F, hF⟩ : ∃ F, FU = F + 1 + 1 + 1 := ⟨1997, rfl⟩
      rw [hF]
      simp only [L_X11_form_35, vB_def]
      rw [if_neg (by decide), if_pos (by decide), if_neg (by decide), if_pos (by decide), if_pos (by decide)]
      rfl
    obtain ⟨g, hg⟩ : ∃ g, g = u2 (u2 (u2 (u2 (u2 Z 57 5 0) 84 5 0) 47 7 0) 47 8 0) 41 6 0 := ⟨_, rfl⟩
    have gZ : ∀ k j, ¬ (k = 57 ∧ j = 5 ∨ k = 84 ∧ j = 5 ∨ k = 47 ∧ (j = 7 ∨ j = 8) ∨ k = 41 ∧ j = 6) → g k j = Z k j := fun k j hk => by
      rw [hg, u2_at, if_neg (by omega), u2_at, if_neg (by omega), u2_at, if_neg (by omega), u2_at, if_neg (by omega), u2_at, if_neg (by omega)]
    have gh : ∀ k j, ¬ (k = 3 ∧ (j = 3 ∨ j = 4) ∨ k = 4 ∨ k = 5 ∨ k = 6 ∨ k = 10 ∨ k = 7 ∧ (j = 3 ∨ j = 4) ∨ k = 57 ∧ j = 5 ∨ k = 84 ∧ j = 5 ∨ k = 47 ∧ (j = 7 ∨ j = 8) ∨ k = 41 ∧ j = 6) → g k j = h k j := fun k j hk => by
      rw [gZ k j (by omega), z5 k j (by omega) (by omega), v6 k (by omega) (by omega), Un k j (by omega)]
    have g33 : g 3 3 = nI R' := by rw [gZ 3 3 (by omega), z5 3 3 (by omega) (by omega), v6 3 (by omega) (by omega)]; exact U33
    have g34 : g 3 4 = nI C' := by rw [gZ 3 4 (by omega), z5 3 4 (by omega) (by omega), v6 3 (by omega) (by omega)]; exact U34
    have fk : f_X11_form h = some (nI R' * nI C', g) := by
      simp only [f_X11_form, f_X5_empty, vB_def, k_firstFault h n1 n2, Option.bind_some]
      rw [if_pos c9, tk, Option.bind_some, z1, Option.bind_some, l35, Option.bind_some, ← hg, g33, g34]
    -- the reference
    obtain ⟨F, f1, f2, f3⟩ := m_readForm (u2 g 111 0 0) n1 (by rw [u0_j _ _ (by decide), gh 111 2 (by omega)]; exact n3)
    rw [show u2 g 111 0 0 112 = h 112 from row_eq (fun j => by rw [u2_at, if_neg (by omega), gh 112 j (by omega)]), show u2 g 111 0 0 114 = h 114 from row_eq (fun j => by rw [u2_at, if_neg (by omega), gh 114 j (by omega)]), fe, ← hQ0, ← hR', ← hC'] at f3
    rw [show u2 g 111 0 0 112 = h 112 from row_eq (fun j => by rw [u2_at, if_neg (by omega), gh 112 j (by omega)]), fe] at f1
    obtain ⟨F7, F8, F114⟩ := f3 c9
    obtain ⟨A, hA⟩ : ∃ A, A = u2 (u2 F 111 4 (nI R')) 111 5 (nI C') := ⟨_, rfl⟩
    obtain ⟨G, G1, G2, G3⟩ := m_form35 A
    have AF : ∀ k j, ¬ (k = 111 ∧ (j = 4 ∨ j = 5)) → A k j = F k j := fun k j hk => by rw [hA, u2_at, if_neg (by omega), u2_at, if_neg (by omega)]
    have A4 : A 111 4 = nI R' := by rw [hA]; simp [u2_at]
    have A5 : A 111 5 = nI C' := by rw [hA]; simp [u2_at]
    obtain ⟨Y, y1, y9, y18, y35, y0, yy1, ym, yf⟩ := m_begin G r6 d6 r1 d1 (by rw [G3 111 (by omega)]; exact A4) (by rw [G3 111 (by omega)]; exact A5)
    have Y4 : Y 111 4 = nI R' := by rw [yf 111 4 (by omega), G3 111 (by omega)]; exact A4
    have Y5 : Y 111 5 = nI C' := by rw [yf 111 5 (by omega), G3 111 (by omega)]; exact A5
    have Yg : ∀ k j, ¬ (115 ≤ k ∧ k ≤ 122 ∨ k = 125 ∨ k = 113 ∨ k = 114 ∨ k = 111 ∧ (j = 0 ∨ j = 4 ∨ j = 5 ∨ j = 7 ∨ j = 8 ∨ j = 9 ∨ j = 18 ∨ j = 35)) → Y k j = g k j := fun k j hk => by
      rw [yf k j (by omega), G3 k (by omega), AF k j (by omega), f2 k j (by omega), u2_at, if_neg (by omega)]
    have Y113 : ∀ j, j < 36 → Y 113 j = Q.2.2 j := fun j hj => by
      rw [yf 113 j (by omega), G2 j hj, AF 114 j (by omega), F114]
    have mf : f_X12_form g = some (nI R' * nI C', Y) := by
      simp only [f_X12_form, vB_def]
      rw [f1, Option.bind_some]
      simp only [if_pos c9]
      have w8 : ∀ v : Int32, u2 F 111 4 v 111 8 = nI C' := fun v => by rw [u2_at, if_neg (by omega)]; exact F8
      rw [F7, w8, ← hA, G1, Option.bind_some, y1, Option.bind_some, Y4, Y5]
    refine ⟨_, g, _, Y, fk, mf, rfl, ?_⟩
    have ffr : ∀ k j, ¬ (k = 3 ∧ (j = 3 ∨ j = 4) ∨ k = 4 ∨ k = 5 ∨ k = 6 ∨ k = 10 ∨ k = 7 ∧ (j = 3 ∨ j = 4) ∨ k = 57 ∧ j = 5 ∨ k = 84 ∧ j = 5 ∨ k = 47 ∧ (j = 7 ∨ j = 8) ∨ k = 41 ∧ j = 6 ∨ 115 ≤ k ∧ k ≤ 122 ∨ k = 125 ∨ k = 113 ∨ k = 114 ∨ k = 111 ∧ (j = 0 ∨ j = 4 ∨ j = 5 ∨ j = 7 ∨ j = 8 ∨ j = 9 ∨ j = 18 ∨ j = 35)) → Y k j = h k j := fun k j hk => by
      rw [Yg k j (by omega), gh k j (by omega)]
    have YK : ∀ (φ : Int32 → Nat) y x, y < R' → x < C' → φ (Q.2.2 (6 * y + x)) = φ (Y 113 (6 * y + x)) := fun φ y x hy hx => by rw [Y113 _ (by omega)]
    have eW : wtB Q.2.2 0 0 R' C' = wtB (Y 113) 0 0 R' C' := blk_congr (R := R') (C := C') (YK wtN) (by omega) (by omega)
    have eD : rdB Q.2.2 1 0 0 R' C' = rdB (Y 113) 1 0 0 R' C' := blk_congr (R := R') (C := C') (YK (rdN 1)) (by omega) (by omega)
    have eA : allP Q.2.2 R' C' = allP (Y 113) R' C' := by
      funext j
      unfold allP
      rw [eW, eD]
    have gV : ∀ k j, k = 4 ∨ k = 5 ∨ k = 6 → Y k j = V k j := fun k j hk => by rw [Yg k j (by omega), gZ k j (by omega), z5 k j (by omega) (by omega)]
    have G113 : G 113 = Y 113 := row_eq (fun j => (yf 113 j (by omega)).symm)
    refine ⟨h0, R', C', iT_keep (fun k j hk => ffr k j (by omega)) hT', ?_, iR_keep (fun k j hk => ffr k j (by omega)) hR, ?_, ?_, ?_, ?_, iK_keep (by omega) (fun k j hk => ffr k j (by omega)) hK, iP_keep (fun k j hk => ffr k j (by omega)) hP, iC_keep (fun k j hk => ffr k j (by omega)) hC⟩
    · refine ⟨r1, r6, d1, d6, by rw [Yg 3 3 (by omega)]; exact g33, by rw [Yg 3 4 (by omega)]; exact g34, Y4, Y5, ?_, ?_, ?_, ?_⟩
      · intro r c hr hc
        rw [gV 4 _ (by omega), v6 4 (by omega) (by omega), U4, Y113 _ (by omega)]
        exact cv r c hr hc
      · rw [row_eq (fun j => gV 5 j (by omega))]
        intro r c hr hc
        rw [v4 r c hr hc]
        exact congrArg nI (blk_congr (R := R') (C := C') (YK wtN) (by omega) (by omega))
      · rw [row_eq (fun j => gV 6 j (by omega))]
        intro r c hr hc
        rw [v5 r c hr hc]
        exact congrArg nI (blk_congr (R := R') (C := C') (YK (rdN 1)) (by omega) (by omega))
      · intro j hj
        rw [gV 5 _ (by omega), gV 5 _ (by omega), gV 6 _ (by omega), gV 6 _ (by omega)]
        exact ⟨(v2 j hj).1, (v2 j hj).2, (v3 j hj).1, (v3 j hj).2⟩
    · refine ⟨1, by omega, by omega, by rw [Yg 7 3 (by omega), gZ 7 3 (by omega), z2]; rfl, by rw [y9]; rfl, by rw [Yg 7 4 (by omega), gZ 7 4 (by omega), z3, y18], fun i hi => ?_⟩
      have : i = 0 := by omega
      subst this
      rw [ym, G113, ← eA]
      refine ⟨?_, ?_⟩
      · rw [← z4]
        exact crow_keep (fun j => by rw [Yg _ j (by omega), gZ _ j (by omega)])
      · rw [eA]; exact ⟨0, 0, R', C', allP_ok r1 d1⟩
    · intro s hs
      have e5 : Y (57 + 27 * s) 5 = 0 := by
        rw [Yg _ 5 (by omega), hg]
        rcases (by omega : s = 0 ∨ s = 1) with rfl | rfl <;> simp [u2_at]
      have e125 : Y 125 s = 0 := by
        rcases (by omega : s = 0 ∨ s = 1) with rfl | rfl
        · exact y0
        · exact yy1
      rw [e5, e125]
      exact ⟨rfl, Or.inl rfl⟩
    · obtain ⟨m, m1, m2, m3, m4, m5⟩ := hO
      refine ⟨m, m1, by rw [ffr 41 5 (by omega)]; exact m2, by rw [ffr 111 26 (by omega)]; exact m3, fun i hi => ?_, Or.inl (by rw [Yg 41 6 (by omega), hg]; simp [u2_at])⟩
      obtain ⟨a, a1, a2, a3, a4, a5, a6, a7⟩ := m4 i hi
      refine ⟨a, a1, a2, a3, ?_, ?_, ?_, ?_⟩
      · rw [ffr a 0 (by omega), ffr 126 i (by omega)]; exact a4
      · rw [ffr a 1 (by omega), ffr 126 i (by omega), ffr 127 i (by omega)]; exact a5
      · rw [ffr a 2 (by omega), ffr 128 i (by omega)]; exact a6
      · rw [ffr 126 i (by omega), ffr 127 i (by omega)]; exact a7
    · refine ⟨0, by omega, ?_, by rw [y35]; rfl, fun i hi => absurd hi (by omega), Or.inl ?_⟩
      · rw [Yg 47 7 (by omega), hg]; simp [u2_at]; rfl
      · rw [Yg 47 8 (by omega), hg]; simp [u2_at]
  · obtain ⟨F, f1, f2, f3⟩ := m_readForm (u2 h 111 0 0) n1 (by rw [u0_j _ _ (by decide)]; exact n3)
    rw [u0_ne _ _ (by decide), fe] at f1
    refine ⟨-3, h, -3, F, ?_, ?_, rfl, ?_⟩
    · simp only [f_X11_form, k_firstFault h n1 n2, Option.bind_some]
      rw [if_neg c9]
    · simp only [f_X12_form, vB_def, f1, Option.bind_some, if_neg c9]
    · exact Inv_keep (Nat.le_refl _) (Nat.le_refl _) (fun a b hf => f2 a b (fun p => hf (by unfold free; omega))) H'
