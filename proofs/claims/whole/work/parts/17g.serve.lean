/-! rounds: serve -/
theorem nI_n9' {j : Nat} (hj : j < 100000) : ¬ nI j = (-9 : Int32) := f_eq (-9) rfl (by omega) (by omega)
theorem okQ_6 {K : Nat → Int32} {R C : Nat} {p : Pr} (hR : R ≤ 6) (hC : C ≤ 6) (ok : okQ K R C p) : ix (p 2) ≤ 6 ∧ ix (p 3) ≤ 6 := by
  obtain ⟨r, c, hh, w, e0, e1, e2, e3, l2, l3, l0, l1, _⟩ := ok
  rw [e2, e3, ix_nI (by omega), ix_nI (by omega)]
  omega
theorem k_cutOff (g : Hp) {i n R C r c hh w x d t : Nat} {K : Nat → Int32} (hi : i < n) (hn : n < 24) (hm : g 7 3 = nI n) (hR : R ≤ 6) (hC : C ≤ 6) (hs5 : sums (g 5) (fun i => wtN (K i)) R C) (hs6 : sums (g 6) (fun i => rdN 1 (K i)) R C) (ok : okP K R C (crow g (10 + i)) r c hh w) (h6 : crow g (10 + i) 6 = 0) (hd : d = 0 ∨ d = 1) (ht : t = 0 ∨ t = 1) (hx : okX (dA d) hh w x) :
    ∃ h', f_X9_cutOff g (nI (1000 * i + 100 * d + 10 * x + t)) = some (nI (if t = 1 then n else i), h') ∧ h' 7 3 = nI (n + 1) ∧ crow h' (10 + i) = ah K (dA d) (crow g (10 + i)) x ∧ crow h' (10 + n) = bh K (dA d) (crow g (10 + i)) x ∧ ∀ k j, ¬ (k = 9 ∨ k = 10 + i ∨ k = 10 + n ∨ k = 7 ∧ j = 3) → h' k j = g k j := by
  have l0 : r + hh ≤ R := ok.2.2.2.2.2.2.1
  have l1 : c + w ≤ C := ok.2.2.2.2.2.2.2.1
  have x9 : x ≤ 9 := okX_le (by omega) (by omega) hx
  obtain ⟨f, f1, f2, f3, f4, f5⟩ := k_divide g hi hn hm hR hC hs5 hs6 ok hx
  obtain ⟨d1, d2, d3, d4⟩ := told_div (i := i) (d := d) (x := x) (t := t) (by omega) (by omega) x9 (by omega)
  have s6 : g (10 + i) 6 = 0 := by rw [← crow_at g _ (show 6 < 13 by omega)]; exact h6
  refine ⟨f, ?_, f2, f3, f4, f5⟩
  simp only [f_X9_cutOff, vB_def, d1, d2, d3, d4, k_still_in g (show n ≤ 24 by omega) hm hi, if_pos s6, Option.bind_some, d_ite hd, f1, show ¬ (1 : Int32) = 0 by decide, if_false]
  rw [if_neg (nI_pos (by omega))]
  rcases ht with rfl | rfl
  · rw [if_neg (show ¬ nI 0 = (1 : Int32) by decide), if_neg (by decide)]
  · rw [if_pos (show nI 1 = (1 : Int32) from rfl), if_pos rfl]
theorem s_serve {k N : Nat} {h : Hp} {q : Qp} (H : Inv k N h q) (a o v : Int32) : ∃ u b h2, f_X11_serve q N h a o v = some u ∧ 137 ≤ u.2.1 ∧ f_X12_serve u.2.2.1 a o v = some (b, h2) ∧ u.1 = b ∧ Inv (k + 1) u.2.1 h2 u.2.2.2 := by
  have hN : 137 ≤ N := H.1
  have H' := Inv_u0 (Nat.le_succ k) H
  have Hg := Inv_asked H a o v
  simp only [f_X11_serve, f_X12_serve, vB_def, k_isAsk, m_noAsk, Option.bind_some, asked_def]
  by_cases ca : askOk a o v
  · have A := asked_0 h N a o v
    generalize asked h N a o v = g at *
    have Hg' := Hg
    obtain ⟨h0, R, C, hT, hF, hR, hB, hS, hO, hL, hK, hP, hC⟩ := Hg'
    obtain ⟨n, n1, n2, n3, n4, n5, n6⟩ := hB
    have cm : ∀ i, i < n → crow g (10 + i) = mrow g i := fun i hi => (n6 i hi).1
    have okc : ∀ i, i < n → okQ (g 113) R C (crow g (10 + i)) := fun i hi => by rw [cm i hi]; exact (n6 i hi).2
    have kl := k_lightest g N n2 n3
    obtain ⟨g', ks, kf⟩ := k_shortest g (A := N) hN n2 n3 hF.2.1 hF.2.2.2.1 hF.2.2.2.2.2.2.2.2.2.1 hF.2.2.2.2.2.2.2.2.2.2.1 okc
    rw [A.1, A.2.1, A.2.2] at kl ks
    rw [lgt_congr n2 cm] at kl
    rw [fcut_congr cm] at ks
    have stF : ∀ G : Hp, (∀ k j, ¬ (k < 111 ∨ k = 111 ∧ j = 0) → G k j = g k j) → f_X12_standsFor G a o v = some (lgt (mrow g) a (a + o) v n) := fun G hG => by
      have gm : ∀ i, mrow G i = mrow g i := fun i => mrow_keep i (fun b j hb => hG b j (by omega))
      have ml := m_standsFor G (n := n) (R := R) (C := C) a o v n2 hF.2.1 hF.2.2.2.1 (by rw [hG 111 9 (by omega)]; exact n4) (fun i hi => by rw [gm, row_eq (fun j => hG 113 j (by omega))]; exact (n6 i hi).2)
      rw [show mrow G = mrow g from funext gm] at ml
      exact ml
    simp only [if_pos ca, show ¬ (1 : Int32) = 0 by decide, if_false, if_true, kl, ks, Option.bind_some]
    rcases lgt_spec (mrow g) a (a + o) v n with c9 | ⟨t, ht, et, es⟩
    · simp only [if_pos c9]
      have fg : ∀ k j, ¬ (k = 36 ∨ k = 37 ∨ k = 111 ∧ j = 0) → u2 g' 111 0 0 k j = g k j := fun k j hk => by rw [u2_at, if_neg (by omega), kf k (by omega) (by omega)]
      have gm : ∀ i, mrow (u2 g' 111 0 0) i = mrow g i := fun i => mrow_keep i (fun b j hb => fg b j (by omega))
      have g113 : u2 g' 111 0 0 113 = g 113 := row_eq (fun j => fg 113 j (by omega))
      have HG := Inv_u0 (Nat.le_succ k) (Inv_36 kf Hg)
      have okQ' := (fcut_ok (g 113) a (a + o) v (mrow g) n).1
      have ok24 := (fcut_ok (g 113) a (a + o) v (mrow g) n).2
      rcases okQ' with f9 | ⟨i, d, x, t, hi, ei, hd, ht, e6, hx⟩
      · obtain ⟨F, f1, f2, f3⟩ := m_findCut (u2 g' 111 0 0) (n := n) (R := R) (C := C) a o v n2 hF.2.1 hF.2.2.2.1 (by rw [fg 111 9 (by omega)]; exact n4) (fun i hi => by rw [gm, g113]; exact (n6 i hi).2)
        rw [show mrow (u2 g' 111 0 0) = mrow g from funext gm, g113] at f2
        have f24 : F 111 24 = -9 := (congrArg Prod.fst f2).trans f9
        have co : f_X9_cutOff g' (-9) = some (-9, g') := by
          simp only [f_X9_cutOff, vB_def]
          rw [if_pos (by decide)]
        have g7 : g' 7 3 = nI n := by rw [kf 7 (by decide) (by decide)]; exact n3
        have sh : f_X1_stillHas g' (-9) = some 0 := k_still_out g' n2 g7 (fun ⟨i, hi, e⟩ => nI_n9 (show i < 1000 by omega) e.symm)
        simp only [f9, co, sh, Option.bind_some, if_true]
        refine ⟨_, _, F, rfl, (by show 137 ≤ N + 1; omega), ?_, rfl, same4_Inv f3 HG⟩
        simp only [stF _ (fun k j hk => fg k j (by omega)), Option.bind_some, if_pos c9, f1, f24, if_true]
      · have n24 : n < 24 := by
          rcases Nat.lt_or_ge n 24 with c | c
          · exact c
          · have := ok24 (by omega)
            rw [ei] at this
            have b6 := okQ_6 hF.2.1 hF.2.2.2.1 (n6 i hi).2
            have x9 := okX_le b6.1 b6.2 hx
            exact absurd this (nI_n9' (by omega))
        obtain ⟨r, c, hh, w, ok⟩ := (n6 i hi).2
        have l0 : r + hh ≤ R := ok.2.2.2.2.2.2.1
        have l1 : c + w ≤ C := ok.2.2.2.2.2.2.2.1
        have hR6 := hF.2.1
        have hC6 := hF.2.2.2.1
        rw [show mrow g i 2 = nI hh from ok.2.2.1, show mrow g i 3 = nI w from ok.2.2.2.1, ix_nI (by omega), ix_nI (by omega)] at hx
        have x9 : x ≤ 9 := okX_le (by omega) (by omega) hx
        have M9 : ¬ nI (1000 * i + 100 * d + 10 * x + t) = (-9 : Int32) := nI_n9' (by omega)
        have cg : ∀ i, i < 24 → crow g' (10 + i) = crow g (10 + i) := fun i hi => crow_keep (fun j => by rw [kf _ (by omega) (by omega)])
        have ci := (n6 i hi).1
        obtain ⟨D, D1, D2, D3, D4, D5⟩ := k_cutOff g' (i := i) (n := n) (K := g 113) hi n24 (by rw [kf 7 (by decide) (by decide)]; exact n3) hR6 hC6 (by rw [kf 5 (by decide) (by decide)]; exact hF.2.2.2.2.2.2.2.2.2.1) (by rw [kf 6 (by decide) (by decide)]; exact hF.2.2.2.2.2.2.2.2.2.2.1) (by rw [cg i (by omega), ci]; exact ok) (by rw [cg i (by omega), ci]; exact e6) hd ht hx
        rw [cg i (by omega), ci] at D3 D4
        obtain ⟨S, hS1⟩ : ∃ S, S = (if t = 1 then n else i) := ⟨_, rfl⟩
        have S1 : S < n + 1 ∧ S < 24 ∧ (S = i ∨ S = n) := by rw [hS1]; split <;> omega
        rw [← hS1] at D1
        have DS : D (10 + S) 6 = 0 := by
          rw [← crow_at D _ (show 6 < 13 by omega)]
          rcases S1.2.2 with e | e
          · rw [e, D3]; exact e6
          · rw [e, D4]; exact e6
        have hb : inB (nI S) 24 := inB_nI S1.2.1 (by omega)
        simp only [ei, D1, k_still_in D (show n + 1 ≤ 24 by omega) D2 S1.1, if_pos DS, Option.bind_some, show ¬ (1 : Int32) = 0 by decide, if_false, if_pos hb, ix_nI (show S < 2147483648 by omega)]
        have fg2 : ∀ k j, ¬ (k = 36 ∨ k = 37 ∨ k = 9 ∨ k = 10 + i ∨ k = 10 + n ∨ k = 7 ∧ j = 3 ∨ k = 111 ∧ j = 0) → u2 (u2 D (10 + S) 6 1) 111 0 0 k j = g k j := fun k j hk => by
          rw [u2_at, if_neg (by omega), u2_at, if_neg (by omega), D5 k j (by omega), kf k (by omega) (by omega)]
        have gm2 : ∀ i, mrow (u2 (u2 D (10 + S) 6 1) 111 0 0) i = mrow g i := fun i => mrow_keep i (fun b j hb => fg2 b j (by omega))
        have g113' : u2 (u2 D (10 + S) 6 1) 111 0 0 113 = g 113 := row_eq (fun j => fg2 113 j (by omega))
        obtain ⟨F, f1, f2, f3⟩ := m_findCut (u2 (u2 D (10 + S) 6 1) 111 0 0) (n := n) (R := R) (C := C) a o v n2 hR6 hC6 (by rw [fg2 111 9 (by omega)]; exact n4) (fun i hi => by rw [gm2, g113']; exact (n6 i hi).2)
        rw [show mrow (u2 (u2 D (10 + S) 6 1) 111 0 0) = mrow g from funext gm2, g113'] at f2
        have f24 : F 111 24 = nI (1000 * i + 100 * d + 10 * x + t) := (congrArg Prod.fst f2).trans ei
        have Fm : ∀ i, mrow F i = mrow g i := fun i => by rw [same4_m f3, gm2]
        have F113 : F 113 = g 113 := by rw [same4_r f3 (by decide), g113']
        obtain ⟨Z, z1, z2, z3, z4, z5, z6⟩ := m_make F (i := i) (n := n) hi n24 (by rw [f3 111 9 (by omega), fg2 111 9 (by omega)]; exact n4) hR6 hC6 (by rw [Fm, F113]; exact ok) (by rw [Fm]; exact e6) hd ht hx
        rw [Fm, F113] at z3 z4
        rw [← hS1] at z1
        refine ⟨_, nI S, Z, rfl, (by show 137 ≤ N + 1; omega), ?_, rfl, ?_⟩
        · simp only [stF _ (fun k j hk => fg2 k j (by omega)), Option.bind_some, if_pos c9, f1, f24, if_neg M9, z1]
        · have zD : ∀ k j, k < 111 → Z k j = u2 D (10 + S) 6 1 k j := fun k j hk => by rw [z6 k j (by omega) (by omega), f3 k j (by omega), u2_at, if_neg (by omega)]
          have ff : ∀ k j, ¬ (k = 36 ∨ k = 37 ∨ k = 9 ∨ k = 10 + i ∨ k = 10 + n ∨ k = 7 ∧ j = 3 ∨ 115 ≤ k ∧ k ≤ 122 ∨ k = 111 ∧ (j = 0 ∨ j = 9 ∨ j = 22 ∨ j = 23 ∨ j = 24 ∨ j = 25)) → Z k j = g k j := fun k j hk => by
            rw [z6 k j (by omega) (by omega), f3 k j (by omega), fg2 k j (by omega)]
          refine ⟨h0, R, C, iT_keep (fun k j hk => ff k j (by omega)) hT, iF_keep (fun k j hk => ff k j (by omega)) hF, iR_keep (fun k j hk => ff k j (by omega)) hR, ?_, iS_keep (fun k j hk => ff k j (by omega)) hS, iO_keep (Nat.le_refl _) (fun k j hk => ff k j (by omega)) hO, iL_keep (fun k j hk => ff k j (by omega)) hL, iK_keep (by omega) (fun k j hk => ff k j (by omega)) hK, iP_keep (fun k j hk => ff k j (by omega)) hP, iC_keep (fun k j hk => ff k j (by omega)) hC⟩
          refine ⟨n + 1, by omega, by omega, by rw [zD 7 3 (by omega), u2_at, if_neg (by omega)]; exact D2, z2, by rw [ff 7 4 (by omega), ff 111 18 (by omega)]; exact n5, fun y hy => ?_⟩
          rw [row_eq (fun j => ff 113 j (by omega)), crow_keep (h := u2 D (10 + S) 6 1) (fun j => zD (10 + y) j (by omega))]
          have oa := ah_ok hR6 hC6 ok hx
          have ob := bh_ok hR6 hC6 ok hx
          by_cases e : y = i
          · subst e
            rw [z3]
            rcases ht with rfl | rfl
            · rw [if_neg (by decide)] at hS1 ⊢
              subst hS1
              rw [crow_set _ _ _ (by omega), D3]
              exact ⟨rfl, _, _, _, _, okP_set 1 (by omega) oa⟩
            · rw [if_pos rfl] at hS1 ⊢
              subst hS1
              rw [crow_ne _ _ _ (by omega), D3]
              exact ⟨rfl, _, _, _, _, oa⟩
          · by_cases e2 : y = n
            · subst e2
              rw [z4]
              rcases ht with rfl | rfl
              · rw [if_neg (by decide)] at hS1 ⊢
                subst hS1
                rw [crow_ne _ _ _ (by omega), D4]
                exact ⟨rfl, _, _, _, _, ob⟩
              · rw [if_pos rfl] at hS1 ⊢
                subst hS1
                rw [crow_set _ _ _ (by omega), D4]
                exact ⟨rfl, _, _, _, _, okP_set 1 (by omega) ob⟩
            · rw [z5 y e e2, Fm, crow_ne _ _ _ (by omega), crow_keep (h := g) (fun j => by rw [D5 _ j (by omega), kf _ (by omega) (by omega)])]
              exact n6 y (by omega)
    · have t9 : ¬ nI t = (-9 : Int32) := nI_n9 (by omega)
      simp only [et, if_neg t9, Option.bind_some]
      have ct6 : g (10 + t) 6 = 0 := by rw [cr_at (n6 t ht).1 (by omega)]; exact es.1
      have hb : inB (nI t) 24 := inB_nI (by omega) (by omega)
      simp only [k_still_in g n2 n3 ht, if_pos ct6, Option.bind_some, show ¬ (1 : Int32) = 0 by decide, if_false, if_pos hb, ix_nI (show t < 2147483648 by omega)]
      refine ⟨_, _, u2 (u2 (u2 g (10 + t) 6 1) 111 0 0) 119 t 1, rfl, (by show 137 ≤ N + 1; omega), ?_, rfl, ?_⟩
      · simp only [stF (u2 (u2 g (10 + t) 6 1) 111 0 0) (fun k j hk => by rw [u2_at, if_neg (by omega), u2_at, if_neg (by omega)]), Option.bind_some, et, if_neg t9, if_pos hb, ix_nI (show t < 2147483648 by omega)]
      · have ff : ∀ k j, ¬ (k = 10 + t ∧ j = 6 ∨ k = 111 ∧ j = 0 ∨ k = 119 ∧ j = t) → u2 (u2 (u2 g (10 + t) 6 1) 111 0 0) 119 t 1 k j = g k j := fun k j hk => by rw [u2_at, if_neg (by omega), u2_at, if_neg (by omega), u2_at, if_neg (by omega)]
        refine ⟨h0, R, C, iT_keep (fun k j hk => ff k j (by omega)) hT, iF_keep (fun k j hk => ff k j (by omega)) hF, iR_keep (fun k j hk => ff k j (by omega)) hR, ?_, iS_keep (fun k j hk => ff k j (by omega)) hS, iO_keep (Nat.le_refl _) (fun k j hk => ff k j (by omega)) hO, iL_keep (fun k j hk => ff k j (by omega)) hL, iK_keep (by omega) (fun k j hk => ff k j (by omega)) hK, iP_keep (fun k j hk => ff k j (by omega)) hP, iC_keep (fun k j hk => ff k j (by omega)) hC⟩
        refine ⟨n, n1, n2, by rw [ff 7 3 (by omega)]; exact n3, by rw [ff 111 9 (by omega)]; exact n4, by rw [ff 7 4 (by omega), ff 111 18 (by omega)]; exact n5, fun i hi => ?_⟩
        rw [row_eq (fun j => ff 113 j (by omega))]
        by_cases e : i = t
        · subst e
          obtain ⟨ci, r, c, hh, w, ok⟩ := n6 i hi
          rw [mrow_set6, mrow_ne _ _ _ _ (by omega) (by omega), mrow_ne _ _ _ _ (by omega) (by omega), crow_ne _ _ _ (by omega), crow_ne _ _ _ (by omega), crow_set _ _ _ (by omega), ci]
          exact ⟨rfl, r, c, hh, w, okP_set 1 (by omega) ok⟩
        · rw [mrow_oth _ _ e (by omega), mrow_ne _ _ _ _ (by omega) (by omega), mrow_ne _ _ _ _ (by omega) (by omega), crow_ne _ _ _ (by omega), crow_ne _ _ _ (by omega), crow_ne _ _ _ (by omega)]
          exact n6 i hi
  · simp only [if_neg ca, if_true]
    exact ⟨_, _, _, rfl, hN, (by simp only [show ¬ (1 : Int32) = 0 by decide, if_false]), rfl, H'⟩
