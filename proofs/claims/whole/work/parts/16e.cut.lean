/-! rounds: cut -/
theorem k_divide (h : Hp) {i n R C r c hh w x : Nat} {x2 : Int32} {K : Nat → Int32} (hi : i < n) (hn : n < 24) (hm : h 7 3 = nI n) (hR : R ≤ 6) (hC : C ≤ 6) (hs5 : sums (h 5) (fun i => wtN (K i)) R C) (hs6 : sums (h 6) (fun i => rdN 1 (K i)) R C) (ok : okP K R C (crow h (10 + i)) r c hh w) (hx : okX x2 hh w x) :
    ∃ h', f_X1_divide h (nI i) x2 (nI x) = some (nI n, h') ∧ h' 7 3 = nI (n + 1) ∧ crow h' (10 + i) = ah K x2 (crow h (10 + i)) x ∧ crow h' (10 + n) = bh K x2 (crow h (10 + i)) x ∧ ∀ k j, ¬ (k = 9 ∨ k = 10 + i ∨ k = 10 + n ∨ k = 7 ∧ j = 3) → h' k j = h k j := by
  have hb : inB (nI i) 24 := inB_nI (by omega) (by omega)
  have hbn : inB (nI n) 24 := inB_nI (by omega) (by omega)
  obtain ⟨t, t1, t2, t3, t4⟩ := k_part h (a0 := 10 + i) (a4 := 9) (a5 := 10 + n) (by omega) (by omega) (by omega) (by omega) (by omega) hR hC hs5 hs6 ok hx
  obtain ⟨u, u1, u2', u3⟩ := k_become t (a0 := 10 + i) (a1 := 9) (by omega)
  have u7 : u 7 3 = nI n := by rw [u3 7 (by omega), t4 7 (by omega) (by omega)]; exact hm
  refine ⟨u2 u 7 3 (nI (n + 1)), ?_, ?_, ?_, ?_, ?_⟩
  · have h24 : nI n < (24 : Int32) := t_gt 24 rfl (by omega) (by omega)
    simp only [f_X1_divide, hm, if_pos h24, if_pos hb, if_pos hbn, vB_def, ix_nI (show i < 2147483648 by omega), ix_nI (show n < 2147483648 by omega), t1, Option.bind_some, u1, u7, nI_1]
    rw [u2_at, if_pos (show 7 = 7 ∧ 3 = 3 from ⟨rfl, rfl⟩), nI_pred]
  · rw [u2_at, if_pos ⟨rfl, rfl⟩]
  · rw [crow_ne _ _ _ (by omega), ← t2]
    exact crow_eq (fun j hj => by rw [u2' j hj, crow_at _ _ hj]) (fun j hj => if_neg hj)
  · rw [crow_ne _ _ _ (by omega), ← t3]
    exact crow_keep (fun j => by rw [u3 _ (by omega)])
  · intro k j hk
    rw [u2_at, if_neg (by omega), u3 k (by omega), t4 k (by omega) (by omega)]
theorem in_1 {x : Int32} {m : Nat} (h1 : 1 ≤ m) (hm : m ≤ 100) : f_X12_in x.toInt64 1 ((nI m - 1).toInt64) = some (if 1 ≤ x ∧ x < nI m then 1 else 0) := by
  obtain ⟨p, rfl⟩ : ∃ p, m = p + 1 := ⟨m - 1, by omega⟩
  rw [nI_pred]
  have e := in_i x 1 (nI p)
  have e2 : x ≤ nI p ↔ x < nI (p + 1) := by
    rw [Int32.le_iff_toInt_le, Int32.lt_iff_toInt_lt, nI_toInt (by omega), nI_toInt (by omega)]; omega
  rw [show f_X12_in x.toInt64 1 (nI p).toInt64 = _ from e]
  by_cases c : 1 ≤ x ∧ x < nI (p + 1)
  · rw [if_pos c, if_pos ⟨c.1, e2.mpr c.2⟩]
  · rw [if_neg c, if_neg (fun d => c ⟨d.1, e2.mp d.2⟩)]
theorem s_cut {k N : Nat} {h : Hp} {q : Qp} (H : Inv k N h q) (x y v : Int32) : ∃ a h1 b h2, f_X11_cut h x y v = some (a, h1) ∧ f_X12_cut h1 x y v = some (b, h2) ∧ a = b ∧ Inv (k + 1) N h2 q := by
  have H' := Inv_u0 (Nat.le_succ k) H
  obtain ⟨h0, R, C, hT, hF, hR, hB, hS, hO, hL, hK, hP, hC⟩ := H
  obtain ⟨n, n1, n2, n3, n4, n5, n6⟩ := hB
  have e111 : ∀ g : Hp, g 111 9 = nI n → u2 g 111 0 0 111 9 = nI n := fun g e => by rw [u0_j _ _ (by decide)]; exact e
  unfold f_X11_cut
  by_cases c : ∃ i, i < n ∧ x = nI i
  · obtain ⟨i, hi, rfl⟩ := c
    obtain ⟨ci, r, c, hh, w, ok⟩ := n6 i hi
    have cr := fun j hj => cr_at (j := j) ci hj
    have hb : inB (nI i) 24 := inB_nI (by omega) (by omega)
    have i6 : h (10 + i) 6 = h 119 i := cr 6 (by omega)
    have i2 : h (10 + i) 2 = nI hh := by rw [cr 2 (by omega)]; exact ok.2.2.1
    have i3 : h (10 + i) 3 = nI w := by rw [cr 3 (by omega)]; exact ok.2.2.2.1
    have j2 : h 117 i = nI hh := ok.2.2.1
    have j3 : h 118 i = nI w := ok.2.2.2.1
    have l2 : 1 ≤ hh := ok.2.2.2.2.1
    have l3 : 1 ≤ w := ok.2.2.2.2.2.1
    have l0 : r + hh ≤ R := ok.2.2.2.2.2.2.1
    have l1 : c + w ≤ C := ok.2.2.2.2.2.2.2.1
    have hR6 := hF.2.1
    have hC6 := hF.2.2.2.1
    obtain ⟨L, hL1, hLy⟩ : ∃ L, 1 ≤ L ∧ (if y = 0 then nI w else nI hh) = nI L ∧ (if y = 0 then w else hh) = L ∧ L ≤ 6 := by
      by_cases y0 : y = 0
      · exact ⟨w, l3, by rw [if_pos y0], by rw [if_pos y0], by omega⟩
      · exact ⟨hh, l2, by rw [if_neg y0], by rw [if_neg y0], by omega⟩
    rw [k_still_in h n2 n3 hi, Option.bind_some, i6]
    by_cases z : h 119 i = 0
    · have mod : ∀ g : Hp, g 119 i = 0 → g 111 9 = nI n → g 117 i = nI hh → g 118 i = nI w → f_X12_cut g (nI i) y v = (if 1 ≤ v ∧ v < nI L then (if n = 24 then some (-4, u2 g 111 0 0) else (f_X12_makeCut (u2 g 111 0 0) (nI i) y v).bind fun u => some (u.1, u.2)) else some (-2, u2 g 111 0 0)) := fun g g1 g2 g3 g4 => by
        simp only [f_X12_cut, vB_def]
        rw [m_still_in _ n2 (e111 g g2) hi, u0_ne _ _ (by decide), g1, if_pos rfl, Option.bind_some, if_pos rfl]
        simp only [if_pos hb, ix_nI (show i < 2147483648 by omega), u0_ne _ _ (show 118 ≠ 111 by decide), u0_ne _ _ (show 117 ≠ 111 by decide), g3, g4, ite_some, Option.bind_some, hLy.1, in_1 hL1 (show L ≤ 100 by omega)]
        by_cases cc : 1 ≤ v ∧ v < nI L
        · simp only [if_pos cc, show ¬ (1 : Int32) = 0 by decide, if_false, u0_j _ _ (show 9 ≠ 0 by decide), g2]
          by_cases c24 : n = 24
          · rw [if_pos c24, if_pos (by rw [c24]; rfl)]
          · rw [if_neg c24, if_neg (fun e => c24 ((nI_eq (by omega) (by omega)).mp (e.trans (show (24 : Int32) = nI 24 from rfl))))]
        · simp only [if_neg cc, if_true]
      simp only [if_pos z, show ¬ (1 : Int32) = 0 by decide, if_false, if_pos hb, vB_def, ix_nI (show i < 2147483648 by omega), ite_some, Option.bind_some, i2, i3, hLy.1]
      by_cases v1 : v < 1
      · simp only [if_pos v1]
        refine ⟨_, _, _, _, rfl, ?_, rfl, H'⟩
        rw [mod h z n4 j2 j3, if_neg (fun d => absurd d.1 (i_nle.mpr v1))]
      · simp only [if_neg v1]
        by_cases vL : v < nI L
        · simp only [if_pos vL]
          have v0 : ¬ v < 0 := fun d => v1 (by
            rw [Int32.lt_iff_toInt_lt] at d ⊢
            rw [show (0 : Int32).toInt = 0 from rfl] at d
            rw [show (1 : Int32).toInt = 1 from rfl]
            omega)
          obtain ⟨p, hp, rfl⟩ := nI_of v0
          have p1 : 1 ≤ p := by
            have := i_nlt.mp v1
            rw [Int32.le_iff_toInt_le, nI_toInt hp, show (1 : Int32).toInt = 1 from rfl] at this
            omega
          have pL : p < L := (nI_ltI hp (by omega)).mp vL
          have hx : okX y hh w p := ⟨p1, by rw [hLy.2.1]; exact pL⟩
          by_cases c24 : n = 24
          · have e : f_X1_divide h (nI i) y (nI p) = some (-4, h) := by
              simp only [f_X1_divide, n3]
              rw [if_neg (by rw [c24]; decide)]
            rw [e]
            refine ⟨_, _, _, _, rfl, ?_, rfl, H'⟩
            rw [mod h z n4 j2 j3, if_pos ⟨i_nlt.mp v1, vL⟩, if_pos c24]
          · obtain ⟨g, g1, g2, g3, g4, g5⟩ := k_divide h hi (show n < 24 by omega) n3 hR6 hC6 hF.2.2.2.2.2.2.2.2.2.1 hF.2.2.2.2.2.2.2.2.2.2.1 (by rw [ci]; exact ok) hx
            rw [g1]
            have gm : ∀ t, mrow (u2 g 111 0 0) t = mrow h t := fun t => by rw [mrow_u0]; exact mrow_keep t (fun k j hk => g5 k j (by omega))
            have g113 : u2 g 111 0 0 113 = h 113 := by rw [u0_ne _ _ (by decide)]; exact row_eq (fun j => g5 113 j (by omega))
            obtain ⟨f, f1, f2, f3, f4, f5, f6⟩ := m_makeCut (u2 g 111 0 0) hi (show n < 24 by omega) (by rw [u0_j _ _ (by decide), g5 111 9 (by omega)]; exact n4) hR6 hC6 (by rw [gm, g113]; exact ok) (by rw [gm]; exact z) hx
            refine ⟨_, _, nI n, f, rfl, ?_, rfl, ?_⟩
            · rw [mod g (by rw [g5 119 i (by omega)]; exact z) (by rw [g5 111 9 (by omega)]; exact n4) (by rw [g5 117 i (by omega)]; exact j2) (by rw [g5 118 i (by omega)]; exact j3), if_pos ⟨i_nlt.mp v1, vL⟩, if_neg c24, f1, Option.bind_some]
            · have ff : ∀ k j, ¬ (k = 9 ∨ k = 10 + i ∨ k = 10 + n ∨ k = 7 ∧ j = 3 ∨ 115 ≤ k ∧ k ≤ 122 ∨ k = 111 ∧ (j = 0 ∨ j = 9)) → f k j = h k j := fun k j hf => by
                rw [f6 k j (by omega) (by omega), u2_at, if_neg (by omega), g5 k j (by omega)]
              have fc : ∀ t, t < 24 → crow f (10 + t) = crow g (10 + t) := fun t ht => crow_keep (fun j => by rw [f6 _ j (by omega) (by omega), u2_at, if_neg (by omega)])
              have k113 : f 113 = h 113 := row_eq (fun j => ff 113 j (by omega))
              rw [gm, g113] at f3 f4
              rw [ci] at g3 g4
              refine ⟨h0, R, C, iT_keep (fun k j hk => ff k j (by omega)) hT, iF_keep (fun k j hk => ff k j (by omega)) hF, iR_keep (fun k j hk => ff k j (by omega)) hR, ?_, iS_keep (fun k j hk => ff k j (by omega)) hS, iO_keep (Nat.le_refl _) (fun k j hk => ff k j (by omega)) hO, iL_keep (fun k j hk => ff k j (by omega)) hL, iK_keep (by omega) (fun k j hk => ff k j (by omega)) hK, iP_keep (fun k j hk => ff k j (by omega)) hP, iC_keep (fun k j hk => ff k j (by omega)) hC⟩
              refine ⟨n + 1, by omega, by omega, by rw [f6 7 3 (by omega) (by omega), u2_at, if_neg (by omega)]; exact g2, f2, by rw [ff 7 4 (by omega), ff 111 18 (by omega)]; exact n5, fun t ht => ?_⟩
              rw [k113]
              by_cases e : t = i
              · subst e
                rw [f3, fc t (by omega), g3]
                exact ⟨rfl, _, _, _, _, ah_ok hR6 hC6 ok hx⟩
              · by_cases e2 : t = n
                · subst e2
                  rw [f4, fc t (by omega), g4]
                  exact ⟨rfl, _, _, _, _, bh_ok hR6 hC6 ok hx⟩
                · rw [f5 t e e2, gm, crow_keep (h := h) (fun j => ff (10 + t) j (by omega))]
                  exact n6 t (by omega)
        · simp only [if_neg vL]
          refine ⟨_, _, _, _, rfl, ?_, rfl, H'⟩
          rw [mod h z n4 j2 j3, if_neg (fun d => vL d.2)]
    · simp only [if_neg z, if_true]
      refine ⟨_, _, _, _, rfl, ?_, rfl, H'⟩
      simp only [f_X12_cut, vB_def]
      rw [m_still_in _ n2 (e111 h n4) hi, u0_ne _ _ (by decide), if_neg z, Option.bind_some, if_neg (by decide)]
  · rw [k_still_out h n2 n3 c, Option.bind_some, if_pos rfl]
    refine ⟨_, _, _, _, rfl, ?_, rfl, H'⟩
    simp only [f_X12_cut, vB_def]
    rw [m_still_out _ n1 n2 (e111 h n4) c, Option.bind_some, if_neg (by decide)]
