/-! makeCut -/
def mcF (i n x : Nat) (m : Int32) (j : Nat) (a : Hp) : Hp := u2 (u2 a 122 (4 * n + j) (dr4 a i j - shr (dr4 a i j) (nI x) m)) 122 (4 * i + j) (shr (dr4 a i j) (nI x) m)
theorem mcF_ne (i n x : Nat) (m : Int32) (j : Nat) (a : Hp) {k : Nat} (hk : k ≠ 122) : mcF i n x m j a k = a k := by
  unfold mcF
  rw [u2_ne _ _ _ hk, u2_ne _ _ _ hk]
theorem m_mcLoop (T : Hp) {i n x hh w f : Nat} {x2 : Int32} (hi : i < n) (hn : n < 24) (hf : f + 1 < 4) (e2 : T 117 i = nI hh) (e3 : T 118 i = nI w) (l2 : 1 ≤ hh) (l3 : 1 ≤ w) (b2 : hh ≤ 6) (b3 : w ≤ 6) :
    L_X12_makeCut_169 (nI i) x2 (nI x) (nI n) (nI f) FU (nI f) T = some (mcF i n x (if x2 = 0 then nI w else nI hh) (f + 1) (mcF i n x (if x2 = 0 then nI w else nI hh) f T)) := by
  have key := lpU (fun N j a => L_X12_makeCut_169 (nI i) x2 (nI x) (nI n) (nI f) N (nI j) a) (mcF i n x (if x2 = 0 then nI w else nI hh)) (f + 2) id (fun _ a => a 117 i = nI hh ∧ a 118 i = nI w)
    (fun N a _ => by
      simp only [L_X12_makeCut_169]
      rw [show nI f + (2 : Int32) = nI (f + 2) from nI_add f 2, if_pos (nI_le (Nat.le_refl _) (by omega))]; rfl)
    (fun N j a hj hP => ⟨by
      simp only [L_X12_makeCut_169, vB_def]
      rw [show nI f + (2 : Int32) = nI (f + 2) from nI_add f 2, if_neg (nI_ge hj (by omega)), m_driedAhead a (show i < 24 by omega) (by omega) hP.1 hP.2 l2 l3 b2 b3, Option.bind_some, nI_1, ix4, ix4, if_pos (inB_nI (show 4 * i + j < 96 by omega) (by omega)), if_pos (inB_nI (show 4 * n + j < 96 by omega) (by omega)), if_pos (inB_nI (show 4 * i + j < 96 by omega) (by omega)), ix_nI (by omega), ix_nI (by omega)]
      rfl, by
        constructor
        · rw [mcF_ne _ _ _ _ _ _ (by decide)]; exact hP.1
        · rw [mcF_ne _ _ _ _ _ _ (by decide)]; exact hP.2⟩)
    2 FU f T rfl (FU_gt (by omega)) ⟨e2, e3⟩
  exact key.1
theorem mrow_eq {h' : Hp} {K : Nat → Int32} {R C r c hh w i : Nat} {p : Pr} (hR : R ≤ 6) (hC : C ≤ 6) (hK : h' 113 = K) (ok : okP K R C p r c hh w) (far : ∀ j, ¬ j < 13 → p j = 0) (g0 : h' 115 i = p 0) (g1 : h' 116 i = p 1) (g2 : h' 117 i = p 2) (g3 : h' 118 i = p 3) (g6 : h' 119 i = p 6) (g7 : h' 120 i = p 7) (g8 : h' 121 i = p 8)
    (g9 : h' 122 (4 * i) = p 9) (g10 : h' 122 (4 * i + 1) = p 10) (g11 : h' 122 (4 * i + 2) = p 11) (g12 : h' 122 (4 * i + 3) = p 12) : mrow h' i = p := by
  obtain ⟨e0, e1, e2, e3, l2, l3, l0, l1, e4, e5, e7⟩ := ok
  funext j
  by_cases hj : j < 13
  · rcases j13 hj with rfl | rfl | rfl | rfl | rfl | rfl | rfl | rfl | rfl | rfl | rfl | rfl | rfl
    · exact g0
    · exact g1
    · exact g2
    · exact g3
    · show nI (wtB (h' 113) (ix (h' 115 i)) (ix (h' 116 i)) (ix (h' 117 i)) (ix (h' 118 i))) = _
      rw [g0, g1, g2, g3, e0, e1, e2, e3, e4, hK, ix_nI (by omega), ix_nI (by omega), ix_nI (by omega), ix_nI (by omega)]
    · show nI (rdB (h' 113) 1 (ix (h' 115 i)) (ix (h' 116 i)) (ix (h' 117 i)) (ix (h' 118 i))) = _
      rw [g0, g1, g2, g3, e0, e1, e2, e3, e5, hK, ix_nI (by omega), ix_nI (by omega), ix_nI (by omega), ix_nI (by omega)]
    · exact g6
    · exact g7
    · exact g8
    · exact g9
    · exact g10
    · exact g11
    · exact g12
  · rw [far j hj]
    obtain ⟨t, rfl⟩ : ∃ t, j = t + 13 := ⟨j - 13, by omega⟩
    rfl
theorem mrow_congr {h' h : Hp} {i : Nat} (hK : h' 113 = h 113) (g : ∀ k, 115 ≤ k → k ≤ 121 → h' k i = h k i) (g2 : ∀ s, s < 4 → h' 122 (4 * i + s) = h 122 (4 * i + s)) : mrow h' i = mrow h i := by
  have a5 := g 115 (by omega) (by omega)
  have a6 := g 116 (by omega) (by omega)
  have a7 := g 117 (by omega) (by omega)
  have a8 := g 118 (by omega) (by omega)
  have a9 := g 119 (by omega) (by omega)
  have b0 := g 120 (by omega) (by omega)
  have b1 := g 121 (by omega) (by omega)
  have c0 := g2 0 (by omega)
  have c1 := g2 1 (by omega)
  have c2 := g2 2 (by omega)
  have c3 := g2 3 (by omega)
  rw [Nat.add_zero] at c0
  unfold mrow
  simp only [hK, a5, a6, a7, a8, a9, b0, b1, c0, c1, c2, c3]
theorem m_makeCut (h : Hp) {i n R C r c hh w x : Nat} {x2 : Int32} (hi : i < n) (hn : n < 24) (hm : h 111 9 = nI n) (hR : R ≤ 6) (hC : C ≤ 6) (ok : okP (h 113) R C (mrow h i) r c hh w) (h6 : mrow h i 6 = 0) (hx : okX x2 hh w x) :
    ∃ h', f_X12_makeCut h (nI i) x2 (nI x) = some (nI n, h') ∧ h' 111 9 = nI (n + 1) ∧ mrow h' i = ah (h 113) x2 (mrow h i) x ∧ mrow h' n = bh (h 113) x2 (mrow h i) x ∧ (∀ k, k ≠ i → k ≠ n → mrow h' k = mrow h k) ∧ ∀ k j, ¬ (115 ≤ k ∧ k ≤ 122) → ¬ (k = 111 ∧ j = 9) → h' k j = h k j := by
  have hb : inB (nI i) 24 := inB_nI (show i < 24 by omega) (by omega)
  have hbn : inB (nI n) 24 := inB_nI hn (by omega)
  have oA := m_offAhead h (show i < 24 by omega) hR hC ok hx
  have oa := ah_ok hR hC ok hx
  have ob := bh_ok hR hC ok hx
  obtain ⟨e0, e1, e2, e3, l2, l3, l0, l1, e4, e5, e7⟩ := ok
  obtain ⟨x1, xl⟩ := hx
  have j0 : h 115 i = nI r := e0
  have j1 : h 116 i = nI c := e1
  have j2 : h 117 i = nI hh := e2
  have j3 : h 118 i = nI w := e3
  have bs : ∀ s, s < 4 → inB (nI (4 * i + s)) 96 := fun s hs => inB_nI (by omega) (by omega)
  have bn : ∀ s, s < 4 → inB (nI (4 * n + s)) 96 := fun s hs => inB_nI (by omega) (by omega)
  have I0 : ∀ s : Nat, s < 4 → ix (nI (4 * i + s)) = 4 * i + s := fun s hs => ix_nI (by omega)
  have N0 : ∀ s : Nat, s < 4 → ix (nI (4 * n + s)) = 4 * n + s := fun s hs => ix_nI (by omega)
  have hin : ¬ i = n := by omega
  have hni : ¬ n = i := by omega
  have j6 : h 119 i = 0 := h6
  have D : ∀ s t, s < 4 → t < 4 → ¬ (4 * i + s = 4 * n + t) ∧ ¬ (4 * n + t = 4 * i + s) := fun s t hs ht => by omega
  have D0 : ∀ t, t < 4 → ¬ (4 * i = 4 * n + t) ∧ ¬ (4 * n + t = 4 * i) := fun t ht => by omega
  have D2 : ¬ 4 * i = 4 * n ∧ ¬ 4 * n = 4 * i := by omega
  have D1 : ∀ t, t < 4 → ¬ (4 * n = 4 * i + t) ∧ ¬ (4 * i + t = 4 * n) := fun t ht => by omega
  have F1 : ∀ k s, k ≠ i → s < 4 → ∀ t, t < 4 → ¬ 4 * k + s = 4 * i + t := fun k s hk hs t ht => by omega
  have F2 : ∀ k s, k ≠ n → s < 4 → ∀ t, t < 4 → ¬ 4 * k + s = 4 * n + t := fun k s hk hs t ht => by omega
  have F3 : ∀ k s, k ≠ i → s < 4 → ¬ 4 * k + s = 4 * i := fun k s hk hs => by omega
  have F4 : ∀ k s, k ≠ n → s < 4 → ¬ 4 * k + s = 4 * n := fun k s hk hs => by omega
  have E1 : ∀ k, k ≠ i → ¬ k = i := fun k hk => hk
  have E2 : ∀ k, k ≠ n → ¬ k = n := fun k hk => hk
  by_cases q : x2 = 0
  · simp only [if_pos q] at xl oa ob
    simp only [f_X12_makeCut, vB_def, hm, oA, Option.bind_some, if_pos q, if_pos hb, if_pos hbn, ix_nI (show i < 2147483648 by omega), ix_nI (show n < 2147483648 by omega)]
    have key := fun T e2 e3 => m_mcLoop T (i := i) (n := n) (x := x) (hh := hh) (w := w) (f := 0) (x2 := x2) hi hn (by omega) e2 e3 l2 l3 (by omega) (by omega)
    rw [show ∀ T, L_X12_makeCut_169 (nI i) x2 (nI x) (nI n) 0 FU 0 T = L_X12_makeCut_169 (nI i) x2 (nI x) (nI n) (nI 0) FU (nI 0) T from fun T => rfl, key _ (by simp [u2_at, hin, j2]) (by simp [u2_at, hin, j3])]
    simp only [if_pos q, Option.bind_some]
    rw [show (4 : Int32) * nI n + 2 = nI (4 * n + 2) from ix4 n 2, show (4 : Int32) * nI i + 2 = nI (4 * i + 2) from ix4 i 2, nI_1, nI_1, if_pos (bn 2 (by omega)), if_pos (bs 3 (by omega)), if_pos (bn 3 (by omega)), if_pos (bs 3 (by omega)), I0 3 (by omega), N0 2 (by omega), N0 3 (by omega)]
    refine ⟨_, rfl, ?_, ?_, ?_, ?_, ?_⟩
    · simp [mcF, u2_at, dr4, hin, hni, D, D0, D1, D2, hm, nI_1]
    · refine mrow_eq hR hC ?_ oa (fun j hj => ah_far _ _ _ _ hj) ?_ ?_ ?_ ?_ ?_ ?_ ?_ ?_ ?_ ?_ ?_
      · funext j; simp [mcF, u2_at, dr4, hin, hni, D, D0, D1, D2, hm]
      all_goals simp [mcF, u2_at, dr4, hin, hni, D, D0, D1, D2, hm, ah, mrow, q, j0, j1, j2, j3]
    · refine mrow_eq hR hC ?_ ob (fun j hj => bh_far _ _ _ _ hj) ?_ ?_ ?_ ?_ ?_ ?_ ?_ ?_ ?_ ?_ ?_
      · funext j; simp [mcF, u2_at, dr4, hin, hni, D, D0, D1, D2, hm]
      all_goals simp [mcF, u2_at, dr4, hin, hni, D, D0, D1, D2, hm, ah, bh, mrow, q, j0, j1, j2, j3, j6]
    · intro k hk hk2
      refine mrow_congr ?_ ?_ ?_
      · funext j; simp [mcF, u2_at, dr4, hin, hni, D, D0, D1, D2, hm]
      · intro a ha1 ha2
        have : ¬ a = 122 := by omega
        have : ¬ a = 111 := by omega
        simp [mcF, u2_at, dr4, hin, hni, D, D0, D1, D2, hm, hk, hk2, *]
      · intro s hs
        simp [mcF, u2_at, dr4, hin, hni, D, D0, D1, D2, hm, E1 k hk, E2 k hk2, F1 k s hk hs, F2 k s hk2 hs, F3 k s hk hs, F4 k s hk2 hs]
    · intro k j hk hkj
      have a5 : ¬ k = 115 := by omega
      have a6 : ¬ k = 116 := by omega
      have a7 : ¬ k = 117 := by omega
      have a8 : ¬ k = 118 := by omega
      have a9 : ¬ k = 119 := by omega
      have b0 : ¬ k = 120 := by omega
      have b1 : ¬ k = 121 := by omega
      have b2 : ¬ k = 122 := by omega
      simp [mcF, u2_at, a5, a6, a7, a8, a9, b0, b1, b2]
      intro hk1 hj1
      exact absurd ⟨hk1, hj1⟩ hkj
  · simp only [if_neg q] at xl oa ob
    simp only [f_X12_makeCut, vB_def, hm, oA, Option.bind_some, if_neg q, if_pos hb, if_pos hbn, ix_nI (show i < 2147483648 by omega), ix_nI (show n < 2147483648 by omega)]
    have key := fun T e2 e3 => m_mcLoop T (i := i) (n := n) (x := x) (hh := hh) (w := w) (f := 2) (x2 := x2) hi hn (by omega) e2 e3 l2 l3 (by omega) (by omega)
    rw [show ∀ T, L_X12_makeCut_169 (nI i) x2 (nI x) (nI n) 2 FU 2 T = L_X12_makeCut_169 (nI i) x2 (nI x) (nI n) (nI 2) FU (nI 2) T from fun T => rfl, key _ (by simp [u2_at, hin, j2]) (by simp [u2_at, hin, j3])]
    simp only [if_neg q, Option.bind_some]
    rw [show (4 : Int32) * nI n + 0 = nI (4 * n + 0) from ix4 n 0, show (4 : Int32) * nI i + 0 = nI (4 * i + 0) from ix4 i 0, nI_1, nI_1, if_pos (bn 0 (by omega)), if_pos (bs 1 (by omega)), if_pos (bn 1 (by omega)), if_pos (bs 1 (by omega)), I0 1 (by omega), N0 0 (by omega), N0 1 (by omega)]
    refine ⟨_, rfl, ?_, ?_, ?_, ?_, ?_⟩
    · simp [mcF, u2_at, dr4, hin, hni, D, D0, D1, D2, hm, nI_1]
    · refine mrow_eq hR hC ?_ oa (fun j hj => ah_far _ _ _ _ hj) ?_ ?_ ?_ ?_ ?_ ?_ ?_ ?_ ?_ ?_ ?_
      · funext j; simp [mcF, u2_at, dr4, hin, hni, D, D0, D1, D2, hm]
      all_goals simp [mcF, u2_at, dr4, hin, hni, D, D0, D1, D2, hm, ah, mrow, q, j0, j1, j2, j3]
    · refine mrow_eq hR hC ?_ ob (fun j hj => bh_far _ _ _ _ hj) ?_ ?_ ?_ ?_ ?_ ?_ ?_ ?_ ?_ ?_ ?_
      · funext j; simp [mcF, u2_at, dr4, hin, hni, D, D0, D1, D2, hm]
      all_goals simp [mcF, u2_at, dr4, hin, hni, D, D0, D1, D2, hm, ah, bh, mrow, q, j0, j1, j2, j3, j6]
    · intro k hk hk2
      refine mrow_congr ?_ ?_ ?_
      · funext j; simp [mcF, u2_at, dr4, hin, hni, D, D0, D1, D2, hm]
      · intro a ha1 ha2
        have : ¬ a = 122 := by omega
        have : ¬ a = 111 := by omega
        simp [mcF, u2_at, dr4, hin, hni, D, D0, D1, D2, hm, hk, hk2, *]
      · intro s hs
        simp [mcF, u2_at, dr4, hin, hni, D, D0, D1, D2, hm, E1 k hk, E2 k hk2, F1 k s hk hs, F2 k s hk2 hs, F3 k s hk hs, F4 k s hk2 hs]
    · intro k j hk hkj
      have a5 : ¬ k = 115 := by omega
      have a6 : ¬ k = 116 := by omega
      have a7 : ¬ k = 117 := by omega
      have a8 : ¬ k = 118 := by omega
      have a9 : ¬ k = 119 := by omega
      have b0 : ¬ k = 120 := by omega
      have b1 : ¬ k = 121 := by omega
      have b2 : ¬ k = 122 := by omega
      simp [mcF, u2_at, a5, a6, a7, a8, a9, b0, b1, b2]
      intro hk1 hj1
      exact absurd ⟨hk1, hj1⟩ hkj
