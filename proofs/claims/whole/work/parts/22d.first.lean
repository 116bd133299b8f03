/-! rounds: whole, first -/
theorem m_lw74 (T : Hp) {K : Nat → Int32} {R C r c hh w m : Nat} (hR : R ≤ 6) (hC : C ≤ 6) (hm : m ≤ 4) (b : blkIn R C r c hh w) (e26 : T 111 26 = nI m) (w1 : T 129 (bk r c hh w) = nI (wtB K r c hh w)) (w2 : T 130 (bk r c hh w) = nI (rdB K 1 r c hh w)) (t0 : T 131 (16 * bk r c hh w) = 0)
    (V1 : ∀ x, 1 ≤ x → x < hh → VW (DO (ftO K (T 126) (T 127) (T 128))) (2 ^ m) T x w r c ∧ VW (DO (ftO K (T 126) (T 127) (T 128))) (2 ^ m) T (hh - x) w (r + x) c) (V2 : ∀ x, 1 ≤ x → x < w → VW (DO (ftO K (T 126) (T 127) (T 128))) (2 ^ m) T hh x r c ∧ VW (DO (ftO K (T 126) (T 127) (T 128))) (2 ^ m) T hh (w - x) r (c + x)) :
    ∃ T', L_X12_layWires_74 (nI hh) (nI w) (nI r) (nI c) (nI (bk r c hh w)) FU 1 T = some T' ∧ VW (DO (ftO K (T 126) (T 127) (T 128))) (2 ^ m) T' hh w r c ∧ (∀ j, ¬ (16 * bk r c hh w ≤ j ∧ j < 16 * bk r c hh w + 16) → T' 131 j = T 131 j) ∧ ∀ k j, k ≠ 131 → ¬ (k = 111 ∧ j = 34) → T' k j = T k j := by
  have m16 := pow_16 hm
  have lt := bk_lt hR hC b
  obtain ⟨ft, hft⟩ : ∃ ft, ft = ftO K (T 126) (T 127) (T 128) := ⟨_, rfl⟩
  rw [← hft] at V1 V2 ⊢
  have hD : ∀ r c hh w s, blkIn R C r c hh w → DO ft r c hh w s ≤ FAR := fun r c hh w s b => DO_le ft s (by omega) (by omega)
  have oth : ∀ (U : Hp) hh' w' r' c', blkIn R C r' c' hh' w' → ¬ (hh = hh' ∧ w = w' ∧ r = r' ∧ c = c') → (∀ j, ¬ (16 * bk r c hh w ≤ j ∧ j < 16 * bk r c hh w + 16) → U 131 j = T 131 j) → VW (DO ft) (2 ^ m) T hh' w' r' c' → VW (DO ft) (2 ^ m) U hh' w' r' c' := fun U hh' w' r' c' b' ne hU hV s hs => by
    have ns : bk r c hh w ≠ bk r' c' hh' w' := fun q => ne (bk_inj hR hC b b' q)
    rw [hU _ (by omega)]
    exact hV s hs
  obtain ⟨T', q1, q2, q3, q4, q5⟩ := lpE (fun N j U => L_X12_layWires_74 (nI hh) (nI w) (nI r) (nI c) (nI (bk r c hh w)) N (nI j) U) (2 ^ m) id
    (fun j U => (∀ s, s < j → U 131 (16 * bk r c hh w + s) = nI (DO ft r c hh w s)) ∧ (∀ j, ¬ (16 * bk r c hh w ≤ j ∧ j < 16 * bk r c hh w + 16) → U 131 j = T 131 j) ∧ (∀ k j, k ≠ 131 → ¬ (k = 111 ∧ j = 34) → U k j = T k j) ∧ 1 ≤ j)
    (fun N U hP => by
      simp only [L_X12_layWires_74]
      rw [hP.2.2.1 111 26 (by omega) (by omega), e26, shl_nI m (by omega), if_pos (nI_le (Nat.le_refl _) (by omega))]; rfl)
    (fun N j U hj hP => by
      obtain ⟨p1, p2, p3, p4⟩ := hP
      have r126 : U 126 = T 126 := row_eq (fun i => p3 126 i (by omega) (by omega))
      have r127 : U 127 = T 127 := row_eq (fun i => p3 127 i (by omega) (by omega))
      have r128 : U 128 = T 128 := row_eq (fun i => p3 128 i (by omega) (by omega))
      obtain ⟨B, b1, b2, b3⟩ := m_bestWire U (Dv := DO ft) (R := R) (C := C) (r := r) (c := c) (hh := hh) (w := w) (s := j) (S := 2 ^ m) hR hC b hj m16.2 hD
        (fun x x1 x2 => ⟨oth U _ _ _ _ (by omega) (by omega) p2 (V1 x x1 x2).1, oth U _ _ _ _ (by omega) (by omega) p2 (V1 x x1 x2).2⟩) (fun x x1 x2 => ⟨oth U _ _ _ _ (by omega) (by omega) p2 (V2 x x1 x2).1, oth U _ _ _ _ (by omega) (by omega) p2 (V2 x x1 x2).2⟩)
      rw [bwZ_1] at b1
      have dr := DO_rec ft (r := r) (c := c) (hh := hh) (w := w) (s := j) (by omega) (by omega)
      rw [if_neg (by omega)] at dr
      have val : ∃ B', s34 B' U ∧ (if oneI j = -9 then (f_X12_bestWire U (nI r) (nI c) (nI hh) (nI w) (nI j)).bind (fun u_28 => some (u_28.1, u_28.2)) else (f_X12_isAsk U (nI (bk r c hh w)) (oneI j)).bind fun u_29 => (if u_29 = 0 then (f_X12_bestWire U (nI r) (nI c) (nI hh) (nI w) (nI j)).bind (fun u_30 => some (u_30.1, u_30.2)) else some (0, U))) = some (nI (DO ft r c hh w j), B') := by
        rcases one_k (ft := ft) (r := r) (c := c) (hh := hh) (w := w) (s := j) (by omega) with ⟨o1, o2⟩ | ⟨k, k4, o1, o2⟩
        · refine ⟨B, b3, ?_⟩
          rw [if_pos o1, b1, Option.bind_some, dr, if_neg o2]
          rfl
        · have ia := m_isAsk U (K := K) (at' := bk r c hh w) (k := k) (r := r) (c := c) (hh := hh) (w := w) lt k4 (by rw [p3 129 _ (by omega) (by omega)]; exact w1) (by rw [p3 130 _ (by omega) (by omega)]; exact w2)
          rw [r126, r127, r128, ← hft] at ia
          rw [o1, if_neg (nI_n9 (by omega)), ia, Option.bind_some]
          by_cases cf : ft k r c hh w = true
          · refine ⟨U, fun k j _ => rfl, ?_⟩
            rw [if_pos cf, if_neg (by decide), dr, if_pos (o2.mpr cf)]
            rfl
          · refine ⟨B, b3, ?_⟩
            rw [if_neg cf, if_pos rfl, b1, Option.bind_some, dr, if_neg (fun z => cf (o2.mp z))]
            rfl
      obtain ⟨B', c1, c2⟩ := val
      simp only [L_X12_layWires_74, vB_def]
      rw [p3 111 26 (by omega) (by omega), e26, shl_nI m (by omega), if_neg (nI_ge hj (by omega)), one_nI j (by omega), Option.bind_some, c2, Option.bind_some, show (16 : Int32) = nI 16 from rfl, nI_mul, nI_add, if_pos (inB_nI (show 16 * bk r c hh w + j < 20736 by omega) (by omega)), ix_nI (by omega), nI_1]
      refine ⟨u2 B' 131 (16 * bk r c hh w + j) (nI (DO ft r c hh w j)), rfl, ?_, ?_, ?_, by omega⟩
      · intro s hs
        by_cases es : s = j
        · subst es; rw [u2_at, if_pos ⟨rfl, rfl⟩]
        · rw [u2_at, if_neg (by omega), c1 131 _ (by omega), p1 s (by omega)]
      · intro t ht
        rw [u2_at, if_neg (by omega), c1 131 _ (by omega), p2 t ht]
      · intro k i h1 h2
        rw [u2_at, if_neg (by omega), c1 k i h2, p3 k i h1 h2])
    (2 ^ m - 1) FU 1 T (by omega) (FU_gt (by omega)) ⟨fun s hs => by
      have : s = 0 := by omega
      subst this
      rw [Nat.add_zero, t0, DO_rec ft (by omega) (by omega), if_pos rfl]; rfl, fun j _ => rfl, fun k j _ _ => rfl, Nat.le_refl 1⟩
  exact ⟨T', q1, q2, q3, q4⟩
theorem m_layWires (h : Hp) {R C m : Nat} (hR : R ≤ 6) (hC : C ≤ 6) (hm : m ≤ 4) (e4 : h 111 4 = nI R) (e5 : h 111 5 = nI C) (e26 : h 111 26 = nI m) :
    ∃ h', f_X12_layWires h = some h' ∧ (∀ hh w r c, blkIn R C r c hh w → VW (DO (ftO (h 113) (h 126) (h 127) (h 128))) (2 ^ m) h' hh w r c) ∧ ∀ k j, ¬ (129 ≤ k ∧ k ≤ 131) → ¬ (k = 111 ∧ j = 34) → h' k j = h k j := by
  have m16 := pow_16 hm
  obtain ⟨g, g1, g2, g3⟩ := m_layBlocks h hR hC e4 e5
  have gr : ∀ k, k ≠ 129 → k ≠ 130 → g k = h k := g3
  obtain ⟨ft, hft⟩ : ∃ ft, ft = ftO (h 113) (h 126) (h 127) (h 128) := ⟨_, rfl⟩
  rw [← hft]
  have FrR : ∀ T : Hp, (∀ k j, k ≠ 131 → ¬ (k = 111 ∧ j = 34) → T k j = g k j) → T 111 4 = nI R ∧ T 111 5 = nI C ∧ T 111 26 = nI m := fun T hT => by
    refine ⟨?_, ?_, ?_⟩
    · rw [hT 111 4 (by omega) (by omega), g3 111 (by omega) (by omega)]; exact e4
    · rw [hT 111 5 (by omega) (by omega), g3 111 (by omega) (by omega)]; exact e5
    · rw [hT 111 26 (by omega) (by omega), g3 111 (by omega) (by omega)]; exact e26
  obtain ⟨h', q1, q2, q3⟩ := nest4 hR hC (VW (DO ft) (2 ^ m)) (fun T => ∀ k j, k ≠ 131 → ¬ (k = 111 ∧ j = 34) → T k j = g k j)
    (fun N hh T => L_X12_layWires_6 N (nI hh) T) (fun hh N w T => L_X12_layWires_16 (nI hh) N (nI w) T) (fun hh w N r T => L_X12_layWires_26 (nI hh) (nI w) N (nI r) T) (fun hh w r N c T => L_X12_layWires_39 (nI hh) (nI w) (nI r) N (nI c) T)
    (fun N T hT => by simp only [L_X12_layWires_6]; rw [(FrR T hT).1, if_pos (nI_lt (by omega) (by omega))])
    (fun N hh T h1 hT => by simp only [L_X12_layWires_6, vB_def]; rw [(FrR T hT).1, if_neg (nI_nlt h1 (by omega)), nI_1]; rfl)
    (fun hh N T hT => by simp only [L_X12_layWires_16]; rw [(FrR T hT).2.1, if_pos (nI_lt (by omega) (by omega))])
    (fun hh N w T h1 hT => by simp only [L_X12_layWires_16, vB_def]; rw [(FrR T hT).2.1, if_neg (nI_nlt h1 (by omega)), nI_1]; rfl)
    (fun hh w N T h1 h2 hT => by simp only [L_X12_layWires_26]; rw [(FrR T hT).1, nI_add, if_pos (nI_lt (by omega) (by omega))])
    (fun hh w N r T h1 hT => by simp only [L_X12_layWires_26, vB_def]; rw [(FrR T hT).1, nI_add, if_neg (nI_nlt (by omega) (by omega)), nI_1]; rfl)
    (fun hh w r N T h1 h2 hT => by simp only [L_X12_layWires_39]; rw [(FrR T hT).2.1, nI_add, if_pos (nI_lt (by omega) (by omega))])
    (fun hh w r N c T b zq => by
      have lt := bk_lt hR hC b
      obtain ⟨f4, f5, f26⟩ := FrR T zq.2
      obtain ⟨U, hU⟩ : ∃ U, U = u2 T 131 (16 * bk r c hh w) 0 := ⟨_, rfl⟩
      have Un : ∀ k, k ≠ 131 → U k = T k := fun k hk => by rw [hU, u2_ne _ _ _ hk]
      have Uo : ∀ t, t ≠ 16 * bk r c hh w → U 131 t = T 131 t := fun t ht => by rw [hU, u2_at, if_neg (by omega)]
      have rw' : ∀ k, k ≠ 131 → k ≠ 111 → k ≠ 129 → k ≠ 130 → U k = h k := fun k h1 h2 h3 h4 => by
        rw [Un k h1, row_eq (fun j => zq.2 k j h1 (by omega)), g3 k h3 h4]
      have eft : ftO (h 113) (U 126) (U 127) (U 128) = ft := by rw [rw' 126 (by omega) (by omega) (by omega) (by omega), rw' 127 (by omega) (by omega) (by omega) (by omega), rw' 128 (by omega) (by omega) (by omega) (by omega), hft]
      have keep : ∀ hh' w' r' c', blkIn R C r' c' hh' w' → ¬ (hh' = hh ∧ w' = w ∧ r' = r ∧ c' = c) → VW (DO ft) (2 ^ m) T hh' w' r' c' → VW (DO ft) (2 ^ m) U hh' w' r' c' := fun hh' w' r' c' b' ne hV s hs => by
        have ns : bk r c hh w ≠ bk r' c' hh' w' := fun z => ne (by have := bk_inj hR hC b b' z; omega)
        rw [Uo _ (by omega)]
        exact hV s hs
      obtain ⟨T', t1, t2, t3, t4⟩ := m_lw74 U (K := h 113) (R := R) (C := C) (r := r) (c := c) (hh := hh) (w := w) (m := m) hR hC hm b (by rw [Un 111 (by omega)]; exact f26) (by rw [Un 129 (by omega), zq.2 129 _ (by omega) (by omega)]; exact (g2 hh w r c b).1) (by rw [Un 130 (by omega), zq.2 130 _ (by omega) (by omega)]; exact (g2 hh w r c b).2) (by rw [hU, u2_at, if_pos ⟨rfl, rfl⟩])
        (by rw [eft]; exact fun x x1 x2 => ⟨keep _ _ _ _ (by omega) (by omega) (zq.1 _ _ _ _ (by omega) (by omega)), keep _ _ _ _ (by omega) (by omega) (zq.1 _ _ _ _ (by omega) (by omega))⟩) (by rw [eft]; exact fun x x1 x2 => ⟨keep _ _ _ _ (by omega) (by omega) (zq.1 _ _ _ _ (by omega) (by omega)), keep _ _ _ _ (by omega) (by omega) (zq.1 _ _ _ _ (by omega) (by omega))⟩)
      rw [eft] at t2
      simp only [L_X12_layWires_39, vB_def, f5]
      rw [nI_add, if_neg (nI_nlt (by omega) (by omega)), m_block (by omega) (by omega), Option.bind_some, show (16 : Int32) * nI (bk r c hh w) = nI (16 * bk r c hh w) from nI_mul 16 _, if_pos (inB_nI (show 16 * bk r c hh w < 20736 by omega) (by omega)), ix_nI (by omega), ← hU, t1, Option.bind_some, nI_1]
      refine ⟨T', rfl, fun k j h1 h2 => by rw [t4 k j h1 h2, Un k h1, zq.2 k j h1 h2], t2, fun hh' w' r' c' b' ne hV s hs => ?_⟩
      have ns : bk r c hh w ≠ bk r' c' hh' w' := fun z => ne (by have := bk_inj hR hC b b' z; omega)
      rw [t3 _ (by omega)]
      exact keep hh' w' r' c' b' ne hV s hs)
    g (fun k j _ _ => rfl)
  refine ⟨h', ?_, q2, fun k j h1 h2 => by rw [q3 k j (by omega) h2, g3 k (by omega) (by omega)]⟩
  simp only [f_X12_layWires, vB_def]
  rw [g1, Option.bind_some, show L_X12_layWires_6 FU 1 g = some h' from q1, Option.bind_some]
theorem m_wholeWire (h : Hp) {R C m : Nat} (hR : R ≤ 6) (hC : C ≤ 6) (R1 : 1 ≤ R) (C1 : 1 ≤ C) (hm : m ≤ 4) (e4 : h 111 4 = nI R) (e5 : h 111 5 = nI C) (e26 : h 111 26 = nI m) :
    ∃ h', f_X12_wholeWire h = some (nI (DO (ftO (h 113) (h 126) (h 127) (h 128)) 0 0 R C (2 ^ m - 1)), h') ∧ (∀ hh w r c, blkIn R C r c hh w → VW (DO (ftO (h 113) (h 126) (h 127) (h 128))) (2 ^ m) h' hh w r c) ∧ ∀ k j, ¬ (129 ≤ k ∧ k ≤ 131) → ¬ (k = 111 ∧ j = 34) → h' k j = h k j := by
  have m16 := pow_16 hm
  have lt := bk_lt hR hC (show blkIn R C 0 0 R C by omega)
  obtain ⟨g, g1, g2, g3⟩ := m_layWires h hR hC hm e4 e5 e26
  refine ⟨g, ?_, g2, g3⟩
  unfold f_X12_wholeWire
  rw [g1, Option.bind_some, g3 111 4 (by omega) (by omega), g3 111 5 (by omega) (by omega), g3 111 26 (by omega) (by omega), e4, e5, e26, show f_X12_block 0 0 (nI R) (nI C) = _ from m_block (r := 0) (c := 0) R1 C1, Option.bind_some, shl_nI m (by omega), show (16 : Int32) * nI (bk 0 0 R C) = nI (16 * bk 0 0 R C) from nI_mul 16 _, nI_add, show (1 : Int32) = nI 1 from rfl, nI_sub (by omega), show 16 * bk 0 0 R C + 2 ^ m - 1 = 16 * bk 0 0 R C + (2 ^ m - 1) by omega, if_pos (inB_nI (show 16 * bk 0 0 R C + (2 ^ m - 1) < 20736 by omega) (by omega)), ix_nI (by omega), g2 R C 0 0 (by omega) (2 ^ m - 1) (by omega)]
theorem k_shortO {k N : Nat} {h : Hp} {q : Qp} {R C : Nat} (hF : iF h R C) (hO : iO h q N R C) (hC0 : iC h) :
    ∃ m g, m ≤ 4 ∧ h 41 5 = nI m ∧ h 111 26 = nI m ∧ f_X6_shortest q h = some (nI (DO (ftO (h 113) (h 126) (h 127) (h 128)) 0 0 R C (2 ^ m - 1)), g) ∧ (∀ hh w r c, blkIn R C r c hh w → V_O (DO (ftO (h 113) (h 126) (h 127) (h 128))) (2 ^ m) g hh w r c) ∧ (∀ k j, k ≠ 42 → k ≠ 44 → ¬ (k = 41 ∧ j = 6) → g k j = h k j) ∧ iO g q N R C := by
  obtain ⟨R1, R2, C1, C2, f1, f2, f3, f4, f5, f6, f7, f8⟩ := hF
  obtain ⟨m, m1, m2, m3, m4, m5⟩ := hO
  have m16 := pow_16 m1
  obtain ⟨ft, hft⟩ : ∃ ft, ft = ftO (h 113) (h 126) (h 127) (h 128) := ⟨_, rfl⟩
  have hD : ∀ r c hh w s, blkIn R C r c hh w → DO ft r c hh w s ≤ FAR := fun r c hh w s b => DO_le ft s (by omega) (by omega)
  by_cases z : h 41 6 = 0
  · obtain ⟨u, hu⟩ : ∃ u : Nat → Nat, ∀ i, i < m → h 126 i = nI (u i) ∧ u i ≤ 360 := ⟨fun i => ix (h 126 i), fun i hi => by
      obtain ⟨a, _, _, _, _, _, _, x, y, x1, x2, x3, x4, x5⟩ := m4 i hi
      show h 126 i = nI (ix (h 126 i)) ∧ ix (h 126 i) ≤ 360
      rw [x4, ix_nI (by omega)]
      exact ⟨rfl, x2⟩⟩
    obtain ⟨W, w1, w2, w3⟩ := k_addUpWishes q h (m := m) u m1 m2 (fun i hi => by
      obtain ⟨a, a1, a2, a3, a4, _⟩ := m4 i hi
      exact ⟨a, a1, a2, by rw [a4]; exact (hu i hi).1⟩)
    obtain ⟨G, g1, g2, g3⟩ := k_workOut_O q W (R := R) (C := C) (S := 2 ^ m) (Dv := DO ft) R2 C2 (by rw [w3 3 (by omega)]; exact f1) (by rw [w3 3 (by omega)]; exact f2) (by rw [w3 41 (by omega)]; exact hC0.1) m16.1 m16.2 hD (fun T r c hh w s hT b hs => by
      rw [hft]
      refine k_vdO q T (u := u) R2 C2 m1 hs b (by rw [hT 41 (by omega), w3 41 (by omega)]; exact m2) (by rw [hT 5 (by omega), w3 5 (by omega)]; exact f6) (by rw [hT 6 (by omega), w3 6 (by omega)]; exact f7) (fun i hi => ?_) hu (by rw [hT 44 (by omega)]; exact w2 s hs)
      obtain ⟨a, a1, a2, a3, a4, a5, a6, _⟩ := m4 i hi
      refine ⟨a, a1, ?_, ?_, ?_⟩
      · rw [hT a (by omega), w3 a (by omega)]; exact a4
      · rw [hT a (by omega), w3 a (by omega)]; exact a5
      · rw [hT a (by omega), w3 a (by omega)]; exact a6)
    have fr : ∀ k j, k ≠ 42 → k ≠ 44 → ¬ (k = 41 ∧ j = 6) → u2 G 41 6 1 k j = h k j := fun k j h1 h2 h3 => by rw [u2_at, if_neg h3, g3 k h1, w3 k h2]
    have Vg : ∀ hh w r c, blkIn R C r c hh w → V_O (DO ft) (2 ^ m) (u2 G 41 6 1) hh w r c := fun hh w r c b s hs => by
      rw [u2_ne _ _ _ (by decide)]; exact g2 hh w r c b s hs
    refine ⟨m, u2 G 41 6 1, m1, m2, m3, ?_, ?_, fr, ?_⟩
    · have ca := k_costOfAll_O (u2 G 41 6 1) (R := R) (C := C) (s := 2 ^ m - 1) (S := 2 ^ m) (Dv := DO ft) R2 C2 R1 C1 (by rw [fr 3 3 (by omega) (by omega) (by omega)]; exact f1) (by rw [fr 3 4 (by omega) (by omega) (by omega)]; exact f2) (by rw [fr 41 1 (by omega) (by omega) (by omega)]; exact hC0.1) (by omega) m16.2 (Vg R C 0 0 (by omega))
      simp only [f_X6_shortest, vB_def]
      rw [if_pos z, w1, Option.bind_some, k_every W m1 (by rw [w3 41 (by omega)]; exact m2), Option.bind_some, g1, Option.bind_some, Option.bind_some, k_every (u2 G 41 6 1) m1 (by rw [fr 41 5 (by omega) (by omega) (by omega)]; exact m2), Option.bind_some, ca, Option.bind_some, hft]
    · rw [← hft]; exact Vg
    · refine ⟨m, m1, by rw [fr 41 5 (by omega) (by omega) (by omega)]; exact m2, by rw [fr 111 26 (by omega) (by omega) (by omega)]; exact m3, fun i hi => ?_, Or.inr (fun r c hh w s b hs => ?_)⟩
      · obtain ⟨a, a1, a2, a3, a4, a5, a6, a7⟩ := m4 i hi
        refine ⟨a, a1, a2, a3, ?_, ?_, ?_, ?_⟩
        · rw [fr a 0 (by omega) (by omega) (by omega), fr 126 i (by omega) (by omega) (by omega)]; exact a4
        · rw [fr a 1 (by omega) (by omega) (by omega), fr 126 i (by omega) (by omega) (by omega), fr 127 i (by omega) (by omega) (by omega)]; exact a5
        · rw [fr a 2 (by omega) (by omega) (by omega), fr 128 i (by omega) (by omega) (by omega)]; exact a6
        · rw [fr 126 i (by omega) (by omega) (by omega), fr 127 i (by omega) (by omega) (by omega)]; exact a7
      · rw [row_eq (h := h) (fun j => fr 113 j (by omega) (by omega) (by omega)), row_eq (h := h) (fun j => fr 126 j (by omega) (by omega) (by omega)), row_eq (h := h) (fun j => fr 127 j (by omega) (by omega) (by omega)), row_eq (h := h) (fun j => fr 128 j (by omega) (by omega) (by omega)), ← hft]
        exact Vg hh w r c b s hs
  · have Vh : ∀ hh w r c, blkIn R C r c hh w → V_O (DO ft) (2 ^ m) h hh w r c := fun hh w r c b s hs => by rw [hft]; exact m5.resolve_left z r c hh w s b hs
    refine ⟨m, h, m1, m2, m3, ?_, by rw [← hft]; exact Vh, fun _ _ _ _ _ => rfl, ⟨m, m1, m2, m3, m4, m5⟩⟩
    have ca := k_costOfAll_O h (R := R) (C := C) (s := 2 ^ m - 1) (S := 2 ^ m) (Dv := DO ft) R2 C2 R1 C1 f1 f2 hC0.1 (by omega) m16.2 (Vh R C 0 0 (by omega))
    simp only [f_X6_shortest, vB_def]
    rw [if_neg z, Option.bind_some, k_every h m1 m2, Option.bind_some, ca, Option.bind_some, hft]
theorem Inv_O {k N : Nat} {h g : Hp} {q : Qp} {R C : Nat} (h0 : 137 ≤ N) (hT : iT h) (hF : iF h R C) (hR : iR h) (hB : iB h R C) (hS : iS h R C) (hL : iL h R C) (hK : iK h k) (hP : iP h) (hC : iC h) (fr : ∀ k j, k ≠ 42 → k ≠ 44 → ¬ (k = 41 ∧ j = 6) → g k j = h k j) (hO : iO g q N R C) : Inv k N g q := by
  have f' : ∀ k j, ¬ (k = 42 ∨ k = 44 ∨ k = 41 ∧ j = 6) → g k j = h k j := fun k j hk => fr k j (by omega) (by omega) (by omega)
  exact ⟨h0, R, C, iT_keep (fun k j hk => f' k j (by omega)) hT, iF_keep (fun k j hk => f' k j (by omega)) hF, iR_keep (fun k j hk => f' k j (by omega)) hR, iB_keep (fun k j hk => f' k j (by omega)) hB, iS_keep (fun k j hk => f' k j (by omega)) hS, hO, iL_keep (fun k j hk => f' k j (by omega)) hL, iK_keep (Nat.le_refl _) (fun k j hk => f' k j (by omega)) hK, iP_keep (fun k j hk => f' k j (by omega)) hP, iC_keep (fun k j hk => f' k j (by omega)) hC⟩
theorem s_whole {k N : Nat} {h : Hp} {q : Qp} (H : Inv k N h q) : ∃ a h1 b h2, f_X11_whole q h = some (a, h1) ∧ f_X12_whole h1 = some (b, h2) ∧ a = b ∧ Inv (k + 1) N h2 q := by
  obtain ⟨h0, R, C, hT, hF, hR, hB, hS, hO, hL, hK, hP, hC⟩ := H
  have hF' := hF
  obtain ⟨R1, R2, C1, C2, f1, f2, f3, f4, f5, f6, f7, f8⟩ := hF'
  obtain ⟨m, g, m1, m2, m3, g1, g2, g3, g4⟩ := k_shortO (k := k) hF hO hC
  have Hu := Inv_u0 (Nat.le_succ k) (Inv_O h0 hT hF hR hB hS hL hK hP hC g3 g4)
  have ur : ∀ k, k ≠ 42 → k ≠ 44 → k ≠ 41 → k ≠ 111 → u2 g 111 0 0 k = h k := fun k h1 h2 h3 h4 => by rw [u2_ne _ _ _ h4]; exact row_eq (fun j => g3 k j h1 h2 (by omega))
  have uj : ∀ j, j ≠ 0 → u2 g 111 0 0 111 j = h 111 j := fun j hj => by rw [u0_j _ _ hj, g3 111 j (by omega) (by omega) (by omega)]
  obtain ⟨f, w1, w2, w3⟩ := m_wholeWire (u2 g 111 0 0) (R := R) (C := C) (m := m) R2 C2 R1 C1 m1 (by rw [uj 4 (by omega)]; exact f3) (by rw [uj 5 (by omega)]; exact f4) (by rw [uj 26 (by omega)]; exact m3)
  rw [ur 113 (by omega) (by omega) (by omega) (by omega), ur 126 (by omega) (by omega) (by omega) (by omega), ur 127 (by omega) (by omega) (by omega) (by omega), ur 128 (by omega) (by omega) (by omega) (by omega)] at w1
  have Hf : Inv (k + 1) N f q := Inv_keep (Nat.le_refl _) (Nat.le_refl _) (fun a b hf => w3 a b (fun p => hf (by unfold free; omega)) (fun p => hf (by unfold free; omega))) Hu
  generalize nI (DO (ftO (h 113) (h 126) (h 127) (h 128)) 0 0 R C (2 ^ m - 1)) = D at *
  simp only [f_X11_whole, f_X12_whole, vB_def, g1, Option.bind_some]
  by_cases c : 1000000 ≤ D
  · rw [if_pos c]
    exact ⟨_, _, _, f, rfl, (by rw [w1, Option.bind_some]; simp only [if_pos c]), rfl, Hf⟩
  · rw [if_neg c]
    exact ⟨_, _, _, f, rfl, (by rw [w1, Option.bind_some]; simp only [if_neg c]), rfl, Hf⟩
