/-! two asks ahead: the reference's second loop; rounds: two, twoFirst -/
theorem e_ite {e : Nat} (he : e = 0 ∨ e = 1) : (if nI e = 1 then (some 1 : Option Int32) else some 0) = some (nI e) := by
  rcases he with rfl | rfl <;> rfl
theorem m_tw151 (h T : Hp) {n R C i r c hh w d x : Nat} (a o b p v : Int32) (ha : asd h) (hn : n < 24) (hi : i < n) (hR : R ≤ 6) (hC : C ≤ 6) (e9 : h 111 9 = nI n) (ok : ∀ i, i < n → okQ (h 113) R C (mrow h i)) (oi : okP (h 113) R C (mrow h i) r c hh w) (h6 : mrow h i 6 = 0) (hd : d = 0 ∨ d = 1) (hx : okX (dA d) hh w x) (sT : s6 T h) :
    ∃ T', L_X12_findTwo_151 a o b p v (nI i) (nI d) (nI x) FU 0 T = some T' ∧ (T' 111 45, T' 111 46) = twx (h 113) (mrow h) n a (a + o) b (b + p) v i d (if d = 0 then w else hh) x (T 111 45, T 111 46) ∧ s6 T' h := by
  have l0 : r + hh ≤ R := oi.2.2.2.2.2.2.1
  have l1 : c + w ≤ C := oi.2.2.2.2.2.2.2.1
  have hb : inB (nI i) 24 := inB_nI (by omega) (by omega)
  have oa := ah_ok hR hC oi hx
  have ob := bh_ok hR hC oi hx
  obtain ⟨E, hE⟩ : ∃ E, E = (if d = 0 then w else hh) := ⟨_, rfl⟩
  rw [← hE]
  obtain ⟨T', q1, q2, q3⟩ := lpE (fun N j U => L_X12_findTwo_151 a o b p v (nI i) (nI d) (nI x) N (nI j) U) 2 id
    (fun j U => (U 111 45, U 111 46) = it (tw2 (h 113) (mrow h) n a (a + o) b (b + p) v i d E x) j 0 (T 111 45, T 111 46) ∧ s6 U h)
    (fun N U hP => by simp only [L_X12_findTwo_151]; rw [if_pos (by decide)]; rfl)
    (fun N e U he hP => by
      obtain ⟨p1, p2⟩ := hP
      have e01 : e = 0 ∨ e = 1 := by omega
      have ip := m_isPart U (x2 := dA d) (x := x) (nI e) a o v (show i < 24 by omega) hR hC (by rw [s6_113 p2, p2.1 i (by omega)]; exact oi) (by rw [p2.1 i (by omega)]; exact h6) hx
      rw [s6_113 p2, p2.1 i (by omega)] at ip
      obtain ⟨Q, hQ⟩ : ∃ Q, Q = pt (h 113) (dA d) (mrow h i) x (nI e) := ⟨_, rfl⟩
      rw [← hQ] at ip
      have lf : ∀ k j, ¬ (115 ≤ k ∧ k ≤ 122) → ¬ (k = 111 ∧ (22 ≤ j ∧ j ≤ 25 ∨ j = 45 ∨ j = 46)) → lp U Q k j = h k j := fun k j h1 h2 => by rw [lp_at _ _ (by omega), p2.2 k j h1 h2]
      have lm : ∀ t, t < 24 → mrow (lp U Q) t = mrow h t := fun t ht => by rw [← p2.1 t ht]; exact mrow_keep t (fun k j hk => lp_at _ _ (by omega))
      have l113 : lp U Q 113 = h 113 := row_eq (fun j => lf 113 j (by omega) (by omega))
      have js : it (tw2 (h 113) (mrow h) n a (a + o) b (b + p) v i d E x) (e + 1) 0 (T 111 45, T 111 46) = tw2 (h 113) (mrow h) n a (a + o) b (b + p) v i d E x e (U 111 45, U 111 46) := by rw [it_succ, Nat.zero_add, ← p1]
      simp only [L_X12_findTwo_151, vB_def]
      rw [if_neg (f_le 2 rfl (by omega) (by omega)), d_ite hd, Option.bind_some, e_ite e01, Option.bind_some, ip, Option.bind_some, nI_1, js]
      by_cases s : srv Q a (a + o) v
      · have tE : (if nI d = 0 then (if inB (nI i) 24 then some (lp U Q 118 (ix (nI i))) else none) else (if inB (nI i) 24 then some (lp U Q 117 (ix (nI i))) else none)) = some (nI E) := by
          have m2 : lp U Q 117 i = nI hh := by rw [show lp U Q 117 i = mrow (lp U Q) i 2 from rfl, lm i (by omega)]; exact oi.2.2.1
          have m3 : lp U Q 118 i = nI w := by rw [show lp U Q 118 i = mrow (lp U Q) i 3 from rfl, lm i (by omega)]; exact oi.2.2.2.1
          rw [if_pos hb, if_pos hb, ix_nI (by omega), m2, m3, hE]
          rcases hd with rfl | rfl <;> rfl
        simp only [if_pos s, show ¬ (1 : Int32) = 0 by decide, if_false, tE, Option.bind_some, told_nI]
        obtain ⟨Z, z1, z2, z3, z4, z5, z6⟩ := m_make (lp U Q) (i := i) (n := n) (d := d) (t := e) (x := x) hi hn (by rw [lf 111 9 (by omega) (by omega)]; exact e9) hR hC (by rw [l113, lm i (by omega)]; exact oi) (by rw [lm i (by omega)]; exact h6) hd e01 hx
        rw [l113, lm i (by omega)] at z3 z4
        have zK : Z 113 = h 113 := row_eq (fun j => by rw [z6 113 j (by omega) (by omega), lf 113 j (by omega) (by omega)])
        have zo : ∀ t, t < n → t ≠ i → mrow Z t = mrow h t := fun t ht hti => by rw [z5 t hti (by omega), lm t (by omega)]
        obtain ⟨V, v1, v2⟩ := m_second Z (n := n + 1) (R := R) (C := C) b p v (by omega) hR hC z2 (fun t ht => by
          rw [zK]
          by_cases c1 : t = i
          · subst c1
            rw [z3]
            rcases e01 with rfl | rfl
            · rw [if_neg (by decide)]; exact ⟨_, _, _, _, okP_set 1 (by omega) oa⟩
            · rw [if_pos rfl]; exact ⟨_, _, _, _, oa⟩
          · by_cases c2 : t = n
            · subst c2
              rw [z4]
              rcases e01 with rfl | rfl
              · rw [if_neg (by decide)]; exact ⟨_, _, _, _, ob⟩
              · rw [if_pos rfl]; exact ⟨_, _, _, _, okP_set 1 (by omega) ob⟩
            · rw [zo t (by omega) c1]; exact ok t (by omega))
        have sc : sec (Z 113) (mrow Z) (n + 1) b (b + p) v = min (els (h 113) (if n + 1 = 24 then 0 else 1) (mrow h) i n b (b + p) v) (wv (h 113) (if n + 1 = 24 then 0 else 1) (pt (h 113) (dA d) (mrow h i) x (nI (1 - e))) b (b + p) v) := by
          rw [zK, sec_cut (B := mrow h) (B' := mrow Z) hi zo, z3, z4]
          rcases e01 with rfl | rfl
          · rw [if_neg (show ¬ (0 : Nat) = 1 by decide), if_neg (show ¬ (0 : Nat) = 1 by decide), wv_sold (p := setp (ah (h 113) (dA d) (mrow h i) x) 6 1) (by rw [setp_eq]; decide)]
            rw [show pt (h 113) (dA d) (mrow h i) x (nI (1 - 0)) = bh (h 113) (dA d) (mrow h i) x from rfl]
            have := wv_le (h 113) (if n + 1 = 24 then 0 else 1) (bh (h 113) (dA d) (mrow h i) x) b (b + p) v
            omega
          · rw [if_pos (show (1 : Nat) = 1 from rfl), if_pos (show (1 : Nat) = 1 from rfl), wv_sold (p := setp (bh (h 113) (dA d) (mrow h i) x) 6 1) (by rw [setp_eq]; decide)]
            rw [show pt (h 113) (dA d) (mrow h i) x (nI (1 - 1)) = ah (h 113) (dA d) (mrow h i) x from rfl]
            have := wv_le (h 113) (if n + 1 = 24 then 0 else 1) (ah (h 113) (dA d) (mrow h i) x) b (b + p) v
            omega
        rw [sc] at v1
        rw [z1, Option.bind_some]
        simp only [v1, Option.bind_some, nI_add]
        obtain ⟨Y, y1, y2, y3⟩ := m_keepTwo V (nI (E + min (els (h 113) (if n + 1 = 24 then 0 else 1) (mrow h) i n b (b + p) v) (wv (h 113) (if n + 1 = 24 then 0 else 1) (pt (h 113) (dA d) (mrow h i) x (nI (1 - e))) b (b + p) v))) (100000 + nI (1000 * i + 100 * d + 10 * x + e))
        obtain ⟨W, w1, w2, w3, w4⟩ := m_back (T := Y) ha (fun k t h1 h2 => by rw [y3 k t (by omega), v2 k t (by omega), z6 k t h1 (by omega), lf k t h1 (by omega)])
        rw [y1, Option.bind_some, w1, Option.bind_some, Option.bind_some]
        refine ⟨W, rfl, ?_, w2⟩
        rw [w3, w4, y2, v2 111 45 (by omega), v2 111 46 (by omega), z6 111 45 (by omega) (by omega), z6 111 46 (by omega) (by omega), lp_at _ _ (by omega), lp_at _ _ (by omega)]
        unfold tw2
        rw [← hQ, if_pos s]
      · simp only [if_neg s, if_true, Option.bind_some]
        refine ⟨lp U Q, rfl, ?_, lm, lf⟩
        unfold tw2
        rw [← hQ, if_neg s, lp_at _ _ (by omega), lp_at _ _ (by omega)])
    2 FU 0 T rfl (FU_gt (by omega)) ⟨rfl, sT⟩
  exact ⟨T', q1, q2, q3⟩
theorem m_tw111 (h T : Hp) {n R C i r c hh w d : Nat} (a o b p v : Int32) (ha : asd h) (hn : n < 24) (hi : i < n) (hR : R ≤ 6) (hC : C ≤ 6) (e9 : h 111 9 = nI n) (ok : ∀ i, i < n → okQ (h 113) R C (mrow h i)) (oi : okP (h 113) R C (mrow h i) r c hh w) (hd : d = 0 ∨ d = 1) (sT : s6 T h) :
    ∃ T', L_X12_findTwo_111 a o b p v (nI i) (nI d) FU 1 T = some T' ∧ (T' 111 45, T' 111 46) = it (twx (h 113) (mrow h) n a (a + o) b (b + p) v i d (if d = 0 then w else hh)) ((if d = 0 then hh else w) - 1) 1 (T 111 45, T 111 46) ∧ s6 T' h := by
  have l0 : r + hh ≤ R := oi.2.2.2.2.2.2.1
  have l1 : c + w ≤ C := oi.2.2.2.2.2.2.2.1
  have l2 : 1 ≤ hh := oi.2.2.2.2.1
  have l3 : 1 ≤ w := oi.2.2.2.2.2.1
  have hb : inB (nI i) 24 := inB_nI (by omega) (by omega)
  obtain ⟨L, hL⟩ : ∃ L, L = (if d = 0 then hh else w) := ⟨_, rfl⟩
  have L1 : 1 ≤ L ∧ L ≤ 6 := by rw [hL]; split <;> omega
  rw [← hL]
  have u6 : ∀ U, s6 U h → U 119 i = mrow h i 6 := fun U hU => by rw [← hU.1 i (by omega)]; rfl
  by_cases z : mrow h i 6 = 0
  · have tL : ∀ U, s6 U h → (if nI d = 0 then (if inB (nI i) 24 then some (U 117 (ix (nI i))) else none) else (if inB (nI i) 24 then some (U 118 (ix (nI i))) else none)) = some (nI L) := fun U hU => by
      have m2 : U 117 i = nI hh := by rw [show U 117 i = mrow U i 2 from rfl, hU.1 i (by omega)]; exact oi.2.2.1
      have m3 : U 118 i = nI w := by rw [show U 118 i = mrow U i 3 from rfl, hU.1 i (by omega)]; exact oi.2.2.2.1
      rw [if_pos hb, if_pos hb, ix_nI (by omega), m2, m3, hL]
      rcases hd with rfl | rfl <;> rfl
    obtain ⟨T', q1, q2, q3⟩ := lpE (fun N j U => L_X12_findTwo_111 a o b p v (nI i) (nI d) N (nI j) U) L id
      (fun j U => (U 111 45, U 111 46) = it (twx (h 113) (mrow h) n a (a + o) b (b + p) v i d (if d = 0 then w else hh)) (j - 1) 1 (T 111 45, T 111 46) ∧ s6 U h ∧ 1 ≤ j)
      (fun N U hP => by
        simp only [L_X12_findTwo_111]
        rw [tL U hP.2.1, if_pos hb, ix_nI (by omega), u6 U hP.2.1, if_pos z, Option.bind_some, if_pos (nI_le (Nat.le_refl _) (by omega))]; rfl)
      (fun N j U hj hP => by
        obtain ⟨p1, p2, p3⟩ := hP
        have hx : okX (dA d) hh w j := ⟨p3, by rcases hd with rfl | rfl <;> rw [hL] at hj <;> exact hj⟩
        obtain ⟨V, v1, v2, v3⟩ := m_tw151 h U (x := j) a o b p v ha hn hi hR hC e9 ok oi z hd hx p2
        simp only [L_X12_findTwo_111, vB_def]
        rw [tL U p2, if_pos hb, ix_nI (by omega), u6 U p2, if_pos z, Option.bind_some, if_neg (nI_ge hj (by omega)), v1, Option.bind_some, nI_1]
        refine ⟨V, rfl, ?_, v3, by omega⟩
        rw [show j + 1 - 1 = j - 1 + 1 by omega, it_succ, ← p1, show 1 + (j - 1) = j by omega, v2])
      (L - 1) FU 1 T (by omega) (FU_gt (by omega)) ⟨rfl, sT, Nat.le_refl 1⟩
    exact ⟨T', q1, q2, q3.1⟩
  · refine ⟨T, ?_, ?_, sT⟩
    · obtain ⟨F, hF⟩ : ∃ F, FU = F + 1 := ⟨1999, rfl⟩
      rw [hF]
      simp only [L_X12_findTwo_111]
      rw [if_pos hb, ix_nI (by omega), u6 T sT, if_neg z]
    · rw [it_id]
      intro j s _ _
      refine it_id 2 0 s (fun e s _ _ => ?_)
      unfold tw2
      rw [if_neg (fun q => z (by rw [← pt_6 (h 113) (dA d) (mrow h i) j (nI e)]; exact q.1))]
theorem m_tw102 (h T : Hp) {n R C i : Nat} (a o b p v : Int32) (ha : asd h) (hn : n < 24) (hi : i < n) (hR : R ≤ 6) (hC : C ≤ 6) (e9 : h 111 9 = nI n) (ok : ∀ i, i < n → okQ (h 113) R C (mrow h i)) (sT : s6 T h) :
    ∃ T', L_X12_findTwo_102 a o b p v (nI i) FU 0 T = some T' ∧ (T' 111 45, T' 111 46) = twp (h 113) (mrow h) n a (a + o) b (b + p) v i (T 111 45, T 111 46) ∧ s6 T' h := by
  obtain ⟨r, c, hh, w, oi⟩ := ok i hi
  have l0 : r + hh ≤ R := oi.2.2.2.2.2.2.1
  have l1 : c + w ≤ C := oi.2.2.2.2.2.2.2.1
  obtain ⟨U, u1, u2', u3⟩ := m_tw111 h T (d := 0) a o b p v ha hn hi hR hC e9 ok oi (Or.inl rfl) sT
  obtain ⟨V, v1, v2, v3⟩ := m_tw111 h U (d := 1) a o b p v ha hn hi hR hC e9 ok oi (Or.inr rfl) u3
  rw [if_pos rfl, if_pos rfl] at u2'
  rw [if_neg (by decide), if_neg (by decide)] at v2
  refine ⟨V, ?_, ?_, v3⟩
  · obtain ⟨F, hF⟩ : ∃ F, FU = F + 1 + 1 + 1 := ⟨1997, rfl⟩
    rw [show L_X12_findTwo_102 a o b p v (nI i) FU 0 T = L_X12_findTwo_102 a o b p v (nI i) (F + 1 + 1 + 1) 0 T by rw [← hF]]
    simp only [L_X12_findTwo_102, vB_def]
    rw [if_neg (by decide), show L_X12_findTwo_111 a o b p v (nI i) 0 FU 1 T = some U from u1, Option.bind_some, if_neg (by decide), show L_X12_findTwo_111 a o b p v (nI i) (0 + 1) FU 1 U = some V from v1, Option.bind_some, if_pos (by decide)]
  · unfold twp
    rw [v2, u2', show mrow h i 2 = nI hh from oi.2.2.1, show mrow h i 3 = nI w from oi.2.2.2.1, ix_nI (by omega), ix_nI (by omega)]
theorem m_findTwo (h : Hp) {n R C : Nat} (a o b p v : Int32) (hn : n ≤ 24) (hR : R ≤ 6) (hC : C ≤ 6) (e9 : h 111 9 = nI n) (ok : ∀ i, i < n → okQ (h 113) R C (mrow h i)) :
    ∃ h', f_X12_findTwo h a o b p v = some h' ∧ (h' 111 45, h' 111 46) = twoA (h 113) (mrow h) n a (a + o) b (b + p) v ∧ (∀ i, i < 24 → mrow h' i = mrow h i) ∧ ∀ k j, ¬ (115 ≤ k ∧ k ≤ 123) → ¬ (k = 111 ∧ (22 ≤ j ∧ j ≤ 25 ∨ j = 45 ∨ j = 46)) → h' k j = h k j := by
  obtain ⟨g0, hg0⟩ : ∃ g, g = u2 (u2 h 111 45 1000000) 111 46 (-9) := ⟨_, rfl⟩
  have g0n : ∀ k j, ¬ (k = 111 ∧ (j = 45 ∨ j = 46)) → g0 k j = h k j := fun k j hk => by rw [hg0, u2_at, if_neg (by omega), u2_at, if_neg (by omega)]
  have g0s : (g0 111 45, g0 111 46) = ((1000000 : Int32), (-9 : Int32)) := by rw [hg0]; simp [u2_at]
  obtain ⟨g, p1, p2, p3, p4, p5⟩ := m_putAside g0
  have ga : asd g := by
    refine ⟨by rw [p2, p5 111 (by decide)], by rw [p3, p5 111 (by decide)], fun i j hi hj => ?_⟩
    rw [p4 i j hi hj]
    unfold c11
    rw [p5 115 (by decide), p5 116 (by decide), p5 117 (by decide), p5 118 (by decide), p5 119 (by decide), p5 120 (by decide), p5 121 (by decide), p5 122 (by decide)]
  have gn : ∀ k j, k ≠ 123 → ¬ (k = 111 ∧ (j = 45 ∨ j = 46)) → g k j = h k j := fun k j h1 h2 => by rw [p5 k h1, g0n k j h2]
  have gm : ∀ i, mrow g i = mrow h i := fun i => mrow_keep i (fun k j hk => gn k j (by omega) (by omega))
  have gmf : mrow g = mrow h := funext gm
  have g113 : g 113 = h 113 := row_eq (fun j => gn 113 j (by omega) (by omega))
  have g9 : g 111 9 = nI n := by rw [gn 111 9 (by omega) (by omega)]; exact e9
  have gok : ∀ i, i < n → okQ (g 113) R C (mrow g i) := fun i hi => by rw [g113, gm]; exact ok i hi
  obtain ⟨T, t1, t2, t3⟩ := m_two1 g a o b p v ga hn hR hC g9 gok
  rw [p5 111 (by decide), g0s, g113, gmf] at t2
  have st : ∀ Z, L_X12_findTwo_79 a o b p v FU 0 T = some Z → f_X12_findTwo h a o b p v = some Z := fun Z hZ => by
    simp only [f_X12_findTwo, vB_def, ← hg0]
    rw [p1, Option.bind_some, t1, Option.bind_some, hZ, Option.bind_some]
  have fin : ∀ Z, s6 Z g → (∀ i, i < 24 → mrow Z i = mrow h i) ∧ ∀ k j, ¬ (115 ≤ k ∧ k ≤ 123) → ¬ (k = 111 ∧ (22 ≤ j ∧ j ≤ 25 ∨ j = 45 ∨ j = 46)) → Z k j = h k j := fun Z hZ =>
    ⟨fun i hi => by rw [hZ.1 i hi, gm], fun k j h1 h2 => by rw [hZ.2 k j (by omega) h2, gn k j (by omega) (by omega)]⟩
  have T0 : ∀ U, s6 U g → U 123 (ix 0) = nI n := fun U hU => by rw [show ix 0 = 0 from rfl, hU.2 123 0 (by omega) (by omega), ga.1]; exact g9
  have T9 : ∀ U, s6 U g → U 111 9 = nI n := fun U hU => by rw [hU.2 111 9 (by omega) (by omega)]; exact g9
  unfold twoA
  by_cases c24 : n = 24
  · rw [if_pos c24]
    refine ⟨T, st T ?_, t2, fin T t3⟩
    obtain ⟨F, hF⟩ : ∃ F, FU = F + 1 := ⟨1999, rfl⟩
    rw [hF]
    simp only [L_X12_findTwo_79]
    rw [T0 T t3, T9 T t3, c24, if_pos (show inB 0 266 by decide), if_neg (by decide), if_pos (by decide)]
  · rw [if_neg c24]
    obtain ⟨Z, q1, q2, q3⟩ := lpE (fun N j U => L_X12_findTwo_79 a o b p v N (nI j) U) n id
      (fun j U => (U 111 45, U 111 46) = it (twp (h 113) (mrow h) n a (a + o) b (b + p) v) j 0 (two1 (h 113) (mrow h) n a (a + o) b (b + p) v) ∧ s6 U g)
      (fun N U hP => by
        simp only [L_X12_findTwo_79]
        rw [T0 U hP.2, if_pos (show inB 0 266 by decide), if_pos (nI_le (Nat.le_refl _) (by omega))]; rfl)
      (fun N j U hj hP => by
        obtain ⟨r1, r2⟩ := hP
        obtain ⟨V, v1, v2, v3⟩ := m_tw102 g U (i := j) a o b p v ga (by omega) hj hR hC g9 gok r2
        simp only [L_X12_findTwo_79, vB_def]
        rw [T0 U r2, T9 U r2, if_pos (show inB 0 266 by decide), if_neg (nI_ge hj (by omega)), if_neg (f_le 24 rfl (by omega) (by omega)), v1, Option.bind_some, nI_1]
        refine ⟨V, rfl, ?_, v3⟩
        rw [v2, it_succ, Nat.zero_add, ← r1, g113, gmf])
      n FU 0 T (by omega) (FU_gt (by omega)) ⟨t2, t3⟩
    exact ⟨Z, st Z q1, q2, fin Z q3⟩
theorem Inv_m {k N : Nat} {h f : Hp} {q : Qp} (fm : ∀ i, i < 24 → mrow f i = mrow h i) (ff : ∀ k j, ¬ (115 ≤ k ∧ k ≤ 123) → ¬ (k = 111 ∧ (22 ≤ j ∧ j ≤ 25 ∨ j = 45 ∨ j = 46)) → f k j = h k j) (H : Inv k N h q) : Inv k N f q := by
  obtain ⟨h0, R, C, hT, hF, hR, hB, hS, hO, hL, hK, hP, hC⟩ := H
  obtain ⟨n, n1, n2, n3, n4, n5, n6⟩ := hB
  have f' : ∀ k j, ¬ (115 ≤ k ∧ k ≤ 123 ∨ k = 111 ∧ (22 ≤ j ∧ j ≤ 25 ∨ j = 45 ∨ j = 46)) → f k j = h k j := fun k j hk => ff k j (by omega) (by omega)
  refine ⟨h0, R, C, iT_keep (fun k j hk => f' k j (by omega)) hT, iF_keep (fun k j hk => f' k j (by omega)) hF, iR_keep (fun k j hk => f' k j (by omega)) hR, ?_, iS_keep (fun k j hk => f' k j (by omega)) hS, iO_keep (Nat.le_refl _) (fun k j hk => f' k j (by omega)) hO, iL_keep (fun k j hk => f' k j (by omega)) hL, iK_keep (Nat.le_refl _) (fun k j hk => f' k j (by omega)) hK, iP_keep (fun k j hk => f' k j (by omega)) hP, iC_keep (fun k j hk => f' k j (by omega)) hC⟩
  refine ⟨n, n1, n2, by rw [f' 7 3 (by omega)]; exact n3, by rw [f' 111 9 (by omega)]; exact n4, by rw [f' 7 4 (by omega), f' 111 18 (by omega)]; exact n5, fun i hi => ?_⟩
  rw [row_eq (fun j => f' 113 j (by omega)), fm i (by omega), crow_keep (h := h) (fun j => f' (10 + i) j (by omega))]
  exact n6 i hi
theorem two_core {k N : Nat} {h : Hp} {q : Qp} (H : Inv k N h q) (a o b p v : Int32) : ∃ g f s, f_X9_lookTwoAhead (asked (asked h N a o v) (N + 1) b p v) N (N + 1) = some g ∧ (g 35 7, g 35 8) = s ∧ f_X12_findTwo (u2 g 111 0 0) a o b p v = some f ∧ (f 111 45, f 111 46) = s ∧ twOk s ∧ Inv (k + 1) (N + 1 + 1) f q := by
  have hN : 137 ≤ N := H.1
  have Hg := Inv_asked (Inv_asked H a o v) b p v
  have A := asked_0 (asked h N a o v) (N + 1) b p v
  have A1 := asked_0 h N a o v
  rw [← asked_ne (asked h N a o v) b p v (show N ≠ N + 1 by omega)] at A1
  generalize asked (asked h N a o v) (N + 1) b p v = G at *
  have Hg' := Hg
  obtain ⟨_, R, C, hT, hF, hR, hB, hS, hO, hL, hK, hP, hC⟩ := Hg'
  obtain ⟨n, n1, n2, n3, n4, n5, n6⟩ := hB
  obtain ⟨g, g1, g2, g3⟩ := k_look G (A := N) (A' := N + 1) (K := G 113) (B := mrow G) (a := a) (m := a + o) (b := b) (l := b + p) (v := v) hN (by omega) n2 n3 hF.2.1 hF.2.2.2.1 hF.2.2.2.2.2.2.2.2.2.1 hF.2.2.2.2.2.2.2.2.2.2.1 (fun i hi => (n6 i hi).1) (fun i hi => (n6 i hi).2) A1.1 A1.2.1 A1.2.2 A.1 A.2.1 A.2.2
  have Hu := Inv_u0 (Nat.le_succ k) (Inv_keep (h' := g) (Nat.le_refl _) (Nat.le_refl _) (fun c j hf => by rw [g3 c (fun e => hf (by unfold free; omega))]) Hg)
  have um : ∀ i, mrow (u2 g 111 0 0) i = mrow G i := fun i => by rw [mrow_u0]; exact mrow_keep i (fun c j hc => by rw [g3 c (by omega)])
  have uK : u2 g 111 0 0 113 = G 113 := by rw [u0_ne _ _ (by decide), g3 113 (by omega)]
  obtain ⟨f, f1, f2, f3, f4⟩ := m_findTwo (u2 g 111 0 0) (n := n) (R := R) (C := C) a o b p v n2 hF.2.1 hF.2.2.2.1 (by rw [u0_j _ _ (by decide), g3 111 (by omega)]; exact n4) (fun i hi => by rw [um, uK]; exact (n6 i hi).2)
  rw [uK, show mrow (u2 g 111 0 0) = mrow G from funext um] at f2
  exact ⟨g, f, _, g1, g2, f1, f2, twoA_ok n2 (fun i hi => okQ_6 hF.2.1 hF.2.2.2.1 (n6 i hi).2), Inv_m f3 f4 Hu⟩
theorem s_two {k N : Nat} {h : Hp} {q : Qp} (H : Inv k N h q) (a o b p v : Int32) : ∃ u y h2, f_X11_two q N h a o b p v = some u ∧ 137 ≤ u.2.1 ∧ f_X12_two u.2.2.1 a o b p v = some (y, h2) ∧ u.1 = y ∧ Inv (k + 1) u.2.1 h2 u.2.2.2 := by
  have hN : 137 ≤ N := H.1
  have H' := Inv_u0 (Nat.le_succ k) H
  simp only [f_X11_two, f_X12_two, vB_def, k_isAsk, m_noAsk, Option.bind_some, asked_def]
  by_cases ca : askOk a o v
  · simp only [if_pos ca, show ¬ (1 : Int32) = 0 by decide, if_false, if_true]
    by_cases cb : askOk b p v
    · simp only [if_pos cb, show ¬ (1 : Int32) = 0 by decide, if_false, if_true]
      obtain ⟨g, f, s, g1, g2, f1, f2, hs, Hf⟩ := two_core H a o b p v
      have e1 : g 35 7 = s.1 := congrArg Prod.fst g2
      have e3 : f 111 45 = s.1 := congrArg Prod.fst f2
      have e4 : f 111 46 = s.2 := congrArg Prod.snd f2
      rw [g1, Option.bind_some, e1]
      rcases hs with ⟨s1, s2⟩ | ⟨s1, s2⟩
      · rw [if_pos (by rw [s2]; decide)]
        refine ⟨_, _, f, rfl, (by show 137 ≤ N + 1 + 1; omega), (by rw [f1, Option.bind_some, e4, if_pos s1]), rfl, Hf⟩
      · rw [if_neg (i_nle.mpr s2)]
        refine ⟨_, _, f, rfl, (by show 137 ≤ N + 1 + 1; omega), (by rw [f1, Option.bind_some, e4, if_neg s1]), e3.symm, Hf⟩
    · simp only [if_neg cb, if_true]
      exact ⟨_, _, _, rfl, hN, (by simp only [show ¬ (1 : Int32) = 0 by decide, if_false]), rfl, H'⟩
  · simp only [if_neg ca, if_true]
    exact ⟨_, _, _, rfl, hN, (by simp only [show ¬ (1 : Int32) = 0 by decide, if_false]), rfl, H'⟩
theorem s_twoFirst {k N : Nat} {h : Hp} {q : Qp} (H : Inv k N h q) (a o b p v : Int32) : ∃ u y h2, f_X11_twoFirst q N h a o b p v = some u ∧ 137 ≤ u.2.1 ∧ f_X12_twoFirst u.2.2.1 a o b p v = some (y, h2) ∧ u.1 = y ∧ Inv (k + 1) u.2.1 h2 u.2.2.2 := by
  have hN : 137 ≤ N := H.1
  have H' := Inv_u0 (Nat.le_succ k) H
  simp only [f_X11_twoFirst, f_X12_twoFirst, vB_def, k_isAsk, m_noAsk, Option.bind_some, asked_def]
  by_cases ca : askOk a o v
  · simp only [if_pos ca, show ¬ (1 : Int32) = 0 by decide, if_false, if_true]
    by_cases cb : askOk b p v
    · simp only [if_pos cb, show ¬ (1 : Int32) = 0 by decide, if_false, if_true]
      obtain ⟨g, f, s, g1, g2, f1, f2, hs, Hf⟩ := two_core H a o b p v
      have e2 : g 35 8 = s.2 := congrArg Prod.snd g2
      have e4 : f 111 46 = s.2 := congrArg Prod.snd f2
      rw [g1, Option.bind_some]
      exact ⟨_, _, f, rfl, (by show 137 ≤ N + 1 + 1; omega), (by rw [f1, Option.bind_some]), e2.trans e4.symm, Hf⟩
    · simp only [if_neg cb, if_true]
      exact ⟨_, _, _, rfl, hN, (by simp only [show ¬ (1 : Int32) = 0 by decide, if_false]), rfl, H'⟩
  · simp only [if_neg ca, if_true]
    exact ⟨_, _, _, rfl, hN, (by simp only [show ¬ (1 : Int32) = 0 by decide, if_false]), rfl, H'⟩
