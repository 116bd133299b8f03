/-! the cut that serves: the reference's side -/
def lp (T : Hp) (p : Pr) : Hp := u2 (u2 T 111 22 (pWt p)) 111 23 (p 5)
theorem lp_at (T : Hp) (p : Pr) {k j : Nat} (h : ¬ (k = 111 ∧ (j = 22 ∨ j = 23))) : lp T p k j = T k j := by
  unfold lp
  rw [u2_at, if_neg (by omega), u2_at, if_neg (by omega)]
theorem pt_6 (K : Nat → Int32) (x2 : Int32) (p : Pr) (x : Nat) (x4 : Int32) : pt K x2 p x x4 6 = p 6 := by
  unfold pt
  by_cases c : x4 = 0
  · rw [if_pos c]; rfl
  · rw [if_neg c]; rfl
theorem m_isPart (T : Hp) {i R C r c hh w x : Nat} {x2 : Int32} (x4 a o v : Int32) (hi : i < 24) (hR : R ≤ 6) (hC : C ≤ 6) (ok : okP (T 113) R C (mrow T i) r c hh w) (h6 : mrow T i 6 = 0) (hx : okX x2 hh w x) :
    f_X12_isPart T (nI i) x2 (nI x) x4 a o v = some (if srv (pt (T 113) x2 (mrow T i) x x4) a (a + o) v then 1 else 0, lp T (pt (T 113) x2 (mrow T i) x x4)) := by
  unfold f_X12_isPart
  rw [m_layPart T x4 hi hR hC ok hx, Option.bind_some]
  have p6 := pt_6 (T 113) x2 (mrow T i) x x4
  rw [h6] at p6
  generalize pt (T 113) x2 (mrow T i) x x4 = p at *
  have l22 : (u2 (u2 T 111 22 (pWt p)) 111 23 (p 5)) 111 22 = pWt p := by simp [u2_at]
  have l23 : (u2 (u2 T 111 22 (pWt p)) 111 23 (p 5)) 111 23 = p 5 := by simp [u2_at]
  rw [l22, l23, in_i, Option.bind_some]
  by_cases c1 : a ≤ pWt p ∧ pWt p ≤ a + o
  · rw [if_pos c1, if_neg (by decide)]
    by_cases c3 : v < p 5
    · rw [if_pos c3, if_neg (fun q : srv p a (a + o) v => absurd q.2.2 (i_nle.mpr c3))]; rfl
    · rw [if_neg c3, if_pos (show srv p a (a + o) v from ⟨p6, c1, i_nlt.mp c3⟩)]; rfl
  · rw [if_neg c1, if_pos rfl, if_neg (fun q : srv p a (a + o) v => c1 q.2.1)]; rfl
/-- all but what finding a cut writes -/
abbrev same4 (T h : Hp) : Prop := ∀ k j, ¬ (k = 111 ∧ (j = 22 ∨ j = 23 ∨ j = 24 ∨ j = 25)) → T k j = h k j
theorem same4_m {T h : Hp} (s : same4 T h) (i : Nat) : mrow T i = mrow h i := mrow_keep i (fun k j hk => s k j (by omega))
theorem same4_r {T h : Hp} (s : same4 T h) {k : Nat} (hk : k ≠ 111) : T k = h k := row_eq (fun j => s k j (by omega))
theorem m_fc81 (h : Hp) {i R C r c hh w d : Nat} {x2 : Int32} (a o v : Int32) (hi : i < 24) (hd : d = 0 ∧ x2 = 1 ∨ d = 1 ∧ x2 = 0) (hR : R ≤ 6) (hC : C ≤ 6) (ok : okP (h 113) R C (mrow h i) r c hh w) :
    ∃ h', L_X12_findCut_81 a o v (nI i) (nI d) x2 (nI (if x2 = 0 then hh else w)) FU 1 h = some h' ∧ (h' 111 24, h' 111 25) = it (cutF (h 113) (mrow h i) i a (a + o) v x2 d (if x2 = 0 then hh else w)) ((if x2 = 0 then w else hh) - 1) 1 (h 111 24, h 111 25) ∧ same4 h' h := by
  have l2 : 1 ≤ hh := ok.2.2.2.2.1
  have l3 : 1 ≤ w := ok.2.2.2.2.2.1
  have l0 : r + hh ≤ R := ok.2.2.2.2.2.2.1
  have l1 : c + w ≤ C := ok.2.2.2.2.2.2.2.1
  have hb : inB (nI i) 24 := inB_nI hi (by omega)
  by_cases z : h 119 i = 0
  · obtain ⟨L, hL⟩ : ∃ L, L = (if x2 = 0 then w else hh) := ⟨_, rfl⟩
    obtain ⟨E, hE⟩ : ∃ E, E = (if x2 = 0 then hh else w) := ⟨_, rfl⟩
    have L1 : 1 ≤ L ∧ L ≤ 6 := by rw [hL]; split <;> omega
    rw [← hL, ← hE]
    have tL : ∀ T, same4 T h → (if x2 = 0 then (if inB (nI i) 24 then some (T 118 (ix (nI i))) else none) else (if inB (nI i) 24 then some (T 117 (ix (nI i))) else none)) = some (nI L) := fun T hT => by
      rw [if_pos hb, if_pos hb, ix_nI (by omega), same4_r hT (show 118 ≠ 111 by decide), same4_r hT (show 117 ≠ 111 by decide), ite_some, show h 118 i = nI w from ok.2.2.2.1, show h 117 i = nI hh from ok.2.2.1, hL]
      by_cases c : x2 = 0
      · rw [if_pos c, if_pos c]
      · rw [if_neg c, if_neg c]
    obtain ⟨T', q1, q2, q3⟩ := lpE (fun N j T => L_X12_findCut_81 a o v (nI i) (nI d) x2 (nI E) N (nI j) T) L id
      (fun j T => (T 111 24, T 111 25) = it (cutF (h 113) (mrow h i) i a (a + o) v x2 d E) (j - 1) 1 (h 111 24, h 111 25) ∧ same4 T h ∧ 1 ≤ j)
      (fun N T hP => by
        simp only [L_X12_findCut_81]
        rw [tL T hP.2.1, if_pos hb, ix_nI (by omega), same4_r hP.2.1 (show 119 ≠ 111 by decide), if_pos z, Option.bind_some, if_pos (nI_le (Nat.le_refl _) (by omega))]
        rfl)
      (fun N j T hj hP => by
        obtain ⟨p1, p2, p3⟩ := hP
        have hx : okX x2 hh w j := ⟨p3, by rw [← hL]; exact hj⟩
        have mT := same4_m p2 i
        have kT := same4_r p2 (show 113 ≠ 111 by decide)
        have ip := m_isPart T (x2 := x2) (x := j) 0 a o v hi hR hC (by rw [mT, kT]; exact ok) (by rw [mT]; exact z) hx
        rw [mT, kT, show pt (h 113) x2 (mrow h i) j 0 = ah (h 113) x2 (mrow h i) j from if_pos rfl] at ip
        have s1 : same4 (lp T (ah (h 113) x2 (mrow h i) j)) h := fun k t hk => by rw [lp_at _ _ (by omega), p2 k t hk]
        have ip2 := m_isPart (lp T (ah (h 113) x2 (mrow h i) j)) (x2 := x2) (x := j) 1 a o v hi hR hC (by rw [same4_m s1, same4_r s1 (show 113 ≠ 111 by decide)]; exact ok) (by rw [same4_m s1]; exact z) hx
        rw [same4_m s1, same4_r s1 (show 113 ≠ 111 by decide), show pt (h 113) x2 (mrow h i) j 1 = bh (h 113) x2 (mrow h i) j from if_neg (by decide)] at ip2
        have e24 : ∀ (G : Hp) (p : Pr), lp G p 111 24 = G 111 24 := fun G p => lp_at _ _ (by omega)
        have e25 : ∀ (G : Hp) (p : Pr), lp G p 111 25 = G 111 25 := fun G p => lp_at _ _ (by omega)
        have js : it (cutF (h 113) (mrow h i) i a (a + o) v x2 d E) (j + 1 - 1) 1 (h 111 24, h 111 25) = cutF (h 113) (mrow h i) i a (a + o) v x2 d E j (T 111 24, T 111 25) := by
          rw [show j + 1 - 1 = j - 1 + 1 by omega, it_succ, ← p1, show 1 + (j - 1) = j by omega]
        simp only [L_X12_findCut_81, vB_def, vK]
        rw [tL T p2, if_pos hb, ix_nI (by omega), same4_r p2 (show 119 ≠ 111 by decide), if_pos z, Option.bind_some, if_neg (nI_ge hj (by omega)), ip, Option.bind_some, nI_1]
        simp only [e25]
        by_cases ce : T 111 25 ≤ nI E
        · refine ⟨_, ?_, ?_, s1, by omega⟩
          · rw [if_pos ce, Option.bind_some]
          · rw [js, e24, e25, cutF, if_neg (fun q => q.1 ce)]
        · simp only [if_neg ce, ip2, Option.bind_some]
          by_cases sa : srv (ah (h 113) x2 (mrow h i) j) a (a + o) v
          · refine ⟨u2 (u2 (lp T (ah (h 113) x2 (mrow h i) j)) 111 25 (nI E)) 111 24 (nI (1000 * i + 100 * d + 10 * j + 0)), ?_, ?_, ?_, by omega⟩
            · simp only [if_pos sa, show ¬ (1 : Int32) = 0 by decide, if_false, Option.bind_some, ← told_nI]
              rfl
            · rw [js, cutF, if_pos ⟨ce, Or.inl sa⟩, if_pos sa]
              simp [u2_at]
            · intro k t hk
              rw [u2_at, if_neg (by omega), u2_at, if_neg (by omega), s1 k t hk]
          · by_cases sb : srv (bh (h 113) x2 (mrow h i) j) a (a + o) v
            · refine ⟨u2 (u2 (lp (lp T (ah (h 113) x2 (mrow h i) j)) (bh (h 113) x2 (mrow h i) j)) 111 25 (nI E)) 111 24 (nI (1000 * i + 100 * d + 10 * j + 1)), ?_, ?_, ?_, by omega⟩
              · simp only [if_neg sa, if_pos sb, show ¬ (1 : Int32) = 0 by decide, if_false, if_true, Option.bind_some, ← told_nI]
                rfl
              · rw [js, cutF, if_pos ⟨ce, Or.inr sb⟩, if_neg sa]
                simp [u2_at]
              · intro k t hk
                rw [u2_at, if_neg (by omega), u2_at, if_neg (by omega), lp_at _ _ (by omega), s1 k t hk]
            · refine ⟨lp (lp T (ah (h 113) x2 (mrow h i) j)) (bh (h 113) x2 (mrow h i) j), ?_, ?_, ?_, by omega⟩
              · simp only [if_neg sa, if_neg sb, if_true, Option.bind_some]
              · rw [js, e24, e25, e24, e25, cutF, if_neg (fun q => q.2.elim sa sb)]
              · intro k t hk
                rw [lp_at _ _ (by omega), s1 k t hk])
      (L - 1) FU 1 h (by omega) (FU_gt (by omega)) ⟨rfl, fun k j _ => rfl, Nat.le_refl 1⟩
    exact ⟨T', q1, q2, q3.1⟩
  · refine ⟨h, ?_, ?_, fun k j _ => rfl⟩
    · obtain ⟨F, hF⟩ : ∃ F, FU = F + 1 := ⟨1999, rfl⟩
      rw [hF]
      simp only [L_X12_findCut_81]
      rw [if_pos hb, ix_nI (by omega), if_neg z]
    · rw [it_id]
      intro j s _ _
      rw [cutF, if_neg (fun q => q.2.elim (fun q => z q.1) (fun q => z q.1))]
theorem m_fc36 (h : Hp) {i R C : Nat} (a o v : Int32) (hi : i < 24) (hR : R ≤ 6) (hC : C ≤ 6) (ok : okQ (h 113) R C (mrow h i)) :
    ∃ h', L_X12_findCut_36 a o v (nI i) FU 0 h = some h' ∧ (h' 111 24, h' 111 25) = pieceF (h 113) a (a + o) v (mrow h) i (h 111 24, h 111 25) ∧ same4 h' h := by
  obtain ⟨r, c, hh, w, ok⟩ := ok
  have l0 : r + hh ≤ R := ok.2.2.2.2.2.2.1
  have l1 : c + w ≤ C := ok.2.2.2.2.2.2.2.1
  have hb : inB (nI i) 24 := inB_nI hi (by omega)
  obtain ⟨T, t1, t2, t3⟩ := m_fc81 h (d := 0) (x2 := 1) a o v hi (by decide) hR hC ok
  obtain ⟨U, v1, v2, v3⟩ := m_fc81 T (d := 1) (x2 := 0) a o v hi (by decide) hR hC (by rw [same4_m t3, same4_r t3 (show 113 ≠ 111 by decide)]; exact ok)
  rw [if_neg (show ¬ (1 : Int32) = 0 by decide), if_neg (show ¬ (1 : Int32) = 0 by decide)] at t2
  rw [if_neg (show ¬ (1 : Int32) = 0 by decide)] at t1
  rw [if_pos rfl, if_pos rfl, same4_m t3, same4_r t3 (show 113 ≠ 111 by decide), t2] at v2
  rw [if_pos rfl] at v1
  refine ⟨U, ?_, ?_, fun k j hk => by rw [v3 k j hk, t3 k j hk]⟩
  · obtain ⟨F, hF⟩ : ∃ F, FU = F + 1 + 1 + 1 := ⟨1997, rfl⟩
    rw [show L_X12_findCut_36 a o v (nI i) FU 0 h = L_X12_findCut_36 a o v (nI i) (F + 1 + 1 + 1) 0 h by rw [← hF]]
    simp only [L_X12_findCut_36, vB_def]
    rw [if_neg (by decide), if_pos trivial, Option.bind_some, if_neg (by decide), if_pos hb, Option.bind_some, ix_nI (by omega), show h 118 i = nI w from ok.2.2.2.1]
    rw [show L_X12_findCut_81 a o v (nI i) 0 1 (nI w) FU 1 h = some T from t1, Option.bind_some]
    rw [if_neg (by decide), if_neg (by decide), Option.bind_some, if_pos rfl, if_pos hb, Option.bind_some, same4_r t3 (show 117 ≠ 111 by decide), show h 117 i = nI hh from ok.2.2.1]
    rw [show L_X12_findCut_81 a o v (nI i) (0 + 1) 0 (nI hh) FU 1 T = some U from v1, Option.bind_some, if_pos (by decide)]
  · rw [v2, pieceF, show mrow h i 2 = nI hh from ok.2.2.1, show mrow h i 3 = nI w from ok.2.2.2.1, ix_nI (by omega), ix_nI (by omega)]
theorem m_findCut (h : Hp) {n R C : Nat} (a o v : Int32) (hn : n ≤ 24) (hR : R ≤ 6) (hC : C ≤ 6) (e : h 111 9 = nI n) (ok : ∀ i, i < n → okQ (h 113) R C (mrow h i)) :
    ∃ h', f_X12_findCut h a o v = some h' ∧ (h' 111 24, h' 111 25) = fcut (h 113) a (a + o) v (mrow h) n ∧ same4 h' h := by
  have s0 : same4 (u2 (u2 h 111 24 (-9)) 111 25 1000000) h := fun k j hk => by rw [u2_at, if_neg (by omega), u2_at, if_neg (by omega)]
  by_cases h24 : n = 24
  · refine ⟨_, ?_, ?_, s0⟩
    · simp only [f_X12_findCut, vB_def]
      obtain ⟨F, hF⟩ : ∃ F, FU = F + 1 := ⟨1999, rfl⟩
      rw [hF]
      simp only [L_X12_findCut_15]
      rw [s0 111 9 (by omega), e, h24, if_neg (by decide), if_pos (by decide)]
      rfl
    · rw [fcut, if_pos h24]
      simp [u2_at]
  obtain ⟨T', q1, q2, q3⟩ := lpE (fun N j T => L_X12_findCut_15 a o v N (nI j) T) n id
    (fun j T => (T 111 24, T 111 25) = it (pieceF (h 113) a (a + o) v (mrow h)) j 0 (-9, 1000000) ∧ same4 T h)
    (fun N T hP => by
      simp only [L_X12_findCut_15]
      rw [hP.2 111 9 (by omega), e, if_pos (nI_le (Nat.le_refl _) (by omega))]; rfl)
    (fun N j T hj hP => by
      obtain ⟨p1, p2⟩ := hP
      obtain ⟨U, v1, v2, v3⟩ := m_fc36 T (i := j) a o v (by omega) hR hC (by rw [same4_m p2, same4_r p2 (show 113 ≠ 111 by decide)]; exact ok j hj)
      simp only [L_X12_findCut_15, vB_def]
      rw [p2 111 9 (by omega), e, if_neg (nI_ge hj (by omega)), if_neg (f_le 24 rfl (by omega) (by omega)), v1, Option.bind_some, nI_1]
      refine ⟨U, rfl, ?_, fun k t hk => by rw [v3 k t hk, p2 k t hk]⟩
      rw [v2, it_succ, Nat.zero_add, ← p1, same4_r p2 (show 113 ≠ 111 by decide), show mrow T = mrow h from funext (same4_m p2)])
    n FU 0 (u2 (u2 h 111 24 (-9)) 111 25 1000000) (by omega) (FU_gt (by omega)) ⟨by simp [u2_at, it], s0⟩
  refine ⟨T', ?_, ?_, q3⟩
  · simp only [f_X12_findCut, vB_def]
    rw [show L_X12_findCut_15 a o v FU 0 _ = some T' from q1]
    rfl
  · rw [fcut, if_neg h24]
    exact q2
