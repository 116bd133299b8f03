/-! a cut on the reference's side -/
def pt (K : Nat → Int32) (x2 : Int32) (p : Pr) (x : Nat) (x4 : Int32) : Pr := if x4 = 0 then ah K x2 p x else bh K x2 p x
def dr4 (h : Hp) (i s : Nat) : Int32 := h 122 (4 * i + s)
theorem m_driedAhead (h : Hp) {i s x hh w : Nat} {x2 : Int32} (hi : i < 24) (hs : s < 4) (e2 : h 117 i = nI hh) (e3 : h 118 i = nI w) (l2 : 1 ≤ hh) (l3 : 1 ≤ w) (b2 : hh ≤ 6) (b3 : w ≤ 6) : f_X12_driedAhead h (nI i) (nI s) x2 (nI x) = some (shr (dr4 h i s) (nI x) (if x2 = 0 then nI w else nI hh)) := by
  have hb : inB (nI i) 24 := inB_nI hi (by omega)
  simp only [f_X12_driedAhead, ix4, if_pos (inB_nI (show 4 * i + s < 96 by omega) (by omega)), if_pos hb, ix_nI (show i < 2147483648 by omega), ix_nI (show 4 * i + s < 2147483648 by omega), ite_some, Option.bind_some, e2, e3]
  by_cases q : x2 = 0
  · simp only [if_pos q, if_neg (nI_ne0 l3 (show w < 2 ^ 31 by omega)), shr, if_neg (nI_nle l3 (show w < 2 ^ 31 by omega)), dr4]
  · simp only [if_neg q, if_neg (nI_ne0 l2 (show hh < 2 ^ 31 by omega)), shr, if_neg (nI_nle l2 (show hh < 2 ^ 31 by omega)), dr4]
theorem m_offAhead (h : Hp) {i R C r c hh w x : Nat} {x2 : Int32} (hi : i < 24) (hR : R ≤ 6) (hC : C ≤ 6) (ok : okP (h 113) R C (mrow h i) r c hh w) (hx : okX x2 hh w x) : f_X12_offAhead h (nI i) x2 (nI x) = some (ah (h 113) x2 (mrow h i) x 8) := by
  have hb : inB (nI i) 24 := inB_nI hi (by omega)
  have oa := ah_ok hR hC ok hx
  obtain ⟨e0, e1, e2, e3, l2, l3, l0, l1, e4, e5, e7⟩ := ok
  obtain ⟨x1, xl⟩ := hx
  obtain ⟨i0, i1, i2, i3, m2, m3, m0, m1, i4, i5, i7⟩ := oa
  have j0 : h 115 i = nI r := e0
  have j1 : h 116 i = nI c := e1
  have j2 : h 117 i = nI hh := e2
  have j3 : h 118 i = nI w := e3
  have wl := wtB_le (h 113) (r := r) (c := c) (hh := hh) (w := w) (by omega) (by omega)
  have fin : ∀ A : Int32, (if nI (wtB (h 113) r c hh w) = 0 then some (0 : Int32) else if nI (wtB (h 113) r c hh w) = 0 then none else some (h 121 i * A / nI (wtB (h 113) r c hh w))) = some (shr (h 121 i) A (mrow h i 4)) := fun A => by
    rw [e4]
    unfold shr
    by_cases q : wtB (h 113) r c hh w = 0
    · rw [if_pos (by rw [q]; rfl), if_pos (by rw [q]; decide)]
    · rw [if_neg (nI_ne0 (by omega) (by omega)), if_neg (nI_ne0 (by omega) (by omega)), if_neg (nI_nle (by omega) (by omega))]
  simp only [f_X12_offAhead, if_pos hb, ix_nI (show i < 2147483648 by omega), j0, j1, j2, j3, m_weightOf h (show r + hh ≤ 6 by omega) (show c + w ≤ 6 by omega), Option.bind_some, vB_def]
  by_cases q : x2 = 0
  · simp only [if_pos q] at xl i4 m0 m1
    simp only [if_pos q, m_weightOf h (show r + hh ≤ 6 by omega) (show c + x ≤ 6 by omega), Option.bind_some]
    rw [fin]
    show _ = some (shr (h 121 i) (ah4 (h 113) x2 (mrow h i) x) (mrow h i 4))
    rw [show ah4 (h 113) x2 (mrow h i) x = _ from i4]
  · simp only [if_neg q] at xl i4 m0 m1
    simp only [if_neg q, m_weightOf h (show r + x ≤ 6 by omega) (show c + w ≤ 6 by omega), Option.bind_some]
    rw [fin]
    show _ = some (shr (h 121 i) (ah4 (h 113) x2 (mrow h i) x) (mrow h i 4))
    rw [show ah4 (h 113) x2 (mrow h i) x = _ from i4]
theorem m_layLoop (h : Hp) {i x hh w f : Nat} {x2 x4 : Int32} (hi : i < 24) (hf : f + 1 < 4) (e2 : h 117 i = nI hh) (e3 : h 118 i = nI w) (l2 : 1 ≤ hh) (l3 : 1 ≤ w) (b2 : hh ≤ 6) (b3 : w ≤ 6) (a : Int32) :
    L_X12_layPart_163 h (nI i) x2 (nI x) x4 (nI f) FU a (nI f) = some (a + (if x4 = 0 then shr (dr4 h i f) (nI x) (if x2 = 0 then nI w else nI hh) else dr4 h i f - shr (dr4 h i f) (nI x) (if x2 = 0 then nI w else nI hh)) + (if x4 = 0 then shr (dr4 h i (f + 1)) (nI x) (if x2 = 0 then nI w else nI hh) else dr4 h i (f + 1) - shr (dr4 h i (f + 1)) (nI x) (if x2 = 0 then nI w else nI hh))) := by
  have key := lpU (fun n j a => L_X12_layPart_163 h (nI i) x2 (nI x) x4 (nI f) n a (nI j)) (fun s a => a + (if x4 = 0 then shr (dr4 h i s) (nI x) (if x2 = 0 then nI w else nI hh) else dr4 h i s - shr (dr4 h i s) (nI x) (if x2 = 0 then nI w else nI hh))) (f + 2) id (fun _ _ => True)
    (fun n a _ => by
      simp only [L_X12_layPart_163]
      rw [show nI f + (2 : Int32) = nI (f + 2) from nI_add f 2, if_pos (nI_le (Nat.le_refl _) (by omega))]; rfl)
    (fun n j a hj _ => ⟨by
      simp only [L_X12_layPart_163, vB_def]
      rw [show nI f + (2 : Int32) = nI (f + 2) from nI_add f 2, if_neg (nI_ge hj (by omega)), m_driedAhead h hi (by omega) e2 e3 l2 l3 b2 b3, Option.bind_some, nI_1, ix4, if_pos (inB_nI (show 4 * i + j < 96 by omega) (by omega)), ix_nI (by omega), ite_some, Option.bind_some]
      rfl, trivial⟩)
    2 FU f a rfl (FU_gt (by omega)) trivial
  exact key.1
theorem m_layPart (h : Hp) {i R C r c hh w x : Nat} {x2 : Int32} (x4 : Int32) (hi : i < 24) (hR : R ≤ 6) (hC : C ≤ 6) (ok : okP (h 113) R C (mrow h i) r c hh w) (hx : okX x2 hh w x) :
    f_X12_layPart h (nI i) x2 (nI x) x4 = some (u2 (u2 h 111 22 (pWt (pt (h 113) x2 (mrow h i) x x4))) 111 23 (pt (h 113) x2 (mrow h i) x x4 5)) := by
  have hb : inB (nI i) 24 := inB_nI hi (by omega)
  have oA := m_offAhead h hi hR hC ok hx
  have oa := ah_ok hR hC ok hx
  have ob := bh_ok hR hC ok hx
  obtain ⟨e0, e1, e2, e3, l2, l3, l0, l1, e4, e5, e7⟩ := ok
  obtain ⟨x1, xl⟩ := hx
  have j0 : h 115 i = nI r := e0
  have j1 : h 116 i = nI c := e1
  have j2 : h 117 i = nI hh := e2
  have j3 : h 118 i = nI w := e3
  have bs : ∀ s, s < 4 → inB (nI (4 * i + s)) 96 := fun s hs => inB_nI (by omega) (by omega)
  have l0' := fun a => m_layLoop h (i := i) (x := x) (x2 := x2) (x4 := x4) (f := 0) hi (by omega) j2 j3 l2 l3 (by omega) (by omega) a
  have l2' := fun a => m_layLoop h (i := i) (x := x) (x2 := x2) (x4 := x4) (f := 2) hi (by omega) j2 j3 l2 l3 (by omega) (by omega) a
  have cn : ∀ v, u2 h 111 22 v 113 = h 113 := fun v => u2_ne _ _ _ (by decide)
  have I0 : ∀ s : Nat, s < 4 → ix (nI (4 * i + s)) = 4 * i + s := fun s hs => ix_nI (by omega)
  by_cases q : x2 = 0
  · by_cases q4 : x4 = 0
    · simp only [if_pos q] at xl oa
      obtain ⟨i0, i1, i2, i3, m2, m3, m0, m1, i4, i5, i7⟩ := oa
      have wo := m_weightOf h (r := r) (c := c) (hh := hh) (w := x) (by omega) (by omega)
      have co := fun v => m_countOf (u2 h 111 22 v) 1 (r := r) (c := c) (hh := hh) (w := x) (by omega) (by omega)
      simp only [cn] at co
      simp only [if_pos q, if_pos q4] at l0'
      simp only [f_X12_layPart, if_pos hb, if_pos q, if_pos q4, Option.bind_some, vB_def, ix_nI (show i < 2147483648 by omega), j0, j1, j2, j3, m_more, oA]
      rw [show (4 : Int32) * nI i + 2 = nI (4 * i + 2) from ix4 i 2, if_pos (bs 2 (by omega)), I0 2 (by omega)]
      rw [show L_X12_layPart_163 h (nI i) x2 (nI x) x4 0 FU (h 122 (4 * i + 2)) 0 = _ from l0' (h 122 (4 * i + 2)), Option.bind_some]
      simp only [Int32.add_zero]
      simp only [wo, co, Option.bind_some]
      have hp : pt (h 113) x2 (mrow h i) x x4 = ah (h 113) x2 (mrow h i) x := if_pos q4
      rw [hp, i5, pWt, i4]
      have hd : h 122 (4 * i + 2) + shr (h 122 (4 * i)) (nI x) (nI w) + shr (h 122 (4 * i + 1)) (nI x) (nI w) = pDry (ah (h 113) x2 (mrow h i) x) := by
        unfold pDry
        simp only [ah, if_pos q, e2, e3]
        show _ = shr (h 122 (4 * i)) (nI x) (nI w) + shr (h 122 (4 * i + 1)) (nI x) (nI w) + h 122 (4 * i + 2) + 0
        grind
      rw [← hd]
      rfl
    · simp only [if_pos q] at xl ob
      obtain ⟨i0, i1, i2, i3, m2, m3, m0, m1, i4, i5, i7⟩ := ob
      have wo := m_weightOf h (r := r) (c := c + x) (hh := hh) (w := w - x) (by omega) (by omega)
      have co := fun v => m_countOf (u2 h 111 22 v) 1 (r := r) (c := c + x) (hh := hh) (w := w - x) (by omega) (by omega)
      simp only [cn] at co
      simp only [if_pos q, if_neg q4] at l0'
      simp only [f_X12_layPart, if_pos hb, if_pos q, if_neg q4, Option.bind_some, vB_def, ix_nI (show i < 2147483648 by omega), j0, j1, j2, j3, m_more, oA]
      rw [show (4 : Int32) * nI i + 3 = nI (4 * i + 3) from ix4 i 3, if_pos (bs 3 (by omega)), I0 3 (by omega)]
      rw [show L_X12_layPart_163 h (nI i) x2 (nI x) x4 0 FU (h 122 (4 * i + 3)) 0 = _ from l0' (h 122 (4 * i + 3)), Option.bind_some]
      simp only [Int32.add_zero]
      simp only [nI_add]
      rw [nI_sub (show x ≤ w by omega)]
      simp only [wo, co, Option.bind_some]
      have hp : pt (h 113) x2 (mrow h i) x x4 = bh (h 113) x2 (mrow h i) x := if_neg q4
      rw [hp, i5, pWt, i4]
      have hd : h 122 (4 * i + 3) + (h 122 (4 * i) - shr (h 122 (4 * i)) (nI x) (nI w)) + (h 122 (4 * i + 1) - shr (h 122 (4 * i + 1)) (nI x) (nI w)) = pDry (bh (h 113) x2 (mrow h i) x) := by
        unfold pDry
        simp only [bh, if_pos q, e2, e3]
        show _ = (h 122 (4 * i) - shr (h 122 (4 * i)) (nI x) (nI w)) + (h 122 (4 * i + 1) - shr (h 122 (4 * i + 1)) (nI x) (nI w)) + 0 + h 122 (4 * i + 3)
        grind
      rw [← hd]
      rfl
  · by_cases q4 : x4 = 0
    · simp only [if_neg q] at xl oa
      obtain ⟨i0, i1, i2, i3, m2, m3, m0, m1, i4, i5, i7⟩ := oa
      have wo := m_weightOf h (r := r) (c := c) (hh := x) (w := w) (by omega) (by omega)
      have co := fun v => m_countOf (u2 h 111 22 v) 1 (r := r) (c := c) (hh := x) (w := w) (by omega) (by omega)
      simp only [cn] at co
      simp only [if_neg q, if_pos q4] at l2'
      simp only [f_X12_layPart, if_pos hb, if_neg q, if_pos q4, Option.bind_some, vB_def, ix_nI (show i < 2147483648 by omega), j0, j1, j2, j3, m_more, oA]
      rw [show (4 : Int32) * nI i + 0 = nI (4 * i + 0) from ix4 i 0, if_pos (bs 0 (by omega)), I0 0 (by omega)]
      rw [show L_X12_layPart_163 h (nI i) x2 (nI x) x4 2 FU (h 122 (4 * i + 0)) 2 = _ from l2' (h 122 (4 * i + 0)), Option.bind_some]
      simp only [Int32.add_zero]
      simp only [wo, co, Option.bind_some]
      have hp : pt (h 113) x2 (mrow h i) x x4 = ah (h 113) x2 (mrow h i) x := if_pos q4
      rw [hp, i5, pWt, i4]
      have hd : h 122 (4 * i) + shr (h 122 (4 * i + 2)) (nI x) (nI hh) + shr (h 122 (4 * i + 3)) (nI x) (nI hh) = pDry (ah (h 113) x2 (mrow h i) x) := by
        unfold pDry
        simp only [ah, if_neg q, e2, e3]
        show _ = h 122 (4 * i) + 0 + shr (h 122 (4 * i + 2)) (nI x) (nI hh) + shr (h 122 (4 * i + 3)) (nI x) (nI hh)
        grind
      rw [← hd]
      rfl
    · simp only [if_neg q] at xl ob
      obtain ⟨i0, i1, i2, i3, m2, m3, m0, m1, i4, i5, i7⟩ := ob
      have wo := m_weightOf h (r := r + x) (c := c) (hh := hh - x) (w := w) (by omega) (by omega)
      have co := fun v => m_countOf (u2 h 111 22 v) 1 (r := r + x) (c := c) (hh := hh - x) (w := w) (by omega) (by omega)
      simp only [cn] at co
      simp only [if_neg q, if_neg q4] at l2'
      simp only [f_X12_layPart, if_pos hb, if_neg q, if_neg q4, Option.bind_some, vB_def, ix_nI (show i < 2147483648 by omega), j0, j1, j2, j3, m_more, oA]
      rw [show (4 : Int32) * nI i + 1 = nI (4 * i + 1) from ix4 i 1, if_pos (bs 1 (by omega)), I0 1 (by omega)]
      rw [show L_X12_layPart_163 h (nI i) x2 (nI x) x4 2 FU (h 122 (4 * i + 1)) 2 = _ from l2' (h 122 (4 * i + 1)), Option.bind_some]
      simp only [Int32.add_zero, nI_add]
      rw [nI_sub (show x ≤ hh by omega)]
      simp only [wo, co, Option.bind_some]
      have hp : pt (h 113) x2 (mrow h i) x x4 = bh (h 113) x2 (mrow h i) x := if_neg q4
      rw [hp, i5, pWt, i4]
      have hd : h 122 (4 * i + 1) + (h 122 (4 * i + 2) - shr (h 122 (4 * i + 2)) (nI x) (nI hh)) + (h 122 (4 * i + 3) - shr (h 122 (4 * i + 3)) (nI x) (nI hh)) = pDry (bh (h 113) x2 (mrow h i) x) := by
        unfold pDry
        simp only [bh, if_neg q, e2, e3]
        show _ = 0 + h 122 (4 * i + 1) + (h 122 (4 * i + 2) - shr (h 122 (4 * i + 2)) (nI x) (nI hh)) + (h 122 (4 * i + 3) - shr (h 122 (4 * i + 3)) (nI x) (nI hh))
        grind
      rw [← hd]
      rfl
