/-! the order: all wires of the reference -/
abbrev VW (Dv : Nat → Nat → Nat → Nat → Nat → Nat) (S : Nat) (T : Hp) (hh w r c : Nat) : Prop := ∀ s, s < S → T 131 (16 * bk r c hh w + s) = nI (Dv r c hh w s)
def cv1 (Dv : Nat → Nat → Nat → Nat → Nat → Nat) (r c hh w s x : Nat) : Nat := mins (gO (Dv r c x w) (Dv (r + x) c (hh - x) w) s w) (s + 1) 0
def cv2 (Dv : Nat → Nat → Nat → Nat → Nat → Nat) (r c hh w s x : Nat) : Nat := mins (gO (Dv r c hh x) (Dv r (c + x) hh (w - x)) s hh) (s + 1) 0
def bwZ (Dv : Nat → Nat → Nat → Nat → Nat → Nat) (r c hh w s : Nat) : Nat × Int32 := it (fun x z => cutZ (cv2 Dv r c hh w s x) (100 * nI 1 + nI x) z) (w - 1) 1 (it (fun x z => cutZ (cv1 Dv r c hh w s x) (100 * nI 0 + nI x) z) (hh - 1) 1 (FAR, -9))
theorem cutZ_it (v : Nat → Nat) (code : Nat → Int32) {F : Nat} : ∀ d j (z : Nat × Int32), (it (fun x z => cutZ (v x) (code x) z) d j z).1 = it (fun x b => min b (v x)) d j z.1
  | 0, _, _ => rfl
  | d + 1, j, z => by
    simp only [it]
    rw [cutZ_it (F := F) v code d (j + 1)]
    rfl
theorem bwZ_1 (Dv : Nat → Nat → Nat → Nat → Nat → Nat) (r c hh w s : Nat) : (bwZ Dv r c hh w s).1 = mG Dv (fun x => x) r c hh w s := by
  unfold bwZ
  rw [cutZ_it (F := 0), cutZ_it (F := 0), it_mins (cv1 Dv r c hh w s) _ _ _ (Nat.le_refl _), Nat.min_eq_right (mins_le _ _ _), it_mins (cv2 Dv r c hh w s) _ _ _ (mins_le _ _ _)]
  rfl
theorem m_bw22 (T : Hp) {Dv : Nat → Nat → Nat → Nat → Nat → Nat} {R C r c hh w s S d : Nat} {z : Nat × Int32} (hR : R ≤ 6) (hC : C ≤ 6) (b : blkIn R C r c hh w) (hs : s < S) (hS : S ≤ 16) (hd : d = 0 ∨ d = 1) (hD : ∀ r c hh w s, blkIn R C r c hh w → Dv r c hh w s ≤ FAR)
    (V1 : ∀ x, 1 ≤ x → x < hh → VW Dv S T x w r c ∧ VW Dv S T (hh - x) w (r + x) c) (V2 : ∀ x, 1 ≤ x → x < w → VW Dv S T hh x r c ∧ VW Dv S T hh (w - x) r (c + x)) (hz : z.1 ≤ FAR) (ez : T 111 34 = z.2) :
    ∃ T', L_X12_bestWire_22 (nI r) (nI c) (nI hh) (nI w) (nI s) (nI d) FU (nI z.1) 1 T = some (nI (it (fun x z => cutZ (if d = 0 then cv1 Dv r c hh w s x else cv2 Dv r c hh w s x) (100 * nI d + nI x) z) ((if d = 0 then hh else w) - 1) 1 z).1, T') ∧ T' 111 34 = (it (fun x z => cutZ (if d = 0 then cv1 Dv r c hh w s x else cv2 Dv r c hh w s x) (100 * nI d + nI x) z) ((if d = 0 then hh else w) - 1) 1 z).2 ∧ s34 T' T ∧ (it (fun x z => cutZ (if d = 0 then cv1 Dv r c hh w s x else cv2 Dv r c hh w s x) (100 * nI d + nI x) z) ((if d = 0 then hh else w) - 1) 1 z).1 ≤ FAR := by
  obtain ⟨L, hL⟩ : ∃ L, L = (if d = 0 then hh else w) := ⟨_, rfl⟩
  have L1 : 1 ≤ L ∧ L ≤ 6 := by rw [hL]; split <;> omega
  rw [← hL]
  have tL : (if nI d = 0 then (some (nI hh) : Option Int32) else some (nI w)) = some (nI L) := by
    rw [hL]
    rcases hd with rfl | rfl <;> rfl
  obtain ⟨⟨b', T'⟩, q1, ⟨y, q2, q3, q4, q5, q6⟩, q7⟩ := lpE (fun N j (st : Int32 × Hp) => L_X12_bestWire_22 (nI r) (nI c) (nI hh) (nI w) (nI s) (nI d) N st.1 (nI j) st.2) L id
    (fun j st => (∃ y : Nat × Int32, y.1 ≤ FAR ∧ st.1 = nI y.1 ∧ st.2 111 34 = y.2 ∧ s34 st.2 T ∧ y = it (fun x z => cutZ (if d = 0 then cv1 Dv r c hh w s x else cv2 Dv r c hh w s x) (100 * nI d + nI x) z) (j - 1) 1 z) ∧ 1 ≤ j)
    (fun N st _ => by simp only [L_X12_bestWire_22, tL, Option.bind_some]; rw [if_pos (nI_le (Nat.le_refl _) (by omega))]; rfl)
    (fun N j st hj hP => by
      obtain ⟨c0, U⟩ := st
      obtain ⟨⟨y, y1, y2, y3, y4, y5⟩, j1⟩ := hP
      simp only at y2 y3 y4
      have js : it (fun x z => cutZ (if d = 0 then cv1 Dv r c hh w s x else cv2 Dv r c hh w s x) (100 * nI d + nI x) z) (j + 1 - 1) 1 z = cutZ (if d = 0 then cv1 Dv r c hh w s j else cv2 Dv r c hh w s j) (100 * nI d + nI j) y := by
        rw [show j + 1 - 1 = j - 1 + 1 by omega, it_succ, ← y5, show 1 + (j - 1) = j by omega]
      simp only [L_X12_bestWire_22, vB_def, tL, Option.bind_some, y2]
      rw [if_neg (nI_ge hj (by omega)), js]
      rcases hd with rfl | rfl
      · rw [if_pos rfl] at hL
        have xh : j < hh := by omega
        have b1 : blkIn R C r c j w := by omega
        have b2 : blkIn R C (r + j) c (hh - j) w := by omega
        obtain ⟨U', u1, u2', u3⟩ := m_bw106 U (A := Dv r c j w) (B := Dv (r + j) c (hh - j) w) (hh := hh) (w := w) (s := s) (d := 0) (x := j) (a := bk r c j w) (b := bk (r + j) c (hh - j) w) (z := y) (by omega) (Or.inl rfl) (by rw [if_pos rfl]; omega) (bk_lt hR hC b1) (bk_lt hR hC b2)
          (fun p hp => ⟨by rw [y4 131 _ (by omega)]; exact (V1 j j1 xh).1 p (by omega), hD _ _ _ _ _ b1⟩) (fun p hp => ⟨by rw [y4 131 _ (by omega)]; exact (V1 j j1 xh).2 p (by omega), hD _ _ _ _ _ b2⟩) y1 y3
        rw [if_pos rfl] at u1 u2'
        rw [if_pos (show nI 0 = 0 from rfl), if_pos (show nI 0 = 0 from rfl), m_block (by omega) (by omega), Option.bind_some, Option.bind_some, nI_add, nI_sub (by omega), m_block (by omega) (by omega), Option.bind_some, Option.bind_some, u1, Option.bind_some, nI_1]
        refine ⟨(_, U'), rfl, ⟨_, cutZ_le _ _ y1, rfl, u2', fun k t hk => (u3 k t hk).trans (y4 k t hk), ?_⟩, by omega⟩
        rw [if_pos rfl]
        rfl
      · rw [if_neg (by decide)] at hL
        have xh : j < w := by omega
        have b1 : blkIn R C r c hh j := by omega
        have b2 : blkIn R C r (c + j) hh (w - j) := by omega
        obtain ⟨U', u1, u2', u3⟩ := m_bw106 U (A := Dv r c hh j) (B := Dv r (c + j) hh (w - j)) (hh := hh) (w := w) (s := s) (d := 1) (x := j) (a := bk r c hh j) (b := bk r (c + j) hh (w - j)) (z := y) (by omega) (Or.inr rfl) (by rw [if_neg (by decide)]; omega) (bk_lt hR hC b1) (bk_lt hR hC b2)
          (fun p hp => ⟨by rw [y4 131 _ (by omega)]; exact (V2 j j1 xh).1 p (by omega), hD _ _ _ _ _ b1⟩) (fun p hp => ⟨by rw [y4 131 _ (by omega)]; exact (V2 j j1 xh).2 p (by omega), hD _ _ _ _ _ b2⟩) y1 y3
        rw [if_neg (by decide)] at u1 u2'
        rw [if_neg (show ¬ nI 1 = (0 : Int32) by decide), if_neg (show ¬ nI 1 = (0 : Int32) by decide), m_block (by omega) (by omega), Option.bind_some, Option.bind_some, nI_add, nI_sub (by omega), m_block (by omega) (by omega), Option.bind_some, Option.bind_some, u1, Option.bind_some, nI_1]
        refine ⟨(_, U'), rfl, ⟨_, cutZ_le _ _ y1, rfl, u2', fun k t hk => (u3 k t hk).trans (y4 k t hk), ?_⟩, by omega⟩
        rw [if_neg (by decide)]
        rfl)
    (L - 1) FU 1 (nI z.1, T) (by omega) (FU_gt (by omega)) ⟨⟨z, hz, rfl, ez, fun k j _ => rfl, rfl⟩, Nat.le_refl 1⟩
  simp only at q3 q4 q5
  rw [q3] at q1
  rw [← q6]
  exact ⟨T', q1, q4, q5, q2⟩
theorem m_bestWire (T : Hp) {Dv : Nat → Nat → Nat → Nat → Nat → Nat} {R C r c hh w s S : Nat} (hR : R ≤ 6) (hC : C ≤ 6) (b : blkIn R C r c hh w) (hs : s < S) (hS : S ≤ 16) (hD : ∀ r c hh w s, blkIn R C r c hh w → Dv r c hh w s ≤ FAR)
    (V1 : ∀ x, 1 ≤ x → x < hh → VW Dv S T x w r c ∧ VW Dv S T (hh - x) w (r + x) c) (V2 : ∀ x, 1 ≤ x → x < w → VW Dv S T hh x r c ∧ VW Dv S T hh (w - x) r (c + x)) :
    ∃ T', f_X12_bestWire T (nI r) (nI c) (nI hh) (nI w) (nI s) = some (nI (bwZ Dv r c hh w s).1, T') ∧ T' 111 34 = (bwZ Dv r c hh w s).2 ∧ s34 T' T := by
  have v : ∀ (U : Hp) (hh w r c : Nat), (∀ k j, ¬ (k = 111 ∧ j = 34) → U k j = T k j) → VW Dv S T hh w r c → VW Dv S U hh w r c := fun U hh w r c hU hV p hp => by rw [hU 131 _ (by omega)]; exact hV p hp
  have s0 : s34 (u2 T 111 34 (-9)) T := fun k j hk => by rw [u2_at, if_neg hk]
  obtain ⟨U, u1, u2', u3, u4⟩ := m_bw22 (u2 T 111 34 (-9)) (Dv := Dv) (R := R) (C := C) (r := r) (c := c) (hh := hh) (w := w) (s := s) (S := S) (d := 0) (z := (FAR, -9)) hR hC b hs hS (Or.inl rfl) hD (fun x x1 x2 => ⟨v _ _ _ _ _ s0 (V1 x x1 x2).1, v _ _ _ _ _ s0 (V1 x x1 x2).2⟩) (fun x x1 x2 => ⟨v _ _ _ _ _ s0 (V2 x x1 x2).1, v _ _ _ _ _ s0 (V2 x x1 x2).2⟩) (Nat.le_refl _) (by rw [u2_at, if_pos ⟨rfl, rfl⟩])
  have s1 : s34 U T := fun k j hk => (u3 k j hk).trans (s0 k j hk)
  obtain ⟨W, w1, w2, w3, w4⟩ := m_bw22 U (Dv := Dv) (R := R) (C := C) (r := r) (c := c) (hh := hh) (w := w) (s := s) (S := S) (d := 1) (z := it (fun x z => cutZ (if 0 = 0 then cv1 Dv r c hh w s x else cv2 Dv r c hh w s x) (100 * nI 0 + nI x) z) ((if 0 = 0 then hh else w) - 1) 1 (FAR, -9)) hR hC b hs hS (Or.inr rfl) hD (fun x x1 x2 => ⟨v _ _ _ _ _ s1 (V1 x x1 x2).1, v _ _ _ _ _ s1 (V1 x x1 x2).2⟩) (fun x x1 x2 => ⟨v _ _ _ _ _ s1 (V2 x x1 x2).1, v _ _ _ _ _ s1 (V2 x x1 x2).2⟩) u4 u2'
  refine ⟨W, ?_, ?_, fun k j hk => (w3 k j hk).trans (s1 k j hk)⟩
  · obtain ⟨F, hF⟩ : ∃ F, FU = F + 1 + 1 + 1 := ⟨1997, rfl⟩
    have step : ∀ (N : Nat) (x6 : Int32) (d : Nat) (h6 : Hp), d < 2 → L_X12_bestWire_13 (nI r) (nI c) (nI hh) (nI w) (nI s) (N + 1) x6 (nI d) h6 = (L_X12_bestWire_22 (nI r) (nI c) (nI hh) (nI w) (nI s) (nI d) FU x6 1 h6).bind fun t => L_X12_bestWire_13 (nI r) (nI c) (nI hh) (nI w) (nI s) N t.1 (nI (d + 1)) t.2 := fun N x6 d h6 hd => by
      rw [L_X12_bestWire_13, if_neg (f_le 2 rfl (by omega) (by omega)), vB_def, ← nI_1]
      rfl
    have stop : ∀ (N : Nat) (x6 : Int32) (h6 : Hp), L_X12_bestWire_13 (nI r) (nI c) (nI hh) (nI w) (nI s) (N + 1) x6 (nI 2) h6 = some (x6, h6) := fun N x6 h6 => by
      rw [L_X12_bestWire_13, if_pos (by decide)]
    unfold f_X12_bestWire
    rw [vB_def, vB_def, vB_def]
    rw [show L_X12_bestWire_13 (nI r) (nI c) (nI hh) (nI w) (nI s) FU 1000000 0 (u2 T 111 34 (-9)) = L_X12_bestWire_13 (nI r) (nI c) (nI hh) (nI w) (nI s) (F + 1 + 1 + 1) (nI FAR) (nI 0) (u2 T 111 34 (-9)) by rw [← hF]; rfl]
    rw [step _ _ 0 _ (by omega), u1, Option.bind_some]
    rw [step _ _ 1 _ (by omega), w1, Option.bind_some, stop, Option.bind_some]
    rfl
  · rw [w2]
    rfl
def oneI (s : Nat) : Int32 := if s = 1 then 0 else if s = 2 then 1 else if s = 4 then 2 else if s = 8 then 3 else -9
theorem one_nI : ∀ s, s < 16 → (if nI s = (1 : Int32) then (some 0 : Option Int32) else if nI s = (2 : Int32) then some 1 else if nI s = (4 : Int32) then some 2 else if nI s = (8 : Int32) then some 3 else some (-9)) = some (oneI s) := by decide +kernel
theorem one_k {ft : Nat → Nat → Nat → Nat → Nat → Bool} {r c hh w s : Nat} (hs : s < 16) : (oneI s = -9 ∧ ¬ fitc ft r c hh w s) ∨ (∃ k, k < 4 ∧ oneI s = nI k ∧ (fitc ft r c hh w s ↔ ft k r c hh w = true)) := by
  unfold oneI
  by_cases c1 : s = 1
  · subst c1
    exact Or.inr ⟨0, by omega, rfl, ⟨fun q => by rcases q with q | q | q | q; exact q.2; exact absurd q.1 (by decide); exact absurd q.1 (by decide); exact absurd q.1 (by decide), fun q => Or.inl ⟨rfl, q⟩⟩⟩
  by_cases c2 : s = 2
  · subst c2
    exact Or.inr ⟨1, by omega, rfl, ⟨fun q => by rcases q with q | q | q | q; exact absurd q.1 (by decide); exact q.2; exact absurd q.1 (by decide); exact absurd q.1 (by decide), fun q => Or.inr (Or.inl ⟨rfl, q⟩)⟩⟩
  by_cases c4 : s = 4
  · subst c4
    exact Or.inr ⟨2, by omega, rfl, ⟨fun q => by rcases q with q | q | q | q; exact absurd q.1 (by decide); exact absurd q.1 (by decide); exact q.2; exact absurd q.1 (by decide), fun q => Or.inr (Or.inr (Or.inl ⟨rfl, q⟩))⟩⟩
  by_cases c8 : s = 8
  · subst c8
    exact Or.inr ⟨3, by omega, rfl, ⟨fun q => by rcases q with q | q | q | q; exact absurd q.1 (by decide); exact absurd q.1 (by decide); exact absurd q.1 (by decide); exact q.2, fun q => Or.inr (Or.inr (Or.inr ⟨rfl, q⟩))⟩⟩
  rw [if_neg c1, if_neg c2, if_neg c4, if_neg c8]
  exact Or.inl ⟨rfl, fun q => by rcases q with q | q | q | q; exact c1 q.1; exact c2 q.1; exact c4 q.1; exact c8 q.1⟩
