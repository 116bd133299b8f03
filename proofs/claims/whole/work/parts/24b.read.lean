/-! rounds: read -/
def rsI (v : Nat) : Int32 := if v = 0 then 0 else if v = 1 then -1 else 1000000
abbrev stp (X : BX) (r c hh w i v : Nat) : Nat := if v = 2 then 2 else if lNev (bxT X) (bxB X) (bxL X) (bxG X) r c hh w i then 2 else if lMus (bxT X) (bxB X) (bxL X) (bxG X) r c hh w i then 1 else v
theorem stp_2 (X : BX) (r c hh w : Nat) : ∀ d j, it (fun i v => stp X r c hh w i v) d j 2 = 2
  | 0, _ => rfl
  | d + 1, j => by
    simp only [it]
    rw [show stp X r c hh w j 2 = 2 from if_pos rfl]
    exact stp_2 X r c hh w d (j + 1)
theorem k_vd17 (h : Hp) {m r c hh w : Nat} (X : BX) (h1 : r + hh < 10) (h2 : c + w < 10) (m6 : m ≤ 6) (e : h 47 7 = nI m) (hX : ∀ i, i < m → (X i).1 + (X i).2.2.1 < 10 ∧ (X i).2.1 + (X i).2.2.2 < 10 ∧ h 49 i = nI (X i).1 ∧ h 50 i = nI ((X i).1 + (X i).2.2.1) ∧ h 51 i = nI (X i).2.1 ∧ h 52 i = nI ((X i).2.1 + (X i).2.2.2)) :
    ∀ d N j v, j + d = m → d < N → v ≤ 1 → L_X5_verdict_17 h (nI r) (nI c) (nI (r + hh)) (nI (c + w)) (fun t => some t) N (rsI v) (nI j) = some (rsI (it (fun i v => stp X r c hh w i v) d j v))
  | 0, N, j, v, hj, hN, hv => by
    obtain ⟨N, rfl⟩ : ∃ q, N = q + 1 := ⟨N - 1, by omega⟩
    rw [L_X5_verdict_17, e, if_pos (nI_le (by omega) (by omega))]
    rfl
  | d + 1, N, j, v, hj, hN, hv => by
    obtain ⟨N, rfl⟩ : ∃ q, N = q + 1 := ⟨N - 1, by omega⟩
    obtain ⟨x1, x2, x3, x4, x5, x6⟩ := hX j (by omega)
    have hb : inB (nI j) 6 := inB_nI (by omega) (by omega)
    have ih := fun v' hv' => k_vd17 h X h1 h2 m6 e hX d N (j + 1) v' (by omega) (by omega) hv'
    have nv := nevX X r c hh w j
    have ms := musX X r c hh w j
    rw [show it (fun i v => stp X r c hh w i v) (d + 1) j v = it (fun i v => stp X r c hh w i v) d (j + 1) (stp X r c hh w j v) from rfl]
    rw [L_X5_verdict_17, e, if_neg (nI_ge (show j < m by omega) (by omega)), k_isApart h (show j < 6 by omega) h1 h2 x1 x2 x3 x4 x5 x6, Option.bind_some]
    simp only [vK, vB_def, if_pos hb, ix_nI (show j < 2147483648 by omega), x3, x4, x5, x6, nI_1]
    have v2 : ¬ v = 2 := by omega
    have nev : lNev (bxT X) (bxB X) (bxL X) (bxG X) r c hh w j → (some (1000000 : Int32) : Option Int32) = some (rsI (it (fun i v => stp X r c hh w i v) d (j + 1) (stp X r c hh w j v))) := fun q => by
      rw [show stp X r c hh w j v = 2 by unfold stp; rw [if_neg v2, if_pos q], stp_2]
      rfl
    have mus : ¬ lNev (bxT X) (bxB X) (bxL X) (bxG X) r c hh w j → lMus (bxT X) (bxB X) (bxL X) (bxG X) r c hh w j → L_X5_verdict_17 h (nI r) (nI c) (nI (r + hh)) (nI (c + w)) (fun t => some t) N (-1) (nI (j + 1)) = some (rsI (it (fun i v => stp X r c hh w i v) d (j + 1) (stp X r c hh w j v))) := fun q1 q2 => by
      rw [show stp X r c hh w j v = 1 by unfold stp; rw [if_neg v2, if_neg q1, if_pos q2]]
      exact ih 1 (Nat.le_refl 1)
    have keep : ¬ lNev (bxT X) (bxB X) (bxL X) (bxG X) r c hh w j → ¬ lMus (bxT X) (bxB X) (bxL X) (bxG X) r c hh w j → L_X5_verdict_17 h (nI r) (nI c) (nI (r + hh)) (nI (c + w)) (fun t => some t) N (rsI v) (nI (j + 1)) = some (rsI (it (fun i v => stp X r c hh w i v) d (j + 1) (stp X r c hh w j v))) := fun q1 q2 => by
      rw [show stp X r c hh w j v = v by unfold stp; rw [if_neg v2, if_neg q1, if_neg q2]]
      exact ih v hv
    by_cases s : mtB r c hh w (X j).1 (X j).2.1 (X j).2.2.1 (X j).2.2.2
    · rw [if_pos s, if_pos rfl]
      by_cases a1 : (X j).1 < r
      · rw [if_pos ((nI_ltI (by omega) (by omega)).mpr a1)]
        exact nev (nv.mpr ⟨s, by omega⟩)
      rw [if_neg (fun z => a1 ((nI_ltI (by omega) (by omega)).mp z))]
      by_cases a2 : r + hh < (X j).1 + (X j).2.2.1
      · rw [if_pos ((nI_ltI (by omega) (by omega)).mpr a2)]
        exact nev (nv.mpr ⟨s, by omega⟩)
      rw [if_neg (fun z => a2 ((nI_ltI (by omega) (by omega)).mp z))]
      by_cases a3 : (X j).2.1 < c
      · rw [if_pos ((nI_ltI (by omega) (by omega)).mpr a3)]
        exact nev (nv.mpr ⟨s, by omega⟩)
      rw [if_neg (fun z => a3 ((nI_ltI (by omega) (by omega)).mp z))]
      by_cases a4 : (X j).2.1 + (X j).2.2.2 ≤ c + w
      · rw [if_pos (nI_le a4 (by omega))]
        have nn : ¬ lNev (bxT X) (bxB X) (bxL X) (bxG X) r c hh w j := fun z => by
          have := (nv.mp z).2
          omega
        by_cases b1 : r < (X j).1
        · rw [if_pos ((nI_ltI (by omega) (by omega)).mpr b1)]
          exact mus nn (ms.mpr ⟨s, by omega⟩)
        rw [if_neg (fun z => b1 ((nI_ltI (by omega) (by omega)).mp z))]
        by_cases b2 : (X j).1 + (X j).2.2.1 < r + hh
        · rw [if_pos ((nI_ltI (by omega) (by omega)).mpr b2)]
          exact mus nn (ms.mpr ⟨s, by omega⟩)
        rw [if_neg (fun z => b2 ((nI_ltI (by omega) (by omega)).mp z))]
        by_cases b3 : c < (X j).2.1
        · rw [if_pos ((nI_ltI (by omega) (by omega)).mpr b3)]
          exact mus nn (ms.mpr ⟨s, by omega⟩)
        rw [if_neg (fun z => b3 ((nI_ltI (by omega) (by omega)).mp z))]
        by_cases b4 : c + w ≤ (X j).2.1 + (X j).2.2.2
        · rw [if_pos (nI_le b4 (by omega))]
          exact keep nn (fun z => by
            have := (ms.mp z).2
            omega)
        · rw [if_neg (nI_ge (by omega) (by omega))]
          exact mus nn (ms.mpr ⟨s, by omega⟩)
      · rw [if_neg (nI_ge (by omega) (by omega))]
        exact nev (nv.mpr ⟨s, by omega⟩)
    · rw [if_neg s, if_neg (by decide)]
      exact keep (fun z => s (nv.mp z).1) (fun z => s (ms.mp z).1)
theorem k_vdL (h : Hp) {R C m r c hh w : Nat} (X : BX) (hR : R ≤ 6) (hC : C ≤ 6) (b : blkIn R C r c hh w) (m6 : m ≤ 6) (e : h 47 7 = nI m) (hX : ∀ i, i < m → (X i).1 + (X i).2.2.1 < 10 ∧ (X i).2.1 + (X i).2.2.2 < 10 ∧ h 49 i = nI (X i).1 ∧ h 50 i = nI ((X i).1 + (X i).2.2.1) ∧ h 51 i = nI (X i).2.1 ∧ h 52 i = nI ((X i).2.1 + (X i).2.2.2)) : vdk_L h (D0 (DV (fun _ => 1) (vX X m))) r c hh w 0 := by
  have k := k_vd17 h X (show r + hh < 10 by omega) (show c + w < 10 by omega) m6 e hX m FU 0 0 (by omega) (FU_gt (by omega)) (by omega)
  have dr := DV_rec (fun _ => 1) (vX X m) (r := r) (c := c) (hh := hh) (w := w) (by omega) (by omega)
  have l2 := (vdL_spec (bxT X) (bxB X) (bxL X) (bxG X) m r c hh w).2.2
  have ev : it (fun i v => stp X r c hh w i v) m 0 0 = vX X m r c hh w := rfl
  rw [ev] at k
  have fv : f_X5_verdict h (nI r) (nI c) (nI hh) (nI w) (nI 0) = some (rsI (vX X m r c hh w)) := by
    rw [f_X5_verdict, vB_def, vB_def, vB_def, vB_def, nI_add, nI_add]
    exact k
  unfold vdk_L
  rw [fv]
  refine ⟨_, rfl, ?_⟩
  rw [show D0 (DV (fun _ => 1) (vX X m)) r c hh w 0 = DV (fun _ => 1) (vX X m) r c hh w from rfl]
  rcases (show vX X m r c hh w = 0 ∨ vX X m r c hh w = 1 ∨ vX X m r c hh w = 2 by unfold vX at *; omega) with z | z | z
  · rw [z, if_pos rfl] at dr
    rw [z, dr]
    exact Or.inr ⟨by decide, rfl⟩
  · rw [z, if_neg (by decide), if_pos rfl] at dr
    rw [z]
    exact Or.inl ⟨rfl, dr⟩
  · rw [z, if_neg (by decide), if_neg (by decide)] at dr
    rw [z, dr]
    exact Or.inr ⟨by decide, rfl⟩
-- the reference
theorem tdB_inj {r c hh w r' c' hh' w' : Nat} (h1 : r + hh < 10) (h2 : c + w < 10) (h3 : r' + hh' < 10) (h4 : c' + w' < 10) (e : tdB r c hh w = tdB r' c' hh' w') : r = r' ∧ c = c' ∧ hh = hh' ∧ w = w' := by
  unfold tdB at e
  have e1 : w = w' := by omega
  subst e1
  have e2 : hh = hh' := by omega
  subst e2
  have e3 : c = c' := by omega
  subst e3
  exact ⟨by omega, rfl, rfl, rfl⟩
theorem m_rd77 (h : Hp) {m r c hh w : Nat} (X : BX) (h1 : r + hh < 10) (h2 : c + w < 10) (m6 : m ≤ 6) (e : h 111 35 = nI m) (hX : ∀ i, i < m → (X i).1 + (X i).2.2.1 < 10 ∧ (X i).2.1 + (X i).2.2.2 < 10 ∧ h 133 i = nI (tdB (X i).1 (X i).2.1 (X i).2.2.1 (X i).2.2.2)) : L_X12_read_77 h (nI (tdB r c hh w)) FU 1 0 = some (if isMX X m r c hh w = true then 1 else 0) := by
  have td : tdB r c hh w < 100000 := by unfold tdB; omega
  obtain ⟨y, q1, q2, q3⟩ := lpE (fun N j (y : Int32) => L_X12_read_77 h (nI (tdB r c hh w)) N y (nI j)) m id
    (fun j y => (y = 0 ∨ y = 1) ∧ (y = 1 ↔ ∀ i, i < j → mtX X r c hh w i → eqX X r c hh w i))
    (fun N y _ => by rw [L_X12_read_77, e, if_pos (nI_le (Nat.le_refl m) (by omega))]; rfl)
    (fun N j y hj hP => by
      obtain ⟨p1, p2⟩ := hP
      obtain ⟨x1, x2, x3⟩ := hX j hj
      have tx : tdB (X j).1 (X j).2.1 (X j).2.2.1 (X j).2.2.2 < 100000 := by unfold tdB; omega
      have hb : inB (nI j) 6 := inB_nI (by omega) (by omega)
      rw [L_X12_read_77, e, if_neg (nI_ge hj (by omega)), if_pos hb, ix_nI (by omega), x3, m_meets h1 h2 x1 x2, Option.bind_some]
      simp only [vK, vB_def, if_pos hb, nI_1]
      rcases p1 with y0 | y1
      · refine ⟨0, by rw [if_pos y0, Option.bind_some], Or.inl rfl, ⟨fun z => absurd z (by decide), fun z => ?_⟩⟩
        have : y = 1 := p2.mpr (fun i hi => z i (by omega))
        rw [y0] at this
        exact absurd this (by decide)
      · have all := p2.mp y1
        rw [if_neg (by rw [y1]; decide)]
        by_cases s : mtX X r c hh w j
        · rw [if_pos s, if_neg (by decide)]
          by_cases t : tdB r c hh w = tdB (X j).1 (X j).2.1 (X j).2.2.1 (X j).2.2.2
          · refine ⟨1, by rw [if_pos (by rw [t]), Option.bind_some], Or.inr rfl, ⟨fun _ i hi hm => ?_, fun _ => rfl⟩⟩
            by_cases ei : i = j
            · subst ei; exact tdB_inj h1 h2 x1 x2 t
            · exact all i (by omega) hm
          · refine ⟨0, by rw [if_neg (fun z => t ((nI_eq (by omega) (by omega)).mp z)), Option.bind_some], Or.inl rfl, ⟨fun z => absurd z (by decide), fun z => ?_⟩⟩
            obtain ⟨a, b, c', d⟩ := z j (by omega) s
            exact absurd (by rw [← a, ← b, ← c', ← d]) t
        · rw [if_neg s, if_pos rfl]
          refine ⟨1, by rw [Option.bind_some], Or.inr rfl, ⟨fun _ i hi hm => ?_, fun _ => rfl⟩⟩
          by_cases ei : i = j
          · subst ei; exact absurd hm s
          · exact all i (by omega) hm)
    m FU 0 1 (by omega) (FU_gt (by omega)) ⟨Or.inr rfl, ⟨fun _ i hi => absurd hi (by omega), fun _ => rfl⟩⟩
  rw [show L_X12_read_77 h (nI (tdB r c hh w)) FU 1 0 = some y from q1]
  unfold isMX
  by_cases c0 : ∀ i, i < m → mtX X r c hh w i → eqX X r c hh w i
  · rw [if_pos (decide_eq_true c0), q3.mpr c0]
  · rw [if_neg (fun z => c0 (of_decide_eq_true z))]
    rcases q2 with z | z
    · rw [z]
    · exact absurd (q3.mp z) c0
theorem m_go100 (h : Hp) {m ra ca ha wa rb cb hb' wb : Nat} (X : BX) (a1 : ra + ha < 10) (a2 : ca + wa < 10) (b1 : rb + hb' < 10) (b2 : cb + wb < 10) (m6 : m ≤ 6) (e : h 111 35 = nI m) (hX : ∀ i, i < m → (X i).1 + (X i).2.2.1 < 10 ∧ (X i).2.1 + (X i).2.2.2 < 10 ∧ h 133 i = nI (tdB (X i).1 (X i).2.1 (X i).2.2.1 (X i).2.2.2)) : L_X12_goesThrough_100 h (nI (tdB ra ca ha wa)) (nI (tdB rb cb hb' wb)) FU 0 0 = some (if ∀ i, i < m → ¬ (mtX X ra ca ha wa i ∧ mtX X rb cb hb' wb i) then 0 else 1) := by
  obtain ⟨y, q1, q2, q3⟩ := lpE (fun N j (y : Int32) => L_X12_goesThrough_100 h (nI (tdB ra ca ha wa)) (nI (tdB rb cb hb' wb)) N y (nI j)) m id
    (fun j y => (y = 0 ∨ y = 1) ∧ (y = 0 ↔ ∀ i, i < j → ¬ (mtX X ra ca ha wa i ∧ mtX X rb cb hb' wb i)))
    (fun N y _ => by rw [L_X12_goesThrough_100, e, if_pos (nI_le (Nat.le_refl m) (by omega))]; rfl)
    (fun N j y hj hP => by
      obtain ⟨p1, p2⟩ := hP
      obtain ⟨x1, x2, x3⟩ := hX j hj
      have hb : inB (nI j) 6 := inB_nI (by omega) (by omega)
      rw [L_X12_goesThrough_100, e, if_neg (nI_ge hj (by omega)), if_pos hb, ix_nI (by omega), x3, m_meets a1 a2 x1 x2, Option.bind_some]
      simp only [vB_def, if_pos hb, nI_1, m_meets b1 b2 x1 x2, Option.bind_some]
      rcases p1 with y0 | y1
      · have all := p2.mp y0
        rw [if_pos y0]
        by_cases s : mtX X ra ca ha wa j
        · rw [if_pos s, if_neg (by decide)]
          by_cases t : mtX X rb cb hb' wb j
          · refine ⟨1, by rw [if_pos t, if_neg (by decide), Option.bind_some], Or.inr rfl, ⟨fun z => absurd z (by decide), fun z => absurd ⟨s, t⟩ (z j (by omega))⟩⟩
          · refine ⟨0, by rw [if_neg t, if_pos rfl, Option.bind_some], Or.inl rfl, ⟨fun _ i hi hm => ?_, fun _ => rfl⟩⟩
            by_cases ei : i = j
            · subst ei; exact t hm.2
            · exact all i (by omega) hm
        · rw [if_neg s, if_pos rfl]
          refine ⟨0, by rw [Option.bind_some], Or.inl rfl, ⟨fun _ i hi hm => ?_, fun _ => rfl⟩⟩
          by_cases ei : i = j
          · subst ei; exact s hm.1
          · exact all i (by omega) hm
      · refine ⟨1, by rw [if_neg (by rw [y1]; decide), Option.bind_some], Or.inr rfl, ⟨fun z => absurd z (by decide), fun z => ?_⟩⟩
        have : y = 0 := p2.mpr (fun i hi => z i (by omega))
        rw [y1] at this
        exact absurd this (by decide))
    m FU 0 0 (by omega) (FU_gt (by omega)) ⟨Or.inl rfl, ⟨fun _ i hi => absurd hi (by omega), fun _ => rfl⟩⟩
  rw [show L_X12_goesThrough_100 h (nI (tdB ra ca ha wa)) (nI (tdB rb cb hb' wb)) FU 0 0 = some y from q1]
  by_cases c0 : ∀ i, i < m → ¬ (mtX X ra ca ha wa i ∧ mtX X rb cb hb' wb i)
  · rw [if_pos c0, q3.mpr c0]
  · rw [if_neg c0]
    rcases q2 with z | z
    · exact absurd (q3.mp z) c0
    · rw [z]
theorem td_nI (r c hh w : Nat) : 1000 * nI r + 100 * nI c + 10 * nI hh + nI w = nI (tdB r c hh w) := by
  rw [show (1000 : Int32) = nI 1000 from rfl, show (100 : Int32) = nI 100 from rfl, show (10 : Int32) = nI 10 from rfl, nI_mul, nI_mul, nI_mul, nI_add, nI_add, nI_add, tdB_eq]
theorem m_may (h : Hp) {R C m r c hh w d x : Nat} (X : BX) (hR : R ≤ 6) (hC : C ≤ 6) (b : blkIn R C r c hh w) (hd : d = 0 ∨ d = 1) (x1 : 1 ≤ x) (x2 : x < (if d = 0 then hh else w)) (m6 : m ≤ 6) (e : h 111 35 = nI m) (hX : ∀ i, i < m → (X i).1 + (X i).2.2.1 < 10 ∧ (X i).2.1 + (X i).2.2.2 < 10 ∧ h 133 i = nI (tdB (X i).1 (X i).2.1 (X i).2.2.1 (X i).2.2.2)) :
    ((if nI d = 0 then (some 1 : Option Int32) else some 0)).bind (fun t_22 => (f_X12_goesThrough h (nI r) (nI c) (nI hh) (nI w) t_22 (nI x)).bind fun u_23 => (if u_23 = 0 then (some 1 : Option Int32) else some 0)) = some (if mayX X m r c hh w d x = true then 1 else 0) := by
  have fin : ∀ P : Prop, [Decidable P] → ((if ((if P then (0 : Int32) else 1) = 0 ∨ (if P then (0 : Int32) else 1) = 1) then some (if P then (0 : Int32) else 1) else none).bind fun u_23 => (if u_23 = 0 then (some 1 : Option Int32) else some 0)) = some (if decide P = true then 1 else 0) := fun P _ => by
    by_cases p : P
    · rw [if_pos p, if_pos (Or.inl rfl), Option.bind_some, if_pos rfl, if_pos (decide_eq_true p)]
    · rw [if_neg p, if_pos (Or.inr rfl), Option.bind_some, if_neg (by decide), if_neg (fun z => p (of_decide_eq_true z))]
  rcases hd with rfl | rfl
  · rw [if_pos rfl] at x2
    have g := m_go100 h (ra := r) (ca := c) (ha := x) (wa := w) (rb := r + x) (cb := c) (hb' := hh - x) (wb := w) X (by omega) (by omega) (by omega) (by omega) m6 e hX
    rw [if_pos (show nI 0 = 0 from rfl), Option.bind_some, f_X12_goesThrough, if_neg (by decide), Option.bind_some, vB_def, if_neg (by decide), Option.bind_some, vB_def, vB_def, vB_def, ← Int32.add_assoc, td_nI, nI_add, nI_sub (by omega), td_nI, g, Option.bind_some, fin]
    rfl
  · rw [if_neg (by decide)] at x2
    have g := m_go100 h (ra := r) (ca := c) (ha := hh) (wa := x) (rb := r) (cb := c + x) (hb' := hh) (wb := w - x) X (by omega) (by omega) (by omega) (by omega) m6 e hX
    have bw : 1000 * nI r + 100 * (nI c + nI x) + 10 * nI hh + nI w - nI x = nI (tdB r (c + x) hh (w - x)) := by
      rw [nI_add, td_nI, nI_sub (by unfold tdB; omega)]
      congr 1
      unfold tdB
      omega
    rw [if_neg (show ¬ nI 1 = (0 : Int32) by decide), Option.bind_some, f_X12_goesThrough, if_pos rfl, Option.bind_some, vB_def, if_pos rfl, Option.bind_some, vB_def, vB_def, vB_def, ← Int32.add_assoc, td_nI, bw, g, Option.bind_some, fin]
    rfl
theorem m_readDP (g : Hp) {R C m : Nat} (X : BX) (hR : R ≤ 6) (hC : C ≤ 6) (m6 : m ≤ 6) (e4 : g 111 4 = nI R) (e5 : g 111 5 = nI C) (e35 : g 111 35 = nI m) (hX : ∀ i, i < m → (X i).1 + (X i).2.2.1 < 10 ∧ (X i).2.1 + (X i).2.2.2 < 10 ∧ g 133 i = nI (tdB (X i).1 (X i).2.1 (X i).2.2.1 (X i).2.2.2)) :
    ∃ h', L_X12_read_7 FU 1 g = some h' ∧ (∀ hh w r c, blkIn R C r c hh w → h' 132 (bk r c hh w) = nI (DM (fun _ => 1) (isMX X m) (mayX X m) r c hh w)) ∧ ∀ k, k ≠ 132 → h' k = g k := by
  obtain ⟨D, hDe⟩ : ∃ D, D = DM (fun _ => 1) (isMX X m) (mayX X m) := ⟨_, rfl⟩
  have hD : ∀ r c hh w, blkIn R C r c hh w → D r c hh w ≤ FAR := fun r c hh w b => by rw [hDe]; exact DM_le _ _ _ (by omega) (by omega)
  rw [← hDe]
  obtain ⟨h', q1, q2, q3⟩ := nest4 hR hC (fun T hh w r c => T 132 (bk r c hh w) = nI (D r c hh w)) (fun T => ∀ k, k ≠ 132 → T k = g k)
    (fun N hh T => L_X12_read_7 N (nI hh) T) (fun hh N w T => L_X12_read_17 (nI hh) N (nI w) T) (fun hh w N r T => L_X12_read_27 (nI hh) (nI w) N (nI r) T) (fun hh w r N c T => L_X12_read_40 (nI hh) (nI w) (nI r) N (nI c) T)
    (fun N T hT => by simp only [L_X12_read_7]; rw [hT 111 (by omega), e4, if_pos (nI_lt (by omega) (by omega))])
    (fun N hh T h1 hT => by simp only [L_X12_read_7, vB_def]; rw [hT 111 (by omega), e4, if_neg (nI_nlt h1 (by omega)), nI_1]; rfl)
    (fun hh N T hT => by simp only [L_X12_read_17]; rw [hT 111 (by omega), e5, if_pos (nI_lt (by omega) (by omega))])
    (fun hh N w T h1 hT => by simp only [L_X12_read_17, vB_def]; rw [hT 111 (by omega), e5, if_neg (nI_nlt h1 (by omega)), nI_1]; rfl)
    (fun hh w N T h1 h2 hT => by simp only [L_X12_read_27]; rw [hT 111 (by omega), e4, nI_add, if_pos (nI_lt (by omega) (by omega))])
    (fun hh w N r T h1 hT => by simp only [L_X12_read_27, vB_def]; rw [hT 111 (by omega), e4, nI_add, if_neg (nI_nlt (by omega) (by omega)), nI_1]; rfl)
    (fun hh w r N T h1 h2 hT => by simp only [L_X12_read_40]; rw [hT 111 (by omega), e5, nI_add, if_pos (nI_lt (by omega) (by omega))])
    (fun hh w r N c T b zq => by
      have lt := bk_lt hR hC b
      have f5 : T 111 5 = nI C := by rw [zq.2 111 (by omega)]; exact e5
      have f35 : T 111 35 = nI m := by rw [zq.2 111 (by omega)]; exact e35
      have tX : ∀ i, i < m → (X i).1 + (X i).2.2.1 < 10 ∧ (X i).2.1 + (X i).2.2.2 < 10 ∧ T 133 i = nI (tdB (X i).1 (X i).2.1 (X i).2.2.1 (X i).2.2.2) := fun i hi => by rw [zq.2 133 (by omega)]; exact hX i hi
      have bo := m_bestOf T (D := D) (R := R) (C := C) (r := r) (c := c) (hh := hh) (w := w) 0 1 (fun _ => 1) (mayX X m r c hh w) hR hC b hD
        (fun x x1 x2 => ⟨zq.1 _ _ _ _ (by omega) (by omega), zq.1 _ _ _ _ (by omega) (by omega)⟩) (fun x x1 x2 => ⟨zq.1 _ _ _ _ (by omega) (by omega), zq.1 _ _ _ _ (by omega) (by omega)⟩)
        (fun y hy => by omega) (fun d hd => rfl) (fun d x hd x1 x2 => by rw [if_neg (by decide)]; exact m_may T X hR hC b hd x1 x2 m6 f35 tX)
      have dr := DM_rec (fun _ => 1) (isMX X m) (mayX X m) (r := r) (c := c) (hh := hh) (w := w) (by omega) (by omega)
      rw [← hDe] at dr
      have r77 := m_rd77 T (r := r) (c := c) (hh := hh) (w := w) X (by omega) (by omega) m6 f35 tX
      have val : (if (if isMX X m r c hh w = true then (1 : Int32) else 0) = 0 then (f_X12_bestOf T (nI r) (nI c) (nI hh) (nI w) 0 1).bind (fun u_32 => some u_32) else some 0) = some (nI (D r c hh w)) := by
        by_cases c1 : isMX X m r c hh w = true
        · rw [if_pos c1, if_neg (by decide), dr, if_pos c1]
          rfl
        · rw [if_neg c1, if_pos rfl, bo, Option.bind_some, dr, if_neg c1]
      simp only [L_X12_read_40, vB_def, f5]
      rw [nI_add, if_neg (nI_nlt (by omega) (by omega)), td_nI, r77, Option.bind_some, m_block (by omega) (by omega), Option.bind_some, val, Option.bind_some, if_pos (inB_nI lt (by omega)), ix_nI (by omega), nI_1]
      refine ⟨_, rfl, ?_, ?_, ?_⟩
      · intro k hk
        rw [u2_ne _ _ _ hk, zq.2 k hk]
      · rw [u2_at, if_pos ⟨rfl, rfl⟩]
      · intro hh' w' r' c' b' ne hV
        have nb : bk r' c' hh' w' ≠ bk r c hh w := fun z => ne (bk_inj hR hC b' b z)
        rw [u2_at, if_neg (fun z => nb z.2)]
        exact hV)
    g (fun k _ => rfl)
  exact ⟨h', q1, q2, q3⟩
theorem s_read {k N : Nat} {h : Hp} {q : Qp} (H : Inv k N h q) : ∃ a h1 b h2, f_X11_read h = some (a, h1) ∧ f_X12_read h1 = some (b, h2) ∧ a = b ∧ Inv (k + 1) N h2 q := by
  have H0 := H
  obtain ⟨h0, R, C, hT, hF, hR, hB, hS, hO, hL, hK, hP, hC⟩ := H
  obtain ⟨R1, R2, C1, C2, f1, f2, f3, f4, f5, f6, f7, f8⟩ := id hF
  obtain ⟨m, m1, m2, m3, m4, m5⟩ := id hL
  obtain ⟨X, hX⟩ := iL_X R2 C2 m4
  have lt := bk_lt R2 C2 (show blkIn R C 0 0 R C by omega)
  have hXa : ∀ i, i < m → (X i).1 + (X i).2.2.1 < 10 ∧ (X i).2.1 + (X i).2.2.2 < 10 ∧ h 49 i = nI (X i).1 ∧ h 50 i = nI ((X i).1 + (X i).2.2.1) ∧ h 51 i = nI (X i).2.1 ∧ h 52 i = nI ((X i).2.1 + (X i).2.2.2) := fun i hi => ⟨by have := (hX i hi).1; omega, by have := (hX i hi).1; omega, (hX i hi).2.1, (hX i hi).2.2.1, (hX i hi).2.2.2.1, (hX i hi).2.2.2.2.1⟩
  have hXb : ∀ i, i < m → (X i).1 + (X i).2.2.1 < 10 ∧ (X i).2.1 + (X i).2.2.2 < 10 ∧ h 133 i = nI (tdB (X i).1 (X i).2.1 (X i).2.2.1 (X i).2.2.2) := fun i hi => ⟨(hXa i hi).1, (hXa i hi).2.1, (hX i hi).2.2.2.2.2⟩
  have vE : vdL (ixr (h 49)) (ixr (h 50)) (ixr (h 51)) (ixr (h 52)) m = vX X m := by
    funext r c hh w
    refine vdL_congr (fun i hi => ?_)
    obtain ⟨a1, a2, a3, a4, a5, a6⟩ := hXa i hi
    unfold ixr bxT bxB bxL bxG
    rw [a3, a4, a5, a6, ix_nI (by omega), ix_nI (by omega), ix_nI (by omega), ix_nI (by omega)]
    exact ⟨rfl, rfl, rfl, rfl⟩
  have gd : gdB X m 0 0 R C := fun i hi _ => by
    have := (hX i hi).1
    omega
  have eq := read_eq X m (fun i hi => by have := (hX i hi).1; omega) (R + C) 0 0 R C (Nat.le_refl _) R1 C1 gd
  -- the reference, over any heap that is the same but for the costs
  have mod : ∀ g : Hp, Inv k N g q → (∀ k, k ≠ 47 → k ≠ 48 → g k = h k) → ∃ f, f_X12_read g = some (if (1000000 : Int32) ≤ nI (DV (fun _ => 1) (vX X m) 0 0 R C) then -9 else nI (DV (fun _ => 1) (vX X m) 0 0 R C), f) ∧ Inv (k + 1) N f q := fun g Hg hg => by
    have Hu := Inv_u0 (Nat.le_succ k) Hg
    have uj : ∀ j, j ≠ 0 → u2 g 111 0 0 111 j = h 111 j := fun j hj => by rw [u0_j _ _ hj, hg 111 (by omega) (by omega)]
    obtain ⟨Z, z1, z2, z3⟩ := m_readDP (u2 g 111 0 0) (R := R) (C := C) (m := m) X R2 C2 m1 (by rw [uj 4 (by omega)]; exact f3) (by rw [uj 5 (by omega)]; exact f4) (by rw [uj 35 (by omega)]; exact m3) (fun i hi => by rw [u2_ne _ _ _ (by decide), hg 133 (by omega) (by omega)]; exact hXb i hi)
    have HZ : Inv (k + 1) N Z q := Inv_keep (Nat.le_refl _) (Nat.le_refl _) (fun a b hf => by rw [z3 a (fun p => hf (by unfold free; omega))]) Hu
    have Z4 : Z 111 4 = nI R := by rw [z3 111 (by omega), uj 4 (by omega)]; exact f3
    have Z5 : Z 111 5 = nI C := by rw [z3 111 (by omega), uj 5 (by omega)]; exact f4
    have head : f_X12_read g = (if (1000000 : Int32) ≤ nI (DV (fun _ => 1) (vX X m) 0 0 R C) then some (-9, Z) else some (nI (DV (fun _ => 1) (vX X m) 0 0 R C), Z)) := by
      rw [f_X12_read, vB_def, vB_def, z1, Option.bind_some, Z4, Z5, show f_X12_block 0 0 (nI R) (nI C) = _ from m_block (r := 0) (c := 0) R1 C1, Option.bind_some, if_pos (inB_nI lt (by omega)), vB_def, ix_nI (by omega), z2 R C 0 0 (by omega), eq]
    rw [head]
    by_cases cF : (1000000 : Int32) ≤ nI (DV (fun _ => 1) (vX X m) 0 0 R C)
    · rw [if_pos cF, if_pos cF]
      exact ⟨Z, rfl, HZ⟩
    · rw [if_neg cF, if_neg cF]
      exact ⟨Z, rfl, HZ⟩
  -- the component
  have kk : ∃ G, f_X5_fewest h = some (nI (DV (fun _ => 1) (vX X m) 0 0 R C), G) ∧ Inv k N G q ∧ ∀ k, k ≠ 47 → k ≠ 48 → G k = h k := by
    by_cases z : h 47 8 = 0
    · obtain ⟨G, g1, g2, g3⟩ := k_workOut_L h (R := R) (C := C) (S := 1) (Dv := D0 (DV (fun _ => 1) (vX X m))) R2 C2 f1 f2 hC.2.2 (by omega) (by omega) (fun r c hh w s b => DV_le _ _ (by omega) (by omega)) (fun T r c hh w s hT b hs => by
        have : s = 0 := by omega
        subst this
        exact k_vdL T X R2 C2 b m1 (by rw [hT 47 (by omega)]; exact m2) (fun i hi => by rw [hT 49 (by omega), hT 50 (by omega), hT 51 (by omega), hT 52 (by omega)]; exact hXa i hi))
      have fr : ∀ k j, ¬ (k = 48 ∨ k = 47 ∧ j = 8) → u2 G 47 8 1 k j = h k j := fun k j hk => by rw [u2_at, if_neg (by omega), g3 k (by omega)]
      have Vg : ∀ hh w r c, blkIn R C r c hh w → V_L (D0 (DV (fun _ => 1) (vX X m))) 1 (u2 G 47 8 1) hh w r c := fun hh w r c b s hs => by
        rw [u2_ne _ _ _ (by decide)]; exact g2 hh w r c b s hs
      have ca := k_costOfAll_L (u2 G 47 8 1) (R := R) (C := C) (s := 0) (S := 1) (Dv := D0 (DV (fun _ => 1) (vX X m))) R2 C2 R1 C1 (by rw [fr 3 3 (by omega)]; exact f1) (by rw [fr 3 4 (by omega)]; exact f2) (by rw [fr 47 1 (by omega)]; exact hC.2.2) (by omega) (by omega) (Vg R C 0 0 (by omega))
      refine ⟨u2 G 47 8 1, ?_, ?_, fun k h1 h2 => by rw [u2_ne _ _ _ h1, g3 k h2]⟩
      · rw [f_X5_fewest, if_pos z, show f_X8_workOut_L h 0 = some G from g1, Option.bind_some, vB_def, Option.bind_some, show f_X8_costOfAll_L (u2 G 47 8 1) 0 = _ from ca, Option.bind_some]
      · refine ⟨h0, R, C, iT_keep (fun k j hk => fr k j (by omega)) hT, iF_keep (fun k j hk => fr k j (by omega)) hF, iR_keep (fun k j hk => fr k j (by omega)) hR, iB_keep (fun k j hk => fr k j (by omega)) hB, iS_keep (fun k j hk => fr k j (by omega)) hS, iO_keep (Nat.le_refl _) (fun k j hk => fr k j (by omega)) hO, ?_, iK_keep (Nat.le_refl _) (fun k j hk => fr k j (by omega)) hK, iP_keep (fun k j hk => fr k j (by omega)) hP, iC_keep (fun k j hk => fr k j (by omega)) hC⟩
        refine ⟨m, m1, by rw [fr 47 7 (by omega)]; exact m2, by rw [fr 111 35 (by omega)]; exact m3, fun i hi => ?_, Or.inr (fun r c hh w b => ?_)⟩
        · rw [fr 49 i (by omega), fr 50 i (by omega), fr 51 i (by omega), fr 52 i (by omega), fr 133 i (by omega)]
          exact m4 i hi
        · rw [row_eq (h := h) (fun j => fr 49 j (by omega)), row_eq (h := h) (fun j => fr 50 j (by omega)), row_eq (h := h) (fun j => fr 51 j (by omega)), row_eq (h := h) (fun j => fr 52 j (by omega)), vE]
          have v := Vg hh w r c b 0 (by omega)
          rw [Nat.one_mul, Nat.add_zero] at v
          exact v
    · have Vh : V_L (D0 (DV (fun _ => 1) (vX X m))) 1 h R C 0 0 := fun s hs => by
        have : s = 0 := by omega
        subst this
        have v := m5.resolve_left z 0 0 R C (by omega)
        rw [vE] at v
        rw [Nat.one_mul, Nat.add_zero]
        exact v
      have ca := k_costOfAll_L h (R := R) (C := C) (s := 0) (S := 1) (Dv := D0 (DV (fun _ => 1) (vX X m))) R2 C2 R1 C1 f1 f2 hC.2.2 (by omega) (by omega) Vh
      refine ⟨h, ?_, H0, fun _ _ _ => rfl⟩
      rw [f_X5_fewest, if_neg z, Option.bind_some, show f_X8_costOfAll_L h 0 = _ from ca, Option.bind_some]
  obtain ⟨G, g1, g2, g3⟩ := kk
  obtain ⟨f, m1', m2'⟩ := mod G g2 g3
  by_cases cF : (1000000 : Int32) ≤ nI (DV (fun _ => 1) (vX X m) 0 0 R C)
  · rw [if_pos cF] at m1'
    refine ⟨_, G, _, f, ?_, m1', rfl, m2'⟩
    rw [f_X11_read, g1, Option.bind_some, vB_def, if_pos cF]
  · rw [if_neg cF] at m1'
    refine ⟨_, G, _, f, ?_, m1', rfl, m2'⟩
    rw [f_X11_read, g1, Option.bind_some, vB_def, if_neg cF]
