/-! two asks ahead: the component's whole look -/
theorem may_nI {n : Nat} (hn : n ≤ 24) : (if (24 : Int32) ≤ nI n then (some 0 : Option Int32) else some 1) = some (if n = 24 then 0 else 1) := by
  by_cases c : n = 24
  · rw [if_pos (by rw [c]; decide), if_pos c]
  · rw [if_neg (f_le 24 rfl (by omega) (by omega)), if_neg c]
theorem k_look (h : Hp) {A A' n R C : Nat} {K : Nat → Int32} {B : Nat → Pr} {a m b l v : Int32} (hA : 137 ≤ A) (hA' : 137 ≤ A') (hn : n ≤ 24) (e7 : h 7 3 = nI n) (hR : R ≤ 6) (hC : C ≤ 6) (hs5 : sums (h 5) (fun i => wtN (K i)) R C) (hs6 : sums (h 6) (fun i => rdN 1 (K i)) R C) (eB : ∀ i, i < n → crow h (10 + i) = B i) (ok : ∀ i, i < n → okQ K R C (B i))
    (a0 : h A 0 = a) (a1 : h A 1 = m) (a2 : h A 2 = v) (b0 : h A' 0 = b) (b1 : h A' 1 = l) (b2 : h A' 2 = v) :
    ∃ h', f_X9_lookTwoAhead h A A' = some h' ∧ (h' 35 7, h' 35 8) = twoA K B n a m b l v ∧ ∀ k, ¬ (35 ≤ k ∧ k ≤ 40) → h' k = h k := by
  have FE := FAR_eq
  obtain ⟨my, hmy⟩ : ∃ my : Int32, my = (if n = 24 then 0 else 1) := ⟨_, rfl⟩
  obtain ⟨g, hg⟩ : ∃ g, g = u2 (u2 h 35 7 1000000) 35 8 (-9) := ⟨_, rfl⟩
  have gn : ∀ k, k ≠ 35 → g k = h k := fun k hk => by rw [hg, u2_ne _ _ _ hk, u2_ne _ _ _ hk]
  have g0 : (g 35 7, g 35 8) = ((1000000 : Int32), (-9 : Int32)) := by rw [hg]; simp [u2_at]
  obtain ⟨T1, q1, q2, q3⟩ := lpE (fun N j T => L_X9_lookTwoAhead_33 A' my N (nI j) T) n id
    (fun j T => (∀ i, i < j → T 40 i = nI (wv K my (B i) b l v)) ∧ ∀ k, ¬ (38 ≤ k ∧ k ≤ 40) → T k = g k)
    (fun N T hP => by
      have t7 : T 7 3 = nI n := by rw [hP.2 7 (by omega), gn 7 (by omega)]; exact e7
      simp only [L_X9_lookTwoAhead_33]
      rw [t7, if_pos (nI_le (Nat.le_refl _) (by omega))]; rfl)
    (fun N j T hj hP => by
      obtain ⟨p1, p2⟩ := hP
      have t7 : T 7 3 = nI n := by rw [p2 7 (by omega), gn 7 (by omega)]; exact e7
      have fr : ∀ k, k ≠ 35 → ¬ (38 ≤ k ∧ k ≤ 40) → T k = h k := fun k h1 h2 => by rw [p2 k h2, gn k h1]
      have c1 : crow T (10 + j) = B j := by rw [← eB j hj]; exact crow_keep (fun t => by rw [fr _ (by omega) (by omega)])
      obtain ⟨V, v1, v2⟩ := k_laterWire T (A := A') (a1 := 10 + j) (K := K) my hA' (by omega) (by omega) hR hC (by rw [fr 5 (by omega) (by omega)]; exact hs5) (by rw [fr 6 (by omega) (by omega)]; exact hs6) (by rw [c1]; exact ok j hj)
      rw [c1, fr A' (by omega) (by omega), b0, b1, b2] at v1
      simp only [L_X9_lookTwoAhead_33, vB_def, t7]
      rw [if_neg (nI_ge hj (by omega)), if_pos (inB_nI (show j < 24 by omega) (by omega)), ix_nI (by omega), v1, Option.bind_some, if_pos (inB_nI (show j < 24 by omega) (by omega)), nI_1]
      refine ⟨u2 V 40 j (nI (wv K my (B j) b l v)), rfl, ?_, ?_⟩
      · intro i hi
        by_cases e : i = j
        · subst e; rw [u2_at, if_pos ⟨rfl, rfl⟩]
        · rw [u2_at, if_neg (by omega), v2 40 (by omega) (by omega), p1 i (by omega)]
      · intro k hk
        rw [u2_ne _ _ _ (by omega), v2 k (by omega) (by omega), p2 k hk])
    n FU 0 g (by omega) (FU_gt (by omega)) ⟨fun i hi => absurd hi (by omega), fun k _ => rfl⟩
  have T1n : ∀ k, k ≠ 35 → ¬ (38 ≤ k ∧ k ≤ 40) → T1 k = h k := fun k h1 h2 => by rw [q3 k h2, gn k h1]
  obtain ⟨T2, r1, r2, r3⟩ := lpE (fun N j T => L_X9_lookTwoAhead_77 A my N (nI j) T) n id
    (fun j T => (T 35 7, T 35 8) = it (tw1 K B n a m b l v) j 0 (1000000, -9) ∧ ∀ k, k ≠ 35 → T k = T1 k)
    (fun N T hP => by
      have t7 : T 7 3 = nI n := by rw [hP.2 7 (by omega), T1n 7 (by omega) (by omega)]; exact e7
      simp only [L_X9_lookTwoAhead_77]
      rw [t7, if_pos (nI_le (Nat.le_refl _) (by omega))]; rfl)
    (fun N j T hj hP => by
      obtain ⟨p1, p2⟩ := hP
      have fr : ∀ k, k ≠ 35 → ¬ (38 ≤ k ∧ k ≤ 40) → T k = h k := fun k h1 h2 => by rw [p2 k h1, T1n k h1 h2]
      have t7 : T 7 3 = nI n := by rw [fr 7 (by omega) (by omega)]; exact e7
      have c1 : crow T (10 + j) = B j := by rw [← eB j hj]; exact crow_keep (fun t => by rw [fr _ (by omega) (by omega)])
      have el := k_elsewhere T (k := j) my (fun i => wv K my (B i) b l v) hn (by omega) t7 (fun i hi => ⟨by rw [p2 40 (by omega), q2 i hi], wv_le _ _ _ _ _ _⟩)
      rw [show mins (fun i => if i = j then FAR else if my = 0 ∧ wv K my (B i) b l v ≠ 0 then FAR else wv K my (B i) b l v) n 0 = els K my B j n b l v from mins_congr n 0 (fun i _ _ => by
        by_cases c : i = j
        · rw [if_pos c, if_pos c]
        · rw [if_neg c, if_neg c, wv_same])] at el
      obtain ⟨Z, z1, z2, z3⟩ := k_weighWay T (nI j) (nI (els K my B j n b l v))
      simp only [L_X9_lookTwoAhead_77, vB_def, t7]
      rw [if_neg (nI_ge hj (by omega)), if_pos (inB_nI (show j < 24 by omega) (by omega)), ix_nI (by omega), k_served, Option.bind_some, c1, fr A (by omega) (by omega), a0, a1, a2, nI_1, el, Option.bind_some, z1, Option.bind_some]
      rw [it_succ, Nat.zero_add, ← p1]
      unfold tw1
      rw [← hmy]
      by_cases s : srv (B j) a m v
      · simp only [if_pos s, show ¬ (1 : Int32) = 0 by decide, if_false, Option.bind_some]
        exact ⟨Z, rfl, z2, fun k hk => by rw [z3 k hk, p2 k hk]⟩
      · simp only [if_neg s, if_true, Option.bind_some]
        exact ⟨T, rfl, rfl, p2⟩)
    n FU 0 T1 (by omega) (FU_gt (by omega)) ⟨by rw [q3 35 (by omega)]; exact g0, fun k _ => rfl⟩
  have T2n : ∀ k, k ≠ 35 → ¬ (38 ≤ k ∧ k ≤ 40) → T2 k = h k := fun k h1 h2 => by rw [r3 k h1, T1n k h1 h2]
  have T27 : T2 7 3 = nI n := by rw [T2n 7 (by omega) (by omega)]; exact e7
  have st : ∀ Z, L_X9_lookTwoAhead_128 A A' my FU 0 T2 = some Z → f_X9_lookTwoAhead h A A' = some Z := fun Z hZ => by
    have g7 : g 7 3 = nI n := by rw [gn 7 (by omega)]; exact e7
    simp only [f_X9_lookTwoAhead, vB_def, ← hg, g7, may_nI hn, ← hmy, Option.bind_some]
    rw [show L_X9_lookTwoAhead_33 A' my FU 0 g = some T1 from q1, Option.bind_some, show L_X9_lookTwoAhead_77 A my FU 0 T1 = some T2 from r1, Option.bind_some, hZ, Option.bind_some]
  unfold twoA
  by_cases c24 : n = 24
  · rw [if_pos c24]
    refine ⟨T2, st T2 ?_, r2, fun k hk => T2n k (by omega) (by omega)⟩
    obtain ⟨F, hF⟩ : ∃ F, FU = F + 1 := ⟨1999, rfl⟩
    rw [hF]
    simp only [L_X9_lookTwoAhead_128]
    rw [if_pos (show my = 0 by rw [hmy, if_pos c24]), ite_self]
  · rw [if_neg c24]
    have my1 : my = 1 := by rw [hmy, if_neg c24]
    obtain ⟨T3, w1, w2, w3⟩ := lpE (fun N j T => L_X9_lookTwoAhead_128 A A' my N (nI j) T) n id
      (fun j T => (T 35 7, T 35 8) = it (twp K B n a m b l v) j 0 (two1 K B n a m b l v) ∧ ∀ k, ¬ (35 ≤ k ∧ k ≤ 39) → T k = T2 k)
      (fun N T hP => by
        have t7 : T 7 3 = nI n := by rw [hP.2 7 (by omega)]; exact T27
        simp only [L_X9_lookTwoAhead_128]
        rw [t7, if_pos (nI_le (Nat.le_refl _) (by omega))]; rfl)
      (fun N j T hj hP => by
        obtain ⟨p1, p2⟩ := hP
        have fr : ∀ k, ¬ (35 ≤ k ∧ k ≤ 40) → T k = h k := fun k h1 => by rw [p2 k (by omega), T2n k (by omega) (by omega)]
        have t7 : T 7 3 = nI n := by rw [fr 7 (by omega)]; exact e7
        have c1 : crow T (10 + j) = B j := by rw [← eB j hj]; exact crow_keep (fun t => by rw [fr _ (by omega)])
        obtain ⟨ag, hag⟩ : ∃ ag : Int32, ag = (if n + 1 = 24 then 0 else 1) := ⟨_, rfl⟩
        obtain ⟨r, c, hh, w, oj⟩ := ok j hj
        have el := k_elsewhere T (k := j) ag (fun i => wv K 1 (B i) b l v) hn (by omega) t7 (fun i hi => ⟨by rw [p2 40 (by omega), r3 40 (by omega), q2 i hi, my1], wv_le _ _ _ _ _ _⟩)
        rw [show mins (fun i => if i = j then FAR else if ag = 0 ∧ wv K 1 (B i) b l v ≠ 0 then FAR else wv K 1 (B i) b l v) n 0 = els K ag B j n b l v from mins_congr n 0 (fun i _ hi => by
          by_cases c : i = j
          · rw [if_pos c, if_pos c]
          · rw [if_neg c, if_neg c]
            obtain ⟨r, c, hh, w, oi⟩ := ok i (by omega)
            have l0 : r + hh ≤ R := oi.2.2.2.2.2.2.1
            have l1 : c + w ≤ C := oi.2.2.2.2.2.2.2.1
            have l2 : 1 ≤ hh := oi.2.2.2.2.1
            have l3 : 1 ≤ w := oi.2.2.2.2.2.1
            exact wv_again ag (by rw [oi.2.2.1, ix_nI (by omega)]; exact l2) (by rw [oi.2.2.2.1, ix_nI (by omega)]; exact l3))] at el
        obtain ⟨V, v1, v2, v3⟩ := k_tryIn T (A := A) (A' := A') (i := j) (n := n) (K := K) (ag := ag) (B := B) (a := a) (m := m) (b := b) (l := l) (v := v) hA hA' (by omega) hR hC (by rw [fr 5 (by omega)]; exact hs5) (by rw [fr 6 (by omega)]; exact hs6) c1 oj (by rw [fr A (by omega)]; exact a0) (by rw [fr A (by omega)]; exact a1) (by rw [fr A (by omega)]; exact a2) (by rw [fr A' (by omega)]; exact b0) (by rw [fr A' (by omega)]; exact b1) (by rw [fr A' (by omega)]; exact b2) hag
        have tc : f_X9_tryCuts T (nI j) A A' = some V := by
          simp only [f_X9_tryCuts, vB_def, t7]
          rw [if_pos (inB_nI (show j < 24 by omega) (by omega)), ix_nI (by omega), nI_1, may_nI (show n + 1 ≤ 24 by omega), ← hag, Option.bind_some, el, Option.bind_some, v1, Option.bind_some]
        simp only [L_X9_lookTwoAhead_128, vB_def, t7]
        rw [if_neg (nI_ge hj (by omega)), if_neg (by rw [my1]; decide), tc, Option.bind_some, nI_1]
        refine ⟨V, rfl, ?_, fun k hk => by rw [v3 k hk, p2 k hk]⟩
        rw [v2, it_succ, Nat.zero_add, ← p1])
      n FU 0 T2 (by omega) (FU_gt (by omega)) ⟨r2, fun k _ => rfl⟩
    exact ⟨T3, st T3 w1, w2, fun k hk => by rw [w3 k (by omega), T2n k (by omega) (by omega)]⟩
