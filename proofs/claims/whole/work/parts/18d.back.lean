/-! two asks ahead: the reference's side -/
theorem m_second (h : Hp) {n R C : Nat} (b p v : Int32) (hn : n ≤ 24) (hR : R ≤ 6) (hC : C ≤ 6) (e : h 111 9 = nI n) (ok : ∀ i, i < n → okQ (h 113) R C (mrow h i)) :
    ∃ h', f_X12_second h b p v = some (nI (sec (h 113) (mrow h) n b (b + p) v), h') ∧ same4 h' h := by
  rw [← sec_eq hn (fun i hi => okQ_6 hR hC (ok i hi))]
  unfold f_X12_second
  rw [m_standsFor h b p v hn hR hC e ok, Option.bind_some]
  by_cases c : lgt (mrow h) b (b + p) v n = -9
  · obtain ⟨F, f1, f2, f3⟩ := m_findCut h b p v hn hR hC e ok
    rw [if_pos c, if_pos c, f1, Option.bind_some, ← f2]
    exact ⟨F, rfl, f3⟩
  · rw [if_neg c, if_neg c]
    exact ⟨h, rfl, fun k j _ => rfl⟩
theorem m_keepTwo (h : Hp) (wire way : Int32) : ∃ h', f_X12_keepTwo h wire way = some h' ∧ (h' 111 45, h' 111 46) = kpt way wire (h 111 45, h 111 46) ∧ ∀ k j, ¬ (k = 111 ∧ (j = 45 ∨ j = 46)) → h' k j = h k j := by
  unfold f_X12_keepTwo kpt
  by_cases c : h 111 45 ≤ wire
  · rw [if_pos c, if_pos c]
    exact ⟨h, rfl, rfl, fun k j _ => rfl⟩
  · rw [if_neg c, if_neg c]
    refine ⟨_, rfl, ?_, fun k j hk => by rw [u2_at, if_neg (by omega), u2_at, if_neg (by omega)]⟩
    simp [u2_at]
abbrev s6 (T h : Hp) : Prop := (∀ i, i < 24 → mrow T i = mrow h i) ∧ ∀ k j, ¬ (115 ≤ k ∧ k ≤ 122) → ¬ (k = 111 ∧ (22 ≤ j ∧ j ≤ 25 ∨ j = 45 ∨ j = 46)) → T k j = h k j
abbrev asd (h : Hp) : Prop := h 123 0 = h 111 9 ∧ h 123 1 = h 111 18 ∧ ∀ i j, i < 24 → j < 11 → h 123 (2 + 11 * i + j) = c11 h i j
theorem m_back {h T : Hp} (ha : asd h) (hT : ∀ k j, ¬ (115 ≤ k ∧ k ≤ 122) → ¬ (k = 111 ∧ (j = 9 ∨ 22 ≤ j ∧ j ≤ 25 ∨ j = 45 ∨ j = 46)) → T k j = h k j) : ∃ T', f_X12_takeBack T = some T' ∧ s6 T' h ∧ T' 111 45 = T 111 45 ∧ T' 111 46 = T 111 46 := by
  obtain ⟨f, f1, f2, f3, f4, f5⟩ := m_takeBack T
  refine ⟨f, f1, ⟨?_, ?_⟩, f5 _ _ (by omega) (by omega), f5 _ _ (by omega) (by omega)⟩
  · intro i hi
    refine mrow_c11 (row_eq (fun j => by rw [f5 113 j (by omega) (by omega), hT 113 j (by omega) (by omega)])) (fun j hj => ?_)
    rw [f4 i j hi hj, hT 123 _ (by omega) (by omega), ha.2.2 i j hi hj]
  · intro k j h1 h2
    by_cases c : k = 111 ∧ (j = 9 ∨ j = 18)
    · obtain ⟨rfl, rfl | rfl⟩ := c
      · rw [f2, hT 123 _ (by omega) (by omega), ha.1]
      · rw [f3, hT 123 _ (by omega) (by omega), ha.2.1]
    · rw [f5 k j h1 c, hT k j h1 (by omega)]
theorem s6_113 {T h : Hp} (s : s6 T h) : T 113 = h 113 := row_eq (fun j => s.2 113 j (by omega) (by omega))
theorem m_two1 (h : Hp) {n R C : Nat} (a o b p v : Int32) (ha : asd h) (hn : n ≤ 24) (hR : R ≤ 6) (hC : C ≤ 6) (e : h 111 9 = nI n) (ok : ∀ i, i < n → okQ (h 113) R C (mrow h i)) :
    ∃ h', L_X12_findTwo_19 a o b p v FU 0 h = some h' ∧ (h' 111 45, h' 111 46) = it (tw1 (h 113) (mrow h) n a (a + o) b (b + p) v) n 0 (h 111 45, h 111 46) ∧ s6 h' h := by
  have h0 : h 123 0 = nI n := by rw [ha.1]; exact e
  obtain ⟨T', q1, q2, q3⟩ := lpE (fun N j T => L_X12_findTwo_19 a o b p v N (nI j) T) n id
    (fun j T => (T 111 45, T 111 46) = it (tw1 (h 113) (mrow h) n a (a + o) b (b + p) v) j 0 (h 111 45, h 111 46) ∧ s6 T h)
    (fun N T hP => by
      have t0 : T 123 (ix 0) = nI n := by rw [show ix 0 = 0 from rfl, hP.2.2 123 0 (by omega) (by omega)]; exact h0
      simp only [L_X12_findTwo_19]
      rw [t0, if_pos (show inB 0 266 by decide), if_pos (nI_le (Nat.le_refl _) (by omega))]; rfl)
    (fun N j T hj hP => by
      obtain ⟨p1, p2⟩ := hP
      have t0 : T 123 (ix 0) = nI n := by rw [show ix 0 = 0 from rfl, p2.2 123 0 (by omega) (by omega)]; exact h0
      have tK := s6_113 p2
      obtain ⟨r, c, hh, w, oj⟩ := ok j hj
      have ms := m_served T a o v (show j < 24 by omega) hR hC (by rw [tK, p2.1 j (by omega)]; exact oj)
      rw [p2.1 j (by omega)] at ms
      simp only [L_X12_findTwo_19, vB_def]
      rw [t0, if_pos (show inB 0 266 by decide), if_neg (nI_ge hj (by omega)), ms, Option.bind_some, nI_1, it_succ, Nat.zero_add, ← p1]
      by_cases s : srv (mrow h j) a (a + o) v
      · simp only [if_pos s, show ¬ (1 : Int32) = 0 by decide, if_false, if_pos (inB_nI (show j < 24 by omega) (by omega)), ix_nI (show j < 2147483648 by omega)]
        have mj : mrow (u2 T 119 j 1) j = setp (mrow h j) 6 1 := by rw [mrow_set6, p2.1 j (by omega)]
        have mo : ∀ i, i < 24 → i ≠ j → mrow (u2 T 119 j 1) i = mrow h i := fun i hi hij => by rw [mrow_oth _ _ hij (by omega), p2.1 i hi]
        have k1 : u2 T 119 j 1 113 = h 113 := by rw [u2_ne _ _ _ (by decide)]; exact tK
        obtain ⟨V, v1, v2⟩ := m_second (u2 T 119 j 1) (n := n) (R := R) (C := C) b p v hn hR hC (by rw [u2_ne _ _ _ (by decide), p2.2 111 9 (by omega) (by omega)]; exact e) (fun i hi => by
          rw [k1]
          by_cases c : i = j
          · subst c; rw [mj]; exact ⟨r, _, hh, w, okP_set 1 (by omega) oj⟩
          · rw [mo i (by omega) c]; exact ok i hi)
        rw [k1, sec_sold (B := mrow h) hj (by rw [mj, setp_eq]; decide) (fun i hi hij => mo i (by omega) hij)] at v1
        obtain ⟨Z, z1, z2, z3⟩ := m_keepTwo V (nI (els (h 113) (if n = 24 then 0 else 1) (mrow h) j n b (b + p) v)) (nI j)
        obtain ⟨W, w1, w2, w3, w4⟩ := m_back (T := Z) ha (fun k t h1 h2 => by rw [z3 k t (by omega), v2 k t (by omega), u2_at, if_neg (by omega), p2.2 k t h1 (by omega)])
        rw [v1, Option.bind_some, z1, Option.bind_some, w1, Option.bind_some, Option.bind_some]
        refine ⟨W, rfl, ?_, w2⟩
        rw [w3, w4, z2, v2 111 45 (by omega), v2 111 46 (by omega), u2_ne _ _ _ (by decide)]
        unfold tw1
        rw [if_pos s]
      · simp only [if_neg s, if_true, Option.bind_some]
        refine ⟨T, rfl, ?_, p2⟩
        unfold tw1
        rw [if_neg s])
    n FU 0 h (by omega) (FU_gt (by omega)) ⟨rfl, fun i _ => rfl, fun k j _ _ => rfl⟩
  exact ⟨T', q1, q2, q3⟩
