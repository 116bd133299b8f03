/-! rounds: write -/
theorem by_eq (x : Int64) {k : Nat} (hk : k < 8) : ((x.toUInt64 >>> ((8 * nI k).toInt64.toUInt64 &&& Int64.toUInt64 63)).toInt64).toInt32 &&& 255 = (x >>> ((8 * nI k).toInt64 &&& 63)).toInt32 &&& 255 := by
  have c : ∀ (u : UInt64) (s : Int64) (n : Nat), n ≤ 56 → (u.toBitVec % 64).toNat = n → (s.toBitVec.smod 64).toNat = n → ((x.toUInt64 >>> u).toInt64).toInt32 &&& 255 = (x >>> s).toInt32 &&& 255 := by
    intro u s n hn hu hs
    apply Int32.toBitVec_inj.mp
    rw [Int32.toBitVec_and, Int32.toBitVec_and, Int64.toBitVec_toInt32, Int64.toBitVec_toInt32, UInt64.toBitVec_toInt64, UInt64.toBitVec_shiftRight, Int64.toBitVec_toUInt64, Int64.toBitVec_shiftRight]
    apply BitVec.eq_of_getLsbD_eq
    intro i hi
    rw [BitVec.getLsbD_and, BitVec.getLsbD_and, BitVec.getLsbD_signExtend, BitVec.getLsbD_signExtend]
    by_cases h8 : i < 8
    · have e1 : (x.toBitVec >>> (u.toBitVec % 64)).getLsbD i = x.toBitVec.getLsbD (n + i) := by rw [BitVec.ushiftRight_eq', BitVec.getLsbD_ushiftRight, hu]
      have e2 : (x.toBitVec.sshiftRight' (s.toBitVec.smod 64)).getLsbD i = x.toBitVec.getLsbD (n + i) := by
        rw [BitVec.getLsbD_sshiftRight', hs, if_pos (by omega), decide_eq_false (by omega), Bool.not_false, Bool.true_and]
      rw [if_pos (show i < 64 by omega), if_pos (show i < 64 by omega), e1, e2]
    · have m : ∀ j : Fin 32, 8 ≤ j.val → (255 : Int32).toBitVec.getLsbD j.val = false := by decide
      rw [m ⟨i, hi⟩ (by show 8 ≤ i; omega), Bool.and_false, Bool.and_false]
  rcases (by omega : k = 0 ∨ k = 1 ∨ k = 2 ∨ k = 3 ∨ k = 4 ∨ k = 5 ∨ k = 6 ∨ k = 7) with rfl | rfl | rfl | rfl | rfl | rfl | rfl | rfl
  · exact c _ _ 0 (by decide) (by decide) (by decide)
  · exact c _ _ 8 (by decide) (by decide) (by decide)
  · exact c _ _ 16 (by decide) (by decide) (by decide)
  · exact c _ _ 24 (by decide) (by decide) (by decide)
  · exact c _ _ 32 (by decide) (by decide) (by decide)
  · exact c _ _ 40 (by decide) (by decide) (by decide)
  · exact c _ _ 48 (by decide) (by decide) (by decide)
  · exact c _ _ 56 (by decide) (by decide) (by decide)
def bt (x : Int64) (k : Nat) : Int32 := (x >>> ((8 * nI k).toInt64 &&& 63)).toInt32 &&& 255
theorem dn_neg (n : Nat) (hn : n < 100) : (nI (n - n) - 1 : Int32) < 0 := by rw [Nat.sub_self]; decide
theorem dn_at {n j : Nat} (hj : j < n) : (nI (n - j) - 1 : Int32) = nI (n - 1 - j) := by
  rw [show n - j = (n - 1 - j) + 1 by omega, nI_pred]
theorem dn_nx {n j : Nat} (hj : j < n) : (nI (n - 1 - j) + (-1) : Int32) = nI (n - (j + 1)) - 1 := by
  rw [show n - (j + 1) = n - 1 - j by omega, Int32.sub_eq_add_neg]
theorem k_append (h : Hp) (v : Int64) {n L : Nat} (hn : n ≤ 8) (hL : L + n ≤ 48) (e : h 1 1 = nI L) : ∃ h', L_X10_append_5 v FU (nI n - 1) h = some h' ∧ h' 1 1 = nI (L + n) ∧ (∀ t, t < n → h' 2 (L + t) = bt v (n - 1 - t)) ∧ (∀ t, ¬ (L ≤ t ∧ t < L + n) → h' 2 t = h 2 t) ∧ ∀ k j, k ≠ 2 → ¬ (k = 1 ∧ j = 1) → h' k j = h k j := by
  obtain ⟨T, q1, q2, q3, q4, q5⟩ := lpE (fun N j a => L_X10_append_5 v N (nI (n - j) - 1) a) n id
    (fun j a => a 1 1 = nI (L + j) ∧ (∀ t, t < j → a 2 (L + t) = bt v (n - 1 - t)) ∧ (∀ t, ¬ (L ≤ t ∧ t < L + j) → a 2 t = h 2 t) ∧ ∀ k i, k ≠ 2 → ¬ (k = 1 ∧ i = 1) → a k i = h k i)
    (fun N a hP => by simp only [L_X10_append_5]; rw [if_pos (dn_neg n (by omega))]; rfl)
    (fun N j a hj hP => by
      obtain ⟨p1, p2, p3, p4⟩ := hP
      simp only [L_X10_append_5, vB_def, dn_at hj]
      have w1 : u2 a 2 (L + j) (bt v (n - 1 - j)) 1 1 = nI (L + j) := by rw [u2_at, if_neg (by omega)]; exact p1
      rw [if_neg (nI_pos (by omega)), p1, if_neg (f_le 48 rfl (by omega) (by omega)), if_pos (inB_nI (show L + j < 48 by omega) (by omega)), ix_nI (by omega), by_eq v (show n - 1 - j < 8 by omega), dn_nx hj]
      show ∃ a', L_X10_append_5 v N (nI (n - (j + 1)) - 1) (u2 (u2 a 2 (L + j) (bt v (n - 1 - j))) 1 1 (u2 a 2 (L + j) (bt v (n - 1 - j)) 1 1 + 1)) = _ ∧ _
      rw [w1, nI_1]
      refine ⟨_, rfl, ?_, ?_, ?_, ?_⟩
      · rw [u2_at, if_pos ⟨rfl, rfl⟩]; rfl
      · intro t ht
        rw [u2_at, if_neg (by omega)]
        by_cases et : t = j
        · subst et; rw [u2_at, if_pos ⟨rfl, rfl⟩]
        · rw [u2_at, if_neg (by omega), p2 t (by omega)]
      · intro t ht
        rw [u2_at, if_neg (by omega), u2_at, if_neg (by omega), p3 t (by omega)]
      · intro k i h1 h2
        rw [u2_at, if_neg h2, u2_at, if_neg (by omega), p4 k i h1 h2])
    n FU 0 h (by omega) (FU_gt (by omega)) ⟨e, fun t ht => absurd ht (by omega), fun t _ => rfl, fun k j _ _ => rfl⟩
  exact ⟨T, q1, q2, q3, q4, q5⟩
theorem m_append (h : Hp) (v : Int64) {n L : Nat} (hn : n ≤ 8) (hL : L + n ≤ 48) (e : h 111 2 = nI L) : ∃ h', L_X12_write_39 v FU (nI n - 1) h = some h' ∧ h' 111 2 = nI (L + n) ∧ (∀ t, t < n → h' 112 (L + t) = bt v (n - 1 - t)) ∧ (∀ t, ¬ (L ≤ t ∧ t < L + n) → h' 112 t = h 112 t) ∧ ∀ k j, k ≠ 112 → ¬ (k = 111 ∧ j = 2) → h' k j = h k j := by
  obtain ⟨T, q1, q2, q3, q4, q5⟩ := lpE (fun N j a => L_X12_write_39 v N (nI (n - j) - 1) a) n id
    (fun j a => a 111 2 = nI (L + j) ∧ (∀ t, t < j → a 112 (L + t) = bt v (n - 1 - t)) ∧ (∀ t, ¬ (L ≤ t ∧ t < L + j) → a 112 t = h 112 t) ∧ ∀ k i, k ≠ 112 → ¬ (k = 111 ∧ i = 2) → a k i = h k i)
    (fun N a hP => by simp only [L_X12_write_39]; rw [if_pos (dn_neg n (by omega))]; rfl)
    (fun N j a hj hP => by
      obtain ⟨p1, p2, p3, p4⟩ := hP
      simp only [L_X12_write_39, vB_def, dn_at hj]
      have w1 : u2 a 112 (L + j) (bt v (n - 1 - j)) 111 2 = nI (L + j) := by rw [u2_at, if_neg (by omega)]; exact p1
      rw [if_neg (nI_pos (by omega)), p1, if_pos (inB_nI (show L + j < 48 by omega) (by omega)), ix_nI (by omega), dn_nx hj]
      show ∃ a', L_X12_write_39 v N (nI (n - (j + 1)) - 1) (u2 (u2 a 112 (L + j) (bt v (n - 1 - j))) 111 2 (u2 a 112 (L + j) (bt v (n - 1 - j)) 111 2 + 1)) = _ ∧ _
      rw [w1, nI_1]
      refine ⟨_, rfl, ?_, ?_, ?_, ?_⟩
      · rw [u2_at, if_pos ⟨rfl, rfl⟩]; rfl
      · intro t ht
        rw [u2_at, if_neg (by omega)]
        by_cases et : t = j
        · subst et; rw [u2_at, if_pos ⟨rfl, rfl⟩]
        · rw [u2_at, if_neg (by omega), p2 t (by omega)]
      · intro t ht
        rw [u2_at, if_neg (by omega), u2_at, if_neg (by omega), p3 t (by omega)]
      · intro k i h1 h2
        rw [u2_at, if_neg h2, u2_at, if_neg (by omega), p4 k i h1 h2])
    n FU 0 h (by omega) (FU_gt (by omega)) ⟨e, fun t ht => absurd ht (by omega), fun t _ => rfl, fun k j _ _ => rfl⟩
  exact ⟨T, q1, q2, q3, q4, q5⟩
theorem s_write {k N : Nat} {h : Hp} {q : Qp} (H : Inv k N h q) (x : Int32) (v : Int64) : ∃ a h1 b h2, f_X11_write h x v = some (a, h1) ∧ f_X12_write h1 x v = some (b, h2) ∧ a = b ∧ Inv (k + 1) N h2 q := by
  have H' := Inv_u0 (Nat.le_succ k) H
  obtain ⟨h0, R, C, hT, hF, hR, hB, hS, hO, hL, hK, hP, hC⟩ := H
  obtain ⟨L, n1, n2, n3, n4⟩ := hT
  have e1 : f_X12_in x.toInt64 1 8 = _ := in_i x 1 8
  by_cases c : 1 ≤ x ∧ x ≤ 8
  · have x0 : (0 : Int32) ≤ x := by
      have e1 := Int32.le_iff_toInt_le.mp c.1
      rw [show (1 : Int32).toInt = 1 from rfl] at e1
      rw [Int32.le_iff_toInt_le, show (0 : Int32).toInt = 0 from rfl]
      omega
    obtain ⟨n, hn, rfl⟩ := i_toNat (n := 8) rfl x0 c.2
    have le : nI L + nI n ≤ (48 : Int32) ↔ L + n ≤ 48 := by
      rw [nI_add, show (48 : Int32) = nI 48 from rfl]
      exact nI_leI (by omega) (by omega)
    by_cases c2 : L + n ≤ 48
    · obtain ⟨g, g1, g2, g3, g4, g5⟩ := k_append h v hn c2 n2
      obtain ⟨f, f1, f2, f3, f4, f5⟩ := m_append (u2 g 111 0 0) v (L := L) hn c2 (by rw [u0_j _ _ (by decide), g5 111 2 (by omega) (by omega)]; exact n3)
      refine ⟨nI (L + n), g, nI (L + n), f, ?_, ?_, rfl, ?_⟩
      · simp only [f_X11_write, f_X10_append, vB_def]
        rw [if_neg (i_nlt.mpr c.1), if_pos c.2, n2, if_pos (le.mpr c2), g1, Option.bind_some, Option.bind_some, g2]
      · simp only [f_X12_write, vB_def]
        rw [e1, if_pos c, Option.bind_some, if_neg (by decide), u0_j _ _ (by decide), g5 111 2 (by omega) (by omega), n3, if_pos (le.mpr c2), f1, Option.bind_some, f2]
      · have ff : ∀ k j, ¬ (k = 2 ∨ k = 1 ∧ j = 1 ∨ k = 112 ∨ k = 111 ∧ (j = 0 ∨ j = 2)) → f k j = h k j := fun k j hf => by
          rw [f5 k j (by omega) (by omega), u2_at, if_neg (by omega), g5 k j (by omega) (by omega)]
        refine ⟨h0, R, C, ?_, iF_keep (fun k j hk => ff k j (by omega)) hF, iR_keep (fun k j hk => ff k j (by omega)) hR, iB_keep (fun k j hk => ff k j (by omega)) hB, iS_keep (fun k j hk => ff k j (by omega)) hS, iO_keep (Nat.le_refl _) (fun k j hk => ff k j (by omega)) hO, iL_keep (fun k j hk => ff k j (by omega)) hL, iK_keep (by omega) (fun k j hk => ff k j (by omega)) hK, iP_keep (fun k j hk => ff k j (by omega)) hP, iC_keep (fun k j hk => ff k j (by omega)) hC⟩
        refine ⟨L + n, c2, ?_, f2, fun i hi => ?_⟩
        · rw [f5 1 1 (by omega) (by omega), u2_at, if_neg (by omega)]; exact g2
        · rw [f5 2 i (by omega) (by omega), u2_at, if_neg (by omega)]
          by_cases ci : i < L
          · rw [g4 i (by omega), f4 i (by omega), u2_at, if_neg (by omega), g5 112 i (by omega) (by omega)]
            exact n4 i ci
          · obtain ⟨t, rfl, ht⟩ : ∃ t, i = L + t ∧ t < n := ⟨i - L, by omega, by omega⟩
            rw [g3 t ht, f3 t ht]
    · refine ⟨-4, h, -4, u2 h 111 0 0, ?_, ?_, rfl, H'⟩
      · simp only [f_X11_write, vB_def]
        rw [if_neg (i_nlt.mpr c.1), if_pos c.2, n2, if_neg (fun d => c2 (le.mp d))]
      · simp only [f_X12_write, vB_def]
        rw [e1, if_pos c, Option.bind_some, if_neg (by decide), u0_j _ _ (by decide), n3, if_neg (fun d => c2 (le.mp d))]
  · refine ⟨-2, h, -2, u2 h 111 0 0, ?_, ?_, rfl, H'⟩
    · simp only [f_X11_write]
      by_cases x1 : x < 1
      · rw [if_pos x1]
      · rw [if_neg x1, if_neg (fun d => c ⟨i_nlt.mp x1, d⟩)]
    · simp only [f_X12_write, vB_def]
      rw [e1, if_neg c, Option.bind_some, if_pos rfl]
