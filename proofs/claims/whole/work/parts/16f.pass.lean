/-! rounds: pass -/
def eachP (p : Pr) (x : Int32) : Int32 := (if p 7 = 0 then 10 else if p 7 = 1 then 5 else 2) * x
def dryP (R C : Int32) (x : Int32) (p : Pr) : Pr := setp (setp (setp (setp p 9 (p 9 + eachP p x * edA p)) 10 (p 10 + eachP p x * edB R p)) 11 (p 11 + eachP p x * edL p)) 12 (p 12 + eachP p x * edR C p)
def dryQ (R C : Int32) (x : Int32) (p : Pr) : Pr := if p 6 = 0 then dryP R C x p else p
theorem k_dry (h : Hp) {a : Nat} (x : Int32) (ha : 7 ≤ a) (h7 : crow h a 7 = 0 ∨ crow h a 7 = 1 ∨ crow h a 7 = 2) : ∃ h', f_X7_dry h a x = some h' ∧ crow h' a = dryP (h 3 3) (h 3 4) x (crow h a) ∧ ∀ k, k ≠ a → h' k = h k := by
  have e7 : h a 7 = crow h a 7 := (crow_at h a (by omega)).symm
  have ht : (if h a 7 < 0 then some (0 : Int32) else if (3 : Int32) ≤ h a 7 then some 0 else if inB (h a 7) 3 then some (drT (ix (h a 7)) * x) else none) = some (eachP (crow h a) x) := by
    unfold eachP
    rw [e7]
    rcases h7 with e | e | e <;> rw [e] <;> rfl
  have c9 : ∀ v, crow (u2 h a 9 v) a = setp (crow h a) 9 v := fun v => crow_set _ _ _ (by omega)
  have c10 : ∀ v g, crow (u2 g a 10 v) a = setp (crow g a) 10 v := fun v g => crow_set _ _ _ (by omega)
  have c11 : ∀ v g, crow (u2 g a 11 v) a = setp (crow g a) 11 v := fun v g => crow_set _ _ _ (by omega)
  have c12 : ∀ v g, crow (u2 g a 12 v) a = setp (crow g a) 12 v := fun v g => crow_set _ _ _ (by omega)
  have r3 : ∀ (j : Nat) (v : Int32) (g : Hp), u2 g a j v 3 = g 3 := fun j v g => u2_ne _ _ _ (by omega)
  have g10 : h a 10 = crow h a 10 := (crow_at h a (by omega)).symm
  have g11 : h a 11 = crow h a 11 := (crow_at h a (by omega)).symm
  have g12 : h a 12 = crow h a 12 := (crow_at h a (by omega)).symm
  have g9 : h a 9 = crow h a 9 := (crow_at h a (by omega)).symm
  unfold f_X7_dry
  rw [ht]
  simp only [Option.bind_some, vB_def, k_eA, k_eB, k_eL, k_eR, r3, c9, c10, c11]
  refine ⟨_, rfl, ?_, fun k hk => by rw [u2_ne _ _ _ hk, u2_ne _ _ _ hk, u2_ne _ _ _ hk, u2_ne _ _ _ hk]⟩
  rw [c12, c11, c10, c9]
  unfold dryP
  have a1 : ∀ v, edB (h 3 3) (setp (crow h a) 9 v) = edB (h 3 3) (crow h a) := fun v => by
    unfold edB; rw [setp_ne _ _ (by omega), setp_ne _ _ (by omega), setp_ne _ _ (by omega)]
  have a2 : ∀ v v', edL (setp (setp (crow h a) 9 v) 10 v') = edL (crow h a) := fun v v' => by
    unfold edL; rw [setp_ne _ _ (by omega), setp_ne _ _ (by omega), setp_ne _ _ (by omega), setp_ne _ _ (by omega)]
  have a3 : ∀ v v' v'', edR (h 3 4) (setp (setp (setp (crow h a) 9 v) 10 v') 11 v'') = edR (h 3 4) (crow h a) := fun v v' v'' => by
    unfold edR; simp only [setp_ne _ _ (show 1 ≠ 11 by omega), setp_ne _ _ (show 1 ≠ 10 by omega), setp_ne _ _ (show 1 ≠ 9 by omega), setp_ne _ _ (show 3 ≠ 11 by omega), setp_ne _ _ (show 3 ≠ 10 by omega), setp_ne _ _ (show 3 ≠ 9 by omega), setp_ne _ _ (show 2 ≠ 11 by omega), setp_ne _ _ (show 2 ≠ 10 by omega), setp_ne _ _ (show 2 ≠ 9 by omega)]
  simp only [a1, a2, a3, u2_at, g9, g10, g11, g12]
  simp
theorem edB_dry (R : Int32) (p : Pr) {j : Nat} (v : Int32) (hj : 9 ≤ j) : edB R (setp p j v) = edB R p := by
  unfold edB; rw [setp_ne _ _ (by omega), setp_ne _ _ (by omega), setp_ne _ _ (by omega)]
theorem edA_dry (p : Pr) {j : Nat} (v : Int32) (hj : 9 ≤ j) : edA (setp p j v) = edA p := by
  unfold edA; rw [setp_ne _ _ (by omega), setp_ne _ _ (by omega)]
theorem edL_dry (p : Pr) {j : Nat} (v : Int32) (hj : 9 ≤ j) : edL (setp p j v) = edL p := by
  unfold edL; rw [setp_ne _ _ (by omega), setp_ne _ _ (by omega)]
theorem edR_dry (C : Int32) (p : Pr) {j : Nat} (v : Int32) (hj : 9 ≤ j) : edR C (setp p j v) = edR C p := by
  unfold edR; rw [setp_ne _ _ (by omega), setp_ne _ _ (by omega), setp_ne _ _ (by omega)]
theorem fcS_dry (R C : Int32) (p : Pr) {j : Nat} (v : Int32) (hj : 9 ≤ j) (s : Nat) : fcS R C (setp p j v) s = fcS R C p s := by
  unfold fcS
  rw [edA_dry p v hj, edB_dry R p v hj, edL_dry p v hj, edR_dry C p v hj]
theorem k_goBy (h : Hp) {n R C : Nat} (x : Int32) (hn : n ≤ 24) (e : h 7 3 = nI n) (ok : ∀ i, i < n → crow h (10 + i) 7 = 0 ∨ crow h (10 + i) 7 = 1 ∨ crow h (10 + i) 7 = 2) (e3 : h 3 3 = nI R) (e4 : h 3 4 = nI C) :
    ∃ h', f_X1_goBy h x = some h' ∧ h' 7 4 = h 7 4 + x ∧ (∀ i, i < n → crow h' (10 + i) = dryQ (nI R) (nI C) x (crow h (10 + i))) ∧ ∀ k j, ¬ (k = 7 ∧ j = 4 ∨ 10 ≤ k ∧ k < 10 + n) → h' k j = h k j := by
  obtain ⟨h', q1, q2, q3, q4⟩ := lpE (fun N j a => L_X1_goBy_12 x N (nI j) a) n id
    (fun j a => (∀ i, i < j → crow a (10 + i) = dryQ (nI R) (nI C) x (crow h (10 + i))) ∧ (∀ i, j ≤ i → i < n → crow a (10 + i) = crow h (10 + i)) ∧ ∀ k t, ¬ (10 ≤ k ∧ k < 10 + n) → a k t = (u2 h 7 4 (h 7 4 + x)) k t)
    (fun N a hP => by
      have e7 : a 7 3 = nI n := by rw [hP.2.2 7 3 (by omega), u2_at, if_neg (by omega)]; exact e
      simp only [L_X1_goBy_12, e7]; rw [if_pos (nI_le (Nat.le_refl n) (by omega))]; rfl)
    (fun N j a hj hP => by
      obtain ⟨p1, p2, p3⟩ := hP
      have e7 : a 7 3 = nI n := by rw [p3 7 3 (by omega), u2_at, if_neg (by omega)]; exact e
      have a6 : a (10 + j) 6 = crow h (10 + j) 6 := by rw [← p2 j (by omega) hj, crow_at _ _ (by omega)]
      have a33 : a 3 3 = nI R := by rw [p3 3 3 (by omega), u2_at, if_neg (by omega)]; exact e3
      have a34 : a 3 4 = nI C := by rw [p3 3 4 (by omega), u2_at, if_neg (by omega)]; exact e4
      simp only [L_X1_goBy_12, e7, vB_def]
      rw [if_neg (nI_ge hj (by omega)), if_pos (inB_nI (show j < 24 by omega) (by omega)), if_pos (inB_nI (show j < 24 by omega) (by omega)), ix_nI (by omega), nI_1, a6]
      by_cases z : crow h (10 + j) 6 = 0
      · obtain ⟨a', d1, d2, d3⟩ := k_dry a (a := 10 + j) x (by omega) (by rw [p2 j (by omega) hj]; exact ok j hj)
        rw [if_pos z, d1, Option.bind_some, Option.bind_some]
        refine ⟨a', rfl, ?_, ?_, ?_⟩
        · intro i hi
          by_cases e : i = j
          · subst e
            rw [d2, p2 i (by omega) hj, a33, a34, dryQ, if_pos z]
          · rw [crow_keep (h := a) (fun t => by rw [d3 _ (by omega)]), p1 i (by omega)]
        · intro i h1 h2
          rw [crow_keep (h := a) (fun t => by rw [d3 _ (by omega)]), p2 i (by omega) h2]
        · intro k t hk
          rw [d3 k (by omega), p3 k t hk]
      · rw [if_neg z, Option.bind_some]
        refine ⟨a, rfl, ?_, fun i h1 h2 => p2 i (by omega) h2, p3⟩
        intro i hi
        by_cases e : i = j
        · subst e
          rw [p2 i (by omega) hj, dryQ, if_neg z]
        · exact p1 i (by omega))
    n FU 0 (u2 h 7 4 (h 7 4 + x)) (by omega) (FU_gt (by omega)) ⟨fun i hi => absurd hi (by omega), fun i _ _ => crow_ne _ _ _ (by omega), fun k t _ => rfl⟩
  refine ⟨h', ?_, ?_, q2, ?_⟩
  · simp only [f_X1_goBy, vB_def]
    rw [show L_X1_goBy_12 x FU 0 (u2 h 7 4 (h 7 4 + x)) = some h' from q1, Option.bind_some]
  · rw [q4 7 4 (by omega), u2_at, if_pos ⟨rfl, rfl⟩]
  · intro k j hk
    rw [q4 k j (by omega), u2_at, if_neg (by omega)]
