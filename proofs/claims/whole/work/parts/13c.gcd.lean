/-! the greatest common divisor of both sides; brings, bestTaste -/
theorem lN_cmp0 {b : Nat} (hb : b < 2 ^ 62) : lg_cmp (lN b) 0 = 0 ↔ b = 0 := by
  rw [cmp_eq, show (0 : Int64) = lN 0 from rfl]
  exact pk_lEQ (by omega) (by omega)
theorem lN_eq0 {b : Nat} (hb : b < 2 ^ 62) : lN b = 0 ↔ b = 0 := by
  rw [show (0 : Int64) = lN 0 from rfl]
  exact pk_lEQ (by omega) (by omega)
theorem m_gcd : ∀ (b a n : Nat), a < 2 ^ 62 → b < 2 ^ 62 → b < n → L_X12_common_17 n (lN a) (lN b) = some (lN (Nat.gcd b a)) := by
  intro b
  induction b using Nat.strongRecOn with
  | ind b ih =>
    intro a n ha hb hn
    obtain ⟨n, rfl⟩ : ∃ q, n = q + 1 := ⟨n - 1, by omega⟩
    simp only [L_X12_common_17, vB_def]
    by_cases h0 : b = 0
    · rw [if_pos ((lN_cmp0 hb).mpr h0), h0, Nat.gcd_zero_left]
    · rw [if_neg (fun q => h0 ((lN_cmp0 hb).mp q)), if_neg (fun q => h0 ((lN_eq0 hb).mp q)), pk_lRem (by omega) (by omega) (by omega)]
      have hr : a % b < b := Nat.mod_lt _ (by omega)
      rw [ih (a % b) hr b n hb (by omega) (by omega), ← Nat.gcd_rec]
theorem k_gcd : ∀ (k a b n s : Nat), b < 2 ^ k → a < 2 ^ 62 → b < 2 ^ 62 → 2 * k + s < 200 → 2 * k < n → L_X11_commonDivisor_15 n (lN a) (lN b) (nI s) = some (lN (Nat.gcd b a)) := by
  intro k
  induction k with
  | zero =>
    intro a b n s hb ha hb2 hs hn
    have h0 : b = 0 := by simp at hb; exact hb
    obtain ⟨n, rfl⟩ : ∃ q, n = q + 1 := ⟨n - 1, by omega⟩
    simp only [L_X11_commonDivisor_15]
    rw [if_neg (f_le 200 rfl (by omega) (by omega)), if_pos ((lN_cmp0 hb2).mpr h0), h0, Nat.gcd_zero_left]
  | succ k ih =>
    intro a b n s hb ha hb2 hs hn
    obtain ⟨n, rfl⟩ : ∃ q, n = q + 2 := ⟨n - 2, by omega⟩
    rw [L_X11_commonDivisor_15]
    simp only [vB_def]
    rw [if_neg (f_le 200 rfl (by omega) (by omega))]
    by_cases h0 : b = 0
    · rw [if_pos ((lN_cmp0 hb2).mpr h0), h0, Nat.gcd_zero_left]
    · rw [if_neg (fun q => h0 ((lN_cmp0 hb2).mp q)), if_neg (fun q => h0 ((lN_eq0 hb2).mp q)), pk_lRem (by omega) (by omega) (by omega), nI_1]
      have hr : a % b < b := Nat.mod_lt _ (by omega)
      rw [L_X11_commonDivisor_15]
      simp only [vB_def]
      rw [if_neg (f_le 200 rfl (by omega) (by omega))]
      by_cases h1 : a % b = 0
      · rw [if_pos ((lN_cmp0 (by omega)).mpr h1), Nat.gcd_rec, h1, Nat.gcd_zero_left]
      · rw [if_neg (fun q => h1 ((lN_cmp0 (by omega)).mp q)), if_neg (fun q => h1 ((lN_eq0 (by omega)).mp q)), pk_lRem (by omega) (by omega) (by omega), nI_1]
        have hr2 : b % (a % b) < a % b := Nat.mod_lt _ (by omega)
        have hq : b % (a % b) + a % b ≤ b := by
          have e := Nat.div_add_mod b (a % b)
          have e2 : 1 ≤ b / (a % b) := (Nat.le_div_iff_mul_le (by omega)).mpr (by omega)
          have e3 : a % b * 1 ≤ a % b * (b / (a % b)) := Nat.mul_le_mul_left _ e2
          omega
        have hp : 2 ^ (k + 1) = 2 * 2 ^ k := by rw [Nat.pow_succ]; omega
        rw [ih (a % b) (b % (a % b)) n (s + 1 + 1) (by omega) (by omega) (by omega) (by omega) (by omega), ← Nat.gcd_rec, ← Nat.gcd_rec]
theorem l_toInt (x : Int32) : x.toInt64.toInt = x.toInt := by simp
theorem lN_sub_toInt {a b : Nat} (ha : a < 2 ^ 40) (hb : b < 2 ^ 40) : (lN a - lN b).toInt = (a : Int) - (b : Int) := by
  rw [Int64.toInt_sub, pk_lT (by omega), pk_lT (by omega)]
  apply Int.bmod_eq_of_le <;> omega
theorem abs_lN {x : Int64} {z : Int} (hx : x.toInt = z) (h1 : -1000000 < z) (h2 : z < 1000000) : (if 0 < x then x else -x) = lN z.natAbs := by
  apply Int64.toInt_inj.mp
  rw [pk_lT (by omega)]
  by_cases h : 0 < x
  · rw [if_pos h, hx]
    have := Int64.lt_iff_toInt_lt.mp h
    rw [hx] at this
    have e0 : (0 : Int64).toInt = 0 := rfl
    omega
  · rw [if_neg h, Int64.toInt_neg, hx]
    have h3 : ¬ (0 : Int64).toInt < x.toInt := fun q => h (Int64.lt_iff_toInt_lt.mpr q)
    have e0 : (0 : Int64).toInt = 0 := rfl
    rw [hx, e0] at h3
    rw [show (-z).bmod (2 ^ 64) = -z from by apply Int.bmod_eq_of_le <;> omega]
    omega
theorem abs_lN2 {x : Int64} {z : Int} (hx : x.toInt = z) (h1 : -1000000 < z) (h2 : z < 1000000) : (if (0 : Int32) ≤ lg_cmp x 0 then x else -x) = lN z.natAbs := by
  rw [← abs_lN hx h1 h2]
  by_cases h : 0 < x
  · rw [if_pos h, if_pos (Int32.le_iff_toInt_le.mpr (Int.le_of_lt (Int32.lt_iff_toInt_lt.mp ((cmp_gt x 0).mpr h))))]
  · rw [if_neg h]
    by_cases h0 : x = 0
    · subst h0; decide
    · rw [if_neg]
      intro q
      have h3 : ¬ lg_cmp x 0 < 0 := i_nlt.mpr q
      rw [cmp_lt] at h3
      apply h0
      apply Int64.toInt_inj.mp
      have e1 : ¬ (0 : Int64).toInt < x.toInt := fun q => h (Int64.lt_iff_toInt_lt.mpr q)
      have e2 : ¬ x.toInt < (0 : Int64).toInt := fun q => h3 (Int64.lt_iff_toInt_lt.mpr q)
      omega
/-- TASTES: above and below, as whole numbers -/
def gnZ (bo ti t : Nat) : Int := 20 * (bo + 1) - t * (ti + 2)
theorem gn_small {bo ti t : Nat} (h1 : bo ≤ ti) (h2 : ti ≤ 600) (h3 : t ≤ 9) : -20000 < gnZ bo ti t ∧ gnZ bo ti t < 20000 := by
  unfold gnZ
  have : t * (ti + 2) ≤ 9 * (ti + 2) := Nat.mul_le_mul_right _ h3
  constructor <;> (have e : ((t * (ti + 2) : Nat) : Int) = (t : Int) * (ti + 2) := by push_cast; rfl) <;> omega
theorem m_gain (h : Hp) {bo ti t : Nat} (h1 : bo ≤ ti) (h2 : ti ≤ 600) (h3 : t ≤ 9) (e1 : h 136 t = nI bo) (e2 : h 135 t = nI ti) : ∃ g : Int32, f_X12_gain h (nI t) = some g ∧ g.toInt = gnZ bo ti t := by
  refine ⟨20 * (nI bo + 1) - nI t * (nI ti + 2), ?_, ?_⟩
  · simp only [f_X12_gain, if_pos (inB_nI (show t < 10 by omega) (by omega)), ix_nI (show t < 2147483648 by omega), e1, e2]
  · have e : (20 : Int32) * (nI bo + 1) - nI t * (nI ti + 2) = nI (20 * (bo + 1)) - nI (t * (ti + 2)) := by
      rw [show (20 : Int32) = nI 20 from rfl, show (2 : Int32) = nI 2 from rfl, nI_1, nI_add, pk_mul, pk_mul]
    have hm : t * (ti + 2) ≤ 9 * (ti + 2) := Nat.mul_le_mul_right _ h3
    rw [e, pk_sub_toInt (by omega) (by omega)]
    unfold gnZ
    push_cast
    rfl
theorem k_gain (h : Hp) {bo ti t : Nat} (h1 : bo ≤ ti) (h2 : ti ≤ 600) (h3 : t ≤ 9) (e1 : h 56 t = nI bo) (e2 : h 55 t = nI ti) : f_X2_gainBelow h (nI t) = some (lN (ti + 2)) ∧ ∃ g : Int64, f_X2_gainAbove h (nI t) = some g ∧ g.toInt = gnZ bo ti t := by
  have hb : f_X2_gainBelow h (nI t) = some (lN (ti + 2)) := by
    simp only [f_X2_gainBelow]
    rw [if_pos (inB_nI (by omega) (by omega)), ix_nI (by omega), e2, nI_l (by omega), show (2 : Int64) = lN 2 from rfl, lN_add]
  refine ⟨hb, 20 * ((nI bo).toInt64 + 1) - (nI t).toInt64 * lN (ti + 2), ?_, ?_⟩
  · simp only [f_X2_gainAbove, hb, Option.bind_some]
    rw [if_pos (inB_nI (by omega) (by omega)), ix_nI (by omega), e1]
  · have e : (20 : Int64) * ((nI bo).toInt64 + 1) - (nI t).toInt64 * lN (ti + 2) = lN (20 * (bo + 1)) - lN (t * (ti + 2)) := by
      rw [nI_l (by omega), nI_l (by omega), show (20 : Int64) = lN 20 from rfl, lN_1, lN_mul, lN_mul]
    have hm : t * (ti + 2) ≤ 9 * (ti + 2) := Nat.mul_le_mul_right _ h3
    rw [e, lN_sub_toInt (by omega) (by omega)]
    unfold gnZ
    push_cast
    rfl
/-- what brings answers -/
def brV (bo ti t : Nat) (up : Int32) : Int64 := if up = 0 then lN (ti + 2) / lN (Nat.gcd (ti + 2) (gnZ bo ti t).natAbs) else 1000000 + Int64.ofInt (gnZ bo ti t) / lN (Nat.gcd (ti + 2) (gnZ bo ti t).natAbs)
theorem ofI_l {x : Int64} {z : Int} (h : x.toInt = z) : Int64.ofInt z = x := by rw [← h]; exact Int64.ofInt_toInt x
theorem gcd_pos2 (ti z : Nat) : 0 < Nat.gcd (ti + 2) z ∧ Nat.gcd (ti + 2) z ≤ ti + 2 := ⟨Nat.gcd_pos_of_pos_left _ (by omega), Nat.gcd_le_left _ (by omega)⟩
theorem m_common {x : Int64} {z : Int} {b : Nat} (hx : x.toInt = z) (h1 : -1000000 < z) (h2 : z < 1000000) (hb : b < 1900) : f_X12_common x (lN b) = some (lN (Nat.gcd b z.natAbs)) := by
  simp only [f_X12_common, vB_def, ite_some, Option.bind_some]
  rw [abs_lN2 hx h1 h2, m_gcd b z.natAbs FU (by omega) (by omega) (FU_gt (by omega))]
  rfl
theorem k_common {x : Int64} {z : Int} {b : Nat} (hx : x.toInt = z) (h1 : -1000000 < z) (h2 : z < 1000000) (hb : b < 1024) (hb0 : 0 < b) : f_X11_commonDivisor x (lN b) = some (lN (Nat.gcd b z.natAbs)) := by
  have e2 : (if 0 < lN b then lN b else -lN b) = lN b := if_pos ((pk_lLT (a := 0) (b := b) (by omega) (by omega)).mpr hb0)
  simp only [f_X11_commonDivisor, vB_def]
  rw [abs_lN hx h1 h2, e2, show (0 : Int32) = nI 0 from rfl, k_gcd 10 z.natAbs b FU 0 (by omega) (by omega) (by omega) (by omega) (FU_gt (by omega)), Option.bind_some]
  have hp : 0 < Nat.gcd b z.natAbs := Nat.gcd_pos_of_pos_left _ hb0
  have hl : Nat.gcd b z.natAbs ≤ b := Nat.gcd_le_left _ hb0
  rw [if_neg (show ¬ lN (Nat.gcd b z.natAbs) < 1 from fun q => absurd ((pk_lLT (a := Nat.gcd b z.natAbs) (b := 1) (by omega) (by omega)).mp q) (by omega))]
theorem rng09 {t : Int32} (h : 0 ≤ t ∧ t ≤ 9) : ∃ n : Nat, n ≤ 9 ∧ t = nI n := by
  have a1 := Int32.le_iff_toInt_le.mp h.1
  have a2 := Int32.le_iff_toInt_le.mp h.2
  have e0 : (0 : Int32).toInt = 0 := rfl
  have e9 : (9 : Int32).toInt = 9 := rfl
  have hin : inB t 10 := ⟨by omega, by omega⟩
  exact ⟨ix t, by have := ix_lt hin; omega, (inB_of hin).1⟩
theorem m_brings (h : Hp) (t up : Int32) (bo ti : Nat → Nat) (h1 : ∀ j, j < 10 → bo j ≤ ti j ∧ ti j ≤ 600 ∧ h 136 j = nI (bo j) ∧ h 135 j = nI (ti j)) : f_X12_brings h t up = if 0 ≤ t ∧ t ≤ 9 then some (brV (bo (ix t)) (ti (ix t)) (ix t) up, u2 h 111 0 0) else some (-2, u2 h 111 0 0) := by
  have e1 : f_X12_in t.toInt64 0 9 = some (if 0 ≤ t ∧ t ≤ 9 then 1 else 0) := in_i t 0 9
  simp only [f_X12_brings, vB_def, e1, Option.bind_some]
  by_cases hr : 0 ≤ t ∧ t ≤ 9
  · obtain ⟨n, hn, rfl⟩ := rng09 hr
    obtain ⟨q1, q2, q3, q4⟩ := h1 n (by omega)
    have r6 : u2 h 111 0 0 136 = h 136 := u2_ne _ _ _ (by decide)
    have r5 : u2 h 111 0 0 135 = h 135 := u2_ne _ _ _ (by decide)
    obtain ⟨g, g1, g2⟩ := m_gain (u2 h 111 0 0) q1 q2 hn (by rw [r6]; exact q3) (by rw [r5]; exact q4)
    obtain ⟨s1, s2⟩ := gn_small q1 q2 hn
    have hin : inB (nI n) 10 := inB_nI (by omega) (by omega)
    have eb : (h 135 n + 2).toInt64 = lN (ti n + 2) := by rw [q4, show (2 : Int32) = nI 2 from rfl, nI_add, nI_l (by omega)]
    obtain ⟨p1, p2⟩ := gcd_pos2 (ti n) (gnZ (bo n) (ti n) n).natAbs
    have hne : ¬ lN (Nat.gcd (ti n + 2) (gnZ (bo n) (ti n) n).natAbs) = 0 := fun q => by have := (lN_eq0 (by omega)).mp q; omega
    have gl : g.toInt64.toInt = gnZ (bo n) (ti n) n := by rw [l_toInt, g2]
    simp only [if_pos hr, if_pos hin, g1, Option.bind_some, ix_nI (show n < 2147483648 by omega), r5, eb, show ¬ (1 : Int32) = 0 by decide, if_false]
    rw [m_common gl (by omega) (by omega) (by omega), Option.bind_some, if_neg hne, if_neg hne]
    unfold brV
    rw [ofI_l gl]
    by_cases hu : up = 0
    · rw [if_pos hu, if_pos hu]
    · rw [if_neg hu, if_neg hu]
  · simp only [if_neg hr, if_true]
theorem k_brings (h : Hp) (t up : Int32) (bo ti : Nat → Nat) (h1 : ∀ j, j < 10 → bo j ≤ ti j ∧ ti j ≤ 600 ∧ h 56 j = nI (bo j) ∧ h 55 j = nI (ti j)) : f_X11_brings h t up = if 0 ≤ t ∧ t ≤ 9 then some (brV (bo (ix t)) (ti (ix t)) (ix t) up) else some (-2) := by
  simp only [f_X11_brings, vB_def]
  by_cases hr : 0 ≤ t ∧ t ≤ 9
  · rw [if_neg (i_nlt.mpr hr.1), if_pos hr.2, if_pos hr]
    obtain ⟨n, hn, rfl⟩ := rng09 hr
    obtain ⟨q1, q2, q3, q4⟩ := h1 n (by omega)
    obtain ⟨gb, g, g1, g2⟩ := k_gain h q1 q2 hn q3 q4
    obtain ⟨s1, s2⟩ := gn_small q1 q2 hn
    obtain ⟨p1, p2⟩ := gcd_pos2 (ti n) (gnZ (bo n) (ti n) n).natAbs
    have hne : ¬ lN (Nat.gcd (ti n + 2) (gnZ (bo n) (ti n) n).natAbs) = 0 := fun q => by have := (lN_eq0 (by omega)).mp q; omega
    simp only [g1, gb, Option.bind_some, ix_nI (show n < 2147483648 by omega)]
    rw [k_common g2 (by omega) (by omega) (by omega) (by omega), Option.bind_some, if_neg hne, if_neg hne]
    unfold brV
    rw [ofI_l g2]
    by_cases hu : up = 0
    · rw [if_pos hu, if_pos hu]
    · rw [if_neg hu, if_neg hu]
  · rw [if_neg hr]
    by_cases h2 : t < 0
    · rw [if_pos h2]
    · rw [if_neg h2, if_neg (fun q => hr ⟨i_nlt.mp h2, q⟩)]
/-- BEST TASTES -/
def bestT (bo ti : Nat → Nat) : Int32 := it (fun j b => if lg_cmp (Int64.ofInt (gnZ (bo j) (ti j) j) * lN (ti (ix b) + 2)) (Int64.ofInt (gnZ (bo (ix b)) (ti (ix b)) (ix b)) * lN (ti j + 2)) ≤ 0 then b else nI j) 9 1 0
theorem m_bestTaste (h : Hp) (bo ti : Nat → Nat) (h1 : ∀ j, j < 10 → bo j ≤ ti j ∧ ti j ≤ 600 ∧ h 136 j = nI (bo j) ∧ h 135 j = nI (ti j)) : f_X12_bestTaste h = some (bestT bo ti, u2 h 111 0 0) := by
  have r6 : u2 h 111 0 0 136 = h 136 := u2_ne _ _ _ (by decide)
  have r5 : u2 h 111 0 0 135 = h 135 := u2_ne _ _ _ (by decide)
  have key := lpU (fun n j b => L_X12_bestTaste_9 (u2 h 111 0 0) n b (nI j)) (fun j b => if lg_cmp (Int64.ofInt (gnZ (bo j) (ti j) j) * lN (ti (ix b) + 2)) (Int64.ofInt (gnZ (bo (ix b)) (ti (ix b)) (ix b)) * lN (ti j + 2)) ≤ 0 then b else nI j) 10 id (fun _ b => ∃ q : Nat, q ≤ 9 ∧ b = nI q)
    (fun n a _ => by simp only [L_X12_bestTaste_9]; rw [if_pos (by decide)]; rfl)
    (fun n j a hj hp => by
      obtain ⟨q, hq, rfl⟩ := hp
      obtain ⟨q1, q2, q3, q4⟩ := h1 j hj
      obtain ⟨w1, w2, w3, w4⟩ := h1 q (by omega)
      obtain ⟨g, g1, g2⟩ := m_gain (t := j) (u2 h 111 0 0) q1 q2 (by omega) (by rw [r6]; exact q3) (by rw [r5]; exact q4)
      obtain ⟨f, f1, f2⟩ := m_gain (t := q) (u2 h 111 0 0) w1 w2 hq (by rw [r6]; exact w3) (by rw [r5]; exact w4)
      have hin : inB (nI q) 10 := inB_nI (by omega) (by omega)
      have hin2 : inB (nI j) 10 := inB_nI (by omega) (by omega)
      have eb : (h 135 q + 2).toInt64 = lN (ti q + 2) := by rw [w4, show (2 : Int32) = nI 2 from rfl, nI_add, nI_l (by omega)]
      have eb2 : (h 135 j + 2).toInt64 = lN (ti j + 2) := by rw [q4, show (2 : Int32) = nI 2 from rfl, nI_add, nI_l (by omega)]
      have gl : Int64.ofInt (gnZ (bo j) (ti j) j) = g.toInt64 := ofI_l (by rw [l_toInt, g2])
      have fl : Int64.ofInt (gnZ (bo q) (ti q) q) = f.toInt64 := ofI_l (by rw [l_toInt, f2])
      simp only [L_X12_bestTaste_9, vB_def, g1, f1, Option.bind_some, r5, ix_nI (show j < 2147483648 by omega), ix_nI (show q < 2147483648 by omega), if_pos hin, if_pos hin2, ite_some, eb, eb2, gl, fl, nI_1]
      rw [if_neg (f_le 10 rfl (by omega) (by omega))]
      refine ⟨rfl, ?_⟩
      by_cases c : lg_cmp (g.toInt64 * lN (ti q + 2)) (f.toInt64 * lN (ti j + 2)) ≤ 0
      · rw [if_pos c]; exact ⟨q, hq, rfl⟩
      · rw [if_neg c]; exact ⟨j, by omega, rfl⟩)
    9 FU 1 0 (by omega) (FU_gt (by omega)) ⟨0, by omega, rfl⟩
  simp only [f_X12_bestTaste, vB_def]
  rw [show (L_X12_bestTaste_9 (u2 h 111 0 0) FU 0 1) = some (bestT bo ti) from key.1]
  rfl
theorem k_bestTaste (h : Hp) (bo ti : Nat → Nat) (h1 : ∀ j, j < 10 → bo j ≤ ti j ∧ ti j ≤ 600 ∧ h 56 j = nI (bo j) ∧ h 55 j = nI (ti j)) : f_X11_bestTaste h = some (bestT bo ti) := by
  have key := lpU (fun n j b => L_X2_dearestTastes_4 h n b (nI j)) (fun j b => if lg_cmp (Int64.ofInt (gnZ (bo j) (ti j) j) * lN (ti (ix b) + 2)) (Int64.ofInt (gnZ (bo (ix b)) (ti (ix b)) (ix b)) * lN (ti j + 2)) ≤ 0 then b else nI j) 10 id (fun _ b => ∃ q : Nat, q ≤ 9 ∧ b = nI q)
    (fun n a _ => by simp only [L_X2_dearestTastes_4]; rw [if_pos (by decide)]; rfl)
    (fun n j a hj hp => by
      obtain ⟨q, hq, rfl⟩ := hp
      obtain ⟨q1, q2, q3, q4⟩ := h1 j hj
      obtain ⟨w1, w2, w3, w4⟩ := h1 q (by omega)
      obtain ⟨gb, g, g1, g2⟩ := k_gain (t := j) h q1 q2 (by omega) q3 q4
      obtain ⟨fb, f, f1, f2⟩ := k_gain (t := q) h w1 w2 hq w3 w4
      simp only [L_X2_dearestTastes_4, vB_def, g1, gb, f1, fb, Option.bind_some, ix_nI (show j < 2147483648 by omega), ix_nI (show q < 2147483648 by omega), ite_some, ofI_l g2, ofI_l f2, nI_1]
      rw [if_neg (f_lt 9 rfl (by omega) (by omega))]
      refine ⟨rfl, ?_⟩
      by_cases c : lg_cmp (g * lN (ti q + 2)) (f * lN (ti j + 2)) ≤ 0
      · rw [if_pos c]; exact ⟨q, hq, rfl⟩
      · rw [if_neg c]; exact ⟨j, by omega, rfl⟩)
    9 FU 1 0 (by omega) (FU_gt (by omega)) ⟨0, by omega, rfl⟩
  simp only [f_X11_bestTaste, f_X2_dearestTastes, vB_def]
  rw [show (L_X2_dearestTastes_4 h FU 0 1) = some (bestT bo ti) from key.1]
  rfl
