/-! books, prices, ripens: the answers of both sides -/
theorem m_prices (h : Hp) (p e : Int32) : f_X12_prices h p e = if (1 ≤ p ∧ p ≤ 9) ∧ (0 ≤ e ∧ e ≤ 9) then some (10 * h 111 43 + h 111 44, u2 (u2 (u2 h 111 0 0) 111 43 p) 111 44 e) else some (-2, u2 h 111 0 0) := by
  have e1 := in_i p 1 9
  have e2 := in_i e 0 9
  simp only [f_X12_prices, vB_def, show (1 : Int64) = (1 : Int32).toInt64 from rfl, show (9 : Int64) = (9 : Int32).toInt64 from rfl, show (0 : Int64) = (0 : Int32).toInt64 from rfl, e1, e2, Option.bind_some]
  by_cases h1 : 1 ≤ p ∧ p ≤ 9 <;> by_cases h2 : 0 ≤ e ∧ e ≤ 9 <;> simp [h1, h2, u2_at]
theorem k_prices (h : Hp) (p e : Int32) : f_X11_prices h p e = if (1 ≤ p ∧ p ≤ 9) ∧ (0 ≤ e ∧ e ≤ 9) then some (10 * h 0 9 + h 0 10, u2 (u2 h 0 9 p) 0 10 e) else some (-2, h) := by
  simp only [f_X11_prices, vB_def]
  by_cases h1 : p < 1
  · rw [if_pos h1, if_neg (fun q => absurd q.1.1 (i_nle.mpr h1))]
  · rw [if_neg h1]
    by_cases h2 : 9 < p
    · rw [if_pos h2, if_neg (fun q => absurd q.1.2 (i_nle.mpr h2))]
    · rw [if_neg h2]
      by_cases h3 : e < 0
      · rw [if_pos h3, if_neg (fun q => absurd q.2.1 (i_nle.mpr h3))]
      · rw [if_neg h3]
        by_cases h4 : e ≤ 9
        · rw [if_pos h4, if_pos ⟨⟨i_nlt.mp h1, i_nlt.mp h2⟩, i_nlt.mp h3, h4⟩]
        · rw [if_neg h4, if_neg (fun q => h4 q.2.2)]
theorem m_ripens (h : Hp) (b k : Int32) : f_X12_ripens h b k = if (0 ≤ b ∧ b ≤ 30) ∧ (1 ≤ k ∧ k ≤ 30) then some (100 * h 111 37 + h 111 38, u2 (u2 (u2 h 111 0 0) 111 37 b) 111 38 k) else some (-2, u2 h 111 0 0) := by
  have e1 := in_i b 0 30
  have e2 := in_i k 1 30
  simp only [f_X12_ripens, vB_def, show (1 : Int64) = (1 : Int32).toInt64 from rfl, show (30 : Int64) = (30 : Int32).toInt64 from rfl, show (0 : Int64) = (0 : Int32).toInt64 from rfl, e1, e2, Option.bind_some]
  by_cases h1 : 0 ≤ b ∧ b ≤ 30 <;> by_cases h2 : 1 ≤ k ∧ k ≤ 30 <;> simp [h1, h2, u2_at]
theorem k_ripens (h : Hp) (b k : Int32) : f_X11_ripens h b k = if (0 ≤ b ∧ b ≤ 30) ∧ (1 ≤ k ∧ k ≤ 30) then some (100 * h 3 5 + h 3 6, u2 (u2 h 3 5 b) 3 6 k) else some (-2, h) := by
  simp only [f_X11_ripens, vB_def]
  by_cases h1 : b < 0
  · rw [if_pos h1, if_neg (fun q => absurd q.1.1 (i_nle.mpr h1))]
  · rw [if_neg h1]
    by_cases h2 : 30 < b
    · rw [if_pos h2, if_neg (fun q => absurd q.1.2 (i_nle.mpr h2))]
    · rw [if_neg h2]
      by_cases h3 : k < 1
      · rw [if_pos h3, if_neg (fun q => absurd q.2.1 (i_nle.mpr h3))]
      · rw [if_neg h3]
        by_cases h4 : k ≤ 30
        · rw [if_pos h4, if_pos ⟨⟨i_nlt.mp h1, i_nlt.mp h2⟩, i_nlt.mp h3, h4⟩]
        · rw [if_neg h4, if_neg (fun q => h4 q.2.2)]
-- the book of overs
theorem m_book (h : Hp) (x : Int32) {m : Nat} (hm : h 111 39 = nI m) (h16 : m ≤ 16) : f_X12_book h x = if 0 ≤ x ∧ x ≤ 99 then (if m = 16 then some (-4, u2 h 111 0 0) else some (nI (m + 1), u2 (u2 (u2 h 111 0 0) 134 m x) 111 39 (nI (m + 1)))) else some (-2, u2 h 111 0 0) := by
  have e1 := in_i x 0 99
  simp only [f_X12_book, vB_def, show (99 : Int64) = (99 : Int32).toInt64 from rfl, show (0 : Int64) = (0 : Int32).toInt64 from rfl, e1, Option.bind_some]
  by_cases h1 : 0 ≤ x ∧ x ≤ 99
  · have a1 : u2 h 111 0 0 111 39 = nI m := by rw [u2_at, if_neg (by decide)]; exact hm
    rw [a1, if_pos h1, if_neg (by decide), if_pos h1]
    by_cases h2 : m = 16
    · rw [if_pos h2, if_pos (by rw [h2]; rfl)]
    · rw [if_neg h2, if_neg (fun q => h2 ((nI_eq (by omega) (by omega)).mp (q.trans (show (16 : Int32) = nI 16 from rfl)))), if_pos (inB_nI (by omega) (by omega)), ix_nI (by omega)]
      have a2 : u2 (u2 h 111 0 0) 134 m x 111 39 = nI m := by rw [u2_at, if_neg (by omega)]; exact a1
      rw [a2, nI_1, u2_at, if_pos ⟨rfl, rfl⟩]
  · rw [if_neg h1, if_pos rfl, if_neg h1]
theorem k_book (h : Hp) (x : Int32) {m : Nat} (hm : h 53 3 = nI m) (h16 : m ≤ 16) : f_X11_book h x = if 0 ≤ x ∧ x ≤ 99 then (if m = 16 then some (-4, h) else some (nI (m + 1), u2 (u2 h 54 m x) 53 3 (nI (m + 1)))) else some (-2, h) := by
  simp only [f_X11_book, vB_def, hm]
  by_cases h1 : x < 0
  · rw [if_pos h1, if_neg (fun q => absurd q.1 (i_nle.mpr h1))]
  · rw [if_neg h1]
    by_cases h2 : x ≤ 99
    · rw [if_pos h2, if_pos (show 0 ≤ x ∧ x ≤ 99 from ⟨i_nlt.mp h1, h2⟩)]
      by_cases h3 : m = 16
      · rw [if_pos h3, if_neg (show ¬ nI m < 16 by rw [h3]; decide)]
      · have hlt : nI m < 16 := (nI_ltI (a := m) (b := 16) (by omega) (by omega)).mpr (by omega)
        have a2 : u2 h 54 m x 53 3 = nI m := by rw [u2_at, if_neg (by omega)]; exact hm
        have e : f_X2_enter h x = some (u2 (u2 h 54 m x) 53 3 (nI (m + 1))) := by
          simp only [f_X2_enter, vB_def, hm]
          rw [if_neg (fun q => absurd hlt (i_nlt.mpr q)), if_pos (inB_nI (by omega) (by omega)), ix_nI (by omega), a2, nI_1]
        rw [if_neg h3, if_pos hlt, e, Option.bind_some, u2_at, if_pos ⟨rfl, rfl⟩]
    · rw [if_neg h2, if_neg (fun q => h2 q.2)]
/-- what OVER x earns by the first m rows -/
def earn (lim : Nat → Int32) (x : Int32) (m : Nat) : Int32 := it (fun j s => s + (if lim j < x then -12 else x)) m 0 0
theorem earn_congr {f g : Nat → Int32} {x : Int32} {m : Nat} (h : ∀ i, i < m → f i = g i) : earn f x m = earn g x m := it_congr m 0 0 (fun i a _ h2 => by rw [h i (by omega)])
theorem m_earns (h : Hp) (x : Int32) {m : Nat} (hm : h 111 39 = nI m) (h16 : m ≤ 16) : f_X12_earns h x = some (earn (h 134) x m) := by
  have key := lpU (fun n j s => L_X12_earns_4 h x n s (nI j)) (fun j s => s + (if h 134 j < x then -12 else x)) m id (fun _ _ => True)
    (fun n a _ => by simp only [L_X12_earns_4, hm]; rw [if_pos (nI_le (Nat.le_refl m) (by omega))]; rfl)
    (fun n j a hj _ => ⟨by
      simp only [L_X12_earns_4, hm, vB_def]
      rw [if_neg (nI_ge hj (by omega)), if_pos (inB_nI (by omega) (by omega)), ix_nI (by omega), ite_some, Option.bind_some, nI_1], trivial⟩)
    m FU 0 0 (by omega) (FU_gt (by omega)) trivial
  have e := key.1
  simp only [f_X12_earns, vB_def]
  rw [show (L_X12_earns_4 h x FU 0 0) = some (earn (h 134) x m) from e]
  rfl
theorem k_earns (h : Hp) (x : Int32) {m : Nat} (hm : h 53 3 = nI m) (h16 : m ≤ 16) : f_X2_earnings h x = some (earn (h 54) x m) := by
  have key := lpU (fun n j s => L_X2_earnings_4 h x n s (nI j)) (fun j s => s + (if h 54 j < x then -12 else x)) m id (fun _ _ => True)
    (fun n a _ => by simp only [L_X2_earnings_4, hm]; rw [if_pos (nI_le (Nat.le_refl m) (by omega))]; rfl)
    (fun n j a hj _ => ⟨by
      simp only [L_X2_earnings_4, hm, vB_def]
      rw [if_neg (nI_ge hj (by omega)), if_pos (inB_nI (by omega) (by omega)), ix_nI (by omega), ite_some, Option.bind_some, nI_1], trivial⟩)
    m FU 0 0 (by omega) (FU_gt (by omega)) trivial
  have e := key.1
  simp only [f_X2_earnings, vB_def]
  rw [show (L_X2_earnings_4 h x FU 0 0) = some (earn (h 54) x m) from e]
  rfl
theorem m_over (h : Hp) (x : Int32) {m : Nat} (hm : h 111 39 = nI m) (h16 : m ≤ 16) : f_X12_over h x = if 0 ≤ x ∧ x ≤ 99 then some (1000 + earn (h 134) x m, u2 h 111 0 0) else some (-2, u2 h 111 0 0) := by
  have e1 := in_i x 0 99
  have e2 := m_earns (u2 h 111 0 0) x (m := m) (by rw [u2_at, if_neg (by decide)]; exact hm) h16
  rw [show u2 h 111 0 0 134 = h 134 from u2_ne _ _ _ (by decide)] at e2
  simp only [f_X12_over, vB_def, show (99 : Int64) = (99 : Int32).toInt64 from rfl, show (0 : Int64) = (0 : Int32).toInt64 from rfl, e1, e2, Option.bind_some]
  by_cases h1 : 0 ≤ x ∧ x ≤ 99
  · rw [if_pos h1, if_neg (by decide), if_pos h1]
  · rw [if_neg h1, if_pos rfl, if_neg h1]
theorem k_over (h : Hp) (x : Int32) {m : Nat} (hm : h 53 3 = nI m) (h16 : m ≤ 16) : f_X11_over h x = if 0 ≤ x ∧ x ≤ 99 then some (1000 + earn (h 54) x m) else some (-2) := by
  simp only [f_X11_over, k_earns h x hm h16, Option.bind_some]
  by_cases h1 : x < 0
  · rw [if_pos h1, if_neg (fun q => absurd q.1 (i_nle.mpr h1))]
  · rw [if_neg h1]
    by_cases h2 : x ≤ 99
    · rw [if_pos h2, if_pos ⟨i_nlt.mp h1, h2⟩]
    · rw [if_neg h2, if_neg (fun q => h2 q.2)]
/-- BEST OVER -/
def bestO (lim : Nat → Int32) (m : Nat) : Int32 := it (fun j b => if earn lim (nI j) m ≤ earn lim b m then b else nI j) 99 1 0
theorem bestO_congr {f g : Nat → Int32} {m : Nat} (h : ∀ i, i < m → f i = g i) : bestO f m = bestO g m := it_congr 99 1 0 (fun i a _ _ => by rw [earn_congr h, earn_congr h])
theorem m_bestOver (h : Hp) {m : Nat} (hm : h 111 39 = nI m) (h16 : m ≤ 16) : f_X12_bestOver h = some (bestO (h 134) m, u2 h 111 0 0) := by
  have e2 := fun x => m_earns (u2 h 111 0 0) x (m := m) (by rw [u2_at, if_neg (by decide)]; exact hm) h16
  rw [show u2 h 111 0 0 134 = h 134 from u2_ne _ _ _ (by decide)] at e2
  have key := lpU (fun n j b => L_X12_bestOver_9 (u2 h 111 0 0) n b (nI j)) (fun j b => if earn (h 134) (nI j) m ≤ earn (h 134) b m then b else nI j) 100 id (fun _ _ => True)
    (fun n a _ => by simp only [L_X12_bestOver_9]; rw [if_pos (by decide)]; rfl)
    (fun n j a hj _ => ⟨by
      simp only [L_X12_bestOver_9, vB_def, e2, Option.bind_some]
      rw [if_neg (f_le 100 rfl (by omega) (by omega)), ite_some, Option.bind_some, nI_1], trivial⟩)
    99 FU 1 0 (by omega) (FU_gt (by omega)) trivial
  simp only [f_X12_bestOver, vB_def]
  rw [show (L_X12_bestOver_9 (u2 h 111 0 0) FU 0 1) = some (bestO (h 134) m) from key.1]
  rfl
theorem k_bestOver (h : Hp) {m : Nat} (hm : h 53 3 = nI m) (h16 : m ≤ 16) : f_X11_bestOver h = some (bestO (h 54) m) := by
  have e2 := fun x => k_earns h x hm h16
  have key := lpU (fun n j (b : Int32) => L_X2_dearestOver_10 h n b (earn (h 54) b m) (nI j)) (fun j b => if earn (h 54) (nI j) m ≤ earn (h 54) b m then b else nI j) 100 id (fun _ _ => True)
    (fun n a _ => by simp only [L_X2_dearestOver_10]; rw [if_pos (by decide)]; rfl)
    (fun n j a hj _ => ⟨by
      simp only [L_X2_dearestOver_10, vB_def, e2, Option.bind_some]
      rw [if_neg (f_lt 99 rfl (by omega) (by omega)), ite_some, Option.bind_some, nI_1]
      by_cases q : earn (h 54) (nI j) m ≤ earn (h 54) a m
      · simp only [if_pos q]
      · simp only [if_neg q], trivial⟩)
    99 FU 1 0 (by omega) (FU_gt (by omega)) trivial
  simp only [f_X11_bestOver, f_X2_dearestOver, vB_def, e2, Option.bind_some]
  rw [show (L_X2_dearestOver_10 h FU 0 (earn (h 54) 0 m) 1) = some (bestO (h 54) m) from key.1]
  rfl
-- the book of tastes
theorem m_taste (h : Hp) (t b : Int32) : f_X12_taste h t b = if 0 ≤ t ∧ t ≤ 9 then some (h 135 (ix t) + 1, u2 (u2 (u2 h 111 0 0) 135 (ix t) (h 135 (ix t) + 1)) 136 (ix t) (h 136 (ix t) + (if b = 0 then 0 else 1))) else some (-2, u2 h 111 0 0) := by
  have e1 := in_i t 0 9
  simp only [f_X12_taste, vB_def, show (9 : Int64) = (9 : Int32).toInt64 from rfl, show (0 : Int64) = (0 : Int32).toInt64 from rfl, e1, Option.bind_some]
  by_cases h1 : 0 ≤ t ∧ t ≤ 9
  · have hin : inB t 10 := by
      have a1 := Int32.le_iff_toInt_le.mp h1.1
      have a2 := Int32.le_iff_toInt_le.mp h1.2
      have e0 : (0 : Int32).toInt = 0 := rfl
      have e9 : (9 : Int32).toInt = 9 := rfl
      exact ⟨by omega, by omega⟩
    simp only [if_pos h1, if_pos hin, ite_some, Option.bind_some, show ¬ (1 : Int32) = 0 by decide, if_false]
    simp [u2_at]
  · simp only [if_neg h1, if_true]
theorem k_taste (h : Hp) (t b : Int32) : f_X11_taste h t b = if 0 ≤ t ∧ t ≤ 9 then some (h 55 (ix t) + 1, u2 (u2 h 55 (ix t) (h 55 (ix t) + 1)) 56 (ix t) (h 56 (ix t) + (if b = 0 then 0 else 1))) else some (-2, h) := by
  simp only [f_X11_taste, f_X2_enterTaste, vB_def]
  by_cases h1 : 0 ≤ t ∧ t ≤ 9
  · have hin : inB t 10 := by
      have a1 := Int32.le_iff_toInt_le.mp h1.1
      have a2 := Int32.le_iff_toInt_le.mp h1.2
      have e0 : (0 : Int32).toInt = 0 := rfl
      have e9 : (9 : Int32).toInt = 9 := rfl
      exact ⟨by omega, by omega⟩
    simp only [if_pos h1, if_pos hin, if_neg (i_nlt.mpr h1.1), if_pos h1.2, ite_some, Option.bind_some]
    simp [u2_at]
  · rw [if_neg h1]
    by_cases h2 : t < 0
    · rw [if_pos h2]
    · rw [if_neg h2, if_neg (fun q => h1 ⟨i_nlt.mp h2, q⟩)]
