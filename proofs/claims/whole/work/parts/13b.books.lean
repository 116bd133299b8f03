/-! books, prices, ripens: the answers of both sides -/
theorem m_prices (h : Hp) (p e : Int32) : f_X12_prices h p e = if (1 ≤ p ∧ p ≤ 9) ∧ (0 ≤ e ∧ e ≤ 9) then some (10 * h 111 43 + h 111 44, u2 (u2 (u2 h 111 0 0) 111 43 p) 111 44 e) else some (-2, u2 h 111 0 0) := by
  have e1 := in_i p 1 9
  have e2 := in_i e 0 9
  simp only [f_X12_prices, vB_def, show (1 : Int64) = (1 : Int32).toInt64 from rfl, show (9 : Int64) = (9 : Int32).toInt64 from rfl, show (0 : Int64) = (0 : Int32).toInt64 from rfl, e1, e2, Option.bind_some]
  by_cases h1 : 1 ≤ p ∧ p ≤ 9 <;> by_cases h2 : 0 ≤ e ∧ e ≤ 9 <;> simp [h1, h2, u2_at]
theorem k_prices (h : Hp) (p e : Int32) : f_X11_prices h p e = if (1 ≤ p ∧ p ≤ 9) ∧ (0 ≤ e ∧ e ≤ 9) then some (10 * h 0 9 + h 0 10, u2 (u2 h 0 9 p) 0 10 e) else some (-2, h) := by
  simp only [f_X11_prices, vB_def]
  by_cases h1 : p < 1
  · rw [if_pos h1, if_neg (fun q => absurd q.1.1 (i_nle.mpr h1))]
  · rw [if_neg h1]
    by_cases h2 : 9 < p
    · rw [if_pos h2, if_neg (fun q => absurd q.1.2 (i_nle.mpr h2))]
    · rw [if_neg h2]
      by_cases h3 : e < 0
      · rw [if_pos h3, if_neg (fun q => absurd q.2.1 (i_nle.mpr h3))]
      · rw [if_neg h3]
        by_cases h4 : e ≤ 9
        · rw [if_pos h4, if_pos ⟨⟨i_nlt.mp h1, i_nlt.mp h2⟩, i_nlt.mp h3, h4⟩]
        · rw [if_neg h4, if_neg (fun q => h4 q.2.2)]
