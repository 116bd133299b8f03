/-! rounds: stands -/
theorem s_stands {k N : Nat} {h : Hp} {q : Qp} (H : Inv k N h q) (a o v : Int32) : ∃ u b h2, f_X11_stands q N h a o v = some u ∧ 137 ≤ u.2.1 ∧ f_X12_stands u.2.2.1 a o v = some (b, h2) ∧ u.1 = b ∧ Inv (k + 1) u.2.1 h2 u.2.2.2 := by
  have hN : 137 ≤ N := H.1
  have H' := Inv_u0 (Nat.le_succ k) H
  have Hg := Inv_asked H a o v
  have H2 := Inv_u0 (Nat.le_succ k) Hg
  have H3 := H2
  simp only [f_X11_stands, f_X12_stands, vB_def, k_isAsk, m_noAsk, Option.bind_some, asked_def]
  by_cases ca : askOk a o v
  · have A := asked_0 h N a o v
    generalize asked h N a o v = g at *
    obtain ⟨_, R, C, hT, hF, hR, hB, hS, hO, hL, hK, hP, hC⟩ := H3
    obtain ⟨n, n1, n2, n3, n4, n5, n6⟩ := hB
    have kl := k_lightest g N n2 (by rw [← n3, u0_ne _ _ (by decide)])
    rw [A.1, A.2.1, A.2.2] at kl
    have ml := m_standsFor (u2 g 111 0 0) a o v n2 hF.2.1 hF.2.2.2.1 n4 (fun i hi => (n6 i hi).2)
    simp only [if_pos ca, show ¬ (1 : Int32) = 0 by decide, if_false, kl, Option.bind_some]
    refine ⟨_, lgt (mrow (u2 g 111 0 0)) a (a + o) v n, _, rfl, (by show 137 ≤ N + 1; omega), (by simp only [if_true, ml, Option.bind_some]), ?_, H2⟩
    exact lgt_congr n2 (fun i hi => by rw [← (n6 i hi).1]; exact (crow_ne _ _ _ (by omega)).symm)
  · simp only [if_neg ca, if_true]
    exact ⟨_, _, _, rfl, hN, (by simp only [show ¬ (1 : Int32) = 0 by decide, if_false]), rfl, H'⟩
