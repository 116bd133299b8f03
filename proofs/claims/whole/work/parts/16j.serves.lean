/-! rounds: serves, stands -/
abbrev askOk (a o r : Int32) : Prop := (1 ≤ a ∧ a ≤ 360) ∧ (0 ≤ o ∧ o ≤ 99) ∧ (0 ≤ r ∧ r ≤ 36)
theorem k_isAsk (a o r : Int32) : f_X11_isAsk a o r = some (if askOk a o r then 1 else 0) := by
  unfold f_X11_isAsk
  by_cases c1 : a < 1
  · rw [if_pos c1, if_neg (fun p : askOk a o r => absurd p.1.1 (i_nle.mpr c1))]
  rw [if_neg c1]
  by_cases c2 : 360 < a
  · rw [if_pos c2, if_neg (fun p : askOk a o r => absurd p.1.2 (i_nle.mpr c2))]
  rw [if_neg c2]
  by_cases c3 : o < 0
  · rw [if_pos c3, if_neg (fun p : askOk a o r => absurd p.2.1.1 (i_nle.mpr c3))]
  rw [if_neg c3]
  by_cases c4 : 99 < o
  · rw [if_pos c4, if_neg (fun p : askOk a o r => absurd p.2.1.2 (i_nle.mpr c4))]
  rw [if_neg c4]
  by_cases c5 : r < 0
  · rw [if_pos c5, if_neg (fun p : askOk a o r => absurd p.2.2.1 (i_nle.mpr c5))]
  rw [if_neg c5]
  by_cases c6 : 36 < r
  · rw [if_pos c6, if_neg (fun p : askOk a o r => absurd p.2.2.2 (i_nle.mpr c6))]
  rw [if_neg c6, if_pos (show askOk a o r from ⟨⟨i_nlt.mp c1, i_nlt.mp c2⟩, ⟨i_nlt.mp c3, i_nlt.mp c4⟩, ⟨i_nlt.mp c5, i_nlt.mp c6⟩⟩)]
theorem m_noAsk (a o r : Int32) : f_X12_noAsk a o r = some (if askOk a o r then 0 else 1) := by
  have e1 : f_X12_in a.toInt64 1 360 = _ := in_i a 1 360
  have e2 : f_X12_in o.toInt64 0 99 = _ := in_i o 0 99
  have e3 : f_X12_in r.toInt64 0 36 = _ := in_i r 0 36
  unfold f_X12_noAsk
  rw [e1, Option.bind_some, e2, Option.bind_some, e3, Option.bind_some]
  by_cases c1 : 1 ≤ a ∧ a ≤ 360
  · rw [if_pos c1, if_neg (by decide)]
    by_cases c2 : 0 ≤ o ∧ o ≤ 99
    · rw [if_pos c2, if_neg (by decide)]
      by_cases c3 : 0 ≤ r ∧ r ≤ 36
      · rw [if_pos c3, if_neg (by decide), if_pos (show askOk a o r from ⟨c1, c2, c3⟩)]
      · rw [if_neg c3, if_pos rfl, if_neg (fun p : askOk a o r => c3 p.2.2)]
    · rw [if_neg c2, if_pos rfl, if_neg (fun p : askOk a o r => c2 p.2.1)]
  · rw [if_neg c1, if_pos rfl, if_neg (fun p : askOk a o r => c1 p.1)]
abbrev srv (p : Pr) (a m r : Int32) : Prop := p 6 = 0 ∧ (a ≤ pWt p ∧ pWt p ≤ m) ∧ p 5 ≤ r
theorem k_served (h : Hp) (A a : Nat) : f_X0_isServedBy h A a = some (if srv (crow h a) (h A 0) (h A 1) (h A 2) then 1 else 0) := by
  have e5 : h a 5 = crow h a 5 := (crow_at h a (by omega)).symm
  have e6 : h a 6 = crow h a 6 := (crow_at h a (by omega)).symm
  unfold f_X0_isServedBy f_X0_fits
  rw [k_weight, Option.bind_some, e5, e6]
  by_cases z : crow h a 6 = 0
  · rw [if_pos z]
    by_cases c1 : pWt (crow h a) < h A 0
    · rw [if_pos c1, Option.bind_some, if_pos rfl, if_neg (fun p : srv (crow h a) (h A 0) (h A 1) (h A 2) => absurd p.2.1.1 (i_nle.mpr c1))]
    rw [if_neg c1]
    by_cases c2 : h A 1 < pWt (crow h a)
    · rw [if_pos c2, Option.bind_some, if_pos rfl, if_neg (fun p : srv (crow h a) (h A 0) (h A 1) (h A 2) => absurd p.2.1.2 (i_nle.mpr c2))]
    rw [if_neg c2]
    by_cases c3 : h A 2 < crow h a 5
    · rw [if_pos c3, Option.bind_some, if_pos rfl, if_neg (fun p : srv (crow h a) (h A 0) (h A 1) (h A 2) => absurd p.2.2 (i_nle.mpr c3))]
    rw [if_neg c3, Option.bind_some, if_neg (by decide), if_pos (show srv (crow h a) (h A 0) (h A 1) (h A 2) from ⟨z, ⟨i_nlt.mp c1, i_nlt.mp c2⟩, i_nlt.mp c3⟩)]
  · rw [if_neg z, if_neg (fun p : srv (crow h a) (h A 0) (h A 1) (h A 2) => z p.1)]
theorem m_served (h : Hp) {i R C r c hh w : Nat} (a o v : Int32) (hi : i < 24) (hR : R ≤ 6) (hC : C ≤ 6) (ok : okP (h 113) R C (mrow h i) r c hh w) : f_X12_isServed h (nI i) a o v = some (if srv (mrow h i) a (a + o) v then 1 else 0) := by
  have hb : inB (nI i) 24 := inB_nI hi (by omega)
  unfold f_X12_isServed
  simp only [if_pos hb, ix_nI (show i < 2147483648 by omega), m_weighsOf h hi hR hC ok, m_rind h hR hC ok, Option.bind_some, in_i]
  by_cases z : h 119 i = 0
  · rw [if_pos z]
    by_cases c1 : a ≤ pWt (mrow h i) ∧ pWt (mrow h i) ≤ a + o
    · rw [if_pos c1, if_neg (by decide)]
      by_cases c3 : v < mrow h i 5
      · rw [if_pos c3, if_neg (fun p : srv (mrow h i) a (a + o) v => absurd p.2.2 (i_nle.mpr c3))]
      · rw [if_neg c3, if_pos (show srv (mrow h i) a (a + o) v from ⟨z, c1, i_nlt.mp c3⟩)]
    · rw [if_neg c1, if_pos rfl, if_neg (fun p : srv (mrow h i) a (a + o) v => c1 p.2.1)]
  · rw [if_neg z, if_neg (fun p : srv (mrow h i) a (a + o) v => z p.1)]
/-- an ask of its own, in cell N -/
def asked (h : Hp) (N : Nat) (a o r : Int32) : Hp := u2 (u2 (u2 (va_up h N (fun _ => 0)) N 0 a) N 1 (a + o)) N 2 r
theorem asked_def (h : Hp) (N : Nat) (a o r : Int32) : f_X0_init (va_up h N (fun _ => 0)) N a o r = some (asked h N a o r) := rfl
theorem asked_ne (h : Hp) {N k : Nat} (a o r : Int32) (hk : k ≠ N) : asked h N a o r k = h k := by
  unfold asked
  rw [u2_ne _ _ _ hk, u2_ne _ _ _ hk, u2_ne _ _ _ hk]
  unfold va_up
  rw [if_neg hk]
theorem asked_0 (h : Hp) (N : Nat) (a o r : Int32) : asked h N a o r N 0 = a ∧ asked h N a o r N 1 = a + o ∧ asked h N a o r N 2 = r := by
  unfold asked
  simp [u2_at]
theorem Inv_asked {k N : Nat} {h : Hp} {q : Qp} (H : Inv k N h q) (a o r : Int32) : Inv k (N + 1) (asked h N a o r) q :=
  Inv_keep (Nat.le_refl k) (by omega) (fun b j hf => by rw [asked_ne _ _ _ _ (fun e => hf (by unfold free; omega))]) H
theorem s_serves {k N : Nat} {h : Hp} {q : Qp} (H : Inv k N h q) (x a o v : Int32) : ∃ u b h2, f_X11_serves q N h x a o v = some u ∧ 137 ≤ u.2.1 ∧ f_X12_serves u.2.2.1 x a o v = some (b, h2) ∧ u.1 = b ∧ Inv (k + 1) u.2.1 h2 u.2.2.2 := by
  have H1 := H
  have H' := Inv_u0 (Nat.le_succ k) H
  have H2 := Inv_u0 (Nat.le_succ k) (Inv_asked H a o v)
  obtain ⟨h0, R, C, hT, hF, hR, hB, hS, hO, hL, hK, hP, hC⟩ := H
  obtain ⟨n, n1, n2, n3, n4, n5, n6⟩ := hB
  simp only [f_X11_serves, f_X12_serves, vB_def, k_isAsk, m_noAsk, Option.bind_some, asked_def]
  by_cases c : ∃ i, i < n ∧ x = nI i
  · obtain ⟨i, hi, rfl⟩ := c
    obtain ⟨ci, r, c, hh, w, ok⟩ := n6 i hi
    rw [k_knows_in h n2 n3 hi, Option.bind_some, if_neg (by decide)]
    by_cases ca : askOk a o v
    · simp only [if_pos ca, show ¬ (1 : Int32) = 0 by decide, if_false, if_pos (inB_nI (show i < 24 by omega) (by omega)), ix_nI (show i < 2147483648 by omega), k_served, Option.bind_some]
      rw [(asked_0 h N a o v).1, (asked_0 h N a o v).2.1, (asked_0 h N a o v).2.2, crow_keep (h := h) (fun j => by rw [asked_ne _ _ _ _ (by omega)]), ci]
      have am : mrow (u2 (asked h N a o v) 111 0 0) i = mrow h i := by rw [mrow_u0]; exact mrow_keep i (fun k j hk => by rw [asked_ne _ _ _ _ (by omega)])
      have ak : u2 (asked h N a o v) 111 0 0 113 = h 113 := by rw [u0_ne _ _ (by decide), asked_ne _ _ _ _ (by omega)]
      have mp := m_noPiece_in (u2 (asked h N a o v) 111 0 0) n2 (by rw [u0_j _ _ (by decide), asked_ne _ _ _ _ (by omega)]; exact n4) hi
      have ms := m_served (u2 (asked h N a o v) 111 0 0) a o v (show i < 24 by omega) hF.2.1 hF.2.2.2.1 (by rw [am, ak]; exact ok)
      rw [am] at ms
      by_cases cs : srv (mrow h i) a (a + o) v
      · simp only [if_pos cs] at ms ⊢
        refine ⟨_, _, _, rfl, (by show 137 ≤ N + 1; omega), ?_, rfl, H2⟩
        rw [mp, Option.bind_some, if_pos rfl, if_pos trivial, ms, Option.bind_some, if_neg (by decide)]
      · simp only [if_neg cs] at ms ⊢
        refine ⟨_, _, _, rfl, (by show 137 ≤ N + 1; omega), ?_, rfl, H2⟩
        rw [mp, Option.bind_some, if_pos rfl, if_pos trivial, ms, Option.bind_some, if_pos rfl]
    · simp only [if_neg ca, if_true]
      refine ⟨_, _, _, rfl, h0, ?_, rfl, H'⟩
      rw [m_noPiece_in _ n2 (by rw [u0_j _ _ (by decide)]; exact n4) hi, Option.bind_some, if_pos rfl, if_neg (by decide)]
  · rw [k_knows_out h n2 n3 c, Option.bind_some, if_pos rfl]
    refine ⟨_, _, _, rfl, h0, ?_, rfl, H'⟩
    rw [m_noPiece_out _ n1 n2 (by rw [u0_j _ _ (by decide)]; exact n4) c, Option.bind_some, if_neg (by decide)]
