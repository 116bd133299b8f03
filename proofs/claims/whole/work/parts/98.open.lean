theorem Inv_init : ∃ u, f_start (fun _ _ => 0) = some u ∧ Inv 0 137 u (fun _ => none) := sorry
theorem Inv_step : ∀ (sc : Nat → Int32) (Ls : Nat), Ls ≤ 3072 → ∀ k N h q, Inv k N h q → 6 * k + 6 ≤ Ls → ∃ t, f_step sc Ls (nI (6 * k)) q N h = some t ∧ Inv (k + 1) t.1 t.2.1 t.2.2 := sorry
