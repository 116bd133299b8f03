/-! rounds: stands -/
/-- the lightest that serves -/
def lgt (B : Nat → Pr) (a m r : Int32) (n : Nat) : Int32 := it (fun i f => if srv (B i) a m r ∧ (f = -9 ∨ ¬ pWt (B (ix f)) ≤ pWt (B i)) then nI i else f) n 0 (-9)
theorem nI_n9 {j : Nat} (hj : j < 1000) : ¬ nI j = (-9 : Int32) := f_eq (-9) rfl (by omega) (by omega)
theorem it_congrP {α : Type} {f g : Nat → α → α} (P : α → Prop) : ∀ (d j : Nat) (a : α), P a → (∀ i a, j ≤ i → i < j + d → P a → f i a = g i a ∧ P (g i a)) → it f d j a = it g d j a
  | 0, _, _, _, _ => rfl
  | d + 1, j, a, hp, h => by
    simp only [it]
    obtain ⟨e, p⟩ := h j a (Nat.le_refl j) (by omega) hp
    rw [e]
    exact it_congrP P d (j + 1) _ p (fun i a h1 h2 => h i a (by omega) (by omega))
theorem lgt_stp {B B' : Nat → Pr} {a m r f : Int32} {j : Nat} (ej : B j = B' j) (hf : f = -9 ∨ B (ix f) = B' (ix f)) : (if srv (B j) a m r ∧ (f = -9 ∨ ¬ pWt (B (ix f)) ≤ pWt (B j)) then nI j else f) = (if srv (B' j) a m r ∧ (f = -9 ∨ ¬ pWt (B' (ix f)) ≤ pWt (B' j)) then nI j else f) := by
  rw [ej]
  rcases hf with h9 | h9
  · by_cases s : srv (B' j) a m r
    · rw [if_pos ⟨s, Or.inl h9⟩, if_pos ⟨s, Or.inl h9⟩]
    · rw [if_neg (fun p => s p.1), if_neg (fun p => s p.1)]
  · rw [h9]
theorem lgt_congr {B B' : Nat → Pr} {a m r : Int32} {n : Nat} (hn : n ≤ 24) (e : ∀ i, i < n → B i = B' i) : lgt B a m r n = lgt B' a m r n := by
  refine it_congrP (fun f : Int32 => f = -9 ∨ ∃ t, t < n ∧ f = nI t) n 0 (-9) (Or.inl rfl) (fun j f _ hj hf => ⟨?_, ?_⟩)
  · refine lgt_stp (e j (by omega)) (hf.imp id ?_)
    rintro ⟨t, ht, et⟩
    rw [et, ix_nI (by omega)]
    exact e t ht
  · by_cases q : srv (B' j) a m r ∧ (f = -9 ∨ ¬ pWt (B' (ix f)) ≤ pWt (B' j))
    · rw [if_pos q]; exact Or.inr ⟨j, by omega, rfl⟩
    · rw [if_neg q]; exact hf
theorem k_lightest (h : Hp) (A : Nat) {n : Nat} (hn : n ≤ 24) (e : h 7 3 = nI n) : f_X9_lightestPiece h A = some (lgt (fun i => crow h (10 + i)) (h A 0) (h A 1) (h A 2) n) := by
  have key := lpU (fun N j b => L_X9_lightestPiece_8 h A N b (if b = -9 then 0 else pWt (crow h (10 + ix b))) (nI j)) (fun i f => if srv (crow h (10 + i)) (h A 0) (h A 1) (h A 2) ∧ (f = -9 ∨ ¬ pWt (crow h (10 + ix f)) ≤ pWt (crow h (10 + i))) then nI i else f) n id (fun _ _ => True)
    (fun N a _ => by simp only [L_X9_lightestPiece_8, e]; rw [if_pos (nI_le (Nat.le_refl n) (by omega))]; rfl)
    (fun N j b hj _ => ⟨by
      have ej : (if nI j = (-9 : Int32) then (0 : Int32) else pWt (crow h (10 + ix (nI j)))) = pWt (crow h (10 + j)) := by rw [if_neg (nI_n9 (by omega)), ix_nI (by omega)]
      simp only [L_X9_lightestPiece_8, e, vB_def, vK]
      rw [if_neg (nI_ge hj (by omega)), if_pos (inB_nI (show j < 24 by omega) (by omega)), ix_nI (by omega), k_weight, k_served]
      simp only [Option.bind_some, nI_1]
      by_cases c1 : srv (crow h (10 + j)) (h A 0) (h A 1) (h A 2)
      · simp only [if_pos c1, show ¬ (1 : Int32) = 0 by decide, if_false]
        by_cases c2 : b = -9
        · simp only [if_pos c2, Option.bind_some]
          rw [if_pos (show srv (crow h (10 + j)) (h A 0) (h A 1) (h A 2) ∧ (b = -9 ∨ ¬ pWt (crow h (10 + ix b)) ≤ pWt (crow h (10 + j))) from ⟨c1, Or.inl c2⟩), ej]
        · simp only [if_neg c2]
          by_cases c3 : pWt (crow h (10 + ix b)) ≤ pWt (crow h (10 + j))
          · simp only [if_pos c3, Option.bind_some]
            rw [if_neg (show ¬ (srv (crow h (10 + j)) (h A 0) (h A 1) (h A 2) ∧ (b = -9 ∨ ¬ pWt (crow h (10 + ix b)) ≤ pWt (crow h (10 + j)))) from fun p => p.2.elim c2 (fun q => q c3)), if_neg c2]
          · simp only [if_neg c3, Option.bind_some]
            rw [if_pos (show srv (crow h (10 + j)) (h A 0) (h A 1) (h A 2) ∧ (b = -9 ∨ ¬ pWt (crow h (10 + ix b)) ≤ pWt (crow h (10 + j))) from ⟨c1, Or.inr c3⟩), ej]
      · simp only [if_neg c1, if_true, Option.bind_some]
        rw [if_neg (show ¬ (srv (crow h (10 + j)) (h A 0) (h A 1) (h A 2) ∧ (b = -9 ∨ ¬ pWt (crow h (10 + ix b)) ≤ pWt (crow h (10 + j)))) from fun p => c1 p.1)], trivial⟩)
    n FU 0 (-9) (by omega) (FU_gt (by omega)) trivial
  simp only [f_X9_lightestPiece, vB_def]
  rw [show L_X9_lightestPiece_8 h A FU (-9) 0 0 = _ from key.1, Option.bind_some]
  rfl
theorem m_standsFor (h : Hp) {n R C : Nat} (a o v : Int32) (hn : n ≤ 24) (hR : R ≤ 6) (hC : C ≤ 6) (e : h 111 9 = nI n) (ok : ∀ i, i < n → okQ (h 113) R C (mrow h i)) : f_X12_standsFor h a o v = some (lgt (mrow h) a (a + o) v n) := by
  have key := lpU (fun N j b => L_X12_standsFor_7 h a o v N b (nI j)) (fun i f => if srv (mrow h i) a (a + o) v ∧ (f = -9 ∨ ¬ pWt (mrow h (ix f)) ≤ pWt (mrow h i)) then nI i else f) n id (fun _ f => f = -9 ∨ ∃ t, t < n ∧ f = nI t)
    (fun N b _ => by simp only [L_X12_standsFor_7, e]; rw [if_pos (nI_le (Nat.le_refl n) (by omega))]; rfl)
    (fun N j b hj hP => ⟨by
      obtain ⟨r, c, hh, w, oj⟩ := ok j hj
      simp only [L_X12_standsFor_7, e, vB_def, vK]
      rw [if_neg (nI_ge hj (by omega)), m_served h a o v (show j < 24 by omega) hR hC oj, Option.bind_some, nI_1]
      by_cases c1 : srv (mrow h j) a (a + o) v
      · simp only [if_pos c1, show ¬ (1 : Int32) = 0 by decide, if_false]
        by_cases c2 : b = -9
        · simp only [if_pos c2, Option.bind_some]
          rw [if_pos (show srv (mrow h j) a (a + o) v ∧ (b = -9 ∨ ¬ pWt (mrow h (ix b)) ≤ pWt (mrow h j)) from ⟨c1, Or.inl c2⟩)]
        · simp only [if_neg c2]
          obtain ⟨t, ht, rfl⟩ := hP.resolve_left c2
          obtain ⟨r', c', hh', w', ot⟩ := ok t ht
          rw [m_weighsOf h (show j < 24 by omega) hR hC oj, m_weighsOf h (show t < 24 by omega) hR hC ot, ix_nI (by omega)]
          simp only [Option.bind_some]
          by_cases c3 : pWt (mrow h t) ≤ pWt (mrow h j)
          · simp only [if_pos c3, Option.bind_some]
            rw [if_neg (show ¬ (srv (mrow h j) a (a + o) v ∧ (nI t = -9 ∨ ¬ pWt (mrow h t) ≤ pWt (mrow h j))) from fun p => p.2.elim c2 (fun q => q c3))]
          · simp only [if_neg c3, Option.bind_some]
            rw [if_pos (show srv (mrow h j) a (a + o) v ∧ (nI t = -9 ∨ ¬ pWt (mrow h t) ≤ pWt (mrow h j)) from ⟨c1, Or.inr c3⟩)]
      · simp only [if_neg c1, if_true, Option.bind_some]
        rw [if_neg (show ¬ (srv (mrow h j) a (a + o) v ∧ (b = -9 ∨ ¬ pWt (mrow h (ix b)) ≤ pWt (mrow h j))) from fun p => c1 p.1)], by
        by_cases q : srv (mrow h j) a (a + o) v ∧ (b = -9 ∨ ¬ pWt (mrow h (ix b)) ≤ pWt (mrow h j))
        · rw [if_pos q]; exact Or.inr ⟨j, hj, rfl⟩
        · rw [if_neg q]; exact hP⟩)
    n FU 0 (-9) (by omega) (FU_gt (by omega)) (Or.inl rfl)
  simp only [f_X12_standsFor, vB_def]
  rw [show L_X12_standsFor_7 h a o v FU (-9) 0 = _ from key.1, Option.bind_some]
  rfl
