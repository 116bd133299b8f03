/-! the plans: where blocks lie, sets of asks -/
def stI (r hh : Nat) : Nat := r * (13 - r) / 2 + hh - 1
theorem stI_lt : ∀ r, r < 6 → ∀ hh, hh < 7 → 1 ≤ hh → r + hh ≤ 6 → stI r hh < 21 := by decide +kernel
theorem stI_inj0 : ∀ (r : Fin 6) (hh : Fin 7) (r' : Fin 6) (hh' : Fin 7), (1 ≤ hh.val ∧ r.val + hh.val ≤ 6 ∧ 1 ≤ hh'.val ∧ r'.val + hh'.val ≤ 6 ∧ stI r.val hh.val = stI r'.val hh'.val) → (r.val = r'.val ∧ hh.val = hh'.val) := by decide +kernel
theorem stI_inj (r : Nat) (a : r < 6) (hh : Nat) (b : hh < 7) (r' : Nat) (a' : r' < 6) (hh' : Nat) (b' : hh' < 7) (c : 1 ≤ hh) (d : r + hh ≤ 6) (c' : 1 ≤ hh') (d' : r' + hh' ≤ 6) (e : stI r hh = stI r' hh') : r = r' ∧ hh = hh' := stI_inj0 ⟨r, a⟩ ⟨hh, b⟩ ⟨r', a'⟩ ⟨hh', b'⟩ ⟨c, d, c', d', e⟩
theorem spt_st (r c hh w : Nat) : spt r c hh w = stI r hh * 21 + stI c w := rfl
theorem spt_lt {R C r c hh w : Nat} (hR : R ≤ 6) (hC : C ≤ 6) (b : blkIn R C r c hh w) : spt r c hh w < 441 := by
  have h1 := stI_lt r (by omega) hh (by omega) (by omega) (by omega)
  have h2 := stI_lt c (by omega) w (by omega) (by omega) (by omega)
  rw [spt_st]
  omega
theorem spt_inj {R C r c hh w r' c' hh' w' : Nat} (hR : R ≤ 6) (hC : C ≤ 6) (b : blkIn R C r c hh w) (b' : blkIn R C r' c' hh' w') (e : spt r c hh w = spt r' c' hh' w') : hh = hh' ∧ w = w' ∧ r = r' ∧ c = c' := by
  have h2 := stI_lt c (by omega) w (by omega) (by omega) (by omega)
  have h4 := stI_lt c' (by omega) w' (by omega) (by omega) (by omega)
  rw [spt_st, spt_st] at e
  have e1 := stI_inj r (by omega) hh (by omega) r' (by omega) hh' (by omega) (by omega) (by omega) (by omega) (by omega) (by omega)
  have e2 := stI_inj c (by omega) w (by omega) c' (by omega) w' (by omega) (by omega) (by omega) (by omega) (by omega) (by omega)
  exact ⟨e1.2, e2.2, e1.1, e2.1⟩
theorem st_nI {r hh : Nat} (hr : r ≤ 6) (h1 : 1 ≤ hh) (h2 : hh ≤ 6) : nI r * (13 - nI r) / 2 + nI hh - 1 = nI (stI r hh) := by
  have hm : r * (13 - r) ≤ 6 * 13 := Nat.mul_le_mul hr (by omega)
  rw [show (13 : Int32) = nI 13 from rfl, nI_sub (show r ≤ 13 by omega), nI_mul, show (2 : Int32) = nI 2 from rfl, nI_div (by omega) (by omega), nI_add, show (1 : Int32) = nI 1 from rfl, nI_sub (by omega)]
  rfl
theorem and_nI : ∀ a, a < 16 → ∀ b, b < 16 → nI a &&& nI b = nI (a &&& b) := by decide +kernel
theorem xor_nI : ∀ s, s < 16 → ∀ p, p < 16 → p &&& s = p → nI s ^^^ nI p = nI (s - p) := by decide +kernel
theorem sub_gap : ∀ s, s < 16 → ∀ v, v < 16 → v &&& s = v → ∀ p, p < v → (v - 1) &&& s < p → ¬ p &&& s = p := by decide +kernel
theorem sub_and : ∀ s, s < 16 → ∀ v, v < 16 → (v &&& s) &&& s = v &&& s ∧ v &&& s ≤ v ∧ v &&& s ≤ s := by decide +kernel
theorem mn3 {e x F : Nat} (h : e ≤ F) : min e x = min e (min x F) := by omega
def g2 (A B : Nat → Nat) (s p : Nat) : Nat := if p &&& s = p then A p + B (s - p) else FAR
/-- the least by a cut -/
def mG (Dv : Nat → Nat → Nat → Nat → Nat → Nat) (pr : Nat → Nat) (r c hh w s : Nat) : Nat := min (mins (fun x => mins (gO (Dv r c x w) (Dv (r + x) c (hh - x) w) s (pr w)) (s + 1) 0) (hh - 1) 1) (mins (fun x => mins (gO (Dv r c hh x) (Dv r (c + x) hh (w - x)) s (pr hh)) (s + 1) 0) (w - 1) 1)
theorem mG_le (Dv : Nat → Nat → Nat → Nat → Nat → Nat) (pr : Nat → Nat) (r c hh w s : Nat) : mG Dv pr r c hh w s ≤ FAR := by
  unfold mG
  have := mins_le (fun x => mins (gO (Dv r c x w) (Dv (r + x) c (hh - x) w) s (pr w)) (s + 1) 0) (hh - 1) 1
  omega
theorem gO_add (A B : Nat → Nat) (s pr b : Nat) (hb : b ≤ FAR) : min b (pr + mins (g2 A B s) (s + 1) 0) = min b (mins (gO A B s pr) (s + 1) 0) := by
  refine mins_add hb (s + 1) 0 (fun p _ _ => ?_)
  unfold g2 gO
  by_cases c : p &&& s = p
  · rw [if_pos c, if_pos c]; exact Or.inl (by omega)
  · rw [if_neg c, if_neg c]; exact Or.inr ⟨rfl, rfl⟩
