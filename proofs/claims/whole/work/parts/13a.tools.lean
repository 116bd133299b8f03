/-! THE PURE SIDE: tools -/
theorem bind_ite {α β : Type} {c : Prop} [Decidable c] (a b : Option α) (k : α → Option β) : (if c then a else b).bind k = if c then a.bind k else b.bind k := by split <;> rfl
theorem ite_some {α : Type} {c : Prop} [Decidable c] (a b : α) : (if c then some a else some b) = some (if c then a else b) := by split <;> rfl
theorem vB_def {α β : Type} (e : α) (k : α → Option β) : vB e k = k e := rfl
theorem u2_at {α : Type} (f : Nat → Nat → α) (a j : Nat) (v : α) (k i : Nat) : u2 f a j v k i = if k = a ∧ i = j then v else f k i := by
  unfold u2
  by_cases h : k = a
  · subst h
    by_cases h2 : i = j <;> simp [h2]
  · simp [h]
theorem u2_row {α : Type} (f : Nat → Nat → α) (a j : Nat) (v : α) : u2 f a j v a = va_up (f a) j v := by
  funext i
  rw [u2_at]
  unfold va_up
  simp
theorem ix_nI {n : Nat} (h : n < 2147483648) : ix (nI n) = n := nI_clamp h
theorem inB_nI {n m : Nat} (h : n < m) (hm : m ≤ 2147483648) : inB (nI n) m := by
  have e : (nI n).toInt = (n : Int) := nI_toInt (by omega)
  unfold inB
  rw [e]
  omega
theorem inB_of {x : Int32} {m : Nat} (h : inB x m) : x = nI (ix x) ∧ ix x < m := by
  have h1 := ix_lt h
  have h0 : (0 : Int) ≤ x.toInt := h.1
  refine ⟨?_, h1⟩
  obtain ⟨j, hj, e⟩ := nI_of (x := x) (by rw [Int32.lt_iff_toInt_lt]; show ¬ x.toInt < 0; omega)
  rw [e, ix_nI (by omega)]
/-- d rounds from j on -/
def it {α : Type} (f : Nat → α → α) : Nat → Nat → α → α
  | 0, _, a => a
  | d + 1, j, a => it f d (j + 1) (f j a)
theorem it_add {α : Type} (f : Nat → α → α) : ∀ (d e j : Nat) (a : α), it f (d + e) j a = it f e (j + d) (it f d j a)
  | 0, e, j, a => by simp [it]
  | d + 1, e, j, a => by
    rw [show d + 1 + e = (d + e) + 1 by omega]
    simp only [it]
    rw [it_add f d e (j + 1)]
    congr 1
    omega
theorem it_succ {α : Type} (f : Nat → α → α) (d j : Nat) (a : α) : it f (d + 1) j a = f (j + d) (it f d j a) := by
  rw [it_add f d 1 j a]; rfl
theorem it_congr {α : Type} {f g : Nat → α → α} : ∀ (d j : Nat) (a : α), (∀ i a, j ≤ i → i < j + d → f i a = g i a) → it f d j a = it g d j a
  | 0, _, _, _ => rfl
  | d + 1, j, a, h => by
    simp only [it]
    rw [h j a (Nat.le_refl j) (by omega)]
    exact it_congr d (j + 1) _ (fun i a h1 h2 => h i a (by omega) (by omega))
/-- a loop upwards: F n j a with fuel n, counter j, state a -/
theorem lpU {α β : Type} (F : Nat → Nat → α → Option β) (f : Nat → α → α) (m : Nat) (g : α → β) (P : Nat → α → Prop)
    (h0 : ∀ n a, P m a → F (n + 1) m a = some (g a)) (hs : ∀ n j a, j < m → P j a → F (n + 1) j a = F n (j + 1) (f j a) ∧ P (j + 1) (f j a)) :
    ∀ d n j a, j + d = m → d < n → P j a → F n j a = some (g (it f d j a)) ∧ P m (it f d j a)
  | 0, n, j, a, hj, hn, hp => by
    obtain ⟨n, rfl⟩ : ∃ q, n = q + 1 := ⟨n - 1, by omega⟩
    have e : j = m := by omega
    subst e
    exact ⟨h0 n a hp, hp⟩
  | d + 1, n, j, a, hj, hn, hp => by
    obtain ⟨n, rfl⟩ : ∃ q, n = q + 1 := ⟨n - 1, by omega⟩
    obtain ⟨e1, e2⟩ := hs n j a (by omega) hp
    rw [e1]
    exact lpU F f m g P h0 hs d n (j + 1) (f j a) (by omega) (by omega) e2
theorem FU_gt {d : Nat} (h : d < 2000) : d < FU := h
-- small numbers
theorem wide_lt (x y : Int32) : x.toInt64 < y.toInt64 ↔ x < y := by
  rw [Int64.lt_iff_toInt_lt, Int32.lt_iff_toInt_lt]; simp
theorem wide_le (x y : Int32) : x.toInt64 ≤ y.toInt64 ↔ x ≤ y := by
  rw [Int64.le_iff_toInt_le, Int32.le_iff_toInt_le]; simp
theorem wide_eq (x y : Int32) : x.toInt64 = y.toInt64 ↔ x = y := by
  rw [← Int64.toInt_inj, ← Int32.toInt_inj]; simp
theorem i_nlt {x y : Int32} : ¬ x < y ↔ y ≤ x := by
  rw [Int32.lt_iff_toInt_lt, Int32.le_iff_toInt_le]; omega
theorem i_nle {x y : Int32} : ¬ x ≤ y ↔ y < x := by
  rw [Int32.lt_iff_toInt_lt, Int32.le_iff_toInt_le]; omega
theorem cmp_lt (x y : Int64) : lg_cmp x y < 0 ↔ x < y := by
  unfold lg_cmp
  by_cases h1 : x > y
  · rw [if_pos h1]
    constructor
    · intro h; exact absurd h (by decide)
    · intro h; exact absurd h (lg_lt_not h1)
  · rw [if_neg h1]
    by_cases h2 : x = y
    · rw [if_pos h2]
      subst h2
      constructor
      · intro h; exact absurd h (by decide)
      · intro h; exact absurd h h1
    · rw [if_neg h2]
      constructor
      · intro _
        simp only [GT.gt, Int64.lt_iff_toInt_lt, ← Int64.toInt_inj] at *
        omega
      · intro _; decide
theorem cmp_gt (x y : Int64) : 0 < lg_cmp x y ↔ y < x := by
  unfold lg_cmp
  by_cases h1 : x > y
  · rw [if_pos h1]
    exact ⟨fun _ => h1, fun _ => by decide⟩
  · rw [if_neg h1]
    by_cases h2 : x = y
    · rw [if_pos h2]
      subst h2
      exact ⟨fun h => absurd h (by decide), fun h => absurd h h1⟩
    · rw [if_neg h2]
      exact ⟨fun h => absurd h (by decide), fun h => absurd h h1⟩
theorem cmp_eq (x y : Int64) : lg_cmp x y = 0 ↔ x = y := by
  unfold lg_cmp
  by_cases h1 : x > y
  · rw [if_pos h1]
    exact ⟨fun h => absurd h (by decide), fun h => absurd h1 (by subst h; simp [GT.gt, Int64.lt_iff_toInt_lt])⟩
  · rw [if_neg h1]
    by_cases h2 : x = y
    · rw [if_pos h2]; exact ⟨fun _ => h2, fun _ => rfl⟩
    · rw [if_neg h2]; exact ⟨fun h => absurd h (by decide), fun h => absurd h h2⟩
/-- in(v, from, to) of the reference, over ints -/
theorem in_i (x a b : Int32) : f_X12_in x.toInt64 a.toInt64 b.toInt64 = some (if a ≤ x ∧ x ≤ b then 1 else 0) := by
  unfold f_X12_in
  by_cases h1 : x < a
  · rw [if_pos ((cmp_lt _ _).mpr ((wide_lt _ _).mpr h1)), if_neg (fun h => absurd h.1 (i_nle.mpr h1))]
  · rw [if_neg (fun h => h1 ((wide_lt _ _).mp ((cmp_lt _ _).mp h)))]
    by_cases h2 : b < x
    · rw [if_pos ((cmp_gt _ _).mpr ((wide_lt _ _).mpr h2)), if_neg (fun h => absurd h.2 (i_nle.mpr h2))]
    · rw [if_neg (fun h => h2 ((wide_lt _ _).mp ((cmp_gt _ _).mp h))), if_pos ⟨i_nlt.mp h1, i_nlt.mp h2⟩]
-- comparisons with written numbers
theorem t_le {c : Int32} {j : Nat} (k : Int) (hc : c.toInt = k) (hj : j < 2147483648) (h : k ≤ (j : Int)) : c ≤ nI j := by
  rw [Int32.le_iff_toInt_le, hc, nI_toInt (by omega)]; exact h
theorem f_le {c : Int32} {j : Nat} (k : Int) (hc : c.toInt = k) (hj : j < 2147483648) (h : (j : Int) < k) : ¬ c ≤ nI j := by
  rw [Int32.le_iff_toInt_le, hc, nI_toInt (by omega)]; omega
theorem t_lt {c : Int32} {j : Nat} (k : Int) (hc : c.toInt = k) (hj : j < 2147483648) (h : k < (j : Int)) : c < nI j := by
  rw [Int32.lt_iff_toInt_lt, hc, nI_toInt (by omega)]; exact h
theorem f_lt {c : Int32} {j : Nat} (k : Int) (hc : c.toInt = k) (hj : j < 2147483648) (h : (j : Int) ≤ k) : ¬ c < nI j := by
  rw [Int32.lt_iff_toInt_lt, hc, nI_toInt (by omega)]; omega
theorem t_ge {c : Int32} {j : Nat} (k : Int) (hc : c.toInt = k) (hj : j < 2147483648) (h : (j : Int) ≤ k) : nI j ≤ c := by
  rw [Int32.le_iff_toInt_le, hc, nI_toInt (by omega)]; exact h
theorem f_ge {c : Int32} {j : Nat} (k : Int) (hc : c.toInt = k) (hj : j < 2147483648) (h : k < (j : Int)) : ¬ nI j ≤ c := by
  rw [Int32.le_iff_toInt_le, hc, nI_toInt (by omega)]; omega
theorem t_gt {c : Int32} {j : Nat} (k : Int) (hc : c.toInt = k) (hj : j < 2147483648) (h : (j : Int) < k) : nI j < c := by
  rw [Int32.lt_iff_toInt_lt, hc, nI_toInt (by omega)]; exact h
theorem f_gt {c : Int32} {j : Nat} (k : Int) (hc : c.toInt = k) (hj : j < 2147483648) (h : k ≤ (j : Int)) : ¬ nI j < c := by
  rw [Int32.lt_iff_toInt_lt, hc, nI_toInt (by omega)]; omega
theorem f_eq {c : Int32} {j : Nat} (k : Int) (hc : c.toInt = k) (hj : j < 2147483648) (h : (j : Int) ≠ k) : ¬ nI j = c := by
  rw [← Int32.toInt_inj, hc, nI_toInt (by omega)]; exact h
