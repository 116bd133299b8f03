/-! the least wire, the fewest cuts; what holds between the rounds -/
def FAR : Nat := 1000000
/-- the least wire of a block for a set of asks; ft k: ask k fits a block -/
def dO (ft : Nat → Nat → Nat → Nat → Nat → Bool) : Nat → Nat → Nat → Nat → Nat → Nat → Nat
  | 0, _, _, _, _, _ => FAR
  | f + 1, r, c, hh, w, s =>
    if s = 0 then 0
    else if s = 1 ∧ ft 0 r c hh w = true ∨ s = 2 ∧ ft 1 r c hh w = true ∨ s = 4 ∧ ft 2 r c hh w = true ∨ s = 8 ∧ ft 3 r c hh w = true then 0
    else it (fun x b => it (fun p b => if p &&& s = p then min b (hh + dO ft f r c hh x p + dO ft f r (c + x) hh (w - x) (s - p)) else b) (s + 1) 0 b) (w - 1) 1
      (it (fun x b => it (fun p b => if p &&& s = p then min b (w + dO ft f r c x w p + dO ft f (r + x) c (hh - x) w (s - p)) else b) (s + 1) 0 b) (hh - 1) 1 FAR)
/-- the least of a block by cuts; vd 0: as it is, 1: by a cut, else never -/
def dV (pr : Nat → Nat) (vd : Nat → Nat → Nat → Nat → Nat) : Nat → Nat → Nat → Nat → Nat → Nat
  | 0, _, _, _, _ => FAR
  | f + 1, r, c, hh, w =>
    if vd r c hh w = 0 then 0
    else if vd r c hh w = 1 then
      it (fun x b => min b (pr hh + dV pr vd f r c hh x + dV pr vd f r (c + x) hh (w - x))) (w - 1) 1
        (it (fun x b => min b (pr w + dV pr vd f r c x w + dV pr vd f (r + x) c (hh - x) w)) (hh - 1) 1 FAR)
    else FAR
def ftO (K A O Rr : Nat → Int32) (k r c hh w : Nat) : Bool := decide ((A k ≤ nI (wtB K r c hh w) ∧ nI (wtB K r c hh w) ≤ A k + O k) ∧ nI (rdB K 1 r c hh w) ≤ Rr k)
/-- left block i lies apart; sticks out; is not all of it -/
abbrev lAp (T B L G : Nat → Nat) (r c hh w i : Nat) : Prop := r + hh ≤ T i ∨ B i ≤ r ∨ c + w ≤ L i ∨ G i ≤ c
abbrev lNev (T B L G : Nat → Nat) (r c hh w i : Nat) : Prop := ¬ lAp T B L G r c hh w i ∧ (T i < r ∨ r + hh < B i ∨ L i < c ∨ c + w < G i)
abbrev lMus (T B L G : Nat → Nat) (r c hh w i : Nat) : Prop := ¬ lAp T B L G r c hh w i ∧ (r < T i ∨ B i < r + hh ∨ c < L i ∨ G i < c + w)
def vdL (T B L G : Nat → Nat) (m r c hh w : Nat) : Nat := it (fun i v => if v = 2 then 2 else if lNev T B L G r c hh w i then 2 else if lMus T B L G r c hh w i then 1 else v) m 0 0
def ixr (s : Nat → Int32) : Nat → Nat := fun i => ix (s i)
/-- where the plans keep a block -/
def spt (r c hh w : Nat) : Nat := (r * (13 - r) / 2 + hh - 1) * 21 + (c * (13 - c) / 2 + w - 1)
abbrev blkIn (R C r c hh w : Nat) : Prop := 1 ≤ hh ∧ 1 ≤ w ∧ r + hh ≤ R ∧ c + w ≤ C
def srow (h : Hp) (s i : Nat) : Pr := fun j => match j with
  | 0 => h 124 (266 * s + 2 + 11 * i)
  | 1 => h 124 (266 * s + 2 + 11 * i + 1)
  | 2 => h 124 (266 * s + 2 + 11 * i + 2)
  | 3 => h 124 (266 * s + 2 + 11 * i + 3)
  | 4 => nI (wtB (h 113) (ix (h 124 (266 * s + 2 + 11 * i))) (ix (h 124 (266 * s + 2 + 11 * i + 1))) (ix (h 124 (266 * s + 2 + 11 * i + 2))) (ix (h 124 (266 * s + 2 + 11 * i + 3))))
  | 5 => nI (rdB (h 113) 1 (ix (h 124 (266 * s + 2 + 11 * i))) (ix (h 124 (266 * s + 2 + 11 * i + 1))) (ix (h 124 (266 * s + 2 + 11 * i + 2))) (ix (h 124 (266 * s + 2 + 11 * i + 3))))
  | 6 => h 124 (266 * s + 2 + 11 * i + 4)
  | 7 => h 124 (266 * s + 2 + 11 * i + 5)
  | 8 => h 124 (266 * s + 2 + 11 * i + 6)
  | 9 => h 124 (266 * s + 2 + 11 * i + 7)
  | 10 => h 124 (266 * s + 2 + 11 * i + 8)
  | 11 => h 124 (266 * s + 2 + 11 * i + 9)
  | 12 => h 124 (266 * s + 2 + 11 * i + 10)
  | _ => 0
def okQ (K : Nat → Int32) (R C : Nat) (p : Pr) : Prop := ∃ r c hh w, okP K R C p r c hh w
-- the parts of what holds
def iT (h : Hp) : Prop := ∃ n, n ≤ 48 ∧ h 1 1 = nI n ∧ h 111 2 = nI n ∧ ∀ i, i < n → h 2 i = h 112 i
def iF (h : Hp) (R C : Nat) : Prop := 1 ≤ R ∧ R ≤ 6 ∧ 1 ≤ C ∧ C ≤ 6 ∧ h 3 3 = nI R ∧ h 3 4 = nI C ∧ h 111 4 = nI R ∧ h 111 5 = nI C
  ∧ (∀ r c, r < R → c < C → h 4 (6 * r + c) = h 113 (6 * r + c) ∧ (h 113 (6 * r + c) = 0 ∨ h 113 (6 * r + c) = 1 ∨ h 113 (6 * r + c) = 2))
  ∧ sums (h 5) (fun i => wtN (h 113 i)) R C ∧ sums (h 6) (fun i => rdN 1 (h 113 i)) R C
  ∧ ∀ j, j < 7 → h 5 j = 0 ∧ h 5 (7 * j) = 0 ∧ h 6 j = 0 ∧ h 6 (7 * j) = 0
def iR (h : Hp) : Prop := ∃ a b, a ≤ 30 ∧ 1 ≤ b ∧ b ≤ 30 ∧ h 3 5 = nI a ∧ h 111 37 = nI a ∧ h 3 6 = nI b ∧ h 111 38 = nI b
def iB (h : Hp) (R C : Nat) : Prop := ∃ n, 1 ≤ n ∧ n ≤ 24 ∧ h 7 3 = nI n ∧ h 111 9 = nI n ∧ h 7 4 = h 111 18 ∧ ∀ i, i < n → crow h (10 + i) = mrow h i ∧ okQ (h 113) R C (mrow h i)
def iS (h : Hp) (R C : Nat) : Prop := ∀ s, s < 2 → h (57 + 27 * s) 5 = h 125 s ∧ (h 125 s = 0 ∨ ∃ n, 1 ≤ n ∧ n ≤ 24 ∧ h (57 + 27 * s) 3 = nI n ∧ h 124 (266 * s) = nI n ∧ h (57 + 27 * s) 4 = h 124 (266 * s + 1) ∧ ∀ i, i < n → crow h (60 + 27 * s + i) = srow h s i ∧ okQ (h 113) R C (srow h s i))
def iO (h : Hp) (q : Qp) (N R C : Nat) : Prop := ∃ m, m ≤ 4 ∧ h 41 5 = nI m ∧ h 111 26 = nI m
  ∧ (∀ i, i < m → ∃ a, q i = some a ∧ 137 ≤ a ∧ a < N ∧ h a 0 = h 126 i ∧ h a 1 = h 126 i + h 127 i ∧ h a 2 = h 128 i ∧ ∃ u v, 1 ≤ u ∧ u ≤ 360 ∧ v ≤ 99 ∧ h 126 i = nI u ∧ h 127 i = nI v)
  ∧ (h 41 6 = 0 ∨ ∀ r c hh w s, blkIn R C r c hh w → s < 2 ^ m → h 42 (16 * spt r c hh w + s) = nI (dO (ftO (h 113) (h 126) (h 127) (h 128)) (hh + w) r c hh w s))
def iL (h : Hp) (R C : Nat) : Prop := ∃ m, m ≤ 6 ∧ h 47 7 = nI m ∧ h 111 35 = nI m
  ∧ (∀ i, i < m → ∃ r c hh w, blkIn R C r c hh w ∧ h 49 i = nI r ∧ h 50 i = nI (r + hh) ∧ h 51 i = nI c ∧ h 52 i = nI (c + w) ∧ h 133 i = nI (1000 * r + 100 * c + 10 * hh + w))
  ∧ (h 47 8 = 0 ∨ ∀ r c hh w, blkIn R C r c hh w → h 48 (spt r c hh w) = nI (dV (fun _ => 1) (vdL (ixr (h 49)) (ixr (h 50)) (ixr (h 51)) (ixr (h 52)) m) (hh + w) r c hh w))
def iK (h : Hp) (k : Nat) : Prop := ∃ m, m ≤ 16 ∧ h 53 3 = nI m ∧ h 111 39 = nI m ∧ (∀ i, i < m → h 54 i = h 134 i)
  ∧ ∀ t, t < 10 → ∃ a b, b ≤ a ∧ a ≤ k ∧ h 55 t = nI a ∧ h 135 t = nI a ∧ h 56 t = nI b ∧ h 136 t = nI b
def iP (h : Hp) : Prop := h 0 9 = h 111 43 ∧ h 0 10 = h 111 44
def iC (h : Hp) : Prop := h 41 1 = 16 ∧ h 45 1 = 1 ∧ h 47 1 = 1
def Inv (k N : Nat) (h : Hp) (q : Qp) : Prop := 137 ≤ N ∧ ∃ R C, iT h ∧ iF h R C ∧ iR h ∧ iB h R C ∧ iS h R C ∧ iO h q N R C ∧ iL h R C ∧ iK h k ∧ iP h ∧ iC h
theorem Inv_137 : ∀ k N h q, Inv k N h q → 137 ≤ N := fun _ _ _ _ h => h.1
-- what keeps them
theorem row_eq {h' h : Hp} {k : Nat} (e : ∀ j, h' k j = h k j) : h' k = h k := funext e
theorem iT_keep {h' h : Hp} (e : ∀ k j, (k = 1 ∧ j = 1 ∨ k = 111 ∧ j = 2 ∨ k = 2 ∨ k = 112) → h' k j = h k j) (H : iT h) : iT h' := by
  unfold iT at *
  rw [e 1 1 (by omega), e 111 2 (by omega), row_eq (fun j => e 2 j (by omega)), row_eq (fun j => e 112 j (by omega))]
  exact H
theorem iF_keep {h' h : Hp} {R C : Nat} (e : ∀ k j, (k = 3 ∧ (j = 3 ∨ j = 4) ∨ k = 111 ∧ (j = 4 ∨ j = 5) ∨ k = 4 ∨ k = 5 ∨ k = 6 ∨ k = 113) → h' k j = h k j) (H : iF h R C) : iF h' R C := by
  unfold iF at *
  rw [e 3 3 (by omega), e 3 4 (by omega), e 111 4 (by omega), e 111 5 (by omega), row_eq (fun j => e 4 j (by omega)), row_eq (fun j => e 5 j (by omega)), row_eq (fun j => e 6 j (by omega)), row_eq (fun j => e 113 j (by omega))]
  exact H
theorem iR_keep {h' h : Hp} (e : ∀ k j, (k = 3 ∧ (j = 5 ∨ j = 6) ∨ k = 111 ∧ (j = 37 ∨ j = 38)) → h' k j = h k j) (H : iR h) : iR h' := by
  unfold iR at *
  rw [e 3 5 (by omega), e 3 6 (by omega), e 111 37 (by omega), e 111 38 (by omega)]
  exact H
theorem crow_keep {h' h : Hp} {a : Nat} (e : ∀ j, h' a j = h a j) : crow h' a = crow h a := by
  unfold crow
  rw [row_eq e]
theorem mrow_keep {h' h : Hp} (i : Nat) (e : ∀ k j, (k = 113 ∨ 115 ≤ k ∧ k ≤ 122) → h' k j = h k j) : mrow h' i = mrow h i := by
  exact mrow_congr (row_eq (fun j => e 113 j (by omega))) (fun k h1 h2 => e k i (by omega)) (fun s _ => e 122 _ (by omega))
theorem srow_keep {h' h : Hp} (s i : Nat) (e : ∀ k j, (k = 113 ∨ k = 124) → h' k j = h k j) : srow h' s i = srow h s i := by
  unfold srow
  rw [row_eq (fun j => e 113 j (by omega)), row_eq (fun j => e 124 j (by omega))]
theorem iB_keep {h' h : Hp} {R C : Nat} (e : ∀ k j, (k = 7 ∧ (j = 3 ∨ j = 4) ∨ k = 111 ∧ (j = 9 ∨ j = 18) ∨ 10 ≤ k ∧ k ≤ 33 ∨ k = 113 ∨ 115 ≤ k ∧ k ≤ 122) → h' k j = h k j) (H : iB h R C) : iB h' R C := by
  obtain ⟨n, h1, h2, h3, h4, h5, h6⟩ := H
  refine ⟨n, h1, h2, ?_, ?_, ?_, ?_⟩
  · rw [e 7 3 (by omega)]; exact h3
  · rw [e 111 9 (by omega)]; exact h4
  · rw [e 7 4 (by omega), e 111 18 (by omega)]; exact h5
  · intro i hi
    rw [crow_keep (fun j => e (10 + i) j (by omega)), mrow_keep i (fun k j hk => e k j (by omega)), row_eq (fun j => e 113 j (by omega))]
    exact h6 i hi
theorem iS_keep {h' h : Hp} {R C : Nat} (e : ∀ k j, ((k = 57 ∨ k = 84) ∧ (j = 3 ∨ j = 4 ∨ j = 5) ∨ 60 ≤ k ∧ k ≤ 83 ∨ 87 ≤ k ∧ k ≤ 110 ∨ k = 113 ∨ k = 124 ∨ k = 125) → h' k j = h k j) (H : iS h R C) : iS h' R C := by
  intro s hs
  obtain ⟨h1, h2⟩ := H s hs
  rw [e (57 + 27 * s) 5 (by omega), e 125 s (by omega)]
  refine ⟨h1, h2.imp id ?_⟩
  rintro ⟨n, n1, n2, n3, n4, n5, n6⟩
  refine ⟨n, n1, n2, ?_, ?_, ?_, ?_⟩
  · rw [e (57 + 27 * s) 3 (by omega)]; exact n3
  · rw [e 124 (266 * s) (by omega)]; exact n4
  · rw [e (57 + 27 * s) 4 (by omega), e 124 (266 * s + 1) (by omega)]; exact n5
  · intro i hi
    rw [crow_keep (fun j => e (60 + 27 * s + i) j (by omega)), srow_keep s i (fun k j hk => e k j (by omega)), row_eq (fun j => e 113 j (by omega))]
    exact n6 i hi
theorem iO_keep {h' h : Hp} {q : Qp} {N N' R C : Nat} (hN : N ≤ N') (e : ∀ k j, (k = 41 ∧ (j = 5 ∨ j = 6) ∨ k = 111 ∧ j = 26 ∨ 126 ≤ k ∧ k ≤ 128 ∨ k = 42 ∨ k = 113 ∨ 137 ≤ k ∧ k < N) → h' k j = h k j) (H : iO h q N R C) : iO h' q N' R C := by
  obtain ⟨m, h1, h2, h3, h4, h5⟩ := H
  refine ⟨m, h1, ?_, ?_, ?_, ?_⟩
  · rw [e 41 5 (by omega)]; exact h2
  · rw [e 111 26 (by omega)]; exact h3
  · intro i hi
    obtain ⟨a, a1, a2, a3, a4, a5, a6, a7⟩ := h4 i hi
    refine ⟨a, a1, a2, by omega, ?_, ?_, ?_, ?_⟩
    · rw [e a 0 (by omega), e 126 i (by omega)]; exact a4
    · rw [e a 1 (by omega), e 126 i (by omega), e 127 i (by omega)]; exact a5
    · rw [e a 2 (by omega), e 128 i (by omega)]; exact a6
    · rw [e 126 i (by omega), e 127 i (by omega)]; exact a7
  · rw [e 41 6 (by omega), row_eq (fun j => e 42 j (by omega)), row_eq (fun j => e 113 j (by omega)), row_eq (fun j => e 126 j (by omega)), row_eq (fun j => e 127 j (by omega)), row_eq (fun j => e 128 j (by omega))]
    exact h5
theorem iL_keep {h' h : Hp} {R C : Nat} (e : ∀ k j, (k = 47 ∧ (j = 7 ∨ j = 8) ∨ k = 111 ∧ j = 35 ∨ 48 ≤ k ∧ k ≤ 52 ∨ k = 133) → h' k j = h k j) (H : iL h R C) : iL h' R C := by
  unfold iL at *
  rw [e 47 7 (by omega), e 111 35 (by omega), e 47 8 (by omega), row_eq (fun j => e 48 j (by omega)), row_eq (fun j => e 49 j (by omega)), row_eq (fun j => e 50 j (by omega)), row_eq (fun j => e 51 j (by omega)), row_eq (fun j => e 52 j (by omega)), row_eq (fun j => e 133 j (by omega))]
  exact H
theorem iK_keep {h' h : Hp} {k k' : Nat} (hk : k ≤ k') (e : ∀ k j, (k = 53 ∧ j = 3 ∨ k = 111 ∧ j = 39 ∨ 54 ≤ k ∧ k ≤ 56 ∨ 134 ≤ k ∧ k ≤ 136) → h' k j = h k j) (H : iK h k) : iK h' k' := by
  unfold iK at *
  rw [e 53 3 (by omega), e 111 39 (by omega), row_eq (fun j => e 54 j (by omega)), row_eq (fun j => e 55 j (by omega)), row_eq (fun j => e 56 j (by omega)), row_eq (fun j => e 134 j (by omega)), row_eq (fun j => e 135 j (by omega)), row_eq (fun j => e 136 j (by omega))]
  obtain ⟨m, h1, h2, h3, h4, h5⟩ := H
  refine ⟨m, h1, h2, h3, h4, fun t ht => ?_⟩
  obtain ⟨a, b, x1, x2, x3⟩ := h5 t ht
  exact ⟨a, b, x1, by omega, x3⟩
theorem iP_keep {h' h : Hp} (e : ∀ k j, (k = 0 ∧ (j = 9 ∨ j = 10) ∨ k = 111 ∧ (j = 43 ∨ j = 44)) → h' k j = h k j) (H : iP h) : iP h' := by
  unfold iP at *
  rw [e 0 9 (by omega), e 0 10 (by omega), e 111 43 (by omega), e 111 44 (by omega)]
  exact H
theorem iC_keep {h' h : Hp} (e : ∀ k j, (k = 41 ∧ j = 1 ∨ k = 45 ∧ j = 1 ∨ k = 47 ∧ j = 1) → h' k j = h k j) (H : iC h) : iC h' := by
  unfold iC at *
  rw [e 41 1 (by omega), e 45 1 (by omega), e 47 1 (by omega)]
  exact H
/-- cells that no part reads -/
def free (N k j : Nat) : Prop := k = 111 ∧ (j = 0 ∨ j = 7 ∨ j = 8 ∨ j = 22 ∨ j = 23 ∨ j = 24 ∨ j = 25 ∨ j = 34 ∨ j = 45 ∨ j = 46) ∨ k = 9 ∨ k = 8 ∨ 34 ≤ k ∧ k ≤ 40 ∨ k = 44 ∨ k = 45 ∧ j ≠ 1 ∨ k = 46 ∨ k = 114 ∨ k = 123 ∨ 129 ≤ k ∧ k ≤ 132 ∨ N ≤ k
theorem Inv_keep {h' h : Hp} {q : Qp} {k k' N N' : Nat} (hk : k ≤ k') (hN : N ≤ N') (e : ∀ k j, ¬ free N k j → h' k j = h k j) (H : Inv k N h q) : Inv k' N' h' q := by
  obtain ⟨h0, R, C, hT, hF, hR, hB, hS, hO, hL, hK, hP, hC⟩ := H
  unfold free at e
  exact ⟨by omega, R, C, iT_keep (fun k j hk => e k j (by omega)) hT, iF_keep (fun k j hk => e k j (by omega)) hF, iR_keep (fun k j hk => e k j (by omega)) hR, iB_keep (fun k j hk => e k j (by omega)) hB, iS_keep (fun k j hk => e k j (by omega)) hS, iO_keep hN (fun k j hk => e k j (by omega)) hO, iL_keep (fun k j hk => e k j (by omega)) hL, iK_keep hk (fun k j hk => e k j (by omega)) hK, iP_keep (fun k j hk => e k j (by omega)) hP, iC_keep (fun k j hk => e k j (by omega)) hC⟩
