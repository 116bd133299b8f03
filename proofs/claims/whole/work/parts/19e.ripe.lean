/-! rounds: ripe, ripest -/
def dpN (R C r c : Nat) : Nat := min (min r (R - 1 - r)) (min c (C - 1 - c))
def rpN (K : Nat → Int32) (R C a b D r c : Nat) : Nat := if K (6 * r + c) = 0 ∧ a + 2 * dpN R C r c ≤ D ∧ D < a + 2 * dpN R C r c + b then 1 else 0
def rpB (K : Nat → Int32) (R C a b D r c hh w : Nat) : Nat := sm (fun y => sm (fun x => rpN K R C a b D y x) w c) hh r
theorem mnI {x y : Nat} (hx : x < 1000) (hy : y < 1000) : (if nI y < nI x then nI y else nI x) = nI (min x y) := by
  by_cases c : y < x
  · rw [if_pos ((nI_ltI (by omega) (by omega)).mpr c), Nat.min_eq_right (by omega)]
  · rw [if_neg (fun q => c ((nI_ltI (by omega) (by omega)).mp q)), Nat.min_eq_left (by omega)]
theorem m_lesser {x y : Nat} (hx : x < 1000) (hy : y < 1000) : f_X12_lesser (nI x) (nI y) = some (nI (min x y)) := by
  unfold f_X12_lesser
  by_cases c : y ≤ x
  · rw [if_pos (nI_le c (by omega)), Nat.min_eq_right c]
  · rw [if_neg (nI_ge (by omega) (by omega)), Nat.min_eq_left (by omega)]
theorem k_isRipe (h : Hp) {R C r c a b D : Nat} (hF : iF h R C) (e5 : h 3 5 = nI a) (e6 : h 3 6 = nI b) (ha : a ≤ 30) (hb : b ≤ 30) (hD : D ≤ 999) (hr : r < R) (hc : c < C) : f_X4_isRipe h (nI r) (nI c) (nI D) = some (nI (rpN (h 113) R C a b D r c)) := by
  have hR := hF.2.1
  have hC := hF.2.2.2.1
  have kk := k_kindAt h hF hr hc
  have dl : dpN R C r c ≤ 6 := by unfold dpN; omega
  simp only [f_X4_isRipe, vB_def, hF.2.2.2.2.1, hF.2.2.2.2.2.1, e5, e6, kk, Option.bind_some]
  rw [show (1 : Int32) = nI 1 from rfl, nI_sub (show 1 ≤ C by omega), nI_sub (show 1 ≤ R by omega), nI_sub (show c ≤ C - 1 by omega), nI_sub (show r ≤ R - 1 by omega), mnI (x := c) (y := C - 1 - c) (by omega) (by omega), mnI (x := r) (y := R - 1 - r) (by omega) (by omega), mnI (by omega) (by omega), show min (min r (R - 1 - r)) (min c (C - 1 - c)) = dpN R C r c from rfl, show (2 : Int32) = nI 2 from rfl, nI_mul, nI_add, nI_add]
  unfold rpN
  by_cases k0 : h 113 (6 * r + c) = 0
  · rw [if_pos k0]
    by_cases c1 : D < a + 2 * dpN R C r c
    · rw [if_pos ((nI_ltI (by omega) (by omega)).mpr c1), if_neg (by omega)]; rfl
    · rw [if_neg (fun q => c1 ((nI_ltI (by omega) (by omega)).mp q))]
      by_cases c2 : a + 2 * dpN R C r c + b ≤ D
      · rw [if_pos (nI_le c2 (by omega)), if_neg (by omega)]; rfl
      · rw [if_neg (nI_ge (by omega) (by omega)), if_pos ⟨k0, by omega, by omega⟩]
  · rw [if_neg k0, if_neg (fun q => k0 q.1)]; rfl
theorem m_isRipe (h : Hp) {R C r c a b D : Nat} (e4 : h 111 4 = nI R) (e5 : h 111 5 = nI C) (e7 : h 111 37 = nI a) (e8 : h 111 38 = nI b) (hR : R ≤ 6) (hC : C ≤ 6) (ha : a ≤ 30) (b1 : 1 ≤ b) (hb : b ≤ 30) (hD : D ≤ 999) (hr : r < R) (hc : c < C) : f_X12_isRipe h (nI r) (nI c) (nI D) = some (nI (rpN (h 113) R C a b D r c)) := by
  have dl : dpN R C r c ≤ 6 := by unfold dpN; omega
  simp only [f_X12_isRipe, vB_def, e4, e5, e7, e8]
  rw [show (1 : Int32) = nI 1 from rfl, nI_sub (show 1 ≤ R by omega), nI_sub (show 1 ≤ C by omega), nI_sub (show r ≤ R - 1 by omega), nI_sub (show c ≤ C - 1 by omega), m_lesser (by omega) (by omega), Option.bind_some, m_lesser (by omega) (by omega), Option.bind_some, m_lesser (by omega) (by omega), Option.bind_some, show min (min r (R - 1 - r)) (min c (C - 1 - c)) = dpN R C r c from rfl, ix6, if_pos (inB_nI (show 6 * r + c < 36 by omega) (by omega)), ix_nI (by omega), show (2 : Int32) = nI 2 from rfl, nI_mul, nI_add, nI_add, nI_sub (by omega), in_i, Option.bind_some]
  unfold rpN
  by_cases k0 : h 113 (6 * r + c) = 0
  · rw [if_pos k0]
    by_cases c1 : a + 2 * dpN R C r c ≤ D ∧ D < a + 2 * dpN R C r c + b
    · rw [if_pos (show nI (a + 2 * dpN R C r c) ≤ nI D ∧ nI D ≤ nI (a + 2 * dpN R C r c + b - 1) from ⟨nI_le c1.1 (by omega), nI_le (by omega) (by omega)⟩), if_neg (by decide), if_pos ⟨k0, c1⟩]
    · rw [if_neg (show ¬ (nI (a + 2 * dpN R C r c) ≤ nI D ∧ nI D ≤ nI (a + 2 * dpN R C r c + b - 1)) from fun q => c1 ⟨(nI_leI (by omega) (by omega)).mp q.1, by have := (nI_leI (a := D) (b := a + 2 * dpN R C r c + b - 1) (by omega) (by omega)).mp q.2; omega⟩), if_pos rfl, if_neg (fun q => c1 q.2)]; rfl
  · rw [if_neg k0, if_neg (fun q => k0 q.1)]; rfl
theorem rpN_01 (K : Nat → Int32) (R C a b D r c : Nat) : (if nI (rpN K R C a b D r c) = 0 then (some 0 : Option Int32) else some 1) = some (nI (rpN K R C a b D r c)) := by
  unfold rpN
  split <;> rfl
theorem k_ripePlaces (h : Hp) {R C r c hh w a b D a0 : Nat} (hF : iF h R C) (e5 : h 3 5 = nI a) (e6 : h 3 6 = nI b) (ha : a ≤ 30) (hb : b ≤ 30) (hD : D ≤ 999) (ok : okP (h 113) R C (crow h a0) r c hh w) : f_X7_ripePlaces h a0 (nI D) = some (nI (rpB (h 113) R C a b D r c hh w)) := by
  have hR := hF.2.1
  have hC := hF.2.2.2.1
  have i0 : h a0 0 = nI r := by rw [← crow_at h a0 (show 0 < 13 by omega)]; exact ok.1
  have i1 : h a0 1 = nI c := by rw [← crow_at h a0 (show 1 < 13 by omega)]; exact ok.2.1
  have i2 : h a0 2 = nI hh := by rw [← crow_at h a0 (show 2 < 13 by omega)]; exact ok.2.2.1
  have i3 : h a0 3 = nI w := by rw [← crow_at h a0 (show 3 < 13 by omega)]; exact ok.2.2.2.1
  have l0 : r + hh ≤ R := ok.2.2.2.2.2.2.1
  have l1 : c + w ≤ C := ok.2.2.2.2.2.2.2.1
  have inner : ∀ y, y < R → ∀ s, L_X7_ripePlaces_28 h a0 (nI D) (nI y) FU s (nI c) = some (s + nI (sm (fun x => rpN (h 113) R C a b D y x) w c)) := fun y hy s => by
    have key := lpU (fun n j s => L_X7_ripePlaces_28 h a0 (nI D) (nI y) n s (nI j)) (fun j s => s + nI (rpN (h 113) R C a b D y j)) (c + w) id (fun _ _ => True)
      (fun n s _ => by simp only [L_X7_ripePlaces_28, i1, i3, nI_add]; rw [if_pos (nI_le (Nat.le_refl _) (by omega))]; rfl)
      (fun n j s hj _ => ⟨by
        simp only [L_X7_ripePlaces_28, i1, i3, vB_def, nI_add]
        rw [if_neg (nI_ge hj (by omega)), k_isRipe h hF e5 e6 ha hb hD hy (by omega), Option.bind_some, rpN_01, Option.bind_some, nI_1], trivial⟩)
      w FU c s rfl (FU_gt (by omega)) trivial
    rw [← it_sm (fun x => rpN (h 113) R C a b D y x)]
    exact key.1
  have key := lpU (fun n j s => L_X7_ripePlaces_8 h a0 (nI D) n s (nI j)) (fun y s => s + nI (sm (fun x => rpN (h 113) R C a b D y x) w c)) (r + hh) id (fun _ _ => True)
      (fun n s _ => by simp only [L_X7_ripePlaces_8, i0, i2, nI_add]; rw [if_pos (nI_le (Nat.le_refl _) (by omega))]; rfl)
      (fun n j s hj _ => ⟨by
        simp only [L_X7_ripePlaces_8, i0, i1, i2, vB_def, nI_add]
        rw [if_neg (nI_ge hj (by omega)), inner j (by omega), Option.bind_some, nI_1], trivial⟩)
      hh FU r 0 rfl (FU_gt (by omega)) trivial
  rw [it_sm] at key
  simp only [f_X7_ripePlaces, vB_def, i0]
  rw [show L_X7_ripePlaces_8 h a0 (nI D) FU 0 (nI r) = _ from key.1, Option.bind_some]
  show some ((0 : Int32) + _) = _
  rw [Int32.zero_add]
  rfl
theorem k_paste (h : Hp) {R C r c hh w a0 : Nat} (hF : iF h R C) (ok : okP (h 113) R C (crow h a0) r c hh w) : f_X7_pastePlaces h a0 = some (nI (rdB (h 113) 0 r c hh w)) := by
  have hR := hF.2.1
  have hC := hF.2.2.2.1
  have i0 : h a0 0 = nI r := by rw [← crow_at h a0 (show 0 < 13 by omega)]; exact ok.1
  have i1 : h a0 1 = nI c := by rw [← crow_at h a0 (show 1 < 13 by omega)]; exact ok.2.1
  have i2 : h a0 2 = nI hh := by rw [← crow_at h a0 (show 2 < 13 by omega)]; exact ok.2.2.1
  have i3 : h a0 3 = nI w := by rw [← crow_at h a0 (show 3 < 13 by omega)]; exact ok.2.2.2.1
  have l0 : r + hh ≤ R := ok.2.2.2.2.2.2.1
  have l1 : c + w ≤ C := ok.2.2.2.2.2.2.2.1
  have inner : ∀ y, y < R → ∀ s, L_X7_pastePlaces_26 h a0 (nI y) FU s (nI c) = some (s + nI (sm (fun x => rdN 0 (h 113 (6 * y + x))) w c)) := fun y hy s => by
    have key := lpU (fun n j s => L_X7_pastePlaces_26 h a0 (nI y) n s (nI j)) (fun j s => s + nI (rdN 0 (h 113 (6 * y + j)))) (c + w) id (fun _ _ => True)
      (fun n s _ => by simp only [L_X7_pastePlaces_26, i1, i3, nI_add]; rw [if_pos (nI_le (Nat.le_refl _) (by omega))]; rfl)
      (fun n j s hj _ => ⟨by
        simp only [L_X7_pastePlaces_26, i1, i3, vB_def, nI_add]
        rw [if_neg (nI_ge hj (by omega)), k_kindAt h hF hy (by omega), Option.bind_some, nI_1]
        unfold rdN
        by_cases k0 : h 113 (6 * y + j) = 0
        · simp only [if_pos k0, Option.bind_some]; rfl
        · simp only [if_neg k0, Option.bind_some]; rfl, trivial⟩)
      w FU c s rfl (FU_gt (by omega)) trivial
    rw [← it_sm (fun x => rdN 0 (h 113 (6 * y + x)))]
    exact key.1
  have key := lpU (fun n j s => L_X7_pastePlaces_7 h a0 n s (nI j)) (fun y s => s + nI (sm (fun x => rdN 0 (h 113 (6 * y + x))) w c)) (r + hh) id (fun _ _ => True)
      (fun n s _ => by simp only [L_X7_pastePlaces_7, i0, i2, nI_add]; rw [if_pos (nI_le (Nat.le_refl _) (by omega))]; rfl)
      (fun n j s hj _ => ⟨by
        simp only [L_X7_pastePlaces_7, i0, i1, i2, vB_def, nI_add]
        rw [if_neg (nI_ge hj (by omega)), inner j (by omega), Option.bind_some, nI_1], trivial⟩)
      hh FU r 0 rfl (FU_gt (by omega)) trivial
  rw [it_sm] at key
  simp only [f_X7_pastePlaces, vB_def, i0]
  rw [show L_X7_pastePlaces_7 h a0 FU 0 (nI r) = _ from key.1, Option.bind_some]
  show some ((0 : Int32) + _) = _
  rw [Int32.zero_add]
  rfl
theorem m_ripeIn (h : Hp) {R C r c hh w a b D i : Nat} (e4 : h 111 4 = nI R) (e5 : h 111 5 = nI C) (e7 : h 111 37 = nI a) (e8 : h 111 38 = nI b) (hR : R ≤ 6) (hC : C ≤ 6) (ha : a ≤ 30) (b1 : 1 ≤ b) (hb : b ≤ 30) (hD : D ≤ 999) (hi : i < 24) (ok : okP (h 113) R C (mrow h i) r c hh w) : f_X12_ripeIn h (nI i) (nI D) = some (nI (rpB (h 113) R C a b D r c hh w)) := by
  have i0 : h 115 i = nI r := ok.1
  have i1 : h 116 i = nI c := ok.2.1
  have i2 : h 117 i = nI hh := ok.2.2.1
  have i3 : h 118 i = nI w := ok.2.2.2.1
  have l0 : r + hh ≤ R := ok.2.2.2.2.2.2.1
  have l1 : c + w ≤ C := ok.2.2.2.2.2.2.2.1
  have hbi : inB (nI i) 24 := inB_nI hi (by omega)
  have xi : ix (nI i) = i := ix_nI (by omega)
  have inner : ∀ y, y < R → ∀ s, L_X12_ripeIn_36 h (nI i) (nI D) (nI y) FU s (nI c) = some (s + nI (sm (fun x => rpN (h 113) R C a b D y x) w c)) := fun y hy s => by
    have key := lpU (fun n j s => L_X12_ripeIn_36 h (nI i) (nI D) (nI y) n s (nI j)) (fun j s => s + nI (rpN (h 113) R C a b D y j)) (c + w) id (fun _ _ => True)
      (fun n s _ => by simp only [L_X12_ripeIn_36, if_pos hbi, xi, i1, i3, nI_add]; rw [if_pos (nI_le (Nat.le_refl _) (by omega))]; rfl)
      (fun n j s hj _ => ⟨by
        simp only [L_X12_ripeIn_36, if_pos hbi, xi, i1, i3, vB_def, nI_add]
        rw [if_neg (nI_ge hj (by omega)), m_isRipe h e4 e5 e7 e8 hR hC ha b1 hb hD hy (by omega), Option.bind_some, rpN_01, Option.bind_some, nI_1], trivial⟩)
      w FU c s rfl (FU_gt (by omega)) trivial
    rw [← it_sm (fun x => rpN (h 113) R C a b D y x)]
    exact key.1
  have key := lpU (fun n j s => L_X12_ripeIn_10 h (nI i) (nI D) n s (nI j)) (fun y s => s + nI (sm (fun x => rpN (h 113) R C a b D y x) w c)) (r + hh) id (fun _ _ => True)
      (fun n s _ => by simp only [L_X12_ripeIn_10, if_pos hbi, xi, i0, i2, nI_add]; rw [if_pos (nI_le (Nat.le_refl _) (by omega))]; rfl)
      (fun n j s hj _ => ⟨by
        simp only [L_X12_ripeIn_10, if_pos hbi, xi, i0, i1, i2, vB_def, nI_add]
        rw [if_neg (nI_ge hj (by omega)), inner j (by omega), Option.bind_some, nI_1], trivial⟩)
      hh FU r 0 rfl (FU_gt (by omega)) trivial
  rw [it_sm] at key
  simp only [f_X12_ripeIn, vB_def, if_pos hbi, xi, i0]
  rw [show L_X12_ripeIn_10 h (nI i) (nI D) FU 0 (nI r) = _ from key.1, Option.bind_some]
  show some ((0 : Int32) + _) = _
  rw [Int32.zero_add]
  rfl
theorem m_paste (h : Hp) {R C r c hh w i : Nat} (hR : R ≤ 6) (hC : C ≤ 6) (hi : i < 24) (ok : okP (h 113) R C (mrow h i) r c hh w) : f_X12_paste h (nI i) = some (nI (rdB (h 113) 0 r c hh w)) := by
  have i0 : h 115 i = nI r := ok.1
  have i1 : h 116 i = nI c := ok.2.1
  have i2 : h 117 i = nI hh := ok.2.2.1
  have i3 : h 118 i = nI w := ok.2.2.2.1
  have l0 : r + hh ≤ R := ok.2.2.2.2.2.2.1
  have l1 : c + w ≤ C := ok.2.2.2.2.2.2.2.1
  simp only [f_X12_paste, if_pos (inB_nI hi (show 24 ≤ 2147483648 by omega)), ix_nI (show i < 2147483648 by omega), i0, i1, i2, i3, m_countOf h 0 (show r + hh ≤ 6 by omega) (show c + w ≤ 6 by omega), Option.bind_some]
theorem sm_mono {f g : Nat → Nat} : ∀ d j, (∀ i, f i ≤ g i) → sm f d j ≤ sm g d j
  | 0, _, _ => Nat.le_refl _
  | d + 1, j, h => by
    simp only [sm]
    have h1 := sm_mono d (j + 1) h
    have h2 := h j
    omega
theorem rpB_le (K : Nat → Int32) (R C a b D r c hh w : Nat) : rpB K R C a b D r c hh w ≤ rdB K 0 r c hh w := by
  refine sm_mono _ _ (fun y => sm_mono _ _ (fun x => ?_))
  show rpN K R C a b D y x ≤ rdN 0 (K (6 * y + x))
  unfold rpN rdN
  by_cases k0 : K (6 * y + x) = 0
  · rw [if_pos k0]; split <;> omega
  · rw [if_neg k0, if_neg (fun q => k0 q.1)]; omega
theorem k_mx1 (p : Nat) (hp : p ≤ 36) : (if 1 < nI p then nI p else (1 : Int32)) = nI (max 1 p) := by
  by_cases c : 1 < p
  · rw [if_pos (show (1 : Int32) < nI p from (nI_ltI (a := 1) (by omega) (by omega)).mpr c), Nat.max_eq_right (by omega)]
  · rw [if_neg (show ¬ (1 : Int32) < nI p from fun q => c ((nI_ltI (a := 1) (by omega) (by omega)).mp q)), Nat.max_eq_left (by omega)]; rfl
theorem s_ripe {k N : Nat} {h : Hp} {q : Qp} (H : Inv k N h q) (x y z : Int32) : ∃ a b h2, f_X11_ripe h x y z = some a ∧ f_X12_ripe h x y z = some (b, h2) ∧ a = b ∧ Inv (k + 1) N h2 q := by
  have H' := Inv_u0 (Nat.le_succ k) H
  obtain ⟨h0, R, C, hT, hF, hR, hB, hS, hO, hL, hK, hP, hC⟩ := H
  obtain ⟨n, n1, n2, n3, n4, n5, n6⟩ := hB
  obtain ⟨a, b, r1, r2, r3, r4, r5, r6, r7⟩ := hR
  have e1 : f_X12_in y.toInt64 0 999 = _ := in_i y 0 999
  simp only [f_X11_ripe, f_X12_ripe, vB_def]
  by_cases cx : ∃ i, i < n ∧ x = nI i
  · obtain ⟨i, hi, rfl⟩ := cx
    obtain ⟨ci, r, c, hh, w, ok⟩ := n6 i hi
    have l0 : r + hh ≤ R := ok.2.2.2.2.2.2.1
    have l1 : c + w ≤ C := ok.2.2.2.2.2.2.2.1
    have hR6 := hF.2.1
    have hC6 := hF.2.2.2.1
    rw [k_knows_in h n2 n3 hi, m_noPiece_in _ n2 (by rw [u0_j _ _ (by decide)]; exact n4) hi]
    simp only [Option.bind_some, show ¬ (1 : Int32) = 0 by decide, if_false, if_true, e1]
    by_cases cy : 0 ≤ y ∧ y ≤ 999
    · obtain ⟨D, hD, rfl⟩ := i_toNat (n := 999) rfl cy.1 cy.2
      have um : mrow (u2 h 111 0 0) i = mrow h i := mrow_u0 _ _ _ _
      have uK : u2 h 111 0 0 113 = h 113 := u0_ne _ _ (by decide)
      have kp' := k_ripePlaces h (a0 := 10 + i) (D := D) hF r4 r6 r1 r3 hD (by rw [ci]; exact ok)
      have kq := k_paste h (a0 := 10 + i) hF (by rw [ci]; exact ok)
      have mp := m_ripeIn (u2 h 111 0 0) (i := i) (R := R) (C := C) (a := a) (b := b) (D := D) (by rw [u0_j _ _ (by decide)]; exact hF.2.2.2.2.2.2.1) (by rw [u0_j _ _ (by decide)]; exact hF.2.2.2.2.2.2.2.1) (by rw [u0_j _ _ (by decide)]; exact r5) (by rw [u0_j _ _ (by decide)]; exact r7) hR6 hC6 r1 r2 r3 hD (by omega) (by rw [um, uK]; exact ok)
      have mq := m_paste (u2 h 111 0 0) (i := i) hR6 hC6 (by omega) (by rw [um, uK]; exact ok)
      rw [uK] at mp mq
      have le := rpB_le (h 113) R C a b D r c hh w
      have l36 := rdB_le (h 113) 0 (r := r) (c := c) (hh := hh) (w := w) (by omega) (by omega)
      generalize rpB (h 113) R C a b D r c hh w = U at *
      generalize rdB (h 113) 0 r c hh w = P at *
      have kc := k_common (x := lN U) (z := (U : Int)) (b := max 1 P) (lN_toInt (by omega)) (by omega) (by omega) (by omega) (by omega)
      have cd : ¬ lN (Nat.gcd (max 1 P) U) = 0 := fun e => by
        have g1 : 0 < Nat.gcd (max 1 P) U := Nat.gcd_pos_of_pos_left _ (by omega)
        have g2 : Nat.gcd (max 1 P) U ≤ max 1 P := Nat.gcd_le_left _ (by omega)
        have := (lN_eq0 (by omega)).mp e
        omega
      rw [Int.natAbs_natCast] at kc
      simp only [if_neg (i_nlt.mpr cy.1), if_pos cy.2, if_pos cy, if_pos (inB_nI (show i < 24 by omega) (show 24 ≤ 2147483648 by omega)), ix_nI (show i < 2147483648 by omega), kp', kq, Option.bind_some, show ¬ (1 : Int32) = 0 by decide, if_false, mp, mq, k_mx1 P l36, nI_l (show U < 2 ^ 31 by omega), nI_l (show max 1 P < 2 ^ 31 by omega), ite_some, kc, if_neg cd]
      by_cases p0 : P = 0
      · have u0 : U = 0 := by omega
        subst p0 u0
        rw [if_pos (show nI 0 = 0 from rfl)]
        by_cases z0 : z = 0
        · simp only [if_pos z0]
          exact ⟨_, _, _, rfl, rfl, by decide, H'⟩
        · simp only [if_neg z0]
          exact ⟨_, _, _, rfl, rfl, by decide, H'⟩
      · have mc := m_common (x := lN U) (z := (U : Int)) (b := P) (lN_toInt (by omega)) (by omega) (by omega) (by omega)
        rw [Int.natAbs_natCast] at mc
        rw [Nat.max_eq_right (show 1 ≤ P by omega)] at cd ⊢
        rw [if_neg (nI_ne0 (by omega) (by omega)), nI_l (show P < 2 ^ 31 by omega), mc, Option.bind_some, if_neg cd]
        refine ⟨_, _, _, rfl, rfl, ?_, H'⟩
        by_cases z0 : z = 0
        · rw [if_pos z0, if_pos z0, nI_l (by omega)]
        · rw [if_neg z0, if_neg z0, nI_l (by omega)]
    · rw [if_neg cy]
      by_cases y0 : y < 0
      · rw [if_pos y0]
        exact ⟨_, _, _, rfl, (by rw [if_pos rfl]), rfl, H'⟩
      · rw [if_neg y0, if_neg (fun d => cy ⟨i_nlt.mp y0, d⟩)]
        exact ⟨_, _, _, rfl, (by rw [if_pos rfl]), rfl, H'⟩
  · rw [k_knows_out h n2 n3 cx, m_noPiece_out _ n1 n2 (by rw [u0_j _ _ (by decide)]; exact n4) cx]
    simp only [Option.bind_some, show ¬ (1 : Int32) = 0 by decide, if_false, if_true]
    exact ⟨_, _, _, rfl, rfl, rfl, H'⟩
def rsF (S Nw Al : Nat → Int32) (i : Nat) (s : Int32 × Int32 × Int32) : Int32 × Int32 × Int32 := if S i = 0 ∧ (s.1 = -9 ∨ ¬ Nw i * s.2.2 ≤ s.2.1 * Al i) then (nI i, Nw i, Al i) else s
theorem s_ripest {k N : Nat} {h : Hp} {q : Qp} (H : Inv k N h q) (y : Int32) : ∃ a b h2, f_X11_ripest h y = some a ∧ f_X12_ripest h y = some (b, h2) ∧ a = b ∧ Inv (k + 1) N h2 q := by
  have H' := Inv_u0 (Nat.le_succ k) H
  obtain ⟨h0, R, C, hT, hF, hR, hB, hS, hO, hL, hK, hP, hC⟩ := H
  obtain ⟨n, n1, n2, n3, n4, n5, n6⟩ := hB
  obtain ⟨a, b, r1, r2, r3, r4, r5, r6, r7⟩ := hR
  have e1 : f_X12_in y.toInt64 0 999 = _ := in_i y 0 999
  have hR6 := hF.2.1
  have hC6 := hF.2.2.2.1
  simp only [f_X11_ripest, f_X1_ripestPiece, f_X12_ripest, vB_def, e1, Option.bind_some]
  by_cases cy : 0 ≤ y ∧ y ≤ 999
  · obtain ⟨D, hD, rfl⟩ := i_toNat (n := 999) rfl cy.1 cy.2
    have uK : u2 h 111 0 0 113 = h 113 := u0_ne _ _ (by decide)
    obtain ⟨Nw, hNw⟩ : ∃ Nw : Nat → Int32, Nw = fun i => nI (rpB (h 113) R C a b D (ix (mrow h i 0)) (ix (mrow h i 1)) (ix (mrow h i 2)) (ix (mrow h i 3))) := ⟨_, rfl⟩
    obtain ⟨Al, hAl⟩ : ∃ Al : Nat → Int32, Al = fun i => nI (max 1 (rdB (h 113) 0 (ix (mrow h i 0)) (ix (mrow h i 1)) (ix (mrow h i 2)) (ix (mrow h i 3)))) := ⟨_, rfl⟩
    have pc : ∀ i, i < n → f_X7_ripePlaces h (10 + i) (nI D) = some (Nw i) ∧ (∃ P, P ≤ 36 ∧ f_X7_pastePlaces h (10 + i) = some (nI P) ∧ f_X12_paste (u2 h 111 0 0) (nI i) = some (nI P) ∧ Al i = nI (max 1 P)) ∧ f_X12_ripeIn (u2 h 111 0 0) (nI i) (nI D) = some (Nw i) ∧ h (10 + i) 6 = h 119 i := fun i hi => by
      obtain ⟨ci, r, c, hh, w, ok⟩ := n6 i hi
      have l0 : r + hh ≤ R := ok.2.2.2.2.2.2.1
      have l1 : c + w ≤ C := ok.2.2.2.2.2.2.2.1
      have um : mrow (u2 h 111 0 0) i = mrow h i := mrow_u0 _ _ _ _
      have kp' := k_ripePlaces h (a0 := 10 + i) (D := D) hF r4 r6 r1 r3 hD (by rw [ci]; exact ok)
      have kq := k_paste h (a0 := 10 + i) hF (by rw [ci]; exact ok)
      have mp := m_ripeIn (u2 h 111 0 0) (i := i) (R := R) (C := C) (a := a) (b := b) (D := D) (by rw [u0_j _ _ (by decide)]; exact hF.2.2.2.2.2.2.1) (by rw [u0_j _ _ (by decide)]; exact hF.2.2.2.2.2.2.2.1) (by rw [u0_j _ _ (by decide)]; exact r5) (by rw [u0_j _ _ (by decide)]; exact r7) hR6 hC6 r1 r2 r3 hD (by omega) (by rw [um, uK]; exact ok)
      have mq := m_paste (u2 h 111 0 0) (i := i) hR6 hC6 (by omega) (by rw [um, uK]; exact ok)
      rw [uK] at mp mq
      have eN : Nw i = nI (rpB (h 113) R C a b D r c hh w) := by
        rw [hNw]
        simp only
        rw [ok.1, ok.2.1, ok.2.2.1, ok.2.2.2.1, ix_nI (by omega), ix_nI (by omega), ix_nI (by omega), ix_nI (by omega)]
      have eA : Al i = nI (max 1 (rdB (h 113) 0 r c hh w)) := by
        rw [hAl]
        simp only
        rw [ok.1, ok.2.1, ok.2.2.1, ok.2.2.2.1, ix_nI (by omega), ix_nI (by omega), ix_nI (by omega), ix_nI (by omega)]
      rw [eN]
      exact ⟨kp', ⟨_, rdB_le _ _ (by omega) (by omega), kq, mq, eA⟩, mp, cr_at ci (by omega)⟩
    have K := lpU (fun M j (s : Int32 × Int32 × Int32) => L_X1_ripestPiece_11 h (nI D) M s.1 s.2.1 s.2.2 (nI j)) (rsF (h 119) Nw Al) n (fun s => s.1) (fun _ _ => True)
      (fun M s _ => by simp only [L_X1_ripestPiece_11, n3]; rw [if_pos (nI_le (Nat.le_refl n) (by omega))])
      (fun M j s hj _ => ⟨by
        obtain ⟨c1, ⟨P, p36, c2, c3, c4⟩, c5, c6⟩ := pc j hj
        have hb : inB (nI j) 24 := inB_nI (by omega) (by omega)
        simp only [L_X1_ripestPiece_11, n3, vB_def, vK, if_pos hb, ix_nI (show j < 2147483648 by omega), c1, c2, c6, Option.bind_some, k_mx1 P p36, ← c4]
        rw [if_neg (nI_ge hj (by omega)), nI_1]
        unfold rsF
        by_cases z : h 119 j = 0
        · simp only [if_pos z]
          by_cases c9 : s.1 = -9
          · rw [if_pos c9, if_pos ⟨z, Or.inl c9⟩]; rfl
          · rw [if_neg c9]
            by_cases cl : Nw j * s.2.2 ≤ s.2.1 * Al j
            · rw [if_pos cl, if_neg (fun d => d.2.elim c9 (fun e => e cl))]; rfl
            · rw [if_neg cl, if_pos ⟨z, Or.inr cl⟩]; rfl
        · simp only [if_neg z]
          rw [if_neg (fun d => z d.1)]; rfl, trivial⟩)
      n FU 0 (-9, 0, 1) (by omega) (FU_gt (by omega)) trivial
    have M := lpU (fun M j (s : Int32 × Int32 × Int32) => L_X12_ripest_31 (nI D) (u2 h 111 0 0) M s.1 s.2.1 s.2.2 (nI j)) (rsF (h 119) Nw Al) n (fun s => s.1) (fun _ _ => True)
      (fun M s _ => by simp only [L_X12_ripest_31]; rw [u0_j _ _ (by decide), n4, if_pos (nI_le (Nat.le_refl n) (by omega))])
      (fun M j s hj _ => ⟨by
        obtain ⟨c1, ⟨P, p36, c2, c3, c4⟩, c5, c6⟩ := pc j hj
        have hb : inB (nI j) 24 := inB_nI (by omega) (by omega)
        have pa : (if nI P = 0 then (some 1 : Option Int32) else some (nI P)) = some (Al j) := by
          rw [c4]
          by_cases c : P = 0
          · rw [if_pos (by rw [c]; rfl), c]; rfl
          · rw [if_neg (nI_ne0 (by omega) (by omega)), Nat.max_eq_right (by omega)]
        simp only [L_X12_ripest_31, vB_def, vK, if_pos hb, ix_nI (show j < 2147483648 by omega), c5, c3, Option.bind_some, pa, u0_j _ _ (show 9 ≠ 0 by decide), n4, u0_ne _ _ (show 119 ≠ 111 by decide)]
        rw [if_neg (nI_ge hj (by omega)), nI_1]
        unfold rsF
        by_cases z : h 119 j = 0
        · simp only [if_pos z]
          by_cases c9 : s.1 = -9
          · rw [if_pos c9, if_pos ⟨z, Or.inl c9⟩]; rfl
          · rw [if_neg c9]
            by_cases cl : Nw j * s.2.2 ≤ s.2.1 * Al j
            · rw [if_pos cl, if_neg (fun d => d.2.elim c9 (fun e => e cl))]; rfl
            · rw [if_neg cl, if_pos ⟨z, Or.inr cl⟩]; rfl
        · simp only [if_neg z]
          rw [if_neg (fun d => z d.1)]; rfl, trivial⟩)
      n FU 0 (-9, 0, 1) (by omega) (FU_gt (by omega)) trivial
    rw [if_neg (i_nlt.mpr cy.1), if_pos cy.2, show L_X1_ripestPiece_11 h (nI D) FU (-9) 0 1 0 = _ from K.1, Option.bind_some, Option.bind_some, if_pos cy, if_neg (by decide), show L_X12_ripest_31 (nI D) (u2 h 111 0 0) FU (-9) 0 1 0 = _ from M.1, Option.bind_some]
    exact ⟨_, _, _, rfl, rfl, rfl, H'⟩
  · rw [if_neg cy, if_pos rfl]
    by_cases y0 : y < 0
    · rw [if_pos y0]
      exact ⟨_, _, _, rfl, rfl, rfl, H'⟩
    · rw [if_neg y0, if_neg (fun d => cy ⟨i_nlt.mp y0, d⟩)]
      exact ⟨_, _, _, rfl, rfl, rfl, H'⟩
