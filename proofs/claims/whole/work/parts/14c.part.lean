/-! a cut: the part ahead and the part behind -/
def shr (a b c : Int32) : Int32 := if c ≤ 0 then 0 else a * b / c
theorem k_share (a b c : Int32) : f_X7_share a b c = some (shr a b c) := by
  unfold f_X7_share shr
  by_cases q : c ≤ 0
  · rw [if_pos q, if_pos q]
  · rw [if_neg q, if_neg q, if_neg (fun e => q (by rw [e]; decide))]
def aH (x2 : Int32) (p : Pr) (x : Nat) : Nat := if x2 = 0 then ix (p 2) else x
def aW (x2 : Int32) (p : Pr) (x : Nat) : Nat := if x2 = 0 then x else ix (p 3)
def ah4 (K : Nat → Int32) (x2 : Int32) (p : Pr) (x : Nat) : Int32 := nI (wtB K (ix (p 0)) (ix (p 1)) (aH x2 p x) (aW x2 p x))
def ah5 (K : Nat → Int32) (x2 : Int32) (p : Pr) (x : Nat) : Int32 := nI (rdB K 1 (ix (p 0)) (ix (p 1)) (aH x2 p x) (aW x2 p x))
def ah (K : Nat → Int32) (x2 : Int32) (p : Pr) (x : Nat) : Pr := fun j => match j with
  | 0 => p 0
  | 1 => p 1
  | 2 => if x2 = 0 then p 2 else nI x
  | 3 => if x2 = 0 then nI x else p 3
  | 4 => ah4 K x2 p x
  | 5 => ah5 K x2 p x
  | 6 => p 6
  | 7 => p 7
  | 8 => shr (p 8) (ah4 K x2 p x) (p 4)
  | 9 => if x2 = 0 then shr (p 9) (nI x) (p 3) else p 9
  | 10 => if x2 = 0 then shr (p 10) (nI x) (p 3) else 0
  | 11 => if x2 = 0 then p 11 else shr (p 11) (nI x) (p 2)
  | 12 => if x2 = 0 then 0 else shr (p 12) (nI x) (p 2)
  | _ => 0
def bh (K : Nat → Int32) (x2 : Int32) (p : Pr) (x : Nat) : Pr := fun j => match j with
  | 0 => if x2 = 0 then p 0 else p 0 + nI x
  | 1 => if x2 = 0 then p 1 + nI x else p 1
  | 2 => if x2 = 0 then p 2 else p 2 - nI x
  | 3 => if x2 = 0 then p 3 - nI x else p 3
  | 4 => p 4 - ah4 K x2 p x
  | 5 => p 5 - ah5 K x2 p x
  | 6 => p 6
  | 7 => p 7
  | 8 => p 8 - shr (p 8) (ah4 K x2 p x) (p 4)
  | 9 => if x2 = 0 then p 9 - shr (p 9) (nI x) (p 3) else 0
  | 10 => if x2 = 0 then p 10 - shr (p 10) (nI x) (p 3) else p 10
  | 11 => if x2 = 0 then 0 else p 11 - shr (p 11) (nI x) (p 2)
  | 12 => if x2 = 0 then p 12 else p 12 - shr (p 12) (nI x) (p 2)
  | _ => 0
/-- x is where a cut can go -/
def okX (x2 : Int32) (hh w x : Nat) : Prop := 1 ≤ x ∧ x < (if x2 = 0 then w else hh)
theorem ah_ok {K : Nat → Int32} {R C r c hh w x : Nat} {x2 : Int32} {p : Pr} (hR : R ≤ 6) (hC : C ≤ 6) (ok : okP K R C p r c hh w) (hx : okX x2 hh w x) : okP K R C (ah K x2 p x) r c (if x2 = 0 then hh else x) (if x2 = 0 then x else w) := by
  obtain ⟨e0, e1, e2, e3, l2, l3, l0, l1, e4, e5, e7⟩ := ok
  obtain ⟨x1, xl⟩ := hx
  unfold okP
  by_cases q : x2 = 0
  · simp only [if_pos q] at xl
    simp only [ah, ah4, ah5, aH, aW, if_pos q, e0, e1, e2, e3, ix_nI (show r < 2147483648 by omega), ix_nI (show c < 2147483648 by omega), ix_nI (show hh < 2147483648 by omega)]
    exact ⟨trivial, trivial, trivial, trivial, l2, x1, l0, by omega, trivial, trivial, e7⟩
  · simp only [if_neg q] at xl
    simp only [ah, ah4, ah5, aH, aW, if_neg q, e0, e1, e2, e3, ix_nI (show r < 2147483648 by omega), ix_nI (show c < 2147483648 by omega), ix_nI (show w < 2147483648 by omega)]
    exact ⟨trivial, trivial, trivial, trivial, x1, l3, by omega, l1, trivial, trivial, e7⟩
theorem bh_ok {K : Nat → Int32} {R C r c hh w x : Nat} {x2 : Int32} {p : Pr} (hR : R ≤ 6) (hC : C ≤ 6) (ok : okP K R C p r c hh w) (hx : okX x2 hh w x) : okP K R C (bh K x2 p x) (if x2 = 0 then r else r + x) (if x2 = 0 then c + x else c) (if x2 = 0 then hh else hh - x) (if x2 = 0 then w - x else w) := by
  obtain ⟨e0, e1, e2, e3, l2, l3, l0, l1, e4, e5, e7⟩ := ok
  obtain ⟨x1, xl⟩ := hx
  unfold okP
  by_cases q : x2 = 0
  · simp only [if_pos q] at xl
    have s1 : ∀ g, blk g r c hh w = blk g r c hh x + blk g r (c + x) hh (w - x) := fun g => by rw [← blk_aside, show x + (w - x) = w by omega]
    simp only [bh, ah4, ah5, aH, aW, if_pos q, e0, e1, e2, e3, e4, e5, ix_nI (show r < 2147483648 by omega), ix_nI (show c < 2147483648 by omega), ix_nI (show hh < 2147483648 by omega), nI_add, nI_sub (show x ≤ w by omega)]
    refine ⟨trivial, trivial, trivial, trivial, l2, by omega, l0, by omega, ?_, ?_, e7⟩
    · unfold wtB
      rw [s1, nI_sub (by omega)]
      congr 1
      omega
    · unfold rdB
      rw [s1, nI_sub (by omega)]
      congr 1
      omega
  · simp only [if_neg q] at xl
    have s1 : ∀ g, blk g r c hh w = blk g r c x w + blk g (r + x) c (hh - x) w := fun g => by rw [← blk_down, show x + (hh - x) = hh by omega]
    simp only [bh, ah4, ah5, aH, aW, if_neg q, e0, e1, e2, e3, e4, e5, ix_nI (show r < 2147483648 by omega), ix_nI (show c < 2147483648 by omega), ix_nI (show w < 2147483648 by omega), nI_add, nI_sub (show x ≤ hh by omega)]
    refine ⟨trivial, trivial, trivial, trivial, by omega, l3, by omega, l1, ?_, ?_, e7⟩
    · unfold wtB
      rw [s1, nI_sub (by omega)]
      congr 1
      omega
    · unfold rdB
      rw [s1, nI_sub (by omega)]
      congr 1
      omega
theorem crow_at (h : Hp) (a : Nat) {j : Nat} (hj : j < 13) : crow h a j = h a j := if_pos hj
theorem crow_eq {h : Hp} {a : Nat} {p : Pr} (h1 : ∀ j, j < 13 → h a j = p j) (h2 : ∀ j, ¬ j < 13 → p j = 0) : crow h a = p := by
  funext j
  by_cases q : j < 13
  · rw [crow_at h a q, h1 j q]
  · rw [h2 j q]; exact if_neg q
theorem j13 {j : Nat} (h : j < 13) : j = 0 ∨ j = 1 ∨ j = 2 ∨ j = 3 ∨ j = 4 ∨ j = 5 ∨ j = 6 ∨ j = 7 ∨ j = 8 ∨ j = 9 ∨ j = 10 ∨ j = 11 ∨ j = 12 := by omega
theorem k_become (h : Hp) {a0 a1 : Nat} (ne : a1 ≠ a0) : ∃ h', f_X7_become h a0 a1 = some h' ∧ (∀ j, j < 13 → h' a0 j = h a1 j) ∧ ∀ k, k ≠ a0 → h' k = h k := by
  refine ⟨_, rfl, ?_, ?_⟩
  · intro j hj
    rcases j13 hj with rfl | rfl | rfl | rfl | rfl | rfl | rfl | rfl | rfl | rfl | rfl | rfl | rfl <;> simp [u2_at, ne]
  · intro k hk
    simp only [u2_ne _ _ _ hk]
theorem weightIn_row {T h : Hp} (e : T 5 = h 5) (a b c d : Int32) : f_X4_weightIn T a b c d = f_X4_weightIn h a b c d := by
  unfold f_X4_weightIn f_X4_sumIn
  rw [e]
theorem rindIn_row {T h : Hp} (e : T 6 = h 6) (a b c d : Int32) : f_X4_rindIn T a b c d = f_X4_rindIn h a b c d := by
  unfold f_X4_rindIn f_X4_sumIn
  rw [e]
def partB (u_2 : Hp) (a0 : Nat) (x2 x3 : Int32) (a4 a5 : Nat) : Option Hp :=
  (if x2 = 0 then
  vB (u2 u_2 a4 3 x3) fun h_4 =>
  vB (u2 h_4 a5 1 ((h_4 a0 1) + x3)) fun h_5 =>
  vB (u2 h_5 a5 3 ((h_5 a0 3) - x3)) fun h_6 =>
  vB (u2 h_6 a4 12 0) fun h_7 =>
  vB (u2 h_7 a5 11 0) fun h_8 =>
  (f_X7_share (h_8 a0 9) x3 (h_8 a0 3)).bind fun u_9 =>
  vB (u2 h_8 a4 9 u_9) fun h_10 =>
  (f_X7_share (h_10 a0 10) x3 (h_10 a0 3)).bind fun u_11 =>
  vB (u2 h_10 a4 10 u_11) fun h_12 =>
  vB (u2 h_12 a5 9 ((h_12 a0 9) - (h_12 a4 9))) fun h_13 =>
  vB (u2 h_13 a5 10 ((h_13 a0 10) - (h_13 a4 10))) fun h_14 =>
  some h_14
  else
  vB (u2 u_2 a4 2 x3) fun h_15 =>
  vB (u2 h_15 a5 0 ((h_15 a0 0) + x3)) fun h_16 =>
  vB (u2 h_16 a5 2 ((h_16 a0 2) - x3)) fun h_17 =>
  vB (u2 h_17 a4 10 0) fun h_18 =>
  vB (u2 h_18 a5 9 0) fun h_19 =>
  (f_X7_share (h_19 a0 11) x3 (h_19 a0 2)).bind fun u_20 =>
  vB (u2 h_19 a4 11 u_20) fun h_21 =>
  (f_X7_share (h_21 a0 12) x3 (h_21 a0 2)).bind fun u_22 =>
  vB (u2 h_21 a4 12 u_22) fun h_23 =>
  vB (u2 h_23 a5 11 ((h_23 a0 11) - (h_23 a4 11))) fun h_24 =>
  vB (u2 h_24 a5 12 ((h_24 a0 12) - (h_24 a4 12))) fun h_25 =>
  some h_25)
def partC (t_3 : Hp) (a0 : Nat) (a4 a5 : Nat) : Option Hp :=
  (f_X4_weightIn t_3 (t_3 a0 0) (t_3 a0 1) (t_3 a4 2) (t_3 a4 3)).bind fun u_26 =>
  vB (u2 t_3 a4 4 u_26) fun h_27 =>
  vB (u2 h_27 a5 4 ((h_27 a0 4) - (h_27 a4 4))) fun h_28 =>
  (f_X4_rindIn h_28 (h_28 a0 0) (h_28 a0 1) (h_28 a4 2) (h_28 a4 3)).bind fun u_29 =>
  vB (u2 h_28 a4 5 u_29) fun h_30 =>
  vB (u2 h_30 a5 5 ((h_30 a0 5) - (h_30 a4 5))) fun h_31 =>
  (f_X7_share (h_31 a0 8) (h_31 a4 4) (h_31 a0 4)).bind fun u_32 =>
  vB (u2 h_31 a4 8 u_32) fun h_33 =>
  vB (u2 h_33 a5 8 ((h_33 a0 8) - (h_33 a4 8))) fun h_34 =>
  some h_34
theorem part_def (h : Hp) (a0 : Nat) (x2 x3 : Int32) (a4 a5 : Nat) : f_X7_part h a0 x2 x3 a4 a5 = (f_X7_become h a4 a0).bind fun u_1 => (f_X7_become u_1 a5 a0).bind fun u_2 => (partB u_2 a0 x2 x3 a4 a5).bind fun t_3 => partC t_3 a0 a4 a5 := rfl
theorem k_partB (t : Hp) (p : Pr) {a0 a4 a5 : Nat} (x2 : Int32) (x : Nat) (h04 : a0 ≠ a4) (h05 : a0 ≠ a5) (h45 : a4 ≠ a5) (A0 : ∀ j, j < 13 → t a0 j = p j) (A4 : ∀ j, j < 13 → t a4 j = p j) (A5 : ∀ j, j < 13 → t a5 j = p j) (K : Nat → Int32) :
    ∃ T, partB t a0 x2 (nI x) a4 a5 = some T ∧ (∀ j, j < 13 → j ≠ 4 → j ≠ 5 → j ≠ 8 → T a4 j = ah K x2 p x j) ∧ (∀ j, j < 13 → j ≠ 4 → j ≠ 5 → j ≠ 8 → T a5 j = bh K x2 p x j) ∧ ∀ k, k ≠ a4 → k ≠ a5 → T k = t k := by
  have n45 := h45.symm
  have n04 := h04.symm
  have n05 := h05.symm
  unfold partB
  by_cases q : x2 = 0
  · simp only [if_pos q, k_share, Option.bind_some, vB_def]
    refine ⟨_, rfl, ?_, ?_, ?_⟩
    · intro j hj j4 j5 j8
      rcases j13 hj with rfl | rfl | rfl | rfl | rfl | rfl | rfl | rfl | rfl | rfl | rfl | rfl | rfl <;> first | omega | simp [u2_at, h04, h05, h45, n45, n04, n05, A0, A4, A5, ah, q]
    · intro j hj j4 j5 j8
      rcases j13 hj with rfl | rfl | rfl | rfl | rfl | rfl | rfl | rfl | rfl | rfl | rfl | rfl | rfl <;> first | omega | simp [u2_at, h04, h05, h45, n45, n04, n05, A0, A4, A5, bh, q]
    · intro k hk4 hk5
      simp only [u2_ne _ _ _ hk4, u2_ne _ _ _ hk5]
  · simp only [if_neg q, k_share, Option.bind_some, vB_def]
    refine ⟨_, rfl, ?_, ?_, ?_⟩
    · intro j hj j4 j5 j8
      rcases j13 hj with rfl | rfl | rfl | rfl | rfl | rfl | rfl | rfl | rfl | rfl | rfl | rfl | rfl <;> first | omega | simp [u2_at, h04, h05, h45, n45, n04, n05, A0, A4, A5, ah, q]
    · intro j hj j4 j5 j8
      rcases j13 hj with rfl | rfl | rfl | rfl | rfl | rfl | rfl | rfl | rfl | rfl | rfl | rfl | rfl <;> first | omega | simp [u2_at, h04, h05, h45, n45, n04, n05, A0, A4, A5, bh, q]
    · intro k hk4 hk5
      simp only [u2_ne _ _ _ hk4, u2_ne _ _ _ hk5]
theorem k_partC (h T : Hp) {a0 a4 a5 : Nat} {wa ra : Int32} (h04 : a0 ≠ a4) (h05 : a0 ≠ a5) (h45 : a4 ≠ a5) (g4 : 7 ≤ a4) (g5 : 7 ≤ a5)
    (kw : f_X4_weightIn T (T a0 0) (T a0 1) (T a4 2) (T a4 3) = some wa) (kr : f_X4_rindIn T (T a0 0) (T a0 1) (T a4 2) (T a4 3) = some ra) :
    ∃ h', partC T a0 a4 a5 = some h' ∧ (∀ j, j ≠ 4 → j ≠ 5 → j ≠ 8 → h' a4 j = T a4 j ∧ h' a5 j = T a5 j) ∧ h' a4 4 = wa ∧ h' a4 5 = ra ∧ h' a4 8 = shr (T a0 8) wa (T a0 4) ∧ h' a5 4 = T a0 4 - wa ∧ h' a5 5 = T a0 5 - ra ∧ h' a5 8 = T a0 8 - shr (T a0 8) wa (T a0 4) ∧ ∀ k, k ≠ a4 → k ≠ a5 → h' k = T k := by
  have n45 := h45.symm
  have n04 := h04.symm
  have n05 := h05.symm
  have kr' : f_X4_rindIn (u2 (u2 T a4 4 wa) a5 4 (T a0 4 - wa)) (T a0 0) (T a0 1) (T a4 2) (T a4 3) = some ra := by
    rw [← kr]
    exact rindIn_row (by rw [u2_ne _ _ _ (by omega), u2_ne _ _ _ (by omega)]) _ _ _ _
  unfold partC
  simp only [kw, Option.bind_some, vB_def, k_share]
  have r0 : u2 T a4 4 wa a0 4 = T a0 4 := by rw [u2_at, if_neg (by omega)]
  have r1 : u2 T a4 4 wa a4 4 = wa := by rw [u2_at, if_pos ⟨rfl, rfl⟩]
  rw [r0, r1]
  have s0 : ∀ j, u2 (u2 T a4 4 wa) a5 4 (T a0 4 - wa) a0 j = T a0 j := fun j => by rw [u2_ne _ _ _ h05, u2_ne _ _ _ h04]
  have s2 : ∀ j, j ≠ 4 → u2 (u2 T a4 4 wa) a5 4 (T a0 4 - wa) a4 j = T a4 j := fun j hj => by rw [u2_ne _ _ _ h45, u2_at, if_neg (by omega)]
  rw [s0, s0, s2 2 (by omega), s2 3 (by omega), kr']
  simp only [Option.bind_some]
  refine ⟨_, rfl, ?_, ?_, ?_, ?_, ?_, ?_, ?_, ?_⟩
  · intro j j4 j5 j8
    constructor <;> simp [u2_at, h04, h05, h45, n45, n04, n05, j4, j5, j8]
  · simp [u2_at, h04, h05, h45, n45, n04, n05]
  · simp [u2_at, h04, h05, h45, n45, n04, n05]
  · simp [u2_at, h04, h05, h45, n45, n04, n05]
  · simp [u2_at, h04, h05, h45, n45, n04, n05]
  · simp [u2_at, h04, h05, h45, n45, n04, n05]
  · simp [u2_at, h04, h05, h45, n45, n04, n05]
  · intro k hk4 hk5
    simp only [u2_ne _ _ _ hk4, u2_ne _ _ _ hk5]
theorem ah_far (K : Nat → Int32) (x2 : Int32) (p : Pr) (x : Nat) {j : Nat} (h : ¬ j < 13) : ah K x2 p x j = 0 := by
  obtain ⟨i, rfl⟩ : ∃ i, j = i + 13 := ⟨j - 13, by omega⟩
  rfl
theorem bh_far (K : Nat → Int32) (x2 : Int32) (p : Pr) (x : Nat) {j : Nat} (h : ¬ j < 13) : bh K x2 p x j = 0 := by
  obtain ⟨i, rfl⟩ : ∃ i, j = i + 13 := ⟨j - 13, by omega⟩
  rfl
theorem k_part (h : Hp) {a0 a4 a5 : Nat} {x2 : Int32} {K : Nat → Int32} {R C r c hh w x : Nat} (h04 : a0 ≠ a4) (h05 : a0 ≠ a5) (h45 : a4 ≠ a5) (g4 : 7 ≤ a4) (g5 : 7 ≤ a5)
    (hR : R ≤ 6) (hC : C ≤ 6) (hs5 : sums (h 5) (fun i => wtN (K i)) R C) (hs6 : sums (h 6) (fun i => rdN 1 (K i)) R C)
    (ok : okP K R C (crow h a0) r c hh w) (hx : okX x2 hh w x) :
    ∃ h', f_X7_part h a0 x2 (nI x) a4 a5 = some h' ∧ crow h' a4 = ah K x2 (crow h a0) x ∧ crow h' a5 = bh K x2 (crow h a0) x ∧ ∀ k, k ≠ a4 → k ≠ a5 → h' k = h k := by
  obtain ⟨u1, b1, c1, f1⟩ := k_become h h04
  obtain ⟨t, b2, c2, f2⟩ := k_become u1 h05
  have A0 : ∀ j, j < 13 → t a0 j = crow h a0 j := fun j hj => by rw [f2 a0 h05, f1 a0 h04, crow_at h a0 hj]
  have A4 : ∀ j, j < 13 → t a4 j = crow h a0 j := fun j hj => by rw [f2 a4 h45, c1 j hj, crow_at h a0 hj]
  have A5 : ∀ j, j < 13 → t a5 j = crow h a0 j := fun j hj => by rw [c2 j hj, f1 a0 h04, crow_at h a0 hj]
  obtain ⟨T, b3, c3, d3, f3⟩ := k_partB t (crow h a0) x2 x h04 h05 h45 A0 A4 A5 K
  have R5 : T 5 = h 5 := by rw [f3 5 (by omega) (by omega), f2 5 (by omega), f1 5 (by omega)]
  have R6 : T 6 = h 6 := by rw [f3 6 (by omega) (by omega), f2 6 (by omega), f1 6 (by omega)]
  have R0 : ∀ j, j < 13 → T a0 j = crow h a0 j := fun j hj => by rw [f3 a0 h04 h05, A0 j hj]
  obtain ⟨i0, i1, i2, i3, l2, l3, l0, l1, i4, i5, i7⟩ := ah_ok hR hC ok hx
  have e0 : crow h a0 0 = nI r := ok.1
  have e1 : crow h a0 1 = nI c := ok.2.1
  have kw : f_X4_weightIn T (T a0 0) (T a0 1) (T a4 2) (T a4 3) = some (ah4 K x2 (crow h a0) x) := by
    rw [weightIn_row R5, R0 0 (by omega), R0 1 (by omega), c3 2 (by omega) (by omega) (by omega) (by omega), c3 3 (by omega) (by omega) (by omega) (by omega), e0, e1, i2, i3, k_weightIn h hs5 hR hC l0 l1]
    exact congrArg some i4.symm
  have kr : f_X4_rindIn T (T a0 0) (T a0 1) (T a4 2) (T a4 3) = some (ah5 K x2 (crow h a0) x) := by
    rw [rindIn_row R6, R0 0 (by omega), R0 1 (by omega), c3 2 (by omega) (by omega) (by omega) (by omega), c3 3 (by omega) (by omega) (by omega) (by omega), e0, e1, i2, i3, k_rindIn h hs6 hR hC l0 l1]
    exact congrArg some i5.symm
  obtain ⟨h', b4, c4, d1, d2, d4, d5, d6, d7, f4⟩ := k_partC h T h04 h05 h45 g4 g5 kw kr
  refine ⟨h', ?_, ?_, ?_, ?_⟩
  · rw [part_def, b1, Option.bind_some, b2, Option.bind_some, b3, Option.bind_some, b4]
  · refine crow_eq (fun j hj => ?_) (fun j hj => ah_far _ _ _ _ hj)
    by_cases j4 : j = 4
    · subst j4; rw [d1]; rfl
    by_cases j5 : j = 5
    · subst j5; rw [d2]; rfl
    by_cases j8 : j = 8
    · subst j8; rw [d4, R0 8 (by omega), R0 4 (by omega)]; rfl
    rw [(c4 j j4 j5 j8).1, c3 j hj j4 j5 j8]
  · refine crow_eq (fun j hj => ?_) (fun j hj => bh_far _ _ _ _ hj)
    by_cases j4 : j = 4
    · subst j4; rw [d5, R0 4 (by omega)]; rfl
    by_cases j5 : j = 5
    · subst j5; rw [d6, R0 5 (by omega)]; rfl
    by_cases j8 : j = 8
    · subst j8; rw [d7, R0 8 (by omega), R0 4 (by omega)]; rfl
    rw [(c4 j j4 j5 j8).2, d3 j hj j4 j5 j8]
  · intro k hk4 hk5
    rw [f4 k hk4 hk5, f3 k hk4 hk5, f2 k hk5, f1 k hk4]
