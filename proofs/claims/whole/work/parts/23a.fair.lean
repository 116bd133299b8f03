/-! fair: the pure side, the reference's best of a block -/
abbrev D0 (D : Nat → Nat → Nat → Nat → Nat) : Nat → Nat → Nat → Nat → Nat → Nat := fun r c hh w _ => D r c hh w
theorem gO_0 (A B : Nat → Nat) (pr : Nat) : mins (gO A B 0 pr) (0 + 1) 0 = min (pr + A 0 + B 0) FAR := rfl
theorem mins_clip (v : Nat → Nat) : ∀ d j, mins (fun x => min (v x) FAR) d j = mins v d j
  | 0, _ => rfl
  | d + 1, j => by
    have e := mins_clip v d (j + 1)
    have l := mins_le v d (j + 1)
    show min (min (v j) FAR) (mins (fun x => min (v x) FAR) d (j + 1)) = min (v j) (mins v d (j + 1))
    rw [e, Nat.min_assoc, Nat.min_eq_right l]
/-- the least by a cut, no sets -/
theorem mG_0 (D : Nat → Nat → Nat → Nat → Nat) (pr : Nat → Nat) (r c hh w : Nat) : mG (D0 D) pr r c hh w 0 = min (mins (fun x => pr w + D r c x w + D (r + x) c (hh - x) w) (hh - 1) 1) (mins (fun x => pr hh + D r c hh x + D r (c + x) hh (w - x)) (w - 1) 1) := by
  unfold mG
  simp only [gO_0]
  rw [mins_clip, mins_clip]
theorem dV_fuel (pr : Nat → Nat) (vd : Nat → Nat → Nat → Nat → Nat) : ∀ f g r c hh w, 1 ≤ hh → 1 ≤ w → hh + w ≤ f → hh + w ≤ g → dV pr vd f r c hh w = dV pr vd g r c hh w
  | 0, _, _, _, _, _, h1, h2, h3, _ => absurd h3 (by omega)
  | f + 1, 0, _, _, _, _, h1, h2, _, h4 => absurd h4 (by omega)
  | f + 1, g + 1, r, c, hh, w, h1, h2, h3, h4 => by
    have e1 : it (fun x b => min b (pr w + dV pr vd f r c x w + dV pr vd f (r + x) c (hh - x) w)) (hh - 1) 1 FAR = it (fun x b => min b (pr w + dV pr vd g r c x w + dV pr vd g (r + x) c (hh - x) w)) (hh - 1) 1 FAR :=
      it_congr _ _ _ (fun x b x1 x2 => by rw [dV_fuel pr vd f g r c x w (by omega) h2 (by omega) (by omega), dV_fuel pr vd f g (r + x) c (hh - x) w (by omega) h2 (by omega) (by omega)])
    have e2 : ∀ b0, it (fun x b => min b (pr hh + dV pr vd f r c hh x + dV pr vd f r (c + x) hh (w - x))) (w - 1) 1 b0 = it (fun x b => min b (pr hh + dV pr vd g r c hh x + dV pr vd g r (c + x) hh (w - x))) (w - 1) 1 b0 := fun b0 =>
      it_congr _ _ _ (fun x b x1 x2 => by rw [dV_fuel pr vd f g r c hh x h1 (by omega) (by omega) (by omega), dV_fuel pr vd f g r (c + x) hh (w - x) h1 (by omega) (by omega) (by omega)])
    simp only [dV]
    rw [e1, e2]
def DV (pr : Nat → Nat) (vd : Nat → Nat → Nat → Nat → Nat) (r c hh w : Nat) : Nat := dV pr vd (hh + w) r c hh w
theorem DV_rec (pr : Nat → Nat) (vd : Nat → Nat → Nat → Nat → Nat) {r c hh w : Nat} (h1 : 1 ≤ hh) (h2 : 1 ≤ w) : DV pr vd r c hh w = if vd r c hh w = 0 then 0 else if vd r c hh w = 1 then mG (D0 (DV pr vd)) pr r c hh w 0 else FAR := by
  obtain ⟨f, hf⟩ : ∃ f, hh + w = f + 1 := ⟨hh + w - 1, by omega⟩
  have e1 : it (fun x b => min b (pr w + dV pr vd f r c x w + dV pr vd f (r + x) c (hh - x) w)) (hh - 1) 1 FAR = min FAR (mins (fun x => pr w + DV pr vd r c x w + DV pr vd (r + x) c (hh - x) w) (hh - 1) 1) :=
    it_mins' _ _ _ _ (Nat.le_refl _) (fun x b x1 x2 _ => by
      unfold DV
      rw [dV_fuel pr vd f (x + w) r c x w (by omega) h2 (by omega) (by omega), dV_fuel pr vd f (hh - x + w) (r + x) c (hh - x) w (by omega) h2 (by omega) (by omega)])
  have e2 : ∀ b0, b0 ≤ FAR → it (fun x b => min b (pr hh + dV pr vd f r c hh x + dV pr vd f r (c + x) hh (w - x))) (w - 1) 1 b0 = min b0 (mins (fun x => pr hh + DV pr vd r c hh x + DV pr vd r (c + x) hh (w - x)) (w - 1) 1) := fun b0 hb0 =>
    it_mins' _ _ _ _ hb0 (fun x b x1 x2 _ => by
      unfold DV
      rw [dV_fuel pr vd f (hh + x) r c hh x h1 (by omega) (by omega) (by omega), dV_fuel pr vd f (hh + (w - x)) r (c + x) hh (w - x) h1 (by omega) (by omega) (by omega)])
  rw [mG_0]
  have m1 := mins_le (fun x => pr w + DV pr vd r c x w + DV pr vd (r + x) c (hh - x) w) (hh - 1) 1
  show dV pr vd (hh + w) r c hh w = _
  rw [hf]
  simp only [dV]
  rw [e1, e2 _ (Nat.min_le_left _ _), Nat.min_eq_right m1]
theorem DV_le (pr : Nat → Nat) (vd : Nat → Nat → Nat → Nat → Nat) {r c hh w : Nat} (h1 : 1 ≤ hh) (h2 : 1 ≤ w) : DV pr vd r c hh w ≤ FAR := by
  rw [DV_rec pr vd h1 h2]
  have := mG_le (D0 (DV pr vd)) pr r c hh w 0
  split
  · exact Nat.zero_le _
  · split
    · exact this
    · exact Nat.le_refl _
theorem mins_ex {g : Nat → Nat} {F : Nat} (hF : F = FAR) : ∀ d j, mins g d j < F → ∃ i, j ≤ i ∧ i < j + d ∧ g i < F
  | 0, j, h => absurd h (by rw [hF]; exact Nat.lt_irrefl _)
  | d + 1, j, h => by
    simp only [mins] at h
    by_cases c : g j < F
    · exact ⟨j, Nat.le_refl _, by omega, c⟩
    · obtain ⟨i, h1, h2, h3⟩ := mins_ex (g := g) hF d (j + 1) (by omega)
      exact ⟨i, by omega, by omega, h3⟩
/-- by a cut: each part can be -/
theorem mG_ex {D : Nat → Nat → Nat → Nat → Nat} {pr : Nat → Nat} {r c hh w F : Nat} (hF : F = FAR) (h : mG (D0 D) pr r c hh w 0 < F) : (∃ x, 1 ≤ x ∧ x < hh ∧ D r c x w < F ∧ D (r + x) c (hh - x) w < F) ∨ (∃ x, 1 ≤ x ∧ x < w ∧ D r c hh x < F ∧ D r (c + x) hh (w - x) < F) := by
  rw [mG_0] at h
  by_cases c1 : mins (fun x => pr w + D r c x w + D (r + x) c (hh - x) w) (hh - 1) 1 < F
  · obtain ⟨x, x1, x2, x3⟩ := mins_ex hF _ _ c1
    exact Or.inl ⟨x, x1, by omega, by omega, by omega⟩
  · obtain ⟨x, x1, x2, x3⟩ := mins_ex hF (g := fun x => pr hh + D r c hh x + D r (c + x) hh (w - x)) (w - 1) 1 (by omega)
    exact Or.inr ⟨x, x1, by omega, by omega, by omega⟩
/-- each block a share -/
def vdF (K : Nat → Int32) (we re r c hh w : Nat) : Nat := if wtB K r c hh w = we ∧ rdB K 1 r c hh w = re then 0 else 1
theorem fair_mult {K : Nat → Int32} {we re F : Nat} (pr : Nat → Nat) (hF : F = FAR) : ∀ n r c hh w, hh + w ≤ n → 1 ≤ hh → 1 ≤ w → DV pr (vdF K we re) r c hh w < F → ∃ k, 1 ≤ k ∧ wtB K r c hh w = k * we ∧ rdB K 1 r c hh w = k * re
  | 0, _, _, _, _, h0, h1, _, _ => absurd h0 (by omega)
  | n + 1, r, c, hh, w, h0, h1, h2, h => by
    rw [DV_rec pr _ h1 h2] at h
    by_cases c0 : wtB K r c hh w = we ∧ rdB K 1 r c hh w = re
    · exact ⟨1, by omega, by rw [Nat.one_mul]; exact c0.1, by rw [Nat.one_mul]; exact c0.2⟩
    · have v1 : vdF K we re r c hh w = 1 := if_neg c0
      rw [v1, if_neg (by decide), if_pos rfl] at h
      rcases mG_ex hF h with ⟨x, x1, x2, x3, x4⟩ | ⟨x, x1, x2, x3, x4⟩
      · obtain ⟨k, k1, k2, k3⟩ := fair_mult pr hF n r c x w (by omega) x1 h2 x3
        obtain ⟨l, l1, l2, l3⟩ := fair_mult pr hF n (r + x) c (hh - x) w (by omega) (by omega) h2 x4
        have s1 : ∀ g, blk g r c hh w = blk g r c x w + blk g (r + x) c (hh - x) w := fun g => by rw [← blk_down, show x + (hh - x) = hh by omega]
        exact ⟨k + l, by omega, by rw [Nat.add_mul, ← k2, ← l2]; exact s1 _, by rw [Nat.add_mul, ← k3, ← l3]; exact s1 _⟩
      · obtain ⟨k, k1, k2, k3⟩ := fair_mult pr hF n r c hh x (by omega) h1 x1 x3
        obtain ⟨l, l1, l2, l3⟩ := fair_mult pr hF n r (c + x) hh (w - x) (by omega) h1 (by omega) x4
        have s1 : ∀ g, blk g r c hh w = blk g r c hh x + blk g r (c + x) hh (w - x) := fun g => by rw [← blk_aside, show x + (w - x) = w by omega]
        exact ⟨k + l, by omega, by rw [Nat.add_mul, ← k2, ← l2]; exact s1 _, by rw [Nat.add_mul, ← k3, ← l3]; exact s1 _⟩
-- the reference's bestOf
def gM (mb : Bool) (v : Nat) : Nat := if mb = true then v else FAR
def bO (D : Nat → Nat → Nat → Nat → Nat) (pr : Nat → Nat) (may : Nat → Nat → Bool) (r c hh w : Nat) : Nat := min (mins (fun x => gM (may 0 x) (pr w + D r c x w + D (r + x) c (hh - x) w)) (hh - 1) 1) (mins (fun x => gM (may 1 x) (pr hh + D r c hh x + D r (c + x) hh (w - x))) (w - 1) 1)
theorem bO_mG (D : Nat → Nat → Nat → Nat → Nat) (pr : Nat → Nat) (r c hh w : Nat) : bO D pr (fun _ _ => true) r c hh w = mG (D0 D) pr r c hh w 0 := by
  rw [mG_0]
  rfl
theorem m_bestOf16 (T : Hp) {D : Nat → Nat → Nat → Nat → Nat} {R C r c hh w d : Nat} (x5 x6 : Int32) (pr : Nat → Nat) (may : Nat → Nat → Bool) (hR : R ≤ 6) (hC : C ≤ 6) (b : blkIn R C r c hh w) (hd : d = 0 ∨ d = 1) (hD : ∀ r c hh w, blkIn R C r c hh w → D r c hh w ≤ FAR)
    (V1 : ∀ x, 1 ≤ x → x < hh → T 132 (bk r c x w) = nI (D r c x w) ∧ T 132 (bk (r + x) c (hh - x) w) = nI (D (r + x) c (hh - x) w)) (V2 : ∀ x, 1 ≤ x → x < w → T 132 (bk r c hh x) = nI (D r c hh x) ∧ T 132 (bk r (c + x) hh (w - x)) = nI (D r (c + x) hh (w - x)))
    (hp : ∀ y, y ≤ 6 → pr y ≤ 6) (hpr : (if x5 = 0 then (some 1 : Option Int32) else (if nI d = 0 then some (nI w) else some (nI hh))) = some (nI (pr (if d = 0 then w else hh))))
    (hm : ∀ x, 1 ≤ x → x < (if d = 0 then hh else w) → (if x6 = 0 then (some 1 : Option Int32) else ((if nI d = 0 then (some 1 : Option Int32) else some 0)).bind fun t_22 => (f_X12_goesThrough T (nI r) (nI c) (nI hh) (nI w) t_22 (nI x)).bind fun u_23 => (if u_23 = 0 then some 1 else some 0)) = some (if may d x = true then 1 else 0)) {b0 : Nat} (hb0 : b0 ≤ FAR) :
    L_X12_bestOf_16 T (nI r) (nI c) (nI hh) (nI w) x5 x6 (nI d) FU (nI b0) 1 = some (nI (min b0 (mins (fun x => if d = 0 then gM (may 0 x) (pr w + D r c x w + D (r + x) c (hh - x) w) else gM (may 1 x) (pr hh + D r c hh x + D r (c + x) hh (w - x))) ((if d = 0 then hh else w) - 1) 1))) := by
  have FE := FAR_eq
  obtain ⟨L, hL⟩ : ∃ L, L = (if d = 0 then hh else w) := ⟨_, rfl⟩
  have L1 : 1 ≤ L ∧ L ≤ 6 := by rw [hL]; split <;> omega
  rw [← hL] at hm ⊢
  have tL : (if nI d = 0 then (some (nI hh) : Option Int32) else some (nI w)) = some (nI L) := by
    rw [hL]
    rcases hd with rfl | rfl <;> rfl
  have hpw := hp w (by omega)
  have hph := hp hh (by omega)
  have mnm : ∀ (b' v : Nat) (mb : Bool), b' ≤ FAR → v ≤ 2 * FAR + 6 → (if (if mb = true then (1 : Int32) else 0) = 0 then (some (nI b') : Option Int32) else (if nI b' ≤ nI v then some (nI b') else some (nI v))) = some (nI (min b' (gM mb v))) := fun b' v mb h1 h2 => by
    unfold gM
    cases mb with
    | false =>
      rw [if_neg (show ¬ (false = true) by decide), if_pos rfl, if_neg (show ¬ (false = true) by decide), Nat.min_eq_left h1]
    | true =>
      rw [if_pos rfl, if_neg (by decide), if_pos rfl]
      by_cases c : b' ≤ v
      · rw [if_pos (nI_le c (by omega)), Nat.min_eq_left c]
      · rw [if_neg (nI_ge (by omega) (by omega)), Nat.min_eq_right (by omega)]
  have key := lpU (fun N j b' => L_X12_bestOf_16 T (nI r) (nI c) (nI hh) (nI w) x5 x6 (nI d) N (nI b') (nI j)) (fun x b' => min b' (if d = 0 then gM (may 0 x) (pr w + D r c x w + D (r + x) c (hh - x) w) else gM (may 1 x) (pr hh + D r c hh x + D r (c + x) hh (w - x)))) L (fun b' => nI b') (fun j b' => b' ≤ FAR ∧ 1 ≤ j)
    (fun N b' _ => by simp only [L_X12_bestOf_16, tL, Option.bind_some]; rw [if_pos (nI_le (Nat.le_refl _) (by omega))])
    (fun N j b' hj hq => ⟨by
      have hmj := hm j hq.2 hj
      simp only [L_X12_bestOf_16, vB_def, tL, Option.bind_some, hpr]
      rw [if_neg (nI_ge hj (by omega)), hmj]
      rcases hd with rfl | rfl
      · rw [if_pos rfl] at hL
        have b1 : blkIn R C r c j w := by omega
        have b2 : blkIn R C (r + j) c (hh - j) w := by omega
        have d1 := hD _ _ _ _ b1
        have d2 := hD _ _ _ _ b2
        rw [if_pos (show nI 0 = 0 from rfl), if_pos (show nI 0 = 0 from rfl), m_block (by omega) (by omega), Option.bind_some, Option.bind_some, nI_add, nI_sub (by omega), m_block (by omega) (by omega), Option.bind_some, Option.bind_some, if_pos (inB_nI (bk_lt hR hC b1) (by omega)), if_pos (inB_nI (bk_lt hR hC b2) (by omega)), ix_nI (by have := bk_lt hR hC b1; omega), ix_nI (by have := bk_lt hR hC b2; omega), (V1 j hq.2 (by omega)).1, (V1 j hq.2 (by omega)).2, if_pos rfl, nI_add, nI_add, Option.bind_some, mnm _ _ _ hq.1 (by omega), Option.bind_some, nI_1, if_pos rfl]
      · rw [if_neg (by decide)] at hL
        have b1 : blkIn R C r c hh j := by omega
        have b2 : blkIn R C r (c + j) hh (w - j) := by omega
        have d1 := hD _ _ _ _ b1
        have d2 := hD _ _ _ _ b2
        rw [if_neg (show ¬ nI 1 = (0 : Int32) by decide), if_neg (show ¬ nI 1 = (0 : Int32) by decide), m_block (by omega) (by omega), Option.bind_some, Option.bind_some, nI_add, nI_sub (by omega), m_block (by omega) (by omega), Option.bind_some, Option.bind_some, if_pos (inB_nI (bk_lt hR hC b1) (by omega)), if_pos (inB_nI (bk_lt hR hC b2) (by omega)), ix_nI (by have := bk_lt hR hC b1; omega), ix_nI (by have := bk_lt hR hC b2; omega), (V2 j hq.2 (by omega)).1, (V2 j hq.2 (by omega)).2, if_neg (show ¬ (1 : Nat) = 0 by decide), nI_add, nI_add, Option.bind_some, mnm _ _ _ hq.1 (by omega), Option.bind_some, nI_1, if_neg (show ¬ (1 : Nat) = 0 by decide)], ⟨Nat.le_trans (Nat.min_le_left _ _) hq.1, by omega⟩⟩)
    (L - 1) FU 1 b0 (by omega) (FU_gt (by omega)) ⟨hb0, Nat.le_refl _⟩
  have k1 := key.1
  rw [it_mins _ _ _ _ hb0] at k1
  exact k1
theorem m_bestOf (T : Hp) {D : Nat → Nat → Nat → Nat → Nat} {R C r c hh w : Nat} (x5 x6 : Int32) (pr : Nat → Nat) (may : Nat → Nat → Bool) (hR : R ≤ 6) (hC : C ≤ 6) (b : blkIn R C r c hh w) (hD : ∀ r c hh w, blkIn R C r c hh w → D r c hh w ≤ FAR)
    (V1 : ∀ x, 1 ≤ x → x < hh → T 132 (bk r c x w) = nI (D r c x w) ∧ T 132 (bk (r + x) c (hh - x) w) = nI (D (r + x) c (hh - x) w)) (V2 : ∀ x, 1 ≤ x → x < w → T 132 (bk r c hh x) = nI (D r c hh x) ∧ T 132 (bk r (c + x) hh (w - x)) = nI (D r (c + x) hh (w - x)))
    (hp : ∀ y, y ≤ 6 → pr y ≤ 6) (hpr : ∀ d, d = 0 ∨ d = 1 → (if x5 = 0 then (some 1 : Option Int32) else (if nI d = 0 then some (nI w) else some (nI hh))) = some (nI (pr (if d = 0 then w else hh))))
    (hm : ∀ d x, d = 0 ∨ d = 1 → 1 ≤ x → x < (if d = 0 then hh else w) → (if x6 = 0 then (some 1 : Option Int32) else ((if nI d = 0 then (some 1 : Option Int32) else some 0)).bind fun t_22 => (f_X12_goesThrough T (nI r) (nI c) (nI hh) (nI w) t_22 (nI x)).bind fun u_23 => (if u_23 = 0 then some 1 else some 0)) = some (if may d x = true then 1 else 0)) :
    f_X12_bestOf T (nI r) (nI c) (nI hh) (nI w) x5 x6 = some (nI (bO D pr may r c hh w)) := by
  have a := m_bestOf16 T (D := D) (d := 0) x5 x6 pr may hR hC b (Or.inl rfl) hD V1 V2 hp (hpr 0 (Or.inl rfl)) (fun x => hm 0 x (Or.inl rfl)) (Nat.le_refl FAR)
  simp only [if_true] at a
  have l1 := mins_le (fun x => gM (may 0 x) (pr w + D r c x w + D (r + x) c (hh - x) w)) (hh - 1) 1
  rw [Nat.min_eq_right l1] at a
  have b' := m_bestOf16 T (D := D) (d := 1) x5 x6 pr may hR hC b (Or.inr rfl) hD V1 V2 hp (hpr 1 (Or.inr rfl)) (fun x => hm 1 x (Or.inr rfl)) l1
  simp only [show ¬ (1 : Nat) = 0 by decide, if_false] at b'
  obtain ⟨F, hF⟩ : ∃ F, FU = F + 1 + 1 + 1 := ⟨1997, rfl⟩
  have step : ∀ (N d : Nat) (y : Int32), d < 2 → L_X12_bestOf_7 T (nI r) (nI c) (nI hh) (nI w) x5 x6 (N + 1) y (nI d) = (L_X12_bestOf_16 T (nI r) (nI c) (nI hh) (nI w) x5 x6 (nI d) FU y 1).bind fun t => L_X12_bestOf_7 T (nI r) (nI c) (nI hh) (nI w) x5 x6 N t (nI (d + 1)) := fun N d y hd => by
    rw [L_X12_bestOf_7, if_neg (f_le 2 rfl (by omega) (by omega)), vB_def, ← nI_1]
    rfl
  have stop : ∀ (N : Nat) (y : Int32), L_X12_bestOf_7 T (nI r) (nI c) (nI hh) (nI w) x5 x6 (N + 1) y (nI 2) = some y := fun N y => by
    rw [L_X12_bestOf_7, if_pos (by decide)]
  unfold f_X12_bestOf
  rw [vB_def, vB_def]
  rw [show L_X12_bestOf_7 T (nI r) (nI c) (nI hh) (nI w) x5 x6 FU 1000000 0 = L_X12_bestOf_7 T (nI r) (nI c) (nI hh) (nI w) x5 x6 (F + 1 + 1 + 1) (nI FAR) (nI 0) by rw [← hF]; rfl]
  rw [step _ 0 _ (by omega), show L_X12_bestOf_16 T (nI r) (nI c) (nI hh) (nI w) x5 x6 (nI 0) FU (nI FAR) 1 = _ from a, Option.bind_some, step _ 1 _ (by omega), b', Option.bind_some, stop, Option.bind_some]
  rfl
