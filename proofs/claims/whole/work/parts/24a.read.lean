/-! read: the pure side -/
abbrev BX : Type := Nat → Nat × Nat × Nat × Nat
def bxT (X : BX) (i : Nat) : Nat := (X i).1
def bxL (X : BX) (i : Nat) : Nat := (X i).2.1
def bxB (X : BX) (i : Nat) : Nat := (X i).1 + (X i).2.2.1
def bxG (X : BX) (i : Nat) : Nat := (X i).2.1 + (X i).2.2.2
abbrev mtX (X : BX) (r c hh w i : Nat) : Prop := mtB r c hh w (X i).1 (X i).2.1 (X i).2.2.1 (X i).2.2.2
def vX (X : BX) (m r c hh w : Nat) : Nat := vdL (bxT X) (bxB X) (bxL X) (bxG X) m r c hh w
theorem nevX (X : BX) (r c hh w i : Nat) : lNev (bxT X) (bxB X) (bxL X) (bxG X) r c hh w i ↔ (mtX X r c hh w i ∧ ((X i).1 < r ∨ r + hh < (X i).1 + (X i).2.2.1 ∨ (X i).2.1 < c ∨ c + w < (X i).2.1 + (X i).2.2.2)) := by
  unfold lNev lAp bxT bxB bxL bxG mtX mtB
  omega
theorem musX (X : BX) (r c hh w i : Nat) : lMus (bxT X) (bxB X) (bxL X) (bxG X) r c hh w i ↔ (mtX X r c hh w i ∧ (r < (X i).1 ∨ (X i).1 + (X i).2.2.1 < r + hh ∨ c < (X i).2.1 ∨ (X i).2.1 + (X i).2.2.2 < c + w)) := by
  unfold lMus lAp bxT bxB bxL bxG mtX mtB
  omega
theorem vdL_congr {T B L G T' B' L' G' : Nat → Nat} {m r c hh w : Nat} (h : ∀ i, i < m → T i = T' i ∧ B i = B' i ∧ L i = L' i ∧ G i = G' i) : vdL T B L G m r c hh w = vdL T' B' L' G' m r c hh w := by
  refine it_congr m 0 0 (fun i v _ hi => ?_)
  obtain ⟨h1, h2, h3, h4⟩ := h i (by omega)
  have e1 : lNev T B L G r c hh w i ↔ lNev T' B' L' G' r c hh w i := by unfold lNev lAp; rw [h1, h2, h3, h4]
  have e2 : lMus T B L G r c hh w i ↔ lMus T' B' L' G' r c hh w i := by unfold lMus lAp; rw [h1, h2, h3, h4]
  by_cases c0 : v = 2
  · rw [if_pos c0, if_pos c0]
  · rw [if_neg c0, if_neg c0]
    by_cases c1 : lNev T B L G r c hh w i
    · rw [if_pos c1, if_pos (e1.mp c1)]
    · rw [if_neg c1, if_neg (fun z => c1 (e1.mpr z))]
      by_cases c2 : lMus T B L G r c hh w i
      · rw [if_pos c2, if_pos (e2.mp c2)]
      · rw [if_neg c2, if_neg (fun z => c2 (e2.mpr z))]
theorem vdL_spec (T B L G : Nat → Nat) (m r c hh w : Nat) : (vdL T B L G m r c hh w = 2 ↔ ∃ i, i < m ∧ lNev T B L G r c hh w i) ∧ (vdL T B L G m r c hh w = 0 ↔ ∀ i, i < m → ¬ lNev T B L G r c hh w i ∧ ¬ lMus T B L G r c hh w i) ∧ vdL T B L G m r c hh w ≤ 2 := by
  have key := it_invI (fun j (v : Nat) => (v = 2 ↔ ∃ i, i < j ∧ lNev T B L G r c hh w i) ∧ (v = 0 ↔ ∀ i, i < j → ¬ lNev T B L G r c hh w i ∧ ¬ lMus T B L G r c hh w i) ∧ v ≤ 2) (f := fun i v => if v = 2 then 2 else if lNev T B L G r c hh w i then 2 else if lMus T B L G r c hh w i then 1 else v) m 0 0
    ⟨⟨fun z => absurd z (by decide), fun ⟨i, hi, _⟩ => absurd hi (by omega)⟩, ⟨fun _ i hi => absurd hi (by omega), fun _ => rfl⟩, by omega⟩
    (fun j v _ _ hP => by
      obtain ⟨p1, p2, p3⟩ := hP
      by_cases c0 : v = 2
      · rw [if_pos c0]
        obtain ⟨i, i1, i2⟩ := p1.mp c0
        exact ⟨⟨fun _ => ⟨i, by omega, i2⟩, fun _ => rfl⟩, ⟨fun z => absurd z (by decide), fun z => absurd i2 (z i (by omega)).1⟩, by omega⟩
      · rw [if_neg c0]
        have n2 : ∀ i, i < j → ¬ lNev T B L G r c hh w i := fun i hi z => c0 (p1.mpr ⟨i, hi, z⟩)
        by_cases c1 : lNev T B L G r c hh w j
        · rw [if_pos c1]
          exact ⟨⟨fun _ => ⟨j, by omega, c1⟩, fun _ => rfl⟩, ⟨fun z => absurd z (by decide), fun z => absurd c1 (z j (by omega)).1⟩, by omega⟩
        · rw [if_neg c1]
          have nn : ¬ ∃ i, i < j + 1 ∧ lNev T B L G r c hh w i := fun ⟨i, hi, z⟩ => by
            by_cases e : i = j
            · subst e; exact c1 z
            · exact n2 i (by omega) z
          by_cases c2 : lMus T B L G r c hh w j
          · rw [if_pos c2]
            exact ⟨⟨fun z => absurd z (by decide), fun z => absurd z nn⟩, ⟨fun z => absurd z (by decide), fun z => absurd c2 (z j (by omega)).2⟩, by omega⟩
          · rw [if_neg c2]
            refine ⟨⟨fun z => absurd z c0, fun z => absurd z nn⟩, ⟨fun z i hi => ?_, fun z => p2.mpr (fun i hi => z i (by omega))⟩, p3⟩
            by_cases e : i = j
            · subst e; exact ⟨c1, c2⟩
            · exact p2.mp z i (by omega))
  rw [Nat.zero_add] at key
  exact key
/-- no left one sticks out of the block -/
def gdB (X : BX) (m r c hh w : Nat) : Prop := ∀ i, i < m → mtX X r c hh w i → r ≤ (X i).1 ∧ (X i).1 + (X i).2.2.1 ≤ r + hh ∧ c ≤ (X i).2.1 ∧ (X i).2.1 + (X i).2.2.2 ≤ c + w
theorem gd_2 {X : BX} {m r c hh w : Nat} (g : gdB X m r c hh w) : ¬ vX X m r c hh w = 2 := fun z => by
  obtain ⟨i, hi, h1⟩ := (vdL_spec _ _ _ _ m r c hh w).1.mp z
  rw [nevX] at h1
  have := g i hi h1.1
  omega
abbrev eqX (X : BX) (r c hh w i : Nat) : Prop := r = (X i).1 ∧ c = (X i).2.1 ∧ hh = (X i).2.2.1 ∧ w = (X i).2.2.2
theorem gd_0 {X : BX} {m r c hh w : Nat} (g : gdB X m r c hh w) : vX X m r c hh w = 0 ↔ ∀ i, i < m → mtX X r c hh w i → eqX X r c hh w i := by
  unfold vX
  rw [(vdL_spec _ _ _ _ m r c hh w).2.1]
  constructor
  · intro z i hi hm
    have g1 := g i hi hm
    have z2 := (z i hi).2
    rw [musX] at z2
    have z3 : ¬ (r < (X i).1 ∨ (X i).1 + (X i).2.2.1 < r + hh ∨ c < (X i).2.1 ∨ (X i).2.1 + (X i).2.2.2 < c + w) := fun q => z2 ⟨hm, q⟩
    unfold eqX
    omega
  · intro z i hi
    rw [nevX, musX]
    refine ⟨fun q => ?_, fun q => ?_⟩
    · have g1 := g i hi q.1
      omega
    · have e := z i hi q.1
      unfold eqX at e
      omega
def dM (pr : Nat → Nat) (isM : Nat → Nat → Nat → Nat → Bool) (may : Nat → Nat → Nat → Nat → Nat → Nat → Bool) : Nat → Nat → Nat → Nat → Nat → Nat
  | 0, _, _, _, _ => FAR
  | f + 1, r, c, hh, w => if isM r c hh w = true then 0 else min (mins (fun x => gM (may r c hh w 0 x) (pr w + dM pr isM may f r c x w + dM pr isM may f (r + x) c (hh - x) w)) (hh - 1) 1) (mins (fun x => gM (may r c hh w 1 x) (pr hh + dM pr isM may f r c hh x + dM pr isM may f r (c + x) hh (w - x))) (w - 1) 1)
theorem dM_fuel (pr : Nat → Nat) (isM : Nat → Nat → Nat → Nat → Bool) (may : Nat → Nat → Nat → Nat → Nat → Nat → Bool) : ∀ f g r c hh w, 1 ≤ hh → 1 ≤ w → hh + w ≤ f → hh + w ≤ g → dM pr isM may f r c hh w = dM pr isM may g r c hh w
  | 0, _, _, _, _, _, h1, h2, h3, _ => absurd h3 (by omega)
  | f + 1, 0, _, _, _, _, h1, h2, _, h4 => absurd h4 (by omega)
  | f + 1, g + 1, r, c, hh, w, h1, h2, h3, h4 => by
    have e1 : mins (fun x => gM (may r c hh w 0 x) (pr w + dM pr isM may f r c x w + dM pr isM may f (r + x) c (hh - x) w)) (hh - 1) 1 = mins (fun x => gM (may r c hh w 0 x) (pr w + dM pr isM may g r c x w + dM pr isM may g (r + x) c (hh - x) w)) (hh - 1) 1 :=
      mins_congr _ _ (fun x x1 x2 => by rw [dM_fuel pr isM may f g r c x w (by omega) h2 (by omega) (by omega), dM_fuel pr isM may f g (r + x) c (hh - x) w (by omega) h2 (by omega) (by omega)])
    have e2 : mins (fun x => gM (may r c hh w 1 x) (pr hh + dM pr isM may f r c hh x + dM pr isM may f r (c + x) hh (w - x))) (w - 1) 1 = mins (fun x => gM (may r c hh w 1 x) (pr hh + dM pr isM may g r c hh x + dM pr isM may g r (c + x) hh (w - x))) (w - 1) 1 :=
      mins_congr _ _ (fun x x1 x2 => by rw [dM_fuel pr isM may f g r c hh x h1 (by omega) (by omega) (by omega), dM_fuel pr isM may f g r (c + x) hh (w - x) h1 (by omega) (by omega) (by omega)])
    simp only [dM]
    rw [e1, e2]
def DM (pr : Nat → Nat) (isM : Nat → Nat → Nat → Nat → Bool) (may : Nat → Nat → Nat → Nat → Nat → Nat → Bool) (r c hh w : Nat) : Nat := dM pr isM may (hh + w) r c hh w
theorem DM_rec (pr : Nat → Nat) (isM : Nat → Nat → Nat → Nat → Bool) (may : Nat → Nat → Nat → Nat → Nat → Nat → Bool) {r c hh w : Nat} (h1 : 1 ≤ hh) (h2 : 1 ≤ w) : DM pr isM may r c hh w = if isM r c hh w = true then 0 else bO (DM pr isM may) pr (may r c hh w) r c hh w := by
  obtain ⟨f, hf⟩ : ∃ f, hh + w = f + 1 := ⟨hh + w - 1, by omega⟩
  have e1 : mins (fun x => gM (may r c hh w 0 x) (pr w + dM pr isM may f r c x w + dM pr isM may f (r + x) c (hh - x) w)) (hh - 1) 1 = mins (fun x => gM (may r c hh w 0 x) (pr w + DM pr isM may r c x w + DM pr isM may (r + x) c (hh - x) w)) (hh - 1) 1 :=
    mins_congr _ _ (fun x x1 x2 => by
      unfold DM
      rw [dM_fuel pr isM may f (x + w) r c x w (by omega) h2 (by omega) (by omega), dM_fuel pr isM may f (hh - x + w) (r + x) c (hh - x) w (by omega) h2 (by omega) (by omega)])
  have e2 : mins (fun x => gM (may r c hh w 1 x) (pr hh + dM pr isM may f r c hh x + dM pr isM may f r (c + x) hh (w - x))) (w - 1) 1 = mins (fun x => gM (may r c hh w 1 x) (pr hh + DM pr isM may r c hh x + DM pr isM may r (c + x) hh (w - x))) (w - 1) 1 :=
    mins_congr _ _ (fun x x1 x2 => by
      unfold DM
      rw [dM_fuel pr isM may f (hh + x) r c hh x h1 (by omega) (by omega) (by omega), dM_fuel pr isM may f (hh + (w - x)) r (c + x) hh (w - x) h1 (by omega) (by omega) (by omega)])
  show dM pr isM may (hh + w) r c hh w = _
  rw [hf]
  simp only [dM]
  rw [e1, e2]
  rfl
theorem DM_le (pr : Nat → Nat) (isM : Nat → Nat → Nat → Nat → Bool) (may : Nat → Nat → Nat → Nat → Nat → Nat → Bool) {r c hh w : Nat} (h1 : 1 ≤ hh) (h2 : 1 ≤ w) : DM pr isM may r c hh w ≤ FAR := by
  rw [DM_rec pr isM may h1 h2]
  split
  · exact Nat.zero_le _
  · exact Nat.le_trans (Nat.min_le_left _ _) (mins_le _ _ _)
/-- as it is -/
def isMX (X : BX) (m r c hh w : Nat) : Bool := decide (∀ i, i < m → mtX X r c hh w i → eqX X r c hh w i)
/-- a cut goes through none -/
def mayX (X : BX) (m r c hh w d x : Nat) : Bool := decide (∀ i, i < m → ¬ (mtX X r c (if d = 0 then x else hh) (if d = 0 then w else x) i ∧ mtX X (if d = 0 then r + x else r) (if d = 0 then c else c + x) (if d = 0 then hh - x else hh) (if d = 0 then w else w - x) i))
theorem vX_far {X : BX} {m r c hh w i : Nat} (h1 : 1 ≤ hh) (h2 : 1 ≤ w) (hi : i < m) (hn : lNev (bxT X) (bxB X) (bxL X) (bxG X) r c hh w i) : DV (fun _ => 1) (vX X m) r c hh w = FAR := by
  have v2 : vX X m r c hh w = 2 := (vdL_spec _ _ _ _ m r c hh w).1.mpr ⟨i, hi, hn⟩
  rw [DV_rec _ _ h1 h2, v2, if_neg (by decide), if_neg (by decide)]
theorem far_l {a b F : Nat} (h : F ≤ a) : min (1 + a + b) F = F := by omega
theorem far_r {a b F : Nat} (h : F ≤ b) : min (1 + a + b) F = F := by omega
theorem read_eq (X : BX) (m : Nat) (hX : ∀ i, i < m → 1 ≤ (X i).2.2.1 ∧ 1 ≤ (X i).2.2.2) : ∀ n r c hh w, hh + w ≤ n → 1 ≤ hh → 1 ≤ w → gdB X m r c hh w → DM (fun _ => 1) (isMX X m) (mayX X m) r c hh w = DV (fun _ => 1) (vX X m) r c hh w
  | 0, _, _, _, _, h0, h1, _, _ => absurd h0 (by omega)
  | n + 1, r, c, hh, w, h0, h1, h2, g => by
    rw [DM_rec _ _ _ h1 h2, DV_rec _ _ h1 h2]
    have g2 := gd_2 g
    have g0 := gd_0 g
    by_cases c0 : vX X m r c hh w = 0
    · rw [if_pos c0, if_pos (show isMX X m r c hh w = true from decide_eq_true (g0.mp c0))]
    · have v1 : vX X m r c hh w = 1 := by
        have := (vdL_spec (bxT X) (bxB X) (bxL X) (bxG X) m r c hh w).2.2
        unfold vX at *
        omega
      rw [if_neg c0, if_pos v1, if_neg (show ¬ isMX X m r c hh w = true from fun z => c0 (g0.mpr (of_decide_eq_true z))), mG_0]
      unfold bO
      have e1 : mins (fun x => gM (mayX X m r c hh w 0 x) (1 + DM (fun _ => 1) (isMX X m) (mayX X m) r c x w + DM (fun _ => 1) (isMX X m) (mayX X m) (r + x) c (hh - x) w)) (hh - 1) 1 = mins (fun x => 1 + DV (fun _ => 1) (vX X m) r c x w + DV (fun _ => 1) (vX X m) (r + x) c (hh - x) w) (hh - 1) 1 := by
        rw [← mins_clip, ← mins_clip (fun x => 1 + DV (fun _ => 1) (vX X m) r c x w + DV (fun _ => 1) (vX X m) (r + x) c (hh - x) w)]
        refine mins_congr _ _ (fun x x1 x2 => ?_)
        by_cases cm : ∀ i, i < m → ¬ (mtX X r c x w i ∧ mtX X (r + x) c (hh - x) w i)
        · have my : mayX X m r c hh w 0 x = true := decide_eq_true cm
          have ga : gdB X m r c x w := fun i hi hm => by
            have g1 := g i hi (by omega)
            have c1 := cm i hi
            have := hX i hi
            omega
          have gb : gdB X m (r + x) c (hh - x) w := fun i hi hm => by
            have g1 := g i hi (by omega)
            have c1 := cm i hi
            have := hX i hi
            omega
          rw [my, read_eq X m hX n r c x w (by omega) (by omega) h2 ga, read_eq X m hX n (r + x) c (hh - x) w (by omega) (by omega) h2 gb]
          rfl
        · have my : mayX X m r c hh w 0 x = false := decide_eq_false cm
          have ⟨i, hi, hm⟩ : ∃ i, i < m ∧ (mtX X r c x w i ∧ mtX X (r + x) c (hh - x) w i) := Decidable.byContradiction (fun z => cm (fun i hi hm => z ⟨i, hi, hm⟩))
          rw [my, show gM false (1 + DM (fun _ => 1) (isMX X m) (mayX X m) r c x w + DM (fun _ => 1) (isMX X m) (mayX X m) (r + x) c (hh - x) w) = FAR from rfl, Nat.min_self, far_l (Nat.le_of_eq (vX_far (by omega) h2 hi ((nevX X r c x w i).mpr ⟨hm.1, by omega⟩)).symm)]
      have e2 : mins (fun x => gM (mayX X m r c hh w 1 x) (1 + DM (fun _ => 1) (isMX X m) (mayX X m) r c hh x + DM (fun _ => 1) (isMX X m) (mayX X m) r (c + x) hh (w - x))) (w - 1) 1 = mins (fun x => 1 + DV (fun _ => 1) (vX X m) r c hh x + DV (fun _ => 1) (vX X m) r (c + x) hh (w - x)) (w - 1) 1 := by
        rw [← mins_clip, ← mins_clip (fun x => 1 + DV (fun _ => 1) (vX X m) r c hh x + DV (fun _ => 1) (vX X m) r (c + x) hh (w - x))]
        refine mins_congr _ _ (fun x x1 x2 => ?_)
        by_cases cm : ∀ i, i < m → ¬ (mtX X r c hh x i ∧ mtX X r (c + x) hh (w - x) i)
        · have my : mayX X m r c hh w 1 x = true := decide_eq_true cm
          have ga : gdB X m r c hh x := fun i hi hm => by
            have g1 := g i hi (by omega)
            have c1 := cm i hi
            have := hX i hi
            omega
          have gb : gdB X m r (c + x) hh (w - x) := fun i hi hm => by
            have g1 := g i hi (by omega)
            have c1 := cm i hi
            have := hX i hi
            omega
          rw [my, read_eq X m hX n r c hh x (by omega) h1 (by omega) ga, read_eq X m hX n r (c + x) hh (w - x) (by omega) h1 (by omega) gb]
          rfl
        · have my : mayX X m r c hh w 1 x = false := decide_eq_false cm
          have ⟨i, hi, hm⟩ : ∃ i, i < m ∧ (mtX X r c hh x i ∧ mtX X r (c + x) hh (w - x) i) := Decidable.byContradiction (fun z => cm (fun i hi hm => z ⟨i, hi, hm⟩))
          rw [my, show gM false (1 + DM (fun _ => 1) (isMX X m) (mayX X m) r c hh x + DM (fun _ => 1) (isMX X m) (mayX X m) r (c + x) hh (w - x)) = FAR from rfl, Nat.min_self, far_l (Nat.le_of_eq (vX_far h1 (by omega) hi ((nevX X r c hh x i).mpr ⟨hm.1, by omega⟩)).symm)]
      rw [e1, e2]
