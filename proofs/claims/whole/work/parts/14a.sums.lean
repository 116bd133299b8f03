/-! sums over blocks of the form -/
theorem nI_mul (a b : Nat) : nI a * nI b = nI (a * b) := (Int32.ofNat_mul a b).symm
theorem nI_sub {a b : Nat} (h : b ≤ a) : nI a - nI b = nI (a - b) := by
  have e : nI a = nI (a - b) + nI b := by rw [nI_add]; congr 1; omega
  rw [e]
  generalize nI (a - b) = x
  generalize nI b = y
  grind
def sm (g : Nat → Nat) : Nat → Nat → Nat
  | 0, _ => 0
  | d + 1, j => g j + sm g d (j + 1)
theorem sm_add (g : Nat → Nat) : ∀ d e j, sm g (d + e) j = sm g d j + sm g e (j + d)
  | 0, e, j => by simp [sm]
  | d + 1, e, j => by
    rw [show d + 1 + e = (d + e) + 1 by omega]
    simp only [sm]
    rw [sm_add g d e (j + 1), show j + 1 + d = j + (d + 1) by omega]
    omega
theorem sm_congr {f g : Nat → Nat} : ∀ d j, (∀ i, j ≤ i → i < j + d → f i = g i) → sm f d j = sm g d j
  | 0, _, _ => rfl
  | d + 1, j, h => by
    simp only [sm]
    rw [h j (Nat.le_refl j) (by omega), sm_congr d (j + 1) (fun i h1 h2 => h i (by omega) (by omega))]
theorem sm_plus (f g : Nat → Nat) : ∀ d j, sm (fun i => f i + g i) d j = sm f d j + sm g d j
  | 0, _ => rfl
  | d + 1, j => by
    simp only [sm]
    rw [sm_plus f g d (j + 1)]
    omega
theorem sm_le {f : Nat → Nat} {b : Nat} : ∀ d j, (∀ i, f i ≤ b) → sm f d j ≤ d * b
  | 0, _, _ => by simp [sm]
  | d + 1, j, h => by
    simp only [sm]
    have h1 := sm_le d (j + 1) h
    have h2 := h j
    rw [Nat.succ_mul]
    omega
theorem it_sm (g : Nat → Nat) : ∀ d j (a : Int32), it (fun i a => a + nI (g i)) d j a = a + nI (sm g d j)
  | 0, j, a => by
    show a = a + nI 0
    rw [nI_0]
    simp
  | d + 1, j, a => by
    simp only [it, sm]
    rw [it_sm g d (j + 1), ← nI_add]
    grind
def blk (g : Nat → Nat) (r c hh w : Nat) : Nat := sm (fun y => sm (fun x => g (6 * y + x)) w c) hh r
theorem blk_down (g : Nat → Nat) (r c a b w : Nat) : blk g r c (a + b) w = blk g r c a w + blk g (r + a) c b w := sm_add _ a b r
theorem blk_aside (g : Nat → Nat) (r c hh a b : Nat) : blk g r c hh (a + b) = blk g r c hh a + blk g r (c + a) hh b := by
  unfold blk
  rw [← sm_plus]
  exact sm_congr hh r (fun i _ _ => sm_add _ a b c)
theorem blk_le {g : Nat → Nat} {b : Nat} (h : ∀ i, g i ≤ b) (r c hh w : Nat) : blk g r c hh w ≤ hh * (w * b) := sm_le hh r (fun y => sm_le w c (fun x => h _))
theorem blk_le36 {g : Nat → Nat} {b : Nat} (h : ∀ i, g i ≤ b) {r c hh w : Nat} (h1 : r + hh ≤ 6) (h2 : c + w ≤ 6) : blk g r c hh w ≤ 36 * b := by
  have e := blk_le h r c hh w
  have e1 : hh * (w * b) ≤ 6 * (6 * b) := Nat.mul_le_mul (by omega) (Nat.mul_le_mul (by omega) (Nat.le_refl b))
  omega
theorem blk_congr {f g : Nat → Nat} {r c hh w R C : Nat} (h : ∀ y x, y < R → x < C → f (6 * y + x) = g (6 * y + x)) (h1 : r + hh ≤ R) (h2 : c + w ≤ C) : blk f r c hh w = blk g r c hh w :=
  sm_congr hh r (fun y _ hy => sm_congr w c (fun x _ hx => h y x (by omega) (by omega)))
def wtN (k : Int32) : Nat := if k = 0 then 10 else if k = 1 then 8 else 0
def rdN (v k : Int32) : Nat := if k = v then 1 else 0
theorem wtN_le (k : Int32) : wtN k ≤ 10 := by unfold wtN; split <;> (try split) <;> omega
theorem rdN_le (v k : Int32) : rdN v k ≤ 1 := by unfold rdN; split <;> omega
/-- weight and places of a kind of a block -/
def wtB (K : Nat → Int32) (r c hh w : Nat) : Nat := blk (fun i => wtN (K i)) r c hh w
def rdB (K : Nat → Int32) (v : Int32) (r c hh w : Nat) : Nat := blk (fun i => rdN v (K i)) r c hh w
theorem wtB_le (K : Nat → Int32) {r c hh w : Nat} (h1 : r + hh ≤ 6) (h2 : c + w ≤ 6) : wtB K r c hh w ≤ 360 := blk_le36 (fun i => wtN_le _) h1 h2
theorem rdB_le (K : Nat → Int32) (v : Int32) {r c hh w : Nat} (h1 : r + hh ≤ 6) (h2 : c + w ≤ 6) : rdB K v r c hh w ≤ 36 := blk_le36 (fun i => rdN_le _ _) h1 h2
theorem ix6 (y x : Nat) : (6 : Int32) * nI y + nI x = nI (6 * y + x) := by
  rw [show (6 : Int32) = nI 6 from rfl, nI_mul, nI_add]
theorem ix6' (y x : Nat) : nI y * (6 : Int32) + nI x = nI (6 * y + x) := by
  rw [show (6 : Int32) = nI 6 from rfl, nI_mul, nI_add, Nat.mul_comm]
theorem m_weightOf (h : Hp) {r c hh w : Nat} (h1 : r + hh ≤ 6) (h2 : c + w ≤ 6) : f_X12_weightOf h (nI r) (nI c) (nI hh) (nI w) = some (nI (wtB (h 113) r c hh w)) := by
  have inner : ∀ y, y < 6 → ∀ a, L_X12_weightOf_17 h (nI c) (nI w) (nI y) FU a (nI c) = some (a + nI (sm (fun x => wtN (h 113 (6 * y + x))) w c)) := fun y hy a => by
    have key := lpU (fun n j a => L_X12_weightOf_17 h (nI c) (nI w) (nI y) n a (nI j)) (fun j a => a + nI (wtN (h 113 (6 * y + j)))) (c + w) id (fun _ _ => True)
      (fun n a _ => by simp only [L_X12_weightOf_17, nI_add]; rw [if_pos (nI_le (Nat.le_refl _) (by omega))]; rfl)
      (fun n j a hj _ => ⟨by
        simp only [L_X12_weightOf_17, vB_def, nI_add, ix6]
        rw [if_neg (nI_ge hj (by omega)), if_pos (inB_nI (by omega) (by omega)), ix_nI (by omega), nI_1]
        unfold wtN
        by_cases k0 : h 113 (6 * y + j) = 0
        · simp only [if_pos k0, Option.bind_some]; rfl
        · by_cases k1 : h 113 (6 * y + j) = 1
          · simp only [if_neg k0, if_pos k1, Option.bind_some]; rfl
          · simp only [if_neg k0, if_neg k1, Option.bind_some]; rfl, trivial⟩)
      w FU c a rfl (FU_gt (by omega)) trivial
    rw [← it_sm (fun x => wtN (h 113 (6 * y + x)))]
    exact key.1
  have key := lpU (fun n j a => L_X12_weightOf_6 h (nI r) (nI c) (nI hh) (nI w) n a (nI j)) (fun y a => a + nI (sm (fun x => wtN (h 113 (6 * y + x))) w c)) (r + hh) id (fun _ _ => True)
      (fun n a _ => by simp only [L_X12_weightOf_6, nI_add]; rw [if_pos (nI_le (Nat.le_refl _) (by omega))]; rfl)
      (fun n j a hj _ => ⟨by
        simp only [L_X12_weightOf_6, vB_def, nI_add]
        rw [if_neg (nI_ge hj (by omega)), inner j (by omega), Option.bind_some, nI_1], trivial⟩)
      hh FU r 0 rfl (FU_gt (by omega)) trivial
  rw [it_sm] at key
  simp only [f_X12_weightOf, vB_def]
  rw [show L_X12_weightOf_6 h (nI r) (nI c) (nI hh) (nI w) FU 0 (nI r) = _ from key.1, Option.bind_some]
  show some ((0 : Int32) + _) = _
  rw [Int32.zero_add]
  rfl
theorem m_countOf (h : Hp) (v : Int32) {r c hh w : Nat} (h1 : r + hh ≤ 6) (h2 : c + w ≤ 6) : f_X12_countOf h (nI r) (nI c) (nI hh) (nI w) v = some (nI (rdB (h 113) v r c hh w)) := by
  have inner : ∀ y, y < 6 → ∀ a, L_X12_countOf_17 h (nI c) (nI w) v (nI y) FU a (nI c) = some (a + nI (sm (fun x => rdN v (h 113 (6 * y + x))) w c)) := fun y hy a => by
    have key := lpU (fun n j a => L_X12_countOf_17 h (nI c) (nI w) v (nI y) n a (nI j)) (fun j a => a + nI (rdN v (h 113 (6 * y + j)))) (c + w) id (fun _ _ => True)
      (fun n a _ => by simp only [L_X12_countOf_17, nI_add]; rw [if_pos (nI_le (Nat.le_refl _) (by omega))]; rfl)
      (fun n j a hj _ => ⟨by
        simp only [L_X12_countOf_17, vB_def, nI_add, ix6]
        rw [if_neg (nI_ge hj (by omega)), if_pos (inB_nI (by omega) (by omega)), ix_nI (by omega), nI_1]
        unfold rdN
        by_cases k0 : h 113 (6 * y + j) = v
        · simp only [if_pos k0, Option.bind_some]; rfl
        · simp only [if_neg k0, Option.bind_some]; rfl, trivial⟩)
      w FU c a rfl (FU_gt (by omega)) trivial
    rw [← it_sm (fun x => rdN v (h 113 (6 * y + x)))]
    exact key.1
  have key := lpU (fun n j a => L_X12_countOf_6 h (nI r) (nI c) (nI hh) (nI w) v n a (nI j)) (fun y a => a + nI (sm (fun x => rdN v (h 113 (6 * y + x))) w c)) (r + hh) id (fun _ _ => True)
      (fun n a _ => by simp only [L_X12_countOf_6, nI_add]; rw [if_pos (nI_le (Nat.le_refl _) (by omega))]; rfl)
      (fun n j a hj _ => ⟨by
        simp only [L_X12_countOf_6, vB_def, nI_add]
        rw [if_neg (nI_ge hj (by omega)), inner j (by omega), Option.bind_some, nI_1], trivial⟩)
      hh FU r 0 rfl (FU_gt (by omega)) trivial
  rw [it_sm] at key
  simp only [f_X12_countOf, vB_def]
  rw [show L_X12_countOf_6 h (nI r) (nI c) (nI hh) (nI w) v FU 0 (nI r) = _ from key.1, Option.bind_some]
  show some ((0 : Int32) + _) = _
  rw [Int32.zero_add]
  rfl
/-- the sums from the corner -/
def sums (s : Nat → Int32) (g : Nat → Nat) (R C : Nat) : Prop := ∀ r c, r ≤ R → c ≤ C → s (7 * r + c) = nI (blk g 0 0 r c)
theorem k_sumIn (h : Hp) (a : Nat) {g : Nat → Nat} {R C r c hh w : Nat} (hs : sums (h a) g R C) (hR : R ≤ 6) (hC : C ≤ 6) (h1 : r + hh ≤ R) (h2 : c + w ≤ C) : f_X4_sumIn h a (nI r) (nI c) (nI hh) (nI w) = some (nI (blk g r c hh w)) := by
  have e1 : nI r * (7 : Int32) + nI c = nI (7 * r + c) := by rw [show (7 : Int32) = nI 7 from rfl, nI_mul, nI_add, Nat.mul_comm]
  have e2 : nI (7 * r + c) + nI hh * (7 : Int32) = nI (7 * (r + hh) + c) := by rw [show (7 : Int32) = nI 7 from rfl, nI_mul, nI_add]; congr 1; omega
  simp only [f_X4_sumIn, vB_def, e1, e2, nI_add]
  rw [if_neg (nI_pos (by omega)), if_neg (nI_nlt (by omega) (by omega)), if_neg (nI_pos (by omega)), if_pos (t_gt 49 rfl (by omega) (by omega)), if_pos (inB_nI (by omega) (by omega)), if_pos (inB_nI (by omega) (by omega)), if_pos (inB_nI (by omega) (by omega)), if_pos (inB_nI (by omega) (by omega)), ix_nI (by omega), ix_nI (by omega), ix_nI (by omega), ix_nI (by omega)]
  rw [show 7 * (r + hh) + c + w = 7 * (r + hh) + (c + w) by omega, show 7 * r + c + w = 7 * r + (c + w) by omega, hs _ _ h1 h2, hs _ _ h1 (by omega), hs _ _ (by omega) h2, hs r c (by omega) (by omega)]
  rw [blk_down g 0 0 r hh (c + w), blk_down g 0 0 r hh c, blk_aside g (0 + r) 0 hh c w, Nat.zero_add, Nat.zero_add, ← nI_add, ← nI_add, ← nI_add]
  congr 1
  grind
theorem k_weightIn (h : Hp) {K : Nat → Int32} {R C r c hh w : Nat} (hs : sums (h 5) (fun i => wtN (K i)) R C) (hR : R ≤ 6) (hC : C ≤ 6) (h1 : r + hh ≤ R) (h2 : c + w ≤ C) : f_X4_weightIn h (nI r) (nI c) (nI hh) (nI w) = some (nI (wtB K r c hh w)) := by
  simp only [f_X4_weightIn, k_sumIn h 5 hs hR hC h1 h2, Option.bind_some]
  rfl
theorem k_rindIn (h : Hp) {K : Nat → Int32} {R C r c hh w : Nat} (hs : sums (h 6) (fun i => rdN 1 (K i)) R C) (hR : R ≤ 6) (hC : C ≤ 6) (h1 : r + hh ≤ R) (h2 : c + w ≤ C) : f_X4_rindIn h (nI r) (nI c) (nI hh) (nI w) = some (nI (rdB K 1 r c hh w)) := by
  simp only [f_X4_rindIn, k_sumIn h 6 hs hR hC h1 h2, Option.bind_some]
  rfl
