/-! pieces: a row of 13 numbers on both sides -/
abbrev Pr : Type := Nat → Int32
def crow (h : Hp) (a : Nat) : Pr := fun j => if j < 13 then h a j else 0
def mrow (h : Hp) (i : Nat) : Pr := fun j => match j with
  | 0 => h 115 i
  | 1 => h 116 i
  | 2 => h 117 i
  | 3 => h 118 i
  | 4 => nI (wtB (h 113) (ix (h 115 i)) (ix (h 116 i)) (ix (h 117 i)) (ix (h 118 i)))
  | 5 => nI (rdB (h 113) 1 (ix (h 115 i)) (ix (h 116 i)) (ix (h 117 i)) (ix (h 118 i)))
  | 6 => h 119 i
  | 7 => h 120 i
  | 8 => h 121 i
  | 9 => h 122 (4 * i)
  | 10 => h 122 (4 * i + 1)
  | 11 => h 122 (4 * i + 2)
  | 12 => h 122 (4 * i + 3)
  | _ => 0
def okP (K : Nat → Int32) (R C : Nat) (p : Pr) (r c hh w : Nat) : Prop :=
  p 0 = nI r ∧ p 1 = nI c ∧ p 2 = nI hh ∧ p 3 = nI w ∧ 1 ≤ hh ∧ 1 ≤ w ∧ r + hh ≤ R ∧ c + w ≤ C ∧ p 4 = nI (wtB K r c hh w) ∧ p 5 = nI (rdB K 1 r c hh w) ∧ (p 7 = 0 ∨ p 7 = 1 ∨ p 7 = 2)
def pDry (p : Pr) : Int32 := p 9 + p 10 + p 11 + p 12
def mx0 (v : Int32) : Int32 := if 0 < v then v else 0
def pWt (p : Pr) : Int32 := mx0 (p 4 - pDry p / 40 - p 8)
def edA (p : Pr) : Int32 := if p 0 ≤ 0 then 0 else p 3
def edB (R : Int32) (p : Pr) : Int32 := if R ≤ p 0 + p 2 then 0 else p 3
def edL (p : Pr) : Int32 := if p 1 ≤ 0 then 0 else p 2
def edR (C : Int32) (p : Pr) : Int32 := if C ≤ p 1 + p 3 then 0 else p 2
def pEd (R C : Int32) (p : Pr) : Int32 := edA p + edB R p + edL p + edR C p
def z1 (x : Int32) : Int32 := if x = 0 then 1 else 0
def pEnd (R C : Int32) (p : Pr) : Int32 := if z1 (edA p) + z1 (edB R p) + z1 (edL p) + z1 (edR C p) < 3 then 0 else 1
theorem k_weight (h : Hp) (a : Nat) : f_X7_weight h a = some (pWt (crow h a)) := rfl
theorem k_dried (h : Hp) (a : Nat) : f_X7_dried h a = some (pDry (crow h a)) := rfl
theorem k_eA (h : Hp) (a : Nat) : f_X7_edgesAbove h a = some (edA (crow h a)) := by
  unfold f_X7_edgesAbove; rw [ite_some]; rfl
theorem k_eB (h : Hp) (a : Nat) : f_X7_edgesBelow h a = some (edB (h 3 3) (crow h a)) := by
  unfold f_X7_edgesBelow; rw [ite_some]; rfl
theorem k_eL (h : Hp) (a : Nat) : f_X7_edgesLeft h a = some (edL (crow h a)) := by
  unfold f_X7_edgesLeft; rw [ite_some]; rfl
theorem k_eR (h : Hp) (a : Nat) : f_X7_edgesRight h a = some (edR (h 3 4) (crow h a)) := by
  unfold f_X7_edgesRight; rw [ite_some]; rfl
theorem k_bare (h : Hp) (a : Nat) : f_X7_bareEdges h a = some (pEd (h 3 3) (h 3 4) (crow h a)) := by
  simp only [f_X7_bareEdges, k_eA, k_eB, k_eL, k_eR, Option.bind_some]; rfl
theorem k_isEnd (h : Hp) (a : Nat) : f_X7_isEnd h a = some (pEnd (h 3 3) (h 3 4) (crow h a)) := by
  simp only [f_X7_isEnd, k_eA, k_eB, k_eL, k_eR, Option.bind_some, ite_some, vB_def]; rfl
-- the reference
theorem ix4 (i s : Nat) : (4 : Int32) * nI i + nI s = nI (4 * i + s) := by
  rw [show (4 : Int32) = nI 4 from rfl, nI_mul, nI_add]
theorem m_allDried (h : Hp) {i : Nat} (hi : i < 24) : f_X12_allDried h (nI i) = some (pDry (mrow h i)) := by
  have key := lpU (fun n j a => L_X12_allDried_4 h (nI i) n a (nI j)) (fun j a => a + h 122 (4 * i + j)) 4 id (fun _ _ => True)
    (fun n a _ => by simp only [L_X12_allDried_4]; rw [if_pos (by decide)]; rfl)
    (fun n j a hj _ => ⟨by
      simp only [L_X12_allDried_4, vB_def, ix4]
      rw [if_neg (f_le 4 rfl (by omega) (by omega)), if_pos (inB_nI (by omega) (by omega)), ix_nI (by omega), nI_1], trivial⟩)
    4 FU 0 0 rfl (FU_gt (by omega)) trivial
  simp only [f_X12_allDried, vB_def]
  rw [show L_X12_allDried_4 h (nI i) FU 0 0 = _ from key.1, Option.bind_some]
  simp only [it, id]
  show some ((((0 : Int32) + h 122 (4 * i)) + h 122 (4 * i + 1)) + h 122 (4 * i + 2) + h 122 (4 * i + 3)) = _
  rw [Int32.zero_add]
  rfl
theorem m_face0 (h : Hp) {i : Nat} (hi : i < 24) : f_X12_face h (nI i) 0 = some (edA (mrow h i)) := by
  have hb : inB (nI i) 24 := inB_nI hi (by omega)
  simp only [f_X12_face, vB_def, if_pos hb, ix_nI (show i < 2147483648 by omega), if_true, ite_some, Option.bind_some]
  unfold edA
  show _ = some (if h 115 i ≤ 0 then 0 else h 118 i)
  by_cases q : h 115 i ≤ 0
  · simp [q]
  · simp [q]
theorem m_face1 (h : Hp) {i : Nat} (hi : i < 24) : f_X12_face h (nI i) 1 = some (edB (h 111 4) (mrow h i)) := by
  have hb : inB (nI i) 24 := inB_nI hi (by omega)
  simp only [f_X12_face, vB_def, if_pos hb, ix_nI (show i < 2147483648 by omega), if_true, ite_some, Option.bind_some, show ¬ (1 : Int32) = 0 by decide, if_false]
  unfold edB
  show _ = some (if h 111 4 ≤ h 115 i + h 117 i then 0 else h 118 i)
  by_cases q : h 111 4 ≤ h 115 i + h 117 i
  · simp [q]
  · simp [q]
theorem m_face2 (h : Hp) {i : Nat} (hi : i < 24) : f_X12_face h (nI i) 2 = some (edL (mrow h i)) := by
  have hb : inB (nI i) 24 := inB_nI hi (by omega)
  simp only [f_X12_face, vB_def, if_pos hb, ix_nI (show i < 2147483648 by omega), if_true, ite_some, Option.bind_some, show ¬ (2 : Int32) = 0 by decide, show ¬ (2 : Int32) = 1 by decide, if_false]
  unfold edL
  show _ = some (if h 116 i ≤ 0 then 0 else h 117 i)
  by_cases q : h 116 i ≤ 0
  · simp [q]
  · simp [q]
theorem m_face3 (h : Hp) {i : Nat} (hi : i < 24) : f_X12_face h (nI i) 3 = some (edR (h 111 5) (mrow h i)) := by
  have hb : inB (nI i) 24 := inB_nI hi (by omega)
  simp only [f_X12_face, vB_def, if_pos hb, ix_nI (show i < 2147483648 by omega), if_true, ite_some, Option.bind_some, show ¬ (3 : Int32) = 0 by decide, show ¬ (3 : Int32) = 1 by decide, show ¬ (3 : Int32) = 2 by decide, if_false]
  unfold edR
  show _ = some (if h 111 5 ≤ h 116 i + h 118 i then 0 else h 117 i)
  by_cases q : h 111 5 ≤ h 116 i + h 118 i
  · simp [q]
  · simp [q]
/-- the face of side s -/
def fcS (R C : Int32) (p : Pr) (s : Nat) : Int32 := if s = 0 then edA p else if s = 1 then edB R p else if s = 2 then edL p else edR C p
theorem m_face (h : Hp) {i s : Nat} (hi : i < 24) (hs : s < 4) : f_X12_face h (nI i) (nI s) = some (fcS (h 111 4) (h 111 5) (mrow h i) s) := by
  rcases (by omega : s = 0 ∨ s = 1 ∨ s = 2 ∨ s = 3) with rfl | rfl | rfl | rfl
  · exact m_face0 h hi
  · exact m_face1 h hi
  · exact m_face2 h hi
  · exact m_face3 h hi
theorem m_edges (h : Hp) {i : Nat} (hi : i < 24) : f_X12_edges h (nI i) = some (pEd (h 111 4) (h 111 5) (mrow h i)) := by
  have key := lpU (fun n j a => L_X12_edges_4 h (nI i) n a (nI j)) (fun j a => a + fcS (h 111 4) (h 111 5) (mrow h i) j) 4 id (fun _ _ => True)
    (fun n a _ => by simp only [L_X12_edges_4]; rw [if_pos (by decide)]; rfl)
    (fun n j a hj _ => ⟨by
      simp only [L_X12_edges_4, vB_def]
      rw [if_neg (f_le 4 rfl (by omega) (by omega)), m_face h hi hj, Option.bind_some, nI_1], trivial⟩)
    4 FU 0 0 rfl (FU_gt (by omega)) trivial
  simp only [f_X12_edges, vB_def]
  rw [show L_X12_edges_4 h (nI i) FU 0 0 = _ from key.1, Option.bind_some]
  show some ((((0 : Int32) + _) + _) + _ + _) = _
  rw [Int32.zero_add]
  rfl
theorem m_isEnd (h : Hp) {i : Nat} (hi : i < 24) : f_X12_isEnd h (nI i) = some (pEnd (h 111 4) (h 111 5) (mrow h i)) := by
  have key := lpU (fun n j a => L_X12_isEnd_4 h (nI i) n a (nI j)) (fun j a => a + z1 (fcS (h 111 4) (h 111 5) (mrow h i) j)) 4 id (fun _ _ => True)
    (fun n a _ => by simp only [L_X12_isEnd_4]; rw [if_pos (by decide)]; rfl)
    (fun n j a hj _ => ⟨by
      simp only [L_X12_isEnd_4, vB_def]
      rw [if_neg (f_le 4 rfl (by omega) (by omega)), m_face h hi hj, Option.bind_some, nI_1, ite_some, Option.bind_some]; rfl, trivial⟩)
    4 FU 0 0 rfl (FU_gt (by omega)) trivial
  simp only [f_X12_isEnd, vB_def]
  rw [show L_X12_isEnd_4 h (nI i) FU 0 0 = _ from key.1, Option.bind_some]
  unfold pEnd
  show (if (((0 : Int32) + z1 (edA (mrow h i))) + z1 (edB (h 111 4) (mrow h i))) + z1 (edL (mrow h i)) + z1 (edR (h 111 5) (mrow h i)) ≤ 2 then some 0 else some 1) = _
  rw [Int32.zero_add]
  generalize z1 (edA (mrow h i)) + z1 (edB (h 111 4) (mrow h i)) + z1 (edL (mrow h i)) + z1 (edR (h 111 5) (mrow h i)) = x
  rw [ite_some]
  congr 1
  have e : x ≤ 2 ↔ x < 3 := by
    rw [Int32.le_iff_toInt_le, Int32.lt_iff_toInt_lt, show (2 : Int32).toInt = 2 from rfl, show (3 : Int32).toInt = 3 from rfl]; omega
  by_cases q : x < 3
  · rw [if_pos q, if_pos (e.mpr q)]
  · rw [if_neg q, if_neg (fun t => q (e.mp t))]
theorem m_more (v : Int32) : f_X12_more v = some (mx0 v) := by
  unfold f_X12_more mx0
  rw [ite_some]
  congr 1
  by_cases q : 0 < v
  · rw [if_pos q, if_pos (by rw [Int32.le_iff_toInt_le]; rw [Int32.lt_iff_toInt_lt] at q; omega)]
  · rw [if_neg q]
    by_cases q2 : 0 ≤ v
    · rw [if_pos q2]
      apply Int32.toInt_inj.mp
      rw [Int32.lt_iff_toInt_lt] at q
      rw [Int32.le_iff_toInt_le] at q2
      omega
    · rw [if_neg q2]
theorem m_weighsOf (h : Hp) {i R C r c hh w : Nat} (hi : i < 24) (hR : R ≤ 6) (hC : C ≤ 6) (ok : okP (h 113) R C (mrow h i) r c hh w) : f_X12_weighsOf h (nI i) = some (pWt (mrow h i)) := by
  have hb : inB (nI i) 24 := inB_nI hi (by omega)
  obtain ⟨e0, e1, e2, e3, l2, l3, l0, l1, e4, e5, e7⟩ := ok
  have w1 := m_weightOf h (r := r) (c := c) (hh := hh) (w := w) (by omega) (by omega)
  rw [← e0, ← e1, ← e2, ← e3] at w1
  rw [← e4] at w1
  simp only [f_X12_weighsOf, if_pos hb, ix_nI (show i < 2147483648 by omega), m_allDried h hi, Option.bind_some, m_more]
  rw [show f_X12_weightOf h (h 115 i) (h 116 i) (h 117 i) (h 118 i) = some (mrow h i 4) from w1, Option.bind_some]
  rfl
theorem m_rind (h : Hp) {i R C r c hh w : Nat} (hR : R ≤ 6) (hC : C ≤ 6) (ok : okP (h 113) R C (mrow h i) r c hh w) : f_X12_countOf h (h 115 i) (h 116 i) (h 117 i) (h 118 i) 1 = some (mrow h i 5) := by
  obtain ⟨e0, e1, e2, e3, l2, l3, l0, l1, e4, e5, e7⟩ := ok
  have w1 := m_countOf h 1 (r := r) (c := c) (hh := hh) (w := w) (by omega) (by omega)
  rw [← e0, ← e1, ← e2, ← e3] at w1
  rw [← e5] at w1
  exact w1
