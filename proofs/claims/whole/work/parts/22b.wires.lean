/-! the order: the reference's wires -/
def bk (r c hh w : Nat) : Nat := 216 * r + 36 * c + 6 * (hh - 1) + (w - 1)
theorem bk_lt {R C r c hh w : Nat} (hR : R ≤ 6) (hC : C ≤ 6) (b : blkIn R C r c hh w) : bk r c hh w < 1296 := by unfold bk; omega
theorem bk_inj {R C r c hh w r' c' hh' w' : Nat} (hR : R ≤ 6) (hC : C ≤ 6) (b : blkIn R C r c hh w) (b' : blkIn R C r' c' hh' w') (e : bk r c hh w = bk r' c' hh' w') : hh = hh' ∧ w = w' ∧ r = r' ∧ c = c' := by
  unfold bk at e
  have h1 : w = w' := by omega
  subst h1
  have h2 : hh = hh' := by omega
  subst h2
  have h3 : c = c' := by omega
  subst h3
  exact ⟨rfl, rfl, by omega, rfl⟩
theorem m_block {r c hh w : Nat} (h1 : 1 ≤ hh) (h2 : 1 ≤ w) : f_X12_block (nI r) (nI c) (nI hh) (nI w) = some (nI (bk r c hh w)) := by
  unfold f_X12_block bk
  rw [show (216 : Int32) = nI 216 from rfl, show (36 : Int32) = nI 36 from rfl, show (6 : Int32) = nI 6 from rfl, show (1 : Int32) = nI 1 from rfl, nI_sub h1, nI_mul, nI_mul, nI_mul, nI_add, nI_add, nI_add, nI_sub (by omega)]
  congr 2
  omega
theorem nestB {R C : Nat} (hR : R ≤ 6) (hC : C ≤ 6) (V : Hp → Nat → Nat → Nat → Nat → Prop) (Fr : Hp → Prop)
    (G1 : Nat → Nat → Hp → Option Hp) (G2 : Nat → Nat → Nat → Hp → Option Hp) (G3 : Nat → Nat → Nat → Nat → Hp → Option Hp) (G4 : Nat → Nat → Nat → Nat → Nat → Hp → Option Hp)
    (e1 : ∀ N T, Fr T → G1 (N + 1) R T = some T)
    (s1 : ∀ N r T, r < R → Fr T → G1 (N + 1) r T = (G2 r FU 0 T).bind (fun t => G1 N (r + 1) t))
    (e2 : ∀ r N T, Fr T → G2 r (N + 1) C T = some T)
    (s2 : ∀ r N c T, c < C → Fr T → G2 r (N + 1) c T = (G3 r c FU 1 T).bind (fun t => G2 r N (c + 1) t))
    (e3 : ∀ r c N T, r < R → Fr T → G3 r c (N + 1) (R - r + 1) T = some T)
    (s3 : ∀ r c N hh T, r + hh ≤ R → Fr T → G3 r c (N + 1) hh T = (G4 r c hh FU 1 T).bind (fun t => G3 r c N (hh + 1) t))
    (e4 : ∀ r c hh N T, c < C → Fr T → G4 r c hh (N + 1) (C - c + 1) T = some T)
    (s4 : ∀ r c hh N w T, blkIn R C r c hh w → Fr T → ∃ T', G4 r c hh (N + 1) w T = G4 r c hh N (w + 1) T' ∧ Fr T' ∧ V T' hh w r c ∧ ∀ hh' w' r' c', blkIn R C r' c' hh' w' → ¬ (hh' = hh ∧ w' = w ∧ r' = r ∧ c' = c) → V T hh' w' r' c' → V T' hh' w' r' c') :
    ∀ h, Fr h → ∃ h', G1 FU 0 h = some h' ∧ (∀ hh w r c, blkIn R C r c hh w → V h' hh w r c) ∧ Fr h' := by
  intro h hF
  have l4 : ∀ r c hh T, r + hh ≤ R → 1 ≤ hh → c < C → Qd R C (fun T w hh c r => V T hh w r c) Fr 0 0 0 0 T ∧ (∀ hh' w' r' c', blkIn R C r' c' hh' w' → dn r c hh 1 r' c' hh' w' → V T hh' w' r' c') → ∃ T', G4 r c hh FU 1 T = some T' ∧ Fr T' ∧ ∀ hh' w' r' c', blkIn R C r' c' hh' w' → dn r c (hh + 1) 1 r' c' hh' w' → V T' hh' w' r' c' := fun r c hh T a1 a2 a3 q => by
    obtain ⟨T', t1, t2, t3⟩ := lpE (fun N j T => G4 r c hh N j T) (C - c + 1) id (fun j T => Fr T ∧ (∀ hh' w' r' c', blkIn R C r' c' hh' w' → dn r c hh j r' c' hh' w' → V T hh' w' r' c') ∧ 1 ≤ j) (fun N T q => e4 r c hh N T a3 q.1)
      (fun N j T hj q => by
        obtain ⟨T', x1, x2, x3, x4⟩ := s4 r c hh N j T ⟨a2, q.2.2, a1, by omega⟩ q.1
        refine ⟨T', x1, x2, fun hh' w' r' c' b d => ?_, by omega⟩
        by_cases e : hh' = hh ∧ w' = j ∧ r' = r ∧ c' = c
        · obtain ⟨rfl, rfl, rfl, rfl⟩ := e
          exact x3
        · exact x4 hh' w' r' c' b e (q.2.1 hh' w' r' c' b (by omega)))
      (C - c) FU 1 T (by omega) (FU_gt (by omega)) ⟨q.1.2, q.2, Nat.le_refl 1⟩
    exact ⟨T', t1, t2, fun hh' w' r' c' b d => t3.1 hh' w' r' c' b (by omega)⟩
  have l3 : ∀ r c T, r < R → c < C → Fr T → (∀ hh' w' r' c', blkIn R C r' c' hh' w' → dn r c 1 1 r' c' hh' w' → V T hh' w' r' c') → ∃ T', G3 r c FU 1 T = some T' ∧ Fr T' ∧ ∀ hh' w' r' c', blkIn R C r' c' hh' w' → dn r (c + 1) 1 1 r' c' hh' w' → V T' hh' w' r' c' := fun r c T a1 a2 f q => by
    obtain ⟨T', t1, t2, t3⟩ := lpE (fun N j T => G3 r c N j T) (R - r + 1) id (fun j T => Fr T ∧ (∀ hh' w' r' c', blkIn R C r' c' hh' w' → dn r c j 1 r' c' hh' w' → V T hh' w' r' c') ∧ 1 ≤ j) (fun N T q => e3 r c N T a1 q.1)
      (fun N j T hj q => by
        obtain ⟨T', x1, x2, x3⟩ := l4 r c j T (by omega) q.2.2 a2 ⟨⟨fun _ _ _ _ _ d => absurd d (by omega), q.1⟩, q.2.1⟩
        refine ⟨T', ?_, x2, x3, by omega⟩
        rw [s3 r c N j T (by omega) q.1, x1, Option.bind_some])
      (R - r) FU 1 T (by omega) (FU_gt (by omega)) ⟨f, q, Nat.le_refl 1⟩
    exact ⟨T', t1, t2, fun hh' w' r' c' b d => t3.1 hh' w' r' c' b (by omega)⟩
  have l2 : ∀ r T, r < R → Fr T → (∀ hh' w' r' c', blkIn R C r' c' hh' w' → dn r 0 1 1 r' c' hh' w' → V T hh' w' r' c') → ∃ T', G2 r FU 0 T = some T' ∧ Fr T' ∧ ∀ hh' w' r' c', blkIn R C r' c' hh' w' → dn (r + 1) 0 1 1 r' c' hh' w' → V T' hh' w' r' c' := fun r T a1 f q => by
    obtain ⟨T', t1, t2, t3⟩ := lpE (fun N j T => G2 r N j T) C id (fun j T => Fr T ∧ ∀ hh' w' r' c', blkIn R C r' c' hh' w' → dn r j 1 1 r' c' hh' w' → V T hh' w' r' c') (fun N T q => e2 r N T q.1)
      (fun N j T hj q => by
        obtain ⟨T', x1, x2, x3⟩ := l3 r j T a1 hj q.1 q.2
        refine ⟨T', ?_, x2, x3⟩
        rw [s2 r N j T hj q.1, x1, Option.bind_some])
      C FU 0 T (by omega) (FU_gt (by omega)) ⟨f, q⟩
    exact ⟨T', t1, t2, fun hh' w' r' c' b d => t3 hh' w' r' c' b (by omega)⟩
  obtain ⟨T', t1, t2, t3⟩ := lpE (fun N j T => G1 N j T) R id (fun j T => Fr T ∧ ∀ hh' w' r' c', blkIn R C r' c' hh' w' → dn j 0 1 1 r' c' hh' w' → V T hh' w' r' c') (fun N T q => e1 N T q.1)
    (fun N j T hj q => by
      obtain ⟨T', x1, x2, x3⟩ := l2 j T hj q.1 q.2
      refine ⟨T', ?_, x2, x3⟩
      rw [s1 N j T hj q.1, x1, Option.bind_some])
    R FU 0 h (by omega) (FU_gt (by omega)) ⟨hF, fun _ _ _ _ _ d => absurd d (by omega)⟩
  exact ⟨T', t1, fun hh w r c b => t3 hh w r c b (by omega), t2⟩
theorem m_layBlocks (h : Hp) {R C : Nat} (hR : R ≤ 6) (hC : C ≤ 6) (e4 : h 111 4 = nI R) (e5 : h 111 5 = nI C) : ∃ h', f_X12_layBlocks h = some h' ∧ (∀ hh w r c, blkIn R C r c hh w → h' 129 (bk r c hh w) = nI (wtB (h 113) r c hh w) ∧ h' 130 (bk r c hh w) = nI (rdB (h 113) 1 r c hh w)) ∧ ∀ k, k ≠ 129 → k ≠ 130 → h' k = h k := by
  obtain ⟨h', q1, q2, q3⟩ := nestB hR hC (fun T hh w r c => T 129 (bk r c hh w) = nI (wtB (h 113) r c hh w) ∧ T 130 (bk r c hh w) = nI (rdB (h 113) 1 r c hh w)) (fun T => ∀ k, k ≠ 129 → k ≠ 130 → T k = h k)
    (fun N r T => L_X12_layBlocks_2 N (nI r) T) (fun r N c T => L_X12_layBlocks_12 (nI r) N (nI c) T) (fun r c N hh T => L_X12_layBlocks_22 (nI r) (nI c) N (nI hh) T) (fun r c hh N w T => L_X12_layBlocks_35 (nI r) (nI c) (nI hh) N (nI w) T)
    (fun N T hT => by simp only [L_X12_layBlocks_2]; rw [hT 111 (by omega) (by omega), e4, if_pos (nI_le (Nat.le_refl _) (by omega))])
    (fun N r T h1 hT => by simp only [L_X12_layBlocks_2, vB_def]; rw [hT 111 (by omega) (by omega), e4, if_neg (nI_ge h1 (by omega)), nI_1]; rfl)
    (fun r N T hT => by simp only [L_X12_layBlocks_12]; rw [hT 111 (by omega) (by omega), e5, if_pos (nI_le (Nat.le_refl _) (by omega))])
    (fun r N c T h1 hT => by simp only [L_X12_layBlocks_12, vB_def]; rw [hT 111 (by omega) (by omega), e5, if_neg (nI_ge h1 (by omega)), nI_1]; rfl)
    (fun r c N T h1 hT => by simp only [L_X12_layBlocks_22]; rw [hT 111 (by omega) (by omega), e4, nI_add, if_pos (nI_lt (by omega) (by omega))])
    (fun r c N hh T h1 hT => by simp only [L_X12_layBlocks_22, vB_def]; rw [hT 111 (by omega) (by omega), e4, nI_add, if_neg (nI_nlt (by omega) (by omega)), nI_1]; rfl)
    (fun r c hh N T h1 hT => by simp only [L_X12_layBlocks_35]; rw [hT 111 (by omega) (by omega), e5, nI_add, if_pos (nI_lt (by omega) (by omega))])
    (fun r c hh N w T b hT => by
      have lt := bk_lt hR hC b
      have t5 : T 111 5 = nI C := by rw [hT 111 (by omega) (by omega)]; exact e5
      have tK : T 113 = h 113 := hT 113 (by omega) (by omega)
      have w1 := m_weightOf T (r := r) (c := c) (hh := hh) (w := w) (by omega) (by omega)
      have w2 := m_countOf (u2 T 129 (bk r c hh w) (nI (wtB (T 113) r c hh w))) 1 (r := r) (c := c) (hh := hh) (w := w) (by omega) (by omega)
      rw [u2_ne _ _ _ (by decide)] at w2
      simp only [L_X12_layBlocks_35, vB_def, t5]
      rw [nI_add, if_neg (nI_nlt (by omega) (by omega)), m_block (by omega) (by omega), Option.bind_some, w1, Option.bind_some, if_pos (inB_nI lt (by omega)), ix_nI (by omega), Option.bind_some, w2, Option.bind_some, if_pos (inB_nI lt (by omega)), ix_nI (by omega), nI_1, tK]
      refine ⟨_, rfl, ?_, ?_, ?_⟩
      · intro k h1 h2
        rw [u2_ne _ _ _ h2, u2_ne _ _ _ h1, hT k h1 h2]
      · exact ⟨by rw [u2_ne _ _ _ (by decide), u2_at, if_pos ⟨rfl, rfl⟩], by rw [u2_at, if_pos ⟨rfl, rfl⟩]⟩
      · intro hh' w' r' c' b' ne hV
        have nb : bk r' c' hh' w' ≠ bk r c hh w := fun z => ne (bk_inj hR hC b' b z)
        rw [u2_ne _ _ _ (show 129 ≠ 130 by decide), u2_at, if_neg (fun z => nb z.2), u2_at, if_neg (fun z => nb z.2), u2_ne _ _ _ (show 130 ≠ 129 by decide)]
        exact hV)
    h (fun k _ _ => rfl)
  refine ⟨h', ?_, q2, q3⟩
  simp only [f_X12_layBlocks, vB_def]
  rw [show L_X12_layBlocks_2 FU 0 h = some h' from q1, Option.bind_some]
theorem m_isAsk (h : Hp) {K : Nat → Int32} {at' k r c hh w : Nat} (ha : at' < 1296) (hk : k < 4) (e1 : h 129 at' = nI (wtB K r c hh w)) (e2 : h 130 at' = nI (rdB K 1 r c hh w)) : f_X12_isAsk h (nI at') (nI k) = some (if ftO K (h 126) (h 127) (h 128) k r c hh w = true then 1 else 0) := by
  unfold f_X12_isAsk
  simp only [if_pos (inB_nI ha (show 1296 ≤ 2147483648 by omega)), if_pos (inB_nI hk (show 4 ≤ 2147483648 by omega)), ix_nI (show at' < 2147483648 by omega), ix_nI (show k < 2147483648 by omega), e1, e2, in_i, Option.bind_some]
  unfold ftO
  generalize nI (wtB K r c hh w) = X
  generalize nI (rdB K 1 r c hh w) = Y
  by_cases c1 : h 126 k ≤ X ∧ X ≤ h 126 k + h 127 k
  · rw [if_pos c1, if_neg (by decide)]
    by_cases c3 : h 128 k < Y
    · rw [if_pos c3, if_neg (fun q => absurd (of_decide_eq_true q).2 (i_nle.mpr c3))]
    · rw [if_neg c3, if_pos (decide_eq_true ⟨c1, i_nlt.mp c3⟩)]
  · rw [if_neg c1, if_pos rfl, if_neg (fun q => c1 (of_decide_eq_true q).1)]
/-- one part of a set against the rest of it -/
def bwF (A B : Nat → Nat) (s pr : Nat) (code : Int32) (p : Nat) (z : Nat × Int32) : Nat × Int32 := if p &&& s = p ∧ pr + A p + B (s - p) < z.1 then (pr + A p + B (s - p), code) else z
def cutZ (v : Nat) (code : Int32) (z : Nat × Int32) : Nat × Int32 := (min z.1 v, if v < z.1 then code else z.2)
theorem cutZ_two {v v' F : Nat} {code : Int32} {z : Nat × Int32} (hz : z.1 ≤ F) (hv : v' ≤ F) : cutZ v' code (cutZ v code z) = cutZ (min v v') code z := by
  unfold cutZ
  simp only
  refine Prod.ext ?_ ?_
  · show min (min z.1 v) v' = min z.1 (min v v')
    omega
  · show (if v' < min z.1 v then code else if v < z.1 then code else z.2) = if min v v' < z.1 then code else z.2
    by_cases c1 : v < z.1
    · rw [if_pos c1, if_pos (show min v v' < z.1 by omega)]
      split <;> rfl
    · rw [if_neg c1]
      by_cases c2 : v' < z.1
      · rw [if_pos (by omega), if_pos (by omega)]
      · rw [if_neg (by omega), if_neg (by omega)]
theorem bwF_eq (A B : Nat → Nat) (s pr : Nat) (code : Int32) (p : Nat) {z : Nat × Int32} (hz : z.1 ≤ FAR) : bwF A B s pr code p z = cutZ (gO A B s pr p) code z := by
  unfold bwF cutZ gO
  by_cases c : p &&& s = p
  · rw [if_pos c]
    by_cases c2 : pr + A p + B (s - p) < z.1
    · rw [if_pos ⟨c, c2⟩, if_pos c2, Nat.min_eq_right (Nat.le_of_lt c2)]
    · rw [if_neg (fun q => c2 q.2), if_neg c2, Nat.min_eq_left (Nat.le_of_not_lt c2)]
  · rw [if_neg c, if_neg (fun q => c q.1), Nat.min_eq_left hz, if_neg (Nat.not_lt.mpr hz)]
theorem cutZ_le (v : Nat) (code : Int32) {z : Nat × Int32} {F : Nat} (hz : z.1 ≤ F) : (cutZ v code z).1 ≤ F := Nat.le_trans (Nat.min_le_left _ _) hz
theorem cutZ_far {F : Nat} (code : Int32) {z : Nat × Int32} (hz : z.1 ≤ F) : cutZ F code z = z := by
  unfold cutZ
  rw [Nat.min_eq_left hz, if_neg (Nat.not_lt.mpr hz)]
theorem bw_it (A B : Nat → Nat) (s pr : Nat) (code : Int32) : ∀ d j z, z.1 ≤ FAR → it (bwF A B s pr code) d j z = cutZ (mins (gO A B s pr) d j) code z
  | 0, j, z, hz => (cutZ_far code hz).symm
  | d + 1, j, z, hz => by
    simp only [it, mins]
    rw [bwF_eq A B s pr code j hz, bw_it A B s pr code d (j + 1) _ (cutZ_le _ _ hz), cutZ_two hz (mins_le _ _ _)]
theorem and_not : ∀ p, p < 16 → ∀ s, s < 16 → ((nI p &&& (nI s ^^^ (-1)) = 0) ↔ (p &&& s = p)) := by decide +kernel
abbrev s34 (T h : Hp) : Prop := ∀ k j, ¬ (k = 111 ∧ j = 34) → T k j = h k j
theorem m_bw106 (T : Hp) {A B : Nat → Nat} {hh w s d x a b : Nat} {z : Nat × Int32} (hs : s < 16) (hd : d = 0 ∨ d = 1) (hp : (if d = 0 then w else hh) ≤ 6) (ha : a < 1296) (hb : b < 1296) (hA : ∀ p, p ≤ s → T 131 (16 * a + p) = nI (A p) ∧ A p ≤ FAR) (hB : ∀ p, p ≤ s → T 131 (16 * b + p) = nI (B p) ∧ B p ≤ FAR) (hz : z.1 ≤ FAR) (ez : T 111 34 = z.2) :
    ∃ T', L_X12_bestWire_106 (nI hh) (nI w) (nI s) (nI d) (nI x) (nI a) (nI b) FU (nI z.1) 0 T = some (nI (cutZ (mins (gO A B s (if d = 0 then w else hh)) (s + 1) 0) (100 * nI d + nI x) z).1, T') ∧ T' 111 34 = (cutZ (mins (gO A B s (if d = 0 then w else hh)) (s + 1) 0) (100 * nI d + nI x) z).2 ∧ s34 T' T := by
  have FE := FAR_eq
  rw [← bw_it A B s _ _ (s + 1) 0 z hz]
  obtain ⟨pr, hpr⟩ : ∃ pr, pr = (if d = 0 then w else hh) := ⟨_, rfl⟩
  rw [← hpr] at hp ⊢
  have tp : (if nI d = 0 then (some (nI w) : Option Int32) else some (nI hh)) = some (nI pr) := by
    rw [hpr]
    rcases hd with rfl | rfl <;> rfl
  obtain ⟨⟨b', T'⟩, q1, y, q2, q3, q4, q5, q6⟩ := lpE (fun N j (st : Int32 × Hp) => L_X12_bestWire_106 (nI hh) (nI w) (nI s) (nI d) (nI x) (nI a) (nI b) N st.1 (nI j) st.2) (s + 1) id
    (fun j st => ∃ y : Nat × Int32, y.1 ≤ FAR ∧ st.1 = nI y.1 ∧ st.2 111 34 = y.2 ∧ s34 st.2 T ∧ y = it (bwF A B s pr (100 * nI d + nI x)) j 0 z)
    (fun N st _ => by simp only [L_X12_bestWire_106]; rw [if_pos (nI_lt (by omega) (by omega))]; rfl)
    (fun N j st hj hP => by
      obtain ⟨c, U⟩ := st
      obtain ⟨y, y1, y2, y3, y4, y5⟩ := hP
      simp only at y2 y3 y4
      have js : it (bwF A B s pr (100 * nI d + nI x)) (j + 1) 0 z = bwF A B s pr (100 * nI d + nI x) j y := by rw [it_succ, Nat.zero_add, ← y5]
      simp only [L_X12_bestWire_106, vB_def, tp, Option.bind_some, y2]
      rw [if_neg (nI_nlt (by omega) (by omega)), nI_1, js]
      by_cases cp : j &&& s = j
      · have jle : j ≤ s := by omega
        obtain ⟨a1, a2⟩ := hA j jle
        obtain ⟨b1, b2⟩ := hB (s - j) (by omega)
        rw [if_pos ((and_not j (by omega) s hs).mpr cp), show (16 : Int32) = nI 16 from rfl, nI_mul, nI_mul, nI_add, nI_add, nI_sub (show j ≤ 16 * b + s by omega), show 16 * b + s - j = 16 * b + (s - j) by omega, if_pos (inB_nI (show 16 * a + j < 20736 by omega) (by omega)), if_pos (inB_nI (show 16 * b + (s - j) < 20736 by omega) (by omega)), ix_nI (by omega), ix_nI (by omega), y4 131 _ (by omega), y4 131 _ (by omega), a1, b1, nI_add, nI_add]
        by_cases cl : pr + A j + B (s - j) < y.1
        · rw [if_neg (nI_ge cl (by omega)), Option.bind_some]
          refine ⟨(nI (pr + A j + B (s - j)), u2 U 111 34 (100 * nI d + nI x)), rfl, (pr + A j + B (s - j), 100 * nI d + nI x), by show _ ≤ FAR; omega, rfl, by simp [u2_at], fun k t hk => by show u2 U 111 34 _ k t = _; rw [u2_at, if_neg hk, y4 k t hk], ?_⟩
          unfold bwF
          rw [if_pos ⟨cp, cl⟩]
        · rw [if_pos (nI_le (by omega) (by omega)), Option.bind_some]
          refine ⟨(nI y.1, U), rfl, y, y1, rfl, y3, y4, ?_⟩
          unfold bwF
          rw [if_neg (fun q => cl q.2)]
      · rw [if_neg (fun q => cp ((and_not j (by omega) s hs).mp q)), Option.bind_some]
        refine ⟨(nI y.1, U), rfl, y, y1, rfl, y3, y4, ?_⟩
        unfold bwF
        rw [if_neg (fun q => cp q.1)])
    (s + 1) FU 0 (nI z.1, T) (by omega) (FU_gt (by omega)) ⟨z, hz, rfl, ez, fun k j _ => rfl, rfl⟩
  simp only at q3 q4 q5
  rw [q3] at q1
  rw [← q6]
  exact ⟨T', q1, q4, q5⟩
