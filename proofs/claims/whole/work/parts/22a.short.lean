/-! the order: the component's shortest -/
theorem shl_nI : ∀ m, m < 5 → ((1 : Int32) <<< (nI m &&& 31)) = nI (2 ^ m) := by decide +kernel
theorem shr_bit : ∀ s, s < 16 → ∀ i, i < 4 → ((nI s >>> (nI i &&& 31)) &&& 1) = nI (s / 2 ^ i % 2) := by decide +kernel
theorem k_every (h : Hp) {m : Nat} (hm : m ≤ 4) (e : h 41 5 = nI m) : f_X6_everyAsk h = some (nI (2 ^ m - 1)) := by
  have := pow_16 hm
  unfold f_X6_everyAsk
  rw [e, shl_nI m (by omega), show (1 : Int32) = nI 1 from rfl, nI_sub (by omega)]
theorem k_wish (q : Qp) (h : Hp) {m s : Nat} (u : Nat → Nat) (hm : m ≤ 4) (hs : s < 16) (e : h 41 5 = nI m) (ha : ∀ i, i < m → ∃ a, q i = some a ∧ h a 0 = nI (u i)) : L_X6_addUpWishes_14 q (nI s) h FU 0 0 = some (nI (lwt u m s)) := by
  have key := lpU (fun N j a => L_X6_addUpWishes_14 q (nI s) h N a (nI j)) (fun i a => a + nI (s / 2 ^ i % 2 * u i)) m id (fun _ _ => True)
    (fun N a _ => by simp only [L_X6_addUpWishes_14, e]; rw [if_pos (nI_le (Nat.le_refl m) (by omega))]; rfl)
    (fun N j a hj _ => ⟨by
      obtain ⟨b, b1, b2⟩ := ha j hj
      have h2 : s / 2 ^ j % 2 < 2 := Nat.mod_lt _ (by decide)
      have t : (if ((nI s >>> (nI j &&& 31)) &&& 1) = 1 then (if inB (nI j) 4 then (q (ix (nI j))).bind fun a_12 => some (h a_12 0) else none) else some 0) = some (nI (s / 2 ^ j % 2 * u j)) := by
        rw [shr_bit s hs j (by omega), if_pos (inB_nI (show j < 4 by omega) (by omega)), ix_nI (by omega), b1, Option.bind_some, b2]
        generalize s / 2 ^ j % 2 = B at *
        rcases (by omega : B = 0 ∨ B = 1) with rfl | rfl
        · rw [if_neg (by decide), Nat.zero_mul]; rfl
        · rw [if_pos (show nI 1 = (1 : Int32) from rfl), Nat.one_mul]
      simp only [L_X6_addUpWishes_14, e, vB_def]
      rw [if_neg (nI_ge hj (by omega)), t, Option.bind_some, nI_1], trivial⟩)
    m FU 0 0 (by omega) (FU_gt (by omega)) trivial
  have k1 := key.1
  rw [it_sm] at k1
  refine Eq.trans k1 ?_
  show some ((0 : Int32) + nI (lwt u m s)) = _
  rw [Int32.zero_add]
theorem k_addUpWishes (q : Qp) (h : Hp) {m : Nat} (u : Nat → Nat) (hm : m ≤ 4) (e : h 41 5 = nI m) (ha : ∀ i, i < m → ∃ a, q i = some a ∧ 137 ≤ a ∧ h a 0 = nI (u i)) : ∃ h', f_X6_addUpWishes q h = some h' ∧ (∀ s, s < 2 ^ m → h' 44 s = nI (lwt u m s)) ∧ ∀ k, k ≠ 44 → h' k = h k := by
  have m16 := pow_16 hm
  obtain ⟨T', q1, q2, q3⟩ := lpE (fun N j T => L_X6_addUpWishes_2 q N (nI j) T) (2 ^ m) id
    (fun j T => (∀ s, s < j → T 44 s = nI (lwt u m s)) ∧ ∀ k, k ≠ 44 → T k = h k)
    (fun N T hP => by
      simp only [L_X6_addUpWishes_2]
      rw [k_every T hm (by rw [hP.2 41 (by omega)]; exact e), Option.bind_some, if_pos (nI_lt (by omega) (by omega))]; rfl)
    (fun N j T hj hP => by
      obtain ⟨p1, p2⟩ := hP
      have kw := k_wish q T (m := m) (s := j) u hm (by omega) (by rw [p2 41 (by omega)]; exact e) (fun i hi => by
        obtain ⟨a, a1, a2, a3⟩ := ha i hi
        exact ⟨a, a1, by rw [p2 a (by omega)]; exact a3⟩)
      simp only [L_X6_addUpWishes_2, vB_def]
      rw [k_every T hm (by rw [p2 41 (by omega)]; exact e), Option.bind_some, if_neg (nI_nlt (by omega) (by omega)), kw, Option.bind_some, if_pos (inB_nI (show j < 16 by omega) (by omega)), ix_nI (by omega), nI_1]
      refine ⟨_, rfl, ?_, ?_⟩
      · intro s hs
        by_cases es : s = j
        · subst es; rw [u2_at, if_pos ⟨rfl, rfl⟩]
        · rw [u2_at, if_neg (by omega), p1 s (by omega)]
      · intro k hk
        rw [u2_ne _ _ _ hk, p2 k hk])
    (2 ^ m) FU 0 h (by omega) (FU_gt (by omega)) ⟨fun s hs => absurd hs (by omega), fun k _ => rfl⟩
  refine ⟨T', ?_, q2, q3⟩
  simp only [f_X6_addUpWishes, vB_def]
  rw [show L_X6_addUpWishes_2 q FU 0 h = some T' from q1, Option.bind_some]
theorem k_fits (h : Hp) {a i : Nat} {K A O Rr : Nat → Int32} {r c hh w : Nat} (e0 : h a 0 = A i) (e1 : h a 1 = A i + O i) (e2 : h a 2 = Rr i) : f_X0_fits h a (nI (wtB K r c hh w)) (nI (rdB K 1 r c hh w)) = some (if ftO K A O Rr i r c hh w = true then 1 else 0) := by
  unfold f_X0_fits ftO
  rw [e0, e1, e2]
  generalize nI (wtB K r c hh w) = X
  generalize nI (rdB K 1 r c hh w) = Y
  by_cases c1 : X < A i
  · rw [if_pos c1, if_neg (fun q => absurd (of_decide_eq_true q).1.1 (i_nle.mpr c1))]
  · rw [if_neg c1]
    by_cases c2 : A i + O i < X
    · rw [if_pos c2, if_neg (fun q => absurd (of_decide_eq_true q).1.2 (i_nle.mpr c2))]
    · rw [if_neg c2]
      by_cases c3 : Rr i < Y
      · rw [if_pos c3, if_neg (fun q => absurd (of_decide_eq_true q).2 (i_nle.mpr c3))]
      · rw [if_neg c3, if_pos (decide_eq_true ⟨⟨i_nlt.mp c1, i_nlt.mp c2⟩, i_nlt.mp c3⟩)]
/-- one ask alone fits -/
def fitD (ft : Nat → Bool) (s : Nat) : Nat → Nat → Bool
  | 0, _ => false
  | d + 1, j => if s = 2 ^ j ∧ ft j = true then true else fitD ft s d (j + 1)
theorem fitD_iff (ft : Nat → Bool) (s : Nat) : ∀ d j, fitD ft s d j = true ↔ ∃ i, j ≤ i ∧ i < j + d ∧ s = 2 ^ i ∧ ft i = true
  | 0, j => ⟨fun q => absurd (show false = true from q) (by decide), fun ⟨i, h1, h2, _⟩ => absurd h2 (by omega)⟩
  | d + 1, j => by
    rw [fitD]
    by_cases c : s = 2 ^ j ∧ ft j = true
    · rw [if_pos c]
      exact ⟨fun _ => ⟨j, Nat.le_refl _, by omega, c⟩, fun _ => rfl⟩
    · rw [if_neg c, fitD_iff ft s d (j + 1)]
      constructor
      · rintro ⟨i, h1, h2, h3⟩
        exact ⟨i, by omega, by omega, h3⟩
      · rintro ⟨i, h1, h2, h3⟩
        by_cases e : i = j
        · subst e; exact absurd h3 c
        · exact ⟨i, by omega, by omega, h3⟩
theorem fitc_iff (ft : Nat → Nat → Nat → Nat → Nat → Bool) {r c hh w s m : Nat} (hm : m ≤ 4) (hs : s < 2 ^ m) : fitc ft r c hh w s ↔ fitD (fun k => ft k r c hh w) s m 0 = true := by
  rw [fitD_iff]
  constructor
  · have one : ∀ k, s = 2 ^ k → ft k r c hh w = true → ∃ i, 0 ≤ i ∧ i < 0 + m ∧ s = 2 ^ i ∧ ft i r c hh w = true := fun k e1 e2 => ⟨k, by omega, by have := pow_lt hm (k := k) (by rw [← e1]; exact hs); omega, e1, e2⟩
    rintro (q | q | q | q)
    · exact one 0 q.1 q.2
    · exact one 1 q.1 q.2
    · exact one 2 q.1 q.2
    · exact one 3 q.1 q.2
  · rintro ⟨i, h1, h2, h3, h4⟩
    rcases (by omega : i = 0 ∨ i = 1 ∨ i = 2 ∨ i = 3) with rfl | rfl | rfl | rfl
    · exact Or.inl ⟨h3, h4⟩
    · exact Or.inr (Or.inl ⟨h3, h4⟩)
    · exact Or.inr (Or.inr (Or.inl ⟨h3, h4⟩))
    · exact Or.inr (Or.inr (Or.inr ⟨h3, h4⟩))
theorem k_vd39 (q : Qp) (h : Hp) {K A O Rr : Nat → Int32} {R C r c hh w s m : Nat} (hR : R ≤ 6) (hC : C ≤ 6) (hm : m ≤ 4) (hs : s < 16) (b : blkIn R C r c hh w) (e : h 41 5 = nI m) (hs6 : sums (h 6) (fun i => rdN 1 (K i)) R C) (ha : ∀ i, i < m → ∃ a, q i = some a ∧ h a 0 = A i ∧ h a 1 = A i + O i ∧ h a 2 = Rr i) :
    ∀ d N j, j + d = m → d < N → L_X6_verdict_39 h (nI r) (nI c) (nI hh) (nI w) (nI s) q (nI (wtB K r c hh w)) (fun _ => some (-1)) N (nI j) = some (if fitD (fun k => ftO K A O Rr k r c hh w) s d j = true then 0 else -1)
  | 0, N, j, hj, hN => by
    obtain ⟨N, rfl⟩ : ∃ q, N = q + 1 := ⟨N - 1, by omega⟩
    rw [L_X6_verdict_39, e, if_pos (nI_le (by omega) (by omega))]
    rfl
  | d + 1, N, j, hj, hN => by
    obtain ⟨N, rfl⟩ : ∃ q, N = q + 1 := ⟨N - 1, by omega⟩
    obtain ⟨a, a1, a2, a3, a4⟩ := ha j (by omega)
    have ih := k_vd39 q h (K := K) (A := A) (O := O) (Rr := Rr) hR hC hm hs b e hs6 ha d N (j + 1) (by omega) (by omega)
    have p16 : 2 ^ j ≤ 8 := by
      rcases (by omega : j = 0 ∨ j = 1 ∨ j = 2 ∨ j = 3) with rfl | rfl | rfl | rfl <;> decide
    rw [L_X6_verdict_39, e, if_neg (nI_ge (show j < m by omega) (by omega))]
    simp only [vK, vB_def]
    rw [shl_nI j (by omega), if_pos (inB_nI (show j < 4 by omega) (by omega)), ix_nI (by omega), a1, Option.bind_some, k_rindIn h hs6 hR hC (by omega) (by omega), Option.bind_some, k_fits h (K := K) a2 a3 a4, Option.bind_some, nI_1, fitD, ih]
    by_cases c1 : s = 2 ^ j
    · rw [if_pos (by rw [c1])]
      by_cases c2 : ftO K A O Rr j r c hh w = true
      · rw [if_pos c2, if_neg (by decide), if_pos (show s = 2 ^ j ∧ ftO K A O Rr j r c hh w = true from ⟨c1, c2⟩), if_pos rfl]
      · rw [if_neg c2, if_pos rfl, if_neg (show ¬ (s = 2 ^ j ∧ ftO K A O Rr j r c hh w = true) from fun z => c2 z.2)]
    · rw [if_neg (fun z => c1 ((nI_eq (by omega) (by omega)).mp z)), if_neg (show ¬ (s = 2 ^ j ∧ ftO K A O Rr j r c hh w = true) from fun z => c1 z.1)]
theorem k_vdO (q : Qp) (h : Hp) {K A O Rr : Nat → Int32} {u : Nat → Nat} {R C r c hh w s m : Nat} (hR : R ≤ 6) (hC : C ≤ 6) (hm : m ≤ 4) (hs : s < 2 ^ m) (b : blkIn R C r c hh w) (e : h 41 5 = nI m) (hs5 : sums (h 5) (fun i => wtN (K i)) R C) (hs6 : sums (h 6) (fun i => rdN 1 (K i)) R C) (ha : ∀ i, i < m → ∃ a, q i = some a ∧ h a 0 = A i ∧ h a 1 = A i + O i ∧ h a 2 = Rr i) (hu : ∀ i, i < m → A i = nI (u i) ∧ u i ≤ 360) (h44 : h 44 s = nI (lwt u m s)) :
    vdk_O q h (DO (ftO K A O Rr)) r c hh w s := by
  have m16 := pow_16 hm
  have w360 := wtB_le K (r := r) (c := c) (hh := hh) (w := w) (by omega) (by omega)
  have lw4 : lwt u m s < 2000 := by
    have key : ∀ d j, j + d ≤ m → sm (fun i => s / 2 ^ i % 2 * u i) d j ≤ d * 360 := fun d => by
      induction d with
      | zero => intro j _; exact Nat.le_refl _
      | succ d ih =>
        intro j hj
        simp only [sm]
        have i1 := ih (j + 1) (by omega)
        have i2 := (hu j (by omega)).2
        have i3 : s / 2 ^ j % 2 < 2 := Nat.mod_lt _ (by decide)
        have i4 : s / 2 ^ j % 2 * u j ≤ 1 * 360 := Nat.mul_le_mul (by omega) i2
        omega
    have := key m 0 (by omega)
    unfold lwt
    omega
  unfold vdk_O
  unfold f_X6_verdict
  by_cases s0 : s = 0
  · rw [if_pos (by rw [s0]; rfl)]
    refine ⟨0, rfl, Or.inr ⟨by decide, ?_⟩⟩
    rw [DO_rec _ (by omega) (by omega), if_pos s0]; rfl
  · rw [if_neg (nI_ne0 (by omega) (by omega)), k_weightIn h hs5 hR hC (by omega) (by omega), Option.bind_some, vB_def, if_pos (inB_nI (show s < 16 by omega) (by omega)), ix_nI (by omega), h44]
    by_cases cl : lwt u m s ≤ wtB K r c hh w
    · rw [if_pos (nI_le cl (by omega)), vB_def]
      rw [show ∀ Kk, L_X6_verdict_39 h (nI r) (nI c) (nI hh) (nI w) (nI s) q (nI (wtB K r c hh w)) Kk FU 0 = L_X6_verdict_39 h (nI r) (nI c) (nI hh) (nI w) (nI s) q (nI (wtB K r c hh w)) Kk FU (nI 0) from fun _ => rfl, k_vd39 q h (K := K) (A := A) (O := O) (Rr := Rr) hR hC hm (by omega) b e hs6 ha m FU 0 (by omega) (FU_gt (by omega))]
      by_cases cf : fitD (fun k => ftO K A O Rr k r c hh w) s m 0 = true
      · rw [if_pos cf]
        refine ⟨0, rfl, Or.inr ⟨by decide, ?_⟩⟩
        rw [DO_rec _ (by omega) (by omega), if_neg s0, if_pos ((fitc_iff _ hm hs).mpr cf)]; rfl
      · rw [if_neg cf]
        refine ⟨-1, rfl, Or.inl ⟨rfl, ?_⟩⟩
        rw [DO_rec _ (by omega) (by omega), if_neg s0, if_neg (fun z => cf ((fitc_iff _ hm hs).mp z))]
        rfl
    · rw [if_neg (nI_ge (by omega) (by omega))]
      refine ⟨1000000, rfl, Or.inr ⟨by decide, ?_⟩⟩
      rw [DO_far (ftO K A O Rr) (wtB K) u hm (fun r c x y w => blk_down _ r c x y w) (fun r c hh x y => blk_aside _ r c hh x y) (fun k r c hh w hk hf => by
        unfold ftO at hf
        have h1 := (of_decide_eq_true hf).1.1
        rw [(hu k hk).1] at h1
        have h3 := (hu k hk).2
        rcases Nat.lt_or_ge (wtB K r c hh w) (2 ^ 31) with h2 | h2
        · exact (nI_leI (by omega) h2).mp h1
        · omega) (hh + w) r c hh w s (Nat.le_refl _) (by omega) (by omega) hs (by omega)]
      exact FAR_nI
