/-! rounds: first -/
theorem cutZ_fc (v : Nat → Nat) (code : Nat → Int32) : ∀ d j (z : Nat × Int32),
    ((it (fun x z => cutZ (v x) (code x) z) d j z).1 < z.1 ∧ (∃ x, j ≤ x ∧ x < j + d ∧ v x = (it (fun x z => cutZ (v x) (code x) z) d j z).1 ∧ (∀ i, j ≤ i → i < x → (it (fun x z => cutZ (v x) (code x) z) d j z).1 < v i) ∧ (it (fun x z => cutZ (v x) (code x) z) d j z).2 = code x) ∨ (it (fun x z => cutZ (v x) (code x) z) d j z) = z) ∧ ∀ i, j ≤ i → i < j + d → (it (fun x z => cutZ (v x) (code x) z) d j z).1 ≤ v i
  | 0, j, z => ⟨Or.inr rfl, fun i h1 h2 => absurd h2 (by omega)⟩
  | d + 1, j, z => by
    have ih := cutZ_fc v code d (j + 1) (cutZ (v j) (code j) z)
    simp only [it]
    generalize it (fun x z => cutZ (v x) (code x) z) d (j + 1) (cutZ (v j) (code j) z) = y at *
    have z1 : (cutZ (v j) (code j) z).1 = min z.1 (v j) := rfl
    have z2 : (cutZ (v j) (code j) z).2 = if v j < z.1 then code j else z.2 := rfl
    obtain ⟨ih1, ih2⟩ := ih
    have le : y.1 ≤ min z.1 (v j) := by
      rcases ih1 with q | q
      · rw [← z1]; exact Nat.le_of_lt q.1
      · rw [q, z1]; exact Nat.le_refl _
    refine ⟨?_, fun i h1 h2 => ?_⟩
    · rcases ih1 with ⟨q1, x, q2, q3, q4, q5, q6⟩ | q
      · rw [z1] at q1
        refine Or.inl ⟨by omega, x, by omega, by omega, q4, fun i h1 h2 => ?_, q6⟩
        by_cases e : i = j
        · subst e; omega
        · exact q5 i (by omega) h2
      · by_cases c : v j < z.1
        · refine Or.inl ⟨by rw [q, z1]; omega, j, Nat.le_refl _, by omega, by rw [q, z1]; omega, fun i h1 h2 => absurd h2 (by omega), by rw [q, z2, if_pos c]⟩
        · refine Or.inr ?_
          rw [q]
          refine Prod.ext ?_ ?_
          · rw [z1]; omega
          · rw [z2, if_neg c]
    · by_cases e : i = j
      · subst e; omega
      · exact ih2 i (by omega) (by omega)
theorem k_cut1_O (h : Hp) {R C r c hh w s S x : Nat} {Dv : Nat → Nat → Nat → Nat → Nat → Nat} (hR : R ≤ 6) (hC : C ≤ 6) (e : h 41 1 = nI 16) (b : blkIn R C r c hh w) (hs : s < S) (hS : S ≤ 16) (hD : ∀ r c hh w s, blkIn R C r c hh w → Dv r c hh w s ≤ FAR) (x1 : 1 ≤ x) (x2 : x < hh) (V1 : V_O Dv S h x w r c ∧ V_O Dv S h (hh - x) w (r + x) c) : f_X8_cutCost_O h (nI r) (nI c) (nI hh) (nI w) 1 (nI x) (nI s) = some (nI (w + mins (g2 (Dv r c x w) (Dv (r + x) c (hh - x) w) s) (s + 1) 0)) := by
  have l1 := spt_lt hR hC (show blkIn R C r c x w by omega)
  have l2 := spt_lt hR hC (show blkIn R C (r + x) c (hh - x) w by omega)
  simp only [f_X8_cutCost_O, vB_def]
  rw [if_neg (by decide), nI_add, nI_sub (show x ≤ hh by omega), k_spot_O h e (by omega) (by omega) (by omega) (by omega) (by omega) (by omega), Option.bind_some, k_spot_O h e (by omega) (by omega) (by omega) (by omega) (by omega) (by omega), Option.bind_some, show f_X6_cutPrice (nI w) = some (nI w) from rfl, Option.bind_some,
    k_both_O h (Dv r c x w) (Dv (r + x) c (hh - x) w) (by omega) (by omega) (by omega) (fun p hp => ⟨V1.1 p (by omega), hD _ _ _ _ _ (by omega)⟩) (fun p hp => ⟨V1.2 p (by omega), hD _ _ _ _ _ (by omega)⟩), Option.bind_some, nI_add]
theorem k_cut2_O (h : Hp) {R C r c hh w s S x : Nat} {Dv : Nat → Nat → Nat → Nat → Nat → Nat} (hR : R ≤ 6) (hC : C ≤ 6) (e : h 41 1 = nI 16) (b : blkIn R C r c hh w) (hs : s < S) (hS : S ≤ 16) (hD : ∀ r c hh w s, blkIn R C r c hh w → Dv r c hh w s ≤ FAR) (x1 : 1 ≤ x) (x2 : x < w) (V2 : V_O Dv S h hh x r c ∧ V_O Dv S h hh (w - x) r (c + x)) : f_X8_cutCost_O h (nI r) (nI c) (nI hh) (nI w) 0 (nI x) (nI s) = some (nI (hh + mins (g2 (Dv r c hh x) (Dv r (c + x) hh (w - x)) s) (s + 1) 0)) := by
  have l1 := spt_lt hR hC (show blkIn R C r c hh x by omega)
  have l2 := spt_lt hR hC (show blkIn R C r (c + x) hh (w - x) by omega)
  simp only [f_X8_cutCost_O, vB_def]
  rw [if_pos trivial, nI_add, nI_sub (show x ≤ w by omega), k_spot_O h e (by omega) (by omega) (by omega) (by omega) (by omega) (by omega), Option.bind_some, k_spot_O h e (by omega) (by omega) (by omega) (by omega) (by omega) (by omega), Option.bind_some, show f_X6_cutPrice (nI hh) = some (nI hh) from rfl, Option.bind_some,
    k_both_O h (Dv r c hh x) (Dv r (c + x) hh (w - x)) (by omega) (by omega) (by omega) (fun p hp => ⟨V2.1 p (by omega), hD _ _ _ _ _ (by omega)⟩) (fun p hp => ⟨V2.2 p (by omega), hD _ _ _ _ _ (by omega)⟩), Option.bind_some, nI_add]
theorem far_eq {F pr X Y D : Nat} (h : min F (pr + X) = min F Y) (hY : Y ≤ F) (hD : D < F) : pr + X = D ↔ Y = D := by omega
theorem cost_eq (A B : Nat → Nat) (s pr D : Nat) (hp : pr ≤ 6) (hD : D < FAR) : nI (pr + mins (g2 A B s) (s + 1) 0) = nI D ↔ mins (gO A B s pr) (s + 1) 0 = D := by
  have FE := FAR_eq
  have l1 := mins_le (g2 A B s) (s + 1) 0
  have l2 := mins_le (gO A B s pr) (s + 1) 0
  have e := gO_add A B s pr FAR (Nat.le_refl _)
  rw [nI_eq (by omega) (by omega)]
  exact far_eq e l2 hD
theorem k_f66 (h : Hp) {C D : Nat} (vv : Nat → Int32) (hC : C ≤ 6) (e4 : h 3 4 = nI C) (cc : ∀ x, 1 ≤ x → x < C → (f_X6_everyAsk h).bind (fun u_10 => f_X8_cutCost_O h 0 0 (h 3 3) (h 3 4) 0 (nI x) u_10) = some (vv x)) {x0 : Nat} (x1 : 1 ≤ x0) (x2 : x0 < C) (hv : vv x0 = nI D) (hf : ∀ i, 1 ≤ i → i < x0 → ¬ vv i = nI D) (K : Unit → Option Int32) : ∀ d N x, x + d = x0 → 1 ≤ x → d < N → L_X6_firstCut_66 h (nI D) K N (nI x) = some (100 + nI x0)
  | 0, N, x, hx, hx1, hN => by
    obtain ⟨N, rfl⟩ : ∃ q, N = q + 1 := ⟨N - 1, by omega⟩
    have : x = x0 := by omega
    subst this
    have c := cc x hx1 x2
    rw [Option.bind_eq_some_iff] at c
    obtain ⟨u, c1, c2⟩ := c
    rw [L_X6_firstCut_66, c1, Option.bind_some, c2, Option.bind_some, if_pos hv, e4, if_neg (nI_ge (by omega) (by omega))]
  | d + 1, N, x, hx, hx1, hN => by
    obtain ⟨N, rfl⟩ : ∃ q, N = q + 1 := ⟨N - 1, by omega⟩
    have c := cc x hx1 (by omega)
    rw [Option.bind_eq_some_iff] at c
    obtain ⟨u, c1, c2⟩ := c
    rw [L_X6_firstCut_66, c1, Option.bind_some, c2, Option.bind_some, if_neg (hf x hx1 (by omega)), e4, if_neg (nI_ge (by omega) (by omega)), vB_def, nI_1]
    exact k_f66 h vv hC e4 cc x1 x2 hv hf K d N (x + 1) (by omega) (by omega) (by omega)
theorem k_f15 (h : Hp) {R D : Nat} (vv : Nat → Int32) (hR : R ≤ 6) (e3 : h 3 3 = nI R) (cc : ∀ x, 1 ≤ x → x < R → (f_X6_everyAsk h).bind (fun u_10 => f_X8_cutCost_O h 0 0 (h 3 3) (h 3 4) 1 (nI x) u_10) = some (vv x)) {x0 : Nat} (x1 : 1 ≤ x0) (x2 : x0 < R) (hv : vv x0 = nI D) (hf : ∀ i, 1 ≤ i → i < x0 → ¬ vv i = nI D) (K : Unit → Option Int32) : ∀ d N x, x + d = x0 → 1 ≤ x → d < N → L_X6_firstCut_15 h (nI D) K N (nI x) = some (nI x0)
  | 0, N, x, hx, hx1, hN => by
    obtain ⟨N, rfl⟩ : ∃ q, N = q + 1 := ⟨N - 1, by omega⟩
    have : x = x0 := by omega
    subst this
    have c := cc x hx1 x2
    rw [Option.bind_eq_some_iff] at c
    obtain ⟨u, c1, c2⟩ := c
    rw [L_X6_firstCut_15, c1, Option.bind_some, c2, Option.bind_some, if_pos hv, e3, if_neg (nI_ge (by omega) (by omega))]
  | d + 1, N, x, hx, hx1, hN => by
    obtain ⟨N, rfl⟩ : ∃ q, N = q + 1 := ⟨N - 1, by omega⟩
    have c := cc x hx1 (by omega)
    rw [Option.bind_eq_some_iff] at c
    obtain ⟨u, c1, c2⟩ := c
    rw [L_X6_firstCut_15, c1, Option.bind_some, c2, Option.bind_some, if_neg (hf x hx1 (by omega)), e3, if_neg (nI_ge (by omega) (by omega)), vB_def, nI_1]
    exact k_f15 h vv hR e3 cc x1 x2 hv hf K d N (x + 1) (by omega) (by omega) (by omega)
theorem k_f15n (h : Hp) {R D : Nat} (vv : Nat → Int32) (hR : R ≤ 6) (e3 : h 3 3 = nI R) (cc : ∀ x, 1 ≤ x → x < R → (f_X6_everyAsk h).bind (fun u_10 => f_X8_cutCost_O h 0 0 (h 3 3) (h 3 4) 1 (nI x) u_10) = some (vv x)) (hf : ∀ i, 1 ≤ i → i < R → ¬ vv i = nI D) (K : Unit → Option Int32) : ∀ d N x, x + d = R → 1 ≤ x → d < N → L_X6_firstCut_15 h (nI D) K N (nI x) = K ()
  | 0, N, x, hx, hx1, hN => by
    obtain ⟨N, rfl⟩ : ∃ q, N = q + 1 := ⟨N - 1, by omega⟩
    rw [L_X6_firstCut_15, e3, if_pos (nI_le (by omega) (by omega))]
  | d + 1, N, x, hx, hx1, hN => by
    obtain ⟨N, rfl⟩ : ∃ q, N = q + 1 := ⟨N - 1, by omega⟩
    have c := cc x hx1 (by omega)
    rw [Option.bind_eq_some_iff] at c
    obtain ⟨u, c1, c2⟩ := c
    rw [L_X6_firstCut_15, c1, Option.bind_some, c2, Option.bind_some, if_neg (hf x hx1 (by omega)), e3, if_neg (nI_ge (by omega) (by omega)), vB_def, nI_1]
    exact k_f15n h vv hR e3 cc hf K d N (x + 1) (by omega) (by omega) (by omega)
theorem k_firstCut (g : Hp) {ft : Nat → Nat → Nat → Nat → Nat → Bool} {R C m : Nat} (R1 : 1 ≤ R) (R2 : R ≤ 6) (C1 : 1 ≤ C) (C2 : C ≤ 6) (m1 : m ≤ 4) (e3 : g 3 3 = nI R) (e4 : g 3 4 = nI C) (e41 : g 41 1 = nI 16) (e5 : g 41 5 = nI m) (V : ∀ hh w r c, blkIn R C r c hh w → V_O (DO ft) (2 ^ m) g hh w r c) (D0 : 0 < DO ft 0 0 R C (2 ^ m - 1)) (DF : DO ft 0 0 R C (2 ^ m - 1) < FAR) :
    f_X6_firstCut g (nI (DO ft 0 0 R C (2 ^ m - 1))) = some (bwZ (DO ft) 0 0 R C (2 ^ m - 1)).2 := by
  have m16 := pow_16 m1
  have FE := FAR_eq
  have hD : ∀ r c hh w s, blkIn R C r c hh w → DO ft r c hh w s ≤ FAR := fun r c hh w s b => DO_le ft s (by omega) (by omega)
  have dr := DO_rec ft (r := 0) (c := 0) (hh := R) (w := C) (s := 2 ^ m - 1) R1 C1
  have dM : DO ft 0 0 R C (2 ^ m - 1) = (bwZ (DO ft) 0 0 R C (2 ^ m - 1)).1 := by
    rw [bwZ_1]
    by_cases c1 : 2 ^ m - 1 = 0
    · rw [if_pos c1] at dr; omega
    · rw [if_neg c1] at dr
      by_cases c2 : fitc ft 0 0 R C (2 ^ m - 1)
      · rw [if_pos c2] at dr; omega
      · rw [if_neg c2] at dr
        exact dr
  have cc1 : ∀ x, 1 ≤ x → x < R → (f_X6_everyAsk g).bind (fun u_10 => f_X8_cutCost_O g 0 0 (g 3 3) (g 3 4) 1 (nI x) u_10) = some (nI (C + mins (g2 (DO ft 0 0 x C) (DO ft (0 + x) 0 (R - x) C) (2 ^ m - 1)) (2 ^ m - 1 + 1) 0)) := fun x x1 x2 => by
    rw [k_every g m1 e5, Option.bind_some, e3, e4]
    exact k_cut1_O g (r := 0) (c := 0) R2 C2 e41 (by omega) (show 2 ^ m - 1 < 2 ^ m by omega) m16.2 hD x1 x2 ⟨V _ _ _ _ (by omega), V _ _ _ _ (by omega)⟩
  have cc2 : ∀ x, 1 ≤ x → x < C → (f_X6_everyAsk g).bind (fun u_10 => f_X8_cutCost_O g 0 0 (g 3 3) (g 3 4) 0 (nI x) u_10) = some (nI (R + mins (g2 (DO ft 0 0 R x) (DO ft 0 (0 + x) R (C - x)) (2 ^ m - 1)) (2 ^ m - 1 + 1) 0)) := fun x x1 x2 => by
    rw [k_every g m1 e5, Option.bind_some, e3, e4]
    exact k_cut2_O g (r := 0) (c := 0) R2 C2 e41 (by omega) (show 2 ^ m - 1 < 2 ^ m by omega) m16.2 hD x1 x2 ⟨V _ _ _ _ (by omega), V _ _ _ _ (by omega)⟩
  have q1 : ∀ x, (nI (C + mins (g2 (DO ft 0 0 x C) (DO ft (0 + x) 0 (R - x) C) (2 ^ m - 1)) (2 ^ m - 1 + 1) 0) = nI (DO ft 0 0 R C (2 ^ m - 1))) ↔ cv1 (DO ft) 0 0 R C (2 ^ m - 1) x = DO ft 0 0 R C (2 ^ m - 1) := fun x => cost_eq _ _ _ _ _ C2 DF
  have q2 : ∀ x, (nI (R + mins (g2 (DO ft 0 0 R x) (DO ft 0 (0 + x) R (C - x)) (2 ^ m - 1)) (2 ^ m - 1 + 1) 0) = nI (DO ft 0 0 R C (2 ^ m - 1))) ↔ cv2 (DO ft) 0 0 R C (2 ^ m - 1) x = DO ft 0 0 R C (2 ^ m - 1) := fun x => cost_eq _ _ _ _ _ R2 DF
  have A := cutZ_fc (cv1 (DO ft) 0 0 R C (2 ^ m - 1)) (fun x => 100 * nI 0 + nI x) (R - 1) 1 (FAR, -9)
  have B := cutZ_fc (cv2 (DO ft) 0 0 R C (2 ^ m - 1)) (fun x => 100 * nI 1 + nI x) (C - 1) 1 (it (fun x z => cutZ (cv1 (DO ft) 0 0 R C (2 ^ m - 1) x) (100 * nI 0 + nI x) z) (R - 1) 1 (FAR, -9))
  have bE : bwZ (DO ft) 0 0 R C (2 ^ m - 1) = it (fun x z => cutZ (cv2 (DO ft) 0 0 R C (2 ^ m - 1) x) (100 * nI 1 + nI x) z) (C - 1) 1 (it (fun x z => cutZ (cv1 (DO ft) 0 0 R C (2 ^ m - 1) x) (100 * nI 0 + nI x) z) (R - 1) 1 (FAR, -9)) := rfl
  rw [← bE] at B
  rw [← dM] at B
  generalize it (fun x z => cutZ (cv1 (DO ft) 0 0 R C (2 ^ m - 1) x) (100 * nI 0 + nI x) z) (R - 1) 1 (FAR, -9) = z1 at *
  unfold f_X6_firstCut
  rw [if_neg (nI_ne0 D0 (by omega)), if_pos (show nI (DO ft 0 0 R C (2 ^ m - 1)) < 1000000 from nI_lt (b := 1000000) DF (by omega)), vB_def]
  rcases B.1 with ⟨b1, x0, b2, b3, b4, b5, b6⟩ | b1
  · have no1 : ∀ i, 1 ≤ i → i < R → ¬ nI (C + mins (g2 (DO ft 0 0 i C) (DO ft (0 + i) 0 (R - i) C) (2 ^ m - 1)) (2 ^ m - 1 + 1) 0) = nI (DO ft 0 0 R C (2 ^ m - 1)) := fun i i1 i2 z => by
      have := (q1 i).mp z
      have le := A.2 i i1 (by omega)
      omega
    rw [show ∀ K, L_X6_firstCut_15 g (nI (DO ft 0 0 R C (2 ^ m - 1))) K FU 1 = L_X6_firstCut_15 g (nI (DO ft 0 0 R C (2 ^ m - 1))) K FU (nI 1) from fun _ => rfl, k_f15n g (fun x => nI (C + mins (g2 (DO ft 0 0 x C) (DO ft (0 + x) 0 (R - x) C) (2 ^ m - 1)) (2 ^ m - 1 + 1) 0)) R2 e3 cc1 no1 _ (R - 1) FU 1 (by omega) (by omega) (FU_gt (by omega)), vB_def]
    rw [show ∀ K, L_X6_firstCut_66 g (nI (DO ft 0 0 R C (2 ^ m - 1))) K FU 1 = L_X6_firstCut_66 g (nI (DO ft 0 0 R C (2 ^ m - 1))) K FU (nI 1) from fun _ => rfl, k_f66 g (fun x => nI (R + mins (g2 (DO ft 0 0 R x) (DO ft 0 (0 + x) R (C - x)) (2 ^ m - 1)) (2 ^ m - 1 + 1) 0)) C2 e4 cc2 b2 (by omega) ((q2 x0).mpr b4) (fun i i1 i2 z => by
      have := (q2 i).mp z
      have := b5 i i1 i2
      omega) _ (x0 - 1) FU 1 (by omega) (by omega) (FU_gt (by omega)), b6]
    rfl
  · have zb : (bwZ (DO ft) 0 0 R C (2 ^ m - 1)).1 = z1.1 := by rw [b1]
    have z1F : z1.1 < FAR := by rw [← zb, ← dM]; exact DF
    rcases A.1 with ⟨a1, x0, a2, a3, a4, a5, a6⟩ | a1
    · rw [show ∀ K, L_X6_firstCut_15 g (nI (DO ft 0 0 R C (2 ^ m - 1))) K FU 1 = L_X6_firstCut_15 g (nI (DO ft 0 0 R C (2 ^ m - 1))) K FU (nI 1) from fun _ => rfl, k_f15 g (fun x => nI (C + mins (g2 (DO ft 0 0 x C) (DO ft (0 + x) 0 (R - x) C) (2 ^ m - 1)) (2 ^ m - 1 + 1) 0)) R2 e3 cc1 a2 (by omega) ((q1 x0).mpr (by rw [a4, dM, zb])) (fun i i1 i2 z => by
        have := (q1 i).mp z
        have := a5 i i1 i2
        omega) _ (x0 - 1) FU 1 (by omega) (by omega) (FU_gt (by omega)), b1, a6]
      show some (nI x0) = some (100 * nI 0 + nI x0)
      rw [show (100 : Int32) * nI 0 = nI 0 from rfl, nI_add, Nat.zero_add]
    · rw [a1] at z1F
      exact absurd z1F (Nat.lt_irrefl _)
theorem s_first {k N : Nat} {h : Hp} {q : Qp} (H : Inv k N h q) : ∃ a h1 b h2, f_X11_first q h = some (a, h1) ∧ f_X12_first h1 = some (b, h2) ∧ a = b ∧ Inv (k + 1) N h2 q := by
  obtain ⟨h0, R, C, hT, hF, hR, hB, hS, hO, hL, hK, hP, hC⟩ := H
  have FE := FAR_eq
  have hF' := hF
  obtain ⟨R1, R2, C1, C2, f1, f2, f3, f4, f5, f6, f7, f8⟩ := hF'
  obtain ⟨m, g, m1, m2, m3, g1, g2, g3, g4⟩ := k_shortO (k := k) hF hO hC
  have m16 := pow_16 m1
  have Hu := Inv_u0 (Nat.le_succ k) (Inv_O h0 hT hF hR hB hS hL hK hP hC g3 g4)
  have ur : ∀ k, k ≠ 42 → k ≠ 44 → k ≠ 41 → k ≠ 111 → u2 g 111 0 0 k = h k := fun k h1 h2 h3 h4 => by rw [u2_ne _ _ _ h4]; exact row_eq (fun j => g3 k j h1 h2 (by omega))
  have uj : ∀ j, j ≠ 0 → u2 g 111 0 0 111 j = h 111 j := fun j hj => by rw [u0_j _ _ hj, g3 111 j (by omega) (by omega) (by omega)]
  obtain ⟨f, w1, w2, w3⟩ := m_wholeWire (u2 g 111 0 0) (R := R) (C := C) (m := m) R2 C2 R1 C1 m1 (by rw [uj 4 (by omega)]; exact f3) (by rw [uj 5 (by omega)]; exact f4) (by rw [uj 26 (by omega)]; exact m3)
  rw [ur 113 (by omega) (by omega) (by omega) (by omega), ur 126 (by omega) (by omega) (by omega) (by omega), ur 127 (by omega) (by omega) (by omega) (by omega), ur 128 (by omega) (by omega) (by omega) (by omega)] at w1 w2
  have Hf : Inv (k + 1) N f q := Inv_keep (Nat.le_refl _) (Nat.le_refl _) (fun a b hf => w3 a b (fun p => hf (by unfold free; omega)) (fun p => hf (by unfold free; omega))) Hu
  obtain ⟨ft, hft⟩ : ∃ ft, ft = ftO (h 113) (h 126) (h 127) (h 128) := ⟨_, rfl⟩
  rw [← hft] at g1 g2 w1 w2
  have hD : ∀ r c hh w s, blkIn R C r c hh w → DO ft r c hh w s ≤ FAR := fun r c hh w s b => DO_le ft s (by omega) (by omega)
  have DL := hD 0 0 R C (2 ^ m - 1) (by omega)
  simp only [f_X11_first, f_X12_first, vB_def, g1, Option.bind_some]
  by_cases c0 : DO ft 0 0 R C (2 ^ m - 1) = 0
  · have fc : f_X6_firstCut g (nI (DO ft 0 0 R C (2 ^ m - 1))) = some (-9) := by
      unfold f_X6_firstCut
      rw [if_pos (by rw [c0]; rfl)]
    rw [fc, Option.bind_some]
    refine ⟨_, _, _, f, rfl, (by rw [w1, Option.bind_some]; simp only [c0]; rw [if_pos (show nI 0 = (0 : Int32) from rfl)]), rfl, Hf⟩
  · by_cases cF : DO ft 0 0 R C (2 ^ m - 1) < FAR
    · have fc := k_firstCut g (ft := ft) R1 R2 C1 C2 m1 (by rw [g3 3 3 (by omega) (by omega) (by omega)]; exact f1) (by rw [g3 3 4 (by omega) (by omega) (by omega)]; exact f2) (by rw [g3 41 1 (by omega) (by omega) (by omega)]; exact hC.1) (by rw [g3 41 5 (by omega) (by omega) (by omega)]; exact m2) g2 (by omega) cF
      obtain ⟨Z, z1, z2, z3⟩ := m_bestWire f (Dv := DO ft) (R := R) (C := C) (r := 0) (c := 0) (hh := R) (w := C) (s := 2 ^ m - 1) (S := 2 ^ m) R2 C2 (by omega) (by omega) m16.2 hD (fun x x1 x2 => ⟨w2 _ _ _ _ (by omega), w2 _ _ _ _ (by omega)⟩) (fun x x1 x2 => ⟨w2 _ _ _ _ (by omega), w2 _ _ _ _ (by omega)⟩)
      have Hz : Inv (k + 1) N Z q := Inv_keep (Nat.le_refl _) (Nat.le_refl _) (fun a b hf => z3 a b (fun p => hf (by unfold free; omega))) Hf
      rw [fc, Option.bind_some]
      refine ⟨_, _, (bwZ (DO ft) 0 0 R C (2 ^ m - 1)).2, Z, rfl, ?_, rfl, Hz⟩
      rw [w1, Option.bind_some]
      simp only
      rw [if_neg (nI_ne0 (by omega) (by omega)), if_pos (show nI (DO ft 0 0 R C (2 ^ m - 1)) < 1000000 from nI_lt (b := 1000000) cF (by omega)), w3 111 4 (by omega) (by omega), w3 111 5 (by omega) (by omega), w3 111 26 (by omega) (by omega), uj 4 (by omega), uj 5 (by omega), uj 26 (by omega), f3, f4, m3, shl_nI m (by omega), show (1 : Int32) = nI 1 from rfl, nI_sub (by omega), show f_X12_bestWire f 0 0 (nI R) (nI C) (nI (2 ^ m - 1)) = _ from z1, Option.bind_some]
      show some (Z 111 34, Z) = _
      rw [z2]
    · have eF : DO ft 0 0 R C (2 ^ m - 1) = FAR := by omega
      have fc : f_X6_firstCut g (nI (DO ft 0 0 R C (2 ^ m - 1))) = some (-9) := by
        unfold f_X6_firstCut
        rw [eF, if_neg (by decide), if_neg (by decide)]
      rw [fc, Option.bind_some]
      refine ⟨_, _, _, f, rfl, (by rw [w1, Option.bind_some]; simp only [eF]; rw [if_neg (by decide), if_neg (by decide)]), rfl, Hf⟩
