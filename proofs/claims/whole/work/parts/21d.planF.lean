/-! the plan F -/
theorem k_spot_F (h : Hp) {r c hh w : Nat} (e : h 45 1 = nI 1) (hr : r ≤ 6) (hc : c ≤ 6) (h1 : 1 ≤ hh) (h2 : 1 ≤ w) (h3 : hh ≤ 6) (h4 : w ≤ 6) : f_X8_spotOf_F h (nI r) (nI c) (nI hh) (nI w) = some (nI (1 * spt r c hh w)) := by
  simp only [f_X8_spotOf_F, vB_def, e, st_nI hr h1 h3, st_nI hc h2 h4]
  rw [show (21 : Int32) = nI 21 from rfl, nI_mul, nI_add, nI_mul, ← spt_st, Nat.mul_comm]
theorem k_bothE_F (h : Hp) (a b s e x5 : Int32) (N : Nat) (hx : x5 < 0) : L_X8_bothCost_F_7 h a b s (N + 1) e x5 = some e := by
  rw [L_X8_bothCost_F_7, if_pos hx]
theorem k_bothS_F (h : Hp) {a b s v N x y e : Nat} {x5 : Int32} (hs : s < 16) (ha : a + s < 441) (hb : b + s < 441) (hvs : v ≤ s) (hsub : v &&& s = v) (hx : ¬ x5 < 0) (hm : x5 &&& nI s = nI v) (hA : h 46 (a + v) = nI x) (hB : h 46 (b + (s - v)) = nI y) (hl : x + y < 2147483648) (he : e < 2147483648) : L_X8_bothCost_F_7 h (nI a) (nI b) (nI s) (N + 1) (nI e) x5 = L_X8_bothCost_F_7 h (nI a) (nI b) (nI s) N (nI (min e (x + y))) (nI v + (-1)) := by
  have mn : (if nI e ≤ nI (x + y) then (some (nI e) : Option Int32) else some (nI (x + y))) = some (nI (min e (x + y))) := by
    by_cases c : e ≤ x + y
    · rw [if_pos (nI_le c hl), Nat.min_eq_left c]
    · rw [if_neg (nI_ge (by omega) he), Nat.min_eq_right (by omega)]
  rw [L_X8_bothCost_F_7, if_neg hx, vB_def, hm, xor_nI s hs v (by omega) hsub, nI_add, nI_add, if_pos (inB_nI (show a + v < 441 by omega) (by omega)), if_pos (inB_nI (show b + (s - v) < 441 by omega) (by omega)), ix_nI (by omega), ix_nI (by omega), hA, hB, vB_def, nI_add]
  simp only [vB_def]
  rw [mn, Option.bind_some]
theorem k_bothL_F (h : Hp) {a b s : Nat} (A B : Nat → Nat) (hs : s < 16) (ha : a + s < 441) (hb : b + s < 441) (hA : ∀ p, p ≤ s → h 46 (a + p) = nI (A p) ∧ A p < 1000001) (hB : ∀ p, p ≤ s → h 46 (b + p) = nI (B p) ∧ B p < 1000001) :
    ∀ n v, v ≤ n → v ≤ s → v &&& s = v → ∀ N x5 e, e ≤ FAR → e < 1000001 → v + 1 < N → ¬ x5 < 0 → x5 &&& nI s = nI v → L_X8_bothCost_F_7 h (nI a) (nI b) (nI s) N (nI e) x5 = some (nI (min e (mins (g2 A B s) (v + 1) 0))) := by
  intro n
  induction n with
  | zero =>
    intro v hv hvs hsub N x5 e he hE hN hx hm
    have v0 : v = 0 := by omega
    subst v0
    obtain ⟨N, rfl⟩ : ∃ q, N = q + 1 + 1 := ⟨N - 2, by omega⟩
    obtain ⟨a1, a2⟩ := hA 0 (by omega)
    obtain ⟨b1, b2⟩ := hB (s - 0) (by omega)
    have gv : g2 A B s 0 = A 0 + B (s - 0) := by unfold g2; rw [if_pos hsub]
    rw [k_bothS_F h hs ha hb (by omega) hsub hx hm a1 b1 (by omega) (by omega), k_bothE_F _ _ _ _ _ _ _ (by decide), mins_succ, show mins (g2 A B s) 0 0 = FAR from rfl, Nat.zero_add, gv, Nat.min_comm FAR, ← mn3 he]
  | succ n ih =>
    intro v hv hvs hsub N x5 e he hE hN hx hm
    by_cases v0 : v ≤ n
    · exact ih v v0 hvs hsub N x5 e he hE hN hx hm
    have vn : v = n + 1 := by omega
    obtain ⟨N, rfl⟩ : ∃ q, N = q + 1 := ⟨N - 1, by omega⟩
    obtain ⟨a1, a2⟩ := hA v (by omega)
    obtain ⟨b1, b2⟩ := hB (s - v) (by omega)
    have gv : g2 A B s v = A v + B (s - v) := by unfold g2; rw [if_pos hsub]
    have dec : nI v + (-1) = nI n := by rw [vn, ← Int32.sub_eq_add_neg, nI_pred]
    obtain ⟨n1, n2, n3⟩ := sub_and s hs n (by omega)
    have sk : mins (g2 A B s) v 0 = mins (g2 A B s) ((n &&& s) + 1) 0 := by
      have ev : v = (n &&& s) + 1 + (n - (n &&& s)) := by omega
      rw [ev]
      refine mins_skip (n - (n &&& s)) (fun p h1 h2 => ?_)
      unfold g2
      rw [if_neg (sub_gap s hs v (by omega) hsub p (by omega) (by rw [vn, Nat.add_sub_cancel]; exact h1))]
    have me : min e (A v + B (s - v)) ≤ e := Nat.min_le_left _ _
    rw [k_bothS_F h hs ha hb hvs hsub hx hm a1 b1 (by omega) (by omega), dec, ih (n &&& s) n2 n3 n1 N (nI n) (min e (A v + B (s - v))) (Nat.le_trans me he) (Nat.lt_of_le_of_lt me hE) (by omega) (nI_pos (by omega)) (and_nI n (by omega) s hs), mins_succ (g2 A B s) v 0, Nat.zero_add, gv, sk, Nat.min_assoc, Nat.min_comm (A v + B (s - v))]
theorem k_both_F (h : Hp) {a b s : Nat} (A B : Nat → Nat) (hs : s < 16) (ha : a + s < 441) (hb : b + s < 441) (hA : ∀ p, p ≤ s → h 46 (a + p) = nI (A p) ∧ A p ≤ FAR) (hB : ∀ p, p ≤ s → h 46 (b + p) = nI (B p) ∧ B p ≤ FAR) : f_X8_bothCost_F h (nI a) (nI b) (nI s) = some (nI (mins (g2 A B s) (s + 1) 0)) := by
  have key := k_bothL_F h A B hs ha hb (fun p hp => ⟨(hA p hp).1, Nat.lt_succ_of_le (hA p hp).2⟩) (fun p hp => ⟨(hB p hp).1, Nat.lt_succ_of_le (hB p hp).2⟩) s s (Nat.le_refl _) (Nat.le_refl _) (Nat.and_self s) FU (nI s) FAR (Nat.le_refl _) (Nat.lt_succ_self _) (FU_gt (by omega)) (nI_pos (by omega)) (by rw [and_nI s hs s hs, Nat.and_self])
  simp only [f_X8_bothCost_F, vB_def]
  rw [show L_X8_bothCost_F_7 h (nI a) (nI b) (nI s) FU 1000000 (nI s) = _ from key, Option.bind_some, Nat.min_eq_right (mins_le _ _ _)]
/-- what the row of the costs holds of a block -/
abbrev V_F (Dv : Nat → Nat → Nat → Nat → Nat → Nat) (S : Nat) (T : Hp) (hh w r c : Nat) : Prop := ∀ s, s < S → T 46 (1 * spt r c hh w + s) = nI (Dv r c hh w s)
def pr_F (x : Nat) : Nat := x
theorem k_least_F (h : Hp) {R C r c hh w s S : Nat} {Dv : Nat → Nat → Nat → Nat → Nat → Nat} (hR : R ≤ 6) (hC : C ≤ 6) (e : h 45 1 = nI 1) (b : blkIn R C r c hh w) (hs : s < S) (hS : S ≤ 1) (hD : ∀ r c hh w s, blkIn R C r c hh w → Dv r c hh w s ≤ FAR)
    (V1 : ∀ x, 1 ≤ x → x < hh → V_F Dv S h x w r c ∧ V_F Dv S h (hh - x) w (r + x) c) (V2 : ∀ x, 1 ≤ x → x < w → V_F Dv S h hh x r c ∧ V_F Dv S h hh (w - x) r (c + x)) : f_X8_leastCut_F h (nI r) (nI c) (nI hh) (nI w) (nI s) = some (nI (mG Dv pr_F r c hh w s)) := by
  have FE := FAR_eq
  have hP : pr_F w ≤ 6 ∧ pr_F hh ≤ 6 := by unfold pr_F; omega
  have cc1 : ∀ x, 1 ≤ x → x < hh → f_X8_cutCost_F h (nI r) (nI c) (nI hh) (nI w) 1 (nI x) (nI s) = some (nI (pr_F w + mins (g2 (Dv r c x w) (Dv (r + x) c (hh - x) w) s) (s + 1) 0)) := fun x x1 x2 => by
    have l1 := spt_lt hR hC (show blkIn R C r c x w by omega)
    have l2 := spt_lt hR hC (show blkIn R C (r + x) c (hh - x) w by omega)
    simp only [f_X8_cutCost_F, vB_def]
    rw [if_neg (by decide), nI_add, nI_sub (show x ≤ hh by omega), k_spot_F h e (by omega) (by omega) (by omega) (by omega) (by omega) (by omega), Option.bind_some, k_spot_F h e (by omega) (by omega) (by omega) (by omega) (by omega) (by omega), Option.bind_some, show f_X3_cutPrice (nI w) = some (nI (pr_F w)) from rfl, Option.bind_some,
      k_both_F h (Dv r c x w) (Dv (r + x) c (hh - x) w) (by omega) (by omega) (by omega) (fun p hp => ⟨(V1 x x1 x2).1 p (by omega), hD _ _ _ _ _ (by omega)⟩) (fun p hp => ⟨(V1 x x1 x2).2 p (by omega), hD _ _ _ _ _ (by omega)⟩), Option.bind_some, nI_add]
  have cc2 : ∀ x, 1 ≤ x → x < w → f_X8_cutCost_F h (nI r) (nI c) (nI hh) (nI w) 0 (nI x) (nI s) = some (nI (pr_F hh + mins (g2 (Dv r c hh x) (Dv r (c + x) hh (w - x)) s) (s + 1) 0)) := fun x x1 x2 => by
    have l1 := spt_lt hR hC (show blkIn R C r c hh x by omega)
    have l2 := spt_lt hR hC (show blkIn R C r (c + x) hh (w - x) by omega)
    simp only [f_X8_cutCost_F, vB_def]
    rw [if_pos trivial, nI_add, nI_sub (show x ≤ w by omega), k_spot_F h e (by omega) (by omega) (by omega) (by omega) (by omega) (by omega), Option.bind_some, k_spot_F h e (by omega) (by omega) (by omega) (by omega) (by omega) (by omega), Option.bind_some, show f_X3_cutPrice (nI hh) = some (nI (pr_F hh)) from rfl, Option.bind_some,
      k_both_F h (Dv r c hh x) (Dv r (c + x) hh (w - x)) (by omega) (by omega) (by omega) (fun p hp => ⟨(V2 x x1 x2).1 p (by omega), hD _ _ _ _ _ (by omega)⟩) (fun p hp => ⟨(V2 x x1 x2).2 p (by omega), hD _ _ _ _ _ (by omega)⟩), Option.bind_some, nI_add]
  have mn : ∀ b' v, b' ≤ FAR → v ≤ FAR + 6 → (if nI v < nI b' then nI v else nI b') = nI (min b' v) := fun b' v h1 h2 => by
    by_cases c : v < b'
    · rw [if_pos ((nI_ltI (by omega) (by omega)).mpr c), Nat.min_eq_right (by omega)]
    · rw [if_neg (fun q => c ((nI_ltI (by omega) (by omega)).mp q)), Nat.min_eq_left (by omega)]
  have k7 := lpU (fun N j b' => L_X8_leastCut_F_7 h (nI r) (nI c) (nI hh) (nI w) (nI s) N (nI b') (nI j)) (fun x b' => min b' (pr_F w + mins (g2 (Dv r c x w) (Dv (r + x) c (hh - x) w) s) (s + 1) 0)) hh (fun b' => nI b') (fun j b' => b' ≤ FAR ∧ 1 ≤ j)
    (fun N b' _ => by simp only [L_X8_leastCut_F_7]; rw [if_pos (nI_le (Nat.le_refl _) (by omega))])
    (fun N j b' hj hp => ⟨by
      simp only [L_X8_leastCut_F_7, vB_def]
      have ml := mins_le (g2 (Dv r c j w) (Dv (r + j) c (hh - j) w) s) (s + 1) 0
      rw [if_neg (nI_ge hj (by omega)), cc1 j hp.2 hj, Option.bind_some, mn _ _ hp.1 (by omega), nI_1], by
      have := hp.1
      exact ⟨by omega, by omega⟩⟩)
    (hh - 1) FU 1 FAR (by omega) (FU_gt (by omega)) ⟨Nat.le_refl _, Nat.le_refl _⟩
  have k43 := fun b0 (hb0 : b0 ≤ FAR) => lpU (fun N j b' => L_X8_leastCut_F_43 h (nI r) (nI c) (nI hh) (nI w) (nI s) N (nI b') (nI j)) (fun x b' => min b' (pr_F hh + mins (g2 (Dv r c hh x) (Dv r (c + x) hh (w - x)) s) (s + 1) 0)) w (fun b' => nI b') (fun j b' => b' ≤ FAR ∧ 1 ≤ j)
    (fun N b' _ => by simp only [L_X8_leastCut_F_43]; rw [if_pos (nI_le (Nat.le_refl _) (by omega))])
    (fun N j b' hj hp => ⟨by
      simp only [L_X8_leastCut_F_43, vB_def]
      have ml := mins_le (g2 (Dv r c hh j) (Dv r (c + j) hh (w - j)) s) (s + 1) 0
      rw [if_neg (nI_ge hj (by omega)), cc2 j hp.2 hj, Option.bind_some, mn _ _ hp.1 (by omega), nI_1], by
      have := hp.1
      exact ⟨by omega, by omega⟩⟩)
    (w - 1) FU 1 b0 (by omega) (FU_gt (by omega)) ⟨hb0, Nat.le_refl _⟩
  have e7 := k7.1
  rw [it_mins' (fun x => mins (gO (Dv r c x w) (Dv (r + x) c (hh - x) w) s (pr_F w)) (s + 1) 0) _ _ _ (Nat.le_refl _) (fun x b' _ _ hb' => gO_add _ _ _ _ _ hb')] at e7
  have m1 := mins_le (fun x => mins (gO (Dv r c x w) (Dv (r + x) c (hh - x) w) s (pr_F w)) (s + 1) 0) (hh - 1) 1
  rw [Nat.min_eq_right m1] at e7
  have e43 := (k43 _ m1).1
  rw [it_mins' (fun x => mins (gO (Dv r c hh x) (Dv r (c + x) hh (w - x)) s (pr_F hh)) (s + 1) 0) _ _ _ m1 (fun x b' _ _ hb' => gO_add _ _ _ _ _ hb')] at e43
  simp only [f_X8_leastCut_F, vB_def]
  rw [show L_X8_leastCut_F_7 h (nI r) (nI c) (nI hh) (nI w) (nI s) FU 1000000 1 = _ from e7, Option.bind_some, show ∀ z, L_X8_leastCut_F_43 h (nI r) (nI c) (nI hh) (nI w) (nI s) FU z 1 = L_X8_leastCut_F_43 h (nI r) (nI c) (nI hh) (nI w) (nI s) FU z (nI 1) from fun z => rfl, e43, Option.bind_some]
  rfl
abbrev vdk_F (T : Hp) (Dv : Nat → Nat → Nat → Nat → Nat → Nat) (r c hh w s : Nat) : Prop := ∃ v, f_X3_verdict T (nI r) (nI c) (nI hh) (nI w) (nI s) = some v ∧ (v = -1 ∧ Dv r c hh w s = mG Dv pr_F r c hh w s ∨ ¬ v = -1 ∧ v = nI (Dv r c hh w s))
theorem k_settle_F (h : Hp) {R C r c hh w S : Nat} {Dv : Nat → Nat → Nat → Nat → Nat → Nat} (hR : R ≤ 6) (hC : C ≤ 6) (e : h 45 1 = nI 1) (b : blkIn R C r c hh w) (S1 : 1 ≤ S) (hS : S ≤ 1) (hD : ∀ r c hh w s, blkIn R C r c hh w → Dv r c hh w s ≤ FAR)
    (V1 : ∀ x, 1 ≤ x → x < hh → V_F Dv S h x w r c ∧ V_F Dv S h (hh - x) w (r + x) c) (V2 : ∀ x, 1 ≤ x → x < w → V_F Dv S h hh x r c ∧ V_F Dv S h hh (w - x) r (c + x))
    (vd : ∀ T s, (∀ k, k ≠ 46 → T k = h k) → s < S → vdk_F T Dv r c hh w s) :
    ∃ h', f_X8_settle_F h (nI r) (nI c) (nI hh) (nI w) (nI (S - 1)) = some h' ∧ V_F Dv S h' hh w r c ∧ (∀ j, ¬ (1 * spt r c hh w ≤ j ∧ j < 1 * spt r c hh w + 1) → h' 46 j = h 46 j) ∧ ∀ k, k ≠ 46 → h' k = h k := by
  have l0 := spt_lt hR hC b
  have oth : ∀ (T : Hp) hh' w' r' c', blkIn R C r' c' hh' w' → ¬ (hh = hh' ∧ w = w' ∧ r = r' ∧ c = c') → (∀ j, ¬ (1 * spt r c hh w ≤ j ∧ j < 1 * spt r c hh w + 1) → T 46 j = h 46 j) → V_F Dv S h hh' w' r' c' → V_F Dv S T hh' w' r' c' := fun T hh' w' r' c' b' ne hT hV s hs => by
    have ns : spt r c hh w ≠ spt r' c' hh' w' := fun q => ne (spt_inj hR hC b b' q)
    rw [hT _ (by omega)]
    exact hV s hs
  obtain ⟨T', q1, q2, q3, q4⟩ := lpE (fun N j T => L_X8_settle_F_14 (nI r) (nI c) (nI hh) (nI w) (nI (S - 1)) (nI (1 * spt r c hh w)) N (nI j) T) S id
    (fun j T => (∀ s, s < j → T 46 (1 * spt r c hh w + s) = nI (Dv r c hh w s)) ∧ (∀ j, ¬ (1 * spt r c hh w ≤ j ∧ j < 1 * spt r c hh w + 1) → T 46 j = h 46 j) ∧ ∀ k, k ≠ 46 → T k = h k)
    (fun N T hP => by simp only [L_X8_settle_F_14]; rw [if_pos (nI_lt (by omega) (by omega))]; rfl)
    (fun N j T hj hP => by
      obtain ⟨p1, p2, p3⟩ := hP
      obtain ⟨v, v1, v2⟩ := vd T j p3 hj
      have lc := k_least_F T (R := R) (C := C) (r := r) (c := c) (hh := hh) (w := w) (s := j) (S := S) (Dv := Dv) hR hC (by rw [p3 45 (by omega)]; exact e) b hj hS hD
        (fun x x1 x2 => ⟨oth T _ _ _ _ (by omega) (by omega) p2 (V1 x x1 x2).1, oth T _ _ _ _ (by omega) (by omega) p2 (V1 x x1 x2).2⟩) (fun x x1 x2 => ⟨oth T _ _ _ _ (by omega) (by omega) p2 (V2 x x1 x2).1, oth T _ _ _ _ (by omega) (by omega) p2 (V2 x x1 x2).2⟩)
      have val : (if v = -1 then (f_X8_leastCut_F T (nI r) (nI c) (nI hh) (nI w) (nI j)).bind (fun u_10 => some u_10) else some v) = some (nI (Dv r c hh w j)) := by
        rcases v2 with ⟨a1, a2⟩ | ⟨a1, a2⟩
        · rw [if_pos a1, lc, Option.bind_some, a2]
        · rw [if_neg a1, a2]
      simp only [L_X8_settle_F_14, vB_def]
      rw [if_neg (nI_nlt (by omega) (by omega)), v1, Option.bind_some, val, Option.bind_some, nI_add, if_pos (inB_nI (show 1 * spt r c hh w + j < 441 by omega) (by omega)), ix_nI (by omega), nI_1]
      refine ⟨_, rfl, ?_, ?_, ?_⟩
      · intro s hs
        by_cases es : s = j
        · subst es; rw [u2_at, if_pos ⟨rfl, rfl⟩]
        · rw [u2_at, if_neg (by omega), p1 s (by omega)]
      · intro t ht
        rw [u2_at, if_neg (by omega), p2 t ht]
      · intro k hk
        rw [u2_ne _ _ _ hk, p3 k hk])
    S FU 0 h (by omega) (FU_gt (by omega)) ⟨fun s hs => absurd hs (by omega), fun j _ => rfl, fun k _ => rfl⟩
  refine ⟨T', ?_, q2, q3, q4⟩
  simp only [f_X8_settle_F, vB_def]
  rw [k_spot_F h e (by omega) (by omega) (by omega) (by omega) (by omega) (by omega), Option.bind_some, show L_X8_settle_F_14 (nI r) (nI c) (nI hh) (nI w) (nI (S - 1)) (nI (1 * spt r c hh w)) FU 0 h = some T' from q1, Option.bind_some]
theorem k_workOut_F (h : Hp) {R C S : Nat} {Dv : Nat → Nat → Nat → Nat → Nat → Nat} (hR : R ≤ 6) (hC : C ≤ 6) (e3 : h 3 3 = nI R) (e4 : h 3 4 = nI C) (e : h 45 1 = nI 1) (S1 : 1 ≤ S) (hS : S ≤ 1) (hD : ∀ r c hh w s, blkIn R C r c hh w → Dv r c hh w s ≤ FAR)
    (vd : ∀ T r c hh w s, (∀ k, k ≠ 46 → T k = h k) → blkIn R C r c hh w → s < S → vdk_F T Dv r c hh w s) :
    ∃ h', f_X8_workOut_F h (nI (S - 1)) = some h' ∧ (∀ hh w r c, blkIn R C r c hh w → V_F Dv S h' hh w r c) ∧ ∀ k, k ≠ 46 → h' k = h k := by
  obtain ⟨h', q1, q2, q3⟩ := nest4 hR hC (V_F Dv S) (fun T => ∀ k, k ≠ 46 → T k = h k)
    (fun N hh T => L_X8_workOut_F_2 (nI (S - 1)) N (nI hh) T) (fun hh N w T => L_X8_workOut_F_15 (nI (S - 1)) (nI hh) N (nI w) T) (fun hh w N r T => L_X8_workOut_F_29 (nI (S - 1)) (nI hh) (nI w) N (nI r) T) (fun hh w r N c T => L_X8_workOut_F_46 (nI (S - 1)) (nI hh) (nI w) (nI r) N (nI c) T)
    (fun N T hT => by simp only [L_X8_workOut_F_2]; rw [hT 3 (by omega), e3, if_pos (nI_lt (by omega) (by omega))])
    (fun N hh T h1 hT => by simp only [L_X8_workOut_F_2, vB_def]; rw [hT 3 (by omega), e3, if_neg (nI_nlt h1 (by omega)), nI_1]; rfl)
    (fun hh N T hT => by simp only [L_X8_workOut_F_15]; rw [hT 3 (by omega), e4, if_pos (nI_lt (by omega) (by omega))])
    (fun hh N w T h1 hT => by simp only [L_X8_workOut_F_15, vB_def]; rw [hT 3 (by omega), e4, if_neg (nI_nlt h1 (by omega)), nI_1]; rfl)
    (fun hh w N T h1 h2 hT => by simp only [L_X8_workOut_F_29]; rw [hT 3 (by omega), e3, nI_sub h2, if_pos (nI_lt (by omega) (by omega))])
    (fun hh w N r T h1 hT => by simp only [L_X8_workOut_F_29, vB_def]; rw [hT 3 (by omega), e3, nI_sub (by omega), if_neg (nI_nlt (by omega) (by omega)), nI_1]; rfl)
    (fun hh w r N T h1 h2 hT => by simp only [L_X8_workOut_F_46]; rw [hT 3 (by omega), e4, nI_sub h2, if_pos (nI_lt (by omega) (by omega))])
    (fun hh w r N c T b zq => by
      obtain ⟨T', t1, t2, t3, t4⟩ := k_settle_F T (R := R) (C := C) (r := r) (c := c) (hh := hh) (w := w) (S := S) (Dv := Dv) hR hC (by rw [zq.2 45 (by omega)]; exact e) b S1 hS hD
        (fun x x1 x2 => ⟨zq.1 _ _ _ _ (by omega) (by omega), zq.1 _ _ _ _ (by omega) (by omega)⟩) (fun x x1 x2 => ⟨zq.1 _ _ _ _ (by omega) (by omega), zq.1 _ _ _ _ (by omega) (by omega)⟩)
        (fun U s hU hs => vd U r c hh w s (fun k hk => by rw [hU k hk, zq.2 k hk]) b hs)
      have up : (if nI 1 - 1 < nI (S - 1) then nI 1 - 1 else nI (S - 1)) = nI (S - 1) := by
        rw [show (1 : Int32) = nI 1 from rfl, nI_sub (by omega), if_neg (nI_nlt (by omega) (by omega))]
      have w3 : T 3 4 = nI C := by rw [zq.2 3 (by omega)]; exact e4
      have wp : T 45 1 = nI 1 := by rw [zq.2 45 (by omega)]; exact e
      simp only [L_X8_workOut_F_46, vB_def, w3, wp]
      rw [nI_sub (by omega), if_neg (nI_nlt (by omega) (by omega)), up, t1, Option.bind_some, nI_1]
      refine ⟨T', rfl, fun k hk => by rw [t4 k hk, zq.2 k hk], t2, fun hh' w' r' c' b' ne hV s hs => ?_⟩
      have ns : spt r c hh w ≠ spt r' c' hh' w' := fun z => ne (by have := spt_inj hR hC b b' z; omega)
      rw [t3 _ (by omega)]
      exact hV s hs)
    h (fun k _ => rfl)
  refine ⟨h', ?_, q2, q3⟩
  simp only [f_X8_workOut_F, vB_def]
  rw [show L_X8_workOut_F_2 (nI (S - 1)) FU 1 h = some h' from q1, Option.bind_some]
theorem k_costOfAll_F (h : Hp) {R C s S : Nat} {Dv : Nat → Nat → Nat → Nat → Nat → Nat} (hR : R ≤ 6) (hC : C ≤ 6) (R1 : 1 ≤ R) (C1 : 1 ≤ C) (e3 : h 3 3 = nI R) (e4 : h 3 4 = nI C) (e : h 45 1 = nI 1) (hs : s < S) (hS : S ≤ 1) (V : V_F Dv S h R C 0 0) : f_X8_costOfAll_F h (nI s) = some (nI (Dv 0 0 R C s)) := by
  have l0 := spt_lt hR hC (show blkIn R C 0 0 R C by omega)
  simp only [f_X8_costOfAll_F]
  rw [e3, e4, show f_X8_spotOf_F h 0 0 (nI R) (nI C) = _ from k_spot_F h (r := 0) (c := 0) e (by omega) (by omega) R1 C1 hR hC, Option.bind_some, nI_add, if_pos (inB_nI (show 1 * spt 0 0 R C + s < 441 by omega) (by omega)), ix_nI (by omega), V s hs]
