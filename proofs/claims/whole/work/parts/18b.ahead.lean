/-! two asks ahead: the component's side -/
theorem k_lw17 (h : Hp) {A a1 R C r c hh w : Nat} {K : Nat → Int32} {x3 : Int32} (hA : 137 ≤ A) (h8 : a1 ≠ 38) (h9 : a1 ≠ 39) (hR : R ≤ 6) (hC : C ≤ 6) (hs5 : sums (h 5) (fun i => wtN (K i)) R C) (hs6 : sums (h 6) (fun i => rdN 1 (K i)) R C) (ok : okP K R C (crow h a1) r c hh w) (x0 : ¬ x3 = 0) :
    ∃ h', L_X9_laterWire_17 a1 A x3 FU 1000000 0 h = some (nI (mnc K (crow h a1) (h A 0) (h A 1) (h A 2)), h') ∧ ∀ k, k ≠ 38 → k ≠ 39 → h' k = h k := by
  have l2 : 1 ≤ hh := ok.2.2.2.2.1
  have l3 : 1 ≤ w := ok.2.2.2.2.2.1
  have l0 : r + hh ≤ R := ok.2.2.2.2.2.2.1
  have l1 : c + w ≤ C := ok.2.2.2.2.2.2.2.1
  have FE := FAR_eq
  have i2 : ix (crow h a1 2) = hh := by rw [ok.2.2.1, ix_nI (by omega)]
  have i3 : ix (crow h a1 3) = w := by rw [ok.2.2.2.1, ix_nI (by omega)]
  obtain ⟨⟨b', T'⟩, q1, ⟨e', q2, q4, q5⟩, q3⟩ := lpE (fun N j (a : Int32 × Hp) => L_X9_laterWire_17 a1 A x3 N a.1 (nI j) a.2) (hh - 1 + (w - 1)) id
    (fun j a => (∃ e, e ≤ FAR ∧ a.1 = nI e ∧ e = it (fun j e => min e (cv K (crow h a1) (h A 0) (h A 1) (h A 2) (cA hh j) (cE hh w j) (cX hh j))) j 0 FAR) ∧ ∀ k, k ≠ 38 → k ≠ 39 → a.2 k = h k)
    (fun N a hP => by
      have c1 : crow a.2 a1 = crow h a1 := crow_keep (fun t => by rw [hP.2 _ h8 h9])
      have e2 : a.2 a1 2 = nI hh := by rw [← crow_at a.2 _ (show 2 < 13 by omega), c1]; exact ok.2.2.1
      have e3 : a.2 a1 3 = nI w := by rw [← crow_at a.2 _ (show 3 < 13 by omega), c1]; exact ok.2.2.2.1
      simp only [L_X9_laterWire_17]
      rw [k_cuts _ e2 e3 l2 l3, Option.bind_some, if_pos (nI_le (Nat.le_refl _) (by omega))]; rfl)
    (fun N j a hj hP => by
      obtain ⟨b, T⟩ := a
      obtain ⟨⟨e, p0, p1, p3⟩, p2⟩ := hP
      simp only at p1 p2
      have c1 : crow T a1 = crow h a1 := crow_keep (fun t => by rw [p2 _ h8 h9])
      have e2 : T a1 2 = nI hh := by rw [← crow_at T _ (show 2 < 13 by omega), c1]; exact ok.2.2.1
      have e3 : T a1 3 = nI w := by rw [← crow_at T _ (show 3 < 13 by omega), c1]; exact ok.2.2.2.1
      have hx := cX_ok (w := w) l2 hj
      have E6 : cE hh w j ≤ 6 := by unfold cE; split <;> omega
      have js : it (fun j e => min e (cv K (crow h a1) (h A 0) (h A 1) (h A 2) (cA hh j) (cE hh w j) (cX hh j))) (j + 1) 0 FAR = min e (cv K (crow h a1) (h A 0) (h A 1) (h A 2) (cA hh j) (cE hh w j) (cX hh j)) := by rw [it_succ, Nat.zero_add, ← p3]
      simp only [L_X9_laterWire_17, vB_def, vK]
      rw [k_cuts _ e2 e3 l2 l3, Option.bind_some, if_neg (nI_ge hj (by omega)), if_neg x0, k_cutEdges T j e2 e3 l2 (by omega) (by omega), Option.bind_some, nI_1, p1]
      by_cases ce : e ≤ cE hh w j
      · refine ⟨(nI e, T), ?_, ⟨e, p0, rfl, ?_⟩, p2⟩
        · rw [if_pos (nI_le ce (by omega)), Option.bind_some]
        · rw [js]
          unfold cv
          split <;> omega
      · obtain ⟨u, u1, u2', u3, u4⟩ := k_part T (a0 := a1) (a4 := 38) (a5 := 39) (by omega) (by omega) (by omega) (by omega) (by omega) hR hC (K := K) (by rw [p2 5 (by omega) (by omega)]; exact hs5) (by rw [p2 6 (by omega) (by omega)]; exact hs6) (by rw [c1]; exact ok) hx
        rw [c1] at u2' u3
        have f2 : u a1 2 = nI hh := by rw [u4 _ (by omega) (by omega)]; exact e2
        have f3 : u a1 3 = nI w := by rw [u4 _ (by omega) (by omega)]; exact e3
        have uA : u A = h A := by rw [u4 A (by omega) (by omega), p2 A (by omega) (by omega)]
        have fr : ∀ k, k ≠ 38 → k ≠ 39 → u k = h k := fun k h1 h2 => by rw [u4 k h1 h2, p2 k h1 h2]
        rw [if_neg (fun q => ce ((nI_leI (by omega) (by omega)).mp q)), k_isAcross T j e2 l2 (by omega) (by omega), Option.bind_some, k_cutAt T j e2 l2 (by omega) (by omega), Option.bind_some, u1, Option.bind_some]
        simp only [k_served, u2', u3, uA, Option.bind_some, k_cutEdges u j f2 f3 l2 (show hh ≤ 6 by omega) (show j < 20 by omega)]
        rw [js]
        unfold cv
        by_cases sa : srv (ah K (cA hh j) (crow h a1) (cX hh j)) (h A 0) (h A 1) (h A 2)
        · refine ⟨(nI (cE hh w j), u), ?_, ⟨cE hh w j, by omega, rfl, ?_⟩, fr⟩
          · simp only [if_pos sa, show ¬ (1 : Int32) = 0 by decide, if_false, Option.bind_some]
          · rw [if_pos (Or.inl sa)]; omega
        · by_cases sb : srv (bh K (cA hh j) (crow h a1) (cX hh j)) (h A 0) (h A 1) (h A 2)
          · refine ⟨(nI (cE hh w j), u), ?_, ⟨cE hh w j, by omega, rfl, ?_⟩, fr⟩
            · simp only [if_neg sa, if_pos sb, show ¬ (1 : Int32) = 0 by decide, if_false, if_true, Option.bind_some]
            · rw [if_pos (Or.inr sb)]; omega
          · refine ⟨(nI e, u), ?_, ⟨e, p0, rfl, ?_⟩, fr⟩
            · simp only [if_neg sa, if_neg sb, if_true, Option.bind_some]
            · rw [if_neg (fun q => q.elim sa sb)]; omega)
    (hh - 1 + (w - 1)) FU 0 (1000000, h) (by omega) (FU_gt (by omega)) ⟨⟨FAR, Nat.le_refl _, rfl, rfl⟩, fun k _ _ => rfl⟩
  refine ⟨T', ?_, q3⟩
  simp only at q1 q4
  rw [q4, q5] at q1
  have e : it (fun j e => min e (cv K (crow h a1) (h A 0) (h A 1) (h A 2) (cA hh j) (cE hh w j) (cX hh j))) (hh - 1 + (w - 1)) 0 FAR = mnc K (crow h a1) (h A 0) (h A 1) (h A 2) := by
    have t := it_two (fun x e => min e (cv K (crow h a1) (h A 0) (h A 1) (h A 2) 1 w x)) (fun x e => min e (cv K (crow h a1) (h A 0) (h A 1) (h A 2) 0 hh x)) (hh := hh) (w := w) l2 FAR
    have t2 : it (fun j e => min e (cv K (crow h a1) (h A 0) (h A 1) (h A 2) (cA hh j) (cE hh w j) (cX hh j))) (hh - 1 + (w - 1)) 0 FAR = it (fun j e => if j + 1 < hh then min e (cv K (crow h a1) (h A 0) (h A 1) (h A 2) 1 w (j + 1)) else min e (cv K (crow h a1) (h A 0) (h A 1) (h A 2) 0 hh (j + 2 - hh))) (hh - 1 + (w - 1)) 0 FAR := it_congr _ _ _ (fun j e _ _ => by
      unfold cA cE cX
      by_cases c : j + 1 < hh
      · simp only [if_pos c]
      · simp only [if_neg c])
    rw [t2, t]
    have m1 := mins_le (cv K (crow h a1) (h A 0) (h A 1) (h A 2) 1 w) (hh - 1) 1
    have m2 := mins_le (cv K (crow h a1) (h A 0) (h A 1) (h A 2) 0 hh) (w - 1) 1
    rw [it_mins (cv K (crow h a1) (h A 0) (h A 1) (h A 2) 1 w) _ _ _ (Nat.le_refl _), it_mins (cv K (crow h a1) (h A 0) (h A 1) (h A 2) 0 hh) _ _ _ (by omega)]
    unfold mnc
    rw [i2, i3]
    omega
  rw [e] at q1
  exact q1
theorem k_laterWire (h : Hp) {A a1 R C : Nat} {K : Nat → Int32} (x3 : Int32) (hA : 137 ≤ A) (h8 : a1 ≠ 38) (h9 : a1 ≠ 39) (hR : R ≤ 6) (hC : C ≤ 6) (hs5 : sums (h 5) (fun i => wtN (K i)) R C) (hs6 : sums (h 6) (fun i => rdN 1 (K i)) R C) (ok : okQ K R C (crow h a1)) :
    ∃ h', f_X9_laterWire h a1 A x3 = some (nI (wv K x3 (crow h a1) (h A 0) (h A 1) (h A 2)), h') ∧ ∀ k, k ≠ 38 → k ≠ 39 → h' k = h k := by
  obtain ⟨r, c, hh, w, ok⟩ := ok
  simp only [f_X9_laterWire, vB_def, k_served, Option.bind_some]
  unfold wv
  by_cases s : srv (crow h a1) (h A 0) (h A 1) (h A 2)
  · simp only [if_pos s, show ¬ (1 : Int32) = 0 by decide, if_false]
    exact ⟨h, rfl, fun k _ _ => rfl⟩
  · simp only [if_neg s, if_true]
    by_cases x0 : x3 = 0
    · refine ⟨h, ?_, fun k _ _ => rfl⟩
      have l2 : 1 ≤ hh := ok.2.2.2.2.1
      have l3 : 1 ≤ w := ok.2.2.2.2.2.1
      have e2 : h a1 2 = nI hh := by rw [← crow_at h _ (show 2 < 13 by omega)]; exact ok.2.2.1
      have e3 : h a1 3 = nI w := by rw [← crow_at h _ (show 3 < 13 by omega)]; exact ok.2.2.2.1
      obtain ⟨F, hF⟩ : ∃ F, FU = F + 1 := ⟨1999, rfl⟩
      rw [hF]
      simp only [L_X9_laterWire_17]
      rw [k_cuts _ e2 e3 l2 l3, Option.bind_some, if_pos x0, ite_self, Option.bind_some, if_pos x0]
      rfl
    · obtain ⟨h', e1, e2⟩ := k_lw17 h hA h8 h9 hR hC hs5 hs6 ok x0
      rw [e1, Option.bind_some, if_neg x0]
      exact ⟨h', rfl, e2⟩
theorem k_elsewhere (h : Hp) {n k : Nat} (x2 : Int32) (wf : Nat → Nat) (hn : n ≤ 24) (hk : k < 24) (e : h 7 3 = nI n) (hw : ∀ i, i < n → h 40 i = nI (wf i) ∧ wf i ≤ FAR) : f_X9_laterWireElsewhere h (nI k) x2 = some (nI (mins (fun i => if i = k then FAR else if x2 = 0 ∧ wf i ≠ 0 then FAR else wf i) n 0)) := by
  have FE := FAR_eq
  have key := lpU (fun N j b => L_X9_laterWireElsewhere_6 h (nI k) x2 N (nI b) (nI j)) (fun i b => min b (if i = k then FAR else if x2 = 0 ∧ wf i ≠ 0 then FAR else wf i)) n (fun b => nI b) (fun _ b => b ≤ FAR)
    (fun N a _ => by simp only [L_X9_laterWireElsewhere_6, e]; rw [if_pos (nI_le (Nat.le_refl n) (by omega))])
    (fun N j b hj hb => ⟨by
      obtain ⟨w1, w2⟩ := hw j hj
      have mn : (if nI (wf j) < nI b then nI (wf j) else nI b) = nI (min b (wf j)) := by
        by_cases c : wf j < b
        · rw [if_pos ((nI_ltI (by omega) (by omega)).mpr c), Nat.min_eq_right (by omega)]
        · rw [if_neg (fun q => c ((nI_ltI (by omega) (by omega)).mp q)), Nat.min_eq_left (by omega)]
      simp only [L_X9_laterWireElsewhere_6, e, vB_def, vK]
      rw [if_neg (nI_ge hj (by omega)), if_pos (inB_nI (show j < 24 by omega) (by omega)), ix_nI (by omega), w1, mn, nI_1]
      by_cases c : j = k
      · rw [if_pos (by rw [c]), if_pos c, Option.bind_some, Nat.min_eq_left hb]
      · rw [if_neg (fun q => c ((nI_eq (by omega) (by omega)).mp q)), if_neg c]
        by_cases c2 : x2 = 0
        · rw [if_pos c2]
          by_cases c3 : wf j = 0
          · rw [if_pos (show nI (wf j) = 0 by rw [c3]; rfl), if_neg (fun q => q.2 c3), Option.bind_some]
          · rw [if_neg (nI_ne0 (by omega) (by omega)), if_pos ⟨c2, c3⟩, Option.bind_some, Nat.min_eq_left hb]
        · rw [if_neg c2, if_neg (fun q => c2 q.1), Option.bind_some], by
      show min b _ ≤ FAR
      omega⟩)
    n FU 0 FAR (by omega) (FU_gt (by omega)) (Nat.le_refl _)
  simp only [f_X9_laterWireElsewhere, vB_def]
  rw [show L_X9_laterWireElsewhere_6 h (nI k) x2 FU 1000000 0 = _ from key.1, Option.bind_some, it_mins _ _ _ _ (Nat.le_refl _), Nat.min_eq_right (mins_le _ _ _)]
theorem k_weighWay (h : Hp) (way wire : Int32) : ∃ h', f_X9_weighWay h way wire = some h' ∧ (h' 35 7, h' 35 8) = kpt way wire (h 35 7, h 35 8) ∧ ∀ k, k ≠ 35 → h' k = h k := by
  unfold f_X9_weighWay kpt
  by_cases c : h 35 7 ≤ wire
  · rw [if_pos c, if_pos c]
    exact ⟨h, rfl, rfl, fun k _ => rfl⟩
  · rw [if_neg c, if_neg c]
    refine ⟨_, rfl, ?_, fun k hk => by rw [u2_ne _ _ _ hk, u2_ne _ _ _ hk]⟩
    simp [u2_at]
theorem k_tryIn (h : Hp) {A A' i n R C r c hh w : Nat} {K : Nat → Int32} {ag : Int32} {B : Nat → Pr} {a m b l v : Int32} (hA : 137 ≤ A) (hA' : 137 ≤ A') (hi : i < 24) (hR : R ≤ 6) (hC : C ≤ 6) (hs5 : sums (h 5) (fun i => wtN (K i)) R C) (hs6 : sums (h 6) (fun i => rdN 1 (K i)) R C) (eB : crow h (10 + i) = B i) (ok : okP K R C (B i) r c hh w)
    (a0 : h A 0 = a) (a1 : h A 1 = m) (a2 : h A 2 = v) (b0 : h A' 0 = b) (b1 : h A' 1 = l) (b2 : h A' 2 = v) (eag : ag = if n + 1 = 24 then 0 else 1) :
    ∃ h', L_X9_tryCuts_44 (nI i) A A' (10 + i) ag (nI (els K ag B i n b l v)) FU 0 h = some h' ∧ (h' 35 7, h' 35 8) = twp K B n a m b l v i (h 35 7, h 35 8) ∧ ∀ k, ¬ (35 ≤ k ∧ k ≤ 39) → h' k = h k := by
  have l2 : 1 ≤ hh := ok.2.2.2.2.1
  have l3 : 1 ≤ w := ok.2.2.2.2.2.1
  have l0 : r + hh ≤ R := ok.2.2.2.2.2.2.1
  have l1 : c + w ≤ C := ok.2.2.2.2.2.2.2.1
  have FE := FAR_eq
  have EL := els_le K ag B i n b l v
  have i2 : ix (B i 2) = hh := by rw [ok.2.2.1, ix_nI (by omega)]
  have i3 : ix (B i 3) = w := by rw [ok.2.2.2.1, ix_nI (by omega)]
  obtain ⟨T', q1, q2, q3⟩ := lpE (fun N j T => L_X9_tryCuts_44 (nI i) A A' (10 + i) ag (nI (els K ag B i n b l v)) N (nI j) T) (hh - 1 + (w - 1)) id
    (fun j T => (T 35 7, T 35 8) = it (fun j s => if j + 1 < hh then twx K B n a m b l v i 0 w (j + 1) s else twx K B n a m b l v i 1 hh (j + 2 - hh) s) j 0 (h 35 7, h 35 8) ∧ ∀ k, ¬ (35 ≤ k ∧ k ≤ 39) → T k = h k)
    (fun N T hP => by
      have c1 : crow T (10 + i) = B i := by rw [← eB]; exact crow_keep (fun t => by rw [hP.2 _ (by omega)])
      have e2 : T (10 + i) 2 = nI hh := by rw [← crow_at T _ (show 2 < 13 by omega), c1]; exact ok.2.2.1
      have e3 : T (10 + i) 3 = nI w := by rw [← crow_at T _ (show 3 < 13 by omega), c1]; exact ok.2.2.2.1
      simp only [L_X9_tryCuts_44]
      rw [k_cuts _ e2 e3 l2 l3, Option.bind_some, if_pos (nI_le (Nat.le_refl _) (by omega))]; rfl)
    (fun N j T hj hP => by
      obtain ⟨p1, p2⟩ := hP
      have c1 : crow T (10 + i) = B i := by rw [← eB]; exact crow_keep (fun t => by rw [p2 _ (by omega)])
      have e2 : T (10 + i) 2 = nI hh := by rw [← crow_at T _ (show 2 < 13 by omega), c1]; exact ok.2.2.1
      have e3 : T (10 + i) 3 = nI w := by rw [← crow_at T _ (show 3 < 13 by omega), c1]; exact ok.2.2.2.1
      have hx := cX_ok (w := w) l2 hj
      have oa := ah_ok hR hC ok hx
      have ob := bh_ok hR hC ok hx
      obtain ⟨E, hE⟩ : ∃ E, E = cE hh w j := ⟨_, rfl⟩
      obtain ⟨X, hX⟩ : ∃ X, X = cX hh j := ⟨_, rfl⟩
      obtain ⟨d, hd⟩ : ∃ d, d = cD hh j := ⟨_, rfl⟩
      have hdA : cA hh j = dA d := by rw [hd]; unfold cA cD dA; split <;> rfl
      have E6 : E ≤ 6 := by rw [hE]; unfold cE; split <;> omega
      have js : it (fun j s => if j + 1 < hh then twx K B n a m b l v i 0 w (j + 1) s else twx K B n a m b l v i 1 hh (j + 2 - hh) s) (j + 1) 0 (h 35 7, h 35 8) = tw2 K B n a m b l v i d E X 1 (tw2 K B n a m b l v i d E X 0 (T 35 7, T 35 8)) := by
        rw [it_succ, Nat.zero_add, ← p1, hE, hX, hd]
        unfold cE cX cD
        by_cases c : j + 1 < hh
        · simp only [if_pos c]; rfl
        · simp only [if_neg c]; rfl
      obtain ⟨u, u1, u2', u3, u4⟩ := k_part T (a0 := 10 + i) (a4 := 36) (a5 := 37) (by omega) (by omega) (by omega) (by omega) (by omega) hR hC (K := K) (by rw [p2 5 (by omega)]; exact hs5) (by rw [p2 6 (by omega)]; exact hs6) (by rw [c1]; exact ok) hx
      rw [c1, hdA, ← hX] at u2' u3
      rw [hdA, ← hX] at oa ob
      have fr : ∀ k, ¬ (35 ≤ k ∧ k ≤ 39) → u k = h k := fun k hk => by rw [u4 k (by omega) (by omega), p2 k hk]
      have u35 : ∀ t, u 35 t = T 35 t := fun t => by rw [u4 35 (by omega) (by omega)]
      simp only [L_X9_tryCuts_44, vB_def]
      rw [k_cuts _ e2 e3 l2 l3, Option.bind_some, if_neg (nI_ge hj (by omega)), k_cutEdges T j e2 e3 l2 (by omega) (by omega), Option.bind_some, k_isAcross T j e2 l2 (by omega) (by omega), Option.bind_some, k_cutAt T j e2 l2 (by omega) (by omega), Option.bind_some, u1, Option.bind_some, nI_1, ← hE]
      -- one half: given a heap U with the parts laid, by part y (36, 37) served, the other z
      have half : ∀ (U : Hp) (e y z : Nat), (e = 0 ∧ y = 36 ∧ z = 37 ∨ e = 1 ∧ y = 37 ∧ z = 36) → (∀ k, ¬ (35 ≤ k ∧ k ≤ 39) → U k = h k) → crow U 36 = ah K (dA d) (B i) X → crow U 37 = bh K (dA d) (B i) X →
          ∃ V, ((f_X0_isServedBy U A y).bind fun u_16 => if u_16 = 0 then some U else (f_X9_laterWire U z A' ag).bind fun u_18 => (f_X9_told u_18.2 (nI i) (nI j) (nI e)).bind fun u_20 => (f_X9_weighWay u_18.2 (100000 + u_20) (nI E + if u_18.1 < nI (els K ag B i n b l v) then u_18.1 else nI (els K ag B i n b l v))).bind fun u_21 => some u_21) = some V ∧ (V 35 7, V 35 8) = tw2 K B n a m b l v i d E X e (U 35 7, U 35 8) ∧ (∀ k, ¬ (35 ≤ k ∧ k ≤ 39) → V k = h k) ∧ crow V 36 = ah K (dA d) (B i) X ∧ crow V 37 = bh K (dA d) (B i) X := by
        intro U e y z hey hU h36 h37
        have cy : crow U y = pt K (dA d) (B i) X (nI e) := by
          rcases hey with ⟨rfl, rfl, rfl⟩ | ⟨rfl, rfl, rfl⟩
          · exact h36
          · exact h37
        have cz : crow U z = pt K (dA d) (B i) X (nI (1 - e)) := by
          rcases hey with ⟨rfl, rfl, rfl⟩ | ⟨rfl, rfl, rfl⟩
          · exact h37
          · exact h36
        have okz : okQ K R C (crow U z) := by
          rcases hey with ⟨rfl, rfl, rfl⟩ | ⟨rfl, rfl, rfl⟩
          · rw [h37]; exact ⟨_, _, _, _, ob⟩
          · rw [h36]; exact ⟨_, _, _, _, oa⟩
        rw [k_served, Option.bind_some, cy, hU A (by omega), a0, a1, a2]
        unfold tw2
        by_cases s : srv (pt K (dA d) (B i) X (nI e)) a m v
        · simp only [if_pos s, show ¬ (1 : Int32) = 0 by decide, if_false]
          obtain ⟨V, v1, v2⟩ := k_laterWire U (A := A') (a1 := z) (K := K) ag hA' (by omega) (by omega) hR hC (by rw [hU 5 (by omega)]; exact hs5) (by rw [hU 6 (by omega)]; exact hs6) okz
          rw [v1, Option.bind_some, cz, hU A' (by omega), b0, b1, b2]
          have vi : V (10 + i) 2 = nI hh := by
            rw [v2 _ (by omega) (by omega), hU _ (by omega), ← crow_at h _ (show 2 < 13 by omega), eB]; exact ok.2.2.1
          have WL := wv_le K ag (pt K (dA d) (B i) X (nI (1 - e))) b l v
          have mn : (nI E + if nI (wv K ag (pt K (dA d) (B i) X (nI (1 - e))) b l v) < nI (els K ag B i n b l v) then nI (wv K ag (pt K (dA d) (B i) X (nI (1 - e))) b l v) else nI (els K ag B i n b l v)) = nI (E + min (els K ag B i n b l v) (wv K ag (pt K (dA d) (B i) X (nI (1 - e))) b l v)) := by
            generalize wv K ag (pt K (dA d) (B i) X (nI (1 - e))) b l v = W at *
            generalize els K ag B i n b l v = G at *
            by_cases c : W < G
            · rw [if_pos ((nI_ltI (by omega) (by omega)).mpr c), nI_add, Nat.min_eq_right (by omega)]
            · rw [if_neg (fun q => c ((nI_ltI (by omega) (by omega)).mp q)), nI_add, Nat.min_eq_left (by omega)]
          simp only [mn, k_told V j (nI e) hi vi l2 (show hh ≤ 6 by omega) (show j < 20 by omega), Option.bind_some, ← hd, ← hX]
          have te : (if nI e = 0 then 0 else 1) = e := by
            rcases hey with ⟨rfl, _, _⟩ | ⟨rfl, _, _⟩ <;> rfl
          rw [te]
          obtain ⟨Z, z1, z2, z3⟩ := k_weighWay V (100000 + nI (1000 * i + 100 * d + 10 * X + e)) (nI (E + min (els K ag B i n b l v) (wv K ag (pt K (dA d) (B i) X (nI (1 - e))) b l v)))
          rw [z1, Option.bind_some]
          refine ⟨Z, rfl, ?_, ?_, ?_, ?_⟩
          · rw [z2, v2 35 (by omega) (by omega), eag]
          · intro k hk
            rw [z3 k (by omega), v2 k (by omega) (by omega), hU k hk]
          · rw [← h36]; exact crow_keep (fun t => by rw [z3 36 (by omega), v2 36 (by omega) (by omega)])
          · rw [← h37]; exact crow_keep (fun t => by rw [z3 37 (by omega), v2 37 (by omega) (by omega)])
        · simp only [if_neg s, if_true]
          exact ⟨U, rfl, rfl, hU, h36, h37⟩
      obtain ⟨V, v1, v2, v3, v4, v5⟩ := half u 0 36 37 (Or.inl ⟨rfl, rfl, rfl⟩) fr u2' u3
      obtain ⟨W, w1, w2, w3, w4, w5⟩ := half V 1 37 36 (Or.inr ⟨rfl, rfl, rfl⟩) v3 v4 v5
      refine ⟨W, ?_, ?_, w3⟩
      · have := congrArg (fun o => Option.bind o fun t_17 => ((f_X0_isServedBy t_17 A 37).bind fun u_16 => if u_16 = 0 then some t_17 else (f_X9_laterWire t_17 36 A' ag).bind fun u_18 => (f_X9_told u_18.2 (nI i) (nI j) (nI 1)).bind fun u_20 => (f_X9_weighWay u_18.2 (100000 + u_20) (nI E + if u_18.1 < nI (els K ag B i n b l v) then u_18.1 else nI (els K ag B i n b l v))).bind fun u_21 => some u_21)) v1
        simp only [Option.bind_some, w1, Option.bind_assoc] at this
        have t2 := congrArg (fun o => Option.bind o fun t => L_X9_tryCuts_44 (nI i) A A' (10 + i) ag (nI (els K ag B i n b l v)) N (nI (j + 1)) t) this
        simp only [Option.bind_some, Option.bind_assoc] at t2
        rw [← t2]
        rfl
      · rw [w2, v2, js, u35, u35])
    (hh - 1 + (w - 1)) FU 0 h (by omega) (FU_gt (by omega)) ⟨rfl, fun k _ => rfl⟩
  refine ⟨T', q1, ?_, q3⟩
  rw [q2, it_two _ _ l2]
  unfold twp
  rw [i2, i3]
