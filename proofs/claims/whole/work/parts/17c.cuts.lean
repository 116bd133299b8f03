/-! the cut that serves -/
theorem it_shift {α : Type} (f : Nat → α → α) (t : Nat) : ∀ (d j : Nat) (a : α), it f d (j + t) a = it (fun i => f (i + t)) d j a
  | 0, _, _ => rfl
  | d + 1, j, a => by
    simp only [it]
    rw [show j + t + 1 = j + 1 + t by omega]
    exact it_shift f t d (j + 1) _
theorem it_id {α : Type} {f : Nat → α → α} : ∀ (d j : Nat) (a : α), (∀ i a, j ≤ i → i < j + d → f i a = a) → it f d j a = a
  | 0, _, _, _ => rfl
  | d + 1, j, a, h => by
    simp only [it]
    rw [h j a (Nat.le_refl j) (by omega)]
    exact it_id d (j + 1) a (fun i a h1 h2 => h i a (by omega) (by omega))
theorem it_two {α : Type} (f g : Nat → α → α) {hh w : Nat} (h1 : 1 ≤ hh) (s : α) : it (fun j s => if j + 1 < hh then f (j + 1) s else g (j + 2 - hh) s) (hh - 1 + (w - 1)) 0 s = it g (w - 1) 1 (it f (hh - 1) 1 s) := by
  rw [it_add]
  have e1 : it (fun j s => if j + 1 < hh then f (j + 1) s else g (j + 2 - hh) s) (hh - 1) 0 s = it f (hh - 1) 1 s := by
    rw [show (1 : Nat) = 0 + 1 from rfl, it_shift f 1]
    exact it_congr _ _ _ (fun i a _ h => by rw [if_pos (by omega)])
  rw [e1, it_shift _ (hh - 1), show (1 : Nat) = 0 + 1 from rfl, it_shift g 1]
  refine it_congr _ _ _ (fun i a _ h => ?_)
  rw [if_neg (by omega)]
  congr 1
  omega
def cX (hh j : Nat) : Nat := if j + 1 < hh then j + 1 else j + 2 - hh
def cA (hh j : Nat) : Int32 := if j + 1 < hh then 1 else 0
def cE (hh w j : Nat) : Nat := if j + 1 < hh then w else hh
def cD (hh j : Nat) : Nat := if j + 1 < hh then 0 else 1
theorem cX_ok {hh w j : Nat} (h1 : 1 ≤ hh) (hj : j < hh - 1 + (w - 1)) : okX (cA hh j) hh w (cX hh j) := by
  unfold okX cA cX
  by_cases c : j + 1 < hh
  · simp only [if_pos c]
    exact ⟨by omega, by rw [if_neg (by decide)]; omega⟩
  · simp only [if_neg c, if_true]
    omega
theorem k_cuts (h : Hp) {a hh w : Nat} (e2 : h a 2 = nI hh) (e3 : h a 3 = nI w) (l2 : 1 ≤ hh) (l3 : 1 ≤ w) : f_X7_cuts h a = some (nI (hh - 1 + (w - 1))) := by
  unfold f_X7_cuts
  rw [e2, e3, show (1 : Int32) = nI 1 from rfl, nI_sub l2, nI_add, nI_sub (by omega)]
  congr 2
  omega
theorem k_isAcross (h : Hp) {a hh : Nat} (j : Nat) (e2 : h a 2 = nI hh) (l2 : 1 ≤ hh) (b2 : hh ≤ 6) (hj : j < 20) : f_X7_isAcross h a (nI j) = some (cA hh j) := by
  unfold f_X7_isAcross cA
  rw [e2, show (1 : Int32) = nI 1 from rfl, nI_sub l2]
  by_cases c : j + 1 < hh
  · rw [if_pos c, if_neg (fun q => absurd ((nI_leI (by omega) (by omega)).mp q) (by omega))]
  · rw [if_neg c, if_pos (nI_le (by omega) (by omega))]
theorem cA_0 {hh j : Nat} : (cA hh j = 0) ↔ ¬ j + 1 < hh := by
  unfold cA
  by_cases c : j + 1 < hh
  · rw [if_pos c]; exact ⟨fun e => absurd e (by decide), fun e => absurd c e⟩
  · rw [if_neg c]; exact ⟨fun _ => c, fun _ => rfl⟩
theorem k_cutEdges (h : Hp) {a hh w : Nat} (j : Nat) (e2 : h a 2 = nI hh) (e3 : h a 3 = nI w) (l2 : 1 ≤ hh) (b2 : hh ≤ 6) (hj : j < 20) : f_X7_cutEdges h a (nI j) = some (nI (cE hh w j)) := by
  unfold f_X7_cutEdges cE
  rw [k_isAcross h j e2 l2 b2 hj, Option.bind_some, e2, e3]
  by_cases c : j + 1 < hh
  · rw [if_pos c, if_neg (fun q => cA_0.mp q c)]
  · rw [if_neg c, if_pos (cA_0.mpr c)]
theorem k_cutAt (h : Hp) {a hh : Nat} (j : Nat) (e2 : h a 2 = nI hh) (l2 : 1 ≤ hh) (b2 : hh ≤ 6) (hj : j < 20) : f_X7_cutAt h a (nI j) = some (nI (cX hh j)) := by
  unfold f_X7_cutAt cX
  rw [k_isAcross h j e2 l2 b2 hj, Option.bind_some, e2, nI_1]
  by_cases c : j + 1 < hh
  · rw [if_pos c, if_neg (fun q => cA_0.mp q c)]
  · rw [if_neg c, if_pos (cA_0.mpr c), show (1 : Int32) = nI 1 from rfl, nI_sub l2, nI_sub (by omega)]
    congr 2
    omega
theorem told_nI (i d x t : Nat) : ((1000 * nI i + 100 * nI d) + 10 * nI x) + nI t = nI (1000 * i + 100 * d + 10 * x + t) := by
  rw [show (1000 : Int32) = nI 1000 from rfl, show (100 : Int32) = nI 100 from rfl, show (10 : Int32) = nI 10 from rfl, nI_mul, nI_mul, nI_mul, nI_add, nI_add, nI_add]
theorem k_told (h : Hp) {i hh : Nat} (j : Nat) (t : Int32) (hi : i < 24) (e2 : h (10 + i) 2 = nI hh) (l2 : 1 ≤ hh) (b2 : hh ≤ 6) (hj : j < 20) : f_X9_told h (nI i) (nI j) t = some (nI (1000 * i + 100 * cD hh j + 10 * cX hh j + (if t = 0 then 0 else 1))) := by
  simp only [f_X9_told, vB_def]
  rw [if_pos (inB_nI hi (by omega)), ix_nI (by omega), k_isAcross h j e2 l2 b2 hj, Option.bind_some, k_cutAt h j e2 l2 b2 hj, ← told_nI]
  unfold cD
  by_cases c : j + 1 < hh
  · rw [if_pos c, if_neg (fun q => cA_0.mp q c)]
    by_cases ct : t = 0
    · simp only [if_pos ct, Option.bind_some]; rfl
    · simp only [if_neg ct, Option.bind_some]; rfl
  · rw [if_neg c, if_pos (cA_0.mpr c)]
    by_cases ct : t = 0
    · simp only [if_pos ct, Option.bind_some]; rfl
    · simp only [if_neg ct, Option.bind_some]; rfl
def cutF (K : Nat → Int32) (p : Pr) (i : Nat) (a m r : Int32) (x2 : Int32) (d E x : Nat) (s : Int32 × Int32) : Int32 × Int32 :=
  if ¬ s.2 ≤ nI E ∧ (srv (ah K x2 p x) a m r ∨ srv (bh K x2 p x) a m r) then (nI (1000 * i + 100 * d + 10 * x + (if srv (ah K x2 p x) a m r then 0 else 1)), nI E) else s
def pieceF (K : Nat → Int32) (a m r : Int32) (B : Nat → Pr) (i : Nat) (s : Int32 × Int32) : Int32 × Int32 :=
  it (cutF K (B i) i a m r 0 1 (ix (B i 2))) (ix (B i 3) - 1) 1 (it (cutF K (B i) i a m r 1 0 (ix (B i 3))) (ix (B i 2) - 1) 1 s)
def fcut (K : Nat → Int32) (a m r : Int32) (B : Nat → Pr) (n : Nat) : Int32 × Int32 := if n = 24 then (-9, 1000000) else it (pieceF K a m r B) n 0 (-9, 1000000)
theorem fcut_congr {K : Nat → Int32} {a m r : Int32} {B B' : Nat → Pr} {n : Nat} (e : ∀ i, i < n → B i = B' i) : fcut K a m r B n = fcut K a m r B' n := by
  have key : it (pieceF K a m r B) n 0 (-9, 1000000) = it (pieceF K a m r B') n 0 (-9, 1000000) := it_congr n 0 _ (fun i s _ hi => by unfold pieceF; rw [e i (by omega)])
  unfold fcut
  rw [key]
theorem cutF_two (K : Nat → Int32) (p : Pr) (i : Nat) (a m r : Int32) {hh w : Nat} (h1 : 1 ≤ hh) (s : Int32 × Int32) : it (fun j s => cutF K p i a m r (cA hh j) (cD hh j) (cE hh w j) (cX hh j) s) (hh - 1 + (w - 1)) 0 s = it (cutF K p i a m r 0 1 hh) (w - 1) 1 (it (cutF K p i a m r 1 0 w) (hh - 1) 1 s) := by
  rw [← it_two _ _ h1]
  refine it_congr _ _ _ (fun j s _ _ => ?_)
  unfold cA cD cE cX
  by_cases c : j + 1 < hh
  · simp only [if_pos c]
  · simp only [if_neg c]
theorem k_sc48 (h : Hp) {A i R C r c hh w : Nat} {K : Nat → Int32} (hA : 137 ≤ A) (hi : i < 24) (hR : R ≤ 6) (hC : C ≤ 6) (hs5 : sums (h 5) (fun i => wtN (K i)) R C) (hs6 : sums (h 6) (fun i => rdN 1 (K i)) R C) (ok : okP K R C (crow h (10 + i)) r c hh w) (s : Int32 × Int32) :
    ∃ h', L_X9_shortestCut_48 A (nI i) (10 + i) FU s.1 s.2 0 h = some ((it (cutF K (crow h (10 + i)) i (h A 0) (h A 1) (h A 2) 0 1 hh) (w - 1) 1 (it (cutF K (crow h (10 + i)) i (h A 0) (h A 1) (h A 2) 1 0 w) (hh - 1) 1 s)).1, (it (cutF K (crow h (10 + i)) i (h A 0) (h A 1) (h A 2) 0 1 hh) (w - 1) 1 (it (cutF K (crow h (10 + i)) i (h A 0) (h A 1) (h A 2) 1 0 w) (hh - 1) 1 s)).2, h') ∧ ∀ k, k ≠ 36 → k ≠ 37 → h' k = h k := by
  have l2 : 1 ≤ hh := ok.2.2.2.2.1
  have l3 : 1 ≤ w := ok.2.2.2.2.2.1
  have l0 : r + hh ≤ R := ok.2.2.2.2.2.2.1
  have l1 : c + w ≤ C := ok.2.2.2.2.2.2.2.1
  rw [← cutF_two _ _ _ _ _ _ l2]
  obtain ⟨⟨b', e', T'⟩, q1, q2, q3⟩ := lpE (fun N j (a : Int32 × Int32 × Hp) => L_X9_shortestCut_48 A (nI i) (10 + i) N a.1 a.2.1 (nI j) a.2.2) (hh - 1 + (w - 1)) id
    (fun j a => (a.1, a.2.1) = it (fun j s => cutF K (crow h (10 + i)) i (h A 0) (h A 1) (h A 2) (cA hh j) (cD hh j) (cE hh w j) (cX hh j) s) j 0 s ∧ ∀ k, k ≠ 36 → k ≠ 37 → a.2.2 k = h k)
    (fun N a hP => by
      have c1 : crow a.2.2 (10 + i) = crow h (10 + i) := crow_keep (fun t => by rw [hP.2 _ (by omega) (by omega)])
      have e2 : a.2.2 (10 + i) 2 = nI hh := by rw [← crow_at a.2.2 _ (show 2 < 13 by omega), c1]; exact ok.2.2.1
      have e3 : a.2.2 (10 + i) 3 = nI w := by rw [← crow_at a.2.2 _ (show 3 < 13 by omega), c1]; exact ok.2.2.2.1
      simp only [L_X9_shortestCut_48]
      rw [k_cuts _ e2 e3 l2 l3, Option.bind_some, if_pos (nI_le (Nat.le_refl _) (by omega))]; rfl)
    (fun N j a hj hP => by
      obtain ⟨b, e, T⟩ := a
      obtain ⟨p1, p2⟩ := hP
      simp only at p1 p2
      have c1 : crow T (10 + i) = crow h (10 + i) := crow_keep (fun t => by rw [p2 _ (by omega) (by omega)])
      have e2 : T (10 + i) 2 = nI hh := by rw [← crow_at T _ (show 2 < 13 by omega), c1]; exact ok.2.2.1
      have e3 : T (10 + i) 3 = nI w := by rw [← crow_at T _ (show 3 < 13 by omega), c1]; exact ok.2.2.2.1
      have hx := cX_ok (w := w) l2 hj
      simp only [L_X9_shortestCut_48, vB_def, vK]
      rw [k_cuts _ e2 e3 l2 l3, Option.bind_some, if_neg (nI_ge hj (by omega)), k_cutEdges T j e2 e3 l2 (by omega) (by omega), Option.bind_some, nI_1]
      simp only [it_succ, Nat.zero_add, ← p1]
      by_cases ce : e ≤ nI (cE hh w j)
      · refine ⟨(b, e, T), ?_, ?_, p2⟩
        · rw [if_pos ce, Option.bind_some]
        · rw [cutF, if_neg (fun q => q.1 ce)]
      · obtain ⟨u, u1, u2', u3, u4⟩ := k_part T (a0 := 10 + i) (a4 := 36) (a5 := 37) (by omega) (by omega) (by omega) (by omega) (by omega) hR hC (K := K) (by rw [p2 5 (by omega) (by omega)]; exact hs5) (by rw [p2 6 (by omega) (by omega)]; exact hs6) (by rw [c1]; exact ok) hx
        rw [c1] at u2' u3
        have f2 : u (10 + i) 2 = nI hh := by rw [u4 _ (by omega) (by omega)]; exact e2
        have f3 : u (10 + i) 3 = nI w := by rw [u4 _ (by omega) (by omega)]; exact e3
        have uA : u A = h A := by rw [u4 A (by omega) (by omega), p2 A (by omega) (by omega)]
        have fr : ∀ k, k ≠ 36 → k ≠ 37 → u k = h k := fun k h1 h2 => by rw [u4 k h1 h2, p2 k h1 h2]
        rw [if_neg ce, k_isAcross T j e2 l2 (by omega) (by omega), Option.bind_some, k_cutAt T j e2 l2 (by omega) (by omega), Option.bind_some, u1, Option.bind_some]
        simp only [k_served, u2', u3, uA, Option.bind_some, k_told u j _ hi f2 l2 (show hh ≤ 6 by omega) (show j < 20 by omega), k_cutEdges u j f2 f3 l2 (show hh ≤ 6 by omega) (show j < 20 by omega)]
        by_cases sa : srv (ah K (cA hh j) (crow h (10 + i)) (cX hh j)) (h A 0) (h A 1) (h A 2)
        · refine ⟨(nI (1000 * i + 100 * cD hh j + 10 * cX hh j + 0), nI (cE hh w j), u), ?_, ?_, fr⟩
          · simp only [if_pos sa, show ¬ (1 : Int32) = 0 by decide, if_false, Option.bind_some]
            rfl
          · rw [cutF, if_pos ⟨ce, Or.inl sa⟩, if_pos sa]
        · by_cases sb : srv (bh K (cA hh j) (crow h (10 + i)) (cX hh j)) (h A 0) (h A 1) (h A 2)
          · refine ⟨(nI (1000 * i + 100 * cD hh j + 10 * cX hh j + 1), nI (cE hh w j), u), ?_, ?_, fr⟩
            · simp only [if_neg sa, if_pos sb, show ¬ (1 : Int32) = 0 by decide, if_false, if_true, Option.bind_some]
            · rw [cutF, if_pos ⟨ce, Or.inr sb⟩, if_neg sa]
          · refine ⟨(b, e, u), ?_, ?_, fr⟩
            · simp only [if_neg sa, if_neg sb, if_true, Option.bind_some]
            · rw [cutF, if_neg (fun q => q.2.elim sa sb)])
    (hh - 1 + (w - 1)) FU 0 (s.1, s.2, h) (by omega) (FU_gt (by omega)) ⟨rfl, fun k _ _ => rfl⟩
  refine ⟨T', ?_, q3⟩
  simp only at q2
  rw [← q2]
  exact q1
theorem k_shortest (h : Hp) {A n R C : Nat} {K : Nat → Int32} (hA : 137 ≤ A) (hn : n ≤ 24) (e : h 7 3 = nI n) (hR : R ≤ 6) (hC : C ≤ 6) (hs5 : sums (h 5) (fun i => wtN (K i)) R C) (hs6 : sums (h 6) (fun i => rdN 1 (K i)) R C) (ok : ∀ i, i < n → okQ K R C (crow h (10 + i))) :
    ∃ h', f_X9_shortestCut h A = some ((fcut K (h A 0) (h A 1) (h A 2) (fun i => crow h (10 + i)) n).1, h') ∧ ∀ k, k ≠ 36 → k ≠ 37 → h' k = h k := by
  by_cases h24 : n = 24
  · refine ⟨h, ?_, fun k _ _ => rfl⟩
    subst h24
    simp only [f_X9_shortestCut, vB_def, fcut, if_true]
    obtain ⟨F, hF⟩ : ∃ F, FU = F + 1 := ⟨1999, rfl⟩
    rw [hF]
    simp only [L_X9_shortestCut_9]
    rw [e, if_neg (by decide), if_pos (by decide)]
    rfl
  obtain ⟨⟨b', e', T'⟩, q1, q2, q3⟩ := lpE (fun N j (a : Int32 × Int32 × Hp) => L_X9_shortestCut_9 A N a.1 a.2.1 (nI j) a.2.2) n (fun a => (a.1, a.2.2))
    (fun j a => (a.1, a.2.1) = it (pieceF K (h A 0) (h A 1) (h A 2) (fun i => crow h (10 + i))) j 0 (-9, 1000000) ∧ ∀ k, k ≠ 36 → k ≠ 37 → a.2.2 k = h k)
    (fun N a hP => by
      simp only [L_X9_shortestCut_9]
      rw [hP.2 7 (by omega) (by omega), e, if_pos (nI_le (Nat.le_refl _) (by omega))])
    (fun N j a hj hP => by
      obtain ⟨b, e1, T⟩ := a
      obtain ⟨p1, p2⟩ := hP
      simp only at p1 p2
      obtain ⟨r, c, hh, w, o⟩ := ok j hj
      have c1 : crow T (10 + j) = crow h (10 + j) := crow_keep (fun t => by rw [p2 _ (by omega) (by omega)])
      obtain ⟨T2, t1, t2⟩ := k_sc48 T (A := A) (i := j) hA (by omega) hR hC (K := K) (by rw [p2 5 (by omega) (by omega)]; exact hs5) (by rw [p2 6 (by omega) (by omega)]; exact hs6) (by rw [c1]; exact o) (b, e1)
      rw [c1, p2 A (by omega) (by omega)] at t1
      have i2 : ix (crow h (10 + j) 2) = hh := by rw [o.2.2.1, ix_nI]; have := o.2.2.2.2.2.2.1; omega
      have i3 : ix (crow h (10 + j) 3) = w := by rw [o.2.2.2.1, ix_nI]; have := o.2.2.2.2.2.2.2.1; omega
      have t7 : T 7 3 = nI n := by rw [p2 7 (by omega) (by omega)]; exact e
      simp only [L_X9_shortestCut_9, vB_def, t7]
      rw [if_neg (nI_ge hj (by omega)), if_neg (f_le 24 rfl (by omega) (by omega)), if_pos (inB_nI (show j < 24 by omega) (by omega)), ix_nI (by omega), t1, Option.bind_some, nI_1]
      refine ⟨(_, _, T2), rfl, ?_, fun k h1 h2 => (t2 k h1 h2).trans (p2 k h1 h2)⟩
      rw [it_succ, Nat.zero_add, ← p1]
      simp only [pieceF, i2, i3])
    n FU 0 (-9, 1000000, h) (by omega) (FU_gt (by omega)) ⟨rfl, fun k _ _ => rfl⟩
  refine ⟨T', ?_, q3⟩
  simp only at q2 q1
  simp only [f_X9_shortestCut, vB_def, fcut, if_neg h24, ← q2]
  rw [show L_X9_shortestCut_9 A FU (-9) 1000000 0 h = some (b', T') from q1]
  rfl
