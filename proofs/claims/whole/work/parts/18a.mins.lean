/-! two asks ahead: the pure side -/
def mins (g : Nat → Nat) : Nat → Nat → Nat
  | 0, _ => FAR
  | d + 1, j => min (g j) (mins g d (j + 1))
theorem mins_le (g : Nat → Nat) : ∀ d j, mins g d j ≤ FAR
  | 0, _ => Nat.le_refl _
  | d + 1, j => by
    simp only [mins]
    have := mins_le g d (j + 1)
    omega
theorem it_mins (g : Nat → Nat) : ∀ d j e, e ≤ FAR → it (fun i e => min e (g i)) d j e = min e (mins g d j)
  | 0, j, e, h => by
    simp only [it, mins]
    omega
  | d + 1, j, e, h => by
    simp only [it, mins]
    rw [it_mins g d (j + 1) _ (by omega)]
    omega
theorem mins_congr {f g : Nat → Nat} : ∀ d j, (∀ i, j ≤ i → i < j + d → f i = g i) → mins f d j = mins g d j
  | 0, _, _ => rfl
  | d + 1, j, h => by
    simp only [mins]
    rw [h j (Nat.le_refl j) (by omega), mins_congr d (j + 1) (fun i h1 h2 => h i (by omega) (by omega))]
theorem mins_upd (g : Nat → Nat) {k v : Nat} (hv : v ≤ FAR) : ∀ d j, j ≤ k → k < j + d → mins (fun i => if i = k then v else g i) d j = min v (mins (fun i => if i = k then FAR else g i) d j)
  | 0, _, h1, h2 => absurd h2 (by omega)
  | d + 1, j, h1, h2 => by
    simp only [mins]
    by_cases e : j = k
    · rw [if_pos e, if_pos e, mins_congr (f := fun i => if i = k then v else g i) (g := fun i => if i = k then FAR else g i) d (j + 1) (fun i h3 _ => by rw [if_neg (by omega), if_neg (by omega)])]
      have := mins_le (fun i => if i = k then FAR else g i) d (j + 1)
      omega
    · rw [if_neg e, if_neg e, mins_upd g hv d (j + 1) (by omega) (by omega)]
      omega
theorem mins_succ (g : Nat → Nat) : ∀ d j, mins g (d + 1) j = min (mins g d j) (g (j + d))
  | 0, j => by
    simp only [mins, Nat.add_zero]
    omega
  | d + 1, j => by
    have e := mins_succ g d (j + 1)
    rw [show mins g (d + 1 + 1) j = min (g j) (mins g (d + 1) (j + 1)) from rfl, e, show mins g (d + 1) j = min (g j) (mins g d (j + 1)) from rfl, show j + 1 + d = j + (d + 1) by omega]
    omega
theorem mins_zero {g : Nat → Nat} {k : Nat} (hk : g k = 0) : ∀ d j, j ≤ k → k < j + d → mins g d j = 0
  | 0, _, h1, h2 => absurd h2 (by omega)
  | d + 1, j, h1, h2 => by
    simp only [mins]
    by_cases e : j = k
    · rw [e, hk]; omega
    · rw [mins_zero hk d (j + 1) (by omega) (by omega)]; omega
theorem mins_far {g : Nat → Nat} : ∀ d j, (∀ i, j ≤ i → i < j + d → g i = FAR) → mins g d j = FAR
  | 0, _, _ => rfl
  | d + 1, j, h => by
    simp only [mins]
    rw [h j (Nat.le_refl j) (by omega), mins_far d (j + 1) (fun i h1 h2 => h i (by omega) (by omega))]
    omega
theorem mins_pos {g : Nat → Nat} : ∀ d j, (∀ i, j ≤ i → i < j + d → 1 ≤ g i) → 1 ≤ mins g d j
  | 0, _, _ => by show 1 ≤ FAR; decide
  | d + 1, j, h => by
    simp only [mins]
    have h1 := h j (Nat.le_refl j) (by omega)
    have h2 := mins_pos d (j + 1) (fun i h1 h2 => h i (by omega) (by omega))
    omega
/-- what a cut costs if it serves -/
def cv (K : Nat → Int32) (p : Pr) (a m r : Int32) (x2 : Int32) (E x : Nat) : Nat := if srv (ah K x2 p x) a m r ∨ srv (bh K x2 p x) a m r then E else FAR
def mnc (K : Nat → Int32) (p : Pr) (a m r : Int32) : Nat := min (mins (cv K p a m r 1 (ix (p 3))) (ix (p 2) - 1) 1) (mins (cv K p a m r 0 (ix (p 2))) (ix (p 3) - 1) 1)
/-- by this piece or by a part of it (f: a cut may be made) -/
def wv (K : Nat → Int32) (f : Int32) (p : Pr) (a m r : Int32) : Nat := if srv p a m r then 0 else if f = 0 then FAR else mnc K p a m r
theorem mnc_le (K : Nat → Int32) (p : Pr) (a m r : Int32) : mnc K p a m r ≤ FAR := by
  unfold mnc
  have := mins_le (cv K p a m r 1 (ix (p 3))) (ix (p 2) - 1) 1
  omega
theorem wv_le (K : Nat → Int32) (f : Int32) (p : Pr) (a m r : Int32) : wv K f p a m r ≤ FAR := by
  unfold wv
  have := mnc_le K p a m r
  split
  · omega
  · split <;> omega
theorem wv_sold {K : Nat → Int32} {f : Int32} {p : Pr} {a m r : Int32} (h : p 6 ≠ 0) : wv K f p a m r = FAR := by
  unfold wv
  rw [if_neg (fun q => h q.1)]
  by_cases c : f = 0
  · rw [if_pos c]
  · rw [if_neg c]
    unfold mnc
    have e : ∀ x2 E x, cv K p a m r x2 E x = FAR := fun x2 E x => if_neg (fun q => q.elim (fun q => h q.1) (fun q => h q.1))
    rw [mins_far _ _ (fun i _ _ => e _ _ i), mins_far _ _ (fun i _ _ => e _ _ i)]
    omega
theorem mnc_pos {K : Nat → Int32} {p : Pr} {a m r : Int32} (h2 : 1 ≤ ix (p 2)) (h3 : 1 ≤ ix (p 3)) : 1 ≤ mnc K p a m r := by
  unfold mnc
  have e : ∀ x2 E x, 1 ≤ E → 1 ≤ cv K p a m r x2 E x := fun x2 E x hE => by
    unfold cv
    split
    · exact hE
    · decide
  have a1 := mins_pos (g := cv K p a m r 1 (ix (p 3))) (ix (p 2) - 1) 1 (fun i _ _ => e _ _ i h3)
  have a2 := mins_pos (g := cv K p a m r 0 (ix (p 2))) (ix (p 3) - 1) 1 (fun i _ _ => e _ _ i h2)
  omega
theorem wv_again {K : Nat → Int32} (f : Int32) {p : Pr} {a m r : Int32} (h2 : 1 ≤ ix (p 2)) (h3 : 1 ≤ ix (p 3)) : (if f = 0 ∧ wv K 1 p a m r ≠ 0 then FAR else wv K 1 p a m r) = wv K f p a m r := by
  have := mnc_pos (K := K) (a := a) (m := m) (r := r) h2 h3
  unfold wv
  rw [if_neg (show ¬ (1 : Int32) = 0 by decide)]
  by_cases s : srv p a m r
  · rw [if_pos s, if_pos s, if_neg (fun q => q.2 rfl)]
  · rw [if_neg s, if_neg s]
    by_cases c : f = 0
    · rw [if_pos c, if_pos ⟨c, by omega⟩]
    · rw [if_neg c, if_neg (fun q => c q.1)]
theorem wv_same {K : Nat → Int32} (f : Int32) (p : Pr) (a m r : Int32) : (if f = 0 ∧ wv K f p a m r ≠ 0 then FAR else wv K f p a m r) = wv K f p a m r := by
  unfold wv
  by_cases s : srv p a m r
  · rw [if_pos s, if_neg (fun q => q.2 rfl)]
  · rw [if_neg s]
    by_cases c : f = 0
    · rw [if_pos c]; split <;> rfl
    · rw [if_neg c, if_neg (fun q => c q.1)]
theorem FAR_nI : (1000000 : Int32) = nI FAR := rfl
theorem FAR_eq : FAR = 1000000 := rfl
theorem cutF_2 {K : Nat → Int32} {p : Pr} {i d E x : Nat} {a m r x2 : Int32} {s : Int32 × Int32} {e : Nat} (he : e ≤ FAR) (hE : E ≤ 6) (hs : s.2 = nI e) : (cutF K p i a m r x2 d E x s).2 = nI (min e (cv K p a m r x2 E x)) := by
  have := FAR_eq
  unfold cutF cv
  by_cases c : srv (ah K x2 p x) a m r ∨ srv (bh K x2 p x) a m r
  · by_cases ce : e ≤ E
    · rw [if_neg (fun q => q.1 (by rw [hs]; exact nI_le ce (by omega))), if_pos c, hs, Nat.min_eq_left ce]
    · rw [if_pos ⟨fun q => ce ((nI_leI (by omega) (by omega)).mp (by rw [← hs]; exact q)), c⟩, if_pos c, Nat.min_eq_right (by omega)]
  · rw [if_neg (fun q => c q.2), if_neg c, hs, Nat.min_eq_left he]
theorem it_cut2 {K : Nat → Int32} {p : Pr} {i d E : Nat} {a m r x2 : Int32} (hE : E ≤ 6) : ∀ (dd j : Nat) (s : Int32 × Int32) (e : Nat), e ≤ FAR → s.2 = nI e → (it (cutF K p i a m r x2 d E) dd j s).2 = nI (min e (mins (cv K p a m r x2 E) dd j))
  | 0, j, s, e, he, hs => by
    simp only [it, mins]
    rw [hs, Nat.min_eq_left he]
  | dd + 1, j, s, e, he, hs => by
    simp only [it, mins]
    rw [it_cut2 hE dd (j + 1) _ (min e (cv K p a m r x2 E j)) (by omega) (cutF_2 he hE hs), Nat.min_assoc]
theorem pieceF_2 {K : Nat → Int32} {B : Nat → Pr} {i : Nat} {a m r : Int32} {s : Int32 × Int32} {e : Nat} (he : e ≤ FAR) (h2 : ix (B i 2) ≤ 6) (h3 : ix (B i 3) ≤ 6) (hs : s.2 = nI e) : (pieceF K a m r B i s).2 = nI (min e (mnc K (B i) a m r)) := by
  unfold pieceF mnc
  rw [it_cut2 h2 _ _ _ _ (by have := mins_le (cv K (B i) a m r 1 (ix (B i 3))) (ix (B i 2) - 1) 1; omega) (it_cut2 h3 _ _ _ _ he hs), Nat.min_assoc]
theorem it_piece2 {K : Nat → Int32} {B : Nat → Pr} {a m r : Int32} : ∀ (dd j : Nat) (s : Int32 × Int32) (e : Nat), (∀ i, j ≤ i → i < j + dd → ix (B i 2) ≤ 6 ∧ ix (B i 3) ≤ 6) → e ≤ FAR → s.2 = nI e → (it (pieceF K a m r B) dd j s).2 = nI (min e (mins (fun i => mnc K (B i) a m r) dd j))
  | 0, j, s, e, _, he, hs => by
    simp only [it, mins]
    rw [hs, Nat.min_eq_left he]
  | dd + 1, j, s, e, h6, he, hs => by
    simp only [it, mins]
    obtain ⟨h2, h3⟩ := h6 j (Nat.le_refl j) (by omega)
    rw [it_piece2 dd (j + 1) _ (min e (mnc K (B j) a m r)) (fun i h1 h2 => h6 i (by omega) (by omega)) (by omega) (pieceF_2 he h2 h3 hs), Nat.min_assoc]
theorem fcut_2 {K : Nat → Int32} {B : Nat → Pr} {n : Nat} {a m r : Int32} (h6 : ∀ i, i < n → ix (B i 2) ≤ 6 ∧ ix (B i 3) ≤ 6) (hn : ¬ n = 24) : (fcut K a m r B n).2 = nI (mins (fun i => mnc K (B i) a m r) n 0) := by
  unfold fcut
  rw [if_neg hn, it_piece2 n 0 _ FAR (fun i _ h => h6 i (by omega)) (Nat.le_refl _) FAR_nI, Nat.min_eq_right (mins_le _ _ _)]
theorem it_invI {α : Type} {f : Nat → α → α} (P : Nat → α → Prop) : ∀ (d j : Nat) (a : α), P j a → (∀ i a, j ≤ i → i < j + d → P i a → P (i + 1) (f i a)) → P (j + d) (it f d j a)
  | 0, _, _, h, _ => h
  | d + 1, j, a, h, hs => by
    rw [show j + (d + 1) = j + 1 + d by omega]
    exact it_invI P d (j + 1) (f j a) (hs j a (Nat.le_refl j) (by omega) h) (fun i a h1 h2 => hs i a (by omega) (by omega))
theorem lgt_none {B : Nat → Pr} {a m r : Int32} {n : Nat} (hn : n ≤ 24) (h : lgt B a m r n = -9) : ∀ i, i < n → ¬ srv (B i) a m r := by
  have key := it_invI (fun j (f : Int32) => f = -9 → ∀ i, i < j → ¬ srv (B i) a m r) (f := fun i f => if srv (B i) a m r ∧ (f = -9 ∨ ¬ pWt (B (ix f)) ≤ pWt (B i)) then nI i else f) n 0 (-9) (fun _ i hi => absurd hi (by omega)) (fun j f _ hj hf => by
    by_cases q : srv (B j) a m r ∧ (f = -9 ∨ ¬ pWt (B (ix f)) ≤ pWt (B j))
    · rw [if_pos q]
      exact fun e => absurd e (nI_n9 (by omega))
    · rw [if_neg q]
      intro e i hi
      by_cases ei : i = j
      · subst ei
        exact fun s => q ⟨s, Or.inl e⟩
      · exact hf e i (by omega))
  rw [Nat.zero_add] at key
  exact key h
def sec (K : Nat → Int32) (B : Nat → Pr) (n : Nat) (b m r : Int32) : Nat := mins (fun i => wv K (if n = 24 then 0 else 1) (B i) b m r) n 0
theorem sec_eq {K : Nat → Int32} {B : Nat → Pr} {n : Nat} {b m r : Int32} (hn : n ≤ 24) (h6 : ∀ i, i < n → ix (B i 2) ≤ 6 ∧ ix (B i 3) ≤ 6) : (if lgt B b m r n = -9 then (fcut K b m r B n).2 else 0) = nI (sec K B n b m r) := by
  unfold sec
  by_cases c : lgt B b m r n = -9
  · rw [if_pos c]
    have nn := lgt_none hn c
    by_cases e : n = 24
    · rw [mins_far n 0 (fun i _ hi => by unfold wv; rw [if_neg (nn i (by omega)), if_pos e, if_pos rfl])]
      unfold fcut
      rw [if_pos e]
      rfl
    · rw [fcut_2 h6 e]
      congr 1
      refine mins_congr n 0 (fun i _ hi => ?_)
      unfold wv
      rw [if_neg (nn i (by omega)), if_neg e, if_neg (by decide)]
  · rw [if_neg c]
    obtain ⟨t, ht, _, es⟩ := (lgt_spec B b m r n).resolve_left c
    rw [mins_zero (k := t) (by unfold wv; rw [if_pos es]) n 0 (by omega) (by omega)]
    rfl
/-- all but piece k -/
def els (K : Nat → Int32) (f : Int32) (B : Nat → Pr) (k n : Nat) (b m r : Int32) : Nat := mins (fun i => if i = k then FAR else wv K f (B i) b m r) n 0
theorem els_le (K : Nat → Int32) (f : Int32) (B : Nat → Pr) (k n : Nat) (b m r : Int32) : els K f B k n b m r ≤ FAR := mins_le _ _ _
theorem sec_sold {K : Nat → Int32} {B B' : Nat → Pr} {k n : Nat} {b m r : Int32} (hk : k < n) (h6 : B' k 6 ≠ 0) (e : ∀ i, i < n → i ≠ k → B' i = B i) : sec K B' n b m r = els K (if n = 24 then 0 else 1) B k n b m r := by
  unfold sec els
  refine mins_congr n 0 (fun i _ hi => ?_)
  by_cases c : i = k
  · subst c
    rw [if_pos rfl, wv_sold h6]
  · rw [if_neg c, e i (by omega) c]
theorem sec_cut {K : Nat → Int32} {B B' : Nat → Pr} {k n : Nat} {b m r : Int32} (hk : k < n) (e : ∀ i, i < n → i ≠ k → B' i = B i) : sec K B' (n + 1) b m r = min (els K (if n + 1 = 24 then 0 else 1) B k n b m r) (min (wv K (if n + 1 = 24 then 0 else 1) (B' k) b m r) (wv K (if n + 1 = 24 then 0 else 1) (B' n) b m r)) := by
  unfold sec els
  rw [mins_succ, Nat.zero_add, mins_congr (f := fun i => wv K (if n + 1 = 24 then 0 else 1) (B' i) b m r) (g := fun i => if i = k then wv K (if n + 1 = 24 then 0 else 1) (B' k) b m r else wv K (if n + 1 = 24 then 0 else 1) (B i) b m r) n 0 (fun i _ hi => by
    by_cases c : i = k
    · rw [if_pos c, c]
    · rw [if_neg c, e i (by omega) c]), mins_upd _ (wv_le _ _ _ _ _ _) n 0 (by omega) (by omega)]
  omega
/-- the better of two ways -/
def kpt (way wire : Int32) (s : Int32 × Int32) : Int32 × Int32 := if s.1 ≤ wire then s else (wire, way)
def tw1 (K : Nat → Int32) (B : Nat → Pr) (n : Nat) (a m b l r : Int32) (i : Nat) (s : Int32 × Int32) : Int32 × Int32 := if srv (B i) a m r then kpt (nI i) (nI (els K (if n = 24 then 0 else 1) B i n b l r)) s else s
def tw2 (K : Nat → Int32) (B : Nat → Pr) (n : Nat) (a m b l r : Int32) (i d E x e : Nat) (s : Int32 × Int32) : Int32 × Int32 :=
  if srv (pt K (dA d) (B i) x (nI e)) a m r then kpt (100000 + nI (1000 * i + 100 * d + 10 * x + e)) (nI (E + min (els K (if n + 1 = 24 then 0 else 1) B i n b l r) (wv K (if n + 1 = 24 then 0 else 1) (pt K (dA d) (B i) x (nI (1 - e))) b l r))) s else s
def twx (K : Nat → Int32) (B : Nat → Pr) (n : Nat) (a m b l r : Int32) (i d E x : Nat) (s : Int32 × Int32) : Int32 × Int32 := it (tw2 K B n a m b l r i d E x) 2 0 s
def twp (K : Nat → Int32) (B : Nat → Pr) (n : Nat) (a m b l r : Int32) (i : Nat) (s : Int32 × Int32) : Int32 × Int32 :=
  it (twx K B n a m b l r i 1 (ix (B i 2))) (ix (B i 3) - 1) 1 (it (twx K B n a m b l r i 0 (ix (B i 3))) (ix (B i 2) - 1) 1 s)
def two1 (K : Nat → Int32) (B : Nat → Pr) (n : Nat) (a m b l r : Int32) : Int32 × Int32 := it (tw1 K B n a m b l r) n 0 (1000000, -9)
def twoA (K : Nat → Int32) (B : Nat → Pr) (n : Nat) (a m b l r : Int32) : Int32 × Int32 := if n = 24 then two1 K B n a m b l r else it (twp K B n a m b l r) n 0 (two1 K B n a m b l r)
theorem els_congr {K : Nat → Int32} {f : Int32} {B B' : Nat → Pr} {k n : Nat} {b m r : Int32} (e : ∀ i, i < n → B i = B' i) : els K f B k n b m r = els K f B' k n b m r := mins_congr n 0 (fun i _ hi => by rw [e i (by omega)])
theorem two1_congr {K : Nat → Int32} {B B' : Nat → Pr} {n : Nat} {a m b l r : Int32} (e : ∀ i, i < n → B i = B' i) : two1 K B n a m b l r = two1 K B' n a m b l r := it_congr n 0 _ (fun i s _ hi => by unfold tw1; rw [e i (by omega), els_congr e])
theorem twoA_congr {K : Nat → Int32} {B B' : Nat → Pr} {n : Nat} {a m b l r : Int32} (e : ∀ i, i < n → B i = B' i) : twoA K B n a m b l r = twoA K B' n a m b l r := by
  have k2 : it (twp K B n a m b l r) n 0 (two1 K B' n a m b l r) = it (twp K B' n a m b l r) n 0 (two1 K B' n a m b l r) := it_congr n 0 _ (fun i s _ hi => by
    have e2 : ∀ d E x s, twx K B n a m b l r i d E x s = twx K B' n a m b l r i d E x s := fun d E x s => it_congr 2 0 _ (fun j s _ _ => by unfold tw2; rw [e i (by omega), els_congr e])
    unfold twp
    rw [e i (by omega), it_congr (ix (B' i 3) - 1) 1 _ (fun x s _ _ => e2 1 (ix (B' i 2)) x s), it_congr (ix (B' i 2) - 1) 1 s (fun x s _ _ => e2 0 (ix (B' i 3)) x s)])
  unfold twoA
  rw [two1_congr e, k2]
/-- none is found just where the wire is far -/
def twOk (s : Int32 × Int32) : Prop := s.2 = -9 ∧ s.1 = 1000000 ∨ s.2 ≠ -9 ∧ s.1 < 1000000
theorem kpt_ok {way wire : Int32} {s : Int32 × Int32} (hw : way ≠ -9) (h : twOk s) : twOk (kpt way wire s) := by
  unfold kpt
  by_cases c : s.1 ≤ wire
  · rw [if_pos c]; exact h
  · rw [if_neg c]
    refine Or.inr ⟨hw, ?_⟩
    have c2 := i_nle.mp c
    show wire < 1000000
    rcases h with h | h
    · rw [← h.2]; exact c2
    · have h2 := h.2
      rw [Int32.lt_iff_toInt_lt] at *
      omega
theorem twoA_ok {K : Nat → Int32} {B : Nat → Pr} {n : Nat} {a m b l r : Int32} (hn : n ≤ 24) (h6 : ∀ i, i < n → ix (B i 2) ≤ 6 ∧ ix (B i 3) ≤ 6) : twOk (twoA K B n a m b l r) := by
  have o1 : twOk (two1 K B n a m b l r) := it_inv twOk n 0 _ (Or.inl ⟨rfl, rfl⟩) (fun i s _ hi h => by
    unfold tw1
    by_cases c : srv (B i) a m r
    · rw [if_pos c]; exact kpt_ok (nI_n9 (by omega)) h
    · rw [if_neg c]; exact h)
  have ox : ∀ i d E x s, i < n → d ≤ 1 → x ≤ 6 → twOk s → twOk (twx K B n a m b l r i d E x s) := fun i d E x s hi hd hx h => it_inv twOk 2 0 _ h (fun e s _ he h => by
    unfold tw2
    by_cases c : srv (pt K (dA d) (B i) x (nI e)) a m r
    · rw [if_pos c]
      refine kpt_ok ?_ h
      rw [show (100000 : Int32) = nI 100000 from rfl, nI_add]
      exact f_eq (-9) rfl (by omega) (by omega)
    · rw [if_neg c]; exact h)
  unfold twoA
  by_cases c : n = 24
  · rw [if_pos c]; exact o1
  · rw [if_neg c]
    refine it_inv twOk n 0 _ o1 (fun i s _ hi h => ?_)
    obtain ⟨h2, h3⟩ := h6 i (by omega)
    exact it_inv twOk _ 1 _ (it_inv twOk _ 1 _ h (fun x s _ hx h => ox i 0 _ x s (by omega) (by omega) (by omega) h)) (fun x s _ hx h => ox i 1 _ x s (by omega) (by omega) (by omega) h)
