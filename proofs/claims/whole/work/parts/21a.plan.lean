/-! the plans: the pure side -/
theorem it_mins' {f : Nat → Nat → Nat} (g : Nat → Nat) (d j e : Nat) (he : e ≤ FAR) (h : ∀ i b, j ≤ i → i < j + d → b ≤ FAR → f i b = min b (g i)) : it f d j e = min e (mins g d j) := by
  rw [it_congrP (g := fun i b => min b (g i)) (fun b : Nat => b ≤ FAR) d j e he (fun i b h1 h2 hb => ⟨h i b h1 h2 hb, by show min b (g i) ≤ FAR; omega⟩)]
  exact it_mins g d j e he
theorem mins_skip {g : Nat → Nat} {v : Nat} : ∀ d, (∀ p, v < p → p < v + 1 + d → g p = FAR) → mins g (v + 1 + d) 0 = mins g (v + 1) 0
  | 0, _ => rfl
  | d + 1, h => by
    rw [show v + 1 + (d + 1) = (v + 1 + d) + 1 by omega, mins_succ, mins_skip d (fun p h1 h2 => h p h1 (by omega)), h (0 + (v + 1 + d)) (by omega) (by omega)]
    have := mins_le g (v + 1) 0
    omega
theorem mins_add {g g' : Nat → Nat} {w b : Nat} (hb : b ≤ FAR) : ∀ d j, (∀ p, j ≤ p → p < j + d → g' p = w + g p ∨ g p = FAR ∧ g' p = FAR) → min b (w + mins g d j) = min b (mins g' d j)
  | 0, _, _ => by
    simp only [mins]
    omega
  | d + 1, j, h => by
    have e := mins_add hb d (j + 1) (fun p h1 h2 => h p (by omega) (by omega))
    have e2 := h j (Nat.le_refl j) (by omega)
    simp only [mins]
    omega
abbrev fitc (ft : Nat → Nat → Nat → Nat → Nat → Bool) (r c hh w s : Nat) : Prop := s = 1 ∧ ft 0 r c hh w = true ∨ s = 2 ∧ ft 1 r c hh w = true ∨ s = 4 ∧ ft 2 r c hh w = true ∨ s = 8 ∧ ft 3 r c hh w = true
def DO (ft : Nat → Nat → Nat → Nat → Nat → Bool) (r c hh w s : Nat) : Nat := dO ft (hh + w) r c hh w s
def gO (A B : Nat → Nat) (s pr p : Nat) : Nat := if p &&& s = p then pr + A p + B (s - p) else FAR
def mO (ft : Nat → Nat → Nat → Nat → Nat → Bool) (r c hh w s : Nat) : Nat := min (mins (fun x => mins (gO (DO ft r c x w) (DO ft (r + x) c (hh - x) w) s w) (s + 1) 0) (hh - 1) 1) (mins (fun x => mins (gO (DO ft r c hh x) (DO ft r (c + x) hh (w - x)) s hh) (s + 1) 0) (w - 1) 1)
theorem dO_fuel (ft : Nat → Nat → Nat → Nat → Nat → Bool) : ∀ f g r c hh w s, 1 ≤ hh → 1 ≤ w → hh + w ≤ f → hh + w ≤ g → dO ft f r c hh w s = dO ft g r c hh w s
  | 0, _, _, _, _, _, _, h1, h2, h3, _ => absurd h3 (by omega)
  | f + 1, 0, _, _, _, _, _, h1, h2, _, h4 => absurd h4 (by omega)
  | f + 1, g + 1, r, c, hh, w, s, h1, h2, h3, h4 => by
    have e1 : it (fun x b => it (fun p b => if p &&& s = p then min b (w + dO ft f r c x w p + dO ft f (r + x) c (hh - x) w (s - p)) else b) (s + 1) 0 b) (hh - 1) 1 FAR = it (fun x b => it (fun p b => if p &&& s = p then min b (w + dO ft g r c x w p + dO ft g (r + x) c (hh - x) w (s - p)) else b) (s + 1) 0 b) (hh - 1) 1 FAR :=
      it_congr _ _ _ (fun x b x1 x2 => it_congr _ _ _ (fun p b _ _ => by rw [dO_fuel ft f g r c x w p (by omega) h2 (by omega) (by omega), dO_fuel ft f g (r + x) c (hh - x) w (s - p) (by omega) h2 (by omega) (by omega)]))
    have e2 : ∀ b0, it (fun x b => it (fun p b => if p &&& s = p then min b (hh + dO ft f r c hh x p + dO ft f r (c + x) hh (w - x) (s - p)) else b) (s + 1) 0 b) (w - 1) 1 b0 = it (fun x b => it (fun p b => if p &&& s = p then min b (hh + dO ft g r c hh x p + dO ft g r (c + x) hh (w - x) (s - p)) else b) (s + 1) 0 b) (w - 1) 1 b0 := fun b0 =>
      it_congr _ _ _ (fun x b x1 x2 => it_congr _ _ _ (fun p b _ _ => by rw [dO_fuel ft f g r c hh x p h1 (by omega) (by omega) (by omega), dO_fuel ft f g r (c + x) hh (w - x) (s - p) h1 (by omega) (by omega) (by omega)]))
    simp only [dO]
    rw [e1, e2]
theorem DO_rec (ft : Nat → Nat → Nat → Nat → Nat → Bool) {r c hh w s : Nat} (h1 : 1 ≤ hh) (h2 : 1 ≤ w) : DO ft r c hh w s = if s = 0 then 0 else if fitc ft r c hh w s then 0 else mO ft r c hh w s := by
  obtain ⟨f, hf⟩ : ∃ f, hh + w = f + 1 := ⟨hh + w - 1, by omega⟩
  have e1 : it (fun x b => it (fun p b => if p &&& s = p then min b (w + dO ft f r c x w p + dO ft f (r + x) c (hh - x) w (s - p)) else b) (s + 1) 0 b) (hh - 1) 1 FAR = min FAR (mins (fun x => mins (gO (DO ft r c x w) (DO ft (r + x) c (hh - x) w) s w) (s + 1) 0) (hh - 1) 1) :=
    it_mins' _ _ _ _ (Nat.le_refl _) (fun x b x1 x2 hb => it_mins' _ _ _ _ hb (fun p b' _ _ hb' => by
      unfold gO DO
      rw [dO_fuel ft f (x + w) r c x w p (by omega) h2 (by omega) (by omega), dO_fuel ft f (hh - x + w) (r + x) c (hh - x) w (s - p) (by omega) h2 (by omega) (by omega)]
      by_cases cp : p &&& s = p
      · rw [if_pos cp, if_pos cp]
      · rw [if_neg cp, if_neg cp]; omega))
  have e2 : ∀ b0, b0 ≤ FAR → it (fun x b => it (fun p b => if p &&& s = p then min b (hh + dO ft f r c hh x p + dO ft f r (c + x) hh (w - x) (s - p)) else b) (s + 1) 0 b) (w - 1) 1 b0 = min b0 (mins (fun x => mins (gO (DO ft r c hh x) (DO ft r (c + x) hh (w - x)) s hh) (s + 1) 0) (w - 1) 1) := fun b0 hb0 =>
    it_mins' _ _ _ _ hb0 (fun x b x1 x2 hb => it_mins' _ _ _ _ hb (fun p b' _ _ hb' => by
      unfold gO DO
      rw [dO_fuel ft f (hh + x) r c hh x p h1 (by omega) (by omega) (by omega), dO_fuel ft f (hh + (w - x)) r (c + x) hh (w - x) (s - p) h1 (by omega) (by omega) (by omega)]
      by_cases cp : p &&& s = p
      · rw [if_pos cp, if_pos cp]
      · rw [if_neg cp, if_neg cp]; omega))
  unfold DO
  rw [hf]
  simp only [dO]
  rw [e1, e2 _ (by omega)]
  unfold mO
  have m1 := mins_le (fun x => mins (gO (DO ft r c x w) (DO ft (r + x) c (hh - x) w) s w) (s + 1) 0) (hh - 1) 1
  rw [Nat.min_eq_right m1]
theorem mO_le (ft : Nat → Nat → Nat → Nat → Nat → Bool) (r c hh w s : Nat) : mO ft r c hh w s ≤ FAR := by
  unfold mO
  have m1 := mins_le (fun x => mins (gO (DO ft r c x w) (DO ft (r + x) c (hh - x) w) s w) (s + 1) 0) (hh - 1) 1
  omega
theorem DO_le (ft : Nat → Nat → Nat → Nat → Nat → Bool) {r c hh w : Nat} (s : Nat) (h1 : 1 ≤ hh) (h2 : 1 ≤ w) : DO ft r c hh w s ≤ FAR := by
  rw [DO_rec ft h1 h2]
  have := mO_le ft r c hh w s
  split
  · omega
  · split <;> omega
/-- the weights that a set of asks wants -/
def lwt (u : Nat → Nat) (m s : Nat) : Nat := sm (fun i => s / 2 ^ i % 2 * u i) m 0
theorem bit_add : ∀ p, p < 16 → ∀ s, s < 16 → p &&& s = p → ∀ i, i < 4 → p / 2 ^ i % 2 + (s - p) / 2 ^ i % 2 = s / 2 ^ i % 2 := by decide +kernel
theorem sub_le16 : ∀ p, p < 16 → ∀ s, s < 16 → p &&& s = p → p ≤ s := by decide +kernel
theorem lwt_add (u : Nat → Nat) {m p s : Nat} (hm : m ≤ 4) (hp : p < 16) (hs : s < 16) (h : p &&& s = p) : lwt u m p + lwt u m (s - p) = lwt u m s := by
  unfold lwt
  rw [← sm_plus]
  refine sm_congr m 0 (fun i _ hi => ?_)
  rw [← Nat.add_mul, bit_add p hp s hs h i (by omega)]
theorem lwt_0 (u : Nat → Nat) (m : Nat) : lwt u m 0 = 0 := by
  unfold lwt
  have : ∀ d j, sm (fun i => 0 / 2 ^ i % 2 * u i) d j = 0 := fun d => by
    induction d with
    | zero => intro j; rfl
    | succ d ih =>
      intro j
      simp only [sm]
      rw [ih, Nat.zero_div, Nat.zero_mod, Nat.zero_mul]
  exact this m 0
theorem lwt_1 (u : Nat → Nat) {m k : Nat} (hm : m ≤ 4) (hk : k < m) : lwt u m (2 ^ k) = u k := by
  unfold lwt
  rcases (by omega : m = 1 ∨ m = 2 ∨ m = 3 ∨ m = 4) with rfl | rfl | rfl | rfl
  · rcases (by omega : k = 0) with rfl
    simp [sm]
  · rcases (by omega : k = 0 ∨ k = 1) with rfl | rfl <;> simp [sm]
  · rcases (by omega : k = 0 ∨ k = 1 ∨ k = 2) with rfl | rfl | rfl <;> simp [sm]
  · rcases (by omega : k = 0 ∨ k = 1 ∨ k = 2 ∨ k = 3) with rfl | rfl | rfl | rfl <;> simp [sm]
theorem pow_lt {m k : Nat} (hm : m ≤ 4) (h : 2 ^ k < 2 ^ m) : k < m := (Nat.pow_lt_pow_iff_right (by decide)).mp h
theorem pow_16 {m : Nat} (hm : m ≤ 4) : 1 ≤ 2 ^ m ∧ 2 ^ m ≤ 16 := by
  rcases (by omega : m = 0 ∨ m = 1 ∨ m = 2 ∨ m = 3 ∨ m = 4) with rfl | rfl | rfl | rfl | rfl <;> decide
/-- too light: never -/
theorem DO_far (ft : Nat → Nat → Nat → Nat → Nat → Bool) (W : Nat → Nat → Nat → Nat → Nat) (u : Nat → Nat) {m : Nat} (hm : m ≤ 4) (Wd : ∀ r c x y w, W r c (x + y) w = W r c x w + W (r + x) c y w) (Wa : ∀ r c hh x y, W r c hh (x + y) = W r c hh x + W r (c + x) hh y) (hf : ∀ k r c hh w, k < m → ft k r c hh w = true → u k ≤ W r c hh w) :
    ∀ n r c hh w s, hh + w ≤ n → 1 ≤ hh → 1 ≤ w → s < 2 ^ m → W r c hh w < lwt u m s → DO ft r c hh w s = FAR
  | 0, _, _, _, _, _, h0, h1, _, _, _ => absurd h0 (by omega)
  | n + 1, r, c, hh, w, s, h0, h1, h2, hs, hw => by
    have m16 := pow_16 hm
    have s0 : s ≠ 0 := fun e => by rw [e, lwt_0] at hw; omega
    have nf : ¬ fitc ft r c hh w s := fun q => by
      have one : ∀ k, s = 2 ^ k → ft k r c hh w = true → False := fun k e1 e2 => by
        have hk : k < m := pow_lt hm (by rw [← e1]; exact hs)
        have := hf k r c hh w hk e2
        rw [e1, lwt_1 u hm hk] at hw
        omega
      rcases q with q | q | q | q
      · exact one 0 q.1 q.2
      · exact one 1 q.1 q.2
      · exact one 2 q.1 q.2
      · exact one 3 q.1 q.2
    rw [DO_rec ft h1 h2, if_neg s0, if_neg nf]
    have far : ∀ (A B : Nat → Nat) (pr wa wb : Nat), (∀ p, p < 2 ^ m → wa < lwt u m p → A p = FAR) → (∀ p, p < 2 ^ m → wb < lwt u m p → B p = FAR) → wa + wb = W r c hh w → mins (gO A B s pr) (s + 1) 0 = FAR := fun A B pr wa wb hA hB hab => by
      have lo : ∀ d j, j + d ≤ s + 1 → mins (gO A B s pr) d j = FAR := fun d => by
        induction d with
        | zero => intro j _; rfl
        | succ d ih =>
          intro j hj
          simp only [mins]
          rw [ih (j + 1) (by omega)]
          unfold gO
          by_cases cp : j &&& s = j
          · rw [if_pos cp]
            have ad := lwt_add u (m := m) hm (show j < 16 by omega) (show s < 16 by omega) cp
            by_cases ca : wa < lwt u m j
            · rw [hA j (by omega) ca]
              exact Nat.min_eq_right (Nat.le_trans (Nat.le_add_left FAR pr) (Nat.le_add_right _ _))
            · rw [hB (s - j) (by omega) (by omega)]
              exact Nat.min_eq_right (Nat.le_add_left FAR _)
          · rw [if_neg cp]; omega
      exact lo (s + 1) 0 (by omega)
    unfold mO
    rw [mins_far (hh - 1) 1 (fun x x1 x2 => far _ _ _ (W r c x w) (W (r + x) c (hh - x) w) (fun p hp hl => DO_far ft W u hm Wd Wa hf n r c x w p (by omega) (by omega) h2 hp hl) (fun p hp hl => DO_far ft W u hm Wd Wa hf n (r + x) c (hh - x) w p (by omega) (by omega) h2 hp hl) (by rw [← Wd, show x + (hh - x) = hh by omega])),
      mins_far (w - 1) 1 (fun x x1 x2 => far _ _ _ (W r c hh x) (W r (c + x) hh (w - x)) (fun p hp hl => DO_far ft W u hm Wd Wa hf n r c hh x p (by omega) h1 (by omega) hp hl) (fun p hp hl => DO_far ft W u hm Wd Wa hf n r (c + x) hh (w - x) p (by omega) h1 (by omega) hp hl) (by rw [← Wa, show x + (w - x) = w by omega]))]
    omega
-- four loops, one in the other
abbrev dn (hh w r c hh' w' r' c' : Nat) : Prop := hh' < hh ∨ hh' = hh ∧ (w' < w ∨ w' = w ∧ (r' < r ∨ r' = r ∧ c' < c))
def Qd (R C : Nat) (V : Hp → Nat → Nat → Nat → Nat → Prop) (Fr : Hp → Prop) (hh w r c : Nat) (T : Hp) : Prop := (∀ hh' w' r' c', blkIn R C r' c' hh' w' → dn hh w r c hh' w' r' c' → V T hh' w' r' c') ∧ Fr T
theorem nest4 {R C : Nat} (hR : R ≤ 6) (hC : C ≤ 6) (V : Hp → Nat → Nat → Nat → Nat → Prop) (Fr : Hp → Prop)
    (G1 : Nat → Nat → Hp → Option Hp) (G2 : Nat → Nat → Nat → Hp → Option Hp) (G3 : Nat → Nat → Nat → Nat → Hp → Option Hp) (G4 : Nat → Nat → Nat → Nat → Nat → Hp → Option Hp)
    (e1 : ∀ N T, Fr T → G1 (N + 1) (R + 1) T = some T)
    (s1 : ∀ N hh T, hh ≤ R → Fr T → G1 (N + 1) hh T = (G2 hh FU 1 T).bind (fun t => G1 N (hh + 1) t))
    (e2 : ∀ hh N T, Fr T → G2 hh (N + 1) (C + 1) T = some T)
    (s2 : ∀ hh N w T, w ≤ C → Fr T → G2 hh (N + 1) w T = (G3 hh w FU 0 T).bind (fun t => G2 hh N (w + 1) t))
    (e3 : ∀ hh w N T, 1 ≤ hh → hh ≤ R → Fr T → G3 hh w (N + 1) (R - hh + 1) T = some T)
    (s3 : ∀ hh w N r T, r + hh ≤ R → Fr T → G3 hh w (N + 1) r T = (G4 hh w r FU 0 T).bind (fun t => G3 hh w N (r + 1) t))
    (e4 : ∀ hh w r N T, 1 ≤ w → w ≤ C → Fr T → G4 hh w r (N + 1) (C - w + 1) T = some T)
    (s4 : ∀ hh w r N c T, blkIn R C r c hh w → Qd R C V Fr hh w r c T → ∃ T', G4 hh w r (N + 1) c T = G4 hh w r N (c + 1) T' ∧ Fr T' ∧ V T' hh w r c ∧ ∀ hh' w' r' c', blkIn R C r' c' hh' w' → ¬ (hh' = hh ∧ w' = w ∧ r' = r ∧ c' = c) → V T hh' w' r' c' → V T' hh' w' r' c') :
    ∀ h, Fr h → ∃ h', G1 FU 1 h = some h' ∧ (∀ hh w r c, blkIn R C r c hh w → V h' hh w r c) ∧ Fr h' := by
  intro h hF
  have l4 : ∀ hh w r T, 1 ≤ hh → 1 ≤ w → w ≤ C → r + hh ≤ R → Qd R C V Fr hh w r 0 T → ∃ T', G4 hh w r FU 0 T = some T' ∧ Qd R C V Fr hh w (r + 1) 0 T' := fun hh w r T a1 a2 a3 a4 q => by
    obtain ⟨T', t1, t2⟩ := lpE (fun N j T => G4 hh w r N j T) (C - w + 1) id (fun j T => Qd R C V Fr hh w r j T) (fun N T q => e4 hh w r N T a2 a3 q.2)
      (fun N j T hj q => by
        obtain ⟨T', x1, x2, x3, x4⟩ := s4 hh w r N j T ⟨a1, a2, a4, by omega⟩ q
        refine ⟨T', x1, fun hh' w' r' c' b d => ?_, x2⟩
        by_cases e : hh' = hh ∧ w' = w ∧ r' = r ∧ c' = j
        · obtain ⟨rfl, rfl, rfl, rfl⟩ := e
          exact x3
        · exact x4 hh' w' r' c' b e (q.1 hh' w' r' c' b (by omega)))
      (C - w + 1) FU 0 T (by omega) (FU_gt (by omega)) q
    exact ⟨T', t1, fun hh' w' r' c' b d => t2.1 hh' w' r' c' b (by omega), t2.2⟩
  have l3 : ∀ hh w T, 1 ≤ hh → hh ≤ R → 1 ≤ w → w ≤ C → Qd R C V Fr hh w 0 0 T → ∃ T', G3 hh w FU 0 T = some T' ∧ Qd R C V Fr hh (w + 1) 0 0 T' := fun hh w T a1 a2 a3 a4 q => by
    obtain ⟨T', t1, t2⟩ := lpE (fun N j T => G3 hh w N j T) (R - hh + 1) id (fun j T => Qd R C V Fr hh w j 0 T) (fun N T q => e3 hh w N T a1 a2 q.2)
      (fun N j T hj q => by
        obtain ⟨T', x1, x2⟩ := l4 hh w j T a1 a3 a4 (by omega) q
        refine ⟨T', ?_, x2⟩
        rw [s3 hh w N j T (by omega) q.2, x1, Option.bind_some])
      (R - hh + 1) FU 0 T (by omega) (FU_gt (by omega)) q
    exact ⟨T', t1, fun hh' w' r' c' b d => t2.1 hh' w' r' c' b (by omega), t2.2⟩
  have l2 : ∀ hh T, 1 ≤ hh → hh ≤ R → Qd R C V Fr hh 1 0 0 T → ∃ T', G2 hh FU 1 T = some T' ∧ Qd R C V Fr (hh + 1) 1 0 0 T' := fun hh T a1 a2 q => by
    obtain ⟨T', t1, t2⟩ := lpE (fun N j T => G2 hh N j T) (C + 1) id (fun j T => Qd R C V Fr hh j 0 0 T ∧ 1 ≤ j) (fun N T q => e2 hh N T q.1.2)
      (fun N j T hj q => by
        obtain ⟨T', x1, x2⟩ := l3 hh j T a1 a2 q.2 (by omega) q.1
        refine ⟨T', ?_, x2, by omega⟩
        rw [s2 hh N j T (by omega) q.1.2, x1, Option.bind_some])
      C FU 1 T (by omega) (FU_gt (by omega)) ⟨q, Nat.le_refl 1⟩
    exact ⟨T', t1, fun hh' w' r' c' b d => t2.1.1 hh' w' r' c' b (by omega), t2.1.2⟩
  obtain ⟨T', t1, t2⟩ := lpE (fun N j T => G1 N j T) (R + 1) id (fun j T => Qd R C V Fr j 1 0 0 T ∧ 1 ≤ j) (fun N T q => e1 N T q.1.2)
    (fun N j T hj q => by
      obtain ⟨T', x1, x2⟩ := l2 j T q.2 (by omega) q.1
      refine ⟨T', ?_, x2, by omega⟩
      rw [s1 N j T (by omega) q.1.2, x1, Option.bind_some])
    R FU 1 h (by omega) (FU_gt (by omega)) ⟨⟨fun hh' w' r' c' b d => absurd d (by omega), hF⟩, Nat.le_refl 1⟩
  exact ⟨T', t1, fun hh w r c b => t2.1.1 hh w r c b (by omega), t2.1.2⟩
