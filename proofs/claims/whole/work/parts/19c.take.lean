/-! form: the component's take and addUp -/
theorem k_take {n : Nat} (hn : n ≤ 48) (B : Nat → Int32) : ∀ d N j R S W (T : Hp), j + d = n → d < N → okS R S W → ff B n d j R S W = -9 → T 1 1 = nI n → T 2 = B →
    ∃ T', L_X4_take_7 N (nI (R - 1)) (nI S) (nI j) T = some (nI ((rd B d j R S W (T 4)).1 - 1), nI (rd B d j R S W (T 4)).2.1, T') ∧ T' 4 = (rd B d j R S W (T 4)).2.2 ∧ ∀ k, k ≠ 4 → T' k = T k
  | 0, N, j, R, S, W, T, hj, hN, o, h9, t2, tB => by
    obtain ⟨N, rfl⟩ : ∃ q, N = q + 1 := ⟨N - 1, by omega⟩
    simp only [L_X4_take_7, rd]
    rw [t2, if_pos (nI_le (by omega) (by omega))]
    exact ⟨T, rfl, rfl, fun k _ => rfl⟩
  | d + 1, N, j, R, S, W, T, hj, hN, o, h9, t2, tB => by
    obtain ⟨N, rfl⟩ : ∃ q, N = q + 1 := ⟨N - 1, by omega⟩
    have o' := o
    unfold okS at o'
    simp only [ff] at h9
    have nb : ¬ bad (B j) R S W := fun q => by
      rw [if_pos q] at h9
      exact nI_n9 (by omega) h9
    rw [if_neg nb] at h9
    simp only [L_X4_take_7, rd, vB_def, k_kindOf, Option.bind_some]
    rw [t2, if_neg (nI_ge (show j < n by omega) (by omega)), if_pos (inB_nI (show j < 48 by omega) (by omega)), ix_nI (by omega), tB, nI_1]
    by_cases b : B j = 47
    · rw [if_pos b] at h9
      rw [if_pos b, if_pos b, Option.bind_some, nI_1, show R - 1 + 1 = R + 1 - 1 by omega]
      exact k_take hn B d N (j + 1) (R + 1) 0 S T (by omega) (by omega) (okS_a o nb b) h9 t2 tB
    · rw [if_neg b] at h9
      have o2 := okS_b o nb b
      rw [if_neg b, if_neg b, if_neg (f_le 6 rfl (by omega) (by omega)), if_neg (f_le 6 rfl (by omega) (by omega)), if_pos (inB_nI (show j < 48 by omega) (by omega)), ix6', if_pos (inB_nI (show 6 * (R - 1) + S < 36 by omega) (by omega)), ix_nI (by omega), Option.bind_some, nI_1, nI_1]
      obtain ⟨T', r1, r2, r3⟩ := k_take hn B d N (j + 1) R (S + 1) W (u2 T 4 (6 * (R - 1) + S) (kd (B j))) (by omega) (by omega) o2.1 h9 (by rw [u2_ne _ _ _ (by decide)]; exact t2) (by rw [u2_ne _ _ _ (by decide)]; exact tB)
      rw [u2_row] at r1 r2
      exact ⟨T', r1, r2, fun k hk => by rw [r3 k hk, u2_ne _ _ _ hk]⟩
def cov (R S W : Nat) (P Q : Nat → Int32) : Prop := ∀ r c, (r + 1 < R ∧ c < W ∨ r + 1 = R ∧ c < S) → P (6 * r + c) = Q (6 * r + c) ∧ (Q (6 * r + c) = 0 ∨ Q (6 * r + c) = 1 ∨ Q (6 * r + c) = 2)
theorem rd_cov {n : Nat} (hn : n ≤ 48) (B : Nat → Int32) : ∀ d j R S W P Q, j + d = n → okS R S W → ff B n d j R S W = -9 → cov R S W P Q →
    (rd B d j R S W P).1 = (rd B d j R S W Q).1 ∧ (rd B d j R S W P).2.1 = (rd B d j R S W Q).2.1 ∧ 1 ≤ (rd B d j R S W Q).1 ∧ (rd B d j R S W Q).1 ≤ 6 ∧ 1 ≤ (rd B d j R S W Q).2.1 ∧ (rd B d j R S W Q).2.1 ≤ 6 ∧ ∀ r c, r < (rd B d j R S W Q).1 → c < (rd B d j R S W Q).2.1 → (rd B d j R S W P).2.2 (6 * r + c) = (rd B d j R S W Q).2.2 (6 * r + c) ∧ ((rd B d j R S W Q).2.2 (6 * r + c) = 0 ∨ (rd B d j R S W Q).2.2 (6 * r + c) = 1 ∨ (rd B d j R S W Q).2.2 (6 * r + c) = 2)
  | 0, j, R, S, W, P, Q, hj, o, h9, hc => by
    simp only [ff] at h9
    have c : ¬ (S = 0 ∨ S < W) := fun c => by
      rw [if_pos c] at h9
      exact nI_n9 (by omega) h9
    unfold okS at o
    simp only [rd]
    exact ⟨trivial, trivial, by omega, by omega, by omega, by omega, fun r c hr hc' => hc r c (by omega)⟩
  | d + 1, j, R, S, W, P, Q, hj, o, h9, hc => by
    have o' := o
    unfold okS at o'
    simp only [ff] at h9
    have nb : ¬ bad (B j) R S W := fun q => by
      rw [if_pos q] at h9
      exact nI_n9 (by omega) h9
    rw [if_neg nb] at h9
    simp only [rd]
    by_cases b : B j = 47
    · rw [if_pos b] at h9
      rw [if_pos b, if_pos b]
      have h1 : ¬ (S = 0 ∨ S < W ∨ R = 6) := fun q => nb (Or.inl ⟨b, q⟩)
      refine rd_cov hn B d (j + 1) (R + 1) 0 S P Q (by omega) (okS_a o nb b) h9 (fun r c hrc => hc r c ?_)
      omega
    · rw [if_neg b] at h9
      rw [if_neg b, if_neg b]
      have o2 := okS_b o nb b
      have k9 : ¬ kd (B j) = -9 := fun q => nb (Or.inr ⟨b, Or.inl q⟩)
      refine rd_cov hn B d (j + 1) R (S + 1) W _ _ (by omega) o2.1 h9 (fun r c hrc => ?_)
      unfold va_up
      by_cases e : 6 * r + c = 6 * (R - 1) + S
      · rw [if_pos e, if_pos e]
        exact ⟨rfl, kd_012 k9⟩
      · rw [if_neg e, if_neg e]
        refine hc r c ?_
        rcases hrc with h | h
        · exact Or.inl h
        · refine Or.inr ⟨h.1, ?_⟩
          have : c ≠ S := fun q => e (by omega)
          omega
-- sums
theorem blk_cell (g : Nat → Nat) (y x : Nat) : blk g 0 0 (y + 1) (x + 1) + blk g 0 0 y x = blk g 0 0 (y + 1) x + blk g 0 0 y (x + 1) + g (6 * y + x) := by
  have e1 := blk_down g 0 0 y 1 (x + 1)
  have e2 := blk_down g 0 0 y 1 x
  have e3 := blk_aside g y 0 1 x 1
  have e4 : blk g y (0 + x) 1 1 = g (6 * y + x) := by
    show (g (6 * y + (0 + x)) + 0) + 0 = _
    rw [Nat.zero_add]
    rfl
  rw [Nat.zero_add] at e1 e2
  omega
def bord (s : Nat → Int32) : Prop := ∀ j, j < 7 → s j = 0 ∧ s (7 * j) = 0
/-- sums as far as row y, column x -/
def sumsTo (s : Nat → Int32) (g : Nat → Nat) (C y x : Nat) : Prop := ∀ r c, (r ≤ y ∧ c ≤ C ∨ r = y + 1 ∧ c ≤ x) → s (7 * r + c) = nI (blk g 0 0 r c)
theorem k_addPlace (h : Hp) {a C y x : Nat} {g : Nat → Nat} (hy : y < 6) (hC : C ≤ 6) (hx : x < C) (hb : bord (h a)) (hs : sumsTo (h a) g C y x) : ∃ h', f_X4_addPlace h a (nI y) (nI x) (nI (g (6 * y + x))) = some h' ∧ bord (h' a) ∧ sumsTo (h' a) g C y (x + 1) ∧ ∀ k, k ≠ a → h' k = h k := by
  have e1 : nI y * (7 : Int32) + nI x = nI (7 * y + x) := by rw [show (7 : Int32) = nI 7 from rfl, nI_mul, nI_add, Nat.mul_comm]
  simp only [f_X4_addPlace, vB_def, e1]
  rw [show nI (7 * y + x) + (7 : Int32) = nI (7 * y + x + 7) from nI_add _ 7, nI_1, nI_1, if_pos (inB_nI (show 7 * y + x + 7 < 49 by omega) (by omega)), if_pos (inB_nI (show 7 * y + x + 1 < 49 by omega) (by omega)), if_pos (inB_nI (show 7 * y + x < 49 by omega) (by omega)), if_pos (inB_nI (show 7 * y + x + 7 + 1 < 49 by omega) (by omega)), ix_nI (by omega), ix_nI (by omega), ix_nI (by omega), ix_nI (by omega)]
  rw [show 7 * y + x + 7 = 7 * (y + 1) + x by omega, show 7 * y + x + 1 = 7 * y + (x + 1) by omega, hs (y + 1) x (by omega), hs y (x + 1) (by omega), hs y x (by omega)]
  have ev : nI (g (6 * y + x)) + nI (blk g 0 0 (y + 1) x) + nI (blk g 0 0 y (x + 1)) - nI (blk g 0 0 y x) = nI (blk g 0 0 (y + 1) (x + 1)) := by
    have := blk_cell g y x
    rw [nI_add, nI_add, nI_sub (by omega)]
    congr 1
    omega
  rw [ev]
  refine ⟨_, rfl, ?_, ?_, fun k hk => u2_ne _ _ _ hk⟩
  · intro j hj
    rw [u2_at, if_neg (by omega), u2_at, if_neg (by omega)]
    exact hb j hj
  · intro r c hrc
    by_cases e : 7 * r + c = 7 * (y + 1) + x + 1
    · have hr : r = y + 1 := by omega
      have hc : c = x + 1 := by omega
      subst hr hc
      rw [u2_at, if_pos ⟨rfl, by omega⟩]
    · rw [u2_at, if_neg (by omega)]
      exact hs r c (by omega)
theorem pwT_wtN {v : Int32} (h : v = 0 ∨ v = 1 ∨ v = 2) : pwT (ix v) = nI (wtN v) ∧ inB v 3 ∧ (if v = 1 then (some 1 : Option Int32) else some 0) = some (nI (rdN 1 v)) := by
  rcases h with rfl | rfl | rfl <;> exact ⟨by decide, by decide, by decide⟩
/-- the kinds as kindAt tells them -/
def kds (h : Hp) (K : Nat → Int32) (R C : Nat) : Prop := ∀ r c, r < R → c < C → h 4 (6 * r + c) = K (6 * r + c) ∧ (K (6 * r + c) = 0 ∨ K (6 * r + c) = 1 ∨ K (6 * r + c) = 2)
theorem k_kindAt' (h : Hp) {K : Nat → Int32} {R C r c : Nat} (hk : kds h K R C) (hR : R ≤ 6) (hC : C ≤ 6) (hr : r < R) (hc : c < C) : f_X4_kindAt h (nI r) (nI c) = some (K (6 * r + c)) := by
  obtain ⟨e1, e2⟩ := hk r c hr hc
  unfold f_X4_kindAt
  rw [ix6', if_pos (inB_nI (show 6 * r + c < 36 by omega) (by omega)), vB_def, ix_nI (by omega), e1]
  rcases e2 with e | e | e <;> rw [e] <;> rfl
theorem sumsTo_row {s : Nat → Int32} {g : Nat → Nat} {C y : Nat} (hb : bord s) (hy : y < 6) (h : ∀ r c, r ≤ y → c ≤ C → s (7 * r + c) = nI (blk g 0 0 r c)) : sumsTo s g C y 0 := by
  intro r c hrc
  rcases hrc with q | q
  · exact h r c q.1 q.2
  · have hc : c = 0 := by omega
    subst hc
    rw [Nat.add_zero, (hb r (by omega)).2]
    unfold blk
    have z : ∀ d j, sm (fun y => sm (fun x => g (6 * y + x)) 0 0) d j = 0 := fun d => by
      induction d with
      | zero => intro j; rfl
      | succ d ih =>
        intro j
        show 0 + sm (fun y => sm (fun x => g (6 * y + x)) 0 0) d (j + 1) = 0
        rw [ih]
    rw [z]
    rfl
theorem k_addUpIn (h : Hp) {K : Nat → Int32} {R C y : Nat} (hk : kds h K R C) (hR : R ≤ 6) (hC : C ≤ 6) (e4 : h 3 4 = nI C) (hy : y < R) (b5 : bord (h 5)) (b6 : bord (h 6)) (s5 : sumsTo (h 5) (fun i => wtN (K i)) C y 0) (s6 : sumsTo (h 6) (fun i => rdN 1 (K i)) C y 0) :
    ∃ h', L_X4_addUp_12 (nI y) FU 0 h = some h' ∧ bord (h' 5) ∧ bord (h' 6) ∧ sumsTo (h' 5) (fun i => wtN (K i)) C y C ∧ sumsTo (h' 6) (fun i => rdN 1 (K i)) C y C ∧ ∀ k, k ≠ 5 → k ≠ 6 → h' k = h k := by
  obtain ⟨T', q1, q2⟩ := lpE (fun N j a => L_X4_addUp_12 (nI y) N (nI j) a) C id
    (fun j a => bord (a 5) ∧ bord (a 6) ∧ sumsTo (a 5) (fun i => wtN (K i)) C y j ∧ sumsTo (a 6) (fun i => rdN 1 (K i)) C y j ∧ ∀ k, k ≠ 5 → k ≠ 6 → a k = h k)
    (fun N a hP => by
      have a4 : a 3 4 = nI C := by rw [hP.2.2.2.2 3 (by omega) (by omega)]; exact e4
      simp only [L_X4_addUp_12]
      rw [a4, if_pos (nI_le (Nat.le_refl _) (by omega))]; rfl)
    (fun N j a hj hP => by
      obtain ⟨p1, p2, p3, p4, p5⟩ := hP
      have a4 : a 3 4 = nI C := by rw [p5 3 (by omega) (by omega)]; exact e4
      have hk' : kds a K R C := fun r c hr hc => by rw [p5 4 (by omega) (by omega)]; exact hk r c hr hc
      obtain ⟨w1, w2, w3⟩ := pwT_wtN (hk y j hy hj).2
      obtain ⟨u, u1, u2', u3, u4⟩ := k_addPlace a (a := 5) (g := fun i => wtN (K i)) (show y < 6 by omega) hC hj p1 p3
      obtain ⟨v, v1, v2, v3, v4⟩ := k_addPlace u (a := 6) (g := fun i => rdN 1 (K i)) (show y < 6 by omega) hC hj (by rw [u4 6 (by omega)]; exact p2) (by rw [u4 6 (by omega)]; exact p4)
      simp only [L_X4_addUp_12, vB_def]
      rw [a4, if_neg (nI_ge hj (by omega)), k_kindAt' a hk' hR hC hy hj, Option.bind_some, if_pos w2, w1, u1, Option.bind_some, w3, Option.bind_some, v1, Option.bind_some, nI_1]
      refine ⟨v, rfl, ?_, v2, ?_, v3, fun k h1 h2 => by rw [v4 k h2, u4 k h1, p5 k h1 h2]⟩
      · rw [v4 5 (by omega)]; exact u2'
      · rw [v4 5 (by omega)]; exact u3)
    C FU 0 h (by omega) (FU_gt (by omega)) ⟨b5, b6, s5, s6, fun k _ _ => rfl⟩
  exact ⟨T', q1, q2⟩
theorem k_addUp (h : Hp) {K : Nat → Int32} {R C : Nat} (hk : kds h K R C) (hR : R ≤ 6) (hC : C ≤ 6) (e3 : h 3 3 = nI R) (e4 : h 3 4 = nI C) (b5 : bord (h 5)) (b6 : bord (h 6)) :
    ∃ h', f_X4_addUp h = some h' ∧ bord (h' 5) ∧ bord (h' 6) ∧ sums (h' 5) (fun i => wtN (K i)) R C ∧ sums (h' 6) (fun i => rdN 1 (K i)) R C ∧ ∀ k, k ≠ 5 → k ≠ 6 → h' k = h k := by
  have z : ∀ (s : Nat → Int32) (g : Nat → Nat), bord s → ∀ r c, r ≤ 0 → c ≤ C → s (7 * r + c) = nI (blk g 0 0 r c) := fun s g hb r c hr hc => by
    have : r = 0 := by omega
    subst this
    rw [Nat.mul_zero, Nat.zero_add, (hb c (by omega)).1]
    rfl
  obtain ⟨T', q1, q2, q3, q4, q5, q6⟩ := lpE (fun N j a => L_X4_addUp_2 N (nI j) a) R id
    (fun j a => bord (a 5) ∧ bord (a 6) ∧ (∀ r c, r ≤ j → c ≤ C → a 5 (7 * r + c) = nI (blk (fun i => wtN (K i)) 0 0 r c)) ∧ (∀ r c, r ≤ j → c ≤ C → a 6 (7 * r + c) = nI (blk (fun i => rdN 1 (K i)) 0 0 r c)) ∧ ∀ k, k ≠ 5 → k ≠ 6 → a k = h k)
    (fun N a hP => by
      have a3 : a 3 3 = nI R := by rw [hP.2.2.2.2 3 (by omega) (by omega)]; exact e3
      simp only [L_X4_addUp_2]
      rw [a3, if_pos (nI_le (Nat.le_refl _) (by omega))]; rfl)
    (fun N j a hj hP => by
      obtain ⟨p1, p2, p3, p4, p5⟩ := hP
      have a3 : a 3 3 = nI R := by rw [p5 3 (by omega) (by omega)]; exact e3
      obtain ⟨u, u1, w5, w6, t5, t6, u4⟩ := k_addUpIn a (K := K) (R := R) (C := C) (y := j) (fun r c hr hc => by rw [p5 4 (by omega) (by omega)]; exact hk r c hr hc) hR hC (by rw [p5 3 (by omega) (by omega)]; exact e4) hj p1 p2 (sumsTo_row p1 (by omega) p3) (sumsTo_row p2 (by omega) p4)
      simp only [L_X4_addUp_2, vB_def]
      rw [a3, if_neg (nI_ge hj (by omega)), u1, Option.bind_some, nI_1]
      refine ⟨u, rfl, w5, w6, fun r c hr hc => t5 r c (by omega), fun r c hr hc => t6 r c (by omega), fun k h1 h2 => by rw [u4 k h1 h2, p5 k h1 h2]⟩)
    R FU 0 h (by omega) (FU_gt (by omega)) ⟨b5, b6, z _ _ b5, z _ _ b6, fun k _ _ => rfl⟩
  refine ⟨T', ?_, q2, q3, q4, q5, q6⟩
  simp only [f_X4_addUp, vB_def]
  rw [show L_X4_addUp_2 FU 0 h = some T' from q1]
  rfl
