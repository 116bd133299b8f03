/-! rounds: next, serve -/
theorem nI_div {a b : Nat} (ha : a < 2147483648) (hb : b < 2147483648) : nI a / nI b = nI (a / b) := (Int32.ofNat_div ha hb).symm
theorem it_inv {α : Type} {f : Nat → α → α} (P : α → Prop) : ∀ (d j : Nat) (a : α), P a → (∀ i a, j ≤ i → i < j + d → P a → P (f i a)) → P (it f d j a)
  | 0, _, _, h, _ => h
  | d + 1, j, a, h, hs => it_inv P d (j + 1) (f j a) (hs j a (Nat.le_refl j) (by omega) h) (fun i a h1 h2 => hs i a (by omega) (by omega))
theorem lgt_spec (B : Nat → Pr) (a m r : Int32) (n : Nat) : lgt B a m r n = -9 ∨ ∃ t, t < n ∧ lgt B a m r n = nI t ∧ srv (B t) a m r := by
  refine it_inv (fun f : Int32 => f = -9 ∨ ∃ t, t < n ∧ f = nI t ∧ srv (B t) a m r) n 0 (-9) (Or.inl rfl) (fun i f _ hi hf => ?_)
  by_cases q : srv (B i) a m r ∧ (f = -9 ∨ ¬ pWt (B (ix f)) ≤ pWt (B i))
  · rw [if_pos q]; exact Or.inr ⟨i, by omega, rfl, q.1⟩
  · rw [if_neg q]; exact hf
abbrev dA (d : Nat) : Int32 := if d = 0 then 1 else 0
def fcOk (B : Nat → Pr) (n : Nat) (b : Int32) : Prop := b = -9 ∨ ∃ i d x t, i < n ∧ b = nI (1000 * i + 100 * d + 10 * x + t) ∧ (d = 0 ∨ d = 1) ∧ (t = 0 ∨ t = 1) ∧ B i 6 = 0 ∧ okX (dA d) (ix (B i 2)) (ix (B i 3)) x
theorem cutF_ok {K : Nat → Int32} {B : Nat → Pr} {i n d E x : Nat} {a m r : Int32} {s : Int32 × Int32} (hi : i < n) (hd : d = 0 ∨ d = 1) (hx : okX (dA d) (ix (B i 2)) (ix (B i 3)) x) (h : fcOk B n s.1) : fcOk B n (cutF K (B i) i a m r (dA d) d E x s).1 := by
  unfold cutF
  by_cases c : ¬ s.2 ≤ nI E ∧ (srv (ah K (dA d) (B i) x) a m r ∨ srv (bh K (dA d) (B i) x) a m r)
  · rw [if_pos c]
    have h6 : B i 6 = 0 := c.2.elim (fun q => q.1) (fun q => q.1)
    refine Or.inr ⟨i, d, x, _, hi, rfl, hd, ?_, h6, hx⟩
    by_cases q : srv (ah K (dA d) (B i) x) a m r
    · rw [if_pos q]; exact Or.inl rfl
    · rw [if_neg q]; exact Or.inr rfl
  · rw [if_neg c]; exact h
theorem fcut_ok (K : Nat → Int32) (a m r : Int32) (B : Nat → Pr) (n : Nat) : fcOk B n (fcut K a m r B n).1 ∧ (n = 24 → (fcut K a m r B n).1 = -9) := by
  refine ⟨?_, fun e => by unfold fcut; rw [if_pos e]⟩
  unfold fcut
  by_cases e : n = 24
  · rw [if_pos e]; exact Or.inl rfl
  · rw [if_neg e]
    refine it_inv (fun s : Int32 × Int32 => fcOk B n s.1) n 0 _ (Or.inl rfl) (fun i s _ hi hs => ?_)
    unfold pieceF
    refine it_inv (fun s : Int32 × Int32 => fcOk B n s.1) _ 1 _ ?_ (fun x s x1 x2 h => cutF_ok (d := 1) (by omega) (Or.inr rfl) ⟨x1, by rw [if_pos (show dA 1 = 0 by decide)]; omega⟩ h)
    exact it_inv (fun s : Int32 × Int32 => fcOk B n s.1) _ 1 _ hs (fun x s x1 x2 h => cutF_ok (d := 0) (by omega) (Or.inl rfl) ⟨x1, by rw [if_neg (by decide)]; omega⟩ h)
theorem told_div {i d x t : Nat} (hi : i < 24) (hd : d ≤ 1) (hx : x ≤ 9) (ht : t ≤ 1) : nI (1000 * i + 100 * d + 10 * x + t) / 1000 = nI i ∧ nI (1000 * i + 100 * d + 10 * x + t) / 100 - nI (1000 * i + 100 * d + 10 * x + t) / 100 / 10 * 10 = nI d ∧ nI (1000 * i + 100 * d + 10 * x + t) / 10 - nI (1000 * i + 100 * d + 10 * x + t) / 10 / 10 * 10 = nI x ∧ nI (1000 * i + 100 * d + 10 * x + t) - nI (1000 * i + 100 * d + 10 * x + t) / 10 * 10 = nI t := by
  rw [show (1000 : Int32) = nI 1000 from rfl, show (100 : Int32) = nI 100 from rfl, show (10 : Int32) = nI 10 from rfl, nI_div (by omega) (by omega), nI_div (by omega) (by omega), nI_div (by omega) (by omega), nI_div (by omega) (by omega), nI_div (by omega) (by omega), nI_mul, nI_mul, nI_mul, nI_sub (by omega), nI_sub (by omega), nI_sub (by omega)]
  have e1 : (1000 * i + 100 * d + 10 * x + t) / 1000 = i := by omega
  have e2 : (1000 * i + 100 * d + 10 * x + t) / 100 - (1000 * i + 100 * d + 10 * x + t) / 100 / 10 * 10 = d := by omega
  have e3 : (1000 * i + 100 * d + 10 * x + t) / 10 - (1000 * i + 100 * d + 10 * x + t) / 10 / 10 * 10 = x := by omega
  have e4 : (1000 * i + 100 * d + 10 * x + t) - (1000 * i + 100 * d + 10 * x + t) / 10 * 10 = t := by omega
  rw [e1, e2, e3, e4]
  exact ⟨rfl, rfl, rfl, rfl⟩
theorem okX_le {d hh w x : Nat} (b2 : hh ≤ 6) (b3 : w ≤ 6) (hx : okX (dA d) hh w x) : x ≤ 9 := by
  have := hx.2
  split at this <;> omega
theorem d_ite {d : Nat} (hd : d = 0 ∨ d = 1) : (if nI d = 0 then (some 1 : Option Int32) else some 0) = some (dA d) := by
  rcases hd with rfl | rfl <;> rfl
theorem m_make (h : Hp) {i n R C r c hh w x d t : Nat} (hi : i < n) (hn : n < 24) (hm : h 111 9 = nI n) (hR : R ≤ 6) (hC : C ≤ 6) (ok : okP (h 113) R C (mrow h i) r c hh w) (h6 : mrow h i 6 = 0) (hd : d = 0 ∨ d = 1) (ht : t = 0 ∨ t = 1) (hx : okX (dA d) hh w x) :
    ∃ h', f_X12_make h (nI (1000 * i + 100 * d + 10 * x + t)) = some (nI (if t = 1 then n else i), h') ∧ h' 111 9 = nI (n + 1) ∧ mrow h' i = (if t = 1 then ah (h 113) (dA d) (mrow h i) x else setp (ah (h 113) (dA d) (mrow h i) x) 6 1) ∧ mrow h' n = (if t = 1 then setp (bh (h 113) (dA d) (mrow h i) x) 6 1 else bh (h 113) (dA d) (mrow h i) x) ∧ (∀ k, k ≠ i → k ≠ n → mrow h' k = mrow h k) ∧ ∀ k j, ¬ (115 ≤ k ∧ k ≤ 122) → ¬ (k = 111 ∧ j = 9) → h' k j = h k j := by
  have l0 : r + hh ≤ R := ok.2.2.2.2.2.2.1
  have l1 : c + w ≤ C := ok.2.2.2.2.2.2.2.1
  obtain ⟨f, f1, f2, f3, f4, f5, f6⟩ := m_makeCut h hi hn hm hR hC ok h6 hx
  obtain ⟨d1, d2, d3, d4⟩ := told_div (i := i) (d := d) (x := x) (t := t) (by omega) (by omega) (okX_le (by omega) (by omega) hx) (by omega)
  have fr : ∀ s k j, ¬ (115 ≤ k ∧ k ≤ 122) → ¬ (k = 111 ∧ j = 9) → u2 f 119 s 1 k j = h k j := fun s k j h1 h2 => by rw [u2_at, if_neg (by omega), f6 k j h1 h2]
  have st : ∀ s, s < 24 → f_X12_make h (nI (1000 * i + 100 * d + 10 * x + t)) = (if nI t = 1 then some (nI n) else some (nI i)).bind (fun x4_6 => if inB x4_6 24 then some (x4_6, u2 f 119 (ix x4_6) 1) else none) := fun s hs => by
    simp only [f_X12_make, vB_def, d1, d2, d3, d4, d_ite hd, Option.bind_some, f1]
  rw [st 0 (by omega)]
  rcases ht with rfl | rfl
  · rw [if_neg (by decide), Option.bind_some, if_pos (inB_nI (show i < 24 by omega) (by omega)), ix_nI (by omega)]
    simp only [show ¬ (0 = 1) by decide, if_false]
    refine ⟨_, rfl, ?_, ?_, ?_, ?_, fr i⟩
    · rw [u2_at, if_neg (by omega)]; exact f2
    · rw [mrow_set6, f3]
    · rw [mrow_oth _ _ (by omega) (by omega), f4]
    · intro k h1 h2
      rw [mrow_oth _ _ h1 (by omega), f5 k h1 h2]
  · rw [if_pos (show nI 1 = (1 : Int32) from rfl), Option.bind_some, if_pos (inB_nI (show n < 24 by omega) (by omega)), ix_nI (by omega)]
    simp only [if_true]
    refine ⟨_, rfl, ?_, ?_, ?_, ?_, fr n⟩
    · rw [u2_at, if_neg (by omega)]; exact f2
    · rw [mrow_oth _ _ (by omega) (by omega), f3]
    · rw [mrow_set6, f4]
    · intro k h1 h2
      rw [mrow_oth _ _ h2 (by omega), f5 k h1 h2]
theorem same4_Inv {k N : Nat} {h f : Hp} {q : Qp} (s : same4 f h) (H : Inv k N h q) : Inv k N f q := Inv_keep (Nat.le_refl _) (Nat.le_refl _) (fun a b hf => s a b (fun p => hf (by unfold free; omega))) H
theorem Inv_36 {k N : Nat} {h f : Hp} {q : Qp} (s : ∀ a, a ≠ 36 → a ≠ 37 → f a = h a) (H : Inv k N h q) : Inv k N f q := Inv_keep (Nat.le_refl _) (Nat.le_refl _) (fun a b hf => by rw [s a (fun p => hf (by unfold free; omega)) (fun p => hf (by unfold free; omega))]) H
theorem s_next {k N : Nat} {h : Hp} {q : Qp} (H : Inv k N h q) (a o v : Int32) : ∃ u b h2, f_X11_next q N h a o v = some u ∧ 137 ≤ u.2.1 ∧ f_X12_next u.2.2.1 a o v = some (b, h2) ∧ u.1 = b ∧ Inv (k + 1) u.2.1 h2 u.2.2.2 := by
  have hN : 137 ≤ N := H.1
  have H' := Inv_u0 (Nat.le_succ k) H
  have Hg := Inv_asked H a o v
  simp only [f_X11_next, f_X12_next, vB_def, k_isAsk, m_noAsk, Option.bind_some, asked_def]
  by_cases ca : askOk a o v
  · have A := asked_0 h N a o v
    generalize asked h N a o v = g at *
    have Hg' := Hg
    obtain ⟨_, R, C, hT, hF, hR, hB, hS, hO, hL, hK, hP, hC⟩ := Hg'
    obtain ⟨n, n1, n2, n3, n4, n5, n6⟩ := hB
    have cm : ∀ i, i < n → crow g (10 + i) = mrow g i := fun i hi => (n6 i hi).1
    have okc : ∀ i, i < n → okQ (g 113) R C (crow g (10 + i)) := fun i hi => by rw [cm i hi]; exact (n6 i hi).2
    have kl := k_lightest g N n2 n3
    obtain ⟨g', ks, kf⟩ := k_shortest g (A := N) hN n2 n3 hF.2.1 hF.2.2.2.1 hF.2.2.2.2.2.2.2.2.2.1 hF.2.2.2.2.2.2.2.2.2.2.1 okc
    rw [A.1, A.2.1, A.2.2] at kl ks
    rw [lgt_congr n2 cm] at kl
    rw [fcut_congr cm] at ks
    have mod : ∀ G, (∀ b, b ≠ 36 → b ≠ 37 → G b = g b) → ∃ F, f_X12_findCut (u2 G 111 0 0) a o v = some F ∧ F 111 24 = (fcut (g 113) a (a + o) v (mrow g) n).1 ∧ f_X12_standsFor F a o v = some (lgt (mrow g) a (a + o) v n) ∧ Inv (k + 1) (N + 1) F q := fun G hG => by
      have HG := Inv_u0 (Nat.le_succ k) (Inv_36 hG Hg)
      have gm : ∀ i, mrow (u2 G 111 0 0) i = mrow g i := fun i => mrow_keep i (fun b j hb => by rw [u2_at, if_neg (by omega), hG b (by omega) (by omega)])
      have g113 : u2 G 111 0 0 113 = g 113 := by rw [u0_ne _ _ (by decide), hG _ (by decide) (by decide)]
      have g9 : u2 G 111 0 0 111 9 = nI n := by rw [u0_j _ _ (by decide), hG _ (by decide) (by decide)]; exact n4
      obtain ⟨F, f1, f2, f3⟩ := m_findCut (u2 G 111 0 0) (n := n) (R := R) (C := C) a o v n2 hF.2.1 hF.2.2.2.1 g9 (fun i hi => by rw [gm, g113]; exact (n6 i hi).2)
      have ml := m_standsFor F (n := n) (R := R) (C := C) a o v n2 hF.2.1 hF.2.2.2.1 (by rw [f3 111 9 (by omega)]; exact g9) (fun i hi => by rw [same4_m f3, gm, same4_r f3 (by decide), g113]; exact (n6 i hi).2)
      rw [show mrow F = mrow g from funext (fun i => by rw [same4_m f3, gm])] at ml
      rw [show mrow (u2 G 111 0 0) = mrow g from funext gm, g113] at f2
      exact ⟨F, f1, congrArg Prod.fst f2, ml, same4_Inv f3 HG⟩
    simp only [if_pos ca, show ¬ (1 : Int32) = 0 by decide, if_false, if_true, kl, ks, Option.bind_some]
    by_cases c9 : lgt (mrow g) a (a + o) v n = -9
    · obtain ⟨F, f1, f2, f3, f4⟩ := mod g' kf
      rw [if_pos c9]
      refine ⟨_, _, F, rfl, (by show 137 ≤ N + 1; omega), (by rw [f1, Option.bind_some, f3, Option.bind_some, if_pos c9]), f2.symm, f4⟩
    · obtain ⟨F, f1, f2, f3, f4⟩ := mod g (fun _ _ _ => rfl)
      rw [if_neg c9]
      refine ⟨_, _, F, rfl, (by show 137 ≤ N + 1; omega), (by rw [f1, Option.bind_some, f3, Option.bind_some, if_neg c9]), rfl, f4⟩
  · simp only [if_neg ca, if_true]
    exact ⟨_, _, _, rfl, hN, (by simp only [show ¬ (1 : Int32) = 0 by decide, if_false]), rfl, H'⟩
