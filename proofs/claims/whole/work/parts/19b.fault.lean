/-! rounds: fault -/
def kd (x : Int32) : Int32 := if x = 80 then 0 else if x = 82 then 1 else if x = 65 then 2 else -9
theorem m_kind (x : Int32) : f_X12_kind x = some (kd x) := by
  unfold f_X12_kind kd
  rw [ite_some, ite_some, ite_some]
theorem k_kindOf (x : Int32) : f_X11_kindOf x = some (kd x) := by
  unfold f_X11_kindOf kd
  by_cases c1 : x = 65
  · rw [if_pos c1, if_neg (by rw [c1]; decide), if_neg (by rw [c1]; decide), if_pos c1]
  · rw [if_neg c1]
    by_cases c2 : x = 80
    · rw [if_pos c2, if_pos c2]
    · rw [if_neg c2, if_neg c2]
      by_cases c3 : x = 82
      · rw [if_pos c3, if_pos c3]
      · rw [if_neg c3, if_neg c3, if_neg c1]
theorem kd_012 {x : Int32} (h : ¬ kd x = -9) : kd x = 0 ∨ kd x = 1 ∨ kd x = 2 := by
  unfold kd at *
  by_cases c2 : x = 80
  · rw [if_pos c2]; exact Or.inl rfl
  · rw [if_neg c2] at h ⊢
    by_cases c3 : x = 82
    · rw [if_pos c3]; exact Or.inr (Or.inl rfl)
    · rw [if_neg c3] at h ⊢
      by_cases c1 : x = 65
      · rw [if_pos c1]; exact Or.inr (Or.inr rfl)
      · rw [if_neg c1] at h; exact absurd rfl h
abbrev bad (b : Int32) (R S W : Nat) : Prop := b = 47 ∧ (S = 0 ∨ S < W ∨ R = 6) ∨ ¬ b = 47 ∧ (kd b = -9 ∨ S = (if W = 0 then 6 else W))
/-- the first fault -/
def ff (T : Nat → Int32) (n : Nat) : Nat → Nat → Nat → Nat → Nat → Int32
  | 0, _, _, S, W => if S = 0 ∨ S < W then nI n else -9
  | d + 1, j, R, S, W => if bad (T j) R S W then nI j else if T j = 47 then ff T n d (j + 1) (R + 1) 0 S else ff T n d (j + 1) R (S + 1) W
/-- rows, columns and places that are read -/
def rd (T : Nat → Int32) : Nat → Nat → Nat → Nat → Nat → (Nat → Int32) → Nat × Nat × (Nat → Int32)
  | 0, _, R, S, _, P => (R, S, P)
  | d + 1, j, R, S, W, P => if T j = 47 then rd T d (j + 1) (R + 1) 0 S P else rd T d (j + 1) R (S + 1) W (va_up P (6 * (R - 1) + S) (kd (T j)))
def okS (R S W : Nat) : Prop := 1 ≤ R ∧ R ≤ 6 ∧ S ≤ 6 ∧ (R = 1 ∧ W = 0 ∨ 2 ≤ R ∧ 1 ≤ W ∧ W ≤ 6 ∧ S ≤ W)
theorem okS_a {b : Int32} {R S W : Nat} (o : okS R S W) (hb : ¬ bad b R S W) (h : b = 47) : okS (R + 1) 0 S := by
  have h1 : ¬ (S = 0 ∨ S < W ∨ R = 6) := fun q => hb (Or.inl ⟨h, q⟩)
  unfold okS at *
  omega
theorem okS_b {b : Int32} {R S W : Nat} (o : okS R S W) (hb : ¬ bad b R S W) (h : ¬ b = 47) : okS R (S + 1) W ∧ S < 6 := by
  have h1 : ¬ S = (if W = 0 then 6 else W) := fun q => hb (Or.inr ⟨h, Or.inr q⟩)
  unfold okS at *
  by_cases c : W = 0
  · rw [if_pos c] at h1; omega
  · rw [if_neg c] at h1; omega
theorem k_ff (h : Hp) {n : Nat} (hn : n ≤ 48) (e : h 1 1 = nI n) (K : Int32 × Int32 → Option Int32) (hK : ∀ S W, S ≤ 6 → W ≤ 6 → K (nI S, nI W) = some (if S = 0 ∨ S < W then nI n else -9)) : ∀ d N j R S W, j + d = n → d < N → okS R S W → L_X10_firstFault_9 h K N (nI R) (nI S) (nI W) (nI j) = some (ff (h 2) n d j R S W)
  | 0, N, j, R, S, W, hj, hN, o => by
    obtain ⟨N, rfl⟩ : ∃ q, N = q + 1 := ⟨N - 1, by omega⟩
    simp only [L_X10_firstFault_9, ff]
    rw [e, if_pos (nI_le (by omega) (by omega)), hK S W (by unfold okS at o; omega) (by unfold okS at o; omega)]
  | d + 1, N, j, R, S, W, hj, hN, o => by
    obtain ⟨N, rfl⟩ : ∃ q, N = q + 1 := ⟨N - 1, by omega⟩
    have o' := o
    unfold okS at o'
    simp only [L_X10_firstFault_9, ff, vB_def, vK, k_kindOf, Option.bind_some]
    rw [e, if_neg (nI_ge (show j < n by omega) (by omega)), if_pos (inB_nI (show j < 48 by omega) (by omega)), ix_nI (by omega), nI_1, nI_1, nI_1]
    by_cases b : h 2 j = 47
    · rw [if_pos b]
      by_cases c1 : S = 0
      · rw [if_pos (by rw [c1]; rfl), if_pos (Or.inl ⟨b, Or.inl c1⟩)]
      · rw [if_neg (nI_ne0 (by omega) (by omega))]
        by_cases c2 : S < W
        · rw [if_pos ((nI_ltI (by omega) (by omega)).mpr c2), if_pos (Or.inl ⟨b, Or.inr (Or.inl c2)⟩)]
        · rw [if_neg (fun q => c2 ((nI_ltI (by omega) (by omega)).mp q))]
          by_cases c3 : R = 6
          · rw [if_pos (by rw [c3]; rfl), if_pos (Or.inl ⟨b, Or.inr (Or.inr c3)⟩)]
          · have nb : ¬ bad (h 2 j) R S W := fun q => q.elim (fun q => q.2.elim c1 (fun q => q.elim c2 c3)) (fun q => q.1 b)
            rw [if_neg (fun q => c3 ((nI_eq (by omega) (by omega)).mp (q.trans (show (6 : Int32) = nI 6 from rfl)))), if_neg nb, if_pos b]
            exact k_ff h hn e K hK d N (j + 1) (R + 1) 0 S (by omega) (by omega) (okS_a o nb b)
    · rw [if_neg b, if_pos (inB_nI (show j < 48 by omega) (by omega))]
      by_cases c1 : kd (h 2 j) = -9
      · rw [if_pos c1, if_pos (Or.inr ⟨b, Or.inl c1⟩)]
      · rw [if_neg c1]
        have t : (if nI W = 0 then (some 6 : Option Int32) else some (nI W)) = some (nI (if W = 0 then 6 else W)) := by
          by_cases c : W = 0
          · rw [if_pos (by rw [c]; rfl), if_pos c]; rfl
          · rw [if_neg (nI_ne0 (by omega) (by omega)), if_neg c]
        rw [t, Option.bind_some]
        by_cases c2 : S = (if W = 0 then 6 else W)
        · rw [if_pos (by rw [← c2]), if_pos (Or.inr ⟨b, Or.inr c2⟩)]
        · have nb : ¬ bad (h 2 j) R S W := fun q => q.elim (fun q => b q.1) (fun q => q.2.elim c1 c2)
          have w6 : (if W = 0 then 6 else W) ≤ 6 := by split <;> omega
          rw [if_neg (fun q => c2 ((nI_eq (by omega) (by omega)).mp q)), if_neg nb, if_neg b]
          exact k_ff h hn e K hK d N (j + 1) R (S + 1) W (by omega) (by omega) (okS_b o nb b).1
theorem k_firstFault (h : Hp) {n : Nat} (hn : n ≤ 48) (e : h 1 1 = nI n) : f_X10_firstFault h = some (ff (h 2) n n 0 1 0 0) := by
  simp only [f_X10_firstFault, vB_def]
  refine k_ff h hn e _ (fun S W hS hW => ?_) n FU 0 1 0 0 (by omega) (FU_gt (by omega)) (by unfold okS; omega)
  simp only [vK]
  by_cases c : S = 0
  · rw [if_pos (by rw [c]; rfl), if_pos (Or.inl c), e]
  · rw [if_neg (nI_ne0 (by omega) (by omega))]
    by_cases c2 : S < W
    · rw [if_neg (nI_ge c2 (by omega)), if_pos (Or.inr c2), e]
    · rw [if_pos (nI_le (by omega) (by omega)), if_neg (fun q => q.elim c c2)]
abbrev sameR (T h : Hp) : Prop := ∀ k j, ¬ (k = 114 ∨ k = 111 ∧ (j = 7 ∨ j = 8)) → T k j = h k j
theorem m_ff {n : Nat} (hn : n ≤ 48) (B : Nat → Int32) (K : Int32 × Hp → Option (Int32 × Hp)) (hK : ∀ (T : Hp) R S W, okS R S W → T 111 2 = nI n → T 111 7 = nI R → T 111 8 = nI W → ∃ T', K (nI S, T) = some (if S = 0 ∨ S < W then nI n else -9, T') ∧ sameR T' T ∧ T' 114 = T 114 ∧ (¬ (S = 0 ∨ S < W) → T' 111 7 = nI R ∧ T' 111 8 = nI S)) :
    ∀ d N j R S W (T : Hp), j + d = n → d < N → okS R S W → T 111 2 = nI n → T 112 = B → T 111 7 = nI R → T 111 8 = nI W → ∃ T', L_X12_readForm_14 K N (nI S) (nI j) T = some (ff B n d j R S W, T') ∧ sameR T' T ∧ (ff B n d j R S W = -9 → T' 111 7 = nI (rd B d j R S W (T 114)).1 ∧ T' 111 8 = nI (rd B d j R S W (T 114)).2.1 ∧ T' 114 = (rd B d j R S W (T 114)).2.2)
  | 0, N, j, R, S, W, T, hj, hN, o, t2, tB, t7, t8 => by
    obtain ⟨N, rfl⟩ : ∃ q, N = q + 1 := ⟨N - 1, by omega⟩
    obtain ⟨T', k1, k2, k3, k4⟩ := hK T R S W o t2 t7 t8
    simp only [L_X12_readForm_14, ff, rd]
    rw [t2, if_pos (nI_le (by omega) (by omega)), k1]
    refine ⟨T', rfl, k2, fun h9 => ?_⟩
    have c : ¬ (S = 0 ∨ S < W) := fun c => by
      rw [if_pos c] at h9
      exact nI_n9 (by omega) h9
    exact ⟨(k4 c).1, (k4 c).2, k3⟩
  | d + 1, N, j, R, S, W, T, hj, hN, o, t2, tB, t7, t8 => by
    obtain ⟨N, rfl⟩ : ∃ q, N = q + 1 := ⟨N - 1, by omega⟩
    have o' := o
    unfold okS at o'
    have j9 : ¬ nI j = (-9 : Int32) := nI_n9 (by omega)
    have most : (if nI R = 1 then (some 6 : Option Int32) else some (nI W)) = some (nI (if W = 0 then 6 else W)) := by
      by_cases c : W = 0
      · rw [if_pos (show nI R = 1 by rw [show R = 1 by omega]; rfl), if_pos c]; rfl
      · rw [if_neg (fun q => absurd ((nI_eq (by omega) (by omega)).mp (q.trans (show (1 : Int32) = nI 1 from rfl))) (by omega)), if_neg c]
    simp only [L_X12_readForm_14, ff, rd, vB_def, vK, m_kind, Option.bind_some]
    rw [t2, if_neg (nI_ge (show j < n by omega) (by omega)), t7, t8, most, Option.bind_some, if_pos (inB_nI (show j < 48 by omega) (by omega)), ix_nI (by omega), tB, nI_1, nI_1]
    by_cases b : B j = 47
    · rw [if_pos b, if_pos b, if_pos b]
      have whole : ((if nI S ≤ 0 then (some 0 : Option Int32) else if nI R = 1 then some 1 else if nI S = nI W then some 1 else some 0)) = some (if S = 0 ∨ S < W then 0 else 1) := by
        by_cases c1 : S = 0
        · rw [if_pos (by rw [c1]; decide), if_pos (Or.inl c1)]
        · rw [if_neg (nI_nle (by omega) (by omega))]
          by_cases c2 : R = 1
          · rw [if_pos (show nI R = 1 by rw [c2]; rfl), if_neg (by omega)]
          · rw [if_neg (fun q => absurd ((nI_eq (by omega) (by omega)).mp (q.trans (show (1 : Int32) = nI 1 from rfl))) (by omega))]
            by_cases c3 : S = W
            · rw [if_pos (by rw [c3]), if_neg (by omega)]
            · rw [if_neg (fun q => c3 ((nI_eq (by omega) (by omega)).mp q)), if_pos (by omega)]
      rw [whole, Option.bind_some]
      by_cases c1 : S = 0 ∨ S < W
      · have bd : bad (B j) R S W := Or.inl ⟨b, by omega⟩
        rw [if_pos c1, if_pos rfl, if_pos bd]
        exact ⟨T, rfl, fun k t _ => rfl, fun q => absurd q j9⟩
      · rw [if_neg c1, if_neg (by decide)]
        by_cases c3 : R = 6
        · rw [if_pos (by rw [c3]; rfl), if_pos (show bad (B j) R S W from Or.inl ⟨b, by omega⟩)]
          exact ⟨T, rfl, fun k t _ => rfl, fun q => absurd q j9⟩
        · have nb : ¬ bad (B j) R S W := fun q => q.elim (fun q => by omega) (fun q => q.1 b)
          rw [if_neg (fun q => c3 ((nI_eq (by omega) (by omega)).mp (q.trans (show (6 : Int32) = nI 6 from rfl)))), if_neg nb]
          have w7 : u2 T 111 8 (nI S) 111 7 = nI R := by rw [u2_at, if_neg (by omega)]; exact t7
          rw [w7, nI_1]
          obtain ⟨T', r1, r2, r3⟩ := m_ff hn B K hK d N (j + 1) (R + 1) 0 S (u2 (u2 T 111 8 (nI S)) 111 7 (nI (R + 1))) (by omega) (by omega) (okS_a o nb b) (by rw [u2_at, if_neg (by omega), u2_at, if_neg (by omega)]; exact t2) (by rw [u2_ne _ _ _ (by decide), u2_ne _ _ _ (by decide)]; exact tB) (by rw [u2_at, if_pos ⟨rfl, rfl⟩]) (by rw [u2_at, if_neg (by omega), u2_at, if_pos ⟨rfl, rfl⟩])
          refine ⟨T', r1, fun k t hk => by rw [r2 k t hk, u2_at, if_neg (by omega), u2_at, if_neg (by omega)], ?_⟩
          rw [show u2 (u2 T 111 8 (nI S)) 111 7 (nI (R + 1)) 114 = T 114 by rw [u2_ne _ _ _ (by decide), u2_ne _ _ _ (by decide)]] at r3
          exact r3
    · rw [if_neg b, if_neg b, if_neg b, if_pos (inB_nI (show j < 48 by omega) (by omega))]
      by_cases c1 : kd (B j) = -9
      · rw [if_pos c1, if_pos (show bad (B j) R S W from Or.inr ⟨b, Or.inl c1⟩)]
        exact ⟨T, rfl, fun k t _ => rfl, fun q => absurd q j9⟩
      · rw [if_neg c1]
        by_cases c2 : S = (if W = 0 then 6 else W)
        · rw [if_pos (by rw [← c2]), if_pos (show bad (B j) R S W from Or.inr ⟨b, Or.inr c2⟩)]
          exact ⟨T, rfl, fun k t _ => rfl, fun q => absurd q j9⟩
        · have nb : ¬ bad (B j) R S W := fun q => q.elim (fun q => b q.1) (fun q => q.2.elim c1 c2)
          have w6 : (if W = 0 then 6 else W) ≤ 6 := by split <;> omega
          have o2 := okS_b o nb b
          have ei : (6 : Int32) * (nI R - 1) + nI S = nI (6 * (R - 1) + S) := by
            rw [show (1 : Int32) = nI 1 from rfl, nI_sub (by omega), ix6]
          rw [if_neg (fun q => c2 ((nI_eq (by omega) (by omega)).mp q)), if_neg nb, ei, if_pos (inB_nI (show 6 * (R - 1) + S < 36 by omega) (by omega)), ix_nI (by omega)]
          obtain ⟨T', r1, r2, r3⟩ := m_ff hn B K hK d N (j + 1) R (S + 1) W (u2 T 114 (6 * (R - 1) + S) (kd (B j))) (by omega) (by omega) o2.1 (by rw [u2_ne _ _ _ (by decide)]; exact t2) (by rw [u2_ne _ _ _ (by decide)]; exact tB) (by rw [u2_ne _ _ _ (by decide)]; exact t7) (by rw [u2_ne _ _ _ (by decide)]; exact t8)
          refine ⟨T', r1, fun k t hk => by rw [r2 k t hk, u2_at, if_neg (by omega)], ?_⟩
          rw [u2_row] at r3
          exact r3
theorem m_readForm (h : Hp) {n : Nat} (hn : n ≤ 48) (e : h 111 2 = nI n) : ∃ h', f_X12_readForm h = some (ff (h 112) n n 0 1 0 0, h') ∧ sameR h' h ∧ (ff (h 112) n n 0 1 0 0 = -9 → h' 111 7 = nI (rd (h 112) n 0 1 0 0 (h 114)).1 ∧ h' 111 8 = nI (rd (h 112) n 0 1 0 0 (h 114)).2.1 ∧ h' 114 = (rd (h 112) n 0 1 0 0 (h 114)).2.2) := by
  have g2 : u2 (u2 h 111 7 1) 111 8 0 111 2 = nI n := by rw [u2_at, if_neg (by omega), u2_at, if_neg (by omega)]; exact e
  have g114 : u2 (u2 h 111 7 1) 111 8 0 114 = h 114 := by rw [u2_ne _ _ _ (by decide), u2_ne _ _ _ (by decide)]
  have key := m_ff hn (h 112) (fun (t_8 : (Int32 × Hp)) =>
    vK (fun (t_25 : Hp) => some ((t_25 111 2), t_25)) fun K_26 =>
    (if t_8.1 = 0 then K_26 t_8.2 else
    vK (fun (t_27 : Unit) => vB (u2 t_8.2 111 8 t_8.1) fun h_29 => some ((-9), h_29)) fun K_28 =>
    (if (t_8.2 111 7) ≤ 1 then K_28 () else (if (t_8.2 111 8) ≤ t_8.1 then K_28 () else K_26 t_8.2)))) (fun T R S W o t2 t7 t8 => by
      unfold okS at o
      simp only [vK, vB_def, t2, t7, t8]
      have fr : sameR (u2 T 111 8 (nI S)) T := fun k j hk => by rw [u2_at, if_neg (by omega)]
      have f7 : u2 T 111 8 (nI S) 111 7 = nI R := by rw [u2_at, if_neg (by omega)]; exact t7
      have f8 : u2 T 111 8 (nI S) 111 8 = nI S := by rw [u2_at, if_pos ⟨rfl, rfl⟩]
      have f114 : u2 T 111 8 (nI S) 114 = T 114 := u2_ne _ _ _ (by decide)
      by_cases c : S = 0
      · rw [if_pos (by rw [c]; rfl), if_pos (Or.inl c)]
        exact ⟨T, rfl, fun k j _ => rfl, rfl, fun q => absurd (Or.inl c) q⟩
      · rw [if_neg (nI_ne0 (by omega) (by omega))]
        by_cases c1 : R ≤ 1
        · rw [if_pos (show nI R ≤ 1 from nI_le (b := 1) c1 (by omega)), if_neg (show ¬ (S = 0 ∨ S < W) by omega)]
          exact ⟨_, rfl, fr, f114, fun _ => ⟨f7, f8⟩⟩
        · rw [if_neg (f_ge 1 rfl (by omega) (by omega))]
          by_cases c2 : W ≤ S
          · rw [if_pos (nI_le c2 (by omega)), if_neg (show ¬ (S = 0 ∨ S < W) by omega)]
            exact ⟨_, rfl, fr, f114, fun _ => ⟨f7, f8⟩⟩
          · rw [if_neg (nI_ge (by omega) (by omega)), if_pos (show S = 0 ∨ S < W by omega)]
            exact ⟨T, rfl, fun k j _ => rfl, rfl, fun q => absurd (Or.inr (by omega)) q⟩)
    n FU 0 1 0 0 (u2 (u2 h 111 7 1) 111 8 0) (by omega) (FU_gt (by omega)) (by unfold okS; omega) g2 (by rw [u2_ne _ _ _ (by decide), u2_ne _ _ _ (by decide)]) (by rw [u2_at, if_neg (by omega), u2_at, if_pos ⟨rfl, rfl⟩]; rfl) (by rw [u2_at, if_pos ⟨rfl, rfl⟩]; rfl)
  obtain ⟨T', r1, r2, r3⟩ := key
  rw [g114] at r3
  exact ⟨T', r1, fun k j hk => by rw [r2 k j hk, u2_at, if_neg (by omega), u2_at, if_neg (by omega)], r3⟩
theorem ff_congr {T T' : Nat → Int32} (n : Nat) : ∀ d j R S W, (∀ i, j ≤ i → i < j + d → T i = T' i) → ff T n d j R S W = ff T' n d j R S W
  | 0, _, _, _, _, _ => rfl
  | d + 1, j, R, S, W, h => by
    simp only [ff]
    rw [h j (Nat.le_refl j) (by omega), ff_congr n d (j + 1) (R + 1) 0 S (fun i h1 h2 => h i (by omega) (by omega)), ff_congr n d (j + 1) R (S + 1) W (fun i h1 h2 => h i (by omega) (by omega))]
theorem rd_congr {T T' : Nat → Int32} : ∀ d j R S W P, (∀ i, j ≤ i → i < j + d → T i = T' i) → rd T d j R S W P = rd T' d j R S W P
  | 0, _, _, _, _, _, _ => rfl
  | d + 1, j, R, S, W, P, h => by
    simp only [rd]
    rw [h j (Nat.le_refl j) (by omega), rd_congr d (j + 1) (R + 1) 0 S P (fun i h1 h2 => h i (by omega) (by omega)), rd_congr d (j + 1) R (S + 1) W _ (fun i h1 h2 => h i (by omega) (by omega))]
theorem s_fault {k N : Nat} {h : Hp} {q : Qp} (H : Inv k N h q) : ∃ a b h2, f_X11_fault h = some a ∧ f_X12_fault h = some (b, h2) ∧ a = b ∧ Inv (k + 1) N h2 q := by
  have H' := Inv_u0 (Nat.le_succ k) H
  obtain ⟨h0, R, C, hT, hF, hR, hB, hS, hO, hL, hK, hP, hC⟩ := H
  obtain ⟨n, n1, n2, n3, n4⟩ := hT
  obtain ⟨f, f1, f2, f3⟩ := m_readForm (u2 h 111 0 0) n1 (by rw [u0_j _ _ (by decide)]; exact n3)
  simp only [f_X11_fault, f_X12_fault, vB_def, k_firstFault h n1 n2, f1, Option.bind_some]
  refine ⟨_, _, f, rfl, rfl, ?_, ?_⟩
  · rw [u0_ne _ _ (by decide)]
    exact ff_congr n n 0 1 0 0 (fun i _ hi => n4 i (by omega))
  · exact Inv_keep (Nat.le_refl _) (Nat.le_refl _) (fun a b hf => f2 a b (fun p => hf (by unfold free; omega))) H'
