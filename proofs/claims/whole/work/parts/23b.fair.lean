/-! rounds: fair -/
theorem nI_mod {a n : Nat} (ha : a < 2147483648) (hn : n < 2147483648) : nI a - nI a / nI n * nI n = nI (a % n) := by
  have e := Nat.div_add_mod a n
  rw [Nat.mul_comm] at e
  have l : a / n * n ≤ a := by omega
  rw [nI_div ha hn, nI_mul, nI_sub l]
  congr 1
  omega
theorem k_vdF (h : Hp) {K : Nat → Int32} {R C r c hh w we re : Nat} (hR : R ≤ 6) (hC : C ≤ 6) (b : blkIn R C r c hh w) (we1 : 1 ≤ we) (weL : we ≤ 360) (reL : re ≤ 36) (hs5 : sums (h 5) (fun i => wtN (K i)) R C) (hs6 : sums (h 6) (fun i => rdN 1 (K i)) R C) (e3 : h 45 3 = nI we) (e4 : h 45 4 = nI re) : vdk_F h (D0 (DV pr_F (vdF K we re))) r c hh w 0 := by
  have w360 := wtB_le K (r := r) (c := c) (hh := hh) (w := w) (by omega) (by omega)
  have r36 := rdB_le K 1 (r := r) (c := c) (hh := hh) (w := w) (by omega) (by omega)
  have dr := DV_rec pr_F (vdF K we re) (r := r) (c := c) (hh := hh) (w := w) (by omega) (by omega)
  have le := DV_le pr_F (vdF K we re) (r := r) (c := c) (hh := hh) (w := w) (by omega) (by omega)
  have far : (∀ k, 1 ≤ k → wtB K r c hh w = k * we → rdB K 1 r c hh w = k * re → False) → DV pr_F (vdF K we re) r c hh w = FAR := fun q => by
    rcases Nat.lt_or_ge (DV pr_F (vdF K we re) r c hh w) FAR with l | l
    · obtain ⟨k, k1, k2, k3⟩ := fair_mult pr_F rfl (hh + w) r c hh w (Nat.le_refl _) (by omega) (by omega) l
      exact (q k k1 k2 k3).elim
    · exact Nat.le_antisymm le l
  unfold vdk_F f_X3_verdict
  rw [k_weightIn h hs5 hR hC (by omega) (by omega), Option.bind_some, vB_def, e3, e4]
  by_cases c0 : wtB K r c hh w = 0
  · rw [if_pos (by rw [c0]; rfl)]
    refine ⟨1000000, rfl, Or.inr ⟨by decide, ?_⟩⟩
    rw [show D0 (DV pr_F (vdF K we re)) r c hh w 0 = DV pr_F (vdF K we re) r c hh w from rfl, far (fun k k1 k2 _ => by
      rw [c0] at k2
      have : 1 * 1 ≤ k * we := Nat.mul_le_mul k1 we1
      omega)]
    rfl
  · rw [if_neg (nI_ne0 (by omega) (by omega)), if_neg (f_gt 1 rfl (by omega) (by omega)), if_neg (nI_ne0 (by omega) (by omega)), nI_mod (by omega) (by omega)]
    by_cases c1 : wtB K r c hh w % we = 0
    · have dm := Nat.div_add_mod (wtB K r c hh w) we
      rw [c1, Nat.add_zero] at dm
      have sl : wtB K r c hh w / we ≤ 360 := Nat.le_trans (Nat.div_le_self _ _) w360
      have s1 : 1 ≤ wtB K r c hh w / we := by
        rcases Nat.eq_zero_or_pos (wtB K r c hh w / we) with z | z
        · rw [z, Nat.mul_zero] at dm; omega
        · exact z
      obtain ⟨S, hS⟩ : ∃ S, S = wtB K r c hh w / we := ⟨_, rfl⟩
      rw [← hS] at dm sl s1
      have srl : S * re ≤ 360 * 36 := Nat.mul_le_mul sl reL
      rw [if_pos (by rw [c1]; rfl), if_neg (nI_ne0 (by omega) (by omega)), vB_def, k_rindIn h hs6 hR hC (by omega) (by omega), Option.bind_some, nI_div (by omega) (by omega), ← hS, nI_mul]
      by_cases c2 : rdB K 1 r c hh w = S * re
      · rw [if_pos (by rw [c2])]
        by_cases c3 : S = 1
        · rw [if_pos (by rw [c3]; rfl)]
          refine ⟨0, rfl, Or.inr ⟨by decide, ?_⟩⟩
          have v0 : vdF K we re r c hh w = 0 := if_pos ⟨by rw [← dm, c3, Nat.mul_one], by rw [c2, c3, Nat.one_mul]⟩
          rw [show D0 (DV pr_F (vdF K we re)) r c hh w 0 = DV pr_F (vdF K we re) r c hh w from rfl, dr, v0, if_pos rfl]
          rfl
        · rw [if_neg (fun z => c3 ((nI_eq (by omega) (by omega)).mp (z.trans (show (1 : Int32) = nI 1 from rfl))))]
          refine ⟨-1, rfl, Or.inl ⟨rfl, ?_⟩⟩
          have v1 : vdF K we re r c hh w = 1 := if_neg (fun z => c3 (by
            have z1 := z.1
            rw [← dm] at z1
            have : we * S = we * 1 := by rw [z1, Nat.mul_one]
            exact Nat.eq_of_mul_eq_mul_left (by omega) this))
          rw [show D0 (DV pr_F (vdF K we re)) r c hh w 0 = DV pr_F (vdF K we re) r c hh w from rfl, dr, v1, if_neg (by decide), if_pos rfl]
      · rw [if_neg (fun z => c2 ((nI_eq (by omega) (by omega)).mp z))]
        refine ⟨1000000, rfl, Or.inr ⟨by decide, ?_⟩⟩
        rw [show D0 (DV pr_F (vdF K we re)) r c hh w 0 = DV pr_F (vdF K we re) r c hh w from rfl, far (fun k k1 k2 k3 => c2 (by
          have : we * S = we * k := by rw [dm, k2, Nat.mul_comm]
          rw [Nat.eq_of_mul_eq_mul_left (by omega) this]
          exact k3))]
        rfl
    · have ml : wtB K r c hh w % we < we := Nat.mod_lt _ (by omega)
      rw [if_neg (nI_ne0 (by omega) (by omega))]
      refine ⟨1000000, rfl, Or.inr ⟨by decide, ?_⟩⟩
      rw [show D0 (DV pr_F (vdF K we re)) r c hh w 0 = DV pr_F (vdF K we re) r c hh w from rfl, far (fun k k1 k2 _ => c1 (by rw [k2]; exact Nat.mul_mod_left _ _))]
      rfl
theorem m_fairDP (g : Hp) {R C n W Rd : Nat} (K : Nat → Int32) (hR : R ≤ 6) (hC : C ≤ 6) (n1 : 1 ≤ n) (n36 : n ≤ 36) (hW : W ≤ 360) (hRd : Rd ≤ 36) (e4 : g 111 4 = nI R) (e5 : g 111 5 = nI C) (hg : ∀ hh w r c, blkIn R C r c hh w → g 129 (bk r c hh w) = nI (wtB K r c hh w) ∧ g 130 (bk r c hh w) = nI (rdB K 1 r c hh w)) :
    ∃ h', L_X12_fair_76 (nI n) (nI W) (nI Rd) FU 1 g = some h' ∧ (∀ hh w r c, blkIn R C r c hh w → h' 132 (bk r c hh w) = nI (DV pr_F (vdF K (W / n) (Rd / n)) r c hh w)) ∧ ∀ k, k ≠ 132 → h' k = g k := by
  obtain ⟨D, hDe⟩ : ∃ D, D = DV pr_F (vdF K (W / n) (Rd / n)) := ⟨_, rfl⟩
  have hD : ∀ r c hh w, blkIn R C r c hh w → D r c hh w ≤ FAR := fun r c hh w b => by rw [hDe]; exact DV_le _ _ (by omega) (by omega)
  have wl : W / n ≤ 360 := Nat.le_trans (Nat.div_le_self _ _) hW
  have rl : Rd / n ≤ 36 := Nat.le_trans (Nat.div_le_self _ _) hRd
  have n0 : ¬ nI n = 0 := nI_ne0 (by omega) (by omega)
  rw [← hDe]
  obtain ⟨h', q1, q2, q3⟩ := nest4 hR hC (fun T hh w r c => T 132 (bk r c hh w) = nI (D r c hh w)) (fun T => ∀ k, k ≠ 132 → T k = g k)
    (fun N hh T => L_X12_fair_76 (nI n) (nI W) (nI Rd) N (nI hh) T) (fun hh N w T => L_X12_fair_88 (nI n) (nI W) (nI Rd) (nI hh) N (nI w) T) (fun hh w N r T => L_X12_fair_100 (nI n) (nI W) (nI Rd) (nI hh) (nI w) N (nI r) T) (fun hh w r N c T => L_X12_fair_115 (nI n) (nI W) (nI Rd) (nI hh) (nI w) (nI r) N (nI c) T)
    (fun N T hT => by simp only [L_X12_fair_76]; rw [hT 111 (by omega), e4, if_pos (nI_lt (by omega) (by omega))])
    (fun N hh T h1 hT => by simp only [L_X12_fair_76, vB_def]; rw [hT 111 (by omega), e4, if_neg (nI_nlt h1 (by omega)), nI_1]; rfl)
    (fun hh N T hT => by simp only [L_X12_fair_88]; rw [hT 111 (by omega), e5, if_pos (nI_lt (by omega) (by omega))])
    (fun hh N w T h1 hT => by simp only [L_X12_fair_88, vB_def]; rw [hT 111 (by omega), e5, if_neg (nI_nlt h1 (by omega)), nI_1]; rfl)
    (fun hh w N T h1 h2 hT => by simp only [L_X12_fair_100]; rw [hT 111 (by omega), e4, nI_add, if_pos (nI_lt (by omega) (by omega))])
    (fun hh w N r T h1 hT => by simp only [L_X12_fair_100, vB_def]; rw [hT 111 (by omega), e4, nI_add, if_neg (nI_nlt (by omega) (by omega)), nI_1]; rfl)
    (fun hh w r N T h1 h2 hT => by simp only [L_X12_fair_115]; rw [hT 111 (by omega), e5, nI_add, if_pos (nI_lt (by omega) (by omega))])
    (fun hh w r N c T b zq => by
      have lt := bk_lt hR hC b
      have f5 : T 111 5 = nI C := by rw [zq.2 111 (by omega)]; exact e5
      have t1 : T 129 (bk r c hh w) = nI (wtB K r c hh w) := by rw [zq.2 129 (by omega)]; exact (hg hh w r c b).1
      have t2 : T 130 (bk r c hh w) = nI (rdB K 1 r c hh w) := by rw [zq.2 130 (by omega)]; exact (hg hh w r c b).2
      have w360 := wtB_le K (r := r) (c := c) (hh := hh) (w := w) (by omega) (by omega)
      have r36 := rdB_le K 1 (r := r) (c := c) (hh := hh) (w := w) (by omega) (by omega)
      have bo := m_bestOf T (D := D) (R := R) (C := C) (r := r) (c := c) (hh := hh) (w := w) 1 0 pr_F (fun _ _ => true) hR hC b hD
        (fun x x1 x2 => ⟨zq.1 _ _ _ _ (by omega) (by omega), zq.1 _ _ _ _ (by omega) (by omega)⟩) (fun x x1 x2 => ⟨zq.1 _ _ _ _ (by omega) (by omega), zq.1 _ _ _ _ (by omega) (by omega)⟩)
        (fun y hy => hy) (fun d hd => by rcases hd with rfl | rfl <;> rfl) (fun d x _ _ _ => rfl)
      rw [bO_mG] at bo
      have dr := DV_rec pr_F (vdF K (W / n) (Rd / n)) (r := r) (c := c) (hh := hh) (w := w) (by omega) (by omega)
      rw [← hDe] at dr
      have val : ((if nI (wtB K r c hh w) = nI (W / n) then (if nI (rdB K 1 r c hh w) = nI (Rd / n) then (some 1 : Option Int32) else some 0) else some 0).bind fun x10_27 => (if x10_27 = 0 then (f_X12_bestOf T (nI r) (nI c) (nI hh) (nI w) 1 0).bind (fun u_29 => some u_29) else some 0)) = some (nI (D r c hh w)) := by
        by_cases c1 : wtB K r c hh w = W / n
        · rw [if_pos (by rw [c1])]
          by_cases c2 : rdB K 1 r c hh w = Rd / n
          · rw [if_pos (by rw [c2]), Option.bind_some, if_neg (by decide), dr, show vdF K (W / n) (Rd / n) r c hh w = 0 from if_pos ⟨c1, c2⟩, if_pos rfl]
            rfl
          · rw [if_neg (fun z => c2 ((nI_eq (by omega) (by omega)).mp z)), Option.bind_some, if_pos rfl, bo, Option.bind_some, dr, show vdF K (W / n) (Rd / n) r c hh w = 1 from if_neg (fun z => c2 z.2), if_neg (by decide), if_pos rfl]
        · rw [if_neg (fun z => c1 ((nI_eq (by omega) (by omega)).mp z)), Option.bind_some, if_pos rfl, bo, Option.bind_some, dr, show vdF K (W / n) (Rd / n) r c hh w = 1 from if_neg (fun z => c1 z.1), if_neg (by decide), if_pos rfl]
      simp only [L_X12_fair_115, vB_def, f5]
      rw [nI_add, if_neg (nI_nlt (by omega) (by omega)), m_block (by omega) (by omega), Option.bind_some]
      simp only [if_pos (inB_nI lt (show 1296 ≤ 2147483648 by omega)), if_neg n0, ix_nI (show bk r c hh w < 2147483648 by omega), t1, t2, nI_div (show W < 2147483648 by omega) (show n < 2147483648 by omega), nI_div (show Rd < 2147483648 by omega) (show n < 2147483648 by omega)]
      have v2 := congrArg (fun o => Option.bind o fun t_28 => L_X12_fair_115 (nI n) (nI W) (nI Rd) (nI hh) (nI w) (nI r) N (nI c + 1) (u2 T 132 (bk r c hh w) t_28)) val
      simp only [Option.bind_assoc, Option.bind_some] at v2
      rw [v2, nI_1]
      refine ⟨_, rfl, ?_, ?_, ?_⟩
      · intro k hk
        rw [u2_ne _ _ _ hk, zq.2 k hk]
      · rw [u2_at, if_pos ⟨rfl, rfl⟩]
      · intro hh' w' r' c' b' ne hV
        have nb : bk r' c' hh' w' ≠ bk r c hh w := fun z => ne (bk_inj hR hC b' b z)
        rw [u2_at, if_neg (fun z => nb z.2)]
        exact hV)
    g (fun k _ => rfl)
  exact ⟨h', q1, q2, q3⟩
theorem s_fair {k N : Nat} {h : Hp} {q : Qp} (H : Inv k N h q) (x : Int32) : ∃ a h1 b h2, f_X11_fair h x = some (a, h1) ∧ f_X12_fair h1 x = some (b, h2) ∧ a = b ∧ Inv (k + 1) N h2 q := by
  have H0 := H
  have H' := Inv_u0 (Nat.le_succ k) H
  obtain ⟨h0, R, C, hT, hF, hR, hB, hS, hO, hL, hK, hP, hC⟩ := H
  have FE := FAR_eq
  obtain ⟨R1, R2, C1, C2, f1, f2, f3, f4, f5, f6, f7, f8⟩ := hF
  have e1 : f_X12_in x.toInt64 1 36 = _ := in_i x 1 36
  by_cases c : 1 ≤ x ∧ x ≤ 36
  · have x0 : (0 : Int32) ≤ x := by
      have e1 := Int32.le_iff_toInt_le.mp c.1
      rw [show (1 : Int32).toInt = 1 from rfl] at e1
      rw [Int32.le_iff_toInt_le, show (0 : Int32).toInt = 0 from rfl]
      omega
    obtain ⟨n, hn, rfl⟩ := i_toNat (n := 36) rfl x0 c.2
    have n1 : 1 ≤ n := by
      have e1 := Int32.le_iff_toInt_le.mp c.1
      rw [show (1 : Int32).toInt = 1 from rfl, nI_toInt (by omega)] at e1
      omega
    have n0 : ¬ nI n = 0 := nI_ne0 (by omega) (by omega)
    have W360 := wtB_le (h 113) (r := 0) (c := 0) (hh := R) (w := C) (by omega) (by omega)
    have D36 := rdB_le (h 113) 1 (r := 0) (c := 0) (hh := R) (w := C) (by omega) (by omega)
    have lt := bk_lt R2 C2 (show blkIn R C 0 0 R C by omega)
    have kw : f_X4_weightIn h 0 0 (nI R) (nI C) = some (nI (wtB (h 113) 0 0 R C)) := k_weightIn h (r := 0) (c := 0) f6 R2 C2 (by omega) (by omega)
    have kr : f_X4_rindIn h 0 0 (nI R) (nI C) = some (nI (rdB (h 113) 1 0 0 R C)) := k_rindIn h (r := 0) (c := 0) f7 R2 C2 (by omega) (by omega)
    obtain ⟨W, hW⟩ : ∃ W, W = wtB (h 113) 0 0 R C := ⟨_, rfl⟩
    obtain ⟨Rd, hRd⟩ : ∃ Rd, Rd = rdB (h 113) 1 0 0 R C := ⟨_, rfl⟩
    rw [← hW] at kw W360
    rw [← hRd] at kr D36
    -- the reference, over any heap with the same form
    have mod : ∀ g : Hp, Inv k N g q → (∀ k, k ≠ 45 → k ≠ 46 → g k = h k) → ∃ f, f_X12_fair g (nI n) = some (if W = 0 ∨ ¬ W % n = 0 ∨ ¬ Rd % n = 0 then -9 else if (1000000 : Int32) ≤ nI (DV pr_F (vdF (h 113) (W / n) (Rd / n)) 0 0 R C) then -9 else nI (DV pr_F (vdF (h 113) (W / n) (Rd / n)) 0 0 R C), f) ∧ Inv (k + 1) N f q := fun g Hg hg => by
      have Hu := Inv_u0 (Nat.le_succ k) Hg
      have uj : ∀ j, j ≠ 0 → u2 g 111 0 0 111 j = h 111 j := fun j hj => by rw [u0_j _ _ hj, hg 111 (by omega) (by omega)]
      obtain ⟨B, b1, b2, b3⟩ := m_layBlocks (u2 g 111 0 0) (R := R) (C := C) R2 C2 (by rw [uj 4 (by omega)]; exact f3) (by rw [uj 5 (by omega)]; exact f4)
      rw [show u2 g 111 0 0 113 = h 113 by rw [u2_ne _ _ _ (by decide), hg 113 (by omega) (by omega)]] at b2
      have HB : Inv (k + 1) N B q := Inv_keep (Nat.le_refl _) (Nat.le_refl _) (fun a b hf => by rw [b3 a (fun p => hf (by unfold free; omega)) (fun p => hf (by unfold free; omega))]) Hu
      have B4 : B 111 4 = nI R := by rw [b3 111 (by omega) (by omega), uj 4 (by omega)]; exact f3
      have B5 : B 111 5 = nI C := by rw [b3 111 (by omega) (by omega), uj 5 (by omega)]; exact f4
      obtain ⟨b129, b130⟩ := b2 R C 0 0 (by omega)
      rw [← hW] at b129
      rw [← hRd] at b130
      have head : f_X12_fair g (nI n) = (if nI W = 0 then some (-9, B) else if (0 : Int32) < nI (W % n) then some (-9, B) else if nI (Rd % n) ≤ 0 then (L_X12_fair_76 (nI n) (nI W) (nI Rd) FU 1 B).bind fun t_11 => (if (1000000 : Int32) ≤ t_11 132 (bk 0 0 R C) then some (-9, t_11) else some (t_11 132 (bk 0 0 R C), t_11)) else some (-9, B)) := by
        rw [f_X12_fair, vB_def, e1, if_pos c, Option.bind_some, if_neg (by decide), b1, Option.bind_some, B4, B5, show f_X12_block 0 0 (nI R) (nI C) = _ from m_block (r := 0) (c := 0) R1 C1, Option.bind_some, vB_def, if_pos (inB_nI lt (by omega)), vB_def, if_pos (inB_nI lt (by omega)), vB_def, ix_nI (by omega), b129, b130, if_neg n0, if_neg n0, nI_mod (by omega) (by omega), nI_mod (by omega) (by omega), vB_def]
        simp only [if_pos (inB_nI lt (show 1296 ≤ 2147483648 by omega))]
      have mW : W % n < n := Nat.mod_lt _ (by omega)
      have mR : Rd % n < n := Nat.mod_lt _ (by omega)
      rw [head]
      by_cases w0 : W = 0
      · rw [if_pos (by rw [w0]; rfl), if_pos (Or.inl w0)]
        exact ⟨B, rfl, HB⟩
      · rw [if_neg (nI_ne0 (by omega) (by omega))]
        by_cases w1 : W % n = 0
        · rw [if_neg (by rw [w1]; decide)]
          by_cases w2 : Rd % n = 0
          · obtain ⟨Z, z1, z2, z3⟩ := m_fairDP B (R := R) (C := C) (n := n) (W := W) (Rd := Rd) (h 113) R2 C2 n1 hn W360 D36 B4 B5 b2
            have HZ : Inv (k + 1) N Z q := Inv_keep (Nat.le_refl _) (Nat.le_refl _) (fun a b hf => by rw [z3 a (fun p => hf (by unfold free; omega))]) HB
            rw [if_pos (by rw [w2]; decide), z1, Option.bind_some, z2 R C 0 0 (by omega), if_neg (show ¬ (W = 0 ∨ ¬ W % n = 0 ∨ ¬ Rd % n = 0) from fun z => by rcases z with z | z | z; exact w0 z; exact z w1; exact z w2)]
            by_cases cF : (1000000 : Int32) ≤ nI (DV pr_F (vdF (h 113) (W / n) (Rd / n)) 0 0 R C)
            · rw [if_pos cF, if_pos cF]
              exact ⟨Z, rfl, HZ⟩
            · rw [if_neg cF, if_neg cF]
              exact ⟨Z, rfl, HZ⟩
          · rw [if_neg (nI_nle (by omega) (by omega)), if_pos (Or.inr (Or.inr w2))]
            exact ⟨B, rfl, HB⟩
        · rw [if_pos (show (0 : Int32) < nI (W % n) from nI_lt (a := 0) (by omega) (by omega)), if_pos (Or.inr (Or.inl w1))]
          exact ⟨B, rfl, HB⟩
    have kh : ∀ Y, f_X3_shortest h (nI n) = some Y → f_X11_fair h (nI n) = (if (1000000 : Int32) ≤ Y.1 then some ((-9), Y.2) else some (Y.1, Y.2)) := fun Y hY => by
      rw [f_X11_fair, if_neg (i_nlt.mpr c.1), if_pos c.2, hY, Option.bind_some, vB_def]
    by_cases bad0 : W = 0 ∨ ¬ W % n = 0 ∨ ¬ Rd % n = 0
    · have ks : f_X3_shortest h (nI n) = some (1000000, h) := by
        have mW : W % n < n := Nat.mod_lt _ (by omega)
        have mR : Rd % n < n := Nat.mod_lt _ (by omega)
        simp only [f_X3_shortest, vB_def, f1, f2, kw, kr, Option.bind_some]
        rw [if_neg (f_gt 1 rfl (by omega) (by omega))]
        by_cases w0 : W = 0
        · rw [if_pos (by rw [w0]; rfl)]
        · rw [if_neg (nI_ne0 (by omega) (by omega)), if_neg n0, nI_mod (by omega) (by omega)]
          by_cases w1 : W % n = 0
          · rw [if_pos (by rw [w1]; rfl), if_neg n0, nI_mod (by omega) (by omega), if_neg (nI_ne0 (by omega) (by omega))]
          · rw [if_neg (nI_ne0 (by omega) (by omega))]
      obtain ⟨f, m1, m2⟩ := mod h H0 (fun _ _ _ => rfl)
      rw [if_pos bad0] at m1
      refine ⟨-9, h, -9, f, ?_, m1, rfl, m2⟩
      rw [kh _ ks, if_pos (show (1000000 : Int32) ≤ 1000000 by decide)]
    · have w0 : ¬ W = 0 := fun z => bad0 (Or.inl z)
      have w1 : W % n = 0 := Decidable.byContradiction (fun z => bad0 (Or.inr (Or.inl z)))
      have w2 : Rd % n = 0 := Decidable.byContradiction (fun z => bad0 (Or.inr (Or.inr z)))
      have wl : W / n ≤ 360 := Nat.le_trans (Nat.div_le_self _ _) W360
      have rl : Rd / n ≤ 36 := Nat.le_trans (Nat.div_le_self _ _) D36
      have we1 : 1 ≤ W / n := by
        have dm := Nat.div_add_mod W n
        rcases Nat.eq_zero_or_pos (W / n) with z | z
        · rw [z, Nat.mul_zero, w1] at dm; omega
        · exact z
      obtain ⟨A, hA⟩ : ∃ A, A = u2 (u2 h 45 3 (nI (W / n))) 45 4 (nI (Rd / n)) := ⟨_, rfl⟩
      have An : ∀ k, k ≠ 45 → A k = h k := fun k hk => by rw [hA, u2_ne _ _ _ hk, u2_ne _ _ _ hk]
      have A1 : A 45 1 = nI 1 := by rw [hA, u2_at, if_neg (by omega), u2_at, if_neg (by omega)]; exact hC.2.1
      have A3 : A 45 3 = nI (W / n) := by rw [hA]; simp [u2_at]
      have A4 : A 45 4 = nI (Rd / n) := by rw [hA]; simp [u2_at]
      obtain ⟨G, g1, g2, g3⟩ := k_workOut_F A (R := R) (C := C) (S := 1) (Dv := D0 (DV pr_F (vdF (h 113) (W / n) (Rd / n)))) R2 C2 (by rw [An 3 (by omega)]; exact f1) (by rw [An 3 (by omega)]; exact f2) A1 (by omega) (by omega) (fun r c hh w s b => DV_le _ _ (by omega) (by omega)) (fun T r c hh w s hT b hs => by
        have : s = 0 := by omega
        subst this
        exact k_vdF T R2 C2 b we1 wl rl (by rw [hT 5 (by omega), An 5 (by omega)]; exact f6) (by rw [hT 6 (by omega), An 6 (by omega)]; exact f7) (by rw [hT 45 (by omega)]; exact A3) (by rw [hT 45 (by omega)]; exact A4))
      have ca := k_costOfAll_F G (R := R) (C := C) (s := 0) (S := 1) (Dv := D0 (DV pr_F (vdF (h 113) (W / n) (Rd / n)))) R2 C2 R1 C1 (by rw [g3 3 (by omega), An 3 (by omega)]; exact f1) (by rw [g3 3 (by omega), An 3 (by omega)]; exact f2) (by rw [g3 45 (by omega)]; exact A1) (by omega) (by omega) (g2 R C 0 0 (by omega))
      have ks : f_X3_shortest h (nI n) = some (nI (DV pr_F (vdF (h 113) (W / n) (Rd / n)) 0 0 R C), G) := by
        simp only [f_X3_shortest, vB_def, f1, f2, kw, kr, Option.bind_some]
        rw [if_neg (f_gt 1 rfl (by omega) (by omega)), if_neg (nI_ne0 (by omega) (by omega)), if_neg n0, nI_mod (by omega) (by omega), if_pos (by rw [w1]; rfl), if_neg n0, nI_mod (by omega) (by omega), if_pos (by rw [w2]; rfl), if_neg n0, if_neg n0, nI_div (by omega) (by omega), nI_div (by omega) (by omega), ← hA, show f_X8_workOut_F A 0 = some G from g1, Option.bind_some, show f_X8_costOfAll_F G 0 = _ from ca, Option.bind_some]
      have HG : Inv k N G q := Inv_keep (Nat.le_refl _) (Nat.le_refl _) (fun a b hf => by
        rw [g3 a (fun p => hf (by unfold free; omega))]
        by_cases a45 : a = 45
        · subst a45
          have b1 : b = 1 := Decidable.byContradiction (fun z => hf (by unfold free; omega))
          rw [b1, A1]; exact hC.2.1.symm
        · rw [An a a45]) H0
      obtain ⟨f, m1, m2⟩ := mod G HG (fun k h1 h2 => by rw [g3 k h2, An k h1])
      rw [if_neg bad0] at m1
      have k1 := kh _ ks
      by_cases cF : (1000000 : Int32) ≤ nI (DV pr_F (vdF (h 113) (W / n) (Rd / n)) 0 0 R C)
      · rw [if_pos cF] at m1
        rw [if_pos cF] at k1
        exact ⟨_, _, _, f, k1, m1, rfl, m2⟩
      · rw [if_neg cF] at m1
        rw [if_neg cF] at k1
        exact ⟨_, _, _, f, k1, m1, rfl, m2⟩
  · refine ⟨-2, h, -2, u2 h 111 0 0, ?_, ?_, rfl, H'⟩
    · rw [f_X11_fair]
      by_cases x1 : x < 1
      · rw [if_pos x1]
      · rw [if_neg x1, if_neg (fun d => c ⟨i_nlt.mp x1, d⟩)]
    · rw [f_X12_fair, vB_def, e1, if_neg c, Option.bind_some, if_pos rfl]
