/-! THE STANDING WORLD: behind the constructors every reference stands but those of the order (cell 43) -/
def RST : List (List (Option Nat)) := [[some 1, some 3, some 7, some 34, some 35, some 41, some 45, some 47, some 53], [some 2], [], [some 4, some 5, some 6], [], [], [], [some 3, some 8, some 9], [some 10, some 11, some 12, some 13, some 14, some 15, some 16, some 17, some 18, some 19, some 20, some 21, some 22, some 23, some 24, some 25, some 26, some 27, some 28, some 29, some 30, some 31, some 32, some 33], [], [], [], [], [], [], [], [], [], [], [], [], [], [], [], [], [], [], [], [], [], [], [], [], [], [some 57, some 84], [some 3, some 7, some 36, some 37, some 38, some 39, some 40], [], [], [], [], [], [some 3, none, some 42, some 43, some 44], [], [], [], [some 3, none, some 46], [], [some 3, none, some 48, some 49, some 50, some 51, some 52], [], [], [], [], [], [some 54, some 55, some 56], [], [], [], [some 3, some 58, some 59], [some 60, some 61, some 62, some 63, some 64, some 65, some 66, some 67, some 68, some 69, some 70, some 71, some 72, some 73, some 74, some 75, some 76, some 77, some 78, some 79, some 80, some 81, some 82, some 83], [], [], [], [], [], [], [], [], [], [], [], [], [], [], [], [], [], [], [], [], [], [], [], [], [], [some 3, some 85, some 86], [some 87, some 88, some 89, some 90, some 91, some 92, some 93, some 94, some 95, some 96, some 97, some 98, some 99, some 100, some 101, some 102, some 103, some 104, some 105, some 106, some 107, some 108, some 109, some 110], [], [], [], [], [], [], [], [], [], [], [], [], [], [], [], [], [], [], [], [], [], [], [], [], [], [none, some 112, none, some 113, none, none, some 114, none, none, none, some 115, some 116, some 117, some 118, some 119, some 120, some 121, some 122, none, some 123, some 124, some 125, none, none, none, none, none, some 126, some 127, some 128, some 129, some 130, some 131, some 132, none, none, some 133, none, none, none, some 134, some 135, some 136], [], [], [], [], [], [], [], [], [], [], [], [], [], [], [], [], [], [], [], [], [], [], [], [], []]
def rs (k j : Nat) : Option Nat := (RST.getD k []).getD j none
def rq (q : Nat → Option Nat) : Rp := fun k => if k = 43 then q else rs k
theorem Kd_lt {a c : Nat} (hk : Kd a = c) (hc : c ≠ 0) : a < 137 := by
  rcases Nat.lt_or_ge a 137 with h | h
  · exact h
  · exfalso
    apply hc
    rw [← hk]
    unfold Kd
    rw [List.getD_eq_getElem?_getD, List.getElem?_eq_none (by exact h)]
    rfl
theorem wlt {a c N : Nat} (hN : 137 ≤ N) (hk : Kd a = c) (hc : c ≠ 0) : a < N := Nat.lt_of_lt_of_le (Kd_lt hk hc) hN
theorem wll {N : Nat} (hN : 137 ≤ N) {a : Nat} (h : a < 137) : a < N := Nat.lt_of_lt_of_le h hN
theorem Kd_ge {N : Nat} (hN : 137 ≤ N) : Kd N = 0 := by
  unfold Kd
  rw [List.getD_eq_getElem?_getD, List.getElem?_eq_none (by exact hN)]
  rfl
theorem rs_ge {N : Nat} (hN : 137 ≤ N) : rs N = fun _ => none := by
  funext j
  unfold rs
  rw [List.getD_eq_getElem?_getD (l := RST), List.getElem?_eq_none (by exact hN)]
  rfl
theorem rq_new (q : Nat → Option Nat) {N : Nat} (hN : 137 ≤ N) : va_up (rq q) N (fun _ => none) = rq q := by
  funext k
  unfold va_up
  by_cases e : k = N
  · subst e
    rw [if_pos rfl]
    unfold rq
    rw [if_neg (by omega), rs_ge hN]
  · rw [if_neg e]
theorem rq_put (q : Nat → Option Nat) (i : Nat) (b : Option Nat) : u2 (rq q) 43 i b = rq (va_up q i b) := by
  funext k
  unfold u2 rq va_up
  by_cases e : k = 43
  · subst e; simp
  · simp [e]
theorem kdB_all : ∀ b, b < 137 → Kd b = 1 → b = 7 ∨ b = 57 ∨ b = 84 := by decide +kernel
theorem kdB {b : Nat} (hk : Kd b = 1) : b = 7 ∨ b = 57 ∨ b = 84 := kdB_all b (Kd_lt hk (by decide)) hk
theorem kb1 {b : Nat} (hk : Kd b = 1) : Kd (b + 1) = 16 := by rcases kdB hk with rfl | rfl | rfl <;> rfl
theorem kb2 {b : Nat} (hk : Kd b = 1) : Kd (b + 2) = 7 := by rcases kdB hk with rfl | rfl | rfl <;> rfl
theorem lb1 {b : Nat} (hk : Kd b = 1) : Ln (b + 1) = 24 := by rcases kdB hk with rfl | rfl | rfl <;> rfl
theorem rb0 {b : Nat} (q : Nat → Option Nat) (hk : Kd b = 1) : rq q b 0 = some 3 := by rcases kdB hk with rfl | rfl | rfl <;> rfl
theorem rb1 {b : Nat} (q : Nat → Option Nat) (hk : Kd b = 1) : rq q b 1 = some (b + 1) := by rcases kdB hk with rfl | rfl | rfl <;> rfl
theorem rb2 {b : Nat} (q : Nat → Option Nat) (hk : Kd b = 1) : rq q b 2 = some (b + 2) := by rcases kdB hk with rfl | rfl | rfl <;> rfl
theorem kp_all : ∀ i, i < 24 → (Kd (7 + 3 + i) = 7 ∧ rs (7 + 1) i = some (7 + 3 + i)) ∧ (Kd (57 + 3 + i) = 7 ∧ rs (57 + 1) i = some (57 + 3 + i)) ∧ (Kd (84 + 3 + i) = 7 ∧ rs (84 + 1) i = some (84 + 3 + i)) := by decide +kernel
theorem kp {b i : Nat} (hk : Kd b = 1) (hi : i < 24) : Kd (b + 3 + i) = 7 := by
  rcases kdB hk with rfl | rfl | rfl
  · exact (kp_all i hi).1.1
  · exact (kp_all i hi).2.1.1
  · exact (kp_all i hi).2.2.1
theorem rp {b i : Nat} (q : Nat → Option Nat) (hk : Kd b = 1) (hi : i < 24) : rq q (b + 1) i = some (b + 3 + i) := by
  rcases kdB hk with rfl | rfl | rfl
  · exact (kp_all i hi).1.2
  · exact (kp_all i hi).2.1.2
  · exact (kp_all i hi).2.2.2
theorem ksl : ∀ i, i < 2 → Kd (57 + 27 * i) = 1 ∧ rs 34 i = some (57 + 27 * i) := by decide +kernel
theorem kd_0 : Kd 0 = 11 := rfl
theorem kd_1 : Kd 1 = 10 := rfl
theorem kd_2 : Kd 2 = 12 := rfl
theorem ln_2 : Ln 2 = 48 := rfl
theorem kd_3 : Kd 3 = 4 := rfl
theorem kd_4 : Kd 4 = 12 := rfl
theorem ln_4 : Ln 4 = 36 := rfl
theorem kd_5 : Kd 5 = 12 := rfl
theorem ln_5 : Ln 5 = 49 := rfl
theorem kd_6 : Kd 6 = 12 := rfl
theorem ln_6 : Ln 6 = 49 := rfl
theorem kd_7 : Kd 7 = 1 := rfl
theorem kd_8 : Kd 8 = 16 := rfl
theorem ln_8 : Ln 8 = 24 := rfl
theorem kd_9 : Kd 9 = 7 := rfl
theorem kd_10 : Kd 10 = 7 := rfl
theorem kd_11 : Kd 11 = 7 := rfl
theorem kd_12 : Kd 12 = 7 := rfl
theorem kd_13 : Kd 13 = 7 := rfl
theorem kd_14 : Kd 14 = 7 := rfl
theorem kd_15 : Kd 15 = 7 := rfl
theorem kd_16 : Kd 16 = 7 := rfl
theorem kd_17 : Kd 17 = 7 := rfl
theorem kd_18 : Kd 18 = 7 := rfl
theorem kd_19 : Kd 19 = 7 := rfl
theorem kd_20 : Kd 20 = 7 := rfl
theorem kd_21 : Kd 21 = 7 := rfl
theorem kd_22 : Kd 22 = 7 := rfl
theorem kd_23 : Kd 23 = 7 := rfl
theorem kd_24 : Kd 24 = 7 := rfl
theorem kd_25 : Kd 25 = 7 := rfl
theorem kd_26 : Kd 26 = 7 := rfl
theorem kd_27 : Kd 27 = 7 := rfl
theorem kd_28 : Kd 28 = 7 := rfl
theorem kd_29 : Kd 29 = 7 := rfl
theorem kd_30 : Kd 30 = 7 := rfl
theorem kd_31 : Kd 31 = 7 := rfl
theorem kd_32 : Kd 32 = 7 := rfl
theorem kd_33 : Kd 33 = 7 := rfl
theorem kd_34 : Kd 34 = 15 := rfl
theorem ln_34 : Ln 34 = 2 := rfl
theorem kd_35 : Kd 35 = 9 := rfl
theorem kd_36 : Kd 36 = 7 := rfl
theorem kd_37 : Kd 37 = 7 := rfl
theorem kd_38 : Kd 38 = 7 := rfl
theorem kd_39 : Kd 39 = 7 := rfl
theorem kd_40 : Kd 40 = 12 := rfl
theorem ln_40 : Ln 40 = 24 := rfl
theorem kd_41 : Kd 41 = 6 := rfl
theorem kd_42 : Kd 42 = 12 := rfl
theorem ln_42 : Ln 42 = 7056 := rfl
theorem kd_43 : Kd 43 = 14 := rfl
theorem ln_43 : Ln 43 = 4 := rfl
theorem kd_44 : Kd 44 = 12 := rfl
theorem ln_44 : Ln 44 = 16 := rfl
theorem kd_45 : Kd 45 = 3 := rfl
theorem kd_46 : Kd 46 = 12 := rfl
theorem ln_46 : Ln 46 = 441 := rfl
theorem kd_47 : Kd 47 = 5 := rfl
theorem kd_48 : Kd 48 = 12 := rfl
theorem ln_48 : Ln 48 = 441 := rfl
theorem kd_49 : Kd 49 = 12 := rfl
theorem ln_49 : Ln 49 = 6 := rfl
theorem kd_50 : Kd 50 = 12 := rfl
theorem ln_50 : Ln 50 = 6 := rfl
theorem kd_51 : Kd 51 = 12 := rfl
theorem ln_51 : Ln 51 = 6 := rfl
theorem kd_52 : Kd 52 = 12 := rfl
theorem ln_52 : Ln 52 = 6 := rfl
theorem kd_53 : Kd 53 = 2 := rfl
theorem kd_54 : Kd 54 = 12 := rfl
theorem ln_54 : Ln 54 = 16 := rfl
theorem kd_55 : Kd 55 = 12 := rfl
theorem ln_55 : Ln 55 = 10 := rfl
theorem kd_56 : Kd 56 = 12 := rfl
theorem ln_56 : Ln 56 = 10 := rfl
theorem kd_57 : Kd 57 = 1 := rfl
theorem kd_58 : Kd 58 = 16 := rfl
theorem ln_58 : Ln 58 = 24 := rfl
theorem kd_59 : Kd 59 = 7 := rfl
theorem kd_60 : Kd 60 = 7 := rfl
theorem kd_61 : Kd 61 = 7 := rfl
theorem kd_62 : Kd 62 = 7 := rfl
theorem kd_63 : Kd 63 = 7 := rfl
theorem kd_64 : Kd 64 = 7 := rfl
theorem kd_65 : Kd 65 = 7 := rfl
theorem kd_66 : Kd 66 = 7 := rfl
theorem kd_67 : Kd 67 = 7 := rfl
theorem kd_68 : Kd 68 = 7 := rfl
theorem kd_69 : Kd 69 = 7 := rfl
theorem kd_70 : Kd 70 = 7 := rfl
theorem kd_71 : Kd 71 = 7 := rfl
theorem kd_72 : Kd 72 = 7 := rfl
theorem kd_73 : Kd 73 = 7 := rfl
theorem kd_74 : Kd 74 = 7 := rfl
theorem kd_75 : Kd 75 = 7 := rfl
theorem kd_76 : Kd 76 = 7 := rfl
theorem kd_77 : Kd 77 = 7 := rfl
theorem kd_78 : Kd 78 = 7 := rfl
theorem kd_79 : Kd 79 = 7 := rfl
theorem kd_80 : Kd 80 = 7 := rfl
theorem kd_81 : Kd 81 = 7 := rfl
theorem kd_82 : Kd 82 = 7 := rfl
theorem kd_83 : Kd 83 = 7 := rfl
theorem kd_84 : Kd 84 = 1 := rfl
theorem kd_85 : Kd 85 = 16 := rfl
theorem ln_85 : Ln 85 = 24 := rfl
theorem kd_86 : Kd 86 = 7 := rfl
theorem kd_87 : Kd 87 = 7 := rfl
theorem kd_88 : Kd 88 = 7 := rfl
theorem kd_89 : Kd 89 = 7 := rfl
theorem kd_90 : Kd 90 = 7 := rfl
theorem kd_91 : Kd 91 = 7 := rfl
theorem kd_92 : Kd 92 = 7 := rfl
theorem kd_93 : Kd 93 = 7 := rfl
theorem kd_94 : Kd 94 = 7 := rfl
theorem kd_95 : Kd 95 = 7 := rfl
theorem kd_96 : Kd 96 = 7 := rfl
theorem kd_97 : Kd 97 = 7 := rfl
theorem kd_98 : Kd 98 = 7 := rfl
theorem kd_99 : Kd 99 = 7 := rfl
theorem kd_100 : Kd 100 = 7 := rfl
theorem kd_101 : Kd 101 = 7 := rfl
theorem kd_102 : Kd 102 = 7 := rfl
theorem kd_103 : Kd 103 = 7 := rfl
theorem kd_104 : Kd 104 = 7 := rfl
theorem kd_105 : Kd 105 = 7 := rfl
theorem kd_106 : Kd 106 = 7 := rfl
theorem kd_107 : Kd 107 = 7 := rfl
theorem kd_108 : Kd 108 = 7 := rfl
theorem kd_109 : Kd 109 = 7 := rfl
theorem kd_110 : Kd 110 = 7 := rfl
theorem kd_111 : Kd 111 = 8 := rfl
theorem kd_112 : Kd 112 = 12 := rfl
theorem ln_112 : Ln 112 = 48 := rfl
theorem kd_113 : Kd 113 = 12 := rfl
theorem ln_113 : Ln 113 = 36 := rfl
theorem kd_114 : Kd 114 = 12 := rfl
theorem ln_114 : Ln 114 = 36 := rfl
theorem kd_115 : Kd 115 = 12 := rfl
theorem ln_115 : Ln 115 = 24 := rfl
theorem kd_116 : Kd 116 = 12 := rfl
theorem ln_116 : Ln 116 = 24 := rfl
theorem kd_117 : Kd 117 = 12 := rfl
theorem ln_117 : Ln 117 = 24 := rfl
theorem kd_118 : Kd 118 = 12 := rfl
theorem ln_118 : Ln 118 = 24 := rfl
theorem kd_119 : Kd 119 = 12 := rfl
theorem ln_119 : Ln 119 = 24 := rfl
theorem kd_120 : Kd 120 = 12 := rfl
theorem ln_120 : Ln 120 = 24 := rfl
theorem kd_121 : Kd 121 = 12 := rfl
theorem ln_121 : Ln 121 = 24 := rfl
theorem kd_122 : Kd 122 = 12 := rfl
theorem ln_122 : Ln 122 = 96 := rfl
theorem kd_123 : Kd 123 = 12 := rfl
theorem ln_123 : Ln 123 = 266 := rfl
theorem kd_124 : Kd 124 = 12 := rfl
theorem ln_124 : Ln 124 = 532 := rfl
theorem kd_125 : Kd 125 = 13 := rfl
theorem ln_125 : Ln 125 = 2 := rfl
theorem kd_126 : Kd 126 = 12 := rfl
theorem ln_126 : Ln 126 = 4 := rfl
theorem kd_127 : Kd 127 = 12 := rfl
theorem ln_127 : Ln 127 = 4 := rfl
theorem kd_128 : Kd 128 = 12 := rfl
theorem ln_128 : Ln 128 = 4 := rfl
theorem kd_129 : Kd 129 = 12 := rfl
theorem ln_129 : Ln 129 = 1296 := rfl
theorem kd_130 : Kd 130 = 12 := rfl
theorem ln_130 : Ln 130 = 1296 := rfl
theorem kd_131 : Kd 131 = 12 := rfl
theorem ln_131 : Ln 131 = 20736 := rfl
theorem kd_132 : Kd 132 = 12 := rfl
theorem ln_132 : Ln 132 = 1296 := rfl
theorem kd_133 : Kd 133 = 12 := rfl
theorem ln_133 : Ln 133 = 6 := rfl
theorem kd_134 : Kd 134 = 12 := rfl
theorem ln_134 : Ln 134 = 16 := rfl
theorem kd_135 : Kd 135 = 12 := rfl
theorem ln_135 : Ln 135 = 10 := rfl
theorem kd_136 : Kd 136 = 12 := rfl
theorem ln_136 : Ln 136 = 10 := rfl
theorem rf_0_0 (q : Nat → Option Nat) : rq q 0 0 = some 1 := rfl
theorem rf_0_1 (q : Nat → Option Nat) : rq q 0 1 = some 3 := rfl
theorem rf_0_2 (q : Nat → Option Nat) : rq q 0 2 = some 7 := rfl
theorem rf_0_3 (q : Nat → Option Nat) : rq q 0 3 = some 34 := rfl
theorem rf_0_4 (q : Nat → Option Nat) : rq q 0 4 = some 35 := rfl
theorem rf_0_5 (q : Nat → Option Nat) : rq q 0 5 = some 41 := rfl
theorem rf_0_6 (q : Nat → Option Nat) : rq q 0 6 = some 45 := rfl
theorem rf_0_7 (q : Nat → Option Nat) : rq q 0 7 = some 47 := rfl
theorem rf_0_8 (q : Nat → Option Nat) : rq q 0 8 = some 53 := rfl
theorem rf_1_0 (q : Nat → Option Nat) : rq q 1 0 = some 2 := rfl
theorem rf_3_0 (q : Nat → Option Nat) : rq q 3 0 = some 4 := rfl
theorem rf_3_1 (q : Nat → Option Nat) : rq q 3 1 = some 5 := rfl
theorem rf_3_2 (q : Nat → Option Nat) : rq q 3 2 = some 6 := rfl
theorem rf_7_0 (q : Nat → Option Nat) : rq q 7 0 = some 3 := rfl
theorem rf_7_1 (q : Nat → Option Nat) : rq q 7 1 = some 8 := rfl
theorem rf_7_2 (q : Nat → Option Nat) : rq q 7 2 = some 9 := rfl
theorem rf_35_0 (q : Nat → Option Nat) : rq q 35 0 = some 3 := rfl
theorem rf_35_1 (q : Nat → Option Nat) : rq q 35 1 = some 7 := rfl
theorem rf_35_2 (q : Nat → Option Nat) : rq q 35 2 = some 36 := rfl
theorem rf_35_3 (q : Nat → Option Nat) : rq q 35 3 = some 37 := rfl
theorem rf_35_4 (q : Nat → Option Nat) : rq q 35 4 = some 38 := rfl
theorem rf_35_5 (q : Nat → Option Nat) : rq q 35 5 = some 39 := rfl
theorem rf_35_6 (q : Nat → Option Nat) : rq q 35 6 = some 40 := rfl
theorem rf_41_0 (q : Nat → Option Nat) : rq q 41 0 = some 3 := rfl
theorem rf_41_2 (q : Nat → Option Nat) : rq q 41 2 = some 42 := rfl
theorem rf_41_3 (q : Nat → Option Nat) : rq q 41 3 = some 43 := rfl
theorem rf_41_4 (q : Nat → Option Nat) : rq q 41 4 = some 44 := rfl
theorem rf_45_0 (q : Nat → Option Nat) : rq q 45 0 = some 3 := rfl
theorem rf_45_2 (q : Nat → Option Nat) : rq q 45 2 = some 46 := rfl
theorem rf_47_0 (q : Nat → Option Nat) : rq q 47 0 = some 3 := rfl
theorem rf_47_2 (q : Nat → Option Nat) : rq q 47 2 = some 48 := rfl
theorem rf_47_3 (q : Nat → Option Nat) : rq q 47 3 = some 49 := rfl
theorem rf_47_4 (q : Nat → Option Nat) : rq q 47 4 = some 50 := rfl
theorem rf_47_5 (q : Nat → Option Nat) : rq q 47 5 = some 51 := rfl
theorem rf_47_6 (q : Nat → Option Nat) : rq q 47 6 = some 52 := rfl
theorem rf_53_0 (q : Nat → Option Nat) : rq q 53 0 = some 54 := rfl
theorem rf_53_1 (q : Nat → Option Nat) : rq q 53 1 = some 55 := rfl
theorem rf_53_2 (q : Nat → Option Nat) : rq q 53 2 = some 56 := rfl
theorem rf_57_0 (q : Nat → Option Nat) : rq q 57 0 = some 3 := rfl
theorem rf_57_1 (q : Nat → Option Nat) : rq q 57 1 = some 58 := rfl
theorem rf_57_2 (q : Nat → Option Nat) : rq q 57 2 = some 59 := rfl
theorem rf_84_0 (q : Nat → Option Nat) : rq q 84 0 = some 3 := rfl
theorem rf_84_1 (q : Nat → Option Nat) : rq q 84 1 = some 85 := rfl
theorem rf_84_2 (q : Nat → Option Nat) : rq q 84 2 = some 86 := rfl
theorem rf_111_1 (q : Nat → Option Nat) : rq q 111 1 = some 112 := rfl
theorem rf_111_3 (q : Nat → Option Nat) : rq q 111 3 = some 113 := rfl
theorem rf_111_6 (q : Nat → Option Nat) : rq q 111 6 = some 114 := rfl
theorem rf_111_10 (q : Nat → Option Nat) : rq q 111 10 = some 115 := rfl
theorem rf_111_11 (q : Nat → Option Nat) : rq q 111 11 = some 116 := rfl
theorem rf_111_12 (q : Nat → Option Nat) : rq q 111 12 = some 117 := rfl
theorem rf_111_13 (q : Nat → Option Nat) : rq q 111 13 = some 118 := rfl
theorem rf_111_14 (q : Nat → Option Nat) : rq q 111 14 = some 119 := rfl
theorem rf_111_15 (q : Nat → Option Nat) : rq q 111 15 = some 120 := rfl
theorem rf_111_16 (q : Nat → Option Nat) : rq q 111 16 = some 121 := rfl
theorem rf_111_17 (q : Nat → Option Nat) : rq q 111 17 = some 122 := rfl
theorem rf_111_19 (q : Nat → Option Nat) : rq q 111 19 = some 123 := rfl
theorem rf_111_20 (q : Nat → Option Nat) : rq q 111 20 = some 124 := rfl
theorem rf_111_21 (q : Nat → Option Nat) : rq q 111 21 = some 125 := rfl
theorem rf_111_27 (q : Nat → Option Nat) : rq q 111 27 = some 126 := rfl
theorem rf_111_28 (q : Nat → Option Nat) : rq q 111 28 = some 127 := rfl
theorem rf_111_29 (q : Nat → Option Nat) : rq q 111 29 = some 128 := rfl
theorem rf_111_30 (q : Nat → Option Nat) : rq q 111 30 = some 129 := rfl
theorem rf_111_31 (q : Nat → Option Nat) : rq q 111 31 = some 130 := rfl
theorem rf_111_32 (q : Nat → Option Nat) : rq q 111 32 = some 131 := rfl
theorem rf_111_33 (q : Nat → Option Nat) : rq q 111 33 = some 132 := rfl
theorem rf_111_36 (q : Nat → Option Nat) : rq q 111 36 = some 133 := rfl
theorem rf_111_40 (q : Nat → Option Nat) : rq q 111 40 = some 134 := rfl
theorem rf_111_41 (q : Nat → Option Nat) : rq q 111 41 = some 135 := rfl
theorem rf_111_42 (q : Nat → Option Nat) : rq q 111 42 = some 136 := rfl
section SROWS
variable {ρ : Type} {X : wX} {y : MethodName} {cc : ByteArray} {mL : Nat} {ret : Option FieldType} {rm : Room} {Z : ρ → (State → Prop) → Prop} {k kt kf : Option ρ} {N : Nat} {h : Hp} {q : Nat → Option Nat} {cl sl pc pc' tgt cl' sl' : Nat} {L L' : List (Nat × Value)} {st rest : List Value} {off : Int}
/-- a piece of a board -/
theorem wG_aaP (C : Cx X y cc mL ret rm) {b p e : Nat} {i : Int32} {kk : Nat → Option ρ} (hN : 137 ≤ N) (hb : Kd b = 1) (hp : b + 1 = p) (he : b + 3 = e) (hd : dcd cc pc .aaload 1 pc') (g : ∀ a, Kd a = 7 → wG X mL Z (kk a) N h (rq q) cl sl pc' L (.ref (xB X + a) :: st)) : wG X mL Z (if inB i 24 then vB (e + ix i) kk else none) N h (rq q) cl sl pc L (.int i :: .ref (xB X + p) :: st) := by
  subst hp; subst he
  have key := wG_aald (kk := kk) (i := i) (r := rq q) (Z := Z) (L := L) (st := st) (h := h) (cl := cl) (sl := sl) C (kb1 hb) (by decide) (by decide) (Cn := RX7) rfl (wlt hN (kb1 hb) (by decide)) (lb1 hb) hd
  by_cases hin : inB i 24
  · have e := rp q hb (ix_lt hin)
    rw [if_pos hin, e] at key
    rw [if_pos hin]
    exact key (fun a ha => by cases ha; exact g _ (kp hb (ix_lt hin)))
  · rw [if_neg hin]; exact wG_none
/-- a slot's board -/
theorem wG_aaS (C : Cx X y cc mL ret rm) {i : Int32} {kk : Nat → Option ρ} (hN : 137 ≤ N) (hd : dcd cc pc .aaload 1 pc') (g : ∀ a, Kd a = 1 → wG X mL Z (kk a) N h (rq q) cl sl pc' L (.ref (xB X + a) :: st)) : wG X mL Z (if inB i 2 then vB (57 + 27 * ix i) kk else none) N h (rq q) cl sl pc L (.int i :: .ref (xB X + 34) :: st) := by
  have key := wG_aald (kk := kk) (i := i) (r := rq q) (Z := Z) (L := L) (st := st) (h := h) (cl := cl) (sl := sl) C kd_34 (by decide) (by decide) (Cn := RX1) rfl (wll hN (by decide)) ln_34 hd
  by_cases hin : inB i 2
  · have e : rq q 34 (ix i) = some (57 + 27 * ix i) := (ksl _ (ix_lt hin)).2
    rw [if_pos hin, e] at key
    rw [if_pos hin]
    exact key (fun a ha => by cases ha; exact g _ (ksl _ (ix_lt hin)).1)
  · rw [if_neg hin]; exact wG_none
/-- an ask of the order -/
theorem wG_aaQ (C : Cx X y cc mL ret rm) {i : Int32} {kk : Nat → Option ρ} (hN : 137 ≤ N) (hd : dcd cc pc .aaload 1 pc') (g : ∀ a, Kd a = 0 → a < N → wG X mL Z (kk a) N h (rq q) cl sl pc' L (.ref (xB X + a) :: st)) : wG X mL Z (if inB i 4 then (q (ix i)).bind kk else none) N h (rq q) cl sl pc L (.int i :: .ref (xB X + 43) :: st) := by
  intro z hz Q hQ H locs ls w S hl
  refine wG_aald (kk := kk) (i := i) (r := rq q) (Z := Z) (L := L) (st := st) (h := h) (cl := cl) (sl := sl) C kd_43 (by decide) (by decide) (Cn := RX0) rfl (wll hN (by decide)) ln_43 hd (fun a ha => ?_) z hz Q hQ H locs ls w S hl
  obtain ⟨h1, h2⟩ := w.2.2 _ _ ha
  exact g a (Kd_ge h1) h2
/-- a new ask -/
theorem wG_newA (C : Cx X y cc mL ret rm) {idx : Nat} {kk : Hp → Option ρ} (hN : 137 ≤ N) (hw : oW y.cls idx 0) (hR : cl + 1 ≤ rm.cells ∧ sl + 3 ≤ rm.slots) (hd : dcd cc pc (.new idx) 3 pc') (hcl : cl + 1 = cl') (hsl : sl + 3 = sl')
    (g : ∀ h', wG X mL Z (kk h') (N + 1) h' (rq q) cl' sl' pc' L (.ref (xB X + N) :: st)) : wG X mL Z (vB (va_up h N (fun _ => 0)) kk) N h (rq q) cl sl pc L st := by
  intro z hz
  classical
  exact wG_new (kk := fun h' r' => if r' = rq q then kk h' else none) C hw (Kd_ge hN) (show nF 0 = 3 from rfl) hR hd hcl hsl (fun h' r' => by
    by_cases e : r' = rq q
    · rw [if_pos e, e]; exact g h'
    · rw [if_neg e]; exact wG_none) z (by show vB _ _ = _; unfold vB at hz ⊢; rw [rq_new q hN]; simpa [vB] using hz)
theorem wG_astQ (C : Cx X y cc mL ret rm) {b : Nat} {i : Int32} {kk : (Nat → Option Nat) → Option ρ} (hN : 137 ≤ N) (hb1 : 137 ≤ b) (hb : b < N) (hd : dcd cc pc .aastore 1 pc')
    (g : ∀ q', wG X mL Z (kk q') N h (rq q') cl sl pc' L st) : wG X mL Z (if inB i 4 then vB (va_up q (ix i) (some b)) kk else none) N h (rq q) cl sl pc L (.ref (xB X + b) :: .int i :: .ref (xB X + 43) :: st) := by
  intro z hz
  classical
  refine wG_aast (kk := fun r' => if r' = rq (va_up q (ix i) (some b)) then kk (va_up q (ix i) (some b)) else none) C kd_43 (by decide) (by decide) (q := (RX0, TX0, 3)) rfl (wll hN (by decide)) ln_43 (Kd_ge hb1) (by decide) rfl hb (fun _ => hb1) hd (fun r' => ?_) z ?_
  · by_cases e : r' = rq (va_up q (ix i) (some b))
    · rw [if_pos e, e]; exact g _
    · rw [if_neg e]; exact wG_none
  · by_cases hin : inB i 4
    · rw [if_pos hin] at hz ⊢
      unfold vB at hz ⊢
      rw [rq_put]
      show (if _ then _ else _) = _
      rw [if_pos rfl]; exact hz
    · rw [if_neg hin] at hz; cases hz
end SROWS
