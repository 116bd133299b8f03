/-! the words and the decode rows: their forms -/
-- the words
def BIG : List Cond := lw_tbl.filter goodWord
theorem bm {w : Cond} {i : Nat} (h : lw_tbl[i]? = some w) (hg : goodWord w = true) : w ∈ BIG := List.mem_filter.mpr ⟨List.mem_of_getElem? h, hg⟩
theorem BIG_good : ∀ w ∈ BIG, (w.onTables && w.keeps) = true ∨ ∃ ty, w = .arrayClass ty := fun w h => good_of_word (List.mem_filter.mp h).2
theorem good_ws {y z : MethodName} {cc cd : ByteArray} {m n : Nat} {ry rz : Option FieldType} (hz : Cond.code z cd n rz ∈ BIG) : GoodIn (.code y cc m ry :: BIG) (.code z cd n rz :: BIG) := fun w h => by
  rcases List.mem_cons.mp h with rfl | h
  · exact ⟨List.mem_cons_of_mem _ hz, BIG_good _ hz⟩
  · exact ⟨List.mem_cons_of_mem _ h, BIG_good _ h⟩
theorem good_wsB {z : MethodName} {cd : ByteArray} {n : Nat} {rz : Option FieldType} (hz : Cond.code z cd n rz ∈ BIG) : GoodIn BIG (.code z cd n rz :: BIG) := fun w h => by
  rcases List.mem_cons.mp h with rfl | h
  · exact ⟨hz, BIG_good _ hz⟩
  · exact ⟨h, BIG_good _ h⟩
theorem bms {ws : List Cond} (ps : List Nat) (hp : ws = ps.filterMap (fun i => lw_tbl[i]?)) (hg : ws.all goodWord = true) : ∀ w ∈ ws, w ∈ BIG := by
  intro w hw
  have h1 := List.all_eq_true.mp hg w hw
  rw [hp] at hw
  obtain ⟨i, -, hi⟩ := List.mem_filterMap.mp hw
  exact bm hi h1
theorem bmt {w : Cond} (h : w ∈ lw_tbl) (hg : goodWord w = true) : w ∈ BIG := List.mem_filter.mpr ⟨h, hg⟩
theorem bt0 {w : Cond} {i : Nat} (h : (k2_sels lw_privs)[i]? = some w) (hg : goodWord w = true) : w ∈ BIG := bmt (List.mem_append_left _ (List.mem_of_getElem? h)) hg
theorem bt1 {w : Cond} {i : Nat} (h : tables_1_1[i]? = some w) (hg : goodWord w = true) : w ∈ BIG := bmt (List.mem_append_right _ (List.mem_append_left _ (List.mem_of_getElem? h))) hg
theorem bt2 {w : Cond} {i : Nat} (h : tables_1_2[i]? = some w) (hg : goodWord w = true) : w ∈ BIG := bmt (List.mem_append_right _ (List.mem_append_right _ (List.mem_append_left _ (List.mem_of_getElem? h)))) hg
theorem bt3 {w : Cond} {i : Nat} (h : tables_1_3[i]? = some w) (hg : goodWord w = true) : w ∈ BIG := bmt (List.mem_append_right _ (List.mem_append_right _ (List.mem_append_right _ (List.mem_append_left _ (List.mem_of_getElem? h))))) hg
theorem bt4 {w : Cond} {i : Nat} (h : tables_1_4[i]? = some w) (hg : goodWord w = true) : w ∈ BIG := bmt (List.mem_append_right _ (List.mem_append_right _ (List.mem_append_right _ (List.mem_append_right _ (List.mem_append_left _ (List.mem_of_getElem? h)))))) hg
theorem bt5 {w : Cond} {i : Nat} (h : tables_1_5[i]? = some w) (hg : goodWord w = true) : w ∈ BIG := bmt (List.mem_append_right _ (List.mem_append_right _ (List.mem_append_right _ (List.mem_append_right _ (List.mem_append_right _ (List.mem_append_left _ (List.mem_of_getElem? h))))))) hg
theorem bt6 {w : Cond} {i : Nat} (h : tables_1_6[i]? = some w) (hg : goodWord w = true) : w ∈ BIG := bmt (List.mem_append_right _ (List.mem_append_right _ (List.mem_append_right _ (List.mem_append_right _ (List.mem_append_right _ (List.mem_append_right _ (List.mem_append_left _ (List.mem_of_getElem? h)))))))) hg
theorem bt7 {w : Cond} {i : Nat} (h : tables_1_7[i]? = some w) (hg : goodWord w = true) : w ∈ BIG := bmt (List.mem_append_right _ (List.mem_append_right _ (List.mem_append_right _ (List.mem_append_right _ (List.mem_append_right _ (List.mem_append_right _ (List.mem_append_right _ (List.mem_of_getElem? h)))))))) hg
abbrev dcd (cc : ByteArray) (pc : Nat) (i : Instr) (n pc' : Nat) : Prop := decode cc pc = .ok (i, n) ∧ pc + n = pc'
abbrev dcb (cc : ByteArray) (pc : Nat) (i : Instr) (off : Int) (tgt pc' : Nat) : Prop := decode cc pc = .ok (i, 3) ∧ (pc : Int) + off = (tgt : Int) ∧ pc + 3 = pc'
