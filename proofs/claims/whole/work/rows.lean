section
-- ===== PART A: goes FIRST, ahead of the names: the tables' words, and 'selects' of the private methods out of them =====
/-- a private method of a class that the tables say can be made, by its rows of tables_1 -/
def lw_okq (q : MethodName × Nat) : Prop := (q.1.cls ≠ "java/lang/invoke/MethodHandle" ∧ q.1.cls ≠ "java/lang/invoke/VarHandle") ∧ Cond.instantiable q.1.cls q.2 ∈ tables_1 ∧ Cond.privateMethod q.1 ∈ tables_1 ∧ Cond.instanceMethod q.1 ∈ tables_1
theorem lw_p0 : lw_okq (⟨"WheelAndWireModel", "readForm", "()I"⟩, 47) := ⟨⟨by decide +kernel, by decide +kernel⟩, List.mem_of_getElem? (i := 959) (by decide +kernel), List.mem_of_getElem? (i := 1124) (by decide +kernel), List.mem_of_getElem? (i := 1125) (by decide +kernel)⟩
theorem lw_p1 : lw_okq (⟨"WheelAndWireModel", "begin", "()V"⟩, 47) := ⟨⟨by decide +kernel, by decide +kernel⟩, List.mem_of_getElem? (i := 959) (by decide +kernel), List.mem_of_getElem? (i := 1135) (by decide +kernel), List.mem_of_getElem? (i := 1136) (by decide +kernel)⟩
theorem lw_p2 : lw_okq (⟨"WheelAndWireModel", "noStand", "(I)Z"⟩, 47) := ⟨⟨by decide +kernel, by decide +kernel⟩, List.mem_of_getElem? (i := 959) (by decide +kernel), List.mem_of_getElem? (i := 1147) (by decide +kernel), List.mem_of_getElem? (i := 1148) (by decide +kernel)⟩
theorem lw_p3 : lw_okq (⟨"WheelAndWireModel", "noPiece", "(I)Z"⟩, 47) := ⟨⟨by decide +kernel, by decide +kernel⟩, List.mem_of_getElem? (i := 959) (by decide +kernel), List.mem_of_getElem? (i := 1151) (by decide +kernel), List.mem_of_getElem? (i := 1152) (by decide +kernel)⟩
theorem lw_p4 : lw_okq (⟨"WheelAndWireModel", "makeCut", "(IZI)I"⟩, 47) := ⟨⟨by decide +kernel, by decide +kernel⟩, List.mem_of_getElem? (i := 959) (by decide +kernel), List.mem_of_getElem? (i := 1155) (by decide +kernel), List.mem_of_getElem? (i := 1156) (by decide +kernel)⟩
theorem lw_p5 : lw_okq (⟨"WheelAndWireModel", "offAhead", "(IZI)I"⟩, 47) := ⟨⟨by decide +kernel, by decide +kernel⟩, List.mem_of_getElem? (i := 959) (by decide +kernel), List.mem_of_getElem? (i := 1159) (by decide +kernel), List.mem_of_getElem? (i := 1160) (by decide +kernel)⟩
theorem lw_p6 : lw_okq (⟨"WheelAndWireModel", "weightOf", "(IIII)I"⟩, 47) := ⟨⟨by decide +kernel, by decide +kernel⟩, List.mem_of_getElem? (i := 959) (by decide +kernel), List.mem_of_getElem? (i := 1163) (by decide +kernel), List.mem_of_getElem? (i := 1164) (by decide +kernel)⟩
theorem lw_p7 : lw_okq (⟨"WheelAndWireModel", "driedAhead", "(IIZI)I"⟩, 47) := ⟨⟨by decide +kernel, by decide +kernel⟩, List.mem_of_getElem? (i := 959) (by decide +kernel), List.mem_of_getElem? (i := 1167) (by decide +kernel), List.mem_of_getElem? (i := 1168) (by decide +kernel)⟩
theorem lw_p8 : lw_okq (⟨"WheelAndWireModel", "countOf", "(IIIII)I"⟩, 47) := ⟨⟨by decide +kernel, by decide +kernel⟩, List.mem_of_getElem? (i := 959) (by decide +kernel), List.mem_of_getElem? (i := 1175) (by decide +kernel), List.mem_of_getElem? (i := 1176) (by decide +kernel)⟩
theorem lw_p9 : lw_okq (⟨"WheelAndWireModel", "edges", "(I)I"⟩, 47) := ⟨⟨by decide +kernel, by decide +kernel⟩, List.mem_of_getElem? (i := 959) (by decide +kernel), List.mem_of_getElem? (i := 1179) (by decide +kernel), List.mem_of_getElem? (i := 1180) (by decide +kernel)⟩
theorem lw_p10 : lw_okq (⟨"WheelAndWireModel", "face", "(II)I"⟩, 47) := ⟨⟨by decide +kernel, by decide +kernel⟩, List.mem_of_getElem? (i := 959) (by decide +kernel), List.mem_of_getElem? (i := 1183) (by decide +kernel), List.mem_of_getElem? (i := 1184) (by decide +kernel)⟩
theorem lw_p11 : lw_okq (⟨"WheelAndWireModel", "allDried", "(I)I"⟩, 47) := ⟨⟨by decide +kernel, by decide +kernel⟩, List.mem_of_getElem? (i := 959) (by decide +kernel), List.mem_of_getElem? (i := 1187) (by decide +kernel), List.mem_of_getElem? (i := 1188) (by decide +kernel)⟩
theorem lw_p12 : lw_okq (⟨"WheelAndWireModel", "isEnd", "(I)Z"⟩, 47) := ⟨⟨by decide +kernel, by decide +kernel⟩, List.mem_of_getElem? (i := 959) (by decide +kernel), List.mem_of_getElem? (i := 1191) (by decide +kernel), List.mem_of_getElem? (i := 1192) (by decide +kernel)⟩
theorem lw_p13 : lw_okq (⟨"WheelAndWireModel", "weighsOf", "(I)I"⟩, 47) := ⟨⟨by decide +kernel, by decide +kernel⟩, List.mem_of_getElem? (i := 959) (by decide +kernel), List.mem_of_getElem? (i := 1199) (by decide +kernel), List.mem_of_getElem? (i := 1200) (by decide +kernel)⟩
theorem lw_p14 : lw_okq (⟨"WheelAndWireModel", "isServed", "(IIII)Z"⟩, 47) := ⟨⟨by decide +kernel, by decide +kernel⟩, List.mem_of_getElem? (i := 959) (by decide +kernel), List.mem_of_getElem? (i := 1234) (by decide +kernel), List.mem_of_getElem? (i := 1235) (by decide +kernel)⟩
theorem lw_p15 : lw_okq (⟨"WheelAndWireModel", "standsFor", "(III)I"⟩, 47) := ⟨⟨by decide +kernel, by decide +kernel⟩, List.mem_of_getElem? (i := 959) (by decide +kernel), List.mem_of_getElem? (i := 1242) (by decide +kernel), List.mem_of_getElem? (i := 1243) (by decide +kernel)⟩
def lw_privs_1 : List (MethodName × Nat) := [(⟨"WheelAndWireModel", "readForm", "()I"⟩, 47), (⟨"WheelAndWireModel", "begin", "()V"⟩, 47), (⟨"WheelAndWireModel", "noStand", "(I)Z"⟩, 47), (⟨"WheelAndWireModel", "noPiece", "(I)Z"⟩, 47), (⟨"WheelAndWireModel", "makeCut", "(IZI)I"⟩, 47), (⟨"WheelAndWireModel", "offAhead", "(IZI)I"⟩, 47), (⟨"WheelAndWireModel", "weightOf", "(IIII)I"⟩, 47), (⟨"WheelAndWireModel", "driedAhead", "(IIZI)I"⟩, 47), (⟨"WheelAndWireModel", "countOf", "(IIIII)I"⟩, 47), (⟨"WheelAndWireModel", "edges", "(I)I"⟩, 47), (⟨"WheelAndWireModel", "face", "(II)I"⟩, 47), (⟨"WheelAndWireModel", "allDried", "(I)I"⟩, 47), (⟨"WheelAndWireModel", "isEnd", "(I)Z"⟩, 47), (⟨"WheelAndWireModel", "weighsOf", "(I)I"⟩, 47), (⟨"WheelAndWireModel", "isServed", "(IIII)Z"⟩, 47), (⟨"WheelAndWireModel", "standsFor", "(III)I"⟩, 47)]
theorem lw_r1 : ∀ q ∈ lw_privs_1, lw_okq q := List.forall_mem_cons.mpr ⟨lw_p0, List.forall_mem_cons.mpr ⟨lw_p1, List.forall_mem_cons.mpr ⟨lw_p2, List.forall_mem_cons.mpr ⟨lw_p3, List.forall_mem_cons.mpr ⟨lw_p4, List.forall_mem_cons.mpr ⟨lw_p5, List.forall_mem_cons.mpr ⟨lw_p6, List.forall_mem_cons.mpr ⟨lw_p7, List.forall_mem_cons.mpr ⟨lw_p8, List.forall_mem_cons.mpr ⟨lw_p9, List.forall_mem_cons.mpr ⟨lw_p10, List.forall_mem_cons.mpr ⟨lw_p11, List.forall_mem_cons.mpr ⟨lw_p12, List.forall_mem_cons.mpr ⟨lw_p13, List.forall_mem_cons.mpr ⟨lw_p14, List.forall_mem_cons.mpr ⟨lw_p15, fun _ h => absurd h List.not_mem_nil⟩⟩⟩⟩⟩⟩⟩⟩⟩⟩⟩⟩⟩⟩⟩⟩
theorem lw_p16 : lw_okq (⟨"WheelAndWireModel", "findCut", "(III)V"⟩, 47) := ⟨⟨by decide +kernel, by decide +kernel⟩, List.mem_of_getElem? (i := 959) (by decide +kernel), List.mem_of_getElem? (i := 1250) (by decide +kernel), List.mem_of_getElem? (i := 1251) (by decide +kernel)⟩
theorem lw_p17 : lw_okq (⟨"WheelAndWireModel", "isPart", "(IZIZIII)Z"⟩, 47) := ⟨⟨by decide +kernel, by decide +kernel⟩, List.mem_of_getElem? (i := 959) (by decide +kernel), List.mem_of_getElem? (i := 1255) (by decide +kernel), List.mem_of_getElem? (i := 1256) (by decide +kernel)⟩
theorem lw_p18 : lw_okq (⟨"WheelAndWireModel", "layPart", "(IZIZ)V"⟩, 47) := ⟨⟨by decide +kernel, by decide +kernel⟩, List.mem_of_getElem? (i := 959) (by decide +kernel), List.mem_of_getElem? (i := 1259) (by decide +kernel), List.mem_of_getElem? (i := 1260) (by decide +kernel)⟩
theorem lw_p19 : lw_okq (⟨"WheelAndWireModel", "make", "(I)I"⟩, 47) := ⟨⟨by decide +kernel, by decide +kernel⟩, List.mem_of_getElem? (i := 959) (by decide +kernel), List.mem_of_getElem? (i := 1267) (by decide +kernel), List.mem_of_getElem? (i := 1268) (by decide +kernel)⟩
theorem lw_p20 : lw_okq (⟨"WheelAndWireModel", "findTwo", "(IIIII)V"⟩, 47) := ⟨⟨by decide +kernel, by decide +kernel⟩, List.mem_of_getElem? (i := 959) (by decide +kernel), List.mem_of_getElem? (i := 1275) (by decide +kernel), List.mem_of_getElem? (i := 1276) (by decide +kernel)⟩
theorem lw_p21 : lw_okq (⟨"WheelAndWireModel", "putAside", "()V"⟩, 47) := ⟨⟨by decide +kernel, by decide +kernel⟩, List.mem_of_getElem? (i := 959) (by decide +kernel), List.mem_of_getElem? (i := 1279) (by decide +kernel), List.mem_of_getElem? (i := 1280) (by decide +kernel)⟩
theorem lw_p22 : lw_okq (⟨"WheelAndWireModel", "second", "(III)I"⟩, 47) := ⟨⟨by decide +kernel, by decide +kernel⟩, List.mem_of_getElem? (i := 959) (by decide +kernel), List.mem_of_getElem? (i := 1283) (by decide +kernel), List.mem_of_getElem? (i := 1284) (by decide +kernel)⟩
theorem lw_p23 : lw_okq (⟨"WheelAndWireModel", "keepTwo", "(II)V"⟩, 47) := ⟨⟨by decide +kernel, by decide +kernel⟩, List.mem_of_getElem? (i := 959) (by decide +kernel), List.mem_of_getElem? (i := 1287) (by decide +kernel), List.mem_of_getElem? (i := 1288) (by decide +kernel)⟩
theorem lw_p24 : lw_okq (⟨"WheelAndWireModel", "takeBack", "()V"⟩, 47) := ⟨⟨by decide +kernel, by decide +kernel⟩, List.mem_of_getElem? (i := 959) (by decide +kernel), List.mem_of_getElem? (i := 1291) (by decide +kernel), List.mem_of_getElem? (i := 1292) (by decide +kernel)⟩
theorem lw_p25 : lw_okq (⟨"WheelAndWireModel", "wholeWire", "()I"⟩, 47) := ⟨⟨by decide +kernel, by decide +kernel⟩, List.mem_of_getElem? (i := 959) (by decide +kernel), List.mem_of_getElem? (i := 1312) (by decide +kernel), List.mem_of_getElem? (i := 1313) (by decide +kernel)⟩
theorem lw_p26 : lw_okq (⟨"WheelAndWireModel", "layWires", "()V"⟩, 47) := ⟨⟨by decide +kernel, by decide +kernel⟩, List.mem_of_getElem? (i := 959) (by decide +kernel), List.mem_of_getElem? (i := 1316) (by decide +kernel), List.mem_of_getElem? (i := 1317) (by decide +kernel)⟩
theorem lw_p27 : lw_okq (⟨"WheelAndWireModel", "layBlocks", "()V"⟩, 47) := ⟨⟨by decide +kernel, by decide +kernel⟩, List.mem_of_getElem? (i := 959) (by decide +kernel), List.mem_of_getElem? (i := 1320) (by decide +kernel), List.mem_of_getElem? (i := 1321) (by decide +kernel)⟩
theorem lw_p28 : lw_okq (⟨"WheelAndWireModel", "isAsk", "(II)Z"⟩, 47) := ⟨⟨by decide +kernel, by decide +kernel⟩, List.mem_of_getElem? (i := 959) (by decide +kernel), List.mem_of_getElem? (i := 1327) (by decide +kernel), List.mem_of_getElem? (i := 1328) (by decide +kernel)⟩
theorem lw_p29 : lw_okq (⟨"WheelAndWireModel", "bestWire", "(IIIII)I"⟩, 47) := ⟨⟨by decide +kernel, by decide +kernel⟩, List.mem_of_getElem? (i := 959) (by decide +kernel), List.mem_of_getElem? (i := 1331) (by decide +kernel), List.mem_of_getElem? (i := 1332) (by decide +kernel)⟩
theorem lw_p30 : lw_okq (⟨"WheelAndWireModel", "bestOf", "(IIIIZZ)I"⟩, 47) := ⟨⟨by decide +kernel, by decide +kernel⟩, List.mem_of_getElem? (i := 959) (by decide +kernel), List.mem_of_getElem? (i := 1343) (by decide +kernel), List.mem_of_getElem? (i := 1344) (by decide +kernel)⟩
theorem lw_p31 : lw_okq (⟨"WheelAndWireModel", "goesThrough", "(IIIIZI)Z"⟩, 47) := ⟨⟨by decide +kernel, by decide +kernel⟩, List.mem_of_getElem? (i := 959) (by decide +kernel), List.mem_of_getElem? (i := 1347) (by decide +kernel), List.mem_of_getElem? (i := 1348) (by decide +kernel)⟩
def lw_privs_2 : List (MethodName × Nat) := [(⟨"WheelAndWireModel", "findCut", "(III)V"⟩, 47), (⟨"WheelAndWireModel", "isPart", "(IZIZIII)Z"⟩, 47), (⟨"WheelAndWireModel", "layPart", "(IZIZ)V"⟩, 47), (⟨"WheelAndWireModel", "make", "(I)I"⟩, 47), (⟨"WheelAndWireModel", "findTwo", "(IIIII)V"⟩, 47), (⟨"WheelAndWireModel", "putAside", "()V"⟩, 47), (⟨"WheelAndWireModel", "second", "(III)I"⟩, 47), (⟨"WheelAndWireModel", "keepTwo", "(II)V"⟩, 47), (⟨"WheelAndWireModel", "takeBack", "()V"⟩, 47), (⟨"WheelAndWireModel", "wholeWire", "()I"⟩, 47), (⟨"WheelAndWireModel", "layWires", "()V"⟩, 47), (⟨"WheelAndWireModel", "layBlocks", "()V"⟩, 47), (⟨"WheelAndWireModel", "isAsk", "(II)Z"⟩, 47), (⟨"WheelAndWireModel", "bestWire", "(IIIII)I"⟩, 47), (⟨"WheelAndWireModel", "bestOf", "(IIIIZZ)I"⟩, 47), (⟨"WheelAndWireModel", "goesThrough", "(IIIIZI)Z"⟩, 47)]
theorem lw_r2 : ∀ q ∈ lw_privs_2, lw_okq q := List.forall_mem_cons.mpr ⟨lw_p16, List.forall_mem_cons.mpr ⟨lw_p17, List.forall_mem_cons.mpr ⟨lw_p18, List.forall_mem_cons.mpr ⟨lw_p19, List.forall_mem_cons.mpr ⟨lw_p20, List.forall_mem_cons.mpr ⟨lw_p21, List.forall_mem_cons.mpr ⟨lw_p22, List.forall_mem_cons.mpr ⟨lw_p23, List.forall_mem_cons.mpr ⟨lw_p24, List.forall_mem_cons.mpr ⟨lw_p25, List.forall_mem_cons.mpr ⟨lw_p26, List.forall_mem_cons.mpr ⟨lw_p27, List.forall_mem_cons.mpr ⟨lw_p28, List.forall_mem_cons.mpr ⟨lw_p29, List.forall_mem_cons.mpr ⟨lw_p30, List.forall_mem_cons.mpr ⟨lw_p31, fun _ h => absurd h List.not_mem_nil⟩⟩⟩⟩⟩⟩⟩⟩⟩⟩⟩⟩⟩⟩⟩⟩
theorem lw_p32 : lw_okq (⟨"WheelAndWireModel", "noBlock", "(I)Z"⟩, 47) := ⟨⟨by decide +kernel, by decide +kernel⟩, List.mem_of_getElem? (i := 959) (by decide +kernel), List.mem_of_getElem? (i := 1358) (by decide +kernel), List.mem_of_getElem? (i := 1359) (by decide +kernel)⟩
theorem lw_p33 : lw_okq (⟨"WheelAndWireModel", "paste", "(I)I"⟩, 47) := ⟨⟨by decide +kernel, by decide +kernel⟩, List.mem_of_getElem? (i := 959) (by decide +kernel), List.mem_of_getElem? (i := 1381) (by decide +kernel), List.mem_of_getElem? (i := 1382) (by decide +kernel)⟩
theorem lw_p34 : lw_okq (⟨"WheelAndWireModel", "ripeIn", "(II)I"⟩, 47) := ⟨⟨by decide +kernel, by decide +kernel⟩, List.mem_of_getElem? (i := 959) (by decide +kernel), List.mem_of_getElem? (i := 1385) (by decide +kernel), List.mem_of_getElem? (i := 1386) (by decide +kernel)⟩
theorem lw_p35 : lw_okq (⟨"WheelAndWireModel", "isRipe", "(III)Z"⟩, 47) := ⟨⟨by decide +kernel, by decide +kernel⟩, List.mem_of_getElem? (i := 959) (by decide +kernel), List.mem_of_getElem? (i := 1389) (by decide +kernel), List.mem_of_getElem? (i := 1390) (by decide +kernel)⟩
theorem lw_p36 : lw_okq (⟨"WheelAndWireModel", "earns", "(I)I"⟩, 47) := ⟨⟨by decide +kernel, by decide +kernel⟩, List.mem_of_getElem? (i := 959) (by decide +kernel), List.mem_of_getElem? (i := 1411) (by decide +kernel), List.mem_of_getElem? (i := 1412) (by decide +kernel)⟩
theorem lw_p37 : lw_okq (⟨"WheelAndWireModel", "gain", "(I)I"⟩, 47) := ⟨⟨by decide +kernel, by decide +kernel⟩, List.mem_of_getElem? (i := 959) (by decide +kernel), List.mem_of_getElem? (i := 1428) (by decide +kernel), List.mem_of_getElem? (i := 1429) (by decide +kernel)⟩
theorem lw_p38 : lw_okq (⟨"WheelAndWireModel", "standing", "()I"⟩, 47) := ⟨⟨by decide +kernel, by decide +kernel⟩, List.mem_of_getElem? (i := 959) (by decide +kernel), List.mem_of_getElem? (i := 1449) (by decide +kernel), List.mem_of_getElem? (i := 1450) (by decide +kernel)⟩
def lw_privs_3 : List (MethodName × Nat) := [(⟨"WheelAndWireModel", "noBlock", "(I)Z"⟩, 47), (⟨"WheelAndWireModel", "paste", "(I)I"⟩, 47), (⟨"WheelAndWireModel", "ripeIn", "(II)I"⟩, 47), (⟨"WheelAndWireModel", "isRipe", "(III)Z"⟩, 47), (⟨"WheelAndWireModel", "earns", "(I)I"⟩, 47), (⟨"WheelAndWireModel", "gain", "(I)I"⟩, 47), (⟨"WheelAndWireModel", "standing", "()I"⟩, 47)]
theorem lw_r3 : ∀ q ∈ lw_privs_3, lw_okq q := List.forall_mem_cons.mpr ⟨lw_p32, List.forall_mem_cons.mpr ⟨lw_p33, List.forall_mem_cons.mpr ⟨lw_p34, List.forall_mem_cons.mpr ⟨lw_p35, List.forall_mem_cons.mpr ⟨lw_p36, List.forall_mem_cons.mpr ⟨lw_p37, List.forall_mem_cons.mpr ⟨lw_p38, fun _ h => absurd h List.not_mem_nil⟩⟩⟩⟩⟩⟩⟩
def lw_privs : List (MethodName × Nat) := lw_privs_1 ++ (lw_privs_2 ++ (lw_privs_3))
def lw_tbl : List Cond := k2_sels lw_privs ++ tables_1
theorem lw_privs_ok : ∀ q ∈ lw_privs, lw_okq q := by
  show ∀ q ∈ lw_privs_1 ++ (lw_privs_2 ++ (lw_privs_3)), lw_okq q
  exact List.forall_mem_append.mpr ⟨lw_r1, List.forall_mem_append.mpr ⟨lw_r2, lw_r3⟩⟩

def RX0 : String := "WheelAndWire$Ask"
def TX0 : u_T := fun k => match k with
  | 0 => ("WheelAndWire$Ask", "weight", "I", true)
  | 1 => ("WheelAndWire$Ask", "most", "I", true)
  | _ => ("WheelAndWire$Ask", "rind", "I", true)
def tyX0 : Nat → FieldType := fun k => match k with
  | 0 => .int
  | 1 => .int
  | _ => .int
theorem nmX0 : ∀ a, a < 3 → ∀ b, b < 3 → a ≠ b → (TX0 a).2.1 ≠ (TX0 b).2.1 := by decide +kernel
theorem tyX0_ok : ∀ k, k < 3 → parseFieldDescriptor (TX0 k).2.2.1 = some (tyX0 k) := by decide +kernel
abbrev cX0_init : ByteArray := prog_2_method_1_code
def yX0_init : MethodName := ⟨RX0, "<init>", "(III)V"⟩
abbrev cX0_fits : ByteArray := prog_2_method_2_code
def yX0_fits : MethodName := ⟨RX0, "fits", "(II)Z"⟩
abbrev cX0_isServedBy : ByteArray := prog_2_method_3_code
def yX0_isServedBy : MethodName := ⟨RX0, "isServedBy", "(LWheelAndWire$Piece;)Z"⟩
def RX1 : String := "WheelAndWire$Board"
def TX1 : u_T := fun k => match k with
  | 0 => ("WheelAndWire$Board", "form", "LWheelAndWire$Form;", true)
  | 1 => ("WheelAndWire$Board", "pieces", "[LWheelAndWire$Piece;", true)
  | 2 => ("WheelAndWire$Board", "spare", "LWheelAndWire$Piece;", true)
  | 3 => ("WheelAndWire$Board", "size", "I", false)
  | 4 => ("WheelAndWire$Board", "halfHours", "I", false)
  | _ => ("WheelAndWire$Board", "filled", "Z", false)
def tyX1 : Nat → FieldType := fun k => match k with
  | 0 => .object "WheelAndWire$Form"
  | 1 => .array (.object "WheelAndWire$Piece")
  | 2 => .object "WheelAndWire$Piece"
  | 3 => .int
  | 4 => .int
  | _ => .boolean
theorem nmX1 : ∀ a, a < 6 → ∀ b, b < 6 → a ≠ b → (TX1 a).2.1 ≠ (TX1 b).2.1 := by decide +kernel
theorem tyX1_ok : ∀ k, k < 6 → parseFieldDescriptor (TX1 k).2.2.1 = some (tyX1 k) := by decide +kernel
abbrev cX1_init : ByteArray := prog_3_method_1_code
def yX1_init : MethodName := ⟨RX1, "<init>", "(LWheelAndWire$Form;)V"⟩
abbrev cX1_startAnew : ByteArray := prog_3_method_2_code
def yX1_startAnew : MethodName := ⟨RX1, "startAnew", "()V"⟩
abbrev cX1_become : ByteArray := prog_3_method_3_code
def yX1_become : MethodName := ⟨RX1, "become", "(LWheelAndWire$Board;)V"⟩
abbrev cX1_knows : ByteArray := prog_3_method_4_code
def yX1_knows : MethodName := ⟨RX1, "knows", "(I)Z"⟩
abbrev cX1_stillHas : ByteArray := prog_3_method_5_code
def yX1_stillHas : MethodName := ⟨RX1, "stillHas", "(I)Z"⟩
abbrev cX1_standing : ByteArray := prog_3_method_6_code
def yX1_standing : MethodName := ⟨RX1, "standing", "()I"⟩
abbrev cX1_divide : ByteArray := prog_3_method_7_code
def yX1_divide : MethodName := ⟨RX1, "divide", "(IZI)I"⟩
abbrev cX1_goBy : ByteArray := prog_3_method_8_code
def yX1_goBy : MethodName := ⟨RX1, "goBy", "(I)V"⟩
abbrev cX1_ripestPiece : ByteArray := prog_3_method_9_code
def yX1_ripestPiece : MethodName := ⟨RX1, "ripestPiece", "(I)I"⟩
def RX2 : String := "WheelAndWire$Books"
def TX2 : u_T := fun k => match k with
  | 0 => ("WheelAndWire$Books", "limits", "[I", true)
  | 1 => ("WheelAndWire$Books", "times", "[I", true)
  | 2 => ("WheelAndWire$Books", "bought", "[I", true)
  | _ => ("WheelAndWire$Books", "overs", "I", false)
def tyX2 : Nat → FieldType := fun k => match k with
  | 0 => .array .int
  | 1 => .array .int
  | 2 => .array .int
  | _ => .int
theorem nmX2 : ∀ a, a < 4 → ∀ b, b < 4 → a ≠ b → (TX2 a).2.1 ≠ (TX2 b).2.1 := by decide +kernel
theorem tyX2_ok : ∀ k, k < 4 → parseFieldDescriptor (TX2 k).2.2.1 = some (tyX2 k) := by decide +kernel
abbrev cX2_init : ByteArray := prog_4_method_1_code
def yX2_init : MethodName := ⟨RX2, "<init>", "()V"⟩
abbrev cX2_enter : ByteArray := prog_4_method_2_code
def yX2_enter : MethodName := ⟨RX2, "enter", "(I)V"⟩
abbrev cX2_earnings : ByteArray := prog_4_method_3_code
def yX2_earnings : MethodName := ⟨RX2, "earnings", "(I)I"⟩
abbrev cX2_dearestOver : ByteArray := prog_4_method_4_code
def yX2_dearestOver : MethodName := ⟨RX2, "dearestOver", "()I"⟩
abbrev cX2_enterTaste : ByteArray := prog_4_method_5_code
def yX2_enterTaste : MethodName := ⟨RX2, "enterTaste", "(IZ)V"⟩
abbrev cX2_gainAbove : ByteArray := prog_4_method_6_code
def yX2_gainAbove : MethodName := ⟨RX2, "gainAbove", "(I)J"⟩
abbrev cX2_gainBelow : ByteArray := prog_4_method_7_code
def yX2_gainBelow : MethodName := ⟨RX2, "gainBelow", "(I)J"⟩
abbrev cX2_dearestTastes : ByteArray := prog_4_method_8_code
def yX2_dearestTastes : MethodName := ⟨RX2, "dearestTastes", "()I"⟩
def RX3 : String := "WheelAndWire$FairPlan"
def TX3 : u_T := fun k => match k with
  | 0 => ("WheelAndWire$Plan", "form", "LWheelAndWire$Form;", true)
  | 1 => ("WheelAndWire$Plan", "wishes", "I", true)
  | 2 => ("WheelAndWire$Plan", "costs", "[I", true)
  | 3 => ("WheelAndWire$FairPlan", "weightEach", "I", false)
  | _ => ("WheelAndWire$FairPlan", "rindEach", "I", false)
def tyX3 : Nat → FieldType := fun k => match k with
  | 0 => .object "WheelAndWire$Form"
  | 1 => .int
  | 2 => .array .int
  | 3 => .int
  | _ => .int
theorem nmX3 : ∀ a, a < 5 → ∀ b, b < 5 → a ≠ b → (TX3 a).2.1 ≠ (TX3 b).2.1 := by decide +kernel
theorem tyX3_ok : ∀ k, k < 5 → parseFieldDescriptor (TX3 k).2.2.1 = some (tyX3 k) := by decide +kernel
abbrev cX3_init : ByteArray := prog_5_method_1_code
def yX3_init : MethodName := ⟨RX3, "<init>", "(LWheelAndWire$Form;)V"⟩
abbrev cX3_shortest : ByteArray := prog_5_method_2_code
def yX3_shortest : MethodName := ⟨RX3, "shortest", "(I)I"⟩
abbrev cX3_verdict : ByteArray := prog_5_method_3_code
def yX3_verdict : MethodName := ⟨RX3, "verdict", "(IIIII)I"⟩
abbrev cX3_cutPrice : ByteArray := prog_5_method_4_code
def yX3_cutPrice : MethodName := ⟨RX3, "cutPrice", "(I)I"⟩
def RX4 : String := "WheelAndWire$Form"
def TX4 : u_T := fun k => match k with
  | 0 => ("WheelAndWire$Form", "kinds", "[I", true)
  | 1 => ("WheelAndWire$Form", "weightSums", "[I", true)
  | 2 => ("WheelAndWire$Form", "rindSums", "[I", true)
  | 3 => ("WheelAndWire$Form", "rows", "I", false)
  | 4 => ("WheelAndWire$Form", "columns", "I", false)
  | 5 => ("WheelAndWire$Form", "ripeFrom", "I", false)
  | _ => ("WheelAndWire$Form", "ripeFor", "I", false)
def tyX4 : Nat → FieldType := fun k => match k with
  | 0 => .array .int
  | 1 => .array .int
  | 2 => .array .int
  | 3 => .int
  | 4 => .int
  | 5 => .int
  | _ => .int
theorem nmX4 : ∀ a, a < 7 → ∀ b, b < 7 → a ≠ b → (TX4 a).2.1 ≠ (TX4 b).2.1 := by decide +kernel
theorem tyX4_ok : ∀ k, k < 7 → parseFieldDescriptor (TX4 k).2.2.1 = some (tyX4 k) := by decide +kernel
abbrev cX4_init : ByteArray := prog_6_method_1_code
def yX4_init : MethodName := ⟨RX4, "<init>", "()V"⟩
abbrev cX4_take : ByteArray := prog_6_method_2_code
def yX4_take : MethodName := ⟨RX4, "take", "(LWheelAndWire$Text;)V"⟩
abbrev cX4_addUp : ByteArray := prog_6_method_3_code
def yX4_addUp : MethodName := ⟨RX4, "addUp", "()V"⟩
abbrev cX4_addPlace : ByteArray := prog_6_method_4_code
def yX4_addPlace : MethodName := ⟨RX4, "addPlace", "([IIII)V"⟩
abbrev cX4_kindAt : ByteArray := prog_6_method_5_code
def yX4_kindAt : MethodName := ⟨RX4, "kindAt", "(II)I"⟩
abbrev cX4_holds : ByteArray := prog_6_method_6_code
def yX4_holds : MethodName := ⟨RX4, "holds", "(IIII)Z"⟩
abbrev cX4_weightIn : ByteArray := prog_6_method_7_code
def yX4_weightIn : MethodName := ⟨RX4, "weightIn", "(IIII)I"⟩
abbrev cX4_rindIn : ByteArray := prog_6_method_8_code
def yX4_rindIn : MethodName := ⟨RX4, "rindIn", "(IIII)I"⟩
abbrev cX4_sumIn : ByteArray := prog_6_method_9_code
def yX4_sumIn : MethodName := ⟨RX4, "sumIn", "([IIIII)I"⟩
abbrev cX4_isRipe : ByteArray := prog_6_method_10_code
def yX4_isRipe : MethodName := ⟨RX4, "isRipe", "(III)Z"⟩
def RX5 : String := "WheelAndWire$LeftPlan"
def TX5 : u_T := fun k => match k with
  | 0 => ("WheelAndWire$Plan", "form", "LWheelAndWire$Form;", true)
  | 1 => ("WheelAndWire$Plan", "wishes", "I", true)
  | 2 => ("WheelAndWire$Plan", "costs", "[I", true)
  | 3 => ("WheelAndWire$LeftPlan", "tops", "[I", true)
  | 4 => ("WheelAndWire$LeftPlan", "bottoms", "[I", true)
  | 5 => ("WheelAndWire$LeftPlan", "lefts", "[I", true)
  | 6 => ("WheelAndWire$LeftPlan", "rights", "[I", true)
  | 7 => ("WheelAndWire$LeftPlan", "size", "I", false)
  | _ => ("WheelAndWire$LeftPlan", "workedOut", "Z", false)
def tyX5 : Nat → FieldType := fun k => match k with
  | 0 => .object "WheelAndWire$Form"
  | 1 => .int
  | 2 => .array .int
  | 3 => .array .int
  | 4 => .array .int
  | 5 => .array .int
  | 6 => .array .int
  | 7 => .int
  | _ => .boolean
theorem nmX5 : ∀ a, a < 9 → ∀ b, b < 9 → a ≠ b → (TX5 a).2.1 ≠ (TX5 b).2.1 := by decide +kernel
theorem tyX5_ok : ∀ k, k < 9 → parseFieldDescriptor (TX5 k).2.2.1 = some (tyX5 k) := by decide +kernel
abbrev cX5_init : ByteArray := prog_7_method_1_code
def yX5_init : MethodName := ⟨RX5, "<init>", "(LWheelAndWire$Form;)V"⟩
abbrev cX5_enter : ByteArray := prog_7_method_2_code
def yX5_enter : MethodName := ⟨RX5, "enter", "(IIII)V"⟩
abbrev cX5_empty : ByteArray := prog_7_method_3_code
def yX5_empty : MethodName := ⟨RX5, "empty", "()V"⟩
abbrev cX5_touches : ByteArray := prog_7_method_4_code
def yX5_touches : MethodName := ⟨RX5, "touches", "(IIII)Z"⟩
abbrev cX5_isApart : ByteArray := prog_7_method_5_code
def yX5_isApart : MethodName := ⟨RX5, "isApart", "(IIIII)Z"⟩
abbrev cX5_fewest : ByteArray := prog_7_method_6_code
def yX5_fewest : MethodName := ⟨RX5, "fewest", "()I"⟩
abbrev cX5_verdict : ByteArray := prog_7_method_7_code
def yX5_verdict : MethodName := ⟨RX5, "verdict", "(IIIII)I"⟩
abbrev cX5_cutPrice : ByteArray := prog_7_method_8_code
def yX5_cutPrice : MethodName := ⟨RX5, "cutPrice", "(I)I"⟩
def RX6 : String := "WheelAndWire$OrderPlan"
def TX6 : u_T := fun k => match k with
  | 0 => ("WheelAndWire$Plan", "form", "LWheelAndWire$Form;", true)
  | 1 => ("WheelAndWire$Plan", "wishes", "I", true)
  | 2 => ("WheelAndWire$Plan", "costs", "[I", true)
  | 3 => ("WheelAndWire$OrderPlan", "asks", "[LWheelAndWire$Ask;", true)
  | 4 => ("WheelAndWire$OrderPlan", "leastWeights", "[I", true)
  | 5 => ("WheelAndWire$OrderPlan", "size", "I", false)
  | _ => ("WheelAndWire$OrderPlan", "workedOut", "Z", false)
def tyX6 : Nat → FieldType := fun k => match k with
  | 0 => .object "WheelAndWire$Form"
  | 1 => .int
  | 2 => .array .int
  | 3 => .array (.object "WheelAndWire$Ask")
  | 4 => .array .int
  | 5 => .int
  | _ => .boolean
theorem nmX6 : ∀ a, a < 7 → ∀ b, b < 7 → a ≠ b → (TX6 a).2.1 ≠ (TX6 b).2.1 := by decide +kernel
theorem tyX6_ok : ∀ k, k < 7 → parseFieldDescriptor (TX6 k).2.2.1 = some (tyX6 k) := by decide +kernel
abbrev cX6_init : ByteArray := prog_8_method_1_code
def yX6_init : MethodName := ⟨RX6, "<init>", "(LWheelAndWire$Form;)V"⟩
abbrev cX6_enter : ByteArray := prog_8_method_2_code
def yX6_enter : MethodName := ⟨RX6, "enter", "(LWheelAndWire$Ask;)V"⟩
abbrev cX6_empty : ByteArray := prog_8_method_3_code
def yX6_empty : MethodName := ⟨RX6, "empty", "()V"⟩
abbrev cX6_everyAsk : ByteArray := prog_8_method_4_code
def yX6_everyAsk : MethodName := ⟨RX6, "everyAsk", "()I"⟩
abbrev cX6_shortest : ByteArray := prog_8_method_5_code
def yX6_shortest : MethodName := ⟨RX6, "shortest", "()I"⟩
abbrev cX6_addUpWishes : ByteArray := prog_8_method_6_code
def yX6_addUpWishes : MethodName := ⟨RX6, "addUpWishes", "()V"⟩
abbrev cX6_firstCut : ByteArray := prog_8_method_7_code
def yX6_firstCut : MethodName := ⟨RX6, "firstCut", "(I)I"⟩
abbrev cX6_verdict : ByteArray := prog_8_method_8_code
def yX6_verdict : MethodName := ⟨RX6, "verdict", "(IIIII)I"⟩
abbrev cX6_cutPrice : ByteArray := prog_8_method_9_code
def yX6_cutPrice : MethodName := ⟨RX6, "cutPrice", "(I)I"⟩
def RX7 : String := "WheelAndWire$Piece"
def TX7 : u_T := fun k => match k with
  | 0 => ("WheelAndWire$Piece", "row", "I", false)
  | 1 => ("WheelAndWire$Piece", "column", "I", false)
  | 2 => ("WheelAndWire$Piece", "rows", "I", false)
  | 3 => ("WheelAndWire$Piece", "columns", "I", false)
  | 4 => ("WheelAndWire$Piece", "placesWeight", "I", false)
  | 5 => ("WheelAndWire$Piece", "rind", "I", false)
  | 6 => ("WheelAndWire$Piece", "state", "I", false)
  | 7 => ("WheelAndWire$Piece", "wrapping", "I", false)
  | 8 => ("WheelAndWire$Piece", "off", "I", false)
  | 9 => ("WheelAndWire$Piece", "driedAbove", "I", false)
  | 10 => ("WheelAndWire$Piece", "driedBelow", "I", false)
  | 11 => ("WheelAndWire$Piece", "driedLeft", "I", false)
  | _ => ("WheelAndWire$Piece", "driedRight", "I", false)
def tyX7 : Nat → FieldType := fun k => match k with
  | 0 => .int
  | 1 => .int
  | 2 => .int
  | 3 => .int
  | 4 => .int
  | 5 => .int
  | 6 => .int
  | 7 => .int
  | 8 => .int
  | 9 => .int
  | 10 => .int
  | 11 => .int
  | _ => .int
theorem nmX7 : ∀ a, a < 13 → ∀ b, b < 13 → a ≠ b → (TX7 a).2.1 ≠ (TX7 b).2.1 := by decide +kernel
theorem tyX7_ok : ∀ k, k < 13 → parseFieldDescriptor (TX7 k).2.2.1 = some (tyX7 k) := by decide +kernel
abbrev cX7_init : ByteArray := prog_9_method_1_code
def yX7_init : MethodName := ⟨RX7, "<init>", "()V"⟩
abbrev cX7_becomeAll : ByteArray := prog_9_method_2_code
def yX7_becomeAll : MethodName := ⟨RX7, "becomeAll", "(LWheelAndWire$Form;)V"⟩
abbrev cX7_become : ByteArray := prog_9_method_3_code
def yX7_become : MethodName := ⟨RX7, "become", "(LWheelAndWire$Piece;)V"⟩
abbrev cX7_block : ByteArray := prog_9_method_4_code
def yX7_block : MethodName := ⟨RX7, "block", "()I"⟩
abbrev cX7_edgesAbove : ByteArray := prog_9_method_5_code
def yX7_edgesAbove : MethodName := ⟨RX7, "edgesAbove", "()I"⟩
abbrev cX7_edgesBelow : ByteArray := prog_9_method_6_code
def yX7_edgesBelow : MethodName := ⟨RX7, "edgesBelow", "(LWheelAndWire$Form;)I"⟩
abbrev cX7_edgesLeft : ByteArray := prog_9_method_7_code
def yX7_edgesLeft : MethodName := ⟨RX7, "edgesLeft", "()I"⟩
abbrev cX7_edgesRight : ByteArray := prog_9_method_8_code
def yX7_edgesRight : MethodName := ⟨RX7, "edgesRight", "(LWheelAndWire$Form;)I"⟩
abbrev cX7_bareEdges : ByteArray := prog_9_method_9_code
def yX7_bareEdges : MethodName := ⟨RX7, "bareEdges", "(LWheelAndWire$Form;)I"⟩
abbrev cX7_isEnd : ByteArray := prog_9_method_10_code
def yX7_isEnd : MethodName := ⟨RX7, "isEnd", "(LWheelAndWire$Form;)Z"⟩
abbrev cX7_dried : ByteArray := prog_9_method_11_code
def yX7_dried : MethodName := ⟨RX7, "dried", "()I"⟩
abbrev cX7_weight : ByteArray := prog_9_method_12_code
def yX7_weight : MethodName := ⟨RX7, "weight", "()I"⟩
abbrev cX7_dry : ByteArray := prog_9_method_13_code
def yX7_dry : MethodName := ⟨RX7, "dry", "(LWheelAndWire$Form;I)V"⟩
abbrev cX7_dryAnew : ByteArray := prog_9_method_14_code
def yX7_dryAnew : MethodName := ⟨RX7, "dryAnew", "()V"⟩
abbrev cX7_shave : ByteArray := prog_9_method_15_code
def yX7_shave : MethodName := ⟨RX7, "shave", "(LWheelAndWire$Form;)V"⟩
abbrev cX7_cuts : ByteArray := prog_9_method_16_code
def yX7_cuts : MethodName := ⟨RX7, "cuts", "()I"⟩
abbrev cX7_isAcross : ByteArray := prog_9_method_17_code
def yX7_isAcross : MethodName := ⟨RX7, "isAcross", "(I)Z"⟩
abbrev cX7_cutAt : ByteArray := prog_9_method_18_code
def yX7_cutAt : MethodName := ⟨RX7, "cutAt", "(I)I"⟩
abbrev cX7_cutEdges : ByteArray := prog_9_method_19_code
def yX7_cutEdges : MethodName := ⟨RX7, "cutEdges", "(I)I"⟩
abbrev cX7_part : ByteArray := prog_9_method_20_code
def yX7_part : MethodName := ⟨RX7, "part", "(LWheelAndWire$Form;ZILWheelAndWire$Piece;LWheelAndWire$Piece;)V"⟩
abbrev cX7_share : ByteArray := prog_9_method_21_code
def yX7_share : MethodName := ⟨RX7, "share", "(III)I"⟩
abbrev cX7_pastePlaces : ByteArray := prog_9_method_22_code
def yX7_pastePlaces : MethodName := ⟨RX7, "pastePlaces", "(LWheelAndWire$Form;)I"⟩
abbrev cX7_ripePlaces : ByteArray := prog_9_method_23_code
def yX7_ripePlaces : MethodName := ⟨RX7, "ripePlaces", "(LWheelAndWire$Form;I)I"⟩
def RX8 : String := "WheelAndWire$Plan"
def TX8 : u_T := fun k => match k with
  | _ => ("", "", "", false)
def tyX8 : Nat → FieldType := fun k => match k with
  | _ => .int
theorem nmX8 : ∀ a, a < 0 → ∀ b, b < 0 → a ≠ b → (TX8 a).2.1 ≠ (TX8 b).2.1 := by decide +kernel
theorem tyX8_ok : ∀ k, k < 0 → parseFieldDescriptor (TX8 k).2.2.1 = some (tyX8 k) := by decide +kernel
abbrev cX8_init : ByteArray := prog_10_method_1_code
def yX8_init : MethodName := ⟨RX8, "<init>", "(LWheelAndWire$Form;I)V"⟩
abbrev cX8_workOut : ByteArray := prog_10_method_4_code
def yX8_workOut : MethodName := ⟨RX8, "workOut", "(I)V"⟩
abbrev cX8_settle : ByteArray := prog_10_method_5_code
def yX8_settle : MethodName := ⟨RX8, "settle", "(IIIII)V"⟩
abbrev cX8_leastCut : ByteArray := prog_10_method_6_code
def yX8_leastCut : MethodName := ⟨RX8, "leastCut", "(IIIII)I"⟩
abbrev cX8_cutCost : ByteArray := prog_10_method_7_code
def yX8_cutCost : MethodName := ⟨RX8, "cutCost", "(IIIIZII)I"⟩
abbrev cX8_bothCost : ByteArray := prog_10_method_8_code
def yX8_bothCost : MethodName := ⟨RX8, "bothCost", "(III)I"⟩
abbrev cX8_costOfAll : ByteArray := prog_10_method_9_code
def yX8_costOfAll : MethodName := ⟨RX8, "costOfAll", "(I)I"⟩
abbrev cX8_spotOf : ByteArray := prog_10_method_10_code
def yX8_spotOf : MethodName := ⟨RX8, "spotOf", "(IIII)I"⟩
def RX9 : String := "WheelAndWire$Shop"
def TX9 : u_T := fun k => match k with
  | 0 => ("WheelAndWire$Shop", "form", "LWheelAndWire$Form;", true)
  | 1 => ("WheelAndWire$Shop", "board", "LWheelAndWire$Board;", true)
  | 2 => ("WheelAndWire$Shop", "ahead", "LWheelAndWire$Piece;", true)
  | 3 => ("WheelAndWire$Shop", "behind", "LWheelAndWire$Piece;", true)
  | 4 => ("WheelAndWire$Shop", "laterAhead", "LWheelAndWire$Piece;", true)
  | 5 => ("WheelAndWire$Shop", "laterBehind", "LWheelAndWire$Piece;", true)
  | 6 => ("WheelAndWire$Shop", "laterWires", "[I", true)
  | 7 => ("WheelAndWire$Shop", "twoWire", "I", false)
  | _ => ("WheelAndWire$Shop", "twoWay", "I", false)
def tyX9 : Nat → FieldType := fun k => match k with
  | 0 => .object "WheelAndWire$Form"
  | 1 => .object "WheelAndWire$Board"
  | 2 => .object "WheelAndWire$Piece"
  | 3 => .object "WheelAndWire$Piece"
  | 4 => .object "WheelAndWire$Piece"
  | 5 => .object "WheelAndWire$Piece"
  | 6 => .array .int
  | 7 => .int
  | _ => .int
theorem nmX9 : ∀ a, a < 9 → ∀ b, b < 9 → a ≠ b → (TX9 a).2.1 ≠ (TX9 b).2.1 := by decide +kernel
theorem tyX9_ok : ∀ k, k < 9 → parseFieldDescriptor (TX9 k).2.2.1 = some (tyX9 k) := by decide +kernel
abbrev cX9_init : ByteArray := prog_11_method_1_code
def yX9_init : MethodName := ⟨RX9, "<init>", "(LWheelAndWire$Form;LWheelAndWire$Board;)V"⟩
abbrev cX9_lightestPiece : ByteArray := prog_11_method_2_code
def yX9_lightestPiece : MethodName := ⟨RX9, "lightestPiece", "(LWheelAndWire$Ask;)I"⟩
abbrev cX9_shortestCut : ByteArray := prog_11_method_3_code
def yX9_shortestCut : MethodName := ⟨RX9, "shortestCut", "(LWheelAndWire$Ask;)I"⟩
abbrev cX9_told : ByteArray := prog_11_method_4_code
def yX9_told : MethodName := ⟨RX9, "told", "(IIZ)I"⟩
abbrev cX9_cutOff : ByteArray := prog_11_method_5_code
def yX9_cutOff : MethodName := ⟨RX9, "cutOff", "(I)I"⟩
abbrev cX9_lookTwoAhead : ByteArray := prog_11_method_6_code
def yX9_lookTwoAhead : MethodName := ⟨RX9, "lookTwoAhead", "(LWheelAndWire$Ask;LWheelAndWire$Ask;)V"⟩
abbrev cX9_tryCuts : ByteArray := prog_11_method_7_code
def yX9_tryCuts : MethodName := ⟨RX9, "tryCuts", "(ILWheelAndWire$Ask;LWheelAndWire$Ask;)V"⟩
abbrev cX9_weighWay : ByteArray := prog_11_method_8_code
def yX9_weighWay : MethodName := ⟨RX9, "weighWay", "(II)V"⟩
abbrev cX9_laterWire : ByteArray := prog_11_method_9_code
def yX9_laterWire : MethodName := ⟨RX9, "laterWire", "(LWheelAndWire$Piece;LWheelAndWire$Ask;Z)I"⟩
abbrev cX9_laterWireElsewhere : ByteArray := prog_11_method_10_code
def yX9_laterWireElsewhere : MethodName := ⟨RX9, "laterWireElsewhere", "(IZ)I"⟩
def RX10 : String := "WheelAndWire$Text"
def TX10 : u_T := fun k => match k with
  | 0 => ("WheelAndWire$Text", "bytes", "[I", true)
  | _ => ("WheelAndWire$Text", "length", "I", false)
def tyX10 : Nat → FieldType := fun k => match k with
  | 0 => .array .int
  | _ => .int
theorem nmX10 : ∀ a, a < 2 → ∀ b, b < 2 → a ≠ b → (TX10 a).2.1 ≠ (TX10 b).2.1 := by decide +kernel
theorem tyX10_ok : ∀ k, k < 2 → parseFieldDescriptor (TX10 k).2.2.1 = some (tyX10 k) := by decide +kernel
abbrev cX10_init : ByteArray := prog_12_method_1_code
def yX10_init : MethodName := ⟨RX10, "<init>", "()V"⟩
abbrev cX10_append : ByteArray := prog_12_method_2_code
def yX10_append : MethodName := ⟨RX10, "append", "(IJ)V"⟩
abbrev cX10_firstFault : ByteArray := prog_12_method_3_code
def yX10_firstFault : MethodName := ⟨RX10, "firstFault", "()I"⟩
def RX11 : String := "WheelAndWire"
def TX11 : u_T := fun k => match k with
  | 0 => ("WheelAndWire", "text", "LWheelAndWire$Text;", true)
  | 1 => ("WheelAndWire", "cheese", "LWheelAndWire$Form;", true)
  | 2 => ("WheelAndWire", "board", "LWheelAndWire$Board;", true)
  | 3 => ("WheelAndWire", "slots", "[LWheelAndWire$Board;", true)
  | 4 => ("WheelAndWire", "shop", "LWheelAndWire$Shop;", true)
  | 5 => ("WheelAndWire", "orderPlan", "LWheelAndWire$OrderPlan;", true)
  | 6 => ("WheelAndWire", "fairPlan", "LWheelAndWire$FairPlan;", true)
  | 7 => ("WheelAndWire", "leftPlan", "LWheelAndWire$LeftPlan;", true)
  | 8 => ("WheelAndWire", "books", "LWheelAndWire$Books;", true)
  | 9 => ("WheelAndWire", "price", "I", false)
  | _ => ("WheelAndWire", "endPrice", "I", false)
def tyX11 : Nat → FieldType := fun k => match k with
  | 0 => .object "WheelAndWire$Text"
  | 1 => .object "WheelAndWire$Form"
  | 2 => .object "WheelAndWire$Board"
  | 3 => .array (.object "WheelAndWire$Board")
  | 4 => .object "WheelAndWire$Shop"
  | 5 => .object "WheelAndWire$OrderPlan"
  | 6 => .object "WheelAndWire$FairPlan"
  | 7 => .object "WheelAndWire$LeftPlan"
  | 8 => .object "WheelAndWire$Books"
  | 9 => .int
  | _ => .int
theorem nmX11 : ∀ a, a < 11 → ∀ b, b < 11 → a ≠ b → (TX11 a).2.1 ≠ (TX11 b).2.1 := by decide +kernel
theorem tyX11_ok : ∀ k, k < 11 → parseFieldDescriptor (TX11 k).2.2.1 = some (tyX11 k) := by decide +kernel
abbrev cX11_init : ByteArray := prog_1_method_1_code
def yX11_init : MethodName := ⟨RX11, "<init>", "()V"⟩
abbrev cX11_write : ByteArray := prog_1_method_2_code
def yX11_write : MethodName := ⟨RX11, "write", "(IJ)I"⟩
abbrev cX11_wipe : ByteArray := prog_1_method_3_code
def yX11_wipe : MethodName := ⟨RX11, "wipe", "()I"⟩
abbrev cX11_fault : ByteArray := prog_1_method_4_code
def yX11_fault : MethodName := ⟨RX11, "fault", "()I"⟩
abbrev cX11_form : ByteArray := prog_1_method_5_code
def yX11_form : MethodName := ⟨RX11, "form", "()I"⟩
abbrev cX11_place : ByteArray := prog_1_method_6_code
def yX11_place : MethodName := ⟨RX11, "place", "(II)I"⟩
abbrev cX11_cut : ByteArray := prog_1_method_7_code
def yX11_cut : MethodName := ⟨RX11, "cut", "(IZI)I"⟩
abbrev cX11_about : ByteArray := prog_1_method_8_code
def yX11_about : MethodName := ⟨RX11, "about", "(II)I"⟩
abbrev cX11_weighs : ByteArray := prog_1_method_9_code
def yX11_weighs : MethodName := ⟨RX11, "weighs", "(I)I"⟩
abbrev cX11_pass : ByteArray := prog_1_method_10_code
def yX11_pass : MethodName := ⟨RX11, "pass", "(I)I"⟩
abbrev cX11_wrap : ByteArray := prog_1_method_11_code
def yX11_wrap : MethodName := ⟨RX11, "wrap", "(II)I"⟩
abbrev cX11_trim : ByteArray := prog_1_method_12_code
def yX11_trim : MethodName := ⟨RX11, "trim", "(I)I"⟩
abbrev cX11_sell : ByteArray := prog_1_method_13_code
def yX11_sell : MethodName := ⟨RX11, "sell", "(IZ)I"⟩
abbrev cX11_serves : ByteArray := prog_1_method_14_code
def yX11_serves : MethodName := ⟨RX11, "serves", "(IIII)I"⟩
abbrev cX11_stands : ByteArray := prog_1_method_15_code
def yX11_stands : MethodName := ⟨RX11, "stands", "(III)I"⟩
abbrev cX11_next : ByteArray := prog_1_method_16_code
def yX11_next : MethodName := ⟨RX11, "next", "(III)I"⟩
abbrev cX11_serve : ByteArray := prog_1_method_17_code
def yX11_serve : MethodName := ⟨RX11, "serve", "(III)I"⟩
abbrev cX11_two : ByteArray := prog_1_method_18_code
def yX11_two : MethodName := ⟨RX11, "two", "(IIIII)I"⟩
abbrev cX11_twoFirst : ByteArray := prog_1_method_19_code
def yX11_twoFirst : MethodName := ⟨RX11, "twoFirst", "(IIIII)I"⟩
abbrev cX11_order : ByteArray := prog_1_method_20_code
def yX11_order : MethodName := ⟨RX11, "order", "(III)I"⟩
abbrev cX11_unorder : ByteArray := prog_1_method_21_code
def yX11_unorder : MethodName := ⟨RX11, "unorder", "()I"⟩
abbrev cX11_whole : ByteArray := prog_1_method_22_code
def yX11_whole : MethodName := ⟨RX11, "whole", "()I"⟩
abbrev cX11_first : ByteArray := prog_1_method_23_code
def yX11_first : MethodName := ⟨RX11, "first", "()I"⟩
abbrev cX11_fair : ByteArray := prog_1_method_24_code
def yX11_fair : MethodName := ⟨RX11, "fair", "(I)I"⟩
abbrev cX11_left : ByteArray := prog_1_method_25_code
def yX11_left : MethodName := ⟨RX11, "left", "(I)I"⟩
abbrev cX11_read : ByteArray := prog_1_method_26_code
def yX11_read : MethodName := ⟨RX11, "read", "()I"⟩
abbrev cX11_unleft : ByteArray := prog_1_method_27_code
def yX11_unleft : MethodName := ⟨RX11, "unleft", "()I"⟩
abbrev cX11_ripens : ByteArray := prog_1_method_28_code
def yX11_ripens : MethodName := ⟨RX11, "ripens", "(II)I"⟩
abbrev cX11_ripe : ByteArray := prog_1_method_29_code
def yX11_ripe : MethodName := ⟨RX11, "ripe", "(IIZ)J"⟩
abbrev cX11_ripest : ByteArray := prog_1_method_30_code
def yX11_ripest : MethodName := ⟨RX11, "ripest", "(I)I"⟩
abbrev cX11_book : ByteArray := prog_1_method_31_code
def yX11_book : MethodName := ⟨RX11, "book", "(I)I"⟩
abbrev cX11_over : ByteArray := prog_1_method_32_code
def yX11_over : MethodName := ⟨RX11, "over", "(I)I"⟩
abbrev cX11_bestOver : ByteArray := prog_1_method_33_code
def yX11_bestOver : MethodName := ⟨RX11, "bestOver", "()I"⟩
abbrev cX11_taste : ByteArray := prog_1_method_34_code
def yX11_taste : MethodName := ⟨RX11, "taste", "(IZ)I"⟩
abbrev cX11_brings : ByteArray := prog_1_method_35_code
def yX11_brings : MethodName := ⟨RX11, "brings", "(IZ)J"⟩
abbrev cX11_bestTaste : ByteArray := prog_1_method_36_code
def yX11_bestTaste : MethodName := ⟨RX11, "bestTaste", "()I"⟩
abbrev cX11_prices : ByteArray := prog_1_method_37_code
def yX11_prices : MethodName := ⟨RX11, "prices", "(II)I"⟩
abbrev cX11_worth : ByteArray := prog_1_method_38_code
def yX11_worth : MethodName := ⟨RX11, "worth", "()I"⟩
abbrev cX11_keep : ByteArray := prog_1_method_39_code
def yX11_keep : MethodName := ⟨RX11, "keep", "(I)I"⟩
abbrev cX11_again : ByteArray := prog_1_method_40_code
def yX11_again : MethodName := ⟨RX11, "again", "(I)I"⟩
abbrev cX11_count : ByteArray := prog_1_method_41_code
def yX11_count : MethodName := ⟨RX11, "count", "(I)I"⟩
abbrev cX11_isAsk : ByteArray := prog_1_method_42_code
def yX11_isAsk : MethodName := ⟨RX11, "isAsk", "(III)Z"⟩
abbrev cX11_commonDivisor : ByteArray := prog_1_method_43_code
def yX11_commonDivisor : MethodName := ⟨RX11, "commonDivisor", "(JJ)J"⟩
abbrev cX11_kindOf : ByteArray := prog_1_method_44_code
def yX11_kindOf : MethodName := ⟨RX11, "kindOf", "(I)I"⟩
def RX12 : String := "WheelAndWireModel"
def TX12 : u_T := fun k => match k with
  | 0 => ("WheelAndWireModel", "thrown", "I", false)
  | 1 => ("WheelAndWireModel", "text", "[I", true)
  | 2 => ("WheelAndWireModel", "textSize", "I", false)
  | 3 => ("WheelAndWireModel", "places", "[I", true)
  | 4 => ("WheelAndWireModel", "rows", "I", false)
  | 5 => ("WheelAndWireModel", "columns", "I", false)
  | 6 => ("WheelAndWireModel", "readPlaces", "[I", true)
  | 7 => ("WheelAndWireModel", "readRows", "I", false)
  | 8 => ("WheelAndWireModel", "readColumns", "I", false)
  | 9 => ("WheelAndWireModel", "many", "I", false)
  | 10 => ("WheelAndWireModel", "top", "[I", true)
  | 11 => ("WheelAndWireModel", "lefts", "[I", true)
  | 12 => ("WheelAndWireModel", "high", "[I", true)
  | 13 => ("WheelAndWireModel", "wide", "[I", true)
  | 14 => ("WheelAndWireModel", "state", "[I", true)
  | 15 => ("WheelAndWireModel", "wrap", "[I", true)
  | 16 => ("WheelAndWireModel", "off", "[I", true)
  | 17 => ("WheelAndWireModel", "dried", "[I", true)
  | 18 => ("WheelAndWireModel", "hours", "I", false)
  | 19 => ("WheelAndWireModel", "aside", "[I", true)
  | 20 => ("WheelAndWireModel", "kept", "[I", true)
  | 21 => ("WheelAndWireModel", "isKept", "[Z", true)
  | 22 => ("WheelAndWireModel", "partWeight", "I", false)
  | 23 => ("WheelAndWireModel", "partRind", "I", false)
  | 24 => ("WheelAndWireModel", "cutFound", "I", false)
  | 25 => ("WheelAndWireModel", "cutEdges", "I", false)
  | 26 => ("WheelAndWireModel", "orders", "I", false)
  | 27 => ("WheelAndWireModel", "askA", "[I", true)
  | 28 => ("WheelAndWireModel", "askO", "[I", true)
  | 29 => ("WheelAndWireModel", "askR", "[I", true)
  | 30 => ("WheelAndWireModel", "weights", "[I", true)
  | 31 => ("WheelAndWireModel", "rinds", "[I", true)
  | 32 => ("WheelAndWireModel", "wires", "[I", true)
  | 33 => ("WheelAndWireModel", "least", "[I", true)
  | 34 => ("WheelAndWireModel", "firstCut", "I", false)
  | 35 => ("WheelAndWireModel", "leftMany", "I", false)
  | 36 => ("WheelAndWireModel", "leftBlock", "[I", true)
  | 37 => ("WheelAndWireModel", "ripeFrom", "I", false)
  | 38 => ("WheelAndWireModel", "ripeLong", "I", false)
  | 39 => ("WheelAndWireModel", "bookMany", "I", false)
  | 40 => ("WheelAndWireModel", "book", "[I", true)
  | 41 => ("WheelAndWireModel", "there", "[I", true)
  | 42 => ("WheelAndWireModel", "bought", "[I", true)
  | 43 => ("WheelAndWireModel", "price", "I", false)
  | 44 => ("WheelAndWireModel", "endPrice", "I", false)
  | 45 => ("WheelAndWireModel", "twoEdges", "I", false)
  | _ => ("WheelAndWireModel", "twoFound", "I", false)
def tyX12 : Nat → FieldType := fun k => match k with
  | 0 => .int
  | 1 => .array .int
  | 2 => .int
  | 3 => .array .int
  | 4 => .int
  | 5 => .int
  | 6 => .array .int
  | 7 => .int
  | 8 => .int
  | 9 => .int
  | 10 => .array .int
  | 11 => .array .int
  | 12 => .array .int
  | 13 => .array .int
  | 14 => .array .int
  | 15 => .array .int
  | 16 => .array .int
  | 17 => .array .int
  | 18 => .int
  | 19 => .array .int
  | 20 => .array .int
  | 21 => .array .boolean
  | 22 => .int
  | 23 => .int
  | 24 => .int
  | 25 => .int
  | 26 => .int
  | 27 => .array .int
  | 28 => .array .int
  | 29 => .array .int
  | 30 => .array .int
  | 31 => .array .int
  | 32 => .array .int
  | 33 => .array .int
  | 34 => .int
  | 35 => .int
  | 36 => .array .int
  | 37 => .int
  | 38 => .int
  | 39 => .int
  | 40 => .array .int
  | 41 => .array .int
  | 42 => .array .int
  | 43 => .int
  | 44 => .int
  | 45 => .int
  | _ => .int
theorem nmX12 : ∀ a, a < 47 → ∀ b, b < 47 → a ≠ b → (TX12 a).2.1 ≠ (TX12 b).2.1 := by decide +kernel
theorem tyX12_ok : ∀ k, k < 47 → parseFieldDescriptor (TX12 k).2.2.1 = some (tyX12 k) := by decide +kernel
abbrev cX12_init : ByteArray := prog_14_method_2_code
def yX12_init : MethodName := ⟨RX12, "<init>", "()V"⟩
abbrev cX12_in : ByteArray := prog_14_method_3_code
def yX12_in : MethodName := ⟨RX12, "in", "(JJJ)Z"⟩
abbrev cX12_write : ByteArray := prog_14_method_4_code
def yX12_write : MethodName := ⟨RX12, "write", "(IJ)I"⟩
abbrev cX12_wipe : ByteArray := prog_14_method_5_code
def yX12_wipe : MethodName := ⟨RX12, "wipe", "()I"⟩
abbrev cX12_kind : ByteArray := prog_14_method_6_code
def yX12_kind : MethodName := ⟨RX12, "kind", "(I)I"⟩
abbrev cX12_readForm : ByteArray := prog_14_method_7_code
def yX12_readForm : MethodName := ⟨RX12, "readForm", "()I"⟩
abbrev cX12_fault : ByteArray := prog_14_method_8_code
def yX12_fault : MethodName := ⟨RX12, "fault", "()I"⟩
abbrev cX12_begin : ByteArray := prog_14_method_9_code
def yX12_begin : MethodName := ⟨RX12, "begin", "()V"⟩
abbrev cX12_form : ByteArray := prog_14_method_10_code
def yX12_form : MethodName := ⟨RX12, "form", "()I"⟩
abbrev cX12_place : ByteArray := prog_14_method_11_code
def yX12_place : MethodName := ⟨RX12, "place", "(II)I"⟩
abbrev cX12_weightOf : ByteArray := prog_14_method_12_code
def yX12_weightOf : MethodName := ⟨RX12, "weightOf", "(IIII)I"⟩
abbrev cX12_countOf : ByteArray := prog_14_method_13_code
def yX12_countOf : MethodName := ⟨RX12, "countOf", "(IIIII)I"⟩
abbrev cX12_noPiece : ByteArray := prog_14_method_14_code
def yX12_noPiece : MethodName := ⟨RX12, "noPiece", "(I)Z"⟩
abbrev cX12_noStand : ByteArray := prog_14_method_15_code
def yX12_noStand : MethodName := ⟨RX12, "noStand", "(I)Z"⟩
abbrev cX12_face : ByteArray := prog_14_method_16_code
def yX12_face : MethodName := ⟨RX12, "face", "(II)I"⟩
abbrev cX12_edges : ByteArray := prog_14_method_17_code
def yX12_edges : MethodName := ⟨RX12, "edges", "(I)I"⟩
abbrev cX12_allDried : ByteArray := prog_14_method_18_code
def yX12_allDried : MethodName := ⟨RX12, "allDried", "(I)I"⟩
abbrev cX12_more : ByteArray := prog_14_method_19_code
def yX12_more : MethodName := ⟨RX12, "more", "(I)I"⟩
abbrev cX12_weighsOf : ByteArray := prog_14_method_20_code
def yX12_weighsOf : MethodName := ⟨RX12, "weighsOf", "(I)I"⟩
abbrev cX12_isEnd : ByteArray := prog_14_method_21_code
def yX12_isEnd : MethodName := ⟨RX12, "isEnd", "(I)Z"⟩
abbrev cX12_offAhead : ByteArray := prog_14_method_22_code
def yX12_offAhead : MethodName := ⟨RX12, "offAhead", "(IZI)I"⟩
abbrev cX12_driedAhead : ByteArray := prog_14_method_23_code
def yX12_driedAhead : MethodName := ⟨RX12, "driedAhead", "(IIZI)I"⟩
abbrev cX12_layPart : ByteArray := prog_14_method_24_code
def yX12_layPart : MethodName := ⟨RX12, "layPart", "(IZIZ)V"⟩
abbrev cX12_makeCut : ByteArray := prog_14_method_25_code
def yX12_makeCut : MethodName := ⟨RX12, "makeCut", "(IZI)I"⟩
abbrev cX12_cut : ByteArray := prog_14_method_26_code
def yX12_cut : MethodName := ⟨RX12, "cut", "(IZI)I"⟩
abbrev cX12_about : ByteArray := prog_14_method_27_code
def yX12_about : MethodName := ⟨RX12, "about", "(II)I"⟩
abbrev cX12_weighs : ByteArray := prog_14_method_28_code
def yX12_weighs : MethodName := ⟨RX12, "weighs", "(I)I"⟩
abbrev cX12_pass : ByteArray := prog_14_method_29_code
def yX12_pass : MethodName := ⟨RX12, "pass", "(I)I"⟩
abbrev cX12_wrap : ByteArray := prog_14_method_30_code
def yX12_wrap : MethodName := ⟨RX12, "wrap", "(II)I"⟩
abbrev cX12_trim : ByteArray := prog_14_method_31_code
def yX12_trim : MethodName := ⟨RX12, "trim", "(I)I"⟩
abbrev cX12_sell : ByteArray := prog_14_method_32_code
def yX12_sell : MethodName := ⟨RX12, "sell", "(IZ)I"⟩
abbrev cX12_noAsk : ByteArray := prog_14_method_33_code
def yX12_noAsk : MethodName := ⟨RX12, "noAsk", "(III)Z"⟩
abbrev cX12_isServed : ByteArray := prog_14_method_34_code
def yX12_isServed : MethodName := ⟨RX12, "isServed", "(IIII)Z"⟩
abbrev cX12_serves : ByteArray := prog_14_method_35_code
def yX12_serves : MethodName := ⟨RX12, "serves", "(IIII)I"⟩
abbrev cX12_standsFor : ByteArray := prog_14_method_36_code
def yX12_standsFor : MethodName := ⟨RX12, "standsFor", "(III)I"⟩
abbrev cX12_stands : ByteArray := prog_14_method_37_code
def yX12_stands : MethodName := ⟨RX12, "stands", "(III)I"⟩
abbrev cX12_isPart : ByteArray := prog_14_method_38_code
def yX12_isPart : MethodName := ⟨RX12, "isPart", "(IZIZIII)Z"⟩
abbrev cX12_findCut : ByteArray := prog_14_method_39_code
def yX12_findCut : MethodName := ⟨RX12, "findCut", "(III)V"⟩
abbrev cX12_next : ByteArray := prog_14_method_40_code
def yX12_next : MethodName := ⟨RX12, "next", "(III)I"⟩
abbrev cX12_make : ByteArray := prog_14_method_41_code
def yX12_make : MethodName := ⟨RX12, "make", "(I)I"⟩
abbrev cX12_serve : ByteArray := prog_14_method_42_code
def yX12_serve : MethodName := ⟨RX12, "serve", "(III)I"⟩
abbrev cX12_putAside : ByteArray := prog_14_method_43_code
def yX12_putAside : MethodName := ⟨RX12, "putAside", "()V"⟩
abbrev cX12_takeBack : ByteArray := prog_14_method_44_code
def yX12_takeBack : MethodName := ⟨RX12, "takeBack", "()V"⟩
abbrev cX12_second : ByteArray := prog_14_method_45_code
def yX12_second : MethodName := ⟨RX12, "second", "(III)I"⟩
abbrev cX12_findTwo : ByteArray := prog_14_method_46_code
def yX12_findTwo : MethodName := ⟨RX12, "findTwo", "(IIIII)V"⟩
abbrev cX12_keepTwo : ByteArray := prog_14_method_47_code
def yX12_keepTwo : MethodName := ⟨RX12, "keepTwo", "(II)V"⟩
abbrev cX12_two : ByteArray := prog_14_method_48_code
def yX12_two : MethodName := ⟨RX12, "two", "(IIIII)I"⟩
abbrev cX12_twoFirst : ByteArray := prog_14_method_49_code
def yX12_twoFirst : MethodName := ⟨RX12, "twoFirst", "(IIIII)I"⟩
abbrev cX12_order : ByteArray := prog_14_method_50_code
def yX12_order : MethodName := ⟨RX12, "order", "(III)I"⟩
abbrev cX12_unorder : ByteArray := prog_14_method_51_code
def yX12_unorder : MethodName := ⟨RX12, "unorder", "()I"⟩
abbrev cX12_block : ByteArray := prog_14_method_52_code
def yX12_block : MethodName := ⟨RX12, "block", "(IIII)I"⟩
abbrev cX12_layBlocks : ByteArray := prog_14_method_53_code
def yX12_layBlocks : MethodName := ⟨RX12, "layBlocks", "()V"⟩
abbrev cX12_isAsk : ByteArray := prog_14_method_54_code
def yX12_isAsk : MethodName := ⟨RX12, "isAsk", "(II)Z"⟩
abbrev cX12_bestWire : ByteArray := prog_14_method_55_code
def yX12_bestWire : MethodName := ⟨RX12, "bestWire", "(IIIII)I"⟩
abbrev cX12_layWires : ByteArray := prog_14_method_56_code
def yX12_layWires : MethodName := ⟨RX12, "layWires", "()V"⟩
abbrev cX12_wholeWire : ByteArray := prog_14_method_57_code
def yX12_wholeWire : MethodName := ⟨RX12, "wholeWire", "()I"⟩
abbrev cX12_whole : ByteArray := prog_14_method_58_code
def yX12_whole : MethodName := ⟨RX12, "whole", "()I"⟩
abbrev cX12_first : ByteArray := prog_14_method_59_code
def yX12_first : MethodName := ⟨RX12, "first", "()I"⟩
abbrev cX12_bestOf : ByteArray := prog_14_method_60_code
def yX12_bestOf : MethodName := ⟨RX12, "bestOf", "(IIIIZZ)I"⟩
abbrev cX12_fair : ByteArray := prog_14_method_61_code
def yX12_fair : MethodName := ⟨RX12, "fair", "(I)I"⟩
abbrev cX12_noBlock : ByteArray := prog_14_method_62_code
def yX12_noBlock : MethodName := ⟨RX12, "noBlock", "(I)Z"⟩
abbrev cX12_meets : ByteArray := prog_14_method_63_code
def yX12_meets : MethodName := ⟨RX12, "meets", "(II)Z"⟩
abbrev cX12_left : ByteArray := prog_14_method_64_code
def yX12_left : MethodName := ⟨RX12, "left", "(I)I"⟩
abbrev cX12_goesThrough : ByteArray := prog_14_method_65_code
def yX12_goesThrough : MethodName := ⟨RX12, "goesThrough", "(IIIIZI)Z"⟩
abbrev cX12_read : ByteArray := prog_14_method_66_code
def yX12_read : MethodName := ⟨RX12, "read", "()I"⟩
abbrev cX12_unleft : ByteArray := prog_14_method_67_code
def yX12_unleft : MethodName := ⟨RX12, "unleft", "()I"⟩
abbrev cX12_ripens : ByteArray := prog_14_method_68_code
def yX12_ripens : MethodName := ⟨RX12, "ripens", "(II)I"⟩
abbrev cX12_lesser : ByteArray := prog_14_method_69_code
def yX12_lesser : MethodName := ⟨RX12, "lesser", "(II)I"⟩
abbrev cX12_isRipe : ByteArray := prog_14_method_70_code
def yX12_isRipe : MethodName := ⟨RX12, "isRipe", "(III)Z"⟩
abbrev cX12_ripeIn : ByteArray := prog_14_method_71_code
def yX12_ripeIn : MethodName := ⟨RX12, "ripeIn", "(II)I"⟩
abbrev cX12_paste : ByteArray := prog_14_method_72_code
def yX12_paste : MethodName := ⟨RX12, "paste", "(I)I"⟩
abbrev cX12_common : ByteArray := prog_14_method_73_code
def yX12_common : MethodName := ⟨RX12, "common", "(JJ)J"⟩
abbrev cX12_ripe : ByteArray := prog_14_method_74_code
def yX12_ripe : MethodName := ⟨RX12, "ripe", "(IIZ)J"⟩
abbrev cX12_ripest : ByteArray := prog_14_method_75_code
def yX12_ripest : MethodName := ⟨RX12, "ripest", "(I)I"⟩
abbrev cX12_book : ByteArray := prog_14_method_76_code
def yX12_book : MethodName := ⟨RX12, "book", "(I)I"⟩
abbrev cX12_earns : ByteArray := prog_14_method_77_code
def yX12_earns : MethodName := ⟨RX12, "earns", "(I)I"⟩
abbrev cX12_over : ByteArray := prog_14_method_78_code
def yX12_over : MethodName := ⟨RX12, "over", "(I)I"⟩
abbrev cX12_bestOver : ByteArray := prog_14_method_79_code
def yX12_bestOver : MethodName := ⟨RX12, "bestOver", "()I"⟩
abbrev cX12_taste : ByteArray := prog_14_method_80_code
def yX12_taste : MethodName := ⟨RX12, "taste", "(IZ)I"⟩
abbrev cX12_gain : ByteArray := prog_14_method_81_code
def yX12_gain : MethodName := ⟨RX12, "gain", "(I)I"⟩
abbrev cX12_brings : ByteArray := prog_14_method_82_code
def yX12_brings : MethodName := ⟨RX12, "brings", "(IZ)J"⟩
abbrev cX12_bestTaste : ByteArray := prog_14_method_83_code
def yX12_bestTaste : MethodName := ⟨RX12, "bestTaste", "()I"⟩
abbrev cX12_prices : ByteArray := prog_14_method_84_code
def yX12_prices : MethodName := ⟨RX12, "prices", "(II)I"⟩
abbrev cX12_worth : ByteArray := prog_14_method_85_code
def yX12_worth : MethodName := ⟨RX12, "worth", "()I"⟩
abbrev cX12_standing : ByteArray := prog_14_method_86_code
def yX12_standing : MethodName := ⟨RX12, "standing", "()I"⟩
abbrev cX12_keep : ByteArray := prog_14_method_87_code
def yX12_keep : MethodName := ⟨RX12, "keep", "(I)I"⟩
abbrev cX12_again : ByteArray := prog_14_method_88_code
def yX12_again : MethodName := ⟨RX12, "again", "(I)I"⟩
abbrev cX12_count : ByteArray := prog_14_method_89_code
def yX12_count : MethodName := ⟨RX12, "count", "(I)I"⟩
def RJ9 : String := "java/lang/Math"
def TJ9 : u_T := fun k => match k with
  | _ => ("", "", "", false)
def tyJ9 : Nat → FieldType := fun k => match k with
  | _ => .int
theorem nmJ9 : ∀ a, a < 0 → ∀ b, b < 0 → a ≠ b → (TJ9 a).2.1 ≠ (TJ9 b).2.1 := by decide +kernel
theorem tyJ9_ok : ∀ k, k < 0 → parseFieldDescriptor (TJ9 k).2.2.1 = some (tyJ9 k) := by decide +kernel
abbrev cJ9_abs_067f4 : ByteArray := prog_15_method_61_code
def yJ9_abs_067f4 : MethodName := ⟨RJ9, "abs", "(J)J"⟩
abbrev cJ9_max_7cf53 : ByteArray := prog_15_method_65_code
def yJ9_max_7cf53 : MethodName := ⟨RJ9, "max", "(II)I"⟩
abbrev cJ9_max_f86c9 : ByteArray := prog_15_method_66_code
def yJ9_max_f86c9 : MethodName := ⟨RJ9, "max", "(JJ)J"⟩
abbrev cJ9_min_7cf53 : ByteArray := prog_15_method_69_code
def yJ9_min_7cf53 : MethodName := ⟨RJ9, "min", "(II)I"⟩
def RL : String := "WheelAndWireLaw"
abbrev cL_law : ByteArray := code
def yL_law : MethodName := ⟨RL, "law", "([I)Z"⟩
end
section
/-! THE FLAT WORLD. All cells that the run makes lie behind 'base', in the order of their making: number k at base + k. What a cell is (its class, its length) is a closed table (Kd, Ln); what it holds: ints h k j, references r k j (numbers of cells). -/
abbrev Hp : Type := Nat → Nat → Int32
abbrev Rp : Type := Nat → Nat → Option Nat
def u2 {α : Type} (f : Nat → Nat → α) (a j : Nat) (v : α) : Nat → Nat → α := fun k => if k = a then (fun i => if i = j then v else f a i) else f k
abbrev cls : List vw_C := [(RX0, TX0, 3), (RX1, TX1, 6), (RX2, TX2, 4), (RX3, TX3, 5), (RX4, TX4, 7), (RX5, TX5, 9), (RX6, TX6, 7), (RX7, TX7, 13), (RX12, TX12, 47), (RX9, TX9, 9), (RX10, TX10, 2), (RX11, TX11, 11)]
def FT : List (List Bool) := [[false, false, false], [true, true, true, false, false, false], [true, true, true, false], [true, false, true, false, false], [true, true, true, false, false, false, false],
  [true, false, true, true, true, true, true, false, false], [true, false, true, true, true, false, false], [false, false, false, false, false, false, false, false, false, false, false, false, false], [false, true, false, true, false, false, true, false, false, false, true, true, true, true, true, true, true, true, false, true, true, true, false, false, false, false, false, true, true, true, true, true, true, true, false, false, true, false, false, false, true, true, true, false, false, false, false], [true, true, true, true, true, true, true, false, false], [true, false], [true, true, true, true, true, true, true, true, true, false, false]]
def nF (c : Nat) : Nat := (FT.getD c []).length
def rF (c j : Nat) : Bool := (FT.getD c []).getD j false
def KL : List Nat := [11, 10, 12, 4, 12, 12, 12, 1, 16, 7, 7, 7, 7, 7, 7, 7, 7, 7, 7, 7, 7, 7, 7, 7, 7, 7, 7, 7, 7, 7, 7, 7, 7, 7, 15, 9, 7, 7, 7, 7, 12, 6, 12, 14, 12, 3, 12, 5, 12, 12, 12, 12, 12, 2, 12, 12, 12, 1, 16, 7, 7, 7, 7, 7, 7, 7, 7, 7, 7, 7, 7, 7, 7, 7, 7, 7, 7, 7, 7, 7, 7, 7, 7, 7, 1, 16, 7, 7, 7, 7, 7, 7, 7, 7, 7, 7, 7, 7, 7, 7, 7, 7, 7, 7, 7, 7, 7, 7, 7, 7, 7, 8, 12, 12, 12, 12, 12, 12, 12, 12, 12, 12, 12, 12, 12, 13, 12, 12, 12, 12, 12, 12, 12, 12, 12, 12, 12]
def Kd (k : Nat) : Nat := KL.getD k 0
def LL : List Nat := [0, 0, 48, 0, 36, 49, 49, 0, 24, 0, 0, 0, 0, 0, 0, 0, 0, 0, 0, 0, 0, 0, 0, 0, 0, 0, 0, 0, 0, 0, 0, 0, 0, 0, 2, 0, 0, 0, 0, 0, 24, 0, 7056, 4, 16, 0, 441, 0, 441, 6, 6, 6, 6, 0, 16, 10, 10, 0, 24, 0, 0, 0, 0, 0, 0, 0, 0, 0, 0, 0, 0, 0, 0, 0, 0, 0, 0, 0, 0, 0, 0, 0, 0, 0, 0, 24, 0, 0, 0, 0, 0, 0, 0, 0, 0, 0, 0, 0, 0, 0, 0, 0, 0, 0, 0, 0, 0, 0, 0, 0, 0, 0, 48, 36, 36, 24, 24, 24, 24, 24, 24, 24, 96, 266, 532, 2, 4, 4, 4, 1296, 1296, 20736, 1296, 6, 16, 10, 10]
def Ln (k : Nat) : Nat := LL.getD k 0
abbrev wE : Type := va_G × (Nat → ClassId) × Nat × Nat × Nat
abbrev eD (E : wE) : va_G := E.1
abbrev eC (E : wE) : Nat → ClassId := E.2.1
abbrev eB (E : wE) : Nat := E.2.2.1
abbrev eP (E : wE) : Nat := E.2.2.2.1
abbrev eR (E : wE) : Nat := E.2.2.2.2
def fv (b c : Nat) (f : Nat → Int32) (g : Nat → Option Nat) (j : Nat) : Value := if rF c j = true then va_rf ((g j).map (fun q => b + q)) else .int (f j)
def atK (E : wE) (c k : Nat) (f : Nat → Int32) (g : Nat → Option Nat) (H : Heap) : Prop :=
  if c < 12 then t_OB (eB E + k) ((eD E).1 c) (nF c) ((eD E).2 c) H (fv (eB E) c f g)
  else if c < 14 then H[eB E + k]? = some (arrV (eC E c) (Ln k) (fun j => .int (f j)))
  else H[eB E + k]? = some (arrV (eC E c) (Ln k) (fun j => va_rf ((g j).map (fun q => eB E + q))))
def wd (E : wE) (N : Nat) (h : Hp) (r : Rp) (H : Heap) : Prop := H.size = eB E + N ∧ (∀ k, k < N → atK E (Kd k) k (h k) (r k) H) ∧ ∀ j a, r 43 j = some a → 137 ≤ a ∧ a < N
theorem atK.kept {E : wE} {c k : Nat} {f : Nat → Int32} {g : Nat → Option Nat} {H H1 : Heap} (h : atK E c k f g H) (hq : H1[eB E + k]? = H[eB E + k]?) : atK E c k f g H1 := by
  unfold atK at h ⊢
  split
  next hc => rw [if_pos hc] at h; exact h.kept hq
  next hc =>
    rw [if_neg hc] at h
    split
    next hc2 => rw [if_pos hc2] at h; rw [hq]; exact h
    next hc2 => rw [if_neg hc2] at h; rw [hq]; exact h
theorem wd.ob {E : wE} {N : Nat} {h : Hp} {r : Rp} {H : Heap} (w : wd E N h r H) {a c : Nat} (ha : a < N) (hk : Kd a = c) (hc : c < 12) : t_OB (eB E + a) ((eD E).1 c) (nF c) ((eD E).2 c) H (fv (eB E) c (h a) (r a)) := by
  have q := w.2.1 a ha
  rw [hk] at q
  unfold atK at q
  rw [if_pos hc] at q
  exact q
theorem wd.ai {E : wE} {N : Nat} {h : Hp} {r : Rp} {H : Heap} (w : wd E N h r H) {a c : Nat} (ha : a < N) (hk : Kd a = c) (hc : ¬ c < 12) (hc2 : c < 14) : H[eB E + a]? = some (arrV (eC E c) (Ln a) (fun j => .int (h a j))) := by
  have q := w.2.1 a ha
  rw [hk] at q
  unfold atK at q
  rw [if_neg hc, if_pos hc2] at q
  exact q
theorem wd.ar {E : wE} {N : Nat} {h : Hp} {r : Rp} {H : Heap} (w : wd E N h r H) {a c : Nat} (ha : a < N) (hk : Kd a = c) (hc : ¬ c < 12) (hc2 : ¬ c < 14) : H[eB E + a]? = some (arrV (eC E c) (Ln a) (fun j => va_rf ((r a j).map (fun q => eB E + q)))) := by
  have q := w.2.1 a ha
  rw [hk] at q
  unfold atK at q
  rw [if_neg hc, if_neg hc2] at q
  exact q
/-- one cell of the world is another one now -/
theorem wd.set {E : wE} {N : Nat} {h h' : Hp} {r r' : Rp} {H H1 : Heap} (w : wd E N h r H) (a : Nat) (ha : a < N) (hz : H1.size = H.size) (oq : ∀ q : Nat, q ≠ eB E + a → H1[q]? = H[q]?) (he : atK E (Kd a) a (h' a) (r' a) H1) (hh : ∀ k, k ≠ a → h' k = h k) (hr : ∀ k, k ≠ a → r' k = r k)
    (ht : ∀ j b, r' 43 j = some b → 137 ≤ b ∧ b < N) : wd E N h' r' H1 := by
  refine ⟨hz.trans w.1, fun k hk => ?_, ht⟩
  by_cases e : k = a
  · subst e; exact he
  · rw [hh k e, hr k e]
    exact (w.2.1 k hk).kept (oq _ (by omega))
theorem u2_self {α : Type} (f : Nat → Nat → α) (a j : Nat) (v : α) : u2 f a j v a = fun i => if i = j then v else f a i := by
  unfold u2
  rw [if_pos rfl]
theorem u2_ne {α : Type} (f : Nat → Nat → α) {a k : Nat} (j : Nat) (v : α) (h : k ≠ a) : u2 f a j v k = f k := by
  unfold u2
  rw [if_neg h]
/-- a new cell -/
theorem wd.push {E : wE} {N : Nat} {h : Hp} {r : Rp} {H H1 : Heap} (w : wd E N h r H) (f : Nat → Int32) (g : Nat → Option Nat) (hz : H1.size = H.size + 1) (oq : ∀ q : Nat, q < H.size → H1[q]? = H[q]?) (he : atK E (Kd N) N f g H1) (h43 : N ≠ 43 ∨ ∀ j, g j = none) : wd E (N + 1) (va_up h N f) (va_up r N g) H1 := by
  refine ⟨by rw [hz, w.1]; rfl, fun k hk => ?_, fun j a q => ?_⟩
  · by_cases e : k = N
    · subst e
      simpa [va_up] using he
    · simp only [va_up, e, if_false]
      exact (w.2.1 k (by omega)).kept (oq _ (by rw [w.1]; omega))
  · by_cases e : 43 = N
    · rcases h43 with h43 | h43
      · exact absurd e.symm h43
      · simp only [va_up, e, if_true, h43] at q
        cases q
    · simp only [va_up, e, if_false] at q
      obtain ⟨q1, q2⟩ := w.2.2 j a q
      exact ⟨q1, by omega⟩
-- the words
def BIG : List Cond := lw_tbl.filter goodWord
theorem bm {w : Cond} {i : Nat} (h : lw_tbl[i]? = some w) (hg : goodWord w = true) : w ∈ BIG := List.mem_filter.mpr ⟨List.mem_of_getElem? h, hg⟩
theorem BIG_good : ∀ w ∈ BIG, (w.onTables && w.keeps) = true ∨ ∃ ty, w = .arrayClass ty := fun w h => good_of_word (List.mem_filter.mp h).2
theorem good_ws {y z : MethodName} {cc cd : ByteArray} {m n : Nat} {ry rz : Option FieldType} (hz : Cond.code z cd n rz ∈ BIG) : GoodIn (.code y cc m ry :: BIG) (.code z cd n rz :: BIG) := fun w h => by
  rcases List.mem_cons.mp h with rfl | h
  · exact ⟨List.mem_cons_of_mem _ hz, BIG_good _ hz⟩
  · exact ⟨List.mem_cons_of_mem _ h, BIG_good _ h⟩
theorem good_wsB {z : MethodName} {cd : ByteArray} {n : Nat} {rz : Option FieldType} (hz : Cond.code z cd n rz ∈ BIG) : GoodIn BIG (.code z cd n rz :: BIG) := fun w h => by
  rcases List.mem_cons.mp h with rfl | h
  · exact ⟨hz, BIG_good _ hz⟩
  · exact ⟨h, BIG_good _ h⟩
def spM : List (String × Nat × MethodName × String) := [("WheelAndWire", 11, ⟨"WheelAndWire$Text", "<init>", "()V"⟩, "WheelAndWire"), ("WheelAndWire$Board", 17, ⟨"WheelAndWire$Piece", "<init>", "()V"⟩, "WheelAndWire"), ("WheelAndWire$Shop", 11, ⟨"WheelAndWire$Piece", "<init>", "()V"⟩, "WheelAndWire"), ("WheelAndWire", 68, ⟨"WheelAndWire$Books", "<init>", "()V"⟩, "WheelAndWire"), ("WheelAndWire$Text", 19, ⟨"WheelAndWire", "kindOf", "(I)I"⟩, "WheelAndWire"), ("WheelAndWire$Form", 45, ⟨"WheelAndWire", "kindOf", "(I)I"⟩, "WheelAndWire")]
def spF : List (String × Nat × String × String × String × String) := [("WheelAndWire$Form", 53, "WheelAndWire", "PLACE_WEIGHTS", "[I", "WheelAndWire"), ("WheelAndWire$Piece", 88, "WheelAndWire", "DRYING", "[I", "WheelAndWire")]
def spD : List MethodName := [⟨"WheelAndWire$Plan", "workOut", "(I)V"⟩, ⟨"WheelAndWire$Plan", "verdict", "(IIIII)I"⟩, ⟨"WheelAndWire$Plan", "cutPrice", "(I)I"⟩, ⟨"WheelAndWire$Plan", "costOfAll", "(I)I"⟩, ⟨"WheelAndWire$Plan", "cutCost", "(IIIIZII)I"⟩]
def Sp (U : State) : Prop := (∀ q ∈ spM, va_Nw (.methodLinkNest q.1 q.2.1 q.2.2.1 q.2.2.2) U) ∧ (∀ q ∈ spF, va_Nw (.fieldLinkNest q.1 q.2.1 q.2.2.1 q.2.2.2.1 q.2.2.2.2.1 q.2.2.2.2.2) U) ∧ (∀ q ∈ spD, va_Nw (.declares q) U) ∧ va_AO RX0 U ∧ va_AO RX1 U ∧ va_AO RX7 U
theorem Sp.warm {s U : State} (hW : s.WarmedH U.vm) (h : Sp s) : Sp U := ⟨fun q hq => va_Nw.warmM hW (h.1 q hq), fun q hq => va_Nw.warmF hW (h.2.1 q hq), fun q hq => va_Nw.warmD hW (h.2.2.1 q hq), h.2.2.2.1.moved hW.alike, h.2.2.2.2.1.moved hW.alike, h.2.2.2.2.2.moved hW.alike⟩
theorem Sp.same {u U : State} (e : u.vm = U.vm) (h : Sp u) : Sp U := ⟨fun q hq => va_Nw.same rfl e (h.1 q hq), fun q hq => va_Nw.same rfl e (h.2.1 q hq), fun q hq => va_Nw.same rfl e (h.2.2.1 q hq), h.2.2.2.1.moved (by rw [← e]; exact Vm.Alike.refl _), h.2.2.2.2.1.moved (by rw [← e]; exact Vm.Alike.refl _), h.2.2.2.2.2.moved (by rw [← e]; exact Vm.Alike.refl _)⟩
abbrev tys (E : wE) : List (ClassId × FieldType) := [(eC E 12, .int), (eC E 13, .boolean), (eC E 14, .object RX0), (eC E 15, .object RX1), (eC E 16, .object RX7)]
def pwT : Nat → Int32 := fun j => if j = 0 then 10 else if j = 1 then 8 else 0
def drT : Nat → Int32 := fun j => if j = 0 then 10 else if j = 1 then 5 else 2
def Sta (E : wE) (U : State) (H : Heap) : Prop := va_Z "WheelAndWire" "PLACE_WEIGHTS" "[I" (.ref (eP E)) (fun q => eB E ≤ q) U H ∧ va_Z "WheelAndWire" "DRYING" "[I" (.ref (eR E)) (fun q => eB E ≤ q) U H ∧ va_T .int (eP E) 3 (fun j => .int (pwT j)) (fun q => eB E ≤ q) U H ∧ va_T .int (eR E) 3 (fun j => .int (drT j)) (fun q => eB E ≤ q) U H
theorem Sta.moved {E : wE} {u U : State} {H : Heap} (hvm : u.vm.Alike U.vm) (h : Sta E u H) : Sta E U H := ⟨h.1.moved hvm, h.2.1.moved hvm, h.2.2.1.moved hvm, h.2.2.2.moved hvm⟩
theorem Sta.kept {E : wE} {U : State} {H H1 : Heap} (h : Sta E U H) (hq : ∀ a : Nat, a < H.size → ¬ (eB E ≤ a) → H1[a]? = H[a]?) : Sta E U H1 := ⟨h.1.kept hq, h.2.1.kept hq, h.2.2.1.kept hq, h.2.2.2.kept hq⟩
/-- what a method finds at its start -/
def Pw (E : wE) (N : Nat) (h : Hp) (r : Rp) (U : State) : Prop := wd E N h r U.heap ∧ va_K (eD E) cls (tys E) U ∧ Sp U ∧ Sta E U U.heap
abbrev Rs : Type := Option Value × Nat × Hp × Rp
/-- what it leaves behind -/
def Qw (E : wE) (y : Rs) : Array Value → State → Outcome → State → Prop := fun _ st oc t => oc = .returned y.1 ∧ wd E y.2.1 y.2.2.1 y.2.2.2 t.heap ∧ va_F (fun q => eB E ≤ q) st t
/-- A METHOD'S CONTRACT: from the world (N, h, r) it returns, and leaves y -/
def CT (l : Launch) (E : wE) (y : MethodName) (cc : ByteArray) (mL : Nat) (ret : Option FieldType) (rm : Room) (as : List Value) (N : Nat) (h : Hp) (r : Rp) (z : Rs) : Prop :=
  Met l y (.code y cc mL ret :: BIG) rm (va_Pc as (Pw E N h r)) (Qw E z) rm.cells rm.slots (fun q => eB E ≤ q)
theorem Pw.blind {E : wE} {N : Nat} {h : Hp} {r : Rp} {as : List Value} : FrameBlind (va_Pc as (Pw E N h r)) := fun a U g mk q => ⟨q.1, q.2.1, va_K.moved (u := U) (U := U.calling g mk a) (Vm.Alike.refl U.vm) q.2.2.1, q.2.2.2.1.same rfl, Sta.moved (u := U) (U := U.calling g mk a) (Vm.Alike.refl U.vm) q.2.2.2.2⟩
-- a method that is being walked
abbrev wX : Type := Program × Launch × Env × Room × State × MethodId × Array Value × List Frame × Method × Code × wE
abbrev xp (X : wX) : Program := X.1
abbrev xl (X : wX) : Launch := X.2.1
abbrev xe (X : wX) : Env := X.2.2.1
abbrev xR (X : wX) : Room := X.2.2.2.1
abbrev xs (X : wX) : State := X.2.2.2.2.1
abbrev xm (X : wX) : MethodId := X.2.2.2.2.2.1
abbrev xa (X : wX) : Array Value := X.2.2.2.2.2.2.1
abbrev xb (X : wX) : List Frame := X.2.2.2.2.2.2.2.1
abbrev xM (X : wX) : Method := X.2.2.2.2.2.2.2.2.1
abbrev xc (X : wX) : Code := X.2.2.2.2.2.2.2.2.2.1
abbrev xE (X : wX) : wE := X.2.2.2.2.2.2.2.2.2.2
abbrev xB (X : wX) : Nat := eB (xE X)
def Cx (X : wX) (y : MethodName) (cc : ByteArray) (mL : Nat) (ret : Option FieldType) (rm : Room) : Prop :=
  (xp X).tables.exec = Jvm.exec ∧ (xc X).code = cc ∧ (xc X).maxLocals = mL ∧ (xs X).vm.findClass y.cls = some (xm X).cls ∧ (∀ w ∈ BIG, w.before (xa X) (xs X) = true) ∧ (xM X).locks = false ∧ (xM X).sig.returnType = ret ∧ (xM X).name = y.name ∧ xR X = rm ∧ va_K (eD (xE X)) cls (tys (xE X)) (xs X) ∧ Sp (xs X) ∧ Sta (xE X) (xs X) (xs X).heap ∧ xB X ≤ (xs X).heap.size
def gQ (X : wX) (mL : Nat) (Q : State → Prop) (N : Nat) (h : Hp) (r : Rp) (cl sl pc : Nat) (L : List (Nat × Value)) (st : List Value) : Prop :=
  ∀ (H : Heap) (locs : List Loc) (ls : Array Slot), wd (xE X) N h r H → va_S (fun q => xB X ≤ q) (xs X).heap H locs → lv_has ls mL L → W (xp X) (xl X) (xe X) (xR X) (xs X) (xm X) (xa X) (xb X) (xM X) (xc X) H locs cl sl Q (F0 (xm X) pc ls st)
/-- from here, if the pure computation k comes to y, the machine comes to what E y says -/
def wG {ρ : Type} (X : wX) (mL : Nat) (Z : ρ → (State → Prop) → Prop) (k : Option ρ) (N : Nat) (h : Hp) (r : Rp) (cl sl pc : Nat) (L : List (Nat × Value)) (st : List Value) : Prop :=
  ∀ y, k = some y → ∀ Q, Z y Q → gQ X mL Q N h r cl sl pc L st
/-- the end of a method -/
def eM {ρ : Type} (X : wX) (φ : ρ → Rs) : ρ → (State → Prop) → Prop := fun y Q => Q = MQ (xb X) (Qw (xE X) (φ y)) (xa X) (xs X) (xR X).cells (xR X).slots (fun q => xB X ≤ q)
theorem CT.of {ρ : Type} {l : Launch} {E : wE} {y : MethodName} {cc : ByteArray} {mL : Nat} {ret : Option FieldType} {rm : Room} {as : List Value} {N : Nat} {h : Hp} {r : Rp} {φ : ρ → Rs} {k : Option ρ} (hy : plainName y.cls = true) (hlen : (lg_sl as).length ≤ mL)
    (G : ∀ X, xl X = l → xE X = E → Cx X y cc mL ret rm → wG X mL (eM X φ) k N h r 0 0 0 (lv_args 0 as) []) : ∀ z, k = some z → CT l E y cc mL ret rm as N h r (φ z) := by
  intro z hz
  refine Met.ofW (cc := cc) (maxL := mL) (ret := ret) hy rfl ?_
  intro p e s m args below meth c s₁ B hml hv
  obtain ⟨rfl, hw, hK, hSp, hSt⟩ := hv
  have hts := atoms_spec (ws := .code y cc mL ret :: BIG) B.pre
  have g := G (p, l, e, rm, s, m, as.toArray, below, meth, c, E) rfl rfl ⟨B.exec, B.bytes, hml, findClass_of_methodNamed B.named, fun w hw => hts w (List.mem_cons_of_mem _ hw), B.notSynchronized, B.returns, (name_of_methodNamed B.named B.method).1, rfl, hK, hSp, hSt, by show eB E ≤ s.heap.size; rw [hw.1]; exact Nat.le_add_right _ _⟩ z hz _ rfl
  rw [lg_entry_eq]
  exact g s.heap [] _ hw va_S.rf (lv_entry as hlen)
end
section
/-! THE ROWS OF THE FLAT WORLD: an instruction, a row; the pure computation k goes with it -/
abbrev dcd (cc : ByteArray) (pc : Nat) (i : Instr) (n pc' : Nat) : Prop := decode cc pc = .ok (i, n) ∧ pc + n = pc'
abbrev dcb (cc : ByteArray) (pc : Nat) (i : Instr) (off : Int) (tgt pc' : Nat) : Prop := decode cc pc = .ok (i, 3) ∧ (pc : Int) + off = (tgt : Int) ∧ pc + 3 = pc'
abbrev inB (i : Int32) (n : Nat) : Prop := 0 ≤ i.toInt ∧ i.toInt < (n : Int)
abbrev ix (i : Int32) : Nat := i.toNatClampNeg
def vB {α β : Type} (e : α) (k : α → Option β) : Option β := k e
theorem inB.vp {i : Int32} {n : Nat} (h : inB i n) : vp_in i n := vp_in_iff.mpr h
theorem ix_lt {i : Int32} {n : Nat} (h : inB i n) : ix i < n := Nat.not_le.mp fun q => h.vp (Or.inr q)
section ROWS
variable {ρ : Type} {X : wX} {y : MethodName} {cc : ByteArray} {mL : Nat} {ret : Option FieldType} {rm : Room} {Z : ρ → (State → Prop) → Prop} {k kt kf : Option ρ} {N : Nat} {h : Hp} {r : Rp} {cl sl pc pc' tgt : Nat} {L L' : List (Nat × Value)} {st : List Value} {off : Int}
theorem wG_of {k' : Option ρ} (e : k = k') (g : wG X mL Z k' N h r cl sl pc L st) : wG X mL Z k N h r cl sl pc L st := e ▸ g
theorem wG_none : wG X mL Z none N h r cl sl pc L st := fun _ q => by cases q
theorem wG_nm {α : Type} {e : α} {v : α → Value} {kk : α → Option ρ} (g : ∀ x, wG X mL Z (kk x) N h r cl sl pc L (v x :: st)) : wG X mL Z (vB e kk) N h r cl sl pc L (v e :: st) := g e
theorem wG_nmI {e : Int32} {kk : Int32 → Option ρ} (g : ∀ x, wG X mL Z (kk x) N h r cl sl pc L (.int x :: st)) : wG X mL Z (vB e kk) N h r cl sl pc L (.int e :: st) := g e
theorem wG_nmL {e : Int64} {kk : Int64 → Option ρ} (g : ∀ x, wG X mL Z (kk x) N h r cl sl pc L (.long x :: st)) : wG X mL Z (vB e kk) N h r cl sl pc L (.long e :: st) := g e
theorem wG_nmR {e c : Nat} {kk : Nat → Option ρ} (hk : Kd e = c) (g : ∀ x, Kd x = c → wG X mL Z (kk x) N h r cl sl pc L (.ref (xB X + x) :: st)) : wG X mL Z (vB e kk) N h r cl sl pc L (.ref (xB X + e) :: st) := g e hk
/-- to another state of the locals -/
theorem wG_lv (ks : List Nat) (hl : lv_pick L ks = L') (g : wG X mL Z k N h r cl sl pc L' st) : wG X mL Z k N h r cl sl pc L st := fun z hz Q hQ H locs ls w S hv => g z hz Q hQ H locs ls w S (lv_sub hv ks hl)
/-- an end of a region: its state is reached -/
theorem wG_exit {z : ρ} (hZ : ∀ Q, Z z Q → gQ X mL Q N h r cl sl pc L st) : wG X mL Z (some z) N h r cl sl pc L st := fun z' hz Q hQ => by cases hz; exact hZ Q hQ
theorem gQ_lv {Q : State → Prop} (ks : List Nat) (hl : lv_pick L ks = L') (g : gQ X mL Q N h r cl sl pc L' st) : gQ X mL Q N h r cl sl pc L st := fun H locs ls w S hv => g H locs ls w S (lv_sub hv ks hl)
/-- a region m that comes to the state J, and what follows it -/
theorem wG_bind {α : Type} {m : Option α} {kk : α → Option ρ} {J : α → (State → Prop) → Prop} (g : wG X mL J m N h r cl sl pc L st) (g2 : ∀ a z, kk a = some z → ∀ Q, Z z Q → J a Q) : wG X mL Z (m.bind kk) N h r cl sl pc L st := by
  intro z hz Q hQ
  cases hm : m with
  | none => rw [hm] at hz; cases hz
  | some a => rw [hm] at hz; exact g a hm Q (g2 a z hz Q hQ)
theorem wG_ite {c : Prop} [Decidable c] {α : Type} {a b : α} {F : α → Option ρ} (g1 : c → wG X mL Z (F a) N h r cl sl pc L st) (g2 : ¬ c → wG X mL Z (F b) N h r cl sl pc L st) : wG X mL Z (F (if c then a else b)) N h r cl sl pc L st := by
  by_cases hc : c
  · rw [if_pos hc]; exact g1 hc
  · rw [if_neg hc]; exact g2 hc
/-- a value by a condition: both ways -/
theorem wG_dia {c : Prop} [Decidable c] {α : Type} {a b : α} {kk : α → Option ρ} (g : wG X mL Z (if c then vB a kk else vB b kk) N h r cl sl pc L st) : wG X mL Z (vB (if c then a else b) kk) N h r cl sl pc L st := by
  by_cases hc : c
  · rw [if_pos hc] at g ⊢; exact g
  · rw [if_neg hc] at g ⊢; exact g
theorem wG_iconst (C : Cx X y cc mL ret rm) {n : Int} {v : Int32} (hd : dcd cc pc (.iconst n) 1 pc') (hv : Int32.ofInt n = v) (g : wG X mL Z k N h r cl sl pc' L (.int v :: st)) : wG X mL Z k N h r cl sl pc L (st) := by
  obtain ⟨hd, rfl⟩ := hd
  intro z hz Q hQ H locs ls w S hl
  exact lv_iconst C.1 C.2.1 hd hv (g z hz Q hQ H locs ls w S hl)
theorem wG_bipush (C : Cx X y cc mL ret rm) {n : Int} {v : Int32} (hd : dcd cc pc (.bipush n) 2 pc') (hv : (Int8.ofInt n).toInt32 = v) (g : wG X mL Z k N h r cl sl pc' L (.int v :: st)) : wG X mL Z k N h r cl sl pc L (st) := by
  obtain ⟨hd, rfl⟩ := hd
  intro z hz Q hQ H locs ls w S hl
  exact lv_bipush C.1 C.2.1 hd hv (g z hz Q hQ H locs ls w S hl)
theorem wG_sipush (C : Cx X y cc mL ret rm) {n : Int} {v : Int32} (hd : dcd cc pc (.sipush n) 3 pc') (hv : (Int16.ofInt n).toInt32 = v) (g : wG X mL Z k N h r cl sl pc' L (.int v :: st)) : wG X mL Z k N h r cl sl pc L (st) := by
  obtain ⟨hd, rfl⟩ := hd
  intro z hz Q hQ H locs ls w S hl
  exact lv_sipush C.1 C.2.1 hd hv (g z hz Q hQ H locs ls w S hl)
theorem wG_lconst (C : Cx X y cc mL ret rm) {n : Fin 2} {v : Int64} (hd : dcd cc pc (.lconst n) 1 pc') (hv : Int64.ofNat (n : Nat) = v) (g : wG X mL Z k N h r cl sl pc' L (.long v :: st)) : wG X mL Z k N h r cl sl pc L (st) := by
  obtain ⟨hd, rfl⟩ := hd
  intro z hz Q hQ H locs ls w S hl
  exact lv_lconst C.1 C.2.1 hd hv (g z hz Q hQ H locs ls w S hl)
theorem wG_ldc (C : Cx X y cc mL ret rm) {i : Nat} {v : Int32} (hd : dcd cc pc (.ldc i) 2 pc') (hw : Cond.constant y.cls i v ∈ BIG) (g : wG X mL Z k N h r cl sl pc' L (.int v :: st)) : wG X mL Z k N h r cl sl pc L (st) := by
  obtain ⟨hd, rfl⟩ := hd
  intro z hz Q hQ H locs ls w S hl
  exact lv_ldc C.1 C.2.1 C.2.2.2.1 (C.2.2.2.2.1 _ hw) hd (g z hz Q hQ H locs ls w S hl)
theorem wG_ldcw (C : Cx X y cc mL ret rm) {i : Nat} {v : Int32} (hd : dcd cc pc (.ldc_w i) 3 pc') (hw : Cond.constant y.cls i v ∈ BIG) (g : wG X mL Z k N h r cl sl pc' L (.int v :: st)) : wG X mL Z k N h r cl sl pc L (st) := by
  obtain ⟨hd, rfl⟩ := hd
  intro z hz Q hQ H locs ls w S hl
  exact lv_ldcw C.1 C.2.1 C.2.2.2.1 (C.2.2.2.2.1 _ hw) hd (g z hz Q hQ H locs ls w S hl)
theorem wG_ldc2 (C : Cx X y cc mL ret rm) {i : Nat} {v : Int64} (hd : dcd cc pc (.ldc2_w i) 3 pc') (hw : Cond.constantLong y.cls i v ∈ BIG) (g : wG X mL Z k N h r cl sl pc' L (.long v :: st)) : wG X mL Z k N h r cl sl pc L (st) := by
  obtain ⟨hd, rfl⟩ := hd
  intro z hz Q hQ H locs ls w S hl
  exact lv_ldc2 C.1 C.2.1 C.2.2.2.1 (C.2.2.2.2.1 _ hw) hd (g z hz Q hQ H locs ls w S hl)
theorem wG_iload_n (C : Cx X y cc mL ret rm) {i : Fin 4} {x : Int32} (hd : dcd cc pc (.iload_n i) 1 pc') (p : Nat) (hp : L[p]? = some ((i : Nat), .int x)) (g : wG X mL Z k N h r cl sl pc' L (.int x :: st)) : wG X mL Z k N h r cl sl pc L st := by
  obtain ⟨hd, rfl⟩ := hd
  intro z hz Q hQ H locs ls w S hl
  exact lv_iload_n C.1 C.2.1 hd rfl (lv_at hl p hp) (g z hz Q hQ H locs ls w S hl)
theorem wG_iload (C : Cx X y cc mL ret rm) {i : Nat} {x : Int32} (hd : dcd cc pc (.iload i) 2 pc') (p : Nat) (hp : L[p]? = some (i, .int x)) (g : wG X mL Z k N h r cl sl pc' L (.int x :: st)) : wG X mL Z k N h r cl sl pc L st := by
  obtain ⟨hd, rfl⟩ := hd
  intro z hz Q hQ H locs ls w S hl
  exact lv_iload C.1 C.2.1 hd (lv_at hl p hp) (g z hz Q hQ H locs ls w S hl)
theorem wG_lload_n (C : Cx X y cc mL ret rm) {i : Fin 4} {x : Int64} (hd : dcd cc pc (.lload_n i) 1 pc') (p : Nat) (hp : L[p]? = some ((i : Nat), .long x)) (g : wG X mL Z k N h r cl sl pc' L (.long x :: st)) : wG X mL Z k N h r cl sl pc L st := by
  obtain ⟨hd, rfl⟩ := hd
  intro z hz Q hQ H locs ls w S hl
  exact lv_lload_n C.1 C.2.1 hd rfl (lv_at hl p hp) (g z hz Q hQ H locs ls w S hl)
theorem wG_lload (C : Cx X y cc mL ret rm) {i : Nat} {x : Int64} (hd : dcd cc pc (.lload i) 2 pc') (p : Nat) (hp : L[p]? = some (i, .long x)) (g : wG X mL Z k N h r cl sl pc' L (.long x :: st)) : wG X mL Z k N h r cl sl pc L st := by
  obtain ⟨hd, rfl⟩ := hd
  intro z hz Q hQ H locs ls w S hl
  exact lv_lload C.1 C.2.1 hd (lv_at hl p hp) (g z hz Q hQ H locs ls w S hl)
theorem wG_aload_n (C : Cx X y cc mL ret rm) {i : Fin 4} {x : Nat} (hd : dcd cc pc (.aload_n i) 1 pc') (p : Nat) (hp : L[p]? = some ((i : Nat), .ref x)) (g : wG X mL Z k N h r cl sl pc' L (.ref x :: st)) : wG X mL Z k N h r cl sl pc L st := by
  obtain ⟨hd, rfl⟩ := hd
  intro z hz Q hQ H locs ls w S hl
  exact lv_aload_n C.1 C.2.1 hd rfl (lv_at hl p hp) (g z hz Q hQ H locs ls w S hl)
theorem wG_aload (C : Cx X y cc mL ret rm) {i : Nat} {x : Nat} (hd : dcd cc pc (.aload i) 2 pc') (p : Nat) (hp : L[p]? = some (i, .ref x)) (g : wG X mL Z k N h r cl sl pc' L (.ref x :: st)) : wG X mL Z k N h r cl sl pc L st := by
  obtain ⟨hd, rfl⟩ := hd
  intro z hz Q hQ H locs ls w S hl
  exact lv_aload C.1 C.2.1 hd (lv_at hl p hp) (g z hz Q hQ H locs ls w S hl)
theorem wG_istore_n (C : Cx X y cc mL ret rm) {i : Fin 4} {x : Int32} (hd : dcd cc pc (.istore_n i) 1 pc') (hn : (i : Nat) < mL) (ks : List Nat) (hf : lv_pick (((i : Nat), Value.int x) :: L.filter (fun q => !(q.1 == (i : Nat)) && !(q.1 + 1 == (i : Nat) && q.2.category == 2))) ks = L') (g : wG X mL Z k N h r cl sl pc' L' st) : wG X mL Z k N h r cl sl pc L (.int x :: st) := by
  obtain ⟨hd, rfl⟩ := hd
  intro z hz Q hQ H locs ls w S hl
  exact lv_istore_n C.1 C.2.1 hd rfl hl hn rfl (fun ls' hl' => g z hz Q hQ H locs ls' w S (lv_sub hl' ks hf))
theorem wG_istore (C : Cx X y cc mL ret rm) {i : Nat} {x : Int32} (hd : dcd cc pc (.istore i) 2 pc') (hn : i < mL) (ks : List Nat) (hf : lv_pick ((i, Value.int x) :: L.filter (fun q => !(q.1 == i) && !(q.1 + 1 == i && q.2.category == 2))) ks = L') (g : wG X mL Z k N h r cl sl pc' L' st) : wG X mL Z k N h r cl sl pc L (.int x :: st) := by
  obtain ⟨hd, rfl⟩ := hd
  intro z hz Q hQ H locs ls w S hl
  exact lv_istore C.1 C.2.1 hd hl hn rfl (fun ls' hl' => g z hz Q hQ H locs ls' w S (lv_sub hl' ks hf))
theorem wG_astore_n (C : Cx X y cc mL ret rm) {i : Fin 4} {x : Nat} (hd : dcd cc pc (.astore_n i) 1 pc') (hn : (i : Nat) < mL) (ks : List Nat) (hf : lv_pick (((i : Nat), Value.ref x) :: L.filter (fun q => !(q.1 == (i : Nat)) && !(q.1 + 1 == (i : Nat) && q.2.category == 2))) ks = L') (g : wG X mL Z k N h r cl sl pc' L' st) : wG X mL Z k N h r cl sl pc L (.ref x :: st) := by
  obtain ⟨hd, rfl⟩ := hd
  intro z hz Q hQ H locs ls w S hl
  exact lv_astore_n C.1 C.2.1 hd rfl hl hn rfl (fun ls' hl' => g z hz Q hQ H locs ls' w S (lv_sub hl' ks hf))
theorem wG_astore (C : Cx X y cc mL ret rm) {i : Nat} {x : Nat} (hd : dcd cc pc (.astore i) 2 pc') (hn : i < mL) (ks : List Nat) (hf : lv_pick ((i, Value.ref x) :: L.filter (fun q => !(q.1 == i) && !(q.1 + 1 == i && q.2.category == 2))) ks = L') (g : wG X mL Z k N h r cl sl pc' L' st) : wG X mL Z k N h r cl sl pc L (.ref x :: st) := by
  obtain ⟨hd, rfl⟩ := hd
  intro z hz Q hQ H locs ls w S hl
  exact lv_astore C.1 C.2.1 hd hl hn rfl (fun ls' hl' => g z hz Q hQ H locs ls' w S (lv_sub hl' ks hf))
theorem wG_lstore_n (C : Cx X y cc mL ret rm) {i : Fin 4} {x : Int64} (hd : dcd cc pc (.lstore_n i) 1 pc') (hn : (i : Nat) + 1 < mL) (ks : List Nat) (hf : lv_pick (((i : Nat), Value.long x) :: L.filter (fun q => !(q.1 == (i : Nat)) && (!(q.1 == (i : Nat) + 1) && !(q.1 + 1 == (i : Nat) && q.2.category == 2)))) ks = L') (g : wG X mL Z k N h r cl sl pc' L' st) : wG X mL Z k N h r cl sl pc L (.long x :: st) := by
  obtain ⟨hd, rfl⟩ := hd
  intro z hz Q hQ H locs ls w S hl
  exact lv_lstore_n C.1 C.2.1 hd rfl hl hn rfl (fun ls' hl' => g z hz Q hQ H locs ls' w S (lv_sub hl' ks hf))
theorem wG_lstore (C : Cx X y cc mL ret rm) {i : Nat} {x : Int64} (hd : dcd cc pc (.lstore i) 2 pc') (hn : i + 1 < mL) (ks : List Nat) (hf : lv_pick ((i, Value.long x) :: L.filter (fun q => !(q.1 == i) && (!(q.1 == i + 1) && !(q.1 + 1 == i && q.2.category == 2)))) ks = L') (g : wG X mL Z k N h r cl sl pc' L' st) : wG X mL Z k N h r cl sl pc L (.long x :: st) := by
  obtain ⟨hd, rfl⟩ := hd
  intro z hz Q hQ H locs ls w S hl
  exact lv_lstore C.1 C.2.1 hd hl hn rfl (fun ls' hl' => g z hz Q hQ H locs ls' w S (lv_sub hl' ks hf))
theorem wG_iinc (C : Cx X y cc mL ret rm) {i : Nat} {n : Int} {x v : Int32} {kk : Int32 → Option ρ} {LL : Int32 → List (Nat × Value)} (hd : dcd cc pc (.iinc i n) 3 pc') (p : Nat) (hp : L[p]? = some (i, .int x)) (hv : Int32.ofInt n = v) (hn : i < mL) (ks : List Nat) (hf : ∀ x, lv_pick ((i, Value.int x) :: L.filter (fun q => !(q.1 == i) && !(q.1 + 1 == i && q.2.category == 2))) ks = LL x) (g : ∀ x, wG X mL Z (kk x) N h r cl sl pc' (LL x) st) : wG X mL Z (vB (x + v) kk) N h r cl sl pc L st := by
  obtain ⟨hd, rfl⟩ := hd
  intro z hz Q hQ H locs ls w S hl
  exact lv_iinc (v := x + v) C.1 C.2.1 hd hl hp (by rw [hv]) hn rfl (fun ls' hl' => g _ z hz Q hQ H locs ls' w S (lv_sub hl' ks (hf _)))
theorem wG_iadd (C : Cx X y cc mL ret rm) {x y1 : Int32} (hd : dcd cc pc .iadd 1 pc') (g : wG X mL Z k N h r cl sl pc' L (.int (x + y1) :: st)) : wG X mL Z k N h r cl sl pc L (.int y1 :: .int x :: st) := by
  obtain ⟨hd, rfl⟩ := hd
  intro z hz Q hQ H locs ls w S hl
  exact lv_iadd C.1 C.2.1 hd (g z hz Q hQ H locs ls w S hl)
theorem wG_isub (C : Cx X y cc mL ret rm) {x y1 : Int32} (hd : dcd cc pc .isub 1 pc') (g : wG X mL Z k N h r cl sl pc' L (.int (x - y1) :: st)) : wG X mL Z k N h r cl sl pc L (.int y1 :: .int x :: st) := by
  obtain ⟨hd, rfl⟩ := hd
  intro z hz Q hQ H locs ls w S hl
  exact lv_isub C.1 C.2.1 hd (g z hz Q hQ H locs ls w S hl)
theorem wG_imul (C : Cx X y cc mL ret rm) {x y1 : Int32} (hd : dcd cc pc .imul 1 pc') (g : wG X mL Z k N h r cl sl pc' L (.int (x * y1) :: st)) : wG X mL Z k N h r cl sl pc L (.int y1 :: .int x :: st) := by
  obtain ⟨hd, rfl⟩ := hd
  intro z hz Q hQ H locs ls w S hl
  exact lv_imul C.1 C.2.1 hd (g z hz Q hQ H locs ls w S hl)
theorem wG_iand (C : Cx X y cc mL ret rm) {x y1 : Int32} (hd : dcd cc pc .iand 1 pc') (g : wG X mL Z k N h r cl sl pc' L (.int (x &&& y1) :: st)) : wG X mL Z k N h r cl sl pc L (.int y1 :: .int x :: st) := by
  obtain ⟨hd, rfl⟩ := hd
  intro z hz Q hQ H locs ls w S hl
  exact lv_iand C.1 C.2.1 hd (g z hz Q hQ H locs ls w S hl)
theorem wG_ior (C : Cx X y cc mL ret rm) {x y1 : Int32} (hd : dcd cc pc .ior 1 pc') (g : wG X mL Z k N h r cl sl pc' L (.int (x ||| y1) :: st)) : wG X mL Z k N h r cl sl pc L (.int y1 :: .int x :: st) := by
  obtain ⟨hd, rfl⟩ := hd
  intro z hz Q hQ H locs ls w S hl
  exact lv_ior C.1 C.2.1 hd (g z hz Q hQ H locs ls w S hl)
theorem wG_ixor (C : Cx X y cc mL ret rm) {x y1 : Int32} (hd : dcd cc pc .ixor 1 pc') (g : wG X mL Z k N h r cl sl pc' L (.int (x ^^^ y1) :: st)) : wG X mL Z k N h r cl sl pc L (.int y1 :: .int x :: st) := by
  obtain ⟨hd, rfl⟩ := hd
  intro z hz Q hQ H locs ls w S hl
  exact lv_ixor C.1 C.2.1 hd (g z hz Q hQ H locs ls w S hl)
theorem wG_ishl (C : Cx X y cc mL ret rm) {x y1 : Int32} (hd : dcd cc pc .ishl 1 pc') (g : wG X mL Z k N h r cl sl pc' L (.int (x <<< (y1 &&& 31)) :: st)) : wG X mL Z k N h r cl sl pc L (.int y1 :: .int x :: st) := by
  obtain ⟨hd, rfl⟩ := hd
  intro z hz Q hQ H locs ls w S hl
  exact lv_ishl C.1 C.2.1 hd (g z hz Q hQ H locs ls w S hl)
theorem wG_ishr (C : Cx X y cc mL ret rm) {x y1 : Int32} (hd : dcd cc pc .ishr 1 pc') (g : wG X mL Z k N h r cl sl pc' L (.int (x >>> (y1 &&& 31)) :: st)) : wG X mL Z k N h r cl sl pc L (.int y1 :: .int x :: st) := by
  obtain ⟨hd, rfl⟩ := hd
  intro z hz Q hQ H locs ls w S hl
  exact lv_ishr C.1 C.2.1 hd (g z hz Q hQ H locs ls w S hl)
theorem wG_ladd (C : Cx X y cc mL ret rm) {x y1 : Int64} (hd : dcd cc pc .ladd 1 pc') (g : wG X mL Z k N h r cl sl pc' L (.long (x + y1) :: st)) : wG X mL Z k N h r cl sl pc L (.long y1 :: .long x :: st) := by
  obtain ⟨hd, rfl⟩ := hd
  intro z hz Q hQ H locs ls w S hl
  exact lv_ladd C.1 C.2.1 hd (g z hz Q hQ H locs ls w S hl)
theorem wG_lsub (C : Cx X y cc mL ret rm) {x y1 : Int64} (hd : dcd cc pc .lsub 1 pc') (g : wG X mL Z k N h r cl sl pc' L (.long (x - y1) :: st)) : wG X mL Z k N h r cl sl pc L (.long y1 :: .long x :: st) := by
  obtain ⟨hd, rfl⟩ := hd
  intro z hz Q hQ H locs ls w S hl
  exact lv_lsub C.1 C.2.1 hd (g z hz Q hQ H locs ls w S hl)
theorem wG_lmul (C : Cx X y cc mL ret rm) {x y1 : Int64} (hd : dcd cc pc .lmul 1 pc') (g : wG X mL Z k N h r cl sl pc' L (.long (x * y1) :: st)) : wG X mL Z k N h r cl sl pc L (.long y1 :: .long x :: st) := by
  obtain ⟨hd, rfl⟩ := hd
  intro z hz Q hQ H locs ls w S hl
  exact lv_lmul C.1 C.2.1 hd (g z hz Q hQ H locs ls w S hl)
theorem wG_land (C : Cx X y cc mL ret rm) {x y1 : Int64} (hd : dcd cc pc .land 1 pc') (g : wG X mL Z k N h r cl sl pc' L (.long (x &&& y1) :: st)) : wG X mL Z k N h r cl sl pc L (.long y1 :: .long x :: st) := by
  obtain ⟨hd, rfl⟩ := hd
  intro z hz Q hQ H locs ls w S hl
  exact lv_land C.1 C.2.1 hd (g z hz Q hQ H locs ls w S hl)
theorem wG_lor (C : Cx X y cc mL ret rm) {x y1 : Int64} (hd : dcd cc pc .lor 1 pc') (g : wG X mL Z k N h r cl sl pc' L (.long (x ||| y1) :: st)) : wG X mL Z k N h r cl sl pc L (.long y1 :: .long x :: st) := by
  obtain ⟨hd, rfl⟩ := hd
  intro z hz Q hQ H locs ls w S hl
  exact lv_lor C.1 C.2.1 hd (g z hz Q hQ H locs ls w S hl)
theorem wG_ineg (C : Cx X y cc mL ret rm) {x : Int32} (hd : dcd cc pc .ineg 1 pc') (g : wG X mL Z k N h r cl sl pc' L (.int (-x) :: st)) : wG X mL Z k N h r cl sl pc L (.int x :: st) := by
  obtain ⟨hd, rfl⟩ := hd
  intro z hz Q hQ H locs ls w S hl
  exact lv_ineg C.1 C.2.1 hd (g z hz Q hQ H locs ls w S hl)
theorem wG_lneg (C : Cx X y cc mL ret rm) {x : Int64} (hd : dcd cc pc .lneg 1 pc') (g : wG X mL Z k N h r cl sl pc' L (.long (-x) :: st)) : wG X mL Z k N h r cl sl pc L (.long x :: st) := by
  obtain ⟨hd, rfl⟩ := hd
  intro z hz Q hQ H locs ls w S hl
  exact lv_lneg C.1 C.2.1 hd (g z hz Q hQ H locs ls w S hl)
theorem wG_i2l (C : Cx X y cc mL ret rm) {x : Int32} (hd : dcd cc pc .i2l 1 pc') (g : wG X mL Z k N h r cl sl pc' L (.long x.toInt64 :: st)) : wG X mL Z k N h r cl sl pc L (.int x :: st) := by
  obtain ⟨hd, rfl⟩ := hd
  intro z hz Q hQ H locs ls w S hl
  exact lv_i2l C.1 C.2.1 hd rfl (g z hz Q hQ H locs ls w S hl)
theorem wG_l2i (C : Cx X y cc mL ret rm) {x : Int64} (hd : dcd cc pc .l2i 1 pc') (g : wG X mL Z k N h r cl sl pc' L (.int x.toInt32 :: st)) : wG X mL Z k N h r cl sl pc L (.long x :: st) := by
  obtain ⟨hd, rfl⟩ := hd
  intro z hz Q hQ H locs ls w S hl
  exact lv_l2i C.1 C.2.1 hd rfl (g z hz Q hQ H locs ls w S hl)
theorem wG_lushr (C : Cx X y cc mL ret rm) {x : Int64} {y1 : Int32} (hd : dcd cc pc .lushr 1 pc') (g : wG X mL Z k N h r cl sl pc' L (.long (x.toUInt64 >>> (y1.toInt64.toUInt64 &&& Int64.toUInt64 63)).toInt64 :: st)) : wG X mL Z k N h r cl sl pc L (.int y1 :: .long x :: st) := by
  obtain ⟨hd, rfl⟩ := hd
  intro z hz Q hQ H locs ls w S hl
  exact lv_lushr C.1 C.2.1 hd rfl (g z hz Q hQ H locs ls w S hl)
theorem wG_lshl (C : Cx X y cc mL ret rm) {x : Int64} {y1 : Int32} (hd : dcd cc pc .lshl 1 pc') (g : wG X mL Z k N h r cl sl pc' L (.long (x <<< (y1.toInt64 &&& 63)) :: st)) : wG X mL Z k N h r cl sl pc L (.int y1 :: .long x :: st) := by
  obtain ⟨hd, rfl⟩ := hd
  intro z hz Q hQ H locs ls w S hl
  exact lv_lshl C.1 C.2.1 hd rfl (g z hz Q hQ H locs ls w S hl)
theorem wG_lshr (C : Cx X y cc mL ret rm) {x : Int64} {y1 : Int32} (hd : dcd cc pc .lshr 1 pc') (g : wG X mL Z k N h r cl sl pc' L (.long (x >>> (y1.toInt64 &&& 63)) :: st)) : wG X mL Z k N h r cl sl pc L (.int y1 :: .long x :: st) := by
  obtain ⟨hd, rfl⟩ := hd
  intro z hz Q hQ H locs ls w S hl
  exact lv_lshr C.1 C.2.1 hd rfl (g z hz Q hQ H locs ls w S hl)
theorem wG_lcmp (C : Cx X y cc mL ret rm) {x y1 : Int64} (hd : dcd cc pc .lcmp 1 pc') (g : wG X mL Z k N h r cl sl pc' L (.int (lg_cmp x y1) :: st)) : wG X mL Z k N h r cl sl pc L (.long y1 :: .long x :: st) := by
  obtain ⟨hd, rfl⟩ := hd
  intro z hz Q hQ H locs ls w S hl
  exact W.lcmp C.1 C.2.1 hd (g z hz Q hQ H locs ls w S hl)
theorem wG_dup (C : Cx X y cc mL ret rm) {v : Value} (hd : dcd cc pc .dup 1 pc') (hv : v.category = 1) (g : wG X mL Z k N h r cl sl pc' L (v :: v :: st)) : wG X mL Z k N h r cl sl pc L (v :: st) := by
  obtain ⟨hd, rfl⟩ := hd
  intro z hz Q hQ H locs ls w S hl
  exact lv_dup C.1 C.2.1 hd hv (g z hz Q hQ H locs ls w S hl)
theorem wG_pop (C : Cx X y cc mL ret rm) {v : Value} (hd : dcd cc pc .pop 1 pc') (hv : v.category = 1) (g : wG X mL Z k N h r cl sl pc' L (st)) : wG X mL Z k N h r cl sl pc L (v :: st) := by
  obtain ⟨hd, rfl⟩ := hd
  intro z hz Q hQ H locs ls w S hl
  exact lv_pop C.1 C.2.1 hd hv (g z hz Q hQ H locs ls w S hl)
theorem wG_dup2 (C : Cx X y cc mL ret rm) {v v2 : Value} (hd : dcd cc pc .dup2 1 pc') (hv : v.category = 1) (hv2 : v2.category = 1) (g : wG X mL Z k N h r cl sl pc' L (v :: v2 :: v :: v2 :: st)) : wG X mL Z k N h r cl sl pc L (v :: v2 :: st) := by
  obtain ⟨hd, rfl⟩ := hd
  intro z hz Q hQ H locs ls w S hl
  exact lv_dup2_11 C.1 C.2.1 hd hv hv2 (g z hz Q hQ H locs ls w S hl)
theorem wG_idivK (C : Cx X y cc mL ret rm) {x y1 : Int32} (hd : dcd cc pc .idiv 1 pc') (hne : ¬ y1 = 0) (g : wG X mL Z k N h r cl sl pc' L (.int (x / y1) :: st)) : wG X mL Z k N h r cl sl pc L (.int y1 :: .int x :: st) := by
  obtain ⟨hd, rfl⟩ := hd
  intro z hz Q hQ H locs ls w S hl
  exact lv_idiv C.1 C.2.1 hd hne (g z hz Q hQ H locs ls w S hl)
theorem wG_idiv (C : Cx X y cc mL ret rm) {x y1 : Int32} (hd : dcd cc pc .idiv 1 pc') (g : wG X mL Z k N h r cl sl pc' L (.int (x / y1) :: st)) : wG X mL Z (if y1 = 0 then none else k) N h r cl sl pc L (.int y1 :: .int x :: st) := by
  by_cases h0 : y1 = 0
  · rw [if_pos h0]; exact wG_none
  · rw [if_neg h0]; exact wG_idivK C hd h0 g
theorem wG_iremK (C : Cx X y cc mL ret rm) {x y1 : Int32} (hd : dcd cc pc .irem 1 pc') (hne : ¬ y1 = 0) (g : wG X mL Z k N h r cl sl pc' L (.int (x - x / y1 * y1) :: st)) : wG X mL Z k N h r cl sl pc L (.int y1 :: .int x :: st) := by
  obtain ⟨hd, rfl⟩ := hd
  intro z hz Q hQ H locs ls w S hl
  exact lv_irem C.1 C.2.1 hd hne (g z hz Q hQ H locs ls w S hl)
theorem wG_irem (C : Cx X y cc mL ret rm) {x y1 : Int32} (hd : dcd cc pc .irem 1 pc') (g : wG X mL Z k N h r cl sl pc' L (.int (x - x / y1 * y1) :: st)) : wG X mL Z (if y1 = 0 then none else k) N h r cl sl pc L (.int y1 :: .int x :: st) := by
  by_cases h0 : y1 = 0
  · rw [if_pos h0]; exact wG_none
  · rw [if_neg h0]; exact wG_iremK C hd h0 g
theorem wG_ldivK (C : Cx X y cc mL ret rm) {x y1 : Int64} (hd : dcd cc pc .ldiv 1 pc') (hne : ¬ y1 = 0) (g : wG X mL Z k N h r cl sl pc' L (.long (x / y1) :: st)) : wG X mL Z k N h r cl sl pc L (.long y1 :: .long x :: st) := by
  obtain ⟨hd, rfl⟩ := hd
  intro z hz Q hQ H locs ls w S hl
  exact lv_ldiv C.1 C.2.1 hd hne (g z hz Q hQ H locs ls w S hl)
theorem wG_ldiv (C : Cx X y cc mL ret rm) {x y1 : Int64} (hd : dcd cc pc .ldiv 1 pc') (g : wG X mL Z k N h r cl sl pc' L (.long (x / y1) :: st)) : wG X mL Z (if y1 = 0 then none else k) N h r cl sl pc L (.long y1 :: .long x :: st) := by
  by_cases h0 : y1 = 0
  · rw [if_pos h0]; exact wG_none
  · rw [if_neg h0]; exact wG_ldivK C hd h0 g
theorem wG_lremK (C : Cx X y cc mL ret rm) {x y1 : Int64} (hd : dcd cc pc .lrem 1 pc') (hne : ¬ y1 = 0) (g : wG X mL Z k N h r cl sl pc' L (.long (x - x / y1 * y1) :: st)) : wG X mL Z k N h r cl sl pc L (.long y1 :: .long x :: st) := by
  obtain ⟨hd, rfl⟩ := hd
  intro z hz Q hQ H locs ls w S hl
  exact lv_lrem C.1 C.2.1 hd hne (g z hz Q hQ H locs ls w S hl)
theorem wG_lrem (C : Cx X y cc mL ret rm) {x y1 : Int64} (hd : dcd cc pc .lrem 1 pc') (g : wG X mL Z k N h r cl sl pc' L (.long (x - x / y1 * y1) :: st)) : wG X mL Z (if y1 = 0 then none else k) N h r cl sl pc L (.long y1 :: .long x :: st) := by
  by_cases h0 : y1 = 0
  · rw [if_pos h0]; exact wG_none
  · rw [if_neg h0]; exact wG_lremK C hd h0 g
theorem wG_icmp_eq (C : Cx X y cc mL ret rm) {x y1 : Int32} (hd : dcb cc pc (.if_icmp .eq off) off tgt pc') (gt : wG X mL Z kt N h r cl sl tgt L st) (gf : wG X mL Z kf N h r cl sl pc' L st) : wG X mL Z (if x = y1 then kt else kf) N h r cl sl pc L (.int y1 :: .int x :: st) := by
  obtain ⟨hd, ht, rfl⟩ := hd
  intro z hz Q hQ H locs ls w S hl
  refine lv_icmp_eq C.1 C.2.1 hd ht (fun q => ?_) (fun q => ?_)
  · rw [if_pos q] at hz; exact gt z hz Q hQ H locs ls w S hl
  · rw [if_neg q] at hz; exact gf z hz Q hQ H locs ls w S hl
theorem wG_if_eq (C : Cx X y cc mL ret rm) {x : Int32} (hd : dcb cc pc (.ifCond .eq off) off tgt pc') (gt : wG X mL Z kt N h r cl sl tgt L st) (gf : wG X mL Z kf N h r cl sl pc' L st) : wG X mL Z (if x = 0 then kt else kf) N h r cl sl pc L (.int x :: st) := by
  obtain ⟨hd, ht, rfl⟩ := hd
  intro z hz Q hQ H locs ls w S hl
  refine lv_if_eq C.1 C.2.1 hd ht (fun q => ?_) (fun q => ?_)
  · rw [if_pos q] at hz; exact gt z hz Q hQ H locs ls w S hl
  · rw [if_neg q] at hz; exact gf z hz Q hQ H locs ls w S hl
theorem wG_icmp_ne (C : Cx X y cc mL ret rm) {x y1 : Int32} (hd : dcb cc pc (.if_icmp .ne off) off tgt pc') (gf : wG X mL Z kf N h r cl sl pc' L st) (gt : wG X mL Z kt N h r cl sl tgt L st) : wG X mL Z (if x = y1 then kf else kt) N h r cl sl pc L (.int y1 :: .int x :: st) := by
  obtain ⟨hd, ht, rfl⟩ := hd
  intro z hz Q hQ H locs ls w S hl
  refine lv_icmp_ne C.1 C.2.1 hd ht (fun q => ?_) (fun q => ?_)
  · rw [if_neg q] at hz; exact gt z hz Q hQ H locs ls w S hl
  · rw [if_pos q] at hz; exact gf z hz Q hQ H locs ls w S hl
theorem wG_if_ne (C : Cx X y cc mL ret rm) {x : Int32} (hd : dcb cc pc (.ifCond .ne off) off tgt pc') (gf : wG X mL Z kf N h r cl sl pc' L st) (gt : wG X mL Z kt N h r cl sl tgt L st) : wG X mL Z (if x = 0 then kf else kt) N h r cl sl pc L (.int x :: st) := by
  obtain ⟨hd, ht, rfl⟩ := hd
  intro z hz Q hQ H locs ls w S hl
  refine lv_if_ne C.1 C.2.1 hd ht (fun q => ?_) (fun q => ?_)
  · rw [if_neg q] at hz; exact gt z hz Q hQ H locs ls w S hl
  · rw [if_pos q] at hz; exact gf z hz Q hQ H locs ls w S hl
theorem wG_icmp_lt (C : Cx X y cc mL ret rm) {x y1 : Int32} (hd : dcb cc pc (.if_icmp .lt off) off tgt pc') (gt : wG X mL Z kt N h r cl sl tgt L st) (gf : wG X mL Z kf N h r cl sl pc' L st) : wG X mL Z (if x < y1 then kt else kf) N h r cl sl pc L (.int y1 :: .int x :: st) := by
  obtain ⟨hd, ht, rfl⟩ := hd
  intro z hz Q hQ H locs ls w S hl
  refine lv_icmp_lt C.1 C.2.1 hd ht (fun q => ?_) (fun q => ?_)
  · rw [if_pos q] at hz; exact gt z hz Q hQ H locs ls w S hl
  · rw [if_neg q] at hz; exact gf z hz Q hQ H locs ls w S hl
theorem wG_if_lt (C : Cx X y cc mL ret rm) {x : Int32} (hd : dcb cc pc (.ifCond .lt off) off tgt pc') (gt : wG X mL Z kt N h r cl sl tgt L st) (gf : wG X mL Z kf N h r cl sl pc' L st) : wG X mL Z (if x < 0 then kt else kf) N h r cl sl pc L (.int x :: st) := by
  obtain ⟨hd, ht, rfl⟩ := hd
  intro z hz Q hQ H locs ls w S hl
  refine lv_if_lt C.1 C.2.1 hd ht (fun q => ?_) (fun q => ?_)
  · rw [if_pos q] at hz; exact gt z hz Q hQ H locs ls w S hl
  · rw [if_neg q] at hz; exact gf z hz Q hQ H locs ls w S hl
theorem wG_icmp_ge (C : Cx X y cc mL ret rm) {x y1 : Int32} (hd : dcb cc pc (.if_icmp .ge off) off tgt pc') (gt : wG X mL Z kt N h r cl sl tgt L st) (gf : wG X mL Z kf N h r cl sl pc' L st) : wG X mL Z (if y1 ≤ x then kt else kf) N h r cl sl pc L (.int y1 :: .int x :: st) := by
  obtain ⟨hd, ht, rfl⟩ := hd
  intro z hz Q hQ H locs ls w S hl
  refine lv_icmp_ge C.1 C.2.1 hd ht (fun q => ?_) (fun q => ?_)
  · rw [if_pos q] at hz; exact gt z hz Q hQ H locs ls w S hl
  · rw [if_neg q] at hz; exact gf z hz Q hQ H locs ls w S hl
theorem wG_if_ge (C : Cx X y cc mL ret rm) {x : Int32} (hd : dcb cc pc (.ifCond .ge off) off tgt pc') (gt : wG X mL Z kt N h r cl sl tgt L st) (gf : wG X mL Z kf N h r cl sl pc' L st) : wG X mL Z (if 0 ≤ x then kt else kf) N h r cl sl pc L (.int x :: st) := by
  obtain ⟨hd, ht, rfl⟩ := hd
  intro z hz Q hQ H locs ls w S hl
  refine lv_if_ge C.1 C.2.1 hd ht (fun q => ?_) (fun q => ?_)
  · rw [if_pos q] at hz; exact gt z hz Q hQ H locs ls w S hl
  · rw [if_neg q] at hz; exact gf z hz Q hQ H locs ls w S hl
theorem wG_icmp_gt (C : Cx X y cc mL ret rm) {x y1 : Int32} (hd : dcb cc pc (.if_icmp .gt off) off tgt pc') (gt : wG X mL Z kt N h r cl sl tgt L st) (gf : wG X mL Z kf N h r cl sl pc' L st) : wG X mL Z (if y1 < x then kt else kf) N h r cl sl pc L (.int y1 :: .int x :: st) := by
  obtain ⟨hd, ht, rfl⟩ := hd
  intro z hz Q hQ H locs ls w S hl
  refine lv_icmp_gt C.1 C.2.1 hd ht (fun q => ?_) (fun q => ?_)
  · rw [if_pos q] at hz; exact gt z hz Q hQ H locs ls w S hl
  · rw [if_neg q] at hz; exact gf z hz Q hQ H locs ls w S hl
theorem wG_if_gt (C : Cx X y cc mL ret rm) {x : Int32} (hd : dcb cc pc (.ifCond .gt off) off tgt pc') (gt : wG X mL Z kt N h r cl sl tgt L st) (gf : wG X mL Z kf N h r cl sl pc' L st) : wG X mL Z (if 0 < x then kt else kf) N h r cl sl pc L (.int x :: st) := by
  obtain ⟨hd, ht, rfl⟩ := hd
  intro z hz Q hQ H locs ls w S hl
  refine lv_if_gt C.1 C.2.1 hd ht (fun q => ?_) (fun q => ?_)
  · rw [if_pos q] at hz; exact gt z hz Q hQ H locs ls w S hl
  · rw [if_neg q] at hz; exact gf z hz Q hQ H locs ls w S hl
theorem wG_icmp_le (C : Cx X y cc mL ret rm) {x y1 : Int32} (hd : dcb cc pc (.if_icmp .le off) off tgt pc') (gt : wG X mL Z kt N h r cl sl tgt L st) (gf : wG X mL Z kf N h r cl sl pc' L st) : wG X mL Z (if x ≤ y1 then kt else kf) N h r cl sl pc L (.int y1 :: .int x :: st) := by
  obtain ⟨hd, ht, rfl⟩ := hd
  intro z hz Q hQ H locs ls w S hl
  refine lv_icmp_le C.1 C.2.1 hd ht (fun q => ?_) (fun q => ?_)
  · rw [if_pos q] at hz; exact gt z hz Q hQ H locs ls w S hl
  · rw [if_neg q] at hz; exact gf z hz Q hQ H locs ls w S hl
theorem wG_if_le (C : Cx X y cc mL ret rm) {x : Int32} (hd : dcb cc pc (.ifCond .le off) off tgt pc') (gt : wG X mL Z kt N h r cl sl tgt L st) (gf : wG X mL Z kf N h r cl sl pc' L st) : wG X mL Z (if x ≤ 0 then kt else kf) N h r cl sl pc L (.int x :: st) := by
  obtain ⟨hd, ht, rfl⟩ := hd
  intro z hz Q hQ H locs ls w S hl
  refine lv_if_le C.1 C.2.1 hd ht (fun q => ?_) (fun q => ?_)
  · rw [if_pos q] at hz; exact gt z hz Q hQ H locs ls w S hl
  · rw [if_neg q] at hz; exact gf z hz Q hQ H locs ls w S hl
theorem wG_goto (C : Cx X y cc mL ret rm) (hd : dcb cc pc (.goto off) off tgt pc') (g : wG X mL Z k N h r cl sl tgt L st) : wG X mL Z k N h r cl sl pc L st := by
  obtain ⟨hd, ht, -⟩ := hd
  intro z hz Q hQ H locs ls w S hl
  exact lv_goto C.1 C.2.1 hd ht (g z hz Q hQ H locs ls w S hl)
/-- a field of class number c, place j, as the pool of 'own' names it at idx -/
def fL (own : String) (idx c j : Nat) : Prop := ∃ (Cn : String) (T : u_T) (nn : Nat) (ref : String), cls[c]? = some (Cn, T, nn) ∧ nn = nF c ∧ c < 12 ∧ j < nn ∧ Cond.fieldLink own idx ref (T j).2.1 (T j).2.2.1 ∈ BIG ∧ (ref = (T j).1 ∨ Cond.sameField ref (T j).1 (T j).2.1 (T j).2.2.1 ∈ BIG) ∧ ∀ w ∈ u_ws Cn T nn, w ∈ BIG
theorem wG_getf (C : Cx X y cc mL ret rm) {idx c j a : Nat} (hf : fL y.cls idx c j) (hk : Kd a = c) (ha : a < N) (hd : dcd cc pc (.getfield idx) 3 pc') {v : Value} (hv : fv (xB X) c (h a) (r a) j = v) (g : wG X mL Z k N h r cl sl pc' L (v :: st)) : wG X mL Z k N h r cl sl pc L (.ref (xB X + a) :: st) := by
  obtain ⟨hd, rfl⟩ := hd
  obtain ⟨Cn, T, nn, ref, hc, hnn, hc12, hj, hlk, hsm, hin⟩ := hf
  subst hnn
  intro z hz Q hQ H locs ls w S hl
  obtain ⟨cell, q1, q2, q3, q4⟩ := w.ob ha hk hc12
  have hK := C.2.2.2.2.2.2.2.2.2.1
  have hts := C.2.2.2.2.1
  obtain ⟨hS, hfc, kC, hkC, hkind⟩ := hK.1 c _ hc
  obtain ⟨cf, kf, fi, f, hi, hsl⟩ := hS j hj
  have hsame : ∀ x, (xs X).fieldFound? (T j).1 (T j).2.1 (T j).2.2.1 = some x → (xs X).fieldFound? ref (T j).2.1 (T j).2.2.1 = some x := by
    rcases hsm with rfl | hsm
    · exact fun _ q => q
    · exact fun x q => u_same (hts _ hsm) x q
  refine W.getf C.1 C.2.1 C.2.2.2.1 (hts _ hlk) (hsame _ hi) (u_facts hfc hkC (u_lays hts hin hj) hi).1 q1 (by rw [q3]; exact fun q => by cases q) (v := v) ?_ rfl rfl hd (g z hz Q hQ H locs ls w S hl)
  rw [hsl, q4 j hj, hv]
theorem fv_i {b c j : Nat} {f : Nat → Int32} {g : Nat → Option Nat} (hr : rF c j = false) : fv b c f g j = .int (f j) := by
  unfold fv
  rw [if_neg (by rw [hr]; exact Bool.false_ne_true)]
theorem fv_r {b c j a : Nat} {f : Nat → Int32} {g : Nat → Option Nat} (hr : rF c j = true) (ha : g j = some a) : fv b c f g j = .ref (b + a) := by
  unfold fv
  rw [if_pos hr, ha]
  rfl
theorem wG_getI (C : Cx X y cc mL ret rm) {idx c j a : Nat} (hf : fL y.cls idx c j) (hr : rF c j = false) (hk : Kd a = c) (ha : a < N) (hd : dcd cc pc (.getfield idx) 3 pc') (g : wG X mL Z k N h r cl sl pc' L (.int (h a j) :: st)) : wG X mL Z k N h r cl sl pc L (.ref (xB X + a) :: st) := wG_getf C hf hk ha hd (fv_i hr) g
theorem wG_getR (C : Cx X y cc mL ret rm) {idx c j a b : Nat} (hf : fL y.cls idx c j) (hr : rF c j = true) (hk : Kd a = c) (ha : a < N) (hb : r a j = some b) (hd : dcd cc pc (.getfield idx) 3 pc') (g : wG X mL Z k N h r cl sl pc' L (.ref (xB X + b) :: st)) : wG X mL Z k N h r cl sl pc L (.ref (xB X + a) :: st) := wG_getf C hf hk ha hd (fv_r hr hb) g
/-- what may be put into a field: its type, whether it is final -/
def fP (c j : Nat) (fin : Bool) (own : String) (ty : FieldType) : Prop := ∃ (Cn : String) (T : u_T) (nn : Nat) (ty0 : Nat → FieldType), cls[c]? = some (Cn, T, nn) ∧ (∀ k, k < nn → parseFieldDescriptor (T k).2.2.1 = some (ty0 k)) ∧ (∀ a, a < nn → ∀ b, b < nn → a ≠ b → (T a).2.1 ≠ (T b).2.1) ∧ (T j).2.2.2 = fin ∧ (fin = true → (T j).1 = own) ∧ ty0 j = ty
theorem wG_put0 (C : Cx X y cc mL ret rm) {idx c j a : Nat} {fin : Bool} {ty : FieldType} (hf : fL y.cls idx c j) (hp : fP c j fin y.cls ty) (hfn : fin = true → y.name = "<init>") (hk : Kd a = c) (ha : a < N) {v : Value} (hn : narrow ty v = v) (hfit : fits ty v = true) (hd : dcd cc pc (.putfield idx) 3 pc')
    {h' : Hp} {r' : Rp} (hv : fv (xB X) c (h' a) (r' a) j = v) (ho : ∀ i, i ≠ j → fv (xB X) c (h' a) (r' a) i = fv (xB X) c (h a) (r a) i) (hh : ∀ q, q ≠ a → h' q = h q) (hr : ∀ q, q ≠ a → r' q = r q) (ht : ∀ j b, r' 43 j = some b → 137 ≤ b ∧ b < N ∨ r 43 j = some b)
    (g : wG X mL Z k N h' r' cl sl pc' L st) : wG X mL Z k N h r cl sl pc L (v :: .ref (xB X + a) :: st) := by
  obtain ⟨hd, rfl⟩ := hd
  obtain ⟨Cn, T, nn, ref, hc, hnn, hc12, hj, hlk, hsm, hin⟩ := hf
  obtain ⟨Cn', T', nn', ty0, hc', hty, hnm, hfin, hown2, hty0⟩ := hp
  cases hc.symm.trans hc'
  subst hnn
  subst hty0
  intro z hz Q hQ H locs ls w S hl
  have hK := C.2.2.2.2.2.2.2.2.2.1
  have hts := C.2.2.2.2.1
  have hap := va_apart (own := y.cls) hts hin ty0 hty hnm hK hc
  obtain ⟨cell, q1, q2, q3, q4⟩ := w.ob ha hk hc12
  obtain ⟨hS, hfc, kC, hkC, hkind⟩ := hK.1 c _ hc
  obtain ⟨cf, kf, fi, f, hi, hsl⟩ := hS j hj
  have hsame : ∀ x, (xs X).fieldFound? (T j).1 (T j).2.1 (T j).2.2.1 = some x → (xs X).fieldFound? ref (T j).2.1 (T j).2.2.1 = some x := by
    rcases hsm with rfl | hsm
    · exact fun _ q => q
    · exact fun x q => u_same (hts _ hsm) x q
  have hst := (u_facts hfc hkC (u_lays hts hin hj) hi).1
  have key : ∀ H1 : Heap, H1[xB X + a]? = some (cell.setSlot f.slot v) → H1.size = H.size → (∀ q, q ≠ xB X + a → H1[q]? = H[q]?) → W (xp X) (xl X) (xe X) (xR X) (xs X) (xm X) (xa X) (xb X) (xM X) (xc X) H1 (locs ++ [⟨xB X + a, f.slot⟩]) cl sl Q (F0 (xm X) (pc + 3) ls st) := by
    intro H1 e1 e2 e3
    rw [hsl] at e1
    refine g z hz Q hQ H1 _ ls (w.set a ha e2 e3 ?_ hh hr ?_) (S.put e2 e3 (Nat.le_add_right _ _)) hl
    · rw [hk]
      unfold atK
      rw [if_pos hc12]
      refine t_OB.to (V := updV (fv (xB X) c (h a) (r a)) j v) ⟨_, e1, q2, q3, t_set q4 hap hj v⟩ (fun i _ => ?_)
      by_cases e : i = j
      · subst e; simp [updV, hv]
      · simp [updV, e, ho i e]
    · intro j b q
      rcases ht j b q with q | q
      · exact q
      · exact w.2.2 j b q
  cases fin with
  | false =>
    have hlay := hts _ (hin _ (u_in_lay hj))
    unfold u_lay at hlay
    rw [if_neg (by rw [hfin]; decide)] at hlay
    have h6 := u_store hfc hkC hkind hlay hi (hty j hj) hn hfit
    exact W.putK C.1 C.2.1 (f := f) ⟨C.2.2.2.1, hts _ hlk, ⟨_, _, _, hsame _ hi⟩, hst⟩ (by rw [q2]; exact h6) q1 q3 (by rw [hsl]; exact k2_hasslot (q4 j hj)) rfl rfl hd key
  | true =>
    have hlay := hts _ (hin _ (u_in_lay hj))
    unfold u_lay at hlay
    rw [if_pos hfin] at hlay
    have hcf : (xm X).cls = cf := by
      obtain ⟨_, _, c', _, _, _, -, -, hf', -, -, -, hown3, -⟩ := Cond.laysFinal_spec hlay
      have e1 : c' = cf := by have := hi.symm.trans hf'; simp at this; exact this.1.symm
      rw [hown2 rfl] at hown3
      rw [← e1]; exact Option.some.inj (C.2.2.2.1.symm.trans hown3)
    have h6 := u_fits hfc hkC hkind (Or.inr hlay) hi (hty j hj) hn hfit
    exact W.putFinK C.1 C.2.1 C.2.2.2.1 (hts _ hlk) (hsame _ hi) hst hcf (C.2.2.2.2.2.2.2.1.trans (hfn rfl)) (by rw [q2]; exact h6) q1 q3 (by rw [hsl]; exact k2_hasslot (q4 j hj)) rfl rfl hd key
theorem fv_set {b c j : Nat} {h : Hp} {r : Rp} {a : Nat} {v : Int32} (hr : rF c j = false) : fv b c (u2 h a j v a) (r a) j = .int v := by
  rw [fv_i hr, u2_self]; simp
theorem fv_keep {b c j : Nat} {h : Hp} {r : Rp} {a : Nat} {v : Int32} {i : Nat} (e : i ≠ j) : fv b c (u2 h a j v a) (r a) i = fv b c (h a) (r a) i := by
  rw [u2_self]; simp [fv, e]
theorem wG_putI (C : Cx X y cc mL ret rm) {idx c j a : Nat} {fin : Bool} {v : Int32} {kk : Hp → Option ρ} (hf : fL y.cls idx c j) (hp : fP c j fin y.cls .int) (hfn : fin = true → y.name = "<init>") (hr : rF c j = false) (hk : Kd a = c) (ha : a < N) (hd : dcd cc pc (.putfield idx) 3 pc')
    (g : ∀ h', wG X mL Z (kk h') N h' r cl sl pc' L st) : wG X mL Z (vB (u2 h a j v) kk) N h r cl sl pc L (.int v :: .ref (xB X + a) :: st) :=
  wG_put0 (h' := u2 h a j v) (r' := r) C hf hp hfn hk ha rfl rfl hd (fv_set hr) (fun _ e => fv_keep e) (fun _ e => u2_ne _ _ _ e) (fun _ _ => rfl) (fun _ _ q => Or.inr q) (g _)
theorem wG_putZ (C : Cx X y cc mL ret rm) {idx c j a : Nat} {fin : Bool} {v : Int32} {kk : Hp → Option ρ} (hf : fL y.cls idx c j) (hp : fP c j fin y.cls .boolean) (hfn : fin = true → y.name = "<init>") (hr : rF c j = false) (hk : Kd a = c) (ha : a < N) (hn : narrow .boolean (.int v) = .int v) (hfit : fits .boolean (.int v) = true) (hd : dcd cc pc (.putfield idx) 3 pc')
    (g : ∀ h', wG X mL Z (kk h') N h' r cl sl pc' L st) : wG X mL Z (vB (u2 h a j v) kk) N h r cl sl pc L (.int v :: .ref (xB X + a) :: st) :=
  wG_put0 (h' := u2 h a j v) (r' := r) C hf hp hfn hk ha hn hfit hd (fv_set hr) (fun _ e => fv_keep e) (fun _ e => u2_ne _ _ _ e) (fun _ _ => rfl) (fun _ _ q => Or.inr q) (g _)
theorem wG_putR (C : Cx X y cc mL ret rm) {idx c j a b : Nat} {fin : Bool} {ty : FieldType} {kk : Rp → Option ρ} (hf : fL y.cls idx c j) (hp : fP c j fin y.cls ty) (hfn : fin = true → y.name = "<init>") (hr : rF c j = true) (hk : Kd a = c) (ha : a < N) (hty : (∃ n, ty = .object n) ∨ ∃ t, ty = .array t) (h43 : a ≠ 43) (hd : dcd cc pc (.putfield idx) 3 pc')
    (g : ∀ r', wG X mL Z (kk r') N h r' cl sl pc' L st) : wG X mL Z (vB (u2 r a j (some b)) kk) N h r cl sl pc L (.ref (xB X + b) :: .ref (xB X + a) :: st) := by
  refine wG_put0 (h' := h) (r' := u2 r a j (some b)) C hf hp hfn hk ha (v := .ref (xB X + b)) ?_ ?_ hd ?_ ?_ (fun _ _ => rfl) (fun _ e => u2_ne _ _ _ e) (fun i q hq => Or.inr (by rw [u2_ne _ _ _ (Ne.symm h43)] at hq; exact hq)) (g _)
  · rcases hty with ⟨n, rfl⟩ | ⟨t, rfl⟩ <;> rfl
  · rcases hty with ⟨n, rfl⟩ | ⟨t, rfl⟩ <;> rfl
  · exact fv_r hr (by rw [u2_self]; simp)
  · intro i e
    rw [u2_self]; simp [fv, e]
-- arrays
theorem Cx.arr (C : Cx X y cc mL ret rm) (t0 : Nat) {q : ClassId × FieldType} (ht : (tys (xE X))[t0]? = some q) : ArrOfT (xs X) q.1 q.2 := (C.2.2.2.2.2.2.2.2.2.1.2 t0 _ ht).1
theorem wG_iald (C : Cx X y cc mL ret rm) {a n : Nat} {i : Int32} (hk : Kd a = 12) (ha : a < N) (hn : Ln a = n) (hd : dcd cc pc .iaload 1 pc') (g : wG X mL Z k N h r cl sl pc' L (.int (h a (ix i)) :: st)) : wG X mL Z (if inB i n then k else none) N h r cl sl pc L (.int i :: .ref (xB X + a) :: st) := by
  obtain ⟨hd, rfl⟩ := hd
  subst hn
  intro z hz Q hQ H locs ls w S hl
  by_cases hin : inB i (Ln a)
  · rw [if_pos hin] at hz
    exact W.iald (v := .int (h a (ix i))) C.1 C.2.1 (w.ai ha hk (by decide) (by decide)) (C.arr 0 rfl _ _) (fun q => by cases q) (by rw [arrV_size]; exact hin.vp) (by rw [arrV_read _ _ (ix_lt hin)]) rfl rfl hd (g z hz Q hQ H locs ls w S hl)
  · rw [if_neg hin] at hz; cases hz
theorem wG_zald (C : Cx X y cc mL ret rm) {a n : Nat} {i : Int32} (hk : Kd a = 13) (ha : a < N) (hn : Ln a = n) (hd : dcd cc pc .baload 1 pc') (g : wG X mL Z k N h r cl sl pc' L (.int (h a (ix i)) :: st)) : wG X mL Z (if inB i n then k else none) N h r cl sl pc L (.int i :: .ref (xB X + a) :: st) := by
  obtain ⟨hd, rfl⟩ := hd
  subst hn
  intro z hz Q hQ H locs ls w S hl
  by_cases hin : inB i (Ln a)
  · rw [if_pos hin] at hz
    exact W.zald (v := .int (h a (ix i))) C.1 C.2.1 (w.ai ha hk (by decide) (by decide)) (C.arr 1 rfl _ _) (fun q => by cases q) (by rw [arrV_size]; exact hin.vp) (by rw [arrV_read _ _ (ix_lt hin)]) rfl rfl hd (g z hz Q hQ H locs ls w S hl)
  · rw [if_neg hin] at hz; cases hz
theorem atK_ai {E : wE} {a c : Nat} {f : Nat → Int32} {g : Nat → Option Nat} {H : Heap} (hk : Kd a = c) (hc : ¬ c < 12) (hc2 : c < 14) (h : H[eB E + a]? = some (arrV (eC E c) (Ln a) (fun j => .int (f j)))) : atK E (Kd a) a f g H := by
  rw [hk]
  unfold atK
  rw [if_neg hc, if_pos hc2]
  exact h
theorem atK_ar {E : wE} {a c : Nat} {f : Nat → Int32} {g : Nat → Option Nat} {H : Heap} (hk : Kd a = c) (hc : ¬ c < 12) (hc2 : ¬ c < 14) (h : H[eB E + a]? = some (arrV (eC E c) (Ln a) (fun j => va_rf ((g j).map (fun q => eB E + q))))) : atK E (Kd a) a f g H := by
  rw [hk]
  unfold atK
  rw [if_neg hc, if_neg hc2]
  exact h
theorem wG_iast (C : Cx X y cc mL ret rm) {a n : Nat} {i v : Int32} {kk : Hp → Option ρ} (hk : Kd a = 12) (ha : a < N) (hn : Ln a = n) (hd : dcd cc pc .iastore 1 pc') (g : ∀ h', wG X mL Z (kk h') N h' r cl sl pc' L st) : wG X mL Z (if inB i n then vB (u2 h a (ix i) v) kk else none) N h r cl sl pc L (.int v :: .int i :: .ref (xB X + a) :: st) := by
  obtain ⟨hd, rfl⟩ := hd
  subst hn
  intro z hz Q hQ H locs ls w S hl
  by_cases hin : inB i (Ln a)
  · rw [if_pos hin] at hz
    refine W.iast C.1 C.2.1 (w.ai ha hk (by decide) (by decide)) (C.arr 0 rfl _ _) (fun q => by cases q) (by rw [arrV_size]; exact hin.vp) rfl rfl hd fun H1 e zz oq => ?_
    refine g (u2 h a (ix i) v) z hz Q hQ H1 _ ls (w.set a ha zz oq (atK_ai hk (by decide) (by decide) ?_) (fun _ e => u2_ne _ _ _ e) (fun _ _ => rfl) w.2.2) (S.put zz oq (Nat.le_add_right _ _)) hl
    rw [e, arrV_store, u2_self]
    congr 2
    funext q
    by_cases hq : q = ix i
    · subst hq; simp [updV]
    · simp [updV, hq]
  · rw [if_neg hin] at hz; cases hz
theorem wG_zast (C : Cx X y cc mL ret rm) {a n : Nat} {i v : Int32} {kk : Hp → Option ρ} (hk : Kd a = 13) (ha : a < N) (hn : Ln a = n) (hv : narrow .boolean (.int v) = .int v) (hd : dcd cc pc .bastore 1 pc') (g : ∀ h', wG X mL Z (kk h') N h' r cl sl pc' L st) : wG X mL Z (if inB i n then vB (u2 h a (ix i) v) kk else none) N h r cl sl pc L (.int v :: .int i :: .ref (xB X + a) :: st) := by
  obtain ⟨hd, rfl⟩ := hd
  subst hn
  intro z hz Q hQ H locs ls w S hl
  by_cases hin : inB i (Ln a)
  · rw [if_pos hin] at hz
    refine W.zast C.1 C.2.1 (w.ai ha hk (by decide) (by decide)) (C.arr 1 rfl _ _) (fun q => by cases q) (by rw [arrV_size]; exact hin.vp) rfl rfl hd fun H1 e zz oq => ?_
    refine g (u2 h a (ix i) v) z hz Q hQ H1 _ ls (w.set a ha zz oq (atK_ai hk (by decide) (by decide) ?_) (fun _ e => u2_ne _ _ _ e) (fun _ _ => rfl) w.2.2) (S.put zz oq (Nat.le_add_right _ _)) hl
    rw [e, hv, arrV_store, u2_self]
    congr 2
    funext q
    by_cases hq : q = ix i
    · subst hq; simp [updV]
    · simp [updV, hq]
  · rw [if_neg hin] at hz; cases hz
theorem Cx.arrR (C : Cx X y cc mL ret rm) {c : Nat} {Cn : String} (hc : (tys (xE X))[c - 12]? = some (eC (xE X) c, .object Cn)) : ArrOfT (xs X) (eC (xE X) c) (.object Cn) := C.arr (c - 12) hc
/-- a reference out of an array: its place is the number b -/
theorem wG_aald (C : Cx X y cc mL ret rm) {a n c : Nat} {i : Int32} {Cn : String} {kk : Nat → Option ρ} (hk : Kd a = c) (hc : ¬ c < 12) (hc2 : ¬ c < 14) (hty : (tys (xE X))[c - 12]? = some (eC (xE X) c, .object Cn)) (ha : a < N) (hn : Ln a = n) (hd : dcd cc pc .aaload 1 pc') (g : ∀ b, r a (ix i) = some b → wG X mL Z (kk b) N h r cl sl pc' L (.ref (xB X + b) :: st)) : wG X mL Z (if inB i n then (r a (ix i)).bind kk else none) N h r cl sl pc L (.int i :: .ref (xB X + a) :: st) := by
  obtain ⟨hd, rfl⟩ := hd
  subst hn
  intro z hz Q hQ H locs ls w S hl
  by_cases hin : inB i (Ln a)
  · rw [if_pos hin] at hz
    cases hb : r a (ix i) with
    | none => rw [hb] at hz; cases hz
    | some b =>
      rw [hb] at hz
      exact W.aald (v := .ref (xB X + b)) (ty := .object Cn) C.1 C.2.1 (w.ar ha hk hc hc2) (C.arrR hty _ _) rfl (fun q => by cases q) (by rw [arrV_size]; exact hin.vp) (by rw [arrV_read _ _ (ix_lt hin), hb]; rfl) rfl rfl hd (g b hb z hz Q hQ H locs ls w S hl)
  · rw [if_neg hin] at hz; cases hz
theorem wG_alen (C : Cx X y cc mL ret rm) {a : Nat} {v : Int32} (hk : Kd a = 12) (ha : a < N) (hn : (Ln a).toInt32 = v) (hd : dcd cc pc .arraylength 1 pc') (g : wG X mL Z k N h r cl sl pc' L (.int v :: st)) : wG X mL Z k N h r cl sl pc L (.ref (xB X + a) :: st) := by
  obtain ⟨hd, rfl⟩ := hd
  intro z hz Q hQ H locs ls w S hl
  exact W.alen (n := v) C.1 C.2.1 (w.ai ha hk (by decide) (by decide)) (C.arr 0 rfl _ _) (by rw [arrV_size]; exact hn) rfl rfl hd (g z hz Q hQ H locs ls w S hl)
end ROWS
end
section
/-! THE ROWS OF THE FLAT WORLD, 2: ends, calls, statics, Math, switches, new cells -/
section ROWS2
variable {ρ : Type} {X : wX} {y : MethodName} {cc : ByteArray} {mL : Nat} {ret : Option FieldType} {rm : Room} {Z : ρ → (State → Prop) → Prop} {k kt kf : Option ρ} {N : Nat} {h : Hp} {r : Rp} {cl sl pc pc' tgt cl' sl' : Nat} {L L' : List (Nat × Value)} {st rest : List Value} {off : Int}
theorem Cx.hR (C : Cx X y cc mL ret rm) : xR X = rm := C.2.2.2.2.2.2.2.2.1
theorem Cx.lk (C : Cx X y cc mL ret rm) : (xM X).locks = false := C.2.2.2.2.2.1
theorem Cx.rt (C : Cx X y cc mL ret rm) : (xM X).sig.returnType = ret := C.2.2.2.2.2.2.1
theorem Cx.hts (C : Cx X y cc mL ret rm) : ∀ w ∈ BIG, w.before (xa X) (xs X) = true := C.2.2.2.2.1
theorem Cx.sp (C : Cx X y cc mL ret rm) : Sp (xs X) := C.2.2.2.2.2.2.2.2.2.2.1
theorem Cx.sta (C : Cx X y cc mL ret rm) : Sta (xE X) (xs X) (xs X).heap := C.2.2.2.2.2.2.2.2.2.2.2.1
theorem Cx.hK (C : Cx X y cc mL ret rm) : va_K (eD (xE X)) cls (tys (xE X)) (xs X) := C.2.2.2.2.2.2.2.2.2.1
/-- the end that a method has with the answer v -/
abbrev mQ (X : wX) (v : Option Value) (N : Nat) (h : Hp) (r : Rp) : State → Prop := MQ (xb X) (Qw (xE X) (v, N, h, r)) (xa X) (xs X) (xR X).cells (xR X).slots (fun q => xB X ≤ q)
theorem wG_iret (C : Cx X y cc mL (some .int) rm) {v : Int32} {z : ρ} (hd : decode cc pc = .ok (.ireturn, 1)) (hc : cl ≤ rm.cells ∧ sl ≤ rm.slots) (hZ : ∀ Q, Z z Q → Q = mQ X (some (.int v)) N h r) : wG X mL Z (some z) N h r cl sl pc L [.int v] := by
  intro z' hz Q hQ H locs ls w S hl
  cases hz
  rw [hZ Q hQ]
  refine W.widen (k := (xR X).cells) (n := (xR X).slots) (by rw [C.hR]; exact hc.1) (by rw [C.hR]; exact hc.2) ?_
  exact W.iret C.1 C.2.1 C.rt (fun t ht hW => ⟨rfl, by rw [ht]; exact w, S.F ht⟩) S.2.2 hd C.lk
theorem wG_zret (C : Cx X y cc mL (some .boolean) rm) {v : Int32} {z : ρ} (hd : decode cc pc = .ok (.ireturn, 1)) (hn : narrow .boolean (.int v) = .int v) (hc : cl ≤ rm.cells ∧ sl ≤ rm.slots) (hZ : ∀ Q, Z z Q → Q = mQ X (some (.int v)) N h r) : wG X mL Z (some z) N h r cl sl pc L [.int v] := by
  intro z' hz Q hQ H locs ls w S hl
  cases hz
  rw [hZ Q hQ]
  refine W.widen (k := (xR X).cells) (n := (xR X).slots) (by rw [C.hR]; exact hc.1) (by rw [C.hR]; exact hc.2) ?_
  exact W.zret C.1 C.2.1 C.rt hn (fun t ht hW => ⟨rfl, by rw [ht]; exact w, S.F ht⟩) S.2.2 hd C.lk
theorem wG_lret (C : Cx X y cc mL (some .long) rm) {v : Int64} {z : ρ} (hd : decode cc pc = .ok (.lreturn, 1)) (hc : cl ≤ rm.cells ∧ sl ≤ rm.slots) (hZ : ∀ Q, Z z Q → Q = mQ X (some (.long v)) N h r) : wG X mL Z (some z) N h r cl sl pc L [.long v] := by
  intro z' hz Q hQ H locs ls w S hl
  cases hz
  rw [hZ Q hQ]
  refine W.widen (k := (xR X).cells) (n := (xR X).slots) (by rw [C.hR]; exact hc.1) (by rw [C.hR]; exact hc.2) ?_
  exact W.lret C.1 C.2.1 C.rt (fun t ht hW => ⟨rfl, by rw [ht]; exact w, S.F ht⟩) S.2.2 hd C.lk
theorem wG_vret (C : Cx X y cc mL none rm) {z : ρ} (hd : decode cc pc = .ok (.return_, 1)) (hc : cl ≤ rm.cells ∧ sl ≤ rm.slots) (hZ : ∀ Q, Z z Q → Q = mQ X none N h r) : wG X mL Z (some z) N h r cl sl pc L [] := by
  intro z' hz Q hQ H locs ls w S hl
  cases hz
  rw [hZ Q hQ]
  refine W.widen (k := (xR X).cells) (n := (xR X).slots) (by rw [C.hR]; exact hc.1) (by rw [C.hR]; exact hc.2) ?_
  exact W.vret C.1 C.2.1 C.rt (fun t ht hW => ⟨rfl, by rw [ht]; exact w, S.F ht⟩) S.2.2 hd C.lk
/-- behind a call -/
theorem wG_run {σ : Type} {f : Option σ} {φ : σ → Rs} {kk : σ → Option ρ} {mc ms : Nat} {a : Array Value} (hcl : cl + mc = cl') (hsl : sl + ms = sl') (hp : pc + 3 = pc')
    (hr : ∀ u, f = some u → ∀ (H : Heap) (locs : List Loc) (ls : Array Slot), wd (xE X) N h r H → va_S (fun q => xB X ≤ q) (xs X).heap H locs → lv_has ls mL L → va_Run (xp X) (xl X) (xe X) (xR X) (xs X) (xm X) (xa X) (xb X) (xM X) (xc X) H locs cl sl mc ms (F0 (xm X) pc ls st) rest (Qw (xE X) (φ u) a) (fun q => xB X ≤ q))
    (g : ∀ u, wG X mL Z (kk u) (φ u).2.1 (φ u).2.2.1 (φ u).2.2.2 cl' sl' pc' L ((φ u).1.toList ++ rest)) : wG X mL Z (f.bind kk) N h r cl sl pc L st := by
  subst hcl; subst hsl; subst hp
  intro z hz Q hQ H locs ls w S hl
  cases hf : f with
  | none => rw [hf] at hz; cases hz
  | some u =>
    rw [hf] at hz
    have hr' := hr u hf H locs ls w S hl
    intro T hT XX
    obtain ⟨v, st₀, t, T', LL, h0, X', hL, e1, e2, ⟨hv, hw, hF⟩, stp⟩ := hr' T hT XX
    have hv' : v = (φ u).1 := Outcome.returned.inj hv
    subst hv'
    have hz0 := hF.1
    have hk0 := hF.2
    rw [h0] at hz0 hk0
    have S' : va_S (fun q => xB X ≤ q) (xs X).heap T'.heap (locs ++ LL) := ⟨Nat.le_trans S.1 (by rw [e1]; exact hz0), fun q h1 h2 => by rw [e1, hk0 q (Nat.lt_of_lt_of_le h1 S.1) h2]; exact S.2.1 q h1 h2, fun q hq => by
      rcases List.mem_append.mp hq with h | h
      · exact S.2.2 q h
      · exact hL q h⟩
    obtain ⟨t2, a1, b1⟩ := g u z hz Q hQ T'.heap (locs ++ LL) ls (by rw [e1]; exact hw) S' hl T' rfl X'
    exact ⟨t2, stp t2 a1, b1⟩
theorem Cx.pre (C : Cx X y cc mL ret rm) {H : Heap} {locs : List Loc} (w : wd (xE X) N h r H) (S : va_S (fun q => xB X ≤ q) (xs X).heap H locs) : ∀ U : State, U.heap = H → (xs X).WarmedH U.vm → Pw (xE X) N h r U := fun U hU hW => ⟨by rw [hU]; exact w, va_K.moved hW.alike C.hK, C.sp.warm hW, by rw [hU]; exact Sta.moved hW.alike (C.sta.kept S.2.1)⟩
theorem Cx.recv (C : Cx X y cc mL ret rm) {H : Heap} (w : wd (xE X) N h r H) {a c : Nat} {q : vw_C} (hc : cls[c]? = some q) (hc12 : c < 12) (hk : Kd a = c) (ha : a < N) : ∃ cell : Cell, H[xB X + a]? = some cell ∧ cell.vm.isStatics = false ∧ (xs X).vm.findClass q.1 = some cell.cls := by
  obtain ⟨cell, g1, g2, g3, -⟩ := w.ob ha hk hc12
  exact ⟨cell, g1, by rw [g3]; rfl, by rw [g2]; exact (C.hK.1 c q hc).2.1⟩
/-- the words of a call: of a method of the receiver's own class -/
def vW (own : String) (idx c : Nat) (y' : MethodName) (cc' : ByteArray) (mL' : Nat) (ret' : Option FieldType) (n : Nat) : Prop := (∃ q, cls[c]? = some q ∧ c < 12 ∧ q.1 = y'.cls) ∧ Cond.methodLink own idx y' ∈ BIG ∧ Cond.instanceMethod y' ∈ BIG ∧ Cond.selects y'.cls y' y' ∈ BIG ∧ Cond.initialized y'.cls ∈ BIG ∧ Cond.code y' cc' mL' ret' ∈ BIG ∧ (y'.cls ≠ "java/lang/invoke/MethodHandle" ∧ y'.cls ≠ "java/lang/invoke/VarHandle" ∧ (parseMethodDescriptor y'.desc).map (fun d => d.parameters.length) = some n)
abbrev rmOk (rm' rm : Room) (mL' cl sl : Nat) : Prop := rm'.frames + 1 ≤ rm.frames ∧ 8 + (mL' + 11) + rm'.locals ≤ rm.locals ∧ cl + rm'.cells ≤ rm.cells ∧ sl + rm'.slots ≤ rm.slots
section CALLS
variable {σ : Type} {f : Option σ} {φ : σ → Rs} {kk : σ → Option ρ} {idx c n mL' a : Nat} {y' x' : MethodName} {cc' : ByteArray} {ret' : Option FieldType} {rm' : Room} {As : List Value}
theorem wG_callV (C : Cx X y cc mL ret rm) (hw : vW y.cls idx c y' cc' mL' ret' n) (hM : ∀ u, f = some u → CT (xl X) (xE X) y' cc' mL' ret' rm' (.ref (xB X + a) :: As) N h r (φ u)) (hk : Kd a = c) (ha : a < N) (hR : rmOk rm' rm mL' cl sl) (hn : As.length = n) (hst : st = As.reverse ++ .ref (xB X + a) :: rest) (hcat : (rest.map fun v => v.category).sum ≤ 8) (hd : dcd cc pc (.invokevirtual idx) 3 pc') (hcl : cl + rm'.cells = cl') (hsl : sl + rm'.slots = sl')
    (g : ∀ u, wG X mL Z (kk u) (φ u).2.1 (φ u).2.2.1 (φ u).2.2.2 cl' sl' pc' L ((φ u).1.toList ++ rest)) : wG X mL Z (f.bind kk) N h r cl sl pc L st := by
  obtain ⟨⟨q, hq, hc12, hqy⟩, w1, w2, w3, w4, w5, w6⟩ := hw
  refine wG_run (a := (Value.ref (xB X + a) :: As).toArray) hcl hsl hd.2 (fun u hu H locs ls w S hl => ?_) g
  have hT : GoodIn BIG (wsV y.cls idx y'.cls y' (.code y' cc' mL' ret' :: BIG)) := by
    intro v hv
    unfold wsV at hv
    rcases List.mem_append.mp hv with hv | hv
    · simp only [List.mem_cons, List.not_mem_nil, or_false] at hv
      rcases hv with rfl | rfl | rfl | rfl
      · exact ⟨w1, BIG_good _ w1⟩
      · exact ⟨w2, BIG_good _ w2⟩
      · exact ⟨w3, BIG_good _ w3⟩
      · exact ⟨w4, BIG_good _ w4⟩
    · exact good_wsB w5 v hv
  refine va_runV (As := As) (rest := rest) (C := y'.cls) (cc := cc) (nL := mL) (Ts := BIG) (own := y.cls) ⟨C.1, C.2.1, C.2.2.1, C.2.2.2.1, C.hts⟩ (hM u hu) (cwV n C.hts hT rfl rfl rfl ⟨rfl, w6⟩ (by rw [C.hR]; exact ⟨hR.1, hR.2.1⟩)) ⟨Pw.blind, by rw [← hqy]; exact C.recv w hq hc12 hk ha, fun U hU hW => ⟨rfl, C.pre w S U hU hW⟩⟩ rfl hn hl.1 hst (lv_room hcat) hd.1 (by rw [C.hR]; exact hR.2.2)
/-- of an inherited or an abstract method: the reference names x', the receiver's class selects y' -/
def uW (own : String) (idx c : Nat) (owner : String) (x' y' : MethodName) (cc' : ByteArray) (mL' : Nat) (ret' : Option FieldType) (n : Nat) : Prop := ∃ q, cls[c]? = some q ∧ c < 12 ∧ Cond.methodLink own idx x' ∈ BIG ∧ Cond.sameMethod x'.cls owner x'.name x'.desc ∈ BIG ∧ Cond.selects q.1 x' y' ∈ BIG ∧ Cond.instanceMethod y' ∈ BIG ∧ Cond.initialized y'.cls ∈ BIG ∧ Cond.code y' cc' mL' ret' ∈ BIG ∧ (owner ≠ "java/lang/invoke/MethodHandle" ∧ owner ≠ "java/lang/invoke/VarHandle" ∧ (parseMethodDescriptor x'.desc).map (fun d => d.parameters.length) = some n) ∧ (y' = ⟨owner, x'.name, x'.desc⟩ ∨ (⟨owner, x'.name, x'.desc⟩ : MethodName) ∈ spD)
theorem wG_callU {owner : String} (C : Cx X y cc mL ret rm) (hw : uW y.cls idx c owner x' y' cc' mL' ret' n) (hM : ∀ u, f = some u → CT (xl X) (xE X) y' cc' mL' ret' rm' (.ref (xB X + a) :: As) N h r (φ u)) (hk : Kd a = c) (ha : a < N) (hR : rmOk rm' rm mL' cl sl) (hn : As.length = n) (hst : st = As.reverse ++ .ref (xB X + a) :: rest) (hcat : (rest.map fun v => v.category).sum ≤ 8) (hd : dcd cc pc (.invokevirtual idx) 3 pc') (hcl : cl + rm'.cells = cl') (hsl : sl + rm'.slots = sl')
    (g : ∀ u, wG X mL Z (kk u) (φ u).2.1 (φ u).2.2.1 (φ u).2.2.2 cl' sl' pc' L ((φ u).1.toList ++ rest)) : wG X mL Z (f.bind kk) N h r cl sl pc L st := by
  obtain ⟨q, hq, hc12, w1, w2, w3, w4, w5, w6, w7, w8⟩ := hw
  refine wG_run (a := (Value.ref (xB X + a) :: As).toArray) hcl hsl hd.2 (fun u hu H locs ls w S hl => ?_) g
  have hT : GoodIn BIG (va_wsU y.cls idx q.1 owner x' y' (.code y' cc' mL' ret' :: BIG)) := by
    intro v hv
    unfold va_wsU at hv
    rcases List.mem_append.mp hv with hv | hv
    · simp only [List.mem_cons, List.not_mem_nil, or_false] at hv
      rcases hv with rfl | rfl | rfl | rfl | rfl
      · exact ⟨w1, BIG_good _ w1⟩
      · exact ⟨w2, BIG_good _ w2⟩
      · exact ⟨w3, BIG_good _ w3⟩
      · exact ⟨w4, BIG_good _ w4⟩
      · exact ⟨w5, BIG_good _ w5⟩
    · exact good_wsB w6 v hv
  have cw : va_CU (xR X) (xs X) (xa X) y.cls q.1 owner idx x' y' cc' mL' ret' (.code y' cc' mL' ret' :: BIG) rm' rm'.cells rm'.slots n := by
    rcases w8 with w8 | w8
    · exact va_cwU n C.hts hT rfl rfl rfl w8 w7 (by rw [C.hR]; exact ⟨hR.1, hR.2.1⟩)
    · exact va_cwA n C.hts hT rfl rfl rfl (C.sp.2.2.1 _ w8) w7 (by rw [C.hR]; exact ⟨hR.1, hR.2.1⟩)
  exact va_runU (As := As) (rest := rest) (C := q.1) (cc := cc) (nL := mL) (Ts := BIG) (own := y.cls) ⟨C.1, C.2.1, C.2.2.1, C.2.2.2.1, C.hts⟩ (hM u hu) cw ⟨Pw.blind, C.recv w hq hc12 hk ha, fun U hU hW => ⟨rfl, C.pre w S U hU hW⟩⟩ rfl hn hl.1 hst (lv_room hcat) hd.1 (by rw [C.hR]; exact hR.2.2)
/-- of a static method of the class itself -/
def sW (own : String) (idx : Nat) (y' : MethodName) (cc' : ByteArray) (mL' : Nat) (ret' : Option FieldType) (n : Nat) : Prop := y'.cls = own ∧ Cond.methodLink own idx y' ∈ BIG ∧ Cond.static y' ∈ BIG ∧ Cond.initialized own ∈ BIG ∧ Cond.code y' cc' mL' ret' ∈ BIG ∧ (y'.cls ≠ "java/lang/invoke/MethodHandle" ∧ y'.cls ≠ "java/lang/invoke/VarHandle" ∧ (parseMethodDescriptor y'.desc).map (fun d => d.parameters.length) = some n)
theorem wG_callS (C : Cx X y cc mL ret rm) (hw : sW y.cls idx y' cc' mL' ret' n) (hM : ∀ u, f = some u → CT (xl X) (xE X) y' cc' mL' ret' rm' As N h r (φ u)) (hR : rmOk rm' rm mL' cl sl) (hn : As.length = n) (hst : st = As.reverse ++ rest) (hcat : (rest.map fun v => v.category).sum ≤ 8) (hd : dcd cc pc (.invokestatic idx) 3 pc') (hcl : cl + rm'.cells = cl') (hsl : sl + rm'.slots = sl')
    (g : ∀ u, wG X mL Z (kk u) (φ u).2.1 (φ u).2.2.1 (φ u).2.2.2 cl' sl' pc' L ((φ u).1.toList ++ rest)) : wG X mL Z (f.bind kk) N h r cl sl pc L st := by
  obtain ⟨w0, w1, w2, w4, w5, w6⟩ := hw
  refine wG_run (a := As.toArray) hcl hsl hd.2 (fun u hu H locs ls w S hl => ?_) g
  have hT : GoodIn BIG (wsS y.cls idx y' (.code y' cc' mL' ret' :: BIG)) := by
    intro v hv
    unfold wsS at hv
    rcases List.mem_append.mp hv with hv | hv
    · simp only [List.mem_cons, List.not_mem_nil, or_false] at hv
      rcases hv with rfl | rfl | rfl
      · exact ⟨w1, BIG_good _ w1⟩
      · exact ⟨w2, BIG_good _ w2⟩
      · exact ⟨w4, BIG_good _ w4⟩
    · exact good_wsB w5 v hv
  exact va_runS (As := As) (rest := rest) (cc := cc) (nL := mL) (Ts := BIG) (own := y.cls) ⟨C.1, C.2.1, C.2.2.1, C.2.2.2.1, C.hts⟩ (hM u hu) (cwS n C.hts hT rfl rfl rfl ⟨w0, w6⟩ (by rw [C.hR]; exact ⟨hR.1, hR.2.1⟩)) ⟨Pw.blind, fun U hU hW => ⟨rfl, C.pre w S U hU hW⟩⟩ rfl hn hl.1 hst (lv_room hcat) hd.1 (by rw [C.hR]; exact hR.2.2)
/-- of a nest mate's private static method -/
def nW (own : String) (idx : Nat) (y' : MethodName) (cc' : ByteArray) (mL' : Nat) (ret' : Option FieldType) (n : Nat) (w : Cond) : Prop := ∃ host, (own, idx, y', host) ∈ spM ∧ w ∈ BIG ∧ Cond.initialized y'.cls ∈ BIG ∧ Cond.code y' cc' mL' ret' ∈ BIG ∧ (y'.cls ≠ "java/lang/invoke/MethodHandle" ∧ y'.cls ≠ "java/lang/invoke/VarHandle" ∧ (parseMethodDescriptor y'.desc).map (fun d => d.parameters.length) = some n)
theorem wG_callSN (C : Cx X y cc mL ret rm) (hw : nW y.cls idx y' cc' mL' ret' n (.static y')) (hM : ∀ u, f = some u → CT (xl X) (xE X) y' cc' mL' ret' rm' As N h r (φ u)) (hR : rmOk rm' rm mL' cl sl) (hn : As.length = n) (hst : st = As.reverse ++ rest) (hcat : (rest.map fun v => v.category).sum ≤ 8) (hd : dcd cc pc (.invokestatic idx) 3 pc') (hcl : cl + rm'.cells = cl') (hsl : sl + rm'.slots = sl')
    (g : ∀ u, wG X mL Z (kk u) (φ u).2.1 (φ u).2.2.1 (φ u).2.2.2 cl' sl' pc' L ((φ u).1.toList ++ rest)) : wG X mL Z (f.bind kk) N h r cl sl pc L st := by
  obtain ⟨host, w1, w2, w4, w5, w6⟩ := hw
  refine wG_run (a := As.toArray) hcl hsl hd.2 (fun u hu H locs ls w S hl => ?_) g
  exact va_runSN (As := As) (rest := rest) (cc := cc) (nL := mL) (Ts := BIG) (own := y.cls) (host := host) ⟨C.1, C.2.1, C.2.2.1, C.2.2.2.1, C.hts⟩ (hM u hu) ⟨va_cnB n C.hts (good_wsB w5) rfl rfl rfl (C.sp.1 _ w1) (C.hts _ w4) w6 (by rw [C.hR]; exact ⟨hR.1, hR.2.1⟩), C.hts _ w2, trivial⟩ ⟨Pw.blind, fun U hU hW => ⟨rfl, C.pre w S U hU hW⟩⟩ rfl hn hl.1 hst (lv_room hcat) hd.1 (by rw [C.hR]; exact hR.2.2)
/-- of a nest mate's private constructor -/
theorem wG_callIN (C : Cx X y cc mL ret rm) (hw : nW y.cls idx y' cc' mL' none n (.instanceMethod y')) (hi : y'.name = "<init>") (hM : ∀ u, f = some u → CT (xl X) (xE X) y' cc' mL' none rm' (.ref (xB X + a) :: As) N h r (φ u)) (hR : rmOk rm' rm mL' cl sl) (hn : As.length = n) (hst : st = As.reverse ++ .ref (xB X + a) :: rest) (hcat : (rest.map fun v => v.category).sum ≤ 8) (hd : dcd cc pc (.invokespecial idx) 3 pc') (hcl : cl + rm'.cells = cl') (hsl : sl + rm'.slots = sl')
    (g : ∀ u, wG X mL Z (kk u) (φ u).2.1 (φ u).2.2.1 (φ u).2.2.2 cl' sl' pc' L ((φ u).1.toList ++ rest)) : wG X mL Z (f.bind kk) N h r cl sl pc L st := by
  obtain ⟨host, w1, w2, w4, w5, w6⟩ := hw
  refine wG_run (a := (Value.ref (xB X + a) :: As).toArray) hcl hsl hd.2 (fun u hu H locs ls w S hl => ?_) g
  exact va_runIN (As := As) (rest := rest) (cc := cc) (nL := mL) (Ts := BIG) (own := y.cls) (host := host) ⟨C.1, C.2.1, C.2.2.1, C.2.2.2.1, C.hts⟩ (hM u hu) ⟨va_cnB n C.hts (good_wsB w5) rfl rfl rfl (C.sp.1 _ w1) (C.hts _ w4) w6 (by rw [C.hR]; exact ⟨hR.1, hR.2.1⟩), hi, C.hts _ w2⟩ ⟨Pw.blind, fun U hU hW => ⟨rfl, C.pre w S U hU hW⟩⟩ rfl hn hl.1 hst (lv_room hcat) hd.1 (by rw [C.hR]; exact hR.2.2)
/-- of a constructor -/
def iW (own : String) (idx : Nat) (y' : MethodName) (cc' : ByteArray) (mL' : Nat) (n : Nat) : Prop := y'.name = "<init>" ∧ Cond.methodLink own idx y' ∈ BIG ∧ Cond.instanceMethod y' ∈ BIG ∧ Cond.initialized y'.cls ∈ BIG ∧ Cond.code y' cc' mL' none ∈ BIG ∧ (y'.cls ≠ "java/lang/invoke/MethodHandle" ∧ y'.cls ≠ "java/lang/invoke/VarHandle" ∧ (parseMethodDescriptor y'.desc).map (fun d => d.parameters.length) = some n)
theorem wG_callI (C : Cx X y cc mL ret rm) (hw : iW y.cls idx y' cc' mL' n) (hM : ∀ u, f = some u → CT (xl X) (xE X) y' cc' mL' none rm' (.ref (xB X + a) :: As) N h r (φ u)) (hR : rmOk rm' rm mL' cl sl) (hn : As.length = n) (hst : st = As.reverse ++ .ref (xB X + a) :: rest) (hcat : (rest.map fun v => v.category).sum ≤ 8) (hd : dcd cc pc (.invokespecial idx) 3 pc') (hcl : cl + rm'.cells = cl') (hsl : sl + rm'.slots = sl')
    (g : ∀ u, wG X mL Z (kk u) (φ u).2.1 (φ u).2.2.1 (φ u).2.2.2 cl' sl' pc' L ((φ u).1.toList ++ rest)) : wG X mL Z (f.bind kk) N h r cl sl pc L st := by
  obtain ⟨w0, w1, w2, w4, w5, w6⟩ := hw
  refine wG_run (a := (Value.ref (xB X + a) :: As).toArray) hcl hsl hd.2 (fun u hu H locs ls w S hl => ?_) g
  exact va_runI (As := As) (rest := rest) (cc := cc) (nL := mL) (Ts := BIG) (own := y.cls) ⟨C.1, C.2.1, C.2.2.1, C.2.2.2.1, C.hts⟩ (hM u hu) (cwI n C.hts (good_wsB w5) rfl rfl rfl (C.hts _ w4) (C.hts _ w1) (C.hts _ w2) w0 w6 (by rw [C.hR]; exact ⟨hR.1, hR.2.1⟩)) ⟨Pw.blind, fun U hU hW => ⟨rfl, C.pre w S U hU hW⟩⟩ rfl hn hl.1 hst (lv_room hcat) hd.1 (by rw [C.hR]; exact hR.2.2)
end CALLS
theorem wG_cV_ri {f : Option (Int32)} {kk : Int32 → Option ρ} {idx c n mL' a : Nat} {y' x' : MethodName} {cc' : ByteArray} {ret' : Option FieldType} {rm' : Room} {owner : String} (As rest : List Value) (C : Cx X y cc mL ret rm) (hw : vW y.cls idx c y' cc' mL' ret' n) (hM : ∀ u, f = some u → CT (xl X) (xE X) y' cc' mL' ret' rm' (.ref (xB X + a) :: As) N h r (some (.int u), N, h, r)) (hk : Kd a = c) (ha : a < N) (hR : rmOk rm' rm mL' cl sl) (hn : As.length = n) (hst : st = As.reverse ++ .ref (xB X + a) :: rest) (hcat : (rest.map fun v => v.category).sum ≤ 8) (hd : dcd cc pc (.invokevirtual idx) 3 pc') (hcl : cl + rm'.cells = cl') (hsl : sl + rm'.slots = sl')
    (g : ∀ u, wG X mL Z (kk u) N h r cl' sl' pc' L (.int u :: rest)) : wG X mL Z (f.bind kk) N h r cl sl pc L st := wG_callV (φ := fun u => (some (.int u), N, h, r)) C hw hM hk ha hR hn hst hcat hd hcl hsl g
theorem wG_cV_rl {f : Option (Int64)} {kk : Int64 → Option ρ} {idx c n mL' a : Nat} {y' x' : MethodName} {cc' : ByteArray} {ret' : Option FieldType} {rm' : Room} {owner : String} (As rest : List Value) (C : Cx X y cc mL ret rm) (hw : vW y.cls idx c y' cc' mL' ret' n) (hM : ∀ u, f = some u → CT (xl X) (xE X) y' cc' mL' ret' rm' (.ref (xB X + a) :: As) N h r (some (.long u), N, h, r)) (hk : Kd a = c) (ha : a < N) (hR : rmOk rm' rm mL' cl sl) (hn : As.length = n) (hst : st = As.reverse ++ .ref (xB X + a) :: rest) (hcat : (rest.map fun v => v.category).sum ≤ 8) (hd : dcd cc pc (.invokevirtual idx) 3 pc') (hcl : cl + rm'.cells = cl') (hsl : sl + rm'.slots = sl')
    (g : ∀ u, wG X mL Z (kk u) N h r cl' sl' pc' L (.long u :: rest)) : wG X mL Z (f.bind kk) N h r cl sl pc L st := wG_callV (φ := fun u => (some (.long u), N, h, r)) C hw hM hk ha hR hn hst hcat hd hcl hsl g
theorem wG_cV_rv {f : Option (Unit)} {kk : Unit → Option ρ} {idx c n mL' a : Nat} {y' x' : MethodName} {cc' : ByteArray} {ret' : Option FieldType} {rm' : Room} {owner : String} (As rest : List Value) (C : Cx X y cc mL ret rm) (hw : vW y.cls idx c y' cc' mL' ret' n) (hM : ∀ u, f = some u → CT (xl X) (xE X) y' cc' mL' ret' rm' (.ref (xB X + a) :: As) N h r (none, N, h, r)) (hk : Kd a = c) (ha : a < N) (hR : rmOk rm' rm mL' cl sl) (hn : As.length = n) (hst : st = As.reverse ++ .ref (xB X + a) :: rest) (hcat : (rest.map fun v => v.category).sum ≤ 8) (hd : dcd cc pc (.invokevirtual idx) 3 pc') (hcl : cl + rm'.cells = cl') (hsl : sl + rm'.slots = sl')
    (g : ∀ u, wG X mL Z (kk u) N h r cl' sl' pc' L (rest)) : wG X mL Z (f.bind kk) N h r cl sl pc L st := wG_callV (φ := fun u => (none, N, h, r)) C hw hM hk ha hR hn hst hcat hd hcl hsl g
theorem wG_cV_wi {f : Option (Int32 × Hp)} {kk : (Int32 × Hp) → Option ρ} {idx c n mL' a : Nat} {y' x' : MethodName} {cc' : ByteArray} {ret' : Option FieldType} {rm' : Room} {owner : String} (As rest : List Value) (C : Cx X y cc mL ret rm) (hw : vW y.cls idx c y' cc' mL' ret' n) (hM : ∀ u, f = some u → CT (xl X) (xE X) y' cc' mL' ret' rm' (.ref (xB X + a) :: As) N h r (some (.int u.1), N, u.2, r)) (hk : Kd a = c) (ha : a < N) (hR : rmOk rm' rm mL' cl sl) (hn : As.length = n) (hst : st = As.reverse ++ .ref (xB X + a) :: rest) (hcat : (rest.map fun v => v.category).sum ≤ 8) (hd : dcd cc pc (.invokevirtual idx) 3 pc') (hcl : cl + rm'.cells = cl') (hsl : sl + rm'.slots = sl')
    (g : ∀ u, wG X mL Z (kk u) N u.2 r cl' sl' pc' L (.int u.1 :: rest)) : wG X mL Z (f.bind kk) N h r cl sl pc L st := wG_callV (φ := fun u => (some (.int u.1), N, u.2, r)) C hw hM hk ha hR hn hst hcat hd hcl hsl g
theorem wG_cV_wv {f : Option (Hp)} {kk : Hp → Option ρ} {idx c n mL' a : Nat} {y' x' : MethodName} {cc' : ByteArray} {ret' : Option FieldType} {rm' : Room} {owner : String} (As rest : List Value) (C : Cx X y cc mL ret rm) (hw : vW y.cls idx c y' cc' mL' ret' n) (hM : ∀ u, f = some u → CT (xl X) (xE X) y' cc' mL' ret' rm' (.ref (xB X + a) :: As) N h r (none, N, u, r)) (hk : Kd a = c) (ha : a < N) (hR : rmOk rm' rm mL' cl sl) (hn : As.length = n) (hst : st = As.reverse ++ .ref (xB X + a) :: rest) (hcat : (rest.map fun v => v.category).sum ≤ 8) (hd : dcd cc pc (.invokevirtual idx) 3 pc') (hcl : cl + rm'.cells = cl') (hsl : sl + rm'.slots = sl')
    (g : ∀ u, wG X mL Z (kk u) N u r cl' sl' pc' L (rest)) : wG X mL Z (f.bind kk) N h r cl sl pc L st := wG_callV (φ := fun u => (none, N, u, r)) C hw hM hk ha hR hn hst hcat hd hcl hsl g
theorem wG_cV_fi {f : Option (Int32 × Nat × Hp × Rp)} {kk : (Int32 × Nat × Hp × Rp) → Option ρ} {idx c n mL' a : Nat} {y' x' : MethodName} {cc' : ByteArray} {ret' : Option FieldType} {rm' : Room} {owner : String} (As rest : List Value) (C : Cx X y cc mL ret rm) (hw : vW y.cls idx c y' cc' mL' ret' n) (hM : ∀ u, f = some u → CT (xl X) (xE X) y' cc' mL' ret' rm' (.ref (xB X + a) :: As) N h r (some (.int u.1), u.2.1, u.2.2.1, u.2.2.2)) (hk : Kd a = c) (ha : a < N) (hR : rmOk rm' rm mL' cl sl) (hn : As.length = n) (hst : st = As.reverse ++ .ref (xB X + a) :: rest) (hcat : (rest.map fun v => v.category).sum ≤ 8) (hd : dcd cc pc (.invokevirtual idx) 3 pc') (hcl : cl + rm'.cells = cl') (hsl : sl + rm'.slots = sl')
    (g : ∀ u, wG X mL Z (kk u) u.2.1 u.2.2.1 u.2.2.2 cl' sl' pc' L (.int u.1 :: rest)) : wG X mL Z (f.bind kk) N h r cl sl pc L st := wG_callV (φ := fun u => (some (.int u.1), u.2.1, u.2.2.1, u.2.2.2)) C hw hM hk ha hR hn hst hcat hd hcl hsl g
theorem wG_cV_fv {f : Option (Nat × Hp × Rp)} {kk : (Nat × Hp × Rp) → Option ρ} {idx c n mL' a : Nat} {y' x' : MethodName} {cc' : ByteArray} {ret' : Option FieldType} {rm' : Room} {owner : String} (As rest : List Value) (C : Cx X y cc mL ret rm) (hw : vW y.cls idx c y' cc' mL' ret' n) (hM : ∀ u, f = some u → CT (xl X) (xE X) y' cc' mL' ret' rm' (.ref (xB X + a) :: As) N h r (none, u.1, u.2.1, u.2.2)) (hk : Kd a = c) (ha : a < N) (hR : rmOk rm' rm mL' cl sl) (hn : As.length = n) (hst : st = As.reverse ++ .ref (xB X + a) :: rest) (hcat : (rest.map fun v => v.category).sum ≤ 8) (hd : dcd cc pc (.invokevirtual idx) 3 pc') (hcl : cl + rm'.cells = cl') (hsl : sl + rm'.slots = sl')
    (g : ∀ u, wG X mL Z (kk u) u.1 u.2.1 u.2.2 cl' sl' pc' L (rest)) : wG X mL Z (f.bind kk) N h r cl sl pc L st := wG_callV (φ := fun u => (none, u.1, u.2.1, u.2.2)) C hw hM hk ha hR hn hst hcat hd hcl hsl g
theorem wG_cU_ri {f : Option (Int32)} {kk : Int32 → Option ρ} {idx c n mL' a : Nat} {y' x' : MethodName} {cc' : ByteArray} {ret' : Option FieldType} {rm' : Room} {owner : String} (As rest : List Value) (C : Cx X y cc mL ret rm) (hw : uW y.cls idx c owner x' y' cc' mL' ret' n) (hM : ∀ u, f = some u → CT (xl X) (xE X) y' cc' mL' ret' rm' (.ref (xB X + a) :: As) N h r (some (.int u), N, h, r)) (hk : Kd a = c) (ha : a < N) (hR : rmOk rm' rm mL' cl sl) (hn : As.length = n) (hst : st = As.reverse ++ .ref (xB X + a) :: rest) (hcat : (rest.map fun v => v.category).sum ≤ 8) (hd : dcd cc pc (.invokevirtual idx) 3 pc') (hcl : cl + rm'.cells = cl') (hsl : sl + rm'.slots = sl')
    (g : ∀ u, wG X mL Z (kk u) N h r cl' sl' pc' L (.int u :: rest)) : wG X mL Z (f.bind kk) N h r cl sl pc L st := wG_callU (φ := fun u => (some (.int u), N, h, r)) C hw hM hk ha hR hn hst hcat hd hcl hsl g
theorem wG_cU_wi {f : Option (Int32 × Hp)} {kk : (Int32 × Hp) → Option ρ} {idx c n mL' a : Nat} {y' x' : MethodName} {cc' : ByteArray} {ret' : Option FieldType} {rm' : Room} {owner : String} (As rest : List Value) (C : Cx X y cc mL ret rm) (hw : uW y.cls idx c owner x' y' cc' mL' ret' n) (hM : ∀ u, f = some u → CT (xl X) (xE X) y' cc' mL' ret' rm' (.ref (xB X + a) :: As) N h r (some (.int u.1), N, u.2, r)) (hk : Kd a = c) (ha : a < N) (hR : rmOk rm' rm mL' cl sl) (hn : As.length = n) (hst : st = As.reverse ++ .ref (xB X + a) :: rest) (hcat : (rest.map fun v => v.category).sum ≤ 8) (hd : dcd cc pc (.invokevirtual idx) 3 pc') (hcl : cl + rm'.cells = cl') (hsl : sl + rm'.slots = sl')
    (g : ∀ u, wG X mL Z (kk u) N u.2 r cl' sl' pc' L (.int u.1 :: rest)) : wG X mL Z (f.bind kk) N h r cl sl pc L st := wG_callU (φ := fun u => (some (.int u.1), N, u.2, r)) C hw hM hk ha hR hn hst hcat hd hcl hsl g
theorem wG_cU_wv {f : Option (Hp)} {kk : Hp → Option ρ} {idx c n mL' a : Nat} {y' x' : MethodName} {cc' : ByteArray} {ret' : Option FieldType} {rm' : Room} {owner : String} (As rest : List Value) (C : Cx X y cc mL ret rm) (hw : uW y.cls idx c owner x' y' cc' mL' ret' n) (hM : ∀ u, f = some u → CT (xl X) (xE X) y' cc' mL' ret' rm' (.ref (xB X + a) :: As) N h r (none, N, u, r)) (hk : Kd a = c) (ha : a < N) (hR : rmOk rm' rm mL' cl sl) (hn : As.length = n) (hst : st = As.reverse ++ .ref (xB X + a) :: rest) (hcat : (rest.map fun v => v.category).sum ≤ 8) (hd : dcd cc pc (.invokevirtual idx) 3 pc') (hcl : cl + rm'.cells = cl') (hsl : sl + rm'.slots = sl')
    (g : ∀ u, wG X mL Z (kk u) N u r cl' sl' pc' L (rest)) : wG X mL Z (f.bind kk) N h r cl sl pc L st := wG_callU (φ := fun u => (none, N, u, r)) C hw hM hk ha hR hn hst hcat hd hcl hsl g
theorem wG_cU_rv {f : Option (Unit)} {kk : Unit → Option ρ} {idx c n mL' a : Nat} {y' x' : MethodName} {cc' : ByteArray} {ret' : Option FieldType} {rm' : Room} {owner : String} (As rest : List Value) (C : Cx X y cc mL ret rm) (hw : uW y.cls idx c owner x' y' cc' mL' ret' n) (hM : ∀ u, f = some u → CT (xl X) (xE X) y' cc' mL' ret' rm' (.ref (xB X + a) :: As) N h r (none, N, h, r)) (hk : Kd a = c) (ha : a < N) (hR : rmOk rm' rm mL' cl sl) (hn : As.length = n) (hst : st = As.reverse ++ .ref (xB X + a) :: rest) (hcat : (rest.map fun v => v.category).sum ≤ 8) (hd : dcd cc pc (.invokevirtual idx) 3 pc') (hcl : cl + rm'.cells = cl') (hsl : sl + rm'.slots = sl')
    (g : ∀ u, wG X mL Z (kk u) N h r cl' sl' pc' L (rest)) : wG X mL Z (f.bind kk) N h r cl sl pc L st := wG_callU (φ := fun u => (none, N, h, r)) C hw hM hk ha hR hn hst hcat hd hcl hsl g
theorem wG_cS_ri {f : Option (Int32)} {kk : Int32 → Option ρ} {idx c n mL' a : Nat} {y' x' : MethodName} {cc' : ByteArray} {ret' : Option FieldType} {rm' : Room} {owner : String} (As rest : List Value) (C : Cx X y cc mL ret rm) (hw : sW y.cls idx y' cc' mL' ret' n) (hM : ∀ u, f = some u → CT (xl X) (xE X) y' cc' mL' ret' rm' As N h r (some (.int u), N, h, r)) (hR : rmOk rm' rm mL' cl sl) (hn : As.length = n) (hst : st = As.reverse ++ rest) (hcat : (rest.map fun v => v.category).sum ≤ 8) (hd : dcd cc pc (.invokestatic idx) 3 pc') (hcl : cl + rm'.cells = cl') (hsl : sl + rm'.slots = sl')
    (g : ∀ u, wG X mL Z (kk u) N h r cl' sl' pc' L (.int u :: rest)) : wG X mL Z (f.bind kk) N h r cl sl pc L st := wG_callS (φ := fun u => (some (.int u), N, h, r)) C hw hM hR hn hst hcat hd hcl hsl g
theorem wG_cS_rl {f : Option (Int64)} {kk : Int64 → Option ρ} {idx c n mL' a : Nat} {y' x' : MethodName} {cc' : ByteArray} {ret' : Option FieldType} {rm' : Room} {owner : String} (As rest : List Value) (C : Cx X y cc mL ret rm) (hw : sW y.cls idx y' cc' mL' ret' n) (hM : ∀ u, f = some u → CT (xl X) (xE X) y' cc' mL' ret' rm' As N h r (some (.long u), N, h, r)) (hR : rmOk rm' rm mL' cl sl) (hn : As.length = n) (hst : st = As.reverse ++ rest) (hcat : (rest.map fun v => v.category).sum ≤ 8) (hd : dcd cc pc (.invokestatic idx) 3 pc') (hcl : cl + rm'.cells = cl') (hsl : sl + rm'.slots = sl')
    (g : ∀ u, wG X mL Z (kk u) N h r cl' sl' pc' L (.long u :: rest)) : wG X mL Z (f.bind kk) N h r cl sl pc L st := wG_callS (φ := fun u => (some (.long u), N, h, r)) C hw hM hR hn hst hcat hd hcl hsl g
theorem wG_cS_wv {f : Option (Hp)} {kk : Hp → Option ρ} {idx c n mL' a : Nat} {y' x' : MethodName} {cc' : ByteArray} {ret' : Option FieldType} {rm' : Room} {owner : String} (As rest : List Value) (C : Cx X y cc mL ret rm) (hw : sW y.cls idx y' cc' mL' ret' n) (hM : ∀ u, f = some u → CT (xl X) (xE X) y' cc' mL' ret' rm' As N h r (none, N, u, r)) (hR : rmOk rm' rm mL' cl sl) (hn : As.length = n) (hst : st = As.reverse ++ rest) (hcat : (rest.map fun v => v.category).sum ≤ 8) (hd : dcd cc pc (.invokestatic idx) 3 pc') (hcl : cl + rm'.cells = cl') (hsl : sl + rm'.slots = sl')
    (g : ∀ u, wG X mL Z (kk u) N u r cl' sl' pc' L (rest)) : wG X mL Z (f.bind kk) N h r cl sl pc L st := wG_callS (φ := fun u => (none, N, u, r)) C hw hM hR hn hst hcat hd hcl hsl g
theorem wG_cSN_ri {f : Option (Int32)} {kk : Int32 → Option ρ} {idx c n mL' a : Nat} {y' x' : MethodName} {cc' : ByteArray} {ret' : Option FieldType} {rm' : Room} {owner : String} (As rest : List Value) (C : Cx X y cc mL ret rm) (hw : nW y.cls idx y' cc' mL' ret' n (.static y')) (hM : ∀ u, f = some u → CT (xl X) (xE X) y' cc' mL' ret' rm' As N h r (some (.int u), N, h, r)) (hR : rmOk rm' rm mL' cl sl) (hn : As.length = n) (hst : st = As.reverse ++ rest) (hcat : (rest.map fun v => v.category).sum ≤ 8) (hd : dcd cc pc (.invokestatic idx) 3 pc') (hcl : cl + rm'.cells = cl') (hsl : sl + rm'.slots = sl')
    (g : ∀ u, wG X mL Z (kk u) N h r cl' sl' pc' L (.int u :: rest)) : wG X mL Z (f.bind kk) N h r cl sl pc L st := wG_callSN (φ := fun u => (some (.int u), N, h, r)) C hw hM hR hn hst hcat hd hcl hsl g
theorem wG_cI_rv {f : Option (Unit)} {kk : Unit → Option ρ} {idx c n mL' a : Nat} {y' x' : MethodName} {cc' : ByteArray} {ret' : Option FieldType} {rm' : Room} {owner : String} (As rest : List Value) (C : Cx X y cc mL ret rm) (hw : iW y.cls idx y' cc' mL' n) (hM : ∀ u, f = some u → CT (xl X) (xE X) y' cc' mL' none rm' (.ref (xB X + a) :: As) N h r (none, N, h, r)) (hR : rmOk rm' rm mL' cl sl) (hn : As.length = n) (hst : st = As.reverse ++ .ref (xB X + a) :: rest) (hcat : (rest.map fun v => v.category).sum ≤ 8) (hd : dcd cc pc (.invokespecial idx) 3 pc') (hcl : cl + rm'.cells = cl') (hsl : sl + rm'.slots = sl')
    (g : ∀ u, wG X mL Z (kk u) N h r cl' sl' pc' L (rest)) : wG X mL Z (f.bind kk) N h r cl sl pc L st := wG_callI (φ := fun u => (none, N, h, r)) C hw hM hR hn hst hcat hd hcl hsl g
theorem wG_cI_wv {f : Option (Hp)} {kk : Hp → Option ρ} {idx c n mL' a : Nat} {y' x' : MethodName} {cc' : ByteArray} {ret' : Option FieldType} {rm' : Room} {owner : String} (As rest : List Value) (C : Cx X y cc mL ret rm) (hw : iW y.cls idx y' cc' mL' n) (hM : ∀ u, f = some u → CT (xl X) (xE X) y' cc' mL' none rm' (.ref (xB X + a) :: As) N h r (none, N, u, r)) (hR : rmOk rm' rm mL' cl sl) (hn : As.length = n) (hst : st = As.reverse ++ .ref (xB X + a) :: rest) (hcat : (rest.map fun v => v.category).sum ≤ 8) (hd : dcd cc pc (.invokespecial idx) 3 pc') (hcl : cl + rm'.cells = cl') (hsl : sl + rm'.slots = sl')
    (g : ∀ u, wG X mL Z (kk u) N u r cl' sl' pc' L (rest)) : wG X mL Z (f.bind kk) N h r cl sl pc L st := wG_callI (φ := fun u => (none, N, u, r)) C hw hM hR hn hst hcat hd hcl hsl g
theorem wG_cI_fv {f : Option (Nat × Hp × Rp)} {kk : (Nat × Hp × Rp) → Option ρ} {idx c n mL' a : Nat} {y' x' : MethodName} {cc' : ByteArray} {ret' : Option FieldType} {rm' : Room} {owner : String} (As rest : List Value) (C : Cx X y cc mL ret rm) (hw : iW y.cls idx y' cc' mL' n) (hM : ∀ u, f = some u → CT (xl X) (xE X) y' cc' mL' none rm' (.ref (xB X + a) :: As) N h r (none, u.1, u.2.1, u.2.2)) (hR : rmOk rm' rm mL' cl sl) (hn : As.length = n) (hst : st = As.reverse ++ .ref (xB X + a) :: rest) (hcat : (rest.map fun v => v.category).sum ≤ 8) (hd : dcd cc pc (.invokespecial idx) 3 pc') (hcl : cl + rm'.cells = cl') (hsl : sl + rm'.slots = sl')
    (g : ∀ u, wG X mL Z (kk u) u.1 u.2.1 u.2.2 cl' sl' pc' L (rest)) : wG X mL Z (f.bind kk) N h r cl sl pc L st := wG_callI (φ := fun u => (none, u.1, u.2.1, u.2.2)) C hw hM hR hn hst hcat hd hcl hsl g
theorem wG_cIN_rv {f : Option (Unit)} {kk : Unit → Option ρ} {idx c n mL' a : Nat} {y' x' : MethodName} {cc' : ByteArray} {ret' : Option FieldType} {rm' : Room} {owner : String} (As rest : List Value) (C : Cx X y cc mL ret rm) (hw : nW y.cls idx y' cc' mL' none n (.instanceMethod y')) (hi : y'.name = "<init>") (hM : ∀ u, f = some u → CT (xl X) (xE X) y' cc' mL' none rm' (.ref (xB X + a) :: As) N h r (none, N, h, r)) (hR : rmOk rm' rm mL' cl sl) (hn : As.length = n) (hst : st = As.reverse ++ .ref (xB X + a) :: rest) (hcat : (rest.map fun v => v.category).sum ≤ 8) (hd : dcd cc pc (.invokespecial idx) 3 pc') (hcl : cl + rm'.cells = cl') (hsl : sl + rm'.slots = sl')
    (g : ∀ u, wG X mL Z (kk u) N h r cl' sl' pc' L (rest)) : wG X mL Z (f.bind kk) N h r cl sl pc L st := wG_callIN (φ := fun u => (none, N, h, r)) C hw hi hM hR hn hst hcat hd hcl hsl g
theorem wG_cIN_wv {f : Option (Hp)} {kk : Hp → Option ρ} {idx c n mL' a : Nat} {y' x' : MethodName} {cc' : ByteArray} {ret' : Option FieldType} {rm' : Room} {owner : String} (As rest : List Value) (C : Cx X y cc mL ret rm) (hw : nW y.cls idx y' cc' mL' none n (.instanceMethod y')) (hi : y'.name = "<init>") (hM : ∀ u, f = some u → CT (xl X) (xE X) y' cc' mL' none rm' (.ref (xB X + a) :: As) N h r (none, N, u, r)) (hR : rmOk rm' rm mL' cl sl) (hn : As.length = n) (hst : st = As.reverse ++ .ref (xB X + a) :: rest) (hcat : (rest.map fun v => v.category).sum ≤ 8) (hd : dcd cc pc (.invokespecial idx) 3 pc') (hcl : cl + rm'.cells = cl') (hsl : sl + rm'.slots = sl')
    (g : ∀ u, wG X mL Z (kk u) N u r cl' sl' pc' L (rest)) : wG X mL Z (f.bind kk) N h r cl sl pc L st := wG_callIN (φ := fun u => (none, N, u, r)) C hw hi hM hR hn hst hcat hd hcl hsl g
theorem wG_cIN_fv {f : Option (Nat × Hp × Rp)} {kk : (Nat × Hp × Rp) → Option ρ} {idx c n mL' a : Nat} {y' x' : MethodName} {cc' : ByteArray} {ret' : Option FieldType} {rm' : Room} {owner : String} (As rest : List Value) (C : Cx X y cc mL ret rm) (hw : nW y.cls idx y' cc' mL' none n (.instanceMethod y')) (hi : y'.name = "<init>") (hM : ∀ u, f = some u → CT (xl X) (xE X) y' cc' mL' none rm' (.ref (xB X + a) :: As) N h r (none, u.1, u.2.1, u.2.2)) (hR : rmOk rm' rm mL' cl sl) (hn : As.length = n) (hst : st = As.reverse ++ .ref (xB X + a) :: rest) (hcat : (rest.map fun v => v.category).sum ≤ 8) (hd : dcd cc pc (.invokespecial idx) 3 pc') (hcl : cl + rm'.cells = cl') (hsl : sl + rm'.slots = sl')
    (g : ∀ u, wG X mL Z (kk u) u.1 u.2.1 u.2.2 cl' sl' pc' L (rest)) : wG X mL Z (f.bind kk) N h r cl sl pc L st := wG_callIN (φ := fun u => (none, u.1, u.2.1, u.2.2)) C hw hi hM hR hn hst hcat hd hcl hsl g
-- Object()
theorem wG_obj (C : Cx X y cc mL ret rm) {idx a : Nat} (hw : Cond.methodLink y.cls idx Lib.objectInit ∈ BIG ∧ Cond.instanceMethod Lib.objectInit ∈ BIG ∧ Cond.code Lib.objectInit ⟨#[0xb1]⟩ 1 none ∈ BIG) (hR : 1 ≤ rm.frames ∧ (st.map fun v => v.category).sum + 12 ≤ rm.locals) (hd : dcd cc pc (.invokespecial idx) 3 pc') (g : wG X mL Z k N h r cl sl pc' L st) : wG X mL Z k N h r cl sl pc L (.ref a :: st) := by
  obtain ⟨hd, rfl⟩ := hd
  intro z hz Q hQ H locs ls w S hl
  exact W.objInit C.1 C.2.1 C.2.2.2.1 (C.hts _ hw.1) (C.hts _ hw.2.1) (C.hts _ hw.2.2) rfl (by rw [C.2.2.1]; exact hl.1) rfl hd (by rw [C.hR]; exact hR.1) (by rw [C.hR]; show 2 * 0 + _ + 12 ≤ _; omega) (g z hz Q hQ H locs ls w S hl)
-- statics
theorem wG_gsN (C : Cx X y cc mL ret rm) {idx : Nat} {n host : String} {t : Nat} (hw : (y.cls, idx, "WheelAndWire", n, "[I", host) ∈ spF) (hZ : va_Z "WheelAndWire" n "[I" (.ref t) (fun q => xB X ≤ q) (xs X) (xs X).heap) (hd : dcd cc pc (.getstatic idx) 3 pc') (g : wG X mL Z k N h r cl sl pc' L (.ref t :: st)) : wG X mL Z k N h r cl sl pc L st := by
  obtain ⟨hd, rfl⟩ := hd
  intro z hz Q hQ H locs ls w S hl
  exact va_getsN C.1 C.2.1 hZ S C.2.2.2.1 (va_Nw.use rfl (C.sp.2.1 _ hw)) (fun _ q => q) hd (g z hz Q hQ H locs ls w S hl)
theorem wG_gs (C : Cx X y cc mL ret rm) {idx : Nat} {n : String} {t : Nat} (hw : Cond.fieldLink y.cls idx "WheelAndWire" n "[I" ∈ BIG) (hZ : va_Z "WheelAndWire" n "[I" (.ref t) (fun q => xB X ≤ q) (xs X) (xs X).heap) (hd : dcd cc pc (.getstatic idx) 3 pc') (g : wG X mL Z k N h r cl sl pc' L (.ref t :: st)) : wG X mL Z k N h r cl sl pc L st := by
  obtain ⟨hd, rfl⟩ := hd
  intro z hz Q hQ H locs ls w S hl
  exact va_gets C.1 C.2.1 hZ S C.2.2.2.1 (C.hts _ hw) (fun _ q => q) hd (g z hz Q hQ H locs ls w S hl)
theorem wG_iaS (C : Cx X y cc mL ret rm) {t : Nat} {f : Nat → Int32} {i : Int32} (hT : va_T .int t 3 (fun j => .int (f j)) (fun q => xB X ≤ q) (xs X) (xs X).heap) (hd : dcd cc pc .iaload 1 pc') (g : wG X mL Z k N h r cl sl pc' L (.int (f (ix i)) :: st)) : wG X mL Z (if inB i 3 then k else none) N h r cl sl pc L (.int i :: .ref t :: st) := by
  obtain ⟨hd, rfl⟩ := hd
  intro z hz Q hQ H locs ls w S hl
  by_cases hin : inB i 3
  · rw [if_pos hin] at hz
    exact va_ti C.1 C.2.1 hT S hin.vp rfl hd (g z hz Q hQ H locs ls w S hl)
  · rw [if_neg hin] at hz; cases hz
theorem wG_alS (C : Cx X y cc mL ret rm) {t : Nat} {f : Nat → Int32} (hT : va_T .int t 3 (fun j => .int (f j)) (fun q => xB X ≤ q) (xs X) (xs X).heap) (hd : dcd cc pc .arraylength 1 pc') (g : wG X mL Z k N h r cl sl pc' L (.int 3 :: st)) : wG X mL Z k N h r cl sl pc L (.ref t :: st) := by
  obtain ⟨hd, rfl⟩ := hd
  intro z hz Q hQ H locs ls w S hl
  exact va_tlen C.1 C.2.1 hT S (v := 3) rfl hd (g z hz Q hQ H locs ls w S hl)
theorem wG_mmax (C : Cx X y cc mL ret rm) {idx : Nat} {x y1 : Int32} (hw : Cond.methodLink y.cls idx Lib.Math.max.name ∈ BIG ∧ Cond.static Lib.Math.max.name ∈ BIG ∧ Cond.initialized "java/lang/Math" ∈ BIG ∧ Cond.code Lib.Math.max.name Lib.Math.max.code 2 (some .int) ∈ BIG) (hR : 1 ≤ rm.frames ∧ (st.map fun v => v.category).sum + 13 ≤ rm.locals ∧ cl ≤ rm.cells ∧ sl ≤ rm.slots) (hd : dcd cc pc (.invokestatic idx) 3 pc') (g : wG X mL Z k N h r cl sl pc' L (.int (if x < y1 then y1 else x) :: st)) : wG X mL Z k N h r cl sl pc L (.int y1 :: .int x :: st) := by
  obtain ⟨hd, rfl⟩ := hd
  intro z hz Q hQ H locs ls w S hl
  exact va_mmax C.1 C.2.1 (C.2.2.1.trans hl.1.symm) C.2.2.2.1 (C.hts _ hw.1) (C.hts _ hw.2.1) (C.hts _ hw.2.2.1) (C.hts _ hw.2.2.2) (by rw [C.hR]; exact hR.1) (by rw [C.hR]; exact hR.2.1) (by rw [C.hR]; exact hR.2.2.1) (by rw [C.hR]; exact hR.2.2.2) hd (g z hz Q hQ H locs ls w S hl)
theorem wG_mmin (C : Cx X y cc mL ret rm) {idx : Nat} {x y1 : Int32} (hw : Cond.methodLink y.cls idx Lib.Math.min.name ∈ BIG ∧ Cond.static Lib.Math.min.name ∈ BIG ∧ Cond.initialized "java/lang/Math" ∈ BIG ∧ Cond.code Lib.Math.min.name Lib.Math.min.code 2 (some .int) ∈ BIG) (hR : 1 ≤ rm.frames ∧ (st.map fun v => v.category).sum + 13 ≤ rm.locals ∧ cl ≤ rm.cells ∧ sl ≤ rm.slots) (hd : dcd cc pc (.invokestatic idx) 3 pc') (g : wG X mL Z k N h r cl sl pc' L (.int (if y1 < x then y1 else x) :: st)) : wG X mL Z k N h r cl sl pc L (.int y1 :: .int x :: st) := by
  obtain ⟨hd, rfl⟩ := hd
  intro z hz Q hQ H locs ls w S hl
  exact va_mmin C.1 C.2.1 (C.2.2.1.trans hl.1.symm) C.2.2.2.1 (C.hts _ hw.1) (C.hts _ hw.2.1) (C.hts _ hw.2.2.1) (C.hts _ hw.2.2.2) (by rw [C.hR]; exact hR.1) (by rw [C.hR]; exact hR.2.1) (by rw [C.hR]; exact hR.2.2.1) (by rw [C.hR]; exact hR.2.2.2) hd (g z hz Q hQ H locs ls w S hl)
theorem wG_mmax_long (C : Cx X y cc mL ret rm) {idx : Nat} {x y1 : Int64} (hw : Cond.methodLink y.cls idx Lib.MathLoose.max_long.x ∈ BIG ∧ Cond.static Lib.MathLoose.max_long.x ∈ BIG ∧ Cond.initialized "java/lang/Math" ∈ BIG ∧ Cond.code Lib.MathLoose.max_long.x Lib.MathLoose.max_long.code 4 (some .long) ∈ BIG) (hR : 1 ≤ rm.frames ∧ (st.map fun v => v.category).sum + 15 ≤ rm.locals ∧ cl ≤ rm.cells ∧ sl ≤ rm.slots) (hd : dcd cc pc (.invokestatic idx) 3 pc') (g : wG X mL Z k N h r cl sl pc' L (.long (if y1 < x then x else y1) :: st)) : wG X mL Z k N h r cl sl pc L (.long y1 :: .long x :: st) := by
  obtain ⟨hd, rfl⟩ := hd
  intro z hz Q hQ H locs ls w S hl
  exact va_mmax_long C.1 C.2.1 (C.2.2.1.trans hl.1.symm) C.2.2.2.1 (C.hts _ hw.1) (C.hts _ hw.2.1) (C.hts _ hw.2.2.1) (C.hts _ hw.2.2.2) (by rw [C.hR]; exact hR.1) (by rw [C.hR]; exact hR.2.1) (by rw [C.hR]; exact hR.2.2.1) (by rw [C.hR]; exact hR.2.2.2) hd (g z hz Q hQ H locs ls w S hl)
theorem wG_mabs_long (C : Cx X y cc mL ret rm) {idx : Nat} {x : Int64} (hw : Cond.methodLink y.cls idx Lib.MathLoose.abs_long.x ∈ BIG ∧ Cond.static Lib.MathLoose.abs_long.x ∈ BIG ∧ Cond.initialized "java/lang/Math" ∈ BIG ∧ Cond.code Lib.MathLoose.abs_long.x Lib.MathLoose.abs_long.code 2 (some .long) ∈ BIG) (hR : 1 ≤ rm.frames ∧ (st.map fun v => v.category).sum + 13 ≤ rm.locals ∧ cl ≤ rm.cells ∧ sl ≤ rm.slots) (hd : dcd cc pc (.invokestatic idx) 3 pc') (g : wG X mL Z k N h r cl sl pc' L (.long (if 0 < x then x else -x) :: st)) : wG X mL Z k N h r cl sl pc L (.long x :: st) := by
  obtain ⟨hd, rfl⟩ := hd
  intro z hz Q hQ H locs ls w S hl
  exact va_mabs_long C.1 C.2.1 (C.2.2.1.trans hl.1.symm) C.2.2.2.1 (C.hts _ hw.1) (C.hts _ hw.2.1) (C.hts _ hw.2.2.1) (C.hts _ hw.2.2.2) (by rw [C.hR]; exact hR.1) (by rw [C.hR]; exact hR.2.1) (by rw [C.hR]; exact hR.2.2.1) (by rw [C.hR]; exact hR.2.2.2) hd (g z hz Q hQ H locs ls w S hl)
-- switches: the case is known
theorem wG_if {c : Prop} [Decidable c] (g1 : c → wG X mL Z kt N h r cl sl pc L st) (g2 : ¬ c → wG X mL Z kf N h r cl sl pc L st) : wG X mL Z (if c then kt else kf) N h r cl sl pc L st := by
  by_cases hc : c
  · rw [if_pos hc]; exact g1 hc
  · rw [if_neg hc]; exact g2 hc
theorem wG_tsI (C : Cx X y cc mL ret rm) {dflt lo hi : Int} {offs : Array Int} {len : Nat} {x v : Int32} (e : x = v) (hd : decode cc pc = .ok (.tableswitch dflt lo hi offs, len)) (h1 : ¬ v.toInt < lo) (h2 : ¬ hi < v.toInt) (off : Int) (ho : offs[(v.toInt - lo).toNat]? = some off) (ht : (pc : Int) + off = (tgt : Int)) (g : wG X mL Z k N h r cl sl tgt L st) : wG X mL Z k N h r cl sl pc L (.int x :: st) := by
  subst e
  intro z hz Q hQ H locs ls w S hl
  exact lv_tableIn C.1 C.2.1 hd h1 h2 ho ht (g z hz Q hQ H locs ls w S hl)
theorem wG_tsO (C : Cx X y cc mL ret rm) {dflt lo hi : Int} {offs : Array Int} {len : Nat} {x : Int32} (e : x.toInt < lo ∨ hi < x.toInt) (hd : decode cc pc = .ok (.tableswitch dflt lo hi offs, len)) (ht : (pc : Int) + dflt = (tgt : Int)) (g : wG X mL Z k N h r cl sl tgt L st) : wG X mL Z k N h r cl sl pc L (.int x :: st) := by
  intro z hz Q hQ H locs ls w S hl
  exact lv_tableOut C.1 C.2.1 hd e ht (g z hz Q hQ H locs ls w S hl)
theorem wG_lsw (C : Cx X y cc mL ret rm) {dflt : Int} {ps : Array (Int × Int)} {len : Nat} {x : Int32} (off : Int) (hd : decode cc pc = .ok (.lookupswitch dflt ps, len)) (hp : (ps.toList.zip (ps.toList.drop 1)).all (fun (a, next) => a.1 < next.1) = true) (ho : Op.lookupswitch.offset ps.toList dflt x.toInt = off) (ht : (pc : Int) + off = (tgt : Int)) (g : wG X mL Z k N h r cl sl tgt L st) : wG X mL Z k N h r cl sl pc L (.int x :: st) := by
  intro z hz Q hQ H locs ls w S hl
  exact lv_lookup C.1 C.2.1 hd hp ho ht (g z hz Q hQ H locs ls w S hl)
-- new cells
/-- the words of 'new' -/
def oW (own : String) (idx c : Nat) : Prop := ∃ (Cn : String) (T : u_T) (nn : Nat) (ty : Nat → FieldType), cls[c]? = some (Cn, T, nn) ∧ nn = nF c ∧ c < 12 ∧ (∀ w ∈ u_ws Cn T nn, w ∈ BIG) ∧ (∀ k, k < nn → parseFieldDescriptor (T k).2.2.1 = some (ty k)) ∧ Cond.classLink own idx Cn ∈ BIG ∧ Cond.instantiable Cn nn ∈ BIG ∧ Cond.initialized Cn ∈ BIG ∧ ∀ j, j < nn → defaultValue (ty j) = if rF c j = true then .null else .int 0
theorem wG_new (C : Cx X y cc mL ret rm) {idx c nn : Nat} {kk : Hp → Rp → Option ρ} (hw : oW y.cls idx c) (hk : Kd N = c) (hnn : nF c = nn) (hR : cl + 1 ≤ rm.cells ∧ sl + nn ≤ rm.slots) (hd : dcd cc pc (.new idx) 3 pc') (hcl : cl + 1 = cl') (hsl : sl + nn = sl')
    (g : ∀ h' r', wG X mL Z (kk h' r') (N + 1) h' r' cl' sl' pc' L (.ref (xB X + N) :: st)) : wG X mL Z (vB (va_up h N (fun _ => 0)) fun h' => vB (va_up r N (fun _ => none)) fun r' => kk h' r') N h r cl sl pc L st := by
  obtain ⟨hd, rfl⟩ := hd
  obtain ⟨Cn, T, n0, ty, hc, hn0, hc12, hin, hty, w1, w2, w3, hdf⟩ := hw
  subst hnn; subst hcl; subst hsl; subst hn0
  intro z hz Q hQ H locs ls w S hl
  have hKn := C.hK.1 c _ hc
  refine W.newcK C.1 C.2.1 C.2.2.2.1 (C.hts _ w1) (C.hts _ w2) (C.hts _ w3) rfl hd (by rw [C.hR]; exact hR.1) (by rw [C.hR]; exact hR.2) hKn.2.1 w.1 fun H1 kC hkC e1 z1 o1 => ?_
  refine g _ _ z hz Q hQ H1 locs ls (w.push (fun _ => 0) (fun _ => none) (by rw [z1, w.1]) (fun q hq => o1 q (by rw [← w.1]; exact hq)) ?_ (Or.inr fun _ => rfl)) ⟨Nat.le_trans S.1 (by rw [z1, ← w.1]; exact Nat.le_succ _), fun q h1 h2 => (o1 q (by rw [← w.1]; exact Nat.lt_of_lt_of_le h1 S.1)).trans (S.2.1 q h1 h2), S.2.2⟩ hl
  rw [hk]
  unfold atK
  rw [if_pos hc12]
  refine (u_born ty C.hts hin hKn hkC e1 hty).to (fun j hj => ?_)
  rw [hdf j hj]
  unfold fv
  split <;> rfl
theorem wG_newa (C : Cx X y cc mL ret rm) {n : Int32} {c nn : Nat} {kk : Hp → Rp → Option ρ} {at' : ArrayType} {ty : FieldType} (hat : newarray.typeOf at' = ty) (hct : (c = 12 ∧ ty = .int) ∨ (c = 13 ∧ ty = .boolean)) (hw : Cond.arrayClass ty ∈ BIG) (hk : Kd N = c) (hln : Ln N = nn) (hnn : nn ≤ 100000) (hR : cl + 1 ≤ rm.cells ∧ sl + nn ≤ rm.slots) (hd : dcd cc pc (.newarray at') 2 pc') (hcl : cl + 1 = cl') (hsl : sl + nn = sl')
    (g : ∀ h' r', wG X mL Z (kk h' r') (N + 1) h' r' cl' sl' pc' L (.ref (xB X + N) :: st)) : wG X mL Z (if n = nI nn then (vB (va_up h N (fun _ => 0)) fun h' => vB (va_up r N (fun _ => none)) fun r' => kk h' r') else none) N h r cl sl pc L (.int n :: st) := by
  obtain ⟨hd, rfl⟩ := hd
  subst hcl; subst hsl; subst hat
  intro z hz Q hQ H locs ls w S hl
  by_cases hin : n = nI nn
  · rw [if_pos hin] at hz
    subst hin
    have hb : componentBytes (newarray.typeOf at') ≤ 4 := by rcases hct with ⟨-, e⟩ | ⟨-, e⟩ <;> rw [e] <;> decide
    refine va_newaK C.1 C.2.1 (C.hts _ hw) rfl hd rfl (nI_pos (by omega)) (nI_clamp (by omega)) (Nat.le_trans (Nat.mul_le_mul hnn hb) (Nat.le_of_ble_eq_true rfl)) (by rw [C.hR]; exact hR.1) (by rw [C.hR]; exact hR.2) w.1 fun H1 cA e1 z1 o1 hAr hNm => ?_
    refine g _ _ z hz Q hQ H1 locs ls (w.push (fun _ => 0) (fun _ => none) (by rw [z1, w.1]) (fun q hq => o1 q (by rw [← w.1]; exact hq)) ?_ (Or.inr fun _ => rfl)) ⟨Nat.le_trans S.1 (by rw [z1, ← w.1]; exact Nat.le_succ _), fun q h1 h2 => (o1 q (by rw [← w.1]; exact Nat.lt_of_lt_of_le h1 S.1)).trans (S.2.1 q h1 h2), S.2.2⟩ hl
    rcases hct with ⟨e, e2⟩ | ⟨e, e2⟩
    · have hq := (C.hK.2 0 _ rfl).2
      have hcA : eC (xE X) 12 = cA := by rw [e2] at hNm; exact Option.some.inj (Eq.trans (Eq.symm hq) hNm)
      refine atK_ai (hk.trans e) (by decide) (by decide) ?_
      rw [hcA, hln, e1, e2]; rfl
    · have hq := (C.hK.2 1 _ rfl).2
      have hcA : eC (xE X) 13 = cA := by rw [e2] at hNm; exact Option.some.inj (Eq.trans (Eq.symm hq) hNm)
      refine atK_ai (hk.trans e) (by decide) (by decide) ?_
      rw [hcA, hln, e1, e2]; rfl
  · rw [if_neg hin] at hz; cases hz
theorem wG_newr (C : Cx X y cc mL ret rm) {n : Int32} {idx c nn : Nat} {Cn : String} {kk : Hp → Rp → Option ρ} (hw : Cond.classLink y.cls idx Cn ∈ BIG) (hao : va_AO Cn (xs X)) (hty : (tys (xE X))[c - 12]? = some (eC (xE X) c, .object Cn)) (hc : ¬ c < 12) (hc2 : ¬ c < 14) (hk : Kd N = c) (hln : Ln N = nn) (hnn : nn ≤ 100000) (hR : cl + 1 ≤ rm.cells ∧ sl + nn ≤ rm.slots) (hd : dcd cc pc (.anewarray idx) 3 pc') (hcl : cl + 1 = cl') (hsl : sl + nn = sl')
    (g : ∀ h' r', wG X mL Z (kk h' r') (N + 1) h' r' cl' sl' pc' L (.ref (xB X + N) :: st)) : wG X mL Z (if n = nI nn then (vB (va_up h N (fun _ => 0)) fun h' => vB (va_up r N (fun _ => none)) fun r' => kk h' r') else none) N h r cl sl pc L (.int n :: st) := by
  obtain ⟨hd, rfl⟩ := hd
  subst hcl; subst hsl
  intro z hz Q hQ H locs ls w S hl
  by_cases hin : n = nI nn
  · rw [if_pos hin] at hz
    subst hin
    have hcl : (nI nn).toNatClampNeg = nn := nI_clamp (by omega)
    refine W.anew C.1 C.2.1 C.2.2.2.1 (C.hts _ hw) (va_AO.use hao) rfl hd rfl (nI_pos (by omega)) (by rw [hcl]; omega) (by rw [C.hR]; exact hR.1) (by rw [C.hR, hcl]; exact hR.2) fun cA kA comp f1 f2 f3 f4 => ?_
    rw [hcl]
    generalize hH1 : H.push ({ cls := cA, slots := Array.replicate nn .null, vm := .none } : Cell) = H1
    have z1 : H1.size = H.size + 1 := by rw [← hH1, Array.size_push]
    have e1 : H1[H.size]? = some (arrV cA nn (fun _ => .null)) := by rw [← hH1, Array.getElem?_push_size, ← arrV_new]
    have o1 : ∀ q : Nat, q < H.size → H1[q]? = H[q]? := fun q hq => by rw [← hH1, Array.getElem?_push, if_neg (Nat.ne_of_lt hq)]
    have hcA : eC (xE X) c = cA := by
      obtain ⟨_, _, _, _, _, q4⟩ := (C.hK.2 _ _ hty).2
      exact Option.some.inj (q4.symm.trans f1)
    have hs : H.size = xB X + N := w.1
    show W _ _ _ _ _ _ _ _ _ _ _ _ _ _ _ (F0 (xm X) (pc + 3) ls (.ref H.size :: st))
    rw [hs]
    refine g _ _ z hz Q hQ H1 locs ls (w.push (fun _ => 0) (fun _ => none) z1 o1 (atK_ar hk hc hc2 ?_) (Or.inr fun _ => rfl)) ⟨Nat.le_trans S.1 (by omega), fun q h1 h2 => (o1 q (Nat.lt_of_lt_of_le h1 S.1)).trans (S.2.1 q h1 h2), S.2.2⟩ hl
    rw [hcA, hln, ← hs, e1]; rfl
  · rw [if_neg hin] at hz; cases hz
theorem wG_aast (C : Cx X y cc mL ret rm) {a n c b cb : Nat} {i : Int32} {q : vw_C} {kk : Rp → Option ρ} (hk : Kd a = c) (hc : ¬ c < 12) (hc2 : ¬ c < 14) (hty : (tys (xE X))[c - 12]? = some (eC (xE X) c, .object q.1)) (ha : a < N) (hn : Ln a = n) (hkb : Kd b = cb) (hcb : cb < 12) (hq : cls[cb]? = some q) (hb : b < N) (h43 : a = 43 → 137 ≤ b) (hd : dcd cc pc .aastore 1 pc')
    (g : ∀ r', wG X mL Z (kk r') N h r' cl sl pc' L st) : wG X mL Z (if inB i n then vB (u2 r a (ix i) (some b)) kk else none) N h r cl sl pc L (.ref (xB X + b) :: .int i :: .ref (xB X + a) :: st) := by
  obtain ⟨hd, rfl⟩ := hd
  subst hn
  intro z hz Q hQ H locs ls w S hl
  by_cases hin : inB i (Ln a)
  · rw [if_pos hin] at hz
    obtain ⟨cellV, g1, g2, g3, -⟩ := w.ob hb hkb hcb
    have hcls := (C.hK.1 cb q hq).2
    obtain ⟨kA, comp, k1, k2, k3, -⟩ := (C.hK.2 _ _ hty).2
    have hcomp : comp = (eD (xE X)).1 cb := Option.some.inj (k3.symm.trans hcls.1)
    subst hcomp
    obtain ⟨kC, hkC, -⟩ := hcls.2
    refine W.aast C.1 C.2.1 (w.ar ha hk hc hc2) (fun q h => by cases h) (fun h => by cases h) k1 k2 rfl hkC ⟨fun e => hin.vp (Or.inl e), by rw [arrV_size]; exact ix_lt hin⟩ g1 (fun q h => by rw [g3] at h; cases h) (by rw [g2]; exact hkC) (by rw [g2]; exact va_assign hcls) rfl rfl hd fun H1 e zz oq => ?_
    refine g (u2 r a (ix i) (some b)) z hz Q hQ H1 _ ls (w.set a ha zz oq (atK_ar hk hc hc2 ?_) (fun _ _ => rfl) (fun _ e => u2_ne _ _ _ e) (fun j d hq2 => ?_)) (S.put zz oq (Nat.le_add_right _ _)) hl
    · rw [e, arrV_store, u2_self]
      congr 2
      funext q
      by_cases hq : q = ix i
      · subst hq; simp [updV, va_rf]
      · simp [updV, hq]
    · by_cases e43 : a = 43
      · subst e43
        rw [u2_self] at hq2
        dsimp only at hq2
        by_cases ej : j = ix i
        · rw [if_pos ej] at hq2; cases hq2; exact ⟨h43 rfl, hb⟩
        · rw [if_neg ej] at hq2; exact w.2.2 j d hq2
      · rw [u2_ne _ _ _ (Ne.symm e43)] at hq2; exact w.2.2 j d hq2
  · rw [if_neg hin] at hz; cases hz
end ROWS2
end
section
/-! THE STANDING WORLD: behind the constructors every reference stands but those of the order (cell 43) -/
def RST : List (List (Option Nat)) := [[some 1, some 3, some 7, some 34, some 35, some 41, some 45, some 47, some 53], [some 2], [], [some 4, some 5, some 6], [], [], [], [some 3, some 8, some 9], [some 10, some 11, some 12, some 13, some 14, some 15, some 16, some 17, some 18, some 19, some 20, some 21, some 22, some 23, some 24, some 25, some 26, some 27, some 28, some 29, some 30, some 31, some 32, some 33], [], [], [], [], [], [], [], [], [], [], [], [], [], [], [], [], [], [], [], [], [], [], [], [], [], [some 57, some 84], [some 3, some 7, some 36, some 37, some 38, some 39, some 40], [], [], [], [], [], [some 3, none, some 42, some 43, some 44], [], [], [], [some 3, none, some 46], [], [some 3, none, some 48, some 49, some 50, some 51, some 52], [], [], [], [], [], [some 54, some 55, some 56], [], [], [], [some 3, some 58, some 59], [some 60, some 61, some 62, some 63, some 64, some 65, some 66, some 67, some 68, some 69, some 70, some 71, some 72, some 73, some 74, some 75, some 76, some 77, some 78, some 79, some 80, some 81, some 82, some 83], [], [], [], [], [], [], [], [], [], [], [], [], [], [], [], [], [], [], [], [], [], [], [], [], [], [some 3, some 85, some 86], [some 87, some 88, some 89, some 90, some 91, some 92, some 93, some 94, some 95, some 96, some 97, some 98, some 99, some 100, some 101, some 102, some 103, some 104, some 105, some 106, some 107, some 108, some 109, some 110], [], [], [], [], [], [], [], [], [], [], [], [], [], [], [], [], [], [], [], [], [], [], [], [], [], [none, some 112, none, some 113, none, none, some 114, none, none, none, some 115, some 116, some 117, some 118, some 119, some 120, some 121, some 122, none, some 123, some 124, some 125, none, none, none, none, none, some 126, some 127, some 128, some 129, some 130, some 131, some 132, none, none, some 133, none, none, none, some 134, some 135, some 136], [], [], [], [], [], [], [], [], [], [], [], [], [], [], [], [], [], [], [], [], [], [], [], [], []]
def rs (k j : Nat) : Option Nat := (RST.getD k []).getD j none
def rq (q : Nat → Option Nat) : Rp := fun k => if k = 43 then q else rs k
theorem Kd_lt {a c : Nat} (hk : Kd a = c) (hc : c ≠ 0) : a < 137 := by
  rcases Nat.lt_or_ge a 137 with h | h
  · exact h
  · exfalso
    apply hc
    rw [← hk]
    unfold Kd
    rw [List.getD_eq_getElem?_getD, List.getElem?_eq_none (by exact h)]
    rfl
theorem wlt {a c N : Nat} (hN : 137 ≤ N) (hk : Kd a = c) (hc : c ≠ 0) : a < N := Nat.lt_of_lt_of_le (Kd_lt hk hc) hN
theorem wll {N : Nat} (hN : 137 ≤ N) {a : Nat} (h : a < 137) : a < N := Nat.lt_of_lt_of_le h hN
theorem Kd_ge {N : Nat} (hN : 137 ≤ N) : Kd N = 0 := by
  unfold Kd
  rw [List.getD_eq_getElem?_getD, List.getElem?_eq_none (by exact hN)]
  rfl
theorem rs_ge {N : Nat} (hN : 137 ≤ N) : rs N = fun _ => none := by
  funext j
  unfold rs
  rw [List.getD_eq_getElem?_getD (l := RST), List.getElem?_eq_none (by exact hN)]
  rfl
theorem rq_new (q : Nat → Option Nat) {N : Nat} (hN : 137 ≤ N) : va_up (rq q) N (fun _ => none) = rq q := by
  funext k
  unfold va_up
  by_cases e : k = N
  · subst e
    rw [if_pos rfl]
    unfold rq
    rw [if_neg (by omega), rs_ge hN]
  · rw [if_neg e]
theorem rq_put (q : Nat → Option Nat) (i : Nat) (b : Option Nat) : u2 (rq q) 43 i b = rq (va_up q i b) := by
  funext k
  unfold u2 rq va_up
  by_cases e : k = 43
  · subst e; simp
  · simp [e]
theorem kdB_all : ∀ b, b < 137 → Kd b = 1 → b = 7 ∨ b = 57 ∨ b = 84 := by decide +kernel
theorem kdB {b : Nat} (hk : Kd b = 1) : b = 7 ∨ b = 57 ∨ b = 84 := kdB_all b (Kd_lt hk (by decide)) hk
theorem kb1 {b : Nat} (hk : Kd b = 1) : Kd (b + 1) = 16 := by rcases kdB hk with rfl | rfl | rfl <;> rfl
theorem kb2 {b : Nat} (hk : Kd b = 1) : Kd (b + 2) = 7 := by rcases kdB hk with rfl | rfl | rfl <;> rfl
theorem lb1 {b : Nat} (hk : Kd b = 1) : Ln (b + 1) = 24 := by rcases kdB hk with rfl | rfl | rfl <;> rfl
theorem rb0 {b : Nat} (q : Nat → Option Nat) (hk : Kd b = 1) : rq q b 0 = some 3 := by rcases kdB hk with rfl | rfl | rfl <;> rfl
theorem rb1 {b : Nat} (q : Nat → Option Nat) (hk : Kd b = 1) : rq q b 1 = some (b + 1) := by rcases kdB hk with rfl | rfl | rfl <;> rfl
theorem rb2 {b : Nat} (q : Nat → Option Nat) (hk : Kd b = 1) : rq q b 2 = some (b + 2) := by rcases kdB hk with rfl | rfl | rfl <;> rfl
theorem kp_all : ∀ i, i < 24 → (Kd (7 + 3 + i) = 7 ∧ rs (7 + 1) i = some (7 + 3 + i)) ∧ (Kd (57 + 3 + i) = 7 ∧ rs (57 + 1) i = some (57 + 3 + i)) ∧ (Kd (84 + 3 + i) = 7 ∧ rs (84 + 1) i = some (84 + 3 + i)) := by decide +kernel
theorem kp {b i : Nat} (hk : Kd b = 1) (hi : i < 24) : Kd (b + 3 + i) = 7 := by
  rcases kdB hk with rfl | rfl | rfl
  · exact (kp_all i hi).1.1
  · exact (kp_all i hi).2.1.1
  · exact (kp_all i hi).2.2.1
theorem rp {b i : Nat} (q : Nat → Option Nat) (hk : Kd b = 1) (hi : i < 24) : rq q (b + 1) i = some (b + 3 + i) := by
  rcases kdB hk with rfl | rfl | rfl
  · exact (kp_all i hi).1.2
  · exact (kp_all i hi).2.1.2
  · exact (kp_all i hi).2.2.2
theorem ksl : ∀ i, i < 2 → Kd (57 + 27 * i) = 1 ∧ rs 34 i = some (57 + 27 * i) := by decide +kernel
theorem kd_0 : Kd 0 = 11 := rfl
theorem kd_1 : Kd 1 = 10 := rfl
theorem kd_2 : Kd 2 = 12 := rfl
theorem ln_2 : Ln 2 = 48 := rfl
theorem kd_3 : Kd 3 = 4 := rfl
theorem kd_4 : Kd 4 = 12 := rfl
theorem ln_4 : Ln 4 = 36 := rfl
theorem kd_5 : Kd 5 = 12 := rfl
theorem ln_5 : Ln 5 = 49 := rfl
theorem kd_6 : Kd 6 = 12 := rfl
theorem ln_6 : Ln 6 = 49 := rfl
theorem kd_7 : Kd 7 = 1 := rfl
theorem kd_8 : Kd 8 = 16 := rfl
theorem ln_8 : Ln 8 = 24 := rfl
theorem kd_9 : Kd 9 = 7 := rfl
theorem kd_10 : Kd 10 = 7 := rfl
theorem kd_11 : Kd 11 = 7 := rfl
theorem kd_12 : Kd 12 = 7 := rfl
theorem kd_13 : Kd 13 = 7 := rfl
theorem kd_14 : Kd 14 = 7 := rfl
theorem kd_15 : Kd 15 = 7 := rfl
theorem kd_16 : Kd 16 = 7 := rfl
theorem kd_17 : Kd 17 = 7 := rfl
theorem kd_18 : Kd 18 = 7 := rfl
theorem kd_19 : Kd 19 = 7 := rfl
theorem kd_20 : Kd 20 = 7 := rfl
theorem kd_21 : Kd 21 = 7 := rfl
theorem kd_22 : Kd 22 = 7 := rfl
theorem kd_23 : Kd 23 = 7 := rfl
theorem kd_24 : Kd 24 = 7 := rfl
theorem kd_25 : Kd 25 = 7 := rfl
theorem kd_26 : Kd 26 = 7 := rfl
theorem kd_27 : Kd 27 = 7 := rfl
theorem kd_28 : Kd 28 = 7 := rfl
theorem kd_29 : Kd 29 = 7 := rfl
theorem kd_30 : Kd 30 = 7 := rfl
theorem kd_31 : Kd 31 = 7 := rfl
theorem kd_32 : Kd 32 = 7 := rfl
theorem kd_33 : Kd 33 = 7 := rfl
theorem kd_34 : Kd 34 = 15 := rfl
theorem ln_34 : Ln 34 = 2 := rfl
theorem kd_35 : Kd 35 = 9 := rfl
theorem kd_36 : Kd 36 = 7 := rfl
theorem kd_37 : Kd 37 = 7 := rfl
theorem kd_38 : Kd 38 = 7 := rfl
theorem kd_39 : Kd 39 = 7 := rfl
theorem kd_40 : Kd 40 = 12 := rfl
theorem ln_40 : Ln 40 = 24 := rfl
theorem kd_41 : Kd 41 = 6 := rfl
theorem kd_42 : Kd 42 = 12 := rfl
theorem ln_42 : Ln 42 = 7056 := rfl
theorem kd_43 : Kd 43 = 14 := rfl
theorem ln_43 : Ln 43 = 4 := rfl
theorem kd_44 : Kd 44 = 12 := rfl
theorem ln_44 : Ln 44 = 16 := rfl
theorem kd_45 : Kd 45 = 3 := rfl
theorem kd_46 : Kd 46 = 12 := rfl
theorem ln_46 : Ln 46 = 441 := rfl
theorem kd_47 : Kd 47 = 5 := rfl
theorem kd_48 : Kd 48 = 12 := rfl
theorem ln_48 : Ln 48 = 441 := rfl
theorem kd_49 : Kd 49 = 12 := rfl
theorem ln_49 : Ln 49 = 6 := rfl
theorem kd_50 : Kd 50 = 12 := rfl
theorem ln_50 : Ln 50 = 6 := rfl
theorem kd_51 : Kd 51 = 12 := rfl
theorem ln_51 : Ln 51 = 6 := rfl
theorem kd_52 : Kd 52 = 12 := rfl
theorem ln_52 : Ln 52 = 6 := rfl
theorem kd_53 : Kd 53 = 2 := rfl
theorem kd_54 : Kd 54 = 12 := rfl
theorem ln_54 : Ln 54 = 16 := rfl
theorem kd_55 : Kd 55 = 12 := rfl
theorem ln_55 : Ln 55 = 10 := rfl
theorem kd_56 : Kd 56 = 12 := rfl
theorem ln_56 : Ln 56 = 10 := rfl
theorem kd_57 : Kd 57 = 1 := rfl
theorem kd_58 : Kd 58 = 16 := rfl
theorem ln_58 : Ln 58 = 24 := rfl
theorem kd_59 : Kd 59 = 7 := rfl
theorem kd_60 : Kd 60 = 7 := rfl
theorem kd_61 : Kd 61 = 7 := rfl
theorem kd_62 : Kd 62 = 7 := rfl
theorem kd_63 : Kd 63 = 7 := rfl
theorem kd_64 : Kd 64 = 7 := rfl
theorem kd_65 : Kd 65 = 7 := rfl
theorem kd_66 : Kd 66 = 7 := rfl
theorem kd_67 : Kd 67 = 7 := rfl
theorem kd_68 : Kd 68 = 7 := rfl
theorem kd_69 : Kd 69 = 7 := rfl
theorem kd_70 : Kd 70 = 7 := rfl
theorem kd_71 : Kd 71 = 7 := rfl
theorem kd_72 : Kd 72 = 7 := rfl
theorem kd_73 : Kd 73 = 7 := rfl
theorem kd_74 : Kd 74 = 7 := rfl
theorem kd_75 : Kd 75 = 7 := rfl
theorem kd_76 : Kd 76 = 7 := rfl
theorem kd_77 : Kd 77 = 7 := rfl
theorem kd_78 : Kd 78 = 7 := rfl
theorem kd_79 : Kd 79 = 7 := rfl
theorem kd_80 : Kd 80 = 7 := rfl
theorem kd_81 : Kd 81 = 7 := rfl
theorem kd_82 : Kd 82 = 7 := rfl
theorem kd_83 : Kd 83 = 7 := rfl
theorem kd_84 : Kd 84 = 1 := rfl
theorem kd_85 : Kd 85 = 16 := rfl
theorem ln_85 : Ln 85 = 24 := rfl
theorem kd_86 : Kd 86 = 7 := rfl
theorem kd_87 : Kd 87 = 7 := rfl
theorem kd_88 : Kd 88 = 7 := rfl
theorem kd_89 : Kd 89 = 7 := rfl
theorem kd_90 : Kd 90 = 7 := rfl
theorem kd_91 : Kd 91 = 7 := rfl
theorem kd_92 : Kd 92 = 7 := rfl
theorem kd_93 : Kd 93 = 7 := rfl
theorem kd_94 : Kd 94 = 7 := rfl
theorem kd_95 : Kd 95 = 7 := rfl
theorem kd_96 : Kd 96 = 7 := rfl
theorem kd_97 : Kd 97 = 7 := rfl
theorem kd_98 : Kd 98 = 7 := rfl
theorem kd_99 : Kd 99 = 7 := rfl
theorem kd_100 : Kd 100 = 7 := rfl
theorem kd_101 : Kd 101 = 7 := rfl
theorem kd_102 : Kd 102 = 7 := rfl
theorem kd_103 : Kd 103 = 7 := rfl
theorem kd_104 : Kd 104 = 7 := rfl
theorem kd_105 : Kd 105 = 7 := rfl
theorem kd_106 : Kd 106 = 7 := rfl
theorem kd_107 : Kd 107 = 7 := rfl
theorem kd_108 : Kd 108 = 7 := rfl
theorem kd_109 : Kd 109 = 7 := rfl
theorem kd_110 : Kd 110 = 7 := rfl
theorem kd_111 : Kd 111 = 8 := rfl
theorem kd_112 : Kd 112 = 12 := rfl
theorem ln_112 : Ln 112 = 48 := rfl
theorem kd_113 : Kd 113 = 12 := rfl
theorem ln_113 : Ln 113 = 36 := rfl
theorem kd_114 : Kd 114 = 12 := rfl
theorem ln_114 : Ln 114 = 36 := rfl
theorem kd_115 : Kd 115 = 12 := rfl
theorem ln_115 : Ln 115 = 24 := rfl
theorem kd_116 : Kd 116 = 12 := rfl
theorem ln_116 : Ln 116 = 24 := rfl
theorem kd_117 : Kd 117 = 12 := rfl
theorem ln_117 : Ln 117 = 24 := rfl
theorem kd_118 : Kd 118 = 12 := rfl
theorem ln_118 : Ln 118 = 24 := rfl
theorem kd_119 : Kd 119 = 12 := rfl
theorem ln_119 : Ln 119 = 24 := rfl
theorem kd_120 : Kd 120 = 12 := rfl
theorem ln_120 : Ln 120 = 24 := rfl
theorem kd_121 : Kd 121 = 12 := rfl
theorem ln_121 : Ln 121 = 24 := rfl
theorem kd_122 : Kd 122 = 12 := rfl
theorem ln_122 : Ln 122 = 96 := rfl
theorem kd_123 : Kd 123 = 12 := rfl
theorem ln_123 : Ln 123 = 266 := rfl
theorem kd_124 : Kd 124 = 12 := rfl
theorem ln_124 : Ln 124 = 532 := rfl
theorem kd_125 : Kd 125 = 13 := rfl
theorem ln_125 : Ln 125 = 2 := rfl
theorem kd_126 : Kd 126 = 12 := rfl
theorem ln_126 : Ln 126 = 4 := rfl
theorem kd_127 : Kd 127 = 12 := rfl
theorem ln_127 : Ln 127 = 4 := rfl
theorem kd_128 : Kd 128 = 12 := rfl
theorem ln_128 : Ln 128 = 4 := rfl
theorem kd_129 : Kd 129 = 12 := rfl
theorem ln_129 : Ln 129 = 1296 := rfl
theorem kd_130 : Kd 130 = 12 := rfl
theorem ln_130 : Ln 130 = 1296 := rfl
theorem kd_131 : Kd 131 = 12 := rfl
theorem ln_131 : Ln 131 = 20736 := rfl
theorem kd_132 : Kd 132 = 12 := rfl
theorem ln_132 : Ln 132 = 1296 := rfl
theorem kd_133 : Kd 133 = 12 := rfl
theorem ln_133 : Ln 133 = 6 := rfl
theorem kd_134 : Kd 134 = 12 := rfl
theorem ln_134 : Ln 134 = 16 := rfl
theorem kd_135 : Kd 135 = 12 := rfl
theorem ln_135 : Ln 135 = 10 := rfl
theorem kd_136 : Kd 136 = 12 := rfl
theorem ln_136 : Ln 136 = 10 := rfl
theorem rf_0_0 (q : Nat → Option Nat) : rq q 0 0 = some 1 := rfl
theorem rf_0_1 (q : Nat → Option Nat) : rq q 0 1 = some 3 := rfl
theorem rf_0_2 (q : Nat → Option Nat) : rq q 0 2 = some 7 := rfl
theorem rf_0_3 (q : Nat → Option Nat) : rq q 0 3 = some 34 := rfl
theorem rf_0_4 (q : Nat → Option Nat) : rq q 0 4 = some 35 := rfl
theorem rf_0_5 (q : Nat → Option Nat) : rq q 0 5 = some 41 := rfl
theorem rf_0_6 (q : Nat → Option Nat) : rq q 0 6 = some 45 := rfl
theorem rf_0_7 (q : Nat → Option Nat) : rq q 0 7 = some 47 := rfl
theorem rf_0_8 (q : Nat → Option Nat) : rq q 0 8 = some 53 := rfl
theorem rf_1_0 (q : Nat → Option Nat) : rq q 1 0 = some 2 := rfl
theorem rf_3_0 (q : Nat → Option Nat) : rq q 3 0 = some 4 := rfl
theorem rf_3_1 (q : Nat → Option Nat) : rq q 3 1 = some 5 := rfl
theorem rf_3_2 (q : Nat → Option Nat) : rq q 3 2 = some 6 := rfl
theorem rf_7_0 (q : Nat → Option Nat) : rq q 7 0 = some 3 := rfl
theorem rf_7_1 (q : Nat → Option Nat) : rq q 7 1 = some 8 := rfl
theorem rf_7_2 (q : Nat → Option Nat) : rq q 7 2 = some 9 := rfl
theorem rf_35_0 (q : Nat → Option Nat) : rq q 35 0 = some 3 := rfl
theorem rf_35_1 (q : Nat → Option Nat) : rq q 35 1 = some 7 := rfl
theorem rf_35_2 (q : Nat → Option Nat) : rq q 35 2 = some 36 := rfl
theorem rf_35_3 (q : Nat → Option Nat) : rq q 35 3 = some 37 := rfl
theorem rf_35_4 (q : Nat → Option Nat) : rq q 35 4 = some 38 := rfl
theorem rf_35_5 (q : Nat → Option Nat) : rq q 35 5 = some 39 := rfl
theorem rf_35_6 (q : Nat → Option Nat) : rq q 35 6 = some 40 := rfl
theorem rf_41_0 (q : Nat → Option Nat) : rq q 41 0 = some 3 := rfl
theorem rf_41_2 (q : Nat → Option Nat) : rq q 41 2 = some 42 := rfl
theorem rf_41_3 (q : Nat → Option Nat) : rq q 41 3 = some 43 := rfl
theorem rf_41_4 (q : Nat → Option Nat) : rq q 41 4 = some 44 := rfl
theorem rf_45_0 (q : Nat → Option Nat) : rq q 45 0 = some 3 := rfl
theorem rf_45_2 (q : Nat → Option Nat) : rq q 45 2 = some 46 := rfl
theorem rf_47_0 (q : Nat → Option Nat) : rq q 47 0 = some 3 := rfl
theorem rf_47_2 (q : Nat → Option Nat) : rq q 47 2 = some 48 := rfl
theorem rf_47_3 (q : Nat → Option Nat) : rq q 47 3 = some 49 := rfl
theorem rf_47_4 (q : Nat → Option Nat) : rq q 47 4 = some 50 := rfl
theorem rf_47_5 (q : Nat → Option Nat) : rq q 47 5 = some 51 := rfl
theorem rf_47_6 (q : Nat → Option Nat) : rq q 47 6 = some 52 := rfl
theorem rf_53_0 (q : Nat → Option Nat) : rq q 53 0 = some 54 := rfl
theorem rf_53_1 (q : Nat → Option Nat) : rq q 53 1 = some 55 := rfl
theorem rf_53_2 (q : Nat → Option Nat) : rq q 53 2 = some 56 := rfl
theorem rf_57_0 (q : Nat → Option Nat) : rq q 57 0 = some 3 := rfl
theorem rf_57_1 (q : Nat → Option Nat) : rq q 57 1 = some 58 := rfl
theorem rf_57_2 (q : Nat → Option Nat) : rq q 57 2 = some 59 := rfl
theorem rf_84_0 (q : Nat → Option Nat) : rq q 84 0 = some 3 := rfl
theorem rf_84_1 (q : Nat → Option Nat) : rq q 84 1 = some 85 := rfl
theorem rf_84_2 (q : Nat → Option Nat) : rq q 84 2 = some 86 := rfl
theorem rf_111_1 (q : Nat → Option Nat) : rq q 111 1 = some 112 := rfl
theorem rf_111_3 (q : Nat → Option Nat) : rq q 111 3 = some 113 := rfl
theorem rf_111_6 (q : Nat → Option Nat) : rq q 111 6 = some 114 := rfl
theorem rf_111_10 (q : Nat → Option Nat) : rq q 111 10 = some 115 := rfl
theorem rf_111_11 (q : Nat → Option Nat) : rq q 111 11 = some 116 := rfl
theorem rf_111_12 (q : Nat → Option Nat) : rq q 111 12 = some 117 := rfl
theorem rf_111_13 (q : Nat → Option Nat) : rq q 111 13 = some 118 := rfl
theorem rf_111_14 (q : Nat → Option Nat) : rq q 111 14 = some 119 := rfl
theorem rf_111_15 (q : Nat → Option Nat) : rq q 111 15 = some 120 := rfl
theorem rf_111_16 (q : Nat → Option Nat) : rq q 111 16 = some 121 := rfl
theorem rf_111_17 (q : Nat → Option Nat) : rq q 111 17 = some 122 := rfl
theorem rf_111_19 (q : Nat → Option Nat) : rq q 111 19 = some 123 := rfl
theorem rf_111_20 (q : Nat → Option Nat) : rq q 111 20 = some 124 := rfl
theorem rf_111_21 (q : Nat → Option Nat) : rq q 111 21 = some 125 := rfl
theorem rf_111_27 (q : Nat → Option Nat) : rq q 111 27 = some 126 := rfl
theorem rf_111_28 (q : Nat → Option Nat) : rq q 111 28 = some 127 := rfl
theorem rf_111_29 (q : Nat → Option Nat) : rq q 111 29 = some 128 := rfl
theorem rf_111_30 (q : Nat → Option Nat) : rq q 111 30 = some 129 := rfl
theorem rf_111_31 (q : Nat → Option Nat) : rq q 111 31 = some 130 := rfl
theorem rf_111_32 (q : Nat → Option Nat) : rq q 111 32 = some 131 := rfl
theorem rf_111_33 (q : Nat → Option Nat) : rq q 111 33 = some 132 := rfl
theorem rf_111_36 (q : Nat → Option Nat) : rq q 111 36 = some 133 := rfl
theorem rf_111_40 (q : Nat → Option Nat) : rq q 111 40 = some 134 := rfl
theorem rf_111_41 (q : Nat → Option Nat) : rq q 111 41 = some 135 := rfl
theorem rf_111_42 (q : Nat → Option Nat) : rq q 111 42 = some 136 := rfl
section SROWS
variable {ρ : Type} {X : wX} {y : MethodName} {cc : ByteArray} {mL : Nat} {ret : Option FieldType} {rm : Room} {Z : ρ → (State → Prop) → Prop} {k kt kf : Option ρ} {N : Nat} {h : Hp} {q : Nat → Option Nat} {cl sl pc pc' tgt cl' sl' : Nat} {L L' : List (Nat × Value)} {st rest : List Value} {off : Int}
/-- a piece of a board -/
theorem wG_aaP (C : Cx X y cc mL ret rm) {b p e : Nat} {i : Int32} {kk : Nat → Option ρ} (hN : 137 ≤ N) (hb : Kd b = 1) (hp : b + 1 = p) (he : b + 3 = e) (hd : dcd cc pc .aaload 1 pc') (g : ∀ a, Kd a = 7 → wG X mL Z (kk a) N h (rq q) cl sl pc' L (.ref (xB X + a) :: st)) : wG X mL Z (if inB i 24 then vB (e + ix i) kk else none) N h (rq q) cl sl pc L (.int i :: .ref (xB X + p) :: st) := by
  subst hp; subst he
  have key := wG_aald (kk := kk) (i := i) (r := rq q) (Z := Z) (L := L) (st := st) (h := h) (cl := cl) (sl := sl) C (kb1 hb) (by decide) (by decide) (Cn := RX7) rfl (wlt hN (kb1 hb) (by decide)) (lb1 hb) hd
  by_cases hin : inB i 24
  · have e := rp q hb (ix_lt hin)
    rw [if_pos hin, e] at key
    rw [if_pos hin]
    exact key (fun a ha => by cases ha; exact g _ (kp hb (ix_lt hin)))
  · rw [if_neg hin]; exact wG_none
/-- a slot's board -/
theorem wG_aaS (C : Cx X y cc mL ret rm) {i : Int32} {kk : Nat → Option ρ} (hN : 137 ≤ N) (hd : dcd cc pc .aaload 1 pc') (g : ∀ a, Kd a = 1 → wG X mL Z (kk a) N h (rq q) cl sl pc' L (.ref (xB X + a) :: st)) : wG X mL Z (if inB i 2 then vB (57 + 27 * ix i) kk else none) N h (rq q) cl sl pc L (.int i :: .ref (xB X + 34) :: st) := by
  have key := wG_aald (kk := kk) (i := i) (r := rq q) (Z := Z) (L := L) (st := st) (h := h) (cl := cl) (sl := sl) C kd_34 (by decide) (by decide) (Cn := RX1) rfl (wll hN (by decide)) ln_34 hd
  by_cases hin : inB i 2
  · have e : rq q 34 (ix i) = some (57 + 27 * ix i) := (ksl _ (ix_lt hin)).2
    rw [if_pos hin, e] at key
    rw [if_pos hin]
    exact key (fun a ha => by cases ha; exact g _ (ksl _ (ix_lt hin)).1)
  · rw [if_neg hin]; exact wG_none
/-- an ask of the order -/
theorem wG_aaQ (C : Cx X y cc mL ret rm) {i : Int32} {kk : Nat → Option ρ} (hN : 137 ≤ N) (hd : dcd cc pc .aaload 1 pc') (g : ∀ a, Kd a = 0 → a < N → wG X mL Z (kk a) N h (rq q) cl sl pc' L (.ref (xB X + a) :: st)) : wG X mL Z (if inB i 4 then (q (ix i)).bind kk else none) N h (rq q) cl sl pc L (.int i :: .ref (xB X + 43) :: st) := by
  intro z hz Q hQ H locs ls w S hl
  refine wG_aald (kk := kk) (i := i) (r := rq q) (Z := Z) (L := L) (st := st) (h := h) (cl := cl) (sl := sl) C kd_43 (by decide) (by decide) (Cn := RX0) rfl (wll hN (by decide)) ln_43 hd (fun a ha => ?_) z hz Q hQ H locs ls w S hl
  obtain ⟨h1, h2⟩ := w.2.2 _ _ ha
  exact g a (Kd_ge h1) h2
/-- a new ask -/
theorem wG_newA (C : Cx X y cc mL ret rm) {idx : Nat} {kk : Hp → Option ρ} (hN : 137 ≤ N) (hw : oW y.cls idx 0) (hR : cl + 1 ≤ rm.cells ∧ sl + 3 ≤ rm.slots) (hd : dcd cc pc (.new idx) 3 pc') (hcl : cl + 1 = cl') (hsl : sl + 3 = sl')
    (g : ∀ h', wG X mL Z (kk h') (N + 1) h' (rq q) cl' sl' pc' L (.ref (xB X + N) :: st)) : wG X mL Z (vB (va_up h N (fun _ => 0)) kk) N h (rq q) cl sl pc L st := by
  intro z hz
  classical
  exact wG_new (kk := fun h' r' => if r' = rq q then kk h' else none) C hw (Kd_ge hN) (show nF 0 = 3 from rfl) hR hd hcl hsl (fun h' r' => by
    by_cases e : r' = rq q
    · rw [if_pos e, e]; exact g h'
    · rw [if_neg e]; exact wG_none) z (by show vB _ _ = _; unfold vB at hz ⊢; rw [rq_new q hN]; simpa [vB] using hz)
theorem wG_astQ (C : Cx X y cc mL ret rm) {b : Nat} {i : Int32} {kk : (Nat → Option Nat) → Option ρ} (hN : 137 ≤ N) (hb1 : 137 ≤ b) (hb : b < N) (hd : dcd cc pc .aastore 1 pc')
    (g : ∀ q', wG X mL Z (kk q') N h (rq q') cl sl pc' L st) : wG X mL Z (if inB i 4 then vB (va_up q (ix i) (some b)) kk else none) N h (rq q) cl sl pc L (.ref (xB X + b) :: .int i :: .ref (xB X + 43) :: st) := by
  intro z hz
  classical
  refine wG_aast (kk := fun r' => if r' = rq (va_up q (ix i) (some b)) then kk (va_up q (ix i) (some b)) else none) C kd_43 (by decide) (by decide) (q := (RX0, TX0, 3)) rfl (wll hN (by decide)) ln_43 (Kd_ge hb1) (by decide) rfl hb (fun _ => hb1) hd (fun r' => ?_) z ?_
  · by_cases e : r' = rq (va_up q (ix i) (some b))
    · rw [if_pos e, e]; exact g _
    · rw [if_neg e]; exact wG_none
  · by_cases hin : inB i 4
    · rw [if_pos hin] at hz ⊢
      unfold vB at hz ⊢
      rw [rq_put]
      show (if _ then _ else _) = _
      rw [if_pos rfl]; exact hz
    · rw [if_neg hin] at hz; cases hz
end SROWS
end
