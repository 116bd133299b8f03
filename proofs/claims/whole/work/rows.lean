section
-- ===== PART A: goes FIRST, ahead of the names: the tables' words, and 'selects' of the private methods out of them =====
/-- a private method of a class that the tables say can be made, by its rows of tables_1 -/
def lw_okq (q : MethodName × Nat) : Prop := (q.1.cls ≠ "java/lang/invoke/MethodHandle" ∧ q.1.cls ≠ "java/lang/invoke/VarHandle") ∧ Cond.instantiable q.1.cls q.2 ∈ tables_1 ∧ Cond.privateMethod q.1 ∈ tables_1 ∧ Cond.instanceMethod q.1 ∈ tables_1
theorem lw_p0 : lw_okq (⟨"WheelAndWireModel", "readForm", "()I"⟩, 47) := ⟨⟨by decide +kernel, by decide +kernel⟩, List.mem_of_getElem? (i := 959) (by decide +kernel), List.mem_of_getElem? (i := 1124) (by decide +kernel), List.mem_of_getElem? (i := 1125) (by decide +kernel)⟩
theorem lw_p1 : lw_okq (⟨"WheelAndWireModel", "begin", "()V"⟩, 47) := ⟨⟨by decide +kernel, by decide +kernel⟩, List.mem_of_getElem? (i := 959) (by decide +kernel), List.mem_of_getElem? (i := 1135) (by decide +kernel), List.mem_of_getElem? (i := 1136) (by decide +kernel)⟩
theorem lw_p2 : lw_okq (⟨"WheelAndWireModel", "noStand", "(I)Z"⟩, 47) := ⟨⟨by decide +kernel, by decide +kernel⟩, List.mem_of_getElem? (i := 959) (by decide +kernel), List.mem_of_getElem? (i := 1147) (by decide +kernel), List.mem_of_getElem? (i := 1148) (by decide +kernel)⟩
theorem lw_p3 : lw_okq (⟨"WheelAndWireModel", "noPiece", "(I)Z"⟩, 47) := ⟨⟨by decide +kernel, by decide +kernel⟩, List.mem_of_getElem? (i := 959) (by decide +kernel), List.mem_of_getElem? (i := 1151) (by decide +kernel), List.mem_of_getElem? (i := 1152) (by decide +kernel)⟩
theorem lw_p4 : lw_okq (⟨"WheelAndWireModel", "makeCut", "(IZI)I"⟩, 47) := ⟨⟨by decide +kernel, by decide +kernel⟩, List.mem_of_getElem? (i := 959) (by decide +kernel), List.mem_of_getElem? (i := 1155) (by decide +kernel), List.mem_of_getElem? (i := 1156) (by decide +kernel)⟩
theorem lw_p5 : lw_okq (⟨"WheelAndWireModel", "offAhead", "(IZI)I"⟩, 47) := ⟨⟨by decide +kernel, by decide +kernel⟩, List.mem_of_getElem? (i := 959) (by decide +kernel), List.mem_of_getElem? (i := 1159) (by decide +kernel), List.mem_of_getElem? (i := 1160) (by decide +kernel)⟩
theorem lw_p6 : lw_okq (⟨"WheelAndWireModel", "weightOf", "(IIII)I"⟩, 47) := ⟨⟨by decide +kernel, by decide +kernel⟩, List.mem_of_getElem? (i := 959) (by decide +kernel), List.mem_of_getElem? (i := 1163) (by decide +kernel), List.mem_of_getElem? (i := 1164) (by decide +kernel)⟩
theorem lw_p7 : lw_okq (⟨"WheelAndWireModel", "driedAhead", "(IIZI)I"⟩, 47) := ⟨⟨by decide +kernel, by decide +kernel⟩, List.mem_of_getElem? (i := 959) (by decide +kernel), List.mem_of_getElem? (i := 1167) (by decide +kernel), List.mem_of_getElem? (i := 1168) (by decide +kernel)⟩
theorem lw_p8 : lw_okq (⟨"WheelAndWireModel", "countOf", "(IIIII)I"⟩, 47) := ⟨⟨by decide +kernel, by decide +kernel⟩, List.mem_of_getElem? (i := 959) (by decide +kernel), List.mem_of_getElem? (i := 1175) (by decide +kernel), List.mem_of_getElem? (i := 1176) (by decide +kernel)⟩
theorem lw_p9 : lw_okq (⟨"WheelAndWireModel", "edges", "(I)I"⟩, 47) := ⟨⟨by decide +kernel, by decide +kernel⟩, List.mem_of_getElem? (i := 959) (by decide +kernel), List.mem_of_getElem? (i := 1179) (by decide +kernel), List.mem_of_getElem? (i := 1180) (by decide +kernel)⟩
theorem lw_p10 : lw_okq (⟨"WheelAndWireModel", "face", "(II)I"⟩, 47) := ⟨⟨by decide +kernel, by decide +kernel⟩, List.mem_of_getElem? (i := 959) (by decide +kernel), List.mem_of_getElem? (i := 1183) (by decide +kernel), List.mem_of_getElem? (i := 1184) (by decide +kernel)⟩
theorem lw_p11 : lw_okq (⟨"WheelAndWireModel", "allDried", "(I)I"⟩, 47) := ⟨⟨by decide +kernel, by decide +kernel⟩, List.mem_of_getElem? (i := 959) (by decide +kernel), List.mem_of_getElem? (i := 1187) (by decide +kernel), List.mem_of_getElem? (i := 1188) (by decide +kernel)⟩
theorem lw_p12 : lw_okq (⟨"WheelAndWireModel", "isEnd", "(I)Z"⟩, 47) := ⟨⟨by decide +kernel, by decide +kernel⟩, List.mem_of_getElem? (i := 959) (by decide +kernel), List.mem_of_getElem? (i := 1191) (by decide +kernel), List.mem_of_getElem? (i := 1192) (by decide +kernel)⟩
theorem lw_p13 : lw_okq (⟨"WheelAndWireModel", "weighsOf", "(I)I"⟩, 47) := ⟨⟨by decide +kernel, by decide +kernel⟩, List.mem_of_getElem? (i := 959) (by decide +kernel), List.mem_of_getElem? (i := 1199) (by decide +kernel), List.mem_of_getElem? (i := 1200) (by decide +kernel)⟩
theorem lw_p14 : lw_okq (⟨"WheelAndWireModel", "isServed", "(IIII)Z"⟩, 47) := ⟨⟨by decide +kernel, by decide +kernel⟩, List.mem_of_getElem? (i := 959) (by decide +kernel), List.mem_of_getElem? (i := 1234) (by decide +kernel), List.mem_of_getElem? (i := 1235) (by decide +kernel)⟩
theorem lw_p15 : lw_okq (⟨"WheelAndWireModel", "standsFor", "(III)I"⟩, 47) := ⟨⟨by decide +kernel, by decide +kernel⟩, List.mem_of_getElem? (i := 959) (by decide +kernel), List.mem_of_getElem? (i := 1242) (by decide +kernel), List.mem_of_getElem? (i := 1243) (by decide +kernel)⟩
def lw_privs_1 : List (MethodName × Nat) := [(⟨"WheelAndWireModel", "readForm", "()I"⟩, 47), (⟨"WheelAndWireModel", "begin", "()V"⟩, 47), (⟨"WheelAndWireModel", "noStand", "(I)Z"⟩, 47), (⟨"WheelAndWireModel", "noPiece", "(I)Z"⟩, 47), (⟨"WheelAndWireModel", "makeCut", "(IZI)I"⟩, 47), (⟨"WheelAndWireModel", "offAhead", "(IZI)I"⟩, 47), (⟨"WheelAndWireModel", "weightOf", "(IIII)I"⟩, 47), (⟨"WheelAndWireModel", "driedAhead", "(IIZI)I"⟩, 47), (⟨"WheelAndWireModel", "countOf", "(IIIII)I"⟩, 47), (⟨"WheelAndWireModel", "edges", "(I)I"⟩, 47), (⟨"WheelAndWireModel", "face", "(II)I"⟩, 47), (⟨"WheelAndWireModel", "allDried", "(I)I"⟩, 47), (⟨"WheelAndWireModel", "isEnd", "(I)Z"⟩, 47), (⟨"WheelAndWireModel", "weighsOf", "(I)I"⟩, 47), (⟨"WheelAndWireModel", "isServed", "(IIII)Z"⟩, 47), (⟨"WheelAndWireModel", "standsFor", "(III)I"⟩, 47)]
theorem lw_r1 : ∀ q ∈ lw_privs_1, lw_okq q := List.forall_mem_cons.mpr ⟨lw_p0, List.forall_mem_cons.mpr ⟨lw_p1, List.forall_mem_cons.mpr ⟨lw_p2, List.forall_mem_cons.mpr ⟨lw_p3, List.forall_mem_cons.mpr ⟨lw_p4, List.forall_mem_cons.mpr ⟨lw_p5, List.forall_mem_cons.mpr ⟨lw_p6, List.forall_mem_cons.mpr ⟨lw_p7, List.forall_mem_cons.mpr ⟨lw_p8, List.forall_mem_cons.mpr ⟨lw_p9, List.forall_mem_cons.mpr ⟨lw_p10, List.forall_mem_cons.mpr ⟨lw_p11, List.forall_mem_cons.mpr ⟨lw_p12, List.forall_mem_cons.mpr ⟨lw_p13, List.forall_mem_cons.mpr ⟨lw_p14, List.forall_mem_cons.mpr ⟨lw_p15, fun _ h => absurd h List.not_mem_nil⟩⟩⟩⟩⟩⟩⟩⟩⟩⟩⟩⟩⟩⟩⟩⟩
theorem lw_p16 : lw_okq (⟨"WheelAndWireModel", "findCut", "(III)V"⟩, 47) := ⟨⟨by decide +kernel, by decide +kernel⟩, List.mem_of_getElem? (i := 959) (by decide +kernel), List.mem_of_getElem? (i := 1250) (by decide +kernel), List.mem_of_getElem? (i := 1251) (by decide +kernel)⟩
theorem lw_p17 : lw_okq (⟨"WheelAndWireModel", "isPart", "(IZIZIII)Z"⟩, 47) := ⟨⟨by decide +kernel, by decide +kernel⟩, List.mem_of_getElem? (i := 959) (by decide +kernel), List.mem_of_getElem? (i := 1255) (by decide +kernel), List.mem_of_getElem? (i := 1256) (by decide +kernel)⟩
theorem lw_p18 : lw_okq (⟨"WheelAndWireModel", "layPart", "(IZIZ)V"⟩, 47) := ⟨⟨by decide +kernel, by decide +kernel⟩, List.mem_of_getElem? (i := 959) (by decide +kernel), List.mem_of_getElem? (i := 1259) (by decide +kernel), List.mem_of_getElem? (i := 1260) (by decide +kernel)⟩
theorem lw_p19 : lw_okq (⟨"WheelAndWireModel", "make", "(I)I"⟩, 47) := ⟨⟨by decide +kernel, by decide +kernel⟩, List.mem_of_getElem? (i := 959) (by decide +kernel), List.mem_of_getElem? (i := 1267) (by decide +kernel), List.mem_of_getElem? (i := 1268) (by decide +kernel)⟩
theorem lw_p20 : lw_okq (⟨"WheelAndWireModel", "findTwo", "(IIIII)V"⟩, 47) := ⟨⟨by decide +kernel, by decide +kernel⟩, List.mem_of_getElem? (i := 959) (by decide +kernel), List.mem_of_getElem? (i := 1275) (by decide +kernel), List.mem_of_getElem? (i := 1276) (by decide +kernel)⟩
theorem lw_p21 : lw_okq (⟨"WheelAndWireModel", "putAside", "()V"⟩, 47) := ⟨⟨by decide +kernel, by decide +kernel⟩, List.mem_of_getElem? (i := 959) (by decide +kernel), List.mem_of_getElem? (i := 1279) (by decide +kernel), List.mem_of_getElem? (i := 1280) (by decide +kernel)⟩
theorem lw_p22 : lw_okq (⟨"WheelAndWireModel", "second", "(III)I"⟩, 47) := ⟨⟨by decide +kernel, by decide +kernel⟩, List.mem_of_getElem? (i := 959) (by decide +kernel), List.mem_of_getElem? (i := 1283) (by decide +kernel), List.mem_of_getElem? (i := 1284) (by decide +kernel)⟩
theorem lw_p23 : lw_okq (⟨"WheelAndWireModel", "keepTwo", "(II)V"⟩, 47) := ⟨⟨by decide +kernel, by decide +kernel⟩, List.mem_of_getElem? (i := 959) (by decide +kernel), List.mem_of_getElem? (i := 1287) (by decide +kernel), List.mem_of_getElem? (i := 1288) (by decide +kernel)⟩
theorem lw_p24 : lw_okq (⟨"WheelAndWireModel", "takeBack", "()V"⟩, 47) := ⟨⟨by decide +kernel, by decide +kernel⟩, List.mem_of_getElem? (i := 959) (by decide +kernel), List.mem_of_getElem? (i := 1291) (by decide +kernel), List.mem_of_getElem? (i := 1292) (by decide +kernel)⟩
theorem lw_p25 : lw_okq (⟨"WheelAndWireModel", "wholeWire", "()I"⟩, 47) := ⟨⟨by decide +kernel, by decide +kernel⟩, List.mem_of_getElem? (i := 959) (by decide +kernel), List.mem_of_getElem? (i := 1312) (by decide +kernel), List.mem_of_getElem? (i := 1313) (by decide +kernel)⟩
theorem lw_p26 : lw_okq (⟨"WheelAndWireModel", "layWires", "()V"⟩, 47) := ⟨⟨by decide +kernel, by decide +kernel⟩, List.mem_of_getElem? (i := 959) (by decide +kernel), List.mem_of_getElem? (i := 1316) (by decide +kernel), List.mem_of_getElem? (i := 1317) (by decide +kernel)⟩
theorem lw_p27 : lw_okq (⟨"WheelAndWireModel", "layBlocks", "()V"⟩, 47) := ⟨⟨by decide +kernel, by decide +kernel⟩, List.mem_of_getElem? (i := 959) (by decide +kernel), List.mem_of_getElem? (i := 1320) (by decide +kernel), List.mem_of_getElem? (i := 1321) (by decide +kernel)⟩
theorem lw_p28 : lw_okq (⟨"WheelAndWireModel", "isAsk", "(II)Z"⟩, 47) := ⟨⟨by decide +kernel, by decide +kernel⟩, List.mem_of_getElem? (i := 959) (by decide +kernel), List.mem_of_getElem? (i := 1327) (by decide +kernel), List.mem_of_getElem? (i := 1328) (by decide +kernel)⟩
theorem lw_p29 : lw_okq (⟨"WheelAndWireModel", "bestWire", "(IIIII)I"⟩, 47) := ⟨⟨by decide +kernel, by decide +kernel⟩, List.mem_of_getElem? (i := 959) (by decide +kernel), List.mem_of_getElem? (i := 1331) (by decide +kernel), List.mem_of_getElem? (i := 1332) (by decide +kernel)⟩
theorem lw_p30 : lw_okq (⟨"WheelAndWireModel", "bestOf", "(IIIIZZ)I"⟩, 47) := ⟨⟨by decide +kernel, by decide +kernel⟩, List.mem_of_getElem? (i := 959) (by decide +kernel), List.mem_of_getElem? (i := 1343) (by decide +kernel), List.mem_of_getElem? (i := 1344) (by decide +kernel)⟩
theorem lw_p31 : lw_okq (⟨"WheelAndWireModel", "goesThrough", "(IIIIZI)Z"⟩, 47) := ⟨⟨by decide +kernel, by decide +kernel⟩, List.mem_of_getElem? (i := 959) (by decide +kernel), List.mem_of_getElem? (i := 1347) (by decide +kernel), List.mem_of_getElem? (i := 1348) (by decide +kernel)⟩
def lw_privs_2 : List (MethodName × Nat) := [(⟨"WheelAndWireModel", "findCut", "(III)V"⟩, 47), (⟨"WheelAndWireModel", "isPart", "(IZIZIII)Z"⟩, 47), (⟨"WheelAndWireModel", "layPart", "(IZIZ)V"⟩, 47), (⟨"WheelAndWireModel", "make", "(I)I"⟩, 47), (⟨"WheelAndWireModel", "findTwo", "(IIIII)V"⟩, 47), (⟨"WheelAndWireModel", "putAside", "()V"⟩, 47), (⟨"WheelAndWireModel", "second", "(III)I"⟩, 47), (⟨"WheelAndWireModel", "keepTwo", "(II)V"⟩, 47), (⟨"WheelAndWireModel", "takeBack", "()V"⟩, 47), (⟨"WheelAndWireModel", "wholeWire", "()I"⟩, 47), (⟨"WheelAndWireModel", "layWires", "()V"⟩, 47), (⟨"WheelAndWireModel", "layBlocks", "()V"⟩, 47), (⟨"WheelAndWireModel", "isAsk", "(II)Z"⟩, 47), (⟨"WheelAndWireModel", "bestWire", "(IIIII)I"⟩, 47), (⟨"WheelAndWireModel", "bestOf", "(IIIIZZ)I"⟩, 47), (⟨"WheelAndWireModel", "goesThrough", "(IIIIZI)Z"⟩, 47)]
theorem lw_r2 : ∀ q ∈ lw_privs_2, lw_okq q := List.forall_mem_cons.mpr ⟨lw_p16, List.forall_mem_cons.mpr ⟨lw_p17, List.forall_mem_cons.mpr ⟨lw_p18, List.forall_mem_cons.mpr ⟨lw_p19, List.forall_mem_cons.mpr ⟨lw_p20, List.forall_mem_cons.mpr ⟨lw_p21, List.forall_mem_cons.mpr ⟨lw_p22, List.forall_mem_cons.mpr ⟨lw_p23, List.forall_mem_cons.mpr ⟨lw_p24, List.forall_mem_cons.mpr ⟨lw_p25, List.forall_mem_cons.mpr ⟨lw_p26, List.forall_mem_cons.mpr ⟨lw_p27, List.forall_mem_cons.mpr ⟨lw_p28, List.forall_mem_cons.mpr ⟨lw_p29, List.forall_mem_cons.mpr ⟨lw_p30, List.forall_mem_cons.mpr ⟨lw_p31, fun _ h => absurd h List.not_mem_nil⟩⟩⟩⟩⟩⟩⟩⟩⟩⟩⟩⟩⟩⟩⟩⟩
theorem lw_p32 : lw_okq (⟨"WheelAndWireModel", "noBlock", "(I)Z"⟩, 47) := ⟨⟨by decide +kernel, by decide +kernel⟩, List.mem_of_getElem? (i := 959) (by decide +kernel), List.mem_of_getElem? (i := 1358) (by decide +kernel), List.mem_of_getElem? (i := 1359) (by decide +kernel)⟩
theorem lw_p33 : lw_okq (⟨"WheelAndWireModel", "paste", "(I)I"⟩, 47) := ⟨⟨by decide +kernel, by decide +kernel⟩, List.mem_of_getElem? (i := 959) (by decide +kernel), List.mem_of_getElem? (i := 1381) (by decide +kernel), List.mem_of_getElem? (i := 1382) (by decide +kernel)⟩
theorem lw_p34 : lw_okq (⟨"WheelAndWireModel", "ripeIn", "(II)I"⟩, 47) := ⟨⟨by decide +kernel, by decide +kernel⟩, List.mem_of_getElem? (i := 959) (by decide +kernel), List.mem_of_getElem? (i := 1385) (by decide +kernel), List.mem_of_getElem? (i := 1386) (by decide +kernel)⟩
theorem lw_p35 : lw_okq (⟨"WheelAndWireModel", "isRipe", "(III)Z"⟩, 47) := ⟨⟨by decide +kernel, by decide +kernel⟩, List.mem_of_getElem? (i := 959) (by decide +kernel), List.mem_of_getElem? (i := 1389) (by decide +kernel), List.mem_of_getElem? (i := 1390) (by decide +kernel)⟩
theorem lw_p36 : lw_okq (⟨"WheelAndWireModel", "earns", "(I)I"⟩, 47) := ⟨⟨by decide +kernel, by decide +kernel⟩, List.mem_of_getElem? (i := 959) (by decide +kernel), List.mem_of_getElem? (i := 1411) (by decide +kernel), List.mem_of_getElem? (i := 1412) (by decide +kernel)⟩
theorem lw_p37 : lw_okq (⟨"WheelAndWireModel", "gain", "(I)I"⟩, 47) := ⟨⟨by decide +kernel, by decide +kernel⟩, List.mem_of_getElem? (i := 959) (by decide +kernel), List.mem_of_getElem? (i := 1428) (by decide +kernel), List.mem_of_getElem? (i := 1429) (by decide +kernel)⟩
theorem lw_p38 : lw_okq (⟨"WheelAndWireModel", "standing", "()I"⟩, 47) := ⟨⟨by decide +kernel, by decide +kernel⟩, List.mem_of_getElem? (i := 959) (by decide +kernel), List.mem_of_getElem? (i := 1449) (by decide +kernel), List.mem_of_getElem? (i := 1450) (by decide +kernel)⟩
def lw_privs_3 : List (MethodName × Nat) := [(⟨"WheelAndWireModel", "noBlock", "(I)Z"⟩, 47), (⟨"WheelAndWireModel", "paste", "(I)I"⟩, 47), (⟨"WheelAndWireModel", "ripeIn", "(II)I"⟩, 47), (⟨"WheelAndWireModel", "isRipe", "(III)Z"⟩, 47), (⟨"WheelAndWireModel", "earns", "(I)I"⟩, 47), (⟨"WheelAndWireModel", "gain", "(I)I"⟩, 47), (⟨"WheelAndWireModel", "standing", "()I"⟩, 47)]
theorem lw_r3 : ∀ q ∈ lw_privs_3, lw_okq q := List.forall_mem_cons.mpr ⟨lw_p32, List.forall_mem_cons.mpr ⟨lw_p33, List.forall_mem_cons.mpr ⟨lw_p34, List.forall_mem_cons.mpr ⟨lw_p35, List.forall_mem_cons.mpr ⟨lw_p36, List.forall_mem_cons.mpr ⟨lw_p37, List.forall_mem_cons.mpr ⟨lw_p38, fun _ h => absurd h List.not_mem_nil⟩⟩⟩⟩⟩⟩⟩
def lw_privs : List (MethodName × Nat) := lw_privs_1 ++ (lw_privs_2 ++ (lw_privs_3))
def lw_tbl : List Cond := k2_sels lw_privs ++ tables_1
theorem lw_privs_ok : ∀ q ∈ lw_privs, lw_okq q := by
  show ∀ q ∈ lw_privs_1 ++ (lw_privs_2 ++ (lw_privs_3)), lw_okq q
  exact List.forall_mem_append.mpr ⟨lw_r1, List.forall_mem_append.mpr ⟨lw_r2, lw_r3⟩⟩

def RX0 : String := "WheelAndWire$Ask"
def TX0 : u_T := fun k => match k with
  | 0 => ("WheelAndWire$Ask", "weight", "I", true)
  | 1 => ("WheelAndWire$Ask", "most", "I", true)
  | _ => ("WheelAndWire$Ask", "rind", "I", true)
def tyX0 : Nat → FieldType := fun k => match k with
  | 0 => .int
  | 1 => .int
  | _ => .int
theorem nmX0 : ∀ a, a < 3 → ∀ b, b < 3 → a ≠ b → (TX0 a).2.1 ≠ (TX0 b).2.1 := by decide +kernel
theorem tyX0_ok : ∀ k, k < 3 → parseFieldDescriptor (TX0 k).2.2.1 = some (tyX0 k) := by decide +kernel
abbrev cX0_init : ByteArray := prog_2_method_1_code
def yX0_init : MethodName := ⟨RX0, "<init>", "(III)V"⟩
abbrev cX0_fits : ByteArray := prog_2_method_2_code
def yX0_fits : MethodName := ⟨RX0, "fits", "(II)Z"⟩
abbrev cX0_isServedBy : ByteArray := prog_2_method_3_code
def yX0_isServedBy : MethodName := ⟨RX0, "isServedBy", "(LWheelAndWire$Piece;)Z"⟩
def RX1 : String := "WheelAndWire$Board"
def TX1 : u_T := fun k => match k with
  | 0 => ("WheelAndWire$Board", "form", "LWheelAndWire$Form;", true)
  | 1 => ("WheelAndWire$Board", "pieces", "[LWheelAndWire$Piece;", true)
  | 2 => ("WheelAndWire$Board", "spare", "LWheelAndWire$Piece;", true)
  | 3 => ("WheelAndWire$Board", "size", "I", false)
  | 4 => ("WheelAndWire$Board", "halfHours", "I", false)
  | _ => ("WheelAndWire$Board", "filled", "Z", false)
def tyX1 : Nat → FieldType := fun k => match k with
  | 0 => .object "WheelAndWire$Form"
  | 1 => .array (.object "WheelAndWire$Piece")
  | 2 => .object "WheelAndWire$Piece"
  | 3 => .int
  | 4 => .int
  | _ => .boolean
theorem nmX1 : ∀ a, a < 6 → ∀ b, b < 6 → a ≠ b → (TX1 a).2.1 ≠ (TX1 b).2.1 := by decide +kernel
theorem tyX1_ok : ∀ k, k < 6 → parseFieldDescriptor (TX1 k).2.2.1 = some (tyX1 k) := by decide +kernel
abbrev cX1_init : ByteArray := prog_3_method_1_code
def yX1_init : MethodName := ⟨RX1, "<init>", "(LWheelAndWire$Form;)V"⟩
abbrev cX1_startAnew : ByteArray := prog_3_method_2_code
def yX1_startAnew : MethodName := ⟨RX1, "startAnew", "()V"⟩
abbrev cX1_become : ByteArray := prog_3_method_3_code
def yX1_become : MethodName := ⟨RX1, "become", "(LWheelAndWire$Board;)V"⟩
abbrev cX1_knows : ByteArray := prog_3_method_4_code
def yX1_knows : MethodName := ⟨RX1, "knows", "(I)Z"⟩
abbrev cX1_stillHas : ByteArray := prog_3_method_5_code
def yX1_stillHas : MethodName := ⟨RX1, "stillHas", "(I)Z"⟩
abbrev cX1_standing : ByteArray := prog_3_method_6_code
def yX1_standing : MethodName := ⟨RX1, "standing", "()I"⟩
abbrev cX1_divide : ByteArray := prog_3_method_7_code
def yX1_divide : MethodName := ⟨RX1, "divide", "(IZI)I"⟩
abbrev cX1_goBy : ByteArray := prog_3_method_8_code
def yX1_goBy : MethodName := ⟨RX1, "goBy", "(I)V"⟩
abbrev cX1_ripestPiece : ByteArray := prog_3_method_9_code
def yX1_ripestPiece : MethodName := ⟨RX1, "ripestPiece", "(I)I"⟩
def RX2 : String := "WheelAndWire$Books"
def TX2 : u_T := fun k => match k with
  | 0 => ("WheelAndWire$Books", "limits", "[I", true)
  | 1 => ("WheelAndWire$Books", "times", "[I", true)
  | 2 => ("WheelAndWire$Books", "bought", "[I", true)
  | _ => ("WheelAndWire$Books", "overs", "I", false)
def tyX2 : Nat → FieldType := fun k => match k with
  | 0 => .array .int
  | 1 => .array .int
  | 2 => .array .int
  | _ => .int
theorem nmX2 : ∀ a, a < 4 → ∀ b, b < 4 → a ≠ b → (TX2 a).2.1 ≠ (TX2 b).2.1 := by decide +kernel
theorem tyX2_ok : ∀ k, k < 4 → parseFieldDescriptor (TX2 k).2.2.1 = some (tyX2 k) := by decide +kernel
abbrev cX2_init : ByteArray := prog_4_method_1_code
def yX2_init : MethodName := ⟨RX2, "<init>", "()V"⟩
abbrev cX2_enter : ByteArray := prog_4_method_2_code
def yX2_enter : MethodName := ⟨RX2, "enter", "(I)V"⟩
abbrev cX2_earnings : ByteArray := prog_4_method_3_code
def yX2_earnings : MethodName := ⟨RX2, "earnings", "(I)I"⟩
abbrev cX2_dearestOver : ByteArray := prog_4_method_4_code
def yX2_dearestOver : MethodName := ⟨RX2, "dearestOver", "()I"⟩
abbrev cX2_enterTaste : ByteArray := prog_4_method_5_code
def yX2_enterTaste : MethodName := ⟨RX2, "enterTaste", "(IZ)V"⟩
abbrev cX2_gainAbove : ByteArray := prog_4_method_6_code
def yX2_gainAbove : MethodName := ⟨RX2, "gainAbove", "(I)J"⟩
abbrev cX2_gainBelow : ByteArray := prog_4_method_7_code
def yX2_gainBelow : MethodName := ⟨RX2, "gainBelow", "(I)J"⟩
abbrev cX2_dearestTastes : ByteArray := prog_4_method_8_code
def yX2_dearestTastes : MethodName := ⟨RX2, "dearestTastes", "()I"⟩
def RX3 : String := "WheelAndWire$FairPlan"
def TX3 : u_T := fun k => match k with
  | 0 => ("WheelAndWire$Plan", "form", "LWheelAndWire$Form;", true)
  | 1 => ("WheelAndWire$Plan", "wishes", "I", true)
  | 2 => ("WheelAndWire$Plan", "costs", "[I", true)
  | 3 => ("WheelAndWire$FairPlan", "weightEach", "I", false)
  | _ => ("WheelAndWire$FairPlan", "rindEach", "I", false)
def tyX3 : Nat → FieldType := fun k => match k with
  | 0 => .object "WheelAndWire$Form"
  | 1 => .int
  | 2 => .array .int
  | 3 => .int
  | _ => .int
theorem nmX3 : ∀ a, a < 5 → ∀ b, b < 5 → a ≠ b → (TX3 a).2.1 ≠ (TX3 b).2.1 := by decide +kernel
theorem tyX3_ok : ∀ k, k < 5 → parseFieldDescriptor (TX3 k).2.2.1 = some (tyX3 k) := by decide +kernel
abbrev cX3_init : ByteArray := prog_5_method_1_code
def yX3_init : MethodName := ⟨RX3, "<init>", "(LWheelAndWire$Form;)V"⟩
abbrev cX3_shortest : ByteArray := prog_5_method_2_code
def yX3_shortest : MethodName := ⟨RX3, "shortest", "(I)I"⟩
abbrev cX3_verdict : ByteArray := prog_5_method_3_code
def yX3_verdict : MethodName := ⟨RX3, "verdict", "(IIIII)I"⟩
abbrev cX3_cutPrice : ByteArray := prog_5_method_4_code
def yX3_cutPrice : MethodName := ⟨RX3, "cutPrice", "(I)I"⟩
def RX4 : String := "WheelAndWire$Form"
def TX4 : u_T := fun k => match k with
  | 0 => ("WheelAndWire$Form", "kinds", "[I", true)
  | 1 => ("WheelAndWire$Form", "weightSums", "[I", true)
  | 2 => ("WheelAndWire$Form", "rindSums", "[I", true)
  | 3 => ("WheelAndWire$Form", "rows", "I", false)
  | 4 => ("WheelAndWire$Form", "columns", "I", false)
  | 5 => ("WheelAndWire$Form", "ripeFrom", "I", false)
  | _ => ("WheelAndWire$Form", "ripeFor", "I", false)
def tyX4 : Nat → FieldType := fun k => match k with
  | 0 => .array .int
  | 1 => .array .int
  | 2 => .array .int
  | 3 => .int
  | 4 => .int
  | 5 => .int
  | _ => .int
theorem nmX4 : ∀ a, a < 7 → ∀ b, b < 7 → a ≠ b → (TX4 a).2.1 ≠ (TX4 b).2.1 := by decide +kernel
theorem tyX4_ok : ∀ k, k < 7 → parseFieldDescriptor (TX4 k).2.2.1 = some (tyX4 k) := by decide +kernel
abbrev cX4_init : ByteArray := prog_6_method_1_code
def yX4_init : MethodName := ⟨RX4, "<init>", "()V"⟩
abbrev cX4_take : ByteArray := prog_6_method_2_code
def yX4_take : MethodName := ⟨RX4, "take", "(LWheelAndWire$Text;)V"⟩
abbrev cX4_addUp : ByteArray := prog_6_method_3_code
def yX4_addUp : MethodName := ⟨RX4, "addUp", "()V"⟩
abbrev cX4_addPlace : ByteArray := prog_6_method_4_code
def yX4_addPlace : MethodName := ⟨RX4, "addPlace", "([IIII)V"⟩
abbrev cX4_kindAt : ByteArray := prog_6_method_5_code
def yX4_kindAt : MethodName := ⟨RX4, "kindAt", "(II)I"⟩
abbrev cX4_holds : ByteArray := prog_6_method_6_code
def yX4_holds : MethodName := ⟨RX4, "holds", "(IIII)Z"⟩
abbrev cX4_weightIn : ByteArray := prog_6_method_7_code
def yX4_weightIn : MethodName := ⟨RX4, "weightIn", "(IIII)I"⟩
abbrev cX4_rindIn : ByteArray := prog_6_method_8_code
def yX4_rindIn : MethodName := ⟨RX4, "rindIn", "(IIII)I"⟩
abbrev cX4_sumIn : ByteArray := prog_6_method_9_code
def yX4_sumIn : MethodName := ⟨RX4, "sumIn", "([IIIII)I"⟩
abbrev cX4_isRipe : ByteArray := prog_6_method_10_code
def yX4_isRipe : MethodName := ⟨RX4, "isRipe", "(III)Z"⟩
def RX5 : String := "WheelAndWire$LeftPlan"
def TX5 : u_T := fun k => match k with
  | 0 => ("WheelAndWire$Plan", "form", "LWheelAndWire$Form;", true)
  | 1 => ("WheelAndWire$Plan", "wishes", "I", true)
  | 2 => ("WheelAndWire$Plan", "costs", "[I", true)
  | 3 => ("WheelAndWire$LeftPlan", "tops", "[I", true)
  | 4 => ("WheelAndWire$LeftPlan", "bottoms", "[I", true)
  | 5 => ("WheelAndWire$LeftPlan", "lefts", "[I", true)
  | 6 => ("WheelAndWire$LeftPlan", "rights", "[I", true)
  | 7 => ("WheelAndWire$LeftPlan", "size", "I", false)
  | _ => ("WheelAndWire$LeftPlan", "workedOut", "Z", false)
def tyX5 : Nat → FieldType := fun k => match k with
  | 0 => .object "WheelAndWire$Form"
  | 1 => .int
  | 2 => .array .int
  | 3 => .array .int
  | 4 => .array .int
  | 5 => .array .int
  | 6 => .array .int
  | 7 => .int
  | _ => .boolean
theorem nmX5 : ∀ a, a < 9 → ∀ b, b < 9 → a ≠ b → (TX5 a).2.1 ≠ (TX5 b).2.1 := by decide +kernel
theorem tyX5_ok : ∀ k, k < 9 → parseFieldDescriptor (TX5 k).2.2.1 = some (tyX5 k) := by decide +kernel
abbrev cX5_init : ByteArray := prog_7_method_1_code
def yX5_init : MethodName := ⟨RX5, "<init>", "(LWheelAndWire$Form;)V"⟩
abbrev cX5_enter : ByteArray := prog_7_method_2_code
def yX5_enter : MethodName := ⟨RX5, "enter", "(IIII)V"⟩
abbrev cX5_empty : ByteArray := prog_7_method_3_code
def yX5_empty : MethodName := ⟨RX5, "empty", "()V"⟩
abbrev cX5_touches : ByteArray := prog_7_method_4_code
def yX5_touches : MethodName := ⟨RX5, "touches", "(IIII)Z"⟩
abbrev cX5_isApart : ByteArray := prog_7_method_5_code
def yX5_isApart : MethodName := ⟨RX5, "isApart", "(IIIII)Z"⟩
abbrev cX5_fewest : ByteArray := prog_7_method_6_code
def yX5_fewest : MethodName := ⟨RX5, "fewest", "()I"⟩
abbrev cX5_verdict : ByteArray := prog_7_method_7_code
def yX5_verdict : MethodName := ⟨RX5, "verdict", "(IIIII)I"⟩
abbrev cX5_cutPrice : ByteArray := prog_7_method_8_code
def yX5_cutPrice : MethodName := ⟨RX5, "cutPrice", "(I)I"⟩
def RX6 : String := "WheelAndWire$OrderPlan"
def TX6 : u_T := fun k => match k with
  | 0 => ("WheelAndWire$Plan", "form", "LWheelAndWire$Form;", true)
  | 1 => ("WheelAndWire$Plan", "wishes", "I", true)
  | 2 => ("WheelAndWire$Plan", "costs", "[I", true)
  | 3 => ("WheelAndWire$OrderPlan", "asks", "[LWheelAndWire$Ask;", true)
  | 4 => ("WheelAndWire$OrderPlan", "leastWeights", "[I", true)
  | 5 => ("WheelAndWire$OrderPlan", "size", "I", false)
  | _ => ("WheelAndWire$OrderPlan", "workedOut", "Z", false)
def tyX6 : Nat → FieldType := fun k => match k with
  | 0 => .object "WheelAndWire$Form"
  | 1 => .int
  | 2 => .array .int
  | 3 => .array (.object "WheelAndWire$Ask")
  | 4 => .array .int
  | 5 => .int
  | _ => .boolean
theorem nmX6 : ∀ a, a < 7 → ∀ b, b < 7 → a ≠ b → (TX6 a).2.1 ≠ (TX6 b).2.1 := by decide +kernel
theorem tyX6_ok : ∀ k, k < 7 → parseFieldDescriptor (TX6 k).2.2.1 = some (tyX6 k) := by decide +kernel
abbrev cX6_init : ByteArray := prog_8_method_1_code
def yX6_init : MethodName := ⟨RX6, "<init>", "(LWheelAndWire$Form;)V"⟩
abbrev cX6_enter : ByteArray := prog_8_method_2_code
def yX6_enter : MethodName := ⟨RX6, "enter", "(LWheelAndWire$Ask;)V"⟩
abbrev cX6_empty : ByteArray := prog_8_method_3_code
def yX6_empty : MethodName := ⟨RX6, "empty", "()V"⟩
abbrev cX6_everyAsk : ByteArray := prog_8_method_4_code
def yX6_everyAsk : MethodName := ⟨RX6, "everyAsk", "()I"⟩
abbrev cX6_shortest : ByteArray := prog_8_method_5_code
def yX6_shortest : MethodName := ⟨RX6, "shortest", "()I"⟩
abbrev cX6_addUpWishes : ByteArray := prog_8_method_6_code
def yX6_addUpWishes : MethodName := ⟨RX6, "addUpWishes", "()V"⟩
abbrev cX6_firstCut : ByteArray := prog_8_method_7_code
def yX6_firstCut : MethodName := ⟨RX6, "firstCut", "(I)I"⟩
abbrev cX6_verdict : ByteArray := prog_8_method_8_code
def yX6_verdict : MethodName := ⟨RX6, "verdict", "(IIIII)I"⟩
abbrev cX6_cutPrice : ByteArray := prog_8_method_9_code
def yX6_cutPrice : MethodName := ⟨RX6, "cutPrice", "(I)I"⟩
def RX7 : String := "WheelAndWire$Piece"
def TX7 : u_T := fun k => match k with
  | 0 => ("WheelAndWire$Piece", "row", "I", false)
  | 1 => ("WheelAndWire$Piece", "column", "I", false)
  | 2 => ("WheelAndWire$Piece", "rows", "I", false)
  | 3 => ("WheelAndWire$Piece", "columns", "I", false)
  | 4 => ("WheelAndWire$Piece", "placesWeight", "I", false)
  | 5 => ("WheelAndWire$Piece", "rind", "I", false)
  | 6 => ("WheelAndWire$Piece", "state", "I", false)
  | 7 => ("WheelAndWire$Piece", "wrapping", "I", false)
  | 8 => ("WheelAndWire$Piece", "off", "I", false)
  | 9 => ("WheelAndWire$Piece", "driedAbove", "I", false)
  | 10 => ("WheelAndWire$Piece", "driedBelow", "I", false)
  | 11 => ("WheelAndWire$Piece", "driedLeft", "I", false)
  | _ => ("WheelAndWire$Piece", "driedRight", "I", false)
def tyX7 : Nat → FieldType := fun k => match k with
  | 0 => .int
  | 1 => .int
  | 2 => .int
  | 3 => .int
  | 4 => .int
  | 5 => .int
  | 6 => .int
  | 7 => .int
  | 8 => .int
  | 9 => .int
  | 10 => .int
  | 11 => .int
  | _ => .int
theorem nmX7 : ∀ a, a < 13 → ∀ b, b < 13 → a ≠ b → (TX7 a).2.1 ≠ (TX7 b).2.1 := by decide +kernel
theorem tyX7_ok : ∀ k, k < 13 → parseFieldDescriptor (TX7 k).2.2.1 = some (tyX7 k) := by decide +kernel
abbrev cX7_init : ByteArray := prog_9_method_1_code
def yX7_init : MethodName := ⟨RX7, "<init>", "()V"⟩
abbrev cX7_becomeAll : ByteArray := prog_9_method_2_code
def yX7_becomeAll : MethodName := ⟨RX7, "becomeAll", "(LWheelAndWire$Form;)V"⟩
abbrev cX7_become : ByteArray := prog_9_method_3_code
def yX7_become : MethodName := ⟨RX7, "become", "(LWheelAndWire$Piece;)V"⟩
abbrev cX7_block : ByteArray := prog_9_method_4_code
def yX7_block : MethodName := ⟨RX7, "block", "()I"⟩
abbrev cX7_edgesAbove : ByteArray := prog_9_method_5_code
def yX7_edgesAbove : MethodName := ⟨RX7, "edgesAbove", "()I"⟩
abbrev cX7_edgesBelow : ByteArray := prog_9_method_6_code
def yX7_edgesBelow : MethodName := ⟨RX7, "edgesBelow", "(LWheelAndWire$Form;)I"⟩
abbrev cX7_edgesLeft : ByteArray := prog_9_method_7_code
def yX7_edgesLeft : MethodName := ⟨RX7, "edgesLeft", "()I"⟩
abbrev cX7_edgesRight : ByteArray := prog_9_method_8_code
def yX7_edgesRight : MethodName := ⟨RX7, "edgesRight", "(LWheelAndWire$Form;)I"⟩
abbrev cX7_bareEdges : ByteArray := prog_9_method_9_code
def yX7_bareEdges : MethodName := ⟨RX7, "bareEdges", "(LWheelAndWire$Form;)I"⟩
abbrev cX7_isEnd : ByteArray := prog_9_method_10_code
def yX7_isEnd : MethodName := ⟨RX7, "isEnd", "(LWheelAndWire$Form;)Z"⟩
abbrev cX7_dried : ByteArray := prog_9_method_11_code
def yX7_dried : MethodName := ⟨RX7, "dried", "()I"⟩
abbrev cX7_weight : ByteArray := prog_9_method_12_code
def yX7_weight : MethodName := ⟨RX7, "weight", "()I"⟩
abbrev cX7_dry : ByteArray := prog_9_method_13_code
def yX7_dry : MethodName := ⟨RX7, "dry", "(LWheelAndWire$Form;I)V"⟩
abbrev cX7_dryAnew : ByteArray := prog_9_method_14_code
def yX7_dryAnew : MethodName := ⟨RX7, "dryAnew", "()V"⟩
abbrev cX7_shave : ByteArray := prog_9_method_15_code
def yX7_shave : MethodName := ⟨RX7, "shave", "(LWheelAndWire$Form;)V"⟩
abbrev cX7_cuts : ByteArray := prog_9_method_16_code
def yX7_cuts : MethodName := ⟨RX7, "cuts", "()I"⟩
abbrev cX7_isAcross : ByteArray := prog_9_method_17_code
def yX7_isAcross : MethodName := ⟨RX7, "isAcross", "(I)Z"⟩
abbrev cX7_cutAt : ByteArray := prog_9_method_18_code
def yX7_cutAt : MethodName := ⟨RX7, "cutAt", "(I)I"⟩
abbrev cX7_cutEdges : ByteArray := prog_9_method_19_code
def yX7_cutEdges : MethodName := ⟨RX7, "cutEdges", "(I)I"⟩
abbrev cX7_part : ByteArray := prog_9_method_20_code
def yX7_part : MethodName := ⟨RX7, "part", "(LWheelAndWire$Form;ZILWheelAndWire$Piece;LWheelAndWire$Piece;)V"⟩
abbrev cX7_share : ByteArray := prog_9_method_21_code
def yX7_share : MethodName := ⟨RX7, "share", "(III)I"⟩
abbrev cX7_pastePlaces : ByteArray := prog_9_method_22_code
def yX7_pastePlaces : MethodName := ⟨RX7, "pastePlaces", "(LWheelAndWire$Form;)I"⟩
abbrev cX7_ripePlaces : ByteArray := prog_9_method_23_code
def yX7_ripePlaces : MethodName := ⟨RX7, "ripePlaces", "(LWheelAndWire$Form;I)I"⟩
def RX8 : String := "WheelAndWire$Plan"
def TX8 : u_T := fun k => match k with
  | _ => ("", "", "", false)
def tyX8 : Nat → FieldType := fun k => match k with
  | _ => .int
theorem nmX8 : ∀ a, a < 0 → ∀ b, b < 0 → a ≠ b → (TX8 a).2.1 ≠ (TX8 b).2.1 := by decide +kernel
theorem tyX8_ok : ∀ k, k < 0 → parseFieldDescriptor (TX8 k).2.2.1 = some (tyX8 k) := by decide +kernel
abbrev cX8_init : ByteArray := prog_10_method_1_code
def yX8_init : MethodName := ⟨RX8, "<init>", "(LWheelAndWire$Form;I)V"⟩
abbrev cX8_workOut : ByteArray := prog_10_method_4_code
def yX8_workOut : MethodName := ⟨RX8, "workOut", "(I)V"⟩
abbrev cX8_settle : ByteArray := prog_10_method_5_code
def yX8_settle : MethodName := ⟨RX8, "settle", "(IIIII)V"⟩
abbrev cX8_leastCut : ByteArray := prog_10_method_6_code
def yX8_leastCut : MethodName := ⟨RX8, "leastCut", "(IIIII)I"⟩
abbrev cX8_cutCost : ByteArray := prog_10_method_7_code
def yX8_cutCost : MethodName := ⟨RX8, "cutCost", "(IIIIZII)I"⟩
abbrev cX8_bothCost : ByteArray := prog_10_method_8_code
def yX8_bothCost : MethodName := ⟨RX8, "bothCost", "(III)I"⟩
abbrev cX8_costOfAll : ByteArray := prog_10_method_9_code
def yX8_costOfAll : MethodName := ⟨RX8, "costOfAll", "(I)I"⟩
abbrev cX8_spotOf : ByteArray := prog_10_method_10_code
def yX8_spotOf : MethodName := ⟨RX8, "spotOf", "(IIII)I"⟩
def RX9 : String := "WheelAndWire$Shop"
def TX9 : u_T := fun k => match k with
  | 0 => ("WheelAndWire$Shop", "form", "LWheelAndWire$Form;", true)
  | 1 => ("WheelAndWire$Shop", "board", "LWheelAndWire$Board;", true)
  | 2 => ("WheelAndWire$Shop", "ahead", "LWheelAndWire$Piece;", true)
  | 3 => ("WheelAndWire$Shop", "behind", "LWheelAndWire$Piece;", true)
  | 4 => ("WheelAndWire$Shop", "laterAhead", "LWheelAndWire$Piece;", true)
  | 5 => ("WheelAndWire$Shop", "laterBehind", "LWheelAndWire$Piece;", true)
  | 6 => ("WheelAndWire$Shop", "laterWires", "[I", true)
  | 7 => ("WheelAndWire$Shop", "twoWire", "I", false)
  | _ => ("WheelAndWire$Shop", "twoWay", "I", false)
def tyX9 : Nat → FieldType := fun k => match k with
  | 0 => .object "WheelAndWire$Form"
  | 1 => .object "WheelAndWire$Board"
  | 2 => .object "WheelAndWire$Piece"
  | 3 => .object "WheelAndWire$Piece"
  | 4 => .object "WheelAndWire$Piece"
  | 5 => .object "WheelAndWire$Piece"
  | 6 => .array .int
  | 7 => .int
  | _ => .int
theorem nmX9 : ∀ a, a < 9 → ∀ b, b < 9 → a ≠ b → (TX9 a).2.1 ≠ (TX9 b).2.1 := by decide +kernel
theorem tyX9_ok : ∀ k, k < 9 → parseFieldDescriptor (TX9 k).2.2.1 = some (tyX9 k) := by decide +kernel
abbrev cX9_init : ByteArray := prog_11_method_1_code
def yX9_init : MethodName := ⟨RX9, "<init>", "(LWheelAndWire$Form;LWheelAndWire$Board;)V"⟩
abbrev cX9_lightestPiece : ByteArray := prog_11_method_2_code
def yX9_lightestPiece : MethodName := ⟨RX9, "lightestPiece", "(LWheelAndWire$Ask;)I"⟩
abbrev cX9_shortestCut : ByteArray := prog_11_method_3_code
def yX9_shortestCut : MethodName := ⟨RX9, "shortestCut", "(LWheelAndWire$Ask;)I"⟩
abbrev cX9_told : ByteArray := prog_11_method_4_code
def yX9_told : MethodName := ⟨RX9, "told", "(IIZ)I"⟩
abbrev cX9_cutOff : ByteArray := prog_11_method_5_code
def yX9_cutOff : MethodName := ⟨RX9, "cutOff", "(I)I"⟩
abbrev cX9_lookTwoAhead : ByteArray := prog_11_method_6_code
def yX9_lookTwoAhead : MethodName := ⟨RX9, "lookTwoAhead", "(LWheelAndWire$Ask;LWheelAndWire$Ask;)V"⟩
abbrev cX9_tryCuts : ByteArray := prog_11_method_7_code
def yX9_tryCuts : MethodName := ⟨RX9, "tryCuts", "(ILWheelAndWire$Ask;LWheelAndWire$Ask;)V"⟩
abbrev cX9_weighWay : ByteArray := prog_11_method_8_code
def yX9_weighWay : MethodName := ⟨RX9, "weighWay", "(II)V"⟩
abbrev cX9_laterWire : ByteArray := prog_11_method_9_code
def yX9_laterWire : MethodName := ⟨RX9, "laterWire", "(LWheelAndWire$Piece;LWheelAndWire$Ask;Z)I"⟩
abbrev cX9_laterWireElsewhere : ByteArray := prog_11_method_10_code
def yX9_laterWireElsewhere : MethodName := ⟨RX9, "laterWireElsewhere", "(IZ)I"⟩
def RX10 : String := "WheelAndWire$Text"
def TX10 : u_T := fun k => match k with
  | 0 => ("WheelAndWire$Text", "bytes", "[I", true)
  | _ => ("WheelAndWire$Text", "length", "I", false)
def tyX10 : Nat → FieldType := fun k => match k with
  | 0 => .array .int
  | _ => .int
theorem nmX10 : ∀ a, a < 2 → ∀ b, b < 2 → a ≠ b → (TX10 a).2.1 ≠ (TX10 b).2.1 := by decide +kernel
theorem tyX10_ok : ∀ k, k < 2 → parseFieldDescriptor (TX10 k).2.2.1 = some (tyX10 k) := by decide +kernel
abbrev cX10_init : ByteArray := prog_12_method_1_code
def yX10_init : MethodName := ⟨RX10, "<init>", "()V"⟩
abbrev cX10_append : ByteArray := prog_12_method_2_code
def yX10_append : MethodName := ⟨RX10, "append", "(IJ)V"⟩
abbrev cX10_firstFault : ByteArray := prog_12_method_3_code
def yX10_firstFault : MethodName := ⟨RX10, "firstFault", "()I"⟩
def RX11 : String := "WheelAndWire"
def TX11 : u_T := fun k => match k with
  | 0 => ("WheelAndWire", "text", "LWheelAndWire$Text;", true)
  | 1 => ("WheelAndWire", "cheese", "LWheelAndWire$Form;", true)
  | 2 => ("WheelAndWire", "board", "LWheelAndWire$Board;", true)
  | 3 => ("WheelAndWire", "slots", "[LWheelAndWire$Board;", true)
  | 4 => ("WheelAndWire", "shop", "LWheelAndWire$Shop;", true)
  | 5 => ("WheelAndWire", "orderPlan", "LWheelAndWire$OrderPlan;", true)
  | 6 => ("WheelAndWire", "fairPlan", "LWheelAndWire$FairPlan;", true)
  | 7 => ("WheelAndWire", "leftPlan", "LWheelAndWire$LeftPlan;", true)
  | 8 => ("WheelAndWire", "books", "LWheelAndWire$Books;", true)
  | 9 => ("WheelAndWire", "price", "I", false)
  | _ => ("WheelAndWire", "endPrice", "I", false)
def tyX11 : Nat → FieldType := fun k => match k with
  | 0 => .object "WheelAndWire$Text"
  | 1 => .object "WheelAndWire$Form"
  | 2 => .object "WheelAndWire$Board"
  | 3 => .array (.object "WheelAndWire$Board")
  | 4 => .object "WheelAndWire$Shop"
  | 5 => .object "WheelAndWire$OrderPlan"
  | 6 => .object "WheelAndWire$FairPlan"
  | 7 => .object "WheelAndWire$LeftPlan"
  | 8 => .object "WheelAndWire$Books"
  | 9 => .int
  | _ => .int
theorem nmX11 : ∀ a, a < 11 → ∀ b, b < 11 → a ≠ b → (TX11 a).2.1 ≠ (TX11 b).2.1 := by decide +kernel
theorem tyX11_ok : ∀ k, k < 11 → parseFieldDescriptor (TX11 k).2.2.1 = some (tyX11 k) := by decide +kernel
abbrev cX11_init : ByteArray := prog_1_method_1_code
def yX11_init : MethodName := ⟨RX11, "<init>", "()V"⟩
abbrev cX11_write : ByteArray := prog_1_method_2_code
def yX11_write : MethodName := ⟨RX11, "write", "(IJ)I"⟩
abbrev cX11_wipe : ByteArray := prog_1_method_3_code
def yX11_wipe : MethodName := ⟨RX11, "wipe", "()I"⟩
abbrev cX11_fault : ByteArray := prog_1_method_4_code
def yX11_fault : MethodName := ⟨RX11, "fault", "()I"⟩
abbrev cX11_form : ByteArray := prog_1_method_5_code
def yX11_form : MethodName := ⟨RX11, "form", "()I"⟩
abbrev cX11_place : ByteArray := prog_1_method_6_code
def yX11_place : MethodName := ⟨RX11, "place", "(II)I"⟩
abbrev cX11_cut : ByteArray := prog_1_method_7_code
def yX11_cut : MethodName := ⟨RX11, "cut", "(IZI)I"⟩
abbrev cX11_about : ByteArray := prog_1_method_8_code
def yX11_about : MethodName := ⟨RX11, "about", "(II)I"⟩
abbrev cX11_weighs : ByteArray := prog_1_method_9_code
def yX11_weighs : MethodName := ⟨RX11, "weighs", "(I)I"⟩
abbrev cX11_pass : ByteArray := prog_1_method_10_code
def yX11_pass : MethodName := ⟨RX11, "pass", "(I)I"⟩
abbrev cX11_wrap : ByteArray := prog_1_method_11_code
def yX11_wrap : MethodName := ⟨RX11, "wrap", "(II)I"⟩
abbrev cX11_trim : ByteArray := prog_1_method_12_code
def yX11_trim : MethodName := ⟨RX11, "trim", "(I)I"⟩
abbrev cX11_sell : ByteArray := prog_1_method_13_code
def yX11_sell : MethodName := ⟨RX11, "sell", "(IZ)I"⟩
abbrev cX11_serves : ByteArray := prog_1_method_14_code
def yX11_serves : MethodName := ⟨RX11, "serves", "(IIII)I"⟩
abbrev cX11_stands : ByteArray := prog_1_method_15_code
def yX11_stands : MethodName := ⟨RX11, "stands", "(III)I"⟩
abbrev cX11_next : ByteArray := prog_1_method_16_code
def yX11_next : MethodName := ⟨RX11, "next", "(III)I"⟩
abbrev cX11_serve : ByteArray := prog_1_method_17_code
def yX11_serve : MethodName := ⟨RX11, "serve", "(III)I"⟩
abbrev cX11_two : ByteArray := prog_1_method_18_code
def yX11_two : MethodName := ⟨RX11, "two", "(IIIII)I"⟩
abbrev cX11_twoFirst : ByteArray := prog_1_method_19_code
def yX11_twoFirst : MethodName := ⟨RX11, "twoFirst", "(IIIII)I"⟩
abbrev cX11_order : ByteArray := prog_1_method_20_code
def yX11_order : MethodName := ⟨RX11, "order", "(III)I"⟩
abbrev cX11_unorder : ByteArray := prog_1_method_21_code
def yX11_unorder : MethodName := ⟨RX11, "unorder", "()I"⟩
abbrev cX11_whole : ByteArray := prog_1_method_22_code
def yX11_whole : MethodName := ⟨RX11, "whole", "()I"⟩
abbrev cX11_first : ByteArray := prog_1_method_23_code
def yX11_first : MethodName := ⟨RX11, "first", "()I"⟩
abbrev cX11_fair : ByteArray := prog_1_method_24_code
def yX11_fair : MethodName := ⟨RX11, "fair", "(I)I"⟩
abbrev cX11_left : ByteArray := prog_1_method_25_code
def yX11_left : MethodName := ⟨RX11, "left", "(I)I"⟩
abbrev cX11_read : ByteArray := prog_1_method_26_code
def yX11_read : MethodName := ⟨RX11, "read", "()I"⟩
abbrev cX11_unleft : ByteArray := prog_1_method_27_code
def yX11_unleft : MethodName := ⟨RX11, "unleft", "()I"⟩
abbrev cX11_ripens : ByteArray := prog_1_method_28_code
def yX11_ripens : MethodName := ⟨RX11, "ripens", "(II)I"⟩
abbrev cX11_ripe : ByteArray := prog_1_method_29_code
def yX11_ripe : MethodName := ⟨RX11, "ripe", "(IIZ)J"⟩
abbrev cX11_ripest : ByteArray := prog_1_method_30_code
def yX11_ripest : MethodName := ⟨RX11, "ripest", "(I)I"⟩
abbrev cX11_book : ByteArray := prog_1_method_31_code
def yX11_book : MethodName := ⟨RX11, "book", "(I)I"⟩
abbrev cX11_over : ByteArray := prog_1_method_32_code
def yX11_over : MethodName := ⟨RX11, "over", "(I)I"⟩
abbrev cX11_bestOver : ByteArray := prog_1_method_33_code
def yX11_bestOver : MethodName := ⟨RX11, "bestOver", "()I"⟩
abbrev cX11_taste : ByteArray := prog_1_method_34_code
def yX11_taste : MethodName := ⟨RX11, "taste", "(IZ)I"⟩
abbrev cX11_brings : ByteArray := prog_1_method_35_code
def yX11_brings : MethodName := ⟨RX11, "brings", "(IZ)J"⟩
abbrev cX11_bestTaste : ByteArray := prog_1_method_36_code
def yX11_bestTaste : MethodName := ⟨RX11, "bestTaste", "()I"⟩
abbrev cX11_prices : ByteArray := prog_1_method_37_code
def yX11_prices : MethodName := ⟨RX11, "prices", "(II)I"⟩
abbrev cX11_worth : ByteArray := prog_1_method_38_code
def yX11_worth : MethodName := ⟨RX11, "worth", "()I"⟩
abbrev cX11_keep : ByteArray := prog_1_method_39_code
def yX11_keep : MethodName := ⟨RX11, "keep", "(I)I"⟩
abbrev cX11_again : ByteArray := prog_1_method_40_code
def yX11_again : MethodName := ⟨RX11, "again", "(I)I"⟩
abbrev cX11_count : ByteArray := prog_1_method_41_code
def yX11_count : MethodName := ⟨RX11, "count", "(I)I"⟩
abbrev cX11_isAsk : ByteArray := prog_1_method_42_code
def yX11_isAsk : MethodName := ⟨RX11, "isAsk", "(III)Z"⟩
abbrev cX11_commonDivisor : ByteArray := prog_1_method_43_code
def yX11_commonDivisor : MethodName := ⟨RX11, "commonDivisor", "(JJ)J"⟩
abbrev cX11_kindOf : ByteArray := prog_1_method_44_code
def yX11_kindOf : MethodName := ⟨RX11, "kindOf", "(I)I"⟩
def RX12 : String := "WheelAndWireModel"
def TX12 : u_T := fun k => match k with
  | 0 => ("WheelAndWireModel", "thrown", "I", false)
  | 1 => ("WheelAndWireModel", "text", "[I", true)
  | 2 => ("WheelAndWireModel", "textSize", "I", false)
  | 3 => ("WheelAndWireModel", "places", "[I", true)
  | 4 => ("WheelAndWireModel", "rows", "I", false)
  | 5 => ("WheelAndWireModel", "columns", "I", false)
  | 6 => ("WheelAndWireModel", "readPlaces", "[I", true)
  | 7 => ("WheelAndWireModel", "readRows", "I", false)
  | 8 => ("WheelAndWireModel", "readColumns", "I", false)
  | 9 => ("WheelAndWireModel", "many", "I", false)
  | 10 => ("WheelAndWireModel", "top", "[I", true)
  | 11 => ("WheelAndWireModel", "lefts", "[I", true)
  | 12 => ("WheelAndWireModel", "high", "[I", true)
  | 13 => ("WheelAndWireModel", "wide", "[I", true)
  | 14 => ("WheelAndWireModel", "state", "[I", true)
  | 15 => ("WheelAndWireModel", "wrap", "[I", true)
  | 16 => ("WheelAndWireModel", "off", "[I", true)
  | 17 => ("WheelAndWireModel", "dried", "[I", true)
  | 18 => ("WheelAndWireModel", "hours", "I", false)
  | 19 => ("WheelAndWireModel", "aside", "[I", true)
  | 20 => ("WheelAndWireModel", "kept", "[I", true)
  | 21 => ("WheelAndWireModel", "isKept", "[Z", true)
  | 22 => ("WheelAndWireModel", "partWeight", "I", false)
  | 23 => ("WheelAndWireModel", "partRind", "I", false)
  | 24 => ("WheelAndWireModel", "cutFound", "I", false)
  | 25 => ("WheelAndWireModel", "cutEdges", "I", false)
  | 26 => ("WheelAndWireModel", "orders", "I", false)
  | 27 => ("WheelAndWireModel", "askA", "[I", true)
  | 28 => ("WheelAndWireModel", "askO", "[I", true)
  | 29 => ("WheelAndWireModel", "askR", "[I", true)
  | 30 => ("WheelAndWireModel", "weights", "[I", true)
  | 31 => ("WheelAndWireModel", "rinds", "[I", true)
  | 32 => ("WheelAndWireModel", "wires", "[I", true)
  | 33 => ("WheelAndWireModel", "least", "[I", true)
  | 34 => ("WheelAndWireModel", "firstCut", "I", false)
  | 35 => ("WheelAndWireModel", "leftMany", "I", false)
  | 36 => ("WheelAndWireModel", "leftBlock", "[I", true)
  | 37 => ("WheelAndWireModel", "ripeFrom", "I", false)
  | 38 => ("WheelAndWireModel", "ripeLong", "I", false)
  | 39 => ("WheelAndWireModel", "bookMany", "I", false)
  | 40 => ("WheelAndWireModel", "book", "[I", true)
  | 41 => ("WheelAndWireModel", "there", "[I", true)
  | 42 => ("WheelAndWireModel", "bought", "[I", true)
  | 43 => ("WheelAndWireModel", "price", "I", false)
  | 44 => ("WheelAndWireModel", "endPrice", "I", false)
  | 45 => ("WheelAndWireModel", "twoEdges", "I", false)
  | _ => ("WheelAndWireModel", "twoFound", "I", false)
def tyX12 : Nat → FieldType := fun k => match k with
  | 0 => .int
  | 1 => .array .int
  | 2 => .int
  | 3 => .array .int
  | 4 => .int
  | 5 => .int
  | 6 => .array .int
  | 7 => .int
  | 8 => .int
  | 9 => .int
  | 10 => .array .int
  | 11 => .array .int
  | 12 => .array .int
  | 13 => .array .int
  | 14 => .array .int
  | 15 => .array .int
  | 16 => .array .int
  | 17 => .array .int
  | 18 => .int
  | 19 => .array .int
  | 20 => .array .int
  | 21 => .array .boolean
  | 22 => .int
  | 23 => .int
  | 24 => .int
  | 25 => .int
  | 26 => .int
  | 27 => .array .int
  | 28 => .array .int
  | 29 => .array .int
  | 30 => .array .int
  | 31 => .array .int
  | 32 => .array .int
  | 33 => .array .int
  | 34 => .int
  | 35 => .int
  | 36 => .array .int
  | 37 => .int
  | 38 => .int
  | 39 => .int
  | 40 => .array .int
  | 41 => .array .int
  | 42 => .array .int
  | 43 => .int
  | 44 => .int
  | 45 => .int
  | _ => .int
theorem nmX12 : ∀ a, a < 47 → ∀ b, b < 47 → a ≠ b → (TX12 a).2.1 ≠ (TX12 b).2.1 := by decide +kernel
theorem tyX12_ok : ∀ k, k < 47 → parseFieldDescriptor (TX12 k).2.2.1 = some (tyX12 k) := by decide +kernel
abbrev cX12_init : ByteArray := prog_14_method_2_code
def yX12_init : MethodName := ⟨RX12, "<init>", "()V"⟩
abbrev cX12_in : ByteArray := prog_14_method_3_code
def yX12_in : MethodName := ⟨RX12, "in", "(JJJ)Z"⟩
abbrev cX12_write : ByteArray := prog_14_method_4_code
def yX12_write : MethodName := ⟨RX12, "write", "(IJ)I"⟩
abbrev cX12_wipe : ByteArray := prog_14_method_5_code
def yX12_wipe : MethodName := ⟨RX12, "wipe", "()I"⟩
abbrev cX12_kind : ByteArray := prog_14_method_6_code
def yX12_kind : MethodName := ⟨RX12, "kind", "(I)I"⟩
abbrev cX12_readForm : ByteArray := prog_14_method_7_code
def yX12_readForm : MethodName := ⟨RX12, "readForm", "()I"⟩
abbrev cX12_fault : ByteArray := prog_14_method_8_code
def yX12_fault : MethodName := ⟨RX12, "fault", "()I"⟩
abbrev cX12_begin : ByteArray := prog_14_method_9_code
def yX12_begin : MethodName := ⟨RX12, "begin", "()V"⟩
abbrev cX12_form : ByteArray := prog_14_method_10_code
def yX12_form : MethodName := ⟨RX12, "form", "()I"⟩
abbrev cX12_place : ByteArray := prog_14_method_11_code
def yX12_place : MethodName := ⟨RX12, "place", "(II)I"⟩
abbrev cX12_weightOf : ByteArray := prog_14_method_12_code
def yX12_weightOf : MethodName := ⟨RX12, "weightOf", "(IIII)I"⟩
abbrev cX12_countOf : ByteArray := prog_14_method_13_code
def yX12_countOf : MethodName := ⟨RX12, "countOf", "(IIIII)I"⟩
abbrev cX12_noPiece : ByteArray := prog_14_method_14_code
def yX12_noPiece : MethodName := ⟨RX12, "noPiece", "(I)Z"⟩
abbrev cX12_noStand : ByteArray := prog_14_method_15_code
def yX12_noStand : MethodName := ⟨RX12, "noStand", "(I)Z"⟩
abbrev cX12_face : ByteArray := prog_14_method_16_code
def yX12_face : MethodName := ⟨RX12, "face", "(II)I"⟩
abbrev cX12_edges : ByteArray := prog_14_method_17_code
def yX12_edges : MethodName := ⟨RX12, "edges", "(I)I"⟩
abbrev cX12_allDried : ByteArray := prog_14_method_18_code
def yX12_allDried : MethodName := ⟨RX12, "allDried", "(I)I"⟩
abbrev cX12_more : ByteArray := prog_14_method_19_code
def yX12_more : MethodName := ⟨RX12, "more", "(I)I"⟩
abbrev cX12_weighsOf : ByteArray := prog_14_method_20_code
def yX12_weighsOf : MethodName := ⟨RX12, "weighsOf", "(I)I"⟩
abbrev cX12_isEnd : ByteArray := prog_14_method_21_code
def yX12_isEnd : MethodName := ⟨RX12, "isEnd", "(I)Z"⟩
abbrev cX12_offAhead : ByteArray := prog_14_method_22_code
def yX12_offAhead : MethodName := ⟨RX12, "offAhead", "(IZI)I"⟩
abbrev cX12_driedAhead : ByteArray := prog_14_method_23_code
def yX12_driedAhead : MethodName := ⟨RX12, "driedAhead", "(IIZI)I"⟩
abbrev cX12_layPart : ByteArray := prog_14_method_24_code
def yX12_layPart : MethodName := ⟨RX12, "layPart", "(IZIZ)V"⟩
abbrev cX12_makeCut : ByteArray := prog_14_method_25_code
def yX12_makeCut : MethodName := ⟨RX12, "makeCut", "(IZI)I"⟩
abbrev cX12_cut : ByteArray := prog_14_method_26_code
def yX12_cut : MethodName := ⟨RX12, "cut", "(IZI)I"⟩
abbrev cX12_about : ByteArray := prog_14_method_27_code
def yX12_about : MethodName := ⟨RX12, "about", "(II)I"⟩
abbrev cX12_weighs : ByteArray := prog_14_method_28_code
def yX12_weighs : MethodName := ⟨RX12, "weighs", "(I)I"⟩
abbrev cX12_pass : ByteArray := prog_14_method_29_code
def yX12_pass : MethodName := ⟨RX12, "pass", "(I)I"⟩
abbrev cX12_wrap : ByteArray := prog_14_method_30_code
def yX12_wrap : MethodName := ⟨RX12, "wrap", "(II)I"⟩
abbrev cX12_trim : ByteArray := prog_14_method_31_code
def yX12_trim : MethodName := ⟨RX12, "trim", "(I)I"⟩
abbrev cX12_sell : ByteArray := prog_14_method_32_code
def yX12_sell : MethodName := ⟨RX12, "sell", "(IZ)I"⟩
abbrev cX12_noAsk : ByteArray := prog_14_method_33_code
def yX12_noAsk : MethodName := ⟨RX12, "noAsk", "(III)Z"⟩
abbrev cX12_isServed : ByteArray := prog_14_method_34_code
def yX12_isServed : MethodName := ⟨RX12, "isServed", "(IIII)Z"⟩
abbrev cX12_serves : ByteArray := prog_14_method_35_code
def yX12_serves : MethodName := ⟨RX12, "serves", "(IIII)I"⟩
abbrev cX12_standsFor : ByteArray := prog_14_method_36_code
def yX12_standsFor : MethodName := ⟨RX12, "standsFor", "(III)I"⟩
abbrev cX12_stands : ByteArray := prog_14_method_37_code
def yX12_stands : MethodName := ⟨RX12, "stands", "(III)I"⟩
abbrev cX12_isPart : ByteArray := prog_14_method_38_code
def yX12_isPart : MethodName := ⟨RX12, "isPart", "(IZIZIII)Z"⟩
abbrev cX12_findCut : ByteArray := prog_14_method_39_code
def yX12_findCut : MethodName := ⟨RX12, "findCut", "(III)V"⟩
abbrev cX12_next : ByteArray := prog_14_method_40_code
def yX12_next : MethodName := ⟨RX12, "next", "(III)I"⟩
abbrev cX12_make : ByteArray := prog_14_method_41_code
def yX12_make : MethodName := ⟨RX12, "make", "(I)I"⟩
abbrev cX12_serve : ByteArray := prog_14_method_42_code
def yX12_serve : MethodName := ⟨RX12, "serve", "(III)I"⟩
abbrev cX12_putAside : ByteArray := prog_14_method_43_code
def yX12_putAside : MethodName := ⟨RX12, "putAside", "()V"⟩
abbrev cX12_takeBack : ByteArray := prog_14_method_44_code
def yX12_takeBack : MethodName := ⟨RX12, "takeBack", "()V"⟩
abbrev cX12_second : ByteArray := prog_14_method_45_code
def yX12_second : MethodName := ⟨RX12, "second", "(III)I"⟩
abbrev cX12_findTwo : ByteArray := prog_14_method_46_code
def yX12_findTwo : MethodName := ⟨RX12, "findTwo", "(IIIII)V"⟩
abbrev cX12_keepTwo : ByteArray := prog_14_method_47_code
def yX12_keepTwo : MethodName := ⟨RX12, "keepTwo", "(II)V"⟩
abbrev cX12_two : ByteArray := prog_14_method_48_code
def yX12_two : MethodName := ⟨RX12, "two", "(IIIII)I"⟩
abbrev cX12_twoFirst : ByteArray := prog_14_method_49_code
def yX12_twoFirst : MethodName := ⟨RX12, "twoFirst", "(IIIII)I"⟩
abbrev cX12_order : ByteArray := prog_14_method_50_code
def yX12_order : MethodName := ⟨RX12, "order", "(III)I"⟩
abbrev cX12_unorder : ByteArray := prog_14_method_51_code
def yX12_unorder : MethodName := ⟨RX12, "unorder", "()I"⟩
abbrev cX12_block : ByteArray := prog_14_method_52_code
def yX12_block : MethodName := ⟨RX12, "block", "(IIII)I"⟩
abbrev cX12_layBlocks : ByteArray := prog_14_method_53_code
def yX12_layBlocks : MethodName := ⟨RX12, "layBlocks", "()V"⟩
abbrev cX12_isAsk : ByteArray := prog_14_method_54_code
def yX12_isAsk : MethodName := ⟨RX12, "isAsk", "(II)Z"⟩
abbrev cX12_bestWire : ByteArray := prog_14_method_55_code
def yX12_bestWire : MethodName := ⟨RX12, "bestWire", "(IIIII)I"⟩
abbrev cX12_layWires : ByteArray := prog_14_method_56_code
def yX12_layWires : MethodName := ⟨RX12, "layWires", "()V"⟩
abbrev cX12_wholeWire : ByteArray := prog_14_method_57_code
def yX12_wholeWire : MethodName := ⟨RX12, "wholeWire", "()I"⟩
abbrev cX12_whole : ByteArray := prog_14_method_58_code
def yX12_whole : MethodName := ⟨RX12, "whole", "()I"⟩
abbrev cX12_first : ByteArray := prog_14_method_59_code
def yX12_first : MethodName := ⟨RX12, "first", "()I"⟩
abbrev cX12_bestOf : ByteArray := prog_14_method_60_code
def yX12_bestOf : MethodName := ⟨RX12, "bestOf", "(IIIIZZ)I"⟩
abbrev cX12_fair : ByteArray := prog_14_method_61_code
def yX12_fair : MethodName := ⟨RX12, "fair", "(I)I"⟩
abbrev cX12_noBlock : ByteArray := prog_14_method_62_code
def yX12_noBlock : MethodName := ⟨RX12, "noBlock", "(I)Z"⟩
abbrev cX12_meets : ByteArray := prog_14_method_63_code
def yX12_meets : MethodName := ⟨RX12, "meets", "(II)Z"⟩
abbrev cX12_left : ByteArray := prog_14_method_64_code
def yX12_left : MethodName := ⟨RX12, "left", "(I)I"⟩
abbrev cX12_goesThrough : ByteArray := prog_14_method_65_code
def yX12_goesThrough : MethodName := ⟨RX12, "goesThrough", "(IIIIZI)Z"⟩
abbrev cX12_read : ByteArray := prog_14_method_66_code
def yX12_read : MethodName := ⟨RX12, "read", "()I"⟩
abbrev cX12_unleft : ByteArray := prog_14_method_67_code
def yX12_unleft : MethodName := ⟨RX12, "unleft", "()I"⟩
abbrev cX12_ripens : ByteArray := prog_14_method_68_code
def yX12_ripens : MethodName := ⟨RX12, "ripens", "(II)I"⟩
abbrev cX12_lesser : ByteArray := prog_14_method_69_code
def yX12_lesser : MethodName := ⟨RX12, "lesser", "(II)I"⟩
abbrev cX12_isRipe : ByteArray := prog_14_method_70_code
def yX12_isRipe : MethodName := ⟨RX12, "isRipe", "(III)Z"⟩
abbrev cX12_ripeIn : ByteArray := prog_14_method_71_code
def yX12_ripeIn : MethodName := ⟨RX12, "ripeIn", "(II)I"⟩
abbrev cX12_paste : ByteArray := prog_14_method_72_code
def yX12_paste : MethodName := ⟨RX12, "paste", "(I)I"⟩
abbrev cX12_common : ByteArray := prog_14_method_73_code
def yX12_common : MethodName := ⟨RX12, "common", "(JJ)J"⟩
abbrev cX12_ripe : ByteArray := prog_14_method_74_code
def yX12_ripe : MethodName := ⟨RX12, "ripe", "(IIZ)J"⟩
abbrev cX12_ripest : ByteArray := prog_14_method_75_code
def yX12_ripest : MethodName := ⟨RX12, "ripest", "(I)I"⟩
abbrev cX12_book : ByteArray := prog_14_method_76_code
def yX12_book : MethodName := ⟨RX12, "book", "(I)I"⟩
abbrev cX12_earns : ByteArray := prog_14_method_77_code
def yX12_earns : MethodName := ⟨RX12, "earns", "(I)I"⟩
abbrev cX12_over : ByteArray := prog_14_method_78_code
def yX12_over : MethodName := ⟨RX12, "over", "(I)I"⟩
abbrev cX12_bestOver : ByteArray := prog_14_method_79_code
def yX12_bestOver : MethodName := ⟨RX12, "bestOver", "()I"⟩
abbrev cX12_taste : ByteArray := prog_14_method_80_code
def yX12_taste : MethodName := ⟨RX12, "taste", "(IZ)I"⟩
abbrev cX12_gain : ByteArray := prog_14_method_81_code
def yX12_gain : MethodName := ⟨RX12, "gain", "(I)I"⟩
abbrev cX12_brings : ByteArray := prog_14_method_82_code
def yX12_brings : MethodName := ⟨RX12, "brings", "(IZ)J"⟩
abbrev cX12_bestTaste : ByteArray := prog_14_method_83_code
def yX12_bestTaste : MethodName := ⟨RX12, "bestTaste", "()I"⟩
abbrev cX12_prices : ByteArray := prog_14_method_84_code
def yX12_prices : MethodName := ⟨RX12, "prices", "(II)I"⟩
abbrev cX12_worth : ByteArray := prog_14_method_85_code
def yX12_worth : MethodName := ⟨RX12, "worth", "()I"⟩
abbrev cX12_standing : ByteArray := prog_14_method_86_code
def yX12_standing : MethodName := ⟨RX12, "standing", "()I"⟩
abbrev cX12_keep : ByteArray := prog_14_method_87_code
def yX12_keep : MethodName := ⟨RX12, "keep", "(I)I"⟩
abbrev cX12_again : ByteArray := prog_14_method_88_code
def yX12_again : MethodName := ⟨RX12, "again", "(I)I"⟩
abbrev cX12_count : ByteArray := prog_14_method_89_code
def yX12_count : MethodName := ⟨RX12, "count", "(I)I"⟩
def RJ9 : String := "java/lang/Math"
def TJ9 : u_T := fun k => match k with
  | _ => ("", "", "", false)
def tyJ9 : Nat → FieldType := fun k => match k with
  | _ => .int
theorem nmJ9 : ∀ a, a < 0 → ∀ b, b < 0 → a ≠ b → (TJ9 a).2.1 ≠ (TJ9 b).2.1 := by decide +kernel
theorem tyJ9_ok : ∀ k, k < 0 → parseFieldDescriptor (TJ9 k).2.2.1 = some (tyJ9 k) := by decide +kernel
abbrev cJ9_abs_067f4 : ByteArray := prog_15_method_61_code
def yJ9_abs_067f4 : MethodName := ⟨RJ9, "abs", "(J)J"⟩
abbrev cJ9_max_7cf53 : ByteArray := prog_15_method_65_code
def yJ9_max_7cf53 : MethodName := ⟨RJ9, "max", "(II)I"⟩
abbrev cJ9_max_f86c9 : ByteArray := prog_15_method_66_code
def yJ9_max_f86c9 : MethodName := ⟨RJ9, "max", "(JJ)J"⟩
abbrev cJ9_min_7cf53 : ByteArray := prog_15_method_69_code
def yJ9_min_7cf53 : MethodName := ⟨RJ9, "min", "(II)I"⟩
def RL : String := "WheelAndWireLaw"
abbrev cL_law : ByteArray := code
def yL_law : MethodName := ⟨RL, "law", "([I)Z"⟩
end
section
/-! THE FLAT WORLD. All cells that the run makes lie behind 'base', in the order of their making: number k at base + k. What a cell is (its class, its length) is a closed table (Kd, Ln); what it holds: ints h k j, references r k j (numbers of cells). -/
abbrev Hp : Type := Nat → Nat → Int32
abbrev Rp : Type := Nat → Nat → Option Nat
def u2 {α : Type} (f : Nat → Nat → α) (a j : Nat) (v : α) : Nat → Nat → α := fun k => if k = a then (fun i => if i = j then v else f a i) else f k
abbrev cls : List vw_C := [(RX0, TX0, 3), (RX1, TX1, 6), (RX2, TX2, 4), (RX3, TX3, 5), (RX4, TX4, 7), (RX5, TX5, 9), (RX6, TX6, 7), (RX7, TX7, 13), (RX12, TX12, 47), (RX9, TX9, 9), (RX10, TX10, 2), (RX11, TX11, 11)]
def FT : List (List Bool) := [[false, false, false], [true, true, true, false, false, false], [true, true, true, false], [true, false, true, false, false], [true, true, true, false, false, false, false],
  [true, false, true, true, true, true, true, false, false], [true, false, true, true, true, false, false], [false, false, false, false, false, false, false, false, false, false, false, false, false], [false, true, false, true, false, false, true, false, false, false, true, true, true, true, true, true, true, true, false, true, true, true, false, false, false, false, false, true, true, true, true, true, true, true, false, false, true, false, false, false, true, true, true, false, false, false, false], [true, true, true, true, true, true, true, false, false], [true, false], [true, true, true, true, true, true, true, true, true, false, false]]
def nF (c : Nat) : Nat := (FT.getD c []).length
def rF (c j : Nat) : Bool := (FT.getD c []).getD j false
def KL : List Nat := [11, 10, 12, 4, 12, 12, 12, 1, 16, 7, 7, 7, 7, 7, 7, 7, 7, 7, 7, 7, 7, 7, 7, 7, 7, 7, 7, 7, 7, 7, 7, 7, 7, 7, 15, 9, 7, 7, 7, 7, 12, 6, 12, 14, 12, 3, 12, 5, 12, 12, 12, 12, 12, 2, 12, 12, 12, 1, 16, 7, 7, 7, 7, 7, 7, 7, 7, 7, 7, 7, 7, 7, 7, 7, 7, 7, 7, 7, 7, 7, 7, 7, 7, 7, 1, 16, 7, 7, 7, 7, 7, 7, 7, 7, 7, 7, 7, 7, 7, 7, 7, 7, 7, 7, 7, 7, 7, 7, 7, 7, 7, 8, 12, 12, 12, 12, 12, 12, 12, 12, 12, 12, 12, 12, 12, 13, 12, 12, 12, 12, 12, 12, 12, 12, 12, 12, 12]
def Kd (k : Nat) : Nat := KL.getD k 0
def LL : List Nat := [0, 0, 48, 0, 36, 49, 49, 0, 24, 0, 0, 0, 0, 0, 0, 0, 0, 0, 0, 0, 0, 0, 0, 0, 0, 0, 0, 0, 0, 0, 0, 0, 0, 0, 2, 0, 0, 0, 0, 0, 24, 0, 7056, 4, 16, 0, 441, 0, 441, 6, 6, 6, 6, 0, 16, 10, 10, 0, 24, 0, 0, 0, 0, 0, 0, 0, 0, 0, 0, 0, 0, 0, 0, 0, 0, 0, 0, 0, 0, 0, 0, 0, 0, 0, 0, 24, 0, 0, 0, 0, 0, 0, 0, 0, 0, 0, 0, 0, 0, 0, 0, 0, 0, 0, 0, 0, 0, 0, 0, 0, 0, 0, 48, 36, 36, 24, 24, 24, 24, 24, 24, 24, 96, 266, 532, 2, 4, 4, 4, 1296, 1296, 20736, 1296, 6, 16, 10, 10]
def Ln (k : Nat) : Nat := LL.getD k 0
abbrev wE : Type := va_G × (Nat → ClassId) × Nat × Nat × Nat
abbrev eD (E : wE) : va_G := E.1
abbrev eC (E : wE) : Nat → ClassId := E.2.1
abbrev eB (E : wE) : Nat := E.2.2.1
abbrev eP (E : wE) : Nat := E.2.2.2.1
abbrev eR (E : wE) : Nat := E.2.2.2.2
def fv (b c : Nat) (f : Nat → Int32) (g : Nat → Option Nat) (j : Nat) : Value := if rF c j = true then va_rf ((g j).map (fun q => b + q)) else .int (f j)
def atK (E : wE) (c k : Nat) (f : Nat → Int32) (g : Nat → Option Nat) (H : Heap) : Prop :=
  if c < 12 then t_OB (eB E + k) ((eD E).1 c) (nF c) ((eD E).2 c) H (fv (eB E) c f g)
  else if c < 14 then H[eB E + k]? = some (arrV (eC E c) (Ln k) (fun j => .int (f j)))
  else H[eB E + k]? = some (arrV (eC E c) (Ln k) (fun j => va_rf ((g j).map (fun q => eB E + q))))
def wd (E : wE) (N : Nat) (h : Hp) (r : Rp) (H : Heap) : Prop := H.size = eB E + N ∧ (∀ k, k < N → atK E (Kd k) k (h k) (r k) H) ∧ ∀ j a, r 43 j = some a → 137 ≤ a ∧ a < N
theorem atK.kept {E : wE} {c k : Nat} {f : Nat → Int32} {g : Nat → Option Nat} {H H1 : Heap} (h : atK E c k f g H) (hq : H1[eB E + k]? = H[eB E + k]?) : atK E c k f g H1 := by
  unfold atK at h ⊢
  split
  next hc => rw [if_pos hc] at h; exact h.kept hq
  next hc =>
    rw [if_neg hc] at h
    split
    next hc2 => rw [if_pos hc2] at h; rw [hq]; exact h
    next hc2 => rw [if_neg hc2] at h; rw [hq]; exact h
theorem wd.ob {E : wE} {N : Nat} {h : Hp} {r : Rp} {H : Heap} (w : wd E N h r H) {a c : Nat} (ha : a < N) (hk : Kd a = c) (hc : c < 12) : t_OB (eB E + a) ((eD E).1 c) (nF c) ((eD E).2 c) H (fv (eB E) c (h a) (r a)) := by
  have q := w.2.1 a ha
  rw [hk] at q
  unfold atK at q
  rw [if_pos hc] at q
  exact q
theorem wd.ai {E : wE} {N : Nat} {h : Hp} {r : Rp} {H : Heap} (w : wd E N h r H) {a c : Nat} (ha : a < N) (hk : Kd a = c) (hc : ¬ c < 12) (hc2 : c < 14) : H[eB E + a]? = some (arrV (eC E c) (Ln a) (fun j => .int (h a j))) := by
  have q := w.2.1 a ha
  rw [hk] at q
  unfold atK at q
  rw [if_neg hc, if_pos hc2] at q
  exact q
theorem wd.ar {E : wE} {N : Nat} {h : Hp} {r : Rp} {H : Heap} (w : wd E N h r H) {a c : Nat} (ha : a < N) (hk : Kd a = c) (hc : ¬ c < 12) (hc2 : ¬ c < 14) : H[eB E + a]? = some (arrV (eC E c) (Ln a) (fun j => va_rf ((r a j).map (fun q => eB E + q)))) := by
  have q := w.2.1 a ha
  rw [hk] at q
  unfold atK at q
  rw [if_neg hc, if_neg hc2] at q
  exact q
/-- one cell of the world is another one now -/
theorem wd.set {E : wE} {N : Nat} {h h' : Hp} {r r' : Rp} {H H1 : Heap} (w : wd E N h r H) (a : Nat) (ha : a < N) (hz : H1.size = H.size) (oq : ∀ q : Nat, q ≠ eB E + a → H1[q]? = H[q]?) (he : atK E (Kd a) a (h' a) (r' a) H1) (hh : ∀ k, k ≠ a → h' k = h k) (hr : ∀ k, k ≠ a → r' k = r k)
    (ht : ∀ j b, r' 43 j = some b → 137 ≤ b ∧ b < N) : wd E N h' r' H1 := by
  refine ⟨hz.trans w.1, fun k hk => ?_, ht⟩
  by_cases e : k = a
  · subst e; exact he
  · rw [hh k e, hr k e]
    exact (w.2.1 k hk).kept (oq _ (by omega))
theorem u2_self {α : Type} (f : Nat → Nat → α) (a j : Nat) (v : α) : u2 f a j v a = fun i => if i = j then v else f a i := by
  unfold u2
  rw [if_pos rfl]
theorem u2_ne {α : Type} (f : Nat → Nat → α) {a k : Nat} (j : Nat) (v : α) (h : k ≠ a) : u2 f a j v k = f k := by
  unfold u2
  rw [if_neg h]
/-- a new cell -/
theorem wd.push {E : wE} {N : Nat} {h : Hp} {r : Rp} {H H1 : Heap} (w : wd E N h r H) (f : Nat → Int32) (g : Nat → Option Nat) (hz : H1.size = H.size + 1) (oq : ∀ q : Nat, q < H.size → H1[q]? = H[q]?) (he : atK E (Kd N) N f g H1) (h43 : N ≠ 43 ∨ ∀ j, g j = none) : wd E (N + 1) (va_up h N f) (va_up r N g) H1 := by
  refine ⟨by rw [hz, w.1]; rfl, fun k hk => ?_, fun j a q => ?_⟩
  · by_cases e : k = N
    · subst e
      simpa [va_up] using he
    · simp only [va_up, e, if_false]
      exact (w.2.1 k (by omega)).kept (oq _ (by rw [w.1]; omega))
  · by_cases e : 43 = N
    · rcases h43 with h43 | h43
      · exact absurd e.symm h43
      · simp only [va_up, e, if_true, h43] at q
        cases q
    · simp only [va_up, e, if_false] at q
      obtain ⟨q1, q2⟩ := w.2.2 j a q
      exact ⟨q1, by omega⟩
-- the words
def BIG : List Cond := lw_tbl.filter goodWord
theorem bm {w : Cond} {i : Nat} (h : lw_tbl[i]? = some w) (hg : goodWord w = true) : w ∈ BIG := List.mem_filter.mpr ⟨List.mem_of_getElem? h, hg⟩
theorem BIG_good : ∀ w ∈ BIG, (w.onTables && w.keeps) = true ∨ ∃ ty, w = .arrayClass ty := fun w h => good_of_word (List.mem_filter.mp h).2
theorem good_ws {y z : MethodName} {cc cd : ByteArray} {m n : Nat} {ry rz : Option FieldType} (hz : Cond.code z cd n rz ∈ BIG) : GoodIn (.code y cc m ry :: BIG) (.code z cd n rz :: BIG) := fun w h => by
  rcases List.mem_cons.mp h with rfl | h
  · exact ⟨List.mem_cons_of_mem _ hz, BIG_good _ hz⟩
  · exact ⟨List.mem_cons_of_mem _ h, BIG_good _ h⟩
theorem good_wsB {z : MethodName} {cd : ByteArray} {n : Nat} {rz : Option FieldType} (hz : Cond.code z cd n rz ∈ BIG) : GoodIn BIG (.code z cd n rz :: BIG) := fun w h => by
  rcases List.mem_cons.mp h with rfl | h
  · exact ⟨hz, BIG_good _ hz⟩
  · exact ⟨h, BIG_good _ h⟩
def spM : List (String × Nat × MethodName × String) := [("WheelAndWire", 11, ⟨"WheelAndWire$Text", "<init>", "()V"⟩, "WheelAndWire"), ("WheelAndWire$Board", 17, ⟨"WheelAndWire$Piece", "<init>", "()V"⟩, "WheelAndWire"), ("WheelAndWire$Shop", 11, ⟨"WheelAndWire$Piece", "<init>", "()V"⟩, "WheelAndWire"), ("WheelAndWire", 68, ⟨"WheelAndWire$Books", "<init>", "()V"⟩, "WheelAndWire"), ("WheelAndWire$Text", 19, ⟨"WheelAndWire", "kindOf", "(I)I"⟩, "WheelAndWire"), ("WheelAndWire$Form", 45, ⟨"WheelAndWire", "kindOf", "(I)I"⟩, "WheelAndWire")]
def spF : List (String × Nat × String × String × String × String) := [("WheelAndWire$Form", 53, "WheelAndWire", "PLACE_WEIGHTS", "[I", "WheelAndWire"), ("WheelAndWire$Piece", 88, "WheelAndWire", "DRYING", "[I", "WheelAndWire")]
def spD : List MethodName := [⟨"WheelAndWire$Plan", "workOut", "(I)V"⟩, ⟨"WheelAndWire$Plan", "verdict", "(IIIII)I"⟩, ⟨"WheelAndWire$Plan", "cutPrice", "(I)I"⟩, ⟨"WheelAndWire$Plan", "costOfAll", "(I)I"⟩, ⟨"WheelAndWire$Plan", "cutCost", "(IIIIZII)I"⟩]
def Sp (U : State) : Prop := (∀ q ∈ spM, va_Nw (.methodLinkNest q.1 q.2.1 q.2.2.1 q.2.2.2) U) ∧ (∀ q ∈ spF, va_Nw (.fieldLinkNest q.1 q.2.1 q.2.2.1 q.2.2.2.1 q.2.2.2.2.1 q.2.2.2.2.2) U) ∧ (∀ q ∈ spD, va_Nw (.declares q) U) ∧ va_AO RX0 U ∧ va_AO RX1 U ∧ va_AO RX7 U
theorem Sp.warm {s U : State} (hW : s.WarmedH U.vm) (h : Sp s) : Sp U := ⟨fun q hq => va_Nw.warmM hW (h.1 q hq), fun q hq => va_Nw.warmF hW (h.2.1 q hq), fun q hq => va_Nw.warmD hW (h.2.2.1 q hq), h.2.2.2.1.moved hW.alike, h.2.2.2.2.1.moved hW.alike, h.2.2.2.2.2.moved hW.alike⟩
theorem Sp.same {u U : State} (e : u.vm = U.vm) (h : Sp u) : Sp U := ⟨fun q hq => va_Nw.same rfl e (h.1 q hq), fun q hq => va_Nw.same rfl e (h.2.1 q hq), fun q hq => va_Nw.same rfl e (h.2.2.1 q hq), h.2.2.2.1.moved (by rw [← e]; exact Vm.Alike.refl _), h.2.2.2.2.1.moved (by rw [← e]; exact Vm.Alike.refl _), h.2.2.2.2.2.moved (by rw [← e]; exact Vm.Alike.refl _)⟩
abbrev tys (E : wE) : List (ClassId × FieldType) := [(eC E 12, .int), (eC E 13, .boolean), (eC E 14, .object RX0), (eC E 15, .object RX1), (eC E 16, .object RX7)]
def pwT : Nat → Int32 := fun j => if j = 0 then 10 else if j = 1 then 8 else 0
def drT : Nat → Int32 := fun j => if j = 0 then 10 else if j = 1 then 5 else 2
def Sta (E : wE) (U : State) (H : Heap) : Prop := va_Z "WheelAndWire" "PLACE_WEIGHTS" "[I" (.ref (eP E)) (fun q => eB E ≤ q) U H ∧ va_Z "WheelAndWire" "DRYING" "[I" (.ref (eR E)) (fun q => eB E ≤ q) U H ∧ va_T .int (eP E) 3 (fun j => .int (pwT j)) (fun q => eB E ≤ q) U H ∧ va_T .int (eR E) 3 (fun j => .int (drT j)) (fun q => eB E ≤ q) U H
theorem Sta.moved {E : wE} {u U : State} {H : Heap} (hvm : u.vm.Alike U.vm) (h : Sta E u H) : Sta E U H := ⟨h.1.moved hvm, h.2.1.moved hvm, h.2.2.1.moved hvm, h.2.2.2.moved hvm⟩
theorem Sta.kept {E : wE} {U : State} {H H1 : Heap} (h : Sta E U H) (hq : ∀ a : Nat, a < H.size → ¬ (eB E ≤ a) → H1[a]? = H[a]?) : Sta E U H1 := ⟨h.1.kept hq, h.2.1.kept hq, h.2.2.1.kept hq, h.2.2.2.kept hq⟩
/-- what a method finds at its start -/
def Pw (E : wE) (N : Nat) (h : Hp) (r : Rp) (U : State) : Prop := wd E N h r U.heap ∧ va_K (eD E) cls (tys E) U ∧ Sp U ∧ Sta E U U.heap
abbrev Rs : Type := Option Value × Nat × Hp × Rp
/-- what it leaves behind -/
def Qw (E : wE) (y : Rs) : Array Value → State → Outcome → State → Prop := fun _ st oc t => oc = .returned y.1 ∧ wd E y.2.1 y.2.2.1 y.2.2.2 t.heap ∧ va_F (fun q => eB E ≤ q) st t
/-- A METHOD'S CONTRACT: from the world (N, h, r) it returns, and leaves y -/
def CT (l : Launch) (E : wE) (y : MethodName) (cc : ByteArray) (mL : Nat) (ret : Option FieldType) (rm : Room) (as : List Value) (N : Nat) (h : Hp) (r : Rp) (z : Rs) : Prop :=
  Met l y (.code y cc mL ret :: BIG) rm (va_Pc as (Pw E N h r)) (Qw E z) rm.cells rm.slots (fun q => eB E ≤ q)
theorem Pw.blind {E : wE} {N : Nat} {h : Hp} {r : Rp} {as : List Value} : FrameBlind (va_Pc as (Pw E N h r)) := fun a U g mk q => ⟨q.1, q.2.1, va_K.moved (u := U) (U := U.calling g mk a) (Vm.Alike.refl U.vm) q.2.2.1, q.2.2.2.1.same rfl, Sta.moved (u := U) (U := U.calling g mk a) (Vm.Alike.refl U.vm) q.2.2.2.2⟩
-- a method that is being walked
abbrev wX : Type := Program × Launch × Env × Room × State × MethodId × Array Value × List Frame × Method × Code × wE
abbrev xp (X : wX) : Program := X.1
abbrev xl (X : wX) : Launch := X.2.1
abbrev xe (X : wX) : Env := X.2.2.1
abbrev xR (X : wX) : Room := X.2.2.2.1
abbrev xs (X : wX) : State := X.2.2.2.2.1
abbrev xm (X : wX) : MethodId := X.2.2.2.2.2.1
abbrev xa (X : wX) : Array Value := X.2.2.2.2.2.2.1
abbrev xb (X : wX) : List Frame := X.2.2.2.2.2.2.2.1
abbrev xM (X : wX) : Method := X.2.2.2.2.2.2.2.2.1
abbrev xc (X : wX) : Code := X.2.2.2.2.2.2.2.2.2.1
abbrev xE (X : wX) : wE := X.2.2.2.2.2.2.2.2.2.2
abbrev xB (X : wX) : Nat := eB (xE X)
def Cx (X : wX) (y : MethodName) (cc : ByteArray) (mL : Nat) (ret : Option FieldType) (rm : Room) : Prop :=
  (xp X).tables.exec = Jvm.exec ∧ (xc X).code = cc ∧ (xc X).maxLocals = mL ∧ (xs X).vm.findClass y.cls = some (xm X).cls ∧ (∀ w ∈ BIG, w.before (xa X) (xs X) = true) ∧ (xM X).locks = false ∧ (xM X).sig.returnType = ret ∧ (xM X).name = y.name ∧ xR X = rm ∧ va_K (eD (xE X)) cls (tys (xE X)) (xs X) ∧ Sp (xs X) ∧ Sta (xE X) (xs X) (xs X).heap ∧ xB X ≤ (xs X).heap.size
def gQ (X : wX) (mL : Nat) (Q : State → Prop) (N : Nat) (h : Hp) (r : Rp) (cl sl pc : Nat) (L : List (Nat × Value)) (st : List Value) : Prop :=
  ∀ (H : Heap) (locs : List Loc) (ls : Array Slot), wd (xE X) N h r H → va_S (fun q => xB X ≤ q) (xs X).heap H locs → lv_has ls mL L → W (xp X) (xl X) (xe X) (xR X) (xs X) (xm X) (xa X) (xb X) (xM X) (xc X) H locs cl sl Q (F0 (xm X) pc ls st)
/-- from here, if the pure computation k comes to y, the machine comes to what E y says -/
def wG {ρ : Type} (X : wX) (mL : Nat) (Z : ρ → (State → Prop) → Prop) (k : Option ρ) (N : Nat) (h : Hp) (r : Rp) (cl sl pc : Nat) (L : List (Nat × Value)) (st : List Value) : Prop :=
  ∀ y, k = some y → ∀ Q, Z y Q → gQ X mL Q N h r cl sl pc L st
/-- the end of a method -/
def eM {ρ : Type} (X : wX) (φ : ρ → Rs) : ρ → (State → Prop) → Prop := fun y Q => Q = MQ (xb X) (Qw (xE X) (φ y)) (xa X) (xs X) (xR X).cells (xR X).slots (fun q => xB X ≤ q)
theorem CT.of {ρ : Type} {l : Launch} {E : wE} {y : MethodName} {cc : ByteArray} {mL : Nat} {ret : Option FieldType} {rm : Room} {as : List Value} {N : Nat} {h : Hp} {r : Rp} {φ : ρ → Rs} {k : Option ρ} (hy : plainName y.cls = true) (hlen : (lg_sl as).length ≤ mL)
    (G : ∀ X, xl X = l → xE X = E → Cx X y cc mL ret rm → wG X mL (eM X φ) k N h r 0 0 0 (lv_args 0 as) []) : ∀ z, k = some z → CT l E y cc mL ret rm as N h r (φ z) := by
  intro z hz
  refine Met.ofW (cc := cc) (maxL := mL) (ret := ret) hy rfl ?_
  intro p e s m args below meth c s₁ B hml hv
  obtain ⟨rfl, hw, hK, hSp, hSt⟩ := hv
  have hts := atoms_spec (ws := .code y cc mL ret :: BIG) B.pre
  have g := G (p, l, e, rm, s, m, as.toArray, below, meth, c, E) rfl rfl ⟨B.exec, B.bytes, hml, findClass_of_methodNamed B.named, fun w hw => hts w (List.mem_cons_of_mem _ hw), B.notSynchronized, B.returns, (name_of_methodNamed B.named B.method).1, rfl, hK, hSp, hSt, by show eB E ≤ s.heap.size; rw [hw.1]; exact Nat.le_add_right _ _⟩ z hz _ rfl
  rw [lg_entry_eq]
  exact g s.heap [] _ hw va_S.rf (lv_entry as hlen)
end
section
/-! THE ROWS OF THE FLAT WORLD: an instruction, a row; the pure computation k goes with it -/
abbrev dcd (cc : ByteArray) (pc : Nat) (i : Instr) (n pc' : Nat) : Prop := decode cc pc = .ok (i, n) ∧ pc + n = pc'
abbrev dcb (cc : ByteArray) (pc : Nat) (i : Instr) (off : Int) (tgt pc' : Nat) : Prop := decode cc pc = .ok (i, 3) ∧ (pc : Int) + off = (tgt : Int) ∧ pc + 3 = pc'
abbrev inB (i : Int32) (n : Nat) : Prop := 0 ≤ i.toInt ∧ i.toInt < (n : Int)
abbrev ix (i : Int32) : Nat := i.toNatClampNeg
def vB {α β : Type} (e : α) (k : α → Option β) : Option β := k e
theorem inB.vp {i : Int32} {n : Nat} (h : inB i n) : vp_in i n := vp_in_iff.mpr h
theorem ix_lt {i : Int32} {n : Nat} (h : inB i n) : ix i < n := Nat.not_le.mp fun q => h.vp (Or.inr q)
section ROWS
variable {ρ : Type} {X : wX} {y : MethodName} {cc : ByteArray} {mL : Nat} {ret : Option FieldType} {rm : Room} {Z : ρ → (State → Prop) → Prop} {k kt kf : Option ρ} {N : Nat} {h : Hp} {r : Rp} {cl sl pc pc' tgt : Nat} {L L' : List (Nat × Value)} {st : List Value} {off : Int}
theorem wG_of {k' : Option ρ} (e : k = k') (g : wG X mL Z k' N h r cl sl pc L st) : wG X mL Z k N h r cl sl pc L st := e ▸ g
theorem wG_none : wG X mL Z none N h r cl sl pc L st := fun _ q => by cases q
theorem wG_nm {α : Type} {e : α} {v : α → Value} {kk : α → Option ρ} (g : ∀ x, wG X mL Z (kk x) N h r cl sl pc L (v x :: st)) : wG X mL Z (vB e kk) N h r cl sl pc L (v e :: st) := g e
theorem wG_nmI {e : Int32} {kk : Int32 → Option ρ} (g : ∀ x, wG X mL Z (kk x) N h r cl sl pc L (.int x :: st)) : wG X mL Z (vB e kk) N h r cl sl pc L (.int e :: st) := g e
theorem wG_nmL {e : Int64} {kk : Int64 → Option ρ} (g : ∀ x, wG X mL Z (kk x) N h r cl sl pc L (.long x :: st)) : wG X mL Z (vB e kk) N h r cl sl pc L (.long e :: st) := g e
theorem wG_nmR {e c : Nat} {kk : Nat → Option ρ} (hk : Kd e = c) (g : ∀ x, Kd x = c → wG X mL Z (kk x) N h r cl sl pc L (.ref (xB X + x) :: st)) : wG X mL Z (vB e kk) N h r cl sl pc L (.ref (xB X + e) :: st) := g e hk
/-- to another state of the locals -/
theorem wG_lv (ks : List Nat) (hl : lv_pick L ks = L') (g : wG X mL Z k N h r cl sl pc L' st) : wG X mL Z k N h r cl sl pc L st := fun z hz Q hQ H locs ls w S hv => g z hz Q hQ H locs ls w S (lv_sub hv ks hl)
/-- an end of a region: its state is reached -/
theorem wG_exit {z : ρ} (hZ : ∀ Q, Z z Q → gQ X mL Q N h r cl sl pc L st) : wG X mL Z (some z) N h r cl sl pc L st := fun z' hz Q hQ => by cases hz; exact hZ Q hQ
theorem gQ_lv {Q : State → Prop} (ks : List Nat) (hl : lv_pick L ks = L') (g : gQ X mL Q N h r cl sl pc L' st) : gQ X mL Q N h r cl sl pc L st := fun H locs ls w S hv => g H locs ls w S (lv_sub hv ks hl)
/-- a region m that comes to the state J, and what follows it -/
theorem wG_bind {α : Type} {m : Option α} {kk : α → Option ρ} {J : α → (State → Prop) → Prop} (g : wG X mL J m N h r cl sl pc L st) (g2 : ∀ a z, kk a = some z → ∀ Q, Z z Q → J a Q) : wG X mL Z (m.bind kk) N h r cl sl pc L st := by
  intro z hz Q hQ
  cases hm : m with
  | none => rw [hm] at hz; cases hz
  | some a => rw [hm] at hz; exact g a hm Q (g2 a z hz Q hQ)
theorem wG_ite {c : Prop} [Decidable c] {α : Type} {a b : α} {F : α → Option ρ} (g1 : c → wG X mL Z (F a) N h r cl sl pc L st) (g2 : ¬ c → wG X mL Z (F b) N h r cl sl pc L st) : wG X mL Z (F (if c then a else b)) N h r cl sl pc L st := by
  by_cases hc : c
  · rw [if_pos hc]; exact g1 hc
  · rw [if_neg hc]; exact g2 hc
/-- a value by a condition: both ways -/
theorem wG_dia {c : Prop} [Decidable c] {α : Type} {a b : α} {kk : α → Option ρ} (g : wG X mL Z (if c then vB a kk else vB b kk) N h r cl sl pc L st) : wG X mL Z (vB (if c then a else b) kk) N h r cl sl pc L st := by
  by_cases hc : c
  · rw [if_pos hc] at g ⊢; exact g
  · rw [if_neg hc] at g ⊢; exact g
theorem wG_iconst (C : Cx X y cc mL ret rm) {n : Int} {v : Int32} (hd : dcd cc pc (.iconst n) 1 pc') (hv : Int32.ofInt n = v) (g : wG X mL Z k N h r cl sl pc' L (.int v :: st)) : wG X mL Z k N h r cl sl pc L (st) := by
  obtain ⟨hd, rfl⟩ := hd
  intro z hz Q hQ H locs ls w S hl
  exact lv_iconst C.1 C.2.1 hd hv (g z hz Q hQ H locs ls w S hl)
theorem wG_bipush (C : Cx X y cc mL ret rm) {n : Int} {v : Int32} (hd : dcd cc pc (.bipush n) 2 pc') (hv : (Int8.ofInt n).toInt32 = v) (g : wG X mL Z k N h r cl sl pc' L (.int v :: st)) : wG X mL Z k N h r cl sl pc L (st) := by
  obtain ⟨hd, rfl⟩ := hd
  intro z hz Q hQ H locs ls w S hl
  exact lv_bipush C.1 C.2.1 hd hv (g z hz Q hQ H locs ls w S hl)
theorem wG_sipush (C : Cx X y cc mL ret rm) {n : Int} {v : Int32} (hd : dcd cc pc (.sipush n) 3 pc') (hv : (Int16.ofInt n).toInt32 = v) (g : wG X mL Z k N h r cl sl pc' L (.int v :: st)) : wG X mL Z k N h r cl sl pc L (st) := by
  obtain ⟨hd, rfl⟩ := hd
  intro z hz Q hQ H locs ls w S hl
  exact lv_sipush C.1 C.2.1 hd hv (g z hz Q hQ H locs ls w S hl)
theorem wG_lconst (C : Cx X y cc mL ret rm) {n : Fin 2} {v : Int64} (hd : dcd cc pc (.lconst n) 1 pc') (hv : Int64.ofNat (n : Nat) = v) (g : wG X mL Z k N h r cl sl pc' L (.long v :: st)) : wG X mL Z k N h r cl sl pc L (st) := by
  obtain ⟨hd, rfl⟩ := hd
  intro z hz Q hQ H locs ls w S hl
  exact lv_lconst C.1 C.2.1 hd hv (g z hz Q hQ H locs ls w S hl)
theorem wG_ldc (C : Cx X y cc mL ret rm) {i : Nat} {v : Int32} (hd : dcd cc pc (.ldc i) 2 pc') (hw : Cond.constant y.cls i v ∈ BIG) (g : wG X mL Z k N h r cl sl pc' L (.int v :: st)) : wG X mL Z k N h r cl sl pc L (st) := by
  obtain ⟨hd, rfl⟩ := hd
  intro z hz Q hQ H locs ls w S hl
  exact lv_ldc C.1 C.2.1 C.2.2.2.1 (C.2.2.2.2.1 _ hw) hd (g z hz Q hQ H locs ls w S hl)
theorem wG_ldcw (C : Cx X y cc mL ret rm) {i : Nat} {v : Int32} (hd : dcd cc pc (.ldc_w i) 3 pc') (hw : Cond.constant y.cls i v ∈ BIG) (g : wG X mL Z k N h r cl sl pc' L (.int v :: st)) : wG X mL Z k N h r cl sl pc L (st) := by
  obtain ⟨hd, rfl⟩ := hd
  intro z hz Q hQ H locs ls w S hl
  exact lv_ldcw C.1 C.2.1 C.2.2.2.1 (C.2.2.2.2.1 _ hw) hd (g z hz Q hQ H locs ls w S hl)
theorem wG_ldc2 (C : Cx X y cc mL ret rm) {i : Nat} {v : Int64} (hd : dcd cc pc (.ldc2_w i) 3 pc') (hw : Cond.constantLong y.cls i v ∈ BIG) (g : wG X mL Z k N h r cl sl pc' L (.long v :: st)) : wG X mL Z k N h r cl sl pc L (st) := by
  obtain ⟨hd, rfl⟩ := hd
  intro z hz Q hQ H locs ls w S hl
  exact lv_ldc2 C.1 C.2.1 C.2.2.2.1 (C.2.2.2.2.1 _ hw) hd (g z hz Q hQ H locs ls w S hl)
theorem wG_iload_n (C : Cx X y cc mL ret rm) {i : Fin 4} {x : Int32} (hd : dcd cc pc (.iload_n i) 1 pc') (p : Nat) (hp : L[p]? = some ((i : Nat), .int x)) (g : wG X mL Z k N h r cl sl pc' L (.int x :: st)) : wG X mL Z k N h r cl sl pc L st := by
  obtain ⟨hd, rfl⟩ := hd
  intro z hz Q hQ H locs ls w S hl
  exact lv_iload_n C.1 C.2.1 hd rfl (lv_at hl p hp) (g z hz Q hQ H locs ls w S hl)
theorem wG_iload (C : Cx X y cc mL ret rm) {i : Nat} {x : Int32} (hd : dcd cc pc (.iload i) 2 pc') (p : Nat) (hp : L[p]? = some (i, .int x)) (g : wG X mL Z k N h r cl sl pc' L (.int x :: st)) : wG X mL Z k N h r cl sl pc L st := by
  obtain ⟨hd, rfl⟩ := hd
  intro z hz Q hQ H locs ls w S hl
  exact lv_iload C.1 C.2.1 hd (lv_at hl p hp) (g z hz Q hQ H locs ls w S hl)
theorem wG_lload_n (C : Cx X y cc mL ret rm) {i : Fin 4} {x : Int64} (hd : dcd cc pc (.lload_n i) 1 pc') (p : Nat) (hp : L[p]? = some ((i : Nat), .long x)) (g : wG X mL Z k N h r cl sl pc' L (.long x :: st)) : wG X mL Z k N h r cl sl pc L st := by
  obtain ⟨hd, rfl⟩ := hd
  intro z hz Q hQ H locs ls w S hl
  exact lv_lload_n C.1 C.2.1 hd rfl (lv_at hl p hp) (g z hz Q hQ H locs ls w S hl)
theorem wG_lload (C : Cx X y cc mL ret rm) {i : Nat} {x : Int64} (hd : dcd cc pc (.lload i) 2 pc') (p : Nat) (hp : L[p]? = some (i, .long x)) (g : wG X mL Z k N h r cl sl pc' L (.long x :: st)) : wG X mL Z k N h r cl sl pc L st := by
  obtain ⟨hd, rfl⟩ := hd
  intro z hz Q hQ H locs ls w S hl
  exact lv_lload C.1 C.2.1 hd (lv_at hl p hp) (g z hz Q hQ H locs ls w S hl)
theorem wG_aload_n (C : Cx X y cc mL ret rm) {i : Fin 4} {x : Nat} (hd : dcd cc pc (.aload_n i) 1 pc') (p : Nat) (hp : L[p]? = some ((i : Nat), .ref x)) (g : wG X mL Z k N h r cl sl pc' L (.ref x :: st)) : wG X mL Z k N h r cl sl pc L st := by
  obtain ⟨hd, rfl⟩ := hd
  intro z hz Q hQ H locs ls w S hl
  exact lv_aload_n C.1 C.2.1 hd rfl (lv_at hl p hp) (g z hz Q hQ H locs ls w S hl)
theorem wG_aload (C : Cx X y cc mL ret rm) {i : Nat} {x : Nat} (hd : dcd cc pc (.aload i) 2 pc') (p : Nat) (hp : L[p]? = some (i, .ref x)) (g : wG X mL Z k N h r cl sl pc' L (.ref x :: st)) : wG X mL Z k N h r cl sl pc L st := by
  obtain ⟨hd, rfl⟩ := hd
  intro z hz Q hQ H locs ls w S hl
  exact lv_aload C.1 C.2.1 hd (lv_at hl p hp) (g z hz Q hQ H locs ls w S hl)
theorem wG_istore_n (C : Cx X y cc mL ret rm) {i : Fin 4} {x : Int32} (hd : dcd cc pc (.istore_n i) 1 pc') (hn : (i : Nat) < mL) (ks : List Nat) (hf : lv_pick (((i : Nat), Value.int x) :: L.filter (fun q => !(q.1 == (i : Nat)) && !(q.1 + 1 == (i : Nat) && q.2.category == 2))) ks = L') (g : wG X mL Z k N h r cl sl pc' L' st) : wG X mL Z k N h r cl sl pc L (.int x :: st) := by
  obtain ⟨hd, rfl⟩ := hd
  intro z hz Q hQ H locs ls w S hl
  exact lv_istore_n C.1 C.2.1 hd rfl hl hn rfl (fun ls' hl' => g z hz Q hQ H locs ls' w S (lv_sub hl' ks hf))
theorem wG_istore (C : Cx X y cc mL ret rm) {i : Nat} {x : Int32} (hd : dcd cc pc (.istore i) 2 pc') (hn : i < mL) (ks : List Nat) (hf : lv_pick ((i, Value.int x) :: L.filter (fun q => !(q.1 == i) && !(q.1 + 1 == i && q.2.category == 2))) ks = L') (g : wG X mL Z k N h r cl sl pc' L' st) : wG X mL Z k N h r cl sl pc L (.int x :: st) := by
  obtain ⟨hd, rfl⟩ := hd
  intro z hz Q hQ H locs ls w S hl
  exact lv_istore C.1 C.2.1 hd hl hn rfl (fun ls' hl' => g z hz Q hQ H locs ls' w S (lv_sub hl' ks hf))
theorem wG_astore_n (C : Cx X y cc mL ret rm) {i : Fin 4} {x : Nat} (hd : dcd cc pc (.astore_n i) 1 pc') (hn : (i : Nat) < mL) (ks : List Nat) (hf : lv_pick (((i : Nat), Value.ref x) :: L.filter (fun q => !(q.1 == (i : Nat)) && !(q.1 + 1 == (i : Nat) && q.2.category == 2))) ks = L') (g : wG X mL Z k N h r cl sl pc' L' st) : wG X mL Z k N h r cl sl pc L (.ref x :: st) := by
  obtain ⟨hd, rfl⟩ := hd
  intro z hz Q hQ H locs ls w S hl
  exact lv_astore_n C.1 C.2.1 hd rfl hl hn rfl (fun ls' hl' => g z hz Q hQ H locs ls' w S (lv_sub hl' ks hf))
theorem wG_astore (C : Cx X y cc mL ret rm) {i : Nat} {x : Nat} (hd : dcd cc pc (.astore i) 2 pc') (hn : i < mL) (ks : List Nat) (hf : lv_pick ((i, Value.ref x) :: L.filter (fun q => !(q.1 == i) && !(q.1 + 1 == i && q.2.category == 2))) ks = L') (g : wG X mL Z k N h r cl sl pc' L' st) : wG X mL Z k N h r cl sl pc L (.ref x :: st) := by
  obtain ⟨hd, rfl⟩ := hd
  intro z hz Q hQ H locs ls w S hl
  exact lv_astore C.1 C.2.1 hd hl hn rfl (fun ls' hl' => g z hz Q hQ H locs ls' w S (lv_sub hl' ks hf))
theorem wG_lstore_n (C : Cx X y cc mL ret rm) {i : Fin 4} {x : Int64} (hd : dcd cc pc (.lstore_n i) 1 pc') (hn : (i : Nat) + 1 < mL) (ks : List Nat) (hf : lv_pick (((i : Nat), Value.long x) :: L.filter (fun q => !(q.1 == (i : Nat)) && (!(q.1 == (i : Nat) + 1) && !(q.1 + 1 == (i : Nat) && q.2.category == 2)))) ks = L') (g : wG X mL Z k N h r cl sl pc' L' st) : wG X mL Z k N h r cl sl pc L (.long x :: st) := by
  obtain ⟨hd, rfl⟩ := hd
  intro z hz Q hQ H locs ls w S hl
  exact lv_lstore_n C.1 C.2.1 hd rfl hl hn rfl (fun ls' hl' => g z hz Q hQ H locs ls' w S (lv_sub hl' ks hf))
theorem wG_lstore (C : Cx X y cc mL ret rm) {i : Nat} {x : Int64} (hd : dcd cc pc (.lstore i) 2 pc') (hn : i + 1 < mL) (ks : List Nat) (hf : lv_pick ((i, Value.long x) :: L.filter (fun q => !(q.1 == i) && (!(q.1 == i + 1) && !(q.1 + 1 == i && q.2.category == 2)))) ks = L') (g : wG X mL Z k N h r cl sl pc' L' st) : wG X mL Z k N h r cl sl pc L (.long x :: st) := by
  obtain ⟨hd, rfl⟩ := hd
  intro z hz Q hQ H locs ls w S hl
  exact lv_lstore C.1 C.2.1 hd hl hn rfl (fun ls' hl' => g z hz Q hQ H locs ls' w S (lv_sub hl' ks hf))
theorem wG_iinc (C : Cx X y cc mL ret rm) {i : Nat} {n : Int} {x v : Int32} {kk : Int32 → Option ρ} {LL : Int32 → List (Nat × Value)} (hd : dcd cc pc (.iinc i n) 3 pc') (p : Nat) (hp : L[p]? = some (i, .int x)) (hv : Int32.ofInt n = v) (hn : i < mL) (ks : List Nat) (hf : ∀ x, lv_pick ((i, Value.int x) :: L.filter (fun q => !(q.1 == i) && !(q.1 + 1 == i && q.2.category == 2))) ks = LL x) (g : ∀ x, wG X mL Z (kk x) N h r cl sl pc' (LL x) st) : wG X mL Z (vB (x + v) kk) N h r cl sl pc L st := by
  obtain ⟨hd, rfl⟩ := hd
  intro z hz Q hQ H locs ls w S hl
  exact lv_iinc (v := x + v) C.1 C.2.1 hd hl hp (by rw [hv]) hn rfl (fun ls' hl' => g _ z hz Q hQ H locs ls' w S (lv_sub hl' ks (hf _)))
theorem wG_iadd (C : Cx X y cc mL ret rm) {x y1 : Int32} (hd : dcd cc pc .iadd 1 pc') (g : wG X mL Z k N h r cl sl pc' L (.int (x + y1) :: st)) : wG X mL Z k N h r cl sl pc L (.int y1 :: .int x :: st) := by
  obtain ⟨hd, rfl⟩ := hd
  intro z hz Q hQ H locs ls w S hl
  exact lv_iadd C.1 C.2.1 hd (g z hz Q hQ H locs ls w S hl)
theorem wG_isub (C : Cx X y cc mL ret rm) {x y1 : Int32} (hd : dcd cc pc .isub 1 pc') (g : wG X mL Z k N h r cl sl pc' L (.int (x - y1) :: st)) : wG X mL Z k N h r cl sl pc L (.int y1 :: .int x :: st) := by
  obtain ⟨hd, rfl⟩ := hd
  intro z hz Q hQ H locs ls w S hl
  exact lv_isub C.1 C.2.1 hd (g z hz Q hQ H locs ls w S hl)
theorem wG_imul (C : Cx X y cc mL ret rm) {x y1 : Int32} (hd : dcd cc pc .imul 1 pc') (g : wG X mL Z k N h r cl sl pc' L (.int (x * y1) :: st)) : wG X mL Z k N h r cl sl pc L (.int y1 :: .int x :: st) := by
  obtain ⟨hd, rfl⟩ := hd
  intro z hz Q hQ H locs ls w S hl
  exact lv_imul C.1 C.2.1 hd (g z hz Q hQ H locs ls w S hl)
theorem wG_iand (C : Cx X y cc mL ret rm) {x y1 : Int32} (hd : dcd cc pc .iand 1 pc') (g : wG X mL Z k N h r cl sl pc' L (.int (x &&& y1) :: st)) : wG X mL Z k N h r cl sl pc L (.int y1 :: .int x :: st) := by
  obtain ⟨hd, rfl⟩ := hd
  intro z hz Q hQ H locs ls w S hl
  exact lv_iand C.1 C.2.1 hd (g z hz Q hQ H locs ls w S hl)
theorem wG_ior (C : Cx X y cc mL ret rm) {x y1 : Int32} (hd : dcd cc pc .ior 1 pc') (g : wG X mL Z k N h r cl sl pc' L (.int (x ||| y1) :: st)) : wG X mL Z k N h r cl sl pc L (.int y1 :: .int x :: st) := by
  obtain ⟨hd, rfl⟩ := hd
  intro z hz Q hQ H locs ls w S hl
  exact lv_ior C.1 C.2.1 hd (g z hz Q hQ H locs ls w S hl)
theorem wG_ixor (C : Cx X y cc mL ret rm) {x y1 : Int32} (hd : dcd cc pc .ixor 1 pc') (g : wG X mL Z k N h r cl sl pc' L (.int (x ^^^ y1) :: st)) : wG X mL Z k N h r cl sl pc L (.int y1 :: .int x :: st) := by
  obtain ⟨hd, rfl⟩ := hd
  intro z hz Q hQ H locs ls w S hl
  exact lv_ixor C.1 C.2.1 hd (g z hz Q hQ H locs ls w S hl)
theorem wG_ishl (C : Cx X y cc mL ret rm) {x y1 : Int32} (hd : dcd cc pc .ishl 1 pc') (g : wG X mL Z k N h r cl sl pc' L (.int (x <<< (y1 &&& 31)) :: st)) : wG X mL Z k N h r cl sl pc L (.int y1 :: .int x :: st) := by
  obtain ⟨hd, rfl⟩ := hd
  intro z hz Q hQ H locs ls w S hl
  exact lv_ishl C.1 C.2.1 hd (g z hz Q hQ H locs ls w S hl)
theorem wG_ishr (C : Cx X y cc mL ret rm) {x y1 : Int32} (hd : dcd cc pc .ishr 1 pc') (g : wG X mL Z k N h r cl sl pc' L (.int (x >>> (y1 &&& 31)) :: st)) : wG X mL Z k N h r cl sl pc L (.int y1 :: .int x :: st) := by
  obtain ⟨hd, rfl⟩ := hd
  intro z hz Q hQ H locs ls w S hl
  exact lv_ishr C.1 C.2.1 hd (g z hz Q hQ H locs ls w S hl)
theorem wG_ladd (C : Cx X y cc mL ret rm) {x y1 : Int64} (hd : dcd cc pc .ladd 1 pc') (g : wG X mL Z k N h r cl sl pc' L (.long (x + y1) :: st)) : wG X mL Z k N h r cl sl pc L (.long y1 :: .long x :: st) := by
  obtain ⟨hd, rfl⟩ := hd
  intro z hz Q hQ H locs ls w S hl
  exact lv_ladd C.1 C.2.1 hd (g z hz Q hQ H locs ls w S hl)
theorem wG_lsub (C : Cx X y cc mL ret rm) {x y1 : Int64} (hd : dcd cc pc .lsub 1 pc') (g : wG X mL Z k N h r cl sl pc' L (.long (x - y1) :: st)) : wG X mL Z k N h r cl sl pc L (.long y1 :: .long x :: st) := by
  obtain ⟨hd, rfl⟩ := hd
  intro z hz Q hQ H locs ls w S hl
  exact lv_lsub C.1 C.2.1 hd (g z hz Q hQ H locs ls w S hl)
theorem wG_lmul (C : Cx X y cc mL ret rm) {x y1 : Int64} (hd : dcd cc pc .lmul 1 pc') (g : wG X mL Z k N h r cl sl pc' L (.long (x * y1) :: st)) : wG X mL Z k N h r cl sl pc L (.long y1 :: .long x :: st) := by
  obtain ⟨hd, rfl⟩ := hd
  intro z hz Q hQ H locs ls w S hl
  exact lv_lmul C.1 C.2.1 hd (g z hz Q hQ H locs ls w S hl)
theorem wG_land (C : Cx X y cc mL ret rm) {x y1 : Int64} (hd : dcd cc pc .land 1 pc') (g : wG X mL Z k N h r cl sl pc' L (.long (x &&& y1) :: st)) : wG X mL Z k N h r cl sl pc L (.long y1 :: .long x :: st) := by
  obtain ⟨hd, rfl⟩ := hd
  intro z hz Q hQ H locs ls w S hl
  exact lv_land C.1 C.2.1 hd (g z hz Q hQ H locs ls w S hl)
theorem wG_lor (C : Cx X y cc mL ret rm) {x y1 : Int64} (hd : dcd cc pc .lor 1 pc') (g : wG X mL Z k N h r cl sl pc' L (.long (x ||| y1) :: st)) : wG X mL Z k N h r cl sl pc L (.long y1 :: .long x :: st) := by
  obtain ⟨hd, rfl⟩ := hd
  intro z hz Q hQ H locs ls w S hl
  exact lv_lor C.1 C.2.1 hd (g z hz Q hQ H locs ls w S hl)
theorem wG_ineg (C : Cx X y cc mL ret rm) {x : Int32} (hd : dcd cc pc .ineg 1 pc') (g : wG X mL Z k N h r cl sl pc' L (.int (-x) :: st)) : wG X mL Z k N h r cl sl pc L (.int x :: st) := by
  obtain ⟨hd, rfl⟩ := hd
  intro z hz Q hQ H locs ls w S hl
  exact lv_ineg C.1 C.2.1 hd (g z hz Q hQ H locs ls w S hl)
theorem wG_lneg (C : Cx X y cc mL ret rm) {x : Int64} (hd : dcd cc pc .lneg 1 pc') (g : wG X mL Z k N h r cl sl pc' L (.long (-x) :: st)) : wG X mL Z k N h r cl sl pc L (.long x :: st) := by
  obtain ⟨hd, rfl⟩ := hd
  intro z hz Q hQ H locs ls w S hl
  exact lv_lneg C.1 C.2.1 hd (g z hz Q hQ H locs ls w S hl)
theorem wG_i2l (C : Cx X y cc mL ret rm) {x : Int32} (hd : dcd cc pc .i2l 1 pc') (g : wG X mL Z k N h r cl sl pc' L (.long x.toInt64 :: st)) : wG X mL Z k N h r cl sl pc L (.int x :: st) := by
  obtain ⟨hd, rfl⟩ := hd
  intro z hz Q hQ H locs ls w S hl
  exact lv_i2l C.1 C.2.1 hd rfl (g z hz Q hQ H locs ls w S hl)
theorem wG_l2i (C : Cx X y cc mL ret rm) {x : Int64} (hd : dcd cc pc .l2i 1 pc') (g : wG X mL Z k N h r cl sl pc' L (.int x.toInt32 :: st)) : wG X mL Z k N h r cl sl pc L (.long x :: st) := by
  obtain ⟨hd, rfl⟩ := hd
  intro z hz Q hQ H locs ls w S hl
  exact lv_l2i C.1 C.2.1 hd rfl (g z hz Q hQ H locs ls w S hl)
theorem wG_lushr (C : Cx X y cc mL ret rm) {x : Int64} {y1 : Int32} (hd : dcd cc pc .lushr 1 pc') (g : wG X mL Z k N h r cl sl pc' L (.long (x.toUInt64 >>> (y1.toInt64.toUInt64 &&& Int64.toUInt64 63)).toInt64 :: st)) : wG X mL Z k N h r cl sl pc L (.int y1 :: .long x :: st) := by
  obtain ⟨hd, rfl⟩ := hd
  intro z hz Q hQ H locs ls w S hl
  exact lv_lushr C.1 C.2.1 hd rfl (g z hz Q hQ H locs ls w S hl)
theorem wG_lshl (C : Cx X y cc mL ret rm) {x : Int64} {y1 : Int32} (hd : dcd cc pc .lshl 1 pc') (g : wG X mL Z k N h r cl sl pc' L (.long (x <<< (y1.toInt64 &&& 63)) :: st)) : wG X mL Z k N h r cl sl pc L (.int y1 :: .long x :: st) := by
  obtain ⟨hd, rfl⟩ := hd
  intro z hz Q hQ H locs ls w S hl
  exact lv_lshl C.1 C.2.1 hd rfl (g z hz Q hQ H locs ls w S hl)
theorem wG_lshr (C : Cx X y cc mL ret rm) {x : Int64} {y1 : Int32} (hd : dcd cc pc .lshr 1 pc') (g : wG X mL Z k N h r cl sl pc' L (.long (x >>> (y1.toInt64 &&& 63)) :: st)) : wG X mL Z k N h r cl sl pc L (.int y1 :: .long x :: st) := by
  obtain ⟨hd, rfl⟩ := hd
  intro z hz Q hQ H locs ls w S hl
  exact lv_lshr C.1 C.2.1 hd rfl (g z hz Q hQ H locs ls w S hl)
theorem wG_lcmp (C : Cx X y cc mL ret rm) {x y1 : Int64} (hd : dcd cc pc .lcmp 1 pc') (g : wG X mL Z k N h r cl sl pc' L (.int (lg_cmp x y1) :: st)) : wG X mL Z k N h r cl sl pc L (.long y1 :: .long x :: st) := by
  obtain ⟨hd, rfl⟩ := hd
  intro z hz Q hQ H locs ls w S hl
  exact W.lcmp C.1 C.2.1 hd (g z hz Q hQ H locs ls w S hl)
theorem wG_dup (C : Cx X y cc mL ret rm) {v : Value} (hd : dcd cc pc .dup 1 pc') (hv : v.category = 1) (g : wG X mL Z k N h r cl sl pc' L (v :: v :: st)) : wG X mL Z k N h r cl sl pc L (v :: st) := by
  obtain ⟨hd, rfl⟩ := hd
  intro z hz Q hQ H locs ls w S hl
  exact lv_dup C.1 C.2.1 hd hv (g z hz Q hQ H locs ls w S hl)
theorem wG_pop (C : Cx X y cc mL ret rm) {v : Value} (hd : dcd cc pc .pop 1 pc') (hv : v.category = 1) (g : wG X mL Z k N h r cl sl pc' L (st)) : wG X mL Z k N h r cl sl pc L (v :: st) := by
  obtain ⟨hd, rfl⟩ := hd
  intro z hz Q hQ H locs ls w S hl
  exact lv_pop C.1 C.2.1 hd hv (g z hz Q hQ H locs ls w S hl)
theorem wG_dup2 (C : Cx X y cc mL ret rm) {v v2 : Value} (hd : dcd cc pc .dup2 1 pc') (hv : v.category = 1) (hv2 : v2.category = 1) (g : wG X mL Z k N h r cl sl pc' L (v :: v2 :: v :: v2 :: st)) : wG X mL Z k N h r cl sl pc L (v :: v2 :: st) := by
  obtain ⟨hd, rfl⟩ := hd
  intro z hz Q hQ H locs ls w S hl
  exact lv_dup2_11 C.1 C.2.1 hd hv hv2 (g z hz Q hQ H locs ls w S hl)
theorem wG_idivK (C : Cx X y cc mL ret rm) {x y1 : Int32} (hd : dcd cc pc .idiv 1 pc') (hne : ¬ y1 = 0) (g : wG X mL Z k N h r cl sl pc' L (.int (x / y1) :: st)) : wG X mL Z k N h r cl sl pc L (.int y1 :: .int x :: st) := by
  obtain ⟨hd, rfl⟩ := hd
  intro z hz Q hQ H locs ls w S hl
  exact lv_idiv C.1 C.2.1 hd hne (g z hz Q hQ H locs ls w S hl)
theorem wG_idiv (C : Cx X y cc mL ret rm) {x y1 : Int32} (hd : dcd cc pc .idiv 1 pc') (g : wG X mL Z k N h r cl sl pc' L (.int (x / y1) :: st)) : wG X mL Z (if y1 = 0 then none else k) N h r cl sl pc L (.int y1 :: .int x :: st) := by
  by_cases h0 : y1 = 0
  · rw [if_pos h0]; exact wG_none
  · rw [if_neg h0]; exact wG_idivK C hd h0 g
theorem wG_iremK (C : Cx X y cc mL ret rm) {x y1 : Int32} (hd : dcd cc pc .irem 1 pc') (hne : ¬ y1 = 0) (g : wG X mL Z k N h r cl sl pc' L (.int (x - x / y1 * y1) :: st)) : wG X mL Z k N h r cl sl pc L (.int y1 :: .int x :: st) := by
  obtain ⟨hd, rfl⟩ := hd
  intro z hz Q hQ H locs ls w S hl
  exact lv_irem C.1 C.2.1 hd hne (g z hz Q hQ H locs ls w S hl)
theorem wG_irem (C : Cx X y cc mL ret rm) {x y1 : Int32} (hd : dcd cc pc .irem 1 pc') (g : wG X mL Z k N h r cl sl pc' L (.int (x - x / y1 * y1) :: st)) : wG X mL Z (if y1 = 0 then none else k) N h r cl sl pc L (.int y1 :: .int x :: st) := by
  by_cases h0 : y1 = 0
  · rw [if_pos h0]; exact wG_none
  · rw [if_neg h0]; exact wG_iremK C hd h0 g
theorem wG_ldivK (C : Cx X y cc mL ret rm) {x y1 : Int64} (hd : dcd cc pc .ldiv 1 pc') (hne : ¬ y1 = 0) (g : wG X mL Z k N h r cl sl pc' L (.long (x / y1) :: st)) : wG X mL Z k N h r cl sl pc L (.long y1 :: .long x :: st) := by
  obtain ⟨hd, rfl⟩ := hd
  intro z hz Q hQ H locs ls w S hl
  exact lv_ldiv C.1 C.2.1 hd hne (g z hz Q hQ H locs ls w S hl)
theorem wG_ldiv (C : Cx X y cc mL ret rm) {x y1 : Int64} (hd : dcd cc pc .ldiv 1 pc') (g : wG X mL Z k N h r cl sl pc' L (.long (x / y1) :: st)) : wG X mL Z (if y1 = 0 then none else k) N h r cl sl pc L (.long y1 :: .long x :: st) := by
  by_cases h0 : y1 = 0
  · rw [if_pos h0]; exact wG_none
  · rw [if_neg h0]; exact wG_ldivK C hd h0 g
theorem wG_lremK (C : Cx X y cc mL ret rm) {x y1 : Int64} (hd : dcd cc pc .lrem 1 pc') (hne : ¬ y1 = 0) (g : wG X mL Z k N h r cl sl pc' L (.long (x - x / y1 * y1) :: st)) : wG X mL Z k N h r cl sl pc L (.long y1 :: .long x :: st) := by
  obtain ⟨hd, rfl⟩ := hd
  intro z hz Q hQ H locs ls w S hl
  exact lv_lrem C.1 C.2.1 hd hne (g z hz Q hQ H locs ls w S hl)
theorem wG_lrem (C : Cx X y cc mL ret rm) {x y1 : Int64} (hd : dcd cc pc .lrem 1 pc') (g : wG X mL Z k N h r cl sl pc' L (.long (x - x / y1 * y1) :: st)) : wG X mL Z (if y1 = 0 then none else k) N h r cl sl pc L (.long y1 :: .long x :: st) := by
  by_cases h0 : y1 = 0
  · rw [if_pos h0]; exact wG_none
  · rw [if_neg h0]; exact wG_lremK C hd h0 g
theorem wG_icmp_eq (C : Cx X y cc mL ret rm) {x y1 : Int32} (hd : dcb cc pc (.if_icmp .eq off) off tgt pc') (gt : wG X mL Z kt N h r cl sl tgt L st) (gf : wG X mL Z kf N h r cl sl pc' L st) : wG X mL Z (if x = y1 then kt else kf) N h r cl sl pc L (.int y1 :: .int x :: st) := by
  obtain ⟨hd, ht, rfl⟩ := hd
  intro z hz Q hQ H locs ls w S hl
  refine lv_icmp_eq C.1 C.2.1 hd ht (fun q => ?_) (fun q => ?_)
  · rw [if_pos q] at hz; exact gt z hz Q hQ H locs ls w S hl
  · rw [if_neg q] at hz; exact gf z hz Q hQ H locs ls w S hl
theorem wG_if_eq (C : Cx X y cc mL ret rm) {x : Int32} (hd : dcb cc pc (.ifCond .eq off) off tgt pc') (gt : wG X mL Z kt N h r cl sl tgt L st) (gf : wG X mL Z kf N h r cl sl pc' L st) : wG X mL Z (if x = 0 then kt else kf) N h r cl sl pc L (.int x :: st) := by
  obtain ⟨hd, ht, rfl⟩ := hd
  intro z hz Q hQ H locs ls w S hl
  refine lv_if_eq C.1 C.2.1 hd ht (fun q => ?_) (fun q => ?_)
  · rw [if_pos q] at hz; exact gt z hz Q hQ H locs ls w S hl
  · rw [if_neg q] at hz; exact gf z hz Q hQ H locs ls w S hl
theorem wG_icmp_ne (C : Cx X y cc mL ret rm) {x y1 : Int32} (hd : dcb cc pc (.if_icmp .ne off) off tgt pc') (gf : wG X mL Z kf N h r cl sl pc' L st) (gt : wG X mL Z kt N h r cl sl tgt L st) : wG X mL Z (if x = y1 then kf else kt) N h r cl sl pc L (.int y1 :: .int x :: st) := by
  obtain ⟨hd, ht, rfl⟩ := hd
  intro z hz Q hQ H locs ls w S hl
  refine lv_icmp_ne C.1 C.2.1 hd ht (fun q => ?_) (fun q => ?_)
  · rw [if_neg q] at hz; exact gt z hz Q hQ H locs ls w S hl
  · rw [if_pos q] at hz; exact gf z hz Q hQ H locs ls w S hl
theorem wG_if_ne (C : Cx X y cc mL ret rm) {x : Int32} (hd : dcb cc pc (.ifCond .ne off) off tgt pc') (gf : wG X mL Z kf N h r cl sl pc' L st) (gt : wG X mL Z kt N h r cl sl tgt L st) : wG X mL Z (if x = 0 then kf else kt) N h r cl sl pc L (.int x :: st) := by
  obtain ⟨hd, ht, rfl⟩ := hd
  intro z hz Q hQ H locs ls w S hl
  refine lv_if_ne C.1 C.2.1 hd ht (fun q => ?_) (fun q => ?_)
  · rw [if_neg q] at hz; exact gt z hz Q hQ H locs ls w S hl
  · rw [if_pos q] at hz; exact gf z hz Q hQ H locs ls w S hl
theorem wG_icmp_lt (C : Cx X y cc mL ret rm) {x y1 : Int32} (hd : dcb cc pc (.if_icmp .lt off) off tgt pc') (gt : wG X mL Z kt N h r cl sl tgt L st) (gf : wG X mL Z kf N h r cl sl pc' L st) : wG X mL Z (if x < y1 then kt else kf) N h r cl sl pc L (.int y1 :: .int x :: st) := by
  obtain ⟨hd, ht, rfl⟩ := hd
  intro z hz Q hQ H locs ls w S hl
  refine lv_icmp_lt C.1 C.2.1 hd ht (fun q => ?_) (fun q => ?_)
  · rw [if_pos q] at hz; exact gt z hz Q hQ H locs ls w S hl
  · rw [if_neg q] at hz; exact gf z hz Q hQ H locs ls w S hl
theorem wG_if_lt (C : Cx X y cc mL ret rm) {x : Int32} (hd : dcb cc pc (.ifCond .lt off) off tgt pc') (gt : wG X mL Z kt N h r cl sl tgt L st) (gf : wG X mL Z kf N h r cl sl pc' L st) : wG X mL Z (if x < 0 then kt else kf) N h r cl sl pc L (.int x :: st) := by
  obtain ⟨hd, ht, rfl⟩ := hd
  intro z hz Q hQ H locs ls w S hl
  refine lv_if_lt C.1 C.2.1 hd ht (fun q => ?_) (fun q => ?_)
  · rw [if_pos q] at hz; exact gt z hz Q hQ H locs ls w S hl
  · rw [if_neg q] at hz; exact gf z hz Q hQ H locs ls w S hl
theorem wG_icmp_ge (C : Cx X y cc mL ret rm) {x y1 : Int32} (hd : dcb cc pc (.if_icmp .ge off) off tgt pc') (gt : wG X mL Z kt N h r cl sl tgt L st) (gf : wG X mL Z kf N h r cl sl pc' L st) : wG X mL Z (if y1 ≤ x then kt else kf) N h r cl sl pc L (.int y1 :: .int x :: st) := by
  obtain ⟨hd, ht, rfl⟩ := hd
  intro z hz Q hQ H locs ls w S hl
  refine lv_icmp_ge C.1 C.2.1 hd ht (fun q => ?_) (fun q => ?_)
  · rw [if_pos q] at hz; exact gt z hz Q hQ H locs ls w S hl
  · rw [if_neg q] at hz; exact gf z hz Q hQ H locs ls w S hl
theorem wG_if_ge (C : Cx X y cc mL ret rm) {x : Int32} (hd : dcb cc pc (.ifCond .ge off) off tgt pc') (gt : wG X mL Z kt N h r cl sl tgt L st) (gf : wG X mL Z kf N h r cl sl pc' L st) : wG X mL Z (if 0 ≤ x then kt else kf) N h r cl sl pc L (.int x :: st) := by
  obtain ⟨hd, ht, rfl⟩ := hd
  intro z hz Q hQ H locs ls w S hl
  refine lv_if_ge C.1 C.2.1 hd ht (fun q => ?_) (fun q => ?_)
  · rw [if_pos q] at hz; exact gt z hz Q hQ H locs ls w S hl
  · rw [if_neg q] at hz; exact gf z hz Q hQ H locs ls w S hl
theorem wG_icmp_gt (C : Cx X y cc mL ret rm) {x y1 : Int32} (hd : dcb cc pc (.if_icmp .gt off) off tgt pc') (gt : wG X mL Z kt N h r cl sl tgt L st) (gf : wG X mL Z kf N h r cl sl pc' L st) : wG X mL Z (if y1 < x then kt else kf) N h r cl sl pc L (.int y1 :: .int x :: st) := by
  obtain ⟨hd, ht, rfl⟩ := hd
  intro z hz Q hQ H locs ls w S hl
  refine lv_icmp_gt C.1 C.2.1 hd ht (fun q => ?_) (fun q => ?_)
  · rw [if_pos q] at hz; exact gt z hz Q hQ H locs ls w S hl
  · rw [if_neg q] at hz; exact gf z hz Q hQ H locs ls w S hl
theorem wG_if_gt (C : Cx X y cc mL ret rm) {x : Int32} (hd : dcb cc pc (.ifCond .gt off) off tgt pc') (gt : wG X mL Z kt N h r cl sl tgt L st) (gf : wG X mL Z kf N h r cl sl pc' L st) : wG X mL Z (if 0 < x then kt else kf) N h r cl sl pc L (.int x :: st) := by
  obtain ⟨hd, ht, rfl⟩ := hd
  intro z hz Q hQ H locs ls w S hl
  refine lv_if_gt C.1 C.2.1 hd ht (fun q => ?_) (fun q => ?_)
  · rw [if_pos q] at hz; exact gt z hz Q hQ H locs ls w S hl
  · rw [if_neg q] at hz; exact gf z hz Q hQ H locs ls w S hl
theorem wG_icmp_le (C : Cx X y cc mL ret rm) {x y1 : Int32} (hd : dcb cc pc (.if_icmp .le off) off tgt pc') (gt : wG X mL Z kt N h r cl sl tgt L st) (gf : wG X mL Z kf N h r cl sl pc' L st) : wG X mL Z (if x ≤ y1 then kt else kf) N h r cl sl pc L (.int y1 :: .int x :: st) := by
  obtain ⟨hd, ht, rfl⟩ := hd
  intro z hz Q hQ H locs ls w S hl
  refine lv_icmp_le C.1 C.2.1 hd ht (fun q => ?_) (fun q => ?_)
  · rw [if_pos q] at hz; exact gt z hz Q hQ H locs ls w S hl
  · rw [if_neg q] at hz; exact gf z hz Q hQ H locs ls w S hl
theorem wG_if_le (C : Cx X y cc mL ret rm) {x : Int32} (hd : dcb cc pc (.ifCond .le off) off tgt pc') (gt : wG X mL Z kt N h r cl sl tgt L st) (gf : wG X mL Z kf N h r cl sl pc' L st) : wG X mL Z (if x ≤ 0 then kt else kf) N h r cl sl pc L (.int x :: st) := by
  obtain ⟨hd, ht, rfl⟩ := hd
  intro z hz Q hQ H locs ls w S hl
  refine lv_if_le C.1 C.2.1 hd ht (fun q => ?_) (fun q => ?_)
  · rw [if_pos q] at hz; exact gt z hz Q hQ H locs ls w S hl
  · rw [if_neg q] at hz; exact gf z hz Q hQ H locs ls w S hl
theorem wG_goto (C : Cx X y cc mL ret rm) (hd : dcb cc pc (.goto off) off tgt pc') (g : wG X mL Z k N h r cl sl tgt L st) : wG X mL Z k N h r cl sl pc L st := by
  obtain ⟨hd, ht, -⟩ := hd
  intro z hz Q hQ H locs ls w S hl
  exact lv_goto C.1 C.2.1 hd ht (g z hz Q hQ H locs ls w S hl)
/-- a field of class number c, place j, as the pool of 'own' names it at idx -/
def fL (own : String) (idx c j : Nat) : Prop := ∃ (Cn : String) (T : u_T) (nn : Nat) (ref : String), cls[c]? = some (Cn, T, nn) ∧ nn = nF c ∧ c < 12 ∧ j < nn ∧ Cond.fieldLink own idx ref (T j).2.1 (T j).2.2.1 ∈ BIG ∧ (ref = (T j).1 ∨ Cond.sameField ref (T j).1 (T j).2.1 (T j).2.2.1 ∈ BIG) ∧ ∀ w ∈ u_ws Cn T nn, w ∈ BIG
theorem wG_getf (C : Cx X y cc mL ret rm) {idx c j a : Nat} (hf : fL y.cls idx c j) (hk : Kd a = c) (ha : a < N) (hd : dcd cc pc (.getfield idx) 3 pc') {v : Value} (hv : fv (xB X) c (h a) (r a) j = v) (g : wG X mL Z k N h r cl sl pc' L (v :: st)) : wG X mL Z k N h r cl sl pc L (.ref (xB X + a) :: st) := by
  obtain ⟨hd, rfl⟩ := hd
  obtain ⟨Cn, T, nn, ref, hc, hnn, hc12, hj, hlk, hsm, hin⟩ := hf
  subst hnn
  intro z hz Q hQ H locs ls w S hl
  obtain ⟨cell, q1, q2, q3, q4⟩ := w.ob ha hk hc12
  have hK := C.2.2.2.2.2.2.2.2.2.1
  have hts := C.2.2.2.2.1
  obtain ⟨hS, hfc, kC, hkC, hkind⟩ := hK.1 c _ hc
  obtain ⟨cf, kf, fi, f, hi, hsl⟩ := hS j hj
  have hsame : ∀ x, (xs X).fieldFound? (T j).1 (T j).2.1 (T j).2.2.1 = some x → (xs X).fieldFound? ref (T j).2.1 (T j).2.2.1 = some x := by
    rcases hsm with rfl | hsm
    · exact fun _ q => q
    · exact fun x q => u_same (hts _ hsm) x q
  refine W.getf C.1 C.2.1 C.2.2.2.1 (hts _ hlk) (hsame _ hi) (u_facts hfc hkC (u_lays hts hin hj) hi).1 q1 (by rw [q3]; exact fun q => by cases q) (v := v) ?_ rfl rfl hd (g z hz Q hQ H locs ls w S hl)
  rw [hsl, q4 j hj, hv]
theorem fv_i {b c j : Nat} {f : Nat → Int32} {g : Nat → Option Nat} (hr : rF c j = false) : fv b c f g j = .int (f j) := by
  unfold fv
  rw [if_neg (by rw [hr]; exact Bool.false_ne_true)]
theorem fv_r {b c j a : Nat} {f : Nat → Int32} {g : Nat → Option Nat} (hr : rF c j = true) (ha : g j = some a) : fv b c f g j = .ref (b + a) := by
  unfold fv
  rw [if_pos hr, ha]
  rfl
theorem wG_getI (C : Cx X y cc mL ret rm) {idx c j a : Nat} (hf : fL y.cls idx c j) (hr : rF c j = false) (hk : Kd a = c) (ha : a < N) (hd : dcd cc pc (.getfield idx) 3 pc') (g : wG X mL Z k N h r cl sl pc' L (.int (h a j) :: st)) : wG X mL Z k N h r cl sl pc L (.ref (xB X + a) :: st) := wG_getf C hf hk ha hd (fv_i hr) g
theorem wG_getR (C : Cx X y cc mL ret rm) {idx c j a b : Nat} (hf : fL y.cls idx c j) (hr : rF c j = true) (hk : Kd a = c) (ha : a < N) (hb : r a j = some b) (hd : dcd cc pc (.getfield idx) 3 pc') (g : wG X mL Z k N h r cl sl pc' L (.ref (xB X + b) :: st)) : wG X mL Z k N h r cl sl pc L (.ref (xB X + a) :: st) := wG_getf C hf hk ha hd (fv_r hr hb) g
/-- what may be put into a field: its type, whether it is final -/
def fP (c j : Nat) (fin : Bool) (own : String) (ty : FieldType) : Prop := ∃ (Cn : String) (T : u_T) (nn : Nat) (ty0 : Nat → FieldType), cls[c]? = some (Cn, T, nn) ∧ (∀ k, k < nn → parseFieldDescriptor (T k).2.2.1 = some (ty0 k)) ∧ (∀ a, a < nn → ∀ b, b < nn → a ≠ b → (T a).2.1 ≠ (T b).2.1) ∧ (T j).2.2.2 = fin ∧ (fin = true → (T j).1 = own) ∧ ty0 j = ty
theorem wG_put0 (C : Cx X y cc mL ret rm) {idx c j a : Nat} {fin : Bool} {ty : FieldType} (hf : fL y.cls idx c j) (hp : fP c j fin y.cls ty) (hfn : fin = true → y.name = "<init>") (hk : Kd a = c) (ha : a < N) {v : Value} (hn : narrow ty v = v) (hfit : fits ty v = true) (hd : dcd cc pc (.putfield idx) 3 pc')
    {h' : Hp} {r' : Rp} (hv : fv (xB X) c (h' a) (r' a) j = v) (ho : ∀ i, i ≠ j → fv (xB X) c (h' a) (r' a) i = fv (xB X) c (h a) (r a) i) (hh : ∀ q, q ≠ a → h' q = h q) (hr : ∀ q, q ≠ a → r' q = r q) (ht : ∀ j b, r' 43 j = some b → 137 ≤ b ∧ b < N ∨ r 43 j = some b)
    (g : wG X mL Z k N h' r' cl sl pc' L st) : wG X mL Z k N h r cl sl pc L (v :: .ref (xB X + a) :: st) := by
  obtain ⟨hd, rfl⟩ := hd
  obtain ⟨Cn, T, nn, ref, hc, hnn, hc12, hj, hlk, hsm, hin⟩ := hf
  obtain ⟨Cn', T', nn', ty0, hc', hty, hnm, hfin, hown2, hty0⟩ := hp
  cases hc.symm.trans hc'
  subst hnn
  subst hty0
  intro z hz Q hQ H locs ls w S hl
  have hK := C.2.2.2.2.2.2.2.2.2.1
  have hts := C.2.2.2.2.1
  have hap := va_apart (own := y.cls) hts hin ty0 hty hnm hK hc
  obtain ⟨cell, q1, q2, q3, q4⟩ := w.ob ha hk hc12
  obtain ⟨hS, hfc, kC, hkC, hkind⟩ := hK.1 c _ hc
  obtain ⟨cf, kf, fi, f, hi, hsl⟩ := hS j hj
  have hsame : ∀ x, (xs X).fieldFound? (T j).1 (T j).2.1 (T j).2.2.1 = some x → (xs X).fieldFound? ref (T j).2.1 (T j).2.2.1 = some x := by
    rcases hsm with rfl | hsm
    · exact fun _ q => q
    · exact fun x q => u_same (hts _ hsm) x q
  have hst := (u_facts hfc hkC (u_lays hts hin hj) hi).1
  have key : ∀ H1 : Heap, H1[xB X + a]? = some (cell.setSlot f.slot v) → H1.size = H.size → (∀ q, q ≠ xB X + a → H1[q]? = H[q]?) → W (xp X) (xl X) (xe X) (xR X) (xs X) (xm X) (xa X) (xb X) (xM X) (xc X) H1 (locs ++ [⟨xB X + a, f.slot⟩]) cl sl Q (F0 (xm X) (pc + 3) ls st) := by
    intro H1 e1 e2 e3
    rw [hsl] at e1
    refine g z hz Q hQ H1 _ ls (w.set a ha e2 e3 ?_ hh hr ?_) (S.put e2 e3 (Nat.le_add_right _ _)) hl
    · rw [hk]
      unfold atK
      rw [if_pos hc12]
      refine t_OB.to (V := updV (fv (xB X) c (h a) (r a)) j v) ⟨_, e1, q2, q3, t_set q4 hap hj v⟩ (fun i _ => ?_)
      by_cases e : i = j
      · subst e; simp [updV, hv]
      · simp [updV, e, ho i e]
    · intro j b q
      rcases ht j b q with q | q
      · exact q
      · exact w.2.2 j b q
  cases fin with
  | false =>
    have hlay := hts _ (hin _ (u_in_lay hj))
    unfold u_lay at hlay
    rw [if_neg (by rw [hfin]; decide)] at hlay
    have h6 := u_store hfc hkC hkind hlay hi (hty j hj) hn hfit
    exact W.putK C.1 C.2.1 (f := f) ⟨C.2.2.2.1, hts _ hlk, ⟨_, _, _, hsame _ hi⟩, hst⟩ (by rw [q2]; exact h6) q1 q3 (by rw [hsl]; exact k2_hasslot (q4 j hj)) rfl rfl hd key
  | true =>
    have hlay := hts _ (hin _ (u_in_lay hj))
    unfold u_lay at hlay
    rw [if_pos hfin] at hlay
    have hcf : (xm X).cls = cf := by
      obtain ⟨_, _, c', _, _, _, -, -, hf', -, -, -, hown3, -⟩ := Cond.laysFinal_spec hlay
      have e1 : c' = cf := by have := hi.symm.trans hf'; simp at this; exact this.1.symm
      rw [hown2 rfl] at hown3
      rw [← e1]; exact Option.some.inj (C.2.2.2.1.symm.trans hown3)
    have h6 := u_fits hfc hkC hkind (Or.inr hlay) hi (hty j hj) hn hfit
    exact W.putFinK C.1 C.2.1 C.2.2.2.1 (hts _ hlk) (hsame _ hi) hst hcf (C.2.2.2.2.2.2.2.1.trans (hfn rfl)) (by rw [q2]; exact h6) q1 q3 (by rw [hsl]; exact k2_hasslot (q4 j hj)) rfl rfl hd key
theorem fv_set {b c j : Nat} {h : Hp} {r : Rp} {a : Nat} {v : Int32} (hr : rF c j = false) : fv b c (u2 h a j v a) (r a) j = .int v := by
  rw [fv_i hr, u2_self]; simp
theorem fv_keep {b c j : Nat} {h : Hp} {r : Rp} {a : Nat} {v : Int32} {i : Nat} (e : i ≠ j) : fv b c (u2 h a j v a) (r a) i = fv b c (h a) (r a) i := by
  rw [u2_self]; simp [fv, e]
theorem wG_putI (C : Cx X y cc mL ret rm) {idx c j a : Nat} {fin : Bool} {v : Int32} {kk : Hp → Option ρ} (hf : fL y.cls idx c j) (hp : fP c j fin y.cls .int) (hfn : fin = true → y.name = "<init>") (hr : rF c j = false) (hk : Kd a = c) (ha : a < N) (hd : dcd cc pc (.putfield idx) 3 pc')
    (g : ∀ h', wG X mL Z (kk h') N h' r cl sl pc' L st) : wG X mL Z (vB (u2 h a j v) kk) N h r cl sl pc L (.int v :: .ref (xB X + a) :: st) :=
  wG_put0 (h' := u2 h a j v) (r' := r) C hf hp hfn hk ha rfl rfl hd (fv_set hr) (fun _ e => fv_keep e) (fun _ e => u2_ne _ _ _ e) (fun _ _ => rfl) (fun _ _ q => Or.inr q) (g _)
theorem wG_putZ (C : Cx X y cc mL ret rm) {idx c j a : Nat} {fin : Bool} {v : Int32} {kk : Hp → Option ρ} (hf : fL y.cls idx c j) (hp : fP c j fin y.cls .boolean) (hfn : fin = true → y.name = "<init>") (hr : rF c j = false) (hk : Kd a = c) (ha : a < N) (hn : narrow .boolean (.int v) = .int v) (hfit : fits .boolean (.int v) = true) (hd : dcd cc pc (.putfield idx) 3 pc')
    (g : ∀ h', wG X mL Z (kk h') N h' r cl sl pc' L st) : wG X mL Z (vB (u2 h a j v) kk) N h r cl sl pc L (.int v :: .ref (xB X + a) :: st) :=
  wG_put0 (h' := u2 h a j v) (r' := r) C hf hp hfn hk ha hn hfit hd (fv_set hr) (fun _ e => fv_keep e) (fun _ e => u2_ne _ _ _ e) (fun _ _ => rfl) (fun _ _ q => Or.inr q) (g _)
theorem wG_putR (C : Cx X y cc mL ret rm) {idx c j a b : Nat} {fin : Bool} {ty : FieldType} {kk : Rp → Option ρ} (hf : fL y.cls idx c j) (hp : fP c j fin y.cls ty) (hfn : fin = true → y.name = "<init>") (hr : rF c j = true) (hk : Kd a = c) (ha : a < N) (hty : (∃ n, ty = .object n) ∨ ∃ t, ty = .array t) (h43 : a ≠ 43) (hd : dcd cc pc (.putfield idx) 3 pc')
    (g : ∀ r', wG X mL Z (kk r') N h r' cl sl pc' L st) : wG X mL Z (vB (u2 r a j (some b)) kk) N h r cl sl pc L (.ref (xB X + b) :: .ref (xB X + a) :: st) := by
  refine wG_put0 (h' := h) (r' := u2 r a j (some b)) C hf hp hfn hk ha (v := .ref (xB X + b)) ?_ ?_ hd ?_ ?_ (fun _ _ => rfl) (fun _ e => u2_ne _ _ _ e) (fun i q hq => Or.inr (by rw [u2_ne _ _ _ (Ne.symm h43)] at hq; exact hq)) (g _)
  · rcases hty with ⟨n, rfl⟩ | ⟨t, rfl⟩ <;> rfl
  · rcases hty with ⟨n, rfl⟩ | ⟨t, rfl⟩ <;> rfl
  · exact fv_r hr (by rw [u2_self]; simp)
  · intro i e
    rw [u2_self]; simp [fv, e]
-- arrays
theorem Cx.arr (C : Cx X y cc mL ret rm) (t0 : Nat) {q : ClassId × FieldType} (ht : (tys (xE X))[t0]? = some q) : ArrOfT (xs X) q.1 q.2 := (C.2.2.2.2.2.2.2.2.2.1.2 t0 _ ht).1
theorem wG_iald (C : Cx X y cc mL ret rm) {a n : Nat} {i : Int32} (hk : Kd a = 12) (ha : a < N) (hn : Ln a = n) (hd : dcd cc pc .iaload 1 pc') (g : wG X mL Z k N h r cl sl pc' L (.int (h a (ix i)) :: st)) : wG X mL Z (if inB i n then k else none) N h r cl sl pc L (.int i :: .ref (xB X + a) :: st) := by
  obtain ⟨hd, rfl⟩ := hd
  subst hn
  intro z hz Q hQ H locs ls w S hl
  by_cases hin : inB i (Ln a)
  · rw [if_pos hin] at hz
    exact W.iald (v := .int (h a (ix i))) C.1 C.2.1 (w.ai ha hk (by decide) (by decide)) (C.arr 0 rfl _ _) (fun q => by cases q) (by rw [arrV_size]; exact hin.vp) (by rw [arrV_read _ _ (ix_lt hin)]) rfl rfl hd (g z hz Q hQ H locs ls w S hl)
  · rw [if_neg hin] at hz; cases hz
theorem wG_zald (C : Cx X y cc mL ret rm) {a n : Nat} {i : Int32} (hk : Kd a = 13) (ha : a < N) (hn : Ln a = n) (hd : dcd cc pc .baload 1 pc') (g : wG X mL Z k N h r cl sl pc' L (.int (h a (ix i)) :: st)) : wG X mL Z (if inB i n then k else none) N h r cl sl pc L (.int i :: .ref (xB X + a) :: st) := by
  obtain ⟨hd, rfl⟩ := hd
  subst hn
  intro z hz Q hQ H locs ls w S hl
  by_cases hin : inB i (Ln a)
  · rw [if_pos hin] at hz
    exact W.zald (v := .int (h a (ix i))) C.1 C.2.1 (w.ai ha hk (by decide) (by decide)) (C.arr 1 rfl _ _) (fun q => by cases q) (by rw [arrV_size]; exact hin.vp) (by rw [arrV_read _ _ (ix_lt hin)]) rfl rfl hd (g z hz Q hQ H locs ls w S hl)
  · rw [if_neg hin] at hz; cases hz
theorem atK_ai {E : wE} {a c : Nat} {f : Nat → Int32} {g : Nat → Option Nat} {H : Heap} (hk : Kd a = c) (hc : ¬ c < 12) (hc2 : c < 14) (h : H[eB E + a]? = some (arrV (eC E c) (Ln a) (fun j => .int (f j)))) : atK E (Kd a) a f g H := by
  rw [hk]
  unfold atK
  rw [if_neg hc, if_pos hc2]
  exact h
theorem atK_ar {E : wE} {a c : Nat} {f : Nat → Int32} {g : Nat → Option Nat} {H : Heap} (hk : Kd a = c) (hc : ¬ c < 12) (hc2 : ¬ c < 14) (h : H[eB E + a]? = some (arrV (eC E c) (Ln a) (fun j => va_rf ((g j).map (fun q => eB E + q))))) : atK E (Kd a) a f g H := by
  rw [hk]
  unfold atK
  rw [if_neg hc, if_neg hc2]
  exact h
theorem wG_iast (C : Cx X y cc mL ret rm) {a n : Nat} {i v : Int32} {kk : Hp → Option ρ} (hk : Kd a = 12) (ha : a < N) (hn : Ln a = n) (hd : dcd cc pc .iastore 1 pc') (g : ∀ h', wG X mL Z (kk h') N h' r cl sl pc' L st) : wG X mL Z (if inB i n then vB (u2 h a (ix i) v) kk else none) N h r cl sl pc L (.int v :: .int i :: .ref (xB X + a) :: st) := by
  obtain ⟨hd, rfl⟩ := hd
  subst hn
  intro z hz Q hQ H locs ls w S hl
  by_cases hin : inB i (Ln a)
  · rw [if_pos hin] at hz
    refine W.iast C.1 C.2.1 (w.ai ha hk (by decide) (by decide)) (C.arr 0 rfl _ _) (fun q => by cases q) (by rw [arrV_size]; exact hin.vp) rfl rfl hd fun H1 e zz oq => ?_
    refine g (u2 h a (ix i) v) z hz Q hQ H1 _ ls (w.set a ha zz oq (atK_ai hk (by decide) (by decide) ?_) (fun _ e => u2_ne _ _ _ e) (fun _ _ => rfl) w.2.2) (S.put zz oq (Nat.le_add_right _ _)) hl
    rw [e, arrV_store, u2_self]
    congr 2
    funext q
    by_cases hq : q = ix i
    · subst hq; simp [updV]
    · simp [updV, hq]
  · rw [if_neg hin] at hz; cases hz
theorem wG_zast (C : Cx X y cc mL ret rm) {a n : Nat} {i v : Int32} {kk : Hp → Option ρ} (hk : Kd a = 13) (ha : a < N) (hn : Ln a = n) (hv : narrow .boolean (.int v) = .int v) (hd : dcd cc pc .bastore 1 pc') (g : ∀ h', wG X mL Z (kk h') N h' r cl sl pc' L st) : wG X mL Z (if inB i n then vB (u2 h a (ix i) v) kk else none) N h r cl sl pc L (.int v :: .int i :: .ref (xB X + a) :: st) := by
  obtain ⟨hd, rfl⟩ := hd
  subst hn
  intro z hz Q hQ H locs ls w S hl
  by_cases hin : inB i (Ln a)
  · rw [if_pos hin] at hz
    refine W.zast C.1 C.2.1 (w.ai ha hk (by decide) (by decide)) (C.arr 1 rfl _ _) (fun q => by cases q) (by rw [arrV_size]; exact hin.vp) rfl rfl hd fun H1 e zz oq => ?_
    refine g (u2 h a (ix i) v) z hz Q hQ H1 _ ls (w.set a ha zz oq (atK_ai hk (by decide) (by decide) ?_) (fun _ e => u2_ne _ _ _ e) (fun _ _ => rfl) w.2.2) (S.put zz oq (Nat.le_add_right _ _)) hl
    rw [e, hv, arrV_store, u2_self]
    congr 2
    funext q
    by_cases hq : q = ix i
    · subst hq; simp [updV]
    · simp [updV, hq]
  · rw [if_neg hin] at hz; cases hz
theorem Cx.arrR (C : Cx X y cc mL ret rm) {c : Nat} {Cn : String} (hc : (tys (xE X))[c - 12]? = some (eC (xE X) c, .object Cn)) : ArrOfT (xs X) (eC (xE X) c) (.object Cn) := C.arr (c - 12) hc
/-- a reference out of an array: its place is the number b -/
theorem wG_aald (C : Cx X y cc mL ret rm) {a n c : Nat} {i : Int32} {Cn : String} {kk : Nat → Option ρ} (hk : Kd a = c) (hc : ¬ c < 12) (hc2 : ¬ c < 14) (hty : (tys (xE X))[c - 12]? = some (eC (xE X) c, .object Cn)) (ha : a < N) (hn : Ln a = n) (hd : dcd cc pc .aaload 1 pc') (g : ∀ b, r a (ix i) = some b → wG X mL Z (kk b) N h r cl sl pc' L (.ref (xB X + b) :: st)) : wG X mL Z (if inB i n then (r a (ix i)).bind kk else none) N h r cl sl pc L (.int i :: .ref (xB X + a) :: st) := by
  obtain ⟨hd, rfl⟩ := hd
  subst hn
  intro z hz Q hQ H locs ls w S hl
  by_cases hin : inB i (Ln a)
  · rw [if_pos hin] at hz
    cases hb : r a (ix i) with
    | none => rw [hb] at hz; cases hz
    | some b =>
      rw [hb] at hz
      exact W.aald (v := .ref (xB X + b)) (ty := .object Cn) C.1 C.2.1 (w.ar ha hk hc hc2) (C.arrR hty _ _) rfl (fun q => by cases q) (by rw [arrV_size]; exact hin.vp) (by rw [arrV_read _ _ (ix_lt hin), hb]; rfl) rfl rfl hd (g b hb z hz Q hQ H locs ls w S hl)
  · rw [if_neg hin] at hz; cases hz
theorem wG_alen (C : Cx X y cc mL ret rm) {a : Nat} {v : Int32} (hk : Kd a = 12) (ha : a < N) (hn : (Ln a).toInt32 = v) (hd : dcd cc pc .arraylength 1 pc') (g : wG X mL Z k N h r cl sl pc' L (.int v :: st)) : wG X mL Z k N h r cl sl pc L (.ref (xB X + a) :: st) := by
  obtain ⟨hd, rfl⟩ := hd
  intro z hz Q hQ H locs ls w S hl
  exact W.alen (n := v) C.1 C.2.1 (w.ai ha hk (by decide) (by decide)) (C.arr 0 rfl _ _) (by rw [arrV_size]; exact hn) rfl rfl hd (g z hz Q hQ H locs ls w S hl)
end ROWS
end
section
/-! THE ROWS OF THE FLAT WORLD, 2: ends, calls, statics, Math, switches, new cells -/
section ROWS2
variable {ρ : Type} {X : wX} {y : MethodName} {cc : ByteArray} {mL : Nat} {ret : Option FieldType} {rm : Room} {Z : ρ → (State → Prop) → Prop} {k kt kf : Option ρ} {N : Nat} {h : Hp} {r : Rp} {cl sl pc pc' tgt cl' sl' : Nat} {L L' : List (Nat × Value)} {st rest : List Value} {off : Int}
theorem Cx.hR (C : Cx X y cc mL ret rm) : xR X = rm := C.2.2.2.2.2.2.2.2.1
theorem Cx.lk (C : Cx X y cc mL ret rm) : (xM X).locks = false := C.2.2.2.2.2.1
theorem Cx.rt (C : Cx X y cc mL ret rm) : (xM X).sig.returnType = ret := C.2.2.2.2.2.2.1
theorem Cx.hts (C : Cx X y cc mL ret rm) : ∀ w ∈ BIG, w.before (xa X) (xs X) = true := C.2.2.2.2.1
theorem Cx.sp (C : Cx X y cc mL ret rm) : Sp (xs X) := C.2.2.2.2.2.2.2.2.2.2.1
theorem Cx.sta (C : Cx X y cc mL ret rm) : Sta (xE X) (xs X) (xs X).heap := C.2.2.2.2.2.2.2.2.2.2.2.1
theorem Cx.hK (C : Cx X y cc mL ret rm) : va_K (eD (xE X)) cls (tys (xE X)) (xs X) := C.2.2.2.2.2.2.2.2.2.1
/-- the end that a method has with the answer v -/
abbrev mQ (X : wX) (v : Option Value) (N : Nat) (h : Hp) (r : Rp) : State → Prop := MQ (xb X) (Qw (xE X) (v, N, h, r)) (xa X) (xs X) (xR X).cells (xR X).slots (fun q => xB X ≤ q)
theorem wG_iret (C : Cx X y cc mL (some .int) rm) {v : Int32} {z : ρ} (hd : decode cc pc = .ok (.ireturn, 1)) (hc : cl ≤ rm.cells ∧ sl ≤ rm.slots) (hZ : ∀ Q, Z z Q → Q = mQ X (some (.int v)) N h r) : wG X mL Z (some z) N h r cl sl pc L [.int v] := by
  intro z' hz Q hQ H locs ls w S hl
  cases hz
  rw [hZ Q hQ]
  refine W.widen (k := (xR X).cells) (n := (xR X).slots) (by rw [C.hR]; exact hc.1) (by rw [C.hR]; exact hc.2) ?_
  exact W.iret C.1 C.2.1 C.rt (fun t ht hW => ⟨rfl, by rw [ht]; exact w, S.F ht⟩) S.2.2 hd C.lk
theorem wG_zret (C : Cx X y cc mL (some .boolean) rm) {v : Int32} {z : ρ} (hd : decode cc pc = .ok (.ireturn, 1)) (hn : narrow .boolean (.int v) = .int v) (hc : cl ≤ rm.cells ∧ sl ≤ rm.slots) (hZ : ∀ Q, Z z Q → Q = mQ X (some (.int v)) N h r) : wG X mL Z (some z) N h r cl sl pc L [.int v] := by
  intro z' hz Q hQ H locs ls w S hl
  cases hz
  rw [hZ Q hQ]
  refine W.widen (k := (xR X).cells) (n := (xR X).slots) (by rw [C.hR]; exact hc.1) (by rw [C.hR]; exact hc.2) ?_
  exact W.zret C.1 C.2.1 C.rt hn (fun t ht hW => ⟨rfl, by rw [ht]; exact w, S.F ht⟩) S.2.2 hd C.lk
theorem wG_lret (C : Cx X y cc mL (some .long) rm) {v : Int64} {z : ρ} (hd : decode cc pc = .ok (.lreturn, 1)) (hc : cl ≤ rm.cells ∧ sl ≤ rm.slots) (hZ : ∀ Q, Z z Q → Q = mQ X (some (.long v)) N h r) : wG X mL Z (some z) N h r cl sl pc L [.long v] := by
  intro z' hz Q hQ H locs ls w S hl
  cases hz
  rw [hZ Q hQ]
  refine W.widen (k := (xR X).cells) (n := (xR X).slots) (by rw [C.hR]; exact hc.1) (by rw [C.hR]; exact hc.2) ?_
  exact W.lret C.1 C.2.1 C.rt (fun t ht hW => ⟨rfl, by rw [ht]; exact w, S.F ht⟩) S.2.2 hd C.lk
theorem wG_vret (C : Cx X y cc mL none rm) {z : ρ} (hd : decode cc pc = .ok (.return_, 1)) (hc : cl ≤ rm.cells ∧ sl ≤ rm.slots) (hZ : ∀ Q, Z z Q → Q = mQ X none N h r) : wG X mL Z (some z) N h r cl sl pc L [] := by
  intro z' hz Q hQ H locs ls w S hl
  cases hz
  rw [hZ Q hQ]
  refine W.widen (k := (xR X).cells) (n := (xR X).slots) (by rw [C.hR]; exact hc.1) (by rw [C.hR]; exact hc.2) ?_
  exact W.vret C.1 C.2.1 C.rt (fun t ht hW => ⟨rfl, by rw [ht]; exact w, S.F ht⟩) S.2.2 hd C.lk
/-- behind a call -/
theorem wG_run {σ : Type} {f : Option σ} {φ : σ → Rs} {kk : σ → Option ρ} {mc ms : Nat} {a : Array Value} (hcl : cl + mc = cl') (hsl : sl + ms = sl') (hp : pc + 3 = pc')
    (hr : ∀ u, f = some u → ∀ (H : Heap) (locs : List Loc) (ls : Array Slot), wd (xE X) N h r H → va_S (fun q => xB X ≤ q) (xs X).heap H locs → lv_has ls mL L → va_Run (xp X) (xl X) (xe X) (xR X) (xs X) (xm X) (xa X) (xb X) (xM X) (xc X) H locs cl sl mc ms (F0 (xm X) pc ls st) rest (Qw (xE X) (φ u) a) (fun q => xB X ≤ q))
    (g : ∀ u, wG X mL Z (kk u) (φ u).2.1 (φ u).2.2.1 (φ u).2.2.2 cl' sl' pc' L ((φ u).1.toList ++ rest)) : wG X mL Z (f.bind kk) N h r cl sl pc L st := by
  subst hcl; subst hsl; subst hp
  intro z hz Q hQ H locs ls w S hl
  cases hf : f with
  | none => rw [hf] at hz; cases hz
  | some u =>
    rw [hf] at hz
    have hr' := hr u hf H locs ls w S hl
    intro T hT XX
    obtain ⟨v, st₀, t, T', LL, h0, X', hL, e1, e2, ⟨hv, hw, hF⟩, stp⟩ := hr' T hT XX
    have hv' : v = (φ u).1 := Outcome.returned.inj hv
    subst hv'
    have hz0 := hF.1
    have hk0 := hF.2
    rw [h0] at hz0 hk0
    have S' : va_S (fun q => xB X ≤ q) (xs X).heap T'.heap (locs ++ LL) := ⟨Nat.le_trans S.1 (by rw [e1]; exact hz0), fun q h1 h2 => by rw [e1, hk0 q (Nat.lt_of_lt_of_le h1 S.1) h2]; exact S.2.1 q h1 h2, fun q hq => by
      rcases List.mem_append.mp hq with h | h
      · exact S.2.2 q h
      · exact hL q h⟩
    obtain ⟨t2, a1, b1⟩ := g u z hz Q hQ T'.heap (locs ++ LL) ls (by rw [e1]; exact hw) S' hl T' rfl X'
    exact ⟨t2, stp t2 a1, b1⟩
theorem Cx.pre (C : Cx X y cc mL ret rm) {H : Heap} {locs : List Loc} (w : wd (xE X) N h r H) (S : va_S (fun q => xB X ≤ q) (xs X).heap H locs) : ∀ U : State, U.heap = H → (xs X).WarmedH U.vm → Pw (xE X) N h r U := fun U hU hW => ⟨by rw [hU]; exact w, va_K.moved hW.alike C.hK, C.sp.warm hW, by rw [hU]; exact Sta.moved hW.alike (C.sta.kept S.2.1)⟩
theorem Cx.recv (C : Cx X y cc mL ret rm) {H : Heap} (w : wd (xE X) N h r H) {a c : Nat} {q : vw_C} (hc : cls[c]? = some q) (hc12 : c < 12) (hk : Kd a = c) (ha : a < N) : ∃ cell : Cell, H[xB X + a]? = some cell ∧ cell.vm.isStatics = false ∧ (xs X).vm.findClass q.1 = some cell.cls := by
  obtain ⟨cell, g1, g2, g3, -⟩ := w.ob ha hk hc12
  exact ⟨cell, g1, by rw [g3]; rfl, by rw [g2]; exact (C.hK.1 c q hc).2.1⟩
/-- the words of a call: of a method of the receiver's own class -/
def vW (own : String) (idx c : Nat) (y' : MethodName) (cc' : ByteArray) (mL' : Nat) (ret' : Option FieldType) (n : Nat) : Prop := (∃ q, cls[c]? = some q ∧ c < 12 ∧ q.1 = y'.cls) ∧ Cond.methodLink own idx y' ∈ BIG ∧ Cond.instanceMethod y' ∈ BIG ∧ Cond.selects y'.cls y' y' ∈ BIG ∧ Cond.initialized y'.cls ∈ BIG ∧ Cond.code y' cc' mL' ret' ∈ BIG ∧ (y'.cls ≠ "java/lang/invoke/MethodHandle" ∧ y'.cls ≠ "java/lang/invoke/VarHandle" ∧ (parseMethodDescriptor y'.desc).map (fun d => d.parameters.length) = some n)
abbrev rmOk (rm' rm : Room) (mL' cl sl : Nat) : Prop := rm'.frames + 1 ≤ rm.frames ∧ 8 + (mL' + 11) + rm'.locals ≤ rm.locals ∧ cl + rm'.cells ≤ rm.cells ∧ sl + rm'.slots ≤ rm.slots
section CALLS
variable {σ : Type} {f : Option σ} {φ : σ → Rs} {kk : σ → Option ρ} {idx c n mL' a : Nat} {y' x' : MethodName} {cc' : ByteArray} {ret' : Option FieldType} {rm' : Room} {As : List Value}
theorem wG_callV (C : Cx X y cc mL ret rm) (hw : vW y.cls idx c y' cc' mL' ret' n) (hM : ∀ u, f = some u → CT (xl X) (xE X) y' cc' mL' ret' rm' (.ref (xB X + a) :: As) N h r (φ u)) (hk : Kd a = c) (ha : a < N) (hR : rmOk rm' rm mL' cl sl) (hn : As.length = n) (hst : st = As.reverse ++ .ref (xB X + a) :: rest) (hcat : (rest.map fun v => v.category).sum ≤ 8) (hd : dcd cc pc (.invokevirtual idx) 3 pc') (hcl : cl + rm'.cells = cl') (hsl : sl + rm'.slots = sl')
    (g : ∀ u, wG X mL Z (kk u) (φ u).2.1 (φ u).2.2.1 (φ u).2.2.2 cl' sl' pc' L ((φ u).1.toList ++ rest)) : wG X mL Z (f.bind kk) N h r cl sl pc L st := by
  obtain ⟨⟨q, hq, hc12, hqy⟩, w1, w2, w3, w4, w5, w6⟩ := hw
  refine wG_run (a := (Value.ref (xB X + a) :: As).toArray) hcl hsl hd.2 (fun u hu H locs ls w S hl => ?_) g
  have hT : GoodIn BIG (wsV y.cls idx y'.cls y' (.code y' cc' mL' ret' :: BIG)) := by
    intro v hv
    unfold wsV at hv
    rcases List.mem_append.mp hv with hv | hv
    · simp only [List.mem_cons, List.not_mem_nil, or_false] at hv
      rcases hv with rfl | rfl | rfl | rfl
      · exact ⟨w1, BIG_good _ w1⟩
      · exact ⟨w2, BIG_good _ w2⟩
      · exact ⟨w3, BIG_good _ w3⟩
      · exact ⟨w4, BIG_good _ w4⟩
    · exact good_wsB w5 v hv
  refine va_runV (As := As) (rest := rest) (C := y'.cls) (cc := cc) (nL := mL) (Ts := BIG) (own := y.cls) ⟨C.1, C.2.1, C.2.2.1, C.2.2.2.1, C.hts⟩ (hM u hu) (cwV n C.hts hT rfl rfl rfl ⟨rfl, w6⟩ (by rw [C.hR]; exact ⟨hR.1, hR.2.1⟩)) ⟨Pw.blind, by rw [← hqy]; exact C.recv w hq hc12 hk ha, fun U hU hW => ⟨rfl, C.pre w S U hU hW⟩⟩ rfl hn hl.1 hst (lv_room hcat) hd.1 (by rw [C.hR]; exact hR.2.2)
/-- of an inherited or an abstract method: the reference names x', the receiver's class selects y' -/
def uW (own : String) (idx c : Nat) (owner : String) (x' y' : MethodName) (cc' : ByteArray) (mL' : Nat) (ret' : Option FieldType) (n : Nat) : Prop := ∃ q, cls[c]? = some q ∧ c < 12 ∧ Cond.methodLink own idx x' ∈ BIG ∧ Cond.sameMethod x'.cls owner x'.name x'.desc ∈ BIG ∧ Cond.selects q.1 x' y' ∈ BIG ∧ Cond.instanceMethod y' ∈ BIG ∧ Cond.initialized y'.cls ∈ BIG ∧ Cond.code y' cc' mL' ret' ∈ BIG ∧ (owner ≠ "java/lang/invoke/MethodHandle" ∧ owner ≠ "java/lang/invoke/VarHandle" ∧ (parseMethodDescriptor x'.desc).map (fun d => d.parameters.length) = some n) ∧ (y' = ⟨owner, x'.name, x'.desc⟩ ∨ (⟨owner, x'.name, x'.desc⟩ : MethodName) ∈ spD)
theorem wG_callU {owner : String} (C : Cx X y cc mL ret rm) (hw : uW y.cls idx c owner x' y' cc' mL' ret' n) (hM : ∀ u, f = some u → CT (xl X) (xE X) y' cc' mL' ret' rm' (.ref (xB X + a) :: As) N h r (φ u)) (hk : Kd a = c) (ha : a < N) (hR : rmOk rm' rm mL' cl sl) (hn : As.length = n) (hst : st = As.reverse ++ .ref (xB X + a) :: rest) (hcat : (rest.map fun v => v.category).sum ≤ 8) (hd : dcd cc pc (.invokevirtual idx) 3 pc') (hcl : cl + rm'.cells = cl') (hsl : sl + rm'.slots = sl')
    (g : ∀ u, wG X mL Z (kk u) (φ u).2.1 (φ u).2.2.1 (φ u).2.2.2 cl' sl' pc' L ((φ u).1.toList ++ rest)) : wG X mL Z (f.bind kk) N h r cl sl pc L st := by
  obtain ⟨q, hq, hc12, w1, w2, w3, w4, w5, w6, w7, w8⟩ := hw
  refine wG_run (a := (Value.ref (xB X + a) :: As).toArray) hcl hsl hd.2 (fun u hu H locs ls w S hl => ?_) g
  have hT : GoodIn BIG (va_wsU y.cls idx q.1 owner x' y' (.code y' cc' mL' ret' :: BIG)) := by
    intro v hv
    unfold va_wsU at hv
    rcases List.mem_append.mp hv with hv | hv
    · simp only [List.mem_cons, List.not_mem_nil, or_false] at hv
      rcases hv with rfl | rfl | rfl | rfl | rfl
      · exact ⟨w1, BIG_good _ w1⟩
      · exact ⟨w2, BIG_good _ w2⟩
      · exact ⟨w3, BIG_good _ w3⟩
      · exact ⟨w4, BIG_good _ w4⟩
      · exact ⟨w5, BIG_good _ w5⟩
    · exact good_wsB w6 v hv
  have cw : va_CU (xR X) (xs X) (xa X) y.cls q.1 owner idx x' y' cc' mL' ret' (.code y' cc' mL' ret' :: BIG) rm' rm'.cells rm'.slots n := by
    rcases w8 with w8 | w8
    · exact va_cwU n C.hts hT rfl rfl rfl w8 w7 (by rw [C.hR]; exact ⟨hR.1, hR.2.1⟩)
    · exact va_cwA n C.hts hT rfl rfl rfl (C.sp.2.2.1 _ w8) w7 (by rw [C.hR]; exact ⟨hR.1, hR.2.1⟩)
  exact va_runU (As := As) (rest := rest) (C := q.1) (cc := cc) (nL := mL) (Ts := BIG) (own := y.cls) ⟨C.1, C.2.1, C.2.2.1, C.2.2.2.1, C.hts⟩ (hM u hu) cw ⟨Pw.blind, C.recv w hq hc12 hk ha, fun U hU hW => ⟨rfl, C.pre w S U hU hW⟩⟩ rfl hn hl.1 hst (lv_room hcat) hd.1 (by rw [C.hR]; exact hR.2.2)
/-- of a static method of the class itself -/
def sW (own : String) (idx : Nat) (y' : MethodName) (cc' : ByteArray) (mL' : Nat) (ret' : Option FieldType) (n : Nat) : Prop := y'.cls = own ∧ Cond.methodLink own idx y' ∈ BIG ∧ Cond.static y' ∈ BIG ∧ Cond.initialized own ∈ BIG ∧ Cond.code y' cc' mL' ret' ∈ BIG ∧ (y'.cls ≠ "java/lang/invoke/MethodHandle" ∧ y'.cls ≠ "java/lang/invoke/VarHandle" ∧ (parseMethodDescriptor y'.desc).map (fun d => d.parameters.length) = some n)
theorem wG_callS (C : Cx X y cc mL ret rm) (hw : sW y.cls idx y' cc' mL' ret' n) (hM : ∀ u, f = some u → CT (xl X) (xE X) y' cc' mL' ret' rm' As N h r (φ u)) (hR : rmOk rm' rm mL' cl sl) (hn : As.length = n) (hst : st = As.reverse ++ rest) (hcat : (rest.map fun v => v.category).sum ≤ 8) (hd : dcd cc pc (.invokestatic idx) 3 pc') (hcl : cl + rm'.cells = cl') (hsl : sl + rm'.slots = sl')
    (g : ∀ u, wG X mL Z (kk u) (φ u).2.1 (φ u).2.2.1 (φ u).2.2.2 cl' sl' pc' L ((φ u).1.toList ++ rest)) : wG X mL Z (f.bind kk) N h r cl sl pc L st := by
  obtain ⟨w0, w1, w2, w4, w5, w6⟩ := hw
  refine wG_run (a := As.toArray) hcl hsl hd.2 (fun u hu H locs ls w S hl => ?_) g
  have hT : GoodIn BIG (wsS y.cls idx y' (.code y' cc' mL' ret' :: BIG)) := by
    intro v hv
    unfold wsS at hv
    rcases List.mem_append.mp hv with hv | hv
    · simp only [List.mem_cons, List.not_mem_nil, or_false] at hv
      rcases hv with rfl | rfl | rfl
      · exact ⟨w1, BIG_good _ w1⟩
      · exact ⟨w2, BIG_good _ w2⟩
      · exact ⟨w4, BIG_good _ w4⟩
    · exact good_wsB w5 v hv
  exact va_runS (As := As) (rest := rest) (cc := cc) (nL := mL) (Ts := BIG) (own := y.cls) ⟨C.1, C.2.1, C.2.2.1, C.2.2.2.1, C.hts⟩ (hM u hu) (cwS n C.hts hT rfl rfl rfl ⟨w0, w6⟩ (by rw [C.hR]; exact ⟨hR.1, hR.2.1⟩)) ⟨Pw.blind, fun U hU hW => ⟨rfl, C.pre w S U hU hW⟩⟩ rfl hn hl.1 hst (lv_room hcat) hd.1 (by rw [C.hR]; exact hR.2.2)
/-- of a nest mate's private static method -/
def nW (own : String) (idx : Nat) (y' : MethodName) (cc' : ByteArray) (mL' : Nat) (ret' : Option FieldType) (n : Nat) (w : Cond) : Prop := ∃ host, (own, idx, y', host) ∈ spM ∧ w ∈ BIG ∧ Cond.initialized y'.cls ∈ BIG ∧ Cond.code y' cc' mL' ret' ∈ BIG ∧ (y'.cls ≠ "java/lang/invoke/MethodHandle" ∧ y'.cls ≠ "java/lang/invoke/VarHandle" ∧ (parseMethodDescriptor y'.desc).map (fun d => d.parameters.length) = some n)
theorem wG_callSN (C : Cx X y cc mL ret rm) (hw : nW y.cls idx y' cc' mL' ret' n (.static y')) (hM : ∀ u, f = some u → CT (xl X) (xE X) y' cc' mL' ret' rm' As N h r (φ u)) (hR : rmOk rm' rm mL' cl sl) (hn : As.length = n) (hst : st = As.reverse ++ rest) (hcat : (rest.map fun v => v.category).sum ≤ 8) (hd : dcd cc pc (.invokestatic idx) 3 pc') (hcl : cl + rm'.cells = cl') (hsl : sl + rm'.slots = sl')
    (g : ∀ u, wG X mL Z (kk u) (φ u).2.1 (φ u).2.2.1 (φ u).2.2.2 cl' sl' pc' L ((φ u).1.toList ++ rest)) : wG X mL Z (f.bind kk) N h r cl sl pc L st := by
  obtain ⟨host, w1, w2, w4, w5, w6⟩ := hw
  refine wG_run (a := As.toArray) hcl hsl hd.2 (fun u hu H locs ls w S hl => ?_) g
  exact va_runSN (As := As) (rest := rest) (cc := cc) (nL := mL) (Ts := BIG) (own := y.cls) (host := host) ⟨C.1, C.2.1, C.2.2.1, C.2.2.2.1, C.hts⟩ (hM u hu) ⟨va_cnB n C.hts (good_wsB w5) rfl rfl rfl (C.sp.1 _ w1) (C.hts _ w4) w6 (by rw [C.hR]; exact ⟨hR.1, hR.2.1⟩), C.hts _ w2, trivial⟩ ⟨Pw.blind, fun U hU hW => ⟨rfl, C.pre w S U hU hW⟩⟩ rfl hn hl.1 hst (lv_room hcat) hd.1 (by rw [C.hR]; exact hR.2.2)
/-- of a nest mate's private constructor -/
theorem wG_callIN (C : Cx X y cc mL ret rm) (hw : nW y.cls idx y' cc' mL' none n (.instanceMethod y')) (hi : y'.name = "<init>") (hM : ∀ u, f = some u → CT (xl X) (xE X) y' cc' mL' none rm' (.ref (xB X + a) :: As) N h r (φ u)) (hR : rmOk rm' rm mL' cl sl) (hn : As.length = n) (hst : st = As.reverse ++ .ref (xB X + a) :: rest) (hcat : (rest.map fun v => v.category).sum ≤ 8) (hd : dcd cc pc (.invokespecial idx) 3 pc') (hcl : cl + rm'.cells = cl') (hsl : sl + rm'.slots = sl')
    (g : ∀ u, wG X mL Z (kk u) (φ u).2.1 (φ u).2.2.1 (φ u).2.2.2 cl' sl' pc' L ((φ u).1.toList ++ rest)) : wG X mL Z (f.bind kk) N h r cl sl pc L st := by
  obtain ⟨host, w1, w2, w4, w5, w6⟩ := hw
  refine wG_run (a := (Value.ref (xB X + a) :: As).toArray) hcl hsl hd.2 (fun u hu H locs ls w S hl => ?_) g
  exact va_runIN (As := As) (rest := rest) (cc := cc) (nL := mL) (Ts := BIG) (own := y.cls) (host := host) ⟨C.1, C.2.1, C.2.2.1, C.2.2.2.1, C.hts⟩ (hM u hu) ⟨va_cnB n C.hts (good_wsB w5) rfl rfl rfl (C.sp.1 _ w1) (C.hts _ w4) w6 (by rw [C.hR]; exact ⟨hR.1, hR.2.1⟩), hi, C.hts _ w2⟩ ⟨Pw.blind, fun U hU hW => ⟨rfl, C.pre w S U hU hW⟩⟩ rfl hn hl.1 hst (lv_room hcat) hd.1 (by rw [C.hR]; exact hR.2.2)
/-- of a constructor -/
def iW (own : String) (idx : Nat) (y' : MethodName) (cc' : ByteArray) (mL' : Nat) (n : Nat) : Prop := y'.name = "<init>" ∧ Cond.methodLink own idx y' ∈ BIG ∧ Cond.instanceMethod y' ∈ BIG ∧ Cond.initialized y'.cls ∈ BIG ∧ Cond.code y' cc' mL' none ∈ BIG ∧ (y'.cls ≠ "java/lang/invoke/MethodHandle" ∧ y'.cls ≠ "java/lang/invoke/VarHandle" ∧ (parseMethodDescriptor y'.desc).map (fun d => d.parameters.length) = some n)
theorem wG_callI (C : Cx X y cc mL ret rm) (hw : iW y.cls idx y' cc' mL' n) (hM : ∀ u, f = some u → CT (xl X) (xE X) y' cc' mL' none rm' (.ref (xB X + a) :: As) N h r (φ u)) (hR : rmOk rm' rm mL' cl sl) (hn : As.length = n) (hst : st = As.reverse ++ .ref (xB X + a) :: rest) (hcat : (rest.map fun v => v.category).sum ≤ 8) (hd : dcd cc pc (.invokespecial idx) 3 pc') (hcl : cl + rm'.cells = cl') (hsl : sl + rm'.slots = sl')
    (g : ∀ u, wG X mL Z (kk u) (φ u).2.1 (φ u).2.2.1 (φ u).2.2.2 cl' sl' pc' L ((φ u).1.toList ++ rest)) : wG X mL Z (f.bind kk) N h r cl sl pc L st := by
  obtain ⟨w0, w1, w2, w4, w5, w6⟩ := hw
  refine wG_run (a := (Value.ref (xB X + a) :: As).toArray) hcl hsl hd.2 (fun u hu H locs ls w S hl => ?_) g
  exact va_runI (As := As) (rest := rest) (cc := cc) (nL := mL) (Ts := BIG) (own := y.cls) ⟨C.1, C.2.1, C.2.2.1, C.2.2.2.1, C.hts⟩ (hM u hu) (cwI n C.hts (good_wsB w5) rfl rfl rfl (C.hts _ w4) (C.hts _ w1) (C.hts _ w2) w0 w6 (by rw [C.hR]; exact ⟨hR.1, hR.2.1⟩)) ⟨Pw.blind, fun U hU hW => ⟨rfl, C.pre w S U hU hW⟩⟩ rfl hn hl.1 hst (lv_room hcat) hd.1 (by rw [C.hR]; exact hR.2.2)
end CALLS
theorem wG_cV_ri {f : Option (Int32)} {kk : Int32 → Option ρ} {idx c n mL' a : Nat} {y' x' : MethodName} {cc' : ByteArray} {ret' : Option FieldType} {rm' : Room} {owner : String} (As rest : List Value) (C : Cx X y cc mL ret rm) (hw : vW y.cls idx c y' cc' mL' ret' n) (hM : ∀ u, f = some u → CT (xl X) (xE X) y' cc' mL' ret' rm' (.ref (xB X + a) :: As) N h r (some (.int u), N, h, r)) (hk : Kd a = c) (ha : a < N) (hR : rmOk rm' rm mL' cl sl) (hn : As.length = n) (hst : st = As.reverse ++ .ref (xB X + a) :: rest) (hcat : (rest.map fun v => v.category).sum ≤ 8) (hd : dcd cc pc (.invokevirtual idx) 3 pc') (hcl : cl + rm'.cells = cl') (hsl : sl + rm'.slots = sl')
    (g : ∀ u, wG X mL Z (kk u) N h r cl' sl' pc' L (.int u :: rest)) : wG X mL Z (f.bind kk) N h r cl sl pc L st := wG_callV (φ := fun u => (some (.int u), N, h, r)) C hw hM hk ha hR hn hst hcat hd hcl hsl g
theorem wG_cV_rl {f : Option (Int64)} {kk : Int64 → Option ρ} {idx c n mL' a : Nat} {y' x' : MethodName} {cc' : ByteArray} {ret' : Option FieldType} {rm' : Room} {owner : String} (As rest : List Value) (C : Cx X y cc mL ret rm) (hw : vW y.cls idx c y' cc' mL' ret' n) (hM : ∀ u, f = some u → CT (xl X) (xE X) y' cc' mL' ret' rm' (.ref (xB X + a) :: As) N h r (some (.long u), N, h, r)) (hk : Kd a = c) (ha : a < N) (hR : rmOk rm' rm mL' cl sl) (hn : As.length = n) (hst : st = As.reverse ++ .ref (xB X + a) :: rest) (hcat : (rest.map fun v => v.category).sum ≤ 8) (hd : dcd cc pc (.invokevirtual idx) 3 pc') (hcl : cl + rm'.cells = cl') (hsl : sl + rm'.slots = sl')
    (g : ∀ u, wG X mL Z (kk u) N h r cl' sl' pc' L (.long u :: rest)) : wG X mL Z (f.bind kk) N h r cl sl pc L st := wG_callV (φ := fun u => (some (.long u), N, h, r)) C hw hM hk ha hR hn hst hcat hd hcl hsl g
theorem wG_cV_rv {f : Option (Unit)} {kk : Unit → Option ρ} {idx c n mL' a : Nat} {y' x' : MethodName} {cc' : ByteArray} {ret' : Option FieldType} {rm' : Room} {owner : String} (As rest : List Value) (C : Cx X y cc mL ret rm) (hw : vW y.cls idx c y' cc' mL' ret' n) (hM : ∀ u, f = some u → CT (xl X) (xE X) y' cc' mL' ret' rm' (.ref (xB X + a) :: As) N h r (none, N, h, r)) (hk : Kd a = c) (ha : a < N) (hR : rmOk rm' rm mL' cl sl) (hn : As.length = n) (hst : st = As.reverse ++ .ref (xB X + a) :: rest) (hcat : (rest.map fun v => v.category).sum ≤ 8) (hd : dcd cc pc (.invokevirtual idx) 3 pc') (hcl : cl + rm'.cells = cl') (hsl : sl + rm'.slots = sl')
    (g : ∀ u, wG X mL Z (kk u) N h r cl' sl' pc' L (rest)) : wG X mL Z (f.bind kk) N h r cl sl pc L st := wG_callV (φ := fun u => (none, N, h, r)) C hw hM hk ha hR hn hst hcat hd hcl hsl g
theorem wG_cV_wi {f : Option (Int32 × Hp)} {kk : (Int32 × Hp) → Option ρ} {idx c n mL' a : Nat} {y' x' : MethodName} {cc' : ByteArray} {ret' : Option FieldType} {rm' : Room} {owner : String} (As rest : List Value) (C : Cx X y cc mL ret rm) (hw : vW y.cls idx c y' cc' mL' ret' n) (hM : ∀ u, f = some u → CT (xl X) (xE X) y' cc' mL' ret' rm' (.ref (xB X + a) :: As) N h r (some (.int u.1), N, u.2, r)) (hk : Kd a = c) (ha : a < N) (hR : rmOk rm' rm mL' cl sl) (hn : As.length = n) (hst : st = As.reverse ++ .ref (xB X + a) :: rest) (hcat : (rest.map fun v => v.category).sum ≤ 8) (hd : dcd cc pc (.invokevirtual idx) 3 pc') (hcl : cl + rm'.cells = cl') (hsl : sl + rm'.slots = sl')
    (g : ∀ u, wG X mL Z (kk u) N u.2 r cl' sl' pc' L (.int u.1 :: rest)) : wG X mL Z (f.bind kk) N h r cl sl pc L st := wG_callV (φ := fun u => (some (.int u.1), N, u.2, r)) C hw hM hk ha hR hn hst hcat hd hcl hsl g
theorem wG_cV_wv {f : Option (Hp)} {kk : Hp → Option ρ} {idx c n mL' a : Nat} {y' x' : MethodName} {cc' : ByteArray} {ret' : Option FieldType} {rm' : Room} {owner : String} (As rest : List Value) (C : Cx X y cc mL ret rm) (hw : vW y.cls idx c y' cc' mL' ret' n) (hM : ∀ u, f = some u → CT (xl X) (xE X) y' cc' mL' ret' rm' (.ref (xB X + a) :: As) N h r (none, N, u, r)) (hk : Kd a = c) (ha : a < N) (hR : rmOk rm' rm mL' cl sl) (hn : As.length = n) (hst : st = As.reverse ++ .ref (xB X + a) :: rest) (hcat : (rest.map fun v => v.category).sum ≤ 8) (hd : dcd cc pc (.invokevirtual idx) 3 pc') (hcl : cl + rm'.cells = cl') (hsl : sl + rm'.slots = sl')
    (g : ∀ u, wG X mL Z (kk u) N u r cl' sl' pc' L (rest)) : wG X mL Z (f.bind kk) N h r cl sl pc L st := wG_callV (φ := fun u => (none, N, u, r)) C hw hM hk ha hR hn hst hcat hd hcl hsl g
theorem wG_cV_fi {f : Option (Int32 × Nat × Hp × Rp)} {kk : (Int32 × Nat × Hp × Rp) → Option ρ} {idx c n mL' a : Nat} {y' x' : MethodName} {cc' : ByteArray} {ret' : Option FieldType} {rm' : Room} {owner : String} (As rest : List Value) (C : Cx X y cc mL ret rm) (hw : vW y.cls idx c y' cc' mL' ret' n) (hM : ∀ u, f = some u → CT (xl X) (xE X) y' cc' mL' ret' rm' (.ref (xB X + a) :: As) N h r (some (.int u.1), u.2.1, u.2.2.1, u.2.2.2)) (hk : Kd a = c) (ha : a < N) (hR : rmOk rm' rm mL' cl sl) (hn : As.length = n) (hst : st = As.reverse ++ .ref (xB X + a) :: rest) (hcat : (rest.map fun v => v.category).sum ≤ 8) (hd : dcd cc pc (.invokevirtual idx) 3 pc') (hcl : cl + rm'.cells = cl') (hsl : sl + rm'.slots = sl')
    (g : ∀ u, wG X mL Z (kk u) u.2.1 u.2.2.1 u.2.2.2 cl' sl' pc' L (.int u.1 :: rest)) : wG X mL Z (f.bind kk) N h r cl sl pc L st := wG_callV (φ := fun u => (some (.int u.1), u.2.1, u.2.2.1, u.2.2.2)) C hw hM hk ha hR hn hst hcat hd hcl hsl g
theorem wG_cV_fv {f : Option (Nat × Hp × Rp)} {kk : (Nat × Hp × Rp) → Option ρ} {idx c n mL' a : Nat} {y' x' : MethodName} {cc' : ByteArray} {ret' : Option FieldType} {rm' : Room} {owner : String} (As rest : List Value) (C : Cx X y cc mL ret rm) (hw : vW y.cls idx c y' cc' mL' ret' n) (hM : ∀ u, f = some u → CT (xl X) (xE X) y' cc' mL' ret' rm' (.ref (xB X + a) :: As) N h r (none, u.1, u.2.1, u.2.2)) (hk : Kd a = c) (ha : a < N) (hR : rmOk rm' rm mL' cl sl) (hn : As.length = n) (hst : st = As.reverse ++ .ref (xB X + a) :: rest) (hcat : (rest.map fun v => v.category).sum ≤ 8) (hd : dcd cc pc (.invokevirtual idx) 3 pc') (hcl : cl + rm'.cells = cl') (hsl : sl + rm'.slots = sl')
    (g : ∀ u, wG X mL Z (kk u) u.1 u.2.1 u.2.2 cl' sl' pc' L (rest)) : wG X mL Z (f.bind kk) N h r cl sl pc L st := wG_callV (φ := fun u => (none, u.1, u.2.1, u.2.2)) C hw hM hk ha hR hn hst hcat hd hcl hsl g
theorem wG_cU_ri {f : Option (Int32)} {kk : Int32 → Option ρ} {idx c n mL' a : Nat} {y' x' : MethodName} {cc' : ByteArray} {ret' : Option FieldType} {rm' : Room} {owner : String} (As rest : List Value) (C : Cx X y cc mL ret rm) (hw : uW y.cls idx c owner x' y' cc' mL' ret' n) (hM : ∀ u, f = some u → CT (xl X) (xE X) y' cc' mL' ret' rm' (.ref (xB X + a) :: As) N h r (some (.int u), N, h, r)) (hk : Kd a = c) (ha : a < N) (hR : rmOk rm' rm mL' cl sl) (hn : As.length = n) (hst : st = As.reverse ++ .ref (xB X + a) :: rest) (hcat : (rest.map fun v => v.category).sum ≤ 8) (hd : dcd cc pc (.invokevirtual idx) 3 pc') (hcl : cl + rm'.cells = cl') (hsl : sl + rm'.slots = sl')
    (g : ∀ u, wG X mL Z (kk u) N h r cl' sl' pc' L (.int u :: rest)) : wG X mL Z (f.bind kk) N h r cl sl pc L st := wG_callU (φ := fun u => (some (.int u), N, h, r)) C hw hM hk ha hR hn hst hcat hd hcl hsl g
theorem wG_cU_wi {f : Option (Int32 × Hp)} {kk : (Int32 × Hp) → Option ρ} {idx c n mL' a : Nat} {y' x' : MethodName} {cc' : ByteArray} {ret' : Option FieldType} {rm' : Room} {owner : String} (As rest : List Value) (C : Cx X y cc mL ret rm) (hw : uW y.cls idx c owner x' y' cc' mL' ret' n) (hM : ∀ u, f = some u → CT (xl X) (xE X) y' cc' mL' ret' rm' (.ref (xB X + a) :: As) N h r (some (.int u.1), N, u.2, r)) (hk : Kd a = c) (ha : a < N) (hR : rmOk rm' rm mL' cl sl) (hn : As.length = n) (hst : st = As.reverse ++ .ref (xB X + a) :: rest) (hcat : (rest.map fun v => v.category).sum ≤ 8) (hd : dcd cc pc (.invokevirtual idx) 3 pc') (hcl : cl + rm'.cells = cl') (hsl : sl + rm'.slots = sl')
    (g : ∀ u, wG X mL Z (kk u) N u.2 r cl' sl' pc' L (.int u.1 :: rest)) : wG X mL Z (f.bind kk) N h r cl sl pc L st := wG_callU (φ := fun u => (some (.int u.1), N, u.2, r)) C hw hM hk ha hR hn hst hcat hd hcl hsl g
theorem wG_cU_wv {f : Option (Hp)} {kk : Hp → Option ρ} {idx c n mL' a : Nat} {y' x' : MethodName} {cc' : ByteArray} {ret' : Option FieldType} {rm' : Room} {owner : String} (As rest : List Value) (C : Cx X y cc mL ret rm) (hw : uW y.cls idx c owner x' y' cc' mL' ret' n) (hM : ∀ u, f = some u → CT (xl X) (xE X) y' cc' mL' ret' rm' (.ref (xB X + a) :: As) N h r (none, N, u, r)) (hk : Kd a = c) (ha : a < N) (hR : rmOk rm' rm mL' cl sl) (hn : As.length = n) (hst : st = As.reverse ++ .ref (xB X + a) :: rest) (hcat : (rest.map fun v => v.category).sum ≤ 8) (hd : dcd cc pc (.invokevirtual idx) 3 pc') (hcl : cl + rm'.cells = cl') (hsl : sl + rm'.slots = sl')
    (g : ∀ u, wG X mL Z (kk u) N u r cl' sl' pc' L (rest)) : wG X mL Z (f.bind kk) N h r cl sl pc L st := wG_callU (φ := fun u => (none, N, u, r)) C hw hM hk ha hR hn hst hcat hd hcl hsl g
theorem wG_cU_rv {f : Option (Unit)} {kk : Unit → Option ρ} {idx c n mL' a : Nat} {y' x' : MethodName} {cc' : ByteArray} {ret' : Option FieldType} {rm' : Room} {owner : String} (As rest : List Value) (C : Cx X y cc mL ret rm) (hw : uW y.cls idx c owner x' y' cc' mL' ret' n) (hM : ∀ u, f = some u → CT (xl X) (xE X) y' cc' mL' ret' rm' (.ref (xB X + a) :: As) N h r (none, N, h, r)) (hk : Kd a = c) (ha : a < N) (hR : rmOk rm' rm mL' cl sl) (hn : As.length = n) (hst : st = As.reverse ++ .ref (xB X + a) :: rest) (hcat : (rest.map fun v => v.category).sum ≤ 8) (hd : dcd cc pc (.invokevirtual idx) 3 pc') (hcl : cl + rm'.cells = cl') (hsl : sl + rm'.slots = sl')
    (g : ∀ u, wG X mL Z (kk u) N h r cl' sl' pc' L (rest)) : wG X mL Z (f.bind kk) N h r cl sl pc L st := wG_callU (φ := fun u => (none, N, h, r)) C hw hM hk ha hR hn hst hcat hd hcl hsl g
theorem wG_cS_ri {f : Option (Int32)} {kk : Int32 → Option ρ} {idx c n mL' a : Nat} {y' x' : MethodName} {cc' : ByteArray} {ret' : Option FieldType} {rm' : Room} {owner : String} (As rest : List Value) (C : Cx X y cc mL ret rm) (hw : sW y.cls idx y' cc' mL' ret' n) (hM : ∀ u, f = some u → CT (xl X) (xE X) y' cc' mL' ret' rm' As N h r (some (.int u), N, h, r)) (hR : rmOk rm' rm mL' cl sl) (hn : As.length = n) (hst : st = As.reverse ++ rest) (hcat : (rest.map fun v => v.category).sum ≤ 8) (hd : dcd cc pc (.invokestatic idx) 3 pc') (hcl : cl + rm'.cells = cl') (hsl : sl + rm'.slots = sl')
    (g : ∀ u, wG X mL Z (kk u) N h r cl' sl' pc' L (.int u :: rest)) : wG X mL Z (f.bind kk) N h r cl sl pc L st := wG_callS (φ := fun u => (some (.int u), N, h, r)) C hw hM hR hn hst hcat hd hcl hsl g
theorem wG_cS_rl {f : Option (Int64)} {kk : Int64 → Option ρ} {idx c n mL' a : Nat} {y' x' : MethodName} {cc' : ByteArray} {ret' : Option FieldType} {rm' : Room} {owner : String} (As rest : List Value) (C : Cx X y cc mL ret rm) (hw : sW y.cls idx y' cc' mL' ret' n) (hM : ∀ u, f = some u → CT (xl X) (xE X) y' cc' mL' ret' rm' As N h r (some (.long u), N, h, r)) (hR : rmOk rm' rm mL' cl sl) (hn : As.length = n) (hst : st = As.reverse ++ rest) (hcat : (rest.map fun v => v.category).sum ≤ 8) (hd : dcd cc pc (.invokestatic idx) 3 pc') (hcl : cl + rm'.cells = cl') (hsl : sl + rm'.slots = sl')
    (g : ∀ u, wG X mL Z (kk u) N h r cl' sl' pc' L (.long u :: rest)) : wG X mL Z (f.bind kk) N h r cl sl pc L st := wG_callS (φ := fun u => (some (.long u), N, h, r)) C hw hM hR hn hst hcat hd hcl hsl g
theorem wG_cS_wv {f : Option (Hp)} {kk : Hp → Option ρ} {idx c n mL' a : Nat} {y' x' : MethodName} {cc' : ByteArray} {ret' : Option FieldType} {rm' : Room} {owner : String} (As rest : List Value) (C : Cx X y cc mL ret rm) (hw : sW y.cls idx y' cc' mL' ret' n) (hM : ∀ u, f = some u → CT (xl X) (xE X) y' cc' mL' ret' rm' As N h r (none, N, u, r)) (hR : rmOk rm' rm mL' cl sl) (hn : As.length = n) (hst : st = As.reverse ++ rest) (hcat : (rest.map fun v => v.category).sum ≤ 8) (hd : dcd cc pc (.invokestatic idx) 3 pc') (hcl : cl + rm'.cells = cl') (hsl : sl + rm'.slots = sl')
    (g : ∀ u, wG X mL Z (kk u) N u r cl' sl' pc' L (rest)) : wG X mL Z (f.bind kk) N h r cl sl pc L st := wG_callS (φ := fun u => (none, N, u, r)) C hw hM hR hn hst hcat hd hcl hsl g
theorem wG_cSN_ri {f : Option (Int32)} {kk : Int32 → Option ρ} {idx c n mL' a : Nat} {y' x' : MethodName} {cc' : ByteArray} {ret' : Option FieldType} {rm' : Room} {owner : String} (As rest : List Value) (C : Cx X y cc mL ret rm) (hw : nW y.cls idx y' cc' mL' ret' n (.static y')) (hM : ∀ u, f = some u → CT (xl X) (xE X) y' cc' mL' ret' rm' As N h r (some (.int u), N, h, r)) (hR : rmOk rm' rm mL' cl sl) (hn : As.length = n) (hst : st = As.reverse ++ rest) (hcat : (rest.map fun v => v.category).sum ≤ 8) (hd : dcd cc pc (.invokestatic idx) 3 pc') (hcl : cl + rm'.cells = cl') (hsl : sl + rm'.slots = sl')
    (g : ∀ u, wG X mL Z (kk u) N h r cl' sl' pc' L (.int u :: rest)) : wG X mL Z (f.bind kk) N h r cl sl pc L st := wG_callSN (φ := fun u => (some (.int u), N, h, r)) C hw hM hR hn hst hcat hd hcl hsl g
theorem wG_cI_rv {f : Option (Unit)} {kk : Unit → Option ρ} {idx c n mL' a : Nat} {y' x' : MethodName} {cc' : ByteArray} {ret' : Option FieldType} {rm' : Room} {owner : String} (As rest : List Value) (C : Cx X y cc mL ret rm) (hw : iW y.cls idx y' cc' mL' n) (hM : ∀ u, f = some u → CT (xl X) (xE X) y' cc' mL' none rm' (.ref (xB X + a) :: As) N h r (none, N, h, r)) (hR : rmOk rm' rm mL' cl sl) (hn : As.length = n) (hst : st = As.reverse ++ .ref (xB X + a) :: rest) (hcat : (rest.map fun v => v.category).sum ≤ 8) (hd : dcd cc pc (.invokespecial idx) 3 pc') (hcl : cl + rm'.cells = cl') (hsl : sl + rm'.slots = sl')
    (g : ∀ u, wG X mL Z (kk u) N h r cl' sl' pc' L (rest)) : wG X mL Z (f.bind kk) N h r cl sl pc L st := wG_callI (φ := fun u => (none, N, h, r)) C hw hM hR hn hst hcat hd hcl hsl g
theorem wG_cI_wv {f : Option (Hp)} {kk : Hp → Option ρ} {idx c n mL' a : Nat} {y' x' : MethodName} {cc' : ByteArray} {ret' : Option FieldType} {rm' : Room} {owner : String} (As rest : List Value) (C : Cx X y cc mL ret rm) (hw : iW y.cls idx y' cc' mL' n) (hM : ∀ u, f = some u → CT (xl X) (xE X) y' cc' mL' none rm' (.ref (xB X + a) :: As) N h r (none, N, u, r)) (hR : rmOk rm' rm mL' cl sl) (hn : As.length = n) (hst : st = As.reverse ++ .ref (xB X + a) :: rest) (hcat : (rest.map fun v => v.category).sum ≤ 8) (hd : dcd cc pc (.invokespecial idx) 3 pc') (hcl : cl + rm'.cells = cl') (hsl : sl + rm'.slots = sl')
    (g : ∀ u, wG X mL Z (kk u) N u r cl' sl' pc' L (rest)) : wG X mL Z (f.bind kk) N h r cl sl pc L st := wG_callI (φ := fun u => (none, N, u, r)) C hw hM hR hn hst hcat hd hcl hsl g
theorem wG_cI_fv {f : Option (Nat × Hp × Rp)} {kk : (Nat × Hp × Rp) → Option ρ} {idx c n mL' a : Nat} {y' x' : MethodName} {cc' : ByteArray} {ret' : Option FieldType} {rm' : Room} {owner : String} (As rest : List Value) (C : Cx X y cc mL ret rm) (hw : iW y.cls idx y' cc' mL' n) (hM : ∀ u, f = some u → CT (xl X) (xE X) y' cc' mL' none rm' (.ref (xB X + a) :: As) N h r (none, u.1, u.2.1, u.2.2)) (hR : rmOk rm' rm mL' cl sl) (hn : As.length = n) (hst : st = As.reverse ++ .ref (xB X + a) :: rest) (hcat : (rest.map fun v => v.category).sum ≤ 8) (hd : dcd cc pc (.invokespecial idx) 3 pc') (hcl : cl + rm'.cells = cl') (hsl : sl + rm'.slots = sl')
    (g : ∀ u, wG X mL Z (kk u) u.1 u.2.1 u.2.2 cl' sl' pc' L (rest)) : wG X mL Z (f.bind kk) N h r cl sl pc L st := wG_callI (φ := fun u => (none, u.1, u.2.1, u.2.2)) C hw hM hR hn hst hcat hd hcl hsl g
theorem wG_cIN_rv {f : Option (Unit)} {kk : Unit → Option ρ} {idx c n mL' a : Nat} {y' x' : MethodName} {cc' : ByteArray} {ret' : Option FieldType} {rm' : Room} {owner : String} (As rest : List Value) (C : Cx X y cc mL ret rm) (hw : nW y.cls idx y' cc' mL' none n (.instanceMethod y')) (hi : y'.name = "<init>") (hM : ∀ u, f = some u → CT (xl X) (xE X) y' cc' mL' none rm' (.ref (xB X + a) :: As) N h r (none, N, h, r)) (hR : rmOk rm' rm mL' cl sl) (hn : As.length = n) (hst : st = As.reverse ++ .ref (xB X + a) :: rest) (hcat : (rest.map fun v => v.category).sum ≤ 8) (hd : dcd cc pc (.invokespecial idx) 3 pc') (hcl : cl + rm'.cells = cl') (hsl : sl + rm'.slots = sl')
    (g : ∀ u, wG X mL Z (kk u) N h r cl' sl' pc' L (rest)) : wG X mL Z (f.bind kk) N h r cl sl pc L st := wG_callIN (φ := fun u => (none, N, h, r)) C hw hi hM hR hn hst hcat hd hcl hsl g
theorem wG_cIN_wv {f : Option (Hp)} {kk : Hp → Option ρ} {idx c n mL' a : Nat} {y' x' : MethodName} {cc' : ByteArray} {ret' : Option FieldType} {rm' : Room} {owner : String} (As rest : List Value) (C : Cx X y cc mL ret rm) (hw : nW y.cls idx y' cc' mL' none n (.instanceMethod y')) (hi : y'.name = "<init>") (hM : ∀ u, f = some u → CT (xl X) (xE X) y' cc' mL' none rm' (.ref (xB X + a) :: As) N h r (none, N, u, r)) (hR : rmOk rm' rm mL' cl sl) (hn : As.length = n) (hst : st = As.reverse ++ .ref (xB X + a) :: rest) (hcat : (rest.map fun v => v.category).sum ≤ 8) (hd : dcd cc pc (.invokespecial idx) 3 pc') (hcl : cl + rm'.cells = cl') (hsl : sl + rm'.slots = sl')
    (g : ∀ u, wG X mL Z (kk u) N u r cl' sl' pc' L (rest)) : wG X mL Z (f.bind kk) N h r cl sl pc L st := wG_callIN (φ := fun u => (none, N, u, r)) C hw hi hM hR hn hst hcat hd hcl hsl g
theorem wG_cIN_fv {f : Option (Nat × Hp × Rp)} {kk : (Nat × Hp × Rp) → Option ρ} {idx c n mL' a : Nat} {y' x' : MethodName} {cc' : ByteArray} {ret' : Option FieldType} {rm' : Room} {owner : String} (As rest : List Value) (C : Cx X y cc mL ret rm) (hw : nW y.cls idx y' cc' mL' none n (.instanceMethod y')) (hi : y'.name = "<init>") (hM : ∀ u, f = some u → CT (xl X) (xE X) y' cc' mL' none rm' (.ref (xB X + a) :: As) N h r (none, u.1, u.2.1, u.2.2)) (hR : rmOk rm' rm mL' cl sl) (hn : As.length = n) (hst : st = As.reverse ++ .ref (xB X + a) :: rest) (hcat : (rest.map fun v => v.category).sum ≤ 8) (hd : dcd cc pc (.invokespecial idx) 3 pc') (hcl : cl + rm'.cells = cl') (hsl : sl + rm'.slots = sl')
    (g : ∀ u, wG X mL Z (kk u) u.1 u.2.1 u.2.2 cl' sl' pc' L (rest)) : wG X mL Z (f.bind kk) N h r cl sl pc L st := wG_callIN (φ := fun u => (none, u.1, u.2.1, u.2.2)) C hw hi hM hR hn hst hcat hd hcl hsl g
-- Object()
theorem wG_obj (C : Cx X y cc mL ret rm) {idx a : Nat} (hw : Cond.methodLink y.cls idx Lib.objectInit ∈ BIG ∧ Cond.instanceMethod Lib.objectInit ∈ BIG ∧ Cond.code Lib.objectInit ⟨#[0xb1]⟩ 1 none ∈ BIG) (hR : 1 ≤ rm.frames ∧ (st.map fun v => v.category).sum + 12 ≤ rm.locals) (hd : dcd cc pc (.invokespecial idx) 3 pc') (g : wG X mL Z k N h r cl sl pc' L st) : wG X mL Z k N h r cl sl pc L (.ref a :: st) := by
  obtain ⟨hd, rfl⟩ := hd
  intro z hz Q hQ H locs ls w S hl
  exact W.objInit C.1 C.2.1 C.2.2.2.1 (C.hts _ hw.1) (C.hts _ hw.2.1) (C.hts _ hw.2.2) rfl (by rw [C.2.2.1]; exact hl.1) rfl hd (by rw [C.hR]; exact hR.1) (by rw [C.hR]; show 2 * 0 + _ + 12 ≤ _; omega) (g z hz Q hQ H locs ls w S hl)
-- statics
theorem wG_gsN (C : Cx X y cc mL ret rm) {idx : Nat} {n host : String} {t : Nat} (hw : (y.cls, idx, "WheelAndWire", n, "[I", host) ∈ spF) (hZ : va_Z "WheelAndWire" n "[I" (.ref t) (fun q => xB X ≤ q) (xs X) (xs X).heap) (hd : dcd cc pc (.getstatic idx) 3 pc') (g : wG X mL Z k N h r cl sl pc' L (.ref t :: st)) : wG X mL Z k N h r cl sl pc L st := by
  obtain ⟨hd, rfl⟩ := hd
  intro z hz Q hQ H locs ls w S hl
  exact va_getsN C.1 C.2.1 hZ S C.2.2.2.1 (va_Nw.use rfl (C.sp.2.1 _ hw)) (fun _ q => q) hd (g z hz Q hQ H locs ls w S hl)
theorem wG_gs (C : Cx X y cc mL ret rm) {idx : Nat} {n : String} {t : Nat} (hw : Cond.fieldLink y.cls idx "WheelAndWire" n "[I" ∈ BIG) (hZ : va_Z "WheelAndWire" n "[I" (.ref t) (fun q => xB X ≤ q) (xs X) (xs X).heap) (hd : dcd cc pc (.getstatic idx) 3 pc') (g : wG X mL Z k N h r cl sl pc' L (.ref t :: st)) : wG X mL Z k N h r cl sl pc L st := by
  obtain ⟨hd, rfl⟩ := hd
  intro z hz Q hQ H locs ls w S hl
  exact va_gets C.1 C.2.1 hZ S C.2.2.2.1 (C.hts _ hw) (fun _ q => q) hd (g z hz Q hQ H locs ls w S hl)
theorem wG_iaS (C : Cx X y cc mL ret rm) {t : Nat} {f : Nat → Int32} {i : Int32} (hT : va_T .int t 3 (fun j => .int (f j)) (fun q => xB X ≤ q) (xs X) (xs X).heap) (hd : dcd cc pc .iaload 1 pc') (g : wG X mL Z k N h r cl sl pc' L (.int (f (ix i)) :: st)) : wG X mL Z (if inB i 3 then k else none) N h r cl sl pc L (.int i :: .ref t :: st) := by
  obtain ⟨hd, rfl⟩ := hd
  intro z hz Q hQ H locs ls w S hl
  by_cases hin : inB i 3
  · rw [if_pos hin] at hz
    exact va_ti C.1 C.2.1 hT S hin.vp rfl hd (g z hz Q hQ H locs ls w S hl)
  · rw [if_neg hin] at hz; cases hz
theorem wG_alS (C : Cx X y cc mL ret rm) {t : Nat} {f : Nat → Int32} (hT : va_T .int t 3 (fun j => .int (f j)) (fun q => xB X ≤ q) (xs X) (xs X).heap) (hd : dcd cc pc .arraylength 1 pc') (g : wG X mL Z k N h r cl sl pc' L (.int 3 :: st)) : wG X mL Z k N h r cl sl pc L (.ref t :: st) := by
  obtain ⟨hd, rfl⟩ := hd
  intro z hz Q hQ H locs ls w S hl
  exact va_tlen C.1 C.2.1 hT S (v := 3) rfl hd (g z hz Q hQ H locs ls w S hl)
theorem wG_mmax (C : Cx X y cc mL ret rm) {idx : Nat} {x y1 : Int32} (hw : Cond.methodLink y.cls idx Lib.Math.max.name ∈ BIG ∧ Cond.static Lib.Math.max.name ∈ BIG ∧ Cond.initialized "java/lang/Math" ∈ BIG ∧ Cond.code Lib.Math.max.name Lib.Math.max.code 2 (some .int) ∈ BIG) (hR : 1 ≤ rm.frames ∧ (st.map fun v => v.category).sum + 13 ≤ rm.locals ∧ cl ≤ rm.cells ∧ sl ≤ rm.slots) (hd : dcd cc pc (.invokestatic idx) 3 pc') (g : wG X mL Z k N h r cl sl pc' L (.int (if x < y1 then y1 else x) :: st)) : wG X mL Z k N h r cl sl pc L (.int y1 :: .int x :: st) := by
  obtain ⟨hd, rfl⟩ := hd
  intro z hz Q hQ H locs ls w S hl
  exact va_mmax C.1 C.2.1 (C.2.2.1.trans hl.1.symm) C.2.2.2.1 (C.hts _ hw.1) (C.hts _ hw.2.1) (C.hts _ hw.2.2.1) (C.hts _ hw.2.2.2) (by rw [C.hR]; exact hR.1) (by rw [C.hR]; exact hR.2.1) (by rw [C.hR]; exact hR.2.2.1) (by rw [C.hR]; exact hR.2.2.2) hd (g z hz Q hQ H locs ls w S hl)
theorem wG_mmin (C : Cx X y cc mL ret rm) {idx : Nat} {x y1 : Int32} (hw : Cond.methodLink y.cls idx Lib.Math.min.name ∈ BIG ∧ Cond.static Lib.Math.min.name ∈ BIG ∧ Cond.initialized "java/lang/Math" ∈ BIG ∧ Cond.code Lib.Math.min.name Lib.Math.min.code 2 (some .int) ∈ BIG) (hR : 1 ≤ rm.frames ∧ (st.map fun v => v.category).sum + 13 ≤ rm.locals ∧ cl ≤ rm.cells ∧ sl ≤ rm.slots) (hd : dcd cc pc (.invokestatic idx) 3 pc') (g : wG X mL Z k N h r cl sl pc' L (.int (if y1 < x then y1 else x) :: st)) : wG X mL Z k N h r cl sl pc L (.int y1 :: .int x :: st) := by
  obtain ⟨hd, rfl⟩ := hd
  intro z hz Q hQ H locs ls w S hl
  exact va_mmin C.1 C.2.1 (C.2.2.1.trans hl.1.symm) C.2.2.2.1 (C.hts _ hw.1) (C.hts _ hw.2.1) (C.hts _ hw.2.2.1) (C.hts _ hw.2.2.2) (by rw [C.hR]; exact hR.1) (by rw [C.hR]; exact hR.2.1) (by rw [C.hR]; exact hR.2.2.1) (by rw [C.hR]; exact hR.2.2.2) hd (g z hz Q hQ H locs ls w S hl)
theorem wG_mmax_long (C : Cx X y cc mL ret rm) {idx : Nat} {x y1 : Int64} (hw : Cond.methodLink y.cls idx Lib.MathLoose.max_long.x ∈ BIG ∧ Cond.static Lib.MathLoose.max_long.x ∈ BIG ∧ Cond.initialized "java/lang/Math" ∈ BIG ∧ Cond.code Lib.MathLoose.max_long.x Lib.MathLoose.max_long.code 4 (some .long) ∈ BIG) (hR : 1 ≤ rm.frames ∧ (st.map fun v => v.category).sum + 15 ≤ rm.locals ∧ cl ≤ rm.cells ∧ sl ≤ rm.slots) (hd : dcd cc pc (.invokestatic idx) 3 pc') (g : wG X mL Z k N h r cl sl pc' L (.long (if y1 < x then x else y1) :: st)) : wG X mL Z k N h r cl sl pc L (.long y1 :: .long x :: st) := by
  obtain ⟨hd, rfl⟩ := hd
  intro z hz Q hQ H locs ls w S hl
  exact va_mmax_long C.1 C.2.1 (C.2.2.1.trans hl.1.symm) C.2.2.2.1 (C.hts _ hw.1) (C.hts _ hw.2.1) (C.hts _ hw.2.2.1) (C.hts _ hw.2.2.2) (by rw [C.hR]; exact hR.1) (by rw [C.hR]; exact hR.2.1) (by rw [C.hR]; exact hR.2.2.1) (by rw [C.hR]; exact hR.2.2.2) hd (g z hz Q hQ H locs ls w S hl)
theorem wG_mabs_long (C : Cx X y cc mL ret rm) {idx : Nat} {x : Int64} (hw : Cond.methodLink y.cls idx Lib.MathLoose.abs_long.x ∈ BIG ∧ Cond.static Lib.MathLoose.abs_long.x ∈ BIG ∧ Cond.initialized "java/lang/Math" ∈ BIG ∧ Cond.code Lib.MathLoose.abs_long.x Lib.MathLoose.abs_long.code 2 (some .long) ∈ BIG) (hR : 1 ≤ rm.frames ∧ (st.map fun v => v.category).sum + 13 ≤ rm.locals ∧ cl ≤ rm.cells ∧ sl ≤ rm.slots) (hd : dcd cc pc (.invokestatic idx) 3 pc') (g : wG X mL Z k N h r cl sl pc' L (.long (if 0 < x then x else -x) :: st)) : wG X mL Z k N h r cl sl pc L (.long x :: st) := by
  obtain ⟨hd, rfl⟩ := hd
  intro z hz Q hQ H locs ls w S hl
  exact va_mabs_long C.1 C.2.1 (C.2.2.1.trans hl.1.symm) C.2.2.2.1 (C.hts _ hw.1) (C.hts _ hw.2.1) (C.hts _ hw.2.2.1) (C.hts _ hw.2.2.2) (by rw [C.hR]; exact hR.1) (by rw [C.hR]; exact hR.2.1) (by rw [C.hR]; exact hR.2.2.1) (by rw [C.hR]; exact hR.2.2.2) hd (g z hz Q hQ H locs ls w S hl)
-- switches: the case is known
theorem wG_if {c : Prop} [Decidable c] (g1 : c → wG X mL Z kt N h r cl sl pc L st) (g2 : ¬ c → wG X mL Z kf N h r cl sl pc L st) : wG X mL Z (if c then kt else kf) N h r cl sl pc L st := by
  by_cases hc : c
  · rw [if_pos hc]; exact g1 hc
  · rw [if_neg hc]; exact g2 hc
theorem wG_tsI (C : Cx X y cc mL ret rm) {dflt lo hi : Int} {offs : Array Int} {len : Nat} {x v : Int32} (e : x = v) (hd : decode cc pc = .ok (.tableswitch dflt lo hi offs, len)) (h1 : ¬ v.toInt < lo) (h2 : ¬ hi < v.toInt) (off : Int) (ho : offs[(v.toInt - lo).toNat]? = some off) (ht : (pc : Int) + off = (tgt : Int)) (g : wG X mL Z k N h r cl sl tgt L st) : wG X mL Z k N h r cl sl pc L (.int x :: st) := by
  subst e
  intro z hz Q hQ H locs ls w S hl
  exact lv_tableIn C.1 C.2.1 hd h1 h2 ho ht (g z hz Q hQ H locs ls w S hl)
theorem wG_tsO (C : Cx X y cc mL ret rm) {dflt lo hi : Int} {offs : Array Int} {len : Nat} {x : Int32} (e : x.toInt < lo ∨ hi < x.toInt) (hd : decode cc pc = .ok (.tableswitch dflt lo hi offs, len)) (ht : (pc : Int) + dflt = (tgt : Int)) (g : wG X mL Z k N h r cl sl tgt L st) : wG X mL Z k N h r cl sl pc L (.int x :: st) := by
  intro z hz Q hQ H locs ls w S hl
  exact lv_tableOut C.1 C.2.1 hd e ht (g z hz Q hQ H locs ls w S hl)
theorem wG_lsw (C : Cx X y cc mL ret rm) {dflt : Int} {ps : Array (Int × Int)} {len : Nat} {x : Int32} (off : Int) (hd : decode cc pc = .ok (.lookupswitch dflt ps, len)) (hp : (ps.toList.zip (ps.toList.drop 1)).all (fun (a, next) => a.1 < next.1) = true) (ho : Op.lookupswitch.offset ps.toList dflt x.toInt = off) (ht : (pc : Int) + off = (tgt : Int)) (g : wG X mL Z k N h r cl sl tgt L st) : wG X mL Z k N h r cl sl pc L (.int x :: st) := by
  intro z hz Q hQ H locs ls w S hl
  exact lv_lookup C.1 C.2.1 hd hp ho ht (g z hz Q hQ H locs ls w S hl)
-- new cells
/-- the words of 'new' -/
def oW (own : String) (idx c : Nat) : Prop := ∃ (Cn : String) (T : u_T) (nn : Nat) (ty : Nat → FieldType), cls[c]? = some (Cn, T, nn) ∧ nn = nF c ∧ c < 12 ∧ (∀ w ∈ u_ws Cn T nn, w ∈ BIG) ∧ (∀ k, k < nn → parseFieldDescriptor (T k).2.2.1 = some (ty k)) ∧ Cond.classLink own idx Cn ∈ BIG ∧ Cond.instantiable Cn nn ∈ BIG ∧ Cond.initialized Cn ∈ BIG ∧ ∀ j, j < nn → defaultValue (ty j) = if rF c j = true then .null else .int 0
theorem wG_new (C : Cx X y cc mL ret rm) {idx c nn : Nat} {kk : Hp → Rp → Option ρ} (hw : oW y.cls idx c) (hk : Kd N = c) (hnn : nF c = nn) (hR : cl + 1 ≤ rm.cells ∧ sl + nn ≤ rm.slots) (hd : dcd cc pc (.new idx) 3 pc') (hcl : cl + 1 = cl') (hsl : sl + nn = sl')
    (g : ∀ h' r', wG X mL Z (kk h' r') (N + 1) h' r' cl' sl' pc' L (.ref (xB X + N) :: st)) : wG X mL Z (vB (va_up h N (fun _ => 0)) fun h' => vB (va_up r N (fun _ => none)) fun r' => kk h' r') N h r cl sl pc L st := by
  obtain ⟨hd, rfl⟩ := hd
  obtain ⟨Cn, T, n0, ty, hc, hn0, hc12, hin, hty, w1, w2, w3, hdf⟩ := hw
  subst hnn; subst hcl; subst hsl; subst hn0
  intro z hz Q hQ H locs ls w S hl
  have hKn := C.hK.1 c _ hc
  refine W.newcK C.1 C.2.1 C.2.2.2.1 (C.hts _ w1) (C.hts _ w2) (C.hts _ w3) rfl hd (by rw [C.hR]; exact hR.1) (by rw [C.hR]; exact hR.2) hKn.2.1 w.1 fun H1 kC hkC e1 z1 o1 => ?_
  refine g _ _ z hz Q hQ H1 locs ls (w.push (fun _ => 0) (fun _ => none) (by rw [z1, w.1]) (fun q hq => o1 q (by rw [← w.1]; exact hq)) ?_ (Or.inr fun _ => rfl)) ⟨Nat.le_trans S.1 (by rw [z1, ← w.1]; exact Nat.le_succ _), fun q h1 h2 => (o1 q (by rw [← w.1]; exact Nat.lt_of_lt_of_le h1 S.1)).trans (S.2.1 q h1 h2), S.2.2⟩ hl
  rw [hk]
  unfold atK
  rw [if_pos hc12]
  refine (u_born ty C.hts hin hKn hkC e1 hty).to (fun j hj => ?_)
  rw [hdf j hj]
  unfold fv
  split <;> rfl
theorem wG_newa (C : Cx X y cc mL ret rm) {n : Int32} {c nn : Nat} {kk : Hp → Rp → Option ρ} {at' : ArrayType} {ty : FieldType} (hat : newarray.typeOf at' = ty) (hct : (c = 12 ∧ ty = .int) ∨ (c = 13 ∧ ty = .boolean)) (hw : Cond.arrayClass ty ∈ BIG) (hk : Kd N = c) (hln : Ln N = nn) (hnn : nn ≤ 100000) (hR : cl + 1 ≤ rm.cells ∧ sl + nn ≤ rm.slots) (hd : dcd cc pc (.newarray at') 2 pc') (hcl : cl + 1 = cl') (hsl : sl + nn = sl')
    (g : ∀ h' r', wG X mL Z (kk h' r') (N + 1) h' r' cl' sl' pc' L (.ref (xB X + N) :: st)) : wG X mL Z (if n = nI nn then (vB (va_up h N (fun _ => 0)) fun h' => vB (va_up r N (fun _ => none)) fun r' => kk h' r') else none) N h r cl sl pc L (.int n :: st) := by
  obtain ⟨hd, rfl⟩ := hd
  subst hcl; subst hsl; subst hat
  intro z hz Q hQ H locs ls w S hl
  by_cases hin : n = nI nn
  · rw [if_pos hin] at hz
    subst hin
    have hb : componentBytes (newarray.typeOf at') ≤ 4 := by rcases hct with ⟨-, e⟩ | ⟨-, e⟩ <;> rw [e] <;> decide
    refine va_newaK C.1 C.2.1 (C.hts _ hw) rfl hd rfl (nI_pos (by omega)) (nI_clamp (by omega)) (Nat.le_trans (Nat.mul_le_mul hnn hb) (Nat.le_of_ble_eq_true rfl)) (by rw [C.hR]; exact hR.1) (by rw [C.hR]; exact hR.2) w.1 fun H1 cA e1 z1 o1 hAr hNm => ?_
    refine g _ _ z hz Q hQ H1 locs ls (w.push (fun _ => 0) (fun _ => none) (by rw [z1, w.1]) (fun q hq => o1 q (by rw [← w.1]; exact hq)) ?_ (Or.inr fun _ => rfl)) ⟨Nat.le_trans S.1 (by rw [z1, ← w.1]; exact Nat.le_succ _), fun q h1 h2 => (o1 q (by rw [← w.1]; exact Nat.lt_of_lt_of_le h1 S.1)).trans (S.2.1 q h1 h2), S.2.2⟩ hl
    rcases hct with ⟨e, e2⟩ | ⟨e, e2⟩
    · have hq := (C.hK.2 0 _ rfl).2
      have hcA : eC (xE X) 12 = cA := by rw [e2] at hNm; exact Option.some.inj (Eq.trans (Eq.symm hq) hNm)
      refine atK_ai (hk.trans e) (by decide) (by decide) ?_
      rw [hcA, hln, e1, e2]; rfl
    · have hq := (C.hK.2 1 _ rfl).2
      have hcA : eC (xE X) 13 = cA := by rw [e2] at hNm; exact Option.some.inj (Eq.trans (Eq.symm hq) hNm)
      refine atK_ai (hk.trans e) (by decide) (by decide) ?_
      rw [hcA, hln, e1, e2]; rfl
  · rw [if_neg hin] at hz; cases hz
theorem wG_newr (C : Cx X y cc mL ret rm) {n : Int32} {idx c nn : Nat} {Cn : String} {kk : Hp → Rp → Option ρ} (hw : Cond.classLink y.cls idx Cn ∈ BIG) (hao : va_AO Cn (xs X)) (hty : (tys (xE X))[c - 12]? = some (eC (xE X) c, .object Cn)) (hc : ¬ c < 12) (hc2 : ¬ c < 14) (hk : Kd N = c) (hln : Ln N = nn) (hnn : nn ≤ 100000) (hR : cl + 1 ≤ rm.cells ∧ sl + nn ≤ rm.slots) (hd : dcd cc pc (.anewarray idx) 3 pc') (hcl : cl + 1 = cl') (hsl : sl + nn = sl')
    (g : ∀ h' r', wG X mL Z (kk h' r') (N + 1) h' r' cl' sl' pc' L (.ref (xB X + N) :: st)) : wG X mL Z (if n = nI nn then (vB (va_up h N (fun _ => 0)) fun h' => vB (va_up r N (fun _ => none)) fun r' => kk h' r') else none) N h r cl sl pc L (.int n :: st) := by
  obtain ⟨hd, rfl⟩ := hd
  subst hcl; subst hsl
  intro z hz Q hQ H locs ls w S hl
  by_cases hin : n = nI nn
  · rw [if_pos hin] at hz
    subst hin
    have hcl : (nI nn).toNatClampNeg = nn := nI_clamp (by omega)
    refine W.anew C.1 C.2.1 C.2.2.2.1 (C.hts _ hw) (va_AO.use hao) rfl hd rfl (nI_pos (by omega)) (by rw [hcl]; omega) (by rw [C.hR]; exact hR.1) (by rw [C.hR, hcl]; exact hR.2) fun cA kA comp f1 f2 f3 f4 => ?_
    rw [hcl]
    generalize hH1 : H.push ({ cls := cA, slots := Array.replicate nn .null, vm := .none } : Cell) = H1
    have z1 : H1.size = H.size + 1 := by rw [← hH1, Array.size_push]
    have e1 : H1[H.size]? = some (arrV cA nn (fun _ => .null)) := by rw [← hH1, Array.getElem?_push_size, ← arrV_new]
    have o1 : ∀ q : Nat, q < H.size → H1[q]? = H[q]? := fun q hq => by rw [← hH1, Array.getElem?_push, if_neg (Nat.ne_of_lt hq)]
    have hcA : eC (xE X) c = cA := by
      obtain ⟨_, _, _, _, _, q4⟩ := (C.hK.2 _ _ hty).2
      exact Option.some.inj (q4.symm.trans f1)
    have hs : H.size = xB X + N := w.1
    show W _ _ _ _ _ _ _ _ _ _ _ _ _ _ _ (F0 (xm X) (pc + 3) ls (.ref H.size :: st))
    rw [hs]
    refine g _ _ z hz Q hQ H1 locs ls (w.push (fun _ => 0) (fun _ => none) z1 o1 (atK_ar hk hc hc2 ?_) (Or.inr fun _ => rfl)) ⟨Nat.le_trans S.1 (by omega), fun q h1 h2 => (o1 q (Nat.lt_of_lt_of_le h1 S.1)).trans (S.2.1 q h1 h2), S.2.2⟩ hl
    rw [hcA, hln, ← hs, e1]; rfl
  · rw [if_neg hin] at hz; cases hz
theorem wG_aast (C : Cx X y cc mL ret rm) {a n c b cb : Nat} {i : Int32} {q : vw_C} {kk : Rp → Option ρ} (hk : Kd a = c) (hc : ¬ c < 12) (hc2 : ¬ c < 14) (hty : (tys (xE X))[c - 12]? = some (eC (xE X) c, .object q.1)) (ha : a < N) (hn : Ln a = n) (hkb : Kd b = cb) (hcb : cb < 12) (hq : cls[cb]? = some q) (hb : b < N) (h43 : a = 43 → 137 ≤ b) (hd : dcd cc pc .aastore 1 pc')
    (g : ∀ r', wG X mL Z (kk r') N h r' cl sl pc' L st) : wG X mL Z (if inB i n then vB (u2 r a (ix i) (some b)) kk else none) N h r cl sl pc L (.ref (xB X + b) :: .int i :: .ref (xB X + a) :: st) := by
  obtain ⟨hd, rfl⟩ := hd
  subst hn
  intro z hz Q hQ H locs ls w S hl
  by_cases hin : inB i (Ln a)
  · rw [if_pos hin] at hz
    obtain ⟨cellV, g1, g2, g3, -⟩ := w.ob hb hkb hcb
    have hcls := (C.hK.1 cb q hq).2
    obtain ⟨kA, comp, k1, k2, k3, -⟩ := (C.hK.2 _ _ hty).2
    have hcomp : comp = (eD (xE X)).1 cb := Option.some.inj (k3.symm.trans hcls.1)
    subst hcomp
    obtain ⟨kC, hkC, -⟩ := hcls.2
    refine W.aast C.1 C.2.1 (w.ar ha hk hc hc2) (fun q h => by cases h) (fun h => by cases h) k1 k2 rfl hkC ⟨fun e => hin.vp (Or.inl e), by rw [arrV_size]; exact ix_lt hin⟩ g1 (fun q h => by rw [g3] at h; cases h) (by rw [g2]; exact hkC) (by rw [g2]; exact va_assign hcls) rfl rfl hd fun H1 e zz oq => ?_
    refine g (u2 r a (ix i) (some b)) z hz Q hQ H1 _ ls (w.set a ha zz oq (atK_ar hk hc hc2 ?_) (fun _ _ => rfl) (fun _ e => u2_ne _ _ _ e) (fun j d hq2 => ?_)) (S.put zz oq (Nat.le_add_right _ _)) hl
    · rw [e, arrV_store, u2_self]
      congr 2
      funext q
      by_cases hq : q = ix i
      · subst hq; simp [updV, va_rf]
      · simp [updV, hq]
    · by_cases e43 : a = 43
      · subst e43
        rw [u2_self] at hq2
        dsimp only at hq2
        by_cases ej : j = ix i
        · rw [if_pos ej] at hq2; cases hq2; exact ⟨h43 rfl, hb⟩
        · rw [if_neg ej] at hq2; exact w.2.2 j d hq2
      · rw [u2_ne _ _ _ (Ne.symm e43)] at hq2; exact w.2.2 j d hq2
  · rw [if_neg hin] at hz; cases hz
end ROWS2
end
section
/-! THE STANDING WORLD: behind the constructors every reference stands but those of the order (cell 43) -/
def RST : List (List (Option Nat)) := [[some 1, some 3, some 7, some 34, some 35, some 41, some 45, some 47, some 53], [some 2], [], [some 4, some 5, some 6], [], [], [], [some 3, some 8, some 9], [some 10, some 11, some 12, some 13, some 14, some 15, some 16, some 17, some 18, some 19, some 20, some 21, some 22, some 23, some 24, some 25, some 26, some 27, some 28, some 29, some 30, some 31, some 32, some 33], [], [], [], [], [], [], [], [], [], [], [], [], [], [], [], [], [], [], [], [], [], [], [], [], [], [some 57, some 84], [some 3, some 7, some 36, some 37, some 38, some 39, some 40], [], [], [], [], [], [some 3, none, some 42, some 43, some 44], [], [], [], [some 3, none, some 46], [], [some 3, none, some 48, some 49, some 50, some 51, some 52], [], [], [], [], [], [some 54, some 55, some 56], [], [], [], [some 3, some 58, some 59], [some 60, some 61, some 62, some 63, some 64, some 65, some 66, some 67, some 68, some 69, some 70, some 71, some 72, some 73, some 74, some 75, some 76, some 77, some 78, some 79, some 80, some 81, some 82, some 83], [], [], [], [], [], [], [], [], [], [], [], [], [], [], [], [], [], [], [], [], [], [], [], [], [], [some 3, some 85, some 86], [some 87, some 88, some 89, some 90, some 91, some 92, some 93, some 94, some 95, some 96, some 97, some 98, some 99, some 100, some 101, some 102, some 103, some 104, some 105, some 106, some 107, some 108, some 109, some 110], [], [], [], [], [], [], [], [], [], [], [], [], [], [], [], [], [], [], [], [], [], [], [], [], [], [none, some 112, none, some 113, none, none, some 114, none, none, none, some 115, some 116, some 117, some 118, some 119, some 120, some 121, some 122, none, some 123, some 124, some 125, none, none, none, none, none, some 126, some 127, some 128, some 129, some 130, some 131, some 132, none, none, some 133, none, none, none, some 134, some 135, some 136], [], [], [], [], [], [], [], [], [], [], [], [], [], [], [], [], [], [], [], [], [], [], [], [], []]
def rs (k j : Nat) : Option Nat := (RST.getD k []).getD j none
def rq (q : Nat → Option Nat) : Rp := fun k => if k = 43 then q else rs k
theorem Kd_lt {a c : Nat} (hk : Kd a = c) (hc : c ≠ 0) : a < 137 := by
  rcases Nat.lt_or_ge a 137 with h | h
  · exact h
  · exfalso
    apply hc
    rw [← hk]
    unfold Kd
    rw [List.getD_eq_getElem?_getD, List.getElem?_eq_none (by exact h)]
    rfl
theorem wlt {a c N : Nat} (hN : 137 ≤ N) (hk : Kd a = c) (hc : c ≠ 0) : a < N := Nat.lt_of_lt_of_le (Kd_lt hk hc) hN
theorem wll {N : Nat} (hN : 137 ≤ N) {a : Nat} (h : a < 137) : a < N := Nat.lt_of_lt_of_le h hN
theorem Kd_ge {N : Nat} (hN : 137 ≤ N) : Kd N = 0 := by
  unfold Kd
  rw [List.getD_eq_getElem?_getD, List.getElem?_eq_none (by exact hN)]
  rfl
theorem rs_ge {N : Nat} (hN : 137 ≤ N) : rs N = fun _ => none := by
  funext j
  unfold rs
  rw [List.getD_eq_getElem?_getD (l := RST), List.getElem?_eq_none (by exact hN)]
  rfl
theorem rq_new (q : Nat → Option Nat) {N : Nat} (hN : 137 ≤ N) : va_up (rq q) N (fun _ => none) = rq q := by
  funext k
  unfold va_up
  by_cases e : k = N
  · subst e
    rw [if_pos rfl]
    unfold rq
    rw [if_neg (by omega), rs_ge hN]
  · rw [if_neg e]
theorem rq_put (q : Nat → Option Nat) (i : Nat) (b : Option Nat) : u2 (rq q) 43 i b = rq (va_up q i b) := by
  funext k
  unfold u2 rq va_up
  by_cases e : k = 43
  · subst e; simp
  · simp [e]
theorem kdB_all : ∀ b, b < 137 → Kd b = 1 → b = 7 ∨ b = 57 ∨ b = 84 := by decide +kernel
theorem kdB {b : Nat} (hk : Kd b = 1) : b = 7 ∨ b = 57 ∨ b = 84 := kdB_all b (Kd_lt hk (by decide)) hk
theorem kb1 {b : Nat} (hk : Kd b = 1) : Kd (b + 1) = 16 := by rcases kdB hk with rfl | rfl | rfl <;> rfl
theorem kb2 {b : Nat} (hk : Kd b = 1) : Kd (b + 2) = 7 := by rcases kdB hk with rfl | rfl | rfl <;> rfl
theorem lb1 {b : Nat} (hk : Kd b = 1) : Ln (b + 1) = 24 := by rcases kdB hk with rfl | rfl | rfl <;> rfl
theorem rb0 {b : Nat} (q : Nat → Option Nat) (hk : Kd b = 1) : rq q b 0 = some 3 := by rcases kdB hk with rfl | rfl | rfl <;> rfl
theorem rb1 {b : Nat} (q : Nat → Option Nat) (hk : Kd b = 1) : rq q b 1 = some (b + 1) := by rcases kdB hk with rfl | rfl | rfl <;> rfl
theorem rb2 {b : Nat} (q : Nat → Option Nat) (hk : Kd b = 1) : rq q b 2 = some (b + 2) := by rcases kdB hk with rfl | rfl | rfl <;> rfl
theorem kp_all : ∀ i, i < 24 → (Kd (7 + 3 + i) = 7 ∧ rs (7 + 1) i = some (7 + 3 + i)) ∧ (Kd (57 + 3 + i) = 7 ∧ rs (57 + 1) i = some (57 + 3 + i)) ∧ (Kd (84 + 3 + i) = 7 ∧ rs (84 + 1) i = some (84 + 3 + i)) := by decide +kernel
theorem kp {b i : Nat} (hk : Kd b = 1) (hi : i < 24) : Kd (b + 3 + i) = 7 := by
  rcases kdB hk with rfl | rfl | rfl
  · exact (kp_all i hi).1.1
  · exact (kp_all i hi).2.1.1
  · exact (kp_all i hi).2.2.1
theorem rp {b i : Nat} (q : Nat → Option Nat) (hk : Kd b = 1) (hi : i < 24) : rq q (b + 1) i = some (b + 3 + i) := by
  rcases kdB hk with rfl | rfl | rfl
  · exact (kp_all i hi).1.2
  · exact (kp_all i hi).2.1.2
  · exact (kp_all i hi).2.2.2
theorem ksl : ∀ i, i < 2 → Kd (57 + 27 * i) = 1 ∧ rs 34 i = some (57 + 27 * i) := by decide +kernel
theorem kd_0 : Kd 0 = 11 := rfl
theorem kd_1 : Kd 1 = 10 := rfl
theorem kd_2 : Kd 2 = 12 := rfl
theorem ln_2 : Ln 2 = 48 := rfl
theorem kd_3 : Kd 3 = 4 := rfl
theorem kd_4 : Kd 4 = 12 := rfl
theorem ln_4 : Ln 4 = 36 := rfl
theorem kd_5 : Kd 5 = 12 := rfl
theorem ln_5 : Ln 5 = 49 := rfl
theorem kd_6 : Kd 6 = 12 := rfl
theorem ln_6 : Ln 6 = 49 := rfl
theorem kd_7 : Kd 7 = 1 := rfl
theorem kd_8 : Kd 8 = 16 := rfl
theorem ln_8 : Ln 8 = 24 := rfl
theorem kd_9 : Kd 9 = 7 := rfl
theorem kd_10 : Kd 10 = 7 := rfl
theorem kd_11 : Kd 11 = 7 := rfl
theorem kd_12 : Kd 12 = 7 := rfl
theorem kd_13 : Kd 13 = 7 := rfl
theorem kd_14 : Kd 14 = 7 := rfl
theorem kd_15 : Kd 15 = 7 := rfl
theorem kd_16 : Kd 16 = 7 := rfl
theorem kd_17 : Kd 17 = 7 := rfl
theorem kd_18 : Kd 18 = 7 := rfl
theorem kd_19 : Kd 19 = 7 := rfl
theorem kd_20 : Kd 20 = 7 := rfl
theorem kd_21 : Kd 21 = 7 := rfl
theorem kd_22 : Kd 22 = 7 := rfl
theorem kd_23 : Kd 23 = 7 := rfl
theorem kd_24 : Kd 24 = 7 := rfl
theorem kd_25 : Kd 25 = 7 := rfl
theorem kd_26 : Kd 26 = 7 := rfl
theorem kd_27 : Kd 27 = 7 := rfl
theorem kd_28 : Kd 28 = 7 := rfl
theorem kd_29 : Kd 29 = 7 := rfl
theorem kd_30 : Kd 30 = 7 := rfl
theorem kd_31 : Kd 31 = 7 := rfl
theorem kd_32 : Kd 32 = 7 := rfl
theorem kd_33 : Kd 33 = 7 := rfl
theorem kd_34 : Kd 34 = 15 := rfl
theorem ln_34 : Ln 34 = 2 := rfl
theorem kd_35 : Kd 35 = 9 := rfl
theorem kd_36 : Kd 36 = 7 := rfl
theorem kd_37 : Kd 37 = 7 := rfl
theorem kd_38 : Kd 38 = 7 := rfl
theorem kd_39 : Kd 39 = 7 := rfl
theorem kd_40 : Kd 40 = 12 := rfl
theorem ln_40 : Ln 40 = 24 := rfl
theorem kd_41 : Kd 41 = 6 := rfl
theorem kd_42 : Kd 42 = 12 := rfl
theorem ln_42 : Ln 42 = 7056 := rfl
theorem kd_43 : Kd 43 = 14 := rfl
theorem ln_43 : Ln 43 = 4 := rfl
theorem kd_44 : Kd 44 = 12 := rfl
theorem ln_44 : Ln 44 = 16 := rfl
theorem kd_45 : Kd 45 = 3 := rfl
theorem kd_46 : Kd 46 = 12 := rfl
theorem ln_46 : Ln 46 = 441 := rfl
theorem kd_47 : Kd 47 = 5 := rfl
theorem kd_48 : Kd 48 = 12 := rfl
theorem ln_48 : Ln 48 = 441 := rfl
theorem kd_49 : Kd 49 = 12 := rfl
theorem ln_49 : Ln 49 = 6 := rfl
theorem kd_50 : Kd 50 = 12 := rfl
theorem ln_50 : Ln 50 = 6 := rfl
theorem kd_51 : Kd 51 = 12 := rfl
theorem ln_51 : Ln 51 = 6 := rfl
theorem kd_52 : Kd 52 = 12 := rfl
theorem ln_52 : Ln 52 = 6 := rfl
theorem kd_53 : Kd 53 = 2 := rfl
theorem kd_54 : Kd 54 = 12 := rfl
theorem ln_54 : Ln 54 = 16 := rfl
theorem kd_55 : Kd 55 = 12 := rfl
theorem ln_55 : Ln 55 = 10 := rfl
theorem kd_56 : Kd 56 = 12 := rfl
theorem ln_56 : Ln 56 = 10 := rfl
theorem kd_57 : Kd 57 = 1 := rfl
theorem kd_58 : Kd 58 = 16 := rfl
theorem ln_58 : Ln 58 = 24 := rfl
theorem kd_59 : Kd 59 = 7 := rfl
theorem kd_60 : Kd 60 = 7 := rfl
theorem kd_61 : Kd 61 = 7 := rfl
theorem kd_62 : Kd 62 = 7 := rfl
theorem kd_63 : Kd 63 = 7 := rfl
theorem kd_64 : Kd 64 = 7 := rfl
theorem kd_65 : Kd 65 = 7 := rfl
theorem kd_66 : Kd 66 = 7 := rfl
theorem kd_67 : Kd 67 = 7 := rfl
theorem kd_68 : Kd 68 = 7 := rfl
theorem kd_69 : Kd 69 = 7 := rfl
theorem kd_70 : Kd 70 = 7 := rfl
theorem kd_71 : Kd 71 = 7 := rfl
theorem kd_72 : Kd 72 = 7 := rfl
theorem kd_73 : Kd 73 = 7 := rfl
theorem kd_74 : Kd 74 = 7 := rfl
theorem kd_75 : Kd 75 = 7 := rfl
theorem kd_76 : Kd 76 = 7 := rfl
theorem kd_77 : Kd 77 = 7 := rfl
theorem kd_78 : Kd 78 = 7 := rfl
theorem kd_79 : Kd 79 = 7 := rfl
theorem kd_80 : Kd 80 = 7 := rfl
theorem kd_81 : Kd 81 = 7 := rfl
theorem kd_82 : Kd 82 = 7 := rfl
theorem kd_83 : Kd 83 = 7 := rfl
theorem kd_84 : Kd 84 = 1 := rfl
theorem kd_85 : Kd 85 = 16 := rfl
theorem ln_85 : Ln 85 = 24 := rfl
theorem kd_86 : Kd 86 = 7 := rfl
theorem kd_87 : Kd 87 = 7 := rfl
theorem kd_88 : Kd 88 = 7 := rfl
theorem kd_89 : Kd 89 = 7 := rfl
theorem kd_90 : Kd 90 = 7 := rfl
theorem kd_91 : Kd 91 = 7 := rfl
theorem kd_92 : Kd 92 = 7 := rfl
theorem kd_93 : Kd 93 = 7 := rfl
theorem kd_94 : Kd 94 = 7 := rfl
theorem kd_95 : Kd 95 = 7 := rfl
theorem kd_96 : Kd 96 = 7 := rfl
theorem kd_97 : Kd 97 = 7 := rfl
theorem kd_98 : Kd 98 = 7 := rfl
theorem kd_99 : Kd 99 = 7 := rfl
theorem kd_100 : Kd 100 = 7 := rfl
theorem kd_101 : Kd 101 = 7 := rfl
theorem kd_102 : Kd 102 = 7 := rfl
theorem kd_103 : Kd 103 = 7 := rfl
theorem kd_104 : Kd 104 = 7 := rfl
theorem kd_105 : Kd 105 = 7 := rfl
theorem kd_106 : Kd 106 = 7 := rfl
theorem kd_107 : Kd 107 = 7 := rfl
theorem kd_108 : Kd 108 = 7 := rfl
theorem kd_109 : Kd 109 = 7 := rfl
theorem kd_110 : Kd 110 = 7 := rfl
theorem kd_111 : Kd 111 = 8 := rfl
theorem kd_112 : Kd 112 = 12 := rfl
theorem ln_112 : Ln 112 = 48 := rfl
theorem kd_113 : Kd 113 = 12 := rfl
theorem ln_113 : Ln 113 = 36 := rfl
theorem kd_114 : Kd 114 = 12 := rfl
theorem ln_114 : Ln 114 = 36 := rfl
theorem kd_115 : Kd 115 = 12 := rfl
theorem ln_115 : Ln 115 = 24 := rfl
theorem kd_116 : Kd 116 = 12 := rfl
theorem ln_116 : Ln 116 = 24 := rfl
theorem kd_117 : Kd 117 = 12 := rfl
theorem ln_117 : Ln 117 = 24 := rfl
theorem kd_118 : Kd 118 = 12 := rfl
theorem ln_118 : Ln 118 = 24 := rfl
theorem kd_119 : Kd 119 = 12 := rfl
theorem ln_119 : Ln 119 = 24 := rfl
theorem kd_120 : Kd 120 = 12 := rfl
theorem ln_120 : Ln 120 = 24 := rfl
theorem kd_121 : Kd 121 = 12 := rfl
theorem ln_121 : Ln 121 = 24 := rfl
theorem kd_122 : Kd 122 = 12 := rfl
theorem ln_122 : Ln 122 = 96 := rfl
theorem kd_123 : Kd 123 = 12 := rfl
theorem ln_123 : Ln 123 = 266 := rfl
theorem kd_124 : Kd 124 = 12 := rfl
theorem ln_124 : Ln 124 = 532 := rfl
theorem kd_125 : Kd 125 = 13 := rfl
theorem ln_125 : Ln 125 = 2 := rfl
theorem kd_126 : Kd 126 = 12 := rfl
theorem ln_126 : Ln 126 = 4 := rfl
theorem kd_127 : Kd 127 = 12 := rfl
theorem ln_127 : Ln 127 = 4 := rfl
theorem kd_128 : Kd 128 = 12 := rfl
theorem ln_128 : Ln 128 = 4 := rfl
theorem kd_129 : Kd 129 = 12 := rfl
theorem ln_129 : Ln 129 = 1296 := rfl
theorem kd_130 : Kd 130 = 12 := rfl
theorem ln_130 : Ln 130 = 1296 := rfl
theorem kd_131 : Kd 131 = 12 := rfl
theorem ln_131 : Ln 131 = 20736 := rfl
theorem kd_132 : Kd 132 = 12 := rfl
theorem ln_132 : Ln 132 = 1296 := rfl
theorem kd_133 : Kd 133 = 12 := rfl
theorem ln_133 : Ln 133 = 6 := rfl
theorem kd_134 : Kd 134 = 12 := rfl
theorem ln_134 : Ln 134 = 16 := rfl
theorem kd_135 : Kd 135 = 12 := rfl
theorem ln_135 : Ln 135 = 10 := rfl
theorem kd_136 : Kd 136 = 12 := rfl
theorem ln_136 : Ln 136 = 10 := rfl
theorem rf_0_0 (q : Nat → Option Nat) : rq q 0 0 = some 1 := rfl
theorem rf_0_1 (q : Nat → Option Nat) : rq q 0 1 = some 3 := rfl
theorem rf_0_2 (q : Nat → Option Nat) : rq q 0 2 = some 7 := rfl
theorem rf_0_3 (q : Nat → Option Nat) : rq q 0 3 = some 34 := rfl
theorem rf_0_4 (q : Nat → Option Nat) : rq q 0 4 = some 35 := rfl
theorem rf_0_5 (q : Nat → Option Nat) : rq q 0 5 = some 41 := rfl
theorem rf_0_6 (q : Nat → Option Nat) : rq q 0 6 = some 45 := rfl
theorem rf_0_7 (q : Nat → Option Nat) : rq q 0 7 = some 47 := rfl
theorem rf_0_8 (q : Nat → Option Nat) : rq q 0 8 = some 53 := rfl
theorem rf_1_0 (q : Nat → Option Nat) : rq q 1 0 = some 2 := rfl
theorem rf_3_0 (q : Nat → Option Nat) : rq q 3 0 = some 4 := rfl
theorem rf_3_1 (q : Nat → Option Nat) : rq q 3 1 = some 5 := rfl
theorem rf_3_2 (q : Nat → Option Nat) : rq q 3 2 = some 6 := rfl
theorem rf_7_0 (q : Nat → Option Nat) : rq q 7 0 = some 3 := rfl
theorem rf_7_1 (q : Nat → Option Nat) : rq q 7 1 = some 8 := rfl
theorem rf_7_2 (q : Nat → Option Nat) : rq q 7 2 = some 9 := rfl
theorem rf_35_0 (q : Nat → Option Nat) : rq q 35 0 = some 3 := rfl
theorem rf_35_1 (q : Nat → Option Nat) : rq q 35 1 = some 7 := rfl
theorem rf_35_2 (q : Nat → Option Nat) : rq q 35 2 = some 36 := rfl
theorem rf_35_3 (q : Nat → Option Nat) : rq q 35 3 = some 37 := rfl
theorem rf_35_4 (q : Nat → Option Nat) : rq q 35 4 = some 38 := rfl
theorem rf_35_5 (q : Nat → Option Nat) : rq q 35 5 = some 39 := rfl
theorem rf_35_6 (q : Nat → Option Nat) : rq q 35 6 = some 40 := rfl
theorem rf_41_0 (q : Nat → Option Nat) : rq q 41 0 = some 3 := rfl
theorem rf_41_2 (q : Nat → Option Nat) : rq q 41 2 = some 42 := rfl
theorem rf_41_3 (q : Nat → Option Nat) : rq q 41 3 = some 43 := rfl
theorem rf_41_4 (q : Nat → Option Nat) : rq q 41 4 = some 44 := rfl
theorem rf_45_0 (q : Nat → Option Nat) : rq q 45 0 = some 3 := rfl
theorem rf_45_2 (q : Nat → Option Nat) : rq q 45 2 = some 46 := rfl
theorem rf_47_0 (q : Nat → Option Nat) : rq q 47 0 = some 3 := rfl
theorem rf_47_2 (q : Nat → Option Nat) : rq q 47 2 = some 48 := rfl
theorem rf_47_3 (q : Nat → Option Nat) : rq q 47 3 = some 49 := rfl
theorem rf_47_4 (q : Nat → Option Nat) : rq q 47 4 = some 50 := rfl
theorem rf_47_5 (q : Nat → Option Nat) : rq q 47 5 = some 51 := rfl
theorem rf_47_6 (q : Nat → Option Nat) : rq q 47 6 = some 52 := rfl
theorem rf_53_0 (q : Nat → Option Nat) : rq q 53 0 = some 54 := rfl
theorem rf_53_1 (q : Nat → Option Nat) : rq q 53 1 = some 55 := rfl
theorem rf_53_2 (q : Nat → Option Nat) : rq q 53 2 = some 56 := rfl
theorem rf_57_0 (q : Nat → Option Nat) : rq q 57 0 = some 3 := rfl
theorem rf_57_1 (q : Nat → Option Nat) : rq q 57 1 = some 58 := rfl
theorem rf_57_2 (q : Nat → Option Nat) : rq q 57 2 = some 59 := rfl
theorem rf_84_0 (q : Nat → Option Nat) : rq q 84 0 = some 3 := rfl
theorem rf_84_1 (q : Nat → Option Nat) : rq q 84 1 = some 85 := rfl
theorem rf_84_2 (q : Nat → Option Nat) : rq q 84 2 = some 86 := rfl
theorem rf_111_1 (q : Nat → Option Nat) : rq q 111 1 = some 112 := rfl
theorem rf_111_3 (q : Nat → Option Nat) : rq q 111 3 = some 113 := rfl
theorem rf_111_6 (q : Nat → Option Nat) : rq q 111 6 = some 114 := rfl
theorem rf_111_10 (q : Nat → Option Nat) : rq q 111 10 = some 115 := rfl
theorem rf_111_11 (q : Nat → Option Nat) : rq q 111 11 = some 116 := rfl
theorem rf_111_12 (q : Nat → Option Nat) : rq q 111 12 = some 117 := rfl
theorem rf_111_13 (q : Nat → Option Nat) : rq q 111 13 = some 118 := rfl
theorem rf_111_14 (q : Nat → Option Nat) : rq q 111 14 = some 119 := rfl
theorem rf_111_15 (q : Nat → Option Nat) : rq q 111 15 = some 120 := rfl
theorem rf_111_16 (q : Nat → Option Nat) : rq q 111 16 = some 121 := rfl
theorem rf_111_17 (q : Nat → Option Nat) : rq q 111 17 = some 122 := rfl
theorem rf_111_19 (q : Nat → Option Nat) : rq q 111 19 = some 123 := rfl
theorem rf_111_20 (q : Nat → Option Nat) : rq q 111 20 = some 124 := rfl
theorem rf_111_21 (q : Nat → Option Nat) : rq q 111 21 = some 125 := rfl
theorem rf_111_27 (q : Nat → Option Nat) : rq q 111 27 = some 126 := rfl
theorem rf_111_28 (q : Nat → Option Nat) : rq q 111 28 = some 127 := rfl
theorem rf_111_29 (q : Nat → Option Nat) : rq q 111 29 = some 128 := rfl
theorem rf_111_30 (q : Nat → Option Nat) : rq q 111 30 = some 129 := rfl
theorem rf_111_31 (q : Nat → Option Nat) : rq q 111 31 = some 130 := rfl
theorem rf_111_32 (q : Nat → Option Nat) : rq q 111 32 = some 131 := rfl
theorem rf_111_33 (q : Nat → Option Nat) : rq q 111 33 = some 132 := rfl
theorem rf_111_36 (q : Nat → Option Nat) : rq q 111 36 = some 133 := rfl
theorem rf_111_40 (q : Nat → Option Nat) : rq q 111 40 = some 134 := rfl
theorem rf_111_41 (q : Nat → Option Nat) : rq q 111 41 = some 135 := rfl
theorem rf_111_42 (q : Nat → Option Nat) : rq q 111 42 = some 136 := rfl
section SROWS
variable {ρ : Type} {X : wX} {y : MethodName} {cc : ByteArray} {mL : Nat} {ret : Option FieldType} {rm : Room} {Z : ρ → (State → Prop) → Prop} {k kt kf : Option ρ} {N : Nat} {h : Hp} {q : Nat → Option Nat} {cl sl pc pc' tgt cl' sl' : Nat} {L L' : List (Nat × Value)} {st rest : List Value} {off : Int}
/-- a piece of a board -/
theorem wG_aaP (C : Cx X y cc mL ret rm) {b p e : Nat} {i : Int32} {kk : Nat → Option ρ} (hN : 137 ≤ N) (hb : Kd b = 1) (hp : b + 1 = p) (he : b + 3 = e) (hd : dcd cc pc .aaload 1 pc') (g : ∀ a, Kd a = 7 → wG X mL Z (kk a) N h (rq q) cl sl pc' L (.ref (xB X + a) :: st)) : wG X mL Z (if inB i 24 then vB (e + ix i) kk else none) N h (rq q) cl sl pc L (.int i :: .ref (xB X + p) :: st) := by
  subst hp; subst he
  have key := wG_aald (kk := kk) (i := i) (r := rq q) (Z := Z) (L := L) (st := st) (h := h) (cl := cl) (sl := sl) C (kb1 hb) (by decide) (by decide) (Cn := RX7) rfl (wlt hN (kb1 hb) (by decide)) (lb1 hb) hd
  by_cases hin : inB i 24
  · have e := rp q hb (ix_lt hin)
    rw [if_pos hin, e] at key
    rw [if_pos hin]
    exact key (fun a ha => by cases ha; exact g _ (kp hb (ix_lt hin)))
  · rw [if_neg hin]; exact wG_none
/-- a slot's board -/
theorem wG_aaS (C : Cx X y cc mL ret rm) {i : Int32} {kk : Nat → Option ρ} (hN : 137 ≤ N) (hd : dcd cc pc .aaload 1 pc') (g : ∀ a, Kd a = 1 → wG X mL Z (kk a) N h (rq q) cl sl pc' L (.ref (xB X + a) :: st)) : wG X mL Z (if inB i 2 then vB (57 + 27 * ix i) kk else none) N h (rq q) cl sl pc L (.int i :: .ref (xB X + 34) :: st) := by
  have key := wG_aald (kk := kk) (i := i) (r := rq q) (Z := Z) (L := L) (st := st) (h := h) (cl := cl) (sl := sl) C kd_34 (by decide) (by decide) (Cn := RX1) rfl (wll hN (by decide)) ln_34 hd
  by_cases hin : inB i 2
  · have e : rq q 34 (ix i) = some (57 + 27 * ix i) := (ksl _ (ix_lt hin)).2
    rw [if_pos hin, e] at key
    rw [if_pos hin]
    exact key (fun a ha => by cases ha; exact g _ (ksl _ (ix_lt hin)).1)
  · rw [if_neg hin]; exact wG_none
/-- an ask of the order -/
theorem wG_aaQ (C : Cx X y cc mL ret rm) {i : Int32} {kk : Nat → Option ρ} (hN : 137 ≤ N) (hd : dcd cc pc .aaload 1 pc') (g : ∀ a, Kd a = 0 → a < N → wG X mL Z (kk a) N h (rq q) cl sl pc' L (.ref (xB X + a) :: st)) : wG X mL Z (if inB i 4 then (q (ix i)).bind kk else none) N h (rq q) cl sl pc L (.int i :: .ref (xB X + 43) :: st) := by
  intro z hz Q hQ H locs ls w S hl
  refine wG_aald (kk := kk) (i := i) (r := rq q) (Z := Z) (L := L) (st := st) (h := h) (cl := cl) (sl := sl) C kd_43 (by decide) (by decide) (Cn := RX0) rfl (wll hN (by decide)) ln_43 hd (fun a ha => ?_) z hz Q hQ H locs ls w S hl
  obtain ⟨h1, h2⟩ := w.2.2 _ _ ha
  exact g a (Kd_ge h1) h2
/-- a new ask -/
theorem wG_newA (C : Cx X y cc mL ret rm) {idx : Nat} {kk : Hp → Option ρ} (hN : 137 ≤ N) (hw : oW y.cls idx 0) (hR : cl + 1 ≤ rm.cells ∧ sl + 3 ≤ rm.slots) (hd : dcd cc pc (.new idx) 3 pc') (hcl : cl + 1 = cl') (hsl : sl + 3 = sl')
    (g : ∀ h', wG X mL Z (kk h') (N + 1) h' (rq q) cl' sl' pc' L (.ref (xB X + N) :: st)) : wG X mL Z (vB (va_up h N (fun _ => 0)) kk) N h (rq q) cl sl pc L st := by
  intro z hz
  classical
  exact wG_new (kk := fun h' r' => if r' = rq q then kk h' else none) C hw (Kd_ge hN) (show nF 0 = 3 from rfl) hR hd hcl hsl (fun h' r' => by
    by_cases e : r' = rq q
    · rw [if_pos e, e]; exact g h'
    · rw [if_neg e]; exact wG_none) z (by show vB _ _ = _; unfold vB at hz ⊢; rw [rq_new q hN]; simpa [vB] using hz)
theorem wG_astQ (C : Cx X y cc mL ret rm) {b : Nat} {i : Int32} {kk : (Nat → Option Nat) → Option ρ} (hN : 137 ≤ N) (hb1 : 137 ≤ b) (hb : b < N) (hd : dcd cc pc .aastore 1 pc')
    (g : ∀ q', wG X mL Z (kk q') N h (rq q') cl sl pc' L st) : wG X mL Z (if inB i 4 then vB (va_up q (ix i) (some b)) kk else none) N h (rq q) cl sl pc L (.ref (xB X + b) :: .int i :: .ref (xB X + 43) :: st) := by
  intro z hz
  classical
  refine wG_aast (kk := fun r' => if r' = rq (va_up q (ix i) (some b)) then kk (va_up q (ix i) (some b)) else none) C kd_43 (by decide) (by decide) (q := (RX0, TX0, 3)) rfl (wll hN (by decide)) ln_43 (Kd_ge hb1) (by decide) rfl hb (fun _ => hb1) hd (fun r' => ?_) z ?_
  · by_cases e : r' = rq (va_up q (ix i) (some b))
    · rw [if_pos e, e]; exact g _
    · rw [if_neg e]; exact wG_none
  · by_cases hin : inB i 4
    · rw [if_pos hin] at hz ⊢
      unfold vB at hz ⊢
      rw [rq_put]
      show (if _ then _ else _) = _
      rw [if_pos rfl]; exact hz
    · rw [if_neg hin] at hz; cases hz
end SROWS
end
section
theorem dX0_init_0 : dcd cX0_init 0 (.aload_n 0) 1 1 := by decide +kernel
theorem dX0_init_1 : dcd cX0_init 1 (.invokespecial 3) 3 4 := by decide +kernel
theorem dX0_init_4 : dcd cX0_init 4 (.aload_n 0) 1 5 := by decide +kernel
theorem dX0_init_5 : dcd cX0_init 5 (.iload_n 1) 1 6 := by decide +kernel
theorem dX0_init_6 : dcd cX0_init 6 (.putfield 9) 3 9 := by decide +kernel
theorem dX0_init_9 : dcd cX0_init 9 (.aload_n 0) 1 10 := by decide +kernel
theorem dX0_init_10 : dcd cX0_init 10 (.iload_n 1) 1 11 := by decide +kernel
theorem dX0_init_11 : dcd cX0_init 11 (.iload_n 2) 1 12 := by decide +kernel
theorem dX0_init_12 : dcd cX0_init 12 (.iadd) 1 13 := by decide +kernel
theorem dX0_init_13 : dcd cX0_init 13 (.putfield 15) 3 16 := by decide +kernel
theorem dX0_init_16 : dcd cX0_init 16 (.aload_n 0) 1 17 := by decide +kernel
theorem dX0_init_17 : dcd cX0_init 17 (.iload_n 3) 1 18 := by decide +kernel
theorem dX0_init_18 : dcd cX0_init 18 (.putfield 18) 3 21 := by decide +kernel
theorem dX0_init_21 : decode cX0_init 21 = .ok (.return_, 1) := by decide +kernel
theorem dX0_fits_0 : dcd cX0_fits 0 (.iload_n 1) 1 1 := by decide +kernel
theorem dX0_fits_1 : dcd cX0_fits 1 (.aload_n 0) 1 2 := by decide +kernel
theorem dX0_fits_2 : dcd cX0_fits 2 (.getfield 9) 3 5 := by decide +kernel
theorem dX0_fits_5 : dcb cX0_fits 5 (.if_icmp .lt (23)) (23) 28 8 := by decide +kernel
theorem dX0_fits_8 : dcd cX0_fits 8 (.iload_n 1) 1 9 := by decide +kernel
theorem dX0_fits_9 : dcd cX0_fits 9 (.aload_n 0) 1 10 := by decide +kernel
theorem dX0_fits_10 : dcd cX0_fits 10 (.getfield 15) 3 13 := by decide +kernel
theorem dX0_fits_13 : dcb cX0_fits 13 (.if_icmp .gt (15)) (15) 28 16 := by decide +kernel
theorem dX0_fits_16 : dcd cX0_fits 16 (.iload_n 2) 1 17 := by decide +kernel
theorem dX0_fits_17 : dcd cX0_fits 17 (.aload_n 0) 1 18 := by decide +kernel
theorem dX0_fits_18 : dcd cX0_fits 18 (.getfield 18) 3 21 := by decide +kernel
theorem dX0_fits_21 : dcb cX0_fits 21 (.if_icmp .gt (7)) (7) 28 24 := by decide +kernel
theorem dX0_fits_24 : dcd cX0_fits 24 (.iconst 1) 1 25 := by decide +kernel
theorem dX0_fits_25 : dcb cX0_fits 25 (.goto (4)) (4) 29 28 := by decide +kernel
theorem dX0_fits_28 : dcd cX0_fits 28 (.iconst 0) 1 29 := by decide +kernel
theorem dX0_fits_29 : decode cX0_fits 29 = .ok (.ireturn, 1) := by decide +kernel
theorem dX0_isServedBy_0 : dcd cX0_isServedBy 0 (.aload_n 1) 1 1 := by decide +kernel
theorem dX0_isServedBy_1 : dcd cX0_isServedBy 1 (.getfield 21) 3 4 := by decide +kernel
theorem dX0_isServedBy_4 : dcb cX0_isServedBy 4 (.ifCond .ne (22)) (22) 26 7 := by decide +kernel
theorem dX0_isServedBy_7 : dcd cX0_isServedBy 7 (.aload_n 0) 1 8 := by decide +kernel
theorem dX0_isServedBy_8 : dcd cX0_isServedBy 8 (.aload_n 1) 1 9 := by decide +kernel
theorem dX0_isServedBy_9 : dcd cX0_isServedBy 9 (.invokevirtual 26) 3 12 := by decide +kernel
theorem dX0_isServedBy_12 : dcd cX0_isServedBy 12 (.aload_n 1) 1 13 := by decide +kernel
theorem dX0_isServedBy_13 : dcd cX0_isServedBy 13 (.getfield 29) 3 16 := by decide +kernel
theorem dX0_isServedBy_16 : dcd cX0_isServedBy 16 (.invokevirtual 30) 3 19 := by decide +kernel
theorem dX0_isServedBy_19 : dcb cX0_isServedBy 19 (.ifCond .eq (7)) (7) 26 22 := by decide +kernel
theorem dX0_isServedBy_22 : dcd cX0_isServedBy 22 (.iconst 1) 1 23 := by decide +kernel
theorem dX0_isServedBy_23 : dcb cX0_isServedBy 23 (.goto (4)) (4) 27 26 := by decide +kernel
theorem dX0_isServedBy_26 : dcd cX0_isServedBy 26 (.iconst 0) 1 27 := by decide +kernel
theorem dX0_isServedBy_27 : decode cX0_isServedBy 27 = .ok (.ireturn, 1) := by decide +kernel
theorem dX1_init_0 : dcd cX1_init 0 (.aload_n 0) 1 1 := by decide +kernel
theorem dX1_init_1 : dcd cX1_init 1 (.invokespecial 3) 3 4 := by decide +kernel
theorem dX1_init_4 : dcd cX1_init 4 (.aload_n 0) 1 5 := by decide +kernel
theorem dX1_init_5 : dcd cX1_init 5 (.bipush 24) 2 7 := by decide +kernel
theorem dX1_init_7 : dcd cX1_init 7 (.anewarray 9) 3 10 := by decide +kernel
theorem dX1_init_10 : dcd cX1_init 10 (.putfield 11) 3 13 := by decide +kernel
theorem dX1_init_13 : dcd cX1_init 13 (.aload_n 0) 1 14 := by decide +kernel
theorem dX1_init_14 : dcd cX1_init 14 (.new 9) 3 17 := by decide +kernel
theorem dX1_init_17 : dcd cX1_init 17 (.dup) 1 18 := by decide +kernel
theorem dX1_init_18 : dcd cX1_init 18 (.invokespecial 17) 3 21 := by decide +kernel
theorem dX1_init_21 : dcd cX1_init 21 (.putfield 18) 3 24 := by decide +kernel
theorem dX1_init_24 : dcd cX1_init 24 (.aload_n 0) 1 25 := by decide +kernel
theorem dX1_init_25 : dcd cX1_init 25 (.aload_n 1) 1 26 := by decide +kernel
theorem dX1_init_26 : dcd cX1_init 26 (.putfield 22) 3 29 := by decide +kernel
theorem dX1_init_29 : dcd cX1_init 29 (.iconst 0) 1 30 := by decide +kernel
theorem dX1_init_30 : dcd cX1_init 30 (.istore_n 2) 1 31 := by decide +kernel
theorem dX1_init_31 : dcd cX1_init 31 (.iload_n 2) 1 32 := by decide +kernel
theorem dX1_init_32 : dcd cX1_init 32 (.bipush 24) 2 34 := by decide +kernel
theorem dX1_init_34 : dcb cX1_init 34 (.if_icmp .ge (22)) (22) 56 37 := by decide +kernel
theorem dX1_init_37 : dcd cX1_init 37 (.aload_n 0) 1 38 := by decide +kernel
theorem dX1_init_38 : dcd cX1_init 38 (.getfield 11) 3 41 := by decide +kernel
theorem dX1_init_41 : dcd cX1_init 41 (.iload_n 2) 1 42 := by decide +kernel
theorem dX1_init_42 : dcd cX1_init 42 (.new 9) 3 45 := by decide +kernel
theorem dX1_init_45 : dcd cX1_init 45 (.dup) 1 46 := by decide +kernel
theorem dX1_init_46 : dcd cX1_init 46 (.invokespecial 17) 3 49 := by decide +kernel
theorem dX1_init_49 : dcd cX1_init 49 (.aastore) 1 50 := by decide +kernel
theorem dX1_init_50 : dcd cX1_init 50 (.iinc 2 1) 3 53 := by decide +kernel
theorem dX1_init_53 : dcb cX1_init 53 (.goto (-22)) (-22) 31 56 := by decide +kernel
theorem dX1_init_56 : dcd cX1_init 56 (.aload_n 0) 1 57 := by decide +kernel
theorem dX1_init_57 : dcd cX1_init 57 (.invokevirtual 26) 3 60 := by decide +kernel
theorem dX1_init_60 : decode cX1_init 60 = .ok (.return_, 1) := by decide +kernel
theorem dX1_startAnew_0 : dcd cX1_startAnew 0 (.aload_n 0) 1 1 := by decide +kernel
theorem dX1_startAnew_1 : dcd cX1_startAnew 1 (.getfield 11) 3 4 := by decide +kernel
theorem dX1_startAnew_4 : dcd cX1_startAnew 4 (.iconst 0) 1 5 := by decide +kernel
theorem dX1_startAnew_5 : dcd cX1_startAnew 5 (.aaload) 1 6 := by decide +kernel
theorem dX1_startAnew_6 : dcd cX1_startAnew 6 (.aload_n 0) 1 7 := by decide +kernel
theorem dX1_startAnew_7 : dcd cX1_startAnew 7 (.getfield 22) 3 10 := by decide +kernel
theorem dX1_startAnew_10 : dcd cX1_startAnew 10 (.invokevirtual 29) 3 13 := by decide +kernel
theorem dX1_startAnew_13 : dcd cX1_startAnew 13 (.aload_n 0) 1 14 := by decide +kernel
theorem dX1_startAnew_14 : dcd cX1_startAnew 14 (.iconst 1) 1 15 := by decide +kernel
theorem dX1_startAnew_15 : dcd cX1_startAnew 15 (.putfield 33) 3 18 := by decide +kernel
theorem dX1_startAnew_18 : dcd cX1_startAnew 18 (.aload_n 0) 1 19 := by decide +kernel
theorem dX1_startAnew_19 : dcd cX1_startAnew 19 (.iconst 0) 1 20 := by decide +kernel
theorem dX1_startAnew_20 : dcd cX1_startAnew 20 (.putfield 37) 3 23 := by decide +kernel
theorem dX1_startAnew_23 : decode cX1_startAnew 23 = .ok (.return_, 1) := by decide +kernel
theorem dX1_become_0 : dcd cX1_become 0 (.aload_n 0) 1 1 := by decide +kernel
theorem dX1_become_1 : dcd cX1_become 1 (.aload_n 1) 1 2 := by decide +kernel
theorem dX1_become_2 : dcd cX1_become 2 (.getfield 33) 3 5 := by decide +kernel
theorem dX1_become_5 : dcd cX1_become 5 (.putfield 33) 3 8 := by decide +kernel
theorem dX1_become_8 : dcd cX1_become 8 (.aload_n 0) 1 9 := by decide +kernel
theorem dX1_become_9 : dcd cX1_become 9 (.aload_n 1) 1 10 := by decide +kernel
theorem dX1_become_10 : dcd cX1_become 10 (.getfield 37) 3 13 := by decide +kernel
theorem dX1_become_13 : dcd cX1_become 13 (.putfield 37) 3 16 := by decide +kernel
theorem dX1_become_16 : dcd cX1_become 16 (.iconst 0) 1 17 := by decide +kernel
theorem dX1_become_17 : dcd cX1_become 17 (.istore_n 2) 1 18 := by decide +kernel
theorem dX1_become_18 : dcd cX1_become 18 (.iload_n 2) 1 19 := by decide +kernel
theorem dX1_become_19 : dcd cX1_become 19 (.aload_n 0) 1 20 := by decide +kernel
theorem dX1_become_20 : dcd cX1_become 20 (.getfield 33) 3 23 := by decide +kernel
theorem dX1_become_23 : dcb cX1_become 23 (.if_icmp .ge (24)) (24) 47 26 := by decide +kernel
theorem dX1_become_26 : dcd cX1_become 26 (.aload_n 0) 1 27 := by decide +kernel
theorem dX1_become_27 : dcd cX1_become 27 (.getfield 11) 3 30 := by decide +kernel
theorem dX1_become_30 : dcd cX1_become 30 (.iload_n 2) 1 31 := by decide +kernel
theorem dX1_become_31 : dcd cX1_become 31 (.aaload) 1 32 := by decide +kernel
theorem dX1_become_32 : dcd cX1_become 32 (.aload_n 1) 1 33 := by decide +kernel
theorem dX1_become_33 : dcd cX1_become 33 (.getfield 11) 3 36 := by decide +kernel
theorem dX1_become_36 : dcd cX1_become 36 (.iload_n 2) 1 37 := by decide +kernel
theorem dX1_become_37 : dcd cX1_become 37 (.aaload) 1 38 := by decide +kernel
theorem dX1_become_38 : dcd cX1_become 38 (.invokevirtual 40) 3 41 := by decide +kernel
theorem dX1_become_41 : dcd cX1_become 41 (.iinc 2 1) 3 44 := by decide +kernel
theorem dX1_become_44 : dcb cX1_become 44 (.goto (-26)) (-26) 18 47 := by decide +kernel
theorem dX1_become_47 : decode cX1_become 47 = .ok (.return_, 1) := by decide +kernel
theorem dX1_knows_0 : dcd cX1_knows 0 (.iload_n 1) 1 1 := by decide +kernel
theorem dX1_knows_1 : dcb cX1_knows 1 (.ifCond .lt (15)) (15) 16 4 := by decide +kernel
theorem dX1_knows_4 : dcd cX1_knows 4 (.iload_n 1) 1 5 := by decide +kernel
theorem dX1_knows_5 : dcd cX1_knows 5 (.aload_n 0) 1 6 := by decide +kernel
theorem dX1_knows_6 : dcd cX1_knows 6 (.getfield 33) 3 9 := by decide +kernel
theorem dX1_knows_9 : dcb cX1_knows 9 (.if_icmp .ge (7)) (7) 16 12 := by decide +kernel
theorem dX1_knows_12 : dcd cX1_knows 12 (.iconst 1) 1 13 := by decide +kernel
theorem dX1_knows_13 : dcb cX1_knows 13 (.goto (4)) (4) 17 16 := by decide +kernel
theorem dX1_knows_16 : dcd cX1_knows 16 (.iconst 0) 1 17 := by decide +kernel
theorem dX1_knows_17 : decode cX1_knows 17 = .ok (.ireturn, 1) := by decide +kernel
theorem dX1_stillHas_0 : dcd cX1_stillHas 0 (.aload_n 0) 1 1 := by decide +kernel
theorem dX1_stillHas_1 : dcd cX1_stillHas 1 (.iload_n 1) 1 2 := by decide +kernel
theorem dX1_stillHas_2 : dcd cX1_stillHas 2 (.invokevirtual 44) 3 5 := by decide +kernel
theorem dX1_stillHas_5 : dcb cX1_stillHas 5 (.ifCond .eq (19)) (19) 24 8 := by decide +kernel
theorem dX1_stillHas_8 : dcd cX1_stillHas 8 (.aload_n 0) 1 9 := by decide +kernel
theorem dX1_stillHas_9 : dcd cX1_stillHas 9 (.getfield 11) 3 12 := by decide +kernel
theorem dX1_stillHas_12 : dcd cX1_stillHas 12 (.iload_n 1) 1 13 := by decide +kernel
theorem dX1_stillHas_13 : dcd cX1_stillHas 13 (.aaload) 1 14 := by decide +kernel
theorem dX1_stillHas_14 : dcd cX1_stillHas 14 (.getfield 48) 3 17 := by decide +kernel
theorem dX1_stillHas_17 : dcb cX1_stillHas 17 (.ifCond .ne (7)) (7) 24 20 := by decide +kernel
theorem dX1_stillHas_20 : dcd cX1_stillHas 20 (.iconst 1) 1 21 := by decide +kernel
theorem dX1_stillHas_21 : dcb cX1_stillHas 21 (.goto (4)) (4) 25 24 := by decide +kernel
theorem dX1_stillHas_24 : dcd cX1_stillHas 24 (.iconst 0) 1 25 := by decide +kernel
theorem dX1_stillHas_25 : decode cX1_stillHas 25 = .ok (.ireturn, 1) := by decide +kernel
theorem dX1_standing_0 : dcd cX1_standing 0 (.iconst 0) 1 1 := by decide +kernel
theorem dX1_standing_1 : dcd cX1_standing 1 (.istore_n 1) 1 2 := by decide +kernel
theorem dX1_standing_2 : dcd cX1_standing 2 (.iconst 0) 1 3 := by decide +kernel
theorem dX1_standing_3 : dcd cX1_standing 3 (.istore_n 2) 1 4 := by decide +kernel
theorem dX1_standing_4 : dcd cX1_standing 4 (.iload_n 2) 1 5 := by decide +kernel
theorem dX1_standing_5 : dcd cX1_standing 5 (.aload_n 0) 1 6 := by decide +kernel
theorem dX1_standing_6 : dcd cX1_standing 6 (.getfield 33) 3 9 := by decide +kernel
theorem dX1_standing_9 : dcb cX1_standing 9 (.if_icmp .ge (29)) (29) 38 12 := by decide +kernel
theorem dX1_standing_12 : dcd cX1_standing 12 (.iload_n 1) 1 13 := by decide +kernel
theorem dX1_standing_13 : dcd cX1_standing 13 (.aload_n 0) 1 14 := by decide +kernel
theorem dX1_standing_14 : dcd cX1_standing 14 (.getfield 11) 3 17 := by decide +kernel
theorem dX1_standing_17 : dcd cX1_standing 17 (.iload_n 2) 1 18 := by decide +kernel
theorem dX1_standing_18 : dcd cX1_standing 18 (.aaload) 1 19 := by decide +kernel
theorem dX1_standing_19 : dcd cX1_standing 19 (.getfield 48) 3 22 := by decide +kernel
theorem dX1_standing_22 : dcb cX1_standing 22 (.ifCond .ne (7)) (7) 29 25 := by decide +kernel
theorem dX1_standing_25 : dcd cX1_standing 25 (.iconst 1) 1 26 := by decide +kernel
theorem dX1_standing_26 : dcb cX1_standing 26 (.goto (4)) (4) 30 29 := by decide +kernel
theorem dX1_standing_29 : dcd cX1_standing 29 (.iconst 0) 1 30 := by decide +kernel
theorem dX1_standing_30 : dcd cX1_standing 30 (.iadd) 1 31 := by decide +kernel
theorem dX1_standing_31 : dcd cX1_standing 31 (.istore_n 1) 1 32 := by decide +kernel
theorem dX1_standing_32 : dcd cX1_standing 32 (.iinc 2 1) 3 35 := by decide +kernel
theorem dX1_standing_35 : dcb cX1_standing 35 (.goto (-31)) (-31) 4 38 := by decide +kernel
theorem dX1_standing_38 : dcd cX1_standing 38 (.iload_n 1) 1 39 := by decide +kernel
theorem dX1_standing_39 : decode cX1_standing 39 = .ok (.ireturn, 1) := by decide +kernel
theorem dX1_divide_0 : dcd cX1_divide 0 (.aload_n 0) 1 1 := by decide +kernel
theorem dX1_divide_1 : dcd cX1_divide 1 (.getfield 33) 3 4 := by decide +kernel
theorem dX1_divide_4 : dcd cX1_divide 4 (.bipush 24) 2 6 := by decide +kernel
theorem dX1_divide_6 : dcb cX1_divide 6 (.if_icmp .lt (6)) (6) 12 9 := by decide +kernel
theorem dX1_divide_9 : dcd cX1_divide 9 (.bipush (-4)) 2 11 := by decide +kernel
theorem dX1_divide_11 : decode cX1_divide 11 = .ok (.ireturn, 1) := by decide +kernel
theorem dX1_divide_12 : dcd cX1_divide 12 (.aload_n 0) 1 13 := by decide +kernel
theorem dX1_divide_13 : dcd cX1_divide 13 (.getfield 11) 3 16 := by decide +kernel
theorem dX1_divide_16 : dcd cX1_divide 16 (.iload_n 1) 1 17 := by decide +kernel
theorem dX1_divide_17 : dcd cX1_divide 17 (.aaload) 1 18 := by decide +kernel
theorem dX1_divide_18 : dcd cX1_divide 18 (.aload_n 0) 1 19 := by decide +kernel
theorem dX1_divide_19 : dcd cX1_divide 19 (.getfield 22) 3 22 := by decide +kernel
theorem dX1_divide_22 : dcd cX1_divide 22 (.iload_n 2) 1 23 := by decide +kernel
theorem dX1_divide_23 : dcd cX1_divide 23 (.iload_n 3) 1 24 := by decide +kernel
theorem dX1_divide_24 : dcd cX1_divide 24 (.aload_n 0) 1 25 := by decide +kernel
theorem dX1_divide_25 : dcd cX1_divide 25 (.getfield 18) 3 28 := by decide +kernel
theorem dX1_divide_28 : dcd cX1_divide 28 (.aload_n 0) 1 29 := by decide +kernel
theorem dX1_divide_29 : dcd cX1_divide 29 (.getfield 11) 3 32 := by decide +kernel
theorem dX1_divide_32 : dcd cX1_divide 32 (.aload_n 0) 1 33 := by decide +kernel
theorem dX1_divide_33 : dcd cX1_divide 33 (.getfield 33) 3 36 := by decide +kernel
theorem dX1_divide_36 : dcd cX1_divide 36 (.aaload) 1 37 := by decide +kernel
theorem dX1_divide_37 : dcd cX1_divide 37 (.invokevirtual 51) 3 40 := by decide +kernel
theorem dX1_divide_40 : dcd cX1_divide 40 (.aload_n 0) 1 41 := by decide +kernel
theorem dX1_divide_41 : dcd cX1_divide 41 (.getfield 11) 3 44 := by decide +kernel
theorem dX1_divide_44 : dcd cX1_divide 44 (.iload_n 1) 1 45 := by decide +kernel
theorem dX1_divide_45 : dcd cX1_divide 45 (.aaload) 1 46 := by decide +kernel
theorem dX1_divide_46 : dcd cX1_divide 46 (.aload_n 0) 1 47 := by decide +kernel
theorem dX1_divide_47 : dcd cX1_divide 47 (.getfield 18) 3 50 := by decide +kernel
theorem dX1_divide_50 : dcd cX1_divide 50 (.invokevirtual 40) 3 53 := by decide +kernel
theorem dX1_divide_53 : dcd cX1_divide 53 (.aload_n 0) 1 54 := by decide +kernel
theorem dX1_divide_54 : dcd cX1_divide 54 (.dup) 1 55 := by decide +kernel
theorem dX1_divide_55 : dcd cX1_divide 55 (.getfield 33) 3 58 := by decide +kernel
theorem dX1_divide_58 : dcd cX1_divide 58 (.iconst 1) 1 59 := by decide +kernel
theorem dX1_divide_59 : dcd cX1_divide 59 (.iadd) 1 60 := by decide +kernel
theorem dX1_divide_60 : dcd cX1_divide 60 (.putfield 33) 3 63 := by decide +kernel
theorem dX1_divide_63 : dcd cX1_divide 63 (.aload_n 0) 1 64 := by decide +kernel
theorem dX1_divide_64 : dcd cX1_divide 64 (.getfield 33) 3 67 := by decide +kernel
theorem dX1_divide_67 : dcd cX1_divide 67 (.iconst 1) 1 68 := by decide +kernel
theorem dX1_divide_68 : dcd cX1_divide 68 (.isub) 1 69 := by decide +kernel
theorem dX1_divide_69 : decode cX1_divide 69 = .ok (.ireturn, 1) := by decide +kernel
theorem dX1_goBy_0 : dcd cX1_goBy 0 (.aload_n 0) 1 1 := by decide +kernel
theorem dX1_goBy_1 : dcd cX1_goBy 1 (.dup) 1 2 := by decide +kernel
theorem dX1_goBy_2 : dcd cX1_goBy 2 (.getfield 37) 3 5 := by decide +kernel
theorem dX1_goBy_5 : dcd cX1_goBy 5 (.iload_n 1) 1 6 := by decide +kernel
theorem dX1_goBy_6 : dcd cX1_goBy 6 (.iadd) 1 7 := by decide +kernel
theorem dX1_goBy_7 : dcd cX1_goBy 7 (.putfield 37) 3 10 := by decide +kernel
theorem dX1_goBy_10 : dcd cX1_goBy 10 (.iconst 0) 1 11 := by decide +kernel
theorem dX1_goBy_11 : dcd cX1_goBy 11 (.istore_n 2) 1 12 := by decide +kernel
theorem dX1_goBy_12 : dcd cX1_goBy 12 (.iload_n 2) 1 13 := by decide +kernel
theorem dX1_goBy_13 : dcd cX1_goBy 13 (.aload_n 0) 1 14 := by decide +kernel
theorem dX1_goBy_14 : dcd cX1_goBy 14 (.getfield 33) 3 17 := by decide +kernel
theorem dX1_goBy_17 : dcb cX1_goBy 17 (.if_icmp .ge (35)) (35) 52 20 := by decide +kernel
theorem dX1_goBy_20 : dcd cX1_goBy 20 (.aload_n 0) 1 21 := by decide +kernel
theorem dX1_goBy_21 : dcd cX1_goBy 21 (.getfield 11) 3 24 := by decide +kernel
theorem dX1_goBy_24 : dcd cX1_goBy 24 (.iload_n 2) 1 25 := by decide +kernel
theorem dX1_goBy_25 : dcd cX1_goBy 25 (.aaload) 1 26 := by decide +kernel
theorem dX1_goBy_26 : dcd cX1_goBy 26 (.getfield 48) 3 29 := by decide +kernel
theorem dX1_goBy_29 : dcb cX1_goBy 29 (.ifCond .ne (17)) (17) 46 32 := by decide +kernel
theorem dX1_goBy_32 : dcd cX1_goBy 32 (.aload_n 0) 1 33 := by decide +kernel
theorem dX1_goBy_33 : dcd cX1_goBy 33 (.getfield 11) 3 36 := by decide +kernel
theorem dX1_goBy_36 : dcd cX1_goBy 36 (.iload_n 2) 1 37 := by decide +kernel
theorem dX1_goBy_37 : dcd cX1_goBy 37 (.aaload) 1 38 := by decide +kernel
theorem dX1_goBy_38 : dcd cX1_goBy 38 (.aload_n 0) 1 39 := by decide +kernel
theorem dX1_goBy_39 : dcd cX1_goBy 39 (.getfield 22) 3 42 := by decide +kernel
theorem dX1_goBy_42 : dcd cX1_goBy 42 (.iload_n 1) 1 43 := by decide +kernel
theorem dX1_goBy_43 : dcd cX1_goBy 43 (.invokevirtual 55) 3 46 := by decide +kernel
theorem dX1_goBy_46 : dcd cX1_goBy 46 (.iinc 2 1) 3 49 := by decide +kernel
theorem dX1_goBy_49 : dcb cX1_goBy 49 (.goto (-37)) (-37) 12 52 := by decide +kernel
theorem dX1_goBy_52 : decode cX1_goBy 52 = .ok (.return_, 1) := by decide +kernel
theorem dX1_ripestPiece_0 : dcd cX1_ripestPiece 0 (.bipush (-9)) 2 2 := by decide +kernel
theorem dX1_ripestPiece_2 : dcd cX1_ripestPiece 2 (.istore_n 2) 1 3 := by decide +kernel
theorem dX1_ripestPiece_3 : dcd cX1_ripestPiece 3 (.iconst 0) 1 4 := by decide +kernel
theorem dX1_ripestPiece_4 : dcd cX1_ripestPiece 4 (.istore_n 3) 1 5 := by decide +kernel
theorem dX1_ripestPiece_5 : dcd cX1_ripestPiece 5 (.iconst 1) 1 6 := by decide +kernel
theorem dX1_ripestPiece_6 : dcd cX1_ripestPiece 6 (.istore 4) 2 8 := by decide +kernel
theorem dX1_ripestPiece_8 : dcd cX1_ripestPiece 8 (.iconst 0) 1 9 := by decide +kernel
theorem dX1_ripestPiece_9 : dcd cX1_ripestPiece 9 (.istore 5) 2 11 := by decide +kernel
theorem dX1_ripestPiece_11 : dcd cX1_ripestPiece 11 (.iload 5) 2 13 := by decide +kernel
theorem dX1_ripestPiece_13 : dcd cX1_ripestPiece 13 (.aload_n 0) 1 14 := by decide +kernel
theorem dX1_ripestPiece_14 : dcd cX1_ripestPiece 14 (.getfield 33) 3 17 := by decide +kernel
theorem dX1_ripestPiece_17 : dcb cX1_ripestPiece 17 (.if_icmp .ge (87)) (87) 104 20 := by decide +kernel
theorem dX1_ripestPiece_20 : dcd cX1_ripestPiece 20 (.aload_n 0) 1 21 := by decide +kernel
theorem dX1_ripestPiece_21 : dcd cX1_ripestPiece 21 (.getfield 11) 3 24 := by decide +kernel
theorem dX1_ripestPiece_24 : dcd cX1_ripestPiece 24 (.iload 5) 2 26 := by decide +kernel
theorem dX1_ripestPiece_26 : dcd cX1_ripestPiece 26 (.aaload) 1 27 := by decide +kernel
theorem dX1_ripestPiece_27 : dcd cX1_ripestPiece 27 (.getfield 48) 3 30 := by decide +kernel
theorem dX1_ripestPiece_30 : dcb cX1_ripestPiece 30 (.ifCond .ne (68)) (68) 98 33 := by decide +kernel
theorem dX1_ripestPiece_33 : dcd cX1_ripestPiece 33 (.aload_n 0) 1 34 := by decide +kernel
theorem dX1_ripestPiece_34 : dcd cX1_ripestPiece 34 (.getfield 11) 3 37 := by decide +kernel
theorem dX1_ripestPiece_37 : dcd cX1_ripestPiece 37 (.iload 5) 2 39 := by decide +kernel
theorem dX1_ripestPiece_39 : dcd cX1_ripestPiece 39 (.aaload) 1 40 := by decide +kernel
theorem dX1_ripestPiece_40 : dcd cX1_ripestPiece 40 (.aload_n 0) 1 41 := by decide +kernel
theorem dX1_ripestPiece_41 : dcd cX1_ripestPiece 41 (.getfield 22) 3 44 := by decide +kernel
theorem dX1_ripestPiece_44 : dcd cX1_ripestPiece 44 (.iload_n 1) 1 45 := by decide +kernel
theorem dX1_ripestPiece_45 : dcd cX1_ripestPiece 45 (.invokevirtual 59) 3 48 := by decide +kernel
theorem dX1_ripestPiece_48 : dcd cX1_ripestPiece 48 (.istore 6) 2 50 := by decide +kernel
theorem dX1_ripestPiece_50 : dcd cX1_ripestPiece 50 (.iconst 1) 1 51 := by decide +kernel
theorem dX1_ripestPiece_51 : dcd cX1_ripestPiece 51 (.aload_n 0) 1 52 := by decide +kernel
theorem dX1_ripestPiece_52 : dcd cX1_ripestPiece 52 (.getfield 11) 3 55 := by decide +kernel
theorem dX1_ripestPiece_55 : dcd cX1_ripestPiece 55 (.iload 5) 2 57 := by decide +kernel
theorem dX1_ripestPiece_57 : dcd cX1_ripestPiece 57 (.aaload) 1 58 := by decide +kernel
theorem dX1_ripestPiece_58 : dcd cX1_ripestPiece 58 (.aload_n 0) 1 59 := by decide +kernel
theorem dX1_ripestPiece_59 : dcd cX1_ripestPiece 59 (.getfield 22) 3 62 := by decide +kernel
theorem dX1_ripestPiece_62 : dcd cX1_ripestPiece 62 (.invokevirtual 63) 3 65 := by decide +kernel
theorem dX1_ripestPiece_65 : dcd cX1_ripestPiece 65 (.invokestatic 67) 3 68 := by decide +kernel
theorem dX1_ripestPiece_68 : dcd cX1_ripestPiece 68 (.istore 7) 2 70 := by decide +kernel
theorem dX1_ripestPiece_70 : dcd cX1_ripestPiece 70 (.iload_n 2) 1 71 := by decide +kernel
theorem dX1_ripestPiece_71 : dcd cX1_ripestPiece 71 (.bipush (-9)) 2 73 := by decide +kernel
theorem dX1_ripestPiece_73 : dcb cX1_ripestPiece 73 (.if_icmp .eq (15)) (15) 88 76 := by decide +kernel
theorem dX1_ripestPiece_76 : dcd cX1_ripestPiece 76 (.iload 6) 2 78 := by decide +kernel
theorem dX1_ripestPiece_78 : dcd cX1_ripestPiece 78 (.iload 4) 2 80 := by decide +kernel
theorem dX1_ripestPiece_80 : dcd cX1_ripestPiece 80 (.imul) 1 81 := by decide +kernel
theorem dX1_ripestPiece_81 : dcd cX1_ripestPiece 81 (.iload_n 3) 1 82 := by decide +kernel
theorem dX1_ripestPiece_82 : dcd cX1_ripestPiece 82 (.iload 7) 2 84 := by decide +kernel
theorem dX1_ripestPiece_84 : dcd cX1_ripestPiece 84 (.imul) 1 85 := by decide +kernel
theorem dX1_ripestPiece_85 : dcb cX1_ripestPiece 85 (.if_icmp .le (13)) (13) 98 88 := by decide +kernel
theorem dX1_ripestPiece_88 : dcd cX1_ripestPiece 88 (.iload 5) 2 90 := by decide +kernel
theorem dX1_ripestPiece_90 : dcd cX1_ripestPiece 90 (.istore_n 2) 1 91 := by decide +kernel
theorem dX1_ripestPiece_91 : dcd cX1_ripestPiece 91 (.iload 6) 2 93 := by decide +kernel
theorem dX1_ripestPiece_93 : dcd cX1_ripestPiece 93 (.istore_n 3) 1 94 := by decide +kernel
theorem dX1_ripestPiece_94 : dcd cX1_ripestPiece 94 (.iload 7) 2 96 := by decide +kernel
theorem dX1_ripestPiece_96 : dcd cX1_ripestPiece 96 (.istore 4) 2 98 := by decide +kernel
theorem dX1_ripestPiece_98 : dcd cX1_ripestPiece 98 (.iinc 5 1) 3 101 := by decide +kernel
theorem dX1_ripestPiece_101 : dcb cX1_ripestPiece 101 (.goto (-90)) (-90) 11 104 := by decide +kernel
theorem dX1_ripestPiece_104 : dcd cX1_ripestPiece 104 (.iload_n 2) 1 105 := by decide +kernel
theorem dX1_ripestPiece_105 : decode cX1_ripestPiece 105 = .ok (.ireturn, 1) := by decide +kernel
theorem dX2_init_0 : dcd cX2_init 0 (.aload_n 0) 1 1 := by decide +kernel
theorem dX2_init_1 : dcd cX2_init 1 (.invokespecial 3) 3 4 := by decide +kernel
theorem dX2_init_4 : dcd cX2_init 4 (.aload_n 0) 1 5 := by decide +kernel
theorem dX2_init_5 : dcd cX2_init 5 (.bipush 16) 2 7 := by decide +kernel
theorem dX2_init_7 : dcd cX2_init 7 (.newarray .int) 2 9 := by decide +kernel
theorem dX2_init_9 : dcd cX2_init 9 (.putfield 9) 3 12 := by decide +kernel
theorem dX2_init_12 : dcd cX2_init 12 (.aload_n 0) 1 13 := by decide +kernel
theorem dX2_init_13 : dcd cX2_init 13 (.bipush 10) 2 15 := by decide +kernel
theorem dX2_init_15 : dcd cX2_init 15 (.newarray .int) 2 17 := by decide +kernel
theorem dX2_init_17 : dcd cX2_init 17 (.putfield 15) 3 20 := by decide +kernel
theorem dX2_init_20 : dcd cX2_init 20 (.aload_n 0) 1 21 := by decide +kernel
theorem dX2_init_21 : dcd cX2_init 21 (.bipush 10) 2 23 := by decide +kernel
theorem dX2_init_23 : dcd cX2_init 23 (.newarray .int) 2 25 := by decide +kernel
theorem dX2_init_25 : dcd cX2_init 25 (.putfield 18) 3 28 := by decide +kernel
theorem dX2_init_28 : decode cX2_init 28 = .ok (.return_, 1) := by decide +kernel
theorem dX2_enter_0 : dcd cX2_enter 0 (.aload_n 0) 1 1 := by decide +kernel
theorem dX2_enter_1 : dcd cX2_enter 1 (.getfield 21) 3 4 := by decide +kernel
theorem dX2_enter_4 : dcd cX2_enter 4 (.bipush 16) 2 6 := by decide +kernel
theorem dX2_enter_6 : dcb cX2_enter 6 (.if_icmp .ge (23)) (23) 29 9 := by decide +kernel
theorem dX2_enter_9 : dcd cX2_enter 9 (.aload_n 0) 1 10 := by decide +kernel
theorem dX2_enter_10 : dcd cX2_enter 10 (.getfield 9) 3 13 := by decide +kernel
theorem dX2_enter_13 : dcd cX2_enter 13 (.aload_n 0) 1 14 := by decide +kernel
theorem dX2_enter_14 : dcd cX2_enter 14 (.getfield 21) 3 17 := by decide +kernel
theorem dX2_enter_17 : dcd cX2_enter 17 (.iload_n 1) 1 18 := by decide +kernel
theorem dX2_enter_18 : dcd cX2_enter 18 (.iastore) 1 19 := by decide +kernel
theorem dX2_enter_19 : dcd cX2_enter 19 (.aload_n 0) 1 20 := by decide +kernel
theorem dX2_enter_20 : dcd cX2_enter 20 (.dup) 1 21 := by decide +kernel
theorem dX2_enter_21 : dcd cX2_enter 21 (.getfield 21) 3 24 := by decide +kernel
theorem dX2_enter_24 : dcd cX2_enter 24 (.iconst 1) 1 25 := by decide +kernel
theorem dX2_enter_25 : dcd cX2_enter 25 (.iadd) 1 26 := by decide +kernel
theorem dX2_enter_26 : dcd cX2_enter 26 (.putfield 21) 3 29 := by decide +kernel
theorem dX2_enter_29 : decode cX2_enter 29 = .ok (.return_, 1) := by decide +kernel
theorem dX2_earnings_0 : dcd cX2_earnings 0 (.iconst 0) 1 1 := by decide +kernel
theorem dX2_earnings_1 : dcd cX2_earnings 1 (.istore_n 2) 1 2 := by decide +kernel
theorem dX2_earnings_2 : dcd cX2_earnings 2 (.iconst 0) 1 3 := by decide +kernel
theorem dX2_earnings_3 : dcd cX2_earnings 3 (.istore_n 3) 1 4 := by decide +kernel
theorem dX2_earnings_4 : dcd cX2_earnings 4 (.iload_n 3) 1 5 := by decide +kernel
theorem dX2_earnings_5 : dcd cX2_earnings 5 (.aload_n 0) 1 6 := by decide +kernel
theorem dX2_earnings_6 : dcd cX2_earnings 6 (.getfield 21) 3 9 := by decide +kernel
theorem dX2_earnings_9 : dcb cX2_earnings 9 (.if_icmp .ge (28)) (28) 37 12 := by decide +kernel
theorem dX2_earnings_12 : dcd cX2_earnings 12 (.iload_n 2) 1 13 := by decide +kernel
theorem dX2_earnings_13 : dcd cX2_earnings 13 (.iload_n 1) 1 14 := by decide +kernel
theorem dX2_earnings_14 : dcd cX2_earnings 14 (.aload_n 0) 1 15 := by decide +kernel
theorem dX2_earnings_15 : dcd cX2_earnings 15 (.getfield 9) 3 18 := by decide +kernel
theorem dX2_earnings_18 : dcd cX2_earnings 18 (.iload_n 3) 1 19 := by decide +kernel
theorem dX2_earnings_19 : dcd cX2_earnings 19 (.iaload) 1 20 := by decide +kernel
theorem dX2_earnings_20 : dcb cX2_earnings 20 (.if_icmp .gt (7)) (7) 27 23 := by decide +kernel
theorem dX2_earnings_23 : dcd cX2_earnings 23 (.iload_n 1) 1 24 := by decide +kernel
theorem dX2_earnings_24 : dcb cX2_earnings 24 (.goto (5)) (5) 29 27 := by decide +kernel
theorem dX2_earnings_27 : dcd cX2_earnings 27 (.bipush (-12)) 2 29 := by decide +kernel
theorem dX2_earnings_29 : dcd cX2_earnings 29 (.iadd) 1 30 := by decide +kernel
theorem dX2_earnings_30 : dcd cX2_earnings 30 (.istore_n 2) 1 31 := by decide +kernel
theorem dX2_earnings_31 : dcd cX2_earnings 31 (.iinc 3 1) 3 34 := by decide +kernel
theorem dX2_earnings_34 : dcb cX2_earnings 34 (.goto (-30)) (-30) 4 37 := by decide +kernel
theorem dX2_earnings_37 : dcd cX2_earnings 37 (.iload_n 2) 1 38 := by decide +kernel
theorem dX2_earnings_38 : decode cX2_earnings 38 = .ok (.ireturn, 1) := by decide +kernel
theorem dX2_dearestOver_0 : dcd cX2_dearestOver 0 (.iconst 0) 1 1 := by decide +kernel
theorem dX2_dearestOver_1 : dcd cX2_dearestOver 1 (.istore_n 1) 1 2 := by decide +kernel
theorem dX2_dearestOver_2 : dcd cX2_dearestOver 2 (.aload_n 0) 1 3 := by decide +kernel
theorem dX2_dearestOver_3 : dcd cX2_dearestOver 3 (.iconst 0) 1 4 := by decide +kernel
theorem dX2_dearestOver_4 : dcd cX2_dearestOver 4 (.invokevirtual 25) 3 7 := by decide +kernel
theorem dX2_dearestOver_7 : dcd cX2_dearestOver 7 (.istore_n 2) 1 8 := by decide +kernel
theorem dX2_dearestOver_8 : dcd cX2_dearestOver 8 (.iconst 1) 1 9 := by decide +kernel
theorem dX2_dearestOver_9 : dcd cX2_dearestOver 9 (.istore_n 3) 1 10 := by decide +kernel
theorem dX2_dearestOver_10 : dcd cX2_dearestOver 10 (.iload_n 3) 1 11 := by decide +kernel
theorem dX2_dearestOver_11 : dcd cX2_dearestOver 11 (.bipush 99) 2 13 := by decide +kernel
theorem dX2_dearestOver_13 : dcb cX2_dearestOver 13 (.if_icmp .gt (27)) (27) 40 16 := by decide +kernel
theorem dX2_dearestOver_16 : dcd cX2_dearestOver 16 (.aload_n 0) 1 17 := by decide +kernel
theorem dX2_dearestOver_17 : dcd cX2_dearestOver 17 (.iload_n 3) 1 18 := by decide +kernel
theorem dX2_dearestOver_18 : dcd cX2_dearestOver 18 (.invokevirtual 25) 3 21 := by decide +kernel
theorem dX2_dearestOver_21 : dcd cX2_dearestOver 21 (.istore 4) 2 23 := by decide +kernel
theorem dX2_dearestOver_23 : dcd cX2_dearestOver 23 (.iload 4) 2 25 := by decide +kernel
theorem dX2_dearestOver_25 : dcd cX2_dearestOver 25 (.iload_n 2) 1 26 := by decide +kernel
theorem dX2_dearestOver_26 : dcb cX2_dearestOver 26 (.if_icmp .le (8)) (8) 34 29 := by decide +kernel
theorem dX2_dearestOver_29 : dcd cX2_dearestOver 29 (.iload_n 3) 1 30 := by decide +kernel
theorem dX2_dearestOver_30 : dcd cX2_dearestOver 30 (.istore_n 1) 1 31 := by decide +kernel
theorem dX2_dearestOver_31 : dcd cX2_dearestOver 31 (.iload 4) 2 33 := by decide +kernel
theorem dX2_dearestOver_33 : dcd cX2_dearestOver 33 (.istore_n 2) 1 34 := by decide +kernel
theorem dX2_dearestOver_34 : dcd cX2_dearestOver 34 (.iinc 3 1) 3 37 := by decide +kernel
theorem dX2_dearestOver_37 : dcb cX2_dearestOver 37 (.goto (-27)) (-27) 10 40 := by decide +kernel
theorem dX2_dearestOver_40 : dcd cX2_dearestOver 40 (.iload_n 1) 1 41 := by decide +kernel
theorem dX2_dearestOver_41 : decode cX2_dearestOver 41 = .ok (.ireturn, 1) := by decide +kernel
theorem dX2_enterTaste_0 : dcd cX2_enterTaste 0 (.aload_n 0) 1 1 := by decide +kernel
theorem dX2_enterTaste_1 : dcd cX2_enterTaste 1 (.getfield 15) 3 4 := by decide +kernel
theorem dX2_enterTaste_4 : dcd cX2_enterTaste 4 (.iload_n 1) 1 5 := by decide +kernel
theorem dX2_enterTaste_5 : dcd cX2_enterTaste 5 (.dup2) 1 6 := by decide +kernel
theorem dX2_enterTaste_6 : dcd cX2_enterTaste 6 (.iaload) 1 7 := by decide +kernel
theorem dX2_enterTaste_7 : dcd cX2_enterTaste 7 (.iconst 1) 1 8 := by decide +kernel
theorem dX2_enterTaste_8 : dcd cX2_enterTaste 8 (.iadd) 1 9 := by decide +kernel
theorem dX2_enterTaste_9 : dcd cX2_enterTaste 9 (.iastore) 1 10 := by decide +kernel
theorem dX2_enterTaste_10 : dcd cX2_enterTaste 10 (.aload_n 0) 1 11 := by decide +kernel
theorem dX2_enterTaste_11 : dcd cX2_enterTaste 11 (.getfield 18) 3 14 := by decide +kernel
theorem dX2_enterTaste_14 : dcd cX2_enterTaste 14 (.iload_n 1) 1 15 := by decide +kernel
theorem dX2_enterTaste_15 : dcd cX2_enterTaste 15 (.dup2) 1 16 := by decide +kernel
theorem dX2_enterTaste_16 : dcd cX2_enterTaste 16 (.iaload) 1 17 := by decide +kernel
theorem dX2_enterTaste_17 : dcd cX2_enterTaste 17 (.iload_n 2) 1 18 := by decide +kernel
theorem dX2_enterTaste_18 : dcb cX2_enterTaste 18 (.ifCond .eq (7)) (7) 25 21 := by decide +kernel
theorem dX2_enterTaste_21 : dcd cX2_enterTaste 21 (.iconst 1) 1 22 := by decide +kernel
theorem dX2_enterTaste_22 : dcb cX2_enterTaste 22 (.goto (4)) (4) 26 25 := by decide +kernel
theorem dX2_enterTaste_25 : dcd cX2_enterTaste 25 (.iconst 0) 1 26 := by decide +kernel
theorem dX2_enterTaste_26 : dcd cX2_enterTaste 26 (.iadd) 1 27 := by decide +kernel
theorem dX2_enterTaste_27 : dcd cX2_enterTaste 27 (.iastore) 1 28 := by decide +kernel
theorem dX2_enterTaste_28 : decode cX2_enterTaste 28 = .ok (.return_, 1) := by decide +kernel
theorem dX2_gainAbove_0 : dcd cX2_gainAbove 0 (.ldc2_w 29) 3 3 := by decide +kernel
theorem dX2_gainAbove_3 : dcd cX2_gainAbove 3 (.aload_n 0) 1 4 := by decide +kernel
theorem dX2_gainAbove_4 : dcd cX2_gainAbove 4 (.getfield 18) 3 7 := by decide +kernel
theorem dX2_gainAbove_7 : dcd cX2_gainAbove 7 (.iload_n 1) 1 8 := by decide +kernel
theorem dX2_gainAbove_8 : dcd cX2_gainAbove 8 (.iaload) 1 9 := by decide +kernel
theorem dX2_gainAbove_9 : dcd cX2_gainAbove 9 (.i2l) 1 10 := by decide +kernel
theorem dX2_gainAbove_10 : dcd cX2_gainAbove 10 (.lconst 1) 1 11 := by decide +kernel
theorem dX2_gainAbove_11 : dcd cX2_gainAbove 11 (.ladd) 1 12 := by decide +kernel
theorem dX2_gainAbove_12 : dcd cX2_gainAbove 12 (.lmul) 1 13 := by decide +kernel
theorem dX2_gainAbove_13 : dcd cX2_gainAbove 13 (.iload_n 1) 1 14 := by decide +kernel
theorem dX2_gainAbove_14 : dcd cX2_gainAbove 14 (.i2l) 1 15 := by decide +kernel
theorem dX2_gainAbove_15 : dcd cX2_gainAbove 15 (.aload_n 0) 1 16 := by decide +kernel
theorem dX2_gainAbove_16 : dcd cX2_gainAbove 16 (.iload_n 1) 1 17 := by decide +kernel
theorem dX2_gainAbove_17 : dcd cX2_gainAbove 17 (.invokevirtual 31) 3 20 := by decide +kernel
theorem dX2_gainAbove_20 : dcd cX2_gainAbove 20 (.lmul) 1 21 := by decide +kernel
theorem dX2_gainAbove_21 : dcd cX2_gainAbove 21 (.lsub) 1 22 := by decide +kernel
theorem dX2_gainAbove_22 : decode cX2_gainAbove 22 = .ok (.lreturn, 1) := by decide +kernel
theorem dX2_gainBelow_0 : dcd cX2_gainBelow 0 (.aload_n 0) 1 1 := by decide +kernel
theorem dX2_gainBelow_1 : dcd cX2_gainBelow 1 (.getfield 15) 3 4 := by decide +kernel
theorem dX2_gainBelow_4 : dcd cX2_gainBelow 4 (.iload_n 1) 1 5 := by decide +kernel
theorem dX2_gainBelow_5 : dcd cX2_gainBelow 5 (.iaload) 1 6 := by decide +kernel
theorem dX2_gainBelow_6 : dcd cX2_gainBelow 6 (.i2l) 1 7 := by decide +kernel
theorem dX2_gainBelow_7 : dcd cX2_gainBelow 7 (.ldc2_w 35) 3 10 := by decide +kernel
theorem dX2_gainBelow_10 : dcd cX2_gainBelow 10 (.ladd) 1 11 := by decide +kernel
theorem dX2_gainBelow_11 : decode cX2_gainBelow 11 = .ok (.lreturn, 1) := by decide +kernel
theorem dX2_dearestTastes_0 : dcd cX2_dearestTastes 0 (.iconst 0) 1 1 := by decide +kernel
theorem dX2_dearestTastes_1 : dcd cX2_dearestTastes 1 (.istore_n 1) 1 2 := by decide +kernel
theorem dX2_dearestTastes_2 : dcd cX2_dearestTastes 2 (.iconst 1) 1 3 := by decide +kernel
theorem dX2_dearestTastes_3 : dcd cX2_dearestTastes 3 (.istore_n 2) 1 4 := by decide +kernel
theorem dX2_dearestTastes_4 : dcd cX2_dearestTastes 4 (.iload_n 2) 1 5 := by decide +kernel
theorem dX2_dearestTastes_5 : dcd cX2_dearestTastes 5 (.bipush 9) 2 7 := by decide +kernel
theorem dX2_dearestTastes_7 : dcb cX2_dearestTastes 7 (.if_icmp .gt (37)) (37) 44 10 := by decide +kernel
theorem dX2_dearestTastes_10 : dcd cX2_dearestTastes 10 (.aload_n 0) 1 11 := by decide +kernel
theorem dX2_dearestTastes_11 : dcd cX2_dearestTastes 11 (.iload_n 2) 1 12 := by decide +kernel
theorem dX2_dearestTastes_12 : dcd cX2_dearestTastes 12 (.invokevirtual 37) 3 15 := by decide +kernel
theorem dX2_dearestTastes_15 : dcd cX2_dearestTastes 15 (.aload_n 0) 1 16 := by decide +kernel
theorem dX2_dearestTastes_16 : dcd cX2_dearestTastes 16 (.iload_n 1) 1 17 := by decide +kernel
theorem dX2_dearestTastes_17 : dcd cX2_dearestTastes 17 (.invokevirtual 31) 3 20 := by decide +kernel
theorem dX2_dearestTastes_20 : dcd cX2_dearestTastes 20 (.lmul) 1 21 := by decide +kernel
theorem dX2_dearestTastes_21 : dcd cX2_dearestTastes 21 (.aload_n 0) 1 22 := by decide +kernel
theorem dX2_dearestTastes_22 : dcd cX2_dearestTastes 22 (.iload_n 1) 1 23 := by decide +kernel
theorem dX2_dearestTastes_23 : dcd cX2_dearestTastes 23 (.invokevirtual 37) 3 26 := by decide +kernel
theorem dX2_dearestTastes_26 : dcd cX2_dearestTastes 26 (.aload_n 0) 1 27 := by decide +kernel
theorem dX2_dearestTastes_27 : dcd cX2_dearestTastes 27 (.iload_n 2) 1 28 := by decide +kernel
theorem dX2_dearestTastes_28 : dcd cX2_dearestTastes 28 (.invokevirtual 31) 3 31 := by decide +kernel
theorem dX2_dearestTastes_31 : dcd cX2_dearestTastes 31 (.lmul) 1 32 := by decide +kernel
theorem dX2_dearestTastes_32 : dcd cX2_dearestTastes 32 (.lcmp) 1 33 := by decide +kernel
theorem dX2_dearestTastes_33 : dcb cX2_dearestTastes 33 (.ifCond .le (5)) (5) 38 36 := by decide +kernel
theorem dX2_dearestTastes_36 : dcd cX2_dearestTastes 36 (.iload_n 2) 1 37 := by decide +kernel
theorem dX2_dearestTastes_37 : dcd cX2_dearestTastes 37 (.istore_n 1) 1 38 := by decide +kernel
theorem dX2_dearestTastes_38 : dcd cX2_dearestTastes 38 (.iinc 2 1) 3 41 := by decide +kernel
theorem dX2_dearestTastes_41 : dcb cX2_dearestTastes 41 (.goto (-37)) (-37) 4 44 := by decide +kernel
theorem dX2_dearestTastes_44 : dcd cX2_dearestTastes 44 (.iload_n 1) 1 45 := by decide +kernel
theorem dX2_dearestTastes_45 : decode cX2_dearestTastes 45 = .ok (.ireturn, 1) := by decide +kernel
theorem dX3_init_0 : dcd cX3_init 0 (.aload_n 0) 1 1 := by decide +kernel
theorem dX3_init_1 : dcd cX3_init 1 (.aload_n 1) 1 2 := by decide +kernel
theorem dX3_init_2 : dcd cX3_init 2 (.iconst 1) 1 3 := by decide +kernel
theorem dX3_init_3 : dcd cX3_init 3 (.invokespecial 3) 3 6 := by decide +kernel
theorem dX3_init_6 : dcd cX3_init 6 (.aload_n 0) 1 7 := by decide +kernel
theorem dX3_init_7 : dcd cX3_init 7 (.iconst 1) 1 8 := by decide +kernel
theorem dX3_init_8 : dcd cX3_init 8 (.putfield 9) 3 11 := by decide +kernel
theorem dX3_init_11 : decode cX3_init 11 = .ok (.return_, 1) := by decide +kernel
theorem dX3_shortest_0 : dcd cX3_shortest 0 (.aload_n 0) 1 1 := by decide +kernel
theorem dX3_shortest_1 : dcd cX3_shortest 1 (.getfield 15) 3 4 := by decide +kernel
theorem dX3_shortest_4 : dcd cX3_shortest 4 (.iconst 0) 1 5 := by decide +kernel
theorem dX3_shortest_5 : dcd cX3_shortest 5 (.iconst 0) 1 6 := by decide +kernel
theorem dX3_shortest_6 : dcd cX3_shortest 6 (.aload_n 0) 1 7 := by decide +kernel
theorem dX3_shortest_7 : dcd cX3_shortest 7 (.getfield 15) 3 10 := by decide +kernel
theorem dX3_shortest_10 : dcd cX3_shortest 10 (.getfield 19) 3 13 := by decide +kernel
theorem dX3_shortest_13 : dcd cX3_shortest 13 (.aload_n 0) 1 14 := by decide +kernel
theorem dX3_shortest_14 : dcd cX3_shortest 14 (.getfield 15) 3 17 := by decide +kernel
theorem dX3_shortest_17 : dcd cX3_shortest 17 (.getfield 24) 3 20 := by decide +kernel
theorem dX3_shortest_20 : dcd cX3_shortest 20 (.invokevirtual 27) 3 23 := by decide +kernel
theorem dX3_shortest_23 : dcd cX3_shortest 23 (.istore_n 2) 1 24 := by decide +kernel
theorem dX3_shortest_24 : dcd cX3_shortest 24 (.aload_n 0) 1 25 := by decide +kernel
theorem dX3_shortest_25 : dcd cX3_shortest 25 (.getfield 15) 3 28 := by decide +kernel
theorem dX3_shortest_28 : dcd cX3_shortest 28 (.iconst 0) 1 29 := by decide +kernel
theorem dX3_shortest_29 : dcd cX3_shortest 29 (.iconst 0) 1 30 := by decide +kernel
theorem dX3_shortest_30 : dcd cX3_shortest 30 (.aload_n 0) 1 31 := by decide +kernel
theorem dX3_shortest_31 : dcd cX3_shortest 31 (.getfield 15) 3 34 := by decide +kernel
theorem dX3_shortest_34 : dcd cX3_shortest 34 (.getfield 19) 3 37 := by decide +kernel
theorem dX3_shortest_37 : dcd cX3_shortest 37 (.aload_n 0) 1 38 := by decide +kernel
theorem dX3_shortest_38 : dcd cX3_shortest 38 (.getfield 15) 3 41 := by decide +kernel
theorem dX3_shortest_41 : dcd cX3_shortest 41 (.getfield 24) 3 44 := by decide +kernel
theorem dX3_shortest_44 : dcd cX3_shortest 44 (.invokevirtual 31) 3 47 := by decide +kernel
theorem dX3_shortest_47 : dcd cX3_shortest 47 (.istore_n 3) 1 48 := by decide +kernel
theorem dX3_shortest_48 : dcd cX3_shortest 48 (.iload_n 1) 1 49 := by decide +kernel
theorem dX3_shortest_49 : dcd cX3_shortest 49 (.iconst 1) 1 50 := by decide +kernel
theorem dX3_shortest_50 : dcb cX3_shortest 50 (.if_icmp .lt (19)) (19) 69 53 := by decide +kernel
theorem dX3_shortest_53 : dcd cX3_shortest 53 (.iload_n 2) 1 54 := by decide +kernel
theorem dX3_shortest_54 : dcb cX3_shortest 54 (.ifCond .eq (15)) (15) 69 57 := by decide +kernel
theorem dX3_shortest_57 : dcd cX3_shortest 57 (.iload_n 2) 1 58 := by decide +kernel
theorem dX3_shortest_58 : dcd cX3_shortest 58 (.iload_n 1) 1 59 := by decide +kernel
theorem dX3_shortest_59 : dcd cX3_shortest 59 (.irem) 1 60 := by decide +kernel
theorem dX3_shortest_60 : dcb cX3_shortest 60 (.ifCond .ne (9)) (9) 69 63 := by decide +kernel
theorem dX3_shortest_63 : dcd cX3_shortest 63 (.iload_n 3) 1 64 := by decide +kernel
theorem dX3_shortest_64 : dcd cX3_shortest 64 (.iload_n 1) 1 65 := by decide +kernel
theorem dX3_shortest_65 : dcd cX3_shortest 65 (.irem) 1 66 := by decide +kernel
theorem dX3_shortest_66 : dcb cX3_shortest 66 (.ifCond .eq (6)) (6) 72 69 := by decide +kernel
theorem dX3_shortest_69 : dcd cX3_shortest 69 (.ldc 34) 2 71 := by decide +kernel
theorem dX3_shortest_71 : decode cX3_shortest 71 = .ok (.ireturn, 1) := by decide +kernel
theorem dX3_shortest_72 : dcd cX3_shortest 72 (.aload_n 0) 1 73 := by decide +kernel
theorem dX3_shortest_73 : dcd cX3_shortest 73 (.iload_n 2) 1 74 := by decide +kernel
theorem dX3_shortest_74 : dcd cX3_shortest 74 (.iload_n 1) 1 75 := by decide +kernel
theorem dX3_shortest_75 : dcd cX3_shortest 75 (.idiv) 1 76 := by decide +kernel
theorem dX3_shortest_76 : dcd cX3_shortest 76 (.putfield 9) 3 79 := by decide +kernel
theorem dX3_shortest_79 : dcd cX3_shortest 79 (.aload_n 0) 1 80 := by decide +kernel
theorem dX3_shortest_80 : dcd cX3_shortest 80 (.iload_n 3) 1 81 := by decide +kernel
theorem dX3_shortest_81 : dcd cX3_shortest 81 (.iload_n 1) 1 82 := by decide +kernel
theorem dX3_shortest_82 : dcd cX3_shortest 82 (.idiv) 1 83 := by decide +kernel
theorem dX3_shortest_83 : dcd cX3_shortest 83 (.putfield 35) 3 86 := by decide +kernel
theorem dX3_shortest_86 : dcd cX3_shortest 86 (.aload_n 0) 1 87 := by decide +kernel
theorem dX3_shortest_87 : dcd cX3_shortest 87 (.iconst 0) 1 88 := by decide +kernel
theorem dX3_shortest_88 : dcd cX3_shortest 88 (.invokevirtual 38) 3 91 := by decide +kernel
theorem dX3_shortest_91 : dcd cX3_shortest 91 (.aload_n 0) 1 92 := by decide +kernel
theorem dX3_shortest_92 : dcd cX3_shortest 92 (.iconst 0) 1 93 := by decide +kernel
theorem dX3_shortest_93 : dcd cX3_shortest 93 (.invokevirtual 42) 3 96 := by decide +kernel
theorem dX3_shortest_96 : decode cX3_shortest 96 = .ok (.ireturn, 1) := by decide +kernel
theorem dX3_verdict_0 : dcd cX3_verdict 0 (.aload_n 0) 1 1 := by decide +kernel
theorem dX3_verdict_1 : dcd cX3_verdict 1 (.getfield 15) 3 4 := by decide +kernel
theorem dX3_verdict_4 : dcd cX3_verdict 4 (.iload_n 1) 1 5 := by decide +kernel
theorem dX3_verdict_5 : dcd cX3_verdict 5 (.iload_n 2) 1 6 := by decide +kernel
theorem dX3_verdict_6 : dcd cX3_verdict 6 (.iload_n 3) 1 7 := by decide +kernel
theorem dX3_verdict_7 : dcd cX3_verdict 7 (.iload 4) 2 9 := by decide +kernel
theorem dX3_verdict_9 : dcd cX3_verdict 9 (.invokevirtual 27) 3 12 := by decide +kernel
theorem dX3_verdict_12 : dcd cX3_verdict 12 (.istore 6) 2 14 := by decide +kernel
theorem dX3_verdict_14 : dcd cX3_verdict 14 (.iload 6) 2 16 := by decide +kernel
theorem dX3_verdict_16 : dcb cX3_verdict 16 (.ifCond .eq (21)) (21) 37 19 := by decide +kernel
theorem dX3_verdict_19 : dcd cX3_verdict 19 (.aload_n 0) 1 20 := by decide +kernel
theorem dX3_verdict_20 : dcd cX3_verdict 20 (.getfield 9) 3 23 := by decide +kernel
theorem dX3_verdict_23 : dcd cX3_verdict 23 (.iconst 1) 1 24 := by decide +kernel
theorem dX3_verdict_24 : dcb cX3_verdict 24 (.if_icmp .lt (13)) (13) 37 27 := by decide +kernel
theorem dX3_verdict_27 : dcd cX3_verdict 27 (.iload 6) 2 29 := by decide +kernel
theorem dX3_verdict_29 : dcd cX3_verdict 29 (.aload_n 0) 1 30 := by decide +kernel
theorem dX3_verdict_30 : dcd cX3_verdict 30 (.getfield 9) 3 33 := by decide +kernel
theorem dX3_verdict_33 : dcd cX3_verdict 33 (.irem) 1 34 := by decide +kernel
theorem dX3_verdict_34 : dcb cX3_verdict 34 (.ifCond .eq (6)) (6) 40 37 := by decide +kernel
theorem dX3_verdict_37 : dcd cX3_verdict 37 (.ldc 34) 2 39 := by decide +kernel
theorem dX3_verdict_39 : decode cX3_verdict 39 = .ok (.ireturn, 1) := by decide +kernel
theorem dX3_verdict_40 : dcd cX3_verdict 40 (.iload 6) 2 42 := by decide +kernel
theorem dX3_verdict_42 : dcd cX3_verdict 42 (.aload_n 0) 1 43 := by decide +kernel
theorem dX3_verdict_43 : dcd cX3_verdict 43 (.getfield 9) 3 46 := by decide +kernel
theorem dX3_verdict_46 : dcd cX3_verdict 46 (.idiv) 1 47 := by decide +kernel
theorem dX3_verdict_47 : dcd cX3_verdict 47 (.istore 7) 2 49 := by decide +kernel
theorem dX3_verdict_49 : dcd cX3_verdict 49 (.aload_n 0) 1 50 := by decide +kernel
theorem dX3_verdict_50 : dcd cX3_verdict 50 (.getfield 15) 3 53 := by decide +kernel
theorem dX3_verdict_53 : dcd cX3_verdict 53 (.iload_n 1) 1 54 := by decide +kernel
theorem dX3_verdict_54 : dcd cX3_verdict 54 (.iload_n 2) 1 55 := by decide +kernel
theorem dX3_verdict_55 : dcd cX3_verdict 55 (.iload_n 3) 1 56 := by decide +kernel
theorem dX3_verdict_56 : dcd cX3_verdict 56 (.iload 4) 2 58 := by decide +kernel
theorem dX3_verdict_58 : dcd cX3_verdict 58 (.invokevirtual 31) 3 61 := by decide +kernel
theorem dX3_verdict_61 : dcd cX3_verdict 61 (.iload 7) 2 63 := by decide +kernel
theorem dX3_verdict_63 : dcd cX3_verdict 63 (.aload_n 0) 1 64 := by decide +kernel
theorem dX3_verdict_64 : dcd cX3_verdict 64 (.getfield 35) 3 67 := by decide +kernel
theorem dX3_verdict_67 : dcd cX3_verdict 67 (.imul) 1 68 := by decide +kernel
theorem dX3_verdict_68 : dcb cX3_verdict 68 (.if_icmp .eq (6)) (6) 74 71 := by decide +kernel
theorem dX3_verdict_71 : dcd cX3_verdict 71 (.ldc 34) 2 73 := by decide +kernel
theorem dX3_verdict_73 : decode cX3_verdict 73 = .ok (.ireturn, 1) := by decide +kernel
theorem dX3_verdict_74 : dcd cX3_verdict 74 (.iload 7) 2 76 := by decide +kernel
theorem dX3_verdict_76 : dcd cX3_verdict 76 (.iconst 1) 1 77 := by decide +kernel
theorem dX3_verdict_77 : dcb cX3_verdict 77 (.if_icmp .ne (7)) (7) 84 80 := by decide +kernel
theorem dX3_verdict_80 : dcd cX3_verdict 80 (.iconst 0) 1 81 := by decide +kernel
theorem dX3_verdict_81 : dcb cX3_verdict 81 (.goto (4)) (4) 85 84 := by decide +kernel
theorem dX3_verdict_84 : dcd cX3_verdict 84 (.iconst (-1)) 1 85 := by decide +kernel
theorem dX3_verdict_85 : decode cX3_verdict 85 = .ok (.ireturn, 1) := by decide +kernel
theorem dX3_cutPrice_0 : dcd cX3_cutPrice 0 (.iload_n 1) 1 1 := by decide +kernel
theorem dX3_cutPrice_1 : decode cX3_cutPrice 1 = .ok (.ireturn, 1) := by decide +kernel
theorem dX4_init_0 : dcd cX4_init 0 (.aload_n 0) 1 1 := by decide +kernel
theorem dX4_init_1 : dcd cX4_init 1 (.invokespecial 3) 3 4 := by decide +kernel
theorem dX4_init_4 : dcd cX4_init 4 (.aload_n 0) 1 5 := by decide +kernel
theorem dX4_init_5 : dcd cX4_init 5 (.bipush 36) 2 7 := by decide +kernel
theorem dX4_init_7 : dcd cX4_init 7 (.newarray .int) 2 9 := by decide +kernel
theorem dX4_init_9 : dcd cX4_init 9 (.putfield 9) 3 12 := by decide +kernel
theorem dX4_init_12 : dcd cX4_init 12 (.aload_n 0) 1 13 := by decide +kernel
theorem dX4_init_13 : dcd cX4_init 13 (.bipush 49) 2 15 := by decide +kernel
theorem dX4_init_15 : dcd cX4_init 15 (.newarray .int) 2 17 := by decide +kernel
theorem dX4_init_17 : dcd cX4_init 17 (.putfield 15) 3 20 := by decide +kernel
theorem dX4_init_20 : dcd cX4_init 20 (.aload_n 0) 1 21 := by decide +kernel
theorem dX4_init_21 : dcd cX4_init 21 (.bipush 49) 2 23 := by decide +kernel
theorem dX4_init_23 : dcd cX4_init 23 (.newarray .int) 2 25 := by decide +kernel
theorem dX4_init_25 : dcd cX4_init 25 (.putfield 18) 3 28 := by decide +kernel
theorem dX4_init_28 : dcd cX4_init 28 (.aload_n 0) 1 29 := by decide +kernel
theorem dX4_init_29 : dcd cX4_init 29 (.iconst 1) 1 30 := by decide +kernel
theorem dX4_init_30 : dcd cX4_init 30 (.putfield 21) 3 33 := by decide +kernel
theorem dX4_init_33 : dcd cX4_init 33 (.aload_n 0) 1 34 := by decide +kernel
theorem dX4_init_34 : dcd cX4_init 34 (.iconst 1) 1 35 := by decide +kernel
theorem dX4_init_35 : dcd cX4_init 35 (.putfield 25) 3 38 := by decide +kernel
theorem dX4_init_38 : dcd cX4_init 38 (.aload_n 0) 1 39 := by decide +kernel
theorem dX4_init_39 : dcd cX4_init 39 (.iconst 5) 1 40 := by decide +kernel
theorem dX4_init_40 : dcd cX4_init 40 (.putfield 28) 3 43 := by decide +kernel
theorem dX4_init_43 : dcd cX4_init 43 (.aload_n 0) 1 44 := by decide +kernel
theorem dX4_init_44 : dcd cX4_init 44 (.bipush 6) 2 46 := by decide +kernel
theorem dX4_init_46 : dcd cX4_init 46 (.putfield 31) 3 49 := by decide +kernel
theorem dX4_init_49 : dcd cX4_init 49 (.aload_n 0) 1 50 := by decide +kernel
theorem dX4_init_50 : dcd cX4_init 50 (.invokevirtual 34) 3 53 := by decide +kernel
theorem dX4_init_53 : decode cX4_init 53 = .ok (.return_, 1) := by decide +kernel
theorem dX4_take_0 : dcd cX4_take 0 (.iconst 0) 1 1 := by decide +kernel
theorem dX4_take_1 : dcd cX4_take 1 (.istore_n 2) 1 2 := by decide +kernel
theorem dX4_take_2 : dcd cX4_take 2 (.iconst 0) 1 3 := by decide +kernel
theorem dX4_take_3 : dcd cX4_take 3 (.istore_n 3) 1 4 := by decide +kernel
theorem dX4_take_4 : dcd cX4_take 4 (.iconst 0) 1 5 := by decide +kernel
theorem dX4_take_5 : dcd cX4_take 5 (.istore 4) 2 7 := by decide +kernel
theorem dX4_take_7 : dcd cX4_take 7 (.iload 4) 2 9 := by decide +kernel
theorem dX4_take_9 : dcd cX4_take 9 (.aload_n 1) 1 10 := by decide +kernel
theorem dX4_take_10 : dcd cX4_take 10 (.getfield 37) 3 13 := by decide +kernel
theorem dX4_take_13 : dcb cX4_take 13 (.if_icmp .ge (65)) (65) 78 16 := by decide +kernel
theorem dX4_take_16 : dcd cX4_take 16 (.aload_n 1) 1 17 := by decide +kernel
theorem dX4_take_17 : dcd cX4_take 17 (.getfield 42) 3 20 := by decide +kernel
theorem dX4_take_20 : dcd cX4_take 20 (.iload 4) 2 22 := by decide +kernel
theorem dX4_take_22 : dcd cX4_take 22 (.iaload) 1 23 := by decide +kernel
theorem dX4_take_23 : dcd cX4_take 23 (.bipush 47) 2 25 := by decide +kernel
theorem dX4_take_25 : dcb cX4_take 25 (.if_icmp .ne (11)) (11) 36 28 := by decide +kernel
theorem dX4_take_28 : dcd cX4_take 28 (.iinc 2 1) 3 31 := by decide +kernel
theorem dX4_take_31 : dcd cX4_take 31 (.iconst 0) 1 32 := by decide +kernel
theorem dX4_take_32 : dcd cX4_take 32 (.istore_n 3) 1 33 := by decide +kernel
theorem dX4_take_33 : dcb cX4_take 33 (.goto (39)) (39) 72 36 := by decide +kernel
theorem dX4_take_36 : dcd cX4_take 36 (.iload_n 2) 1 37 := by decide +kernel
theorem dX4_take_37 : dcd cX4_take 37 (.bipush 6) 2 39 := by decide +kernel
theorem dX4_take_39 : dcb cX4_take 39 (.if_icmp .ge (33)) (33) 72 42 := by decide +kernel
theorem dX4_take_42 : dcd cX4_take 42 (.iload_n 3) 1 43 := by decide +kernel
theorem dX4_take_43 : dcd cX4_take 43 (.bipush 6) 2 45 := by decide +kernel
theorem dX4_take_45 : dcb cX4_take 45 (.if_icmp .ge (27)) (27) 72 48 := by decide +kernel
theorem dX4_take_48 : dcd cX4_take 48 (.aload_n 0) 1 49 := by decide +kernel
theorem dX4_take_49 : dcd cX4_take 49 (.getfield 9) 3 52 := by decide +kernel
theorem dX4_take_52 : dcd cX4_take 52 (.iload_n 2) 1 53 := by decide +kernel
theorem dX4_take_53 : dcd cX4_take 53 (.bipush 6) 2 55 := by decide +kernel
theorem dX4_take_55 : dcd cX4_take 55 (.imul) 1 56 := by decide +kernel
theorem dX4_take_56 : dcd cX4_take 56 (.iload_n 3) 1 57 := by decide +kernel
theorem dX4_take_57 : dcd cX4_take 57 (.iadd) 1 58 := by decide +kernel
theorem dX4_take_58 : dcd cX4_take 58 (.aload_n 1) 1 59 := by decide +kernel
theorem dX4_take_59 : dcd cX4_take 59 (.getfield 42) 3 62 := by decide +kernel
theorem dX4_take_62 : dcd cX4_take 62 (.iload 4) 2 64 := by decide +kernel
theorem dX4_take_64 : dcd cX4_take 64 (.iaload) 1 65 := by decide +kernel
theorem dX4_take_65 : dcd cX4_take 65 (.invokestatic 45) 3 68 := by decide +kernel
theorem dX4_take_68 : dcd cX4_take 68 (.iastore) 1 69 := by decide +kernel
theorem dX4_take_69 : dcd cX4_take 69 (.iinc 3 1) 3 72 := by decide +kernel
theorem dX4_take_72 : dcd cX4_take 72 (.iinc 4 1) 3 75 := by decide +kernel
theorem dX4_take_75 : dcb cX4_take 75 (.goto (-68)) (-68) 7 78 := by decide +kernel
theorem dX4_take_78 : dcd cX4_take 78 (.aload_n 0) 1 79 := by decide +kernel
theorem dX4_take_79 : dcd cX4_take 79 (.iload_n 2) 1 80 := by decide +kernel
theorem dX4_take_80 : dcd cX4_take 80 (.iconst 1) 1 81 := by decide +kernel
theorem dX4_take_81 : dcd cX4_take 81 (.iadd) 1 82 := by decide +kernel
theorem dX4_take_82 : dcd cX4_take 82 (.putfield 21) 3 85 := by decide +kernel
theorem dX4_take_85 : dcd cX4_take 85 (.aload_n 0) 1 86 := by decide +kernel
theorem dX4_take_86 : dcd cX4_take 86 (.iload_n 3) 1 87 := by decide +kernel
theorem dX4_take_87 : dcd cX4_take 87 (.putfield 25) 3 90 := by decide +kernel
theorem dX4_take_90 : dcd cX4_take 90 (.aload_n 0) 1 91 := by decide +kernel
theorem dX4_take_91 : dcd cX4_take 91 (.invokevirtual 34) 3 94 := by decide +kernel
theorem dX4_take_94 : decode cX4_take 94 = .ok (.return_, 1) := by decide +kernel
theorem dX4_addUp_0 : dcd cX4_addUp 0 (.iconst 0) 1 1 := by decide +kernel
theorem dX4_addUp_1 : dcd cX4_addUp 1 (.istore_n 1) 1 2 := by decide +kernel
theorem dX4_addUp_2 : dcd cX4_addUp 2 (.iload_n 1) 1 3 := by decide +kernel
theorem dX4_addUp_3 : dcd cX4_addUp 3 (.aload_n 0) 1 4 := by decide +kernel
theorem dX4_addUp_4 : dcd cX4_addUp 4 (.getfield 21) 3 7 := by decide +kernel
theorem dX4_addUp_7 : dcb cX4_addUp 7 (.if_icmp .ge (65)) (65) 72 10 := by decide +kernel
theorem dX4_addUp_10 : dcd cX4_addUp 10 (.iconst 0) 1 11 := by decide +kernel
theorem dX4_addUp_11 : dcd cX4_addUp 11 (.istore_n 2) 1 12 := by decide +kernel
theorem dX4_addUp_12 : dcd cX4_addUp 12 (.iload_n 2) 1 13 := by decide +kernel
theorem dX4_addUp_13 : dcd cX4_addUp 13 (.aload_n 0) 1 14 := by decide +kernel
theorem dX4_addUp_14 : dcd cX4_addUp 14 (.getfield 25) 3 17 := by decide +kernel
theorem dX4_addUp_17 : dcb cX4_addUp 17 (.if_icmp .ge (49)) (49) 66 20 := by decide +kernel
theorem dX4_addUp_20 : dcd cX4_addUp 20 (.aload_n 0) 1 21 := by decide +kernel
theorem dX4_addUp_21 : dcd cX4_addUp 21 (.iload_n 1) 1 22 := by decide +kernel
theorem dX4_addUp_22 : dcd cX4_addUp 22 (.iload_n 2) 1 23 := by decide +kernel
theorem dX4_addUp_23 : dcd cX4_addUp 23 (.invokevirtual 49) 3 26 := by decide +kernel
theorem dX4_addUp_26 : dcd cX4_addUp 26 (.istore_n 3) 1 27 := by decide +kernel
theorem dX4_addUp_27 : dcd cX4_addUp 27 (.aload_n 0) 1 28 := by decide +kernel
theorem dX4_addUp_28 : dcd cX4_addUp 28 (.getfield 15) 3 31 := by decide +kernel
theorem dX4_addUp_31 : dcd cX4_addUp 31 (.iload_n 1) 1 32 := by decide +kernel
theorem dX4_addUp_32 : dcd cX4_addUp 32 (.iload_n 2) 1 33 := by decide +kernel
theorem dX4_addUp_33 : dcd cX4_addUp 33 (.getstatic 53) 3 36 := by decide +kernel
theorem dX4_addUp_36 : dcd cX4_addUp 36 (.iload_n 3) 1 37 := by decide +kernel
theorem dX4_addUp_37 : dcd cX4_addUp 37 (.iaload) 1 38 := by decide +kernel
theorem dX4_addUp_38 : dcd cX4_addUp 38 (.invokestatic 56) 3 41 := by decide +kernel
theorem dX4_addUp_41 : dcd cX4_addUp 41 (.aload_n 0) 1 42 := by decide +kernel
theorem dX4_addUp_42 : dcd cX4_addUp 42 (.getfield 18) 3 45 := by decide +kernel
theorem dX4_addUp_45 : dcd cX4_addUp 45 (.iload_n 1) 1 46 := by decide +kernel
theorem dX4_addUp_46 : dcd cX4_addUp 46 (.iload_n 2) 1 47 := by decide +kernel
theorem dX4_addUp_47 : dcd cX4_addUp 47 (.iload_n 3) 1 48 := by decide +kernel
theorem dX4_addUp_48 : dcd cX4_addUp 48 (.iconst 1) 1 49 := by decide +kernel
theorem dX4_addUp_49 : dcb cX4_addUp 49 (.if_icmp .ne (7)) (7) 56 52 := by decide +kernel
theorem dX4_addUp_52 : dcd cX4_addUp 52 (.iconst 1) 1 53 := by decide +kernel
theorem dX4_addUp_53 : dcb cX4_addUp 53 (.goto (4)) (4) 57 56 := by decide +kernel
theorem dX4_addUp_56 : dcd cX4_addUp 56 (.iconst 0) 1 57 := by decide +kernel
theorem dX4_addUp_57 : dcd cX4_addUp 57 (.invokestatic 56) 3 60 := by decide +kernel
theorem dX4_addUp_60 : dcd cX4_addUp 60 (.iinc 2 1) 3 63 := by decide +kernel
theorem dX4_addUp_63 : dcb cX4_addUp 63 (.goto (-51)) (-51) 12 66 := by decide +kernel
theorem dX4_addUp_66 : dcd cX4_addUp 66 (.iinc 1 1) 3 69 := by decide +kernel
theorem dX4_addUp_69 : dcb cX4_addUp 69 (.goto (-67)) (-67) 2 72 := by decide +kernel
theorem dX4_addUp_72 : decode cX4_addUp 72 = .ok (.return_, 1) := by decide +kernel
theorem dX4_addPlace_0 : dcd cX4_addPlace 0 (.iload_n 1) 1 1 := by decide +kernel
theorem dX4_addPlace_1 : dcd cX4_addPlace 1 (.bipush 7) 2 3 := by decide +kernel
theorem dX4_addPlace_3 : dcd cX4_addPlace 3 (.imul) 1 4 := by decide +kernel
theorem dX4_addPlace_4 : dcd cX4_addPlace 4 (.iload_n 2) 1 5 := by decide +kernel
theorem dX4_addPlace_5 : dcd cX4_addPlace 5 (.iadd) 1 6 := by decide +kernel
theorem dX4_addPlace_6 : dcd cX4_addPlace 6 (.istore 4) 2 8 := by decide +kernel
theorem dX4_addPlace_8 : dcd cX4_addPlace 8 (.aload_n 0) 1 9 := by decide +kernel
theorem dX4_addPlace_9 : dcd cX4_addPlace 9 (.iload 4) 2 11 := by decide +kernel
theorem dX4_addPlace_11 : dcd cX4_addPlace 11 (.bipush 7) 2 13 := by decide +kernel
theorem dX4_addPlace_13 : dcd cX4_addPlace 13 (.iadd) 1 14 := by decide +kernel
theorem dX4_addPlace_14 : dcd cX4_addPlace 14 (.iconst 1) 1 15 := by decide +kernel
theorem dX4_addPlace_15 : dcd cX4_addPlace 15 (.iadd) 1 16 := by decide +kernel
theorem dX4_addPlace_16 : dcd cX4_addPlace 16 (.iload_n 3) 1 17 := by decide +kernel
theorem dX4_addPlace_17 : dcd cX4_addPlace 17 (.aload_n 0) 1 18 := by decide +kernel
theorem dX4_addPlace_18 : dcd cX4_addPlace 18 (.iload 4) 2 20 := by decide +kernel
theorem dX4_addPlace_20 : dcd cX4_addPlace 20 (.bipush 7) 2 22 := by decide +kernel
theorem dX4_addPlace_22 : dcd cX4_addPlace 22 (.iadd) 1 23 := by decide +kernel
theorem dX4_addPlace_23 : dcd cX4_addPlace 23 (.iaload) 1 24 := by decide +kernel
theorem dX4_addPlace_24 : dcd cX4_addPlace 24 (.iadd) 1 25 := by decide +kernel
theorem dX4_addPlace_25 : dcd cX4_addPlace 25 (.aload_n 0) 1 26 := by decide +kernel
theorem dX4_addPlace_26 : dcd cX4_addPlace 26 (.iload 4) 2 28 := by decide +kernel
theorem dX4_addPlace_28 : dcd cX4_addPlace 28 (.iconst 1) 1 29 := by decide +kernel
theorem dX4_addPlace_29 : dcd cX4_addPlace 29 (.iadd) 1 30 := by decide +kernel
theorem dX4_addPlace_30 : dcd cX4_addPlace 30 (.iaload) 1 31 := by decide +kernel
theorem dX4_addPlace_31 : dcd cX4_addPlace 31 (.iadd) 1 32 := by decide +kernel
theorem dX4_addPlace_32 : dcd cX4_addPlace 32 (.aload_n 0) 1 33 := by decide +kernel
theorem dX4_addPlace_33 : dcd cX4_addPlace 33 (.iload 4) 2 35 := by decide +kernel
theorem dX4_addPlace_35 : dcd cX4_addPlace 35 (.iaload) 1 36 := by decide +kernel
theorem dX4_addPlace_36 : dcd cX4_addPlace 36 (.isub) 1 37 := by decide +kernel
theorem dX4_addPlace_37 : dcd cX4_addPlace 37 (.iastore) 1 38 := by decide +kernel
theorem dX4_addPlace_38 : decode cX4_addPlace 38 = .ok (.return_, 1) := by decide +kernel
theorem dX4_kindAt_0 : dcd cX4_kindAt 0 (.aload_n 0) 1 1 := by decide +kernel
theorem dX4_kindAt_1 : dcd cX4_kindAt 1 (.getfield 9) 3 4 := by decide +kernel
theorem dX4_kindAt_4 : dcd cX4_kindAt 4 (.iload_n 1) 1 5 := by decide +kernel
theorem dX4_kindAt_5 : dcd cX4_kindAt 5 (.bipush 6) 2 7 := by decide +kernel
theorem dX4_kindAt_7 : dcd cX4_kindAt 7 (.imul) 1 8 := by decide +kernel
theorem dX4_kindAt_8 : dcd cX4_kindAt 8 (.iload_n 2) 1 9 := by decide +kernel
theorem dX4_kindAt_9 : dcd cX4_kindAt 9 (.iadd) 1 10 := by decide +kernel
theorem dX4_kindAt_10 : dcd cX4_kindAt 10 (.iaload) 1 11 := by decide +kernel
theorem dX4_kindAt_11 : dcd cX4_kindAt 11 (.istore_n 3) 1 12 := by decide +kernel
theorem dX4_kindAt_12 : dcd cX4_kindAt 12 (.iload_n 3) 1 13 := by decide +kernel
theorem dX4_kindAt_13 : dcd cX4_kindAt 13 (.iconst 1) 1 14 := by decide +kernel
theorem dX4_kindAt_14 : dcb cX4_kindAt 14 (.if_icmp .eq (8)) (8) 22 17 := by decide +kernel
theorem dX4_kindAt_17 : dcd cX4_kindAt 17 (.iload_n 3) 1 18 := by decide +kernel
theorem dX4_kindAt_18 : dcd cX4_kindAt 18 (.iconst 2) 1 19 := by decide +kernel
theorem dX4_kindAt_19 : dcb cX4_kindAt 19 (.if_icmp .ne (7)) (7) 26 22 := by decide +kernel
theorem dX4_kindAt_22 : dcd cX4_kindAt 22 (.iload_n 3) 1 23 := by decide +kernel
theorem dX4_kindAt_23 : dcb cX4_kindAt 23 (.goto (4)) (4) 27 26 := by decide +kernel
theorem dX4_kindAt_26 : dcd cX4_kindAt 26 (.iconst 0) 1 27 := by decide +kernel
theorem dX4_kindAt_27 : decode cX4_kindAt 27 = .ok (.ireturn, 1) := by decide +kernel
theorem dX4_holds_0 : dcd cX4_holds 0 (.iload_n 1) 1 1 := by decide +kernel
theorem dX4_holds_1 : dcb cX4_holds 1 (.ifCond .lt (59)) (59) 60 4 := by decide +kernel
theorem dX4_holds_4 : dcd cX4_holds 4 (.iload_n 1) 1 5 := by decide +kernel
theorem dX4_holds_5 : dcd cX4_holds 5 (.aload_n 0) 1 6 := by decide +kernel
theorem dX4_holds_6 : dcd cX4_holds 6 (.getfield 21) 3 9 := by decide +kernel
theorem dX4_holds_9 : dcb cX4_holds 9 (.if_icmp .ge (51)) (51) 60 12 := by decide +kernel
theorem dX4_holds_12 : dcd cX4_holds 12 (.iload_n 2) 1 13 := by decide +kernel
theorem dX4_holds_13 : dcb cX4_holds 13 (.ifCond .lt (47)) (47) 60 16 := by decide +kernel
theorem dX4_holds_16 : dcd cX4_holds 16 (.iload_n 2) 1 17 := by decide +kernel
theorem dX4_holds_17 : dcd cX4_holds 17 (.aload_n 0) 1 18 := by decide +kernel
theorem dX4_holds_18 : dcd cX4_holds 18 (.getfield 25) 3 21 := by decide +kernel
theorem dX4_holds_21 : dcb cX4_holds 21 (.if_icmp .ge (39)) (39) 60 24 := by decide +kernel
theorem dX4_holds_24 : dcd cX4_holds 24 (.iload_n 3) 1 25 := by decide +kernel
theorem dX4_holds_25 : dcd cX4_holds 25 (.iconst 1) 1 26 := by decide +kernel
theorem dX4_holds_26 : dcb cX4_holds 26 (.if_icmp .lt (34)) (34) 60 29 := by decide +kernel
theorem dX4_holds_29 : dcd cX4_holds 29 (.iload_n 3) 1 30 := by decide +kernel
theorem dX4_holds_30 : dcd cX4_holds 30 (.aload_n 0) 1 31 := by decide +kernel
theorem dX4_holds_31 : dcd cX4_holds 31 (.getfield 21) 3 34 := by decide +kernel
theorem dX4_holds_34 : dcd cX4_holds 34 (.iload_n 1) 1 35 := by decide +kernel
theorem dX4_holds_35 : dcd cX4_holds 35 (.isub) 1 36 := by decide +kernel
theorem dX4_holds_36 : dcb cX4_holds 36 (.if_icmp .gt (24)) (24) 60 39 := by decide +kernel
theorem dX4_holds_39 : dcd cX4_holds 39 (.iload 4) 2 41 := by decide +kernel
theorem dX4_holds_41 : dcd cX4_holds 41 (.iconst 1) 1 42 := by decide +kernel
theorem dX4_holds_42 : dcb cX4_holds 42 (.if_icmp .lt (18)) (18) 60 45 := by decide +kernel
theorem dX4_holds_45 : dcd cX4_holds 45 (.iload 4) 2 47 := by decide +kernel
theorem dX4_holds_47 : dcd cX4_holds 47 (.aload_n 0) 1 48 := by decide +kernel
theorem dX4_holds_48 : dcd cX4_holds 48 (.getfield 25) 3 51 := by decide +kernel
theorem dX4_holds_51 : dcd cX4_holds 51 (.iload_n 2) 1 52 := by decide +kernel
theorem dX4_holds_52 : dcd cX4_holds 52 (.isub) 1 53 := by decide +kernel
theorem dX4_holds_53 : dcb cX4_holds 53 (.if_icmp .gt (7)) (7) 60 56 := by decide +kernel
theorem dX4_holds_56 : dcd cX4_holds 56 (.iconst 1) 1 57 := by decide +kernel
theorem dX4_holds_57 : dcb cX4_holds 57 (.goto (4)) (4) 61 60 := by decide +kernel
theorem dX4_holds_60 : dcd cX4_holds 60 (.iconst 0) 1 61 := by decide +kernel
theorem dX4_holds_61 : decode cX4_holds 61 = .ok (.ireturn, 1) := by decide +kernel
theorem dX4_weightIn_0 : dcd cX4_weightIn 0 (.aload_n 0) 1 1 := by decide +kernel
theorem dX4_weightIn_1 : dcd cX4_weightIn 1 (.aload_n 0) 1 2 := by decide +kernel
theorem dX4_weightIn_2 : dcd cX4_weightIn 2 (.getfield 15) 3 5 := by decide +kernel
theorem dX4_weightIn_5 : dcd cX4_weightIn 5 (.iload_n 1) 1 6 := by decide +kernel
theorem dX4_weightIn_6 : dcd cX4_weightIn 6 (.iload_n 2) 1 7 := by decide +kernel
theorem dX4_weightIn_7 : dcd cX4_weightIn 7 (.iload_n 3) 1 8 := by decide +kernel
theorem dX4_weightIn_8 : dcd cX4_weightIn 8 (.iload 4) 2 10 := by decide +kernel
theorem dX4_weightIn_10 : dcd cX4_weightIn 10 (.invokevirtual 60) 3 13 := by decide +kernel
theorem dX4_weightIn_13 : decode cX4_weightIn 13 = .ok (.ireturn, 1) := by decide +kernel
theorem dX4_rindIn_0 : dcd cX4_rindIn 0 (.aload_n 0) 1 1 := by decide +kernel
theorem dX4_rindIn_1 : dcd cX4_rindIn 1 (.aload_n 0) 1 2 := by decide +kernel
theorem dX4_rindIn_2 : dcd cX4_rindIn 2 (.getfield 18) 3 5 := by decide +kernel
theorem dX4_rindIn_5 : dcd cX4_rindIn 5 (.iload_n 1) 1 6 := by decide +kernel
theorem dX4_rindIn_6 : dcd cX4_rindIn 6 (.iload_n 2) 1 7 := by decide +kernel
theorem dX4_rindIn_7 : dcd cX4_rindIn 7 (.iload_n 3) 1 8 := by decide +kernel
theorem dX4_rindIn_8 : dcd cX4_rindIn 8 (.iload 4) 2 10 := by decide +kernel
theorem dX4_rindIn_10 : dcd cX4_rindIn 10 (.invokevirtual 60) 3 13 := by decide +kernel
theorem dX4_rindIn_13 : decode cX4_rindIn 13 = .ok (.ireturn, 1) := by decide +kernel
theorem dX4_sumIn_0 : dcd cX4_sumIn 0 (.iload_n 2) 1 1 := by decide +kernel
theorem dX4_sumIn_1 : dcd cX4_sumIn 1 (.bipush 7) 2 3 := by decide +kernel
theorem dX4_sumIn_3 : dcd cX4_sumIn 3 (.imul) 1 4 := by decide +kernel
theorem dX4_sumIn_4 : dcd cX4_sumIn 4 (.iload_n 3) 1 5 := by decide +kernel
theorem dX4_sumIn_5 : dcd cX4_sumIn 5 (.iadd) 1 6 := by decide +kernel
theorem dX4_sumIn_6 : dcd cX4_sumIn 6 (.istore 6) 2 8 := by decide +kernel
theorem dX4_sumIn_8 : dcd cX4_sumIn 8 (.iload 6) 2 10 := by decide +kernel
theorem dX4_sumIn_10 : dcd cX4_sumIn 10 (.iload 4) 2 12 := by decide +kernel
theorem dX4_sumIn_12 : dcd cX4_sumIn 12 (.bipush 7) 2 14 := by decide +kernel
theorem dX4_sumIn_14 : dcd cX4_sumIn 14 (.imul) 1 15 := by decide +kernel
theorem dX4_sumIn_15 : dcd cX4_sumIn 15 (.iadd) 1 16 := by decide +kernel
theorem dX4_sumIn_16 : dcd cX4_sumIn 16 (.istore 7) 2 18 := by decide +kernel
theorem dX4_sumIn_18 : dcd cX4_sumIn 18 (.iload 6) 2 20 := by decide +kernel
theorem dX4_sumIn_20 : dcb cX4_sumIn 20 (.ifCond .lt (25)) (25) 45 23 := by decide +kernel
theorem dX4_sumIn_23 : dcd cX4_sumIn 23 (.iload 7) 2 25 := by decide +kernel
theorem dX4_sumIn_25 : dcd cX4_sumIn 25 (.iload 6) 2 27 := by decide +kernel
theorem dX4_sumIn_27 : dcb cX4_sumIn 27 (.if_icmp .lt (18)) (18) 45 30 := by decide +kernel
theorem dX4_sumIn_30 : dcd cX4_sumIn 30 (.iload 5) 2 32 := by decide +kernel
theorem dX4_sumIn_32 : dcb cX4_sumIn 32 (.ifCond .lt (13)) (13) 45 35 := by decide +kernel
theorem dX4_sumIn_35 : dcd cX4_sumIn 35 (.iload 7) 2 37 := by decide +kernel
theorem dX4_sumIn_37 : dcd cX4_sumIn 37 (.iload 5) 2 39 := by decide +kernel
theorem dX4_sumIn_39 : dcd cX4_sumIn 39 (.iadd) 1 40 := by decide +kernel
theorem dX4_sumIn_40 : dcd cX4_sumIn 40 (.aload_n 1) 1 41 := by decide +kernel
theorem dX4_sumIn_41 : dcd cX4_sumIn 41 (.arraylength) 1 42 := by decide +kernel
theorem dX4_sumIn_42 : dcb cX4_sumIn 42 (.if_icmp .lt (5)) (5) 47 45 := by decide +kernel
theorem dX4_sumIn_45 : dcd cX4_sumIn 45 (.iconst 0) 1 46 := by decide +kernel
theorem dX4_sumIn_46 : decode cX4_sumIn 46 = .ok (.ireturn, 1) := by decide +kernel
theorem dX4_sumIn_47 : dcd cX4_sumIn 47 (.aload_n 1) 1 48 := by decide +kernel
theorem dX4_sumIn_48 : dcd cX4_sumIn 48 (.iload 7) 2 50 := by decide +kernel
theorem dX4_sumIn_50 : dcd cX4_sumIn 50 (.iload 5) 2 52 := by decide +kernel
theorem dX4_sumIn_52 : dcd cX4_sumIn 52 (.iadd) 1 53 := by decide +kernel
theorem dX4_sumIn_53 : dcd cX4_sumIn 53 (.iaload) 1 54 := by decide +kernel
theorem dX4_sumIn_54 : dcd cX4_sumIn 54 (.aload_n 1) 1 55 := by decide +kernel
theorem dX4_sumIn_55 : dcd cX4_sumIn 55 (.iload 7) 2 57 := by decide +kernel
theorem dX4_sumIn_57 : dcd cX4_sumIn 57 (.iaload) 1 58 := by decide +kernel
theorem dX4_sumIn_58 : dcd cX4_sumIn 58 (.isub) 1 59 := by decide +kernel
theorem dX4_sumIn_59 : dcd cX4_sumIn 59 (.aload_n 1) 1 60 := by decide +kernel
theorem dX4_sumIn_60 : dcd cX4_sumIn 60 (.iload 6) 2 62 := by decide +kernel
theorem dX4_sumIn_62 : dcd cX4_sumIn 62 (.iload 5) 2 64 := by decide +kernel
theorem dX4_sumIn_64 : dcd cX4_sumIn 64 (.iadd) 1 65 := by decide +kernel
theorem dX4_sumIn_65 : dcd cX4_sumIn 65 (.iaload) 1 66 := by decide +kernel
theorem dX4_sumIn_66 : dcd cX4_sumIn 66 (.isub) 1 67 := by decide +kernel
theorem dX4_sumIn_67 : dcd cX4_sumIn 67 (.aload_n 1) 1 68 := by decide +kernel
theorem dX4_sumIn_68 : dcd cX4_sumIn 68 (.iload 6) 2 70 := by decide +kernel
theorem dX4_sumIn_70 : dcd cX4_sumIn 70 (.iaload) 1 71 := by decide +kernel
theorem dX4_sumIn_71 : dcd cX4_sumIn 71 (.iadd) 1 72 := by decide +kernel
theorem dX4_sumIn_72 : decode cX4_sumIn 72 = .ok (.ireturn, 1) := by decide +kernel
theorem dX4_isRipe_0 : dcd cX4_isRipe 0 (.iload_n 1) 1 1 := by decide +kernel
theorem dX4_isRipe_1 : dcd cX4_isRipe 1 (.aload_n 0) 1 2 := by decide +kernel
theorem dX4_isRipe_2 : dcd cX4_isRipe 2 (.getfield 21) 3 5 := by decide +kernel
theorem dX4_isRipe_5 : dcd cX4_isRipe 5 (.iconst 1) 1 6 := by decide +kernel
theorem dX4_isRipe_6 : dcd cX4_isRipe 6 (.isub) 1 7 := by decide +kernel
theorem dX4_isRipe_7 : dcd cX4_isRipe 7 (.iload_n 1) 1 8 := by decide +kernel
theorem dX4_isRipe_8 : dcd cX4_isRipe 8 (.isub) 1 9 := by decide +kernel
theorem dX4_isRipe_9 : dcd cX4_isRipe 9 (.invokestatic 64) 3 12 := by decide +kernel
theorem dX4_isRipe_12 : dcd cX4_isRipe 12 (.iload_n 2) 1 13 := by decide +kernel
theorem dX4_isRipe_13 : dcd cX4_isRipe 13 (.aload_n 0) 1 14 := by decide +kernel
theorem dX4_isRipe_14 : dcd cX4_isRipe 14 (.getfield 25) 3 17 := by decide +kernel
theorem dX4_isRipe_17 : dcd cX4_isRipe 17 (.iconst 1) 1 18 := by decide +kernel
theorem dX4_isRipe_18 : dcd cX4_isRipe 18 (.isub) 1 19 := by decide +kernel
theorem dX4_isRipe_19 : dcd cX4_isRipe 19 (.iload_n 2) 1 20 := by decide +kernel
theorem dX4_isRipe_20 : dcd cX4_isRipe 20 (.isub) 1 21 := by decide +kernel
theorem dX4_isRipe_21 : dcd cX4_isRipe 21 (.invokestatic 64) 3 24 := by decide +kernel
theorem dX4_isRipe_24 : dcd cX4_isRipe 24 (.invokestatic 64) 3 27 := by decide +kernel
theorem dX4_isRipe_27 : dcd cX4_isRipe 27 (.istore 4) 2 29 := by decide +kernel
theorem dX4_isRipe_29 : dcd cX4_isRipe 29 (.aload_n 0) 1 30 := by decide +kernel
theorem dX4_isRipe_30 : dcd cX4_isRipe 30 (.getfield 28) 3 33 := by decide +kernel
theorem dX4_isRipe_33 : dcd cX4_isRipe 33 (.iconst 2) 1 34 := by decide +kernel
theorem dX4_isRipe_34 : dcd cX4_isRipe 34 (.iload 4) 2 36 := by decide +kernel
theorem dX4_isRipe_36 : dcd cX4_isRipe 36 (.imul) 1 37 := by decide +kernel
theorem dX4_isRipe_37 : dcd cX4_isRipe 37 (.iadd) 1 38 := by decide +kernel
theorem dX4_isRipe_38 : dcd cX4_isRipe 38 (.istore 5) 2 40 := by decide +kernel
theorem dX4_isRipe_40 : dcd cX4_isRipe 40 (.aload_n 0) 1 41 := by decide +kernel
theorem dX4_isRipe_41 : dcd cX4_isRipe 41 (.iload_n 1) 1 42 := by decide +kernel
theorem dX4_isRipe_42 : dcd cX4_isRipe 42 (.iload_n 2) 1 43 := by decide +kernel
theorem dX4_isRipe_43 : dcd cX4_isRipe 43 (.invokevirtual 49) 3 46 := by decide +kernel
theorem dX4_isRipe_46 : dcb cX4_isRipe 46 (.ifCond .ne (24)) (24) 70 49 := by decide +kernel
theorem dX4_isRipe_49 : dcd cX4_isRipe 49 (.iload_n 3) 1 50 := by decide +kernel
theorem dX4_isRipe_50 : dcd cX4_isRipe 50 (.iload 5) 2 52 := by decide +kernel
theorem dX4_isRipe_52 : dcb cX4_isRipe 52 (.if_icmp .lt (18)) (18) 70 55 := by decide +kernel
theorem dX4_isRipe_55 : dcd cX4_isRipe 55 (.iload_n 3) 1 56 := by decide +kernel
theorem dX4_isRipe_56 : dcd cX4_isRipe 56 (.iload 5) 2 58 := by decide +kernel
theorem dX4_isRipe_58 : dcd cX4_isRipe 58 (.aload_n 0) 1 59 := by decide +kernel
theorem dX4_isRipe_59 : dcd cX4_isRipe 59 (.getfield 31) 3 62 := by decide +kernel
theorem dX4_isRipe_62 : dcd cX4_isRipe 62 (.iadd) 1 63 := by decide +kernel
theorem dX4_isRipe_63 : dcb cX4_isRipe 63 (.if_icmp .ge (7)) (7) 70 66 := by decide +kernel
theorem dX4_isRipe_66 : dcd cX4_isRipe 66 (.iconst 1) 1 67 := by decide +kernel
theorem dX4_isRipe_67 : dcb cX4_isRipe 67 (.goto (4)) (4) 71 70 := by decide +kernel
theorem dX4_isRipe_70 : dcd cX4_isRipe 70 (.iconst 0) 1 71 := by decide +kernel
theorem dX4_isRipe_71 : decode cX4_isRipe 71 = .ok (.ireturn, 1) := by decide +kernel
theorem dX5_init_0 : dcd cX5_init 0 (.aload_n 0) 1 1 := by decide +kernel
theorem dX5_init_1 : dcd cX5_init 1 (.aload_n 1) 1 2 := by decide +kernel
theorem dX5_init_2 : dcd cX5_init 2 (.iconst 1) 1 3 := by decide +kernel
theorem dX5_init_3 : dcd cX5_init 3 (.invokespecial 3) 3 6 := by decide +kernel
theorem dX5_init_6 : dcd cX5_init 6 (.aload_n 0) 1 7 := by decide +kernel
theorem dX5_init_7 : dcd cX5_init 7 (.bipush 6) 2 9 := by decide +kernel
theorem dX5_init_9 : dcd cX5_init 9 (.newarray .int) 2 11 := by decide +kernel
theorem dX5_init_11 : dcd cX5_init 11 (.putfield 9) 3 14 := by decide +kernel
theorem dX5_init_14 : dcd cX5_init 14 (.aload_n 0) 1 15 := by decide +kernel
theorem dX5_init_15 : dcd cX5_init 15 (.bipush 6) 2 17 := by decide +kernel
theorem dX5_init_17 : dcd cX5_init 17 (.newarray .int) 2 19 := by decide +kernel
theorem dX5_init_19 : dcd cX5_init 19 (.putfield 15) 3 22 := by decide +kernel
theorem dX5_init_22 : dcd cX5_init 22 (.aload_n 0) 1 23 := by decide +kernel
theorem dX5_init_23 : dcd cX5_init 23 (.bipush 6) 2 25 := by decide +kernel
theorem dX5_init_25 : dcd cX5_init 25 (.newarray .int) 2 27 := by decide +kernel
theorem dX5_init_27 : dcd cX5_init 27 (.putfield 18) 3 30 := by decide +kernel
theorem dX5_init_30 : dcd cX5_init 30 (.aload_n 0) 1 31 := by decide +kernel
theorem dX5_init_31 : dcd cX5_init 31 (.bipush 6) 2 33 := by decide +kernel
theorem dX5_init_33 : dcd cX5_init 33 (.newarray .int) 2 35 := by decide +kernel
theorem dX5_init_35 : dcd cX5_init 35 (.putfield 21) 3 38 := by decide +kernel
theorem dX5_init_38 : decode cX5_init 38 = .ok (.return_, 1) := by decide +kernel
theorem dX5_enter_0 : dcd cX5_enter 0 (.aload_n 0) 1 1 := by decide +kernel
theorem dX5_enter_1 : dcd cX5_enter 1 (.getfield 24) 3 4 := by decide +kernel
theorem dX5_enter_4 : dcd cX5_enter 4 (.bipush 6) 2 6 := by decide +kernel
theorem dX5_enter_6 : dcb cX5_enter 6 (.if_icmp .ge (63)) (63) 69 9 := by decide +kernel
theorem dX5_enter_9 : dcd cX5_enter 9 (.aload_n 0) 1 10 := by decide +kernel
theorem dX5_enter_10 : dcd cX5_enter 10 (.getfield 9) 3 13 := by decide +kernel
theorem dX5_enter_13 : dcd cX5_enter 13 (.aload_n 0) 1 14 := by decide +kernel
theorem dX5_enter_14 : dcd cX5_enter 14 (.getfield 24) 3 17 := by decide +kernel
theorem dX5_enter_17 : dcd cX5_enter 17 (.iload_n 1) 1 18 := by decide +kernel
theorem dX5_enter_18 : dcd cX5_enter 18 (.iastore) 1 19 := by decide +kernel
theorem dX5_enter_19 : dcd cX5_enter 19 (.aload_n 0) 1 20 := by decide +kernel
theorem dX5_enter_20 : dcd cX5_enter 20 (.getfield 15) 3 23 := by decide +kernel
theorem dX5_enter_23 : dcd cX5_enter 23 (.aload_n 0) 1 24 := by decide +kernel
theorem dX5_enter_24 : dcd cX5_enter 24 (.getfield 24) 3 27 := by decide +kernel
theorem dX5_enter_27 : dcd cX5_enter 27 (.iload_n 1) 1 28 := by decide +kernel
theorem dX5_enter_28 : dcd cX5_enter 28 (.iload_n 3) 1 29 := by decide +kernel
theorem dX5_enter_29 : dcd cX5_enter 29 (.iadd) 1 30 := by decide +kernel
theorem dX5_enter_30 : dcd cX5_enter 30 (.iastore) 1 31 := by decide +kernel
theorem dX5_enter_31 : dcd cX5_enter 31 (.aload_n 0) 1 32 := by decide +kernel
theorem dX5_enter_32 : dcd cX5_enter 32 (.getfield 18) 3 35 := by decide +kernel
theorem dX5_enter_35 : dcd cX5_enter 35 (.aload_n 0) 1 36 := by decide +kernel
theorem dX5_enter_36 : dcd cX5_enter 36 (.getfield 24) 3 39 := by decide +kernel
theorem dX5_enter_39 : dcd cX5_enter 39 (.iload_n 2) 1 40 := by decide +kernel
theorem dX5_enter_40 : dcd cX5_enter 40 (.iastore) 1 41 := by decide +kernel
theorem dX5_enter_41 : dcd cX5_enter 41 (.aload_n 0) 1 42 := by decide +kernel
theorem dX5_enter_42 : dcd cX5_enter 42 (.getfield 21) 3 45 := by decide +kernel
theorem dX5_enter_45 : dcd cX5_enter 45 (.aload_n 0) 1 46 := by decide +kernel
theorem dX5_enter_46 : dcd cX5_enter 46 (.getfield 24) 3 49 := by decide +kernel
theorem dX5_enter_49 : dcd cX5_enter 49 (.iload_n 2) 1 50 := by decide +kernel
theorem dX5_enter_50 : dcd cX5_enter 50 (.iload 4) 2 52 := by decide +kernel
theorem dX5_enter_52 : dcd cX5_enter 52 (.iadd) 1 53 := by decide +kernel
theorem dX5_enter_53 : dcd cX5_enter 53 (.iastore) 1 54 := by decide +kernel
theorem dX5_enter_54 : dcd cX5_enter 54 (.aload_n 0) 1 55 := by decide +kernel
theorem dX5_enter_55 : dcd cX5_enter 55 (.dup) 1 56 := by decide +kernel
theorem dX5_enter_56 : dcd cX5_enter 56 (.getfield 24) 3 59 := by decide +kernel
theorem dX5_enter_59 : dcd cX5_enter 59 (.iconst 1) 1 60 := by decide +kernel
theorem dX5_enter_60 : dcd cX5_enter 60 (.iadd) 1 61 := by decide +kernel
theorem dX5_enter_61 : dcd cX5_enter 61 (.putfield 24) 3 64 := by decide +kernel
theorem dX5_enter_64 : dcd cX5_enter 64 (.aload_n 0) 1 65 := by decide +kernel
theorem dX5_enter_65 : dcd cX5_enter 65 (.iconst 0) 1 66 := by decide +kernel
theorem dX5_enter_66 : dcd cX5_enter 66 (.putfield 28) 3 69 := by decide +kernel
theorem dX5_enter_69 : decode cX5_enter 69 = .ok (.return_, 1) := by decide +kernel
theorem dX5_empty_0 : dcd cX5_empty 0 (.aload_n 0) 1 1 := by decide +kernel
theorem dX5_empty_1 : dcd cX5_empty 1 (.iconst 0) 1 2 := by decide +kernel
theorem dX5_empty_2 : dcd cX5_empty 2 (.putfield 24) 3 5 := by decide +kernel
theorem dX5_empty_5 : dcd cX5_empty 5 (.aload_n 0) 1 6 := by decide +kernel
theorem dX5_empty_6 : dcd cX5_empty 6 (.iconst 0) 1 7 := by decide +kernel
theorem dX5_empty_7 : dcd cX5_empty 7 (.putfield 28) 3 10 := by decide +kernel
theorem dX5_empty_10 : decode cX5_empty 10 = .ok (.return_, 1) := by decide +kernel
theorem dX5_touches_0 : dcd cX5_touches 0 (.iconst 0) 1 1 := by decide +kernel
theorem dX5_touches_1 : dcd cX5_touches 1 (.istore 5) 2 3 := by decide +kernel
theorem dX5_touches_3 : dcd cX5_touches 3 (.iload 5) 2 5 := by decide +kernel
theorem dX5_touches_5 : dcd cX5_touches 5 (.aload_n 0) 1 6 := by decide +kernel
theorem dX5_touches_6 : dcd cX5_touches 6 (.getfield 24) 3 9 := by decide +kernel
theorem dX5_touches_9 : dcb cX5_touches 9 (.if_icmp .ge (29)) (29) 38 12 := by decide +kernel
theorem dX5_touches_12 : dcd cX5_touches 12 (.aload_n 0) 1 13 := by decide +kernel
theorem dX5_touches_13 : dcd cX5_touches 13 (.iload 5) 2 15 := by decide +kernel
theorem dX5_touches_15 : dcd cX5_touches 15 (.iload_n 1) 1 16 := by decide +kernel
theorem dX5_touches_16 : dcd cX5_touches 16 (.iload_n 2) 1 17 := by decide +kernel
theorem dX5_touches_17 : dcd cX5_touches 17 (.iload_n 1) 1 18 := by decide +kernel
theorem dX5_touches_18 : dcd cX5_touches 18 (.iload_n 3) 1 19 := by decide +kernel
theorem dX5_touches_19 : dcd cX5_touches 19 (.iadd) 1 20 := by decide +kernel
theorem dX5_touches_20 : dcd cX5_touches 20 (.iload_n 2) 1 21 := by decide +kernel
theorem dX5_touches_21 : dcd cX5_touches 21 (.iload 4) 2 23 := by decide +kernel
theorem dX5_touches_23 : dcd cX5_touches 23 (.iadd) 1 24 := by decide +kernel
theorem dX5_touches_24 : dcd cX5_touches 24 (.invokevirtual 32) 3 27 := by decide +kernel
theorem dX5_touches_27 : dcb cX5_touches 27 (.ifCond .ne (5)) (5) 32 30 := by decide +kernel
theorem dX5_touches_30 : dcd cX5_touches 30 (.iconst 1) 1 31 := by decide +kernel
theorem dX5_touches_31 : decode cX5_touches 31 = .ok (.ireturn, 1) := by decide +kernel
theorem dX5_touches_32 : dcd cX5_touches 32 (.iinc 5 1) 3 35 := by decide +kernel
theorem dX5_touches_35 : dcb cX5_touches 35 (.goto (-32)) (-32) 3 38 := by decide +kernel
theorem dX5_touches_38 : dcd cX5_touches 38 (.iconst 0) 1 39 := by decide +kernel
theorem dX5_touches_39 : decode cX5_touches 39 = .ok (.ireturn, 1) := by decide +kernel
theorem dX5_isApart_0 : dcd cX5_isApart 0 (.aload_n 0) 1 1 := by decide +kernel
theorem dX5_isApart_1 : dcd cX5_isApart 1 (.getfield 9) 3 4 := by decide +kernel
theorem dX5_isApart_4 : dcd cX5_isApart 4 (.iload_n 1) 1 5 := by decide +kernel
theorem dX5_isApart_5 : dcd cX5_isApart 5 (.iaload) 1 6 := by decide +kernel
theorem dX5_isApart_6 : dcd cX5_isApart 6 (.iload 4) 2 8 := by decide +kernel
theorem dX5_isApart_8 : dcb cX5_isApart 8 (.if_icmp .ge (34)) (34) 42 11 := by decide +kernel
theorem dX5_isApart_11 : dcd cX5_isApart 11 (.aload_n 0) 1 12 := by decide +kernel
theorem dX5_isApart_12 : dcd cX5_isApart 12 (.getfield 15) 3 15 := by decide +kernel
theorem dX5_isApart_15 : dcd cX5_isApart 15 (.iload_n 1) 1 16 := by decide +kernel
theorem dX5_isApart_16 : dcd cX5_isApart 16 (.iaload) 1 17 := by decide +kernel
theorem dX5_isApart_17 : dcd cX5_isApart 17 (.iload_n 2) 1 18 := by decide +kernel
theorem dX5_isApart_18 : dcb cX5_isApart 18 (.if_icmp .le (24)) (24) 42 21 := by decide +kernel
theorem dX5_isApart_21 : dcd cX5_isApart 21 (.aload_n 0) 1 22 := by decide +kernel
theorem dX5_isApart_22 : dcd cX5_isApart 22 (.getfield 18) 3 25 := by decide +kernel
theorem dX5_isApart_25 : dcd cX5_isApart 25 (.iload_n 1) 1 26 := by decide +kernel
theorem dX5_isApart_26 : dcd cX5_isApart 26 (.iaload) 1 27 := by decide +kernel
theorem dX5_isApart_27 : dcd cX5_isApart 27 (.iload 5) 2 29 := by decide +kernel
theorem dX5_isApart_29 : dcb cX5_isApart 29 (.if_icmp .ge (13)) (13) 42 32 := by decide +kernel
theorem dX5_isApart_32 : dcd cX5_isApart 32 (.aload_n 0) 1 33 := by decide +kernel
theorem dX5_isApart_33 : dcd cX5_isApart 33 (.getfield 21) 3 36 := by decide +kernel
theorem dX5_isApart_36 : dcd cX5_isApart 36 (.iload_n 1) 1 37 := by decide +kernel
theorem dX5_isApart_37 : dcd cX5_isApart 37 (.iaload) 1 38 := by decide +kernel
theorem dX5_isApart_38 : dcd cX5_isApart 38 (.iload_n 3) 1 39 := by decide +kernel
theorem dX5_isApart_39 : dcb cX5_isApart 39 (.if_icmp .gt (7)) (7) 46 42 := by decide +kernel
theorem dX5_isApart_42 : dcd cX5_isApart 42 (.iconst 1) 1 43 := by decide +kernel
theorem dX5_isApart_43 : dcb cX5_isApart 43 (.goto (4)) (4) 47 46 := by decide +kernel
theorem dX5_isApart_46 : dcd cX5_isApart 46 (.iconst 0) 1 47 := by decide +kernel
theorem dX5_isApart_47 : decode cX5_isApart 47 = .ok (.ireturn, 1) := by decide +kernel
theorem dX5_fewest_0 : dcd cX5_fewest 0 (.aload_n 0) 1 1 := by decide +kernel
theorem dX5_fewest_1 : dcd cX5_fewest 1 (.getfield 28) 3 4 := by decide +kernel
theorem dX5_fewest_4 : dcb cX5_fewest 4 (.ifCond .ne (13)) (13) 17 7 := by decide +kernel
theorem dX5_fewest_7 : dcd cX5_fewest 7 (.aload_n 0) 1 8 := by decide +kernel
theorem dX5_fewest_8 : dcd cX5_fewest 8 (.iconst 0) 1 9 := by decide +kernel
theorem dX5_fewest_9 : dcd cX5_fewest 9 (.invokevirtual 36) 3 12 := by decide +kernel
theorem dX5_fewest_12 : dcd cX5_fewest 12 (.aload_n 0) 1 13 := by decide +kernel
theorem dX5_fewest_13 : dcd cX5_fewest 13 (.iconst 1) 1 14 := by decide +kernel
theorem dX5_fewest_14 : dcd cX5_fewest 14 (.putfield 28) 3 17 := by decide +kernel
theorem dX5_fewest_17 : dcd cX5_fewest 17 (.aload_n 0) 1 18 := by decide +kernel
theorem dX5_fewest_18 : dcd cX5_fewest 18 (.iconst 0) 1 19 := by decide +kernel
theorem dX5_fewest_19 : dcd cX5_fewest 19 (.invokevirtual 40) 3 22 := by decide +kernel
theorem dX5_fewest_22 : decode cX5_fewest 22 = .ok (.ireturn, 1) := by decide +kernel
theorem dX5_verdict_0 : dcd cX5_verdict 0 (.iload_n 1) 1 1 := by decide +kernel
theorem dX5_verdict_1 : dcd cX5_verdict 1 (.iload_n 3) 1 2 := by decide +kernel
theorem dX5_verdict_2 : dcd cX5_verdict 2 (.iadd) 1 3 := by decide +kernel
theorem dX5_verdict_3 : dcd cX5_verdict 3 (.istore 6) 2 5 := by decide +kernel
theorem dX5_verdict_5 : dcd cX5_verdict 5 (.iload_n 2) 1 6 := by decide +kernel
theorem dX5_verdict_6 : dcd cX5_verdict 6 (.iload 4) 2 8 := by decide +kernel
theorem dX5_verdict_8 : dcd cX5_verdict 8 (.iadd) 1 9 := by decide +kernel
theorem dX5_verdict_9 : dcd cX5_verdict 9 (.istore 7) 2 11 := by decide +kernel
theorem dX5_verdict_11 : dcd cX5_verdict 11 (.iconst 0) 1 12 := by decide +kernel
theorem dX5_verdict_12 : dcd cX5_verdict 12 (.istore 8) 2 14 := by decide +kernel
theorem dX5_verdict_14 : dcd cX5_verdict 14 (.iconst 0) 1 15 := by decide +kernel
theorem dX5_verdict_15 : dcd cX5_verdict 15 (.istore 9) 2 17 := by decide +kernel
theorem dX5_verdict_17 : dcd cX5_verdict 17 (.iload 9) 2 19 := by decide +kernel
theorem dX5_verdict_19 : dcd cX5_verdict 19 (.aload_n 0) 1 20 := by decide +kernel
theorem dX5_verdict_20 : dcd cX5_verdict 20 (.getfield 24) 3 23 := by decide +kernel
theorem dX5_verdict_23 : dcb cX5_verdict 23 (.if_icmp .ge (122)) (122) 145 26 := by decide +kernel
theorem dX5_verdict_26 : dcd cX5_verdict 26 (.aload_n 0) 1 27 := by decide +kernel
theorem dX5_verdict_27 : dcd cX5_verdict 27 (.iload 9) 2 29 := by decide +kernel
theorem dX5_verdict_29 : dcd cX5_verdict 29 (.iload_n 1) 1 30 := by decide +kernel
theorem dX5_verdict_30 : dcd cX5_verdict 30 (.iload_n 2) 1 31 := by decide +kernel
theorem dX5_verdict_31 : dcd cX5_verdict 31 (.iload 6) 2 33 := by decide +kernel
theorem dX5_verdict_33 : dcd cX5_verdict 33 (.iload 7) 2 35 := by decide +kernel
theorem dX5_verdict_35 : dcd cX5_verdict 35 (.invokevirtual 32) 3 38 := by decide +kernel
theorem dX5_verdict_38 : dcb cX5_verdict 38 (.ifCond .ne (101)) (101) 139 41 := by decide +kernel
theorem dX5_verdict_41 : dcd cX5_verdict 41 (.aload_n 0) 1 42 := by decide +kernel
theorem dX5_verdict_42 : dcd cX5_verdict 42 (.getfield 9) 3 45 := by decide +kernel
theorem dX5_verdict_45 : dcd cX5_verdict 45 (.iload 9) 2 47 := by decide +kernel
theorem dX5_verdict_47 : dcd cX5_verdict 47 (.iaload) 1 48 := by decide +kernel
theorem dX5_verdict_48 : dcd cX5_verdict 48 (.iload_n 1) 1 49 := by decide +kernel
theorem dX5_verdict_49 : dcb cX5_verdict 49 (.if_icmp .lt (38)) (38) 87 52 := by decide +kernel
theorem dX5_verdict_52 : dcd cX5_verdict 52 (.aload_n 0) 1 53 := by decide +kernel
theorem dX5_verdict_53 : dcd cX5_verdict 53 (.getfield 15) 3 56 := by decide +kernel
theorem dX5_verdict_56 : dcd cX5_verdict 56 (.iload 9) 2 58 := by decide +kernel
theorem dX5_verdict_58 : dcd cX5_verdict 58 (.iaload) 1 59 := by decide +kernel
theorem dX5_verdict_59 : dcd cX5_verdict 59 (.iload 6) 2 61 := by decide +kernel
theorem dX5_verdict_61 : dcb cX5_verdict 61 (.if_icmp .gt (26)) (26) 87 64 := by decide +kernel
theorem dX5_verdict_64 : dcd cX5_verdict 64 (.aload_n 0) 1 65 := by decide +kernel
theorem dX5_verdict_65 : dcd cX5_verdict 65 (.getfield 18) 3 68 := by decide +kernel
theorem dX5_verdict_68 : dcd cX5_verdict 68 (.iload 9) 2 70 := by decide +kernel
theorem dX5_verdict_70 : dcd cX5_verdict 70 (.iaload) 1 71 := by decide +kernel
theorem dX5_verdict_71 : dcd cX5_verdict 71 (.iload_n 2) 1 72 := by decide +kernel
theorem dX5_verdict_72 : dcb cX5_verdict 72 (.if_icmp .lt (15)) (15) 87 75 := by decide +kernel
theorem dX5_verdict_75 : dcd cX5_verdict 75 (.aload_n 0) 1 76 := by decide +kernel
theorem dX5_verdict_76 : dcd cX5_verdict 76 (.getfield 21) 3 79 := by decide +kernel
theorem dX5_verdict_79 : dcd cX5_verdict 79 (.iload 9) 2 81 := by decide +kernel
theorem dX5_verdict_81 : dcd cX5_verdict 81 (.iaload) 1 82 := by decide +kernel
theorem dX5_verdict_82 : dcd cX5_verdict 82 (.iload 7) 2 84 := by decide +kernel
theorem dX5_verdict_84 : dcb cX5_verdict 84 (.if_icmp .le (6)) (6) 90 87 := by decide +kernel
theorem dX5_verdict_87 : dcd cX5_verdict 87 (.ldc 44) 2 89 := by decide +kernel
theorem dX5_verdict_89 : decode cX5_verdict 89 = .ok (.ireturn, 1) := by decide +kernel
theorem dX5_verdict_90 : dcd cX5_verdict 90 (.aload_n 0) 1 91 := by decide +kernel
theorem dX5_verdict_91 : dcd cX5_verdict 91 (.getfield 9) 3 94 := by decide +kernel
theorem dX5_verdict_94 : dcd cX5_verdict 94 (.iload 9) 2 96 := by decide +kernel
theorem dX5_verdict_96 : dcd cX5_verdict 96 (.iaload) 1 97 := by decide +kernel
theorem dX5_verdict_97 : dcd cX5_verdict 97 (.iload_n 1) 1 98 := by decide +kernel
theorem dX5_verdict_98 : dcb cX5_verdict 98 (.if_icmp .gt (38)) (38) 136 101 := by decide +kernel
theorem dX5_verdict_101 : dcd cX5_verdict 101 (.aload_n 0) 1 102 := by decide +kernel
theorem dX5_verdict_102 : dcd cX5_verdict 102 (.getfield 15) 3 105 := by decide +kernel
theorem dX5_verdict_105 : dcd cX5_verdict 105 (.iload 9) 2 107 := by decide +kernel
theorem dX5_verdict_107 : dcd cX5_verdict 107 (.iaload) 1 108 := by decide +kernel
theorem dX5_verdict_108 : dcd cX5_verdict 108 (.iload 6) 2 110 := by decide +kernel
theorem dX5_verdict_110 : dcb cX5_verdict 110 (.if_icmp .lt (26)) (26) 136 113 := by decide +kernel
theorem dX5_verdict_113 : dcd cX5_verdict 113 (.aload_n 0) 1 114 := by decide +kernel
theorem dX5_verdict_114 : dcd cX5_verdict 114 (.getfield 18) 3 117 := by decide +kernel
theorem dX5_verdict_117 : dcd cX5_verdict 117 (.iload 9) 2 119 := by decide +kernel
theorem dX5_verdict_119 : dcd cX5_verdict 119 (.iaload) 1 120 := by decide +kernel
theorem dX5_verdict_120 : dcd cX5_verdict 120 (.iload_n 2) 1 121 := by decide +kernel
theorem dX5_verdict_121 : dcb cX5_verdict 121 (.if_icmp .gt (15)) (15) 136 124 := by decide +kernel
theorem dX5_verdict_124 : dcd cX5_verdict 124 (.aload_n 0) 1 125 := by decide +kernel
theorem dX5_verdict_125 : dcd cX5_verdict 125 (.getfield 21) 3 128 := by decide +kernel
theorem dX5_verdict_128 : dcd cX5_verdict 128 (.iload 9) 2 130 := by decide +kernel
theorem dX5_verdict_130 : dcd cX5_verdict 130 (.iaload) 1 131 := by decide +kernel
theorem dX5_verdict_131 : dcd cX5_verdict 131 (.iload 7) 2 133 := by decide +kernel
theorem dX5_verdict_133 : dcb cX5_verdict 133 (.if_icmp .ge (6)) (6) 139 136 := by decide +kernel
theorem dX5_verdict_136 : dcd cX5_verdict 136 (.iconst (-1)) 1 137 := by decide +kernel
theorem dX5_verdict_137 : dcd cX5_verdict 137 (.istore 8) 2 139 := by decide +kernel
theorem dX5_verdict_139 : dcd cX5_verdict 139 (.iinc 9 1) 3 142 := by decide +kernel
theorem dX5_verdict_142 : dcb cX5_verdict 142 (.goto (-125)) (-125) 17 145 := by decide +kernel
theorem dX5_verdict_145 : dcd cX5_verdict 145 (.iload 8) 2 147 := by decide +kernel
theorem dX5_verdict_147 : decode cX5_verdict 147 = .ok (.ireturn, 1) := by decide +kernel
theorem dX5_cutPrice_0 : dcd cX5_cutPrice 0 (.iconst 1) 1 1 := by decide +kernel
theorem dX5_cutPrice_1 : decode cX5_cutPrice 1 = .ok (.ireturn, 1) := by decide +kernel
theorem dX6_init_0 : dcd cX6_init 0 (.aload_n 0) 1 1 := by decide +kernel
theorem dX6_init_1 : dcd cX6_init 1 (.aload_n 1) 1 2 := by decide +kernel
theorem dX6_init_2 : dcd cX6_init 2 (.bipush 16) 2 4 := by decide +kernel
theorem dX6_init_4 : dcd cX6_init 4 (.invokespecial 3) 3 7 := by decide +kernel
theorem dX6_init_7 : dcd cX6_init 7 (.aload_n 0) 1 8 := by decide +kernel
theorem dX6_init_8 : dcd cX6_init 8 (.iconst 4) 1 9 := by decide +kernel
theorem dX6_init_9 : dcd cX6_init 9 (.anewarray 9) 3 12 := by decide +kernel
theorem dX6_init_12 : dcd cX6_init 12 (.putfield 11) 3 15 := by decide +kernel
theorem dX6_init_15 : dcd cX6_init 15 (.aload_n 0) 1 16 := by decide +kernel
theorem dX6_init_16 : dcd cX6_init 16 (.bipush 16) 2 18 := by decide +kernel
theorem dX6_init_18 : dcd cX6_init 18 (.newarray .int) 2 20 := by decide +kernel
theorem dX6_init_20 : dcd cX6_init 20 (.putfield 17) 3 23 := by decide +kernel
theorem dX6_init_23 : decode cX6_init 23 = .ok (.return_, 1) := by decide +kernel
theorem dX6_enter_0 : dcd cX6_enter 0 (.aload_n 0) 1 1 := by decide +kernel
theorem dX6_enter_1 : dcd cX6_enter 1 (.getfield 21) 3 4 := by decide +kernel
theorem dX6_enter_4 : dcd cX6_enter 4 (.iconst 4) 1 5 := by decide +kernel
theorem dX6_enter_5 : dcb cX6_enter 5 (.if_icmp .ge (28)) (28) 33 8 := by decide +kernel
theorem dX6_enter_8 : dcd cX6_enter 8 (.aload_n 0) 1 9 := by decide +kernel
theorem dX6_enter_9 : dcd cX6_enter 9 (.getfield 11) 3 12 := by decide +kernel
theorem dX6_enter_12 : dcd cX6_enter 12 (.aload_n 0) 1 13 := by decide +kernel
theorem dX6_enter_13 : dcd cX6_enter 13 (.getfield 21) 3 16 := by decide +kernel
theorem dX6_enter_16 : dcd cX6_enter 16 (.aload_n 1) 1 17 := by decide +kernel
theorem dX6_enter_17 : dcd cX6_enter 17 (.aastore) 1 18 := by decide +kernel
theorem dX6_enter_18 : dcd cX6_enter 18 (.aload_n 0) 1 19 := by decide +kernel
theorem dX6_enter_19 : dcd cX6_enter 19 (.dup) 1 20 := by decide +kernel
theorem dX6_enter_20 : dcd cX6_enter 20 (.getfield 21) 3 23 := by decide +kernel
theorem dX6_enter_23 : dcd cX6_enter 23 (.iconst 1) 1 24 := by decide +kernel
theorem dX6_enter_24 : dcd cX6_enter 24 (.iadd) 1 25 := by decide +kernel
theorem dX6_enter_25 : dcd cX6_enter 25 (.putfield 21) 3 28 := by decide +kernel
theorem dX6_enter_28 : dcd cX6_enter 28 (.aload_n 0) 1 29 := by decide +kernel
theorem dX6_enter_29 : dcd cX6_enter 29 (.iconst 0) 1 30 := by decide +kernel
theorem dX6_enter_30 : dcd cX6_enter 30 (.putfield 25) 3 33 := by decide +kernel
theorem dX6_enter_33 : decode cX6_enter 33 = .ok (.return_, 1) := by decide +kernel
theorem dX6_empty_0 : dcd cX6_empty 0 (.aload_n 0) 1 1 := by decide +kernel
theorem dX6_empty_1 : dcd cX6_empty 1 (.iconst 0) 1 2 := by decide +kernel
theorem dX6_empty_2 : dcd cX6_empty 2 (.putfield 21) 3 5 := by decide +kernel
theorem dX6_empty_5 : dcd cX6_empty 5 (.aload_n 0) 1 6 := by decide +kernel
theorem dX6_empty_6 : dcd cX6_empty 6 (.iconst 0) 1 7 := by decide +kernel
theorem dX6_empty_7 : dcd cX6_empty 7 (.putfield 25) 3 10 := by decide +kernel
theorem dX6_empty_10 : decode cX6_empty 10 = .ok (.return_, 1) := by decide +kernel
theorem dX6_everyAsk_0 : dcd cX6_everyAsk 0 (.iconst 1) 1 1 := by decide +kernel
theorem dX6_everyAsk_1 : dcd cX6_everyAsk 1 (.aload_n 0) 1 2 := by decide +kernel
theorem dX6_everyAsk_2 : dcd cX6_everyAsk 2 (.getfield 21) 3 5 := by decide +kernel
theorem dX6_everyAsk_5 : dcd cX6_everyAsk 5 (.ishl) 1 6 := by decide +kernel
theorem dX6_everyAsk_6 : dcd cX6_everyAsk 6 (.iconst 1) 1 7 := by decide +kernel
theorem dX6_everyAsk_7 : dcd cX6_everyAsk 7 (.isub) 1 8 := by decide +kernel
theorem dX6_everyAsk_8 : decode cX6_everyAsk 8 = .ok (.ireturn, 1) := by decide +kernel
theorem dX6_shortest_0 : dcd cX6_shortest 0 (.aload_n 0) 1 1 := by decide +kernel
theorem dX6_shortest_1 : dcd cX6_shortest 1 (.getfield 25) 3 4 := by decide +kernel
theorem dX6_shortest_4 : dcb cX6_shortest 4 (.ifCond .ne (20)) (20) 24 7 := by decide +kernel
theorem dX6_shortest_7 : dcd cX6_shortest 7 (.aload_n 0) 1 8 := by decide +kernel
theorem dX6_shortest_8 : dcd cX6_shortest 8 (.invokevirtual 29) 3 11 := by decide +kernel
theorem dX6_shortest_11 : dcd cX6_shortest 11 (.aload_n 0) 1 12 := by decide +kernel
theorem dX6_shortest_12 : dcd cX6_shortest 12 (.aload_n 0) 1 13 := by decide +kernel
theorem dX6_shortest_13 : dcd cX6_shortest 13 (.invokevirtual 33) 3 16 := by decide +kernel
theorem dX6_shortest_16 : dcd cX6_shortest 16 (.invokevirtual 37) 3 19 := by decide +kernel
theorem dX6_shortest_19 : dcd cX6_shortest 19 (.aload_n 0) 1 20 := by decide +kernel
theorem dX6_shortest_20 : dcd cX6_shortest 20 (.iconst 1) 1 21 := by decide +kernel
theorem dX6_shortest_21 : dcd cX6_shortest 21 (.putfield 25) 3 24 := by decide +kernel
theorem dX6_shortest_24 : dcd cX6_shortest 24 (.aload_n 0) 1 25 := by decide +kernel
theorem dX6_shortest_25 : dcd cX6_shortest 25 (.aload_n 0) 1 26 := by decide +kernel
theorem dX6_shortest_26 : dcd cX6_shortest 26 (.invokevirtual 33) 3 29 := by decide +kernel
theorem dX6_shortest_29 : dcd cX6_shortest 29 (.invokevirtual 41) 3 32 := by decide +kernel
theorem dX6_shortest_32 : decode cX6_shortest 32 = .ok (.ireturn, 1) := by decide +kernel
theorem dX6_addUpWishes_0 : dcd cX6_addUpWishes 0 (.iconst 0) 1 1 := by decide +kernel
theorem dX6_addUpWishes_1 : dcd cX6_addUpWishes 1 (.istore_n 1) 1 2 := by decide +kernel
theorem dX6_addUpWishes_2 : dcd cX6_addUpWishes 2 (.iload_n 1) 1 3 := by decide +kernel
theorem dX6_addUpWishes_3 : dcd cX6_addUpWishes 3 (.aload_n 0) 1 4 := by decide +kernel
theorem dX6_addUpWishes_4 : dcd cX6_addUpWishes 4 (.invokevirtual 33) 3 7 := by decide +kernel
theorem dX6_addUpWishes_7 : dcb cX6_addUpWishes 7 (.if_icmp .gt (59)) (59) 66 10 := by decide +kernel
theorem dX6_addUpWishes_10 : dcd cX6_addUpWishes 10 (.iconst 0) 1 11 := by decide +kernel
theorem dX6_addUpWishes_11 : dcd cX6_addUpWishes 11 (.istore_n 2) 1 12 := by decide +kernel
theorem dX6_addUpWishes_12 : dcd cX6_addUpWishes 12 (.iconst 0) 1 13 := by decide +kernel
theorem dX6_addUpWishes_13 : dcd cX6_addUpWishes 13 (.istore_n 3) 1 14 := by decide +kernel
theorem dX6_addUpWishes_14 : dcd cX6_addUpWishes 14 (.iload_n 3) 1 15 := by decide +kernel
theorem dX6_addUpWishes_15 : dcd cX6_addUpWishes 15 (.aload_n 0) 1 16 := by decide +kernel
theorem dX6_addUpWishes_16 : dcd cX6_addUpWishes 16 (.getfield 21) 3 19 := by decide +kernel
theorem dX6_addUpWishes_19 : dcb cX6_addUpWishes 19 (.if_icmp .ge (34)) (34) 53 22 := by decide +kernel
theorem dX6_addUpWishes_22 : dcd cX6_addUpWishes 22 (.iload_n 2) 1 23 := by decide +kernel
theorem dX6_addUpWishes_23 : dcd cX6_addUpWishes 23 (.iload_n 1) 1 24 := by decide +kernel
theorem dX6_addUpWishes_24 : dcd cX6_addUpWishes 24 (.iload_n 3) 1 25 := by decide +kernel
theorem dX6_addUpWishes_25 : dcd cX6_addUpWishes 25 (.ishr) 1 26 := by decide +kernel
theorem dX6_addUpWishes_26 : dcd cX6_addUpWishes 26 (.iconst 1) 1 27 := by decide +kernel
theorem dX6_addUpWishes_27 : dcd cX6_addUpWishes 27 (.iand) 1 28 := by decide +kernel
theorem dX6_addUpWishes_28 : dcd cX6_addUpWishes 28 (.iconst 1) 1 29 := by decide +kernel
theorem dX6_addUpWishes_29 : dcb cX6_addUpWishes 29 (.if_icmp .ne (15)) (15) 44 32 := by decide +kernel
theorem dX6_addUpWishes_32 : dcd cX6_addUpWishes 32 (.aload_n 0) 1 33 := by decide +kernel
theorem dX6_addUpWishes_33 : dcd cX6_addUpWishes 33 (.getfield 11) 3 36 := by decide +kernel
theorem dX6_addUpWishes_36 : dcd cX6_addUpWishes 36 (.iload_n 3) 1 37 := by decide +kernel
theorem dX6_addUpWishes_37 : dcd cX6_addUpWishes 37 (.aaload) 1 38 := by decide +kernel
theorem dX6_addUpWishes_38 : dcd cX6_addUpWishes 38 (.getfield 45) 3 41 := by decide +kernel
theorem dX6_addUpWishes_41 : dcb cX6_addUpWishes 41 (.goto (4)) (4) 45 44 := by decide +kernel
theorem dX6_addUpWishes_44 : dcd cX6_addUpWishes 44 (.iconst 0) 1 45 := by decide +kernel
theorem dX6_addUpWishes_45 : dcd cX6_addUpWishes 45 (.iadd) 1 46 := by decide +kernel
theorem dX6_addUpWishes_46 : dcd cX6_addUpWishes 46 (.istore_n 2) 1 47 := by decide +kernel
theorem dX6_addUpWishes_47 : dcd cX6_addUpWishes 47 (.iinc 3 1) 3 50 := by decide +kernel
theorem dX6_addUpWishes_50 : dcb cX6_addUpWishes 50 (.goto (-36)) (-36) 14 53 := by decide +kernel
theorem dX6_addUpWishes_53 : dcd cX6_addUpWishes 53 (.aload_n 0) 1 54 := by decide +kernel
theorem dX6_addUpWishes_54 : dcd cX6_addUpWishes 54 (.getfield 17) 3 57 := by decide +kernel
theorem dX6_addUpWishes_57 : dcd cX6_addUpWishes 57 (.iload_n 1) 1 58 := by decide +kernel
theorem dX6_addUpWishes_58 : dcd cX6_addUpWishes 58 (.iload_n 2) 1 59 := by decide +kernel
theorem dX6_addUpWishes_59 : dcd cX6_addUpWishes 59 (.iastore) 1 60 := by decide +kernel
theorem dX6_addUpWishes_60 : dcd cX6_addUpWishes 60 (.iinc 1 1) 3 63 := by decide +kernel
theorem dX6_addUpWishes_63 : dcb cX6_addUpWishes 63 (.goto (-61)) (-61) 2 66 := by decide +kernel
theorem dX6_addUpWishes_66 : decode cX6_addUpWishes 66 = .ok (.return_, 1) := by decide +kernel
theorem dX6_firstCut_0 : dcd cX6_firstCut 0 (.iload_n 1) 1 1 := by decide +kernel
theorem dX6_firstCut_1 : dcb cX6_firstCut 1 (.ifCond .eq (9)) (9) 10 4 := by decide +kernel
theorem dX6_firstCut_4 : dcd cX6_firstCut 4 (.iload_n 1) 1 5 := by decide +kernel
theorem dX6_firstCut_5 : dcd cX6_firstCut 5 (.ldc 48) 2 7 := by decide +kernel
theorem dX6_firstCut_7 : dcb cX6_firstCut 7 (.if_icmp .lt (6)) (6) 13 10 := by decide +kernel
theorem dX6_firstCut_10 : dcd cX6_firstCut 10 (.bipush (-9)) 2 12 := by decide +kernel
theorem dX6_firstCut_12 : decode cX6_firstCut 12 = .ok (.ireturn, 1) := by decide +kernel
theorem dX6_firstCut_13 : dcd cX6_firstCut 13 (.iconst 1) 1 14 := by decide +kernel
theorem dX6_firstCut_14 : dcd cX6_firstCut 14 (.istore_n 2) 1 15 := by decide +kernel
theorem dX6_firstCut_15 : dcd cX6_firstCut 15 (.iload_n 2) 1 16 := by decide +kernel
theorem dX6_firstCut_16 : dcd cX6_firstCut 16 (.aload_n 0) 1 17 := by decide +kernel
theorem dX6_firstCut_17 : dcd cX6_firstCut 17 (.getfield 49) 3 20 := by decide +kernel
theorem dX6_firstCut_20 : dcd cX6_firstCut 20 (.getfield 53) 3 23 := by decide +kernel
theorem dX6_firstCut_23 : dcb cX6_firstCut 23 (.if_icmp .ge (41)) (41) 64 26 := by decide +kernel
theorem dX6_firstCut_26 : dcd cX6_firstCut 26 (.aload_n 0) 1 27 := by decide +kernel
theorem dX6_firstCut_27 : dcd cX6_firstCut 27 (.iconst 0) 1 28 := by decide +kernel
theorem dX6_firstCut_28 : dcd cX6_firstCut 28 (.iconst 0) 1 29 := by decide +kernel
theorem dX6_firstCut_29 : dcd cX6_firstCut 29 (.aload_n 0) 1 30 := by decide +kernel
theorem dX6_firstCut_30 : dcd cX6_firstCut 30 (.getfield 49) 3 33 := by decide +kernel
theorem dX6_firstCut_33 : dcd cX6_firstCut 33 (.getfield 53) 3 36 := by decide +kernel
theorem dX6_firstCut_36 : dcd cX6_firstCut 36 (.aload_n 0) 1 37 := by decide +kernel
theorem dX6_firstCut_37 : dcd cX6_firstCut 37 (.getfield 49) 3 40 := by decide +kernel
theorem dX6_firstCut_40 : dcd cX6_firstCut 40 (.getfield 58) 3 43 := by decide +kernel
theorem dX6_firstCut_43 : dcd cX6_firstCut 43 (.iconst 1) 1 44 := by decide +kernel
theorem dX6_firstCut_44 : dcd cX6_firstCut 44 (.iload_n 2) 1 45 := by decide +kernel
theorem dX6_firstCut_45 : dcd cX6_firstCut 45 (.aload_n 0) 1 46 := by decide +kernel
theorem dX6_firstCut_46 : dcd cX6_firstCut 46 (.invokevirtual 33) 3 49 := by decide +kernel
theorem dX6_firstCut_49 : dcd cX6_firstCut 49 (.invokevirtual 61) 3 52 := by decide +kernel
theorem dX6_firstCut_52 : dcd cX6_firstCut 52 (.iload_n 1) 1 53 := by decide +kernel
theorem dX6_firstCut_53 : dcb cX6_firstCut 53 (.if_icmp .ne (5)) (5) 58 56 := by decide +kernel
theorem dX6_firstCut_56 : dcd cX6_firstCut 56 (.iload_n 2) 1 57 := by decide +kernel
theorem dX6_firstCut_57 : decode cX6_firstCut 57 = .ok (.ireturn, 1) := by decide +kernel
theorem dX6_firstCut_58 : dcd cX6_firstCut 58 (.iinc 2 1) 3 61 := by decide +kernel
theorem dX6_firstCut_61 : dcb cX6_firstCut 61 (.goto (-46)) (-46) 15 64 := by decide +kernel
theorem dX6_firstCut_64 : dcd cX6_firstCut 64 (.iconst 1) 1 65 := by decide +kernel
theorem dX6_firstCut_65 : dcd cX6_firstCut 65 (.istore_n 2) 1 66 := by decide +kernel
theorem dX6_firstCut_66 : dcd cX6_firstCut 66 (.iload_n 2) 1 67 := by decide +kernel
theorem dX6_firstCut_67 : dcd cX6_firstCut 67 (.aload_n 0) 1 68 := by decide +kernel
theorem dX6_firstCut_68 : dcd cX6_firstCut 68 (.getfield 49) 3 71 := by decide +kernel
theorem dX6_firstCut_71 : dcd cX6_firstCut 71 (.getfield 58) 3 74 := by decide +kernel
theorem dX6_firstCut_74 : dcb cX6_firstCut 74 (.if_icmp .ge (44)) (44) 118 77 := by decide +kernel
theorem dX6_firstCut_77 : dcd cX6_firstCut 77 (.aload_n 0) 1 78 := by decide +kernel
theorem dX6_firstCut_78 : dcd cX6_firstCut 78 (.iconst 0) 1 79 := by decide +kernel
theorem dX6_firstCut_79 : dcd cX6_firstCut 79 (.iconst 0) 1 80 := by decide +kernel
theorem dX6_firstCut_80 : dcd cX6_firstCut 80 (.aload_n 0) 1 81 := by decide +kernel
theorem dX6_firstCut_81 : dcd cX6_firstCut 81 (.getfield 49) 3 84 := by decide +kernel
theorem dX6_firstCut_84 : dcd cX6_firstCut 84 (.getfield 53) 3 87 := by decide +kernel
theorem dX6_firstCut_87 : dcd cX6_firstCut 87 (.aload_n 0) 1 88 := by decide +kernel
theorem dX6_firstCut_88 : dcd cX6_firstCut 88 (.getfield 49) 3 91 := by decide +kernel
theorem dX6_firstCut_91 : dcd cX6_firstCut 91 (.getfield 58) 3 94 := by decide +kernel
theorem dX6_firstCut_94 : dcd cX6_firstCut 94 (.iconst 0) 1 95 := by decide +kernel
theorem dX6_firstCut_95 : dcd cX6_firstCut 95 (.iload_n 2) 1 96 := by decide +kernel
theorem dX6_firstCut_96 : dcd cX6_firstCut 96 (.aload_n 0) 1 97 := by decide +kernel
theorem dX6_firstCut_97 : dcd cX6_firstCut 97 (.invokevirtual 33) 3 100 := by decide +kernel
theorem dX6_firstCut_100 : dcd cX6_firstCut 100 (.invokevirtual 61) 3 103 := by decide +kernel
theorem dX6_firstCut_103 : dcd cX6_firstCut 103 (.iload_n 1) 1 104 := by decide +kernel
theorem dX6_firstCut_104 : dcb cX6_firstCut 104 (.if_icmp .ne (8)) (8) 112 107 := by decide +kernel
theorem dX6_firstCut_107 : dcd cX6_firstCut 107 (.bipush 100) 2 109 := by decide +kernel
theorem dX6_firstCut_109 : dcd cX6_firstCut 109 (.iload_n 2) 1 110 := by decide +kernel
theorem dX6_firstCut_110 : dcd cX6_firstCut 110 (.iadd) 1 111 := by decide +kernel
theorem dX6_firstCut_111 : decode cX6_firstCut 111 = .ok (.ireturn, 1) := by decide +kernel
theorem dX6_firstCut_112 : dcd cX6_firstCut 112 (.iinc 2 1) 3 115 := by decide +kernel
theorem dX6_firstCut_115 : dcb cX6_firstCut 115 (.goto (-49)) (-49) 66 118 := by decide +kernel
theorem dX6_firstCut_118 : dcd cX6_firstCut 118 (.bipush (-9)) 2 120 := by decide +kernel
theorem dX6_firstCut_120 : decode cX6_firstCut 120 = .ok (.ireturn, 1) := by decide +kernel
theorem dX6_verdict_0 : dcd cX6_verdict 0 (.iload 5) 2 2 := by decide +kernel
theorem dX6_verdict_2 : dcb cX6_verdict 2 (.ifCond .ne (5)) (5) 7 5 := by decide +kernel
theorem dX6_verdict_5 : dcd cX6_verdict 5 (.iconst 0) 1 6 := by decide +kernel
theorem dX6_verdict_6 : decode cX6_verdict 6 = .ok (.ireturn, 1) := by decide +kernel
theorem dX6_verdict_7 : dcd cX6_verdict 7 (.aload_n 0) 1 8 := by decide +kernel
theorem dX6_verdict_8 : dcd cX6_verdict 8 (.getfield 49) 3 11 := by decide +kernel
theorem dX6_verdict_11 : dcd cX6_verdict 11 (.iload_n 1) 1 12 := by decide +kernel
theorem dX6_verdict_12 : dcd cX6_verdict 12 (.iload_n 2) 1 13 := by decide +kernel
theorem dX6_verdict_13 : dcd cX6_verdict 13 (.iload_n 3) 1 14 := by decide +kernel
theorem dX6_verdict_14 : dcd cX6_verdict 14 (.iload 4) 2 16 := by decide +kernel
theorem dX6_verdict_16 : dcd cX6_verdict 16 (.invokevirtual 65) 3 19 := by decide +kernel
theorem dX6_verdict_19 : dcd cX6_verdict 19 (.istore 6) 2 21 := by decide +kernel
theorem dX6_verdict_21 : dcd cX6_verdict 21 (.iload 6) 2 23 := by decide +kernel
theorem dX6_verdict_23 : dcd cX6_verdict 23 (.aload_n 0) 1 24 := by decide +kernel
theorem dX6_verdict_24 : dcd cX6_verdict 24 (.getfield 17) 3 27 := by decide +kernel
theorem dX6_verdict_27 : dcd cX6_verdict 27 (.iload 5) 2 29 := by decide +kernel
theorem dX6_verdict_29 : dcd cX6_verdict 29 (.iaload) 1 30 := by decide +kernel
theorem dX6_verdict_30 : dcb cX6_verdict 30 (.if_icmp .ge (6)) (6) 36 33 := by decide +kernel
theorem dX6_verdict_33 : dcd cX6_verdict 33 (.ldc 48) 2 35 := by decide +kernel
theorem dX6_verdict_35 : decode cX6_verdict 35 = .ok (.ireturn, 1) := by decide +kernel
theorem dX6_verdict_36 : dcd cX6_verdict 36 (.iconst 0) 1 37 := by decide +kernel
theorem dX6_verdict_37 : dcd cX6_verdict 37 (.istore 7) 2 39 := by decide +kernel
theorem dX6_verdict_39 : dcd cX6_verdict 39 (.iload 7) 2 41 := by decide +kernel
theorem dX6_verdict_41 : dcd cX6_verdict 41 (.aload_n 0) 1 42 := by decide +kernel
theorem dX6_verdict_42 : dcd cX6_verdict 42 (.getfield 21) 3 45 := by decide +kernel
theorem dX6_verdict_45 : dcb cX6_verdict 45 (.if_icmp .ge (47)) (47) 92 48 := by decide +kernel
theorem dX6_verdict_48 : dcd cX6_verdict 48 (.iload 5) 2 50 := by decide +kernel
theorem dX6_verdict_50 : dcd cX6_verdict 50 (.iconst 1) 1 51 := by decide +kernel
theorem dX6_verdict_51 : dcd cX6_verdict 51 (.iload 7) 2 53 := by decide +kernel
theorem dX6_verdict_53 : dcd cX6_verdict 53 (.ishl) 1 54 := by decide +kernel
theorem dX6_verdict_54 : dcb cX6_verdict 54 (.if_icmp .ne (32)) (32) 86 57 := by decide +kernel
theorem dX6_verdict_57 : dcd cX6_verdict 57 (.aload_n 0) 1 58 := by decide +kernel
theorem dX6_verdict_58 : dcd cX6_verdict 58 (.getfield 11) 3 61 := by decide +kernel
theorem dX6_verdict_61 : dcd cX6_verdict 61 (.iload 7) 2 63 := by decide +kernel
theorem dX6_verdict_63 : dcd cX6_verdict 63 (.aaload) 1 64 := by decide +kernel
theorem dX6_verdict_64 : dcd cX6_verdict 64 (.iload 6) 2 66 := by decide +kernel
theorem dX6_verdict_66 : dcd cX6_verdict 66 (.aload_n 0) 1 67 := by decide +kernel
theorem dX6_verdict_67 : dcd cX6_verdict 67 (.getfield 49) 3 70 := by decide +kernel
theorem dX6_verdict_70 : dcd cX6_verdict 70 (.iload_n 1) 1 71 := by decide +kernel
theorem dX6_verdict_71 : dcd cX6_verdict 71 (.iload_n 2) 1 72 := by decide +kernel
theorem dX6_verdict_72 : dcd cX6_verdict 72 (.iload_n 3) 1 73 := by decide +kernel
theorem dX6_verdict_73 : dcd cX6_verdict 73 (.iload 4) 2 75 := by decide +kernel
theorem dX6_verdict_75 : dcd cX6_verdict 75 (.invokevirtual 69) 3 78 := by decide +kernel
theorem dX6_verdict_78 : dcd cX6_verdict 78 (.invokevirtual 72) 3 81 := by decide +kernel
theorem dX6_verdict_81 : dcb cX6_verdict 81 (.ifCond .eq (5)) (5) 86 84 := by decide +kernel
theorem dX6_verdict_84 : dcd cX6_verdict 84 (.iconst 0) 1 85 := by decide +kernel
theorem dX6_verdict_85 : decode cX6_verdict 85 = .ok (.ireturn, 1) := by decide +kernel
theorem dX6_verdict_86 : dcd cX6_verdict 86 (.iinc 7 1) 3 89 := by decide +kernel
theorem dX6_verdict_89 : dcb cX6_verdict 89 (.goto (-50)) (-50) 39 92 := by decide +kernel
theorem dX6_verdict_92 : dcd cX6_verdict 92 (.iconst (-1)) 1 93 := by decide +kernel
theorem dX6_verdict_93 : decode cX6_verdict 93 = .ok (.ireturn, 1) := by decide +kernel
theorem dX6_cutPrice_0 : dcd cX6_cutPrice 0 (.iload_n 1) 1 1 := by decide +kernel
theorem dX6_cutPrice_1 : decode cX6_cutPrice 1 = .ok (.ireturn, 1) := by decide +kernel
theorem dX7_init_0 : dcd cX7_init 0 (.aload_n 0) 1 1 := by decide +kernel
theorem dX7_init_1 : dcd cX7_init 1 (.invokespecial 3) 3 4 := by decide +kernel
theorem dX7_init_4 : decode cX7_init 4 = .ok (.return_, 1) := by decide +kernel
theorem dX7_becomeAll_0 : dcd cX7_becomeAll 0 (.aload_n 0) 1 1 := by decide +kernel
theorem dX7_becomeAll_1 : dcd cX7_becomeAll 1 (.iconst 0) 1 2 := by decide +kernel
theorem dX7_becomeAll_2 : dcd cX7_becomeAll 2 (.putfield 9) 3 5 := by decide +kernel
theorem dX7_becomeAll_5 : dcd cX7_becomeAll 5 (.aload_n 0) 1 6 := by decide +kernel
theorem dX7_becomeAll_6 : dcd cX7_becomeAll 6 (.iconst 0) 1 7 := by decide +kernel
theorem dX7_becomeAll_7 : dcd cX7_becomeAll 7 (.putfield 15) 3 10 := by decide +kernel
theorem dX7_becomeAll_10 : dcd cX7_becomeAll 10 (.aload_n 0) 1 11 := by decide +kernel
theorem dX7_becomeAll_11 : dcd cX7_becomeAll 11 (.aload_n 1) 1 12 := by decide +kernel
theorem dX7_becomeAll_12 : dcd cX7_becomeAll 12 (.getfield 18) 3 15 := by decide +kernel
theorem dX7_becomeAll_15 : dcd cX7_becomeAll 15 (.putfield 23) 3 18 := by decide +kernel
theorem dX7_becomeAll_18 : dcd cX7_becomeAll 18 (.aload_n 0) 1 19 := by decide +kernel
theorem dX7_becomeAll_19 : dcd cX7_becomeAll 19 (.aload_n 1) 1 20 := by decide +kernel
theorem dX7_becomeAll_20 : dcd cX7_becomeAll 20 (.getfield 24) 3 23 := by decide +kernel
theorem dX7_becomeAll_23 : dcd cX7_becomeAll 23 (.putfield 27) 3 26 := by decide +kernel
theorem dX7_becomeAll_26 : dcd cX7_becomeAll 26 (.aload_n 0) 1 27 := by decide +kernel
theorem dX7_becomeAll_27 : dcd cX7_becomeAll 27 (.aload_n 1) 1 28 := by decide +kernel
theorem dX7_becomeAll_28 : dcd cX7_becomeAll 28 (.aload_n 0) 1 29 := by decide +kernel
theorem dX7_becomeAll_29 : dcd cX7_becomeAll 29 (.getfield 9) 3 32 := by decide +kernel
theorem dX7_becomeAll_32 : dcd cX7_becomeAll 32 (.aload_n 0) 1 33 := by decide +kernel
theorem dX7_becomeAll_33 : dcd cX7_becomeAll 33 (.getfield 15) 3 36 := by decide +kernel
theorem dX7_becomeAll_36 : dcd cX7_becomeAll 36 (.aload_n 0) 1 37 := by decide +kernel
theorem dX7_becomeAll_37 : dcd cX7_becomeAll 37 (.getfield 23) 3 40 := by decide +kernel
theorem dX7_becomeAll_40 : dcd cX7_becomeAll 40 (.aload_n 0) 1 41 := by decide +kernel
theorem dX7_becomeAll_41 : dcd cX7_becomeAll 41 (.getfield 27) 3 44 := by decide +kernel
theorem dX7_becomeAll_44 : dcd cX7_becomeAll 44 (.invokevirtual 28) 3 47 := by decide +kernel
theorem dX7_becomeAll_47 : dcd cX7_becomeAll 47 (.putfield 32) 3 50 := by decide +kernel
theorem dX7_becomeAll_50 : dcd cX7_becomeAll 50 (.aload_n 0) 1 51 := by decide +kernel
theorem dX7_becomeAll_51 : dcd cX7_becomeAll 51 (.aload_n 1) 1 52 := by decide +kernel
theorem dX7_becomeAll_52 : dcd cX7_becomeAll 52 (.aload_n 0) 1 53 := by decide +kernel
theorem dX7_becomeAll_53 : dcd cX7_becomeAll 53 (.getfield 9) 3 56 := by decide +kernel
theorem dX7_becomeAll_56 : dcd cX7_becomeAll 56 (.aload_n 0) 1 57 := by decide +kernel
theorem dX7_becomeAll_57 : dcd cX7_becomeAll 57 (.getfield 15) 3 60 := by decide +kernel
theorem dX7_becomeAll_60 : dcd cX7_becomeAll 60 (.aload_n 0) 1 61 := by decide +kernel
theorem dX7_becomeAll_61 : dcd cX7_becomeAll 61 (.getfield 23) 3 64 := by decide +kernel
theorem dX7_becomeAll_64 : dcd cX7_becomeAll 64 (.aload_n 0) 1 65 := by decide +kernel
theorem dX7_becomeAll_65 : dcd cX7_becomeAll 65 (.getfield 27) 3 68 := by decide +kernel
theorem dX7_becomeAll_68 : dcd cX7_becomeAll 68 (.invokevirtual 35) 3 71 := by decide +kernel
theorem dX7_becomeAll_71 : dcd cX7_becomeAll 71 (.putfield 38) 3 74 := by decide +kernel
theorem dX7_becomeAll_74 : dcd cX7_becomeAll 74 (.aload_n 0) 1 75 := by decide +kernel
theorem dX7_becomeAll_75 : dcd cX7_becomeAll 75 (.iconst 0) 1 76 := by decide +kernel
theorem dX7_becomeAll_76 : dcd cX7_becomeAll 76 (.putfield 41) 3 79 := by decide +kernel
theorem dX7_becomeAll_79 : dcd cX7_becomeAll 79 (.aload_n 0) 1 80 := by decide +kernel
theorem dX7_becomeAll_80 : dcd cX7_becomeAll 80 (.iconst 0) 1 81 := by decide +kernel
theorem dX7_becomeAll_81 : dcd cX7_becomeAll 81 (.putfield 44) 3 84 := by decide +kernel
theorem dX7_becomeAll_84 : dcd cX7_becomeAll 84 (.aload_n 0) 1 85 := by decide +kernel
theorem dX7_becomeAll_85 : dcd cX7_becomeAll 85 (.iconst 0) 1 86 := by decide +kernel
theorem dX7_becomeAll_86 : dcd cX7_becomeAll 86 (.putfield 47) 3 89 := by decide +kernel
theorem dX7_becomeAll_89 : dcd cX7_becomeAll 89 (.aload_n 0) 1 90 := by decide +kernel
theorem dX7_becomeAll_90 : dcd cX7_becomeAll 90 (.invokevirtual 50) 3 93 := by decide +kernel
theorem dX7_becomeAll_93 : decode cX7_becomeAll 93 = .ok (.return_, 1) := by decide +kernel
theorem dX7_become_0 : dcd cX7_become 0 (.aload_n 0) 1 1 := by decide +kernel
theorem dX7_become_1 : dcd cX7_become 1 (.aload_n 1) 1 2 := by decide +kernel
theorem dX7_become_2 : dcd cX7_become 2 (.getfield 9) 3 5 := by decide +kernel
theorem dX7_become_5 : dcd cX7_become 5 (.putfield 9) 3 8 := by decide +kernel
theorem dX7_become_8 : dcd cX7_become 8 (.aload_n 0) 1 9 := by decide +kernel
theorem dX7_become_9 : dcd cX7_become 9 (.aload_n 1) 1 10 := by decide +kernel
theorem dX7_become_10 : dcd cX7_become 10 (.getfield 15) 3 13 := by decide +kernel
theorem dX7_become_13 : dcd cX7_become 13 (.putfield 15) 3 16 := by decide +kernel
theorem dX7_become_16 : dcd cX7_become 16 (.aload_n 0) 1 17 := by decide +kernel
theorem dX7_become_17 : dcd cX7_become 17 (.aload_n 1) 1 18 := by decide +kernel
theorem dX7_become_18 : dcd cX7_become 18 (.getfield 23) 3 21 := by decide +kernel
theorem dX7_become_21 : dcd cX7_become 21 (.putfield 23) 3 24 := by decide +kernel
theorem dX7_become_24 : dcd cX7_become 24 (.aload_n 0) 1 25 := by decide +kernel
theorem dX7_become_25 : dcd cX7_become 25 (.aload_n 1) 1 26 := by decide +kernel
theorem dX7_become_26 : dcd cX7_become 26 (.getfield 27) 3 29 := by decide +kernel
theorem dX7_become_29 : dcd cX7_become 29 (.putfield 27) 3 32 := by decide +kernel
theorem dX7_become_32 : dcd cX7_become 32 (.aload_n 0) 1 33 := by decide +kernel
theorem dX7_become_33 : dcd cX7_become 33 (.aload_n 1) 1 34 := by decide +kernel
theorem dX7_become_34 : dcd cX7_become 34 (.getfield 32) 3 37 := by decide +kernel
theorem dX7_become_37 : dcd cX7_become 37 (.putfield 32) 3 40 := by decide +kernel
theorem dX7_become_40 : dcd cX7_become 40 (.aload_n 0) 1 41 := by decide +kernel
theorem dX7_become_41 : dcd cX7_become 41 (.aload_n 1) 1 42 := by decide +kernel
theorem dX7_become_42 : dcd cX7_become 42 (.getfield 38) 3 45 := by decide +kernel
theorem dX7_become_45 : dcd cX7_become 45 (.putfield 38) 3 48 := by decide +kernel
theorem dX7_become_48 : dcd cX7_become 48 (.aload_n 0) 1 49 := by decide +kernel
theorem dX7_become_49 : dcd cX7_become 49 (.aload_n 1) 1 50 := by decide +kernel
theorem dX7_become_50 : dcd cX7_become 50 (.getfield 41) 3 53 := by decide +kernel
theorem dX7_become_53 : dcd cX7_become 53 (.putfield 41) 3 56 := by decide +kernel
theorem dX7_become_56 : dcd cX7_become 56 (.aload_n 0) 1 57 := by decide +kernel
theorem dX7_become_57 : dcd cX7_become 57 (.aload_n 1) 1 58 := by decide +kernel
theorem dX7_become_58 : dcd cX7_become 58 (.getfield 44) 3 61 := by decide +kernel
theorem dX7_become_61 : dcd cX7_become 61 (.putfield 44) 3 64 := by decide +kernel
theorem dX7_become_64 : dcd cX7_become 64 (.aload_n 0) 1 65 := by decide +kernel
theorem dX7_become_65 : dcd cX7_become 65 (.aload_n 1) 1 66 := by decide +kernel
theorem dX7_become_66 : dcd cX7_become 66 (.getfield 47) 3 69 := by decide +kernel
theorem dX7_become_69 : dcd cX7_become 69 (.putfield 47) 3 72 := by decide +kernel
theorem dX7_become_72 : dcd cX7_become 72 (.aload_n 0) 1 73 := by decide +kernel
theorem dX7_become_73 : dcd cX7_become 73 (.aload_n 1) 1 74 := by decide +kernel
theorem dX7_become_74 : dcd cX7_become 74 (.getfield 53) 3 77 := by decide +kernel
theorem dX7_become_77 : dcd cX7_become 77 (.putfield 53) 3 80 := by decide +kernel
theorem dX7_become_80 : dcd cX7_become 80 (.aload_n 0) 1 81 := by decide +kernel
theorem dX7_become_81 : dcd cX7_become 81 (.aload_n 1) 1 82 := by decide +kernel
theorem dX7_become_82 : dcd cX7_become 82 (.getfield 56) 3 85 := by decide +kernel
theorem dX7_become_85 : dcd cX7_become 85 (.putfield 56) 3 88 := by decide +kernel
theorem dX7_become_88 : dcd cX7_become 88 (.aload_n 0) 1 89 := by decide +kernel
theorem dX7_become_89 : dcd cX7_become 89 (.aload_n 1) 1 90 := by decide +kernel
theorem dX7_become_90 : dcd cX7_become 90 (.getfield 59) 3 93 := by decide +kernel
theorem dX7_become_93 : dcd cX7_become 93 (.putfield 59) 3 96 := by decide +kernel
theorem dX7_become_96 : dcd cX7_become 96 (.aload_n 0) 1 97 := by decide +kernel
theorem dX7_become_97 : dcd cX7_become 97 (.aload_n 1) 1 98 := by decide +kernel
theorem dX7_become_98 : dcd cX7_become 98 (.getfield 62) 3 101 := by decide +kernel
theorem dX7_become_101 : dcd cX7_become 101 (.putfield 62) 3 104 := by decide +kernel
theorem dX7_become_104 : decode cX7_become 104 = .ok (.return_, 1) := by decide +kernel
theorem dX7_block_0 : dcd cX7_block 0 (.sipush 1000) 3 3 := by decide +kernel
theorem dX7_block_3 : dcd cX7_block 3 (.aload_n 0) 1 4 := by decide +kernel
theorem dX7_block_4 : dcd cX7_block 4 (.getfield 9) 3 7 := by decide +kernel
theorem dX7_block_7 : dcd cX7_block 7 (.imul) 1 8 := by decide +kernel
theorem dX7_block_8 : dcd cX7_block 8 (.bipush 100) 2 10 := by decide +kernel
theorem dX7_block_10 : dcd cX7_block 10 (.aload_n 0) 1 11 := by decide +kernel
theorem dX7_block_11 : dcd cX7_block 11 (.getfield 15) 3 14 := by decide +kernel
theorem dX7_block_14 : dcd cX7_block 14 (.imul) 1 15 := by decide +kernel
theorem dX7_block_15 : dcd cX7_block 15 (.iadd) 1 16 := by decide +kernel
theorem dX7_block_16 : dcd cX7_block 16 (.bipush 10) 2 18 := by decide +kernel
theorem dX7_block_18 : dcd cX7_block 18 (.aload_n 0) 1 19 := by decide +kernel
theorem dX7_block_19 : dcd cX7_block 19 (.getfield 23) 3 22 := by decide +kernel
theorem dX7_block_22 : dcd cX7_block 22 (.imul) 1 23 := by decide +kernel
theorem dX7_block_23 : dcd cX7_block 23 (.iadd) 1 24 := by decide +kernel
theorem dX7_block_24 : dcd cX7_block 24 (.aload_n 0) 1 25 := by decide +kernel
theorem dX7_block_25 : dcd cX7_block 25 (.getfield 27) 3 28 := by decide +kernel
theorem dX7_block_28 : dcd cX7_block 28 (.iadd) 1 29 := by decide +kernel
theorem dX7_block_29 : decode cX7_block 29 = .ok (.ireturn, 1) := by decide +kernel
theorem dX7_edgesAbove_0 : dcd cX7_edgesAbove 0 (.aload_n 0) 1 1 := by decide +kernel
theorem dX7_edgesAbove_1 : dcd cX7_edgesAbove 1 (.getfield 9) 3 4 := by decide +kernel
theorem dX7_edgesAbove_4 : dcb cX7_edgesAbove 4 (.ifCond .le (10)) (10) 14 7 := by decide +kernel
theorem dX7_edgesAbove_7 : dcd cX7_edgesAbove 7 (.aload_n 0) 1 8 := by decide +kernel
theorem dX7_edgesAbove_8 : dcd cX7_edgesAbove 8 (.getfield 27) 3 11 := by decide +kernel
theorem dX7_edgesAbove_11 : dcb cX7_edgesAbove 11 (.goto (4)) (4) 15 14 := by decide +kernel
theorem dX7_edgesAbove_14 : dcd cX7_edgesAbove 14 (.iconst 0) 1 15 := by decide +kernel
theorem dX7_edgesAbove_15 : decode cX7_edgesAbove 15 = .ok (.ireturn, 1) := by decide +kernel
theorem dX7_edgesBelow_0 : dcd cX7_edgesBelow 0 (.aload_n 0) 1 1 := by decide +kernel
theorem dX7_edgesBelow_1 : dcd cX7_edgesBelow 1 (.getfield 9) 3 4 := by decide +kernel
theorem dX7_edgesBelow_4 : dcd cX7_edgesBelow 4 (.aload_n 0) 1 5 := by decide +kernel
theorem dX7_edgesBelow_5 : dcd cX7_edgesBelow 5 (.getfield 23) 3 8 := by decide +kernel
theorem dX7_edgesBelow_8 : dcd cX7_edgesBelow 8 (.iadd) 1 9 := by decide +kernel
theorem dX7_edgesBelow_9 : dcd cX7_edgesBelow 9 (.aload_n 1) 1 10 := by decide +kernel
theorem dX7_edgesBelow_10 : dcd cX7_edgesBelow 10 (.getfield 18) 3 13 := by decide +kernel
theorem dX7_edgesBelow_13 : dcb cX7_edgesBelow 13 (.if_icmp .ge (10)) (10) 23 16 := by decide +kernel
theorem dX7_edgesBelow_16 : dcd cX7_edgesBelow 16 (.aload_n 0) 1 17 := by decide +kernel
theorem dX7_edgesBelow_17 : dcd cX7_edgesBelow 17 (.getfield 27) 3 20 := by decide +kernel
theorem dX7_edgesBelow_20 : dcb cX7_edgesBelow 20 (.goto (4)) (4) 24 23 := by decide +kernel
theorem dX7_edgesBelow_23 : dcd cX7_edgesBelow 23 (.iconst 0) 1 24 := by decide +kernel
theorem dX7_edgesBelow_24 : decode cX7_edgesBelow 24 = .ok (.ireturn, 1) := by decide +kernel
theorem dX7_edgesLeft_0 : dcd cX7_edgesLeft 0 (.aload_n 0) 1 1 := by decide +kernel
theorem dX7_edgesLeft_1 : dcd cX7_edgesLeft 1 (.getfield 15) 3 4 := by decide +kernel
theorem dX7_edgesLeft_4 : dcb cX7_edgesLeft 4 (.ifCond .le (10)) (10) 14 7 := by decide +kernel
theorem dX7_edgesLeft_7 : dcd cX7_edgesLeft 7 (.aload_n 0) 1 8 := by decide +kernel
theorem dX7_edgesLeft_8 : dcd cX7_edgesLeft 8 (.getfield 23) 3 11 := by decide +kernel
theorem dX7_edgesLeft_11 : dcb cX7_edgesLeft 11 (.goto (4)) (4) 15 14 := by decide +kernel
theorem dX7_edgesLeft_14 : dcd cX7_edgesLeft 14 (.iconst 0) 1 15 := by decide +kernel
theorem dX7_edgesLeft_15 : decode cX7_edgesLeft 15 = .ok (.ireturn, 1) := by decide +kernel
theorem dX7_edgesRight_0 : dcd cX7_edgesRight 0 (.aload_n 0) 1 1 := by decide +kernel
theorem dX7_edgesRight_1 : dcd cX7_edgesRight 1 (.getfield 15) 3 4 := by decide +kernel
theorem dX7_edgesRight_4 : dcd cX7_edgesRight 4 (.aload_n 0) 1 5 := by decide +kernel
theorem dX7_edgesRight_5 : dcd cX7_edgesRight 5 (.getfield 27) 3 8 := by decide +kernel
theorem dX7_edgesRight_8 : dcd cX7_edgesRight 8 (.iadd) 1 9 := by decide +kernel
theorem dX7_edgesRight_9 : dcd cX7_edgesRight 9 (.aload_n 1) 1 10 := by decide +kernel
theorem dX7_edgesRight_10 : dcd cX7_edgesRight 10 (.getfield 24) 3 13 := by decide +kernel
theorem dX7_edgesRight_13 : dcb cX7_edgesRight 13 (.if_icmp .ge (10)) (10) 23 16 := by decide +kernel
theorem dX7_edgesRight_16 : dcd cX7_edgesRight 16 (.aload_n 0) 1 17 := by decide +kernel
theorem dX7_edgesRight_17 : dcd cX7_edgesRight 17 (.getfield 23) 3 20 := by decide +kernel
theorem dX7_edgesRight_20 : dcb cX7_edgesRight 20 (.goto (4)) (4) 24 23 := by decide +kernel
theorem dX7_edgesRight_23 : dcd cX7_edgesRight 23 (.iconst 0) 1 24 := by decide +kernel
theorem dX7_edgesRight_24 : decode cX7_edgesRight 24 = .ok (.ireturn, 1) := by decide +kernel
theorem dX7_bareEdges_0 : dcd cX7_bareEdges 0 (.aload_n 0) 1 1 := by decide +kernel
theorem dX7_bareEdges_1 : dcd cX7_bareEdges 1 (.invokevirtual 65) 3 4 := by decide +kernel
theorem dX7_bareEdges_4 : dcd cX7_bareEdges 4 (.aload_n 0) 1 5 := by decide +kernel
theorem dX7_bareEdges_5 : dcd cX7_bareEdges 5 (.aload_n 1) 1 6 := by decide +kernel
theorem dX7_bareEdges_6 : dcd cX7_bareEdges 6 (.invokevirtual 69) 3 9 := by decide +kernel
theorem dX7_bareEdges_9 : dcd cX7_bareEdges 9 (.iadd) 1 10 := by decide +kernel
theorem dX7_bareEdges_10 : dcd cX7_bareEdges 10 (.aload_n 0) 1 11 := by decide +kernel
theorem dX7_bareEdges_11 : dcd cX7_bareEdges 11 (.invokevirtual 73) 3 14 := by decide +kernel
theorem dX7_bareEdges_14 : dcd cX7_bareEdges 14 (.iadd) 1 15 := by decide +kernel
theorem dX7_bareEdges_15 : dcd cX7_bareEdges 15 (.aload_n 0) 1 16 := by decide +kernel
theorem dX7_bareEdges_16 : dcd cX7_bareEdges 16 (.aload_n 1) 1 17 := by decide +kernel
theorem dX7_bareEdges_17 : dcd cX7_bareEdges 17 (.invokevirtual 76) 3 20 := by decide +kernel
theorem dX7_bareEdges_20 : dcd cX7_bareEdges 20 (.iadd) 1 21 := by decide +kernel
theorem dX7_bareEdges_21 : decode cX7_bareEdges 21 = .ok (.ireturn, 1) := by decide +kernel
theorem dX7_isEnd_0 : dcd cX7_isEnd 0 (.aload_n 0) 1 1 := by decide +kernel
theorem dX7_isEnd_1 : dcd cX7_isEnd 1 (.invokevirtual 65) 3 4 := by decide +kernel
theorem dX7_isEnd_4 : dcb cX7_isEnd 4 (.ifCond .ne (7)) (7) 11 7 := by decide +kernel
theorem dX7_isEnd_7 : dcd cX7_isEnd 7 (.iconst 1) 1 8 := by decide +kernel
theorem dX7_isEnd_8 : dcb cX7_isEnd 8 (.goto (4)) (4) 12 11 := by decide +kernel
theorem dX7_isEnd_11 : dcd cX7_isEnd 11 (.iconst 0) 1 12 := by decide +kernel
theorem dX7_isEnd_12 : dcd cX7_isEnd 12 (.aload_n 0) 1 13 := by decide +kernel
theorem dX7_isEnd_13 : dcd cX7_isEnd 13 (.aload_n 1) 1 14 := by decide +kernel
theorem dX7_isEnd_14 : dcd cX7_isEnd 14 (.invokevirtual 69) 3 17 := by decide +kernel
theorem dX7_isEnd_17 : dcb cX7_isEnd 17 (.ifCond .ne (7)) (7) 24 20 := by decide +kernel
theorem dX7_isEnd_20 : dcd cX7_isEnd 20 (.iconst 1) 1 21 := by decide +kernel
theorem dX7_isEnd_21 : dcb cX7_isEnd 21 (.goto (4)) (4) 25 24 := by decide +kernel
theorem dX7_isEnd_24 : dcd cX7_isEnd 24 (.iconst 0) 1 25 := by decide +kernel
theorem dX7_isEnd_25 : dcd cX7_isEnd 25 (.iadd) 1 26 := by decide +kernel
theorem dX7_isEnd_26 : dcd cX7_isEnd 26 (.aload_n 0) 1 27 := by decide +kernel
theorem dX7_isEnd_27 : dcd cX7_isEnd 27 (.invokevirtual 73) 3 30 := by decide +kernel
theorem dX7_isEnd_30 : dcb cX7_isEnd 30 (.ifCond .ne (7)) (7) 37 33 := by decide +kernel
theorem dX7_isEnd_33 : dcd cX7_isEnd 33 (.iconst 1) 1 34 := by decide +kernel
theorem dX7_isEnd_34 : dcb cX7_isEnd 34 (.goto (4)) (4) 38 37 := by decide +kernel
theorem dX7_isEnd_37 : dcd cX7_isEnd 37 (.iconst 0) 1 38 := by decide +kernel
theorem dX7_isEnd_38 : dcd cX7_isEnd 38 (.iadd) 1 39 := by decide +kernel
theorem dX7_isEnd_39 : dcd cX7_isEnd 39 (.aload_n 0) 1 40 := by decide +kernel
theorem dX7_isEnd_40 : dcd cX7_isEnd 40 (.aload_n 1) 1 41 := by decide +kernel
theorem dX7_isEnd_41 : dcd cX7_isEnd 41 (.invokevirtual 76) 3 44 := by decide +kernel
theorem dX7_isEnd_44 : dcb cX7_isEnd 44 (.ifCond .ne (7)) (7) 51 47 := by decide +kernel
theorem dX7_isEnd_47 : dcd cX7_isEnd 47 (.iconst 1) 1 48 := by decide +kernel
theorem dX7_isEnd_48 : dcb cX7_isEnd 48 (.goto (4)) (4) 52 51 := by decide +kernel
theorem dX7_isEnd_51 : dcd cX7_isEnd 51 (.iconst 0) 1 52 := by decide +kernel
theorem dX7_isEnd_52 : dcd cX7_isEnd 52 (.iadd) 1 53 := by decide +kernel
theorem dX7_isEnd_53 : dcd cX7_isEnd 53 (.istore_n 2) 1 54 := by decide +kernel
theorem dX7_isEnd_54 : dcd cX7_isEnd 54 (.iload_n 2) 1 55 := by decide +kernel
theorem dX7_isEnd_55 : dcd cX7_isEnd 55 (.iconst 3) 1 56 := by decide +kernel
theorem dX7_isEnd_56 : dcb cX7_isEnd 56 (.if_icmp .lt (7)) (7) 63 59 := by decide +kernel
theorem dX7_isEnd_59 : dcd cX7_isEnd 59 (.iconst 1) 1 60 := by decide +kernel
theorem dX7_isEnd_60 : dcb cX7_isEnd 60 (.goto (4)) (4) 64 63 := by decide +kernel
theorem dX7_isEnd_63 : dcd cX7_isEnd 63 (.iconst 0) 1 64 := by decide +kernel
theorem dX7_isEnd_64 : decode cX7_isEnd 64 = .ok (.ireturn, 1) := by decide +kernel
end
section
theorem dX7_dried_0 : dcd cX7_dried 0 (.aload_n 0) 1 1 := by decide +kernel
theorem dX7_dried_1 : dcd cX7_dried 1 (.getfield 53) 3 4 := by decide +kernel
theorem dX7_dried_4 : dcd cX7_dried 4 (.aload_n 0) 1 5 := by decide +kernel
theorem dX7_dried_5 : dcd cX7_dried 5 (.getfield 56) 3 8 := by decide +kernel
theorem dX7_dried_8 : dcd cX7_dried 8 (.iadd) 1 9 := by decide +kernel
theorem dX7_dried_9 : dcd cX7_dried 9 (.aload_n 0) 1 10 := by decide +kernel
theorem dX7_dried_10 : dcd cX7_dried 10 (.getfield 59) 3 13 := by decide +kernel
theorem dX7_dried_13 : dcd cX7_dried 13 (.iadd) 1 14 := by decide +kernel
theorem dX7_dried_14 : dcd cX7_dried 14 (.aload_n 0) 1 15 := by decide +kernel
theorem dX7_dried_15 : dcd cX7_dried 15 (.getfield 62) 3 18 := by decide +kernel
theorem dX7_dried_18 : dcd cX7_dried 18 (.iadd) 1 19 := by decide +kernel
theorem dX7_dried_19 : decode cX7_dried 19 = .ok (.ireturn, 1) := by decide +kernel
theorem dX7_weight_0 : dcd cX7_weight 0 (.iconst 0) 1 1 := by decide +kernel
theorem dX7_weight_1 : dcd cX7_weight 1 (.aload_n 0) 1 2 := by decide +kernel
theorem dX7_weight_2 : dcd cX7_weight 2 (.getfield 32) 3 5 := by decide +kernel
theorem dX7_weight_5 : dcd cX7_weight 5 (.aload_n 0) 1 6 := by decide +kernel
theorem dX7_weight_6 : dcd cX7_weight 6 (.invokevirtual 79) 3 9 := by decide +kernel
theorem dX7_weight_9 : dcd cX7_weight 9 (.bipush 40) 2 11 := by decide +kernel
theorem dX7_weight_11 : dcd cX7_weight 11 (.idiv) 1 12 := by decide +kernel
theorem dX7_weight_12 : dcd cX7_weight 12 (.isub) 1 13 := by decide +kernel
theorem dX7_weight_13 : dcd cX7_weight 13 (.aload_n 0) 1 14 := by decide +kernel
theorem dX7_weight_14 : dcd cX7_weight 14 (.getfield 47) 3 17 := by decide +kernel
theorem dX7_weight_17 : dcd cX7_weight 17 (.isub) 1 18 := by decide +kernel
theorem dX7_weight_18 : dcd cX7_weight 18 (.invokestatic 82) 3 21 := by decide +kernel
theorem dX7_weight_21 : decode cX7_weight 21 = .ok (.ireturn, 1) := by decide +kernel
theorem dX7_dry_0 : dcd cX7_dry 0 (.aload_n 0) 1 1 := by decide +kernel
theorem dX7_dry_1 : dcd cX7_dry 1 (.getfield 44) 3 4 := by decide +kernel
theorem dX7_dry_4 : dcb cX7_dry 4 (.ifCond .lt (27)) (27) 31 7 := by decide +kernel
theorem dX7_dry_7 : dcd cX7_dry 7 (.aload_n 0) 1 8 := by decide +kernel
theorem dX7_dry_8 : dcd cX7_dry 8 (.getfield 44) 3 11 := by decide +kernel
theorem dX7_dry_11 : dcd cX7_dry 11 (.getstatic 88) 3 14 := by decide +kernel
theorem dX7_dry_14 : dcd cX7_dry 14 (.arraylength) 1 15 := by decide +kernel
theorem dX7_dry_15 : dcb cX7_dry 15 (.if_icmp .ge (16)) (16) 31 18 := by decide +kernel
theorem dX7_dry_18 : dcd cX7_dry 18 (.getstatic 88) 3 21 := by decide +kernel
theorem dX7_dry_21 : dcd cX7_dry 21 (.aload_n 0) 1 22 := by decide +kernel
theorem dX7_dry_22 : dcd cX7_dry 22 (.getfield 44) 3 25 := by decide +kernel
theorem dX7_dry_25 : dcd cX7_dry 25 (.iaload) 1 26 := by decide +kernel
theorem dX7_dry_26 : dcd cX7_dry 26 (.iload_n 2) 1 27 := by decide +kernel
theorem dX7_dry_27 : dcd cX7_dry 27 (.imul) 1 28 := by decide +kernel
theorem dX7_dry_28 : dcb cX7_dry 28 (.goto (4)) (4) 32 31 := by decide +kernel
theorem dX7_dry_31 : dcd cX7_dry 31 (.iconst 0) 1 32 := by decide +kernel
theorem dX7_dry_32 : dcd cX7_dry 32 (.istore_n 3) 1 33 := by decide +kernel
theorem dX7_dry_33 : dcd cX7_dry 33 (.aload_n 0) 1 34 := by decide +kernel
theorem dX7_dry_34 : dcd cX7_dry 34 (.dup) 1 35 := by decide +kernel
theorem dX7_dry_35 : dcd cX7_dry 35 (.getfield 53) 3 38 := by decide +kernel
theorem dX7_dry_38 : dcd cX7_dry 38 (.iload_n 3) 1 39 := by decide +kernel
theorem dX7_dry_39 : dcd cX7_dry 39 (.aload_n 0) 1 40 := by decide +kernel
theorem dX7_dry_40 : dcd cX7_dry 40 (.invokevirtual 65) 3 43 := by decide +kernel
theorem dX7_dry_43 : dcd cX7_dry 43 (.imul) 1 44 := by decide +kernel
theorem dX7_dry_44 : dcd cX7_dry 44 (.iadd) 1 45 := by decide +kernel
theorem dX7_dry_45 : dcd cX7_dry 45 (.putfield 53) 3 48 := by decide +kernel
theorem dX7_dry_48 : dcd cX7_dry 48 (.aload_n 0) 1 49 := by decide +kernel
theorem dX7_dry_49 : dcd cX7_dry 49 (.dup) 1 50 := by decide +kernel
theorem dX7_dry_50 : dcd cX7_dry 50 (.getfield 56) 3 53 := by decide +kernel
theorem dX7_dry_53 : dcd cX7_dry 53 (.iload_n 3) 1 54 := by decide +kernel
theorem dX7_dry_54 : dcd cX7_dry 54 (.aload_n 0) 1 55 := by decide +kernel
theorem dX7_dry_55 : dcd cX7_dry 55 (.aload_n 1) 1 56 := by decide +kernel
theorem dX7_dry_56 : dcd cX7_dry 56 (.invokevirtual 69) 3 59 := by decide +kernel
theorem dX7_dry_59 : dcd cX7_dry 59 (.imul) 1 60 := by decide +kernel
theorem dX7_dry_60 : dcd cX7_dry 60 (.iadd) 1 61 := by decide +kernel
theorem dX7_dry_61 : dcd cX7_dry 61 (.putfield 56) 3 64 := by decide +kernel
theorem dX7_dry_64 : dcd cX7_dry 64 (.aload_n 0) 1 65 := by decide +kernel
theorem dX7_dry_65 : dcd cX7_dry 65 (.dup) 1 66 := by decide +kernel
theorem dX7_dry_66 : dcd cX7_dry 66 (.getfield 59) 3 69 := by decide +kernel
theorem dX7_dry_69 : dcd cX7_dry 69 (.iload_n 3) 1 70 := by decide +kernel
theorem dX7_dry_70 : dcd cX7_dry 70 (.aload_n 0) 1 71 := by decide +kernel
theorem dX7_dry_71 : dcd cX7_dry 71 (.invokevirtual 73) 3 74 := by decide +kernel
theorem dX7_dry_74 : dcd cX7_dry 74 (.imul) 1 75 := by decide +kernel
theorem dX7_dry_75 : dcd cX7_dry 75 (.iadd) 1 76 := by decide +kernel
theorem dX7_dry_76 : dcd cX7_dry 76 (.putfield 59) 3 79 := by decide +kernel
theorem dX7_dry_79 : dcd cX7_dry 79 (.aload_n 0) 1 80 := by decide +kernel
theorem dX7_dry_80 : dcd cX7_dry 80 (.dup) 1 81 := by decide +kernel
theorem dX7_dry_81 : dcd cX7_dry 81 (.getfield 62) 3 84 := by decide +kernel
theorem dX7_dry_84 : dcd cX7_dry 84 (.iload_n 3) 1 85 := by decide +kernel
theorem dX7_dry_85 : dcd cX7_dry 85 (.aload_n 0) 1 86 := by decide +kernel
theorem dX7_dry_86 : dcd cX7_dry 86 (.aload_n 1) 1 87 := by decide +kernel
theorem dX7_dry_87 : dcd cX7_dry 87 (.invokevirtual 76) 3 90 := by decide +kernel
theorem dX7_dry_90 : dcd cX7_dry 90 (.imul) 1 91 := by decide +kernel
theorem dX7_dry_91 : dcd cX7_dry 91 (.iadd) 1 92 := by decide +kernel
theorem dX7_dry_92 : dcd cX7_dry 92 (.putfield 62) 3 95 := by decide +kernel
theorem dX7_dry_95 : decode cX7_dry 95 = .ok (.return_, 1) := by decide +kernel
theorem dX7_dryAnew_0 : dcd cX7_dryAnew 0 (.aload_n 0) 1 1 := by decide +kernel
theorem dX7_dryAnew_1 : dcd cX7_dryAnew 1 (.iconst 0) 1 2 := by decide +kernel
theorem dX7_dryAnew_2 : dcd cX7_dryAnew 2 (.putfield 53) 3 5 := by decide +kernel
theorem dX7_dryAnew_5 : dcd cX7_dryAnew 5 (.aload_n 0) 1 6 := by decide +kernel
theorem dX7_dryAnew_6 : dcd cX7_dryAnew 6 (.iconst 0) 1 7 := by decide +kernel
theorem dX7_dryAnew_7 : dcd cX7_dryAnew 7 (.putfield 56) 3 10 := by decide +kernel
theorem dX7_dryAnew_10 : dcd cX7_dryAnew 10 (.aload_n 0) 1 11 := by decide +kernel
theorem dX7_dryAnew_11 : dcd cX7_dryAnew 11 (.iconst 0) 1 12 := by decide +kernel
theorem dX7_dryAnew_12 : dcd cX7_dryAnew 12 (.putfield 59) 3 15 := by decide +kernel
theorem dX7_dryAnew_15 : dcd cX7_dryAnew 15 (.aload_n 0) 1 16 := by decide +kernel
theorem dX7_dryAnew_16 : dcd cX7_dryAnew 16 (.iconst 0) 1 17 := by decide +kernel
theorem dX7_dryAnew_17 : dcd cX7_dryAnew 17 (.putfield 62) 3 20 := by decide +kernel
theorem dX7_dryAnew_20 : decode cX7_dryAnew 20 = .ok (.return_, 1) := by decide +kernel
theorem dX7_shave_0 : dcd cX7_shave 0 (.aload_n 0) 1 1 := by decide +kernel
theorem dX7_shave_1 : dcd cX7_shave 1 (.dup) 1 2 := by decide +kernel
theorem dX7_shave_2 : dcd cX7_shave 2 (.getfield 47) 3 5 := by decide +kernel
theorem dX7_shave_5 : dcd cX7_shave 5 (.aload_n 0) 1 6 := by decide +kernel
theorem dX7_shave_6 : dcd cX7_shave 6 (.invokevirtual 79) 3 9 := by decide +kernel
theorem dX7_shave_9 : dcd cX7_shave 9 (.bipush 40) 2 11 := by decide +kernel
theorem dX7_shave_11 : dcd cX7_shave 11 (.idiv) 1 12 := by decide +kernel
theorem dX7_shave_12 : dcd cX7_shave 12 (.aload_n 0) 1 13 := by decide +kernel
theorem dX7_shave_13 : dcd cX7_shave 13 (.aload_n 1) 1 14 := by decide +kernel
theorem dX7_shave_14 : dcd cX7_shave 14 (.invokevirtual 92) 3 17 := by decide +kernel
theorem dX7_shave_17 : dcd cX7_shave 17 (.iadd) 1 18 := by decide +kernel
theorem dX7_shave_18 : dcd cX7_shave 18 (.iadd) 1 19 := by decide +kernel
theorem dX7_shave_19 : dcd cX7_shave 19 (.putfield 47) 3 22 := by decide +kernel
theorem dX7_shave_22 : dcd cX7_shave 22 (.aload_n 0) 1 23 := by decide +kernel
theorem dX7_shave_23 : dcd cX7_shave 23 (.invokevirtual 50) 3 26 := by decide +kernel
theorem dX7_shave_26 : decode cX7_shave 26 = .ok (.return_, 1) := by decide +kernel
theorem dX7_cuts_0 : dcd cX7_cuts 0 (.aload_n 0) 1 1 := by decide +kernel
theorem dX7_cuts_1 : dcd cX7_cuts 1 (.getfield 23) 3 4 := by decide +kernel
theorem dX7_cuts_4 : dcd cX7_cuts 4 (.iconst 1) 1 5 := by decide +kernel
theorem dX7_cuts_5 : dcd cX7_cuts 5 (.isub) 1 6 := by decide +kernel
theorem dX7_cuts_6 : dcd cX7_cuts 6 (.aload_n 0) 1 7 := by decide +kernel
theorem dX7_cuts_7 : dcd cX7_cuts 7 (.getfield 27) 3 10 := by decide +kernel
theorem dX7_cuts_10 : dcd cX7_cuts 10 (.iadd) 1 11 := by decide +kernel
theorem dX7_cuts_11 : dcd cX7_cuts 11 (.iconst 1) 1 12 := by decide +kernel
theorem dX7_cuts_12 : dcd cX7_cuts 12 (.isub) 1 13 := by decide +kernel
theorem dX7_cuts_13 : decode cX7_cuts 13 = .ok (.ireturn, 1) := by decide +kernel
theorem dX7_isAcross_0 : dcd cX7_isAcross 0 (.iload_n 1) 1 1 := by decide +kernel
theorem dX7_isAcross_1 : dcd cX7_isAcross 1 (.aload_n 0) 1 2 := by decide +kernel
theorem dX7_isAcross_2 : dcd cX7_isAcross 2 (.getfield 23) 3 5 := by decide +kernel
theorem dX7_isAcross_5 : dcd cX7_isAcross 5 (.iconst 1) 1 6 := by decide +kernel
theorem dX7_isAcross_6 : dcd cX7_isAcross 6 (.isub) 1 7 := by decide +kernel
theorem dX7_isAcross_7 : dcb cX7_isAcross 7 (.if_icmp .ge (7)) (7) 14 10 := by decide +kernel
theorem dX7_isAcross_10 : dcd cX7_isAcross 10 (.iconst 1) 1 11 := by decide +kernel
theorem dX7_isAcross_11 : dcb cX7_isAcross 11 (.goto (4)) (4) 15 14 := by decide +kernel
theorem dX7_isAcross_14 : dcd cX7_isAcross 14 (.iconst 0) 1 15 := by decide +kernel
theorem dX7_isAcross_15 : decode cX7_isAcross 15 = .ok (.ireturn, 1) := by decide +kernel
theorem dX7_cutAt_0 : dcd cX7_cutAt 0 (.aload_n 0) 1 1 := by decide +kernel
theorem dX7_cutAt_1 : dcd cX7_cutAt 1 (.iload_n 1) 1 2 := by decide +kernel
theorem dX7_cutAt_2 : dcd cX7_cutAt 2 (.invokevirtual 95) 3 5 := by decide +kernel
theorem dX7_cutAt_5 : dcb cX7_cutAt 5 (.ifCond .eq (9)) (9) 14 8 := by decide +kernel
theorem dX7_cutAt_8 : dcd cX7_cutAt 8 (.iload_n 1) 1 9 := by decide +kernel
theorem dX7_cutAt_9 : dcd cX7_cutAt 9 (.iconst 1) 1 10 := by decide +kernel
theorem dX7_cutAt_10 : dcd cX7_cutAt 10 (.iadd) 1 11 := by decide +kernel
theorem dX7_cutAt_11 : dcb cX7_cutAt 11 (.goto (13)) (13) 24 14 := by decide +kernel
theorem dX7_cutAt_14 : dcd cX7_cutAt 14 (.iload_n 1) 1 15 := by decide +kernel
theorem dX7_cutAt_15 : dcd cX7_cutAt 15 (.iconst 1) 1 16 := by decide +kernel
theorem dX7_cutAt_16 : dcd cX7_cutAt 16 (.iadd) 1 17 := by decide +kernel
theorem dX7_cutAt_17 : dcd cX7_cutAt 17 (.aload_n 0) 1 18 := by decide +kernel
theorem dX7_cutAt_18 : dcd cX7_cutAt 18 (.getfield 23) 3 21 := by decide +kernel
theorem dX7_cutAt_21 : dcd cX7_cutAt 21 (.iconst 1) 1 22 := by decide +kernel
theorem dX7_cutAt_22 : dcd cX7_cutAt 22 (.isub) 1 23 := by decide +kernel
theorem dX7_cutAt_23 : dcd cX7_cutAt 23 (.isub) 1 24 := by decide +kernel
theorem dX7_cutAt_24 : decode cX7_cutAt 24 = .ok (.ireturn, 1) := by decide +kernel
theorem dX7_cutEdges_0 : dcd cX7_cutEdges 0 (.aload_n 0) 1 1 := by decide +kernel
theorem dX7_cutEdges_1 : dcd cX7_cutEdges 1 (.iload_n 1) 1 2 := by decide +kernel
theorem dX7_cutEdges_2 : dcd cX7_cutEdges 2 (.invokevirtual 95) 3 5 := by decide +kernel
theorem dX7_cutEdges_5 : dcb cX7_cutEdges 5 (.ifCond .eq (10)) (10) 15 8 := by decide +kernel
theorem dX7_cutEdges_8 : dcd cX7_cutEdges 8 (.aload_n 0) 1 9 := by decide +kernel
theorem dX7_cutEdges_9 : dcd cX7_cutEdges 9 (.getfield 27) 3 12 := by decide +kernel
theorem dX7_cutEdges_12 : dcb cX7_cutEdges 12 (.goto (7)) (7) 19 15 := by decide +kernel
theorem dX7_cutEdges_15 : dcd cX7_cutEdges 15 (.aload_n 0) 1 16 := by decide +kernel
theorem dX7_cutEdges_16 : dcd cX7_cutEdges 16 (.getfield 23) 3 19 := by decide +kernel
theorem dX7_cutEdges_19 : decode cX7_cutEdges 19 = .ok (.ireturn, 1) := by decide +kernel
theorem dX7_part_0 : dcd cX7_part 0 (.aload 4) 2 2 := by decide +kernel
theorem dX7_part_2 : dcd cX7_part 2 (.aload_n 0) 1 3 := by decide +kernel
theorem dX7_part_3 : dcd cX7_part 3 (.invokevirtual 99) 3 6 := by decide +kernel
theorem dX7_part_6 : dcd cX7_part 6 (.aload 5) 2 8 := by decide +kernel
theorem dX7_part_8 : dcd cX7_part 8 (.aload_n 0) 1 9 := by decide +kernel
theorem dX7_part_9 : dcd cX7_part 9 (.invokevirtual 99) 3 12 := by decide +kernel
theorem dX7_part_12 : dcd cX7_part 12 (.iload_n 2) 1 13 := by decide +kernel
theorem dX7_part_13 : dcb cX7_part 13 (.ifCond .eq (110)) (110) 123 16 := by decide +kernel
theorem dX7_part_16 : dcd cX7_part 16 (.aload 4) 2 18 := by decide +kernel
theorem dX7_part_18 : dcd cX7_part 18 (.iload_n 3) 1 19 := by decide +kernel
theorem dX7_part_19 : dcd cX7_part 19 (.putfield 23) 3 22 := by decide +kernel
theorem dX7_part_22 : dcd cX7_part 22 (.aload 5) 2 24 := by decide +kernel
theorem dX7_part_24 : dcd cX7_part 24 (.aload_n 0) 1 25 := by decide +kernel
theorem dX7_part_25 : dcd cX7_part 25 (.getfield 9) 3 28 := by decide +kernel
theorem dX7_part_28 : dcd cX7_part 28 (.iload_n 3) 1 29 := by decide +kernel
theorem dX7_part_29 : dcd cX7_part 29 (.iadd) 1 30 := by decide +kernel
theorem dX7_part_30 : dcd cX7_part 30 (.putfield 9) 3 33 := by decide +kernel
theorem dX7_part_33 : dcd cX7_part 33 (.aload 5) 2 35 := by decide +kernel
theorem dX7_part_35 : dcd cX7_part 35 (.aload_n 0) 1 36 := by decide +kernel
theorem dX7_part_36 : dcd cX7_part 36 (.getfield 23) 3 39 := by decide +kernel
theorem dX7_part_39 : dcd cX7_part 39 (.iload_n 3) 1 40 := by decide +kernel
theorem dX7_part_40 : dcd cX7_part 40 (.isub) 1 41 := by decide +kernel
theorem dX7_part_41 : dcd cX7_part 41 (.putfield 23) 3 44 := by decide +kernel
theorem dX7_part_44 : dcd cX7_part 44 (.aload 4) 2 46 := by decide +kernel
theorem dX7_part_46 : dcd cX7_part 46 (.iconst 0) 1 47 := by decide +kernel
theorem dX7_part_47 : dcd cX7_part 47 (.putfield 56) 3 50 := by decide +kernel
theorem dX7_part_50 : dcd cX7_part 50 (.aload 5) 2 52 := by decide +kernel
theorem dX7_part_52 : dcd cX7_part 52 (.iconst 0) 1 53 := by decide +kernel
theorem dX7_part_53 : dcd cX7_part 53 (.putfield 53) 3 56 := by decide +kernel
theorem dX7_part_56 : dcd cX7_part 56 (.aload 4) 2 58 := by decide +kernel
theorem dX7_part_58 : dcd cX7_part 58 (.aload_n 0) 1 59 := by decide +kernel
theorem dX7_part_59 : dcd cX7_part 59 (.getfield 59) 3 62 := by decide +kernel
theorem dX7_part_62 : dcd cX7_part 62 (.iload_n 3) 1 63 := by decide +kernel
theorem dX7_part_63 : dcd cX7_part 63 (.aload_n 0) 1 64 := by decide +kernel
theorem dX7_part_64 : dcd cX7_part 64 (.getfield 23) 3 67 := by decide +kernel
theorem dX7_part_67 : dcd cX7_part 67 (.invokestatic 103) 3 70 := by decide +kernel
theorem dX7_part_70 : dcd cX7_part 70 (.putfield 59) 3 73 := by decide +kernel
theorem dX7_part_73 : dcd cX7_part 73 (.aload 4) 2 75 := by decide +kernel
theorem dX7_part_75 : dcd cX7_part 75 (.aload_n 0) 1 76 := by decide +kernel
theorem dX7_part_76 : dcd cX7_part 76 (.getfield 62) 3 79 := by decide +kernel
theorem dX7_part_79 : dcd cX7_part 79 (.iload_n 3) 1 80 := by decide +kernel
theorem dX7_part_80 : dcd cX7_part 80 (.aload_n 0) 1 81 := by decide +kernel
theorem dX7_part_81 : dcd cX7_part 81 (.getfield 23) 3 84 := by decide +kernel
theorem dX7_part_84 : dcd cX7_part 84 (.invokestatic 103) 3 87 := by decide +kernel
theorem dX7_part_87 : dcd cX7_part 87 (.putfield 62) 3 90 := by decide +kernel
theorem dX7_part_90 : dcd cX7_part 90 (.aload 5) 2 92 := by decide +kernel
theorem dX7_part_92 : dcd cX7_part 92 (.aload_n 0) 1 93 := by decide +kernel
theorem dX7_part_93 : dcd cX7_part 93 (.getfield 59) 3 96 := by decide +kernel
theorem dX7_part_96 : dcd cX7_part 96 (.aload 4) 2 98 := by decide +kernel
theorem dX7_part_98 : dcd cX7_part 98 (.getfield 59) 3 101 := by decide +kernel
theorem dX7_part_101 : dcd cX7_part 101 (.isub) 1 102 := by decide +kernel
theorem dX7_part_102 : dcd cX7_part 102 (.putfield 59) 3 105 := by decide +kernel
theorem dX7_part_105 : dcd cX7_part 105 (.aload 5) 2 107 := by decide +kernel
theorem dX7_part_107 : dcd cX7_part 107 (.aload_n 0) 1 108 := by decide +kernel
theorem dX7_part_108 : dcd cX7_part 108 (.getfield 62) 3 111 := by decide +kernel
theorem dX7_part_111 : dcd cX7_part 111 (.aload 4) 2 113 := by decide +kernel
theorem dX7_part_113 : dcd cX7_part 113 (.getfield 62) 3 116 := by decide +kernel
theorem dX7_part_116 : dcd cX7_part 116 (.isub) 1 117 := by decide +kernel
theorem dX7_part_117 : dcd cX7_part 117 (.putfield 62) 3 120 := by decide +kernel
theorem dX7_part_120 : dcb cX7_part 120 (.goto (107)) (107) 227 123 := by decide +kernel
theorem dX7_part_123 : dcd cX7_part 123 (.aload 4) 2 125 := by decide +kernel
theorem dX7_part_125 : dcd cX7_part 125 (.iload_n 3) 1 126 := by decide +kernel
theorem dX7_part_126 : dcd cX7_part 126 (.putfield 27) 3 129 := by decide +kernel
theorem dX7_part_129 : dcd cX7_part 129 (.aload 5) 2 131 := by decide +kernel
theorem dX7_part_131 : dcd cX7_part 131 (.aload_n 0) 1 132 := by decide +kernel
theorem dX7_part_132 : dcd cX7_part 132 (.getfield 15) 3 135 := by decide +kernel
theorem dX7_part_135 : dcd cX7_part 135 (.iload_n 3) 1 136 := by decide +kernel
theorem dX7_part_136 : dcd cX7_part 136 (.iadd) 1 137 := by decide +kernel
theorem dX7_part_137 : dcd cX7_part 137 (.putfield 15) 3 140 := by decide +kernel
theorem dX7_part_140 : dcd cX7_part 140 (.aload 5) 2 142 := by decide +kernel
theorem dX7_part_142 : dcd cX7_part 142 (.aload_n 0) 1 143 := by decide +kernel
theorem dX7_part_143 : dcd cX7_part 143 (.getfield 27) 3 146 := by decide +kernel
theorem dX7_part_146 : dcd cX7_part 146 (.iload_n 3) 1 147 := by decide +kernel
theorem dX7_part_147 : dcd cX7_part 147 (.isub) 1 148 := by decide +kernel
theorem dX7_part_148 : dcd cX7_part 148 (.putfield 27) 3 151 := by decide +kernel
theorem dX7_part_151 : dcd cX7_part 151 (.aload 4) 2 153 := by decide +kernel
theorem dX7_part_153 : dcd cX7_part 153 (.iconst 0) 1 154 := by decide +kernel
theorem dX7_part_154 : dcd cX7_part 154 (.putfield 62) 3 157 := by decide +kernel
theorem dX7_part_157 : dcd cX7_part 157 (.aload 5) 2 159 := by decide +kernel
theorem dX7_part_159 : dcd cX7_part 159 (.iconst 0) 1 160 := by decide +kernel
theorem dX7_part_160 : dcd cX7_part 160 (.putfield 59) 3 163 := by decide +kernel
theorem dX7_part_163 : dcd cX7_part 163 (.aload 4) 2 165 := by decide +kernel
theorem dX7_part_165 : dcd cX7_part 165 (.aload_n 0) 1 166 := by decide +kernel
theorem dX7_part_166 : dcd cX7_part 166 (.getfield 53) 3 169 := by decide +kernel
theorem dX7_part_169 : dcd cX7_part 169 (.iload_n 3) 1 170 := by decide +kernel
theorem dX7_part_170 : dcd cX7_part 170 (.aload_n 0) 1 171 := by decide +kernel
theorem dX7_part_171 : dcd cX7_part 171 (.getfield 27) 3 174 := by decide +kernel
theorem dX7_part_174 : dcd cX7_part 174 (.invokestatic 103) 3 177 := by decide +kernel
theorem dX7_part_177 : dcd cX7_part 177 (.putfield 53) 3 180 := by decide +kernel
theorem dX7_part_180 : dcd cX7_part 180 (.aload 4) 2 182 := by decide +kernel
theorem dX7_part_182 : dcd cX7_part 182 (.aload_n 0) 1 183 := by decide +kernel
theorem dX7_part_183 : dcd cX7_part 183 (.getfield 56) 3 186 := by decide +kernel
theorem dX7_part_186 : dcd cX7_part 186 (.iload_n 3) 1 187 := by decide +kernel
theorem dX7_part_187 : dcd cX7_part 187 (.aload_n 0) 1 188 := by decide +kernel
theorem dX7_part_188 : dcd cX7_part 188 (.getfield 27) 3 191 := by decide +kernel
theorem dX7_part_191 : dcd cX7_part 191 (.invokestatic 103) 3 194 := by decide +kernel
theorem dX7_part_194 : dcd cX7_part 194 (.putfield 56) 3 197 := by decide +kernel
theorem dX7_part_197 : dcd cX7_part 197 (.aload 5) 2 199 := by decide +kernel
theorem dX7_part_199 : dcd cX7_part 199 (.aload_n 0) 1 200 := by decide +kernel
theorem dX7_part_200 : dcd cX7_part 200 (.getfield 53) 3 203 := by decide +kernel
theorem dX7_part_203 : dcd cX7_part 203 (.aload 4) 2 205 := by decide +kernel
theorem dX7_part_205 : dcd cX7_part 205 (.getfield 53) 3 208 := by decide +kernel
theorem dX7_part_208 : dcd cX7_part 208 (.isub) 1 209 := by decide +kernel
theorem dX7_part_209 : dcd cX7_part 209 (.putfield 53) 3 212 := by decide +kernel
theorem dX7_part_212 : dcd cX7_part 212 (.aload 5) 2 214 := by decide +kernel
theorem dX7_part_214 : dcd cX7_part 214 (.aload_n 0) 1 215 := by decide +kernel
theorem dX7_part_215 : dcd cX7_part 215 (.getfield 56) 3 218 := by decide +kernel
theorem dX7_part_218 : dcd cX7_part 218 (.aload 4) 2 220 := by decide +kernel
theorem dX7_part_220 : dcd cX7_part 220 (.getfield 56) 3 223 := by decide +kernel
theorem dX7_part_223 : dcd cX7_part 223 (.isub) 1 224 := by decide +kernel
theorem dX7_part_224 : dcd cX7_part 224 (.putfield 56) 3 227 := by decide +kernel
theorem dX7_part_227 : dcd cX7_part 227 (.aload 4) 2 229 := by decide +kernel
theorem dX7_part_229 : dcd cX7_part 229 (.aload_n 1) 1 230 := by decide +kernel
theorem dX7_part_230 : dcd cX7_part 230 (.aload_n 0) 1 231 := by decide +kernel
theorem dX7_part_231 : dcd cX7_part 231 (.getfield 9) 3 234 := by decide +kernel
theorem dX7_part_234 : dcd cX7_part 234 (.aload_n 0) 1 235 := by decide +kernel
theorem dX7_part_235 : dcd cX7_part 235 (.getfield 15) 3 238 := by decide +kernel
theorem dX7_part_238 : dcd cX7_part 238 (.aload 4) 2 240 := by decide +kernel
theorem dX7_part_240 : dcd cX7_part 240 (.getfield 23) 3 243 := by decide +kernel
theorem dX7_part_243 : dcd cX7_part 243 (.aload 4) 2 245 := by decide +kernel
theorem dX7_part_245 : dcd cX7_part 245 (.getfield 27) 3 248 := by decide +kernel
theorem dX7_part_248 : dcd cX7_part 248 (.invokevirtual 28) 3 251 := by decide +kernel
theorem dX7_part_251 : dcd cX7_part 251 (.putfield 32) 3 254 := by decide +kernel
theorem dX7_part_254 : dcd cX7_part 254 (.aload 5) 2 256 := by decide +kernel
theorem dX7_part_256 : dcd cX7_part 256 (.aload_n 0) 1 257 := by decide +kernel
theorem dX7_part_257 : dcd cX7_part 257 (.getfield 32) 3 260 := by decide +kernel
theorem dX7_part_260 : dcd cX7_part 260 (.aload 4) 2 262 := by decide +kernel
theorem dX7_part_262 : dcd cX7_part 262 (.getfield 32) 3 265 := by decide +kernel
theorem dX7_part_265 : dcd cX7_part 265 (.isub) 1 266 := by decide +kernel
theorem dX7_part_266 : dcd cX7_part 266 (.putfield 32) 3 269 := by decide +kernel
theorem dX7_part_269 : dcd cX7_part 269 (.aload 4) 2 271 := by decide +kernel
theorem dX7_part_271 : dcd cX7_part 271 (.aload_n 1) 1 272 := by decide +kernel
theorem dX7_part_272 : dcd cX7_part 272 (.aload_n 0) 1 273 := by decide +kernel
theorem dX7_part_273 : dcd cX7_part 273 (.getfield 9) 3 276 := by decide +kernel
theorem dX7_part_276 : dcd cX7_part 276 (.aload_n 0) 1 277 := by decide +kernel
theorem dX7_part_277 : dcd cX7_part 277 (.getfield 15) 3 280 := by decide +kernel
theorem dX7_part_280 : dcd cX7_part 280 (.aload 4) 2 282 := by decide +kernel
theorem dX7_part_282 : dcd cX7_part 282 (.getfield 23) 3 285 := by decide +kernel
theorem dX7_part_285 : dcd cX7_part 285 (.aload 4) 2 287 := by decide +kernel
theorem dX7_part_287 : dcd cX7_part 287 (.getfield 27) 3 290 := by decide +kernel
theorem dX7_part_290 : dcd cX7_part 290 (.invokevirtual 35) 3 293 := by decide +kernel
theorem dX7_part_293 : dcd cX7_part 293 (.putfield 38) 3 296 := by decide +kernel
theorem dX7_part_296 : dcd cX7_part 296 (.aload 5) 2 298 := by decide +kernel
theorem dX7_part_298 : dcd cX7_part 298 (.aload_n 0) 1 299 := by decide +kernel
theorem dX7_part_299 : dcd cX7_part 299 (.getfield 38) 3 302 := by decide +kernel
theorem dX7_part_302 : dcd cX7_part 302 (.aload 4) 2 304 := by decide +kernel
theorem dX7_part_304 : dcd cX7_part 304 (.getfield 38) 3 307 := by decide +kernel
theorem dX7_part_307 : dcd cX7_part 307 (.isub) 1 308 := by decide +kernel
theorem dX7_part_308 : dcd cX7_part 308 (.putfield 38) 3 311 := by decide +kernel
theorem dX7_part_311 : dcd cX7_part 311 (.aload 4) 2 313 := by decide +kernel
theorem dX7_part_313 : dcd cX7_part 313 (.aload_n 0) 1 314 := by decide +kernel
theorem dX7_part_314 : dcd cX7_part 314 (.getfield 47) 3 317 := by decide +kernel
theorem dX7_part_317 : dcd cX7_part 317 (.aload 4) 2 319 := by decide +kernel
theorem dX7_part_319 : dcd cX7_part 319 (.getfield 32) 3 322 := by decide +kernel
theorem dX7_part_322 : dcd cX7_part 322 (.aload_n 0) 1 323 := by decide +kernel
theorem dX7_part_323 : dcd cX7_part 323 (.getfield 32) 3 326 := by decide +kernel
theorem dX7_part_326 : dcd cX7_part 326 (.invokestatic 103) 3 329 := by decide +kernel
theorem dX7_part_329 : dcd cX7_part 329 (.putfield 47) 3 332 := by decide +kernel
theorem dX7_part_332 : dcd cX7_part 332 (.aload 5) 2 334 := by decide +kernel
theorem dX7_part_334 : dcd cX7_part 334 (.aload_n 0) 1 335 := by decide +kernel
theorem dX7_part_335 : dcd cX7_part 335 (.getfield 47) 3 338 := by decide +kernel
theorem dX7_part_338 : dcd cX7_part 338 (.aload 4) 2 340 := by decide +kernel
theorem dX7_part_340 : dcd cX7_part 340 (.getfield 47) 3 343 := by decide +kernel
theorem dX7_part_343 : dcd cX7_part 343 (.isub) 1 344 := by decide +kernel
theorem dX7_part_344 : dcd cX7_part 344 (.putfield 47) 3 347 := by decide +kernel
theorem dX7_part_347 : decode cX7_part 347 = .ok (.return_, 1) := by decide +kernel
theorem dX7_share_0 : dcd cX7_share 0 (.iload_n 2) 1 1 := by decide +kernel
theorem dX7_share_1 : dcb cX7_share 1 (.ifCond .le (11)) (11) 12 4 := by decide +kernel
theorem dX7_share_4 : dcd cX7_share 4 (.iload_n 0) 1 5 := by decide +kernel
theorem dX7_share_5 : dcd cX7_share 5 (.iload_n 1) 1 6 := by decide +kernel
theorem dX7_share_6 : dcd cX7_share 6 (.imul) 1 7 := by decide +kernel
theorem dX7_share_7 : dcd cX7_share 7 (.iload_n 2) 1 8 := by decide +kernel
theorem dX7_share_8 : dcd cX7_share 8 (.idiv) 1 9 := by decide +kernel
theorem dX7_share_9 : dcb cX7_share 9 (.goto (4)) (4) 13 12 := by decide +kernel
theorem dX7_share_12 : dcd cX7_share 12 (.iconst 0) 1 13 := by decide +kernel
theorem dX7_share_13 : decode cX7_share 13 = .ok (.ireturn, 1) := by decide +kernel
theorem dX7_pastePlaces_0 : dcd cX7_pastePlaces 0 (.iconst 0) 1 1 := by decide +kernel
theorem dX7_pastePlaces_1 : dcd cX7_pastePlaces 1 (.istore_n 2) 1 2 := by decide +kernel
theorem dX7_pastePlaces_2 : dcd cX7_pastePlaces 2 (.aload_n 0) 1 3 := by decide +kernel
theorem dX7_pastePlaces_3 : dcd cX7_pastePlaces 3 (.getfield 9) 3 6 := by decide +kernel
theorem dX7_pastePlaces_6 : dcd cX7_pastePlaces 6 (.istore_n 3) 1 7 := by decide +kernel
theorem dX7_pastePlaces_7 : dcd cX7_pastePlaces 7 (.iload_n 3) 1 8 := by decide +kernel
theorem dX7_pastePlaces_8 : dcd cX7_pastePlaces 8 (.aload_n 0) 1 9 := by decide +kernel
theorem dX7_pastePlaces_9 : dcd cX7_pastePlaces 9 (.getfield 9) 3 12 := by decide +kernel
theorem dX7_pastePlaces_12 : dcd cX7_pastePlaces 12 (.aload_n 0) 1 13 := by decide +kernel
theorem dX7_pastePlaces_13 : dcd cX7_pastePlaces 13 (.getfield 23) 3 16 := by decide +kernel
theorem dX7_pastePlaces_16 : dcd cX7_pastePlaces 16 (.iadd) 1 17 := by decide +kernel
theorem dX7_pastePlaces_17 : dcb cX7_pastePlaces 17 (.if_icmp .ge (53)) (53) 70 20 := by decide +kernel
theorem dX7_pastePlaces_20 : dcd cX7_pastePlaces 20 (.aload_n 0) 1 21 := by decide +kernel
theorem dX7_pastePlaces_21 : dcd cX7_pastePlaces 21 (.getfield 15) 3 24 := by decide +kernel
theorem dX7_pastePlaces_24 : dcd cX7_pastePlaces 24 (.istore 4) 2 26 := by decide +kernel
theorem dX7_pastePlaces_26 : dcd cX7_pastePlaces 26 (.iload 4) 2 28 := by decide +kernel
theorem dX7_pastePlaces_28 : dcd cX7_pastePlaces 28 (.aload_n 0) 1 29 := by decide +kernel
theorem dX7_pastePlaces_29 : dcd cX7_pastePlaces 29 (.getfield 15) 3 32 := by decide +kernel
theorem dX7_pastePlaces_32 : dcd cX7_pastePlaces 32 (.aload_n 0) 1 33 := by decide +kernel
theorem dX7_pastePlaces_33 : dcd cX7_pastePlaces 33 (.getfield 27) 3 36 := by decide +kernel
theorem dX7_pastePlaces_36 : dcd cX7_pastePlaces 36 (.iadd) 1 37 := by decide +kernel
theorem dX7_pastePlaces_37 : dcb cX7_pastePlaces 37 (.if_icmp .ge (27)) (27) 64 40 := by decide +kernel
theorem dX7_pastePlaces_40 : dcd cX7_pastePlaces 40 (.iload_n 2) 1 41 := by decide +kernel
theorem dX7_pastePlaces_41 : dcd cX7_pastePlaces 41 (.aload_n 1) 1 42 := by decide +kernel
theorem dX7_pastePlaces_42 : dcd cX7_pastePlaces 42 (.iload_n 3) 1 43 := by decide +kernel
theorem dX7_pastePlaces_43 : dcd cX7_pastePlaces 43 (.iload 4) 2 45 := by decide +kernel
theorem dX7_pastePlaces_45 : dcd cX7_pastePlaces 45 (.invokevirtual 107) 3 48 := by decide +kernel
theorem dX7_pastePlaces_48 : dcb cX7_pastePlaces 48 (.ifCond .ne (7)) (7) 55 51 := by decide +kernel
theorem dX7_pastePlaces_51 : dcd cX7_pastePlaces 51 (.iconst 1) 1 52 := by decide +kernel
theorem dX7_pastePlaces_52 : dcb cX7_pastePlaces 52 (.goto (4)) (4) 56 55 := by decide +kernel
theorem dX7_pastePlaces_55 : dcd cX7_pastePlaces 55 (.iconst 0) 1 56 := by decide +kernel
theorem dX7_pastePlaces_56 : dcd cX7_pastePlaces 56 (.iadd) 1 57 := by decide +kernel
theorem dX7_pastePlaces_57 : dcd cX7_pastePlaces 57 (.istore_n 2) 1 58 := by decide +kernel
theorem dX7_pastePlaces_58 : dcd cX7_pastePlaces 58 (.iinc 4 1) 3 61 := by decide +kernel
theorem dX7_pastePlaces_61 : dcb cX7_pastePlaces 61 (.goto (-35)) (-35) 26 64 := by decide +kernel
theorem dX7_pastePlaces_64 : dcd cX7_pastePlaces 64 (.iinc 3 1) 3 67 := by decide +kernel
theorem dX7_pastePlaces_67 : dcb cX7_pastePlaces 67 (.goto (-60)) (-60) 7 70 := by decide +kernel
theorem dX7_pastePlaces_70 : dcd cX7_pastePlaces 70 (.iload_n 2) 1 71 := by decide +kernel
theorem dX7_pastePlaces_71 : decode cX7_pastePlaces 71 = .ok (.ireturn, 1) := by decide +kernel
theorem dX7_ripePlaces_0 : dcd cX7_ripePlaces 0 (.iconst 0) 1 1 := by decide +kernel
theorem dX7_ripePlaces_1 : dcd cX7_ripePlaces 1 (.istore_n 3) 1 2 := by decide +kernel
theorem dX7_ripePlaces_2 : dcd cX7_ripePlaces 2 (.aload_n 0) 1 3 := by decide +kernel
theorem dX7_ripePlaces_3 : dcd cX7_ripePlaces 3 (.getfield 9) 3 6 := by decide +kernel
theorem dX7_ripePlaces_6 : dcd cX7_ripePlaces 6 (.istore 4) 2 8 := by decide +kernel
theorem dX7_ripePlaces_8 : dcd cX7_ripePlaces 8 (.iload 4) 2 10 := by decide +kernel
theorem dX7_ripePlaces_10 : dcd cX7_ripePlaces 10 (.aload_n 0) 1 11 := by decide +kernel
theorem dX7_ripePlaces_11 : dcd cX7_ripePlaces 11 (.getfield 9) 3 14 := by decide +kernel
theorem dX7_ripePlaces_14 : dcd cX7_ripePlaces 14 (.aload_n 0) 1 15 := by decide +kernel
theorem dX7_ripePlaces_15 : dcd cX7_ripePlaces 15 (.getfield 23) 3 18 := by decide +kernel
theorem dX7_ripePlaces_18 : dcd cX7_ripePlaces 18 (.iadd) 1 19 := by decide +kernel
theorem dX7_ripePlaces_19 : dcb cX7_ripePlaces 19 (.if_icmp .ge (55)) (55) 74 22 := by decide +kernel
theorem dX7_ripePlaces_22 : dcd cX7_ripePlaces 22 (.aload_n 0) 1 23 := by decide +kernel
theorem dX7_ripePlaces_23 : dcd cX7_ripePlaces 23 (.getfield 15) 3 26 := by decide +kernel
theorem dX7_ripePlaces_26 : dcd cX7_ripePlaces 26 (.istore 5) 2 28 := by decide +kernel
theorem dX7_ripePlaces_28 : dcd cX7_ripePlaces 28 (.iload 5) 2 30 := by decide +kernel
theorem dX7_ripePlaces_30 : dcd cX7_ripePlaces 30 (.aload_n 0) 1 31 := by decide +kernel
theorem dX7_ripePlaces_31 : dcd cX7_ripePlaces 31 (.getfield 15) 3 34 := by decide +kernel
theorem dX7_ripePlaces_34 : dcd cX7_ripePlaces 34 (.aload_n 0) 1 35 := by decide +kernel
theorem dX7_ripePlaces_35 : dcd cX7_ripePlaces 35 (.getfield 27) 3 38 := by decide +kernel
theorem dX7_ripePlaces_38 : dcd cX7_ripePlaces 38 (.iadd) 1 39 := by decide +kernel
theorem dX7_ripePlaces_39 : dcb cX7_ripePlaces 39 (.if_icmp .ge (29)) (29) 68 42 := by decide +kernel
theorem dX7_ripePlaces_42 : dcd cX7_ripePlaces 42 (.iload_n 3) 1 43 := by decide +kernel
theorem dX7_ripePlaces_43 : dcd cX7_ripePlaces 43 (.aload_n 1) 1 44 := by decide +kernel
theorem dX7_ripePlaces_44 : dcd cX7_ripePlaces 44 (.iload 4) 2 46 := by decide +kernel
theorem dX7_ripePlaces_46 : dcd cX7_ripePlaces 46 (.iload 5) 2 48 := by decide +kernel
theorem dX7_ripePlaces_48 : dcd cX7_ripePlaces 48 (.iload_n 2) 1 49 := by decide +kernel
theorem dX7_ripePlaces_49 : dcd cX7_ripePlaces 49 (.invokevirtual 110) 3 52 := by decide +kernel
theorem dX7_ripePlaces_52 : dcb cX7_ripePlaces 52 (.ifCond .eq (7)) (7) 59 55 := by decide +kernel
theorem dX7_ripePlaces_55 : dcd cX7_ripePlaces 55 (.iconst 1) 1 56 := by decide +kernel
theorem dX7_ripePlaces_56 : dcb cX7_ripePlaces 56 (.goto (4)) (4) 60 59 := by decide +kernel
theorem dX7_ripePlaces_59 : dcd cX7_ripePlaces 59 (.iconst 0) 1 60 := by decide +kernel
theorem dX7_ripePlaces_60 : dcd cX7_ripePlaces 60 (.iadd) 1 61 := by decide +kernel
theorem dX7_ripePlaces_61 : dcd cX7_ripePlaces 61 (.istore_n 3) 1 62 := by decide +kernel
theorem dX7_ripePlaces_62 : dcd cX7_ripePlaces 62 (.iinc 5 1) 3 65 := by decide +kernel
theorem dX7_ripePlaces_65 : dcb cX7_ripePlaces 65 (.goto (-37)) (-37) 28 68 := by decide +kernel
theorem dX7_ripePlaces_68 : dcd cX7_ripePlaces 68 (.iinc 4 1) 3 71 := by decide +kernel
theorem dX7_ripePlaces_71 : dcb cX7_ripePlaces 71 (.goto (-63)) (-63) 8 74 := by decide +kernel
theorem dX7_ripePlaces_74 : dcd cX7_ripePlaces 74 (.iload_n 3) 1 75 := by decide +kernel
theorem dX7_ripePlaces_75 : decode cX7_ripePlaces 75 = .ok (.ireturn, 1) := by decide +kernel
theorem dX8_init_0 : dcd cX8_init 0 (.aload_n 0) 1 1 := by decide +kernel
theorem dX8_init_1 : dcd cX8_init 1 (.invokespecial 3) 3 4 := by decide +kernel
theorem dX8_init_4 : dcd cX8_init 4 (.aload_n 0) 1 5 := by decide +kernel
theorem dX8_init_5 : dcd cX8_init 5 (.aload_n 1) 1 6 := by decide +kernel
theorem dX8_init_6 : dcd cX8_init 6 (.putfield 9) 3 9 := by decide +kernel
theorem dX8_init_9 : dcd cX8_init 9 (.aload_n 0) 1 10 := by decide +kernel
theorem dX8_init_10 : dcd cX8_init 10 (.iconst 1) 1 11 := by decide +kernel
theorem dX8_init_11 : dcd cX8_init 11 (.iload_n 2) 1 12 := by decide +kernel
theorem dX8_init_12 : dcd cX8_init 12 (.invokestatic 15) 3 15 := by decide +kernel
theorem dX8_init_15 : dcd cX8_init 15 (.putfield 21) 3 18 := by decide +kernel
theorem dX8_init_18 : dcd cX8_init 18 (.aload_n 0) 1 19 := by decide +kernel
theorem dX8_init_19 : dcd cX8_init 19 (.sipush 441) 3 22 := by decide +kernel
theorem dX8_init_22 : dcd cX8_init 22 (.aload_n 0) 1 23 := by decide +kernel
theorem dX8_init_23 : dcd cX8_init 23 (.getfield 21) 3 26 := by decide +kernel
theorem dX8_init_26 : dcd cX8_init 26 (.imul) 1 27 := by decide +kernel
theorem dX8_init_27 : dcd cX8_init 27 (.newarray .int) 2 29 := by decide +kernel
theorem dX8_init_29 : dcd cX8_init 29 (.putfield 25) 3 32 := by decide +kernel
theorem dX8_init_32 : decode cX8_init 32 = .ok (.return_, 1) := by decide +kernel
theorem dX8_workOut_0 : dcd cX8_workOut 0 (.iconst 1) 1 1 := by decide +kernel
theorem dX8_workOut_1 : dcd cX8_workOut 1 (.istore_n 2) 1 2 := by decide +kernel
theorem dX8_workOut_2 : dcd cX8_workOut 2 (.iload_n 2) 1 3 := by decide +kernel
theorem dX8_workOut_3 : dcd cX8_workOut 3 (.aload_n 0) 1 4 := by decide +kernel
theorem dX8_workOut_4 : dcd cX8_workOut 4 (.getfield 9) 3 7 := by decide +kernel
theorem dX8_workOut_7 : dcd cX8_workOut 7 (.getfield 29) 3 10 := by decide +kernel
theorem dX8_workOut_10 : dcb cX8_workOut 10 (.if_icmp .gt (94)) (94) 104 13 := by decide +kernel
theorem dX8_workOut_13 : dcd cX8_workOut 13 (.iconst 1) 1 14 := by decide +kernel
theorem dX8_workOut_14 : dcd cX8_workOut 14 (.istore_n 3) 1 15 := by decide +kernel
theorem dX8_workOut_15 : dcd cX8_workOut 15 (.iload_n 3) 1 16 := by decide +kernel
theorem dX8_workOut_16 : dcd cX8_workOut 16 (.aload_n 0) 1 17 := by decide +kernel
theorem dX8_workOut_17 : dcd cX8_workOut 17 (.getfield 9) 3 20 := by decide +kernel
theorem dX8_workOut_20 : dcd cX8_workOut 20 (.getfield 34) 3 23 := by decide +kernel
theorem dX8_workOut_23 : dcb cX8_workOut 23 (.if_icmp .gt (75)) (75) 98 26 := by decide +kernel
theorem dX8_workOut_26 : dcd cX8_workOut 26 (.iconst 0) 1 27 := by decide +kernel
theorem dX8_workOut_27 : dcd cX8_workOut 27 (.istore 4) 2 29 := by decide +kernel
theorem dX8_workOut_29 : dcd cX8_workOut 29 (.iload 4) 2 31 := by decide +kernel
theorem dX8_workOut_31 : dcd cX8_workOut 31 (.aload_n 0) 1 32 := by decide +kernel
theorem dX8_workOut_32 : dcd cX8_workOut 32 (.getfield 9) 3 35 := by decide +kernel
theorem dX8_workOut_35 : dcd cX8_workOut 35 (.getfield 29) 3 38 := by decide +kernel
theorem dX8_workOut_38 : dcd cX8_workOut 38 (.iload_n 2) 1 39 := by decide +kernel
theorem dX8_workOut_39 : dcd cX8_workOut 39 (.isub) 1 40 := by decide +kernel
theorem dX8_workOut_40 : dcb cX8_workOut 40 (.if_icmp .gt (52)) (52) 92 43 := by decide +kernel
theorem dX8_workOut_43 : dcd cX8_workOut 43 (.iconst 0) 1 44 := by decide +kernel
theorem dX8_workOut_44 : dcd cX8_workOut 44 (.istore 5) 2 46 := by decide +kernel
theorem dX8_workOut_46 : dcd cX8_workOut 46 (.iload 5) 2 48 := by decide +kernel
theorem dX8_workOut_48 : dcd cX8_workOut 48 (.aload_n 0) 1 49 := by decide +kernel
theorem dX8_workOut_49 : dcd cX8_workOut 49 (.getfield 9) 3 52 := by decide +kernel
theorem dX8_workOut_52 : dcd cX8_workOut 52 (.getfield 34) 3 55 := by decide +kernel
theorem dX8_workOut_55 : dcd cX8_workOut 55 (.iload_n 3) 1 56 := by decide +kernel
theorem dX8_workOut_56 : dcd cX8_workOut 56 (.isub) 1 57 := by decide +kernel
theorem dX8_workOut_57 : dcb cX8_workOut 57 (.if_icmp .gt (29)) (29) 86 60 := by decide +kernel
theorem dX8_workOut_60 : dcd cX8_workOut 60 (.aload_n 0) 1 61 := by decide +kernel
theorem dX8_workOut_61 : dcd cX8_workOut 61 (.iload 4) 2 63 := by decide +kernel
theorem dX8_workOut_63 : dcd cX8_workOut 63 (.iload 5) 2 65 := by decide +kernel
theorem dX8_workOut_65 : dcd cX8_workOut 65 (.iload_n 2) 1 66 := by decide +kernel
theorem dX8_workOut_66 : dcd cX8_workOut 66 (.iload_n 3) 1 67 := by decide +kernel
theorem dX8_workOut_67 : dcd cX8_workOut 67 (.iload_n 1) 1 68 := by decide +kernel
theorem dX8_workOut_68 : dcd cX8_workOut 68 (.aload_n 0) 1 69 := by decide +kernel
theorem dX8_workOut_69 : dcd cX8_workOut 69 (.getfield 21) 3 72 := by decide +kernel
theorem dX8_workOut_72 : dcd cX8_workOut 72 (.iconst 1) 1 73 := by decide +kernel
theorem dX8_workOut_73 : dcd cX8_workOut 73 (.isub) 1 74 := by decide +kernel
theorem dX8_workOut_74 : dcd cX8_workOut 74 (.invokestatic 37) 3 77 := by decide +kernel
theorem dX8_workOut_77 : dcd cX8_workOut 77 (.invokevirtual 40) 3 80 := by decide +kernel
theorem dX8_workOut_80 : dcd cX8_workOut 80 (.iinc 5 1) 3 83 := by decide +kernel
theorem dX8_workOut_83 : dcb cX8_workOut 83 (.goto (-37)) (-37) 46 86 := by decide +kernel
theorem dX8_workOut_86 : dcd cX8_workOut 86 (.iinc 4 1) 3 89 := by decide +kernel
theorem dX8_workOut_89 : dcb cX8_workOut 89 (.goto (-60)) (-60) 29 92 := by decide +kernel
theorem dX8_workOut_92 : dcd cX8_workOut 92 (.iinc 3 1) 3 95 := by decide +kernel
theorem dX8_workOut_95 : dcb cX8_workOut 95 (.goto (-80)) (-80) 15 98 := by decide +kernel
theorem dX8_workOut_98 : dcd cX8_workOut 98 (.iinc 2 1) 3 101 := by decide +kernel
theorem dX8_workOut_101 : dcb cX8_workOut 101 (.goto (-99)) (-99) 2 104 := by decide +kernel
theorem dX8_workOut_104 : decode cX8_workOut 104 = .ok (.return_, 1) := by decide +kernel
theorem dX8_settle_0 : dcd cX8_settle 0 (.aload_n 0) 1 1 := by decide +kernel
theorem dX8_settle_1 : dcd cX8_settle 1 (.iload_n 1) 1 2 := by decide +kernel
theorem dX8_settle_2 : dcd cX8_settle 2 (.iload_n 2) 1 3 := by decide +kernel
theorem dX8_settle_3 : dcd cX8_settle 3 (.iload_n 3) 1 4 := by decide +kernel
theorem dX8_settle_4 : dcd cX8_settle 4 (.iload 4) 2 6 := by decide +kernel
theorem dX8_settle_6 : dcd cX8_settle 6 (.invokevirtual 44) 3 9 := by decide +kernel
theorem dX8_settle_9 : dcd cX8_settle 9 (.istore 6) 2 11 := by decide +kernel
theorem dX8_settle_11 : dcd cX8_settle 11 (.iconst 0) 1 12 := by decide +kernel
theorem dX8_settle_12 : dcd cX8_settle 12 (.istore 7) 2 14 := by decide +kernel
theorem dX8_settle_14 : dcd cX8_settle 14 (.iload 7) 2 16 := by decide +kernel
theorem dX8_settle_16 : dcd cX8_settle 16 (.iload 5) 2 18 := by decide +kernel
theorem dX8_settle_18 : dcb cX8_settle 18 (.if_icmp .gt (54)) (54) 72 21 := by decide +kernel
theorem dX8_settle_21 : dcd cX8_settle 21 (.aload_n 0) 1 22 := by decide +kernel
theorem dX8_settle_22 : dcd cX8_settle 22 (.iload_n 1) 1 23 := by decide +kernel
theorem dX8_settle_23 : dcd cX8_settle 23 (.iload_n 2) 1 24 := by decide +kernel
theorem dX8_settle_24 : dcd cX8_settle 24 (.iload_n 3) 1 25 := by decide +kernel
theorem dX8_settle_25 : dcd cX8_settle 25 (.iload 4) 2 27 := by decide +kernel
theorem dX8_settle_27 : dcd cX8_settle 27 (.iload 7) 2 29 := by decide +kernel
theorem dX8_settle_29 : dcd cX8_settle 29 (.invokevirtual 48) 3 32 := by decide +kernel
theorem dX8_settle_32 : dcd cX8_settle 32 (.istore 8) 2 34 := by decide +kernel
theorem dX8_settle_34 : dcd cX8_settle 34 (.aload_n 0) 1 35 := by decide +kernel
theorem dX8_settle_35 : dcd cX8_settle 35 (.getfield 25) 3 38 := by decide +kernel
theorem dX8_settle_38 : dcd cX8_settle 38 (.iload 6) 2 40 := by decide +kernel
theorem dX8_settle_40 : dcd cX8_settle 40 (.iload 7) 2 42 := by decide +kernel
theorem dX8_settle_42 : dcd cX8_settle 42 (.iadd) 1 43 := by decide +kernel
theorem dX8_settle_43 : dcd cX8_settle 43 (.iload 8) 2 45 := by decide +kernel
theorem dX8_settle_45 : dcd cX8_settle 45 (.iconst (-1)) 1 46 := by decide +kernel
theorem dX8_settle_46 : dcb cX8_settle 46 (.if_icmp .ne (17)) (17) 63 49 := by decide +kernel
theorem dX8_settle_49 : dcd cX8_settle 49 (.aload_n 0) 1 50 := by decide +kernel
theorem dX8_settle_50 : dcd cX8_settle 50 (.iload_n 1) 1 51 := by decide +kernel
theorem dX8_settle_51 : dcd cX8_settle 51 (.iload_n 2) 1 52 := by decide +kernel
theorem dX8_settle_52 : dcd cX8_settle 52 (.iload_n 3) 1 53 := by decide +kernel
theorem dX8_settle_53 : dcd cX8_settle 53 (.iload 4) 2 55 := by decide +kernel
theorem dX8_settle_55 : dcd cX8_settle 55 (.iload 7) 2 57 := by decide +kernel
theorem dX8_settle_57 : dcd cX8_settle 57 (.invokevirtual 52) 3 60 := by decide +kernel
theorem dX8_settle_60 : dcb cX8_settle 60 (.goto (5)) (5) 65 63 := by decide +kernel
theorem dX8_settle_63 : dcd cX8_settle 63 (.iload 8) 2 65 := by decide +kernel
theorem dX8_settle_65 : dcd cX8_settle 65 (.iastore) 1 66 := by decide +kernel
theorem dX8_settle_66 : dcd cX8_settle 66 (.iinc 7 1) 3 69 := by decide +kernel
theorem dX8_settle_69 : dcb cX8_settle 69 (.goto (-55)) (-55) 14 72 := by decide +kernel
theorem dX8_settle_72 : decode cX8_settle 72 = .ok (.return_, 1) := by decide +kernel
theorem dX8_leastCut_0 : dcd cX8_leastCut 0 (.ldc 55) 2 2 := by decide +kernel
theorem dX8_leastCut_2 : dcd cX8_leastCut 2 (.istore 6) 2 4 := by decide +kernel
theorem dX8_leastCut_4 : dcd cX8_leastCut 4 (.iconst 1) 1 5 := by decide +kernel
theorem dX8_leastCut_5 : dcd cX8_leastCut 5 (.istore 7) 2 7 := by decide +kernel
theorem dX8_leastCut_7 : dcd cX8_leastCut 7 (.iload 7) 2 9 := by decide +kernel
theorem dX8_leastCut_9 : dcd cX8_leastCut 9 (.iload_n 3) 1 10 := by decide +kernel
theorem dX8_leastCut_10 : dcb cX8_leastCut 10 (.if_icmp .ge (30)) (30) 40 13 := by decide +kernel
theorem dX8_leastCut_13 : dcd cX8_leastCut 13 (.iload 6) 2 15 := by decide +kernel
theorem dX8_leastCut_15 : dcd cX8_leastCut 15 (.aload_n 0) 1 16 := by decide +kernel
theorem dX8_leastCut_16 : dcd cX8_leastCut 16 (.iload_n 1) 1 17 := by decide +kernel
theorem dX8_leastCut_17 : dcd cX8_leastCut 17 (.iload_n 2) 1 18 := by decide +kernel
theorem dX8_leastCut_18 : dcd cX8_leastCut 18 (.iload_n 3) 1 19 := by decide +kernel
theorem dX8_leastCut_19 : dcd cX8_leastCut 19 (.iload 4) 2 21 := by decide +kernel
theorem dX8_leastCut_21 : dcd cX8_leastCut 21 (.iconst 1) 1 22 := by decide +kernel
theorem dX8_leastCut_22 : dcd cX8_leastCut 22 (.iload 7) 2 24 := by decide +kernel
theorem dX8_leastCut_24 : dcd cX8_leastCut 24 (.iload 5) 2 26 := by decide +kernel
theorem dX8_leastCut_26 : dcd cX8_leastCut 26 (.invokevirtual 56) 3 29 := by decide +kernel
theorem dX8_leastCut_29 : dcd cX8_leastCut 29 (.invokestatic 37) 3 32 := by decide +kernel
theorem dX8_leastCut_32 : dcd cX8_leastCut 32 (.istore 6) 2 34 := by decide +kernel
theorem dX8_leastCut_34 : dcd cX8_leastCut 34 (.iinc 7 1) 3 37 := by decide +kernel
theorem dX8_leastCut_37 : dcb cX8_leastCut 37 (.goto (-30)) (-30) 7 40 := by decide +kernel
theorem dX8_leastCut_40 : dcd cX8_leastCut 40 (.iconst 1) 1 41 := by decide +kernel
theorem dX8_leastCut_41 : dcd cX8_leastCut 41 (.istore 7) 2 43 := by decide +kernel
theorem dX8_leastCut_43 : dcd cX8_leastCut 43 (.iload 7) 2 45 := by decide +kernel
theorem dX8_leastCut_45 : dcd cX8_leastCut 45 (.iload 4) 2 47 := by decide +kernel
theorem dX8_leastCut_47 : dcb cX8_leastCut 47 (.if_icmp .ge (30)) (30) 77 50 := by decide +kernel
theorem dX8_leastCut_50 : dcd cX8_leastCut 50 (.iload 6) 2 52 := by decide +kernel
theorem dX8_leastCut_52 : dcd cX8_leastCut 52 (.aload_n 0) 1 53 := by decide +kernel
theorem dX8_leastCut_53 : dcd cX8_leastCut 53 (.iload_n 1) 1 54 := by decide +kernel
theorem dX8_leastCut_54 : dcd cX8_leastCut 54 (.iload_n 2) 1 55 := by decide +kernel
theorem dX8_leastCut_55 : dcd cX8_leastCut 55 (.iload_n 3) 1 56 := by decide +kernel
theorem dX8_leastCut_56 : dcd cX8_leastCut 56 (.iload 4) 2 58 := by decide +kernel
theorem dX8_leastCut_58 : dcd cX8_leastCut 58 (.iconst 0) 1 59 := by decide +kernel
theorem dX8_leastCut_59 : dcd cX8_leastCut 59 (.iload 7) 2 61 := by decide +kernel
theorem dX8_leastCut_61 : dcd cX8_leastCut 61 (.iload 5) 2 63 := by decide +kernel
theorem dX8_leastCut_63 : dcd cX8_leastCut 63 (.invokevirtual 56) 3 66 := by decide +kernel
theorem dX8_leastCut_66 : dcd cX8_leastCut 66 (.invokestatic 37) 3 69 := by decide +kernel
theorem dX8_leastCut_69 : dcd cX8_leastCut 69 (.istore 6) 2 71 := by decide +kernel
theorem dX8_leastCut_71 : dcd cX8_leastCut 71 (.iinc 7 1) 3 74 := by decide +kernel
theorem dX8_leastCut_74 : dcb cX8_leastCut 74 (.goto (-31)) (-31) 43 77 := by decide +kernel
theorem dX8_leastCut_77 : dcd cX8_leastCut 77 (.iload 6) 2 79 := by decide +kernel
theorem dX8_leastCut_79 : decode cX8_leastCut 79 = .ok (.ireturn, 1) := by decide +kernel
theorem dX8_cutCost_0 : dcd cX8_cutCost 0 (.iload 5) 2 2 := by decide +kernel
theorem dX8_cutCost_2 : dcb cX8_cutCost 2 (.ifCond .eq (50)) (50) 52 5 := by decide +kernel
theorem dX8_cutCost_5 : dcd cX8_cutCost 5 (.aload_n 0) 1 6 := by decide +kernel
theorem dX8_cutCost_6 : dcd cX8_cutCost 6 (.iload_n 1) 1 7 := by decide +kernel
theorem dX8_cutCost_7 : dcd cX8_cutCost 7 (.iload_n 2) 1 8 := by decide +kernel
theorem dX8_cutCost_8 : dcd cX8_cutCost 8 (.iload 6) 2 10 := by decide +kernel
theorem dX8_cutCost_10 : dcd cX8_cutCost 10 (.iload 4) 2 12 := by decide +kernel
theorem dX8_cutCost_12 : dcd cX8_cutCost 12 (.invokevirtual 44) 3 15 := by decide +kernel
theorem dX8_cutCost_15 : dcd cX8_cutCost 15 (.istore 8) 2 17 := by decide +kernel
theorem dX8_cutCost_17 : dcd cX8_cutCost 17 (.aload_n 0) 1 18 := by decide +kernel
theorem dX8_cutCost_18 : dcd cX8_cutCost 18 (.iload_n 1) 1 19 := by decide +kernel
theorem dX8_cutCost_19 : dcd cX8_cutCost 19 (.iload 6) 2 21 := by decide +kernel
theorem dX8_cutCost_21 : dcd cX8_cutCost 21 (.iadd) 1 22 := by decide +kernel
theorem dX8_cutCost_22 : dcd cX8_cutCost 22 (.iload_n 2) 1 23 := by decide +kernel
theorem dX8_cutCost_23 : dcd cX8_cutCost 23 (.iload_n 3) 1 24 := by decide +kernel
theorem dX8_cutCost_24 : dcd cX8_cutCost 24 (.iload 6) 2 26 := by decide +kernel
theorem dX8_cutCost_26 : dcd cX8_cutCost 26 (.isub) 1 27 := by decide +kernel
theorem dX8_cutCost_27 : dcd cX8_cutCost 27 (.iload 4) 2 29 := by decide +kernel
theorem dX8_cutCost_29 : dcd cX8_cutCost 29 (.invokevirtual 44) 3 32 := by decide +kernel
theorem dX8_cutCost_32 : dcd cX8_cutCost 32 (.istore 9) 2 34 := by decide +kernel
theorem dX8_cutCost_34 : dcd cX8_cutCost 34 (.aload_n 0) 1 35 := by decide +kernel
theorem dX8_cutCost_35 : dcd cX8_cutCost 35 (.iload 4) 2 37 := by decide +kernel
theorem dX8_cutCost_37 : dcd cX8_cutCost 37 (.invokevirtual 60) 3 40 := by decide +kernel
theorem dX8_cutCost_40 : dcd cX8_cutCost 40 (.aload_n 0) 1 41 := by decide +kernel
theorem dX8_cutCost_41 : dcd cX8_cutCost 41 (.iload 8) 2 43 := by decide +kernel
theorem dX8_cutCost_43 : dcd cX8_cutCost 43 (.iload 9) 2 45 := by decide +kernel
theorem dX8_cutCost_45 : dcd cX8_cutCost 45 (.iload 7) 2 47 := by decide +kernel
theorem dX8_cutCost_47 : dcd cX8_cutCost 47 (.invokevirtual 64) 3 50 := by decide +kernel
theorem dX8_cutCost_50 : dcd cX8_cutCost 50 (.iadd) 1 51 := by decide +kernel
theorem dX8_cutCost_51 : decode cX8_cutCost 51 = .ok (.ireturn, 1) := by decide +kernel
theorem dX8_cutCost_52 : dcd cX8_cutCost 52 (.aload_n 0) 1 53 := by decide +kernel
theorem dX8_cutCost_53 : dcd cX8_cutCost 53 (.iload_n 1) 1 54 := by decide +kernel
theorem dX8_cutCost_54 : dcd cX8_cutCost 54 (.iload_n 2) 1 55 := by decide +kernel
theorem dX8_cutCost_55 : dcd cX8_cutCost 55 (.iload_n 3) 1 56 := by decide +kernel
theorem dX8_cutCost_56 : dcd cX8_cutCost 56 (.iload 6) 2 58 := by decide +kernel
theorem dX8_cutCost_58 : dcd cX8_cutCost 58 (.invokevirtual 44) 3 61 := by decide +kernel
theorem dX8_cutCost_61 : dcd cX8_cutCost 61 (.istore 8) 2 63 := by decide +kernel
theorem dX8_cutCost_63 : dcd cX8_cutCost 63 (.aload_n 0) 1 64 := by decide +kernel
theorem dX8_cutCost_64 : dcd cX8_cutCost 64 (.iload_n 1) 1 65 := by decide +kernel
theorem dX8_cutCost_65 : dcd cX8_cutCost 65 (.iload_n 2) 1 66 := by decide +kernel
theorem dX8_cutCost_66 : dcd cX8_cutCost 66 (.iload 6) 2 68 := by decide +kernel
theorem dX8_cutCost_68 : dcd cX8_cutCost 68 (.iadd) 1 69 := by decide +kernel
theorem dX8_cutCost_69 : dcd cX8_cutCost 69 (.iload_n 3) 1 70 := by decide +kernel
theorem dX8_cutCost_70 : dcd cX8_cutCost 70 (.iload 4) 2 72 := by decide +kernel
theorem dX8_cutCost_72 : dcd cX8_cutCost 72 (.iload 6) 2 74 := by decide +kernel
theorem dX8_cutCost_74 : dcd cX8_cutCost 74 (.isub) 1 75 := by decide +kernel
theorem dX8_cutCost_75 : dcd cX8_cutCost 75 (.invokevirtual 44) 3 78 := by decide +kernel
theorem dX8_cutCost_78 : dcd cX8_cutCost 78 (.istore 9) 2 80 := by decide +kernel
theorem dX8_cutCost_80 : dcd cX8_cutCost 80 (.aload_n 0) 1 81 := by decide +kernel
theorem dX8_cutCost_81 : dcd cX8_cutCost 81 (.iload_n 3) 1 82 := by decide +kernel
theorem dX8_cutCost_82 : dcd cX8_cutCost 82 (.invokevirtual 60) 3 85 := by decide +kernel
theorem dX8_cutCost_85 : dcd cX8_cutCost 85 (.aload_n 0) 1 86 := by decide +kernel
theorem dX8_cutCost_86 : dcd cX8_cutCost 86 (.iload 8) 2 88 := by decide +kernel
theorem dX8_cutCost_88 : dcd cX8_cutCost 88 (.iload 9) 2 90 := by decide +kernel
theorem dX8_cutCost_90 : dcd cX8_cutCost 90 (.iload 7) 2 92 := by decide +kernel
theorem dX8_cutCost_92 : dcd cX8_cutCost 92 (.invokevirtual 64) 3 95 := by decide +kernel
theorem dX8_cutCost_95 : dcd cX8_cutCost 95 (.iadd) 1 96 := by decide +kernel
theorem dX8_cutCost_96 : decode cX8_cutCost 96 = .ok (.ireturn, 1) := by decide +kernel
theorem dX8_bothCost_0 : dcd cX8_bothCost 0 (.ldc 55) 2 2 := by decide +kernel
theorem dX8_bothCost_2 : dcd cX8_bothCost 2 (.istore 4) 2 4 := by decide +kernel
theorem dX8_bothCost_4 : dcd cX8_bothCost 4 (.iload_n 3) 1 5 := by decide +kernel
theorem dX8_bothCost_5 : dcd cX8_bothCost 5 (.istore 5) 2 7 := by decide +kernel
theorem dX8_bothCost_7 : dcd cX8_bothCost 7 (.iload 5) 2 9 := by decide +kernel
theorem dX8_bothCost_9 : dcb cX8_bothCost 9 (.ifCond .lt (49)) (49) 58 12 := by decide +kernel
theorem dX8_bothCost_12 : dcd cX8_bothCost 12 (.iload 5) 2 14 := by decide +kernel
theorem dX8_bothCost_14 : dcd cX8_bothCost 14 (.iload_n 3) 1 15 := by decide +kernel
theorem dX8_bothCost_15 : dcd cX8_bothCost 15 (.iand) 1 16 := by decide +kernel
theorem dX8_bothCost_16 : dcd cX8_bothCost 16 (.istore 5) 2 18 := by decide +kernel
theorem dX8_bothCost_18 : dcd cX8_bothCost 18 (.aload_n 0) 1 19 := by decide +kernel
theorem dX8_bothCost_19 : dcd cX8_bothCost 19 (.getfield 25) 3 22 := by decide +kernel
theorem dX8_bothCost_22 : dcd cX8_bothCost 22 (.iload_n 1) 1 23 := by decide +kernel
theorem dX8_bothCost_23 : dcd cX8_bothCost 23 (.iload 5) 2 25 := by decide +kernel
theorem dX8_bothCost_25 : dcd cX8_bothCost 25 (.iadd) 1 26 := by decide +kernel
theorem dX8_bothCost_26 : dcd cX8_bothCost 26 (.iaload) 1 27 := by decide +kernel
theorem dX8_bothCost_27 : dcd cX8_bothCost 27 (.aload_n 0) 1 28 := by decide +kernel
theorem dX8_bothCost_28 : dcd cX8_bothCost 28 (.getfield 25) 3 31 := by decide +kernel
theorem dX8_bothCost_31 : dcd cX8_bothCost 31 (.iload_n 2) 1 32 := by decide +kernel
theorem dX8_bothCost_32 : dcd cX8_bothCost 32 (.iload_n 3) 1 33 := by decide +kernel
theorem dX8_bothCost_33 : dcd cX8_bothCost 33 (.iload 5) 2 35 := by decide +kernel
theorem dX8_bothCost_35 : dcd cX8_bothCost 35 (.ixor) 1 36 := by decide +kernel
theorem dX8_bothCost_36 : dcd cX8_bothCost 36 (.iadd) 1 37 := by decide +kernel
theorem dX8_bothCost_37 : dcd cX8_bothCost 37 (.iaload) 1 38 := by decide +kernel
theorem dX8_bothCost_38 : dcd cX8_bothCost 38 (.iadd) 1 39 := by decide +kernel
theorem dX8_bothCost_39 : dcd cX8_bothCost 39 (.istore 6) 2 41 := by decide +kernel
theorem dX8_bothCost_41 : dcd cX8_bothCost 41 (.iload 6) 2 43 := by decide +kernel
theorem dX8_bothCost_43 : dcd cX8_bothCost 43 (.iload 4) 2 45 := by decide +kernel
theorem dX8_bothCost_45 : dcb cX8_bothCost 45 (.if_icmp .ge (7)) (7) 52 48 := by decide +kernel
theorem dX8_bothCost_48 : dcd cX8_bothCost 48 (.iload 6) 2 50 := by decide +kernel
theorem dX8_bothCost_50 : dcd cX8_bothCost 50 (.istore 4) 2 52 := by decide +kernel
theorem dX8_bothCost_52 : dcd cX8_bothCost 52 (.iinc 5 (-1)) 3 55 := by decide +kernel
theorem dX8_bothCost_55 : dcb cX8_bothCost 55 (.goto (-48)) (-48) 7 58 := by decide +kernel
theorem dX8_bothCost_58 : dcd cX8_bothCost 58 (.iload 4) 2 60 := by decide +kernel
theorem dX8_bothCost_60 : decode cX8_bothCost 60 = .ok (.ireturn, 1) := by decide +kernel
theorem dX8_costOfAll_0 : dcd cX8_costOfAll 0 (.aload_n 0) 1 1 := by decide +kernel
theorem dX8_costOfAll_1 : dcd cX8_costOfAll 1 (.getfield 25) 3 4 := by decide +kernel
theorem dX8_costOfAll_4 : dcd cX8_costOfAll 4 (.aload_n 0) 1 5 := by decide +kernel
theorem dX8_costOfAll_5 : dcd cX8_costOfAll 5 (.iconst 0) 1 6 := by decide +kernel
theorem dX8_costOfAll_6 : dcd cX8_costOfAll 6 (.iconst 0) 1 7 := by decide +kernel
theorem dX8_costOfAll_7 : dcd cX8_costOfAll 7 (.aload_n 0) 1 8 := by decide +kernel
theorem dX8_costOfAll_8 : dcd cX8_costOfAll 8 (.getfield 9) 3 11 := by decide +kernel
theorem dX8_costOfAll_11 : dcd cX8_costOfAll 11 (.getfield 29) 3 14 := by decide +kernel
theorem dX8_costOfAll_14 : dcd cX8_costOfAll 14 (.aload_n 0) 1 15 := by decide +kernel
theorem dX8_costOfAll_15 : dcd cX8_costOfAll 15 (.getfield 9) 3 18 := by decide +kernel
theorem dX8_costOfAll_18 : dcd cX8_costOfAll 18 (.getfield 34) 3 21 := by decide +kernel
theorem dX8_costOfAll_21 : dcd cX8_costOfAll 21 (.invokevirtual 44) 3 24 := by decide +kernel
theorem dX8_costOfAll_24 : dcd cX8_costOfAll 24 (.iload_n 1) 1 25 := by decide +kernel
theorem dX8_costOfAll_25 : dcd cX8_costOfAll 25 (.iadd) 1 26 := by decide +kernel
theorem dX8_costOfAll_26 : dcd cX8_costOfAll 26 (.iaload) 1 27 := by decide +kernel
theorem dX8_costOfAll_27 : decode cX8_costOfAll 27 = .ok (.ireturn, 1) := by decide +kernel
theorem dX8_spotOf_0 : dcd cX8_spotOf 0 (.iload_n 1) 1 1 := by decide +kernel
theorem dX8_spotOf_1 : dcd cX8_spotOf 1 (.bipush 13) 2 3 := by decide +kernel
theorem dX8_spotOf_3 : dcd cX8_spotOf 3 (.iload_n 1) 1 4 := by decide +kernel
theorem dX8_spotOf_4 : dcd cX8_spotOf 4 (.isub) 1 5 := by decide +kernel
theorem dX8_spotOf_5 : dcd cX8_spotOf 5 (.imul) 1 6 := by decide +kernel
theorem dX8_spotOf_6 : dcd cX8_spotOf 6 (.iconst 2) 1 7 := by decide +kernel
theorem dX8_spotOf_7 : dcd cX8_spotOf 7 (.idiv) 1 8 := by decide +kernel
theorem dX8_spotOf_8 : dcd cX8_spotOf 8 (.iload_n 3) 1 9 := by decide +kernel
theorem dX8_spotOf_9 : dcd cX8_spotOf 9 (.iadd) 1 10 := by decide +kernel
theorem dX8_spotOf_10 : dcd cX8_spotOf 10 (.iconst 1) 1 11 := by decide +kernel
theorem dX8_spotOf_11 : dcd cX8_spotOf 11 (.isub) 1 12 := by decide +kernel
theorem dX8_spotOf_12 : dcd cX8_spotOf 12 (.istore 5) 2 14 := by decide +kernel
theorem dX8_spotOf_14 : dcd cX8_spotOf 14 (.iload_n 2) 1 15 := by decide +kernel
theorem dX8_spotOf_15 : dcd cX8_spotOf 15 (.bipush 13) 2 17 := by decide +kernel
theorem dX8_spotOf_17 : dcd cX8_spotOf 17 (.iload_n 2) 1 18 := by decide +kernel
theorem dX8_spotOf_18 : dcd cX8_spotOf 18 (.isub) 1 19 := by decide +kernel
theorem dX8_spotOf_19 : dcd cX8_spotOf 19 (.imul) 1 20 := by decide +kernel
theorem dX8_spotOf_20 : dcd cX8_spotOf 20 (.iconst 2) 1 21 := by decide +kernel
theorem dX8_spotOf_21 : dcd cX8_spotOf 21 (.idiv) 1 22 := by decide +kernel
theorem dX8_spotOf_22 : dcd cX8_spotOf 22 (.iload 4) 2 24 := by decide +kernel
theorem dX8_spotOf_24 : dcd cX8_spotOf 24 (.iadd) 1 25 := by decide +kernel
theorem dX8_spotOf_25 : dcd cX8_spotOf 25 (.iconst 1) 1 26 := by decide +kernel
theorem dX8_spotOf_26 : dcd cX8_spotOf 26 (.isub) 1 27 := by decide +kernel
theorem dX8_spotOf_27 : dcd cX8_spotOf 27 (.istore 6) 2 29 := by decide +kernel
theorem dX8_spotOf_29 : dcd cX8_spotOf 29 (.iload 5) 2 31 := by decide +kernel
theorem dX8_spotOf_31 : dcd cX8_spotOf 31 (.bipush 21) 2 33 := by decide +kernel
theorem dX8_spotOf_33 : dcd cX8_spotOf 33 (.imul) 1 34 := by decide +kernel
theorem dX8_spotOf_34 : dcd cX8_spotOf 34 (.iload 6) 2 36 := by decide +kernel
theorem dX8_spotOf_36 : dcd cX8_spotOf 36 (.iadd) 1 37 := by decide +kernel
theorem dX8_spotOf_37 : dcd cX8_spotOf 37 (.aload_n 0) 1 38 := by decide +kernel
theorem dX8_spotOf_38 : dcd cX8_spotOf 38 (.getfield 21) 3 41 := by decide +kernel
theorem dX8_spotOf_41 : dcd cX8_spotOf 41 (.imul) 1 42 := by decide +kernel
theorem dX8_spotOf_42 : decode cX8_spotOf 42 = .ok (.ireturn, 1) := by decide +kernel
theorem dX9_init_0 : dcd cX9_init 0 (.aload_n 0) 1 1 := by decide +kernel
theorem dX9_init_1 : dcd cX9_init 1 (.invokespecial 3) 3 4 := by decide +kernel
theorem dX9_init_4 : dcd cX9_init 4 (.aload_n 0) 1 5 := by decide +kernel
theorem dX9_init_5 : dcd cX9_init 5 (.new 9) 3 8 := by decide +kernel
theorem dX9_init_8 : dcd cX9_init 8 (.dup) 1 9 := by decide +kernel
theorem dX9_init_9 : dcd cX9_init 9 (.invokespecial 11) 3 12 := by decide +kernel
theorem dX9_init_12 : dcd cX9_init 12 (.putfield 12) 3 15 := by decide +kernel
theorem dX9_init_15 : dcd cX9_init 15 (.aload_n 0) 1 16 := by decide +kernel
theorem dX9_init_16 : dcd cX9_init 16 (.new 9) 3 19 := by decide +kernel
theorem dX9_init_19 : dcd cX9_init 19 (.dup) 1 20 := by decide +kernel
theorem dX9_init_20 : dcd cX9_init 20 (.invokespecial 11) 3 23 := by decide +kernel
theorem dX9_init_23 : dcd cX9_init 23 (.putfield 18) 3 26 := by decide +kernel
theorem dX9_init_26 : dcd cX9_init 26 (.aload_n 0) 1 27 := by decide +kernel
theorem dX9_init_27 : dcd cX9_init 27 (.new 9) 3 30 := by decide +kernel
theorem dX9_init_30 : dcd cX9_init 30 (.dup) 1 31 := by decide +kernel
theorem dX9_init_31 : dcd cX9_init 31 (.invokespecial 11) 3 34 := by decide +kernel
theorem dX9_init_34 : dcd cX9_init 34 (.putfield 21) 3 37 := by decide +kernel
theorem dX9_init_37 : dcd cX9_init 37 (.aload_n 0) 1 38 := by decide +kernel
theorem dX9_init_38 : dcd cX9_init 38 (.new 9) 3 41 := by decide +kernel
theorem dX9_init_41 : dcd cX9_init 41 (.dup) 1 42 := by decide +kernel
theorem dX9_init_42 : dcd cX9_init 42 (.invokespecial 11) 3 45 := by decide +kernel
theorem dX9_init_45 : dcd cX9_init 45 (.putfield 24) 3 48 := by decide +kernel
theorem dX9_init_48 : dcd cX9_init 48 (.aload_n 0) 1 49 := by decide +kernel
theorem dX9_init_49 : dcd cX9_init 49 (.bipush 24) 2 51 := by decide +kernel
theorem dX9_init_51 : dcd cX9_init 51 (.newarray .int) 2 53 := by decide +kernel
theorem dX9_init_53 : dcd cX9_init 53 (.putfield 27) 3 56 := by decide +kernel
theorem dX9_init_56 : dcd cX9_init 56 (.aload_n 0) 1 57 := by decide +kernel
theorem dX9_init_57 : dcd cX9_init 57 (.aload_n 1) 1 58 := by decide +kernel
theorem dX9_init_58 : dcd cX9_init 58 (.putfield 31) 3 61 := by decide +kernel
theorem dX9_init_61 : dcd cX9_init 61 (.aload_n 0) 1 62 := by decide +kernel
theorem dX9_init_62 : dcd cX9_init 62 (.aload_n 2) 1 63 := by decide +kernel
theorem dX9_init_63 : dcd cX9_init 63 (.putfield 35) 3 66 := by decide +kernel
theorem dX9_init_66 : decode cX9_init 66 = .ok (.return_, 1) := by decide +kernel
theorem dX9_lightestPiece_0 : dcd cX9_lightestPiece 0 (.bipush (-9)) 2 2 := by decide +kernel
theorem dX9_lightestPiece_2 : dcd cX9_lightestPiece 2 (.istore_n 2) 1 3 := by decide +kernel
theorem dX9_lightestPiece_3 : dcd cX9_lightestPiece 3 (.iconst 0) 1 4 := by decide +kernel
theorem dX9_lightestPiece_4 : dcd cX9_lightestPiece 4 (.istore_n 3) 1 5 := by decide +kernel
theorem dX9_lightestPiece_5 : dcd cX9_lightestPiece 5 (.iconst 0) 1 6 := by decide +kernel
theorem dX9_lightestPiece_6 : dcd cX9_lightestPiece 6 (.istore 4) 2 8 := by decide +kernel
theorem dX9_lightestPiece_8 : dcd cX9_lightestPiece 8 (.iload 4) 2 10 := by decide +kernel
theorem dX9_lightestPiece_10 : dcd cX9_lightestPiece 10 (.aload_n 0) 1 11 := by decide +kernel
theorem dX9_lightestPiece_11 : dcd cX9_lightestPiece 11 (.getfield 35) 3 14 := by decide +kernel
theorem dX9_lightestPiece_14 : dcd cX9_lightestPiece 14 (.getfield 39) 3 17 := by decide +kernel
theorem dX9_lightestPiece_17 : dcb cX9_lightestPiece 17 (.if_icmp .ge (55)) (55) 72 20 := by decide +kernel
theorem dX9_lightestPiece_20 : dcd cX9_lightestPiece 20 (.aload_n 0) 1 21 := by decide +kernel
theorem dX9_lightestPiece_21 : dcd cX9_lightestPiece 21 (.getfield 35) 3 24 := by decide +kernel
theorem dX9_lightestPiece_24 : dcd cX9_lightestPiece 24 (.getfield 45) 3 27 := by decide +kernel
theorem dX9_lightestPiece_27 : dcd cX9_lightestPiece 27 (.iload 4) 2 29 := by decide +kernel
theorem dX9_lightestPiece_29 : dcd cX9_lightestPiece 29 (.aaload) 1 30 := by decide +kernel
theorem dX9_lightestPiece_30 : dcd cX9_lightestPiece 30 (.astore 5) 2 32 := by decide +kernel
theorem dX9_lightestPiece_32 : dcd cX9_lightestPiece 32 (.aload 5) 2 34 := by decide +kernel
theorem dX9_lightestPiece_34 : dcd cX9_lightestPiece 34 (.invokevirtual 49) 3 37 := by decide +kernel
theorem dX9_lightestPiece_37 : dcd cX9_lightestPiece 37 (.istore 6) 2 39 := by decide +kernel
theorem dX9_lightestPiece_39 : dcd cX9_lightestPiece 39 (.aload_n 1) 1 40 := by decide +kernel
theorem dX9_lightestPiece_40 : dcd cX9_lightestPiece 40 (.aload 5) 2 42 := by decide +kernel
theorem dX9_lightestPiece_42 : dcd cX9_lightestPiece 42 (.invokevirtual 53) 3 45 := by decide +kernel
theorem dX9_lightestPiece_45 : dcb cX9_lightestPiece 45 (.ifCond .eq (21)) (21) 66 48 := by decide +kernel
theorem dX9_lightestPiece_48 : dcd cX9_lightestPiece 48 (.iload_n 2) 1 49 := by decide +kernel
theorem dX9_lightestPiece_49 : dcd cX9_lightestPiece 49 (.bipush (-9)) 2 51 := by decide +kernel
theorem dX9_lightestPiece_51 : dcb cX9_lightestPiece 51 (.if_icmp .eq (9)) (9) 60 54 := by decide +kernel
theorem dX9_lightestPiece_54 : dcd cX9_lightestPiece 54 (.iload 6) 2 56 := by decide +kernel
theorem dX9_lightestPiece_56 : dcd cX9_lightestPiece 56 (.iload_n 3) 1 57 := by decide +kernel
theorem dX9_lightestPiece_57 : dcb cX9_lightestPiece 57 (.if_icmp .ge (9)) (9) 66 60 := by decide +kernel
theorem dX9_lightestPiece_60 : dcd cX9_lightestPiece 60 (.iload 4) 2 62 := by decide +kernel
theorem dX9_lightestPiece_62 : dcd cX9_lightestPiece 62 (.istore_n 2) 1 63 := by decide +kernel
theorem dX9_lightestPiece_63 : dcd cX9_lightestPiece 63 (.iload 6) 2 65 := by decide +kernel
theorem dX9_lightestPiece_65 : dcd cX9_lightestPiece 65 (.istore_n 3) 1 66 := by decide +kernel
theorem dX9_lightestPiece_66 : dcd cX9_lightestPiece 66 (.iinc 4 1) 3 69 := by decide +kernel
theorem dX9_lightestPiece_69 : dcb cX9_lightestPiece 69 (.goto (-61)) (-61) 8 72 := by decide +kernel
theorem dX9_lightestPiece_72 : dcd cX9_lightestPiece 72 (.iload_n 2) 1 73 := by decide +kernel
theorem dX9_lightestPiece_73 : decode cX9_lightestPiece 73 = .ok (.ireturn, 1) := by decide +kernel
theorem dX9_shortestCut_0 : dcd cX9_shortestCut 0 (.bipush (-9)) 2 2 := by decide +kernel
theorem dX9_shortestCut_2 : dcd cX9_shortestCut 2 (.istore_n 2) 1 3 := by decide +kernel
theorem dX9_shortestCut_3 : dcd cX9_shortestCut 3 (.ldc 59) 2 5 := by decide +kernel
theorem dX9_shortestCut_5 : dcd cX9_shortestCut 5 (.istore_n 3) 1 6 := by decide +kernel
theorem dX9_shortestCut_6 : dcd cX9_shortestCut 6 (.iconst 0) 1 7 := by decide +kernel
theorem dX9_shortestCut_7 : dcd cX9_shortestCut 7 (.istore 4) 2 9 := by decide +kernel
theorem dX9_shortestCut_9 : dcd cX9_shortestCut 9 (.iload 4) 2 11 := by decide +kernel
theorem dX9_shortestCut_11 : dcd cX9_shortestCut 11 (.aload_n 0) 1 12 := by decide +kernel
theorem dX9_shortestCut_12 : dcd cX9_shortestCut 12 (.getfield 35) 3 15 := by decide +kernel
theorem dX9_shortestCut_15 : dcd cX9_shortestCut 15 (.getfield 39) 3 18 := by decide +kernel
theorem dX9_shortestCut_18 : dcb cX9_shortestCut 18 (.if_icmp .ge (147)) (147) 165 21 := by decide +kernel
theorem dX9_shortestCut_21 : dcd cX9_shortestCut 21 (.aload_n 0) 1 22 := by decide +kernel
theorem dX9_shortestCut_22 : dcd cX9_shortestCut 22 (.getfield 35) 3 25 := by decide +kernel
theorem dX9_shortestCut_25 : dcd cX9_shortestCut 25 (.getfield 39) 3 28 := by decide +kernel
theorem dX9_shortestCut_28 : dcd cX9_shortestCut 28 (.bipush 24) 2 30 := by decide +kernel
theorem dX9_shortestCut_30 : dcb cX9_shortestCut 30 (.if_icmp .ge (135)) (135) 165 33 := by decide +kernel
theorem dX9_shortestCut_33 : dcd cX9_shortestCut 33 (.aload_n 0) 1 34 := by decide +kernel
theorem dX9_shortestCut_34 : dcd cX9_shortestCut 34 (.getfield 35) 3 37 := by decide +kernel
theorem dX9_shortestCut_37 : dcd cX9_shortestCut 37 (.getfield 45) 3 40 := by decide +kernel
theorem dX9_shortestCut_40 : dcd cX9_shortestCut 40 (.iload 4) 2 42 := by decide +kernel
theorem dX9_shortestCut_42 : dcd cX9_shortestCut 42 (.aaload) 1 43 := by decide +kernel
theorem dX9_shortestCut_43 : dcd cX9_shortestCut 43 (.astore 5) 2 45 := by decide +kernel
theorem dX9_shortestCut_45 : dcd cX9_shortestCut 45 (.iconst 0) 1 46 := by decide +kernel
theorem dX9_shortestCut_46 : dcd cX9_shortestCut 46 (.istore 6) 2 48 := by decide +kernel
theorem dX9_shortestCut_48 : dcd cX9_shortestCut 48 (.iload 6) 2 50 := by decide +kernel
theorem dX9_shortestCut_50 : dcd cX9_shortestCut 50 (.aload 5) 2 52 := by decide +kernel
theorem dX9_shortestCut_52 : dcd cX9_shortestCut 52 (.invokevirtual 60) 3 55 := by decide +kernel
theorem dX9_shortestCut_55 : dcb cX9_shortestCut 55 (.if_icmp .ge (104)) (104) 159 58 := by decide +kernel
theorem dX9_shortestCut_58 : dcd cX9_shortestCut 58 (.aload 5) 2 60 := by decide +kernel
theorem dX9_shortestCut_60 : dcd cX9_shortestCut 60 (.iload 6) 2 62 := by decide +kernel
theorem dX9_shortestCut_62 : dcd cX9_shortestCut 62 (.invokevirtual 63) 3 65 := by decide +kernel
theorem dX9_shortestCut_65 : dcd cX9_shortestCut 65 (.iload_n 3) 1 66 := by decide +kernel
theorem dX9_shortestCut_66 : dcb cX9_shortestCut 66 (.if_icmp .ge (87)) (87) 153 69 := by decide +kernel
theorem dX9_shortestCut_69 : dcd cX9_shortestCut 69 (.aload 5) 2 71 := by decide +kernel
theorem dX9_shortestCut_71 : dcd cX9_shortestCut 71 (.aload_n 0) 1 72 := by decide +kernel
theorem dX9_shortestCut_72 : dcd cX9_shortestCut 72 (.getfield 31) 3 75 := by decide +kernel
theorem dX9_shortestCut_75 : dcd cX9_shortestCut 75 (.aload 5) 2 77 := by decide +kernel
theorem dX9_shortestCut_77 : dcd cX9_shortestCut 77 (.iload 6) 2 79 := by decide +kernel
theorem dX9_shortestCut_79 : dcd cX9_shortestCut 79 (.invokevirtual 67) 3 82 := by decide +kernel
theorem dX9_shortestCut_82 : dcd cX9_shortestCut 82 (.aload 5) 2 84 := by decide +kernel
theorem dX9_shortestCut_84 : dcd cX9_shortestCut 84 (.iload 6) 2 86 := by decide +kernel
theorem dX9_shortestCut_86 : dcd cX9_shortestCut 86 (.invokevirtual 71) 3 89 := by decide +kernel
theorem dX9_shortestCut_89 : dcd cX9_shortestCut 89 (.aload_n 0) 1 90 := by decide +kernel
theorem dX9_shortestCut_90 : dcd cX9_shortestCut 90 (.getfield 12) 3 93 := by decide +kernel
theorem dX9_shortestCut_93 : dcd cX9_shortestCut 93 (.aload_n 0) 1 94 := by decide +kernel
theorem dX9_shortestCut_94 : dcd cX9_shortestCut 94 (.getfield 18) 3 97 := by decide +kernel
theorem dX9_shortestCut_97 : dcd cX9_shortestCut 97 (.invokevirtual 74) 3 100 := by decide +kernel
theorem dX9_shortestCut_100 : dcd cX9_shortestCut 100 (.aload_n 1) 1 101 := by decide +kernel
theorem dX9_shortestCut_101 : dcd cX9_shortestCut 101 (.aload_n 0) 1 102 := by decide +kernel
theorem dX9_shortestCut_102 : dcd cX9_shortestCut 102 (.getfield 12) 3 105 := by decide +kernel
theorem dX9_shortestCut_105 : dcd cX9_shortestCut 105 (.invokevirtual 53) 3 108 := by decide +kernel
theorem dX9_shortestCut_108 : dcd cX9_shortestCut 108 (.istore 7) 2 110 := by decide +kernel
theorem dX9_shortestCut_110 : dcd cX9_shortestCut 110 (.iload 7) 2 112 := by decide +kernel
theorem dX9_shortestCut_112 : dcb cX9_shortestCut 112 (.ifCond .ne (14)) (14) 126 115 := by decide +kernel
theorem dX9_shortestCut_115 : dcd cX9_shortestCut 115 (.aload_n 1) 1 116 := by decide +kernel
theorem dX9_shortestCut_116 : dcd cX9_shortestCut 116 (.aload_n 0) 1 117 := by decide +kernel
theorem dX9_shortestCut_117 : dcd cX9_shortestCut 117 (.getfield 18) 3 120 := by decide +kernel
theorem dX9_shortestCut_120 : dcd cX9_shortestCut 120 (.invokevirtual 53) 3 123 := by decide +kernel
theorem dX9_shortestCut_123 : dcb cX9_shortestCut 123 (.ifCond .eq (30)) (30) 153 126 := by decide +kernel
theorem dX9_shortestCut_126 : dcd cX9_shortestCut 126 (.aload_n 0) 1 127 := by decide +kernel
theorem dX9_shortestCut_127 : dcd cX9_shortestCut 127 (.iload 4) 2 129 := by decide +kernel
theorem dX9_shortestCut_129 : dcd cX9_shortestCut 129 (.iload 6) 2 131 := by decide +kernel
theorem dX9_shortestCut_131 : dcd cX9_shortestCut 131 (.iload 7) 2 133 := by decide +kernel
theorem dX9_shortestCut_133 : dcb cX9_shortestCut 133 (.ifCond .ne (7)) (7) 140 136 := by decide +kernel
theorem dX9_shortestCut_136 : dcd cX9_shortestCut 136 (.iconst 1) 1 137 := by decide +kernel
theorem dX9_shortestCut_137 : dcb cX9_shortestCut 137 (.goto (4)) (4) 141 140 := by decide +kernel
theorem dX9_shortestCut_140 : dcd cX9_shortestCut 140 (.iconst 0) 1 141 := by decide +kernel
theorem dX9_shortestCut_141 : dcd cX9_shortestCut 141 (.invokevirtual 78) 3 144 := by decide +kernel
theorem dX9_shortestCut_144 : dcd cX9_shortestCut 144 (.istore_n 2) 1 145 := by decide +kernel
theorem dX9_shortestCut_145 : dcd cX9_shortestCut 145 (.aload 5) 2 147 := by decide +kernel
theorem dX9_shortestCut_147 : dcd cX9_shortestCut 147 (.iload 6) 2 149 := by decide +kernel
theorem dX9_shortestCut_149 : dcd cX9_shortestCut 149 (.invokevirtual 63) 3 152 := by decide +kernel
theorem dX9_shortestCut_152 : dcd cX9_shortestCut 152 (.istore_n 3) 1 153 := by decide +kernel
theorem dX9_shortestCut_153 : dcd cX9_shortestCut 153 (.iinc 6 1) 3 156 := by decide +kernel
theorem dX9_shortestCut_156 : dcb cX9_shortestCut 156 (.goto (-108)) (-108) 48 159 := by decide +kernel
theorem dX9_shortestCut_159 : dcd cX9_shortestCut 159 (.iinc 4 1) 3 162 := by decide +kernel
theorem dX9_shortestCut_162 : dcb cX9_shortestCut 162 (.goto (-153)) (-153) 9 165 := by decide +kernel
theorem dX9_shortestCut_165 : dcd cX9_shortestCut 165 (.iload_n 2) 1 166 := by decide +kernel
theorem dX9_shortestCut_166 : decode cX9_shortestCut 166 = .ok (.ireturn, 1) := by decide +kernel
theorem dX9_told_0 : dcd cX9_told 0 (.aload_n 0) 1 1 := by decide +kernel
theorem dX9_told_1 : dcd cX9_told 1 (.getfield 35) 3 4 := by decide +kernel
theorem dX9_told_4 : dcd cX9_told 4 (.getfield 45) 3 7 := by decide +kernel
theorem dX9_told_7 : dcd cX9_told 7 (.iload_n 1) 1 8 := by decide +kernel
theorem dX9_told_8 : dcd cX9_told 8 (.aaload) 1 9 := by decide +kernel
theorem dX9_told_9 : dcd cX9_told 9 (.astore 4) 2 11 := by decide +kernel
theorem dX9_told_11 : dcd cX9_told 11 (.sipush 1000) 3 14 := by decide +kernel
theorem dX9_told_14 : dcd cX9_told 14 (.iload_n 1) 1 15 := by decide +kernel
theorem dX9_told_15 : dcd cX9_told 15 (.imul) 1 16 := by decide +kernel
theorem dX9_told_16 : dcd cX9_told 16 (.aload 4) 2 18 := by decide +kernel
theorem dX9_told_18 : dcd cX9_told 18 (.iload_n 2) 1 19 := by decide +kernel
theorem dX9_told_19 : dcd cX9_told 19 (.invokevirtual 67) 3 22 := by decide +kernel
theorem dX9_told_22 : dcb cX9_told 22 (.ifCond .eq (7)) (7) 29 25 := by decide +kernel
theorem dX9_told_25 : dcd cX9_told 25 (.iconst 0) 1 26 := by decide +kernel
theorem dX9_told_26 : dcb cX9_told 26 (.goto (5)) (5) 31 29 := by decide +kernel
theorem dX9_told_29 : dcd cX9_told 29 (.bipush 100) 2 31 := by decide +kernel
theorem dX9_told_31 : dcd cX9_told 31 (.iadd) 1 32 := by decide +kernel
theorem dX9_told_32 : dcd cX9_told 32 (.bipush 10) 2 34 := by decide +kernel
theorem dX9_told_34 : dcd cX9_told 34 (.aload 4) 2 36 := by decide +kernel
theorem dX9_told_36 : dcd cX9_told 36 (.iload_n 2) 1 37 := by decide +kernel
theorem dX9_told_37 : dcd cX9_told 37 (.invokevirtual 71) 3 40 := by decide +kernel
theorem dX9_told_40 : dcd cX9_told 40 (.imul) 1 41 := by decide +kernel
theorem dX9_told_41 : dcd cX9_told 41 (.iadd) 1 42 := by decide +kernel
theorem dX9_told_42 : dcd cX9_told 42 (.iload_n 3) 1 43 := by decide +kernel
theorem dX9_told_43 : dcb cX9_told 43 (.ifCond .eq (7)) (7) 50 46 := by decide +kernel
theorem dX9_told_46 : dcd cX9_told 46 (.iconst 1) 1 47 := by decide +kernel
theorem dX9_told_47 : dcb cX9_told 47 (.goto (4)) (4) 51 50 := by decide +kernel
theorem dX9_told_50 : dcd cX9_told 50 (.iconst 0) 1 51 := by decide +kernel
theorem dX9_told_51 : dcd cX9_told 51 (.iadd) 1 52 := by decide +kernel
theorem dX9_told_52 : decode cX9_told 52 = .ok (.ireturn, 1) := by decide +kernel
theorem dX9_cutOff_0 : dcd cX9_cutOff 0 (.iload_n 1) 1 1 := by decide +kernel
theorem dX9_cutOff_1 : dcd cX9_cutOff 1 (.sipush 1000) 3 4 := by decide +kernel
theorem dX9_cutOff_4 : dcd cX9_cutOff 4 (.idiv) 1 5 := by decide +kernel
theorem dX9_cutOff_5 : dcd cX9_cutOff 5 (.istore_n 2) 1 6 := by decide +kernel
theorem dX9_cutOff_6 : dcd cX9_cutOff 6 (.iload_n 1) 1 7 := by decide +kernel
theorem dX9_cutOff_7 : dcb cX9_cutOff 7 (.ifCond .lt (14)) (14) 21 10 := by decide +kernel
theorem dX9_cutOff_10 : dcd cX9_cutOff 10 (.aload_n 0) 1 11 := by decide +kernel
theorem dX9_cutOff_11 : dcd cX9_cutOff 11 (.getfield 35) 3 14 := by decide +kernel
theorem dX9_cutOff_14 : dcd cX9_cutOff 14 (.iload_n 2) 1 15 := by decide +kernel
theorem dX9_cutOff_15 : dcd cX9_cutOff 15 (.invokevirtual 82) 3 18 := by decide +kernel
theorem dX9_cutOff_18 : dcb cX9_cutOff 18 (.ifCond .ne (6)) (6) 24 21 := by decide +kernel
theorem dX9_cutOff_21 : dcd cX9_cutOff 21 (.bipush (-9)) 2 23 := by decide +kernel
theorem dX9_cutOff_23 : decode cX9_cutOff 23 = .ok (.ireturn, 1) := by decide +kernel
theorem dX9_cutOff_24 : dcd cX9_cutOff 24 (.aload_n 0) 1 25 := by decide +kernel
theorem dX9_cutOff_25 : dcd cX9_cutOff 25 (.getfield 35) 3 28 := by decide +kernel
theorem dX9_cutOff_28 : dcd cX9_cutOff 28 (.iload_n 2) 1 29 := by decide +kernel
theorem dX9_cutOff_29 : dcd cX9_cutOff 29 (.iload_n 1) 1 30 := by decide +kernel
theorem dX9_cutOff_30 : dcd cX9_cutOff 30 (.bipush 100) 2 32 := by decide +kernel
theorem dX9_cutOff_32 : dcd cX9_cutOff 32 (.idiv) 1 33 := by decide +kernel
theorem dX9_cutOff_33 : dcd cX9_cutOff 33 (.bipush 10) 2 35 := by decide +kernel
theorem dX9_cutOff_35 : dcd cX9_cutOff 35 (.irem) 1 36 := by decide +kernel
theorem dX9_cutOff_36 : dcb cX9_cutOff 36 (.ifCond .ne (7)) (7) 43 39 := by decide +kernel
theorem dX9_cutOff_39 : dcd cX9_cutOff 39 (.iconst 1) 1 40 := by decide +kernel
theorem dX9_cutOff_40 : dcb cX9_cutOff 40 (.goto (4)) (4) 44 43 := by decide +kernel
theorem dX9_cutOff_43 : dcd cX9_cutOff 43 (.iconst 0) 1 44 := by decide +kernel
theorem dX9_cutOff_44 : dcd cX9_cutOff 44 (.iload_n 1) 1 45 := by decide +kernel
theorem dX9_cutOff_45 : dcd cX9_cutOff 45 (.bipush 10) 2 47 := by decide +kernel
theorem dX9_cutOff_47 : dcd cX9_cutOff 47 (.idiv) 1 48 := by decide +kernel
theorem dX9_cutOff_48 : dcd cX9_cutOff 48 (.bipush 10) 2 50 := by decide +kernel
theorem dX9_cutOff_50 : dcd cX9_cutOff 50 (.irem) 1 51 := by decide +kernel
theorem dX9_cutOff_51 : dcd cX9_cutOff 51 (.invokevirtual 85) 3 54 := by decide +kernel
theorem dX9_cutOff_54 : dcd cX9_cutOff 54 (.istore_n 3) 1 55 := by decide +kernel
theorem dX9_cutOff_55 : dcd cX9_cutOff 55 (.iload_n 1) 1 56 := by decide +kernel
theorem dX9_cutOff_56 : dcd cX9_cutOff 56 (.bipush 10) 2 58 := by decide +kernel
theorem dX9_cutOff_58 : dcd cX9_cutOff 58 (.irem) 1 59 := by decide +kernel
theorem dX9_cutOff_59 : dcd cX9_cutOff 59 (.iconst 1) 1 60 := by decide +kernel
theorem dX9_cutOff_60 : dcb cX9_cutOff 60 (.if_icmp .ne (7)) (7) 67 63 := by decide +kernel
theorem dX9_cutOff_63 : dcd cX9_cutOff 63 (.iload_n 3) 1 64 := by decide +kernel
theorem dX9_cutOff_64 : dcb cX9_cutOff 64 (.goto (4)) (4) 68 67 := by decide +kernel
theorem dX9_cutOff_67 : dcd cX9_cutOff 67 (.iload_n 2) 1 68 := by decide +kernel
theorem dX9_cutOff_68 : decode cX9_cutOff 68 = .ok (.ireturn, 1) := by decide +kernel
theorem dX9_lookTwoAhead_0 : dcd cX9_lookTwoAhead 0 (.aload_n 0) 1 1 := by decide +kernel
theorem dX9_lookTwoAhead_1 : dcd cX9_lookTwoAhead 1 (.ldc 59) 2 3 := by decide +kernel
theorem dX9_lookTwoAhead_3 : dcd cX9_lookTwoAhead 3 (.putfield 89) 3 6 := by decide +kernel
theorem dX9_lookTwoAhead_6 : dcd cX9_lookTwoAhead 6 (.aload_n 0) 1 7 := by decide +kernel
theorem dX9_lookTwoAhead_7 : dcd cX9_lookTwoAhead 7 (.bipush (-9)) 2 9 := by decide +kernel
theorem dX9_lookTwoAhead_9 : dcd cX9_lookTwoAhead 9 (.putfield 92) 3 12 := by decide +kernel
theorem dX9_lookTwoAhead_12 : dcd cX9_lookTwoAhead 12 (.aload_n 0) 1 13 := by decide +kernel
theorem dX9_lookTwoAhead_13 : dcd cX9_lookTwoAhead 13 (.getfield 35) 3 16 := by decide +kernel
theorem dX9_lookTwoAhead_16 : dcd cX9_lookTwoAhead 16 (.getfield 39) 3 19 := by decide +kernel
theorem dX9_lookTwoAhead_19 : dcd cX9_lookTwoAhead 19 (.bipush 24) 2 21 := by decide +kernel
theorem dX9_lookTwoAhead_21 : dcb cX9_lookTwoAhead 21 (.if_icmp .ge (7)) (7) 28 24 := by decide +kernel
theorem dX9_lookTwoAhead_24 : dcd cX9_lookTwoAhead 24 (.iconst 1) 1 25 := by decide +kernel
theorem dX9_lookTwoAhead_25 : dcb cX9_lookTwoAhead 25 (.goto (4)) (4) 29 28 := by decide +kernel
theorem dX9_lookTwoAhead_28 : dcd cX9_lookTwoAhead 28 (.iconst 0) 1 29 := by decide +kernel
theorem dX9_lookTwoAhead_29 : dcd cX9_lookTwoAhead 29 (.istore_n 3) 1 30 := by decide +kernel
theorem dX9_lookTwoAhead_30 : dcd cX9_lookTwoAhead 30 (.iconst 0) 1 31 := by decide +kernel
theorem dX9_lookTwoAhead_31 : dcd cX9_lookTwoAhead 31 (.istore 4) 2 33 := by decide +kernel
theorem dX9_lookTwoAhead_33 : dcd cX9_lookTwoAhead 33 (.iload 4) 2 35 := by decide +kernel
theorem dX9_lookTwoAhead_35 : dcd cX9_lookTwoAhead 35 (.aload_n 0) 1 36 := by decide +kernel
theorem dX9_lookTwoAhead_36 : dcd cX9_lookTwoAhead 36 (.getfield 35) 3 39 := by decide +kernel
theorem dX9_lookTwoAhead_39 : dcd cX9_lookTwoAhead 39 (.getfield 39) 3 42 := by decide +kernel
theorem dX9_lookTwoAhead_42 : dcb cX9_lookTwoAhead 42 (.if_icmp .ge (32)) (32) 74 45 := by decide +kernel
theorem dX9_lookTwoAhead_45 : dcd cX9_lookTwoAhead 45 (.aload_n 0) 1 46 := by decide +kernel
theorem dX9_lookTwoAhead_46 : dcd cX9_lookTwoAhead 46 (.getfield 27) 3 49 := by decide +kernel
theorem dX9_lookTwoAhead_49 : dcd cX9_lookTwoAhead 49 (.iload 4) 2 51 := by decide +kernel
theorem dX9_lookTwoAhead_51 : dcd cX9_lookTwoAhead 51 (.aload_n 0) 1 52 := by decide +kernel
theorem dX9_lookTwoAhead_52 : dcd cX9_lookTwoAhead 52 (.aload_n 0) 1 53 := by decide +kernel
theorem dX9_lookTwoAhead_53 : dcd cX9_lookTwoAhead 53 (.getfield 35) 3 56 := by decide +kernel
theorem dX9_lookTwoAhead_56 : dcd cX9_lookTwoAhead 56 (.getfield 45) 3 59 := by decide +kernel
theorem dX9_lookTwoAhead_59 : dcd cX9_lookTwoAhead 59 (.iload 4) 2 61 := by decide +kernel
theorem dX9_lookTwoAhead_61 : dcd cX9_lookTwoAhead 61 (.aaload) 1 62 := by decide +kernel
theorem dX9_lookTwoAhead_62 : dcd cX9_lookTwoAhead 62 (.aload_n 2) 1 63 := by decide +kernel
theorem dX9_lookTwoAhead_63 : dcd cX9_lookTwoAhead 63 (.iload_n 3) 1 64 := by decide +kernel
theorem dX9_lookTwoAhead_64 : dcd cX9_lookTwoAhead 64 (.invokevirtual 95) 3 67 := by decide +kernel
theorem dX9_lookTwoAhead_67 : dcd cX9_lookTwoAhead 67 (.iastore) 1 68 := by decide +kernel
theorem dX9_lookTwoAhead_68 : dcd cX9_lookTwoAhead 68 (.iinc 4 1) 3 71 := by decide +kernel
theorem dX9_lookTwoAhead_71 : dcb cX9_lookTwoAhead 71 (.goto (-38)) (-38) 33 74 := by decide +kernel
theorem dX9_lookTwoAhead_74 : dcd cX9_lookTwoAhead 74 (.iconst 0) 1 75 := by decide +kernel
theorem dX9_lookTwoAhead_75 : dcd cX9_lookTwoAhead 75 (.istore 4) 2 77 := by decide +kernel
theorem dX9_lookTwoAhead_77 : dcd cX9_lookTwoAhead 77 (.iload 4) 2 79 := by decide +kernel
theorem dX9_lookTwoAhead_79 : dcd cX9_lookTwoAhead 79 (.aload_n 0) 1 80 := by decide +kernel
theorem dX9_lookTwoAhead_80 : dcd cX9_lookTwoAhead 80 (.getfield 35) 3 83 := by decide +kernel
theorem dX9_lookTwoAhead_83 : dcd cX9_lookTwoAhead 83 (.getfield 39) 3 86 := by decide +kernel
theorem dX9_lookTwoAhead_86 : dcb cX9_lookTwoAhead 86 (.if_icmp .ge (39)) (39) 125 89 := by decide +kernel
theorem dX9_lookTwoAhead_89 : dcd cX9_lookTwoAhead 89 (.aload_n 1) 1 90 := by decide +kernel
theorem dX9_lookTwoAhead_90 : dcd cX9_lookTwoAhead 90 (.aload_n 0) 1 91 := by decide +kernel
theorem dX9_lookTwoAhead_91 : dcd cX9_lookTwoAhead 91 (.getfield 35) 3 94 := by decide +kernel
theorem dX9_lookTwoAhead_94 : dcd cX9_lookTwoAhead 94 (.getfield 45) 3 97 := by decide +kernel
theorem dX9_lookTwoAhead_97 : dcd cX9_lookTwoAhead 97 (.iload 4) 2 99 := by decide +kernel
theorem dX9_lookTwoAhead_99 : dcd cX9_lookTwoAhead 99 (.aaload) 1 100 := by decide +kernel
theorem dX9_lookTwoAhead_100 : dcd cX9_lookTwoAhead 100 (.invokevirtual 53) 3 103 := by decide +kernel
theorem dX9_lookTwoAhead_103 : dcb cX9_lookTwoAhead 103 (.ifCond .eq (16)) (16) 119 106 := by decide +kernel
theorem dX9_lookTwoAhead_106 : dcd cX9_lookTwoAhead 106 (.aload_n 0) 1 107 := by decide +kernel
theorem dX9_lookTwoAhead_107 : dcd cX9_lookTwoAhead 107 (.iload 4) 2 109 := by decide +kernel
theorem dX9_lookTwoAhead_109 : dcd cX9_lookTwoAhead 109 (.aload_n 0) 1 110 := by decide +kernel
theorem dX9_lookTwoAhead_110 : dcd cX9_lookTwoAhead 110 (.iload 4) 2 112 := by decide +kernel
theorem dX9_lookTwoAhead_112 : dcd cX9_lookTwoAhead 112 (.iload_n 3) 1 113 := by decide +kernel
theorem dX9_lookTwoAhead_113 : dcd cX9_lookTwoAhead 113 (.invokevirtual 99) 3 116 := by decide +kernel
theorem dX9_lookTwoAhead_116 : dcd cX9_lookTwoAhead 116 (.invokevirtual 103) 3 119 := by decide +kernel
theorem dX9_lookTwoAhead_119 : dcd cX9_lookTwoAhead 119 (.iinc 4 1) 3 122 := by decide +kernel
theorem dX9_lookTwoAhead_122 : dcb cX9_lookTwoAhead 122 (.goto (-45)) (-45) 77 125 := by decide +kernel
theorem dX9_lookTwoAhead_125 : dcd cX9_lookTwoAhead 125 (.iconst 0) 1 126 := by decide +kernel
theorem dX9_lookTwoAhead_126 : dcd cX9_lookTwoAhead 126 (.istore 4) 2 128 := by decide +kernel
theorem dX9_lookTwoAhead_128 : dcd cX9_lookTwoAhead 128 (.iload 4) 2 130 := by decide +kernel
theorem dX9_lookTwoAhead_130 : dcd cX9_lookTwoAhead 130 (.aload_n 0) 1 131 := by decide +kernel
theorem dX9_lookTwoAhead_131 : dcd cX9_lookTwoAhead 131 (.getfield 35) 3 134 := by decide +kernel
theorem dX9_lookTwoAhead_134 : dcd cX9_lookTwoAhead 134 (.getfield 39) 3 137 := by decide +kernel
theorem dX9_lookTwoAhead_137 : dcb cX9_lookTwoAhead 137 (.if_icmp .ge (21)) (21) 158 140 := by decide +kernel
theorem dX9_lookTwoAhead_140 : dcd cX9_lookTwoAhead 140 (.iload_n 3) 1 141 := by decide +kernel
theorem dX9_lookTwoAhead_141 : dcb cX9_lookTwoAhead 141 (.ifCond .eq (17)) (17) 158 144 := by decide +kernel
theorem dX9_lookTwoAhead_144 : dcd cX9_lookTwoAhead 144 (.aload_n 0) 1 145 := by decide +kernel
theorem dX9_lookTwoAhead_145 : dcd cX9_lookTwoAhead 145 (.iload 4) 2 147 := by decide +kernel
theorem dX9_lookTwoAhead_147 : dcd cX9_lookTwoAhead 147 (.aload_n 1) 1 148 := by decide +kernel
theorem dX9_lookTwoAhead_148 : dcd cX9_lookTwoAhead 148 (.aload_n 2) 1 149 := by decide +kernel
theorem dX9_lookTwoAhead_149 : dcd cX9_lookTwoAhead 149 (.invokevirtual 107) 3 152 := by decide +kernel
theorem dX9_lookTwoAhead_152 : dcd cX9_lookTwoAhead 152 (.iinc 4 1) 3 155 := by decide +kernel
theorem dX9_lookTwoAhead_155 : dcb cX9_lookTwoAhead 155 (.goto (-27)) (-27) 128 158 := by decide +kernel
theorem dX9_lookTwoAhead_158 : decode cX9_lookTwoAhead 158 = .ok (.return_, 1) := by decide +kernel
theorem dX9_tryCuts_0 : dcd cX9_tryCuts 0 (.aload_n 0) 1 1 := by decide +kernel
theorem dX9_tryCuts_1 : dcd cX9_tryCuts 1 (.getfield 35) 3 4 := by decide +kernel
theorem dX9_tryCuts_4 : dcd cX9_tryCuts 4 (.getfield 45) 3 7 := by decide +kernel
theorem dX9_tryCuts_7 : dcd cX9_tryCuts 7 (.iload_n 1) 1 8 := by decide +kernel
theorem dX9_tryCuts_8 : dcd cX9_tryCuts 8 (.aaload) 1 9 := by decide +kernel
theorem dX9_tryCuts_9 : dcd cX9_tryCuts 9 (.astore 4) 2 11 := by decide +kernel
theorem dX9_tryCuts_11 : dcd cX9_tryCuts 11 (.aload_n 0) 1 12 := by decide +kernel
theorem dX9_tryCuts_12 : dcd cX9_tryCuts 12 (.getfield 35) 3 15 := by decide +kernel
theorem dX9_tryCuts_15 : dcd cX9_tryCuts 15 (.getfield 39) 3 18 := by decide +kernel
theorem dX9_tryCuts_18 : dcd cX9_tryCuts 18 (.iconst 1) 1 19 := by decide +kernel
theorem dX9_tryCuts_19 : dcd cX9_tryCuts 19 (.iadd) 1 20 := by decide +kernel
theorem dX9_tryCuts_20 : dcd cX9_tryCuts 20 (.bipush 24) 2 22 := by decide +kernel
theorem dX9_tryCuts_22 : dcb cX9_tryCuts 22 (.if_icmp .ge (7)) (7) 29 25 := by decide +kernel
theorem dX9_tryCuts_25 : dcd cX9_tryCuts 25 (.iconst 1) 1 26 := by decide +kernel
theorem dX9_tryCuts_26 : dcb cX9_tryCuts 26 (.goto (4)) (4) 30 29 := by decide +kernel
theorem dX9_tryCuts_29 : dcd cX9_tryCuts 29 (.iconst 0) 1 30 := by decide +kernel
theorem dX9_tryCuts_30 : dcd cX9_tryCuts 30 (.istore 5) 2 32 := by decide +kernel
theorem dX9_tryCuts_32 : dcd cX9_tryCuts 32 (.aload_n 0) 1 33 := by decide +kernel
theorem dX9_tryCuts_33 : dcd cX9_tryCuts 33 (.iload_n 1) 1 34 := by decide +kernel
theorem dX9_tryCuts_34 : dcd cX9_tryCuts 34 (.iload 5) 2 36 := by decide +kernel
theorem dX9_tryCuts_36 : dcd cX9_tryCuts 36 (.invokevirtual 99) 3 39 := by decide +kernel
theorem dX9_tryCuts_39 : dcd cX9_tryCuts 39 (.istore 6) 2 41 := by decide +kernel
theorem dX9_tryCuts_41 : dcd cX9_tryCuts 41 (.iconst 0) 1 42 := by decide +kernel
theorem dX9_tryCuts_42 : dcd cX9_tryCuts 42 (.istore 7) 2 44 := by decide +kernel
theorem dX9_tryCuts_44 : dcd cX9_tryCuts 44 (.iload 7) 2 46 := by decide +kernel
theorem dX9_tryCuts_46 : dcd cX9_tryCuts 46 (.aload 4) 2 48 := by decide +kernel
theorem dX9_tryCuts_48 : dcd cX9_tryCuts 48 (.invokevirtual 60) 3 51 := by decide +kernel
theorem dX9_tryCuts_51 : dcb cX9_tryCuts 51 (.if_icmp .ge (147)) (147) 198 54 := by decide +kernel
theorem dX9_tryCuts_54 : dcd cX9_tryCuts 54 (.aload 4) 2 56 := by decide +kernel
theorem dX9_tryCuts_56 : dcd cX9_tryCuts 56 (.iload 7) 2 58 := by decide +kernel
theorem dX9_tryCuts_58 : dcd cX9_tryCuts 58 (.invokevirtual 63) 3 61 := by decide +kernel
theorem dX9_tryCuts_61 : dcd cX9_tryCuts 61 (.istore 8) 2 63 := by decide +kernel
theorem dX9_tryCuts_63 : dcd cX9_tryCuts 63 (.aload 4) 2 65 := by decide +kernel
theorem dX9_tryCuts_65 : dcd cX9_tryCuts 65 (.aload_n 0) 1 66 := by decide +kernel
theorem dX9_tryCuts_66 : dcd cX9_tryCuts 66 (.getfield 31) 3 69 := by decide +kernel
theorem dX9_tryCuts_69 : dcd cX9_tryCuts 69 (.aload 4) 2 71 := by decide +kernel
theorem dX9_tryCuts_71 : dcd cX9_tryCuts 71 (.iload 7) 2 73 := by decide +kernel
theorem dX9_tryCuts_73 : dcd cX9_tryCuts 73 (.invokevirtual 67) 3 76 := by decide +kernel
theorem dX9_tryCuts_76 : dcd cX9_tryCuts 76 (.aload 4) 2 78 := by decide +kernel
theorem dX9_tryCuts_78 : dcd cX9_tryCuts 78 (.iload 7) 2 80 := by decide +kernel
theorem dX9_tryCuts_80 : dcd cX9_tryCuts 80 (.invokevirtual 71) 3 83 := by decide +kernel
theorem dX9_tryCuts_83 : dcd cX9_tryCuts 83 (.aload_n 0) 1 84 := by decide +kernel
theorem dX9_tryCuts_84 : dcd cX9_tryCuts 84 (.getfield 12) 3 87 := by decide +kernel
theorem dX9_tryCuts_87 : dcd cX9_tryCuts 87 (.aload_n 0) 1 88 := by decide +kernel
theorem dX9_tryCuts_88 : dcd cX9_tryCuts 88 (.getfield 18) 3 91 := by decide +kernel
theorem dX9_tryCuts_91 : dcd cX9_tryCuts 91 (.invokevirtual 74) 3 94 := by decide +kernel
theorem dX9_tryCuts_94 : dcd cX9_tryCuts 94 (.aload_n 2) 1 95 := by decide +kernel
theorem dX9_tryCuts_95 : dcd cX9_tryCuts 95 (.aload_n 0) 1 96 := by decide +kernel
theorem dX9_tryCuts_96 : dcd cX9_tryCuts 96 (.getfield 12) 3 99 := by decide +kernel
theorem dX9_tryCuts_99 : dcd cX9_tryCuts 99 (.invokevirtual 53) 3 102 := by decide +kernel
theorem dX9_tryCuts_102 : dcb cX9_tryCuts 102 (.ifCond .eq (41)) (41) 143 105 := by decide +kernel
theorem dX9_tryCuts_105 : dcd cX9_tryCuts 105 (.aload_n 0) 1 106 := by decide +kernel
theorem dX9_tryCuts_106 : dcd cX9_tryCuts 106 (.aload_n 0) 1 107 := by decide +kernel
theorem dX9_tryCuts_107 : dcd cX9_tryCuts 107 (.getfield 18) 3 110 := by decide +kernel
theorem dX9_tryCuts_110 : dcd cX9_tryCuts 110 (.aload_n 3) 1 111 := by decide +kernel
theorem dX9_tryCuts_111 : dcd cX9_tryCuts 111 (.iload 5) 2 113 := by decide +kernel
theorem dX9_tryCuts_113 : dcd cX9_tryCuts 113 (.invokevirtual 95) 3 116 := by decide +kernel
theorem dX9_tryCuts_116 : dcd cX9_tryCuts 116 (.istore 9) 2 118 := by decide +kernel
theorem dX9_tryCuts_118 : dcd cX9_tryCuts 118 (.aload_n 0) 1 119 := by decide +kernel
theorem dX9_tryCuts_119 : dcd cX9_tryCuts 119 (.ldc 111) 2 121 := by decide +kernel
theorem dX9_tryCuts_121 : dcd cX9_tryCuts 121 (.aload_n 0) 1 122 := by decide +kernel
theorem dX9_tryCuts_122 : dcd cX9_tryCuts 122 (.iload_n 1) 1 123 := by decide +kernel
theorem dX9_tryCuts_123 : dcd cX9_tryCuts 123 (.iload 7) 2 125 := by decide +kernel
theorem dX9_tryCuts_125 : dcd cX9_tryCuts 125 (.iconst 0) 1 126 := by decide +kernel
theorem dX9_tryCuts_126 : dcd cX9_tryCuts 126 (.invokevirtual 78) 3 129 := by decide +kernel
theorem dX9_tryCuts_129 : dcd cX9_tryCuts 129 (.iadd) 1 130 := by decide +kernel
theorem dX9_tryCuts_130 : dcd cX9_tryCuts 130 (.iload 8) 2 132 := by decide +kernel
theorem dX9_tryCuts_132 : dcd cX9_tryCuts 132 (.iload 6) 2 134 := by decide +kernel
theorem dX9_tryCuts_134 : dcd cX9_tryCuts 134 (.iload 9) 2 136 := by decide +kernel
theorem dX9_tryCuts_136 : dcd cX9_tryCuts 136 (.invokestatic 112) 3 139 := by decide +kernel
theorem dX9_tryCuts_139 : dcd cX9_tryCuts 139 (.iadd) 1 140 := by decide +kernel
theorem dX9_tryCuts_140 : dcd cX9_tryCuts 140 (.invokevirtual 103) 3 143 := by decide +kernel
theorem dX9_tryCuts_143 : dcd cX9_tryCuts 143 (.aload_n 2) 1 144 := by decide +kernel
theorem dX9_tryCuts_144 : dcd cX9_tryCuts 144 (.aload_n 0) 1 145 := by decide +kernel
theorem dX9_tryCuts_145 : dcd cX9_tryCuts 145 (.getfield 18) 3 148 := by decide +kernel
theorem dX9_tryCuts_148 : dcd cX9_tryCuts 148 (.invokevirtual 53) 3 151 := by decide +kernel
theorem dX9_tryCuts_151 : dcb cX9_tryCuts 151 (.ifCond .eq (41)) (41) 192 154 := by decide +kernel
theorem dX9_tryCuts_154 : dcd cX9_tryCuts 154 (.aload_n 0) 1 155 := by decide +kernel
theorem dX9_tryCuts_155 : dcd cX9_tryCuts 155 (.aload_n 0) 1 156 := by decide +kernel
theorem dX9_tryCuts_156 : dcd cX9_tryCuts 156 (.getfield 12) 3 159 := by decide +kernel
theorem dX9_tryCuts_159 : dcd cX9_tryCuts 159 (.aload_n 3) 1 160 := by decide +kernel
theorem dX9_tryCuts_160 : dcd cX9_tryCuts 160 (.iload 5) 2 162 := by decide +kernel
theorem dX9_tryCuts_162 : dcd cX9_tryCuts 162 (.invokevirtual 95) 3 165 := by decide +kernel
theorem dX9_tryCuts_165 : dcd cX9_tryCuts 165 (.istore 9) 2 167 := by decide +kernel
theorem dX9_tryCuts_167 : dcd cX9_tryCuts 167 (.aload_n 0) 1 168 := by decide +kernel
theorem dX9_tryCuts_168 : dcd cX9_tryCuts 168 (.ldc 111) 2 170 := by decide +kernel
theorem dX9_tryCuts_170 : dcd cX9_tryCuts 170 (.aload_n 0) 1 171 := by decide +kernel
theorem dX9_tryCuts_171 : dcd cX9_tryCuts 171 (.iload_n 1) 1 172 := by decide +kernel
theorem dX9_tryCuts_172 : dcd cX9_tryCuts 172 (.iload 7) 2 174 := by decide +kernel
theorem dX9_tryCuts_174 : dcd cX9_tryCuts 174 (.iconst 1) 1 175 := by decide +kernel
theorem dX9_tryCuts_175 : dcd cX9_tryCuts 175 (.invokevirtual 78) 3 178 := by decide +kernel
theorem dX9_tryCuts_178 : dcd cX9_tryCuts 178 (.iadd) 1 179 := by decide +kernel
theorem dX9_tryCuts_179 : dcd cX9_tryCuts 179 (.iload 8) 2 181 := by decide +kernel
theorem dX9_tryCuts_181 : dcd cX9_tryCuts 181 (.iload 6) 2 183 := by decide +kernel
theorem dX9_tryCuts_183 : dcd cX9_tryCuts 183 (.iload 9) 2 185 := by decide +kernel
theorem dX9_tryCuts_185 : dcd cX9_tryCuts 185 (.invokestatic 112) 3 188 := by decide +kernel
theorem dX9_tryCuts_188 : dcd cX9_tryCuts 188 (.iadd) 1 189 := by decide +kernel
theorem dX9_tryCuts_189 : dcd cX9_tryCuts 189 (.invokevirtual 103) 3 192 := by decide +kernel
theorem dX9_tryCuts_192 : dcd cX9_tryCuts 192 (.iinc 7 1) 3 195 := by decide +kernel
theorem dX9_tryCuts_195 : dcb cX9_tryCuts 195 (.goto (-151)) (-151) 44 198 := by decide +kernel
theorem dX9_tryCuts_198 : decode cX9_tryCuts 198 = .ok (.return_, 1) := by decide +kernel
theorem dX9_weighWay_0 : dcd cX9_weighWay 0 (.iload_n 2) 1 1 := by decide +kernel
theorem dX9_weighWay_1 : dcd cX9_weighWay 1 (.aload_n 0) 1 2 := by decide +kernel
theorem dX9_weighWay_2 : dcd cX9_weighWay 2 (.getfield 89) 3 5 := by decide +kernel
theorem dX9_weighWay_5 : dcb cX9_weighWay 5 (.if_icmp .ge (13)) (13) 18 8 := by decide +kernel
theorem dX9_weighWay_8 : dcd cX9_weighWay 8 (.aload_n 0) 1 9 := by decide +kernel
theorem dX9_weighWay_9 : dcd cX9_weighWay 9 (.iload_n 2) 1 10 := by decide +kernel
theorem dX9_weighWay_10 : dcd cX9_weighWay 10 (.putfield 89) 3 13 := by decide +kernel
theorem dX9_weighWay_13 : dcd cX9_weighWay 13 (.aload_n 0) 1 14 := by decide +kernel
theorem dX9_weighWay_14 : dcd cX9_weighWay 14 (.iload_n 1) 1 15 := by decide +kernel
theorem dX9_weighWay_15 : dcd cX9_weighWay 15 (.putfield 92) 3 18 := by decide +kernel
theorem dX9_weighWay_18 : decode cX9_weighWay 18 = .ok (.return_, 1) := by decide +kernel
theorem dX9_laterWire_0 : dcd cX9_laterWire 0 (.aload_n 2) 1 1 := by decide +kernel
theorem dX9_laterWire_1 : dcd cX9_laterWire 1 (.aload_n 1) 1 2 := by decide +kernel
theorem dX9_laterWire_2 : dcd cX9_laterWire 2 (.invokevirtual 53) 3 5 := by decide +kernel
theorem dX9_laterWire_5 : dcb cX9_laterWire 5 (.ifCond .eq (5)) (5) 10 8 := by decide +kernel
theorem dX9_laterWire_8 : dcd cX9_laterWire 8 (.iconst 0) 1 9 := by decide +kernel
theorem dX9_laterWire_9 : decode cX9_laterWire 9 = .ok (.ireturn, 1) := by decide +kernel
theorem dX9_laterWire_10 : dcd cX9_laterWire 10 (.ldc 59) 2 12 := by decide +kernel
theorem dX9_laterWire_12 : dcd cX9_laterWire 12 (.istore 4) 2 14 := by decide +kernel
theorem dX9_laterWire_14 : dcd cX9_laterWire 14 (.iconst 0) 1 15 := by decide +kernel
theorem dX9_laterWire_15 : dcd cX9_laterWire 15 (.istore 5) 2 17 := by decide +kernel
theorem dX9_laterWire_17 : dcd cX9_laterWire 17 (.iload 5) 2 19 := by decide +kernel
theorem dX9_laterWire_19 : dcd cX9_laterWire 19 (.aload_n 1) 1 20 := by decide +kernel
theorem dX9_laterWire_20 : dcd cX9_laterWire 20 (.invokevirtual 60) 3 23 := by decide +kernel
theorem dX9_laterWire_23 : dcb cX9_laterWire 23 (.if_icmp .ge (82)) (82) 105 26 := by decide +kernel
theorem dX9_laterWire_26 : dcd cX9_laterWire 26 (.iload_n 3) 1 27 := by decide +kernel
theorem dX9_laterWire_27 : dcb cX9_laterWire 27 (.ifCond .eq (78)) (78) 105 30 := by decide +kernel
theorem dX9_laterWire_30 : dcd cX9_laterWire 30 (.aload_n 1) 1 31 := by decide +kernel
theorem dX9_laterWire_31 : dcd cX9_laterWire 31 (.iload 5) 2 33 := by decide +kernel
theorem dX9_laterWire_33 : dcd cX9_laterWire 33 (.invokevirtual 63) 3 36 := by decide +kernel
theorem dX9_laterWire_36 : dcd cX9_laterWire 36 (.iload 4) 2 38 := by decide +kernel
theorem dX9_laterWire_38 : dcb cX9_laterWire 38 (.if_icmp .ge (61)) (61) 99 41 := by decide +kernel
theorem dX9_laterWire_41 : dcd cX9_laterWire 41 (.aload_n 1) 1 42 := by decide +kernel
theorem dX9_laterWire_42 : dcd cX9_laterWire 42 (.aload_n 0) 1 43 := by decide +kernel
theorem dX9_laterWire_43 : dcd cX9_laterWire 43 (.getfield 31) 3 46 := by decide +kernel
theorem dX9_laterWire_46 : dcd cX9_laterWire 46 (.aload_n 1) 1 47 := by decide +kernel
theorem dX9_laterWire_47 : dcd cX9_laterWire 47 (.iload 5) 2 49 := by decide +kernel
theorem dX9_laterWire_49 : dcd cX9_laterWire 49 (.invokevirtual 67) 3 52 := by decide +kernel
theorem dX9_laterWire_52 : dcd cX9_laterWire 52 (.aload_n 1) 1 53 := by decide +kernel
theorem dX9_laterWire_53 : dcd cX9_laterWire 53 (.iload 5) 2 55 := by decide +kernel
theorem dX9_laterWire_55 : dcd cX9_laterWire 55 (.invokevirtual 71) 3 58 := by decide +kernel
theorem dX9_laterWire_58 : dcd cX9_laterWire 58 (.aload_n 0) 1 59 := by decide +kernel
theorem dX9_laterWire_59 : dcd cX9_laterWire 59 (.getfield 21) 3 62 := by decide +kernel
theorem dX9_laterWire_62 : dcd cX9_laterWire 62 (.aload_n 0) 1 63 := by decide +kernel
theorem dX9_laterWire_63 : dcd cX9_laterWire 63 (.getfield 24) 3 66 := by decide +kernel
theorem dX9_laterWire_66 : dcd cX9_laterWire 66 (.invokevirtual 74) 3 69 := by decide +kernel
theorem dX9_laterWire_69 : dcd cX9_laterWire 69 (.aload_n 2) 1 70 := by decide +kernel
theorem dX9_laterWire_70 : dcd cX9_laterWire 70 (.aload_n 0) 1 71 := by decide +kernel
theorem dX9_laterWire_71 : dcd cX9_laterWire 71 (.getfield 21) 3 74 := by decide +kernel
theorem dX9_laterWire_74 : dcd cX9_laterWire 74 (.invokevirtual 53) 3 77 := by decide +kernel
theorem dX9_laterWire_77 : dcb cX9_laterWire 77 (.ifCond .ne (14)) (14) 91 80 := by decide +kernel
theorem dX9_laterWire_80 : dcd cX9_laterWire 80 (.aload_n 2) 1 81 := by decide +kernel
theorem dX9_laterWire_81 : dcd cX9_laterWire 81 (.aload_n 0) 1 82 := by decide +kernel
theorem dX9_laterWire_82 : dcd cX9_laterWire 82 (.getfield 24) 3 85 := by decide +kernel
theorem dX9_laterWire_85 : dcd cX9_laterWire 85 (.invokevirtual 53) 3 88 := by decide +kernel
theorem dX9_laterWire_88 : dcb cX9_laterWire 88 (.ifCond .eq (11)) (11) 99 91 := by decide +kernel
theorem dX9_laterWire_91 : dcd cX9_laterWire 91 (.aload_n 1) 1 92 := by decide +kernel
theorem dX9_laterWire_92 : dcd cX9_laterWire 92 (.iload 5) 2 94 := by decide +kernel
theorem dX9_laterWire_94 : dcd cX9_laterWire 94 (.invokevirtual 63) 3 97 := by decide +kernel
theorem dX9_laterWire_97 : dcd cX9_laterWire 97 (.istore 4) 2 99 := by decide +kernel
theorem dX9_laterWire_99 : dcd cX9_laterWire 99 (.iinc 5 1) 3 102 := by decide +kernel
theorem dX9_laterWire_102 : dcb cX9_laterWire 102 (.goto (-85)) (-85) 17 105 := by decide +kernel
theorem dX9_laterWire_105 : dcd cX9_laterWire 105 (.iload 4) 2 107 := by decide +kernel
theorem dX9_laterWire_107 : decode cX9_laterWire 107 = .ok (.ireturn, 1) := by decide +kernel
theorem dX9_laterWireElsewhere_0 : dcd cX9_laterWireElsewhere 0 (.ldc 59) 2 2 := by decide +kernel
theorem dX9_laterWireElsewhere_2 : dcd cX9_laterWireElsewhere 2 (.istore_n 3) 1 3 := by decide +kernel
theorem dX9_laterWireElsewhere_3 : dcd cX9_laterWireElsewhere 3 (.iconst 0) 1 4 := by decide +kernel
theorem dX9_laterWireElsewhere_4 : dcd cX9_laterWireElsewhere 4 (.istore 4) 2 6 := by decide +kernel
theorem dX9_laterWireElsewhere_6 : dcd cX9_laterWireElsewhere 6 (.iload 4) 2 8 := by decide +kernel
theorem dX9_laterWireElsewhere_8 : dcd cX9_laterWireElsewhere 8 (.aload_n 0) 1 9 := by decide +kernel
theorem dX9_laterWireElsewhere_9 : dcd cX9_laterWireElsewhere 9 (.getfield 35) 3 12 := by decide +kernel
theorem dX9_laterWireElsewhere_12 : dcd cX9_laterWireElsewhere 12 (.getfield 39) 3 15 := by decide +kernel
theorem dX9_laterWireElsewhere_15 : dcb cX9_laterWireElsewhere 15 (.if_icmp .ge (40)) (40) 55 18 := by decide +kernel
theorem dX9_laterWireElsewhere_18 : dcd cX9_laterWireElsewhere 18 (.aload_n 0) 1 19 := by decide +kernel
theorem dX9_laterWireElsewhere_19 : dcd cX9_laterWireElsewhere 19 (.getfield 27) 3 22 := by decide +kernel
theorem dX9_laterWireElsewhere_22 : dcd cX9_laterWireElsewhere 22 (.iload 4) 2 24 := by decide +kernel
theorem dX9_laterWireElsewhere_24 : dcd cX9_laterWireElsewhere 24 (.iaload) 1 25 := by decide +kernel
theorem dX9_laterWireElsewhere_25 : dcd cX9_laterWireElsewhere 25 (.istore 5) 2 27 := by decide +kernel
theorem dX9_laterWireElsewhere_27 : dcd cX9_laterWireElsewhere 27 (.iload 4) 2 29 := by decide +kernel
theorem dX9_laterWireElsewhere_29 : dcd cX9_laterWireElsewhere 29 (.iload_n 1) 1 30 := by decide +kernel
theorem dX9_laterWireElsewhere_30 : dcb cX9_laterWireElsewhere 30 (.if_icmp .eq (19)) (19) 49 33 := by decide +kernel
theorem dX9_laterWireElsewhere_33 : dcd cX9_laterWireElsewhere 33 (.iload_n 2) 1 34 := by decide +kernel
theorem dX9_laterWireElsewhere_34 : dcb cX9_laterWireElsewhere 34 (.ifCond .ne (8)) (8) 42 37 := by decide +kernel
theorem dX9_laterWireElsewhere_37 : dcd cX9_laterWireElsewhere 37 (.iload 5) 2 39 := by decide +kernel
theorem dX9_laterWireElsewhere_39 : dcb cX9_laterWireElsewhere 39 (.ifCond .ne (10)) (10) 49 42 := by decide +kernel
theorem dX9_laterWireElsewhere_42 : dcd cX9_laterWireElsewhere 42 (.iload_n 3) 1 43 := by decide +kernel
theorem dX9_laterWireElsewhere_43 : dcd cX9_laterWireElsewhere 43 (.iload 5) 2 45 := by decide +kernel
theorem dX9_laterWireElsewhere_45 : dcd cX9_laterWireElsewhere 45 (.invokestatic 112) 3 48 := by decide +kernel
theorem dX9_laterWireElsewhere_48 : dcd cX9_laterWireElsewhere 48 (.istore_n 3) 1 49 := by decide +kernel
theorem dX9_laterWireElsewhere_49 : dcd cX9_laterWireElsewhere 49 (.iinc 4 1) 3 52 := by decide +kernel
theorem dX9_laterWireElsewhere_52 : dcb cX9_laterWireElsewhere 52 (.goto (-46)) (-46) 6 55 := by decide +kernel
theorem dX9_laterWireElsewhere_55 : dcd cX9_laterWireElsewhere 55 (.iload_n 3) 1 56 := by decide +kernel
theorem dX9_laterWireElsewhere_56 : decode cX9_laterWireElsewhere 56 = .ok (.ireturn, 1) := by decide +kernel
theorem dX10_init_0 : dcd cX10_init 0 (.aload_n 0) 1 1 := by decide +kernel
theorem dX10_init_1 : dcd cX10_init 1 (.invokespecial 3) 3 4 := by decide +kernel
theorem dX10_init_4 : dcd cX10_init 4 (.aload_n 0) 1 5 := by decide +kernel
theorem dX10_init_5 : dcd cX10_init 5 (.bipush 48) 2 7 := by decide +kernel
theorem dX10_init_7 : dcd cX10_init 7 (.newarray .int) 2 9 := by decide +kernel
theorem dX10_init_9 : dcd cX10_init 9 (.putfield 9) 3 12 := by decide +kernel
theorem dX10_init_12 : decode cX10_init 12 = .ok (.return_, 1) := by decide +kernel
theorem dX10_append_0 : dcd cX10_append 0 (.iload_n 1) 1 1 := by decide +kernel
theorem dX10_append_1 : dcd cX10_append 1 (.iconst 1) 1 2 := by decide +kernel
theorem dX10_append_2 : dcd cX10_append 2 (.isub) 1 3 := by decide +kernel
theorem dX10_append_3 : dcd cX10_append 3 (.istore 4) 2 5 := by decide +kernel
theorem dX10_append_5 : dcd cX10_append 5 (.iload 4) 2 7 := by decide +kernel
theorem dX10_append_7 : dcb cX10_append 7 (.ifCond .lt (49)) (49) 56 10 := by decide +kernel
theorem dX10_append_10 : dcd cX10_append 10 (.aload_n 0) 1 11 := by decide +kernel
theorem dX10_append_11 : dcd cX10_append 11 (.getfield 15) 3 14 := by decide +kernel
theorem dX10_append_14 : dcd cX10_append 14 (.bipush 48) 2 16 := by decide +kernel
theorem dX10_append_16 : dcb cX10_append 16 (.if_icmp .ge (40)) (40) 56 19 := by decide +kernel
theorem dX10_append_19 : dcd cX10_append 19 (.aload_n 0) 1 20 := by decide +kernel
theorem dX10_append_20 : dcd cX10_append 20 (.getfield 9) 3 23 := by decide +kernel
theorem dX10_append_23 : dcd cX10_append 23 (.aload_n 0) 1 24 := by decide +kernel
theorem dX10_append_24 : dcd cX10_append 24 (.getfield 15) 3 27 := by decide +kernel
theorem dX10_append_27 : dcd cX10_append 27 (.lload_n 2) 1 28 := by decide +kernel
theorem dX10_append_28 : dcd cX10_append 28 (.bipush 8) 2 30 := by decide +kernel
theorem dX10_append_30 : dcd cX10_append 30 (.iload 4) 2 32 := by decide +kernel
theorem dX10_append_32 : dcd cX10_append 32 (.imul) 1 33 := by decide +kernel
theorem dX10_append_33 : dcd cX10_append 33 (.lushr) 1 34 := by decide +kernel
theorem dX10_append_34 : dcd cX10_append 34 (.l2i) 1 35 := by decide +kernel
theorem dX10_append_35 : dcd cX10_append 35 (.sipush 255) 3 38 := by decide +kernel
theorem dX10_append_38 : dcd cX10_append 38 (.iand) 1 39 := by decide +kernel
theorem dX10_append_39 : dcd cX10_append 39 (.iastore) 1 40 := by decide +kernel
theorem dX10_append_40 : dcd cX10_append 40 (.aload_n 0) 1 41 := by decide +kernel
theorem dX10_append_41 : dcd cX10_append 41 (.dup) 1 42 := by decide +kernel
theorem dX10_append_42 : dcd cX10_append 42 (.getfield 15) 3 45 := by decide +kernel
theorem dX10_append_45 : dcd cX10_append 45 (.iconst 1) 1 46 := by decide +kernel
theorem dX10_append_46 : dcd cX10_append 46 (.iadd) 1 47 := by decide +kernel
theorem dX10_append_47 : dcd cX10_append 47 (.putfield 15) 3 50 := by decide +kernel
theorem dX10_append_50 : dcd cX10_append 50 (.iinc 4 (-1)) 3 53 := by decide +kernel
theorem dX10_append_53 : dcb cX10_append 53 (.goto (-48)) (-48) 5 56 := by decide +kernel
theorem dX10_append_56 : decode cX10_append 56 = .ok (.return_, 1) := by decide +kernel
theorem dX10_firstFault_0 : dcd cX10_firstFault 0 (.iconst 1) 1 1 := by decide +kernel
theorem dX10_firstFault_1 : dcd cX10_firstFault 1 (.istore_n 1) 1 2 := by decide +kernel
theorem dX10_firstFault_2 : dcd cX10_firstFault 2 (.iconst 0) 1 3 := by decide +kernel
theorem dX10_firstFault_3 : dcd cX10_firstFault 3 (.istore_n 2) 1 4 := by decide +kernel
theorem dX10_firstFault_4 : dcd cX10_firstFault 4 (.iconst 0) 1 5 := by decide +kernel
theorem dX10_firstFault_5 : dcd cX10_firstFault 5 (.istore_n 3) 1 6 := by decide +kernel
theorem dX10_firstFault_6 : dcd cX10_firstFault 6 (.iconst 0) 1 7 := by decide +kernel
theorem dX10_firstFault_7 : dcd cX10_firstFault 7 (.istore 4) 2 9 := by decide +kernel
theorem dX10_firstFault_9 : dcd cX10_firstFault 9 (.iload 4) 2 11 := by decide +kernel
theorem dX10_firstFault_11 : dcd cX10_firstFault 11 (.aload_n 0) 1 12 := by decide +kernel
theorem dX10_firstFault_12 : dcd cX10_firstFault 12 (.getfield 15) 3 15 := by decide +kernel
theorem dX10_firstFault_15 : dcb cX10_firstFault 15 (.if_icmp .ge (84)) (84) 99 18 := by decide +kernel
theorem dX10_firstFault_18 : dcd cX10_firstFault 18 (.aload_n 0) 1 19 := by decide +kernel
theorem dX10_firstFault_19 : dcd cX10_firstFault 19 (.getfield 9) 3 22 := by decide +kernel
theorem dX10_firstFault_22 : dcd cX10_firstFault 22 (.iload 4) 2 24 := by decide +kernel
theorem dX10_firstFault_24 : dcd cX10_firstFault 24 (.iaload) 1 25 := by decide +kernel
theorem dX10_firstFault_25 : dcd cX10_firstFault 25 (.bipush 47) 2 27 := by decide +kernel
theorem dX10_firstFault_27 : dcb cX10_firstFault 27 (.if_icmp .ne (31)) (31) 58 30 := by decide +kernel
theorem dX10_firstFault_30 : dcd cX10_firstFault 30 (.iload_n 2) 1 31 := by decide +kernel
theorem dX10_firstFault_31 : dcb cX10_firstFault 31 (.ifCond .eq (14)) (14) 45 34 := by decide +kernel
theorem dX10_firstFault_34 : dcd cX10_firstFault 34 (.iload_n 2) 1 35 := by decide +kernel
theorem dX10_firstFault_35 : dcd cX10_firstFault 35 (.iload_n 3) 1 36 := by decide +kernel
theorem dX10_firstFault_36 : dcb cX10_firstFault 36 (.if_icmp .lt (9)) (9) 45 39 := by decide +kernel
theorem dX10_firstFault_39 : dcd cX10_firstFault 39 (.iload_n 1) 1 40 := by decide +kernel
theorem dX10_firstFault_40 : dcd cX10_firstFault 40 (.bipush 6) 2 42 := by decide +kernel
theorem dX10_firstFault_42 : dcb cX10_firstFault 42 (.if_icmp .ne (6)) (6) 48 45 := by decide +kernel
theorem dX10_firstFault_45 : dcd cX10_firstFault 45 (.iload 4) 2 47 := by decide +kernel
theorem dX10_firstFault_47 : decode cX10_firstFault 47 = .ok (.ireturn, 1) := by decide +kernel
theorem dX10_firstFault_48 : dcd cX10_firstFault 48 (.iload_n 2) 1 49 := by decide +kernel
theorem dX10_firstFault_49 : dcd cX10_firstFault 49 (.istore_n 3) 1 50 := by decide +kernel
theorem dX10_firstFault_50 : dcd cX10_firstFault 50 (.iinc 1 1) 3 53 := by decide +kernel
theorem dX10_firstFault_53 : dcd cX10_firstFault 53 (.iconst 0) 1 54 := by decide +kernel
theorem dX10_firstFault_54 : dcd cX10_firstFault 54 (.istore_n 2) 1 55 := by decide +kernel
theorem dX10_firstFault_55 : dcb cX10_firstFault 55 (.goto (38)) (38) 93 58 := by decide +kernel
theorem dX10_firstFault_58 : dcd cX10_firstFault 58 (.aload_n 0) 1 59 := by decide +kernel
theorem dX10_firstFault_59 : dcd cX10_firstFault 59 (.getfield 9) 3 62 := by decide +kernel
theorem dX10_firstFault_62 : dcd cX10_firstFault 62 (.iload 4) 2 64 := by decide +kernel
theorem dX10_firstFault_64 : dcd cX10_firstFault 64 (.iaload) 1 65 := by decide +kernel
theorem dX10_firstFault_65 : dcd cX10_firstFault 65 (.invokestatic 19) 3 68 := by decide +kernel
theorem dX10_firstFault_68 : dcd cX10_firstFault 68 (.bipush (-9)) 2 70 := by decide +kernel
theorem dX10_firstFault_70 : dcb cX10_firstFault 70 (.if_icmp .eq (17)) (17) 87 73 := by decide +kernel
theorem dX10_firstFault_73 : dcd cX10_firstFault 73 (.iload_n 2) 1 74 := by decide +kernel
theorem dX10_firstFault_74 : dcd cX10_firstFault 74 (.iload_n 3) 1 75 := by decide +kernel
theorem dX10_firstFault_75 : dcb cX10_firstFault 75 (.ifCond .ne (8)) (8) 83 78 := by decide +kernel
theorem dX10_firstFault_78 : dcd cX10_firstFault 78 (.bipush 6) 2 80 := by decide +kernel
theorem dX10_firstFault_80 : dcb cX10_firstFault 80 (.goto (4)) (4) 84 83 := by decide +kernel
theorem dX10_firstFault_83 : dcd cX10_firstFault 83 (.iload_n 3) 1 84 := by decide +kernel
theorem dX10_firstFault_84 : dcb cX10_firstFault 84 (.if_icmp .ne (6)) (6) 90 87 := by decide +kernel
theorem dX10_firstFault_87 : dcd cX10_firstFault 87 (.iload 4) 2 89 := by decide +kernel
theorem dX10_firstFault_89 : decode cX10_firstFault 89 = .ok (.ireturn, 1) := by decide +kernel
theorem dX10_firstFault_90 : dcd cX10_firstFault 90 (.iinc 2 1) 3 93 := by decide +kernel
theorem dX10_firstFault_93 : dcd cX10_firstFault 93 (.iinc 4 1) 3 96 := by decide +kernel
theorem dX10_firstFault_96 : dcb cX10_firstFault 96 (.goto (-87)) (-87) 9 99 := by decide +kernel
theorem dX10_firstFault_99 : dcd cX10_firstFault 99 (.iload_n 2) 1 100 := by decide +kernel
theorem dX10_firstFault_100 : dcb cX10_firstFault 100 (.ifCond .eq (8)) (8) 108 103 := by decide +kernel
theorem dX10_firstFault_103 : dcd cX10_firstFault 103 (.iload_n 2) 1 104 := by decide +kernel
theorem dX10_firstFault_104 : dcd cX10_firstFault 104 (.iload_n 3) 1 105 := by decide +kernel
theorem dX10_firstFault_105 : dcb cX10_firstFault 105 (.if_icmp .ge (10)) (10) 115 108 := by decide +kernel
theorem dX10_firstFault_108 : dcd cX10_firstFault 108 (.aload_n 0) 1 109 := by decide +kernel
theorem dX10_firstFault_109 : dcd cX10_firstFault 109 (.getfield 15) 3 112 := by decide +kernel
theorem dX10_firstFault_112 : dcb cX10_firstFault 112 (.goto (5)) (5) 117 115 := by decide +kernel
theorem dX10_firstFault_115 : dcd cX10_firstFault 115 (.bipush (-9)) 2 117 := by decide +kernel
theorem dX10_firstFault_117 : decode cX10_firstFault 117 = .ok (.ireturn, 1) := by decide +kernel
theorem dX11_init_0 : dcd cX11_init 0 (.aload_n 0) 1 1 := by decide +kernel
theorem dX11_init_1 : dcd cX11_init 1 (.invokespecial 3) 3 4 := by decide +kernel
theorem dX11_init_4 : dcd cX11_init 4 (.aload_n 0) 1 5 := by decide +kernel
theorem dX11_init_5 : dcd cX11_init 5 (.new 9) 3 8 := by decide +kernel
theorem dX11_init_8 : dcd cX11_init 8 (.dup) 1 9 := by decide +kernel
theorem dX11_init_9 : dcd cX11_init 9 (.invokespecial 11) 3 12 := by decide +kernel
theorem dX11_init_12 : dcd cX11_init 12 (.putfield 12) 3 15 := by decide +kernel
theorem dX11_init_15 : dcd cX11_init 15 (.aload_n 0) 1 16 := by decide +kernel
theorem dX11_init_16 : dcd cX11_init 16 (.new 16) 3 19 := by decide +kernel
theorem dX11_init_19 : dcd cX11_init 19 (.dup) 1 20 := by decide +kernel
theorem dX11_init_20 : dcd cX11_init 20 (.invokespecial 18) 3 23 := by decide +kernel
theorem dX11_init_23 : dcd cX11_init 23 (.putfield 19) 3 26 := by decide +kernel
theorem dX11_init_26 : dcd cX11_init 26 (.aload_n 0) 1 27 := by decide +kernel
theorem dX11_init_27 : dcd cX11_init 27 (.new 23) 3 30 := by decide +kernel
theorem dX11_init_30 : dcd cX11_init 30 (.dup) 1 31 := by decide +kernel
theorem dX11_init_31 : dcd cX11_init 31 (.aload_n 0) 1 32 := by decide +kernel
theorem dX11_init_32 : dcd cX11_init 32 (.getfield 19) 3 35 := by decide +kernel
theorem dX11_init_35 : dcd cX11_init 35 (.invokespecial 25) 3 38 := by decide +kernel
theorem dX11_init_38 : dcd cX11_init 38 (.putfield 28) 3 41 := by decide +kernel
theorem dX11_init_41 : dcd cX11_init 41 (.aload_n 0) 1 42 := by decide +kernel
theorem dX11_init_42 : dcd cX11_init 42 (.iconst 2) 1 43 := by decide +kernel
theorem dX11_init_43 : dcd cX11_init 43 (.anewarray 23) 3 46 := by decide +kernel
theorem dX11_init_46 : dcd cX11_init 46 (.putfield 32) 3 49 := by decide +kernel
theorem dX11_init_49 : dcd cX11_init 49 (.aload_n 0) 1 50 := by decide +kernel
theorem dX11_init_50 : dcd cX11_init 50 (.new 36) 3 53 := by decide +kernel
theorem dX11_init_53 : dcd cX11_init 53 (.dup) 1 54 := by decide +kernel
theorem dX11_init_54 : dcd cX11_init 54 (.aload_n 0) 1 55 := by decide +kernel
theorem dX11_init_55 : dcd cX11_init 55 (.getfield 19) 3 58 := by decide +kernel
theorem dX11_init_58 : dcd cX11_init 58 (.aload_n 0) 1 59 := by decide +kernel
theorem dX11_init_59 : dcd cX11_init 59 (.getfield 28) 3 62 := by decide +kernel
theorem dX11_init_62 : dcd cX11_init 62 (.invokespecial 38) 3 65 := by decide +kernel
theorem dX11_init_65 : dcd cX11_init 65 (.putfield 41) 3 68 := by decide +kernel
theorem dX11_init_68 : dcd cX11_init 68 (.aload_n 0) 1 69 := by decide +kernel
theorem dX11_init_69 : dcd cX11_init 69 (.new 45) 3 72 := by decide +kernel
theorem dX11_init_72 : dcd cX11_init 72 (.dup) 1 73 := by decide +kernel
theorem dX11_init_73 : dcd cX11_init 73 (.aload_n 0) 1 74 := by decide +kernel
theorem dX11_init_74 : dcd cX11_init 74 (.getfield 19) 3 77 := by decide +kernel
theorem dX11_init_77 : dcd cX11_init 77 (.invokespecial 47) 3 80 := by decide +kernel
theorem dX11_init_80 : dcd cX11_init 80 (.putfield 48) 3 83 := by decide +kernel
theorem dX11_init_83 : dcd cX11_init 83 (.aload_n 0) 1 84 := by decide +kernel
theorem dX11_init_84 : dcd cX11_init 84 (.new 52) 3 87 := by decide +kernel
theorem dX11_init_87 : dcd cX11_init 87 (.dup) 1 88 := by decide +kernel
theorem dX11_init_88 : dcd cX11_init 88 (.aload_n 0) 1 89 := by decide +kernel
theorem dX11_init_89 : dcd cX11_init 89 (.getfield 19) 3 92 := by decide +kernel
theorem dX11_init_92 : dcd cX11_init 92 (.invokespecial 54) 3 95 := by decide +kernel
theorem dX11_init_95 : dcd cX11_init 95 (.putfield 55) 3 98 := by decide +kernel
theorem dX11_init_98 : dcd cX11_init 98 (.aload_n 0) 1 99 := by decide +kernel
theorem dX11_init_99 : dcd cX11_init 99 (.new 59) 3 102 := by decide +kernel
theorem dX11_init_102 : dcd cX11_init 102 (.dup) 1 103 := by decide +kernel
theorem dX11_init_103 : dcd cX11_init 103 (.aload_n 0) 1 104 := by decide +kernel
theorem dX11_init_104 : dcd cX11_init 104 (.getfield 19) 3 107 := by decide +kernel
theorem dX11_init_107 : dcd cX11_init 107 (.invokespecial 61) 3 110 := by decide +kernel
theorem dX11_init_110 : dcd cX11_init 110 (.putfield 62) 3 113 := by decide +kernel
theorem dX11_init_113 : dcd cX11_init 113 (.aload_n 0) 1 114 := by decide +kernel
theorem dX11_init_114 : dcd cX11_init 114 (.new 66) 3 117 := by decide +kernel
theorem dX11_init_117 : dcd cX11_init 117 (.dup) 1 118 := by decide +kernel
theorem dX11_init_118 : dcd cX11_init 118 (.invokespecial 68) 3 121 := by decide +kernel
theorem dX11_init_121 : dcd cX11_init 121 (.putfield 69) 3 124 := by decide +kernel
theorem dX11_init_124 : dcd cX11_init 124 (.aload_n 0) 1 125 := by decide +kernel
theorem dX11_init_125 : dcd cX11_init 125 (.iconst 3) 1 126 := by decide +kernel
theorem dX11_init_126 : dcd cX11_init 126 (.putfield 73) 3 129 := by decide +kernel
theorem dX11_init_129 : dcd cX11_init 129 (.aload_n 0) 1 130 := by decide +kernel
theorem dX11_init_130 : dcd cX11_init 130 (.iconst 1) 1 131 := by decide +kernel
theorem dX11_init_131 : dcd cX11_init 131 (.putfield 77) 3 134 := by decide +kernel
theorem dX11_init_134 : dcd cX11_init 134 (.iconst 0) 1 135 := by decide +kernel
theorem dX11_init_135 : dcd cX11_init 135 (.istore_n 1) 1 136 := by decide +kernel
theorem dX11_init_136 : dcd cX11_init 136 (.iload_n 1) 1 137 := by decide +kernel
theorem dX11_init_137 : dcd cX11_init 137 (.iconst 2) 1 138 := by decide +kernel
theorem dX11_init_138 : dcb cX11_init 138 (.if_icmp .ge (26)) (26) 164 141 := by decide +kernel
theorem dX11_init_141 : dcd cX11_init 141 (.aload_n 0) 1 142 := by decide +kernel
theorem dX11_init_142 : dcd cX11_init 142 (.getfield 32) 3 145 := by decide +kernel
theorem dX11_init_145 : dcd cX11_init 145 (.iload_n 1) 1 146 := by decide +kernel
theorem dX11_init_146 : dcd cX11_init 146 (.new 23) 3 149 := by decide +kernel
theorem dX11_init_149 : dcd cX11_init 149 (.dup) 1 150 := by decide +kernel
theorem dX11_init_150 : dcd cX11_init 150 (.aload_n 0) 1 151 := by decide +kernel
theorem dX11_init_151 : dcd cX11_init 151 (.getfield 19) 3 154 := by decide +kernel
theorem dX11_init_154 : dcd cX11_init 154 (.invokespecial 25) 3 157 := by decide +kernel
theorem dX11_init_157 : dcd cX11_init 157 (.aastore) 1 158 := by decide +kernel
theorem dX11_init_158 : dcd cX11_init 158 (.iinc 1 1) 3 161 := by decide +kernel
theorem dX11_init_161 : dcb cX11_init 161 (.goto (-25)) (-25) 136 164 := by decide +kernel
theorem dX11_init_164 : decode cX11_init 164 = .ok (.return_, 1) := by decide +kernel
theorem dX11_write_0 : dcd cX11_write 0 (.iload_n 1) 1 1 := by decide +kernel
theorem dX11_write_1 : dcd cX11_write 1 (.iconst 1) 1 2 := by decide +kernel
theorem dX11_write_2 : dcb cX11_write 2 (.if_icmp .lt (9)) (9) 11 5 := by decide +kernel
theorem dX11_write_5 : dcd cX11_write 5 (.iload_n 1) 1 6 := by decide +kernel
theorem dX11_write_6 : dcd cX11_write 6 (.bipush 8) 2 8 := by decide +kernel
theorem dX11_write_8 : dcb cX11_write 8 (.if_icmp .le (6)) (6) 14 11 := by decide +kernel
theorem dX11_write_11 : dcd cX11_write 11 (.bipush (-2)) 2 13 := by decide +kernel
theorem dX11_write_13 : decode cX11_write 13 = .ok (.ireturn, 1) := by decide +kernel
theorem dX11_write_14 : dcd cX11_write 14 (.aload_n 0) 1 15 := by decide +kernel
theorem dX11_write_15 : dcd cX11_write 15 (.getfield 12) 3 18 := by decide +kernel
theorem dX11_write_18 : dcd cX11_write 18 (.getfield 80) 3 21 := by decide +kernel
theorem dX11_write_21 : dcd cX11_write 21 (.iload_n 1) 1 22 := by decide +kernel
theorem dX11_write_22 : dcd cX11_write 22 (.iadd) 1 23 := by decide +kernel
theorem dX11_write_23 : dcd cX11_write 23 (.bipush 48) 2 25 := by decide +kernel
theorem dX11_write_25 : dcb cX11_write 25 (.if_icmp .le (6)) (6) 31 28 := by decide +kernel
theorem dX11_write_28 : dcd cX11_write 28 (.bipush (-4)) 2 30 := by decide +kernel
theorem dX11_write_30 : decode cX11_write 30 = .ok (.ireturn, 1) := by decide +kernel
theorem dX11_write_31 : dcd cX11_write 31 (.aload_n 0) 1 32 := by decide +kernel
theorem dX11_write_32 : dcd cX11_write 32 (.getfield 12) 3 35 := by decide +kernel
theorem dX11_write_35 : dcd cX11_write 35 (.iload_n 1) 1 36 := by decide +kernel
theorem dX11_write_36 : dcd cX11_write 36 (.lload_n 2) 1 37 := by decide +kernel
theorem dX11_write_37 : dcd cX11_write 37 (.invokevirtual 83) 3 40 := by decide +kernel
theorem dX11_write_40 : dcd cX11_write 40 (.aload_n 0) 1 41 := by decide +kernel
theorem dX11_write_41 : dcd cX11_write 41 (.getfield 12) 3 44 := by decide +kernel
theorem dX11_write_44 : dcd cX11_write 44 (.getfield 80) 3 47 := by decide +kernel
theorem dX11_write_47 : decode cX11_write 47 = .ok (.ireturn, 1) := by decide +kernel
theorem dX11_wipe_0 : dcd cX11_wipe 0 (.aload_n 0) 1 1 := by decide +kernel
theorem dX11_wipe_1 : dcd cX11_wipe 1 (.getfield 12) 3 4 := by decide +kernel
theorem dX11_wipe_4 : dcd cX11_wipe 4 (.getfield 80) 3 7 := by decide +kernel
theorem dX11_wipe_7 : dcd cX11_wipe 7 (.istore_n 1) 1 8 := by decide +kernel
theorem dX11_wipe_8 : dcd cX11_wipe 8 (.aload_n 0) 1 9 := by decide +kernel
theorem dX11_wipe_9 : dcd cX11_wipe 9 (.getfield 12) 3 12 := by decide +kernel
theorem dX11_wipe_12 : dcd cX11_wipe 12 (.iconst 0) 1 13 := by decide +kernel
theorem dX11_wipe_13 : dcd cX11_wipe 13 (.putfield 80) 3 16 := by decide +kernel
theorem dX11_wipe_16 : dcd cX11_wipe 16 (.iload_n 1) 1 17 := by decide +kernel
theorem dX11_wipe_17 : decode cX11_wipe 17 = .ok (.ireturn, 1) := by decide +kernel
theorem dX11_fault_0 : dcd cX11_fault 0 (.aload_n 0) 1 1 := by decide +kernel
theorem dX11_fault_1 : dcd cX11_fault 1 (.getfield 12) 3 4 := by decide +kernel
theorem dX11_fault_4 : dcd cX11_fault 4 (.invokevirtual 87) 3 7 := by decide +kernel
theorem dX11_fault_7 : decode cX11_fault 7 = .ok (.ireturn, 1) := by decide +kernel
theorem dX11_form_0 : dcd cX11_form 0 (.aload_n 0) 1 1 := by decide +kernel
theorem dX11_form_1 : dcd cX11_form 1 (.getfield 12) 3 4 := by decide +kernel
theorem dX11_form_4 : dcd cX11_form 4 (.invokevirtual 87) 3 7 := by decide +kernel
theorem dX11_form_7 : dcd cX11_form 7 (.bipush (-9)) 2 9 := by decide +kernel
theorem dX11_form_9 : dcb cX11_form 9 (.if_icmp .eq (6)) (6) 15 12 := by decide +kernel
theorem dX11_form_12 : dcd cX11_form 12 (.bipush (-3)) 2 14 := by decide +kernel
theorem dX11_form_14 : decode cX11_form 14 = .ok (.ireturn, 1) := by decide +kernel
theorem dX11_form_15 : dcd cX11_form 15 (.aload_n 0) 1 16 := by decide +kernel
theorem dX11_form_16 : dcd cX11_form 16 (.getfield 19) 3 19 := by decide +kernel
theorem dX11_form_19 : dcd cX11_form 19 (.aload_n 0) 1 20 := by decide +kernel
theorem dX11_form_20 : dcd cX11_form 20 (.getfield 12) 3 23 := by decide +kernel
theorem dX11_form_23 : dcd cX11_form 23 (.invokevirtual 91) 3 26 := by decide +kernel
theorem dX11_form_26 : dcd cX11_form 26 (.aload_n 0) 1 27 := by decide +kernel
theorem dX11_form_27 : dcd cX11_form 27 (.getfield 28) 3 30 := by decide +kernel
theorem dX11_form_30 : dcd cX11_form 30 (.invokevirtual 95) 3 33 := by decide +kernel
theorem dX11_form_33 : dcd cX11_form 33 (.iconst 0) 1 34 := by decide +kernel
theorem dX11_form_34 : dcd cX11_form 34 (.istore_n 1) 1 35 := by decide +kernel
theorem dX11_form_35 : dcd cX11_form 35 (.iload_n 1) 1 36 := by decide +kernel
theorem dX11_form_36 : dcd cX11_form 36 (.iconst 2) 1 37 := by decide +kernel
theorem dX11_form_37 : dcb cX11_form 37 (.if_icmp .ge (19)) (19) 56 40 := by decide +kernel
theorem dX11_form_40 : dcd cX11_form 40 (.aload_n 0) 1 41 := by decide +kernel
theorem dX11_form_41 : dcd cX11_form 41 (.getfield 32) 3 44 := by decide +kernel
theorem dX11_form_44 : dcd cX11_form 44 (.iload_n 1) 1 45 := by decide +kernel
theorem dX11_form_45 : dcd cX11_form 45 (.aaload) 1 46 := by decide +kernel
theorem dX11_form_46 : dcd cX11_form 46 (.iconst 0) 1 47 := by decide +kernel
theorem dX11_form_47 : dcd cX11_form 47 (.putfield 98) 3 50 := by decide +kernel
theorem dX11_form_50 : dcd cX11_form 50 (.iinc 1 1) 3 53 := by decide +kernel
theorem dX11_form_53 : dcb cX11_form 53 (.goto (-18)) (-18) 35 56 := by decide +kernel
theorem dX11_form_56 : dcd cX11_form 56 (.aload_n 0) 1 57 := by decide +kernel
theorem dX11_form_57 : dcd cX11_form 57 (.getfield 62) 3 60 := by decide +kernel
theorem dX11_form_60 : dcd cX11_form 60 (.invokevirtual 102) 3 63 := by decide +kernel
theorem dX11_form_63 : dcd cX11_form 63 (.aload_n 0) 1 64 := by decide +kernel
theorem dX11_form_64 : dcd cX11_form 64 (.getfield 48) 3 67 := by decide +kernel
theorem dX11_form_67 : dcd cX11_form 67 (.iconst 0) 1 68 := by decide +kernel
theorem dX11_form_68 : dcd cX11_form 68 (.putfield 105) 3 71 := by decide +kernel
theorem dX11_form_71 : dcd cX11_form 71 (.aload_n 0) 1 72 := by decide +kernel
theorem dX11_form_72 : dcd cX11_form 72 (.getfield 19) 3 75 := by decide +kernel
theorem dX11_form_75 : dcd cX11_form 75 (.getfield 108) 3 78 := by decide +kernel
theorem dX11_form_78 : dcd cX11_form 78 (.aload_n 0) 1 79 := by decide +kernel
theorem dX11_form_79 : dcd cX11_form 79 (.getfield 19) 3 82 := by decide +kernel
theorem dX11_form_82 : dcd cX11_form 82 (.getfield 111) 3 85 := by decide +kernel
theorem dX11_form_85 : dcd cX11_form 85 (.imul) 1 86 := by decide +kernel
theorem dX11_form_86 : decode cX11_form 86 = .ok (.ireturn, 1) := by decide +kernel
theorem dX11_place_0 : dcd cX11_place 0 (.aload_n 0) 1 1 := by decide +kernel
theorem dX11_place_1 : dcd cX11_place 1 (.getfield 19) 3 4 := by decide +kernel
theorem dX11_place_4 : dcd cX11_place 4 (.iload_n 1) 1 5 := by decide +kernel
theorem dX11_place_5 : dcd cX11_place 5 (.iload_n 2) 1 6 := by decide +kernel
theorem dX11_place_6 : dcd cX11_place 6 (.iconst 1) 1 7 := by decide +kernel
theorem dX11_place_7 : dcd cX11_place 7 (.iconst 1) 1 8 := by decide +kernel
theorem dX11_place_8 : dcd cX11_place 8 (.invokevirtual 114) 3 11 := by decide +kernel
theorem dX11_place_11 : dcb cX11_place 11 (.ifCond .eq (15)) (15) 26 14 := by decide +kernel
theorem dX11_place_14 : dcd cX11_place 14 (.aload_n 0) 1 15 := by decide +kernel
theorem dX11_place_15 : dcd cX11_place 15 (.getfield 19) 3 18 := by decide +kernel
theorem dX11_place_18 : dcd cX11_place 18 (.iload_n 1) 1 19 := by decide +kernel
theorem dX11_place_19 : dcd cX11_place 19 (.iload_n 2) 1 20 := by decide +kernel
theorem dX11_place_20 : dcd cX11_place 20 (.invokevirtual 118) 3 23 := by decide +kernel
theorem dX11_place_23 : dcb cX11_place 23 (.goto (4)) (4) 27 26 := by decide +kernel
theorem dX11_place_26 : dcd cX11_place 26 (.iconst (-1)) 1 27 := by decide +kernel
theorem dX11_place_27 : decode cX11_place 27 = .ok (.ireturn, 1) := by decide +kernel
theorem dX11_cut_0 : dcd cX11_cut 0 (.aload_n 0) 1 1 := by decide +kernel
theorem dX11_cut_1 : dcd cX11_cut 1 (.getfield 28) 3 4 := by decide +kernel
theorem dX11_cut_4 : dcd cX11_cut 4 (.iload_n 1) 1 5 := by decide +kernel
theorem dX11_cut_5 : dcd cX11_cut 5 (.invokevirtual 122) 3 8 := by decide +kernel
theorem dX11_cut_8 : dcb cX11_cut 8 (.ifCond .ne (5)) (5) 13 11 := by decide +kernel
theorem dX11_cut_11 : dcd cX11_cut 11 (.iconst (-1)) 1 12 := by decide +kernel
theorem dX11_cut_12 : decode cX11_cut 12 = .ok (.ireturn, 1) := by decide +kernel
theorem dX11_cut_13 : dcd cX11_cut 13 (.aload_n 0) 1 14 := by decide +kernel
theorem dX11_cut_14 : dcd cX11_cut 14 (.getfield 28) 3 17 := by decide +kernel
theorem dX11_cut_17 : dcd cX11_cut 17 (.getfield 126) 3 20 := by decide +kernel
theorem dX11_cut_20 : dcd cX11_cut 20 (.iload_n 1) 1 21 := by decide +kernel
theorem dX11_cut_21 : dcd cX11_cut 21 (.aaload) 1 22 := by decide +kernel
theorem dX11_cut_22 : dcd cX11_cut 22 (.astore 4) 2 24 := by decide +kernel
theorem dX11_cut_24 : dcd cX11_cut 24 (.iload_n 3) 1 25 := by decide +kernel
theorem dX11_cut_25 : dcd cX11_cut 25 (.iconst 1) 1 26 := by decide +kernel
theorem dX11_cut_26 : dcb cX11_cut 26 (.if_icmp .lt (24)) (24) 50 29 := by decide +kernel
theorem dX11_cut_29 : dcd cX11_cut 29 (.iload_n 3) 1 30 := by decide +kernel
theorem dX11_cut_30 : dcd cX11_cut 30 (.iload_n 2) 1 31 := by decide +kernel
theorem dX11_cut_31 : dcb cX11_cut 31 (.ifCond .eq (11)) (11) 42 34 := by decide +kernel
theorem dX11_cut_34 : dcd cX11_cut 34 (.aload 4) 2 36 := by decide +kernel
theorem dX11_cut_36 : dcd cX11_cut 36 (.getfield 130) 3 39 := by decide +kernel
theorem dX11_cut_39 : dcb cX11_cut 39 (.goto (8)) (8) 47 42 := by decide +kernel
theorem dX11_cut_42 : dcd cX11_cut 42 (.aload 4) 2 44 := by decide +kernel
theorem dX11_cut_44 : dcd cX11_cut 44 (.getfield 133) 3 47 := by decide +kernel
theorem dX11_cut_47 : dcb cX11_cut 47 (.if_icmp .lt (6)) (6) 53 50 := by decide +kernel
theorem dX11_cut_50 : dcd cX11_cut 50 (.bipush (-2)) 2 52 := by decide +kernel
theorem dX11_cut_52 : decode cX11_cut 52 = .ok (.ireturn, 1) := by decide +kernel
theorem dX11_cut_53 : dcd cX11_cut 53 (.aload_n 0) 1 54 := by decide +kernel
theorem dX11_cut_54 : dcd cX11_cut 54 (.getfield 28) 3 57 := by decide +kernel
theorem dX11_cut_57 : dcd cX11_cut 57 (.iload_n 1) 1 58 := by decide +kernel
theorem dX11_cut_58 : dcd cX11_cut 58 (.iload_n 2) 1 59 := by decide +kernel
theorem dX11_cut_59 : dcd cX11_cut 59 (.iload_n 3) 1 60 := by decide +kernel
theorem dX11_cut_60 : dcd cX11_cut 60 (.invokevirtual 134) 3 63 := by decide +kernel
theorem dX11_cut_63 : decode cX11_cut 63 = .ok (.ireturn, 1) := by decide +kernel
end
section
theorem dX11_about_0 : dcd cX11_about 0 (.aload_n 0) 1 1 := by decide +kernel
theorem dX11_about_1 : dcd cX11_about 1 (.getfield 28) 3 4 := by decide +kernel
theorem dX11_about_4 : dcd cX11_about 4 (.iload_n 1) 1 5 := by decide +kernel
theorem dX11_about_5 : dcd cX11_about 5 (.invokevirtual 138) 3 8 := by decide +kernel
theorem dX11_about_8 : dcb cX11_about 8 (.ifCond .ne (5)) (5) 13 11 := by decide +kernel
theorem dX11_about_11 : dcd cX11_about 11 (.iconst (-1)) 1 12 := by decide +kernel
theorem dX11_about_12 : decode cX11_about 12 = .ok (.ireturn, 1) := by decide +kernel
theorem dX11_about_13 : dcd cX11_about 13 (.aload_n 0) 1 14 := by decide +kernel
theorem dX11_about_14 : dcd cX11_about 14 (.getfield 28) 3 17 := by decide +kernel
theorem dX11_about_17 : dcd cX11_about 17 (.getfield 126) 3 20 := by decide +kernel
theorem dX11_about_20 : dcd cX11_about 20 (.iload_n 1) 1 21 := by decide +kernel
theorem dX11_about_21 : dcd cX11_about 21 (.aaload) 1 22 := by decide +kernel
theorem dX11_about_22 : dcd cX11_about 22 (.astore_n 3) 1 23 := by decide +kernel
theorem dX11_about_23 : dcd cX11_about 23 (.iload_n 2) 1 24 := by decide +kernel
theorem dX11_about_24 : decode cX11_about 24 = .ok (.tableswitch 104 0 7 #[48, 53, 58, 63, 72, 77, 82, 87], 48) := by decide +kernel
theorem dX11_about_72 : dcd cX11_about 72 (.aload_n 3) 1 73 := by decide +kernel
theorem dX11_about_73 : dcd cX11_about 73 (.invokevirtual 141) 3 76 := by decide +kernel
theorem dX11_about_76 : decode cX11_about 76 = .ok (.ireturn, 1) := by decide +kernel
theorem dX11_about_77 : dcd cX11_about 77 (.aload_n 3) 1 78 := by decide +kernel
theorem dX11_about_78 : dcd cX11_about 78 (.getfield 144) 3 81 := by decide +kernel
theorem dX11_about_81 : decode cX11_about 81 = .ok (.ireturn, 1) := by decide +kernel
theorem dX11_about_82 : dcd cX11_about 82 (.aload_n 3) 1 83 := by decide +kernel
theorem dX11_about_83 : dcd cX11_about 83 (.getfield 147) 3 86 := by decide +kernel
theorem dX11_about_86 : decode cX11_about 86 = .ok (.ireturn, 1) := by decide +kernel
theorem dX11_about_87 : dcd cX11_about 87 (.aload_n 3) 1 88 := by decide +kernel
theorem dX11_about_88 : dcd cX11_about 88 (.aload_n 0) 1 89 := by decide +kernel
theorem dX11_about_89 : dcd cX11_about 89 (.getfield 19) 3 92 := by decide +kernel
theorem dX11_about_92 : dcd cX11_about 92 (.invokevirtual 150) 3 95 := by decide +kernel
theorem dX11_about_95 : decode cX11_about 95 = .ok (.ireturn, 1) := by decide +kernel
theorem dX11_about_96 : dcd cX11_about 96 (.aload_n 3) 1 97 := by decide +kernel
theorem dX11_about_97 : dcd cX11_about 97 (.invokevirtual 154) 3 100 := by decide +kernel
theorem dX11_about_100 : decode cX11_about 100 = .ok (.ireturn, 1) := by decide +kernel
theorem dX11_about_101 : dcd cX11_about 101 (.aload_n 3) 1 102 := by decide +kernel
theorem dX11_about_102 : dcd cX11_about 102 (.getfield 157) 3 105 := by decide +kernel
theorem dX11_about_105 : decode cX11_about 105 = .ok (.ireturn, 1) := by decide +kernel
theorem dX11_about_106 : dcd cX11_about 106 (.aload_n 3) 1 107 := by decide +kernel
theorem dX11_about_107 : dcd cX11_about 107 (.getfield 160) 3 110 := by decide +kernel
theorem dX11_about_110 : decode cX11_about 110 = .ok (.ireturn, 1) := by decide +kernel
theorem dX11_about_111 : dcd cX11_about 111 (.aload_n 3) 1 112 := by decide +kernel
theorem dX11_about_112 : dcd cX11_about 112 (.aload_n 0) 1 113 := by decide +kernel
theorem dX11_about_113 : dcd cX11_about 113 (.getfield 19) 3 116 := by decide +kernel
theorem dX11_about_116 : dcd cX11_about 116 (.invokevirtual 163) 3 119 := by decide +kernel
theorem dX11_about_119 : dcb cX11_about 119 (.ifCond .eq (7)) (7) 126 122 := by decide +kernel
theorem dX11_about_122 : dcd cX11_about 122 (.iconst 1) 1 123 := by decide +kernel
theorem dX11_about_123 : dcb cX11_about 123 (.goto (4)) (4) 127 126 := by decide +kernel
theorem dX11_about_126 : dcd cX11_about 126 (.iconst 0) 1 127 := by decide +kernel
theorem dX11_about_127 : decode cX11_about 127 = .ok (.ireturn, 1) := by decide +kernel
theorem dX11_about_128 : dcd cX11_about 128 (.bipush (-2)) 2 130 := by decide +kernel
theorem dX11_about_130 : decode cX11_about 130 = .ok (.ireturn, 1) := by decide +kernel
theorem dX11_weighs_0 : dcd cX11_weighs 0 (.aload_n 0) 1 1 := by decide +kernel
theorem dX11_weighs_1 : dcd cX11_weighs 1 (.getfield 28) 3 4 := by decide +kernel
theorem dX11_weighs_4 : dcd cX11_weighs 4 (.iload_n 1) 1 5 := by decide +kernel
theorem dX11_weighs_5 : dcd cX11_weighs 5 (.invokevirtual 138) 3 8 := by decide +kernel
theorem dX11_weighs_8 : dcb cX11_weighs 8 (.ifCond .eq (18)) (18) 26 11 := by decide +kernel
theorem dX11_weighs_11 : dcd cX11_weighs 11 (.aload_n 0) 1 12 := by decide +kernel
theorem dX11_weighs_12 : dcd cX11_weighs 12 (.getfield 28) 3 15 := by decide +kernel
theorem dX11_weighs_15 : dcd cX11_weighs 15 (.getfield 126) 3 18 := by decide +kernel
theorem dX11_weighs_18 : dcd cX11_weighs 18 (.iload_n 1) 1 19 := by decide +kernel
theorem dX11_weighs_19 : dcd cX11_weighs 19 (.aaload) 1 20 := by decide +kernel
theorem dX11_weighs_20 : dcd cX11_weighs 20 (.invokevirtual 167) 3 23 := by decide +kernel
theorem dX11_weighs_23 : dcb cX11_weighs 23 (.goto (4)) (4) 27 26 := by decide +kernel
theorem dX11_weighs_26 : dcd cX11_weighs 26 (.iconst (-1)) 1 27 := by decide +kernel
theorem dX11_weighs_27 : decode cX11_weighs 27 = .ok (.ireturn, 1) := by decide +kernel
theorem dX11_pass_0 : dcd cX11_pass 0 (.iload_n 1) 1 1 := by decide +kernel
theorem dX11_pass_1 : dcd cX11_pass 1 (.iconst 1) 1 2 := by decide +kernel
theorem dX11_pass_2 : dcb cX11_pass 2 (.if_icmp .lt (25)) (25) 27 5 := by decide +kernel
theorem dX11_pass_5 : dcd cX11_pass 5 (.iload_n 1) 1 6 := by decide +kernel
theorem dX11_pass_6 : dcd cX11_pass 6 (.sipush 999) 3 9 := by decide +kernel
theorem dX11_pass_9 : dcb cX11_pass 9 (.if_icmp .gt (18)) (18) 27 12 := by decide +kernel
theorem dX11_pass_12 : dcd cX11_pass 12 (.aload_n 0) 1 13 := by decide +kernel
theorem dX11_pass_13 : dcd cX11_pass 13 (.getfield 28) 3 16 := by decide +kernel
theorem dX11_pass_16 : dcd cX11_pass 16 (.getfield 170) 3 19 := by decide +kernel
theorem dX11_pass_19 : dcd cX11_pass 19 (.iload_n 1) 1 20 := by decide +kernel
theorem dX11_pass_20 : dcd cX11_pass 20 (.iadd) 1 21 := by decide +kernel
theorem dX11_pass_21 : dcd cX11_pass 21 (.sipush 9999) 3 24 := by decide +kernel
theorem dX11_pass_24 : dcb cX11_pass 24 (.if_icmp .le (6)) (6) 30 27 := by decide +kernel
theorem dX11_pass_27 : dcd cX11_pass 27 (.bipush (-2)) 2 29 := by decide +kernel
theorem dX11_pass_29 : decode cX11_pass 29 = .ok (.ireturn, 1) := by decide +kernel
theorem dX11_pass_30 : dcd cX11_pass 30 (.aload_n 0) 1 31 := by decide +kernel
theorem dX11_pass_31 : dcd cX11_pass 31 (.getfield 28) 3 34 := by decide +kernel
theorem dX11_pass_34 : dcd cX11_pass 34 (.iload_n 1) 1 35 := by decide +kernel
theorem dX11_pass_35 : dcd cX11_pass 35 (.invokevirtual 173) 3 38 := by decide +kernel
theorem dX11_pass_38 : dcd cX11_pass 38 (.aload_n 0) 1 39 := by decide +kernel
theorem dX11_pass_39 : dcd cX11_pass 39 (.getfield 28) 3 42 := by decide +kernel
theorem dX11_pass_42 : dcd cX11_pass 42 (.getfield 170) 3 45 := by decide +kernel
theorem dX11_pass_45 : decode cX11_pass 45 = .ok (.ireturn, 1) := by decide +kernel
theorem dX11_wrap_0 : dcd cX11_wrap 0 (.aload_n 0) 1 1 := by decide +kernel
theorem dX11_wrap_1 : dcd cX11_wrap 1 (.getfield 28) 3 4 := by decide +kernel
theorem dX11_wrap_4 : dcd cX11_wrap 4 (.iload_n 1) 1 5 := by decide +kernel
theorem dX11_wrap_5 : dcd cX11_wrap 5 (.invokevirtual 122) 3 8 := by decide +kernel
theorem dX11_wrap_8 : dcb cX11_wrap 8 (.ifCond .ne (5)) (5) 13 11 := by decide +kernel
theorem dX11_wrap_11 : dcd cX11_wrap 11 (.iconst (-1)) 1 12 := by decide +kernel
theorem dX11_wrap_12 : decode cX11_wrap 12 = .ok (.ireturn, 1) := by decide +kernel
theorem dX11_wrap_13 : dcd cX11_wrap 13 (.iload_n 2) 1 14 := by decide +kernel
theorem dX11_wrap_14 : dcb cX11_wrap 14 (.ifCond .lt (11)) (11) 25 17 := by decide +kernel
theorem dX11_wrap_17 : dcd cX11_wrap 17 (.iload_n 2) 1 18 := by decide +kernel
theorem dX11_wrap_18 : dcd cX11_wrap 18 (.getstatic 177) 3 21 := by decide +kernel
theorem dX11_wrap_21 : dcd cX11_wrap 21 (.arraylength) 1 22 := by decide +kernel
theorem dX11_wrap_22 : dcb cX11_wrap 22 (.if_icmp .lt (6)) (6) 28 25 := by decide +kernel
theorem dX11_wrap_25 : dcd cX11_wrap 25 (.bipush (-2)) 2 27 := by decide +kernel
theorem dX11_wrap_27 : decode cX11_wrap 27 = .ok (.ireturn, 1) := by decide +kernel
theorem dX11_wrap_28 : dcd cX11_wrap 28 (.aload_n 0) 1 29 := by decide +kernel
theorem dX11_wrap_29 : dcd cX11_wrap 29 (.getfield 28) 3 32 := by decide +kernel
theorem dX11_wrap_32 : dcd cX11_wrap 32 (.getfield 126) 3 35 := by decide +kernel
theorem dX11_wrap_35 : dcd cX11_wrap 35 (.iload_n 1) 1 36 := by decide +kernel
theorem dX11_wrap_36 : dcd cX11_wrap 36 (.aaload) 1 37 := by decide +kernel
theorem dX11_wrap_37 : dcd cX11_wrap 37 (.getfield 160) 3 40 := by decide +kernel
theorem dX11_wrap_40 : dcd cX11_wrap 40 (.istore_n 3) 1 41 := by decide +kernel
theorem dX11_wrap_41 : dcd cX11_wrap 41 (.aload_n 0) 1 42 := by decide +kernel
theorem dX11_wrap_42 : dcd cX11_wrap 42 (.getfield 28) 3 45 := by decide +kernel
theorem dX11_wrap_45 : dcd cX11_wrap 45 (.getfield 126) 3 48 := by decide +kernel
theorem dX11_wrap_48 : dcd cX11_wrap 48 (.iload_n 1) 1 49 := by decide +kernel
theorem dX11_wrap_49 : dcd cX11_wrap 49 (.aaload) 1 50 := by decide +kernel
theorem dX11_wrap_50 : dcd cX11_wrap 50 (.iload_n 2) 1 51 := by decide +kernel
theorem dX11_wrap_51 : dcd cX11_wrap 51 (.putfield 160) 3 54 := by decide +kernel
theorem dX11_wrap_54 : dcd cX11_wrap 54 (.iload_n 3) 1 55 := by decide +kernel
theorem dX11_wrap_55 : decode cX11_wrap 55 = .ok (.ireturn, 1) := by decide +kernel
theorem dX11_trim_0 : dcd cX11_trim 0 (.aload_n 0) 1 1 := by decide +kernel
theorem dX11_trim_1 : dcd cX11_trim 1 (.getfield 28) 3 4 := by decide +kernel
theorem dX11_trim_4 : dcd cX11_trim 4 (.iload_n 1) 1 5 := by decide +kernel
theorem dX11_trim_5 : dcd cX11_trim 5 (.invokevirtual 122) 3 8 := by decide +kernel
theorem dX11_trim_8 : dcb cX11_trim 8 (.ifCond .ne (5)) (5) 13 11 := by decide +kernel
theorem dX11_trim_11 : dcd cX11_trim 11 (.iconst (-1)) 1 12 := by decide +kernel
theorem dX11_trim_12 : decode cX11_trim 12 = .ok (.ireturn, 1) := by decide +kernel
theorem dX11_trim_13 : dcd cX11_trim 13 (.aload_n 0) 1 14 := by decide +kernel
theorem dX11_trim_14 : dcd cX11_trim 14 (.getfield 28) 3 17 := by decide +kernel
theorem dX11_trim_17 : dcd cX11_trim 17 (.getfield 126) 3 20 := by decide +kernel
theorem dX11_trim_20 : dcd cX11_trim 20 (.iload_n 1) 1 21 := by decide +kernel
theorem dX11_trim_21 : dcd cX11_trim 21 (.aaload) 1 22 := by decide +kernel
theorem dX11_trim_22 : dcd cX11_trim 22 (.invokevirtual 167) 3 25 := by decide +kernel
theorem dX11_trim_25 : dcd cX11_trim 25 (.istore_n 2) 1 26 := by decide +kernel
theorem dX11_trim_26 : dcd cX11_trim 26 (.aload_n 0) 1 27 := by decide +kernel
theorem dX11_trim_27 : dcd cX11_trim 27 (.getfield 28) 3 30 := by decide +kernel
theorem dX11_trim_30 : dcd cX11_trim 30 (.getfield 126) 3 33 := by decide +kernel
theorem dX11_trim_33 : dcd cX11_trim 33 (.iload_n 1) 1 34 := by decide +kernel
theorem dX11_trim_34 : dcd cX11_trim 34 (.aaload) 1 35 := by decide +kernel
theorem dX11_trim_35 : dcd cX11_trim 35 (.aload_n 0) 1 36 := by decide +kernel
theorem dX11_trim_36 : dcd cX11_trim 36 (.getfield 19) 3 39 := by decide +kernel
theorem dX11_trim_39 : dcd cX11_trim 39 (.invokevirtual 181) 3 42 := by decide +kernel
theorem dX11_trim_42 : dcd cX11_trim 42 (.iload_n 2) 1 43 := by decide +kernel
theorem dX11_trim_43 : dcd cX11_trim 43 (.aload_n 0) 1 44 := by decide +kernel
theorem dX11_trim_44 : dcd cX11_trim 44 (.getfield 28) 3 47 := by decide +kernel
theorem dX11_trim_47 : dcd cX11_trim 47 (.getfield 126) 3 50 := by decide +kernel
theorem dX11_trim_50 : dcd cX11_trim 50 (.iload_n 1) 1 51 := by decide +kernel
theorem dX11_trim_51 : dcd cX11_trim 51 (.aaload) 1 52 := by decide +kernel
theorem dX11_trim_52 : dcd cX11_trim 52 (.invokevirtual 167) 3 55 := by decide +kernel
theorem dX11_trim_55 : dcd cX11_trim 55 (.isub) 1 56 := by decide +kernel
theorem dX11_trim_56 : decode cX11_trim 56 = .ok (.ireturn, 1) := by decide +kernel
theorem dX11_sell_0 : dcd cX11_sell 0 (.aload_n 0) 1 1 := by decide +kernel
theorem dX11_sell_1 : dcd cX11_sell 1 (.getfield 28) 3 4 := by decide +kernel
theorem dX11_sell_4 : dcd cX11_sell 4 (.iload_n 1) 1 5 := by decide +kernel
theorem dX11_sell_5 : dcd cX11_sell 5 (.invokevirtual 122) 3 8 := by decide +kernel
theorem dX11_sell_8 : dcb cX11_sell 8 (.ifCond .ne (5)) (5) 13 11 := by decide +kernel
theorem dX11_sell_11 : dcd cX11_sell 11 (.iconst (-1)) 1 12 := by decide +kernel
theorem dX11_sell_12 : decode cX11_sell 12 = .ok (.ireturn, 1) := by decide +kernel
theorem dX11_sell_13 : dcd cX11_sell 13 (.aload_n 0) 1 14 := by decide +kernel
theorem dX11_sell_14 : dcd cX11_sell 14 (.getfield 28) 3 17 := by decide +kernel
theorem dX11_sell_17 : dcd cX11_sell 17 (.getfield 126) 3 20 := by decide +kernel
theorem dX11_sell_20 : dcd cX11_sell 20 (.iload_n 1) 1 21 := by decide +kernel
theorem dX11_sell_21 : dcd cX11_sell 21 (.aaload) 1 22 := by decide +kernel
theorem dX11_sell_22 : dcd cX11_sell 22 (.iload_n 2) 1 23 := by decide +kernel
theorem dX11_sell_23 : dcb cX11_sell 23 (.ifCond .eq (7)) (7) 30 26 := by decide +kernel
theorem dX11_sell_26 : dcd cX11_sell 26 (.iconst 2) 1 27 := by decide +kernel
theorem dX11_sell_27 : dcb cX11_sell 27 (.goto (4)) (4) 31 30 := by decide +kernel
theorem dX11_sell_30 : dcd cX11_sell 30 (.iconst 1) 1 31 := by decide +kernel
theorem dX11_sell_31 : dcd cX11_sell 31 (.putfield 144) 3 34 := by decide +kernel
theorem dX11_sell_34 : dcd cX11_sell 34 (.aload_n 0) 1 35 := by decide +kernel
theorem dX11_sell_35 : dcd cX11_sell 35 (.getfield 28) 3 38 := by decide +kernel
theorem dX11_sell_38 : dcd cX11_sell 38 (.getfield 126) 3 41 := by decide +kernel
theorem dX11_sell_41 : dcd cX11_sell 41 (.iload_n 1) 1 42 := by decide +kernel
theorem dX11_sell_42 : dcd cX11_sell 42 (.aaload) 1 43 := by decide +kernel
theorem dX11_sell_43 : dcd cX11_sell 43 (.invokevirtual 167) 3 46 := by decide +kernel
theorem dX11_sell_46 : decode cX11_sell 46 = .ok (.ireturn, 1) := by decide +kernel
theorem dX11_serves_0 : dcd cX11_serves 0 (.aload_n 0) 1 1 := by decide +kernel
theorem dX11_serves_1 : dcd cX11_serves 1 (.getfield 28) 3 4 := by decide +kernel
theorem dX11_serves_4 : dcd cX11_serves 4 (.iload_n 1) 1 5 := by decide +kernel
theorem dX11_serves_5 : dcd cX11_serves 5 (.invokevirtual 138) 3 8 := by decide +kernel
theorem dX11_serves_8 : dcb cX11_serves 8 (.ifCond .ne (5)) (5) 13 11 := by decide +kernel
theorem dX11_serves_11 : dcd cX11_serves 11 (.iconst (-1)) 1 12 := by decide +kernel
theorem dX11_serves_12 : decode cX11_serves 12 = .ok (.ireturn, 1) := by decide +kernel
theorem dX11_serves_13 : dcd cX11_serves 13 (.iload_n 2) 1 14 := by decide +kernel
theorem dX11_serves_14 : dcd cX11_serves 14 (.iload_n 3) 1 15 := by decide +kernel
theorem dX11_serves_15 : dcd cX11_serves 15 (.iload 4) 2 17 := by decide +kernel
theorem dX11_serves_17 : dcd cX11_serves 17 (.invokestatic 184) 3 20 := by decide +kernel
theorem dX11_serves_20 : dcb cX11_serves 20 (.ifCond .ne (6)) (6) 26 23 := by decide +kernel
theorem dX11_serves_23 : dcd cX11_serves 23 (.bipush (-2)) 2 25 := by decide +kernel
theorem dX11_serves_25 : decode cX11_serves 25 = .ok (.ireturn, 1) := by decide +kernel
theorem dX11_serves_26 : dcd cX11_serves 26 (.new 188) 3 29 := by decide +kernel
theorem dX11_serves_29 : dcd cX11_serves 29 (.dup) 1 30 := by decide +kernel
theorem dX11_serves_30 : dcd cX11_serves 30 (.iload_n 2) 1 31 := by decide +kernel
theorem dX11_serves_31 : dcd cX11_serves 31 (.iload_n 3) 1 32 := by decide +kernel
theorem dX11_serves_32 : dcd cX11_serves 32 (.iload 4) 2 34 := by decide +kernel
theorem dX11_serves_34 : dcd cX11_serves 34 (.invokespecial 190) 3 37 := by decide +kernel
theorem dX11_serves_37 : dcd cX11_serves 37 (.aload_n 0) 1 38 := by decide +kernel
theorem dX11_serves_38 : dcd cX11_serves 38 (.getfield 28) 3 41 := by decide +kernel
theorem dX11_serves_41 : dcd cX11_serves 41 (.getfield 126) 3 44 := by decide +kernel
theorem dX11_serves_44 : dcd cX11_serves 44 (.iload_n 1) 1 45 := by decide +kernel
theorem dX11_serves_45 : dcd cX11_serves 45 (.aaload) 1 46 := by decide +kernel
theorem dX11_serves_46 : dcd cX11_serves 46 (.invokevirtual 193) 3 49 := by decide +kernel
theorem dX11_serves_49 : dcb cX11_serves 49 (.ifCond .eq (7)) (7) 56 52 := by decide +kernel
theorem dX11_serves_52 : dcd cX11_serves 52 (.iconst 1) 1 53 := by decide +kernel
theorem dX11_serves_53 : dcb cX11_serves 53 (.goto (4)) (4) 57 56 := by decide +kernel
theorem dX11_serves_56 : dcd cX11_serves 56 (.iconst 0) 1 57 := by decide +kernel
theorem dX11_serves_57 : decode cX11_serves 57 = .ok (.ireturn, 1) := by decide +kernel
theorem dX11_stands_0 : dcd cX11_stands 0 (.iload_n 1) 1 1 := by decide +kernel
theorem dX11_stands_1 : dcd cX11_stands 1 (.iload_n 2) 1 2 := by decide +kernel
theorem dX11_stands_2 : dcd cX11_stands 2 (.iload_n 3) 1 3 := by decide +kernel
theorem dX11_stands_3 : dcd cX11_stands 3 (.invokestatic 184) 3 6 := by decide +kernel
theorem dX11_stands_6 : dcb cX11_stands 6 (.ifCond .eq (23)) (23) 29 9 := by decide +kernel
theorem dX11_stands_9 : dcd cX11_stands 9 (.aload_n 0) 1 10 := by decide +kernel
theorem dX11_stands_10 : dcd cX11_stands 10 (.getfield 41) 3 13 := by decide +kernel
theorem dX11_stands_13 : dcd cX11_stands 13 (.new 188) 3 16 := by decide +kernel
theorem dX11_stands_16 : dcd cX11_stands 16 (.dup) 1 17 := by decide +kernel
theorem dX11_stands_17 : dcd cX11_stands 17 (.iload_n 1) 1 18 := by decide +kernel
theorem dX11_stands_18 : dcd cX11_stands 18 (.iload_n 2) 1 19 := by decide +kernel
theorem dX11_stands_19 : dcd cX11_stands 19 (.iload_n 3) 1 20 := by decide +kernel
theorem dX11_stands_20 : dcd cX11_stands 20 (.invokespecial 190) 3 23 := by decide +kernel
theorem dX11_stands_23 : dcd cX11_stands 23 (.invokevirtual 197) 3 26 := by decide +kernel
theorem dX11_stands_26 : dcb cX11_stands 26 (.goto (5)) (5) 31 29 := by decide +kernel
theorem dX11_stands_29 : dcd cX11_stands 29 (.bipush (-2)) 2 31 := by decide +kernel
theorem dX11_stands_31 : decode cX11_stands 31 = .ok (.ireturn, 1) := by decide +kernel
theorem dX11_next_0 : dcd cX11_next 0 (.iload_n 1) 1 1 := by decide +kernel
theorem dX11_next_1 : dcd cX11_next 1 (.iload_n 2) 1 2 := by decide +kernel
theorem dX11_next_2 : dcd cX11_next 2 (.iload_n 3) 1 3 := by decide +kernel
theorem dX11_next_3 : dcd cX11_next 3 (.invokestatic 184) 3 6 := by decide +kernel
theorem dX11_next_6 : dcb cX11_next 6 (.ifCond .ne (6)) (6) 12 9 := by decide +kernel
theorem dX11_next_9 : dcd cX11_next 9 (.bipush (-2)) 2 11 := by decide +kernel
theorem dX11_next_11 : decode cX11_next 11 = .ok (.ireturn, 1) := by decide +kernel
theorem dX11_next_12 : dcd cX11_next 12 (.new 188) 3 15 := by decide +kernel
theorem dX11_next_15 : dcd cX11_next 15 (.dup) 1 16 := by decide +kernel
theorem dX11_next_16 : dcd cX11_next 16 (.iload_n 1) 1 17 := by decide +kernel
theorem dX11_next_17 : dcd cX11_next 17 (.iload_n 2) 1 18 := by decide +kernel
theorem dX11_next_18 : dcd cX11_next 18 (.iload_n 3) 1 19 := by decide +kernel
theorem dX11_next_19 : dcd cX11_next 19 (.invokespecial 190) 3 22 := by decide +kernel
theorem dX11_next_22 : dcd cX11_next 22 (.astore 4) 2 24 := by decide +kernel
theorem dX11_next_24 : dcd cX11_next 24 (.aload_n 0) 1 25 := by decide +kernel
theorem dX11_next_25 : dcd cX11_next 25 (.getfield 41) 3 28 := by decide +kernel
theorem dX11_next_28 : dcd cX11_next 28 (.aload 4) 2 30 := by decide +kernel
theorem dX11_next_30 : dcd cX11_next 30 (.invokevirtual 197) 3 33 := by decide +kernel
theorem dX11_next_33 : dcd cX11_next 33 (.bipush (-9)) 2 35 := by decide +kernel
theorem dX11_next_35 : dcb cX11_next 35 (.if_icmp .ne (15)) (15) 50 38 := by decide +kernel
theorem dX11_next_38 : dcd cX11_next 38 (.aload_n 0) 1 39 := by decide +kernel
theorem dX11_next_39 : dcd cX11_next 39 (.getfield 41) 3 42 := by decide +kernel
theorem dX11_next_42 : dcd cX11_next 42 (.aload 4) 2 44 := by decide +kernel
theorem dX11_next_44 : dcd cX11_next 44 (.invokevirtual 201) 3 47 := by decide +kernel
theorem dX11_next_47 : dcb cX11_next 47 (.goto (5)) (5) 52 50 := by decide +kernel
theorem dX11_next_50 : dcd cX11_next 50 (.bipush (-9)) 2 52 := by decide +kernel
theorem dX11_next_52 : decode cX11_next 52 = .ok (.ireturn, 1) := by decide +kernel
theorem dX11_serve_0 : dcd cX11_serve 0 (.iload_n 1) 1 1 := by decide +kernel
theorem dX11_serve_1 : dcd cX11_serve 1 (.iload_n 2) 1 2 := by decide +kernel
theorem dX11_serve_2 : dcd cX11_serve 2 (.iload_n 3) 1 3 := by decide +kernel
theorem dX11_serve_3 : dcd cX11_serve 3 (.invokestatic 184) 3 6 := by decide +kernel
theorem dX11_serve_6 : dcb cX11_serve 6 (.ifCond .ne (6)) (6) 12 9 := by decide +kernel
theorem dX11_serve_9 : dcd cX11_serve 9 (.bipush (-2)) 2 11 := by decide +kernel
theorem dX11_serve_11 : decode cX11_serve 11 = .ok (.ireturn, 1) := by decide +kernel
theorem dX11_serve_12 : dcd cX11_serve 12 (.new 188) 3 15 := by decide +kernel
theorem dX11_serve_15 : dcd cX11_serve 15 (.dup) 1 16 := by decide +kernel
theorem dX11_serve_16 : dcd cX11_serve 16 (.iload_n 1) 1 17 := by decide +kernel
theorem dX11_serve_17 : dcd cX11_serve 17 (.iload_n 2) 1 18 := by decide +kernel
theorem dX11_serve_18 : dcd cX11_serve 18 (.iload_n 3) 1 19 := by decide +kernel
theorem dX11_serve_19 : dcd cX11_serve 19 (.invokespecial 190) 3 22 := by decide +kernel
theorem dX11_serve_22 : dcd cX11_serve 22 (.astore 4) 2 24 := by decide +kernel
theorem dX11_serve_24 : dcd cX11_serve 24 (.aload_n 0) 1 25 := by decide +kernel
theorem dX11_serve_25 : dcd cX11_serve 25 (.getfield 41) 3 28 := by decide +kernel
theorem dX11_serve_28 : dcd cX11_serve 28 (.aload 4) 2 30 := by decide +kernel
theorem dX11_serve_30 : dcd cX11_serve 30 (.invokevirtual 197) 3 33 := by decide +kernel
theorem dX11_serve_33 : dcd cX11_serve 33 (.istore 5) 2 35 := by decide +kernel
theorem dX11_serve_35 : dcd cX11_serve 35 (.iload 5) 2 37 := by decide +kernel
theorem dX11_serve_37 : dcd cX11_serve 37 (.bipush (-9)) 2 39 := by decide +kernel
theorem dX11_serve_39 : dcb cX11_serve 39 (.if_icmp .ne (21)) (21) 60 42 := by decide +kernel
theorem dX11_serve_42 : dcd cX11_serve 42 (.aload_n 0) 1 43 := by decide +kernel
theorem dX11_serve_43 : dcd cX11_serve 43 (.getfield 41) 3 46 := by decide +kernel
theorem dX11_serve_46 : dcd cX11_serve 46 (.aload_n 0) 1 47 := by decide +kernel
theorem dX11_serve_47 : dcd cX11_serve 47 (.getfield 41) 3 50 := by decide +kernel
theorem dX11_serve_50 : dcd cX11_serve 50 (.aload 4) 2 52 := by decide +kernel
theorem dX11_serve_52 : dcd cX11_serve 52 (.invokevirtual 201) 3 55 := by decide +kernel
theorem dX11_serve_55 : dcd cX11_serve 55 (.invokevirtual 204) 3 58 := by decide +kernel
theorem dX11_serve_58 : dcd cX11_serve 58 (.istore 5) 2 60 := by decide +kernel
theorem dX11_serve_60 : dcd cX11_serve 60 (.aload_n 0) 1 61 := by decide +kernel
theorem dX11_serve_61 : dcd cX11_serve 61 (.getfield 28) 3 64 := by decide +kernel
theorem dX11_serve_64 : dcd cX11_serve 64 (.iload 5) 2 66 := by decide +kernel
theorem dX11_serve_66 : dcd cX11_serve 66 (.invokevirtual 122) 3 69 := by decide +kernel
theorem dX11_serve_69 : dcb cX11_serve 69 (.ifCond .ne (6)) (6) 75 72 := by decide +kernel
theorem dX11_serve_72 : dcd cX11_serve 72 (.bipush (-9)) 2 74 := by decide +kernel
theorem dX11_serve_74 : decode cX11_serve 74 = .ok (.ireturn, 1) := by decide +kernel
theorem dX11_serve_75 : dcd cX11_serve 75 (.aload_n 0) 1 76 := by decide +kernel
theorem dX11_serve_76 : dcd cX11_serve 76 (.getfield 28) 3 79 := by decide +kernel
theorem dX11_serve_79 : dcd cX11_serve 79 (.getfield 126) 3 82 := by decide +kernel
theorem dX11_serve_82 : dcd cX11_serve 82 (.iload 5) 2 84 := by decide +kernel
theorem dX11_serve_84 : dcd cX11_serve 84 (.aaload) 1 85 := by decide +kernel
theorem dX11_serve_85 : dcd cX11_serve 85 (.iconst 1) 1 86 := by decide +kernel
theorem dX11_serve_86 : dcd cX11_serve 86 (.putfield 144) 3 89 := by decide +kernel
theorem dX11_serve_89 : dcd cX11_serve 89 (.iload 5) 2 91 := by decide +kernel
theorem dX11_serve_91 : decode cX11_serve 91 = .ok (.ireturn, 1) := by decide +kernel
theorem dX11_two_0 : dcd cX11_two 0 (.iload_n 1) 1 1 := by decide +kernel
theorem dX11_two_1 : dcd cX11_two 1 (.iload_n 2) 1 2 := by decide +kernel
theorem dX11_two_2 : dcd cX11_two 2 (.iload 5) 2 4 := by decide +kernel
theorem dX11_two_4 : dcd cX11_two 4 (.invokestatic 184) 3 7 := by decide +kernel
theorem dX11_two_7 : dcb cX11_two 7 (.ifCond .eq (14)) (14) 21 10 := by decide +kernel
theorem dX11_two_10 : dcd cX11_two 10 (.iload_n 3) 1 11 := by decide +kernel
theorem dX11_two_11 : dcd cX11_two 11 (.iload 4) 2 13 := by decide +kernel
theorem dX11_two_13 : dcd cX11_two 13 (.iload 5) 2 15 := by decide +kernel
theorem dX11_two_15 : dcd cX11_two 15 (.invokestatic 184) 3 18 := by decide +kernel
theorem dX11_two_18 : dcb cX11_two 18 (.ifCond .ne (6)) (6) 24 21 := by decide +kernel
theorem dX11_two_21 : dcd cX11_two 21 (.bipush (-2)) 2 23 := by decide +kernel
theorem dX11_two_23 : decode cX11_two 23 = .ok (.ireturn, 1) := by decide +kernel
theorem dX11_two_24 : dcd cX11_two 24 (.aload_n 0) 1 25 := by decide +kernel
theorem dX11_two_25 : dcd cX11_two 25 (.getfield 41) 3 28 := by decide +kernel
theorem dX11_two_28 : dcd cX11_two 28 (.new 188) 3 31 := by decide +kernel
theorem dX11_two_31 : dcd cX11_two 31 (.dup) 1 32 := by decide +kernel
theorem dX11_two_32 : dcd cX11_two 32 (.iload_n 1) 1 33 := by decide +kernel
theorem dX11_two_33 : dcd cX11_two 33 (.iload_n 2) 1 34 := by decide +kernel
theorem dX11_two_34 : dcd cX11_two 34 (.iload 5) 2 36 := by decide +kernel
theorem dX11_two_36 : dcd cX11_two 36 (.invokespecial 190) 3 39 := by decide +kernel
theorem dX11_two_39 : dcd cX11_two 39 (.new 188) 3 42 := by decide +kernel
theorem dX11_two_42 : dcd cX11_two 42 (.dup) 1 43 := by decide +kernel
theorem dX11_two_43 : dcd cX11_two 43 (.iload_n 3) 1 44 := by decide +kernel
theorem dX11_two_44 : dcd cX11_two 44 (.iload 4) 2 46 := by decide +kernel
theorem dX11_two_46 : dcd cX11_two 46 (.iload 5) 2 48 := by decide +kernel
theorem dX11_two_48 : dcd cX11_two 48 (.invokespecial 190) 3 51 := by decide +kernel
theorem dX11_two_51 : dcd cX11_two 51 (.invokevirtual 208) 3 54 := by decide +kernel
theorem dX11_two_54 : dcd cX11_two 54 (.aload_n 0) 1 55 := by decide +kernel
theorem dX11_two_55 : dcd cX11_two 55 (.getfield 41) 3 58 := by decide +kernel
theorem dX11_two_58 : dcd cX11_two 58 (.getfield 212) 3 61 := by decide +kernel
theorem dX11_two_61 : dcd cX11_two 61 (.ldc 215) 2 63 := by decide +kernel
theorem dX11_two_63 : dcb cX11_two 63 (.if_icmp .ge (13)) (13) 76 66 := by decide +kernel
theorem dX11_two_66 : dcd cX11_two 66 (.aload_n 0) 1 67 := by decide +kernel
theorem dX11_two_67 : dcd cX11_two 67 (.getfield 41) 3 70 := by decide +kernel
theorem dX11_two_70 : dcd cX11_two 70 (.getfield 212) 3 73 := by decide +kernel
theorem dX11_two_73 : dcb cX11_two 73 (.goto (5)) (5) 78 76 := by decide +kernel
theorem dX11_two_76 : dcd cX11_two 76 (.bipush (-9)) 2 78 := by decide +kernel
theorem dX11_two_78 : decode cX11_two 78 = .ok (.ireturn, 1) := by decide +kernel
theorem dX11_twoFirst_0 : dcd cX11_twoFirst 0 (.iload_n 1) 1 1 := by decide +kernel
theorem dX11_twoFirst_1 : dcd cX11_twoFirst 1 (.iload_n 2) 1 2 := by decide +kernel
theorem dX11_twoFirst_2 : dcd cX11_twoFirst 2 (.iload 5) 2 4 := by decide +kernel
theorem dX11_twoFirst_4 : dcd cX11_twoFirst 4 (.invokestatic 184) 3 7 := by decide +kernel
theorem dX11_twoFirst_7 : dcb cX11_twoFirst 7 (.ifCond .eq (14)) (14) 21 10 := by decide +kernel
theorem dX11_twoFirst_10 : dcd cX11_twoFirst 10 (.iload_n 3) 1 11 := by decide +kernel
theorem dX11_twoFirst_11 : dcd cX11_twoFirst 11 (.iload 4) 2 13 := by decide +kernel
theorem dX11_twoFirst_13 : dcd cX11_twoFirst 13 (.iload 5) 2 15 := by decide +kernel
theorem dX11_twoFirst_15 : dcd cX11_twoFirst 15 (.invokestatic 184) 3 18 := by decide +kernel
theorem dX11_twoFirst_18 : dcb cX11_twoFirst 18 (.ifCond .ne (6)) (6) 24 21 := by decide +kernel
theorem dX11_twoFirst_21 : dcd cX11_twoFirst 21 (.bipush (-2)) 2 23 := by decide +kernel
theorem dX11_twoFirst_23 : decode cX11_twoFirst 23 = .ok (.ireturn, 1) := by decide +kernel
theorem dX11_twoFirst_24 : dcd cX11_twoFirst 24 (.aload_n 0) 1 25 := by decide +kernel
theorem dX11_twoFirst_25 : dcd cX11_twoFirst 25 (.getfield 41) 3 28 := by decide +kernel
theorem dX11_twoFirst_28 : dcd cX11_twoFirst 28 (.new 188) 3 31 := by decide +kernel
theorem dX11_twoFirst_31 : dcd cX11_twoFirst 31 (.dup) 1 32 := by decide +kernel
theorem dX11_twoFirst_32 : dcd cX11_twoFirst 32 (.iload_n 1) 1 33 := by decide +kernel
theorem dX11_twoFirst_33 : dcd cX11_twoFirst 33 (.iload_n 2) 1 34 := by decide +kernel
theorem dX11_twoFirst_34 : dcd cX11_twoFirst 34 (.iload 5) 2 36 := by decide +kernel
theorem dX11_twoFirst_36 : dcd cX11_twoFirst 36 (.invokespecial 190) 3 39 := by decide +kernel
theorem dX11_twoFirst_39 : dcd cX11_twoFirst 39 (.new 188) 3 42 := by decide +kernel
theorem dX11_twoFirst_42 : dcd cX11_twoFirst 42 (.dup) 1 43 := by decide +kernel
theorem dX11_twoFirst_43 : dcd cX11_twoFirst 43 (.iload_n 3) 1 44 := by decide +kernel
theorem dX11_twoFirst_44 : dcd cX11_twoFirst 44 (.iload 4) 2 46 := by decide +kernel
theorem dX11_twoFirst_46 : dcd cX11_twoFirst 46 (.iload 5) 2 48 := by decide +kernel
theorem dX11_twoFirst_48 : dcd cX11_twoFirst 48 (.invokespecial 190) 3 51 := by decide +kernel
theorem dX11_twoFirst_51 : dcd cX11_twoFirst 51 (.invokevirtual 208) 3 54 := by decide +kernel
theorem dX11_twoFirst_54 : dcd cX11_twoFirst 54 (.aload_n 0) 1 55 := by decide +kernel
theorem dX11_twoFirst_55 : dcd cX11_twoFirst 55 (.getfield 41) 3 58 := by decide +kernel
theorem dX11_twoFirst_58 : dcd cX11_twoFirst 58 (.getfield 216) 3 61 := by decide +kernel
theorem dX11_twoFirst_61 : decode cX11_twoFirst 61 = .ok (.ireturn, 1) := by decide +kernel
theorem dX11_order_0 : dcd cX11_order 0 (.iload_n 1) 1 1 := by decide +kernel
theorem dX11_order_1 : dcd cX11_order 1 (.iload_n 2) 1 2 := by decide +kernel
theorem dX11_order_2 : dcd cX11_order 2 (.iload_n 3) 1 3 := by decide +kernel
theorem dX11_order_3 : dcd cX11_order 3 (.invokestatic 184) 3 6 := by decide +kernel
theorem dX11_order_6 : dcb cX11_order 6 (.ifCond .ne (6)) (6) 12 9 := by decide +kernel
theorem dX11_order_9 : dcd cX11_order 9 (.bipush (-2)) 2 11 := by decide +kernel
theorem dX11_order_11 : decode cX11_order 11 = .ok (.ireturn, 1) := by decide +kernel
theorem dX11_order_12 : dcd cX11_order 12 (.aload_n 0) 1 13 := by decide +kernel
theorem dX11_order_13 : dcd cX11_order 13 (.getfield 48) 3 16 := by decide +kernel
theorem dX11_order_16 : dcd cX11_order 16 (.getfield 219) 3 19 := by decide +kernel
theorem dX11_order_19 : dcd cX11_order 19 (.iconst 4) 1 20 := by decide +kernel
theorem dX11_order_20 : dcb cX11_order 20 (.if_icmp .lt (6)) (6) 26 23 := by decide +kernel
theorem dX11_order_23 : dcd cX11_order 23 (.bipush (-4)) 2 25 := by decide +kernel
theorem dX11_order_25 : decode cX11_order 25 = .ok (.ireturn, 1) := by decide +kernel
theorem dX11_order_26 : dcd cX11_order 26 (.aload_n 0) 1 27 := by decide +kernel
theorem dX11_order_27 : dcd cX11_order 27 (.getfield 48) 3 30 := by decide +kernel
theorem dX11_order_30 : dcd cX11_order 30 (.new 188) 3 33 := by decide +kernel
theorem dX11_order_33 : dcd cX11_order 33 (.dup) 1 34 := by decide +kernel
theorem dX11_order_34 : dcd cX11_order 34 (.iload_n 1) 1 35 := by decide +kernel
theorem dX11_order_35 : dcd cX11_order 35 (.iload_n 2) 1 36 := by decide +kernel
theorem dX11_order_36 : dcd cX11_order 36 (.iload_n 3) 1 37 := by decide +kernel
theorem dX11_order_37 : dcd cX11_order 37 (.invokespecial 190) 3 40 := by decide +kernel
theorem dX11_order_40 : dcd cX11_order 40 (.invokevirtual 222) 3 43 := by decide +kernel
theorem dX11_order_43 : dcd cX11_order 43 (.aload_n 0) 1 44 := by decide +kernel
theorem dX11_order_44 : dcd cX11_order 44 (.getfield 48) 3 47 := by decide +kernel
theorem dX11_order_47 : dcd cX11_order 47 (.getfield 219) 3 50 := by decide +kernel
theorem dX11_order_50 : decode cX11_order 50 = .ok (.ireturn, 1) := by decide +kernel
theorem dX11_unorder_0 : dcd cX11_unorder 0 (.aload_n 0) 1 1 := by decide +kernel
theorem dX11_unorder_1 : dcd cX11_unorder 1 (.getfield 48) 3 4 := by decide +kernel
theorem dX11_unorder_4 : dcd cX11_unorder 4 (.getfield 219) 3 7 := by decide +kernel
theorem dX11_unorder_7 : dcd cX11_unorder 7 (.istore_n 1) 1 8 := by decide +kernel
theorem dX11_unorder_8 : dcd cX11_unorder 8 (.aload_n 0) 1 9 := by decide +kernel
theorem dX11_unorder_9 : dcd cX11_unorder 9 (.getfield 48) 3 12 := by decide +kernel
theorem dX11_unorder_12 : dcd cX11_unorder 12 (.invokevirtual 226) 3 15 := by decide +kernel
theorem dX11_unorder_15 : dcd cX11_unorder 15 (.iload_n 1) 1 16 := by decide +kernel
theorem dX11_unorder_16 : decode cX11_unorder 16 = .ok (.ireturn, 1) := by decide +kernel
theorem dX11_whole_0 : dcd cX11_whole 0 (.aload_n 0) 1 1 := by decide +kernel
theorem dX11_whole_1 : dcd cX11_whole 1 (.getfield 48) 3 4 := by decide +kernel
theorem dX11_whole_4 : dcd cX11_whole 4 (.invokevirtual 227) 3 7 := by decide +kernel
theorem dX11_whole_7 : dcd cX11_whole 7 (.istore_n 1) 1 8 := by decide +kernel
theorem dX11_whole_8 : dcd cX11_whole 8 (.iload_n 1) 1 9 := by decide +kernel
theorem dX11_whole_9 : dcd cX11_whole 9 (.ldc 215) 2 11 := by decide +kernel
theorem dX11_whole_11 : dcb cX11_whole 11 (.if_icmp .ge (7)) (7) 18 14 := by decide +kernel
theorem dX11_whole_14 : dcd cX11_whole 14 (.iload_n 1) 1 15 := by decide +kernel
theorem dX11_whole_15 : dcb cX11_whole 15 (.goto (5)) (5) 20 18 := by decide +kernel
theorem dX11_whole_18 : dcd cX11_whole 18 (.bipush (-9)) 2 20 := by decide +kernel
theorem dX11_whole_20 : decode cX11_whole 20 = .ok (.ireturn, 1) := by decide +kernel
theorem dX11_first_0 : dcd cX11_first 0 (.aload_n 0) 1 1 := by decide +kernel
theorem dX11_first_1 : dcd cX11_first 1 (.getfield 48) 3 4 := by decide +kernel
theorem dX11_first_4 : dcd cX11_first 4 (.aload_n 0) 1 5 := by decide +kernel
theorem dX11_first_5 : dcd cX11_first 5 (.getfield 48) 3 8 := by decide +kernel
theorem dX11_first_8 : dcd cX11_first 8 (.invokevirtual 227) 3 11 := by decide +kernel
theorem dX11_first_11 : dcd cX11_first 11 (.invokevirtual 230) 3 14 := by decide +kernel
theorem dX11_first_14 : decode cX11_first 14 = .ok (.ireturn, 1) := by decide +kernel
theorem dX11_fair_0 : dcd cX11_fair 0 (.iload_n 1) 1 1 := by decide +kernel
theorem dX11_fair_1 : dcd cX11_fair 1 (.iconst 1) 1 2 := by decide +kernel
theorem dX11_fair_2 : dcb cX11_fair 2 (.if_icmp .lt (9)) (9) 11 5 := by decide +kernel
theorem dX11_fair_5 : dcd cX11_fair 5 (.iload_n 1) 1 6 := by decide +kernel
theorem dX11_fair_6 : dcd cX11_fair 6 (.bipush 36) 2 8 := by decide +kernel
theorem dX11_fair_8 : dcb cX11_fair 8 (.if_icmp .le (6)) (6) 14 11 := by decide +kernel
theorem dX11_fair_11 : dcd cX11_fair 11 (.bipush (-2)) 2 13 := by decide +kernel
theorem dX11_fair_13 : decode cX11_fair 13 = .ok (.ireturn, 1) := by decide +kernel
theorem dX11_fair_14 : dcd cX11_fair 14 (.aload_n 0) 1 15 := by decide +kernel
theorem dX11_fair_15 : dcd cX11_fair 15 (.getfield 55) 3 18 := by decide +kernel
theorem dX11_fair_18 : dcd cX11_fair 18 (.iload_n 1) 1 19 := by decide +kernel
theorem dX11_fair_19 : dcd cX11_fair 19 (.invokevirtual 233) 3 22 := by decide +kernel
theorem dX11_fair_22 : dcd cX11_fair 22 (.istore_n 2) 1 23 := by decide +kernel
theorem dX11_fair_23 : dcd cX11_fair 23 (.iload_n 2) 1 24 := by decide +kernel
theorem dX11_fair_24 : dcd cX11_fair 24 (.ldc 215) 2 26 := by decide +kernel
theorem dX11_fair_26 : dcb cX11_fair 26 (.if_icmp .ge (7)) (7) 33 29 := by decide +kernel
theorem dX11_fair_29 : dcd cX11_fair 29 (.iload_n 2) 1 30 := by decide +kernel
theorem dX11_fair_30 : dcb cX11_fair 30 (.goto (5)) (5) 35 33 := by decide +kernel
theorem dX11_fair_33 : dcd cX11_fair 33 (.bipush (-9)) 2 35 := by decide +kernel
theorem dX11_fair_35 : decode cX11_fair 35 = .ok (.ireturn, 1) := by decide +kernel
theorem dX11_left_0 : dcd cX11_left 0 (.iload_n 1) 1 1 := by decide +kernel
theorem dX11_left_1 : dcd cX11_left 1 (.sipush 1000) 3 4 := by decide +kernel
theorem dX11_left_4 : dcd cX11_left 4 (.idiv) 1 5 := by decide +kernel
theorem dX11_left_5 : dcd cX11_left 5 (.istore_n 2) 1 6 := by decide +kernel
theorem dX11_left_6 : dcd cX11_left 6 (.iload_n 1) 1 7 := by decide +kernel
theorem dX11_left_7 : dcd cX11_left 7 (.bipush 100) 2 9 := by decide +kernel
theorem dX11_left_9 : dcd cX11_left 9 (.idiv) 1 10 := by decide +kernel
theorem dX11_left_10 : dcd cX11_left 10 (.bipush 10) 2 12 := by decide +kernel
theorem dX11_left_12 : dcd cX11_left 12 (.irem) 1 13 := by decide +kernel
theorem dX11_left_13 : dcd cX11_left 13 (.istore_n 3) 1 14 := by decide +kernel
theorem dX11_left_14 : dcd cX11_left 14 (.iload_n 1) 1 15 := by decide +kernel
theorem dX11_left_15 : dcd cX11_left 15 (.bipush 10) 2 17 := by decide +kernel
theorem dX11_left_17 : dcd cX11_left 17 (.idiv) 1 18 := by decide +kernel
theorem dX11_left_18 : dcd cX11_left 18 (.bipush 10) 2 20 := by decide +kernel
theorem dX11_left_20 : dcd cX11_left 20 (.irem) 1 21 := by decide +kernel
theorem dX11_left_21 : dcd cX11_left 21 (.istore 4) 2 23 := by decide +kernel
theorem dX11_left_23 : dcd cX11_left 23 (.iload_n 1) 1 24 := by decide +kernel
theorem dX11_left_24 : dcd cX11_left 24 (.bipush 10) 2 26 := by decide +kernel
theorem dX11_left_26 : dcd cX11_left 26 (.irem) 1 27 := by decide +kernel
theorem dX11_left_27 : dcd cX11_left 27 (.istore 5) 2 29 := by decide +kernel
theorem dX11_left_29 : dcd cX11_left 29 (.aload_n 0) 1 30 := by decide +kernel
theorem dX11_left_30 : dcd cX11_left 30 (.getfield 19) 3 33 := by decide +kernel
theorem dX11_left_33 : dcd cX11_left 33 (.iload_n 2) 1 34 := by decide +kernel
theorem dX11_left_34 : dcd cX11_left 34 (.iload_n 3) 1 35 := by decide +kernel
theorem dX11_left_35 : dcd cX11_left 35 (.iload 4) 2 37 := by decide +kernel
theorem dX11_left_37 : dcd cX11_left 37 (.iload 5) 2 39 := by decide +kernel
theorem dX11_left_39 : dcd cX11_left 39 (.invokevirtual 114) 3 42 := by decide +kernel
theorem dX11_left_42 : dcb cX11_left 42 (.ifCond .ne (5)) (5) 47 45 := by decide +kernel
theorem dX11_left_45 : dcd cX11_left 45 (.iconst (-1)) 1 46 := by decide +kernel
theorem dX11_left_46 : decode cX11_left 46 = .ok (.ireturn, 1) := by decide +kernel
theorem dX11_left_47 : dcd cX11_left 47 (.aload_n 0) 1 48 := by decide +kernel
theorem dX11_left_48 : dcd cX11_left 48 (.getfield 62) 3 51 := by decide +kernel
theorem dX11_left_51 : dcd cX11_left 51 (.iload_n 2) 1 52 := by decide +kernel
theorem dX11_left_52 : dcd cX11_left 52 (.iload_n 3) 1 53 := by decide +kernel
theorem dX11_left_53 : dcd cX11_left 53 (.iload 4) 2 55 := by decide +kernel
theorem dX11_left_55 : dcd cX11_left 55 (.iload 5) 2 57 := by decide +kernel
theorem dX11_left_57 : dcd cX11_left 57 (.invokevirtual 235) 3 60 := by decide +kernel
theorem dX11_left_60 : dcb cX11_left 60 (.ifCond .eq (6)) (6) 66 63 := by decide +kernel
theorem dX11_left_63 : dcd cX11_left 63 (.bipush (-3)) 2 65 := by decide +kernel
theorem dX11_left_65 : decode cX11_left 65 = .ok (.ireturn, 1) := by decide +kernel
theorem dX11_left_66 : dcd cX11_left 66 (.aload_n 0) 1 67 := by decide +kernel
theorem dX11_left_67 : dcd cX11_left 67 (.getfield 62) 3 70 := by decide +kernel
theorem dX11_left_70 : dcd cX11_left 70 (.getfield 238) 3 73 := by decide +kernel
theorem dX11_left_73 : dcd cX11_left 73 (.bipush 6) 2 75 := by decide +kernel
theorem dX11_left_75 : dcb cX11_left 75 (.if_icmp .lt (6)) (6) 81 78 := by decide +kernel
theorem dX11_left_78 : dcd cX11_left 78 (.bipush (-4)) 2 80 := by decide +kernel
theorem dX11_left_80 : decode cX11_left 80 = .ok (.ireturn, 1) := by decide +kernel
theorem dX11_left_81 : dcd cX11_left 81 (.aload_n 0) 1 82 := by decide +kernel
theorem dX11_left_82 : dcd cX11_left 82 (.getfield 62) 3 85 := by decide +kernel
theorem dX11_left_85 : dcd cX11_left 85 (.iload_n 2) 1 86 := by decide +kernel
theorem dX11_left_86 : dcd cX11_left 86 (.iload_n 3) 1 87 := by decide +kernel
theorem dX11_left_87 : dcd cX11_left 87 (.iload 4) 2 89 := by decide +kernel
theorem dX11_left_89 : dcd cX11_left 89 (.iload 5) 2 91 := by decide +kernel
theorem dX11_left_91 : dcd cX11_left 91 (.invokevirtual 239) 3 94 := by decide +kernel
theorem dX11_left_94 : dcd cX11_left 94 (.aload_n 0) 1 95 := by decide +kernel
theorem dX11_left_95 : dcd cX11_left 95 (.getfield 62) 3 98 := by decide +kernel
theorem dX11_left_98 : dcd cX11_left 98 (.getfield 238) 3 101 := by decide +kernel
theorem dX11_left_101 : decode cX11_left 101 = .ok (.ireturn, 1) := by decide +kernel
theorem dX11_read_0 : dcd cX11_read 0 (.aload_n 0) 1 1 := by decide +kernel
theorem dX11_read_1 : dcd cX11_read 1 (.getfield 62) 3 4 := by decide +kernel
theorem dX11_read_4 : dcd cX11_read 4 (.invokevirtual 242) 3 7 := by decide +kernel
theorem dX11_read_7 : dcd cX11_read 7 (.istore_n 1) 1 8 := by decide +kernel
theorem dX11_read_8 : dcd cX11_read 8 (.iload_n 1) 1 9 := by decide +kernel
theorem dX11_read_9 : dcd cX11_read 9 (.ldc 215) 2 11 := by decide +kernel
theorem dX11_read_11 : dcb cX11_read 11 (.if_icmp .ge (7)) (7) 18 14 := by decide +kernel
theorem dX11_read_14 : dcd cX11_read 14 (.iload_n 1) 1 15 := by decide +kernel
theorem dX11_read_15 : dcb cX11_read 15 (.goto (5)) (5) 20 18 := by decide +kernel
theorem dX11_read_18 : dcd cX11_read 18 (.bipush (-9)) 2 20 := by decide +kernel
theorem dX11_read_20 : decode cX11_read 20 = .ok (.ireturn, 1) := by decide +kernel
theorem dX11_unleft_0 : dcd cX11_unleft 0 (.aload_n 0) 1 1 := by decide +kernel
theorem dX11_unleft_1 : dcd cX11_unleft 1 (.getfield 62) 3 4 := by decide +kernel
theorem dX11_unleft_4 : dcd cX11_unleft 4 (.getfield 238) 3 7 := by decide +kernel
theorem dX11_unleft_7 : dcd cX11_unleft 7 (.istore_n 1) 1 8 := by decide +kernel
theorem dX11_unleft_8 : dcd cX11_unleft 8 (.aload_n 0) 1 9 := by decide +kernel
theorem dX11_unleft_9 : dcd cX11_unleft 9 (.getfield 62) 3 12 := by decide +kernel
theorem dX11_unleft_12 : dcd cX11_unleft 12 (.invokevirtual 102) 3 15 := by decide +kernel
theorem dX11_unleft_15 : dcd cX11_unleft 15 (.iload_n 1) 1 16 := by decide +kernel
theorem dX11_unleft_16 : decode cX11_unleft 16 = .ok (.ireturn, 1) := by decide +kernel
theorem dX11_ripens_0 : dcd cX11_ripens 0 (.iload_n 1) 1 1 := by decide +kernel
theorem dX11_ripens_1 : dcb cX11_ripens 1 (.ifCond .lt (20)) (20) 21 4 := by decide +kernel
theorem dX11_ripens_4 : dcd cX11_ripens 4 (.iload_n 1) 1 5 := by decide +kernel
theorem dX11_ripens_5 : dcd cX11_ripens 5 (.bipush 30) 2 7 := by decide +kernel
theorem dX11_ripens_7 : dcb cX11_ripens 7 (.if_icmp .gt (14)) (14) 21 10 := by decide +kernel
theorem dX11_ripens_10 : dcd cX11_ripens 10 (.iload_n 2) 1 11 := by decide +kernel
theorem dX11_ripens_11 : dcd cX11_ripens 11 (.iconst 1) 1 12 := by decide +kernel
theorem dX11_ripens_12 : dcb cX11_ripens 12 (.if_icmp .lt (9)) (9) 21 15 := by decide +kernel
theorem dX11_ripens_15 : dcd cX11_ripens 15 (.iload_n 2) 1 16 := by decide +kernel
theorem dX11_ripens_16 : dcd cX11_ripens 16 (.bipush 30) 2 18 := by decide +kernel
theorem dX11_ripens_18 : dcb cX11_ripens 18 (.if_icmp .le (6)) (6) 24 21 := by decide +kernel
theorem dX11_ripens_21 : dcd cX11_ripens 21 (.bipush (-2)) 2 23 := by decide +kernel
theorem dX11_ripens_23 : decode cX11_ripens 23 = .ok (.ireturn, 1) := by decide +kernel
theorem dX11_ripens_24 : dcd cX11_ripens 24 (.bipush 100) 2 26 := by decide +kernel
theorem dX11_ripens_26 : dcd cX11_ripens 26 (.aload_n 0) 1 27 := by decide +kernel
theorem dX11_ripens_27 : dcd cX11_ripens 27 (.getfield 19) 3 30 := by decide +kernel
theorem dX11_ripens_30 : dcd cX11_ripens 30 (.getfield 245) 3 33 := by decide +kernel
theorem dX11_ripens_33 : dcd cX11_ripens 33 (.imul) 1 34 := by decide +kernel
theorem dX11_ripens_34 : dcd cX11_ripens 34 (.aload_n 0) 1 35 := by decide +kernel
theorem dX11_ripens_35 : dcd cX11_ripens 35 (.getfield 19) 3 38 := by decide +kernel
theorem dX11_ripens_38 : dcd cX11_ripens 38 (.getfield 248) 3 41 := by decide +kernel
theorem dX11_ripens_41 : dcd cX11_ripens 41 (.iadd) 1 42 := by decide +kernel
theorem dX11_ripens_42 : dcd cX11_ripens 42 (.istore_n 3) 1 43 := by decide +kernel
theorem dX11_ripens_43 : dcd cX11_ripens 43 (.aload_n 0) 1 44 := by decide +kernel
theorem dX11_ripens_44 : dcd cX11_ripens 44 (.getfield 19) 3 47 := by decide +kernel
theorem dX11_ripens_47 : dcd cX11_ripens 47 (.iload_n 1) 1 48 := by decide +kernel
theorem dX11_ripens_48 : dcd cX11_ripens 48 (.putfield 245) 3 51 := by decide +kernel
theorem dX11_ripens_51 : dcd cX11_ripens 51 (.aload_n 0) 1 52 := by decide +kernel
theorem dX11_ripens_52 : dcd cX11_ripens 52 (.getfield 19) 3 55 := by decide +kernel
theorem dX11_ripens_55 : dcd cX11_ripens 55 (.iload_n 2) 1 56 := by decide +kernel
theorem dX11_ripens_56 : dcd cX11_ripens 56 (.putfield 248) 3 59 := by decide +kernel
theorem dX11_ripens_59 : dcd cX11_ripens 59 (.iload_n 3) 1 60 := by decide +kernel
theorem dX11_ripens_60 : decode cX11_ripens 60 = .ok (.ireturn, 1) := by decide +kernel
theorem dX11_ripe_0 : dcd cX11_ripe 0 (.aload_n 0) 1 1 := by decide +kernel
theorem dX11_ripe_1 : dcd cX11_ripe 1 (.getfield 28) 3 4 := by decide +kernel
theorem dX11_ripe_4 : dcd cX11_ripe 4 (.iload_n 1) 1 5 := by decide +kernel
theorem dX11_ripe_5 : dcd cX11_ripe 5 (.invokevirtual 138) 3 8 := by decide +kernel
theorem dX11_ripe_8 : dcb cX11_ripe 8 (.ifCond .ne (7)) (7) 15 11 := by decide +kernel
theorem dX11_ripe_11 : dcd cX11_ripe 11 (.ldc2_w 251) 3 14 := by decide +kernel
theorem dX11_ripe_14 : decode cX11_ripe 14 = .ok (.lreturn, 1) := by decide +kernel
theorem dX11_ripe_15 : dcd cX11_ripe 15 (.iload_n 2) 1 16 := by decide +kernel
theorem dX11_ripe_16 : dcb cX11_ripe 16 (.ifCond .lt (10)) (10) 26 19 := by decide +kernel
theorem dX11_ripe_19 : dcd cX11_ripe 19 (.iload_n 2) 1 20 := by decide +kernel
theorem dX11_ripe_20 : dcd cX11_ripe 20 (.sipush 999) 3 23 := by decide +kernel
theorem dX11_ripe_23 : dcb cX11_ripe 23 (.if_icmp .le (7)) (7) 30 26 := by decide +kernel
theorem dX11_ripe_26 : dcd cX11_ripe 26 (.ldc2_w 253) 3 29 := by decide +kernel
theorem dX11_ripe_29 : decode cX11_ripe 29 = .ok (.lreturn, 1) := by decide +kernel
theorem dX11_ripe_30 : dcd cX11_ripe 30 (.aload_n 0) 1 31 := by decide +kernel
theorem dX11_ripe_31 : dcd cX11_ripe 31 (.getfield 28) 3 34 := by decide +kernel
theorem dX11_ripe_34 : dcd cX11_ripe 34 (.getfield 126) 3 37 := by decide +kernel
theorem dX11_ripe_37 : dcd cX11_ripe 37 (.iload_n 1) 1 38 := by decide +kernel
theorem dX11_ripe_38 : dcd cX11_ripe 38 (.aaload) 1 39 := by decide +kernel
theorem dX11_ripe_39 : dcd cX11_ripe 39 (.astore 4) 2 41 := by decide +kernel
theorem dX11_ripe_41 : dcd cX11_ripe 41 (.aload 4) 2 43 := by decide +kernel
theorem dX11_ripe_43 : dcd cX11_ripe 43 (.aload_n 0) 1 44 := by decide +kernel
theorem dX11_ripe_44 : dcd cX11_ripe 44 (.getfield 19) 3 47 := by decide +kernel
theorem dX11_ripe_47 : dcd cX11_ripe 47 (.iload_n 2) 1 48 := by decide +kernel
theorem dX11_ripe_48 : dcd cX11_ripe 48 (.invokevirtual 255) 3 51 := by decide +kernel
theorem dX11_ripe_51 : dcd cX11_ripe 51 (.i2l) 1 52 := by decide +kernel
theorem dX11_ripe_52 : dcd cX11_ripe 52 (.lstore 5) 2 54 := by decide +kernel
theorem dX11_ripe_54 : dcd cX11_ripe 54 (.iconst 1) 1 55 := by decide +kernel
theorem dX11_ripe_55 : dcd cX11_ripe 55 (.aload 4) 2 57 := by decide +kernel
theorem dX11_ripe_57 : dcd cX11_ripe 57 (.aload_n 0) 1 58 := by decide +kernel
theorem dX11_ripe_58 : dcd cX11_ripe 58 (.getfield 19) 3 61 := by decide +kernel
theorem dX11_ripe_61 : dcd cX11_ripe 61 (.invokevirtual 259) 3 64 := by decide +kernel
theorem dX11_ripe_64 : dcd cX11_ripe 64 (.invokestatic 262) 3 67 := by decide +kernel
theorem dX11_ripe_67 : dcd cX11_ripe 67 (.i2l) 1 68 := by decide +kernel
theorem dX11_ripe_68 : dcd cX11_ripe 68 (.lstore 7) 2 70 := by decide +kernel
theorem dX11_ripe_70 : dcd cX11_ripe 70 (.iload_n 3) 1 71 := by decide +kernel
theorem dX11_ripe_71 : dcb cX11_ripe 71 (.ifCond .eq (8)) (8) 79 74 := by decide +kernel
theorem dX11_ripe_74 : dcd cX11_ripe 74 (.lload 5) 2 76 := by decide +kernel
theorem dX11_ripe_76 : dcb cX11_ripe 76 (.goto (5)) (5) 81 79 := by decide +kernel
theorem dX11_ripe_79 : dcd cX11_ripe 79 (.lload 7) 2 81 := by decide +kernel
theorem dX11_ripe_81 : dcd cX11_ripe 81 (.lload 5) 2 83 := by decide +kernel
theorem dX11_ripe_83 : dcd cX11_ripe 83 (.lload 7) 2 85 := by decide +kernel
theorem dX11_ripe_85 : dcd cX11_ripe 85 (.invokestatic 267) 3 88 := by decide +kernel
theorem dX11_ripe_88 : dcd cX11_ripe 88 (.ldiv) 1 89 := by decide +kernel
theorem dX11_ripe_89 : decode cX11_ripe 89 = .ok (.lreturn, 1) := by decide +kernel
theorem dX11_ripest_0 : dcd cX11_ripest 0 (.iload_n 1) 1 1 := by decide +kernel
theorem dX11_ripest_1 : dcb cX11_ripest 1 (.ifCond .lt (10)) (10) 11 4 := by decide +kernel
theorem dX11_ripest_4 : dcd cX11_ripest 4 (.iload_n 1) 1 5 := by decide +kernel
theorem dX11_ripest_5 : dcd cX11_ripest 5 (.sipush 999) 3 8 := by decide +kernel
theorem dX11_ripest_8 : dcb cX11_ripest 8 (.if_icmp .le (8)) (8) 16 11 := by decide +kernel
theorem dX11_ripest_11 : dcd cX11_ripest 11 (.bipush (-2)) 2 13 := by decide +kernel
theorem dX11_ripest_13 : dcb cX11_ripest 13 (.goto (11)) (11) 24 16 := by decide +kernel
theorem dX11_ripest_16 : dcd cX11_ripest 16 (.aload_n 0) 1 17 := by decide +kernel
theorem dX11_ripest_17 : dcd cX11_ripest 17 (.getfield 28) 3 20 := by decide +kernel
theorem dX11_ripest_20 : dcd cX11_ripest 20 (.iload_n 1) 1 21 := by decide +kernel
theorem dX11_ripest_21 : dcd cX11_ripest 21 (.invokevirtual 271) 3 24 := by decide +kernel
theorem dX11_ripest_24 : decode cX11_ripest 24 = .ok (.ireturn, 1) := by decide +kernel
theorem dX11_book_0 : dcd cX11_book 0 (.iload_n 1) 1 1 := by decide +kernel
theorem dX11_book_1 : dcb cX11_book 1 (.ifCond .lt (9)) (9) 10 4 := by decide +kernel
theorem dX11_book_4 : dcd cX11_book 4 (.iload_n 1) 1 5 := by decide +kernel
theorem dX11_book_5 : dcd cX11_book 5 (.bipush 99) 2 7 := by decide +kernel
theorem dX11_book_7 : dcb cX11_book 7 (.if_icmp .le (6)) (6) 13 10 := by decide +kernel
theorem dX11_book_10 : dcd cX11_book 10 (.bipush (-2)) 2 12 := by decide +kernel
theorem dX11_book_12 : decode cX11_book 12 = .ok (.ireturn, 1) := by decide +kernel
theorem dX11_book_13 : dcd cX11_book 13 (.aload_n 0) 1 14 := by decide +kernel
theorem dX11_book_14 : dcd cX11_book 14 (.getfield 69) 3 17 := by decide +kernel
theorem dX11_book_17 : dcd cX11_book 17 (.getfield 274) 3 20 := by decide +kernel
theorem dX11_book_20 : dcd cX11_book 20 (.bipush 16) 2 22 := by decide +kernel
theorem dX11_book_22 : dcb cX11_book 22 (.if_icmp .lt (6)) (6) 28 25 := by decide +kernel
theorem dX11_book_25 : dcd cX11_book 25 (.bipush (-4)) 2 27 := by decide +kernel
theorem dX11_book_27 : decode cX11_book 27 = .ok (.ireturn, 1) := by decide +kernel
theorem dX11_book_28 : dcd cX11_book 28 (.aload_n 0) 1 29 := by decide +kernel
theorem dX11_book_29 : dcd cX11_book 29 (.getfield 69) 3 32 := by decide +kernel
theorem dX11_book_32 : dcd cX11_book 32 (.iload_n 1) 1 33 := by decide +kernel
theorem dX11_book_33 : dcd cX11_book 33 (.invokevirtual 277) 3 36 := by decide +kernel
theorem dX11_book_36 : dcd cX11_book 36 (.aload_n 0) 1 37 := by decide +kernel
theorem dX11_book_37 : dcd cX11_book 37 (.getfield 69) 3 40 := by decide +kernel
theorem dX11_book_40 : dcd cX11_book 40 (.getfield 274) 3 43 := by decide +kernel
theorem dX11_book_43 : decode cX11_book 43 = .ok (.ireturn, 1) := by decide +kernel
theorem dX11_over_0 : dcd cX11_over 0 (.iload_n 1) 1 1 := by decide +kernel
theorem dX11_over_1 : dcb cX11_over 1 (.ifCond .lt (9)) (9) 10 4 := by decide +kernel
theorem dX11_over_4 : dcd cX11_over 4 (.iload_n 1) 1 5 := by decide +kernel
theorem dX11_over_5 : dcd cX11_over 5 (.bipush 99) 2 7 := by decide +kernel
theorem dX11_over_7 : dcb cX11_over 7 (.if_icmp .le (8)) (8) 15 10 := by decide +kernel
theorem dX11_over_10 : dcd cX11_over 10 (.bipush (-2)) 2 12 := by decide +kernel
theorem dX11_over_12 : dcb cX11_over 12 (.goto (15)) (15) 27 15 := by decide +kernel
theorem dX11_over_15 : dcd cX11_over 15 (.sipush 1000) 3 18 := by decide +kernel
theorem dX11_over_18 : dcd cX11_over 18 (.aload_n 0) 1 19 := by decide +kernel
theorem dX11_over_19 : dcd cX11_over 19 (.getfield 69) 3 22 := by decide +kernel
theorem dX11_over_22 : dcd cX11_over 22 (.iload_n 1) 1 23 := by decide +kernel
theorem dX11_over_23 : dcd cX11_over 23 (.invokevirtual 279) 3 26 := by decide +kernel
theorem dX11_over_26 : dcd cX11_over 26 (.iadd) 1 27 := by decide +kernel
theorem dX11_over_27 : decode cX11_over 27 = .ok (.ireturn, 1) := by decide +kernel
theorem dX11_bestOver_0 : dcd cX11_bestOver 0 (.aload_n 0) 1 1 := by decide +kernel
theorem dX11_bestOver_1 : dcd cX11_bestOver 1 (.getfield 69) 3 4 := by decide +kernel
theorem dX11_bestOver_4 : dcd cX11_bestOver 4 (.invokevirtual 282) 3 7 := by decide +kernel
theorem dX11_bestOver_7 : decode cX11_bestOver 7 = .ok (.ireturn, 1) := by decide +kernel
theorem dX11_taste_0 : dcd cX11_taste 0 (.iload_n 1) 1 1 := by decide +kernel
theorem dX11_taste_1 : dcb cX11_taste 1 (.ifCond .lt (9)) (9) 10 4 := by decide +kernel
theorem dX11_taste_4 : dcd cX11_taste 4 (.iload_n 1) 1 5 := by decide +kernel
theorem dX11_taste_5 : dcd cX11_taste 5 (.bipush 9) 2 7 := by decide +kernel
theorem dX11_taste_7 : dcb cX11_taste 7 (.if_icmp .le (6)) (6) 13 10 := by decide +kernel
theorem dX11_taste_10 : dcd cX11_taste 10 (.bipush (-2)) 2 12 := by decide +kernel
theorem dX11_taste_12 : decode cX11_taste 12 = .ok (.ireturn, 1) := by decide +kernel
theorem dX11_taste_13 : dcd cX11_taste 13 (.aload_n 0) 1 14 := by decide +kernel
theorem dX11_taste_14 : dcd cX11_taste 14 (.getfield 69) 3 17 := by decide +kernel
theorem dX11_taste_17 : dcd cX11_taste 17 (.iload_n 1) 1 18 := by decide +kernel
theorem dX11_taste_18 : dcd cX11_taste 18 (.iload_n 2) 1 19 := by decide +kernel
theorem dX11_taste_19 : dcd cX11_taste 19 (.invokevirtual 285) 3 22 := by decide +kernel
theorem dX11_taste_22 : dcd cX11_taste 22 (.aload_n 0) 1 23 := by decide +kernel
theorem dX11_taste_23 : dcd cX11_taste 23 (.getfield 69) 3 26 := by decide +kernel
theorem dX11_taste_26 : dcd cX11_taste 26 (.getfield 289) 3 29 := by decide +kernel
theorem dX11_taste_29 : dcd cX11_taste 29 (.iload_n 1) 1 30 := by decide +kernel
theorem dX11_taste_30 : dcd cX11_taste 30 (.iaload) 1 31 := by decide +kernel
theorem dX11_taste_31 : decode cX11_taste 31 = .ok (.ireturn, 1) := by decide +kernel
theorem dX11_brings_0 : dcd cX11_brings 0 (.iload_n 1) 1 1 := by decide +kernel
theorem dX11_brings_1 : dcb cX11_brings 1 (.ifCond .lt (9)) (9) 10 4 := by decide +kernel
theorem dX11_brings_4 : dcd cX11_brings 4 (.iload_n 1) 1 5 := by decide +kernel
theorem dX11_brings_5 : dcd cX11_brings 5 (.bipush 9) 2 7 := by decide +kernel
theorem dX11_brings_7 : dcb cX11_brings 7 (.if_icmp .le (7)) (7) 14 10 := by decide +kernel
theorem dX11_brings_10 : dcd cX11_brings 10 (.ldc2_w 253) 3 13 := by decide +kernel
theorem dX11_brings_13 : decode cX11_brings 13 = .ok (.lreturn, 1) := by decide +kernel
theorem dX11_brings_14 : dcd cX11_brings 14 (.aload_n 0) 1 15 := by decide +kernel
theorem dX11_brings_15 : dcd cX11_brings 15 (.getfield 69) 3 18 := by decide +kernel
theorem dX11_brings_18 : dcd cX11_brings 18 (.iload_n 1) 1 19 := by decide +kernel
theorem dX11_brings_19 : dcd cX11_brings 19 (.invokevirtual 292) 3 22 := by decide +kernel
theorem dX11_brings_22 : dcd cX11_brings 22 (.lstore_n 3) 1 23 := by decide +kernel
theorem dX11_brings_23 : dcd cX11_brings 23 (.aload_n 0) 1 24 := by decide +kernel
theorem dX11_brings_24 : dcd cX11_brings 24 (.getfield 69) 3 27 := by decide +kernel
theorem dX11_brings_27 : dcd cX11_brings 27 (.iload_n 1) 1 28 := by decide +kernel
theorem dX11_brings_28 : dcd cX11_brings 28 (.invokevirtual 296) 3 31 := by decide +kernel
theorem dX11_brings_31 : dcd cX11_brings 31 (.lstore 5) 2 33 := by decide +kernel
theorem dX11_brings_33 : dcd cX11_brings 33 (.lload_n 3) 1 34 := by decide +kernel
theorem dX11_brings_34 : dcd cX11_brings 34 (.lload 5) 2 36 := by decide +kernel
theorem dX11_brings_36 : dcd cX11_brings 36 (.invokestatic 267) 3 39 := by decide +kernel
theorem dX11_brings_39 : dcd cX11_brings 39 (.lstore 7) 2 41 := by decide +kernel
theorem dX11_brings_41 : dcd cX11_brings 41 (.iload_n 2) 1 42 := by decide +kernel
theorem dX11_brings_42 : dcb cX11_brings 42 (.ifCond .eq (14)) (14) 56 45 := by decide +kernel
theorem dX11_brings_45 : dcd cX11_brings 45 (.ldc2_w 299) 3 48 := by decide +kernel
theorem dX11_brings_48 : dcd cX11_brings 48 (.lload_n 3) 1 49 := by decide +kernel
theorem dX11_brings_49 : dcd cX11_brings 49 (.lload 7) 2 51 := by decide +kernel
theorem dX11_brings_51 : dcd cX11_brings 51 (.ldiv) 1 52 := by decide +kernel
theorem dX11_brings_52 : dcd cX11_brings 52 (.ladd) 1 53 := by decide +kernel
theorem dX11_brings_53 : dcb cX11_brings 53 (.goto (8)) (8) 61 56 := by decide +kernel
theorem dX11_brings_56 : dcd cX11_brings 56 (.lload 5) 2 58 := by decide +kernel
theorem dX11_brings_58 : dcd cX11_brings 58 (.lload 7) 2 60 := by decide +kernel
theorem dX11_brings_60 : dcd cX11_brings 60 (.ldiv) 1 61 := by decide +kernel
theorem dX11_brings_61 : decode cX11_brings 61 = .ok (.lreturn, 1) := by decide +kernel
theorem dX11_bestTaste_0 : dcd cX11_bestTaste 0 (.aload_n 0) 1 1 := by decide +kernel
theorem dX11_bestTaste_1 : dcd cX11_bestTaste 1 (.getfield 69) 3 4 := by decide +kernel
theorem dX11_bestTaste_4 : dcd cX11_bestTaste 4 (.invokevirtual 301) 3 7 := by decide +kernel
theorem dX11_bestTaste_7 : decode cX11_bestTaste 7 = .ok (.ireturn, 1) := by decide +kernel
theorem dX11_prices_0 : dcd cX11_prices 0 (.iload_n 1) 1 1 := by decide +kernel
theorem dX11_prices_1 : dcd cX11_prices 1 (.iconst 1) 1 2 := by decide +kernel
theorem dX11_prices_2 : dcb cX11_prices 2 (.if_icmp .lt (19)) (19) 21 5 := by decide +kernel
theorem dX11_prices_5 : dcd cX11_prices 5 (.iload_n 1) 1 6 := by decide +kernel
theorem dX11_prices_6 : dcd cX11_prices 6 (.bipush 9) 2 8 := by decide +kernel
theorem dX11_prices_8 : dcb cX11_prices 8 (.if_icmp .gt (13)) (13) 21 11 := by decide +kernel
theorem dX11_prices_11 : dcd cX11_prices 11 (.iload_n 2) 1 12 := by decide +kernel
theorem dX11_prices_12 : dcb cX11_prices 12 (.ifCond .lt (9)) (9) 21 15 := by decide +kernel
theorem dX11_prices_15 : dcd cX11_prices 15 (.iload_n 2) 1 16 := by decide +kernel
theorem dX11_prices_16 : dcd cX11_prices 16 (.bipush 9) 2 18 := by decide +kernel
theorem dX11_prices_18 : dcb cX11_prices 18 (.if_icmp .le (6)) (6) 24 21 := by decide +kernel
theorem dX11_prices_21 : dcd cX11_prices 21 (.bipush (-2)) 2 23 := by decide +kernel
theorem dX11_prices_23 : decode cX11_prices 23 = .ok (.ireturn, 1) := by decide +kernel
theorem dX11_prices_24 : dcd cX11_prices 24 (.bipush 10) 2 26 := by decide +kernel
theorem dX11_prices_26 : dcd cX11_prices 26 (.aload_n 0) 1 27 := by decide +kernel
theorem dX11_prices_27 : dcd cX11_prices 27 (.getfield 73) 3 30 := by decide +kernel
theorem dX11_prices_30 : dcd cX11_prices 30 (.imul) 1 31 := by decide +kernel
theorem dX11_prices_31 : dcd cX11_prices 31 (.aload_n 0) 1 32 := by decide +kernel
theorem dX11_prices_32 : dcd cX11_prices 32 (.getfield 77) 3 35 := by decide +kernel
theorem dX11_prices_35 : dcd cX11_prices 35 (.iadd) 1 36 := by decide +kernel
theorem dX11_prices_36 : dcd cX11_prices 36 (.istore_n 3) 1 37 := by decide +kernel
theorem dX11_prices_37 : dcd cX11_prices 37 (.aload_n 0) 1 38 := by decide +kernel
theorem dX11_prices_38 : dcd cX11_prices 38 (.iload_n 1) 1 39 := by decide +kernel
theorem dX11_prices_39 : dcd cX11_prices 39 (.putfield 73) 3 42 := by decide +kernel
theorem dX11_prices_42 : dcd cX11_prices 42 (.aload_n 0) 1 43 := by decide +kernel
theorem dX11_prices_43 : dcd cX11_prices 43 (.iload_n 2) 1 44 := by decide +kernel
theorem dX11_prices_44 : dcd cX11_prices 44 (.putfield 77) 3 47 := by decide +kernel
theorem dX11_prices_47 : dcd cX11_prices 47 (.iload_n 3) 1 48 := by decide +kernel
theorem dX11_prices_48 : decode cX11_prices 48 = .ok (.ireturn, 1) := by decide +kernel
theorem dX11_worth_0 : dcd cX11_worth 0 (.iconst 0) 1 1 := by decide +kernel
theorem dX11_worth_1 : dcd cX11_worth 1 (.istore_n 1) 1 2 := by decide +kernel
theorem dX11_worth_2 : dcd cX11_worth 2 (.iconst 0) 1 3 := by decide +kernel
theorem dX11_worth_3 : dcd cX11_worth 3 (.istore_n 2) 1 4 := by decide +kernel
theorem dX11_worth_4 : dcd cX11_worth 4 (.iload_n 2) 1 5 := by decide +kernel
theorem dX11_worth_5 : dcd cX11_worth 5 (.aload_n 0) 1 6 := by decide +kernel
theorem dX11_worth_6 : dcd cX11_worth 6 (.getfield 28) 3 9 := by decide +kernel
theorem dX11_worth_9 : dcd cX11_worth 9 (.getfield 304) 3 12 := by decide +kernel
theorem dX11_worth_12 : dcb cX11_worth 12 (.if_icmp .ge (56)) (56) 68 15 := by decide +kernel
theorem dX11_worth_15 : dcd cX11_worth 15 (.aload_n 0) 1 16 := by decide +kernel
theorem dX11_worth_16 : dcd cX11_worth 16 (.getfield 28) 3 19 := by decide +kernel
theorem dX11_worth_19 : dcd cX11_worth 19 (.getfield 126) 3 22 := by decide +kernel
theorem dX11_worth_22 : dcd cX11_worth 22 (.iload_n 2) 1 23 := by decide +kernel
theorem dX11_worth_23 : dcd cX11_worth 23 (.aaload) 1 24 := by decide +kernel
theorem dX11_worth_24 : dcd cX11_worth 24 (.astore_n 3) 1 25 := by decide +kernel
theorem dX11_worth_25 : dcd cX11_worth 25 (.aload_n 3) 1 26 := by decide +kernel
theorem dX11_worth_26 : dcd cX11_worth 26 (.getfield 144) 3 29 := by decide +kernel
theorem dX11_worth_29 : dcb cX11_worth 29 (.ifCond .ne (33)) (33) 62 32 := by decide +kernel
theorem dX11_worth_32 : dcd cX11_worth 32 (.iload_n 1) 1 33 := by decide +kernel
theorem dX11_worth_33 : dcd cX11_worth 33 (.aload_n 3) 1 34 := by decide +kernel
theorem dX11_worth_34 : dcd cX11_worth 34 (.invokevirtual 167) 3 37 := by decide +kernel
theorem dX11_worth_37 : dcd cX11_worth 37 (.aload_n 3) 1 38 := by decide +kernel
theorem dX11_worth_38 : dcd cX11_worth 38 (.aload_n 0) 1 39 := by decide +kernel
theorem dX11_worth_39 : dcd cX11_worth 39 (.getfield 19) 3 42 := by decide +kernel
theorem dX11_worth_42 : dcd cX11_worth 42 (.invokevirtual 163) 3 45 := by decide +kernel
theorem dX11_worth_45 : dcb cX11_worth 45 (.ifCond .eq (10)) (10) 55 48 := by decide +kernel
theorem dX11_worth_48 : dcd cX11_worth 48 (.aload_n 0) 1 49 := by decide +kernel
theorem dX11_worth_49 : dcd cX11_worth 49 (.getfield 77) 3 52 := by decide +kernel
theorem dX11_worth_52 : dcb cX11_worth 52 (.goto (7)) (7) 59 55 := by decide +kernel
theorem dX11_worth_55 : dcd cX11_worth 55 (.aload_n 0) 1 56 := by decide +kernel
theorem dX11_worth_56 : dcd cX11_worth 56 (.getfield 73) 3 59 := by decide +kernel
theorem dX11_worth_59 : dcd cX11_worth 59 (.imul) 1 60 := by decide +kernel
theorem dX11_worth_60 : dcd cX11_worth 60 (.iadd) 1 61 := by decide +kernel
theorem dX11_worth_61 : dcd cX11_worth 61 (.istore_n 1) 1 62 := by decide +kernel
theorem dX11_worth_62 : dcd cX11_worth 62 (.iinc 2 1) 3 65 := by decide +kernel
theorem dX11_worth_65 : dcb cX11_worth 65 (.goto (-61)) (-61) 4 68 := by decide +kernel
theorem dX11_worth_68 : dcd cX11_worth 68 (.iload_n 1) 1 69 := by decide +kernel
theorem dX11_worth_69 : decode cX11_worth 69 = .ok (.ireturn, 1) := by decide +kernel
theorem dX11_keep_0 : dcd cX11_keep 0 (.iload_n 1) 1 1 := by decide +kernel
theorem dX11_keep_1 : dcb cX11_keep 1 (.ifCond .lt (8)) (8) 9 4 := by decide +kernel
theorem dX11_keep_4 : dcd cX11_keep 4 (.iload_n 1) 1 5 := by decide +kernel
theorem dX11_keep_5 : dcd cX11_keep 5 (.iconst 2) 1 6 := by decide +kernel
theorem dX11_keep_6 : dcb cX11_keep 6 (.if_icmp .lt (5)) (5) 11 9 := by decide +kernel
theorem dX11_keep_9 : dcd cX11_keep 9 (.iconst (-1)) 1 10 := by decide +kernel
theorem dX11_keep_10 : decode cX11_keep 10 = .ok (.ireturn, 1) := by decide +kernel
theorem dX11_keep_11 : dcd cX11_keep 11 (.aload_n 0) 1 12 := by decide +kernel
theorem dX11_keep_12 : dcd cX11_keep 12 (.getfield 32) 3 15 := by decide +kernel
theorem dX11_keep_15 : dcd cX11_keep 15 (.iload_n 1) 1 16 := by decide +kernel
theorem dX11_keep_16 : dcd cX11_keep 16 (.aaload) 1 17 := by decide +kernel
theorem dX11_keep_17 : dcd cX11_keep 17 (.aload_n 0) 1 18 := by decide +kernel
theorem dX11_keep_18 : dcd cX11_keep 18 (.getfield 28) 3 21 := by decide +kernel
theorem dX11_keep_21 : dcd cX11_keep 21 (.invokevirtual 305) 3 24 := by decide +kernel
theorem dX11_keep_24 : dcd cX11_keep 24 (.aload_n 0) 1 25 := by decide +kernel
theorem dX11_keep_25 : dcd cX11_keep 25 (.getfield 32) 3 28 := by decide +kernel
theorem dX11_keep_28 : dcd cX11_keep 28 (.iload_n 1) 1 29 := by decide +kernel
theorem dX11_keep_29 : dcd cX11_keep 29 (.aaload) 1 30 := by decide +kernel
theorem dX11_keep_30 : dcd cX11_keep 30 (.iconst 1) 1 31 := by decide +kernel
theorem dX11_keep_31 : dcd cX11_keep 31 (.putfield 98) 3 34 := by decide +kernel
theorem dX11_keep_34 : dcd cX11_keep 34 (.aload_n 0) 1 35 := by decide +kernel
theorem dX11_keep_35 : dcd cX11_keep 35 (.getfield 28) 3 38 := by decide +kernel
theorem dX11_keep_38 : dcd cX11_keep 38 (.invokevirtual 309) 3 41 := by decide +kernel
theorem dX11_keep_41 : decode cX11_keep 41 = .ok (.ireturn, 1) := by decide +kernel
theorem dX11_again_0 : dcd cX11_again 0 (.iload_n 1) 1 1 := by decide +kernel
theorem dX11_again_1 : dcb cX11_again 1 (.ifCond .lt (8)) (8) 9 4 := by decide +kernel
theorem dX11_again_4 : dcd cX11_again 4 (.iload_n 1) 1 5 := by decide +kernel
theorem dX11_again_5 : dcd cX11_again 5 (.iconst 2) 1 6 := by decide +kernel
theorem dX11_again_6 : dcb cX11_again 6 (.if_icmp .lt (5)) (5) 11 9 := by decide +kernel
theorem dX11_again_9 : dcd cX11_again 9 (.iconst (-1)) 1 10 := by decide +kernel
theorem dX11_again_10 : decode cX11_again 10 = .ok (.ireturn, 1) := by decide +kernel
theorem dX11_again_11 : dcd cX11_again 11 (.aload_n 0) 1 12 := by decide +kernel
theorem dX11_again_12 : dcd cX11_again 12 (.getfield 32) 3 15 := by decide +kernel
theorem dX11_again_15 : dcd cX11_again 15 (.iload_n 1) 1 16 := by decide +kernel
theorem dX11_again_16 : dcd cX11_again 16 (.aaload) 1 17 := by decide +kernel
theorem dX11_again_17 : dcd cX11_again 17 (.getfield 98) 3 20 := by decide +kernel
theorem dX11_again_20 : dcb cX11_again 20 (.ifCond .ne (6)) (6) 26 23 := by decide +kernel
theorem dX11_again_23 : dcd cX11_again 23 (.bipush (-3)) 2 25 := by decide +kernel
theorem dX11_again_25 : decode cX11_again 25 = .ok (.ireturn, 1) := by decide +kernel
theorem dX11_again_26 : dcd cX11_again 26 (.aload_n 0) 1 27 := by decide +kernel
theorem dX11_again_27 : dcd cX11_again 27 (.getfield 28) 3 30 := by decide +kernel
theorem dX11_again_30 : dcd cX11_again 30 (.aload_n 0) 1 31 := by decide +kernel
theorem dX11_again_31 : dcd cX11_again 31 (.getfield 32) 3 34 := by decide +kernel
theorem dX11_again_34 : dcd cX11_again 34 (.iload_n 1) 1 35 := by decide +kernel
theorem dX11_again_35 : dcd cX11_again 35 (.aaload) 1 36 := by decide +kernel
theorem dX11_again_36 : dcd cX11_again 36 (.invokevirtual 305) 3 39 := by decide +kernel
theorem dX11_again_39 : dcd cX11_again 39 (.aload_n 0) 1 40 := by decide +kernel
theorem dX11_again_40 : dcd cX11_again 40 (.getfield 28) 3 43 := by decide +kernel
theorem dX11_again_43 : dcd cX11_again 43 (.invokevirtual 309) 3 46 := by decide +kernel
theorem dX11_again_46 : decode cX11_again 46 = .ok (.ireturn, 1) := by decide +kernel
theorem dX11_count_0 : dcd cX11_count 0 (.iload_n 1) 1 1 := by decide +kernel
theorem dX11_count_1 : decode cX11_count 1 = .ok (.tableswitch 99 0 6 #[43, 51, 59, 67, 75, 83, 91], 43) := by decide +kernel
theorem dX11_count_44 : dcd cX11_count 44 (.aload_n 0) 1 45 := by decide +kernel
theorem dX11_count_45 : dcd cX11_count 45 (.getfield 28) 3 48 := by decide +kernel
theorem dX11_count_48 : dcd cX11_count 48 (.getfield 304) 3 51 := by decide +kernel
theorem dX11_count_51 : decode cX11_count 51 = .ok (.ireturn, 1) := by decide +kernel
theorem dX11_count_52 : dcd cX11_count 52 (.aload_n 0) 1 53 := by decide +kernel
theorem dX11_count_53 : dcd cX11_count 53 (.getfield 28) 3 56 := by decide +kernel
theorem dX11_count_56 : dcd cX11_count 56 (.invokevirtual 309) 3 59 := by decide +kernel
theorem dX11_count_59 : decode cX11_count 59 = .ok (.ireturn, 1) := by decide +kernel
theorem dX11_count_60 : dcd cX11_count 60 (.aload_n 0) 1 61 := by decide +kernel
theorem dX11_count_61 : dcd cX11_count 61 (.getfield 28) 3 64 := by decide +kernel
theorem dX11_count_64 : dcd cX11_count 64 (.getfield 170) 3 67 := by decide +kernel
theorem dX11_count_67 : decode cX11_count 67 = .ok (.ireturn, 1) := by decide +kernel
theorem dX11_count_68 : dcd cX11_count 68 (.aload_n 0) 1 69 := by decide +kernel
theorem dX11_count_69 : dcd cX11_count 69 (.getfield 48) 3 72 := by decide +kernel
theorem dX11_count_72 : dcd cX11_count 72 (.getfield 219) 3 75 := by decide +kernel
theorem dX11_count_75 : decode cX11_count 75 = .ok (.ireturn, 1) := by decide +kernel
theorem dX11_count_76 : dcd cX11_count 76 (.aload_n 0) 1 77 := by decide +kernel
theorem dX11_count_77 : dcd cX11_count 77 (.getfield 62) 3 80 := by decide +kernel
theorem dX11_count_80 : dcd cX11_count 80 (.getfield 238) 3 83 := by decide +kernel
theorem dX11_count_83 : decode cX11_count 83 = .ok (.ireturn, 1) := by decide +kernel
theorem dX11_count_84 : dcd cX11_count 84 (.aload_n 0) 1 85 := by decide +kernel
theorem dX11_count_85 : dcd cX11_count 85 (.getfield 12) 3 88 := by decide +kernel
theorem dX11_count_88 : dcd cX11_count 88 (.getfield 80) 3 91 := by decide +kernel
theorem dX11_count_91 : decode cX11_count 91 = .ok (.ireturn, 1) := by decide +kernel
theorem dX11_count_92 : dcd cX11_count 92 (.aload_n 0) 1 93 := by decide +kernel
theorem dX11_count_93 : dcd cX11_count 93 (.getfield 69) 3 96 := by decide +kernel
theorem dX11_count_96 : dcd cX11_count 96 (.getfield 274) 3 99 := by decide +kernel
theorem dX11_count_99 : decode cX11_count 99 = .ok (.ireturn, 1) := by decide +kernel
theorem dX11_count_100 : dcd cX11_count 100 (.bipush (-2)) 2 102 := by decide +kernel
theorem dX11_count_102 : decode cX11_count 102 = .ok (.ireturn, 1) := by decide +kernel
theorem dX11_isAsk_0 : dcd cX11_isAsk 0 (.iload_n 0) 1 1 := by decide +kernel
theorem dX11_isAsk_1 : dcd cX11_isAsk 1 (.iconst 1) 1 2 := by decide +kernel
theorem dX11_isAsk_2 : dcb cX11_isAsk 2 (.if_icmp .lt (34)) (34) 36 5 := by decide +kernel
theorem dX11_isAsk_5 : dcd cX11_isAsk 5 (.iload_n 0) 1 6 := by decide +kernel
theorem dX11_isAsk_6 : dcd cX11_isAsk 6 (.sipush 360) 3 9 := by decide +kernel
theorem dX11_isAsk_9 : dcb cX11_isAsk 9 (.if_icmp .gt (27)) (27) 36 12 := by decide +kernel
theorem dX11_isAsk_12 : dcd cX11_isAsk 12 (.iload_n 1) 1 13 := by decide +kernel
theorem dX11_isAsk_13 : dcb cX11_isAsk 13 (.ifCond .lt (23)) (23) 36 16 := by decide +kernel
theorem dX11_isAsk_16 : dcd cX11_isAsk 16 (.iload_n 1) 1 17 := by decide +kernel
theorem dX11_isAsk_17 : dcd cX11_isAsk 17 (.bipush 99) 2 19 := by decide +kernel
theorem dX11_isAsk_19 : dcb cX11_isAsk 19 (.if_icmp .gt (17)) (17) 36 22 := by decide +kernel
theorem dX11_isAsk_22 : dcd cX11_isAsk 22 (.iload_n 2) 1 23 := by decide +kernel
theorem dX11_isAsk_23 : dcb cX11_isAsk 23 (.ifCond .lt (13)) (13) 36 26 := by decide +kernel
theorem dX11_isAsk_26 : dcd cX11_isAsk 26 (.iload_n 2) 1 27 := by decide +kernel
theorem dX11_isAsk_27 : dcd cX11_isAsk 27 (.bipush 36) 2 29 := by decide +kernel
theorem dX11_isAsk_29 : dcb cX11_isAsk 29 (.if_icmp .gt (7)) (7) 36 32 := by decide +kernel
theorem dX11_isAsk_32 : dcd cX11_isAsk 32 (.iconst 1) 1 33 := by decide +kernel
theorem dX11_isAsk_33 : dcb cX11_isAsk 33 (.goto (4)) (4) 37 36 := by decide +kernel
theorem dX11_isAsk_36 : dcd cX11_isAsk 36 (.iconst 0) 1 37 := by decide +kernel
theorem dX11_isAsk_37 : decode cX11_isAsk 37 = .ok (.ireturn, 1) := by decide +kernel
theorem dX11_commonDivisor_0 : dcd cX11_commonDivisor 0 (.lload_n 0) 1 1 := by decide +kernel
theorem dX11_commonDivisor_1 : dcd cX11_commonDivisor 1 (.invokestatic 312) 3 4 := by decide +kernel
theorem dX11_commonDivisor_4 : dcd cX11_commonDivisor 4 (.lstore 4) 2 6 := by decide +kernel
theorem dX11_commonDivisor_6 : dcd cX11_commonDivisor 6 (.lload_n 2) 1 7 := by decide +kernel
theorem dX11_commonDivisor_7 : dcd cX11_commonDivisor 7 (.invokestatic 312) 3 10 := by decide +kernel
theorem dX11_commonDivisor_10 : dcd cX11_commonDivisor 10 (.lstore 6) 2 12 := by decide +kernel
theorem dX11_commonDivisor_12 : dcd cX11_commonDivisor 12 (.iconst 0) 1 13 := by decide +kernel
theorem dX11_commonDivisor_13 : dcd cX11_commonDivisor 13 (.istore 8) 2 15 := by decide +kernel
theorem dX11_commonDivisor_15 : dcd cX11_commonDivisor 15 (.iload 8) 2 17 := by decide +kernel
theorem dX11_commonDivisor_17 : dcd cX11_commonDivisor 17 (.sipush 200) 3 20 := by decide +kernel
theorem dX11_commonDivisor_20 : dcb cX11_commonDivisor 20 (.if_icmp .ge (31)) (31) 51 23 := by decide +kernel
theorem dX11_commonDivisor_23 : dcd cX11_commonDivisor 23 (.lload 6) 2 25 := by decide +kernel
theorem dX11_commonDivisor_25 : dcd cX11_commonDivisor 25 (.lconst 0) 1 26 := by decide +kernel
theorem dX11_commonDivisor_26 : dcd cX11_commonDivisor 26 (.lcmp) 1 27 := by decide +kernel
theorem dX11_commonDivisor_27 : dcb cX11_commonDivisor 27 (.ifCond .eq (24)) (24) 51 30 := by decide +kernel
theorem dX11_commonDivisor_30 : dcd cX11_commonDivisor 30 (.lload 4) 2 32 := by decide +kernel
theorem dX11_commonDivisor_32 : dcd cX11_commonDivisor 32 (.lload 6) 2 34 := by decide +kernel
theorem dX11_commonDivisor_34 : dcd cX11_commonDivisor 34 (.lrem) 1 35 := by decide +kernel
theorem dX11_commonDivisor_35 : dcd cX11_commonDivisor 35 (.lstore 9) 2 37 := by decide +kernel
theorem dX11_commonDivisor_37 : dcd cX11_commonDivisor 37 (.lload 6) 2 39 := by decide +kernel
theorem dX11_commonDivisor_39 : dcd cX11_commonDivisor 39 (.lstore 4) 2 41 := by decide +kernel
theorem dX11_commonDivisor_41 : dcd cX11_commonDivisor 41 (.lload 9) 2 43 := by decide +kernel
theorem dX11_commonDivisor_43 : dcd cX11_commonDivisor 43 (.lstore 6) 2 45 := by decide +kernel
theorem dX11_commonDivisor_45 : dcd cX11_commonDivisor 45 (.iinc 8 1) 3 48 := by decide +kernel
theorem dX11_commonDivisor_48 : dcb cX11_commonDivisor 48 (.goto (-33)) (-33) 15 51 := by decide +kernel
theorem dX11_commonDivisor_51 : dcd cX11_commonDivisor 51 (.lconst 1) 1 52 := by decide +kernel
theorem dX11_commonDivisor_52 : dcd cX11_commonDivisor 52 (.lload 4) 2 54 := by decide +kernel
theorem dX11_commonDivisor_54 : dcd cX11_commonDivisor 54 (.invokestatic 316) 3 57 := by decide +kernel
theorem dX11_commonDivisor_57 : decode cX11_commonDivisor 57 = .ok (.lreturn, 1) := by decide +kernel
theorem dX11_kindOf_0 : dcd cX11_kindOf 0 (.iload_n 0) 1 1 := by decide +kernel
theorem dX11_kindOf_1 : decode cX11_kindOf 1 = .ok (.lookupswitch 41 #[(65, 39), (80, 35), (82, 37)], 35) := by decide +kernel
theorem dX11_kindOf_36 : dcd cX11_kindOf 36 (.iconst 0) 1 37 := by decide +kernel
theorem dX11_kindOf_37 : decode cX11_kindOf 37 = .ok (.ireturn, 1) := by decide +kernel
theorem dX11_kindOf_38 : dcd cX11_kindOf 38 (.iconst 1) 1 39 := by decide +kernel
theorem dX11_kindOf_39 : decode cX11_kindOf 39 = .ok (.ireturn, 1) := by decide +kernel
theorem dX11_kindOf_40 : dcd cX11_kindOf 40 (.iconst 2) 1 41 := by decide +kernel
theorem dX11_kindOf_41 : decode cX11_kindOf 41 = .ok (.ireturn, 1) := by decide +kernel
theorem dX11_kindOf_42 : dcd cX11_kindOf 42 (.bipush (-9)) 2 44 := by decide +kernel
theorem dX11_kindOf_44 : decode cX11_kindOf 44 = .ok (.ireturn, 1) := by decide +kernel
theorem dX12_init_0 : dcd cX12_init 0 (.aload_n 0) 1 1 := by decide +kernel
theorem dX12_init_1 : dcd cX12_init 1 (.invokespecial 7) 3 4 := by decide +kernel
theorem dX12_init_4 : dcd cX12_init 4 (.aload_n 0) 1 5 := by decide +kernel
theorem dX12_init_5 : dcd cX12_init 5 (.bipush 48) 2 7 := by decide +kernel
theorem dX12_init_7 : dcd cX12_init 7 (.newarray .int) 2 9 := by decide +kernel
theorem dX12_init_9 : dcd cX12_init 9 (.putfield 13) 3 12 := by decide +kernel
theorem dX12_init_12 : dcd cX12_init 12 (.aload_n 0) 1 13 := by decide +kernel
theorem dX12_init_13 : dcd cX12_init 13 (.bipush 36) 2 15 := by decide +kernel
theorem dX12_init_15 : dcd cX12_init 15 (.newarray .int) 2 17 := by decide +kernel
theorem dX12_init_17 : dcd cX12_init 17 (.putfield 17) 3 20 := by decide +kernel
theorem dX12_init_20 : dcd cX12_init 20 (.aload_n 0) 1 21 := by decide +kernel
theorem dX12_init_21 : dcd cX12_init 21 (.iconst 1) 1 22 := by decide +kernel
theorem dX12_init_22 : dcd cX12_init 22 (.putfield 20) 3 25 := by decide +kernel
theorem dX12_init_25 : dcd cX12_init 25 (.aload_n 0) 1 26 := by decide +kernel
theorem dX12_init_26 : dcd cX12_init 26 (.iconst 1) 1 27 := by decide +kernel
theorem dX12_init_27 : dcd cX12_init 27 (.putfield 23) 3 30 := by decide +kernel
theorem dX12_init_30 : dcd cX12_init 30 (.aload_n 0) 1 31 := by decide +kernel
theorem dX12_init_31 : dcd cX12_init 31 (.bipush 36) 2 33 := by decide +kernel
theorem dX12_init_33 : dcd cX12_init 33 (.newarray .int) 2 35 := by decide +kernel
theorem dX12_init_35 : dcd cX12_init 35 (.putfield 26) 3 38 := by decide +kernel
theorem dX12_init_38 : dcd cX12_init 38 (.aload_n 0) 1 39 := by decide +kernel
theorem dX12_init_39 : dcd cX12_init 39 (.iconst 1) 1 40 := by decide +kernel
theorem dX12_init_40 : dcd cX12_init 40 (.putfield 29) 3 43 := by decide +kernel
theorem dX12_init_43 : dcd cX12_init 43 (.aload_n 0) 1 44 := by decide +kernel
theorem dX12_init_44 : dcd cX12_init 44 (.bipush 24) 2 46 := by decide +kernel
theorem dX12_init_46 : dcd cX12_init 46 (.newarray .int) 2 48 := by decide +kernel
theorem dX12_init_48 : dcd cX12_init 48 (.putfield 32) 3 51 := by decide +kernel
theorem dX12_init_51 : dcd cX12_init 51 (.aload_n 0) 1 52 := by decide +kernel
theorem dX12_init_52 : dcd cX12_init 52 (.bipush 24) 2 54 := by decide +kernel
theorem dX12_init_54 : dcd cX12_init 54 (.newarray .int) 2 56 := by decide +kernel
theorem dX12_init_56 : dcd cX12_init 56 (.putfield 35) 3 59 := by decide +kernel
theorem dX12_init_59 : dcd cX12_init 59 (.aload_n 0) 1 60 := by decide +kernel
theorem dX12_init_60 : dcd cX12_init 60 (.bipush 24) 2 62 := by decide +kernel
theorem dX12_init_62 : dcd cX12_init 62 (.newarray .int) 2 64 := by decide +kernel
theorem dX12_init_64 : dcd cX12_init 64 (.putfield 38) 3 67 := by decide +kernel
theorem dX12_init_67 : dcd cX12_init 67 (.aload_n 0) 1 68 := by decide +kernel
theorem dX12_init_68 : dcd cX12_init 68 (.bipush 24) 2 70 := by decide +kernel
theorem dX12_init_70 : dcd cX12_init 70 (.newarray .int) 2 72 := by decide +kernel
theorem dX12_init_72 : dcd cX12_init 72 (.putfield 41) 3 75 := by decide +kernel
theorem dX12_init_75 : dcd cX12_init 75 (.aload_n 0) 1 76 := by decide +kernel
theorem dX12_init_76 : dcd cX12_init 76 (.bipush 24) 2 78 := by decide +kernel
theorem dX12_init_78 : dcd cX12_init 78 (.newarray .int) 2 80 := by decide +kernel
theorem dX12_init_80 : dcd cX12_init 80 (.putfield 44) 3 83 := by decide +kernel
theorem dX12_init_83 : dcd cX12_init 83 (.aload_n 0) 1 84 := by decide +kernel
theorem dX12_init_84 : dcd cX12_init 84 (.bipush 24) 2 86 := by decide +kernel
theorem dX12_init_86 : dcd cX12_init 86 (.newarray .int) 2 88 := by decide +kernel
theorem dX12_init_88 : dcd cX12_init 88 (.putfield 47) 3 91 := by decide +kernel
theorem dX12_init_91 : dcd cX12_init 91 (.aload_n 0) 1 92 := by decide +kernel
theorem dX12_init_92 : dcd cX12_init 92 (.bipush 24) 2 94 := by decide +kernel
theorem dX12_init_94 : dcd cX12_init 94 (.newarray .int) 2 96 := by decide +kernel
theorem dX12_init_96 : dcd cX12_init 96 (.putfield 50) 3 99 := by decide +kernel
theorem dX12_init_99 : dcd cX12_init 99 (.aload_n 0) 1 100 := by decide +kernel
theorem dX12_init_100 : dcd cX12_init 100 (.bipush 96) 2 102 := by decide +kernel
theorem dX12_init_102 : dcd cX12_init 102 (.newarray .int) 2 104 := by decide +kernel
theorem dX12_init_104 : dcd cX12_init 104 (.putfield 53) 3 107 := by decide +kernel
theorem dX12_init_107 : dcd cX12_init 107 (.aload_n 0) 1 108 := by decide +kernel
theorem dX12_init_108 : dcd cX12_init 108 (.sipush 266) 3 111 := by decide +kernel
theorem dX12_init_111 : dcd cX12_init 111 (.newarray .int) 2 113 := by decide +kernel
theorem dX12_init_113 : dcd cX12_init 113 (.putfield 56) 3 116 := by decide +kernel
theorem dX12_init_116 : dcd cX12_init 116 (.aload_n 0) 1 117 := by decide +kernel
theorem dX12_init_117 : dcd cX12_init 117 (.sipush 532) 3 120 := by decide +kernel
theorem dX12_init_120 : dcd cX12_init 120 (.newarray .int) 2 122 := by decide +kernel
theorem dX12_init_122 : dcd cX12_init 122 (.putfield 59) 3 125 := by decide +kernel
theorem dX12_init_125 : dcd cX12_init 125 (.aload_n 0) 1 126 := by decide +kernel
theorem dX12_init_126 : dcd cX12_init 126 (.iconst 2) 1 127 := by decide +kernel
theorem dX12_init_127 : dcd cX12_init 127 (.newarray .boolean) 2 129 := by decide +kernel
theorem dX12_init_129 : dcd cX12_init 129 (.putfield 62) 3 132 := by decide +kernel
theorem dX12_init_132 : dcd cX12_init 132 (.aload_n 0) 1 133 := by decide +kernel
theorem dX12_init_133 : dcd cX12_init 133 (.iconst 4) 1 134 := by decide +kernel
theorem dX12_init_134 : dcd cX12_init 134 (.newarray .int) 2 136 := by decide +kernel
theorem dX12_init_136 : dcd cX12_init 136 (.putfield 66) 3 139 := by decide +kernel
theorem dX12_init_139 : dcd cX12_init 139 (.aload_n 0) 1 140 := by decide +kernel
theorem dX12_init_140 : dcd cX12_init 140 (.iconst 4) 1 141 := by decide +kernel
theorem dX12_init_141 : dcd cX12_init 141 (.newarray .int) 2 143 := by decide +kernel
theorem dX12_init_143 : dcd cX12_init 143 (.putfield 69) 3 146 := by decide +kernel
theorem dX12_init_146 : dcd cX12_init 146 (.aload_n 0) 1 147 := by decide +kernel
theorem dX12_init_147 : dcd cX12_init 147 (.iconst 4) 1 148 := by decide +kernel
theorem dX12_init_148 : dcd cX12_init 148 (.newarray .int) 2 150 := by decide +kernel
theorem dX12_init_150 : dcd cX12_init 150 (.putfield 72) 3 153 := by decide +kernel
theorem dX12_init_153 : dcd cX12_init 153 (.aload_n 0) 1 154 := by decide +kernel
theorem dX12_init_154 : dcd cX12_init 154 (.sipush 1296) 3 157 := by decide +kernel
theorem dX12_init_157 : dcd cX12_init 157 (.newarray .int) 2 159 := by decide +kernel
theorem dX12_init_159 : dcd cX12_init 159 (.putfield 75) 3 162 := by decide +kernel
theorem dX12_init_162 : dcd cX12_init 162 (.aload_n 0) 1 163 := by decide +kernel
theorem dX12_init_163 : dcd cX12_init 163 (.sipush 1296) 3 166 := by decide +kernel
theorem dX12_init_166 : dcd cX12_init 166 (.newarray .int) 2 168 := by decide +kernel
theorem dX12_init_168 : dcd cX12_init 168 (.putfield 78) 3 171 := by decide +kernel
theorem dX12_init_171 : dcd cX12_init 171 (.aload_n 0) 1 172 := by decide +kernel
theorem dX12_init_172 : dcd cX12_init 172 (.sipush 20736) 3 175 := by decide +kernel
theorem dX12_init_175 : dcd cX12_init 175 (.newarray .int) 2 177 := by decide +kernel
theorem dX12_init_177 : dcd cX12_init 177 (.putfield 81) 3 180 := by decide +kernel
theorem dX12_init_180 : dcd cX12_init 180 (.aload_n 0) 1 181 := by decide +kernel
theorem dX12_init_181 : dcd cX12_init 181 (.sipush 1296) 3 184 := by decide +kernel
theorem dX12_init_184 : dcd cX12_init 184 (.newarray .int) 2 186 := by decide +kernel
theorem dX12_init_186 : dcd cX12_init 186 (.putfield 84) 3 189 := by decide +kernel
theorem dX12_init_189 : dcd cX12_init 189 (.aload_n 0) 1 190 := by decide +kernel
theorem dX12_init_190 : dcd cX12_init 190 (.bipush 6) 2 192 := by decide +kernel
theorem dX12_init_192 : dcd cX12_init 192 (.newarray .int) 2 194 := by decide +kernel
theorem dX12_init_194 : dcd cX12_init 194 (.putfield 87) 3 197 := by decide +kernel
theorem dX12_init_197 : dcd cX12_init 197 (.aload_n 0) 1 198 := by decide +kernel
theorem dX12_init_198 : dcd cX12_init 198 (.iconst 5) 1 199 := by decide +kernel
theorem dX12_init_199 : dcd cX12_init 199 (.putfield 90) 3 202 := by decide +kernel
theorem dX12_init_202 : dcd cX12_init 202 (.aload_n 0) 1 203 := by decide +kernel
theorem dX12_init_203 : dcd cX12_init 203 (.bipush 6) 2 205 := by decide +kernel
theorem dX12_init_205 : dcd cX12_init 205 (.putfield 93) 3 208 := by decide +kernel
theorem dX12_init_208 : dcd cX12_init 208 (.aload_n 0) 1 209 := by decide +kernel
theorem dX12_init_209 : dcd cX12_init 209 (.bipush 16) 2 211 := by decide +kernel
theorem dX12_init_211 : dcd cX12_init 211 (.newarray .int) 2 213 := by decide +kernel
theorem dX12_init_213 : dcd cX12_init 213 (.putfield 96) 3 216 := by decide +kernel
theorem dX12_init_216 : dcd cX12_init 216 (.aload_n 0) 1 217 := by decide +kernel
theorem dX12_init_217 : dcd cX12_init 217 (.bipush 10) 2 219 := by decide +kernel
theorem dX12_init_219 : dcd cX12_init 219 (.newarray .int) 2 221 := by decide +kernel
theorem dX12_init_221 : dcd cX12_init 221 (.putfield 99) 3 224 := by decide +kernel
theorem dX12_init_224 : dcd cX12_init 224 (.aload_n 0) 1 225 := by decide +kernel
theorem dX12_init_225 : dcd cX12_init 225 (.bipush 10) 2 227 := by decide +kernel
theorem dX12_init_227 : dcd cX12_init 227 (.newarray .int) 2 229 := by decide +kernel
theorem dX12_init_229 : dcd cX12_init 229 (.putfield 102) 3 232 := by decide +kernel
theorem dX12_init_232 : dcd cX12_init 232 (.aload_n 0) 1 233 := by decide +kernel
theorem dX12_init_233 : dcd cX12_init 233 (.iconst 3) 1 234 := by decide +kernel
theorem dX12_init_234 : dcd cX12_init 234 (.putfield 105) 3 237 := by decide +kernel
theorem dX12_init_237 : dcd cX12_init 237 (.aload_n 0) 1 238 := by decide +kernel
theorem dX12_init_238 : dcd cX12_init 238 (.iconst 1) 1 239 := by decide +kernel
theorem dX12_init_239 : dcd cX12_init 239 (.putfield 108) 3 242 := by decide +kernel
theorem dX12_init_242 : dcd cX12_init 242 (.aload_n 0) 1 243 := by decide +kernel
theorem dX12_init_243 : dcd cX12_init 243 (.getfield 38) 3 246 := by decide +kernel
theorem dX12_init_246 : dcd cX12_init 246 (.iconst 0) 1 247 := by decide +kernel
theorem dX12_init_247 : dcd cX12_init 247 (.iconst 1) 1 248 := by decide +kernel
theorem dX12_init_248 : dcd cX12_init 248 (.iastore) 1 249 := by decide +kernel
theorem dX12_init_249 : dcd cX12_init 249 (.aload_n 0) 1 250 := by decide +kernel
theorem dX12_init_250 : dcd cX12_init 250 (.getfield 41) 3 253 := by decide +kernel
theorem dX12_init_253 : dcd cX12_init 253 (.iconst 0) 1 254 := by decide +kernel
theorem dX12_init_254 : dcd cX12_init 254 (.iconst 1) 1 255 := by decide +kernel
theorem dX12_init_255 : dcd cX12_init 255 (.iastore) 1 256 := by decide +kernel
theorem dX12_init_256 : decode cX12_init 256 = .ok (.return_, 1) := by decide +kernel
theorem dX12_in_0 : dcd cX12_in 0 (.lload_n 0) 1 1 := by decide +kernel
theorem dX12_in_1 : dcd cX12_in 1 (.lload_n 2) 1 2 := by decide +kernel
theorem dX12_in_2 : dcd cX12_in 2 (.lcmp) 1 3 := by decide +kernel
theorem dX12_in_3 : dcb cX12_in 3 (.ifCond .lt (14)) (14) 17 6 := by decide +kernel
theorem dX12_in_6 : dcd cX12_in 6 (.lload_n 0) 1 7 := by decide +kernel
theorem dX12_in_7 : dcd cX12_in 7 (.lload 4) 2 9 := by decide +kernel
theorem dX12_in_9 : dcd cX12_in 9 (.lcmp) 1 10 := by decide +kernel
theorem dX12_in_10 : dcb cX12_in 10 (.ifCond .gt (7)) (7) 17 13 := by decide +kernel
theorem dX12_in_13 : dcd cX12_in 13 (.iconst 1) 1 14 := by decide +kernel
theorem dX12_in_14 : dcb cX12_in 14 (.goto (4)) (4) 18 17 := by decide +kernel
theorem dX12_in_17 : dcd cX12_in 17 (.iconst 0) 1 18 := by decide +kernel
theorem dX12_in_18 : decode cX12_in 18 = .ok (.ireturn, 1) := by decide +kernel
theorem dX12_write_0 : dcd cX12_write 0 (.aload_n 0) 1 1 := by decide +kernel
theorem dX12_write_1 : dcd cX12_write 1 (.iconst 0) 1 2 := by decide +kernel
theorem dX12_write_2 : dcd cX12_write 2 (.putfield 1) 3 5 := by decide +kernel
theorem dX12_write_5 : dcd cX12_write 5 (.iload_n 1) 1 6 := by decide +kernel
theorem dX12_write_6 : dcd cX12_write 6 (.i2l) 1 7 := by decide +kernel
theorem dX12_write_7 : dcd cX12_write 7 (.lconst 1) 1 8 := by decide +kernel
theorem dX12_write_8 : dcd cX12_write 8 (.ldc2_w 111) 3 11 := by decide +kernel
theorem dX12_write_11 : dcd cX12_write 11 (.invokestatic 113) 3 14 := by decide +kernel
theorem dX12_write_14 : dcb cX12_write 14 (.ifCond .ne (6)) (6) 20 17 := by decide +kernel
theorem dX12_write_17 : dcd cX12_write 17 (.bipush (-2)) 2 19 := by decide +kernel
theorem dX12_write_19 : decode cX12_write 19 = .ok (.ireturn, 1) := by decide +kernel
theorem dX12_write_20 : dcd cX12_write 20 (.aload_n 0) 1 21 := by decide +kernel
theorem dX12_write_21 : dcd cX12_write 21 (.getfield 117) 3 24 := by decide +kernel
theorem dX12_write_24 : dcd cX12_write 24 (.iload_n 1) 1 25 := by decide +kernel
theorem dX12_write_25 : dcd cX12_write 25 (.iadd) 1 26 := by decide +kernel
theorem dX12_write_26 : dcd cX12_write 26 (.bipush 48) 2 28 := by decide +kernel
theorem dX12_write_28 : dcb cX12_write 28 (.if_icmp .le (6)) (6) 34 31 := by decide +kernel
theorem dX12_write_31 : dcd cX12_write 31 (.bipush (-4)) 2 33 := by decide +kernel
theorem dX12_write_33 : decode cX12_write 33 = .ok (.ireturn, 1) := by decide +kernel
theorem dX12_write_34 : dcd cX12_write 34 (.iload_n 1) 1 35 := by decide +kernel
theorem dX12_write_35 : dcd cX12_write 35 (.iconst 1) 1 36 := by decide +kernel
theorem dX12_write_36 : dcd cX12_write 36 (.isub) 1 37 := by decide +kernel
theorem dX12_write_37 : dcd cX12_write 37 (.istore 4) 2 39 := by decide +kernel
theorem dX12_write_39 : dcd cX12_write 39 (.iload 4) 2 41 := by decide +kernel
theorem dX12_write_41 : dcb cX12_write 41 (.ifCond .lt (40)) (40) 81 44 := by decide +kernel
theorem dX12_write_44 : dcd cX12_write 44 (.aload_n 0) 1 45 := by decide +kernel
theorem dX12_write_45 : dcd cX12_write 45 (.getfield 13) 3 48 := by decide +kernel
theorem dX12_write_48 : dcd cX12_write 48 (.aload_n 0) 1 49 := by decide +kernel
theorem dX12_write_49 : dcd cX12_write 49 (.getfield 117) 3 52 := by decide +kernel
theorem dX12_write_52 : dcd cX12_write 52 (.lload_n 2) 1 53 := by decide +kernel
theorem dX12_write_53 : dcd cX12_write 53 (.bipush 8) 2 55 := by decide +kernel
theorem dX12_write_55 : dcd cX12_write 55 (.iload 4) 2 57 := by decide +kernel
theorem dX12_write_57 : dcd cX12_write 57 (.imul) 1 58 := by decide +kernel
theorem dX12_write_58 : dcd cX12_write 58 (.lshr) 1 59 := by decide +kernel
theorem dX12_write_59 : dcd cX12_write 59 (.l2i) 1 60 := by decide +kernel
theorem dX12_write_60 : dcd cX12_write 60 (.sipush 255) 3 63 := by decide +kernel
theorem dX12_write_63 : dcd cX12_write 63 (.iand) 1 64 := by decide +kernel
theorem dX12_write_64 : dcd cX12_write 64 (.iastore) 1 65 := by decide +kernel
theorem dX12_write_65 : dcd cX12_write 65 (.aload_n 0) 1 66 := by decide +kernel
theorem dX12_write_66 : dcd cX12_write 66 (.dup) 1 67 := by decide +kernel
theorem dX12_write_67 : dcd cX12_write 67 (.getfield 117) 3 70 := by decide +kernel
theorem dX12_write_70 : dcd cX12_write 70 (.iconst 1) 1 71 := by decide +kernel
theorem dX12_write_71 : dcd cX12_write 71 (.iadd) 1 72 := by decide +kernel
theorem dX12_write_72 : dcd cX12_write 72 (.putfield 117) 3 75 := by decide +kernel
theorem dX12_write_75 : dcd cX12_write 75 (.iinc 4 (-1)) 3 78 := by decide +kernel
theorem dX12_write_78 : dcb cX12_write 78 (.goto (-39)) (-39) 39 81 := by decide +kernel
theorem dX12_write_81 : dcd cX12_write 81 (.aload_n 0) 1 82 := by decide +kernel
theorem dX12_write_82 : dcd cX12_write 82 (.getfield 117) 3 85 := by decide +kernel
theorem dX12_write_85 : decode cX12_write 85 = .ok (.ireturn, 1) := by decide +kernel
theorem dX12_wipe_0 : dcd cX12_wipe 0 (.aload_n 0) 1 1 := by decide +kernel
theorem dX12_wipe_1 : dcd cX12_wipe 1 (.iconst 0) 1 2 := by decide +kernel
theorem dX12_wipe_2 : dcd cX12_wipe 2 (.putfield 1) 3 5 := by decide +kernel
theorem dX12_wipe_5 : dcd cX12_wipe 5 (.aload_n 0) 1 6 := by decide +kernel
theorem dX12_wipe_6 : dcd cX12_wipe 6 (.getfield 117) 3 9 := by decide +kernel
theorem dX12_wipe_9 : dcd cX12_wipe 9 (.istore_n 1) 1 10 := by decide +kernel
theorem dX12_wipe_10 : dcd cX12_wipe 10 (.aload_n 0) 1 11 := by decide +kernel
theorem dX12_wipe_11 : dcd cX12_wipe 11 (.iconst 0) 1 12 := by decide +kernel
theorem dX12_wipe_12 : dcd cX12_wipe 12 (.putfield 117) 3 15 := by decide +kernel
theorem dX12_wipe_15 : dcd cX12_wipe 15 (.iload_n 1) 1 16 := by decide +kernel
theorem dX12_wipe_16 : decode cX12_wipe 16 = .ok (.ireturn, 1) := by decide +kernel
theorem dX12_kind_0 : dcd cX12_kind 0 (.iload_n 0) 1 1 := by decide +kernel
theorem dX12_kind_1 : dcd cX12_kind 1 (.bipush 80) 2 3 := by decide +kernel
theorem dX12_kind_3 : dcb cX12_kind 3 (.if_icmp .ne (7)) (7) 10 6 := by decide +kernel
theorem dX12_kind_6 : dcd cX12_kind 6 (.iconst 0) 1 7 := by decide +kernel
theorem dX12_kind_7 : dcb cX12_kind 7 (.goto (25)) (25) 32 10 := by decide +kernel
theorem dX12_kind_10 : dcd cX12_kind 10 (.iload_n 0) 1 11 := by decide +kernel
theorem dX12_kind_11 : dcd cX12_kind 11 (.bipush 82) 2 13 := by decide +kernel
theorem dX12_kind_13 : dcb cX12_kind 13 (.if_icmp .ne (7)) (7) 20 16 := by decide +kernel
theorem dX12_kind_16 : dcd cX12_kind 16 (.iconst 1) 1 17 := by decide +kernel
theorem dX12_kind_17 : dcb cX12_kind 17 (.goto (15)) (15) 32 20 := by decide +kernel
theorem dX12_kind_20 : dcd cX12_kind 20 (.iload_n 0) 1 21 := by decide +kernel
theorem dX12_kind_21 : dcd cX12_kind 21 (.bipush 65) 2 23 := by decide +kernel
theorem dX12_kind_23 : dcb cX12_kind 23 (.if_icmp .ne (7)) (7) 30 26 := by decide +kernel
theorem dX12_kind_26 : dcd cX12_kind 26 (.iconst 2) 1 27 := by decide +kernel
theorem dX12_kind_27 : dcb cX12_kind 27 (.goto (5)) (5) 32 30 := by decide +kernel
theorem dX12_kind_30 : dcd cX12_kind 30 (.bipush (-9)) 2 32 := by decide +kernel
theorem dX12_kind_32 : decode cX12_kind 32 = .ok (.ireturn, 1) := by decide +kernel
theorem dX12_readForm_0 : dcd cX12_readForm 0 (.aload_n 0) 1 1 := by decide +kernel
theorem dX12_readForm_1 : dcd cX12_readForm 1 (.iconst 1) 1 2 := by decide +kernel
theorem dX12_readForm_2 : dcd cX12_readForm 2 (.putfield 120) 3 5 := by decide +kernel
theorem dX12_readForm_5 : dcd cX12_readForm 5 (.aload_n 0) 1 6 := by decide +kernel
theorem dX12_readForm_6 : dcd cX12_readForm 6 (.iconst 0) 1 7 := by decide +kernel
theorem dX12_readForm_7 : dcd cX12_readForm 7 (.putfield 123) 3 10 := by decide +kernel
theorem dX12_readForm_10 : dcd cX12_readForm 10 (.iconst 0) 1 11 := by decide +kernel
theorem dX12_readForm_11 : dcd cX12_readForm 11 (.istore_n 1) 1 12 := by decide +kernel
theorem dX12_readForm_12 : dcd cX12_readForm 12 (.iconst 0) 1 13 := by decide +kernel
theorem dX12_readForm_13 : dcd cX12_readForm 13 (.istore_n 2) 1 14 := by decide +kernel
theorem dX12_readForm_14 : dcd cX12_readForm 14 (.iload_n 2) 1 15 := by decide +kernel
theorem dX12_readForm_15 : dcd cX12_readForm 15 (.aload_n 0) 1 16 := by decide +kernel
theorem dX12_readForm_16 : dcd cX12_readForm 16 (.getfield 117) 3 19 := by decide +kernel
theorem dX12_readForm_19 : dcb cX12_readForm 19 (.if_icmp .ge (147)) (147) 166 22 := by decide +kernel
theorem dX12_readForm_22 : dcd cX12_readForm 22 (.aload_n 0) 1 23 := by decide +kernel
theorem dX12_readForm_23 : dcd cX12_readForm 23 (.getfield 120) 3 26 := by decide +kernel
theorem dX12_readForm_26 : dcd cX12_readForm 26 (.iconst 1) 1 27 := by decide +kernel
theorem dX12_readForm_27 : dcb cX12_readForm 27 (.if_icmp .ne (8)) (8) 35 30 := by decide +kernel
theorem dX12_readForm_30 : dcd cX12_readForm 30 (.bipush 6) 2 32 := by decide +kernel
theorem dX12_readForm_32 : dcb cX12_readForm 32 (.goto (7)) (7) 39 35 := by decide +kernel
theorem dX12_readForm_35 : dcd cX12_readForm 35 (.aload_n 0) 1 36 := by decide +kernel
theorem dX12_readForm_36 : dcd cX12_readForm 36 (.getfield 123) 3 39 := by decide +kernel
theorem dX12_readForm_39 : dcd cX12_readForm 39 (.istore_n 3) 1 40 := by decide +kernel
theorem dX12_readForm_40 : dcd cX12_readForm 40 (.aload_n 0) 1 41 := by decide +kernel
theorem dX12_readForm_41 : dcd cX12_readForm 41 (.getfield 13) 3 44 := by decide +kernel
theorem dX12_readForm_44 : dcd cX12_readForm 44 (.iload_n 2) 1 45 := by decide +kernel
theorem dX12_readForm_45 : dcd cX12_readForm 45 (.iaload) 1 46 := by decide +kernel
theorem dX12_readForm_46 : dcd cX12_readForm 46 (.bipush 47) 2 48 := by decide +kernel
theorem dX12_readForm_48 : dcb cX12_readForm 48 (.if_icmp .ne (66)) (66) 114 51 := by decide +kernel
theorem dX12_readForm_51 : dcd cX12_readForm 51 (.iload_n 1) 1 52 := by decide +kernel
theorem dX12_readForm_52 : dcb cX12_readForm 52 (.ifCond .le (23)) (23) 75 55 := by decide +kernel
theorem dX12_readForm_55 : dcd cX12_readForm 55 (.aload_n 0) 1 56 := by decide +kernel
theorem dX12_readForm_56 : dcd cX12_readForm 56 (.getfield 120) 3 59 := by decide +kernel
theorem dX12_readForm_59 : dcd cX12_readForm 59 (.iconst 1) 1 60 := by decide +kernel
theorem dX12_readForm_60 : dcb cX12_readForm 60 (.if_icmp .eq (11)) (11) 71 63 := by decide +kernel
theorem dX12_readForm_63 : dcd cX12_readForm 63 (.iload_n 1) 1 64 := by decide +kernel
theorem dX12_readForm_64 : dcd cX12_readForm 64 (.aload_n 0) 1 65 := by decide +kernel
theorem dX12_readForm_65 : dcd cX12_readForm 65 (.getfield 123) 3 68 := by decide +kernel
theorem dX12_readForm_68 : dcb cX12_readForm 68 (.if_icmp .ne (7)) (7) 75 71 := by decide +kernel
theorem dX12_readForm_71 : dcd cX12_readForm 71 (.iconst 1) 1 72 := by decide +kernel
theorem dX12_readForm_72 : dcb cX12_readForm 72 (.goto (4)) (4) 76 75 := by decide +kernel
theorem dX12_readForm_75 : dcd cX12_readForm 75 (.iconst 0) 1 76 := by decide +kernel
theorem dX12_readForm_76 : dcd cX12_readForm 76 (.istore 4) 2 78 := by decide +kernel
theorem dX12_readForm_78 : dcd cX12_readForm 78 (.iload 4) 2 80 := by decide +kernel
theorem dX12_readForm_80 : dcb cX12_readForm 80 (.ifCond .eq (12)) (12) 92 83 := by decide +kernel
theorem dX12_readForm_83 : dcd cX12_readForm 83 (.aload_n 0) 1 84 := by decide +kernel
theorem dX12_readForm_84 : dcd cX12_readForm 84 (.getfield 120) 3 87 := by decide +kernel
theorem dX12_readForm_87 : dcd cX12_readForm 87 (.bipush 6) 2 89 := by decide +kernel
theorem dX12_readForm_89 : dcb cX12_readForm 89 (.if_icmp .ne (5)) (5) 94 92 := by decide +kernel
theorem dX12_readForm_92 : dcd cX12_readForm 92 (.iload_n 2) 1 93 := by decide +kernel
theorem dX12_readForm_93 : decode cX12_readForm 93 = .ok (.ireturn, 1) := by decide +kernel
theorem dX12_readForm_94 : dcd cX12_readForm 94 (.aload_n 0) 1 95 := by decide +kernel
theorem dX12_readForm_95 : dcd cX12_readForm 95 (.iload_n 1) 1 96 := by decide +kernel
theorem dX12_readForm_96 : dcd cX12_readForm 96 (.putfield 123) 3 99 := by decide +kernel
theorem dX12_readForm_99 : dcd cX12_readForm 99 (.aload_n 0) 1 100 := by decide +kernel
theorem dX12_readForm_100 : dcd cX12_readForm 100 (.dup) 1 101 := by decide +kernel
theorem dX12_readForm_101 : dcd cX12_readForm 101 (.getfield 120) 3 104 := by decide +kernel
theorem dX12_readForm_104 : dcd cX12_readForm 104 (.iconst 1) 1 105 := by decide +kernel
theorem dX12_readForm_105 : dcd cX12_readForm 105 (.iadd) 1 106 := by decide +kernel
theorem dX12_readForm_106 : dcd cX12_readForm 106 (.putfield 120) 3 109 := by decide +kernel
theorem dX12_readForm_109 : dcd cX12_readForm 109 (.iconst 0) 1 110 := by decide +kernel
theorem dX12_readForm_110 : dcd cX12_readForm 110 (.istore_n 1) 1 111 := by decide +kernel
theorem dX12_readForm_111 : dcb cX12_readForm 111 (.goto (49)) (49) 160 114 := by decide +kernel
theorem dX12_readForm_114 : dcd cX12_readForm 114 (.aload_n 0) 1 115 := by decide +kernel
theorem dX12_readForm_115 : dcd cX12_readForm 115 (.getfield 13) 3 118 := by decide +kernel
theorem dX12_readForm_118 : dcd cX12_readForm 118 (.iload_n 2) 1 119 := by decide +kernel
theorem dX12_readForm_119 : dcd cX12_readForm 119 (.iaload) 1 120 := by decide +kernel
theorem dX12_readForm_120 : dcd cX12_readForm 120 (.invokestatic 126) 3 123 := by decide +kernel
theorem dX12_readForm_123 : dcd cX12_readForm 123 (.istore 4) 2 125 := by decide +kernel
theorem dX12_readForm_125 : dcd cX12_readForm 125 (.iload 4) 2 127 := by decide +kernel
theorem dX12_readForm_127 : dcd cX12_readForm 127 (.bipush (-9)) 2 129 := by decide +kernel
theorem dX12_readForm_129 : dcb cX12_readForm 129 (.if_icmp .eq (8)) (8) 137 132 := by decide +kernel
theorem dX12_readForm_132 : dcd cX12_readForm 132 (.iload_n 1) 1 133 := by decide +kernel
theorem dX12_readForm_133 : dcd cX12_readForm 133 (.iload_n 3) 1 134 := by decide +kernel
theorem dX12_readForm_134 : dcb cX12_readForm 134 (.if_icmp .ne (5)) (5) 139 137 := by decide +kernel
theorem dX12_readForm_137 : dcd cX12_readForm 137 (.iload_n 2) 1 138 := by decide +kernel
theorem dX12_readForm_138 : decode cX12_readForm 138 = .ok (.ireturn, 1) := by decide +kernel
theorem dX12_readForm_139 : dcd cX12_readForm 139 (.aload_n 0) 1 140 := by decide +kernel
theorem dX12_readForm_140 : dcd cX12_readForm 140 (.getfield 26) 3 143 := by decide +kernel
theorem dX12_readForm_143 : dcd cX12_readForm 143 (.bipush 6) 2 145 := by decide +kernel
theorem dX12_readForm_145 : dcd cX12_readForm 145 (.aload_n 0) 1 146 := by decide +kernel
theorem dX12_readForm_146 : dcd cX12_readForm 146 (.getfield 120) 3 149 := by decide +kernel
theorem dX12_readForm_149 : dcd cX12_readForm 149 (.iconst 1) 1 150 := by decide +kernel
theorem dX12_readForm_150 : dcd cX12_readForm 150 (.isub) 1 151 := by decide +kernel
theorem dX12_readForm_151 : dcd cX12_readForm 151 (.imul) 1 152 := by decide +kernel
theorem dX12_readForm_152 : dcd cX12_readForm 152 (.iload_n 1) 1 153 := by decide +kernel
theorem dX12_readForm_153 : dcd cX12_readForm 153 (.iadd) 1 154 := by decide +kernel
theorem dX12_readForm_154 : dcd cX12_readForm 154 (.iload 4) 2 156 := by decide +kernel
theorem dX12_readForm_156 : dcd cX12_readForm 156 (.iastore) 1 157 := by decide +kernel
theorem dX12_readForm_157 : dcd cX12_readForm 157 (.iinc 1 1) 3 160 := by decide +kernel
theorem dX12_readForm_160 : dcd cX12_readForm 160 (.iinc 2 1) 3 163 := by decide +kernel
theorem dX12_readForm_163 : dcb cX12_readForm 163 (.goto (-149)) (-149) 14 166 := by decide +kernel
theorem dX12_readForm_166 : dcd cX12_readForm 166 (.iload_n 1) 1 167 := by decide +kernel
theorem dX12_readForm_167 : dcb cX12_readForm 167 (.ifCond .eq (19)) (19) 186 170 := by decide +kernel
theorem dX12_readForm_170 : dcd cX12_readForm 170 (.aload_n 0) 1 171 := by decide +kernel
theorem dX12_readForm_171 : dcd cX12_readForm 171 (.getfield 120) 3 174 := by decide +kernel
theorem dX12_readForm_174 : dcd cX12_readForm 174 (.iconst 1) 1 175 := by decide +kernel
theorem dX12_readForm_175 : dcb cX12_readForm 175 (.if_icmp .le (16)) (16) 191 178 := by decide +kernel
theorem dX12_readForm_178 : dcd cX12_readForm 178 (.iload_n 1) 1 179 := by decide +kernel
theorem dX12_readForm_179 : dcd cX12_readForm 179 (.aload_n 0) 1 180 := by decide +kernel
theorem dX12_readForm_180 : dcd cX12_readForm 180 (.getfield 123) 3 183 := by decide +kernel
theorem dX12_readForm_183 : dcb cX12_readForm 183 (.if_icmp .ge (8)) (8) 191 186 := by decide +kernel
theorem dX12_readForm_186 : dcd cX12_readForm 186 (.aload_n 0) 1 187 := by decide +kernel
theorem dX12_readForm_187 : dcd cX12_readForm 187 (.getfield 117) 3 190 := by decide +kernel
theorem dX12_readForm_190 : decode cX12_readForm 190 = .ok (.ireturn, 1) := by decide +kernel
theorem dX12_readForm_191 : dcd cX12_readForm 191 (.aload_n 0) 1 192 := by decide +kernel
theorem dX12_readForm_192 : dcd cX12_readForm 192 (.iload_n 1) 1 193 := by decide +kernel
theorem dX12_readForm_193 : dcd cX12_readForm 193 (.putfield 123) 3 196 := by decide +kernel
theorem dX12_readForm_196 : dcd cX12_readForm 196 (.bipush (-9)) 2 198 := by decide +kernel
theorem dX12_readForm_198 : decode cX12_readForm 198 = .ok (.ireturn, 1) := by decide +kernel
theorem dX12_fault_0 : dcd cX12_fault 0 (.aload_n 0) 1 1 := by decide +kernel
theorem dX12_fault_1 : dcd cX12_fault 1 (.iconst 0) 1 2 := by decide +kernel
theorem dX12_fault_2 : dcd cX12_fault 2 (.putfield 1) 3 5 := by decide +kernel
theorem dX12_fault_5 : dcd cX12_fault 5 (.aload_n 0) 1 6 := by decide +kernel
theorem dX12_fault_6 : dcd cX12_fault 6 (.invokevirtual 130) 3 9 := by decide +kernel
theorem dX12_fault_9 : decode cX12_fault 9 = .ok (.ireturn, 1) := by decide +kernel
theorem dX12_begin_0 : dcd cX12_begin 0 (.aload_n 0) 1 1 := by decide +kernel
theorem dX12_begin_1 : dcd cX12_begin 1 (.iconst 1) 1 2 := by decide +kernel
theorem dX12_begin_2 : dcd cX12_begin 2 (.putfield 29) 3 5 := by decide +kernel
theorem dX12_begin_5 : dcd cX12_begin 5 (.aload_n 0) 1 6 := by decide +kernel
theorem dX12_begin_6 : dcd cX12_begin 6 (.getfield 32) 3 9 := by decide +kernel
theorem dX12_begin_9 : dcd cX12_begin 9 (.iconst 0) 1 10 := by decide +kernel
theorem dX12_begin_10 : dcd cX12_begin 10 (.iconst 0) 1 11 := by decide +kernel
theorem dX12_begin_11 : dcd cX12_begin 11 (.iastore) 1 12 := by decide +kernel
theorem dX12_begin_12 : dcd cX12_begin 12 (.aload_n 0) 1 13 := by decide +kernel
theorem dX12_begin_13 : dcd cX12_begin 13 (.getfield 35) 3 16 := by decide +kernel
theorem dX12_begin_16 : dcd cX12_begin 16 (.iconst 0) 1 17 := by decide +kernel
theorem dX12_begin_17 : dcd cX12_begin 17 (.iconst 0) 1 18 := by decide +kernel
theorem dX12_begin_18 : dcd cX12_begin 18 (.iastore) 1 19 := by decide +kernel
theorem dX12_begin_19 : dcd cX12_begin 19 (.aload_n 0) 1 20 := by decide +kernel
theorem dX12_begin_20 : dcd cX12_begin 20 (.getfield 38) 3 23 := by decide +kernel
theorem dX12_begin_23 : dcd cX12_begin 23 (.iconst 0) 1 24 := by decide +kernel
theorem dX12_begin_24 : dcd cX12_begin 24 (.aload_n 0) 1 25 := by decide +kernel
theorem dX12_begin_25 : dcd cX12_begin 25 (.getfield 20) 3 28 := by decide +kernel
theorem dX12_begin_28 : dcd cX12_begin 28 (.iastore) 1 29 := by decide +kernel
theorem dX12_begin_29 : dcd cX12_begin 29 (.aload_n 0) 1 30 := by decide +kernel
theorem dX12_begin_30 : dcd cX12_begin 30 (.getfield 41) 3 33 := by decide +kernel
theorem dX12_begin_33 : dcd cX12_begin 33 (.iconst 0) 1 34 := by decide +kernel
theorem dX12_begin_34 : dcd cX12_begin 34 (.aload_n 0) 1 35 := by decide +kernel
theorem dX12_begin_35 : dcd cX12_begin 35 (.getfield 23) 3 38 := by decide +kernel
theorem dX12_begin_38 : dcd cX12_begin 38 (.iastore) 1 39 := by decide +kernel
theorem dX12_begin_39 : dcd cX12_begin 39 (.aload_n 0) 1 40 := by decide +kernel
theorem dX12_begin_40 : dcd cX12_begin 40 (.getfield 44) 3 43 := by decide +kernel
theorem dX12_begin_43 : dcd cX12_begin 43 (.iconst 0) 1 44 := by decide +kernel
theorem dX12_begin_44 : dcd cX12_begin 44 (.iconst 0) 1 45 := by decide +kernel
theorem dX12_begin_45 : dcd cX12_begin 45 (.iastore) 1 46 := by decide +kernel
theorem dX12_begin_46 : dcd cX12_begin 46 (.aload_n 0) 1 47 := by decide +kernel
theorem dX12_begin_47 : dcd cX12_begin 47 (.getfield 47) 3 50 := by decide +kernel
theorem dX12_begin_50 : dcd cX12_begin 50 (.iconst 0) 1 51 := by decide +kernel
theorem dX12_begin_51 : dcd cX12_begin 51 (.iconst 0) 1 52 := by decide +kernel
theorem dX12_begin_52 : dcd cX12_begin 52 (.iastore) 1 53 := by decide +kernel
theorem dX12_begin_53 : dcd cX12_begin 53 (.aload_n 0) 1 54 := by decide +kernel
theorem dX12_begin_54 : dcd cX12_begin 54 (.getfield 50) 3 57 := by decide +kernel
theorem dX12_begin_57 : dcd cX12_begin 57 (.iconst 0) 1 58 := by decide +kernel
theorem dX12_begin_58 : dcd cX12_begin 58 (.iconst 0) 1 59 := by decide +kernel
theorem dX12_begin_59 : dcd cX12_begin 59 (.iastore) 1 60 := by decide +kernel
theorem dX12_begin_60 : dcd cX12_begin 60 (.iconst 0) 1 61 := by decide +kernel
theorem dX12_begin_61 : dcd cX12_begin 61 (.istore_n 1) 1 62 := by decide +kernel
theorem dX12_begin_62 : dcd cX12_begin 62 (.iload_n 1) 1 63 := by decide +kernel
theorem dX12_begin_63 : dcd cX12_begin 63 (.iconst 4) 1 64 := by decide +kernel
theorem dX12_begin_64 : dcb cX12_begin 64 (.if_icmp .ge (16)) (16) 80 67 := by decide +kernel
theorem dX12_begin_67 : dcd cX12_begin 67 (.aload_n 0) 1 68 := by decide +kernel
theorem dX12_begin_68 : dcd cX12_begin 68 (.getfield 53) 3 71 := by decide +kernel
theorem dX12_begin_71 : dcd cX12_begin 71 (.iload_n 1) 1 72 := by decide +kernel
theorem dX12_begin_72 : dcd cX12_begin 72 (.iconst 0) 1 73 := by decide +kernel
theorem dX12_begin_73 : dcd cX12_begin 73 (.iastore) 1 74 := by decide +kernel
theorem dX12_begin_74 : dcd cX12_begin 74 (.iinc 1 1) 3 77 := by decide +kernel
theorem dX12_begin_77 : dcb cX12_begin 77 (.goto (-15)) (-15) 62 80 := by decide +kernel
theorem dX12_begin_80 : dcd cX12_begin 80 (.aload_n 0) 1 81 := by decide +kernel
theorem dX12_begin_81 : dcd cX12_begin 81 (.iconst 0) 1 82 := by decide +kernel
theorem dX12_begin_82 : dcd cX12_begin 82 (.putfield 134) 3 85 := by decide +kernel
theorem dX12_begin_85 : dcd cX12_begin 85 (.aload_n 0) 1 86 := by decide +kernel
theorem dX12_begin_86 : dcd cX12_begin 86 (.getfield 62) 3 89 := by decide +kernel
theorem dX12_begin_89 : dcd cX12_begin 89 (.iconst 0) 1 90 := by decide +kernel
theorem dX12_begin_90 : dcd cX12_begin 90 (.iconst 0) 1 91 := by decide +kernel
theorem dX12_begin_91 : dcd cX12_begin 91 (.bastore) 1 92 := by decide +kernel
theorem dX12_begin_92 : dcd cX12_begin 92 (.aload_n 0) 1 93 := by decide +kernel
theorem dX12_begin_93 : dcd cX12_begin 93 (.getfield 62) 3 96 := by decide +kernel
theorem dX12_begin_96 : dcd cX12_begin 96 (.iconst 1) 1 97 := by decide +kernel
theorem dX12_begin_97 : dcd cX12_begin 97 (.iconst 0) 1 98 := by decide +kernel
theorem dX12_begin_98 : dcd cX12_begin 98 (.bastore) 1 99 := by decide +kernel
theorem dX12_begin_99 : dcd cX12_begin 99 (.aload_n 0) 1 100 := by decide +kernel
theorem dX12_begin_100 : dcd cX12_begin 100 (.iconst 0) 1 101 := by decide +kernel
theorem dX12_begin_101 : dcd cX12_begin 101 (.putfield 137) 3 104 := by decide +kernel
theorem dX12_begin_104 : decode cX12_begin 104 = .ok (.return_, 1) := by decide +kernel
theorem dX12_form_0 : dcd cX12_form 0 (.aload_n 0) 1 1 := by decide +kernel
theorem dX12_form_1 : dcd cX12_form 1 (.iconst 0) 1 2 := by decide +kernel
theorem dX12_form_2 : dcd cX12_form 2 (.putfield 1) 3 5 := by decide +kernel
theorem dX12_form_5 : dcd cX12_form 5 (.aload_n 0) 1 6 := by decide +kernel
theorem dX12_form_6 : dcd cX12_form 6 (.invokevirtual 130) 3 9 := by decide +kernel
theorem dX12_form_9 : dcd cX12_form 9 (.bipush (-9)) 2 11 := by decide +kernel
theorem dX12_form_11 : dcb cX12_form 11 (.if_icmp .eq (6)) (6) 17 14 := by decide +kernel
theorem dX12_form_14 : dcd cX12_form 14 (.bipush (-3)) 2 16 := by decide +kernel
theorem dX12_form_16 : decode cX12_form 16 = .ok (.ireturn, 1) := by decide +kernel
theorem dX12_form_17 : dcd cX12_form 17 (.aload_n 0) 1 18 := by decide +kernel
theorem dX12_form_18 : dcd cX12_form 18 (.aload_n 0) 1 19 := by decide +kernel
theorem dX12_form_19 : dcd cX12_form 19 (.getfield 120) 3 22 := by decide +kernel
theorem dX12_form_22 : dcd cX12_form 22 (.putfield 20) 3 25 := by decide +kernel
theorem dX12_form_25 : dcd cX12_form 25 (.aload_n 0) 1 26 := by decide +kernel
theorem dX12_form_26 : dcd cX12_form 26 (.aload_n 0) 1 27 := by decide +kernel
theorem dX12_form_27 : dcd cX12_form 27 (.getfield 123) 3 30 := by decide +kernel
theorem dX12_form_30 : dcd cX12_form 30 (.putfield 23) 3 33 := by decide +kernel
theorem dX12_form_33 : dcd cX12_form 33 (.iconst 0) 1 34 := by decide +kernel
theorem dX12_form_34 : dcd cX12_form 34 (.istore_n 1) 1 35 := by decide +kernel
theorem dX12_form_35 : dcd cX12_form 35 (.iload_n 1) 1 36 := by decide +kernel
theorem dX12_form_36 : dcd cX12_form 36 (.bipush 36) 2 38 := by decide +kernel
theorem dX12_form_38 : dcb cX12_form 38 (.if_icmp .ge (21)) (21) 59 41 := by decide +kernel
theorem dX12_form_41 : dcd cX12_form 41 (.aload_n 0) 1 42 := by decide +kernel
theorem dX12_form_42 : dcd cX12_form 42 (.getfield 17) 3 45 := by decide +kernel
theorem dX12_form_45 : dcd cX12_form 45 (.iload_n 1) 1 46 := by decide +kernel
theorem dX12_form_46 : dcd cX12_form 46 (.aload_n 0) 1 47 := by decide +kernel
theorem dX12_form_47 : dcd cX12_form 47 (.getfield 26) 3 50 := by decide +kernel
theorem dX12_form_50 : dcd cX12_form 50 (.iload_n 1) 1 51 := by decide +kernel
theorem dX12_form_51 : dcd cX12_form 51 (.iaload) 1 52 := by decide +kernel
theorem dX12_form_52 : dcd cX12_form 52 (.iastore) 1 53 := by decide +kernel
theorem dX12_form_53 : dcd cX12_form 53 (.iinc 1 1) 3 56 := by decide +kernel
theorem dX12_form_56 : dcb cX12_form 56 (.goto (-21)) (-21) 35 59 := by decide +kernel
theorem dX12_form_59 : dcd cX12_form 59 (.aload_n 0) 1 60 := by decide +kernel
theorem dX12_form_60 : dcd cX12_form 60 (.invokevirtual 140) 3 63 := by decide +kernel
theorem dX12_form_63 : dcd cX12_form 63 (.aload_n 0) 1 64 := by decide +kernel
theorem dX12_form_64 : dcd cX12_form 64 (.getfield 20) 3 67 := by decide +kernel
theorem dX12_form_67 : dcd cX12_form 67 (.aload_n 0) 1 68 := by decide +kernel
theorem dX12_form_68 : dcd cX12_form 68 (.getfield 23) 3 71 := by decide +kernel
theorem dX12_form_71 : dcd cX12_form 71 (.imul) 1 72 := by decide +kernel
theorem dX12_form_72 : decode cX12_form 72 = .ok (.ireturn, 1) := by decide +kernel
theorem dX12_place_0 : dcd cX12_place 0 (.aload_n 0) 1 1 := by decide +kernel
theorem dX12_place_1 : dcd cX12_place 1 (.iconst 0) 1 2 := by decide +kernel
theorem dX12_place_2 : dcd cX12_place 2 (.putfield 1) 3 5 := by decide +kernel
theorem dX12_place_5 : dcd cX12_place 5 (.iload_n 1) 1 6 := by decide +kernel
theorem dX12_place_6 : dcd cX12_place 6 (.i2l) 1 7 := by decide +kernel
theorem dX12_place_7 : dcd cX12_place 7 (.lconst 0) 1 8 := by decide +kernel
theorem dX12_place_8 : dcd cX12_place 8 (.aload_n 0) 1 9 := by decide +kernel
theorem dX12_place_9 : dcd cX12_place 9 (.getfield 20) 3 12 := by decide +kernel
theorem dX12_place_12 : dcd cX12_place 12 (.iconst 1) 1 13 := by decide +kernel
theorem dX12_place_13 : dcd cX12_place 13 (.isub) 1 14 := by decide +kernel
theorem dX12_place_14 : dcd cX12_place 14 (.i2l) 1 15 := by decide +kernel
theorem dX12_place_15 : dcd cX12_place 15 (.invokestatic 113) 3 18 := by decide +kernel
theorem dX12_place_18 : dcb cX12_place 18 (.ifCond .eq (33)) (33) 51 21 := by decide +kernel
theorem dX12_place_21 : dcd cX12_place 21 (.iload_n 2) 1 22 := by decide +kernel
theorem dX12_place_22 : dcd cX12_place 22 (.i2l) 1 23 := by decide +kernel
theorem dX12_place_23 : dcd cX12_place 23 (.lconst 0) 1 24 := by decide +kernel
theorem dX12_place_24 : dcd cX12_place 24 (.aload_n 0) 1 25 := by decide +kernel
theorem dX12_place_25 : dcd cX12_place 25 (.getfield 23) 3 28 := by decide +kernel
theorem dX12_place_28 : dcd cX12_place 28 (.iconst 1) 1 29 := by decide +kernel
theorem dX12_place_29 : dcd cX12_place 29 (.isub) 1 30 := by decide +kernel
theorem dX12_place_30 : dcd cX12_place 30 (.i2l) 1 31 := by decide +kernel
theorem dX12_place_31 : dcd cX12_place 31 (.invokestatic 113) 3 34 := by decide +kernel
theorem dX12_place_34 : dcb cX12_place 34 (.ifCond .eq (17)) (17) 51 37 := by decide +kernel
theorem dX12_place_37 : dcd cX12_place 37 (.aload_n 0) 1 38 := by decide +kernel
theorem dX12_place_38 : dcd cX12_place 38 (.getfield 17) 3 41 := by decide +kernel
theorem dX12_place_41 : dcd cX12_place 41 (.bipush 6) 2 43 := by decide +kernel
theorem dX12_place_43 : dcd cX12_place 43 (.iload_n 1) 1 44 := by decide +kernel
theorem dX12_place_44 : dcd cX12_place 44 (.imul) 1 45 := by decide +kernel
theorem dX12_place_45 : dcd cX12_place 45 (.iload_n 2) 1 46 := by decide +kernel
theorem dX12_place_46 : dcd cX12_place 46 (.iadd) 1 47 := by decide +kernel
theorem dX12_place_47 : dcd cX12_place 47 (.iaload) 1 48 := by decide +kernel
theorem dX12_place_48 : dcb cX12_place 48 (.goto (4)) (4) 52 51 := by decide +kernel
theorem dX12_place_51 : dcd cX12_place 51 (.iconst (-1)) 1 52 := by decide +kernel
theorem dX12_place_52 : decode cX12_place 52 = .ok (.ireturn, 1) := by decide +kernel
theorem dX12_weightOf_0 : dcd cX12_weightOf 0 (.iconst 0) 1 1 := by decide +kernel
theorem dX12_weightOf_1 : dcd cX12_weightOf 1 (.istore 5) 2 3 := by decide +kernel
theorem dX12_weightOf_3 : dcd cX12_weightOf 3 (.iload_n 1) 1 4 := by decide +kernel
theorem dX12_weightOf_4 : dcd cX12_weightOf 4 (.istore 6) 2 6 := by decide +kernel
theorem dX12_weightOf_6 : dcd cX12_weightOf 6 (.iload 6) 2 8 := by decide +kernel
theorem dX12_weightOf_8 : dcd cX12_weightOf 8 (.iload_n 1) 1 9 := by decide +kernel
theorem dX12_weightOf_9 : dcd cX12_weightOf 9 (.iload_n 3) 1 10 := by decide +kernel
theorem dX12_weightOf_10 : dcd cX12_weightOf 10 (.iadd) 1 11 := by decide +kernel
theorem dX12_weightOf_11 : dcb cX12_weightOf 11 (.if_icmp .ge (69)) (69) 80 14 := by decide +kernel
theorem dX12_weightOf_14 : dcd cX12_weightOf 14 (.iload_n 2) 1 15 := by decide +kernel
theorem dX12_weightOf_15 : dcd cX12_weightOf 15 (.istore 7) 2 17 := by decide +kernel
theorem dX12_weightOf_17 : dcd cX12_weightOf 17 (.iload 7) 2 19 := by decide +kernel
theorem dX12_weightOf_19 : dcd cX12_weightOf 19 (.iload_n 2) 1 20 := by decide +kernel
theorem dX12_weightOf_20 : dcd cX12_weightOf 20 (.iload 4) 2 22 := by decide +kernel
theorem dX12_weightOf_22 : dcd cX12_weightOf 22 (.iadd) 1 23 := by decide +kernel
theorem dX12_weightOf_23 : dcb cX12_weightOf 23 (.if_icmp .ge (51)) (51) 74 26 := by decide +kernel
theorem dX12_weightOf_26 : dcd cX12_weightOf 26 (.aload_n 0) 1 27 := by decide +kernel
theorem dX12_weightOf_27 : dcd cX12_weightOf 27 (.getfield 17) 3 30 := by decide +kernel
theorem dX12_weightOf_30 : dcd cX12_weightOf 30 (.bipush 6) 2 32 := by decide +kernel
theorem dX12_weightOf_32 : dcd cX12_weightOf 32 (.iload 6) 2 34 := by decide +kernel
theorem dX12_weightOf_34 : dcd cX12_weightOf 34 (.imul) 1 35 := by decide +kernel
theorem dX12_weightOf_35 : dcd cX12_weightOf 35 (.iload 7) 2 37 := by decide +kernel
theorem dX12_weightOf_37 : dcd cX12_weightOf 37 (.iadd) 1 38 := by decide +kernel
theorem dX12_weightOf_38 : dcd cX12_weightOf 38 (.iaload) 1 39 := by decide +kernel
theorem dX12_weightOf_39 : dcd cX12_weightOf 39 (.istore 8) 2 41 := by decide +kernel
theorem dX12_weightOf_41 : dcd cX12_weightOf 41 (.iload 5) 2 43 := by decide +kernel
theorem dX12_weightOf_43 : dcd cX12_weightOf 43 (.iload 8) 2 45 := by decide +kernel
theorem dX12_weightOf_45 : dcb cX12_weightOf 45 (.ifCond .ne (8)) (8) 53 48 := by decide +kernel
theorem dX12_weightOf_48 : dcd cX12_weightOf 48 (.bipush 10) 2 50 := by decide +kernel
theorem dX12_weightOf_50 : dcb cX12_weightOf 50 (.goto (15)) (15) 65 53 := by decide +kernel
theorem dX12_weightOf_53 : dcd cX12_weightOf 53 (.iload 8) 2 55 := by decide +kernel
theorem dX12_weightOf_55 : dcd cX12_weightOf 55 (.iconst 1) 1 56 := by decide +kernel
theorem dX12_weightOf_56 : dcb cX12_weightOf 56 (.if_icmp .ne (8)) (8) 64 59 := by decide +kernel
theorem dX12_weightOf_59 : dcd cX12_weightOf 59 (.bipush 8) 2 61 := by decide +kernel
theorem dX12_weightOf_61 : dcb cX12_weightOf 61 (.goto (4)) (4) 65 64 := by decide +kernel
theorem dX12_weightOf_64 : dcd cX12_weightOf 64 (.iconst 0) 1 65 := by decide +kernel
theorem dX12_weightOf_65 : dcd cX12_weightOf 65 (.iadd) 1 66 := by decide +kernel
theorem dX12_weightOf_66 : dcd cX12_weightOf 66 (.istore 5) 2 68 := by decide +kernel
theorem dX12_weightOf_68 : dcd cX12_weightOf 68 (.iinc 7 1) 3 71 := by decide +kernel
theorem dX12_weightOf_71 : dcb cX12_weightOf 71 (.goto (-54)) (-54) 17 74 := by decide +kernel
theorem dX12_weightOf_74 : dcd cX12_weightOf 74 (.iinc 6 1) 3 77 := by decide +kernel
theorem dX12_weightOf_77 : dcb cX12_weightOf 77 (.goto (-71)) (-71) 6 80 := by decide +kernel
theorem dX12_weightOf_80 : dcd cX12_weightOf 80 (.iload 5) 2 82 := by decide +kernel
theorem dX12_weightOf_82 : decode cX12_weightOf 82 = .ok (.ireturn, 1) := by decide +kernel
theorem dX12_countOf_0 : dcd cX12_countOf 0 (.iconst 0) 1 1 := by decide +kernel
theorem dX12_countOf_1 : dcd cX12_countOf 1 (.istore 6) 2 3 := by decide +kernel
theorem dX12_countOf_3 : dcd cX12_countOf 3 (.iload_n 1) 1 4 := by decide +kernel
theorem dX12_countOf_4 : dcd cX12_countOf 4 (.istore 7) 2 6 := by decide +kernel
theorem dX12_countOf_6 : dcd cX12_countOf 6 (.iload 7) 2 8 := by decide +kernel
theorem dX12_countOf_8 : dcd cX12_countOf 8 (.iload_n 1) 1 9 := by decide +kernel
theorem dX12_countOf_9 : dcd cX12_countOf 9 (.iload_n 3) 1 10 := by decide +kernel
theorem dX12_countOf_10 : dcd cX12_countOf 10 (.iadd) 1 11 := by decide +kernel
theorem dX12_countOf_11 : dcb cX12_countOf 11 (.if_icmp .ge (55)) (55) 66 14 := by decide +kernel
theorem dX12_countOf_14 : dcd cX12_countOf 14 (.iload_n 2) 1 15 := by decide +kernel
theorem dX12_countOf_15 : dcd cX12_countOf 15 (.istore 8) 2 17 := by decide +kernel
theorem dX12_countOf_17 : dcd cX12_countOf 17 (.iload 8) 2 19 := by decide +kernel
theorem dX12_countOf_19 : dcd cX12_countOf 19 (.iload_n 2) 1 20 := by decide +kernel
theorem dX12_countOf_20 : dcd cX12_countOf 20 (.iload 4) 2 22 := by decide +kernel
theorem dX12_countOf_22 : dcd cX12_countOf 22 (.iadd) 1 23 := by decide +kernel
theorem dX12_countOf_23 : dcb cX12_countOf 23 (.if_icmp .ge (37)) (37) 60 26 := by decide +kernel
theorem dX12_countOf_26 : dcd cX12_countOf 26 (.iload 6) 2 28 := by decide +kernel
theorem dX12_countOf_28 : dcd cX12_countOf 28 (.aload_n 0) 1 29 := by decide +kernel
theorem dX12_countOf_29 : dcd cX12_countOf 29 (.getfield 17) 3 32 := by decide +kernel
theorem dX12_countOf_32 : dcd cX12_countOf 32 (.bipush 6) 2 34 := by decide +kernel
theorem dX12_countOf_34 : dcd cX12_countOf 34 (.iload 7) 2 36 := by decide +kernel
theorem dX12_countOf_36 : dcd cX12_countOf 36 (.imul) 1 37 := by decide +kernel
theorem dX12_countOf_37 : dcd cX12_countOf 37 (.iload 8) 2 39 := by decide +kernel
theorem dX12_countOf_39 : dcd cX12_countOf 39 (.iadd) 1 40 := by decide +kernel
theorem dX12_countOf_40 : dcd cX12_countOf 40 (.iaload) 1 41 := by decide +kernel
theorem dX12_countOf_41 : dcd cX12_countOf 41 (.iload 5) 2 43 := by decide +kernel
theorem dX12_countOf_43 : dcb cX12_countOf 43 (.if_icmp .ne (7)) (7) 50 46 := by decide +kernel
theorem dX12_countOf_46 : dcd cX12_countOf 46 (.iconst 1) 1 47 := by decide +kernel
theorem dX12_countOf_47 : dcb cX12_countOf 47 (.goto (4)) (4) 51 50 := by decide +kernel
theorem dX12_countOf_50 : dcd cX12_countOf 50 (.iconst 0) 1 51 := by decide +kernel
theorem dX12_countOf_51 : dcd cX12_countOf 51 (.iadd) 1 52 := by decide +kernel
theorem dX12_countOf_52 : dcd cX12_countOf 52 (.istore 6) 2 54 := by decide +kernel
theorem dX12_countOf_54 : dcd cX12_countOf 54 (.iinc 8 1) 3 57 := by decide +kernel
theorem dX12_countOf_57 : dcb cX12_countOf 57 (.goto (-40)) (-40) 17 60 := by decide +kernel
theorem dX12_countOf_60 : dcd cX12_countOf 60 (.iinc 7 1) 3 63 := by decide +kernel
theorem dX12_countOf_63 : dcb cX12_countOf 63 (.goto (-57)) (-57) 6 66 := by decide +kernel
theorem dX12_countOf_66 : dcd cX12_countOf 66 (.iload 6) 2 68 := by decide +kernel
theorem dX12_countOf_68 : decode cX12_countOf 68 = .ok (.ireturn, 1) := by decide +kernel
theorem dX12_noPiece_0 : dcd cX12_noPiece 0 (.iload_n 1) 1 1 := by decide +kernel
theorem dX12_noPiece_1 : dcd cX12_noPiece 1 (.i2l) 1 2 := by decide +kernel
theorem dX12_noPiece_2 : dcd cX12_noPiece 2 (.lconst 0) 1 3 := by decide +kernel
theorem dX12_noPiece_3 : dcd cX12_noPiece 3 (.aload_n 0) 1 4 := by decide +kernel
theorem dX12_noPiece_4 : dcd cX12_noPiece 4 (.getfield 29) 3 7 := by decide +kernel
theorem dX12_noPiece_7 : dcd cX12_noPiece 7 (.iconst 1) 1 8 := by decide +kernel
theorem dX12_noPiece_8 : dcd cX12_noPiece 8 (.isub) 1 9 := by decide +kernel
theorem dX12_noPiece_9 : dcd cX12_noPiece 9 (.i2l) 1 10 := by decide +kernel
theorem dX12_noPiece_10 : dcd cX12_noPiece 10 (.invokestatic 113) 3 13 := by decide +kernel
theorem dX12_noPiece_13 : dcb cX12_noPiece 13 (.ifCond .ne (7)) (7) 20 16 := by decide +kernel
theorem dX12_noPiece_16 : dcd cX12_noPiece 16 (.iconst 1) 1 17 := by decide +kernel
theorem dX12_noPiece_17 : dcb cX12_noPiece 17 (.goto (4)) (4) 21 20 := by decide +kernel
theorem dX12_noPiece_20 : dcd cX12_noPiece 20 (.iconst 0) 1 21 := by decide +kernel
theorem dX12_noPiece_21 : decode cX12_noPiece 21 = .ok (.ireturn, 1) := by decide +kernel
theorem dX12_noStand_0 : dcd cX12_noStand 0 (.aload_n 0) 1 1 := by decide +kernel
theorem dX12_noStand_1 : dcd cX12_noStand 1 (.iload_n 1) 1 2 := by decide +kernel
theorem dX12_noStand_2 : dcd cX12_noStand 2 (.invokevirtual 143) 3 5 := by decide +kernel
theorem dX12_noStand_5 : dcb cX12_noStand 5 (.ifCond .ne (12)) (12) 17 8 := by decide +kernel
theorem dX12_noStand_8 : dcd cX12_noStand 8 (.aload_n 0) 1 9 := by decide +kernel
theorem dX12_noStand_9 : dcd cX12_noStand 9 (.getfield 44) 3 12 := by decide +kernel
theorem dX12_noStand_12 : dcd cX12_noStand 12 (.iload_n 1) 1 13 := by decide +kernel
theorem dX12_noStand_13 : dcd cX12_noStand 13 (.iaload) 1 14 := by decide +kernel
theorem dX12_noStand_14 : dcb cX12_noStand 14 (.ifCond .eq (7)) (7) 21 17 := by decide +kernel
theorem dX12_noStand_17 : dcd cX12_noStand 17 (.iconst 1) 1 18 := by decide +kernel
theorem dX12_noStand_18 : dcb cX12_noStand 18 (.goto (4)) (4) 22 21 := by decide +kernel
theorem dX12_noStand_21 : dcd cX12_noStand 21 (.iconst 0) 1 22 := by decide +kernel
theorem dX12_noStand_22 : decode cX12_noStand 22 = .ok (.ireturn, 1) := by decide +kernel
theorem dX12_face_0 : dcd cX12_face 0 (.iload_n 2) 1 1 := by decide +kernel
theorem dX12_face_1 : dcb cX12_face 1 (.ifCond .ne (20)) (20) 21 4 := by decide +kernel
theorem dX12_face_4 : dcd cX12_face 4 (.aload_n 0) 1 5 := by decide +kernel
theorem dX12_face_5 : dcd cX12_face 5 (.getfield 32) 3 8 := by decide +kernel
theorem dX12_face_8 : dcd cX12_face 8 (.iload_n 1) 1 9 := by decide +kernel
theorem dX12_face_9 : dcd cX12_face 9 (.iaload) 1 10 := by decide +kernel
theorem dX12_face_10 : dcb cX12_face 10 (.ifCond .le (7)) (7) 17 13 := by decide +kernel
theorem dX12_face_13 : dcd cX12_face 13 (.iconst 1) 1 14 := by decide +kernel
theorem dX12_face_14 : dcb cX12_face 14 (.goto (87)) (87) 101 17 := by decide +kernel
theorem dX12_face_17 : dcd cX12_face 17 (.iconst 0) 1 18 := by decide +kernel
theorem dX12_face_18 : dcb cX12_face 18 (.goto (83)) (83) 101 21 := by decide +kernel
theorem dX12_face_21 : dcd cX12_face 21 (.iload_n 2) 1 22 := by decide +kernel
theorem dX12_face_22 : dcd cX12_face 22 (.iconst 1) 1 23 := by decide +kernel
theorem dX12_face_23 : dcb cX12_face 23 (.if_icmp .ne (31)) (31) 54 26 := by decide +kernel
theorem dX12_face_26 : dcd cX12_face 26 (.aload_n 0) 1 27 := by decide +kernel
theorem dX12_face_27 : dcd cX12_face 27 (.getfield 32) 3 30 := by decide +kernel
theorem dX12_face_30 : dcd cX12_face 30 (.iload_n 1) 1 31 := by decide +kernel
theorem dX12_face_31 : dcd cX12_face 31 (.iaload) 1 32 := by decide +kernel
theorem dX12_face_32 : dcd cX12_face 32 (.aload_n 0) 1 33 := by decide +kernel
theorem dX12_face_33 : dcd cX12_face 33 (.getfield 38) 3 36 := by decide +kernel
theorem dX12_face_36 : dcd cX12_face 36 (.iload_n 1) 1 37 := by decide +kernel
theorem dX12_face_37 : dcd cX12_face 37 (.iaload) 1 38 := by decide +kernel
theorem dX12_face_38 : dcd cX12_face 38 (.iadd) 1 39 := by decide +kernel
theorem dX12_face_39 : dcd cX12_face 39 (.aload_n 0) 1 40 := by decide +kernel
theorem dX12_face_40 : dcd cX12_face 40 (.getfield 20) 3 43 := by decide +kernel
theorem dX12_face_43 : dcb cX12_face 43 (.if_icmp .ge (7)) (7) 50 46 := by decide +kernel
theorem dX12_face_46 : dcd cX12_face 46 (.iconst 1) 1 47 := by decide +kernel
theorem dX12_face_47 : dcb cX12_face 47 (.goto (54)) (54) 101 50 := by decide +kernel
theorem dX12_face_50 : dcd cX12_face 50 (.iconst 0) 1 51 := by decide +kernel
theorem dX12_face_51 : dcb cX12_face 51 (.goto (50)) (50) 101 54 := by decide +kernel
theorem dX12_face_54 : dcd cX12_face 54 (.iload_n 2) 1 55 := by decide +kernel
theorem dX12_face_55 : dcd cX12_face 55 (.iconst 2) 1 56 := by decide +kernel
theorem dX12_face_56 : dcb cX12_face 56 (.if_icmp .ne (20)) (20) 76 59 := by decide +kernel
theorem dX12_face_59 : dcd cX12_face 59 (.aload_n 0) 1 60 := by decide +kernel
theorem dX12_face_60 : dcd cX12_face 60 (.getfield 35) 3 63 := by decide +kernel
theorem dX12_face_63 : dcd cX12_face 63 (.iload_n 1) 1 64 := by decide +kernel
theorem dX12_face_64 : dcd cX12_face 64 (.iaload) 1 65 := by decide +kernel
theorem dX12_face_65 : dcb cX12_face 65 (.ifCond .le (7)) (7) 72 68 := by decide +kernel
theorem dX12_face_68 : dcd cX12_face 68 (.iconst 1) 1 69 := by decide +kernel
theorem dX12_face_69 : dcb cX12_face 69 (.goto (32)) (32) 101 72 := by decide +kernel
theorem dX12_face_72 : dcd cX12_face 72 (.iconst 0) 1 73 := by decide +kernel
theorem dX12_face_73 : dcb cX12_face 73 (.goto (28)) (28) 101 76 := by decide +kernel
theorem dX12_face_76 : dcd cX12_face 76 (.aload_n 0) 1 77 := by decide +kernel
theorem dX12_face_77 : dcd cX12_face 77 (.getfield 35) 3 80 := by decide +kernel
theorem dX12_face_80 : dcd cX12_face 80 (.iload_n 1) 1 81 := by decide +kernel
theorem dX12_face_81 : dcd cX12_face 81 (.iaload) 1 82 := by decide +kernel
theorem dX12_face_82 : dcd cX12_face 82 (.aload_n 0) 1 83 := by decide +kernel
theorem dX12_face_83 : dcd cX12_face 83 (.getfield 41) 3 86 := by decide +kernel
theorem dX12_face_86 : dcd cX12_face 86 (.iload_n 1) 1 87 := by decide +kernel
theorem dX12_face_87 : dcd cX12_face 87 (.iaload) 1 88 := by decide +kernel
theorem dX12_face_88 : dcd cX12_face 88 (.iadd) 1 89 := by decide +kernel
theorem dX12_face_89 : dcd cX12_face 89 (.aload_n 0) 1 90 := by decide +kernel
theorem dX12_face_90 : dcd cX12_face 90 (.getfield 23) 3 93 := by decide +kernel
theorem dX12_face_93 : dcb cX12_face 93 (.if_icmp .ge (7)) (7) 100 96 := by decide +kernel
theorem dX12_face_96 : dcd cX12_face 96 (.iconst 1) 1 97 := by decide +kernel
theorem dX12_face_97 : dcb cX12_face 97 (.goto (4)) (4) 101 100 := by decide +kernel
theorem dX12_face_100 : dcd cX12_face 100 (.iconst 0) 1 101 := by decide +kernel
theorem dX12_face_101 : dcd cX12_face 101 (.istore_n 3) 1 102 := by decide +kernel
theorem dX12_face_102 : dcd cX12_face 102 (.iload_n 3) 1 103 := by decide +kernel
theorem dX12_face_103 : dcb cX12_face 103 (.ifCond .ne (7)) (7) 110 106 := by decide +kernel
theorem dX12_face_106 : dcd cX12_face 106 (.iconst 0) 1 107 := by decide +kernel
theorem dX12_face_107 : dcb cX12_face 107 (.goto (23)) (23) 130 110 := by decide +kernel
theorem dX12_face_110 : dcd cX12_face 110 (.iload_n 2) 1 111 := by decide +kernel
theorem dX12_face_111 : dcd cX12_face 111 (.iconst 2) 1 112 := by decide +kernel
theorem dX12_face_112 : dcb cX12_face 112 (.if_icmp .ge (12)) (12) 124 115 := by decide +kernel
theorem dX12_face_115 : dcd cX12_face 115 (.aload_n 0) 1 116 := by decide +kernel
theorem dX12_face_116 : dcd cX12_face 116 (.getfield 41) 3 119 := by decide +kernel
theorem dX12_face_119 : dcd cX12_face 119 (.iload_n 1) 1 120 := by decide +kernel
theorem dX12_face_120 : dcd cX12_face 120 (.iaload) 1 121 := by decide +kernel
theorem dX12_face_121 : dcb cX12_face 121 (.goto (9)) (9) 130 124 := by decide +kernel
theorem dX12_face_124 : dcd cX12_face 124 (.aload_n 0) 1 125 := by decide +kernel
theorem dX12_face_125 : dcd cX12_face 125 (.getfield 38) 3 128 := by decide +kernel
theorem dX12_face_128 : dcd cX12_face 128 (.iload_n 1) 1 129 := by decide +kernel
theorem dX12_face_129 : dcd cX12_face 129 (.iaload) 1 130 := by decide +kernel
theorem dX12_face_130 : decode cX12_face 130 = .ok (.ireturn, 1) := by decide +kernel
end
section
theorem dX12_edges_0 : dcd cX12_edges 0 (.iconst 0) 1 1 := by decide +kernel
theorem dX12_edges_1 : dcd cX12_edges 1 (.istore_n 2) 1 2 := by decide +kernel
theorem dX12_edges_2 : dcd cX12_edges 2 (.iconst 0) 1 3 := by decide +kernel
theorem dX12_edges_3 : dcd cX12_edges 3 (.istore_n 3) 1 4 := by decide +kernel
theorem dX12_edges_4 : dcd cX12_edges 4 (.iload_n 3) 1 5 := by decide +kernel
theorem dX12_edges_5 : dcd cX12_edges 5 (.iconst 4) 1 6 := by decide +kernel
theorem dX12_edges_6 : dcb cX12_edges 6 (.if_icmp .ge (18)) (18) 24 9 := by decide +kernel
theorem dX12_edges_9 : dcd cX12_edges 9 (.iload_n 2) 1 10 := by decide +kernel
theorem dX12_edges_10 : dcd cX12_edges 10 (.aload_n 0) 1 11 := by decide +kernel
theorem dX12_edges_11 : dcd cX12_edges 11 (.iload_n 1) 1 12 := by decide +kernel
theorem dX12_edges_12 : dcd cX12_edges 12 (.iload_n 3) 1 13 := by decide +kernel
theorem dX12_edges_13 : dcd cX12_edges 13 (.invokevirtual 147) 3 16 := by decide +kernel
theorem dX12_edges_16 : dcd cX12_edges 16 (.iadd) 1 17 := by decide +kernel
theorem dX12_edges_17 : dcd cX12_edges 17 (.istore_n 2) 1 18 := by decide +kernel
theorem dX12_edges_18 : dcd cX12_edges 18 (.iinc 3 1) 3 21 := by decide +kernel
theorem dX12_edges_21 : dcb cX12_edges 21 (.goto (-17)) (-17) 4 24 := by decide +kernel
theorem dX12_edges_24 : dcd cX12_edges 24 (.iload_n 2) 1 25 := by decide +kernel
theorem dX12_edges_25 : decode cX12_edges 25 = .ok (.ireturn, 1) := by decide +kernel
theorem dX12_allDried_0 : dcd cX12_allDried 0 (.iconst 0) 1 1 := by decide +kernel
theorem dX12_allDried_1 : dcd cX12_allDried 1 (.istore_n 2) 1 2 := by decide +kernel
theorem dX12_allDried_2 : dcd cX12_allDried 2 (.iconst 0) 1 3 := by decide +kernel
theorem dX12_allDried_3 : dcd cX12_allDried 3 (.istore_n 3) 1 4 := by decide +kernel
theorem dX12_allDried_4 : dcd cX12_allDried 4 (.iload_n 3) 1 5 := by decide +kernel
theorem dX12_allDried_5 : dcd cX12_allDried 5 (.iconst 4) 1 6 := by decide +kernel
theorem dX12_allDried_6 : dcb cX12_allDried 6 (.if_icmp .ge (22)) (22) 28 9 := by decide +kernel
theorem dX12_allDried_9 : dcd cX12_allDried 9 (.iload_n 2) 1 10 := by decide +kernel
theorem dX12_allDried_10 : dcd cX12_allDried 10 (.aload_n 0) 1 11 := by decide +kernel
theorem dX12_allDried_11 : dcd cX12_allDried 11 (.getfield 53) 3 14 := by decide +kernel
theorem dX12_allDried_14 : dcd cX12_allDried 14 (.iconst 4) 1 15 := by decide +kernel
theorem dX12_allDried_15 : dcd cX12_allDried 15 (.iload_n 1) 1 16 := by decide +kernel
theorem dX12_allDried_16 : dcd cX12_allDried 16 (.imul) 1 17 := by decide +kernel
theorem dX12_allDried_17 : dcd cX12_allDried 17 (.iload_n 3) 1 18 := by decide +kernel
theorem dX12_allDried_18 : dcd cX12_allDried 18 (.iadd) 1 19 := by decide +kernel
theorem dX12_allDried_19 : dcd cX12_allDried 19 (.iaload) 1 20 := by decide +kernel
theorem dX12_allDried_20 : dcd cX12_allDried 20 (.iadd) 1 21 := by decide +kernel
theorem dX12_allDried_21 : dcd cX12_allDried 21 (.istore_n 2) 1 22 := by decide +kernel
theorem dX12_allDried_22 : dcd cX12_allDried 22 (.iinc 3 1) 3 25 := by decide +kernel
theorem dX12_allDried_25 : dcb cX12_allDried 25 (.goto (-21)) (-21) 4 28 := by decide +kernel
theorem dX12_allDried_28 : dcd cX12_allDried 28 (.iload_n 2) 1 29 := by decide +kernel
theorem dX12_allDried_29 : decode cX12_allDried 29 = .ok (.ireturn, 1) := by decide +kernel
theorem dX12_more_0 : dcd cX12_more 0 (.iload_n 0) 1 1 := by decide +kernel
theorem dX12_more_1 : dcb cX12_more 1 (.ifCond .ge (7)) (7) 8 4 := by decide +kernel
theorem dX12_more_4 : dcd cX12_more 4 (.iconst 0) 1 5 := by decide +kernel
theorem dX12_more_5 : dcb cX12_more 5 (.goto (4)) (4) 9 8 := by decide +kernel
theorem dX12_more_8 : dcd cX12_more 8 (.iload_n 0) 1 9 := by decide +kernel
theorem dX12_more_9 : decode cX12_more 9 = .ok (.ireturn, 1) := by decide +kernel
theorem dX12_weighsOf_0 : dcd cX12_weighsOf 0 (.aload_n 0) 1 1 := by decide +kernel
theorem dX12_weighsOf_1 : dcd cX12_weighsOf 1 (.aload_n 0) 1 2 := by decide +kernel
theorem dX12_weighsOf_2 : dcd cX12_weighsOf 2 (.getfield 32) 3 5 := by decide +kernel
theorem dX12_weighsOf_5 : dcd cX12_weighsOf 5 (.iload_n 1) 1 6 := by decide +kernel
theorem dX12_weighsOf_6 : dcd cX12_weighsOf 6 (.iaload) 1 7 := by decide +kernel
theorem dX12_weighsOf_7 : dcd cX12_weighsOf 7 (.aload_n 0) 1 8 := by decide +kernel
theorem dX12_weighsOf_8 : dcd cX12_weighsOf 8 (.getfield 35) 3 11 := by decide +kernel
theorem dX12_weighsOf_11 : dcd cX12_weighsOf 11 (.iload_n 1) 1 12 := by decide +kernel
theorem dX12_weighsOf_12 : dcd cX12_weighsOf 12 (.iaload) 1 13 := by decide +kernel
theorem dX12_weighsOf_13 : dcd cX12_weighsOf 13 (.aload_n 0) 1 14 := by decide +kernel
theorem dX12_weighsOf_14 : dcd cX12_weighsOf 14 (.getfield 38) 3 17 := by decide +kernel
theorem dX12_weighsOf_17 : dcd cX12_weighsOf 17 (.iload_n 1) 1 18 := by decide +kernel
theorem dX12_weighsOf_18 : dcd cX12_weighsOf 18 (.iaload) 1 19 := by decide +kernel
theorem dX12_weighsOf_19 : dcd cX12_weighsOf 19 (.aload_n 0) 1 20 := by decide +kernel
theorem dX12_weighsOf_20 : dcd cX12_weighsOf 20 (.getfield 41) 3 23 := by decide +kernel
theorem dX12_weighsOf_23 : dcd cX12_weighsOf 23 (.iload_n 1) 1 24 := by decide +kernel
theorem dX12_weighsOf_24 : dcd cX12_weighsOf 24 (.iaload) 1 25 := by decide +kernel
theorem dX12_weighsOf_25 : dcd cX12_weighsOf 25 (.invokevirtual 151) 3 28 := by decide +kernel
theorem dX12_weighsOf_28 : dcd cX12_weighsOf 28 (.aload_n 0) 1 29 := by decide +kernel
theorem dX12_weighsOf_29 : dcd cX12_weighsOf 29 (.iload_n 1) 1 30 := by decide +kernel
theorem dX12_weighsOf_30 : dcd cX12_weighsOf 30 (.invokevirtual 155) 3 33 := by decide +kernel
theorem dX12_weighsOf_33 : dcd cX12_weighsOf 33 (.bipush 40) 2 35 := by decide +kernel
theorem dX12_weighsOf_35 : dcd cX12_weighsOf 35 (.idiv) 1 36 := by decide +kernel
theorem dX12_weighsOf_36 : dcd cX12_weighsOf 36 (.isub) 1 37 := by decide +kernel
theorem dX12_weighsOf_37 : dcd cX12_weighsOf 37 (.aload_n 0) 1 38 := by decide +kernel
theorem dX12_weighsOf_38 : dcd cX12_weighsOf 38 (.getfield 50) 3 41 := by decide +kernel
theorem dX12_weighsOf_41 : dcd cX12_weighsOf 41 (.iload_n 1) 1 42 := by decide +kernel
theorem dX12_weighsOf_42 : dcd cX12_weighsOf 42 (.iaload) 1 43 := by decide +kernel
theorem dX12_weighsOf_43 : dcd cX12_weighsOf 43 (.isub) 1 44 := by decide +kernel
theorem dX12_weighsOf_44 : dcd cX12_weighsOf 44 (.invokestatic 158) 3 47 := by decide +kernel
theorem dX12_weighsOf_47 : decode cX12_weighsOf 47 = .ok (.ireturn, 1) := by decide +kernel
theorem dX12_isEnd_0 : dcd cX12_isEnd 0 (.iconst 0) 1 1 := by decide +kernel
theorem dX12_isEnd_1 : dcd cX12_isEnd 1 (.istore_n 2) 1 2 := by decide +kernel
theorem dX12_isEnd_2 : dcd cX12_isEnd 2 (.iconst 0) 1 3 := by decide +kernel
theorem dX12_isEnd_3 : dcd cX12_isEnd 3 (.istore_n 3) 1 4 := by decide +kernel
theorem dX12_isEnd_4 : dcd cX12_isEnd 4 (.iload_n 3) 1 5 := by decide +kernel
theorem dX12_isEnd_5 : dcd cX12_isEnd 5 (.iconst 4) 1 6 := by decide +kernel
theorem dX12_isEnd_6 : dcb cX12_isEnd 6 (.if_icmp .ge (26)) (26) 32 9 := by decide +kernel
theorem dX12_isEnd_9 : dcd cX12_isEnd 9 (.iload_n 2) 1 10 := by decide +kernel
theorem dX12_isEnd_10 : dcd cX12_isEnd 10 (.aload_n 0) 1 11 := by decide +kernel
theorem dX12_isEnd_11 : dcd cX12_isEnd 11 (.iload_n 1) 1 12 := by decide +kernel
theorem dX12_isEnd_12 : dcd cX12_isEnd 12 (.iload_n 3) 1 13 := by decide +kernel
theorem dX12_isEnd_13 : dcd cX12_isEnd 13 (.invokevirtual 147) 3 16 := by decide +kernel
theorem dX12_isEnd_16 : dcb cX12_isEnd 16 (.ifCond .ne (7)) (7) 23 19 := by decide +kernel
theorem dX12_isEnd_19 : dcd cX12_isEnd 19 (.iconst 1) 1 20 := by decide +kernel
theorem dX12_isEnd_20 : dcb cX12_isEnd 20 (.goto (4)) (4) 24 23 := by decide +kernel
theorem dX12_isEnd_23 : dcd cX12_isEnd 23 (.iconst 0) 1 24 := by decide +kernel
theorem dX12_isEnd_24 : dcd cX12_isEnd 24 (.iadd) 1 25 := by decide +kernel
theorem dX12_isEnd_25 : dcd cX12_isEnd 25 (.istore_n 2) 1 26 := by decide +kernel
theorem dX12_isEnd_26 : dcd cX12_isEnd 26 (.iinc 3 1) 3 29 := by decide +kernel
theorem dX12_isEnd_29 : dcb cX12_isEnd 29 (.goto (-25)) (-25) 4 32 := by decide +kernel
theorem dX12_isEnd_32 : dcd cX12_isEnd 32 (.iload_n 2) 1 33 := by decide +kernel
theorem dX12_isEnd_33 : dcd cX12_isEnd 33 (.iconst 2) 1 34 := by decide +kernel
theorem dX12_isEnd_34 : dcb cX12_isEnd 34 (.if_icmp .le (7)) (7) 41 37 := by decide +kernel
theorem dX12_isEnd_37 : dcd cX12_isEnd 37 (.iconst 1) 1 38 := by decide +kernel
theorem dX12_isEnd_38 : dcb cX12_isEnd 38 (.goto (4)) (4) 42 41 := by decide +kernel
theorem dX12_isEnd_41 : dcd cX12_isEnd 41 (.iconst 0) 1 42 := by decide +kernel
theorem dX12_isEnd_42 : decode cX12_isEnd 42 = .ok (.ireturn, 1) := by decide +kernel
theorem dX12_offAhead_0 : dcd cX12_offAhead 0 (.aload_n 0) 1 1 := by decide +kernel
theorem dX12_offAhead_1 : dcd cX12_offAhead 1 (.aload_n 0) 1 2 := by decide +kernel
theorem dX12_offAhead_2 : dcd cX12_offAhead 2 (.getfield 32) 3 5 := by decide +kernel
theorem dX12_offAhead_5 : dcd cX12_offAhead 5 (.iload_n 1) 1 6 := by decide +kernel
theorem dX12_offAhead_6 : dcd cX12_offAhead 6 (.iaload) 1 7 := by decide +kernel
theorem dX12_offAhead_7 : dcd cX12_offAhead 7 (.aload_n 0) 1 8 := by decide +kernel
theorem dX12_offAhead_8 : dcd cX12_offAhead 8 (.getfield 35) 3 11 := by decide +kernel
theorem dX12_offAhead_11 : dcd cX12_offAhead 11 (.iload_n 1) 1 12 := by decide +kernel
theorem dX12_offAhead_12 : dcd cX12_offAhead 12 (.iaload) 1 13 := by decide +kernel
theorem dX12_offAhead_13 : dcd cX12_offAhead 13 (.aload_n 0) 1 14 := by decide +kernel
theorem dX12_offAhead_14 : dcd cX12_offAhead 14 (.getfield 38) 3 17 := by decide +kernel
theorem dX12_offAhead_17 : dcd cX12_offAhead 17 (.iload_n 1) 1 18 := by decide +kernel
theorem dX12_offAhead_18 : dcd cX12_offAhead 18 (.iaload) 1 19 := by decide +kernel
theorem dX12_offAhead_19 : dcd cX12_offAhead 19 (.aload_n 0) 1 20 := by decide +kernel
theorem dX12_offAhead_20 : dcd cX12_offAhead 20 (.getfield 41) 3 23 := by decide +kernel
theorem dX12_offAhead_23 : dcd cX12_offAhead 23 (.iload_n 1) 1 24 := by decide +kernel
theorem dX12_offAhead_24 : dcd cX12_offAhead 24 (.iaload) 1 25 := by decide +kernel
theorem dX12_offAhead_25 : dcd cX12_offAhead 25 (.invokevirtual 151) 3 28 := by decide +kernel
theorem dX12_offAhead_28 : dcd cX12_offAhead 28 (.istore 4) 2 30 := by decide +kernel
theorem dX12_offAhead_30 : dcd cX12_offAhead 30 (.iload_n 2) 1 31 := by decide +kernel
theorem dX12_offAhead_31 : dcb cX12_offAhead 31 (.ifCond .eq (29)) (29) 60 34 := by decide +kernel
theorem dX12_offAhead_34 : dcd cX12_offAhead 34 (.aload_n 0) 1 35 := by decide +kernel
theorem dX12_offAhead_35 : dcd cX12_offAhead 35 (.aload_n 0) 1 36 := by decide +kernel
theorem dX12_offAhead_36 : dcd cX12_offAhead 36 (.getfield 32) 3 39 := by decide +kernel
theorem dX12_offAhead_39 : dcd cX12_offAhead 39 (.iload_n 1) 1 40 := by decide +kernel
theorem dX12_offAhead_40 : dcd cX12_offAhead 40 (.iaload) 1 41 := by decide +kernel
theorem dX12_offAhead_41 : dcd cX12_offAhead 41 (.aload_n 0) 1 42 := by decide +kernel
theorem dX12_offAhead_42 : dcd cX12_offAhead 42 (.getfield 35) 3 45 := by decide +kernel
theorem dX12_offAhead_45 : dcd cX12_offAhead 45 (.iload_n 1) 1 46 := by decide +kernel
theorem dX12_offAhead_46 : dcd cX12_offAhead 46 (.iaload) 1 47 := by decide +kernel
theorem dX12_offAhead_47 : dcd cX12_offAhead 47 (.iload_n 3) 1 48 := by decide +kernel
theorem dX12_offAhead_48 : dcd cX12_offAhead 48 (.aload_n 0) 1 49 := by decide +kernel
theorem dX12_offAhead_49 : dcd cX12_offAhead 49 (.getfield 41) 3 52 := by decide +kernel
theorem dX12_offAhead_52 : dcd cX12_offAhead 52 (.iload_n 1) 1 53 := by decide +kernel
theorem dX12_offAhead_53 : dcd cX12_offAhead 53 (.iaload) 1 54 := by decide +kernel
theorem dX12_offAhead_54 : dcd cX12_offAhead 54 (.invokevirtual 151) 3 57 := by decide +kernel
theorem dX12_offAhead_57 : dcb cX12_offAhead 57 (.goto (26)) (26) 83 60 := by decide +kernel
theorem dX12_offAhead_60 : dcd cX12_offAhead 60 (.aload_n 0) 1 61 := by decide +kernel
theorem dX12_offAhead_61 : dcd cX12_offAhead 61 (.aload_n 0) 1 62 := by decide +kernel
theorem dX12_offAhead_62 : dcd cX12_offAhead 62 (.getfield 32) 3 65 := by decide +kernel
theorem dX12_offAhead_65 : dcd cX12_offAhead 65 (.iload_n 1) 1 66 := by decide +kernel
theorem dX12_offAhead_66 : dcd cX12_offAhead 66 (.iaload) 1 67 := by decide +kernel
theorem dX12_offAhead_67 : dcd cX12_offAhead 67 (.aload_n 0) 1 68 := by decide +kernel
theorem dX12_offAhead_68 : dcd cX12_offAhead 68 (.getfield 35) 3 71 := by decide +kernel
theorem dX12_offAhead_71 : dcd cX12_offAhead 71 (.iload_n 1) 1 72 := by decide +kernel
theorem dX12_offAhead_72 : dcd cX12_offAhead 72 (.iaload) 1 73 := by decide +kernel
theorem dX12_offAhead_73 : dcd cX12_offAhead 73 (.aload_n 0) 1 74 := by decide +kernel
theorem dX12_offAhead_74 : dcd cX12_offAhead 74 (.getfield 38) 3 77 := by decide +kernel
theorem dX12_offAhead_77 : dcd cX12_offAhead 77 (.iload_n 1) 1 78 := by decide +kernel
theorem dX12_offAhead_78 : dcd cX12_offAhead 78 (.iaload) 1 79 := by decide +kernel
theorem dX12_offAhead_79 : dcd cX12_offAhead 79 (.iload_n 3) 1 80 := by decide +kernel
theorem dX12_offAhead_80 : dcd cX12_offAhead 80 (.invokevirtual 151) 3 83 := by decide +kernel
theorem dX12_offAhead_83 : dcd cX12_offAhead 83 (.istore 5) 2 85 := by decide +kernel
theorem dX12_offAhead_85 : dcd cX12_offAhead 85 (.iload 4) 2 87 := by decide +kernel
theorem dX12_offAhead_87 : dcb cX12_offAhead 87 (.ifCond .ne (7)) (7) 94 90 := by decide +kernel
theorem dX12_offAhead_90 : dcd cX12_offAhead 90 (.iconst 0) 1 91 := by decide +kernel
theorem dX12_offAhead_91 : dcb cX12_offAhead 91 (.goto (15)) (15) 106 94 := by decide +kernel
theorem dX12_offAhead_94 : dcd cX12_offAhead 94 (.aload_n 0) 1 95 := by decide +kernel
theorem dX12_offAhead_95 : dcd cX12_offAhead 95 (.getfield 50) 3 98 := by decide +kernel
theorem dX12_offAhead_98 : dcd cX12_offAhead 98 (.iload_n 1) 1 99 := by decide +kernel
theorem dX12_offAhead_99 : dcd cX12_offAhead 99 (.iaload) 1 100 := by decide +kernel
theorem dX12_offAhead_100 : dcd cX12_offAhead 100 (.iload 5) 2 102 := by decide +kernel
theorem dX12_offAhead_102 : dcd cX12_offAhead 102 (.imul) 1 103 := by decide +kernel
theorem dX12_offAhead_103 : dcd cX12_offAhead 103 (.iload 4) 2 105 := by decide +kernel
theorem dX12_offAhead_105 : dcd cX12_offAhead 105 (.idiv) 1 106 := by decide +kernel
theorem dX12_offAhead_106 : decode cX12_offAhead 106 = .ok (.ireturn, 1) := by decide +kernel
theorem dX12_driedAhead_0 : dcd cX12_driedAhead 0 (.aload_n 0) 1 1 := by decide +kernel
theorem dX12_driedAhead_1 : dcd cX12_driedAhead 1 (.getfield 53) 3 4 := by decide +kernel
theorem dX12_driedAhead_4 : dcd cX12_driedAhead 4 (.iconst 4) 1 5 := by decide +kernel
theorem dX12_driedAhead_5 : dcd cX12_driedAhead 5 (.iload_n 1) 1 6 := by decide +kernel
theorem dX12_driedAhead_6 : dcd cX12_driedAhead 6 (.imul) 1 7 := by decide +kernel
theorem dX12_driedAhead_7 : dcd cX12_driedAhead 7 (.iload_n 2) 1 8 := by decide +kernel
theorem dX12_driedAhead_8 : dcd cX12_driedAhead 8 (.iadd) 1 9 := by decide +kernel
theorem dX12_driedAhead_9 : dcd cX12_driedAhead 9 (.iaload) 1 10 := by decide +kernel
theorem dX12_driedAhead_10 : dcd cX12_driedAhead 10 (.iload 4) 2 12 := by decide +kernel
theorem dX12_driedAhead_12 : dcd cX12_driedAhead 12 (.imul) 1 13 := by decide +kernel
theorem dX12_driedAhead_13 : dcd cX12_driedAhead 13 (.iload_n 3) 1 14 := by decide +kernel
theorem dX12_driedAhead_14 : dcb cX12_driedAhead 14 (.ifCond .eq (12)) (12) 26 17 := by decide +kernel
theorem dX12_driedAhead_17 : dcd cX12_driedAhead 17 (.aload_n 0) 1 18 := by decide +kernel
theorem dX12_driedAhead_18 : dcd cX12_driedAhead 18 (.getfield 38) 3 21 := by decide +kernel
theorem dX12_driedAhead_21 : dcd cX12_driedAhead 21 (.iload_n 1) 1 22 := by decide +kernel
theorem dX12_driedAhead_22 : dcd cX12_driedAhead 22 (.iaload) 1 23 := by decide +kernel
theorem dX12_driedAhead_23 : dcb cX12_driedAhead 23 (.goto (9)) (9) 32 26 := by decide +kernel
theorem dX12_driedAhead_26 : dcd cX12_driedAhead 26 (.aload_n 0) 1 27 := by decide +kernel
theorem dX12_driedAhead_27 : dcd cX12_driedAhead 27 (.getfield 41) 3 30 := by decide +kernel
theorem dX12_driedAhead_30 : dcd cX12_driedAhead 30 (.iload_n 1) 1 31 := by decide +kernel
theorem dX12_driedAhead_31 : dcd cX12_driedAhead 31 (.iaload) 1 32 := by decide +kernel
theorem dX12_driedAhead_32 : dcd cX12_driedAhead 32 (.idiv) 1 33 := by decide +kernel
theorem dX12_driedAhead_33 : decode cX12_driedAhead 33 = .ok (.ireturn, 1) := by decide +kernel
theorem dX12_layPart_0 : dcd cX12_layPart 0 (.aload_n 0) 1 1 := by decide +kernel
theorem dX12_layPart_1 : dcd cX12_layPart 1 (.getfield 32) 3 4 := by decide +kernel
theorem dX12_layPart_4 : dcd cX12_layPart 4 (.iload_n 1) 1 5 := by decide +kernel
theorem dX12_layPart_5 : dcd cX12_layPart 5 (.iaload) 1 6 := by decide +kernel
theorem dX12_layPart_6 : dcd cX12_layPart 6 (.iload_n 2) 1 7 := by decide +kernel
theorem dX12_layPart_7 : dcb cX12_layPart 7 (.ifCond .eq (12)) (12) 19 10 := by decide +kernel
theorem dX12_layPart_10 : dcd cX12_layPart 10 (.iload 4) 2 12 := by decide +kernel
theorem dX12_layPart_12 : dcb cX12_layPart 12 (.ifCond .eq (7)) (7) 19 15 := by decide +kernel
theorem dX12_layPart_15 : dcd cX12_layPart 15 (.iload_n 3) 1 16 := by decide +kernel
theorem dX12_layPart_16 : dcb cX12_layPart 16 (.goto (4)) (4) 20 19 := by decide +kernel
theorem dX12_layPart_19 : dcd cX12_layPart 19 (.iconst 0) 1 20 := by decide +kernel
theorem dX12_layPart_20 : dcd cX12_layPart 20 (.iadd) 1 21 := by decide +kernel
theorem dX12_layPart_21 : dcd cX12_layPart 21 (.istore 5) 2 23 := by decide +kernel
theorem dX12_layPart_23 : dcd cX12_layPart 23 (.aload_n 0) 1 24 := by decide +kernel
theorem dX12_layPart_24 : dcd cX12_layPart 24 (.getfield 35) 3 27 := by decide +kernel
theorem dX12_layPart_27 : dcd cX12_layPart 27 (.iload_n 1) 1 28 := by decide +kernel
theorem dX12_layPart_28 : dcd cX12_layPart 28 (.iaload) 1 29 := by decide +kernel
theorem dX12_layPart_29 : dcd cX12_layPart 29 (.iload_n 2) 1 30 := by decide +kernel
theorem dX12_layPart_30 : dcb cX12_layPart 30 (.ifCond .ne (12)) (12) 42 33 := by decide +kernel
theorem dX12_layPart_33 : dcd cX12_layPart 33 (.iload 4) 2 35 := by decide +kernel
theorem dX12_layPart_35 : dcb cX12_layPart 35 (.ifCond .eq (7)) (7) 42 38 := by decide +kernel
theorem dX12_layPart_38 : dcd cX12_layPart 38 (.iload_n 3) 1 39 := by decide +kernel
theorem dX12_layPart_39 : dcb cX12_layPart 39 (.goto (4)) (4) 43 42 := by decide +kernel
theorem dX12_layPart_42 : dcd cX12_layPart 42 (.iconst 0) 1 43 := by decide +kernel
theorem dX12_layPart_43 : dcd cX12_layPart 43 (.iadd) 1 44 := by decide +kernel
theorem dX12_layPart_44 : dcd cX12_layPart 44 (.istore 6) 2 46 := by decide +kernel
theorem dX12_layPart_46 : dcd cX12_layPart 46 (.iload_n 2) 1 47 := by decide +kernel
theorem dX12_layPart_47 : dcb cX12_layPart 47 (.ifCond .ne (12)) (12) 59 50 := by decide +kernel
theorem dX12_layPart_50 : dcd cX12_layPart 50 (.aload_n 0) 1 51 := by decide +kernel
theorem dX12_layPart_51 : dcd cX12_layPart 51 (.getfield 38) 3 54 := by decide +kernel
theorem dX12_layPart_54 : dcd cX12_layPart 54 (.iload_n 1) 1 55 := by decide +kernel
theorem dX12_layPart_55 : dcd cX12_layPart 55 (.iaload) 1 56 := by decide +kernel
theorem dX12_layPart_56 : dcb cX12_layPart 56 (.goto (20)) (20) 76 59 := by decide +kernel
theorem dX12_layPart_59 : dcd cX12_layPart 59 (.iload 4) 2 61 := by decide +kernel
theorem dX12_layPart_61 : dcb cX12_layPart 61 (.ifCond .eq (14)) (14) 75 64 := by decide +kernel
theorem dX12_layPart_64 : dcd cX12_layPart 64 (.aload_n 0) 1 65 := by decide +kernel
theorem dX12_layPart_65 : dcd cX12_layPart 65 (.getfield 38) 3 68 := by decide +kernel
theorem dX12_layPart_68 : dcd cX12_layPart 68 (.iload_n 1) 1 69 := by decide +kernel
theorem dX12_layPart_69 : dcd cX12_layPart 69 (.iaload) 1 70 := by decide +kernel
theorem dX12_layPart_70 : dcd cX12_layPart 70 (.iload_n 3) 1 71 := by decide +kernel
theorem dX12_layPart_71 : dcd cX12_layPart 71 (.isub) 1 72 := by decide +kernel
theorem dX12_layPart_72 : dcb cX12_layPart 72 (.goto (4)) (4) 76 75 := by decide +kernel
theorem dX12_layPart_75 : dcd cX12_layPart 75 (.iload_n 3) 1 76 := by decide +kernel
theorem dX12_layPart_76 : dcd cX12_layPart 76 (.istore 7) 2 78 := by decide +kernel
theorem dX12_layPart_78 : dcd cX12_layPart 78 (.iload_n 2) 1 79 := by decide +kernel
theorem dX12_layPart_79 : dcb cX12_layPart 79 (.ifCond .eq (12)) (12) 91 82 := by decide +kernel
theorem dX12_layPart_82 : dcd cX12_layPart 82 (.aload_n 0) 1 83 := by decide +kernel
theorem dX12_layPart_83 : dcd cX12_layPart 83 (.getfield 41) 3 86 := by decide +kernel
theorem dX12_layPart_86 : dcd cX12_layPart 86 (.iload_n 1) 1 87 := by decide +kernel
theorem dX12_layPart_87 : dcd cX12_layPart 87 (.iaload) 1 88 := by decide +kernel
theorem dX12_layPart_88 : dcb cX12_layPart 88 (.goto (20)) (20) 108 91 := by decide +kernel
theorem dX12_layPart_91 : dcd cX12_layPart 91 (.iload 4) 2 93 := by decide +kernel
theorem dX12_layPart_93 : dcb cX12_layPart 93 (.ifCond .eq (14)) (14) 107 96 := by decide +kernel
theorem dX12_layPart_96 : dcd cX12_layPart 96 (.aload_n 0) 1 97 := by decide +kernel
theorem dX12_layPart_97 : dcd cX12_layPart 97 (.getfield 41) 3 100 := by decide +kernel
theorem dX12_layPart_100 : dcd cX12_layPart 100 (.iload_n 1) 1 101 := by decide +kernel
theorem dX12_layPart_101 : dcd cX12_layPart 101 (.iaload) 1 102 := by decide +kernel
theorem dX12_layPart_102 : dcd cX12_layPart 102 (.iload_n 3) 1 103 := by decide +kernel
theorem dX12_layPart_103 : dcd cX12_layPart 103 (.isub) 1 104 := by decide +kernel
theorem dX12_layPart_104 : dcb cX12_layPart 104 (.goto (4)) (4) 108 107 := by decide +kernel
theorem dX12_layPart_107 : dcd cX12_layPart 107 (.iload_n 3) 1 108 := by decide +kernel
theorem dX12_layPart_108 : dcd cX12_layPart 108 (.istore 8) 2 110 := by decide +kernel
theorem dX12_layPart_110 : dcd cX12_layPart 110 (.iload_n 2) 1 111 := by decide +kernel
theorem dX12_layPart_111 : dcb cX12_layPart 111 (.ifCond .eq (7)) (7) 118 114 := by decide +kernel
theorem dX12_layPart_114 : dcd cX12_layPart 114 (.iconst 2) 1 115 := by decide +kernel
theorem dX12_layPart_115 : dcb cX12_layPart 115 (.goto (4)) (4) 119 118 := by decide +kernel
theorem dX12_layPart_118 : dcd cX12_layPart 118 (.iconst 0) 1 119 := by decide +kernel
theorem dX12_layPart_119 : dcd cX12_layPart 119 (.istore 9) 2 121 := by decide +kernel
theorem dX12_layPart_121 : dcd cX12_layPart 121 (.aload_n 0) 1 122 := by decide +kernel
theorem dX12_layPart_122 : dcd cX12_layPart 122 (.getfield 53) 3 125 := by decide +kernel
theorem dX12_layPart_125 : dcd cX12_layPart 125 (.iconst 4) 1 126 := by decide +kernel
theorem dX12_layPart_126 : dcd cX12_layPart 126 (.iload_n 1) 1 127 := by decide +kernel
theorem dX12_layPart_127 : dcd cX12_layPart 127 (.imul) 1 128 := by decide +kernel
theorem dX12_layPart_128 : dcd cX12_layPart 128 (.iload_n 2) 1 129 := by decide +kernel
theorem dX12_layPart_129 : dcb cX12_layPart 129 (.ifCond .eq (16)) (16) 145 132 := by decide +kernel
theorem dX12_layPart_132 : dcd cX12_layPart 132 (.iload 4) 2 134 := by decide +kernel
theorem dX12_layPart_134 : dcb cX12_layPart 134 (.ifCond .eq (7)) (7) 141 137 := by decide +kernel
theorem dX12_layPart_137 : dcd cX12_layPart 137 (.iconst 1) 1 138 := by decide +kernel
theorem dX12_layPart_138 : dcb cX12_layPart 138 (.goto (17)) (17) 155 141 := by decide +kernel
theorem dX12_layPart_141 : dcd cX12_layPart 141 (.iconst 0) 1 142 := by decide +kernel
theorem dX12_layPart_142 : dcb cX12_layPart 142 (.goto (13)) (13) 155 145 := by decide +kernel
theorem dX12_layPart_145 : dcd cX12_layPart 145 (.iload 4) 2 147 := by decide +kernel
theorem dX12_layPart_147 : dcb cX12_layPart 147 (.ifCond .eq (7)) (7) 154 150 := by decide +kernel
theorem dX12_layPart_150 : dcd cX12_layPart 150 (.iconst 3) 1 151 := by decide +kernel
theorem dX12_layPart_151 : dcb cX12_layPart 151 (.goto (4)) (4) 155 154 := by decide +kernel
theorem dX12_layPart_154 : dcd cX12_layPart 154 (.iconst 2) 1 155 := by decide +kernel
theorem dX12_layPart_155 : dcd cX12_layPart 155 (.iadd) 1 156 := by decide +kernel
theorem dX12_layPart_156 : dcd cX12_layPart 156 (.iaload) 1 157 := by decide +kernel
theorem dX12_layPart_157 : dcd cX12_layPart 157 (.istore 10) 2 159 := by decide +kernel
theorem dX12_layPart_159 : dcd cX12_layPart 159 (.iload 9) 2 161 := by decide +kernel
theorem dX12_layPart_161 : dcd cX12_layPart 161 (.istore 11) 2 163 := by decide +kernel
theorem dX12_layPart_163 : dcd cX12_layPart 163 (.iload 11) 2 165 := by decide +kernel
theorem dX12_layPart_165 : dcd cX12_layPart 165 (.iload 9) 2 167 := by decide +kernel
theorem dX12_layPart_167 : dcd cX12_layPart 167 (.iconst 2) 1 168 := by decide +kernel
theorem dX12_layPart_168 : dcd cX12_layPart 168 (.iadd) 1 169 := by decide +kernel
theorem dX12_layPart_169 : dcb cX12_layPart 169 (.if_icmp .ge (49)) (49) 218 172 := by decide +kernel
theorem dX12_layPart_172 : dcd cX12_layPart 172 (.aload_n 0) 1 173 := by decide +kernel
theorem dX12_layPart_173 : dcd cX12_layPart 173 (.iload_n 1) 1 174 := by decide +kernel
theorem dX12_layPart_174 : dcd cX12_layPart 174 (.iload 11) 2 176 := by decide +kernel
theorem dX12_layPart_176 : dcd cX12_layPart 176 (.iload_n 2) 1 177 := by decide +kernel
theorem dX12_layPart_177 : dcd cX12_layPart 177 (.iload_n 3) 1 178 := by decide +kernel
theorem dX12_layPart_178 : dcd cX12_layPart 178 (.invokevirtual 161) 3 181 := by decide +kernel
theorem dX12_layPart_181 : dcd cX12_layPart 181 (.istore 12) 2 183 := by decide +kernel
theorem dX12_layPart_183 : dcd cX12_layPart 183 (.iload 10) 2 185 := by decide +kernel
theorem dX12_layPart_185 : dcd cX12_layPart 185 (.iload 4) 2 187 := by decide +kernel
theorem dX12_layPart_187 : dcb cX12_layPart 187 (.ifCond .eq (20)) (20) 207 190 := by decide +kernel
theorem dX12_layPart_190 : dcd cX12_layPart 190 (.aload_n 0) 1 191 := by decide +kernel
theorem dX12_layPart_191 : dcd cX12_layPart 191 (.getfield 53) 3 194 := by decide +kernel
theorem dX12_layPart_194 : dcd cX12_layPart 194 (.iconst 4) 1 195 := by decide +kernel
theorem dX12_layPart_195 : dcd cX12_layPart 195 (.iload_n 1) 1 196 := by decide +kernel
theorem dX12_layPart_196 : dcd cX12_layPart 196 (.imul) 1 197 := by decide +kernel
theorem dX12_layPart_197 : dcd cX12_layPart 197 (.iload 11) 2 199 := by decide +kernel
theorem dX12_layPart_199 : dcd cX12_layPart 199 (.iadd) 1 200 := by decide +kernel
theorem dX12_layPart_200 : dcd cX12_layPart 200 (.iaload) 1 201 := by decide +kernel
theorem dX12_layPart_201 : dcd cX12_layPart 201 (.iload 12) 2 203 := by decide +kernel
theorem dX12_layPart_203 : dcd cX12_layPart 203 (.isub) 1 204 := by decide +kernel
theorem dX12_layPart_204 : dcb cX12_layPart 204 (.goto (5)) (5) 209 207 := by decide +kernel
theorem dX12_layPart_207 : dcd cX12_layPart 207 (.iload 12) 2 209 := by decide +kernel
theorem dX12_layPart_209 : dcd cX12_layPart 209 (.iadd) 1 210 := by decide +kernel
theorem dX12_layPart_210 : dcd cX12_layPart 210 (.istore 10) 2 212 := by decide +kernel
theorem dX12_layPart_212 : dcd cX12_layPart 212 (.iinc 11 1) 3 215 := by decide +kernel
theorem dX12_layPart_215 : dcb cX12_layPart 215 (.goto (-52)) (-52) 163 218 := by decide +kernel
theorem dX12_layPart_218 : dcd cX12_layPart 218 (.aload_n 0) 1 219 := by decide +kernel
theorem dX12_layPart_219 : dcd cX12_layPart 219 (.iload_n 1) 1 220 := by decide +kernel
theorem dX12_layPart_220 : dcd cX12_layPart 220 (.iload_n 2) 1 221 := by decide +kernel
theorem dX12_layPart_221 : dcd cX12_layPart 221 (.iload_n 3) 1 222 := by decide +kernel
theorem dX12_layPart_222 : dcd cX12_layPart 222 (.invokevirtual 165) 3 225 := by decide +kernel
theorem dX12_layPart_225 : dcd cX12_layPart 225 (.istore 11) 2 227 := by decide +kernel
theorem dX12_layPart_227 : dcd cX12_layPart 227 (.aload_n 0) 1 228 := by decide +kernel
theorem dX12_layPart_228 : dcd cX12_layPart 228 (.aload_n 0) 1 229 := by decide +kernel
theorem dX12_layPart_229 : dcd cX12_layPart 229 (.iload 5) 2 231 := by decide +kernel
theorem dX12_layPart_231 : dcd cX12_layPart 231 (.iload 6) 2 233 := by decide +kernel
theorem dX12_layPart_233 : dcd cX12_layPart 233 (.iload 7) 2 235 := by decide +kernel
theorem dX12_layPart_235 : dcd cX12_layPart 235 (.iload 8) 2 237 := by decide +kernel
theorem dX12_layPart_237 : dcd cX12_layPart 237 (.invokevirtual 151) 3 240 := by decide +kernel
theorem dX12_layPart_240 : dcd cX12_layPart 240 (.iload 10) 2 242 := by decide +kernel
theorem dX12_layPart_242 : dcd cX12_layPart 242 (.bipush 40) 2 244 := by decide +kernel
theorem dX12_layPart_244 : dcd cX12_layPart 244 (.idiv) 1 245 := by decide +kernel
theorem dX12_layPart_245 : dcd cX12_layPart 245 (.isub) 1 246 := by decide +kernel
theorem dX12_layPart_246 : dcd cX12_layPart 246 (.iload 4) 2 248 := by decide +kernel
theorem dX12_layPart_248 : dcb cX12_layPart 248 (.ifCond .eq (15)) (15) 263 251 := by decide +kernel
theorem dX12_layPart_251 : dcd cX12_layPart 251 (.aload_n 0) 1 252 := by decide +kernel
theorem dX12_layPart_252 : dcd cX12_layPart 252 (.getfield 50) 3 255 := by decide +kernel
theorem dX12_layPart_255 : dcd cX12_layPart 255 (.iload_n 1) 1 256 := by decide +kernel
theorem dX12_layPart_256 : dcd cX12_layPart 256 (.iaload) 1 257 := by decide +kernel
theorem dX12_layPart_257 : dcd cX12_layPart 257 (.iload 11) 2 259 := by decide +kernel
theorem dX12_layPart_259 : dcd cX12_layPart 259 (.isub) 1 260 := by decide +kernel
theorem dX12_layPart_260 : dcb cX12_layPart 260 (.goto (5)) (5) 265 263 := by decide +kernel
theorem dX12_layPart_263 : dcd cX12_layPart 263 (.iload 11) 2 265 := by decide +kernel
theorem dX12_layPart_265 : dcd cX12_layPart 265 (.isub) 1 266 := by decide +kernel
theorem dX12_layPart_266 : dcd cX12_layPart 266 (.invokestatic 158) 3 269 := by decide +kernel
theorem dX12_layPart_269 : dcd cX12_layPart 269 (.putfield 169) 3 272 := by decide +kernel
theorem dX12_layPart_272 : dcd cX12_layPart 272 (.aload_n 0) 1 273 := by decide +kernel
theorem dX12_layPart_273 : dcd cX12_layPart 273 (.aload_n 0) 1 274 := by decide +kernel
theorem dX12_layPart_274 : dcd cX12_layPart 274 (.iload 5) 2 276 := by decide +kernel
theorem dX12_layPart_276 : dcd cX12_layPart 276 (.iload 6) 2 278 := by decide +kernel
theorem dX12_layPart_278 : dcd cX12_layPart 278 (.iload 7) 2 280 := by decide +kernel
theorem dX12_layPart_280 : dcd cX12_layPart 280 (.iload 8) 2 282 := by decide +kernel
theorem dX12_layPart_282 : dcd cX12_layPart 282 (.iconst 1) 1 283 := by decide +kernel
theorem dX12_layPart_283 : dcd cX12_layPart 283 (.invokevirtual 172) 3 286 := by decide +kernel
theorem dX12_layPart_286 : dcd cX12_layPart 286 (.putfield 176) 3 289 := by decide +kernel
theorem dX12_layPart_289 : decode cX12_layPart 289 = .ok (.return_, 1) := by decide +kernel
theorem dX12_makeCut_0 : dcd cX12_makeCut 0 (.aload_n 0) 1 1 := by decide +kernel
theorem dX12_makeCut_1 : dcd cX12_makeCut 1 (.getfield 29) 3 4 := by decide +kernel
theorem dX12_makeCut_4 : dcd cX12_makeCut 4 (.istore 4) 2 6 := by decide +kernel
theorem dX12_makeCut_6 : dcd cX12_makeCut 6 (.aload_n 0) 1 7 := by decide +kernel
theorem dX12_makeCut_7 : dcd cX12_makeCut 7 (.iload_n 1) 1 8 := by decide +kernel
theorem dX12_makeCut_8 : dcd cX12_makeCut 8 (.iload_n 2) 1 9 := by decide +kernel
theorem dX12_makeCut_9 : dcd cX12_makeCut 9 (.iload_n 3) 1 10 := by decide +kernel
theorem dX12_makeCut_10 : dcd cX12_makeCut 10 (.invokevirtual 165) 3 13 := by decide +kernel
theorem dX12_makeCut_13 : dcd cX12_makeCut 13 (.istore 5) 2 15 := by decide +kernel
theorem dX12_makeCut_15 : dcd cX12_makeCut 15 (.aload_n 0) 1 16 := by decide +kernel
theorem dX12_makeCut_16 : dcd cX12_makeCut 16 (.getfield 32) 3 19 := by decide +kernel
theorem dX12_makeCut_19 : dcd cX12_makeCut 19 (.iload 4) 2 21 := by decide +kernel
theorem dX12_makeCut_21 : dcd cX12_makeCut 21 (.aload_n 0) 1 22 := by decide +kernel
theorem dX12_makeCut_22 : dcd cX12_makeCut 22 (.getfield 32) 3 25 := by decide +kernel
theorem dX12_makeCut_25 : dcd cX12_makeCut 25 (.iload_n 1) 1 26 := by decide +kernel
theorem dX12_makeCut_26 : dcd cX12_makeCut 26 (.iaload) 1 27 := by decide +kernel
theorem dX12_makeCut_27 : dcd cX12_makeCut 27 (.iload_n 2) 1 28 := by decide +kernel
theorem dX12_makeCut_28 : dcb cX12_makeCut 28 (.ifCond .eq (7)) (7) 35 31 := by decide +kernel
theorem dX12_makeCut_31 : dcd cX12_makeCut 31 (.iload_n 3) 1 32 := by decide +kernel
theorem dX12_makeCut_32 : dcb cX12_makeCut 32 (.goto (4)) (4) 36 35 := by decide +kernel
theorem dX12_makeCut_35 : dcd cX12_makeCut 35 (.iconst 0) 1 36 := by decide +kernel
theorem dX12_makeCut_36 : dcd cX12_makeCut 36 (.iadd) 1 37 := by decide +kernel
theorem dX12_makeCut_37 : dcd cX12_makeCut 37 (.iastore) 1 38 := by decide +kernel
theorem dX12_makeCut_38 : dcd cX12_makeCut 38 (.aload_n 0) 1 39 := by decide +kernel
theorem dX12_makeCut_39 : dcd cX12_makeCut 39 (.getfield 35) 3 42 := by decide +kernel
theorem dX12_makeCut_42 : dcd cX12_makeCut 42 (.iload 4) 2 44 := by decide +kernel
theorem dX12_makeCut_44 : dcd cX12_makeCut 44 (.aload_n 0) 1 45 := by decide +kernel
theorem dX12_makeCut_45 : dcd cX12_makeCut 45 (.getfield 35) 3 48 := by decide +kernel
theorem dX12_makeCut_48 : dcd cX12_makeCut 48 (.iload_n 1) 1 49 := by decide +kernel
theorem dX12_makeCut_49 : dcd cX12_makeCut 49 (.iaload) 1 50 := by decide +kernel
theorem dX12_makeCut_50 : dcd cX12_makeCut 50 (.iload_n 2) 1 51 := by decide +kernel
theorem dX12_makeCut_51 : dcb cX12_makeCut 51 (.ifCond .eq (7)) (7) 58 54 := by decide +kernel
theorem dX12_makeCut_54 : dcd cX12_makeCut 54 (.iconst 0) 1 55 := by decide +kernel
theorem dX12_makeCut_55 : dcb cX12_makeCut 55 (.goto (4)) (4) 59 58 := by decide +kernel
theorem dX12_makeCut_58 : dcd cX12_makeCut 58 (.iload_n 3) 1 59 := by decide +kernel
theorem dX12_makeCut_59 : dcd cX12_makeCut 59 (.iadd) 1 60 := by decide +kernel
theorem dX12_makeCut_60 : dcd cX12_makeCut 60 (.iastore) 1 61 := by decide +kernel
theorem dX12_makeCut_61 : dcd cX12_makeCut 61 (.aload_n 0) 1 62 := by decide +kernel
theorem dX12_makeCut_62 : dcd cX12_makeCut 62 (.getfield 38) 3 65 := by decide +kernel
theorem dX12_makeCut_65 : dcd cX12_makeCut 65 (.iload 4) 2 67 := by decide +kernel
theorem dX12_makeCut_67 : dcd cX12_makeCut 67 (.iload_n 2) 1 68 := by decide +kernel
theorem dX12_makeCut_68 : dcb cX12_makeCut 68 (.ifCond .eq (14)) (14) 82 71 := by decide +kernel
theorem dX12_makeCut_71 : dcd cX12_makeCut 71 (.aload_n 0) 1 72 := by decide +kernel
theorem dX12_makeCut_72 : dcd cX12_makeCut 72 (.getfield 38) 3 75 := by decide +kernel
theorem dX12_makeCut_75 : dcd cX12_makeCut 75 (.iload_n 1) 1 76 := by decide +kernel
theorem dX12_makeCut_76 : dcd cX12_makeCut 76 (.iaload) 1 77 := by decide +kernel
theorem dX12_makeCut_77 : dcd cX12_makeCut 77 (.iload_n 3) 1 78 := by decide +kernel
theorem dX12_makeCut_78 : dcd cX12_makeCut 78 (.isub) 1 79 := by decide +kernel
theorem dX12_makeCut_79 : dcb cX12_makeCut 79 (.goto (9)) (9) 88 82 := by decide +kernel
theorem dX12_makeCut_82 : dcd cX12_makeCut 82 (.aload_n 0) 1 83 := by decide +kernel
theorem dX12_makeCut_83 : dcd cX12_makeCut 83 (.getfield 38) 3 86 := by decide +kernel
theorem dX12_makeCut_86 : dcd cX12_makeCut 86 (.iload_n 1) 1 87 := by decide +kernel
theorem dX12_makeCut_87 : dcd cX12_makeCut 87 (.iaload) 1 88 := by decide +kernel
theorem dX12_makeCut_88 : dcd cX12_makeCut 88 (.iastore) 1 89 := by decide +kernel
theorem dX12_makeCut_89 : dcd cX12_makeCut 89 (.aload_n 0) 1 90 := by decide +kernel
theorem dX12_makeCut_90 : dcd cX12_makeCut 90 (.getfield 41) 3 93 := by decide +kernel
theorem dX12_makeCut_93 : dcd cX12_makeCut 93 (.iload 4) 2 95 := by decide +kernel
theorem dX12_makeCut_95 : dcd cX12_makeCut 95 (.iload_n 2) 1 96 := by decide +kernel
theorem dX12_makeCut_96 : dcb cX12_makeCut 96 (.ifCond .eq (12)) (12) 108 99 := by decide +kernel
theorem dX12_makeCut_99 : dcd cX12_makeCut 99 (.aload_n 0) 1 100 := by decide +kernel
theorem dX12_makeCut_100 : dcd cX12_makeCut 100 (.getfield 41) 3 103 := by decide +kernel
theorem dX12_makeCut_103 : dcd cX12_makeCut 103 (.iload_n 1) 1 104 := by decide +kernel
theorem dX12_makeCut_104 : dcd cX12_makeCut 104 (.iaload) 1 105 := by decide +kernel
theorem dX12_makeCut_105 : dcb cX12_makeCut 105 (.goto (11)) (11) 116 108 := by decide +kernel
theorem dX12_makeCut_108 : dcd cX12_makeCut 108 (.aload_n 0) 1 109 := by decide +kernel
theorem dX12_makeCut_109 : dcd cX12_makeCut 109 (.getfield 41) 3 112 := by decide +kernel
theorem dX12_makeCut_112 : dcd cX12_makeCut 112 (.iload_n 1) 1 113 := by decide +kernel
theorem dX12_makeCut_113 : dcd cX12_makeCut 113 (.iaload) 1 114 := by decide +kernel
theorem dX12_makeCut_114 : dcd cX12_makeCut 114 (.iload_n 3) 1 115 := by decide +kernel
theorem dX12_makeCut_115 : dcd cX12_makeCut 115 (.isub) 1 116 := by decide +kernel
theorem dX12_makeCut_116 : dcd cX12_makeCut 116 (.iastore) 1 117 := by decide +kernel
theorem dX12_makeCut_117 : dcd cX12_makeCut 117 (.aload_n 0) 1 118 := by decide +kernel
theorem dX12_makeCut_118 : dcd cX12_makeCut 118 (.getfield 44) 3 121 := by decide +kernel
theorem dX12_makeCut_121 : dcd cX12_makeCut 121 (.iload 4) 2 123 := by decide +kernel
theorem dX12_makeCut_123 : dcd cX12_makeCut 123 (.iconst 0) 1 124 := by decide +kernel
theorem dX12_makeCut_124 : dcd cX12_makeCut 124 (.iastore) 1 125 := by decide +kernel
theorem dX12_makeCut_125 : dcd cX12_makeCut 125 (.aload_n 0) 1 126 := by decide +kernel
theorem dX12_makeCut_126 : dcd cX12_makeCut 126 (.getfield 47) 3 129 := by decide +kernel
theorem dX12_makeCut_129 : dcd cX12_makeCut 129 (.iload 4) 2 131 := by decide +kernel
theorem dX12_makeCut_131 : dcd cX12_makeCut 131 (.aload_n 0) 1 132 := by decide +kernel
theorem dX12_makeCut_132 : dcd cX12_makeCut 132 (.getfield 47) 3 135 := by decide +kernel
theorem dX12_makeCut_135 : dcd cX12_makeCut 135 (.iload_n 1) 1 136 := by decide +kernel
theorem dX12_makeCut_136 : dcd cX12_makeCut 136 (.iaload) 1 137 := by decide +kernel
theorem dX12_makeCut_137 : dcd cX12_makeCut 137 (.iastore) 1 138 := by decide +kernel
theorem dX12_makeCut_138 : dcd cX12_makeCut 138 (.aload_n 0) 1 139 := by decide +kernel
theorem dX12_makeCut_139 : dcd cX12_makeCut 139 (.getfield 50) 3 142 := by decide +kernel
theorem dX12_makeCut_142 : dcd cX12_makeCut 142 (.iload 4) 2 144 := by decide +kernel
theorem dX12_makeCut_144 : dcd cX12_makeCut 144 (.aload_n 0) 1 145 := by decide +kernel
theorem dX12_makeCut_145 : dcd cX12_makeCut 145 (.getfield 50) 3 148 := by decide +kernel
theorem dX12_makeCut_148 : dcd cX12_makeCut 148 (.iload_n 1) 1 149 := by decide +kernel
theorem dX12_makeCut_149 : dcd cX12_makeCut 149 (.iaload) 1 150 := by decide +kernel
theorem dX12_makeCut_150 : dcd cX12_makeCut 150 (.iload 5) 2 152 := by decide +kernel
theorem dX12_makeCut_152 : dcd cX12_makeCut 152 (.isub) 1 153 := by decide +kernel
theorem dX12_makeCut_153 : dcd cX12_makeCut 153 (.iastore) 1 154 := by decide +kernel
theorem dX12_makeCut_154 : dcd cX12_makeCut 154 (.iload_n 2) 1 155 := by decide +kernel
theorem dX12_makeCut_155 : dcb cX12_makeCut 155 (.ifCond .eq (7)) (7) 162 158 := by decide +kernel
theorem dX12_makeCut_158 : dcd cX12_makeCut 158 (.iconst 2) 1 159 := by decide +kernel
theorem dX12_makeCut_159 : dcb cX12_makeCut 159 (.goto (4)) (4) 163 162 := by decide +kernel
theorem dX12_makeCut_162 : dcd cX12_makeCut 162 (.iconst 0) 1 163 := by decide +kernel
theorem dX12_makeCut_163 : dcd cX12_makeCut 163 (.istore 6) 2 165 := by decide +kernel
theorem dX12_makeCut_165 : dcd cX12_makeCut 165 (.iload 6) 2 167 := by decide +kernel
theorem dX12_makeCut_167 : dcd cX12_makeCut 167 (.istore 7) 2 169 := by decide +kernel
theorem dX12_makeCut_169 : dcd cX12_makeCut 169 (.iload 7) 2 171 := by decide +kernel
theorem dX12_makeCut_171 : dcd cX12_makeCut 171 (.iload 6) 2 173 := by decide +kernel
theorem dX12_makeCut_173 : dcd cX12_makeCut 173 (.iconst 2) 1 174 := by decide +kernel
theorem dX12_makeCut_174 : dcd cX12_makeCut 174 (.iadd) 1 175 := by decide +kernel
theorem dX12_makeCut_175 : dcb cX12_makeCut 175 (.if_icmp .ge (59)) (59) 234 178 := by decide +kernel
theorem dX12_makeCut_178 : dcd cX12_makeCut 178 (.aload_n 0) 1 179 := by decide +kernel
theorem dX12_makeCut_179 : dcd cX12_makeCut 179 (.iload_n 1) 1 180 := by decide +kernel
theorem dX12_makeCut_180 : dcd cX12_makeCut 180 (.iload 7) 2 182 := by decide +kernel
theorem dX12_makeCut_182 : dcd cX12_makeCut 182 (.iload_n 2) 1 183 := by decide +kernel
theorem dX12_makeCut_183 : dcd cX12_makeCut 183 (.iload_n 3) 1 184 := by decide +kernel
theorem dX12_makeCut_184 : dcd cX12_makeCut 184 (.invokevirtual 161) 3 187 := by decide +kernel
theorem dX12_makeCut_187 : dcd cX12_makeCut 187 (.istore 8) 2 189 := by decide +kernel
theorem dX12_makeCut_189 : dcd cX12_makeCut 189 (.aload_n 0) 1 190 := by decide +kernel
theorem dX12_makeCut_190 : dcd cX12_makeCut 190 (.getfield 53) 3 193 := by decide +kernel
theorem dX12_makeCut_193 : dcd cX12_makeCut 193 (.iconst 4) 1 194 := by decide +kernel
theorem dX12_makeCut_194 : dcd cX12_makeCut 194 (.iload 4) 2 196 := by decide +kernel
theorem dX12_makeCut_196 : dcd cX12_makeCut 196 (.imul) 1 197 := by decide +kernel
theorem dX12_makeCut_197 : dcd cX12_makeCut 197 (.iload 7) 2 199 := by decide +kernel
theorem dX12_makeCut_199 : dcd cX12_makeCut 199 (.iadd) 1 200 := by decide +kernel
theorem dX12_makeCut_200 : dcd cX12_makeCut 200 (.aload_n 0) 1 201 := by decide +kernel
theorem dX12_makeCut_201 : dcd cX12_makeCut 201 (.getfield 53) 3 204 := by decide +kernel
theorem dX12_makeCut_204 : dcd cX12_makeCut 204 (.iconst 4) 1 205 := by decide +kernel
theorem dX12_makeCut_205 : dcd cX12_makeCut 205 (.iload_n 1) 1 206 := by decide +kernel
theorem dX12_makeCut_206 : dcd cX12_makeCut 206 (.imul) 1 207 := by decide +kernel
theorem dX12_makeCut_207 : dcd cX12_makeCut 207 (.iload 7) 2 209 := by decide +kernel
theorem dX12_makeCut_209 : dcd cX12_makeCut 209 (.iadd) 1 210 := by decide +kernel
theorem dX12_makeCut_210 : dcd cX12_makeCut 210 (.iaload) 1 211 := by decide +kernel
theorem dX12_makeCut_211 : dcd cX12_makeCut 211 (.iload 8) 2 213 := by decide +kernel
theorem dX12_makeCut_213 : dcd cX12_makeCut 213 (.isub) 1 214 := by decide +kernel
theorem dX12_makeCut_214 : dcd cX12_makeCut 214 (.iastore) 1 215 := by decide +kernel
theorem dX12_makeCut_215 : dcd cX12_makeCut 215 (.aload_n 0) 1 216 := by decide +kernel
theorem dX12_makeCut_216 : dcd cX12_makeCut 216 (.getfield 53) 3 219 := by decide +kernel
theorem dX12_makeCut_219 : dcd cX12_makeCut 219 (.iconst 4) 1 220 := by decide +kernel
theorem dX12_makeCut_220 : dcd cX12_makeCut 220 (.iload_n 1) 1 221 := by decide +kernel
theorem dX12_makeCut_221 : dcd cX12_makeCut 221 (.imul) 1 222 := by decide +kernel
theorem dX12_makeCut_222 : dcd cX12_makeCut 222 (.iload 7) 2 224 := by decide +kernel
theorem dX12_makeCut_224 : dcd cX12_makeCut 224 (.iadd) 1 225 := by decide +kernel
theorem dX12_makeCut_225 : dcd cX12_makeCut 225 (.iload 8) 2 227 := by decide +kernel
theorem dX12_makeCut_227 : dcd cX12_makeCut 227 (.iastore) 1 228 := by decide +kernel
theorem dX12_makeCut_228 : dcd cX12_makeCut 228 (.iinc 7 1) 3 231 := by decide +kernel
theorem dX12_makeCut_231 : dcb cX12_makeCut 231 (.goto (-62)) (-62) 169 234 := by decide +kernel
theorem dX12_makeCut_234 : dcd cX12_makeCut 234 (.iload_n 2) 1 235 := by decide +kernel
theorem dX12_makeCut_235 : dcb cX12_makeCut 235 (.ifCond .eq (7)) (7) 242 238 := by decide +kernel
theorem dX12_makeCut_238 : dcd cX12_makeCut 238 (.iconst 0) 1 239 := by decide +kernel
theorem dX12_makeCut_239 : dcb cX12_makeCut 239 (.goto (4)) (4) 243 242 := by decide +kernel
theorem dX12_makeCut_242 : dcd cX12_makeCut 242 (.iconst 2) 1 243 := by decide +kernel
theorem dX12_makeCut_243 : dcd cX12_makeCut 243 (.istore 7) 2 245 := by decide +kernel
theorem dX12_makeCut_245 : dcd cX12_makeCut 245 (.aload_n 0) 1 246 := by decide +kernel
theorem dX12_makeCut_246 : dcd cX12_makeCut 246 (.getfield 53) 3 249 := by decide +kernel
theorem dX12_makeCut_249 : dcd cX12_makeCut 249 (.iconst 4) 1 250 := by decide +kernel
theorem dX12_makeCut_250 : dcd cX12_makeCut 250 (.iload 4) 2 252 := by decide +kernel
theorem dX12_makeCut_252 : dcd cX12_makeCut 252 (.imul) 1 253 := by decide +kernel
theorem dX12_makeCut_253 : dcd cX12_makeCut 253 (.iload 7) 2 255 := by decide +kernel
theorem dX12_makeCut_255 : dcd cX12_makeCut 255 (.iadd) 1 256 := by decide +kernel
theorem dX12_makeCut_256 : dcd cX12_makeCut 256 (.iconst 0) 1 257 := by decide +kernel
theorem dX12_makeCut_257 : dcd cX12_makeCut 257 (.iastore) 1 258 := by decide +kernel
theorem dX12_makeCut_258 : dcd cX12_makeCut 258 (.aload_n 0) 1 259 := by decide +kernel
theorem dX12_makeCut_259 : dcd cX12_makeCut 259 (.getfield 53) 3 262 := by decide +kernel
theorem dX12_makeCut_262 : dcd cX12_makeCut 262 (.iconst 4) 1 263 := by decide +kernel
theorem dX12_makeCut_263 : dcd cX12_makeCut 263 (.iload 4) 2 265 := by decide +kernel
theorem dX12_makeCut_265 : dcd cX12_makeCut 265 (.imul) 1 266 := by decide +kernel
theorem dX12_makeCut_266 : dcd cX12_makeCut 266 (.iload 7) 2 268 := by decide +kernel
theorem dX12_makeCut_268 : dcd cX12_makeCut 268 (.iadd) 1 269 := by decide +kernel
theorem dX12_makeCut_269 : dcd cX12_makeCut 269 (.iconst 1) 1 270 := by decide +kernel
theorem dX12_makeCut_270 : dcd cX12_makeCut 270 (.iadd) 1 271 := by decide +kernel
theorem dX12_makeCut_271 : dcd cX12_makeCut 271 (.aload_n 0) 1 272 := by decide +kernel
theorem dX12_makeCut_272 : dcd cX12_makeCut 272 (.getfield 53) 3 275 := by decide +kernel
theorem dX12_makeCut_275 : dcd cX12_makeCut 275 (.iconst 4) 1 276 := by decide +kernel
theorem dX12_makeCut_276 : dcd cX12_makeCut 276 (.iload_n 1) 1 277 := by decide +kernel
theorem dX12_makeCut_277 : dcd cX12_makeCut 277 (.imul) 1 278 := by decide +kernel
theorem dX12_makeCut_278 : dcd cX12_makeCut 278 (.iload 7) 2 280 := by decide +kernel
theorem dX12_makeCut_280 : dcd cX12_makeCut 280 (.iadd) 1 281 := by decide +kernel
theorem dX12_makeCut_281 : dcd cX12_makeCut 281 (.iconst 1) 1 282 := by decide +kernel
theorem dX12_makeCut_282 : dcd cX12_makeCut 282 (.iadd) 1 283 := by decide +kernel
theorem dX12_makeCut_283 : dcd cX12_makeCut 283 (.iaload) 1 284 := by decide +kernel
theorem dX12_makeCut_284 : dcd cX12_makeCut 284 (.iastore) 1 285 := by decide +kernel
theorem dX12_makeCut_285 : dcd cX12_makeCut 285 (.aload_n 0) 1 286 := by decide +kernel
theorem dX12_makeCut_286 : dcd cX12_makeCut 286 (.getfield 53) 3 289 := by decide +kernel
theorem dX12_makeCut_289 : dcd cX12_makeCut 289 (.iconst 4) 1 290 := by decide +kernel
theorem dX12_makeCut_290 : dcd cX12_makeCut 290 (.iload_n 1) 1 291 := by decide +kernel
theorem dX12_makeCut_291 : dcd cX12_makeCut 291 (.imul) 1 292 := by decide +kernel
theorem dX12_makeCut_292 : dcd cX12_makeCut 292 (.iload 7) 2 294 := by decide +kernel
theorem dX12_makeCut_294 : dcd cX12_makeCut 294 (.iadd) 1 295 := by decide +kernel
theorem dX12_makeCut_295 : dcd cX12_makeCut 295 (.iconst 1) 1 296 := by decide +kernel
theorem dX12_makeCut_296 : dcd cX12_makeCut 296 (.iadd) 1 297 := by decide +kernel
theorem dX12_makeCut_297 : dcd cX12_makeCut 297 (.iconst 0) 1 298 := by decide +kernel
theorem dX12_makeCut_298 : dcd cX12_makeCut 298 (.iastore) 1 299 := by decide +kernel
theorem dX12_makeCut_299 : dcd cX12_makeCut 299 (.aload_n 0) 1 300 := by decide +kernel
theorem dX12_makeCut_300 : dcd cX12_makeCut 300 (.getfield 50) 3 303 := by decide +kernel
theorem dX12_makeCut_303 : dcd cX12_makeCut 303 (.iload_n 1) 1 304 := by decide +kernel
theorem dX12_makeCut_304 : dcd cX12_makeCut 304 (.iload 5) 2 306 := by decide +kernel
theorem dX12_makeCut_306 : dcd cX12_makeCut 306 (.iastore) 1 307 := by decide +kernel
theorem dX12_makeCut_307 : dcd cX12_makeCut 307 (.aload_n 0) 1 308 := by decide +kernel
theorem dX12_makeCut_308 : dcd cX12_makeCut 308 (.getfield 38) 3 311 := by decide +kernel
theorem dX12_makeCut_311 : dcd cX12_makeCut 311 (.iload_n 1) 1 312 := by decide +kernel
theorem dX12_makeCut_312 : dcd cX12_makeCut 312 (.iload_n 2) 1 313 := by decide +kernel
theorem dX12_makeCut_313 : dcb cX12_makeCut 313 (.ifCond .eq (7)) (7) 320 316 := by decide +kernel
theorem dX12_makeCut_316 : dcd cX12_makeCut 316 (.iload_n 3) 1 317 := by decide +kernel
theorem dX12_makeCut_317 : dcb cX12_makeCut 317 (.goto (9)) (9) 326 320 := by decide +kernel
theorem dX12_makeCut_320 : dcd cX12_makeCut 320 (.aload_n 0) 1 321 := by decide +kernel
theorem dX12_makeCut_321 : dcd cX12_makeCut 321 (.getfield 38) 3 324 := by decide +kernel
theorem dX12_makeCut_324 : dcd cX12_makeCut 324 (.iload_n 1) 1 325 := by decide +kernel
theorem dX12_makeCut_325 : dcd cX12_makeCut 325 (.iaload) 1 326 := by decide +kernel
theorem dX12_makeCut_326 : dcd cX12_makeCut 326 (.iastore) 1 327 := by decide +kernel
theorem dX12_makeCut_327 : dcd cX12_makeCut 327 (.aload_n 0) 1 328 := by decide +kernel
theorem dX12_makeCut_328 : dcd cX12_makeCut 328 (.getfield 41) 3 331 := by decide +kernel
theorem dX12_makeCut_331 : dcd cX12_makeCut 331 (.iload_n 1) 1 332 := by decide +kernel
theorem dX12_makeCut_332 : dcd cX12_makeCut 332 (.iload_n 2) 1 333 := by decide +kernel
theorem dX12_makeCut_333 : dcb cX12_makeCut 333 (.ifCond .eq (12)) (12) 345 336 := by decide +kernel
theorem dX12_makeCut_336 : dcd cX12_makeCut 336 (.aload_n 0) 1 337 := by decide +kernel
theorem dX12_makeCut_337 : dcd cX12_makeCut 337 (.getfield 41) 3 340 := by decide +kernel
theorem dX12_makeCut_340 : dcd cX12_makeCut 340 (.iload_n 1) 1 341 := by decide +kernel
theorem dX12_makeCut_341 : dcd cX12_makeCut 341 (.iaload) 1 342 := by decide +kernel
theorem dX12_makeCut_342 : dcb cX12_makeCut 342 (.goto (4)) (4) 346 345 := by decide +kernel
theorem dX12_makeCut_345 : dcd cX12_makeCut 345 (.iload_n 3) 1 346 := by decide +kernel
theorem dX12_makeCut_346 : dcd cX12_makeCut 346 (.iastore) 1 347 := by decide +kernel
theorem dX12_makeCut_347 : dcd cX12_makeCut 347 (.aload_n 0) 1 348 := by decide +kernel
theorem dX12_makeCut_348 : dcd cX12_makeCut 348 (.dup) 1 349 := by decide +kernel
theorem dX12_makeCut_349 : dcd cX12_makeCut 349 (.getfield 29) 3 352 := by decide +kernel
theorem dX12_makeCut_352 : dcd cX12_makeCut 352 (.iconst 1) 1 353 := by decide +kernel
theorem dX12_makeCut_353 : dcd cX12_makeCut 353 (.iadd) 1 354 := by decide +kernel
theorem dX12_makeCut_354 : dcd cX12_makeCut 354 (.putfield 29) 3 357 := by decide +kernel
theorem dX12_makeCut_357 : dcd cX12_makeCut 357 (.iload 4) 2 359 := by decide +kernel
theorem dX12_makeCut_359 : decode cX12_makeCut 359 = .ok (.ireturn, 1) := by decide +kernel
theorem dX12_cut_0 : dcd cX12_cut 0 (.aload_n 0) 1 1 := by decide +kernel
theorem dX12_cut_1 : dcd cX12_cut 1 (.iconst 0) 1 2 := by decide +kernel
theorem dX12_cut_2 : dcd cX12_cut 2 (.putfield 1) 3 5 := by decide +kernel
theorem dX12_cut_5 : dcd cX12_cut 5 (.aload_n 0) 1 6 := by decide +kernel
theorem dX12_cut_6 : dcd cX12_cut 6 (.iload_n 1) 1 7 := by decide +kernel
theorem dX12_cut_7 : dcd cX12_cut 7 (.invokevirtual 179) 3 10 := by decide +kernel
theorem dX12_cut_10 : dcb cX12_cut 10 (.ifCond .eq (5)) (5) 15 13 := by decide +kernel
theorem dX12_cut_13 : dcd cX12_cut 13 (.iconst (-1)) 1 14 := by decide +kernel
theorem dX12_cut_14 : decode cX12_cut 14 = .ok (.ireturn, 1) := by decide +kernel
theorem dX12_cut_15 : dcd cX12_cut 15 (.iload_n 3) 1 16 := by decide +kernel
theorem dX12_cut_16 : dcd cX12_cut 16 (.i2l) 1 17 := by decide +kernel
theorem dX12_cut_17 : dcd cX12_cut 17 (.lconst 1) 1 18 := by decide +kernel
theorem dX12_cut_18 : dcd cX12_cut 18 (.iload_n 2) 1 19 := by decide +kernel
theorem dX12_cut_19 : dcb cX12_cut 19 (.ifCond .eq (12)) (12) 31 22 := by decide +kernel
theorem dX12_cut_22 : dcd cX12_cut 22 (.aload_n 0) 1 23 := by decide +kernel
theorem dX12_cut_23 : dcd cX12_cut 23 (.getfield 38) 3 26 := by decide +kernel
theorem dX12_cut_26 : dcd cX12_cut 26 (.iload_n 1) 1 27 := by decide +kernel
theorem dX12_cut_27 : dcd cX12_cut 27 (.iaload) 1 28 := by decide +kernel
theorem dX12_cut_28 : dcb cX12_cut 28 (.goto (9)) (9) 37 31 := by decide +kernel
theorem dX12_cut_31 : dcd cX12_cut 31 (.aload_n 0) 1 32 := by decide +kernel
theorem dX12_cut_32 : dcd cX12_cut 32 (.getfield 41) 3 35 := by decide +kernel
theorem dX12_cut_35 : dcd cX12_cut 35 (.iload_n 1) 1 36 := by decide +kernel
theorem dX12_cut_36 : dcd cX12_cut 36 (.iaload) 1 37 := by decide +kernel
theorem dX12_cut_37 : dcd cX12_cut 37 (.iconst 1) 1 38 := by decide +kernel
theorem dX12_cut_38 : dcd cX12_cut 38 (.isub) 1 39 := by decide +kernel
theorem dX12_cut_39 : dcd cX12_cut 39 (.i2l) 1 40 := by decide +kernel
theorem dX12_cut_40 : dcd cX12_cut 40 (.invokestatic 113) 3 43 := by decide +kernel
theorem dX12_cut_43 : dcb cX12_cut 43 (.ifCond .ne (6)) (6) 49 46 := by decide +kernel
theorem dX12_cut_46 : dcd cX12_cut 46 (.bipush (-2)) 2 48 := by decide +kernel
theorem dX12_cut_48 : decode cX12_cut 48 = .ok (.ireturn, 1) := by decide +kernel
theorem dX12_cut_49 : dcd cX12_cut 49 (.aload_n 0) 1 50 := by decide +kernel
theorem dX12_cut_50 : dcd cX12_cut 50 (.getfield 29) 3 53 := by decide +kernel
theorem dX12_cut_53 : dcd cX12_cut 53 (.bipush 24) 2 55 := by decide +kernel
theorem dX12_cut_55 : dcb cX12_cut 55 (.if_icmp .ne (8)) (8) 63 58 := by decide +kernel
theorem dX12_cut_58 : dcd cX12_cut 58 (.bipush (-4)) 2 60 := by decide +kernel
theorem dX12_cut_60 : dcb cX12_cut 60 (.goto (10)) (10) 70 63 := by decide +kernel
theorem dX12_cut_63 : dcd cX12_cut 63 (.aload_n 0) 1 64 := by decide +kernel
theorem dX12_cut_64 : dcd cX12_cut 64 (.iload_n 1) 1 65 := by decide +kernel
theorem dX12_cut_65 : dcd cX12_cut 65 (.iload_n 2) 1 66 := by decide +kernel
theorem dX12_cut_66 : dcd cX12_cut 66 (.iload_n 3) 1 67 := by decide +kernel
theorem dX12_cut_67 : dcd cX12_cut 67 (.invokevirtual 182) 3 70 := by decide +kernel
theorem dX12_cut_70 : decode cX12_cut 70 = .ok (.ireturn, 1) := by decide +kernel
theorem dX12_about_0 : dcd cX12_about 0 (.aload_n 0) 1 1 := by decide +kernel
theorem dX12_about_1 : dcd cX12_about 1 (.iconst 0) 1 2 := by decide +kernel
theorem dX12_about_2 : dcd cX12_about 2 (.putfield 1) 3 5 := by decide +kernel
theorem dX12_about_5 : dcd cX12_about 5 (.aload_n 0) 1 6 := by decide +kernel
theorem dX12_about_6 : dcd cX12_about 6 (.iload_n 1) 1 7 := by decide +kernel
theorem dX12_about_7 : dcd cX12_about 7 (.invokevirtual 143) 3 10 := by decide +kernel
theorem dX12_about_10 : dcb cX12_about 10 (.ifCond .eq (5)) (5) 15 13 := by decide +kernel
theorem dX12_about_13 : dcd cX12_about 13 (.iconst (-1)) 1 14 := by decide +kernel
theorem dX12_about_14 : decode cX12_about 14 = .ok (.ireturn, 1) := by decide +kernel
theorem dX12_about_15 : dcd cX12_about 15 (.iload_n 2) 1 16 := by decide +kernel
theorem dX12_about_16 : decode cX12_about 16 = .ok (.tableswitch 163 0 7 #[48, 86, 93, 123, 129, 135, 142, 149], 48) := by decide +kernel
theorem dX12_about_64 : dcd cX12_about 64 (.sipush 1000) 3 67 := by decide +kernel
theorem dX12_about_67 : dcd cX12_about 67 (.aload_n 0) 1 68 := by decide +kernel
theorem dX12_about_68 : dcd cX12_about 68 (.getfield 32) 3 71 := by decide +kernel
theorem dX12_about_71 : dcd cX12_about 71 (.iload_n 1) 1 72 := by decide +kernel
theorem dX12_about_72 : dcd cX12_about 72 (.iaload) 1 73 := by decide +kernel
theorem dX12_about_73 : dcd cX12_about 73 (.imul) 1 74 := by decide +kernel
theorem dX12_about_74 : dcd cX12_about 74 (.bipush 100) 2 76 := by decide +kernel
theorem dX12_about_76 : dcd cX12_about 76 (.aload_n 0) 1 77 := by decide +kernel
theorem dX12_about_77 : dcd cX12_about 77 (.getfield 35) 3 80 := by decide +kernel
theorem dX12_about_80 : dcd cX12_about 80 (.iload_n 1) 1 81 := by decide +kernel
theorem dX12_about_81 : dcd cX12_about 81 (.iaload) 1 82 := by decide +kernel
theorem dX12_about_82 : dcd cX12_about 82 (.imul) 1 83 := by decide +kernel
theorem dX12_about_83 : dcd cX12_about 83 (.iadd) 1 84 := by decide +kernel
theorem dX12_about_84 : dcd cX12_about 84 (.bipush 10) 2 86 := by decide +kernel
theorem dX12_about_86 : dcd cX12_about 86 (.aload_n 0) 1 87 := by decide +kernel
theorem dX12_about_87 : dcd cX12_about 87 (.getfield 38) 3 90 := by decide +kernel
theorem dX12_about_90 : dcd cX12_about 90 (.iload_n 1) 1 91 := by decide +kernel
theorem dX12_about_91 : dcd cX12_about 91 (.iaload) 1 92 := by decide +kernel
theorem dX12_about_92 : dcd cX12_about 92 (.imul) 1 93 := by decide +kernel
theorem dX12_about_93 : dcd cX12_about 93 (.iadd) 1 94 := by decide +kernel
theorem dX12_about_94 : dcd cX12_about 94 (.aload_n 0) 1 95 := by decide +kernel
theorem dX12_about_95 : dcd cX12_about 95 (.getfield 41) 3 98 := by decide +kernel
theorem dX12_about_98 : dcd cX12_about 98 (.iload_n 1) 1 99 := by decide +kernel
theorem dX12_about_99 : dcd cX12_about 99 (.iaload) 1 100 := by decide +kernel
theorem dX12_about_100 : dcd cX12_about 100 (.iadd) 1 101 := by decide +kernel
theorem dX12_about_101 : decode cX12_about 101 = .ok (.ireturn, 1) := by decide +kernel
theorem dX12_about_102 : dcd cX12_about 102 (.aload_n 0) 1 103 := by decide +kernel
theorem dX12_about_103 : dcd cX12_about 103 (.getfield 44) 3 106 := by decide +kernel
theorem dX12_about_106 : dcd cX12_about 106 (.iload_n 1) 1 107 := by decide +kernel
theorem dX12_about_107 : dcd cX12_about 107 (.iaload) 1 108 := by decide +kernel
theorem dX12_about_108 : decode cX12_about 108 = .ok (.ireturn, 1) := by decide +kernel
theorem dX12_about_109 : dcd cX12_about 109 (.aload_n 0) 1 110 := by decide +kernel
theorem dX12_about_110 : dcd cX12_about 110 (.aload_n 0) 1 111 := by decide +kernel
theorem dX12_about_111 : dcd cX12_about 111 (.getfield 32) 3 114 := by decide +kernel
theorem dX12_about_114 : dcd cX12_about 114 (.iload_n 1) 1 115 := by decide +kernel
theorem dX12_about_115 : dcd cX12_about 115 (.iaload) 1 116 := by decide +kernel
theorem dX12_about_116 : dcd cX12_about 116 (.aload_n 0) 1 117 := by decide +kernel
theorem dX12_about_117 : dcd cX12_about 117 (.getfield 35) 3 120 := by decide +kernel
theorem dX12_about_120 : dcd cX12_about 120 (.iload_n 1) 1 121 := by decide +kernel
theorem dX12_about_121 : dcd cX12_about 121 (.iaload) 1 122 := by decide +kernel
theorem dX12_about_122 : dcd cX12_about 122 (.aload_n 0) 1 123 := by decide +kernel
theorem dX12_about_123 : dcd cX12_about 123 (.getfield 38) 3 126 := by decide +kernel
theorem dX12_about_126 : dcd cX12_about 126 (.iload_n 1) 1 127 := by decide +kernel
theorem dX12_about_127 : dcd cX12_about 127 (.iaload) 1 128 := by decide +kernel
theorem dX12_about_128 : dcd cX12_about 128 (.aload_n 0) 1 129 := by decide +kernel
theorem dX12_about_129 : dcd cX12_about 129 (.getfield 41) 3 132 := by decide +kernel
theorem dX12_about_132 : dcd cX12_about 132 (.iload_n 1) 1 133 := by decide +kernel
theorem dX12_about_133 : dcd cX12_about 133 (.iaload) 1 134 := by decide +kernel
theorem dX12_about_134 : dcd cX12_about 134 (.iconst 1) 1 135 := by decide +kernel
theorem dX12_about_135 : dcd cX12_about 135 (.invokevirtual 172) 3 138 := by decide +kernel
theorem dX12_about_138 : decode cX12_about 138 = .ok (.ireturn, 1) := by decide +kernel
theorem dX12_about_139 : dcd cX12_about 139 (.aload_n 0) 1 140 := by decide +kernel
theorem dX12_about_140 : dcd cX12_about 140 (.iload_n 1) 1 141 := by decide +kernel
theorem dX12_about_141 : dcd cX12_about 141 (.invokevirtual 185) 3 144 := by decide +kernel
theorem dX12_about_144 : decode cX12_about 144 = .ok (.ireturn, 1) := by decide +kernel
theorem dX12_about_145 : dcd cX12_about 145 (.aload_n 0) 1 146 := by decide +kernel
theorem dX12_about_146 : dcd cX12_about 146 (.iload_n 1) 1 147 := by decide +kernel
theorem dX12_about_147 : dcd cX12_about 147 (.invokevirtual 155) 3 150 := by decide +kernel
theorem dX12_about_150 : decode cX12_about 150 = .ok (.ireturn, 1) := by decide +kernel
theorem dX12_about_151 : dcd cX12_about 151 (.aload_n 0) 1 152 := by decide +kernel
theorem dX12_about_152 : dcd cX12_about 152 (.getfield 50) 3 155 := by decide +kernel
theorem dX12_about_155 : dcd cX12_about 155 (.iload_n 1) 1 156 := by decide +kernel
theorem dX12_about_156 : dcd cX12_about 156 (.iaload) 1 157 := by decide +kernel
theorem dX12_about_157 : decode cX12_about 157 = .ok (.ireturn, 1) := by decide +kernel
theorem dX12_about_158 : dcd cX12_about 158 (.aload_n 0) 1 159 := by decide +kernel
theorem dX12_about_159 : dcd cX12_about 159 (.getfield 47) 3 162 := by decide +kernel
theorem dX12_about_162 : dcd cX12_about 162 (.iload_n 1) 1 163 := by decide +kernel
theorem dX12_about_163 : dcd cX12_about 163 (.iaload) 1 164 := by decide +kernel
theorem dX12_about_164 : decode cX12_about 164 = .ok (.ireturn, 1) := by decide +kernel
theorem dX12_about_165 : dcd cX12_about 165 (.aload_n 0) 1 166 := by decide +kernel
theorem dX12_about_166 : dcd cX12_about 166 (.iload_n 1) 1 167 := by decide +kernel
theorem dX12_about_167 : dcd cX12_about 167 (.invokevirtual 188) 3 170 := by decide +kernel
theorem dX12_about_170 : dcb cX12_about 170 (.ifCond .eq (7)) (7) 177 173 := by decide +kernel
theorem dX12_about_173 : dcd cX12_about 173 (.iconst 1) 1 174 := by decide +kernel
theorem dX12_about_174 : dcb cX12_about 174 (.goto (4)) (4) 178 177 := by decide +kernel
theorem dX12_about_177 : dcd cX12_about 177 (.iconst 0) 1 178 := by decide +kernel
theorem dX12_about_178 : decode cX12_about 178 = .ok (.ireturn, 1) := by decide +kernel
theorem dX12_about_179 : dcd cX12_about 179 (.bipush (-2)) 2 181 := by decide +kernel
theorem dX12_about_181 : decode cX12_about 181 = .ok (.ireturn, 1) := by decide +kernel
theorem dX12_weighs_0 : dcd cX12_weighs 0 (.aload_n 0) 1 1 := by decide +kernel
theorem dX12_weighs_1 : dcd cX12_weighs 1 (.iconst 0) 1 2 := by decide +kernel
theorem dX12_weighs_2 : dcd cX12_weighs 2 (.putfield 1) 3 5 := by decide +kernel
theorem dX12_weighs_5 : dcd cX12_weighs 5 (.aload_n 0) 1 6 := by decide +kernel
theorem dX12_weighs_6 : dcd cX12_weighs 6 (.iload_n 1) 1 7 := by decide +kernel
theorem dX12_weighs_7 : dcd cX12_weighs 7 (.invokevirtual 143) 3 10 := by decide +kernel
theorem dX12_weighs_10 : dcb cX12_weighs 10 (.ifCond .eq (7)) (7) 17 13 := by decide +kernel
theorem dX12_weighs_13 : dcd cX12_weighs 13 (.iconst (-1)) 1 14 := by decide +kernel
theorem dX12_weighs_14 : dcb cX12_weighs 14 (.goto (8)) (8) 22 17 := by decide +kernel
theorem dX12_weighs_17 : dcd cX12_weighs 17 (.aload_n 0) 1 18 := by decide +kernel
theorem dX12_weighs_18 : dcd cX12_weighs 18 (.iload_n 1) 1 19 := by decide +kernel
theorem dX12_weighs_19 : dcd cX12_weighs 19 (.invokevirtual 191) 3 22 := by decide +kernel
theorem dX12_weighs_22 : decode cX12_weighs 22 = .ok (.ireturn, 1) := by decide +kernel
theorem dX12_pass_0 : dcd cX12_pass 0 (.aload_n 0) 1 1 := by decide +kernel
theorem dX12_pass_1 : dcd cX12_pass 1 (.iconst 0) 1 2 := by decide +kernel
theorem dX12_pass_2 : dcd cX12_pass 2 (.putfield 1) 3 5 := by decide +kernel
theorem dX12_pass_5 : dcd cX12_pass 5 (.iload_n 1) 1 6 := by decide +kernel
theorem dX12_pass_6 : dcd cX12_pass 6 (.i2l) 1 7 := by decide +kernel
theorem dX12_pass_7 : dcd cX12_pass 7 (.lconst 1) 1 8 := by decide +kernel
theorem dX12_pass_8 : dcd cX12_pass 8 (.ldc2_w 194) 3 11 := by decide +kernel
theorem dX12_pass_11 : dcd cX12_pass 11 (.invokestatic 113) 3 14 := by decide +kernel
theorem dX12_pass_14 : dcb cX12_pass 14 (.ifCond .eq (15)) (15) 29 17 := by decide +kernel
theorem dX12_pass_17 : dcd cX12_pass 17 (.aload_n 0) 1 18 := by decide +kernel
theorem dX12_pass_18 : dcd cX12_pass 18 (.getfield 134) 3 21 := by decide +kernel
theorem dX12_pass_21 : dcd cX12_pass 21 (.iload_n 1) 1 22 := by decide +kernel
theorem dX12_pass_22 : dcd cX12_pass 22 (.iadd) 1 23 := by decide +kernel
theorem dX12_pass_23 : dcd cX12_pass 23 (.sipush 9999) 3 26 := by decide +kernel
theorem dX12_pass_26 : dcb cX12_pass 26 (.if_icmp .le (6)) (6) 32 29 := by decide +kernel
theorem dX12_pass_29 : dcd cX12_pass 29 (.bipush (-2)) 2 31 := by decide +kernel
theorem dX12_pass_31 : decode cX12_pass 31 = .ok (.ireturn, 1) := by decide +kernel
theorem dX12_pass_32 : dcd cX12_pass 32 (.iconst 0) 1 33 := by decide +kernel
theorem dX12_pass_33 : dcd cX12_pass 33 (.istore_n 2) 1 34 := by decide +kernel
theorem dX12_pass_34 : dcd cX12_pass 34 (.iload_n 2) 1 35 := by decide +kernel
theorem dX12_pass_35 : dcd cX12_pass 35 (.aload_n 0) 1 36 := by decide +kernel
theorem dX12_pass_36 : dcd cX12_pass 36 (.getfield 29) 3 39 := by decide +kernel
theorem dX12_pass_39 : dcb cX12_pass 39 (.if_icmp .ge (92)) (92) 131 42 := by decide +kernel
theorem dX12_pass_42 : dcd cX12_pass 42 (.aload_n 0) 1 43 := by decide +kernel
theorem dX12_pass_43 : dcd cX12_pass 43 (.getfield 47) 3 46 := by decide +kernel
theorem dX12_pass_46 : dcd cX12_pass 46 (.iload_n 2) 1 47 := by decide +kernel
theorem dX12_pass_47 : dcd cX12_pass 47 (.iaload) 1 48 := by decide +kernel
theorem dX12_pass_48 : dcb cX12_pass 48 (.ifCond .ne (8)) (8) 56 51 := by decide +kernel
theorem dX12_pass_51 : dcd cX12_pass 51 (.bipush 10) 2 53 := by decide +kernel
theorem dX12_pass_53 : dcb cX12_pass 53 (.goto (18)) (18) 71 56 := by decide +kernel
theorem dX12_pass_56 : dcd cX12_pass 56 (.aload_n 0) 1 57 := by decide +kernel
theorem dX12_pass_57 : dcd cX12_pass 57 (.getfield 47) 3 60 := by decide +kernel
theorem dX12_pass_60 : dcd cX12_pass 60 (.iload_n 2) 1 61 := by decide +kernel
theorem dX12_pass_61 : dcd cX12_pass 61 (.iaload) 1 62 := by decide +kernel
theorem dX12_pass_62 : dcd cX12_pass 62 (.iconst 1) 1 63 := by decide +kernel
theorem dX12_pass_63 : dcb cX12_pass 63 (.if_icmp .ne (7)) (7) 70 66 := by decide +kernel
theorem dX12_pass_66 : dcd cX12_pass 66 (.iconst 5) 1 67 := by decide +kernel
theorem dX12_pass_67 : dcb cX12_pass 67 (.goto (4)) (4) 71 70 := by decide +kernel
theorem dX12_pass_70 : dcd cX12_pass 70 (.iconst 2) 1 71 := by decide +kernel
theorem dX12_pass_71 : dcd cX12_pass 71 (.istore_n 3) 1 72 := by decide +kernel
theorem dX12_pass_72 : dcd cX12_pass 72 (.iconst 0) 1 73 := by decide +kernel
theorem dX12_pass_73 : dcd cX12_pass 73 (.istore 4) 2 75 := by decide +kernel
theorem dX12_pass_75 : dcd cX12_pass 75 (.iload 4) 2 77 := by decide +kernel
theorem dX12_pass_77 : dcd cX12_pass 77 (.iconst 4) 1 78 := by decide +kernel
theorem dX12_pass_78 : dcb cX12_pass 78 (.if_icmp .ge (47)) (47) 125 81 := by decide +kernel
theorem dX12_pass_81 : dcd cX12_pass 81 (.aload_n 0) 1 82 := by decide +kernel
theorem dX12_pass_82 : dcd cX12_pass 82 (.getfield 53) 3 85 := by decide +kernel
theorem dX12_pass_85 : dcd cX12_pass 85 (.iconst 4) 1 86 := by decide +kernel
theorem dX12_pass_86 : dcd cX12_pass 86 (.iload_n 2) 1 87 := by decide +kernel
theorem dX12_pass_87 : dcd cX12_pass 87 (.imul) 1 88 := by decide +kernel
theorem dX12_pass_88 : dcd cX12_pass 88 (.iload 4) 2 90 := by decide +kernel
theorem dX12_pass_90 : dcd cX12_pass 90 (.iadd) 1 91 := by decide +kernel
theorem dX12_pass_91 : dcd cX12_pass 91 (.dup2) 1 92 := by decide +kernel
theorem dX12_pass_92 : dcd cX12_pass 92 (.iaload) 1 93 := by decide +kernel
theorem dX12_pass_93 : dcd cX12_pass 93 (.aload_n 0) 1 94 := by decide +kernel
theorem dX12_pass_94 : dcd cX12_pass 94 (.getfield 44) 3 97 := by decide +kernel
theorem dX12_pass_97 : dcd cX12_pass 97 (.iload_n 2) 1 98 := by decide +kernel
theorem dX12_pass_98 : dcd cX12_pass 98 (.iaload) 1 99 := by decide +kernel
theorem dX12_pass_99 : dcb cX12_pass 99 (.ifCond .ne (17)) (17) 116 102 := by decide +kernel
theorem dX12_pass_102 : dcd cX12_pass 102 (.iload_n 3) 1 103 := by decide +kernel
theorem dX12_pass_103 : dcd cX12_pass 103 (.iload_n 1) 1 104 := by decide +kernel
theorem dX12_pass_104 : dcd cX12_pass 104 (.imul) 1 105 := by decide +kernel
theorem dX12_pass_105 : dcd cX12_pass 105 (.aload_n 0) 1 106 := by decide +kernel
theorem dX12_pass_106 : dcd cX12_pass 106 (.iload_n 2) 1 107 := by decide +kernel
theorem dX12_pass_107 : dcd cX12_pass 107 (.iload 4) 2 109 := by decide +kernel
theorem dX12_pass_109 : dcd cX12_pass 109 (.invokevirtual 147) 3 112 := by decide +kernel
theorem dX12_pass_112 : dcd cX12_pass 112 (.imul) 1 113 := by decide +kernel
theorem dX12_pass_113 : dcb cX12_pass 113 (.goto (4)) (4) 117 116 := by decide +kernel
theorem dX12_pass_116 : dcd cX12_pass 116 (.iconst 0) 1 117 := by decide +kernel
theorem dX12_pass_117 : dcd cX12_pass 117 (.iadd) 1 118 := by decide +kernel
theorem dX12_pass_118 : dcd cX12_pass 118 (.iastore) 1 119 := by decide +kernel
theorem dX12_pass_119 : dcd cX12_pass 119 (.iinc 4 1) 3 122 := by decide +kernel
theorem dX12_pass_122 : dcb cX12_pass 122 (.goto (-47)) (-47) 75 125 := by decide +kernel
theorem dX12_pass_125 : dcd cX12_pass 125 (.iinc 2 1) 3 128 := by decide +kernel
theorem dX12_pass_128 : dcb cX12_pass 128 (.goto (-94)) (-94) 34 131 := by decide +kernel
theorem dX12_pass_131 : dcd cX12_pass 131 (.aload_n 0) 1 132 := by decide +kernel
theorem dX12_pass_132 : dcd cX12_pass 132 (.dup) 1 133 := by decide +kernel
theorem dX12_pass_133 : dcd cX12_pass 133 (.getfield 134) 3 136 := by decide +kernel
theorem dX12_pass_136 : dcd cX12_pass 136 (.iload_n 1) 1 137 := by decide +kernel
theorem dX12_pass_137 : dcd cX12_pass 137 (.iadd) 1 138 := by decide +kernel
theorem dX12_pass_138 : dcd cX12_pass 138 (.putfield 134) 3 141 := by decide +kernel
theorem dX12_pass_141 : dcd cX12_pass 141 (.aload_n 0) 1 142 := by decide +kernel
theorem dX12_pass_142 : dcd cX12_pass 142 (.getfield 134) 3 145 := by decide +kernel
theorem dX12_pass_145 : decode cX12_pass 145 = .ok (.ireturn, 1) := by decide +kernel
theorem dX12_wrap_0 : dcd cX12_wrap 0 (.aload_n 0) 1 1 := by decide +kernel
theorem dX12_wrap_1 : dcd cX12_wrap 1 (.iconst 0) 1 2 := by decide +kernel
theorem dX12_wrap_2 : dcd cX12_wrap 2 (.putfield 1) 3 5 := by decide +kernel
theorem dX12_wrap_5 : dcd cX12_wrap 5 (.aload_n 0) 1 6 := by decide +kernel
theorem dX12_wrap_6 : dcd cX12_wrap 6 (.iload_n 1) 1 7 := by decide +kernel
theorem dX12_wrap_7 : dcd cX12_wrap 7 (.invokevirtual 179) 3 10 := by decide +kernel
theorem dX12_wrap_10 : dcb cX12_wrap 10 (.ifCond .eq (5)) (5) 15 13 := by decide +kernel
theorem dX12_wrap_13 : dcd cX12_wrap 13 (.iconst (-1)) 1 14 := by decide +kernel
theorem dX12_wrap_14 : decode cX12_wrap 14 = .ok (.ireturn, 1) := by decide +kernel
theorem dX12_wrap_15 : dcd cX12_wrap 15 (.iload_n 2) 1 16 := by decide +kernel
theorem dX12_wrap_16 : dcd cX12_wrap 16 (.i2l) 1 17 := by decide +kernel
theorem dX12_wrap_17 : dcd cX12_wrap 17 (.lconst 0) 1 18 := by decide +kernel
theorem dX12_wrap_18 : dcd cX12_wrap 18 (.ldc2_w 196) 3 21 := by decide +kernel
theorem dX12_wrap_21 : dcd cX12_wrap 21 (.invokestatic 113) 3 24 := by decide +kernel
theorem dX12_wrap_24 : dcb cX12_wrap 24 (.ifCond .ne (6)) (6) 30 27 := by decide +kernel
theorem dX12_wrap_27 : dcd cX12_wrap 27 (.bipush (-2)) 2 29 := by decide +kernel
theorem dX12_wrap_29 : decode cX12_wrap 29 = .ok (.ireturn, 1) := by decide +kernel
theorem dX12_wrap_30 : dcd cX12_wrap 30 (.aload_n 0) 1 31 := by decide +kernel
theorem dX12_wrap_31 : dcd cX12_wrap 31 (.getfield 47) 3 34 := by decide +kernel
theorem dX12_wrap_34 : dcd cX12_wrap 34 (.iload_n 1) 1 35 := by decide +kernel
theorem dX12_wrap_35 : dcd cX12_wrap 35 (.iaload) 1 36 := by decide +kernel
theorem dX12_wrap_36 : dcd cX12_wrap 36 (.istore_n 3) 1 37 := by decide +kernel
theorem dX12_wrap_37 : dcd cX12_wrap 37 (.aload_n 0) 1 38 := by decide +kernel
theorem dX12_wrap_38 : dcd cX12_wrap 38 (.getfield 47) 3 41 := by decide +kernel
theorem dX12_wrap_41 : dcd cX12_wrap 41 (.iload_n 1) 1 42 := by decide +kernel
theorem dX12_wrap_42 : dcd cX12_wrap 42 (.iload_n 2) 1 43 := by decide +kernel
theorem dX12_wrap_43 : dcd cX12_wrap 43 (.iastore) 1 44 := by decide +kernel
theorem dX12_wrap_44 : dcd cX12_wrap 44 (.iload_n 3) 1 45 := by decide +kernel
theorem dX12_wrap_45 : decode cX12_wrap 45 = .ok (.ireturn, 1) := by decide +kernel
theorem dX12_trim_0 : dcd cX12_trim 0 (.aload_n 0) 1 1 := by decide +kernel
theorem dX12_trim_1 : dcd cX12_trim 1 (.iconst 0) 1 2 := by decide +kernel
theorem dX12_trim_2 : dcd cX12_trim 2 (.putfield 1) 3 5 := by decide +kernel
theorem dX12_trim_5 : dcd cX12_trim 5 (.aload_n 0) 1 6 := by decide +kernel
theorem dX12_trim_6 : dcd cX12_trim 6 (.iload_n 1) 1 7 := by decide +kernel
theorem dX12_trim_7 : dcd cX12_trim 7 (.invokevirtual 179) 3 10 := by decide +kernel
theorem dX12_trim_10 : dcb cX12_trim 10 (.ifCond .eq (5)) (5) 15 13 := by decide +kernel
theorem dX12_trim_13 : dcd cX12_trim 13 (.iconst (-1)) 1 14 := by decide +kernel
theorem dX12_trim_14 : decode cX12_trim 14 = .ok (.ireturn, 1) := by decide +kernel
theorem dX12_trim_15 : dcd cX12_trim 15 (.aload_n 0) 1 16 := by decide +kernel
theorem dX12_trim_16 : dcd cX12_trim 16 (.iload_n 1) 1 17 := by decide +kernel
theorem dX12_trim_17 : dcd cX12_trim 17 (.invokevirtual 191) 3 20 := by decide +kernel
theorem dX12_trim_20 : dcd cX12_trim 20 (.istore_n 2) 1 21 := by decide +kernel
theorem dX12_trim_21 : dcd cX12_trim 21 (.aload_n 0) 1 22 := by decide +kernel
theorem dX12_trim_22 : dcd cX12_trim 22 (.getfield 50) 3 25 := by decide +kernel
theorem dX12_trim_25 : dcd cX12_trim 25 (.iload_n 1) 1 26 := by decide +kernel
theorem dX12_trim_26 : dcd cX12_trim 26 (.dup2) 1 27 := by decide +kernel
theorem dX12_trim_27 : dcd cX12_trim 27 (.iaload) 1 28 := by decide +kernel
theorem dX12_trim_28 : dcd cX12_trim 28 (.aload_n 0) 1 29 := by decide +kernel
theorem dX12_trim_29 : dcd cX12_trim 29 (.iload_n 1) 1 30 := by decide +kernel
theorem dX12_trim_30 : dcd cX12_trim 30 (.invokevirtual 155) 3 33 := by decide +kernel
theorem dX12_trim_33 : dcd cX12_trim 33 (.bipush 40) 2 35 := by decide +kernel
theorem dX12_trim_35 : dcd cX12_trim 35 (.idiv) 1 36 := by decide +kernel
theorem dX12_trim_36 : dcd cX12_trim 36 (.aload_n 0) 1 37 := by decide +kernel
theorem dX12_trim_37 : dcd cX12_trim 37 (.iload_n 1) 1 38 := by decide +kernel
theorem dX12_trim_38 : dcd cX12_trim 38 (.invokevirtual 185) 3 41 := by decide +kernel
theorem dX12_trim_41 : dcd cX12_trim 41 (.iadd) 1 42 := by decide +kernel
theorem dX12_trim_42 : dcd cX12_trim 42 (.iadd) 1 43 := by decide +kernel
theorem dX12_trim_43 : dcd cX12_trim 43 (.iastore) 1 44 := by decide +kernel
theorem dX12_trim_44 : dcd cX12_trim 44 (.iconst 0) 1 45 := by decide +kernel
theorem dX12_trim_45 : dcd cX12_trim 45 (.istore_n 3) 1 46 := by decide +kernel
theorem dX12_trim_46 : dcd cX12_trim 46 (.iload_n 3) 1 47 := by decide +kernel
theorem dX12_trim_47 : dcd cX12_trim 47 (.iconst 4) 1 48 := by decide +kernel
theorem dX12_trim_48 : dcb cX12_trim 48 (.if_icmp .ge (20)) (20) 68 51 := by decide +kernel
theorem dX12_trim_51 : dcd cX12_trim 51 (.aload_n 0) 1 52 := by decide +kernel
theorem dX12_trim_52 : dcd cX12_trim 52 (.getfield 53) 3 55 := by decide +kernel
theorem dX12_trim_55 : dcd cX12_trim 55 (.iconst 4) 1 56 := by decide +kernel
theorem dX12_trim_56 : dcd cX12_trim 56 (.iload_n 1) 1 57 := by decide +kernel
theorem dX12_trim_57 : dcd cX12_trim 57 (.imul) 1 58 := by decide +kernel
theorem dX12_trim_58 : dcd cX12_trim 58 (.iload_n 3) 1 59 := by decide +kernel
theorem dX12_trim_59 : dcd cX12_trim 59 (.iadd) 1 60 := by decide +kernel
theorem dX12_trim_60 : dcd cX12_trim 60 (.iconst 0) 1 61 := by decide +kernel
theorem dX12_trim_61 : dcd cX12_trim 61 (.iastore) 1 62 := by decide +kernel
theorem dX12_trim_62 : dcd cX12_trim 62 (.iinc 3 1) 3 65 := by decide +kernel
theorem dX12_trim_65 : dcb cX12_trim 65 (.goto (-19)) (-19) 46 68 := by decide +kernel
theorem dX12_trim_68 : dcd cX12_trim 68 (.iload_n 2) 1 69 := by decide +kernel
theorem dX12_trim_69 : dcd cX12_trim 69 (.aload_n 0) 1 70 := by decide +kernel
theorem dX12_trim_70 : dcd cX12_trim 70 (.iload_n 1) 1 71 := by decide +kernel
theorem dX12_trim_71 : dcd cX12_trim 71 (.invokevirtual 191) 3 74 := by decide +kernel
theorem dX12_trim_74 : dcd cX12_trim 74 (.isub) 1 75 := by decide +kernel
theorem dX12_trim_75 : decode cX12_trim 75 = .ok (.ireturn, 1) := by decide +kernel
theorem dX12_sell_0 : dcd cX12_sell 0 (.aload_n 0) 1 1 := by decide +kernel
theorem dX12_sell_1 : dcd cX12_sell 1 (.iconst 0) 1 2 := by decide +kernel
theorem dX12_sell_2 : dcd cX12_sell 2 (.putfield 1) 3 5 := by decide +kernel
theorem dX12_sell_5 : dcd cX12_sell 5 (.aload_n 0) 1 6 := by decide +kernel
theorem dX12_sell_6 : dcd cX12_sell 6 (.iload_n 1) 1 7 := by decide +kernel
theorem dX12_sell_7 : dcd cX12_sell 7 (.invokevirtual 179) 3 10 := by decide +kernel
theorem dX12_sell_10 : dcb cX12_sell 10 (.ifCond .eq (5)) (5) 15 13 := by decide +kernel
theorem dX12_sell_13 : dcd cX12_sell 13 (.iconst (-1)) 1 14 := by decide +kernel
theorem dX12_sell_14 : decode cX12_sell 14 = .ok (.ireturn, 1) := by decide +kernel
theorem dX12_sell_15 : dcd cX12_sell 15 (.aload_n 0) 1 16 := by decide +kernel
theorem dX12_sell_16 : dcd cX12_sell 16 (.getfield 44) 3 19 := by decide +kernel
theorem dX12_sell_19 : dcd cX12_sell 19 (.iload_n 1) 1 20 := by decide +kernel
theorem dX12_sell_20 : dcd cX12_sell 20 (.iload_n 2) 1 21 := by decide +kernel
theorem dX12_sell_21 : dcb cX12_sell 21 (.ifCond .eq (7)) (7) 28 24 := by decide +kernel
theorem dX12_sell_24 : dcd cX12_sell 24 (.iconst 2) 1 25 := by decide +kernel
theorem dX12_sell_25 : dcb cX12_sell 25 (.goto (4)) (4) 29 28 := by decide +kernel
theorem dX12_sell_28 : dcd cX12_sell 28 (.iconst 1) 1 29 := by decide +kernel
theorem dX12_sell_29 : dcd cX12_sell 29 (.iastore) 1 30 := by decide +kernel
theorem dX12_sell_30 : dcd cX12_sell 30 (.aload_n 0) 1 31 := by decide +kernel
theorem dX12_sell_31 : dcd cX12_sell 31 (.iload_n 1) 1 32 := by decide +kernel
theorem dX12_sell_32 : dcd cX12_sell 32 (.invokevirtual 191) 3 35 := by decide +kernel
theorem dX12_sell_35 : decode cX12_sell 35 = .ok (.ireturn, 1) := by decide +kernel
theorem dX12_noAsk_0 : dcd cX12_noAsk 0 (.iload_n 0) 1 1 := by decide +kernel
theorem dX12_noAsk_1 : dcd cX12_noAsk 1 (.i2l) 1 2 := by decide +kernel
theorem dX12_noAsk_2 : dcd cX12_noAsk 2 (.lconst 1) 1 3 := by decide +kernel
theorem dX12_noAsk_3 : dcd cX12_noAsk 3 (.ldc2_w 198) 3 6 := by decide +kernel
theorem dX12_noAsk_6 : dcd cX12_noAsk 6 (.invokestatic 113) 3 9 := by decide +kernel
theorem dX12_noAsk_9 : dcb cX12_noAsk 9 (.ifCond .eq (27)) (27) 36 12 := by decide +kernel
theorem dX12_noAsk_12 : dcd cX12_noAsk 12 (.iload_n 1) 1 13 := by decide +kernel
theorem dX12_noAsk_13 : dcd cX12_noAsk 13 (.i2l) 1 14 := by decide +kernel
theorem dX12_noAsk_14 : dcd cX12_noAsk 14 (.lconst 0) 1 15 := by decide +kernel
theorem dX12_noAsk_15 : dcd cX12_noAsk 15 (.ldc2_w 200) 3 18 := by decide +kernel
theorem dX12_noAsk_18 : dcd cX12_noAsk 18 (.invokestatic 113) 3 21 := by decide +kernel
theorem dX12_noAsk_21 : dcb cX12_noAsk 21 (.ifCond .eq (15)) (15) 36 24 := by decide +kernel
theorem dX12_noAsk_24 : dcd cX12_noAsk 24 (.iload_n 2) 1 25 := by decide +kernel
theorem dX12_noAsk_25 : dcd cX12_noAsk 25 (.i2l) 1 26 := by decide +kernel
theorem dX12_noAsk_26 : dcd cX12_noAsk 26 (.lconst 0) 1 27 := by decide +kernel
theorem dX12_noAsk_27 : dcd cX12_noAsk 27 (.ldc2_w 202) 3 30 := by decide +kernel
theorem dX12_noAsk_30 : dcd cX12_noAsk 30 (.invokestatic 113) 3 33 := by decide +kernel
theorem dX12_noAsk_33 : dcb cX12_noAsk 33 (.ifCond .ne (7)) (7) 40 36 := by decide +kernel
theorem dX12_noAsk_36 : dcd cX12_noAsk 36 (.iconst 1) 1 37 := by decide +kernel
theorem dX12_noAsk_37 : dcb cX12_noAsk 37 (.goto (4)) (4) 41 40 := by decide +kernel
theorem dX12_noAsk_40 : dcd cX12_noAsk 40 (.iconst 0) 1 41 := by decide +kernel
theorem dX12_noAsk_41 : decode cX12_noAsk 41 = .ok (.ireturn, 1) := by decide +kernel
theorem dX12_isServed_0 : dcd cX12_isServed 0 (.aload_n 0) 1 1 := by decide +kernel
theorem dX12_isServed_1 : dcd cX12_isServed 1 (.getfield 44) 3 4 := by decide +kernel
theorem dX12_isServed_4 : dcd cX12_isServed 4 (.iload_n 1) 1 5 := by decide +kernel
theorem dX12_isServed_5 : dcd cX12_isServed 5 (.iaload) 1 6 := by decide +kernel
theorem dX12_isServed_6 : dcb cX12_isServed 6 (.ifCond .ne (59)) (59) 65 9 := by decide +kernel
theorem dX12_isServed_9 : dcd cX12_isServed 9 (.aload_n 0) 1 10 := by decide +kernel
theorem dX12_isServed_10 : dcd cX12_isServed 10 (.iload_n 1) 1 11 := by decide +kernel
theorem dX12_isServed_11 : dcd cX12_isServed 11 (.invokevirtual 191) 3 14 := by decide +kernel
theorem dX12_isServed_14 : dcd cX12_isServed 14 (.i2l) 1 15 := by decide +kernel
theorem dX12_isServed_15 : dcd cX12_isServed 15 (.iload_n 2) 1 16 := by decide +kernel
theorem dX12_isServed_16 : dcd cX12_isServed 16 (.i2l) 1 17 := by decide +kernel
theorem dX12_isServed_17 : dcd cX12_isServed 17 (.iload_n 2) 1 18 := by decide +kernel
theorem dX12_isServed_18 : dcd cX12_isServed 18 (.iload_n 3) 1 19 := by decide +kernel
theorem dX12_isServed_19 : dcd cX12_isServed 19 (.iadd) 1 20 := by decide +kernel
theorem dX12_isServed_20 : dcd cX12_isServed 20 (.i2l) 1 21 := by decide +kernel
theorem dX12_isServed_21 : dcd cX12_isServed 21 (.invokestatic 113) 3 24 := by decide +kernel
theorem dX12_isServed_24 : dcb cX12_isServed 24 (.ifCond .eq (41)) (41) 65 27 := by decide +kernel
theorem dX12_isServed_27 : dcd cX12_isServed 27 (.aload_n 0) 1 28 := by decide +kernel
theorem dX12_isServed_28 : dcd cX12_isServed 28 (.aload_n 0) 1 29 := by decide +kernel
theorem dX12_isServed_29 : dcd cX12_isServed 29 (.getfield 32) 3 32 := by decide +kernel
theorem dX12_isServed_32 : dcd cX12_isServed 32 (.iload_n 1) 1 33 := by decide +kernel
theorem dX12_isServed_33 : dcd cX12_isServed 33 (.iaload) 1 34 := by decide +kernel
theorem dX12_isServed_34 : dcd cX12_isServed 34 (.aload_n 0) 1 35 := by decide +kernel
theorem dX12_isServed_35 : dcd cX12_isServed 35 (.getfield 35) 3 38 := by decide +kernel
theorem dX12_isServed_38 : dcd cX12_isServed 38 (.iload_n 1) 1 39 := by decide +kernel
theorem dX12_isServed_39 : dcd cX12_isServed 39 (.iaload) 1 40 := by decide +kernel
theorem dX12_isServed_40 : dcd cX12_isServed 40 (.aload_n 0) 1 41 := by decide +kernel
theorem dX12_isServed_41 : dcd cX12_isServed 41 (.getfield 38) 3 44 := by decide +kernel
theorem dX12_isServed_44 : dcd cX12_isServed 44 (.iload_n 1) 1 45 := by decide +kernel
theorem dX12_isServed_45 : dcd cX12_isServed 45 (.iaload) 1 46 := by decide +kernel
theorem dX12_isServed_46 : dcd cX12_isServed 46 (.aload_n 0) 1 47 := by decide +kernel
theorem dX12_isServed_47 : dcd cX12_isServed 47 (.getfield 41) 3 50 := by decide +kernel
theorem dX12_isServed_50 : dcd cX12_isServed 50 (.iload_n 1) 1 51 := by decide +kernel
theorem dX12_isServed_51 : dcd cX12_isServed 51 (.iaload) 1 52 := by decide +kernel
theorem dX12_isServed_52 : dcd cX12_isServed 52 (.iconst 1) 1 53 := by decide +kernel
theorem dX12_isServed_53 : dcd cX12_isServed 53 (.invokevirtual 172) 3 56 := by decide +kernel
theorem dX12_isServed_56 : dcd cX12_isServed 56 (.iload 4) 2 58 := by decide +kernel
theorem dX12_isServed_58 : dcb cX12_isServed 58 (.if_icmp .gt (7)) (7) 65 61 := by decide +kernel
theorem dX12_isServed_61 : dcd cX12_isServed 61 (.iconst 1) 1 62 := by decide +kernel
theorem dX12_isServed_62 : dcb cX12_isServed 62 (.goto (4)) (4) 66 65 := by decide +kernel
theorem dX12_isServed_65 : dcd cX12_isServed 65 (.iconst 0) 1 66 := by decide +kernel
theorem dX12_isServed_66 : decode cX12_isServed 66 = .ok (.ireturn, 1) := by decide +kernel
theorem dX12_serves_0 : dcd cX12_serves 0 (.aload_n 0) 1 1 := by decide +kernel
theorem dX12_serves_1 : dcd cX12_serves 1 (.iconst 0) 1 2 := by decide +kernel
theorem dX12_serves_2 : dcd cX12_serves 2 (.putfield 1) 3 5 := by decide +kernel
theorem dX12_serves_5 : dcd cX12_serves 5 (.aload_n 0) 1 6 := by decide +kernel
theorem dX12_serves_6 : dcd cX12_serves 6 (.iload_n 1) 1 7 := by decide +kernel
theorem dX12_serves_7 : dcd cX12_serves 7 (.invokevirtual 143) 3 10 := by decide +kernel
theorem dX12_serves_10 : dcb cX12_serves 10 (.ifCond .eq (5)) (5) 15 13 := by decide +kernel
theorem dX12_serves_13 : dcd cX12_serves 13 (.iconst (-1)) 1 14 := by decide +kernel
theorem dX12_serves_14 : decode cX12_serves 14 = .ok (.ireturn, 1) := by decide +kernel
theorem dX12_serves_15 : dcd cX12_serves 15 (.iload_n 2) 1 16 := by decide +kernel
theorem dX12_serves_16 : dcd cX12_serves 16 (.iload_n 3) 1 17 := by decide +kernel
theorem dX12_serves_17 : dcd cX12_serves 17 (.iload 4) 2 19 := by decide +kernel
theorem dX12_serves_19 : dcd cX12_serves 19 (.invokestatic 204) 3 22 := by decide +kernel
theorem dX12_serves_22 : dcb cX12_serves 22 (.ifCond .eq (8)) (8) 30 25 := by decide +kernel
theorem dX12_serves_25 : dcd cX12_serves 25 (.bipush (-2)) 2 27 := by decide +kernel
theorem dX12_serves_27 : dcb cX12_serves 27 (.goto (20)) (20) 47 30 := by decide +kernel
theorem dX12_serves_30 : dcd cX12_serves 30 (.aload_n 0) 1 31 := by decide +kernel
theorem dX12_serves_31 : dcd cX12_serves 31 (.iload_n 1) 1 32 := by decide +kernel
theorem dX12_serves_32 : dcd cX12_serves 32 (.iload_n 2) 1 33 := by decide +kernel
theorem dX12_serves_33 : dcd cX12_serves 33 (.iload_n 3) 1 34 := by decide +kernel
theorem dX12_serves_34 : dcd cX12_serves 34 (.iload 4) 2 36 := by decide +kernel
theorem dX12_serves_36 : dcd cX12_serves 36 (.invokevirtual 208) 3 39 := by decide +kernel
theorem dX12_serves_39 : dcb cX12_serves 39 (.ifCond .eq (7)) (7) 46 42 := by decide +kernel
theorem dX12_serves_42 : dcd cX12_serves 42 (.iconst 1) 1 43 := by decide +kernel
theorem dX12_serves_43 : dcb cX12_serves 43 (.goto (4)) (4) 47 46 := by decide +kernel
theorem dX12_serves_46 : dcd cX12_serves 46 (.iconst 0) 1 47 := by decide +kernel
theorem dX12_serves_47 : decode cX12_serves 47 = .ok (.ireturn, 1) := by decide +kernel
theorem dX12_standsFor_0 : dcd cX12_standsFor 0 (.bipush (-9)) 2 2 := by decide +kernel
theorem dX12_standsFor_2 : dcd cX12_standsFor 2 (.istore 4) 2 4 := by decide +kernel
theorem dX12_standsFor_4 : dcd cX12_standsFor 4 (.iconst 0) 1 5 := by decide +kernel
theorem dX12_standsFor_5 : dcd cX12_standsFor 5 (.istore 5) 2 7 := by decide +kernel
theorem dX12_standsFor_7 : dcd cX12_standsFor 7 (.iload 5) 2 9 := by decide +kernel
theorem dX12_standsFor_9 : dcd cX12_standsFor 9 (.aload_n 0) 1 10 := by decide +kernel
theorem dX12_standsFor_10 : dcd cX12_standsFor 10 (.getfield 29) 3 13 := by decide +kernel
theorem dX12_standsFor_13 : dcb cX12_standsFor 13 (.if_icmp .ge (56)) (56) 69 16 := by decide +kernel
theorem dX12_standsFor_16 : dcd cX12_standsFor 16 (.aload_n 0) 1 17 := by decide +kernel
theorem dX12_standsFor_17 : dcd cX12_standsFor 17 (.iload 5) 2 19 := by decide +kernel
theorem dX12_standsFor_19 : dcd cX12_standsFor 19 (.iload_n 1) 1 20 := by decide +kernel
theorem dX12_standsFor_20 : dcd cX12_standsFor 20 (.iload_n 2) 1 21 := by decide +kernel
theorem dX12_standsFor_21 : dcd cX12_standsFor 21 (.iload_n 3) 1 22 := by decide +kernel
theorem dX12_standsFor_22 : dcd cX12_standsFor 22 (.invokevirtual 208) 3 25 := by decide +kernel
theorem dX12_standsFor_25 : dcd cX12_standsFor 25 (.istore 6) 2 27 := by decide +kernel
theorem dX12_standsFor_27 : dcd cX12_standsFor 27 (.iload 6) 2 29 := by decide +kernel
theorem dX12_standsFor_29 : dcb cX12_standsFor 29 (.ifCond .eq (30)) (30) 59 32 := by decide +kernel
theorem dX12_standsFor_32 : dcd cX12_standsFor 32 (.iload 4) 2 34 := by decide +kernel
theorem dX12_standsFor_34 : dcd cX12_standsFor 34 (.bipush (-9)) 2 36 := by decide +kernel
theorem dX12_standsFor_36 : dcb cX12_standsFor 36 (.if_icmp .eq (18)) (18) 54 39 := by decide +kernel
theorem dX12_standsFor_39 : dcd cX12_standsFor 39 (.aload_n 0) 1 40 := by decide +kernel
theorem dX12_standsFor_40 : dcd cX12_standsFor 40 (.iload 5) 2 42 := by decide +kernel
theorem dX12_standsFor_42 : dcd cX12_standsFor 42 (.invokevirtual 191) 3 45 := by decide +kernel
theorem dX12_standsFor_45 : dcd cX12_standsFor 45 (.aload_n 0) 1 46 := by decide +kernel
theorem dX12_standsFor_46 : dcd cX12_standsFor 46 (.iload 4) 2 48 := by decide +kernel
theorem dX12_standsFor_48 : dcd cX12_standsFor 48 (.invokevirtual 191) 3 51 := by decide +kernel
theorem dX12_standsFor_51 : dcb cX12_standsFor 51 (.if_icmp .ge (8)) (8) 59 54 := by decide +kernel
theorem dX12_standsFor_54 : dcd cX12_standsFor 54 (.iload 5) 2 56 := by decide +kernel
theorem dX12_standsFor_56 : dcb cX12_standsFor 56 (.goto (5)) (5) 61 59 := by decide +kernel
theorem dX12_standsFor_59 : dcd cX12_standsFor 59 (.iload 4) 2 61 := by decide +kernel
theorem dX12_standsFor_61 : dcd cX12_standsFor 61 (.istore 4) 2 63 := by decide +kernel
theorem dX12_standsFor_63 : dcd cX12_standsFor 63 (.iinc 5 1) 3 66 := by decide +kernel
theorem dX12_standsFor_66 : dcb cX12_standsFor 66 (.goto (-59)) (-59) 7 69 := by decide +kernel
theorem dX12_standsFor_69 : dcd cX12_standsFor 69 (.iload 4) 2 71 := by decide +kernel
theorem dX12_standsFor_71 : decode cX12_standsFor 71 = .ok (.ireturn, 1) := by decide +kernel
theorem dX12_stands_0 : dcd cX12_stands 0 (.aload_n 0) 1 1 := by decide +kernel
theorem dX12_stands_1 : dcd cX12_stands 1 (.iconst 0) 1 2 := by decide +kernel
theorem dX12_stands_2 : dcd cX12_stands 2 (.putfield 1) 3 5 := by decide +kernel
theorem dX12_stands_5 : dcd cX12_stands 5 (.iload_n 1) 1 6 := by decide +kernel
theorem dX12_stands_6 : dcd cX12_stands 6 (.iload_n 2) 1 7 := by decide +kernel
theorem dX12_stands_7 : dcd cX12_stands 7 (.iload_n 3) 1 8 := by decide +kernel
theorem dX12_stands_8 : dcd cX12_stands 8 (.invokestatic 204) 3 11 := by decide +kernel
theorem dX12_stands_11 : dcb cX12_stands 11 (.ifCond .eq (8)) (8) 19 14 := by decide +kernel
theorem dX12_stands_14 : dcd cX12_stands 14 (.bipush (-2)) 2 16 := by decide +kernel
theorem dX12_stands_16 : dcb cX12_stands 16 (.goto (10)) (10) 26 19 := by decide +kernel
theorem dX12_stands_19 : dcd cX12_stands 19 (.aload_n 0) 1 20 := by decide +kernel
theorem dX12_stands_20 : dcd cX12_stands 20 (.iload_n 1) 1 21 := by decide +kernel
theorem dX12_stands_21 : dcd cX12_stands 21 (.iload_n 2) 1 22 := by decide +kernel
theorem dX12_stands_22 : dcd cX12_stands 22 (.iload_n 3) 1 23 := by decide +kernel
theorem dX12_stands_23 : dcd cX12_stands 23 (.invokevirtual 212) 3 26 := by decide +kernel
theorem dX12_stands_26 : decode cX12_stands 26 = .ok (.ireturn, 1) := by decide +kernel
theorem dX12_isPart_0 : dcd cX12_isPart 0 (.aload_n 0) 1 1 := by decide +kernel
theorem dX12_isPart_1 : dcd cX12_isPart 1 (.iload_n 1) 1 2 := by decide +kernel
theorem dX12_isPart_2 : dcd cX12_isPart 2 (.iload_n 2) 1 3 := by decide +kernel
theorem dX12_isPart_3 : dcd cX12_isPart 3 (.iload_n 3) 1 4 := by decide +kernel
theorem dX12_isPart_4 : dcd cX12_isPart 4 (.iload 4) 2 6 := by decide +kernel
theorem dX12_isPart_6 : dcd cX12_isPart 6 (.invokevirtual 216) 3 9 := by decide +kernel
theorem dX12_isPart_9 : dcd cX12_isPart 9 (.aload_n 0) 1 10 := by decide +kernel
theorem dX12_isPart_10 : dcd cX12_isPart 10 (.getfield 169) 3 13 := by decide +kernel
theorem dX12_isPart_13 : dcd cX12_isPart 13 (.i2l) 1 14 := by decide +kernel
theorem dX12_isPart_14 : dcd cX12_isPart 14 (.iload 5) 2 16 := by decide +kernel
theorem dX12_isPart_16 : dcd cX12_isPart 16 (.i2l) 1 17 := by decide +kernel
theorem dX12_isPart_17 : dcd cX12_isPart 17 (.iload 5) 2 19 := by decide +kernel
theorem dX12_isPart_19 : dcd cX12_isPart 19 (.iload 6) 2 21 := by decide +kernel
theorem dX12_isPart_21 : dcd cX12_isPart 21 (.iadd) 1 22 := by decide +kernel
theorem dX12_isPart_22 : dcd cX12_isPart 22 (.i2l) 1 23 := by decide +kernel
theorem dX12_isPart_23 : dcd cX12_isPart 23 (.invokestatic 113) 3 26 := by decide +kernel
theorem dX12_isPart_26 : dcb cX12_isPart 26 (.ifCond .eq (16)) (16) 42 29 := by decide +kernel
theorem dX12_isPart_29 : dcd cX12_isPart 29 (.aload_n 0) 1 30 := by decide +kernel
theorem dX12_isPart_30 : dcd cX12_isPart 30 (.getfield 176) 3 33 := by decide +kernel
theorem dX12_isPart_33 : dcd cX12_isPart 33 (.iload 7) 2 35 := by decide +kernel
theorem dX12_isPart_35 : dcb cX12_isPart 35 (.if_icmp .gt (7)) (7) 42 38 := by decide +kernel
theorem dX12_isPart_38 : dcd cX12_isPart 38 (.iconst 1) 1 39 := by decide +kernel
theorem dX12_isPart_39 : dcb cX12_isPart 39 (.goto (4)) (4) 43 42 := by decide +kernel
theorem dX12_isPart_42 : dcd cX12_isPart 42 (.iconst 0) 1 43 := by decide +kernel
theorem dX12_isPart_43 : decode cX12_isPart 43 = .ok (.ireturn, 1) := by decide +kernel
theorem dX12_findCut_0 : dcd cX12_findCut 0 (.aload_n 0) 1 1 := by decide +kernel
theorem dX12_findCut_1 : dcd cX12_findCut 1 (.bipush (-9)) 2 3 := by decide +kernel
theorem dX12_findCut_3 : dcd cX12_findCut 3 (.putfield 220) 3 6 := by decide +kernel
theorem dX12_findCut_6 : dcd cX12_findCut 6 (.aload_n 0) 1 7 := by decide +kernel
theorem dX12_findCut_7 : dcd cX12_findCut 7 (.ldc 223) 2 9 := by decide +kernel
theorem dX12_findCut_9 : dcd cX12_findCut 9 (.putfield 224) 3 12 := by decide +kernel
theorem dX12_findCut_12 : dcd cX12_findCut 12 (.iconst 0) 1 13 := by decide +kernel
theorem dX12_findCut_13 : dcd cX12_findCut 13 (.istore 4) 2 15 := by decide +kernel
theorem dX12_findCut_15 : dcd cX12_findCut 15 (.iload 4) 2 17 := by decide +kernel
theorem dX12_findCut_17 : dcd cX12_findCut 17 (.aload_n 0) 1 18 := by decide +kernel
theorem dX12_findCut_18 : dcd cX12_findCut 18 (.getfield 29) 3 21 := by decide +kernel
theorem dX12_findCut_21 : dcb cX12_findCut 21 (.if_icmp .ge (201)) (201) 222 24 := by decide +kernel
theorem dX12_findCut_24 : dcd cX12_findCut 24 (.aload_n 0) 1 25 := by decide +kernel
theorem dX12_findCut_25 : dcd cX12_findCut 25 (.getfield 29) 3 28 := by decide +kernel
theorem dX12_findCut_28 : dcd cX12_findCut 28 (.bipush 24) 2 30 := by decide +kernel
theorem dX12_findCut_30 : dcb cX12_findCut 30 (.if_icmp .ge (192)) (192) 222 33 := by decide +kernel
theorem dX12_findCut_33 : dcd cX12_findCut 33 (.iconst 0) 1 34 := by decide +kernel
theorem dX12_findCut_34 : dcd cX12_findCut 34 (.istore 5) 2 36 := by decide +kernel
theorem dX12_findCut_36 : dcd cX12_findCut 36 (.iload 5) 2 38 := by decide +kernel
theorem dX12_findCut_38 : dcd cX12_findCut 38 (.iconst 2) 1 39 := by decide +kernel
theorem dX12_findCut_39 : dcb cX12_findCut 39 (.if_icmp .ge (177)) (177) 216 42 := by decide +kernel
theorem dX12_findCut_42 : dcd cX12_findCut 42 (.iload 5) 2 44 := by decide +kernel
theorem dX12_findCut_44 : dcb cX12_findCut 44 (.ifCond .ne (7)) (7) 51 47 := by decide +kernel
theorem dX12_findCut_47 : dcd cX12_findCut 47 (.iconst 1) 1 48 := by decide +kernel
theorem dX12_findCut_48 : dcb cX12_findCut 48 (.goto (4)) (4) 52 51 := by decide +kernel
theorem dX12_findCut_51 : dcd cX12_findCut 51 (.iconst 0) 1 52 := by decide +kernel
theorem dX12_findCut_52 : dcd cX12_findCut 52 (.istore 6) 2 54 := by decide +kernel
theorem dX12_findCut_54 : dcd cX12_findCut 54 (.iload 6) 2 56 := by decide +kernel
theorem dX12_findCut_56 : dcb cX12_findCut 56 (.ifCond .eq (13)) (13) 69 59 := by decide +kernel
theorem dX12_findCut_59 : dcd cX12_findCut 59 (.aload_n 0) 1 60 := by decide +kernel
theorem dX12_findCut_60 : dcd cX12_findCut 60 (.getfield 41) 3 63 := by decide +kernel
theorem dX12_findCut_63 : dcd cX12_findCut 63 (.iload 4) 2 65 := by decide +kernel
theorem dX12_findCut_65 : dcd cX12_findCut 65 (.iaload) 1 66 := by decide +kernel
theorem dX12_findCut_66 : dcb cX12_findCut 66 (.goto (10)) (10) 76 69 := by decide +kernel
theorem dX12_findCut_69 : dcd cX12_findCut 69 (.aload_n 0) 1 70 := by decide +kernel
theorem dX12_findCut_70 : dcd cX12_findCut 70 (.getfield 38) 3 73 := by decide +kernel
theorem dX12_findCut_73 : dcd cX12_findCut 73 (.iload 4) 2 75 := by decide +kernel
theorem dX12_findCut_75 : dcd cX12_findCut 75 (.iaload) 1 76 := by decide +kernel
theorem dX12_findCut_76 : dcd cX12_findCut 76 (.istore 7) 2 78 := by decide +kernel
theorem dX12_findCut_78 : dcd cX12_findCut 78 (.iconst 1) 1 79 := by decide +kernel
theorem dX12_findCut_79 : dcd cX12_findCut 79 (.istore 8) 2 81 := by decide +kernel
theorem dX12_findCut_81 : dcd cX12_findCut 81 (.aload_n 0) 1 82 := by decide +kernel
theorem dX12_findCut_82 : dcd cX12_findCut 82 (.getfield 44) 3 85 := by decide +kernel
theorem dX12_findCut_85 : dcd cX12_findCut 85 (.iload 4) 2 87 := by decide +kernel
theorem dX12_findCut_87 : dcd cX12_findCut 87 (.iaload) 1 88 := by decide +kernel
theorem dX12_findCut_88 : dcb cX12_findCut 88 (.ifCond .ne (122)) (122) 210 91 := by decide +kernel
theorem dX12_findCut_91 : dcd cX12_findCut 91 (.iload 8) 2 93 := by decide +kernel
theorem dX12_findCut_93 : dcd cX12_findCut 93 (.iload 6) 2 95 := by decide +kernel
theorem dX12_findCut_95 : dcb cX12_findCut 95 (.ifCond .eq (13)) (13) 108 98 := by decide +kernel
theorem dX12_findCut_98 : dcd cX12_findCut 98 (.aload_n 0) 1 99 := by decide +kernel
theorem dX12_findCut_99 : dcd cX12_findCut 99 (.getfield 38) 3 102 := by decide +kernel
theorem dX12_findCut_102 : dcd cX12_findCut 102 (.iload 4) 2 104 := by decide +kernel
theorem dX12_findCut_104 : dcd cX12_findCut 104 (.iaload) 1 105 := by decide +kernel
theorem dX12_findCut_105 : dcb cX12_findCut 105 (.goto (10)) (10) 115 108 := by decide +kernel
theorem dX12_findCut_108 : dcd cX12_findCut 108 (.aload_n 0) 1 109 := by decide +kernel
theorem dX12_findCut_109 : dcd cX12_findCut 109 (.getfield 41) 3 112 := by decide +kernel
theorem dX12_findCut_112 : dcd cX12_findCut 112 (.iload 4) 2 114 := by decide +kernel
theorem dX12_findCut_114 : dcd cX12_findCut 114 (.iaload) 1 115 := by decide +kernel
theorem dX12_findCut_115 : dcb cX12_findCut 115 (.if_icmp .ge (95)) (95) 210 118 := by decide +kernel
theorem dX12_findCut_118 : dcd cX12_findCut 118 (.aload_n 0) 1 119 := by decide +kernel
theorem dX12_findCut_119 : dcd cX12_findCut 119 (.iload 4) 2 121 := by decide +kernel
theorem dX12_findCut_121 : dcd cX12_findCut 121 (.iload 6) 2 123 := by decide +kernel
theorem dX12_findCut_123 : dcd cX12_findCut 123 (.iload 8) 2 125 := by decide +kernel
theorem dX12_findCut_125 : dcd cX12_findCut 125 (.iconst 0) 1 126 := by decide +kernel
theorem dX12_findCut_126 : dcd cX12_findCut 126 (.iload_n 1) 1 127 := by decide +kernel
theorem dX12_findCut_127 : dcd cX12_findCut 127 (.iload_n 2) 1 128 := by decide +kernel
theorem dX12_findCut_128 : dcd cX12_findCut 128 (.iload_n 3) 1 129 := by decide +kernel
theorem dX12_findCut_129 : dcd cX12_findCut 129 (.invokevirtual 227) 3 132 := by decide +kernel
theorem dX12_findCut_132 : dcd cX12_findCut 132 (.istore 9) 2 134 := by decide +kernel
theorem dX12_findCut_134 : dcd cX12_findCut 134 (.iload 7) 2 136 := by decide +kernel
theorem dX12_findCut_136 : dcd cX12_findCut 136 (.aload_n 0) 1 137 := by decide +kernel
theorem dX12_findCut_137 : dcd cX12_findCut 137 (.getfield 224) 3 140 := by decide +kernel
theorem dX12_findCut_140 : dcb cX12_findCut 140 (.if_icmp .ge (64)) (64) 204 143 := by decide +kernel
theorem dX12_findCut_143 : dcd cX12_findCut 143 (.iload 9) 2 145 := by decide +kernel
theorem dX12_findCut_145 : dcb cX12_findCut 145 (.ifCond .ne (20)) (20) 165 148 := by decide +kernel
theorem dX12_findCut_148 : dcd cX12_findCut 148 (.aload_n 0) 1 149 := by decide +kernel
theorem dX12_findCut_149 : dcd cX12_findCut 149 (.iload 4) 2 151 := by decide +kernel
theorem dX12_findCut_151 : dcd cX12_findCut 151 (.iload 6) 2 153 := by decide +kernel
theorem dX12_findCut_153 : dcd cX12_findCut 153 (.iload 8) 2 155 := by decide +kernel
theorem dX12_findCut_155 : dcd cX12_findCut 155 (.iconst 1) 1 156 := by decide +kernel
theorem dX12_findCut_156 : dcd cX12_findCut 156 (.iload_n 1) 1 157 := by decide +kernel
theorem dX12_findCut_157 : dcd cX12_findCut 157 (.iload_n 2) 1 158 := by decide +kernel
theorem dX12_findCut_158 : dcd cX12_findCut 158 (.iload_n 3) 1 159 := by decide +kernel
theorem dX12_findCut_159 : dcd cX12_findCut 159 (.invokevirtual 227) 3 162 := by decide +kernel
theorem dX12_findCut_162 : dcb cX12_findCut 162 (.ifCond .eq (42)) (42) 204 165 := by decide +kernel
theorem dX12_findCut_165 : dcd cX12_findCut 165 (.aload_n 0) 1 166 := by decide +kernel
theorem dX12_findCut_166 : dcd cX12_findCut 166 (.iload 7) 2 168 := by decide +kernel
theorem dX12_findCut_168 : dcd cX12_findCut 168 (.putfield 224) 3 171 := by decide +kernel
theorem dX12_findCut_171 : dcd cX12_findCut 171 (.aload_n 0) 1 172 := by decide +kernel
theorem dX12_findCut_172 : dcd cX12_findCut 172 (.sipush 1000) 3 175 := by decide +kernel
theorem dX12_findCut_175 : dcd cX12_findCut 175 (.iload 4) 2 177 := by decide +kernel
theorem dX12_findCut_177 : dcd cX12_findCut 177 (.imul) 1 178 := by decide +kernel
theorem dX12_findCut_178 : dcd cX12_findCut 178 (.bipush 100) 2 180 := by decide +kernel
theorem dX12_findCut_180 : dcd cX12_findCut 180 (.iload 5) 2 182 := by decide +kernel
theorem dX12_findCut_182 : dcd cX12_findCut 182 (.imul) 1 183 := by decide +kernel
theorem dX12_findCut_183 : dcd cX12_findCut 183 (.iadd) 1 184 := by decide +kernel
theorem dX12_findCut_184 : dcd cX12_findCut 184 (.bipush 10) 2 186 := by decide +kernel
theorem dX12_findCut_186 : dcd cX12_findCut 186 (.iload 8) 2 188 := by decide +kernel
theorem dX12_findCut_188 : dcd cX12_findCut 188 (.imul) 1 189 := by decide +kernel
theorem dX12_findCut_189 : dcd cX12_findCut 189 (.iadd) 1 190 := by decide +kernel
theorem dX12_findCut_190 : dcd cX12_findCut 190 (.iload 9) 2 192 := by decide +kernel
theorem dX12_findCut_192 : dcb cX12_findCut 192 (.ifCond .eq (7)) (7) 199 195 := by decide +kernel
theorem dX12_findCut_195 : dcd cX12_findCut 195 (.iconst 0) 1 196 := by decide +kernel
theorem dX12_findCut_196 : dcb cX12_findCut 196 (.goto (4)) (4) 200 199 := by decide +kernel
theorem dX12_findCut_199 : dcd cX12_findCut 199 (.iconst 1) 1 200 := by decide +kernel
theorem dX12_findCut_200 : dcd cX12_findCut 200 (.iadd) 1 201 := by decide +kernel
theorem dX12_findCut_201 : dcd cX12_findCut 201 (.putfield 220) 3 204 := by decide +kernel
theorem dX12_findCut_204 : dcd cX12_findCut 204 (.iinc 8 1) 3 207 := by decide +kernel
theorem dX12_findCut_207 : dcb cX12_findCut 207 (.goto (-126)) (-126) 81 210 := by decide +kernel
theorem dX12_findCut_210 : dcd cX12_findCut 210 (.iinc 5 1) 3 213 := by decide +kernel
theorem dX12_findCut_213 : dcb cX12_findCut 213 (.goto (-177)) (-177) 36 216 := by decide +kernel
theorem dX12_findCut_216 : dcd cX12_findCut 216 (.iinc 4 1) 3 219 := by decide +kernel
theorem dX12_findCut_219 : dcb cX12_findCut 219 (.goto (-204)) (-204) 15 222 := by decide +kernel
theorem dX12_findCut_222 : decode cX12_findCut 222 = .ok (.return_, 1) := by decide +kernel
theorem dX12_next_0 : dcd cX12_next 0 (.aload_n 0) 1 1 := by decide +kernel
theorem dX12_next_1 : dcd cX12_next 1 (.iconst 0) 1 2 := by decide +kernel
theorem dX12_next_2 : dcd cX12_next 2 (.putfield 1) 3 5 := by decide +kernel
theorem dX12_next_5 : dcd cX12_next 5 (.iload_n 1) 1 6 := by decide +kernel
theorem dX12_next_6 : dcd cX12_next 6 (.iload_n 2) 1 7 := by decide +kernel
theorem dX12_next_7 : dcd cX12_next 7 (.iload_n 3) 1 8 := by decide +kernel
theorem dX12_next_8 : dcd cX12_next 8 (.invokestatic 204) 3 11 := by decide +kernel
theorem dX12_next_11 : dcb cX12_next 11 (.ifCond .eq (6)) (6) 17 14 := by decide +kernel
theorem dX12_next_14 : dcd cX12_next 14 (.bipush (-2)) 2 16 := by decide +kernel
theorem dX12_next_16 : decode cX12_next 16 = .ok (.ireturn, 1) := by decide +kernel
theorem dX12_next_17 : dcd cX12_next 17 (.aload_n 0) 1 18 := by decide +kernel
theorem dX12_next_18 : dcd cX12_next 18 (.iload_n 1) 1 19 := by decide +kernel
theorem dX12_next_19 : dcd cX12_next 19 (.iload_n 2) 1 20 := by decide +kernel
theorem dX12_next_20 : dcd cX12_next 20 (.iload_n 3) 1 21 := by decide +kernel
theorem dX12_next_21 : dcd cX12_next 21 (.invokevirtual 231) 3 24 := by decide +kernel
theorem dX12_next_24 : dcd cX12_next 24 (.aload_n 0) 1 25 := by decide +kernel
theorem dX12_next_25 : dcd cX12_next 25 (.iload_n 1) 1 26 := by decide +kernel
theorem dX12_next_26 : dcd cX12_next 26 (.iload_n 2) 1 27 := by decide +kernel
theorem dX12_next_27 : dcd cX12_next 27 (.iload_n 3) 1 28 := by decide +kernel
theorem dX12_next_28 : dcd cX12_next 28 (.invokevirtual 212) 3 31 := by decide +kernel
theorem dX12_next_31 : dcd cX12_next 31 (.bipush (-9)) 2 33 := by decide +kernel
theorem dX12_next_33 : dcb cX12_next 33 (.if_icmp .ne (10)) (10) 43 36 := by decide +kernel
theorem dX12_next_36 : dcd cX12_next 36 (.aload_n 0) 1 37 := by decide +kernel
theorem dX12_next_37 : dcd cX12_next 37 (.getfield 220) 3 40 := by decide +kernel
theorem dX12_next_40 : dcb cX12_next 40 (.goto (5)) (5) 45 43 := by decide +kernel
theorem dX12_next_43 : dcd cX12_next 43 (.bipush (-9)) 2 45 := by decide +kernel
theorem dX12_next_45 : decode cX12_next 45 = .ok (.ireturn, 1) := by decide +kernel
theorem dX12_make_0 : dcd cX12_make 0 (.iload_n 1) 1 1 := by decide +kernel
theorem dX12_make_1 : dcd cX12_make 1 (.sipush 1000) 3 4 := by decide +kernel
theorem dX12_make_4 : dcd cX12_make 4 (.idiv) 1 5 := by decide +kernel
theorem dX12_make_5 : dcd cX12_make 5 (.istore_n 2) 1 6 := by decide +kernel
theorem dX12_make_6 : dcd cX12_make 6 (.aload_n 0) 1 7 := by decide +kernel
theorem dX12_make_7 : dcd cX12_make 7 (.iload_n 2) 1 8 := by decide +kernel
theorem dX12_make_8 : dcd cX12_make 8 (.iload_n 1) 1 9 := by decide +kernel
theorem dX12_make_9 : dcd cX12_make 9 (.bipush 100) 2 11 := by decide +kernel
theorem dX12_make_11 : dcd cX12_make 11 (.idiv) 1 12 := by decide +kernel
theorem dX12_make_12 : dcd cX12_make 12 (.bipush 10) 2 14 := by decide +kernel
theorem dX12_make_14 : dcd cX12_make 14 (.irem) 1 15 := by decide +kernel
theorem dX12_make_15 : dcb cX12_make 15 (.ifCond .ne (7)) (7) 22 18 := by decide +kernel
theorem dX12_make_18 : dcd cX12_make 18 (.iconst 1) 1 19 := by decide +kernel
theorem dX12_make_19 : dcb cX12_make 19 (.goto (4)) (4) 23 22 := by decide +kernel
theorem dX12_make_22 : dcd cX12_make 22 (.iconst 0) 1 23 := by decide +kernel
theorem dX12_make_23 : dcd cX12_make 23 (.iload_n 1) 1 24 := by decide +kernel
theorem dX12_make_24 : dcd cX12_make 24 (.bipush 10) 2 26 := by decide +kernel
theorem dX12_make_26 : dcd cX12_make 26 (.idiv) 1 27 := by decide +kernel
theorem dX12_make_27 : dcd cX12_make 27 (.bipush 10) 2 29 := by decide +kernel
theorem dX12_make_29 : dcd cX12_make 29 (.irem) 1 30 := by decide +kernel
theorem dX12_make_30 : dcd cX12_make 30 (.invokevirtual 182) 3 33 := by decide +kernel
theorem dX12_make_33 : dcd cX12_make 33 (.istore_n 3) 1 34 := by decide +kernel
theorem dX12_make_34 : dcd cX12_make 34 (.iload_n 1) 1 35 := by decide +kernel
theorem dX12_make_35 : dcd cX12_make 35 (.bipush 10) 2 37 := by decide +kernel
theorem dX12_make_37 : dcd cX12_make 37 (.irem) 1 38 := by decide +kernel
theorem dX12_make_38 : dcd cX12_make 38 (.iconst 1) 1 39 := by decide +kernel
theorem dX12_make_39 : dcb cX12_make 39 (.if_icmp .ne (7)) (7) 46 42 := by decide +kernel
theorem dX12_make_42 : dcd cX12_make 42 (.iload_n 3) 1 43 := by decide +kernel
theorem dX12_make_43 : dcb cX12_make 43 (.goto (4)) (4) 47 46 := by decide +kernel
theorem dX12_make_46 : dcd cX12_make 46 (.iload_n 2) 1 47 := by decide +kernel
theorem dX12_make_47 : dcd cX12_make 47 (.istore 4) 2 49 := by decide +kernel
theorem dX12_make_49 : dcd cX12_make 49 (.aload_n 0) 1 50 := by decide +kernel
theorem dX12_make_50 : dcd cX12_make 50 (.getfield 44) 3 53 := by decide +kernel
theorem dX12_make_53 : dcd cX12_make 53 (.iload 4) 2 55 := by decide +kernel
theorem dX12_make_55 : dcd cX12_make 55 (.iconst 1) 1 56 := by decide +kernel
theorem dX12_make_56 : dcd cX12_make 56 (.iastore) 1 57 := by decide +kernel
theorem dX12_make_57 : dcd cX12_make 57 (.iload 4) 2 59 := by decide +kernel
theorem dX12_make_59 : decode cX12_make 59 = .ok (.ireturn, 1) := by decide +kernel
theorem dX12_serve_0 : dcd cX12_serve 0 (.aload_n 0) 1 1 := by decide +kernel
theorem dX12_serve_1 : dcd cX12_serve 1 (.iconst 0) 1 2 := by decide +kernel
theorem dX12_serve_2 : dcd cX12_serve 2 (.putfield 1) 3 5 := by decide +kernel
theorem dX12_serve_5 : dcd cX12_serve 5 (.iload_n 1) 1 6 := by decide +kernel
theorem dX12_serve_6 : dcd cX12_serve 6 (.iload_n 2) 1 7 := by decide +kernel
theorem dX12_serve_7 : dcd cX12_serve 7 (.iload_n 3) 1 8 := by decide +kernel
theorem dX12_serve_8 : dcd cX12_serve 8 (.invokestatic 204) 3 11 := by decide +kernel
theorem dX12_serve_11 : dcb cX12_serve 11 (.ifCond .eq (6)) (6) 17 14 := by decide +kernel
theorem dX12_serve_14 : dcd cX12_serve 14 (.bipush (-2)) 2 16 := by decide +kernel
theorem dX12_serve_16 : decode cX12_serve 16 = .ok (.ireturn, 1) := by decide +kernel
theorem dX12_serve_17 : dcd cX12_serve 17 (.aload_n 0) 1 18 := by decide +kernel
theorem dX12_serve_18 : dcd cX12_serve 18 (.iload_n 1) 1 19 := by decide +kernel
theorem dX12_serve_19 : dcd cX12_serve 19 (.iload_n 2) 1 20 := by decide +kernel
theorem dX12_serve_20 : dcd cX12_serve 20 (.iload_n 3) 1 21 := by decide +kernel
theorem dX12_serve_21 : dcd cX12_serve 21 (.invokevirtual 212) 3 24 := by decide +kernel
theorem dX12_serve_24 : dcd cX12_serve 24 (.istore 4) 2 26 := by decide +kernel
theorem dX12_serve_26 : dcd cX12_serve 26 (.iload 4) 2 28 := by decide +kernel
theorem dX12_serve_28 : dcd cX12_serve 28 (.bipush (-9)) 2 30 := by decide +kernel
theorem dX12_serve_30 : dcb cX12_serve 30 (.if_icmp .eq (14)) (14) 44 33 := by decide +kernel
theorem dX12_serve_33 : dcd cX12_serve 33 (.aload_n 0) 1 34 := by decide +kernel
theorem dX12_serve_34 : dcd cX12_serve 34 (.getfield 44) 3 37 := by decide +kernel
theorem dX12_serve_37 : dcd cX12_serve 37 (.iload 4) 2 39 := by decide +kernel
theorem dX12_serve_39 : dcd cX12_serve 39 (.iconst 1) 1 40 := by decide +kernel
theorem dX12_serve_40 : dcd cX12_serve 40 (.iastore) 1 41 := by decide +kernel
theorem dX12_serve_41 : dcd cX12_serve 41 (.iload 4) 2 43 := by decide +kernel
theorem dX12_serve_43 : decode cX12_serve 43 = .ok (.ireturn, 1) := by decide +kernel
theorem dX12_serve_44 : dcd cX12_serve 44 (.aload_n 0) 1 45 := by decide +kernel
theorem dX12_serve_45 : dcd cX12_serve 45 (.iload_n 1) 1 46 := by decide +kernel
theorem dX12_serve_46 : dcd cX12_serve 46 (.iload_n 2) 1 47 := by decide +kernel
theorem dX12_serve_47 : dcd cX12_serve 47 (.iload_n 3) 1 48 := by decide +kernel
theorem dX12_serve_48 : dcd cX12_serve 48 (.invokevirtual 231) 3 51 := by decide +kernel
theorem dX12_serve_51 : dcd cX12_serve 51 (.aload_n 0) 1 52 := by decide +kernel
theorem dX12_serve_52 : dcd cX12_serve 52 (.getfield 220) 3 55 := by decide +kernel
theorem dX12_serve_55 : dcd cX12_serve 55 (.bipush (-9)) 2 57 := by decide +kernel
theorem dX12_serve_57 : dcb cX12_serve 57 (.if_icmp .ne (8)) (8) 65 60 := by decide +kernel
theorem dX12_serve_60 : dcd cX12_serve 60 (.bipush (-9)) 2 62 := by decide +kernel
theorem dX12_serve_62 : dcb cX12_serve 62 (.goto (11)) (11) 73 65 := by decide +kernel
theorem dX12_serve_65 : dcd cX12_serve 65 (.aload_n 0) 1 66 := by decide +kernel
theorem dX12_serve_66 : dcd cX12_serve 66 (.aload_n 0) 1 67 := by decide +kernel
theorem dX12_serve_67 : dcd cX12_serve 67 (.getfield 220) 3 70 := by decide +kernel
theorem dX12_serve_70 : dcd cX12_serve 70 (.invokevirtual 235) 3 73 := by decide +kernel
theorem dX12_serve_73 : decode cX12_serve 73 = .ok (.ireturn, 1) := by decide +kernel
theorem dX12_putAside_0 : dcd cX12_putAside 0 (.aload_n 0) 1 1 := by decide +kernel
theorem dX12_putAside_1 : dcd cX12_putAside 1 (.getfield 56) 3 4 := by decide +kernel
theorem dX12_putAside_4 : dcd cX12_putAside 4 (.iconst 0) 1 5 := by decide +kernel
theorem dX12_putAside_5 : dcd cX12_putAside 5 (.aload_n 0) 1 6 := by decide +kernel
theorem dX12_putAside_6 : dcd cX12_putAside 6 (.getfield 29) 3 9 := by decide +kernel
theorem dX12_putAside_9 : dcd cX12_putAside 9 (.iastore) 1 10 := by decide +kernel
theorem dX12_putAside_10 : dcd cX12_putAside 10 (.aload_n 0) 1 11 := by decide +kernel
theorem dX12_putAside_11 : dcd cX12_putAside 11 (.getfield 56) 3 14 := by decide +kernel
theorem dX12_putAside_14 : dcd cX12_putAside 14 (.iconst 1) 1 15 := by decide +kernel
theorem dX12_putAside_15 : dcd cX12_putAside 15 (.aload_n 0) 1 16 := by decide +kernel
theorem dX12_putAside_16 : dcd cX12_putAside 16 (.getfield 134) 3 19 := by decide +kernel
theorem dX12_putAside_19 : dcd cX12_putAside 19 (.iastore) 1 20 := by decide +kernel
theorem dX12_putAside_20 : dcd cX12_putAside 20 (.iconst 0) 1 21 := by decide +kernel
theorem dX12_putAside_21 : dcd cX12_putAside 21 (.istore_n 1) 1 22 := by decide +kernel
theorem dX12_putAside_22 : dcd cX12_putAside 22 (.iload_n 1) 1 23 := by decide +kernel
theorem dX12_putAside_23 : dcd cX12_putAside 23 (.bipush 24) 2 25 := by decide +kernel
theorem dX12_putAside_25 : dcb cX12_putAside 25 (.if_icmp .ge (147)) (147) 172 28 := by decide +kernel
theorem dX12_putAside_28 : dcd cX12_putAside 28 (.iconst 2) 1 29 := by decide +kernel
theorem dX12_putAside_29 : dcd cX12_putAside 29 (.bipush 11) 2 31 := by decide +kernel
theorem dX12_putAside_31 : dcd cX12_putAside 31 (.iload_n 1) 1 32 := by decide +kernel
theorem dX12_putAside_32 : dcd cX12_putAside 32 (.imul) 1 33 := by decide +kernel
theorem dX12_putAside_33 : dcd cX12_putAside 33 (.iadd) 1 34 := by decide +kernel
theorem dX12_putAside_34 : dcd cX12_putAside 34 (.istore_n 2) 1 35 := by decide +kernel
theorem dX12_putAside_35 : dcd cX12_putAside 35 (.aload_n 0) 1 36 := by decide +kernel
theorem dX12_putAside_36 : dcd cX12_putAside 36 (.getfield 56) 3 39 := by decide +kernel
theorem dX12_putAside_39 : dcd cX12_putAside 39 (.iload_n 2) 1 40 := by decide +kernel
theorem dX12_putAside_40 : dcd cX12_putAside 40 (.aload_n 0) 1 41 := by decide +kernel
theorem dX12_putAside_41 : dcd cX12_putAside 41 (.getfield 32) 3 44 := by decide +kernel
theorem dX12_putAside_44 : dcd cX12_putAside 44 (.iload_n 1) 1 45 := by decide +kernel
theorem dX12_putAside_45 : dcd cX12_putAside 45 (.iaload) 1 46 := by decide +kernel
theorem dX12_putAside_46 : dcd cX12_putAside 46 (.iastore) 1 47 := by decide +kernel
theorem dX12_putAside_47 : dcd cX12_putAside 47 (.aload_n 0) 1 48 := by decide +kernel
theorem dX12_putAside_48 : dcd cX12_putAside 48 (.getfield 56) 3 51 := by decide +kernel
theorem dX12_putAside_51 : dcd cX12_putAside 51 (.iload_n 2) 1 52 := by decide +kernel
theorem dX12_putAside_52 : dcd cX12_putAside 52 (.iconst 1) 1 53 := by decide +kernel
theorem dX12_putAside_53 : dcd cX12_putAside 53 (.iadd) 1 54 := by decide +kernel
theorem dX12_putAside_54 : dcd cX12_putAside 54 (.aload_n 0) 1 55 := by decide +kernel
theorem dX12_putAside_55 : dcd cX12_putAside 55 (.getfield 35) 3 58 := by decide +kernel
theorem dX12_putAside_58 : dcd cX12_putAside 58 (.iload_n 1) 1 59 := by decide +kernel
theorem dX12_putAside_59 : dcd cX12_putAside 59 (.iaload) 1 60 := by decide +kernel
theorem dX12_putAside_60 : dcd cX12_putAside 60 (.iastore) 1 61 := by decide +kernel
theorem dX12_putAside_61 : dcd cX12_putAside 61 (.aload_n 0) 1 62 := by decide +kernel
theorem dX12_putAside_62 : dcd cX12_putAside 62 (.getfield 56) 3 65 := by decide +kernel
theorem dX12_putAside_65 : dcd cX12_putAside 65 (.iload_n 2) 1 66 := by decide +kernel
theorem dX12_putAside_66 : dcd cX12_putAside 66 (.iconst 2) 1 67 := by decide +kernel
theorem dX12_putAside_67 : dcd cX12_putAside 67 (.iadd) 1 68 := by decide +kernel
theorem dX12_putAside_68 : dcd cX12_putAside 68 (.aload_n 0) 1 69 := by decide +kernel
theorem dX12_putAside_69 : dcd cX12_putAside 69 (.getfield 38) 3 72 := by decide +kernel
theorem dX12_putAside_72 : dcd cX12_putAside 72 (.iload_n 1) 1 73 := by decide +kernel
theorem dX12_putAside_73 : dcd cX12_putAside 73 (.iaload) 1 74 := by decide +kernel
theorem dX12_putAside_74 : dcd cX12_putAside 74 (.iastore) 1 75 := by decide +kernel
theorem dX12_putAside_75 : dcd cX12_putAside 75 (.aload_n 0) 1 76 := by decide +kernel
theorem dX12_putAside_76 : dcd cX12_putAside 76 (.getfield 56) 3 79 := by decide +kernel
theorem dX12_putAside_79 : dcd cX12_putAside 79 (.iload_n 2) 1 80 := by decide +kernel
theorem dX12_putAside_80 : dcd cX12_putAside 80 (.iconst 3) 1 81 := by decide +kernel
theorem dX12_putAside_81 : dcd cX12_putAside 81 (.iadd) 1 82 := by decide +kernel
theorem dX12_putAside_82 : dcd cX12_putAside 82 (.aload_n 0) 1 83 := by decide +kernel
theorem dX12_putAside_83 : dcd cX12_putAside 83 (.getfield 41) 3 86 := by decide +kernel
theorem dX12_putAside_86 : dcd cX12_putAside 86 (.iload_n 1) 1 87 := by decide +kernel
theorem dX12_putAside_87 : dcd cX12_putAside 87 (.iaload) 1 88 := by decide +kernel
theorem dX12_putAside_88 : dcd cX12_putAside 88 (.iastore) 1 89 := by decide +kernel
theorem dX12_putAside_89 : dcd cX12_putAside 89 (.aload_n 0) 1 90 := by decide +kernel
theorem dX12_putAside_90 : dcd cX12_putAside 90 (.getfield 56) 3 93 := by decide +kernel
theorem dX12_putAside_93 : dcd cX12_putAside 93 (.iload_n 2) 1 94 := by decide +kernel
theorem dX12_putAside_94 : dcd cX12_putAside 94 (.iconst 4) 1 95 := by decide +kernel
theorem dX12_putAside_95 : dcd cX12_putAside 95 (.iadd) 1 96 := by decide +kernel
theorem dX12_putAside_96 : dcd cX12_putAside 96 (.aload_n 0) 1 97 := by decide +kernel
theorem dX12_putAside_97 : dcd cX12_putAside 97 (.getfield 44) 3 100 := by decide +kernel
theorem dX12_putAside_100 : dcd cX12_putAside 100 (.iload_n 1) 1 101 := by decide +kernel
theorem dX12_putAside_101 : dcd cX12_putAside 101 (.iaload) 1 102 := by decide +kernel
theorem dX12_putAside_102 : dcd cX12_putAside 102 (.iastore) 1 103 := by decide +kernel
theorem dX12_putAside_103 : dcd cX12_putAside 103 (.aload_n 0) 1 104 := by decide +kernel
theorem dX12_putAside_104 : dcd cX12_putAside 104 (.getfield 56) 3 107 := by decide +kernel
theorem dX12_putAside_107 : dcd cX12_putAside 107 (.iload_n 2) 1 108 := by decide +kernel
theorem dX12_putAside_108 : dcd cX12_putAside 108 (.iconst 5) 1 109 := by decide +kernel
theorem dX12_putAside_109 : dcd cX12_putAside 109 (.iadd) 1 110 := by decide +kernel
theorem dX12_putAside_110 : dcd cX12_putAside 110 (.aload_n 0) 1 111 := by decide +kernel
theorem dX12_putAside_111 : dcd cX12_putAside 111 (.getfield 47) 3 114 := by decide +kernel
theorem dX12_putAside_114 : dcd cX12_putAside 114 (.iload_n 1) 1 115 := by decide +kernel
theorem dX12_putAside_115 : dcd cX12_putAside 115 (.iaload) 1 116 := by decide +kernel
theorem dX12_putAside_116 : dcd cX12_putAside 116 (.iastore) 1 117 := by decide +kernel
theorem dX12_putAside_117 : dcd cX12_putAside 117 (.aload_n 0) 1 118 := by decide +kernel
theorem dX12_putAside_118 : dcd cX12_putAside 118 (.getfield 56) 3 121 := by decide +kernel
theorem dX12_putAside_121 : dcd cX12_putAside 121 (.iload_n 2) 1 122 := by decide +kernel
theorem dX12_putAside_122 : dcd cX12_putAside 122 (.bipush 6) 2 124 := by decide +kernel
theorem dX12_putAside_124 : dcd cX12_putAside 124 (.iadd) 1 125 := by decide +kernel
theorem dX12_putAside_125 : dcd cX12_putAside 125 (.aload_n 0) 1 126 := by decide +kernel
theorem dX12_putAside_126 : dcd cX12_putAside 126 (.getfield 50) 3 129 := by decide +kernel
theorem dX12_putAside_129 : dcd cX12_putAside 129 (.iload_n 1) 1 130 := by decide +kernel
theorem dX12_putAside_130 : dcd cX12_putAside 130 (.iaload) 1 131 := by decide +kernel
theorem dX12_putAside_131 : dcd cX12_putAside 131 (.iastore) 1 132 := by decide +kernel
theorem dX12_putAside_132 : dcd cX12_putAside 132 (.iconst 0) 1 133 := by decide +kernel
theorem dX12_putAside_133 : dcd cX12_putAside 133 (.istore_n 3) 1 134 := by decide +kernel
theorem dX12_putAside_134 : dcd cX12_putAside 134 (.iload_n 3) 1 135 := by decide +kernel
theorem dX12_putAside_135 : dcd cX12_putAside 135 (.iconst 4) 1 136 := by decide +kernel
theorem dX12_putAside_136 : dcb cX12_putAside 136 (.if_icmp .ge (30)) (30) 166 139 := by decide +kernel
theorem dX12_putAside_139 : dcd cX12_putAside 139 (.aload_n 0) 1 140 := by decide +kernel
theorem dX12_putAside_140 : dcd cX12_putAside 140 (.getfield 56) 3 143 := by decide +kernel
theorem dX12_putAside_143 : dcd cX12_putAside 143 (.iload_n 2) 1 144 := by decide +kernel
theorem dX12_putAside_144 : dcd cX12_putAside 144 (.bipush 7) 2 146 := by decide +kernel
theorem dX12_putAside_146 : dcd cX12_putAside 146 (.iadd) 1 147 := by decide +kernel
theorem dX12_putAside_147 : dcd cX12_putAside 147 (.iload_n 3) 1 148 := by decide +kernel
theorem dX12_putAside_148 : dcd cX12_putAside 148 (.iadd) 1 149 := by decide +kernel
theorem dX12_putAside_149 : dcd cX12_putAside 149 (.aload_n 0) 1 150 := by decide +kernel
theorem dX12_putAside_150 : dcd cX12_putAside 150 (.getfield 53) 3 153 := by decide +kernel
theorem dX12_putAside_153 : dcd cX12_putAside 153 (.iconst 4) 1 154 := by decide +kernel
theorem dX12_putAside_154 : dcd cX12_putAside 154 (.iload_n 1) 1 155 := by decide +kernel
theorem dX12_putAside_155 : dcd cX12_putAside 155 (.imul) 1 156 := by decide +kernel
theorem dX12_putAside_156 : dcd cX12_putAside 156 (.iload_n 3) 1 157 := by decide +kernel
theorem dX12_putAside_157 : dcd cX12_putAside 157 (.iadd) 1 158 := by decide +kernel
theorem dX12_putAside_158 : dcd cX12_putAside 158 (.iaload) 1 159 := by decide +kernel
theorem dX12_putAside_159 : dcd cX12_putAside 159 (.iastore) 1 160 := by decide +kernel
theorem dX12_putAside_160 : dcd cX12_putAside 160 (.iinc 3 1) 3 163 := by decide +kernel
theorem dX12_putAside_163 : dcb cX12_putAside 163 (.goto (-29)) (-29) 134 166 := by decide +kernel
theorem dX12_putAside_166 : dcd cX12_putAside 166 (.iinc 1 1) 3 169 := by decide +kernel
theorem dX12_putAside_169 : dcb cX12_putAside 169 (.goto (-147)) (-147) 22 172 := by decide +kernel
theorem dX12_putAside_172 : decode cX12_putAside 172 = .ok (.return_, 1) := by decide +kernel
theorem dX12_takeBack_0 : dcd cX12_takeBack 0 (.aload_n 0) 1 1 := by decide +kernel
theorem dX12_takeBack_1 : dcd cX12_takeBack 1 (.aload_n 0) 1 2 := by decide +kernel
theorem dX12_takeBack_2 : dcd cX12_takeBack 2 (.getfield 56) 3 5 := by decide +kernel
theorem dX12_takeBack_5 : dcd cX12_takeBack 5 (.iconst 0) 1 6 := by decide +kernel
theorem dX12_takeBack_6 : dcd cX12_takeBack 6 (.iaload) 1 7 := by decide +kernel
theorem dX12_takeBack_7 : dcd cX12_takeBack 7 (.putfield 29) 3 10 := by decide +kernel
theorem dX12_takeBack_10 : dcd cX12_takeBack 10 (.aload_n 0) 1 11 := by decide +kernel
theorem dX12_takeBack_11 : dcd cX12_takeBack 11 (.aload_n 0) 1 12 := by decide +kernel
theorem dX12_takeBack_12 : dcd cX12_takeBack 12 (.getfield 56) 3 15 := by decide +kernel
theorem dX12_takeBack_15 : dcd cX12_takeBack 15 (.iconst 1) 1 16 := by decide +kernel
theorem dX12_takeBack_16 : dcd cX12_takeBack 16 (.iaload) 1 17 := by decide +kernel
theorem dX12_takeBack_17 : dcd cX12_takeBack 17 (.putfield 134) 3 20 := by decide +kernel
theorem dX12_takeBack_20 : dcd cX12_takeBack 20 (.iconst 0) 1 21 := by decide +kernel
theorem dX12_takeBack_21 : dcd cX12_takeBack 21 (.istore_n 1) 1 22 := by decide +kernel
theorem dX12_takeBack_22 : dcd cX12_takeBack 22 (.iload_n 1) 1 23 := by decide +kernel
theorem dX12_takeBack_23 : dcd cX12_takeBack 23 (.bipush 24) 2 25 := by decide +kernel
theorem dX12_takeBack_25 : dcb cX12_takeBack 25 (.if_icmp .ge (147)) (147) 172 28 := by decide +kernel
theorem dX12_takeBack_28 : dcd cX12_takeBack 28 (.iconst 2) 1 29 := by decide +kernel
theorem dX12_takeBack_29 : dcd cX12_takeBack 29 (.bipush 11) 2 31 := by decide +kernel
theorem dX12_takeBack_31 : dcd cX12_takeBack 31 (.iload_n 1) 1 32 := by decide +kernel
theorem dX12_takeBack_32 : dcd cX12_takeBack 32 (.imul) 1 33 := by decide +kernel
theorem dX12_takeBack_33 : dcd cX12_takeBack 33 (.iadd) 1 34 := by decide +kernel
theorem dX12_takeBack_34 : dcd cX12_takeBack 34 (.istore_n 2) 1 35 := by decide +kernel
theorem dX12_takeBack_35 : dcd cX12_takeBack 35 (.aload_n 0) 1 36 := by decide +kernel
theorem dX12_takeBack_36 : dcd cX12_takeBack 36 (.getfield 32) 3 39 := by decide +kernel
theorem dX12_takeBack_39 : dcd cX12_takeBack 39 (.iload_n 1) 1 40 := by decide +kernel
theorem dX12_takeBack_40 : dcd cX12_takeBack 40 (.aload_n 0) 1 41 := by decide +kernel
theorem dX12_takeBack_41 : dcd cX12_takeBack 41 (.getfield 56) 3 44 := by decide +kernel
theorem dX12_takeBack_44 : dcd cX12_takeBack 44 (.iload_n 2) 1 45 := by decide +kernel
theorem dX12_takeBack_45 : dcd cX12_takeBack 45 (.iaload) 1 46 := by decide +kernel
theorem dX12_takeBack_46 : dcd cX12_takeBack 46 (.iastore) 1 47 := by decide +kernel
theorem dX12_takeBack_47 : dcd cX12_takeBack 47 (.aload_n 0) 1 48 := by decide +kernel
theorem dX12_takeBack_48 : dcd cX12_takeBack 48 (.getfield 35) 3 51 := by decide +kernel
theorem dX12_takeBack_51 : dcd cX12_takeBack 51 (.iload_n 1) 1 52 := by decide +kernel
theorem dX12_takeBack_52 : dcd cX12_takeBack 52 (.aload_n 0) 1 53 := by decide +kernel
theorem dX12_takeBack_53 : dcd cX12_takeBack 53 (.getfield 56) 3 56 := by decide +kernel
theorem dX12_takeBack_56 : dcd cX12_takeBack 56 (.iload_n 2) 1 57 := by decide +kernel
theorem dX12_takeBack_57 : dcd cX12_takeBack 57 (.iconst 1) 1 58 := by decide +kernel
theorem dX12_takeBack_58 : dcd cX12_takeBack 58 (.iadd) 1 59 := by decide +kernel
theorem dX12_takeBack_59 : dcd cX12_takeBack 59 (.iaload) 1 60 := by decide +kernel
theorem dX12_takeBack_60 : dcd cX12_takeBack 60 (.iastore) 1 61 := by decide +kernel
theorem dX12_takeBack_61 : dcd cX12_takeBack 61 (.aload_n 0) 1 62 := by decide +kernel
theorem dX12_takeBack_62 : dcd cX12_takeBack 62 (.getfield 38) 3 65 := by decide +kernel
theorem dX12_takeBack_65 : dcd cX12_takeBack 65 (.iload_n 1) 1 66 := by decide +kernel
theorem dX12_takeBack_66 : dcd cX12_takeBack 66 (.aload_n 0) 1 67 := by decide +kernel
theorem dX12_takeBack_67 : dcd cX12_takeBack 67 (.getfield 56) 3 70 := by decide +kernel
theorem dX12_takeBack_70 : dcd cX12_takeBack 70 (.iload_n 2) 1 71 := by decide +kernel
theorem dX12_takeBack_71 : dcd cX12_takeBack 71 (.iconst 2) 1 72 := by decide +kernel
theorem dX12_takeBack_72 : dcd cX12_takeBack 72 (.iadd) 1 73 := by decide +kernel
theorem dX12_takeBack_73 : dcd cX12_takeBack 73 (.iaload) 1 74 := by decide +kernel
theorem dX12_takeBack_74 : dcd cX12_takeBack 74 (.iastore) 1 75 := by decide +kernel
theorem dX12_takeBack_75 : dcd cX12_takeBack 75 (.aload_n 0) 1 76 := by decide +kernel
theorem dX12_takeBack_76 : dcd cX12_takeBack 76 (.getfield 41) 3 79 := by decide +kernel
theorem dX12_takeBack_79 : dcd cX12_takeBack 79 (.iload_n 1) 1 80 := by decide +kernel
theorem dX12_takeBack_80 : dcd cX12_takeBack 80 (.aload_n 0) 1 81 := by decide +kernel
theorem dX12_takeBack_81 : dcd cX12_takeBack 81 (.getfield 56) 3 84 := by decide +kernel
theorem dX12_takeBack_84 : dcd cX12_takeBack 84 (.iload_n 2) 1 85 := by decide +kernel
theorem dX12_takeBack_85 : dcd cX12_takeBack 85 (.iconst 3) 1 86 := by decide +kernel
theorem dX12_takeBack_86 : dcd cX12_takeBack 86 (.iadd) 1 87 := by decide +kernel
theorem dX12_takeBack_87 : dcd cX12_takeBack 87 (.iaload) 1 88 := by decide +kernel
theorem dX12_takeBack_88 : dcd cX12_takeBack 88 (.iastore) 1 89 := by decide +kernel
theorem dX12_takeBack_89 : dcd cX12_takeBack 89 (.aload_n 0) 1 90 := by decide +kernel
theorem dX12_takeBack_90 : dcd cX12_takeBack 90 (.getfield 44) 3 93 := by decide +kernel
theorem dX12_takeBack_93 : dcd cX12_takeBack 93 (.iload_n 1) 1 94 := by decide +kernel
theorem dX12_takeBack_94 : dcd cX12_takeBack 94 (.aload_n 0) 1 95 := by decide +kernel
theorem dX12_takeBack_95 : dcd cX12_takeBack 95 (.getfield 56) 3 98 := by decide +kernel
theorem dX12_takeBack_98 : dcd cX12_takeBack 98 (.iload_n 2) 1 99 := by decide +kernel
theorem dX12_takeBack_99 : dcd cX12_takeBack 99 (.iconst 4) 1 100 := by decide +kernel
theorem dX12_takeBack_100 : dcd cX12_takeBack 100 (.iadd) 1 101 := by decide +kernel
theorem dX12_takeBack_101 : dcd cX12_takeBack 101 (.iaload) 1 102 := by decide +kernel
theorem dX12_takeBack_102 : dcd cX12_takeBack 102 (.iastore) 1 103 := by decide +kernel
theorem dX12_takeBack_103 : dcd cX12_takeBack 103 (.aload_n 0) 1 104 := by decide +kernel
theorem dX12_takeBack_104 : dcd cX12_takeBack 104 (.getfield 47) 3 107 := by decide +kernel
theorem dX12_takeBack_107 : dcd cX12_takeBack 107 (.iload_n 1) 1 108 := by decide +kernel
theorem dX12_takeBack_108 : dcd cX12_takeBack 108 (.aload_n 0) 1 109 := by decide +kernel
theorem dX12_takeBack_109 : dcd cX12_takeBack 109 (.getfield 56) 3 112 := by decide +kernel
theorem dX12_takeBack_112 : dcd cX12_takeBack 112 (.iload_n 2) 1 113 := by decide +kernel
theorem dX12_takeBack_113 : dcd cX12_takeBack 113 (.iconst 5) 1 114 := by decide +kernel
theorem dX12_takeBack_114 : dcd cX12_takeBack 114 (.iadd) 1 115 := by decide +kernel
theorem dX12_takeBack_115 : dcd cX12_takeBack 115 (.iaload) 1 116 := by decide +kernel
theorem dX12_takeBack_116 : dcd cX12_takeBack 116 (.iastore) 1 117 := by decide +kernel
theorem dX12_takeBack_117 : dcd cX12_takeBack 117 (.aload_n 0) 1 118 := by decide +kernel
theorem dX12_takeBack_118 : dcd cX12_takeBack 118 (.getfield 50) 3 121 := by decide +kernel
theorem dX12_takeBack_121 : dcd cX12_takeBack 121 (.iload_n 1) 1 122 := by decide +kernel
theorem dX12_takeBack_122 : dcd cX12_takeBack 122 (.aload_n 0) 1 123 := by decide +kernel
theorem dX12_takeBack_123 : dcd cX12_takeBack 123 (.getfield 56) 3 126 := by decide +kernel
theorem dX12_takeBack_126 : dcd cX12_takeBack 126 (.iload_n 2) 1 127 := by decide +kernel
theorem dX12_takeBack_127 : dcd cX12_takeBack 127 (.bipush 6) 2 129 := by decide +kernel
theorem dX12_takeBack_129 : dcd cX12_takeBack 129 (.iadd) 1 130 := by decide +kernel
theorem dX12_takeBack_130 : dcd cX12_takeBack 130 (.iaload) 1 131 := by decide +kernel
theorem dX12_takeBack_131 : dcd cX12_takeBack 131 (.iastore) 1 132 := by decide +kernel
theorem dX12_takeBack_132 : dcd cX12_takeBack 132 (.iconst 0) 1 133 := by decide +kernel
theorem dX12_takeBack_133 : dcd cX12_takeBack 133 (.istore_n 3) 1 134 := by decide +kernel
theorem dX12_takeBack_134 : dcd cX12_takeBack 134 (.iload_n 3) 1 135 := by decide +kernel
theorem dX12_takeBack_135 : dcd cX12_takeBack 135 (.iconst 4) 1 136 := by decide +kernel
theorem dX12_takeBack_136 : dcb cX12_takeBack 136 (.if_icmp .ge (30)) (30) 166 139 := by decide +kernel
theorem dX12_takeBack_139 : dcd cX12_takeBack 139 (.aload_n 0) 1 140 := by decide +kernel
theorem dX12_takeBack_140 : dcd cX12_takeBack 140 (.getfield 53) 3 143 := by decide +kernel
theorem dX12_takeBack_143 : dcd cX12_takeBack 143 (.iconst 4) 1 144 := by decide +kernel
theorem dX12_takeBack_144 : dcd cX12_takeBack 144 (.iload_n 1) 1 145 := by decide +kernel
theorem dX12_takeBack_145 : dcd cX12_takeBack 145 (.imul) 1 146 := by decide +kernel
theorem dX12_takeBack_146 : dcd cX12_takeBack 146 (.iload_n 3) 1 147 := by decide +kernel
theorem dX12_takeBack_147 : dcd cX12_takeBack 147 (.iadd) 1 148 := by decide +kernel
theorem dX12_takeBack_148 : dcd cX12_takeBack 148 (.aload_n 0) 1 149 := by decide +kernel
theorem dX12_takeBack_149 : dcd cX12_takeBack 149 (.getfield 56) 3 152 := by decide +kernel
theorem dX12_takeBack_152 : dcd cX12_takeBack 152 (.iload_n 2) 1 153 := by decide +kernel
theorem dX12_takeBack_153 : dcd cX12_takeBack 153 (.bipush 7) 2 155 := by decide +kernel
theorem dX12_takeBack_155 : dcd cX12_takeBack 155 (.iadd) 1 156 := by decide +kernel
theorem dX12_takeBack_156 : dcd cX12_takeBack 156 (.iload_n 3) 1 157 := by decide +kernel
theorem dX12_takeBack_157 : dcd cX12_takeBack 157 (.iadd) 1 158 := by decide +kernel
theorem dX12_takeBack_158 : dcd cX12_takeBack 158 (.iaload) 1 159 := by decide +kernel
theorem dX12_takeBack_159 : dcd cX12_takeBack 159 (.iastore) 1 160 := by decide +kernel
theorem dX12_takeBack_160 : dcd cX12_takeBack 160 (.iinc 3 1) 3 163 := by decide +kernel
theorem dX12_takeBack_163 : dcb cX12_takeBack 163 (.goto (-29)) (-29) 134 166 := by decide +kernel
theorem dX12_takeBack_166 : dcd cX12_takeBack 166 (.iinc 1 1) 3 169 := by decide +kernel
theorem dX12_takeBack_169 : dcb cX12_takeBack 169 (.goto (-147)) (-147) 22 172 := by decide +kernel
theorem dX12_takeBack_172 : decode cX12_takeBack 172 = .ok (.return_, 1) := by decide +kernel
end
section
theorem dX12_second_0 : dcd cX12_second 0 (.aload_n 0) 1 1 := by decide +kernel
theorem dX12_second_1 : dcd cX12_second 1 (.iload_n 1) 1 2 := by decide +kernel
theorem dX12_second_2 : dcd cX12_second 2 (.iload_n 2) 1 3 := by decide +kernel
theorem dX12_second_3 : dcd cX12_second 3 (.iload_n 3) 1 4 := by decide +kernel
theorem dX12_second_4 : dcd cX12_second 4 (.invokevirtual 212) 3 7 := by decide +kernel
theorem dX12_second_7 : dcd cX12_second 7 (.bipush (-9)) 2 9 := by decide +kernel
theorem dX12_second_9 : dcb cX12_second 9 (.if_icmp .eq (5)) (5) 14 12 := by decide +kernel
theorem dX12_second_12 : dcd cX12_second 12 (.iconst 0) 1 13 := by decide +kernel
theorem dX12_second_13 : decode cX12_second 13 = .ok (.ireturn, 1) := by decide +kernel
theorem dX12_second_14 : dcd cX12_second 14 (.aload_n 0) 1 15 := by decide +kernel
theorem dX12_second_15 : dcd cX12_second 15 (.iload_n 1) 1 16 := by decide +kernel
theorem dX12_second_16 : dcd cX12_second 16 (.iload_n 2) 1 17 := by decide +kernel
theorem dX12_second_17 : dcd cX12_second 17 (.iload_n 3) 1 18 := by decide +kernel
theorem dX12_second_18 : dcd cX12_second 18 (.invokevirtual 231) 3 21 := by decide +kernel
theorem dX12_second_21 : dcd cX12_second 21 (.aload_n 0) 1 22 := by decide +kernel
theorem dX12_second_22 : dcd cX12_second 22 (.getfield 224) 3 25 := by decide +kernel
theorem dX12_second_25 : decode cX12_second 25 = .ok (.ireturn, 1) := by decide +kernel
theorem dX12_findTwo_0 : dcd cX12_findTwo 0 (.aload_n 0) 1 1 := by decide +kernel
theorem dX12_findTwo_1 : dcd cX12_findTwo 1 (.ldc 223) 2 3 := by decide +kernel
theorem dX12_findTwo_3 : dcd cX12_findTwo 3 (.putfield 238) 3 6 := by decide +kernel
theorem dX12_findTwo_6 : dcd cX12_findTwo 6 (.aload_n 0) 1 7 := by decide +kernel
theorem dX12_findTwo_7 : dcd cX12_findTwo 7 (.bipush (-9)) 2 9 := by decide +kernel
theorem dX12_findTwo_9 : dcd cX12_findTwo 9 (.putfield 241) 3 12 := by decide +kernel
theorem dX12_findTwo_12 : dcd cX12_findTwo 12 (.aload_n 0) 1 13 := by decide +kernel
theorem dX12_findTwo_13 : dcd cX12_findTwo 13 (.invokevirtual 244) 3 16 := by decide +kernel
theorem dX12_findTwo_16 : dcd cX12_findTwo 16 (.iconst 0) 1 17 := by decide +kernel
theorem dX12_findTwo_17 : dcd cX12_findTwo 17 (.istore 6) 2 19 := by decide +kernel
theorem dX12_findTwo_19 : dcd cX12_findTwo 19 (.iload 6) 2 21 := by decide +kernel
theorem dX12_findTwo_21 : dcd cX12_findTwo 21 (.aload_n 0) 1 22 := by decide +kernel
theorem dX12_findTwo_22 : dcd cX12_findTwo 22 (.getfield 56) 3 25 := by decide +kernel
theorem dX12_findTwo_25 : dcd cX12_findTwo 25 (.iconst 0) 1 26 := by decide +kernel
theorem dX12_findTwo_26 : dcd cX12_findTwo 26 (.iaload) 1 27 := by decide +kernel
theorem dX12_findTwo_27 : dcb cX12_findTwo 27 (.if_icmp .ge (49)) (49) 76 30 := by decide +kernel
theorem dX12_findTwo_30 : dcd cX12_findTwo 30 (.aload_n 0) 1 31 := by decide +kernel
theorem dX12_findTwo_31 : dcd cX12_findTwo 31 (.iload 6) 2 33 := by decide +kernel
theorem dX12_findTwo_33 : dcd cX12_findTwo 33 (.iload_n 1) 1 34 := by decide +kernel
theorem dX12_findTwo_34 : dcd cX12_findTwo 34 (.iload_n 2) 1 35 := by decide +kernel
theorem dX12_findTwo_35 : dcd cX12_findTwo 35 (.iload 5) 2 37 := by decide +kernel
theorem dX12_findTwo_37 : dcd cX12_findTwo 37 (.invokevirtual 208) 3 40 := by decide +kernel
theorem dX12_findTwo_40 : dcb cX12_findTwo 40 (.ifCond .eq (30)) (30) 70 43 := by decide +kernel
theorem dX12_findTwo_43 : dcd cX12_findTwo 43 (.aload_n 0) 1 44 := by decide +kernel
theorem dX12_findTwo_44 : dcd cX12_findTwo 44 (.getfield 44) 3 47 := by decide +kernel
theorem dX12_findTwo_47 : dcd cX12_findTwo 47 (.iload 6) 2 49 := by decide +kernel
theorem dX12_findTwo_49 : dcd cX12_findTwo 49 (.iconst 1) 1 50 := by decide +kernel
theorem dX12_findTwo_50 : dcd cX12_findTwo 50 (.iastore) 1 51 := by decide +kernel
theorem dX12_findTwo_51 : dcd cX12_findTwo 51 (.aload_n 0) 1 52 := by decide +kernel
theorem dX12_findTwo_52 : dcd cX12_findTwo 52 (.aload_n 0) 1 53 := by decide +kernel
theorem dX12_findTwo_53 : dcd cX12_findTwo 53 (.iload_n 3) 1 54 := by decide +kernel
theorem dX12_findTwo_54 : dcd cX12_findTwo 54 (.iload 4) 2 56 := by decide +kernel
theorem dX12_findTwo_56 : dcd cX12_findTwo 56 (.iload 5) 2 58 := by decide +kernel
theorem dX12_findTwo_58 : dcd cX12_findTwo 58 (.invokevirtual 247) 3 61 := by decide +kernel
theorem dX12_findTwo_61 : dcd cX12_findTwo 61 (.iload 6) 2 63 := by decide +kernel
theorem dX12_findTwo_63 : dcd cX12_findTwo 63 (.invokevirtual 250) 3 66 := by decide +kernel
theorem dX12_findTwo_66 : dcd cX12_findTwo 66 (.aload_n 0) 1 67 := by decide +kernel
theorem dX12_findTwo_67 : dcd cX12_findTwo 67 (.invokevirtual 254) 3 70 := by decide +kernel
theorem dX12_findTwo_70 : dcd cX12_findTwo 70 (.iinc 6 1) 3 73 := by decide +kernel
theorem dX12_findTwo_73 : dcb cX12_findTwo 73 (.goto (-54)) (-54) 19 76 := by decide +kernel
theorem dX12_findTwo_76 : dcd cX12_findTwo 76 (.iconst 0) 1 77 := by decide +kernel
theorem dX12_findTwo_77 : dcd cX12_findTwo 77 (.istore 6) 2 79 := by decide +kernel
theorem dX12_findTwo_79 : dcd cX12_findTwo 79 (.iload 6) 2 81 := by decide +kernel
theorem dX12_findTwo_81 : dcd cX12_findTwo 81 (.aload_n 0) 1 82 := by decide +kernel
theorem dX12_findTwo_82 : dcd cX12_findTwo 82 (.getfield 56) 3 85 := by decide +kernel
theorem dX12_findTwo_85 : dcd cX12_findTwo 85 (.iconst 0) 1 86 := by decide +kernel
theorem dX12_findTwo_86 : dcd cX12_findTwo 86 (.iaload) 1 87 := by decide +kernel
theorem dX12_findTwo_87 : dcb cX12_findTwo 87 (.if_icmp .ge (210)) (210) 297 90 := by decide +kernel
theorem dX12_findTwo_90 : dcd cX12_findTwo 90 (.aload_n 0) 1 91 := by decide +kernel
theorem dX12_findTwo_91 : dcd cX12_findTwo 91 (.getfield 29) 3 94 := by decide +kernel
theorem dX12_findTwo_94 : dcd cX12_findTwo 94 (.bipush 24) 2 96 := by decide +kernel
theorem dX12_findTwo_96 : dcb cX12_findTwo 96 (.if_icmp .ge (201)) (201) 297 99 := by decide +kernel
theorem dX12_findTwo_99 : dcd cX12_findTwo 99 (.iconst 0) 1 100 := by decide +kernel
theorem dX12_findTwo_100 : dcd cX12_findTwo 100 (.istore 7) 2 102 := by decide +kernel
theorem dX12_findTwo_102 : dcd cX12_findTwo 102 (.iload 7) 2 104 := by decide +kernel
theorem dX12_findTwo_104 : dcd cX12_findTwo 104 (.iconst 2) 1 105 := by decide +kernel
theorem dX12_findTwo_105 : dcb cX12_findTwo 105 (.if_icmp .ge (186)) (186) 291 108 := by decide +kernel
theorem dX12_findTwo_108 : dcd cX12_findTwo 108 (.iconst 1) 1 109 := by decide +kernel
theorem dX12_findTwo_109 : dcd cX12_findTwo 109 (.istore 8) 2 111 := by decide +kernel
theorem dX12_findTwo_111 : dcd cX12_findTwo 111 (.aload_n 0) 1 112 := by decide +kernel
theorem dX12_findTwo_112 : dcd cX12_findTwo 112 (.getfield 44) 3 115 := by decide +kernel
theorem dX12_findTwo_115 : dcd cX12_findTwo 115 (.iload 6) 2 117 := by decide +kernel
theorem dX12_findTwo_117 : dcd cX12_findTwo 117 (.iaload) 1 118 := by decide +kernel
theorem dX12_findTwo_118 : dcb cX12_findTwo 118 (.ifCond .ne (167)) (167) 285 121 := by decide +kernel
theorem dX12_findTwo_121 : dcd cX12_findTwo 121 (.iload 8) 2 123 := by decide +kernel
theorem dX12_findTwo_123 : dcd cX12_findTwo 123 (.iload 7) 2 125 := by decide +kernel
theorem dX12_findTwo_125 : dcb cX12_findTwo 125 (.ifCond .ne (13)) (13) 138 128 := by decide +kernel
theorem dX12_findTwo_128 : dcd cX12_findTwo 128 (.aload_n 0) 1 129 := by decide +kernel
theorem dX12_findTwo_129 : dcd cX12_findTwo 129 (.getfield 38) 3 132 := by decide +kernel
theorem dX12_findTwo_132 : dcd cX12_findTwo 132 (.iload 6) 2 134 := by decide +kernel
theorem dX12_findTwo_134 : dcd cX12_findTwo 134 (.iaload) 1 135 := by decide +kernel
theorem dX12_findTwo_135 : dcb cX12_findTwo 135 (.goto (10)) (10) 145 138 := by decide +kernel
theorem dX12_findTwo_138 : dcd cX12_findTwo 138 (.aload_n 0) 1 139 := by decide +kernel
theorem dX12_findTwo_139 : dcd cX12_findTwo 139 (.getfield 41) 3 142 := by decide +kernel
theorem dX12_findTwo_142 : dcd cX12_findTwo 142 (.iload 6) 2 144 := by decide +kernel
theorem dX12_findTwo_144 : dcd cX12_findTwo 144 (.iaload) 1 145 := by decide +kernel
theorem dX12_findTwo_145 : dcb cX12_findTwo 145 (.if_icmp .ge (140)) (140) 285 148 := by decide +kernel
theorem dX12_findTwo_148 : dcd cX12_findTwo 148 (.iconst 0) 1 149 := by decide +kernel
theorem dX12_findTwo_149 : dcd cX12_findTwo 149 (.istore 9) 2 151 := by decide +kernel
theorem dX12_findTwo_151 : dcd cX12_findTwo 151 (.iload 9) 2 153 := by decide +kernel
theorem dX12_findTwo_153 : dcd cX12_findTwo 153 (.iconst 2) 1 154 := by decide +kernel
theorem dX12_findTwo_154 : dcb cX12_findTwo 154 (.if_icmp .ge (125)) (125) 279 157 := by decide +kernel
theorem dX12_findTwo_157 : dcd cX12_findTwo 157 (.aload_n 0) 1 158 := by decide +kernel
theorem dX12_findTwo_158 : dcd cX12_findTwo 158 (.iload 6) 2 160 := by decide +kernel
theorem dX12_findTwo_160 : dcd cX12_findTwo 160 (.iload 7) 2 162 := by decide +kernel
theorem dX12_findTwo_162 : dcb cX12_findTwo 162 (.ifCond .ne (7)) (7) 169 165 := by decide +kernel
theorem dX12_findTwo_165 : dcd cX12_findTwo 165 (.iconst 1) 1 166 := by decide +kernel
theorem dX12_findTwo_166 : dcb cX12_findTwo 166 (.goto (4)) (4) 170 169 := by decide +kernel
theorem dX12_findTwo_169 : dcd cX12_findTwo 169 (.iconst 0) 1 170 := by decide +kernel
theorem dX12_findTwo_170 : dcd cX12_findTwo 170 (.iload 8) 2 172 := by decide +kernel
theorem dX12_findTwo_172 : dcd cX12_findTwo 172 (.iload 9) 2 174 := by decide +kernel
theorem dX12_findTwo_174 : dcd cX12_findTwo 174 (.iconst 1) 1 175 := by decide +kernel
theorem dX12_findTwo_175 : dcb cX12_findTwo 175 (.if_icmp .ne (7)) (7) 182 178 := by decide +kernel
theorem dX12_findTwo_178 : dcd cX12_findTwo 178 (.iconst 1) 1 179 := by decide +kernel
theorem dX12_findTwo_179 : dcb cX12_findTwo 179 (.goto (4)) (4) 183 182 := by decide +kernel
theorem dX12_findTwo_182 : dcd cX12_findTwo 182 (.iconst 0) 1 183 := by decide +kernel
theorem dX12_findTwo_183 : dcd cX12_findTwo 183 (.iload_n 1) 1 184 := by decide +kernel
theorem dX12_findTwo_184 : dcd cX12_findTwo 184 (.iload_n 2) 1 185 := by decide +kernel
theorem dX12_findTwo_185 : dcd cX12_findTwo 185 (.iload 5) 2 187 := by decide +kernel
theorem dX12_findTwo_187 : dcd cX12_findTwo 187 (.invokevirtual 227) 3 190 := by decide +kernel
theorem dX12_findTwo_190 : dcb cX12_findTwo 190 (.ifCond .eq (83)) (83) 273 193 := by decide +kernel
theorem dX12_findTwo_193 : dcd cX12_findTwo 193 (.iload 7) 2 195 := by decide +kernel
theorem dX12_findTwo_195 : dcb cX12_findTwo 195 (.ifCond .ne (13)) (13) 208 198 := by decide +kernel
theorem dX12_findTwo_198 : dcd cX12_findTwo 198 (.aload_n 0) 1 199 := by decide +kernel
theorem dX12_findTwo_199 : dcd cX12_findTwo 199 (.getfield 41) 3 202 := by decide +kernel
theorem dX12_findTwo_202 : dcd cX12_findTwo 202 (.iload 6) 2 204 := by decide +kernel
theorem dX12_findTwo_204 : dcd cX12_findTwo 204 (.iaload) 1 205 := by decide +kernel
theorem dX12_findTwo_205 : dcb cX12_findTwo 205 (.goto (10)) (10) 215 208 := by decide +kernel
theorem dX12_findTwo_208 : dcd cX12_findTwo 208 (.aload_n 0) 1 209 := by decide +kernel
theorem dX12_findTwo_209 : dcd cX12_findTwo 209 (.getfield 38) 3 212 := by decide +kernel
theorem dX12_findTwo_212 : dcd cX12_findTwo 212 (.iload 6) 2 214 := by decide +kernel
theorem dX12_findTwo_214 : dcd cX12_findTwo 214 (.iaload) 1 215 := by decide +kernel
theorem dX12_findTwo_215 : dcd cX12_findTwo 215 (.istore 10) 2 217 := by decide +kernel
theorem dX12_findTwo_217 : dcd cX12_findTwo 217 (.sipush 1000) 3 220 := by decide +kernel
theorem dX12_findTwo_220 : dcd cX12_findTwo 220 (.iload 6) 2 222 := by decide +kernel
theorem dX12_findTwo_222 : dcd cX12_findTwo 222 (.imul) 1 223 := by decide +kernel
theorem dX12_findTwo_223 : dcd cX12_findTwo 223 (.bipush 100) 2 225 := by decide +kernel
theorem dX12_findTwo_225 : dcd cX12_findTwo 225 (.iload 7) 2 227 := by decide +kernel
theorem dX12_findTwo_227 : dcd cX12_findTwo 227 (.imul) 1 228 := by decide +kernel
theorem dX12_findTwo_228 : dcd cX12_findTwo 228 (.iadd) 1 229 := by decide +kernel
theorem dX12_findTwo_229 : dcd cX12_findTwo 229 (.bipush 10) 2 231 := by decide +kernel
theorem dX12_findTwo_231 : dcd cX12_findTwo 231 (.iload 8) 2 233 := by decide +kernel
theorem dX12_findTwo_233 : dcd cX12_findTwo 233 (.imul) 1 234 := by decide +kernel
theorem dX12_findTwo_234 : dcd cX12_findTwo 234 (.iadd) 1 235 := by decide +kernel
theorem dX12_findTwo_235 : dcd cX12_findTwo 235 (.iload 9) 2 237 := by decide +kernel
theorem dX12_findTwo_237 : dcd cX12_findTwo 237 (.iadd) 1 238 := by decide +kernel
theorem dX12_findTwo_238 : dcd cX12_findTwo 238 (.istore 11) 2 240 := by decide +kernel
theorem dX12_findTwo_240 : dcd cX12_findTwo 240 (.aload_n 0) 1 241 := by decide +kernel
theorem dX12_findTwo_241 : dcd cX12_findTwo 241 (.iload 11) 2 243 := by decide +kernel
theorem dX12_findTwo_243 : dcd cX12_findTwo 243 (.invokevirtual 235) 3 246 := by decide +kernel
theorem dX12_findTwo_246 : dcd cX12_findTwo 246 (.pop) 1 247 := by decide +kernel
theorem dX12_findTwo_247 : dcd cX12_findTwo 247 (.aload_n 0) 1 248 := by decide +kernel
theorem dX12_findTwo_248 : dcd cX12_findTwo 248 (.iload 10) 2 250 := by decide +kernel
theorem dX12_findTwo_250 : dcd cX12_findTwo 250 (.aload_n 0) 1 251 := by decide +kernel
theorem dX12_findTwo_251 : dcd cX12_findTwo 251 (.iload_n 3) 1 252 := by decide +kernel
theorem dX12_findTwo_252 : dcd cX12_findTwo 252 (.iload 4) 2 254 := by decide +kernel
theorem dX12_findTwo_254 : dcd cX12_findTwo 254 (.iload 5) 2 256 := by decide +kernel
theorem dX12_findTwo_256 : dcd cX12_findTwo 256 (.invokevirtual 247) 3 259 := by decide +kernel
theorem dX12_findTwo_259 : dcd cX12_findTwo 259 (.iadd) 1 260 := by decide +kernel
theorem dX12_findTwo_260 : dcd cX12_findTwo 260 (.ldc_w 257) 3 263 := by decide +kernel
theorem dX12_findTwo_263 : dcd cX12_findTwo 263 (.iload 11) 2 265 := by decide +kernel
theorem dX12_findTwo_265 : dcd cX12_findTwo 265 (.iadd) 1 266 := by decide +kernel
theorem dX12_findTwo_266 : dcd cX12_findTwo 266 (.invokevirtual 250) 3 269 := by decide +kernel
theorem dX12_findTwo_269 : dcd cX12_findTwo 269 (.aload_n 0) 1 270 := by decide +kernel
theorem dX12_findTwo_270 : dcd cX12_findTwo 270 (.invokevirtual 254) 3 273 := by decide +kernel
theorem dX12_findTwo_273 : dcd cX12_findTwo 273 (.iinc 9 1) 3 276 := by decide +kernel
theorem dX12_findTwo_276 : dcb cX12_findTwo 276 (.goto (-125)) (-125) 151 279 := by decide +kernel
theorem dX12_findTwo_279 : dcd cX12_findTwo 279 (.iinc 8 1) 3 282 := by decide +kernel
theorem dX12_findTwo_282 : dcb cX12_findTwo 282 (.goto (-171)) (-171) 111 285 := by decide +kernel
theorem dX12_findTwo_285 : dcd cX12_findTwo 285 (.iinc 7 1) 3 288 := by decide +kernel
theorem dX12_findTwo_288 : dcb cX12_findTwo 288 (.goto (-186)) (-186) 102 291 := by decide +kernel
theorem dX12_findTwo_291 : dcd cX12_findTwo 291 (.iinc 6 1) 3 294 := by decide +kernel
theorem dX12_findTwo_294 : dcb cX12_findTwo 294 (.goto (-215)) (-215) 79 297 := by decide +kernel
theorem dX12_findTwo_297 : decode cX12_findTwo 297 = .ok (.return_, 1) := by decide +kernel
theorem dX12_keepTwo_0 : dcd cX12_keepTwo 0 (.iload_n 1) 1 1 := by decide +kernel
theorem dX12_keepTwo_1 : dcd cX12_keepTwo 1 (.aload_n 0) 1 2 := by decide +kernel
theorem dX12_keepTwo_2 : dcd cX12_keepTwo 2 (.getfield 238) 3 5 := by decide +kernel
theorem dX12_keepTwo_5 : dcb cX12_keepTwo 5 (.if_icmp .ge (13)) (13) 18 8 := by decide +kernel
theorem dX12_keepTwo_8 : dcd cX12_keepTwo 8 (.aload_n 0) 1 9 := by decide +kernel
theorem dX12_keepTwo_9 : dcd cX12_keepTwo 9 (.iload_n 1) 1 10 := by decide +kernel
theorem dX12_keepTwo_10 : dcd cX12_keepTwo 10 (.putfield 238) 3 13 := by decide +kernel
theorem dX12_keepTwo_13 : dcd cX12_keepTwo 13 (.aload_n 0) 1 14 := by decide +kernel
theorem dX12_keepTwo_14 : dcd cX12_keepTwo 14 (.iload_n 2) 1 15 := by decide +kernel
theorem dX12_keepTwo_15 : dcd cX12_keepTwo 15 (.putfield 241) 3 18 := by decide +kernel
theorem dX12_keepTwo_18 : decode cX12_keepTwo 18 = .ok (.return_, 1) := by decide +kernel
theorem dX12_two_0 : dcd cX12_two 0 (.aload_n 0) 1 1 := by decide +kernel
theorem dX12_two_1 : dcd cX12_two 1 (.iconst 0) 1 2 := by decide +kernel
theorem dX12_two_2 : dcd cX12_two 2 (.putfield 1) 3 5 := by decide +kernel
theorem dX12_two_5 : dcd cX12_two 5 (.iload_n 1) 1 6 := by decide +kernel
theorem dX12_two_6 : dcd cX12_two 6 (.iload_n 2) 1 7 := by decide +kernel
theorem dX12_two_7 : dcd cX12_two 7 (.iload 5) 2 9 := by decide +kernel
theorem dX12_two_9 : dcd cX12_two 9 (.invokestatic 204) 3 12 := by decide +kernel
theorem dX12_two_12 : dcb cX12_two 12 (.ifCond .ne (14)) (14) 26 15 := by decide +kernel
theorem dX12_two_15 : dcd cX12_two 15 (.iload_n 3) 1 16 := by decide +kernel
theorem dX12_two_16 : dcd cX12_two 16 (.iload 4) 2 18 := by decide +kernel
theorem dX12_two_18 : dcd cX12_two 18 (.iload 5) 2 20 := by decide +kernel
theorem dX12_two_20 : dcd cX12_two 20 (.invokestatic 204) 3 23 := by decide +kernel
theorem dX12_two_23 : dcb cX12_two 23 (.ifCond .eq (6)) (6) 29 26 := by decide +kernel
theorem dX12_two_26 : dcd cX12_two 26 (.bipush (-2)) 2 28 := by decide +kernel
theorem dX12_two_28 : decode cX12_two 28 = .ok (.ireturn, 1) := by decide +kernel
theorem dX12_two_29 : dcd cX12_two 29 (.aload_n 0) 1 30 := by decide +kernel
theorem dX12_two_30 : dcd cX12_two 30 (.iload_n 1) 1 31 := by decide +kernel
theorem dX12_two_31 : dcd cX12_two 31 (.iload_n 2) 1 32 := by decide +kernel
theorem dX12_two_32 : dcd cX12_two 32 (.iload_n 3) 1 33 := by decide +kernel
theorem dX12_two_33 : dcd cX12_two 33 (.iload 4) 2 35 := by decide +kernel
theorem dX12_two_35 : dcd cX12_two 35 (.iload 5) 2 37 := by decide +kernel
theorem dX12_two_37 : dcd cX12_two 37 (.invokevirtual 258) 3 40 := by decide +kernel
theorem dX12_two_40 : dcd cX12_two 40 (.aload_n 0) 1 41 := by decide +kernel
theorem dX12_two_41 : dcd cX12_two 41 (.getfield 241) 3 44 := by decide +kernel
theorem dX12_two_44 : dcd cX12_two 44 (.bipush (-9)) 2 46 := by decide +kernel
theorem dX12_two_46 : dcb cX12_two 46 (.if_icmp .ne (8)) (8) 54 49 := by decide +kernel
theorem dX12_two_49 : dcd cX12_two 49 (.bipush (-9)) 2 51 := by decide +kernel
theorem dX12_two_51 : dcb cX12_two 51 (.goto (7)) (7) 58 54 := by decide +kernel
theorem dX12_two_54 : dcd cX12_two 54 (.aload_n 0) 1 55 := by decide +kernel
theorem dX12_two_55 : dcd cX12_two 55 (.getfield 238) 3 58 := by decide +kernel
theorem dX12_two_58 : decode cX12_two 58 = .ok (.ireturn, 1) := by decide +kernel
theorem dX12_twoFirst_0 : dcd cX12_twoFirst 0 (.aload_n 0) 1 1 := by decide +kernel
theorem dX12_twoFirst_1 : dcd cX12_twoFirst 1 (.iconst 0) 1 2 := by decide +kernel
theorem dX12_twoFirst_2 : dcd cX12_twoFirst 2 (.putfield 1) 3 5 := by decide +kernel
theorem dX12_twoFirst_5 : dcd cX12_twoFirst 5 (.iload_n 1) 1 6 := by decide +kernel
theorem dX12_twoFirst_6 : dcd cX12_twoFirst 6 (.iload_n 2) 1 7 := by decide +kernel
theorem dX12_twoFirst_7 : dcd cX12_twoFirst 7 (.iload 5) 2 9 := by decide +kernel
theorem dX12_twoFirst_9 : dcd cX12_twoFirst 9 (.invokestatic 204) 3 12 := by decide +kernel
theorem dX12_twoFirst_12 : dcb cX12_twoFirst 12 (.ifCond .ne (14)) (14) 26 15 := by decide +kernel
theorem dX12_twoFirst_15 : dcd cX12_twoFirst 15 (.iload_n 3) 1 16 := by decide +kernel
theorem dX12_twoFirst_16 : dcd cX12_twoFirst 16 (.iload 4) 2 18 := by decide +kernel
theorem dX12_twoFirst_18 : dcd cX12_twoFirst 18 (.iload 5) 2 20 := by decide +kernel
theorem dX12_twoFirst_20 : dcd cX12_twoFirst 20 (.invokestatic 204) 3 23 := by decide +kernel
theorem dX12_twoFirst_23 : dcb cX12_twoFirst 23 (.ifCond .eq (6)) (6) 29 26 := by decide +kernel
theorem dX12_twoFirst_26 : dcd cX12_twoFirst 26 (.bipush (-2)) 2 28 := by decide +kernel
theorem dX12_twoFirst_28 : decode cX12_twoFirst 28 = .ok (.ireturn, 1) := by decide +kernel
theorem dX12_twoFirst_29 : dcd cX12_twoFirst 29 (.aload_n 0) 1 30 := by decide +kernel
theorem dX12_twoFirst_30 : dcd cX12_twoFirst 30 (.iload_n 1) 1 31 := by decide +kernel
theorem dX12_twoFirst_31 : dcd cX12_twoFirst 31 (.iload_n 2) 1 32 := by decide +kernel
theorem dX12_twoFirst_32 : dcd cX12_twoFirst 32 (.iload_n 3) 1 33 := by decide +kernel
theorem dX12_twoFirst_33 : dcd cX12_twoFirst 33 (.iload 4) 2 35 := by decide +kernel
theorem dX12_twoFirst_35 : dcd cX12_twoFirst 35 (.iload 5) 2 37 := by decide +kernel
theorem dX12_twoFirst_37 : dcd cX12_twoFirst 37 (.invokevirtual 258) 3 40 := by decide +kernel
theorem dX12_twoFirst_40 : dcd cX12_twoFirst 40 (.aload_n 0) 1 41 := by decide +kernel
theorem dX12_twoFirst_41 : dcd cX12_twoFirst 41 (.getfield 241) 3 44 := by decide +kernel
theorem dX12_twoFirst_44 : decode cX12_twoFirst 44 = .ok (.ireturn, 1) := by decide +kernel
theorem dX12_order_0 : dcd cX12_order 0 (.aload_n 0) 1 1 := by decide +kernel
theorem dX12_order_1 : dcd cX12_order 1 (.iconst 0) 1 2 := by decide +kernel
theorem dX12_order_2 : dcd cX12_order 2 (.putfield 1) 3 5 := by decide +kernel
theorem dX12_order_5 : dcd cX12_order 5 (.iload_n 1) 1 6 := by decide +kernel
theorem dX12_order_6 : dcd cX12_order 6 (.iload_n 2) 1 7 := by decide +kernel
theorem dX12_order_7 : dcd cX12_order 7 (.iload_n 3) 1 8 := by decide +kernel
theorem dX12_order_8 : dcd cX12_order 8 (.invokestatic 204) 3 11 := by decide +kernel
theorem dX12_order_11 : dcb cX12_order 11 (.ifCond .eq (6)) (6) 17 14 := by decide +kernel
theorem dX12_order_14 : dcd cX12_order 14 (.bipush (-2)) 2 16 := by decide +kernel
theorem dX12_order_16 : decode cX12_order 16 = .ok (.ireturn, 1) := by decide +kernel
theorem dX12_order_17 : dcd cX12_order 17 (.aload_n 0) 1 18 := by decide +kernel
theorem dX12_order_18 : dcd cX12_order 18 (.getfield 262) 3 21 := by decide +kernel
theorem dX12_order_21 : dcd cX12_order 21 (.iconst 4) 1 22 := by decide +kernel
theorem dX12_order_22 : dcb cX12_order 22 (.if_icmp .ne (6)) (6) 28 25 := by decide +kernel
theorem dX12_order_25 : dcd cX12_order 25 (.bipush (-4)) 2 27 := by decide +kernel
theorem dX12_order_27 : decode cX12_order 27 = .ok (.ireturn, 1) := by decide +kernel
theorem dX12_order_28 : dcd cX12_order 28 (.aload_n 0) 1 29 := by decide +kernel
theorem dX12_order_29 : dcd cX12_order 29 (.getfield 66) 3 32 := by decide +kernel
theorem dX12_order_32 : dcd cX12_order 32 (.aload_n 0) 1 33 := by decide +kernel
theorem dX12_order_33 : dcd cX12_order 33 (.getfield 262) 3 36 := by decide +kernel
theorem dX12_order_36 : dcd cX12_order 36 (.iload_n 1) 1 37 := by decide +kernel
theorem dX12_order_37 : dcd cX12_order 37 (.iastore) 1 38 := by decide +kernel
theorem dX12_order_38 : dcd cX12_order 38 (.aload_n 0) 1 39 := by decide +kernel
theorem dX12_order_39 : dcd cX12_order 39 (.getfield 69) 3 42 := by decide +kernel
theorem dX12_order_42 : dcd cX12_order 42 (.aload_n 0) 1 43 := by decide +kernel
theorem dX12_order_43 : dcd cX12_order 43 (.getfield 262) 3 46 := by decide +kernel
theorem dX12_order_46 : dcd cX12_order 46 (.iload_n 2) 1 47 := by decide +kernel
theorem dX12_order_47 : dcd cX12_order 47 (.iastore) 1 48 := by decide +kernel
theorem dX12_order_48 : dcd cX12_order 48 (.aload_n 0) 1 49 := by decide +kernel
theorem dX12_order_49 : dcd cX12_order 49 (.getfield 72) 3 52 := by decide +kernel
theorem dX12_order_52 : dcd cX12_order 52 (.aload_n 0) 1 53 := by decide +kernel
theorem dX12_order_53 : dcd cX12_order 53 (.getfield 262) 3 56 := by decide +kernel
theorem dX12_order_56 : dcd cX12_order 56 (.iload_n 3) 1 57 := by decide +kernel
theorem dX12_order_57 : dcd cX12_order 57 (.iastore) 1 58 := by decide +kernel
theorem dX12_order_58 : dcd cX12_order 58 (.aload_n 0) 1 59 := by decide +kernel
theorem dX12_order_59 : dcd cX12_order 59 (.dup) 1 60 := by decide +kernel
theorem dX12_order_60 : dcd cX12_order 60 (.getfield 262) 3 63 := by decide +kernel
theorem dX12_order_63 : dcd cX12_order 63 (.iconst 1) 1 64 := by decide +kernel
theorem dX12_order_64 : dcd cX12_order 64 (.iadd) 1 65 := by decide +kernel
theorem dX12_order_65 : dcd cX12_order 65 (.putfield 262) 3 68 := by decide +kernel
theorem dX12_order_68 : dcd cX12_order 68 (.aload_n 0) 1 69 := by decide +kernel
theorem dX12_order_69 : dcd cX12_order 69 (.getfield 262) 3 72 := by decide +kernel
theorem dX12_order_72 : decode cX12_order 72 = .ok (.ireturn, 1) := by decide +kernel
theorem dX12_unorder_0 : dcd cX12_unorder 0 (.aload_n 0) 1 1 := by decide +kernel
theorem dX12_unorder_1 : dcd cX12_unorder 1 (.iconst 0) 1 2 := by decide +kernel
theorem dX12_unorder_2 : dcd cX12_unorder 2 (.putfield 1) 3 5 := by decide +kernel
theorem dX12_unorder_5 : dcd cX12_unorder 5 (.aload_n 0) 1 6 := by decide +kernel
theorem dX12_unorder_6 : dcd cX12_unorder 6 (.getfield 262) 3 9 := by decide +kernel
theorem dX12_unorder_9 : dcd cX12_unorder 9 (.istore_n 1) 1 10 := by decide +kernel
theorem dX12_unorder_10 : dcd cX12_unorder 10 (.aload_n 0) 1 11 := by decide +kernel
theorem dX12_unorder_11 : dcd cX12_unorder 11 (.iconst 0) 1 12 := by decide +kernel
theorem dX12_unorder_12 : dcd cX12_unorder 12 (.putfield 262) 3 15 := by decide +kernel
theorem dX12_unorder_15 : dcd cX12_unorder 15 (.iload_n 1) 1 16 := by decide +kernel
theorem dX12_unorder_16 : decode cX12_unorder 16 = .ok (.ireturn, 1) := by decide +kernel
theorem dX12_block_0 : dcd cX12_block 0 (.sipush 216) 3 3 := by decide +kernel
theorem dX12_block_3 : dcd cX12_block 3 (.iload_n 0) 1 4 := by decide +kernel
theorem dX12_block_4 : dcd cX12_block 4 (.imul) 1 5 := by decide +kernel
theorem dX12_block_5 : dcd cX12_block 5 (.bipush 36) 2 7 := by decide +kernel
theorem dX12_block_7 : dcd cX12_block 7 (.iload_n 1) 1 8 := by decide +kernel
theorem dX12_block_8 : dcd cX12_block 8 (.imul) 1 9 := by decide +kernel
theorem dX12_block_9 : dcd cX12_block 9 (.iadd) 1 10 := by decide +kernel
theorem dX12_block_10 : dcd cX12_block 10 (.bipush 6) 2 12 := by decide +kernel
theorem dX12_block_12 : dcd cX12_block 12 (.iload_n 2) 1 13 := by decide +kernel
theorem dX12_block_13 : dcd cX12_block 13 (.iconst 1) 1 14 := by decide +kernel
theorem dX12_block_14 : dcd cX12_block 14 (.isub) 1 15 := by decide +kernel
theorem dX12_block_15 : dcd cX12_block 15 (.imul) 1 16 := by decide +kernel
theorem dX12_block_16 : dcd cX12_block 16 (.iadd) 1 17 := by decide +kernel
theorem dX12_block_17 : dcd cX12_block 17 (.iload_n 3) 1 18 := by decide +kernel
theorem dX12_block_18 : dcd cX12_block 18 (.iadd) 1 19 := by decide +kernel
theorem dX12_block_19 : dcd cX12_block 19 (.iconst 1) 1 20 := by decide +kernel
theorem dX12_block_20 : dcd cX12_block 20 (.isub) 1 21 := by decide +kernel
theorem dX12_block_21 : decode cX12_block 21 = .ok (.ireturn, 1) := by decide +kernel
theorem dX12_layBlocks_0 : dcd cX12_layBlocks 0 (.iconst 0) 1 1 := by decide +kernel
theorem dX12_layBlocks_1 : dcd cX12_layBlocks 1 (.istore_n 1) 1 2 := by decide +kernel
theorem dX12_layBlocks_2 : dcd cX12_layBlocks 2 (.iload_n 1) 1 3 := by decide +kernel
theorem dX12_layBlocks_3 : dcd cX12_layBlocks 3 (.aload_n 0) 1 4 := by decide +kernel
theorem dX12_layBlocks_4 : dcd cX12_layBlocks 4 (.getfield 20) 3 7 := by decide +kernel
theorem dX12_layBlocks_7 : dcb cX12_layBlocks 7 (.if_icmp .ge (108)) (108) 115 10 := by decide +kernel
theorem dX12_layBlocks_10 : dcd cX12_layBlocks 10 (.iconst 0) 1 11 := by decide +kernel
theorem dX12_layBlocks_11 : dcd cX12_layBlocks 11 (.istore_n 2) 1 12 := by decide +kernel
theorem dX12_layBlocks_12 : dcd cX12_layBlocks 12 (.iload_n 2) 1 13 := by decide +kernel
theorem dX12_layBlocks_13 : dcd cX12_layBlocks 13 (.aload_n 0) 1 14 := by decide +kernel
theorem dX12_layBlocks_14 : dcd cX12_layBlocks 14 (.getfield 23) 3 17 := by decide +kernel
theorem dX12_layBlocks_17 : dcb cX12_layBlocks 17 (.if_icmp .ge (92)) (92) 109 20 := by decide +kernel
theorem dX12_layBlocks_20 : dcd cX12_layBlocks 20 (.iconst 1) 1 21 := by decide +kernel
theorem dX12_layBlocks_21 : dcd cX12_layBlocks 21 (.istore_n 3) 1 22 := by decide +kernel
theorem dX12_layBlocks_22 : dcd cX12_layBlocks 22 (.iload_n 1) 1 23 := by decide +kernel
theorem dX12_layBlocks_23 : dcd cX12_layBlocks 23 (.iload_n 3) 1 24 := by decide +kernel
theorem dX12_layBlocks_24 : dcd cX12_layBlocks 24 (.iadd) 1 25 := by decide +kernel
theorem dX12_layBlocks_25 : dcd cX12_layBlocks 25 (.aload_n 0) 1 26 := by decide +kernel
theorem dX12_layBlocks_26 : dcd cX12_layBlocks 26 (.getfield 20) 3 29 := by decide +kernel
theorem dX12_layBlocks_29 : dcb cX12_layBlocks 29 (.if_icmp .gt (74)) (74) 103 32 := by decide +kernel
theorem dX12_layBlocks_32 : dcd cX12_layBlocks 32 (.iconst 1) 1 33 := by decide +kernel
theorem dX12_layBlocks_33 : dcd cX12_layBlocks 33 (.istore 4) 2 35 := by decide +kernel
theorem dX12_layBlocks_35 : dcd cX12_layBlocks 35 (.iload_n 2) 1 36 := by decide +kernel
theorem dX12_layBlocks_36 : dcd cX12_layBlocks 36 (.iload 4) 2 38 := by decide +kernel
theorem dX12_layBlocks_38 : dcd cX12_layBlocks 38 (.iadd) 1 39 := by decide +kernel
theorem dX12_layBlocks_39 : dcd cX12_layBlocks 39 (.aload_n 0) 1 40 := by decide +kernel
theorem dX12_layBlocks_40 : dcd cX12_layBlocks 40 (.getfield 23) 3 43 := by decide +kernel
theorem dX12_layBlocks_43 : dcb cX12_layBlocks 43 (.if_icmp .gt (54)) (54) 97 46 := by decide +kernel
theorem dX12_layBlocks_46 : dcd cX12_layBlocks 46 (.aload_n 0) 1 47 := by decide +kernel
theorem dX12_layBlocks_47 : dcd cX12_layBlocks 47 (.getfield 75) 3 50 := by decide +kernel
theorem dX12_layBlocks_50 : dcd cX12_layBlocks 50 (.iload_n 1) 1 51 := by decide +kernel
theorem dX12_layBlocks_51 : dcd cX12_layBlocks 51 (.iload_n 2) 1 52 := by decide +kernel
theorem dX12_layBlocks_52 : dcd cX12_layBlocks 52 (.iload_n 3) 1 53 := by decide +kernel
theorem dX12_layBlocks_53 : dcd cX12_layBlocks 53 (.iload 4) 2 55 := by decide +kernel
theorem dX12_layBlocks_55 : dcd cX12_layBlocks 55 (.invokestatic 265) 3 58 := by decide +kernel
theorem dX12_layBlocks_58 : dcd cX12_layBlocks 58 (.aload_n 0) 1 59 := by decide +kernel
theorem dX12_layBlocks_59 : dcd cX12_layBlocks 59 (.iload_n 1) 1 60 := by decide +kernel
theorem dX12_layBlocks_60 : dcd cX12_layBlocks 60 (.iload_n 2) 1 61 := by decide +kernel
theorem dX12_layBlocks_61 : dcd cX12_layBlocks 61 (.iload_n 3) 1 62 := by decide +kernel
theorem dX12_layBlocks_62 : dcd cX12_layBlocks 62 (.iload 4) 2 64 := by decide +kernel
theorem dX12_layBlocks_64 : dcd cX12_layBlocks 64 (.invokevirtual 151) 3 67 := by decide +kernel
theorem dX12_layBlocks_67 : dcd cX12_layBlocks 67 (.iastore) 1 68 := by decide +kernel
theorem dX12_layBlocks_68 : dcd cX12_layBlocks 68 (.aload_n 0) 1 69 := by decide +kernel
theorem dX12_layBlocks_69 : dcd cX12_layBlocks 69 (.getfield 78) 3 72 := by decide +kernel
theorem dX12_layBlocks_72 : dcd cX12_layBlocks 72 (.iload_n 1) 1 73 := by decide +kernel
theorem dX12_layBlocks_73 : dcd cX12_layBlocks 73 (.iload_n 2) 1 74 := by decide +kernel
theorem dX12_layBlocks_74 : dcd cX12_layBlocks 74 (.iload_n 3) 1 75 := by decide +kernel
theorem dX12_layBlocks_75 : dcd cX12_layBlocks 75 (.iload 4) 2 77 := by decide +kernel
theorem dX12_layBlocks_77 : dcd cX12_layBlocks 77 (.invokestatic 265) 3 80 := by decide +kernel
theorem dX12_layBlocks_80 : dcd cX12_layBlocks 80 (.aload_n 0) 1 81 := by decide +kernel
theorem dX12_layBlocks_81 : dcd cX12_layBlocks 81 (.iload_n 1) 1 82 := by decide +kernel
theorem dX12_layBlocks_82 : dcd cX12_layBlocks 82 (.iload_n 2) 1 83 := by decide +kernel
theorem dX12_layBlocks_83 : dcd cX12_layBlocks 83 (.iload_n 3) 1 84 := by decide +kernel
theorem dX12_layBlocks_84 : dcd cX12_layBlocks 84 (.iload 4) 2 86 := by decide +kernel
theorem dX12_layBlocks_86 : dcd cX12_layBlocks 86 (.iconst 1) 1 87 := by decide +kernel
theorem dX12_layBlocks_87 : dcd cX12_layBlocks 87 (.invokevirtual 172) 3 90 := by decide +kernel
theorem dX12_layBlocks_90 : dcd cX12_layBlocks 90 (.iastore) 1 91 := by decide +kernel
theorem dX12_layBlocks_91 : dcd cX12_layBlocks 91 (.iinc 4 1) 3 94 := by decide +kernel
theorem dX12_layBlocks_94 : dcb cX12_layBlocks 94 (.goto (-59)) (-59) 35 97 := by decide +kernel
theorem dX12_layBlocks_97 : dcd cX12_layBlocks 97 (.iinc 3 1) 3 100 := by decide +kernel
theorem dX12_layBlocks_100 : dcb cX12_layBlocks 100 (.goto (-78)) (-78) 22 103 := by decide +kernel
theorem dX12_layBlocks_103 : dcd cX12_layBlocks 103 (.iinc 2 1) 3 106 := by decide +kernel
theorem dX12_layBlocks_106 : dcb cX12_layBlocks 106 (.goto (-94)) (-94) 12 109 := by decide +kernel
theorem dX12_layBlocks_109 : dcd cX12_layBlocks 109 (.iinc 1 1) 3 112 := by decide +kernel
theorem dX12_layBlocks_112 : dcb cX12_layBlocks 112 (.goto (-110)) (-110) 2 115 := by decide +kernel
theorem dX12_layBlocks_115 : decode cX12_layBlocks 115 = .ok (.return_, 1) := by decide +kernel
theorem dX12_isAsk_0 : dcd cX12_isAsk 0 (.aload_n 0) 1 1 := by decide +kernel
theorem dX12_isAsk_1 : dcd cX12_isAsk 1 (.getfield 75) 3 4 := by decide +kernel
theorem dX12_isAsk_4 : dcd cX12_isAsk 4 (.iload_n 1) 1 5 := by decide +kernel
theorem dX12_isAsk_5 : dcd cX12_isAsk 5 (.iaload) 1 6 := by decide +kernel
theorem dX12_isAsk_6 : dcd cX12_isAsk 6 (.i2l) 1 7 := by decide +kernel
theorem dX12_isAsk_7 : dcd cX12_isAsk 7 (.aload_n 0) 1 8 := by decide +kernel
theorem dX12_isAsk_8 : dcd cX12_isAsk 8 (.getfield 66) 3 11 := by decide +kernel
theorem dX12_isAsk_11 : dcd cX12_isAsk 11 (.iload_n 2) 1 12 := by decide +kernel
theorem dX12_isAsk_12 : dcd cX12_isAsk 12 (.iaload) 1 13 := by decide +kernel
theorem dX12_isAsk_13 : dcd cX12_isAsk 13 (.i2l) 1 14 := by decide +kernel
theorem dX12_isAsk_14 : dcd cX12_isAsk 14 (.aload_n 0) 1 15 := by decide +kernel
theorem dX12_isAsk_15 : dcd cX12_isAsk 15 (.getfield 66) 3 18 := by decide +kernel
theorem dX12_isAsk_18 : dcd cX12_isAsk 18 (.iload_n 2) 1 19 := by decide +kernel
theorem dX12_isAsk_19 : dcd cX12_isAsk 19 (.iaload) 1 20 := by decide +kernel
theorem dX12_isAsk_20 : dcd cX12_isAsk 20 (.aload_n 0) 1 21 := by decide +kernel
theorem dX12_isAsk_21 : dcd cX12_isAsk 21 (.getfield 69) 3 24 := by decide +kernel
theorem dX12_isAsk_24 : dcd cX12_isAsk 24 (.iload_n 2) 1 25 := by decide +kernel
theorem dX12_isAsk_25 : dcd cX12_isAsk 25 (.iaload) 1 26 := by decide +kernel
theorem dX12_isAsk_26 : dcd cX12_isAsk 26 (.iadd) 1 27 := by decide +kernel
theorem dX12_isAsk_27 : dcd cX12_isAsk 27 (.i2l) 1 28 := by decide +kernel
theorem dX12_isAsk_28 : dcd cX12_isAsk 28 (.invokestatic 113) 3 31 := by decide +kernel
theorem dX12_isAsk_31 : dcb cX12_isAsk 31 (.ifCond .eq (22)) (22) 53 34 := by decide +kernel
theorem dX12_isAsk_34 : dcd cX12_isAsk 34 (.aload_n 0) 1 35 := by decide +kernel
theorem dX12_isAsk_35 : dcd cX12_isAsk 35 (.getfield 78) 3 38 := by decide +kernel
theorem dX12_isAsk_38 : dcd cX12_isAsk 38 (.iload_n 1) 1 39 := by decide +kernel
theorem dX12_isAsk_39 : dcd cX12_isAsk 39 (.iaload) 1 40 := by decide +kernel
theorem dX12_isAsk_40 : dcd cX12_isAsk 40 (.aload_n 0) 1 41 := by decide +kernel
theorem dX12_isAsk_41 : dcd cX12_isAsk 41 (.getfield 72) 3 44 := by decide +kernel
theorem dX12_isAsk_44 : dcd cX12_isAsk 44 (.iload_n 2) 1 45 := by decide +kernel
theorem dX12_isAsk_45 : dcd cX12_isAsk 45 (.iaload) 1 46 := by decide +kernel
theorem dX12_isAsk_46 : dcb cX12_isAsk 46 (.if_icmp .gt (7)) (7) 53 49 := by decide +kernel
theorem dX12_isAsk_49 : dcd cX12_isAsk 49 (.iconst 1) 1 50 := by decide +kernel
theorem dX12_isAsk_50 : dcb cX12_isAsk 50 (.goto (4)) (4) 54 53 := by decide +kernel
theorem dX12_isAsk_53 : dcd cX12_isAsk 53 (.iconst 0) 1 54 := by decide +kernel
theorem dX12_isAsk_54 : decode cX12_isAsk 54 = .ok (.ireturn, 1) := by decide +kernel
theorem dX12_bestWire_0 : dcd cX12_bestWire 0 (.ldc 223) 2 2 := by decide +kernel
theorem dX12_bestWire_2 : dcd cX12_bestWire 2 (.istore 6) 2 4 := by decide +kernel
theorem dX12_bestWire_4 : dcd cX12_bestWire 4 (.aload_n 0) 1 5 := by decide +kernel
theorem dX12_bestWire_5 : dcd cX12_bestWire 5 (.bipush (-9)) 2 7 := by decide +kernel
theorem dX12_bestWire_7 : dcd cX12_bestWire 7 (.putfield 268) 3 10 := by decide +kernel
theorem dX12_bestWire_10 : dcd cX12_bestWire 10 (.iconst 0) 1 11 := by decide +kernel
theorem dX12_bestWire_11 : dcd cX12_bestWire 11 (.istore 7) 2 13 := by decide +kernel
theorem dX12_bestWire_13 : dcd cX12_bestWire 13 (.iload 7) 2 15 := by decide +kernel
theorem dX12_bestWire_15 : dcd cX12_bestWire 15 (.iconst 2) 1 16 := by decide +kernel
theorem dX12_bestWire_16 : dcb cX12_bestWire 16 (.if_icmp .ge (192)) (192) 208 19 := by decide +kernel
theorem dX12_bestWire_19 : dcd cX12_bestWire 19 (.iconst 1) 1 20 := by decide +kernel
theorem dX12_bestWire_20 : dcd cX12_bestWire 20 (.istore 8) 2 22 := by decide +kernel
theorem dX12_bestWire_22 : dcd cX12_bestWire 22 (.iload 8) 2 24 := by decide +kernel
theorem dX12_bestWire_24 : dcd cX12_bestWire 24 (.iload 7) 2 26 := by decide +kernel
theorem dX12_bestWire_26 : dcb cX12_bestWire 26 (.ifCond .ne (7)) (7) 33 29 := by decide +kernel
theorem dX12_bestWire_29 : dcd cX12_bestWire 29 (.iload_n 3) 1 30 := by decide +kernel
theorem dX12_bestWire_30 : dcb cX12_bestWire 30 (.goto (5)) (5) 35 33 := by decide +kernel
theorem dX12_bestWire_33 : dcd cX12_bestWire 33 (.iload 4) 2 35 := by decide +kernel
theorem dX12_bestWire_35 : dcb cX12_bestWire 35 (.if_icmp .ge (167)) (167) 202 38 := by decide +kernel
theorem dX12_bestWire_38 : dcd cX12_bestWire 38 (.iload 7) 2 40 := by decide +kernel
theorem dX12_bestWire_40 : dcb cX12_bestWire 40 (.ifCond .ne (15)) (15) 55 43 := by decide +kernel
theorem dX12_bestWire_43 : dcd cX12_bestWire 43 (.iload_n 1) 1 44 := by decide +kernel
theorem dX12_bestWire_44 : dcd cX12_bestWire 44 (.iload_n 2) 1 45 := by decide +kernel
theorem dX12_bestWire_45 : dcd cX12_bestWire 45 (.iload 8) 2 47 := by decide +kernel
theorem dX12_bestWire_47 : dcd cX12_bestWire 47 (.iload 4) 2 49 := by decide +kernel
theorem dX12_bestWire_49 : dcd cX12_bestWire 49 (.invokestatic 265) 3 52 := by decide +kernel
theorem dX12_bestWire_52 : dcb cX12_bestWire 52 (.goto (11)) (11) 63 55 := by decide +kernel
theorem dX12_bestWire_55 : dcd cX12_bestWire 55 (.iload_n 1) 1 56 := by decide +kernel
theorem dX12_bestWire_56 : dcd cX12_bestWire 56 (.iload_n 2) 1 57 := by decide +kernel
theorem dX12_bestWire_57 : dcd cX12_bestWire 57 (.iload_n 3) 1 58 := by decide +kernel
theorem dX12_bestWire_58 : dcd cX12_bestWire 58 (.iload 8) 2 60 := by decide +kernel
theorem dX12_bestWire_60 : dcd cX12_bestWire 60 (.invokestatic 265) 3 63 := by decide +kernel
theorem dX12_bestWire_63 : dcd cX12_bestWire 63 (.istore 9) 2 65 := by decide +kernel
theorem dX12_bestWire_65 : dcd cX12_bestWire 65 (.iload 7) 2 67 := by decide +kernel
theorem dX12_bestWire_67 : dcb cX12_bestWire 67 (.ifCond .ne (20)) (20) 87 70 := by decide +kernel
theorem dX12_bestWire_70 : dcd cX12_bestWire 70 (.iload_n 1) 1 71 := by decide +kernel
theorem dX12_bestWire_71 : dcd cX12_bestWire 71 (.iload 8) 2 73 := by decide +kernel
theorem dX12_bestWire_73 : dcd cX12_bestWire 73 (.iadd) 1 74 := by decide +kernel
theorem dX12_bestWire_74 : dcd cX12_bestWire 74 (.iload_n 2) 1 75 := by decide +kernel
theorem dX12_bestWire_75 : dcd cX12_bestWire 75 (.iload_n 3) 1 76 := by decide +kernel
theorem dX12_bestWire_76 : dcd cX12_bestWire 76 (.iload 8) 2 78 := by decide +kernel
theorem dX12_bestWire_78 : dcd cX12_bestWire 78 (.isub) 1 79 := by decide +kernel
theorem dX12_bestWire_79 : dcd cX12_bestWire 79 (.iload 4) 2 81 := by decide +kernel
theorem dX12_bestWire_81 : dcd cX12_bestWire 81 (.invokestatic 265) 3 84 := by decide +kernel
theorem dX12_bestWire_84 : dcb cX12_bestWire 84 (.goto (17)) (17) 101 87 := by decide +kernel
theorem dX12_bestWire_87 : dcd cX12_bestWire 87 (.iload_n 1) 1 88 := by decide +kernel
theorem dX12_bestWire_88 : dcd cX12_bestWire 88 (.iload_n 2) 1 89 := by decide +kernel
theorem dX12_bestWire_89 : dcd cX12_bestWire 89 (.iload 8) 2 91 := by decide +kernel
theorem dX12_bestWire_91 : dcd cX12_bestWire 91 (.iadd) 1 92 := by decide +kernel
theorem dX12_bestWire_92 : dcd cX12_bestWire 92 (.iload_n 3) 1 93 := by decide +kernel
theorem dX12_bestWire_93 : dcd cX12_bestWire 93 (.iload 4) 2 95 := by decide +kernel
theorem dX12_bestWire_95 : dcd cX12_bestWire 95 (.iload 8) 2 97 := by decide +kernel
theorem dX12_bestWire_97 : dcd cX12_bestWire 97 (.isub) 1 98 := by decide +kernel
theorem dX12_bestWire_98 : dcd cX12_bestWire 98 (.invokestatic 265) 3 101 := by decide +kernel
theorem dX12_bestWire_101 : dcd cX12_bestWire 101 (.istore 10) 2 103 := by decide +kernel
theorem dX12_bestWire_103 : dcd cX12_bestWire 103 (.iconst 0) 1 104 := by decide +kernel
theorem dX12_bestWire_104 : dcd cX12_bestWire 104 (.istore 11) 2 106 := by decide +kernel
theorem dX12_bestWire_106 : dcd cX12_bestWire 106 (.iload 11) 2 108 := by decide +kernel
theorem dX12_bestWire_108 : dcd cX12_bestWire 108 (.iload 5) 2 110 := by decide +kernel
theorem dX12_bestWire_110 : dcb cX12_bestWire 110 (.if_icmp .gt (86)) (86) 196 113 := by decide +kernel
theorem dX12_bestWire_113 : dcd cX12_bestWire 113 (.iload 11) 2 115 := by decide +kernel
theorem dX12_bestWire_115 : dcd cX12_bestWire 115 (.iload 5) 2 117 := by decide +kernel
theorem dX12_bestWire_117 : dcd cX12_bestWire 117 (.iconst (-1)) 1 118 := by decide +kernel
theorem dX12_bestWire_118 : dcd cX12_bestWire 118 (.ixor) 1 119 := by decide +kernel
theorem dX12_bestWire_119 : dcd cX12_bestWire 119 (.iand) 1 120 := by decide +kernel
theorem dX12_bestWire_120 : dcb cX12_bestWire 120 (.ifCond .ne (70)) (70) 190 123 := by decide +kernel
theorem dX12_bestWire_123 : dcd cX12_bestWire 123 (.iload 7) 2 125 := by decide +kernel
theorem dX12_bestWire_125 : dcb cX12_bestWire 125 (.ifCond .ne (8)) (8) 133 128 := by decide +kernel
theorem dX12_bestWire_128 : dcd cX12_bestWire 128 (.iload 4) 2 130 := by decide +kernel
theorem dX12_bestWire_130 : dcb cX12_bestWire 130 (.goto (4)) (4) 134 133 := by decide +kernel
theorem dX12_bestWire_133 : dcd cX12_bestWire 133 (.iload_n 3) 1 134 := by decide +kernel
theorem dX12_bestWire_134 : dcd cX12_bestWire 134 (.aload_n 0) 1 135 := by decide +kernel
theorem dX12_bestWire_135 : dcd cX12_bestWire 135 (.getfield 81) 3 138 := by decide +kernel
theorem dX12_bestWire_138 : dcd cX12_bestWire 138 (.bipush 16) 2 140 := by decide +kernel
theorem dX12_bestWire_140 : dcd cX12_bestWire 140 (.iload 9) 2 142 := by decide +kernel
theorem dX12_bestWire_142 : dcd cX12_bestWire 142 (.imul) 1 143 := by decide +kernel
theorem dX12_bestWire_143 : dcd cX12_bestWire 143 (.iload 11) 2 145 := by decide +kernel
theorem dX12_bestWire_145 : dcd cX12_bestWire 145 (.iadd) 1 146 := by decide +kernel
theorem dX12_bestWire_146 : dcd cX12_bestWire 146 (.iaload) 1 147 := by decide +kernel
theorem dX12_bestWire_147 : dcd cX12_bestWire 147 (.iadd) 1 148 := by decide +kernel
theorem dX12_bestWire_148 : dcd cX12_bestWire 148 (.aload_n 0) 1 149 := by decide +kernel
theorem dX12_bestWire_149 : dcd cX12_bestWire 149 (.getfield 81) 3 152 := by decide +kernel
theorem dX12_bestWire_152 : dcd cX12_bestWire 152 (.bipush 16) 2 154 := by decide +kernel
theorem dX12_bestWire_154 : dcd cX12_bestWire 154 (.iload 10) 2 156 := by decide +kernel
theorem dX12_bestWire_156 : dcd cX12_bestWire 156 (.imul) 1 157 := by decide +kernel
theorem dX12_bestWire_157 : dcd cX12_bestWire 157 (.iload 5) 2 159 := by decide +kernel
theorem dX12_bestWire_159 : dcd cX12_bestWire 159 (.iadd) 1 160 := by decide +kernel
theorem dX12_bestWire_160 : dcd cX12_bestWire 160 (.iload 11) 2 162 := by decide +kernel
theorem dX12_bestWire_162 : dcd cX12_bestWire 162 (.isub) 1 163 := by decide +kernel
theorem dX12_bestWire_163 : dcd cX12_bestWire 163 (.iaload) 1 164 := by decide +kernel
theorem dX12_bestWire_164 : dcd cX12_bestWire 164 (.iadd) 1 165 := by decide +kernel
theorem dX12_bestWire_165 : dcd cX12_bestWire 165 (.istore 12) 2 167 := by decide +kernel
theorem dX12_bestWire_167 : dcd cX12_bestWire 167 (.iload 12) 2 169 := by decide +kernel
theorem dX12_bestWire_169 : dcd cX12_bestWire 169 (.iload 6) 2 171 := by decide +kernel
theorem dX12_bestWire_171 : dcb cX12_bestWire 171 (.if_icmp .ge (19)) (19) 190 174 := by decide +kernel
theorem dX12_bestWire_174 : dcd cX12_bestWire 174 (.iload 12) 2 176 := by decide +kernel
theorem dX12_bestWire_176 : dcd cX12_bestWire 176 (.istore 6) 2 178 := by decide +kernel
theorem dX12_bestWire_178 : dcd cX12_bestWire 178 (.aload_n 0) 1 179 := by decide +kernel
theorem dX12_bestWire_179 : dcd cX12_bestWire 179 (.bipush 100) 2 181 := by decide +kernel
theorem dX12_bestWire_181 : dcd cX12_bestWire 181 (.iload 7) 2 183 := by decide +kernel
theorem dX12_bestWire_183 : dcd cX12_bestWire 183 (.imul) 1 184 := by decide +kernel
theorem dX12_bestWire_184 : dcd cX12_bestWire 184 (.iload 8) 2 186 := by decide +kernel
theorem dX12_bestWire_186 : dcd cX12_bestWire 186 (.iadd) 1 187 := by decide +kernel
theorem dX12_bestWire_187 : dcd cX12_bestWire 187 (.putfield 268) 3 190 := by decide +kernel
theorem dX12_bestWire_190 : dcd cX12_bestWire 190 (.iinc 11 1) 3 193 := by decide +kernel
theorem dX12_bestWire_193 : dcb cX12_bestWire 193 (.goto (-87)) (-87) 106 196 := by decide +kernel
theorem dX12_bestWire_196 : dcd cX12_bestWire 196 (.iinc 8 1) 3 199 := by decide +kernel
theorem dX12_bestWire_199 : dcb cX12_bestWire 199 (.goto (-177)) (-177) 22 202 := by decide +kernel
theorem dX12_bestWire_202 : dcd cX12_bestWire 202 (.iinc 7 1) 3 205 := by decide +kernel
theorem dX12_bestWire_205 : dcb cX12_bestWire 205 (.goto (-192)) (-192) 13 208 := by decide +kernel
theorem dX12_bestWire_208 : dcd cX12_bestWire 208 (.iload 6) 2 210 := by decide +kernel
theorem dX12_bestWire_210 : decode cX12_bestWire 210 = .ok (.ireturn, 1) := by decide +kernel
theorem dX12_layWires_0 : dcd cX12_layWires 0 (.aload_n 0) 1 1 := by decide +kernel
theorem dX12_layWires_1 : dcd cX12_layWires 1 (.invokevirtual 271) 3 4 := by decide +kernel
theorem dX12_layWires_4 : dcd cX12_layWires 4 (.iconst 1) 1 5 := by decide +kernel
theorem dX12_layWires_5 : dcd cX12_layWires 5 (.istore_n 1) 1 6 := by decide +kernel
theorem dX12_layWires_6 : dcd cX12_layWires 6 (.iload_n 1) 1 7 := by decide +kernel
theorem dX12_layWires_7 : dcd cX12_layWires 7 (.aload_n 0) 1 8 := by decide +kernel
theorem dX12_layWires_8 : dcd cX12_layWires 8 (.getfield 20) 3 11 := by decide +kernel
theorem dX12_layWires_11 : dcb cX12_layWires 11 (.if_icmp .gt (195)) (195) 206 14 := by decide +kernel
theorem dX12_layWires_14 : dcd cX12_layWires 14 (.iconst 1) 1 15 := by decide +kernel
theorem dX12_layWires_15 : dcd cX12_layWires 15 (.istore_n 2) 1 16 := by decide +kernel
theorem dX12_layWires_16 : dcd cX12_layWires 16 (.iload_n 2) 1 17 := by decide +kernel
theorem dX12_layWires_17 : dcd cX12_layWires 17 (.aload_n 0) 1 18 := by decide +kernel
theorem dX12_layWires_18 : dcd cX12_layWires 18 (.getfield 23) 3 21 := by decide +kernel
theorem dX12_layWires_21 : dcb cX12_layWires 21 (.if_icmp .gt (179)) (179) 200 24 := by decide +kernel
theorem dX12_layWires_24 : dcd cX12_layWires 24 (.iconst 0) 1 25 := by decide +kernel
theorem dX12_layWires_25 : dcd cX12_layWires 25 (.istore_n 3) 1 26 := by decide +kernel
theorem dX12_layWires_26 : dcd cX12_layWires 26 (.iload_n 3) 1 27 := by decide +kernel
theorem dX12_layWires_27 : dcd cX12_layWires 27 (.iload_n 1) 1 28 := by decide +kernel
theorem dX12_layWires_28 : dcd cX12_layWires 28 (.iadd) 1 29 := by decide +kernel
theorem dX12_layWires_29 : dcd cX12_layWires 29 (.aload_n 0) 1 30 := by decide +kernel
theorem dX12_layWires_30 : dcd cX12_layWires 30 (.getfield 20) 3 33 := by decide +kernel
theorem dX12_layWires_33 : dcb cX12_layWires 33 (.if_icmp .gt (161)) (161) 194 36 := by decide +kernel
theorem dX12_layWires_36 : dcd cX12_layWires 36 (.iconst 0) 1 37 := by decide +kernel
theorem dX12_layWires_37 : dcd cX12_layWires 37 (.istore 4) 2 39 := by decide +kernel
theorem dX12_layWires_39 : dcd cX12_layWires 39 (.iload 4) 2 41 := by decide +kernel
theorem dX12_layWires_41 : dcd cX12_layWires 41 (.iload_n 2) 1 42 := by decide +kernel
theorem dX12_layWires_42 : dcd cX12_layWires 42 (.iadd) 1 43 := by decide +kernel
theorem dX12_layWires_43 : dcd cX12_layWires 43 (.aload_n 0) 1 44 := by decide +kernel
theorem dX12_layWires_44 : dcd cX12_layWires 44 (.getfield 23) 3 47 := by decide +kernel
theorem dX12_layWires_47 : dcb cX12_layWires 47 (.if_icmp .gt (141)) (141) 188 50 := by decide +kernel
theorem dX12_layWires_50 : dcd cX12_layWires 50 (.iload_n 3) 1 51 := by decide +kernel
theorem dX12_layWires_51 : dcd cX12_layWires 51 (.iload 4) 2 53 := by decide +kernel
theorem dX12_layWires_53 : dcd cX12_layWires 53 (.iload_n 1) 1 54 := by decide +kernel
theorem dX12_layWires_54 : dcd cX12_layWires 54 (.iload_n 2) 1 55 := by decide +kernel
theorem dX12_layWires_55 : dcd cX12_layWires 55 (.invokestatic 265) 3 58 := by decide +kernel
theorem dX12_layWires_58 : dcd cX12_layWires 58 (.istore 5) 2 60 := by decide +kernel
theorem dX12_layWires_60 : dcd cX12_layWires 60 (.aload_n 0) 1 61 := by decide +kernel
theorem dX12_layWires_61 : dcd cX12_layWires 61 (.getfield 81) 3 64 := by decide +kernel
theorem dX12_layWires_64 : dcd cX12_layWires 64 (.bipush 16) 2 66 := by decide +kernel
theorem dX12_layWires_66 : dcd cX12_layWires 66 (.iload 5) 2 68 := by decide +kernel
theorem dX12_layWires_68 : dcd cX12_layWires 68 (.imul) 1 69 := by decide +kernel
theorem dX12_layWires_69 : dcd cX12_layWires 69 (.iconst 0) 1 70 := by decide +kernel
theorem dX12_layWires_70 : dcd cX12_layWires 70 (.iastore) 1 71 := by decide +kernel
theorem dX12_layWires_71 : dcd cX12_layWires 71 (.iconst 1) 1 72 := by decide +kernel
theorem dX12_layWires_72 : dcd cX12_layWires 72 (.istore 6) 2 74 := by decide +kernel
theorem dX12_layWires_74 : dcd cX12_layWires 74 (.iload 6) 2 76 := by decide +kernel
theorem dX12_layWires_76 : dcd cX12_layWires 76 (.iconst 1) 1 77 := by decide +kernel
theorem dX12_layWires_77 : dcd cX12_layWires 77 (.aload_n 0) 1 78 := by decide +kernel
theorem dX12_layWires_78 : dcd cX12_layWires 78 (.getfield 262) 3 81 := by decide +kernel
theorem dX12_layWires_81 : dcd cX12_layWires 81 (.ishl) 1 82 := by decide +kernel
theorem dX12_layWires_82 : dcb cX12_layWires 82 (.if_icmp .ge (100)) (100) 182 85 := by decide +kernel
theorem dX12_layWires_85 : dcd cX12_layWires 85 (.iload 6) 2 87 := by decide +kernel
theorem dX12_layWires_87 : dcd cX12_layWires 87 (.iconst 1) 1 88 := by decide +kernel
theorem dX12_layWires_88 : dcb cX12_layWires 88 (.if_icmp .ne (7)) (7) 95 91 := by decide +kernel
theorem dX12_layWires_91 : dcd cX12_layWires 91 (.iconst 0) 1 92 := by decide +kernel
theorem dX12_layWires_92 : dcb cX12_layWires 92 (.goto (36)) (36) 128 95 := by decide +kernel
theorem dX12_layWires_95 : dcd cX12_layWires 95 (.iload 6) 2 97 := by decide +kernel
theorem dX12_layWires_97 : dcd cX12_layWires 97 (.iconst 2) 1 98 := by decide +kernel
theorem dX12_layWires_98 : dcb cX12_layWires 98 (.if_icmp .ne (7)) (7) 105 101 := by decide +kernel
theorem dX12_layWires_101 : dcd cX12_layWires 101 (.iconst 1) 1 102 := by decide +kernel
theorem dX12_layWires_102 : dcb cX12_layWires 102 (.goto (26)) (26) 128 105 := by decide +kernel
theorem dX12_layWires_105 : dcd cX12_layWires 105 (.iload 6) 2 107 := by decide +kernel
theorem dX12_layWires_107 : dcd cX12_layWires 107 (.iconst 4) 1 108 := by decide +kernel
theorem dX12_layWires_108 : dcb cX12_layWires 108 (.if_icmp .ne (7)) (7) 115 111 := by decide +kernel
theorem dX12_layWires_111 : dcd cX12_layWires 111 (.iconst 2) 1 112 := by decide +kernel
theorem dX12_layWires_112 : dcb cX12_layWires 112 (.goto (16)) (16) 128 115 := by decide +kernel
theorem dX12_layWires_115 : dcd cX12_layWires 115 (.iload 6) 2 117 := by decide +kernel
theorem dX12_layWires_117 : dcd cX12_layWires 117 (.bipush 8) 2 119 := by decide +kernel
theorem dX12_layWires_119 : dcb cX12_layWires 119 (.if_icmp .ne (7)) (7) 126 122 := by decide +kernel
theorem dX12_layWires_122 : dcd cX12_layWires 122 (.iconst 3) 1 123 := by decide +kernel
theorem dX12_layWires_123 : dcb cX12_layWires 123 (.goto (5)) (5) 128 126 := by decide +kernel
theorem dX12_layWires_126 : dcd cX12_layWires 126 (.bipush (-9)) 2 128 := by decide +kernel
theorem dX12_layWires_128 : dcd cX12_layWires 128 (.istore 7) 2 130 := by decide +kernel
theorem dX12_layWires_130 : dcd cX12_layWires 130 (.aload_n 0) 1 131 := by decide +kernel
theorem dX12_layWires_131 : dcd cX12_layWires 131 (.getfield 81) 3 134 := by decide +kernel
theorem dX12_layWires_134 : dcd cX12_layWires 134 (.bipush 16) 2 136 := by decide +kernel
theorem dX12_layWires_136 : dcd cX12_layWires 136 (.iload 5) 2 138 := by decide +kernel
theorem dX12_layWires_138 : dcd cX12_layWires 138 (.imul) 1 139 := by decide +kernel
theorem dX12_layWires_139 : dcd cX12_layWires 139 (.iload 6) 2 141 := by decide +kernel
theorem dX12_layWires_141 : dcd cX12_layWires 141 (.iadd) 1 142 := by decide +kernel
theorem dX12_layWires_142 : dcd cX12_layWires 142 (.iload 7) 2 144 := by decide +kernel
theorem dX12_layWires_144 : dcd cX12_layWires 144 (.bipush (-9)) 2 146 := by decide +kernel
theorem dX12_layWires_146 : dcb cX12_layWires 146 (.if_icmp .eq (18)) (18) 164 149 := by decide +kernel
theorem dX12_layWires_149 : dcd cX12_layWires 149 (.aload_n 0) 1 150 := by decide +kernel
theorem dX12_layWires_150 : dcd cX12_layWires 150 (.iload 5) 2 152 := by decide +kernel
theorem dX12_layWires_152 : dcd cX12_layWires 152 (.iload 7) 2 154 := by decide +kernel
theorem dX12_layWires_154 : dcd cX12_layWires 154 (.invokevirtual 274) 3 157 := by decide +kernel
theorem dX12_layWires_157 : dcb cX12_layWires 157 (.ifCond .eq (7)) (7) 164 160 := by decide +kernel
theorem dX12_layWires_160 : dcd cX12_layWires 160 (.iconst 0) 1 161 := by decide +kernel
theorem dX12_layWires_161 : dcb cX12_layWires 161 (.goto (14)) (14) 175 164 := by decide +kernel
theorem dX12_layWires_164 : dcd cX12_layWires 164 (.aload_n 0) 1 165 := by decide +kernel
theorem dX12_layWires_165 : dcd cX12_layWires 165 (.iload_n 3) 1 166 := by decide +kernel
theorem dX12_layWires_166 : dcd cX12_layWires 166 (.iload 4) 2 168 := by decide +kernel
theorem dX12_layWires_168 : dcd cX12_layWires 168 (.iload_n 1) 1 169 := by decide +kernel
theorem dX12_layWires_169 : dcd cX12_layWires 169 (.iload_n 2) 1 170 := by decide +kernel
theorem dX12_layWires_170 : dcd cX12_layWires 170 (.iload 6) 2 172 := by decide +kernel
theorem dX12_layWires_172 : dcd cX12_layWires 172 (.invokevirtual 278) 3 175 := by decide +kernel
theorem dX12_layWires_175 : dcd cX12_layWires 175 (.iastore) 1 176 := by decide +kernel
theorem dX12_layWires_176 : dcd cX12_layWires 176 (.iinc 6 1) 3 179 := by decide +kernel
theorem dX12_layWires_179 : dcb cX12_layWires 179 (.goto (-105)) (-105) 74 182 := by decide +kernel
theorem dX12_layWires_182 : dcd cX12_layWires 182 (.iinc 4 1) 3 185 := by decide +kernel
theorem dX12_layWires_185 : dcb cX12_layWires 185 (.goto (-146)) (-146) 39 188 := by decide +kernel
theorem dX12_layWires_188 : dcd cX12_layWires 188 (.iinc 3 1) 3 191 := by decide +kernel
theorem dX12_layWires_191 : dcb cX12_layWires 191 (.goto (-165)) (-165) 26 194 := by decide +kernel
theorem dX12_layWires_194 : dcd cX12_layWires 194 (.iinc 2 1) 3 197 := by decide +kernel
theorem dX12_layWires_197 : dcb cX12_layWires 197 (.goto (-181)) (-181) 16 200 := by decide +kernel
theorem dX12_layWires_200 : dcd cX12_layWires 200 (.iinc 1 1) 3 203 := by decide +kernel
theorem dX12_layWires_203 : dcb cX12_layWires 203 (.goto (-197)) (-197) 6 206 := by decide +kernel
theorem dX12_layWires_206 : decode cX12_layWires 206 = .ok (.return_, 1) := by decide +kernel
theorem dX12_wholeWire_0 : dcd cX12_wholeWire 0 (.aload_n 0) 1 1 := by decide +kernel
theorem dX12_wholeWire_1 : dcd cX12_wholeWire 1 (.invokevirtual 281) 3 4 := by decide +kernel
theorem dX12_wholeWire_4 : dcd cX12_wholeWire 4 (.aload_n 0) 1 5 := by decide +kernel
theorem dX12_wholeWire_5 : dcd cX12_wholeWire 5 (.getfield 81) 3 8 := by decide +kernel
theorem dX12_wholeWire_8 : dcd cX12_wholeWire 8 (.bipush 16) 2 10 := by decide +kernel
theorem dX12_wholeWire_10 : dcd cX12_wholeWire 10 (.iconst 0) 1 11 := by decide +kernel
theorem dX12_wholeWire_11 : dcd cX12_wholeWire 11 (.iconst 0) 1 12 := by decide +kernel
theorem dX12_wholeWire_12 : dcd cX12_wholeWire 12 (.aload_n 0) 1 13 := by decide +kernel
theorem dX12_wholeWire_13 : dcd cX12_wholeWire 13 (.getfield 20) 3 16 := by decide +kernel
theorem dX12_wholeWire_16 : dcd cX12_wholeWire 16 (.aload_n 0) 1 17 := by decide +kernel
theorem dX12_wholeWire_17 : dcd cX12_wholeWire 17 (.getfield 23) 3 20 := by decide +kernel
theorem dX12_wholeWire_20 : dcd cX12_wholeWire 20 (.invokestatic 265) 3 23 := by decide +kernel
theorem dX12_wholeWire_23 : dcd cX12_wholeWire 23 (.imul) 1 24 := by decide +kernel
theorem dX12_wholeWire_24 : dcd cX12_wholeWire 24 (.iconst 1) 1 25 := by decide +kernel
theorem dX12_wholeWire_25 : dcd cX12_wholeWire 25 (.aload_n 0) 1 26 := by decide +kernel
theorem dX12_wholeWire_26 : dcd cX12_wholeWire 26 (.getfield 262) 3 29 := by decide +kernel
theorem dX12_wholeWire_29 : dcd cX12_wholeWire 29 (.ishl) 1 30 := by decide +kernel
theorem dX12_wholeWire_30 : dcd cX12_wholeWire 30 (.iadd) 1 31 := by decide +kernel
theorem dX12_wholeWire_31 : dcd cX12_wholeWire 31 (.iconst 1) 1 32 := by decide +kernel
theorem dX12_wholeWire_32 : dcd cX12_wholeWire 32 (.isub) 1 33 := by decide +kernel
theorem dX12_wholeWire_33 : dcd cX12_wholeWire 33 (.iaload) 1 34 := by decide +kernel
theorem dX12_wholeWire_34 : decode cX12_wholeWire 34 = .ok (.ireturn, 1) := by decide +kernel
theorem dX12_whole_0 : dcd cX12_whole 0 (.aload_n 0) 1 1 := by decide +kernel
theorem dX12_whole_1 : dcd cX12_whole 1 (.iconst 0) 1 2 := by decide +kernel
theorem dX12_whole_2 : dcd cX12_whole 2 (.putfield 1) 3 5 := by decide +kernel
theorem dX12_whole_5 : dcd cX12_whole 5 (.aload_n 0) 1 6 := by decide +kernel
theorem dX12_whole_6 : dcd cX12_whole 6 (.invokevirtual 284) 3 9 := by decide +kernel
theorem dX12_whole_9 : dcd cX12_whole 9 (.istore_n 1) 1 10 := by decide +kernel
theorem dX12_whole_10 : dcd cX12_whole 10 (.iload_n 1) 1 11 := by decide +kernel
theorem dX12_whole_11 : dcd cX12_whole 11 (.ldc 223) 2 13 := by decide +kernel
theorem dX12_whole_13 : dcb cX12_whole 13 (.if_icmp .ge (7)) (7) 20 16 := by decide +kernel
theorem dX12_whole_16 : dcd cX12_whole 16 (.iload_n 1) 1 17 := by decide +kernel
theorem dX12_whole_17 : dcb cX12_whole 17 (.goto (5)) (5) 22 20 := by decide +kernel
theorem dX12_whole_20 : dcd cX12_whole 20 (.bipush (-9)) 2 22 := by decide +kernel
theorem dX12_whole_22 : decode cX12_whole 22 = .ok (.ireturn, 1) := by decide +kernel
theorem dX12_first_0 : dcd cX12_first 0 (.aload_n 0) 1 1 := by decide +kernel
theorem dX12_first_1 : dcd cX12_first 1 (.iconst 0) 1 2 := by decide +kernel
theorem dX12_first_2 : dcd cX12_first 2 (.putfield 1) 3 5 := by decide +kernel
theorem dX12_first_5 : dcd cX12_first 5 (.aload_n 0) 1 6 := by decide +kernel
theorem dX12_first_6 : dcd cX12_first 6 (.invokevirtual 284) 3 9 := by decide +kernel
theorem dX12_first_9 : dcd cX12_first 9 (.istore_n 1) 1 10 := by decide +kernel
theorem dX12_first_10 : dcd cX12_first 10 (.iload_n 1) 1 11 := by decide +kernel
theorem dX12_first_11 : dcb cX12_first 11 (.ifCond .eq (9)) (9) 20 14 := by decide +kernel
theorem dX12_first_14 : dcd cX12_first 14 (.iload_n 1) 1 15 := by decide +kernel
theorem dX12_first_15 : dcd cX12_first 15 (.ldc 223) 2 17 := by decide +kernel
theorem dX12_first_17 : dcb cX12_first 17 (.if_icmp .lt (6)) (6) 23 20 := by decide +kernel
theorem dX12_first_20 : dcd cX12_first 20 (.bipush (-9)) 2 22 := by decide +kernel
theorem dX12_first_22 : decode cX12_first 22 = .ok (.ireturn, 1) := by decide +kernel
theorem dX12_first_23 : dcd cX12_first 23 (.aload_n 0) 1 24 := by decide +kernel
theorem dX12_first_24 : dcd cX12_first 24 (.iconst 0) 1 25 := by decide +kernel
theorem dX12_first_25 : dcd cX12_first 25 (.iconst 0) 1 26 := by decide +kernel
theorem dX12_first_26 : dcd cX12_first 26 (.aload_n 0) 1 27 := by decide +kernel
theorem dX12_first_27 : dcd cX12_first 27 (.getfield 20) 3 30 := by decide +kernel
theorem dX12_first_30 : dcd cX12_first 30 (.aload_n 0) 1 31 := by decide +kernel
theorem dX12_first_31 : dcd cX12_first 31 (.getfield 23) 3 34 := by decide +kernel
theorem dX12_first_34 : dcd cX12_first 34 (.iconst 1) 1 35 := by decide +kernel
theorem dX12_first_35 : dcd cX12_first 35 (.aload_n 0) 1 36 := by decide +kernel
theorem dX12_first_36 : dcd cX12_first 36 (.getfield 262) 3 39 := by decide +kernel
theorem dX12_first_39 : dcd cX12_first 39 (.ishl) 1 40 := by decide +kernel
theorem dX12_first_40 : dcd cX12_first 40 (.iconst 1) 1 41 := by decide +kernel
theorem dX12_first_41 : dcd cX12_first 41 (.isub) 1 42 := by decide +kernel
theorem dX12_first_42 : dcd cX12_first 42 (.invokevirtual 278) 3 45 := by decide +kernel
theorem dX12_first_45 : dcd cX12_first 45 (.pop) 1 46 := by decide +kernel
theorem dX12_first_46 : dcd cX12_first 46 (.aload_n 0) 1 47 := by decide +kernel
theorem dX12_first_47 : dcd cX12_first 47 (.getfield 268) 3 50 := by decide +kernel
theorem dX12_first_50 : decode cX12_first 50 = .ok (.ireturn, 1) := by decide +kernel
theorem dX12_bestOf_0 : dcd cX12_bestOf 0 (.ldc 223) 2 2 := by decide +kernel
theorem dX12_bestOf_2 : dcd cX12_bestOf 2 (.istore 7) 2 4 := by decide +kernel
theorem dX12_bestOf_4 : dcd cX12_bestOf 4 (.iconst 0) 1 5 := by decide +kernel
theorem dX12_bestOf_5 : dcd cX12_bestOf 5 (.istore 8) 2 7 := by decide +kernel
theorem dX12_bestOf_7 : dcd cX12_bestOf 7 (.iload 8) 2 9 := by decide +kernel
theorem dX12_bestOf_9 : dcd cX12_bestOf 9 (.iconst 2) 1 10 := by decide +kernel
theorem dX12_bestOf_10 : dcb cX12_bestOf 10 (.if_icmp .ge (194)) (194) 204 13 := by decide +kernel
theorem dX12_bestOf_13 : dcd cX12_bestOf 13 (.iconst 1) 1 14 := by decide +kernel
theorem dX12_bestOf_14 : dcd cX12_bestOf 14 (.istore 9) 2 16 := by decide +kernel
theorem dX12_bestOf_16 : dcd cX12_bestOf 16 (.iload 9) 2 18 := by decide +kernel
theorem dX12_bestOf_18 : dcd cX12_bestOf 18 (.iload 8) 2 20 := by decide +kernel
theorem dX12_bestOf_20 : dcb cX12_bestOf 20 (.ifCond .ne (7)) (7) 27 23 := by decide +kernel
theorem dX12_bestOf_23 : dcd cX12_bestOf 23 (.iload_n 3) 1 24 := by decide +kernel
theorem dX12_bestOf_24 : dcb cX12_bestOf 24 (.goto (5)) (5) 29 27 := by decide +kernel
theorem dX12_bestOf_27 : dcd cX12_bestOf 27 (.iload 4) 2 29 := by decide +kernel
theorem dX12_bestOf_29 : dcb cX12_bestOf 29 (.if_icmp .ge (169)) (169) 198 32 := by decide +kernel
theorem dX12_bestOf_32 : dcd cX12_bestOf 32 (.iload 8) 2 34 := by decide +kernel
theorem dX12_bestOf_34 : dcb cX12_bestOf 34 (.ifCond .ne (15)) (15) 49 37 := by decide +kernel
theorem dX12_bestOf_37 : dcd cX12_bestOf 37 (.iload_n 1) 1 38 := by decide +kernel
theorem dX12_bestOf_38 : dcd cX12_bestOf 38 (.iload_n 2) 1 39 := by decide +kernel
theorem dX12_bestOf_39 : dcd cX12_bestOf 39 (.iload 9) 2 41 := by decide +kernel
theorem dX12_bestOf_41 : dcd cX12_bestOf 41 (.iload 4) 2 43 := by decide +kernel
theorem dX12_bestOf_43 : dcd cX12_bestOf 43 (.invokestatic 265) 3 46 := by decide +kernel
theorem dX12_bestOf_46 : dcb cX12_bestOf 46 (.goto (11)) (11) 57 49 := by decide +kernel
theorem dX12_bestOf_49 : dcd cX12_bestOf 49 (.iload_n 1) 1 50 := by decide +kernel
theorem dX12_bestOf_50 : dcd cX12_bestOf 50 (.iload_n 2) 1 51 := by decide +kernel
theorem dX12_bestOf_51 : dcd cX12_bestOf 51 (.iload_n 3) 1 52 := by decide +kernel
theorem dX12_bestOf_52 : dcd cX12_bestOf 52 (.iload 9) 2 54 := by decide +kernel
theorem dX12_bestOf_54 : dcd cX12_bestOf 54 (.invokestatic 265) 3 57 := by decide +kernel
theorem dX12_bestOf_57 : dcd cX12_bestOf 57 (.istore 10) 2 59 := by decide +kernel
theorem dX12_bestOf_59 : dcd cX12_bestOf 59 (.iload 8) 2 61 := by decide +kernel
theorem dX12_bestOf_61 : dcb cX12_bestOf 61 (.ifCond .ne (20)) (20) 81 64 := by decide +kernel
theorem dX12_bestOf_64 : dcd cX12_bestOf 64 (.iload_n 1) 1 65 := by decide +kernel
theorem dX12_bestOf_65 : dcd cX12_bestOf 65 (.iload 9) 2 67 := by decide +kernel
theorem dX12_bestOf_67 : dcd cX12_bestOf 67 (.iadd) 1 68 := by decide +kernel
theorem dX12_bestOf_68 : dcd cX12_bestOf 68 (.iload_n 2) 1 69 := by decide +kernel
theorem dX12_bestOf_69 : dcd cX12_bestOf 69 (.iload_n 3) 1 70 := by decide +kernel
theorem dX12_bestOf_70 : dcd cX12_bestOf 70 (.iload 9) 2 72 := by decide +kernel
theorem dX12_bestOf_72 : dcd cX12_bestOf 72 (.isub) 1 73 := by decide +kernel
theorem dX12_bestOf_73 : dcd cX12_bestOf 73 (.iload 4) 2 75 := by decide +kernel
theorem dX12_bestOf_75 : dcd cX12_bestOf 75 (.invokestatic 265) 3 78 := by decide +kernel
theorem dX12_bestOf_78 : dcb cX12_bestOf 78 (.goto (17)) (17) 95 81 := by decide +kernel
theorem dX12_bestOf_81 : dcd cX12_bestOf 81 (.iload_n 1) 1 82 := by decide +kernel
theorem dX12_bestOf_82 : dcd cX12_bestOf 82 (.iload_n 2) 1 83 := by decide +kernel
theorem dX12_bestOf_83 : dcd cX12_bestOf 83 (.iload 9) 2 85 := by decide +kernel
theorem dX12_bestOf_85 : dcd cX12_bestOf 85 (.iadd) 1 86 := by decide +kernel
theorem dX12_bestOf_86 : dcd cX12_bestOf 86 (.iload_n 3) 1 87 := by decide +kernel
theorem dX12_bestOf_87 : dcd cX12_bestOf 87 (.iload 4) 2 89 := by decide +kernel
theorem dX12_bestOf_89 : dcd cX12_bestOf 89 (.iload 9) 2 91 := by decide +kernel
theorem dX12_bestOf_91 : dcd cX12_bestOf 91 (.isub) 1 92 := by decide +kernel
theorem dX12_bestOf_92 : dcd cX12_bestOf 92 (.invokestatic 265) 3 95 := by decide +kernel
theorem dX12_bestOf_95 : dcd cX12_bestOf 95 (.istore 11) 2 97 := by decide +kernel
theorem dX12_bestOf_97 : dcd cX12_bestOf 97 (.iload 5) 2 99 := by decide +kernel
theorem dX12_bestOf_99 : dcb cX12_bestOf 99 (.ifCond .eq (17)) (17) 116 102 := by decide +kernel
theorem dX12_bestOf_102 : dcd cX12_bestOf 102 (.iload 8) 2 104 := by decide +kernel
theorem dX12_bestOf_104 : dcb cX12_bestOf 104 (.ifCond .ne (8)) (8) 112 107 := by decide +kernel
theorem dX12_bestOf_107 : dcd cX12_bestOf 107 (.iload 4) 2 109 := by decide +kernel
theorem dX12_bestOf_109 : dcb cX12_bestOf 109 (.goto (8)) (8) 117 112 := by decide +kernel
theorem dX12_bestOf_112 : dcd cX12_bestOf 112 (.iload_n 3) 1 113 := by decide +kernel
theorem dX12_bestOf_113 : dcb cX12_bestOf 113 (.goto (4)) (4) 117 116 := by decide +kernel
theorem dX12_bestOf_116 : dcd cX12_bestOf 116 (.iconst 1) 1 117 := by decide +kernel
theorem dX12_bestOf_117 : dcd cX12_bestOf 117 (.aload_n 0) 1 118 := by decide +kernel
theorem dX12_bestOf_118 : dcd cX12_bestOf 118 (.getfield 84) 3 121 := by decide +kernel
theorem dX12_bestOf_121 : dcd cX12_bestOf 121 (.iload 10) 2 123 := by decide +kernel
theorem dX12_bestOf_123 : dcd cX12_bestOf 123 (.iaload) 1 124 := by decide +kernel
theorem dX12_bestOf_124 : dcd cX12_bestOf 124 (.iadd) 1 125 := by decide +kernel
theorem dX12_bestOf_125 : dcd cX12_bestOf 125 (.aload_n 0) 1 126 := by decide +kernel
theorem dX12_bestOf_126 : dcd cX12_bestOf 126 (.getfield 84) 3 129 := by decide +kernel
theorem dX12_bestOf_129 : dcd cX12_bestOf 129 (.iload 11) 2 131 := by decide +kernel
theorem dX12_bestOf_131 : dcd cX12_bestOf 131 (.iaload) 1 132 := by decide +kernel
theorem dX12_bestOf_132 : dcd cX12_bestOf 132 (.iadd) 1 133 := by decide +kernel
theorem dX12_bestOf_133 : dcd cX12_bestOf 133 (.istore 12) 2 135 := by decide +kernel
theorem dX12_bestOf_135 : dcd cX12_bestOf 135 (.iload 6) 2 137 := by decide +kernel
theorem dX12_bestOf_137 : dcb cX12_bestOf 137 (.ifCond .eq (27)) (27) 164 140 := by decide +kernel
theorem dX12_bestOf_140 : dcd cX12_bestOf 140 (.aload_n 0) 1 141 := by decide +kernel
theorem dX12_bestOf_141 : dcd cX12_bestOf 141 (.iload_n 1) 1 142 := by decide +kernel
theorem dX12_bestOf_142 : dcd cX12_bestOf 142 (.iload_n 2) 1 143 := by decide +kernel
theorem dX12_bestOf_143 : dcd cX12_bestOf 143 (.iload_n 3) 1 144 := by decide +kernel
theorem dX12_bestOf_144 : dcd cX12_bestOf 144 (.iload 4) 2 146 := by decide +kernel
theorem dX12_bestOf_146 : dcd cX12_bestOf 146 (.iload 8) 2 148 := by decide +kernel
theorem dX12_bestOf_148 : dcb cX12_bestOf 148 (.ifCond .ne (7)) (7) 155 151 := by decide +kernel
theorem dX12_bestOf_151 : dcd cX12_bestOf 151 (.iconst 1) 1 152 := by decide +kernel
theorem dX12_bestOf_152 : dcb cX12_bestOf 152 (.goto (4)) (4) 156 155 := by decide +kernel
theorem dX12_bestOf_155 : dcd cX12_bestOf 155 (.iconst 0) 1 156 := by decide +kernel
theorem dX12_bestOf_156 : dcd cX12_bestOf 156 (.iload 9) 2 158 := by decide +kernel
theorem dX12_bestOf_158 : dcd cX12_bestOf 158 (.invokevirtual 287) 3 161 := by decide +kernel
theorem dX12_bestOf_161 : dcb cX12_bestOf 161 (.ifCond .ne (7)) (7) 168 164 := by decide +kernel
theorem dX12_bestOf_164 : dcd cX12_bestOf 164 (.iconst 1) 1 165 := by decide +kernel
theorem dX12_bestOf_165 : dcb cX12_bestOf 165 (.goto (4)) (4) 169 168 := by decide +kernel
theorem dX12_bestOf_168 : dcd cX12_bestOf 168 (.iconst 0) 1 169 := by decide +kernel
theorem dX12_bestOf_169 : dcd cX12_bestOf 169 (.istore 13) 2 171 := by decide +kernel
theorem dX12_bestOf_171 : dcd cX12_bestOf 171 (.iload 13) 2 173 := by decide +kernel
theorem dX12_bestOf_173 : dcb cX12_bestOf 173 (.ifCond .eq (15)) (15) 188 176 := by decide +kernel
theorem dX12_bestOf_176 : dcd cX12_bestOf 176 (.iload 12) 2 178 := by decide +kernel
theorem dX12_bestOf_178 : dcd cX12_bestOf 178 (.iload 7) 2 180 := by decide +kernel
theorem dX12_bestOf_180 : dcb cX12_bestOf 180 (.if_icmp .ge (8)) (8) 188 183 := by decide +kernel
theorem dX12_bestOf_183 : dcd cX12_bestOf 183 (.iload 12) 2 185 := by decide +kernel
theorem dX12_bestOf_185 : dcb cX12_bestOf 185 (.goto (5)) (5) 190 188 := by decide +kernel
theorem dX12_bestOf_188 : dcd cX12_bestOf 188 (.iload 7) 2 190 := by decide +kernel
theorem dX12_bestOf_190 : dcd cX12_bestOf 190 (.istore 7) 2 192 := by decide +kernel
theorem dX12_bestOf_192 : dcd cX12_bestOf 192 (.iinc 9 1) 3 195 := by decide +kernel
theorem dX12_bestOf_195 : dcb cX12_bestOf 195 (.goto (-179)) (-179) 16 198 := by decide +kernel
theorem dX12_bestOf_198 : dcd cX12_bestOf 198 (.iinc 8 1) 3 201 := by decide +kernel
theorem dX12_bestOf_201 : dcb cX12_bestOf 201 (.goto (-194)) (-194) 7 204 := by decide +kernel
theorem dX12_bestOf_204 : dcd cX12_bestOf 204 (.iload 7) 2 206 := by decide +kernel
theorem dX12_bestOf_206 : decode cX12_bestOf 206 = .ok (.ireturn, 1) := by decide +kernel
theorem dX12_fair_0 : dcd cX12_fair 0 (.aload_n 0) 1 1 := by decide +kernel
theorem dX12_fair_1 : dcd cX12_fair 1 (.iconst 0) 1 2 := by decide +kernel
theorem dX12_fair_2 : dcd cX12_fair 2 (.putfield 1) 3 5 := by decide +kernel
theorem dX12_fair_5 : dcd cX12_fair 5 (.iload_n 1) 1 6 := by decide +kernel
theorem dX12_fair_6 : dcd cX12_fair 6 (.i2l) 1 7 := by decide +kernel
theorem dX12_fair_7 : dcd cX12_fair 7 (.lconst 1) 1 8 := by decide +kernel
theorem dX12_fair_8 : dcd cX12_fair 8 (.ldc2_w 202) 3 11 := by decide +kernel
theorem dX12_fair_11 : dcd cX12_fair 11 (.invokestatic 113) 3 14 := by decide +kernel
theorem dX12_fair_14 : dcb cX12_fair 14 (.ifCond .ne (6)) (6) 20 17 := by decide +kernel
theorem dX12_fair_17 : dcd cX12_fair 17 (.bipush (-2)) 2 19 := by decide +kernel
theorem dX12_fair_19 : decode cX12_fair 19 = .ok (.ireturn, 1) := by decide +kernel
theorem dX12_fair_20 : dcd cX12_fair 20 (.aload_n 0) 1 21 := by decide +kernel
theorem dX12_fair_21 : dcd cX12_fair 21 (.invokevirtual 271) 3 24 := by decide +kernel
theorem dX12_fair_24 : dcd cX12_fair 24 (.iconst 0) 1 25 := by decide +kernel
theorem dX12_fair_25 : dcd cX12_fair 25 (.iconst 0) 1 26 := by decide +kernel
theorem dX12_fair_26 : dcd cX12_fair 26 (.aload_n 0) 1 27 := by decide +kernel
theorem dX12_fair_27 : dcd cX12_fair 27 (.getfield 20) 3 30 := by decide +kernel
theorem dX12_fair_30 : dcd cX12_fair 30 (.aload_n 0) 1 31 := by decide +kernel
theorem dX12_fair_31 : dcd cX12_fair 31 (.getfield 23) 3 34 := by decide +kernel
theorem dX12_fair_34 : dcd cX12_fair 34 (.invokestatic 265) 3 37 := by decide +kernel
theorem dX12_fair_37 : dcd cX12_fair 37 (.istore_n 2) 1 38 := by decide +kernel
theorem dX12_fair_38 : dcd cX12_fair 38 (.aload_n 0) 1 39 := by decide +kernel
theorem dX12_fair_39 : dcd cX12_fair 39 (.getfield 75) 3 42 := by decide +kernel
theorem dX12_fair_42 : dcd cX12_fair 42 (.iload_n 2) 1 43 := by decide +kernel
theorem dX12_fair_43 : dcd cX12_fair 43 (.iaload) 1 44 := by decide +kernel
theorem dX12_fair_44 : dcd cX12_fair 44 (.istore_n 3) 1 45 := by decide +kernel
theorem dX12_fair_45 : dcd cX12_fair 45 (.aload_n 0) 1 46 := by decide +kernel
theorem dX12_fair_46 : dcd cX12_fair 46 (.getfield 78) 3 49 := by decide +kernel
theorem dX12_fair_49 : dcd cX12_fair 49 (.iload_n 2) 1 50 := by decide +kernel
theorem dX12_fair_50 : dcd cX12_fair 50 (.iaload) 1 51 := by decide +kernel
theorem dX12_fair_51 : dcd cX12_fair 51 (.istore 4) 2 53 := by decide +kernel
theorem dX12_fair_53 : dcd cX12_fair 53 (.iload_n 3) 1 54 := by decide +kernel
theorem dX12_fair_54 : dcb cX12_fair 54 (.ifCond .eq (16)) (16) 70 57 := by decide +kernel
theorem dX12_fair_57 : dcd cX12_fair 57 (.iload_n 3) 1 58 := by decide +kernel
theorem dX12_fair_58 : dcd cX12_fair 58 (.iload_n 1) 1 59 := by decide +kernel
theorem dX12_fair_59 : dcd cX12_fair 59 (.irem) 1 60 := by decide +kernel
theorem dX12_fair_60 : dcb cX12_fair 60 (.ifCond .gt (10)) (10) 70 63 := by decide +kernel
theorem dX12_fair_63 : dcd cX12_fair 63 (.iload 4) 2 65 := by decide +kernel
theorem dX12_fair_65 : dcd cX12_fair 65 (.iload_n 1) 1 66 := by decide +kernel
theorem dX12_fair_66 : dcd cX12_fair 66 (.irem) 1 67 := by decide +kernel
theorem dX12_fair_67 : dcb cX12_fair 67 (.ifCond .le (6)) (6) 73 70 := by decide +kernel
theorem dX12_fair_70 : dcd cX12_fair 70 (.bipush (-9)) 2 72 := by decide +kernel
theorem dX12_fair_72 : decode cX12_fair 72 = .ok (.ireturn, 1) := by decide +kernel
theorem dX12_fair_73 : dcd cX12_fair 73 (.iconst 1) 1 74 := by decide +kernel
theorem dX12_fair_74 : dcd cX12_fair 74 (.istore 5) 2 76 := by decide +kernel
theorem dX12_fair_76 : dcd cX12_fair 76 (.iload 5) 2 78 := by decide +kernel
theorem dX12_fair_78 : dcd cX12_fair 78 (.aload_n 0) 1 79 := by decide +kernel
theorem dX12_fair_79 : dcd cX12_fair 79 (.getfield 20) 3 82 := by decide +kernel
theorem dX12_fair_82 : dcb cX12_fair 82 (.if_icmp .gt (146)) (146) 228 85 := by decide +kernel
theorem dX12_fair_85 : dcd cX12_fair 85 (.iconst 1) 1 86 := by decide +kernel
theorem dX12_fair_86 : dcd cX12_fair 86 (.istore 6) 2 88 := by decide +kernel
theorem dX12_fair_88 : dcd cX12_fair 88 (.iload 6) 2 90 := by decide +kernel
theorem dX12_fair_90 : dcd cX12_fair 90 (.aload_n 0) 1 91 := by decide +kernel
theorem dX12_fair_91 : dcd cX12_fair 91 (.getfield 23) 3 94 := by decide +kernel
theorem dX12_fair_94 : dcb cX12_fair 94 (.if_icmp .gt (128)) (128) 222 97 := by decide +kernel
theorem dX12_fair_97 : dcd cX12_fair 97 (.iconst 0) 1 98 := by decide +kernel
theorem dX12_fair_98 : dcd cX12_fair 98 (.istore 7) 2 100 := by decide +kernel
theorem dX12_fair_100 : dcd cX12_fair 100 (.iload 7) 2 102 := by decide +kernel
theorem dX12_fair_102 : dcd cX12_fair 102 (.iload 5) 2 104 := by decide +kernel
theorem dX12_fair_104 : dcd cX12_fair 104 (.iadd) 1 105 := by decide +kernel
theorem dX12_fair_105 : dcd cX12_fair 105 (.aload_n 0) 1 106 := by decide +kernel
theorem dX12_fair_106 : dcd cX12_fair 106 (.getfield 20) 3 109 := by decide +kernel
theorem dX12_fair_109 : dcb cX12_fair 109 (.if_icmp .gt (107)) (107) 216 112 := by decide +kernel
theorem dX12_fair_112 : dcd cX12_fair 112 (.iconst 0) 1 113 := by decide +kernel
theorem dX12_fair_113 : dcd cX12_fair 113 (.istore 8) 2 115 := by decide +kernel
theorem dX12_fair_115 : dcd cX12_fair 115 (.iload 8) 2 117 := by decide +kernel
theorem dX12_fair_117 : dcd cX12_fair 117 (.iload 6) 2 119 := by decide +kernel
theorem dX12_fair_119 : dcd cX12_fair 119 (.iadd) 1 120 := by decide +kernel
theorem dX12_fair_120 : dcd cX12_fair 120 (.aload_n 0) 1 121 := by decide +kernel
theorem dX12_fair_121 : dcd cX12_fair 121 (.getfield 23) 3 124 := by decide +kernel
theorem dX12_fair_124 : dcb cX12_fair 124 (.if_icmp .gt (86)) (86) 210 127 := by decide +kernel
theorem dX12_fair_127 : dcd cX12_fair 127 (.iload 7) 2 129 := by decide +kernel
theorem dX12_fair_129 : dcd cX12_fair 129 (.iload 8) 2 131 := by decide +kernel
theorem dX12_fair_131 : dcd cX12_fair 131 (.iload 5) 2 133 := by decide +kernel
theorem dX12_fair_133 : dcd cX12_fair 133 (.iload 6) 2 135 := by decide +kernel
theorem dX12_fair_135 : dcd cX12_fair 135 (.invokestatic 265) 3 138 := by decide +kernel
theorem dX12_fair_138 : dcd cX12_fair 138 (.istore 9) 2 140 := by decide +kernel
theorem dX12_fair_140 : dcd cX12_fair 140 (.aload_n 0) 1 141 := by decide +kernel
theorem dX12_fair_141 : dcd cX12_fair 141 (.getfield 75) 3 144 := by decide +kernel
theorem dX12_fair_144 : dcd cX12_fair 144 (.iload 9) 2 146 := by decide +kernel
theorem dX12_fair_146 : dcd cX12_fair 146 (.iaload) 1 147 := by decide +kernel
theorem dX12_fair_147 : dcd cX12_fair 147 (.iload_n 3) 1 148 := by decide +kernel
theorem dX12_fair_148 : dcd cX12_fair 148 (.iload_n 1) 1 149 := by decide +kernel
theorem dX12_fair_149 : dcd cX12_fair 149 (.idiv) 1 150 := by decide +kernel
theorem dX12_fair_150 : dcb cX12_fair 150 (.if_icmp .ne (21)) (21) 171 153 := by decide +kernel
theorem dX12_fair_153 : dcd cX12_fair 153 (.aload_n 0) 1 154 := by decide +kernel
theorem dX12_fair_154 : dcd cX12_fair 154 (.getfield 78) 3 157 := by decide +kernel
theorem dX12_fair_157 : dcd cX12_fair 157 (.iload 9) 2 159 := by decide +kernel
theorem dX12_fair_159 : dcd cX12_fair 159 (.iaload) 1 160 := by decide +kernel
theorem dX12_fair_160 : dcd cX12_fair 160 (.iload 4) 2 162 := by decide +kernel
theorem dX12_fair_162 : dcd cX12_fair 162 (.iload_n 1) 1 163 := by decide +kernel
theorem dX12_fair_163 : dcd cX12_fair 163 (.idiv) 1 164 := by decide +kernel
theorem dX12_fair_164 : dcb cX12_fair 164 (.if_icmp .ne (7)) (7) 171 167 := by decide +kernel
theorem dX12_fair_167 : dcd cX12_fair 167 (.iconst 1) 1 168 := by decide +kernel
theorem dX12_fair_168 : dcb cX12_fair 168 (.goto (4)) (4) 172 171 := by decide +kernel
theorem dX12_fair_171 : dcd cX12_fair 171 (.iconst 0) 1 172 := by decide +kernel
theorem dX12_fair_172 : dcd cX12_fair 172 (.istore 10) 2 174 := by decide +kernel
theorem dX12_fair_174 : dcd cX12_fair 174 (.aload_n 0) 1 175 := by decide +kernel
theorem dX12_fair_175 : dcd cX12_fair 175 (.getfield 84) 3 178 := by decide +kernel
theorem dX12_fair_178 : dcd cX12_fair 178 (.iload 9) 2 180 := by decide +kernel
theorem dX12_fair_180 : dcd cX12_fair 180 (.iload 10) 2 182 := by decide +kernel
theorem dX12_fair_182 : dcb cX12_fair 182 (.ifCond .eq (7)) (7) 189 185 := by decide +kernel
theorem dX12_fair_185 : dcd cX12_fair 185 (.iconst 0) 1 186 := by decide +kernel
theorem dX12_fair_186 : dcb cX12_fair 186 (.goto (17)) (17) 203 189 := by decide +kernel
theorem dX12_fair_189 : dcd cX12_fair 189 (.aload_n 0) 1 190 := by decide +kernel
theorem dX12_fair_190 : dcd cX12_fair 190 (.iload 7) 2 192 := by decide +kernel
theorem dX12_fair_192 : dcd cX12_fair 192 (.iload 8) 2 194 := by decide +kernel
theorem dX12_fair_194 : dcd cX12_fair 194 (.iload 5) 2 196 := by decide +kernel
theorem dX12_fair_196 : dcd cX12_fair 196 (.iload 6) 2 198 := by decide +kernel
theorem dX12_fair_198 : dcd cX12_fair 198 (.iconst 1) 1 199 := by decide +kernel
theorem dX12_fair_199 : dcd cX12_fair 199 (.iconst 0) 1 200 := by decide +kernel
theorem dX12_fair_200 : dcd cX12_fair 200 (.invokevirtual 291) 3 203 := by decide +kernel
theorem dX12_fair_203 : dcd cX12_fair 203 (.iastore) 1 204 := by decide +kernel
theorem dX12_fair_204 : dcd cX12_fair 204 (.iinc 8 1) 3 207 := by decide +kernel
theorem dX12_fair_207 : dcb cX12_fair 207 (.goto (-92)) (-92) 115 210 := by decide +kernel
theorem dX12_fair_210 : dcd cX12_fair 210 (.iinc 7 1) 3 213 := by decide +kernel
theorem dX12_fair_213 : dcb cX12_fair 213 (.goto (-113)) (-113) 100 216 := by decide +kernel
theorem dX12_fair_216 : dcd cX12_fair 216 (.iinc 6 1) 3 219 := by decide +kernel
theorem dX12_fair_219 : dcb cX12_fair 219 (.goto (-131)) (-131) 88 222 := by decide +kernel
theorem dX12_fair_222 : dcd cX12_fair 222 (.iinc 5 1) 3 225 := by decide +kernel
theorem dX12_fair_225 : dcb cX12_fair 225 (.goto (-149)) (-149) 76 228 := by decide +kernel
theorem dX12_fair_228 : dcd cX12_fair 228 (.aload_n 0) 1 229 := by decide +kernel
theorem dX12_fair_229 : dcd cX12_fair 229 (.getfield 84) 3 232 := by decide +kernel
theorem dX12_fair_232 : dcd cX12_fair 232 (.iload_n 2) 1 233 := by decide +kernel
theorem dX12_fair_233 : dcd cX12_fair 233 (.iaload) 1 234 := by decide +kernel
theorem dX12_fair_234 : dcd cX12_fair 234 (.ldc 223) 2 236 := by decide +kernel
theorem dX12_fair_236 : dcb cX12_fair 236 (.if_icmp .ge (12)) (12) 248 239 := by decide +kernel
theorem dX12_fair_239 : dcd cX12_fair 239 (.aload_n 0) 1 240 := by decide +kernel
theorem dX12_fair_240 : dcd cX12_fair 240 (.getfield 84) 3 243 := by decide +kernel
theorem dX12_fair_243 : dcd cX12_fair 243 (.iload_n 2) 1 244 := by decide +kernel
theorem dX12_fair_244 : dcd cX12_fair 244 (.iaload) 1 245 := by decide +kernel
theorem dX12_fair_245 : dcb cX12_fair 245 (.goto (5)) (5) 250 248 := by decide +kernel
theorem dX12_fair_248 : dcd cX12_fair 248 (.bipush (-9)) 2 250 := by decide +kernel
theorem dX12_fair_250 : decode cX12_fair 250 = .ok (.ireturn, 1) := by decide +kernel
theorem dX12_noBlock_0 : dcd cX12_noBlock 0 (.iload_n 1) 1 1 := by decide +kernel
theorem dX12_noBlock_1 : dcd cX12_noBlock 1 (.sipush 1000) 3 4 := by decide +kernel
theorem dX12_noBlock_4 : dcd cX12_noBlock 4 (.idiv) 1 5 := by decide +kernel
theorem dX12_noBlock_5 : dcd cX12_noBlock 5 (.istore_n 2) 1 6 := by decide +kernel
theorem dX12_noBlock_6 : dcd cX12_noBlock 6 (.iload_n 1) 1 7 := by decide +kernel
theorem dX12_noBlock_7 : dcd cX12_noBlock 7 (.bipush 100) 2 9 := by decide +kernel
theorem dX12_noBlock_9 : dcd cX12_noBlock 9 (.idiv) 1 10 := by decide +kernel
theorem dX12_noBlock_10 : dcd cX12_noBlock 10 (.bipush 10) 2 12 := by decide +kernel
theorem dX12_noBlock_12 : dcd cX12_noBlock 12 (.irem) 1 13 := by decide +kernel
theorem dX12_noBlock_13 : dcd cX12_noBlock 13 (.istore_n 3) 1 14 := by decide +kernel
theorem dX12_noBlock_14 : dcd cX12_noBlock 14 (.iload_n 1) 1 15 := by decide +kernel
theorem dX12_noBlock_15 : dcd cX12_noBlock 15 (.bipush 10) 2 17 := by decide +kernel
theorem dX12_noBlock_17 : dcd cX12_noBlock 17 (.idiv) 1 18 := by decide +kernel
theorem dX12_noBlock_18 : dcd cX12_noBlock 18 (.bipush 10) 2 20 := by decide +kernel
theorem dX12_noBlock_20 : dcd cX12_noBlock 20 (.irem) 1 21 := by decide +kernel
theorem dX12_noBlock_21 : dcd cX12_noBlock 21 (.istore 4) 2 23 := by decide +kernel
theorem dX12_noBlock_23 : dcd cX12_noBlock 23 (.iload_n 1) 1 24 := by decide +kernel
theorem dX12_noBlock_24 : dcd cX12_noBlock 24 (.bipush 10) 2 26 := by decide +kernel
theorem dX12_noBlock_26 : dcd cX12_noBlock 26 (.irem) 1 27 := by decide +kernel
theorem dX12_noBlock_27 : dcd cX12_noBlock 27 (.istore 5) 2 29 := by decide +kernel
theorem dX12_noBlock_29 : dcd cX12_noBlock 29 (.iload_n 1) 1 30 := by decide +kernel
theorem dX12_noBlock_30 : dcb cX12_noBlock 30 (.ifCond .lt (37)) (37) 67 33 := by decide +kernel
theorem dX12_noBlock_33 : dcd cX12_noBlock 33 (.iload 4) 2 35 := by decide +kernel
theorem dX12_noBlock_35 : dcd cX12_noBlock 35 (.iconst 1) 1 36 := by decide +kernel
theorem dX12_noBlock_36 : dcb cX12_noBlock 36 (.if_icmp .lt (31)) (31) 67 39 := by decide +kernel
theorem dX12_noBlock_39 : dcd cX12_noBlock 39 (.iload 5) 2 41 := by decide +kernel
theorem dX12_noBlock_41 : dcd cX12_noBlock 41 (.iconst 1) 1 42 := by decide +kernel
theorem dX12_noBlock_42 : dcb cX12_noBlock 42 (.if_icmp .lt (25)) (25) 67 45 := by decide +kernel
theorem dX12_noBlock_45 : dcd cX12_noBlock 45 (.iload_n 2) 1 46 := by decide +kernel
theorem dX12_noBlock_46 : dcd cX12_noBlock 46 (.iload 4) 2 48 := by decide +kernel
theorem dX12_noBlock_48 : dcd cX12_noBlock 48 (.iadd) 1 49 := by decide +kernel
theorem dX12_noBlock_49 : dcd cX12_noBlock 49 (.aload_n 0) 1 50 := by decide +kernel
theorem dX12_noBlock_50 : dcd cX12_noBlock 50 (.getfield 20) 3 53 := by decide +kernel
theorem dX12_noBlock_53 : dcb cX12_noBlock 53 (.if_icmp .gt (14)) (14) 67 56 := by decide +kernel
theorem dX12_noBlock_56 : dcd cX12_noBlock 56 (.iload_n 3) 1 57 := by decide +kernel
theorem dX12_noBlock_57 : dcd cX12_noBlock 57 (.iload 5) 2 59 := by decide +kernel
theorem dX12_noBlock_59 : dcd cX12_noBlock 59 (.iadd) 1 60 := by decide +kernel
theorem dX12_noBlock_60 : dcd cX12_noBlock 60 (.aload_n 0) 1 61 := by decide +kernel
theorem dX12_noBlock_61 : dcd cX12_noBlock 61 (.getfield 23) 3 64 := by decide +kernel
theorem dX12_noBlock_64 : dcb cX12_noBlock 64 (.if_icmp .le (7)) (7) 71 67 := by decide +kernel
theorem dX12_noBlock_67 : dcd cX12_noBlock 67 (.iconst 1) 1 68 := by decide +kernel
theorem dX12_noBlock_68 : dcb cX12_noBlock 68 (.goto (4)) (4) 72 71 := by decide +kernel
theorem dX12_noBlock_71 : dcd cX12_noBlock 71 (.iconst 0) 1 72 := by decide +kernel
theorem dX12_noBlock_72 : decode cX12_noBlock 72 = .ok (.ireturn, 1) := by decide +kernel
theorem dX12_meets_0 : dcd cX12_meets 0 (.iload_n 0) 1 1 := by decide +kernel
theorem dX12_meets_1 : dcd cX12_meets 1 (.sipush 1000) 3 4 := by decide +kernel
theorem dX12_meets_4 : dcd cX12_meets 4 (.idiv) 1 5 := by decide +kernel
theorem dX12_meets_5 : dcd cX12_meets 5 (.iload_n 0) 1 6 := by decide +kernel
theorem dX12_meets_6 : dcd cX12_meets 6 (.bipush 10) 2 8 := by decide +kernel
theorem dX12_meets_8 : dcd cX12_meets 8 (.idiv) 1 9 := by decide +kernel
theorem dX12_meets_9 : dcd cX12_meets 9 (.bipush 10) 2 11 := by decide +kernel
theorem dX12_meets_11 : dcd cX12_meets 11 (.irem) 1 12 := by decide +kernel
theorem dX12_meets_12 : dcd cX12_meets 12 (.iadd) 1 13 := by decide +kernel
theorem dX12_meets_13 : dcd cX12_meets 13 (.iload_n 1) 1 14 := by decide +kernel
theorem dX12_meets_14 : dcd cX12_meets 14 (.sipush 1000) 3 17 := by decide +kernel
theorem dX12_meets_17 : dcd cX12_meets 17 (.idiv) 1 18 := by decide +kernel
theorem dX12_meets_18 : dcb cX12_meets 18 (.if_icmp .le (24)) (24) 42 21 := by decide +kernel
theorem dX12_meets_21 : dcd cX12_meets 21 (.iload_n 1) 1 22 := by decide +kernel
theorem dX12_meets_22 : dcd cX12_meets 22 (.sipush 1000) 3 25 := by decide +kernel
theorem dX12_meets_25 : dcd cX12_meets 25 (.idiv) 1 26 := by decide +kernel
theorem dX12_meets_26 : dcd cX12_meets 26 (.iload_n 1) 1 27 := by decide +kernel
theorem dX12_meets_27 : dcd cX12_meets 27 (.bipush 10) 2 29 := by decide +kernel
theorem dX12_meets_29 : dcd cX12_meets 29 (.idiv) 1 30 := by decide +kernel
theorem dX12_meets_30 : dcd cX12_meets 30 (.bipush 10) 2 32 := by decide +kernel
theorem dX12_meets_32 : dcd cX12_meets 32 (.irem) 1 33 := by decide +kernel
theorem dX12_meets_33 : dcd cX12_meets 33 (.iadd) 1 34 := by decide +kernel
theorem dX12_meets_34 : dcd cX12_meets 34 (.iload_n 0) 1 35 := by decide +kernel
theorem dX12_meets_35 : dcd cX12_meets 35 (.sipush 1000) 3 38 := by decide +kernel
theorem dX12_meets_38 : dcd cX12_meets 38 (.idiv) 1 39 := by decide +kernel
theorem dX12_meets_39 : dcb cX12_meets 39 (.if_icmp .gt (7)) (7) 46 42 := by decide +kernel
theorem dX12_meets_42 : dcd cX12_meets 42 (.iconst 1) 1 43 := by decide +kernel
theorem dX12_meets_43 : dcb cX12_meets 43 (.goto (4)) (4) 47 46 := by decide +kernel
theorem dX12_meets_46 : dcd cX12_meets 46 (.iconst 0) 1 47 := by decide +kernel
theorem dX12_meets_47 : dcd cX12_meets 47 (.istore_n 2) 1 48 := by decide +kernel
theorem dX12_meets_48 : dcd cX12_meets 48 (.iload_n 2) 1 49 := by decide +kernel
theorem dX12_meets_49 : dcb cX12_meets 49 (.ifCond .ne (51)) (51) 100 52 := by decide +kernel
theorem dX12_meets_52 : dcd cX12_meets 52 (.iload_n 0) 1 53 := by decide +kernel
theorem dX12_meets_53 : dcd cX12_meets 53 (.bipush 100) 2 55 := by decide +kernel
theorem dX12_meets_55 : dcd cX12_meets 55 (.idiv) 1 56 := by decide +kernel
theorem dX12_meets_56 : dcd cX12_meets 56 (.bipush 10) 2 58 := by decide +kernel
theorem dX12_meets_58 : dcd cX12_meets 58 (.irem) 1 59 := by decide +kernel
theorem dX12_meets_59 : dcd cX12_meets 59 (.iload_n 0) 1 60 := by decide +kernel
theorem dX12_meets_60 : dcd cX12_meets 60 (.bipush 10) 2 62 := by decide +kernel
theorem dX12_meets_62 : dcd cX12_meets 62 (.irem) 1 63 := by decide +kernel
theorem dX12_meets_63 : dcd cX12_meets 63 (.iadd) 1 64 := by decide +kernel
theorem dX12_meets_64 : dcd cX12_meets 64 (.iload_n 1) 1 65 := by decide +kernel
theorem dX12_meets_65 : dcd cX12_meets 65 (.bipush 100) 2 67 := by decide +kernel
theorem dX12_meets_67 : dcd cX12_meets 67 (.idiv) 1 68 := by decide +kernel
theorem dX12_meets_68 : dcd cX12_meets 68 (.bipush 10) 2 70 := by decide +kernel
theorem dX12_meets_70 : dcd cX12_meets 70 (.irem) 1 71 := by decide +kernel
theorem dX12_meets_71 : dcb cX12_meets 71 (.if_icmp .le (29)) (29) 100 74 := by decide +kernel
theorem dX12_meets_74 : dcd cX12_meets 74 (.iload_n 1) 1 75 := by decide +kernel
theorem dX12_meets_75 : dcd cX12_meets 75 (.bipush 100) 2 77 := by decide +kernel
theorem dX12_meets_77 : dcd cX12_meets 77 (.idiv) 1 78 := by decide +kernel
theorem dX12_meets_78 : dcd cX12_meets 78 (.bipush 10) 2 80 := by decide +kernel
theorem dX12_meets_80 : dcd cX12_meets 80 (.irem) 1 81 := by decide +kernel
theorem dX12_meets_81 : dcd cX12_meets 81 (.iload_n 1) 1 82 := by decide +kernel
theorem dX12_meets_82 : dcd cX12_meets 82 (.bipush 10) 2 84 := by decide +kernel
theorem dX12_meets_84 : dcd cX12_meets 84 (.irem) 1 85 := by decide +kernel
theorem dX12_meets_85 : dcd cX12_meets 85 (.iadd) 1 86 := by decide +kernel
theorem dX12_meets_86 : dcd cX12_meets 86 (.iload_n 0) 1 87 := by decide +kernel
theorem dX12_meets_87 : dcd cX12_meets 87 (.bipush 100) 2 89 := by decide +kernel
theorem dX12_meets_89 : dcd cX12_meets 89 (.idiv) 1 90 := by decide +kernel
theorem dX12_meets_90 : dcd cX12_meets 90 (.bipush 10) 2 92 := by decide +kernel
theorem dX12_meets_92 : dcd cX12_meets 92 (.irem) 1 93 := by decide +kernel
theorem dX12_meets_93 : dcb cX12_meets 93 (.if_icmp .le (7)) (7) 100 96 := by decide +kernel
theorem dX12_meets_96 : dcd cX12_meets 96 (.iconst 1) 1 97 := by decide +kernel
theorem dX12_meets_97 : dcb cX12_meets 97 (.goto (4)) (4) 101 100 := by decide +kernel
theorem dX12_meets_100 : dcd cX12_meets 100 (.iconst 0) 1 101 := by decide +kernel
theorem dX12_meets_101 : decode cX12_meets 101 = .ok (.ireturn, 1) := by decide +kernel
theorem dX12_left_0 : dcd cX12_left 0 (.aload_n 0) 1 1 := by decide +kernel
theorem dX12_left_1 : dcd cX12_left 1 (.iconst 0) 1 2 := by decide +kernel
theorem dX12_left_2 : dcd cX12_left 2 (.putfield 1) 3 5 := by decide +kernel
theorem dX12_left_5 : dcd cX12_left 5 (.aload_n 0) 1 6 := by decide +kernel
theorem dX12_left_6 : dcd cX12_left 6 (.iload_n 1) 1 7 := by decide +kernel
theorem dX12_left_7 : dcd cX12_left 7 (.invokevirtual 295) 3 10 := by decide +kernel
theorem dX12_left_10 : dcb cX12_left 10 (.ifCond .eq (5)) (5) 15 13 := by decide +kernel
theorem dX12_left_13 : dcd cX12_left 13 (.iconst (-1)) 1 14 := by decide +kernel
theorem dX12_left_14 : decode cX12_left 14 = .ok (.ireturn, 1) := by decide +kernel
theorem dX12_left_15 : dcd cX12_left 15 (.iconst 0) 1 16 := by decide +kernel
theorem dX12_left_16 : dcd cX12_left 16 (.istore_n 2) 1 17 := by decide +kernel
theorem dX12_left_17 : dcd cX12_left 17 (.iload_n 2) 1 18 := by decide +kernel
theorem dX12_left_18 : dcd cX12_left 18 (.aload_n 0) 1 19 := by decide +kernel
theorem dX12_left_19 : dcd cX12_left 19 (.getfield 137) 3 22 := by decide +kernel
theorem dX12_left_22 : dcb cX12_left 22 (.if_icmp .ge (25)) (25) 47 25 := by decide +kernel
theorem dX12_left_25 : dcd cX12_left 25 (.iload_n 1) 1 26 := by decide +kernel
theorem dX12_left_26 : dcd cX12_left 26 (.aload_n 0) 1 27 := by decide +kernel
theorem dX12_left_27 : dcd cX12_left 27 (.getfield 87) 3 30 := by decide +kernel
theorem dX12_left_30 : dcd cX12_left 30 (.iload_n 2) 1 31 := by decide +kernel
theorem dX12_left_31 : dcd cX12_left 31 (.iaload) 1 32 := by decide +kernel
theorem dX12_left_32 : dcd cX12_left 32 (.invokestatic 298) 3 35 := by decide +kernel
theorem dX12_left_35 : dcb cX12_left 35 (.ifCond .eq (6)) (6) 41 38 := by decide +kernel
theorem dX12_left_38 : dcd cX12_left 38 (.bipush (-3)) 2 40 := by decide +kernel
theorem dX12_left_40 : decode cX12_left 40 = .ok (.ireturn, 1) := by decide +kernel
theorem dX12_left_41 : dcd cX12_left 41 (.iinc 2 1) 3 44 := by decide +kernel
theorem dX12_left_44 : dcb cX12_left 44 (.goto (-27)) (-27) 17 47 := by decide +kernel
theorem dX12_left_47 : dcd cX12_left 47 (.aload_n 0) 1 48 := by decide +kernel
theorem dX12_left_48 : dcd cX12_left 48 (.getfield 137) 3 51 := by decide +kernel
theorem dX12_left_51 : dcd cX12_left 51 (.bipush 6) 2 53 := by decide +kernel
theorem dX12_left_53 : dcb cX12_left 53 (.if_icmp .ne (6)) (6) 59 56 := by decide +kernel
theorem dX12_left_56 : dcd cX12_left 56 (.bipush (-4)) 2 58 := by decide +kernel
theorem dX12_left_58 : decode cX12_left 58 = .ok (.ireturn, 1) := by decide +kernel
theorem dX12_left_59 : dcd cX12_left 59 (.aload_n 0) 1 60 := by decide +kernel
theorem dX12_left_60 : dcd cX12_left 60 (.getfield 87) 3 63 := by decide +kernel
theorem dX12_left_63 : dcd cX12_left 63 (.aload_n 0) 1 64 := by decide +kernel
theorem dX12_left_64 : dcd cX12_left 64 (.getfield 137) 3 67 := by decide +kernel
theorem dX12_left_67 : dcd cX12_left 67 (.iload_n 1) 1 68 := by decide +kernel
theorem dX12_left_68 : dcd cX12_left 68 (.iastore) 1 69 := by decide +kernel
theorem dX12_left_69 : dcd cX12_left 69 (.aload_n 0) 1 70 := by decide +kernel
theorem dX12_left_70 : dcd cX12_left 70 (.dup) 1 71 := by decide +kernel
theorem dX12_left_71 : dcd cX12_left 71 (.getfield 137) 3 74 := by decide +kernel
theorem dX12_left_74 : dcd cX12_left 74 (.iconst 1) 1 75 := by decide +kernel
theorem dX12_left_75 : dcd cX12_left 75 (.iadd) 1 76 := by decide +kernel
theorem dX12_left_76 : dcd cX12_left 76 (.putfield 137) 3 79 := by decide +kernel
theorem dX12_left_79 : dcd cX12_left 79 (.aload_n 0) 1 80 := by decide +kernel
theorem dX12_left_80 : dcd cX12_left 80 (.getfield 137) 3 83 := by decide +kernel
theorem dX12_left_83 : decode cX12_left 83 = .ok (.ireturn, 1) := by decide +kernel
theorem dX12_goesThrough_0 : dcd cX12_goesThrough 0 (.sipush 1000) 3 3 := by decide +kernel
theorem dX12_goesThrough_3 : dcd cX12_goesThrough 3 (.iload_n 1) 1 4 := by decide +kernel
theorem dX12_goesThrough_4 : dcd cX12_goesThrough 4 (.imul) 1 5 := by decide +kernel
theorem dX12_goesThrough_5 : dcd cX12_goesThrough 5 (.bipush 100) 2 7 := by decide +kernel
theorem dX12_goesThrough_7 : dcd cX12_goesThrough 7 (.iload_n 2) 1 8 := by decide +kernel
theorem dX12_goesThrough_8 : dcd cX12_goesThrough 8 (.imul) 1 9 := by decide +kernel
theorem dX12_goesThrough_9 : dcd cX12_goesThrough 9 (.iadd) 1 10 := by decide +kernel
theorem dX12_goesThrough_10 : dcd cX12_goesThrough 10 (.iload 5) 2 12 := by decide +kernel
theorem dX12_goesThrough_12 : dcb cX12_goesThrough 12 (.ifCond .eq (14)) (14) 26 15 := by decide +kernel
theorem dX12_goesThrough_15 : dcd cX12_goesThrough 15 (.bipush 10) 2 17 := by decide +kernel
theorem dX12_goesThrough_17 : dcd cX12_goesThrough 17 (.iload 6) 2 19 := by decide +kernel
theorem dX12_goesThrough_19 : dcd cX12_goesThrough 19 (.imul) 1 20 := by decide +kernel
theorem dX12_goesThrough_20 : dcd cX12_goesThrough 20 (.iload 4) 2 22 := by decide +kernel
theorem dX12_goesThrough_22 : dcd cX12_goesThrough 22 (.iadd) 1 23 := by decide +kernel
theorem dX12_goesThrough_23 : dcb cX12_goesThrough 23 (.goto (10)) (10) 33 26 := by decide +kernel
theorem dX12_goesThrough_26 : dcd cX12_goesThrough 26 (.bipush 10) 2 28 := by decide +kernel
theorem dX12_goesThrough_28 : dcd cX12_goesThrough 28 (.iload_n 3) 1 29 := by decide +kernel
theorem dX12_goesThrough_29 : dcd cX12_goesThrough 29 (.imul) 1 30 := by decide +kernel
theorem dX12_goesThrough_30 : dcd cX12_goesThrough 30 (.iload 6) 2 32 := by decide +kernel
theorem dX12_goesThrough_32 : dcd cX12_goesThrough 32 (.iadd) 1 33 := by decide +kernel
theorem dX12_goesThrough_33 : dcd cX12_goesThrough 33 (.iadd) 1 34 := by decide +kernel
theorem dX12_goesThrough_34 : dcd cX12_goesThrough 34 (.istore 7) 2 36 := by decide +kernel
theorem dX12_goesThrough_36 : dcd cX12_goesThrough 36 (.iload 5) 2 38 := by decide +kernel
theorem dX12_goesThrough_38 : dcb cX12_goesThrough 38 (.ifCond .eq (30)) (30) 68 41 := by decide +kernel
theorem dX12_goesThrough_41 : dcd cX12_goesThrough 41 (.sipush 1000) 3 44 := by decide +kernel
theorem dX12_goesThrough_44 : dcd cX12_goesThrough 44 (.iload_n 1) 1 45 := by decide +kernel
theorem dX12_goesThrough_45 : dcd cX12_goesThrough 45 (.iload 6) 2 47 := by decide +kernel
theorem dX12_goesThrough_47 : dcd cX12_goesThrough 47 (.iadd) 1 48 := by decide +kernel
theorem dX12_goesThrough_48 : dcd cX12_goesThrough 48 (.imul) 1 49 := by decide +kernel
theorem dX12_goesThrough_49 : dcd cX12_goesThrough 49 (.bipush 100) 2 51 := by decide +kernel
theorem dX12_goesThrough_51 : dcd cX12_goesThrough 51 (.iload_n 2) 1 52 := by decide +kernel
theorem dX12_goesThrough_52 : dcd cX12_goesThrough 52 (.imul) 1 53 := by decide +kernel
theorem dX12_goesThrough_53 : dcd cX12_goesThrough 53 (.iadd) 1 54 := by decide +kernel
theorem dX12_goesThrough_54 : dcd cX12_goesThrough 54 (.bipush 10) 2 56 := by decide +kernel
theorem dX12_goesThrough_56 : dcd cX12_goesThrough 56 (.iload_n 3) 1 57 := by decide +kernel
theorem dX12_goesThrough_57 : dcd cX12_goesThrough 57 (.iload 6) 2 59 := by decide +kernel
theorem dX12_goesThrough_59 : dcd cX12_goesThrough 59 (.isub) 1 60 := by decide +kernel
theorem dX12_goesThrough_60 : dcd cX12_goesThrough 60 (.imul) 1 61 := by decide +kernel
theorem dX12_goesThrough_61 : dcd cX12_goesThrough 61 (.iadd) 1 62 := by decide +kernel
theorem dX12_goesThrough_62 : dcd cX12_goesThrough 62 (.iload 4) 2 64 := by decide +kernel
theorem dX12_goesThrough_64 : dcd cX12_goesThrough 64 (.iadd) 1 65 := by decide +kernel
theorem dX12_goesThrough_65 : dcb cX12_goesThrough 65 (.goto (27)) (27) 92 68 := by decide +kernel
theorem dX12_goesThrough_68 : dcd cX12_goesThrough 68 (.sipush 1000) 3 71 := by decide +kernel
theorem dX12_goesThrough_71 : dcd cX12_goesThrough 71 (.iload_n 1) 1 72 := by decide +kernel
theorem dX12_goesThrough_72 : dcd cX12_goesThrough 72 (.imul) 1 73 := by decide +kernel
theorem dX12_goesThrough_73 : dcd cX12_goesThrough 73 (.bipush 100) 2 75 := by decide +kernel
theorem dX12_goesThrough_75 : dcd cX12_goesThrough 75 (.iload_n 2) 1 76 := by decide +kernel
theorem dX12_goesThrough_76 : dcd cX12_goesThrough 76 (.iload 6) 2 78 := by decide +kernel
theorem dX12_goesThrough_78 : dcd cX12_goesThrough 78 (.iadd) 1 79 := by decide +kernel
theorem dX12_goesThrough_79 : dcd cX12_goesThrough 79 (.imul) 1 80 := by decide +kernel
theorem dX12_goesThrough_80 : dcd cX12_goesThrough 80 (.iadd) 1 81 := by decide +kernel
theorem dX12_goesThrough_81 : dcd cX12_goesThrough 81 (.bipush 10) 2 83 := by decide +kernel
theorem dX12_goesThrough_83 : dcd cX12_goesThrough 83 (.iload_n 3) 1 84 := by decide +kernel
theorem dX12_goesThrough_84 : dcd cX12_goesThrough 84 (.imul) 1 85 := by decide +kernel
theorem dX12_goesThrough_85 : dcd cX12_goesThrough 85 (.iadd) 1 86 := by decide +kernel
theorem dX12_goesThrough_86 : dcd cX12_goesThrough 86 (.iload 4) 2 88 := by decide +kernel
theorem dX12_goesThrough_88 : dcd cX12_goesThrough 88 (.iadd) 1 89 := by decide +kernel
theorem dX12_goesThrough_89 : dcd cX12_goesThrough 89 (.iload 6) 2 91 := by decide +kernel
theorem dX12_goesThrough_91 : dcd cX12_goesThrough 91 (.isub) 1 92 := by decide +kernel
theorem dX12_goesThrough_92 : dcd cX12_goesThrough 92 (.istore 8) 2 94 := by decide +kernel
theorem dX12_goesThrough_94 : dcd cX12_goesThrough 94 (.iconst 0) 1 95 := by decide +kernel
theorem dX12_goesThrough_95 : dcd cX12_goesThrough 95 (.istore 9) 2 97 := by decide +kernel
theorem dX12_goesThrough_97 : dcd cX12_goesThrough 97 (.iconst 0) 1 98 := by decide +kernel
theorem dX12_goesThrough_98 : dcd cX12_goesThrough 98 (.istore 10) 2 100 := by decide +kernel
theorem dX12_goesThrough_100 : dcd cX12_goesThrough 100 (.iload 10) 2 102 := by decide +kernel
theorem dX12_goesThrough_102 : dcd cX12_goesThrough 102 (.aload_n 0) 1 103 := by decide +kernel
theorem dX12_goesThrough_103 : dcd cX12_goesThrough 103 (.getfield 137) 3 106 := by decide +kernel
theorem dX12_goesThrough_106 : dcb cX12_goesThrough 106 (.if_icmp .ge (51)) (51) 157 109 := by decide +kernel
theorem dX12_goesThrough_109 : dcd cX12_goesThrough 109 (.iload 9) 2 111 := by decide +kernel
theorem dX12_goesThrough_111 : dcb cX12_goesThrough 111 (.ifCond .ne (33)) (33) 144 114 := by decide +kernel
theorem dX12_goesThrough_114 : dcd cX12_goesThrough 114 (.iload 7) 2 116 := by decide +kernel
theorem dX12_goesThrough_116 : dcd cX12_goesThrough 116 (.aload_n 0) 1 117 := by decide +kernel
theorem dX12_goesThrough_117 : dcd cX12_goesThrough 117 (.getfield 87) 3 120 := by decide +kernel
theorem dX12_goesThrough_120 : dcd cX12_goesThrough 120 (.iload 10) 2 122 := by decide +kernel
theorem dX12_goesThrough_122 : dcd cX12_goesThrough 122 (.iaload) 1 123 := by decide +kernel
theorem dX12_goesThrough_123 : dcd cX12_goesThrough 123 (.invokestatic 298) 3 126 := by decide +kernel
theorem dX12_goesThrough_126 : dcb cX12_goesThrough 126 (.ifCond .eq (22)) (22) 148 129 := by decide +kernel
theorem dX12_goesThrough_129 : dcd cX12_goesThrough 129 (.iload 8) 2 131 := by decide +kernel
theorem dX12_goesThrough_131 : dcd cX12_goesThrough 131 (.aload_n 0) 1 132 := by decide +kernel
theorem dX12_goesThrough_132 : dcd cX12_goesThrough 132 (.getfield 87) 3 135 := by decide +kernel
theorem dX12_goesThrough_135 : dcd cX12_goesThrough 135 (.iload 10) 2 137 := by decide +kernel
theorem dX12_goesThrough_137 : dcd cX12_goesThrough 137 (.iaload) 1 138 := by decide +kernel
theorem dX12_goesThrough_138 : dcd cX12_goesThrough 138 (.invokestatic 298) 3 141 := by decide +kernel
theorem dX12_goesThrough_141 : dcb cX12_goesThrough 141 (.ifCond .eq (7)) (7) 148 144 := by decide +kernel
theorem dX12_goesThrough_144 : dcd cX12_goesThrough 144 (.iconst 1) 1 145 := by decide +kernel
theorem dX12_goesThrough_145 : dcb cX12_goesThrough 145 (.goto (4)) (4) 149 148 := by decide +kernel
theorem dX12_goesThrough_148 : dcd cX12_goesThrough 148 (.iconst 0) 1 149 := by decide +kernel
theorem dX12_goesThrough_149 : dcd cX12_goesThrough 149 (.istore 9) 2 151 := by decide +kernel
theorem dX12_goesThrough_151 : dcd cX12_goesThrough 151 (.iinc 10 1) 3 154 := by decide +kernel
theorem dX12_goesThrough_154 : dcb cX12_goesThrough 154 (.goto (-54)) (-54) 100 157 := by decide +kernel
theorem dX12_goesThrough_157 : dcd cX12_goesThrough 157 (.iload 9) 2 159 := by decide +kernel
theorem dX12_goesThrough_159 : decode cX12_goesThrough 159 = .ok (.ireturn, 1) := by decide +kernel
theorem dX12_read_0 : dcd cX12_read 0 (.aload_n 0) 1 1 := by decide +kernel
theorem dX12_read_1 : dcd cX12_read 1 (.iconst 0) 1 2 := by decide +kernel
theorem dX12_read_2 : dcd cX12_read 2 (.putfield 1) 3 5 := by decide +kernel
theorem dX12_read_5 : dcd cX12_read 5 (.iconst 1) 1 6 := by decide +kernel
theorem dX12_read_6 : dcd cX12_read 6 (.istore_n 1) 1 7 := by decide +kernel
theorem dX12_read_7 : dcd cX12_read 7 (.iload_n 1) 1 8 := by decide +kernel
theorem dX12_read_8 : dcd cX12_read 8 (.aload_n 0) 1 9 := by decide +kernel
theorem dX12_read_9 : dcd cX12_read 9 (.getfield 20) 3 12 := by decide +kernel
theorem dX12_read_12 : dcb cX12_read 12 (.if_icmp .gt (176)) (176) 188 15 := by decide +kernel
theorem dX12_read_15 : dcd cX12_read 15 (.iconst 1) 1 16 := by decide +kernel
theorem dX12_read_16 : dcd cX12_read 16 (.istore_n 2) 1 17 := by decide +kernel
theorem dX12_read_17 : dcd cX12_read 17 (.iload_n 2) 1 18 := by decide +kernel
theorem dX12_read_18 : dcd cX12_read 18 (.aload_n 0) 1 19 := by decide +kernel
theorem dX12_read_19 : dcd cX12_read 19 (.getfield 23) 3 22 := by decide +kernel
theorem dX12_read_22 : dcb cX12_read 22 (.if_icmp .gt (160)) (160) 182 25 := by decide +kernel
theorem dX12_read_25 : dcd cX12_read 25 (.iconst 0) 1 26 := by decide +kernel
theorem dX12_read_26 : dcd cX12_read 26 (.istore_n 3) 1 27 := by decide +kernel
theorem dX12_read_27 : dcd cX12_read 27 (.iload_n 3) 1 28 := by decide +kernel
theorem dX12_read_28 : dcd cX12_read 28 (.iload_n 1) 1 29 := by decide +kernel
theorem dX12_read_29 : dcd cX12_read 29 (.iadd) 1 30 := by decide +kernel
theorem dX12_read_30 : dcd cX12_read 30 (.aload_n 0) 1 31 := by decide +kernel
theorem dX12_read_31 : dcd cX12_read 31 (.getfield 20) 3 34 := by decide +kernel
theorem dX12_read_34 : dcb cX12_read 34 (.if_icmp .gt (142)) (142) 176 37 := by decide +kernel
theorem dX12_read_37 : dcd cX12_read 37 (.iconst 0) 1 38 := by decide +kernel
theorem dX12_read_38 : dcd cX12_read 38 (.istore 4) 2 40 := by decide +kernel
theorem dX12_read_40 : dcd cX12_read 40 (.iload 4) 2 42 := by decide +kernel
theorem dX12_read_42 : dcd cX12_read 42 (.iload_n 2) 1 43 := by decide +kernel
theorem dX12_read_43 : dcd cX12_read 43 (.iadd) 1 44 := by decide +kernel
theorem dX12_read_44 : dcd cX12_read 44 (.aload_n 0) 1 45 := by decide +kernel
theorem dX12_read_45 : dcd cX12_read 45 (.getfield 23) 3 48 := by decide +kernel
theorem dX12_read_48 : dcb cX12_read 48 (.if_icmp .gt (122)) (122) 170 51 := by decide +kernel
theorem dX12_read_51 : dcd cX12_read 51 (.sipush 1000) 3 54 := by decide +kernel
theorem dX12_read_54 : dcd cX12_read 54 (.iload_n 3) 1 55 := by decide +kernel
theorem dX12_read_55 : dcd cX12_read 55 (.imul) 1 56 := by decide +kernel
theorem dX12_read_56 : dcd cX12_read 56 (.bipush 100) 2 58 := by decide +kernel
theorem dX12_read_58 : dcd cX12_read 58 (.iload 4) 2 60 := by decide +kernel
theorem dX12_read_60 : dcd cX12_read 60 (.imul) 1 61 := by decide +kernel
theorem dX12_read_61 : dcd cX12_read 61 (.iadd) 1 62 := by decide +kernel
theorem dX12_read_62 : dcd cX12_read 62 (.bipush 10) 2 64 := by decide +kernel
theorem dX12_read_64 : dcd cX12_read 64 (.iload_n 1) 1 65 := by decide +kernel
theorem dX12_read_65 : dcd cX12_read 65 (.imul) 1 66 := by decide +kernel
theorem dX12_read_66 : dcd cX12_read 66 (.iadd) 1 67 := by decide +kernel
theorem dX12_read_67 : dcd cX12_read 67 (.iload_n 2) 1 68 := by decide +kernel
theorem dX12_read_68 : dcd cX12_read 68 (.iadd) 1 69 := by decide +kernel
theorem dX12_read_69 : dcd cX12_read 69 (.istore 5) 2 71 := by decide +kernel
theorem dX12_read_71 : dcd cX12_read 71 (.iconst 1) 1 72 := by decide +kernel
theorem dX12_read_72 : dcd cX12_read 72 (.istore 6) 2 74 := by decide +kernel
theorem dX12_read_74 : dcd cX12_read 74 (.iconst 0) 1 75 := by decide +kernel
theorem dX12_read_75 : dcd cX12_read 75 (.istore 7) 2 77 := by decide +kernel
theorem dX12_read_77 : dcd cX12_read 77 (.iload 7) 2 79 := by decide +kernel
theorem dX12_read_79 : dcd cX12_read 79 (.aload_n 0) 1 80 := by decide +kernel
theorem dX12_read_80 : dcd cX12_read 80 (.getfield 137) 3 83 := by decide +kernel
theorem dX12_read_83 : dcb cX12_read 83 (.if_icmp .ge (48)) (48) 131 86 := by decide +kernel
theorem dX12_read_86 : dcd cX12_read 86 (.iload 6) 2 88 := by decide +kernel
theorem dX12_read_88 : dcb cX12_read 88 (.ifCond .eq (34)) (34) 122 91 := by decide +kernel
theorem dX12_read_91 : dcd cX12_read 91 (.iload 5) 2 93 := by decide +kernel
theorem dX12_read_93 : dcd cX12_read 93 (.aload_n 0) 1 94 := by decide +kernel
theorem dX12_read_94 : dcd cX12_read 94 (.getfield 87) 3 97 := by decide +kernel
theorem dX12_read_97 : dcd cX12_read 97 (.iload 7) 2 99 := by decide +kernel
theorem dX12_read_99 : dcd cX12_read 99 (.iaload) 1 100 := by decide +kernel
theorem dX12_read_100 : dcd cX12_read 100 (.invokestatic 298) 3 103 := by decide +kernel
theorem dX12_read_103 : dcb cX12_read 103 (.ifCond .eq (15)) (15) 118 106 := by decide +kernel
theorem dX12_read_106 : dcd cX12_read 106 (.iload 5) 2 108 := by decide +kernel
theorem dX12_read_108 : dcd cX12_read 108 (.aload_n 0) 1 109 := by decide +kernel
theorem dX12_read_109 : dcd cX12_read 109 (.getfield 87) 3 112 := by decide +kernel
theorem dX12_read_112 : dcd cX12_read 112 (.iload 7) 2 114 := by decide +kernel
theorem dX12_read_114 : dcd cX12_read 114 (.iaload) 1 115 := by decide +kernel
theorem dX12_read_115 : dcb cX12_read 115 (.if_icmp .ne (7)) (7) 122 118 := by decide +kernel
theorem dX12_read_118 : dcd cX12_read 118 (.iconst 1) 1 119 := by decide +kernel
theorem dX12_read_119 : dcb cX12_read 119 (.goto (4)) (4) 123 122 := by decide +kernel
theorem dX12_read_122 : dcd cX12_read 122 (.iconst 0) 1 123 := by decide +kernel
theorem dX12_read_123 : dcd cX12_read 123 (.istore 6) 2 125 := by decide +kernel
theorem dX12_read_125 : dcd cX12_read 125 (.iinc 7 1) 3 128 := by decide +kernel
theorem dX12_read_128 : dcb cX12_read 128 (.goto (-51)) (-51) 77 131 := by decide +kernel
theorem dX12_read_131 : dcd cX12_read 131 (.aload_n 0) 1 132 := by decide +kernel
theorem dX12_read_132 : dcd cX12_read 132 (.getfield 84) 3 135 := by decide +kernel
theorem dX12_read_135 : dcd cX12_read 135 (.iload_n 3) 1 136 := by decide +kernel
theorem dX12_read_136 : dcd cX12_read 136 (.iload 4) 2 138 := by decide +kernel
theorem dX12_read_138 : dcd cX12_read 138 (.iload_n 1) 1 139 := by decide +kernel
theorem dX12_read_139 : dcd cX12_read 139 (.iload_n 2) 1 140 := by decide +kernel
theorem dX12_read_140 : dcd cX12_read 140 (.invokestatic 265) 3 143 := by decide +kernel
theorem dX12_read_143 : dcd cX12_read 143 (.iload 6) 2 145 := by decide +kernel
theorem dX12_read_145 : dcb cX12_read 145 (.ifCond .eq (7)) (7) 152 148 := by decide +kernel
theorem dX12_read_148 : dcd cX12_read 148 (.iconst 0) 1 149 := by decide +kernel
theorem dX12_read_149 : dcb cX12_read 149 (.goto (14)) (14) 163 152 := by decide +kernel
theorem dX12_read_152 : dcd cX12_read 152 (.aload_n 0) 1 153 := by decide +kernel
theorem dX12_read_153 : dcd cX12_read 153 (.iload_n 3) 1 154 := by decide +kernel
theorem dX12_read_154 : dcd cX12_read 154 (.iload 4) 2 156 := by decide +kernel
theorem dX12_read_156 : dcd cX12_read 156 (.iload_n 1) 1 157 := by decide +kernel
theorem dX12_read_157 : dcd cX12_read 157 (.iload_n 2) 1 158 := by decide +kernel
theorem dX12_read_158 : dcd cX12_read 158 (.iconst 0) 1 159 := by decide +kernel
theorem dX12_read_159 : dcd cX12_read 159 (.iconst 1) 1 160 := by decide +kernel
theorem dX12_read_160 : dcd cX12_read 160 (.invokevirtual 291) 3 163 := by decide +kernel
theorem dX12_read_163 : dcd cX12_read 163 (.iastore) 1 164 := by decide +kernel
theorem dX12_read_164 : dcd cX12_read 164 (.iinc 4 1) 3 167 := by decide +kernel
theorem dX12_read_167 : dcb cX12_read 167 (.goto (-127)) (-127) 40 170 := by decide +kernel
theorem dX12_read_170 : dcd cX12_read 170 (.iinc 3 1) 3 173 := by decide +kernel
theorem dX12_read_173 : dcb cX12_read 173 (.goto (-146)) (-146) 27 176 := by decide +kernel
theorem dX12_read_176 : dcd cX12_read 176 (.iinc 2 1) 3 179 := by decide +kernel
theorem dX12_read_179 : dcb cX12_read 179 (.goto (-162)) (-162) 17 182 := by decide +kernel
theorem dX12_read_182 : dcd cX12_read 182 (.iinc 1 1) 3 185 := by decide +kernel
theorem dX12_read_185 : dcb cX12_read 185 (.goto (-178)) (-178) 7 188 := by decide +kernel
theorem dX12_read_188 : dcd cX12_read 188 (.aload_n 0) 1 189 := by decide +kernel
theorem dX12_read_189 : dcd cX12_read 189 (.getfield 84) 3 192 := by decide +kernel
theorem dX12_read_192 : dcd cX12_read 192 (.iconst 0) 1 193 := by decide +kernel
theorem dX12_read_193 : dcd cX12_read 193 (.iconst 0) 1 194 := by decide +kernel
theorem dX12_read_194 : dcd cX12_read 194 (.aload_n 0) 1 195 := by decide +kernel
theorem dX12_read_195 : dcd cX12_read 195 (.getfield 20) 3 198 := by decide +kernel
theorem dX12_read_198 : dcd cX12_read 198 (.aload_n 0) 1 199 := by decide +kernel
theorem dX12_read_199 : dcd cX12_read 199 (.getfield 23) 3 202 := by decide +kernel
theorem dX12_read_202 : dcd cX12_read 202 (.invokestatic 265) 3 205 := by decide +kernel
theorem dX12_read_205 : dcd cX12_read 205 (.iaload) 1 206 := by decide +kernel
theorem dX12_read_206 : dcd cX12_read 206 (.istore_n 1) 1 207 := by decide +kernel
theorem dX12_read_207 : dcd cX12_read 207 (.iload_n 1) 1 208 := by decide +kernel
theorem dX12_read_208 : dcd cX12_read 208 (.ldc 223) 2 210 := by decide +kernel
theorem dX12_read_210 : dcb cX12_read 210 (.if_icmp .ge (7)) (7) 217 213 := by decide +kernel
theorem dX12_read_213 : dcd cX12_read 213 (.iload_n 1) 1 214 := by decide +kernel
theorem dX12_read_214 : dcb cX12_read 214 (.goto (5)) (5) 219 217 := by decide +kernel
theorem dX12_read_217 : dcd cX12_read 217 (.bipush (-9)) 2 219 := by decide +kernel
theorem dX12_read_219 : decode cX12_read 219 = .ok (.ireturn, 1) := by decide +kernel
theorem dX12_unleft_0 : dcd cX12_unleft 0 (.aload_n 0) 1 1 := by decide +kernel
theorem dX12_unleft_1 : dcd cX12_unleft 1 (.iconst 0) 1 2 := by decide +kernel
theorem dX12_unleft_2 : dcd cX12_unleft 2 (.putfield 1) 3 5 := by decide +kernel
theorem dX12_unleft_5 : dcd cX12_unleft 5 (.aload_n 0) 1 6 := by decide +kernel
theorem dX12_unleft_6 : dcd cX12_unleft 6 (.getfield 137) 3 9 := by decide +kernel
theorem dX12_unleft_9 : dcd cX12_unleft 9 (.istore_n 1) 1 10 := by decide +kernel
theorem dX12_unleft_10 : dcd cX12_unleft 10 (.aload_n 0) 1 11 := by decide +kernel
theorem dX12_unleft_11 : dcd cX12_unleft 11 (.iconst 0) 1 12 := by decide +kernel
theorem dX12_unleft_12 : dcd cX12_unleft 12 (.putfield 137) 3 15 := by decide +kernel
theorem dX12_unleft_15 : dcd cX12_unleft 15 (.iload_n 1) 1 16 := by decide +kernel
theorem dX12_unleft_16 : decode cX12_unleft 16 = .ok (.ireturn, 1) := by decide +kernel
theorem dX12_ripens_0 : dcd cX12_ripens 0 (.aload_n 0) 1 1 := by decide +kernel
theorem dX12_ripens_1 : dcd cX12_ripens 1 (.iconst 0) 1 2 := by decide +kernel
theorem dX12_ripens_2 : dcd cX12_ripens 2 (.putfield 1) 3 5 := by decide +kernel
theorem dX12_ripens_5 : dcd cX12_ripens 5 (.iload_n 1) 1 6 := by decide +kernel
theorem dX12_ripens_6 : dcd cX12_ripens 6 (.i2l) 1 7 := by decide +kernel
theorem dX12_ripens_7 : dcd cX12_ripens 7 (.lconst 0) 1 8 := by decide +kernel
theorem dX12_ripens_8 : dcd cX12_ripens 8 (.ldc2_w 301) 3 11 := by decide +kernel
theorem dX12_ripens_11 : dcd cX12_ripens 11 (.invokestatic 113) 3 14 := by decide +kernel
theorem dX12_ripens_14 : dcb cX12_ripens 14 (.ifCond .eq (15)) (15) 29 17 := by decide +kernel
theorem dX12_ripens_17 : dcd cX12_ripens 17 (.iload_n 2) 1 18 := by decide +kernel
theorem dX12_ripens_18 : dcd cX12_ripens 18 (.i2l) 1 19 := by decide +kernel
theorem dX12_ripens_19 : dcd cX12_ripens 19 (.lconst 1) 1 20 := by decide +kernel
theorem dX12_ripens_20 : dcd cX12_ripens 20 (.ldc2_w 301) 3 23 := by decide +kernel
theorem dX12_ripens_23 : dcd cX12_ripens 23 (.invokestatic 113) 3 26 := by decide +kernel
theorem dX12_ripens_26 : dcb cX12_ripens 26 (.ifCond .ne (6)) (6) 32 29 := by decide +kernel
theorem dX12_ripens_29 : dcd cX12_ripens 29 (.bipush (-2)) 2 31 := by decide +kernel
theorem dX12_ripens_31 : decode cX12_ripens 31 = .ok (.ireturn, 1) := by decide +kernel
theorem dX12_ripens_32 : dcd cX12_ripens 32 (.bipush 100) 2 34 := by decide +kernel
theorem dX12_ripens_34 : dcd cX12_ripens 34 (.aload_n 0) 1 35 := by decide +kernel
theorem dX12_ripens_35 : dcd cX12_ripens 35 (.getfield 90) 3 38 := by decide +kernel
theorem dX12_ripens_38 : dcd cX12_ripens 38 (.imul) 1 39 := by decide +kernel
theorem dX12_ripens_39 : dcd cX12_ripens 39 (.aload_n 0) 1 40 := by decide +kernel
theorem dX12_ripens_40 : dcd cX12_ripens 40 (.getfield 93) 3 43 := by decide +kernel
theorem dX12_ripens_43 : dcd cX12_ripens 43 (.iadd) 1 44 := by decide +kernel
theorem dX12_ripens_44 : dcd cX12_ripens 44 (.istore_n 3) 1 45 := by decide +kernel
theorem dX12_ripens_45 : dcd cX12_ripens 45 (.aload_n 0) 1 46 := by decide +kernel
theorem dX12_ripens_46 : dcd cX12_ripens 46 (.iload_n 1) 1 47 := by decide +kernel
theorem dX12_ripens_47 : dcd cX12_ripens 47 (.putfield 90) 3 50 := by decide +kernel
theorem dX12_ripens_50 : dcd cX12_ripens 50 (.aload_n 0) 1 51 := by decide +kernel
theorem dX12_ripens_51 : dcd cX12_ripens 51 (.iload_n 2) 1 52 := by decide +kernel
theorem dX12_ripens_52 : dcd cX12_ripens 52 (.putfield 93) 3 55 := by decide +kernel
theorem dX12_ripens_55 : dcd cX12_ripens 55 (.iload_n 3) 1 56 := by decide +kernel
theorem dX12_ripens_56 : decode cX12_ripens 56 = .ok (.ireturn, 1) := by decide +kernel
theorem dX12_lesser_0 : dcd cX12_lesser 0 (.iload_n 0) 1 1 := by decide +kernel
theorem dX12_lesser_1 : dcd cX12_lesser 1 (.iload_n 1) 1 2 := by decide +kernel
theorem dX12_lesser_2 : dcb cX12_lesser 2 (.if_icmp .ge (7)) (7) 9 5 := by decide +kernel
theorem dX12_lesser_5 : dcd cX12_lesser 5 (.iload_n 0) 1 6 := by decide +kernel
theorem dX12_lesser_6 : dcb cX12_lesser 6 (.goto (4)) (4) 10 9 := by decide +kernel
theorem dX12_lesser_9 : dcd cX12_lesser 9 (.iload_n 1) 1 10 := by decide +kernel
theorem dX12_lesser_10 : decode cX12_lesser 10 = .ok (.ireturn, 1) := by decide +kernel
theorem dX12_isRipe_0 : dcd cX12_isRipe 0 (.iload_n 1) 1 1 := by decide +kernel
theorem dX12_isRipe_1 : dcd cX12_isRipe 1 (.aload_n 0) 1 2 := by decide +kernel
theorem dX12_isRipe_2 : dcd cX12_isRipe 2 (.getfield 20) 3 5 := by decide +kernel
theorem dX12_isRipe_5 : dcd cX12_isRipe 5 (.iconst 1) 1 6 := by decide +kernel
theorem dX12_isRipe_6 : dcd cX12_isRipe 6 (.isub) 1 7 := by decide +kernel
theorem dX12_isRipe_7 : dcd cX12_isRipe 7 (.iload_n 1) 1 8 := by decide +kernel
theorem dX12_isRipe_8 : dcd cX12_isRipe 8 (.isub) 1 9 := by decide +kernel
theorem dX12_isRipe_9 : dcd cX12_isRipe 9 (.invokestatic 303) 3 12 := by decide +kernel
theorem dX12_isRipe_12 : dcd cX12_isRipe 12 (.iload_n 2) 1 13 := by decide +kernel
theorem dX12_isRipe_13 : dcd cX12_isRipe 13 (.aload_n 0) 1 14 := by decide +kernel
theorem dX12_isRipe_14 : dcd cX12_isRipe 14 (.getfield 23) 3 17 := by decide +kernel
theorem dX12_isRipe_17 : dcd cX12_isRipe 17 (.iconst 1) 1 18 := by decide +kernel
theorem dX12_isRipe_18 : dcd cX12_isRipe 18 (.isub) 1 19 := by decide +kernel
theorem dX12_isRipe_19 : dcd cX12_isRipe 19 (.iload_n 2) 1 20 := by decide +kernel
theorem dX12_isRipe_20 : dcd cX12_isRipe 20 (.isub) 1 21 := by decide +kernel
theorem dX12_isRipe_21 : dcd cX12_isRipe 21 (.invokestatic 303) 3 24 := by decide +kernel
theorem dX12_isRipe_24 : dcd cX12_isRipe 24 (.invokestatic 303) 3 27 := by decide +kernel
theorem dX12_isRipe_27 : dcd cX12_isRipe 27 (.istore 4) 2 29 := by decide +kernel
theorem dX12_isRipe_29 : dcd cX12_isRipe 29 (.aload_n 0) 1 30 := by decide +kernel
theorem dX12_isRipe_30 : dcd cX12_isRipe 30 (.getfield 90) 3 33 := by decide +kernel
theorem dX12_isRipe_33 : dcd cX12_isRipe 33 (.iconst 2) 1 34 := by decide +kernel
theorem dX12_isRipe_34 : dcd cX12_isRipe 34 (.iload 4) 2 36 := by decide +kernel
theorem dX12_isRipe_36 : dcd cX12_isRipe 36 (.imul) 1 37 := by decide +kernel
theorem dX12_isRipe_37 : dcd cX12_isRipe 37 (.iadd) 1 38 := by decide +kernel
theorem dX12_isRipe_38 : dcd cX12_isRipe 38 (.istore 5) 2 40 := by decide +kernel
theorem dX12_isRipe_40 : dcd cX12_isRipe 40 (.aload_n 0) 1 41 := by decide +kernel
theorem dX12_isRipe_41 : dcd cX12_isRipe 41 (.getfield 17) 3 44 := by decide +kernel
theorem dX12_isRipe_44 : dcd cX12_isRipe 44 (.bipush 6) 2 46 := by decide +kernel
theorem dX12_isRipe_46 : dcd cX12_isRipe 46 (.iload_n 1) 1 47 := by decide +kernel
theorem dX12_isRipe_47 : dcd cX12_isRipe 47 (.imul) 1 48 := by decide +kernel
theorem dX12_isRipe_48 : dcd cX12_isRipe 48 (.iload_n 2) 1 49 := by decide +kernel
theorem dX12_isRipe_49 : dcd cX12_isRipe 49 (.iadd) 1 50 := by decide +kernel
theorem dX12_isRipe_50 : dcd cX12_isRipe 50 (.iaload) 1 51 := by decide +kernel
theorem dX12_isRipe_51 : dcb cX12_isRipe 51 (.ifCond .ne (28)) (28) 79 54 := by decide +kernel
theorem dX12_isRipe_54 : dcd cX12_isRipe 54 (.iload_n 3) 1 55 := by decide +kernel
theorem dX12_isRipe_55 : dcd cX12_isRipe 55 (.i2l) 1 56 := by decide +kernel
theorem dX12_isRipe_56 : dcd cX12_isRipe 56 (.iload 5) 2 58 := by decide +kernel
theorem dX12_isRipe_58 : dcd cX12_isRipe 58 (.i2l) 1 59 := by decide +kernel
theorem dX12_isRipe_59 : dcd cX12_isRipe 59 (.iload 5) 2 61 := by decide +kernel
theorem dX12_isRipe_61 : dcd cX12_isRipe 61 (.aload_n 0) 1 62 := by decide +kernel
theorem dX12_isRipe_62 : dcd cX12_isRipe 62 (.getfield 93) 3 65 := by decide +kernel
theorem dX12_isRipe_65 : dcd cX12_isRipe 65 (.iadd) 1 66 := by decide +kernel
theorem dX12_isRipe_66 : dcd cX12_isRipe 66 (.iconst 1) 1 67 := by decide +kernel
theorem dX12_isRipe_67 : dcd cX12_isRipe 67 (.isub) 1 68 := by decide +kernel
theorem dX12_isRipe_68 : dcd cX12_isRipe 68 (.i2l) 1 69 := by decide +kernel
theorem dX12_isRipe_69 : dcd cX12_isRipe 69 (.invokestatic 113) 3 72 := by decide +kernel
theorem dX12_isRipe_72 : dcb cX12_isRipe 72 (.ifCond .eq (7)) (7) 79 75 := by decide +kernel
theorem dX12_isRipe_75 : dcd cX12_isRipe 75 (.iconst 1) 1 76 := by decide +kernel
theorem dX12_isRipe_76 : dcb cX12_isRipe 76 (.goto (4)) (4) 80 79 := by decide +kernel
theorem dX12_isRipe_79 : dcd cX12_isRipe 79 (.iconst 0) 1 80 := by decide +kernel
theorem dX12_isRipe_80 : decode cX12_isRipe 80 = .ok (.ireturn, 1) := by decide +kernel
theorem dX12_ripeIn_0 : dcd cX12_ripeIn 0 (.iconst 0) 1 1 := by decide +kernel
theorem dX12_ripeIn_1 : dcd cX12_ripeIn 1 (.istore_n 3) 1 2 := by decide +kernel
theorem dX12_ripeIn_2 : dcd cX12_ripeIn 2 (.aload_n 0) 1 3 := by decide +kernel
theorem dX12_ripeIn_3 : dcd cX12_ripeIn 3 (.getfield 32) 3 6 := by decide +kernel
theorem dX12_ripeIn_6 : dcd cX12_ripeIn 6 (.iload_n 1) 1 7 := by decide +kernel
theorem dX12_ripeIn_7 : dcd cX12_ripeIn 7 (.iaload) 1 8 := by decide +kernel
theorem dX12_ripeIn_8 : dcd cX12_ripeIn 8 (.istore 4) 2 10 := by decide +kernel
theorem dX12_ripeIn_10 : dcd cX12_ripeIn 10 (.iload 4) 2 12 := by decide +kernel
theorem dX12_ripeIn_12 : dcd cX12_ripeIn 12 (.aload_n 0) 1 13 := by decide +kernel
theorem dX12_ripeIn_13 : dcd cX12_ripeIn 13 (.getfield 32) 3 16 := by decide +kernel
theorem dX12_ripeIn_16 : dcd cX12_ripeIn 16 (.iload_n 1) 1 17 := by decide +kernel
theorem dX12_ripeIn_17 : dcd cX12_ripeIn 17 (.iaload) 1 18 := by decide +kernel
theorem dX12_ripeIn_18 : dcd cX12_ripeIn 18 (.aload_n 0) 1 19 := by decide +kernel
theorem dX12_ripeIn_19 : dcd cX12_ripeIn 19 (.getfield 38) 3 22 := by decide +kernel
theorem dX12_ripeIn_22 : dcd cX12_ripeIn 22 (.iload_n 1) 1 23 := by decide +kernel
theorem dX12_ripeIn_23 : dcd cX12_ripeIn 23 (.iaload) 1 24 := by decide +kernel
theorem dX12_ripeIn_24 : dcd cX12_ripeIn 24 (.iadd) 1 25 := by decide +kernel
theorem dX12_ripeIn_25 : dcb cX12_ripeIn 25 (.if_icmp .ge (61)) (61) 86 28 := by decide +kernel
theorem dX12_ripeIn_28 : dcd cX12_ripeIn 28 (.aload_n 0) 1 29 := by decide +kernel
theorem dX12_ripeIn_29 : dcd cX12_ripeIn 29 (.getfield 35) 3 32 := by decide +kernel
theorem dX12_ripeIn_32 : dcd cX12_ripeIn 32 (.iload_n 1) 1 33 := by decide +kernel
theorem dX12_ripeIn_33 : dcd cX12_ripeIn 33 (.iaload) 1 34 := by decide +kernel
theorem dX12_ripeIn_34 : dcd cX12_ripeIn 34 (.istore 5) 2 36 := by decide +kernel
theorem dX12_ripeIn_36 : dcd cX12_ripeIn 36 (.iload 5) 2 38 := by decide +kernel
theorem dX12_ripeIn_38 : dcd cX12_ripeIn 38 (.aload_n 0) 1 39 := by decide +kernel
theorem dX12_ripeIn_39 : dcd cX12_ripeIn 39 (.getfield 35) 3 42 := by decide +kernel
theorem dX12_ripeIn_42 : dcd cX12_ripeIn 42 (.iload_n 1) 1 43 := by decide +kernel
theorem dX12_ripeIn_43 : dcd cX12_ripeIn 43 (.iaload) 1 44 := by decide +kernel
theorem dX12_ripeIn_44 : dcd cX12_ripeIn 44 (.aload_n 0) 1 45 := by decide +kernel
theorem dX12_ripeIn_45 : dcd cX12_ripeIn 45 (.getfield 41) 3 48 := by decide +kernel
theorem dX12_ripeIn_48 : dcd cX12_ripeIn 48 (.iload_n 1) 1 49 := by decide +kernel
theorem dX12_ripeIn_49 : dcd cX12_ripeIn 49 (.iaload) 1 50 := by decide +kernel
theorem dX12_ripeIn_50 : dcd cX12_ripeIn 50 (.iadd) 1 51 := by decide +kernel
theorem dX12_ripeIn_51 : dcb cX12_ripeIn 51 (.if_icmp .ge (29)) (29) 80 54 := by decide +kernel
theorem dX12_ripeIn_54 : dcd cX12_ripeIn 54 (.iload_n 3) 1 55 := by decide +kernel
theorem dX12_ripeIn_55 : dcd cX12_ripeIn 55 (.aload_n 0) 1 56 := by decide +kernel
theorem dX12_ripeIn_56 : dcd cX12_ripeIn 56 (.iload 4) 2 58 := by decide +kernel
theorem dX12_ripeIn_58 : dcd cX12_ripeIn 58 (.iload 5) 2 60 := by decide +kernel
theorem dX12_ripeIn_60 : dcd cX12_ripeIn 60 (.iload_n 2) 1 61 := by decide +kernel
theorem dX12_ripeIn_61 : dcd cX12_ripeIn 61 (.invokevirtual 306) 3 64 := by decide +kernel
theorem dX12_ripeIn_64 : dcb cX12_ripeIn 64 (.ifCond .eq (7)) (7) 71 67 := by decide +kernel
theorem dX12_ripeIn_67 : dcd cX12_ripeIn 67 (.iconst 1) 1 68 := by decide +kernel
theorem dX12_ripeIn_68 : dcb cX12_ripeIn 68 (.goto (4)) (4) 72 71 := by decide +kernel
theorem dX12_ripeIn_71 : dcd cX12_ripeIn 71 (.iconst 0) 1 72 := by decide +kernel
theorem dX12_ripeIn_72 : dcd cX12_ripeIn 72 (.iadd) 1 73 := by decide +kernel
theorem dX12_ripeIn_73 : dcd cX12_ripeIn 73 (.istore_n 3) 1 74 := by decide +kernel
theorem dX12_ripeIn_74 : dcd cX12_ripeIn 74 (.iinc 5 1) 3 77 := by decide +kernel
theorem dX12_ripeIn_77 : dcb cX12_ripeIn 77 (.goto (-41)) (-41) 36 80 := by decide +kernel
theorem dX12_ripeIn_80 : dcd cX12_ripeIn 80 (.iinc 4 1) 3 83 := by decide +kernel
theorem dX12_ripeIn_83 : dcb cX12_ripeIn 83 (.goto (-73)) (-73) 10 86 := by decide +kernel
theorem dX12_ripeIn_86 : dcd cX12_ripeIn 86 (.iload_n 3) 1 87 := by decide +kernel
theorem dX12_ripeIn_87 : decode cX12_ripeIn 87 = .ok (.ireturn, 1) := by decide +kernel
theorem dX12_paste_0 : dcd cX12_paste 0 (.aload_n 0) 1 1 := by decide +kernel
theorem dX12_paste_1 : dcd cX12_paste 1 (.aload_n 0) 1 2 := by decide +kernel
theorem dX12_paste_2 : dcd cX12_paste 2 (.getfield 32) 3 5 := by decide +kernel
theorem dX12_paste_5 : dcd cX12_paste 5 (.iload_n 1) 1 6 := by decide +kernel
theorem dX12_paste_6 : dcd cX12_paste 6 (.iaload) 1 7 := by decide +kernel
theorem dX12_paste_7 : dcd cX12_paste 7 (.aload_n 0) 1 8 := by decide +kernel
theorem dX12_paste_8 : dcd cX12_paste 8 (.getfield 35) 3 11 := by decide +kernel
theorem dX12_paste_11 : dcd cX12_paste 11 (.iload_n 1) 1 12 := by decide +kernel
theorem dX12_paste_12 : dcd cX12_paste 12 (.iaload) 1 13 := by decide +kernel
theorem dX12_paste_13 : dcd cX12_paste 13 (.aload_n 0) 1 14 := by decide +kernel
theorem dX12_paste_14 : dcd cX12_paste 14 (.getfield 38) 3 17 := by decide +kernel
theorem dX12_paste_17 : dcd cX12_paste 17 (.iload_n 1) 1 18 := by decide +kernel
theorem dX12_paste_18 : dcd cX12_paste 18 (.iaload) 1 19 := by decide +kernel
theorem dX12_paste_19 : dcd cX12_paste 19 (.aload_n 0) 1 20 := by decide +kernel
theorem dX12_paste_20 : dcd cX12_paste 20 (.getfield 41) 3 23 := by decide +kernel
theorem dX12_paste_23 : dcd cX12_paste 23 (.iload_n 1) 1 24 := by decide +kernel
theorem dX12_paste_24 : dcd cX12_paste 24 (.iaload) 1 25 := by decide +kernel
theorem dX12_paste_25 : dcd cX12_paste 25 (.iconst 0) 1 26 := by decide +kernel
theorem dX12_paste_26 : dcd cX12_paste 26 (.invokevirtual 172) 3 29 := by decide +kernel
theorem dX12_paste_29 : decode cX12_paste 29 = .ok (.ireturn, 1) := by decide +kernel
theorem dX12_common_0 : dcd cX12_common 0 (.lload_n 0) 1 1 := by decide +kernel
theorem dX12_common_1 : dcd cX12_common 1 (.lconst 0) 1 2 := by decide +kernel
theorem dX12_common_2 : dcd cX12_common 2 (.lcmp) 1 3 := by decide +kernel
theorem dX12_common_3 : dcb cX12_common 3 (.ifCond .ge (8)) (8) 11 6 := by decide +kernel
theorem dX12_common_6 : dcd cX12_common 6 (.lload_n 0) 1 7 := by decide +kernel
theorem dX12_common_7 : dcd cX12_common 7 (.lneg) 1 8 := by decide +kernel
theorem dX12_common_8 : dcb cX12_common 8 (.goto (4)) (4) 12 11 := by decide +kernel
theorem dX12_common_11 : dcd cX12_common 11 (.lload_n 0) 1 12 := by decide +kernel
theorem dX12_common_12 : dcd cX12_common 12 (.lstore 4) 2 14 := by decide +kernel
theorem dX12_common_14 : dcd cX12_common 14 (.lload_n 2) 1 15 := by decide +kernel
theorem dX12_common_15 : dcd cX12_common 15 (.lstore 6) 2 17 := by decide +kernel
theorem dX12_common_17 : dcd cX12_common 17 (.lload 6) 2 19 := by decide +kernel
theorem dX12_common_19 : dcd cX12_common 19 (.lconst 0) 1 20 := by decide +kernel
theorem dX12_common_20 : dcd cX12_common 20 (.lcmp) 1 21 := by decide +kernel
theorem dX12_common_21 : dcb cX12_common 21 (.ifCond .eq (21)) (21) 42 24 := by decide +kernel
theorem dX12_common_24 : dcd cX12_common 24 (.lload 4) 2 26 := by decide +kernel
theorem dX12_common_26 : dcd cX12_common 26 (.lload 6) 2 28 := by decide +kernel
theorem dX12_common_28 : dcd cX12_common 28 (.lrem) 1 29 := by decide +kernel
theorem dX12_common_29 : dcd cX12_common 29 (.lstore 8) 2 31 := by decide +kernel
theorem dX12_common_31 : dcd cX12_common 31 (.lload 6) 2 33 := by decide +kernel
theorem dX12_common_33 : dcd cX12_common 33 (.lstore 4) 2 35 := by decide +kernel
theorem dX12_common_35 : dcd cX12_common 35 (.lload 8) 2 37 := by decide +kernel
theorem dX12_common_37 : dcd cX12_common 37 (.lstore 6) 2 39 := by decide +kernel
theorem dX12_common_39 : dcb cX12_common 39 (.goto (-22)) (-22) 17 42 := by decide +kernel
theorem dX12_common_42 : dcd cX12_common 42 (.lload 4) 2 44 := by decide +kernel
theorem dX12_common_44 : decode cX12_common 44 = .ok (.lreturn, 1) := by decide +kernel
end
section
theorem dX12_ripe_0 : dcd cX12_ripe 0 (.aload_n 0) 1 1 := by decide +kernel
theorem dX12_ripe_1 : dcd cX12_ripe 1 (.iconst 0) 1 2 := by decide +kernel
theorem dX12_ripe_2 : dcd cX12_ripe 2 (.putfield 1) 3 5 := by decide +kernel
theorem dX12_ripe_5 : dcd cX12_ripe 5 (.aload_n 0) 1 6 := by decide +kernel
theorem dX12_ripe_6 : dcd cX12_ripe 6 (.iload_n 1) 1 7 := by decide +kernel
theorem dX12_ripe_7 : dcd cX12_ripe 7 (.invokevirtual 143) 3 10 := by decide +kernel
theorem dX12_ripe_10 : dcb cX12_ripe 10 (.ifCond .eq (7)) (7) 17 13 := by decide +kernel
theorem dX12_ripe_13 : dcd cX12_ripe 13 (.ldc2_w 309) 3 16 := by decide +kernel
theorem dX12_ripe_16 : decode cX12_ripe 16 = .ok (.lreturn, 1) := by decide +kernel
theorem dX12_ripe_17 : dcd cX12_ripe 17 (.iload_n 2) 1 18 := by decide +kernel
theorem dX12_ripe_18 : dcd cX12_ripe 18 (.i2l) 1 19 := by decide +kernel
theorem dX12_ripe_19 : dcd cX12_ripe 19 (.lconst 0) 1 20 := by decide +kernel
theorem dX12_ripe_20 : dcd cX12_ripe 20 (.ldc2_w 194) 3 23 := by decide +kernel
theorem dX12_ripe_23 : dcd cX12_ripe 23 (.invokestatic 113) 3 26 := by decide +kernel
theorem dX12_ripe_26 : dcb cX12_ripe 26 (.ifCond .ne (7)) (7) 33 29 := by decide +kernel
theorem dX12_ripe_29 : dcd cX12_ripe 29 (.ldc2_w 311) 3 32 := by decide +kernel
theorem dX12_ripe_32 : decode cX12_ripe 32 = .ok (.lreturn, 1) := by decide +kernel
theorem dX12_ripe_33 : dcd cX12_ripe 33 (.aload_n 0) 1 34 := by decide +kernel
theorem dX12_ripe_34 : dcd cX12_ripe 34 (.iload_n 1) 1 35 := by decide +kernel
theorem dX12_ripe_35 : dcd cX12_ripe 35 (.invokevirtual 313) 3 38 := by decide +kernel
theorem dX12_ripe_38 : dcd cX12_ripe 38 (.istore 4) 2 40 := by decide +kernel
theorem dX12_ripe_40 : dcd cX12_ripe 40 (.iload 4) 2 42 := by decide +kernel
theorem dX12_ripe_42 : dcb cX12_ripe 42 (.ifCond .ne (13)) (13) 55 45 := by decide +kernel
theorem dX12_ripe_45 : dcd cX12_ripe 45 (.iload_n 3) 1 46 := by decide +kernel
theorem dX12_ripe_46 : dcb cX12_ripe 46 (.ifCond .eq (7)) (7) 53 49 := by decide +kernel
theorem dX12_ripe_49 : dcd cX12_ripe 49 (.lconst 0) 1 50 := by decide +kernel
theorem dX12_ripe_50 : dcb cX12_ripe 50 (.goto (4)) (4) 54 53 := by decide +kernel
theorem dX12_ripe_53 : dcd cX12_ripe 53 (.lconst 1) 1 54 := by decide +kernel
theorem dX12_ripe_54 : decode cX12_ripe 54 = .ok (.lreturn, 1) := by decide +kernel
theorem dX12_ripe_55 : dcd cX12_ripe 55 (.aload_n 0) 1 56 := by decide +kernel
theorem dX12_ripe_56 : dcd cX12_ripe 56 (.iload_n 1) 1 57 := by decide +kernel
theorem dX12_ripe_57 : dcd cX12_ripe 57 (.iload_n 2) 1 58 := by decide +kernel
theorem dX12_ripe_58 : dcd cX12_ripe 58 (.invokevirtual 316) 3 61 := by decide +kernel
theorem dX12_ripe_61 : dcd cX12_ripe 61 (.istore 5) 2 63 := by decide +kernel
theorem dX12_ripe_63 : dcd cX12_ripe 63 (.iload_n 3) 1 64 := by decide +kernel
theorem dX12_ripe_64 : dcb cX12_ripe 64 (.ifCond .eq (8)) (8) 72 67 := by decide +kernel
theorem dX12_ripe_67 : dcd cX12_ripe 67 (.iload 5) 2 69 := by decide +kernel
theorem dX12_ripe_69 : dcb cX12_ripe 69 (.goto (5)) (5) 74 72 := by decide +kernel
theorem dX12_ripe_72 : dcd cX12_ripe 72 (.iload 4) 2 74 := by decide +kernel
theorem dX12_ripe_74 : dcd cX12_ripe 74 (.i2l) 1 75 := by decide +kernel
theorem dX12_ripe_75 : dcd cX12_ripe 75 (.iload 5) 2 77 := by decide +kernel
theorem dX12_ripe_77 : dcd cX12_ripe 77 (.i2l) 1 78 := by decide +kernel
theorem dX12_ripe_78 : dcd cX12_ripe 78 (.iload 4) 2 80 := by decide +kernel
theorem dX12_ripe_80 : dcd cX12_ripe 80 (.i2l) 1 81 := by decide +kernel
theorem dX12_ripe_81 : dcd cX12_ripe 81 (.invokestatic 319) 3 84 := by decide +kernel
theorem dX12_ripe_84 : dcd cX12_ripe 84 (.ldiv) 1 85 := by decide +kernel
theorem dX12_ripe_85 : decode cX12_ripe 85 = .ok (.lreturn, 1) := by decide +kernel
theorem dX12_ripest_0 : dcd cX12_ripest 0 (.aload_n 0) 1 1 := by decide +kernel
theorem dX12_ripest_1 : dcd cX12_ripest 1 (.iconst 0) 1 2 := by decide +kernel
theorem dX12_ripest_2 : dcd cX12_ripest 2 (.putfield 1) 3 5 := by decide +kernel
theorem dX12_ripest_5 : dcd cX12_ripest 5 (.iload_n 1) 1 6 := by decide +kernel
theorem dX12_ripest_6 : dcd cX12_ripest 6 (.i2l) 1 7 := by decide +kernel
theorem dX12_ripest_7 : dcd cX12_ripest 7 (.lconst 0) 1 8 := by decide +kernel
theorem dX12_ripest_8 : dcd cX12_ripest 8 (.ldc2_w 194) 3 11 := by decide +kernel
theorem dX12_ripest_11 : dcd cX12_ripest 11 (.invokestatic 113) 3 14 := by decide +kernel
theorem dX12_ripest_14 : dcb cX12_ripest 14 (.ifCond .ne (6)) (6) 20 17 := by decide +kernel
theorem dX12_ripest_17 : dcd cX12_ripest 17 (.bipush (-2)) 2 19 := by decide +kernel
theorem dX12_ripest_19 : decode cX12_ripest 19 = .ok (.ireturn, 1) := by decide +kernel
theorem dX12_ripest_20 : dcd cX12_ripest 20 (.bipush (-9)) 2 22 := by decide +kernel
theorem dX12_ripest_22 : dcd cX12_ripest 22 (.istore_n 2) 1 23 := by decide +kernel
theorem dX12_ripest_23 : dcd cX12_ripest 23 (.iconst 0) 1 24 := by decide +kernel
theorem dX12_ripest_24 : dcd cX12_ripest 24 (.istore_n 3) 1 25 := by decide +kernel
theorem dX12_ripest_25 : dcd cX12_ripest 25 (.iconst 1) 1 26 := by decide +kernel
theorem dX12_ripest_26 : dcd cX12_ripest 26 (.istore 4) 2 28 := by decide +kernel
theorem dX12_ripest_28 : dcd cX12_ripest 28 (.iconst 0) 1 29 := by decide +kernel
theorem dX12_ripest_29 : dcd cX12_ripest 29 (.istore 5) 2 31 := by decide +kernel
theorem dX12_ripest_31 : dcd cX12_ripest 31 (.iload 5) 2 33 := by decide +kernel
theorem dX12_ripest_33 : dcd cX12_ripest 33 (.aload_n 0) 1 34 := by decide +kernel
theorem dX12_ripest_34 : dcd cX12_ripest 34 (.getfield 29) 3 37 := by decide +kernel
theorem dX12_ripest_37 : dcb cX12_ripest 37 (.if_icmp .ge (77)) (77) 114 40 := by decide +kernel
theorem dX12_ripest_40 : dcd cX12_ripest 40 (.aload_n 0) 1 41 := by decide +kernel
theorem dX12_ripest_41 : dcd cX12_ripest 41 (.iload 5) 2 43 := by decide +kernel
theorem dX12_ripest_43 : dcd cX12_ripest 43 (.iload_n 1) 1 44 := by decide +kernel
theorem dX12_ripest_44 : dcd cX12_ripest 44 (.invokevirtual 316) 3 47 := by decide +kernel
theorem dX12_ripest_47 : dcd cX12_ripest 47 (.istore 6) 2 49 := by decide +kernel
theorem dX12_ripest_49 : dcd cX12_ripest 49 (.aload_n 0) 1 50 := by decide +kernel
theorem dX12_ripest_50 : dcd cX12_ripest 50 (.iload 5) 2 52 := by decide +kernel
theorem dX12_ripest_52 : dcd cX12_ripest 52 (.invokevirtual 313) 3 55 := by decide +kernel
theorem dX12_ripest_55 : dcb cX12_ripest 55 (.ifCond .ne (7)) (7) 62 58 := by decide +kernel
theorem dX12_ripest_58 : dcd cX12_ripest 58 (.iconst 1) 1 59 := by decide +kernel
theorem dX12_ripest_59 : dcb cX12_ripest 59 (.goto (9)) (9) 68 62 := by decide +kernel
theorem dX12_ripest_62 : dcd cX12_ripest 62 (.aload_n 0) 1 63 := by decide +kernel
theorem dX12_ripest_63 : dcd cX12_ripest 63 (.iload 5) 2 65 := by decide +kernel
theorem dX12_ripest_65 : dcd cX12_ripest 65 (.invokevirtual 313) 3 68 := by decide +kernel
theorem dX12_ripest_68 : dcd cX12_ripest 68 (.istore 7) 2 70 := by decide +kernel
theorem dX12_ripest_70 : dcd cX12_ripest 70 (.aload_n 0) 1 71 := by decide +kernel
theorem dX12_ripest_71 : dcd cX12_ripest 71 (.getfield 44) 3 74 := by decide +kernel
theorem dX12_ripest_74 : dcd cX12_ripest 74 (.iload 5) 2 76 := by decide +kernel
theorem dX12_ripest_76 : dcd cX12_ripest 76 (.iaload) 1 77 := by decide +kernel
theorem dX12_ripest_77 : dcb cX12_ripest 77 (.ifCond .ne (31)) (31) 108 80 := by decide +kernel
theorem dX12_ripest_80 : dcd cX12_ripest 80 (.iload_n 2) 1 81 := by decide +kernel
theorem dX12_ripest_81 : dcd cX12_ripest 81 (.bipush (-9)) 2 83 := by decide +kernel
theorem dX12_ripest_83 : dcb cX12_ripest 83 (.if_icmp .eq (15)) (15) 98 86 := by decide +kernel
theorem dX12_ripest_86 : dcd cX12_ripest 86 (.iload 6) 2 88 := by decide +kernel
theorem dX12_ripest_88 : dcd cX12_ripest 88 (.iload 4) 2 90 := by decide +kernel
theorem dX12_ripest_90 : dcd cX12_ripest 90 (.imul) 1 91 := by decide +kernel
theorem dX12_ripest_91 : dcd cX12_ripest 91 (.iload_n 3) 1 92 := by decide +kernel
theorem dX12_ripest_92 : dcd cX12_ripest 92 (.iload 7) 2 94 := by decide +kernel
theorem dX12_ripest_94 : dcd cX12_ripest 94 (.imul) 1 95 := by decide +kernel
theorem dX12_ripest_95 : dcb cX12_ripest 95 (.if_icmp .le (13)) (13) 108 98 := by decide +kernel
theorem dX12_ripest_98 : dcd cX12_ripest 98 (.iload 5) 2 100 := by decide +kernel
theorem dX12_ripest_100 : dcd cX12_ripest 100 (.istore_n 2) 1 101 := by decide +kernel
theorem dX12_ripest_101 : dcd cX12_ripest 101 (.iload 6) 2 103 := by decide +kernel
theorem dX12_ripest_103 : dcd cX12_ripest 103 (.istore_n 3) 1 104 := by decide +kernel
theorem dX12_ripest_104 : dcd cX12_ripest 104 (.iload 7) 2 106 := by decide +kernel
theorem dX12_ripest_106 : dcd cX12_ripest 106 (.istore 4) 2 108 := by decide +kernel
theorem dX12_ripest_108 : dcd cX12_ripest 108 (.iinc 5 1) 3 111 := by decide +kernel
theorem dX12_ripest_111 : dcb cX12_ripest 111 (.goto (-80)) (-80) 31 114 := by decide +kernel
theorem dX12_ripest_114 : dcd cX12_ripest 114 (.iload_n 2) 1 115 := by decide +kernel
theorem dX12_ripest_115 : decode cX12_ripest 115 = .ok (.ireturn, 1) := by decide +kernel
theorem dX12_book_0 : dcd cX12_book 0 (.aload_n 0) 1 1 := by decide +kernel
theorem dX12_book_1 : dcd cX12_book 1 (.iconst 0) 1 2 := by decide +kernel
theorem dX12_book_2 : dcd cX12_book 2 (.putfield 1) 3 5 := by decide +kernel
theorem dX12_book_5 : dcd cX12_book 5 (.iload_n 1) 1 6 := by decide +kernel
theorem dX12_book_6 : dcd cX12_book 6 (.i2l) 1 7 := by decide +kernel
theorem dX12_book_7 : dcd cX12_book 7 (.lconst 0) 1 8 := by decide +kernel
theorem dX12_book_8 : dcd cX12_book 8 (.ldc2_w 200) 3 11 := by decide +kernel
theorem dX12_book_11 : dcd cX12_book 11 (.invokestatic 113) 3 14 := by decide +kernel
theorem dX12_book_14 : dcb cX12_book 14 (.ifCond .ne (6)) (6) 20 17 := by decide +kernel
theorem dX12_book_17 : dcd cX12_book 17 (.bipush (-2)) 2 19 := by decide +kernel
theorem dX12_book_19 : decode cX12_book 19 = .ok (.ireturn, 1) := by decide +kernel
theorem dX12_book_20 : dcd cX12_book 20 (.aload_n 0) 1 21 := by decide +kernel
theorem dX12_book_21 : dcd cX12_book 21 (.getfield 323) 3 24 := by decide +kernel
theorem dX12_book_24 : dcd cX12_book 24 (.bipush 16) 2 26 := by decide +kernel
theorem dX12_book_26 : dcb cX12_book 26 (.if_icmp .ne (6)) (6) 32 29 := by decide +kernel
theorem dX12_book_29 : dcd cX12_book 29 (.bipush (-4)) 2 31 := by decide +kernel
theorem dX12_book_31 : decode cX12_book 31 = .ok (.ireturn, 1) := by decide +kernel
theorem dX12_book_32 : dcd cX12_book 32 (.aload_n 0) 1 33 := by decide +kernel
theorem dX12_book_33 : dcd cX12_book 33 (.getfield 96) 3 36 := by decide +kernel
theorem dX12_book_36 : dcd cX12_book 36 (.aload_n 0) 1 37 := by decide +kernel
theorem dX12_book_37 : dcd cX12_book 37 (.getfield 323) 3 40 := by decide +kernel
theorem dX12_book_40 : dcd cX12_book 40 (.iload_n 1) 1 41 := by decide +kernel
theorem dX12_book_41 : dcd cX12_book 41 (.iastore) 1 42 := by decide +kernel
theorem dX12_book_42 : dcd cX12_book 42 (.aload_n 0) 1 43 := by decide +kernel
theorem dX12_book_43 : dcd cX12_book 43 (.dup) 1 44 := by decide +kernel
theorem dX12_book_44 : dcd cX12_book 44 (.getfield 323) 3 47 := by decide +kernel
theorem dX12_book_47 : dcd cX12_book 47 (.iconst 1) 1 48 := by decide +kernel
theorem dX12_book_48 : dcd cX12_book 48 (.iadd) 1 49 := by decide +kernel
theorem dX12_book_49 : dcd cX12_book 49 (.putfield 323) 3 52 := by decide +kernel
theorem dX12_book_52 : dcd cX12_book 52 (.aload_n 0) 1 53 := by decide +kernel
theorem dX12_book_53 : dcd cX12_book 53 (.getfield 323) 3 56 := by decide +kernel
theorem dX12_book_56 : decode cX12_book 56 = .ok (.ireturn, 1) := by decide +kernel
theorem dX12_earns_0 : dcd cX12_earns 0 (.iconst 0) 1 1 := by decide +kernel
theorem dX12_earns_1 : dcd cX12_earns 1 (.istore_n 2) 1 2 := by decide +kernel
theorem dX12_earns_2 : dcd cX12_earns 2 (.iconst 0) 1 3 := by decide +kernel
theorem dX12_earns_3 : dcd cX12_earns 3 (.istore_n 3) 1 4 := by decide +kernel
theorem dX12_earns_4 : dcd cX12_earns 4 (.iload_n 3) 1 5 := by decide +kernel
theorem dX12_earns_5 : dcd cX12_earns 5 (.aload_n 0) 1 6 := by decide +kernel
theorem dX12_earns_6 : dcd cX12_earns 6 (.getfield 323) 3 9 := by decide +kernel
theorem dX12_earns_9 : dcb cX12_earns 9 (.if_icmp .ge (28)) (28) 37 12 := by decide +kernel
theorem dX12_earns_12 : dcd cX12_earns 12 (.iload_n 2) 1 13 := by decide +kernel
theorem dX12_earns_13 : dcd cX12_earns 13 (.aload_n 0) 1 14 := by decide +kernel
theorem dX12_earns_14 : dcd cX12_earns 14 (.getfield 96) 3 17 := by decide +kernel
theorem dX12_earns_17 : dcd cX12_earns 17 (.iload_n 3) 1 18 := by decide +kernel
theorem dX12_earns_18 : dcd cX12_earns 18 (.iaload) 1 19 := by decide +kernel
theorem dX12_earns_19 : dcd cX12_earns 19 (.iload_n 1) 1 20 := by decide +kernel
theorem dX12_earns_20 : dcb cX12_earns 20 (.if_icmp .lt (7)) (7) 27 23 := by decide +kernel
theorem dX12_earns_23 : dcd cX12_earns 23 (.iload_n 1) 1 24 := by decide +kernel
theorem dX12_earns_24 : dcb cX12_earns 24 (.goto (5)) (5) 29 27 := by decide +kernel
theorem dX12_earns_27 : dcd cX12_earns 27 (.bipush (-12)) 2 29 := by decide +kernel
theorem dX12_earns_29 : dcd cX12_earns 29 (.iadd) 1 30 := by decide +kernel
theorem dX12_earns_30 : dcd cX12_earns 30 (.istore_n 2) 1 31 := by decide +kernel
theorem dX12_earns_31 : dcd cX12_earns 31 (.iinc 3 1) 3 34 := by decide +kernel
theorem dX12_earns_34 : dcb cX12_earns 34 (.goto (-30)) (-30) 4 37 := by decide +kernel
theorem dX12_earns_37 : dcd cX12_earns 37 (.iload_n 2) 1 38 := by decide +kernel
theorem dX12_earns_38 : decode cX12_earns 38 = .ok (.ireturn, 1) := by decide +kernel
theorem dX12_over_0 : dcd cX12_over 0 (.aload_n 0) 1 1 := by decide +kernel
theorem dX12_over_1 : dcd cX12_over 1 (.iconst 0) 1 2 := by decide +kernel
theorem dX12_over_2 : dcd cX12_over 2 (.putfield 1) 3 5 := by decide +kernel
theorem dX12_over_5 : dcd cX12_over 5 (.iload_n 1) 1 6 := by decide +kernel
theorem dX12_over_6 : dcd cX12_over 6 (.i2l) 1 7 := by decide +kernel
theorem dX12_over_7 : dcd cX12_over 7 (.lconst 0) 1 8 := by decide +kernel
theorem dX12_over_8 : dcd cX12_over 8 (.ldc2_w 200) 3 11 := by decide +kernel
theorem dX12_over_11 : dcd cX12_over 11 (.invokestatic 113) 3 14 := by decide +kernel
theorem dX12_over_14 : dcb cX12_over 14 (.ifCond .eq (15)) (15) 29 17 := by decide +kernel
theorem dX12_over_17 : dcd cX12_over 17 (.sipush 1000) 3 20 := by decide +kernel
theorem dX12_over_20 : dcd cX12_over 20 (.aload_n 0) 1 21 := by decide +kernel
theorem dX12_over_21 : dcd cX12_over 21 (.iload_n 1) 1 22 := by decide +kernel
theorem dX12_over_22 : dcd cX12_over 22 (.invokevirtual 326) 3 25 := by decide +kernel
theorem dX12_over_25 : dcd cX12_over 25 (.iadd) 1 26 := by decide +kernel
theorem dX12_over_26 : dcb cX12_over 26 (.goto (5)) (5) 31 29 := by decide +kernel
theorem dX12_over_29 : dcd cX12_over 29 (.bipush (-2)) 2 31 := by decide +kernel
theorem dX12_over_31 : decode cX12_over 31 = .ok (.ireturn, 1) := by decide +kernel
theorem dX12_bestOver_0 : dcd cX12_bestOver 0 (.aload_n 0) 1 1 := by decide +kernel
theorem dX12_bestOver_1 : dcd cX12_bestOver 1 (.iconst 0) 1 2 := by decide +kernel
theorem dX12_bestOver_2 : dcd cX12_bestOver 2 (.putfield 1) 3 5 := by decide +kernel
theorem dX12_bestOver_5 : dcd cX12_bestOver 5 (.iconst 0) 1 6 := by decide +kernel
theorem dX12_bestOver_6 : dcd cX12_bestOver 6 (.istore_n 1) 1 7 := by decide +kernel
theorem dX12_bestOver_7 : dcd cX12_bestOver 7 (.iconst 1) 1 8 := by decide +kernel
theorem dX12_bestOver_8 : dcd cX12_bestOver 8 (.istore_n 2) 1 9 := by decide +kernel
theorem dX12_bestOver_9 : dcd cX12_bestOver 9 (.iload_n 2) 1 10 := by decide +kernel
theorem dX12_bestOver_10 : dcd cX12_bestOver 10 (.bipush 100) 2 12 := by decide +kernel
theorem dX12_bestOver_12 : dcb cX12_bestOver 12 (.if_icmp .ge (28)) (28) 40 15 := by decide +kernel
theorem dX12_bestOver_15 : dcd cX12_bestOver 15 (.aload_n 0) 1 16 := by decide +kernel
theorem dX12_bestOver_16 : dcd cX12_bestOver 16 (.iload_n 2) 1 17 := by decide +kernel
theorem dX12_bestOver_17 : dcd cX12_bestOver 17 (.invokevirtual 326) 3 20 := by decide +kernel
theorem dX12_bestOver_20 : dcd cX12_bestOver 20 (.aload_n 0) 1 21 := by decide +kernel
theorem dX12_bestOver_21 : dcd cX12_bestOver 21 (.iload_n 1) 1 22 := by decide +kernel
theorem dX12_bestOver_22 : dcd cX12_bestOver 22 (.invokevirtual 326) 3 25 := by decide +kernel
theorem dX12_bestOver_25 : dcb cX12_bestOver 25 (.if_icmp .le (7)) (7) 32 28 := by decide +kernel
theorem dX12_bestOver_28 : dcd cX12_bestOver 28 (.iload_n 2) 1 29 := by decide +kernel
theorem dX12_bestOver_29 : dcb cX12_bestOver 29 (.goto (4)) (4) 33 32 := by decide +kernel
theorem dX12_bestOver_32 : dcd cX12_bestOver 32 (.iload_n 1) 1 33 := by decide +kernel
theorem dX12_bestOver_33 : dcd cX12_bestOver 33 (.istore_n 1) 1 34 := by decide +kernel
theorem dX12_bestOver_34 : dcd cX12_bestOver 34 (.iinc 2 1) 3 37 := by decide +kernel
theorem dX12_bestOver_37 : dcb cX12_bestOver 37 (.goto (-28)) (-28) 9 40 := by decide +kernel
theorem dX12_bestOver_40 : dcd cX12_bestOver 40 (.iload_n 1) 1 41 := by decide +kernel
theorem dX12_bestOver_41 : decode cX12_bestOver 41 = .ok (.ireturn, 1) := by decide +kernel
theorem dX12_taste_0 : dcd cX12_taste 0 (.aload_n 0) 1 1 := by decide +kernel
theorem dX12_taste_1 : dcd cX12_taste 1 (.iconst 0) 1 2 := by decide +kernel
theorem dX12_taste_2 : dcd cX12_taste 2 (.putfield 1) 3 5 := by decide +kernel
theorem dX12_taste_5 : dcd cX12_taste 5 (.iload_n 1) 1 6 := by decide +kernel
theorem dX12_taste_6 : dcd cX12_taste 6 (.i2l) 1 7 := by decide +kernel
theorem dX12_taste_7 : dcd cX12_taste 7 (.lconst 0) 1 8 := by decide +kernel
theorem dX12_taste_8 : dcd cX12_taste 8 (.ldc2_w 329) 3 11 := by decide +kernel
theorem dX12_taste_11 : dcd cX12_taste 11 (.invokestatic 113) 3 14 := by decide +kernel
theorem dX12_taste_14 : dcb cX12_taste 14 (.ifCond .ne (6)) (6) 20 17 := by decide +kernel
theorem dX12_taste_17 : dcd cX12_taste 17 (.bipush (-2)) 2 19 := by decide +kernel
theorem dX12_taste_19 : decode cX12_taste 19 = .ok (.ireturn, 1) := by decide +kernel
theorem dX12_taste_20 : dcd cX12_taste 20 (.aload_n 0) 1 21 := by decide +kernel
theorem dX12_taste_21 : dcd cX12_taste 21 (.getfield 99) 3 24 := by decide +kernel
theorem dX12_taste_24 : dcd cX12_taste 24 (.iload_n 1) 1 25 := by decide +kernel
theorem dX12_taste_25 : dcd cX12_taste 25 (.dup2) 1 26 := by decide +kernel
theorem dX12_taste_26 : dcd cX12_taste 26 (.iaload) 1 27 := by decide +kernel
theorem dX12_taste_27 : dcd cX12_taste 27 (.iconst 1) 1 28 := by decide +kernel
theorem dX12_taste_28 : dcd cX12_taste 28 (.iadd) 1 29 := by decide +kernel
theorem dX12_taste_29 : dcd cX12_taste 29 (.iastore) 1 30 := by decide +kernel
theorem dX12_taste_30 : dcd cX12_taste 30 (.aload_n 0) 1 31 := by decide +kernel
theorem dX12_taste_31 : dcd cX12_taste 31 (.getfield 102) 3 34 := by decide +kernel
theorem dX12_taste_34 : dcd cX12_taste 34 (.iload_n 1) 1 35 := by decide +kernel
theorem dX12_taste_35 : dcd cX12_taste 35 (.dup2) 1 36 := by decide +kernel
theorem dX12_taste_36 : dcd cX12_taste 36 (.iaload) 1 37 := by decide +kernel
theorem dX12_taste_37 : dcd cX12_taste 37 (.iload_n 2) 1 38 := by decide +kernel
theorem dX12_taste_38 : dcb cX12_taste 38 (.ifCond .eq (7)) (7) 45 41 := by decide +kernel
theorem dX12_taste_41 : dcd cX12_taste 41 (.iconst 1) 1 42 := by decide +kernel
theorem dX12_taste_42 : dcb cX12_taste 42 (.goto (4)) (4) 46 45 := by decide +kernel
theorem dX12_taste_45 : dcd cX12_taste 45 (.iconst 0) 1 46 := by decide +kernel
theorem dX12_taste_46 : dcd cX12_taste 46 (.iadd) 1 47 := by decide +kernel
theorem dX12_taste_47 : dcd cX12_taste 47 (.iastore) 1 48 := by decide +kernel
theorem dX12_taste_48 : dcd cX12_taste 48 (.aload_n 0) 1 49 := by decide +kernel
theorem dX12_taste_49 : dcd cX12_taste 49 (.getfield 99) 3 52 := by decide +kernel
theorem dX12_taste_52 : dcd cX12_taste 52 (.iload_n 1) 1 53 := by decide +kernel
theorem dX12_taste_53 : dcd cX12_taste 53 (.iaload) 1 54 := by decide +kernel
theorem dX12_taste_54 : decode cX12_taste 54 = .ok (.ireturn, 1) := by decide +kernel
theorem dX12_gain_0 : dcd cX12_gain 0 (.bipush 20) 2 2 := by decide +kernel
theorem dX12_gain_2 : dcd cX12_gain 2 (.aload_n 0) 1 3 := by decide +kernel
theorem dX12_gain_3 : dcd cX12_gain 3 (.getfield 102) 3 6 := by decide +kernel
theorem dX12_gain_6 : dcd cX12_gain 6 (.iload_n 1) 1 7 := by decide +kernel
theorem dX12_gain_7 : dcd cX12_gain 7 (.iaload) 1 8 := by decide +kernel
theorem dX12_gain_8 : dcd cX12_gain 8 (.iconst 1) 1 9 := by decide +kernel
theorem dX12_gain_9 : dcd cX12_gain 9 (.iadd) 1 10 := by decide +kernel
theorem dX12_gain_10 : dcd cX12_gain 10 (.imul) 1 11 := by decide +kernel
theorem dX12_gain_11 : dcd cX12_gain 11 (.iload_n 1) 1 12 := by decide +kernel
theorem dX12_gain_12 : dcd cX12_gain 12 (.aload_n 0) 1 13 := by decide +kernel
theorem dX12_gain_13 : dcd cX12_gain 13 (.getfield 99) 3 16 := by decide +kernel
theorem dX12_gain_16 : dcd cX12_gain 16 (.iload_n 1) 1 17 := by decide +kernel
theorem dX12_gain_17 : dcd cX12_gain 17 (.iaload) 1 18 := by decide +kernel
theorem dX12_gain_18 : dcd cX12_gain 18 (.iconst 2) 1 19 := by decide +kernel
theorem dX12_gain_19 : dcd cX12_gain 19 (.iadd) 1 20 := by decide +kernel
theorem dX12_gain_20 : dcd cX12_gain 20 (.imul) 1 21 := by decide +kernel
theorem dX12_gain_21 : dcd cX12_gain 21 (.isub) 1 22 := by decide +kernel
theorem dX12_gain_22 : decode cX12_gain 22 = .ok (.ireturn, 1) := by decide +kernel
theorem dX12_brings_0 : dcd cX12_brings 0 (.aload_n 0) 1 1 := by decide +kernel
theorem dX12_brings_1 : dcd cX12_brings 1 (.iconst 0) 1 2 := by decide +kernel
theorem dX12_brings_2 : dcd cX12_brings 2 (.putfield 1) 3 5 := by decide +kernel
theorem dX12_brings_5 : dcd cX12_brings 5 (.iload_n 1) 1 6 := by decide +kernel
theorem dX12_brings_6 : dcd cX12_brings 6 (.i2l) 1 7 := by decide +kernel
theorem dX12_brings_7 : dcd cX12_brings 7 (.lconst 0) 1 8 := by decide +kernel
theorem dX12_brings_8 : dcd cX12_brings 8 (.ldc2_w 329) 3 11 := by decide +kernel
theorem dX12_brings_11 : dcd cX12_brings 11 (.invokestatic 113) 3 14 := by decide +kernel
theorem dX12_brings_14 : dcb cX12_brings 14 (.ifCond .ne (7)) (7) 21 17 := by decide +kernel
theorem dX12_brings_17 : dcd cX12_brings 17 (.ldc2_w 311) 3 20 := by decide +kernel
theorem dX12_brings_20 : decode cX12_brings 20 = .ok (.lreturn, 1) := by decide +kernel
theorem dX12_brings_21 : dcd cX12_brings 21 (.aload_n 0) 1 22 := by decide +kernel
theorem dX12_brings_22 : dcd cX12_brings 22 (.iload_n 1) 1 23 := by decide +kernel
theorem dX12_brings_23 : dcd cX12_brings 23 (.invokevirtual 331) 3 26 := by decide +kernel
theorem dX12_brings_26 : dcd cX12_brings 26 (.i2l) 1 27 := by decide +kernel
theorem dX12_brings_27 : dcd cX12_brings 27 (.aload_n 0) 1 28 := by decide +kernel
theorem dX12_brings_28 : dcd cX12_brings 28 (.getfield 99) 3 31 := by decide +kernel
theorem dX12_brings_31 : dcd cX12_brings 31 (.iload_n 1) 1 32 := by decide +kernel
theorem dX12_brings_32 : dcd cX12_brings 32 (.iaload) 1 33 := by decide +kernel
theorem dX12_brings_33 : dcd cX12_brings 33 (.iconst 2) 1 34 := by decide +kernel
theorem dX12_brings_34 : dcd cX12_brings 34 (.iadd) 1 35 := by decide +kernel
theorem dX12_brings_35 : dcd cX12_brings 35 (.i2l) 1 36 := by decide +kernel
theorem dX12_brings_36 : dcd cX12_brings 36 (.invokestatic 319) 3 39 := by decide +kernel
theorem dX12_brings_39 : dcd cX12_brings 39 (.lstore_n 3) 1 40 := by decide +kernel
theorem dX12_brings_40 : dcd cX12_brings 40 (.iload_n 2) 1 41 := by decide +kernel
theorem dX12_brings_41 : dcb cX12_brings 41 (.ifCond .eq (18)) (18) 59 44 := by decide +kernel
theorem dX12_brings_44 : dcd cX12_brings 44 (.ldc2_w 334) 3 47 := by decide +kernel
theorem dX12_brings_47 : dcd cX12_brings 47 (.aload_n 0) 1 48 := by decide +kernel
theorem dX12_brings_48 : dcd cX12_brings 48 (.iload_n 1) 1 49 := by decide +kernel
theorem dX12_brings_49 : dcd cX12_brings 49 (.invokevirtual 331) 3 52 := by decide +kernel
theorem dX12_brings_52 : dcd cX12_brings 52 (.i2l) 1 53 := by decide +kernel
theorem dX12_brings_53 : dcd cX12_brings 53 (.lload_n 3) 1 54 := by decide +kernel
theorem dX12_brings_54 : dcd cX12_brings 54 (.ldiv) 1 55 := by decide +kernel
theorem dX12_brings_55 : dcd cX12_brings 55 (.ladd) 1 56 := by decide +kernel
theorem dX12_brings_56 : dcb cX12_brings 56 (.goto (14)) (14) 70 59 := by decide +kernel
theorem dX12_brings_59 : dcd cX12_brings 59 (.aload_n 0) 1 60 := by decide +kernel
theorem dX12_brings_60 : dcd cX12_brings 60 (.getfield 99) 3 63 := by decide +kernel
theorem dX12_brings_63 : dcd cX12_brings 63 (.iload_n 1) 1 64 := by decide +kernel
theorem dX12_brings_64 : dcd cX12_brings 64 (.iaload) 1 65 := by decide +kernel
theorem dX12_brings_65 : dcd cX12_brings 65 (.iconst 2) 1 66 := by decide +kernel
theorem dX12_brings_66 : dcd cX12_brings 66 (.iadd) 1 67 := by decide +kernel
theorem dX12_brings_67 : dcd cX12_brings 67 (.i2l) 1 68 := by decide +kernel
theorem dX12_brings_68 : dcd cX12_brings 68 (.lload_n 3) 1 69 := by decide +kernel
theorem dX12_brings_69 : dcd cX12_brings 69 (.ldiv) 1 70 := by decide +kernel
theorem dX12_brings_70 : decode cX12_brings 70 = .ok (.lreturn, 1) := by decide +kernel
theorem dX12_bestTaste_0 : dcd cX12_bestTaste 0 (.aload_n 0) 1 1 := by decide +kernel
theorem dX12_bestTaste_1 : dcd cX12_bestTaste 1 (.iconst 0) 1 2 := by decide +kernel
theorem dX12_bestTaste_2 : dcd cX12_bestTaste 2 (.putfield 1) 3 5 := by decide +kernel
theorem dX12_bestTaste_5 : dcd cX12_bestTaste 5 (.iconst 0) 1 6 := by decide +kernel
theorem dX12_bestTaste_6 : dcd cX12_bestTaste 6 (.istore_n 1) 1 7 := by decide +kernel
theorem dX12_bestTaste_7 : dcd cX12_bestTaste 7 (.iconst 1) 1 8 := by decide +kernel
theorem dX12_bestTaste_8 : dcd cX12_bestTaste 8 (.istore_n 2) 1 9 := by decide +kernel
theorem dX12_bestTaste_9 : dcd cX12_bestTaste 9 (.iload_n 2) 1 10 := by decide +kernel
theorem dX12_bestTaste_10 : dcd cX12_bestTaste 10 (.bipush 10) 2 12 := by decide +kernel
theorem dX12_bestTaste_12 : dcb cX12_bestTaste 12 (.if_icmp .ge (53)) (53) 65 15 := by decide +kernel
theorem dX12_bestTaste_15 : dcd cX12_bestTaste 15 (.aload_n 0) 1 16 := by decide +kernel
theorem dX12_bestTaste_16 : dcd cX12_bestTaste 16 (.iload_n 2) 1 17 := by decide +kernel
theorem dX12_bestTaste_17 : dcd cX12_bestTaste 17 (.invokevirtual 331) 3 20 := by decide +kernel
theorem dX12_bestTaste_20 : dcd cX12_bestTaste 20 (.i2l) 1 21 := by decide +kernel
theorem dX12_bestTaste_21 : dcd cX12_bestTaste 21 (.aload_n 0) 1 22 := by decide +kernel
theorem dX12_bestTaste_22 : dcd cX12_bestTaste 22 (.getfield 99) 3 25 := by decide +kernel
theorem dX12_bestTaste_25 : dcd cX12_bestTaste 25 (.iload_n 1) 1 26 := by decide +kernel
theorem dX12_bestTaste_26 : dcd cX12_bestTaste 26 (.iaload) 1 27 := by decide +kernel
theorem dX12_bestTaste_27 : dcd cX12_bestTaste 27 (.iconst 2) 1 28 := by decide +kernel
theorem dX12_bestTaste_28 : dcd cX12_bestTaste 28 (.iadd) 1 29 := by decide +kernel
theorem dX12_bestTaste_29 : dcd cX12_bestTaste 29 (.i2l) 1 30 := by decide +kernel
theorem dX12_bestTaste_30 : dcd cX12_bestTaste 30 (.lmul) 1 31 := by decide +kernel
theorem dX12_bestTaste_31 : dcd cX12_bestTaste 31 (.lstore_n 3) 1 32 := by decide +kernel
theorem dX12_bestTaste_32 : dcd cX12_bestTaste 32 (.lload_n 3) 1 33 := by decide +kernel
theorem dX12_bestTaste_33 : dcd cX12_bestTaste 33 (.aload_n 0) 1 34 := by decide +kernel
theorem dX12_bestTaste_34 : dcd cX12_bestTaste 34 (.iload_n 1) 1 35 := by decide +kernel
theorem dX12_bestTaste_35 : dcd cX12_bestTaste 35 (.invokevirtual 331) 3 38 := by decide +kernel
theorem dX12_bestTaste_38 : dcd cX12_bestTaste 38 (.i2l) 1 39 := by decide +kernel
theorem dX12_bestTaste_39 : dcd cX12_bestTaste 39 (.aload_n 0) 1 40 := by decide +kernel
theorem dX12_bestTaste_40 : dcd cX12_bestTaste 40 (.getfield 99) 3 43 := by decide +kernel
theorem dX12_bestTaste_43 : dcd cX12_bestTaste 43 (.iload_n 2) 1 44 := by decide +kernel
theorem dX12_bestTaste_44 : dcd cX12_bestTaste 44 (.iaload) 1 45 := by decide +kernel
theorem dX12_bestTaste_45 : dcd cX12_bestTaste 45 (.iconst 2) 1 46 := by decide +kernel
theorem dX12_bestTaste_46 : dcd cX12_bestTaste 46 (.iadd) 1 47 := by decide +kernel
theorem dX12_bestTaste_47 : dcd cX12_bestTaste 47 (.i2l) 1 48 := by decide +kernel
theorem dX12_bestTaste_48 : dcd cX12_bestTaste 48 (.lmul) 1 49 := by decide +kernel
theorem dX12_bestTaste_49 : dcd cX12_bestTaste 49 (.lcmp) 1 50 := by decide +kernel
theorem dX12_bestTaste_50 : dcb cX12_bestTaste 50 (.ifCond .le (7)) (7) 57 53 := by decide +kernel
theorem dX12_bestTaste_53 : dcd cX12_bestTaste 53 (.iload_n 2) 1 54 := by decide +kernel
theorem dX12_bestTaste_54 : dcb cX12_bestTaste 54 (.goto (4)) (4) 58 57 := by decide +kernel
theorem dX12_bestTaste_57 : dcd cX12_bestTaste 57 (.iload_n 1) 1 58 := by decide +kernel
theorem dX12_bestTaste_58 : dcd cX12_bestTaste 58 (.istore_n 1) 1 59 := by decide +kernel
theorem dX12_bestTaste_59 : dcd cX12_bestTaste 59 (.iinc 2 1) 3 62 := by decide +kernel
theorem dX12_bestTaste_62 : dcb cX12_bestTaste 62 (.goto (-53)) (-53) 9 65 := by decide +kernel
theorem dX12_bestTaste_65 : dcd cX12_bestTaste 65 (.iload_n 1) 1 66 := by decide +kernel
theorem dX12_bestTaste_66 : decode cX12_bestTaste 66 = .ok (.ireturn, 1) := by decide +kernel
theorem dX12_prices_0 : dcd cX12_prices 0 (.aload_n 0) 1 1 := by decide +kernel
theorem dX12_prices_1 : dcd cX12_prices 1 (.iconst 0) 1 2 := by decide +kernel
theorem dX12_prices_2 : dcd cX12_prices 2 (.putfield 1) 3 5 := by decide +kernel
theorem dX12_prices_5 : dcd cX12_prices 5 (.iload_n 1) 1 6 := by decide +kernel
theorem dX12_prices_6 : dcd cX12_prices 6 (.i2l) 1 7 := by decide +kernel
theorem dX12_prices_7 : dcd cX12_prices 7 (.lconst 1) 1 8 := by decide +kernel
theorem dX12_prices_8 : dcd cX12_prices 8 (.ldc2_w 329) 3 11 := by decide +kernel
theorem dX12_prices_11 : dcd cX12_prices 11 (.invokestatic 113) 3 14 := by decide +kernel
theorem dX12_prices_14 : dcb cX12_prices 14 (.ifCond .eq (15)) (15) 29 17 := by decide +kernel
theorem dX12_prices_17 : dcd cX12_prices 17 (.iload_n 2) 1 18 := by decide +kernel
theorem dX12_prices_18 : dcd cX12_prices 18 (.i2l) 1 19 := by decide +kernel
theorem dX12_prices_19 : dcd cX12_prices 19 (.lconst 0) 1 20 := by decide +kernel
theorem dX12_prices_20 : dcd cX12_prices 20 (.ldc2_w 329) 3 23 := by decide +kernel
theorem dX12_prices_23 : dcd cX12_prices 23 (.invokestatic 113) 3 26 := by decide +kernel
theorem dX12_prices_26 : dcb cX12_prices 26 (.ifCond .ne (6)) (6) 32 29 := by decide +kernel
theorem dX12_prices_29 : dcd cX12_prices 29 (.bipush (-2)) 2 31 := by decide +kernel
theorem dX12_prices_31 : decode cX12_prices 31 = .ok (.ireturn, 1) := by decide +kernel
theorem dX12_prices_32 : dcd cX12_prices 32 (.bipush 10) 2 34 := by decide +kernel
theorem dX12_prices_34 : dcd cX12_prices 34 (.aload_n 0) 1 35 := by decide +kernel
theorem dX12_prices_35 : dcd cX12_prices 35 (.getfield 105) 3 38 := by decide +kernel
theorem dX12_prices_38 : dcd cX12_prices 38 (.imul) 1 39 := by decide +kernel
theorem dX12_prices_39 : dcd cX12_prices 39 (.aload_n 0) 1 40 := by decide +kernel
theorem dX12_prices_40 : dcd cX12_prices 40 (.getfield 108) 3 43 := by decide +kernel
theorem dX12_prices_43 : dcd cX12_prices 43 (.iadd) 1 44 := by decide +kernel
theorem dX12_prices_44 : dcd cX12_prices 44 (.istore_n 3) 1 45 := by decide +kernel
theorem dX12_prices_45 : dcd cX12_prices 45 (.aload_n 0) 1 46 := by decide +kernel
theorem dX12_prices_46 : dcd cX12_prices 46 (.iload_n 1) 1 47 := by decide +kernel
theorem dX12_prices_47 : dcd cX12_prices 47 (.putfield 105) 3 50 := by decide +kernel
theorem dX12_prices_50 : dcd cX12_prices 50 (.aload_n 0) 1 51 := by decide +kernel
theorem dX12_prices_51 : dcd cX12_prices 51 (.iload_n 2) 1 52 := by decide +kernel
theorem dX12_prices_52 : dcd cX12_prices 52 (.putfield 108) 3 55 := by decide +kernel
theorem dX12_prices_55 : dcd cX12_prices 55 (.iload_n 3) 1 56 := by decide +kernel
theorem dX12_prices_56 : decode cX12_prices 56 = .ok (.ireturn, 1) := by decide +kernel
theorem dX12_worth_0 : dcd cX12_worth 0 (.aload_n 0) 1 1 := by decide +kernel
theorem dX12_worth_1 : dcd cX12_worth 1 (.iconst 0) 1 2 := by decide +kernel
theorem dX12_worth_2 : dcd cX12_worth 2 (.putfield 1) 3 5 := by decide +kernel
theorem dX12_worth_5 : dcd cX12_worth 5 (.iconst 0) 1 6 := by decide +kernel
theorem dX12_worth_6 : dcd cX12_worth 6 (.istore_n 1) 1 7 := by decide +kernel
theorem dX12_worth_7 : dcd cX12_worth 7 (.iconst 0) 1 8 := by decide +kernel
theorem dX12_worth_8 : dcd cX12_worth 8 (.istore_n 2) 1 9 := by decide +kernel
theorem dX12_worth_9 : dcd cX12_worth 9 (.iload_n 2) 1 10 := by decide +kernel
theorem dX12_worth_10 : dcd cX12_worth 10 (.aload_n 0) 1 11 := by decide +kernel
theorem dX12_worth_11 : dcd cX12_worth 11 (.getfield 29) 3 14 := by decide +kernel
theorem dX12_worth_14 : dcb cX12_worth 14 (.if_icmp .ge (50)) (50) 64 17 := by decide +kernel
theorem dX12_worth_17 : dcd cX12_worth 17 (.iload_n 1) 1 18 := by decide +kernel
theorem dX12_worth_18 : dcd cX12_worth 18 (.aload_n 0) 1 19 := by decide +kernel
theorem dX12_worth_19 : dcd cX12_worth 19 (.getfield 44) 3 22 := by decide +kernel
theorem dX12_worth_22 : dcd cX12_worth 22 (.iload_n 2) 1 23 := by decide +kernel
theorem dX12_worth_23 : dcd cX12_worth 23 (.iaload) 1 24 := by decide +kernel
theorem dX12_worth_24 : dcb cX12_worth 24 (.ifCond .eq (7)) (7) 31 27 := by decide +kernel
theorem dX12_worth_27 : dcd cX12_worth 27 (.iconst 0) 1 28 := by decide +kernel
theorem dX12_worth_28 : dcb cX12_worth 28 (.goto (28)) (28) 56 31 := by decide +kernel
theorem dX12_worth_31 : dcd cX12_worth 31 (.aload_n 0) 1 32 := by decide +kernel
theorem dX12_worth_32 : dcd cX12_worth 32 (.iload_n 2) 1 33 := by decide +kernel
theorem dX12_worth_33 : dcd cX12_worth 33 (.invokevirtual 191) 3 36 := by decide +kernel
theorem dX12_worth_36 : dcd cX12_worth 36 (.aload_n 0) 1 37 := by decide +kernel
theorem dX12_worth_37 : dcd cX12_worth 37 (.iload_n 2) 1 38 := by decide +kernel
theorem dX12_worth_38 : dcd cX12_worth 38 (.invokevirtual 188) 3 41 := by decide +kernel
theorem dX12_worth_41 : dcb cX12_worth 41 (.ifCond .eq (10)) (10) 51 44 := by decide +kernel
theorem dX12_worth_44 : dcd cX12_worth 44 (.aload_n 0) 1 45 := by decide +kernel
theorem dX12_worth_45 : dcd cX12_worth 45 (.getfield 108) 3 48 := by decide +kernel
theorem dX12_worth_48 : dcb cX12_worth 48 (.goto (7)) (7) 55 51 := by decide +kernel
theorem dX12_worth_51 : dcd cX12_worth 51 (.aload_n 0) 1 52 := by decide +kernel
theorem dX12_worth_52 : dcd cX12_worth 52 (.getfield 105) 3 55 := by decide +kernel
theorem dX12_worth_55 : dcd cX12_worth 55 (.imul) 1 56 := by decide +kernel
theorem dX12_worth_56 : dcd cX12_worth 56 (.iadd) 1 57 := by decide +kernel
theorem dX12_worth_57 : dcd cX12_worth 57 (.istore_n 1) 1 58 := by decide +kernel
theorem dX12_worth_58 : dcd cX12_worth 58 (.iinc 2 1) 3 61 := by decide +kernel
theorem dX12_worth_61 : dcb cX12_worth 61 (.goto (-52)) (-52) 9 64 := by decide +kernel
theorem dX12_worth_64 : dcd cX12_worth 64 (.iload_n 1) 1 65 := by decide +kernel
theorem dX12_worth_65 : decode cX12_worth 65 = .ok (.ireturn, 1) := by decide +kernel
theorem dX12_standing_0 : dcd cX12_standing 0 (.iconst 0) 1 1 := by decide +kernel
theorem dX12_standing_1 : dcd cX12_standing 1 (.istore_n 1) 1 2 := by decide +kernel
theorem dX12_standing_2 : dcd cX12_standing 2 (.iconst 0) 1 3 := by decide +kernel
theorem dX12_standing_3 : dcd cX12_standing 3 (.istore_n 2) 1 4 := by decide +kernel
theorem dX12_standing_4 : dcd cX12_standing 4 (.iload_n 2) 1 5 := by decide +kernel
theorem dX12_standing_5 : dcd cX12_standing 5 (.aload_n 0) 1 6 := by decide +kernel
theorem dX12_standing_6 : dcd cX12_standing 6 (.getfield 29) 3 9 := by decide +kernel
theorem dX12_standing_9 : dcb cX12_standing 9 (.if_icmp .ge (26)) (26) 35 12 := by decide +kernel
theorem dX12_standing_12 : dcd cX12_standing 12 (.iload_n 1) 1 13 := by decide +kernel
theorem dX12_standing_13 : dcd cX12_standing 13 (.aload_n 0) 1 14 := by decide +kernel
theorem dX12_standing_14 : dcd cX12_standing 14 (.getfield 44) 3 17 := by decide +kernel
theorem dX12_standing_17 : dcd cX12_standing 17 (.iload_n 2) 1 18 := by decide +kernel
theorem dX12_standing_18 : dcd cX12_standing 18 (.iaload) 1 19 := by decide +kernel
theorem dX12_standing_19 : dcb cX12_standing 19 (.ifCond .ne (7)) (7) 26 22 := by decide +kernel
theorem dX12_standing_22 : dcd cX12_standing 22 (.iconst 1) 1 23 := by decide +kernel
theorem dX12_standing_23 : dcb cX12_standing 23 (.goto (4)) (4) 27 26 := by decide +kernel
theorem dX12_standing_26 : dcd cX12_standing 26 (.iconst 0) 1 27 := by decide +kernel
theorem dX12_standing_27 : dcd cX12_standing 27 (.iadd) 1 28 := by decide +kernel
theorem dX12_standing_28 : dcd cX12_standing 28 (.istore_n 1) 1 29 := by decide +kernel
theorem dX12_standing_29 : dcd cX12_standing 29 (.iinc 2 1) 3 32 := by decide +kernel
theorem dX12_standing_32 : dcb cX12_standing 32 (.goto (-28)) (-28) 4 35 := by decide +kernel
theorem dX12_standing_35 : dcd cX12_standing 35 (.iload_n 1) 1 36 := by decide +kernel
theorem dX12_standing_36 : decode cX12_standing 36 = .ok (.ireturn, 1) := by decide +kernel
theorem dX12_keep_0 : dcd cX12_keep 0 (.aload_n 0) 1 1 := by decide +kernel
theorem dX12_keep_1 : dcd cX12_keep 1 (.iconst 0) 1 2 := by decide +kernel
theorem dX12_keep_2 : dcd cX12_keep 2 (.putfield 1) 3 5 := by decide +kernel
theorem dX12_keep_5 : dcd cX12_keep 5 (.iload_n 1) 1 6 := by decide +kernel
theorem dX12_keep_6 : dcd cX12_keep 6 (.i2l) 1 7 := by decide +kernel
theorem dX12_keep_7 : dcd cX12_keep 7 (.lconst 0) 1 8 := by decide +kernel
theorem dX12_keep_8 : dcd cX12_keep 8 (.lconst 1) 1 9 := by decide +kernel
theorem dX12_keep_9 : dcd cX12_keep 9 (.invokestatic 113) 3 12 := by decide +kernel
theorem dX12_keep_12 : dcb cX12_keep 12 (.ifCond .ne (5)) (5) 17 15 := by decide +kernel
theorem dX12_keep_15 : dcd cX12_keep 15 (.iconst (-1)) 1 16 := by decide +kernel
theorem dX12_keep_16 : decode cX12_keep 16 = .ok (.ireturn, 1) := by decide +kernel
theorem dX12_keep_17 : dcd cX12_keep 17 (.aload_n 0) 1 18 := by decide +kernel
theorem dX12_keep_18 : dcd cX12_keep 18 (.getfield 62) 3 21 := by decide +kernel
theorem dX12_keep_21 : dcd cX12_keep 21 (.iload_n 1) 1 22 := by decide +kernel
theorem dX12_keep_22 : dcd cX12_keep 22 (.iconst 1) 1 23 := by decide +kernel
theorem dX12_keep_23 : dcd cX12_keep 23 (.bastore) 1 24 := by decide +kernel
theorem dX12_keep_24 : dcd cX12_keep 24 (.aload_n 0) 1 25 := by decide +kernel
theorem dX12_keep_25 : dcd cX12_keep 25 (.invokevirtual 244) 3 28 := by decide +kernel
theorem dX12_keep_28 : dcd cX12_keep 28 (.iconst 0) 1 29 := by decide +kernel
theorem dX12_keep_29 : dcd cX12_keep 29 (.istore_n 2) 1 30 := by decide +kernel
theorem dX12_keep_30 : dcd cX12_keep 30 (.iload_n 2) 1 31 := by decide +kernel
theorem dX12_keep_31 : dcd cX12_keep 31 (.sipush 266) 3 34 := by decide +kernel
theorem dX12_keep_34 : dcb cX12_keep 34 (.if_icmp .ge (27)) (27) 61 37 := by decide +kernel
theorem dX12_keep_37 : dcd cX12_keep 37 (.aload_n 0) 1 38 := by decide +kernel
theorem dX12_keep_38 : dcd cX12_keep 38 (.getfield 59) 3 41 := by decide +kernel
theorem dX12_keep_41 : dcd cX12_keep 41 (.sipush 266) 3 44 := by decide +kernel
theorem dX12_keep_44 : dcd cX12_keep 44 (.iload_n 1) 1 45 := by decide +kernel
theorem dX12_keep_45 : dcd cX12_keep 45 (.imul) 1 46 := by decide +kernel
theorem dX12_keep_46 : dcd cX12_keep 46 (.iload_n 2) 1 47 := by decide +kernel
theorem dX12_keep_47 : dcd cX12_keep 47 (.iadd) 1 48 := by decide +kernel
theorem dX12_keep_48 : dcd cX12_keep 48 (.aload_n 0) 1 49 := by decide +kernel
theorem dX12_keep_49 : dcd cX12_keep 49 (.getfield 56) 3 52 := by decide +kernel
theorem dX12_keep_52 : dcd cX12_keep 52 (.iload_n 2) 1 53 := by decide +kernel
theorem dX12_keep_53 : dcd cX12_keep 53 (.iaload) 1 54 := by decide +kernel
theorem dX12_keep_54 : dcd cX12_keep 54 (.iastore) 1 55 := by decide +kernel
theorem dX12_keep_55 : dcd cX12_keep 55 (.iinc 2 1) 3 58 := by decide +kernel
theorem dX12_keep_58 : dcb cX12_keep 58 (.goto (-28)) (-28) 30 61 := by decide +kernel
theorem dX12_keep_61 : dcd cX12_keep 61 (.aload_n 0) 1 62 := by decide +kernel
theorem dX12_keep_62 : dcd cX12_keep 62 (.invokevirtual 336) 3 65 := by decide +kernel
theorem dX12_keep_65 : decode cX12_keep 65 = .ok (.ireturn, 1) := by decide +kernel
theorem dX12_again_0 : dcd cX12_again 0 (.aload_n 0) 1 1 := by decide +kernel
theorem dX12_again_1 : dcd cX12_again 1 (.iconst 0) 1 2 := by decide +kernel
theorem dX12_again_2 : dcd cX12_again 2 (.putfield 1) 3 5 := by decide +kernel
theorem dX12_again_5 : dcd cX12_again 5 (.iload_n 1) 1 6 := by decide +kernel
theorem dX12_again_6 : dcd cX12_again 6 (.i2l) 1 7 := by decide +kernel
theorem dX12_again_7 : dcd cX12_again 7 (.lconst 0) 1 8 := by decide +kernel
theorem dX12_again_8 : dcd cX12_again 8 (.lconst 1) 1 9 := by decide +kernel
theorem dX12_again_9 : dcd cX12_again 9 (.invokestatic 113) 3 12 := by decide +kernel
theorem dX12_again_12 : dcb cX12_again 12 (.ifCond .ne (5)) (5) 17 15 := by decide +kernel
theorem dX12_again_15 : dcd cX12_again 15 (.iconst (-1)) 1 16 := by decide +kernel
theorem dX12_again_16 : decode cX12_again 16 = .ok (.ireturn, 1) := by decide +kernel
theorem dX12_again_17 : dcd cX12_again 17 (.aload_n 0) 1 18 := by decide +kernel
theorem dX12_again_18 : dcd cX12_again 18 (.getfield 62) 3 21 := by decide +kernel
theorem dX12_again_21 : dcd cX12_again 21 (.iload_n 1) 1 22 := by decide +kernel
theorem dX12_again_22 : dcd cX12_again 22 (.baload) 1 23 := by decide +kernel
theorem dX12_again_23 : dcb cX12_again 23 (.ifCond .ne (6)) (6) 29 26 := by decide +kernel
theorem dX12_again_26 : dcd cX12_again 26 (.bipush (-3)) 2 28 := by decide +kernel
theorem dX12_again_28 : decode cX12_again 28 = .ok (.ireturn, 1) := by decide +kernel
theorem dX12_again_29 : dcd cX12_again 29 (.iconst 0) 1 30 := by decide +kernel
theorem dX12_again_30 : dcd cX12_again 30 (.istore_n 2) 1 31 := by decide +kernel
theorem dX12_again_31 : dcd cX12_again 31 (.iload_n 2) 1 32 := by decide +kernel
theorem dX12_again_32 : dcd cX12_again 32 (.sipush 266) 3 35 := by decide +kernel
theorem dX12_again_35 : dcb cX12_again 35 (.if_icmp .ge (27)) (27) 62 38 := by decide +kernel
theorem dX12_again_38 : dcd cX12_again 38 (.aload_n 0) 1 39 := by decide +kernel
theorem dX12_again_39 : dcd cX12_again 39 (.getfield 56) 3 42 := by decide +kernel
theorem dX12_again_42 : dcd cX12_again 42 (.iload_n 2) 1 43 := by decide +kernel
theorem dX12_again_43 : dcd cX12_again 43 (.aload_n 0) 1 44 := by decide +kernel
theorem dX12_again_44 : dcd cX12_again 44 (.getfield 59) 3 47 := by decide +kernel
theorem dX12_again_47 : dcd cX12_again 47 (.sipush 266) 3 50 := by decide +kernel
theorem dX12_again_50 : dcd cX12_again 50 (.iload_n 1) 1 51 := by decide +kernel
theorem dX12_again_51 : dcd cX12_again 51 (.imul) 1 52 := by decide +kernel
theorem dX12_again_52 : dcd cX12_again 52 (.iload_n 2) 1 53 := by decide +kernel
theorem dX12_again_53 : dcd cX12_again 53 (.iadd) 1 54 := by decide +kernel
theorem dX12_again_54 : dcd cX12_again 54 (.iaload) 1 55 := by decide +kernel
theorem dX12_again_55 : dcd cX12_again 55 (.iastore) 1 56 := by decide +kernel
theorem dX12_again_56 : dcd cX12_again 56 (.iinc 2 1) 3 59 := by decide +kernel
theorem dX12_again_59 : dcb cX12_again 59 (.goto (-28)) (-28) 31 62 := by decide +kernel
theorem dX12_again_62 : dcd cX12_again 62 (.aload_n 0) 1 63 := by decide +kernel
theorem dX12_again_63 : dcd cX12_again 63 (.invokevirtual 254) 3 66 := by decide +kernel
theorem dX12_again_66 : dcd cX12_again 66 (.aload_n 0) 1 67 := by decide +kernel
theorem dX12_again_67 : dcd cX12_again 67 (.invokevirtual 336) 3 70 := by decide +kernel
theorem dX12_again_70 : decode cX12_again 70 = .ok (.ireturn, 1) := by decide +kernel
theorem dX12_count_0 : dcd cX12_count 0 (.aload_n 0) 1 1 := by decide +kernel
theorem dX12_count_1 : dcd cX12_count 1 (.iconst 0) 1 2 := by decide +kernel
theorem dX12_count_2 : dcd cX12_count 2 (.putfield 1) 3 5 := by decide +kernel
theorem dX12_count_5 : dcd cX12_count 5 (.iload_n 1) 1 6 := by decide +kernel
theorem dX12_count_6 : decode cX12_count 6 = .ok (.tableswitch 77 0 6 #[42, 47, 52, 57, 62, 67, 72], 42) := by decide +kernel
theorem dX12_count_48 : dcd cX12_count 48 (.aload_n 0) 1 49 := by decide +kernel
theorem dX12_count_49 : dcd cX12_count 49 (.getfield 29) 3 52 := by decide +kernel
theorem dX12_count_52 : decode cX12_count 52 = .ok (.ireturn, 1) := by decide +kernel
theorem dX12_count_53 : dcd cX12_count 53 (.aload_n 0) 1 54 := by decide +kernel
theorem dX12_count_54 : dcd cX12_count 54 (.invokevirtual 336) 3 57 := by decide +kernel
theorem dX12_count_57 : decode cX12_count 57 = .ok (.ireturn, 1) := by decide +kernel
theorem dX12_count_58 : dcd cX12_count 58 (.aload_n 0) 1 59 := by decide +kernel
theorem dX12_count_59 : dcd cX12_count 59 (.getfield 134) 3 62 := by decide +kernel
theorem dX12_count_62 : decode cX12_count 62 = .ok (.ireturn, 1) := by decide +kernel
theorem dX12_count_63 : dcd cX12_count 63 (.aload_n 0) 1 64 := by decide +kernel
theorem dX12_count_64 : dcd cX12_count 64 (.getfield 262) 3 67 := by decide +kernel
theorem dX12_count_67 : decode cX12_count 67 = .ok (.ireturn, 1) := by decide +kernel
theorem dX12_count_68 : dcd cX12_count 68 (.aload_n 0) 1 69 := by decide +kernel
theorem dX12_count_69 : dcd cX12_count 69 (.getfield 137) 3 72 := by decide +kernel
theorem dX12_count_72 : decode cX12_count 72 = .ok (.ireturn, 1) := by decide +kernel
theorem dX12_count_73 : dcd cX12_count 73 (.aload_n 0) 1 74 := by decide +kernel
theorem dX12_count_74 : dcd cX12_count 74 (.getfield 117) 3 77 := by decide +kernel
theorem dX12_count_77 : decode cX12_count 77 = .ok (.ireturn, 1) := by decide +kernel
theorem dX12_count_78 : dcd cX12_count 78 (.aload_n 0) 1 79 := by decide +kernel
theorem dX12_count_79 : dcd cX12_count 79 (.getfield 323) 3 82 := by decide +kernel
theorem dX12_count_82 : decode cX12_count 82 = .ok (.ireturn, 1) := by decide +kernel
theorem dX12_count_83 : dcd cX12_count 83 (.bipush (-2)) 2 85 := by decide +kernel
theorem dX12_count_85 : decode cX12_count 85 = .ok (.ireturn, 1) := by decide +kernel
theorem dL_law_0 : dcd cL_law 0 (.new 7) 3 3 := by decide +kernel
theorem dL_law_3 : dcd cL_law 3 (.dup) 1 4 := by decide +kernel
theorem dL_law_4 : dcd cL_law 4 (.invokespecial 9) 3 7 := by decide +kernel
theorem dL_law_7 : dcd cL_law 7 (.astore_n 1) 1 8 := by decide +kernel
theorem dL_law_8 : dcd cL_law 8 (.new 10) 3 11 := by decide +kernel
theorem dL_law_11 : dcd cL_law 11 (.dup) 1 12 := by decide +kernel
theorem dL_law_12 : dcd cL_law 12 (.invokespecial 12) 3 15 := by decide +kernel
theorem dL_law_15 : dcd cL_law 15 (.astore_n 2) 1 16 := by decide +kernel
theorem dL_law_16 : dcd cL_law 16 (.iconst 0) 1 17 := by decide +kernel
theorem dL_law_17 : dcd cL_law 17 (.istore_n 3) 1 18 := by decide +kernel
theorem dL_law_18 : dcd cL_law 18 (.iload_n 3) 1 19 := by decide +kernel
theorem dL_law_19 : dcd cL_law 19 (.aload_n 0) 1 20 := by decide +kernel
theorem dL_law_20 : dcd cL_law 20 (.arraylength) 1 21 := by decide +kernel
theorem dL_law_21 : dcd cL_law 21 (.bipush 6) 2 23 := by decide +kernel
theorem dL_law_23 : dcd cL_law 23 (.isub) 1 24 := by decide +kernel
theorem dL_law_24 : dcb cL_law 24 (.if_icmp .gt (1432)) (1432) 1456 27 := by decide +kernel
theorem dL_law_27 : dcd cL_law 27 (.aload_n 0) 1 28 := by decide +kernel
theorem dL_law_28 : dcd cL_law 28 (.iload_n 3) 1 29 := by decide +kernel
theorem dL_law_29 : dcd cL_law 29 (.iaload) 1 30 := by decide +kernel
theorem dL_law_30 : dcd cL_law 30 (.bipush 63) 2 32 := by decide +kernel
theorem dL_law_32 : dcd cL_law 32 (.iand) 1 33 := by decide +kernel
theorem dL_law_33 : decode cL_law 33 = .ok (.tableswitch 1417 0 39 #[175, 238, 251, 264, 277, 310, 369, 402, 425, 448, 481, 504, 553, 606, 649, 692, 735, 798, 861, 904, 917, 930, 943, 966, 989, 1002, 1015, 1048, 1108, 1131, 1154, 1177, 1190, 1239, 1289, 1302, 1335, 1348, 1371, 1394], 175) := by decide +kernel
theorem dL_law_208 : dcd cL_law 208 (.aload_n 1) 1 209 := by decide +kernel
theorem dL_law_209 : dcd cL_law 209 (.aload_n 0) 1 210 := by decide +kernel
theorem dL_law_210 : dcd cL_law 210 (.iload_n 3) 1 211 := by decide +kernel
theorem dL_law_211 : dcd cL_law 211 (.iconst 1) 1 212 := by decide +kernel
theorem dL_law_212 : dcd cL_law 212 (.iadd) 1 213 := by decide +kernel
theorem dL_law_213 : dcd cL_law 213 (.iaload) 1 214 := by decide +kernel
theorem dL_law_214 : dcd cL_law 214 (.aload_n 0) 1 215 := by decide +kernel
theorem dL_law_215 : dcd cL_law 215 (.iload_n 3) 1 216 := by decide +kernel
theorem dL_law_216 : dcd cL_law 216 (.iconst 2) 1 217 := by decide +kernel
theorem dL_law_217 : dcd cL_law 217 (.iadd) 1 218 := by decide +kernel
theorem dL_law_218 : dcd cL_law 218 (.iaload) 1 219 := by decide +kernel
theorem dL_law_219 : dcd cL_law 219 (.i2l) 1 220 := by decide +kernel
theorem dL_law_220 : dcd cL_law 220 (.bipush 32) 2 222 := by decide +kernel
theorem dL_law_222 : dcd cL_law 222 (.lshl) 1 223 := by decide +kernel
theorem dL_law_223 : dcd cL_law 223 (.aload_n 0) 1 224 := by decide +kernel
theorem dL_law_224 : dcd cL_law 224 (.iload_n 3) 1 225 := by decide +kernel
theorem dL_law_225 : dcd cL_law 225 (.iconst 3) 1 226 := by decide +kernel
theorem dL_law_226 : dcd cL_law 226 (.iadd) 1 227 := by decide +kernel
theorem dL_law_227 : dcd cL_law 227 (.iaload) 1 228 := by decide +kernel
theorem dL_law_228 : dcd cL_law 228 (.i2l) 1 229 := by decide +kernel
theorem dL_law_229 : dcd cL_law 229 (.ldc2_w 13) 3 232 := by decide +kernel
theorem dL_law_232 : dcd cL_law 232 (.land) 1 233 := by decide +kernel
theorem dL_law_233 : dcd cL_law 233 (.lor) 1 234 := by decide +kernel
theorem dL_law_234 : dcd cL_law 234 (.invokevirtual 15) 3 237 := by decide +kernel
theorem dL_law_237 : dcd cL_law 237 (.aload_n 2) 1 238 := by decide +kernel
theorem dL_law_238 : dcd cL_law 238 (.aload_n 0) 1 239 := by decide +kernel
theorem dL_law_239 : dcd cL_law 239 (.iload_n 3) 1 240 := by decide +kernel
theorem dL_law_240 : dcd cL_law 240 (.iconst 1) 1 241 := by decide +kernel
theorem dL_law_241 : dcd cL_law 241 (.iadd) 1 242 := by decide +kernel
theorem dL_law_242 : dcd cL_law 242 (.iaload) 1 243 := by decide +kernel
theorem dL_law_243 : dcd cL_law 243 (.aload_n 0) 1 244 := by decide +kernel
theorem dL_law_244 : dcd cL_law 244 (.iload_n 3) 1 245 := by decide +kernel
theorem dL_law_245 : dcd cL_law 245 (.iconst 2) 1 246 := by decide +kernel
theorem dL_law_246 : dcd cL_law 246 (.iadd) 1 247 := by decide +kernel
theorem dL_law_247 : dcd cL_law 247 (.iaload) 1 248 := by decide +kernel
theorem dL_law_248 : dcd cL_law 248 (.i2l) 1 249 := by decide +kernel
theorem dL_law_249 : dcd cL_law 249 (.bipush 32) 2 251 := by decide +kernel
theorem dL_law_251 : dcd cL_law 251 (.lshl) 1 252 := by decide +kernel
theorem dL_law_252 : dcd cL_law 252 (.aload_n 0) 1 253 := by decide +kernel
theorem dL_law_253 : dcd cL_law 253 (.iload_n 3) 1 254 := by decide +kernel
theorem dL_law_254 : dcd cL_law 254 (.iconst 3) 1 255 := by decide +kernel
theorem dL_law_255 : dcd cL_law 255 (.iadd) 1 256 := by decide +kernel
theorem dL_law_256 : dcd cL_law 256 (.iaload) 1 257 := by decide +kernel
theorem dL_law_257 : dcd cL_law 257 (.i2l) 1 258 := by decide +kernel
theorem dL_law_258 : dcd cL_law 258 (.ldc2_w 13) 3 261 := by decide +kernel
theorem dL_law_261 : dcd cL_law 261 (.land) 1 262 := by decide +kernel
theorem dL_law_262 : dcd cL_law 262 (.lor) 1 263 := by decide +kernel
theorem dL_law_263 : dcd cL_law 263 (.invokevirtual 19) 3 266 := by decide +kernel
theorem dL_law_266 : dcb cL_law 266 (.if_icmp .eq (1184)) (1184) 1450 269 := by decide +kernel
theorem dL_law_269 : dcd cL_law 269 (.iconst 0) 1 270 := by decide +kernel
theorem dL_law_270 : decode cL_law 270 = .ok (.ireturn, 1) := by decide +kernel
theorem dL_law_271 : dcd cL_law 271 (.aload_n 1) 1 272 := by decide +kernel
theorem dL_law_272 : dcd cL_law 272 (.invokevirtual 20) 3 275 := by decide +kernel
theorem dL_law_275 : dcd cL_law 275 (.aload_n 2) 1 276 := by decide +kernel
theorem dL_law_276 : dcd cL_law 276 (.invokevirtual 24) 3 279 := by decide +kernel
theorem dL_law_279 : dcb cL_law 279 (.if_icmp .eq (1171)) (1171) 1450 282 := by decide +kernel
theorem dL_law_282 : dcd cL_law 282 (.iconst 0) 1 283 := by decide +kernel
theorem dL_law_283 : decode cL_law 283 = .ok (.ireturn, 1) := by decide +kernel
theorem dL_law_284 : dcd cL_law 284 (.aload_n 1) 1 285 := by decide +kernel
theorem dL_law_285 : dcd cL_law 285 (.invokevirtual 25) 3 288 := by decide +kernel
theorem dL_law_288 : dcd cL_law 288 (.aload_n 2) 1 289 := by decide +kernel
theorem dL_law_289 : dcd cL_law 289 (.invokevirtual 28) 3 292 := by decide +kernel
theorem dL_law_292 : dcb cL_law 292 (.if_icmp .eq (1158)) (1158) 1450 295 := by decide +kernel
theorem dL_law_295 : dcd cL_law 295 (.iconst 0) 1 296 := by decide +kernel
theorem dL_law_296 : decode cL_law 296 = .ok (.ireturn, 1) := by decide +kernel
theorem dL_law_297 : dcd cL_law 297 (.aload_n 1) 1 298 := by decide +kernel
theorem dL_law_298 : dcd cL_law 298 (.invokevirtual 29) 3 301 := by decide +kernel
theorem dL_law_301 : dcd cL_law 301 (.aload_n 2) 1 302 := by decide +kernel
theorem dL_law_302 : dcd cL_law 302 (.invokevirtual 32) 3 305 := by decide +kernel
theorem dL_law_305 : dcb cL_law 305 (.if_icmp .eq (1145)) (1145) 1450 308 := by decide +kernel
theorem dL_law_308 : dcd cL_law 308 (.iconst 0) 1 309 := by decide +kernel
theorem dL_law_309 : decode cL_law 309 = .ok (.ireturn, 1) := by decide +kernel
theorem dL_law_310 : dcd cL_law 310 (.aload_n 1) 1 311 := by decide +kernel
theorem dL_law_311 : dcd cL_law 311 (.aload_n 0) 1 312 := by decide +kernel
theorem dL_law_312 : dcd cL_law 312 (.iload_n 3) 1 313 := by decide +kernel
theorem dL_law_313 : dcd cL_law 313 (.iconst 1) 1 314 := by decide +kernel
theorem dL_law_314 : dcd cL_law 314 (.iadd) 1 315 := by decide +kernel
theorem dL_law_315 : dcd cL_law 315 (.iaload) 1 316 := by decide +kernel
theorem dL_law_316 : dcd cL_law 316 (.aload_n 0) 1 317 := by decide +kernel
theorem dL_law_317 : dcd cL_law 317 (.iload_n 3) 1 318 := by decide +kernel
theorem dL_law_318 : dcd cL_law 318 (.iconst 2) 1 319 := by decide +kernel
theorem dL_law_319 : dcd cL_law 319 (.iadd) 1 320 := by decide +kernel
theorem dL_law_320 : dcd cL_law 320 (.iaload) 1 321 := by decide +kernel
theorem dL_law_321 : dcd cL_law 321 (.invokevirtual 33) 3 324 := by decide +kernel
theorem dL_law_324 : dcd cL_law 324 (.aload_n 2) 1 325 := by decide +kernel
theorem dL_law_325 : dcd cL_law 325 (.aload_n 0) 1 326 := by decide +kernel
theorem dL_law_326 : dcd cL_law 326 (.iload_n 3) 1 327 := by decide +kernel
theorem dL_law_327 : dcd cL_law 327 (.iconst 1) 1 328 := by decide +kernel
theorem dL_law_328 : dcd cL_law 328 (.iadd) 1 329 := by decide +kernel
theorem dL_law_329 : dcd cL_law 329 (.iaload) 1 330 := by decide +kernel
theorem dL_law_330 : dcd cL_law 330 (.aload_n 0) 1 331 := by decide +kernel
theorem dL_law_331 : dcd cL_law 331 (.iload_n 3) 1 332 := by decide +kernel
theorem dL_law_332 : dcd cL_law 332 (.iconst 2) 1 333 := by decide +kernel
theorem dL_law_333 : dcd cL_law 333 (.iadd) 1 334 := by decide +kernel
theorem dL_law_334 : dcd cL_law 334 (.iaload) 1 335 := by decide +kernel
theorem dL_law_335 : dcd cL_law 335 (.invokevirtual 37) 3 338 := by decide +kernel
theorem dL_law_338 : dcb cL_law 338 (.if_icmp .eq (1112)) (1112) 1450 341 := by decide +kernel
theorem dL_law_341 : dcd cL_law 341 (.iconst 0) 1 342 := by decide +kernel
theorem dL_law_342 : decode cL_law 342 = .ok (.ireturn, 1) := by decide +kernel
theorem dL_law_343 : dcd cL_law 343 (.aload_n 1) 1 344 := by decide +kernel
theorem dL_law_344 : dcd cL_law 344 (.aload_n 0) 1 345 := by decide +kernel
theorem dL_law_345 : dcd cL_law 345 (.iload_n 3) 1 346 := by decide +kernel
theorem dL_law_346 : dcd cL_law 346 (.iconst 1) 1 347 := by decide +kernel
theorem dL_law_347 : dcd cL_law 347 (.iadd) 1 348 := by decide +kernel
theorem dL_law_348 : dcd cL_law 348 (.iaload) 1 349 := by decide +kernel
theorem dL_law_349 : dcd cL_law 349 (.aload_n 0) 1 350 := by decide +kernel
theorem dL_law_350 : dcd cL_law 350 (.iload_n 3) 1 351 := by decide +kernel
theorem dL_law_351 : dcd cL_law 351 (.iconst 2) 1 352 := by decide +kernel
theorem dL_law_352 : dcd cL_law 352 (.iadd) 1 353 := by decide +kernel
theorem dL_law_353 : dcd cL_law 353 (.iaload) 1 354 := by decide +kernel
theorem dL_law_354 : dcb cL_law 354 (.ifCond .eq (7)) (7) 361 357 := by decide +kernel
theorem dL_law_357 : dcd cL_law 357 (.iconst 1) 1 358 := by decide +kernel
theorem dL_law_358 : dcb cL_law 358 (.goto (4)) (4) 362 361 := by decide +kernel
theorem dL_law_361 : dcd cL_law 361 (.iconst 0) 1 362 := by decide +kernel
theorem dL_law_362 : dcd cL_law 362 (.aload_n 0) 1 363 := by decide +kernel
theorem dL_law_363 : dcd cL_law 363 (.iload_n 3) 1 364 := by decide +kernel
theorem dL_law_364 : dcd cL_law 364 (.iconst 3) 1 365 := by decide +kernel
theorem dL_law_365 : dcd cL_law 365 (.iadd) 1 366 := by decide +kernel
theorem dL_law_366 : dcd cL_law 366 (.iaload) 1 367 := by decide +kernel
theorem dL_law_367 : dcd cL_law 367 (.invokevirtual 38) 3 370 := by decide +kernel
theorem dL_law_370 : dcd cL_law 370 (.aload_n 2) 1 371 := by decide +kernel
theorem dL_law_371 : dcd cL_law 371 (.aload_n 0) 1 372 := by decide +kernel
theorem dL_law_372 : dcd cL_law 372 (.iload_n 3) 1 373 := by decide +kernel
theorem dL_law_373 : dcd cL_law 373 (.iconst 1) 1 374 := by decide +kernel
theorem dL_law_374 : dcd cL_law 374 (.iadd) 1 375 := by decide +kernel
theorem dL_law_375 : dcd cL_law 375 (.iaload) 1 376 := by decide +kernel
theorem dL_law_376 : dcd cL_law 376 (.aload_n 0) 1 377 := by decide +kernel
theorem dL_law_377 : dcd cL_law 377 (.iload_n 3) 1 378 := by decide +kernel
theorem dL_law_378 : dcd cL_law 378 (.iconst 2) 1 379 := by decide +kernel
theorem dL_law_379 : dcd cL_law 379 (.iadd) 1 380 := by decide +kernel
theorem dL_law_380 : dcd cL_law 380 (.iaload) 1 381 := by decide +kernel
theorem dL_law_381 : dcb cL_law 381 (.ifCond .eq (7)) (7) 388 384 := by decide +kernel
theorem dL_law_384 : dcd cL_law 384 (.iconst 1) 1 385 := by decide +kernel
theorem dL_law_385 : dcb cL_law 385 (.goto (4)) (4) 389 388 := by decide +kernel
theorem dL_law_388 : dcd cL_law 388 (.iconst 0) 1 389 := by decide +kernel
theorem dL_law_389 : dcd cL_law 389 (.aload_n 0) 1 390 := by decide +kernel
theorem dL_law_390 : dcd cL_law 390 (.iload_n 3) 1 391 := by decide +kernel
theorem dL_law_391 : dcd cL_law 391 (.iconst 3) 1 392 := by decide +kernel
theorem dL_law_392 : dcd cL_law 392 (.iadd) 1 393 := by decide +kernel
theorem dL_law_393 : dcd cL_law 393 (.iaload) 1 394 := by decide +kernel
theorem dL_law_394 : dcd cL_law 394 (.invokevirtual 42) 3 397 := by decide +kernel
theorem dL_law_397 : dcb cL_law 397 (.if_icmp .eq (1053)) (1053) 1450 400 := by decide +kernel
theorem dL_law_400 : dcd cL_law 400 (.iconst 0) 1 401 := by decide +kernel
theorem dL_law_401 : decode cL_law 401 = .ok (.ireturn, 1) := by decide +kernel
theorem dL_law_402 : dcd cL_law 402 (.aload_n 1) 1 403 := by decide +kernel
theorem dL_law_403 : dcd cL_law 403 (.aload_n 0) 1 404 := by decide +kernel
theorem dL_law_404 : dcd cL_law 404 (.iload_n 3) 1 405 := by decide +kernel
theorem dL_law_405 : dcd cL_law 405 (.iconst 1) 1 406 := by decide +kernel
theorem dL_law_406 : dcd cL_law 406 (.iadd) 1 407 := by decide +kernel
theorem dL_law_407 : dcd cL_law 407 (.iaload) 1 408 := by decide +kernel
theorem dL_law_408 : dcd cL_law 408 (.aload_n 0) 1 409 := by decide +kernel
theorem dL_law_409 : dcd cL_law 409 (.iload_n 3) 1 410 := by decide +kernel
theorem dL_law_410 : dcd cL_law 410 (.iconst 2) 1 411 := by decide +kernel
theorem dL_law_411 : dcd cL_law 411 (.iadd) 1 412 := by decide +kernel
theorem dL_law_412 : dcd cL_law 412 (.iaload) 1 413 := by decide +kernel
theorem dL_law_413 : dcd cL_law 413 (.invokevirtual 43) 3 416 := by decide +kernel
theorem dL_law_416 : dcd cL_law 416 (.aload_n 2) 1 417 := by decide +kernel
theorem dL_law_417 : dcd cL_law 417 (.aload_n 0) 1 418 := by decide +kernel
theorem dL_law_418 : dcd cL_law 418 (.iload_n 3) 1 419 := by decide +kernel
theorem dL_law_419 : dcd cL_law 419 (.iconst 1) 1 420 := by decide +kernel
theorem dL_law_420 : dcd cL_law 420 (.iadd) 1 421 := by decide +kernel
theorem dL_law_421 : dcd cL_law 421 (.iaload) 1 422 := by decide +kernel
theorem dL_law_422 : dcd cL_law 422 (.aload_n 0) 1 423 := by decide +kernel
theorem dL_law_423 : dcd cL_law 423 (.iload_n 3) 1 424 := by decide +kernel
theorem dL_law_424 : dcd cL_law 424 (.iconst 2) 1 425 := by decide +kernel
theorem dL_law_425 : dcd cL_law 425 (.iadd) 1 426 := by decide +kernel
theorem dL_law_426 : dcd cL_law 426 (.iaload) 1 427 := by decide +kernel
theorem dL_law_427 : dcd cL_law 427 (.invokevirtual 46) 3 430 := by decide +kernel
theorem dL_law_430 : dcb cL_law 430 (.if_icmp .eq (1020)) (1020) 1450 433 := by decide +kernel
theorem dL_law_433 : dcd cL_law 433 (.iconst 0) 1 434 := by decide +kernel
theorem dL_law_434 : decode cL_law 434 = .ok (.ireturn, 1) := by decide +kernel
theorem dL_law_435 : dcd cL_law 435 (.aload_n 1) 1 436 := by decide +kernel
theorem dL_law_436 : dcd cL_law 436 (.aload_n 0) 1 437 := by decide +kernel
theorem dL_law_437 : dcd cL_law 437 (.iload_n 3) 1 438 := by decide +kernel
theorem dL_law_438 : dcd cL_law 438 (.iconst 1) 1 439 := by decide +kernel
theorem dL_law_439 : dcd cL_law 439 (.iadd) 1 440 := by decide +kernel
theorem dL_law_440 : dcd cL_law 440 (.iaload) 1 441 := by decide +kernel
theorem dL_law_441 : dcd cL_law 441 (.invokevirtual 47) 3 444 := by decide +kernel
theorem dL_law_444 : dcd cL_law 444 (.aload_n 2) 1 445 := by decide +kernel
theorem dL_law_445 : dcd cL_law 445 (.aload_n 0) 1 446 := by decide +kernel
theorem dL_law_446 : dcd cL_law 446 (.iload_n 3) 1 447 := by decide +kernel
theorem dL_law_447 : dcd cL_law 447 (.iconst 1) 1 448 := by decide +kernel
theorem dL_law_448 : dcd cL_law 448 (.iadd) 1 449 := by decide +kernel
theorem dL_law_449 : dcd cL_law 449 (.iaload) 1 450 := by decide +kernel
theorem dL_law_450 : dcd cL_law 450 (.invokevirtual 51) 3 453 := by decide +kernel
theorem dL_law_453 : dcb cL_law 453 (.if_icmp .eq (997)) (997) 1450 456 := by decide +kernel
theorem dL_law_456 : dcd cL_law 456 (.iconst 0) 1 457 := by decide +kernel
theorem dL_law_457 : decode cL_law 457 = .ok (.ireturn, 1) := by decide +kernel
theorem dL_law_458 : dcd cL_law 458 (.aload_n 1) 1 459 := by decide +kernel
theorem dL_law_459 : dcd cL_law 459 (.aload_n 0) 1 460 := by decide +kernel
theorem dL_law_460 : dcd cL_law 460 (.iload_n 3) 1 461 := by decide +kernel
theorem dL_law_461 : dcd cL_law 461 (.iconst 1) 1 462 := by decide +kernel
theorem dL_law_462 : dcd cL_law 462 (.iadd) 1 463 := by decide +kernel
theorem dL_law_463 : dcd cL_law 463 (.iaload) 1 464 := by decide +kernel
theorem dL_law_464 : dcd cL_law 464 (.invokevirtual 52) 3 467 := by decide +kernel
theorem dL_law_467 : dcd cL_law 467 (.aload_n 2) 1 468 := by decide +kernel
theorem dL_law_468 : dcd cL_law 468 (.aload_n 0) 1 469 := by decide +kernel
theorem dL_law_469 : dcd cL_law 469 (.iload_n 3) 1 470 := by decide +kernel
theorem dL_law_470 : dcd cL_law 470 (.iconst 1) 1 471 := by decide +kernel
theorem dL_law_471 : dcd cL_law 471 (.iadd) 1 472 := by decide +kernel
theorem dL_law_472 : dcd cL_law 472 (.iaload) 1 473 := by decide +kernel
theorem dL_law_473 : dcd cL_law 473 (.invokevirtual 55) 3 476 := by decide +kernel
theorem dL_law_476 : dcb cL_law 476 (.if_icmp .eq (974)) (974) 1450 479 := by decide +kernel
theorem dL_law_479 : dcd cL_law 479 (.iconst 0) 1 480 := by decide +kernel
theorem dL_law_480 : decode cL_law 480 = .ok (.ireturn, 1) := by decide +kernel
theorem dL_law_481 : dcd cL_law 481 (.aload_n 1) 1 482 := by decide +kernel
theorem dL_law_482 : dcd cL_law 482 (.aload_n 0) 1 483 := by decide +kernel
theorem dL_law_483 : dcd cL_law 483 (.iload_n 3) 1 484 := by decide +kernel
theorem dL_law_484 : dcd cL_law 484 (.iconst 1) 1 485 := by decide +kernel
theorem dL_law_485 : dcd cL_law 485 (.iadd) 1 486 := by decide +kernel
theorem dL_law_486 : dcd cL_law 486 (.iaload) 1 487 := by decide +kernel
theorem dL_law_487 : dcd cL_law 487 (.aload_n 0) 1 488 := by decide +kernel
theorem dL_law_488 : dcd cL_law 488 (.iload_n 3) 1 489 := by decide +kernel
theorem dL_law_489 : dcd cL_law 489 (.iconst 2) 1 490 := by decide +kernel
theorem dL_law_490 : dcd cL_law 490 (.iadd) 1 491 := by decide +kernel
theorem dL_law_491 : dcd cL_law 491 (.iaload) 1 492 := by decide +kernel
theorem dL_law_492 : dcd cL_law 492 (.invokevirtual 56) 3 495 := by decide +kernel
theorem dL_law_495 : dcd cL_law 495 (.aload_n 2) 1 496 := by decide +kernel
theorem dL_law_496 : dcd cL_law 496 (.aload_n 0) 1 497 := by decide +kernel
theorem dL_law_497 : dcd cL_law 497 (.iload_n 3) 1 498 := by decide +kernel
theorem dL_law_498 : dcd cL_law 498 (.iconst 1) 1 499 := by decide +kernel
theorem dL_law_499 : dcd cL_law 499 (.iadd) 1 500 := by decide +kernel
theorem dL_law_500 : dcd cL_law 500 (.iaload) 1 501 := by decide +kernel
theorem dL_law_501 : dcd cL_law 501 (.aload_n 0) 1 502 := by decide +kernel
theorem dL_law_502 : dcd cL_law 502 (.iload_n 3) 1 503 := by decide +kernel
theorem dL_law_503 : dcd cL_law 503 (.iconst 2) 1 504 := by decide +kernel
theorem dL_law_504 : dcd cL_law 504 (.iadd) 1 505 := by decide +kernel
theorem dL_law_505 : dcd cL_law 505 (.iaload) 1 506 := by decide +kernel
theorem dL_law_506 : dcd cL_law 506 (.invokevirtual 59) 3 509 := by decide +kernel
theorem dL_law_509 : dcb cL_law 509 (.if_icmp .eq (941)) (941) 1450 512 := by decide +kernel
theorem dL_law_512 : dcd cL_law 512 (.iconst 0) 1 513 := by decide +kernel
theorem dL_law_513 : decode cL_law 513 = .ok (.ireturn, 1) := by decide +kernel
theorem dL_law_514 : dcd cL_law 514 (.aload_n 1) 1 515 := by decide +kernel
theorem dL_law_515 : dcd cL_law 515 (.aload_n 0) 1 516 := by decide +kernel
theorem dL_law_516 : dcd cL_law 516 (.iload_n 3) 1 517 := by decide +kernel
theorem dL_law_517 : dcd cL_law 517 (.iconst 1) 1 518 := by decide +kernel
theorem dL_law_518 : dcd cL_law 518 (.iadd) 1 519 := by decide +kernel
theorem dL_law_519 : dcd cL_law 519 (.iaload) 1 520 := by decide +kernel
theorem dL_law_520 : dcd cL_law 520 (.invokevirtual 60) 3 523 := by decide +kernel
theorem dL_law_523 : dcd cL_law 523 (.aload_n 2) 1 524 := by decide +kernel
theorem dL_law_524 : dcd cL_law 524 (.aload_n 0) 1 525 := by decide +kernel
theorem dL_law_525 : dcd cL_law 525 (.iload_n 3) 1 526 := by decide +kernel
theorem dL_law_526 : dcd cL_law 526 (.iconst 1) 1 527 := by decide +kernel
theorem dL_law_527 : dcd cL_law 527 (.iadd) 1 528 := by decide +kernel
theorem dL_law_528 : dcd cL_law 528 (.iaload) 1 529 := by decide +kernel
theorem dL_law_529 : dcd cL_law 529 (.invokevirtual 63) 3 532 := by decide +kernel
theorem dL_law_532 : dcb cL_law 532 (.if_icmp .eq (918)) (918) 1450 535 := by decide +kernel
theorem dL_law_535 : dcd cL_law 535 (.iconst 0) 1 536 := by decide +kernel
theorem dL_law_536 : decode cL_law 536 = .ok (.ireturn, 1) := by decide +kernel
theorem dL_law_537 : dcd cL_law 537 (.aload_n 1) 1 538 := by decide +kernel
theorem dL_law_538 : dcd cL_law 538 (.aload_n 0) 1 539 := by decide +kernel
theorem dL_law_539 : dcd cL_law 539 (.iload_n 3) 1 540 := by decide +kernel
theorem dL_law_540 : dcd cL_law 540 (.iconst 1) 1 541 := by decide +kernel
theorem dL_law_541 : dcd cL_law 541 (.iadd) 1 542 := by decide +kernel
theorem dL_law_542 : dcd cL_law 542 (.iaload) 1 543 := by decide +kernel
theorem dL_law_543 : dcd cL_law 543 (.aload_n 0) 1 544 := by decide +kernel
theorem dL_law_544 : dcd cL_law 544 (.iload_n 3) 1 545 := by decide +kernel
theorem dL_law_545 : dcd cL_law 545 (.iconst 2) 1 546 := by decide +kernel
theorem dL_law_546 : dcd cL_law 546 (.iadd) 1 547 := by decide +kernel
theorem dL_law_547 : dcd cL_law 547 (.iaload) 1 548 := by decide +kernel
theorem dL_law_548 : dcb cL_law 548 (.ifCond .eq (7)) (7) 555 551 := by decide +kernel
theorem dL_law_551 : dcd cL_law 551 (.iconst 1) 1 552 := by decide +kernel
theorem dL_law_552 : dcb cL_law 552 (.goto (4)) (4) 556 555 := by decide +kernel
theorem dL_law_555 : dcd cL_law 555 (.iconst 0) 1 556 := by decide +kernel
theorem dL_law_556 : dcd cL_law 556 (.invokevirtual 64) 3 559 := by decide +kernel
theorem dL_law_559 : dcd cL_law 559 (.aload_n 2) 1 560 := by decide +kernel
theorem dL_law_560 : dcd cL_law 560 (.aload_n 0) 1 561 := by decide +kernel
theorem dL_law_561 : dcd cL_law 561 (.iload_n 3) 1 562 := by decide +kernel
theorem dL_law_562 : dcd cL_law 562 (.iconst 1) 1 563 := by decide +kernel
theorem dL_law_563 : dcd cL_law 563 (.iadd) 1 564 := by decide +kernel
theorem dL_law_564 : dcd cL_law 564 (.iaload) 1 565 := by decide +kernel
theorem dL_law_565 : dcd cL_law 565 (.aload_n 0) 1 566 := by decide +kernel
theorem dL_law_566 : dcd cL_law 566 (.iload_n 3) 1 567 := by decide +kernel
theorem dL_law_567 : dcd cL_law 567 (.iconst 2) 1 568 := by decide +kernel
theorem dL_law_568 : dcd cL_law 568 (.iadd) 1 569 := by decide +kernel
theorem dL_law_569 : dcd cL_law 569 (.iaload) 1 570 := by decide +kernel
theorem dL_law_570 : dcb cL_law 570 (.ifCond .eq (7)) (7) 577 573 := by decide +kernel
theorem dL_law_573 : dcd cL_law 573 (.iconst 1) 1 574 := by decide +kernel
theorem dL_law_574 : dcb cL_law 574 (.goto (4)) (4) 578 577 := by decide +kernel
theorem dL_law_577 : dcd cL_law 577 (.iconst 0) 1 578 := by decide +kernel
theorem dL_law_578 : dcd cL_law 578 (.invokevirtual 68) 3 581 := by decide +kernel
theorem dL_law_581 : dcb cL_law 581 (.if_icmp .eq (869)) (869) 1450 584 := by decide +kernel
theorem dL_law_584 : dcd cL_law 584 (.iconst 0) 1 585 := by decide +kernel
theorem dL_law_585 : decode cL_law 585 = .ok (.ireturn, 1) := by decide +kernel
theorem dL_law_586 : dcd cL_law 586 (.aload_n 1) 1 587 := by decide +kernel
theorem dL_law_587 : dcd cL_law 587 (.aload_n 0) 1 588 := by decide +kernel
theorem dL_law_588 : dcd cL_law 588 (.iload_n 3) 1 589 := by decide +kernel
theorem dL_law_589 : dcd cL_law 589 (.iconst 1) 1 590 := by decide +kernel
theorem dL_law_590 : dcd cL_law 590 (.iadd) 1 591 := by decide +kernel
theorem dL_law_591 : dcd cL_law 591 (.iaload) 1 592 := by decide +kernel
theorem dL_law_592 : dcd cL_law 592 (.aload_n 0) 1 593 := by decide +kernel
theorem dL_law_593 : dcd cL_law 593 (.iload_n 3) 1 594 := by decide +kernel
theorem dL_law_594 : dcd cL_law 594 (.iconst 2) 1 595 := by decide +kernel
theorem dL_law_595 : dcd cL_law 595 (.iadd) 1 596 := by decide +kernel
theorem dL_law_596 : dcd cL_law 596 (.iaload) 1 597 := by decide +kernel
theorem dL_law_597 : dcd cL_law 597 (.aload_n 0) 1 598 := by decide +kernel
theorem dL_law_598 : dcd cL_law 598 (.iload_n 3) 1 599 := by decide +kernel
theorem dL_law_599 : dcd cL_law 599 (.iconst 3) 1 600 := by decide +kernel
theorem dL_law_600 : dcd cL_law 600 (.iadd) 1 601 := by decide +kernel
theorem dL_law_601 : dcd cL_law 601 (.iaload) 1 602 := by decide +kernel
theorem dL_law_602 : dcd cL_law 602 (.aload_n 0) 1 603 := by decide +kernel
theorem dL_law_603 : dcd cL_law 603 (.iload_n 3) 1 604 := by decide +kernel
theorem dL_law_604 : dcd cL_law 604 (.iconst 4) 1 605 := by decide +kernel
theorem dL_law_605 : dcd cL_law 605 (.iadd) 1 606 := by decide +kernel
theorem dL_law_606 : dcd cL_law 606 (.iaload) 1 607 := by decide +kernel
theorem dL_law_607 : dcd cL_law 607 (.invokevirtual 69) 3 610 := by decide +kernel
theorem dL_law_610 : dcd cL_law 610 (.aload_n 2) 1 611 := by decide +kernel
theorem dL_law_611 : dcd cL_law 611 (.aload_n 0) 1 612 := by decide +kernel
theorem dL_law_612 : dcd cL_law 612 (.iload_n 3) 1 613 := by decide +kernel
theorem dL_law_613 : dcd cL_law 613 (.iconst 1) 1 614 := by decide +kernel
theorem dL_law_614 : dcd cL_law 614 (.iadd) 1 615 := by decide +kernel
theorem dL_law_615 : dcd cL_law 615 (.iaload) 1 616 := by decide +kernel
theorem dL_law_616 : dcd cL_law 616 (.aload_n 0) 1 617 := by decide +kernel
theorem dL_law_617 : dcd cL_law 617 (.iload_n 3) 1 618 := by decide +kernel
theorem dL_law_618 : dcd cL_law 618 (.iconst 2) 1 619 := by decide +kernel
theorem dL_law_619 : dcd cL_law 619 (.iadd) 1 620 := by decide +kernel
theorem dL_law_620 : dcd cL_law 620 (.iaload) 1 621 := by decide +kernel
theorem dL_law_621 : dcd cL_law 621 (.aload_n 0) 1 622 := by decide +kernel
theorem dL_law_622 : dcd cL_law 622 (.iload_n 3) 1 623 := by decide +kernel
theorem dL_law_623 : dcd cL_law 623 (.iconst 3) 1 624 := by decide +kernel
theorem dL_law_624 : dcd cL_law 624 (.iadd) 1 625 := by decide +kernel
theorem dL_law_625 : dcd cL_law 625 (.iaload) 1 626 := by decide +kernel
theorem dL_law_626 : dcd cL_law 626 (.aload_n 0) 1 627 := by decide +kernel
theorem dL_law_627 : dcd cL_law 627 (.iload_n 3) 1 628 := by decide +kernel
theorem dL_law_628 : dcd cL_law 628 (.iconst 4) 1 629 := by decide +kernel
theorem dL_law_629 : dcd cL_law 629 (.iadd) 1 630 := by decide +kernel
theorem dL_law_630 : dcd cL_law 630 (.iaload) 1 631 := by decide +kernel
theorem dL_law_631 : dcd cL_law 631 (.invokevirtual 73) 3 634 := by decide +kernel
theorem dL_law_634 : dcb cL_law 634 (.if_icmp .eq (816)) (816) 1450 637 := by decide +kernel
theorem dL_law_637 : dcd cL_law 637 (.iconst 0) 1 638 := by decide +kernel
theorem dL_law_638 : decode cL_law 638 = .ok (.ireturn, 1) := by decide +kernel
theorem dL_law_639 : dcd cL_law 639 (.aload_n 1) 1 640 := by decide +kernel
theorem dL_law_640 : dcd cL_law 640 (.aload_n 0) 1 641 := by decide +kernel
theorem dL_law_641 : dcd cL_law 641 (.iload_n 3) 1 642 := by decide +kernel
theorem dL_law_642 : dcd cL_law 642 (.iconst 1) 1 643 := by decide +kernel
theorem dL_law_643 : dcd cL_law 643 (.iadd) 1 644 := by decide +kernel
theorem dL_law_644 : dcd cL_law 644 (.iaload) 1 645 := by decide +kernel
theorem dL_law_645 : dcd cL_law 645 (.aload_n 0) 1 646 := by decide +kernel
theorem dL_law_646 : dcd cL_law 646 (.iload_n 3) 1 647 := by decide +kernel
theorem dL_law_647 : dcd cL_law 647 (.iconst 2) 1 648 := by decide +kernel
theorem dL_law_648 : dcd cL_law 648 (.iadd) 1 649 := by decide +kernel
theorem dL_law_649 : dcd cL_law 649 (.iaload) 1 650 := by decide +kernel
theorem dL_law_650 : dcd cL_law 650 (.aload_n 0) 1 651 := by decide +kernel
theorem dL_law_651 : dcd cL_law 651 (.iload_n 3) 1 652 := by decide +kernel
theorem dL_law_652 : dcd cL_law 652 (.iconst 3) 1 653 := by decide +kernel
theorem dL_law_653 : dcd cL_law 653 (.iadd) 1 654 := by decide +kernel
theorem dL_law_654 : dcd cL_law 654 (.iaload) 1 655 := by decide +kernel
theorem dL_law_655 : dcd cL_law 655 (.invokevirtual 74) 3 658 := by decide +kernel
theorem dL_law_658 : dcd cL_law 658 (.aload_n 2) 1 659 := by decide +kernel
theorem dL_law_659 : dcd cL_law 659 (.aload_n 0) 1 660 := by decide +kernel
theorem dL_law_660 : dcd cL_law 660 (.iload_n 3) 1 661 := by decide +kernel
theorem dL_law_661 : dcd cL_law 661 (.iconst 1) 1 662 := by decide +kernel
theorem dL_law_662 : dcd cL_law 662 (.iadd) 1 663 := by decide +kernel
theorem dL_law_663 : dcd cL_law 663 (.iaload) 1 664 := by decide +kernel
theorem dL_law_664 : dcd cL_law 664 (.aload_n 0) 1 665 := by decide +kernel
theorem dL_law_665 : dcd cL_law 665 (.iload_n 3) 1 666 := by decide +kernel
theorem dL_law_666 : dcd cL_law 666 (.iconst 2) 1 667 := by decide +kernel
theorem dL_law_667 : dcd cL_law 667 (.iadd) 1 668 := by decide +kernel
theorem dL_law_668 : dcd cL_law 668 (.iaload) 1 669 := by decide +kernel
theorem dL_law_669 : dcd cL_law 669 (.aload_n 0) 1 670 := by decide +kernel
theorem dL_law_670 : dcd cL_law 670 (.iload_n 3) 1 671 := by decide +kernel
theorem dL_law_671 : dcd cL_law 671 (.iconst 3) 1 672 := by decide +kernel
theorem dL_law_672 : dcd cL_law 672 (.iadd) 1 673 := by decide +kernel
theorem dL_law_673 : dcd cL_law 673 (.iaload) 1 674 := by decide +kernel
theorem dL_law_674 : dcd cL_law 674 (.invokevirtual 78) 3 677 := by decide +kernel
theorem dL_law_677 : dcb cL_law 677 (.if_icmp .eq (773)) (773) 1450 680 := by decide +kernel
theorem dL_law_680 : dcd cL_law 680 (.iconst 0) 1 681 := by decide +kernel
theorem dL_law_681 : decode cL_law 681 = .ok (.ireturn, 1) := by decide +kernel
theorem dL_law_682 : dcd cL_law 682 (.aload_n 1) 1 683 := by decide +kernel
theorem dL_law_683 : dcd cL_law 683 (.aload_n 0) 1 684 := by decide +kernel
theorem dL_law_684 : dcd cL_law 684 (.iload_n 3) 1 685 := by decide +kernel
theorem dL_law_685 : dcd cL_law 685 (.iconst 1) 1 686 := by decide +kernel
theorem dL_law_686 : dcd cL_law 686 (.iadd) 1 687 := by decide +kernel
theorem dL_law_687 : dcd cL_law 687 (.iaload) 1 688 := by decide +kernel
theorem dL_law_688 : dcd cL_law 688 (.aload_n 0) 1 689 := by decide +kernel
theorem dL_law_689 : dcd cL_law 689 (.iload_n 3) 1 690 := by decide +kernel
theorem dL_law_690 : dcd cL_law 690 (.iconst 2) 1 691 := by decide +kernel
theorem dL_law_691 : dcd cL_law 691 (.iadd) 1 692 := by decide +kernel
theorem dL_law_692 : dcd cL_law 692 (.iaload) 1 693 := by decide +kernel
theorem dL_law_693 : dcd cL_law 693 (.aload_n 0) 1 694 := by decide +kernel
theorem dL_law_694 : dcd cL_law 694 (.iload_n 3) 1 695 := by decide +kernel
theorem dL_law_695 : dcd cL_law 695 (.iconst 3) 1 696 := by decide +kernel
theorem dL_law_696 : dcd cL_law 696 (.iadd) 1 697 := by decide +kernel
theorem dL_law_697 : dcd cL_law 697 (.iaload) 1 698 := by decide +kernel
theorem dL_law_698 : dcd cL_law 698 (.invokevirtual 79) 3 701 := by decide +kernel
theorem dL_law_701 : dcd cL_law 701 (.aload_n 2) 1 702 := by decide +kernel
theorem dL_law_702 : dcd cL_law 702 (.aload_n 0) 1 703 := by decide +kernel
theorem dL_law_703 : dcd cL_law 703 (.iload_n 3) 1 704 := by decide +kernel
theorem dL_law_704 : dcd cL_law 704 (.iconst 1) 1 705 := by decide +kernel
theorem dL_law_705 : dcd cL_law 705 (.iadd) 1 706 := by decide +kernel
theorem dL_law_706 : dcd cL_law 706 (.iaload) 1 707 := by decide +kernel
theorem dL_law_707 : dcd cL_law 707 (.aload_n 0) 1 708 := by decide +kernel
theorem dL_law_708 : dcd cL_law 708 (.iload_n 3) 1 709 := by decide +kernel
theorem dL_law_709 : dcd cL_law 709 (.iconst 2) 1 710 := by decide +kernel
theorem dL_law_710 : dcd cL_law 710 (.iadd) 1 711 := by decide +kernel
theorem dL_law_711 : dcd cL_law 711 (.iaload) 1 712 := by decide +kernel
theorem dL_law_712 : dcd cL_law 712 (.aload_n 0) 1 713 := by decide +kernel
theorem dL_law_713 : dcd cL_law 713 (.iload_n 3) 1 714 := by decide +kernel
theorem dL_law_714 : dcd cL_law 714 (.iconst 3) 1 715 := by decide +kernel
theorem dL_law_715 : dcd cL_law 715 (.iadd) 1 716 := by decide +kernel
theorem dL_law_716 : dcd cL_law 716 (.iaload) 1 717 := by decide +kernel
theorem dL_law_717 : dcd cL_law 717 (.invokevirtual 82) 3 720 := by decide +kernel
theorem dL_law_720 : dcb cL_law 720 (.if_icmp .eq (730)) (730) 1450 723 := by decide +kernel
theorem dL_law_723 : dcd cL_law 723 (.iconst 0) 1 724 := by decide +kernel
theorem dL_law_724 : decode cL_law 724 = .ok (.ireturn, 1) := by decide +kernel
theorem dL_law_725 : dcd cL_law 725 (.aload_n 1) 1 726 := by decide +kernel
theorem dL_law_726 : dcd cL_law 726 (.aload_n 0) 1 727 := by decide +kernel
theorem dL_law_727 : dcd cL_law 727 (.iload_n 3) 1 728 := by decide +kernel
theorem dL_law_728 : dcd cL_law 728 (.iconst 1) 1 729 := by decide +kernel
theorem dL_law_729 : dcd cL_law 729 (.iadd) 1 730 := by decide +kernel
theorem dL_law_730 : dcd cL_law 730 (.iaload) 1 731 := by decide +kernel
theorem dL_law_731 : dcd cL_law 731 (.aload_n 0) 1 732 := by decide +kernel
theorem dL_law_732 : dcd cL_law 732 (.iload_n 3) 1 733 := by decide +kernel
theorem dL_law_733 : dcd cL_law 733 (.iconst 2) 1 734 := by decide +kernel
theorem dL_law_734 : dcd cL_law 734 (.iadd) 1 735 := by decide +kernel
theorem dL_law_735 : dcd cL_law 735 (.iaload) 1 736 := by decide +kernel
theorem dL_law_736 : dcd cL_law 736 (.aload_n 0) 1 737 := by decide +kernel
theorem dL_law_737 : dcd cL_law 737 (.iload_n 3) 1 738 := by decide +kernel
theorem dL_law_738 : dcd cL_law 738 (.iconst 3) 1 739 := by decide +kernel
theorem dL_law_739 : dcd cL_law 739 (.iadd) 1 740 := by decide +kernel
theorem dL_law_740 : dcd cL_law 740 (.iaload) 1 741 := by decide +kernel
theorem dL_law_741 : dcd cL_law 741 (.invokevirtual 83) 3 744 := by decide +kernel
theorem dL_law_744 : dcd cL_law 744 (.aload_n 2) 1 745 := by decide +kernel
theorem dL_law_745 : dcd cL_law 745 (.aload_n 0) 1 746 := by decide +kernel
theorem dL_law_746 : dcd cL_law 746 (.iload_n 3) 1 747 := by decide +kernel
theorem dL_law_747 : dcd cL_law 747 (.iconst 1) 1 748 := by decide +kernel
theorem dL_law_748 : dcd cL_law 748 (.iadd) 1 749 := by decide +kernel
theorem dL_law_749 : dcd cL_law 749 (.iaload) 1 750 := by decide +kernel
theorem dL_law_750 : dcd cL_law 750 (.aload_n 0) 1 751 := by decide +kernel
theorem dL_law_751 : dcd cL_law 751 (.iload_n 3) 1 752 := by decide +kernel
theorem dL_law_752 : dcd cL_law 752 (.iconst 2) 1 753 := by decide +kernel
theorem dL_law_753 : dcd cL_law 753 (.iadd) 1 754 := by decide +kernel
theorem dL_law_754 : dcd cL_law 754 (.iaload) 1 755 := by decide +kernel
theorem dL_law_755 : dcd cL_law 755 (.aload_n 0) 1 756 := by decide +kernel
theorem dL_law_756 : dcd cL_law 756 (.iload_n 3) 1 757 := by decide +kernel
theorem dL_law_757 : dcd cL_law 757 (.iconst 3) 1 758 := by decide +kernel
theorem dL_law_758 : dcd cL_law 758 (.iadd) 1 759 := by decide +kernel
theorem dL_law_759 : dcd cL_law 759 (.iaload) 1 760 := by decide +kernel
theorem dL_law_760 : dcd cL_law 760 (.invokevirtual 86) 3 763 := by decide +kernel
theorem dL_law_763 : dcb cL_law 763 (.if_icmp .eq (687)) (687) 1450 766 := by decide +kernel
theorem dL_law_766 : dcd cL_law 766 (.iconst 0) 1 767 := by decide +kernel
theorem dL_law_767 : decode cL_law 767 = .ok (.ireturn, 1) := by decide +kernel
theorem dL_law_768 : dcd cL_law 768 (.aload_n 1) 1 769 := by decide +kernel
theorem dL_law_769 : dcd cL_law 769 (.aload_n 0) 1 770 := by decide +kernel
theorem dL_law_770 : dcd cL_law 770 (.iload_n 3) 1 771 := by decide +kernel
theorem dL_law_771 : dcd cL_law 771 (.iconst 1) 1 772 := by decide +kernel
theorem dL_law_772 : dcd cL_law 772 (.iadd) 1 773 := by decide +kernel
theorem dL_law_773 : dcd cL_law 773 (.iaload) 1 774 := by decide +kernel
theorem dL_law_774 : dcd cL_law 774 (.aload_n 0) 1 775 := by decide +kernel
theorem dL_law_775 : dcd cL_law 775 (.iload_n 3) 1 776 := by decide +kernel
theorem dL_law_776 : dcd cL_law 776 (.iconst 2) 1 777 := by decide +kernel
theorem dL_law_777 : dcd cL_law 777 (.iadd) 1 778 := by decide +kernel
theorem dL_law_778 : dcd cL_law 778 (.iaload) 1 779 := by decide +kernel
theorem dL_law_779 : dcd cL_law 779 (.aload_n 0) 1 780 := by decide +kernel
theorem dL_law_780 : dcd cL_law 780 (.iload_n 3) 1 781 := by decide +kernel
theorem dL_law_781 : dcd cL_law 781 (.iconst 3) 1 782 := by decide +kernel
theorem dL_law_782 : dcd cL_law 782 (.iadd) 1 783 := by decide +kernel
theorem dL_law_783 : dcd cL_law 783 (.iaload) 1 784 := by decide +kernel
theorem dL_law_784 : dcd cL_law 784 (.aload_n 0) 1 785 := by decide +kernel
theorem dL_law_785 : dcd cL_law 785 (.iload_n 3) 1 786 := by decide +kernel
theorem dL_law_786 : dcd cL_law 786 (.iconst 4) 1 787 := by decide +kernel
theorem dL_law_787 : dcd cL_law 787 (.iadd) 1 788 := by decide +kernel
theorem dL_law_788 : dcd cL_law 788 (.iaload) 1 789 := by decide +kernel
theorem dL_law_789 : dcd cL_law 789 (.aload_n 0) 1 790 := by decide +kernel
theorem dL_law_790 : dcd cL_law 790 (.iload_n 3) 1 791 := by decide +kernel
theorem dL_law_791 : dcd cL_law 791 (.iconst 5) 1 792 := by decide +kernel
theorem dL_law_792 : dcd cL_law 792 (.iadd) 1 793 := by decide +kernel
theorem dL_law_793 : dcd cL_law 793 (.iaload) 1 794 := by decide +kernel
theorem dL_law_794 : dcd cL_law 794 (.invokevirtual 87) 3 797 := by decide +kernel
theorem dL_law_797 : dcd cL_law 797 (.aload_n 2) 1 798 := by decide +kernel
theorem dL_law_798 : dcd cL_law 798 (.aload_n 0) 1 799 := by decide +kernel
theorem dL_law_799 : dcd cL_law 799 (.iload_n 3) 1 800 := by decide +kernel
theorem dL_law_800 : dcd cL_law 800 (.iconst 1) 1 801 := by decide +kernel
theorem dL_law_801 : dcd cL_law 801 (.iadd) 1 802 := by decide +kernel
theorem dL_law_802 : dcd cL_law 802 (.iaload) 1 803 := by decide +kernel
theorem dL_law_803 : dcd cL_law 803 (.aload_n 0) 1 804 := by decide +kernel
theorem dL_law_804 : dcd cL_law 804 (.iload_n 3) 1 805 := by decide +kernel
theorem dL_law_805 : dcd cL_law 805 (.iconst 2) 1 806 := by decide +kernel
theorem dL_law_806 : dcd cL_law 806 (.iadd) 1 807 := by decide +kernel
theorem dL_law_807 : dcd cL_law 807 (.iaload) 1 808 := by decide +kernel
theorem dL_law_808 : dcd cL_law 808 (.aload_n 0) 1 809 := by decide +kernel
theorem dL_law_809 : dcd cL_law 809 (.iload_n 3) 1 810 := by decide +kernel
theorem dL_law_810 : dcd cL_law 810 (.iconst 3) 1 811 := by decide +kernel
theorem dL_law_811 : dcd cL_law 811 (.iadd) 1 812 := by decide +kernel
theorem dL_law_812 : dcd cL_law 812 (.iaload) 1 813 := by decide +kernel
theorem dL_law_813 : dcd cL_law 813 (.aload_n 0) 1 814 := by decide +kernel
theorem dL_law_814 : dcd cL_law 814 (.iload_n 3) 1 815 := by decide +kernel
theorem dL_law_815 : dcd cL_law 815 (.iconst 4) 1 816 := by decide +kernel
theorem dL_law_816 : dcd cL_law 816 (.iadd) 1 817 := by decide +kernel
theorem dL_law_817 : dcd cL_law 817 (.iaload) 1 818 := by decide +kernel
theorem dL_law_818 : dcd cL_law 818 (.aload_n 0) 1 819 := by decide +kernel
theorem dL_law_819 : dcd cL_law 819 (.iload_n 3) 1 820 := by decide +kernel
theorem dL_law_820 : dcd cL_law 820 (.iconst 5) 1 821 := by decide +kernel
theorem dL_law_821 : dcd cL_law 821 (.iadd) 1 822 := by decide +kernel
theorem dL_law_822 : dcd cL_law 822 (.iaload) 1 823 := by decide +kernel
theorem dL_law_823 : dcd cL_law 823 (.invokevirtual 91) 3 826 := by decide +kernel
theorem dL_law_826 : dcb cL_law 826 (.if_icmp .eq (624)) (624) 1450 829 := by decide +kernel
theorem dL_law_829 : dcd cL_law 829 (.iconst 0) 1 830 := by decide +kernel
theorem dL_law_830 : decode cL_law 830 = .ok (.ireturn, 1) := by decide +kernel
theorem dL_law_831 : dcd cL_law 831 (.aload_n 1) 1 832 := by decide +kernel
theorem dL_law_832 : dcd cL_law 832 (.aload_n 0) 1 833 := by decide +kernel
theorem dL_law_833 : dcd cL_law 833 (.iload_n 3) 1 834 := by decide +kernel
theorem dL_law_834 : dcd cL_law 834 (.iconst 1) 1 835 := by decide +kernel
theorem dL_law_835 : dcd cL_law 835 (.iadd) 1 836 := by decide +kernel
theorem dL_law_836 : dcd cL_law 836 (.iaload) 1 837 := by decide +kernel
theorem dL_law_837 : dcd cL_law 837 (.aload_n 0) 1 838 := by decide +kernel
theorem dL_law_838 : dcd cL_law 838 (.iload_n 3) 1 839 := by decide +kernel
theorem dL_law_839 : dcd cL_law 839 (.iconst 2) 1 840 := by decide +kernel
theorem dL_law_840 : dcd cL_law 840 (.iadd) 1 841 := by decide +kernel
theorem dL_law_841 : dcd cL_law 841 (.iaload) 1 842 := by decide +kernel
theorem dL_law_842 : dcd cL_law 842 (.aload_n 0) 1 843 := by decide +kernel
theorem dL_law_843 : dcd cL_law 843 (.iload_n 3) 1 844 := by decide +kernel
theorem dL_law_844 : dcd cL_law 844 (.iconst 3) 1 845 := by decide +kernel
theorem dL_law_845 : dcd cL_law 845 (.iadd) 1 846 := by decide +kernel
theorem dL_law_846 : dcd cL_law 846 (.iaload) 1 847 := by decide +kernel
theorem dL_law_847 : dcd cL_law 847 (.aload_n 0) 1 848 := by decide +kernel
theorem dL_law_848 : dcd cL_law 848 (.iload_n 3) 1 849 := by decide +kernel
theorem dL_law_849 : dcd cL_law 849 (.iconst 4) 1 850 := by decide +kernel
theorem dL_law_850 : dcd cL_law 850 (.iadd) 1 851 := by decide +kernel
theorem dL_law_851 : dcd cL_law 851 (.iaload) 1 852 := by decide +kernel
theorem dL_law_852 : dcd cL_law 852 (.aload_n 0) 1 853 := by decide +kernel
theorem dL_law_853 : dcd cL_law 853 (.iload_n 3) 1 854 := by decide +kernel
theorem dL_law_854 : dcd cL_law 854 (.iconst 5) 1 855 := by decide +kernel
theorem dL_law_855 : dcd cL_law 855 (.iadd) 1 856 := by decide +kernel
theorem dL_law_856 : dcd cL_law 856 (.iaload) 1 857 := by decide +kernel
theorem dL_law_857 : dcd cL_law 857 (.invokevirtual 92) 3 860 := by decide +kernel
theorem dL_law_860 : dcd cL_law 860 (.aload_n 2) 1 861 := by decide +kernel
theorem dL_law_861 : dcd cL_law 861 (.aload_n 0) 1 862 := by decide +kernel
theorem dL_law_862 : dcd cL_law 862 (.iload_n 3) 1 863 := by decide +kernel
theorem dL_law_863 : dcd cL_law 863 (.iconst 1) 1 864 := by decide +kernel
theorem dL_law_864 : dcd cL_law 864 (.iadd) 1 865 := by decide +kernel
theorem dL_law_865 : dcd cL_law 865 (.iaload) 1 866 := by decide +kernel
theorem dL_law_866 : dcd cL_law 866 (.aload_n 0) 1 867 := by decide +kernel
theorem dL_law_867 : dcd cL_law 867 (.iload_n 3) 1 868 := by decide +kernel
theorem dL_law_868 : dcd cL_law 868 (.iconst 2) 1 869 := by decide +kernel
theorem dL_law_869 : dcd cL_law 869 (.iadd) 1 870 := by decide +kernel
theorem dL_law_870 : dcd cL_law 870 (.iaload) 1 871 := by decide +kernel
theorem dL_law_871 : dcd cL_law 871 (.aload_n 0) 1 872 := by decide +kernel
theorem dL_law_872 : dcd cL_law 872 (.iload_n 3) 1 873 := by decide +kernel
theorem dL_law_873 : dcd cL_law 873 (.iconst 3) 1 874 := by decide +kernel
theorem dL_law_874 : dcd cL_law 874 (.iadd) 1 875 := by decide +kernel
theorem dL_law_875 : dcd cL_law 875 (.iaload) 1 876 := by decide +kernel
theorem dL_law_876 : dcd cL_law 876 (.aload_n 0) 1 877 := by decide +kernel
theorem dL_law_877 : dcd cL_law 877 (.iload_n 3) 1 878 := by decide +kernel
theorem dL_law_878 : dcd cL_law 878 (.iconst 4) 1 879 := by decide +kernel
theorem dL_law_879 : dcd cL_law 879 (.iadd) 1 880 := by decide +kernel
theorem dL_law_880 : dcd cL_law 880 (.iaload) 1 881 := by decide +kernel
theorem dL_law_881 : dcd cL_law 881 (.aload_n 0) 1 882 := by decide +kernel
theorem dL_law_882 : dcd cL_law 882 (.iload_n 3) 1 883 := by decide +kernel
theorem dL_law_883 : dcd cL_law 883 (.iconst 5) 1 884 := by decide +kernel
theorem dL_law_884 : dcd cL_law 884 (.iadd) 1 885 := by decide +kernel
theorem dL_law_885 : dcd cL_law 885 (.iaload) 1 886 := by decide +kernel
theorem dL_law_886 : dcd cL_law 886 (.invokevirtual 95) 3 889 := by decide +kernel
theorem dL_law_889 : dcb cL_law 889 (.if_icmp .eq (561)) (561) 1450 892 := by decide +kernel
theorem dL_law_892 : dcd cL_law 892 (.iconst 0) 1 893 := by decide +kernel
theorem dL_law_893 : decode cL_law 893 = .ok (.ireturn, 1) := by decide +kernel
theorem dL_law_894 : dcd cL_law 894 (.aload_n 1) 1 895 := by decide +kernel
theorem dL_law_895 : dcd cL_law 895 (.aload_n 0) 1 896 := by decide +kernel
theorem dL_law_896 : dcd cL_law 896 (.iload_n 3) 1 897 := by decide +kernel
theorem dL_law_897 : dcd cL_law 897 (.iconst 1) 1 898 := by decide +kernel
theorem dL_law_898 : dcd cL_law 898 (.iadd) 1 899 := by decide +kernel
theorem dL_law_899 : dcd cL_law 899 (.iaload) 1 900 := by decide +kernel
theorem dL_law_900 : dcd cL_law 900 (.aload_n 0) 1 901 := by decide +kernel
theorem dL_law_901 : dcd cL_law 901 (.iload_n 3) 1 902 := by decide +kernel
theorem dL_law_902 : dcd cL_law 902 (.iconst 2) 1 903 := by decide +kernel
theorem dL_law_903 : dcd cL_law 903 (.iadd) 1 904 := by decide +kernel
theorem dL_law_904 : dcd cL_law 904 (.iaload) 1 905 := by decide +kernel
theorem dL_law_905 : dcd cL_law 905 (.aload_n 0) 1 906 := by decide +kernel
theorem dL_law_906 : dcd cL_law 906 (.iload_n 3) 1 907 := by decide +kernel
theorem dL_law_907 : dcd cL_law 907 (.iconst 3) 1 908 := by decide +kernel
theorem dL_law_908 : dcd cL_law 908 (.iadd) 1 909 := by decide +kernel
theorem dL_law_909 : dcd cL_law 909 (.iaload) 1 910 := by decide +kernel
theorem dL_law_910 : dcd cL_law 910 (.invokevirtual 96) 3 913 := by decide +kernel
theorem dL_law_913 : dcd cL_law 913 (.aload_n 2) 1 914 := by decide +kernel
theorem dL_law_914 : dcd cL_law 914 (.aload_n 0) 1 915 := by decide +kernel
theorem dL_law_915 : dcd cL_law 915 (.iload_n 3) 1 916 := by decide +kernel
theorem dL_law_916 : dcd cL_law 916 (.iconst 1) 1 917 := by decide +kernel
theorem dL_law_917 : dcd cL_law 917 (.iadd) 1 918 := by decide +kernel
theorem dL_law_918 : dcd cL_law 918 (.iaload) 1 919 := by decide +kernel
theorem dL_law_919 : dcd cL_law 919 (.aload_n 0) 1 920 := by decide +kernel
theorem dL_law_920 : dcd cL_law 920 (.iload_n 3) 1 921 := by decide +kernel
theorem dL_law_921 : dcd cL_law 921 (.iconst 2) 1 922 := by decide +kernel
theorem dL_law_922 : dcd cL_law 922 (.iadd) 1 923 := by decide +kernel
theorem dL_law_923 : dcd cL_law 923 (.iaload) 1 924 := by decide +kernel
theorem dL_law_924 : dcd cL_law 924 (.aload_n 0) 1 925 := by decide +kernel
theorem dL_law_925 : dcd cL_law 925 (.iload_n 3) 1 926 := by decide +kernel
theorem dL_law_926 : dcd cL_law 926 (.iconst 3) 1 927 := by decide +kernel
theorem dL_law_927 : dcd cL_law 927 (.iadd) 1 928 := by decide +kernel
theorem dL_law_928 : dcd cL_law 928 (.iaload) 1 929 := by decide +kernel
theorem dL_law_929 : dcd cL_law 929 (.invokevirtual 99) 3 932 := by decide +kernel
theorem dL_law_932 : dcb cL_law 932 (.if_icmp .eq (518)) (518) 1450 935 := by decide +kernel
theorem dL_law_935 : dcd cL_law 935 (.iconst 0) 1 936 := by decide +kernel
theorem dL_law_936 : decode cL_law 936 = .ok (.ireturn, 1) := by decide +kernel
theorem dL_law_937 : dcd cL_law 937 (.aload_n 1) 1 938 := by decide +kernel
theorem dL_law_938 : dcd cL_law 938 (.invokevirtual 100) 3 941 := by decide +kernel
theorem dL_law_941 : dcd cL_law 941 (.aload_n 2) 1 942 := by decide +kernel
theorem dL_law_942 : dcd cL_law 942 (.invokevirtual 103) 3 945 := by decide +kernel
theorem dL_law_945 : dcb cL_law 945 (.if_icmp .eq (505)) (505) 1450 948 := by decide +kernel
theorem dL_law_948 : dcd cL_law 948 (.iconst 0) 1 949 := by decide +kernel
theorem dL_law_949 : decode cL_law 949 = .ok (.ireturn, 1) := by decide +kernel
theorem dL_law_950 : dcd cL_law 950 (.aload_n 1) 1 951 := by decide +kernel
theorem dL_law_951 : dcd cL_law 951 (.invokevirtual 104) 3 954 := by decide +kernel
theorem dL_law_954 : dcd cL_law 954 (.aload_n 2) 1 955 := by decide +kernel
theorem dL_law_955 : dcd cL_law 955 (.invokevirtual 107) 3 958 := by decide +kernel
theorem dL_law_958 : dcb cL_law 958 (.if_icmp .eq (492)) (492) 1450 961 := by decide +kernel
theorem dL_law_961 : dcd cL_law 961 (.iconst 0) 1 962 := by decide +kernel
theorem dL_law_962 : decode cL_law 962 = .ok (.ireturn, 1) := by decide +kernel
theorem dL_law_963 : dcd cL_law 963 (.aload_n 1) 1 964 := by decide +kernel
theorem dL_law_964 : dcd cL_law 964 (.invokevirtual 108) 3 967 := by decide +kernel
theorem dL_law_967 : dcd cL_law 967 (.aload_n 2) 1 968 := by decide +kernel
theorem dL_law_968 : dcd cL_law 968 (.invokevirtual 111) 3 971 := by decide +kernel
theorem dL_law_971 : dcb cL_law 971 (.if_icmp .eq (479)) (479) 1450 974 := by decide +kernel
theorem dL_law_974 : dcd cL_law 974 (.iconst 0) 1 975 := by decide +kernel
theorem dL_law_975 : decode cL_law 975 = .ok (.ireturn, 1) := by decide +kernel
theorem dL_law_976 : dcd cL_law 976 (.aload_n 1) 1 977 := by decide +kernel
theorem dL_law_977 : dcd cL_law 977 (.aload_n 0) 1 978 := by decide +kernel
theorem dL_law_978 : dcd cL_law 978 (.iload_n 3) 1 979 := by decide +kernel
theorem dL_law_979 : dcd cL_law 979 (.iconst 1) 1 980 := by decide +kernel
theorem dL_law_980 : dcd cL_law 980 (.iadd) 1 981 := by decide +kernel
theorem dL_law_981 : dcd cL_law 981 (.iaload) 1 982 := by decide +kernel
theorem dL_law_982 : dcd cL_law 982 (.invokevirtual 112) 3 985 := by decide +kernel
theorem dL_law_985 : dcd cL_law 985 (.aload_n 2) 1 986 := by decide +kernel
theorem dL_law_986 : dcd cL_law 986 (.aload_n 0) 1 987 := by decide +kernel
theorem dL_law_987 : dcd cL_law 987 (.iload_n 3) 1 988 := by decide +kernel
theorem dL_law_988 : dcd cL_law 988 (.iconst 1) 1 989 := by decide +kernel
theorem dL_law_989 : dcd cL_law 989 (.iadd) 1 990 := by decide +kernel
theorem dL_law_990 : dcd cL_law 990 (.iaload) 1 991 := by decide +kernel
theorem dL_law_991 : dcd cL_law 991 (.invokevirtual 115) 3 994 := by decide +kernel
theorem dL_law_994 : dcb cL_law 994 (.if_icmp .eq (456)) (456) 1450 997 := by decide +kernel
theorem dL_law_997 : dcd cL_law 997 (.iconst 0) 1 998 := by decide +kernel
theorem dL_law_998 : decode cL_law 998 = .ok (.ireturn, 1) := by decide +kernel
theorem dL_law_999 : dcd cL_law 999 (.aload_n 1) 1 1000 := by decide +kernel
theorem dL_law_1000 : dcd cL_law 1000 (.aload_n 0) 1 1001 := by decide +kernel
theorem dL_law_1001 : dcd cL_law 1001 (.iload_n 3) 1 1002 := by decide +kernel
theorem dL_law_1002 : dcd cL_law 1002 (.iconst 1) 1 1003 := by decide +kernel
theorem dL_law_1003 : dcd cL_law 1003 (.iadd) 1 1004 := by decide +kernel
theorem dL_law_1004 : dcd cL_law 1004 (.iaload) 1 1005 := by decide +kernel
theorem dL_law_1005 : dcd cL_law 1005 (.invokevirtual 116) 3 1008 := by decide +kernel
theorem dL_law_1008 : dcd cL_law 1008 (.aload_n 2) 1 1009 := by decide +kernel
theorem dL_law_1009 : dcd cL_law 1009 (.aload_n 0) 1 1010 := by decide +kernel
theorem dL_law_1010 : dcd cL_law 1010 (.iload_n 3) 1 1011 := by decide +kernel
theorem dL_law_1011 : dcd cL_law 1011 (.iconst 1) 1 1012 := by decide +kernel
theorem dL_law_1012 : dcd cL_law 1012 (.iadd) 1 1013 := by decide +kernel
theorem dL_law_1013 : dcd cL_law 1013 (.iaload) 1 1014 := by decide +kernel
theorem dL_law_1014 : dcd cL_law 1014 (.invokevirtual 119) 3 1017 := by decide +kernel
theorem dL_law_1017 : dcb cL_law 1017 (.if_icmp .eq (433)) (433) 1450 1020 := by decide +kernel
theorem dL_law_1020 : dcd cL_law 1020 (.iconst 0) 1 1021 := by decide +kernel
theorem dL_law_1021 : decode cL_law 1021 = .ok (.ireturn, 1) := by decide +kernel
theorem dL_law_1022 : dcd cL_law 1022 (.aload_n 1) 1 1023 := by decide +kernel
theorem dL_law_1023 : dcd cL_law 1023 (.invokevirtual 120) 3 1026 := by decide +kernel
theorem dL_law_1026 : dcd cL_law 1026 (.aload_n 2) 1 1027 := by decide +kernel
theorem dL_law_1027 : dcd cL_law 1027 (.invokevirtual 123) 3 1030 := by decide +kernel
theorem dL_law_1030 : dcb cL_law 1030 (.if_icmp .eq (420)) (420) 1450 1033 := by decide +kernel
theorem dL_law_1033 : dcd cL_law 1033 (.iconst 0) 1 1034 := by decide +kernel
theorem dL_law_1034 : decode cL_law 1034 = .ok (.ireturn, 1) := by decide +kernel
theorem dL_law_1035 : dcd cL_law 1035 (.aload_n 1) 1 1036 := by decide +kernel
theorem dL_law_1036 : dcd cL_law 1036 (.invokevirtual 124) 3 1039 := by decide +kernel
theorem dL_law_1039 : dcd cL_law 1039 (.aload_n 2) 1 1040 := by decide +kernel
theorem dL_law_1040 : dcd cL_law 1040 (.invokevirtual 127) 3 1043 := by decide +kernel
theorem dL_law_1043 : dcb cL_law 1043 (.if_icmp .eq (407)) (407) 1450 1046 := by decide +kernel
theorem dL_law_1046 : dcd cL_law 1046 (.iconst 0) 1 1047 := by decide +kernel
theorem dL_law_1047 : decode cL_law 1047 = .ok (.ireturn, 1) := by decide +kernel
theorem dL_law_1048 : dcd cL_law 1048 (.aload_n 1) 1 1049 := by decide +kernel
theorem dL_law_1049 : dcd cL_law 1049 (.aload_n 0) 1 1050 := by decide +kernel
theorem dL_law_1050 : dcd cL_law 1050 (.iload_n 3) 1 1051 := by decide +kernel
theorem dL_law_1051 : dcd cL_law 1051 (.iconst 1) 1 1052 := by decide +kernel
theorem dL_law_1052 : dcd cL_law 1052 (.iadd) 1 1053 := by decide +kernel
theorem dL_law_1053 : dcd cL_law 1053 (.iaload) 1 1054 := by decide +kernel
theorem dL_law_1054 : dcd cL_law 1054 (.aload_n 0) 1 1055 := by decide +kernel
theorem dL_law_1055 : dcd cL_law 1055 (.iload_n 3) 1 1056 := by decide +kernel
theorem dL_law_1056 : dcd cL_law 1056 (.iconst 2) 1 1057 := by decide +kernel
theorem dL_law_1057 : dcd cL_law 1057 (.iadd) 1 1058 := by decide +kernel
theorem dL_law_1058 : dcd cL_law 1058 (.iaload) 1 1059 := by decide +kernel
theorem dL_law_1059 : dcd cL_law 1059 (.invokevirtual 128) 3 1062 := by decide +kernel
theorem dL_law_1062 : dcd cL_law 1062 (.aload_n 2) 1 1063 := by decide +kernel
theorem dL_law_1063 : dcd cL_law 1063 (.aload_n 0) 1 1064 := by decide +kernel
theorem dL_law_1064 : dcd cL_law 1064 (.iload_n 3) 1 1065 := by decide +kernel
theorem dL_law_1065 : dcd cL_law 1065 (.iconst 1) 1 1066 := by decide +kernel
theorem dL_law_1066 : dcd cL_law 1066 (.iadd) 1 1067 := by decide +kernel
theorem dL_law_1067 : dcd cL_law 1067 (.iaload) 1 1068 := by decide +kernel
theorem dL_law_1068 : dcd cL_law 1068 (.aload_n 0) 1 1069 := by decide +kernel
theorem dL_law_1069 : dcd cL_law 1069 (.iload_n 3) 1 1070 := by decide +kernel
theorem dL_law_1070 : dcd cL_law 1070 (.iconst 2) 1 1071 := by decide +kernel
theorem dL_law_1071 : dcd cL_law 1071 (.iadd) 1 1072 := by decide +kernel
theorem dL_law_1072 : dcd cL_law 1072 (.iaload) 1 1073 := by decide +kernel
theorem dL_law_1073 : dcd cL_law 1073 (.invokevirtual 131) 3 1076 := by decide +kernel
theorem dL_law_1076 : dcb cL_law 1076 (.if_icmp .eq (374)) (374) 1450 1079 := by decide +kernel
theorem dL_law_1079 : dcd cL_law 1079 (.iconst 0) 1 1080 := by decide +kernel
theorem dL_law_1080 : decode cL_law 1080 = .ok (.ireturn, 1) := by decide +kernel
theorem dL_law_1081 : dcd cL_law 1081 (.aload_n 1) 1 1082 := by decide +kernel
theorem dL_law_1082 : dcd cL_law 1082 (.aload_n 0) 1 1083 := by decide +kernel
theorem dL_law_1083 : dcd cL_law 1083 (.iload_n 3) 1 1084 := by decide +kernel
theorem dL_law_1084 : dcd cL_law 1084 (.iconst 1) 1 1085 := by decide +kernel
theorem dL_law_1085 : dcd cL_law 1085 (.iadd) 1 1086 := by decide +kernel
theorem dL_law_1086 : dcd cL_law 1086 (.iaload) 1 1087 := by decide +kernel
theorem dL_law_1087 : dcd cL_law 1087 (.aload_n 0) 1 1088 := by decide +kernel
theorem dL_law_1088 : dcd cL_law 1088 (.iload_n 3) 1 1089 := by decide +kernel
theorem dL_law_1089 : dcd cL_law 1089 (.iconst 2) 1 1090 := by decide +kernel
theorem dL_law_1090 : dcd cL_law 1090 (.iadd) 1 1091 := by decide +kernel
theorem dL_law_1091 : dcd cL_law 1091 (.iaload) 1 1092 := by decide +kernel
theorem dL_law_1092 : dcd cL_law 1092 (.aload_n 0) 1 1093 := by decide +kernel
theorem dL_law_1093 : dcd cL_law 1093 (.iload_n 3) 1 1094 := by decide +kernel
theorem dL_law_1094 : dcd cL_law 1094 (.iconst 3) 1 1095 := by decide +kernel
theorem dL_law_1095 : dcd cL_law 1095 (.iadd) 1 1096 := by decide +kernel
theorem dL_law_1096 : dcd cL_law 1096 (.iaload) 1 1097 := by decide +kernel
theorem dL_law_1097 : dcb cL_law 1097 (.ifCond .eq (7)) (7) 1104 1100 := by decide +kernel
theorem dL_law_1100 : dcd cL_law 1100 (.iconst 1) 1 1101 := by decide +kernel
theorem dL_law_1101 : dcb cL_law 1101 (.goto (4)) (4) 1105 1104 := by decide +kernel
theorem dL_law_1104 : dcd cL_law 1104 (.iconst 0) 1 1105 := by decide +kernel
theorem dL_law_1105 : dcd cL_law 1105 (.invokevirtual 132) 3 1108 := by decide +kernel
theorem dL_law_1108 : dcd cL_law 1108 (.aload_n 2) 1 1109 := by decide +kernel
theorem dL_law_1109 : dcd cL_law 1109 (.aload_n 0) 1 1110 := by decide +kernel
theorem dL_law_1110 : dcd cL_law 1110 (.iload_n 3) 1 1111 := by decide +kernel
theorem dL_law_1111 : dcd cL_law 1111 (.iconst 1) 1 1112 := by decide +kernel
theorem dL_law_1112 : dcd cL_law 1112 (.iadd) 1 1113 := by decide +kernel
theorem dL_law_1113 : dcd cL_law 1113 (.iaload) 1 1114 := by decide +kernel
theorem dL_law_1114 : dcd cL_law 1114 (.aload_n 0) 1 1115 := by decide +kernel
theorem dL_law_1115 : dcd cL_law 1115 (.iload_n 3) 1 1116 := by decide +kernel
theorem dL_law_1116 : dcd cL_law 1116 (.iconst 2) 1 1117 := by decide +kernel
theorem dL_law_1117 : dcd cL_law 1117 (.iadd) 1 1118 := by decide +kernel
theorem dL_law_1118 : dcd cL_law 1118 (.iaload) 1 1119 := by decide +kernel
theorem dL_law_1119 : dcd cL_law 1119 (.aload_n 0) 1 1120 := by decide +kernel
theorem dL_law_1120 : dcd cL_law 1120 (.iload_n 3) 1 1121 := by decide +kernel
theorem dL_law_1121 : dcd cL_law 1121 (.iconst 3) 1 1122 := by decide +kernel
theorem dL_law_1122 : dcd cL_law 1122 (.iadd) 1 1123 := by decide +kernel
theorem dL_law_1123 : dcd cL_law 1123 (.iaload) 1 1124 := by decide +kernel
theorem dL_law_1124 : dcb cL_law 1124 (.ifCond .eq (7)) (7) 1131 1127 := by decide +kernel
theorem dL_law_1127 : dcd cL_law 1127 (.iconst 1) 1 1128 := by decide +kernel
theorem dL_law_1128 : dcb cL_law 1128 (.goto (4)) (4) 1132 1131 := by decide +kernel
theorem dL_law_1131 : dcd cL_law 1131 (.iconst 0) 1 1132 := by decide +kernel
theorem dL_law_1132 : dcd cL_law 1132 (.invokevirtual 136) 3 1135 := by decide +kernel
theorem dL_law_1135 : dcd cL_law 1135 (.lcmp) 1 1136 := by decide +kernel
theorem dL_law_1136 : dcb cL_law 1136 (.ifCond .eq (314)) (314) 1450 1139 := by decide +kernel
theorem dL_law_1139 : dcd cL_law 1139 (.iconst 0) 1 1140 := by decide +kernel
theorem dL_law_1140 : decode cL_law 1140 = .ok (.ireturn, 1) := by decide +kernel
theorem dL_law_1141 : dcd cL_law 1141 (.aload_n 1) 1 1142 := by decide +kernel
theorem dL_law_1142 : dcd cL_law 1142 (.aload_n 0) 1 1143 := by decide +kernel
theorem dL_law_1143 : dcd cL_law 1143 (.iload_n 3) 1 1144 := by decide +kernel
theorem dL_law_1144 : dcd cL_law 1144 (.iconst 1) 1 1145 := by decide +kernel
theorem dL_law_1145 : dcd cL_law 1145 (.iadd) 1 1146 := by decide +kernel
theorem dL_law_1146 : dcd cL_law 1146 (.iaload) 1 1147 := by decide +kernel
theorem dL_law_1147 : dcd cL_law 1147 (.invokevirtual 137) 3 1150 := by decide +kernel
theorem dL_law_1150 : dcd cL_law 1150 (.aload_n 2) 1 1151 := by decide +kernel
theorem dL_law_1151 : dcd cL_law 1151 (.aload_n 0) 1 1152 := by decide +kernel
theorem dL_law_1152 : dcd cL_law 1152 (.iload_n 3) 1 1153 := by decide +kernel
theorem dL_law_1153 : dcd cL_law 1153 (.iconst 1) 1 1154 := by decide +kernel
theorem dL_law_1154 : dcd cL_law 1154 (.iadd) 1 1155 := by decide +kernel
theorem dL_law_1155 : dcd cL_law 1155 (.iaload) 1 1156 := by decide +kernel
theorem dL_law_1156 : dcd cL_law 1156 (.invokevirtual 140) 3 1159 := by decide +kernel
theorem dL_law_1159 : dcb cL_law 1159 (.if_icmp .eq (291)) (291) 1450 1162 := by decide +kernel
theorem dL_law_1162 : dcd cL_law 1162 (.iconst 0) 1 1163 := by decide +kernel
theorem dL_law_1163 : decode cL_law 1163 = .ok (.ireturn, 1) := by decide +kernel
theorem dL_law_1164 : dcd cL_law 1164 (.aload_n 1) 1 1165 := by decide +kernel
theorem dL_law_1165 : dcd cL_law 1165 (.aload_n 0) 1 1166 := by decide +kernel
theorem dL_law_1166 : dcd cL_law 1166 (.iload_n 3) 1 1167 := by decide +kernel
theorem dL_law_1167 : dcd cL_law 1167 (.iconst 1) 1 1168 := by decide +kernel
theorem dL_law_1168 : dcd cL_law 1168 (.iadd) 1 1169 := by decide +kernel
theorem dL_law_1169 : dcd cL_law 1169 (.iaload) 1 1170 := by decide +kernel
theorem dL_law_1170 : dcd cL_law 1170 (.invokevirtual 141) 3 1173 := by decide +kernel
theorem dL_law_1173 : dcd cL_law 1173 (.aload_n 2) 1 1174 := by decide +kernel
theorem dL_law_1174 : dcd cL_law 1174 (.aload_n 0) 1 1175 := by decide +kernel
theorem dL_law_1175 : dcd cL_law 1175 (.iload_n 3) 1 1176 := by decide +kernel
theorem dL_law_1176 : dcd cL_law 1176 (.iconst 1) 1 1177 := by decide +kernel
theorem dL_law_1177 : dcd cL_law 1177 (.iadd) 1 1178 := by decide +kernel
theorem dL_law_1178 : dcd cL_law 1178 (.iaload) 1 1179 := by decide +kernel
theorem dL_law_1179 : dcd cL_law 1179 (.invokevirtual 144) 3 1182 := by decide +kernel
theorem dL_law_1182 : dcb cL_law 1182 (.if_icmp .eq (268)) (268) 1450 1185 := by decide +kernel
theorem dL_law_1185 : dcd cL_law 1185 (.iconst 0) 1 1186 := by decide +kernel
theorem dL_law_1186 : decode cL_law 1186 = .ok (.ireturn, 1) := by decide +kernel
theorem dL_law_1187 : dcd cL_law 1187 (.aload_n 1) 1 1188 := by decide +kernel
theorem dL_law_1188 : dcd cL_law 1188 (.aload_n 0) 1 1189 := by decide +kernel
theorem dL_law_1189 : dcd cL_law 1189 (.iload_n 3) 1 1190 := by decide +kernel
theorem dL_law_1190 : dcd cL_law 1190 (.iconst 1) 1 1191 := by decide +kernel
theorem dL_law_1191 : dcd cL_law 1191 (.iadd) 1 1192 := by decide +kernel
theorem dL_law_1192 : dcd cL_law 1192 (.iaload) 1 1193 := by decide +kernel
theorem dL_law_1193 : dcd cL_law 1193 (.invokevirtual 145) 3 1196 := by decide +kernel
theorem dL_law_1196 : dcd cL_law 1196 (.aload_n 2) 1 1197 := by decide +kernel
theorem dL_law_1197 : dcd cL_law 1197 (.aload_n 0) 1 1198 := by decide +kernel
theorem dL_law_1198 : dcd cL_law 1198 (.iload_n 3) 1 1199 := by decide +kernel
theorem dL_law_1199 : dcd cL_law 1199 (.iconst 1) 1 1200 := by decide +kernel
theorem dL_law_1200 : dcd cL_law 1200 (.iadd) 1 1201 := by decide +kernel
theorem dL_law_1201 : dcd cL_law 1201 (.iaload) 1 1202 := by decide +kernel
theorem dL_law_1202 : dcd cL_law 1202 (.invokevirtual 148) 3 1205 := by decide +kernel
theorem dL_law_1205 : dcb cL_law 1205 (.if_icmp .eq (245)) (245) 1450 1208 := by decide +kernel
theorem dL_law_1208 : dcd cL_law 1208 (.iconst 0) 1 1209 := by decide +kernel
theorem dL_law_1209 : decode cL_law 1209 = .ok (.ireturn, 1) := by decide +kernel
theorem dL_law_1210 : dcd cL_law 1210 (.aload_n 1) 1 1211 := by decide +kernel
theorem dL_law_1211 : dcd cL_law 1211 (.invokevirtual 149) 3 1214 := by decide +kernel
theorem dL_law_1214 : dcd cL_law 1214 (.aload_n 2) 1 1215 := by decide +kernel
theorem dL_law_1215 : dcd cL_law 1215 (.invokevirtual 152) 3 1218 := by decide +kernel
theorem dL_law_1218 : dcb cL_law 1218 (.if_icmp .eq (232)) (232) 1450 1221 := by decide +kernel
theorem dL_law_1221 : dcd cL_law 1221 (.iconst 0) 1 1222 := by decide +kernel
theorem dL_law_1222 : decode cL_law 1222 = .ok (.ireturn, 1) := by decide +kernel
theorem dL_law_1223 : dcd cL_law 1223 (.aload_n 1) 1 1224 := by decide +kernel
theorem dL_law_1224 : dcd cL_law 1224 (.aload_n 0) 1 1225 := by decide +kernel
theorem dL_law_1225 : dcd cL_law 1225 (.iload_n 3) 1 1226 := by decide +kernel
theorem dL_law_1226 : dcd cL_law 1226 (.iconst 1) 1 1227 := by decide +kernel
theorem dL_law_1227 : dcd cL_law 1227 (.iadd) 1 1228 := by decide +kernel
theorem dL_law_1228 : dcd cL_law 1228 (.iaload) 1 1229 := by decide +kernel
theorem dL_law_1229 : dcd cL_law 1229 (.aload_n 0) 1 1230 := by decide +kernel
theorem dL_law_1230 : dcd cL_law 1230 (.iload_n 3) 1 1231 := by decide +kernel
theorem dL_law_1231 : dcd cL_law 1231 (.iconst 2) 1 1232 := by decide +kernel
theorem dL_law_1232 : dcd cL_law 1232 (.iadd) 1 1233 := by decide +kernel
theorem dL_law_1233 : dcd cL_law 1233 (.iaload) 1 1234 := by decide +kernel
theorem dL_law_1234 : dcb cL_law 1234 (.ifCond .eq (7)) (7) 1241 1237 := by decide +kernel
theorem dL_law_1237 : dcd cL_law 1237 (.iconst 1) 1 1238 := by decide +kernel
theorem dL_law_1238 : dcb cL_law 1238 (.goto (4)) (4) 1242 1241 := by decide +kernel
theorem dL_law_1241 : dcd cL_law 1241 (.iconst 0) 1 1242 := by decide +kernel
theorem dL_law_1242 : dcd cL_law 1242 (.invokevirtual 153) 3 1245 := by decide +kernel
theorem dL_law_1245 : dcd cL_law 1245 (.aload_n 2) 1 1246 := by decide +kernel
theorem dL_law_1246 : dcd cL_law 1246 (.aload_n 0) 1 1247 := by decide +kernel
theorem dL_law_1247 : dcd cL_law 1247 (.iload_n 3) 1 1248 := by decide +kernel
theorem dL_law_1248 : dcd cL_law 1248 (.iconst 1) 1 1249 := by decide +kernel
theorem dL_law_1249 : dcd cL_law 1249 (.iadd) 1 1250 := by decide +kernel
theorem dL_law_1250 : dcd cL_law 1250 (.iaload) 1 1251 := by decide +kernel
theorem dL_law_1251 : dcd cL_law 1251 (.aload_n 0) 1 1252 := by decide +kernel
theorem dL_law_1252 : dcd cL_law 1252 (.iload_n 3) 1 1253 := by decide +kernel
theorem dL_law_1253 : dcd cL_law 1253 (.iconst 2) 1 1254 := by decide +kernel
theorem dL_law_1254 : dcd cL_law 1254 (.iadd) 1 1255 := by decide +kernel
theorem dL_law_1255 : dcd cL_law 1255 (.iaload) 1 1256 := by decide +kernel
theorem dL_law_1256 : dcb cL_law 1256 (.ifCond .eq (7)) (7) 1263 1259 := by decide +kernel
theorem dL_law_1259 : dcd cL_law 1259 (.iconst 1) 1 1260 := by decide +kernel
theorem dL_law_1260 : dcb cL_law 1260 (.goto (4)) (4) 1264 1263 := by decide +kernel
theorem dL_law_1263 : dcd cL_law 1263 (.iconst 0) 1 1264 := by decide +kernel
theorem dL_law_1264 : dcd cL_law 1264 (.invokevirtual 156) 3 1267 := by decide +kernel
theorem dL_law_1267 : dcb cL_law 1267 (.if_icmp .eq (183)) (183) 1450 1270 := by decide +kernel
theorem dL_law_1270 : dcd cL_law 1270 (.iconst 0) 1 1271 := by decide +kernel
theorem dL_law_1271 : decode cL_law 1271 = .ok (.ireturn, 1) := by decide +kernel
theorem dL_law_1272 : dcd cL_law 1272 (.aload_n 1) 1 1273 := by decide +kernel
theorem dL_law_1273 : dcd cL_law 1273 (.aload_n 0) 1 1274 := by decide +kernel
theorem dL_law_1274 : dcd cL_law 1274 (.iload_n 3) 1 1275 := by decide +kernel
theorem dL_law_1275 : dcd cL_law 1275 (.iconst 1) 1 1276 := by decide +kernel
theorem dL_law_1276 : dcd cL_law 1276 (.iadd) 1 1277 := by decide +kernel
theorem dL_law_1277 : dcd cL_law 1277 (.iaload) 1 1278 := by decide +kernel
theorem dL_law_1278 : dcd cL_law 1278 (.aload_n 0) 1 1279 := by decide +kernel
theorem dL_law_1279 : dcd cL_law 1279 (.iload_n 3) 1 1280 := by decide +kernel
theorem dL_law_1280 : dcd cL_law 1280 (.iconst 2) 1 1281 := by decide +kernel
theorem dL_law_1281 : dcd cL_law 1281 (.iadd) 1 1282 := by decide +kernel
theorem dL_law_1282 : dcd cL_law 1282 (.iaload) 1 1283 := by decide +kernel
theorem dL_law_1283 : dcb cL_law 1283 (.ifCond .eq (7)) (7) 1290 1286 := by decide +kernel
theorem dL_law_1286 : dcd cL_law 1286 (.iconst 1) 1 1287 := by decide +kernel
theorem dL_law_1287 : dcb cL_law 1287 (.goto (4)) (4) 1291 1290 := by decide +kernel
theorem dL_law_1290 : dcd cL_law 1290 (.iconst 0) 1 1291 := by decide +kernel
theorem dL_law_1291 : dcd cL_law 1291 (.invokevirtual 157) 3 1294 := by decide +kernel
theorem dL_law_1294 : dcd cL_law 1294 (.aload_n 2) 1 1295 := by decide +kernel
theorem dL_law_1295 : dcd cL_law 1295 (.aload_n 0) 1 1296 := by decide +kernel
theorem dL_law_1296 : dcd cL_law 1296 (.iload_n 3) 1 1297 := by decide +kernel
theorem dL_law_1297 : dcd cL_law 1297 (.iconst 1) 1 1298 := by decide +kernel
theorem dL_law_1298 : dcd cL_law 1298 (.iadd) 1 1299 := by decide +kernel
theorem dL_law_1299 : dcd cL_law 1299 (.iaload) 1 1300 := by decide +kernel
theorem dL_law_1300 : dcd cL_law 1300 (.aload_n 0) 1 1301 := by decide +kernel
theorem dL_law_1301 : dcd cL_law 1301 (.iload_n 3) 1 1302 := by decide +kernel
theorem dL_law_1302 : dcd cL_law 1302 (.iconst 2) 1 1303 := by decide +kernel
theorem dL_law_1303 : dcd cL_law 1303 (.iadd) 1 1304 := by decide +kernel
theorem dL_law_1304 : dcd cL_law 1304 (.iaload) 1 1305 := by decide +kernel
theorem dL_law_1305 : dcb cL_law 1305 (.ifCond .eq (7)) (7) 1312 1308 := by decide +kernel
theorem dL_law_1308 : dcd cL_law 1308 (.iconst 1) 1 1309 := by decide +kernel
theorem dL_law_1309 : dcb cL_law 1309 (.goto (4)) (4) 1313 1312 := by decide +kernel
theorem dL_law_1312 : dcd cL_law 1312 (.iconst 0) 1 1313 := by decide +kernel
theorem dL_law_1313 : dcd cL_law 1313 (.invokevirtual 161) 3 1316 := by decide +kernel
theorem dL_law_1316 : dcd cL_law 1316 (.lcmp) 1 1317 := by decide +kernel
theorem dL_law_1317 : dcb cL_law 1317 (.ifCond .eq (133)) (133) 1450 1320 := by decide +kernel
theorem dL_law_1320 : dcd cL_law 1320 (.iconst 0) 1 1321 := by decide +kernel
theorem dL_law_1321 : decode cL_law 1321 = .ok (.ireturn, 1) := by decide +kernel
theorem dL_law_1322 : dcd cL_law 1322 (.aload_n 1) 1 1323 := by decide +kernel
theorem dL_law_1323 : dcd cL_law 1323 (.invokevirtual 162) 3 1326 := by decide +kernel
theorem dL_law_1326 : dcd cL_law 1326 (.aload_n 2) 1 1327 := by decide +kernel
theorem dL_law_1327 : dcd cL_law 1327 (.invokevirtual 165) 3 1330 := by decide +kernel
theorem dL_law_1330 : dcb cL_law 1330 (.if_icmp .eq (120)) (120) 1450 1333 := by decide +kernel
theorem dL_law_1333 : dcd cL_law 1333 (.iconst 0) 1 1334 := by decide +kernel
theorem dL_law_1334 : decode cL_law 1334 = .ok (.ireturn, 1) := by decide +kernel
theorem dL_law_1335 : dcd cL_law 1335 (.aload_n 1) 1 1336 := by decide +kernel
theorem dL_law_1336 : dcd cL_law 1336 (.aload_n 0) 1 1337 := by decide +kernel
theorem dL_law_1337 : dcd cL_law 1337 (.iload_n 3) 1 1338 := by decide +kernel
theorem dL_law_1338 : dcd cL_law 1338 (.iconst 1) 1 1339 := by decide +kernel
theorem dL_law_1339 : dcd cL_law 1339 (.iadd) 1 1340 := by decide +kernel
theorem dL_law_1340 : dcd cL_law 1340 (.iaload) 1 1341 := by decide +kernel
theorem dL_law_1341 : dcd cL_law 1341 (.aload_n 0) 1 1342 := by decide +kernel
theorem dL_law_1342 : dcd cL_law 1342 (.iload_n 3) 1 1343 := by decide +kernel
theorem dL_law_1343 : dcd cL_law 1343 (.iconst 2) 1 1344 := by decide +kernel
theorem dL_law_1344 : dcd cL_law 1344 (.iadd) 1 1345 := by decide +kernel
theorem dL_law_1345 : dcd cL_law 1345 (.iaload) 1 1346 := by decide +kernel
theorem dL_law_1346 : dcd cL_law 1346 (.invokevirtual 166) 3 1349 := by decide +kernel
theorem dL_law_1349 : dcd cL_law 1349 (.aload_n 2) 1 1350 := by decide +kernel
theorem dL_law_1350 : dcd cL_law 1350 (.aload_n 0) 1 1351 := by decide +kernel
theorem dL_law_1351 : dcd cL_law 1351 (.iload_n 3) 1 1352 := by decide +kernel
theorem dL_law_1352 : dcd cL_law 1352 (.iconst 1) 1 1353 := by decide +kernel
theorem dL_law_1353 : dcd cL_law 1353 (.iadd) 1 1354 := by decide +kernel
theorem dL_law_1354 : dcd cL_law 1354 (.iaload) 1 1355 := by decide +kernel
theorem dL_law_1355 : dcd cL_law 1355 (.aload_n 0) 1 1356 := by decide +kernel
theorem dL_law_1356 : dcd cL_law 1356 (.iload_n 3) 1 1357 := by decide +kernel
theorem dL_law_1357 : dcd cL_law 1357 (.iconst 2) 1 1358 := by decide +kernel
theorem dL_law_1358 : dcd cL_law 1358 (.iadd) 1 1359 := by decide +kernel
theorem dL_law_1359 : dcd cL_law 1359 (.iaload) 1 1360 := by decide +kernel
theorem dL_law_1360 : dcd cL_law 1360 (.invokevirtual 169) 3 1363 := by decide +kernel
theorem dL_law_1363 : dcb cL_law 1363 (.if_icmp .eq (87)) (87) 1450 1366 := by decide +kernel
theorem dL_law_1366 : dcd cL_law 1366 (.iconst 0) 1 1367 := by decide +kernel
theorem dL_law_1367 : decode cL_law 1367 = .ok (.ireturn, 1) := by decide +kernel
theorem dL_law_1368 : dcd cL_law 1368 (.aload_n 1) 1 1369 := by decide +kernel
theorem dL_law_1369 : dcd cL_law 1369 (.invokevirtual 170) 3 1372 := by decide +kernel
theorem dL_law_1372 : dcd cL_law 1372 (.aload_n 2) 1 1373 := by decide +kernel
theorem dL_law_1373 : dcd cL_law 1373 (.invokevirtual 173) 3 1376 := by decide +kernel
theorem dL_law_1376 : dcb cL_law 1376 (.if_icmp .eq (74)) (74) 1450 1379 := by decide +kernel
theorem dL_law_1379 : dcd cL_law 1379 (.iconst 0) 1 1380 := by decide +kernel
theorem dL_law_1380 : decode cL_law 1380 = .ok (.ireturn, 1) := by decide +kernel
theorem dL_law_1381 : dcd cL_law 1381 (.aload_n 1) 1 1382 := by decide +kernel
theorem dL_law_1382 : dcd cL_law 1382 (.aload_n 0) 1 1383 := by decide +kernel
theorem dL_law_1383 : dcd cL_law 1383 (.iload_n 3) 1 1384 := by decide +kernel
theorem dL_law_1384 : dcd cL_law 1384 (.iconst 1) 1 1385 := by decide +kernel
theorem dL_law_1385 : dcd cL_law 1385 (.iadd) 1 1386 := by decide +kernel
theorem dL_law_1386 : dcd cL_law 1386 (.iaload) 1 1387 := by decide +kernel
theorem dL_law_1387 : dcd cL_law 1387 (.invokevirtual 174) 3 1390 := by decide +kernel
theorem dL_law_1390 : dcd cL_law 1390 (.aload_n 2) 1 1391 := by decide +kernel
theorem dL_law_1391 : dcd cL_law 1391 (.aload_n 0) 1 1392 := by decide +kernel
theorem dL_law_1392 : dcd cL_law 1392 (.iload_n 3) 1 1393 := by decide +kernel
theorem dL_law_1393 : dcd cL_law 1393 (.iconst 1) 1 1394 := by decide +kernel
theorem dL_law_1394 : dcd cL_law 1394 (.iadd) 1 1395 := by decide +kernel
theorem dL_law_1395 : dcd cL_law 1395 (.iaload) 1 1396 := by decide +kernel
theorem dL_law_1396 : dcd cL_law 1396 (.invokevirtual 177) 3 1399 := by decide +kernel
theorem dL_law_1399 : dcb cL_law 1399 (.if_icmp .eq (51)) (51) 1450 1402 := by decide +kernel
theorem dL_law_1402 : dcd cL_law 1402 (.iconst 0) 1 1403 := by decide +kernel
theorem dL_law_1403 : decode cL_law 1403 = .ok (.ireturn, 1) := by decide +kernel
theorem dL_law_1404 : dcd cL_law 1404 (.aload_n 1) 1 1405 := by decide +kernel
theorem dL_law_1405 : dcd cL_law 1405 (.aload_n 0) 1 1406 := by decide +kernel
theorem dL_law_1406 : dcd cL_law 1406 (.iload_n 3) 1 1407 := by decide +kernel
theorem dL_law_1407 : dcd cL_law 1407 (.iconst 1) 1 1408 := by decide +kernel
theorem dL_law_1408 : dcd cL_law 1408 (.iadd) 1 1409 := by decide +kernel
theorem dL_law_1409 : dcd cL_law 1409 (.iaload) 1 1410 := by decide +kernel
theorem dL_law_1410 : dcd cL_law 1410 (.invokevirtual 178) 3 1413 := by decide +kernel
theorem dL_law_1413 : dcd cL_law 1413 (.aload_n 2) 1 1414 := by decide +kernel
theorem dL_law_1414 : dcd cL_law 1414 (.aload_n 0) 1 1415 := by decide +kernel
theorem dL_law_1415 : dcd cL_law 1415 (.iload_n 3) 1 1416 := by decide +kernel
theorem dL_law_1416 : dcd cL_law 1416 (.iconst 1) 1 1417 := by decide +kernel
theorem dL_law_1417 : dcd cL_law 1417 (.iadd) 1 1418 := by decide +kernel
theorem dL_law_1418 : dcd cL_law 1418 (.iaload) 1 1419 := by decide +kernel
theorem dL_law_1419 : dcd cL_law 1419 (.invokevirtual 181) 3 1422 := by decide +kernel
theorem dL_law_1422 : dcb cL_law 1422 (.if_icmp .eq (28)) (28) 1450 1425 := by decide +kernel
theorem dL_law_1425 : dcd cL_law 1425 (.iconst 0) 1 1426 := by decide +kernel
theorem dL_law_1426 : decode cL_law 1426 = .ok (.ireturn, 1) := by decide +kernel
theorem dL_law_1427 : dcd cL_law 1427 (.aload_n 1) 1 1428 := by decide +kernel
theorem dL_law_1428 : dcd cL_law 1428 (.aload_n 0) 1 1429 := by decide +kernel
theorem dL_law_1429 : dcd cL_law 1429 (.iload_n 3) 1 1430 := by decide +kernel
theorem dL_law_1430 : dcd cL_law 1430 (.iconst 1) 1 1431 := by decide +kernel
theorem dL_law_1431 : dcd cL_law 1431 (.iadd) 1 1432 := by decide +kernel
theorem dL_law_1432 : dcd cL_law 1432 (.iaload) 1 1433 := by decide +kernel
theorem dL_law_1433 : dcd cL_law 1433 (.invokevirtual 182) 3 1436 := by decide +kernel
theorem dL_law_1436 : dcd cL_law 1436 (.aload_n 2) 1 1437 := by decide +kernel
theorem dL_law_1437 : dcd cL_law 1437 (.aload_n 0) 1 1438 := by decide +kernel
theorem dL_law_1438 : dcd cL_law 1438 (.iload_n 3) 1 1439 := by decide +kernel
theorem dL_law_1439 : dcd cL_law 1439 (.iconst 1) 1 1440 := by decide +kernel
theorem dL_law_1440 : dcd cL_law 1440 (.iadd) 1 1441 := by decide +kernel
theorem dL_law_1441 : dcd cL_law 1441 (.iaload) 1 1442 := by decide +kernel
theorem dL_law_1442 : dcd cL_law 1442 (.invokevirtual 185) 3 1445 := by decide +kernel
theorem dL_law_1445 : dcb cL_law 1445 (.if_icmp .eq (5)) (5) 1450 1448 := by decide +kernel
theorem dL_law_1448 : dcd cL_law 1448 (.iconst 0) 1 1449 := by decide +kernel
theorem dL_law_1449 : decode cL_law 1449 = .ok (.ireturn, 1) := by decide +kernel
theorem dL_law_1450 : dcd cL_law 1450 (.iinc 3 6) 3 1453 := by decide +kernel
theorem dL_law_1453 : dcb cL_law 1453 (.goto (-1435)) (-1435) 18 1456 := by decide +kernel
theorem dL_law_1456 : dcd cL_law 1456 (.iconst 1) 1 1457 := by decide +kernel
theorem dL_law_1457 : decode cL_law 1457 = .ok (.ireturn, 1) := by decide +kernel
end
