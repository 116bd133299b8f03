-- ===== PART A: goes FIRST, ahead of the names: the tables' words, and 'selects' of the private methods out of them =====
/-- a private method of a class that the tables say can be made, by its rows of tables_1 -/
def lw_okq (q : MethodName × Nat) : Prop := (q.1.cls ≠ "java/lang/invoke/MethodHandle" ∧ q.1.cls ≠ "java/lang/invoke/VarHandle") ∧ Cond.instantiable q.1.cls q.2 ∈ tables_1 ∧ Cond.privateMethod q.1 ∈ tables_1 ∧ Cond.instanceMethod q.1 ∈ tables_1
theorem lw_p0 : lw_okq (⟨"WheelAndWireModel", "readForm", "()I"⟩, 47) := ⟨⟨by decide +kernel, by decide +kernel⟩, List.mem_of_getElem? (i := 959) (by decide +kernel), List.mem_of_getElem? (i := 1124) (by decide +kernel), List.mem_of_getElem? (i := 1125) (by decide +kernel)⟩
theorem lw_p1 : lw_okq (⟨"WheelAndWireModel", "begin", "()V"⟩, 47) := ⟨⟨by decide +kernel, by decide +kernel⟩, List.mem_of_getElem? (i := 959) (by decide +kernel), List.mem_of_getElem? (i := 1135) (by decide +kernel), List.mem_of_getElem? (i := 1136) (by decide +kernel)⟩
theorem lw_p2 : lw_okq (⟨"WheelAndWireModel", "noStand", "(I)Z"⟩, 47) := ⟨⟨by decide +kernel, by decide +kernel⟩, List.mem_of_getElem? (i := 959) (by decide +kernel), List.mem_of_getElem? (i := 1147) (by decide +kernel), List.mem_of_getElem? (i := 1148) (by decide +kernel)⟩
theorem lw_p3 : lw_okq (⟨"WheelAndWireModel", "noPiece", "(I)Z"⟩, 47) := ⟨⟨by decide +kernel, by decide +kernel⟩, List.mem_of_getElem? (i := 959) (by decide +kernel), List.mem_of_getElem? (i := 1151) (by decide +kernel), List.mem_of_getElem? (i := 1152) (by decide +kernel)⟩
theorem lw_p4 : lw_okq (⟨"WheelAndWireModel", "makeCut", "(IZI)I"⟩, 47) := ⟨⟨by decide +kernel, by decide +kernel⟩, List.mem_of_getElem? (i := 959) (by decide +kernel), List.mem_of_getElem? (i := 1155) (by decide +kernel), List.mem_of_getElem? (i := 1156) (by decide +kernel)⟩
theorem lw_p5 : lw_okq (⟨"WheelAndWireModel", "offAhead", "(IZI)I"⟩, 47) := ⟨⟨by decide +kernel, by decide +kernel⟩, List.mem_of_getElem? (i := 959) (by decide +kernel), List.mem_of_getElem? (i := 1159) (by decide +kernel), List.mem_of_getElem? (i := 1160) (by decide +kernel)⟩
theorem lw_p6 : lw_okq (⟨"WheelAndWireModel", "weightOf", "(IIII)I"⟩, 47) := ⟨⟨by decide +kernel, by decide +kernel⟩, List.mem_of_getElem? (i := 959) (by decide +kernel), List.mem_of_getElem? (i := 1163) (by decide +kernel), List.mem_of_getElem? (i := 1164) (by decide +kernel)⟩
theorem lw_p7 : lw_okq (⟨"WheelAndWireModel", "driedAhead", "(IIZI)I"⟩, 47) := ⟨⟨by decide +kernel, by decide +kernel⟩, List.mem_of_getElem? (i := 959) (by decide +kernel), List.mem_of_getElem? (i := 1167) (by decide +kernel), List.mem_of_getElem? (i := 1168) (by decide +kernel)⟩
theorem lw_p8 : lw_okq (⟨"WheelAndWireModel", "countOf", "(IIIII)I"⟩, 47) := ⟨⟨by decide +kernel, by decide +kernel⟩, List.mem_of_getElem? (i := 959) (by decide +kernel), List.mem_of_getElem? (i := 1175) (by decide +kernel), List.mem_of_getElem? (i := 1176) (by decide +kernel)⟩
theorem lw_p9 : lw_okq (⟨"WheelAndWireModel", "edges", "(I)I"⟩, 47) := ⟨⟨by decide +kernel, by decide +kernel⟩, List.mem_of_getElem? (i := 959) (by decide +kernel), List.mem_of_getElem? (i := 1179) (by decide +kernel), List.mem_of_getElem? (i := 1180) (by decide +kernel)⟩
theorem lw_p10 : lw_okq (⟨"WheelAndWireModel", "face", "(II)I"⟩, 47) := ⟨⟨by decide +kernel, by decide +kernel⟩, List.mem_of_getElem? (i := 959) (by decide +kernel), List.mem_of_getElem? (i := 1183) (by decide +kernel), List.mem_of_getElem? (i := 1184) (by decide +kernel)⟩
theorem lw_p11 : lw_okq (⟨"WheelAndWireModel", "allDried", "(I)I"⟩, 47) := ⟨⟨by decide +kernel, by decide +kernel⟩, List.mem_of_getElem? (i := 959) (by decide +kernel), List.mem_of_getElem? (i := 1187) (by decide +kernel), List.mem_of_getElem? (i := 1188) (by decide +kernel)⟩
theorem lw_p12 : lw_okq (⟨"WheelAndWireModel", "isEnd", "(I)Z"⟩, 47) := ⟨⟨by decide +kernel, by decide +kernel⟩, List.mem_of_getElem? (i := 959) (by decide +kernel), List.mem_of_getElem? (i := 1191) (by decide +kernel), List.mem_of_getElem? (i := 1192) (by decide +kernel)⟩
theorem lw_p13 : lw_okq (⟨"WheelAndWireModel", "weighsOf", "(I)I"⟩, 47) := ⟨⟨by decide +kernel, by decide +kernel⟩, List.mem_of_getElem? (i := 959) (by decide +kernel), List.mem_of_getElem? (i := 1199) (by decide +kernel), List.mem_of_getElem? (i := 1200) (by decide +kernel)⟩
theorem lw_p14 : lw_okq (⟨"WheelAndWireModel", "isServed", "(IIII)Z"⟩, 47) := ⟨⟨by decide +kernel, by decide +kernel⟩, List.mem_of_getElem? (i := 959) (by decide +kernel), List.mem_of_getElem? (i := 1234) (by decide +kernel), List.mem_of_getElem? (i := 1235) (by decide +kernel)⟩
theorem lw_p15 : lw_okq (⟨"WheelAndWireModel", "standsFor", "(III)I"⟩, 47) := ⟨⟨by decide +kernel, by decide +kernel⟩, List.mem_of_getElem? (i := 959) (by decide +kernel), List.mem_of_getElem? (i := 1242) (by decide +kernel), List.mem_of_getElem? (i := 1243) (by decide +kernel)⟩
def lw_privs_1 : List (MethodName × Nat) := [(⟨"WheelAndWireModel", "readForm", "()I"⟩, 47), (⟨"WheelAndWireModel", "begin", "()V"⟩, 47), (⟨"WheelAndWireModel", "noStand", "(I)Z"⟩, 47), (⟨"WheelAndWireModel", "noPiece", "(I)Z"⟩, 47), (⟨"WheelAndWireModel", "makeCut", "(IZI)I"⟩, 47), (⟨"WheelAndWireModel", "offAhead", "(IZI)I"⟩, 47), (⟨"WheelAndWireModel", "weightOf", "(IIII)I"⟩, 47), (⟨"WheelAndWireModel", "driedAhead", "(IIZI)I"⟩, 47), (⟨"WheelAndWireModel", "countOf", "(IIIII)I"⟩, 47), (⟨"WheelAndWireModel", "edges", "(I)I"⟩, 47), (⟨"WheelAndWireModel", "face", "(II)I"⟩, 47), (⟨"WheelAndWireModel", "allDried", "(I)I"⟩, 47), (⟨"WheelAndWireModel", "isEnd", "(I)Z"⟩, 47), (⟨"WheelAndWireModel", "weighsOf", "(I)I"⟩, 47), (⟨"WheelAndWireModel", "isServed", "(IIII)Z"⟩, 47), (⟨"WheelAndWireModel", "standsFor", "(III)I"⟩, 47)]
theorem lw_r1 : ∀ q ∈ lw_privs_1, lw_okq q := List.forall_mem_cons.mpr ⟨lw_p0, List.forall_mem_cons.mpr ⟨lw_p1, List.forall_mem_cons.mpr ⟨lw_p2, List.forall_mem_cons.mpr ⟨lw_p3, List.forall_mem_cons.mpr ⟨lw_p4, List.forall_mem_cons.mpr ⟨lw_p5, List.forall_mem_cons.mpr ⟨lw_p6, List.forall_mem_cons.mpr ⟨lw_p7, List.forall_mem_cons.mpr ⟨lw_p8, List.forall_mem_cons.mpr ⟨lw_p9, List.forall_mem_cons.mpr ⟨lw_p10, List.forall_mem_cons.mpr ⟨lw_p11, List.forall_mem_cons.mpr ⟨lw_p12, List.forall_mem_cons.mpr ⟨lw_p13, List.forall_mem_cons.mpr ⟨lw_p14, List.forall_mem_cons.mpr ⟨lw_p15, fun _ h => absurd h List.not_mem_nil⟩⟩⟩⟩⟩⟩⟩⟩⟩⟩⟩⟩⟩⟩⟩⟩
theorem lw_p16 : lw_okq (⟨"WheelAndWireModel", "findCut", "(III)V"⟩, 47) := ⟨⟨by decide +kernel, by decide +kernel⟩, List.mem_of_getElem? (i := 959) (by decide +kernel), List.mem_of_getElem? (i := 1250) (by decide +kernel), List.mem_of_getElem? (i := 1251) (by decide +kernel)⟩
theorem lw_p17 : lw_okq (⟨"WheelAndWireModel", "isPart", "(IZIZIII)Z"⟩, 47) := ⟨⟨by decide +kernel, by decide +kernel⟩, List.mem_of_getElem? (i := 959) (by decide +kernel), List.mem_of_getElem? (i := 1255) (by decide +kernel), List.mem_of_getElem? (i := 1256) (by decide +kernel)⟩
theorem lw_p18 : lw_okq (⟨"WheelAndWireModel", "layPart", "(IZIZ)V"⟩, 47) := ⟨⟨by decide +kernel, by decide +kernel⟩, List.mem_of_getElem? (i := 959) (by decide +kernel), List.mem_of_getElem? (i := 1259) (by decide +kernel), List.mem_of_getElem? (i := 1260) (by decide +kernel)⟩
theorem lw_p19 : lw_okq (⟨"WheelAndWireModel", "make", "(I)I"⟩, 47) := ⟨⟨by decide +kernel, by decide +kernel⟩, List.mem_of_getElem? (i := 959) (by decide +kernel), List.mem_of_getElem? (i := 1267) (by decide +kernel), List.mem_of_getElem? (i := 1268) (by decide +kernel)⟩
theorem lw_p20 : lw_okq (⟨"WheelAndWireModel", "findTwo", "(IIIII)V"⟩, 47) := ⟨⟨by decide +kernel, by decide +kernel⟩, List.mem_of_getElem? (i := 959) (by decide +kernel), List.mem_of_getElem? (i := 1275) (by decide +kernel), List.mem_of_getElem? (i := 1276) (by decide +kernel)⟩
theorem lw_p21 : lw_okq (⟨"WheelAndWireModel", "putAside", "()V"⟩, 47) := ⟨⟨by decide +kernel, by decide +kernel⟩, List.mem_of_getElem? (i := 959) (by decide +kernel), List.mem_of_getElem? (i := 1279) (by decide +kernel), List.mem_of_getElem? (i := 1280) (by decide +kernel)⟩
theorem lw_p22 : lw_okq (⟨"WheelAndWireModel", "second", "(III)I"⟩, 47) := ⟨⟨by decide +kernel, by decide +kernel⟩, List.mem_of_getElem? (i := 959) (by decide +kernel), List.mem_of_getElem? (i := 1283) (by decide +kernel), List.mem_of_getElem? (i := 1284) (by decide +kernel)⟩
theorem lw_p23 : lw_okq (⟨"WheelAndWireModel", "keepTwo", "(II)V"⟩, 47) := ⟨⟨by decide +kernel, by decide +kernel⟩, List.mem_of_getElem? (i := 959) (by decide +kernel), List.mem_of_getElem? (i := 1287) (by decide +kernel), List.mem_of_getElem? (i := 1288) (by decide +kernel)⟩
theorem lw_p24 : lw_okq (⟨"WheelAndWireModel", "takeBack", "()V"⟩, 47) := ⟨⟨by decide +kernel, by decide +kernel⟩, List.mem_of_getElem? (i := 959) (by decide +kernel), List.mem_of_getElem? (i := 1291) (by decide +kernel), List.mem_of_getElem? (i := 1292) (by decide +kernel)⟩
theorem lw_p25 : lw_okq (⟨"WheelAndWireModel", "wholeWire", "()I"⟩, 47) := ⟨⟨by decide +kernel, by decide +kernel⟩, List.mem_of_getElem? (i := 959) (by decide +kernel), List.mem_of_getElem? (i := 1312) (by decide +kernel), List.mem_of_getElem? (i := 1313) (by decide +kernel)⟩
theorem lw_p26 : lw_okq (⟨"WheelAndWireModel", "layWires", "()V"⟩, 47) := ⟨⟨by decide +kernel, by decide +kernel⟩, List.mem_of_getElem? (i := 959) (by decide +kernel), List.mem_of_getElem? (i := 1316) (by decide +kernel), List.mem_of_getElem? (i := 1317) (by decide +kernel)⟩
theorem lw_p27 : lw_okq (⟨"WheelAndWireModel", "layBlocks", "()V"⟩, 47) := ⟨⟨by decide +kernel, by decide +kernel⟩, List.mem_of_getElem? (i := 959) (by decide +kernel), List.mem_of_getElem? (i := 1320) (by decide +kernel), List.mem_of_getElem? (i := 1321) (by decide +kernel)⟩
theorem lw_p28 : lw_okq (⟨"WheelAndWireModel", "isAsk", "(II)Z"⟩, 47) := ⟨⟨by decide +kernel, by decide +kernel⟩, List.mem_of_getElem? (i := 959) (by decide +kernel), List.mem_of_getElem? (i := 1327) (by decide +kernel), List.mem_of_getElem? (i := 1328) (by decide +kernel)⟩
theorem lw_p29 : lw_okq (⟨"WheelAndWireModel", "bestWire", "(IIIII)I"⟩, 47) := ⟨⟨by decide +kernel, by decide +kernel⟩, List.mem_of_getElem? (i := 959) (by decide +kernel), List.mem_of_getElem? (i := 1331) (by decide +kernel), List.mem_of_getElem? (i := 1332) (by decide +kernel)⟩
theorem lw_p30 : lw_okq (⟨"WheelAndWireModel", "bestOf", "(IIIIZZ)I"⟩, 47) := ⟨⟨by decide +kernel, by decide +kernel⟩, List.mem_of_getElem? (i := 959) (by decide +kernel), List.mem_of_getElem? (i := 1343) (by decide +kernel), List.mem_of_getElem? (i := 1344) (by decide +kernel)⟩
theorem lw_p31 : lw_okq (⟨"WheelAndWireModel", "goesThrough", "(IIIIZI)Z"⟩, 47) := ⟨⟨by decide +kernel, by decide +kernel⟩, List.mem_of_getElem? (i := 959) (by decide +kernel), List.mem_of_getElem? (i := 1347) (by decide +kernel), List.mem_of_getElem? (i := 1348) (by decide +kernel)⟩
def lw_privs_2 : List (MethodName × Nat) := [(⟨"WheelAndWireModel", "findCut", "(III)V"⟩, 47), (⟨"WheelAndWireModel", "isPart", "(IZIZIII)Z"⟩, 47), (⟨"WheelAndWireModel", "layPart", "(IZIZ)V"⟩, 47), (⟨"WheelAndWireModel", "make", "(I)I"⟩, 47), (⟨"WheelAndWireModel", "findTwo", "(IIIII)V"⟩, 47), (⟨"WheelAndWireModel", "putAside", "()V"⟩, 47), (⟨"WheelAndWireModel", "second", "(III)I"⟩, 47), (⟨"WheelAndWireModel", "keepTwo", "(II)V"⟩, 47), (⟨"WheelAndWireModel", "takeBack", "()V"⟩, 47), (⟨"WheelAndWireModel", "wholeWire", "()I"⟩, 47), (⟨"WheelAndWireModel", "layWires", "()V"⟩, 47), (⟨"WheelAndWireModel", "layBlocks", "()V"⟩, 47), (⟨"WheelAndWireModel", "isAsk", "(II)Z"⟩, 47), (⟨"WheelAndWireModel", "bestWire", "(IIIII)I"⟩, 47), (⟨"WheelAndWireModel", "bestOf", "(IIIIZZ)I"⟩, 47), (⟨"WheelAndWireModel", "goesThrough", "(IIIIZI)Z"⟩, 47)]
theorem lw_r2 : ∀ q ∈ lw_privs_2, lw_okq q := List.forall_mem_cons.mpr ⟨lw_p16, List.forall_mem_cons.mpr ⟨lw_p17, List.forall_mem_cons.mpr ⟨lw_p18, List.forall_mem_cons.mpr ⟨lw_p19, List.forall_mem_cons.mpr ⟨lw_p20, List.forall_mem_cons.mpr ⟨lw_p21, List.forall_mem_cons.mpr ⟨lw_p22, List.forall_mem_cons.mpr ⟨lw_p23, List.forall_mem_cons.mpr ⟨lw_p24, List.forall_mem_cons.mpr ⟨lw_p25, List.forall_mem_cons.mpr ⟨lw_p26, List.forall_mem_cons.mpr ⟨lw_p27, List.forall_mem_cons.mpr ⟨lw_p28, List.forall_mem_cons.mpr ⟨lw_p29, List.forall_mem_cons.mpr ⟨lw_p30, List.forall_mem_cons.mpr ⟨lw_p31, fun _ h => absurd h List.not_mem_nil⟩⟩⟩⟩⟩⟩⟩⟩⟩⟩⟩⟩⟩⟩⟩⟩
theorem lw_p32 : lw_okq (⟨"WheelAndWireModel", "noBlock", "(I)Z"⟩, 47) := ⟨⟨by decide +kernel, by decide +kernel⟩, List.mem_of_getElem? (i := 959) (by decide +kernel), List.mem_of_getElem? (i := 1358) (by decide +kernel), List.mem_of_getElem? (i := 1359) (by decide +kernel)⟩
theorem lw_p33 : lw_okq (⟨"WheelAndWireModel", "paste", "(I)I"⟩, 47) := ⟨⟨by decide +kernel, by decide +kernel⟩, List.mem_of_getElem? (i := 959) (by decide +kernel), List.mem_of_getElem? (i := 1381) (by decide +kernel), List.mem_of_getElem? (i := 1382) (by decide +kernel)⟩
theorem lw_p34 : lw_okq (⟨"WheelAndWireModel", "ripeIn", "(II)I"⟩, 47) := ⟨⟨by decide +kernel, by decide +kernel⟩, List.mem_of_getElem? (i := 959) (by decide +kernel), List.mem_of_getElem? (i := 1385) (by decide +kernel), List.mem_of_getElem? (i := 1386) (by decide +kernel)⟩
theorem lw_p35 : lw_okq (⟨"WheelAndWireModel", "isRipe", "(III)Z"⟩, 47) := ⟨⟨by decide +kernel, by decide +kernel⟩, List.mem_of_getElem? (i := 959) (by decide +kernel), List.mem_of_getElem? (i := 1389) (by decide +kernel), List.mem_of_getElem? (i := 1390) (by decide +kernel)⟩
theorem lw_p36 : lw_okq (⟨"WheelAndWireModel", "earns", "(I)I"⟩, 47) := ⟨⟨by decide +kernel, by decide +kernel⟩, List.mem_of_getElem? (i := 959) (by decide +kernel), List.mem_of_getElem? (i := 1411) (by decide +kernel), List.mem_of_getElem? (i := 1412) (by decide +kernel)⟩
theorem lw_p37 : lw_okq (⟨"WheelAndWireModel", "gain", "(I)I"⟩, 47) := ⟨⟨by decide +kernel, by decide +kernel⟩, List.mem_of_getElem? (i := 959) (by decide +kernel), List.mem_of_getElem? (i := 1428) (by decide +kernel), List.mem_of_getElem? (i := 1429) (by decide +kernel)⟩
theorem lw_p38 : lw_okq (⟨"WheelAndWireModel", "standing", "()I"⟩, 47) := ⟨⟨by decide +kernel, by decide +kernel⟩, List.mem_of_getElem? (i := 959) (by decide +kernel), List.mem_of_getElem? (i := 1449) (by decide +kernel), List.mem_of_getElem? (i := 1450) (by decide +kernel)⟩
def lw_privs_3 : List (MethodName × Nat) := [(⟨"WheelAndWireModel", "noBlock", "(I)Z"⟩, 47), (⟨"WheelAndWireModel", "paste", "(I)I"⟩, 47), (⟨"WheelAndWireModel", "ripeIn", "(II)I"⟩, 47), (⟨"WheelAndWireModel", "isRipe", "(III)Z"⟩, 47), (⟨"WheelAndWireModel", "earns", "(I)I"⟩, 47), (⟨"WheelAndWireModel", "gain", "(I)I"⟩, 47), (⟨"WheelAndWireModel", "standing", "()I"⟩, 47)]
theorem lw_r3 : ∀ q ∈ lw_privs_3, lw_okq q := List.forall_mem_cons.mpr ⟨lw_p32, List.forall_mem_cons.mpr ⟨lw_p33, List.forall_mem_cons.mpr ⟨lw_p34, List.forall_mem_cons.mpr ⟨lw_p35, List.forall_mem_cons.mpr ⟨lw_p36, List.forall_mem_cons.mpr ⟨lw_p37, List.forall_mem_cons.mpr ⟨lw_p38, fun _ h => absurd h List.not_mem_nil⟩⟩⟩⟩⟩⟩⟩
def lw_privs : List (MethodName × Nat) := lw_privs_1 ++ (lw_privs_2 ++ (lw_privs_3))
def lw_tbl : List Cond := k2_sels lw_privs ++ tables_1
theorem lw_privs_ok : ∀ q ∈ lw_privs, lw_okq q := by
  show ∀ q ∈ lw_privs_1 ++ (lw_privs_2 ++ (lw_privs_3)), lw_okq q
  exact List.forall_mem_append.mpr ⟨lw_r1, List.forall_mem_append.mpr ⟨lw_r2, lw_r3⟩⟩

def RX0 : String := "WheelAndWire$Ask"
def TX0 : u_T := fun k => match k with
  | 0 => ("WheelAndWire$Ask", "weight", "I", true)
  | 1 => ("WheelAndWire$Ask", "most", "I", true)
  | _ => ("WheelAndWire$Ask", "rind", "I", true)
def tyX0 : Nat → FieldType := fun k => match k with
  | 0 => .int
  | 1 => .int
  | _ => .int
theorem nmX0 : ∀ a, a < 3 → ∀ b, b < 3 → a ≠ b → (TX0 a).2.1 ≠ (TX0 b).2.1 := by decide +kernel
theorem tyX0_ok : ∀ k, k < 3 → parseFieldDescriptor (TX0 k).2.2.1 = some (tyX0 k) := by decide +kernel
abbrev cX0_init : ByteArray := prog_2_method_1_code
def yX0_init : MethodName := ⟨RX0, "<init>", "(III)V"⟩
abbrev cX0_fits : ByteArray := prog_2_method_2_code
def yX0_fits : MethodName := ⟨RX0, "fits", "(II)Z"⟩
abbrev cX0_isServedBy : ByteArray := prog_2_method_3_code
def yX0_isServedBy : MethodName := ⟨RX0, "isServedBy", "(LWheelAndWire$Piece;)Z"⟩
def RX1 : String := "WheelAndWire$Board"
def TX1 : u_T := fun k => match k with
  | 0 => ("WheelAndWire$Board", "form", "LWheelAndWire$Form;", true)
  | 1 => ("WheelAndWire$Board", "pieces", "[LWheelAndWire$Piece;", true)
  | 2 => ("WheelAndWire$Board", "spare", "LWheelAndWire$Piece;", true)
  | 3 => ("WheelAndWire$Board", "size", "I", false)
  | 4 => ("WheelAndWire$Board", "halfHours", "I", false)
  | _ => ("WheelAndWire$Board", "filled", "Z", false)
def tyX1 : Nat → FieldType := fun k => match k with
  | 0 => .object "WheelAndWire$Form"
  | 1 => .array (.object "WheelAndWire$Piece")
  | 2 => .object "WheelAndWire$Piece"
  | 3 => .int
  | 4 => .int
  | _ => .boolean
theorem nmX1 : ∀ a, a < 6 → ∀ b, b < 6 → a ≠ b → (TX1 a).2.1 ≠ (TX1 b).2.1 := by decide +kernel
theorem tyX1_ok : ∀ k, k < 6 → parseFieldDescriptor (TX1 k).2.2.1 = some (tyX1 k) := by decide +kernel
abbrev cX1_init : ByteArray := prog_3_method_1_code
def yX1_init : MethodName := ⟨RX1, "<init>", "(LWheelAndWire$Form;)V"⟩
abbrev cX1_startAnew : ByteArray := prog_3_method_2_code
def yX1_startAnew : MethodName := ⟨RX1, "startAnew", "()V"⟩
abbrev cX1_become : ByteArray := prog_3_method_3_code
def yX1_become : MethodName := ⟨RX1, "become", "(LWheelAndWire$Board;)V"⟩
abbrev cX1_knows : ByteArray := prog_3_method_4_code
def yX1_knows : MethodName := ⟨RX1, "knows", "(I)Z"⟩
abbrev cX1_stillHas : ByteArray := prog_3_method_5_code
def yX1_stillHas : MethodName := ⟨RX1, "stillHas", "(I)Z"⟩
abbrev cX1_standing : ByteArray := prog_3_method_6_code
def yX1_standing : MethodName := ⟨RX1, "standing", "()I"⟩
abbrev cX1_divide : ByteArray := prog_3_method_7_code
def yX1_divide : MethodName := ⟨RX1, "divide", "(IZI)I"⟩
abbrev cX1_goBy : ByteArray := prog_3_method_8_code
def yX1_goBy : MethodName := ⟨RX1, "goBy", "(I)V"⟩
abbrev cX1_ripestPiece : ByteArray := prog_3_method_9_code
def yX1_ripestPiece : MethodName := ⟨RX1, "ripestPiece", "(I)I"⟩
def RX2 : String := "WheelAndWire$Books"
def TX2 : u_T := fun k => match k with
  | 0 => ("WheelAndWire$Books", "limits", "[I", true)
  | 1 => ("WheelAndWire$Books", "times", "[I", true)
  | 2 => ("WheelAndWire$Books", "bought", "[I", true)
  | _ => ("WheelAndWire$Books", "overs", "I", false)
def tyX2 : Nat → FieldType := fun k => match k with
  | 0 => .array .int
  | 1 => .array .int
  | 2 => .array .int
  | _ => .int
theorem nmX2 : ∀ a, a < 4 → ∀ b, b < 4 → a ≠ b → (TX2 a).2.1 ≠ (TX2 b).2.1 := by decide +kernel
theorem tyX2_ok : ∀ k, k < 4 → parseFieldDescriptor (TX2 k).2.2.1 = some (tyX2 k) := by decide +kernel
abbrev cX2_init : ByteArray := prog_4_method_1_code
def yX2_init : MethodName := ⟨RX2, "<init>", "()V"⟩
abbrev cX2_enter : ByteArray := prog_4_method_2_code
def yX2_enter : MethodName := ⟨RX2, "enter", "(I)V"⟩
abbrev cX2_earnings : ByteArray := prog_4_method_3_code
def yX2_earnings : MethodName := ⟨RX2, "earnings", "(I)I"⟩
abbrev cX2_dearestOver : ByteArray := prog_4_method_4_code
def yX2_dearestOver : MethodName := ⟨RX2, "dearestOver", "()I"⟩
abbrev cX2_enterTaste : ByteArray := prog_4_method_5_code
def yX2_enterTaste : MethodName := ⟨RX2, "enterTaste", "(IZ)V"⟩
abbrev cX2_gainAbove : ByteArray := prog_4_method_6_code
def yX2_gainAbove : MethodName := ⟨RX2, "gainAbove", "(I)J"⟩
abbrev cX2_gainBelow : ByteArray := prog_4_method_7_code
def yX2_gainBelow : MethodName := ⟨RX2, "gainBelow", "(I)J"⟩
abbrev cX2_dearestTastes : ByteArray := prog_4_method_8_code
def yX2_dearestTastes : MethodName := ⟨RX2, "dearestTastes", "()I"⟩
def RX3 : String := "WheelAndWire$FairPlan"
def TX3 : u_T := fun k => match k with
  | 0 => ("WheelAndWire$Plan", "form", "LWheelAndWire$Form;", true)
  | 1 => ("WheelAndWire$Plan", "wishes", "I", true)
  | 2 => ("WheelAndWire$Plan", "costs", "[I", true)
  | 3 => ("WheelAndWire$FairPlan", "weightEach", "I", false)
  | _ => ("WheelAndWire$FairPlan", "rindEach", "I", false)
def tyX3 : Nat → FieldType := fun k => match k with
  | 0 => .object "WheelAndWire$Form"
  | 1 => .int
  | 2 => .array .int
  | 3 => .int
  | _ => .int
theorem nmX3 : ∀ a, a < 5 → ∀ b, b < 5 → a ≠ b → (TX3 a).2.1 ≠ (TX3 b).2.1 := by decide +kernel
theorem tyX3_ok : ∀ k, k < 5 → parseFieldDescriptor (TX3 k).2.2.1 = some (tyX3 k) := by decide +kernel
abbrev cX3_init : ByteArray := prog_5_method_1_code
def yX3_init : MethodName := ⟨RX3, "<init>", "(LWheelAndWire$Form;)V"⟩
abbrev cX3_shortest : ByteArray := prog_5_method_2_code
def yX3_shortest : MethodName := ⟨RX3, "shortest", "(I)I"⟩
abbrev cX3_verdict : ByteArray := prog_5_method_3_code
def yX3_verdict : MethodName := ⟨RX3, "verdict", "(IIIII)I"⟩
abbrev cX3_cutPrice : ByteArray := prog_5_method_4_code
def yX3_cutPrice : MethodName := ⟨RX3, "cutPrice", "(I)I"⟩
def RX4 : String := "WheelAndWire$Form"
def TX4 : u_T := fun k => match k with
  | 0 => ("WheelAndWire$Form", "kinds", "[I", true)
  | 1 => ("WheelAndWire$Form", "weightSums", "[I", true)
  | 2 => ("WheelAndWire$Form", "rindSums", "[I", true)
  | 3 => ("WheelAndWire$Form", "rows", "I", false)
  | 4 => ("WheelAndWire$Form", "columns", "I", false)
  | 5 => ("WheelAndWire$Form", "ripeFrom", "I", false)
  | _ => ("WheelAndWire$Form", "ripeFor", "I", false)
def tyX4 : Nat → FieldType := fun k => match k with
  | 0 => .array .int
  | 1 => .array .int
  | 2 => .array .int
  | 3 => .int
  | 4 => .int
  | 5 => .int
  | _ => .int
theorem nmX4 : ∀ a, a < 7 → ∀ b, b < 7 → a ≠ b → (TX4 a).2.1 ≠ (TX4 b).2.1 := by decide +kernel
theorem tyX4_ok : ∀ k, k < 7 → parseFieldDescriptor (TX4 k).2.2.1 = some (tyX4 k) := by decide +kernel
abbrev cX4_init : ByteArray := prog_6_method_1_code
def yX4_init : MethodName := ⟨RX4, "<init>", "()V"⟩
abbrev cX4_take : ByteArray := prog_6_method_2_code
def yX4_take : MethodName := ⟨RX4, "take", "(LWheelAndWire$Text;)V"⟩
abbrev cX4_addUp : ByteArray := prog_6_method_3_code
def yX4_addUp : MethodName := ⟨RX4, "addUp", "()V"⟩
abbrev cX4_addPlace : ByteArray := prog_6_method_4_code
def yX4_addPlace : MethodName := ⟨RX4, "addPlace", "([IIII)V"⟩
abbrev cX4_kindAt : ByteArray := prog_6_method_5_code
def yX4_kindAt : MethodName := ⟨RX4, "kindAt", "(II)I"⟩
abbrev cX4_holds : ByteArray := prog_6_method_6_code
def yX4_holds : MethodName := ⟨RX4, "holds", "(IIII)Z"⟩
abbrev cX4_weightIn : ByteArray := prog_6_method_7_code
def yX4_weightIn : MethodName := ⟨RX4, "weightIn", "(IIII)I"⟩
abbrev cX4_rindIn : ByteArray := prog_6_method_8_code
def yX4_rindIn : MethodName := ⟨RX4, "rindIn", "(IIII)I"⟩
abbrev cX4_sumIn : ByteArray := prog_6_method_9_code
def yX4_sumIn : MethodName := ⟨RX4, "sumIn", "([IIIII)I"⟩
abbrev cX4_isRipe : ByteArray := prog_6_method_10_code
def yX4_isRipe : MethodName := ⟨RX4, "isRipe", "(III)Z"⟩
def RX5 : String := "WheelAndWire$LeftPlan"
def TX5 : u_T := fun k => match k with
  | 0 => ("WheelAndWire$Plan", "form", "LWheelAndWire$Form;", true)
  | 1 => ("WheelAndWire$Plan", "wishes", "I", true)
  | 2 => ("WheelAndWire$Plan", "costs", "[I", true)
  | 3 => ("WheelAndWire$LeftPlan", "tops", "[I", true)
  | 4 => ("WheelAndWire$LeftPlan", "bottoms", "[I", true)
  | 5 => ("WheelAndWire$LeftPlan", "lefts", "[I", true)
  | 6 => ("WheelAndWire$LeftPlan", "rights", "[I", true)
  | 7 => ("WheelAndWire$LeftPlan", "size", "I", false)
  | _ => ("WheelAndWire$LeftPlan", "workedOut", "Z", false)
def tyX5 : Nat → FieldType := fun k => match k with
  | 0 => .object "WheelAndWire$Form"
  | 1 => .int
  | 2 => .array .int
  | 3 => .array .int
  | 4 => .array .int
  | 5 => .array .int
  | 6 => .array .int
  | 7 => .int
  | _ => .boolean
theorem nmX5 : ∀ a, a < 9 → ∀ b, b < 9 → a ≠ b → (TX5 a).2.1 ≠ (TX5 b).2.1 := by decide +kernel
theorem tyX5_ok : ∀ k, k < 9 → parseFieldDescriptor (TX5 k).2.2.1 = some (tyX5 k) := by decide +kernel
abbrev cX5_init : ByteArray := prog_7_method_1_code
def yX5_init : MethodName := ⟨RX5, "<init>", "(LWheelAndWire$Form;)V"⟩
abbrev cX5_enter : ByteArray := prog_7_method_2_code
def yX5_enter : MethodName := ⟨RX5, "enter", "(IIII)V"⟩
abbrev cX5_empty : ByteArray := prog_7_method_3_code
def yX5_empty : MethodName := ⟨RX5, "empty", "()V"⟩
abbrev cX5_touches : ByteArray := prog_7_method_4_code
def yX5_touches : MethodName := ⟨RX5, "touches", "(IIII)Z"⟩
abbrev cX5_isApart : ByteArray := prog_7_method_5_code
def yX5_isApart : MethodName := ⟨RX5, "isApart", "(IIIII)Z"⟩
abbrev cX5_fewest : ByteArray := prog_7_method_6_code
def yX5_fewest : MethodName := ⟨RX5, "fewest", "()I"⟩
abbrev cX5_verdict : ByteArray := prog_7_method_7_code
def yX5_verdict : MethodName := ⟨RX5, "verdict", "(IIIII)I"⟩
abbrev cX5_cutPrice : ByteArray := prog_7_method_8_code
def yX5_cutPrice : MethodName := ⟨RX5, "cutPrice", "(I)I"⟩
def RX6 : String := "WheelAndWire$OrderPlan"
def TX6 : u_T := fun k => match k with
  | 0 => ("WheelAndWire$Plan", "form", "LWheelAndWire$Form;", true)
  | 1 => ("WheelAndWire$Plan", "wishes", "I", true)
  | 2 => ("WheelAndWire$Plan", "costs", "[I", true)
  | 3 => ("WheelAndWire$OrderPlan", "asks", "[LWheelAndWire$Ask;", true)
  | 4 => ("WheelAndWire$OrderPlan", "leastWeights", "[I", true)
  | 5 => ("WheelAndWire$OrderPlan", "size", "I", false)
  | _ => ("WheelAndWire$OrderPlan", "workedOut", "Z", false)
def tyX6 : Nat → FieldType := fun k => match k with
  | 0 => .object "WheelAndWire$Form"
  | 1 => .int
  | 2 => .array .int
  | 3 => .array (.object "WheelAndWire$Ask")
  | 4 => .array .int
  | 5 => .int
  | _ => .boolean
theorem nmX6 : ∀ a, a < 7 → ∀ b, b < 7 → a ≠ b → (TX6 a).2.1 ≠ (TX6 b).2.1 := by decide +kernel
theorem tyX6_ok : ∀ k, k < 7 → parseFieldDescriptor (TX6 k).2.2.1 = some (tyX6 k) := by decide +kernel
abbrev cX6_init : ByteArray := prog_8_method_1_code
def yX6_init : MethodName := ⟨RX6, "<init>", "(LWheelAndWire$Form;)V"⟩
abbrev cX6_enter : ByteArray := prog_8_method_2_code
def yX6_enter : MethodName := ⟨RX6, "enter", "(LWheelAndWire$Ask;)V"⟩
abbrev cX6_empty : ByteArray := prog_8_method_3_code
def yX6_empty : MethodName := ⟨RX6, "empty", "()V"⟩
abbrev cX6_everyAsk : ByteArray := prog_8_method_4_code
def yX6_everyAsk : MethodName := ⟨RX6, "everyAsk", "()I"⟩
abbrev cX6_shortest : ByteArray := prog_8_method_5_code
def yX6_shortest : MethodName := ⟨RX6, "shortest", "()I"⟩
abbrev cX6_addUpWishes : ByteArray := prog_8_method_6_code
def yX6_addUpWishes : MethodName := ⟨RX6, "addUpWishes", "()V"⟩
abbrev cX6_firstCut : ByteArray := prog_8_method_7_code
def yX6_firstCut : MethodName := ⟨RX6, "firstCut", "(I)I"⟩
abbrev cX6_verdict : ByteArray := prog_8_method_8_code
def yX6_verdict : MethodName := ⟨RX6, "verdict", "(IIIII)I"⟩
abbrev cX6_cutPrice : ByteArray := prog_8_method_9_code
def yX6_cutPrice : MethodName := ⟨RX6, "cutPrice", "(I)I"⟩
def RX7 : String := "WheelAndWire$Piece"
def TX7 : u_T := fun k => match k with
  | 0 => ("WheelAndWire$Piece", "row", "I", false)
  | 1 => ("WheelAndWire$Piece", "column", "I", false)
  | 2 => ("WheelAndWire$Piece", "rows", "I", false)
  | 3 => ("WheelAndWire$Piece", "columns", "I", false)
  | 4 => ("WheelAndWire$Piece", "placesWeight", "I", false)
  | 5 => ("WheelAndWire$Piece", "rind", "I", false)
  | 6 => ("WheelAndWire$Piece", "state", "I", false)
  | 7 => ("WheelAndWire$Piece", "wrapping", "I", false)
  | 8 => ("WheelAndWire$Piece", "off", "I", false)
  | 9 => ("WheelAndWire$Piece", "driedAbove", "I", false)
  | 10 => ("WheelAndWire$Piece", "driedBelow", "I", false)
  | 11 => ("WheelAndWire$Piece", "driedLeft", "I", false)
  | _ => ("WheelAndWire$Piece", "driedRight", "I", false)
def tyX7 : Nat → FieldType := fun k => match k with
  | 0 => .int
  | 1 => .int
  | 2 => .int
  | 3 => .int
  | 4 => .int
  | 5 => .int
  | 6 => .int
  | 7 => .int
  | 8 => .int
  | 9 => .int
  | 10 => .int
  | 11 => .int
  | _ => .int
theorem nmX7 : ∀ a, a < 13 → ∀ b, b < 13 → a ≠ b → (TX7 a).2.1 ≠ (TX7 b).2.1 := by decide +kernel
theorem tyX7_ok : ∀ k, k < 13 → parseFieldDescriptor (TX7 k).2.2.1 = some (tyX7 k) := by decide +kernel
abbrev cX7_init : ByteArray := prog_9_method_1_code
def yX7_init : MethodName := ⟨RX7, "<init>", "()V"⟩
abbrev cX7_becomeAll : ByteArray := prog_9_method_2_code
def yX7_becomeAll : MethodName := ⟨RX7, "becomeAll", "(LWheelAndWire$Form;)V"⟩
abbrev cX7_become : ByteArray := prog_9_method_3_code
def yX7_become : MethodName := ⟨RX7, "become", "(LWheelAndWire$Piece;)V"⟩
abbrev cX7_block : ByteArray := prog_9_method_4_code
def yX7_block : MethodName := ⟨RX7, "block", "()I"⟩
abbrev cX7_edgesAbove : ByteArray := prog_9_method_5_code
def yX7_edgesAbove : MethodName := ⟨RX7, "edgesAbove", "()I"⟩
abbrev cX7_edgesBelow : ByteArray := prog_9_method_6_code
def yX7_edgesBelow : MethodName := ⟨RX7, "edgesBelow", "(LWheelAndWire$Form;)I"⟩
abbrev cX7_edgesLeft : ByteArray := prog_9_method_7_code
def yX7_edgesLeft : MethodName := ⟨RX7, "edgesLeft", "()I"⟩
abbrev cX7_edgesRight : ByteArray := prog_9_method_8_code
def yX7_edgesRight : MethodName := ⟨RX7, "edgesRight", "(LWheelAndWire$Form;)I"⟩
abbrev cX7_bareEdges : ByteArray := prog_9_method_9_code
def yX7_bareEdges : MethodName := ⟨RX7, "bareEdges", "(LWheelAndWire$Form;)I"⟩
abbrev cX7_isEnd : ByteArray := prog_9_method_10_code
def yX7_isEnd : MethodName := ⟨RX7, "isEnd", "(LWheelAndWire$Form;)Z"⟩
abbrev cX7_dried : ByteArray := prog_9_method_11_code
def yX7_dried : MethodName := ⟨RX7, "dried", "()I"⟩
abbrev cX7_weight : ByteArray := prog_9_method_12_code
def yX7_weight : MethodName := ⟨RX7, "weight", "()I"⟩
abbrev cX7_dry : ByteArray := prog_9_method_13_code
def yX7_dry : MethodName := ⟨RX7, "dry", "(LWheelAndWire$Form;I)V"⟩
abbrev cX7_dryAnew : ByteArray := prog_9_method_14_code
def yX7_dryAnew : MethodName := ⟨RX7, "dryAnew", "()V"⟩
abbrev cX7_shave : ByteArray := prog_9_method_15_code
def yX7_shave : MethodName := ⟨RX7, "shave", "(LWheelAndWire$Form;)V"⟩
abbrev cX7_cuts : ByteArray := prog_9_method_16_code
def yX7_cuts : MethodName := ⟨RX7, "cuts", "()I"⟩
abbrev cX7_isAcross : ByteArray := prog_9_method_17_code
def yX7_isAcross : MethodName := ⟨RX7, "isAcross", "(I)Z"⟩
abbrev cX7_cutAt : ByteArray := prog_9_method_18_code
def yX7_cutAt : MethodName := ⟨RX7, "cutAt", "(I)I"⟩
abbrev cX7_cutEdges : ByteArray := prog_9_method_19_code
def yX7_cutEdges : MethodName := ⟨RX7, "cutEdges", "(I)I"⟩
abbrev cX7_part : ByteArray := prog_9_method_20_code
def yX7_part : MethodName := ⟨RX7, "part", "(LWheelAndWire$Form;ZILWheelAndWire$Piece;LWheelAndWire$Piece;)V"⟩
abbrev cX7_share : ByteArray := prog_9_method_21_code
def yX7_share : MethodName := ⟨RX7, "share", "(III)I"⟩
abbrev cX7_pastePlaces : ByteArray := prog_9_method_22_code
def yX7_pastePlaces : MethodName := ⟨RX7, "pastePlaces", "(LWheelAndWire$Form;)I"⟩
abbrev cX7_ripePlaces : ByteArray := prog_9_method_23_code
def yX7_ripePlaces : MethodName := ⟨RX7, "ripePlaces", "(LWheelAndWire$Form;I)I"⟩
def RX8 : String := "WheelAndWire$Plan"
def TX8 : u_T := fun k => match k with
  | _ => ("", "", "", false)
def tyX8 : Nat → FieldType := fun k => match k with
  | _ => .int
theorem nmX8 : ∀ a, a < 0 → ∀ b, b < 0 → a ≠ b → (TX8 a).2.1 ≠ (TX8 b).2.1 := by decide +kernel
theorem tyX8_ok : ∀ k, k < 0 → parseFieldDescriptor (TX8 k).2.2.1 = some (tyX8 k) := by decide +kernel
abbrev cX8_init : ByteArray := prog_10_method_1_code
def yX8_init : MethodName := ⟨RX8, "<init>", "(LWheelAndWire$Form;I)V"⟩
abbrev cX8_workOut : ByteArray := prog_10_method_4_code
def yX8_workOut : MethodName := ⟨RX8, "workOut", "(I)V"⟩
abbrev cX8_settle : ByteArray := prog_10_method_5_code
def yX8_settle : MethodName := ⟨RX8, "settle", "(IIIII)V"⟩
abbrev cX8_leastCut : ByteArray := prog_10_method_6_code
def yX8_leastCut : MethodName := ⟨RX8, "leastCut", "(IIIII)I"⟩
abbrev cX8_cutCost : ByteArray := prog_10_method_7_code
def yX8_cutCost : MethodName := ⟨RX8, "cutCost", "(IIIIZII)I"⟩
abbrev cX8_bothCost : ByteArray := prog_10_method_8_code
def yX8_bothCost : MethodName := ⟨RX8, "bothCost", "(III)I"⟩
abbrev cX8_costOfAll : ByteArray := prog_10_method_9_code
def yX8_costOfAll : MethodName := ⟨RX8, "costOfAll", "(I)I"⟩
abbrev cX8_spotOf : ByteArray := prog_10_method_10_code
def yX8_spotOf : MethodName := ⟨RX8, "spotOf", "(IIII)I"⟩
def RX9 : String := "WheelAndWire$Shop"
def TX9 : u_T := fun k => match k with
  | 0 => ("WheelAndWire$Shop", "form", "LWheelAndWire$Form;", true)
  | 1 => ("WheelAndWire$Shop", "board", "LWheelAndWire$Board;", true)
  | 2 => ("WheelAndWire$Shop", "ahead", "LWheelAndWire$Piece;", true)
  | 3 => ("WheelAndWire$Shop", "behind", "LWheelAndWire$Piece;", true)
  | 4 => ("WheelAndWire$Shop", "laterAhead", "LWheelAndWire$Piece;", true)
  | 5 => ("WheelAndWire$Shop", "laterBehind", "LWheelAndWire$Piece;", true)
  | 6 => ("WheelAndWire$Shop", "laterWires", "[I", true)
  | 7 => ("WheelAndWire$Shop", "twoWire", "I", false)
  | _ => ("WheelAndWire$Shop", "twoWay", "I", false)
def tyX9 : Nat → FieldType := fun k => match k with
  | 0 => .object "WheelAndWire$Form"
  | 1 => .object "WheelAndWire$Board"
  | 2 => .object "WheelAndWire$Piece"
  | 3 => .object "WheelAndWire$Piece"
  | 4 => .object "WheelAndWire$Piece"
  | 5 => .object "WheelAndWire$Piece"
  | 6 => .array .int
  | 7 => .int
  | _ => .int
theorem nmX9 : ∀ a, a < 9 → ∀ b, b < 9 → a ≠ b → (TX9 a).2.1 ≠ (TX9 b).2.1 := by decide +kernel
theorem tyX9_ok : ∀ k, k < 9 → parseFieldDescriptor (TX9 k).2.2.1 = some (tyX9 k) := by decide +kernel
abbrev cX9_init : ByteArray := prog_11_method_1_code
def yX9_init : MethodName := ⟨RX9, "<init>", "(LWheelAndWire$Form;LWheelAndWire$Board;)V"⟩
abbrev cX9_lightestPiece : ByteArray := prog_11_method_2_code
def yX9_lightestPiece : MethodName := ⟨RX9, "lightestPiece", "(LWheelAndWire$Ask;)I"⟩
abbrev cX9_shortestCut : ByteArray := prog_11_method_3_code
def yX9_shortestCut : MethodName := ⟨RX9, "shortestCut", "(LWheelAndWire$Ask;)I"⟩
abbrev cX9_told : ByteArray := prog_11_method_4_code
def yX9_told : MethodName := ⟨RX9, "told", "(IIZ)I"⟩
abbrev cX9_cutOff : ByteArray := prog_11_method_5_code
def yX9_cutOff : MethodName := ⟨RX9, "cutOff", "(I)I"⟩
abbrev cX9_lookTwoAhead : ByteArray := prog_11_method_6_code
def yX9_lookTwoAhead : MethodName := ⟨RX9, "lookTwoAhead", "(LWheelAndWire$Ask;LWheelAndWire$Ask;)V"⟩
abbrev cX9_tryCuts : ByteArray := prog_11_method_7_code
def yX9_tryCuts : MethodName := ⟨RX9, "tryCuts", "(ILWheelAndWire$Ask;LWheelAndWire$Ask;)V"⟩
abbrev cX9_weighWay : ByteArray := prog_11_method_8_code
def yX9_weighWay : MethodName := ⟨RX9, "weighWay", "(II)V"⟩
abbrev cX9_laterWire : ByteArray := prog_11_method_9_code
def yX9_laterWire : MethodName := ⟨RX9, "laterWire", "(LWheelAndWire$Piece;LWheelAndWire$Ask;Z)I"⟩
abbrev cX9_laterWireElsewhere : ByteArray := prog_11_method_10_code
def yX9_laterWireElsewhere : MethodName := ⟨RX9, "laterWireElsewhere", "(IZ)I"⟩
def RX10 : String := "WheelAndWire$Text"
def TX10 : u_T := fun k => match k with
  | 0 => ("WheelAndWire$Text", "bytes", "[I", true)
  | _ => ("WheelAndWire$Text", "length", "I", false)
def tyX10 : Nat → FieldType := fun k => match k with
  | 0 => .array .int
  | _ => .int
theorem nmX10 : ∀ a, a < 2 → ∀ b, b < 2 → a ≠ b → (TX10 a).2.1 ≠ (TX10 b).2.1 := by decide +kernel
theorem tyX10_ok : ∀ k, k < 2 → parseFieldDescriptor (TX10 k).2.2.1 = some (tyX10 k) := by decide +kernel
abbrev cX10_init : ByteArray := prog_12_method_1_code
def yX10_init : MethodName := ⟨RX10, "<init>", "()V"⟩
abbrev cX10_append : ByteArray := prog_12_method_2_code
def yX10_append : MethodName := ⟨RX10, "append", "(IJ)V"⟩
abbrev cX10_firstFault : ByteArray := prog_12_method_3_code
def yX10_firstFault : MethodName := ⟨RX10, "firstFault", "()I"⟩
def RX11 : String := "WheelAndWire"
def TX11 : u_T := fun k => match k with
  | 0 => ("WheelAndWire", "text", "LWheelAndWire$Text;", true)
  | 1 => ("WheelAndWire", "cheese", "LWheelAndWire$Form;", true)
  | 2 => ("WheelAndWire", "board", "LWheelAndWire$Board;", true)
  | 3 => ("WheelAndWire", "slots", "[LWheelAndWire$Board;", true)
  | 4 => ("WheelAndWire", "shop", "LWheelAndWire$Shop;", true)
  | 5 => ("WheelAndWire", "orderPlan", "LWheelAndWire$OrderPlan;", true)
  | 6 => ("WheelAndWire", "fairPlan", "LWheelAndWire$FairPlan;", true)
  | 7 => ("WheelAndWire", "leftPlan", "LWheelAndWire$LeftPlan;", true)
  | 8 => ("WheelAndWire", "books", "LWheelAndWire$Books;", true)
  | 9 => ("WheelAndWire", "price", "I", false)
  | _ => ("WheelAndWire", "endPrice", "I", false)
def tyX11 : Nat → FieldType := fun k => match k with
  | 0 => .object "WheelAndWire$Text"
  | 1 => .object "WheelAndWire$Form"
  | 2 => .object "WheelAndWire$Board"
  | 3 => .array (.object "WheelAndWire$Board")
  | 4 => .object "WheelAndWire$Shop"
  | 5 => .object "WheelAndWire$OrderPlan"
  | 6 => .object "WheelAndWire$FairPlan"
  | 7 => .object "WheelAndWire$LeftPlan"
  | 8 => .object "WheelAndWire$Books"
  | 9 => .int
  | _ => .int
theorem nmX11 : ∀ a, a < 11 → ∀ b, b < 11 → a ≠ b → (TX11 a).2.1 ≠ (TX11 b).2.1 := by decide +kernel
theorem tyX11_ok : ∀ k, k < 11 → parseFieldDescriptor (TX11 k).2.2.1 = some (tyX11 k) := by decide +kernel
abbrev cX11_init : ByteArray := prog_1_method_1_code
def yX11_init : MethodName := ⟨RX11, "<init>", "()V"⟩
abbrev cX11_write : ByteArray := prog_1_method_2_code
def yX11_write : MethodName := ⟨RX11, "write", "(IJ)I"⟩
abbrev cX11_wipe : ByteArray := prog_1_method_3_code
def yX11_wipe : MethodName := ⟨RX11, "wipe", "()I"⟩
abbrev cX11_fault : ByteArray := prog_1_method_4_code
def yX11_fault : MethodName := ⟨RX11, "fault", "()I"⟩
abbrev cX11_form : ByteArray := prog_1_method_5_code
def yX11_form : MethodName := ⟨RX11, "form", "()I"⟩
abbrev cX11_place : ByteArray := prog_1_method_6_code
def yX11_place : MethodName := ⟨RX11, "place", "(II)I"⟩
abbrev cX11_cut : ByteArray := prog_1_method_7_code
def yX11_cut : MethodName := ⟨RX11, "cut", "(IZI)I"⟩
abbrev cX11_about : ByteArray := prog_1_method_8_code
def yX11_about : MethodName := ⟨RX11, "about", "(II)I"⟩
abbrev cX11_weighs : ByteArray := prog_1_method_9_code
def yX11_weighs : MethodName := ⟨RX11, "weighs", "(I)I"⟩
abbrev cX11_pass : ByteArray := prog_1_method_10_code
def yX11_pass : MethodName := ⟨RX11, "pass", "(I)I"⟩
abbrev cX11_wrap : ByteArray := prog_1_method_11_code
def yX11_wrap : MethodName := ⟨RX11, "wrap", "(II)I"⟩
abbrev cX11_trim : ByteArray := prog_1_method_12_code
def yX11_trim : MethodName := ⟨RX11, "trim", "(I)I"⟩
abbrev cX11_sell : ByteArray := prog_1_method_13_code
def yX11_sell : MethodName := ⟨RX11, "sell", "(IZ)I"⟩
abbrev cX11_serves : ByteArray := prog_1_method_14_code
def yX11_serves : MethodName := ⟨RX11, "serves", "(IIII)I"⟩
abbrev cX11_stands : ByteArray := prog_1_method_15_code
def yX11_stands : MethodName := ⟨RX11, "stands", "(III)I"⟩
abbrev cX11_next : ByteArray := prog_1_method_16_code
def yX11_next : MethodName := ⟨RX11, "next", "(III)I"⟩
abbrev cX11_serve : ByteArray := prog_1_method_17_code
def yX11_serve : MethodName := ⟨RX11, "serve", "(III)I"⟩
abbrev cX11_two : ByteArray := prog_1_method_18_code
def yX11_two : MethodName := ⟨RX11, "two", "(IIIII)I"⟩
abbrev cX11_twoFirst : ByteArray := prog_1_method_19_code
def yX11_twoFirst : MethodName := ⟨RX11, "twoFirst", "(IIIII)I"⟩
abbrev cX11_order : ByteArray := prog_1_method_20_code
def yX11_order : MethodName := ⟨RX11, "order", "(III)I"⟩
abbrev cX11_unorder : ByteArray := prog_1_method_21_code
def yX11_unorder : MethodName := ⟨RX11, "unorder", "()I"⟩
abbrev cX11_whole : ByteArray := prog_1_method_22_code
def yX11_whole : MethodName := ⟨RX11, "whole", "()I"⟩
abbrev cX11_first : ByteArray := prog_1_method_23_code
def yX11_first : MethodName := ⟨RX11, "first", "()I"⟩
abbrev cX11_fair : ByteArray := prog_1_method_24_code
def yX11_fair : MethodName := ⟨RX11, "fair", "(I)I"⟩
abbrev cX11_left : ByteArray := prog_1_method_25_code
def yX11_left : MethodName := ⟨RX11, "left", "(I)I"⟩
abbrev cX11_read : ByteArray := prog_1_method_26_code
def yX11_read : MethodName := ⟨RX11, "read", "()I"⟩
abbrev cX11_unleft : ByteArray := prog_1_method_27_code
def yX11_unleft : MethodName := ⟨RX11, "unleft", "()I"⟩
abbrev cX11_ripens : ByteArray := prog_1_method_28_code
def yX11_ripens : MethodName := ⟨RX11, "ripens", "(II)I"⟩
abbrev cX11_ripe : ByteArray := prog_1_method_29_code
def yX11_ripe : MethodName := ⟨RX11, "ripe", "(IIZ)J"⟩
abbrev cX11_ripest : ByteArray := prog_1_method_30_code
def yX11_ripest : MethodName := ⟨RX11, "ripest", "(I)I"⟩
abbrev cX11_book : ByteArray := prog_1_method_31_code
def yX11_book : MethodName := ⟨RX11, "book", "(I)I"⟩
abbrev cX11_over : ByteArray := prog_1_method_32_code
def yX11_over : MethodName := ⟨RX11, "over", "(I)I"⟩
abbrev cX11_bestOver : ByteArray := prog_1_method_33_code
def yX11_bestOver : MethodName := ⟨RX11, "bestOver", "()I"⟩
abbrev cX11_taste : ByteArray := prog_1_method_34_code
def yX11_taste : MethodName := ⟨RX11, "taste", "(IZ)I"⟩
abbrev cX11_brings : ByteArray := prog_1_method_35_code
def yX11_brings : MethodName := ⟨RX11, "brings", "(IZ)J"⟩
abbrev cX11_bestTaste : ByteArray := prog_1_method_36_code
def yX11_bestTaste : MethodName := ⟨RX11, "bestTaste", "()I"⟩
abbrev cX11_prices : ByteArray := prog_1_method_37_code
def yX11_prices : MethodName := ⟨RX11, "prices", "(II)I"⟩
abbrev cX11_worth : ByteArray := prog_1_method_38_code
def yX11_worth : MethodName := ⟨RX11, "worth", "()I"⟩
abbrev cX11_keep : ByteArray := prog_1_method_39_code
def yX11_keep : MethodName := ⟨RX11, "keep", "(I)I"⟩
abbrev cX11_again : ByteArray := prog_1_method_40_code
def yX11_again : MethodName := ⟨RX11, "again", "(I)I"⟩
abbrev cX11_count : ByteArray := prog_1_method_41_code
def yX11_count : MethodName := ⟨RX11, "count", "(I)I"⟩
abbrev cX11_isAsk : ByteArray := prog_1_method_42_code
def yX11_isAsk : MethodName := ⟨RX11, "isAsk", "(III)Z"⟩
abbrev cX11_commonDivisor : ByteArray := prog_1_method_43_code
def yX11_commonDivisor : MethodName := ⟨RX11, "commonDivisor", "(JJ)J"⟩
abbrev cX11_kindOf : ByteArray := prog_1_method_44_code
def yX11_kindOf : MethodName := ⟨RX11, "kindOf", "(I)I"⟩
def RX12 : String := "WheelAndWireModel"
def TX12 : u_T := fun k => match k with
  | 0 => ("WheelAndWireModel", "thrown", "I", false)
  | 1 => ("WheelAndWireModel", "text", "[I", true)
  | 2 => ("WheelAndWireModel", "textSize", "I", false)
  | 3 => ("WheelAndWireModel", "places", "[I", true)
  | 4 => ("WheelAndWireModel", "rows", "I", false)
  | 5 => ("WheelAndWireModel", "columns", "I", false)
  | 6 => ("WheelAndWireModel", "readPlaces", "[I", true)
  | 7 => ("WheelAndWireModel", "readRows", "I", false)
  | 8 => ("WheelAndWireModel", "readColumns", "I", false)
  | 9 => ("WheelAndWireModel", "many", "I", false)
  | 10 => ("WheelAndWireModel", "top", "[I", true)
  | 11 => ("WheelAndWireModel", "lefts", "[I", true)
  | 12 => ("WheelAndWireModel", "high", "[I", true)
  | 13 => ("WheelAndWireModel", "wide", "[I", true)
  | 14 => ("WheelAndWireModel", "state", "[I", true)
  | 15 => ("WheelAndWireModel", "wrap", "[I", true)
  | 16 => ("WheelAndWireModel", "off", "[I", true)
  | 17 => ("WheelAndWireModel", "dried", "[I", true)
  | 18 => ("WheelAndWireModel", "hours", "I", false)
  | 19 => ("WheelAndWireModel", "aside", "[I", true)
  | 20 => ("WheelAndWireModel", "kept", "[I", true)
  | 21 => ("WheelAndWireModel", "isKept", "[Z", true)
  | 22 => ("WheelAndWireModel", "partWeight", "I", false)
  | 23 => ("WheelAndWireModel", "partRind", "I", false)
  | 24 => ("WheelAndWireModel", "cutFound", "I", false)
  | 25 => ("WheelAndWireModel", "cutEdges", "I", false)
  | 26 => ("WheelAndWireModel", "orders", "I", false)
  | 27 => ("WheelAndWireModel", "askA", "[I", true)
  | 28 => ("WheelAndWireModel", "askO", "[I", true)
  | 29 => ("WheelAndWireModel", "askR", "[I", true)
  | 30 => ("WheelAndWireModel", "weights", "[I", true)
  | 31 => ("WheelAndWireModel", "rinds", "[I", true)
  | 32 => ("WheelAndWireModel", "wires", "[I", true)
  | 33 => ("WheelAndWireModel", "least", "[I", true)
  | 34 => ("WheelAndWireModel", "firstCut", "I", false)
  | 35 => ("WheelAndWireModel", "leftMany", "I", false)
  | 36 => ("WheelAndWireModel", "leftBlock", "[I", true)
  | 37 => ("WheelAndWireModel", "ripeFrom", "I", false)
  | 38 => ("WheelAndWireModel", "ripeLong", "I", false)
  | 39 => ("WheelAndWireModel", "bookMany", "I", false)
  | 40 => ("WheelAndWireModel", "book", "[I", true)
  | 41 => ("WheelAndWireModel", "there", "[I", true)
  | 42 => ("WheelAndWireModel", "bought", "[I", true)
  | 43 => ("WheelAndWireModel", "price", "I", false)
  | 44 => ("WheelAndWireModel", "endPrice", "I", false)
  | 45 => ("WheelAndWireModel", "twoEdges", "I", false)
  | _ => ("WheelAndWireModel", "twoFound", "I", false)
def tyX12 : Nat → FieldType := fun k => match k with
  | 0 => .int
  | 1 => .array .int
  | 2 => .int
  | 3 => .array .int
  | 4 => .int
  | 5 => .int
  | 6 => .array .int
  | 7 => .int
  | 8 => .int
  | 9 => .int
  | 10 => .array .int
  | 11 => .array .int
  | 12 => .array .int
  | 13 => .array .int
  | 14 => .array .int
  | 15 => .array .int
  | 16 => .array .int
  | 17 => .array .int
  | 18 => .int
  | 19 => .array .int
  | 20 => .array .int
  | 21 => .array .boolean
  | 22 => .int
  | 23 => .int
  | 24 => .int
  | 25 => .int
  | 26 => .int
  | 27 => .array .int
  | 28 => .array .int
  | 29 => .array .int
  | 30 => .array .int
  | 31 => .array .int
  | 32 => .array .int
  | 33 => .array .int
  | 34 => .int
  | 35 => .int
  | 36 => .array .int
  | 37 => .int
  | 38 => .int
  | 39 => .int
  | 40 => .array .int
  | 41 => .array .int
  | 42 => .array .int
  | 43 => .int
  | 44 => .int
  | 45 => .int
  | _ => .int
theorem nmX12 : ∀ a, a < 47 → ∀ b, b < 47 → a ≠ b → (TX12 a).2.1 ≠ (TX12 b).2.1 := by decide +kernel
theorem tyX12_ok : ∀ k, k < 47 → parseFieldDescriptor (TX12 k).2.2.1 = some (tyX12 k) := by decide +kernel
abbrev cX12_init : ByteArray := prog_14_method_2_code
def yX12_init : MethodName := ⟨RX12, "<init>", "()V"⟩
abbrev cX12_in : ByteArray := prog_14_method_3_code
def yX12_in : MethodName := ⟨RX12, "in", "(JJJ)Z"⟩
abbrev cX12_write : ByteArray := prog_14_method_4_code
def yX12_write : MethodName := ⟨RX12, "write", "(IJ)I"⟩
abbrev cX12_wipe : ByteArray := prog_14_method_5_code
def yX12_wipe : MethodName := ⟨RX12, "wipe", "()I"⟩
abbrev cX12_kind : ByteArray := prog_14_method_6_code
def yX12_kind : MethodName := ⟨RX12, "kind", "(I)I"⟩
abbrev cX12_readForm : ByteArray := prog_14_method_7_code
def yX12_readForm : MethodName := ⟨RX12, "readForm", "()I"⟩
abbrev cX12_fault : ByteArray := prog_14_method_8_code
def yX12_fault : MethodName := ⟨RX12, "fault", "()I"⟩
abbrev cX12_begin : ByteArray := prog_14_method_9_code
def yX12_begin : MethodName := ⟨RX12, "begin", "()V"⟩
abbrev cX12_form : ByteArray := prog_14_method_10_code
def yX12_form : MethodName := ⟨RX12, "form", "()I"⟩
abbrev cX12_place : ByteArray := prog_14_method_11_code
def yX12_place : MethodName := ⟨RX12, "place", "(II)I"⟩
abbrev cX12_weightOf : ByteArray := prog_14_method_12_code
def yX12_weightOf : MethodName := ⟨RX12, "weightOf", "(IIII)I"⟩
abbrev cX12_countOf : ByteArray := prog_14_method_13_code
def yX12_countOf : MethodName := ⟨RX12, "countOf", "(IIIII)I"⟩
abbrev cX12_noPiece : ByteArray := prog_14_method_14_code
def yX12_noPiece : MethodName := ⟨RX12, "noPiece", "(I)Z"⟩
abbrev cX12_noStand : ByteArray := prog_14_method_15_code
def yX12_noStand : MethodName := ⟨RX12, "noStand", "(I)Z"⟩
abbrev cX12_face : ByteArray := prog_14_method_16_code
def yX12_face : MethodName := ⟨RX12, "face", "(II)I"⟩
abbrev cX12_edges : ByteArray := prog_14_method_17_code
def yX12_edges : MethodName := ⟨RX12, "edges", "(I)I"⟩
abbrev cX12_allDried : ByteArray := prog_14_method_18_code
def yX12_allDried : MethodName := ⟨RX12, "allDried", "(I)I"⟩
abbrev cX12_more : ByteArray := prog_14_method_19_code
def yX12_more : MethodName := ⟨RX12, "more", "(I)I"⟩
abbrev cX12_weighsOf : ByteArray := prog_14_method_20_code
def yX12_weighsOf : MethodName := ⟨RX12, "weighsOf", "(I)I"⟩
abbrev cX12_isEnd : ByteArray := prog_14_method_21_code
def yX12_isEnd : MethodName := ⟨RX12, "isEnd", "(I)Z"⟩
abbrev cX12_offAhead : ByteArray := prog_14_method_22_code
def yX12_offAhead : MethodName := ⟨RX12, "offAhead", "(IZI)I"⟩
abbrev cX12_driedAhead : ByteArray := prog_14_method_23_code
def yX12_driedAhead : MethodName := ⟨RX12, "driedAhead", "(IIZI)I"⟩
abbrev cX12_layPart : ByteArray := prog_14_method_24_code
def yX12_layPart : MethodName := ⟨RX12, "layPart", "(IZIZ)V"⟩
abbrev cX12_makeCut : ByteArray := prog_14_method_25_code
def yX12_makeCut : MethodName := ⟨RX12, "makeCut", "(IZI)I"⟩
abbrev cX12_cut : ByteArray := prog_14_method_26_code
def yX12_cut : MethodName := ⟨RX12, "cut", "(IZI)I"⟩
abbrev cX12_about : ByteArray := prog_14_method_27_code
def yX12_about : MethodName := ⟨RX12, "about", "(II)I"⟩
abbrev cX12_weighs : ByteArray := prog_14_method_28_code
def yX12_weighs : MethodName := ⟨RX12, "weighs", "(I)I"⟩
abbrev cX12_pass : ByteArray := prog_14_method_29_code
def yX12_pass : MethodName := ⟨RX12, "pass", "(I)I"⟩
abbrev cX12_wrap : ByteArray := prog_14_method_30_code
def yX12_wrap : MethodName := ⟨RX12, "wrap", "(II)I"⟩
abbrev cX12_trim : ByteArray := prog_14_method_31_code
def yX12_trim : MethodName := ⟨RX12, "trim", "(I)I"⟩
abbrev cX12_sell : ByteArray := prog_14_method_32_code
def yX12_sell : MethodName := ⟨RX12, "sell", "(IZ)I"⟩
abbrev cX12_noAsk : ByteArray := prog_14_method_33_code
def yX12_noAsk : MethodName := ⟨RX12, "noAsk", "(III)Z"⟩
abbrev cX12_isServed : ByteArray := prog_14_method_34_code
def yX12_isServed : MethodName := ⟨RX12, "isServed", "(IIII)Z"⟩
abbrev cX12_serves : ByteArray := prog_14_method_35_code
def yX12_serves : MethodName := ⟨RX12, "serves", "(IIII)I"⟩
abbrev cX12_standsFor : ByteArray := prog_14_method_36_code
def yX12_standsFor : MethodName := ⟨RX12, "standsFor", "(III)I"⟩
abbrev cX12_stands : ByteArray := prog_14_method_37_code
def yX12_stands : MethodName := ⟨RX12, "stands", "(III)I"⟩
abbrev cX12_isPart : ByteArray := prog_14_method_38_code
def yX12_isPart : MethodName := ⟨RX12, "isPart", "(IZIZIII)Z"⟩
abbrev cX12_findCut : ByteArray := prog_14_method_39_code
def yX12_findCut : MethodName := ⟨RX12, "findCut", "(III)V"⟩
abbrev cX12_next : ByteArray := prog_14_method_40_code
def yX12_next : MethodName := ⟨RX12, "next", "(III)I"⟩
abbrev cX12_make : ByteArray := prog_14_method_41_code
def yX12_make : MethodName := ⟨RX12, "make", "(I)I"⟩
abbrev cX12_serve : ByteArray := prog_14_method_42_code
def yX12_serve : MethodName := ⟨RX12, "serve", "(III)I"⟩
abbrev cX12_putAside : ByteArray := prog_14_method_43_code
def yX12_putAside : MethodName := ⟨RX12, "putAside", "()V"⟩
abbrev cX12_takeBack : ByteArray := prog_14_method_44_code
def yX12_takeBack : MethodName := ⟨RX12, "takeBack", "()V"⟩
abbrev cX12_second : ByteArray := prog_14_method_45_code
def yX12_second : MethodName := ⟨RX12, "second", "(III)I"⟩
abbrev cX12_findTwo : ByteArray := prog_14_method_46_code
def yX12_findTwo : MethodName := ⟨RX12, "findTwo", "(IIIII)V"⟩
abbrev cX12_keepTwo : ByteArray := prog_14_method_47_code
def yX12_keepTwo : MethodName := ⟨RX12, "keepTwo", "(II)V"⟩
abbrev cX12_two : ByteArray := prog_14_method_48_code
def yX12_two : MethodName := ⟨RX12, "two", "(IIIII)I"⟩
abbrev cX12_twoFirst : ByteArray := prog_14_method_49_code
def yX12_twoFirst : MethodName := ⟨RX12, "twoFirst", "(IIIII)I"⟩
abbrev cX12_order : ByteArray := prog_14_method_50_code
def yX12_order : MethodName := ⟨RX12, "order", "(III)I"⟩
abbrev cX12_unorder : ByteArray := prog_14_method_51_code
def yX12_unorder : MethodName := ⟨RX12, "unorder", "()I"⟩
abbrev cX12_block : ByteArray := prog_14_method_52_code
def yX12_block : MethodName := ⟨RX12, "block", "(IIII)I"⟩
abbrev cX12_layBlocks : ByteArray := prog_14_method_53_code
def yX12_layBlocks : MethodName := ⟨RX12, "layBlocks", "()V"⟩
abbrev cX12_isAsk : ByteArray := prog_14_method_54_code
def yX12_isAsk : MethodName := ⟨RX12, "isAsk", "(II)Z"⟩
abbrev cX12_bestWire : ByteArray := prog_14_method_55_code
def yX12_bestWire : MethodName := ⟨RX12, "bestWire", "(IIIII)I"⟩
abbrev cX12_layWires : ByteArray := prog_14_method_56_code
def yX12_layWires : MethodName := ⟨RX12, "layWires", "()V"⟩
abbrev cX12_wholeWire : ByteArray := prog_14_method_57_code
def yX12_wholeWire : MethodName := ⟨RX12, "wholeWire", "()I"⟩
abbrev cX12_whole : ByteArray := prog_14_method_58_code
def yX12_whole : MethodName := ⟨RX12, "whole", "()I"⟩
abbrev cX12_first : ByteArray := prog_14_method_59_code
def yX12_first : MethodName := ⟨RX12, "first", "()I"⟩
abbrev cX12_bestOf : ByteArray := prog_14_method_60_code
def yX12_bestOf : MethodName := ⟨RX12, "bestOf", "(IIIIZZ)I"⟩
abbrev cX12_fair : ByteArray := prog_14_method_61_code
def yX12_fair : MethodName := ⟨RX12, "fair", "(I)I"⟩
abbrev cX12_noBlock : ByteArray := prog_14_method_62_code
def yX12_noBlock : MethodName := ⟨RX12, "noBlock", "(I)Z"⟩
abbrev cX12_meets : ByteArray := prog_14_method_63_code
def yX12_meets : MethodName := ⟨RX12, "meets", "(II)Z"⟩
abbrev cX12_left : ByteArray := prog_14_method_64_code
def yX12_left : MethodName := ⟨RX12, "left", "(I)I"⟩
abbrev cX12_goesThrough : ByteArray := prog_14_method_65_code
def yX12_goesThrough : MethodName := ⟨RX12, "goesThrough", "(IIIIZI)Z"⟩
abbrev cX12_read : ByteArray := prog_14_method_66_code
def yX12_read : MethodName := ⟨RX12, "read", "()I"⟩
abbrev cX12_unleft : ByteArray := prog_14_method_67_code
def yX12_unleft : MethodName := ⟨RX12, "unleft", "()I"⟩
abbrev cX12_ripens : ByteArray := prog_14_method_68_code
def yX12_ripens : MethodName := ⟨RX12, "ripens", "(II)I"⟩
abbrev cX12_lesser : ByteArray := prog_14_method_69_code
def yX12_lesser : MethodName := ⟨RX12, "lesser", "(II)I"⟩
abbrev cX12_isRipe : ByteArray := prog_14_method_70_code
def yX12_isRipe : MethodName := ⟨RX12, "isRipe", "(III)Z"⟩
abbrev cX12_ripeIn : ByteArray := prog_14_method_71_code
def yX12_ripeIn : MethodName := ⟨RX12, "ripeIn", "(II)I"⟩
abbrev cX12_paste : ByteArray := prog_14_method_72_code
def yX12_paste : MethodName := ⟨RX12, "paste", "(I)I"⟩
abbrev cX12_common : ByteArray := prog_14_method_73_code
def yX12_common : MethodName := ⟨RX12, "common", "(JJ)J"⟩
abbrev cX12_ripe : ByteArray := prog_14_method_74_code
def yX12_ripe : MethodName := ⟨RX12, "ripe", "(IIZ)J"⟩
abbrev cX12_ripest : ByteArray := prog_14_method_75_code
def yX12_ripest : MethodName := ⟨RX12, "ripest", "(I)I"⟩
abbrev cX12_book : ByteArray := prog_14_method_76_code
def yX12_book : MethodName := ⟨RX12, "book", "(I)I"⟩
abbrev cX12_earns : ByteArray := prog_14_method_77_code
def yX12_earns : MethodName := ⟨RX12, "earns", "(I)I"⟩
abbrev cX12_over : ByteArray := prog_14_method_78_code
def yX12_over : MethodName := ⟨RX12, "over", "(I)I"⟩
abbrev cX12_bestOver : ByteArray := prog_14_method_79_code
def yX12_bestOver : MethodName := ⟨RX12, "bestOver", "()I"⟩
abbrev cX12_taste : ByteArray := prog_14_method_80_code
def yX12_taste : MethodName := ⟨RX12, "taste", "(IZ)I"⟩
abbrev cX12_gain : ByteArray := prog_14_method_81_code
def yX12_gain : MethodName := ⟨RX12, "gain", "(I)I"⟩
abbrev cX12_brings : ByteArray := prog_14_method_82_code
def yX12_brings : MethodName := ⟨RX12, "brings", "(IZ)J"⟩
abbrev cX12_bestTaste : ByteArray := prog_14_method_83_code
def yX12_bestTaste : MethodName := ⟨RX12, "bestTaste", "()I"⟩
abbrev cX12_prices : ByteArray := prog_14_method_84_code
def yX12_prices : MethodName := ⟨RX12, "prices", "(II)I"⟩
abbrev cX12_worth : ByteArray := prog_14_method_85_code
def yX12_worth : MethodName := ⟨RX12, "worth", "()I"⟩
abbrev cX12_standing : ByteArray := prog_14_method_86_code
def yX12_standing : MethodName := ⟨RX12, "standing", "()I"⟩
abbrev cX12_keep : ByteArray := prog_14_method_87_code
def yX12_keep : MethodName := ⟨RX12, "keep", "(I)I"⟩
abbrev cX12_again : ByteArray := prog_14_method_88_code
def yX12_again : MethodName := ⟨RX12, "again", "(I)I"⟩
abbrev cX12_count : ByteArray := prog_14_method_89_code
def yX12_count : MethodName := ⟨RX12, "count", "(I)I"⟩
def RJ9 : String := "java/lang/Math"
def TJ9 : u_T := fun k => match k with
  | _ => ("", "", "", false)
def tyJ9 : Nat → FieldType := fun k => match k with
  | _ => .int
theorem nmJ9 : ∀ a, a < 0 → ∀ b, b < 0 → a ≠ b → (TJ9 a).2.1 ≠ (TJ9 b).2.1 := by decide +kernel
theorem tyJ9_ok : ∀ k, k < 0 → parseFieldDescriptor (TJ9 k).2.2.1 = some (tyJ9 k) := by decide +kernel
abbrev cJ9_abs_067f4 : ByteArray := prog_15_method_61_code
def yJ9_abs_067f4 : MethodName := ⟨RJ9, "abs", "(J)J"⟩
abbrev cJ9_max_7cf53 : ByteArray := prog_15_method_65_code
def yJ9_max_7cf53 : MethodName := ⟨RJ9, "max", "(II)I"⟩
abbrev cJ9_max_f86c9 : ByteArray := prog_15_method_66_code
def yJ9_max_f86c9 : MethodName := ⟨RJ9, "max", "(JJ)J"⟩
abbrev cJ9_min_7cf53 : ByteArray := prog_15_method_69_code
def yJ9_min_7cf53 : MethodName := ⟨RJ9, "min", "(II)I"⟩
def RL : String := "WheelAndWireLaw"
abbrev cL_law : ByteArray := code
def yL_law : MethodName := ⟨RL, "law", "([I)Z"⟩
