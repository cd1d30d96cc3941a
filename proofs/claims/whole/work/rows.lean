section
-- ===== PART A: goes FIRST, ahead of the names: the tables' words, and 'selects' of the private methods out of them =====
/-- a private method of a class that the tables say can be made, by its rows of tables_1 -/
def lw_okq (q : MethodName × Nat) : Prop := (q.1.cls ≠ "java/lang/invoke/MethodHandle" ∧ q.1.cls ≠ "java/lang/invoke/VarHandle") ∧ Cond.instantiable q.1.cls q.2 ∈ tables_1 ∧ Cond.privateMethod q.1 ∈ tables_1 ∧ Cond.instanceMethod q.1 ∈ tables_1
theorem lw_p0 : lw_okq (⟨"PennyALap", "sponsorsFromRow", "(III)I"⟩, 11) := ⟨⟨by decide +kernel, by decide +kernel⟩, List.mem_of_getElem? (i := 15) (by decide +kernel), List.mem_of_getElem? (i := 328) (by decide +kernel), List.mem_of_getElem? (i := 329) (by decide +kernel)⟩
theorem lw_p1 : lw_okq (⟨"PennyALap$Shelves", "isPlace", "(II)Z"⟩, 4) := ⟨⟨by decide +kernel, by decide +kernel⟩, List.mem_of_getElem? (i := 219) (by decide +kernel), List.mem_of_getElem? (i := 344) (by decide +kernel), List.mem_of_getElem? (i := 345) (by decide +kernel)⟩
theorem lw_p2 : lw_okq (⟨"PennyALap$Changes", "forgetOldest", "()V"⟩, 5) := ⟨⟨by decide +kernel, by decide +kernel⟩, List.mem_of_getElem? (i := 82) (by decide +kernel), List.mem_of_getElem? (i := 362) (by decide +kernel), List.mem_of_getElem? (i := 363) (by decide +kernel)⟩
theorem lw_p3 : lw_okq (⟨"PennyALap$Law", "readLines", "()I"⟩, 9) := ⟨⟨by decide +kernel, by decide +kernel⟩, List.mem_of_getElem? (i := 23) (by decide +kernel), List.mem_of_getElem? (i := 411) (by decide +kernel), List.mem_of_getElem? (i := 412) (by decide +kernel)⟩
theorem lw_p4 : lw_okq (⟨"PennyALap$Law", "readLine", "()Z"⟩, 9) := ⟨⟨by decide +kernel, by decide +kernel⟩, List.mem_of_getElem? (i := 23) (by decide +kernel), List.mem_of_getElem? (i := 415) (by decide +kernel), List.mem_of_getElem? (i := 416) (by decide +kernel)⟩
theorem lw_p5 : lw_okq (⟨"PennyALap$Law", "readJoined", "(II)Z"⟩, 9) := ⟨⟨by decide +kernel, by decide +kernel⟩, List.mem_of_getElem? (i := 23) (by decide +kernel), List.mem_of_getElem? (i := 419) (by decide +kernel), List.mem_of_getElem? (i := 420) (by decide +kernel)⟩
theorem lw_p6 : lw_okq (⟨"PennyALap$Law", "readOperand", "(I)Z"⟩, 9) := ⟨⟨by decide +kernel, by decide +kernel⟩, List.mem_of_getElem? (i := 23) (by decide +kernel), List.mem_of_getElem? (i := 423) (by decide +kernel), List.mem_of_getElem? (i := 424) (by decide +kernel)⟩
theorem lw_p7 : lw_okq (⟨"PennyALap$Law", "sign", "()I"⟩, 9) := ⟨⟨by decide +kernel, by decide +kernel⟩, List.mem_of_getElem? (i := 23) (by decide +kernel), List.mem_of_getElem? (i := 427) (by decide +kernel), List.mem_of_getElem? (i := 428) (by decide +kernel)⟩
theorem lw_p8 : lw_okq (⟨"PennyALap$Law", "readNumber", "()V"⟩, 9) := ⟨⟨by decide +kernel, by decide +kernel⟩, List.mem_of_getElem? (i := 23) (by decide +kernel), List.mem_of_getElem? (i := 434) (by decide +kernel), List.mem_of_getElem? (i := 435) (by decide +kernel)⟩
theorem lw_p9 : lw_okq (⟨"PennyALap$Law", "write", "(I)V"⟩, 9) := ⟨⟨by decide +kernel, by decide +kernel⟩, List.mem_of_getElem? (i := 23) (by decide +kernel), List.mem_of_getElem? (i := 438) (by decide +kernel), List.mem_of_getElem? (i := 439) (by decide +kernel)⟩
theorem lw_p10 : lw_okq (⟨"PennyALap$Law", "readClosing", "()Z"⟩, 9) := ⟨⟨by decide +kernel, by decide +kernel⟩, List.mem_of_getElem? (i := 23) (by decide +kernel), List.mem_of_getElem? (i := 445) (by decide +kernel), List.mem_of_getElem? (i := 446) (by decide +kernel)⟩
theorem lw_p11 : lw_okq (⟨"PennyALap$Plan", "weigh", "(I)V"⟩, 5) := ⟨⟨by decide +kernel, by decide +kernel⟩, List.mem_of_getElem? (i := 124) (by decide +kernel), List.mem_of_getElem? (i := 646) (by decide +kernel), List.mem_of_getElem? (i := 647) (by decide +kernel)⟩
theorem lw_p12 : lw_okq (⟨"PennyALap$Plan", "bestOf", "(II)I"⟩, 5) := ⟨⟨by decide +kernel, by decide +kernel⟩, List.mem_of_getElem? (i := 124) (by decide +kernel), List.mem_of_getElem? (i := 656) (by decide +kernel), List.mem_of_getElem? (i := 657) (by decide +kernel)⟩
theorem lw_p13 : lw_okq (⟨"PennyALap$Plan", "choose", "(I)V"⟩, 5) := ⟨⟨by decide +kernel, by decide +kernel⟩, List.mem_of_getElem? (i := 124) (by decide +kernel), List.mem_of_getElem? (i := 661) (by decide +kernel), List.mem_of_getElem? (i := 662) (by decide +kernel)⟩
theorem lw_p14 : lw_okq (⟨"PennyALap$Plan", "worthWith", "(III)I"⟩, 5) := ⟨⟨by decide +kernel, by decide +kernel⟩, List.mem_of_getElem? (i := 124) (by decide +kernel), List.mem_of_getElem? (i := 665) (by decide +kernel), List.mem_of_getElem? (i := 666) (by decide +kernel)⟩
theorem lw_p15 : lw_okq (⟨"PennyALap", "readReminders", "(II)V"⟩, 11) := ⟨⟨by decide +kernel, by decide +kernel⟩, List.mem_of_getElem? (i := 15) (by decide +kernel), List.mem_of_getElem? (i := 686) (by decide +kernel), List.mem_of_getElem? (i := 687) (by decide +kernel)⟩
def lw_privs_1 : List (MethodName × Nat) := [(⟨"PennyALap", "sponsorsFromRow", "(III)I"⟩, 11), (⟨"PennyALap$Shelves", "isPlace", "(II)Z"⟩, 4), (⟨"PennyALap$Changes", "forgetOldest", "()V"⟩, 5), (⟨"PennyALap$Law", "readLines", "()I"⟩, 9), (⟨"PennyALap$Law", "readLine", "()Z"⟩, 9), (⟨"PennyALap$Law", "readJoined", "(II)Z"⟩, 9), (⟨"PennyALap$Law", "readOperand", "(I)Z"⟩, 9), (⟨"PennyALap$Law", "sign", "()I"⟩, 9), (⟨"PennyALap$Law", "readNumber", "()V"⟩, 9), (⟨"PennyALap$Law", "write", "(I)V"⟩, 9), (⟨"PennyALap$Law", "readClosing", "()Z"⟩, 9), (⟨"PennyALap$Plan", "weigh", "(I)V"⟩, 5), (⟨"PennyALap$Plan", "bestOf", "(II)I"⟩, 5), (⟨"PennyALap$Plan", "choose", "(I)V"⟩, 5), (⟨"PennyALap$Plan", "worthWith", "(III)I"⟩, 5), (⟨"PennyALap", "readReminders", "(II)V"⟩, 11)]
theorem lw_r1 : ∀ q ∈ lw_privs_1, lw_okq q := List.forall_mem_cons.mpr ⟨lw_p0, List.forall_mem_cons.mpr ⟨lw_p1, List.forall_mem_cons.mpr ⟨lw_p2, List.forall_mem_cons.mpr ⟨lw_p3, List.forall_mem_cons.mpr ⟨lw_p4, List.forall_mem_cons.mpr ⟨lw_p5, List.forall_mem_cons.mpr ⟨lw_p6, List.forall_mem_cons.mpr ⟨lw_p7, List.forall_mem_cons.mpr ⟨lw_p8, List.forall_mem_cons.mpr ⟨lw_p9, List.forall_mem_cons.mpr ⟨lw_p10, List.forall_mem_cons.mpr ⟨lw_p11, List.forall_mem_cons.mpr ⟨lw_p12, List.forall_mem_cons.mpr ⟨lw_p13, List.forall_mem_cons.mpr ⟨lw_p14, List.forall_mem_cons.mpr ⟨lw_p15, fun _ h => absurd h List.not_mem_nil⟩⟩⟩⟩⟩⟩⟩⟩⟩⟩⟩⟩⟩⟩⟩⟩
theorem lw_p16 : lw_okq (⟨"PennyALap$Coming", "startWeeks", "()V"⟩, 5) := ⟨⟨by decide +kernel, by decide +kernel⟩, List.mem_of_getElem? (i := 146) (by decide +kernel), List.mem_of_getElem? (i := 706) (by decide +kernel), List.mem_of_getElem? (i := 707) (by decide +kernel)⟩
theorem lw_p17 : lw_okq (⟨"PennyALap$Coming", "comesIn", "(Z)I"⟩, 5) := ⟨⟨by decide +kernel, by decide +kernel⟩, List.mem_of_getElem? (i := 146) (by decide +kernel), List.mem_of_getElem? (i := 710) (by decide +kernel), List.mem_of_getElem? (i := 711) (by decide +kernel)⟩
theorem lw_p18 : lw_okq (⟨"PennyALap", "firstAmiss", "(I)I"⟩, 11) := ⟨⟨by decide +kernel, by decide +kernel⟩, List.mem_of_getElem? (i := 15) (by decide +kernel), List.mem_of_getElem? (i := 738) (by decide +kernel), List.mem_of_getElem? (i := 739) (by decide +kernel)⟩
theorem lw_p19 : lw_okq (⟨"PennyALap", "cheats", "(III)Z"⟩, 11) := ⟨⟨by decide +kernel, by decide +kernel⟩, List.mem_of_getElem? (i := 15) (by decide +kernel), List.mem_of_getElem? (i := 761) (by decide +kernel), List.mem_of_getElem? (i := 762) (by decide +kernel)⟩
theorem lw_p20 : lw_okq (⟨"PennyALap", "lapsSaid", "(II)I"⟩, 11) := ⟨⟨by decide +kernel, by decide +kernel⟩, List.mem_of_getElem? (i := 15) (by decide +kernel), List.mem_of_getElem? (i := 765) (by decide +kernel), List.mem_of_getElem? (i := 766) (by decide +kernel)⟩
theorem lw_p21 : lw_okq (⟨"PennyALap$Thought", "drawLaps", "(III)I"⟩, 4) := ⟨⟨by decide +kernel, by decide +kernel⟩, List.mem_of_getElem? (i := 104) (by decide +kernel), List.mem_of_getElem? (i := 778) (by decide +kernel), List.mem_of_getElem? (i := 779) (by decide +kernel)⟩
theorem lw_p22 : lw_okq (⟨"PennyALap$Bodies", "own", "(IIII)I"⟩, 4) := ⟨⟨by decide +kernel, by decide +kernel⟩, List.mem_of_getElem? (i := 200) (by decide +kernel), List.mem_of_getElem? (i := 891) (by decide +kernel), List.mem_of_getElem? (i := 892) (by decide +kernel)⟩
theorem lw_p23 : lw_okq (⟨"PennyALap$Bodies", "from", "(IIIII)I"⟩, 4) := ⟨⟨by decide +kernel, by decide +kernel⟩, List.mem_of_getElem? (i := 200) (by decide +kernel), List.mem_of_getElem? (i := 899) (by decide +kernel), List.mem_of_getElem? (i := 900) (by decide +kernel)⟩
theorem lw_p24 : lw_okq (⟨"PennyALap$Bodies", "perform", "(IIII)I"⟩, 4) := ⟨⟨by decide +kernel, by decide +kernel⟩, List.mem_of_getElem? (i := 200) (by decide +kernel), List.mem_of_getElem? (i := 908) (by decide +kernel), List.mem_of_getElem? (i := 909) (by decide +kernel)⟩
theorem lw_p25 : lw_okq (⟨"PennyALap$Bodies", "higher", "(IIIII)I"⟩, 4) := ⟨⟨by decide +kernel, by decide +kernel⟩, List.mem_of_getElem? (i := 200) (by decide +kernel), List.mem_of_getElem? (i := 912) (by decide +kernel), List.mem_of_getElem? (i := 913) (by decide +kernel)⟩
theorem lw_p26 : lw_okq (⟨"PennyALapModel", "isChild", "(I)Z"⟩, 59) := ⟨⟨by decide +kernel, by decide +kernel⟩, List.mem_of_getElem? (i := 1018) (by decide +kernel), List.mem_of_getElem? (i := 1214) (by decide +kernel), List.mem_of_getElem? (i := 1215) (by decide +kernel)⟩
theorem lw_p27 : lw_okq (⟨"PennyALapModel", "addSponsor", "(III)I"⟩, 59) := ⟨⟨by decide +kernel, by decide +kernel⟩, List.mem_of_getElem? (i := 1018) (by decide +kernel), List.mem_of_getElem? (i := 1218) (by decide +kernel), List.mem_of_getElem? (i := 1219) (by decide +kernel)⟩
theorem lw_p28 : lw_okq (⟨"PennyALapModel", "lays", "(III)V"⟩, 59) := ⟨⟨by decide +kernel, by decide +kernel⟩, List.mem_of_getElem? (i := 1018) (by decide +kernel), List.mem_of_getElem? (i := 1234) (by decide +kernel), List.mem_of_getElem? (i := 1235) (by decide +kernel)⟩
theorem lw_p29 : lw_okq (⟨"PennyALapModel", "isOne", "(II)Z"⟩, 59) := ⟨⟨by decide +kernel, by decide +kernel⟩, List.mem_of_getElem? (i := 1018) (by decide +kernel), List.mem_of_getElem? (i := 1246) (by decide +kernel), List.mem_of_getElem? (i := 1247) (by decide +kernel)⟩
theorem lw_p30 : lw_okq (⟨"PennyALapModel", "isSponsor", "(I)Z"⟩, 59) := ⟨⟨by decide +kernel, by decide +kernel⟩, List.mem_of_getElem? (i := 1018) (by decide +kernel), List.mem_of_getElem? (i := 1250) (by decide +kernel), List.mem_of_getElem? (i := 1251) (by decide +kernel)⟩
theorem lw_p31 : lw_okq (⟨"PennyALapModel", "changes", "(III)I"⟩, 59) := ⟨⟨by decide +kernel, by decide +kernel⟩, List.mem_of_getElem? (i := 1018) (by decide +kernel), List.mem_of_getElem? (i := 1257) (by decide +kernel), List.mem_of_getElem? (i := 1258) (by decide +kernel)⟩
def lw_privs_2 : List (MethodName × Nat) := [(⟨"PennyALap$Coming", "startWeeks", "()V"⟩, 5), (⟨"PennyALap$Coming", "comesIn", "(Z)I"⟩, 5), (⟨"PennyALap", "firstAmiss", "(I)I"⟩, 11), (⟨"PennyALap", "cheats", "(III)Z"⟩, 11), (⟨"PennyALap", "lapsSaid", "(II)I"⟩, 11), (⟨"PennyALap$Thought", "drawLaps", "(III)I"⟩, 4), (⟨"PennyALap$Bodies", "own", "(IIII)I"⟩, 4), (⟨"PennyALap$Bodies", "from", "(IIIII)I"⟩, 4), (⟨"PennyALap$Bodies", "perform", "(IIII)I"⟩, 4), (⟨"PennyALap$Bodies", "higher", "(IIIII)I"⟩, 4), (⟨"PennyALapModel", "isChild", "(I)Z"⟩, 59), (⟨"PennyALapModel", "addSponsor", "(III)I"⟩, 59), (⟨"PennyALapModel", "lays", "(III)V"⟩, 59), (⟨"PennyALapModel", "isOne", "(II)Z"⟩, 59), (⟨"PennyALapModel", "isSponsor", "(I)Z"⟩, 59), (⟨"PennyALapModel", "changes", "(III)I"⟩, 59)]
theorem lw_r2 : ∀ q ∈ lw_privs_2, lw_okq q := List.forall_mem_cons.mpr ⟨lw_p16, List.forall_mem_cons.mpr ⟨lw_p17, List.forall_mem_cons.mpr ⟨lw_p18, List.forall_mem_cons.mpr ⟨lw_p19, List.forall_mem_cons.mpr ⟨lw_p20, List.forall_mem_cons.mpr ⟨lw_p21, List.forall_mem_cons.mpr ⟨lw_p22, List.forall_mem_cons.mpr ⟨lw_p23, List.forall_mem_cons.mpr ⟨lw_p24, List.forall_mem_cons.mpr ⟨lw_p25, List.forall_mem_cons.mpr ⟨lw_p26, List.forall_mem_cons.mpr ⟨lw_p27, List.forall_mem_cons.mpr ⟨lw_p28, List.forall_mem_cons.mpr ⟨lw_p29, List.forall_mem_cons.mpr ⟨lw_p30, List.forall_mem_cons.mpr ⟨lw_p31, fun _ h => absurd h List.not_mem_nil⟩⟩⟩⟩⟩⟩⟩⟩⟩⟩⟩⟩⟩⟩⟩⟩
theorem lw_p32 : lw_okq (⟨"PennyALapModel", "valueAt", "(II)I"⟩, 59) := ⟨⟨by decide +kernel, by decide +kernel⟩, List.mem_of_getElem? (i := 1018) (by decide +kernel), List.mem_of_getElem? (i := 1261) (by decide +kernel), List.mem_of_getElem? (i := 1262) (by decide +kernel)⟩
theorem lw_p33 : lw_okq (⟨"PennyALapModel", "readText", "(I)I"⟩, 59) := ⟨⟨by decide +kernel, by decide +kernel⟩, List.mem_of_getElem? (i := 1018) (by decide +kernel), List.mem_of_getElem? (i := 1277) (by decide +kernel), List.mem_of_getElem? (i := 1278) (by decide +kernel)⟩
theorem lw_p34 : lw_okq (⟨"PennyALapModel", "line", "()V"⟩, 59) := ⟨⟨by decide +kernel, by decide +kernel⟩, List.mem_of_getElem? (i := 1018) (by decide +kernel), List.mem_of_getElem? (i := 1281) (by decide +kernel), List.mem_of_getElem? (i := 1282) (by decide +kernel)⟩
theorem lw_p35 : lw_okq (⟨"PennyALapModel", "either", "()V"⟩, 59) := ⟨⟨by decide +kernel, by decide +kernel⟩, List.mem_of_getElem? (i := 1018) (by decide +kernel), List.mem_of_getElem? (i := 1285) (by decide +kernel), List.mem_of_getElem? (i := 1286) (by decide +kernel)⟩
theorem lw_p36 : lw_okq (⟨"PennyALapModel", "both", "()V"⟩, 59) := ⟨⟨by decide +kernel, by decide +kernel⟩, List.mem_of_getElem? (i := 1018) (by decide +kernel), List.mem_of_getElem? (i := 1289) (by decide +kernel), List.mem_of_getElem? (i := 1290) (by decide +kernel)⟩
theorem lw_p37 : lw_okq (⟨"PennyALapModel", "compared", "()V"⟩, 59) := ⟨⟨by decide +kernel, by decide +kernel⟩, List.mem_of_getElem? (i := 1018) (by decide +kernel), List.mem_of_getElem? (i := 1293) (by decide +kernel), List.mem_of_getElem? (i := 1294) (by decide +kernel)⟩
theorem lw_p38 : lw_okq (⟨"PennyALapModel", "sum", "()V"⟩, 59) := ⟨⟨by decide +kernel, by decide +kernel⟩, List.mem_of_getElem? (i := 1018) (by decide +kernel), List.mem_of_getElem? (i := 1297) (by decide +kernel), List.mem_of_getElem? (i := 1298) (by decide +kernel)⟩
theorem lw_p39 : lw_okq (⟨"PennyALapModel", "product", "()V"⟩, 59) := ⟨⟨by decide +kernel, by decide +kernel⟩, List.mem_of_getElem? (i := 1018) (by decide +kernel), List.mem_of_getElem? (i := 1301) (by decide +kernel), List.mem_of_getElem? (i := 1302) (by decide +kernel)⟩
theorem lw_p40 : lw_okq (⟨"PennyALapModel", "operand", "()V"⟩, 59) := ⟨⟨by decide +kernel, by decide +kernel⟩, List.mem_of_getElem? (i := 1018) (by decide +kernel), List.mem_of_getElem? (i := 1305) (by decide +kernel), List.mem_of_getElem? (i := 1306) (by decide +kernel)⟩
theorem lw_p41 : lw_okq (⟨"PennyALapModel", "look", "()I"⟩, 59) := ⟨⟨by decide +kernel, by decide +kernel⟩, List.mem_of_getElem? (i := 1018) (by decide +kernel), List.mem_of_getElem? (i := 1309) (by decide +kernel), List.mem_of_getElem? (i := 1310) (by decide +kernel)⟩
theorem lw_p42 : lw_okq (⟨"PennyALapModel", "addStep", "(II)V"⟩, 59) := ⟨⟨by decide +kernel, by decide +kernel⟩, List.mem_of_getElem? (i := 1018) (by decide +kernel), List.mem_of_getElem? (i := 1316) (by decide +kernel), List.mem_of_getElem? (i := 1317) (by decide +kernel)⟩
theorem lw_p43 : lw_okq (⟨"PennyALapModel", "opens", "()Z"⟩, 59) := ⟨⟨by decide +kernel, by decide +kernel⟩, List.mem_of_getElem? (i := 1018) (by decide +kernel), List.mem_of_getElem? (i := 1320) (by decide +kernel), List.mem_of_getElem? (i := 1321) (by decide +kernel)⟩
theorem lw_p44 : lw_okq (⟨"PennyALapModel", "wrong", "()V"⟩, 59) := ⟨⟨by decide +kernel, by decide +kernel⟩, List.mem_of_getElem? (i := 1018) (by decide +kernel), List.mem_of_getElem? (i := 1324) (by decide +kernel), List.mem_of_getElem? (i := 1325) (by decide +kernel)⟩
theorem lw_p45 : lw_okq (⟨"PennyALapModel", "figure", "()V"⟩, 59) := ⟨⟨by decide +kernel, by decide +kernel⟩, List.mem_of_getElem? (i := 1018) (by decide +kernel), List.mem_of_getElem? (i := 1328) (by decide +kernel), List.mem_of_getElem? (i := 1329) (by decide +kernel)⟩
theorem lw_p46 : lw_okq (⟨"PennyALapModel", "lapOf", "(III)I"⟩, 59) := ⟨⟨by decide +kernel, by decide +kernel⟩, List.mem_of_getElem? (i := 1018) (by decide +kernel), List.mem_of_getElem? (i := 1336) (by decide +kernel), List.mem_of_getElem? (i := 1337) (by decide +kernel)⟩
theorem lw_p47 : lw_okq (⟨"PennyALapModel", "gives", "(I)I"⟩, 59) := ⟨⟨by decide +kernel, by decide +kernel⟩, List.mem_of_getElem? (i := 1018) (by decide +kernel), List.mem_of_getElem? (i := 1340) (by decide +kernel), List.mem_of_getElem? (i := 1341) (by decide +kernel)⟩
def lw_privs_3 : List (MethodName × Nat) := [(⟨"PennyALapModel", "valueAt", "(II)I"⟩, 59), (⟨"PennyALapModel", "readText", "(I)I"⟩, 59), (⟨"PennyALapModel", "line", "()V"⟩, 59), (⟨"PennyALapModel", "either", "()V"⟩, 59), (⟨"PennyALapModel", "both", "()V"⟩, 59), (⟨"PennyALapModel", "compared", "()V"⟩, 59), (⟨"PennyALapModel", "sum", "()V"⟩, 59), (⟨"PennyALapModel", "product", "()V"⟩, 59), (⟨"PennyALapModel", "operand", "()V"⟩, 59), (⟨"PennyALapModel", "look", "()I"⟩, 59), (⟨"PennyALapModel", "addStep", "(II)V"⟩, 59), (⟨"PennyALapModel", "opens", "()Z"⟩, 59), (⟨"PennyALapModel", "wrong", "()V"⟩, 59), (⟨"PennyALapModel", "figure", "()V"⟩, 59), (⟨"PennyALapModel", "lapOf", "(III)I"⟩, 59), (⟨"PennyALapModel", "gives", "(I)I"⟩, 59)]
theorem lw_r3 : ∀ q ∈ lw_privs_3, lw_okq q := List.forall_mem_cons.mpr ⟨lw_p32, List.forall_mem_cons.mpr ⟨lw_p33, List.forall_mem_cons.mpr ⟨lw_p34, List.forall_mem_cons.mpr ⟨lw_p35, List.forall_mem_cons.mpr ⟨lw_p36, List.forall_mem_cons.mpr ⟨lw_p37, List.forall_mem_cons.mpr ⟨lw_p38, List.forall_mem_cons.mpr ⟨lw_p39, List.forall_mem_cons.mpr ⟨lw_p40, List.forall_mem_cons.mpr ⟨lw_p41, List.forall_mem_cons.mpr ⟨lw_p42, List.forall_mem_cons.mpr ⟨lw_p43, List.forall_mem_cons.mpr ⟨lw_p44, List.forall_mem_cons.mpr ⟨lw_p45, List.forall_mem_cons.mpr ⟨lw_p46, List.forall_mem_cons.mpr ⟨lw_p47, fun _ h => absurd h List.not_mem_nil⟩⟩⟩⟩⟩⟩⟩⟩⟩⟩⟩⟩⟩⟩⟩⟩
theorem lw_p48 : lw_okq (⟨"PennyALapModel", "worked", "(III)I"⟩, 59) := ⟨⟨by decide +kernel, by decide +kernel⟩, List.mem_of_getElem? (i := 1018) (by decide +kernel), List.mem_of_getElem? (i := 1344) (by decide +kernel), List.mem_of_getElem? (i := 1345) (by decide +kernel)⟩
theorem lw_p49 : lw_okq (⟨"PennyALapModel", "minutesOf", "(II)I"⟩, 59) := ⟨⟨by decide +kernel, by decide +kernel⟩, List.mem_of_getElem? (i := 1018) (by decide +kernel), List.mem_of_getElem? (i := 1355) (by decide +kernel), List.mem_of_getElem? (i := 1356) (by decide +kernel)⟩
theorem lw_p50 : lw_okq (⟨"PennyALapModel", "owesOf", "(II)I"⟩, 59) := ⟨⟨by decide +kernel, by decide +kernel⟩, List.mem_of_getElem? (i := 1018) (by decide +kernel), List.mem_of_getElem? (i := 1363) (by decide +kernel), List.mem_of_getElem? (i := 1364) (by decide +kernel)⟩
theorem lw_p51 : lw_okq (⟨"PennyALapModel", "plainOf", "(II)I"⟩, 59) := ⟨⟨by decide +kernel, by decide +kernel⟩, List.mem_of_getElem? (i := 1018) (by decide +kernel), List.mem_of_getElem? (i := 1367) (by decide +kernel), List.mem_of_getElem? (i := 1368) (by decide +kernel)⟩
theorem lw_p52 : lw_okq (⟨"PennyALapModel", "paysOf", "(II)I"⟩, 59) := ⟨⟨by decide +kernel, by decide +kernel⟩, List.mem_of_getElem? (i := 1018) (by decide +kernel), List.mem_of_getElem? (i := 1371) (by decide +kernel), List.mem_of_getElem? (i := 1372) (by decide +kernel)⟩
theorem lw_p53 : lw_okq (⟨"PennyALapModel", "goTo", "(I)V"⟩, 59) := ⟨⟨by decide +kernel, by decide +kernel⟩, List.mem_of_getElem? (i := 1018) (by decide +kernel), List.mem_of_getElem? (i := 1382) (by decide +kernel), List.mem_of_getElem? (i := 1383) (by decide +kernel)⟩
theorem lw_p54 : lw_okq (⟨"PennyALapModel", "lapsBy", "(II)I"⟩, 59) := ⟨⟨by decide +kernel, by decide +kernel⟩, List.mem_of_getElem? (i := 1018) (by decide +kernel), List.mem_of_getElem? (i := 1386) (by decide +kernel), List.mem_of_getElem? (i := 1387) (by decide +kernel)⟩
theorem lw_p55 : lw_okq (⟨"PennyALapModel", "owedTo", "(II)I"⟩, 59) := ⟨⟨by decide +kernel, by decide +kernel⟩, List.mem_of_getElem? (i := 1018) (by decide +kernel), List.mem_of_getElem? (i := 1390) (by decide +kernel), List.mem_of_getElem? (i := 1391) (by decide +kernel)⟩
theorem lw_p56 : lw_okq (⟨"PennyALapModel", "paidTo", "(II)I"⟩, 59) := ⟨⟨by decide +kernel, by decide +kernel⟩, List.mem_of_getElem? (i := 1018) (by decide +kernel), List.mem_of_getElem? (i := 1394) (by decide +kernel), List.mem_of_getElem? (i := 1395) (by decide +kernel)⟩
theorem lw_p57 : lw_okq (⟨"PennyALapModel", "lapsAll", "()I"⟩, 59) := ⟨⟨by decide +kernel, by decide +kernel⟩, List.mem_of_getElem? (i := 1018) (by decide +kernel), List.mem_of_getElem? (i := 1398) (by decide +kernel), List.mem_of_getElem? (i := 1399) (by decide +kernel)⟩
theorem lw_p58 : lw_okq (⟨"PennyALapModel", "paidAll", "()I"⟩, 59) := ⟨⟨by decide +kernel, by decide +kernel⟩, List.mem_of_getElem? (i := 1018) (by decide +kernel), List.mem_of_getElem? (i := 1402) (by decide +kernel), List.mem_of_getElem? (i := 1403) (by decide +kernel)⟩
theorem lw_p59 : lw_okq (⟨"PennyALapModel", "mostLaps", "()I"⟩, 59) := ⟨⟨by decide +kernel, by decide +kernel⟩, List.mem_of_getElem? (i := 1018) (by decide +kernel), List.mem_of_getElem? (i := 1406) (by decide +kernel), List.mem_of_getElem? (i := 1407) (by decide +kernel)⟩
theorem lw_p60 : lw_okq (⟨"PennyALapModel", "surprised", "()I"⟩, 59) := ⟨⟨by decide +kernel, by decide +kernel⟩, List.mem_of_getElem? (i := 1018) (by decide +kernel), List.mem_of_getElem? (i := 1414) (by decide +kernel), List.mem_of_getElem? (i := 1415) (by decide +kernel)⟩
theorem lw_p61 : lw_okq (⟨"PennyALapModel", "mostPence", "()I"⟩, 59) := ⟨⟨by decide +kernel, by decide +kernel⟩, List.mem_of_getElem? (i := 1018) (by decide +kernel), List.mem_of_getElem? (i := 1418) (by decide +kernel), List.mem_of_getElem? (i := 1419) (by decide +kernel)⟩
theorem lw_p62 : lw_okq (⟨"PennyALapModel", "moreBy", "(II)I"⟩, 59) := ⟨⟨by decide +kernel, by decide +kernel⟩, List.mem_of_getElem? (i := 1018) (by decide +kernel), List.mem_of_getElem? (i := 1426) (by decide +kernel), List.mem_of_getElem? (i := 1427) (by decide +kernel)⟩
theorem lw_p63 : lw_okq (⟨"PennyALapModel", "partFrom", "(I)V"⟩, 59) := ⟨⟨by decide +kernel, by decide +kernel⟩, List.mem_of_getElem? (i := 1018) (by decide +kernel), List.mem_of_getElem? (i := 1451) (by decide +kernel), List.mem_of_getElem? (i := 1452) (by decide +kernel)⟩
def lw_privs_4 : List (MethodName × Nat) := [(⟨"PennyALapModel", "worked", "(III)I"⟩, 59), (⟨"PennyALapModel", "minutesOf", "(II)I"⟩, 59), (⟨"PennyALapModel", "owesOf", "(II)I"⟩, 59), (⟨"PennyALapModel", "plainOf", "(II)I"⟩, 59), (⟨"PennyALapModel", "paysOf", "(II)I"⟩, 59), (⟨"PennyALapModel", "goTo", "(I)V"⟩, 59), (⟨"PennyALapModel", "lapsBy", "(II)I"⟩, 59), (⟨"PennyALapModel", "owedTo", "(II)I"⟩, 59), (⟨"PennyALapModel", "paidTo", "(II)I"⟩, 59), (⟨"PennyALapModel", "lapsAll", "()I"⟩, 59), (⟨"PennyALapModel", "paidAll", "()I"⟩, 59), (⟨"PennyALapModel", "mostLaps", "()I"⟩, 59), (⟨"PennyALapModel", "surprised", "()I"⟩, 59), (⟨"PennyALapModel", "mostPence", "()I"⟩, 59), (⟨"PennyALapModel", "moreBy", "(II)I"⟩, 59), (⟨"PennyALapModel", "partFrom", "(I)V"⟩, 59)]
theorem lw_r4 : ∀ q ∈ lw_privs_4, lw_okq q := List.forall_mem_cons.mpr ⟨lw_p48, List.forall_mem_cons.mpr ⟨lw_p49, List.forall_mem_cons.mpr ⟨lw_p50, List.forall_mem_cons.mpr ⟨lw_p51, List.forall_mem_cons.mpr ⟨lw_p52, List.forall_mem_cons.mpr ⟨lw_p53, List.forall_mem_cons.mpr ⟨lw_p54, List.forall_mem_cons.mpr ⟨lw_p55, List.forall_mem_cons.mpr ⟨lw_p56, List.forall_mem_cons.mpr ⟨lw_p57, List.forall_mem_cons.mpr ⟨lw_p58, List.forall_mem_cons.mpr ⟨lw_p59, List.forall_mem_cons.mpr ⟨lw_p60, List.forall_mem_cons.mpr ⟨lw_p61, List.forall_mem_cons.mpr ⟨lw_p62, List.forall_mem_cons.mpr ⟨lw_p63, fun _ h => absurd h List.not_mem_nil⟩⟩⟩⟩⟩⟩⟩⟩⟩⟩⟩⟩⟩⟩⟩⟩
theorem lw_p64 : lw_okq (⟨"PennyALapModel", "rowFault", "(II)I"⟩, 59) := ⟨⟨by decide +kernel, by decide +kernel⟩, List.mem_of_getElem? (i := 1018) (by decide +kernel), List.mem_of_getElem? (i := 1462) (by decide +kernel), List.mem_of_getElem? (i := 1463) (by decide +kernel)⟩
theorem lw_p65 : lw_okq (⟨"PennyALapModel", "comesBy", "(IIII)I"⟩, 59) := ⟨⟨by decide +kernel, by decide +kernel⟩, List.mem_of_getElem? (i := 1018) (by decide +kernel), List.mem_of_getElem? (i := 1466) (by decide +kernel), List.mem_of_getElem? (i := 1467) (by decide +kernel)⟩
theorem lw_p66 : lw_okq (⟨"PennyALapModel", "beginRest", "(I)I"⟩, 59) := ⟨⟨by decide +kernel, by decide +kernel⟩, List.mem_of_getElem? (i := 1018) (by decide +kernel), List.mem_of_getElem? (i := 1470) (by decide +kernel), List.mem_of_getElem? (i := 1471) (by decide +kernel)⟩
theorem lw_p67 : lw_okq (⟨"PennyALapModel", "isTold", "(II)Z"⟩, 59) := ⟨⟨by decide +kernel, by decide +kernel⟩, List.mem_of_getElem? (i := 1018) (by decide +kernel), List.mem_of_getElem? (i := 1474) (by decide +kernel), List.mem_of_getElem? (i := 1475) (by decide +kernel)⟩
theorem lw_p68 : lw_okq (⟨"PennyALapModel", "at", "(II)I"⟩, 59) := ⟨⟨by decide +kernel, by decide +kernel⟩, List.mem_of_getElem? (i := 1018) (by decide +kernel), List.mem_of_getElem? (i := 1478) (by decide +kernel), List.mem_of_getElem? (i := 1479) (by decide +kernel)⟩
theorem lw_p69 : lw_okq (⟨"PennyALapModel", "weekComes", "(Z)I"⟩, 59) := ⟨⟨by decide +kernel, by decide +kernel⟩, List.mem_of_getElem? (i := 1018) (by decide +kernel), List.mem_of_getElem? (i := 1482) (by decide +kernel), List.mem_of_getElem? (i := 1483) (by decide +kernel)⟩
theorem lw_p70 : lw_okq (⟨"PennyALapModel", "wrongSheet", "(II)I"⟩, 59) := ⟨⟨by decide +kernel, by decide +kernel⟩, List.mem_of_getElem? (i := 1018) (by decide +kernel), List.mem_of_getElem? (i := 1498) (by decide +kernel), List.mem_of_getElem? (i := 1499) (by decide +kernel)⟩
theorem lw_p71 : lw_okq (⟨"PennyALapModel", "saidBy", "(II)I"⟩, 59) := ⟨⟨by decide +kernel, by decide +kernel⟩, List.mem_of_getElem? (i := 1018) (by decide +kernel), List.mem_of_getElem? (i := 1518) (by decide +kernel), List.mem_of_getElem? (i := 1519) (by decide +kernel)⟩
theorem lw_p72 : lw_okq (⟨"PennyALapModel", "drawnLaps", "(II)I"⟩, 59) := ⟨⟨by decide +kernel, by decide +kernel⟩, List.mem_of_getElem? (i := 1018) (by decide +kernel), List.mem_of_getElem? (i := 1526) (by decide +kernel), List.mem_of_getElem? (i := 1527) (by decide +kernel)⟩
theorem lw_p73 : lw_okq (⟨"PennyALapModel", "isBody", "(I)Z"⟩, 59) := ⟨⟨by decide +kernel, by decide +kernel⟩, List.mem_of_getElem? (i := 1018) (by decide +kernel), List.mem_of_getElem? (i := 1567) (by decide +kernel), List.mem_of_getElem? (i := 1568) (by decide +kernel)⟩
theorem lw_p74 : lw_okq (⟨"PennyALapModel", "running", "(II)I"⟩, 59) := ⟨⟨by decide +kernel, by decide +kernel⟩, List.mem_of_getElem? (i := 1018) (by decide +kernel), List.mem_of_getElem? (i := 1571) (by decide +kernel), List.mem_of_getElem? (i := 1572) (by decide +kernel)⟩
theorem lw_p75 : lw_okq (⟨"PennyALapModel", "ran", "(I)V"⟩, 59) := ⟨⟨by decide +kernel, by decide +kernel⟩, List.mem_of_getElem? (i := 1018) (by decide +kernel), List.mem_of_getElem? (i := 1578) (by decide +kernel), List.mem_of_getElem? (i := 1579) (by decide +kernel)⟩
theorem lw_p76 : lw_okq (⟨"PennyALapModel", "plainRuns", "(II)I"⟩, 59) := ⟨⟨by decide +kernel, by decide +kernel⟩, List.mem_of_getElem? (i := 1018) (by decide +kernel), List.mem_of_getElem? (i := 1582) (by decide +kernel), List.mem_of_getElem? (i := 1583) (by decide +kernel)⟩
theorem lw_p77 : lw_okq (⟨"PennyALapModel", "prizeRuns", "(II)I"⟩, 59) := ⟨⟨by decide +kernel, by decide +kernel⟩, List.mem_of_getElem? (i := 1018) (by decide +kernel), List.mem_of_getElem? (i := 1586) (by decide +kernel), List.mem_of_getElem? (i := 1587) (by decide +kernel)⟩
theorem lw_p78 : lw_okq (⟨"PennyALapModel", "owing", "(II)I"⟩, 59) := ⟨⟨by decide +kernel, by decide +kernel⟩, List.mem_of_getElem? (i := 1018) (by decide +kernel), List.mem_of_getElem? (i := 1590) (by decide +kernel), List.mem_of_getElem? (i := 1591) (by decide +kernel)⟩
theorem lw_p79 : lw_okq (⟨"PennyALapModel", "sumOwes", "(II)I"⟩, 59) := ⟨⟨by decide +kernel, by decide +kernel⟩, List.mem_of_getElem? (i := 1018) (by decide +kernel), List.mem_of_getElem? (i := 1594) (by decide +kernel), List.mem_of_getElem? (i := 1595) (by decide +kernel)⟩
def lw_privs_5 : List (MethodName × Nat) := [(⟨"PennyALapModel", "rowFault", "(II)I"⟩, 59), (⟨"PennyALapModel", "comesBy", "(IIII)I"⟩, 59), (⟨"PennyALapModel", "beginRest", "(I)I"⟩, 59), (⟨"PennyALapModel", "isTold", "(II)Z"⟩, 59), (⟨"PennyALapModel", "at", "(II)I"⟩, 59), (⟨"PennyALapModel", "weekComes", "(Z)I"⟩, 59), (⟨"PennyALapModel", "wrongSheet", "(II)I"⟩, 59), (⟨"PennyALapModel", "saidBy", "(II)I"⟩, 59), (⟨"PennyALapModel", "drawnLaps", "(II)I"⟩, 59), (⟨"PennyALapModel", "isBody", "(I)Z"⟩, 59), (⟨"PennyALapModel", "running", "(II)I"⟩, 59), (⟨"PennyALapModel", "ran", "(I)V"⟩, 59), (⟨"PennyALapModel", "plainRuns", "(II)I"⟩, 59), (⟨"PennyALapModel", "prizeRuns", "(II)I"⟩, 59), (⟨"PennyALapModel", "owing", "(II)I"⟩, 59), (⟨"PennyALapModel", "sumOwes", "(II)I"⟩, 59)]
theorem lw_r5 : ∀ q ∈ lw_privs_5, lw_okq q := List.forall_mem_cons.mpr ⟨lw_p64, List.forall_mem_cons.mpr ⟨lw_p65, List.forall_mem_cons.mpr ⟨lw_p66, List.forall_mem_cons.mpr ⟨lw_p67, List.forall_mem_cons.mpr ⟨lw_p68, List.forall_mem_cons.mpr ⟨lw_p69, List.forall_mem_cons.mpr ⟨lw_p70, List.forall_mem_cons.mpr ⟨lw_p71, List.forall_mem_cons.mpr ⟨lw_p72, List.forall_mem_cons.mpr ⟨lw_p73, List.forall_mem_cons.mpr ⟨lw_p74, List.forall_mem_cons.mpr ⟨lw_p75, List.forall_mem_cons.mpr ⟨lw_p76, List.forall_mem_cons.mpr ⟨lw_p77, List.forall_mem_cons.mpr ⟨lw_p78, List.forall_mem_cons.mpr ⟨lw_p79, fun _ h => absurd h List.not_mem_nil⟩⟩⟩⟩⟩⟩⟩⟩⟩⟩⟩⟩⟩⟩⟩⟩
theorem lw_p80 : lw_okq (⟨"PennyALapModel", "plainOwes", "(II)I"⟩, 59) := ⟨⟨by decide +kernel, by decide +kernel⟩, List.mem_of_getElem? (i := 1018) (by decide +kernel), List.mem_of_getElem? (i := 1598) (by decide +kernel), List.mem_of_getElem? (i := 1599) (by decide +kernel)⟩
theorem lw_p81 : lw_okq (⟨"PennyALapModel", "paying", "(II)I"⟩, 59) := ⟨⟨by decide +kernel, by decide +kernel⟩, List.mem_of_getElem? (i := 1018) (by decide +kernel), List.mem_of_getElem? (i := 1602) (by decide +kernel), List.mem_of_getElem? (i := 1603) (by decide +kernel)⟩
theorem lw_p82 : lw_okq (⟨"PennyALapModel", "oakPays", "(II)I"⟩, 59) := ⟨⟨by decide +kernel, by decide +kernel⟩, List.mem_of_getElem? (i := 1018) (by decide +kernel), List.mem_of_getElem? (i := 1606) (by decide +kernel), List.mem_of_getElem? (i := 1607) (by decide +kernel)⟩
theorem lw_p83 : lw_okq (⟨"PennyALapModel", "plainPays", "(II)I"⟩, 59) := ⟨⟨by decide +kernel, by decide +kernel⟩, List.mem_of_getElem? (i := 1018) (by decide +kernel), List.mem_of_getElem? (i := 1610) (by decide +kernel), List.mem_of_getElem? (i := 1611) (by decide +kernel)⟩
theorem lw_p84 : lw_okq (⟨"PennyALapModel", "telling", "(II)I"⟩, 59) := ⟨⟨by decide +kernel, by decide +kernel⟩, List.mem_of_getElem? (i := 1018) (by decide +kernel), List.mem_of_getElem? (i := 1614) (by decide +kernel), List.mem_of_getElem? (i := 1615) (by decide +kernel)⟩
theorem lw_p85 : lw_okq (⟨"PennyALapModel", "plainTells", "(II)I"⟩, 59) := ⟨⟨by decide +kernel, by decide +kernel⟩, List.mem_of_getElem? (i := 1018) (by decide +kernel), List.mem_of_getElem? (i := 1618) (by decide +kernel), List.mem_of_getElem? (i := 1619) (by decide +kernel)⟩
theorem lw_p86 : lw_okq (⟨"PennyALapModel", "whyNoPlace", "(II)I"⟩, 59) := ⟨⟨by decide +kernel, by decide +kernel⟩, List.mem_of_getElem? (i := 1018) (by decide +kernel), List.mem_of_getElem? (i := 1638) (by decide +kernel), List.mem_of_getElem? (i := 1639) (by decide +kernel)⟩
def lw_privs_6 : List (MethodName × Nat) := [(⟨"PennyALapModel", "plainOwes", "(II)I"⟩, 59), (⟨"PennyALapModel", "paying", "(II)I"⟩, 59), (⟨"PennyALapModel", "oakPays", "(II)I"⟩, 59), (⟨"PennyALapModel", "plainPays", "(II)I"⟩, 59), (⟨"PennyALapModel", "telling", "(II)I"⟩, 59), (⟨"PennyALapModel", "plainTells", "(II)I"⟩, 59), (⟨"PennyALapModel", "whyNoPlace", "(II)I"⟩, 59)]
theorem lw_r6 : ∀ q ∈ lw_privs_6, lw_okq q := List.forall_mem_cons.mpr ⟨lw_p80, List.forall_mem_cons.mpr ⟨lw_p81, List.forall_mem_cons.mpr ⟨lw_p82, List.forall_mem_cons.mpr ⟨lw_p83, List.forall_mem_cons.mpr ⟨lw_p84, List.forall_mem_cons.mpr ⟨lw_p85, List.forall_mem_cons.mpr ⟨lw_p86, fun _ h => absurd h List.not_mem_nil⟩⟩⟩⟩⟩⟩⟩
def lw_privs : List (MethodName × Nat) := lw_privs_1 ++ (lw_privs_2 ++ (lw_privs_3 ++ (lw_privs_4 ++ (lw_privs_5 ++ (lw_privs_6)))))
def lw_tbl : List Cond := k2_sels lw_privs ++ tables_1
theorem lw_privs_ok : ∀ q ∈ lw_privs, lw_okq q := by
  show ∀ q ∈ lw_privs_1 ++ (lw_privs_2 ++ (lw_privs_3 ++ (lw_privs_4 ++ (lw_privs_5 ++ (lw_privs_6))))), lw_okq q
  exact List.forall_mem_append.mpr ⟨lw_r1, List.forall_mem_append.mpr ⟨lw_r2, List.forall_mem_append.mpr ⟨lw_r3, List.forall_mem_append.mpr ⟨lw_r4, List.forall_mem_append.mpr ⟨lw_r5, lw_r6⟩⟩⟩⟩⟩
end
section
/-! THE ENGINE: a plain machine over lists (cells are known by their places), run by equations; its soundness over W is the next part.
    An item: (pc, a simple instruction and three numbers) or (pc, an instruction that goes elsewhere, its kind, two numbers, a list). -/
abbrev kE : Type := (Nat × vp_A) ⊕ (Nat × List Value)
abbrev kH : Type := List kE
abbrev kL : Type := List (Option Value)
abbrev kR : Type := Option Value × kH
abbrev kIt : Type := Nat × ((Instr × Nat × Nat × Int) ⊕ (Instr × Nat × Nat × Nat × List (Int32 × Nat)))
abbrev kRo : Type := Nat → Option (Nat × (Nat → Int32))
def kLd (lv : kL) (i : Nat) : Option Value := match lv[i]? with
  | some (some v) => some v
  | _ => none
def kClr (lv : kL) (i : Nat) : kL := match i with
  | 0 => lv
  | j + 1 => match lv[j]? with
    | some (some (.long _)) => lv.set j none
    | some (some (.double _)) => lv.set j none
    | _ => lv
def kSt1 (lv : kL) (i : Nat) (v : Value) : kL := (kClr lv i).set i (some v)
def kSt2 (lv : kL) (i : Nat) (v : Value) : kL := ((kClr lv i).set i (some v)).set (i + 1) none
def kArr (hp : kH) (q t : Nat) : Option (Nat × (Nat → Int32)) := match hp[q]? with
  | some (.inl x) => if x.1 = t then (match x.2.2 with
    | .inl f => some (x.2.1, f)
    | _ => none) else none
  | _ => none
def kArrL (hp : kH) (q : Nat) : Option (Nat × (Nat → Int64)) := match hp[q]? with
  | some (.inl x) => if x.1 = 1 then (match x.2.2 with
    | .inr (.inl f) => some (x.2.1, f)
    | _ => none) else none
  | _ => none
def kObj (hp : kH) (q a : Nat) : Option (List Value) := match hp[q]? with
  | some (.inr o) => if o.1 = a then some o.2 else none
  | _ => none
def kRd (ro : kRo) (hp : kH) (q : Nat) : Option (Nat × (Nat → Int32)) := match ro q with
  | some x => some x
  | none => kArr hp q 0
def kLen (ro : kRo) (hp : kH) (q : Nat) : Option Nat := match ro q with
  | some x => some x.1
  | none => match hp[q]? with
    | some (.inl x) => if x.1 < 5 then some x.2.1 else none
    | _ => none
def kFit (z : Int) (v : Value) : Bool := match v with
  | .int x => z == 0 || (z == 1 && (x == 0 || x == 1))
  | .ref _ => z == 2
  | _ => false
def kBy (a : Nat) : FieldType := if a = 2 then .byte else .boolean
def kI1 (st : List Value) (f : Int32 → Value) : Option (List Value) := match st with
  | .int x :: r => some (f x :: r)
  | _ => none
def kI2 (st : List Value) (f : Int32 → Int32 → Value) : Option (List Value) := match st with
  | .int y :: .int x :: r => some (f x y :: r)
  | _ => none
def kJ2 (st : List Value) (f : Int64 → Int64 → Value) : Option (List Value) := match st with
  | .long y :: .long x :: r => some (f x y :: r)
  | _ => none
def kSi (lv : kL) (hp : kH) (o : Option (List Value)) : Option (kL × List Value × kH) := match o with
  | some s => some (lv, s, hp)
  | none => none
def kPi (lv : kL) (st : List Value) (hp : kH) (i : Nat) : Option (kL × List Value × kH) := match kLd lv i with
  | some (.int x) => some (lv, .int x :: st, hp)
  | _ => none
def kPl (lv : kL) (st : List Value) (hp : kH) (i : Nat) : Option (kL × List Value × kH) := match kLd lv i with
  | some (.long x) => some (lv, .long x :: st, hp)
  | _ => none
def kPa (lv : kL) (st : List Value) (hp : kH) (i : Nat) : Option (kL × List Value × kH) := match kLd lv i with
  | some (.ref x) => some (lv, .ref x :: st, hp)
  | _ => none
def kTi (lv : kL) (st : List Value) (hp : kH) (i : Nat) : Option (kL × List Value × kH) := match st with
  | .int x :: r => if i < lv.length then some (kSt1 lv i (.int x), r, hp) else none
  | _ => none
def kTa (lv : kL) (st : List Value) (hp : kH) (i : Nat) : Option (kL × List Value × kH) := match st with
  | .ref x :: r => if i < lv.length then some (kSt1 lv i (.ref x), r, hp) else none
  | _ => none
def kTl (lv : kL) (st : List Value) (hp : kH) (i : Nat) : Option (kL × List Value × kH) := match st with
  | .long x :: r => if i + 1 < lv.length then some (kSt2 lv i (.long x), r, hp) else none
  | _ => none
def kInc (lv : kL) (st : List Value) (hp : kH) (i : Nat) (n : Int) : Option (kL × List Value × kH) := match kLd lv i with
  | some (.int x) => some (kSt1 lv i (.int (x + Int32.ofInt n)), st, hp)
  | _ => none
def kDiv (lv : kL) (st : List Value) (hp : kH) (f : Int32 → Int32 → Int32) : Option (kL × List Value × kH) := match st with
  | .int y :: .int x :: r => if y = 0 then none else some (lv, .int (f x y) :: r, hp)
  | _ => none
def kDup (lv : kL) (st : List Value) (hp : kH) : Option (kL × List Value × kH) := match st with
  | v :: r => if v.category = 1 then some (lv, v :: v :: r, hp) else none
  | _ => none
def kPop (lv : kL) (st : List Value) (hp : kH) : Option (kL × List Value × kH) := match st with
  | v :: r => if v.category = 1 then some (lv, r, hp) else none
  | _ => none
def kDup2 (lv : kL) (st : List Value) (hp : kH) : Option (kL × List Value × kH) := match st with
  | v :: w :: r => if v.category = 1 ∧ w.category = 1 then some (lv, v :: w :: v :: w :: r, hp) else none
  | _ => none
def kGet (lv : kL) (st : List Value) (hp : kH) (a b : Nat) : Option (kL × List Value × kH) := match st with
  | .ref q :: r => match kObj hp q a with
    | some fs => match fs[b]? with
      | some v => some (lv, v :: r, hp)
      | none => none
    | none => none
  | _ => none
def kPut (lv : kL) (st : List Value) (hp : kH) (a b : Nat) (z : Int) : Option (kL × List Value × kH) := match st with
  | v :: .ref q :: r => match kObj hp q a with
    | some fs => if b < fs.length ∧ kFit z v = true then some (lv, r, hp.set q (.inr (a, fs.set b v))) else none
    | none => none
  | _ => none
def kAl (lv : kL) (st : List Value) (hp : kH) (ro : kRo) : Option (kL × List Value × kH) := match st with
  | .ref q :: r => match kLen ro hp q with
    | some n => some (lv, .int (Int32.ofNat n) :: r, hp)
    | none => none
  | _ => none
def kAi (lv : kL) (st : List Value) (hp : kH) (ro : kRo) : Option (kL × List Value × kH) := match st with
  | .int j :: .ref q :: r => match kRd ro hp q with
    | some x => if j < 0 ∨ x.1 ≤ j.toNatClampNeg then none else some (lv, .int (x.2 j.toNatClampNeg) :: r, hp)
    | none => none
  | _ => none
def kAt (lv : kL) (st : List Value) (hp : kH) (t : Nat) : Option (kL × List Value × kH) := match st with
  | .int j :: .ref q :: r => match kArr hp q t with
    | some x => if j < 0 ∨ x.1 ≤ j.toNatClampNeg then none else some (lv, .int (x.2 j.toNatClampNeg) :: r, hp)
    | none => none
  | _ => none
def kAj (lv : kL) (st : List Value) (hp : kH) : Option (kL × List Value × kH) := match st with
  | .int j :: .ref q :: r => match kArrL hp q with
    | some x => if j < 0 ∨ x.1 ≤ j.toNatClampNeg then none else some (lv, .long (x.2 j.toNatClampNeg) :: r, hp)
    | none => none
  | _ => none
def kBt (lv : kL) (st : List Value) (hp : kH) (t : Nat) (g : Int32 → Int32) : Option (kL × List Value × kH) := match st with
  | .int v :: .int j :: .ref q :: r => match kArr hp q t with
    | some x => if j < 0 ∨ x.1 ≤ j.toNatClampNeg then none else some (lv, r, hp.set q (.inl (t, x.1, .inl (upd x.2 j.toNatClampNeg (g v)))))
    | none => none
  | _ => none
def kBj (lv : kL) (st : List Value) (hp : kH) : Option (kL × List Value × kH) := match st with
  | .long v :: .int j :: .ref q :: r => match kArrL hp q with
    | some x => if j < 0 ∨ x.1 ≤ j.toNatClampNeg then none else some (lv, r, hp.set q (.inl (1, x.1, .inr (.inl (vp_updL x.2 j.toNatClampNeg v)))))
    | none => none
  | _ => none
def kMx (lv : kL) (st : List Value) (hp : kH) (f : Int32 → Int32 → Int32) : Option (kL × List Value × kH) := match st with
  | .int y :: .int x :: r => if r.length ≤ 4 then some (lv, .int (f x y) :: r, hp) else none
  | _ => none
def kCpI (lv : kL) (st : List Value) (hp : kH) : Option (kL × List Value × kH) := match st with
  | .int n :: .int dp :: .ref q1 :: .int sp :: .ref q0 :: r => match kArr hp q0 0, kArr hp q1 0 with
    | some x, some y => if r.length ≤ 4 ∧ ¬ sp < 0 ∧ ¬ dp < 0 ∧ ¬ n < 0 ∧ sp.toNatClampNeg + n.toNatClampNeg ≤ x.1 ∧ dp.toNatClampNeg + n.toNatClampNeg ≤ y.1 then some (lv, r, hp.set q1 (.inl (0, y.1, .inl (va_cpy x.2 y.2 sp.toNatClampNeg dp.toNatClampNeg n.toNatClampNeg)))) else none
    | _, _ => none
  | _ => none
def kCpL (lv : kL) (st : List Value) (hp : kH) : Option (kL × List Value × kH) := match st with
  | .int n :: .int dp :: .ref q1 :: .int sp :: .ref q0 :: r => match kArrL hp q0, kArrL hp q1 with
    | some x, some y => if r.length ≤ 4 ∧ ¬ sp < 0 ∧ ¬ dp < 0 ∧ ¬ n < 0 ∧ sp.toNatClampNeg + n.toNatClampNeg ≤ x.1 ∧ dp.toNatClampNeg + n.toNatClampNeg ≤ y.1 then some (lv, r, hp.set q1 (.inl (1, y.1, .inr (.inl (va_cpy x.2 y.2 sp.toNatClampNeg dp.toNatClampNeg n.toNatClampNeg))))) else none
    | _, _ => none
  | _ => none
def kNat (lv : kL) (st : List Value) (hp : kH) (a : Nat) : Option (kL × List Value × kH) :=
  if a = 1 then kMx lv st hp (fun x y => if x < y then y else x)
  else if a = 2 then kMx lv st hp (fun x y => if y < x then y else x)
  else if a = 3 then kCpI lv st hp
  else if a = 4 then kCpL lv st hp
  else none
def kS (ro : kRo) (i : Instr) (a b : Nat) (z : Int) (lv : kL) (st : List Value) (hp : kH) : Option (kL × List Value × kH) :=
  match i with
  | .iconst n => some (lv, .int (Int32.ofInt n) :: st, hp)
  | .bipush n => some (lv, .int (Int32.ofInt n) :: st, hp)
  | .sipush n => some (lv, .int (Int32.ofInt n) :: st, hp)
  | .lconst n => some (lv, .long (Int64.ofNat (n : Nat)) :: st, hp)
  | .ldc _ => some (lv, .int (Int32.ofInt z) :: st, hp)
  | .ldc_w _ => some (lv, .int (Int32.ofInt z) :: st, hp)
  | .ldc2_w _ => some (lv, .long (Int64.ofInt z) :: st, hp)
  | .iload_n k => kPi lv st hp k
  | .iload k => kPi lv st hp k
  | .lload_n k => kPl lv st hp k
  | .lload k => kPl lv st hp k
  | .aload_n k => kPa lv st hp k
  | .aload k => kPa lv st hp k
  | .istore_n k => kTi lv st hp k
  | .istore k => kTi lv st hp k
  | .astore_n k => kTa lv st hp k
  | .lstore k => kTl lv st hp k
  | .iinc k n => kInc lv st hp k n
  | .iadd => kSi lv hp (kI2 st (fun x y => .int (x + y)))
  | .isub => kSi lv hp (kI2 st (fun x y => .int (x - y)))
  | .imul => kSi lv hp (kI2 st (fun x y => .int (x * y)))
  | .iand => kSi lv hp (kI2 st (fun x y => .int (x &&& y)))
  | .ior => kSi lv hp (kI2 st (fun x y => .int (x ||| y)))
  | .ixor => kSi lv hp (kI2 st (fun x y => .int (x ^^^ y)))
  | .ishl => kSi lv hp (kI2 st (fun x y => .int (x <<< (y &&& 31))))
  | .iushr => kSi lv hp (kI2 st (fun x y => .int ((x.toUInt32 >>> (y.toUInt32 &&& Int32.toUInt32 31)).toInt32)))
  | .idiv => kDiv lv st hp (fun x y => x / y)
  | .irem => kDiv lv st hp (fun x y => x - x / y * y)
  | .ineg => kSi lv hp (kI1 st (fun x => .int (-x)))
  | .i2l => kSi lv hp (kI1 st (fun x => .long x.toInt64))
  | .i2b => kSi lv hp (kI1 st (fun x => .int x.toInt8.toInt32))
  | .i2s => kSi lv hp (kI1 st (fun x => .int x.toInt16.toInt32))
  | .l2i => (match st with
    | .long x :: r => some (lv, .int x.toInt32 :: r, hp)
    | _ => none)
  | .ladd => kSi lv hp (kJ2 st (fun x y => .long (x + y)))
  | .land => kSi lv hp (kJ2 st (fun x y => .long (x &&& y)))
  | .lor => kSi lv hp (kJ2 st (fun x y => .long (x ||| y)))
  | .lcmp => kSi lv hp (kJ2 st (fun x y => .int (lg_cmp x y)))
  | .lshl => (match st with
    | .int y :: .long x :: r => some (lv, .long (x <<< (y.toInt64 &&& 63)) :: r, hp)
    | _ => none)
  | .dup => kDup lv st hp
  | .pop => kPop lv st hp
  | .dup2 => kDup2 lv st hp
  | .getfield _ => kGet lv st hp a b
  | .putfield _ => kPut lv st hp a b z
  | .getstatic _ => some (lv, .ref a :: st, hp)
  | .arraylength => kAl lv st hp ro
  | .iaload => kAi lv st hp ro
  | .baload => kAt lv st hp a
  | .saload => kAt lv st hp 4
  | .laload => kAj lv st hp
  | .iastore => kBt lv st hp 0 (fun x => x)
  | .bastore => kBt lv st hp a (fun x => vp_nar (kBy a) x)
  | .sastore => kBt lv st hp 4 (fun x => vp_nar .short x)
  | .lastore => kBj lv st hp
  | .invokestatic _ => kNat lv st hp a
  | _ => none
def kCm (c : ClassFile.Cond) (x y : Int32) : Bool := match c with
  | .eq => decide (x = y)
  | .ne => decide (¬ x = y)
  | .lt => decide (x < y)
  | .ge => decide (y ≤ x)
  | .gt => decide (y < x)
  | .le => decide (x ≤ y)
def kCd (i : Instr) (st : List Value) : Option (Bool × List Value) := match i with
  | .ifCond c _ => (match st with
    | .int x :: r => some (kCm c x 0, r)
    | _ => none)
  | .if_icmp c _ => (match st with
    | .int y :: .int x :: r => some (kCm c x y, r)
    | _ => none)
  | _ => none
def kSw {α : Type} (k : Nat → α) (x : Int32) (d : Nat) : List (Int32 × Nat) → α
  | [] => k d
  | q :: r => if x = q.1 then k q.2 else kSw k x d r
def kRt (i : Instr) (a : Nat) (st : List Value) (hp : kH) : Option kR := match i with
  | .ireturn => (match st with
    | [.int x] => if a = 0 then some (some (.int x), hp) else if x = 0 ∨ x = 1 then some (some (.int x), hp) else none
    | _ => none)
  | .lreturn => (match st with
    | [.long x] => some (some (.long x), hp)
    | _ => none)
  | .return_ => (match st with
    | [] => some (none, hp)
    | _ => none)
  | _ => none
abbrev kEo : Type := Nat → List Value → kH → Option kR
abbrev kJo : Type := Nat → kL → List Value → kH → Option kR
def kX (ro : kRo) (E : kEo) (J : kJo) : List kIt → kL → List Value → kH → Option kR
  | [], _, _, _ => none
  | (_, .inl (i, a, b, z)) :: is, lv, st, hp => match kS ro i a b z lv st hp with
    | some w => kX ro E J is w.1 w.2.1 w.2.2
    | none => none
  | (_, .inr (i, k, a, b, sw)) :: is, lv, st, hp =>
    if k = 0 then (match kCd i st with
      | some w => if w.1 = true then J a lv w.2 hp else kX ro E J is lv w.2 hp
      | none => none)
    else if k = 1 then J a lv st hp
    else if k = 2 then (match st with
      | .int x :: r => kSw (fun t => J t lv r hp) x a sw
      | _ => none)
    else if k = 3 then kRt i a st hp
    else if k = 4 then (if b ≤ st.length ∧ st.length ≤ b + 4 then (match E a (st.take b).reverse hp with
      | some w => kX ro E J is lv (w.1.toList ++ st.drop b) w.2
      | none => none) else none)
    else none
/-- so many jumps of one method, its calls answered by E -/
def kG (ro : kRo) (blk : Nat → Nat → List kIt) (E : kEo) (m : Nat) : Nat → kJo
  | 0 => fun _ _ _ _ => none
  | n + 1 => fun l lv st hp => kX ro E (kG ro blk E m n) (blk m l) lv st hp
noncomputable def kU (ro : kRo) (blk : Nat → Nat → List kIt) (E : kEo) (m : Nat) : kJo := fun l lv st hp =>
  @dite _ (∃ r, ∃ n, kG ro blk E m n l lv st hp = some r) (Classical.propDecidable _) (fun h => some (Classical.choose h)) (fun _ => none)
def kEnt (n : Nat) (as : List Value) : kL := (fun l : kL => l ++ List.replicate (n - l.length) none) (as.flatMap fun v => if v.category = 2 then [some v, none] else [some v])
noncomputable def kD (ro : kRo) (blk : Nat → Nat → List kIt) (mx : Nat → Nat) : Nat → Nat → kJo
  | 0 => fun _ _ _ _ _ => none
  | d + 1 => fun m => kU ro blk (fun m' as hp => kD ro blk mx d m' 0 (kEnt (mx m') as) [] hp) m
/-- a call of a method, d calls deep at most -/
noncomputable def kM (ro : kRo) (blk : Nat → Nat → List kIt) (mx : Nat → Nat) (d : Nat) : kEo := fun m as hp => kD ro blk mx d m 0 (kEnt (mx m) as) [] hp
theorem kSw_mono {β : Type} {k k' : Nat → Option β} (h : ∀ t r, k t = some r → k' t = some r) (x : Int32) (d : Nat) : ∀ (sw : List (Int32 × Nat)) (r : β), kSw k x d sw = some r → kSw k' x d sw = some r
  | [], r, e => h _ _ e
  | q :: l, r, e => by
    unfold kSw at e ⊢
    split
    · rename_i hq; rw [if_pos hq] at e; exact h _ _ e
    · rename_i hq; rw [if_neg hq] at e; exact kSw_mono h x d l r e
theorem kX_mono {ro : kRo} {E E' : kEo} {J J' : kJo} (hE : ∀ m as hp r, E m as hp = some r → E' m as hp = some r) (hJ : ∀ t lv st hp r, J t lv st hp = some r → J' t lv st hp = some r) :
    ∀ (is : List kIt) (lv : kL) (st : List Value) (hp : kH) (r : kR), kX ro E J is lv st hp = some r → kX ro E' J' is lv st hp = some r
  | [], lv, st, hp, r, h => h
  | (_, .inl (i, a, b, z)) :: is, lv, st, hp, r, h => by
    unfold kX at h ⊢
    cases hs : kS ro i a b z lv st hp with
    | none => rw [hs] at h; cases h
    | some w =>
      rw [hs] at h
      exact kX_mono hE hJ is _ _ _ r h
  | (_, .inr (i, k, a, b, sw)) :: is, lv, st, hp, r, h => by
    unfold kX at h ⊢
    by_cases h0 : k = 0
    · rw [if_pos h0] at h ⊢
      cases hs : kCd i st with
      | none => rw [hs] at h; cases h
      | some w =>
        rw [hs] at h
        dsimp only at h ⊢
        by_cases hw : w.1 = true
        · rw [if_pos hw] at h ⊢; exact hJ _ _ _ _ _ h
        · rw [if_neg hw] at h ⊢; exact kX_mono hE hJ is _ _ _ r h
    · rw [if_neg h0] at h ⊢
      by_cases h1 : k = 1
      · rw [if_pos h1] at h ⊢; exact hJ _ _ _ _ _ h
      · rw [if_neg h1] at h ⊢
        by_cases h2 : k = 2
        · rw [if_pos h2] at h ⊢
          split at h
          · exact kSw_mono (fun t r => hJ t _ _ _ r) _ _ _ _ h
          · cases h
        · rw [if_neg h2] at h ⊢
          by_cases h3 : k = 3
          · rw [if_pos h3] at h ⊢; exact h
          · rw [if_neg h3] at h ⊢
            by_cases h4 : k = 4
            · rw [if_pos h4] at h ⊢
              by_cases hl : b ≤ st.length ∧ st.length ≤ b + 4
              · rw [if_pos hl] at h ⊢
                cases hs : E a (st.take b).reverse hp with
                | none => rw [hs] at h; cases h
                | some w =>
                  rw [hs] at h
                  rw [hE _ _ _ _ hs]
                  exact kX_mono hE hJ is _ _ _ r h
              · rw [if_neg hl] at h; cases h
            · rw [if_neg h4] at h; cases h
theorem kG_mono {ro : kRo} {blk : Nat → Nat → List kIt} {E : kEo} {m : Nat} : ∀ (n : Nat) (l : Nat) (lv : kL) (st : List Value) (hp : kH) (r : kR), kG ro blk E m n l lv st hp = some r → kG ro blk E m (n + 1) l lv st hp = some r
  | 0, l, lv, st, hp, r, h => by cases h
  | n + 1, l, lv, st, hp, r, h => kX_mono (fun _ _ _ _ h => h) (kG_mono n) _ _ _ _ _ h
theorem kG_le {ro : kRo} {blk : Nat → Nat → List kIt} {E : kEo} {m : Nat} {n l : Nat} {lv : kL} {st : List Value} {hp : kH} {r : kR} (h : kG ro blk E m n l lv st hp = some r) (k : Nat) : kG ro blk E m (n + k) l lv st hp = some r := by
  induction k with
  | zero => exact h
  | succ k ih => exact kG_mono _ _ _ _ _ _ ih
theorem kU_iff {ro : kRo} {blk : Nat → Nat → List kIt} {E : kEo} {m l : Nat} {lv : kL} {st : List Value} {hp : kH} {r : kR} : kU ro blk E m l lv st hp = some r ↔ ∃ n, kG ro blk E m n l lv st hp = some r := by
  unfold kU
  by_cases h : ∃ r, ∃ n, kG ro blk E m n l lv st hp = some r
  · rw [dif_pos h]
    obtain ⟨n, hn⟩ := Classical.choose_spec h
    constructor
    · intro e
      cases e
      exact ⟨n, hn⟩
    · rintro ⟨k, hk⟩
      have h1 := kG_le hn k
      have h2 := kG_le hk n
      rw [Nat.add_comm k n] at h2
      exact h1.symm.trans h2
  · rw [dif_neg h]
    constructor
    · intro e; cases e
    · rintro ⟨n, hn⟩
      exact absurd ⟨r, n, hn⟩ h
theorem kSw_fin {ro : kRo} {blk : Nat → Nat → List kIt} {E : kEo} {m : Nat} (lv : kL) (st : List Value) (hp : kH) (x : Int32) (d : Nat) : ∀ (sw : List (Int32 × Nat)) (r : kR), kSw (fun t => kU ro blk E m t lv st hp) x d sw = some r → ∃ n, kSw (fun t => kG ro blk E m n t lv st hp) x d sw = some r
  | [], r, e => kU_iff.mp e
  | q :: l, r, e => by
    unfold kSw at e ⊢
    split
    · rename_i hq; rw [if_pos hq] at e; exact kU_iff.mp e
    · rename_i hq; rw [if_neg hq] at e; exact kSw_fin lv st hp x d l r e
theorem kX_fin {ro : kRo} {blk : Nat → Nat → List kIt} {E : kEo} {m : Nat} :
    ∀ (is : List kIt) (lv : kL) (st : List Value) (hp : kH) (r : kR), kX ro E (kU ro blk E m) is lv st hp = some r → ∃ n, kX ro E (kG ro blk E m n) is lv st hp = some r
  | [], lv, st, hp, r, h => by cases h
  | (_, .inl (i, a, b, z)) :: is, lv, st, hp, r, h => by
    unfold kX at h ⊢
    cases hs : kS ro i a b z lv st hp with
    | none => rw [hs] at h; cases h
    | some w =>
      rw [hs] at h
      exact kX_fin is _ _ _ r h
  | (_, .inr (i, k, a, b, sw)) :: is, lv, st, hp, r, h => by
    unfold kX at h ⊢
    by_cases h0 : k = 0
    · simp only [if_pos h0] at h ⊢
      cases hs : kCd i st with
      | none => rw [hs] at h; cases h
      | some w =>
        rw [hs] at h
        dsimp only at h ⊢
        by_cases hw : w.1 = true
        · simp only [if_pos hw] at h ⊢; exact kU_iff.mp h
        · simp only [if_neg hw] at h ⊢; exact kX_fin is _ _ _ r h
    · simp only [if_neg h0] at h ⊢
      by_cases h1 : k = 1
      · simp only [if_pos h1] at h ⊢; exact kU_iff.mp h
      · simp only [if_neg h1] at h ⊢
        by_cases h2 : k = 2
        · simp only [if_pos h2] at h ⊢
          split at h
          · exact kSw_fin _ _ _ _ _ _ _ h
          · cases h
        · simp only [if_neg h2] at h ⊢
          by_cases h3 : k = 3
          · simp only [if_pos h3] at h ⊢; exact ⟨0, h⟩
          · simp only [if_neg h3] at h ⊢
            by_cases h4 : k = 4
            · simp only [if_pos h4] at h ⊢
              by_cases hl : b ≤ st.length ∧ st.length ≤ b + 4
              · simp only [if_pos hl] at h ⊢
                cases hs : E a (st.take b).reverse hp with
                | none => rw [hs] at h; cases h
                | some w =>
                  rw [hs] at h
                  exact kX_fin is _ _ _ r h
              · simp only [if_neg hl] at h; cases h
            · simp only [if_neg h4] at h; cases h
/-- a method's block runs by its own equation -/
theorem kU_eq (ro : kRo) (blk : Nat → Nat → List kIt) (E : kEo) (m l : Nat) (lv : kL) (st : List Value) (hp : kH) : kU ro blk E m l lv st hp = kX ro E (kU ro blk E m) (blk m l) lv st hp := by
  apply Option.ext
  intro r
  constructor
  · intro h
    obtain ⟨n, hn⟩ := kU_iff.mp h
    cases n with
    | zero => cases hn
    | succ n => exact kX_mono (fun _ _ _ _ h => h) (fun t lv st hp r h => kU_iff.mpr ⟨n, h⟩) _ _ _ _ _ hn
  · intro h
    obtain ⟨n, hn⟩ := kX_fin _ _ _ _ _ h
    exact kU_iff.mpr ⟨n + 1, hn⟩
theorem kD_eq (ro : kRo) (blk : Nat → Nat → List kIt) (mx : Nat → Nat) (d m l : Nat) (lv : kL) (st : List Value) (hp : kH) : kD ro blk mx (d + 1) m l lv st hp = kX ro (kM ro blk mx d) (kD ro blk mx (d + 1) m) (blk m l) lv st hp := kU_eq _ _ _ _ _ _ _ _
end
