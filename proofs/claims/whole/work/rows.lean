section
-- ===== PART A: goes FIRST, ahead of the names: the tables' words, and 'selects' of the private methods out of them =====
/-- a private method of a class that the tables say can be made, by its rows of tables_1 -/
def lw_okq (q : MethodName × Nat) : Prop := (q.1.cls ≠ "java/lang/invoke/MethodHandle" ∧ q.1.cls ≠ "java/lang/invoke/VarHandle") ∧ Cond.instantiable q.1.cls q.2 ∈ tables_1 ∧ Cond.privateMethod q.1 ∈ tables_1 ∧ Cond.instanceMethod q.1 ∈ tables_1
theorem lw_p0 : lw_okq (⟨"PennyALap", "sponsorsFromRow", "(III)I"⟩, 11) := ⟨⟨by decide +kernel, by decide +kernel⟩, List.mem_of_getElem? (i := 15) (by decide +kernel), List.mem_of_getElem? (i := 328) (by decide +kernel), List.mem_of_getElem? (i := 329) (by decide +kernel)⟩
theorem lw_p1 : lw_okq (⟨"PennyALap$Shelves", "isPlace", "(II)Z"⟩, 4) := ⟨⟨by decide +kernel, by decide +kernel⟩, List.mem_of_getElem? (i := 219) (by decide +kernel), List.mem_of_getElem? (i := 344) (by decide +kernel), List.mem_of_getElem? (i := 345) (by decide +kernel)⟩
theorem lw_p2 : lw_okq (⟨"PennyALap$Changes", "forgetOldest", "()V"⟩, 5) := ⟨⟨by decide +kernel, by decide +kernel⟩, List.mem_of_getElem? (i := 82) (by decide +kernel), List.mem_of_getElem? (i := 362) (by decide +kernel), List.mem_of_getElem? (i := 363) (by decide +kernel)⟩
theorem lw_p3 : lw_okq (⟨"PennyALap$Law", "readLines", "()I"⟩, 9) := ⟨⟨by decide +kernel, by decide +kernel⟩, List.mem_of_getElem? (i := 23) (by decide +kernel), List.mem_of_getElem? (i := 411) (by decide +kernel), List.mem_of_getElem? (i := 412) (by decide +kernel)⟩
theorem lw_p4 : lw_okq (⟨"PennyALap$Law", "readLine", "()Z"⟩, 9) := ⟨⟨by decide +kernel, by decide +kernel⟩, List.mem_of_getElem? (i := 23) (by decide +kernel), List.mem_of_getElem? (i := 415) (by decide +kernel), List.mem_of_getElem? (i := 416) (by decide +kernel)⟩
theorem lw_p5 : lw_okq (⟨"PennyALap$Law", "readJoined", "(II)Z"⟩, 9) := ⟨⟨by decide +kernel, by decide +kernel⟩, List.mem_of_getElem? (i := 23) (by decide +kernel), List.mem_of_getElem? (i := 419) (by decide +kernel), List.mem_of_getElem? (i := 420) (by decide +kernel)⟩
theorem lw_p6 : lw_okq (⟨"PennyALap$Law", "readOperand", "(I)Z"⟩, 9) := ⟨⟨by decide +kernel, by decide +kernel⟩, List.mem_of_getElem? (i := 23) (by decide +kernel), List.mem_of_getElem? (i := 423) (by decide +kernel), List.mem_of_getElem? (i := 424) (by decide +kernel)⟩
theorem lw_p7 : lw_okq (⟨"PennyALap$Law", "sign", "()I"⟩, 9) := ⟨⟨by decide +kernel, by decide +kernel⟩, List.mem_of_getElem? (i := 23) (by decide +kernel), List.mem_of_getElem? (i := 427) (by decide +kernel), List.mem_of_getElem? (i := 428) (by decide +kernel)⟩
theorem lw_p8 : lw_okq (⟨"PennyALap$Law", "readNumber", "()V"⟩, 9) := ⟨⟨by decide +kernel, by decide +kernel⟩, List.mem_of_getElem? (i := 23) (by decide +kernel), List.mem_of_getElem? (i := 434) (by decide +kernel), List.mem_of_getElem? (i := 435) (by decide +kernel)⟩
theorem lw_p9 : lw_okq (⟨"PennyALap$Law", "write", "(I)V"⟩, 9) := ⟨⟨by decide +kernel, by decide +kernel⟩, List.mem_of_getElem? (i := 23) (by decide +kernel), List.mem_of_getElem? (i := 438) (by decide +kernel), List.mem_of_getElem? (i := 439) (by decide +kernel)⟩
theorem lw_p10 : lw_okq (⟨"PennyALap$Law", "readClosing", "()Z"⟩, 9) := ⟨⟨by decide +kernel, by decide +kernel⟩, List.mem_of_getElem? (i := 23) (by decide +kernel), List.mem_of_getElem? (i := 445) (by decide +kernel), List.mem_of_getElem? (i := 446) (by decide +kernel)⟩
theorem lw_p11 : lw_okq (⟨"PennyALap$Plan", "weigh", "(I)V"⟩, 5) := ⟨⟨by decide +kernel, by decide +kernel⟩, List.mem_of_getElem? (i := 124) (by decide +kernel), List.mem_of_getElem? (i := 646) (by decide +kernel), List.mem_of_getElem? (i := 647) (by decide +kernel)⟩
theorem lw_p12 : lw_okq (⟨"PennyALap$Plan", "bestOf", "(II)I"⟩, 5) := ⟨⟨by decide +kernel, by decide +kernel⟩, List.mem_of_getElem? (i := 124) (by decide +kernel), List.mem_of_getElem? (i := 656) (by decide +kernel), List.mem_of_getElem? (i := 657) (by decide +kernel)⟩
theorem lw_p13 : lw_okq (⟨"PennyALap$Plan", "choose", "(I)V"⟩, 5) := ⟨⟨by decide +kernel, by decide +kernel⟩, List.mem_of_getElem? (i := 124) (by decide +kernel), List.mem_of_getElem? (i := 661) (by decide +kernel), List.mem_of_getElem? (i := 662) (by decide +kernel)⟩
theorem lw_p14 : lw_okq (⟨"PennyALap$Plan", "worthWith", "(III)I"⟩, 5) := ⟨⟨by decide +kernel, by decide +kernel⟩, List.mem_of_getElem? (i := 124) (by decide +kernel), List.mem_of_getElem? (i := 665) (by decide +kernel), List.mem_of_getElem? (i := 666) (by decide +kernel)⟩
theorem lw_p15 : lw_okq (⟨"PennyALap", "readReminders", "(II)V"⟩, 11) := ⟨⟨by decide +kernel, by decide +kernel⟩, List.mem_of_getElem? (i := 15) (by decide +kernel), List.mem_of_getElem? (i := 686) (by decide +kernel), List.mem_of_getElem? (i := 687) (by decide +kernel)⟩
def lw_privs_1 : List (MethodName × Nat) := [(⟨"PennyALap", "sponsorsFromRow", "(III)I"⟩, 11), (⟨"PennyALap$Shelves", "isPlace", "(II)Z"⟩, 4), (⟨"PennyALap$Changes", "forgetOldest", "()V"⟩, 5), (⟨"PennyALap$Law", "readLines", "()I"⟩, 9), (⟨"PennyALap$Law", "readLine", "()Z"⟩, 9), (⟨"PennyALap$Law", "readJoined", "(II)Z"⟩, 9), (⟨"PennyALap$Law", "readOperand", "(I)Z"⟩, 9), (⟨"PennyALap$Law", "sign", "()I"⟩, 9), (⟨"PennyALap$Law", "readNumber", "()V"⟩, 9), (⟨"PennyALap$Law", "write", "(I)V"⟩, 9), (⟨"PennyALap$Law", "readClosing", "()Z"⟩, 9), (⟨"PennyALap$Plan", "weigh", "(I)V"⟩, 5), (⟨"PennyALap$Plan", "bestOf", "(II)I"⟩, 5), (⟨"PennyALap$Plan", "choose", "(I)V"⟩, 5), (⟨"PennyALap$Plan", "worthWith", "(III)I"⟩, 5), (⟨"PennyALap", "readReminders", "(II)V"⟩, 11)]
theorem lw_r1 : ∀ q ∈ lw_privs_1, lw_okq q := List.forall_mem_cons.mpr ⟨lw_p0, List.forall_mem_cons.mpr ⟨lw_p1, List.forall_mem_cons.mpr ⟨lw_p2, List.forall_mem_cons.mpr ⟨lw_p3, List.forall_mem_cons.mpr ⟨lw_p4, List.forall_mem_cons.mpr ⟨lw_p5, List.forall_mem_cons.mpr ⟨lw_p6, List.forall_mem_cons.mpr ⟨lw_p7, List.forall_mem_cons.mpr ⟨lw_p8, List.forall_mem_cons.mpr ⟨lw_p9, List.forall_mem_cons.mpr ⟨lw_p10, List.forall_mem_cons.mpr ⟨lw_p11, List.forall_mem_cons.mpr ⟨lw_p12, List.forall_mem_cons.mpr ⟨lw_p13, List.forall_mem_cons.mpr ⟨lw_p14, List.forall_mem_cons.mpr ⟨lw_p15, fun _ h => absurd h List.not_mem_nil⟩⟩⟩⟩⟩⟩⟩⟩⟩⟩⟩⟩⟩⟩⟩⟩
theorem lw_p16 : lw_okq (⟨"PennyALap$Coming", "startWeeks", "()V"⟩, 5) := ⟨⟨by decide +kernel, by decide +kernel⟩, List.mem_of_getElem? (i := 146) (by decide +kernel), List.mem_of_getElem? (i := 706) (by decide +kernel), List.mem_of_getElem? (i := 707) (by decide +kernel)⟩
theorem lw_p17 : lw_okq (⟨"PennyALap$Coming", "comesIn", "(Z)I"⟩, 5) := ⟨⟨by decide +kernel, by decide +kernel⟩, List.mem_of_getElem? (i := 146) (by decide +kernel), List.mem_of_getElem? (i := 710) (by decide +kernel), List.mem_of_getElem? (i := 711) (by decide +kernel)⟩
theorem lw_p18 : lw_okq (⟨"PennyALap", "firstAmiss", "(I)I"⟩, 11) := ⟨⟨by decide +kernel, by decide +kernel⟩, List.mem_of_getElem? (i := 15) (by decide +kernel), List.mem_of_getElem? (i := 738) (by decide +kernel), List.mem_of_getElem? (i := 739) (by decide +kernel)⟩
theorem lw_p19 : lw_okq (⟨"PennyALap", "cheats", "(III)Z"⟩, 11) := ⟨⟨by decide +kernel, by decide +kernel⟩, List.mem_of_getElem? (i := 15) (by decide +kernel), List.mem_of_getElem? (i := 761) (by decide +kernel), List.mem_of_getElem? (i := 762) (by decide +kernel)⟩
theorem lw_p20 : lw_okq (⟨"PennyALap", "lapsSaid", "(II)I"⟩, 11) := ⟨⟨by decide +kernel, by decide +kernel⟩, List.mem_of_getElem? (i := 15) (by decide +kernel), List.mem_of_getElem? (i := 765) (by decide +kernel), List.mem_of_getElem? (i := 766) (by decide +kernel)⟩
theorem lw_p21 : lw_okq (⟨"PennyALap$Thought", "drawLaps", "(III)I"⟩, 4) := ⟨⟨by decide +kernel, by decide +kernel⟩, List.mem_of_getElem? (i := 104) (by decide +kernel), List.mem_of_getElem? (i := 778) (by decide +kernel), List.mem_of_getElem? (i := 779) (by decide +kernel)⟩
theorem lw_p22 : lw_okq (⟨"PennyALap$Bodies", "own", "(IIII)I"⟩, 4) := ⟨⟨by decide +kernel, by decide +kernel⟩, List.mem_of_getElem? (i := 200) (by decide +kernel), List.mem_of_getElem? (i := 891) (by decide +kernel), List.mem_of_getElem? (i := 892) (by decide +kernel)⟩
theorem lw_p23 : lw_okq (⟨"PennyALap$Bodies", "from", "(IIIII)I"⟩, 4) := ⟨⟨by decide +kernel, by decide +kernel⟩, List.mem_of_getElem? (i := 200) (by decide +kernel), List.mem_of_getElem? (i := 899) (by decide +kernel), List.mem_of_getElem? (i := 900) (by decide +kernel)⟩
theorem lw_p24 : lw_okq (⟨"PennyALap$Bodies", "perform", "(IIII)I"⟩, 4) := ⟨⟨by decide +kernel, by decide +kernel⟩, List.mem_of_getElem? (i := 200) (by decide +kernel), List.mem_of_getElem? (i := 908) (by decide +kernel), List.mem_of_getElem? (i := 909) (by decide +kernel)⟩
theorem lw_p25 : lw_okq (⟨"PennyALap$Bodies", "higher", "(IIIII)I"⟩, 4) := ⟨⟨by decide +kernel, by decide +kernel⟩, List.mem_of_getElem? (i := 200) (by decide +kernel), List.mem_of_getElem? (i := 912) (by decide +kernel), List.mem_of_getElem? (i := 913) (by decide +kernel)⟩
theorem lw_p26 : lw_okq (⟨"PennyALapModel", "isChild", "(I)Z"⟩, 59) := ⟨⟨by decide +kernel, by decide +kernel⟩, List.mem_of_getElem? (i := 1018) (by decide +kernel), List.mem_of_getElem? (i := 1214) (by decide +kernel), List.mem_of_getElem? (i := 1215) (by decide +kernel)⟩
theorem lw_p27 : lw_okq (⟨"PennyALapModel", "addSponsor", "(III)I"⟩, 59) := ⟨⟨by decide +kernel, by decide +kernel⟩, List.mem_of_getElem? (i := 1018) (by decide +kernel), List.mem_of_getElem? (i := 1218) (by decide +kernel), List.mem_of_getElem? (i := 1219) (by decide +kernel)⟩
theorem lw_p28 : lw_okq (⟨"PennyALapModel", "lays", "(III)V"⟩, 59) := ⟨⟨by decide +kernel, by decide +kernel⟩, List.mem_of_getElem? (i := 1018) (by decide +kernel), List.mem_of_getElem? (i := 1234) (by decide +kernel), List.mem_of_getElem? (i := 1235) (by decide +kernel)⟩
theorem lw_p29 : lw_okq (⟨"PennyALapModel", "isOne", "(II)Z"⟩, 59) := ⟨⟨by decide +kernel, by decide +kernel⟩, List.mem_of_getElem? (i := 1018) (by decide +kernel), List.mem_of_getElem? (i := 1246) (by decide +kernel), List.mem_of_getElem? (i := 1247) (by decide +kernel)⟩
theorem lw_p30 : lw_okq (⟨"PennyALapModel", "isSponsor", "(I)Z"⟩, 59) := ⟨⟨by decide +kernel, by decide +kernel⟩, List.mem_of_getElem? (i := 1018) (by decide +kernel), List.mem_of_getElem? (i := 1250) (by decide +kernel), List.mem_of_getElem? (i := 1251) (by decide +kernel)⟩
theorem lw_p31 : lw_okq (⟨"PennyALapModel", "changes", "(III)I"⟩, 59) := ⟨⟨by decide +kernel, by decide +kernel⟩, List.mem_of_getElem? (i := 1018) (by decide +kernel), List.mem_of_getElem? (i := 1257) (by decide +kernel), List.mem_of_getElem? (i := 1258) (by decide +kernel)⟩
def lw_privs_2 : List (MethodName × Nat) := [(⟨"PennyALap$Coming", "startWeeks", "()V"⟩, 5), (⟨"PennyALap$Coming", "comesIn", "(Z)I"⟩, 5), (⟨"PennyALap", "firstAmiss", "(I)I"⟩, 11), (⟨"PennyALap", "cheats", "(III)Z"⟩, 11), (⟨"PennyALap", "lapsSaid", "(II)I"⟩, 11), (⟨"PennyALap$Thought", "drawLaps", "(III)I"⟩, 4), (⟨"PennyALap$Bodies", "own", "(IIII)I"⟩, 4), (⟨"PennyALap$Bodies", "from", "(IIIII)I"⟩, 4), (⟨"PennyALap$Bodies", "perform", "(IIII)I"⟩, 4), (⟨"PennyALap$Bodies", "higher", "(IIIII)I"⟩, 4), (⟨"PennyALapModel", "isChild", "(I)Z"⟩, 59), (⟨"PennyALapModel", "addSponsor", "(III)I"⟩, 59), (⟨"PennyALapModel", "lays", "(III)V"⟩, 59), (⟨"PennyALapModel", "isOne", "(II)Z"⟩, 59), (⟨"PennyALapModel", "isSponsor", "(I)Z"⟩, 59), (⟨"PennyALapModel", "changes", "(III)I"⟩, 59)]
theorem lw_r2 : ∀ q ∈ lw_privs_2, lw_okq q := List.forall_mem_cons.mpr ⟨lw_p16, List.forall_mem_cons.mpr ⟨lw_p17, List.forall_mem_cons.mpr ⟨lw_p18, List.forall_mem_cons.mpr ⟨lw_p19, List.forall_mem_cons.mpr ⟨lw_p20, List.forall_mem_cons.mpr ⟨lw_p21, List.forall_mem_cons.mpr ⟨lw_p22, List.forall_mem_cons.mpr ⟨lw_p23, List.forall_mem_cons.mpr ⟨lw_p24, List.forall_mem_cons.mpr ⟨lw_p25, List.forall_mem_cons.mpr ⟨lw_p26, List.forall_mem_cons.mpr ⟨lw_p27, List.forall_mem_cons.mpr ⟨lw_p28, List.forall_mem_cons.mpr ⟨lw_p29, List.forall_mem_cons.mpr ⟨lw_p30, List.forall_mem_cons.mpr ⟨lw_p31, fun _ h => absurd h List.not_mem_nil⟩⟩⟩⟩⟩⟩⟩⟩⟩⟩⟩⟩⟩⟩⟩⟩
theorem lw_p32 : lw_okq (⟨"PennyALapModel", "valueAt", "(II)I"⟩, 59) := ⟨⟨by decide +kernel, by decide +kernel⟩, List.mem_of_getElem? (i := 1018) (by decide +kernel), List.mem_of_getElem? (i := 1261) (by decide +kernel), List.mem_of_getElem? (i := 1262) (by decide +kernel)⟩
theorem lw_p33 : lw_okq (⟨"PennyALapModel", "readText", "(I)I"⟩, 59) := ⟨⟨by decide +kernel, by decide +kernel⟩, List.mem_of_getElem? (i := 1018) (by decide +kernel), List.mem_of_getElem? (i := 1277) (by decide +kernel), List.mem_of_getElem? (i := 1278) (by decide +kernel)⟩
theorem lw_p34 : lw_okq (⟨"PennyALapModel", "line", "()V"⟩, 59) := ⟨⟨by decide +kernel, by decide +kernel⟩, List.mem_of_getElem? (i := 1018) (by decide +kernel), List.mem_of_getElem? (i := 1281) (by decide +kernel), List.mem_of_getElem? (i := 1282) (by decide +kernel)⟩
theorem lw_p35 : lw_okq (⟨"PennyALapModel", "either", "()V"⟩, 59) := ⟨⟨by decide +kernel, by decide +kernel⟩, List.mem_of_getElem? (i := 1018) (by decide +kernel), List.mem_of_getElem? (i := 1285) (by decide +kernel), List.mem_of_getElem? (i := 1286) (by decide +kernel)⟩
theorem lw_p36 : lw_okq (⟨"PennyALapModel", "both", "()V"⟩, 59) := ⟨⟨by decide +kernel, by decide +kernel⟩, List.mem_of_getElem? (i := 1018) (by decide +kernel), List.mem_of_getElem? (i := 1289) (by decide +kernel), List.mem_of_getElem? (i := 1290) (by decide +kernel)⟩
theorem lw_p37 : lw_okq (⟨"PennyALapModel", "compared", "()V"⟩, 59) := ⟨⟨by decide +kernel, by decide +kernel⟩, List.mem_of_getElem? (i := 1018) (by decide +kernel), List.mem_of_getElem? (i := 1293) (by decide +kernel), List.mem_of_getElem? (i := 1294) (by decide +kernel)⟩
theorem lw_p38 : lw_okq (⟨"PennyALapModel", "sum", "()V"⟩, 59) := ⟨⟨by decide +kernel, by decide +kernel⟩, List.mem_of_getElem? (i := 1018) (by decide +kernel), List.mem_of_getElem? (i := 1297) (by decide +kernel), List.mem_of_getElem? (i := 1298) (by decide +kernel)⟩
theorem lw_p39 : lw_okq (⟨"PennyALapModel", "product", "()V"⟩, 59) := ⟨⟨by decide +kernel, by decide +kernel⟩, List.mem_of_getElem? (i := 1018) (by decide +kernel), List.mem_of_getElem? (i := 1301) (by decide +kernel), List.mem_of_getElem? (i := 1302) (by decide +kernel)⟩
theorem lw_p40 : lw_okq (⟨"PennyALapModel", "operand", "()V"⟩, 59) := ⟨⟨by decide +kernel, by decide +kernel⟩, List.mem_of_getElem? (i := 1018) (by decide +kernel), List.mem_of_getElem? (i := 1305) (by decide +kernel), List.mem_of_getElem? (i := 1306) (by decide +kernel)⟩
theorem lw_p41 : lw_okq (⟨"PennyALapModel", "look", "()I"⟩, 59) := ⟨⟨by decide +kernel, by decide +kernel⟩, List.mem_of_getElem? (i := 1018) (by decide +kernel), List.mem_of_getElem? (i := 1309) (by decide +kernel), List.mem_of_getElem? (i := 1310) (by decide +kernel)⟩
theorem lw_p42 : lw_okq (⟨"PennyALapModel", "addStep", "(II)V"⟩, 59) := ⟨⟨by decide +kernel, by decide +kernel⟩, List.mem_of_getElem? (i := 1018) (by decide +kernel), List.mem_of_getElem? (i := 1316) (by decide +kernel), List.mem_of_getElem? (i := 1317) (by decide +kernel)⟩
theorem lw_p43 : lw_okq (⟨"PennyALapModel", "opens", "()Z"⟩, 59) := ⟨⟨by decide +kernel, by decide +kernel⟩, List.mem_of_getElem? (i := 1018) (by decide +kernel), List.mem_of_getElem? (i := 1320) (by decide +kernel), List.mem_of_getElem? (i := 1321) (by decide +kernel)⟩
theorem lw_p44 : lw_okq (⟨"PennyALapModel", "wrong", "()V"⟩, 59) := ⟨⟨by decide +kernel, by decide +kernel⟩, List.mem_of_getElem? (i := 1018) (by decide +kernel), List.mem_of_getElem? (i := 1324) (by decide +kernel), List.mem_of_getElem? (i := 1325) (by decide +kernel)⟩
theorem lw_p45 : lw_okq (⟨"PennyALapModel", "figure", "()V"⟩, 59) := ⟨⟨by decide +kernel, by decide +kernel⟩, List.mem_of_getElem? (i := 1018) (by decide +kernel), List.mem_of_getElem? (i := 1328) (by decide +kernel), List.mem_of_getElem? (i := 1329) (by decide +kernel)⟩
theorem lw_p46 : lw_okq (⟨"PennyALapModel", "lapOf", "(III)I"⟩, 59) := ⟨⟨by decide +kernel, by decide +kernel⟩, List.mem_of_getElem? (i := 1018) (by decide +kernel), List.mem_of_getElem? (i := 1336) (by decide +kernel), List.mem_of_getElem? (i := 1337) (by decide +kernel)⟩
theorem lw_p47 : lw_okq (⟨"PennyALapModel", "gives", "(I)I"⟩, 59) := ⟨⟨by decide +kernel, by decide +kernel⟩, List.mem_of_getElem? (i := 1018) (by decide +kernel), List.mem_of_getElem? (i := 1340) (by decide +kernel), List.mem_of_getElem? (i := 1341) (by decide +kernel)⟩
def lw_privs_3 : List (MethodName × Nat) := [(⟨"PennyALapModel", "valueAt", "(II)I"⟩, 59), (⟨"PennyALapModel", "readText", "(I)I"⟩, 59), (⟨"PennyALapModel", "line", "()V"⟩, 59), (⟨"PennyALapModel", "either", "()V"⟩, 59), (⟨"PennyALapModel", "both", "()V"⟩, 59), (⟨"PennyALapModel", "compared", "()V"⟩, 59), (⟨"PennyALapModel", "sum", "()V"⟩, 59), (⟨"PennyALapModel", "product", "()V"⟩, 59), (⟨"PennyALapModel", "operand", "()V"⟩, 59), (⟨"PennyALapModel", "look", "()I"⟩, 59), (⟨"PennyALapModel", "addStep", "(II)V"⟩, 59), (⟨"PennyALapModel", "opens", "()Z"⟩, 59), (⟨"PennyALapModel", "wrong", "()V"⟩, 59), (⟨"PennyALapModel", "figure", "()V"⟩, 59), (⟨"PennyALapModel", "lapOf", "(III)I"⟩, 59), (⟨"PennyALapModel", "gives", "(I)I"⟩, 59)]
theorem lw_r3 : ∀ q ∈ lw_privs_3, lw_okq q := List.forall_mem_cons.mpr ⟨lw_p32, List.forall_mem_cons.mpr ⟨lw_p33, List.forall_mem_cons.mpr ⟨lw_p34, List.forall_mem_cons.mpr ⟨lw_p35, List.forall_mem_cons.mpr ⟨lw_p36, List.forall_mem_cons.mpr ⟨lw_p37, List.forall_mem_cons.mpr ⟨lw_p38, List.forall_mem_cons.mpr ⟨lw_p39, List.forall_mem_cons.mpr ⟨lw_p40, List.forall_mem_cons.mpr ⟨lw_p41, List.forall_mem_cons.mpr ⟨lw_p42, List.forall_mem_cons.mpr ⟨lw_p43, List.forall_mem_cons.mpr ⟨lw_p44, List.forall_mem_cons.mpr ⟨lw_p45, List.forall_mem_cons.mpr ⟨lw_p46, List.forall_mem_cons.mpr ⟨lw_p47, fun _ h => absurd h List.not_mem_nil⟩⟩⟩⟩⟩⟩⟩⟩⟩⟩⟩⟩⟩⟩⟩⟩
theorem lw_p48 : lw_okq (⟨"PennyALapModel", "worked", "(III)I"⟩, 59) := ⟨⟨by decide +kernel, by decide +kernel⟩, List.mem_of_getElem? (i := 1018) (by decide +kernel), List.mem_of_getElem? (i := 1344) (by decide +kernel), List.mem_of_getElem? (i := 1345) (by decide +kernel)⟩
theorem lw_p49 : lw_okq (⟨"PennyALapModel", "minutesOf", "(II)I"⟩, 59) := ⟨⟨by decide +kernel, by decide +kernel⟩, List.mem_of_getElem? (i := 1018) (by decide +kernel), List.mem_of_getElem? (i := 1355) (by decide +kernel), List.mem_of_getElem? (i := 1356) (by decide +kernel)⟩
theorem lw_p50 : lw_okq (⟨"PennyALapModel", "owesOf", "(II)I"⟩, 59) := ⟨⟨by decide +kernel, by decide +kernel⟩, List.mem_of_getElem? (i := 1018) (by decide +kernel), List.mem_of_getElem? (i := 1363) (by decide +kernel), List.mem_of_getElem? (i := 1364) (by decide +kernel)⟩
theorem lw_p51 : lw_okq (⟨"PennyALapModel", "plainOf", "(II)I"⟩, 59) := ⟨⟨by decide +kernel, by decide +kernel⟩, List.mem_of_getElem? (i := 1018) (by decide +kernel), List.mem_of_getElem? (i := 1367) (by decide +kernel), List.mem_of_getElem? (i := 1368) (by decide +kernel)⟩
theorem lw_p52 : lw_okq (⟨"PennyALapModel", "paysOf", "(II)I"⟩, 59) := ⟨⟨by decide +kernel, by decide +kernel⟩, List.mem_of_getElem? (i := 1018) (by decide +kernel), List.mem_of_getElem? (i := 1371) (by decide +kernel), List.mem_of_getElem? (i := 1372) (by decide +kernel)⟩
theorem lw_p53 : lw_okq (⟨"PennyALapModel", "goTo", "(I)V"⟩, 59) := ⟨⟨by decide +kernel, by decide +kernel⟩, List.mem_of_getElem? (i := 1018) (by decide +kernel), List.mem_of_getElem? (i := 1382) (by decide +kernel), List.mem_of_getElem? (i := 1383) (by decide +kernel)⟩
theorem lw_p54 : lw_okq (⟨"PennyALapModel", "lapsBy", "(II)I"⟩, 59) := ⟨⟨by decide +kernel, by decide +kernel⟩, List.mem_of_getElem? (i := 1018) (by decide +kernel), List.mem_of_getElem? (i := 1386) (by decide +kernel), List.mem_of_getElem? (i := 1387) (by decide +kernel)⟩
theorem lw_p55 : lw_okq (⟨"PennyALapModel", "owedTo", "(II)I"⟩, 59) := ⟨⟨by decide +kernel, by decide +kernel⟩, List.mem_of_getElem? (i := 1018) (by decide +kernel), List.mem_of_getElem? (i := 1390) (by decide +kernel), List.mem_of_getElem? (i := 1391) (by decide +kernel)⟩
theorem lw_p56 : lw_okq (⟨"PennyALapModel", "paidTo", "(II)I"⟩, 59) := ⟨⟨by decide +kernel, by decide +kernel⟩, List.mem_of_getElem? (i := 1018) (by decide +kernel), List.mem_of_getElem? (i := 1394) (by decide +kernel), List.mem_of_getElem? (i := 1395) (by decide +kernel)⟩
theorem lw_p57 : lw_okq (⟨"PennyALapModel", "lapsAll", "()I"⟩, 59) := ⟨⟨by decide +kernel, by decide +kernel⟩, List.mem_of_getElem? (i := 1018) (by decide +kernel), List.mem_of_getElem? (i := 1398) (by decide +kernel), List.mem_of_getElem? (i := 1399) (by decide +kernel)⟩
theorem lw_p58 : lw_okq (⟨"PennyALapModel", "paidAll", "()I"⟩, 59) := ⟨⟨by decide +kernel, by decide +kernel⟩, List.mem_of_getElem? (i := 1018) (by decide +kernel), List.mem_of_getElem? (i := 1402) (by decide +kernel), List.mem_of_getElem? (i := 1403) (by decide +kernel)⟩
theorem lw_p59 : lw_okq (⟨"PennyALapModel", "mostLaps", "()I"⟩, 59) := ⟨⟨by decide +kernel, by decide +kernel⟩, List.mem_of_getElem? (i := 1018) (by decide +kernel), List.mem_of_getElem? (i := 1406) (by decide +kernel), List.mem_of_getElem? (i := 1407) (by decide +kernel)⟩
theorem lw_p60 : lw_okq (⟨"PennyALapModel", "surprised", "()I"⟩, 59) := ⟨⟨by decide +kernel, by decide +kernel⟩, List.mem_of_getElem? (i := 1018) (by decide +kernel), List.mem_of_getElem? (i := 1414) (by decide +kernel), List.mem_of_getElem? (i := 1415) (by decide +kernel)⟩
theorem lw_p61 : lw_okq (⟨"PennyALapModel", "mostPence", "()I"⟩, 59) := ⟨⟨by decide +kernel, by decide +kernel⟩, List.mem_of_getElem? (i := 1018) (by decide +kernel), List.mem_of_getElem? (i := 1418) (by decide +kernel), List.mem_of_getElem? (i := 1419) (by decide +kernel)⟩
theorem lw_p62 : lw_okq (⟨"PennyALapModel", "moreBy", "(II)I"⟩, 59) := ⟨⟨by decide +kernel, by decide +kernel⟩, List.mem_of_getElem? (i := 1018) (by decide +kernel), List.mem_of_getElem? (i := 1426) (by decide +kernel), List.mem_of_getElem? (i := 1427) (by decide +kernel)⟩
theorem lw_p63 : lw_okq (⟨"PennyALapModel", "partFrom", "(I)V"⟩, 59) := ⟨⟨by decide +kernel, by decide +kernel⟩, List.mem_of_getElem? (i := 1018) (by decide +kernel), List.mem_of_getElem? (i := 1451) (by decide +kernel), List.mem_of_getElem? (i := 1452) (by decide +kernel)⟩
def lw_privs_4 : List (MethodName × Nat) := [(⟨"PennyALapModel", "worked", "(III)I"⟩, 59), (⟨"PennyALapModel", "minutesOf", "(II)I"⟩, 59), (⟨"PennyALapModel", "owesOf", "(II)I"⟩, 59), (⟨"PennyALapModel", "plainOf", "(II)I"⟩, 59), (⟨"PennyALapModel", "paysOf", "(II)I"⟩, 59), (⟨"PennyALapModel", "goTo", "(I)V"⟩, 59), (⟨"PennyALapModel", "lapsBy", "(II)I"⟩, 59), (⟨"PennyALapModel", "owedTo", "(II)I"⟩, 59), (⟨"PennyALapModel", "paidTo", "(II)I"⟩, 59), (⟨"PennyALapModel", "lapsAll", "()I"⟩, 59), (⟨"PennyALapModel", "paidAll", "()I"⟩, 59), (⟨"PennyALapModel", "mostLaps", "()I"⟩, 59), (⟨"PennyALapModel", "surprised", "()I"⟩, 59), (⟨"PennyALapModel", "mostPence", "()I"⟩, 59), (⟨"PennyALapModel", "moreBy", "(II)I"⟩, 59), (⟨"PennyALapModel", "partFrom", "(I)V"⟩, 59)]
theorem lw_r4 : ∀ q ∈ lw_privs_4, lw_okq q := List.forall_mem_cons.mpr ⟨lw_p48, List.forall_mem_cons.mpr ⟨lw_p49, List.forall_mem_cons.mpr ⟨lw_p50, List.forall_mem_cons.mpr ⟨lw_p51, List.forall_mem_cons.mpr ⟨lw_p52, List.forall_mem_cons.mpr ⟨lw_p53, List.forall_mem_cons.mpr ⟨lw_p54, List.forall_mem_cons.mpr ⟨lw_p55, List.forall_mem_cons.mpr ⟨lw_p56, List.forall_mem_cons.mpr ⟨lw_p57, List.forall_mem_cons.mpr ⟨lw_p58, List.forall_mem_cons.mpr ⟨lw_p59, List.forall_mem_cons.mpr ⟨lw_p60, List.forall_mem_cons.mpr ⟨lw_p61, List.forall_mem_cons.mpr ⟨lw_p62, List.forall_mem_cons.mpr ⟨lw_p63, fun _ h => absurd h List.not_mem_nil⟩⟩⟩⟩⟩⟩⟩⟩⟩⟩⟩⟩⟩⟩⟩⟩
theorem lw_p64 : lw_okq (⟨"PennyALapModel", "rowFault", "(II)I"⟩, 59) := ⟨⟨by decide +kernel, by decide +kernel⟩, List.mem_of_getElem? (i := 1018) (by decide +kernel), List.mem_of_getElem? (i := 1462) (by decide +kernel), List.mem_of_getElem? (i := 1463) (by decide +kernel)⟩
theorem lw_p65 : lw_okq (⟨"PennyALapModel", "comesBy", "(IIII)I"⟩, 59) := ⟨⟨by decide +kernel, by decide +kernel⟩, List.mem_of_getElem? (i := 1018) (by decide +kernel), List.mem_of_getElem? (i := 1466) (by decide +kernel), List.mem_of_getElem? (i := 1467) (by decide +kernel)⟩
theorem lw_p66 : lw_okq (⟨"PennyALapModel", "beginRest", "(I)I"⟩, 59) := ⟨⟨by decide +kernel, by decide +kernel⟩, List.mem_of_getElem? (i := 1018) (by decide +kernel), List.mem_of_getElem? (i := 1470) (by decide +kernel), List.mem_of_getElem? (i := 1471) (by decide +kernel)⟩
theorem lw_p67 : lw_okq (⟨"PennyALapModel", "isTold", "(II)Z"⟩, 59) := ⟨⟨by decide +kernel, by decide +kernel⟩, List.mem_of_getElem? (i := 1018) (by decide +kernel), List.mem_of_getElem? (i := 1474) (by decide +kernel), List.mem_of_getElem? (i := 1475) (by decide +kernel)⟩
theorem lw_p68 : lw_okq (⟨"PennyALapModel", "at", "(II)I"⟩, 59) := ⟨⟨by decide +kernel, by decide +kernel⟩, List.mem_of_getElem? (i := 1018) (by decide +kernel), List.mem_of_getElem? (i := 1478) (by decide +kernel), List.mem_of_getElem? (i := 1479) (by decide +kernel)⟩
theorem lw_p69 : lw_okq (⟨"PennyALapModel", "weekComes", "(Z)I"⟩, 59) := ⟨⟨by decide +kernel, by decide +kernel⟩, List.mem_of_getElem? (i := 1018) (by decide +kernel), List.mem_of_getElem? (i := 1482) (by decide +kernel), List.mem_of_getElem? (i := 1483) (by decide +kernel)⟩
theorem lw_p70 : lw_okq (⟨"PennyALapModel", "wrongSheet", "(II)I"⟩, 59) := ⟨⟨by decide +kernel, by decide +kernel⟩, List.mem_of_getElem? (i := 1018) (by decide +kernel), List.mem_of_getElem? (i := 1498) (by decide +kernel), List.mem_of_getElem? (i := 1499) (by decide +kernel)⟩
theorem lw_p71 : lw_okq (⟨"PennyALapModel", "saidBy", "(II)I"⟩, 59) := ⟨⟨by decide +kernel, by decide +kernel⟩, List.mem_of_getElem? (i := 1018) (by decide +kernel), List.mem_of_getElem? (i := 1518) (by decide +kernel), List.mem_of_getElem? (i := 1519) (by decide +kernel)⟩
theorem lw_p72 : lw_okq (⟨"PennyALapModel", "drawnLaps", "(II)I"⟩, 59) := ⟨⟨by decide +kernel, by decide +kernel⟩, List.mem_of_getElem? (i := 1018) (by decide +kernel), List.mem_of_getElem? (i := 1526) (by decide +kernel), List.mem_of_getElem? (i := 1527) (by decide +kernel)⟩
theorem lw_p73 : lw_okq (⟨"PennyALapModel", "isBody", "(I)Z"⟩, 59) := ⟨⟨by decide +kernel, by decide +kernel⟩, List.mem_of_getElem? (i := 1018) (by decide +kernel), List.mem_of_getElem? (i := 1567) (by decide +kernel), List.mem_of_getElem? (i := 1568) (by decide +kernel)⟩
theorem lw_p74 : lw_okq (⟨"PennyALapModel", "running", "(II)I"⟩, 59) := ⟨⟨by decide +kernel, by decide +kernel⟩, List.mem_of_getElem? (i := 1018) (by decide +kernel), List.mem_of_getElem? (i := 1571) (by decide +kernel), List.mem_of_getElem? (i := 1572) (by decide +kernel)⟩
theorem lw_p75 : lw_okq (⟨"PennyALapModel", "ran", "(I)V"⟩, 59) := ⟨⟨by decide +kernel, by decide +kernel⟩, List.mem_of_getElem? (i := 1018) (by decide +kernel), List.mem_of_getElem? (i := 1578) (by decide +kernel), List.mem_of_getElem? (i := 1579) (by decide +kernel)⟩
theorem lw_p76 : lw_okq (⟨"PennyALapModel", "plainRuns", "(II)I"⟩, 59) := ⟨⟨by decide +kernel, by decide +kernel⟩, List.mem_of_getElem? (i := 1018) (by decide +kernel), List.mem_of_getElem? (i := 1582) (by decide +kernel), List.mem_of_getElem? (i := 1583) (by decide +kernel)⟩
theorem lw_p77 : lw_okq (⟨"PennyALapModel", "prizeRuns", "(II)I"⟩, 59) := ⟨⟨by decide +kernel, by decide +kernel⟩, List.mem_of_getElem? (i := 1018) (by decide +kernel), List.mem_of_getElem? (i := 1586) (by decide +kernel), List.mem_of_getElem? (i := 1587) (by decide +kernel)⟩
theorem lw_p78 : lw_okq (⟨"PennyALapModel", "owing", "(II)I"⟩, 59) := ⟨⟨by decide +kernel, by decide +kernel⟩, List.mem_of_getElem? (i := 1018) (by decide +kernel), List.mem_of_getElem? (i := 1590) (by decide +kernel), List.mem_of_getElem? (i := 1591) (by decide +kernel)⟩
theorem lw_p79 : lw_okq (⟨"PennyALapModel", "sumOwes", "(II)I"⟩, 59) := ⟨⟨by decide +kernel, by decide +kernel⟩, List.mem_of_getElem? (i := 1018) (by decide +kernel), List.mem_of_getElem? (i := 1594) (by decide +kernel), List.mem_of_getElem? (i := 1595) (by decide +kernel)⟩
def lw_privs_5 : List (MethodName × Nat) := [(⟨"PennyALapModel", "rowFault", "(II)I"⟩, 59), (⟨"PennyALapModel", "comesBy", "(IIII)I"⟩, 59), (⟨"PennyALapModel", "beginRest", "(I)I"⟩, 59), (⟨"PennyALapModel", "isTold", "(II)Z"⟩, 59), (⟨"PennyALapModel", "at", "(II)I"⟩, 59), (⟨"PennyALapModel", "weekComes", "(Z)I"⟩, 59), (⟨"PennyALapModel", "wrongSheet", "(II)I"⟩, 59), (⟨"PennyALapModel", "saidBy", "(II)I"⟩, 59), (⟨"PennyALapModel", "drawnLaps", "(II)I"⟩, 59), (⟨"PennyALapModel", "isBody", "(I)Z"⟩, 59), (⟨"PennyALapModel", "running", "(II)I"⟩, 59), (⟨"PennyALapModel", "ran", "(I)V"⟩, 59), (⟨"PennyALapModel", "plainRuns", "(II)I"⟩, 59), (⟨"PennyALapModel", "prizeRuns", "(II)I"⟩, 59), (⟨"PennyALapModel", "owing", "(II)I"⟩, 59), (⟨"PennyALapModel", "sumOwes", "(II)I"⟩, 59)]
theorem lw_r5 : ∀ q ∈ lw_privs_5, lw_okq q := List.forall_mem_cons.mpr ⟨lw_p64, List.forall_mem_cons.mpr ⟨lw_p65, List.forall_mem_cons.mpr ⟨lw_p66, List.forall_mem_cons.mpr ⟨lw_p67, List.forall_mem_cons.mpr ⟨lw_p68, List.forall_mem_cons.mpr ⟨lw_p69, List.forall_mem_cons.mpr ⟨lw_p70, List.forall_mem_cons.mpr ⟨lw_p71, List.forall_mem_cons.mpr ⟨lw_p72, List.forall_mem_cons.mpr ⟨lw_p73, List.forall_mem_cons.mpr ⟨lw_p74, List.forall_mem_cons.mpr ⟨lw_p75, List.forall_mem_cons.mpr ⟨lw_p76, List.forall_mem_cons.mpr ⟨lw_p77, List.forall_mem_cons.mpr ⟨lw_p78, List.forall_mem_cons.mpr ⟨lw_p79, fun _ h => absurd h List.not_mem_nil⟩⟩⟩⟩⟩⟩⟩⟩⟩⟩⟩⟩⟩⟩⟩⟩
theorem lw_p80 : lw_okq (⟨"PennyALapModel", "plainOwes", "(II)I"⟩, 59) := ⟨⟨by decide +kernel, by decide +kernel⟩, List.mem_of_getElem? (i := 1018) (by decide +kernel), List.mem_of_getElem? (i := 1598) (by decide +kernel), List.mem_of_getElem? (i := 1599) (by decide +kernel)⟩
theorem lw_p81 : lw_okq (⟨"PennyALapModel", "paying", "(II)I"⟩, 59) := ⟨⟨by decide +kernel, by decide +kernel⟩, List.mem_of_getElem? (i := 1018) (by decide +kernel), List.mem_of_getElem? (i := 1602) (by decide +kernel), List.mem_of_getElem? (i := 1603) (by decide +kernel)⟩
theorem lw_p82 : lw_okq (⟨"PennyALapModel", "oakPays", "(II)I"⟩, 59) := ⟨⟨by decide +kernel, by decide +kernel⟩, List.mem_of_getElem? (i := 1018) (by decide +kernel), List.mem_of_getElem? (i := 1606) (by decide +kernel), List.mem_of_getElem? (i := 1607) (by decide +kernel)⟩
theorem lw_p83 : lw_okq (⟨"PennyALapModel", "plainPays", "(II)I"⟩, 59) := ⟨⟨by decide +kernel, by decide +kernel⟩, List.mem_of_getElem? (i := 1018) (by decide +kernel), List.mem_of_getElem? (i := 1610) (by decide +kernel), List.mem_of_getElem? (i := 1611) (by decide +kernel)⟩
theorem lw_p84 : lw_okq (⟨"PennyALapModel", "telling", "(II)I"⟩, 59) := ⟨⟨by decide +kernel, by decide +kernel⟩, List.mem_of_getElem? (i := 1018) (by decide +kernel), List.mem_of_getElem? (i := 1614) (by decide +kernel), List.mem_of_getElem? (i := 1615) (by decide +kernel)⟩
theorem lw_p85 : lw_okq (⟨"PennyALapModel", "plainTells", "(II)I"⟩, 59) := ⟨⟨by decide +kernel, by decide +kernel⟩, List.mem_of_getElem? (i := 1018) (by decide +kernel), List.mem_of_getElem? (i := 1618) (by decide +kernel), List.mem_of_getElem? (i := 1619) (by decide +kernel)⟩
theorem lw_p86 : lw_okq (⟨"PennyALapModel", "whyNoPlace", "(II)I"⟩, 59) := ⟨⟨by decide +kernel, by decide +kernel⟩, List.mem_of_getElem? (i := 1018) (by decide +kernel), List.mem_of_getElem? (i := 1638) (by decide +kernel), List.mem_of_getElem? (i := 1639) (by decide +kernel)⟩
def lw_privs_6 : List (MethodName × Nat) := [(⟨"PennyALapModel", "plainOwes", "(II)I"⟩, 59), (⟨"PennyALapModel", "paying", "(II)I"⟩, 59), (⟨"PennyALapModel", "oakPays", "(II)I"⟩, 59), (⟨"PennyALapModel", "plainPays", "(II)I"⟩, 59), (⟨"PennyALapModel", "telling", "(II)I"⟩, 59), (⟨"PennyALapModel", "plainTells", "(II)I"⟩, 59), (⟨"PennyALapModel", "whyNoPlace", "(II)I"⟩, 59)]
theorem lw_r6 : ∀ q ∈ lw_privs_6, lw_okq q := List.forall_mem_cons.mpr ⟨lw_p80, List.forall_mem_cons.mpr ⟨lw_p81, List.forall_mem_cons.mpr ⟨lw_p82, List.forall_mem_cons.mpr ⟨lw_p83, List.forall_mem_cons.mpr ⟨lw_p84, List.forall_mem_cons.mpr ⟨lw_p85, List.forall_mem_cons.mpr ⟨lw_p86, fun _ h => absurd h List.not_mem_nil⟩⟩⟩⟩⟩⟩⟩
def lw_privs : List (MethodName × Nat) := lw_privs_1 ++ (lw_privs_2 ++ (lw_privs_3 ++ (lw_privs_4 ++ (lw_privs_5 ++ (lw_privs_6)))))
def lw_tbl : List Cond := k2_sels lw_privs ++ tables_1
theorem lw_privs_ok : ∀ q ∈ lw_privs, lw_okq q := by
  show ∀ q ∈ lw_privs_1 ++ (lw_privs_2 ++ (lw_privs_3 ++ (lw_privs_4 ++ (lw_privs_5 ++ (lw_privs_6))))), lw_okq q
  exact List.forall_mem_append.mpr ⟨lw_r1, List.forall_mem_append.mpr ⟨lw_r2, List.forall_mem_append.mpr ⟨lw_r3, List.forall_mem_append.mpr ⟨lw_r4, List.forall_mem_append.mpr ⟨lw_r5, lw_r6⟩⟩⟩⟩⟩
end
section
/-! THE ENGINE: a plain machine over lists (cells are known by their places), run by equations; its soundness over W is the next part.
    An item: (pc, a simple instruction and three numbers) or (pc, an instruction that goes elsewhere, its kind, two numbers, a list). -/
abbrev kE : Type := (Nat × vp_A) ⊕ (Nat × List Value)
abbrev kH : Type := List kE
abbrev kL : Type := List (Option Value)
abbrev kR : Type := Option Value × kH
abbrev kIt : Type := Nat × ((Instr × Nat × Nat × Int) ⊕ (Instr × Nat × Nat × Nat × List (Int32 × Nat)))
abbrev kRo : Type := Nat → Option (Nat × (Nat → Int32))
def kLd (lv : kL) (i : Nat) : Option Value := match lv[i]? with
  | some (some v) => some v
  | _ => none
def kClr (lv : kL) (i : Nat) : kL := match i with
  | 0 => lv
  | j + 1 => match lv[j]? with
    | some (some (.long _)) => lv.set j none
    | some (some (.double _)) => lv.set j none
    | _ => lv
def kSt1 (lv : kL) (i : Nat) (v : Value) : kL := (kClr lv i).set i (some v)
def kSt2 (lv : kL) (i : Nat) (v : Value) : kL := ((kClr lv i).set i (some v)).set (i + 1) none
def kArr (hp : kH) (q t : Nat) : Option (Nat × (Nat → Int32)) := match hp[q]? with
  | some (.inl x) => if x.1 = t then (match x.2.2 with
    | .inl f => some (x.2.1, f)
    | _ => none) else none
  | _ => none
def kArrL (hp : kH) (q : Nat) : Option (Nat × (Nat → Int64)) := match hp[q]? with
  | some (.inl x) => if x.1 = 1 then (match x.2.2 with
    | .inr (.inl f) => some (x.2.1, f)
    | _ => none) else none
  | _ => none
def kObj (hp : kH) (q a : Nat) : Option (List Value) := match hp[q]? with
  | some (.inr o) => if o.1 = a then some o.2 else none
  | _ => none
def kRd (ro : kRo) (hp : kH) (q : Nat) : Option (Nat × (Nat → Int32)) := match ro q with
  | some x => some x
  | none => kArr hp q 0
def kLen (ro : kRo) (hp : kH) (q : Nat) : Option Nat := match ro q with
  | some x => some x.1
  | none => match hp[q]? with
    | some (.inl x) => if x.1 < 5 then some x.2.1 else none
    | _ => none
def kFit (z : Int) (v : Value) : Bool := match v with
  | .int x => z == 0 || (z == 1 && (x == 0 || x == 1))
  | .ref _ => z == 2
  | _ => false
def kBy (a : Nat) : FieldType := if a = 2 then .byte else .boolean
def kI1 (st : List Value) (f : Int32 → Value) : Option (List Value) := match st with
  | .int x :: r => some (f x :: r)
  | _ => none
def kI2 (st : List Value) (f : Int32 → Int32 → Value) : Option (List Value) := match st with
  | .int y :: .int x :: r => some (f x y :: r)
  | _ => none
def kJ2 (st : List Value) (f : Int64 → Int64 → Value) : Option (List Value) := match st with
  | .long y :: .long x :: r => some (f x y :: r)
  | _ => none
def kSi (lv : kL) (hp : kH) (o : Option (List Value)) : Option (kL × List Value × kH) := match o with
  | some s => some (lv, s, hp)
  | none => none
def kPi (lv : kL) (st : List Value) (hp : kH) (i : Nat) : Option (kL × List Value × kH) := match kLd lv i with
  | some (.int x) => some (lv, .int x :: st, hp)
  | _ => none
def kPl (lv : kL) (st : List Value) (hp : kH) (i : Nat) : Option (kL × List Value × kH) := match kLd lv i with
  | some (.long x) => some (lv, .long x :: st, hp)
  | _ => none
def kPa (lv : kL) (st : List Value) (hp : kH) (i : Nat) : Option (kL × List Value × kH) := match kLd lv i with
  | some (.ref x) => some (lv, .ref x :: st, hp)
  | _ => none
def kTi (lv : kL) (st : List Value) (hp : kH) (i : Nat) : Option (kL × List Value × kH) := match st with
  | .int x :: r => if i < lv.length then some (kSt1 lv i (.int x), r, hp) else none
  | _ => none
def kTa (lv : kL) (st : List Value) (hp : kH) (i : Nat) : Option (kL × List Value × kH) := match st with
  | .ref x :: r => if i < lv.length then some (kSt1 lv i (.ref x), r, hp) else none
  | _ => none
def kTl (lv : kL) (st : List Value) (hp : kH) (i : Nat) : Option (kL × List Value × kH) := match st with
  | .long x :: r => if i + 1 < lv.length then some (kSt2 lv i (.long x), r, hp) else none
  | _ => none
def kInc (lv : kL) (st : List Value) (hp : kH) (i : Nat) (n : Int) : Option (kL × List Value × kH) := match kLd lv i with
  | some (.int x) => some (kSt1 lv i (.int (x + Int32.ofInt n)), st, hp)
  | _ => none
def kDiv (lv : kL) (st : List Value) (hp : kH) (f : Int32 → Int32 → Int32) : Option (kL × List Value × kH) := match st with
  | .int y :: .int x :: r => if y = 0 then none else some (lv, .int (f x y) :: r, hp)
  | _ => none
def kDup (lv : kL) (st : List Value) (hp : kH) : Option (kL × List Value × kH) := match st with
  | v :: r => if v.category = 1 then some (lv, v :: v :: r, hp) else none
  | _ => none
def kPop (lv : kL) (st : List Value) (hp : kH) : Option (kL × List Value × kH) := match st with
  | v :: r => if v.category = 1 then some (lv, r, hp) else none
  | _ => none
def kDup2 (lv : kL) (st : List Value) (hp : kH) : Option (kL × List Value × kH) := match st with
  | v :: w :: r => if v.category = 1 ∧ w.category = 1 then some (lv, v :: w :: v :: w :: r, hp) else none
  | _ => none
def kGet (lv : kL) (st : List Value) (hp : kH) (a b : Nat) : Option (kL × List Value × kH) := match st with
  | .ref q :: r => match kObj hp q a with
    | some fs => match fs[b]? with
      | some v => some (lv, v :: r, hp)
      | none => none
    | none => none
  | _ => none
def kPut (lv : kL) (st : List Value) (hp : kH) (a b : Nat) (z : Int) : Option (kL × List Value × kH) := match st with
  | v :: .ref q :: r => match kObj hp q a with
    | some fs => if b < fs.length ∧ kFit z v = true then some (lv, r, hp.set q (.inr (a, fs.set b v))) else none
    | none => none
  | _ => none
def kAl (lv : kL) (st : List Value) (hp : kH) (ro : kRo) : Option (kL × List Value × kH) := match st with
  | .ref q :: r => match kLen ro hp q with
    | some n => some (lv, .int (Int32.ofNat n) :: r, hp)
    | none => none
  | _ => none
def kAi (lv : kL) (st : List Value) (hp : kH) (ro : kRo) : Option (kL × List Value × kH) := match st with
  | .int j :: .ref q :: r => match kRd ro hp q with
    | some x => if j < 0 ∨ x.1 ≤ j.toNatClampNeg then none else some (lv, .int (x.2 j.toNatClampNeg) :: r, hp)
    | none => none
  | _ => none
def kAt (lv : kL) (st : List Value) (hp : kH) (t : Nat) : Option (kL × List Value × kH) := match st with
  | .int j :: .ref q :: r => match kArr hp q t with
    | some x => if j < 0 ∨ x.1 ≤ j.toNatClampNeg then none else some (lv, .int (x.2 j.toNatClampNeg) :: r, hp)
    | none => none
  | _ => none
def kAj (lv : kL) (st : List Value) (hp : kH) : Option (kL × List Value × kH) := match st with
  | .int j :: .ref q :: r => match kArrL hp q with
    | some x => if j < 0 ∨ x.1 ≤ j.toNatClampNeg then none else some (lv, .long (x.2 j.toNatClampNeg) :: r, hp)
    | none => none
  | _ => none
def kBt (lv : kL) (st : List Value) (hp : kH) (t : Nat) (g : Int32 → Int32) : Option (kL × List Value × kH) := match st with
  | .int v :: .int j :: .ref q :: r => match kArr hp q t with
    | some x => if j < 0 ∨ x.1 ≤ j.toNatClampNeg then none else some (lv, r, hp.set q (.inl (t, x.1, .inl (upd x.2 j.toNatClampNeg (g v)))))
    | none => none
  | _ => none
def kBj (lv : kL) (st : List Value) (hp : kH) : Option (kL × List Value × kH) := match st with
  | .long v :: .int j :: .ref q :: r => match kArrL hp q with
    | some x => if j < 0 ∨ x.1 ≤ j.toNatClampNeg then none else some (lv, r, hp.set q (.inl (1, x.1, .inr (.inl (vp_updL x.2 j.toNatClampNeg v)))))
    | none => none
  | _ => none
def kMx (lv : kL) (st : List Value) (hp : kH) (f : Int32 → Int32 → Int32) : Option (kL × List Value × kH) := match st with
  | .int y :: .int x :: r => if r.length ≤ 4 then some (lv, .int (f x y) :: r, hp) else none
  | _ => none
def kCpI (lv : kL) (st : List Value) (hp : kH) : Option (kL × List Value × kH) := match st with
  | .int n :: .int dp :: .ref q1 :: .int sp :: .ref q0 :: r => match kArr hp q0 0, kArr hp q1 0 with
    | some x, some y => if r.length ≤ 4 ∧ ¬ sp < 0 ∧ ¬ dp < 0 ∧ ¬ n < 0 ∧ sp.toNatClampNeg + n.toNatClampNeg ≤ x.1 ∧ dp.toNatClampNeg + n.toNatClampNeg ≤ y.1 then some (lv, r, hp.set q1 (.inl (0, y.1, .inl (va_cpy x.2 y.2 sp.toNatClampNeg dp.toNatClampNeg n.toNatClampNeg)))) else none
    | _, _ => none
  | _ => none
def kCpL (lv : kL) (st : List Value) (hp : kH) : Option (kL × List Value × kH) := match st with
  | .int n :: .int dp :: .ref q1 :: .int sp :: .ref q0 :: r => match kArrL hp q0, kArrL hp q1 with
    | some x, some y => if r.length ≤ 4 ∧ ¬ sp < 0 ∧ ¬ dp < 0 ∧ ¬ n < 0 ∧ sp.toNatClampNeg + n.toNatClampNeg ≤ x.1 ∧ dp.toNatClampNeg + n.toNatClampNeg ≤ y.1 then some (lv, r, hp.set q1 (.inl (1, y.1, .inr (.inl (va_cpy x.2 y.2 sp.toNatClampNeg dp.toNatClampNeg n.toNatClampNeg))))) else none
    | _, _ => none
  | _ => none
def kNat (lv : kL) (st : List Value) (hp : kH) (a : Nat) : Option (kL × List Value × kH) :=
  if a = 1 then kMx lv st hp (fun x y => if x < y then y else x)
  else if a = 2 then kMx lv st hp (fun x y => if y < x then y else x)
  else if a = 3 then kCpI lv st hp
  else if a = 4 then kCpL lv st hp
  else none
def kS (ro : kRo) (i : Instr) (a b : Nat) (z : Int) (lv : kL) (st : List Value) (hp : kH) : Option (kL × List Value × kH) :=
  match i with
  | .iconst n => some (lv, .int (Int32.ofInt n) :: st, hp)
  | .bipush n => some (lv, .int (Int32.ofInt n) :: st, hp)
  | .sipush n => some (lv, .int (Int32.ofInt n) :: st, hp)
  | .lconst n => some (lv, .long (Int64.ofNat (n : Nat)) :: st, hp)
  | .ldc _ => some (lv, .int (Int32.ofInt z) :: st, hp)
  | .ldc_w _ => some (lv, .int (Int32.ofInt z) :: st, hp)
  | .ldc2_w _ => some (lv, .long (Int64.ofInt z) :: st, hp)
  | .iload_n k => kPi lv st hp k
  | .iload k => kPi lv st hp k
  | .lload_n k => kPl lv st hp k
  | .lload k => kPl lv st hp k
  | .aload_n k => kPa lv st hp k
  | .aload k => kPa lv st hp k
  | .istore_n k => kTi lv st hp k
  | .istore k => kTi lv st hp k
  | .astore_n k => kTa lv st hp k
  | .lstore k => kTl lv st hp k
  | .iinc k n => kInc lv st hp k n
  | .iadd => kSi lv hp (kI2 st (fun x y => .int (x + y)))
  | .isub => kSi lv hp (kI2 st (fun x y => .int (x - y)))
  | .imul => kSi lv hp (kI2 st (fun x y => .int (x * y)))
  | .iand => kSi lv hp (kI2 st (fun x y => .int (x &&& y)))
  | .ior => kSi lv hp (kI2 st (fun x y => .int (x ||| y)))
  | .ixor => kSi lv hp (kI2 st (fun x y => .int (x ^^^ y)))
  | .ishl => kSi lv hp (kI2 st (fun x y => .int (x <<< (y &&& 31))))
  | .iushr => kSi lv hp (kI2 st (fun x y => .int ((x.toUInt32 >>> (y.toUInt32 &&& Int32.toUInt32 31)).toInt32)))
  | .idiv => kDiv lv st hp (fun x y => x / y)
  | .irem => kDiv lv st hp (fun x y => x - x / y * y)
  | .ineg => kSi lv hp (kI1 st (fun x => .int (-x)))
  | .i2l => kSi lv hp (kI1 st (fun x => .long x.toInt64))
  | .i2b => kSi lv hp (kI1 st (fun x => .int x.toInt8.toInt32))
  | .i2s => kSi lv hp (kI1 st (fun x => .int x.toInt16.toInt32))
  | .l2i => (match st with
    | .long x :: r => some (lv, .int x.toInt32 :: r, hp)
    | _ => none)
  | .ladd => kSi lv hp (kJ2 st (fun x y => .long (x + y)))
  | .land => kSi lv hp (kJ2 st (fun x y => .long (x &&& y)))
  | .lor => kSi lv hp (kJ2 st (fun x y => .long (x ||| y)))
  | .lcmp => kSi lv hp (kJ2 st (fun x y => .int (lg_cmp x y)))
  | .lshl => (match st with
    | .int y :: .long x :: r => some (lv, .long (x <<< (y.toInt64 &&& 63)) :: r, hp)
    | _ => none)
  | .dup => kDup lv st hp
  | .pop => kPop lv st hp
  | .dup2 => kDup2 lv st hp
  | .getfield _ => kGet lv st hp a b
  | .putfield _ => kPut lv st hp a b z
  | .getstatic _ => some (lv, .ref a :: st, hp)
  | .arraylength => kAl lv st hp ro
  | .iaload => kAi lv st hp ro
  | .baload => kAt lv st hp a
  | .saload => kAt lv st hp 4
  | .laload => kAj lv st hp
  | .iastore => kBt lv st hp 0 (fun x => x)
  | .bastore => kBt lv st hp a (fun x => vp_nar (kBy a) x)
  | .sastore => kBt lv st hp 4 (fun x => vp_nar .short x)
  | .lastore => kBj lv st hp
  | .invokestatic _ => kNat lv st hp a
  | _ => none
def kCm (c : ClassFile.Cond) (x y : Int32) : Bool := match c with
  | .eq => decide (x = y)
  | .ne => decide (¬ x = y)
  | .lt => decide (x < y)
  | .ge => decide (y ≤ x)
  | .gt => decide (y < x)
  | .le => decide (x ≤ y)
def kCd (i : Instr) (st : List Value) : Option (Bool × List Value) := match i with
  | .ifCond c _ => (match st with
    | .int x :: r => some (kCm c x 0, r)
    | _ => none)
  | .if_icmp c _ => (match st with
    | .int y :: .int x :: r => some (kCm c x y, r)
    | _ => none)
  | _ => none
def kSw {α : Type} (k : Nat → α) (x : Int32) (d : Nat) : List (Int32 × Nat) → α
  | [] => k d
  | q :: r => if x = q.1 then k q.2 else kSw k x d r
def kRt (i : Instr) (a : Nat) (st : List Value) (hp : kH) : Option kR := match i with
  | .ireturn => (match st with
    | [.int x] => if a = 0 then some (some (.int x), hp) else if x = 0 ∨ x = 1 then some (some (.int x), hp) else none
    | _ => none)
  | .lreturn => (match st with
    | [.long x] => some (some (.long x), hp)
    | _ => none)
  | .return_ => (match st with
    | [] => some (none, hp)
    | _ => none)
  | _ => none
abbrev kEo : Type := Nat → List Value → kH → Option kR
abbrev kJo : Type := Nat → kL → List Value → kH → Option kR
def kX (ro : kRo) (E : kEo) (J : kJo) : List kIt → kL → List Value → kH → Option kR
  | [], _, _, _ => none
  | (_, .inl (i, a, b, z)) :: is, lv, st, hp => match kS ro i a b z lv st hp with
    | some w => kX ro E J is w.1 w.2.1 w.2.2
    | none => none
  | (_, .inr (i, k, a, b, sw)) :: is, lv, st, hp =>
    if k = 0 then (match kCd i st with
      | some w => if w.1 = true then J a lv w.2 hp else kX ro E J is lv w.2 hp
      | none => none)
    else if k = 1 then J a lv st hp
    else if k = 2 then (match st with
      | .int x :: r => kSw (fun t => J t lv r hp) x a sw
      | _ => none)
    else if k = 3 then kRt i a st hp
    else if k = 4 then (if b ≤ st.length ∧ st.length ≤ b + 4 then (match E a (st.take b).reverse hp with
      | some w => kX ro E J is lv (w.1.toList ++ st.drop b) w.2
      | none => none) else none)
    else none
/-- so many jumps of one method, its calls answered by E -/
def kG (ro : kRo) (blk : Nat → Nat → List kIt) (E : kEo) (m : Nat) : Nat → kJo
  | 0 => fun _ _ _ _ => none
  | n + 1 => fun l lv st hp => kX ro E (kG ro blk E m n) (blk m l) lv st hp
noncomputable def kU (ro : kRo) (blk : Nat → Nat → List kIt) (E : kEo) (m : Nat) : kJo := fun l lv st hp =>
  @dite _ (∃ r, ∃ n, kG ro blk E m n l lv st hp = some r) (Classical.propDecidable _) (fun h => some (Classical.choose h)) (fun _ => none)
def kEnt (n : Nat) (as : List Value) : kL := (fun l : kL => l ++ List.replicate (n - l.length) none) (as.flatMap fun v => if v.category = 2 then [some v, none] else [some v])
def kRc (o : Option Nat) (as : List Value) (hp : kH) : Bool := match o with
  | none => true
  | some ci => match as with
    | .ref q :: _ => (kObj hp q ci).isSome
    | _ => false
/-- a call enters its method if the arguments fit and the receiver is of its sort -/
def kMof (mx : Nat → Nat) (rc : Nat → Option Nat) (B : Nat → kJo) : kEo := fun m as hp => if (kEnt (mx m) as).length = mx m ∧ kRc (rc m) as hp = true then B m 0 (kEnt (mx m) as) [] hp else none
noncomputable def kD (ro : kRo) (blk : Nat → Nat → List kIt) (mx : Nat → Nat) (rc : Nat → Option Nat) : Nat → Nat → kJo
  | 0 => fun _ _ _ _ _ => none
  | d + 1 => fun m => kU ro blk (kMof mx rc (kD ro blk mx rc d)) m
/-- a call of a method, d calls deep at most -/
noncomputable def kM (ro : kRo) (blk : Nat → Nat → List kIt) (mx : Nat → Nat) (rc : Nat → Option Nat) (d : Nat) : kEo := kMof mx rc (kD ro blk mx rc d)
theorem kSw_mono {β : Type} {k k' : Nat → Option β} (h : ∀ t r, k t = some r → k' t = some r) (x : Int32) (d : Nat) : ∀ (sw : List (Int32 × Nat)) (r : β), kSw k x d sw = some r → kSw k' x d sw = some r
  | [], r, e => h _ _ e
  | q :: l, r, e => by
    unfold kSw at e ⊢
    split
    · rename_i hq; rw [if_pos hq] at e; exact h _ _ e
    · rename_i hq; rw [if_neg hq] at e; exact kSw_mono h x d l r e
theorem kX_mono {ro : kRo} {E E' : kEo} {J J' : kJo} (hE : ∀ m as hp r, E m as hp = some r → E' m as hp = some r) (hJ : ∀ t lv st hp r, J t lv st hp = some r → J' t lv st hp = some r) :
    ∀ (is : List kIt) (lv : kL) (st : List Value) (hp : kH) (r : kR), kX ro E J is lv st hp = some r → kX ro E' J' is lv st hp = some r
  | [], lv, st, hp, r, h => h
  | (_, .inl (i, a, b, z)) :: is, lv, st, hp, r, h => by
    unfold kX at h ⊢
    cases hs : kS ro i a b z lv st hp with
    | none => rw [hs] at h; cases h
    | some w =>
      rw [hs] at h
      exact kX_mono hE hJ is _ _ _ r h
  | (_, .inr (i, k, a, b, sw)) :: is, lv, st, hp, r, h => by
    unfold kX at h ⊢
    by_cases h0 : k = 0
    · rw [if_pos h0] at h ⊢
      cases hs : kCd i st with
      | none => rw [hs] at h; cases h
      | some w =>
        rw [hs] at h
        dsimp only at h ⊢
        by_cases hw : w.1 = true
        · rw [if_pos hw] at h ⊢; exact hJ _ _ _ _ _ h
        · rw [if_neg hw] at h ⊢; exact kX_mono hE hJ is _ _ _ r h
    · rw [if_neg h0] at h ⊢
      by_cases h1 : k = 1
      · rw [if_pos h1] at h ⊢; exact hJ _ _ _ _ _ h
      · rw [if_neg h1] at h ⊢
        by_cases h2 : k = 2
        · rw [if_pos h2] at h ⊢
          split at h
          · exact kSw_mono (fun t r => hJ t _ _ _ r) _ _ _ _ h
          · cases h
        · rw [if_neg h2] at h ⊢
          by_cases h3 : k = 3
          · rw [if_pos h3] at h ⊢; exact h
          · rw [if_neg h3] at h ⊢
            by_cases h4 : k = 4
            · rw [if_pos h4] at h ⊢
              by_cases hl : b ≤ st.length ∧ st.length ≤ b + 4
              · rw [if_pos hl] at h ⊢
                cases hs : E a (st.take b).reverse hp with
                | none => rw [hs] at h; cases h
                | some w =>
                  rw [hs] at h
                  rw [hE _ _ _ _ hs]
                  exact kX_mono hE hJ is _ _ _ r h
              · rw [if_neg hl] at h; cases h
            · rw [if_neg h4] at h; cases h
theorem kG_mono {ro : kRo} {blk : Nat → Nat → List kIt} {E : kEo} {m : Nat} : ∀ (n : Nat) (l : Nat) (lv : kL) (st : List Value) (hp : kH) (r : kR), kG ro blk E m n l lv st hp = some r → kG ro blk E m (n + 1) l lv st hp = some r
  | 0, l, lv, st, hp, r, h => by cases h
  | n + 1, l, lv, st, hp, r, h => kX_mono (fun _ _ _ _ h => h) (kG_mono n) _ _ _ _ _ h
theorem kG_le {ro : kRo} {blk : Nat → Nat → List kIt} {E : kEo} {m : Nat} {n l : Nat} {lv : kL} {st : List Value} {hp : kH} {r : kR} (h : kG ro blk E m n l lv st hp = some r) (k : Nat) : kG ro blk E m (n + k) l lv st hp = some r := by
  induction k with
  | zero => exact h
  | succ k ih => exact kG_mono _ _ _ _ _ _ ih
theorem kU_iff {ro : kRo} {blk : Nat → Nat → List kIt} {E : kEo} {m l : Nat} {lv : kL} {st : List Value} {hp : kH} {r : kR} : kU ro blk E m l lv st hp = some r ↔ ∃ n, kG ro blk E m n l lv st hp = some r := by
  unfold kU
  by_cases h : ∃ r, ∃ n, kG ro blk E m n l lv st hp = some r
  · rw [dif_pos h]
    obtain ⟨n, hn⟩ := Classical.choose_spec h
    constructor
    · intro e
      cases e
      exact ⟨n, hn⟩
    · rintro ⟨k, hk⟩
      have h1 := kG_le hn k
      have h2 := kG_le hk n
      rw [Nat.add_comm k n] at h2
      exact h1.symm.trans h2
  · rw [dif_neg h]
    constructor
    · intro e; cases e
    · rintro ⟨n, hn⟩
      exact absurd ⟨r, n, hn⟩ h
theorem kSw_fin {ro : kRo} {blk : Nat → Nat → List kIt} {E : kEo} {m : Nat} (lv : kL) (st : List Value) (hp : kH) (x : Int32) (d : Nat) : ∀ (sw : List (Int32 × Nat)) (r : kR), kSw (fun t => kU ro blk E m t lv st hp) x d sw = some r → ∃ n, kSw (fun t => kG ro blk E m n t lv st hp) x d sw = some r
  | [], r, e => kU_iff.mp e
  | q :: l, r, e => by
    unfold kSw at e ⊢
    split
    · rename_i hq; rw [if_pos hq] at e; exact kU_iff.mp e
    · rename_i hq; rw [if_neg hq] at e; exact kSw_fin lv st hp x d l r e
theorem kX_fin {ro : kRo} {blk : Nat → Nat → List kIt} {E : kEo} {m : Nat} :
    ∀ (is : List kIt) (lv : kL) (st : List Value) (hp : kH) (r : kR), kX ro E (kU ro blk E m) is lv st hp = some r → ∃ n, kX ro E (kG ro blk E m n) is lv st hp = some r
  | [], lv, st, hp, r, h => by cases h
  | (_, .inl (i, a, b, z)) :: is, lv, st, hp, r, h => by
    unfold kX at h ⊢
    cases hs : kS ro i a b z lv st hp with
    | none => rw [hs] at h; cases h
    | some w =>
      rw [hs] at h
      exact kX_fin is _ _ _ r h
  | (_, .inr (i, k, a, b, sw)) :: is, lv, st, hp, r, h => by
    unfold kX at h ⊢
    by_cases h0 : k = 0
    · simp only [if_pos h0] at h ⊢
      cases hs : kCd i st with
      | none => rw [hs] at h; cases h
      | some w =>
        rw [hs] at h
        dsimp only at h ⊢
        by_cases hw : w.1 = true
        · simp only [if_pos hw] at h ⊢; exact kU_iff.mp h
        · simp only [if_neg hw] at h ⊢; exact kX_fin is _ _ _ r h
    · simp only [if_neg h0] at h ⊢
      by_cases h1 : k = 1
      · simp only [if_pos h1] at h ⊢; exact kU_iff.mp h
      · simp only [if_neg h1] at h ⊢
        by_cases h2 : k = 2
        · simp only [if_pos h2] at h ⊢
          split at h
          · exact kSw_fin _ _ _ _ _ _ _ h
          · cases h
        · simp only [if_neg h2] at h ⊢
          by_cases h3 : k = 3
          · simp only [if_pos h3] at h ⊢; exact ⟨0, h⟩
          · simp only [if_neg h3] at h ⊢
            by_cases h4 : k = 4
            · simp only [if_pos h4] at h ⊢
              by_cases hl : b ≤ st.length ∧ st.length ≤ b + 4
              · simp only [if_pos hl] at h ⊢
                cases hs : E a (st.take b).reverse hp with
                | none => rw [hs] at h; cases h
                | some w =>
                  rw [hs] at h
                  exact kX_fin is _ _ _ r h
              · simp only [if_neg hl] at h; cases h
            · simp only [if_neg h4] at h; cases h
/-- a method's block runs by its own equation -/
theorem kU_eq (ro : kRo) (blk : Nat → Nat → List kIt) (E : kEo) (m l : Nat) (lv : kL) (st : List Value) (hp : kH) : kU ro blk E m l lv st hp = kX ro E (kU ro blk E m) (blk m l) lv st hp := by
  apply Option.ext
  intro r
  constructor
  · intro h
    obtain ⟨n, hn⟩ := kU_iff.mp h
    cases n with
    | zero => cases hn
    | succ n => exact kX_mono (fun _ _ _ _ h => h) (fun t lv st hp r h => kU_iff.mpr ⟨n, h⟩) _ _ _ _ _ hn
  · intro h
    obtain ⟨n, hn⟩ := kX_fin _ _ _ _ _ h
    exact kU_iff.mpr ⟨n + 1, hn⟩
theorem kD_eq (ro : kRo) (blk : Nat → Nat → List kIt) (mx : Nat → Nat) (rc : Nat → Option Nat) (d m l : Nat) (lv : kL) (st : List Value) (hp : kH) : kD ro blk mx rc (d + 1) m l lv st hp = kX ro (kM ro blk mx rc d) (kD ro blk mx rc (d + 1) m) (blk m l) lv st hp := kU_eq _ _ _ _ _ _ _ _
end
section
/-! THE ENGINE IS SOUND, simple instructions: what it does to the lists, the machine does to its heap -/
def kV (ad : Nat → Nat) (v : Value) : Value := match v with
  | .ref a => .ref (ad a)
  | v => v
def kC (tc : Nat → ClassId) (ad : Nat → Nat) (e : kE) : va_E := match e with
  | .inl x => .inl (tc x.1, x.2)
  | .inr o => .inr (o.1, o.2.map (kV ad))
def kW (tc : Nat → ClassId) (ad : Nat → Nat) : Nat → kH → va_W
  | _, [] => []
  | i, e :: r => (ad i, kC tc ad e) :: kW tc ad (i + 1) r
theorem kW_get (tc : Nat → ClassId) (ad : Nat → Nat) : ∀ (hp : kH) (i0 i : Nat), (kW tc ad i0 hp)[i]? = (hp[i]?).map (fun e => (ad (i0 + i), kC tc ad e))
  | [], i0, i => by simp [kW]
  | e :: r, i0, 0 => by simp [kW]
  | e :: r, i0, i + 1 => by
    have h := kW_get tc ad r (i0 + 1) i
    simp only [kW, List.getElem?_cons_succ, h]
    rw [show i0 + 1 + i = i0 + (i + 1) by omega]
theorem kW_at {tc : Nat → ClassId} {ad : Nat → Nat} {hp : kH} {q : Nat} {e : kE} (h : hp[q]? = some e) : (kW tc ad 0 hp)[q]? = some (ad q, kC tc ad e) := by
  rw [kW_get, h, Nat.zero_add]; rfl
theorem kW_set (tc : Nat → ClassId) (ad : Nat → Nat) (e : kE) : ∀ (hp : kH) (i0 i : Nat), kW tc ad i0 (hp.set i e) = (kW tc ad i0 hp).set i (ad (i0 + i), kC tc ad e)
  | [], i0, i => by simp [kW]
  | x :: r, i0, 0 => by simp [kW]
  | x :: r, i0, i + 1 => by
    have h := kW_set tc ad e r (i0 + 1) i
    simp only [kW, List.set_cons_succ, h]
    rw [show i0 + 1 + i = i0 + (i + 1) by omega]
theorem kW_put (tc : Nat → ClassId) (ad : Nat → Nat) (e : kE) (hp : kH) (i : Nat) : kW tc ad 0 (hp.set i e) = (kW tc ad 0 hp).set i (ad i, kC tc ad e) := by
  rw [kW_set, Nat.zero_add]
theorem kV_cat (ad : Nat → Nat) (v : Value) : (kV ad v).category = v.category := by cases v <;> rfl
def kLl (ad : Nat → Nat) : Nat → kL → List (Nat × Value)
  | _, [] => []
  | i, none :: r => kLl ad (i + 1) r
  | i, some v :: r => (i, kV ad v) :: kLl ad (i + 1) r
theorem kLl_mem {ad : Nat → Nat} {i : Nat} {w : Value} : ∀ (lv : kL) (i0 : Nat), (i, w) ∈ kLl ad i0 lv ↔ ∃ j v, lv[j]? = some (some v) ∧ i = i0 + j ∧ w = kV ad v
  | [], i0 => by simp [kLl]
  | none :: r, i0 => by
    have h := kLl_mem (ad := ad) (i := i) (w := w) r (i0 + 1)
    simp only [kLl, h]
    constructor
    · rintro ⟨j, v, h1, h2, h3⟩
      exact ⟨j + 1, v, by simpa using h1, by omega, h3⟩
    · rintro ⟨j, v, h1, h2, h3⟩
      cases j with
      | zero => simp at h1
      | succ j => exact ⟨j, v, by simpa using h1, by omega, h3⟩
  | some u :: r, i0 => by
    have h := kLl_mem (ad := ad) (i := i) (w := w) r (i0 + 1)
    simp only [kLl, List.mem_cons, h]
    constructor
    · rintro (h0 | ⟨j, v, h1, h2, h3⟩)
      · cases h0
        exact ⟨0, u, by simp, by omega, rfl⟩
      · exact ⟨j + 1, v, by simpa using h1, by omega, h3⟩
    · rintro ⟨j, v, h1, h2, h3⟩
      cases j with
      | zero =>
        simp at h1
        subst h1
        left
        rw [h2, h3]; rfl
      | succ j => exact Or.inr ⟨j, v, by simpa using h1, by omega, h3⟩
theorem kLd_some {lv : kL} {i : Nat} {v : Value} (h : kLd lv i = some v) : lv[i]? = some (some v) := by
  unfold kLd at h
  split at h
  · rename_i w hw; cases h; exact hw
  · cases h
theorem kLd_at {ad : Nat → Nat} {ls : Array Slot} {nL : Nat} {lv : kL} {i : Nat} {v : Value} (hl : lv_has ls nL (kLl ad 0 lv)) (h : kLd lv i = some v) : ls[i]? = some (.val (kV ad v)) :=
  hl.2.2 (i, kV ad v) ((kLl_mem lv 0).mpr ⟨i, v, kLd_some h, by omega, rfl⟩)
theorem kClr_len (lv : kL) (i : Nat) : (kClr lv i).length = lv.length := by
  cases i with
  | zero => rfl
  | succ j =>
    unfold kClr
    dsimp only
    split <;> simp
theorem kClr_get {lv : kL} {i j : Nat} {v : Value} (h : (kClr lv i)[j]? = some (some v)) : lv[j]? = some (some v) ∧ (j + 1 = i → v.category = 1) := by
  cases i with
  | zero => exact ⟨h, fun q => by omega⟩
  | succ k =>
    unfold kClr at h
    dsimp only at h
    split at h
    · by_cases hj : k = j
      · subst hj
        rw [List.getElem?_set] at h
        simp at h
      · rw [List.getElem?_set_ne hj] at h
        exact ⟨h, fun q => by omega⟩
    · by_cases hj : k = j
      · subst hj
        rw [List.getElem?_set] at h
        simp at h
      · rw [List.getElem?_set_ne hj] at h
        exact ⟨h, fun q => by omega⟩
    · rename_i h1 h2
      refine ⟨h, fun q => ?_⟩
      have hk : j = k := by omega
      subst hk
      cases v with
      | long x => exact absurd h (h1 x)
      | double x => exact absurd h (h2 x)
      | _ => rfl
theorem kSt1_has {ad : Nat → Nat} {ls ls' : Array Slot} {nL i : Nat} {lv : kL} {v : Value} (hi : i < lv.length)
    (h' : lv_has ls' nL ((i, kV ad v) :: (kLl ad 0 lv).filter (fun q => !(q.1 == i) && !(q.1 + 1 == i && q.2.category == 2)))) : lv_has ls' nL (kLl ad 0 (kSt1 lv i v)) := by
  refine ⟨h'.1, h'.2.1, fun q hq => h'.2.2 q ?_⟩
  obtain ⟨qi, qw⟩ := q
  obtain ⟨j, u, h1, h2, h3⟩ := (kLl_mem _ _).mp hq
  rw [Nat.zero_add] at h2
  subst h2; subst h3
  unfold kSt1 at h1
  by_cases hj : i = qi
  · subst hj
    rw [List.getElem?_set_self (by rw [kClr_len]; exact hi)] at h1
    cases h1
    exact List.mem_cons_self
  · rw [List.getElem?_set_ne hj] at h1
    obtain ⟨g1, g2⟩ := kClr_get h1
    refine List.mem_cons_of_mem _ (List.mem_filter.mpr ⟨(kLl_mem _ _).mpr ⟨qi, u, g1, by omega, rfl⟩, ?_⟩)
    simp only [kV_cat, Bool.and_eq_true, Bool.not_eq_true', beq_eq_false_iff_ne, Bool.and_eq_false_iff]
    refine ⟨fun h => hj h.symm, ?_⟩
    by_cases hq1 : qi + 1 = i
    · right; rw [g2 hq1]; decide
    · left; exact hq1
theorem kSt2_has {ad : Nat → Nat} {ls ls' : Array Slot} {nL i : Nat} {lv : kL} {v : Value} (hi : i + 1 < lv.length)
    (h' : lv_has ls' nL ((i, kV ad v) :: (kLl ad 0 lv).filter (fun q => !(q.1 == i) && (!(q.1 == i + 1) && !(q.1 + 1 == i && q.2.category == 2))))) : lv_has ls' nL (kLl ad 0 (kSt2 lv i v)) := by
  refine ⟨h'.1, h'.2.1, fun q hq => h'.2.2 q ?_⟩
  obtain ⟨qi, qw⟩ := q
  obtain ⟨j, u, h1, h2, h3⟩ := (kLl_mem _ _).mp hq
  rw [Nat.zero_add] at h2
  subst h2; subst h3
  unfold kSt2 at h1
  by_cases hj2 : i + 1 = qi
  · subst hj2
    rw [List.getElem?_set_self (by simp [kClr_len]; exact hi)] at h1
    cases h1
  · rw [List.getElem?_set_ne hj2] at h1
    by_cases hj : i = qi
    · subst hj
      rw [List.getElem?_set_self (by rw [kClr_len]; omega)] at h1
      cases h1
      exact List.mem_cons_self
    · rw [List.getElem?_set_ne hj] at h1
      obtain ⟨g1, g2⟩ := kClr_get h1
      refine List.mem_cons_of_mem _ (List.mem_filter.mpr ⟨(kLl_mem _ _).mpr ⟨qi, u, g1, by omega, rfl⟩, ?_⟩)
      simp only [kV_cat, Bool.and_eq_true, Bool.not_eq_true', beq_eq_false_iff_ne, Bool.and_eq_false_iff]
      refine ⟨fun h => hj h.symm, fun h => hj2 h.symm, ?_⟩
      by_cases hq1 : qi + 1 = i
      · right; rw [g2 hq1]; decide
      · left; exact hq1
theorem kSt1_len (lv : kL) (i : Nat) (v : Value) : (kSt1 lv i v).length = lv.length := by unfold kSt1; rw [List.length_set, kClr_len]
theorem kSt2_len (lv : kL) (i : Nat) (v : Value) : (kSt2 lv i v).length = lv.length := by unfold kSt2; rw [List.length_set, List.length_set, kClr_len]
def kTy (tc : Nat → ClassId) : List (ClassId × FieldType) := [(tc 0, .int), (tc 1, .long), (tc 2, .byte), (tc 3, .boolean), (tc 4, .short)]
def kIv (D : va_G) (cl : List vw_C) (tc : Nat → ClassId) (ad : Nat → Nat) (A : Nat → Prop) (s : State) (hp : kH) (H : Heap) (locs : List Loc) : Prop := va_P D cl (kW tc ad 0 hp) H ∧ va_D A (kW tc ad 0 hp) ∧ va_S A s.heap H locs
def kRoOk (ro : kRo) (ad : Nat → Nat) (A : Nat → Prop) (s : State) : Prop := ∀ q x, ro q = some x → va_T .int (ad q) x.1 (fun j => .int (x.2 j)) A s s.heap
def kZOk (zs : List (String × String × Nat)) (ad : Nat → Nat) (A : Nat → Prop) (s : State) : Prop := ∀ z ∈ zs, va_Z z.1 z.2.1 "[I" (.ref (ad z.2.2)) A s s.heap
def kLn (i : Instr) : Nat := match i with
  | .bipush _ => 2 | .sipush _ => 3 | .ldc _ => 2 | .ldc_w _ => 3 | .ldc2_w _ => 3 | .iload _ => 2 | .lload _ => 2 | .aload _ => 2 | .istore _ => 2 | .lstore _ => 2 | .iinc _ _ => 3
  | .getfield _ => 3 | .putfield _ => 3 | .getstatic _ => 3 | .invokestatic _ => 3 | .invokevirtual _ => 3 | .ifCond _ _ => 3 | .if_icmp _ _ => 3 | .goto _ => 3
  | _ => 1
/-- what the tables must say for a simple instruction of the method's own file -/
def kWd (tbl : List Jvm.Cond) (cl : List vw_C) (own : String) (zs : List (String × String × Nat)) (i : Instr) (a b : Nat) (z : Int) : Prop := match i with
  | .bipush n => (Int8.ofInt n).toInt32 = Int32.ofInt n
  | .sipush n => (Int16.ofInt n).toInt32 = Int32.ofInt n
  | .ldc idx => Jvm.Cond.constant own idx (Int32.ofInt z) ∈ tbl
  | .ldc_w idx => Jvm.Cond.constant own idx (Int32.ofInt z) ∈ tbl
  | .ldc2_w idx => Jvm.Cond.constantLong own idx (Int64.ofInt z) ∈ tbl
  | .getfield idx => ∃ q : vw_C, cl[a]? = some q ∧ b < q.2.2 ∧ (q.2.1 b).1 = q.1 ∧ Jvm.Cond.fieldLink own idx q.1 (q.2.1 b).2.1 (q.2.1 b).2.2.1 ∈ tbl ∧ ∀ w ∈ u_ws q.1 q.2.1 q.2.2, w ∈ tbl
  | .putfield idx => ∃ (q : vw_C) (ty0 : Nat → FieldType), cl[a]? = some q ∧ b < q.2.2 ∧ (q.2.1 b).1 = q.1 ∧ Jvm.Cond.fieldLink own idx q.1 (q.2.1 b).2.1 (q.2.1 b).2.2.1 ∈ tbl ∧ (∀ w ∈ u_ws q.1 q.2.1 q.2.2, w ∈ tbl) ∧ (q.2.1 b).2.2.2 = false ∧ (∀ k, k < q.2.2 → parseFieldDescriptor (q.2.1 k).2.2.1 = some (ty0 k)) ∧ (∀ a, a < q.2.2 → ∀ b, b < q.2.2 → a ≠ b → (q.2.1 a).2.1 ≠ (q.2.1 b).2.1) ∧ ((z = 0 ∧ ty0 b = .int) ∨ (z = 1 ∧ ty0 b = .boolean) ∨ (z = 2 ∧ ty0 b = .array .int))
  | .getstatic idx => ∃ C n host : String, (C, n, a) ∈ zs ∧ (Jvm.Cond.fieldLink own idx C n "[I" ∈ tbl ∨ Jvm.Cond.fieldLinkNest own idx C n "[I" host ∈ tbl)
  | .baload => a = 2 ∨ a = 3
  | .bastore => a = 2 ∨ a = 3
  | .invokestatic idx => (a = 1 → Jvm.Cond.methodLink own idx Lib.Math.max.name ∈ tbl ∧ Jvm.Cond.static Lib.Math.max.name ∈ tbl ∧ Jvm.Cond.initialized "java/lang/Math" ∈ tbl ∧ Jvm.Cond.code Lib.Math.max.name Lib.Math.max.code 2 (some .int) ∈ tbl)
      ∧ (a = 2 → Jvm.Cond.methodLink own idx Lib.Math.min.name ∈ tbl ∧ Jvm.Cond.static Lib.Math.min.name ∈ tbl ∧ Jvm.Cond.initialized "java/lang/Math" ∈ tbl ∧ Jvm.Cond.code Lib.Math.min.name Lib.Math.min.code 2 (some .int) ∈ tbl)
      ∧ (a = 3 ∨ a = 4 → Jvm.Cond.methodLink own idx arraycopyName ∈ tbl ∧ Jvm.Cond.native arraycopyName ∈ tbl ∧ Jvm.Cond.static arraycopyName ∈ tbl ∧ Jvm.Cond.initialized "java/lang/System" ∈ tbl)
  | _ => True
theorem kSi_inv {lv lv' : kL} {hp hp' : kH} {o : Option (List Value)} {st' : List Value} (h : kSi lv hp o = some (lv', st', hp')) : o = some st' ∧ lv' = lv ∧ hp' = hp := by
  unfold kSi at h
  cases o with
  | none => cases h
  | some x => cases h; exact ⟨rfl, rfl, rfl⟩
theorem kI1_inv {lv lv' : kL} {hp hp' : kH} {st st' : List Value} {f : Int32 → Value} (h : kSi lv hp (kI1 st f) = some (lv', st', hp')) : ∃ x r, st = .int x :: r ∧ lv' = lv ∧ st' = f x :: r ∧ hp' = hp := by
  obtain ⟨h1, h2, h3⟩ := kSi_inv h
  unfold kI1 at h1
  split at h1
  · cases h1; exact ⟨_, _, rfl, h2, rfl, h3⟩
  · cases h1
theorem kI2_inv {lv lv' : kL} {hp hp' : kH} {st st' : List Value} {f : Int32 → Int32 → Value} (h : kSi lv hp (kI2 st f) = some (lv', st', hp')) : ∃ x y r, st = .int y :: .int x :: r ∧ lv' = lv ∧ st' = f x y :: r ∧ hp' = hp := by
  obtain ⟨h1, h2, h3⟩ := kSi_inv h
  unfold kI2 at h1
  split at h1
  · cases h1; exact ⟨_, _, _, rfl, h2, rfl, h3⟩
  · cases h1
theorem kJ2_inv {lv lv' : kL} {hp hp' : kH} {st st' : List Value} {f : Int64 → Int64 → Value} (h : kSi lv hp (kJ2 st f) = some (lv', st', hp')) : ∃ x y r, st = .long y :: .long x :: r ∧ lv' = lv ∧ st' = f x y :: r ∧ hp' = hp := by
  obtain ⟨h1, h2, h3⟩ := kSi_inv h
  unfold kJ2 at h1
  split at h1
  · cases h1; exact ⟨_, _, _, rfl, h2, rfl, h3⟩
  · cases h1
theorem kPi_inv {lv lv' : kL} {hp hp' : kH} {st st' : List Value} {i : Nat} (h : kPi lv st hp i = some (lv', st', hp')) : ∃ x, kLd lv i = some (.int x) ∧ lv' = lv ∧ st' = .int x :: st ∧ hp' = hp := by
  unfold kPi at h
  split at h
  · rename_i x hx; cases h; exact ⟨x, hx, rfl, rfl, rfl⟩
  · cases h
theorem kPl_inv {lv lv' : kL} {hp hp' : kH} {st st' : List Value} {i : Nat} (h : kPl lv st hp i = some (lv', st', hp')) : ∃ x, kLd lv i = some (.long x) ∧ lv' = lv ∧ st' = .long x :: st ∧ hp' = hp := by
  unfold kPl at h
  split at h
  · rename_i x hx; cases h; exact ⟨x, hx, rfl, rfl, rfl⟩
  · cases h
theorem kPa_inv {lv lv' : kL} {hp hp' : kH} {st st' : List Value} {i : Nat} (h : kPa lv st hp i = some (lv', st', hp')) : ∃ x, kLd lv i = some (.ref x) ∧ lv' = lv ∧ st' = .ref x :: st ∧ hp' = hp := by
  unfold kPa at h
  split at h
  · rename_i x hx; cases h; exact ⟨x, hx, rfl, rfl, rfl⟩
  · cases h
theorem kTi_inv {lv lv' : kL} {hp hp' : kH} {st st' : List Value} {i : Nat} (h : kTi lv st hp i = some (lv', st', hp')) : ∃ x, st = .int x :: st' ∧ i < lv.length ∧ lv' = kSt1 lv i (.int x) ∧ hp' = hp := by
  unfold kTi at h
  split at h
  · split at h
    · rename_i hi; cases h; exact ⟨_, rfl, hi, rfl, rfl⟩
    · cases h
  · cases h
theorem kTa_inv {lv lv' : kL} {hp hp' : kH} {st st' : List Value} {i : Nat} (h : kTa lv st hp i = some (lv', st', hp')) : ∃ x, st = .ref x :: st' ∧ i < lv.length ∧ lv' = kSt1 lv i (.ref x) ∧ hp' = hp := by
  unfold kTa at h
  split at h
  · split at h
    · rename_i hi; cases h; exact ⟨_, rfl, hi, rfl, rfl⟩
    · cases h
  · cases h
theorem kTl_inv {lv lv' : kL} {hp hp' : kH} {st st' : List Value} {i : Nat} (h : kTl lv st hp i = some (lv', st', hp')) : ∃ x, st = .long x :: st' ∧ i + 1 < lv.length ∧ lv' = kSt2 lv i (.long x) ∧ hp' = hp := by
  unfold kTl at h
  split at h
  · split at h
    · rename_i hi; cases h; exact ⟨_, rfl, hi, rfl, rfl⟩
    · cases h
  · cases h
theorem kInc_inv {lv lv' : kL} {hp hp' : kH} {st st' : List Value} {i : Nat} {n : Int} (h : kInc lv st hp i n = some (lv', st', hp')) : ∃ x, kLd lv i = some (.int x) ∧ lv' = kSt1 lv i (.int (x + Int32.ofInt n)) ∧ st' = st ∧ hp' = hp := by
  unfold kInc at h
  split at h
  · rename_i x hx; cases h; exact ⟨x, hx, rfl, rfl, rfl⟩
  · cases h
theorem kDiv_inv {lv lv' : kL} {hp hp' : kH} {st st' : List Value} {f : Int32 → Int32 → Int32} (h : kDiv lv st hp f = some (lv', st', hp')) : ∃ x y r, st = .int y :: .int x :: r ∧ ¬ y = 0 ∧ lv' = lv ∧ st' = .int (f x y) :: r ∧ hp' = hp := by
  unfold kDiv at h
  split at h
  · split at h
    · cases h
    · rename_i hi; cases h; exact ⟨_, _, _, rfl, hi, rfl, rfl, rfl⟩
  · cases h
theorem kDup_inv {lv lv' : kL} {hp hp' : kH} {st st' : List Value} (h : kDup lv st hp = some (lv', st', hp')) : ∃ v r, st = v :: r ∧ v.category = 1 ∧ lv' = lv ∧ st' = v :: v :: r ∧ hp' = hp := by
  unfold kDup at h
  split at h
  · split at h
    · rename_i hi; cases h; exact ⟨_, _, rfl, hi, rfl, rfl, rfl⟩
    · cases h
  · cases h
theorem kPop_inv {lv lv' : kL} {hp hp' : kH} {st st' : List Value} (h : kPop lv st hp = some (lv', st', hp')) : ∃ v, st = v :: st' ∧ v.category = 1 ∧ lv' = lv ∧ hp' = hp := by
  unfold kPop at h
  split at h
  · split at h
    · rename_i hi; cases h; exact ⟨_, rfl, hi, rfl, rfl⟩
    · cases h
  · cases h
theorem kDup2_inv {lv lv' : kL} {hp hp' : kH} {st st' : List Value} (h : kDup2 lv st hp = some (lv', st', hp')) : ∃ v w r, st = v :: w :: r ∧ v.category = 1 ∧ w.category = 1 ∧ lv' = lv ∧ st' = v :: w :: v :: w :: r ∧ hp' = hp := by
  unfold kDup2 at h
  split at h
  · split at h
    · rename_i hi; cases h; exact ⟨_, _, _, rfl, hi.1, hi.2, rfl, rfl, rfl⟩
    · cases h
  · cases h
theorem kObj_inv {hp : kH} {q a : Nat} {fs : List Value} (h : kObj hp q a = some fs) : hp[q]? = some (.inr (a, fs)) := by
  unfold kObj at h
  split at h
  · rename_i o ho
    split at h
    · rename_i ha; cases h; rw [ho]; obtain ⟨o1, o2⟩ := o; dsimp only at ha; rw [ha]
    · cases h
  · cases h
theorem kArr_inv {hp : kH} {q t : Nat} {x : Nat × (Nat → Int32)} (h : kArr hp q t = some x) : hp[q]? = some (.inl (t, x.1, .inl x.2)) := by
  unfold kArr at h
  split at h
  · rename_i y hy
    obtain ⟨y1, y2, y3⟩ := y
    split at h
    · rename_i ha
      dsimp only at ha h
      subst ha
      split at h
      · cases h; exact hy
      · cases h
    · cases h
  · cases h
theorem kArrL_inv {hp : kH} {q : Nat} {x : Nat × (Nat → Int64)} (h : kArrL hp q = some x) : hp[q]? = some (.inl (1, x.1, .inr (.inl x.2))) := by
  unfold kArrL at h
  split at h
  · rename_i y hy
    obtain ⟨y1, y2, y3⟩ := y
    split at h
    · rename_i ha
      dsimp only at ha h
      subst ha
      split at h
      · cases h; exact hy
      · cases h
    · cases h
  · cases h
theorem kGet_inv {lv lv' : kL} {hp hp' : kH} {st st' : List Value} {a b : Nat} (h : kGet lv st hp a b = some (lv', st', hp')) : ∃ q r fs v, st = .ref q :: r ∧ hp[q]? = some (.inr (a, fs)) ∧ fs[b]? = some v ∧ lv' = lv ∧ st' = v :: r ∧ hp' = hp := by
  unfold kGet at h
  split at h
  · split at h
    · rename_i fs ho
      split at h
      · rename_i v hv; cases h; exact ⟨_, _, fs, v, rfl, kObj_inv ho, hv, rfl, rfl, rfl⟩
      · cases h
    · cases h
  · cases h
theorem kPut_inv {lv lv' : kL} {hp hp' : kH} {st st' : List Value} {a b : Nat} {z : Int} (h : kPut lv st hp a b z = some (lv', st', hp')) : ∃ v q fs, st = v :: .ref q :: st' ∧ hp[q]? = some (.inr (a, fs)) ∧ b < fs.length ∧ kFit z v = true ∧ lv' = lv ∧ hp' = hp.set q (.inr (a, fs.set b v)) := by
  unfold kPut at h
  split at h
  · split at h
    · rename_i fs ho
      split at h
      · rename_i hc; cases h; exact ⟨_, _, fs, rfl, kObj_inv ho, hc.1, hc.2, rfl, rfl⟩
      · cases h
    · cases h
  · cases h
theorem kAl_inv {lv lv' : kL} {hp hp' : kH} {st st' : List Value} {ro : kRo} (h : kAl lv st hp ro = some (lv', st', hp')) : ∃ q r n, st = .ref q :: r ∧ kLen ro hp q = some n ∧ lv' = lv ∧ st' = .int (Int32.ofNat n) :: r ∧ hp' = hp := by
  unfold kAl at h
  split at h
  · split at h
    · rename_i n hn; cases h; exact ⟨_, _, n, rfl, hn, rfl, rfl, rfl⟩
    · cases h
  · cases h
theorem kAi_inv {lv lv' : kL} {hp hp' : kH} {st st' : List Value} {ro : kRo} (h : kAi lv st hp ro = some (lv', st', hp')) : ∃ j q r x, st = .int j :: .ref q :: r ∧ kRd ro hp q = some x ∧ vp_in j x.1 ∧ lv' = lv ∧ st' = .int (x.2 j.toNatClampNeg) :: r ∧ hp' = hp := by
  unfold kAi at h
  split at h
  · split at h
    · rename_i x hn
      split at h
      · cases h
      · rename_i hi; cases h; exact ⟨_, _, _, x, rfl, hn, hi, rfl, rfl, rfl⟩
    · cases h
  · cases h
theorem kAt_inv {lv lv' : kL} {hp hp' : kH} {st st' : List Value} {t : Nat} (h : kAt lv st hp t = some (lv', st', hp')) : ∃ j q r x, st = .int j :: .ref q :: r ∧ kArr hp q t = some x ∧ vp_in j x.1 ∧ lv' = lv ∧ st' = .int (x.2 j.toNatClampNeg) :: r ∧ hp' = hp := by
  unfold kAt at h
  split at h
  · split at h
    · rename_i x hn
      split at h
      · cases h
      · rename_i hi; cases h; exact ⟨_, _, _, x, rfl, hn, hi, rfl, rfl, rfl⟩
    · cases h
  · cases h
theorem kAj_inv {lv lv' : kL} {hp hp' : kH} {st st' : List Value} (h : kAj lv st hp = some (lv', st', hp')) : ∃ j q r x, st = .int j :: .ref q :: r ∧ kArrL hp q = some x ∧ vp_in j x.1 ∧ lv' = lv ∧ st' = .long (x.2 j.toNatClampNeg) :: r ∧ hp' = hp := by
  unfold kAj at h
  split at h
  · split at h
    · rename_i x hn
      split at h
      · cases h
      · rename_i hi; cases h; exact ⟨_, _, _, x, rfl, hn, hi, rfl, rfl, rfl⟩
    · cases h
  · cases h
theorem kBt_inv {lv lv' : kL} {hp hp' : kH} {st st' : List Value} {t : Nat} {g : Int32 → Int32} (h : kBt lv st hp t g = some (lv', st', hp')) : ∃ v j q x, st = .int v :: .int j :: .ref q :: st' ∧ kArr hp q t = some x ∧ vp_in j x.1 ∧ lv' = lv ∧ hp' = hp.set q (.inl (t, x.1, .inl (upd x.2 j.toNatClampNeg (g v)))) := by
  unfold kBt at h
  split at h
  · split at h
    · rename_i x hn
      split at h
      · cases h
      · rename_i hi; cases h; exact ⟨_, _, _, x, rfl, hn, hi, rfl, rfl⟩
    · cases h
  · cases h
theorem kBj_inv {lv lv' : kL} {hp hp' : kH} {st st' : List Value} (h : kBj lv st hp = some (lv', st', hp')) : ∃ v j q x, st = .long v :: .int j :: .ref q :: st' ∧ kArrL hp q = some x ∧ vp_in j x.1 ∧ lv' = lv ∧ hp' = hp.set q (.inl (1, x.1, .inr (.inl (vp_updL x.2 j.toNatClampNeg v)))) := by
  unfold kBj at h
  split at h
  · split at h
    · rename_i x hn
      split at h
      · cases h
      · rename_i hi; cases h; exact ⟨_, _, _, x, rfl, hn, hi, rfl, rfl⟩
    · cases h
  · cases h
theorem kMx_inv {lv lv' : kL} {hp hp' : kH} {st st' : List Value} {f : Int32 → Int32 → Int32} (h : kMx lv st hp f = some (lv', st', hp')) : ∃ x y r, st = .int y :: .int x :: r ∧ r.length ≤ 4 ∧ lv' = lv ∧ st' = .int (f x y) :: r ∧ hp' = hp := by
  unfold kMx at h
  split at h
  · split at h
    · rename_i hi; cases h; exact ⟨_, _, _, rfl, hi, rfl, rfl, rfl⟩
    · cases h
  · cases h
theorem kCpI_inv {lv lv' : kL} {hp hp' : kH} {st st' : List Value} (h : kCpI lv st hp = some (lv', st', hp')) : ∃ n dp q1 sp q0 x y, st = .int n :: .int dp :: .ref q1 :: .int sp :: .ref q0 :: st' ∧ kArr hp q0 0 = some x ∧ kArr hp q1 0 = some y ∧ st'.length ≤ 4 ∧ ¬ sp < 0 ∧ ¬ dp < 0 ∧ ¬ n < 0 ∧ sp.toNatClampNeg + n.toNatClampNeg ≤ x.1 ∧ dp.toNatClampNeg + n.toNatClampNeg ≤ y.1 ∧ lv' = lv ∧ hp' = hp.set q1 (.inl (0, y.1, .inl (va_cpy x.2 y.2 sp.toNatClampNeg dp.toNatClampNeg n.toNatClampNeg))) := by
  unfold kCpI at h
  split at h
  · split at h
    · rename_i x y hx hy
      split at h
      · rename_i hc
        cases h
        exact ⟨_, _, _, _, _, x, y, rfl, hx, hy, hc.1, hc.2.1, hc.2.2.1, hc.2.2.2.1, hc.2.2.2.2.1, hc.2.2.2.2.2, rfl, rfl⟩
      · cases h
    · cases h
  · cases h
theorem kCpL_inv {lv lv' : kL} {hp hp' : kH} {st st' : List Value} (h : kCpL lv st hp = some (lv', st', hp')) : ∃ n dp q1 sp q0 x y, st = .int n :: .int dp :: .ref q1 :: .int sp :: .ref q0 :: st' ∧ kArrL hp q0 = some x ∧ kArrL hp q1 = some y ∧ st'.length ≤ 4 ∧ ¬ sp < 0 ∧ ¬ dp < 0 ∧ ¬ n < 0 ∧ sp.toNatClampNeg + n.toNatClampNeg ≤ x.1 ∧ dp.toNatClampNeg + n.toNatClampNeg ≤ y.1 ∧ lv' = lv ∧ hp' = hp.set q1 (.inl (1, y.1, .inr (.inl (va_cpy x.2 y.2 sp.toNatClampNeg dp.toNatClampNeg n.toNatClampNeg)))) := by
  unfold kCpL at h
  split at h
  · split at h
    · rename_i x y hx hy
      split at h
      · rename_i hc
        cases h
        exact ⟨_, _, _, _, _, x, y, rfl, hx, hy, hc.1, hc.2.1, hc.2.2.1, hc.2.2.2.1, hc.2.2.2.2.1, hc.2.2.2.2.2, rfl, rfl⟩
      · cases h
    · cases h
  · cases h
theorem kSum_le (ad : Nat → Nat) : ∀ (st : List Value), ((st.map (kV ad)).map fun v => v.category).sum ≤ 2 * st.length
  | [] => by simp
  | v :: r => by
    have h := kSum_le ad r
    have hc : (kV ad v).category ≤ 2 := by cases v <;> simp [kV, Value.category]
    simp only [List.map_cons, List.sum_cons, List.length_cons]
    omega
end
section
/-! THE ENGINE IS SOUND: a simple instruction -/
section KSnd
variable {p : Program} {l : Launch} {e : Env} {R : Room} {s : State} {m : MethodId} {args : Array Value} {below : List Frame} {meth : Method} {c : Code} {cells slots : Nat} {Q : State → Prop} {H : Heap} {locs : List Loc}
variable {cc : ByteArray} {D : va_G} {cl : List vw_C} {A : Nat → Prop} {tc : Nat → ClassId} {ad : Nat → Nat} {ro : kRo} {own : String} {Ts tbl : List Jvm.Cond} {zs : List (String × String × Nat)} {nL pc : Nat} {ls : Array Slot}
set_option maxHeartbeats 4000000 in
set_option maxRecDepth 100000 in
theorem kS_ok (hx : p.tables.exec = Jvm.exec) (hb : c.code = cc) (hml : c.maxLocals = nL) (hown : s.vm.findClass own = some m.cls) (hts : ∀ w ∈ Ts, w.before args s = true) (hT : ∀ w ∈ tbl, w ∈ Ts)
    (hK : va_K D cl (kTy tc) s) (hro : kRoOk ro ad A s) (hz : kZOk zs ad A s) (hR : 1 ≤ R.frames ∧ 64 ≤ R.locals ∧ cells ≤ R.cells ∧ slots ≤ R.slots)
    {i : Instr} {a b : Nat} {z : Int} {lv lv' : kL} {st st' : List Value} {hp hp' : kH} (hw : kWd tbl cl own zs i a b z) (hd : decode cc pc = .ok (i, kLn i)) (h : kS ro i a b z lv st hp = some (lv', st', hp'))
    (hlen : lv.length = nL) (hl : lv_has ls nL (kLl ad 0 lv)) (hI : kIv D cl tc ad A s hp H locs)
    (k : ∀ (ls' : Array Slot) (H' : Heap) (locs' : List Loc), lv'.length = nL → lv_has ls' nL (kLl ad 0 lv') → kIv D cl tc ad A s hp' H' locs' → W p l e R s m args below meth c H' locs' cells slots Q (F0 m (pc + kLn i) ls' (st'.map (kV ad)))) :
    W p l e R s m args below meth c H locs cells slots Q (F0 m pc ls (st.map (kV ad))) := by
  have htb : ∀ w ∈ tbl, w.before args s = true := fun w q => hts w (hT w q)
  have hls : c.maxLocals = ls.size := hml.trans hl.1.symm
  cases i
  case iconst n => cases h; exact lv_iconst hx hb hd rfl (k ls H locs hlen hl hI)
  case bipush n => cases h; exact lv_bipush hx hb hd hw (k ls H locs hlen hl hI)
  case sipush n => cases h; exact lv_sipush hx hb hd hw (k ls H locs hlen hl hI)
  case lconst n => cases h; exact lv_lconst hx hb hd rfl (k ls H locs hlen hl hI)
  case ldc n => cases h; exact lv_ldc hx hb hown (htb _ hw) hd (k ls H locs hlen hl hI)
  case ldc_w n => cases h; exact lv_ldcw hx hb hown (htb _ hw) hd (k ls H locs hlen hl hI)
  case ldc2_w n => cases h; exact lv_ldc2 hx hb hown (htb _ hw) hd (k ls H locs hlen hl hI)
  case iload_n n => obtain ⟨x, h1, rfl, rfl, rfl⟩ := kPi_inv h; exact lv_iload_n hx hb hd rfl (kLd_at hl h1) (k ls H locs hlen hl hI)
  case iload n => obtain ⟨x, h1, rfl, rfl, rfl⟩ := kPi_inv h; exact lv_iload hx hb hd (kLd_at hl h1) (k ls H locs hlen hl hI)
  case lload_n n => obtain ⟨x, h1, rfl, rfl, rfl⟩ := kPl_inv h; exact lv_lload_n hx hb hd rfl (kLd_at hl h1) (k ls H locs hlen hl hI)
  case lload n => obtain ⟨x, h1, rfl, rfl, rfl⟩ := kPl_inv h; exact lv_lload hx hb hd (kLd_at hl h1) (k ls H locs hlen hl hI)
  case aload_n n => obtain ⟨x, h1, rfl, rfl, rfl⟩ := kPa_inv h; exact lv_aload_n hx hb hd rfl (kLd_at hl h1) (k ls H locs hlen hl hI)
  case aload n => obtain ⟨x, h1, rfl, rfl, rfl⟩ := kPa_inv h; exact lv_aload hx hb hd (kLd_at hl h1) (k ls H locs hlen hl hI)
  case istore_n n =>
    obtain ⟨x, rfl, h1, rfl, rfl⟩ := kTi_inv h
    exact lv_istore_n hx hb hd rfl hl (by rw [← hlen]; exact h1) rfl (fun ls' hl' => k ls' H locs (by rw [kSt1_len]; exact hlen) (kSt1_has (ls := ls) (v := .int x) h1 hl') hI)
  case istore n =>
    obtain ⟨x, rfl, h1, rfl, rfl⟩ := kTi_inv h
    exact lv_istore hx hb hd hl (by rw [← hlen]; exact h1) rfl (fun ls' hl' => k ls' H locs (by rw [kSt1_len]; exact hlen) (kSt1_has (ls := ls) (v := .int x) h1 hl') hI)
  case astore_n n =>
    obtain ⟨x, rfl, h1, rfl, rfl⟩ := kTa_inv h
    exact lv_astore_n hx hb hd rfl hl (by rw [← hlen]; exact h1) rfl (fun ls' hl' => k ls' H locs (by rw [kSt1_len]; exact hlen) (kSt1_has (ls := ls) (v := .ref x) h1 hl') hI)
  case lstore n =>
    obtain ⟨x, rfl, h1, rfl, rfl⟩ := kTl_inv h
    exact lv_lstore hx hb hd hl (by rw [← hlen]; exact h1) rfl (fun ls' hl' => k ls' H locs (by rw [kSt2_len]; exact hlen) (kSt2_has (ls := ls) (v := .long x) h1 hl') hI)
  case iinc n v =>
    obtain ⟨x, h1, rfl, rfl, rfl⟩ := kInc_inv h
    have h0 : n < lv.length := (List.getElem?_eq_some_iff.mp (kLd_some h1)).1
    obtain ⟨j, hj⟩ := List.getElem?_of_mem ((kLl_mem (ad := ad) lv 0).mpr ⟨n, _, kLd_some h1, (Nat.zero_add n).symm, rfl⟩)
    exact lv_iinc hx hb hd hl (k := j) hj rfl (by rw [← hlen]; exact h0) rfl (fun ls' hl' => k ls' H locs (by rw [kSt1_len]; exact hlen) (kSt1_has (ls := ls) (v := .int (x + Int32.ofInt v)) h0 hl') hI)
  case iadd => obtain ⟨x, y, r, rfl, rfl, rfl, rfl⟩ := kI2_inv h; exact lv_iadd hx hb hd (k ls H locs hlen hl hI)
  case isub => obtain ⟨x, y, r, rfl, rfl, rfl, rfl⟩ := kI2_inv h; exact lv_isub hx hb hd (k ls H locs hlen hl hI)
  case imul => obtain ⟨x, y, r, rfl, rfl, rfl, rfl⟩ := kI2_inv h; exact lv_imul hx hb hd (k ls H locs hlen hl hI)
  case iand => obtain ⟨x, y, r, rfl, rfl, rfl, rfl⟩ := kI2_inv h; exact lv_iand hx hb hd (k ls H locs hlen hl hI)
  case ior => obtain ⟨x, y, r, rfl, rfl, rfl, rfl⟩ := kI2_inv h; exact lv_ior hx hb hd (k ls H locs hlen hl hI)
  case ixor => obtain ⟨x, y, r, rfl, rfl, rfl, rfl⟩ := kI2_inv h; exact lv_ixor hx hb hd (k ls H locs hlen hl hI)
  case ishl => obtain ⟨x, y, r, rfl, rfl, rfl, rfl⟩ := kI2_inv h; exact lv_ishl hx hb hd (k ls H locs hlen hl hI)
  case iushr => obtain ⟨x, y, r, rfl, rfl, rfl, rfl⟩ := kI2_inv h; exact lv_iushr hx hb hd rfl (k ls H locs hlen hl hI)
  case idiv => obtain ⟨x, y, r, rfl, h1, rfl, rfl, rfl⟩ := kDiv_inv h; exact lv_idiv hx hb hd h1 (k ls H locs hlen hl hI)
  case irem => obtain ⟨x, y, r, rfl, h1, rfl, rfl, rfl⟩ := kDiv_inv h; exact lv_irem hx hb hd h1 (k ls H locs hlen hl hI)
  case ineg => obtain ⟨x, r, rfl, rfl, rfl, rfl⟩ := kI1_inv h; exact lv_ineg hx hb hd (k ls H locs hlen hl hI)
  case i2l => obtain ⟨x, r, rfl, rfl, rfl, rfl⟩ := kI1_inv h; exact lv_i2l hx hb hd rfl (k ls H locs hlen hl hI)
  case i2b => obtain ⟨x, r, rfl, rfl, rfl, rfl⟩ := kI1_inv h; exact lv_i2b hx hb hd rfl (k ls H locs hlen hl hI)
  case i2s => obtain ⟨x, r, rfl, rfl, rfl, rfl⟩ := kI1_inv h; exact lv_i2s hx hb hd rfl (k ls H locs hlen hl hI)
  case l2i =>
    simp only [kS] at h
    split at h
    · cases h; exact lv_l2i hx hb hd rfl (k ls H locs hlen hl hI)
    · cases h
  case lshl =>
    simp only [kS] at h
    split at h
    · cases h; exact lv_lshl hx hb hd rfl (k ls H locs hlen hl hI)
    · cases h
  case ladd => obtain ⟨x, y, r, rfl, rfl, rfl, rfl⟩ := kJ2_inv h; exact lv_ladd hx hb hd (k ls H locs hlen hl hI)
  case land => obtain ⟨x, y, r, rfl, rfl, rfl, rfl⟩ := kJ2_inv h; exact lv_land hx hb hd (k ls H locs hlen hl hI)
  case lor => obtain ⟨x, y, r, rfl, rfl, rfl, rfl⟩ := kJ2_inv h; exact lv_lor hx hb hd (k ls H locs hlen hl hI)
  case lcmp => obtain ⟨x, y, r, rfl, rfl, rfl, rfl⟩ := kJ2_inv h; exact W.lcmp hx hb hd (k ls H locs hlen hl hI)
  case dup => obtain ⟨v, r, rfl, h1, rfl, rfl, rfl⟩ := kDup_inv h; exact lv_dup hx hb hd (by rw [kV_cat]; exact h1) (k ls H locs hlen hl hI)
  case pop => obtain ⟨v, rfl, h1, rfl, rfl⟩ := kPop_inv h; exact lv_pop hx hb hd (by rw [kV_cat]; exact h1) (k ls H locs hlen hl hI)
  case dup2 => obtain ⟨v, w, r, rfl, h1, h2, rfl, rfl, rfl⟩ := kDup2_inv h; exact lv_dup2_11 hx hb hd (by rw [kV_cat]; exact h1) (by rw [kV_cat]; exact h2) (k ls H locs hlen hl hI)
  case getfield n =>
    obtain ⟨q, r, fs, v, rfl, h1, h2, rfl, rfl, rfl⟩ := kGet_inv h
    obtain ⟨⟨C, T, N⟩, w1, w2, w3, w4, w5⟩ := hw
    exact va_get (D := D) (cl := cl) (ci := a) (C := C) (T := T) (N := N) (ref := C) hx hb htb w5 hown hK hI.1 q (kW_at h1) w1 b w2 (htb _ w4) (fun x hx' => by rw [w3] at hx'; exact hx') (v := kV ad v) (by rw [List.getElem?_map, h2]; rfl) hd (k ls H locs hlen hl hI)
  case putfield n =>
    obtain ⟨v, q, fs, rfl, h1, h2, h3, rfl, rfl⟩ := kPut_inv h
    obtain ⟨⟨C, T, N⟩, ty0, w1, w2, w3, w4, w5, w6, w7, w8, w9⟩ := hw
    have hfit : narrow (ty0 b) (kV ad v) = kV ad v ∧ fits (ty0 b) (kV ad v) = true := by
      rcases w9 with ⟨z1, z2⟩ | ⟨z1, z2⟩ | ⟨z1, z2⟩
      · rw [z2]; subst z1
        cases v <;> simp [kFit] at h3
        exact ⟨rfl, rfl⟩
      · rw [z2]; subst z1
        cases v <;> simp [kFit] at h3
        rcases h3 with rfl | rfl
        · exact ⟨rfl, rfl⟩
        · exact ⟨rfl, rfl⟩
      · rw [z2]; subst z1
        cases v <;> simp [kFit] at h3
        exact ⟨rfl, rfl⟩
    exact va_put (D := D) (cl := cl) (ci := a) (C := C) (T := T) (N := N) (ref := C) hx hb htb w5 ty0 w7 w8 hown hK hI.1 hI.2.1 hI.2.2 q (kW_at h1) w1 b w2 (htb _ w4) (fun x hx' => by rw [w3] at hx'; exact hx') w6 (v := kV ad v) (w7 b w2) hfit.1 hfit.2 (by rw [List.length_map]; exact h2) hd
      (fun H' locs' hP hD hS => k ls H' locs' hlen hl ⟨by rw [kW_put]; simpa [kC, List.map_set] using hP, by rw [kW_put]; simpa [kC, List.map_set] using hD, hS⟩)
  case getstatic n =>
    cases h
    obtain ⟨C, nm, host, w1, w2⟩ := hw
    rcases w2 with w2 | w2
    · exact va_gets hx hb (hz _ w1) hI.2.2 hown (htb _ w2) (fun _ q => q) hd (k ls H locs hlen hl hI)
    · exact va_getsN hx hb (hz _ w1) hI.2.2 hown (htb _ w2) (fun _ q => q) hd (k ls H locs hlen hl hI)
  case arraylength =>
    obtain ⟨q, r, n, rfl, h1, rfl, rfl, rfl⟩ := kAl_inv h
    unfold kLen at h1
    split at h1
    · rename_i x hx0
      cases h1
      exact va_tlen hx hb (hro _ _ hx0) hI.2.2 rfl hd (k ls H locs hlen hl hI)
    · split at h1
      · rename_i x hx0
        split at h1
        · rename_i h5
          cases h1
          obtain ⟨t, n, f⟩ := x
          dsimp only at h5
          have ht : (kTy tc)[t]? = some (tc t, ([.int, .long, .byte, .boolean, .short] : List FieldType).getD t .int) := by
            rcases (show t = 0 ∨ t = 1 ∨ t = 2 ∨ t = 3 ∨ t = 4 by omega) with rfl | rfl | rfl | rfl | rfl <;> rfl
          exact va_alen hx hb hK hI.1 q t (kW_at hx0) ht rfl hd (k ls H locs hlen hl hI)
        · cases h1
      · cases h1
  case iaload =>
    obtain ⟨j, q, r, x, rfl, h1, h2, rfl, rfl, rfl⟩ := kAi_inv h
    unfold kRd at h1
    split at h1
    · rename_i y hy
      cases h1
      exact va_ti hx hb (hro _ _ hy) hI.2.2 h2 rfl hd (k ls H locs hlen hl hI)
    · exact va_iald hx hb hK hI.1 q 0 (kW_at (kArr_inv h1)) rfl h2 hd (k ls H locs hlen hl hI)
  case baload =>
    obtain ⟨j, q, r, x, rfl, h1, h2, rfl, rfl, rfl⟩ := kAt_inv h
    rcases hw with rfl | rfl
    · exact va_bald hx hb hK hI.1 q 2 (kW_at (kArr_inv h1)) rfl h2 hd (k ls H locs hlen hl hI)
    · exact va_zald hx hb hK hI.1 q 3 (kW_at (kArr_inv h1)) rfl h2 hd (k ls H locs hlen hl hI)
  case saload =>
    obtain ⟨j, q, r, x, rfl, h1, h2, rfl, rfl, rfl⟩ := kAt_inv h
    exact va_sald hx hb hK hI.1 q 4 (kW_at (kArr_inv h1)) rfl h2 hd (k ls H locs hlen hl hI)
  case laload =>
    obtain ⟨j, q, r, x, rfl, h1, h2, rfl, rfl, rfl⟩ := kAj_inv h
    exact va_lald hx hb hK hI.1 q 1 (kW_at (kArrL_inv h1)) rfl h2 hd (k ls H locs hlen hl hI)
  case iastore =>
    obtain ⟨v, j, q, x, rfl, h1, h2, rfl, rfl⟩ := kBt_inv h
    exact va_iast hx hb hK hI.1 hI.2.1 hI.2.2 q 0 (kW_at (kArr_inv h1)) rfl h2 hd (fun H' locs' hP hD hS => k ls H' locs' hlen hl ⟨by rw [kW_put]; exact hP, by rw [kW_put]; exact hD, hS⟩)
  case bastore =>
    obtain ⟨v, j, q, x, rfl, h1, h2, rfl, rfl⟩ := kBt_inv h
    rcases hw with rfl | rfl
    · exact va_bast hx hb hK hI.1 hI.2.1 hI.2.2 q 2 (kW_at (kArr_inv h1)) rfl h2 hd (fun H' locs' hP hD hS => k ls H' locs' hlen hl ⟨by rw [kW_put]; exact hP, by rw [kW_put]; exact hD, hS⟩)
    · exact va_zast hx hb hK hI.1 hI.2.1 hI.2.2 q 3 (kW_at (kArr_inv h1)) rfl h2 hd (fun H' locs' hP hD hS => k ls H' locs' hlen hl ⟨by rw [kW_put]; exact hP, by rw [kW_put]; exact hD, hS⟩)
  case sastore =>
    obtain ⟨v, j, q, x, rfl, h1, h2, rfl, rfl⟩ := kBt_inv h
    exact va_sast hx hb hK hI.1 hI.2.1 hI.2.2 q 4 (kW_at (kArr_inv h1)) rfl h2 hd (fun H' locs' hP hD hS => k ls H' locs' hlen hl ⟨by rw [kW_put]; exact hP, by rw [kW_put]; exact hD, hS⟩)
  case lastore =>
    obtain ⟨v, j, q, x, rfl, h1, h2, rfl, rfl⟩ := kBj_inv h
    exact va_last hx hb hK hI.1 hI.2.1 hI.2.2 q 1 (kW_at (kArrL_inv h1)) rfl h2 hd (fun H' locs' hP hD hS => k ls H' locs' hlen hl ⟨by rw [kW_put]; exact hP, by rw [kW_put]; exact hD, hS⟩)
  case invokestatic n =>
    obtain ⟨hw1, hw2, hw3⟩ := hw
    simp only [kS, kNat] at h
    by_cases a1 : a = 1
    · rw [if_pos a1] at h
      obtain ⟨x, y, r, rfl, h1, rfl, rfl, rfl⟩ := kMx_inv h
      obtain ⟨w1, w2, w3, w4⟩ := hw1 a1
      exact va_mmax hx hb hls hown (htb _ w1) (htb _ w2) (htb _ w3) (htb _ w4) hR.1 (by have := kSum_le ad r; have := hR.2.1; omega) hR.2.2.1 hR.2.2.2 hd (k ls H locs hlen hl hI)
    · rw [if_neg a1] at h
      by_cases a2 : a = 2
      · rw [if_pos a2] at h
        obtain ⟨x, y, r, rfl, h1, rfl, rfl, rfl⟩ := kMx_inv h
        obtain ⟨w1, w2, w3, w4⟩ := hw2 a2
        exact va_mmin hx hb hls hown (htb _ w1) (htb _ w2) (htb _ w3) (htb _ w4) hR.1 (by have := kSum_le ad r; have := hR.2.1; omega) hR.2.2.1 hR.2.2.2 hd (k ls H locs hlen hl hI)
      · rw [if_neg a2] at h
        have hnw : nativeFrameWords "java/lang/System" "arraycopy" 5 + 11 ≤ 50 := by decide
        by_cases a3 : a = 3
        · rw [if_pos a3] at h
          obtain ⟨w1, w2, w3, w4⟩ := hw3 (Or.inl a3)
          obtain ⟨n', dp, q1, sp, q0, x, y, rfl, g0, g1, g2, g3, g4, g5, g6, g7, rfl, rfl⟩ := kCpI_inv h
          exact va_copyi hx hb hls hown (htb _ w1) (htb _ w2) (htb _ w3) (htb _ w4) hK hI.1 hI.2.1 hI.2.2 q0 q1 0 0 (ty := .int) (kW_at (kArr_inv g0)) (kW_at (kArr_inv g1)) rfl rfl rfl g3 g4 g5 g6 g7 (fun _ _ => rfl) hR.1 (by have := kSum_le ad st'; have := hR.2.1; omega) hd
            (fun H' locs' hP hD hS => k ls H' locs' hlen hl ⟨by rw [kW_put]; exact hP, by rw [kW_put]; exact hD, hS⟩)
        · rw [if_neg a3] at h
          by_cases a4 : a = 4
          · rw [if_pos a4] at h
            obtain ⟨w1, w2, w3, w4⟩ := hw3 (Or.inr a4)
            obtain ⟨n', dp, q1, sp, q0, x, y, rfl, g0, g1, g2, g3, g4, g5, g6, g7, rfl, rfl⟩ := kCpL_inv h
            exact va_copyl hx hb hls hown (htb _ w1) (htb _ w2) (htb _ w3) (htb _ w4) hK hI.1 hI.2.1 hI.2.2 q0 q1 1 1 (ty := .long) (kW_at (kArrL_inv g0)) (kW_at (kArrL_inv g1)) rfl rfl rfl g3 g4 g5 g6 g7 (fun _ _ => rfl) hR.1 (by have := kSum_le ad st'; have := hR.2.1; omega) hd
              (fun H' locs' hP hD hS => k ls H' locs' hlen hl ⟨by rw [kW_put]; exact hP, by rw [kW_put]; exact hD, hS⟩)
          · rw [if_neg a4] at h; cases h
  all_goals exact absurd h (by simp [kS])
end KSnd
end
section
/-! THE ENGINE IS SOUND: blocks, calls, methods -/
abbrev kMi : Type := MethodName × ByteArray × Nat × Option FieldType × Nat × Bool × Nat
def kRm (d : Nat) : Room := { frames := d, cells := 0, slots := 0, locals := 64 * d }
def kTb (pc : Nat) : Int → List Int → List (Int32 × Nat) → Prop
  | _, [], [] => True
  | lo, o :: os, q :: r => q.1.toInt = lo ∧ (pc : Int) + o = (q.2 : Int) ∧ kTb pc (lo + 1) os r
  | _, _, _ => False
def kLk (pc : Nat) : List (Int × Int) → List (Int32 × Nat) → Prop
  | [], [] => True
  | o :: os, q :: r => q.1.toInt = o.1 ∧ (pc : Int) + o.2 = (q.2 : Int) ∧ kLk pc os r
  | _, _ => False
def kRok (i : Instr) (a : Nat) (ret : Option FieldType) : Prop := match i with
  | .ireturn => (a = 0 ∧ ret = some .int) ∨ (a = 1 ∧ ret = some .boolean)
  | .lreturn => ret = some .long
  | .return_ => ret = none
  | _ => False
def kCok (tbl : List Jvm.Cond) (mi : Nat → Option kMi) (M : kMi) (pc a b : Nat) : Prop := ∃ (M' : kMi) (idx : Nat), mi a = some M' ∧
  ((M'.2.2.2.2.2.1 = true ∧ b = M'.2.2.2.2.1 ∧ decode M.2.1 pc = .ok (.invokestatic idx, 3) ∧ (Jvm.Cond.methodLink M.1.cls idx M'.1 ∈ tbl ∨ ∃ host, Jvm.Cond.methodLinkNest M.1.cls idx M'.1 host ∈ tbl))
    ∨ (M'.2.2.2.2.2.1 = false ∧ b = M'.2.2.2.2.1 + 1 ∧ decode M.2.1 pc = .ok (.invokevirtual idx, 3) ∧ Jvm.Cond.methodLink M.1.cls idx M'.1 ∈ tbl))
def kOk (tbl : List Jvm.Cond) (cl : List vw_C) (zs : List (String × String × Nat)) (mi : Nat → Option kMi) (M : kMi) : Nat → List kIt → Prop
  | _, [] => True
  | pc, (_, .inl (i, a, b, z)) :: is => decode M.2.1 pc = .ok (i, kLn i) ∧ kWd tbl cl M.1.cls zs i a b z ∧ kOk tbl cl zs mi M (pc + kLn i) is
  | pc, (_, .inr (i, k, a, b, sw)) :: is =>
      (k = 0 → (∃ cd off, (i = .ifCond cd off ∨ i = .if_icmp cd off) ∧ (pc : Int) + off = (a : Int)) ∧ decode M.2.1 pc = .ok (i, 3) ∧ kOk tbl cl zs mi M (pc + 3) is)
    ∧ (k = 1 → a = pc ∨ ∃ off, decode M.2.1 pc = .ok (.goto off, 3) ∧ (pc : Int) + off = (a : Int))
    ∧ (k = 2 → (∃ dflt lo hi offs len, decode M.2.1 pc = .ok (.tableswitch dflt lo hi offs, len) ∧ (pc : Int) + dflt = (a : Int) ∧ hi + 1 = lo + offs.toList.length ∧ kTb pc lo offs.toList sw)
        ∨ ∃ dflt ps len, decode M.2.1 pc = .ok (.lookupswitch dflt ps, len) ∧ (ps.toList.zip (ps.toList.drop 1)).all (fun (a, next) => a.1 < next.1) = true ∧ (pc : Int) + dflt = (a : Int) ∧ kLk pc ps.toList sw)
    ∧ (k = 3 → decode M.2.1 pc = .ok (i, 1) ∧ kRok i a M.2.2.2.1)
    ∧ (k = 4 → kCok tbl mi M pc a b ∧ kOk tbl cl zs mi M (pc + 3) is)
def kMok (tbl : List Jvm.Cond) (cl : List vw_C) (M : kMi) : Prop := plainName M.1.cls = true ∧ Jvm.Cond.code M.1 M.2.1 M.2.2.1 M.2.2.2.1 ∈ tbl ∧ Jvm.Cond.initialized M.1.cls ∈ tbl ∧ (M.1.cls ≠ "java/lang/invoke/MethodHandle" ∧ M.1.cls ≠ "java/lang/invoke/VarHandle")
  ∧ (parseMethodDescriptor M.1.desc).map (fun d => d.parameters.length) = some M.2.2.2.2.1 ∧ M.2.2.1 ≤ 45
  ∧ (M.2.2.2.2.2.1 = true → Jvm.Cond.static M.1 ∈ tbl) ∧ (M.2.2.2.2.2.1 = false → Jvm.Cond.instanceMethod M.1 ∈ tbl ∧ Jvm.Cond.selects M.1.cls M.1 M.1 ∈ tbl ∧ ∃ q : vw_C, cl[M.2.2.2.2.2.2]? = some q ∧ q.1 = M.1.cls)
theorem kSw_tb {α : Type} {k : Nat → α} {pc d : Nat} {x : Int32} : ∀ (offs : List Int) (lo : Int) (sw : List (Int32 × Nat)), kTb pc lo offs sw →
    ((x.toInt < lo ∨ lo + offs.length ≤ x.toInt) ∧ kSw k x d sw = k d) ∨ (¬ x.toInt < lo ∧ x.toInt < lo + offs.length ∧ ∃ (off : Int) (t : Nat), offs[(x.toInt - lo).toNat]? = some off ∧ (pc : Int) + off = (t : Int) ∧ kSw k x d sw = k t)
  | [], lo, [], _ => Or.inl ⟨by simp; omega, rfl⟩
  | [], lo, _ :: _, h => h.elim
  | _ :: _, lo, [], h => h.elim
  | o :: os, lo, q :: r, h => by
    obtain ⟨h1, h2, h3⟩ := h
    by_cases hq : x = q.1
    · right
      have hx : x.toInt = lo := by rw [hq]; exact h1
      refine ⟨by omega, by rw [List.length_cons]; omega, o, q.2, ?_, h2, ?_⟩
      · rw [show (x.toInt - lo).toNat = 0 by omega]; rfl
      · unfold kSw; rw [if_pos hq]
    · have hx : ¬ x.toInt = lo := fun z => hq (Int32.toInt_inj.mp (z.trans h1.symm))
      have e : kSw k x d (q :: r) = kSw k x d r := by
        show (if x = q.1 then k q.2 else kSw k x d r) = _
        rw [if_neg hq]
      rcases kSw_tb (k := k) (d := d) (x := x) os (lo + 1) r h3 with ⟨g1, g2⟩ | ⟨g1, g2, off, t, g3, g4, g5⟩
      · left
        exact ⟨by rw [List.length_cons]; omega, e.trans g2⟩
      · right
        refine ⟨by omega, by rw [List.length_cons]; omega, off, t, ?_, g4, e.trans g5⟩
        rw [show (x.toInt - lo).toNat = (x.toInt - (lo + 1)).toNat + 1 by omega]
        exact g3
theorem kSw_lk {α : Type} {k : Nat → α} {pc d : Nat} {dflt : Int} {x : Int32} (hd : (pc : Int) + dflt = (d : Int)) : ∀ (ps : List (Int × Int)) (sw : List (Int32 × Nat)), kLk pc ps sw → ∃ t : Nat, (pc : Int) + Op.lookupswitch.offset ps dflt x.toInt = (t : Int) ∧ kSw k x d sw = k t
  | [], [], _ => ⟨d, hd, rfl⟩
  | [], _ :: _, h => h.elim
  | _ :: _, [], h => h.elim
  | o :: os, q :: r, h => by
    obtain ⟨h1, h2, h3⟩ := h
    by_cases hq : x = q.1
    · refine ⟨q.2, ?_, ?_⟩
      · rw [Op.lookupswitch.offset_cons, if_pos (by rw [hq, h1])]; exact h2
      · unfold kSw; rw [if_pos hq]
    · obtain ⟨t, g1, g2⟩ := kSw_lk (k := k) (x := x) hd os r h3
      refine ⟨t, ?_, ?_⟩
      · rw [Op.lookupswitch.offset_cons, if_neg (fun z => hq (Int32.toInt_inj.mp (by rw [h1, z])))]; exact g1
      · show (if x = q.1 then k q.2 else kSw k x d r) = _
        rw [if_neg hq]; exact g2
section KSnd
variable {p : Program} {l : Launch} {e : Env} {R : Room} {s : State} {m : MethodId} {args : Array Value} {below : List Frame} {meth : Method} {c : Code} {cells slots : Nat} {Q : State → Prop} {H : Heap} {locs : List Loc}
variable {D : va_G} {cl : List vw_C} {A : Nat → Prop} {tc : Nat → ClassId} {ad : Nat → Nat} {ro : kRo} {Ts tbl : List Jvm.Cond} {zs : List (String × String × Nat)} {pc : Nat} {ls : Array Slot}
/-- a method's start and end, over the lists -/
def kPc (D : va_G) (cl : List vw_C) (tc : Nat → ClassId) (ad : Nat → Nat) (ro : kRo) (zs : List (String × String × Nat)) (as : List Value) (hp : kH) (sz : Nat) : Array Value → State → Prop :=
  va_Pc (as.map (kV ad)) (fun U => U.heap.size = sz ∧ va_P D cl (kW tc ad 0 hp) U.heap ∧ va_K D cl (kTy tc) U ∧ va_D (fun _ => True) (kW tc ad 0 hp) ∧ kRoOk ro ad (va_A (kW tc ad 0 hp) sz) U ∧ kZOk zs ad (va_A (kW tc ad 0 hp) sz) U)
def kQc (D : va_G) (cl : List vw_C) (tc : Nat → ClassId) (ad : Nat → Nat) (hp : kH) (sz : Nat) (r : Option Value) (hp' : kH) : Array Value → State → Outcome → State → Prop := fun _ st oc t =>
  oc = .returned (r.map (kV ad)) ∧ va_P D cl (kW tc ad 0 hp') t.heap ∧ va_D (va_A (kW tc ad 0 hp) sz) (kW tc ad 0 hp') ∧ va_F (va_A (kW tc ad 0 hp) sz) st t
def kMet (l : Launch) (D : va_G) (cl : List vw_C) (tc : Nat → ClassId) (ad : Nat → Nat) (ro : kRo) (tbl : List Jvm.Cond) (zs : List (String × String × Nat)) (d : Nat) (M : kMi) (as : List Value) (hp : kH) (r : Option Value) (hp' : kH) : Prop :=
  ∀ sz, Met l M.1 (.code M.1 M.2.1 M.2.2.1 M.2.2.2.1 :: tbl) (kRm d) (kPc D cl tc ad ro zs as hp sz) (kQc D cl tc ad hp sz r hp') 0 0 (va_A (kW tc ad 0 hp) sz)
theorem kPc_blind (as : List Value) (hp : kH) (sz : Nat) : FrameBlind (kPc D cl tc ad ro zs as hp sz) := by
  intro a U g mk q
  obtain ⟨q0, q1, qP, qK, qD, qR, qZ⟩ := q
  exact ⟨q0, q1, qP, va_K.moved (u := U) (U := U.calling g mk a) (Vm.Alike.refl U.vm) qK, qD, fun x y h => (qR x y h).moved (u := U) (U := U.calling g mk a) (Vm.Alike.refl U.vm), fun x h => (qZ x h).moved (u := U) (U := U.calling g mk a) (Vm.Alike.refl U.vm)⟩
theorem kFree (hA : ∀ q : Nat, s.heap.size ≤ q → A q) {hp : kH} (hI : kIv D cl tc ad A s hp H locs) : ∀ q, va_A (kW tc ad 0 hp) H.size q → A q := by
  intro q h
  rcases h with ⟨k, e', h⟩ | h
  · exact hI.2.1.2 k (q, e') h
  · exact hA q (Nat.le_trans hI.2.2.1 h)
theorem kPc_of (hA : ∀ q : Nat, s.heap.size ≤ q → A q) (hK : va_K D cl (kTy tc) s) (hro : kRoOk ro ad A s) (hz : kZOk zs ad A s) {hp : kH} (hI : kIv D cl tc ad A s hp H locs) (as : List Value) {U : State} (hU : U.heap = H) (hW : s.WarmedH U.vm) : kPc D cl tc ad ro zs as hp H.size (as.map (kV ad)).toArray U := by
  have hF := kFree hA hI
  refine ⟨rfl, by rw [hU], by rw [hU]; exact hI.1, va_K.moved hW.alike hK, hI.2.1.weaken (fun _ _ _ _ => trivial), fun q x h => ?_, fun x h => ?_⟩
  · rw [hU]; exact (((hro q x h).kept (H1 := H) (fun a h1 h2 => hI.2.2.2.1 a h1 h2)).narrow hF).moved hW.alike
  · rw [hU]; exact (((hz x h).kept (H1 := H) (fun a h1 h2 => hI.2.2.2.1 a h1 h2)).narrow hF).moved hW.alike
theorem kCall {rest : List Value} {st0 : List Value} {r : Option Value} {hp hp' : kH} {aa : Array Value} (hA : ∀ q : Nat, s.heap.size ≤ q → A q) (hI : kIv D cl tc ad A s hp H locs)
    (hr : va_Run p l e R s m args below meth c H locs cells slots 0 0 (F0 m pc ls st0) rest (kQc D cl tc ad hp H.size r hp' aa) (va_A (kW tc ad 0 hp) H.size))
    (kk : ∀ (H1 : Heap) (locs1 : List Loc), kIv D cl tc ad A s hp' H1 locs1 → W p l e R s m args below meth c H1 locs1 cells slots Q (F0 m (pc + 3) ls ((r.map (kV ad)).toList ++ rest))) : W p l e R s m args below meth c H locs cells slots Q (F0 m pc ls st0) := by
  have hF := kFree hA hI
  intro T hT X
  obtain ⟨v, st₀, t, T', L, h0, X', hL, e1, e2, ⟨hv, hP, hD, hz, hk⟩, st⟩ := hr T hT X
  cases hv
  rw [h0] at hz hk
  have hS := hI.2.2
  obtain ⟨t2, a1, b1⟩ := kk T'.heap (locs ++ L) ⟨by rw [e1]; exact hP, hD.weaken (fun _ q _ h => hF q.1 h), Nat.le_trans hS.1 (by rw [e1]; exact hz), fun q h1 h2 => by rw [e1, hk q (Nat.lt_of_lt_of_le h1 hS.1) (fun z => h2 (hF q z))]; exact hS.2.1 q h1 h2, fun q hq => by
      rcases List.mem_append.mp hq with h | h
      · exact hS.2.2 q h
      · exact hF _ (hL q h)⟩ T' rfl X'
  exact ⟨t2, st t2 a1, b1⟩
theorem kIf (hx : p.tables.exec = Jvm.exec) {cc : ByteArray} (hb : c.code = cc) {i : Instr} {cd : ClassFile.Cond} {off : Int} {a : Nat} {st : List Value} {w : Bool × List Value} (hi : i = .ifCond cd off ∨ i = .if_icmp cd off) (ha : (pc : Int) + off = (a : Int)) (hd : decode cc pc = .ok (i, 3)) (h : kCd i st = some w)
    (kt : w.1 = true → W p l e R s m args below meth c H locs cells slots Q (F0 m a ls (w.2.map (kV ad)))) (kf : w.1 = false → W p l e R s m args below meth c H locs cells slots Q (F0 m (pc + 3) ls (w.2.map (kV ad)))) : W p l e R s m args below meth c H locs cells slots Q (F0 m pc ls (st.map (kV ad))) := by
  rcases hi with rfl | rfl
  · simp only [kCd] at h
    split at h
    · cases h
      cases cd
      · exact lv_if_eq hx hb hd ha (fun q => kt (decide_eq_true q)) (fun q => kf (decide_eq_false q))
      · exact lv_if_ne hx hb hd ha (fun q => kt (decide_eq_true q)) (fun q => kf (decide_eq_false (fun z => z q)))
      · exact lv_if_lt hx hb hd ha (fun q => kt (decide_eq_true q)) (fun q => kf (decide_eq_false q))
      · exact lv_if_ge hx hb hd ha (fun q => kt (decide_eq_true q)) (fun q => kf (decide_eq_false q))
      · exact lv_if_gt hx hb hd ha (fun q => kt (decide_eq_true q)) (fun q => kf (decide_eq_false q))
      · exact lv_if_le hx hb hd ha (fun q => kt (decide_eq_true q)) (fun q => kf (decide_eq_false q))
    · cases h
  · simp only [kCd] at h
    split at h
    · cases h
      cases cd
      · exact lv_icmp_eq hx hb hd ha (fun q => kt (decide_eq_true q)) (fun q => kf (decide_eq_false q))
      · exact lv_icmp_ne hx hb hd ha (fun q => kt (decide_eq_true q)) (fun q => kf (decide_eq_false (fun z => z q)))
      · exact lv_icmp_lt hx hb hd ha (fun q => kt (decide_eq_true q)) (fun q => kf (decide_eq_false q))
      · exact lv_icmp_ge hx hb hd ha (fun q => kt (decide_eq_true q)) (fun q => kf (decide_eq_false q))
      · exact lv_icmp_gt hx hb hd ha (fun q => kt (decide_eq_true q)) (fun q => kf (decide_eq_false q))
      · exact lv_icmp_le hx hb hd ha (fun q => kt (decide_eq_true q)) (fun q => kf (decide_eq_false q))
    · cases h
set_option maxHeartbeats 4000000 in
theorem kX_ok (hx : p.tables.exec = Jvm.exec) {M : kMi} {mi : Nat → Option kMi} {E : kEo} {J : kJo} {r0 : kR} {d : Nat} (hb : c.code = M.2.1) (hml : c.maxLocals = M.2.2.1) (hown : s.vm.findClass M.1.cls = some m.cls) (hts : ∀ w ∈ Ts, w.before args s = true) (hT : ∀ w ∈ tbl, w ∈ Ts) (hG : ∀ w ∈ tbl, goodWord w = true)
    (hK : va_K D cl (kTy tc) s) (hro : kRoOk ro ad A s) (hz : kZOk zs ad A s) (hA : ∀ q : Nat, s.heap.size ≤ q → A q) (hR : d + 1 ≤ R.frames ∧ 64 * (d + 1) ≤ R.locals ∧ cells ≤ R.cells ∧ slots ≤ R.slots)
    (hMok : ∀ a M', mi a = some M' → kMok tbl cl M')
    (hE : ∀ a M' as hp r, mi a = some M' → E a as hp = some r → kMet l D cl tc ad ro tbl zs d M' as hp r.1 r.2 ∧ (M'.2.2.2.2.2.1 = false → ∃ q As fs, as = .ref q :: As ∧ hp[q]? = some (.inr (M'.2.2.2.2.2.2, fs))))
    (hJ : ∀ t lv st hp (ls : Array Slot) (H : Heap) (locs : List Loc), J t lv st hp = some r0 → lv.length = M.2.2.1 → lv_has ls M.2.2.1 (kLl ad 0 lv) → kIv D cl tc ad A s hp H locs → W p l e R s m args below meth c H locs cells slots Q (F0 m t ls (st.map (kV ad))))
    (hRet : ∀ i a pc st hp (ls : Array Slot) (H : Heap) (locs : List Loc), decode M.2.1 pc = .ok (i, 1) → kRok i a M.2.2.2.1 → kRt i a st hp = some r0 → kIv D cl tc ad A s hp H locs → W p l e R s m args below meth c H locs cells slots Q (F0 m pc ls (st.map (kV ad)))) :
    ∀ (is : List kIt) (pc : Nat) (lv : kL) (st : List Value) (hp : kH) (ls : Array Slot) (H : Heap) (locs : List Loc), kOk tbl cl zs mi M pc is → kX ro E J is lv st hp = some r0 → lv.length = M.2.2.1 → lv_has ls M.2.2.1 (kLl ad 0 lv) → kIv D cl tc ad A s hp H locs → W p l e R s m args below meth c H locs cells slots Q (F0 m pc ls (st.map (kV ad))) := by
  intro is
  induction is with
  | nil => intro pc lv st hp ls H locs _ h; cases h
  | cons it is ih =>
    intro pc lv st hp ls H locs hok h hlen hl hI
    obtain ⟨q, it⟩ := it
    cases it with
    | inl x =>
      obtain ⟨i, a, b, z⟩ := x
      obtain ⟨h1, h2, h3⟩ := hok
      unfold kX at h
      cases hs : kS ro i a b z lv st hp with
      | none => rw [hs] at h; cases h
      | some w =>
        rw [hs] at h
        obtain ⟨lv', st', hp'⟩ := w
        exact kS_ok hx hb hml hown hts hT hK hro hz ⟨by omega, by omega, hR.2.2.1, hR.2.2.2⟩ h2 h1 hs hlen hl hI (fun ls' H' locs' g1 g2 g3 => ih _ _ _ _ _ _ _ h3 h g1 g2 g3)
    | inr x =>
      obtain ⟨i, k, a, b, sw⟩ := x
      obtain ⟨o0, o1, o2, o3, o4⟩ := hok
      unfold kX at h
      by_cases h0 : k = 0
      · rw [if_pos h0] at h
        obtain ⟨⟨cd, off, hi, ha⟩, hd, hrest⟩ := o0 h0
        cases hs : kCd i st with
        | none => rw [hs] at h; cases h
        | some w =>
          rw [hs] at h
          dsimp only at h
          refine kIf hx hb hi ha hd hs (fun hw => ?_) (fun hw => ?_)
          · rw [if_pos hw] at h; exact hJ _ _ _ _ _ _ _ h hlen hl hI
          · rw [if_neg (by rw [hw]; decide)] at h; exact ih _ _ _ _ _ _ _ hrest h hlen hl hI
      · rw [if_neg h0] at h
        by_cases h1 : k = 1
        · rw [if_pos h1] at h
          rcases o1 h1 with rfl | ⟨off, hd, ha⟩
          · exact hJ _ _ _ _ _ _ _ h hlen hl hI
          · exact lv_goto hx hb hd ha (hJ _ _ _ _ _ _ _ h hlen hl hI)
        · rw [if_neg h1] at h
          by_cases h2 : k = 2
          · rw [if_pos h2] at h
            split at h
            · rename_i x r
              rcases o2 h2 with ⟨dflt, lo, hi, offs, len, hd, ha, hhi, htb⟩ | ⟨dflt, ps, len, hd, hsrt, ha, hlk⟩
              · rcases kSw_tb (k := fun t => J t lv r hp) (d := a) (x := x) _ _ _ htb with ⟨g1, g2⟩ | ⟨g1, g2, off, t, g3, g4, g5⟩
                · rw [g2] at h
                  exact lv_tableOut hx hb hd (by omega) ha (hJ _ _ _ _ _ _ _ h hlen hl hI)
                · rw [g5] at h
                  exact lv_tableIn hx hb hd g1 (by omega) (by rw [← Array.getElem?_toList]; exact g3) g4 (hJ _ _ _ _ _ _ _ h hlen hl hI)
              · obtain ⟨t, g1, g2⟩ := kSw_lk (k := fun t => J t lv r hp) (x := x) ha _ _ hlk
                rw [g2] at h
                exact lv_lookup hx hb hd hsrt rfl g1 (hJ _ _ _ _ _ _ _ h hlen hl hI)
            · cases h
          · rw [if_neg h2] at h
            by_cases h3 : k = 3
            · rw [if_pos h3] at h
              exact hRet _ _ _ _ _ _ _ _ (o3 h3).1 (o3 h3).2 h hI
            · rw [if_neg h3] at h
              by_cases h4 : k = 4
              · rw [if_pos h4] at h
                by_cases hln : b ≤ st.length ∧ st.length ≤ b + 4
                · rw [if_pos hln] at h
                  obtain ⟨⟨M', idx, hm, hcall⟩, hrest⟩ := o4 h4
                  cases hs : E a (st.take b).reverse hp with
                  | none => rw [hs] at h; cases h
                  | some w =>
                    rw [hs] at h
                    obtain ⟨hM, hrec⟩ := hE _ _ _ _ _ hm hs
                    obtain ⟨m1, m2, m3, m4, m5, m6, m7, m8⟩ := hMok _ _ hm
                    have htb : ∀ w ∈ tbl, w.before args s = true := fun w q => hts w (hT w q)
                    have hGI : GoodIn Ts (Jvm.Cond.code M'.1 M'.2.1 M'.2.2.1 M'.2.2.2.1 :: tbl) := by
                      intro w hw
                      rcases List.mem_cons.mp hw with rfl | hw
                      · exact ⟨hT _ m2, good_of_word (hG _ m2)⟩
                      · exact ⟨hT _ hw, good_of_word (hG _ hw)⟩
                    have hroom : (kRm d).frames + 1 ≤ R.frames ∧ 8 + (M'.2.2.1 + 11) + (kRm d).locals ≤ R.locals := ⟨hR.1, by have := hR.2.1; show 8 + (M'.2.2.1 + 11) + 64 * d ≤ R.locals; omega⟩
                    have hsum : (((st.drop b).map (kV ad)).map fun v => v.category).sum ≤ 8 := by
                      have := kSum_le ad (st.drop b)
                      rw [List.length_drop] at this
                      omega
                    have hst : st.map (kV ad) = (st.take b).map (kV ad) ++ (st.drop b).map (kV ad) := by rw [← List.map_append, List.take_append_drop]
                    have hgo : ∀ (H1 : Heap) (locs1 : List Loc), kIv D cl tc ad A s w.2 H1 locs1 → W p l e R s m args below meth c H1 locs1 cells slots Q (F0 m (pc + 3) ls ((w.1.map (kV ad)).toList ++ (st.drop b).map (kV ad))) := by
                      intro H1 locs1 hI1
                      have := ih (pc + 3) lv (w.1.toList ++ st.drop b) w.2 ls H1 locs1 hrest h hlen hl hI1
                      rw [List.map_append] at this
                      rw [show (w.1.map (kV ad)).toList = w.1.toList.map (kV ad) by cases w.1 <;> rfl]
                      exact this
                    rcases hcall with ⟨c1, c2, c3, c4⟩ | ⟨c1, c2, c3, c4⟩
                    · have hAs : ((st.take b).reverse.map (kV ad)).length = M'.2.2.2.2.1 := by
                        rw [List.length_map, List.length_reverse, List.length_take]; omega
                      have hpre : PreS s H (kPc D cl tc ad ro zs (st.take b).reverse hp H.size) ((st.take b).reverse.map (kV ad)) := ⟨kPc_blind _ _ _, fun U hU hW => kPc_of hA hK hro hz hI _ hU hW⟩
                      have hstk : st.map (kV ad) = ((st.take b).reverse.map (kV ad)).reverse ++ (st.drop b).map (kV ad) := by
                        rw [← List.map_reverse, List.reverse_reverse]; exact hst
                      rcases c4 with c4 | ⟨host, c4⟩
                      · exact kCall hA hI (va_runS (g := F0 m pc ls (st.map (kV ad))) ⟨hx, hb, hml, hown, hts⟩ (hM H.size) ⟨callB_of M'.2.2.2.2.1 hts hGI rfl rfl rfl (htb _ m3) (htb _ c4) ⟨m4.1, m4.2, m5⟩ hroom, htb _ (m7 c1)⟩ hpre rfl hAs hl.1 hstk (lv_room hsum) c3 ⟨hR.2.2.1, hR.2.2.2⟩) hgo
                      · exact kCall hA hI (va_runSN (g := F0 m pc ls (st.map (kV ad))) ⟨hx, hb, hml, hown, hts⟩ (hM H.size) ⟨va_cnB M'.2.2.2.2.1 hts hGI rfl rfl rfl (htb _ c4) (htb _ m3) ⟨m4.1, m4.2, m5⟩ hroom, htb _ (m7 c1), trivial⟩ hpre rfl hAs hl.1 hstk (lv_room hsum) c3 ⟨hR.2.2.1, hR.2.2.2⟩) hgo
                    · obtain ⟨i1, i2, ⟨C', T', N'⟩, i3, i4⟩ := m8 c1
                      obtain ⟨q0, As, fs, e1, e2⟩ := hrec c1
                      have hAs : (As.map (kV ad)).length = M'.2.2.2.2.1 := by
                        have h9 := congrArg List.length e1
                        rw [List.length_reverse, List.length_take, List.length_cons] at h9
                        rw [List.length_map]; omega
                      have hpre : PreV s H M'.1.cls (ad q0) (kPc D cl tc ad ro zs (st.take b).reverse hp H.size) (As.map (kV ad)) := by
                        refine ⟨kPc_blind _ _ _, ?_, fun U hU hW => ?_⟩
                        · have := va_recv hK hI.1 i3 (kW_at e2)
                          rw [← i4]; exact this
                        · have := kPc_of hA hK hro hz hI (st.take b).reverse hU hW
                          rw [e1] at this ⊢
                          exact this
                      have hstk : st.map (kV ad) = (As.map (kV ad)).reverse ++ .ref (ad q0) :: (st.drop b).map (kV ad) := by
                        have h9 : st.take b = As.reverse ++ [.ref q0] := by
                          have := congrArg List.reverse e1
                          rw [List.reverse_reverse, List.reverse_cons] at this
                          exact this
                        rw [hst, h9, List.map_append, List.map_reverse, List.append_assoc]; rfl
                      exact kCall hA hI (va_runV (g := F0 m pc ls (st.map (kV ad))) ⟨hx, hb, hml, hown, hts⟩ (hM H.size) ⟨callB_of M'.2.2.2.2.1 hts hGI rfl rfl rfl (htb _ m3) (htb _ c4) ⟨m4.1, m4.2, m5⟩ hroom, htb _ i1, htb _ i2⟩ hpre rfl hAs hl.1 hstk (lv_room hsum) c3 ⟨hR.2.2.1, hR.2.2.2⟩) hgo
                · rw [if_neg hln] at h; cases h
              · rw [if_neg h4] at h; cases h
end KSnd
end
section
/-! THE ENGINE IS SOUND: methods, by the depth of their calls -/
theorem kLl_none (ad : Nat → Nat) : ∀ (k i : Nat), kLl ad i (List.replicate k none) = []
  | 0, i => rfl
  | k + 1, i => by rw [List.replicate_succ]; exact kLl_none ad k (i + 1)
theorem kLl_args (ad : Nat → Nat) (k : Nat) : ∀ (as : List Value) (i : Nat), kLl ad i ((as.flatMap fun v => if v.category = 2 then [some v, none] else [some v]) ++ List.replicate k none) = lv_args i (as.map (kV ad))
  | [], i => by simp [kLl_none, lv_args]
  | v :: r, i => by
    rw [List.flatMap_cons, List.append_assoc, List.map_cons]
    by_cases h : v.category = 2
    · have e : lv_args i (kV ad v :: r.map (kV ad)) = (i, kV ad v) :: lv_args (i + 2) (r.map (kV ad)) := by
        show (i, kV ad v) :: lv_args (if (kV ad v).category = 2 then i + 2 else i + 1) (r.map (kV ad)) = _
        rw [kV_cat, if_pos h]
      rw [if_pos h, e, ← kLl_args ad k r (i + 2)]
      rfl
    · have e : lv_args i (kV ad v :: r.map (kV ad)) = (i, kV ad v) :: lv_args (i + 1) (r.map (kV ad)) := by
        show (i, kV ad v) :: lv_args (if (kV ad v).category = 2 then i + 2 else i + 1) (r.map (kV ad)) = _
        rw [kV_cat, if_neg h]
      rw [if_neg h, e, ← kLl_args ad k r (i + 1)]
      rfl
theorem kSl_len (ad : Nat → Nat) : ∀ (as : List Value), (lg_sl (as.map (kV ad))).length = (as.flatMap fun v => if v.category = 2 then [some v, none] else [some v]).length
  | [] => rfl
  | v :: r => by
    have h := kSl_len ad r
    unfold lg_sl at h ⊢
    rw [List.map_cons, List.flatMap_cons, List.flatMap_cons, List.length_append, List.length_append, h, kV_cat]
    by_cases hc : v.category = 2
    · rw [if_pos hc, if_pos hc]; rfl
    · rw [if_neg hc, if_neg hc]; rfl
theorem kEnt_has (ad : Nat → Nat) (n : Nat) (as : List Value) (h : (kEnt n as).length = n) : lv_has ((lg_sl (as.map (kV ad)) ++ List.replicate (n - (lg_sl (as.map (kV ad))).length) Slot.unset).toArray) n (kLl ad 0 (kEnt n as)) := by
  have hl : (lg_sl (as.map (kV ad))).length ≤ n := by
    rw [kSl_len]
    unfold kEnt at h
    rw [List.length_append, List.length_replicate] at h
    omega
  have h1 := lv_entry (as.map (kV ad)) hl
  unfold kEnt
  rw [kLl_args]
  exact h1
section KSnd
variable {p : Program} {l : Launch} {e : Env} {R : Room} {s : State} {m : MethodId} {args : Array Value} {below : List Frame} {meth : Method} {c : Code} {cells slots : Nat} {Q : State → Prop} {H : Heap} {locs : List Loc}
variable {D : va_G} {cl : List vw_C} {A : Nat → Prop} {tc : Nat → ClassId} {ad : Nat → Nat} {ro : kRo} {Ts tbl : List Jvm.Cond} {zs : List (String × String × Nat)} {pc : Nat} {ls : Array Slot}
theorem kU_ok (hx : p.tables.exec = Jvm.exec) {M : kMi} {mi : Nat → Option kMi} {E : kEo} {blk : Nat → Nat → List kIt} {mm : Nat} {r0 : kR} {d : Nat} (hb : c.code = M.2.1) (hml : c.maxLocals = M.2.2.1) (hown : s.vm.findClass M.1.cls = some m.cls) (hts : ∀ w ∈ Ts, w.before args s = true) (hT : ∀ w ∈ tbl, w ∈ Ts) (hG : ∀ w ∈ tbl, goodWord w = true)
    (hK : va_K D cl (kTy tc) s) (hro : kRoOk ro ad A s) (hz : kZOk zs ad A s) (hA : ∀ q : Nat, s.heap.size ≤ q → A q) (hR : d + 1 ≤ R.frames ∧ 64 * (d + 1) ≤ R.locals ∧ cells ≤ R.cells ∧ slots ≤ R.slots)
    (hMok : ∀ a M', mi a = some M' → kMok tbl cl M') (hblk : ∀ t, kOk tbl cl zs mi M t (blk mm t))
    (hE : ∀ a M' as hp r, mi a = some M' → E a as hp = some r → kMet l D cl tc ad ro tbl zs d M' as hp r.1 r.2 ∧ (M'.2.2.2.2.2.1 = false → ∃ q As fs, as = .ref q :: As ∧ hp[q]? = some (.inr (M'.2.2.2.2.2.2, fs))))
    (hRet : ∀ i a pc st hp (ls : Array Slot) (H : Heap) (locs : List Loc), decode M.2.1 pc = .ok (i, 1) → kRok i a M.2.2.2.1 → kRt i a st hp = some r0 → kIv D cl tc ad A s hp H locs → W p l e R s m args below meth c H locs cells slots Q (F0 m pc ls (st.map (kV ad))))
    {t : Nat} {lv : kL} {st : List Value} {hp : kH} (h : kU ro blk E mm t lv st hp = some r0) (hlen : lv.length = M.2.2.1) (hl : lv_has ls M.2.2.1 (kLl ad 0 lv)) (hI : kIv D cl tc ad A s hp H locs) :
    W p l e R s m args below meth c H locs cells slots Q (F0 m t ls (st.map (kV ad))) := by
  obtain ⟨n, hn⟩ := kU_iff.mp h
  clear h
  induction n generalizing t lv st hp ls H locs with
  | zero => cases hn
  | succ n ih => exact kX_ok hx hb hml hown hts hT hG hK hro hz hA hR hMok hE (fun t lv st hp ls H locs g1 g2 g3 g4 => ih g2 g3 g4 g1) hRet (blk mm t) t lv st hp ls H locs (hblk t) hn hlen hl hI
theorem kRc_inv {ci : Nat} {as : List Value} {hp : kH} (h : kRc (some ci) as hp = true) : ∃ q As fs, as = .ref q :: As ∧ hp[q]? = some (.inr (ci, fs)) := by
  unfold kRc at h
  dsimp only at h
  split at h
  · rename_i q As
    cases ho : kObj hp q ci with
    | none => rw [ho] at h; cases h
    | some fs => exact ⟨q, As, fs, rfl, kObj_inv ho⟩
  · cases h
set_option maxHeartbeats 4000000 in
theorem kM_ok {mi : Nat → Option kMi} {blk : Nat → Nat → List kIt} {mx : Nat → Nat} {rc : Nat → Option Nat} (hG : ∀ w ∈ tbl, goodWord w = true)
    (hMok : ∀ a M', mi a = some M' → kMok tbl cl M') (hblk : ∀ a M', mi a = some M' → ∀ t, kOk tbl cl zs mi M' t (blk a t)) (hmx : ∀ a M', mi a = some M' → mx a = M'.2.2.1 ∧ (M'.2.2.2.2.2.1 = false → rc a = some M'.2.2.2.2.2.2)) :
    ∀ (d : Nat) (a : Nat) (M' : kMi) (as : List Value) (hp : kH) (r : kR), mi a = some M' → kM ro blk mx rc d a as hp = some r → kMet l D cl tc ad ro tbl zs d M' as hp r.1 r.2 ∧ (M'.2.2.2.2.2.1 = false → ∃ q As fs, as = .ref q :: As ∧ hp[q]? = some (.inr (M'.2.2.2.2.2.2, fs))) := by
  intro d
  induction d with
  | zero =>
    intro a M' as hp r hm h
    unfold kM kMof at h
    split at h
    · cases h
    · cases h
  | succ d ih =>
    intro a M' as hp r hm h
    unfold kM kMof at h
    split at h
    · rename_i hc
      obtain ⟨hc1, hc2⟩ := hc
      obtain ⟨x1, x2⟩ := hmx a M' hm
      refine ⟨?_, fun hs => kRc_inv (by rw [← x2 hs]; exact hc2)⟩
      obtain ⟨y, cc, maxL, ret, n, sta, ci⟩ := M'
      dsimp only at x1
      intro sz
      have hmk := hMok a _ hm
      rw [x1] at hc1 h
      refine Met.ofW (cc := cc) (maxL := maxL) (ret := ret) hmk.1 rfl ?_
      intro p e s m args below meth c s₁ B hml hv
      obtain ⟨rfl, hsz, hP, hK, hD0, hro, hz⟩ := hv
      have hx := B.exec
      have hb := B.bytes
      have hr := B.returns
      have hts := atoms_spec (ws := Jvm.Cond.code y cc maxL ret :: tbl) B.pre
      have hown : s.vm.findClass y.cls = some m.cls := findClass_of_methodNamed B.named
      have hlocks := B.notSynchronized
      subst hsz
      have hD := hD0.self (sz := s.heap.size)
      have hA : ∀ q : Nat, s.heap.size ≤ q → va_A (kW tc ad 0 hp) s.heap.size q := fun q h => Or.inr h
      rw [lg_entry_eq]
      refine kU_ok (M := (y, cc, maxL, ret, n, sta, ci)) (mm := a) (r0 := r) (d := d) (st := []) (tbl := tbl) (mi := mi) hx hb hml hown hts (fun w q => List.mem_cons_of_mem _ q) hG hK hro hz hA ⟨Nat.le_refl _, Nat.le_refl _, Nat.le_refl _, Nat.le_refl _⟩ hMok (hblk a _ hm) ih ?_ h hc1 (kEnt_has ad maxL as hc1) ⟨hP, hD, va_S.rf⟩
      intro i a2 pc st hp2 ls H locs hd hrk hrt hI
      have hfin : ∀ (v : Option Value) (t : State), t.heap = H → r = (v, hp2) → kQc D cl tc ad hp s.heap.size r.1 r.2 (as.map (kV ad)).toArray s (.returned (v.map (kV ad))) t := by
        intro v t ht hr0
        rw [hr0]
        exact ⟨rfl, by rw [ht]; exact hI.1, hI.2.1, hI.2.2.F ht⟩
      cases i
      case ireturn =>
        simp only [kRt] at hrt
        split at hrt
        · rename_i x
          rcases hrk with ⟨z1, z2⟩ | ⟨z1, z2⟩
          · subst z1
            rw [if_pos rfl] at hrt
            exact W.iret (v := x) hx hb (hr.trans z2) (fun t ht _ => hfin (some (.int x)) t ht (Option.some.inj hrt).symm) hI.2.2.2.2 hd
          · subst z1
            rw [if_neg (by decide)] at hrt
            split at hrt
            · rename_i h01
              exact W.zret (v := x) hx hb (hr.trans z2) (by rcases h01 with rfl | rfl <;> rfl) (fun t ht _ => hfin (some (.int x)) t ht (Option.some.inj hrt).symm) hI.2.2.2.2 hd
            · cases hrt
        · cases hrt
      case lreturn =>
        simp only [kRt] at hrt
        split at hrt
        · rename_i x
          exact W.lret (v := x) hx hb (hr.trans hrk) (fun t ht _ => hfin (some (.long x)) t ht (Option.some.inj hrt).symm) hI.2.2.2.2 hd
        · cases hrt
      case return_ =>
        simp only [kRt] at hrt
        split at hrt
        · exact W.vret hx hb (hr.trans hrk) (fun t ht _ => hfin none t ht (Option.some.inj hrt).symm) hI.2.2.2.2 hd
        · cases hrt
      all_goals exact hrk.elim
    · cases h
end KSnd
end
section
/-! A CHECK of blocks by program: what it lets through is so (kOk) -/
/-- the tables of links of one file's own numbers: fields (idx, sort, place), fields that may be put (sort, place, kind), statics (idx, place), ints (idx, value), longs, calls (idx, method, how many, static), library calls (idx, which) -/
abbrev kTab : Type := List (Nat × Nat × Nat) × List (Nat × Nat) × List (Nat × Int) × List (Nat × Int) × List (Nat × Nat × Nat × Bool) × List (Nat × Nat)
def kWdB (tb : kTab) (pl : List (Nat × Nat × Int)) (i : Instr) (a b : Nat) (z : Int) : Bool := match i with
  | .bipush n => decide ((Int8.ofInt n).toInt32 = Int32.ofInt n)
  | .sipush n => decide ((Int16.ofInt n).toInt32 = Int32.ofInt n)
  | .ldc idx => decide ((idx, z) ∈ tb.2.2.1)
  | .ldc_w idx => decide ((idx, z) ∈ tb.2.2.1)
  | .ldc2_w idx => decide ((idx, z) ∈ tb.2.2.2.1)
  | .getfield idx => decide ((idx, a, b) ∈ tb.1)
  | .putfield idx => decide ((idx, a, b) ∈ tb.1) && decide ((a, b, z) ∈ pl)
  | .getstatic idx => decide ((idx, a) ∈ tb.2.1)
  | .baload => a == 2 || a == 3
  | .bastore => a == 2 || a == 3
  | .invokestatic idx => decide ((idx, a) ∈ tb.2.2.2.2.2)
  | _ => true
def kBrB (pc : Nat) (i : Instr) (a : Nat) : Bool := match i with
  | .ifCond _ off => decide ((pc : Int) + off = (a : Int))
  | .if_icmp _ off => decide ((pc : Int) + off = (a : Int))
  | _ => false
def kTbB (pc : Nat) : Int → List Int → List (Int32 × Nat) → Bool
  | _, [], [] => true
  | lo, o :: os, q :: r => decide (q.1.toInt = lo) && decide ((pc : Int) + o = (q.2 : Int)) && kTbB pc (lo + 1) os r
  | _, _, _ => false
def kLkB (pc : Nat) : List (Int × Int) → List (Int32 × Nat) → Bool
  | [], [] => true
  | o :: os, q :: r => decide (q.1.toInt = o.1) && decide ((pc : Int) + o.2 = (q.2 : Int)) && kLkB pc os r
  | _, _ => false
def kRokB (i : Instr) (a : Nat) (ret : Option FieldType) : Bool := match i with
  | .ireturn => (a == 0 && decide (ret = some .int)) || (a == 1 && decide (ret = some .boolean))
  | .lreturn => decide (ret = some .long)
  | .return_ => decide (ret = none)
  | _ => false
def kGoB (cc : ByteArray) (pc a : Nat) : Bool := a == pc || (match decode cc pc with
  | .ok (.goto off, n) => n == 3 && decide ((pc : Int) + off = (a : Int))
  | _ => false)
def kSwB (cc : ByteArray) (pc a : Nat) (sw : List (Int32 × Nat)) : Bool := match decode cc pc with
  | .ok (.tableswitch dflt lo hi offs, _) => decide ((pc : Int) + dflt = (a : Int)) && decide (hi + 1 = lo + offs.toList.length) && kTbB pc lo offs.toList sw
  | .ok (.lookupswitch dflt ps, _) => (ps.toList.zip (ps.toList.drop 1)).all (fun (a, next) => a.1 < next.1) && decide ((pc : Int) + dflt = (a : Int)) && kLkB pc ps.toList sw
  | _ => false
def kCaB (tb : kTab) (cc : ByteArray) (pc a b : Nat) : Bool := match decode cc pc with
  | .ok (.invokestatic idx, n) => n == 3 && decide ((idx, a, b, true) ∈ tb.2.2.2.2.1)
  | .ok (.invokevirtual idx, n) => n == 3 && decide ((idx, a, b, false) ∈ tb.2.2.2.2.1)
  | _ => false
def kOkB (tb : kTab) (pl : List (Nat × Nat × Int)) (cc : ByteArray) (ret : Option FieldType) : Nat → List kIt → Bool
  | _, [] => true
  | pc, (_, .inl (i, a, b, z)) :: is => decide (decode cc pc = .ok (i, kLn i)) && (kWdB tb pl i a b z && kOkB tb pl cc ret (pc + kLn i) is)
  | pc, (_, .inr (i, k, a, b, sw)) :: is =>
    if k = 0 then decide (decode cc pc = .ok (i, 3)) && (kBrB pc i a && kOkB tb pl cc ret (pc + 3) is)
    else if k = 1 then kGoB cc pc a
    else if k = 2 then kSwB cc pc a sw
    else if k = 3 then decide (decode cc pc = .ok (i, 1)) && kRokB i a ret
    else if k = 4 then kCaB tb cc pc a b && kOkB tb pl cc ret (pc + 3) is
    else true
/-- what the tables of links stand for -/
def kTabOk (tbl : List Jvm.Cond) (cl : List vw_C) (zs : List (String × String × Nat)) (mi : Nat → Option kMi) (own : String) (tb : kTab) : Prop :=
  (∀ x ∈ tb.1, ∃ q : vw_C, cl[x.2.1]? = some q ∧ x.2.2 < q.2.2 ∧ (q.2.1 x.2.2).1 = q.1 ∧ Jvm.Cond.fieldLink own x.1 q.1 (q.2.1 x.2.2).2.1 (q.2.1 x.2.2).2.2.1 ∈ tbl)
  ∧ (∀ x ∈ tb.2.1, ∃ C n host : String, (C, n, x.2) ∈ zs ∧ (Jvm.Cond.fieldLink own x.1 C n "[I" ∈ tbl ∨ Jvm.Cond.fieldLinkNest own x.1 C n "[I" host ∈ tbl))
  ∧ (∀ x ∈ tb.2.2.1, Jvm.Cond.constant own x.1 (Int32.ofInt x.2) ∈ tbl)
  ∧ (∀ x ∈ tb.2.2.2.1, Jvm.Cond.constantLong own x.1 (Int64.ofInt x.2) ∈ tbl)
  ∧ (∀ x ∈ tb.2.2.2.2.1, ∃ M' : kMi, mi x.2.1 = some M' ∧ M'.2.2.2.2.2.1 = x.2.2.2 ∧ x.2.2.1 = (if x.2.2.2 = true then M'.2.2.2.2.1 else M'.2.2.2.2.1 + 1) ∧ (Jvm.Cond.methodLink own x.1 M'.1 ∈ tbl ∨ (x.2.2.2 = true ∧ ∃ host, Jvm.Cond.methodLinkNest own x.1 M'.1 host ∈ tbl)))
  ∧ (∀ x ∈ tb.2.2.2.2.2, ((x.2 = 1 → Jvm.Cond.methodLink own x.1 Lib.Math.max.name ∈ tbl ∧ Jvm.Cond.static Lib.Math.max.name ∈ tbl ∧ Jvm.Cond.initialized "java/lang/Math" ∈ tbl ∧ Jvm.Cond.code Lib.Math.max.name Lib.Math.max.code 2 (some .int) ∈ tbl)
      ∧ (x.2 = 2 → Jvm.Cond.methodLink own x.1 Lib.Math.min.name ∈ tbl ∧ Jvm.Cond.static Lib.Math.min.name ∈ tbl ∧ Jvm.Cond.initialized "java/lang/Math" ∈ tbl ∧ Jvm.Cond.code Lib.Math.min.name Lib.Math.min.code 2 (some .int) ∈ tbl)
      ∧ (x.2 = 3 ∨ x.2 = 4 → Jvm.Cond.methodLink own x.1 arraycopyName ∈ tbl ∧ Jvm.Cond.native arraycopyName ∈ tbl ∧ Jvm.Cond.static arraycopyName ∈ tbl ∧ Jvm.Cond.initialized "java/lang/System" ∈ tbl)))
def kPlOk (cl : List vw_C) (pl : List (Nat × Nat × Int)) : Prop := ∀ x ∈ pl, ∃ (q : vw_C) (ty0 : Nat → FieldType), cl[x.1]? = some q ∧ (q.2.1 x.2.1).2.2.2 = false ∧ (∀ k, k < q.2.2 → parseFieldDescriptor (q.2.1 k).2.2.1 = some (ty0 k)) ∧ (∀ a, a < q.2.2 → ∀ b, b < q.2.2 → a ≠ b → (q.2.1 a).2.1 ≠ (q.2.1 b).2.1) ∧ ((x.2.2 = 0 ∧ ty0 x.2.1 = .int) ∨ (x.2.2 = 1 ∧ ty0 x.2.1 = .boolean) ∨ (x.2.2 = 2 ∧ ty0 x.2.1 = .array .int))
def kClOk (tbl : List Jvm.Cond) (cl : List vw_C) : Prop := ∀ (a : Nat) (q : vw_C), cl[a]? = some q → ∀ w ∈ u_ws q.1 q.2.1 q.2.2, w ∈ tbl
section KChk
variable {tbl : List Jvm.Cond} {cl : List vw_C} {zs : List (String × String × Nat)} {mi : Nat → Option kMi} {own : String} {tb : kTab} {pl : List (Nat × Nat × Int)}
theorem kWdB_ok (hT : kTabOk tbl cl zs mi own tb) (hP : kPlOk cl pl) (hC : kClOk tbl cl) {i : Instr} {a b : Nat} {z : Int} (h : kWdB tb pl i a b z = true) : kWd tbl cl own zs i a b z := by
  obtain ⟨t1, t2, t3, t4, t5, t6⟩ := hT
  cases i
  case bipush n =>
    have h' : decide ((Int8.ofInt n).toInt32 = Int32.ofInt n) = true := h
    have h2 := of_decide_eq_true h'
    exact h2
  case sipush n =>
    have h' : decide ((Int16.ofInt n).toInt32 = Int32.ofInt n) = true := h
    have h2 := of_decide_eq_true h'
    exact h2
  case ldc n => exact t3 _ (of_decide_eq_true h)
  case ldc_w n => exact t3 _ (of_decide_eq_true h)
  case ldc2_w n => exact t4 _ (of_decide_eq_true h)
  case getfield n =>
    obtain ⟨q, h1, h2, h3, h4⟩ := t1 _ (of_decide_eq_true h)
    exact ⟨q, h1, h2, h3, h4, hC _ _ h1⟩
  case putfield n =>
    have h := Bool.and_eq_true_iff.mp h
    obtain ⟨q, h1, h2, h3, h4⟩ := t1 _ (of_decide_eq_true h.1)
    obtain ⟨q', ty0, g1, g2, g3, g4, g5⟩ := hP _ (of_decide_eq_true h.2)
    cases h1.symm.trans g1
    exact ⟨q, ty0, h1, h2, h3, h4, hC _ _ h1, g2, g3, g4, g5⟩
  case getstatic n => exact t2 _ (of_decide_eq_true h)
  case baload =>
    simp only [kWdB, Bool.or_eq_true, beq_iff_eq] at h
    exact h
  case bastore =>
    simp only [kWdB, Bool.or_eq_true, beq_iff_eq] at h
    exact h
  case invokestatic n => exact t6 _ (of_decide_eq_true h)
  all_goals trivial
theorem kTbB_ok {pc : Nat} : ∀ (lo : Int) (os : List Int) (sw : List (Int32 × Nat)), kTbB pc lo os sw = true → kTb pc lo os sw
  | _, [], [], _ => trivial
  | lo, o :: os, q :: r, h => by
    simp only [kTbB, Bool.and_eq_true, decide_eq_true_eq] at h
    exact ⟨h.1.1, h.1.2, kTbB_ok _ _ _ h.2⟩
  | _, [], _ :: _, h => by cases h
  | _, _ :: _, [], h => by cases h
theorem kLkB_ok {pc : Nat} : ∀ (os : List (Int × Int)) (sw : List (Int32 × Nat)), kLkB pc os sw = true → kLk pc os sw
  | [], [], _ => trivial
  | o :: os, q :: r, h => by
    simp only [kLkB, Bool.and_eq_true, decide_eq_true_eq] at h
    exact ⟨h.1.1, h.1.2, kLkB_ok _ _ h.2⟩
  | [], _ :: _, h => by cases h
  | _ :: _, [], h => by cases h
theorem kRokB_ok {i : Instr} {a : Nat} {ret : Option FieldType} (h : kRokB i a ret = true) : kRok i a ret := by
  cases i
  case ireturn =>
    simp only [kRokB, Bool.or_eq_true, Bool.and_eq_true, beq_iff_eq, decide_eq_true_eq] at h
    exact h
  case lreturn =>
    have h' : decide (ret = some .long) = true := h
    have h2 := of_decide_eq_true h'
    exact h2
  case return_ =>
    have h' : decide (ret = none) = true := h
    have h2 := of_decide_eq_true h'
    exact h2
  all_goals cases h
theorem kOkB_ok {M : kMi} (hown : M.1.cls = own) (hT : kTabOk tbl cl zs mi own tb) (hP : kPlOk cl pl) (hC : kClOk tbl cl) : ∀ (is : List kIt) (pc : Nat), kOkB tb pl M.2.1 M.2.2.2.1 pc is = true → kOk tbl cl zs mi M pc is
  | [], pc, _ => trivial
  | (_, .inl (i, a, b, z)) :: is, pc, h => by
    simp only [kOkB, Bool.and_eq_true, decide_eq_true_eq] at h
    exact ⟨h.1, by rw [hown]; exact kWdB_ok hT hP hC h.2.1, kOkB_ok hown hT hP hC is _ h.2.2⟩
  | (_, .inr (i, k, a, b, sw)) :: is, pc, h => by
    unfold kOkB at h
    refine ⟨fun h0 => ?_, fun h1 => ?_, fun h2 => ?_, fun h3 => ?_, fun h4 => ?_⟩
    · rw [if_pos h0] at h
      simp only [Bool.and_eq_true, decide_eq_true_eq] at h
      refine ⟨?_, h.1, kOkB_ok hown hT hP hC is _ h.2.2⟩
      have hb := h.2.1
      cases i
      case ifCond cd off => exact ⟨cd, off, Or.inl rfl, of_decide_eq_true hb⟩
      case if_icmp cd off => exact ⟨cd, off, Or.inr rfl, of_decide_eq_true hb⟩
      all_goals cases hb
    · subst h1
      rw [if_neg (by decide), if_pos rfl] at h
      unfold kGoB at h
      rw [Bool.or_eq_true] at h
      rcases h with h | h
      · exact Or.inl (by simpa using h)
      · split at h
        · rename_i off n hd
          simp only [Bool.and_eq_true, beq_iff_eq, decide_eq_true_eq] at h
          obtain ⟨rfl, h⟩ := h
          exact Or.inr ⟨off, hd, h⟩
        · cases h
    · subst h2
      rw [if_neg (by decide), if_neg (by decide), if_pos rfl] at h
      unfold kSwB at h
      split at h
      · rename_i dflt lo hi offs len hd
        simp only [Bool.and_eq_true, decide_eq_true_eq] at h
        exact Or.inl ⟨dflt, lo, hi, offs, len, hd, h.1.1, h.1.2, kTbB_ok _ _ _ h.2⟩
      · rename_i dflt ps len hd
        rw [Bool.and_eq_true, Bool.and_eq_true] at h
        exact Or.inr ⟨dflt, ps, len, hd, h.1.1, of_decide_eq_true h.1.2, kLkB_ok _ _ h.2⟩
      · cases h
    · subst h3
      rw [if_neg (by decide), if_neg (by decide), if_neg (by decide), if_pos rfl] at h
      simp only [Bool.and_eq_true, decide_eq_true_eq] at h
      exact ⟨h.1, kRokB_ok h.2⟩
    · subst h4
      rw [if_neg (by decide), if_neg (by decide), if_neg (by decide), if_neg (by decide), if_pos rfl] at h
      rw [Bool.and_eq_true] at h
      refine ⟨?_, kOkB_ok hown hT hP hC is _ h.2⟩
      have hc := h.1
      unfold kCaB at hc
      split at hc
      · rename_i idx n hd
        simp only [Bool.and_eq_true, beq_iff_eq, decide_eq_true_eq] at hc
        obtain ⟨rfl, hc⟩ := hc
        obtain ⟨M', g1, g2, g3, g4⟩ := hT.2.2.2.2.1 _ hc
        refine ⟨M', idx, g1, Or.inl ⟨g2, g3, hd, ?_⟩⟩
        rw [hown]
        rcases g4 with g4 | ⟨-, g4⟩
        · exact Or.inl g4
        · exact Or.inr g4
      · rename_i idx n hd
        simp only [Bool.and_eq_true, beq_iff_eq, decide_eq_true_eq] at hc
        obtain ⟨rfl, hc⟩ := hc
        obtain ⟨M', g1, g2, g3, g4⟩ := hT.2.2.2.2.1 _ hc
        refine ⟨M', idx, g1, Or.inr ⟨g2, g3, hd, ?_⟩⟩
        rw [hown]
        rcases g4 with g4 | ⟨g5, -⟩
        · exact g4
        · cases g5
      · cases hc
end KChk
def kLook (t : Nat) : List (Nat × List kIt) → List kIt
  | [] => []
  | q :: r => if q.1 = t then q.2 else kLook t r
theorem kLook_all {f : Nat → List kIt → Bool} (h0 : ∀ t, f t [] = true) {t : Nat} : ∀ (bs : List (Nat × List kIt)), bs.all (fun q => f q.1 q.2) = true → f t (kLook t bs) = true
  | [], _ => h0 t
  | q :: r, h => by
    rw [List.all_cons, Bool.and_eq_true] at h
    unfold kLook
    split
    · rename_i hq; rw [← hq]; exact h.1
    · exact kLook_all h0 r h.2
end
section
set_option maxRecDepth 100000 in
theorem zz_1 : lw_tbl[1531]? = lw_tbl[1531]? := rfl
set_option maxRecDepth 100000 in
theorem zz_2 : ∃ w, lw_tbl[1531]? = some w := ⟨_, rfl⟩
set_option maxRecDepth 100000 in
theorem zz_c0 : lw_tbl[105]? = some (Jvm.Cond.code ({ cls := "PennyALap", name := "<init>", desc := "()V" } : Jvm.MethodName) prog_1_method_1_code (1 : Nat) (Option.none : Option Jvm.ClassFile.FieldType)) := rfl
set_option maxRecDepth 100000 in
theorem zz_c1 : lw_tbl[447]? = some (Jvm.Cond.code ({ cls := "PennyALap$Changes", name := "add", desc := "(III)V" } : Jvm.MethodName) prog_3_method_3_code (4 : Nat) (Option.none : Option Jvm.ClassFile.FieldType)) := rfl
set_option maxRecDepth 100000 in
theorem zz_c2 : lw_tbl[568]? = some (Jvm.Cond.code ({ cls := "PennyALap$Law", name := "turned", desc := "(II)I" } : Jvm.MethodName) prog_7_method_19_code (2 : Nat) (Option.some Jvm.ClassFile.FieldType.int)) := rfl
set_option maxRecDepth 100000 in
theorem zz_c3 : lw_tbl[696]? = some (Jvm.Cond.code ({ cls := "PennyALap", name := "top", desc := "(I)I" } : Jvm.MethodName) prog_1_method_20_code (3 : Nat) (Option.some Jvm.ClassFile.FieldType.int)) := rfl
set_option maxRecDepth 100000 in
theorem zz_c4 : lw_tbl[836]? = some (Jvm.Cond.code ({ cls := "PennyALap", name := "minutesFor", desc := "(I)I" } : Jvm.MethodName) prog_1_method_30_code (4 : Nat) (Option.some Jvm.ClassFile.FieldType.int)) := rfl
set_option maxRecDepth 100000 in
theorem zz_c5 : lw_tbl[964]? = some (Jvm.Cond.code ({ cls := "PennyALap$Bodies", name := "bodyComes", desc := "(I)I" } : Jvm.MethodName) prog_2_method_7_code (2 : Nat) (Option.some Jvm.ClassFile.FieldType.int)) := rfl
set_option maxRecDepth 100000 in
theorem zz_c6 : lw_tbl[1095]? = some (Jvm.Cond.code ({ cls := "PennyALap$Changes", name := "undoable", desc := "()I" } : Jvm.MethodName) prog_3_method_2_code (1 : Nat) (Option.some Jvm.ClassFile.FieldType.int)) := rfl
set_option maxRecDepth 100000 in
theorem zz_c7 : lw_tbl[1394]? = some (Jvm.Cond.code ({ cls := "PennyALapModel", name := "operand", desc := "()V" } : Jvm.MethodName) prog_12_method_26_code (2 : Nat) (Option.none : Option Jvm.ClassFile.FieldType)) := rfl
set_option maxRecDepth 100000 in
theorem zz_c8 : lw_tbl[1511]? = some (Jvm.Cond.code ({ cls := "PennyALapModel", name := "more", desc := "(II)I" } : Jvm.MethodName) prog_12_method_59_code (3 : Nat) (Option.some Jvm.ClassFile.FieldType.int)) := rfl
set_option maxRecDepth 100000 in
theorem zz_c9 : lw_tbl[1632]? = some (Jvm.Cond.code ({ cls := "PennyALapModel", name := "led", desc := "(I)I" } : Jvm.MethodName) prog_12_method_88_code (2 : Nat) (Option.some Jvm.ClassFile.FieldType.int)) := rfl
end
