section
-- ===== PART A: goes FIRST, ahead of the names: the tables' words, and 'selects' of the private methods out of them =====
/-- a private method of a class that the tables say can be made, by its rows of tables_1 -/
def lw_okq (q : MethodName × Nat) : Prop := (q.1.cls ≠ "java/lang/invoke/MethodHandle" ∧ q.1.cls ≠ "java/lang/invoke/VarHandle") ∧ Cond.instantiable q.1.cls q.2 ∈ tables_1 ∧ Cond.privateMethod q.1 ∈ tables_1 ∧ Cond.instanceMethod q.1 ∈ tables_1
theorem lw_p0 : lw_okq (⟨"PennyALap", "sponsorsFromRow", "(III)I"⟩, 11) := ⟨⟨by decide +kernel, by decide +kernel⟩, List.mem_of_getElem? (i := 15) (by decide +kernel), List.mem_of_getElem? (i := 328) (by decide +kernel), List.mem_of_getElem? (i := 329) (by decide +kernel)⟩
theorem lw_p1 : lw_okq (⟨"PennyALap$Shelves", "isPlace", "(II)Z"⟩, 4) := ⟨⟨by decide +kernel, by decide +kernel⟩, List.mem_of_getElem? (i := 219) (by decide +kernel), List.mem_of_getElem? (i := 344) (by decide +kernel), List.mem_of_getElem? (i := 345) (by decide +kernel)⟩
theorem lw_p2 : lw_okq (⟨"PennyALap$Changes", "forgetOldest", "()V"⟩, 5) := ⟨⟨by decide +kernel, by decide +kernel⟩, List.mem_of_getElem? (i := 82) (by decide +kernel), List.mem_of_getElem? (i := 362) (by decide +kernel), List.mem_of_getElem? (i := 363) (by decide +kernel)⟩
theorem lw_p3 : lw_okq (⟨"PennyALap$Law", "readLines", "()I"⟩, 9) := ⟨⟨by decide +kernel, by decide +kernel⟩, List.mem_of_getElem? (i := 23) (by decide +kernel), List.mem_of_getElem? (i := 411) (by decide +kernel), List.mem_of_getElem? (i := 412) (by decide +kernel)⟩
theorem lw_p4 : lw_okq (⟨"PennyALap$Law", "readLine", "()Z"⟩, 9) := ⟨⟨by decide +kernel, by decide +kernel⟩, List.mem_of_getElem? (i := 23) (by decide +kernel), List.mem_of_getElem? (i := 415) (by decide +kernel), List.mem_of_getElem? (i := 416) (by decide +kernel)⟩
theorem lw_p5 : lw_okq (⟨"PennyALap$Law", "readJoined", "(II)Z"⟩, 9) := ⟨⟨by decide +kernel, by decide +kernel⟩, List.mem_of_getElem? (i := 23) (by decide +kernel), List.mem_of_getElem? (i := 419) (by decide +kernel), List.mem_of_getElem? (i := 420) (by decide +kernel)⟩
theorem lw_p6 : lw_okq (⟨"PennyALap$Law", "readOperand", "(I)Z"⟩, 9) := ⟨⟨by decide +kernel, by decide +kernel⟩, List.mem_of_getElem? (i := 23) (by decide +kernel), List.mem_of_getElem? (i := 423) (by decide +kernel), List.mem_of_getElem? (i := 424) (by decide +kernel)⟩
theorem lw_p7 : lw_okq (⟨"PennyALap$Law", "sign", "()I"⟩, 9) := ⟨⟨by decide +kernel, by decide +kernel⟩, List.mem_of_getElem? (i := 23) (by decide +kernel), List.mem_of_getElem? (i := 427) (by decide +kernel), List.mem_of_getElem? (i := 428) (by decide +kernel)⟩
theorem lw_p8 : lw_okq (⟨"PennyALap$Law", "readNumber", "()V"⟩, 9) := ⟨⟨by decide +kernel, by decide +kernel⟩, List.mem_of_getElem? (i := 23) (by decide +kernel), List.mem_of_getElem? (i := 434) (by decide +kernel), List.mem_of_getElem? (i := 435) (by decide +kernel)⟩
theorem lw_p9 : lw_okq (⟨"PennyALap$Law", "write", "(I)V"⟩, 9) := ⟨⟨by decide +kernel, by decide +kernel⟩, List.mem_of_getElem? (i := 23) (by decide +kernel), List.mem_of_getElem? (i := 438) (by decide +kernel), List.mem_of_getElem? (i := 439) (by decide +kernel)⟩
theorem lw_p10 : lw_okq (⟨"PennyALap$Law", "readClosing", "()Z"⟩, 9) := ⟨⟨by decide +kernel, by decide +kernel⟩, List.mem_of_getElem? (i := 23) (by decide +kernel), List.mem_of_getElem? (i := 445) (by decide +kernel), List.mem_of_getElem? (i := 446) (by decide +kernel)⟩
theorem lw_p11 : lw_okq (⟨"PennyALap$Plan", "weigh", "(I)V"⟩, 5) := ⟨⟨by decide +kernel, by decide +kernel⟩, List.mem_of_getElem? (i := 124) (by decide +kernel), List.mem_of_getElem? (i := 646) (by decide +kernel), List.mem_of_getElem? (i := 647) (by decide +kernel)⟩
theorem lw_p12 : lw_okq (⟨"PennyALap$Plan", "bestOf", "(II)I"⟩, 5) := ⟨⟨by decide +kernel, by decide +kernel⟩, List.mem_of_getElem? (i := 124) (by decide +kernel), List.mem_of_getElem? (i := 656) (by decide +kernel), List.mem_of_getElem? (i := 657) (by decide +kernel)⟩
theorem lw_p13 : lw_okq (⟨"PennyALap$Plan", "choose", "(I)V"⟩, 5) := ⟨⟨by decide +kernel, by decide +kernel⟩, List.mem_of_getElem? (i := 124) (by decide +kernel), List.mem_of_getElem? (i := 661) (by decide +kernel), List.mem_of_getElem? (i := 662) (by decide +kernel)⟩
theorem lw_p14 : lw_okq (⟨"PennyALap$Plan", "worthWith", "(III)I"⟩, 5) := ⟨⟨by decide +kernel, by decide +kernel⟩, List.mem_of_getElem? (i := 124) (by decide +kernel), List.mem_of_getElem? (i := 665) (by decide +kernel), List.mem_of_getElem? (i := 666) (by decide +kernel)⟩
theorem lw_p15 : lw_okq (⟨"PennyALap", "readReminders", "(II)V"⟩, 11) := ⟨⟨by decide +kernel, by decide +kernel⟩, List.mem_of_getElem? (i := 15) (by decide +kernel), List.mem_of_getElem? (i := 686) (by decide +kernel), List.mem_of_getElem? (i := 687) (by decide +kernel)⟩
def lw_privs_1 : List (MethodName × Nat) := [(⟨"PennyALap", "sponsorsFromRow", "(III)I"⟩, 11), (⟨"PennyALap$Shelves", "isPlace", "(II)Z"⟩, 4), (⟨"PennyALap$Changes", "forgetOldest", "()V"⟩, 5), (⟨"PennyALap$Law", "readLines", "()I"⟩, 9), (⟨"PennyALap$Law", "readLine", "()Z"⟩, 9), (⟨"PennyALap$Law", "readJoined", "(II)Z"⟩, 9), (⟨"PennyALap$Law", "readOperand", "(I)Z"⟩, 9), (⟨"PennyALap$Law", "sign", "()I"⟩, 9), (⟨"PennyALap$Law", "readNumber", "()V"⟩, 9), (⟨"PennyALap$Law", "write", "(I)V"⟩, 9), (⟨"PennyALap$Law", "readClosing", "()Z"⟩, 9), (⟨"PennyALap$Plan", "weigh", "(I)V"⟩, 5), (⟨"PennyALap$Plan", "bestOf", "(II)I"⟩, 5), (⟨"PennyALap$Plan", "choose", "(I)V"⟩, 5), (⟨"PennyALap$Plan", "worthWith", "(III)I"⟩, 5), (⟨"PennyALap", "readReminders", "(II)V"⟩, 11)]
theorem lw_r1 : ∀ q ∈ lw_privs_1, lw_okq q := List.forall_mem_cons.mpr ⟨lw_p0, List.forall_mem_cons.mpr ⟨lw_p1, List.forall_mem_cons.mpr ⟨lw_p2, List.forall_mem_cons.mpr ⟨lw_p3, List.forall_mem_cons.mpr ⟨lw_p4, List.forall_mem_cons.mpr ⟨lw_p5, List.forall_mem_cons.mpr ⟨lw_p6, List.forall_mem_cons.mpr ⟨lw_p7, List.forall_mem_cons.mpr ⟨lw_p8, List.forall_mem_cons.mpr ⟨lw_p9, List.forall_mem_cons.mpr ⟨lw_p10, List.forall_mem_cons.mpr ⟨lw_p11, List.forall_mem_cons.mpr ⟨lw_p12, List.forall_mem_cons.mpr ⟨lw_p13, List.forall_mem_cons.mpr ⟨lw_p14, List.forall_mem_cons.mpr ⟨lw_p15, fun _ h => absurd h List.not_mem_nil⟩⟩⟩⟩⟩⟩⟩⟩⟩⟩⟩⟩⟩⟩⟩⟩
theorem lw_p16 : lw_okq (⟨"PennyALap$Coming", "startWeeks", "()V"⟩, 5) := ⟨⟨by decide +kernel, by decide +kernel⟩, List.mem_of_getElem? (i := 146) (by decide +kernel), List.mem_of_getElem? (i := 706) (by decide +kernel), List.mem_of_getElem? (i := 707) (by decide +kernel)⟩
theorem lw_p17 : lw_okq (⟨"PennyALap$Coming", "comesIn", "(Z)I"⟩, 5) := ⟨⟨by decide +kernel, by decide +kernel⟩, List.mem_of_getElem? (i := 146) (by decide +kernel), List.mem_of_getElem? (i := 710) (by decide +kernel), List.mem_of_getElem? (i := 711) (by decide +kernel)⟩
theorem lw_p18 : lw_okq (⟨"PennyALap", "firstAmiss", "(I)I"⟩, 11) := ⟨⟨by decide +kernel, by decide +kernel⟩, List.mem_of_getElem? (i := 15) (by decide +kernel), List.mem_of_getElem? (i := 738) (by decide +kernel), List.mem_of_getElem? (i := 739) (by decide +kernel)⟩
theorem lw_p19 : lw_okq (⟨"PennyALap", "cheats", "(III)Z"⟩, 11) := ⟨⟨by decide +kernel, by decide +kernel⟩, List.mem_of_getElem? (i := 15) (by decide +kernel), List.mem_of_getElem? (i := 761) (by decide +kernel), List.mem_of_getElem? (i := 762) (by decide +kernel)⟩
theorem lw_p20 : lw_okq (⟨"PennyALap", "lapsSaid", "(II)I"⟩, 11) := ⟨⟨by decide +kernel, by decide +kernel⟩, List.mem_of_getElem? (i := 15) (by decide +kernel), List.mem_of_getElem? (i := 765) (by decide +kernel), List.mem_of_getElem? (i := 766) (by decide +kernel)⟩
theorem lw_p21 : lw_okq (⟨"PennyALap$Thought", "drawLaps", "(III)I"⟩, 4) := ⟨⟨by decide +kernel, by decide +kernel⟩, List.mem_of_getElem? (i := 104) (by decide +kernel), List.mem_of_getElem? (i := 778) (by decide +kernel), List.mem_of_getElem? (i := 779) (by decide +kernel)⟩
theorem lw_p22 : lw_okq (⟨"PennyALap$Bodies", "own", "(IIII)I"⟩, 4) := ⟨⟨by decide +kernel, by decide +kernel⟩, List.mem_of_getElem? (i := 200) (by decide +kernel), List.mem_of_getElem? (i := 891) (by decide +kernel), List.mem_of_getElem? (i := 892) (by decide +kernel)⟩
theorem lw_p23 : lw_okq (⟨"PennyALap$Bodies", "from", "(IIIII)I"⟩, 4) := ⟨⟨by decide +kernel, by decide +kernel⟩, List.mem_of_getElem? (i := 200) (by decide +kernel), List.mem_of_getElem? (i := 899) (by decide +kernel), List.mem_of_getElem? (i := 900) (by decide +kernel)⟩
theorem lw_p24 : lw_okq (⟨"PennyALap$Bodies", "perform", "(IIII)I"⟩, 4) := ⟨⟨by decide +kernel, by decide +kernel⟩, List.mem_of_getElem? (i := 200) (by decide +kernel), List.mem_of_getElem? (i := 908) (by decide +kernel), List.mem_of_getElem? (i := 909) (by decide +kernel)⟩
theorem lw_p25 : lw_okq (⟨"PennyALap$Bodies", "higher", "(IIIII)I"⟩, 4) := ⟨⟨by decide +kernel, by decide +kernel⟩, List.mem_of_getElem? (i := 200) (by decide +kernel), List.mem_of_getElem? (i := 912) (by decide +kernel), List.mem_of_getElem? (i := 913) (by decide +kernel)⟩
theorem lw_p26 : lw_okq (⟨"PennyALapModel", "isChild", "(I)Z"⟩, 59) := ⟨⟨by decide +kernel, by decide +kernel⟩, List.mem_of_getElem? (i := 1018) (by decide +kernel), List.mem_of_getElem? (i := 1214) (by decide +kernel), List.mem_of_getElem? (i := 1215) (by decide +kernel)⟩
theorem lw_p27 : lw_okq (⟨"PennyALapModel", "addSponsor", "(III)I"⟩, 59) := ⟨⟨by decide +kernel, by decide +kernel⟩, List.mem_of_getElem? (i := 1018) (by decide +kernel), List.mem_of_getElem? (i := 1218) (by decide +kernel), List.mem_of_getElem? (i := 1219) (by decide +kernel)⟩
theorem lw_p28 : lw_okq (⟨"PennyALapModel", "lays", "(III)V"⟩, 59) := ⟨⟨by decide +kernel, by decide +kernel⟩, List.mem_of_getElem? (i := 1018) (by decide +kernel), List.mem_of_getElem? (i := 1234) (by decide +kernel), List.mem_of_getElem? (i := 1235) (by decide +kernel)⟩
theorem lw_p29 : lw_okq (⟨"PennyALapModel", "isOne", "(II)Z"⟩, 59) := ⟨⟨by decide +kernel, by decide +kernel⟩, List.mem_of_getElem? (i := 1018) (by decide +kernel), List.mem_of_getElem? (i := 1246) (by decide +kernel), List.mem_of_getElem? (i := 1247) (by decide +kernel)⟩
theorem lw_p30 : lw_okq (⟨"PennyALapModel", "isSponsor", "(I)Z"⟩, 59) := ⟨⟨by decide +kernel, by decide +kernel⟩, List.mem_of_getElem? (i := 1018) (by decide +kernel), List.mem_of_getElem? (i := 1250) (by decide +kernel), List.mem_of_getElem? (i := 1251) (by decide +kernel)⟩
theorem lw_p31 : lw_okq (⟨"PennyALapModel", "changes", "(III)I"⟩, 59) := ⟨⟨by decide +kernel, by decide +kernel⟩, List.mem_of_getElem? (i := 1018) (by decide +kernel), List.mem_of_getElem? (i := 1257) (by decide +kernel), List.mem_of_getElem? (i := 1258) (by decide +kernel)⟩
def lw_privs_2 : List (MethodName × Nat) := [(⟨"PennyALap$Coming", "startWeeks", "()V"⟩, 5), (⟨"PennyALap$Coming", "comesIn", "(Z)I"⟩, 5), (⟨"PennyALap", "firstAmiss", "(I)I"⟩, 11), (⟨"PennyALap", "cheats", "(III)Z"⟩, 11), (⟨"PennyALap", "lapsSaid", "(II)I"⟩, 11), (⟨"PennyALap$Thought", "drawLaps", "(III)I"⟩, 4), (⟨"PennyALap$Bodies", "own", "(IIII)I"⟩, 4), (⟨"PennyALap$Bodies", "from", "(IIIII)I"⟩, 4), (⟨"PennyALap$Bodies", "perform", "(IIII)I"⟩, 4), (⟨"PennyALap$Bodies", "higher", "(IIIII)I"⟩, 4), (⟨"PennyALapModel", "isChild", "(I)Z"⟩, 59), (⟨"PennyALapModel", "addSponsor", "(III)I"⟩, 59), (⟨"PennyALapModel", "lays", "(III)V"⟩, 59), (⟨"PennyALapModel", "isOne", "(II)Z"⟩, 59), (⟨"PennyALapModel", "isSponsor", "(I)Z"⟩, 59), (⟨"PennyALapModel", "changes", "(III)I"⟩, 59)]
theorem lw_r2 : ∀ q ∈ lw_privs_2, lw_okq q := List.forall_mem_cons.mpr ⟨lw_p16, List.forall_mem_cons.mpr ⟨lw_p17, List.forall_mem_cons.mpr ⟨lw_p18, List.forall_mem_cons.mpr ⟨lw_p19, List.forall_mem_cons.mpr ⟨lw_p20, List.forall_mem_cons.mpr ⟨lw_p21, List.forall_mem_cons.mpr ⟨lw_p22, List.forall_mem_cons.mpr ⟨lw_p23, List.forall_mem_cons.mpr ⟨lw_p24, List.forall_mem_cons.mpr ⟨lw_p25, List.forall_mem_cons.mpr ⟨lw_p26, List.forall_mem_cons.mpr ⟨lw_p27, List.forall_mem_cons.mpr ⟨lw_p28, List.forall_mem_cons.mpr ⟨lw_p29, List.forall_mem_cons.mpr ⟨lw_p30, List.forall_mem_cons.mpr ⟨lw_p31, fun _ h => absurd h List.not_mem_nil⟩⟩⟩⟩⟩⟩⟩⟩⟩⟩⟩⟩⟩⟩⟩⟩
theorem lw_p32 : lw_okq (⟨"PennyALapModel", "valueAt", "(II)I"⟩, 59) := ⟨⟨by decide +kernel, by decide +kernel⟩, List.mem_of_getElem? (i := 1018) (by decide +kernel), List.mem_of_getElem? (i := 1261) (by decide +kernel), List.mem_of_getElem? (i := 1262) (by decide +kernel)⟩
theorem lw_p33 : lw_okq (⟨"PennyALapModel", "readText", "(I)I"⟩, 59) := ⟨⟨by decide +kernel, by decide +kernel⟩, List.mem_of_getElem? (i := 1018) (by decide +kernel), List.mem_of_getElem? (i := 1277) (by decide +kernel), List.mem_of_getElem? (i := 1278) (by decide +kernel)⟩
theorem lw_p34 : lw_okq (⟨"PennyALapModel", "line", "()V"⟩, 59) := ⟨⟨by decide +kernel, by decide +kernel⟩, List.mem_of_getElem? (i := 1018) (by decide +kernel), List.mem_of_getElem? (i := 1281) (by decide +kernel), List.mem_of_getElem? (i := 1282) (by decide +kernel)⟩
theorem lw_p35 : lw_okq (⟨"PennyALapModel", "either", "()V"⟩, 59) := ⟨⟨by decide +kernel, by decide +kernel⟩, List.mem_of_getElem? (i := 1018) (by decide +kernel), List.mem_of_getElem? (i := 1285) (by decide +kernel), List.mem_of_getElem? (i := 1286) (by decide +kernel)⟩
theorem lw_p36 : lw_okq (⟨"PennyALapModel", "both", "()V"⟩, 59) := ⟨⟨by decide +kernel, by decide +kernel⟩, List.mem_of_getElem? (i := 1018) (by decide +kernel), List.mem_of_getElem? (i := 1289) (by decide +kernel), List.mem_of_getElem? (i := 1290) (by decide +kernel)⟩
theorem lw_p37 : lw_okq (⟨"PennyALapModel", "compared", "()V"⟩, 59) := ⟨⟨by decide +kernel, by decide +kernel⟩, List.mem_of_getElem? (i := 1018) (by decide +kernel), List.mem_of_getElem? (i := 1293) (by decide +kernel), List.mem_of_getElem? (i := 1294) (by decide +kernel)⟩
theorem lw_p38 : lw_okq (⟨"PennyALapModel", "sum", "()V"⟩, 59) := ⟨⟨by decide +kernel, by decide +kernel⟩, List.mem_of_getElem? (i := 1018) (by decide +kernel), List.mem_of_getElem? (i := 1297) (by decide +kernel), List.mem_of_getElem? (i := 1298) (by decide +kernel)⟩
theorem lw_p39 : lw_okq (⟨"PennyALapModel", "product", "()V"⟩, 59) := ⟨⟨by decide +kernel, by decide +kernel⟩, List.mem_of_getElem? (i := 1018) (by decide +kernel), List.mem_of_getElem? (i := 1301) (by decide +kernel), List.mem_of_getElem? (i := 1302) (by decide +kernel)⟩
theorem lw_p40 : lw_okq (⟨"PennyALapModel", "operand", "()V"⟩, 59) := ⟨⟨by decide +kernel, by decide +kernel⟩, List.mem_of_getElem? (i := 1018) (by decide +kernel), List.mem_of_getElem? (i := 1305) (by decide +kernel), List.mem_of_getElem? (i := 1306) (by decide +kernel)⟩
theorem lw_p41 : lw_okq (⟨"PennyALapModel", "look", "()I"⟩, 59) := ⟨⟨by decide +kernel, by decide +kernel⟩, List.mem_of_getElem? (i := 1018) (by decide +kernel), List.mem_of_getElem? (i := 1309) (by decide +kernel), List.mem_of_getElem? (i := 1310) (by decide +kernel)⟩
theorem lw_p42 : lw_okq (⟨"PennyALapModel", "addStep", "(II)V"⟩, 59) := ⟨⟨by decide +kernel, by decide +kernel⟩, List.mem_of_getElem? (i := 1018) (by decide +kernel), List.mem_of_getElem? (i := 1316) (by decide +kernel), List.mem_of_getElem? (i := 1317) (by decide +kernel)⟩
theorem lw_p43 : lw_okq (⟨"PennyALapModel", "opens", "()Z"⟩, 59) := ⟨⟨by decide +kernel, by decide +kernel⟩, List.mem_of_getElem? (i := 1018) (by decide +kernel), List.mem_of_getElem? (i := 1320) (by decide +kernel), List.mem_of_getElem? (i := 1321) (by decide +kernel)⟩
theorem lw_p44 : lw_okq (⟨"PennyALapModel", "wrong", "()V"⟩, 59) := ⟨⟨by decide +kernel, by decide +kernel⟩, List.mem_of_getElem? (i := 1018) (by decide +kernel), List.mem_of_getElem? (i := 1324) (by decide +kernel), List.mem_of_getElem? (i := 1325) (by decide +kernel)⟩
theorem lw_p45 : lw_okq (⟨"PennyALapModel", "figure", "()V"⟩, 59) := ⟨⟨by decide +kernel, by decide +kernel⟩, List.mem_of_getElem? (i := 1018) (by decide +kernel), List.mem_of_getElem? (i := 1328) (by decide +kernel), List.mem_of_getElem? (i := 1329) (by decide +kernel)⟩
theorem lw_p46 : lw_okq (⟨"PennyALapModel", "lapOf", "(III)I"⟩, 59) := ⟨⟨by decide +kernel, by decide +kernel⟩, List.mem_of_getElem? (i := 1018) (by decide +kernel), List.mem_of_getElem? (i := 1336) (by decide +kernel), List.mem_of_getElem? (i := 1337) (by decide +kernel)⟩
theorem lw_p47 : lw_okq (⟨"PennyALapModel", "gives", "(I)I"⟩, 59) := ⟨⟨by decide +kernel, by decide +kernel⟩, List.mem_of_getElem? (i := 1018) (by decide +kernel), List.mem_of_getElem? (i := 1340) (by decide +kernel), List.mem_of_getElem? (i := 1341) (by decide +kernel)⟩
def lw_privs_3 : List (MethodName × Nat) := [(⟨"PennyALapModel", "valueAt", "(II)I"⟩, 59), (⟨"PennyALapModel", "readText", "(I)I"⟩, 59), (⟨"PennyALapModel", "line", "()V"⟩, 59), (⟨"PennyALapModel", "either", "()V"⟩, 59), (⟨"PennyALapModel", "both", "()V"⟩, 59), (⟨"PennyALapModel", "compared", "()V"⟩, 59), (⟨"PennyALapModel", "sum", "()V"⟩, 59), (⟨"PennyALapModel", "product", "()V"⟩, 59), (⟨"PennyALapModel", "operand", "()V"⟩, 59), (⟨"PennyALapModel", "look", "()I"⟩, 59), (⟨"PennyALapModel", "addStep", "(II)V"⟩, 59), (⟨"PennyALapModel", "opens", "()Z"⟩, 59), (⟨"PennyALapModel", "wrong", "()V"⟩, 59), (⟨"PennyALapModel", "figure", "()V"⟩, 59), (⟨"PennyALapModel", "lapOf", "(III)I"⟩, 59), (⟨"PennyALapModel", "gives", "(I)I"⟩, 59)]
theorem lw_r3 : ∀ q ∈ lw_privs_3, lw_okq q := List.forall_mem_cons.mpr ⟨lw_p32, List.forall_mem_cons.mpr ⟨lw_p33, List.forall_mem_cons.mpr ⟨lw_p34, List.forall_mem_cons.mpr ⟨lw_p35, List.forall_mem_cons.mpr ⟨lw_p36, List.forall_mem_cons.mpr ⟨lw_p37, List.forall_mem_cons.mpr ⟨lw_p38, List.forall_mem_cons.mpr ⟨lw_p39, List.forall_mem_cons.mpr ⟨lw_p40, List.forall_mem_cons.mpr ⟨lw_p41, List.forall_mem_cons.mpr ⟨lw_p42, List.forall_mem_cons.mpr ⟨lw_p43, List.forall_mem_cons.mpr ⟨lw_p44, List.forall_mem_cons.mpr ⟨lw_p45, List.forall_mem_cons.mpr ⟨lw_p46, List.forall_mem_cons.mpr ⟨lw_p47, fun _ h => absurd h List.not_mem_nil⟩⟩⟩⟩⟩⟩⟩⟩⟩⟩⟩⟩⟩⟩⟩⟩
theorem lw_p48 : lw_okq (⟨"PennyALapModel", "worked", "(III)I"⟩, 59) := ⟨⟨by decide +kernel, by decide +kernel⟩, List.mem_of_getElem? (i := 1018) (by decide +kernel), List.mem_of_getElem? (i := 1344) (by decide +kernel), List.mem_of_getElem? (i := 1345) (by decide +kernel)⟩
theorem lw_p49 : lw_okq (⟨"PennyALapModel", "minutesOf", "(II)I"⟩, 59) := ⟨⟨by decide +kernel, by decide +kernel⟩, List.mem_of_getElem? (i := 1018) (by decide +kernel), List.mem_of_getElem? (i := 1355) (by decide +kernel), List.mem_of_getElem? (i := 1356) (by decide +kernel)⟩
theorem lw_p50 : lw_okq (⟨"PennyALapModel", "owesOf", "(II)I"⟩, 59) := ⟨⟨by decide +kernel, by decide +kernel⟩, List.mem_of_getElem? (i := 1018) (by decide +kernel), List.mem_of_getElem? (i := 1363) (by decide +kernel), List.mem_of_getElem? (i := 1364) (by decide +kernel)⟩
theorem lw_p51 : lw_okq (⟨"PennyALapModel", "plainOf", "(II)I"⟩, 59) := ⟨⟨by decide +kernel, by decide +kernel⟩, List.mem_of_getElem? (i := 1018) (by decide +kernel), List.mem_of_getElem? (i := 1367) (by decide +kernel), List.mem_of_getElem? (i := 1368) (by decide +kernel)⟩
theorem lw_p52 : lw_okq (⟨"PennyALapModel", "paysOf", "(II)I"⟩, 59) := ⟨⟨by decide +kernel, by decide +kernel⟩, List.mem_of_getElem? (i := 1018) (by decide +kernel), List.mem_of_getElem? (i := 1371) (by decide +kernel), List.mem_of_getElem? (i := 1372) (by decide +kernel)⟩
theorem lw_p53 : lw_okq (⟨"PennyALapModel", "goTo", "(I)V"⟩, 59) := ⟨⟨by decide +kernel, by decide +kernel⟩, List.mem_of_getElem? (i := 1018) (by decide +kernel), List.mem_of_getElem? (i := 1382) (by decide +kernel), List.mem_of_getElem? (i := 1383) (by decide +kernel)⟩
theorem lw_p54 : lw_okq (⟨"PennyALapModel", "lapsBy", "(II)I"⟩, 59) := ⟨⟨by decide +kernel, by decide +kernel⟩, List.mem_of_getElem? (i := 1018) (by decide +kernel), List.mem_of_getElem? (i := 1386) (by decide +kernel), List.mem_of_getElem? (i := 1387) (by decide +kernel)⟩
theorem lw_p55 : lw_okq (⟨"PennyALapModel", "owedTo", "(II)I"⟩, 59) := ⟨⟨by decide +kernel, by decide +kernel⟩, List.mem_of_getElem? (i := 1018) (by decide +kernel), List.mem_of_getElem? (i := 1390) (by decide +kernel), List.mem_of_getElem? (i := 1391) (by decide +kernel)⟩
theorem lw_p56 : lw_okq (⟨"PennyALapModel", "paidTo", "(II)I"⟩, 59) := ⟨⟨by decide +kernel, by decide +kernel⟩, List.mem_of_getElem? (i := 1018) (by decide +kernel), List.mem_of_getElem? (i := 1394) (by decide +kernel), List.mem_of_getElem? (i := 1395) (by decide +kernel)⟩
theorem lw_p57 : lw_okq (⟨"PennyALapModel", "lapsAll", "()I"⟩, 59) := ⟨⟨by decide +kernel, by decide +kernel⟩, List.mem_of_getElem? (i := 1018) (by decide +kernel), List.mem_of_getElem? (i := 1398) (by decide +kernel), List.mem_of_getElem? (i := 1399) (by decide +kernel)⟩
theorem lw_p58 : lw_okq (⟨"PennyALapModel", "paidAll", "()I"⟩, 59) := ⟨⟨by decide +kernel, by decide +kernel⟩, List.mem_of_getElem? (i := 1018) (by decide +kernel), List.mem_of_getElem? (i := 1402) (by decide +kernel), List.mem_of_getElem? (i := 1403) (by decide +kernel)⟩
theorem lw_p59 : lw_okq (⟨"PennyALapModel", "mostLaps", "()I"⟩, 59) := ⟨⟨by decide +kernel, by decide +kernel⟩, List.mem_of_getElem? (i := 1018) (by decide +kernel), List.mem_of_getElem? (i := 1406) (by decide +kernel), List.mem_of_getElem? (i := 1407) (by decide +kernel)⟩
theorem lw_p60 : lw_okq (⟨"PennyALapModel", "surprised", "()I"⟩, 59) := ⟨⟨by decide +kernel, by decide +kernel⟩, List.mem_of_getElem? (i := 1018) (by decide +kernel), List.mem_of_getElem? (i := 1414) (by decide +kernel), List.mem_of_getElem? (i := 1415) (by decide +kernel)⟩
theorem lw_p61 : lw_okq (⟨"PennyALapModel", "mostPence", "()I"⟩, 59) := ⟨⟨by decide +kernel, by decide +kernel⟩, List.mem_of_getElem? (i := 1018) (by decide +kernel), List.mem_of_getElem? (i := 1418) (by decide +kernel), List.mem_of_getElem? (i := 1419) (by decide +kernel)⟩
theorem lw_p62 : lw_okq (⟨"PennyALapModel", "moreBy", "(II)I"⟩, 59) := ⟨⟨by decide +kernel, by decide +kernel⟩, List.mem_of_getElem? (i := 1018) (by decide +kernel), List.mem_of_getElem? (i := 1426) (by decide +kernel), List.mem_of_getElem? (i := 1427) (by decide +kernel)⟩
theorem lw_p63 : lw_okq (⟨"PennyALapModel", "partFrom", "(I)V"⟩, 59) := ⟨⟨by decide +kernel, by decide +kernel⟩, List.mem_of_getElem? (i := 1018) (by decide +kernel), List.mem_of_getElem? (i := 1451) (by decide +kernel), List.mem_of_getElem? (i := 1452) (by decide +kernel)⟩
def lw_privs_4 : List (MethodName × Nat) := [(⟨"PennyALapModel", "worked", "(III)I"⟩, 59), (⟨"PennyALapModel", "minutesOf", "(II)I"⟩, 59), (⟨"PennyALapModel", "owesOf", "(II)I"⟩, 59), (⟨"PennyALapModel", "plainOf", "(II)I"⟩, 59), (⟨"PennyALapModel", "paysOf", "(II)I"⟩, 59), (⟨"PennyALapModel", "goTo", "(I)V"⟩, 59), (⟨"PennyALapModel", "lapsBy", "(II)I"⟩, 59), (⟨"PennyALapModel", "owedTo", "(II)I"⟩, 59), (⟨"PennyALapModel", "paidTo", "(II)I"⟩, 59), (⟨"PennyALapModel", "lapsAll", "()I"⟩, 59), (⟨"PennyALapModel", "paidAll", "()I"⟩, 59), (⟨"PennyALapModel", "mostLaps", "()I"⟩, 59), (⟨"PennyALapModel", "surprised", "()I"⟩, 59), (⟨"PennyALapModel", "mostPence", "()I"⟩, 59), (⟨"PennyALapModel", "moreBy", "(II)I"⟩, 59), (⟨"PennyALapModel", "partFrom", "(I)V"⟩, 59)]
theorem lw_r4 : ∀ q ∈ lw_privs_4, lw_okq q := List.forall_mem_cons.mpr ⟨lw_p48, List.forall_mem_cons.mpr ⟨lw_p49, List.forall_mem_cons.mpr ⟨lw_p50, List.forall_mem_cons.mpr ⟨lw_p51, List.forall_mem_cons.mpr ⟨lw_p52, List.forall_mem_cons.mpr ⟨lw_p53, List.forall_mem_cons.mpr ⟨lw_p54, List.forall_mem_cons.mpr ⟨lw_p55, List.forall_mem_cons.mpr ⟨lw_p56, List.forall_mem_cons.mpr ⟨lw_p57, List.forall_mem_cons.mpr ⟨lw_p58, List.forall_mem_cons.mpr ⟨lw_p59, List.forall_mem_cons.mpr ⟨lw_p60, List.forall_mem_cons.mpr ⟨lw_p61, List.forall_mem_cons.mpr ⟨lw_p62, List.forall_mem_cons.mpr ⟨lw_p63, fun _ h => absurd h List.not_mem_nil⟩⟩⟩⟩⟩⟩⟩⟩⟩⟩⟩⟩⟩⟩⟩⟩
theorem lw_p64 : lw_okq (⟨"PennyALapModel", "rowFault", "(II)I"⟩, 59) := ⟨⟨by decide +kernel, by decide +kernel⟩, List.mem_of_getElem? (i := 1018) (by decide +kernel), List.mem_of_getElem? (i := 1462) (by decide +kernel), List.mem_of_getElem? (i := 1463) (by decide +kernel)⟩
theorem lw_p65 : lw_okq (⟨"PennyALapModel", "comesBy", "(IIII)I"⟩, 59) := ⟨⟨by decide +kernel, by decide +kernel⟩, List.mem_of_getElem? (i := 1018) (by decide +kernel), List.mem_of_getElem? (i := 1466) (by decide +kernel), List.mem_of_getElem? (i := 1467) (by decide +kernel)⟩
theorem lw_p66 : lw_okq (⟨"PennyALapModel", "beginRest", "(I)I"⟩, 59) := ⟨⟨by decide +kernel, by decide +kernel⟩, List.mem_of_getElem? (i := 1018) (by decide +kernel), List.mem_of_getElem? (i := 1470) (by decide +kernel), List.mem_of_getElem? (i := 1471) (by decide +kernel)⟩
theorem lw_p67 : lw_okq (⟨"PennyALapModel", "isTold", "(II)Z"⟩, 59) := ⟨⟨by decide +kernel, by decide +kernel⟩, List.mem_of_getElem? (i := 1018) (by decide +kernel), List.mem_of_getElem? (i := 1474) (by decide +kernel), List.mem_of_getElem? (i := 1475) (by decide +kernel)⟩
theorem lw_p68 : lw_okq (⟨"PennyALapModel", "at", "(II)I"⟩, 59) := ⟨⟨by decide +kernel, by decide +kernel⟩, List.mem_of_getElem? (i := 1018) (by decide +kernel), List.mem_of_getElem? (i := 1478) (by decide +kernel), List.mem_of_getElem? (i := 1479) (by decide +kernel)⟩
theorem lw_p69 : lw_okq (⟨"PennyALapModel", "weekComes", "(Z)I"⟩, 59) := ⟨⟨by decide +kernel, by decide +kernel⟩, List.mem_of_getElem? (i := 1018) (by decide +kernel), List.mem_of_getElem? (i := 1482) (by decide +kernel), List.mem_of_getElem? (i := 1483) (by decide +kernel)⟩
theorem lw_p70 : lw_okq (⟨"PennyALapModel", "wrongSheet", "(II)I"⟩, 59) := ⟨⟨by decide +kernel, by decide +kernel⟩, List.mem_of_getElem? (i := 1018) (by decide +kernel), List.mem_of_getElem? (i := 1498) (by decide +kernel), List.mem_of_getElem? (i := 1499) (by decide +kernel)⟩
theorem lw_p71 : lw_okq (⟨"PennyALapModel", "saidBy", "(II)I"⟩, 59) := ⟨⟨by decide +kernel, by decide +kernel⟩, List.mem_of_getElem? (i := 1018) (by decide +kernel), List.mem_of_getElem? (i := 1518) (by decide +kernel), List.mem_of_getElem? (i := 1519) (by decide +kernel)⟩
theorem lw_p72 : lw_okq (⟨"PennyALapModel", "drawnLaps", "(II)I"⟩, 59) := ⟨⟨by decide +kernel, by decide +kernel⟩, List.mem_of_getElem? (i := 1018) (by decide +kernel), List.mem_of_getElem? (i := 1526) (by decide +kernel), List.mem_of_getElem? (i := 1527) (by decide +kernel)⟩
theorem lw_p73 : lw_okq (⟨"PennyALapModel", "isBody", "(I)Z"⟩, 59) := ⟨⟨by decide +kernel, by decide +kernel⟩, List.mem_of_getElem? (i := 1018) (by decide +kernel), List.mem_of_getElem? (i := 1567) (by decide +kernel), List.mem_of_getElem? (i := 1568) (by decide +kernel)⟩
theorem lw_p74 : lw_okq (⟨"PennyALapModel", "running", "(II)I"⟩, 59) := ⟨⟨by decide +kernel, by decide +kernel⟩, List.mem_of_getElem? (i := 1018) (by decide +kernel), List.mem_of_getElem? (i := 1571) (by decide +kernel), List.mem_of_getElem? (i := 1572) (by decide +kernel)⟩
theorem lw_p75 : lw_okq (⟨"PennyALapModel", "ran", "(I)V"⟩, 59) := ⟨⟨by decide +kernel, by decide +kernel⟩, List.mem_of_getElem? (i := 1018) (by decide +kernel), List.mem_of_getElem? (i := 1578) (by decide +kernel), List.mem_of_getElem? (i := 1579) (by decide +kernel)⟩
theorem lw_p76 : lw_okq (⟨"PennyALapModel", "plainRuns", "(II)I"⟩, 59) := ⟨⟨by decide +kernel, by decide +kernel⟩, List.mem_of_getElem? (i := 1018) (by decide +kernel), List.mem_of_getElem? (i := 1582) (by decide +kernel), List.mem_of_getElem? (i := 1583) (by decide +kernel)⟩
theorem lw_p77 : lw_okq (⟨"PennyALapModel", "prizeRuns", "(II)I"⟩, 59) := ⟨⟨by decide +kernel, by decide +kernel⟩, List.mem_of_getElem? (i := 1018) (by decide +kernel), List.mem_of_getElem? (i := 1586) (by decide +kernel), List.mem_of_getElem? (i := 1587) (by decide +kernel)⟩
theorem lw_p78 : lw_okq (⟨"PennyALapModel", "owing", "(II)I"⟩, 59) := ⟨⟨by decide +kernel, by decide +kernel⟩, List.mem_of_getElem? (i := 1018) (by decide +kernel), List.mem_of_getElem? (i := 1590) (by decide +kernel), List.mem_of_getElem? (i := 1591) (by decide +kernel)⟩
theorem lw_p79 : lw_okq (⟨"PennyALapModel", "sumOwes", "(II)I"⟩, 59) := ⟨⟨by decide +kernel, by decide +kernel⟩, List.mem_of_getElem? (i := 1018) (by decide +kernel), List.mem_of_getElem? (i := 1594) (by decide +kernel), List.mem_of_getElem? (i := 1595) (by decide +kernel)⟩
def lw_privs_5 : List (MethodName × Nat) := [(⟨"PennyALapModel", "rowFault", "(II)I"⟩, 59), (⟨"PennyALapModel", "comesBy", "(IIII)I"⟩, 59), (⟨"PennyALapModel", "beginRest", "(I)I"⟩, 59), (⟨"PennyALapModel", "isTold", "(II)Z"⟩, 59), (⟨"PennyALapModel", "at", "(II)I"⟩, 59), (⟨"PennyALapModel", "weekComes", "(Z)I"⟩, 59), (⟨"PennyALapModel", "wrongSheet", "(II)I"⟩, 59), (⟨"PennyALapModel", "saidBy", "(II)I"⟩, 59), (⟨"PennyALapModel", "drawnLaps", "(II)I"⟩, 59), (⟨"PennyALapModel", "isBody", "(I)Z"⟩, 59), (⟨"PennyALapModel", "running", "(II)I"⟩, 59), (⟨"PennyALapModel", "ran", "(I)V"⟩, 59), (⟨"PennyALapModel", "plainRuns", "(II)I"⟩, 59), (⟨"PennyALapModel", "prizeRuns", "(II)I"⟩, 59), (⟨"PennyALapModel", "owing", "(II)I"⟩, 59), (⟨"PennyALapModel", "sumOwes", "(II)I"⟩, 59)]
theorem lw_r5 : ∀ q ∈ lw_privs_5, lw_okq q := List.forall_mem_cons.mpr ⟨lw_p64, List.forall_mem_cons.mpr ⟨lw_p65, List.forall_mem_cons.mpr ⟨lw_p66, List.forall_mem_cons.mpr ⟨lw_p67, List.forall_mem_cons.mpr ⟨lw_p68, List.forall_mem_cons.mpr ⟨lw_p69, List.forall_mem_cons.mpr ⟨lw_p70, List.forall_mem_cons.mpr ⟨lw_p71, List.forall_mem_cons.mpr ⟨lw_p72, List.forall_mem_cons.mpr ⟨lw_p73, List.forall_mem_cons.mpr ⟨lw_p74, List.forall_mem_cons.mpr ⟨lw_p75, List.forall_mem_cons.mpr ⟨lw_p76, List.forall_mem_cons.mpr ⟨lw_p77, List.forall_mem_cons.mpr ⟨lw_p78, List.forall_mem_cons.mpr ⟨lw_p79, fun _ h => absurd h List.not_mem_nil⟩⟩⟩⟩⟩⟩⟩⟩⟩⟩⟩⟩⟩⟩⟩⟩
theorem lw_p80 : lw_okq (⟨"PennyALapModel", "plainOwes", "(II)I"⟩, 59) := ⟨⟨by decide +kernel, by decide +kernel⟩, List.mem_of_getElem? (i := 1018) (by decide +kernel), List.mem_of_getElem? (i := 1598) (by decide +kernel), List.mem_of_getElem? (i := 1599) (by decide +kernel)⟩
theorem lw_p81 : lw_okq (⟨"PennyALapModel", "paying", "(II)I"⟩, 59) := ⟨⟨by decide +kernel, by decide +kernel⟩, List.mem_of_getElem? (i := 1018) (by decide +kernel), List.mem_of_getElem? (i := 1602) (by decide +kernel), List.mem_of_getElem? (i := 1603) (by decide +kernel)⟩
theorem lw_p82 : lw_okq (⟨"PennyALapModel", "oakPays", "(II)I"⟩, 59) := ⟨⟨by decide +kernel, by decide +kernel⟩, List.mem_of_getElem? (i := 1018) (by decide +kernel), List.mem_of_getElem? (i := 1606) (by decide +kernel), List.mem_of_getElem? (i := 1607) (by decide +kernel)⟩
theorem lw_p83 : lw_okq (⟨"PennyALapModel", "plainPays", "(II)I"⟩, 59) := ⟨⟨by decide +kernel, by decide +kernel⟩, List.mem_of_getElem? (i := 1018) (by decide +kernel), List.mem_of_getElem? (i := 1610) (by decide +kernel), List.mem_of_getElem? (i := 1611) (by decide +kernel)⟩
theorem lw_p84 : lw_okq (⟨"PennyALapModel", "telling", "(II)I"⟩, 59) := ⟨⟨by decide +kernel, by decide +kernel⟩, List.mem_of_getElem? (i := 1018) (by decide +kernel), List.mem_of_getElem? (i := 1614) (by decide +kernel), List.mem_of_getElem? (i := 1615) (by decide +kernel)⟩
theorem lw_p85 : lw_okq (⟨"PennyALapModel", "plainTells", "(II)I"⟩, 59) := ⟨⟨by decide +kernel, by decide +kernel⟩, List.mem_of_getElem? (i := 1018) (by decide +kernel), List.mem_of_getElem? (i := 1618) (by decide +kernel), List.mem_of_getElem? (i := 1619) (by decide +kernel)⟩
theorem lw_p86 : lw_okq (⟨"PennyALapModel", "whyNoPlace", "(II)I"⟩, 59) := ⟨⟨by decide +kernel, by decide +kernel⟩, List.mem_of_getElem? (i := 1018) (by decide +kernel), List.mem_of_getElem? (i := 1638) (by decide +kernel), List.mem_of_getElem? (i := 1639) (by decide +kernel)⟩
def lw_privs_6 : List (MethodName × Nat) := [(⟨"PennyALapModel", "plainOwes", "(II)I"⟩, 59), (⟨"PennyALapModel", "paying", "(II)I"⟩, 59), (⟨"PennyALapModel", "oakPays", "(II)I"⟩, 59), (⟨"PennyALapModel", "plainPays", "(II)I"⟩, 59), (⟨"PennyALapModel", "telling", "(II)I"⟩, 59), (⟨"PennyALapModel", "plainTells", "(II)I"⟩, 59), (⟨"PennyALapModel", "whyNoPlace", "(II)I"⟩, 59)]
theorem lw_r6 : ∀ q ∈ lw_privs_6, lw_okq q := List.forall_mem_cons.mpr ⟨lw_p80, List.forall_mem_cons.mpr ⟨lw_p81, List.forall_mem_cons.mpr ⟨lw_p82, List.forall_mem_cons.mpr ⟨lw_p83, List.forall_mem_cons.mpr ⟨lw_p84, List.forall_mem_cons.mpr ⟨lw_p85, List.forall_mem_cons.mpr ⟨lw_p86, fun _ h => absurd h List.not_mem_nil⟩⟩⟩⟩⟩⟩⟩
def lw_privs : List (MethodName × Nat) := lw_privs_1 ++ (lw_privs_2 ++ (lw_privs_3 ++ (lw_privs_4 ++ (lw_privs_5 ++ (lw_privs_6)))))
def lw_tbl : List Cond := k2_sels lw_privs ++ tables_1
theorem lw_privs_ok : ∀ q ∈ lw_privs, lw_okq q := by
  show ∀ q ∈ lw_privs_1 ++ (lw_privs_2 ++ (lw_privs_3 ++ (lw_privs_4 ++ (lw_privs_5 ++ (lw_privs_6))))), lw_okq q
  exact List.forall_mem_append.mpr ⟨lw_r1, List.forall_mem_append.mpr ⟨lw_r2, List.forall_mem_append.mpr ⟨lw_r3, List.forall_mem_append.mpr ⟨lw_r4, List.forall_mem_append.mpr ⟨lw_r5, lw_r6⟩⟩⟩⟩⟩
end
section
/-! THE ENGINE: a plain machine over lists (cells are known by their places), run by equations; its soundness over W is the next part.
    An item: (pc, a simple instruction and three numbers) or (pc, an instruction that goes elsewhere, its kind, two numbers, a list). -/
abbrev kE : Type := (Nat × vp_A) ⊕ (Nat × List Value)
abbrev kH : Type := List kE
abbrev kL : Type := List (Option Value)
abbrev kR : Type := Option Value × kH
abbrev kIt : Type := Nat × ((Instr × Nat × Nat × Int) ⊕ (Instr × Nat × Nat × Nat × List (Int32 × Nat)))
abbrev kRo : Type := Nat → Option (Nat × (Nat → Int32))
def kLd (lv : kL) (i : Nat) : Option Value := match lv[i]? with
  | some (some v) => some v
  | _ => none
def kClr (lv : kL) (i : Nat) : kL := match i with
  | 0 => lv
  | j + 1 => match lv[j]? with
    | some (some (.long _)) => lv.set j none
    | some (some (.double _)) => lv.set j none
    | _ => lv
def kSt1 (lv : kL) (i : Nat) (v : Value) : kL := (kClr lv i).set i (some v)
def kSt2 (lv : kL) (i : Nat) (v : Value) : kL := ((kClr lv i).set i (some v)).set (i + 1) none
def kArr (hp : kH) (q t : Nat) : Option (Nat × (Nat → Int32)) := match hp[q]? with
  | some (.inl x) => if x.1 = t then (match x.2.2 with
    | .inl f => some (x.2.1, f)
    | _ => none) else none
  | _ => none
def kArrL (hp : kH) (q : Nat) : Option (Nat × (Nat → Int64)) := match hp[q]? with
  | some (.inl x) => if x.1 = 1 then (match x.2.2 with
    | .inr (.inl f) => some (x.2.1, f)
    | _ => none) else none
  | _ => none
def kObj (hp : kH) (q a : Nat) : Option (List Value) := match hp[q]? with
  | some (.inr o) => if o.1 = a then some o.2 else none
  | _ => none
def kRd (ro : kRo) (hp : kH) (q : Nat) : Option (Nat × (Nat → Int32)) := match ro q with
  | some x => some x
  | none => kArr hp q 0
def kLen (ro : kRo) (hp : kH) (q : Nat) : Option Nat := match ro q with
  | some x => some x.1
  | none => match hp[q]? with
    | some (.inl x) => if x.1 < 5 then some x.2.1 else none
    | _ => none
def kFit (z : Int) (v : Value) : Bool := match v with
  | .int x => z == 0 || (z == 1 && (x == 0 || x == 1))
  | .ref _ => z == 2
  | _ => false
def kBy (a : Nat) : FieldType := if a = 2 then .byte else .boolean
def kI1 (st : List Value) (f : Int32 → Value) : Option (List Value) := match st with
  | .int x :: r => some (f x :: r)
  | _ => none
def kI2 (st : List Value) (f : Int32 → Int32 → Value) : Option (List Value) := match st with
  | .int y :: .int x :: r => some (f x y :: r)
  | _ => none
def kJ2 (st : List Value) (f : Int64 → Int64 → Value) : Option (List Value) := match st with
  | .long y :: .long x :: r => some (f x y :: r)
  | _ => none
def kSi (lv : kL) (hp : kH) (o : Option (List Value)) : Option (kL × List Value × kH) := match o with
  | some s => some (lv, s, hp)
  | none => none
def kPi (lv : kL) (st : List Value) (hp : kH) (i : Nat) : Option (kL × List Value × kH) := match kLd lv i with
  | some (.int x) => some (lv, .int x :: st, hp)
  | _ => none
def kPl (lv : kL) (st : List Value) (hp : kH) (i : Nat) : Option (kL × List Value × kH) := match kLd lv i with
  | some (.long x) => some (lv, .long x :: st, hp)
  | _ => none
def kPa (lv : kL) (st : List Value) (hp : kH) (i : Nat) : Option (kL × List Value × kH) := match kLd lv i with
  | some (.ref x) => some (lv, .ref x :: st, hp)
  | _ => none
def kTi (lv : kL) (st : List Value) (hp : kH) (i : Nat) : Option (kL × List Value × kH) := match st with
  | .int x :: r => if i < lv.length then some (kSt1 lv i (.int x), r, hp) else none
  | _ => none
def kTa (lv : kL) (st : List Value) (hp : kH) (i : Nat) : Option (kL × List Value × kH) := match st with
  | .ref x :: r => if i < lv.length then some (kSt1 lv i (.ref x), r, hp) else none
  | _ => none
def kTl (lv : kL) (st : List Value) (hp : kH) (i : Nat) : Option (kL × List Value × kH) := match st with
  | .long x :: r => if i + 1 < lv.length then some (kSt2 lv i (.long x), r, hp) else none
  | _ => none
def kInc (lv : kL) (st : List Value) (hp : kH) (i : Nat) (n : Int) : Option (kL × List Value × kH) := match kLd lv i with
  | some (.int x) => some (kSt1 lv i (.int (x + Int32.ofInt n)), st, hp)
  | _ => none
def kDiv (lv : kL) (st : List Value) (hp : kH) (f : Int32 → Int32 → Int32) : Option (kL × List Value × kH) := match st with
  | .int y :: .int x :: r => if y = 0 then none else some (lv, .int (f x y) :: r, hp)
  | _ => none
def kDup (lv : kL) (st : List Value) (hp : kH) : Option (kL × List Value × kH) := match st with
  | v :: r => if v.category = 1 then some (lv, v :: v :: r, hp) else none
  | _ => none
def kPop (lv : kL) (st : List Value) (hp : kH) : Option (kL × List Value × kH) := match st with
  | v :: r => if v.category = 1 then some (lv, r, hp) else none
  | _ => none
def kDup2 (lv : kL) (st : List Value) (hp : kH) : Option (kL × List Value × kH) := match st with
  | v :: w :: r => if v.category = 1 ∧ w.category = 1 then some (lv, v :: w :: v :: w :: r, hp) else none
  | _ => none
def kGet (lv : kL) (st : List Value) (hp : kH) (a b : Nat) : Option (kL × List Value × kH) := match st with
  | .ref q :: r => match kObj hp q a with
    | some fs => match fs[b]? with
      | some v => some (lv, v :: r, hp)
      | none => none
    | none => none
  | _ => none
def kPut (lv : kL) (st : List Value) (hp : kH) (a b : Nat) (z : Int) : Option (kL × List Value × kH) := match st with
  | v :: .ref q :: r => match kObj hp q a with
    | some fs => if b < fs.length ∧ kFit z v = true then some (lv, r, hp.set q (.inr (a, fs.set b v))) else none
    | none => none
  | _ => none
def kAl (lv : kL) (st : List Value) (hp : kH) (ro : kRo) : Option (kL × List Value × kH) := match st with
  | .ref q :: r => match kLen ro hp q with
    | some n => some (lv, .int (Int32.ofNat n) :: r, hp)
    | none => none
  | _ => none
def kAi (lv : kL) (st : List Value) (hp : kH) (ro : kRo) : Option (kL × List Value × kH) := match st with
  | .int j :: .ref q :: r => match kRd ro hp q with
    | some x => if j < 0 ∨ x.1 ≤ j.toNatClampNeg then none else some (lv, .int (x.2 j.toNatClampNeg) :: r, hp)
    | none => none
  | _ => none
def kAt (lv : kL) (st : List Value) (hp : kH) (t : Nat) : Option (kL × List Value × kH) := match st with
  | .int j :: .ref q :: r => match kArr hp q t with
    | some x => if j < 0 ∨ x.1 ≤ j.toNatClampNeg then none else some (lv, .int (x.2 j.toNatClampNeg) :: r, hp)
    | none => none
  | _ => none
def kAj (lv : kL) (st : List Value) (hp : kH) : Option (kL × List Value × kH) := match st with
  | .int j :: .ref q :: r => match kArrL hp q with
    | some x => if j < 0 ∨ x.1 ≤ j.toNatClampNeg then none else some (lv, .long (x.2 j.toNatClampNeg) :: r, hp)
    | none => none
  | _ => none
def kBt (lv : kL) (st : List Value) (hp : kH) (t : Nat) (g : Int32 → Int32) : Option (kL × List Value × kH) := match st with
  | .int v :: .int j :: .ref q :: r => match kArr hp q t with
    | some x => if j < 0 ∨ x.1 ≤ j.toNatClampNeg then none else some (lv, r, hp.set q (.inl (t, x.1, .inl (upd x.2 j.toNatClampNeg (g v)))))
    | none => none
  | _ => none
def kBj (lv : kL) (st : List Value) (hp : kH) : Option (kL × List Value × kH) := match st with
  | .long v :: .int j :: .ref q :: r => match kArrL hp q with
    | some x => if j < 0 ∨ x.1 ≤ j.toNatClampNeg then none else some (lv, r, hp.set q (.inl (1, x.1, .inr (.inl (vp_updL x.2 j.toNatClampNeg v)))))
    | none => none
  | _ => none
def kMx (lv : kL) (st : List Value) (hp : kH) (f : Int32 → Int32 → Int32) : Option (kL × List Value × kH) := match st with
  | .int y :: .int x :: r => if r.length ≤ 4 then some (lv, .int (f x y) :: r, hp) else none
  | _ => none
def kCpI (lv : kL) (st : List Value) (hp : kH) : Option (kL × List Value × kH) := match st with
  | .int n :: .int dp :: .ref q1 :: .int sp :: .ref q0 :: r => match kArr hp q0 0, kArr hp q1 0 with
    | some x, some y => if r.length ≤ 4 ∧ ¬ sp < 0 ∧ ¬ dp < 0 ∧ ¬ n < 0 ∧ sp.toNatClampNeg + n.toNatClampNeg ≤ x.1 ∧ dp.toNatClampNeg + n.toNatClampNeg ≤ y.1 then some (lv, r, hp.set q1 (.inl (0, y.1, .inl (va_cpy x.2 y.2 sp.toNatClampNeg dp.toNatClampNeg n.toNatClampNeg)))) else none
    | _, _ => none
  | _ => none
def kCpL (lv : kL) (st : List Value) (hp : kH) : Option (kL × List Value × kH) := match st with
  | .int n :: .int dp :: .ref q1 :: .int sp :: .ref q0 :: r => match kArrL hp q0, kArrL hp q1 with
    | some x, some y => if r.length ≤ 4 ∧ ¬ sp < 0 ∧ ¬ dp < 0 ∧ ¬ n < 0 ∧ sp.toNatClampNeg + n.toNatClampNeg ≤ x.1 ∧ dp.toNatClampNeg + n.toNatClampNeg ≤ y.1 then some (lv, r, hp.set q1 (.inl (1, y.1, .inr (.inl (va_cpy x.2 y.2 sp.toNatClampNeg dp.toNatClampNeg n.toNatClampNeg))))) else none
    | _, _ => none
  | _ => none
def kNat (lv : kL) (st : List Value) (hp : kH) (a : Nat) : Option (kL × List Value × kH) :=
  if a = 1 then kMx lv st hp (fun x y => if x < y then y else x)
  else if a = 2 then kMx lv st hp (fun x y => if y < x then y else x)
  else if a = 3 then kCpI lv st hp
  else if a = 4 then kCpL lv st hp
  else none
def kS (ro : kRo) (i : Instr) (a b : Nat) (z : Int) (lv : kL) (st : List Value) (hp : kH) : Option (kL × List Value × kH) :=
  match i with
  | .iconst n => some (lv, .int (Int32.ofInt n) :: st, hp)
  | .bipush n => some (lv, .int (Int32.ofInt n) :: st, hp)
  | .sipush n => some (lv, .int (Int32.ofInt n) :: st, hp)
  | .lconst n => some (lv, .long (Int64.ofNat (n : Nat)) :: st, hp)
  | .ldc _ => some (lv, .int (Int32.ofInt z) :: st, hp)
  | .ldc_w _ => some (lv, .int (Int32.ofInt z) :: st, hp)
  | .ldc2_w _ => some (lv, .long (Int64.ofInt z) :: st, hp)
  | .iload_n k => kPi lv st hp k
  | .iload k => kPi lv st hp k
  | .lload_n k => kPl lv st hp k
  | .lload k => kPl lv st hp k
  | .aload_n k => kPa lv st hp k
  | .aload k => kPa lv st hp k
  | .istore_n k => kTi lv st hp k
  | .istore k => kTi lv st hp k
  | .astore_n k => kTa lv st hp k
  | .lstore k => kTl lv st hp k
  | .iinc k n => kInc lv st hp k n
  | .iadd => kSi lv hp (kI2 st (fun x y => .int (x + y)))
  | .isub => kSi lv hp (kI2 st (fun x y => .int (x - y)))
  | .imul => kSi lv hp (kI2 st (fun x y => .int (x * y)))
  | .iand => kSi lv hp (kI2 st (fun x y => .int (x &&& y)))
  | .ior => kSi lv hp (kI2 st (fun x y => .int (x ||| y)))
  | .ixor => kSi lv hp (kI2 st (fun x y => .int (x ^^^ y)))
  | .ishl => kSi lv hp (kI2 st (fun x y => .int (x <<< (y &&& 31))))
  | .iushr => kSi lv hp (kI2 st (fun x y => .int ((x.toUInt32 >>> (y.toUInt32 &&& Int32.toUInt32 31)).toInt32)))
  | .idiv => kDiv lv st hp (fun x y => x / y)
  | .irem => kDiv lv st hp (fun x y => x - x / y * y)
  | .ineg => kSi lv hp (kI1 st (fun x => .int (-x)))
  | .i2l => kSi lv hp (kI1 st (fun x => .long x.toInt64))
  | .i2b => kSi lv hp (kI1 st (fun x => .int x.toInt8.toInt32))
  | .i2s => kSi lv hp (kI1 st (fun x => .int x.toInt16.toInt32))
  | .l2i => (match st with
    | .long x :: r => some (lv, .int x.toInt32 :: r, hp)
    | _ => none)
  | .ladd => kSi lv hp (kJ2 st (fun x y => .long (x + y)))
  | .land => kSi lv hp (kJ2 st (fun x y => .long (x &&& y)))
  | .lor => kSi lv hp (kJ2 st (fun x y => .long (x ||| y)))
  | .lcmp => kSi lv hp (kJ2 st (fun x y => .int (lg_cmp x y)))
  | .lshl => (match st with
    | .int y :: .long x :: r => some (lv, .long (x <<< (y.toInt64 &&& 63)) :: r, hp)
    | _ => none)
  | .dup => kDup lv st hp
  | .pop => kPop lv st hp
  | .dup2 => kDup2 lv st hp
  | .getfield _ => kGet lv st hp a b
  | .putfield _ => kPut lv st hp a b z
  | .getstatic _ => some (lv, .ref a :: st, hp)
  | .arraylength => kAl lv st hp ro
  | .iaload => kAi lv st hp ro
  | .baload => kAt lv st hp a
  | .saload => kAt lv st hp 4
  | .laload => kAj lv st hp
  | .iastore => kBt lv st hp 0 (fun x => x)
  | .bastore => kBt lv st hp a (fun x => vp_nar (kBy a) x)
  | .sastore => kBt lv st hp 4 (fun x => vp_nar .short x)
  | .lastore => kBj lv st hp
  | .invokestatic _ => kNat lv st hp a
  | _ => none
def kCm (c : ClassFile.Cond) (x y : Int32) : Bool := match c with
  | .eq => decide (x = y)
  | .ne => decide (¬ x = y)
  | .lt => decide (x < y)
  | .ge => decide (y ≤ x)
  | .gt => decide (y < x)
  | .le => decide (x ≤ y)
def kCd (i : Instr) (st : List Value) : Option (Bool × List Value) := match i with
  | .ifCond c _ => (match st with
    | .int x :: r => some (kCm c x 0, r)
    | _ => none)
  | .if_icmp c _ => (match st with
    | .int y :: .int x :: r => some (kCm c x y, r)
    | _ => none)
  | _ => none
def kSw {α : Type} (k : Nat → α) (x : Int32) (d : Nat) : List (Int32 × Nat) → α
  | [] => k d
  | q :: r => if x = q.1 then k q.2 else kSw k x d r
def kRt (i : Instr) (a : Nat) (st : List Value) (hp : kH) : Option kR := match i with
  | .ireturn => (match st with
    | [.int x] => if a = 0 then some (some (.int x), hp) else if x = 0 ∨ x = 1 then some (some (.int x), hp) else none
    | _ => none)
  | .lreturn => (match st with
    | [.long x] => some (some (.long x), hp)
    | _ => none)
  | .return_ => (match st with
    | [] => some (none, hp)
    | _ => none)
  | _ => none
abbrev kEo : Type := Nat → List Value → kH → Option kR
abbrev kJo : Type := Nat → kL → List Value → kH → Option kR
def kX (ro : kRo) (E : kEo) (J : kJo) : List kIt → kL → List Value → kH → Option kR
  | [], _, _, _ => none
  | (_, .inl (i, a, b, z)) :: is, lv, st, hp => match kS ro i a b z lv st hp with
    | some w => kX ro E J is w.1 w.2.1 w.2.2
    | none => none
  | (_, .inr (i, k, a, b, sw)) :: is, lv, st, hp =>
    if k = 0 then (match kCd i st with
      | some w => if w.1 = true then J a lv w.2 hp else kX ro E J is lv w.2 hp
      | none => none)
    else if k = 1 then J a lv st hp
    else if k = 2 then (match st with
      | .int x :: r => kSw (fun t => J t lv r hp) x a sw
      | _ => none)
    else if k = 3 then kRt i a st hp
    else if k = 4 then (if b ≤ st.length ∧ st.length ≤ b + 4 then (match E a (st.take b).reverse hp with
      | some w => kX ro E J is lv (w.1.toList ++ st.drop b) w.2
      | none => none) else none)
    else none
/-- so many jumps of one method, its calls answered by E -/
def kG (ro : kRo) (blk : Nat → Nat → List kIt) (E : kEo) (m : Nat) : Nat → kJo
  | 0 => fun _ _ _ _ => none
  | n + 1 => fun l lv st hp => kX ro E (kG ro blk E m n) (blk m l) lv st hp
noncomputable def kU (ro : kRo) (blk : Nat → Nat → List kIt) (E : kEo) (m : Nat) : kJo := fun l lv st hp =>
  @dite _ (∃ r, ∃ n, kG ro blk E m n l lv st hp = some r) (Classical.propDecidable _) (fun h => some (Classical.choose h)) (fun _ => none)
def kEnt (n : Nat) (as : List Value) : kL := (fun l : kL => l ++ List.replicate (n - l.length) none) (as.flatMap fun v => if v.category = 2 then [some v, none] else [some v])
def kRc (o : Option Nat) (as : List Value) (hp : kH) : Bool := match o with
  | none => true
  | some ci => match as with
    | .ref q :: _ => (kObj hp q ci).isSome
    | _ => false
/-- a call enters its method if the arguments fit and the receiver is of its sort -/
def kMof (mx : Nat → Nat) (rc : Nat → Option Nat) (B : Nat → kJo) : kEo := fun m as hp => if (kEnt (mx m) as).length = mx m ∧ kRc (rc m) as hp = true then B m 0 (kEnt (mx m) as) [] hp else none
noncomputable def kD (ro : kRo) (blk : Nat → Nat → List kIt) (mx : Nat → Nat) (rc : Nat → Option Nat) : Nat → Nat → kJo
  | 0 => fun _ _ _ _ _ => none
  | d + 1 => fun m => kU ro blk (kMof mx rc (kD ro blk mx rc d)) m
/-- a call of a method, d calls deep at most -/
noncomputable def kM (ro : kRo) (blk : Nat → Nat → List kIt) (mx : Nat → Nat) (rc : Nat → Option Nat) (d : Nat) : kEo := kMof mx rc (kD ro blk mx rc d)
theorem kSw_mono {β : Type} {k k' : Nat → Option β} (h : ∀ t r, k t = some r → k' t = some r) (x : Int32) (d : Nat) : ∀ (sw : List (Int32 × Nat)) (r : β), kSw k x d sw = some r → kSw k' x d sw = some r
  | [], r, e => h _ _ e
  | q :: l, r, e => by
    unfold kSw at e ⊢
    split
    · rename_i hq; rw [if_pos hq] at e; exact h _ _ e
    · rename_i hq; rw [if_neg hq] at e; exact kSw_mono h x d l r e
theorem kX_mono {ro : kRo} {E E' : kEo} {J J' : kJo} (hE : ∀ m as hp r, E m as hp = some r → E' m as hp = some r) (hJ : ∀ t lv st hp r, J t lv st hp = some r → J' t lv st hp = some r) :
    ∀ (is : List kIt) (lv : kL) (st : List Value) (hp : kH) (r : kR), kX ro E J is lv st hp = some r → kX ro E' J' is lv st hp = some r
  | [], lv, st, hp, r, h => h
  | (_, .inl (i, a, b, z)) :: is, lv, st, hp, r, h => by
    unfold kX at h ⊢
    cases hs : kS ro i a b z lv st hp with
    | none => rw [hs] at h; cases h
    | some w =>
      rw [hs] at h
      exact kX_mono hE hJ is _ _ _ r h
  | (_, .inr (i, k, a, b, sw)) :: is, lv, st, hp, r, h => by
    unfold kX at h ⊢
    by_cases h0 : k = 0
    · rw [if_pos h0] at h ⊢
      cases hs : kCd i st with
      | none => rw [hs] at h; cases h
      | some w =>
        rw [hs] at h
        dsimp only at h ⊢
        by_cases hw : w.1 = true
        · rw [if_pos hw] at h ⊢; exact hJ _ _ _ _ _ h
        · rw [if_neg hw] at h ⊢; exact kX_mono hE hJ is _ _ _ r h
    · rw [if_neg h0] at h ⊢
      by_cases h1 : k = 1
      · rw [if_pos h1] at h ⊢; exact hJ _ _ _ _ _ h
      · rw [if_neg h1] at h ⊢
        by_cases h2 : k = 2
        · rw [if_pos h2] at h ⊢
          split at h
          · exact kSw_mono (fun t r => hJ t _ _ _ r) _ _ _ _ h
          · cases h
        · rw [if_neg h2] at h ⊢
          by_cases h3 : k = 3
          · rw [if_pos h3] at h ⊢; exact h
          · rw [if_neg h3] at h ⊢
            by_cases h4 : k = 4
            · rw [if_pos h4] at h ⊢
              by_cases hl : b ≤ st.length ∧ st.length ≤ b + 4
              · rw [if_pos hl] at h ⊢
                cases hs : E a (st.take b).reverse hp with
                | none => rw [hs] at h; cases h
                | some w =>
                  rw [hs] at h
                  rw [hE _ _ _ _ hs]
                  exact kX_mono hE hJ is _ _ _ r h
              · rw [if_neg hl] at h; cases h
            · rw [if_neg h4] at h; cases h
theorem kG_mono {ro : kRo} {blk : Nat → Nat → List kIt} {E : kEo} {m : Nat} : ∀ (n : Nat) (l : Nat) (lv : kL) (st : List Value) (hp : kH) (r : kR), kG ro blk E m n l lv st hp = some r → kG ro blk E m (n + 1) l lv st hp = some r
  | 0, l, lv, st, hp, r, h => by cases h
  | n + 1, l, lv, st, hp, r, h => kX_mono (fun _ _ _ _ h => h) (kG_mono n) _ _ _ _ _ h
theorem kG_le {ro : kRo} {blk : Nat → Nat → List kIt} {E : kEo} {m : Nat} {n l : Nat} {lv : kL} {st : List Value} {hp : kH} {r : kR} (h : kG ro blk E m n l lv st hp = some r) (k : Nat) : kG ro blk E m (n + k) l lv st hp = some r := by
  induction k with
  | zero => exact h
  | succ k ih => exact kG_mono _ _ _ _ _ _ ih
theorem kU_iff {ro : kRo} {blk : Nat → Nat → List kIt} {E : kEo} {m l : Nat} {lv : kL} {st : List Value} {hp : kH} {r : kR} : kU ro blk E m l lv st hp = some r ↔ ∃ n, kG ro blk E m n l lv st hp = some r := by
  unfold kU
  by_cases h : ∃ r, ∃ n, kG ro blk E m n l lv st hp = some r
  · rw [dif_pos h]
    obtain ⟨n, hn⟩ := Classical.choose_spec h
    constructor
    · intro e
      cases e
      exact ⟨n, hn⟩
    · rintro ⟨k, hk⟩
      have h1 := kG_le hn k
      have h2 := kG_le hk n
      rw [Nat.add_comm k n] at h2
      exact h1.symm.trans h2
  · rw [dif_neg h]
    constructor
    · intro e; cases e
    · rintro ⟨n, hn⟩
      exact absurd ⟨r, n, hn⟩ h
theorem kSw_fin {ro : kRo} {blk : Nat → Nat → List kIt} {E : kEo} {m : Nat} (lv : kL) (st : List Value) (hp : kH) (x : Int32) (d : Nat) : ∀ (sw : List (Int32 × Nat)) (r : kR), kSw (fun t => kU ro blk E m t lv st hp) x d sw = some r → ∃ n, kSw (fun t => kG ro blk E m n t lv st hp) x d sw = some r
  | [], r, e => kU_iff.mp e
  | q :: l, r, e => by
    unfold kSw at e ⊢
    split
    · rename_i hq; rw [if_pos hq] at e; exact kU_iff.mp e
    · rename_i hq; rw [if_neg hq] at e; exact kSw_fin lv st hp x d l r e
theorem kX_fin {ro : kRo} {blk : Nat → Nat → List kIt} {E : kEo} {m : Nat} :
    ∀ (is : List kIt) (lv : kL) (st : List Value) (hp : kH) (r : kR), kX ro E (kU ro blk E m) is lv st hp = some r → ∃ n, kX ro E (kG ro blk E m n) is lv st hp = some r
  | [], lv, st, hp, r, h => by cases h
  | (_, .inl (i, a, b, z)) :: is, lv, st, hp, r, h => by
    unfold kX at h ⊢
    cases hs : kS ro i a b z lv st hp with
    | none => rw [hs] at h; cases h
    | some w =>
      rw [hs] at h
      exact kX_fin is _ _ _ r h
  | (_, .inr (i, k, a, b, sw)) :: is, lv, st, hp, r, h => by
    unfold kX at h ⊢
    by_cases h0 : k = 0
    · simp only [if_pos h0] at h ⊢
      cases hs : kCd i st with
      | none => rw [hs] at h; cases h
      | some w =>
        rw [hs] at h
        dsimp only at h ⊢
        by_cases hw : w.1 = true
        · simp only [if_pos hw] at h ⊢; exact kU_iff.mp h
        · simp only [if_neg hw] at h ⊢; exact kX_fin is _ _ _ r h
    · simp only [if_neg h0] at h ⊢
      by_cases h1 : k = 1
      · simp only [if_pos h1] at h ⊢; exact kU_iff.mp h
      · simp only [if_neg h1] at h ⊢
        by_cases h2 : k = 2
        · simp only [if_pos h2] at h ⊢
          split at h
          · exact kSw_fin _ _ _ _ _ _ _ h
          · cases h
        · simp only [if_neg h2] at h ⊢
          by_cases h3 : k = 3
          · simp only [if_pos h3] at h ⊢; exact ⟨0, h⟩
          · simp only [if_neg h3] at h ⊢
            by_cases h4 : k = 4
            · simp only [if_pos h4] at h ⊢
              by_cases hl : b ≤ st.length ∧ st.length ≤ b + 4
              · simp only [if_pos hl] at h ⊢
                cases hs : E a (st.take b).reverse hp with
                | none => rw [hs] at h; cases h
                | some w =>
                  rw [hs] at h
                  exact kX_fin is _ _ _ r h
              · simp only [if_neg hl] at h; cases h
            · simp only [if_neg h4] at h; cases h
/-- a method's block runs by its own equation -/
theorem kU_eq (ro : kRo) (blk : Nat → Nat → List kIt) (E : kEo) (m l : Nat) (lv : kL) (st : List Value) (hp : kH) : kU ro blk E m l lv st hp = kX ro E (kU ro blk E m) (blk m l) lv st hp := by
  apply Option.ext
  intro r
  constructor
  · intro h
    obtain ⟨n, hn⟩ := kU_iff.mp h
    cases n with
    | zero => cases hn
    | succ n => exact kX_mono (fun _ _ _ _ h => h) (fun t lv st hp r h => kU_iff.mpr ⟨n, h⟩) _ _ _ _ _ hn
  · intro h
    obtain ⟨n, hn⟩ := kX_fin _ _ _ _ _ h
    exact kU_iff.mpr ⟨n + 1, hn⟩
theorem kD_eq (ro : kRo) (blk : Nat → Nat → List kIt) (mx : Nat → Nat) (rc : Nat → Option Nat) (d m l : Nat) (lv : kL) (st : List Value) (hp : kH) : kD ro blk mx rc (d + 1) m l lv st hp = kX ro (kM ro blk mx rc d) (kD ro blk mx rc (d + 1) m) (blk m l) lv st hp := kU_eq _ _ _ _ _ _ _ _
end
section
/-! THE ENGINE IS SOUND, simple instructions: what it does to the lists, the machine does to its heap -/
def kV (ad : Nat → Nat) (v : Value) : Value := match v with
  | .ref a => .ref (ad a)
  | v => v
def kC (tc : Nat → ClassId) (ad : Nat → Nat) (e : kE) : va_E := match e with
  | .inl x => .inl (tc x.1, x.2)
  | .inr o => .inr (o.1, o.2.map (kV ad))
def kW (tc : Nat → ClassId) (ad : Nat → Nat) : Nat → kH → va_W
  | _, [] => []
  | i, e :: r => (ad i, kC tc ad e) :: kW tc ad (i + 1) r
theorem kW_get (tc : Nat → ClassId) (ad : Nat → Nat) : ∀ (hp : kH) (i0 i : Nat), (kW tc ad i0 hp)[i]? = (hp[i]?).map (fun e => (ad (i0 + i), kC tc ad e))
  | [], i0, i => by simp [kW]
  | e :: r, i0, 0 => by simp [kW]
  | e :: r, i0, i + 1 => by
    have h := kW_get tc ad r (i0 + 1) i
    simp only [kW, List.getElem?_cons_succ, h]
    rw [show i0 + 1 + i = i0 + (i + 1) by omega]
theorem kW_at {tc : Nat → ClassId} {ad : Nat → Nat} {hp : kH} {q : Nat} {e : kE} (h : hp[q]? = some e) : (kW tc ad 0 hp)[q]? = some (ad q, kC tc ad e) := by
  rw [kW_get, h, Nat.zero_add]; rfl
theorem kW_set (tc : Nat → ClassId) (ad : Nat → Nat) (e : kE) : ∀ (hp : kH) (i0 i : Nat), kW tc ad i0 (hp.set i e) = (kW tc ad i0 hp).set i (ad (i0 + i), kC tc ad e)
  | [], i0, i => by simp [kW]
  | x :: r, i0, 0 => by simp [kW]
  | x :: r, i0, i + 1 => by
    have h := kW_set tc ad e r (i0 + 1) i
    simp only [kW, List.set_cons_succ, h]
    rw [show i0 + 1 + i = i0 + (i + 1) by omega]
theorem kW_put (tc : Nat → ClassId) (ad : Nat → Nat) (e : kE) (hp : kH) (i : Nat) : kW tc ad 0 (hp.set i e) = (kW tc ad 0 hp).set i (ad i, kC tc ad e) := by
  rw [kW_set, Nat.zero_add]
theorem kV_cat (ad : Nat → Nat) (v : Value) : (kV ad v).category = v.category := by cases v <;> rfl
def kLl (ad : Nat → Nat) : Nat → kL → List (Nat × Value)
  | _, [] => []
  | i, none :: r => kLl ad (i + 1) r
  | i, some v :: r => (i, kV ad v) :: kLl ad (i + 1) r
theorem kLl_mem {ad : Nat → Nat} {i : Nat} {w : Value} : ∀ (lv : kL) (i0 : Nat), (i, w) ∈ kLl ad i0 lv ↔ ∃ j v, lv[j]? = some (some v) ∧ i = i0 + j ∧ w = kV ad v
  | [], i0 => by simp [kLl]
  | none :: r, i0 => by
    have h := kLl_mem (ad := ad) (i := i) (w := w) r (i0 + 1)
    simp only [kLl, h]
    constructor
    · rintro ⟨j, v, h1, h2, h3⟩
      exact ⟨j + 1, v, by simpa using h1, by omega, h3⟩
    · rintro ⟨j, v, h1, h2, h3⟩
      cases j with
      | zero => simp at h1
      | succ j => exact ⟨j, v, by simpa using h1, by omega, h3⟩
  | some u :: r, i0 => by
    have h := kLl_mem (ad := ad) (i := i) (w := w) r (i0 + 1)
    simp only [kLl, List.mem_cons, h]
    constructor
    · rintro (h0 | ⟨j, v, h1, h2, h3⟩)
      · cases h0
        exact ⟨0, u, by simp, by omega, rfl⟩
      · exact ⟨j + 1, v, by simpa using h1, by omega, h3⟩
    · rintro ⟨j, v, h1, h2, h3⟩
      cases j with
      | zero =>
        simp at h1
        subst h1
        left
        rw [h2, h3]; rfl
      | succ j => exact Or.inr ⟨j, v, by simpa using h1, by omega, h3⟩
theorem kLd_some {lv : kL} {i : Nat} {v : Value} (h : kLd lv i = some v) : lv[i]? = some (some v) := by
  unfold kLd at h
  split at h
  · rename_i w hw; cases h; exact hw
  · cases h
theorem kLd_at {ad : Nat → Nat} {ls : Array Slot} {nL : Nat} {lv : kL} {i : Nat} {v : Value} (hl : lv_has ls nL (kLl ad 0 lv)) (h : kLd lv i = some v) : ls[i]? = some (.val (kV ad v)) :=
  hl.2.2 (i, kV ad v) ((kLl_mem lv 0).mpr ⟨i, v, kLd_some h, by omega, rfl⟩)
theorem kClr_len (lv : kL) (i : Nat) : (kClr lv i).length = lv.length := by
  cases i with
  | zero => rfl
  | succ j =>
    unfold kClr
    dsimp only
    split <;> simp
theorem kClr_get {lv : kL} {i j : Nat} {v : Value} (h : (kClr lv i)[j]? = some (some v)) : lv[j]? = some (some v) ∧ (j + 1 = i → v.category = 1) := by
  cases i with
  | zero => exact ⟨h, fun q => by omega⟩
  | succ k =>
    unfold kClr at h
    dsimp only at h
    split at h
    · by_cases hj : k = j
      · subst hj
        rw [List.getElem?_set] at h
        simp at h
      · rw [List.getElem?_set_ne hj] at h
        exact ⟨h, fun q => by omega⟩
    · by_cases hj : k = j
      · subst hj
        rw [List.getElem?_set] at h
        simp at h
      · rw [List.getElem?_set_ne hj] at h
        exact ⟨h, fun q => by omega⟩
    · rename_i h1 h2
      refine ⟨h, fun q => ?_⟩
      have hk : j = k := by omega
      subst hk
      cases v with
      | long x => exact absurd h (h1 x)
      | double x => exact absurd h (h2 x)
      | _ => rfl
theorem kSt1_has {ad : Nat → Nat} {ls ls' : Array Slot} {nL i : Nat} {lv : kL} {v : Value} (hi : i < lv.length)
    (h' : lv_has ls' nL ((i, kV ad v) :: (kLl ad 0 lv).filter (fun q => !(q.1 == i) && !(q.1 + 1 == i && q.2.category == 2)))) : lv_has ls' nL (kLl ad 0 (kSt1 lv i v)) := by
  refine ⟨h'.1, h'.2.1, fun q hq => h'.2.2 q ?_⟩
  obtain ⟨qi, qw⟩ := q
  obtain ⟨j, u, h1, h2, h3⟩ := (kLl_mem _ _).mp hq
  rw [Nat.zero_add] at h2
  subst h2; subst h3
  unfold kSt1 at h1
  by_cases hj : i = qi
  · subst hj
    rw [List.getElem?_set_self (by rw [kClr_len]; exact hi)] at h1
    cases h1
    exact List.mem_cons_self
  · rw [List.getElem?_set_ne hj] at h1
    obtain ⟨g1, g2⟩ := kClr_get h1
    refine List.mem_cons_of_mem _ (List.mem_filter.mpr ⟨(kLl_mem _ _).mpr ⟨qi, u, g1, by omega, rfl⟩, ?_⟩)
    simp only [kV_cat, Bool.and_eq_true, Bool.not_eq_true', beq_eq_false_iff_ne, Bool.and_eq_false_iff]
    refine ⟨fun h => hj h.symm, ?_⟩
    by_cases hq1 : qi + 1 = i
    · right; rw [g2 hq1]; decide
    · left; exact hq1
theorem kSt2_has {ad : Nat → Nat} {ls ls' : Array Slot} {nL i : Nat} {lv : kL} {v : Value} (hi : i + 1 < lv.length)
    (h' : lv_has ls' nL ((i, kV ad v) :: (kLl ad 0 lv).filter (fun q => !(q.1 == i) && (!(q.1 == i + 1) && !(q.1 + 1 == i && q.2.category == 2))))) : lv_has ls' nL (kLl ad 0 (kSt2 lv i v)) := by
  refine ⟨h'.1, h'.2.1, fun q hq => h'.2.2 q ?_⟩
  obtain ⟨qi, qw⟩ := q
  obtain ⟨j, u, h1, h2, h3⟩ := (kLl_mem _ _).mp hq
  rw [Nat.zero_add] at h2
  subst h2; subst h3
  unfold kSt2 at h1
  by_cases hj2 : i + 1 = qi
  · subst hj2
    rw [List.getElem?_set_self (by simp [kClr_len]; exact hi)] at h1
    cases h1
  · rw [List.getElem?_set_ne hj2] at h1
    by_cases hj : i = qi
    · subst hj
      rw [List.getElem?_set_self (by rw [kClr_len]; omega)] at h1
      cases h1
      exact List.mem_cons_self
    · rw [List.getElem?_set_ne hj] at h1
      obtain ⟨g1, g2⟩ := kClr_get h1
      refine List.mem_cons_of_mem _ (List.mem_filter.mpr ⟨(kLl_mem _ _).mpr ⟨qi, u, g1, by omega, rfl⟩, ?_⟩)
      simp only [kV_cat, Bool.and_eq_true, Bool.not_eq_true', beq_eq_false_iff_ne, Bool.and_eq_false_iff]
      refine ⟨fun h => hj h.symm, fun h => hj2 h.symm, ?_⟩
      by_cases hq1 : qi + 1 = i
      · right; rw [g2 hq1]; decide
      · left; exact hq1
theorem kSt1_len (lv : kL) (i : Nat) (v : Value) : (kSt1 lv i v).length = lv.length := by unfold kSt1; rw [List.length_set, kClr_len]
theorem kSt2_len (lv : kL) (i : Nat) (v : Value) : (kSt2 lv i v).length = lv.length := by unfold kSt2; rw [List.length_set, List.length_set, kClr_len]
def kTy (tc : Nat → ClassId) : List (ClassId × FieldType) := [(tc 0, .int), (tc 1, .long), (tc 2, .byte), (tc 3, .boolean), (tc 4, .short)]
def kIv (D : va_G) (cl : List vw_C) (tc : Nat → ClassId) (ad : Nat → Nat) (A : Nat → Prop) (s : State) (hp : kH) (H : Heap) (locs : List Loc) : Prop := va_P D cl (kW tc ad 0 hp) H ∧ va_D A (kW tc ad 0 hp) ∧ va_S A s.heap H locs
def kRoOk (ro : kRo) (ad : Nat → Nat) (A : Nat → Prop) (s : State) : Prop := ∀ q x, ro q = some x → va_T .int (ad q) x.1 (fun j => .int (x.2 j)) A s s.heap
/-- statics (file, name, place) and links across a nest -/
abbrev kZt : Type := List (String × String × Nat) × List Jvm.Cond
def kNok (ns : List Jvm.Cond) (U : State) : Prop := ∀ w ∈ ns, va_Nw w U ∧ ((∃ a i b n d h, w = .fieldLinkNest a i b n d h) ∨ ∃ a i x h, w = .methodLinkNest a i x h)
theorem kNok.same {ns : List Jvm.Cond} {u U : State} (h : u.vm = U.vm) (hn : kNok ns u) : kNok ns U := by
  intro w hw
  obtain ⟨h1, h2⟩ := hn w hw
  refine ⟨?_, h2⟩
  rcases h2 with ⟨a, i, b, n, d, q, rfl⟩ | ⟨a, i, x, q, rfl⟩
  · exact va_Nw.same rfl h h1
  · exact va_Nw.same rfl h h1
theorem kNok.warm {ns : List Jvm.Cond} {s U : State} (hW : s.WarmedH U.vm) (hn : kNok ns s) : kNok ns U := by
  intro w hw
  obtain ⟨h1, h2⟩ := hn w hw
  refine ⟨?_, h2⟩
  rcases h2 with ⟨a, i, b, n, d, q, rfl⟩ | ⟨a, i, x, q, rfl⟩
  · exact va_Nw.warmF hW h1
  · exact va_Nw.warmM hW h1
def kZOk (zs : kZt) (ad : Nat → Nat) (A : Nat → Prop) (s : State) : Prop := (∀ z ∈ zs.1, va_Z z.1 z.2.1 "[I" (.ref (ad z.2.2)) A s s.heap) ∧ kNok zs.2 s
def kLn (i : Instr) : Nat := match i with
  | .bipush _ => 2 | .sipush _ => 3 | .ldc _ => 2 | .ldc_w _ => 3 | .ldc2_w _ => 3 | .iload _ => 2 | .lload _ => 2 | .aload _ => 2 | .istore _ => 2 | .lstore _ => 2 | .iinc _ _ => 3
  | .getfield _ => 3 | .putfield _ => 3 | .getstatic _ => 3 | .invokestatic _ => 3 | .invokevirtual _ => 3 | .ifCond _ _ => 3 | .if_icmp _ _ => 3 | .goto _ => 3
  | _ => 1
/-- what the tables must say for a simple instruction of the method's own file -/
def kWd (tbl : List Jvm.Cond) (cl : List vw_C) (own : String) (zs : kZt) (i : Instr) (a b : Nat) (z : Int) : Prop := match i with
  | .bipush n => (Int8.ofInt n).toInt32 = Int32.ofInt n
  | .sipush n => (Int16.ofInt n).toInt32 = Int32.ofInt n
  | .ldc idx => Jvm.Cond.constant own idx (Int32.ofInt z) ∈ tbl
  | .ldc_w idx => Jvm.Cond.constant own idx (Int32.ofInt z) ∈ tbl
  | .ldc2_w idx => Jvm.Cond.constantLong own idx (Int64.ofInt z) ∈ tbl
  | .getfield idx => ∃ q : vw_C, cl[a]? = some q ∧ b < q.2.2 ∧ (q.2.1 b).1 = q.1 ∧ Jvm.Cond.fieldLink own idx q.1 (q.2.1 b).2.1 (q.2.1 b).2.2.1 ∈ tbl ∧ ∀ w ∈ u_ws q.1 q.2.1 q.2.2, w ∈ tbl
  | .putfield idx => ∃ (q : vw_C) (ty0 : Nat → FieldType), cl[a]? = some q ∧ b < q.2.2 ∧ (q.2.1 b).1 = q.1 ∧ Jvm.Cond.fieldLink own idx q.1 (q.2.1 b).2.1 (q.2.1 b).2.2.1 ∈ tbl ∧ (∀ w ∈ u_ws q.1 q.2.1 q.2.2, w ∈ tbl) ∧ (q.2.1 b).2.2.2 = false ∧ (∀ k, k < q.2.2 → parseFieldDescriptor (q.2.1 k).2.2.1 = some (ty0 k)) ∧ (∀ a, a < q.2.2 → ∀ b, b < q.2.2 → a ≠ b → (q.2.1 a).2.1 ≠ (q.2.1 b).2.1) ∧ ((z = 0 ∧ ty0 b = .int) ∨ (z = 1 ∧ ty0 b = .boolean) ∨ (z = 2 ∧ ty0 b = .array .int))
  | .getstatic idx => ∃ C n host : String, (C, n, a) ∈ zs.1 ∧ (Jvm.Cond.fieldLink own idx C n "[I" ∈ tbl ∨ Jvm.Cond.fieldLinkNest own idx C n "[I" host ∈ zs.2)
  | .baload => a = 2 ∨ a = 3
  | .bastore => a = 2 ∨ a = 3
  | .invokestatic idx => (a = 1 → Jvm.Cond.methodLink own idx Lib.Math.max.name ∈ tbl ∧ Jvm.Cond.static Lib.Math.max.name ∈ tbl ∧ Jvm.Cond.initialized "java/lang/Math" ∈ tbl ∧ Jvm.Cond.code Lib.Math.max.name Lib.Math.max.code 2 (some .int) ∈ tbl)
      ∧ (a = 2 → Jvm.Cond.methodLink own idx Lib.Math.min.name ∈ tbl ∧ Jvm.Cond.static Lib.Math.min.name ∈ tbl ∧ Jvm.Cond.initialized "java/lang/Math" ∈ tbl ∧ Jvm.Cond.code Lib.Math.min.name Lib.Math.min.code 2 (some .int) ∈ tbl)
      ∧ (a = 3 ∨ a = 4 → Jvm.Cond.methodLink own idx arraycopyName ∈ tbl ∧ Jvm.Cond.native arraycopyName ∈ tbl ∧ Jvm.Cond.static arraycopyName ∈ tbl ∧ Jvm.Cond.initialized "java/lang/System" ∈ tbl)
  | _ => True
theorem kSi_inv {lv lv' : kL} {hp hp' : kH} {o : Option (List Value)} {st' : List Value} (h : kSi lv hp o = some (lv', st', hp')) : o = some st' ∧ lv' = lv ∧ hp' = hp := by
  unfold kSi at h
  cases o with
  | none => cases h
  | some x => cases h; exact ⟨rfl, rfl, rfl⟩
theorem kI1_inv {lv lv' : kL} {hp hp' : kH} {st st' : List Value} {f : Int32 → Value} (h : kSi lv hp (kI1 st f) = some (lv', st', hp')) : ∃ x r, st = .int x :: r ∧ lv' = lv ∧ st' = f x :: r ∧ hp' = hp := by
  obtain ⟨h1, h2, h3⟩ := kSi_inv h
  unfold kI1 at h1
  split at h1
  · cases h1; exact ⟨_, _, rfl, h2, rfl, h3⟩
  · cases h1
theorem kI2_inv {lv lv' : kL} {hp hp' : kH} {st st' : List Value} {f : Int32 → Int32 → Value} (h : kSi lv hp (kI2 st f) = some (lv', st', hp')) : ∃ x y r, st = .int y :: .int x :: r ∧ lv' = lv ∧ st' = f x y :: r ∧ hp' = hp := by
  obtain ⟨h1, h2, h3⟩ := kSi_inv h
  unfold kI2 at h1
  split at h1
  · cases h1; exact ⟨_, _, _, rfl, h2, rfl, h3⟩
  · cases h1
theorem kJ2_inv {lv lv' : kL} {hp hp' : kH} {st st' : List Value} {f : Int64 → Int64 → Value} (h : kSi lv hp (kJ2 st f) = some (lv', st', hp')) : ∃ x y r, st = .long y :: .long x :: r ∧ lv' = lv ∧ st' = f x y :: r ∧ hp' = hp := by
  obtain ⟨h1, h2, h3⟩ := kSi_inv h
  unfold kJ2 at h1
  split at h1
  · cases h1; exact ⟨_, _, _, rfl, h2, rfl, h3⟩
  · cases h1
theorem kPi_inv {lv lv' : kL} {hp hp' : kH} {st st' : List Value} {i : Nat} (h : kPi lv st hp i = some (lv', st', hp')) : ∃ x, kLd lv i = some (.int x) ∧ lv' = lv ∧ st' = .int x :: st ∧ hp' = hp := by
  unfold kPi at h
  split at h
  · rename_i x hx; cases h; exact ⟨x, hx, rfl, rfl, rfl⟩
  · cases h
theorem kPl_inv {lv lv' : kL} {hp hp' : kH} {st st' : List Value} {i : Nat} (h : kPl lv st hp i = some (lv', st', hp')) : ∃ x, kLd lv i = some (.long x) ∧ lv' = lv ∧ st' = .long x :: st ∧ hp' = hp := by
  unfold kPl at h
  split at h
  · rename_i x hx; cases h; exact ⟨x, hx, rfl, rfl, rfl⟩
  · cases h
theorem kPa_inv {lv lv' : kL} {hp hp' : kH} {st st' : List Value} {i : Nat} (h : kPa lv st hp i = some (lv', st', hp')) : ∃ x, kLd lv i = some (.ref x) ∧ lv' = lv ∧ st' = .ref x :: st ∧ hp' = hp := by
  unfold kPa at h
  split at h
  · rename_i x hx; cases h; exact ⟨x, hx, rfl, rfl, rfl⟩
  · cases h
theorem kTi_inv {lv lv' : kL} {hp hp' : kH} {st st' : List Value} {i : Nat} (h : kTi lv st hp i = some (lv', st', hp')) : ∃ x, st = .int x :: st' ∧ i < lv.length ∧ lv' = kSt1 lv i (.int x) ∧ hp' = hp := by
  unfold kTi at h
  split at h
  · split at h
    · rename_i hi; cases h; exact ⟨_, rfl, hi, rfl, rfl⟩
    · cases h
  · cases h
theorem kTa_inv {lv lv' : kL} {hp hp' : kH} {st st' : List Value} {i : Nat} (h : kTa lv st hp i = some (lv', st', hp')) : ∃ x, st = .ref x :: st' ∧ i < lv.length ∧ lv' = kSt1 lv i (.ref x) ∧ hp' = hp := by
  unfold kTa at h
  split at h
  · split at h
    · rename_i hi; cases h; exact ⟨_, rfl, hi, rfl, rfl⟩
    · cases h
  · cases h
theorem kTl_inv {lv lv' : kL} {hp hp' : kH} {st st' : List Value} {i : Nat} (h : kTl lv st hp i = some (lv', st', hp')) : ∃ x, st = .long x :: st' ∧ i + 1 < lv.length ∧ lv' = kSt2 lv i (.long x) ∧ hp' = hp := by
  unfold kTl at h
  split at h
  · split at h
    · rename_i hi; cases h; exact ⟨_, rfl, hi, rfl, rfl⟩
    · cases h
  · cases h
theorem kInc_inv {lv lv' : kL} {hp hp' : kH} {st st' : List Value} {i : Nat} {n : Int} (h : kInc lv st hp i n = some (lv', st', hp')) : ∃ x, kLd lv i = some (.int x) ∧ lv' = kSt1 lv i (.int (x + Int32.ofInt n)) ∧ st' = st ∧ hp' = hp := by
  unfold kInc at h
  split at h
  · rename_i x hx; cases h; exact ⟨x, hx, rfl, rfl, rfl⟩
  · cases h
theorem kDiv_inv {lv lv' : kL} {hp hp' : kH} {st st' : List Value} {f : Int32 → Int32 → Int32} (h : kDiv lv st hp f = some (lv', st', hp')) : ∃ x y r, st = .int y :: .int x :: r ∧ ¬ y = 0 ∧ lv' = lv ∧ st' = .int (f x y) :: r ∧ hp' = hp := by
  unfold kDiv at h
  split at h
  · split at h
    · cases h
    · rename_i hi; cases h; exact ⟨_, _, _, rfl, hi, rfl, rfl, rfl⟩
  · cases h
theorem kDup_inv {lv lv' : kL} {hp hp' : kH} {st st' : List Value} (h : kDup lv st hp = some (lv', st', hp')) : ∃ v r, st = v :: r ∧ v.category = 1 ∧ lv' = lv ∧ st' = v :: v :: r ∧ hp' = hp := by
  unfold kDup at h
  split at h
  · split at h
    · rename_i hi; cases h; exact ⟨_, _, rfl, hi, rfl, rfl, rfl⟩
    · cases h
  · cases h
theorem kPop_inv {lv lv' : kL} {hp hp' : kH} {st st' : List Value} (h : kPop lv st hp = some (lv', st', hp')) : ∃ v, st = v :: st' ∧ v.category = 1 ∧ lv' = lv ∧ hp' = hp := by
  unfold kPop at h
  split at h
  · split at h
    · rename_i hi; cases h; exact ⟨_, rfl, hi, rfl, rfl⟩
    · cases h
  · cases h
theorem kDup2_inv {lv lv' : kL} {hp hp' : kH} {st st' : List Value} (h : kDup2 lv st hp = some (lv', st', hp')) : ∃ v w r, st = v :: w :: r ∧ v.category = 1 ∧ w.category = 1 ∧ lv' = lv ∧ st' = v :: w :: v :: w :: r ∧ hp' = hp := by
  unfold kDup2 at h
  split at h
  · split at h
    · rename_i hi; cases h; exact ⟨_, _, _, rfl, hi.1, hi.2, rfl, rfl, rfl⟩
    · cases h
  · cases h
theorem kObj_inv {hp : kH} {q a : Nat} {fs : List Value} (h : kObj hp q a = some fs) : hp[q]? = some (.inr (a, fs)) := by
  unfold kObj at h
  split at h
  · rename_i o ho
    split at h
    · rename_i ha; cases h; rw [ho]; obtain ⟨o1, o2⟩ := o; dsimp only at ha; rw [ha]
    · cases h
  · cases h
theorem kArr_inv {hp : kH} {q t : Nat} {x : Nat × (Nat → Int32)} (h : kArr hp q t = some x) : hp[q]? = some (.inl (t, x.1, .inl x.2)) := by
  unfold kArr at h
  split at h
  · rename_i y hy
    obtain ⟨y1, y2, y3⟩ := y
    split at h
    · rename_i ha
      dsimp only at ha h
      subst ha
      split at h
      · cases h; exact hy
      · cases h
    · cases h
  · cases h
theorem kArrL_inv {hp : kH} {q : Nat} {x : Nat × (Nat → Int64)} (h : kArrL hp q = some x) : hp[q]? = some (.inl (1, x.1, .inr (.inl x.2))) := by
  unfold kArrL at h
  split at h
  · rename_i y hy
    obtain ⟨y1, y2, y3⟩ := y
    split at h
    · rename_i ha
      dsimp only at ha h
      subst ha
      split at h
      · cases h; exact hy
      · cases h
    · cases h
  · cases h
theorem kGet_inv {lv lv' : kL} {hp hp' : kH} {st st' : List Value} {a b : Nat} (h : kGet lv st hp a b = some (lv', st', hp')) : ∃ q r fs v, st = .ref q :: r ∧ hp[q]? = some (.inr (a, fs)) ∧ fs[b]? = some v ∧ lv' = lv ∧ st' = v :: r ∧ hp' = hp := by
  unfold kGet at h
  split at h
  · split at h
    · rename_i fs ho
      split at h
      · rename_i v hv; cases h; exact ⟨_, _, fs, v, rfl, kObj_inv ho, hv, rfl, rfl, rfl⟩
      · cases h
    · cases h
  · cases h
theorem kPut_inv {lv lv' : kL} {hp hp' : kH} {st st' : List Value} {a b : Nat} {z : Int} (h : kPut lv st hp a b z = some (lv', st', hp')) : ∃ v q fs, st = v :: .ref q :: st' ∧ hp[q]? = some (.inr (a, fs)) ∧ b < fs.length ∧ kFit z v = true ∧ lv' = lv ∧ hp' = hp.set q (.inr (a, fs.set b v)) := by
  unfold kPut at h
  split at h
  · split at h
    · rename_i fs ho
      split at h
      · rename_i hc; cases h; exact ⟨_, _, fs, rfl, kObj_inv ho, hc.1, hc.2, rfl, rfl⟩
      · cases h
    · cases h
  · cases h
theorem kAl_inv {lv lv' : kL} {hp hp' : kH} {st st' : List Value} {ro : kRo} (h : kAl lv st hp ro = some (lv', st', hp')) : ∃ q r n, st = .ref q :: r ∧ kLen ro hp q = some n ∧ lv' = lv ∧ st' = .int (Int32.ofNat n) :: r ∧ hp' = hp := by
  unfold kAl at h
  split at h
  · split at h
    · rename_i n hn; cases h; exact ⟨_, _, n, rfl, hn, rfl, rfl, rfl⟩
    · cases h
  · cases h
theorem kAi_inv {lv lv' : kL} {hp hp' : kH} {st st' : List Value} {ro : kRo} (h : kAi lv st hp ro = some (lv', st', hp')) : ∃ j q r x, st = .int j :: .ref q :: r ∧ kRd ro hp q = some x ∧ vp_in j x.1 ∧ lv' = lv ∧ st' = .int (x.2 j.toNatClampNeg) :: r ∧ hp' = hp := by
  unfold kAi at h
  split at h
  · split at h
    · rename_i x hn
      split at h
      · cases h
      · rename_i hi; cases h; exact ⟨_, _, _, x, rfl, hn, hi, rfl, rfl, rfl⟩
    · cases h
  · cases h
theorem kAt_inv {lv lv' : kL} {hp hp' : kH} {st st' : List Value} {t : Nat} (h : kAt lv st hp t = some (lv', st', hp')) : ∃ j q r x, st = .int j :: .ref q :: r ∧ kArr hp q t = some x ∧ vp_in j x.1 ∧ lv' = lv ∧ st' = .int (x.2 j.toNatClampNeg) :: r ∧ hp' = hp := by
  unfold kAt at h
  split at h
  · split at h
    · rename_i x hn
      split at h
      · cases h
      · rename_i hi; cases h; exact ⟨_, _, _, x, rfl, hn, hi, rfl, rfl, rfl⟩
    · cases h
  · cases h
theorem kAj_inv {lv lv' : kL} {hp hp' : kH} {st st' : List Value} (h : kAj lv st hp = some (lv', st', hp')) : ∃ j q r x, st = .int j :: .ref q :: r ∧ kArrL hp q = some x ∧ vp_in j x.1 ∧ lv' = lv ∧ st' = .long (x.2 j.toNatClampNeg) :: r ∧ hp' = hp := by
  unfold kAj at h
  split at h
  · split at h
    · rename_i x hn
      split at h
      · cases h
      · rename_i hi; cases h; exact ⟨_, _, _, x, rfl, hn, hi, rfl, rfl, rfl⟩
    · cases h
  · cases h
theorem kBt_inv {lv lv' : kL} {hp hp' : kH} {st st' : List Value} {t : Nat} {g : Int32 → Int32} (h : kBt lv st hp t g = some (lv', st', hp')) : ∃ v j q x, st = .int v :: .int j :: .ref q :: st' ∧ kArr hp q t = some x ∧ vp_in j x.1 ∧ lv' = lv ∧ hp' = hp.set q (.inl (t, x.1, .inl (upd x.2 j.toNatClampNeg (g v)))) := by
  unfold kBt at h
  split at h
  · split at h
    · rename_i x hn
      split at h
      · cases h
      · rename_i hi; cases h; exact ⟨_, _, _, x, rfl, hn, hi, rfl, rfl⟩
    · cases h
  · cases h
theorem kBj_inv {lv lv' : kL} {hp hp' : kH} {st st' : List Value} (h : kBj lv st hp = some (lv', st', hp')) : ∃ v j q x, st = .long v :: .int j :: .ref q :: st' ∧ kArrL hp q = some x ∧ vp_in j x.1 ∧ lv' = lv ∧ hp' = hp.set q (.inl (1, x.1, .inr (.inl (vp_updL x.2 j.toNatClampNeg v)))) := by
  unfold kBj at h
  split at h
  · split at h
    · rename_i x hn
      split at h
      · cases h
      · rename_i hi; cases h; exact ⟨_, _, _, x, rfl, hn, hi, rfl, rfl⟩
    · cases h
  · cases h
theorem kMx_inv {lv lv' : kL} {hp hp' : kH} {st st' : List Value} {f : Int32 → Int32 → Int32} (h : kMx lv st hp f = some (lv', st', hp')) : ∃ x y r, st = .int y :: .int x :: r ∧ r.length ≤ 4 ∧ lv' = lv ∧ st' = .int (f x y) :: r ∧ hp' = hp := by
  unfold kMx at h
  split at h
  · split at h
    · rename_i hi; cases h; exact ⟨_, _, _, rfl, hi, rfl, rfl, rfl⟩
    · cases h
  · cases h
theorem kCpI_inv {lv lv' : kL} {hp hp' : kH} {st st' : List Value} (h : kCpI lv st hp = some (lv', st', hp')) : ∃ n dp q1 sp q0 x y, st = .int n :: .int dp :: .ref q1 :: .int sp :: .ref q0 :: st' ∧ kArr hp q0 0 = some x ∧ kArr hp q1 0 = some y ∧ st'.length ≤ 4 ∧ ¬ sp < 0 ∧ ¬ dp < 0 ∧ ¬ n < 0 ∧ sp.toNatClampNeg + n.toNatClampNeg ≤ x.1 ∧ dp.toNatClampNeg + n.toNatClampNeg ≤ y.1 ∧ lv' = lv ∧ hp' = hp.set q1 (.inl (0, y.1, .inl (va_cpy x.2 y.2 sp.toNatClampNeg dp.toNatClampNeg n.toNatClampNeg))) := by
  unfold kCpI at h
  split at h
  · split at h
    · rename_i x y hx hy
      split at h
      · rename_i hc
        cases h
        exact ⟨_, _, _, _, _, x, y, rfl, hx, hy, hc.1, hc.2.1, hc.2.2.1, hc.2.2.2.1, hc.2.2.2.2.1, hc.2.2.2.2.2, rfl, rfl⟩
      · cases h
    · cases h
  · cases h
theorem kCpL_inv {lv lv' : kL} {hp hp' : kH} {st st' : List Value} (h : kCpL lv st hp = some (lv', st', hp')) : ∃ n dp q1 sp q0 x y, st = .int n :: .int dp :: .ref q1 :: .int sp :: .ref q0 :: st' ∧ kArrL hp q0 = some x ∧ kArrL hp q1 = some y ∧ st'.length ≤ 4 ∧ ¬ sp < 0 ∧ ¬ dp < 0 ∧ ¬ n < 0 ∧ sp.toNatClampNeg + n.toNatClampNeg ≤ x.1 ∧ dp.toNatClampNeg + n.toNatClampNeg ≤ y.1 ∧ lv' = lv ∧ hp' = hp.set q1 (.inl (1, y.1, .inr (.inl (va_cpy x.2 y.2 sp.toNatClampNeg dp.toNatClampNeg n.toNatClampNeg)))) := by
  unfold kCpL at h
  split at h
  · split at h
    · rename_i x y hx hy
      split at h
      · rename_i hc
        cases h
        exact ⟨_, _, _, _, _, x, y, rfl, hx, hy, hc.1, hc.2.1, hc.2.2.1, hc.2.2.2.1, hc.2.2.2.2.1, hc.2.2.2.2.2, rfl, rfl⟩
      · cases h
    · cases h
  · cases h
theorem kSum_le (ad : Nat → Nat) : ∀ (st : List Value), ((st.map (kV ad)).map fun v => v.category).sum ≤ 2 * st.length
  | [] => by simp
  | v :: r => by
    have h := kSum_le ad r
    have hc : (kV ad v).category ≤ 2 := by cases v <;> simp [kV, Value.category]
    simp only [List.map_cons, List.sum_cons, List.length_cons]
    omega
end
section
/-! THE ENGINE IS SOUND: a simple instruction -/
section KSnd
variable {p : Program} {l : Launch} {e : Env} {R : Room} {s : State} {m : MethodId} {args : Array Value} {below : List Frame} {meth : Method} {c : Code} {cells slots : Nat} {Q : State → Prop} {H : Heap} {locs : List Loc}
variable {cc : ByteArray} {D : va_G} {cl : List vw_C} {A : Nat → Prop} {tc : Nat → ClassId} {ad : Nat → Nat} {ro : kRo} {own : String} {Ts tbl : List Jvm.Cond} {zs : kZt} {nL pc : Nat} {ls : Array Slot}
set_option maxHeartbeats 4000000 in
set_option maxRecDepth 100000 in
theorem kS_ok (hx : p.tables.exec = Jvm.exec) (hb : c.code = cc) (hml : c.maxLocals = nL) (hown : s.vm.findClass own = some m.cls) (hts : ∀ w ∈ Ts, w.before args s = true) (hT : ∀ w ∈ tbl, w ∈ Ts)
    (hK : va_K D cl (kTy tc) s) (hro : kRoOk ro ad A s) (hz : kZOk zs ad A s) (hR : 1 ≤ R.frames ∧ 64 ≤ R.locals ∧ cells ≤ R.cells ∧ slots ≤ R.slots)
    {i : Instr} {a b : Nat} {z : Int} {lv lv' : kL} {st st' : List Value} {hp hp' : kH} (hw : kWd tbl cl own zs i a b z) (hd : decode cc pc = .ok (i, kLn i)) (h : kS ro i a b z lv st hp = some (lv', st', hp'))
    (hlen : lv.length = nL) (hl : lv_has ls nL (kLl ad 0 lv)) (hI : kIv D cl tc ad A s hp H locs)
    (k : ∀ (ls' : Array Slot) (H' : Heap) (locs' : List Loc), lv'.length = nL → lv_has ls' nL (kLl ad 0 lv') → kIv D cl tc ad A s hp' H' locs' → W p l e R s m args below meth c H' locs' cells slots Q (F0 m (pc + kLn i) ls' (st'.map (kV ad)))) :
    W p l e R s m args below meth c H locs cells slots Q (F0 m pc ls (st.map (kV ad))) := by
  have htb : ∀ w ∈ tbl, w.before args s = true := fun w q => hts w (hT w q)
  have hls : c.maxLocals = ls.size := hml.trans hl.1.symm
  cases i
  case iconst n => cases h; exact lv_iconst hx hb hd rfl (k ls H locs hlen hl hI)
  case bipush n => cases h; exact lv_bipush hx hb hd hw (k ls H locs hlen hl hI)
  case sipush n => cases h; exact lv_sipush hx hb hd hw (k ls H locs hlen hl hI)
  case lconst n => cases h; exact lv_lconst hx hb hd rfl (k ls H locs hlen hl hI)
  case ldc n => cases h; exact lv_ldc hx hb hown (htb _ hw) hd (k ls H locs hlen hl hI)
  case ldc_w n => cases h; exact lv_ldcw hx hb hown (htb _ hw) hd (k ls H locs hlen hl hI)
  case ldc2_w n => cases h; exact lv_ldc2 hx hb hown (htb _ hw) hd (k ls H locs hlen hl hI)
  case iload_n n => obtain ⟨x, h1, rfl, rfl, rfl⟩ := kPi_inv h; exact lv_iload_n hx hb hd rfl (kLd_at hl h1) (k ls H locs hlen hl hI)
  case iload n => obtain ⟨x, h1, rfl, rfl, rfl⟩ := kPi_inv h; exact lv_iload hx hb hd (kLd_at hl h1) (k ls H locs hlen hl hI)
  case lload_n n => obtain ⟨x, h1, rfl, rfl, rfl⟩ := kPl_inv h; exact lv_lload_n hx hb hd rfl (kLd_at hl h1) (k ls H locs hlen hl hI)
  case lload n => obtain ⟨x, h1, rfl, rfl, rfl⟩ := kPl_inv h; exact lv_lload hx hb hd (kLd_at hl h1) (k ls H locs hlen hl hI)
  case aload_n n => obtain ⟨x, h1, rfl, rfl, rfl⟩ := kPa_inv h; exact lv_aload_n hx hb hd rfl (kLd_at hl h1) (k ls H locs hlen hl hI)
  case aload n => obtain ⟨x, h1, rfl, rfl, rfl⟩ := kPa_inv h; exact lv_aload hx hb hd (kLd_at hl h1) (k ls H locs hlen hl hI)
  case istore_n n =>
    obtain ⟨x, rfl, h1, rfl, rfl⟩ := kTi_inv h
    exact lv_istore_n hx hb hd rfl hl (by rw [← hlen]; exact h1) rfl (fun ls' hl' => k ls' H locs (by rw [kSt1_len]; exact hlen) (kSt1_has (ls := ls) (v := .int x) h1 hl') hI)
  case istore n =>
    obtain ⟨x, rfl, h1, rfl, rfl⟩ := kTi_inv h
    exact lv_istore hx hb hd hl (by rw [← hlen]; exact h1) rfl (fun ls' hl' => k ls' H locs (by rw [kSt1_len]; exact hlen) (kSt1_has (ls := ls) (v := .int x) h1 hl') hI)
  case astore_n n =>
    obtain ⟨x, rfl, h1, rfl, rfl⟩ := kTa_inv h
    exact lv_astore_n hx hb hd rfl hl (by rw [← hlen]; exact h1) rfl (fun ls' hl' => k ls' H locs (by rw [kSt1_len]; exact hlen) (kSt1_has (ls := ls) (v := .ref x) h1 hl') hI)
  case lstore n =>
    obtain ⟨x, rfl, h1, rfl, rfl⟩ := kTl_inv h
    exact lv_lstore hx hb hd hl (by rw [← hlen]; exact h1) rfl (fun ls' hl' => k ls' H locs (by rw [kSt2_len]; exact hlen) (kSt2_has (ls := ls) (v := .long x) h1 hl') hI)
  case iinc n v =>
    obtain ⟨x, h1, rfl, rfl, rfl⟩ := kInc_inv h
    have h0 : n < lv.length := (List.getElem?_eq_some_iff.mp (kLd_some h1)).1
    obtain ⟨j, hj⟩ := List.getElem?_of_mem ((kLl_mem (ad := ad) lv 0).mpr ⟨n, _, kLd_some h1, (Nat.zero_add n).symm, rfl⟩)
    exact lv_iinc hx hb hd hl (k := j) hj rfl (by rw [← hlen]; exact h0) rfl (fun ls' hl' => k ls' H locs (by rw [kSt1_len]; exact hlen) (kSt1_has (ls := ls) (v := .int (x + Int32.ofInt v)) h0 hl') hI)
  case iadd => obtain ⟨x, y, r, rfl, rfl, rfl, rfl⟩ := kI2_inv h; exact lv_iadd hx hb hd (k ls H locs hlen hl hI)
  case isub => obtain ⟨x, y, r, rfl, rfl, rfl, rfl⟩ := kI2_inv h; exact lv_isub hx hb hd (k ls H locs hlen hl hI)
  case imul => obtain ⟨x, y, r, rfl, rfl, rfl, rfl⟩ := kI2_inv h; exact lv_imul hx hb hd (k ls H locs hlen hl hI)
  case iand => obtain ⟨x, y, r, rfl, rfl, rfl, rfl⟩ := kI2_inv h; exact lv_iand hx hb hd (k ls H locs hlen hl hI)
  case ior => obtain ⟨x, y, r, rfl, rfl, rfl, rfl⟩ := kI2_inv h; exact lv_ior hx hb hd (k ls H locs hlen hl hI)
  case ixor => obtain ⟨x, y, r, rfl, rfl, rfl, rfl⟩ := kI2_inv h; exact lv_ixor hx hb hd (k ls H locs hlen hl hI)
  case ishl => obtain ⟨x, y, r, rfl, rfl, rfl, rfl⟩ := kI2_inv h; exact lv_ishl hx hb hd (k ls H locs hlen hl hI)
  case iushr => obtain ⟨x, y, r, rfl, rfl, rfl, rfl⟩ := kI2_inv h; exact lv_iushr hx hb hd rfl (k ls H locs hlen hl hI)
  case idiv => obtain ⟨x, y, r, rfl, h1, rfl, rfl, rfl⟩ := kDiv_inv h; exact lv_idiv hx hb hd h1 (k ls H locs hlen hl hI)
  case irem => obtain ⟨x, y, r, rfl, h1, rfl, rfl, rfl⟩ := kDiv_inv h; exact lv_irem hx hb hd h1 (k ls H locs hlen hl hI)
  case ineg => obtain ⟨x, r, rfl, rfl, rfl, rfl⟩ := kI1_inv h; exact lv_ineg hx hb hd (k ls H locs hlen hl hI)
  case i2l => obtain ⟨x, r, rfl, rfl, rfl, rfl⟩ := kI1_inv h; exact lv_i2l hx hb hd rfl (k ls H locs hlen hl hI)
  case i2b => obtain ⟨x, r, rfl, rfl, rfl, rfl⟩ := kI1_inv h; exact lv_i2b hx hb hd rfl (k ls H locs hlen hl hI)
  case i2s => obtain ⟨x, r, rfl, rfl, rfl, rfl⟩ := kI1_inv h; exact lv_i2s hx hb hd rfl (k ls H locs hlen hl hI)
  case l2i =>
    simp only [kS] at h
    split at h
    · cases h; exact lv_l2i hx hb hd rfl (k ls H locs hlen hl hI)
    · cases h
  case lshl =>
    simp only [kS] at h
    split at h
    · cases h; exact lv_lshl hx hb hd rfl (k ls H locs hlen hl hI)
    · cases h
  case ladd => obtain ⟨x, y, r, rfl, rfl, rfl, rfl⟩ := kJ2_inv h; exact lv_ladd hx hb hd (k ls H locs hlen hl hI)
  case land => obtain ⟨x, y, r, rfl, rfl, rfl, rfl⟩ := kJ2_inv h; exact lv_land hx hb hd (k ls H locs hlen hl hI)
  case lor => obtain ⟨x, y, r, rfl, rfl, rfl, rfl⟩ := kJ2_inv h; exact lv_lor hx hb hd (k ls H locs hlen hl hI)
  case lcmp => obtain ⟨x, y, r, rfl, rfl, rfl, rfl⟩ := kJ2_inv h; exact W.lcmp hx hb hd (k ls H locs hlen hl hI)
  case dup => obtain ⟨v, r, rfl, h1, rfl, rfl, rfl⟩ := kDup_inv h; exact lv_dup hx hb hd (by rw [kV_cat]; exact h1) (k ls H locs hlen hl hI)
  case pop => obtain ⟨v, rfl, h1, rfl, rfl⟩ := kPop_inv h; exact lv_pop hx hb hd (by rw [kV_cat]; exact h1) (k ls H locs hlen hl hI)
  case dup2 => obtain ⟨v, w, r, rfl, h1, h2, rfl, rfl, rfl⟩ := kDup2_inv h; exact lv_dup2_11 hx hb hd (by rw [kV_cat]; exact h1) (by rw [kV_cat]; exact h2) (k ls H locs hlen hl hI)
  case getfield n =>
    obtain ⟨q, r, fs, v, rfl, h1, h2, rfl, rfl, rfl⟩ := kGet_inv h
    obtain ⟨⟨C, T, N⟩, w1, w2, w3, w4, w5⟩ := hw
    exact va_get (D := D) (cl := cl) (ci := a) (C := C) (T := T) (N := N) (ref := C) hx hb htb w5 hown hK hI.1 q (kW_at h1) w1 b w2 (htb _ w4) (fun x hx' => by rw [w3] at hx'; exact hx') (v := kV ad v) (by rw [List.getElem?_map, h2]; rfl) hd (k ls H locs hlen hl hI)
  case putfield n =>
    obtain ⟨v, q, fs, rfl, h1, h2, h3, rfl, rfl⟩ := kPut_inv h
    obtain ⟨⟨C, T, N⟩, ty0, w1, w2, w3, w4, w5, w6, w7, w8, w9⟩ := hw
    have hfit : narrow (ty0 b) (kV ad v) = kV ad v ∧ fits (ty0 b) (kV ad v) = true := by
      rcases w9 with ⟨z1, z2⟩ | ⟨z1, z2⟩ | ⟨z1, z2⟩
      · rw [z2]; subst z1
        cases v <;> simp [kFit] at h3
        exact ⟨rfl, rfl⟩
      · rw [z2]; subst z1
        cases v <;> simp [kFit] at h3
        rcases h3 with rfl | rfl
        · exact ⟨rfl, rfl⟩
        · exact ⟨rfl, rfl⟩
      · rw [z2]; subst z1
        cases v <;> simp [kFit] at h3
        exact ⟨rfl, rfl⟩
    exact va_put (D := D) (cl := cl) (ci := a) (C := C) (T := T) (N := N) (ref := C) hx hb htb w5 ty0 w7 w8 hown hK hI.1 hI.2.1 hI.2.2 q (kW_at h1) w1 b w2 (htb _ w4) (fun x hx' => by rw [w3] at hx'; exact hx') w6 (v := kV ad v) (w7 b w2) hfit.1 hfit.2 (by rw [List.length_map]; exact h2) hd
      (fun H' locs' hP hD hS => k ls H' locs' hlen hl ⟨by rw [kW_put]; simpa [kC, List.map_set] using hP, by rw [kW_put]; simpa [kC, List.map_set] using hD, hS⟩)
  case getstatic n =>
    cases h
    obtain ⟨C, nm, host, w1, w2⟩ := hw
    rcases w2 with w2 | w2
    · exact va_gets hx hb (hz.1 _ w1) hI.2.2 hown (htb _ w2) (fun _ q => q) hd (k ls H locs hlen hl hI)
    · exact va_getsN hx hb (hz.1 _ w1) hI.2.2 hown (va_Nw.use rfl (hz.2 _ w2).1) (fun _ q => q) hd (k ls H locs hlen hl hI)
  case arraylength =>
    obtain ⟨q, r, n, rfl, h1, rfl, rfl, rfl⟩ := kAl_inv h
    unfold kLen at h1
    split at h1
    · rename_i x hx0
      cases h1
      exact va_tlen hx hb (hro _ _ hx0) hI.2.2 rfl hd (k ls H locs hlen hl hI)
    · split at h1
      · rename_i x hx0
        split at h1
        · rename_i h5
          cases h1
          obtain ⟨t, n, f⟩ := x
          dsimp only at h5
          have ht : (kTy tc)[t]? = some (tc t, ([.int, .long, .byte, .boolean, .short] : List FieldType).getD t .int) := by
            rcases (show t = 0 ∨ t = 1 ∨ t = 2 ∨ t = 3 ∨ t = 4 by omega) with rfl | rfl | rfl | rfl | rfl <;> rfl
          exact va_alen hx hb hK hI.1 q t (kW_at hx0) ht rfl hd (k ls H locs hlen hl hI)
        · cases h1
      · cases h1
  case iaload =>
    obtain ⟨j, q, r, x, rfl, h1, h2, rfl, rfl, rfl⟩ := kAi_inv h
    unfold kRd at h1
    split at h1
    · rename_i y hy
      cases h1
      exact va_ti hx hb (hro _ _ hy) hI.2.2 h2 rfl hd (k ls H locs hlen hl hI)
    · exact va_iald hx hb hK hI.1 q 0 (kW_at (kArr_inv h1)) rfl h2 hd (k ls H locs hlen hl hI)
  case baload =>
    obtain ⟨j, q, r, x, rfl, h1, h2, rfl, rfl, rfl⟩ := kAt_inv h
    rcases hw with rfl | rfl
    · exact va_bald hx hb hK hI.1 q 2 (kW_at (kArr_inv h1)) rfl h2 hd (k ls H locs hlen hl hI)
    · exact va_zald hx hb hK hI.1 q 3 (kW_at (kArr_inv h1)) rfl h2 hd (k ls H locs hlen hl hI)
  case saload =>
    obtain ⟨j, q, r, x, rfl, h1, h2, rfl, rfl, rfl⟩ := kAt_inv h
    exact va_sald hx hb hK hI.1 q 4 (kW_at (kArr_inv h1)) rfl h2 hd (k ls H locs hlen hl hI)
  case laload =>
    obtain ⟨j, q, r, x, rfl, h1, h2, rfl, rfl, rfl⟩ := kAj_inv h
    exact va_lald hx hb hK hI.1 q 1 (kW_at (kArrL_inv h1)) rfl h2 hd (k ls H locs hlen hl hI)
  case iastore =>
    obtain ⟨v, j, q, x, rfl, h1, h2, rfl, rfl⟩ := kBt_inv h
    exact va_iast hx hb hK hI.1 hI.2.1 hI.2.2 q 0 (kW_at (kArr_inv h1)) rfl h2 hd (fun H' locs' hP hD hS => k ls H' locs' hlen hl ⟨by rw [kW_put]; exact hP, by rw [kW_put]; exact hD, hS⟩)
  case bastore =>
    obtain ⟨v, j, q, x, rfl, h1, h2, rfl, rfl⟩ := kBt_inv h
    rcases hw with rfl | rfl
    · exact va_bast hx hb hK hI.1 hI.2.1 hI.2.2 q 2 (kW_at (kArr_inv h1)) rfl h2 hd (fun H' locs' hP hD hS => k ls H' locs' hlen hl ⟨by rw [kW_put]; exact hP, by rw [kW_put]; exact hD, hS⟩)
    · exact va_zast hx hb hK hI.1 hI.2.1 hI.2.2 q 3 (kW_at (kArr_inv h1)) rfl h2 hd (fun H' locs' hP hD hS => k ls H' locs' hlen hl ⟨by rw [kW_put]; exact hP, by rw [kW_put]; exact hD, hS⟩)
  case sastore =>
    obtain ⟨v, j, q, x, rfl, h1, h2, rfl, rfl⟩ := kBt_inv h
    exact va_sast hx hb hK hI.1 hI.2.1 hI.2.2 q 4 (kW_at (kArr_inv h1)) rfl h2 hd (fun H' locs' hP hD hS => k ls H' locs' hlen hl ⟨by rw [kW_put]; exact hP, by rw [kW_put]; exact hD, hS⟩)
  case lastore =>
    obtain ⟨v, j, q, x, rfl, h1, h2, rfl, rfl⟩ := kBj_inv h
    exact va_last hx hb hK hI.1 hI.2.1 hI.2.2 q 1 (kW_at (kArrL_inv h1)) rfl h2 hd (fun H' locs' hP hD hS => k ls H' locs' hlen hl ⟨by rw [kW_put]; exact hP, by rw [kW_put]; exact hD, hS⟩)
  case invokestatic n =>
    obtain ⟨hw1, hw2, hw3⟩ := hw
    simp only [kS, kNat] at h
    by_cases a1 : a = 1
    · rw [if_pos a1] at h
      obtain ⟨x, y, r, rfl, h1, rfl, rfl, rfl⟩ := kMx_inv h
      obtain ⟨w1, w2, w3, w4⟩ := hw1 a1
      exact va_mmax hx hb hls hown (htb _ w1) (htb _ w2) (htb _ w3) (htb _ w4) hR.1 (by have := kSum_le ad r; have := hR.2.1; omega) hR.2.2.1 hR.2.2.2 hd (k ls H locs hlen hl hI)
    · rw [if_neg a1] at h
      by_cases a2 : a = 2
      · rw [if_pos a2] at h
        obtain ⟨x, y, r, rfl, h1, rfl, rfl, rfl⟩ := kMx_inv h
        obtain ⟨w1, w2, w3, w4⟩ := hw2 a2
        exact va_mmin hx hb hls hown (htb _ w1) (htb _ w2) (htb _ w3) (htb _ w4) hR.1 (by have := kSum_le ad r; have := hR.2.1; omega) hR.2.2.1 hR.2.2.2 hd (k ls H locs hlen hl hI)
      · rw [if_neg a2] at h
        have hnw : nativeFrameWords "java/lang/System" "arraycopy" 5 + 11 ≤ 50 := by decide
        by_cases a3 : a = 3
        · rw [if_pos a3] at h
          obtain ⟨w1, w2, w3, w4⟩ := hw3 (Or.inl a3)
          obtain ⟨n', dp, q1, sp, q0, x, y, rfl, g0, g1, g2, g3, g4, g5, g6, g7, rfl, rfl⟩ := kCpI_inv h
          exact va_copyi hx hb hls hown (htb _ w1) (htb _ w2) (htb _ w3) (htb _ w4) hK hI.1 hI.2.1 hI.2.2 q0 q1 0 0 (ty := .int) (kW_at (kArr_inv g0)) (kW_at (kArr_inv g1)) rfl rfl rfl g3 g4 g5 g6 g7 (fun _ _ => rfl) hR.1 (by have := kSum_le ad st'; have := hR.2.1; omega) hd
            (fun H' locs' hP hD hS => k ls H' locs' hlen hl ⟨by rw [kW_put]; exact hP, by rw [kW_put]; exact hD, hS⟩)
        · rw [if_neg a3] at h
          by_cases a4 : a = 4
          · rw [if_pos a4] at h
            obtain ⟨w1, w2, w3, w4⟩ := hw3 (Or.inr a4)
            obtain ⟨n', dp, q1, sp, q0, x, y, rfl, g0, g1, g2, g3, g4, g5, g6, g7, rfl, rfl⟩ := kCpL_inv h
            exact va_copyl hx hb hls hown (htb _ w1) (htb _ w2) (htb _ w3) (htb _ w4) hK hI.1 hI.2.1 hI.2.2 q0 q1 1 1 (ty := .long) (kW_at (kArrL_inv g0)) (kW_at (kArrL_inv g1)) rfl rfl rfl g3 g4 g5 g6 g7 (fun _ _ => rfl) hR.1 (by have := kSum_le ad st'; have := hR.2.1; omega) hd
              (fun H' locs' hP hD hS => k ls H' locs' hlen hl ⟨by rw [kW_put]; exact hP, by rw [kW_put]; exact hD, hS⟩)
          · rw [if_neg a4] at h; cases h
  all_goals exact absurd h (by simp [kS])
end KSnd
end
section
/-! THE ENGINE IS SOUND: blocks, calls, methods -/
abbrev kMi : Type := MethodName × ByteArray × Nat × Option FieldType × Nat × Bool × Nat
def kRm (d : Nat) : Room := { frames := d, cells := 0, slots := 0, locals := 64 * d }
def kTb (pc : Nat) : Int → List Int → List (Int32 × Nat) → Prop
  | _, [], [] => True
  | lo, o :: os, q :: r => q.1.toInt = lo ∧ (pc : Int) + o = (q.2 : Int) ∧ kTb pc (lo + 1) os r
  | _, _, _ => False
def kLk (pc : Nat) : List (Int × Int) → List (Int32 × Nat) → Prop
  | [], [] => True
  | o :: os, q :: r => q.1.toInt = o.1 ∧ (pc : Int) + o.2 = (q.2 : Int) ∧ kLk pc os r
  | _, _ => False
def kRok (i : Instr) (a : Nat) (ret : Option FieldType) : Prop := match i with
  | .ireturn => (a = 0 ∧ ret = some .int) ∨ (a = 1 ∧ ret = some .boolean)
  | .lreturn => ret = some .long
  | .return_ => ret = none
  | _ => False
def kCok (tbl : List Jvm.Cond) (zs : kZt) (mi : Nat → Option kMi) (M : kMi) (pc a b : Nat) : Prop := ∃ (M' : kMi) (idx : Nat), mi a = some M' ∧
  ((M'.2.2.2.2.2.1 = true ∧ b = M'.2.2.2.2.1 ∧ decode M.2.1 pc = .ok (.invokestatic idx, 3) ∧ (Jvm.Cond.methodLink M.1.cls idx M'.1 ∈ tbl ∨ ∃ host, Jvm.Cond.methodLinkNest M.1.cls idx M'.1 host ∈ zs.2))
    ∨ (M'.2.2.2.2.2.1 = false ∧ b = M'.2.2.2.2.1 + 1 ∧ decode M.2.1 pc = .ok (.invokevirtual idx, 3) ∧ Jvm.Cond.methodLink M.1.cls idx M'.1 ∈ tbl))
def kOk (tbl : List Jvm.Cond) (cl : List vw_C) (zs : kZt) (mi : Nat → Option kMi) (M : kMi) : Nat → List kIt → Prop
  | _, [] => True
  | pc, (_, .inl (i, a, b, z)) :: is => decode M.2.1 pc = .ok (i, kLn i) ∧ kWd tbl cl M.1.cls zs i a b z ∧ kOk tbl cl zs mi M (pc + kLn i) is
  | pc, (_, .inr (i, k, a, b, sw)) :: is =>
      (k = 0 → (∃ cd off, (i = .ifCond cd off ∨ i = .if_icmp cd off) ∧ (pc : Int) + off = (a : Int)) ∧ decode M.2.1 pc = .ok (i, 3) ∧ kOk tbl cl zs mi M (pc + 3) is)
    ∧ (k = 1 → a = pc ∨ ∃ off, decode M.2.1 pc = .ok (.goto off, 3) ∧ (pc : Int) + off = (a : Int))
    ∧ (k = 2 → (∃ dflt lo hi offs len, decode M.2.1 pc = .ok (.tableswitch dflt lo hi offs, len) ∧ (pc : Int) + dflt = (a : Int) ∧ hi + 1 = lo + offs.toList.length ∧ kTb pc lo offs.toList sw)
        ∨ ∃ dflt ps len, decode M.2.1 pc = .ok (.lookupswitch dflt ps, len) ∧ (ps.toList.zip (ps.toList.drop 1)).all (fun (a, next) => a.1 < next.1) = true ∧ (pc : Int) + dflt = (a : Int) ∧ kLk pc ps.toList sw)
    ∧ (k = 3 → decode M.2.1 pc = .ok (i, 1) ∧ kRok i a M.2.2.2.1)
    ∧ (k = 4 → kCok tbl zs mi M pc a b ∧ kOk tbl cl zs mi M (pc + 3) is)
def kMok (tbl : List Jvm.Cond) (cl : List vw_C) (M : kMi) : Prop := plainName M.1.cls = true ∧ Jvm.Cond.code M.1 M.2.1 M.2.2.1 M.2.2.2.1 ∈ tbl ∧ Jvm.Cond.initialized M.1.cls ∈ tbl ∧ (M.1.cls ≠ "java/lang/invoke/MethodHandle" ∧ M.1.cls ≠ "java/lang/invoke/VarHandle")
  ∧ (parseMethodDescriptor M.1.desc).map (fun d => d.parameters.length) = some M.2.2.2.2.1 ∧ M.2.2.1 ≤ 45
  ∧ (M.2.2.2.2.2.1 = true → Jvm.Cond.static M.1 ∈ tbl) ∧ (M.2.2.2.2.2.1 = false → Jvm.Cond.instanceMethod M.1 ∈ tbl ∧ Jvm.Cond.selects M.1.cls M.1 M.1 ∈ tbl ∧ ∃ q : vw_C, cl[M.2.2.2.2.2.2]? = some q ∧ q.1 = M.1.cls)
theorem kSw_tb {α : Type} {k : Nat → α} {pc d : Nat} {x : Int32} : ∀ (offs : List Int) (lo : Int) (sw : List (Int32 × Nat)), kTb pc lo offs sw →
    ((x.toInt < lo ∨ lo + offs.length ≤ x.toInt) ∧ kSw k x d sw = k d) ∨ (¬ x.toInt < lo ∧ x.toInt < lo + offs.length ∧ ∃ (off : Int) (t : Nat), offs[(x.toInt - lo).toNat]? = some off ∧ (pc : Int) + off = (t : Int) ∧ kSw k x d sw = k t)
  | [], lo, [], _ => Or.inl ⟨by simp; omega, rfl⟩
  | [], lo, _ :: _, h => h.elim
  | _ :: _, lo, [], h => h.elim
  | o :: os, lo, q :: r, h => by
    obtain ⟨h1, h2, h3⟩ := h
    by_cases hq : x = q.1
    · right
      have hx : x.toInt = lo := by rw [hq]; exact h1
      refine ⟨by omega, by rw [List.length_cons]; omega, o, q.2, ?_, h2, ?_⟩
      · rw [show (x.toInt - lo).toNat = 0 by omega]; rfl
      · unfold kSw; rw [if_pos hq]
    · have hx : ¬ x.toInt = lo := fun z => hq (Int32.toInt_inj.mp (z.trans h1.symm))
      have e : kSw k x d (q :: r) = kSw k x d r := by
        show (if x = q.1 then k q.2 else kSw k x d r) = _
        rw [if_neg hq]
      rcases kSw_tb (k := k) (d := d) (x := x) os (lo + 1) r h3 with ⟨g1, g2⟩ | ⟨g1, g2, off, t, g3, g4, g5⟩
      · left
        exact ⟨by rw [List.length_cons]; omega, e.trans g2⟩
      · right
        refine ⟨by omega, by rw [List.length_cons]; omega, off, t, ?_, g4, e.trans g5⟩
        rw [show (x.toInt - lo).toNat = (x.toInt - (lo + 1)).toNat + 1 by omega]
        exact g3
theorem kSw_lk {α : Type} {k : Nat → α} {pc d : Nat} {dflt : Int} {x : Int32} (hd : (pc : Int) + dflt = (d : Int)) : ∀ (ps : List (Int × Int)) (sw : List (Int32 × Nat)), kLk pc ps sw → ∃ t : Nat, (pc : Int) + Op.lookupswitch.offset ps dflt x.toInt = (t : Int) ∧ kSw k x d sw = k t
  | [], [], _ => ⟨d, hd, rfl⟩
  | [], _ :: _, h => h.elim
  | _ :: _, [], h => h.elim
  | o :: os, q :: r, h => by
    obtain ⟨h1, h2, h3⟩ := h
    by_cases hq : x = q.1
    · refine ⟨q.2, ?_, ?_⟩
      · rw [Op.lookupswitch.offset_cons, if_pos (by rw [hq, h1])]; exact h2
      · unfold kSw; rw [if_pos hq]
    · obtain ⟨t, g1, g2⟩ := kSw_lk (k := k) (x := x) hd os r h3
      refine ⟨t, ?_, ?_⟩
      · rw [Op.lookupswitch.offset_cons, if_neg (fun z => hq (Int32.toInt_inj.mp (by rw [h1, z])))]; exact g1
      · show (if x = q.1 then k q.2 else kSw k x d r) = _
        rw [if_neg hq]; exact g2
section KSnd
variable {p : Program} {l : Launch} {e : Env} {R : Room} {s : State} {m : MethodId} {args : Array Value} {below : List Frame} {meth : Method} {c : Code} {cells slots : Nat} {Q : State → Prop} {H : Heap} {locs : List Loc}
variable {D : va_G} {cl : List vw_C} {A : Nat → Prop} {tc : Nat → ClassId} {ad : Nat → Nat} {ro : kRo} {Ts tbl : List Jvm.Cond} {zs : kZt} {pc : Nat} {ls : Array Slot}
/-- a method's start and end, over the lists -/
def kPc (D : va_G) (cl : List vw_C) (tc : Nat → ClassId) (ad : Nat → Nat) (ro : kRo) (zs : kZt) (as : List Value) (hp : kH) (sz : Nat) : Array Value → State → Prop :=
  va_Pc (as.map (kV ad)) (fun U => U.heap.size = sz ∧ va_P D cl (kW tc ad 0 hp) U.heap ∧ va_K D cl (kTy tc) U ∧ va_D (fun _ => True) (kW tc ad 0 hp) ∧ kRoOk ro ad (va_A (kW tc ad 0 hp) sz) U ∧ kZOk zs ad (va_A (kW tc ad 0 hp) sz) U)
def kQc (D : va_G) (cl : List vw_C) (tc : Nat → ClassId) (ad : Nat → Nat) (hp : kH) (sz : Nat) (r : Option Value) (hp' : kH) : Array Value → State → Outcome → State → Prop := fun _ st oc t =>
  oc = .returned (r.map (kV ad)) ∧ va_P D cl (kW tc ad 0 hp') t.heap ∧ va_D (va_A (kW tc ad 0 hp) sz) (kW tc ad 0 hp') ∧ va_F (va_A (kW tc ad 0 hp) sz) st t
def kMet (l : Launch) (D : va_G) (cl : List vw_C) (tc : Nat → ClassId) (ad : Nat → Nat) (ro : kRo) (tbl : List Jvm.Cond) (zs : kZt) (d : Nat) (M : kMi) (as : List Value) (hp : kH) (r : Option Value) (hp' : kH) : Prop :=
  ∀ sz, Met l M.1 (.code M.1 M.2.1 M.2.2.1 M.2.2.2.1 :: tbl) (kRm d) (kPc D cl tc ad ro zs as hp sz) (kQc D cl tc ad hp sz r hp') 0 0 (va_A (kW tc ad 0 hp) sz)
theorem kPc_blind (as : List Value) (hp : kH) (sz : Nat) : FrameBlind (kPc D cl tc ad ro zs as hp sz) := by
  intro a U g mk q
  obtain ⟨q0, q1, qP, qK, qD, qR, qZ⟩ := q
  exact ⟨q0, q1, qP, va_K.moved (u := U) (U := U.calling g mk a) (Vm.Alike.refl U.vm) qK, qD, fun x y h => (qR x y h).moved (u := U) (U := U.calling g mk a) (Vm.Alike.refl U.vm), fun x h => (qZ.1 x h).moved (u := U) (U := U.calling g mk a) (Vm.Alike.refl U.vm), qZ.2.same (u := U) (U := U.calling g mk a) rfl⟩
theorem kFree (hA : ∀ q : Nat, s.heap.size ≤ q → A q) {hp : kH} (hI : kIv D cl tc ad A s hp H locs) : ∀ q, va_A (kW tc ad 0 hp) H.size q → A q := by
  intro q h
  rcases h with ⟨k, e', h⟩ | h
  · exact hI.2.1.2 k (q, e') h
  · exact hA q (Nat.le_trans hI.2.2.1 h)
theorem kPc_of (hA : ∀ q : Nat, s.heap.size ≤ q → A q) (hK : va_K D cl (kTy tc) s) (hro : kRoOk ro ad A s) (hz : kZOk zs ad A s) {hp : kH} (hI : kIv D cl tc ad A s hp H locs) (as : List Value) {U : State} (hU : U.heap = H) (hW : s.WarmedH U.vm) : kPc D cl tc ad ro zs as hp H.size (as.map (kV ad)).toArray U := by
  have hF := kFree hA hI
  refine ⟨rfl, by rw [hU], by rw [hU]; exact hI.1, va_K.moved hW.alike hK, hI.2.1.weaken (fun _ _ _ _ => trivial), fun q x h => ?_, fun x h => ?_, hz.2.warm hW⟩
  · rw [hU]; exact (((hro q x h).kept (H1 := H) (fun a h1 h2 => hI.2.2.2.1 a h1 h2)).narrow hF).moved hW.alike
  · rw [hU]; exact (((hz.1 x h).kept (H1 := H) (fun a h1 h2 => hI.2.2.2.1 a h1 h2)).narrow hF).moved hW.alike
theorem kCall {rest : List Value} {st0 : List Value} {r : Option Value} {hp hp' : kH} {aa : Array Value} (hA : ∀ q : Nat, s.heap.size ≤ q → A q) (hI : kIv D cl tc ad A s hp H locs)
    (hr : va_Run p l e R s m args below meth c H locs cells slots 0 0 (F0 m pc ls st0) rest (kQc D cl tc ad hp H.size r hp' aa) (va_A (kW tc ad 0 hp) H.size))
    (kk : ∀ (H1 : Heap) (locs1 : List Loc), kIv D cl tc ad A s hp' H1 locs1 → W p l e R s m args below meth c H1 locs1 cells slots Q (F0 m (pc + 3) ls ((r.map (kV ad)).toList ++ rest))) : W p l e R s m args below meth c H locs cells slots Q (F0 m pc ls st0) := by
  have hF := kFree hA hI
  intro T hT X
  obtain ⟨v, st₀, t, T', L, h0, X', hL, e1, e2, ⟨hv, hP, hD, hz, hk⟩, st⟩ := hr T hT X
  cases hv
  rw [h0] at hz hk
  have hS := hI.2.2
  obtain ⟨t2, a1, b1⟩ := kk T'.heap (locs ++ L) ⟨by rw [e1]; exact hP, hD.weaken (fun _ q _ h => hF q.1 h), Nat.le_trans hS.1 (by rw [e1]; exact hz), fun q h1 h2 => by rw [e1, hk q (Nat.lt_of_lt_of_le h1 hS.1) (fun z => h2 (hF q z))]; exact hS.2.1 q h1 h2, fun q hq => by
      rcases List.mem_append.mp hq with h | h
      · exact hS.2.2 q h
      · exact hF _ (hL q h)⟩ T' rfl X'
  exact ⟨t2, st t2 a1, b1⟩
theorem kIf (hx : p.tables.exec = Jvm.exec) {cc : ByteArray} (hb : c.code = cc) {i : Instr} {cd : ClassFile.Cond} {off : Int} {a : Nat} {st : List Value} {w : Bool × List Value} (hi : i = .ifCond cd off ∨ i = .if_icmp cd off) (ha : (pc : Int) + off = (a : Int)) (hd : decode cc pc = .ok (i, 3)) (h : kCd i st = some w)
    (kt : w.1 = true → W p l e R s m args below meth c H locs cells slots Q (F0 m a ls (w.2.map (kV ad)))) (kf : w.1 = false → W p l e R s m args below meth c H locs cells slots Q (F0 m (pc + 3) ls (w.2.map (kV ad)))) : W p l e R s m args below meth c H locs cells slots Q (F0 m pc ls (st.map (kV ad))) := by
  rcases hi with rfl | rfl
  · simp only [kCd] at h
    split at h
    · cases h
      cases cd
      · exact lv_if_eq hx hb hd ha (fun q => kt (decide_eq_true q)) (fun q => kf (decide_eq_false q))
      · exact lv_if_ne hx hb hd ha (fun q => kt (decide_eq_true q)) (fun q => kf (decide_eq_false (fun z => z q)))
      · exact lv_if_lt hx hb hd ha (fun q => kt (decide_eq_true q)) (fun q => kf (decide_eq_false q))
      · exact lv_if_ge hx hb hd ha (fun q => kt (decide_eq_true q)) (fun q => kf (decide_eq_false q))
      · exact lv_if_gt hx hb hd ha (fun q => kt (decide_eq_true q)) (fun q => kf (decide_eq_false q))
      · exact lv_if_le hx hb hd ha (fun q => kt (decide_eq_true q)) (fun q => kf (decide_eq_false q))
    · cases h
  · simp only [kCd] at h
    split at h
    · cases h
      cases cd
      · exact lv_icmp_eq hx hb hd ha (fun q => kt (decide_eq_true q)) (fun q => kf (decide_eq_false q))
      · exact lv_icmp_ne hx hb hd ha (fun q => kt (decide_eq_true q)) (fun q => kf (decide_eq_false (fun z => z q)))
      · exact lv_icmp_lt hx hb hd ha (fun q => kt (decide_eq_true q)) (fun q => kf (decide_eq_false q))
      · exact lv_icmp_ge hx hb hd ha (fun q => kt (decide_eq_true q)) (fun q => kf (decide_eq_false q))
      · exact lv_icmp_gt hx hb hd ha (fun q => kt (decide_eq_true q)) (fun q => kf (decide_eq_false q))
      · exact lv_icmp_le hx hb hd ha (fun q => kt (decide_eq_true q)) (fun q => kf (decide_eq_false q))
    · cases h
set_option maxHeartbeats 4000000 in
theorem kX_ok (hx : p.tables.exec = Jvm.exec) {M : kMi} {mi : Nat → Option kMi} {E : kEo} {J : kJo} {r0 : kR} {d : Nat} (hb : c.code = M.2.1) (hml : c.maxLocals = M.2.2.1) (hown : s.vm.findClass M.1.cls = some m.cls) (hts : ∀ w ∈ Ts, w.before args s = true) (hT : ∀ w ∈ tbl, w ∈ Ts) (hG : ∀ w ∈ tbl, goodWord w = true)
    (hK : va_K D cl (kTy tc) s) (hro : kRoOk ro ad A s) (hz : kZOk zs ad A s) (hA : ∀ q : Nat, s.heap.size ≤ q → A q) (hR : d + 1 ≤ R.frames ∧ 64 * (d + 1) ≤ R.locals ∧ cells ≤ R.cells ∧ slots ≤ R.slots)
    (hMok : ∀ a M', mi a = some M' → kMok tbl cl M')
    (hE : ∀ a M' as hp r, mi a = some M' → E a as hp = some r → kMet l D cl tc ad ro tbl zs d M' as hp r.1 r.2 ∧ (M'.2.2.2.2.2.1 = false → ∃ q As fs, as = .ref q :: As ∧ hp[q]? = some (.inr (M'.2.2.2.2.2.2, fs))))
    (hJ : ∀ t lv st hp (ls : Array Slot) (H : Heap) (locs : List Loc), J t lv st hp = some r0 → lv.length = M.2.2.1 → lv_has ls M.2.2.1 (kLl ad 0 lv) → kIv D cl tc ad A s hp H locs → W p l e R s m args below meth c H locs cells slots Q (F0 m t ls (st.map (kV ad))))
    (hRet : ∀ i a pc st hp (ls : Array Slot) (H : Heap) (locs : List Loc), decode M.2.1 pc = .ok (i, 1) → kRok i a M.2.2.2.1 → kRt i a st hp = some r0 → kIv D cl tc ad A s hp H locs → W p l e R s m args below meth c H locs cells slots Q (F0 m pc ls (st.map (kV ad)))) :
    ∀ (is : List kIt) (pc : Nat) (lv : kL) (st : List Value) (hp : kH) (ls : Array Slot) (H : Heap) (locs : List Loc), kOk tbl cl zs mi M pc is → kX ro E J is lv st hp = some r0 → lv.length = M.2.2.1 → lv_has ls M.2.2.1 (kLl ad 0 lv) → kIv D cl tc ad A s hp H locs → W p l e R s m args below meth c H locs cells slots Q (F0 m pc ls (st.map (kV ad))) := by
  intro is
  induction is with
  | nil => intro pc lv st hp ls H locs _ h; cases h
  | cons it is ih =>
    intro pc lv st hp ls H locs hok h hlen hl hI
    obtain ⟨q, it⟩ := it
    cases it with
    | inl x =>
      obtain ⟨i, a, b, z⟩ := x
      obtain ⟨h1, h2, h3⟩ := hok
      unfold kX at h
      cases hs : kS ro i a b z lv st hp with
      | none => rw [hs] at h; cases h
      | some w =>
        rw [hs] at h
        obtain ⟨lv', st', hp'⟩ := w
        exact kS_ok hx hb hml hown hts hT hK hro hz ⟨by omega, by omega, hR.2.2.1, hR.2.2.2⟩ h2 h1 hs hlen hl hI (fun ls' H' locs' g1 g2 g3 => ih _ _ _ _ _ _ _ h3 h g1 g2 g3)
    | inr x =>
      obtain ⟨i, k, a, b, sw⟩ := x
      obtain ⟨o0, o1, o2, o3, o4⟩ := hok
      unfold kX at h
      by_cases h0 : k = 0
      · rw [if_pos h0] at h
        obtain ⟨⟨cd, off, hi, ha⟩, hd, hrest⟩ := o0 h0
        cases hs : kCd i st with
        | none => rw [hs] at h; cases h
        | some w =>
          rw [hs] at h
          dsimp only at h
          refine kIf hx hb hi ha hd hs (fun hw => ?_) (fun hw => ?_)
          · rw [if_pos hw] at h; exact hJ _ _ _ _ _ _ _ h hlen hl hI
          · rw [if_neg (by rw [hw]; decide)] at h; exact ih _ _ _ _ _ _ _ hrest h hlen hl hI
      · rw [if_neg h0] at h
        by_cases h1 : k = 1
        · rw [if_pos h1] at h
          rcases o1 h1 with rfl | ⟨off, hd, ha⟩
          · exact hJ _ _ _ _ _ _ _ h hlen hl hI
          · exact lv_goto hx hb hd ha (hJ _ _ _ _ _ _ _ h hlen hl hI)
        · rw [if_neg h1] at h
          by_cases h2 : k = 2
          · rw [if_pos h2] at h
            split at h
            · rename_i x r
              rcases o2 h2 with ⟨dflt, lo, hi, offs, len, hd, ha, hhi, htb⟩ | ⟨dflt, ps, len, hd, hsrt, ha, hlk⟩
              · rcases kSw_tb (k := fun t => J t lv r hp) (d := a) (x := x) _ _ _ htb with ⟨g1, g2⟩ | ⟨g1, g2, off, t, g3, g4, g5⟩
                · rw [g2] at h
                  exact lv_tableOut hx hb hd (by omega) ha (hJ _ _ _ _ _ _ _ h hlen hl hI)
                · rw [g5] at h
                  exact lv_tableIn hx hb hd g1 (by omega) (by rw [← Array.getElem?_toList]; exact g3) g4 (hJ _ _ _ _ _ _ _ h hlen hl hI)
              · obtain ⟨t, g1, g2⟩ := kSw_lk (k := fun t => J t lv r hp) (x := x) ha _ _ hlk
                rw [g2] at h
                exact lv_lookup hx hb hd hsrt rfl g1 (hJ _ _ _ _ _ _ _ h hlen hl hI)
            · cases h
          · rw [if_neg h2] at h
            by_cases h3 : k = 3
            · rw [if_pos h3] at h
              exact hRet _ _ _ _ _ _ _ _ (o3 h3).1 (o3 h3).2 h hI
            · rw [if_neg h3] at h
              by_cases h4 : k = 4
              · rw [if_pos h4] at h
                by_cases hln : b ≤ st.length ∧ st.length ≤ b + 4
                · rw [if_pos hln] at h
                  obtain ⟨⟨M', idx, hm, hcall⟩, hrest⟩ := o4 h4
                  cases hs : E a (st.take b).reverse hp with
                  | none => rw [hs] at h; cases h
                  | some w =>
                    rw [hs] at h
                    obtain ⟨hM, hrec⟩ := hE _ _ _ _ _ hm hs
                    obtain ⟨m1, m2, m3, m4, m5, m6, m7, m8⟩ := hMok _ _ hm
                    have htb : ∀ w ∈ tbl, w.before args s = true := fun w q => hts w (hT w q)
                    have hGI : GoodIn Ts (Jvm.Cond.code M'.1 M'.2.1 M'.2.2.1 M'.2.2.2.1 :: tbl) := by
                      intro w hw
                      rcases List.mem_cons.mp hw with rfl | hw
                      · exact ⟨hT _ m2, good_of_word (hG _ m2)⟩
                      · exact ⟨hT _ hw, good_of_word (hG _ hw)⟩
                    have hroom : (kRm d).frames + 1 ≤ R.frames ∧ 8 + (M'.2.2.1 + 11) + (kRm d).locals ≤ R.locals := ⟨hR.1, by have := hR.2.1; show 8 + (M'.2.2.1 + 11) + 64 * d ≤ R.locals; omega⟩
                    have hsum : (((st.drop b).map (kV ad)).map fun v => v.category).sum ≤ 8 := by
                      have := kSum_le ad (st.drop b)
                      rw [List.length_drop] at this
                      omega
                    have hst : st.map (kV ad) = (st.take b).map (kV ad) ++ (st.drop b).map (kV ad) := by rw [← List.map_append, List.take_append_drop]
                    have hgo : ∀ (H1 : Heap) (locs1 : List Loc), kIv D cl tc ad A s w.2 H1 locs1 → W p l e R s m args below meth c H1 locs1 cells slots Q (F0 m (pc + 3) ls ((w.1.map (kV ad)).toList ++ (st.drop b).map (kV ad))) := by
                      intro H1 locs1 hI1
                      have := ih (pc + 3) lv (w.1.toList ++ st.drop b) w.2 ls H1 locs1 hrest h hlen hl hI1
                      rw [List.map_append] at this
                      rw [show (w.1.map (kV ad)).toList = w.1.toList.map (kV ad) by cases w.1 <;> rfl]
                      exact this
                    rcases hcall with ⟨c1, c2, c3, c4⟩ | ⟨c1, c2, c3, c4⟩
                    · have hAs : ((st.take b).reverse.map (kV ad)).length = M'.2.2.2.2.1 := by
                        rw [List.length_map, List.length_reverse, List.length_take]; omega
                      have hpre : PreS s H (kPc D cl tc ad ro zs (st.take b).reverse hp H.size) ((st.take b).reverse.map (kV ad)) := ⟨kPc_blind _ _ _, fun U hU hW => kPc_of hA hK hro hz hI _ hU hW⟩
                      have hstk : st.map (kV ad) = ((st.take b).reverse.map (kV ad)).reverse ++ (st.drop b).map (kV ad) := by
                        rw [← List.map_reverse, List.reverse_reverse]; exact hst
                      rcases c4 with c4 | ⟨host, c4⟩
                      · exact kCall hA hI (va_runS (g := F0 m pc ls (st.map (kV ad))) ⟨hx, hb, hml, hown, hts⟩ (hM H.size) ⟨callB_of M'.2.2.2.2.1 hts hGI rfl rfl rfl (htb _ m3) (htb _ c4) ⟨m4.1, m4.2, m5⟩ hroom, htb _ (m7 c1)⟩ hpre rfl hAs hl.1 hstk (lv_room hsum) c3 ⟨hR.2.2.1, hR.2.2.2⟩) hgo
                      · exact kCall hA hI (va_runSN (g := F0 m pc ls (st.map (kV ad))) ⟨hx, hb, hml, hown, hts⟩ (hM H.size) ⟨va_cnB M'.2.2.2.2.1 hts hGI rfl rfl rfl (hz.2 _ c4).1 (htb _ m3) ⟨m4.1, m4.2, m5⟩ hroom, htb _ (m7 c1), trivial⟩ hpre rfl hAs hl.1 hstk (lv_room hsum) c3 ⟨hR.2.2.1, hR.2.2.2⟩) hgo
                    · obtain ⟨i1, i2, ⟨C', T', N'⟩, i3, i4⟩ := m8 c1
                      obtain ⟨q0, As, fs, e1, e2⟩ := hrec c1
                      have hAs : (As.map (kV ad)).length = M'.2.2.2.2.1 := by
                        have h9 := congrArg List.length e1
                        rw [List.length_reverse, List.length_take, List.length_cons] at h9
                        rw [List.length_map]; omega
                      have hpre : PreV s H M'.1.cls (ad q0) (kPc D cl tc ad ro zs (st.take b).reverse hp H.size) (As.map (kV ad)) := by
                        refine ⟨kPc_blind _ _ _, ?_, fun U hU hW => ?_⟩
                        · have := va_recv hK hI.1 i3 (kW_at e2)
                          rw [← i4]; exact this
                        · have := kPc_of hA hK hro hz hI (st.take b).reverse hU hW
                          rw [e1] at this ⊢
                          exact this
                      have hstk : st.map (kV ad) = (As.map (kV ad)).reverse ++ .ref (ad q0) :: (st.drop b).map (kV ad) := by
                        have h9 : st.take b = As.reverse ++ [.ref q0] := by
                          have := congrArg List.reverse e1
                          rw [List.reverse_reverse, List.reverse_cons] at this
                          exact this
                        rw [hst, h9, List.map_append, List.map_reverse, List.append_assoc]; rfl
                      exact kCall hA hI (va_runV (g := F0 m pc ls (st.map (kV ad))) ⟨hx, hb, hml, hown, hts⟩ (hM H.size) ⟨callB_of M'.2.2.2.2.1 hts hGI rfl rfl rfl (htb _ m3) (htb _ c4) ⟨m4.1, m4.2, m5⟩ hroom, htb _ i1, htb _ i2⟩ hpre rfl hAs hl.1 hstk (lv_room hsum) c3 ⟨hR.2.2.1, hR.2.2.2⟩) hgo
                · rw [if_neg hln] at h; cases h
              · rw [if_neg h4] at h; cases h
end KSnd
end
section
/-! THE ENGINE IS SOUND: methods, by the depth of their calls -/
theorem kLl_none (ad : Nat → Nat) : ∀ (k i : Nat), kLl ad i (List.replicate k none) = []
  | 0, i => rfl
  | k + 1, i => by rw [List.replicate_succ]; exact kLl_none ad k (i + 1)
theorem kLl_args (ad : Nat → Nat) (k : Nat) : ∀ (as : List Value) (i : Nat), kLl ad i ((as.flatMap fun v => if v.category = 2 then [some v, none] else [some v]) ++ List.replicate k none) = lv_args i (as.map (kV ad))
  | [], i => by simp [kLl_none, lv_args]
  | v :: r, i => by
    rw [List.flatMap_cons, List.append_assoc, List.map_cons]
    by_cases h : v.category = 2
    · have e : lv_args i (kV ad v :: r.map (kV ad)) = (i, kV ad v) :: lv_args (i + 2) (r.map (kV ad)) := by
        show (i, kV ad v) :: lv_args (if (kV ad v).category = 2 then i + 2 else i + 1) (r.map (kV ad)) = _
        rw [kV_cat, if_pos h]
      rw [if_pos h, e, ← kLl_args ad k r (i + 2)]
      rfl
    · have e : lv_args i (kV ad v :: r.map (kV ad)) = (i, kV ad v) :: lv_args (i + 1) (r.map (kV ad)) := by
        show (i, kV ad v) :: lv_args (if (kV ad v).category = 2 then i + 2 else i + 1) (r.map (kV ad)) = _
        rw [kV_cat, if_neg h]
      rw [if_neg h, e, ← kLl_args ad k r (i + 1)]
      rfl
theorem kSl_len (ad : Nat → Nat) : ∀ (as : List Value), (lg_sl (as.map (kV ad))).length = (as.flatMap fun v => if v.category = 2 then [some v, none] else [some v]).length
  | [] => rfl
  | v :: r => by
    have h := kSl_len ad r
    unfold lg_sl at h ⊢
    rw [List.map_cons, List.flatMap_cons, List.flatMap_cons, List.length_append, List.length_append, h, kV_cat]
    by_cases hc : v.category = 2
    · rw [if_pos hc, if_pos hc]; rfl
    · rw [if_neg hc, if_neg hc]; rfl
theorem kEnt_has (ad : Nat → Nat) (n : Nat) (as : List Value) (h : (kEnt n as).length = n) : lv_has ((lg_sl (as.map (kV ad)) ++ List.replicate (n - (lg_sl (as.map (kV ad))).length) Slot.unset).toArray) n (kLl ad 0 (kEnt n as)) := by
  have hl : (lg_sl (as.map (kV ad))).length ≤ n := by
    rw [kSl_len]
    unfold kEnt at h
    rw [List.length_append, List.length_replicate] at h
    omega
  have h1 := lv_entry (as.map (kV ad)) hl
  unfold kEnt
  rw [kLl_args]
  exact h1
section KSnd
variable {p : Program} {l : Launch} {e : Env} {R : Room} {s : State} {m : MethodId} {args : Array Value} {below : List Frame} {meth : Method} {c : Code} {cells slots : Nat} {Q : State → Prop} {H : Heap} {locs : List Loc}
variable {D : va_G} {cl : List vw_C} {A : Nat → Prop} {tc : Nat → ClassId} {ad : Nat → Nat} {ro : kRo} {Ts tbl : List Jvm.Cond} {zs : kZt} {pc : Nat} {ls : Array Slot}
theorem kU_ok (hx : p.tables.exec = Jvm.exec) {M : kMi} {mi : Nat → Option kMi} {E : kEo} {blk : Nat → Nat → List kIt} {mm : Nat} {r0 : kR} {d : Nat} (hb : c.code = M.2.1) (hml : c.maxLocals = M.2.2.1) (hown : s.vm.findClass M.1.cls = some m.cls) (hts : ∀ w ∈ Ts, w.before args s = true) (hT : ∀ w ∈ tbl, w ∈ Ts) (hG : ∀ w ∈ tbl, goodWord w = true)
    (hK : va_K D cl (kTy tc) s) (hro : kRoOk ro ad A s) (hz : kZOk zs ad A s) (hA : ∀ q : Nat, s.heap.size ≤ q → A q) (hR : d + 1 ≤ R.frames ∧ 64 * (d + 1) ≤ R.locals ∧ cells ≤ R.cells ∧ slots ≤ R.slots)
    (hMok : ∀ a M', mi a = some M' → kMok tbl cl M') (hblk : ∀ t, kOk tbl cl zs mi M t (blk mm t))
    (hE : ∀ a M' as hp r, mi a = some M' → E a as hp = some r → kMet l D cl tc ad ro tbl zs d M' as hp r.1 r.2 ∧ (M'.2.2.2.2.2.1 = false → ∃ q As fs, as = .ref q :: As ∧ hp[q]? = some (.inr (M'.2.2.2.2.2.2, fs))))
    (hRet : ∀ i a pc st hp (ls : Array Slot) (H : Heap) (locs : List Loc), decode M.2.1 pc = .ok (i, 1) → kRok i a M.2.2.2.1 → kRt i a st hp = some r0 → kIv D cl tc ad A s hp H locs → W p l e R s m args below meth c H locs cells slots Q (F0 m pc ls (st.map (kV ad))))
    {t : Nat} {lv : kL} {st : List Value} {hp : kH} (h : kU ro blk E mm t lv st hp = some r0) (hlen : lv.length = M.2.2.1) (hl : lv_has ls M.2.2.1 (kLl ad 0 lv)) (hI : kIv D cl tc ad A s hp H locs) :
    W p l e R s m args below meth c H locs cells slots Q (F0 m t ls (st.map (kV ad))) := by
  obtain ⟨n, hn⟩ := kU_iff.mp h
  clear h
  induction n generalizing t lv st hp ls H locs with
  | zero => cases hn
  | succ n ih => exact kX_ok hx hb hml hown hts hT hG hK hro hz hA hR hMok hE (fun t lv st hp ls H locs g1 g2 g3 g4 => ih g2 g3 g4 g1) hRet (blk mm t) t lv st hp ls H locs (hblk t) hn hlen hl hI
theorem kRc_inv {ci : Nat} {as : List Value} {hp : kH} (h : kRc (some ci) as hp = true) : ∃ q As fs, as = .ref q :: As ∧ hp[q]? = some (.inr (ci, fs)) := by
  unfold kRc at h
  dsimp only at h
  split at h
  · rename_i q As
    cases ho : kObj hp q ci with
    | none => rw [ho] at h; cases h
    | some fs => exact ⟨q, As, fs, rfl, kObj_inv ho⟩
  · cases h
set_option maxHeartbeats 4000000 in
theorem kM_ok {mi : Nat → Option kMi} {blk : Nat → Nat → List kIt} {mx : Nat → Nat} {rc : Nat → Option Nat} (hG : ∀ w ∈ tbl, goodWord w = true)
    (hMok : ∀ a M', mi a = some M' → kMok tbl cl M') (hblk : ∀ a M', mi a = some M' → ∀ t, kOk tbl cl zs mi M' t (blk a t)) (hmx : ∀ a M', mi a = some M' → mx a = M'.2.2.1 ∧ (M'.2.2.2.2.2.1 = false → rc a = some M'.2.2.2.2.2.2)) :
    ∀ (d : Nat) (a : Nat) (M' : kMi) (as : List Value) (hp : kH) (r : kR), mi a = some M' → kM ro blk mx rc d a as hp = some r → kMet l D cl tc ad ro tbl zs d M' as hp r.1 r.2 ∧ (M'.2.2.2.2.2.1 = false → ∃ q As fs, as = .ref q :: As ∧ hp[q]? = some (.inr (M'.2.2.2.2.2.2, fs))) := by
  intro d
  induction d with
  | zero =>
    intro a M' as hp r hm h
    unfold kM kMof at h
    split at h
    · cases h
    · cases h
  | succ d ih =>
    intro a M' as hp r hm h
    unfold kM kMof at h
    split at h
    · rename_i hc
      obtain ⟨hc1, hc2⟩ := hc
      obtain ⟨x1, x2⟩ := hmx a M' hm
      refine ⟨?_, fun hs => kRc_inv (by rw [← x2 hs]; exact hc2)⟩
      obtain ⟨y, cc, maxL, ret, n, sta, ci⟩ := M'
      dsimp only at x1
      intro sz
      have hmk := hMok a _ hm
      rw [x1] at hc1 h
      refine Met.ofW (cc := cc) (maxL := maxL) (ret := ret) hmk.1 rfl ?_
      intro p e s m args below meth c s₁ B hml hv
      obtain ⟨rfl, hsz, hP, hK, hD0, hro, hz⟩ := hv
      have hx := B.exec
      have hb := B.bytes
      have hr := B.returns
      have hts := atoms_spec (ws := Jvm.Cond.code y cc maxL ret :: tbl) B.pre
      have hown : s.vm.findClass y.cls = some m.cls := findClass_of_methodNamed B.named
      have hlocks := B.notSynchronized
      subst hsz
      have hD := hD0.self (sz := s.heap.size)
      have hA : ∀ q : Nat, s.heap.size ≤ q → va_A (kW tc ad 0 hp) s.heap.size q := fun q h => Or.inr h
      rw [lg_entry_eq]
      refine kU_ok (M := (y, cc, maxL, ret, n, sta, ci)) (mm := a) (r0 := r) (d := d) (st := []) (tbl := tbl) (mi := mi) hx hb hml hown hts (fun w q => List.mem_cons_of_mem _ q) hG hK hro hz hA ⟨Nat.le_refl _, Nat.le_refl _, Nat.le_refl _, Nat.le_refl _⟩ hMok (hblk a _ hm) ih ?_ h hc1 (kEnt_has ad maxL as hc1) ⟨hP, hD, va_S.rf⟩
      intro i a2 pc st hp2 ls H locs hd hrk hrt hI
      have hfin : ∀ (v : Option Value) (t : State), t.heap = H → r = (v, hp2) → kQc D cl tc ad hp s.heap.size r.1 r.2 (as.map (kV ad)).toArray s (.returned (v.map (kV ad))) t := by
        intro v t ht hr0
        rw [hr0]
        exact ⟨rfl, by rw [ht]; exact hI.1, hI.2.1, hI.2.2.F ht⟩
      cases i
      case ireturn =>
        simp only [kRt] at hrt
        split at hrt
        · rename_i x
          rcases hrk with ⟨z1, z2⟩ | ⟨z1, z2⟩
          · subst z1
            rw [if_pos rfl] at hrt
            exact W.iret (v := x) hx hb (hr.trans z2) (fun t ht _ => hfin (some (.int x)) t ht (Option.some.inj hrt).symm) hI.2.2.2.2 hd
          · subst z1
            rw [if_neg (by decide)] at hrt
            split at hrt
            · rename_i h01
              exact W.zret (v := x) hx hb (hr.trans z2) (by rcases h01 with rfl | rfl <;> rfl) (fun t ht _ => hfin (some (.int x)) t ht (Option.some.inj hrt).symm) hI.2.2.2.2 hd
            · cases hrt
        · cases hrt
      case lreturn =>
        simp only [kRt] at hrt
        split at hrt
        · rename_i x
          exact W.lret (v := x) hx hb (hr.trans hrk) (fun t ht _ => hfin (some (.long x)) t ht (Option.some.inj hrt).symm) hI.2.2.2.2 hd
        · cases hrt
      case return_ =>
        simp only [kRt] at hrt
        split at hrt
        · exact W.vret hx hb (hr.trans hrk) (fun t ht _ => hfin none t ht (Option.some.inj hrt).symm) hI.2.2.2.2 hd
        · cases hrt
      all_goals exact hrk.elim
    · cases h
end KSnd
end
section
/-! A CHECK of blocks by program: what it lets through is so (kOk) -/
/-- the tables of links of one file's own numbers: fields (idx, sort, place), fields that may be put (sort, place, kind), statics (idx, place), ints (idx, value), longs, calls (idx, method, how many, static), library calls (idx, which) -/
abbrev kTab : Type := List (Nat × Nat × Nat) × List (Nat × Nat) × List (Nat × Int) × List (Nat × Int) × List (Nat × Nat × Nat × Bool) × List (Nat × Nat)
def kWdB (tb : kTab) (pl : List (Nat × Nat × Int)) (i : Instr) (a b : Nat) (z : Int) : Bool := match i with
  | .bipush n => decide ((Int8.ofInt n).toInt32 = Int32.ofInt n)
  | .sipush n => decide ((Int16.ofInt n).toInt32 = Int32.ofInt n)
  | .ldc idx => decide ((idx, z) ∈ tb.2.2.1)
  | .ldc_w idx => decide ((idx, z) ∈ tb.2.2.1)
  | .ldc2_w idx => decide ((idx, z) ∈ tb.2.2.2.1)
  | .getfield idx => decide ((idx, a, b) ∈ tb.1)
  | .putfield idx => decide ((idx, a, b) ∈ tb.1) && decide ((a, b, z) ∈ pl)
  | .getstatic idx => decide ((idx, a) ∈ tb.2.1)
  | .baload => a == 2 || a == 3
  | .bastore => a == 2 || a == 3
  | .invokestatic idx => decide ((idx, a) ∈ tb.2.2.2.2.2)
  | _ => true
def kBrB (pc : Nat) (i : Instr) (a : Nat) : Bool := match i with
  | .ifCond _ off => decide ((pc : Int) + off = (a : Int))
  | .if_icmp _ off => decide ((pc : Int) + off = (a : Int))
  | _ => false
def kTbB (pc : Nat) : Int → List Int → List (Int32 × Nat) → Bool
  | _, [], [] => true
  | lo, o :: os, q :: r => decide (q.1.toInt = lo) && decide ((pc : Int) + o = (q.2 : Int)) && kTbB pc (lo + 1) os r
  | _, _, _ => false
def kLkB (pc : Nat) : List (Int × Int) → List (Int32 × Nat) → Bool
  | [], [] => true
  | o :: os, q :: r => decide (q.1.toInt = o.1) && decide ((pc : Int) + o.2 = (q.2 : Int)) && kLkB pc os r
  | _, _ => false
def kRokB (i : Instr) (a : Nat) (ret : Option FieldType) : Bool := match i with
  | .ireturn => (a == 0 && decide (ret = some .int)) || (a == 1 && decide (ret = some .boolean))
  | .lreturn => decide (ret = some .long)
  | .return_ => decide (ret = none)
  | _ => false
def kGoB (cc : ByteArray) (pc a : Nat) : Bool := a == pc || (match decode cc pc with
  | .ok (.goto off, n) => n == 3 && decide ((pc : Int) + off = (a : Int))
  | _ => false)
def kSwB (cc : ByteArray) (pc a : Nat) (sw : List (Int32 × Nat)) : Bool := match decode cc pc with
  | .ok (.tableswitch dflt lo hi offs, _) => decide ((pc : Int) + dflt = (a : Int)) && decide (hi + 1 = lo + offs.toList.length) && kTbB pc lo offs.toList sw
  | .ok (.lookupswitch dflt ps, _) => (ps.toList.zip (ps.toList.drop 1)).all (fun (a, next) => a.1 < next.1) && decide ((pc : Int) + dflt = (a : Int)) && kLkB pc ps.toList sw
  | _ => false
def kCaB (tb : kTab) (cc : ByteArray) (pc a b : Nat) : Bool := match decode cc pc with
  | .ok (.invokestatic idx, n) => n == 3 && decide ((idx, a, b, true) ∈ tb.2.2.2.2.1)
  | .ok (.invokevirtual idx, n) => n == 3 && decide ((idx, a, b, false) ∈ tb.2.2.2.2.1)
  | _ => false
def kOkB (tb : kTab) (pl : List (Nat × Nat × Int)) (cc : ByteArray) (ret : Option FieldType) : Nat → List kIt → Bool
  | _, [] => true
  | pc, (_, .inl (i, a, b, z)) :: is => decide (decode cc pc = .ok (i, kLn i)) && (kWdB tb pl i a b z && kOkB tb pl cc ret (pc + kLn i) is)
  | pc, (_, .inr (i, k, a, b, sw)) :: is =>
    if k = 0 then decide (decode cc pc = .ok (i, 3)) && (kBrB pc i a && kOkB tb pl cc ret (pc + 3) is)
    else if k = 1 then kGoB cc pc a
    else if k = 2 then kSwB cc pc a sw
    else if k = 3 then decide (decode cc pc = .ok (i, 1)) && kRokB i a ret
    else if k = 4 then kCaB tb cc pc a b && kOkB tb pl cc ret (pc + 3) is
    else true
/-- what the tables of links stand for -/
def kTabOk (tbl : List Jvm.Cond) (cl : List vw_C) (zs : kZt) (mi : Nat → Option kMi) (own : String) (tb : kTab) : Prop :=
  (∀ x ∈ tb.1, ∃ q : vw_C, cl[x.2.1]? = some q ∧ x.2.2 < q.2.2 ∧ (q.2.1 x.2.2).1 = q.1 ∧ Jvm.Cond.fieldLink own x.1 q.1 (q.2.1 x.2.2).2.1 (q.2.1 x.2.2).2.2.1 ∈ tbl)
  ∧ (∀ x ∈ tb.2.1, ∃ C n host : String, (C, n, x.2) ∈ zs.1 ∧ (Jvm.Cond.fieldLink own x.1 C n "[I" ∈ tbl ∨ Jvm.Cond.fieldLinkNest own x.1 C n "[I" host ∈ zs.2))
  ∧ (∀ x ∈ tb.2.2.1, Jvm.Cond.constant own x.1 (Int32.ofInt x.2) ∈ tbl)
  ∧ (∀ x ∈ tb.2.2.2.1, Jvm.Cond.constantLong own x.1 (Int64.ofInt x.2) ∈ tbl)
  ∧ (∀ x ∈ tb.2.2.2.2.1, ∃ M' : kMi, mi x.2.1 = some M' ∧ M'.2.2.2.2.2.1 = x.2.2.2 ∧ x.2.2.1 = (if x.2.2.2 = true then M'.2.2.2.2.1 else M'.2.2.2.2.1 + 1) ∧ (Jvm.Cond.methodLink own x.1 M'.1 ∈ tbl ∨ (x.2.2.2 = true ∧ ∃ host, Jvm.Cond.methodLinkNest own x.1 M'.1 host ∈ zs.2)))
  ∧ (∀ x ∈ tb.2.2.2.2.2, ((x.2 = 1 → Jvm.Cond.methodLink own x.1 Lib.Math.max.name ∈ tbl ∧ Jvm.Cond.static Lib.Math.max.name ∈ tbl ∧ Jvm.Cond.initialized "java/lang/Math" ∈ tbl ∧ Jvm.Cond.code Lib.Math.max.name Lib.Math.max.code 2 (some .int) ∈ tbl)
      ∧ (x.2 = 2 → Jvm.Cond.methodLink own x.1 Lib.Math.min.name ∈ tbl ∧ Jvm.Cond.static Lib.Math.min.name ∈ tbl ∧ Jvm.Cond.initialized "java/lang/Math" ∈ tbl ∧ Jvm.Cond.code Lib.Math.min.name Lib.Math.min.code 2 (some .int) ∈ tbl)
      ∧ (x.2 = 3 ∨ x.2 = 4 → Jvm.Cond.methodLink own x.1 arraycopyName ∈ tbl ∧ Jvm.Cond.native arraycopyName ∈ tbl ∧ Jvm.Cond.static arraycopyName ∈ tbl ∧ Jvm.Cond.initialized "java/lang/System" ∈ tbl)))
def kPlOk (cl : List vw_C) (pl : List (Nat × Nat × Int)) : Prop := ∀ x ∈ pl, ∃ (q : vw_C) (ty0 : Nat → FieldType), cl[x.1]? = some q ∧ (q.2.1 x.2.1).2.2.2 = false ∧ (∀ k, k < q.2.2 → parseFieldDescriptor (q.2.1 k).2.2.1 = some (ty0 k)) ∧ (∀ a, a < q.2.2 → ∀ b, b < q.2.2 → a ≠ b → (q.2.1 a).2.1 ≠ (q.2.1 b).2.1) ∧ ((x.2.2 = 0 ∧ ty0 x.2.1 = .int) ∨ (x.2.2 = 1 ∧ ty0 x.2.1 = .boolean) ∨ (x.2.2 = 2 ∧ ty0 x.2.1 = .array .int))
def kClOk (tbl : List Jvm.Cond) (cl : List vw_C) : Prop := ∀ (a : Nat) (q : vw_C), cl[a]? = some q → ∀ w ∈ u_ws q.1 q.2.1 q.2.2, w ∈ tbl
section KChk
variable {tbl : List Jvm.Cond} {cl : List vw_C} {zs : kZt} {mi : Nat → Option kMi} {own : String} {tb : kTab} {pl : List (Nat × Nat × Int)}
theorem kWdB_ok (hT : kTabOk tbl cl zs mi own tb) (hP : kPlOk cl pl) (hC : kClOk tbl cl) {i : Instr} {a b : Nat} {z : Int} (h : kWdB tb pl i a b z = true) : kWd tbl cl own zs i a b z := by
  obtain ⟨t1, t2, t3, t4, t5, t6⟩ := hT
  cases i
  case bipush n =>
    have h' : decide ((Int8.ofInt n).toInt32 = Int32.ofInt n) = true := h
    have h2 := of_decide_eq_true h'
    exact h2
  case sipush n =>
    have h' : decide ((Int16.ofInt n).toInt32 = Int32.ofInt n) = true := h
    have h2 := of_decide_eq_true h'
    exact h2
  case ldc n => exact t3 _ (of_decide_eq_true h)
  case ldc_w n => exact t3 _ (of_decide_eq_true h)
  case ldc2_w n => exact t4 _ (of_decide_eq_true h)
  case getfield n =>
    obtain ⟨q, h1, h2, h3, h4⟩ := t1 _ (of_decide_eq_true h)
    exact ⟨q, h1, h2, h3, h4, hC _ _ h1⟩
  case putfield n =>
    have h := Bool.and_eq_true_iff.mp h
    obtain ⟨q, h1, h2, h3, h4⟩ := t1 _ (of_decide_eq_true h.1)
    obtain ⟨q', ty0, g1, g2, g3, g4, g5⟩ := hP _ (of_decide_eq_true h.2)
    cases h1.symm.trans g1
    exact ⟨q, ty0, h1, h2, h3, h4, hC _ _ h1, g2, g3, g4, g5⟩
  case getstatic n => exact t2 _ (of_decide_eq_true h)
  case baload =>
    simp only [kWdB, Bool.or_eq_true, beq_iff_eq] at h
    exact h
  case bastore =>
    simp only [kWdB, Bool.or_eq_true, beq_iff_eq] at h
    exact h
  case invokestatic n => exact t6 _ (of_decide_eq_true h)
  all_goals trivial
theorem kTbB_ok {pc : Nat} : ∀ (lo : Int) (os : List Int) (sw : List (Int32 × Nat)), kTbB pc lo os sw = true → kTb pc lo os sw
  | _, [], [], _ => trivial
  | lo, o :: os, q :: r, h => by
    simp only [kTbB, Bool.and_eq_true, decide_eq_true_eq] at h
    exact ⟨h.1.1, h.1.2, kTbB_ok _ _ _ h.2⟩
  | _, [], _ :: _, h => by cases h
  | _, _ :: _, [], h => by cases h
theorem kLkB_ok {pc : Nat} : ∀ (os : List (Int × Int)) (sw : List (Int32 × Nat)), kLkB pc os sw = true → kLk pc os sw
  | [], [], _ => trivial
  | o :: os, q :: r, h => by
    simp only [kLkB, Bool.and_eq_true, decide_eq_true_eq] at h
    exact ⟨h.1.1, h.1.2, kLkB_ok _ _ h.2⟩
  | [], _ :: _, h => by cases h
  | _ :: _, [], h => by cases h
theorem kRokB_ok {i : Instr} {a : Nat} {ret : Option FieldType} (h : kRokB i a ret = true) : kRok i a ret := by
  cases i
  case ireturn =>
    simp only [kRokB, Bool.or_eq_true, Bool.and_eq_true, beq_iff_eq, decide_eq_true_eq] at h
    exact h
  case lreturn =>
    have h' : decide (ret = some .long) = true := h
    have h2 := of_decide_eq_true h'
    exact h2
  case return_ =>
    have h' : decide (ret = none) = true := h
    have h2 := of_decide_eq_true h'
    exact h2
  all_goals cases h
theorem kOkB_ok {M : kMi} (hown : M.1.cls = own) (hT : kTabOk tbl cl zs mi own tb) (hP : kPlOk cl pl) (hC : kClOk tbl cl) : ∀ (is : List kIt) (pc : Nat), kOkB tb pl M.2.1 M.2.2.2.1 pc is = true → kOk tbl cl zs mi M pc is
  | [], pc, _ => trivial
  | (_, .inl (i, a, b, z)) :: is, pc, h => by
    simp only [kOkB, Bool.and_eq_true, decide_eq_true_eq] at h
    exact ⟨h.1, by rw [hown]; exact kWdB_ok hT hP hC h.2.1, kOkB_ok hown hT hP hC is _ h.2.2⟩
  | (_, .inr (i, k, a, b, sw)) :: is, pc, h => by
    unfold kOkB at h
    refine ⟨fun h0 => ?_, fun h1 => ?_, fun h2 => ?_, fun h3 => ?_, fun h4 => ?_⟩
    · rw [if_pos h0] at h
      simp only [Bool.and_eq_true, decide_eq_true_eq] at h
      refine ⟨?_, h.1, kOkB_ok hown hT hP hC is _ h.2.2⟩
      have hb := h.2.1
      cases i
      case ifCond cd off => exact ⟨cd, off, Or.inl rfl, of_decide_eq_true hb⟩
      case if_icmp cd off => exact ⟨cd, off, Or.inr rfl, of_decide_eq_true hb⟩
      all_goals cases hb
    · subst h1
      rw [if_neg (by decide), if_pos rfl] at h
      unfold kGoB at h
      rw [Bool.or_eq_true] at h
      rcases h with h | h
      · exact Or.inl (by simpa using h)
      · split at h
        · rename_i off n hd
          simp only [Bool.and_eq_true, beq_iff_eq, decide_eq_true_eq] at h
          obtain ⟨rfl, h⟩ := h
          exact Or.inr ⟨off, hd, h⟩
        · cases h
    · subst h2
      rw [if_neg (by decide), if_neg (by decide), if_pos rfl] at h
      unfold kSwB at h
      split at h
      · rename_i dflt lo hi offs len hd
        simp only [Bool.and_eq_true, decide_eq_true_eq] at h
        exact Or.inl ⟨dflt, lo, hi, offs, len, hd, h.1.1, h.1.2, kTbB_ok _ _ _ h.2⟩
      · rename_i dflt ps len hd
        rw [Bool.and_eq_true, Bool.and_eq_true] at h
        exact Or.inr ⟨dflt, ps, len, hd, h.1.1, of_decide_eq_true h.1.2, kLkB_ok _ _ h.2⟩
      · cases h
    · subst h3
      rw [if_neg (by decide), if_neg (by decide), if_neg (by decide), if_pos rfl] at h
      simp only [Bool.and_eq_true, decide_eq_true_eq] at h
      exact ⟨h.1, kRokB_ok h.2⟩
    · subst h4
      rw [if_neg (by decide), if_neg (by decide), if_neg (by decide), if_neg (by decide), if_pos rfl] at h
      rw [Bool.and_eq_true] at h
      refine ⟨?_, kOkB_ok hown hT hP hC is _ h.2⟩
      have hc := h.1
      unfold kCaB at hc
      split at hc
      · rename_i idx n hd
        simp only [Bool.and_eq_true, beq_iff_eq, decide_eq_true_eq] at hc
        obtain ⟨rfl, hc⟩ := hc
        obtain ⟨M', g1, g2, g3, g4⟩ := hT.2.2.2.2.1 _ hc
        refine ⟨M', idx, g1, Or.inl ⟨g2, g3, hd, ?_⟩⟩
        rw [hown]
        rcases g4 with g4 | ⟨-, g4⟩
        · exact Or.inl g4
        · exact Or.inr g4
      · rename_i idx n hd
        simp only [Bool.and_eq_true, beq_iff_eq, decide_eq_true_eq] at hc
        obtain ⟨rfl, hc⟩ := hc
        obtain ⟨M', g1, g2, g3, g4⟩ := hT.2.2.2.2.1 _ hc
        refine ⟨M', idx, g1, Or.inr ⟨g2, g3, hd, ?_⟩⟩
        rw [hown]
        rcases g4 with g4 | ⟨g5, -⟩
        · exact g4
        · cases g5
      · cases hc
end KChk
def kLook (t : Nat) : List (Nat × List kIt) → List kIt
  | [] => []
  | q :: r => if q.1 = t then q.2 else kLook t r
theorem kLook_all {f : Nat → List kIt → Bool} (h0 : ∀ t, f t [] = true) {t : Nat} : ∀ (bs : List (Nat × List kIt)), bs.all (fun q => f q.1 q.2) = true → f t (kLook t bs) = true
  | [], _ => h0 t
  | q :: r, h => by
    rw [List.all_cons, Bool.and_eq_true] at h
    unfold kLook
    split
    · rename_i hq; rw [← hq]; exact h.1
    · exact kLook_all h0 r h.2
end
section
/-! THE STORE: a fixed shape of cells, their ints by place and index; what must hold ahead of a block (zX), and that the engine then runs -/
abbrev zV : Type := Int ⊕ (Nat ⊕ Int)
abbrev zL : Type := List (Option zV)
abbrev zSt : Type := Nat → Nat → Int
abbrev zC : Type := (Nat × Nat) ⊕ (Nat × List (Option (Option Nat)))
abbrev zQ : Type := Option zV → zSt → Prop
abbrev zEo : Type := Nat → List zV → zSt → zQ → Prop
abbrev zJo : Type := Nat → zL → List zV → zSt → zQ → Prop
def zv (v : zV) : Value := match v with
  | .inl x => .int (Int32.ofInt x)
  | .inr (.inl q) => .ref q
  | .inr (.inr x) => .long (Int64.ofInt x)
def zM (lv : zL) : kL := lv.map (fun o => o.map zv)
def zSv (f : Nat → Int) (b : Nat) (t : Option (Option Nat)) : Value := match t with
  | none => .int (Int32.ofInt (f b))
  | some (some q) => .ref q
  | some none => .ref (f b).toNat
def zSl (f : Nat → Int) : Nat → List (Option (Option Nat)) → List Value
  | _, [] => []
  | b, t :: r => zSv f b t :: zSl f (b + 1) r
def zCe (f : Nat → Int) (c : zC) : kE := match c with
  | .inl x => .inl (x.1, x.2, if x.1 = 1 then .inr (.inl (fun j => Int64.ofInt (f j))) else .inl (fun j => Int32.ofInt (f j)))
  | .inr o => .inr (o.1, zSl f 0 o.2)
def zH (s : zSt) : Nat → List zC → kH
  | _, [] => []
  | q, c :: r => zCe (s q) c :: zH s (q + 1) r
def zU (s : zSt) (q k : Nat) (v : Int) : zSt := fun q' => if q' = q then (fun k' => if k' = k then v else s q k') else s q'
def zF (s : zSt) (q : Nat) (f : Nat → Int) : zSt := fun q' => if q' = q then f else s q'
theorem zU_at (s : zSt) (q k : Nat) (v : Int) : zU s q k v q = fun k' => if k' = k then v else s q k' := if_pos rfl
theorem zU_ne {q q' : Nat} (h : q' ≠ q) (s : zSt) (k : Nat) (v : Int) : zU s q k v q' = s q' := if_neg h
theorem zF_at (s : zSt) (q : Nat) (f : Nat → Int) : zF s q f q = f := if_pos rfl
theorem zF_ne {q q' : Nat} (h : q' ≠ q) (s : zSt) (f : Nat → Int) : zF s q f q' = s q' := if_neg h
theorem zH_len (s : zSt) : ∀ (sh : List zC) (q : Nat), (zH s q sh).length = sh.length
  | [], _ => rfl
  | _ :: r, q => by simp only [zH, List.length_cons, zH_len s r]
theorem zH_get (s : zSt) : ∀ (sh : List zC) (q0 q : Nat), (zH s q0 sh)[q]? = (sh[q]?).map (zCe (s (q0 + q)))
  | [], q0, q => by simp [zH]
  | c :: r, q0, 0 => by simp [zH]
  | c :: r, q0, q + 1 => by
    have h := zH_get s r (q0 + 1) q
    simp only [zH, List.getElem?_cons_succ, h]
    rw [show q0 + 1 + q = q0 + (q + 1) by omega]
theorem zH_at {s : zSt} {sh : List zC} {q : Nat} {c : zC} (h : sh[q]? = some c) : (zH s 0 sh)[q]? = some (zCe (s q) c) := by
  rw [zH_get, h, Nat.zero_add]; rfl
theorem zH_put {s s' : zSt} {sh : List zC} {q : Nat} {c : zC} (hc : sh[q]? = some c) (h : ∀ q', q' ≠ q → s' q' = s q') : (zH s 0 sh).set q (zCe (s' q) c) = zH s' 0 sh := by
  apply List.ext_getElem?
  intro i
  rw [zH_get, Nat.zero_add]
  by_cases hi : q = i
  · subst hi
    rw [List.getElem?_set_self (by rw [zH_len]; exact (List.getElem?_eq_some_iff.mp hc).1), hc]; rfl
  · rw [List.getElem?_set_ne hi, zH_get, Nat.zero_add, h i (fun e => hi e.symm)]
def zR (x : Int) : Prop := -2147483648 ≤ x ∧ x ≤ 2147483647
def zR64 (x : Int) : Prop := -9223372036854775808 ≤ x ∧ x ≤ 9223372036854775807
def zVok (v : zV) : Prop := match v with
  | .inl x => zR x
  | .inr (.inl _) => True
  | .inr (.inr x) => zR64 x
def zLong (sh : List zC) (q : Nat) : Bool := match sh[q]? with
  | some (.inl x) => Nat.beq x.1 1
  | _ => false
def zSok (sh : List zC) (s : zSt) : Prop := ∀ q j, (zLong sh q = true → zR64 (s q j)) ∧ (zLong sh q = false → zR (s q j))
def zLok (lv : zL) : Prop := ∀ v, some v ∈ lv → zVok v
def zTok (st : List zV) : Prop := ∀ v ∈ st, zVok v
def zro (ro : Nat → Option (List Int)) : kRo := fun q => (ro q).map (fun l => (l.length, fun j => Int32.ofInt (l.getD j 0)))
/-! ints that wrap -/
def wr (x : Int) : Int := (x + 2147483648) % 4294967296 - 2147483648
def wl (x : Int) : Int := (x + 9223372036854775808) % 18446744073709551616 - 9223372036854775808
def w8 (x : Int) : Int := (x + 128) % 256 - 128
def w16 (x : Int) : Int := (x + 32768) % 65536 - 32768
theorem wr_bmod (x : Int) : wr x = x.bmod 4294967296 := by
  unfold wr
  rw [Int.bmod_def]
  split <;> omega
theorem wl_bmod (x : Int) : wl x = x.bmod 18446744073709551616 := by
  unfold wl
  rw [Int.bmod_def]
  split <;> omega
theorem w8_bmod (x : Int) : w8 x = x.bmod 256 := by
  unfold w8
  rw [Int.bmod_def]
  split <;> omega
theorem w16_bmod (x : Int) : w16 x = x.bmod 65536 := by
  unfold w16
  rw [Int.bmod_def]
  split <;> omega
theorem wr_R (x : Int) : zR (wr x) := by unfold wr zR; omega
theorem wl_R (x : Int) : zR64 (wl x) := by unfold wl zR64; omega
theorem wr_id {x : Int} (h : zR x) : wr x = x := by unfold wr; unfold zR at h; omega
theorem wl_id {x : Int} (h : zR64 x) : wl x = x := by unfold wl; unfold zR64 at h; omega
theorem z32 {x : Int} (h : zR x) : (Int32.ofInt x).toInt = x := Int32.toInt_ofInt_of_le (by have := h.1; omega) (by have := h.2; omega)
theorem z64 {x : Int} (h : zR64 x) : (Int64.ofInt x).toInt = x := Int64.toInt_ofInt_of_le (by have := h.1; omega) (by have := h.2; omega)
theorem z32w (x : Int) : (Int32.ofInt x).toInt = wr x := by rw [Int32.toInt_ofInt, wr_bmod]
theorem z64w (x : Int) : (Int64.ofInt x).toInt = wl x := by rw [Int64.toInt_ofInt, wl_bmod]
theorem zof_wr (x : Int) : Int32.ofInt (wr x) = Int32.ofInt x := by rw [← z32w, Int32.ofInt_toInt]
theorem zof_wl (x : Int) : Int64.ofInt (wl x) = Int64.ofInt x := by rw [← z64w, Int64.ofInt_toInt]
theorem zR_of (x : Int32) : zR x.toInt := by
  have h1 := x.toInt_lt
  have h2 := x.le_toInt
  unfold zR
  omega
theorem zR64_of (x : Int64) : zR64 x.toInt := by
  have h1 := x.toInt_lt
  have h2 := x.le_toInt
  unfold zR64
  omega
theorem z_lt {x y : Int} (hx : zR x) (hy : zR y) : Int32.ofInt x < Int32.ofInt y ↔ x < y := by rw [Int32.lt_iff_toInt_lt, z32 hx, z32 hy]
theorem z_le {x y : Int} (hx : zR x) (hy : zR y) : Int32.ofInt x ≤ Int32.ofInt y ↔ x ≤ y := by rw [Int32.le_iff_toInt_le, z32 hx, z32 hy]
theorem z_eq {x y : Int} (hx : zR x) (hy : zR y) : Int32.ofInt x = Int32.ofInt y ↔ x = y := by rw [← Int32.toInt_inj, z32 hx, z32 hy]
theorem z_eq64 {x y : Int} (hx : zR64 x) (hy : zR64 y) : Int64.ofInt x = Int64.ofInt y ↔ x = y := by rw [← Int64.toInt_inj, z64 hx, z64 hy]
theorem z_lt64 {x y : Int} (hx : zR64 x) (hy : zR64 y) : Int64.ofInt x < Int64.ofInt y ↔ x < y := by rw [Int64.lt_iff_toInt_lt, z64 hx, z64 hy]
theorem zR0 : zR 0 := by unfold zR; omega
theorem z_nat {x : Int} (hx : zR x) : (Int32.ofInt x).toNatClampNeg = x.toNat := by rw [← Int32.toNat_toInt, z32 hx]
/-- an index within -/
theorem z_in {j : Int} {n : Nat} (hj : zR j) (h : 0 ≤ j ∧ j < (n : Int)) : ¬ (Int32.ofInt j < 0 ∨ n ≤ (Int32.ofInt j).toNatClampNeg) := by
  rw [z_nat hj, show (0 : Int32) = Int32.ofInt 0 from rfl, z_lt hj zR0]
  omega
def zRb (n : Int) : Bool := match n with
  | .ofNat k => Nat.ble k 2147483647
  | .negSucc k => Nat.ble k 2147483647
def zRb64 (n : Int) : Bool := match n with
  | .ofNat k => Nat.ble k 9223372036854775807
  | .negSucc k => Nat.ble k 9223372036854775807
theorem zRb_ok {n : Int} (h : zRb n = true) : zR n := by
  unfold zR
  cases n with
  | ofNat k =>
    have := Nat.le_of_ble_eq_true h
    rw [Int.ofNat_eq_natCast]
    omega
  | negSucc k => have := Nat.le_of_ble_eq_true h; omega
theorem zRb64_ok {n : Int} (h : zRb64 n = true) : zR64 n := by
  unfold zR64
  cases n with
  | ofNat k =>
    have := Nat.le_of_ble_eq_true h
    rw [Int.ofNat_eq_natCast]
    omega
  | negSucc k => have := Nat.le_of_ble_eq_true h; omega
/-! one instruction -/
abbrev zK : Type := zL → List zV → zSt → Prop
def zLd (lv : zL) (i : Nat) : Option zV := match lv[i]? with
  | some (some v) => some v
  | _ => none
def zClr (lv : zL) (i : Nat) : zL := match i with
  | 0 => lv
  | j + 1 => match lv[j]? with
    | some (some (.inr (.inr _))) => lv.set j none
    | _ => lv
def zSt1 (lv : zL) (i : Nat) (v : zV) : zL := (zClr lv i).set i (some v)
def zSt2 (lv : zL) (i : Nat) (v : zV) : zL := ((zClr lv i).set i (some v)).set (i + 1) none
def zPush (b : Bool) (v : zV) (lv : zL) (st : List zV) (s : zSt) (K : zK) : Prop := cond b (K lv (v :: st) s) False
def zPi (lv : zL) (st : List zV) (s : zSt) (i : Nat) (K : zK) : Prop := match zLd lv i with
  | some (.inl x) => K lv (.inl x :: st) s
  | _ => False
def zPl (lv : zL) (st : List zV) (s : zSt) (i : Nat) (K : zK) : Prop := match zLd lv i with
  | some (.inr (.inr x)) => K lv (.inr (.inr x) :: st) s
  | _ => False
def zPa (lv : zL) (st : List zV) (s : zSt) (i : Nat) (K : zK) : Prop := match zLd lv i with
  | some (.inr (.inl x)) => K lv (.inr (.inl x) :: st) s
  | _ => False
def zTi (lv : zL) (st : List zV) (s : zSt) (i : Nat) (K : zK) : Prop := match st with
  | .inl x :: r => cond (Nat.blt i lv.length) (K (zSt1 lv i (.inl x)) r s) False
  | _ => False
def zTa (lv : zL) (st : List zV) (s : zSt) (i : Nat) (K : zK) : Prop := match st with
  | .inr (.inl x) :: r => cond (Nat.blt i lv.length) (K (zSt1 lv i (.inr (.inl x))) r s) False
  | _ => False
def zTl (lv : zL) (st : List zV) (s : zSt) (i : Nat) (K : zK) : Prop := match st with
  | .inr (.inr x) :: r => cond (Nat.blt (i + 1) lv.length) (K (zSt2 lv i (.inr (.inr x))) r s) False
  | _ => False
def zInc (lv : zL) (st : List zV) (s : zSt) (i : Nat) (n : Int) (K : zK) : Prop := match zLd lv i with
  | some (.inl x) => K (zSt1 lv i (.inl (wr (x + n)))) st s
  | _ => False
def zI1 (lv : zL) (st : List zV) (s : zSt) (f : Int → zV) (K : zK) : Prop := match st with
  | .inl x :: r => K lv (f x :: r) s
  | _ => False
def zI2 (lv : zL) (st : List zV) (s : zSt) (f : Int → Int → Int) (K : zK) : Prop := match st with
  | .inl y :: .inl x :: r => K lv (.inl (f x y) :: r) s
  | _ => False
def zJ2 (lv : zL) (st : List zV) (s : zSt) (f : Int → Int → zV) (K : zK) : Prop := match st with
  | .inr (.inr y) :: .inr (.inr x) :: r => K lv (f x y :: r) s
  | _ => False
def zDiv (lv : zL) (st : List zV) (s : zSt) (f : Int → Int → Int) (K : zK) : Prop := match st with
  | .inl y :: .inl x :: r => if y = 0 then False else K lv (.inl (f x y) :: r) s
  | _ => False
def zCat (v : zV) : Bool := match v with
  | .inr (.inr _) => false
  | _ => true
def zDup (lv : zL) (st : List zV) (s : zSt) (K : zK) : Prop := match st with
  | v :: r => cond (zCat v) (K lv (v :: v :: r) s) False
  | _ => False
def zPop (lv : zL) (st : List zV) (s : zSt) (K : zK) : Prop := match st with
  | v :: r => cond (zCat v) (K lv r s) False
  | _ => False
def zDup2 (lv : zL) (st : List zV) (s : zSt) (K : zK) : Prop := match st with
  | v :: w :: r => cond (zCat v && zCat w) (K lv (v :: w :: v :: w :: r) s) False
  | _ => False
def zOb (sh : List zC) (q a b : Nat) (k : Option (Option Nat) → Prop) : Prop := match sh[q]? with
  | some (.inr o) => cond (Nat.beq o.1 a) (match o.2[b]? with
    | some t => k t
    | none => False) False
  | _ => False
def zGet (sh : List zC) (lv : zL) (st : List zV) (s : zSt) (a b : Nat) (K : zK) : Prop := match st with
  | .inr (.inl q) :: r => zOb sh q a b (fun t => match t with
    | none => K lv (.inl (s q b) :: r) s
    | some (some x) => K lv (.inr (.inl x) :: r) s
    | some none => K lv (.inr (.inl (s q b).toNat) :: r) s)
  | _ => False
def zPut (sh : List zC) (lv : zL) (st : List zV) (s : zSt) (a b : Nat) (z : Int) (K : zK) : Prop := match st with
  | .inl x :: .inr (.inl q) :: r => zOb sh q a b (fun t => match t with
    | none => (match z with
      | 0 => K lv r (zU s q b x)
      | 1 => (x = 0 ∨ x = 1) ∧ K lv r (zU s q b x)
      | _ => False)
    | _ => False)
  | .inr (.inl x) :: .inr (.inl q) :: r => zOb sh q a b (fun t => match t with
    | some none => (match z with
      | 2 => cond (Nat.ble x 2147483647) (K lv r (zU s q b (x : Int))) False
      | _ => False)
    | _ => False)
  | _ => False
def zAr (sh : List zC) (q t : Nat) (k : Nat → Prop) : Prop := match sh[q]? with
  | some (.inl x) => cond (Nat.beq x.1 t) (k x.2) False
  | _ => False
def zRd (sh : List zC) (ro : Nat → Option (List Int)) (s : zSt) (q : Nat) (k : Nat → (Nat → Int) → Prop) : Prop := match ro q with
  | some l => k l.length (fun j => l.getD j 0)
  | none => zAr sh q 0 (fun n => k n (s q))
def zAl (sh : List zC) (ro : Nat → Option (List Int)) (lv : zL) (st : List zV) (s : zSt) (K : zK) : Prop := match st with
  | .inr (.inl q) :: r => (match ro q with
    | some l => cond (Nat.ble l.length 2147483647) (K lv (.inl (l.length : Int) :: r) s) False
    | none => match sh[q]? with
      | some (.inl x) => cond (Nat.ble x.2 2147483647 && Nat.blt x.1 5) (K lv (.inl (x.2 : Int) :: r) s) False
      | _ => False)
  | _ => False
def zAi (sh : List zC) (ro : Nat → Option (List Int)) (lv : zL) (st : List zV) (s : zSt) (K : zK) : Prop := match st with
  | .inl j :: .inr (.inl q) :: r => zRd sh ro s q (fun n f => 0 ≤ j ∧ j < (n : Int) ∧ K lv (.inl (f j.toNat) :: r) s)
  | _ => False
def zAt (sh : List zC) (lv : zL) (st : List zV) (s : zSt) (t : Nat) (K : zK) : Prop := match st with
  | .inl j :: .inr (.inl q) :: r => cond (Nat.beq t 1) False (zAr sh q t (fun n => 0 ≤ j ∧ j < (n : Int) ∧ K lv (.inl (s q j.toNat) :: r) s))
  | _ => False
def zAj (sh : List zC) (lv : zL) (st : List zV) (s : zSt) (K : zK) : Prop := match st with
  | .inl j :: .inr (.inl q) :: r => zAr sh q 1 (fun n => 0 ≤ j ∧ j < (n : Int) ∧ K lv (.inr (.inr (s q j.toNat)) :: r) s)
  | _ => False
def zBt (sh : List zC) (lv : zL) (st : List zV) (s : zSt) (t : Nat) (g : Int → Int) (K : zK) : Prop := match st with
  | .inl v :: .inl j :: .inr (.inl q) :: r => cond (Nat.beq t 1) False (zAr sh q t (fun n => 0 ≤ j ∧ j < (n : Int) ∧ K lv r (zU s q j.toNat (g v))))
  | _ => False
def zBj (sh : List zC) (lv : zL) (st : List zV) (s : zSt) (K : zK) : Prop := match st with
  | .inr (.inr v) :: .inl j :: .inr (.inl q) :: r => zAr sh q 1 (fun n => 0 ≤ j ∧ j < (n : Int) ∧ K lv r (zU s q j.toNat v))
  | _ => False
def zCpF (f g : Nat → Int) (sp dp n : Nat) : Nat → Int := fun k => if dp ≤ k ∧ k < dp + n then f (sp + (k - dp)) else g k
def zCp (sh : List zC) (lv : zL) (st : List zV) (s : zSt) (t : Nat) (K : zK) : Prop := match st with
  | .inl n :: .inl dp :: .inr (.inl q1) :: .inl sp :: .inr (.inl q0) :: r => cond (Nat.ble r.length 4) (zAr sh q0 t (fun x => zAr sh q1 t (fun y => 0 ≤ sp ∧ 0 ≤ dp ∧ 0 ≤ n ∧ sp + n ≤ (x : Int) ∧ dp + n ≤ (y : Int) ∧ K lv r (zF s q1 (zCpF (s q0) (s q1) sp.toNat dp.toNat n.toNat))))) False
  | _ => False
def zMx (lv : zL) (st : List zV) (s : zSt) (f : Int → Int → Int) (K : zK) : Prop := match st with
  | .inl y :: .inl x :: r => cond (Nat.ble r.length 4) (K lv (.inl (f x y) :: r) s) False
  | _ => False
def zNat (sh : List zC) (lv : zL) (st : List zV) (s : zSt) (a : Nat) (K : zK) : Prop := match a with
  | 1 => zMx lv st s (fun x y => max x y) K
  | 2 => zMx lv st s (fun x y => min x y) K
  | 3 => zCp sh lv st s 0 K
  | 4 => zCp sh lv st s 1 K
  | _ => False
def zAnd (x y : Int) : Int := (Int32.ofInt x &&& Int32.ofInt y).toInt
def zOr (x y : Int) : Int := (Int32.ofInt x ||| Int32.ofInt y).toInt
def zXor (x y : Int) : Int := (Int32.ofInt x ^^^ Int32.ofInt y).toInt
def zShl (x y : Int) : Int := (Int32.ofInt x <<< (Int32.ofInt y &&& 31)).toInt
def zUsh (x y : Int) : Int := (((Int32.ofInt x).toUInt32 >>> ((Int32.ofInt y).toUInt32 &&& Int32.toUInt32 31)).toInt32).toInt
def zAndL (x y : Int) : Int := (Int64.ofInt x &&& Int64.ofInt y).toInt
def zOrL (x y : Int) : Int := (Int64.ofInt x ||| Int64.ofInt y).toInt
def zShlL (x y : Int) : Int := (Int64.ofInt x <<< ((Int32.ofInt y).toInt64 &&& 63)).toInt
def zBz (v : Int) : Int := zAnd v 1
def zS (sh : List zC) (ro : Nat → Option (List Int)) (i : Instr) (a b : Nat) (z : Int) (lv : zL) (st : List zV) (s : zSt) (K : zK) : Prop :=
  match i with
  | .iconst n => zPush (zRb n) (.inl n) lv st s K
  | .bipush n => zPush (zRb n) (.inl n) lv st s K
  | .sipush n => zPush (zRb n) (.inl n) lv st s K
  | .lconst n => zPush (Nat.ble n 1) (.inr (.inr ((n : Nat) : Int))) lv st s K
  | .ldc _ => zPush (zRb z) (.inl z) lv st s K
  | .ldc_w _ => zPush (zRb z) (.inl z) lv st s K
  | .ldc2_w _ => zPush (zRb64 z) (.inr (.inr z)) lv st s K
  | .iload_n k => zPi lv st s k K
  | .iload k => zPi lv st s k K
  | .lload_n k => zPl lv st s k K
  | .lload k => zPl lv st s k K
  | .aload_n k => zPa lv st s k K
  | .aload k => zPa lv st s k K
  | .istore_n k => zTi lv st s k K
  | .istore k => zTi lv st s k K
  | .astore_n k => zTa lv st s k K
  | .lstore k => zTl lv st s k K
  | .iinc k n => zInc lv st s k n K
  | .iadd => zI2 lv st s (fun x y => wr (x + y)) K
  | .isub => zI2 lv st s (fun x y => wr (x - y)) K
  | .imul => zI2 lv st s (fun x y => wr (x * y)) K
  | .iand => zI2 lv st s zAnd K
  | .ior => zI2 lv st s zOr K
  | .ixor => zI2 lv st s zXor K
  | .ishl => zI2 lv st s zShl K
  | .iushr => zI2 lv st s zUsh K
  | .idiv => zDiv lv st s (fun x y => wr (x.tdiv y)) K
  | .irem => zDiv lv st s (fun x y => wr (x.tmod y)) K
  | .ineg => zI1 lv st s (fun x => .inl (wr (-x))) K
  | .i2l => zI1 lv st s (fun x => .inr (.inr x)) K
  | .i2b => zI1 lv st s (fun x => .inl (w8 x)) K
  | .i2s => zI1 lv st s (fun x => .inl (w16 x)) K
  | .l2i => (match st with
    | .inr (.inr x) :: r => K lv (.inl (wr x) :: r) s
    | _ => False)
  | .ladd => zJ2 lv st s (fun x y => .inr (.inr (wl (x + y)))) K
  | .land => zJ2 lv st s (fun x y => .inr (.inr (zAndL x y))) K
  | .lor => zJ2 lv st s (fun x y => .inr (.inr (zOrL x y))) K
  | .lcmp => zJ2 lv st s (fun x y => .inl (if y < x then 1 else if x = y then 0 else -1)) K
  | .lshl => (match st with
    | .inl y :: .inr (.inr x) :: r => K lv (.inr (.inr (zShlL x y)) :: r) s
    | _ => False)
  | .dup => zDup lv st s K
  | .pop => zPop lv st s K
  | .dup2 => zDup2 lv st s K
  | .getfield _ => zGet sh lv st s a b K
  | .putfield _ => zPut sh lv st s a b z K
  | .getstatic _ => K lv (.inr (.inl a) :: st) s
  | .arraylength => zAl sh ro lv st s K
  | .iaload => zAi sh ro lv st s K
  | .baload => zAt sh lv st s a K
  | .saload => zAt sh lv st s 4 K
  | .laload => zAj sh lv st s K
  | .iastore => zBt sh lv st s 0 (fun x => x) K
  | .bastore => (match a with
    | 2 => zBt sh lv st s 2 w8 K
    | 3 => zBt sh lv st s 3 zBz K
    | _ => False)
  | .sastore => zBt sh lv st s 4 w16 K
  | .lastore => zBj sh lv st s K
  | .invokestatic _ => zNat sh lv st s a K
  | _ => False
def zCm (c : ClassFile.Cond) (x y : Int) : Prop := match c with
  | .eq => x = y
  | .ne => ¬ x = y
  | .lt => x < y
  | .ge => y ≤ x
  | .gt => y < x
  | .le => x ≤ y
def zCd (i : Instr) (st : List zV) (k : Prop → List zV → Prop) : Prop := match i with
  | .ifCond c _ => (match st with
    | .inl x :: r => k (zCm c x 0) r
    | _ => False)
  | .if_icmp c _ => (match st with
    | .inl y :: .inl x :: r => k (zCm c x y) r
    | _ => False)
  | _ => False
def zSw (k : Nat → Prop) (x : Int) (d : Nat) : List (Int32 × Nat) → Prop
  | [] => k d
  | q :: r => (x = q.1.toInt → k q.2) ∧ (¬ x = q.1.toInt → zSw k x d r)
def zRt (i : Instr) (a : Nat) (st : List zV) (s : zSt) (Q : zQ) : Prop := match i with
  | .ireturn => (match st with
    | [.inl x] => (match a with
      | 0 => Q (some (.inl x)) s
      | _ => (x = 0 ∨ x = 1) ∧ Q (some (.inl x)) s)
    | _ => False)
  | .lreturn => (match st with
    | [.inr (.inr x)] => Q (some (.inr (.inr x))) s
    | _ => False)
  | .return_ => (match st with
    | [] => Q none s
    | _ => False)
  | _ => False
def zAp (r : Option zV) (st : List zV) : List zV := match r with
  | some v => v :: st
  | none => st
def zX (sh : List zC) (ro : Nat → Option (List Int)) (E : zEo) (J : zJo) : List kIt → zL → List zV → zSt → zQ → Prop
  | [], _, _, _, _ => False
  | (_, .inl (i, a, b, z)) :: is, lv, st, s, Q => zS sh ro i a b z lv st s (fun lv st s => zX sh ro E J is lv st s Q)
  | (_, .inr (i, k, a, b, sw)) :: is, lv, st, s, Q => match k with
    | 0 => zCd i st (fun c r => (c → J a lv r s Q) ∧ (¬ c → zX sh ro E J is lv r s Q))
    | 1 => J a lv st s Q
    | 2 => (match st with
      | .inl x :: r => zSw (fun t => J t lv r s Q) x a sw
      | _ => False)
    | 3 => zRt i a st s Q
    | 4 => cond (Nat.ble b st.length && Nat.ble st.length (b + 4)) (E a (st.take b).reverse s (fun r s' => zX sh ro E J is lv (zAp r (st.drop b)) s' Q)) False
    | _ => False
end
section
/-! THE STORE, sound: what must hold ahead of a block makes the engine run, and the store moves as told -/
theorem zSl_len (f : Nat → Int) : ∀ (ss : List (Option (Option Nat))) (b : Nat), (zSl f b ss).length = ss.length
  | [], _ => rfl
  | _ :: r, b => by simp only [zSl, List.length_cons, zSl_len f r]
theorem zSl_get (f : Nat → Int) : ∀ (ss : List (Option (Option Nat))) (b0 b : Nat), (zSl f b0 ss)[b]? = (ss[b]?).map (zSv f (b0 + b))
  | [], b0, b => by simp [zSl]
  | c :: r, b0, 0 => by simp [zSl]
  | c :: r, b0, b + 1 => by
    have h := zSl_get f r (b0 + 1) b
    simp only [zSl, List.getElem?_cons_succ, h]
    rw [show b0 + 1 + b = b0 + (b + 1) by omega]
theorem zSl_put {f f' : Nat → Int} {ss : List (Option (Option Nat))} {b : Nat} {t : Option (Option Nat)} (hc : ss[b]? = some t) (h : ∀ b', b' ≠ b → f' b' = f b') : (zSl f 0 ss).set b (zSv f' b t) = zSl f' 0 ss := by
  apply List.ext_getElem?
  intro i
  rw [zSl_get, Nat.zero_add]
  by_cases hi : b = i
  · subst hi
    rw [List.getElem?_set_self (by rw [zSl_len]; exact (List.getElem?_eq_some_iff.mp hc).1), hc]; rfl
  · rw [List.getElem?_set_ne hi, zSl_get, Nat.zero_add]
    cases hs : ss[i]? with
    | none => rfl
    | some t' =>
      have := h i (fun e => hi e.symm)
      rcases t' with _ | _ | q
      · show some (Value.int (Int32.ofInt (f i))) = some (Value.int (Int32.ofInt (f' i))); rw [this]
      · show some (Value.ref (f i).toNat) = some (Value.ref (f' i).toNat); rw [this]
      · rfl
theorem zM_get (lv : zL) (i : Nat) : (zM lv)[i]? = (lv[i]?).map (fun o => o.map zv) := by unfold zM; rw [List.getElem?_map]
theorem zM_set (lv : zL) (i : Nat) (o : Option zV) : (zM lv).set i (o.map zv) = zM (lv.set i o) := by unfold zM; rw [List.map_set]
theorem zM_len (lv : zL) : (zM lv).length = lv.length := by unfold zM; rw [List.length_map]
theorem zLd_ok {lv : zL} {i : Nat} {v : zV} (h : zLd lv i = some v) : kLd (zM lv) i = some (zv v) ∧ some v ∈ lv := by
  unfold zLd at h
  split at h
  · rename_i w hw
    cases h
    refine ⟨?_, List.mem_of_getElem? hw⟩
    unfold kLd
    rw [zM_get, hw]; rfl
  · cases h
theorem zClr_ok (lv : zL) (i : Nat) : kClr (zM lv) i = zM (zClr lv i) := by
  cases i with
  | zero => rfl
  | succ j =>
    unfold kClr zClr
    dsimp only
    rw [zM_get]
    cases h : lv[j]? with
    | none => rfl
    | some o =>
      rcases o with _ | x | q | x
      · rfl
      · rfl
      · rfl
      · exact zM_set lv j none
theorem zClr_in {lv : zL} {i : Nat} {v : zV} (h : some v ∈ zClr lv i) : some v ∈ lv := by
  unfold zClr at h
  split at h
  · exact h
  · split at h
    · rcases List.mem_or_eq_of_mem_set h with h | h
      · exact h
      · cases h
    · exact h
theorem zTok.hd {v : zV} {r : List zV} (h : zTok (v :: r)) : zVok v := h v List.mem_cons_self
theorem zTok.tl {v : zV} {r : List zV} (h : zTok (v :: r)) : zTok r := fun w hw => h w (List.mem_cons_of_mem _ hw)
theorem zTok.mk {v : zV} {r : List zV} (h1 : zVok v) (h2 : zTok r) : zTok (v :: r) := fun w hw => (List.mem_cons.mp hw).elim (fun e => e ▸ h1) (h2 w)
theorem zTok_nil : zTok [] := fun _ h => by cases h
theorem zSt1_ok {lv : zL} {i : Nat} {v : zV} (hl : zLok lv) (hv : zVok v) : zLok (zSt1 lv i v) := by
  intro w hw
  rcases List.mem_or_eq_of_mem_set hw with h | h
  · exact hl w (zClr_in h)
  · cases h; exact hv
theorem zSt2_ok {lv : zL} {i : Nat} {v : zV} (hl : zLok lv) (hv : zVok v) : zLok (zSt2 lv i v) := by
  intro w hw
  rcases List.mem_or_eq_of_mem_set hw with h | h
  · exact zSt1_ok hl hv w h
  · cases h
theorem zSt1_map (lv : zL) (i : Nat) (v : zV) : kSt1 (zM lv) i (zv v) = zM (zSt1 lv i v) := by
  unfold kSt1 zSt1
  rw [zClr_ok]
  exact zM_set _ i (some v)
theorem zSt2_map (lv : zL) (i : Nat) (v : zV) : kSt2 (zM lv) i (zv v) = zM (zSt2 lv i v) := by
  have h := zSt1_map lv i v
  unfold kSt1 at h
  unfold kSt2 zSt2
  rw [h]
  exact zM_set _ (i + 1) none
theorem zSok_U {sh : List zC} {s : zSt} {q k : Nat} {v : Int} (hs : zSok sh s) (hv : (zLong sh q = true → zR64 v) ∧ (zLong sh q = false → zR v)) : zSok sh (zU s q k v) := by
  intro q' j
  by_cases hq : q' = q
  · subst hq
    rw [zU_at]
    dsimp only
    split
    · exact hv
    · exact hs q' j
  · rw [zU_ne hq]
    exact hs q' j
def zOut (sh : List zC) (o : Option (kL × List Value × kH)) (K : zK) : Prop := ∃ lv st s, o = some (zM lv, st.map zv, zH s 0 sh) ∧ K lv st s ∧ zSok sh s ∧ zLok lv ∧ zTok st
section ZSnd
variable {sh : List zC} {ro : Nat → Option (List Int)} {lv : zL} {st : List zV} {s : zSt} {K : zK}
theorem zPush_ok {b : Bool} {v : zV} (hb : b = true → zVok v) (h : zPush b v lv st s K) (hs : zSok sh s) (hl : zLok lv) (ht : zTok st) : zOut sh (some (zM lv, zv v :: st.map zv, zH s 0 sh)) K := by
  unfold zPush at h
  cases b with
  | false => exact h.elim
  | true => exact ⟨lv, v :: st, s, rfl, h, hs, hl, ht.mk (hb rfl)⟩
theorem zPi_ok {i : Nat} (h : zPi lv st s i K) (hs : zSok sh s) (hl : zLok lv) (ht : zTok st) : zOut sh (kPi (zM lv) (st.map zv) (zH s 0 sh) i) K := by
  unfold zPi at h
  split at h
  · rename_i x hx
    obtain ⟨h1, h2⟩ := zLd_ok hx
    unfold kPi
    rw [h1]
    exact ⟨lv, .inl x :: st, s, rfl, h, hs, hl, ht.mk (hl _ h2)⟩
  · exact h.elim
theorem zPl_ok {i : Nat} (h : zPl lv st s i K) (hs : zSok sh s) (hl : zLok lv) (ht : zTok st) : zOut sh (kPl (zM lv) (st.map zv) (zH s 0 sh) i) K := by
  unfold zPl at h
  split at h
  · rename_i x hx
    obtain ⟨h1, h2⟩ := zLd_ok hx
    unfold kPl
    rw [h1]
    exact ⟨lv, .inr (.inr x) :: st, s, rfl, h, hs, hl, ht.mk (hl _ h2)⟩
  · exact h.elim
theorem zPa_ok {i : Nat} (h : zPa lv st s i K) (hs : zSok sh s) (hl : zLok lv) (ht : zTok st) : zOut sh (kPa (zM lv) (st.map zv) (zH s 0 sh) i) K := by
  unfold zPa at h
  split at h
  · rename_i x hx
    obtain ⟨h1, h2⟩ := zLd_ok hx
    unfold kPa
    rw [h1]
    exact ⟨lv, .inr (.inl x) :: st, s, rfl, h, hs, hl, ht.mk (hl _ h2)⟩
  · exact h.elim
theorem z_blt {a b : Nat} (h : Nat.blt a b = true) : a < b := Nat.le_of_ble_eq_true h
theorem zTi_ok {i : Nat} (h : zTi lv st s i K) (hs : zSok sh s) (hl : zLok lv) (ht : zTok st) : zOut sh (kTi (zM lv) (st.map zv) (zH s 0 sh) i) K := by
  unfold zTi at h
  split at h
  · rename_i x r
    cases hb : Nat.blt i lv.length with
    | false => rw [hb] at h; exact h.elim
    | true =>
      rw [hb] at h
      refine ⟨zSt1 lv i (.inl x), r, s, ?_, h, hs, zSt1_ok hl ht.hd, ht.tl⟩
      show (if i < (zM lv).length then some (kSt1 (zM lv) i (zv (.inl x)), r.map zv, zH s 0 sh) else none) = _
      rw [zM_len, if_pos (z_blt hb), zSt1_map]
  · exact h.elim
theorem zTa_ok {i : Nat} (h : zTa lv st s i K) (hs : zSok sh s) (hl : zLok lv) (ht : zTok st) : zOut sh (kTa (zM lv) (st.map zv) (zH s 0 sh) i) K := by
  unfold zTa at h
  split at h
  · rename_i x r
    cases hb : Nat.blt i lv.length with
    | false => rw [hb] at h; exact h.elim
    | true =>
      rw [hb] at h
      refine ⟨zSt1 lv i (.inr (.inl x)), r, s, ?_, h, hs, zSt1_ok hl ht.hd, ht.tl⟩
      show (if i < (zM lv).length then some (kSt1 (zM lv) i (zv (.inr (.inl x))), r.map zv, zH s 0 sh) else none) = _
      rw [zM_len, if_pos (z_blt hb), zSt1_map]
  · exact h.elim
theorem zTl_ok {i : Nat} (h : zTl lv st s i K) (hs : zSok sh s) (hl : zLok lv) (ht : zTok st) : zOut sh (kTl (zM lv) (st.map zv) (zH s 0 sh) i) K := by
  unfold zTl at h
  split at h
  · rename_i x r
    cases hb : Nat.blt (i + 1) lv.length with
    | false => rw [hb] at h; exact h.elim
    | true =>
      rw [hb] at h
      refine ⟨zSt2 lv i (.inr (.inr x)), r, s, ?_, h, hs, zSt2_ok hl ht.hd, ht.tl⟩
      show (if i + 1 < (zM lv).length then some (kSt2 (zM lv) i (zv (.inr (.inr x))), r.map zv, zH s 0 sh) else none) = _
      rw [zM_len, if_pos (z_blt hb), zSt2_map]
  · exact h.elim
theorem zInc_ok {i : Nat} {n : Int} (h : zInc lv st s i n K) (hs : zSok sh s) (hl : zLok lv) (ht : zTok st) : zOut sh (kInc (zM lv) (st.map zv) (zH s 0 sh) i n) K := by
  unfold zInc at h
  split at h
  · rename_i x hx
    obtain ⟨h1, h2⟩ := zLd_ok hx
    unfold kInc
    rw [h1]
    refine ⟨zSt1 lv i (.inl (wr (x + n))), st, s, ?_, h, hs, zSt1_ok hl (wr_R _), ht⟩
    rw [← zSt1_map]
    show some (kSt1 (zM lv) i (.int (Int32.ofInt x + Int32.ofInt n)), _, _) = some (kSt1 (zM lv) i (.int (Int32.ofInt (wr (x + n)))), _, _)
    rw [zof_wr, Int32.ofInt_add]
  · exact h.elim
theorem zI1_ok {f : Int → zV} {g : Int32 → Value} (hg : ∀ x, zR x → g (Int32.ofInt x) = zv (f x) ∧ zVok (f x)) (h : zI1 lv st s f K) (hs : zSok sh s) (hl : zLok lv) (ht : zTok st) : zOut sh (kSi (zM lv) (zH s 0 sh) (kI1 (st.map zv) g)) K := by
  unfold zI1 at h
  split at h
  · rename_i x r
    obtain ⟨h1, h2⟩ := hg x ht.hd
    refine ⟨lv, f x :: r, s, ?_, h, hs, hl, ht.tl.mk h2⟩
    show some (zM lv, g (Int32.ofInt x) :: r.map zv, zH s 0 sh) = _
    rw [h1]; rfl
  · exact h.elim
theorem zI2_ok {f : Int → Int → Int} {g : Int32 → Int32 → Value} (hg : ∀ x y, zR x → zR y → g (Int32.ofInt x) (Int32.ofInt y) = .int (Int32.ofInt (f x y)) ∧ zR (f x y)) (h : zI2 lv st s f K) (hs : zSok sh s) (hl : zLok lv) (ht : zTok st) : zOut sh (kSi (zM lv) (zH s 0 sh) (kI2 (st.map zv) g)) K := by
  unfold zI2 at h
  split at h
  · rename_i y x r
    obtain ⟨h1, h2⟩ := hg x y ht.tl.hd ht.hd
    refine ⟨lv, .inl (f x y) :: r, s, ?_, h, hs, hl, ht.tl.tl.mk h2⟩
    show some (zM lv, g (Int32.ofInt x) (Int32.ofInt y) :: r.map zv, zH s 0 sh) = _
    rw [h1]; rfl
  · exact h.elim
theorem zJ2_ok {f : Int → Int → zV} {g : Int64 → Int64 → Value} (hg : ∀ x y, zR64 x → zR64 y → g (Int64.ofInt x) (Int64.ofInt y) = zv (f x y) ∧ zVok (f x y)) (h : zJ2 lv st s f K) (hs : zSok sh s) (hl : zLok lv) (ht : zTok st) : zOut sh (kSi (zM lv) (zH s 0 sh) (kJ2 (st.map zv) g)) K := by
  unfold zJ2 at h
  split at h
  · rename_i y x r
    obtain ⟨h1, h2⟩ := hg x y ht.tl.hd ht.hd
    refine ⟨lv, f x y :: r, s, ?_, h, hs, hl, ht.tl.tl.mk h2⟩
    show some (zM lv, g (Int64.ofInt x) (Int64.ofInt y) :: r.map zv, zH s 0 sh) = _
    rw [h1]; rfl
  · exact h.elim
theorem zDiv_ok {f : Int → Int → Int} {g : Int32 → Int32 → Int32} (hg : ∀ x y, zR x → zR y → g (Int32.ofInt x) (Int32.ofInt y) = Int32.ofInt (f x y) ∧ zR (f x y)) (h : zDiv lv st s f K) (hs : zSok sh s) (hl : zLok lv) (ht : zTok st) : zOut sh (kDiv (zM lv) (st.map zv) (zH s 0 sh) g) K := by
  unfold zDiv at h
  split at h
  · rename_i y x r
    split at h
    · exact h.elim
    · rename_i hy
      obtain ⟨h1, h2⟩ := hg x y ht.tl.hd ht.hd
      refine ⟨lv, .inl (f x y) :: r, s, ?_, h, hs, hl, ht.tl.tl.mk h2⟩
      show (if Int32.ofInt y = 0 then none else some (zM lv, Value.int (g (Int32.ofInt x) (Int32.ofInt y)) :: r.map zv, zH s 0 sh)) = _
      rw [if_neg (show ¬ Int32.ofInt y = 0 from fun e => hy ((z_eq ht.hd zR0).mp e)), h1]; rfl
  · exact h.elim
theorem zCat_ok {v : zV} (h : zCat v = true) : (zv v).category = 1 := by
  rcases v with x | q | x
  · rfl
  · rfl
  · cases h
theorem zDup_ok (h : zDup lv st s K) (hs : zSok sh s) (hl : zLok lv) (ht : zTok st) : zOut sh (kDup (zM lv) (st.map zv) (zH s 0 sh)) K := by
  unfold zDup at h
  split at h
  · rename_i v r
    cases hb : zCat v with
    | false => rw [hb] at h; exact h.elim
    | true =>
      rw [hb] at h
      refine ⟨lv, v :: v :: r, s, ?_, h, hs, hl, ht.mk ht.hd⟩
      show (if (zv v).category = 1 then _ else none) = _
      rw [if_pos (zCat_ok hb)]; rfl
  · exact h.elim
theorem zPop_ok (h : zPop lv st s K) (hs : zSok sh s) (hl : zLok lv) (ht : zTok st) : zOut sh (kPop (zM lv) (st.map zv) (zH s 0 sh)) K := by
  unfold zPop at h
  split at h
  · rename_i v r
    cases hb : zCat v with
    | false => rw [hb] at h; exact h.elim
    | true =>
      rw [hb] at h
      refine ⟨lv, r, s, ?_, h, hs, hl, ht.tl⟩
      show (if (zv v).category = 1 then _ else none) = _
      rw [if_pos (zCat_ok hb)]
  · exact h.elim
theorem zDup2_ok (h : zDup2 lv st s K) (hs : zSok sh s) (hl : zLok lv) (ht : zTok st) : zOut sh (kDup2 (zM lv) (st.map zv) (zH s 0 sh)) K := by
  unfold zDup2 at h
  split at h
  · rename_i v w r
    cases hb : zCat v && zCat w with
    | false => rw [hb] at h; exact h.elim
    | true =>
      rw [hb] at h
      obtain ⟨h1, h2⟩ := Bool.and_eq_true_iff.mp hb
      refine ⟨lv, v :: w :: v :: w :: r, s, ?_, h, hs, hl, (ht.mk ht.tl.hd).mk ht.hd⟩
      show (if (zv v).category = 1 ∧ (zv w).category = 1 then _ else none) = _
      rw [if_pos ⟨zCat_ok h1, zCat_ok h2⟩]; rfl
  · exact h.elim
theorem zOb_ok {q a b : Nat} {k : Option (Option Nat) → Prop} (h : zOb sh q a b k) : ∃ ss t, sh[q]? = some (.inr (a, ss)) ∧ ss[b]? = some t ∧ k t := by
  unfold zOb at h
  split at h
  · rename_i o ho
    cases hb : Nat.beq o.1 a with
    | false => rw [hb] at h; exact h.elim
    | true =>
      rw [hb] at h
      have ha : o.1 = a := Nat.eq_of_beq_eq_true hb
      dsimp only [cond] at h
      split at h
      · rename_i t ht
        exact ⟨o.2, t, by rw [ho, ← ha], ht, h⟩
      · exact h.elim
  · exact h.elim
theorem zLong_ob {q : Nat} {o : Nat × List (Option (Option Nat))} (h : sh[q]? = some (.inr o)) : zLong sh q = false := by unfold zLong; rw [h]
theorem zLong_ar {q t n : Nat} (h : sh[q]? = some (.inl (t, n))) : zLong sh q = Nat.beq t 1 := by unfold zLong; rw [h]
theorem kObj_zH {q a : Nat} {ss : List (Option (Option Nat))} (h : sh[q]? = some (.inr (a, ss))) : kObj (zH s 0 sh) q a = some (zSl (s q) 0 ss) := by
  unfold kObj
  rw [zH_at h]
  show (if a = a then _ else none) = _
  rw [if_pos rfl]
theorem zGet_ok {a b : Nat} (h : zGet sh lv st s a b K) (hs : zSok sh s) (hl : zLok lv) (ht : zTok st) : zOut sh (kGet (zM lv) (st.map zv) (zH s 0 sh) a b) K := by
  unfold zGet at h
  split at h
  · rename_i q r
    obtain ⟨ss, t, h1, h2, h3⟩ := zOb_ok h
    have hk : ∀ v : Value, zSv (s q) b t = v → kGet (zM lv) (List.map zv (.inr (.inl q) :: r)) (zH s 0 sh) a b = some (zM lv, v :: r.map zv, zH s 0 sh) := by
      intro v hv
      show (match kObj (zH s 0 sh) q a with
        | some fs => match fs[b]? with
          | some v => some (zM lv, v :: r.map zv, zH s 0 sh)
          | none => none
        | none => none) = _
      rw [kObj_zH h1]
      dsimp only
      rw [zSl_get, h2, Nat.zero_add, Option.map_some, hv]
    rcases t with _ | _ | x
    · exact ⟨lv, .inl (s q b) :: r, s, hk _ rfl, h3, hs, hl, ht.tl.mk ((hs q b).2 (zLong_ob h1))⟩
    · exact ⟨lv, .inr (.inl (s q b).toNat) :: r, s, hk _ rfl, h3, hs, hl, ht.tl.mk trivial⟩
    · exact ⟨lv, .inr (.inl x) :: r, s, hk _ rfl, h3, hs, hl, ht.tl.mk trivial⟩
  · exact h.elim
theorem kPut_zH {q a b : Nat} {z : Int} {r : List zV} {v : Value} {x : Int} {ss : List (Option (Option Nat))} {t : Option (Option Nat)} (h1 : sh[q]? = some (.inr (a, ss))) (h2 : ss[b]? = some t) (hf : kFit z v = true) (hv : zSv (fun k => if k = b then x else s q k) b t = v) :
    kPut (zM lv) (v :: List.map zv (.inr (.inl q) :: r)) (zH s 0 sh) a b z = some (zM lv, r.map zv, zH (zU s q b x) 0 sh) := by
  show (match kObj (zH s 0 sh) q a with
    | some fs => if b < fs.length ∧ kFit z v = true then some (zM lv, r.map zv, (zH s 0 sh).set q (.inr (a, fs.set b v))) else none
    | none => none) = _
  rw [kObj_zH h1]
  dsimp only
  rw [if_pos ⟨by rw [zSl_len]; exact (List.getElem?_eq_some_iff.mp h2).1, hf⟩, ← hv, zSl_put h2 (fun b' hb => if_neg hb)]
  have h5 := zH_put (s := s) (s' := zU s q b x) h1 (fun q' hq => zU_ne hq s b x)
  rw [zU_at] at h5
  rw [← h5]
  rfl
theorem zPut_ok {a b : Nat} {z : Int} (h : zPut sh lv st s a b z K) (hs : zSok sh s) (hl : zLok lv) (ht : zTok st) : zOut sh (kPut (zM lv) (st.map zv) (zH s 0 sh) a b z) K := by
  unfold zPut at h
  split at h
  · rename_i x q r
    obtain ⟨ss, t, h1, h2, h3⟩ := zOb_ok h
    have hR : zR x := ht.hd
    have hS : zSok sh (zU s q b x) := zSok_U hs ⟨fun e => ((by rw [zLong_ob h1] at e; cases e)), fun _ => hR⟩
    rcases t with _ | t
    · dsimp only at h3
      split at h3
      · exact ⟨lv, r, _, kPut_zH (z := 0) h1 h2 rfl (by show Value.int (Int32.ofInt (if b = b then x else s q b)) = _; rw [if_pos rfl]; rfl), h3, hS, hl, ht.tl.tl⟩
      · refine ⟨lv, r, _, kPut_zH (z := 1) h1 h2 ?_ (by show Value.int (Int32.ofInt (if b = b then x else s q b)) = _; rw [if_pos rfl]; rfl), h3.2, hS, hl, ht.tl.tl⟩
        rcases h3.1 with rfl | rfl <;> rfl
      · exact h3.elim
    · exact h3.elim
  · rename_i x q r
    obtain ⟨ss, t, h1, h2, h3⟩ := zOb_ok h
    rcases t with _ | _ | t
    · exact h3.elim
    · dsimp only at h3
      split at h3
      · cases hb : Nat.ble x 2147483647 with
        | false => rw [hb] at h3; exact h3.elim
        | true =>
          rw [hb] at h3
          have hx := Nat.le_of_ble_eq_true hb
          refine ⟨lv, r, _, kPut_zH (z := 2) h1 h2 rfl (by show Value.ref (if b = b then (x : Int) else s q b).toNat = _; rw [if_pos rfl]; rfl), h3, zSok_U hs ⟨fun e => ((by rw [zLong_ob h1] at e; cases e)), fun _ => ⟨by omega, by omega⟩⟩, hl, ht.tl.tl⟩
      · exact h3.elim
    · exact h3.elim
  · exact h.elim
theorem zAr_ok {q t : Nat} {k : Nat → Prop} (h : zAr sh q t k) : ∃ n, sh[q]? = some (.inl (t, n)) ∧ k n := by
  unfold zAr at h
  split at h
  · rename_i x hx
    cases hb : Nat.beq x.1 t with
    | false => rw [hb] at h; exact h.elim
    | true =>
      rw [hb] at h
      have ht : x.1 = t := Nat.eq_of_beq_eq_true hb
      exact ⟨x.2, by rw [hx, ← ht], h⟩
  · exact h.elim
theorem kArr_zH {q t n : Nat} (h : sh[q]? = some (.inl (t, n))) (ht : t ≠ 1) : kArr (zH s 0 sh) q t = some (n, fun j => Int32.ofInt (s q j)) := by
  unfold kArr
  rw [zH_at h]
  show (if t = t then (match (if t = 1 then Sum.inr (Sum.inl (fun j => Int64.ofInt (s q j))) else Sum.inl (fun j => Int32.ofInt (s q j)) : (Nat → Int32) ⊕ (Nat → Int64) ⊕ (Nat → UInt32) ⊕ (Nat → UInt64) ⊕ (Nat → Option Nat)) with
    | .inl f => some (n, f)
    | _ => none) else none) = _
  rw [if_pos rfl, if_neg ht]
theorem kArrL_zH {q n : Nat} (h : sh[q]? = some (.inl (1, n))) : kArrL (zH s 0 sh) q = some (n, fun j => Int64.ofInt (s q j)) := by
  unfold kArrL
  rw [zH_at h]
  rfl
theorem zCe_i {t n : Nat} (ht : t ≠ 1) (f : Nat → Int) : zCe f (.inl (t, n)) = .inl (t, n, .inl (fun j => Int32.ofInt (f j))) := by
  unfold zCe
  dsimp only
  rw [if_neg ht]
theorem zAl_ok (h : zAl sh ro lv st s K) (hs : zSok sh s) (hl : zLok lv) (ht : zTok st) : zOut sh (kAl (zM lv) (st.map zv) (zH s 0 sh) (zro ro)) K := by
  unfold zAl at h
  split at h
  · rename_i q r
    have hk : ∀ n : Nat, kLen (zro ro) (zH s 0 sh) q = some n → Nat.ble n 2147483647 = true → K lv (.inl (n : Int) :: r) s → zOut sh (kAl (zM lv) (List.map zv (.inr (.inl q) :: r)) (zH s 0 sh) (zro ro)) K := by
      intro n hn hb hK
      have hx := Nat.le_of_ble_eq_true hb
      refine ⟨lv, .inl (n : Int) :: r, s, ?_, hK, hs, hl, ht.tl.mk ⟨by omega, by omega⟩⟩
      show (match kLen (zro ro) (zH s 0 sh) q with
        | some n => some (zM lv, Value.int (Int32.ofNat n) :: r.map zv, zH s 0 sh)
        | none => none) = _
      rw [hn]
      dsimp only
      rw [← Int32.ofInt_eq_ofNat]; rfl
    split at h
    · rename_i l hr
      cases hb : Nat.ble l.length 2147483647 with
      | false => rw [hb] at h; exact h.elim
      | true =>
        rw [hb] at h
        refine hk l.length ?_ hb h
        unfold kLen zro
        rw [hr]; rfl
    · rename_i hr
      split at h
      · rename_i x hx
        cases hb : Nat.ble x.2 2147483647 && Nat.blt x.1 5 with
        | false => rw [hb] at h; exact h.elim
        | true =>
          rw [hb] at h
          obtain ⟨b1, b2⟩ := Bool.and_eq_true_iff.mp hb
          refine hk x.2 ?_ b1 h
          unfold kLen zro
          rw [hr, zH_at hx]
          show (if x.1 < 5 then some x.2 else none) = _
          rw [if_pos (z_blt b2)]
      · exact h.elim
  · exact h.elim
theorem zAi_ok (hro : ∀ q l, ro q = some l → ∀ k, zR (l.getD k 0)) (h : zAi sh ro lv st s K) (hs : zSok sh s) (hl : zLok lv) (ht : zTok st) : zOut sh (kAi (zM lv) (st.map zv) (zH s 0 sh) (zro ro)) K := by
  unfold zAi at h
  split at h
  · rename_i j q r
    have hj : zR j := ht.hd
    have hk : ∀ (n : Nat) (f : Nat → Int), kRd (zro ro) (zH s 0 sh) q = some (n, fun k => Int32.ofInt (f k)) → zR (f j.toNat) → (0 ≤ j ∧ j < (n : Int) ∧ K lv (.inl (f j.toNat) :: r) s) → zOut sh (kAi (zM lv) (List.map zv (.inl j :: .inr (.inl q) :: r)) (zH s 0 sh) (zro ro)) K := by
      intro n f hn hf hK
      refine ⟨lv, .inl (f j.toNat) :: r, s, ?_, hK.2.2, hs, hl, ht.tl.tl.mk hf⟩
      show (match kRd (zro ro) (zH s 0 sh) q with
        | some x => if Int32.ofInt j < 0 ∨ x.1 ≤ (Int32.ofInt j).toNatClampNeg then none else some (zM lv, Value.int (x.2 (Int32.ofInt j).toNatClampNeg) :: r.map zv, zH s 0 sh)
        | none => none) = _
      rw [hn]
      dsimp only
      rw [if_neg (z_in hj ⟨hK.1, hK.2.1⟩), z_nat hj]; rfl
    unfold zRd at h
    split at h
    · rename_i l hr
      refine hk l.length (fun j => l.getD j 0) ?_ (hro q l hr _) h
      unfold kRd zro
      rw [hr]; rfl
    · rename_i hr
      obtain ⟨n, h1, h2⟩ := zAr_ok h
      refine hk n (s q) ?_ ((hs q _).2 (by rw [zLong_ar h1]; rfl)) h2
      unfold kRd zro
      rw [hr]
      exact kArr_zH h1 (by decide)
  · exact h.elim
theorem zAt_ok {t : Nat} (h : zAt sh lv st s t K) (hs : zSok sh s) (hl : zLok lv) (ht : zTok st) : zOut sh (kAt (zM lv) (st.map zv) (zH s 0 sh) t) K := by
  unfold zAt at h
  split at h
  · rename_i j q r
    have hj : zR j := ht.hd
    cases hb : Nat.beq t 1 with
    | true => rw [hb] at h; exact h.elim
    | false =>
      rw [hb, cond_false] at h
      have ht1 : t ≠ 1 := Nat.ne_of_beq_eq_false hb
      obtain ⟨n, h1, h2⟩ := zAr_ok h
      refine ⟨lv, .inl (s q j.toNat) :: r, s, ?_, h2.2.2, hs, hl, ht.tl.tl.mk ((hs q _).2 (by rw [zLong_ar h1]; exact hb))⟩
      show (match kArr (zH s 0 sh) q t with
        | some x => if Int32.ofInt j < 0 ∨ x.1 ≤ (Int32.ofInt j).toNatClampNeg then none else some (zM lv, Value.int (x.2 (Int32.ofInt j).toNatClampNeg) :: r.map zv, zH s 0 sh)
        | none => none) = _
      rw [kArr_zH h1 ht1]
      dsimp only
      rw [if_neg (z_in hj ⟨h2.1, h2.2.1⟩), z_nat hj]; rfl
  · exact h.elim
theorem zAj_ok (h : zAj sh lv st s K) (hs : zSok sh s) (hl : zLok lv) (ht : zTok st) : zOut sh (kAj (zM lv) (st.map zv) (zH s 0 sh)) K := by
  unfold zAj at h
  split at h
  · rename_i j q r
    have hj : zR j := ht.hd
    obtain ⟨n, h1, h2⟩ := zAr_ok h
    refine ⟨lv, .inr (.inr (s q j.toNat)) :: r, s, ?_, h2.2.2, hs, hl, ht.tl.tl.mk ((hs q _).1 (by rw [zLong_ar h1]; rfl))⟩
    show (match kArrL (zH s 0 sh) q with
      | some x => if Int32.ofInt j < 0 ∨ x.1 ≤ (Int32.ofInt j).toNatClampNeg then none else some (zM lv, Value.long (x.2 (Int32.ofInt j).toNatClampNeg) :: r.map zv, zH s 0 sh)
      | none => none) = _
    rw [kArrL_zH h1]
    dsimp only
    rw [if_neg (z_in hj ⟨h2.1, h2.2.1⟩), z_nat hj]; rfl
  · exact h.elim
theorem zBt_ok {t : Nat} {g : Int → Int} {g' : Int32 → Int32} (hg : ∀ v, zR v → g' (Int32.ofInt v) = Int32.ofInt (g v) ∧ zR (g v)) (h : zBt sh lv st s t g K) (hs : zSok sh s) (hl : zLok lv) (ht : zTok st) : zOut sh (kBt (zM lv) (st.map zv) (zH s 0 sh) t g') K := by
  unfold zBt at h
  split at h
  · rename_i v j q r
    have hj : zR j := ht.tl.hd
    obtain ⟨g1, g2⟩ := hg v ht.hd
    cases hb : Nat.beq t 1 with
    | true => rw [hb] at h; exact h.elim
    | false =>
      rw [hb, cond_false] at h
      have ht1 : t ≠ 1 := Nat.ne_of_beq_eq_false hb
      obtain ⟨n, h1, h2⟩ := zAr_ok h
      refine ⟨lv, r, zU s q j.toNat (g v), ?_, h2.2.2, zSok_U hs ⟨fun e => ((by rw [zLong_ar h1, hb] at e; cases e)), fun _ => g2⟩, hl, ht.tl.tl.tl⟩
      show (match kArr (zH s 0 sh) q t with
        | some x => if Int32.ofInt j < 0 ∨ x.1 ≤ (Int32.ofInt j).toNatClampNeg then none else some (zM lv, r.map zv, (zH s 0 sh).set q (.inl (t, x.1, .inl (upd x.2 (Int32.ofInt j).toNatClampNeg (g' (Int32.ofInt v))))))
        | none => none) = _
      rw [kArr_zH h1 ht1]
      dsimp only
      rw [if_neg (z_in hj ⟨h2.1, h2.2.1⟩), z_nat hj, g1]
      have h5 := zH_put (s := s) (s' := zU s q j.toNat (g v)) h1 (fun q' hq => zU_ne hq s _ _)
      rw [zU_at, zCe_i ht1] at h5
      rw [← h5]
      have h6 : upd (fun j => Int32.ofInt (s q j)) j.toNat (Int32.ofInt (g v)) = fun k' => Int32.ofInt (if k' = j.toNat then g v else s q k') := by
        funext k'
        unfold upd
        split <;> rfl
      rw [h6]
  · exact h.elim
theorem zBj_ok (h : zBj sh lv st s K) (hs : zSok sh s) (hl : zLok lv) (ht : zTok st) : zOut sh (kBj (zM lv) (st.map zv) (zH s 0 sh)) K := by
  unfold zBj at h
  split at h
  · rename_i v j q r
    have hj : zR j := ht.tl.hd
    have hv : zR64 v := ht.hd
    obtain ⟨n, h1, h2⟩ := zAr_ok h
    refine ⟨lv, r, zU s q j.toNat v, ?_, h2.2.2, zSok_U hs ⟨fun _ => hv, fun e => ((by rw [zLong_ar h1] at e; cases e))⟩, hl, ht.tl.tl.tl⟩
    show (match kArrL (zH s 0 sh) q with
      | some x => if Int32.ofInt j < 0 ∨ x.1 ≤ (Int32.ofInt j).toNatClampNeg then none else some (zM lv, r.map zv, (zH s 0 sh).set q (.inl (1, x.1, .inr (.inl (vp_updL x.2 (Int32.ofInt j).toNatClampNeg (Int64.ofInt v))))))
      | none => none) = _
    rw [kArrL_zH h1]
    dsimp only
    rw [if_neg (z_in hj ⟨h2.1, h2.2.1⟩), z_nat hj]
    have h5 := zH_put (s := s) (s' := zU s q j.toNat v) h1 (fun q' hq => zU_ne hq s _ _)
    rw [zU_at] at h5
    rw [← h5]
    have h6 : vp_updL (fun j => Int64.ofInt (s q j)) j.toNat (Int64.ofInt v) = fun k' => Int64.ofInt (if k' = j.toNat then v else s q k') := by
      funext k'
      unfold vp_updL
      split <;> rfl
    rw [h6]
    rfl
  · exact h.elim
theorem zSok_F {q : Nat} {f : Nat → Int} (hs : zSok sh s) (hv : ∀ k, (zLong sh q = true → zR64 (f k)) ∧ (zLong sh q = false → zR (f k))) : zSok sh (zF s q f) := by
  intro q' j
  by_cases hq : q' = q
  · subst hq
    rw [zF_at]
    exact hv j
  · rw [zF_ne hq]
    exact hs q' j
theorem z_pos {x : Int} (hx : zR x) (h : 0 ≤ x) : ¬ Int32.ofInt x < 0 := by
  rw [show (0 : Int32) = Int32.ofInt 0 from rfl, z_lt hx zR0]
  omega
theorem zCpI_ok (h : zCp sh lv st s 0 K) (hs : zSok sh s) (hl : zLok lv) (ht : zTok st) : zOut sh (kCpI (zM lv) (st.map zv) (zH s 0 sh)) K := by
  unfold zCp at h
  split at h
  · rename_i n dp q1 sp q0 r
    have hn : zR n := ht.hd
    have hd : zR dp := ht.tl.hd
    have hsp : zR sp := ht.tl.tl.tl.hd
    cases hb : Nat.ble r.length 4 with
    | false => rw [hb] at h; exact h.elim
    | true =>
      rw [hb, cond_true] at h
      have hr := Nat.le_of_ble_eq_true hb
      obtain ⟨x, h1, h⟩ := zAr_ok h
      obtain ⟨y, h2, c1, c2, c3, c4, c5, h⟩ := zAr_ok h
      have hL1 : zLong sh q0 = false := by rw [zLong_ar h1]; rfl
      have hL2 : zLong sh q1 = false := by rw [zLong_ar h2]; rfl
      refine ⟨lv, r, _, ?_, h, zSok_F hs (fun k => ⟨fun e => (by rw [hL2] at e; cases e), fun _ => ?_⟩), hl, ht.tl.tl.tl.tl.tl⟩
      · show (match kArr (zH s 0 sh) q0 0, kArr (zH s 0 sh) q1 0 with
          | some x, some y => if (r.map zv).length ≤ 4 ∧ ¬ Int32.ofInt sp < 0 ∧ ¬ Int32.ofInt dp < 0 ∧ ¬ Int32.ofInt n < 0 ∧ (Int32.ofInt sp).toNatClampNeg + (Int32.ofInt n).toNatClampNeg ≤ x.1 ∧ (Int32.ofInt dp).toNatClampNeg + (Int32.ofInt n).toNatClampNeg ≤ y.1 then some (zM lv, r.map zv, (zH s 0 sh).set q1 (.inl (0, y.1, .inl (va_cpy x.2 y.2 (Int32.ofInt sp).toNatClampNeg (Int32.ofInt dp).toNatClampNeg (Int32.ofInt n).toNatClampNeg)))) else none
          | _, _ => none) = _
        rw [kArr_zH h1 (by decide), kArr_zH h2 (by decide)]
        dsimp only
        rw [z_nat hsp, z_nat hd, z_nat hn, if_pos ⟨by rw [List.length_map]; exact hr, z_pos hsp c1, z_pos hd c2, z_pos hn c3, by omega, by omega⟩]
        have h5 := zH_put (s := s) (s' := zF s q1 (zCpF (s q0) (s q1) sp.toNat dp.toNat n.toNat)) h2 (fun q' hq => zF_ne hq s _)
        rw [zF_at, zCe_i (by decide)] at h5
        rw [← h5]
        have h6 : va_cpy (fun j => Int32.ofInt (s q0 j)) (fun j => Int32.ofInt (s q1 j)) sp.toNat dp.toNat n.toNat = fun k => Int32.ofInt (zCpF (s q0) (s q1) sp.toNat dp.toNat n.toNat k) := by
          funext k
          unfold va_cpy zCpF
          split <;> rfl
        rw [h6]
      · unfold zCpF
        split
        · exact (hs q0 _).2 hL1
        · exact (hs q1 _).2 hL2
  · exact h.elim
theorem zCpL_ok (h : zCp sh lv st s 1 K) (hs : zSok sh s) (hl : zLok lv) (ht : zTok st) : zOut sh (kCpL (zM lv) (st.map zv) (zH s 0 sh)) K := by
  unfold zCp at h
  split at h
  · rename_i n dp q1 sp q0 r
    have hn : zR n := ht.hd
    have hd : zR dp := ht.tl.hd
    have hsp : zR sp := ht.tl.tl.tl.hd
    cases hb : Nat.ble r.length 4 with
    | false => rw [hb] at h; exact h.elim
    | true =>
      rw [hb, cond_true] at h
      have hr := Nat.le_of_ble_eq_true hb
      obtain ⟨x, h1, h⟩ := zAr_ok h
      obtain ⟨y, h2, c1, c2, c3, c4, c5, h⟩ := zAr_ok h
      have hL1 : zLong sh q0 = true := by rw [zLong_ar h1]; rfl
      have hL2 : zLong sh q1 = true := by rw [zLong_ar h2]; rfl
      refine ⟨lv, r, _, ?_, h, zSok_F hs (fun k => ⟨fun _ => ?_, fun e => (by rw [hL2] at e; cases e)⟩), hl, ht.tl.tl.tl.tl.tl⟩
      · show (match kArrL (zH s 0 sh) q0, kArrL (zH s 0 sh) q1 with
          | some x, some y => if (r.map zv).length ≤ 4 ∧ ¬ Int32.ofInt sp < 0 ∧ ¬ Int32.ofInt dp < 0 ∧ ¬ Int32.ofInt n < 0 ∧ (Int32.ofInt sp).toNatClampNeg + (Int32.ofInt n).toNatClampNeg ≤ x.1 ∧ (Int32.ofInt dp).toNatClampNeg + (Int32.ofInt n).toNatClampNeg ≤ y.1 then some (zM lv, r.map zv, (zH s 0 sh).set q1 (.inl (1, y.1, .inr (.inl (va_cpy x.2 y.2 (Int32.ofInt sp).toNatClampNeg (Int32.ofInt dp).toNatClampNeg (Int32.ofInt n).toNatClampNeg))))) else none
          | _, _ => none) = _
        rw [kArrL_zH h1, kArrL_zH h2]
        dsimp only
        rw [z_nat hsp, z_nat hd, z_nat hn, if_pos ⟨by rw [List.length_map]; exact hr, z_pos hsp c1, z_pos hd c2, z_pos hn c3, by omega, by omega⟩]
        have h5 := zH_put (s := s) (s' := zF s q1 (zCpF (s q0) (s q1) sp.toNat dp.toNat n.toNat)) h2 (fun q' hq => zF_ne hq s _)
        rw [zF_at] at h5
        rw [← h5]
        have h6 : va_cpy (fun j => Int64.ofInt (s q0 j)) (fun j => Int64.ofInt (s q1 j)) sp.toNat dp.toNat n.toNat = fun k => Int64.ofInt (zCpF (s q0) (s q1) sp.toNat dp.toNat n.toNat k) := by
          funext k
          unfold va_cpy zCpF
          split <;> rfl
        rw [h6]
        rfl
      · unfold zCpF
        split
        · exact (hs q0 _).1 hL1
        · exact (hs q1 _).1 hL2
  · exact h.elim
theorem zMx_ok {f : Int → Int → Int} {g : Int32 → Int32 → Int32} (hg : ∀ x y, zR x → zR y → g (Int32.ofInt x) (Int32.ofInt y) = Int32.ofInt (f x y) ∧ zR (f x y)) (h : zMx lv st s f K) (hs : zSok sh s) (hl : zLok lv) (ht : zTok st) : zOut sh (kMx (zM lv) (st.map zv) (zH s 0 sh) g) K := by
  unfold zMx at h
  split at h
  · rename_i y x r
    cases hb : Nat.ble r.length 4 with
    | false => rw [hb] at h; exact h.elim
    | true =>
      rw [hb] at h
      have hr := Nat.le_of_ble_eq_true hb
      obtain ⟨h1, h2⟩ := hg x y ht.tl.hd ht.hd
      refine ⟨lv, .inl (f x y) :: r, s, ?_, h, hs, hl, ht.tl.tl.mk h2⟩
      show (if (r.map zv).length ≤ 4 then some (zM lv, Value.int (g (Int32.ofInt x) (Int32.ofInt y)) :: r.map zv, zH s 0 sh) else none) = _
      rw [if_pos (by rw [List.length_map]; exact hr), h1]; rfl
  · exact h.elim
theorem zNat_ok {a : Nat} (h : zNat sh lv st s a K) (hs : zSok sh s) (hl : zLok lv) (ht : zTok st) : zOut sh (kNat (zM lv) (st.map zv) (zH s 0 sh) a) K := by
  unfold zNat at h
  split at h
  · refine zMx_ok (fun x y hx hy => ?_) h hs hl ht
    by_cases hc : x < y
    · rw [if_pos ((z_lt hx hy).mpr hc), Int.max_eq_right (Int.le_of_lt hc)]; exact ⟨rfl, hy⟩
    · rw [if_neg (fun e => hc ((z_lt hx hy).mp e)), Int.max_eq_left (Int.not_lt.mp hc)]; exact ⟨rfl, hx⟩
  · refine zMx_ok (fun x y hx hy => ?_) h hs hl ht
    by_cases hc : y < x
    · rw [if_pos ((z_lt hy hx).mpr hc), Int.min_eq_right (Int.le_of_lt hc)]; exact ⟨rfl, hy⟩
    · rw [if_neg (fun e => hc ((z_lt hy hx).mp e)), Int.min_eq_left (Int.not_lt.mp hc)]; exact ⟨rfl, hx⟩
  · exact zCpI_ok h hs hl ht
  · exact zCpL_ok h hs hl ht
  · exact h.elim
theorem z_toI {x : Int32} : Int32.ofInt x.toInt = x := Int32.ofInt_toInt x
theorem z_w8 {x : Int} (hx : zR x) : (Int32.ofInt x).toInt8.toInt32 = Int32.ofInt (w8 x) ∧ zR (w8 x) := by
  have h2 : zR (w8 x) := by unfold w8 zR; omega
  refine ⟨?_, h2⟩
  rw [← Int32.toInt_inj, z32 h2, Int8.toInt_toInt32, Int32.toInt_toInt8, z32 hx, w8_bmod]
theorem z_w16 {x : Int} (hx : zR x) : (Int32.ofInt x).toInt16.toInt32 = Int32.ofInt (w16 x) ∧ zR (w16 x) := by
  have h2 : zR (w16 x) := by unfold w16 zR; omega
  refine ⟨?_, h2⟩
  rw [← Int32.toInt_inj, z32 h2, Int16.toInt_toInt32, Int32.toInt_toInt16, z32 hx, w16_bmod]
theorem z_div {x y : Int} (hx : zR x) (hy : zR y) : Int32.ofInt x / Int32.ofInt y = Int32.ofInt (x.tdiv y) := by
  rw [← Int32.toInt_inj, Int32.toInt_div, z32 hx, z32 hy, z32w, wr_bmod]
theorem z_mod {x y : Int} (hx : zR x) (hy : zR y) : Int32.ofInt x - Int32.ofInt x / Int32.ofInt y * Int32.ofInt y = Int32.ofInt (x.tmod y) := by
  rw [z_div hx hy, ← Int32.ofInt_mul, ← Int32.ofInt_sub, Int.tmod_def, Int.mul_comm y]
theorem zR64_32 {x : Int} (h : zR x) : zR64 x := by unfold zR at h; unfold zR64; omega
theorem z_i2l {x : Int} (hx : zR x) : (Int32.ofInt x).toInt64 = Int64.ofInt x := by
  rw [← Int64.toInt_inj, Int32.toInt_toInt64, z32 hx, z64 (zR64_32 hx)]
theorem zS_ok (hro : ∀ q l, ro q = some l → ∀ k, zR (l.getD k 0)) {i : Instr} {a b : Nat} {z : Int} (h : zS sh ro i a b z lv st s K) (hs : zSok sh s) (hl : zLok lv) (ht : zTok st) : zOut sh (kS (zro ro) i a b z (zM lv) (st.map zv) (zH s 0 sh)) K := by
  cases i
  case iconst n => exact zPush_ok (v := .inl n) (fun e => zRb_ok e) h hs hl ht
  case bipush n => exact zPush_ok (v := .inl n) (fun e => zRb_ok e) h hs hl ht
  case sipush n => exact zPush_ok (v := .inl n) (fun e => zRb_ok e) h hs hl ht
  case lconst n =>
    have h2 := zPush_ok (v := .inr (.inr ((n : Nat) : Int))) (b := Nat.ble n 1) (fun e => by have := Nat.le_of_ble_eq_true e; exact ⟨by omega, by omega⟩) h hs hl ht
    have h3 : zv (.inr (.inr ((n : Nat) : Int))) = .long (Int64.ofNat (n : Nat)) := by
      show Value.long (Int64.ofInt ((n : Nat) : Int)) = _
      rw [Int64.ofInt_eq_ofNat]
    rw [h3] at h2
    exact h2
  case ldc n => exact zPush_ok (v := .inl z) (fun e => zRb_ok e) h hs hl ht
  case ldc_w n => exact zPush_ok (v := .inl z) (fun e => zRb_ok e) h hs hl ht
  case ldc2_w n => exact zPush_ok (v := .inr (.inr z)) (fun e => zRb64_ok e) h hs hl ht
  case iload_n k => exact zPi_ok h hs hl ht
  case iload k => exact zPi_ok h hs hl ht
  case lload_n k => exact zPl_ok h hs hl ht
  case lload k => exact zPl_ok h hs hl ht
  case aload_n k => exact zPa_ok h hs hl ht
  case aload k => exact zPa_ok h hs hl ht
  case istore_n k => exact zTi_ok h hs hl ht
  case istore k => exact zTi_ok h hs hl ht
  case astore_n k => exact zTa_ok h hs hl ht
  case lstore k => exact zTl_ok h hs hl ht
  case iinc k n => exact zInc_ok h hs hl ht
  case iadd => exact zI2_ok (f := fun x y => wr (x + y)) (fun x y _ _ => ⟨by rw [zof_wr, Int32.ofInt_add], wr_R _⟩) h hs hl ht
  case isub => exact zI2_ok (f := fun x y => wr (x - y)) (fun x y _ _ => ⟨by rw [zof_wr, Int32.ofInt_sub], wr_R _⟩) h hs hl ht
  case imul => exact zI2_ok (f := fun x y => wr (x * y)) (fun x y _ _ => ⟨by rw [zof_wr, Int32.ofInt_mul], wr_R _⟩) h hs hl ht
  case iand => exact zI2_ok (f := zAnd) (fun x y _ _ => ⟨by unfold zAnd; rw [z_toI], zR_of _⟩) h hs hl ht
  case ior => exact zI2_ok (f := zOr) (fun x y _ _ => ⟨by unfold zOr; rw [z_toI], zR_of _⟩) h hs hl ht
  case ixor => exact zI2_ok (f := zXor) (fun x y _ _ => ⟨by unfold zXor; rw [z_toI], zR_of _⟩) h hs hl ht
  case ishl => exact zI2_ok (f := zShl) (fun x y _ _ => ⟨by unfold zShl; rw [z_toI], zR_of _⟩) h hs hl ht
  case iushr => exact zI2_ok (f := zUsh) (fun x y _ _ => ⟨by unfold zUsh; rw [z_toI], zR_of _⟩) h hs hl ht
  case idiv => exact zDiv_ok (f := fun x y => wr (x.tdiv y)) (fun x y hx hy => ⟨by rw [zof_wr, z_div hx hy], wr_R _⟩) h hs hl ht
  case irem => exact zDiv_ok (f := fun x y => wr (x.tmod y)) (fun x y hx hy => ⟨by rw [zof_wr, z_mod hx hy], wr_R _⟩) h hs hl ht
  case ineg => exact zI1_ok (f := fun x => .inl (wr (-x))) (fun x _ => ⟨by show _ = Value.int (Int32.ofInt (wr (-x))); rw [zof_wr, Int32.ofInt_neg], wr_R _⟩) h hs hl ht
  case i2l => exact zI1_ok (f := fun x => .inr (.inr x)) (fun x hx => ⟨by show _ = Value.long (Int64.ofInt x); rw [z_i2l hx], zR64_32 hx⟩) h hs hl ht
  case i2b => exact zI1_ok (f := fun x => .inl (w8 x)) (fun x hx => ⟨by show _ = Value.int (Int32.ofInt (w8 x)); rw [(z_w8 hx).1], (z_w8 hx).2⟩) h hs hl ht
  case i2s => exact zI1_ok (f := fun x => .inl (w16 x)) (fun x hx => ⟨by show _ = Value.int (Int32.ofInt (w16 x)); rw [(z_w16 hx).1], (z_w16 hx).2⟩) h hs hl ht
  case l2i =>
    simp only [zS] at h
    split at h
    · rename_i x r
      refine ⟨lv, .inl (wr x) :: r, s, ?_, h, hs, hl, ht.tl.mk (wr_R x)⟩
      show some (zM lv, Value.int (Int64.ofInt x).toInt32 :: r.map zv, zH s 0 sh) = some (zM lv, Value.int (Int32.ofInt (wr x)) :: r.map zv, zH s 0 sh)
      rw [zof_wr, Int64.toInt32_ofInt]
    · exact h.elim
  case ladd => exact zJ2_ok (f := fun x y => .inr (.inr (wl (x + y)))) (fun x y _ _ => ⟨by show _ = Value.long (Int64.ofInt (wl (x + y))); rw [zof_wl, Int64.ofInt_add], wl_R _⟩) h hs hl ht
  case land => exact zJ2_ok (f := fun x y => .inr (.inr (zAndL x y))) (fun x y _ _ => ⟨by show _ = Value.long (Int64.ofInt (zAndL x y)); unfold zAndL; rw [Int64.ofInt_toInt], zR64_of _⟩) h hs hl ht
  case lor => exact zJ2_ok (f := fun x y => .inr (.inr (zOrL x y))) (fun x y _ _ => ⟨by show _ = Value.long (Int64.ofInt (zOrL x y)); unfold zOrL; rw [Int64.ofInt_toInt], zR64_of _⟩) h hs hl ht
  case lcmp =>
    refine zJ2_ok (f := fun x y => .inl (if y < x then 1 else if x = y then 0 else -1)) (fun x y hx hy => ⟨?_, ?_⟩) h hs hl ht
    · show Value.int (lg_cmp (Int64.ofInt x) (Int64.ofInt y)) = Value.int (Int32.ofInt (if y < x then 1 else if x = y then 0 else -1))
      unfold lg_cmp
      by_cases h1 : y < x
      · rw [if_pos h1, if_pos (show Int64.ofInt x > Int64.ofInt y from (z_lt64 hy hx).mpr h1)]; rfl
      · rw [if_neg h1, if_neg (show ¬ Int64.ofInt x > Int64.ofInt y from fun e => h1 ((z_lt64 hy hx).mp e))]
        by_cases h2 : x = y
        · rw [if_pos h2, if_pos ((z_eq64 hx hy).mpr h2)]; rfl
        · rw [if_neg h2, if_neg (fun e => h2 ((z_eq64 hx hy).mp e))]; rfl
    · show zR (if y < x then 1 else if x = y then 0 else -1)
      unfold zR
      split
      · omega
      · split <;> omega
  case lshl =>
    simp only [zS] at h
    split at h
    · rename_i y x r
      refine ⟨lv, .inr (.inr (zShlL x y)) :: r, s, ?_, h, hs, hl, ht.tl.tl.mk (zR64_of _)⟩
      show some (zM lv, Value.long (Int64.ofInt x <<< ((Int32.ofInt y).toInt64 &&& 63)) :: r.map zv, zH s 0 sh) = some (zM lv, Value.long (Int64.ofInt (zShlL x y)) :: r.map zv, zH s 0 sh)
      unfold zShlL
      rw [Int64.ofInt_toInt]
    · exact h.elim
  case dup => exact zDup_ok h hs hl ht
  case pop => exact zPop_ok h hs hl ht
  case dup2 => exact zDup2_ok h hs hl ht
  case getfield n => exact zGet_ok h hs hl ht
  case putfield n => exact zPut_ok h hs hl ht
  case getstatic n => exact ⟨lv, .inr (.inl a) :: st, s, rfl, h, hs, hl, ht.mk trivial⟩
  case arraylength => exact zAl_ok h hs hl ht
  case iaload => exact zAi_ok hro h hs hl ht
  case baload => exact zAt_ok h hs hl ht
  case saload => exact zAt_ok h hs hl ht
  case laload => exact zAj_ok h hs hl ht
  case iastore => exact zBt_ok (g := fun x => x) (g' := fun x => x) (fun v hv => ⟨rfl, hv⟩) h hs hl ht
  case bastore =>
    simp only [zS] at h
    split at h
    · exact zBt_ok (g := w8) (g' := fun x => vp_nar (kBy 2) x) (fun v hv => z_w8 hv) h hs hl ht
    · exact zBt_ok (g := zBz) (g' := fun x => vp_nar (kBy 3) x) (fun v _ => ⟨by show Int32.ofInt v &&& 1 = Int32.ofInt (zAnd v 1); unfold zAnd; rw [z_toI]; rfl, zR_of _⟩) h hs hl ht
    · exact h.elim
  case sastore => exact zBt_ok (g := w16) (g' := fun x => vp_nar .short x) (fun v hv => z_w16 hv) h hs hl ht
  case lastore => exact zBj_ok h hs hl ht
  case invokestatic n => exact zNat_ok h hs hl ht
  all_goals exact h.elim
def zRes (sh : List zC) (o : Option kR) (Q : zQ) : Prop := ∃ r s, o = some (r.map zv, zH s 0 sh) ∧ zSok sh s ∧ (∀ v, r = some v → zVok v) ∧ Q r s
theorem zCm_ok {c : ClassFile.Cond} {x y : Int} (hx : zR x) (hy : zR y) : kCm c (Int32.ofInt x) (Int32.ofInt y) = true ↔ zCm c x y := by
  cases c
  case eq => exact decide_eq_true_iff.trans (z_eq hx hy)
  case ne => exact decide_eq_true_iff.trans (not_congr (z_eq hx hy))
  case lt => exact decide_eq_true_iff.trans (z_lt hx hy)
  case ge => exact decide_eq_true_iff.trans (z_le hy hx)
  case gt => exact decide_eq_true_iff.trans (z_lt hy hx)
  case le => exact decide_eq_true_iff.trans (z_le hx hy)
theorem zCd_ok {i : Instr} {k : Prop → List zV → Prop} (h : zCd i st k) (ht : zTok st) : ∃ (c : Prop) (b : Bool) (r : List zV), kCd i (st.map zv) = some (b, r.map zv) ∧ (b = true ↔ c) ∧ k c r ∧ zTok r := by
  cases i
  case ifCond c off =>
    simp only [zCd] at h
    split at h
    · rename_i x r
      exact ⟨_, _, r, rfl, zCm_ok ht.hd zR0, h, ht.tl⟩
    · exact h.elim
  case if_icmp c off =>
    simp only [zCd] at h
    split at h
    · rename_i y x r
      exact ⟨_, _, r, rfl, zCm_ok ht.tl.hd ht.hd, h, ht.tl.tl⟩
    · exact h.elim
  all_goals exact h.elim
theorem zSw_ok {k : Nat → Prop} {kk : Nat → Option kR} {P : Option kR → Prop} (hk : ∀ t, k t → P (kk t)) {x : Int} (hx : zR x) {d : Nat} : ∀ (sw : List (Int32 × Nat)), zSw k x d sw → P (kSw kk (Int32.ofInt x) d sw)
  | [], h => hk d h
  | q :: r, h => by
    unfold kSw
    have hq : Int32.ofInt x = q.1 ↔ x = q.1.toInt := by
      rw [← Int32.toInt_inj, z32 hx]
    by_cases hc : x = q.1.toInt
    · rw [if_pos (hq.mpr hc)]; exact hk _ (h.1 hc)
    · rw [if_neg (fun e => hc (hq.mp e))]; exact zSw_ok hk hx r (h.2 hc)
theorem zRt_ok {i : Instr} {a : Nat} {Q : zQ} (h : zRt i a st s Q) (hs : zSok sh s) (ht : zTok st) : zRes sh (kRt i a (st.map zv) (zH s 0 sh)) Q := by
  cases i
  case ireturn =>
    simp only [zRt] at h
    split at h
    · rename_i x
      split at h
      · exact ⟨some (.inl x), s, rfl, hs, fun v e => (by cases e; exact ht.hd), h⟩
      · rename_i ha
        refine ⟨some (.inl x), s, ?_, hs, fun v e => (by cases e; exact ht.hd), h.2⟩
        show (if a = 0 then _ else if Int32.ofInt x = 0 ∨ Int32.ofInt x = 1 then some (some (Value.int (Int32.ofInt x)), zH s 0 sh) else none) = _
        rw [if_neg (fun e => ha e), if_pos (by rcases h.1 with rfl | rfl; exact Or.inl rfl; exact Or.inr rfl)]
        rfl
    · exact h.elim
  case lreturn =>
    simp only [zRt] at h
    split at h
    · rename_i x
      exact ⟨some (.inr (.inr x)), s, rfl, hs, fun v e => (by cases e; exact ht.hd), h⟩
    · exact h.elim
  case return_ =>
    simp only [zRt] at h
    split at h
    · exact ⟨none, s, rfl, hs, fun v e => (by cases e), h⟩
    · exact h.elim
  all_goals exact h.elim
theorem zTok_take {n : Nat} (h : zTok st) : zTok (st.take n).reverse := fun v hv => h v (List.mem_of_mem_take (List.mem_reverse.mp hv))
theorem zTok_drop {n : Nat} (h : zTok st) : zTok (st.drop n) := fun v hv => h v (List.mem_of_mem_drop hv)
theorem zAp_map (r : Option zV) (l : List zV) : (zAp r l).map zv = (r.map zv).toList ++ l.map zv := by cases r <;> rfl
theorem zAp_ok {r : Option zV} {l : List zV} (h1 : ∀ v, r = some v → zVok v) (h2 : zTok l) : zTok (zAp r l) := by
  cases r with
  | none => exact h2
  | some v => exact h2.mk (h1 v rfl)
theorem zX_ok (hro : ∀ q l, ro q = some l → ∀ k, zR (l.getD k 0)) {E : zEo} {J : zJo} {E' : kEo} {J' : kJo}
    (hE : ∀ m as s Q, E m as s Q → zSok sh s → zTok as → zRes sh (E' m (as.map zv) (zH s 0 sh)) Q)
    (hJ : ∀ t lv st s Q, J t lv st s Q → zSok sh s → zLok lv → zTok st → zRes sh (J' t (zM lv) (st.map zv) (zH s 0 sh)) Q) :
    ∀ (is : List kIt) (lv : zL) (st : List zV) (s : zSt) (Q : zQ), zX sh ro E J is lv st s Q → zSok sh s → zLok lv → zTok st → zRes sh (kX (zro ro) E' J' is (zM lv) (st.map zv) (zH s 0 sh)) Q
  | [], lv, st, s, Q, h, _, _, _ => h.elim
  | (_, .inl (i, a, b, z)) :: is, lv, st, s, Q, h, hs, hl, ht => by
    obtain ⟨lv', st', s', h1, h2, h3, h4, h5⟩ := zS_ok hro (show zS sh ro i a b z lv st s (fun lv st s => zX sh ro E J is lv st s Q) from h) hs hl ht
    unfold kX
    rw [h1]
    exact zX_ok hro hE hJ is lv' st' s' Q h2 h3 h4 h5
  | (_, .inr (i, k, a, b, sw)) :: is, lv, st, s, Q, h, hs, hl, ht => by
    unfold zX at h
    unfold kX
    split at h
    · obtain ⟨c, bb, r, h1, h2, ⟨h3, h4⟩, h5⟩ := zCd_ok h ht
      rw [if_pos rfl, h1]
      dsimp only
      by_cases hb : bb = true
      · rw [if_pos hb]; exact hJ _ _ _ _ _ (h3 (h2.mp hb)) hs hl h5
      · rw [if_neg hb]; exact zX_ok hro hE hJ is lv r s Q (h4 (fun e => hb (h2.mpr e))) hs hl h5
    · rw [if_neg (by decide), if_pos rfl]
      exact hJ _ _ _ _ _ h hs hl ht
    · rw [if_neg (by decide), if_neg (by decide), if_pos rfl]
      split at h
      · rename_i x r
        exact zSw_ok (P := fun o => zRes sh o Q) (fun t g => hJ t lv r s Q g hs hl ht.tl) ht.hd sw h
      · exact h.elim
    · rw [if_neg (by decide), if_neg (by decide), if_neg (by decide), if_pos rfl]
      exact zRt_ok h hs ht
    · rw [if_neg (by decide), if_neg (by decide), if_neg (by decide), if_neg (by decide), if_pos rfl]
      cases hb : Nat.ble b st.length && Nat.ble st.length (b + 4) with
      | false => rw [hb] at h; exact h.elim
      | true =>
        rw [hb] at h
        obtain ⟨b1, b2⟩ := Bool.and_eq_true_iff.mp hb
        obtain ⟨r, s', h1, h2, h3, h4⟩ := hE a _ s _ h hs (zTok_take ht)
        rw [if_pos ⟨by rw [List.length_map]; exact Nat.le_of_ble_eq_true b1, by rw [List.length_map]; exact Nat.le_of_ble_eq_true b2⟩, ← List.map_take, ← List.map_reverse, h1]
        dsimp only
        rw [← List.map_drop, ← zAp_map]
        exact zX_ok hro hE hJ is lv _ s' Q h4 h2 hl (zAp_ok h3 (zTok_drop ht))
    · exact h.elim
end ZSnd
end
section
-- laid by wip/whole/gen.py
def RX0 : String := "PennyALap$Bodies"
def TX0 : u_T := fun k => match k with
  | 0 => ("PennyALap$Bodies", "kinds", "[I", true)
  | 1 => ("PennyALap$Bodies", "bodies", "I", false)
  | 2 => ("PennyALap$Bodies", "trace", "[I", true)
  | _ => ("PennyALap$Bodies", "ran", "I", false)
def tyX0 : Nat → FieldType := fun k => match k with
  | 0 => .array .int
  | 1 => .int
  | 2 => .array .int
  | _ => .int
abbrev wsX00 : List Cond := u_ws RX0 TX0 4
theorem nmX0 : ∀ a, a < 4 → ∀ b, b < 4 → a ≠ b → (TX0 a).2.1 ≠ (TX0 b).2.1 := by decide +kernel
theorem tyX0_ok : ∀ k, k < 4 → parseFieldDescriptor (TX0 k).2.2.1 = some (tyX0 k) := by decide +kernel
abbrev cX0_init : ByteArray := prog_2_method_1_code
def yX0_init : MethodName := ⟨RX0, "<init>", "()V"⟩
abbrev cX0_bodies : ByteArray := prog_2_method_2_code
def yX0_bodies : MethodName := ⟨RX0, "bodies", "()I"⟩
abbrev cX0_ran : ByteArray := prog_2_method_3_code
def yX0_ran : MethodName := ⟨RX0, "ran", "()I"⟩
abbrev cX0_isKind : ByteArray := prog_2_method_4_code
def yX0_isKind : MethodName := ⟨RX0, "isKind", "(I)Z"⟩
abbrev cX0_isBody : ByteArray := prog_2_method_5_code
def yX0_isBody : MethodName := ⟨RX0, "isBody", "(I)Z"⟩
abbrev cX0_kindOf : ByteArray := prog_2_method_6_code
def yX0_kindOf : MethodName := ⟨RX0, "kindOf", "(I)I"⟩
abbrev cX0_bodyComes : ByteArray := prog_2_method_7_code
def yX0_bodyComes : MethodName := ⟨RX0, "bodyComes", "(I)I"⟩
abbrev cX0_isUnder : ByteArray := prog_2_method_8_code
def yX0_isUnder : MethodName := ⟨RX0, "isUnder", "(II)Z"⟩
abbrev cX0_traced : ByteArray := prog_2_method_9_code
def yX0_traced : MethodName := ⟨RX0, "traced", "(I)I"⟩
abbrev cX0_begin : ByteArray := prog_2_method_10_code
def yX0_begin : MethodName := ⟨RX0, "begin", "(III)I"⟩
abbrev cX0_own : ByteArray := prog_2_method_11_code
def yX0_own : MethodName := ⟨RX0, "own", "(IIII)I"⟩
abbrev cX0_higher : ByteArray := prog_2_method_12_code
def yX0_higher : MethodName := ⟨RX0, "higher", "(IIIII)I"⟩
abbrev cX0_from : ByteArray := prog_2_method_13_code
def yX0_from : MethodName := ⟨RX0, "from", "(IIIII)I"⟩
abbrev cX0_perform : ByteArray := prog_2_method_14_code
def yX0_perform : MethodName := ⟨RX0, "perform", "(IIII)I"⟩
def RX1 : String := "PennyALap$Changes"
def TX1 : u_T := fun k => match k with
  | 0 => ("PennyALap$Changes", "places", "[I", true)
  | 1 => ("PennyALap$Changes", "before", "[I", true)
  | 2 => ("PennyALap$Changes", "behind", "[I", true)
  | 3 => ("PennyALap$Changes", "made", "I", false)
  | _ => ("PennyALap$Changes", "known", "I", false)
def tyX1 : Nat → FieldType := fun k => match k with
  | 0 => .array .int
  | 1 => .array .int
  | 2 => .array .int
  | 3 => .int
  | _ => .int
abbrev wsX10 : List Cond := u_ws RX1 TX1 5
theorem nmX1 : ∀ a, a < 5 → ∀ b, b < 5 → a ≠ b → (TX1 a).2.1 ≠ (TX1 b).2.1 := by decide +kernel
theorem tyX1_ok : ∀ k, k < 5 → parseFieldDescriptor (TX1 k).2.2.1 = some (tyX1 k) := by decide +kernel
abbrev cX1_init : ByteArray := prog_3_method_1_code
def yX1_init : MethodName := ⟨RX1, "<init>", "()V"⟩
abbrev cX1_undoable : ByteArray := prog_3_method_2_code
def yX1_undoable : MethodName := ⟨RX1, "undoable", "()I"⟩
abbrev cX1_add : ByteArray := prog_3_method_3_code
def yX1_add : MethodName := ⟨RX1, "add", "(III)V"⟩
abbrev cX1_forgetOldest : ByteArray := prog_3_method_4_code
def yX1_forgetOldest : MethodName := ⟨RX1, "forgetOldest", "()V"⟩
abbrev cX1_undoOne : ByteArray := prog_3_method_5_code
def yX1_undoOne : MethodName := ⟨RX1, "undoOne", "(LPennyALap$Folk;)I"⟩
abbrev cX1_redoOne : ByteArray := prog_3_method_6_code
def yX1_redoOne : MethodName := ⟨RX1, "redoOne", "(LPennyALap$Folk;)I"⟩
def RX2 : String := "PennyALap$Coming"
def TX2 : u_T := fun k => match k with
  | 0 => ("PennyALap$Coming", "folk", "LPennyALap$Folk;", true)
  | 1 => ("PennyALap$Coming", "thought", "LPennyALap$Thought;", true)
  | 2 => ("PennyALap$Coming", "due", "[I", true)
  | 3 => ("PennyALap$Coming", "left", "[I", true)
  | _ => ("PennyALap$Coming", "reminded", "[Z", true)
def tyX2 : Nat → FieldType := fun k => match k with
  | 0 => .object "PennyALap$Folk"
  | 1 => .object "PennyALap$Thought"
  | 2 => .array .int
  | 3 => .array .int
  | _ => .array .boolean
abbrev wsX20 : List Cond := u_ws RX2 TX2 5
theorem nmX2 : ∀ a, a < 5 → ∀ b, b < 5 → a ≠ b → (TX2 a).2.1 ≠ (TX2 b).2.1 := by decide +kernel
theorem tyX2_ok : ∀ k, k < 5 → parseFieldDescriptor (TX2 k).2.2.1 = some (tyX2 k) := by decide +kernel
abbrev cX2_init : ByteArray := prog_4_method_1_code
def yX2_init : MethodName := ⟨RX2, "<init>", "(LPennyALap$Folk;LPennyALap$Thought;)V"⟩
abbrev cX2_begin : ByteArray := prog_4_method_2_code
def yX2_begin : MethodName := ⟨RX2, "begin", "()V"⟩
abbrev cX2_remindIn : ByteArray := prog_4_method_3_code
def yX2_remindIn : MethodName := ⟨RX2, "remindIn", "(I)V"⟩
abbrev cX2_cameBy : ByteArray := prog_4_method_4_code
def yX2_cameBy : MethodName := ⟨RX2, "cameBy", "(II)I"⟩
abbrev cX2_startWeeks : ByteArray := prog_4_method_5_code
def yX2_startWeeks : MethodName := ⟨RX2, "startWeeks", "()V"⟩
abbrev cX2_comesIn : ByteArray := prog_4_method_6_code
def yX2_comesIn : MethodName := ⟨RX2, "comesIn", "(Z)I"⟩
abbrev cX2_weeksTill : ByteArray := prog_4_method_7_code
def yX2_weeksTill : MethodName := ⟨RX2, "weeksTill", "(I)I"⟩
abbrev cX2_bestWeek : ByteArray := prog_4_method_8_code
def yX2_bestWeek : MethodName := ⟨RX2, "bestWeek", "(I)I"⟩
def RX3 : String := "PennyALap$Deed"
def TX3 : u_T := fun k => match k with
  | 0 => ("PennyALap$Deed", "laps", "[I", true)
  | 1 => ("PennyALap$Deed", "minutes", "[I", true)
  | 2 => ("PennyALap$Deed", "paid", "[I", true)
  | 3 => ("PennyALap$Deed", "ledLaps", "I", false)
  | 4 => ("PennyALap$Deed", "ledPence", "I", false)
  | 5 => ("PennyALap$Deed", "ledMinutes", "I", false)
  | 6 => ("PennyALap$Deed", "fields", "I", false)
  | _ => ("PennyALap$Deed", "surprises", "I", false)
def tyX3 : Nat → FieldType := fun k => match k with
  | 0 => .array .int
  | 1 => .array .int
  | 2 => .array .int
  | 3 => .int
  | 4 => .int
  | 5 => .int
  | 6 => .int
  | _ => .int
abbrev wsX30 : List Cond := u_ws RX3 TX3 8
theorem nmX3 : ∀ a, a < 8 → ∀ b, b < 8 → a ≠ b → (TX3 a).2.1 ≠ (TX3 b).2.1 := by decide +kernel
theorem tyX3_ok : ∀ k, k < 8 → parseFieldDescriptor (TX3 k).2.2.1 = some (tyX3 k) := by decide +kernel
abbrev cX3_init : ByteArray := prog_5_method_1_code
def yX3_init : MethodName := ⟨RX3, "<init>", "()V"⟩
abbrev cX3_lapsOf : ByteArray := prog_5_method_2_code
def yX3_lapsOf : MethodName := ⟨RX3, "lapsOf", "(I)I"⟩
abbrev cX3_minutesOf : ByteArray := prog_5_method_3_code
def yX3_minutesOf : MethodName := ⟨RX3, "minutesOf", "(I)I"⟩
abbrev cX3_paidBy : ByteArray := prog_5_method_4_code
def yX3_paidBy : MethodName := ⟨RX3, "paidBy", "(I)I"⟩
abbrev cX3_ledLaps : ByteArray := prog_5_method_5_code
def yX3_ledLaps : MethodName := ⟨RX3, "ledLaps", "()I"⟩
abbrev cX3_ledPence : ByteArray := prog_5_method_6_code
def yX3_ledPence : MethodName := ⟨RX3, "ledPence", "()I"⟩
abbrev cX3_ledMinutes : ByteArray := prog_5_method_7_code
def yX3_ledMinutes : MethodName := ⟨RX3, "ledMinutes", "()I"⟩
abbrev cX3_fields : ByteArray := prog_5_method_8_code
def yX3_fields : MethodName := ⟨RX3, "fields", "()I"⟩
abbrev cX3_surprises : ByteArray := prog_5_method_9_code
def yX3_surprises : MethodName := ⟨RX3, "surprises", "()I"⟩
abbrev cX3_lapsOfField : ByteArray := prog_5_method_10_code
def yX3_lapsOfField : MethodName := ⟨RX3, "lapsOfField", "()I"⟩
abbrev cX3_lapRun : ByteArray := prog_5_method_11_code
def yX3_lapRun : MethodName := ⟨RX3, "lapRun", "(II)V"⟩
abbrev cX3_asked : ByteArray := prog_5_method_12_code
def yX3_asked : MethodName := ⟨RX3, "asked", "(IIZ)V"⟩
abbrev cX3_newField : ByteArray := prog_5_method_13_code
def yX3_newField : MethodName := ⟨RX3, "newField", "()V"⟩
abbrev cX3_becomeLike : ByteArray := prog_5_method_14_code
def yX3_becomeLike : MethodName := ⟨RX3, "becomeLike", "(LPennyALap$Deed;)V"⟩
def RX4 : String := "PennyALap$Folk"
def TX4 : u_T := fun k => match k with
  | 0 => ("PennyALap$Folk", "law", "LPennyALap$Law;", true)
  | 1 => ("PennyALap$Folk", "numbers", "[I", true)
  | 2 => ("PennyALap$Folk", "childOf", "[I", true)
  | 3 => ("PennyALap$Folk", "children", "I", false)
  | _ => ("PennyALap$Folk", "sponsors", "I", false)
def tyX4 : Nat → FieldType := fun k => match k with
  | 0 => .object "PennyALap$Law"
  | 1 => .array .int
  | 2 => .array .int
  | 3 => .int
  | _ => .int
abbrev wsX40 : List Cond := u_ws RX4 TX4 5
theorem nmX4 : ∀ a, a < 5 → ∀ b, b < 5 → a ≠ b → (TX4 a).2.1 ≠ (TX4 b).2.1 := by decide +kernel
theorem tyX4_ok : ∀ k, k < 5 → parseFieldDescriptor (TX4 k).2.2.1 = some (tyX4 k) := by decide +kernel
abbrev cX4_init : ByteArray := prog_6_method_1_code
def yX4_init : MethodName := ⟨RX4, "<init>", "(LPennyALap$Law;)V"⟩
abbrev cX4_childCount : ByteArray := prog_6_method_2_code
def yX4_childCount : MethodName := ⟨RX4, "childCount", "()I"⟩
abbrev cX4_sponsorCount : ByteArray := prog_6_method_3_code
def yX4_sponsorCount : MethodName := ⟨RX4, "sponsorCount", "()I"⟩
abbrev cX4_isChild : ByteArray := prog_6_method_4_code
def yX4_isChild : MethodName := ⟨RX4, "isChild", "(I)Z"⟩
abbrev cX4_isSponsor : ByteArray := prog_6_method_5_code
def yX4_isSponsor : MethodName := ⟨RX4, "isSponsor", "(I)Z"⟩
abbrev cX4_childOf : ByteArray := prog_6_method_6_code
def yX4_childOf : MethodName := ⟨RX4, "childOf", "(I)I"⟩
abbrev cX4_place : ByteArray := prog_6_method_7_code
def yX4_place : MethodName := ⟨RX4, "place", "(II)I"⟩
abbrev cX4_at : ByteArray := prog_6_method_8_code
def yX4_at : MethodName := ⟨RX4, "at", "(I)I"⟩
abbrev cX4_become : ByteArray := prog_6_method_9_code
def yX4_become : MethodName := ⟨RX4, "become", "(II)V"⟩
abbrev cX4_told : ByteArray := prog_6_method_10_code
def yX4_told : MethodName := ⟨RX4, "told", "(II)I"⟩
abbrev cX4_childComes : ByteArray := prog_6_method_11_code
def yX4_childComes : MethodName := ⟨RX4, "childComes", "(I)I"⟩
abbrev cX4_maySponsor : ByteArray := prog_6_method_12_code
def yX4_maySponsor : MethodName := ⟨RX4, "maySponsor", "(III)Z"⟩
abbrev cX4_sponsorComes : ByteArray := prog_6_method_13_code
def yX4_sponsorComes : MethodName := ⟨RX4, "sponsorComes", "(III)I"⟩
abbrev cX4_lapTakes : ByteArray := prog_6_method_14_code
def yX4_lapTakes : MethodName := ⟨RX4, "lapTakes", "(III)I"⟩
abbrev cX4_minutesOfLaps : ByteArray := prog_6_method_15_code
def yX4_minutesOfLaps : MethodName := ⟨RX4, "minutesOfLaps", "(II)I"⟩
abbrev cX4_owedWithoutTop : ByteArray := prog_6_method_16_code
def yX4_owedWithoutTop : MethodName := ⟨RX4, "owedWithoutTop", "(II)I"⟩
abbrev cX4_owedBy : ByteArray := prog_6_method_17_code
def yX4_owedBy : MethodName := ⟨RX4, "owedBy", "(II)I"⟩
abbrev cX4_paidBy : ByteArray := prog_6_method_18_code
def yX4_paidBy : MethodName := ⟨RX4, "paidBy", "(II)I"⟩
abbrev cX4_isSurprised : ByteArray := prog_6_method_19_code
def yX4_isSurprised : MethodName := ⟨RX4, "isSurprised", "(II)Z"⟩
abbrev cX4_owedTo : ByteArray := prog_6_method_20_code
def yX4_owedTo : MethodName := ⟨RX4, "owedTo", "(II)I"⟩
abbrev cX4_paidTo : ByteArray := prog_6_method_21_code
def yX4_paidTo : MethodName := ⟨RX4, "paidTo", "(II)I"⟩
def RX5 : String := "PennyALap$Law"
def TX5 : u_T := fun k => match k with
  | 0 => ("PennyALap$Law", "tape", "[I", true)
  | 1 => ("PennyALap$Law", "fed", "I", false)
  | 2 => ("PennyALap$Law", "at", "I", false)
  | 3 => ("PennyALap$Law", "steps", "[I", false)
  | 4 => ("PennyALap$Law", "stepCount", "I", false)
  | 5 => ("PennyALap$Law", "draft", "[I", false)
  | 6 => ("PennyALap$Law", "draftCount", "I", false)
  | 7 => ("PennyALap$Law", "stack", "[I", true)
  | _ => ("PennyALap$Law", "names", "[I", true)
def tyX5 : Nat → FieldType := fun k => match k with
  | 0 => .array .int
  | 1 => .int
  | 2 => .int
  | 3 => .array .int
  | 4 => .int
  | 5 => .array .int
  | 6 => .int
  | 7 => .array .int
  | _ => .array .int
abbrev wsX50 : List Cond := u_ws RX5 TX5 9
theorem nmX5 : ∀ a, a < 9 → ∀ b, b < 9 → a ≠ b → (TX5 a).2.1 ≠ (TX5 b).2.1 := by decide +kernel
theorem tyX5_ok : ∀ k, k < 9 → parseFieldDescriptor (TX5 k).2.2.1 = some (tyX5 k) := by decide +kernel
abbrev cX5_init : ByteArray := prog_7_method_1_code
def yX5_init : MethodName := ⟨RX5, "<init>", "()V"⟩
abbrev cX5_fed : ByteArray := prog_7_method_2_code
def yX5_fed : MethodName := ⟨RX5, "fed", "()I"⟩
abbrev cX5_takeByte : ByteArray := prog_7_method_3_code
def yX5_takeByte : MethodName := ⟨RX5, "takeByte", "(I)I"⟩
abbrev cX5_takeTape : ByteArray := prog_7_method_4_code
def yX5_takeTape : MethodName := ⟨RX5, "takeTape", "()I"⟩
abbrev cX5_readLines : ByteArray := prog_7_method_5_code
def yX5_readLines : MethodName := ⟨RX5, "readLines", "()I"⟩
abbrev cX5_readLine : ByteArray := prog_7_method_6_code
def yX5_readLine : MethodName := ⟨RX5, "readLine", "()Z"⟩
abbrev cX5_readJoined : ByteArray := prog_7_method_7_code
def yX5_readJoined : MethodName := ⟨RX5, "readJoined", "(II)Z"⟩
abbrev cX5_readOperand : ByteArray := prog_7_method_8_code
def yX5_readOperand : MethodName := ⟨RX5, "readOperand", "(I)Z"⟩
abbrev cX5_readClosing : ByteArray := prog_7_method_9_code
def yX5_readClosing : MethodName := ⟨RX5, "readClosing", "()Z"⟩
abbrev cX5_readNumber : ByteArray := prog_7_method_10_code
def yX5_readNumber : MethodName := ⟨RX5, "readNumber", "()V"⟩
abbrev cX5_sign : ByteArray := prog_7_method_11_code
def yX5_sign : MethodName := ⟨RX5, "sign", "()I"⟩
abbrev cX5_write : ByteArray := prog_7_method_12_code
def yX5_write : MethodName := ⟨RX5, "write", "(I)V"⟩
abbrev cX5_isDigit : ByteArray := prog_7_method_13_code
def yX5_isDigit : MethodName := ⟨RX5, "isDigit", "(I)Z"⟩
abbrev cX5_nameOf : ByteArray := prog_7_method_14_code
def yX5_nameOf : MethodName := ⟨RX5, "nameOf", "(I)I"⟩
abbrev cX5_levelOf : ByteArray := prog_7_method_15_code
def yX5_levelOf : MethodName := ⟨RX5, "levelOf", "(I)I"⟩
abbrev cX5_isThere : ByteArray := prog_7_method_16_code
def yX5_isThere : MethodName := ⟨RX5, "isThere", "()Z"⟩
abbrev cX5_ofChild : ByteArray := prog_7_method_17_code
def yX5_ofChild : MethodName := ⟨RX5, "ofChild", "(IIII)V"⟩
abbrev cX5_gives : ByteArray := prog_7_method_18_code
def yX5_gives : MethodName := ⟨RX5, "gives", "(II)I"⟩
abbrev cX5_turned : ByteArray := prog_7_method_19_code
def yX5_turned : MethodName := ⟨RX5, "turned", "(II)I"⟩
abbrev cX5_joined : ByteArray := prog_7_method_20_code
def yX5_joined : MethodName := ⟨RX5, "joined", "(III)I"⟩
abbrev cX5_truth : ByteArray := prog_7_method_21_code
def yX5_truth : MethodName := ⟨RX5, "truth", "(Z)I"⟩
def RX6 : String := "PennyALap$Plan"
def TX6 : u_T := fun k => match k with
  | 0 => ("PennyALap$Plan", "folk", "LPennyALap$Folk;", true)
  | 1 => ("PennyALap$Plan", "thought", "LPennyALap$Thought;", true)
  | 2 => ("PennyALap$Plan", "worth", "[I", true)
  | 3 => ("PennyALap$Plan", "best", "[I", true)
  | _ => ("PennyALap$Plan", "chosen", "[I", true)
def tyX6 : Nat → FieldType := fun k => match k with
  | 0 => .object "PennyALap$Folk"
  | 1 => .object "PennyALap$Thought"
  | 2 => .array .int
  | 3 => .array .int
  | _ => .array .int
abbrev wsX60 : List Cond := u_ws RX6 TX6 5
theorem nmX6 : ∀ a, a < 5 → ∀ b, b < 5 → a ≠ b → (TX6 a).2.1 ≠ (TX6 b).2.1 := by decide +kernel
theorem tyX6_ok : ∀ k, k < 5 → parseFieldDescriptor (TX6 k).2.2.1 = some (tyX6 k) := by decide +kernel
abbrev cX6_init : ByteArray := prog_8_method_1_code
def yX6_init : MethodName := ⟨RX6, "<init>", "(LPennyALap$Folk;LPennyALap$Thought;)V"⟩
abbrev cX6_make : ByteArray := prog_8_method_2_code
def yX6_make : MethodName := ⟨RX6, "make", "(I)V"⟩
abbrev cX6_weigh : ByteArray := prog_8_method_3_code
def yX6_weigh : MethodName := ⟨RX6, "weigh", "(I)V"⟩
abbrev cX6_bestOf : ByteArray := prog_8_method_4_code
def yX6_bestOf : MethodName := ⟨RX6, "bestOf", "(II)I"⟩
abbrev cX6_worthWith : ByteArray := prog_8_method_5_code
def yX6_worthWith : MethodName := ⟨RX6, "worthWith", "(III)I"⟩
abbrev cX6_choose : ByteArray := prog_8_method_6_code
def yX6_choose : MethodName := ⟨RX6, "choose", "(I)V"⟩
abbrev cX6_lapsOf : ByteArray := prog_8_method_7_code
def yX6_lapsOf : MethodName := ⟨RX6, "lapsOf", "(I)I"⟩
abbrev cX6_pence : ByteArray := prog_8_method_8_code
def yX6_pence : MethodName := ⟨RX6, "pence", "()I"⟩
abbrev cX6_minutesUsed : ByteArray := prog_8_method_9_code
def yX6_minutesUsed : MethodName := ⟨RX6, "minutesUsed", "()I"⟩
def RX7 : String := "PennyALap$Shelves"
def TX7 : u_T := fun k => match k with
  | 0 => ("PennyALap$Shelves", "sorts", "[I", true)
  | 1 => ("PennyALap$Shelves", "sizes", "[I", true)
  | 2 => ("PennyALap$Shelves", "bodyOn", "[I", true)
  | _ => ("PennyALap$Shelves", "values", "[J", true)
def tyX7 : Nat → FieldType := fun k => match k with
  | 0 => .array .int
  | 1 => .array .int
  | 2 => .array .int
  | _ => .array .long
abbrev wsX70 : List Cond := u_ws RX7 TX7 4
theorem nmX7 : ∀ a, a < 4 → ∀ b, b < 4 → a ≠ b → (TX7 a).2.1 ≠ (TX7 b).2.1 := by decide +kernel
theorem tyX7_ok : ∀ k, k < 4 → parseFieldDescriptor (TX7 k).2.2.1 = some (tyX7 k) := by decide +kernel
abbrev cX7_init : ByteArray := prog_9_method_1_code
def yX7_init : MethodName := ⟨RX7, "<init>", "()V"⟩
abbrev cX7_isShelf : ByteArray := prog_9_method_2_code
def yX7_isShelf : MethodName := ⟨RX7, "isShelf", "(I)Z"⟩
abbrev cX7_isEmpty : ByteArray := prog_9_method_3_code
def yX7_isEmpty : MethodName := ⟨RX7, "isEmpty", "(I)Z"⟩
abbrev cX7_isRow : ByteArray := prog_9_method_4_code
def yX7_isRow : MethodName := ⟨RX7, "isRow", "(I)Z"⟩
abbrev cX7_areAlike : ByteArray := prog_9_method_5_code
def yX7_areAlike : MethodName := ⟨RX7, "areAlike", "(II)Z"⟩
abbrev cX7_refusal : ByteArray := prog_9_method_6_code
def yX7_refusal : MethodName := ⟨RX7, "refusal", "(II)I"⟩
abbrev cX7_placeRefusal : ByteArray := prog_9_method_7_code
def yX7_placeRefusal : MethodName := ⟨RX7, "placeRefusal", "(II)I"⟩
abbrev cX7_isPlace : ByteArray := prog_9_method_8_code
def yX7_isPlace : MethodName := ⟨RX7, "isPlace", "(II)Z"⟩
abbrev cX7_size : ByteArray := prog_9_method_9_code
def yX7_size : MethodName := ⟨RX7, "size", "(I)I"⟩
abbrev cX7_bodyOn : ByteArray := prog_9_method_10_code
def yX7_bodyOn : MethodName := ⟨RX7, "bodyOn", "(I)I"⟩
abbrev cX7_hold : ByteArray := prog_9_method_11_code
def yX7_hold : MethodName := ⟨RX7, "hold", "(II)V"⟩
abbrev cX7_holdRow : ByteArray := prog_9_method_12_code
def yX7_holdRow : MethodName := ⟨RX7, "holdRow", "(III)V"⟩
abbrev cX7_value : ByteArray := prog_9_method_13_code
def yX7_value : MethodName := ⟨RX7, "value", "(II)J"⟩
abbrev cX7_become : ByteArray := prog_9_method_14_code
def yX7_become : MethodName := ⟨RX7, "become", "(IIJ)V"⟩
abbrev cX7_cut : ByteArray := prog_9_method_15_code
def yX7_cut : MethodName := ⟨RX7, "cut", "(IJ)J"⟩
abbrev cX7_hasPart : ByteArray := prog_9_method_16_code
def yX7_hasPart : MethodName := ⟨RX7, "hasPart", "(III)Z"⟩
abbrev cX7_copyPart : ByteArray := prog_9_method_17_code
def yX7_copyPart : MethodName := ⟨RX7, "copyPart", "(IIIII)V"⟩
def RX8 : String := "PennyALap$Thought"
def TX8 : u_T := fun k => match k with
  | 0 => ("PennyALap$Thought", "folk", "LPennyALap$Folk;", true)
  | 1 => ("PennyALap$Thought", "now", "[I", true)
  | 2 => ("PennyALap$Thought", "ends", "[I", true)
  | _ => ("PennyALap$Thought", "reach", "[I", true)
def tyX8 : Nat → FieldType := fun k => match k with
  | 0 => .object "PennyALap$Folk"
  | 1 => .array .int
  | 2 => .array .int
  | _ => .array .int
abbrev wsX80 : List Cond := u_ws RX8 TX8 4
theorem nmX8 : ∀ a, a < 4 → ∀ b, b < 4 → a ≠ b → (TX8 a).2.1 ≠ (TX8 b).2.1 := by decide +kernel
theorem tyX8_ok : ∀ k, k < 4 → parseFieldDescriptor (TX8 k).2.2.1 = some (tyX8 k) := by decide +kernel
abbrev cX8_init : ByteArray := prog_10_method_1_code
def yX8_init : MethodName := ⟨RX8, "<init>", "(LPennyALap$Folk;)V"⟩
abbrev cX8_lapsIn : ByteArray := prog_10_method_2_code
def yX8_lapsIn : MethodName := ⟨RX8, "lapsIn", "(II)I"⟩
abbrev cX8_think : ByteArray := prog_10_method_3_code
def yX8_think : MethodName := ⟨RX8, "think", "(I)V"⟩
abbrev cX8_lapsNow : ByteArray := prog_10_method_4_code
def yX8_lapsNow : MethodName := ⟨RX8, "lapsNow", "(I)I"⟩
abbrev cX8_timeLaps : ByteArray := prog_10_method_5_code
def yX8_timeLaps : MethodName := ⟨RX8, "timeLaps", "(I)V"⟩
abbrev cX8_reachOf : ByteArray := prog_10_method_6_code
def yX8_reachOf : MethodName := ⟨RX8, "reachOf", "(I)I"⟩
abbrev cX8_endOf : ByteArray := prog_10_method_7_code
def yX8_endOf : MethodName := ⟨RX8, "endOf", "(II)I"⟩
abbrev cX8_beginMinutes : ByteArray := prog_10_method_8_code
def yX8_beginMinutes : MethodName := ⟨RX8, "beginMinutes", "(I)V"⟩
abbrev cX8_goOnTo : ByteArray := prog_10_method_9_code
def yX8_goOnTo : MethodName := ⟨RX8, "goOnTo", "(I)Z"⟩
abbrev cX8_drawField : ByteArray := prog_10_method_10_code
def yX8_drawField : MethodName := ⟨RX8, "drawField", "(II)I"⟩
abbrev cX8_drawLaps : ByteArray := prog_10_method_11_code
def yX8_drawLaps : MethodName := ⟨RX8, "drawLaps", "(III)I"⟩
abbrev cX8_lapsOfAll : ByteArray := prog_10_method_12_code
def yX8_lapsOfAll : MethodName := ⟨RX8, "lapsOfAll", "()I"⟩
abbrev cX8_owedByAll : ByteArray := prog_10_method_13_code
def yX8_owedByAll : MethodName := ⟨RX8, "owedByAll", "()I"⟩
abbrev cX8_paidByAll : ByteArray := prog_10_method_14_code
def yX8_paidByAll : MethodName := ⟨RX8, "paidByAll", "()I"⟩
abbrev cX8_surprised : ByteArray := prog_10_method_15_code
def yX8_surprised : MethodName := ⟨RX8, "surprised", "()I"⟩
abbrev cX8_mostLaps : ByteArray := prog_10_method_16_code
def yX8_mostLaps : MethodName := ⟨RX8, "mostLaps", "()I"⟩
abbrev cX8_mostPence : ByteArray := prog_10_method_17_code
def yX8_mostPence : MethodName := ⟨RX8, "mostPence", "()I"⟩
def RX9 : String := "PennyALap"
def TX9 : u_T := fun k => match k with
  | 0 => ("PennyALap", "law", "LPennyALap$Law;", true)
  | 1 => ("PennyALap", "folk", "LPennyALap$Folk;", true)
  | 2 => ("PennyALap", "changes", "LPennyALap$Changes;", true)
  | 3 => ("PennyALap", "thought", "LPennyALap$Thought;", true)
  | 4 => ("PennyALap", "plan", "LPennyALap$Plan;", true)
  | 5 => ("PennyALap", "coming", "LPennyALap$Coming;", true)
  | 6 => ("PennyALap", "deed", "LPennyALap$Deed;", true)
  | 7 => ("PennyALap", "kept", "LPennyALap$Deed;", true)
  | 8 => ("PennyALap", "isKept", "Z", false)
  | 9 => ("PennyALap", "bodies", "LPennyALap$Bodies;", true)
  | _ => ("PennyALap", "shelves", "LPennyALap$Shelves;", true)
def tyX9 : Nat → FieldType := fun k => match k with
  | 0 => .object "PennyALap$Law"
  | 1 => .object "PennyALap$Folk"
  | 2 => .object "PennyALap$Changes"
  | 3 => .object "PennyALap$Thought"
  | 4 => .object "PennyALap$Plan"
  | 5 => .object "PennyALap$Coming"
  | 6 => .object "PennyALap$Deed"
  | 7 => .object "PennyALap$Deed"
  | 8 => .boolean
  | 9 => .object "PennyALap$Bodies"
  | _ => .object "PennyALap$Shelves"
abbrev wsX90 : List Cond := u_ws RX9 TX9 11
theorem nmX9 : ∀ a, a < 11 → ∀ b, b < 11 → a ≠ b → (TX9 a).2.1 ≠ (TX9 b).2.1 := by decide +kernel
theorem tyX9_ok : ∀ k, k < 11 → parseFieldDescriptor (TX9 k).2.2.1 = some (tyX9 k) := by decide +kernel
abbrev cX9_init : ByteArray := prog_1_method_1_code
def yX9_init : MethodName := ⟨RX9, "<init>", "()V"⟩
abbrev cX9_within : ByteArray := prog_1_method_2_code
def yX9_within : MethodName := ⟨RX9, "within", "(III)Z"⟩
abbrev cX9_isPair : ByteArray := prog_1_method_3_code
def yX9_isPair : MethodName := ⟨RX9, "isPair", "(IIII)Z"⟩
abbrev cX9_child : ByteArray := prog_1_method_4_code
def yX9_child : MethodName := ⟨RX9, "child", "(I)I"⟩
abbrev cX9_sponsor : ByteArray := prog_1_method_5_code
def yX9_sponsor : MethodName := ⟨RX9, "sponsor", "(II)I"⟩
abbrev cX9_sponsors : ByteArray := prog_1_method_6_code
def yX9_sponsors : MethodName := ⟨RX9, "sponsors", "(III)I"⟩
abbrev cX9_sponsorsFromRow : ByteArray := prog_1_method_7_code
def yX9_sponsorsFromRow : MethodName := ⟨RX9, "sponsorsFromRow", "(III)I"⟩
abbrev cX9_mend : ByteArray := prog_1_method_8_code
def yX9_mend : MethodName := ⟨RX9, "mend", "(III)I"⟩
abbrev cX9_of : ByteArray := prog_1_method_9_code
def yX9_of : MethodName := ⟨RX9, "of", "(II)I"⟩
abbrev cX9_feed : ByteArray := prog_1_method_10_code
def yX9_feed : MethodName := ⟨RX9, "feed", "(I)I"⟩
abbrev cX9_law : ByteArray := prog_1_method_11_code
def yX9_law : MethodName := ⟨RX9, "law", "()I"⟩
abbrev cX9_lap : ByteArray := prog_1_method_12_code
def yX9_lap : MethodName := ⟨RX9, "lap", "(II)I"⟩
abbrev cX9_laps : ByteArray := prog_1_method_13_code
def yX9_laps : MethodName := ⟨RX9, "laps", "(III)I"⟩
abbrev cX9_minutes : ByteArray := prog_1_method_14_code
def yX9_minutes : MethodName := ⟨RX9, "minutes", "(II)I"⟩
abbrev cX9_most : ByteArray := prog_1_method_15_code
def yX9_most : MethodName := ⟨RX9, "most", "(II)I"⟩
abbrev cX9_owes : ByteArray := prog_1_method_16_code
def yX9_owes : MethodName := ⟨RX9, "owes", "(III)I"⟩
abbrev cX9_more : ByteArray := prog_1_method_17_code
def yX9_more : MethodName := ⟨RX9, "more", "(II)I"⟩
abbrev cX9_done : ByteArray := prog_1_method_18_code
def yX9_done : MethodName := ⟨RX9, "done", "(I)I"⟩
abbrev cX9_lapOrSum : ByteArray := prog_1_method_19_code
def yX9_lapOrSum : MethodName := ⟨RX9, "lapOrSum", "(II)I"⟩
abbrev cX9_top : ByteArray := prog_1_method_20_code
def yX9_top : MethodName := ⟨RX9, "top", "(I)I"⟩
abbrev cX9_howLong : ByteArray := prog_1_method_21_code
def yX9_howLong : MethodName := ⟨RX9, "howLong", "(I)I"⟩
abbrev cX9_field : ByteArray := prog_1_method_22_code
def yX9_field : MethodName := ⟨RX9, "field", "(II)I"⟩
abbrev cX9_comes : ByteArray := prog_1_method_23_code
def yX9_comes : MethodName := ⟨RX9, "comes", "(II)I"⟩
abbrev cX9_by : ByteArray := prog_1_method_24_code
def yX9_by : MethodName := ⟨RX9, "by", "(II)I"⟩
abbrev cX9_remind : ByteArray := prog_1_method_25_code
def yX9_remind : MethodName := ⟨RX9, "remind", "(III)I"⟩
abbrev cX9_readReminders : ByteArray := prog_1_method_26_code
def yX9_readReminders : MethodName := ⟨RX9, "readReminders", "(II)V"⟩
abbrev cX9_judge : ByteArray := prog_1_method_27_code
def yX9_judge : MethodName := ⟨RX9, "judge", "(II)I"⟩
abbrev cX9_firstAmiss : ByteArray := prog_1_method_28_code
def yX9_firstAmiss : MethodName := ⟨RX9, "firstAmiss", "(I)I"⟩
abbrev cX9_lapsFor : ByteArray := prog_1_method_29_code
def yX9_lapsFor : MethodName := ⟨RX9, "lapsFor", "(III)I"⟩
abbrev cX9_minutesFor : ByteArray := prog_1_method_30_code
def yX9_minutesFor : MethodName := ⟨RX9, "minutesFor", "(I)I"⟩
abbrev cX9_whose : ByteArray := prog_1_method_31_code
def yX9_whose : MethodName := ⟨RX9, "whose", "(III)I"⟩
abbrev cX9_oak : ByteArray := prog_1_method_32_code
def yX9_oak : MethodName := ⟨RX9, "oak", "(III)I"⟩
abbrev cX9_cheats : ByteArray := prog_1_method_33_code
def yX9_cheats : MethodName := ⟨RX9, "cheats", "(III)Z"⟩
abbrev cX9_lapsSaid : ByteArray := prog_1_method_34_code
def yX9_lapsSaid : MethodName := ⟨RX9, "lapsSaid", "(II)I"⟩
abbrev cX9_drawn : ByteArray := prog_1_method_35_code
def yX9_drawn : MethodName := ⟨RX9, "drawn", "(III)I"⟩
abbrev cX9_run : ByteArray := prog_1_method_36_code
def yX9_run : MethodName := ⟨RX9, "run", "(I)I"⟩
abbrev cX9_ask : ByteArray := prog_1_method_37_code
def yX9_ask : MethodName := ⟨RX9, "ask", "(I)I"⟩
abbrev cX9_anew : ByteArray := prog_1_method_38_code
def yX9_anew : MethodName := ⟨RX9, "anew", "()I"⟩
abbrev cX9_led : ByteArray := prog_1_method_39_code
def yX9_led : MethodName := ⟨RX9, "led", "(I)I"⟩
abbrev cX9_image : ByteArray := prog_1_method_40_code
def yX9_image : MethodName := ⟨RX9, "image", "()I"⟩
abbrev cX9_back : ByteArray := prog_1_method_41_code
def yX9_back : MethodName := ⟨RX9, "back", "()I"⟩
abbrev cX9_undo : ByteArray := prog_1_method_42_code
def yX9_undo : MethodName := ⟨RX9, "undo", "()I"⟩
abbrev cX9_redo : ByteArray := prog_1_method_43_code
def yX9_redo : MethodName := ⟨RX9, "redo", "()I"⟩
abbrev cX9_body : ByteArray := prog_1_method_44_code
def yX9_body : MethodName := ⟨RX9, "body", "(I)I"⟩
abbrev cX9_act : ByteArray := prog_1_method_45_code
def yX9_act : MethodName := ⟨RX9, "act", "(III)I"⟩
abbrev cX9_trace : ByteArray := prog_1_method_46_code
def yX9_trace : MethodName := ⟨RX9, "trace", "(I)I"⟩
abbrev cX9_keep : ByteArray := prog_1_method_47_code
def yX9_keep : MethodName := ⟨RX9, "keep", "(II)I"⟩
abbrev cX9_row : ByteArray := prog_1_method_48_code
def yX9_row : MethodName := ⟨RX9, "row", "(III)I"⟩
abbrev cX9_put : ByteArray := prog_1_method_49_code
def yX9_put : MethodName := ⟨RX9, "put", "(IIJ)I"⟩
abbrev cX9_element : ByteArray := prog_1_method_50_code
def yX9_element : MethodName := ⟨RX9, "element", "(II)J"⟩
abbrev cX9_shift : ByteArray := prog_1_method_51_code
def yX9_shift : MethodName := ⟨RX9, "shift", "(IIIII)I"⟩
abbrev cX9_taken : ByteArray := prog_1_method_52_code
def yX9_taken : MethodName := ⟨RX9, "taken", "(II)I"⟩
abbrev cX9_count : ByteArray := prog_1_method_53_code
def yX9_count : MethodName := ⟨RX9, "count", "(I)I"⟩
def RX10 : String := "PennyALapModel"
def TX10 : u_T := fun k => match k with
  | 0 => ("PennyALapModel", "code", "I", false)
  | 1 => ("PennyALapModel", "children", "I", false)
  | 2 => ("PennyALapModel", "pace", "[I", true)
  | 3 => ("PennyALapModel", "tires", "[I", true)
  | 4 => ("PennyALapModel", "stops", "[I", true)
  | 5 => ("PennyALapModel", "cuts", "[I", true)
  | 6 => ("PennyALapModel", "sponsors", "I", false)
  | 7 => ("PennyALapModel", "ofChild", "[I", true)
  | 8 => ("PennyALapModel", "per", "[I", true)
  | 9 => ("PennyALapModel", "flat", "[I", true)
  | 10 => ("PennyALapModel", "need", "[I", true)
  | 11 => ("PennyALapModel", "topOf", "[I", true)
  | 12 => ("PennyALapModel", "purse", "[I", true)
  | 13 => ("PennyALapModel", "rain", "I", false)
  | 14 => ("PennyALapModel", "prompt", "I", false)
  | 15 => ("PennyALapModel", "reminded", "I", false)
  | 16 => ("PennyALapModel", "prize", "I", false)
  | 17 => ("PennyALapModel", "doneMany", "I", false)
  | 18 => ("PennyALapModel", "undoneMany", "I", false)
  | 19 => ("PennyALapModel", "changeOf", "[I", true)
  | 20 => ("PennyALapModel", "changeAt", "[I", true)
  | 21 => ("PennyALapModel", "before", "[I", true)
  | 22 => ("PennyALapModel", "behind", "[I", true)
  | 23 => ("PennyALapModel", "tape", "[B", true)
  | 24 => ("PennyALapModel", "taped", "I", false)
  | 25 => ("PennyALapModel", "here", "I", false)
  | 26 => ("PennyALapModel", "fault", "I", false)
  | 27 => ("PennyALapModel", "open", "I", false)
  | 28 => ("PennyALapModel", "laid", "I", false)
  | 29 => ("PennyALapModel", "act", "[B", true)
  | 30 => ("PennyALapModel", "with", "[I", true)
  | 31 => ("PennyALapModel", "lineMany", "[I", true)
  | 32 => ("PennyALapModel", "testEnd", "[S", true)
  | 33 => ("PennyALapModel", "lineEnd", "[S", true)
  | 34 => ("PennyALapModel", "facts", "[I", true)
  | 35 => ("PennyALapModel", "pile", "[I", true)
  | 36 => ("PennyALapModel", "hasLaw", "Z", false)
  | 37 => ("PennyALapModel", "lapsNow1", "[I", true)
  | 38 => ("PennyALapModel", "paidFrom", "[I", true)
  | 39 => ("PennyALapModel", "usedFrom", "[I", true)
  | 40 => ("PennyALapModel", "lapsFrom", "[I", true)
  | 41 => ("PennyALapModel", "rest", "[I", true)
  | 42 => ("PennyALapModel", "z1", "I", false)
  | 43 => ("PennyALapModel", "lapsNow", "[I", true)
  | 44 => ("PennyALapModel", "minutesNow", "[I", true)
  | 45 => ("PennyALapModel", "paidNow", "[I", true)
  | 46 => ("PennyALapModel", "ledOf", "[I", true)
  | 47 => ("PennyALapModel", "hasImage", "Z", false)
  | 48 => ("PennyALapModel", "keptRun", "[I", true)
  | 49 => ("PennyALapModel", "keptPaid", "[I", true)
  | 50 => ("PennyALapModel", "keptLed", "[I", true)
  | 51 => ("PennyALapModel", "bodies", "I", false)
  | 52 => ("PennyALapModel", "kind", "[I", true)
  | 53 => ("PennyALapModel", "traces", "I", false)
  | 54 => ("PennyALapModel", "traced", "[I", true)
  | 55 => ("PennyALapModel", "holds", "[I", true)
  | 56 => ("PennyALapModel", "size", "[I", true)
  | 57 => ("PennyALapModel", "elements", "[J", true)
  | _ => ("PennyALapModel", "shifted", "[J", true)
def tyX10 : Nat → FieldType := fun k => match k with
  | 0 => .int
  | 1 => .int
  | 2 => .array .int
  | 3 => .array .int
  | 4 => .array .int
  | 5 => .array .int
  | 6 => .int
  | 7 => .array .int
  | 8 => .array .int
  | 9 => .array .int
  | 10 => .array .int
  | 11 => .array .int
  | 12 => .array .int
  | 13 => .int
  | 14 => .int
  | 15 => .int
  | 16 => .int
  | 17 => .int
  | 18 => .int
  | 19 => .array .int
  | 20 => .array .int
  | 21 => .array .int
  | 22 => .array .int
  | 23 => .array .byte
  | 24 => .int
  | 25 => .int
  | 26 => .int
  | 27 => .int
  | 28 => .int
  | 29 => .array .byte
  | 30 => .array .int
  | 31 => .array .int
  | 32 => .array .short
  | 33 => .array .short
  | 34 => .array .int
  | 35 => .array .int
  | 36 => .boolean
  | 37 => .array .int
  | 38 => .array .int
  | 39 => .array .int
  | 40 => .array .int
  | 41 => .array .int
  | 42 => .int
  | 43 => .array .int
  | 44 => .array .int
  | 45 => .array .int
  | 46 => .array .int
  | 47 => .boolean
  | 48 => .array .int
  | 49 => .array .int
  | 50 => .array .int
  | 51 => .int
  | 52 => .array .int
  | 53 => .int
  | 54 => .array .int
  | 55 => .array .int
  | 56 => .array .int
  | 57 => .array .long
  | _ => .array .long
abbrev wsX100 : List Cond := u_ws RX10 TX10 59
theorem nmX10 : ∀ a, a < 59 → ∀ b, b < 59 → a ≠ b → (TX10 a).2.1 ≠ (TX10 b).2.1 := by decide +kernel
theorem tyX10_ok : ∀ k, k < 59 → parseFieldDescriptor (TX10 k).2.2.1 = some (tyX10 k) := by decide +kernel
abbrev cX10_init : ByteArray := prog_12_method_1_code
def yX10_init : MethodName := ⟨RX10, "<init>", "()V"⟩
abbrev cX10_in : ByteArray := prog_12_method_3_code
def yX10_in : MethodName := ⟨RX10, "in", "(III)Z"⟩
abbrev cX10_isChild : ByteArray := prog_12_method_4_code
def yX10_isChild : MethodName := ⟨RX10, "isChild", "(I)Z"⟩
abbrev cX10_isSponsor : ByteArray := prog_12_method_5_code
def yX10_isSponsor : MethodName := ⟨RX10, "isSponsor", "(I)Z"⟩
abbrev cX10_child : ByteArray := prog_12_method_6_code
def yX10_child : MethodName := ⟨RX10, "child", "(I)I"⟩
abbrev cX10_addSponsor : ByteArray := prog_12_method_7_code
def yX10_addSponsor : MethodName := ⟨RX10, "addSponsor", "(III)I"⟩
abbrev cX10_sponsor : ByteArray := prog_12_method_8_code
def yX10_sponsor : MethodName := ⟨RX10, "sponsor", "(II)I"⟩
abbrev cX10_sponsors : ByteArray := prog_12_method_9_code
def yX10_sponsors : MethodName := ⟨RX10, "sponsors", "(III)I"⟩
abbrev cX10_valueAt : ByteArray := prog_12_method_10_code
def yX10_valueAt : MethodName := ⟨RX10, "valueAt", "(II)I"⟩
abbrev cX10_lays : ByteArray := prog_12_method_11_code
def yX10_lays : MethodName := ⟨RX10, "lays", "(III)V"⟩
abbrev cX10_changes : ByteArray := prog_12_method_12_code
def yX10_changes : MethodName := ⟨RX10, "changes", "(III)I"⟩
abbrev cX10_undo : ByteArray := prog_12_method_13_code
def yX10_undo : MethodName := ⟨RX10, "undo", "()I"⟩
abbrev cX10_redo : ByteArray := prog_12_method_14_code
def yX10_redo : MethodName := ⟨RX10, "redo", "()I"⟩
abbrev cX10_isOne : ByteArray := prog_12_method_15_code
def yX10_isOne : MethodName := ⟨RX10, "isOne", "(II)Z"⟩
abbrev cX10_mayBe : ByteArray := prog_12_method_16_code
def yX10_mayBe : MethodName := ⟨RX10, "mayBe", "(II)Z"⟩
abbrev cX10_mend : ByteArray := prog_12_method_17_code
def yX10_mend : MethodName := ⟨RX10, "mend", "(III)I"⟩
abbrev cX10_of : ByteArray := prog_12_method_18_code
def yX10_of : MethodName := ⟨RX10, "of", "(II)I"⟩
abbrev cX10_feed : ByteArray := prog_12_method_19_code
def yX10_feed : MethodName := ⟨RX10, "feed", "(I)I"⟩
abbrev cX10_look : ByteArray := prog_12_method_20_code
def yX10_look : MethodName := ⟨RX10, "look", "()I"⟩
abbrev cX10_wrong : ByteArray := prog_12_method_21_code
def yX10_wrong : MethodName := ⟨RX10, "wrong", "()V"⟩
abbrev cX10_addStep : ByteArray := prog_12_method_22_code
def yX10_addStep : MethodName := ⟨RX10, "addStep", "(II)V"⟩
abbrev cX10_nameOf : ByteArray := prog_12_method_23_code
def yX10_nameOf : MethodName := ⟨RX10, "nameOf", "(I)I"⟩
abbrev cX10_opens : ByteArray := prog_12_method_24_code
def yX10_opens : MethodName := ⟨RX10, "opens", "()Z"⟩
abbrev cX10_figure : ByteArray := prog_12_method_25_code
def yX10_figure : MethodName := ⟨RX10, "figure", "()V"⟩
abbrev cX10_operand : ByteArray := prog_12_method_26_code
def yX10_operand : MethodName := ⟨RX10, "operand", "()V"⟩
abbrev cX10_product : ByteArray := prog_12_method_27_code
def yX10_product : MethodName := ⟨RX10, "product", "()V"⟩
abbrev cX10_sum : ByteArray := prog_12_method_28_code
def yX10_sum : MethodName := ⟨RX10, "sum", "()V"⟩
abbrev cX10_compared : ByteArray := prog_12_method_29_code
def yX10_compared : MethodName := ⟨RX10, "compared", "()V"⟩
abbrev cX10_both : ByteArray := prog_12_method_30_code
def yX10_both : MethodName := ⟨RX10, "both", "()V"⟩
abbrev cX10_either : ByteArray := prog_12_method_31_code
def yX10_either : MethodName := ⟨RX10, "either", "()V"⟩
abbrev cX10_line : ByteArray := prog_12_method_32_code
def yX10_line : MethodName := ⟨RX10, "line", "()V"⟩
abbrev cX10_readText : ByteArray := prog_12_method_33_code
def yX10_readText : MethodName := ⟨RX10, "readText", "(I)I"⟩
abbrev cX10_twoOf : ByteArray := prog_12_method_34_code
def yX10_twoOf : MethodName := ⟨RX10, "twoOf", "(III)I"⟩
abbrev cX10_worked : ByteArray := prog_12_method_35_code
def yX10_worked : MethodName := ⟨RX10, "worked", "(III)I"⟩
abbrev cX10_gives : ByteArray := prog_12_method_36_code
def yX10_gives : MethodName := ⟨RX10, "gives", "(I)I"⟩
abbrev cX10_law : ByteArray := prog_12_method_37_code
def yX10_law : MethodName := ⟨RX10, "law", "()I"⟩
abbrev cX10_lapOf : ByteArray := prog_12_method_38_code
def yX10_lapOf : MethodName := ⟨RX10, "lapOf", "(III)I"⟩
abbrev cX10_lap : ByteArray := prog_12_method_39_code
def yX10_lap : MethodName := ⟨RX10, "lap", "(II)I"⟩
abbrev cX10_isTime : ByteArray := prog_12_method_40_code
def yX10_isTime : MethodName := ⟨RX10, "isTime", "(I)Z"⟩
abbrev cX10_lapsBy : ByteArray := prog_12_method_41_code
def yX10_lapsBy : MethodName := ⟨RX10, "lapsBy", "(II)I"⟩
abbrev cX10_minutesOf : ByteArray := prog_12_method_42_code
def yX10_minutesOf : MethodName := ⟨RX10, "minutesOf", "(II)I"⟩
abbrev cX10_minutes : ByteArray := prog_12_method_43_code
def yX10_minutes : MethodName := ⟨RX10, "minutes", "(II)I"⟩
abbrev cX10_plainOf : ByteArray := prog_12_method_44_code
def yX10_plainOf : MethodName := ⟨RX10, "plainOf", "(II)I"⟩
abbrev cX10_owesOf : ByteArray := prog_12_method_45_code
def yX10_owesOf : MethodName := ⟨RX10, "owesOf", "(II)I"⟩
abbrev cX10_paysOf : ByteArray := prog_12_method_46_code
def yX10_paysOf : MethodName := ⟨RX10, "paysOf", "(II)I"⟩
abbrev cX10_owes : ByteArray := prog_12_method_47_code
def yX10_owes : MethodName := ⟨RX10, "owes", "(III)I"⟩
abbrev cX10_owedTo : ByteArray := prog_12_method_48_code
def yX10_owedTo : MethodName := ⟨RX10, "owedTo", "(II)I"⟩
abbrev cX10_paidTo : ByteArray := prog_12_method_49_code
def yX10_paidTo : MethodName := ⟨RX10, "paidTo", "(II)I"⟩
abbrev cX10_goTo : ByteArray := prog_12_method_50_code
def yX10_goTo : MethodName := ⟨RX10, "goTo", "(I)V"⟩
abbrev cX10_lapsAll : ByteArray := prog_12_method_51_code
def yX10_lapsAll : MethodName := ⟨RX10, "lapsAll", "()I"⟩
abbrev cX10_mostLaps : ByteArray := prog_12_method_52_code
def yX10_mostLaps : MethodName := ⟨RX10, "mostLaps", "()I"⟩
abbrev cX10_paidAll : ByteArray := prog_12_method_53_code
def yX10_paidAll : MethodName := ⟨RX10, "paidAll", "()I"⟩
abbrev cX10_laps : ByteArray := prog_12_method_54_code
def yX10_laps : MethodName := ⟨RX10, "laps", "(III)I"⟩
abbrev cX10_surprised : ByteArray := prog_12_method_55_code
def yX10_surprised : MethodName := ⟨RX10, "surprised", "()I"⟩
abbrev cX10_mostPence : ByteArray := prog_12_method_56_code
def yX10_mostPence : MethodName := ⟨RX10, "mostPence", "()I"⟩
abbrev cX10_most : ByteArray := prog_12_method_57_code
def yX10_most : MethodName := ⟨RX10, "most", "(II)I"⟩
abbrev cX10_moreBy : ByteArray := prog_12_method_58_code
def yX10_moreBy : MethodName := ⟨RX10, "moreBy", "(II)I"⟩
abbrev cX10_more : ByteArray := prog_12_method_59_code
def yX10_more : MethodName := ⟨RX10, "more", "(II)I"⟩
abbrev cX10_done : ByteArray := prog_12_method_60_code
def yX10_done : MethodName := ⟨RX10, "done", "(I)I"⟩
abbrev cX10_lapOrSum : ByteArray := prog_12_method_61_code
def yX10_lapOrSum : MethodName := ⟨RX10, "lapOrSum", "(II)I"⟩
abbrev cX10_top : ByteArray := prog_12_method_62_code
def yX10_top : MethodName := ⟨RX10, "top", "(I)I"⟩
abbrev cX10_howLong : ByteArray := prog_12_method_63_code
def yX10_howLong : MethodName := ⟨RX10, "howLong", "(I)I"⟩
abbrev cX10_partFrom : ByteArray := prog_12_method_64_code
def yX10_partFrom : MethodName := ⟨RX10, "partFrom", "(I)V"⟩
abbrev cX10_field : ByteArray := prog_12_method_65_code
def yX10_field : MethodName := ⟨RX10, "field", "(II)I"⟩
abbrev cX10_rowFault : ByteArray := prog_12_method_66_code
def yX10_rowFault : MethodName := ⟨RX10, "rowFault", "(II)I"⟩
abbrev cX10_at : ByteArray := prog_12_method_67_code
def yX10_at : MethodName := ⟨RX10, "at", "(II)I"⟩
abbrev cX10_isTold : ByteArray := prog_12_method_68_code
def yX10_isTold : MethodName := ⟨RX10, "isTold", "(II)Z"⟩
abbrev cX10_beginRest : ByteArray := prog_12_method_69_code
def yX10_beginRest : MethodName := ⟨RX10, "beginRest", "(I)I"⟩
abbrev cX10_weekComes : ByteArray := prog_12_method_70_code
def yX10_weekComes : MethodName := ⟨RX10, "weekComes", "(Z)I"⟩
abbrev cX10_comesBy : ByteArray := prog_12_method_71_code
def yX10_comesBy : MethodName := ⟨RX10, "comesBy", "(IIII)I"⟩
abbrev cX10_areWeeks : ByteArray := prog_12_method_72_code
def yX10_areWeeks : MethodName := ⟨RX10, "areWeeks", "(I)Z"⟩
abbrev cX10_comes : ByteArray := prog_12_method_73_code
def yX10_comes : MethodName := ⟨RX10, "comes", "(II)I"⟩
abbrev cX10_by : ByteArray := prog_12_method_74_code
def yX10_by : MethodName := ⟨RX10, "by", "(II)I"⟩
abbrev cX10_remind : ByteArray := prog_12_method_75_code
def yX10_remind : MethodName := ⟨RX10, "remind", "(III)I"⟩
abbrev cX10_wrongSheet : ByteArray := prog_12_method_76_code
def yX10_wrongSheet : MethodName := ⟨RX10, "wrongSheet", "(II)I"⟩
abbrev cX10_judge : ByteArray := prog_12_method_77_code
def yX10_judge : MethodName := ⟨RX10, "judge", "(II)I"⟩
abbrev cX10_lapsFor : ByteArray := prog_12_method_78_code
def yX10_lapsFor : MethodName := ⟨RX10, "lapsFor", "(III)I"⟩
abbrev cX10_minutesFor : ByteArray := prog_12_method_79_code
def yX10_minutesFor : MethodName := ⟨RX10, "minutesFor", "(I)I"⟩
abbrev cX10_whose : ByteArray := prog_12_method_80_code
def yX10_whose : MethodName := ⟨RX10, "whose", "(III)I"⟩
abbrev cX10_saidBy : ByteArray := prog_12_method_81_code
def yX10_saidBy : MethodName := ⟨RX10, "saidBy", "(II)I"⟩
abbrev cX10_oak : ByteArray := prog_12_method_82_code
def yX10_oak : MethodName := ⟨RX10, "oak", "(III)I"⟩
abbrev cX10_drawnLaps : ByteArray := prog_12_method_83_code
def yX10_drawnLaps : MethodName := ⟨RX10, "drawnLaps", "(II)I"⟩
abbrev cX10_drawn : ByteArray := prog_12_method_84_code
def yX10_drawn : MethodName := ⟨RX10, "drawn", "(III)I"⟩
abbrev cX10_run : ByteArray := prog_12_method_85_code
def yX10_run : MethodName := ⟨RX10, "run", "(I)I"⟩
abbrev cX10_ask : ByteArray := prog_12_method_86_code
def yX10_ask : MethodName := ⟨RX10, "ask", "(I)I"⟩
abbrev cX10_anew : ByteArray := prog_12_method_87_code
def yX10_anew : MethodName := ⟨RX10, "anew", "()I"⟩
abbrev cX10_led : ByteArray := prog_12_method_88_code
def yX10_led : MethodName := ⟨RX10, "led", "(I)I"⟩
abbrev cX10_image : ByteArray := prog_12_method_89_code
def yX10_image : MethodName := ⟨RX10, "image", "()I"⟩
abbrev cX10_back : ByteArray := prog_12_method_90_code
def yX10_back : MethodName := ⟨RX10, "back", "()I"⟩
abbrev cX10_isBody : ByteArray := prog_12_method_91_code
def yX10_isBody : MethodName := ⟨RX10, "isBody", "(I)Z"⟩
abbrev cX10_ran : ByteArray := prog_12_method_92_code
def yX10_ran : MethodName := ⟨RX10, "ran", "(I)V"⟩
abbrev cX10_trace : ByteArray := prog_12_method_93_code
def yX10_trace : MethodName := ⟨RX10, "trace", "(I)I"⟩
abbrev cX10_body : ByteArray := prog_12_method_94_code
def yX10_body : MethodName := ⟨RX10, "body", "(I)I"⟩
abbrev cX10_isUnder : ByteArray := prog_12_method_95_code
def yX10_isUnder : MethodName := ⟨RX10, "isUnder", "(II)Z"⟩
abbrev cX10_plainRuns : ByteArray := prog_12_method_96_code
def yX10_plainRuns : MethodName := ⟨RX10, "plainRuns", "(II)I"⟩
abbrev cX10_prizeRuns : ByteArray := prog_12_method_97_code
def yX10_prizeRuns : MethodName := ⟨RX10, "prizeRuns", "(II)I"⟩
abbrev cX10_running : ByteArray := prog_12_method_98_code
def yX10_running : MethodName := ⟨RX10, "running", "(II)I"⟩
abbrev cX10_plainOwes : ByteArray := prog_12_method_99_code
def yX10_plainOwes : MethodName := ⟨RX10, "plainOwes", "(II)I"⟩
abbrev cX10_sumOwes : ByteArray := prog_12_method_100_code
def yX10_sumOwes : MethodName := ⟨RX10, "sumOwes", "(II)I"⟩
abbrev cX10_owing : ByteArray := prog_12_method_101_code
def yX10_owing : MethodName := ⟨RX10, "owing", "(II)I"⟩
abbrev cX10_plainPays : ByteArray := prog_12_method_102_code
def yX10_plainPays : MethodName := ⟨RX10, "plainPays", "(II)I"⟩
abbrev cX10_oakPays : ByteArray := prog_12_method_103_code
def yX10_oakPays : MethodName := ⟨RX10, "oakPays", "(II)I"⟩
abbrev cX10_paying : ByteArray := prog_12_method_104_code
def yX10_paying : MethodName := ⟨RX10, "paying", "(II)I"⟩
abbrev cX10_plainTells : ByteArray := prog_12_method_105_code
def yX10_plainTells : MethodName := ⟨RX10, "plainTells", "(II)I"⟩
abbrev cX10_telling : ByteArray := prog_12_method_106_code
def yX10_telling : MethodName := ⟨RX10, "telling", "(II)I"⟩
abbrev cX10_act : ByteArray := prog_12_method_107_code
def yX10_act : MethodName := ⟨RX10, "act", "(III)I"⟩
abbrev cX10_count : ByteArray := prog_12_method_108_code
def yX10_count : MethodName := ⟨RX10, "count", "(I)I"⟩
abbrev cX10_isShelf : ByteArray := prog_12_method_109_code
def yX10_isShelf : MethodName := ⟨RX10, "isShelf", "(I)Z"⟩
abbrev cX10_keep : ByteArray := prog_12_method_110_code
def yX10_keep : MethodName := ⟨RX10, "keep", "(II)I"⟩
abbrev cX10_row : ByteArray := prog_12_method_111_code
def yX10_row : MethodName := ⟨RX10, "row", "(III)I"⟩
abbrev cX10_whyNoPlace : ByteArray := prog_12_method_112_code
def yX10_whyNoPlace : MethodName := ⟨RX10, "whyNoPlace", "(II)I"⟩
abbrev cX10_put : ByteArray := prog_12_method_113_code
def yX10_put : MethodName := ⟨RX10, "put", "(IIJ)I"⟩
abbrev cX10_element : ByteArray := prog_12_method_114_code
def yX10_element : MethodName := ⟨RX10, "element", "(II)J"⟩
abbrev cX10_shift : ByteArray := prog_12_method_115_code
def yX10_shift : MethodName := ⟨RX10, "shift", "(IIIII)I"⟩
abbrev cX10_taken : ByteArray := prog_12_method_116_code
def yX10_taken : MethodName := ⟨RX10, "taken", "(II)I"⟩
def RJ9 : String := "java/lang/Math"
def TJ9 : u_T := fun k => match k with
  | _ => ("", "", "", false)
def tyJ9 : Nat → FieldType := fun k => match k with
  | _ => .int
abbrev wsJ90 : List Cond := u_ws RJ9 TJ9 0
theorem nmJ9 : ∀ a, a < 0 → ∀ b, b < 0 → a ≠ b → (TJ9 a).2.1 ≠ (TJ9 b).2.1 := by decide +kernel
theorem tyJ9_ok : ∀ k, k < 0 → parseFieldDescriptor (TJ9 k).2.2.1 = some (tyJ9 k) := by decide +kernel
abbrev cJ9_max_7cf53 : ByteArray := prog_13_method_65_code
def yJ9_max_7cf53 : MethodName := ⟨RJ9, "max", "(II)I"⟩
abbrev cJ9_min_7cf53 : ByteArray := prog_13_method_69_code
def yJ9_min_7cf53 : MethodName := ⟨RJ9, "min", "(II)I"⟩
def RJ10 : String := "java/lang/System"
def TJ10 : u_T := fun k => match k with
  | _ => ("", "", "", false)
def tyJ10 : Nat → FieldType := fun k => match k with
  | _ => .int
abbrev wsJ100 : List Cond := u_ws RJ10 TJ10 0
theorem nmJ10 : ∀ a, a < 0 → ∀ b, b < 0 → a ≠ b → (TJ10 a).2.1 ≠ (TJ10 b).2.1 := by decide +kernel
theorem tyJ10_ok : ∀ k, k < 0 → parseFieldDescriptor (TJ10 k).2.2.1 = some (tyJ10 k) := by decide +kernel
def RL : String := "PennyALapLaw"
abbrev cL_law : ByteArray := code
def yL_law : MethodName := ⟨RL, "law", "([I)Z"⟩
def kCl : List vw_C := [(RX0, TX0, 4), (RX1, TX1, 5), (RX2, TX2, 5), (RX3, TX3, 8), (RX4, TX4, 5), (RX5, TX5, 9), (RX6, TX6, 5), (RX7, TX7, 4), (RX8, TX8, 4), (RX9, TX9, 11), (RX10, TX10, 59)]
def kZs : kZt := ([("PennyALap", "LEAST", 1000), ("PennyALap", "MOST", 1001), ("PennyALap", "AT_FIRST", 1002), ("PennyALap$Bodies", "ABOVE", 1003), ("PennyALap$Bodies", "BODY_FOR", 1004)], [.fieldLinkNest "PennyALap$Folk" 22 "PennyALap" "AT_FIRST" "[I" "PennyALap", .fieldLinkNest "PennyALap$Folk" 51 "PennyALap" "LEAST" "[I" "PennyALap", .fieldLinkNest "PennyALap$Folk" 54 "PennyALap" "MOST" "[I" "PennyALap", .methodLinkNest "PennyALap$Folk" 57 ⟨"PennyALap", "within", "(III)Z"⟩ "PennyALap", .methodLinkNest "PennyALap$Thought" 51 ⟨"PennyALap", "within", "(III)Z"⟩ "PennyALap"])
def kMis0 : List kMi := [(yX0_bodies, cX0_bodies, 1, (some .int), 0, false, 0), (yX0_ran, cX0_ran, 1, (some .int), 0, false, 0), (yX0_isKind, cX0_isKind, 2, (some .boolean), 1, false, 0), (yX0_isBody, cX0_isBody, 2, (some .boolean), 1, false, 0), (yX0_kindOf, cX0_kindOf, 2, (some .int), 1, false, 0), (yX0_bodyComes, cX0_bodyComes, 2, (some .int), 1, false, 0), (yX0_isUnder, cX0_isUnder, 5, (some .boolean), 2, false, 0), (yX0_traced, cX0_traced, 2, (some .int), 1, false, 0), (yX0_begin, cX0_begin, 4, (some .int), 3, false, 0), (yX0_own, cX0_own, 5, (some .int), 4, false, 0), (yX0_higher, cX0_higher, 6, (some .int), 5, false, 0), (yX0_from, cX0_from, 8, (some .int), 5, false, 0), (yX0_perform, cX0_perform, 5, (some .int), 4, false, 0), (yX1_undoable, cX1_undoable, 1, (some .int), 0, false, 1), (yX1_add, cX1_add, 4, none, 3, false, 1), (yX1_forgetOldest, cX1_forgetOldest, 1, none, 0, false, 1), (yX1_undoOne, cX1_undoOne, 2, (some .int), 1, false, 1), (yX1_redoOne, cX1_redoOne, 2, (some .int), 1, false, 1), (yX2_begin, cX2_begin, 2, none, 0, false, 2), (yX2_remindIn, cX2_remindIn, 2, none, 1, false, 2)]
def kMis1 : List kMi := [(yX2_cameBy, cX2_cameBy, 5, (some .int), 2, false, 2), (yX2_startWeeks, cX2_startWeeks, 2, none, 0, false, 2), (yX2_comesIn, cX2_comesIn, 7, (some .int), 1, false, 2), (yX2_weeksTill, cX2_weeksTill, 5, (some .int), 1, false, 2), (yX2_bestWeek, cX2_bestWeek, 6, (some .int), 1, false, 2), (yX3_lapsOf, cX3_lapsOf, 2, (some .int), 1, false, 3), (yX3_minutesOf, cX3_minutesOf, 2, (some .int), 1, false, 3), (yX3_paidBy, cX3_paidBy, 2, (some .int), 1, false, 3), (yX3_ledLaps, cX3_ledLaps, 1, (some .int), 0, false, 3), (yX3_ledPence, cX3_ledPence, 1, (some .int), 0, false, 3), (yX3_ledMinutes, cX3_ledMinutes, 1, (some .int), 0, false, 3), (yX3_fields, cX3_fields, 1, (some .int), 0, false, 3), (yX3_surprises, cX3_surprises, 1, (some .int), 0, false, 3), (yX3_lapsOfField, cX3_lapsOfField, 6, (some .int), 0, false, 3), (yX3_lapRun, cX3_lapRun, 3, none, 2, false, 3), (yX3_asked, cX3_asked, 4, none, 3, false, 3), (yX3_newField, cX3_newField, 2, none, 0, false, 3), (yX3_becomeLike, cX3_becomeLike, 2, none, 1, false, 3), (yX4_childCount, cX4_childCount, 1, (some .int), 0, false, 4), (yX4_sponsorCount, cX4_sponsorCount, 1, (some .int), 0, false, 4)]
def kMis2 : List kMi := [(yX4_isChild, cX4_isChild, 2, (some .boolean), 1, false, 4), (yX4_isSponsor, cX4_isSponsor, 2, (some .boolean), 1, false, 4), (yX4_childOf, cX4_childOf, 2, (some .int), 1, false, 4), (yX4_place, cX4_place, 3, (some .int), 2, false, 4), (yX4_at, cX4_at, 2, (some .int), 1, false, 4), (yX4_become, cX4_become, 3, none, 2, false, 4), (yX4_told, cX4_told, 3, (some .int), 2, false, 4), (yX4_childComes, cX4_childComes, 4, (some .int), 1, false, 4), (yX4_maySponsor, cX4_maySponsor, 4, (some .boolean), 3, false, 4), (yX4_sponsorComes, cX4_sponsorComes, 6, (some .int), 3, false, 4), (yX4_lapTakes, cX4_lapTakes, 8, (some .int), 3, false, 4), (yX4_minutesOfLaps, cX4_minutesOfLaps, 5, (some .int), 2, false, 4), (yX4_owedWithoutTop, cX4_owedWithoutTop, 5, (some .int), 2, false, 4), (yX4_owedBy, cX4_owedBy, 5, (some .int), 2, false, 4), (yX4_paidBy, cX4_paidBy, 3, (some .int), 2, false, 4), (yX4_isSurprised, cX4_isSurprised, 3, (some .boolean), 2, false, 4), (yX4_owedTo, cX4_owedTo, 5, (some .int), 2, false, 4), (yX4_paidTo, cX4_paidTo, 5, (some .int), 2, false, 4), (yX5_fed, cX5_fed, 1, (some .int), 0, false, 5), (yX5_takeByte, cX5_takeByte, 2, (some .int), 1, false, 5)]
def kMis3 : List kMi := [(yX5_takeTape, cX5_takeTape, 3, (some .int), 0, false, 5), (yX5_readLines, cX5_readLines, 2, (some .int), 0, false, 5), (yX5_readLine, cX5_readLine, 1, (some .boolean), 0, false, 5), (yX5_readJoined, cX5_readJoined, 6, (some .boolean), 2, false, 5), (yX5_readOperand, cX5_readOperand, 4, (some .boolean), 1, false, 5), (yX5_readClosing, cX5_readClosing, 2, (some .boolean), 0, false, 5), (yX5_readNumber, cX5_readNumber, 3, none, 0, false, 5), (yX5_sign, cX5_sign, 1, (some .int), 0, false, 5), (yX5_write, cX5_write, 2, none, 1, false, 5), (yX5_isDigit, cX5_isDigit, 1, (some .boolean), 1, true, 5), (yX5_nameOf, cX5_nameOf, 1, (some .int), 1, true, 5), (yX5_levelOf, cX5_levelOf, 1, (some .int), 1, true, 5), (yX5_isThere, cX5_isThere, 1, (some .boolean), 0, false, 5), (yX5_ofChild, cX5_ofChild, 5, none, 4, false, 5), (yX5_gives, cX5_gives, 6, (some .int), 2, false, 5), (yX5_turned, cX5_turned, 2, (some .int), 2, true, 5), (yX5_joined, cX5_joined, 3, (some .int), 3, true, 5), (yX5_truth, cX5_truth, 1, (some .int), 1, true, 5), (yX6_make, cX6_make, 4, none, 1, false, 6), (yX6_weigh, cX6_weigh, 3, none, 1, false, 6)]
def kMis4 : List kMi := [(yX6_bestOf, cX6_bestOf, 9, (some .int), 2, false, 6), (yX6_worthWith, cX6_worthWith, 5, (some .int), 3, false, 6), (yX6_choose, cX6_choose, 5, none, 1, false, 6), (yX6_lapsOf, cX6_lapsOf, 2, (some .int), 1, false, 6), (yX6_pence, cX6_pence, 3, (some .int), 0, false, 6), (yX6_minutesUsed, cX6_minutesUsed, 3, (some .int), 0, false, 6), (yX7_isShelf, cX7_isShelf, 2, (some .boolean), 1, false, 7), (yX7_isEmpty, cX7_isEmpty, 2, (some .boolean), 1, false, 7), (yX7_isRow, cX7_isRow, 2, (some .boolean), 1, false, 7), (yX7_areAlike, cX7_areAlike, 3, (some .boolean), 2, false, 7), (yX7_refusal, cX7_refusal, 3, (some .int), 2, false, 7), (yX7_placeRefusal, cX7_placeRefusal, 3, (some .int), 2, false, 7), (yX7_isPlace, cX7_isPlace, 3, (some .boolean), 2, false, 7), (yX7_size, cX7_size, 2, (some .int), 1, false, 7), (yX7_bodyOn, cX7_bodyOn, 2, (some .int), 1, false, 7), (yX7_hold, cX7_hold, 3, none, 2, false, 7), (yX7_holdRow, cX7_holdRow, 5, none, 3, false, 7), (yX7_value, cX7_value, 3, (some .long), 2, false, 7), (yX7_become, cX7_become, 5, none, 3, false, 7), (yX7_cut, cX7_cut, 3, (some .long), 2, true, 7)]
def kMis5 : List kMi := [(yX7_hasPart, cX7_hasPart, 4, (some .boolean), 3, false, 7), (yX7_copyPart, cX7_copyPart, 6, none, 5, false, 7), (yX8_lapsIn, cX8_lapsIn, 6, (some .int), 2, false, 8), (yX8_think, cX8_think, 3, none, 1, false, 8), (yX8_lapsNow, cX8_lapsNow, 2, (some .int), 1, false, 8), (yX8_timeLaps, cX8_timeLaps, 7, none, 1, false, 8), (yX8_reachOf, cX8_reachOf, 2, (some .int), 1, false, 8), (yX8_endOf, cX8_endOf, 3, (some .int), 2, false, 8), (yX8_beginMinutes, cX8_beginMinutes, 3, none, 1, false, 8), (yX8_goOnTo, cX8_goOnTo, 4, (some .boolean), 1, false, 8), (yX8_drawField, cX8_drawField, 5, (some .int), 2, false, 8), (yX8_drawLaps, cX8_drawLaps, 10, (some .int), 3, false, 8), (yX8_lapsOfAll, cX8_lapsOfAll, 3, (some .int), 0, false, 8), (yX8_owedByAll, cX8_owedByAll, 3, (some .int), 0, false, 8), (yX8_paidByAll, cX8_paidByAll, 3, (some .int), 0, false, 8), (yX8_surprised, cX8_surprised, 3, (some .int), 0, false, 8), (yX8_mostLaps, cX8_mostLaps, 4, (some .int), 0, false, 8), (yX8_mostPence, cX8_mostPence, 5, (some .int), 0, false, 8), (yX9_within, cX9_within, 3, (some .boolean), 3, true, 9), (yX9_isPair, cX9_isPair, 4, (some .boolean), 4, true, 9)]
def kMis6 : List kMi := [(yX9_child, cX9_child, 2, (some .int), 1, false, 9), (yX9_sponsor, cX9_sponsor, 3, (some .int), 2, false, 9), (yX9_sponsors, cX9_sponsors, 5, (some .int), 3, false, 9), (yX9_sponsorsFromRow, cX9_sponsorsFromRow, 10, (some .int), 3, false, 9), (yX9_mend, cX9_mend, 6, (some .int), 3, false, 9), (yX9_of, cX9_of, 4, (some .int), 2, false, 9), (yX9_feed, cX9_feed, 2, (some .int), 1, false, 9), (yX9_law, cX9_law, 2, (some .int), 0, false, 9), (yX9_lap, cX9_lap, 3, (some .int), 2, false, 9), (yX9_laps, cX9_laps, 5, (some .int), 3, false, 9), (yX9_minutes, cX9_minutes, 4, (some .int), 2, false, 9), (yX9_most, cX9_most, 3, (some .int), 2, false, 9), (yX9_owes, cX9_owes, 4, (some .int), 3, false, 9), (yX9_more, cX9_more, 3, (some .int), 2, false, 9), (yX9_done, cX9_done, 3, (some .int), 1, false, 9), (yX9_lapOrSum, cX9_lapOrSum, 4, (some .int), 2, false, 9), (yX9_top, cX9_top, 3, (some .int), 1, false, 9), (yX9_howLong, cX9_howLong, 3, (some .int), 1, false, 9), (yX9_field, cX9_field, 3, (some .int), 2, false, 9), (yX9_comes, cX9_comes, 4, (some .int), 2, false, 9)]
def kMis7 : List kMi := [(yX9_by, cX9_by, 4, (some .int), 2, false, 9), (yX9_remind, cX9_remind, 7, (some .int), 3, false, 9), (yX9_readReminders, cX9_readReminders, 4, none, 2, false, 9), (yX9_judge, cX9_judge, 4, (some .int), 2, false, 9), (yX9_firstAmiss, cX9_firstAmiss, 5, (some .int), 1, false, 9), (yX9_lapsFor, cX9_lapsFor, 6, (some .int), 3, false, 9), (yX9_minutesFor, cX9_minutesFor, 4, (some .int), 1, false, 9), (yX9_whose, cX9_whose, 7, (some .int), 3, false, 9), (yX9_oak, cX9_oak, 7, (some .int), 3, false, 9), (yX9_cheats, cX9_cheats, 4, (some .boolean), 3, false, 9), (yX9_lapsSaid, cX9_lapsSaid, 3, (some .int), 2, false, 9), (yX9_drawn, cX9_drawn, 7, (some .int), 3, false, 9), (yX9_run, cX9_run, 5, (some .int), 1, false, 9), (yX9_ask, cX9_ask, 4, (some .int), 1, false, 9), (yX9_anew, cX9_anew, 2, (some .int), 0, false, 9), (yX9_led, cX9_led, 2, (some .int), 1, false, 9), (yX9_image, cX9_image, 1, (some .int), 0, false, 9), (yX9_back, cX9_back, 1, (some .int), 0, false, 9), (yX9_undo, cX9_undo, 1, (some .int), 0, false, 9), (yX9_redo, cX9_redo, 1, (some .int), 0, false, 9)]
def kMis8 : List kMi := [(yX9_body, cX9_body, 2, (some .int), 1, false, 9), (yX9_act, cX9_act, 4, (some .int), 3, false, 9), (yX9_trace, cX9_trace, 2, (some .int), 1, false, 9), (yX9_keep, cX9_keep, 3, (some .int), 2, false, 9), (yX9_row, cX9_row, 4, (some .int), 3, false, 9), (yX9_put, cX9_put, 6, (some .int), 3, false, 9), (yX9_element, cX9_element, 3, (some .long), 2, false, 9), (yX9_shift, cX9_shift, 6, (some .int), 5, false, 9), (yX9_taken, cX9_taken, 5, (some .int), 2, false, 9), (yX9_count, cX9_count, 2, (some .int), 1, false, 9), (yX10_in, cX10_in, 3, (some .boolean), 3, true, 10), (yX10_isChild, cX10_isChild, 2, (some .boolean), 1, false, 10), (yX10_isSponsor, cX10_isSponsor, 2, (some .boolean), 1, false, 10), (yX10_child, cX10_child, 2, (some .int), 1, false, 10), (yX10_addSponsor, cX10_addSponsor, 4, (some .int), 3, false, 10), (yX10_sponsor, cX10_sponsor, 3, (some .int), 2, false, 10), (yX10_sponsors, cX10_sponsors, 8, (some .int), 3, false, 10), (yX10_valueAt, cX10_valueAt, 3, (some .int), 2, false, 10), (yX10_lays, cX10_lays, 4, none, 3, false, 10), (yX10_changes, cX10_changes, 6, (some .int), 3, false, 10)]
def kMis9 : List kMi := [(yX10_undo, cX10_undo, 1, (some .int), 0, false, 10), (yX10_redo, cX10_redo, 1, (some .int), 0, false, 10), (yX10_isOne, cX10_isOne, 3, (some .boolean), 2, false, 10), (yX10_mayBe, cX10_mayBe, 2, (some .boolean), 2, true, 10), (yX10_mend, cX10_mend, 4, (some .int), 3, false, 10), (yX10_of, cX10_of, 3, (some .int), 2, false, 10), (yX10_feed, cX10_feed, 2, (some .int), 1, false, 10), (yX10_look, cX10_look, 1, (some .int), 0, false, 10), (yX10_wrong, cX10_wrong, 1, none, 0, false, 10), (yX10_addStep, cX10_addStep, 3, none, 2, false, 10), (yX10_nameOf, cX10_nameOf, 1, (some .int), 1, true, 10), (yX10_opens, cX10_opens, 1, (some .boolean), 0, false, 10), (yX10_figure, cX10_figure, 3, none, 0, false, 10), (yX10_operand, cX10_operand, 2, none, 0, false, 10), (yX10_product, cX10_product, 2, none, 0, false, 10), (yX10_sum, cX10_sum, 2, none, 0, false, 10), (yX10_compared, cX10_compared, 2, none, 0, false, 10), (yX10_both, cX10_both, 1, none, 0, false, 10), (yX10_either, cX10_either, 1, none, 0, false, 10), (yX10_line, cX10_line, 2, none, 0, false, 10)]
def kMis10 : List kMi := [(yX10_readText, cX10_readText, 3, (some .int), 1, false, 10), (yX10_twoOf, cX10_twoOf, 3, (some .int), 3, true, 10), (yX10_worked, cX10_worked, 7, (some .int), 3, false, 10), (yX10_gives, cX10_gives, 4, (some .int), 1, false, 10), (yX10_law, cX10_law, 2, (some .int), 0, false, 10), (yX10_lapOf, cX10_lapOf, 5, (some .int), 3, false, 10), (yX10_lap, cX10_lap, 3, (some .int), 2, false, 10), (yX10_isTime, cX10_isTime, 1, (some .boolean), 1, true, 10), (yX10_lapsBy, cX10_lapsBy, 5, (some .int), 2, false, 10), (yX10_minutesOf, cX10_minutesOf, 5, (some .int), 2, false, 10), (yX10_minutes, cX10_minutes, 3, (some .int), 2, false, 10), (yX10_plainOf, cX10_plainOf, 3, (some .int), 2, false, 10), (yX10_owesOf, cX10_owesOf, 4, (some .int), 2, false, 10), (yX10_paysOf, cX10_paysOf, 4, (some .int), 2, false, 10), (yX10_owes, cX10_owes, 4, (some .int), 3, false, 10), (yX10_owedTo, cX10_owedTo, 5, (some .int), 2, false, 10), (yX10_paidTo, cX10_paidTo, 5, (some .int), 2, false, 10), (yX10_goTo, cX10_goTo, 3, none, 1, false, 10), (yX10_lapsAll, cX10_lapsAll, 3, (some .int), 0, false, 10), (yX10_mostLaps, cX10_mostLaps, 3, (some .int), 0, false, 10)]
def kMis11 : List kMi := [(yX10_paidAll, cX10_paidAll, 3, (some .int), 0, false, 10), (yX10_laps, cX10_laps, 6, (some .int), 3, false, 10), (yX10_surprised, cX10_surprised, 3, (some .int), 0, false, 10), (yX10_mostPence, cX10_mostPence, 3, (some .int), 0, false, 10), (yX10_most, cX10_most, 3, (some .int), 2, false, 10), (yX10_moreBy, cX10_moreBy, 3, (some .int), 2, false, 10), (yX10_more, cX10_more, 3, (some .int), 2, false, 10), (yX10_done, cX10_done, 3, (some .int), 1, false, 10), (yX10_lapOrSum, cX10_lapOrSum, 4, (some .int), 2, false, 10), (yX10_top, cX10_top, 4, (some .int), 1, false, 10), (yX10_howLong, cX10_howLong, 3, (some .int), 1, false, 10), (yX10_partFrom, cX10_partFrom, 10, none, 1, false, 10), (yX10_field, cX10_field, 5, (some .int), 2, false, 10), (yX10_rowFault, cX10_rowFault, 3, (some .int), 2, false, 10), (yX10_at, cX10_at, 3, (some .int), 2, false, 10), (yX10_isTold, cX10_isTold, 4, (some .boolean), 2, false, 10), (yX10_beginRest, cX10_beginRest, 4, (some .int), 1, false, 10), (yX10_weekComes, cX10_weekComes, 5, (some .int), 1, false, 10), (yX10_comesBy, cX10_comesBy, 7, (some .int), 4, false, 10), (yX10_areWeeks, cX10_areWeeks, 1, (some .boolean), 1, true, 10)]
def kMis12 : List kMi := [(yX10_comes, cX10_comes, 4, (some .int), 2, false, 10), (yX10_by, cX10_by, 7, (some .int), 2, false, 10), (yX10_remind, cX10_remind, 9, (some .int), 3, false, 10), (yX10_wrongSheet, cX10_wrongSheet, 5, (some .int), 2, false, 10), (yX10_judge, cX10_judge, 4, (some .int), 2, false, 10), (yX10_lapsFor, cX10_lapsFor, 7, (some .int), 3, false, 10), (yX10_minutesFor, cX10_minutesFor, 4, (some .int), 1, false, 10), (yX10_whose, cX10_whose, 7, (some .int), 3, false, 10), (yX10_saidBy, cX10_saidBy, 3, (some .int), 2, false, 10), (yX10_oak, cX10_oak, 7, (some .int), 3, false, 10), (yX10_drawnLaps, cX10_drawnLaps, 6, (some .int), 2, false, 10), (yX10_drawn, cX10_drawn, 7, (some .int), 3, false, 10), (yX10_run, cX10_run, 3, (some .int), 1, false, 10), (yX10_ask, cX10_ask, 4, (some .int), 1, false, 10), (yX10_anew, cX10_anew, 3, (some .int), 0, false, 10), (yX10_led, cX10_led, 2, (some .int), 1, false, 10), (yX10_image, cX10_image, 2, (some .int), 0, false, 10), (yX10_back, cX10_back, 2, (some .int), 0, false, 10), (yX10_isBody, cX10_isBody, 2, (some .boolean), 1, false, 10), (yX10_ran, cX10_ran, 2, none, 1, false, 10)]
def kMis13 : List kMi := [(yX10_trace, cX10_trace, 2, (some .int), 1, false, 10), (yX10_body, cX10_body, 2, (some .int), 1, false, 10), (yX10_isUnder, cX10_isUnder, 2, (some .boolean), 2, true, 10), (yX10_plainRuns, cX10_plainRuns, 3, (some .int), 2, false, 10), (yX10_prizeRuns, cX10_prizeRuns, 3, (some .int), 2, false, 10), (yX10_running, cX10_running, 3, (some .int), 2, false, 10), (yX10_plainOwes, cX10_plainOwes, 3, (some .int), 2, false, 10), (yX10_sumOwes, cX10_sumOwes, 3, (some .int), 2, false, 10), (yX10_owing, cX10_owing, 4, (some .int), 2, false, 10), (yX10_plainPays, cX10_plainPays, 3, (some .int), 2, false, 10), (yX10_oakPays, cX10_oakPays, 3, (some .int), 2, false, 10), (yX10_paying, cX10_paying, 4, (some .int), 2, false, 10), (yX10_plainTells, cX10_plainTells, 4, (some .int), 2, false, 10), (yX10_telling, cX10_telling, 3, (some .int), 2, false, 10), (yX10_act, cX10_act, 4, (some .int), 3, false, 10), (yX10_count, cX10_count, 2, (some .int), 1, false, 10), (yX10_isShelf, cX10_isShelf, 1, (some .boolean), 1, true, 10), (yX10_keep, cX10_keep, 3, (some .int), 2, false, 10), (yX10_row, cX10_row, 5, (some .int), 3, false, 10), (yX10_whyNoPlace, cX10_whyNoPlace, 3, (some .int), 2, false, 10)]
def kMis14 : List kMi := [(yX10_put, cX10_put, 7, (some .int), 3, false, 10), (yX10_element, cX10_element, 3, (some .long), 2, false, 10), (yX10_shift, cX10_shift, 7, (some .int), 5, false, 10), (yX10_taken, cX10_taken, 3, (some .int), 2, false, 10)]
def kMis : List kMi := kMis0 ++ (kMis1 ++ (kMis2 ++ (kMis3 ++ (kMis4 ++ (kMis5 ++ (kMis6 ++ (kMis7 ++ (kMis8 ++ (kMis9 ++ (kMis10 ++ (kMis11 ++ (kMis12 ++ (kMis13 ++ (kMis14))))))))))))))
def kMi_ (m : Nat) : Option kMi := kMis[m]?
def kMxl : List Nat := [1, 1, 2, 2, 2, 2, 5, 2, 4, 5, 6, 8, 5, 1, 4, 1, 2, 2, 2, 2, 5, 2, 7, 5, 6, 2, 2, 2, 1, 1, 1, 1, 1, 6, 3, 4, 2, 2, 1, 1, 2, 2, 2, 3, 2, 3, 3, 4, 4, 6, 8, 5, 5, 5, 3, 3, 5, 5, 1, 2, 3, 2, 1, 6, 4, 2, 3, 1, 2, 1, 1, 1, 1, 5, 6, 2, 3, 1, 4, 3, 9, 5, 5, 2, 3, 3, 2, 2, 2, 3, 3, 3, 3, 2, 2, 3, 5, 3, 5, 3, 4, 6, 6, 3, 2, 7, 2, 3, 3, 4, 5, 10, 3, 3, 3, 3, 4, 5, 3, 4, 2, 3, 5, 10, 6, 4, 2, 2, 3, 5, 4, 3, 4, 3, 3, 4, 3, 3, 3, 4, 4, 7, 4, 4, 5, 6, 4, 7, 7, 4, 3, 7, 5, 4, 2, 2, 1, 1, 1, 1, 2, 4, 2, 3, 4, 6, 3, 6, 5, 2, 3, 2, 2, 2, 4, 3, 8, 3, 4, 6, 1, 1, 3, 2, 4, 3, 2, 1, 1, 3, 1, 1, 3, 2, 2, 2, 2, 1, 1, 2, 3, 3, 7, 4, 2, 5, 3, 1, 5, 5, 3, 3, 4, 4, 4, 5, 5, 3, 3, 3, 3, 6, 3, 3, 3, 3, 3, 3, 4, 4, 3, 10, 5, 3, 3, 4, 4, 5, 7, 1, 4, 7, 9, 5, 4, 7, 4, 7, 3, 7, 6, 7, 3, 4, 3, 2, 2, 2, 2, 2, 2, 2, 2, 3, 3, 3, 3, 3, 4, 3, 3, 4, 4, 3, 4, 2, 1, 3, 5, 3, 7, 3, 7, 3]
def kRcl : List (Option Nat) := [some 0, some 0, some 0, some 0, some 0, some 0, some 0, some 0, some 0, some 0, some 0, some 0, some 0, some 1, some 1, some 1, some 1, some 1, some 2, some 2, some 2, some 2, some 2, some 2, some 2, some 3, some 3, some 3, some 3, some 3, some 3, some 3, some 3, some 3, some 3, some 3, some 3, some 3, some 4, some 4, some 4, some 4, some 4, some 4, some 4, some 4, some 4, some 4, some 4, some 4, some 4, some 4, some 4, some 4, some 4, some 4, some 4, some 4, some 5, some 5, some 5, some 5, some 5, some 5, some 5, some 5, some 5, some 5, some 5, none, none, none, some 5, some 5, some 5, none, none, none, some 6, some 6, some 6, some 6, some 6, some 6, some 6, some 6, some 7, some 7, some 7, some 7, some 7, some 7, some 7, some 7, some 7, some 7, some 7, some 7, some 7, none, some 7, some 7, some 8, some 8, some 8, some 8, some 8, some 8, some 8, some 8, some 8, some 8, some 8, some 8, some 8, some 8, some 8, some 8, none, none, some 9, some 9, some 9, some 9, some 9, some 9, some 9, some 9, some 9, some 9, some 9, some 9, some 9, some 9, some 9, some 9, some 9, some 9, some 9, some 9, some 9, some 9, some 9, some 9, some 9, some 9, some 9, some 9, some 9, some 9, some 9, some 9, some 9, some 9, some 9, some 9, some 9, some 9, some 9, some 9, some 9, some 9, some 9, some 9, some 9, some 9, some 9, some 9, some 9, some 9, none, some 10, some 10, some 10, some 10, some 10, some 10, some 10, some 10, some 10, some 10, some 10, some 10, none, some 10, some 10, some 10, some 10, some 10, some 10, none, some 10, some 10, some 10, some 10, some 10, some 10, some 10, some 10, some 10, some 10, none, some 10, some 10, some 10, some 10, some 10, none, some 10, some 10, some 10, some 10, some 10, some 10, some 10, some 10, some 10, some 10, some 10, some 10, some 10, some 10, some 10, some 10, some 10, some 10, some 10, some 10, some 10, some 10, some 10, some 10, some 10, some 10, some 10, some 10, some 10, some 10, some 10, none, some 10, some 10, some 10, some 10, some 10, some 10, some 10, some 10, some 10, some 10, some 10, some 10, some 10, some 10, some 10, some 10, some 10, some 10, some 10, some 10, some 10, some 10, none, some 10, some 10, some 10, some 10, some 10, some 10, some 10, some 10, some 10, some 10, some 10, some 10, some 10, none, some 10, some 10, some 10, some 10, some 10, some 10, some 10]
def kMx_ (m : Nat) : Nat := kMxl.getD m 0
def kRc_ (m : Nat) : Option Nat := kRcl.getD m none
end
section
-- laid by wip/whole/gen.py
def kAt_ (tbl : List Jvm.Cond) (p : Nat) (w : Jvm.Cond) : Bool := decide (tbl[p]? = some w) && goodWord w
theorem kAt_mem {tbl : List Jvm.Cond} {p : Nat} {w : Jvm.Cond} (h : kAt_ tbl p w = true) : w ∈ tbl.filter goodWord := by
  have h := Bool.and_eq_true_iff.mp h
  exact List.mem_filter.mpr ⟨List.mem_of_getElem? (of_decide_eq_true h.1), h.2⟩
def kTbl : List Jvm.Cond := lw_tbl.filter goodWord
theorem kTbl_in : ∀ w ∈ kTbl, w ∈ lw_tbl := fun _ h => (List.mem_filter.mp h).1
def kAll2 {α β : Type} (f : α → β → Bool) : List α → List β → Bool
  | [], [] => true
  | x :: xs, p :: ps => f x p && kAll2 f xs ps
  | _, _ => false
theorem kAll2_ok {α β : Type} {f : α → β → Bool} : ∀ (xs : List α) (ps : List β), kAll2 f xs ps = true → ∀ x ∈ xs, ∃ p, f x p = true
  | [], [], _, x, hx => by cases hx
  | x :: xs, p :: ps, h, z, hz => by
    simp only [kAll2, Bool.and_eq_true] at h
    rcases List.mem_cons.mp hz with rfl | hz
    · exact ⟨p, h.1⟩
    · exact kAll2_ok xs ps h.2 z hz
  | [], _ :: _, h, _, _ => by cases h
  | _ :: _, [], h, _, _ => by cases h
def kMokB (tbl : List Jvm.Cond) (cl : List vw_C) (M : kMi) (p : Nat × Nat × Nat) : Bool := plainName M.1.cls && kAt_ tbl p.1 (.initialized M.1.cls) && decide (M.1.cls ≠ "java/lang/invoke/MethodHandle") && decide (M.1.cls ≠ "java/lang/invoke/VarHandle")
  && decide ((parseMethodDescriptor M.1.desc).map (fun d => d.parameters.length) = some M.2.2.2.2.1) && decide (M.2.2.1 ≤ 45)
  && (if M.2.2.2.2.2.1 = true then kAt_ tbl p.2.1 (.static M.1) else (kAt_ tbl p.2.1 (.instanceMethod M.1) && kAt_ tbl p.2.2 (.selects M.1.cls M.1 M.1) && (match cl[M.2.2.2.2.2.2]? with
    | some q => decide (q.1 = M.1.cls)
    | none => false)))
theorem kMokB_ok {tbl : List Jvm.Cond} {cl : List vw_C} {M : kMi} {p : Nat × Nat × Nat} (hc : Jvm.Cond.code M.1 M.2.1 M.2.2.1 M.2.2.2.1 ∈ tbl.filter goodWord) (h : kMokB tbl cl M p = true) : kMok (tbl.filter goodWord) cl M := by
  simp only [kMokB, Bool.and_eq_true, decide_eq_true_eq] at h
  obtain ⟨⟨⟨⟨⟨⟨h1, h2⟩, h3⟩, h4⟩, h5⟩, h6⟩, h7⟩ := h
  refine ⟨h1, hc, kAt_mem h2, ⟨h3, h4⟩, h5, h6, fun hs => ?_, fun hs => ?_⟩
  · rw [if_pos hs] at h7; exact kAt_mem h7
  · rw [if_neg (by rw [hs]; decide)] at h7
    simp only [Bool.and_eq_true] at h7
    refine ⟨kAt_mem h7.1.1, kAt_mem h7.1.2, ?_⟩
    have h8 := h7.2
    split at h8
    · rename_i q hq; exact ⟨q, hq, of_decide_eq_true h8⟩
    · cases h8
theorem kGood : ∀ w ∈ kTbl, goodWord w = true := fun _ h => (List.mem_filter.mp h).2
set_option maxRecDepth 100000 in
theorem kMisB0 : kAll2 (kMokB lw_tbl kCl) kMis0 [(96, 1097, 1098), (96, 1101, 1102), (96, 958, 959), (96, 974, 975), (96, 982, 983), (96, 962, 963), (96, 1080, 1081), (96, 1007, 1008), (96, 970, 971), (96, 979, 22), (96, 1000, 25), (96, 987, 23), (96, 996, 24), (91, 1093, 1094), (91, 445, 446), (91, 450, 2), (91, 941, 942), (91, 950, 951), (94, 777, 778), (94, 785, 786)] = true := by decide +kernel
set_option maxRecDepth 100000 in
set_option maxHeartbeats 4000000 in
theorem kMisC0 : ∀ M ∈ kMis0, Jvm.Cond.code M.1 M.2.1 M.2.2.1 M.2.2.2.1 ∈ kTbl := (List.forall_mem_cons.mpr ⟨List.mem_filter.mpr ⟨(List.mem_append_right _ (List.mem_append_right _ (List.mem_append_right _ (List.mem_append_right _ (List.mem_append_right _ (List.mem_append_left _ (List.mem_of_getElem? (i := 52) rfl))))))), rfl⟩, (List.forall_mem_cons.mpr ⟨List.mem_filter.mpr ⟨(List.mem_append_right _ (List.mem_append_right _ (List.mem_append_right _ (List.mem_append_right _ (List.mem_append_right _ (List.mem_append_left _ (List.mem_of_getElem? (i := 56) rfl))))))), rfl⟩, (List.forall_mem_cons.mpr ⟨List.mem_filter.mpr ⟨(List.mem_append_right _ (List.mem_append_right _ (List.mem_append_right _ (List.mem_append_right _ (List.mem_append_left _ (List.mem_of_getElem? (i := 153) rfl)))))), rfl⟩, (List.forall_mem_cons.mpr ⟨List.mem_filter.mpr ⟨(List.mem_append_right _ (List.mem_append_right _ (List.mem_append_right _ (List.mem_append_right _ (List.mem_append_left _ (List.mem_of_getElem? (i := 169) rfl)))))), rfl⟩, (List.forall_mem_cons.mpr ⟨List.mem_filter.mpr ⟨(List.mem_append_right _ (List.mem_append_right _ (List.mem_append_right _ (List.mem_append_right _ (List.mem_append_left _ (List.mem_of_getElem? (i := 177) rfl)))))), rfl⟩, (List.forall_mem_cons.mpr ⟨List.mem_filter.mpr ⟨(List.mem_append_right _ (List.mem_append_right _ (List.mem_append_right _ (List.mem_append_right _ (List.mem_append_left _ (List.mem_of_getElem? (i := 157) rfl)))))), rfl⟩, (List.forall_mem_cons.mpr ⟨List.mem_filter.mpr ⟨(List.mem_append_right _ (List.mem_append_right _ (List.mem_append_right _ (List.mem_append_right _ (List.mem_append_right _ (List.mem_append_left _ (List.mem_of_getElem? (i := 35) rfl))))))), rfl⟩, (List.forall_mem_cons.mpr ⟨List.mem_filter.mpr ⟨(List.mem_append_right _ (List.mem_append_right _ (List.mem_append_right _ (List.mem_append_right _ (List.mem_append_left _ (List.mem_of_getElem? (i := 202) rfl)))))), rfl⟩, (List.forall_mem_cons.mpr ⟨List.mem_filter.mpr ⟨(List.mem_append_right _ (List.mem_append_right _ (List.mem_append_right _ (List.mem_append_right _ (List.mem_append_left _ (List.mem_of_getElem? (i := 165) rfl)))))), rfl⟩, (List.forall_mem_cons.mpr ⟨List.mem_filter.mpr ⟨(List.mem_append_right _ (List.mem_append_right _ (List.mem_append_right _ (List.mem_append_right _ (List.mem_append_left _ (List.mem_of_getElem? (i := 173) rfl)))))), rfl⟩, (List.forall_mem_cons.mpr ⟨List.mem_filter.mpr ⟨(List.mem_append_right _ (List.mem_append_right _ (List.mem_append_right _ (List.mem_append_right _ (List.mem_append_left _ (List.mem_of_getElem? (i := 194) rfl)))))), rfl⟩, (List.forall_mem_cons.mpr ⟨List.mem_filter.mpr ⟨(List.mem_append_right _ (List.mem_append_right _ (List.mem_append_right _ (List.mem_append_right _ (List.mem_append_left _ (List.mem_of_getElem? (i := 181) rfl)))))), rfl⟩, (List.forall_mem_cons.mpr ⟨List.mem_filter.mpr ⟨(List.mem_append_right _ (List.mem_append_right _ (List.mem_append_right _ (List.mem_append_right _ (List.mem_append_left _ (List.mem_of_getElem? (i := 190) rfl)))))), rfl⟩, (List.forall_mem_cons.mpr ⟨List.mem_filter.mpr ⟨(List.mem_append_right _ (List.mem_append_right _ (List.mem_append_right _ (List.mem_append_right _ (List.mem_append_right _ (List.mem_append_left _ (List.mem_of_getElem? (i := 48) rfl))))))), rfl⟩, (List.forall_mem_cons.mpr ⟨List.mem_filter.mpr ⟨(List.mem_append_right _ (List.mem_append_right _ (List.mem_append_left _ (List.mem_of_getElem? (i := 120) rfl)))), rfl⟩, (List.forall_mem_cons.mpr ⟨List.mem_filter.mpr ⟨(List.mem_append_right _ (List.mem_append_right _ (List.mem_append_left _ (List.mem_of_getElem? (i := 124) rfl)))), rfl⟩, (List.forall_mem_cons.mpr ⟨List.mem_filter.mpr ⟨(List.mem_append_right _ (List.mem_append_right _ (List.mem_append_right _ (List.mem_append_right _ (List.mem_append_left _ (List.mem_of_getElem? (i := 136) rfl)))))), rfl⟩, (List.forall_mem_cons.mpr ⟨List.mem_filter.mpr ⟨(List.mem_append_right _ (List.mem_append_right _ (List.mem_append_right _ (List.mem_append_right _ (List.mem_append_left _ (List.mem_of_getElem? (i := 145) rfl)))))), rfl⟩, (List.forall_mem_cons.mpr ⟨List.mem_filter.mpr ⟨(List.mem_append_right _ (List.mem_append_right _ (List.mem_append_right _ (List.mem_append_left _ (List.mem_of_getElem? (i := 212) rfl))))), rfl⟩, (List.forall_mem_cons.mpr ⟨List.mem_filter.mpr ⟨(List.mem_append_right _ (List.mem_append_right _ (List.mem_append_right _ (List.mem_append_left _ (List.mem_of_getElem? (i := 220) rfl))))), rfl⟩, (fun _ h => absurd h List.not_mem_nil)⟩)⟩)⟩)⟩)⟩)⟩)⟩)⟩)⟩)⟩)⟩)⟩)⟩)⟩)⟩)⟩)⟩)⟩)⟩)⟩)
theorem kMisM0 : ∀ M ∈ kMis0, kMok kTbl kCl M := fun M h => (kAll2_ok _ _ kMisB0 M h).elim (fun _ q => kMokB_ok (kMisC0 M h) q)
set_option maxRecDepth 100000 in
theorem kMisB1 : kAll2 (kMokB lw_tbl kCl) kMis1 [(94, 789, 790), (94, 794, 16), (94, 798, 17), (94, 808, 809), (94, 816, 817), (95, 474, 475), (95, 478, 479), (95, 470, 471), (95, 904, 905), (95, 908, 909), (95, 916, 917), (95, 912, 913), (95, 920, 921), (95, 892, 893), (95, 875, 876), (95, 884, 885), (95, 896, 897), (95, 928, 929), (90, 590, 591), (90, 657, 658)] = true := by decide +kernel
set_option maxRecDepth 100000 in
set_option maxHeartbeats 4000000 in
theorem kMisC1 : ∀ M ∈ kMis1, Jvm.Cond.code M.1 M.2.1 M.2.2.1 M.2.2.2.1 ∈ kTbl := (List.forall_mem_cons.mpr ⟨List.mem_filter.mpr ⟨(List.mem_append_right _ (List.mem_append_right _ (List.mem_append_right _ (List.mem_append_left _ (List.mem_of_getElem? (i := 224) rfl))))), rfl⟩, (List.forall_mem_cons.mpr ⟨List.mem_filter.mpr ⟨(List.mem_append_right _ (List.mem_append_right _ (List.mem_append_right _ (List.mem_append_left _ (List.mem_of_getElem? (i := 228) rfl))))), rfl⟩, (List.forall_mem_cons.mpr ⟨List.mem_filter.mpr ⟨(List.mem_append_right _ (List.mem_append_right _ (List.mem_append_right _ (List.mem_append_left _ (List.mem_of_getElem? (i := 232) rfl))))), rfl⟩, (List.forall_mem_cons.mpr ⟨List.mem_filter.mpr ⟨(List.mem_append_right _ (List.mem_append_right _ (List.mem_append_right _ (List.mem_append_right _ (List.mem_append_left _ (List.mem_of_getElem? (i := 3) rfl)))))), rfl⟩, (List.forall_mem_cons.mpr ⟨List.mem_filter.mpr ⟨(List.mem_append_right _ (List.mem_append_right _ (List.mem_append_right _ (List.mem_append_right _ (List.mem_append_left _ (List.mem_of_getElem? (i := 11) rfl)))))), rfl⟩, (List.forall_mem_cons.mpr ⟨List.mem_filter.mpr ⟨(List.mem_append_right _ (List.mem_append_right _ (List.mem_append_left _ (List.mem_of_getElem? (i := 149) rfl)))), rfl⟩, (List.forall_mem_cons.mpr ⟨List.mem_filter.mpr ⟨(List.mem_append_right _ (List.mem_append_right _ (List.mem_append_left _ (List.mem_of_getElem? (i := 153) rfl)))), rfl⟩, (List.forall_mem_cons.mpr ⟨List.mem_filter.mpr ⟨(List.mem_append_right _ (List.mem_append_right _ (List.mem_append_left _ (List.mem_of_getElem? (i := 145) rfl)))), rfl⟩, (List.forall_mem_cons.mpr ⟨List.mem_filter.mpr ⟨(List.mem_append_right _ (List.mem_append_right _ (List.mem_append_right _ (List.mem_append_right _ (List.mem_append_left _ (List.mem_of_getElem? (i := 99) rfl)))))), rfl⟩, (List.forall_mem_cons.mpr ⟨List.mem_filter.mpr ⟨(List.mem_append_right _ (List.mem_append_right _ (List.mem_append_right _ (List.mem_append_right _ (List.mem_append_left _ (List.mem_of_getElem? (i := 103) rfl)))))), rfl⟩, (List.forall_mem_cons.mpr ⟨List.mem_filter.mpr ⟨(List.mem_append_right _ (List.mem_append_right _ (List.mem_append_right _ (List.mem_append_right _ (List.mem_append_left _ (List.mem_of_getElem? (i := 111) rfl)))))), rfl⟩, (List.forall_mem_cons.mpr ⟨List.mem_filter.mpr ⟨(List.mem_append_right _ (List.mem_append_right _ (List.mem_append_right _ (List.mem_append_right _ (List.mem_append_left _ (List.mem_of_getElem? (i := 107) rfl)))))), rfl⟩, (List.forall_mem_cons.mpr ⟨List.mem_filter.mpr ⟨(List.mem_append_right _ (List.mem_append_right _ (List.mem_append_right _ (List.mem_append_right _ (List.mem_append_left _ (List.mem_of_getElem? (i := 115) rfl)))))), rfl⟩, (List.forall_mem_cons.mpr ⟨List.mem_filter.mpr ⟨(List.mem_append_right _ (List.mem_append_right _ (List.mem_append_right _ (List.mem_append_right _ (List.mem_append_left _ (List.mem_of_getElem? (i := 87) rfl)))))), rfl⟩, (List.forall_mem_cons.mpr ⟨List.mem_filter.mpr ⟨(List.mem_append_right _ (List.mem_append_right _ (List.mem_append_right _ (List.mem_append_right _ (List.mem_append_left _ (List.mem_of_getElem? (i := 70) rfl)))))), rfl⟩, (List.forall_mem_cons.mpr ⟨List.mem_filter.mpr ⟨(List.mem_append_right _ (List.mem_append_right _ (List.mem_append_right _ (List.mem_append_right _ (List.mem_append_left _ (List.mem_of_getElem? (i := 79) rfl)))))), rfl⟩, (List.forall_mem_cons.mpr ⟨List.mem_filter.mpr ⟨(List.mem_append_right _ (List.mem_append_right _ (List.mem_append_right _ (List.mem_append_right _ (List.mem_append_left _ (List.mem_of_getElem? (i := 91) rfl)))))), rfl⟩, (List.forall_mem_cons.mpr ⟨List.mem_filter.mpr ⟨(List.mem_append_right _ (List.mem_append_right _ (List.mem_append_right _ (List.mem_append_right _ (List.mem_append_left _ (List.mem_of_getElem? (i := 123) rfl)))))), rfl⟩, (List.forall_mem_cons.mpr ⟨List.mem_filter.mpr ⟨(List.mem_append_right _ (List.mem_append_right _ (List.mem_append_right _ (List.mem_append_left _ (List.mem_of_getElem? (i := 25) rfl))))), rfl⟩, (List.forall_mem_cons.mpr ⟨List.mem_filter.mpr ⟨(List.mem_append_right _ (List.mem_append_right _ (List.mem_append_right _ (List.mem_append_left _ (List.mem_of_getElem? (i := 92) rfl))))), rfl⟩, (fun _ h => absurd h List.not_mem_nil)⟩)⟩)⟩)⟩)⟩)⟩)⟩)⟩)⟩)⟩)⟩)⟩)⟩)⟩)⟩)⟩)⟩)⟩)⟩)⟩)
theorem kMisM1 : ∀ M ∈ kMis1, kMok kTbl kCl M := fun M h => (kAll2_ok _ _ kMisB1 M h).elim (fun _ q => kMokB_ok (kMisC1 M h) q)
set_option maxRecDepth 100000 in
theorem kMisB2 : kAll2 (kMokB lw_tbl kCl) kMis2 [(90, 391, 392), (90, 460, 461), (90, 465, 466), (90, 375, 376), (90, 440, 441), (90, 379, 380), (90, 550, 551), (90, 371, 372), (90, 387, 388), (90, 398, 399), (90, 546, 547), (90, 644, 645), (90, 616, 617), (90, 612, 613), (90, 632, 633), (90, 667, 668), (90, 608, 609), (90, 628, 629), (89, 1089, 1090), (89, 486, 487)] = true := by decide +kernel
set_option maxRecDepth 100000 in
set_option maxHeartbeats 4000000 in
theorem kMisC2 : ∀ M ∈ kMis2, Jvm.Cond.code M.1 M.2.1 M.2.2.1 M.2.2.2.1 ∈ kTbl := (List.forall_mem_cons.mpr ⟨List.mem_filter.mpr ⟨(List.mem_append_right _ (List.mem_append_right _ (List.mem_append_left _ (List.mem_of_getElem? (i := 66) rfl)))), rfl⟩, (List.forall_mem_cons.mpr ⟨List.mem_filter.mpr ⟨(List.mem_append_right _ (List.mem_append_right _ (List.mem_append_left _ (List.mem_of_getElem? (i := 135) rfl)))), rfl⟩, (List.forall_mem_cons.mpr ⟨List.mem_filter.mpr ⟨(List.mem_append_right _ (List.mem_append_right _ (List.mem_append_left _ (List.mem_of_getElem? (i := 140) rfl)))), rfl⟩, (List.forall_mem_cons.mpr ⟨List.mem_filter.mpr ⟨(List.mem_append_right _ (List.mem_append_right _ (List.mem_append_left _ (List.mem_of_getElem? (i := 50) rfl)))), rfl⟩, (List.forall_mem_cons.mpr ⟨List.mem_filter.mpr ⟨(List.mem_append_right _ (List.mem_append_right _ (List.mem_append_left _ (List.mem_of_getElem? (i := 115) rfl)))), rfl⟩, (List.forall_mem_cons.mpr ⟨List.mem_filter.mpr ⟨(List.mem_append_right _ (List.mem_append_right _ (List.mem_append_left _ (List.mem_of_getElem? (i := 54) rfl)))), rfl⟩, (List.forall_mem_cons.mpr ⟨List.mem_filter.mpr ⟨(List.mem_append_right _ (List.mem_append_right _ (List.mem_append_left _ (List.mem_of_getElem? (i := 225) rfl)))), rfl⟩, (List.forall_mem_cons.mpr ⟨List.mem_filter.mpr ⟨(List.mem_append_right _ (List.mem_append_right _ (List.mem_append_left _ (List.mem_of_getElem? (i := 46) rfl)))), rfl⟩, (List.forall_mem_cons.mpr ⟨List.mem_filter.mpr ⟨(List.mem_append_right _ (List.mem_append_right _ (List.mem_append_left _ (List.mem_of_getElem? (i := 62) rfl)))), rfl⟩, (List.forall_mem_cons.mpr ⟨List.mem_filter.mpr ⟨(List.mem_append_right _ (List.mem_append_right _ (List.mem_append_left _ (List.mem_of_getElem? (i := 73) rfl)))), rfl⟩, (List.forall_mem_cons.mpr ⟨List.mem_filter.mpr ⟨(List.mem_append_right _ (List.mem_append_right _ (List.mem_append_left _ (List.mem_of_getElem? (i := 221) rfl)))), rfl⟩, (List.forall_mem_cons.mpr ⟨List.mem_filter.mpr ⟨(List.mem_append_right _ (List.mem_append_right _ (List.mem_append_right _ (List.mem_append_left _ (List.mem_of_getElem? (i := 79) rfl))))), rfl⟩, (List.forall_mem_cons.mpr ⟨List.mem_filter.mpr ⟨(List.mem_append_right _ (List.mem_append_right _ (List.mem_append_right _ (List.mem_append_left _ (List.mem_of_getElem? (i := 51) rfl))))), rfl⟩, (List.forall_mem_cons.mpr ⟨List.mem_filter.mpr ⟨(List.mem_append_right _ (List.mem_append_right _ (List.mem_append_right _ (List.mem_append_left _ (List.mem_of_getElem? (i := 47) rfl))))), rfl⟩, (List.forall_mem_cons.mpr ⟨List.mem_filter.mpr ⟨(List.mem_append_right _ (List.mem_append_right _ (List.mem_append_right _ (List.mem_append_left _ (List.mem_of_getElem? (i := 67) rfl))))), rfl⟩, (List.forall_mem_cons.mpr ⟨List.mem_filter.mpr ⟨(List.mem_append_right _ (List.mem_append_right _ (List.mem_append_right _ (List.mem_append_left _ (List.mem_of_getElem? (i := 102) rfl))))), rfl⟩, (List.forall_mem_cons.mpr ⟨List.mem_filter.mpr ⟨(List.mem_append_right _ (List.mem_append_right _ (List.mem_append_right _ (List.mem_append_left _ (List.mem_of_getElem? (i := 43) rfl))))), rfl⟩, (List.forall_mem_cons.mpr ⟨List.mem_filter.mpr ⟨(List.mem_append_right _ (List.mem_append_right _ (List.mem_append_right _ (List.mem_append_left _ (List.mem_of_getElem? (i := 63) rfl))))), rfl⟩, (List.forall_mem_cons.mpr ⟨List.mem_filter.mpr ⟨(List.mem_append_right _ (List.mem_append_right _ (List.mem_append_right _ (List.mem_append_right _ (List.mem_append_right _ (List.mem_append_left _ (List.mem_of_getElem? (i := 44) rfl))))))), rfl⟩, (List.forall_mem_cons.mpr ⟨List.mem_filter.mpr ⟨(List.mem_append_right _ (List.mem_append_right _ (List.mem_append_left _ (List.mem_of_getElem? (i := 161) rfl)))), rfl⟩, (fun _ h => absurd h List.not_mem_nil)⟩)⟩)⟩)⟩)⟩)⟩)⟩)⟩)⟩)⟩)⟩)⟩)⟩)⟩)⟩)⟩)⟩)⟩)⟩)⟩)
theorem kMisM2 : ∀ M ∈ kMis2, kMok kTbl kCl M := fun M h => (kAll2_ok _ _ kMisB2 M h).elim (fun _ q => kMokB_ok (kMisC2 M h) q)
set_option maxRecDepth 100000 in
theorem kMisB3 : kAll2 (kMokB lw_tbl kCl) kMis3 [(89, 494, 495), (89, 499, 3), (89, 503, 4), (89, 507, 5), (89, 511, 6), (89, 533, 10), (89, 522, 8), (89, 515, 7), (89, 526, 9), (89, 518, 0), (89, 529, 0), (89, 536, 0), (89, 555, 556), (89, 559, 560), (89, 563, 564), (89, 567, 0), (89, 573, 0), (89, 570, 0), (93, 727, 728), (93, 734, 11)] = true := by decide +kernel
set_option maxRecDepth 100000 in
set_option maxHeartbeats 4000000 in
theorem kMisC3 : ∀ M ∈ kMis3, Jvm.Cond.code M.1 M.2.1 M.2.2.1 M.2.2.2.1 ∈ kTbl := (List.forall_mem_cons.mpr ⟨List.mem_filter.mpr ⟨(List.mem_append_right _ (List.mem_append_right _ (List.mem_append_left _ (List.mem_of_getElem? (i := 169) rfl)))), rfl⟩, (List.forall_mem_cons.mpr ⟨List.mem_filter.mpr ⟨(List.mem_append_right _ (List.mem_append_right _ (List.mem_append_left _ (List.mem_of_getElem? (i := 173) rfl)))), rfl⟩, (List.forall_mem_cons.mpr ⟨List.mem_filter.mpr ⟨(List.mem_append_right _ (List.mem_append_right _ (List.mem_append_left _ (List.mem_of_getElem? (i := 177) rfl)))), rfl⟩, (List.forall_mem_cons.mpr ⟨List.mem_filter.mpr ⟨(List.mem_append_right _ (List.mem_append_right _ (List.mem_append_left _ (List.mem_of_getElem? (i := 181) rfl)))), rfl⟩, (List.forall_mem_cons.mpr ⟨List.mem_filter.mpr ⟨(List.mem_append_right _ (List.mem_append_right _ (List.mem_append_left _ (List.mem_of_getElem? (i := 185) rfl)))), rfl⟩, (List.forall_mem_cons.mpr ⟨List.mem_filter.mpr ⟨(List.mem_append_right _ (List.mem_append_right _ (List.mem_append_left _ (List.mem_of_getElem? (i := 207) rfl)))), rfl⟩, (List.forall_mem_cons.mpr ⟨List.mem_filter.mpr ⟨(List.mem_append_right _ (List.mem_append_right _ (List.mem_append_left _ (List.mem_of_getElem? (i := 196) rfl)))), rfl⟩, (List.forall_mem_cons.mpr ⟨List.mem_filter.mpr ⟨(List.mem_append_right _ (List.mem_append_right _ (List.mem_append_left _ (List.mem_of_getElem? (i := 189) rfl)))), rfl⟩, (List.forall_mem_cons.mpr ⟨List.mem_filter.mpr ⟨(List.mem_append_right _ (List.mem_append_right _ (List.mem_append_left _ (List.mem_of_getElem? (i := 200) rfl)))), rfl⟩, (List.forall_mem_cons.mpr ⟨List.mem_filter.mpr ⟨(List.mem_append_right _ (List.mem_append_right _ (List.mem_append_left _ (List.mem_of_getElem? (i := 192) rfl)))), rfl⟩, (List.forall_mem_cons.mpr ⟨List.mem_filter.mpr ⟨(List.mem_append_right _ (List.mem_append_right _ (List.mem_append_left _ (List.mem_of_getElem? (i := 203) rfl)))), rfl⟩, (List.forall_mem_cons.mpr ⟨List.mem_filter.mpr ⟨(List.mem_append_right _ (List.mem_append_right _ (List.mem_append_left _ (List.mem_of_getElem? (i := 210) rfl)))), rfl⟩, (List.forall_mem_cons.mpr ⟨List.mem_filter.mpr ⟨(List.mem_append_right _ (List.mem_append_right _ (List.mem_append_left _ (List.mem_of_getElem? (i := 230) rfl)))), rfl⟩, (List.forall_mem_cons.mpr ⟨List.mem_filter.mpr ⟨(List.mem_append_right _ (List.mem_append_right _ (List.mem_append_left _ (List.mem_of_getElem? (i := 234) rfl)))), rfl⟩, (List.forall_mem_cons.mpr ⟨List.mem_filter.mpr ⟨(List.mem_append_right _ (List.mem_append_right _ (List.mem_append_left _ (List.mem_of_getElem? (i := 238) rfl)))), rfl⟩, (List.forall_mem_cons.mpr ⟨List.mem_filter.mpr ⟨(List.mem_append_right _ (List.mem_append_right _ (List.mem_append_right _ (List.mem_append_left _ (List.mem_of_getElem? (i := 1) rfl))))), rfl⟩, (List.forall_mem_cons.mpr ⟨List.mem_filter.mpr ⟨(List.mem_append_right _ (List.mem_append_right _ (List.mem_append_right _ (List.mem_append_left _ (List.mem_of_getElem? (i := 7) rfl))))), rfl⟩, (List.forall_mem_cons.mpr ⟨List.mem_filter.mpr ⟨(List.mem_append_right _ (List.mem_append_right _ (List.mem_append_right _ (List.mem_append_left _ (List.mem_of_getElem? (i := 4) rfl))))), rfl⟩, (List.forall_mem_cons.mpr ⟨List.mem_filter.mpr ⟨(List.mem_append_right _ (List.mem_append_right _ (List.mem_append_right _ (List.mem_append_left _ (List.mem_of_getElem? (i := 162) rfl))))), rfl⟩, (List.forall_mem_cons.mpr ⟨List.mem_filter.mpr ⟨(List.mem_append_right _ (List.mem_append_right _ (List.mem_append_right _ (List.mem_append_left _ (List.mem_of_getElem? (i := 168) rfl))))), rfl⟩, (fun _ h => absurd h List.not_mem_nil)⟩)⟩)⟩)⟩)⟩)⟩)⟩)⟩)⟩)⟩)⟩)⟩)⟩)⟩)⟩)⟩)⟩)⟩)⟩)⟩)
theorem kMisM3 : ∀ M ∈ kMis3, kMok kTbl kCl M := fun M h => (kAll2_ok _ _ kMisB3 M h).elim (fun _ q => kMokB_ok (kMisC3 M h) q)
set_option maxRecDepth 100000 in
theorem kMisB4 : kAll2 (kMokB lw_tbl kCl) kMis4 [(93, 744, 12), (93, 753, 14), (93, 749, 13), (93, 764, 765), (93, 756, 757), (93, 760, 761), (97, 406, 407), (97, 1052, 1053), (97, 423, 424), (97, 1057, 1058), (97, 410, 411), (97, 1032, 1033), (97, 432, 1), (97, 419, 420), (97, 1075, 1076), (97, 1016, 1017), (97, 1024, 1025), (97, 427, 428), (97, 1036, 1037), (97, 1040, 0)] = true := by decide +kernel
set_option maxRecDepth 100000 in
set_option maxHeartbeats 4000000 in
theorem kMisC4 : ∀ M ∈ kMis4, Jvm.Cond.code M.1 M.2.1 M.2.2.1 M.2.2.2.1 ∈ kTbl := (List.forall_mem_cons.mpr ⟨List.mem_filter.mpr ⟨(List.mem_append_right _ (List.mem_append_right _ (List.mem_append_right _ (List.mem_append_left _ (List.mem_of_getElem? (i := 178) rfl))))), rfl⟩, (List.forall_mem_cons.mpr ⟨List.mem_filter.mpr ⟨(List.mem_append_right _ (List.mem_append_right _ (List.mem_append_right _ (List.mem_append_left _ (List.mem_of_getElem? (i := 187) rfl))))), rfl⟩, (List.forall_mem_cons.mpr ⟨List.mem_filter.mpr ⟨(List.mem_append_right _ (List.mem_append_right _ (List.mem_append_right _ (List.mem_append_left _ (List.mem_of_getElem? (i := 183) rfl))))), rfl⟩, (List.forall_mem_cons.mpr ⟨List.mem_filter.mpr ⟨(List.mem_append_right _ (List.mem_append_right _ (List.mem_append_right _ (List.mem_append_left _ (List.mem_of_getElem? (i := 199) rfl))))), rfl⟩, (List.forall_mem_cons.mpr ⟨List.mem_filter.mpr ⟨(List.mem_append_right _ (List.mem_append_right _ (List.mem_append_right _ (List.mem_append_left _ (List.mem_of_getElem? (i := 191) rfl))))), rfl⟩, (List.forall_mem_cons.mpr ⟨List.mem_filter.mpr ⟨(List.mem_append_right _ (List.mem_append_right _ (List.mem_append_right _ (List.mem_append_left _ (List.mem_of_getElem? (i := 195) rfl))))), rfl⟩, (List.forall_mem_cons.mpr ⟨List.mem_filter.mpr ⟨(List.mem_append_right _ (List.mem_append_right _ (List.mem_append_left _ (List.mem_of_getElem? (i := 81) rfl)))), rfl⟩, (List.forall_mem_cons.mpr ⟨List.mem_filter.mpr ⟨(List.mem_append_right _ (List.mem_append_right _ (List.mem_append_right _ (List.mem_append_right _ (List.mem_append_right _ (List.mem_append_left _ (List.mem_of_getElem? (i := 7) rfl))))))), rfl⟩, (List.forall_mem_cons.mpr ⟨List.mem_filter.mpr ⟨(List.mem_append_right _ (List.mem_append_right _ (List.mem_append_left _ (List.mem_of_getElem? (i := 98) rfl)))), rfl⟩, (List.forall_mem_cons.mpr ⟨List.mem_filter.mpr ⟨(List.mem_append_right _ (List.mem_append_right _ (List.mem_append_right _ (List.mem_append_right _ (List.mem_append_right _ (List.mem_append_left _ (List.mem_of_getElem? (i := 12) rfl))))))), rfl⟩, (List.forall_mem_cons.mpr ⟨List.mem_filter.mpr ⟨(List.mem_append_right _ (List.mem_append_right _ (List.mem_append_left _ (List.mem_of_getElem? (i := 85) rfl)))), rfl⟩, (List.forall_mem_cons.mpr ⟨List.mem_filter.mpr ⟨(List.mem_append_right _ (List.mem_append_right _ (List.mem_append_right _ (List.mem_append_right _ (List.mem_append_left _ (List.mem_of_getElem? (i := 227) rfl)))))), rfl⟩, (List.forall_mem_cons.mpr ⟨List.mem_filter.mpr ⟨(List.mem_append_right _ (List.mem_append_right _ (List.mem_append_left _ (List.mem_of_getElem? (i := 106) rfl)))), rfl⟩, (List.forall_mem_cons.mpr ⟨List.mem_filter.mpr ⟨(List.mem_append_right _ (List.mem_append_right _ (List.mem_append_left _ (List.mem_of_getElem? (i := 94) rfl)))), rfl⟩, (List.forall_mem_cons.mpr ⟨List.mem_filter.mpr ⟨(List.mem_append_right _ (List.mem_append_right _ (List.mem_append_right _ (List.mem_append_right _ (List.mem_append_right _ (List.mem_append_left _ (List.mem_of_getElem? (i := 30) rfl))))))), rfl⟩, (List.forall_mem_cons.mpr ⟨List.mem_filter.mpr ⟨(List.mem_append_right _ (List.mem_append_right _ (List.mem_append_right _ (List.mem_append_right _ (List.mem_append_left _ (List.mem_of_getElem? (i := 211) rfl)))))), rfl⟩, (List.forall_mem_cons.mpr ⟨List.mem_filter.mpr ⟨(List.mem_append_right _ (List.mem_append_right _ (List.mem_append_right _ (List.mem_append_right _ (List.mem_append_left _ (List.mem_of_getElem? (i := 219) rfl)))))), rfl⟩, (List.forall_mem_cons.mpr ⟨List.mem_filter.mpr ⟨(List.mem_append_right _ (List.mem_append_right _ (List.mem_append_left _ (List.mem_of_getElem? (i := 102) rfl)))), rfl⟩, (List.forall_mem_cons.mpr ⟨List.mem_filter.mpr ⟨(List.mem_append_right _ (List.mem_append_right _ (List.mem_append_right _ (List.mem_append_right _ (List.mem_append_left _ (List.mem_of_getElem? (i := 231) rfl)))))), rfl⟩, (List.forall_mem_cons.mpr ⟨List.mem_filter.mpr ⟨(List.mem_append_right _ (List.mem_append_right _ (List.mem_append_right _ (List.mem_append_right _ (List.mem_append_left _ (List.mem_of_getElem? (i := 234) rfl)))))), rfl⟩, (fun _ h => absurd h List.not_mem_nil)⟩)⟩)⟩)⟩)⟩)⟩)⟩)⟩)⟩)⟩)⟩)⟩)⟩)⟩)⟩)⟩)⟩)⟩)⟩)⟩)
theorem kMisM4 : ∀ M ∈ kMis4, kMok kTbl kCl M := fun M h => (kAll2_ok _ _ kMisB4 M h).elim (fun _ q => kMokB_ok (kMisC4 M h) q)
set_option maxRecDepth 100000 in
theorem kMisB5 : kAll2 (kMokB lw_tbl kCl) kMis5 [(97, 1061, 1062), (97, 1065, 1066), (92, 594, 595), (92, 586, 587), (92, 662, 663), (92, 709, 710), (92, 737, 738), (92, 718, 719), (92, 705, 706), (92, 714, 715), (92, 861, 862), (92, 866, 21), (92, 600, 601), (92, 604, 605), (92, 620, 621), (92, 653, 654), (92, 624, 625), (92, 672, 673), (88, 368, 0), (88, 543, 0)] = true := by decide +kernel
set_option maxRecDepth 100000 in
set_option maxHeartbeats 4000000 in
theorem kMisC5 : ∀ M ∈ kMis5, Jvm.Cond.code M.1 M.2.1 M.2.2.1 M.2.2.2.1 ∈ kTbl := (List.forall_mem_cons.mpr ⟨List.mem_filter.mpr ⟨(List.mem_append_right _ (List.mem_append_right _ (List.mem_append_right _ (List.mem_append_right _ (List.mem_append_right _ (List.mem_append_left _ (List.mem_of_getElem? (i := 16) rfl))))))), rfl⟩, (List.forall_mem_cons.mpr ⟨List.mem_filter.mpr ⟨(List.mem_append_right _ (List.mem_append_right _ (List.mem_append_right _ (List.mem_append_right _ (List.mem_append_right _ (List.mem_append_left _ (List.mem_of_getElem? (i := 20) rfl))))))), rfl⟩, (List.forall_mem_cons.mpr ⟨List.mem_filter.mpr ⟨(List.mem_append_right _ (List.mem_append_right _ (List.mem_append_right _ (List.mem_append_left _ (List.mem_of_getElem? (i := 29) rfl))))), rfl⟩, (List.forall_mem_cons.mpr ⟨List.mem_filter.mpr ⟨(List.mem_append_right _ (List.mem_append_right _ (List.mem_append_right _ (List.mem_append_left _ (List.mem_of_getElem? (i := 21) rfl))))), rfl⟩, (List.forall_mem_cons.mpr ⟨List.mem_filter.mpr ⟨(List.mem_append_right _ (List.mem_append_right _ (List.mem_append_right _ (List.mem_append_left _ (List.mem_of_getElem? (i := 97) rfl))))), rfl⟩, (List.forall_mem_cons.mpr ⟨List.mem_filter.mpr ⟨(List.mem_append_right _ (List.mem_append_right _ (List.mem_append_right _ (List.mem_append_left _ (List.mem_of_getElem? (i := 144) rfl))))), rfl⟩, (List.forall_mem_cons.mpr ⟨List.mem_filter.mpr ⟨(List.mem_append_right _ (List.mem_append_right _ (List.mem_append_right _ (List.mem_append_left _ (List.mem_of_getElem? (i := 172) rfl))))), rfl⟩, (List.forall_mem_cons.mpr ⟨List.mem_filter.mpr ⟨(List.mem_append_right _ (List.mem_append_right _ (List.mem_append_right _ (List.mem_append_left _ (List.mem_of_getElem? (i := 153) rfl))))), rfl⟩, (List.forall_mem_cons.mpr ⟨List.mem_filter.mpr ⟨(List.mem_append_right _ (List.mem_append_right _ (List.mem_append_right _ (List.mem_append_left _ (List.mem_of_getElem? (i := 140) rfl))))), rfl⟩, (List.forall_mem_cons.mpr ⟨List.mem_filter.mpr ⟨(List.mem_append_right _ (List.mem_append_right _ (List.mem_append_right _ (List.mem_append_left _ (List.mem_of_getElem? (i := 149) rfl))))), rfl⟩, (List.forall_mem_cons.mpr ⟨List.mem_filter.mpr ⟨(List.mem_append_right _ (List.mem_append_right _ (List.mem_append_right _ (List.mem_append_right _ (List.mem_append_left _ (List.mem_of_getElem? (i := 56) rfl)))))), rfl⟩, (List.forall_mem_cons.mpr ⟨List.mem_filter.mpr ⟨(List.mem_append_right _ (List.mem_append_right _ (List.mem_append_right _ (List.mem_append_right _ (List.mem_append_left _ (List.mem_of_getElem? (i := 60) rfl)))))), rfl⟩, (List.forall_mem_cons.mpr ⟨List.mem_filter.mpr ⟨(List.mem_append_right _ (List.mem_append_right _ (List.mem_append_right _ (List.mem_append_left _ (List.mem_of_getElem? (i := 35) rfl))))), rfl⟩, (List.forall_mem_cons.mpr ⟨List.mem_filter.mpr ⟨(List.mem_append_right _ (List.mem_append_right _ (List.mem_append_right _ (List.mem_append_left _ (List.mem_of_getElem? (i := 39) rfl))))), rfl⟩, (List.forall_mem_cons.mpr ⟨List.mem_filter.mpr ⟨(List.mem_append_right _ (List.mem_append_right _ (List.mem_append_right _ (List.mem_append_left _ (List.mem_of_getElem? (i := 55) rfl))))), rfl⟩, (List.forall_mem_cons.mpr ⟨List.mem_filter.mpr ⟨(List.mem_append_right _ (List.mem_append_right _ (List.mem_append_right _ (List.mem_append_left _ (List.mem_of_getElem? (i := 88) rfl))))), rfl⟩, (List.forall_mem_cons.mpr ⟨List.mem_filter.mpr ⟨(List.mem_append_right _ (List.mem_append_right _ (List.mem_append_right _ (List.mem_append_left _ (List.mem_of_getElem? (i := 59) rfl))))), rfl⟩, (List.forall_mem_cons.mpr ⟨List.mem_filter.mpr ⟨(List.mem_append_right _ (List.mem_append_right _ (List.mem_append_right _ (List.mem_append_left _ (List.mem_of_getElem? (i := 107) rfl))))), rfl⟩, (List.forall_mem_cons.mpr ⟨List.mem_filter.mpr ⟨(List.mem_append_right _ (List.mem_append_right _ (List.mem_append_left _ (List.mem_of_getElem? (i := 42) rfl)))), rfl⟩, (List.forall_mem_cons.mpr ⟨List.mem_filter.mpr ⟨(List.mem_append_right _ (List.mem_append_right _ (List.mem_append_left _ (List.mem_of_getElem? (i := 217) rfl)))), rfl⟩, (fun _ h => absurd h List.not_mem_nil)⟩)⟩)⟩)⟩)⟩)⟩)⟩)⟩)⟩)⟩)⟩)⟩)⟩)⟩)⟩)⟩)⟩)⟩)⟩)⟩)
theorem kMisM5 : ∀ M ∈ kMis5, kMok kTbl kCl M := fun M h => (kAll2_ok _ _ kMisB5 M h).elim (fun _ q => kMokB_ok (kMisC5 M h) q)
set_option maxRecDepth 100000 in
theorem kMisB6 : kAll2 (kMokB lw_tbl kCl) kMis6 [(88, 360, 361), (88, 383, 384), (88, 402, 403), (88, 416, 0), (88, 435, 436), (88, 456, 457), (88, 482, 483), (88, 490, 491), (88, 539, 540), (88, 582, 583), (88, 639, 640), (88, 649, 650), (88, 676, 677), (88, 682, 683), (88, 686, 687), (88, 690, 691), (88, 694, 695), (88, 700, 701), (88, 723, 724), (88, 769, 770)] = true := by decide +kernel
set_option maxRecDepth 100000 in
set_option maxHeartbeats 4000000 in
theorem kMisC6 : ∀ M ∈ kMis6, Jvm.Cond.code M.1 M.2.1 M.2.2.1 M.2.2.2.1 ∈ kTbl := (List.forall_mem_cons.mpr ⟨List.mem_filter.mpr ⟨(List.mem_append_right _ (List.mem_append_right _ (List.mem_append_left _ (List.mem_of_getElem? (i := 35) rfl)))), rfl⟩, (List.forall_mem_cons.mpr ⟨List.mem_filter.mpr ⟨(List.mem_append_right _ (List.mem_append_right _ (List.mem_append_left _ (List.mem_of_getElem? (i := 58) rfl)))), rfl⟩, (List.forall_mem_cons.mpr ⟨List.mem_filter.mpr ⟨(List.mem_append_right _ (List.mem_append_right _ (List.mem_append_left _ (List.mem_of_getElem? (i := 77) rfl)))), rfl⟩, (List.forall_mem_cons.mpr ⟨List.mem_filter.mpr ⟨(List.mem_append_right _ (List.mem_append_right _ (List.mem_append_left _ (List.mem_of_getElem? (i := 90) rfl)))), rfl⟩, (List.forall_mem_cons.mpr ⟨List.mem_filter.mpr ⟨(List.mem_append_right _ (List.mem_append_right _ (List.mem_append_left _ (List.mem_of_getElem? (i := 110) rfl)))), rfl⟩, (List.forall_mem_cons.mpr ⟨List.mem_filter.mpr ⟨(List.mem_append_right _ (List.mem_append_right _ (List.mem_append_left _ (List.mem_of_getElem? (i := 131) rfl)))), rfl⟩, (List.forall_mem_cons.mpr ⟨List.mem_filter.mpr ⟨(List.mem_append_right _ (List.mem_append_right _ (List.mem_append_left _ (List.mem_of_getElem? (i := 157) rfl)))), rfl⟩, (List.forall_mem_cons.mpr ⟨List.mem_filter.mpr ⟨(List.mem_append_right _ (List.mem_append_right _ (List.mem_append_left _ (List.mem_of_getElem? (i := 165) rfl)))), rfl⟩, (List.forall_mem_cons.mpr ⟨List.mem_filter.mpr ⟨(List.mem_append_right _ (List.mem_append_right _ (List.mem_append_left _ (List.mem_of_getElem? (i := 214) rfl)))), rfl⟩, (List.forall_mem_cons.mpr ⟨List.mem_filter.mpr ⟨(List.mem_append_right _ (List.mem_append_right _ (List.mem_append_right _ (List.mem_append_left _ (List.mem_of_getElem? (i := 17) rfl))))), rfl⟩, (List.forall_mem_cons.mpr ⟨List.mem_filter.mpr ⟨(List.mem_append_right _ (List.mem_append_right _ (List.mem_append_right _ (List.mem_append_left _ (List.mem_of_getElem? (i := 74) rfl))))), rfl⟩, (List.forall_mem_cons.mpr ⟨List.mem_filter.mpr ⟨(List.mem_append_right _ (List.mem_append_right _ (List.mem_append_right _ (List.mem_append_left _ (List.mem_of_getElem? (i := 84) rfl))))), rfl⟩, (List.forall_mem_cons.mpr ⟨List.mem_filter.mpr ⟨(List.mem_append_right _ (List.mem_append_right _ (List.mem_append_right _ (List.mem_append_left _ (List.mem_of_getElem? (i := 111) rfl))))), rfl⟩, (List.forall_mem_cons.mpr ⟨List.mem_filter.mpr ⟨(List.mem_append_right _ (List.mem_append_right _ (List.mem_append_right _ (List.mem_append_left _ (List.mem_of_getElem? (i := 117) rfl))))), rfl⟩, (List.forall_mem_cons.mpr ⟨List.mem_filter.mpr ⟨(List.mem_append_right _ (List.mem_append_right _ (List.mem_append_right _ (List.mem_append_left _ (List.mem_of_getElem? (i := 121) rfl))))), rfl⟩, (List.forall_mem_cons.mpr ⟨List.mem_filter.mpr ⟨(List.mem_append_right _ (List.mem_append_right _ (List.mem_append_right _ (List.mem_append_left _ (List.mem_of_getElem? (i := 125) rfl))))), rfl⟩, (List.forall_mem_cons.mpr ⟨List.mem_filter.mpr ⟨(List.mem_append_right _ (List.mem_append_right _ (List.mem_append_right _ (List.mem_append_left _ (List.mem_of_getElem? (i := 129) rfl))))), rfl⟩, (List.forall_mem_cons.mpr ⟨List.mem_filter.mpr ⟨(List.mem_append_right _ (List.mem_append_right _ (List.mem_append_right _ (List.mem_append_left _ (List.mem_of_getElem? (i := 135) rfl))))), rfl⟩, (List.forall_mem_cons.mpr ⟨List.mem_filter.mpr ⟨(List.mem_append_right _ (List.mem_append_right _ (List.mem_append_right _ (List.mem_append_left _ (List.mem_of_getElem? (i := 158) rfl))))), rfl⟩, (List.forall_mem_cons.mpr ⟨List.mem_filter.mpr ⟨(List.mem_append_right _ (List.mem_append_right _ (List.mem_append_right _ (List.mem_append_left _ (List.mem_of_getElem? (i := 204) rfl))))), rfl⟩, (fun _ h => absurd h List.not_mem_nil)⟩)⟩)⟩)⟩)⟩)⟩)⟩)⟩)⟩)⟩)⟩)⟩)⟩)⟩)⟩)⟩)⟩)⟩)⟩)⟩)
theorem kMisM6 : ∀ M ∈ kMis6, kMok kTbl kCl M := fun M h => (kAll2_ok _ _ kMisB6 M h).elim (fun _ q => kMokB_ok (kMisC6 M h) q)
set_option maxRecDepth 100000 in
theorem kMisB7 : kAll2 (kMokB lw_tbl kCl) kMis7 [(88, 804, 805), (88, 812, 813), (88, 774, 15), (88, 821, 822), (88, 826, 18), (88, 830, 831), (88, 834, 835), (88, 838, 839), (88, 844, 845), (88, 849, 19), (88, 853, 20), (88, 857, 858), (88, 871, 872), (88, 879, 880), (88, 888, 889), (88, 900, 901), (88, 924, 925), (88, 933, 934), (88, 937, 938), (88, 946, 947)] = true := by decide +kernel
set_option maxRecDepth 100000 in
set_option maxHeartbeats 4000000 in
theorem kMisC7 : ∀ M ∈ kMis7, Jvm.Cond.code M.1 M.2.1 M.2.2.1 M.2.2.2.1 ∈ kTbl := (List.forall_mem_cons.mpr ⟨List.mem_filter.mpr ⟨(List.mem_append_right _ (List.mem_append_right _ (List.mem_append_right _ (List.mem_append_left _ (List.mem_of_getElem? (i := 239) rfl))))), rfl⟩, (List.forall_mem_cons.mpr ⟨List.mem_filter.mpr ⟨(List.mem_append_right _ (List.mem_append_right _ (List.mem_append_right _ (List.mem_append_right _ (List.mem_append_left _ (List.mem_of_getElem? (i := 7) rfl)))))), rfl⟩, (List.forall_mem_cons.mpr ⟨List.mem_filter.mpr ⟨(List.mem_append_right _ (List.mem_append_right _ (List.mem_append_right _ (List.mem_append_left _ (List.mem_of_getElem? (i := 208) rfl))))), rfl⟩, (List.forall_mem_cons.mpr ⟨List.mem_filter.mpr ⟨(List.mem_append_right _ (List.mem_append_right _ (List.mem_append_right _ (List.mem_append_right _ (List.mem_append_left _ (List.mem_of_getElem? (i := 16) rfl)))))), rfl⟩, (List.forall_mem_cons.mpr ⟨List.mem_filter.mpr ⟨(List.mem_append_right _ (List.mem_append_right _ (List.mem_append_right _ (List.mem_append_right _ (List.mem_append_left _ (List.mem_of_getElem? (i := 20) rfl)))))), rfl⟩, (List.forall_mem_cons.mpr ⟨List.mem_filter.mpr ⟨(List.mem_append_right _ (List.mem_append_right _ (List.mem_append_right _ (List.mem_append_right _ (List.mem_append_left _ (List.mem_of_getElem? (i := 25) rfl)))))), rfl⟩, (List.forall_mem_cons.mpr ⟨List.mem_filter.mpr ⟨(List.mem_append_right _ (List.mem_append_right _ (List.mem_append_right _ (List.mem_append_right _ (List.mem_append_left _ (List.mem_of_getElem? (i := 29) rfl)))))), rfl⟩, (List.forall_mem_cons.mpr ⟨List.mem_filter.mpr ⟨(List.mem_append_right _ (List.mem_append_right _ (List.mem_append_right _ (List.mem_append_right _ (List.mem_append_left _ (List.mem_of_getElem? (i := 33) rfl)))))), rfl⟩, (List.forall_mem_cons.mpr ⟨List.mem_filter.mpr ⟨(List.mem_append_right _ (List.mem_append_right _ (List.mem_append_right _ (List.mem_append_right _ (List.mem_append_left _ (List.mem_of_getElem? (i := 39) rfl)))))), rfl⟩, (List.forall_mem_cons.mpr ⟨List.mem_filter.mpr ⟨(List.mem_append_right _ (List.mem_append_right _ (List.mem_append_right _ (List.mem_append_right _ (List.mem_append_left _ (List.mem_of_getElem? (i := 43) rfl)))))), rfl⟩, (List.forall_mem_cons.mpr ⟨List.mem_filter.mpr ⟨(List.mem_append_right _ (List.mem_append_right _ (List.mem_append_right _ (List.mem_append_right _ (List.mem_append_left _ (List.mem_of_getElem? (i := 47) rfl)))))), rfl⟩, (List.forall_mem_cons.mpr ⟨List.mem_filter.mpr ⟨(List.mem_append_right _ (List.mem_append_right _ (List.mem_append_right _ (List.mem_append_right _ (List.mem_append_left _ (List.mem_of_getElem? (i := 52) rfl)))))), rfl⟩, (List.forall_mem_cons.mpr ⟨List.mem_filter.mpr ⟨(List.mem_append_right _ (List.mem_append_right _ (List.mem_append_right _ (List.mem_append_right _ (List.mem_append_left _ (List.mem_of_getElem? (i := 66) rfl)))))), rfl⟩, (List.forall_mem_cons.mpr ⟨List.mem_filter.mpr ⟨(List.mem_append_right _ (List.mem_append_right _ (List.mem_append_right _ (List.mem_append_right _ (List.mem_append_left _ (List.mem_of_getElem? (i := 74) rfl)))))), rfl⟩, (List.forall_mem_cons.mpr ⟨List.mem_filter.mpr ⟨(List.mem_append_right _ (List.mem_append_right _ (List.mem_append_right _ (List.mem_append_right _ (List.mem_append_left _ (List.mem_of_getElem? (i := 83) rfl)))))), rfl⟩, (List.forall_mem_cons.mpr ⟨List.mem_filter.mpr ⟨(List.mem_append_right _ (List.mem_append_right _ (List.mem_append_right _ (List.mem_append_right _ (List.mem_append_left _ (List.mem_of_getElem? (i := 95) rfl)))))), rfl⟩, (List.forall_mem_cons.mpr ⟨List.mem_filter.mpr ⟨(List.mem_append_right _ (List.mem_append_right _ (List.mem_append_right _ (List.mem_append_right _ (List.mem_append_left _ (List.mem_of_getElem? (i := 119) rfl)))))), rfl⟩, (List.forall_mem_cons.mpr ⟨List.mem_filter.mpr ⟨(List.mem_append_right _ (List.mem_append_right _ (List.mem_append_right _ (List.mem_append_right _ (List.mem_append_left _ (List.mem_of_getElem? (i := 128) rfl)))))), rfl⟩, (List.forall_mem_cons.mpr ⟨List.mem_filter.mpr ⟨(List.mem_append_right _ (List.mem_append_right _ (List.mem_append_right _ (List.mem_append_right _ (List.mem_append_left _ (List.mem_of_getElem? (i := 132) rfl)))))), rfl⟩, (List.forall_mem_cons.mpr ⟨List.mem_filter.mpr ⟨(List.mem_append_right _ (List.mem_append_right _ (List.mem_append_right _ (List.mem_append_right _ (List.mem_append_left _ (List.mem_of_getElem? (i := 141) rfl)))))), rfl⟩, (fun _ h => absurd h List.not_mem_nil)⟩)⟩)⟩)⟩)⟩)⟩)⟩)⟩)⟩)⟩)⟩)⟩)⟩)⟩)⟩)⟩)⟩)⟩)⟩)⟩)
theorem kMisM7 : ∀ M ∈ kMis7, kMok kTbl kCl M := fun M h => (kAll2_ok _ _ kMisB7 M h).elim (fun _ q => kMokB_ok (kMisC7 M h) q)
set_option maxRecDepth 100000 in
theorem kMisB8 : kAll2 (kMokB lw_tbl kCl) kMis8 [(88, 954, 955), (88, 966, 967), (88, 1003, 1004), (88, 1011, 1012), (88, 1020, 1021), (88, 1028, 1029), (88, 1043, 1044), (88, 1048, 1049), (88, 1071, 1072), (88, 1084, 1085), (98, 1294, 0), (98, 1302, 26), (98, 1338, 30), (98, 1290, 1291), (98, 1306, 27), (98, 1297, 1298), (98, 1309, 1310), (98, 1349, 32), (98, 1322, 28), (98, 1345, 31)] = true := by decide +kernel
set_option maxRecDepth 100000 in
set_option maxHeartbeats 4000000 in
theorem kMisC8 : ∀ M ∈ kMis8, Jvm.Cond.code M.1 M.2.1 M.2.2.1 M.2.2.2.1 ∈ kTbl := (List.forall_mem_cons.mpr ⟨List.mem_filter.mpr ⟨(List.mem_append_right _ (List.mem_append_right _ (List.mem_append_right _ (List.mem_append_right _ (List.mem_append_left _ (List.mem_of_getElem? (i := 149) rfl)))))), rfl⟩, (List.forall_mem_cons.mpr ⟨List.mem_filter.mpr ⟨(List.mem_append_right _ (List.mem_append_right _ (List.mem_append_right _ (List.mem_append_right _ (List.mem_append_left _ (List.mem_of_getElem? (i := 161) rfl)))))), rfl⟩, (List.forall_mem_cons.mpr ⟨List.mem_filter.mpr ⟨(List.mem_append_right _ (List.mem_append_right _ (List.mem_append_right _ (List.mem_append_right _ (List.mem_append_left _ (List.mem_of_getElem? (i := 198) rfl)))))), rfl⟩, (List.forall_mem_cons.mpr ⟨List.mem_filter.mpr ⟨(List.mem_append_right _ (List.mem_append_right _ (List.mem_append_right _ (List.mem_append_right _ (List.mem_append_left _ (List.mem_of_getElem? (i := 206) rfl)))))), rfl⟩, (List.forall_mem_cons.mpr ⟨List.mem_filter.mpr ⟨(List.mem_append_right _ (List.mem_append_right _ (List.mem_append_right _ (List.mem_append_right _ (List.mem_append_left _ (List.mem_of_getElem? (i := 215) rfl)))))), rfl⟩, (List.forall_mem_cons.mpr ⟨List.mem_filter.mpr ⟨(List.mem_append_right _ (List.mem_append_right _ (List.mem_append_right _ (List.mem_append_right _ (List.mem_append_left _ (List.mem_of_getElem? (i := 223) rfl)))))), rfl⟩, (List.forall_mem_cons.mpr ⟨List.mem_filter.mpr ⟨(List.mem_append_right _ (List.mem_append_right _ (List.mem_append_right _ (List.mem_append_right _ (List.mem_append_left _ (List.mem_of_getElem? (i := 238) rfl)))))), rfl⟩, (List.forall_mem_cons.mpr ⟨List.mem_filter.mpr ⟨(List.mem_append_right _ (List.mem_append_right _ (List.mem_append_right _ (List.mem_append_right _ (List.mem_append_right _ (List.mem_append_left _ (List.mem_of_getElem? (i := 3) rfl))))))), rfl⟩, (List.forall_mem_cons.mpr ⟨List.mem_filter.mpr ⟨(List.mem_append_right _ (List.mem_append_right _ (List.mem_append_right _ (List.mem_append_right _ (List.mem_append_right _ (List.mem_append_left _ (List.mem_of_getElem? (i := 26) rfl))))))), rfl⟩, (List.forall_mem_cons.mpr ⟨List.mem_filter.mpr ⟨(List.mem_append_right _ (List.mem_append_right _ (List.mem_append_right _ (List.mem_append_right _ (List.mem_append_right _ (List.mem_append_left _ (List.mem_of_getElem? (i := 39) rfl))))))), rfl⟩, (List.forall_mem_cons.mpr ⟨List.mem_filter.mpr ⟨(List.mem_append_right _ (List.mem_append_right _ (List.mem_append_right _ (List.mem_append_right _ (List.mem_append_right _ (List.mem_append_right _ (List.mem_append_left _ (List.mem_of_getElem? (i := 8) rfl)))))))), rfl⟩, (List.forall_mem_cons.mpr ⟨List.mem_filter.mpr ⟨(List.mem_append_right _ (List.mem_append_right _ (List.mem_append_right _ (List.mem_append_right _ (List.mem_append_right _ (List.mem_append_right _ (List.mem_append_left _ (List.mem_of_getElem? (i := 16) rfl)))))))), rfl⟩, (List.forall_mem_cons.mpr ⟨List.mem_filter.mpr ⟨(List.mem_append_right _ (List.mem_append_right _ (List.mem_append_right _ (List.mem_append_right _ (List.mem_append_right _ (List.mem_append_right _ (List.mem_append_left _ (List.mem_of_getElem? (i := 52) rfl)))))))), rfl⟩, (List.forall_mem_cons.mpr ⟨List.mem_filter.mpr ⟨(List.mem_append_right _ (List.mem_append_right _ (List.mem_append_right _ (List.mem_append_right _ (List.mem_append_right _ (List.mem_append_right _ (List.mem_append_left _ (List.mem_of_getElem? (i := 5) rfl)))))))), rfl⟩, (List.forall_mem_cons.mpr ⟨List.mem_filter.mpr ⟨(List.mem_append_right _ (List.mem_append_right _ (List.mem_append_right _ (List.mem_append_right _ (List.mem_append_right _ (List.mem_append_right _ (List.mem_append_left _ (List.mem_of_getElem? (i := 20) rfl)))))))), rfl⟩, (List.forall_mem_cons.mpr ⟨List.mem_filter.mpr ⟨(List.mem_append_right _ (List.mem_append_right _ (List.mem_append_right _ (List.mem_append_right _ (List.mem_append_right _ (List.mem_append_right _ (List.mem_append_left _ (List.mem_of_getElem? (i := 12) rfl)))))))), rfl⟩, (List.forall_mem_cons.mpr ⟨List.mem_filter.mpr ⟨(List.mem_append_right _ (List.mem_append_right _ (List.mem_append_right _ (List.mem_append_right _ (List.mem_append_right _ (List.mem_append_right _ (List.mem_append_left _ (List.mem_of_getElem? (i := 24) rfl)))))))), rfl⟩, (List.forall_mem_cons.mpr ⟨List.mem_filter.mpr ⟨(List.mem_append_right _ (List.mem_append_right _ (List.mem_append_right _ (List.mem_append_right _ (List.mem_append_right _ (List.mem_append_right _ (List.mem_append_left _ (List.mem_of_getElem? (i := 63) rfl)))))))), rfl⟩, (List.forall_mem_cons.mpr ⟨List.mem_filter.mpr ⟨(List.mem_append_right _ (List.mem_append_right _ (List.mem_append_right _ (List.mem_append_right _ (List.mem_append_right _ (List.mem_append_right _ (List.mem_append_left _ (List.mem_of_getElem? (i := 36) rfl)))))))), rfl⟩, (List.forall_mem_cons.mpr ⟨List.mem_filter.mpr ⟨(List.mem_append_right _ (List.mem_append_right _ (List.mem_append_right _ (List.mem_append_right _ (List.mem_append_right _ (List.mem_append_right _ (List.mem_append_left _ (List.mem_of_getElem? (i := 59) rfl)))))))), rfl⟩, (fun _ h => absurd h List.not_mem_nil)⟩)⟩)⟩)⟩)⟩)⟩)⟩)⟩)⟩)⟩)⟩)⟩)⟩)⟩)⟩)⟩)⟩)⟩)⟩)⟩)
theorem kMisM8 : ∀ M ∈ kMis8, kMok kTbl kCl M := fun M h => (kAll2_ok _ _ kMisB8 M h).elim (fun _ q => kMokB_ok (kMisC8 M h) q)
set_option maxRecDepth 100000 in
theorem kMisB9 : kAll2 (kMokB lw_tbl kCl) kMis9 [(98, 1317, 1318), (98, 1325, 1326), (98, 1334, 29), (98, 1341, 0), (98, 1329, 1330), (98, 1352, 1353), (98, 1356, 1357), (98, 1397, 41), (98, 1412, 44), (98, 1404, 42), (98, 1400, 0), (98, 1408, 43), (98, 1416, 45), (98, 1393, 40), (98, 1389, 39), (98, 1385, 38), (98, 1381, 37), (98, 1377, 36), (98, 1373, 35), (98, 1369, 34)] = true := by decide +kernel
set_option maxRecDepth 100000 in
set_option maxHeartbeats 4000000 in
theorem kMisC9 : ∀ M ∈ kMis9, Jvm.Cond.code M.1 M.2.1 M.2.2.1 M.2.2.2.1 ∈ kTbl := (List.forall_mem_cons.mpr ⟨List.mem_filter.mpr ⟨(List.mem_append_right _ (List.mem_append_right _ (List.mem_append_right _ (List.mem_append_right _ (List.mem_append_right _ (List.mem_append_right _ (List.mem_append_left _ (List.mem_of_getElem? (i := 32) rfl)))))))), rfl⟩, (List.forall_mem_cons.mpr ⟨List.mem_filter.mpr ⟨(List.mem_append_right _ (List.mem_append_right _ (List.mem_append_right _ (List.mem_append_right _ (List.mem_append_right _ (List.mem_append_right _ (List.mem_append_left _ (List.mem_of_getElem? (i := 40) rfl)))))))), rfl⟩, (List.forall_mem_cons.mpr ⟨List.mem_filter.mpr ⟨(List.mem_append_right _ (List.mem_append_right _ (List.mem_append_right _ (List.mem_append_right _ (List.mem_append_right _ (List.mem_append_right _ (List.mem_append_left _ (List.mem_of_getElem? (i := 48) rfl)))))))), rfl⟩, (List.forall_mem_cons.mpr ⟨List.mem_filter.mpr ⟨(List.mem_append_right _ (List.mem_append_right _ (List.mem_append_right _ (List.mem_append_right _ (List.mem_append_right _ (List.mem_append_right _ (List.mem_append_left _ (List.mem_of_getElem? (i := 55) rfl)))))))), rfl⟩, (List.forall_mem_cons.mpr ⟨List.mem_filter.mpr ⟨(List.mem_append_right _ (List.mem_append_right _ (List.mem_append_right _ (List.mem_append_right _ (List.mem_append_right _ (List.mem_append_right _ (List.mem_append_left _ (List.mem_of_getElem? (i := 44) rfl)))))))), rfl⟩, (List.forall_mem_cons.mpr ⟨List.mem_filter.mpr ⟨(List.mem_append_right _ (List.mem_append_right _ (List.mem_append_right _ (List.mem_append_right _ (List.mem_append_right _ (List.mem_append_right _ (List.mem_append_left _ (List.mem_of_getElem? (i := 67) rfl)))))))), rfl⟩, (List.forall_mem_cons.mpr ⟨List.mem_filter.mpr ⟨(List.mem_append_right _ (List.mem_append_right _ (List.mem_append_right _ (List.mem_append_right _ (List.mem_append_right _ (List.mem_append_right _ (List.mem_append_left _ (List.mem_of_getElem? (i := 71) rfl)))))))), rfl⟩, (List.forall_mem_cons.mpr ⟨List.mem_filter.mpr ⟨(List.mem_append_right _ (List.mem_append_right _ (List.mem_append_right _ (List.mem_append_right _ (List.mem_append_right _ (List.mem_append_right _ (List.mem_append_left _ (List.mem_of_getElem? (i := 111) rfl)))))))), rfl⟩, (List.forall_mem_cons.mpr ⟨List.mem_filter.mpr ⟨(List.mem_append_right _ (List.mem_append_right _ (List.mem_append_right _ (List.mem_append_right _ (List.mem_append_right _ (List.mem_append_right _ (List.mem_append_left _ (List.mem_of_getElem? (i := 126) rfl)))))))), rfl⟩, (List.forall_mem_cons.mpr ⟨List.mem_filter.mpr ⟨(List.mem_append_right _ (List.mem_append_right _ (List.mem_append_right _ (List.mem_append_right _ (List.mem_append_right _ (List.mem_append_right _ (List.mem_append_left _ (List.mem_of_getElem? (i := 118) rfl)))))))), rfl⟩, (List.forall_mem_cons.mpr ⟨List.mem_filter.mpr ⟨(List.mem_append_right _ (List.mem_append_right _ (List.mem_append_right _ (List.mem_append_right _ (List.mem_append_right _ (List.mem_append_right _ (List.mem_append_left _ (List.mem_of_getElem? (i := 114) rfl)))))))), rfl⟩, (List.forall_mem_cons.mpr ⟨List.mem_filter.mpr ⟨(List.mem_append_right _ (List.mem_append_right _ (List.mem_append_right _ (List.mem_append_right _ (List.mem_append_right _ (List.mem_append_right _ (List.mem_append_left _ (List.mem_of_getElem? (i := 122) rfl)))))))), rfl⟩, (List.forall_mem_cons.mpr ⟨List.mem_filter.mpr ⟨(List.mem_append_right _ (List.mem_append_right _ (List.mem_append_right _ (List.mem_append_right _ (List.mem_append_right _ (List.mem_append_right _ (List.mem_append_left _ (List.mem_of_getElem? (i := 130) rfl)))))))), rfl⟩, (List.forall_mem_cons.mpr ⟨List.mem_filter.mpr ⟨(List.mem_append_right _ (List.mem_append_right _ (List.mem_append_right _ (List.mem_append_right _ (List.mem_append_right _ (List.mem_append_right _ (List.mem_append_left _ (List.mem_of_getElem? (i := 107) rfl)))))))), rfl⟩, (List.forall_mem_cons.mpr ⟨List.mem_filter.mpr ⟨(List.mem_append_right _ (List.mem_append_right _ (List.mem_append_right _ (List.mem_append_right _ (List.mem_append_right _ (List.mem_append_right _ (List.mem_append_left _ (List.mem_of_getElem? (i := 103) rfl)))))))), rfl⟩, (List.forall_mem_cons.mpr ⟨List.mem_filter.mpr ⟨(List.mem_append_right _ (List.mem_append_right _ (List.mem_append_right _ (List.mem_append_right _ (List.mem_append_right _ (List.mem_append_right _ (List.mem_append_left _ (List.mem_of_getElem? (i := 99) rfl)))))))), rfl⟩, (List.forall_mem_cons.mpr ⟨List.mem_filter.mpr ⟨(List.mem_append_right _ (List.mem_append_right _ (List.mem_append_right _ (List.mem_append_right _ (List.mem_append_right _ (List.mem_append_right _ (List.mem_append_left _ (List.mem_of_getElem? (i := 95) rfl)))))))), rfl⟩, (List.forall_mem_cons.mpr ⟨List.mem_filter.mpr ⟨(List.mem_append_right _ (List.mem_append_right _ (List.mem_append_right _ (List.mem_append_right _ (List.mem_append_right _ (List.mem_append_right _ (List.mem_append_left _ (List.mem_of_getElem? (i := 91) rfl)))))))), rfl⟩, (List.forall_mem_cons.mpr ⟨List.mem_filter.mpr ⟨(List.mem_append_right _ (List.mem_append_right _ (List.mem_append_right _ (List.mem_append_right _ (List.mem_append_right _ (List.mem_append_right _ (List.mem_append_left _ (List.mem_of_getElem? (i := 87) rfl)))))))), rfl⟩, (List.forall_mem_cons.mpr ⟨List.mem_filter.mpr ⟨(List.mem_append_right _ (List.mem_append_right _ (List.mem_append_right _ (List.mem_append_right _ (List.mem_append_right _ (List.mem_append_right _ (List.mem_append_left _ (List.mem_of_getElem? (i := 83) rfl)))))))), rfl⟩, (fun _ h => absurd h List.not_mem_nil)⟩)⟩)⟩)⟩)⟩)⟩)⟩)⟩)⟩)⟩)⟩)⟩)⟩)⟩)⟩)⟩)⟩)⟩)⟩)⟩)
theorem kMisM9 : ∀ M ∈ kMis9, kMok kTbl kCl M := fun M h => (kAll2_ok _ _ kMisB9 M h).elim (fun _ q => kMokB_ok (kMisC9 M h) q)
set_option maxRecDepth 100000 in
theorem kMisB10 : kAll2 (kMokB lw_tbl kCl) kMis10 [(98, 1365, 33), (98, 1435, 0), (98, 1432, 48), (98, 1428, 47), (98, 1360, 1361), (98, 1424, 46), (98, 1419, 1420), (98, 1466, 0), (98, 1474, 54), (98, 1443, 49), (98, 1438, 1439), (98, 1455, 51), (98, 1451, 50), (98, 1459, 52), (98, 1446, 1447), (98, 1478, 55), (98, 1482, 56), (98, 1470, 53), (98, 1486, 57), (98, 1494, 59)] = true := by decide +kernel
set_option maxRecDepth 100000 in
set_option maxHeartbeats 4000000 in
theorem kMisC10 : ∀ M ∈ kMis10, Jvm.Cond.code M.1 M.2.1 M.2.2.1 M.2.2.2.1 ∈ kTbl := (List.forall_mem_cons.mpr ⟨List.mem_filter.mpr ⟨(List.mem_append_right _ (List.mem_append_right _ (List.mem_append_right _ (List.mem_append_right _ (List.mem_append_right _ (List.mem_append_right _ (List.mem_append_left _ (List.mem_of_getElem? (i := 79) rfl)))))))), rfl⟩, (List.forall_mem_cons.mpr ⟨List.mem_filter.mpr ⟨(List.mem_append_right _ (List.mem_append_right _ (List.mem_append_right _ (List.mem_append_right _ (List.mem_append_right _ (List.mem_append_right _ (List.mem_append_left _ (List.mem_of_getElem? (i := 149) rfl)))))))), rfl⟩, (List.forall_mem_cons.mpr ⟨List.mem_filter.mpr ⟨(List.mem_append_right _ (List.mem_append_right _ (List.mem_append_right _ (List.mem_append_right _ (List.mem_append_right _ (List.mem_append_right _ (List.mem_append_left _ (List.mem_of_getElem? (i := 146) rfl)))))))), rfl⟩, (List.forall_mem_cons.mpr ⟨List.mem_filter.mpr ⟨(List.mem_append_right _ (List.mem_append_right _ (List.mem_append_right _ (List.mem_append_right _ (List.mem_append_right _ (List.mem_append_right _ (List.mem_append_left _ (List.mem_of_getElem? (i := 142) rfl)))))))), rfl⟩, (List.forall_mem_cons.mpr ⟨List.mem_filter.mpr ⟨(List.mem_append_right _ (List.mem_append_right _ (List.mem_append_right _ (List.mem_append_right _ (List.mem_append_right _ (List.mem_append_right _ (List.mem_append_left _ (List.mem_of_getElem? (i := 75) rfl)))))))), rfl⟩, (List.forall_mem_cons.mpr ⟨List.mem_filter.mpr ⟨(List.mem_append_right _ (List.mem_append_right _ (List.mem_append_right _ (List.mem_append_right _ (List.mem_append_right _ (List.mem_append_right _ (List.mem_append_left _ (List.mem_of_getElem? (i := 138) rfl)))))))), rfl⟩, (List.forall_mem_cons.mpr ⟨List.mem_filter.mpr ⟨(List.mem_append_right _ (List.mem_append_right _ (List.mem_append_right _ (List.mem_append_right _ (List.mem_append_right _ (List.mem_append_right _ (List.mem_append_left _ (List.mem_of_getElem? (i := 134) rfl)))))))), rfl⟩, (List.forall_mem_cons.mpr ⟨List.mem_filter.mpr ⟨(List.mem_append_right _ (List.mem_append_right _ (List.mem_append_right _ (List.mem_append_right _ (List.mem_append_right _ (List.mem_append_right _ (List.mem_append_left _ (List.mem_of_getElem? (i := 180) rfl)))))))), rfl⟩, (List.forall_mem_cons.mpr ⟨List.mem_filter.mpr ⟨(List.mem_append_right _ (List.mem_append_right _ (List.mem_append_right _ (List.mem_append_right _ (List.mem_append_right _ (List.mem_append_right _ (List.mem_append_left _ (List.mem_of_getElem? (i := 188) rfl)))))))), rfl⟩, (List.forall_mem_cons.mpr ⟨List.mem_filter.mpr ⟨(List.mem_append_right _ (List.mem_append_right _ (List.mem_append_right _ (List.mem_append_right _ (List.mem_append_right _ (List.mem_append_right _ (List.mem_append_left _ (List.mem_of_getElem? (i := 157) rfl)))))))), rfl⟩, (List.forall_mem_cons.mpr ⟨List.mem_filter.mpr ⟨(List.mem_append_right _ (List.mem_append_right _ (List.mem_append_right _ (List.mem_append_right _ (List.mem_append_right _ (List.mem_append_right _ (List.mem_append_left _ (List.mem_of_getElem? (i := 153) rfl)))))))), rfl⟩, (List.forall_mem_cons.mpr ⟨List.mem_filter.mpr ⟨(List.mem_append_right _ (List.mem_append_right _ (List.mem_append_right _ (List.mem_append_right _ (List.mem_append_right _ (List.mem_append_right _ (List.mem_append_left _ (List.mem_of_getElem? (i := 169) rfl)))))))), rfl⟩, (List.forall_mem_cons.mpr ⟨List.mem_filter.mpr ⟨(List.mem_append_right _ (List.mem_append_right _ (List.mem_append_right _ (List.mem_append_right _ (List.mem_append_right _ (List.mem_append_right _ (List.mem_append_left _ (List.mem_of_getElem? (i := 165) rfl)))))))), rfl⟩, (List.forall_mem_cons.mpr ⟨List.mem_filter.mpr ⟨(List.mem_append_right _ (List.mem_append_right _ (List.mem_append_right _ (List.mem_append_right _ (List.mem_append_right _ (List.mem_append_right _ (List.mem_append_left _ (List.mem_of_getElem? (i := 173) rfl)))))))), rfl⟩, (List.forall_mem_cons.mpr ⟨List.mem_filter.mpr ⟨(List.mem_append_right _ (List.mem_append_right _ (List.mem_append_right _ (List.mem_append_right _ (List.mem_append_right _ (List.mem_append_right _ (List.mem_append_left _ (List.mem_of_getElem? (i := 161) rfl)))))))), rfl⟩, (List.forall_mem_cons.mpr ⟨List.mem_filter.mpr ⟨(List.mem_append_right _ (List.mem_append_right _ (List.mem_append_right _ (List.mem_append_right _ (List.mem_append_right _ (List.mem_append_right _ (List.mem_append_left _ (List.mem_of_getElem? (i := 192) rfl)))))))), rfl⟩, (List.forall_mem_cons.mpr ⟨List.mem_filter.mpr ⟨(List.mem_append_right _ (List.mem_append_right _ (List.mem_append_right _ (List.mem_append_right _ (List.mem_append_right _ (List.mem_append_right _ (List.mem_append_left _ (List.mem_of_getElem? (i := 196) rfl)))))))), rfl⟩, (List.forall_mem_cons.mpr ⟨List.mem_filter.mpr ⟨(List.mem_append_right _ (List.mem_append_right _ (List.mem_append_right _ (List.mem_append_right _ (List.mem_append_right _ (List.mem_append_right _ (List.mem_append_left _ (List.mem_of_getElem? (i := 184) rfl)))))))), rfl⟩, (List.forall_mem_cons.mpr ⟨List.mem_filter.mpr ⟨(List.mem_append_right _ (List.mem_append_right _ (List.mem_append_right _ (List.mem_append_right _ (List.mem_append_right _ (List.mem_append_right _ (List.mem_append_left _ (List.mem_of_getElem? (i := 200) rfl)))))))), rfl⟩, (List.forall_mem_cons.mpr ⟨List.mem_filter.mpr ⟨(List.mem_append_right _ (List.mem_append_right _ (List.mem_append_right _ (List.mem_append_right _ (List.mem_append_right _ (List.mem_append_right _ (List.mem_append_left _ (List.mem_of_getElem? (i := 208) rfl)))))))), rfl⟩, (fun _ h => absurd h List.not_mem_nil)⟩)⟩)⟩)⟩)⟩)⟩)⟩)⟩)⟩)⟩)⟩)⟩)⟩)⟩)⟩)⟩)⟩)⟩)⟩)⟩)
theorem kMisM10 : ∀ M ∈ kMis10, kMok kTbl kCl M := fun M h => (kAll2_ok _ _ kMisB10 M h).elim (fun _ q => kMokB_ok (kMisC10 M h) q)
set_option maxRecDepth 100000 in
theorem kMisB11 : kAll2 (kMokB lw_tbl kCl) kMis11 [(98, 1490, 58), (98, 1462, 1463), (98, 1502, 60), (98, 1506, 61), (98, 1497, 1498), (98, 1514, 62), (98, 1509, 1510), (98, 1517, 1518), (98, 1521, 1522), (98, 1525, 1526), (98, 1529, 1530), (98, 1539, 63), (98, 1534, 1535), (98, 1550, 64), (98, 1566, 68), (98, 1562, 67), (98, 1558, 66), (98, 1570, 69), (98, 1554, 65), (98, 1546, 0)] = true := by decide +kernel
set_option maxRecDepth 100000 in
set_option maxHeartbeats 4000000 in
theorem kMisC11 : ∀ M ∈ kMis11, Jvm.Cond.code M.1 M.2.1 M.2.2.1 M.2.2.2.1 ∈ kTbl := (List.forall_mem_cons.mpr ⟨List.mem_filter.mpr ⟨(List.mem_append_right _ (List.mem_append_right _ (List.mem_append_right _ (List.mem_append_right _ (List.mem_append_right _ (List.mem_append_right _ (List.mem_append_left _ (List.mem_of_getElem? (i := 204) rfl)))))))), rfl⟩, (List.forall_mem_cons.mpr ⟨List.mem_filter.mpr ⟨(List.mem_append_right _ (List.mem_append_right _ (List.mem_append_right _ (List.mem_append_right _ (List.mem_append_right _ (List.mem_append_right _ (List.mem_append_left _ (List.mem_of_getElem? (i := 177) rfl)))))))), rfl⟩, (List.forall_mem_cons.mpr ⟨List.mem_filter.mpr ⟨(List.mem_append_right _ (List.mem_append_right _ (List.mem_append_right _ (List.mem_append_right _ (List.mem_append_right _ (List.mem_append_right _ (List.mem_append_left _ (List.mem_of_getElem? (i := 216) rfl)))))))), rfl⟩, (List.forall_mem_cons.mpr ⟨List.mem_filter.mpr ⟨(List.mem_append_right _ (List.mem_append_right _ (List.mem_append_right _ (List.mem_append_right _ (List.mem_append_right _ (List.mem_append_right _ (List.mem_append_left _ (List.mem_of_getElem? (i := 220) rfl)))))))), rfl⟩, (List.forall_mem_cons.mpr ⟨List.mem_filter.mpr ⟨(List.mem_append_right _ (List.mem_append_right _ (List.mem_append_right _ (List.mem_append_right _ (List.mem_append_right _ (List.mem_append_right _ (List.mem_append_left _ (List.mem_of_getElem? (i := 212) rfl)))))))), rfl⟩, (List.forall_mem_cons.mpr ⟨List.mem_filter.mpr ⟨(List.mem_append_right _ (List.mem_append_right _ (List.mem_append_right _ (List.mem_append_right _ (List.mem_append_right _ (List.mem_append_right _ (List.mem_append_left _ (List.mem_of_getElem? (i := 228) rfl)))))))), rfl⟩, (List.forall_mem_cons.mpr ⟨List.mem_filter.mpr ⟨(List.mem_append_right _ (List.mem_append_right _ (List.mem_append_right _ (List.mem_append_right _ (List.mem_append_right _ (List.mem_append_right _ (List.mem_append_left _ (List.mem_of_getElem? (i := 224) rfl)))))))), rfl⟩, (List.forall_mem_cons.mpr ⟨List.mem_filter.mpr ⟨(List.mem_append_right _ (List.mem_append_right _ (List.mem_append_right _ (List.mem_append_right _ (List.mem_append_right _ (List.mem_append_right _ (List.mem_append_left _ (List.mem_of_getElem? (i := 232) rfl)))))))), rfl⟩, (List.forall_mem_cons.mpr ⟨List.mem_filter.mpr ⟨(List.mem_append_right _ (List.mem_append_right _ (List.mem_append_right _ (List.mem_append_right _ (List.mem_append_right _ (List.mem_append_right _ (List.mem_append_left _ (List.mem_of_getElem? (i := 236) rfl)))))))), rfl⟩, (List.forall_mem_cons.mpr ⟨List.mem_filter.mpr ⟨(List.mem_append_right _ (List.mem_append_right _ (List.mem_append_right _ (List.mem_append_right _ (List.mem_append_right _ (List.mem_append_right _ (List.mem_append_right _ (List.mem_of_getElem? (i := 0) rfl)))))))), rfl⟩, (List.forall_mem_cons.mpr ⟨List.mem_filter.mpr ⟨(List.mem_append_right _ (List.mem_append_right _ (List.mem_append_right _ (List.mem_append_right _ (List.mem_append_right _ (List.mem_append_right _ (List.mem_append_right _ (List.mem_of_getElem? (i := 4) rfl)))))))), rfl⟩, (List.forall_mem_cons.mpr ⟨List.mem_filter.mpr ⟨(List.mem_append_right _ (List.mem_append_right _ (List.mem_append_right _ (List.mem_append_right _ (List.mem_append_right _ (List.mem_append_right _ (List.mem_append_right _ (List.mem_of_getElem? (i := 13) rfl)))))))), rfl⟩, (List.forall_mem_cons.mpr ⟨List.mem_filter.mpr ⟨(List.mem_append_right _ (List.mem_append_right _ (List.mem_append_right _ (List.mem_append_right _ (List.mem_append_right _ (List.mem_append_right _ (List.mem_append_right _ (List.mem_of_getElem? (i := 9) rfl)))))))), rfl⟩, (List.forall_mem_cons.mpr ⟨List.mem_filter.mpr ⟨(List.mem_append_right _ (List.mem_append_right _ (List.mem_append_right _ (List.mem_append_right _ (List.mem_append_right _ (List.mem_append_right _ (List.mem_append_right _ (List.mem_of_getElem? (i := 24) rfl)))))))), rfl⟩, (List.forall_mem_cons.mpr ⟨List.mem_filter.mpr ⟨(List.mem_append_right _ (List.mem_append_right _ (List.mem_append_right _ (List.mem_append_right _ (List.mem_append_right _ (List.mem_append_right _ (List.mem_append_right _ (List.mem_of_getElem? (i := 40) rfl)))))))), rfl⟩, (List.forall_mem_cons.mpr ⟨List.mem_filter.mpr ⟨(List.mem_append_right _ (List.mem_append_right _ (List.mem_append_right _ (List.mem_append_right _ (List.mem_append_right _ (List.mem_append_right _ (List.mem_append_right _ (List.mem_of_getElem? (i := 36) rfl)))))))), rfl⟩, (List.forall_mem_cons.mpr ⟨List.mem_filter.mpr ⟨(List.mem_append_right _ (List.mem_append_right _ (List.mem_append_right _ (List.mem_append_right _ (List.mem_append_right _ (List.mem_append_right _ (List.mem_append_right _ (List.mem_of_getElem? (i := 32) rfl)))))))), rfl⟩, (List.forall_mem_cons.mpr ⟨List.mem_filter.mpr ⟨(List.mem_append_right _ (List.mem_append_right _ (List.mem_append_right _ (List.mem_append_right _ (List.mem_append_right _ (List.mem_append_right _ (List.mem_append_right _ (List.mem_of_getElem? (i := 44) rfl)))))))), rfl⟩, (List.forall_mem_cons.mpr ⟨List.mem_filter.mpr ⟨(List.mem_append_right _ (List.mem_append_right _ (List.mem_append_right _ (List.mem_append_right _ (List.mem_append_right _ (List.mem_append_right _ (List.mem_append_right _ (List.mem_of_getElem? (i := 28) rfl)))))))), rfl⟩, (List.forall_mem_cons.mpr ⟨List.mem_filter.mpr ⟨(List.mem_append_right _ (List.mem_append_right _ (List.mem_append_right _ (List.mem_append_right _ (List.mem_append_right _ (List.mem_append_right _ (List.mem_append_right _ (List.mem_of_getElem? (i := 20) rfl)))))))), rfl⟩, (fun _ h => absurd h List.not_mem_nil)⟩)⟩)⟩)⟩)⟩)⟩)⟩)⟩)⟩)⟩)⟩)⟩)⟩)⟩)⟩)⟩)⟩)⟩)⟩)⟩)
theorem kMisM11 : ∀ M ∈ kMis11, kMok kTbl kCl M := fun M h => (kAll2_ok _ _ kMisB11 M h).elim (fun _ q => kMokB_ok (kMisC11 M h) q)
set_option maxRecDepth 100000 in
theorem kMisB12 : kAll2 (kMokB lw_tbl kCl) kMis12 [(98, 1542, 1543), (98, 1573, 1574), (98, 1577, 1578), (98, 1586, 70), (98, 1581, 1582), (98, 1589, 1590), (98, 1593, 1594), (98, 1597, 1598), (98, 1606, 71), (98, 1601, 1602), (98, 1614, 72), (98, 1609, 1610), (98, 1618, 1619), (98, 1622, 1623), (98, 1626, 1627), (98, 1630, 1631), (98, 1634, 1635), (98, 1638, 1639), (98, 1655, 73), (98, 1666, 75)] = true := by decide +kernel
set_option maxRecDepth 100000 in
set_option maxHeartbeats 4000000 in
theorem kMisC12 : ∀ M ∈ kMis12, Jvm.Cond.code M.1 M.2.1 M.2.2.1 M.2.2.2.1 ∈ kTbl := (List.forall_mem_cons.mpr ⟨List.mem_filter.mpr ⟨(List.mem_append_right _ (List.mem_append_right _ (List.mem_append_right _ (List.mem_append_right _ (List.mem_append_right _ (List.mem_append_right _ (List.mem_append_right _ (List.mem_of_getElem? (i := 17) rfl)))))))), rfl⟩, (List.forall_mem_cons.mpr ⟨List.mem_filter.mpr ⟨(List.mem_append_right _ (List.mem_append_right _ (List.mem_append_right _ (List.mem_append_right _ (List.mem_append_right _ (List.mem_append_right _ (List.mem_append_right _ (List.mem_of_getElem? (i := 48) rfl)))))))), rfl⟩, (List.forall_mem_cons.mpr ⟨List.mem_filter.mpr ⟨(List.mem_append_right _ (List.mem_append_right _ (List.mem_append_right _ (List.mem_append_right _ (List.mem_append_right _ (List.mem_append_right _ (List.mem_append_right _ (List.mem_of_getElem? (i := 52) rfl)))))))), rfl⟩, (List.forall_mem_cons.mpr ⟨List.mem_filter.mpr ⟨(List.mem_append_right _ (List.mem_append_right _ (List.mem_append_right _ (List.mem_append_right _ (List.mem_append_right _ (List.mem_append_right _ (List.mem_append_right _ (List.mem_of_getElem? (i := 60) rfl)))))))), rfl⟩, (List.forall_mem_cons.mpr ⟨List.mem_filter.mpr ⟨(List.mem_append_right _ (List.mem_append_right _ (List.mem_append_right _ (List.mem_append_right _ (List.mem_append_right _ (List.mem_append_right _ (List.mem_append_right _ (List.mem_of_getElem? (i := 56) rfl)))))))), rfl⟩, (List.forall_mem_cons.mpr ⟨List.mem_filter.mpr ⟨(List.mem_append_right _ (List.mem_append_right _ (List.mem_append_right _ (List.mem_append_right _ (List.mem_append_right _ (List.mem_append_right _ (List.mem_append_right _ (List.mem_of_getElem? (i := 64) rfl)))))))), rfl⟩, (List.forall_mem_cons.mpr ⟨List.mem_filter.mpr ⟨(List.mem_append_right _ (List.mem_append_right _ (List.mem_append_right _ (List.mem_append_right _ (List.mem_append_right _ (List.mem_append_right _ (List.mem_append_right _ (List.mem_of_getElem? (i := 68) rfl)))))))), rfl⟩, (List.forall_mem_cons.mpr ⟨List.mem_filter.mpr ⟨(List.mem_append_right _ (List.mem_append_right _ (List.mem_append_right _ (List.mem_append_right _ (List.mem_append_right _ (List.mem_append_right _ (List.mem_append_right _ (List.mem_of_getElem? (i := 72) rfl)))))))), rfl⟩, (List.forall_mem_cons.mpr ⟨List.mem_filter.mpr ⟨(List.mem_append_right _ (List.mem_append_right _ (List.mem_append_right _ (List.mem_append_right _ (List.mem_append_right _ (List.mem_append_right _ (List.mem_append_right _ (List.mem_of_getElem? (i := 80) rfl)))))))), rfl⟩, (List.forall_mem_cons.mpr ⟨List.mem_filter.mpr ⟨(List.mem_append_right _ (List.mem_append_right _ (List.mem_append_right _ (List.mem_append_right _ (List.mem_append_right _ (List.mem_append_right _ (List.mem_append_right _ (List.mem_of_getElem? (i := 76) rfl)))))))), rfl⟩, (List.forall_mem_cons.mpr ⟨List.mem_filter.mpr ⟨(List.mem_append_right _ (List.mem_append_right _ (List.mem_append_right _ (List.mem_append_right _ (List.mem_append_right _ (List.mem_append_right _ (List.mem_append_right _ (List.mem_of_getElem? (i := 88) rfl)))))))), rfl⟩, (List.forall_mem_cons.mpr ⟨List.mem_filter.mpr ⟨(List.mem_append_right _ (List.mem_append_right _ (List.mem_append_right _ (List.mem_append_right _ (List.mem_append_right _ (List.mem_append_right _ (List.mem_append_right _ (List.mem_of_getElem? (i := 84) rfl)))))))), rfl⟩, (List.forall_mem_cons.mpr ⟨List.mem_filter.mpr ⟨(List.mem_append_right _ (List.mem_append_right _ (List.mem_append_right _ (List.mem_append_right _ (List.mem_append_right _ (List.mem_append_right _ (List.mem_append_right _ (List.mem_of_getElem? (i := 93) rfl)))))))), rfl⟩, (List.forall_mem_cons.mpr ⟨List.mem_filter.mpr ⟨(List.mem_append_right _ (List.mem_append_right _ (List.mem_append_right _ (List.mem_append_right _ (List.mem_append_right _ (List.mem_append_right _ (List.mem_append_right _ (List.mem_of_getElem? (i := 97) rfl)))))))), rfl⟩, (List.forall_mem_cons.mpr ⟨List.mem_filter.mpr ⟨(List.mem_append_right _ (List.mem_append_right _ (List.mem_append_right _ (List.mem_append_right _ (List.mem_append_right _ (List.mem_append_right _ (List.mem_append_right _ (List.mem_of_getElem? (i := 101) rfl)))))))), rfl⟩, (List.forall_mem_cons.mpr ⟨List.mem_filter.mpr ⟨(List.mem_append_right _ (List.mem_append_right _ (List.mem_append_right _ (List.mem_append_right _ (List.mem_append_right _ (List.mem_append_right _ (List.mem_append_right _ (List.mem_of_getElem? (i := 105) rfl)))))))), rfl⟩, (List.forall_mem_cons.mpr ⟨List.mem_filter.mpr ⟨(List.mem_append_right _ (List.mem_append_right _ (List.mem_append_right _ (List.mem_append_right _ (List.mem_append_right _ (List.mem_append_right _ (List.mem_append_right _ (List.mem_of_getElem? (i := 109) rfl)))))))), rfl⟩, (List.forall_mem_cons.mpr ⟨List.mem_filter.mpr ⟨(List.mem_append_right _ (List.mem_append_right _ (List.mem_append_right _ (List.mem_append_right _ (List.mem_append_right _ (List.mem_append_right _ (List.mem_append_right _ (List.mem_of_getElem? (i := 113) rfl)))))))), rfl⟩, (List.forall_mem_cons.mpr ⟨List.mem_filter.mpr ⟨(List.mem_append_right _ (List.mem_append_right _ (List.mem_append_right _ (List.mem_append_right _ (List.mem_append_right _ (List.mem_append_right _ (List.mem_append_right _ (List.mem_of_getElem? (i := 129) rfl)))))))), rfl⟩, (List.forall_mem_cons.mpr ⟨List.mem_filter.mpr ⟨(List.mem_append_right _ (List.mem_append_right _ (List.mem_append_right _ (List.mem_append_right _ (List.mem_append_right _ (List.mem_append_right _ (List.mem_append_right _ (List.mem_of_getElem? (i := 140) rfl)))))))), rfl⟩, (fun _ h => absurd h List.not_mem_nil)⟩)⟩)⟩)⟩)⟩)⟩)⟩)⟩)⟩)⟩)⟩)⟩)⟩)⟩)⟩)⟩)⟩)⟩)⟩)⟩)
theorem kMisM12 : ∀ M ∈ kMis12, kMok kTbl kCl M := fun M h => (kAll2_ok _ _ kMisB12 M h).elim (fun _ q => kMokB_ok (kMisC12 M h) q)
set_option maxRecDepth 100000 in
theorem kMisB13 : kAll2 (kMokB lw_tbl kCl) kMis13 [(98, 1642, 1643), (98, 1646, 1647), (98, 1662, 0), (98, 1670, 76), (98, 1674, 77), (98, 1659, 74), (98, 1686, 80), (98, 1682, 79), (98, 1678, 78), (98, 1698, 83), (98, 1694, 82), (98, 1690, 81), (98, 1706, 85), (98, 1702, 84), (98, 1650, 1651), (98, 1709, 1710), (98, 1313, 0), (98, 1713, 1714), (98, 1717, 1718), (98, 1726, 86)] = true := by decide +kernel
set_option maxRecDepth 100000 in
set_option maxHeartbeats 4000000 in
theorem kMisC13 : ∀ M ∈ kMis13, Jvm.Cond.code M.1 M.2.1 M.2.2.1 M.2.2.2.1 ∈ kTbl := (List.forall_mem_cons.mpr ⟨List.mem_filter.mpr ⟨(List.mem_append_right _ (List.mem_append_right _ (List.mem_append_right _ (List.mem_append_right _ (List.mem_append_right _ (List.mem_append_right _ (List.mem_append_right _ (List.mem_of_getElem? (i := 117) rfl)))))))), rfl⟩, (List.forall_mem_cons.mpr ⟨List.mem_filter.mpr ⟨(List.mem_append_right _ (List.mem_append_right _ (List.mem_append_right _ (List.mem_append_right _ (List.mem_append_right _ (List.mem_append_right _ (List.mem_append_right _ (List.mem_of_getElem? (i := 121) rfl)))))))), rfl⟩, (List.forall_mem_cons.mpr ⟨List.mem_filter.mpr ⟨(List.mem_append_right _ (List.mem_append_right _ (List.mem_append_right _ (List.mem_append_right _ (List.mem_append_right _ (List.mem_append_right _ (List.mem_append_right _ (List.mem_of_getElem? (i := 136) rfl)))))))), rfl⟩, (List.forall_mem_cons.mpr ⟨List.mem_filter.mpr ⟨(List.mem_append_right _ (List.mem_append_right _ (List.mem_append_right _ (List.mem_append_right _ (List.mem_append_right _ (List.mem_append_right _ (List.mem_append_right _ (List.mem_of_getElem? (i := 144) rfl)))))))), rfl⟩, (List.forall_mem_cons.mpr ⟨List.mem_filter.mpr ⟨(List.mem_append_right _ (List.mem_append_right _ (List.mem_append_right _ (List.mem_append_right _ (List.mem_append_right _ (List.mem_append_right _ (List.mem_append_right _ (List.mem_of_getElem? (i := 148) rfl)))))))), rfl⟩, (List.forall_mem_cons.mpr ⟨List.mem_filter.mpr ⟨(List.mem_append_right _ (List.mem_append_right _ (List.mem_append_right _ (List.mem_append_right _ (List.mem_append_right _ (List.mem_append_right _ (List.mem_append_right _ (List.mem_of_getElem? (i := 133) rfl)))))))), rfl⟩, (List.forall_mem_cons.mpr ⟨List.mem_filter.mpr ⟨(List.mem_append_right _ (List.mem_append_right _ (List.mem_append_right _ (List.mem_append_right _ (List.mem_append_right _ (List.mem_append_right _ (List.mem_append_right _ (List.mem_of_getElem? (i := 160) rfl)))))))), rfl⟩, (List.forall_mem_cons.mpr ⟨List.mem_filter.mpr ⟨(List.mem_append_right _ (List.mem_append_right _ (List.mem_append_right _ (List.mem_append_right _ (List.mem_append_right _ (List.mem_append_right _ (List.mem_append_right _ (List.mem_of_getElem? (i := 156) rfl)))))))), rfl⟩, (List.forall_mem_cons.mpr ⟨List.mem_filter.mpr ⟨(List.mem_append_right _ (List.mem_append_right _ (List.mem_append_right _ (List.mem_append_right _ (List.mem_append_right _ (List.mem_append_right _ (List.mem_append_right _ (List.mem_of_getElem? (i := 152) rfl)))))))), rfl⟩, (List.forall_mem_cons.mpr ⟨List.mem_filter.mpr ⟨(List.mem_append_right _ (List.mem_append_right _ (List.mem_append_right _ (List.mem_append_right _ (List.mem_append_right _ (List.mem_append_right _ (List.mem_append_right _ (List.mem_of_getElem? (i := 172) rfl)))))))), rfl⟩, (List.forall_mem_cons.mpr ⟨List.mem_filter.mpr ⟨(List.mem_append_right _ (List.mem_append_right _ (List.mem_append_right _ (List.mem_append_right _ (List.mem_append_right _ (List.mem_append_right _ (List.mem_append_right _ (List.mem_of_getElem? (i := 168) rfl)))))))), rfl⟩, (List.forall_mem_cons.mpr ⟨List.mem_filter.mpr ⟨(List.mem_append_right _ (List.mem_append_right _ (List.mem_append_right _ (List.mem_append_right _ (List.mem_append_right _ (List.mem_append_right _ (List.mem_append_right _ (List.mem_of_getElem? (i := 164) rfl)))))))), rfl⟩, (List.forall_mem_cons.mpr ⟨List.mem_filter.mpr ⟨(List.mem_append_right _ (List.mem_append_right _ (List.mem_append_right _ (List.mem_append_right _ (List.mem_append_right _ (List.mem_append_right _ (List.mem_append_right _ (List.mem_of_getElem? (i := 180) rfl)))))))), rfl⟩, (List.forall_mem_cons.mpr ⟨List.mem_filter.mpr ⟨(List.mem_append_right _ (List.mem_append_right _ (List.mem_append_right _ (List.mem_append_right _ (List.mem_append_right _ (List.mem_append_right _ (List.mem_append_right _ (List.mem_of_getElem? (i := 176) rfl)))))))), rfl⟩, (List.forall_mem_cons.mpr ⟨List.mem_filter.mpr ⟨(List.mem_append_right _ (List.mem_append_right _ (List.mem_append_right _ (List.mem_append_right _ (List.mem_append_right _ (List.mem_append_right _ (List.mem_append_right _ (List.mem_of_getElem? (i := 125) rfl)))))))), rfl⟩, (List.forall_mem_cons.mpr ⟨List.mem_filter.mpr ⟨(List.mem_append_right _ (List.mem_append_right _ (List.mem_append_right _ (List.mem_append_right _ (List.mem_append_right _ (List.mem_append_right _ (List.mem_append_right _ (List.mem_of_getElem? (i := 184) rfl)))))))), rfl⟩, (List.forall_mem_cons.mpr ⟨List.mem_filter.mpr ⟨(List.mem_append_right _ (List.mem_append_right _ (List.mem_append_right _ (List.mem_append_right _ (List.mem_append_right _ (List.mem_append_right _ (List.mem_append_left _ (List.mem_of_getElem? (i := 27) rfl)))))))), rfl⟩, (List.forall_mem_cons.mpr ⟨List.mem_filter.mpr ⟨(List.mem_append_right _ (List.mem_append_right _ (List.mem_append_right _ (List.mem_append_right _ (List.mem_append_right _ (List.mem_append_right _ (List.mem_append_right _ (List.mem_of_getElem? (i := 188) rfl)))))))), rfl⟩, (List.forall_mem_cons.mpr ⟨List.mem_filter.mpr ⟨(List.mem_append_right _ (List.mem_append_right _ (List.mem_append_right _ (List.mem_append_right _ (List.mem_append_right _ (List.mem_append_right _ (List.mem_append_right _ (List.mem_of_getElem? (i := 192) rfl)))))))), rfl⟩, (List.forall_mem_cons.mpr ⟨List.mem_filter.mpr ⟨(List.mem_append_right _ (List.mem_append_right _ (List.mem_append_right _ (List.mem_append_right _ (List.mem_append_right _ (List.mem_append_right _ (List.mem_append_right _ (List.mem_of_getElem? (i := 200) rfl)))))))), rfl⟩, (fun _ h => absurd h List.not_mem_nil)⟩)⟩)⟩)⟩)⟩)⟩)⟩)⟩)⟩)⟩)⟩)⟩)⟩)⟩)⟩)⟩)⟩)⟩)⟩)⟩)
theorem kMisM13 : ∀ M ∈ kMis13, kMok kTbl kCl M := fun M h => (kAll2_ok _ _ kMisB13 M h).elim (fun _ q => kMokB_ok (kMisC13 M h) q)
set_option maxRecDepth 100000 in
theorem kMisB14 : kAll2 (kMokB lw_tbl kCl) kMis14 [(98, 1721, 1722), (98, 1729, 1730), (98, 1734, 1735), (98, 1738, 1739)] = true := by decide +kernel
set_option maxRecDepth 100000 in
set_option maxHeartbeats 4000000 in
theorem kMisC14 : ∀ M ∈ kMis14, Jvm.Cond.code M.1 M.2.1 M.2.2.1 M.2.2.2.1 ∈ kTbl := (List.forall_mem_cons.mpr ⟨List.mem_filter.mpr ⟨(List.mem_append_right _ (List.mem_append_right _ (List.mem_append_right _ (List.mem_append_right _ (List.mem_append_right _ (List.mem_append_right _ (List.mem_append_right _ (List.mem_of_getElem? (i := 196) rfl)))))))), rfl⟩, (List.forall_mem_cons.mpr ⟨List.mem_filter.mpr ⟨(List.mem_append_right _ (List.mem_append_right _ (List.mem_append_right _ (List.mem_append_right _ (List.mem_append_right _ (List.mem_append_right _ (List.mem_append_right _ (List.mem_of_getElem? (i := 204) rfl)))))))), rfl⟩, (List.forall_mem_cons.mpr ⟨List.mem_filter.mpr ⟨(List.mem_append_right _ (List.mem_append_right _ (List.mem_append_right _ (List.mem_append_right _ (List.mem_append_right _ (List.mem_append_right _ (List.mem_append_right _ (List.mem_of_getElem? (i := 209) rfl)))))))), rfl⟩, (List.forall_mem_cons.mpr ⟨List.mem_filter.mpr ⟨(List.mem_append_right _ (List.mem_append_right _ (List.mem_append_right _ (List.mem_append_right _ (List.mem_append_right _ (List.mem_append_right _ (List.mem_append_right _ (List.mem_of_getElem? (i := 213) rfl)))))))), rfl⟩, (fun _ h => absurd h List.not_mem_nil)⟩)⟩)⟩)⟩)
theorem kMisM14 : ∀ M ∈ kMis14, kMok kTbl kCl M := fun M h => (kAll2_ok _ _ kMisB14 M h).elim (fun _ q => kMokB_ok (kMisC14 M h) q)
theorem kMis_ok : ∀ M ∈ kMis, kMok kTbl kCl M := fun M h => (List.mem_append.mp h).elim (fun h => kMisM0 M h) (fun h => (List.mem_append.mp h).elim (fun h => kMisM1 M h) (fun h => (List.mem_append.mp h).elim (fun h => kMisM2 M h) (fun h => (List.mem_append.mp h).elim (fun h => kMisM3 M h) (fun h => (List.mem_append.mp h).elim (fun h => kMisM4 M h) (fun h => (List.mem_append.mp h).elim (fun h => kMisM5 M h) (fun h => (List.mem_append.mp h).elim (fun h => kMisM6 M h) (fun h => (List.mem_append.mp h).elim (fun h => kMisM7 M h) (fun h => (List.mem_append.mp h).elim (fun h => kMisM8 M h) (fun h => (List.mem_append.mp h).elim (fun h => kMisM9 M h) (fun h => (List.mem_append.mp h).elim (fun h => kMisM10 M h) (fun h => (List.mem_append.mp h).elim (fun h => kMisM11 M h) (fun h => (List.mem_append.mp h).elim (fun h => kMisM12 M h) (fun h => (List.mem_append.mp h).elim (fun h => kMisM13 M h) (fun h => kMisM14 M h))))))))))))))
theorem kMi_ok : ∀ a M, kMi_ a = some M → kMok kTbl kCl M := fun _ M h => kMis_ok M (List.mem_of_getElem? h)
end
section
-- laid by wip/whole/gen.py
def kTabB (tbl : List Jvm.Cond) (cl : List vw_C) (zs : kZt) (mi : Nat → Option kMi) (own : String) (tb : kTab) (p1 p2 p3 p4 p5 p6 : List Nat) : Bool :=
  kAll2 (fun x p => match cl[x.2.1]? with
    | some q => decide (x.2.2 < q.2.2) && decide ((q.2.1 x.2.2).1 = q.1) && kAt_ tbl p (.fieldLink own x.1 q.1 (q.2.1 x.2.2).2.1 (q.2.1 x.2.2).2.2.1)
    | none => false) tb.1 p1
  && kAll2 (fun x p => zs.1.any (fun z => z.2.2 == x.2 && (kAt_ tbl p (.fieldLink own x.1 z.1 z.2.1 "[I") || decide (Jvm.Cond.fieldLinkNest own x.1 z.1 z.2.1 "[I" "PennyALap" ∈ zs.2)))) tb.2.1 p2
  && kAll2 (fun x p => kAt_ tbl p (.constant own x.1 (Int32.ofInt x.2))) tb.2.2.1 p3
  && kAll2 (fun x p => kAt_ tbl p (.constantLong own x.1 (Int64.ofInt x.2))) tb.2.2.2.1 p4
  && kAll2 (fun x p => match mi x.2.1 with
    | some M' => decide (M'.2.2.2.2.2.1 = x.2.2.2) && decide (x.2.2.1 = if x.2.2.2 = true then M'.2.2.2.2.1 else M'.2.2.2.2.1 + 1) && (kAt_ tbl p (.methodLink own x.1 M'.1) || (x.2.2.2 && decide (Jvm.Cond.methodLinkNest own x.1 M'.1 "PennyALap" ∈ zs.2)))
    | none => false) tb.2.2.2.2.1 p5
  && kAll2 (fun x p => (if x.2 = 1 then kAt_ tbl p (.methodLink own x.1 Lib.Math.max.name) else if x.2 = 2 then kAt_ tbl p (.methodLink own x.1 Lib.Math.min.name) else kAt_ tbl p (.methodLink own x.1 arraycopyName))) tb.2.2.2.2.2 p6
def kLibOk (tbl : List Jvm.Cond) : Prop := (Jvm.Cond.static Lib.Math.max.name ∈ tbl ∧ Jvm.Cond.initialized "java/lang/Math" ∈ tbl ∧ Jvm.Cond.code Lib.Math.max.name Lib.Math.max.code 2 (some .int) ∈ tbl) ∧ (Jvm.Cond.static Lib.Math.min.name ∈ tbl ∧ Jvm.Cond.initialized "java/lang/Math" ∈ tbl ∧ Jvm.Cond.code Lib.Math.min.name Lib.Math.min.code 2 (some .int) ∈ tbl) ∧ (Jvm.Cond.native arraycopyName ∈ tbl ∧ Jvm.Cond.static arraycopyName ∈ tbl ∧ Jvm.Cond.initialized "java/lang/System" ∈ tbl)
theorem kTabB_ok {tbl : List Jvm.Cond} {cl : List vw_C} {zs : kZt} {mi : Nat → Option kMi} {own : String} {tb : kTab} {p1 p2 p3 p4 p5 p6 : List Nat} (hL : kLibOk (tbl.filter goodWord)) (h : kTabB tbl cl zs mi own tb p1 p2 p3 p4 p5 p6 = true) : kTabOk (tbl.filter goodWord) cl zs mi own tb := by
  unfold kTabB at h
  simp only [Bool.and_eq_true] at h
  obtain ⟨⟨⟨⟨⟨h1, h2⟩, h3⟩, h4⟩, h5⟩, h6⟩ := h
  refine ⟨fun x hx => ?_, fun x hx => ?_, fun x hx => ?_, fun x hx => ?_, fun x hx => ?_, fun x hx => ?_⟩
  · obtain ⟨p, hp⟩ := kAll2_ok _ _ h1 x hx
    split at hp
    · rename_i q hq
      simp only [Bool.and_eq_true, decide_eq_true_eq] at hp
      exact ⟨q, hq, hp.1.1, hp.1.2, kAt_mem hp.2⟩
    · cases hp
  · obtain ⟨p, hp⟩ := kAll2_ok _ _ h2 x hx
    obtain ⟨z, hz, hzz⟩ := List.any_eq_true.mp hp
    simp only [Bool.and_eq_true, Bool.or_eq_true, beq_iff_eq] at hzz
    refine ⟨z.1, z.2.1, "PennyALap", by rw [← hzz.1]; exact hz, ?_⟩
    rcases hzz.2 with g | g
    · exact Or.inl (kAt_mem g)
    · exact Or.inr (of_decide_eq_true g)
  · obtain ⟨p, hp⟩ := kAll2_ok _ _ h3 x hx
    exact kAt_mem hp
  · obtain ⟨p, hp⟩ := kAll2_ok _ _ h4 x hx
    exact kAt_mem hp
  · obtain ⟨p, hp⟩ := kAll2_ok _ _ h5 x hx
    split at hp
    · rename_i M' hM
      simp only [Bool.and_eq_true, Bool.or_eq_true, decide_eq_true_eq] at hp
      refine ⟨M', hM, hp.1.1, hp.1.2, ?_⟩
      rcases hp.2 with g | g
      · exact Or.inl (kAt_mem g)
      · exact Or.inr ⟨g.1, _, g.2⟩
    · cases hp
  · obtain ⟨p, hp⟩ := kAll2_ok _ _ h6 x hx
    refine ⟨fun q => ?_, fun q => ?_, fun q => ?_⟩
    · rw [if_pos q] at hp; exact ⟨kAt_mem hp, hL.1⟩
    · rw [if_neg (by omega), if_pos q] at hp; exact ⟨kAt_mem hp, hL.2.1⟩
    · rw [if_neg (by omega), if_neg (by omega)] at hp; exact ⟨kAt_mem hp, hL.2.2⟩
set_option maxRecDepth 100000 in
theorem kLib : kLibOk kTbl := ⟨⟨kAt_mem (p := 579) (by decide +kernel), kAt_mem (p := 100) (by decide +kernel), List.mem_filter.mpr ⟨(List.mem_append_right _ (List.mem_append_right _ (List.mem_append_right _ (List.mem_append_left _ (List.mem_of_getElem? (i := 13) rfl))))), rfl⟩⟩, ⟨kAt_mem (p := 576) (by decide +kernel), kAt_mem (p := 100) (by decide +kernel), List.mem_filter.mpr ⟨(List.mem_append_right _ (List.mem_append_right _ (List.mem_append_right _ (List.mem_append_left _ (List.mem_of_getElem? (i := 10) rfl))))), rfl⟩⟩, kAt_mem (p := 454) (by decide +kernel), kAt_mem (p := 453) (by decide +kernel), kAt_mem (p := 99) (by decide +kernel)⟩
def kTb0 : kTab := ([(11, 0, 0), (15, 0, 2), (18, 0, 1), (22, 0, 3)], [(32, 1003), (47, 1004)], [], [], [(25, 3, 2, false), (29, 2, 2, false), (35, 9, 5, false), (39, 4, 2, false), (43, 11, 6, false), (50, 12, 5, false), (53, 10, 6, false)], [])
set_option maxRecDepth 100000 in
theorem kTb0_ok : kTabOk kTbl kCl kZs kMi_ RX0 kTb0 := kTabB_ok kLib (show kTabB lw_tbl kCl kZs kMi_ RX0 kTb0 [292, 294, 293, 295] [992, 990] [] [] [973, 989, 977, 981, 985, 994, 998] [] = true by decide +kernel)
def kTb1 : kTab := ([(11, 1, 0), (15, 1, 1), (18, 1, 2), (21, 1, 3), (28, 1, 4)], [], [], [], [(25, 15, 1, false), (37, 45, 3, false)], [(31, 3)])
set_option maxRecDepth 100000 in
theorem kTb1_ok : kTabOk kTbl kCl kZs kMi_ RX1 kTb1 := kTabB_ok kLib (show kTabB lw_tbl kCl kZs kMi_ RX1 kTb1 [174, 175, 176, 177, 178] [] [] [] [448, 944] [452] = true by decide +kernel)
def kTb2 : kTab := ([(9, 2, 2), (15, 2, 3), (18, 2, 4), (22, 2, 0), (26, 2, 1)], [], [], [], [(30, 39, 1, false), (36, 42, 2, false), (40, 104, 2, false), (45, 54, 3, false), (49, 21, 1, false), (52, 22, 2, false), (56, 46, 3, false), (67, 20, 3, false)], [(59, 1), (64, 2)])
set_option maxRecDepth 100000 in
theorem kTb2_ok : kTabOk kTbl kCl kZs kMi_ RX2 kTb2 := kTabB_ok kLib (show kTabB lw_tbl kCl kZs kMi_ RX2 kTb2 [240, 241, 242, 238, 239] [] [] [] [780, 781, 782, 783, 792, 796, 800, 819] [801, 802] = true by decide +kernel)
def kTb3 : kTab := ([(9, 3, 0), (15, 3, 1), (18, 3, 2), (21, 3, 3), (25, 3, 4), (28, 3, 5), (31, 3, 6), (34, 3, 7)], [], [], [], [], [(37, 3)])
set_option maxRecDepth 100000 in
theorem kTb3_ok : kTabOk kTbl kCl kZs kMi_ RX3 kTb3 := kTabB_ok kLib (show kTabB lw_tbl kCl kZs kMi_ RX3 kTb3 [261, 262, 263, 264, 265, 266, 267, 268] [] [] [] [] [931] = true by decide +kernel)
def kTb4 : kTab := ([(11, 4, 1), (15, 4, 2), (18, 4, 0), (25, 4, 3), (29, 4, 4)], [(22, 1002), (51, 1000), (54, 1001)], [], [], [(32, 41, 2, false), (36, 43, 3, false), (40, 44, 2, false), (44, 45, 3, false), (48, 40, 2, false), (57, 118, 3, true), (61, 46, 3, false), (64, 72, 1, false), (70, 73, 5, false), (74, 74, 3, false), (85, 50, 4, false), (89, 52, 3, false), (92, 53, 3, false), (95, 54, 3, false)], [(77, 2), (82, 1)])
set_option maxRecDepth 100000 in
theorem kTb4_ok : kTabOk kTbl kCl kZs kMi_ RX4 kTb4 := kTabB_ok kLib (show kTabB lw_tbl kCl kZs kMi_ RX4 kTb4 [153, 154, 152, 155, 156] [150, 394, 395] [] [] [468, 374, 553, 378, 390, 396, 549, 554, 558, 562, 647, 615, 611, 631] [575, 578] = true by decide +kernel)
def kTb5 : kTab := ([(11, 5, 0), (15, 5, 3), (18, 5, 5), (21, 5, 7), (24, 5, 8), (27, 5, 1), (35, 5, 6), (38, 5, 4), (41, 5, 2)], [], [], [], [(31, 61, 1, false), (44, 62, 1, false), (48, 63, 3, false), (52, 67, 1, false), (55, 68, 2, false), (59, 64, 2, false), (63, 71, 1, true), (67, 69, 1, true), (70, 66, 1, false), (73, 70, 1, true), (76, 65, 1, false), (79, 75, 2, true), (83, 76, 3, true), (87, 77, 1, true)], [])
set_option maxRecDepth 100000 in
theorem kTb5_ok : kTabOk kTbl kCl kZs kMi_ RX5 kTb5 := kTabB_ok kLib (show kTabB lw_tbl kCl kZs kMi_ RX5 kTb5 [115, 118, 120, 122, 123, 116, 121, 119, 117] [] [] [] [497, 501, 505, 513, 524, 509, 535, 517, 520, 528, 531, 566, 572, 569] [] = true by decide +kernel)
def kTb6 : kTab := ([(13, 6, 2), (17, 6, 3), (20, 6, 4), (23, 6, 0), (27, 6, 1), (61, 8, 2)], [], [], [], [(31, 105, 2, false), (35, 38, 1, false), (41, 79, 2, false), (44, 80, 3, false), (48, 82, 2, false), (51, 106, 2, false), (55, 57, 3, false), (58, 107, 3, false), (69, 81, 4, false), (73, 40, 2, false)], [(64, 1)])
set_option maxRecDepth 100000 in
theorem kTb6_ok : kTabOk kTbl kCl kZs kMi_ RX6 kTb6 := kTabB_ok kLib (show kTabB lw_tbl kCl kZs kMi_ RX6 kTb6 [218, 219, 220, 216, 217, 199] [] [] [] [730, 731, 732, 742, 747, 736, 740, 741, 751, 767] [746] = true by decide +kernel)
def kTb7 : kTab := ([(9, 7, 0), (15, 7, 1), (18, 7, 2), (21, 7, 3)], [], [], [], [(25, 86, 2, false), (29, 88, 2, false), (32, 92, 3, false), (36, 99, 2, true), (40, 100, 4, false)], [(44, 4)])
set_option maxRecDepth 100000 in
theorem kTb7_ok : kTabOk kTbl kCl kZs kMi_ RX7 kTb7 := kTabB_ok kLib (show kTabB lw_tbl kCl kZs kMi_ RX7 kTb7 [311, 312, 313, 314] [] [] [] [413, 422, 430, 1039, 1068] [1069] = true by decide +kernel)
def kTb8 : kTab := ([(9, 8, 1), (15, 8, 2), (18, 8, 3), (21, 8, 0)], [], [(65, 1103515245)], [], [(25, 46, 3, false), (31, 50, 4, false), (35, 38, 1, false), (39, 102, 3, false), (42, 40, 2, false), (51, 118, 3, true), (55, 105, 2, false), (59, 107, 3, false), (62, 111, 4, false), (69, 56, 3, false), (72, 116, 1, false), (75, 57, 3, false), (78, 39, 1, false), (81, 42, 2, false), (85, 104, 2, false), (88, 55, 3, false)], [(46, 2), (66, 1)])
set_option maxRecDepth 100000 in
theorem kTb8_ok : kTabOk kTbl kCl kZs kMi_ RX8 kTb8 := kTabB_ok kLib (show kTabB lw_tbl kCl kZs kMi_ RX8 kTb8 [197, 198, 200, 196] [] [868] [] [597, 598, 589, 593, 665, 721, 708, 717, 864, 607, 623, 627, 656, 660, 661, 666] [712, 869] = true by decide +kernel)
def kTb9 : kTab := ([(10, 9, 0), (21, 9, 1), (28, 9, 2), (37, 9, 3), (46, 9, 4), (53, 9, 5), (60, 9, 6), (64, 9, 7), (70, 9, 9), (77, 9, 10), (312, 9, 8)], [(81, 1000), (85, 1001), (258, 1002)], [(217, 99999)], [(351, (-9223372036854775808))], [(88, 118, 3, true), (92, 47, 2, false), (96, 48, 4, false), (99, 49, 4, false), (103, 86, 2, false), (107, 90, 3, false), (111, 123, 4, false), (114, 93, 2, false), (117, 97, 3, false), (121, 43, 3, false), (124, 44, 2, false), (127, 45, 3, false), (131, 14, 4, false), (135, 41, 2, false), (138, 40, 2, false), (141, 42, 2, false), (144, 27, 2, false), (147, 25, 2, false), (150, 26, 2, false), (153, 59, 2, false), (156, 60, 1, false), (160, 119, 4, true), (164, 50, 4, false), (167, 103, 2, false), (171, 112, 1, false), (174, 113, 1, false), (177, 114, 1, false), (180, 102, 3, false), (183, 56, 3, false), (186, 57, 3, false), (189, 46, 3, false), (192, 51, 3, false), (195, 115, 1, false), (198, 116, 1, false), (201, 117, 1, false), (204, 53, 3, false), (207, 54, 3, false), (209, 52, 3, false), (218, 108, 2, false), (221, 109, 2, false), (224, 78, 2, false), (227, 84, 1, false), (230, 85, 1, false), (233, 83, 2, false), (234, 142, 3, false), (237, 20, 3, false), (240, 23, 2, false), (243, 24, 2, false), (246, 18, 1, false), (249, 19, 2, false), (252, 144, 2, false), (255, 104, 2, false), (264, 149, 4, false), (267, 150, 3, false), (270, 38, 1, false), (273, 110, 3, false), (276, 34, 3, false), (279, 55, 3, false), (283, 35, 4, false), (287, 33, 1, false), (290, 36, 1, false), (293, 28, 1, false), (296, 29, 1, false), (299, 31, 1, false), (302, 30, 1, false), (305, 32, 1, false), (308, 37, 2, false), (316, 16, 2, false), (320, 17, 2, false), (323, 2, 2, false), (326, 5, 2, false), (329, 8, 4, false), (331, 7, 2, false), (334, 3, 2, false), (337, 95, 3, false), (340, 96, 4, false), (343, 91, 3, false), (346, 98, 4, false), (353, 87, 2, false), (356, 88, 2, false), (359, 89, 3, false), (362, 100, 4, false), (365, 101, 6, false), (369, 94, 2, false), (372, 4, 2, false), (375, 6, 3, false), (378, 39, 1, false), (381, 58, 1, false), (384, 13, 1, false), (387, 0, 1, false), (389, 1, 1, false)], [(212, 1), (261, 2)])
set_option maxRecDepth 100000 in
theorem kTb9_ok : kTabOk kTbl kCl kZs kMi_ RX9 kTb9 := kTabB_ok kLib (show kTabB lw_tbl kCl kZs kMi_ RX9 kTb9 [325, 326, 327, 328, 329, 330, 331, 332, 334, 335, 333] [363, 365, 841] [703] [1046] [367, 370, 386, 397, 405, 409, 414, 418, 426, 438, 439, 443, 444, 459, 463, 464, 469, 473, 477, 485, 493, 542, 545, 585, 599, 603, 619, 635, 636, 637, 642, 643, 652, 670, 671, 679, 680, 697, 704, 713, 726, 755, 759, 763, 772, 788, 807, 815, 776, 784, 824, 828, 847, 851, 855, 860, 874, 882, 883, 891, 895, 903, 907, 911, 915, 919, 927, 940, 949, 957, 961, 969, 1006, 1014, 1015, 1023, 1031, 1035, 1051, 1055, 1056, 1060, 1064, 1074, 1078, 1079, 1087, 1088, 1092, 1096, 1100] [698, 842] = true by decide +kernel)
def kTb10 : kTab := ([(7, 10, 2), (13, 10, 3), (16, 10, 4), (19, 10, 5), (22, 10, 7), (25, 10, 8), (28, 10, 9), (31, 10, 10), (34, 10, 11), (37, 10, 12), (40, 10, 14), (44, 10, 15), (47, 10, 19), (50, 10, 20), (53, 10, 21), (56, 10, 22), (59, 10, 23), (63, 10, 29), (66, 10, 30), (69, 10, 31), (72, 10, 32), (76, 10, 33), (79, 10, 34), (82, 10, 35), (85, 10, 37), (88, 10, 38), (91, 10, 39), (94, 10, 40), (97, 10, 41), (100, 10, 43), (103, 10, 44), (106, 10, 45), (109, 10, 46), (112, 10, 48), (115, 10, 49), (118, 10, 50), (121, 10, 52), (124, 10, 54), (127, 10, 55), (130, 10, 56), (133, 10, 57), (137, 10, 58), (143, 10, 1), (150, 10, 6), (166, 10, 13), (169, 10, 16), (176, 10, 18), (179, 10, 17), (199, 10, 24), (202, 10, 25), (205, 10, 26), (208, 10, 28), (211, 10, 27), (266, 10, 36), (355, 10, 42), (362, 10, 47), (365, 10, 51), (368, 10, 53)], [], [(322, 99999), (358, 1103515245)], [(164, 2), (418, (-9223372036854775808))], [(146, 170, 3, true), (153, 171, 2, false), (157, 174, 4, false), (161, 276, 1, true), (172, 177, 3, false), (182, 178, 4, false), (186, 172, 2, false), (189, 182, 3, false), (193, 183, 2, true), (196, 179, 4, false), (214, 188, 1, false), (217, 187, 1, false), (221, 189, 3, false), (225, 190, 1, true), (229, 191, 1, false), (233, 193, 1, false), (236, 198, 1, false), (239, 192, 1, false), (242, 194, 1, false), (245, 195, 1, false), (248, 196, 1, false), (251, 197, 1, false), (254, 199, 1, false), (257, 201, 3, true), (260, 202, 4, false), (263, 200, 2, false), (270, 203, 2, false), (273, 205, 4, false), (276, 209, 3, false), (279, 211, 3, false), (282, 212, 3, false), (285, 213, 3, false), (288, 208, 3, false), (291, 216, 3, false), (294, 219, 1, false), (297, 207, 1, true), (300, 217, 2, false), (304, 215, 3, false), (307, 218, 1, false), (310, 220, 1, false), (313, 222, 1, false), (316, 223, 1, false), (319, 225, 3, false), (323, 231, 2, false), (326, 234, 3, false), (329, 236, 2, false), (332, 235, 3, false), (335, 237, 2, false), (339, 239, 1, true), (342, 233, 3, false), (345, 238, 5, false), (349, 243, 3, false), (352, 248, 3, false), (359, 250, 3, false), (371, 259, 2, false), (374, 263, 3, false), (377, 262, 2, true), (380, 264, 3, false), (383, 265, 3, false), (386, 266, 3, false), (389, 267, 3, false), (392, 271, 3, false), (395, 269, 3, false), (398, 270, 3, false), (401, 268, 3, false), (404, 272, 3, false), (407, 258, 2, false), (410, 273, 3, false), (413, 279, 3, false)], [])
set_option maxRecDepth 100000 in
theorem kTb10_ok : kTabOk kTbl kCl kZs kMi_ RX10 kTb10 := kTabB_ok kLib (show kTabB lw_tbl kCl kZs kMi_ RX10 kTb10 [1111, 1112, 1113, 1114, 1116, 1117, 1118, 1119, 1120, 1121, 1123, 1124, 1128, 1129, 1130, 1131, 1132, 1138, 1139, 1140, 1141, 1142, 1143, 1144, 1146, 1147, 1148, 1149, 1150, 1152, 1153, 1154, 1155, 1157, 1158, 1159, 1161, 1163, 1164, 1165, 1166, 1167, 1110, 1115, 1122, 1125, 1127, 1126, 1133, 1134, 1135, 1137, 1136, 1145, 1151, 1156, 1160, 1162] [] [1532, 1616] [1315, 1732] [1293, 1300, 1304, 1312, 1347, 1320, 1336, 1332, 1340, 1343, 1410, 1395, 1402, 1399, 1406, 1391, 1371, 1414, 1387, 1383, 1379, 1375, 1367, 1434, 1430, 1363, 1426, 1422, 1441, 1453, 1449, 1457, 1472, 1480, 1492, 1465, 1468, 1476, 1484, 1488, 1500, 1504, 1512, 1537, 1564, 1556, 1560, 1568, 1545, 1548, 1552, 1584, 1604, 1612, 1664, 1668, 1661, 1672, 1657, 1684, 1680, 1688, 1696, 1692, 1676, 1704, 1653, 1700, 1724] [] = true by decide +kernel)
def kTb11 : kTab := ([], [], [], [(177, 4294967295)], [(13, 120, 2, false), (17, 173, 2, false), (18, 121, 3, false), (22, 175, 3, false), (23, 122, 4, false), (27, 176, 4, false), (28, 124, 4, false), (31, 184, 4, false), (32, 125, 3, false), (35, 185, 3, false), (36, 126, 2, false), (39, 186, 2, false), (40, 127, 1, false), (44, 204, 1, false), (45, 128, 3, false), (48, 206, 3, false), (49, 129, 4, false), (52, 221, 4, false), (53, 130, 3, false), (56, 210, 3, false), (57, 131, 3, false), (60, 224, 3, false), (61, 132, 4, false), (64, 214, 4, false), (65, 133, 3, false), (68, 226, 3, false), (69, 134, 2, false), (72, 227, 2, false), (73, 135, 3, false), (76, 228, 3, false), (77, 136, 2, false), (80, 229, 2, false), (81, 137, 2, false), (84, 230, 2, false), (85, 138, 3, false), (88, 232, 3, false), (89, 139, 3, false), (92, 240, 3, false), (93, 140, 3, false), (96, 241, 3, false), (97, 141, 4, false), (100, 242, 4, false), (101, 143, 3, false), (104, 244, 3, false), (105, 145, 4, false), (108, 245, 4, false), (109, 146, 2, false), (112, 246, 2, false), (113, 147, 4, false), (116, 247, 4, false), (117, 148, 4, false), (120, 249, 4, false), (121, 151, 4, false), (124, 251, 4, false), (125, 152, 2, false), (128, 252, 2, false), (129, 153, 2, false), (132, 253, 2, false), (133, 154, 1, false), (136, 254, 1, false), (137, 155, 2, false), (140, 255, 2, false), (141, 156, 1, false), (144, 256, 1, false), (145, 157, 1, false), (148, 257, 1, false), (149, 158, 1, false), (152, 180, 1, false), (153, 159, 1, false), (156, 181, 1, false), (157, 160, 2, false), (160, 261, 2, false), (161, 161, 4, false), (164, 274, 4, false), (165, 162, 2, false), (168, 260, 2, false), (169, 163, 3, false), (172, 277, 3, false), (173, 164, 4, false), (176, 278, 4, false), (179, 165, 4, false), (183, 280, 4, false), (184, 166, 3, false), (188, 281, 3, false), (189, 167, 6, false), (193, 282, 6, false), (194, 168, 3, false), (197, 283, 3, false), (198, 169, 2, false), (201, 275, 2, false)], [])
set_option maxRecDepth 100000 in
theorem kTb11_ok : kTabOk kTbl kCl kZs kMi_ RL kTb11 := kTabB_ok kLib (show kTabB lw_tbl kCl kZs kMi_ RL kTb11 [] [] [] [1741] [359, 1289, 382, 1296, 401, 1308, 434, 1328, 455, 1351, 481, 1355, 489, 1359, 538, 1418, 581, 1461, 638, 1437, 648, 1496, 675, 1445, 681, 1508, 685, 1516, 689, 1520, 693, 1524, 699, 1528, 722, 1533, 768, 1541, 803, 1572, 811, 1576, 820, 1580, 829, 1588, 833, 1592, 837, 1596, 843, 1600, 856, 1608, 870, 1617, 878, 1621, 887, 1625, 899, 1629, 923, 1633, 932, 1637, 936, 1316, 945, 1324, 953, 1645, 965, 1649, 1002, 1641, 1010, 1712, 1019, 1716, 1027, 1720, 1042, 1728, 1047, 1733, 1070, 1737, 1083, 1708] [] = true by decide +kernel)
def kPlt : List (Nat × Nat × Int) := [(0, 1, 0), (0, 3, 0), (1, 3, 0), (1, 4, 0), (3, 3, 0), (3, 4, 0), (3, 5, 0), (3, 6, 0), (3, 7, 0), (4, 3, 0), (4, 4, 0), (5, 1, 0), (5, 2, 0), (5, 3, 2), (5, 4, 0), (5, 5, 2), (5, 6, 0), (9, 8, 1), (10, 1, 0), (10, 6, 0), (10, 13, 0), (10, 14, 0), (10, 15, 0), (10, 16, 0), (10, 17, 0), (10, 18, 0), (10, 24, 0), (10, 25, 0), (10, 26, 0), (10, 27, 0), (10, 28, 0), (10, 36, 1), (10, 42, 0), (10, 47, 1), (10, 51, 0), (10, 53, 0)]
theorem kPlt_ok : kPlOk kCl kPlt := by
  intro x hx
  simp only [kPlt, List.mem_cons, List.not_mem_nil, or_false] at hx
  rcases hx with rfl | rfl | rfl | rfl | rfl | rfl | rfl | rfl | rfl | rfl | rfl | rfl | rfl | rfl | rfl | rfl | rfl | rfl | rfl | rfl | rfl | rfl | rfl | rfl | rfl | rfl | rfl | rfl | rfl | rfl | rfl | rfl | rfl | rfl | rfl | rfl
  · exact ⟨_, tyX0, rfl, rfl, tyX0_ok, nmX0, by decide⟩
  · exact ⟨_, tyX0, rfl, rfl, tyX0_ok, nmX0, by decide⟩
  · exact ⟨_, tyX1, rfl, rfl, tyX1_ok, nmX1, by decide⟩
  · exact ⟨_, tyX1, rfl, rfl, tyX1_ok, nmX1, by decide⟩
  · exact ⟨_, tyX3, rfl, rfl, tyX3_ok, nmX3, by decide⟩
  · exact ⟨_, tyX3, rfl, rfl, tyX3_ok, nmX3, by decide⟩
  · exact ⟨_, tyX3, rfl, rfl, tyX3_ok, nmX3, by decide⟩
  · exact ⟨_, tyX3, rfl, rfl, tyX3_ok, nmX3, by decide⟩
  · exact ⟨_, tyX3, rfl, rfl, tyX3_ok, nmX3, by decide⟩
  · exact ⟨_, tyX4, rfl, rfl, tyX4_ok, nmX4, by decide⟩
  · exact ⟨_, tyX4, rfl, rfl, tyX4_ok, nmX4, by decide⟩
  · exact ⟨_, tyX5, rfl, rfl, tyX5_ok, nmX5, by decide⟩
  · exact ⟨_, tyX5, rfl, rfl, tyX5_ok, nmX5, by decide⟩
  · exact ⟨_, tyX5, rfl, rfl, tyX5_ok, nmX5, by decide⟩
  · exact ⟨_, tyX5, rfl, rfl, tyX5_ok, nmX5, by decide⟩
  · exact ⟨_, tyX5, rfl, rfl, tyX5_ok, nmX5, by decide⟩
  · exact ⟨_, tyX5, rfl, rfl, tyX5_ok, nmX5, by decide⟩
  · exact ⟨_, tyX9, rfl, rfl, tyX9_ok, nmX9, by decide⟩
  · exact ⟨_, tyX10, rfl, rfl, tyX10_ok, nmX10, by decide⟩
  · exact ⟨_, tyX10, rfl, rfl, tyX10_ok, nmX10, by decide⟩
  · exact ⟨_, tyX10, rfl, rfl, tyX10_ok, nmX10, by decide⟩
  · exact ⟨_, tyX10, rfl, rfl, tyX10_ok, nmX10, by decide⟩
  · exact ⟨_, tyX10, rfl, rfl, tyX10_ok, nmX10, by decide⟩
  · exact ⟨_, tyX10, rfl, rfl, tyX10_ok, nmX10, by decide⟩
  · exact ⟨_, tyX10, rfl, rfl, tyX10_ok, nmX10, by decide⟩
  · exact ⟨_, tyX10, rfl, rfl, tyX10_ok, nmX10, by decide⟩
  · exact ⟨_, tyX10, rfl, rfl, tyX10_ok, nmX10, by decide⟩
  · exact ⟨_, tyX10, rfl, rfl, tyX10_ok, nmX10, by decide⟩
  · exact ⟨_, tyX10, rfl, rfl, tyX10_ok, nmX10, by decide⟩
  · exact ⟨_, tyX10, rfl, rfl, tyX10_ok, nmX10, by decide⟩
  · exact ⟨_, tyX10, rfl, rfl, tyX10_ok, nmX10, by decide⟩
  · exact ⟨_, tyX10, rfl, rfl, tyX10_ok, nmX10, by decide⟩
  · exact ⟨_, tyX10, rfl, rfl, tyX10_ok, nmX10, by decide⟩
  · exact ⟨_, tyX10, rfl, rfl, tyX10_ok, nmX10, by decide⟩
  · exact ⟨_, tyX10, rfl, rfl, tyX10_ok, nmX10, by decide⟩
  · exact ⟨_, tyX10, rfl, rfl, tyX10_ok, nmX10, by decide⟩
set_option maxRecDepth 100000 in
theorem kUw0 : ∀ w ∈ u_ws RX0 TX0 4, w ∈ kTbl := fun w h => (kAll2_ok (f := fun w p => kAt_ lw_tbl p w) _ [296, 298, 300, 302] (by decide +kernel) w h).elim (fun _ q => kAt_mem q)
set_option maxRecDepth 100000 in
theorem kUw1 : ∀ w ∈ u_ws RX1 TX1 5, w ∈ kTbl := fun w h => (kAll2_ok (f := fun w p => kAt_ lw_tbl p w) _ [179, 181, 183, 185, 187] (by decide +kernel) w h).elim (fun _ q => kAt_mem q)
set_option maxRecDepth 100000 in
theorem kUw2 : ∀ w ∈ u_ws RX2 TX2 5, w ∈ kTbl := fun w h => (kAll2_ok (f := fun w p => kAt_ lw_tbl p w) _ [243, 245, 247, 249, 251] (by decide +kernel) w h).elim (fun _ q => kAt_mem q)
set_option maxRecDepth 100000 in
theorem kUw3 : ∀ w ∈ u_ws RX3 TX3 8, w ∈ kTbl := fun w h => (kAll2_ok (f := fun w p => kAt_ lw_tbl p w) _ [269, 271, 273, 275, 277, 279, 281, 283] (by decide +kernel) w h).elim (fun _ q => kAt_mem q)
set_option maxRecDepth 100000 in
theorem kUw4 : ∀ w ∈ u_ws RX4 TX4 5, w ∈ kTbl := fun w h => (kAll2_ok (f := fun w p => kAt_ lw_tbl p w) _ [157, 159, 161, 163, 165] (by decide +kernel) w h).elim (fun _ q => kAt_mem q)
set_option maxRecDepth 100000 in
theorem kUw5 : ∀ w ∈ u_ws RX5 TX5 9, w ∈ kTbl := fun w h => (kAll2_ok (f := fun w p => kAt_ lw_tbl p w) _ [124, 126, 128, 130, 132, 134, 136, 138, 140] (by decide +kernel) w h).elim (fun _ q => kAt_mem q)
set_option maxRecDepth 100000 in
theorem kUw6 : ∀ w ∈ u_ws RX6 TX6 5, w ∈ kTbl := fun w h => (kAll2_ok (f := fun w p => kAt_ lw_tbl p w) _ [221, 223, 225, 227, 229] (by decide +kernel) w h).elim (fun _ q => kAt_mem q)
set_option maxRecDepth 100000 in
theorem kUw7 : ∀ w ∈ u_ws RX7 TX7 4, w ∈ kTbl := fun w h => (kAll2_ok (f := fun w p => kAt_ lw_tbl p w) _ [315, 317, 319, 321] (by decide +kernel) w h).elim (fun _ q => kAt_mem q)
set_option maxRecDepth 100000 in
theorem kUw8 : ∀ w ∈ u_ws RX8 TX8 4, w ∈ kTbl := fun w h => (kAll2_ok (f := fun w p => kAt_ lw_tbl p w) _ [201, 203, 205, 207] (by decide +kernel) w h).elim (fun _ q => kAt_mem q)
set_option maxRecDepth 100000 in
theorem kUw9 : ∀ w ∈ u_ws RX9 TX9 11, w ∈ kTbl := fun w h => (kAll2_ok (f := fun w p => kAt_ lw_tbl p w) _ [336, 338, 340, 342, 344, 346, 348, 350, 352, 354, 356] (by decide +kernel) w h).elim (fun _ q => kAt_mem q)
set_option maxRecDepth 100000 in
theorem kUw10 : ∀ w ∈ u_ws RX10 TX10 59, w ∈ kTbl := fun w h => (kAll2_ok (f := fun w p => kAt_ lw_tbl p w) _ [1168, 1170, 1172, 1174, 1176, 1178, 1180, 1182, 1184, 1186, 1188, 1190, 1192, 1194, 1196, 1198, 1200, 1202, 1204, 1206, 1208, 1210, 1212, 1214, 1216, 1218, 1220, 1222, 1224, 1226, 1228, 1230, 1232, 1234, 1236, 1238, 1240, 1242, 1244, 1246, 1248, 1250, 1252, 1254, 1256, 1258, 1260, 1262, 1264, 1266, 1268, 1270, 1272, 1274, 1276, 1278, 1280, 1282, 1284] (by decide +kernel) w h).elim (fun _ q => kAt_mem q)
theorem kCl_ok : kClOk kTbl kCl := by
  intro a q h
  match a, h with
  | 0, h => cases h; exact kUw0
  | 1, h => cases h; exact kUw1
  | 2, h => cases h; exact kUw2
  | 3, h => cases h; exact kUw3
  | 4, h => cases h; exact kUw4
  | 5, h => cases h; exact kUw5
  | 6, h => cases h; exact kUw6
  | 7, h => cases h; exact kUw7
  | 8, h => cases h; exact kUw8
  | 9, h => cases h; exact kUw9
  | 10, h => cases h; exact kUw10
  | a + 11, h => cases h
end
section
-- laid by wip/whole/gen.py
-- 0: PennyALap$Bodies.bodies
def b0_0 : List kIt := [(0, .inl (.aload_n 0, 0, 0, 0)), (1, .inl (.getfield 18, 0, 1, 0)), (4, .inr (.ireturn, 3, 0, 0, []))]
def c0 : List (Nat × List kIt) := [(0, b0_0)]
-- 1: PennyALap$Bodies.ran
def b1_0 : List kIt := [(0, .inl (.aload_n 0, 0, 0, 0)), (1, .inl (.getfield 22, 0, 3, 0)), (4, .inr (.ireturn, 3, 0, 0, []))]
def c1 : List (Nat × List kIt) := [(0, b1_0)]
-- 2: PennyALap$Bodies.isKind
def b2_0 : List kIt := [(0, .inl (.iload_n 1, 0, 0, 0)), (1, .inr (.ifCond .lt 13, 0, 14, 0, [])), (4, .inl (.iload_n 1, 0, 0, 0)), (5, .inl (.bipush 8, 0, 0, 0)), (7, .inr (.if_icmp .ge 7, 0, 14, 0, [])), (10, .inl (.iconst 1, 0, 0, 0)), (11, .inr (.goto 4, 1, 15, 0, []))]
def b2_14 : List kIt := [(14, .inl (.iconst 0, 0, 0, 0)), (15, .inr (.nop, 1, 15, 0, []))]
def b2_15 : List kIt := [(15, .inr (.ireturn, 3, 1, 0, []))]
def c2 : List (Nat × List kIt) := [(0, b2_0), (14, b2_14), (15, b2_15)]
-- 3: PennyALap$Bodies.isBody
def b3_0 : List kIt := [(0, .inl (.iload_n 1, 0, 0, 0)), (1, .inr (.ifCond .lt 15, 0, 16, 0, [])), (4, .inl (.iload_n 1, 0, 0, 0)), (5, .inl (.aload_n 0, 0, 0, 0)), (6, .inl (.getfield 18, 0, 1, 0)), (9, .inr (.if_icmp .ge 7, 0, 16, 0, [])), (12, .inl (.iconst 1, 0, 0, 0)), (13, .inr (.goto 4, 1, 17, 0, []))]
def b3_16 : List kIt := [(16, .inl (.iconst 0, 0, 0, 0)), (17, .inr (.nop, 1, 17, 0, []))]
def b3_17 : List kIt := [(17, .inr (.ireturn, 3, 1, 0, []))]
def c3 : List (Nat × List kIt) := [(0, b3_0), (16, b3_16), (17, b3_17)]
-- 4: PennyALap$Bodies.kindOf
def b4_0 : List kIt := [(0, .inl (.aload_n 0, 0, 0, 0)), (1, .inl (.iload_n 1, 0, 0, 0)), (2, .inr (.invokevirtual 25, 4, 3, 2, [])), (5, .inr (.nop, 1, 5, 0, []))]
def b4_5 : List kIt := [(5, .inr (.ifCond .eq 12, 0, 17, 0, [])), (8, .inl (.aload_n 0, 0, 0, 0)), (9, .inl (.getfield 11, 0, 0, 0)), (12, .inl (.iload_n 1, 0, 0, 0)), (13, .inl (.iaload, 0, 0, 0)), (14, .inr (.goto 4, 1, 18, 0, []))]
def b4_17 : List kIt := [(17, .inl (.iconst (-1), 0, 0, 0)), (18, .inr (.nop, 1, 18, 0, []))]
def b4_18 : List kIt := [(18, .inr (.ireturn, 3, 0, 0, []))]
def c4 : List (Nat × List kIt) := [(0, b4_0), (5, b4_5), (17, b4_17), (18, b4_18)]
-- 5: PennyALap$Bodies.bodyComes
def b5_0 : List kIt := [(0, .inl (.aload_n 0, 0, 0, 0)), (1, .inl (.getfield 18, 0, 1, 0)), (4, .inl (.bipush 50, 0, 0, 0)), (6, .inr (.if_icmp .lt 6, 0, 12, 0, [])), (9, .inl (.bipush (-3), 0, 0, 0)), (11, .inr (.ireturn, 3, 0, 0, []))]
def b5_12 : List kIt := [(12, .inl (.aload_n 0, 0, 0, 0)), (13, .inl (.getfield 11, 0, 0, 0)), (16, .inl (.aload_n 0, 0, 0, 0)), (17, .inl (.getfield 18, 0, 1, 0)), (20, .inl (.iload_n 1, 0, 0, 0)), (21, .inl (.iastore, 0, 0, 0)), (22, .inl (.aload_n 0, 0, 0, 0)), (23, .inl (.dup, 0, 0, 0)), (24, .inl (.getfield 18, 0, 1, 0)), (27, .inl (.iconst 1, 0, 0, 0)), (28, .inl (.iadd, 0, 0, 0)), (29, .inl (.putfield 18, 0, 1, 0)), (32, .inl (.aload_n 0, 0, 0, 0)), (33, .inl (.getfield 18, 0, 1, 0)), (36, .inl (.iconst 1, 0, 0, 0)), (37, .inl (.isub, 0, 0, 0)), (38, .inr (.ireturn, 3, 0, 0, []))]
def c5 : List (Nat × List kIt) := [(0, b5_0), (12, b5_12)]
-- 6: PennyALap$Bodies.isUnder
def b6_0 : List kIt := [(0, .inl (.iload_n 1, 0, 0, 0)), (1, .inl (.istore_n 3, 0, 0, 0)), (2, .inl (.iconst 0, 0, 0, 0)), (3, .inl (.istore 4, 0, 0, 0)), (5, .inr (.nop, 1, 5, 0, []))]
def b6_5 : List kIt := [(5, .inl (.iload 4, 0, 0, 0)), (7, .inl (.bipush 8, 0, 0, 0)), (9, .inr (.if_icmp .ge 28, 0, 37, 0, [])), (12, .inl (.aload_n 0, 0, 0, 0)), (13, .inl (.iload_n 3, 0, 0, 0)), (14, .inr (.invokevirtual 29, 4, 2, 2, [])), (17, .inr (.nop, 1, 17, 0, []))]
def b6_17 : List kIt := [(17, .inr (.ifCond .eq 20, 0, 37, 0, [])), (20, .inl (.iload_n 3, 0, 0, 0)), (21, .inl (.iload_n 2, 0, 0, 0)), (22, .inr (.if_icmp .eq 15, 0, 37, 0, [])), (25, .inl (.getstatic 32, 1003, 0, 0)), (28, .inl (.iload_n 3, 0, 0, 0)), (29, .inl (.iaload, 0, 0, 0)), (30, .inl (.istore_n 3, 0, 0, 0)), (31, .inl (.iinc 4 1, 0, 0, 0)), (34, .inr (.goto (-29), 1, 5, 0, []))]
def b6_37 : List kIt := [(37, .inl (.iload_n 3, 0, 0, 0)), (38, .inl (.iload_n 2, 0, 0, 0)), (39, .inr (.if_icmp .ne 7, 0, 46, 0, [])), (42, .inl (.iconst 1, 0, 0, 0)), (43, .inr (.goto 4, 1, 47, 0, []))]
def b6_46 : List kIt := [(46, .inl (.iconst 0, 0, 0, 0)), (47, .inr (.nop, 1, 47, 0, []))]
def b6_47 : List kIt := [(47, .inr (.ireturn, 3, 1, 0, []))]
def c6 : List (Nat × List kIt) := [(0, b6_0), (5, b6_5), (17, b6_17), (37, b6_37), (46, b6_46), (47, b6_47)]
-- 7: PennyALap$Bodies.traced
def b7_0 : List kIt := [(0, .inl (.iload_n 1, 0, 0, 0)), (1, .inr (.ifCond .lt 26, 0, 27, 0, [])), (4, .inl (.iload_n 1, 0, 0, 0)), (5, .inl (.aload_n 0, 0, 0, 0)), (6, .inl (.getfield 22, 0, 3, 0)), (9, .inr (.if_icmp .ge 18, 0, 27, 0, [])), (12, .inl (.iload_n 1, 0, 0, 0)), (13, .inl (.bipush 24, 0, 0, 0)), (15, .inr (.if_icmp .ge 12, 0, 27, 0, [])), (18, .inl (.aload_n 0, 0, 0, 0)), (19, .inl (.getfield 15, 0, 2, 0)), (22, .inl (.iload_n 1, 0, 0, 0)), (23, .inl (.iaload, 0, 0, 0)), (24, .inr (.goto 4, 1, 28, 0, []))]
def b7_27 : List kIt := [(27, .inl (.iconst (-1), 0, 0, 0)), (28, .inr (.nop, 1, 28, 0, []))]
def b7_28 : List kIt := [(28, .inr (.ireturn, 3, 0, 0, []))]
def c7 : List (Nat × List kIt) := [(0, b7_0), (27, b7_27), (28, b7_28)]
-- 8: PennyALap$Bodies.begin
def b8_0 : List kIt := [(0, .inl (.aload_n 0, 0, 0, 0)), (1, .inl (.iconst 0, 0, 0, 0)), (2, .inl (.putfield 22, 0, 3, 0)), (5, .inl (.aload_n 0, 0, 0, 0)), (6, .inl (.iload_n 1, 0, 0, 0)), (7, .inr (.invokevirtual 25, 4, 3, 2, [])), (10, .inr (.nop, 1, 10, 0, []))]
def b8_10 : List kIt := [(10, .inr (.ifCond .eq 12, 0, 22, 0, [])), (13, .inl (.iload_n 2, 0, 0, 0)), (14, .inr (.ifCond .lt 8, 0, 22, 0, [])), (17, .inl (.iload_n 2, 0, 0, 0)), (18, .inl (.iconst 4, 0, 0, 0)), (19, .inr (.if_icmp .lt 5, 0, 24, 0, [])), (22, .inr (.nop, 1, 22, 0, []))]
def b8_22 : List kIt := [(22, .inl (.iconst 0, 0, 0, 0)), (23, .inr (.ireturn, 3, 0, 0, []))]
def b8_24 : List kIt := [(24, .inl (.aload_n 0, 0, 0, 0)), (25, .inl (.iload_n 1, 0, 0, 0)), (26, .inl (.iload_n 2, 0, 0, 0)), (27, .inl (.iload_n 3, 0, 0, 0)), (28, .inl (.iconst 0, 0, 0, 0)), (29, .inr (.invokevirtual 35, 4, 9, 5, [])), (32, .inr (.nop, 1, 32, 0, []))]
def b8_32 : List kIt := [(32, .inr (.ireturn, 3, 0, 0, []))]
def c8 : List (Nat × List kIt) := [(0, b8_0), (10, b8_10), (22, b8_22), (24, b8_24), (32, b8_32)]
-- 9: PennyALap$Bodies.own
def b9_0 : List kIt := [(0, .inl (.aload_n 0, 0, 0, 0)), (1, .inl (.aload_n 0, 0, 0, 0)), (2, .inl (.iload_n 1, 0, 0, 0)), (3, .inr (.invokevirtual 39, 4, 4, 2, [])), (6, .inr (.nop, 1, 6, 0, []))]
def b9_6 : List kIt := [(6, .inl (.iload_n 1, 0, 0, 0)), (7, .inl (.iload_n 2, 0, 0, 0)), (8, .inl (.iload_n 3, 0, 0, 0)), (9, .inl (.iload 4, 0, 0, 0)), (11, .inr (.invokevirtual 43, 4, 11, 6, [])), (14, .inr (.nop, 1, 14, 0, []))]
def b9_14 : List kIt := [(14, .inr (.ireturn, 3, 0, 0, []))]
def c9 : List (Nat × List kIt) := [(0, b9_0), (6, b9_6), (14, b9_14)]
-- 10: PennyALap$Bodies.higher
def b10_0 : List kIt := [(0, .inl (.aload_n 0, 0, 0, 0)), (1, .inl (.aload_n 0, 0, 0, 0)), (2, .inl (.iload_n 1, 0, 0, 0)), (3, .inr (.invokevirtual 29, 4, 2, 2, [])), (6, .inr (.nop, 1, 6, 0, []))]
def b10_6 : List kIt := [(6, .inr (.ifCond .eq 11, 0, 17, 0, [])), (9, .inl (.getstatic 32, 1003, 0, 0)), (12, .inl (.iload_n 1, 0, 0, 0)), (13, .inl (.iaload, 0, 0, 0)), (14, .inr (.goto 4, 1, 18, 0, []))]
def b10_17 : List kIt := [(17, .inl (.iconst (-1), 0, 0, 0)), (18, .inr (.nop, 1, 18, 0, []))]
def b10_18 : List kIt := [(18, .inl (.iload_n 2, 0, 0, 0)), (19, .inl (.iload_n 3, 0, 0, 0)), (20, .inl (.iload 4, 0, 0, 0)), (22, .inl (.iload 5, 0, 0, 0)), (24, .inr (.invokevirtual 43, 4, 11, 6, [])), (27, .inr (.nop, 1, 27, 0, []))]
def b10_27 : List kIt := [(27, .inr (.ireturn, 3, 0, 0, []))]
def c10 : List (Nat × List kIt) := [(0, b10_0), (6, b10_6), (17, b10_17), (18, b10_18), (27, b10_27)]
-- 11: PennyALap$Bodies.from
def b11_0 : List kIt := [(0, .inl (.iload_n 1, 0, 0, 0)), (1, .inl (.istore 6, 0, 0, 0)), (3, .inl (.iconst 0, 0, 0, 0)), (4, .inl (.istore 7, 0, 0, 0)), (6, .inr (.nop, 1, 6, 0, []))]
def b11_6 : List kIt := [(6, .inl (.iload 7, 0, 0, 0)), (8, .inl (.bipush 8, 0, 0, 0)), (10, .inr (.if_icmp .ge 39, 0, 49, 0, [])), (13, .inl (.aload_n 0, 0, 0, 0)), (14, .inl (.iload 6, 0, 0, 0)), (16, .inr (.invokevirtual 29, 4, 2, 2, [])), (19, .inr (.nop, 1, 19, 0, []))]
def b11_19 : List kIt := [(19, .inr (.ifCond .eq 30, 0, 49, 0, [])), (22, .inl (.getstatic 47, 1004, 0, 0)), (25, .inl (.iload 6, 0, 0, 0)), (27, .inl (.iconst 4, 0, 0, 0)), (28, .inl (.imul, 0, 0, 0)), (29, .inl (.iload_n 3, 0, 0, 0)), (30, .inl (.iadd, 0, 0, 0)), (31, .inl (.iaload, 0, 0, 0)), (32, .inr (.ifCond .ne 17, 0, 49, 0, [])), (35, .inl (.getstatic 32, 1003, 0, 0)), (38, .inl (.iload 6, 0, 0, 0)), (40, .inl (.iaload, 0, 0, 0)), (41, .inl (.istore 6, 0, 0, 0)), (43, .inl (.iinc 7 1, 0, 0, 0)), (46, .inr (.goto (-40), 1, 6, 0, []))]
def b11_49 : List kIt := [(49, .inl (.aload_n 0, 0, 0, 0)), (50, .inl (.iload 6, 0, 0, 0)), (52, .inr (.invokevirtual 29, 4, 2, 2, [])), (55, .inr (.nop, 1, 55, 0, []))]
def b11_55 : List kIt := [(55, .inr (.ifCond .eq 34, 0, 89, 0, [])), (58, .inl (.iload 5, 0, 0, 0)), (60, .inl (.bipush 40, 0, 0, 0)), (62, .inr (.if_icmp .ge 27, 0, 89, 0, [])), (65, .inl (.aload_n 0, 0, 0, 0)), (66, .inl (.getstatic 47, 1004, 0, 0)), (69, .inl (.iload 6, 0, 0, 0)), (71, .inl (.iconst 4, 0, 0, 0)), (72, .inl (.imul, 0, 0, 0)), (73, .inl (.iload_n 3, 0, 0, 0)), (74, .inl (.iadd, 0, 0, 0)), (75, .inl (.iaload, 0, 0, 0)), (76, .inl (.iload_n 2, 0, 0, 0)), (77, .inl (.iload 4, 0, 0, 0)), (79, .inl (.iload 5, 0, 0, 0)), (81, .inl (.iconst 1, 0, 0, 0)), (82, .inl (.iadd, 0, 0, 0)), (83, .inr (.invokevirtual 50, 4, 12, 5, [])), (86, .inr (.nop, 1, 86, 0, []))]
def b11_86 : List kIt := [(86, .inr (.goto 4, 1, 90, 0, []))]
def b11_89 : List kIt := [(89, .inl (.iconst 0, 0, 0, 0)), (90, .inr (.nop, 1, 90, 0, []))]
def b11_90 : List kIt := [(90, .inr (.ireturn, 3, 0, 0, []))]
def c11 : List (Nat × List kIt) := [(0, b11_0), (6, b11_6), (19, b11_19), (49, b11_49), (55, b11_55), (86, b11_86), (89, b11_89), (90, b11_90)]
-- 12: PennyALap$Bodies.perform
def b12_0 : List kIt := [(0, .inl (.aload_n 0, 0, 0, 0)), (1, .inl (.getfield 22, 0, 3, 0)), (4, .inl (.bipush 24, 0, 0, 0)), (6, .inr (.if_icmp .ge 13, 0, 19, 0, [])), (9, .inl (.aload_n 0, 0, 0, 0)), (10, .inl (.getfield 15, 0, 2, 0)), (13, .inl (.aload_n 0, 0, 0, 0)), (14, .inl (.getfield 22, 0, 3, 0)), (17, .inl (.iload_n 1, 0, 0, 0)), (18, .inl (.iastore, 0, 0, 0)), (19, .inr (.nop, 1, 19, 0, []))]
def b12_19 : List kIt := [(19, .inl (.aload_n 0, 0, 0, 0)), (20, .inl (.dup, 0, 0, 0)), (21, .inl (.getfield 22, 0, 3, 0)), (24, .inl (.iconst 1, 0, 0, 0)), (25, .inl (.iadd, 0, 0, 0)), (26, .inl (.putfield 22, 0, 3, 0)), (29, .inl (.iload_n 1, 0, 0, 0)), (30, .inr (.nop, 2, 340, 0, [(1, 152), (2, 156), (10, 176), (11, 188), (20, 192), (30, 205), (40, 217), (41, 230), (50, 243), (60, 256), (61, 277), (70, 290), (80, 304), (81, 326)]))]
def b12_152 : List kIt := [(152, .inl (.iload_n 3, 0, 0, 0)), (153, .inl (.iload_n 2, 0, 0, 0)), (154, .inl (.iadd, 0, 0, 0)), (155, .inr (.ireturn, 3, 0, 0, []))]
def b12_156 : List kIt := [(156, .inl (.aload_n 0, 0, 0, 0)), (157, .inl (.iload_n 2, 0, 0, 0)), (158, .inl (.iconst 1, 0, 0, 0)), (159, .inl (.iload_n 3, 0, 0, 0)), (160, .inl (.iload 4, 0, 0, 0)), (162, .inr (.invokevirtual 35, 4, 9, 5, [])), (165, .inr (.nop, 1, 165, 0, []))]
def b12_165 : List kIt := [(165, .inl (.aload_n 0, 0, 0, 0)), (166, .inl (.iload_n 2, 0, 0, 0)), (167, .inl (.iconst 2, 0, 0, 0)), (168, .inl (.iconst 1, 0, 0, 0)), (169, .inl (.iload 4, 0, 0, 0)), (171, .inr (.invokevirtual 35, 4, 9, 5, [])), (174, .inr (.nop, 1, 174, 0, []))]
def b12_174 : List kIt := [(174, .inl (.isub, 0, 0, 0)), (175, .inr (.ireturn, 3, 0, 0, []))]
def b12_176 : List kIt := [(176, .inl (.aload_n 0, 0, 0, 0)), (177, .inl (.iload_n 2, 0, 0, 0)), (178, .inl (.iconst 0, 0, 0, 0)), (179, .inl (.iload_n 3, 0, 0, 0)), (180, .inl (.iload 4, 0, 0, 0)), (182, .inr (.invokevirtual 35, 4, 9, 5, [])), (185, .inr (.nop, 1, 185, 0, []))]
def b12_185 : List kIt := [(185, .inl (.iconst 2, 0, 0, 0)), (186, .inl (.imul, 0, 0, 0)), (187, .inr (.ireturn, 3, 0, 0, []))]
def b12_188 : List kIt := [(188, .inl (.iload_n 3, 0, 0, 0)), (189, .inl (.iload_n 2, 0, 0, 0)), (190, .inl (.ixor, 0, 0, 0)), (191, .inr (.ireturn, 3, 0, 0, []))]
def b12_192 : List kIt := [(192, .inl (.aload_n 0, 0, 0, 0)), (193, .inl (.iconst 1, 0, 0, 0)), (194, .inl (.iload_n 2, 0, 0, 0)), (195, .inl (.iconst 0, 0, 0, 0)), (196, .inl (.iload_n 3, 0, 0, 0)), (197, .inl (.iload 4, 0, 0, 0)), (199, .inr (.invokevirtual 53, 4, 10, 6, [])), (202, .inr (.nop, 1, 202, 0, []))]
def b12_202 : List kIt := [(202, .inl (.iconst 3, 0, 0, 0)), (203, .inl (.iadd, 0, 0, 0)), (204, .inr (.ireturn, 3, 0, 0, []))]
def b12_205 : List kIt := [(205, .inl (.aload_n 0, 0, 0, 0)), (206, .inl (.iconst 2, 0, 0, 0)), (207, .inl (.iload_n 2, 0, 0, 0)), (208, .inl (.iconst 1, 0, 0, 0)), (209, .inl (.iload_n 3, 0, 0, 0)), (210, .inl (.iload 4, 0, 0, 0)), (212, .inr (.invokevirtual 53, 4, 10, 6, [])), (215, .inr (.nop, 1, 215, 0, []))]
def b12_215 : List kIt := [(215, .inl (.ineg, 0, 0, 0)), (216, .inr (.ireturn, 3, 0, 0, []))]
def b12_217 : List kIt := [(217, .inl (.aload_n 0, 0, 0, 0)), (218, .inl (.iconst 3, 0, 0, 0)), (219, .inl (.iload_n 2, 0, 0, 0)), (220, .inl (.iconst 2, 0, 0, 0)), (221, .inl (.iload_n 3, 0, 0, 0)), (222, .inl (.iload 4, 0, 0, 0)), (224, .inr (.invokevirtual 53, 4, 10, 6, [])), (227, .inr (.nop, 1, 227, 0, []))]
def b12_227 : List kIt := [(227, .inl (.iconst 3, 0, 0, 0)), (228, .inl (.imul, 0, 0, 0)), (229, .inr (.ireturn, 3, 0, 0, []))]
def b12_230 : List kIt := [(230, .inl (.aload_n 0, 0, 0, 0)), (231, .inl (.iconst 3, 0, 0, 0)), (232, .inl (.iload_n 2, 0, 0, 0)), (233, .inl (.iconst 1, 0, 0, 0)), (234, .inl (.iload_n 3, 0, 0, 0)), (235, .inl (.iconst 1, 0, 0, 0)), (236, .inl (.iadd, 0, 0, 0)), (237, .inl (.iload 4, 0, 0, 0)), (239, .inr (.invokevirtual 53, 4, 10, 6, [])), (242, .inr (.nop, 1, 242, 0, []))]
def b12_242 : List kIt := [(242, .inr (.ireturn, 3, 0, 0, []))]
def b12_243 : List kIt := [(243, .inl (.aload_n 0, 0, 0, 0)), (244, .inl (.iconst 4, 0, 0, 0)), (245, .inl (.iload_n 2, 0, 0, 0)), (246, .inl (.iconst 3, 0, 0, 0)), (247, .inl (.iload_n 3, 0, 0, 0)), (248, .inl (.iload 4, 0, 0, 0)), (250, .inr (.invokevirtual 53, 4, 10, 6, [])), (253, .inr (.nop, 1, 253, 0, []))]
def b12_253 : List kIt := [(253, .inl (.iconst 5, 0, 0, 0)), (254, .inl (.ixor, 0, 0, 0)), (255, .inr (.ireturn, 3, 0, 0, []))]
def b12_256 : List kIt := [(256, .inl (.aload_n 0, 0, 0, 0)), (257, .inl (.iconst 5, 0, 0, 0)), (258, .inl (.iload_n 2, 0, 0, 0)), (259, .inl (.iconst 2, 0, 0, 0)), (260, .inl (.iload_n 3, 0, 0, 0)), (261, .inl (.iload 4, 0, 0, 0)), (263, .inr (.invokevirtual 53, 4, 10, 6, [])), (266, .inr (.nop, 1, 266, 0, []))]
def b12_266 : List kIt := [(266, .inl (.aload_n 0, 0, 0, 0)), (267, .inl (.iload_n 2, 0, 0, 0)), (268, .inl (.iconst 0, 0, 0, 0)), (269, .inl (.iconst 2, 0, 0, 0)), (270, .inl (.iload 4, 0, 0, 0)), (272, .inr (.invokevirtual 35, 4, 9, 5, [])), (275, .inr (.nop, 1, 275, 0, []))]
def b12_275 : List kIt := [(275, .inl (.isub, 0, 0, 0)), (276, .inr (.ireturn, 3, 0, 0, []))]
def b12_277 : List kIt := [(277, .inl (.aload_n 0, 0, 0, 0)), (278, .inl (.iconst 5, 0, 0, 0)), (279, .inl (.iload_n 2, 0, 0, 0)), (280, .inl (.iconst 3, 0, 0, 0)), (281, .inl (.iload_n 3, 0, 0, 0)), (282, .inl (.iload 4, 0, 0, 0)), (284, .inr (.invokevirtual 53, 4, 10, 6, [])), (287, .inr (.nop, 1, 287, 0, []))]
def b12_287 : List kIt := [(287, .inl (.iconst 1, 0, 0, 0)), (288, .inl (.iadd, 0, 0, 0)), (289, .inr (.ireturn, 3, 0, 0, []))]
def b12_290 : List kIt := [(290, .inl (.aload_n 0, 0, 0, 0)), (291, .inl (.bipush 6, 0, 0, 0)), (293, .inl (.iload_n 2, 0, 0, 0)), (294, .inl (.iconst 0, 0, 0, 0)), (295, .inl (.iload_n 3, 0, 0, 0)), (296, .inl (.iload 4, 0, 0, 0)), (298, .inr (.invokevirtual 53, 4, 10, 6, [])), (301, .inr (.nop, 1, 301, 0, []))]
def b12_301 : List kIt := [(301, .inl (.iconst 2, 0, 0, 0)), (302, .inl (.imul, 0, 0, 0)), (303, .inr (.ireturn, 3, 0, 0, []))]
def b12_304 : List kIt := [(304, .inl (.aload_n 0, 0, 0, 0)), (305, .inl (.bipush 7, 0, 0, 0)), (307, .inl (.iload_n 2, 0, 0, 0)), (308, .inl (.iconst 1, 0, 0, 0)), (309, .inl (.iload_n 3, 0, 0, 0)), (310, .inl (.iload 4, 0, 0, 0)), (312, .inr (.invokevirtual 53, 4, 10, 6, [])), (315, .inr (.nop, 1, 315, 0, []))]
def b12_315 : List kIt := [(315, .inl (.aload_n 0, 0, 0, 0)), (316, .inl (.iload_n 2, 0, 0, 0)), (317, .inl (.iconst 2, 0, 0, 0)), (318, .inl (.iconst 2, 0, 0, 0)), (319, .inl (.iload 4, 0, 0, 0)), (321, .inr (.invokevirtual 35, 4, 9, 5, [])), (324, .inr (.nop, 1, 324, 0, []))]
def b12_324 : List kIt := [(324, .inl (.iadd, 0, 0, 0)), (325, .inr (.ireturn, 3, 0, 0, []))]
def b12_326 : List kIt := [(326, .inl (.aload_n 0, 0, 0, 0)), (327, .inl (.bipush 7, 0, 0, 0)), (329, .inl (.iload_n 2, 0, 0, 0)), (330, .inl (.iconst 0, 0, 0, 0)), (331, .inl (.iload_n 3, 0, 0, 0)), (332, .inl (.iload 4, 0, 0, 0)), (334, .inr (.invokevirtual 53, 4, 10, 6, [])), (337, .inr (.nop, 1, 337, 0, []))]
def b12_337 : List kIt := [(337, .inl (.iconst 1, 0, 0, 0)), (338, .inl (.isub, 0, 0, 0)), (339, .inr (.ireturn, 3, 0, 0, []))]
def b12_340 : List kIt := [(340, .inl (.iconst 0, 0, 0, 0)), (341, .inr (.ireturn, 3, 0, 0, []))]
def c12 : List (Nat × List kIt) := [(0, b12_0), (19, b12_19), (152, b12_152), (156, b12_156), (165, b12_165), (174, b12_174), (176, b12_176), (185, b12_185), (188, b12_188), (192, b12_192), (202, b12_202), (205, b12_205), (215, b12_215), (217, b12_217), (227, b12_227), (230, b12_230), (242, b12_242), (243, b12_243), (253, b12_253), (256, b12_256), (266, b12_266), (275, b12_275), (277, b12_277), (287, b12_287), (290, b12_290), (301, b12_301), (304, b12_304), (315, b12_315), (324, b12_324), (326, b12_326), (337, b12_337), (340, b12_340)]
-- 13: PennyALap$Changes.undoable
def b13_0 : List kIt := [(0, .inl (.aload_n 0, 0, 0, 0)), (1, .inl (.getfield 21, 1, 3, 0)), (4, .inr (.ireturn, 3, 0, 0, []))]
def c13 : List (Nat × List kIt) := [(0, b13_0)]
-- 14: PennyALap$Changes.add
def b14_0 : List kIt := [(0, .inl (.aload_n 0, 0, 0, 0)), (1, .inl (.getfield 21, 1, 3, 0)), (4, .inl (.bipush 40, 0, 0, 0)), (6, .inr (.if_icmp .lt 7, 0, 13, 0, [])), (9, .inl (.aload_n 0, 0, 0, 0)), (10, .inr (.invokevirtual 25, 4, 15, 1, [])), (13, .inr (.nop, 1, 13, 0, []))]
def b14_13 : List kIt := [(13, .inl (.aload_n 0, 0, 0, 0)), (14, .inl (.getfield 11, 1, 0, 0)), (17, .inl (.aload_n 0, 0, 0, 0)), (18, .inl (.getfield 21, 1, 3, 0)), (21, .inl (.iload_n 1, 0, 0, 0)), (22, .inl (.iastore, 0, 0, 0)), (23, .inl (.aload_n 0, 0, 0, 0)), (24, .inl (.getfield 15, 1, 1, 0)), (27, .inl (.aload_n 0, 0, 0, 0)), (28, .inl (.getfield 21, 1, 3, 0)), (31, .inl (.iload_n 2, 0, 0, 0)), (32, .inl (.iastore, 0, 0, 0)), (33, .inl (.aload_n 0, 0, 0, 0)), (34, .inl (.getfield 18, 1, 2, 0)), (37, .inl (.aload_n 0, 0, 0, 0)), (38, .inl (.getfield 21, 1, 3, 0)), (41, .inl (.iload_n 3, 0, 0, 0)), (42, .inl (.iastore, 0, 0, 0)), (43, .inl (.aload_n 0, 0, 0, 0)), (44, .inl (.dup, 0, 0, 0)), (45, .inl (.getfield 21, 1, 3, 0)), (48, .inl (.iconst 1, 0, 0, 0)), (49, .inl (.iadd, 0, 0, 0)), (50, .inl (.putfield 21, 1, 3, 0)), (53, .inl (.aload_n 0, 0, 0, 0)), (54, .inl (.aload_n 0, 0, 0, 0)), (55, .inl (.getfield 21, 1, 3, 0)), (58, .inl (.putfield 28, 1, 4, 0)), (61, .inr (.return_, 3, 0, 0, []))]
def c14 : List (Nat × List kIt) := [(0, b14_0), (13, b14_13)]
-- 15: PennyALap$Changes.forgetOldest
def b15_0 : List kIt := [(0, .inl (.aload_n 0, 0, 0, 0)), (1, .inl (.getfield 11, 1, 0, 0)), (4, .inl (.iconst 1, 0, 0, 0)), (5, .inl (.aload_n 0, 0, 0, 0)), (6, .inl (.getfield 11, 1, 0, 0)), (9, .inl (.iconst 0, 0, 0, 0)), (10, .inl (.bipush 39, 0, 0, 0)), (12, .inl (.invokestatic 31, 3, 0, 0)), (15, .inl (.aload_n 0, 0, 0, 0)), (16, .inl (.getfield 15, 1, 1, 0)), (19, .inl (.iconst 1, 0, 0, 0)), (20, .inl (.aload_n 0, 0, 0, 0)), (21, .inl (.getfield 15, 1, 1, 0)), (24, .inl (.iconst 0, 0, 0, 0)), (25, .inl (.bipush 39, 0, 0, 0)), (27, .inl (.invokestatic 31, 3, 0, 0)), (30, .inl (.aload_n 0, 0, 0, 0)), (31, .inl (.getfield 18, 1, 2, 0)), (34, .inl (.iconst 1, 0, 0, 0)), (35, .inl (.aload_n 0, 0, 0, 0)), (36, .inl (.getfield 18, 1, 2, 0)), (39, .inl (.iconst 0, 0, 0, 0)), (40, .inl (.bipush 39, 0, 0, 0)), (42, .inl (.invokestatic 31, 3, 0, 0)), (45, .inl (.aload_n 0, 0, 0, 0)), (46, .inl (.bipush 39, 0, 0, 0)), (48, .inl (.putfield 21, 1, 3, 0)), (51, .inr (.return_, 3, 0, 0, []))]
def c15 : List (Nat × List kIt) := [(0, b15_0)]
-- 16: PennyALap$Changes.undoOne
def b16_0 : List kIt := [(0, .inl (.aload_n 0, 0, 0, 0)), (1, .inl (.getfield 21, 1, 3, 0)), (4, .inr (.ifCond .gt 6, 0, 10, 0, [])), (7, .inl (.bipush (-5), 0, 0, 0)), (9, .inr (.ireturn, 3, 0, 0, []))]
def b16_10 : List kIt := [(10, .inl (.aload_n 0, 0, 0, 0)), (11, .inl (.dup, 0, 0, 0)), (12, .inl (.getfield 21, 1, 3, 0)), (15, .inl (.iconst 1, 0, 0, 0)), (16, .inl (.isub, 0, 0, 0)), (17, .inl (.putfield 21, 1, 3, 0)), (20, .inl (.aload_n 1, 0, 0, 0)), (21, .inl (.aload_n 0, 0, 0, 0)), (22, .inl (.getfield 11, 1, 0, 0)), (25, .inl (.aload_n 0, 0, 0, 0)), (26, .inl (.getfield 21, 1, 3, 0)), (29, .inl (.iaload, 0, 0, 0)), (30, .inl (.aload_n 0, 0, 0, 0)), (31, .inl (.getfield 15, 1, 1, 0)), (34, .inl (.aload_n 0, 0, 0, 0)), (35, .inl (.getfield 21, 1, 3, 0)), (38, .inl (.iaload, 0, 0, 0)), (39, .inr (.invokevirtual 37, 4, 45, 3, [])), (42, .inr (.nop, 1, 42, 0, []))]
def b16_42 : List kIt := [(42, .inl (.aload_n 0, 0, 0, 0)), (43, .inl (.getfield 21, 1, 3, 0)), (46, .inr (.ireturn, 3, 0, 0, []))]
def c16 : List (Nat × List kIt) := [(0, b16_0), (10, b16_10), (42, b16_42)]
-- 17: PennyALap$Changes.redoOne
def b17_0 : List kIt := [(0, .inl (.aload_n 0, 0, 0, 0)), (1, .inl (.getfield 21, 1, 3, 0)), (4, .inl (.aload_n 0, 0, 0, 0)), (5, .inl (.getfield 28, 1, 4, 0)), (8, .inr (.if_icmp .ge 12, 0, 20, 0, [])), (11, .inl (.aload_n 0, 0, 0, 0)), (12, .inl (.getfield 21, 1, 3, 0)), (15, .inl (.bipush 40, 0, 0, 0)), (17, .inr (.if_icmp .lt 6, 0, 23, 0, [])), (20, .inr (.nop, 1, 20, 0, []))]
def b17_20 : List kIt := [(20, .inl (.bipush (-5), 0, 0, 0)), (22, .inr (.ireturn, 3, 0, 0, []))]
def b17_23 : List kIt := [(23, .inl (.aload_n 1, 0, 0, 0)), (24, .inl (.aload_n 0, 0, 0, 0)), (25, .inl (.getfield 11, 1, 0, 0)), (28, .inl (.aload_n 0, 0, 0, 0)), (29, .inl (.getfield 21, 1, 3, 0)), (32, .inl (.iaload, 0, 0, 0)), (33, .inl (.aload_n 0, 0, 0, 0)), (34, .inl (.getfield 18, 1, 2, 0)), (37, .inl (.aload_n 0, 0, 0, 0)), (38, .inl (.getfield 21, 1, 3, 0)), (41, .inl (.iaload, 0, 0, 0)), (42, .inr (.invokevirtual 37, 4, 45, 3, [])), (45, .inr (.nop, 1, 45, 0, []))]
def b17_45 : List kIt := [(45, .inl (.aload_n 0, 0, 0, 0)), (46, .inl (.dup, 0, 0, 0)), (47, .inl (.getfield 21, 1, 3, 0)), (50, .inl (.iconst 1, 0, 0, 0)), (51, .inl (.iadd, 0, 0, 0)), (52, .inl (.putfield 21, 1, 3, 0)), (55, .inl (.aload_n 0, 0, 0, 0)), (56, .inl (.getfield 28, 1, 4, 0)), (59, .inl (.aload_n 0, 0, 0, 0)), (60, .inl (.getfield 21, 1, 3, 0)), (63, .inl (.isub, 0, 0, 0)), (64, .inr (.ireturn, 3, 0, 0, []))]
def c17 : List (Nat × List kIt) := [(0, b17_0), (20, b17_20), (23, b17_23), (45, b17_45)]
-- 18: PennyALap$Coming.begin
def b18_0 : List kIt := [(0, .inl (.iconst 0, 0, 0, 0)), (1, .inl (.istore_n 1, 0, 0, 0)), (2, .inr (.nop, 1, 2, 0, []))]
def b18_2 : List kIt := [(2, .inl (.iload_n 1, 0, 0, 0)), (3, .inl (.aload_n 0, 0, 0, 0)), (4, .inl (.getfield 22, 2, 0, 0)), (7, .inr (.invokevirtual 30, 4, 39, 1, [])), (10, .inr (.nop, 1, 10, 0, []))]
def b18_10 : List kIt := [(10, .inr (.if_icmp .ge 38, 0, 48, 0, [])), (13, .inl (.aload_n 0, 0, 0, 0)), (14, .inl (.getfield 9, 2, 2, 0)), (17, .inl (.iload_n 1, 0, 0, 0)), (18, .inl (.aload_n 0, 0, 0, 0)), (19, .inl (.getfield 22, 2, 0, 0)), (22, .inl (.iload_n 1, 0, 0, 0)), (23, .inl (.aload_n 0, 0, 0, 0)), (24, .inl (.getfield 26, 2, 1, 0)), (27, .inl (.aload_n 0, 0, 0, 0)), (28, .inl (.getfield 22, 2, 0, 0)), (31, .inl (.iload_n 1, 0, 0, 0)), (32, .inr (.invokevirtual 36, 4, 42, 2, [])), (35, .inr (.nop, 1, 35, 0, []))]
def b18_35 : List kIt := [(35, .inr (.invokevirtual 40, 4, 104, 2, [])), (38, .inr (.nop, 1, 38, 0, []))]
def b18_38 : List kIt := [(38, .inr (.invokevirtual 45, 4, 54, 3, [])), (41, .inr (.nop, 1, 41, 0, []))]
def b18_41 : List kIt := [(41, .inl (.iastore, 0, 0, 0)), (42, .inl (.iinc 1 1, 0, 0, 0)), (45, .inr (.goto (-43), 1, 2, 0, []))]
def b18_48 : List kIt := [(48, .inl (.iconst 0, 0, 0, 0)), (49, .inl (.istore_n 1, 0, 0, 0)), (50, .inr (.nop, 1, 50, 0, []))]
def b18_50 : List kIt := [(50, .inl (.iload_n 1, 0, 0, 0)), (51, .inl (.bipush 60, 0, 0, 0)), (53, .inr (.if_icmp .ge 16, 0, 69, 0, [])), (56, .inl (.aload_n 0, 0, 0, 0)), (57, .inl (.getfield 18, 2, 4, 0)), (60, .inl (.iload_n 1, 0, 0, 0)), (61, .inl (.iconst 0, 0, 0, 0)), (62, .inl (.bastore, 3, 0, 0)), (63, .inl (.iinc 1 1, 0, 0, 0)), (66, .inr (.goto (-16), 1, 50, 0, []))]
def b18_69 : List kIt := [(69, .inr (.return_, 3, 0, 0, []))]
def c18 : List (Nat × List kIt) := [(0, b18_0), (2, b18_2), (10, b18_10), (35, b18_35), (38, b18_38), (41, b18_41), (48, b18_48), (50, b18_50), (69, b18_69)]
-- 19: PennyALap$Coming.remindIn
def b19_0 : List kIt := [(0, .inl (.iload_n 1, 0, 0, 0)), (1, .inr (.ifCond .lt 16, 0, 17, 0, [])), (4, .inl (.iload_n 1, 0, 0, 0)), (5, .inl (.bipush 60, 0, 0, 0)), (7, .inr (.if_icmp .ge 10, 0, 17, 0, [])), (10, .inl (.aload_n 0, 0, 0, 0)), (11, .inl (.getfield 18, 2, 4, 0)), (14, .inl (.iload_n 1, 0, 0, 0)), (15, .inl (.iconst 1, 0, 0, 0)), (16, .inl (.bastore, 3, 0, 0)), (17, .inr (.nop, 1, 17, 0, []))]
def b19_17 : List kIt := [(17, .inr (.return_, 3, 0, 0, []))]
def c19 : List (Nat × List kIt) := [(0, b19_0), (17, b19_17)]
-- 20: PennyALap$Coming.cameBy
def b20_0 : List kIt := [(0, .inl (.aload_n 0, 0, 0, 0)), (1, .inr (.invokevirtual 49, 4, 21, 1, [])), (4, .inr (.nop, 1, 4, 0, []))]
def b20_4 : List kIt := [(4, .inl (.iconst 0, 0, 0, 0)), (5, .inl (.istore_n 3, 0, 0, 0)), (6, .inl (.iconst 0, 0, 0, 0)), (7, .inl (.istore 4, 0, 0, 0)), (9, .inr (.nop, 1, 9, 0, []))]
def b20_9 : List kIt := [(9, .inl (.iload 4, 0, 0, 0)), (11, .inl (.iload_n 1, 0, 0, 0)), (12, .inr (.if_icmp .ge 44, 0, 56, 0, [])), (15, .inl (.iload 4, 0, 0, 0)), (17, .inl (.bipush 60, 0, 0, 0)), (19, .inr (.if_icmp .ge 37, 0, 56, 0, [])), (22, .inl (.iload_n 3, 0, 0, 0)), (23, .inl (.aload_n 0, 0, 0, 0)), (24, .inl (.aload_n 0, 0, 0, 0)), (25, .inl (.getfield 18, 2, 4, 0)), (28, .inl (.iload 4, 0, 0, 0)), (30, .inl (.baload, 3, 0, 0)), (31, .inr (.ifCond .ne 9, 0, 40, 0, [])), (34, .inl (.iload 4, 0, 0, 0)), (36, .inl (.iload_n 2, 0, 0, 0)), (37, .inr (.if_icmp .ne 7, 0, 44, 0, [])), (40, .inr (.nop, 1, 40, 0, []))]
def b20_40 : List kIt := [(40, .inl (.iconst 1, 0, 0, 0)), (41, .inr (.goto 4, 1, 45, 0, []))]
def b20_44 : List kIt := [(44, .inl (.iconst 0, 0, 0, 0)), (45, .inr (.nop, 1, 45, 0, []))]
def b20_45 : List kIt := [(45, .inr (.invokevirtual 52, 4, 22, 2, [])), (48, .inr (.nop, 1, 48, 0, []))]
def b20_48 : List kIt := [(48, .inl (.iadd, 0, 0, 0)), (49, .inl (.istore_n 3, 0, 0, 0)), (50, .inl (.iinc 4 1, 0, 0, 0)), (53, .inr (.goto (-44), 1, 9, 0, []))]
def b20_56 : List kIt := [(56, .inl (.iload_n 3, 0, 0, 0)), (57, .inr (.ireturn, 3, 0, 0, []))]
def c20 : List (Nat × List kIt) := [(0, b20_0), (4, b20_4), (9, b20_9), (40, b20_40), (44, b20_44), (45, b20_45), (48, b20_48), (56, b20_56)]
-- 21: PennyALap$Coming.startWeeks
def b21_0 : List kIt := [(0, .inl (.iconst 0, 0, 0, 0)), (1, .inl (.istore_n 1, 0, 0, 0)), (2, .inr (.nop, 1, 2, 0, []))]
def b21_2 : List kIt := [(2, .inl (.iload_n 1, 0, 0, 0)), (3, .inl (.aload_n 0, 0, 0, 0)), (4, .inl (.getfield 22, 2, 0, 0)), (7, .inr (.invokevirtual 30, 4, 39, 1, [])), (10, .inr (.nop, 1, 10, 0, []))]
def b21_10 : List kIt := [(10, .inr (.if_icmp .ge 21, 0, 31, 0, [])), (13, .inl (.aload_n 0, 0, 0, 0)), (14, .inl (.getfield 15, 2, 3, 0)), (17, .inl (.iload_n 1, 0, 0, 0)), (18, .inl (.aload_n 0, 0, 0, 0)), (19, .inl (.getfield 9, 2, 2, 0)), (22, .inl (.iload_n 1, 0, 0, 0)), (23, .inl (.iaload, 0, 0, 0)), (24, .inl (.iastore, 0, 0, 0)), (25, .inl (.iinc 1 1, 0, 0, 0)), (28, .inr (.goto (-26), 1, 2, 0, []))]
def b21_31 : List kIt := [(31, .inr (.return_, 3, 0, 0, []))]
def c21 : List (Nat × List kIt) := [(0, b21_0), (2, b21_2), (10, b21_10), (31, b21_31)]
-- 22: PennyALap$Coming.comesIn
def b22_0 : List kIt := [(0, .inl (.aload_n 0, 0, 0, 0)), (1, .inl (.getfield 22, 2, 0, 0)), (4, .inl (.iconst 0, 0, 0, 0)), (5, .inl (.bipush 10, 0, 0, 0)), (7, .inr (.invokevirtual 56, 4, 46, 3, [])), (10, .inr (.nop, 1, 10, 0, []))]
def b22_10 : List kIt := [(10, .inl (.istore_n 2, 0, 0, 0)), (11, .inl (.iload_n 1, 0, 0, 0)), (12, .inr (.ifCond .eq 16, 0, 28, 0, [])), (15, .inl (.aload_n 0, 0, 0, 0)), (16, .inl (.getfield 22, 2, 0, 0)), (19, .inl (.iconst 0, 0, 0, 0)), (20, .inl (.bipush 11, 0, 0, 0)), (22, .inr (.invokevirtual 56, 4, 46, 3, [])), (25, .inr (.nop, 1, 25, 0, []))]
def b22_25 : List kIt := [(25, .inr (.goto 4, 1, 29, 0, []))]
def b22_28 : List kIt := [(28, .inl (.iconst 1, 0, 0, 0)), (29, .inr (.nop, 1, 29, 0, []))]
def b22_29 : List kIt := [(29, .inl (.istore_n 3, 0, 0, 0)), (30, .inl (.iconst 0, 0, 0, 0)), (31, .inl (.istore 4, 0, 0, 0)), (33, .inl (.iconst 0, 0, 0, 0)), (34, .inl (.istore 5, 0, 0, 0)), (36, .inr (.nop, 1, 36, 0, []))]
def b22_36 : List kIt := [(36, .inl (.iload 5, 0, 0, 0)), (38, .inl (.aload_n 0, 0, 0, 0)), (39, .inl (.getfield 22, 2, 0, 0)), (42, .inr (.invokevirtual 30, 4, 39, 1, [])), (45, .inr (.nop, 1, 45, 0, []))]
def b22_45 : List kIt := [(45, .inr (.if_icmp .ge 58, 0, 103, 0, [])), (48, .inl (.aload_n 0, 0, 0, 0)), (49, .inl (.getfield 15, 2, 3, 0)), (52, .inl (.iload 5, 0, 0, 0)), (54, .inl (.iaload, 0, 0, 0)), (55, .inl (.iload_n 3, 0, 0, 0)), (56, .inl (.iconst 1, 0, 0, 0)), (57, .inl (.aload_n 0, 0, 0, 0)), (58, .inl (.getfield 15, 2, 3, 0)), (61, .inl (.iload 5, 0, 0, 0)), (63, .inl (.iaload, 0, 0, 0)), (64, .inl (.iload_n 2, 0, 0, 0)), (65, .inl (.imul, 0, 0, 0)), (66, .inl (.bipush 12, 0, 0, 0)), (68, .inl (.idiv, 0, 0, 0)), (69, .inl (.invokestatic 59, 1, 0, 0)), (72, .inl (.imul, 0, 0, 0)), (73, .inl (.invokestatic 64, 2, 0, 0)), (76, .inl (.istore 6, 0, 0, 0)), (78, .inl (.aload_n 0, 0, 0, 0)), (79, .inl (.getfield 15, 2, 3, 0)), (82, .inl (.iload 5, 0, 0, 0)), (84, .inl (.dup2, 0, 0, 0)), (85, .inl (.iaload, 0, 0, 0)), (86, .inl (.iload 6, 0, 0, 0)), (88, .inl (.isub, 0, 0, 0)), (89, .inl (.iastore, 0, 0, 0)), (90, .inl (.iload 4, 0, 0, 0)), (92, .inl (.iload 6, 0, 0, 0)), (94, .inl (.iadd, 0, 0, 0)), (95, .inl (.istore 4, 0, 0, 0)), (97, .inl (.iinc 5 1, 0, 0, 0)), (100, .inr (.goto (-64), 1, 36, 0, []))]
def b22_103 : List kIt := [(103, .inl (.iload 4, 0, 0, 0)), (105, .inr (.ireturn, 3, 0, 0, []))]
def c22 : List (Nat × List kIt) := [(0, b22_0), (10, b22_10), (25, b22_25), (28, b22_28), (29, b22_29), (36, b22_36), (45, b22_45), (103, b22_103)]
-- 23: PennyALap$Coming.weeksTill
def b23_0 : List kIt := [(0, .inl (.aload_n 0, 0, 0, 0)), (1, .inr (.invokevirtual 49, 4, 21, 1, [])), (4, .inr (.nop, 1, 4, 0, []))]
def b23_4 : List kIt := [(4, .inl (.iconst 0, 0, 0, 0)), (5, .inl (.istore_n 2, 0, 0, 0)), (6, .inl (.iconst 0, 0, 0, 0)), (7, .inl (.istore_n 3, 0, 0, 0)), (8, .inr (.nop, 1, 8, 0, []))]
def b23_8 : List kIt := [(8, .inl (.iload_n 3, 0, 0, 0)), (9, .inl (.aload_n 0, 0, 0, 0)), (10, .inl (.getfield 22, 2, 0, 0)), (13, .inr (.invokevirtual 30, 4, 39, 1, [])), (16, .inr (.nop, 1, 16, 0, []))]
def b23_16 : List kIt := [(16, .inr (.if_icmp .ge 18, 0, 34, 0, [])), (19, .inl (.iload_n 2, 0, 0, 0)), (20, .inl (.aload_n 0, 0, 0, 0)), (21, .inl (.getfield 9, 2, 2, 0)), (24, .inl (.iload_n 3, 0, 0, 0)), (25, .inl (.iaload, 0, 0, 0)), (26, .inl (.iadd, 0, 0, 0)), (27, .inl (.istore_n 2, 0, 0, 0)), (28, .inl (.iinc 3 1, 0, 0, 0)), (31, .inr (.goto (-23), 1, 8, 0, []))]
def b23_34 : List kIt := [(34, .inl (.iconst 0, 0, 0, 0)), (35, .inl (.istore_n 3, 0, 0, 0)), (36, .inl (.iconst 0, 0, 0, 0)), (37, .inl (.istore 4, 0, 0, 0)), (39, .inr (.nop, 1, 39, 0, []))]
def b23_39 : List kIt := [(39, .inl (.iload 4, 0, 0, 0)), (41, .inl (.bipush 60, 0, 0, 0)), (43, .inr (.if_icmp .gt 47, 0, 90, 0, [])), (46, .inl (.iload_n 3, 0, 0, 0)), (47, .inl (.bipush 12, 0, 0, 0)), (49, .inl (.imul, 0, 0, 0)), (50, .inl (.iload_n 2, 0, 0, 0)), (51, .inl (.iload_n 1, 0, 0, 0)), (52, .inl (.imul, 0, 0, 0)), (53, .inr (.if_icmp .lt 6, 0, 59, 0, [])), (56, .inl (.iload 4, 0, 0, 0)), (58, .inr (.ireturn, 3, 0, 0, []))]
def b23_59 : List kIt := [(59, .inl (.iload_n 3, 0, 0, 0)), (60, .inl (.iload 4, 0, 0, 0)), (62, .inl (.bipush 60, 0, 0, 0)), (64, .inr (.if_icmp .ge 17, 0, 81, 0, [])), (67, .inl (.aload_n 0, 0, 0, 0)), (68, .inl (.aload_n 0, 0, 0, 0)), (69, .inl (.getfield 18, 2, 4, 0)), (72, .inl (.iload 4, 0, 0, 0)), (74, .inl (.baload, 3, 0, 0)), (75, .inr (.invokevirtual 52, 4, 22, 2, [])), (78, .inr (.nop, 1, 78, 0, []))]
def b23_78 : List kIt := [(78, .inr (.goto 4, 1, 82, 0, []))]
def b23_81 : List kIt := [(81, .inl (.iconst 0, 0, 0, 0)), (82, .inr (.nop, 1, 82, 0, []))]
def b23_82 : List kIt := [(82, .inl (.iadd, 0, 0, 0)), (83, .inl (.istore_n 3, 0, 0, 0)), (84, .inl (.iinc 4 1, 0, 0, 0)), (87, .inr (.goto (-48), 1, 39, 0, []))]
def b23_90 : List kIt := [(90, .inl (.bipush (-2), 0, 0, 0)), (92, .inr (.ireturn, 3, 0, 0, []))]
def c23 : List (Nat × List kIt) := [(0, b23_0), (4, b23_4), (8, b23_8), (16, b23_16), (34, b23_34), (39, b23_39), (59, b23_59), (78, b23_78), (81, b23_81), (82, b23_82), (90, b23_90)]
-- 24: PennyALap$Coming.bestWeek
def b24_0 : List kIt := [(0, .inl (.iconst 0, 0, 0, 0)), (1, .inl (.istore_n 2, 0, 0, 0)), (2, .inl (.iconst (-1), 0, 0, 0)), (3, .inl (.istore_n 3, 0, 0, 0)), (4, .inl (.iconst 0, 0, 0, 0)), (5, .inl (.istore 4, 0, 0, 0)), (7, .inr (.nop, 1, 7, 0, []))]
def b24_7 : List kIt := [(7, .inl (.iload 4, 0, 0, 0)), (9, .inl (.iload_n 1, 0, 0, 0)), (10, .inr (.if_icmp .ge 30, 0, 40, 0, [])), (13, .inl (.aload_n 0, 0, 0, 0)), (14, .inl (.iload_n 1, 0, 0, 0)), (15, .inl (.iload 4, 0, 0, 0)), (17, .inr (.invokevirtual 67, 4, 20, 3, [])), (20, .inr (.nop, 1, 20, 0, []))]
def b24_20 : List kIt := [(20, .inl (.istore 5, 0, 0, 0)), (22, .inl (.iload 5, 0, 0, 0)), (24, .inl (.iload_n 3, 0, 0, 0)), (25, .inr (.if_icmp .le 9, 0, 34, 0, [])), (28, .inl (.iload 5, 0, 0, 0)), (30, .inl (.istore_n 3, 0, 0, 0)), (31, .inl (.iload 4, 0, 0, 0)), (33, .inl (.istore_n 2, 0, 0, 0)), (34, .inr (.nop, 1, 34, 0, []))]
def b24_34 : List kIt := [(34, .inl (.iinc 4 1, 0, 0, 0)), (37, .inr (.goto (-30), 1, 7, 0, []))]
def b24_40 : List kIt := [(40, .inl (.iload_n 2, 0, 0, 0)), (41, .inr (.ireturn, 3, 0, 0, []))]
def c24 : List (Nat × List kIt) := [(0, b24_0), (7, b24_7), (20, b24_20), (34, b24_34), (40, b24_40)]
-- 25: PennyALap$Deed.lapsOf
def b25_0 : List kIt := [(0, .inl (.iload_n 1, 0, 0, 0)), (1, .inr (.ifCond .lt 18, 0, 19, 0, [])), (4, .inl (.iload_n 1, 0, 0, 0)), (5, .inl (.bipush 6, 0, 0, 0)), (7, .inr (.if_icmp .ge 12, 0, 19, 0, [])), (10, .inl (.aload_n 0, 0, 0, 0)), (11, .inl (.getfield 9, 3, 0, 0)), (14, .inl (.iload_n 1, 0, 0, 0)), (15, .inl (.iaload, 0, 0, 0)), (16, .inr (.goto 4, 1, 20, 0, []))]
def b25_19 : List kIt := [(19, .inl (.iconst 0, 0, 0, 0)), (20, .inr (.nop, 1, 20, 0, []))]
def b25_20 : List kIt := [(20, .inr (.ireturn, 3, 0, 0, []))]
def c25 : List (Nat × List kIt) := [(0, b25_0), (19, b25_19), (20, b25_20)]
-- 26: PennyALap$Deed.minutesOf
def b26_0 : List kIt := [(0, .inl (.iload_n 1, 0, 0, 0)), (1, .inr (.ifCond .lt 18, 0, 19, 0, [])), (4, .inl (.iload_n 1, 0, 0, 0)), (5, .inl (.bipush 6, 0, 0, 0)), (7, .inr (.if_icmp .ge 12, 0, 19, 0, [])), (10, .inl (.aload_n 0, 0, 0, 0)), (11, .inl (.getfield 15, 3, 1, 0)), (14, .inl (.iload_n 1, 0, 0, 0)), (15, .inl (.iaload, 0, 0, 0)), (16, .inr (.goto 4, 1, 20, 0, []))]
def b26_19 : List kIt := [(19, .inl (.iconst 0, 0, 0, 0)), (20, .inr (.nop, 1, 20, 0, []))]
def b26_20 : List kIt := [(20, .inr (.ireturn, 3, 0, 0, []))]
def c26 : List (Nat × List kIt) := [(0, b26_0), (19, b26_19), (20, b26_20)]
-- 27: PennyALap$Deed.paidBy
def b27_0 : List kIt := [(0, .inl (.iload_n 1, 0, 0, 0)), (1, .inr (.ifCond .lt 18, 0, 19, 0, [])), (4, .inl (.iload_n 1, 0, 0, 0)), (5, .inl (.bipush 16, 0, 0, 0)), (7, .inr (.if_icmp .ge 12, 0, 19, 0, [])), (10, .inl (.aload_n 0, 0, 0, 0)), (11, .inl (.getfield 18, 3, 2, 0)), (14, .inl (.iload_n 1, 0, 0, 0)), (15, .inl (.iaload, 0, 0, 0)), (16, .inr (.goto 4, 1, 20, 0, []))]
def b27_19 : List kIt := [(19, .inl (.iconst 0, 0, 0, 0)), (20, .inr (.nop, 1, 20, 0, []))]
def b27_20 : List kIt := [(20, .inr (.ireturn, 3, 0, 0, []))]
def c27 : List (Nat × List kIt) := [(0, b27_0), (19, b27_19), (20, b27_20)]
-- 28: PennyALap$Deed.ledLaps
def b28_0 : List kIt := [(0, .inl (.aload_n 0, 0, 0, 0)), (1, .inl (.getfield 21, 3, 3, 0)), (4, .inr (.ireturn, 3, 0, 0, []))]
def c28 : List (Nat × List kIt) := [(0, b28_0)]
-- 29: PennyALap$Deed.ledPence
def b29_0 : List kIt := [(0, .inl (.aload_n 0, 0, 0, 0)), (1, .inl (.getfield 25, 3, 4, 0)), (4, .inr (.ireturn, 3, 0, 0, []))]
def c29 : List (Nat × List kIt) := [(0, b29_0)]
-- 30: PennyALap$Deed.ledMinutes
def b30_0 : List kIt := [(0, .inl (.aload_n 0, 0, 0, 0)), (1, .inl (.getfield 28, 3, 5, 0)), (4, .inr (.ireturn, 3, 0, 0, []))]
def c30 : List (Nat × List kIt) := [(0, b30_0)]
-- 31: PennyALap$Deed.fields
def b31_0 : List kIt := [(0, .inl (.aload_n 0, 0, 0, 0)), (1, .inl (.getfield 31, 3, 6, 0)), (4, .inr (.ireturn, 3, 0, 0, []))]
def c31 : List (Nat × List kIt) := [(0, b31_0)]
-- 32: PennyALap$Deed.surprises
def b32_0 : List kIt := [(0, .inl (.aload_n 0, 0, 0, 0)), (1, .inl (.getfield 34, 3, 7, 0)), (4, .inr (.ireturn, 3, 0, 0, []))]
def c32 : List (Nat × List kIt) := [(0, b32_0)]
-- 33: PennyALap$Deed.lapsOfField
def b33_0 : List kIt := [(0, .inl (.iconst 0, 0, 0, 0)), (1, .inl (.istore_n 1, 0, 0, 0)), (2, .inl (.aload_n 0, 0, 0, 0)), (3, .inl (.getfield 9, 3, 0, 0)), (6, .inl (.astore_n 2, 0, 0, 0)), (7, .inl (.aload_n 2, 0, 0, 0)), (8, .inl (.arraylength, 0, 0, 0)), (9, .inl (.istore_n 3, 0, 0, 0)), (10, .inl (.iconst 0, 0, 0, 0)), (11, .inl (.istore 4, 0, 0, 0)), (13, .inr (.nop, 1, 13, 0, []))]
def b33_13 : List kIt := [(13, .inl (.iload 4, 0, 0, 0)), (15, .inl (.iload_n 3, 0, 0, 0)), (16, .inr (.if_icmp .ge 20, 0, 36, 0, [])), (19, .inl (.aload_n 2, 0, 0, 0)), (20, .inl (.iload 4, 0, 0, 0)), (22, .inl (.iaload, 0, 0, 0)), (23, .inl (.istore 5, 0, 0, 0)), (25, .inl (.iload_n 1, 0, 0, 0)), (26, .inl (.iload 5, 0, 0, 0)), (28, .inl (.iadd, 0, 0, 0)), (29, .inl (.istore_n 1, 0, 0, 0)), (30, .inl (.iinc 4 1, 0, 0, 0)), (33, .inr (.goto (-20), 1, 13, 0, []))]
def b33_36 : List kIt := [(36, .inl (.iload_n 1, 0, 0, 0)), (37, .inr (.ireturn, 3, 0, 0, []))]
def c33 : List (Nat × List kIt) := [(0, b33_0), (13, b33_13), (36, b33_36)]
-- 34: PennyALap$Deed.lapRun
def b34_0 : List kIt := [(0, .inl (.iload_n 1, 0, 0, 0)), (1, .inr (.ifCond .lt 53, 0, 54, 0, [])), (4, .inl (.iload_n 1, 0, 0, 0)), (5, .inl (.bipush 6, 0, 0, 0)), (7, .inr (.if_icmp .ge 47, 0, 54, 0, [])), (10, .inl (.aload_n 0, 0, 0, 0)), (11, .inl (.dup, 0, 0, 0)), (12, .inl (.getfield 21, 3, 3, 0)), (15, .inl (.iconst 1, 0, 0, 0)), (16, .inl (.iadd, 0, 0, 0)), (17, .inl (.putfield 21, 3, 3, 0)), (20, .inl (.aload_n 0, 0, 0, 0)), (21, .inl (.dup, 0, 0, 0)), (22, .inl (.getfield 28, 3, 5, 0)), (25, .inl (.iload_n 2, 0, 0, 0)), (26, .inl (.aload_n 0, 0, 0, 0)), (27, .inl (.getfield 15, 3, 1, 0)), (30, .inl (.iload_n 1, 0, 0, 0)), (31, .inl (.iaload, 0, 0, 0)), (32, .inl (.isub, 0, 0, 0)), (33, .inl (.iadd, 0, 0, 0)), (34, .inl (.putfield 28, 3, 5, 0)), (37, .inl (.aload_n 0, 0, 0, 0)), (38, .inl (.getfield 9, 3, 0, 0)), (41, .inl (.iload_n 1, 0, 0, 0)), (42, .inl (.dup2, 0, 0, 0)), (43, .inl (.iaload, 0, 0, 0)), (44, .inl (.iconst 1, 0, 0, 0)), (45, .inl (.iadd, 0, 0, 0)), (46, .inl (.iastore, 0, 0, 0)), (47, .inl (.aload_n 0, 0, 0, 0)), (48, .inl (.getfield 15, 3, 1, 0)), (51, .inl (.iload_n 1, 0, 0, 0)), (52, .inl (.iload_n 2, 0, 0, 0)), (53, .inl (.iastore, 0, 0, 0)), (54, .inr (.nop, 1, 54, 0, []))]
def b34_54 : List kIt := [(54, .inr (.return_, 3, 0, 0, []))]
def c34 : List (Nat × List kIt) := [(0, b34_0), (54, b34_54)]
-- 35: PennyALap$Deed.asked
def b35_0 : List kIt := [(0, .inl (.iload_n 1, 0, 0, 0)), (1, .inr (.ifCond .lt 47, 0, 48, 0, [])), (4, .inl (.iload_n 1, 0, 0, 0)), (5, .inl (.bipush 16, 0, 0, 0)), (7, .inr (.if_icmp .ge 41, 0, 48, 0, [])), (10, .inl (.aload_n 0, 0, 0, 0)), (11, .inl (.getfield 18, 3, 2, 0)), (14, .inl (.iload_n 1, 0, 0, 0)), (15, .inl (.dup2, 0, 0, 0)), (16, .inl (.iaload, 0, 0, 0)), (17, .inl (.iload_n 2, 0, 0, 0)), (18, .inl (.iadd, 0, 0, 0)), (19, .inl (.iastore, 0, 0, 0)), (20, .inl (.aload_n 0, 0, 0, 0)), (21, .inl (.dup, 0, 0, 0)), (22, .inl (.getfield 25, 3, 4, 0)), (25, .inl (.iload_n 2, 0, 0, 0)), (26, .inl (.iadd, 0, 0, 0)), (27, .inl (.putfield 25, 3, 4, 0)), (30, .inl (.aload_n 0, 0, 0, 0)), (31, .inl (.dup, 0, 0, 0)), (32, .inl (.getfield 34, 3, 7, 0)), (35, .inl (.iload_n 3, 0, 0, 0)), (36, .inr (.ifCond .eq 7, 0, 43, 0, [])), (39, .inl (.iconst 1, 0, 0, 0)), (40, .inr (.goto 4, 1, 44, 0, []))]
def b35_43 : List kIt := [(43, .inl (.iconst 0, 0, 0, 0)), (44, .inr (.nop, 1, 44, 0, []))]
def b35_44 : List kIt := [(44, .inl (.iadd, 0, 0, 0)), (45, .inl (.putfield 34, 3, 7, 0)), (48, .inr (.nop, 1, 48, 0, []))]
def b35_48 : List kIt := [(48, .inr (.return_, 3, 0, 0, []))]
def c35 : List (Nat × List kIt) := [(0, b35_0), (43, b35_43), (44, b35_44), (48, b35_48)]
-- 36: PennyALap$Deed.newField
def b36_0 : List kIt := [(0, .inl (.iconst 0, 0, 0, 0)), (1, .inl (.istore_n 1, 0, 0, 0)), (2, .inr (.nop, 1, 2, 0, []))]
def b36_2 : List kIt := [(2, .inl (.iload_n 1, 0, 0, 0)), (3, .inl (.bipush 6, 0, 0, 0)), (5, .inr (.if_icmp .ge 23, 0, 28, 0, [])), (8, .inl (.aload_n 0, 0, 0, 0)), (9, .inl (.getfield 9, 3, 0, 0)), (12, .inl (.iload_n 1, 0, 0, 0)), (13, .inl (.iconst 0, 0, 0, 0)), (14, .inl (.iastore, 0, 0, 0)), (15, .inl (.aload_n 0, 0, 0, 0)), (16, .inl (.getfield 15, 3, 1, 0)), (19, .inl (.iload_n 1, 0, 0, 0)), (20, .inl (.iconst 0, 0, 0, 0)), (21, .inl (.iastore, 0, 0, 0)), (22, .inl (.iinc 1 1, 0, 0, 0)), (25, .inr (.goto (-23), 1, 2, 0, []))]
def b36_28 : List kIt := [(28, .inl (.iconst 0, 0, 0, 0)), (29, .inl (.istore_n 1, 0, 0, 0)), (30, .inr (.nop, 1, 30, 0, []))]
def b36_30 : List kIt := [(30, .inl (.iload_n 1, 0, 0, 0)), (31, .inl (.bipush 16, 0, 0, 0)), (33, .inr (.if_icmp .ge 16, 0, 49, 0, [])), (36, .inl (.aload_n 0, 0, 0, 0)), (37, .inl (.getfield 18, 3, 2, 0)), (40, .inl (.iload_n 1, 0, 0, 0)), (41, .inl (.iconst 0, 0, 0, 0)), (42, .inl (.iastore, 0, 0, 0)), (43, .inl (.iinc 1 1, 0, 0, 0)), (46, .inr (.goto (-16), 1, 30, 0, []))]
def b36_49 : List kIt := [(49, .inl (.aload_n 0, 0, 0, 0)), (50, .inl (.dup, 0, 0, 0)), (51, .inl (.getfield 31, 3, 6, 0)), (54, .inl (.iconst 1, 0, 0, 0)), (55, .inl (.iadd, 0, 0, 0)), (56, .inl (.putfield 31, 3, 6, 0)), (59, .inr (.return_, 3, 0, 0, []))]
def c36 : List (Nat × List kIt) := [(0, b36_0), (2, b36_2), (28, b36_28), (30, b36_30), (49, b36_49)]
-- 37: PennyALap$Deed.becomeLike
def b37_0 : List kIt := [(0, .inl (.aload_n 1, 0, 0, 0)), (1, .inl (.getfield 9, 3, 0, 0)), (4, .inl (.iconst 0, 0, 0, 0)), (5, .inl (.aload_n 0, 0, 0, 0)), (6, .inl (.getfield 9, 3, 0, 0)), (9, .inl (.iconst 0, 0, 0, 0)), (10, .inl (.bipush 6, 0, 0, 0)), (12, .inl (.invokestatic 37, 3, 0, 0)), (15, .inl (.aload_n 1, 0, 0, 0)), (16, .inl (.getfield 15, 3, 1, 0)), (19, .inl (.iconst 0, 0, 0, 0)), (20, .inl (.aload_n 0, 0, 0, 0)), (21, .inl (.getfield 15, 3, 1, 0)), (24, .inl (.iconst 0, 0, 0, 0)), (25, .inl (.bipush 6, 0, 0, 0)), (27, .inl (.invokestatic 37, 3, 0, 0)), (30, .inl (.aload_n 1, 0, 0, 0)), (31, .inl (.getfield 18, 3, 2, 0)), (34, .inl (.iconst 0, 0, 0, 0)), (35, .inl (.aload_n 0, 0, 0, 0)), (36, .inl (.getfield 18, 3, 2, 0)), (39, .inl (.iconst 0, 0, 0, 0)), (40, .inl (.bipush 16, 0, 0, 0)), (42, .inl (.invokestatic 37, 3, 0, 0)), (45, .inl (.aload_n 0, 0, 0, 0)), (46, .inl (.aload_n 1, 0, 0, 0)), (47, .inl (.getfield 21, 3, 3, 0)), (50, .inl (.putfield 21, 3, 3, 0)), (53, .inl (.aload_n 0, 0, 0, 0)), (54, .inl (.aload_n 1, 0, 0, 0)), (55, .inl (.getfield 25, 3, 4, 0)), (58, .inl (.putfield 25, 3, 4, 0)), (61, .inl (.aload_n 0, 0, 0, 0)), (62, .inl (.aload_n 1, 0, 0, 0)), (63, .inl (.getfield 28, 3, 5, 0)), (66, .inl (.putfield 28, 3, 5, 0)), (69, .inl (.aload_n 0, 0, 0, 0)), (70, .inl (.aload_n 1, 0, 0, 0)), (71, .inl (.getfield 31, 3, 6, 0)), (74, .inl (.putfield 31, 3, 6, 0)), (77, .inl (.aload_n 0, 0, 0, 0)), (78, .inl (.aload_n 1, 0, 0, 0)), (79, .inl (.getfield 34, 3, 7, 0)), (82, .inl (.putfield 34, 3, 7, 0)), (85, .inr (.return_, 3, 0, 0, []))]
def c37 : List (Nat × List kIt) := [(0, b37_0)]
-- 38: PennyALap$Folk.childCount
def b38_0 : List kIt := [(0, .inl (.aload_n 0, 0, 0, 0)), (1, .inl (.getfield 25, 4, 3, 0)), (4, .inr (.ireturn, 3, 0, 0, []))]
def c38 : List (Nat × List kIt) := [(0, b38_0)]
-- 39: PennyALap$Folk.sponsorCount
def b39_0 : List kIt := [(0, .inl (.aload_n 0, 0, 0, 0)), (1, .inl (.getfield 29, 4, 4, 0)), (4, .inr (.ireturn, 3, 0, 0, []))]
def c39 : List (Nat × List kIt) := [(0, b39_0)]
-- 40: PennyALap$Folk.isChild
def b40_0 : List kIt := [(0, .inl (.iload_n 1, 0, 0, 0)), (1, .inr (.ifCond .lt 15, 0, 16, 0, [])), (4, .inl (.iload_n 1, 0, 0, 0)), (5, .inl (.aload_n 0, 0, 0, 0)), (6, .inl (.getfield 25, 4, 3, 0)), (9, .inr (.if_icmp .ge 7, 0, 16, 0, [])), (12, .inl (.iconst 1, 0, 0, 0)), (13, .inr (.goto 4, 1, 17, 0, []))]
def b40_16 : List kIt := [(16, .inl (.iconst 0, 0, 0, 0)), (17, .inr (.nop, 1, 17, 0, []))]
def b40_17 : List kIt := [(17, .inr (.ireturn, 3, 1, 0, []))]
def c40 : List (Nat × List kIt) := [(0, b40_0), (16, b40_16), (17, b40_17)]
-- 41: PennyALap$Folk.isSponsor
def b41_0 : List kIt := [(0, .inl (.iload_n 1, 0, 0, 0)), (1, .inr (.ifCond .lt 15, 0, 16, 0, [])), (4, .inl (.iload_n 1, 0, 0, 0)), (5, .inl (.aload_n 0, 0, 0, 0)), (6, .inl (.getfield 29, 4, 4, 0)), (9, .inr (.if_icmp .ge 7, 0, 16, 0, [])), (12, .inl (.iconst 1, 0, 0, 0)), (13, .inr (.goto 4, 1, 17, 0, []))]
def b41_16 : List kIt := [(16, .inl (.iconst 0, 0, 0, 0)), (17, .inr (.nop, 1, 17, 0, []))]
def b41_17 : List kIt := [(17, .inr (.ireturn, 3, 1, 0, []))]
def c41 : List (Nat × List kIt) := [(0, b41_0), (16, b41_16), (17, b41_17)]
-- 42: PennyALap$Folk.childOf
def b42_0 : List kIt := [(0, .inl (.aload_n 0, 0, 0, 0)), (1, .inl (.iload_n 1, 0, 0, 0)), (2, .inr (.invokevirtual 32, 4, 41, 2, [])), (5, .inr (.nop, 1, 5, 0, []))]
def b42_5 : List kIt := [(5, .inr (.ifCond .eq 12, 0, 17, 0, [])), (8, .inl (.aload_n 0, 0, 0, 0)), (9, .inl (.getfield 15, 4, 2, 0)), (12, .inl (.iload_n 1, 0, 0, 0)), (13, .inl (.iaload, 0, 0, 0)), (14, .inr (.goto 4, 1, 18, 0, []))]
def b42_17 : List kIt := [(17, .inl (.iconst (-1), 0, 0, 0)), (18, .inr (.nop, 1, 18, 0, []))]
def b42_18 : List kIt := [(18, .inr (.ireturn, 3, 0, 0, []))]
def c42 : List (Nat × List kIt) := [(0, b42_0), (5, b42_5), (17, b42_17), (18, b42_18)]
-- 43: PennyALap$Folk.place
def b43_0 : List kIt := [(0, .inl (.iload_n 1, 0, 0, 0)), (1, .inr (.ifCond .lt 13, 0, 14, 0, [])), (4, .inl (.iload_n 2, 0, 0, 0)), (5, .inr (.ifCond .lt 9, 0, 14, 0, [])), (8, .inl (.iload_n 2, 0, 0, 0)), (9, .inl (.bipush 12, 0, 0, 0)), (11, .inr (.if_icmp .le 5, 0, 16, 0, [])), (14, .inr (.nop, 1, 14, 0, []))]
def b43_14 : List kIt := [(14, .inl (.iconst (-1), 0, 0, 0)), (15, .inr (.ireturn, 3, 0, 0, []))]
def b43_16 : List kIt := [(16, .inl (.iload_n 2, 0, 0, 0)), (17, .inl (.iconst 3, 0, 0, 0)), (18, .inr (.if_icmp .gt 21, 0, 39, 0, [])), (21, .inl (.iload_n 1, 0, 0, 0)), (22, .inl (.aload_n 0, 0, 0, 0)), (23, .inl (.getfield 25, 4, 3, 0)), (26, .inr (.if_icmp .ge 11, 0, 37, 0, [])), (29, .inl (.iload_n 1, 0, 0, 0)), (30, .inl (.iconst 4, 0, 0, 0)), (31, .inl (.imul, 0, 0, 0)), (32, .inl (.iload_n 2, 0, 0, 0)), (33, .inl (.iadd, 0, 0, 0)), (34, .inr (.goto 4, 1, 38, 0, []))]
def b43_37 : List kIt := [(37, .inl (.iconst (-1), 0, 0, 0)), (38, .inr (.nop, 1, 38, 0, []))]
def b43_38 : List kIt := [(38, .inr (.ireturn, 3, 0, 0, []))]
def b43_39 : List kIt := [(39, .inl (.iload_n 2, 0, 0, 0)), (40, .inl (.bipush 8, 0, 0, 0)), (42, .inr (.if_icmp .gt 26, 0, 68, 0, [])), (45, .inl (.iload_n 1, 0, 0, 0)), (46, .inl (.aload_n 0, 0, 0, 0)), (47, .inl (.getfield 29, 4, 4, 0)), (50, .inr (.if_icmp .ge 16, 0, 66, 0, [])), (53, .inl (.bipush 24, 0, 0, 0)), (55, .inl (.iload_n 1, 0, 0, 0)), (56, .inl (.iconst 5, 0, 0, 0)), (57, .inl (.imul, 0, 0, 0)), (58, .inl (.iadd, 0, 0, 0)), (59, .inl (.iload_n 2, 0, 0, 0)), (60, .inl (.iadd, 0, 0, 0)), (61, .inl (.iconst 4, 0, 0, 0)), (62, .inl (.isub, 0, 0, 0)), (63, .inr (.goto 4, 1, 67, 0, []))]
def b43_66 : List kIt := [(66, .inl (.iconst (-1), 0, 0, 0)), (67, .inr (.nop, 1, 67, 0, []))]
def b43_67 : List kIt := [(67, .inr (.ireturn, 3, 0, 0, []))]
def b43_68 : List kIt := [(68, .inl (.iload_n 1, 0, 0, 0)), (69, .inr (.ifCond .ne 13, 0, 82, 0, [])), (72, .inl (.bipush 104, 0, 0, 0)), (74, .inl (.iload_n 2, 0, 0, 0)), (75, .inl (.iadd, 0, 0, 0)), (76, .inl (.bipush 9, 0, 0, 0)), (78, .inl (.isub, 0, 0, 0)), (79, .inr (.goto 4, 1, 83, 0, []))]
def b43_82 : List kIt := [(82, .inl (.iconst (-1), 0, 0, 0)), (83, .inr (.nop, 1, 83, 0, []))]
def b43_83 : List kIt := [(83, .inr (.ireturn, 3, 0, 0, []))]
def c43 : List (Nat × List kIt) := [(0, b43_0), (14, b43_14), (16, b43_16), (37, b43_37), (38, b43_38), (39, b43_39), (66, b43_66), (67, b43_67), (68, b43_68), (82, b43_82), (83, b43_83)]
-- 44: PennyALap$Folk.at
def b44_0 : List kIt := [(0, .inl (.iload_n 1, 0, 0, 0)), (1, .inr (.ifCond .lt 21, 0, 22, 0, [])), (4, .inl (.iload_n 1, 0, 0, 0)), (5, .inl (.aload_n 0, 0, 0, 0)), (6, .inl (.getfield 11, 4, 1, 0)), (9, .inl (.arraylength, 0, 0, 0)), (10, .inr (.if_icmp .ge 12, 0, 22, 0, [])), (13, .inl (.aload_n 0, 0, 0, 0)), (14, .inl (.getfield 11, 4, 1, 0)), (17, .inl (.iload_n 1, 0, 0, 0)), (18, .inl (.iaload, 0, 0, 0)), (19, .inr (.goto 4, 1, 23, 0, []))]
def b44_22 : List kIt := [(22, .inl (.iconst 0, 0, 0, 0)), (23, .inr (.nop, 1, 23, 0, []))]
def b44_23 : List kIt := [(23, .inr (.ireturn, 3, 0, 0, []))]
def c44 : List (Nat × List kIt) := [(0, b44_0), (22, b44_22), (23, b44_23)]
-- 45: PennyALap$Folk.become
def b45_0 : List kIt := [(0, .inl (.iload_n 1, 0, 0, 0)), (1, .inr (.ifCond .lt 19, 0, 20, 0, [])), (4, .inl (.iload_n 1, 0, 0, 0)), (5, .inl (.aload_n 0, 0, 0, 0)), (6, .inl (.getfield 11, 4, 1, 0)), (9, .inl (.arraylength, 0, 0, 0)), (10, .inr (.if_icmp .ge 10, 0, 20, 0, [])), (13, .inl (.aload_n 0, 0, 0, 0)), (14, .inl (.getfield 11, 4, 1, 0)), (17, .inl (.iload_n 1, 0, 0, 0)), (18, .inl (.iload_n 2, 0, 0, 0)), (19, .inl (.iastore, 0, 0, 0)), (20, .inr (.nop, 1, 20, 0, []))]
def b45_20 : List kIt := [(20, .inr (.return_, 3, 0, 0, []))]
def c45 : List (Nat × List kIt) := [(0, b45_0), (20, b45_20)]
-- 46: PennyALap$Folk.told
def b46_0 : List kIt := [(0, .inl (.aload_n 0, 0, 0, 0)), (1, .inl (.aload_n 0, 0, 0, 0)), (2, .inl (.iload_n 1, 0, 0, 0)), (3, .inl (.iload_n 2, 0, 0, 0)), (4, .inr (.invokevirtual 36, 4, 43, 3, [])), (7, .inr (.nop, 1, 7, 0, []))]
def b46_7 : List kIt := [(7, .inr (.invokevirtual 40, 4, 44, 2, [])), (10, .inr (.nop, 1, 10, 0, []))]
def b46_10 : List kIt := [(10, .inr (.ireturn, 3, 0, 0, []))]
def c46 : List (Nat × List kIt) := [(0, b46_0), (7, b46_7), (10, b46_10)]
-- 47: PennyALap$Folk.childComes
def b47_0 : List kIt := [(0, .inl (.aload_n 0, 0, 0, 0)), (1, .inl (.getfield 25, 4, 3, 0)), (4, .inl (.bipush 6, 0, 0, 0)), (6, .inr (.if_icmp .lt 6, 0, 12, 0, [])), (9, .inl (.bipush (-3), 0, 0, 0)), (11, .inr (.ireturn, 3, 0, 0, []))]
def b47_12 : List kIt := [(12, .inl (.aload_n 0, 0, 0, 0)), (13, .inl (.getfield 25, 4, 3, 0)), (16, .inl (.istore_n 2, 0, 0, 0)), (17, .inl (.aload_n 0, 0, 0, 0)), (18, .inl (.dup, 0, 0, 0)), (19, .inl (.getfield 25, 4, 3, 0)), (22, .inl (.iconst 1, 0, 0, 0)), (23, .inl (.iadd, 0, 0, 0)), (24, .inl (.putfield 25, 4, 3, 0)), (27, .inl (.iconst 0, 0, 0, 0)), (28, .inl (.istore_n 3, 0, 0, 0)), (29, .inr (.nop, 1, 29, 0, []))]
def b47_29 : List kIt := [(29, .inl (.iload_n 3, 0, 0, 0)), (30, .inl (.iconst 3, 0, 0, 0)), (31, .inr (.if_icmp .gt 32, 0, 63, 0, [])), (34, .inl (.aload_n 0, 0, 0, 0)), (35, .inl (.aload_n 0, 0, 0, 0)), (36, .inl (.iload_n 2, 0, 0, 0)), (37, .inl (.iload_n 3, 0, 0, 0)), (38, .inr (.invokevirtual 36, 4, 43, 3, [])), (41, .inr (.nop, 1, 41, 0, []))]
def b47_41 : List kIt := [(41, .inl (.iload_n 3, 0, 0, 0)), (42, .inr (.ifCond .ne 7, 0, 49, 0, [])), (45, .inl (.iload_n 1, 0, 0, 0)), (46, .inr (.goto 8, 1, 54, 0, []))]
def b47_49 : List kIt := [(49, .inl (.getstatic 22, 1002, 0, 0)), (52, .inl (.iload_n 3, 0, 0, 0)), (53, .inl (.iaload, 0, 0, 0)), (54, .inr (.nop, 1, 54, 0, []))]
def b47_54 : List kIt := [(54, .inr (.invokevirtual 44, 4, 45, 3, [])), (57, .inr (.nop, 1, 57, 0, []))]
def b47_57 : List kIt := [(57, .inl (.iinc 3 1, 0, 0, 0)), (60, .inr (.goto (-31), 1, 29, 0, []))]
def b47_63 : List kIt := [(63, .inl (.iload_n 2, 0, 0, 0)), (64, .inr (.ireturn, 3, 0, 0, []))]
def c47 : List (Nat × List kIt) := [(0, b47_0), (12, b47_12), (29, b47_29), (41, b47_41), (49, b47_49), (54, b47_54), (57, b47_57), (63, b47_63)]
-- 48: PennyALap$Folk.maySponsor
def b48_0 : List kIt := [(0, .inl (.aload_n 0, 0, 0, 0)), (1, .inl (.iload_n 1, 0, 0, 0)), (2, .inr (.invokevirtual 48, 4, 40, 2, [])), (5, .inr (.nop, 1, 5, 0, []))]
def b48_5 : List kIt := [(5, .inr (.ifCond .eq 41, 0, 46, 0, [])), (8, .inl (.iload_n 2, 0, 0, 0)), (9, .inl (.getstatic 51, 1000, 0, 0)), (12, .inl (.iconst 4, 0, 0, 0)), (13, .inl (.iaload, 0, 0, 0)), (14, .inl (.getstatic 54, 1001, 0, 0)), (17, .inl (.iconst 4, 0, 0, 0)), (18, .inl (.iaload, 0, 0, 0)), (19, .inr (.invokestatic 57, 4, 118, 3, [])), (22, .inr (.nop, 1, 22, 0, []))]
def b48_22 : List kIt := [(22, .inr (.ifCond .eq 24, 0, 46, 0, [])), (25, .inl (.iload_n 3, 0, 0, 0)), (26, .inl (.getstatic 51, 1000, 0, 0)), (29, .inl (.iconst 5, 0, 0, 0)), (30, .inl (.iaload, 0, 0, 0)), (31, .inl (.getstatic 54, 1001, 0, 0)), (34, .inl (.iconst 5, 0, 0, 0)), (35, .inl (.iaload, 0, 0, 0)), (36, .inr (.invokestatic 57, 4, 118, 3, [])), (39, .inr (.nop, 1, 39, 0, []))]
def b48_39 : List kIt := [(39, .inr (.ifCond .eq 7, 0, 46, 0, [])), (42, .inl (.iconst 1, 0, 0, 0)), (43, .inr (.goto 4, 1, 47, 0, []))]
def b48_46 : List kIt := [(46, .inl (.iconst 0, 0, 0, 0)), (47, .inr (.nop, 1, 47, 0, []))]
def b48_47 : List kIt := [(47, .inr (.ireturn, 3, 1, 0, []))]
def c48 : List (Nat × List kIt) := [(0, b48_0), (5, b48_5), (22, b48_22), (39, b48_39), (46, b48_46), (47, b48_47)]
-- 49: PennyALap$Folk.sponsorComes
def b49_0 : List kIt := [(0, .inl (.aload_n 0, 0, 0, 0)), (1, .inl (.getfield 29, 4, 4, 0)), (4, .inl (.bipush 16, 0, 0, 0)), (6, .inr (.if_icmp .lt 6, 0, 12, 0, [])), (9, .inl (.bipush (-3), 0, 0, 0)), (11, .inr (.ireturn, 3, 0, 0, []))]
def b49_12 : List kIt := [(12, .inl (.aload_n 0, 0, 0, 0)), (13, .inl (.getfield 29, 4, 4, 0)), (16, .inl (.istore 4, 0, 0, 0)), (18, .inl (.aload_n 0, 0, 0, 0)), (19, .inl (.dup, 0, 0, 0)), (20, .inl (.getfield 29, 4, 4, 0)), (23, .inl (.iconst 1, 0, 0, 0)), (24, .inl (.iadd, 0, 0, 0)), (25, .inl (.putfield 29, 4, 4, 0)), (28, .inl (.aload_n 0, 0, 0, 0)), (29, .inl (.getfield 15, 4, 2, 0)), (32, .inl (.iload 4, 0, 0, 0)), (34, .inl (.iload_n 1, 0, 0, 0)), (35, .inl (.iastore, 0, 0, 0)), (36, .inl (.iconst 4, 0, 0, 0)), (37, .inl (.istore 5, 0, 0, 0)), (39, .inr (.nop, 1, 39, 0, []))]
def b49_39 : List kIt := [(39, .inl (.iload 5, 0, 0, 0)), (41, .inl (.bipush 8, 0, 0, 0)), (43, .inr (.if_icmp .gt 47, 0, 90, 0, [])), (46, .inl (.aload_n 0, 0, 0, 0)), (47, .inl (.aload_n 0, 0, 0, 0)), (48, .inl (.iload 4, 0, 0, 0)), (50, .inl (.iload 5, 0, 0, 0)), (52, .inr (.invokevirtual 36, 4, 43, 3, [])), (55, .inr (.nop, 1, 55, 0, []))]
def b49_55 : List kIt := [(55, .inl (.iload 5, 0, 0, 0)), (57, .inl (.iconst 4, 0, 0, 0)), (58, .inr (.if_icmp .ne 7, 0, 65, 0, [])), (61, .inl (.iload_n 2, 0, 0, 0)), (62, .inr (.goto 19, 1, 81, 0, []))]
def b49_65 : List kIt := [(65, .inl (.iload 5, 0, 0, 0)), (67, .inl (.iconst 5, 0, 0, 0)), (68, .inr (.if_icmp .ne 7, 0, 75, 0, [])), (71, .inl (.iload_n 3, 0, 0, 0)), (72, .inr (.goto 9, 1, 81, 0, []))]
def b49_75 : List kIt := [(75, .inl (.getstatic 22, 1002, 0, 0)), (78, .inl (.iload 5, 0, 0, 0)), (80, .inl (.iaload, 0, 0, 0)), (81, .inr (.nop, 1, 81, 0, []))]
def b49_81 : List kIt := [(81, .inr (.invokevirtual 44, 4, 45, 3, [])), (84, .inr (.nop, 1, 84, 0, []))]
def b49_84 : List kIt := [(84, .inl (.iinc 5 1, 0, 0, 0)), (87, .inr (.goto (-48), 1, 39, 0, []))]
def b49_90 : List kIt := [(90, .inl (.iload 4, 0, 0, 0)), (92, .inr (.ireturn, 3, 0, 0, []))]
def c49 : List (Nat × List kIt) := [(0, b49_0), (12, b49_12), (39, b49_39), (55, b49_55), (65, b49_65), (75, b49_75), (81, b49_81), (84, b49_84), (90, b49_90)]
-- 50: PennyALap$Folk.lapTakes
def b50_0 : List kIt := [(0, .inl (.aload_n 0, 0, 0, 0)), (1, .inl (.iload_n 1, 0, 0, 0)), (2, .inl (.iconst 0, 0, 0, 0)), (3, .inr (.invokevirtual 61, 4, 46, 3, [])), (6, .inr (.nop, 1, 6, 0, []))]
def b50_6 : List kIt := [(6, .inl (.istore 4, 0, 0, 0)), (8, .inl (.aload_n 0, 0, 0, 0)), (9, .inl (.iload_n 1, 0, 0, 0)), (10, .inl (.iconst 1, 0, 0, 0)), (11, .inr (.invokevirtual 61, 4, 46, 3, [])), (14, .inr (.nop, 1, 14, 0, []))]
def b50_14 : List kIt := [(14, .inl (.istore 5, 0, 0, 0)), (16, .inl (.aload_n 0, 0, 0, 0)), (17, .inl (.iconst 0, 0, 0, 0)), (18, .inl (.bipush 9, 0, 0, 0)), (20, .inr (.invokevirtual 61, 4, 46, 3, [])), (23, .inr (.nop, 1, 23, 0, []))]
def b50_23 : List kIt := [(23, .inl (.istore 6, 0, 0, 0)), (25, .inl (.iload 4, 0, 0, 0)), (27, .inl (.iload 5, 0, 0, 0)), (29, .inl (.iload_n 2, 0, 0, 0)), (30, .inl (.imul, 0, 0, 0)), (31, .inl (.iconst 4, 0, 0, 0)), (32, .inl (.idiv, 0, 0, 0)), (33, .inl (.iadd, 0, 0, 0)), (34, .inl (.iload 6, 0, 0, 0)), (36, .inl (.iadd, 0, 0, 0)), (37, .inl (.istore 7, 0, 0, 0)), (39, .inl (.aload_n 0, 0, 0, 0)), (40, .inl (.getfield 18, 4, 0, 0)), (43, .inr (.invokevirtual 64, 4, 72, 1, [])), (46, .inr (.nop, 1, 46, 0, []))]
def b50_46 : List kIt := [(46, .inr (.ifCond .eq 28, 0, 74, 0, [])), (49, .inl (.aload_n 0, 0, 0, 0)), (50, .inl (.getfield 18, 4, 0, 0)), (53, .inl (.iload_n 1, 0, 0, 0)), (54, .inl (.iload 4, 0, 0, 0)), (56, .inl (.iload 5, 0, 0, 0)), (58, .inl (.iload 6, 0, 0, 0)), (60, .inr (.invokevirtual 70, 4, 73, 5, [])), (63, .inr (.nop, 1, 63, 0, []))]
def b50_63 : List kIt := [(63, .inl (.aload_n 0, 0, 0, 0)), (64, .inl (.getfield 18, 4, 0, 0)), (67, .inl (.iload_n 2, 0, 0, 0)), (68, .inl (.iload_n 3, 0, 0, 0)), (69, .inr (.invokevirtual 74, 4, 74, 3, [])), (72, .inr (.nop, 1, 72, 0, []))]
def b50_72 : List kIt := [(72, .inl (.istore 7, 0, 0, 0)), (74, .inr (.nop, 1, 74, 0, []))]
def b50_74 : List kIt := [(74, .inl (.iconst 1, 0, 0, 0)), (75, .inl (.bipush 99, 0, 0, 0)), (77, .inl (.iload 7, 0, 0, 0)), (79, .inl (.invokestatic 77, 2, 0, 0)), (82, .inl (.invokestatic 82, 1, 0, 0)), (85, .inr (.ireturn, 3, 0, 0, []))]
def c50 : List (Nat × List kIt) := [(0, b50_0), (6, b50_6), (14, b50_14), (23, b50_23), (46, b50_46), (63, b50_63), (72, b50_72), (74, b50_74)]
-- 51: PennyALap$Folk.minutesOfLaps
def b51_0 : List kIt := [(0, .inl (.iconst 0, 0, 0, 0)), (1, .inl (.istore_n 3, 0, 0, 0)), (2, .inl (.iconst 0, 0, 0, 0)), (3, .inl (.istore 4, 0, 0, 0)), (5, .inr (.nop, 1, 5, 0, []))]
def b51_5 : List kIt := [(5, .inl (.iload 4, 0, 0, 0)), (7, .inl (.iload_n 2, 0, 0, 0)), (8, .inr (.if_icmp .ge 20, 0, 28, 0, [])), (11, .inl (.iload_n 3, 0, 0, 0)), (12, .inl (.aload_n 0, 0, 0, 0)), (13, .inl (.iload_n 1, 0, 0, 0)), (14, .inl (.iload 4, 0, 0, 0)), (16, .inl (.iload_n 3, 0, 0, 0)), (17, .inr (.invokevirtual 85, 4, 50, 4, [])), (20, .inr (.nop, 1, 20, 0, []))]
def b51_20 : List kIt := [(20, .inl (.iadd, 0, 0, 0)), (21, .inl (.istore_n 3, 0, 0, 0)), (22, .inl (.iinc 4 1, 0, 0, 0)), (25, .inr (.goto (-20), 1, 5, 0, []))]
def b51_28 : List kIt := [(28, .inl (.iload_n 3, 0, 0, 0)), (29, .inr (.ireturn, 3, 0, 0, []))]
def c51 : List (Nat × List kIt) := [(0, b51_0), (5, b51_5), (20, b51_20), (28, b51_28)]
-- 52: PennyALap$Folk.owedWithoutTop
def b52_0 : List kIt := [(0, .inl (.aload_n 0, 0, 0, 0)), (1, .inl (.iload_n 1, 0, 0, 0)), (2, .inl (.iconst 4, 0, 0, 0)), (3, .inr (.invokevirtual 36, 4, 43, 3, [])), (6, .inr (.nop, 1, 6, 0, []))]
def b52_6 : List kIt := [(6, .inl (.istore_n 3, 0, 0, 0)), (7, .inl (.iload_n 3, 0, 0, 0)), (8, .inr (.ifCond .ge 5, 0, 13, 0, [])), (11, .inl (.iconst 0, 0, 0, 0)), (12, .inr (.ireturn, 3, 0, 0, []))]
def b52_13 : List kIt := [(13, .inl (.iload_n 2, 0, 0, 0)), (14, .inl (.aload_n 0, 0, 0, 0)), (15, .inl (.getfield 11, 4, 1, 0)), (18, .inl (.iload_n 3, 0, 0, 0)), (19, .inl (.bipush 6, 0, 0, 0)), (21, .inl (.iadd, 0, 0, 0)), (22, .inl (.iconst 4, 0, 0, 0)), (23, .inl (.isub, 0, 0, 0)), (24, .inl (.iaload, 0, 0, 0)), (25, .inr (.if_icmp .lt 16, 0, 41, 0, [])), (28, .inl (.aload_n 0, 0, 0, 0)), (29, .inl (.getfield 11, 4, 1, 0)), (32, .inl (.iload_n 3, 0, 0, 0)), (33, .inl (.iconst 5, 0, 0, 0)), (34, .inl (.iadd, 0, 0, 0)), (35, .inl (.iconst 4, 0, 0, 0)), (36, .inl (.isub, 0, 0, 0)), (37, .inl (.iaload, 0, 0, 0)), (38, .inr (.goto 4, 1, 42, 0, []))]
def b52_41 : List kIt := [(41, .inl (.iconst 0, 0, 0, 0)), (42, .inr (.nop, 1, 42, 0, []))]
def b52_42 : List kIt := [(42, .inl (.istore 4, 0, 0, 0)), (44, .inl (.aload_n 0, 0, 0, 0)), (45, .inl (.getfield 11, 4, 1, 0)), (48, .inl (.iload_n 3, 0, 0, 0)), (49, .inl (.iaload, 0, 0, 0)), (50, .inl (.iload_n 2, 0, 0, 0)), (51, .inl (.imul, 0, 0, 0)), (52, .inl (.iload 4, 0, 0, 0)), (54, .inl (.iadd, 0, 0, 0)), (55, .inr (.ireturn, 3, 0, 0, []))]
def c52 : List (Nat × List kIt) := [(0, b52_0), (6, b52_6), (13, b52_13), (41, b52_41), (42, b52_42)]
-- 53: PennyALap$Folk.owedBy
def b53_0 : List kIt := [(0, .inl (.aload_n 0, 0, 0, 0)), (1, .inl (.iload_n 1, 0, 0, 0)), (2, .inl (.iload_n 2, 0, 0, 0)), (3, .inr (.invokevirtual 89, 4, 52, 3, [])), (6, .inr (.nop, 1, 6, 0, []))]
def b53_6 : List kIt := [(6, .inl (.istore_n 3, 0, 0, 0)), (7, .inl (.aload_n 0, 0, 0, 0)), (8, .inl (.iload_n 1, 0, 0, 0)), (9, .inl (.bipush 7, 0, 0, 0)), (11, .inr (.invokevirtual 61, 4, 46, 3, [])), (14, .inr (.nop, 1, 14, 0, []))]
def b53_14 : List kIt := [(14, .inl (.istore 4, 0, 0, 0)), (16, .inl (.iload 4, 0, 0, 0)), (18, .inr (.ifCond .le 12, 0, 30, 0, [])), (21, .inl (.iload_n 3, 0, 0, 0)), (22, .inl (.iload 4, 0, 0, 0)), (24, .inl (.invokestatic 77, 2, 0, 0)), (27, .inr (.goto 4, 1, 31, 0, []))]
def b53_30 : List kIt := [(30, .inl (.iload_n 3, 0, 0, 0)), (31, .inr (.nop, 1, 31, 0, []))]
def b53_31 : List kIt := [(31, .inr (.ireturn, 3, 0, 0, []))]
def c53 : List (Nat × List kIt) := [(0, b53_0), (6, b53_6), (14, b53_14), (30, b53_30), (31, b53_31)]
-- 54: PennyALap$Folk.paidBy
def b54_0 : List kIt := [(0, .inl (.aload_n 0, 0, 0, 0)), (1, .inl (.iload_n 1, 0, 0, 0)), (2, .inl (.iload_n 2, 0, 0, 0)), (3, .inr (.invokevirtual 92, 4, 53, 3, [])), (6, .inr (.nop, 1, 6, 0, []))]
def b54_6 : List kIt := [(6, .inl (.aload_n 0, 0, 0, 0)), (7, .inl (.iload_n 1, 0, 0, 0)), (8, .inl (.bipush 8, 0, 0, 0)), (10, .inr (.invokevirtual 61, 4, 46, 3, [])), (13, .inr (.nop, 1, 13, 0, []))]
def b54_13 : List kIt := [(13, .inl (.invokestatic 77, 2, 0, 0)), (16, .inr (.ireturn, 3, 0, 0, []))]
def c54 : List (Nat × List kIt) := [(0, b54_0), (6, b54_6), (13, b54_13)]
-- 55: PennyALap$Folk.isSurprised
def b55_0 : List kIt := [(0, .inl (.aload_n 0, 0, 0, 0)), (1, .inl (.iload_n 1, 0, 0, 0)), (2, .inl (.iload_n 2, 0, 0, 0)), (3, .inr (.invokevirtual 92, 4, 53, 3, [])), (6, .inr (.nop, 1, 6, 0, []))]
def b55_6 : List kIt := [(6, .inl (.aload_n 0, 0, 0, 0)), (7, .inl (.iload_n 1, 0, 0, 0)), (8, .inl (.bipush 8, 0, 0, 0)), (10, .inr (.invokevirtual 61, 4, 46, 3, [])), (13, .inr (.nop, 1, 13, 0, []))]
def b55_13 : List kIt := [(13, .inr (.if_icmp .le 7, 0, 20, 0, [])), (16, .inl (.iconst 1, 0, 0, 0)), (17, .inr (.goto 4, 1, 21, 0, []))]
def b55_20 : List kIt := [(20, .inl (.iconst 0, 0, 0, 0)), (21, .inr (.nop, 1, 21, 0, []))]
def b55_21 : List kIt := [(21, .inr (.ireturn, 3, 1, 0, []))]
def c55 : List (Nat × List kIt) := [(0, b55_0), (6, b55_6), (13, b55_13), (20, b55_20), (21, b55_21)]
-- 56: PennyALap$Folk.owedTo
def b56_0 : List kIt := [(0, .inl (.iconst 0, 0, 0, 0)), (1, .inl (.istore_n 3, 0, 0, 0)), (2, .inl (.iconst 0, 0, 0, 0)), (3, .inl (.istore 4, 0, 0, 0)), (5, .inr (.nop, 1, 5, 0, []))]
def b56_5 : List kIt := [(5, .inl (.iload 4, 0, 0, 0)), (7, .inl (.aload_n 0, 0, 0, 0)), (8, .inl (.getfield 29, 4, 4, 0)), (11, .inr (.if_icmp .ge 34, 0, 45, 0, [])), (14, .inl (.iload_n 3, 0, 0, 0)), (15, .inl (.aload_n 0, 0, 0, 0)), (16, .inl (.getfield 15, 4, 2, 0)), (19, .inl (.iload 4, 0, 0, 0)), (21, .inl (.iaload, 0, 0, 0)), (22, .inl (.iload_n 1, 0, 0, 0)), (23, .inr (.if_icmp .ne 13, 0, 36, 0, [])), (26, .inl (.aload_n 0, 0, 0, 0)), (27, .inl (.iload 4, 0, 0, 0)), (29, .inl (.iload_n 2, 0, 0, 0)), (30, .inr (.invokevirtual 92, 4, 53, 3, [])), (33, .inr (.nop, 1, 33, 0, []))]
def b56_33 : List kIt := [(33, .inr (.goto 4, 1, 37, 0, []))]
def b56_36 : List kIt := [(36, .inl (.iconst 0, 0, 0, 0)), (37, .inr (.nop, 1, 37, 0, []))]
def b56_37 : List kIt := [(37, .inl (.iadd, 0, 0, 0)), (38, .inl (.istore_n 3, 0, 0, 0)), (39, .inl (.iinc 4 1, 0, 0, 0)), (42, .inr (.goto (-37), 1, 5, 0, []))]
def b56_45 : List kIt := [(45, .inl (.iload_n 3, 0, 0, 0)), (46, .inr (.ireturn, 3, 0, 0, []))]
def c56 : List (Nat × List kIt) := [(0, b56_0), (5, b56_5), (33, b56_33), (36, b56_36), (37, b56_37), (45, b56_45)]
-- 57: PennyALap$Folk.paidTo
def b57_0 : List kIt := [(0, .inl (.iconst 0, 0, 0, 0)), (1, .inl (.istore_n 3, 0, 0, 0)), (2, .inl (.iconst 0, 0, 0, 0)), (3, .inl (.istore 4, 0, 0, 0)), (5, .inr (.nop, 1, 5, 0, []))]
def b57_5 : List kIt := [(5, .inl (.iload 4, 0, 0, 0)), (7, .inl (.aload_n 0, 0, 0, 0)), (8, .inl (.getfield 29, 4, 4, 0)), (11, .inr (.if_icmp .ge 34, 0, 45, 0, [])), (14, .inl (.iload_n 3, 0, 0, 0)), (15, .inl (.aload_n 0, 0, 0, 0)), (16, .inl (.getfield 15, 4, 2, 0)), (19, .inl (.iload 4, 0, 0, 0)), (21, .inl (.iaload, 0, 0, 0)), (22, .inl (.iload_n 1, 0, 0, 0)), (23, .inr (.if_icmp .ne 13, 0, 36, 0, [])), (26, .inl (.aload_n 0, 0, 0, 0)), (27, .inl (.iload 4, 0, 0, 0)), (29, .inl (.iload_n 2, 0, 0, 0)), (30, .inr (.invokevirtual 95, 4, 54, 3, [])), (33, .inr (.nop, 1, 33, 0, []))]
def b57_33 : List kIt := [(33, .inr (.goto 4, 1, 37, 0, []))]
def b57_36 : List kIt := [(36, .inl (.iconst 0, 0, 0, 0)), (37, .inr (.nop, 1, 37, 0, []))]
def b57_37 : List kIt := [(37, .inl (.iadd, 0, 0, 0)), (38, .inl (.istore_n 3, 0, 0, 0)), (39, .inl (.iinc 4 1, 0, 0, 0)), (42, .inr (.goto (-37), 1, 5, 0, []))]
def b57_45 : List kIt := [(45, .inl (.iload_n 3, 0, 0, 0)), (46, .inr (.ireturn, 3, 0, 0, []))]
def c57 : List (Nat × List kIt) := [(0, b57_0), (5, b57_5), (33, b57_33), (36, b57_36), (37, b57_37), (45, b57_45)]
-- 58: PennyALap$Law.fed
def b58_0 : List kIt := [(0, .inl (.aload_n 0, 0, 0, 0)), (1, .inl (.getfield 27, 5, 1, 0)), (4, .inr (.ireturn, 3, 0, 0, []))]
def c58 : List (Nat × List kIt) := [(0, b58_0)]
-- 59: PennyALap$Law.takeByte
def b59_0 : List kIt := [(0, .inl (.aload_n 0, 0, 0, 0)), (1, .inl (.getfield 27, 5, 1, 0)), (4, .inl (.bipush 120, 0, 0, 0)), (6, .inr (.if_icmp .lt 6, 0, 12, 0, [])), (9, .inl (.bipush (-3), 0, 0, 0)), (11, .inr (.ireturn, 3, 0, 0, []))]
def b59_12 : List kIt := [(12, .inl (.aload_n 0, 0, 0, 0)), (13, .inl (.getfield 11, 5, 0, 0)), (16, .inl (.aload_n 0, 0, 0, 0)), (17, .inl (.getfield 27, 5, 1, 0)), (20, .inl (.iload_n 1, 0, 0, 0)), (21, .inl (.iastore, 0, 0, 0)), (22, .inl (.aload_n 0, 0, 0, 0)), (23, .inl (.dup, 0, 0, 0)), (24, .inl (.getfield 27, 5, 1, 0)), (27, .inl (.iconst 1, 0, 0, 0)), (28, .inl (.iadd, 0, 0, 0)), (29, .inl (.putfield 27, 5, 1, 0)), (32, .inl (.aload_n 0, 0, 0, 0)), (33, .inl (.getfield 27, 5, 1, 0)), (36, .inr (.ireturn, 3, 0, 0, []))]
def c59 : List (Nat × List kIt) := [(0, b59_0), (12, b59_12)]
-- 60: PennyALap$Law.takeTape
def b60_0 : List kIt := [(0, .inl (.aload_n 0, 0, 0, 0)), (1, .inr (.invokevirtual 31, 4, 61, 1, [])), (4, .inr (.nop, 1, 4, 0, []))]
def b60_4 : List kIt := [(4, .inl (.istore_n 1, 0, 0, 0)), (5, .inl (.aload_n 0, 0, 0, 0)), (6, .inl (.iconst 0, 0, 0, 0)), (7, .inl (.putfield 27, 5, 1, 0)), (10, .inl (.iload_n 1, 0, 0, 0)), (11, .inr (.ifCond .ge 29, 0, 40, 0, [])), (14, .inl (.aload_n 0, 0, 0, 0)), (15, .inl (.getfield 15, 5, 3, 0)), (18, .inl (.astore_n 2, 0, 0, 0)), (19, .inl (.aload_n 0, 0, 0, 0)), (20, .inl (.aload_n 0, 0, 0, 0)), (21, .inl (.getfield 18, 5, 5, 0)), (24, .inl (.putfield 15, 5, 3, 2)), (27, .inl (.aload_n 0, 0, 0, 0)), (28, .inl (.aload_n 0, 0, 0, 0)), (29, .inl (.getfield 35, 5, 6, 0)), (32, .inl (.putfield 38, 5, 4, 0)), (35, .inl (.aload_n 0, 0, 0, 0)), (36, .inl (.aload_n 2, 0, 0, 0)), (37, .inl (.putfield 18, 5, 5, 2)), (40, .inr (.nop, 1, 40, 0, []))]
def b60_40 : List kIt := [(40, .inl (.iload_n 1, 0, 0, 0)), (41, .inr (.ireturn, 3, 0, 0, []))]
def c60 : List (Nat × List kIt) := [(0, b60_0), (4, b60_4), (40, b60_40)]
-- 61: PennyALap$Law.readLines
def b61_0 : List kIt := [(0, .inl (.aload_n 0, 0, 0, 0)), (1, .inl (.iconst 0, 0, 0, 0)), (2, .inl (.putfield 41, 5, 2, 0)), (5, .inl (.aload_n 0, 0, 0, 0)), (6, .inl (.iconst 0, 0, 0, 0)), (7, .inl (.putfield 35, 5, 6, 0)), (10, .inl (.iconst 0, 0, 0, 0)), (11, .inl (.istore_n 1, 0, 0, 0)), (12, .inr (.nop, 1, 12, 0, []))]
def b61_12 : List kIt := [(12, .inl (.iload_n 1, 0, 0, 0)), (13, .inl (.bipush 120, 0, 0, 0)), (15, .inr (.if_icmp .gt 63, 0, 78, 0, [])), (18, .inl (.aload_n 0, 0, 0, 0)), (19, .inr (.invokevirtual 44, 4, 62, 1, [])), (22, .inr (.nop, 1, 22, 0, []))]
def b61_22 : List kIt := [(22, .inr (.ifCond .ne 8, 0, 30, 0, [])), (25, .inl (.aload_n 0, 0, 0, 0)), (26, .inl (.getfield 41, 5, 2, 0)), (29, .inr (.ireturn, 3, 0, 0, []))]
def b61_30 : List kIt := [(30, .inl (.aload_n 0, 0, 0, 0)), (31, .inl (.getfield 41, 5, 2, 0)), (34, .inl (.aload_n 0, 0, 0, 0)), (35, .inl (.getfield 27, 5, 1, 0)), (38, .inr (.if_icmp .lt 5, 0, 43, 0, [])), (41, .inl (.iconst (-1), 0, 0, 0)), (42, .inr (.ireturn, 3, 0, 0, []))]
def b61_43 : List kIt := [(43, .inl (.aload_n 0, 0, 0, 0)), (44, .inl (.getfield 11, 5, 0, 0)), (47, .inl (.aload_n 0, 0, 0, 0)), (48, .inl (.getfield 41, 5, 2, 0)), (51, .inl (.iaload, 0, 0, 0)), (52, .inl (.bipush 59, 0, 0, 0)), (54, .inr (.if_icmp .eq 8, 0, 62, 0, [])), (57, .inl (.aload_n 0, 0, 0, 0)), (58, .inl (.getfield 41, 5, 2, 0)), (61, .inr (.ireturn, 3, 0, 0, []))]
def b61_62 : List kIt := [(62, .inl (.aload_n 0, 0, 0, 0)), (63, .inl (.dup, 0, 0, 0)), (64, .inl (.getfield 41, 5, 2, 0)), (67, .inl (.iconst 1, 0, 0, 0)), (68, .inl (.iadd, 0, 0, 0)), (69, .inl (.putfield 41, 5, 2, 0)), (72, .inl (.iinc 1 1, 0, 0, 0)), (75, .inr (.goto (-63), 1, 12, 0, []))]
def b61_78 : List kIt := [(78, .inl (.aload_n 0, 0, 0, 0)), (79, .inl (.getfield 41, 5, 2, 0)), (82, .inr (.ireturn, 3, 0, 0, []))]
def c61 : List (Nat × List kIt) := [(0, b61_0), (12, b61_12), (22, b61_22), (30, b61_30), (43, b61_43), (62, b61_62), (78, b61_78)]
-- 62: PennyALap$Law.readLine
def b62_0 : List kIt := [(0, .inl (.aload_n 0, 0, 0, 0)), (1, .inl (.iconst 0, 0, 0, 0)), (2, .inl (.iconst 0, 0, 0, 0)), (3, .inr (.invokevirtual 48, 4, 63, 3, [])), (6, .inr (.nop, 1, 6, 0, []))]
def b62_6 : List kIt := [(6, .inr (.ifCond .ne 5, 0, 11, 0, [])), (9, .inl (.iconst 0, 0, 0, 0)), (10, .inr (.ireturn, 3, 1, 0, []))]
def b62_11 : List kIt := [(11, .inl (.aload_n 0, 0, 0, 0)), (12, .inr (.invokevirtual 52, 4, 67, 1, [])), (15, .inr (.nop, 1, 15, 0, []))]
def b62_15 : List kIt := [(15, .inl (.bipush 63, 0, 0, 0)), (17, .inr (.if_icmp .eq 11, 0, 28, 0, [])), (20, .inl (.aload_n 0, 0, 0, 0)), (21, .inl (.bipush (-59), 0, 0, 0)), (23, .inr (.invokevirtual 55, 4, 68, 2, [])), (26, .inr (.nop, 1, 26, 0, []))]
def b62_26 : List kIt := [(26, .inl (.iconst 1, 0, 0, 0)), (27, .inr (.ireturn, 3, 1, 0, []))]
def b62_28 : List kIt := [(28, .inl (.aload_n 0, 0, 0, 0)), (29, .inl (.dup, 0, 0, 0)), (30, .inl (.getfield 41, 5, 2, 0)), (33, .inl (.iconst 1, 0, 0, 0)), (34, .inl (.iadd, 0, 0, 0)), (35, .inl (.putfield 41, 5, 2, 0)), (38, .inl (.aload_n 0, 0, 0, 0)), (39, .inl (.iconst 0, 0, 0, 0)), (40, .inl (.iconst 0, 0, 0, 0)), (41, .inr (.invokevirtual 48, 4, 63, 3, [])), (44, .inr (.nop, 1, 44, 0, []))]
def b62_44 : List kIt := [(44, .inr (.ifCond .ne 5, 0, 49, 0, [])), (47, .inl (.iconst 0, 0, 0, 0)), (48, .inr (.ireturn, 3, 1, 0, []))]
def b62_49 : List kIt := [(49, .inl (.aload_n 0, 0, 0, 0)), (50, .inl (.bipush (-63), 0, 0, 0)), (52, .inr (.invokevirtual 55, 4, 68, 2, [])), (55, .inr (.nop, 1, 55, 0, []))]
def b62_55 : List kIt := [(55, .inl (.iconst 1, 0, 0, 0)), (56, .inr (.ireturn, 3, 1, 0, []))]
def c62 : List (Nat × List kIt) := [(0, b62_0), (6, b62_6), (11, b62_11), (15, b62_15), (26, b62_26), (28, b62_28), (44, b62_44), (49, b62_49), (55, b62_55)]
-- 63: PennyALap$Law.readJoined
def b63_0 : List kIt := [(0, .inl (.iload_n 1, 0, 0, 0)), (1, .inl (.iconst 5, 0, 0, 0)), (2, .inr (.if_icmp .lt 9, 0, 11, 0, [])), (5, .inl (.aload_n 0, 0, 0, 0)), (6, .inl (.iload_n 2, 0, 0, 0)), (7, .inr (.invokevirtual 59, 4, 64, 2, [])), (10, .inr (.nop, 1, 10, 0, []))]
def b63_10 : List kIt := [(10, .inr (.ireturn, 3, 1, 0, []))]
def b63_11 : List kIt := [(11, .inl (.aload_n 0, 0, 0, 0)), (12, .inl (.iload_n 1, 0, 0, 0)), (13, .inl (.iconst 1, 0, 0, 0)), (14, .inl (.iadd, 0, 0, 0)), (15, .inl (.iload_n 2, 0, 0, 0)), (16, .inr (.invokevirtual 48, 4, 63, 3, [])), (19, .inr (.nop, 1, 19, 0, []))]
def b63_19 : List kIt := [(19, .inr (.ifCond .ne 5, 0, 24, 0, [])), (22, .inl (.iconst 0, 0, 0, 0)), (23, .inr (.ireturn, 3, 1, 0, []))]
def b63_24 : List kIt := [(24, .inl (.iload_n 1, 0, 0, 0)), (25, .inl (.iconst 2, 0, 0, 0)), (26, .inr (.if_icmp .ne 7, 0, 33, 0, [])), (29, .inl (.iconst 1, 0, 0, 0)), (30, .inr (.goto 5, 1, 35, 0, []))]
def b63_33 : List kIt := [(33, .inl (.bipush 120, 0, 0, 0)), (35, .inr (.nop, 1, 35, 0, []))]
def b63_35 : List kIt := [(35, .inl (.istore_n 3, 0, 0, 0)), (36, .inl (.iconst 0, 0, 0, 0)), (37, .inl (.istore 4, 0, 0, 0)), (39, .inr (.nop, 1, 39, 0, []))]
def b63_39 : List kIt := [(39, .inl (.iload 4, 0, 0, 0)), (41, .inl (.iload_n 3, 0, 0, 0)), (42, .inr (.if_icmp .ge 56, 0, 98, 0, [])), (45, .inl (.aload_n 0, 0, 0, 0)), (46, .inr (.invokevirtual 52, 4, 67, 1, [])), (49, .inr (.nop, 1, 49, 0, []))]
def b63_49 : List kIt := [(49, .inr (.invokestatic 63, 4, 71, 1, [])), (52, .inr (.nop, 1, 52, 0, []))]
def b63_52 : List kIt := [(52, .inl (.iload_n 1, 0, 0, 0)), (53, .inr (.if_icmp .ne 45, 0, 98, 0, [])), (56, .inl (.aload_n 0, 0, 0, 0)), (57, .inr (.invokevirtual 52, 4, 67, 1, [])), (60, .inr (.nop, 1, 60, 0, []))]
def b63_60 : List kIt := [(60, .inl (.istore 5, 0, 0, 0)), (62, .inl (.aload_n 0, 0, 0, 0)), (63, .inl (.dup, 0, 0, 0)), (64, .inl (.getfield 41, 5, 2, 0)), (67, .inl (.iconst 1, 0, 0, 0)), (68, .inl (.iadd, 0, 0, 0)), (69, .inl (.putfield 41, 5, 2, 0)), (72, .inl (.aload_n 0, 0, 0, 0)), (73, .inl (.iload_n 1, 0, 0, 0)), (74, .inl (.iconst 1, 0, 0, 0)), (75, .inl (.iadd, 0, 0, 0)), (76, .inl (.iload_n 2, 0, 0, 0)), (77, .inr (.invokevirtual 48, 4, 63, 3, [])), (80, .inr (.nop, 1, 80, 0, []))]
def b63_80 : List kIt := [(80, .inr (.ifCond .ne 5, 0, 85, 0, [])), (83, .inl (.iconst 0, 0, 0, 0)), (84, .inr (.ireturn, 3, 1, 0, []))]
def b63_85 : List kIt := [(85, .inl (.aload_n 0, 0, 0, 0)), (86, .inl (.iload 5, 0, 0, 0)), (88, .inl (.ineg, 0, 0, 0)), (89, .inr (.invokevirtual 55, 4, 68, 2, [])), (92, .inr (.nop, 1, 92, 0, []))]
def b63_92 : List kIt := [(92, .inl (.iinc 4 1, 0, 0, 0)), (95, .inr (.goto (-56), 1, 39, 0, []))]
def b63_98 : List kIt := [(98, .inl (.iconst 1, 0, 0, 0)), (99, .inr (.ireturn, 3, 1, 0, []))]
def c63 : List (Nat × List kIt) := [(0, b63_0), (10, b63_10), (11, b63_11), (19, b63_19), (24, b63_24), (33, b63_33), (35, b63_35), (39, b63_39), (49, b63_49), (52, b63_52), (60, b63_60), (80, b63_80), (85, b63_85), (92, b63_92), (98, b63_98)]
-- 64: PennyALap$Law.readOperand
def b64_0 : List kIt := [(0, .inl (.aload_n 0, 0, 0, 0)), (1, .inr (.invokevirtual 52, 4, 67, 1, [])), (4, .inr (.nop, 1, 4, 0, []))]
def b64_4 : List kIt := [(4, .inl (.istore_n 2, 0, 0, 0)), (5, .inl (.iload_n 2, 0, 0, 0)), (6, .inr (.invokestatic 67, 4, 69, 1, [])), (9, .inr (.nop, 1, 9, 0, []))]
def b64_9 : List kIt := [(9, .inr (.ifCond .eq 9, 0, 18, 0, [])), (12, .inl (.aload_n 0, 0, 0, 0)), (13, .inr (.invokevirtual 70, 4, 66, 1, [])), (16, .inr (.nop, 1, 16, 0, []))]
def b64_16 : List kIt := [(16, .inl (.iconst 1, 0, 0, 0)), (17, .inr (.ireturn, 3, 1, 0, []))]
def b64_18 : List kIt := [(18, .inl (.iload_n 2, 0, 0, 0)), (19, .inr (.invokestatic 73, 4, 70, 1, [])), (22, .inr (.nop, 1, 22, 0, []))]
def b64_22 : List kIt := [(22, .inl (.istore_n 3, 0, 0, 0)), (23, .inl (.iload_n 3, 0, 0, 0)), (24, .inr (.ifCond .lt 22, 0, 46, 0, [])), (27, .inl (.aload_n 0, 0, 0, 0)), (28, .inl (.dup, 0, 0, 0)), (29, .inl (.getfield 41, 5, 2, 0)), (32, .inl (.iconst 1, 0, 0, 0)), (33, .inl (.iadd, 0, 0, 0)), (34, .inl (.putfield 41, 5, 2, 0)), (37, .inl (.aload_n 0, 0, 0, 0)), (38, .inl (.iconst (-1), 0, 0, 0)), (39, .inl (.iload_n 3, 0, 0, 0)), (40, .inl (.isub, 0, 0, 0)), (41, .inr (.invokevirtual 55, 4, 68, 2, [])), (44, .inr (.nop, 1, 44, 0, []))]
def b64_44 : List kIt := [(44, .inl (.iconst 1, 0, 0, 0)), (45, .inr (.ireturn, 3, 1, 0, []))]
def b64_46 : List kIt := [(46, .inl (.iload_n 2, 0, 0, 0)), (47, .inl (.bipush 40, 0, 0, 0)), (49, .inr (.if_icmp .eq 15, 0, 64, 0, [])), (52, .inl (.iload_n 2, 0, 0, 0)), (53, .inl (.bipush 33, 0, 0, 0)), (55, .inr (.if_icmp .eq 9, 0, 64, 0, [])), (58, .inl (.iload_n 2, 0, 0, 0)), (59, .inl (.bipush 45, 0, 0, 0)), (61, .inr (.if_icmp .ne 9, 0, 70, 0, [])), (64, .inr (.nop, 1, 64, 0, []))]
def b64_64 : List kIt := [(64, .inl (.iload_n 1, 0, 0, 0)), (65, .inl (.bipush 6, 0, 0, 0)), (67, .inr (.if_icmp .lt 5, 0, 72, 0, [])), (70, .inr (.nop, 1, 70, 0, []))]
def b64_70 : List kIt := [(70, .inl (.iconst 0, 0, 0, 0)), (71, .inr (.ireturn, 3, 1, 0, []))]
def b64_72 : List kIt := [(72, .inl (.aload_n 0, 0, 0, 0)), (73, .inl (.dup, 0, 0, 0)), (74, .inl (.getfield 41, 5, 2, 0)), (77, .inl (.iconst 1, 0, 0, 0)), (78, .inl (.iadd, 0, 0, 0)), (79, .inl (.putfield 41, 5, 2, 0)), (82, .inl (.iload_n 2, 0, 0, 0)), (83, .inl (.bipush 40, 0, 0, 0)), (85, .inr (.if_icmp .ne 27, 0, 112, 0, [])), (88, .inl (.aload_n 0, 0, 0, 0)), (89, .inl (.iconst 0, 0, 0, 0)), (90, .inl (.iload_n 1, 0, 0, 0)), (91, .inl (.iconst 1, 0, 0, 0)), (92, .inl (.iadd, 0, 0, 0)), (93, .inr (.invokevirtual 48, 4, 63, 3, [])), (96, .inr (.nop, 1, 96, 0, []))]
def b64_96 : List kIt := [(96, .inr (.ifCond .eq 14, 0, 110, 0, [])), (99, .inl (.aload_n 0, 0, 0, 0)), (100, .inr (.invokevirtual 76, 4, 65, 1, [])), (103, .inr (.nop, 1, 103, 0, []))]
def b64_103 : List kIt := [(103, .inr (.ifCond .eq 7, 0, 110, 0, [])), (106, .inl (.iconst 1, 0, 0, 0)), (107, .inr (.goto 4, 1, 111, 0, []))]
def b64_110 : List kIt := [(110, .inl (.iconst 0, 0, 0, 0)), (111, .inr (.nop, 1, 111, 0, []))]
def b64_111 : List kIt := [(111, .inr (.ireturn, 3, 1, 0, []))]
def b64_112 : List kIt := [(112, .inl (.aload_n 0, 0, 0, 0)), (113, .inl (.iload_n 1, 0, 0, 0)), (114, .inl (.iconst 1, 0, 0, 0)), (115, .inl (.iadd, 0, 0, 0)), (116, .inr (.invokevirtual 59, 4, 64, 2, [])), (119, .inr (.nop, 1, 119, 0, []))]
def b64_119 : List kIt := [(119, .inr (.ifCond .ne 5, 0, 124, 0, [])), (122, .inl (.iconst 0, 0, 0, 0)), (123, .inr (.ireturn, 3, 1, 0, []))]
def b64_124 : List kIt := [(124, .inl (.aload_n 0, 0, 0, 0)), (125, .inl (.iload_n 2, 0, 0, 0)), (126, .inl (.bipush 33, 0, 0, 0)), (128, .inr (.if_icmp .ne 8, 0, 136, 0, [])), (131, .inl (.bipush (-33), 0, 0, 0)), (133, .inr (.goto 5, 1, 138, 0, []))]
def b64_136 : List kIt := [(136, .inl (.bipush (-110), 0, 0, 0)), (138, .inr (.nop, 1, 138, 0, []))]
def b64_138 : List kIt := [(138, .inr (.invokevirtual 55, 4, 68, 2, [])), (141, .inr (.nop, 1, 141, 0, []))]
def b64_141 : List kIt := [(141, .inl (.iconst 1, 0, 0, 0)), (142, .inr (.ireturn, 3, 1, 0, []))]
def c64 : List (Nat × List kIt) := [(0, b64_0), (4, b64_4), (9, b64_9), (16, b64_16), (18, b64_18), (22, b64_22), (44, b64_44), (46, b64_46), (64, b64_64), (70, b64_70), (72, b64_72), (96, b64_96), (103, b64_103), (110, b64_110), (111, b64_111), (112, b64_112), (119, b64_119), (124, b64_124), (136, b64_136), (138, b64_138), (141, b64_141)]
-- 65: PennyALap$Law.readClosing
def b65_0 : List kIt := [(0, .inl (.aload_n 0, 0, 0, 0)), (1, .inr (.invokevirtual 52, 4, 67, 1, [])), (4, .inr (.nop, 1, 4, 0, []))]
def b65_4 : List kIt := [(4, .inl (.bipush 41, 0, 0, 0)), (6, .inr (.if_icmp .ne 7, 0, 13, 0, [])), (9, .inl (.iconst 1, 0, 0, 0)), (10, .inr (.goto 4, 1, 14, 0, []))]
def b65_13 : List kIt := [(13, .inl (.iconst 0, 0, 0, 0)), (14, .inr (.nop, 1, 14, 0, []))]
def b65_14 : List kIt := [(14, .inl (.istore_n 1, 0, 0, 0)), (15, .inl (.aload_n 0, 0, 0, 0)), (16, .inl (.dup, 0, 0, 0)), (17, .inl (.getfield 41, 5, 2, 0)), (20, .inl (.iload_n 1, 0, 0, 0)), (21, .inr (.ifCond .eq 7, 0, 28, 0, [])), (24, .inl (.iconst 1, 0, 0, 0)), (25, .inr (.goto 4, 1, 29, 0, []))]
def b65_28 : List kIt := [(28, .inl (.iconst 0, 0, 0, 0)), (29, .inr (.nop, 1, 29, 0, []))]
def b65_29 : List kIt := [(29, .inl (.iadd, 0, 0, 0)), (30, .inl (.putfield 41, 5, 2, 0)), (33, .inl (.iload_n 1, 0, 0, 0)), (34, .inr (.ireturn, 3, 1, 0, []))]
def c65 : List (Nat × List kIt) := [(0, b65_0), (4, b65_4), (13, b65_13), (14, b65_14), (28, b65_28), (29, b65_29)]
-- 66: PennyALap$Law.readNumber
def b66_0 : List kIt := [(0, .inl (.iconst 0, 0, 0, 0)), (1, .inl (.istore_n 1, 0, 0, 0)), (2, .inl (.iconst 0, 0, 0, 0)), (3, .inl (.istore_n 2, 0, 0, 0)), (4, .inr (.nop, 1, 4, 0, []))]
def b66_4 : List kIt := [(4, .inl (.iload_n 2, 0, 0, 0)), (5, .inl (.iconst 4, 0, 0, 0)), (6, .inr (.if_icmp .ge 42, 0, 48, 0, [])), (9, .inl (.aload_n 0, 0, 0, 0)), (10, .inr (.invokevirtual 52, 4, 67, 1, [])), (13, .inr (.nop, 1, 13, 0, []))]
def b66_13 : List kIt := [(13, .inr (.invokestatic 67, 4, 69, 1, [])), (16, .inr (.nop, 1, 16, 0, []))]
def b66_16 : List kIt := [(16, .inr (.ifCond .eq 32, 0, 48, 0, [])), (19, .inl (.iload_n 1, 0, 0, 0)), (20, .inl (.bipush 10, 0, 0, 0)), (22, .inl (.imul, 0, 0, 0)), (23, .inl (.aload_n 0, 0, 0, 0)), (24, .inr (.invokevirtual 52, 4, 67, 1, [])), (27, .inr (.nop, 1, 27, 0, []))]
def b66_27 : List kIt := [(27, .inl (.iadd, 0, 0, 0)), (28, .inl (.bipush 48, 0, 0, 0)), (30, .inl (.isub, 0, 0, 0)), (31, .inl (.istore_n 1, 0, 0, 0)), (32, .inl (.aload_n 0, 0, 0, 0)), (33, .inl (.dup, 0, 0, 0)), (34, .inl (.getfield 41, 5, 2, 0)), (37, .inl (.iconst 1, 0, 0, 0)), (38, .inl (.iadd, 0, 0, 0)), (39, .inl (.putfield 41, 5, 2, 0)), (42, .inl (.iinc 2 1, 0, 0, 0)), (45, .inr (.goto (-41), 1, 4, 0, []))]
def b66_48 : List kIt := [(48, .inl (.aload_n 0, 0, 0, 0)), (49, .inl (.iload_n 1, 0, 0, 0)), (50, .inr (.invokevirtual 55, 4, 68, 2, [])), (53, .inr (.nop, 1, 53, 0, []))]
def b66_53 : List kIt := [(53, .inr (.return_, 3, 0, 0, []))]
def c66 : List (Nat × List kIt) := [(0, b66_0), (4, b66_4), (13, b66_13), (16, b66_16), (27, b66_27), (48, b66_48), (53, b66_53)]
-- 67: PennyALap$Law.sign
def b67_0 : List kIt := [(0, .inl (.aload_n 0, 0, 0, 0)), (1, .inl (.getfield 41, 5, 2, 0)), (4, .inl (.aload_n 0, 0, 0, 0)), (5, .inl (.getfield 27, 5, 1, 0)), (8, .inr (.if_icmp .ge 24, 0, 32, 0, [])), (11, .inl (.aload_n 0, 0, 0, 0)), (12, .inl (.getfield 41, 5, 2, 0)), (15, .inl (.bipush 120, 0, 0, 0)), (17, .inr (.if_icmp .ge 15, 0, 32, 0, [])), (20, .inl (.aload_n 0, 0, 0, 0)), (21, .inl (.getfield 11, 5, 0, 0)), (24, .inl (.aload_n 0, 0, 0, 0)), (25, .inl (.getfield 41, 5, 2, 0)), (28, .inl (.iaload, 0, 0, 0)), (29, .inr (.goto 4, 1, 33, 0, []))]
def b67_32 : List kIt := [(32, .inl (.iconst (-1), 0, 0, 0)), (33, .inr (.nop, 1, 33, 0, []))]
def b67_33 : List kIt := [(33, .inr (.ireturn, 3, 0, 0, []))]
def c67 : List (Nat × List kIt) := [(0, b67_0), (32, b67_32), (33, b67_33)]
-- 68: PennyALap$Law.write
def b68_0 : List kIt := [(0, .inl (.aload_n 0, 0, 0, 0)), (1, .inl (.getfield 35, 5, 6, 0)), (4, .inl (.aload_n 0, 0, 0, 0)), (5, .inl (.getfield 18, 5, 5, 0)), (8, .inl (.arraylength, 0, 0, 0)), (9, .inr (.if_icmp .ge 23, 0, 32, 0, [])), (12, .inl (.aload_n 0, 0, 0, 0)), (13, .inl (.getfield 18, 5, 5, 0)), (16, .inl (.aload_n 0, 0, 0, 0)), (17, .inl (.getfield 35, 5, 6, 0)), (20, .inl (.iload_n 1, 0, 0, 0)), (21, .inl (.iastore, 0, 0, 0)), (22, .inl (.aload_n 0, 0, 0, 0)), (23, .inl (.dup, 0, 0, 0)), (24, .inl (.getfield 35, 5, 6, 0)), (27, .inl (.iconst 1, 0, 0, 0)), (28, .inl (.iadd, 0, 0, 0)), (29, .inl (.putfield 35, 5, 6, 0)), (32, .inr (.nop, 1, 32, 0, []))]
def b68_32 : List kIt := [(32, .inr (.return_, 3, 0, 0, []))]
def c68 : List (Nat × List kIt) := [(0, b68_0), (32, b68_32)]
-- 69: PennyALap$Law.isDigit
def b69_0 : List kIt := [(0, .inl (.iload_n 0, 0, 0, 0)), (1, .inl (.bipush 48, 0, 0, 0)), (3, .inr (.if_icmp .lt 13, 0, 16, 0, [])), (6, .inl (.iload_n 0, 0, 0, 0)), (7, .inl (.bipush 57, 0, 0, 0)), (9, .inr (.if_icmp .gt 7, 0, 16, 0, [])), (12, .inl (.iconst 1, 0, 0, 0)), (13, .inr (.goto 4, 1, 17, 0, []))]
def b69_16 : List kIt := [(16, .inl (.iconst 0, 0, 0, 0)), (17, .inr (.nop, 1, 17, 0, []))]
def b69_17 : List kIt := [(17, .inr (.ireturn, 3, 1, 0, []))]
def c69 : List (Nat × List kIt) := [(0, b69_0), (16, b69_16), (17, b69_17)]
-- 70: PennyALap$Law.nameOf
def b70_0 : List kIt := [(0, .inl (.iload_n 0, 0, 0, 0)), (1, .inr (.nop, 2, 100, 0, [(99, 98), (100, 100), (101, 100), (102, 100), (103, 100), (104, 100), (105, 100), (106, 100), (107, 92), (108, 100), (109, 94), (110, 100), (111, 100), (112, 88), (113, 100), (114, 96), (115, 100), (116, 90)]))]
def b70_88 : List kIt := [(88, .inl (.iconst 0, 0, 0, 0)), (89, .inr (.ireturn, 3, 0, 0, []))]
def b70_90 : List kIt := [(90, .inl (.iconst 1, 0, 0, 0)), (91, .inr (.ireturn, 3, 0, 0, []))]
def b70_92 : List kIt := [(92, .inl (.iconst 2, 0, 0, 0)), (93, .inr (.ireturn, 3, 0, 0, []))]
def b70_94 : List kIt := [(94, .inl (.iconst 3, 0, 0, 0)), (95, .inr (.ireturn, 3, 0, 0, []))]
def b70_96 : List kIt := [(96, .inl (.iconst 4, 0, 0, 0)), (97, .inr (.ireturn, 3, 0, 0, []))]
def b70_98 : List kIt := [(98, .inl (.iconst 5, 0, 0, 0)), (99, .inr (.ireturn, 3, 0, 0, []))]
def b70_100 : List kIt := [(100, .inl (.iconst (-1), 0, 0, 0)), (101, .inr (.ireturn, 3, 0, 0, []))]
def c70 : List (Nat × List kIt) := [(0, b70_0), (88, b70_88), (90, b70_90), (92, b70_92), (94, b70_94), (96, b70_96), (98, b70_98), (100, b70_100)]
-- 71: PennyALap$Law.levelOf
def b71_0 : List kIt := [(0, .inl (.iload_n 0, 0, 0, 0)), (1, .inr (.nop, 2, 102, 0, [(37, 100), (38, 94), (42, 100), (43, 98), (45, 98), (47, 100), (60, 96), (61, 96), (62, 96), (124, 92)]))]
def b71_92 : List kIt := [(92, .inl (.iconst 0, 0, 0, 0)), (93, .inr (.ireturn, 3, 0, 0, []))]
def b71_94 : List kIt := [(94, .inl (.iconst 1, 0, 0, 0)), (95, .inr (.ireturn, 3, 0, 0, []))]
def b71_96 : List kIt := [(96, .inl (.iconst 2, 0, 0, 0)), (97, .inr (.ireturn, 3, 0, 0, []))]
def b71_98 : List kIt := [(98, .inl (.iconst 3, 0, 0, 0)), (99, .inr (.ireturn, 3, 0, 0, []))]
def b71_100 : List kIt := [(100, .inl (.iconst 4, 0, 0, 0)), (101, .inr (.ireturn, 3, 0, 0, []))]
def b71_102 : List kIt := [(102, .inl (.iconst (-1), 0, 0, 0)), (103, .inr (.ireturn, 3, 0, 0, []))]
def c71 : List (Nat × List kIt) := [(0, b71_0), (92, b71_92), (94, b71_94), (96, b71_96), (98, b71_98), (100, b71_100), (102, b71_102)]
-- 72: PennyALap$Law.isThere
def b72_0 : List kIt := [(0, .inl (.aload_n 0, 0, 0, 0)), (1, .inl (.getfield 38, 5, 4, 0)), (4, .inr (.ifCond .le 7, 0, 11, 0, [])), (7, .inl (.iconst 1, 0, 0, 0)), (8, .inr (.goto 4, 1, 12, 0, []))]
def b72_11 : List kIt := [(11, .inl (.iconst 0, 0, 0, 0)), (12, .inr (.nop, 1, 12, 0, []))]
def b72_12 : List kIt := [(12, .inr (.ireturn, 3, 1, 0, []))]
def c72 : List (Nat × List kIt) := [(0, b72_0), (11, b72_11), (12, b72_12)]
-- 73: PennyALap$Law.ofChild
def b73_0 : List kIt := [(0, .inl (.aload_n 0, 0, 0, 0)), (1, .inl (.getfield 24, 5, 8, 0)), (4, .inl (.iconst 0, 0, 0, 0)), (5, .inl (.iload_n 2, 0, 0, 0)), (6, .inl (.iastore, 0, 0, 0)), (7, .inl (.aload_n 0, 0, 0, 0)), (8, .inl (.getfield 24, 5, 8, 0)), (11, .inl (.iconst 1, 0, 0, 0)), (12, .inl (.iload_n 3, 0, 0, 0)), (13, .inl (.iastore, 0, 0, 0)), (14, .inl (.aload_n 0, 0, 0, 0)), (15, .inl (.getfield 24, 5, 8, 0)), (18, .inl (.iconst 4, 0, 0, 0)), (19, .inl (.iload 4, 0, 0, 0)), (21, .inl (.iastore, 0, 0, 0)), (22, .inl (.aload_n 0, 0, 0, 0)), (23, .inl (.getfield 24, 5, 8, 0)), (26, .inl (.iconst 5, 0, 0, 0)), (27, .inl (.iload_n 1, 0, 0, 0)), (28, .inl (.iastore, 0, 0, 0)), (29, .inr (.return_, 3, 0, 0, []))]
def c73 : List (Nat × List kIt) := [(0, b73_0)]
-- 74: PennyALap$Law.gives
def b74_0 : List kIt := [(0, .inl (.aload_n 0, 0, 0, 0)), (1, .inl (.getfield 24, 5, 8, 0)), (4, .inl (.iconst 2, 0, 0, 0)), (5, .inl (.iload_n 1, 0, 0, 0)), (6, .inl (.iastore, 0, 0, 0)), (7, .inl (.aload_n 0, 0, 0, 0)), (8, .inl (.getfield 24, 5, 8, 0)), (11, .inl (.iconst 3, 0, 0, 0)), (12, .inl (.iload_n 2, 0, 0, 0)), (13, .inl (.iastore, 0, 0, 0)), (14, .inl (.iconst 0, 0, 0, 0)), (15, .inl (.istore_n 3, 0, 0, 0)), (16, .inl (.iconst 0, 0, 0, 0)), (17, .inl (.istore 4, 0, 0, 0)), (19, .inr (.nop, 1, 19, 0, []))]
def b74_19 : List kIt := [(19, .inl (.iload 4, 0, 0, 0)), (21, .inl (.aload_n 0, 0, 0, 0)), (22, .inl (.getfield 38, 5, 4, 0)), (25, .inr (.if_icmp .ge 198, 0, 223, 0, [])), (28, .inl (.aload_n 0, 0, 0, 0)), (29, .inl (.getfield 15, 5, 3, 0)), (32, .inl (.iload 4, 0, 0, 0)), (34, .inl (.iaload, 0, 0, 0)), (35, .inl (.istore 5, 0, 0, 0)), (37, .inl (.iload 5, 0, 0, 0)), (39, .inl (.bipush (-6), 0, 0, 0)), (41, .inr (.if_icmp .lt 43, 0, 84, 0, [])), (44, .inl (.iload_n 3, 0, 0, 0)), (45, .inl (.aload_n 0, 0, 0, 0)), (46, .inl (.getfield 21, 5, 7, 0)), (49, .inl (.arraylength, 0, 0, 0)), (50, .inr (.if_icmp .ge 34, 0, 84, 0, [])), (53, .inl (.aload_n 0, 0, 0, 0)), (54, .inl (.getfield 21, 5, 7, 0)), (57, .inl (.iload_n 3, 0, 0, 0)), (58, .inl (.iload 5, 0, 0, 0)), (60, .inr (.ifCond .lt 8, 0, 68, 0, [])), (63, .inl (.iload 5, 0, 0, 0)), (65, .inr (.goto 12, 1, 77, 0, []))]
def b74_68 : List kIt := [(68, .inl (.aload_n 0, 0, 0, 0)), (69, .inl (.getfield 24, 5, 8, 0)), (72, .inl (.iconst (-1), 0, 0, 0)), (73, .inl (.iload 5, 0, 0, 0)), (75, .inl (.isub, 0, 0, 0)), (76, .inl (.iaload, 0, 0, 0)), (77, .inr (.nop, 1, 77, 0, []))]
def b74_77 : List kIt := [(77, .inl (.iastore, 0, 0, 0)), (78, .inl (.iinc 3 1, 0, 0, 0)), (81, .inr (.goto 136, 1, 217, 0, []))]
def b74_84 : List kIt := [(84, .inl (.iload_n 3, 0, 0, 0)), (85, .inl (.iconst 1, 0, 0, 0)), (86, .inr (.if_icmp .ge 5, 0, 91, 0, [])), (89, .inl (.iconst 0, 0, 0, 0)), (90, .inr (.ireturn, 3, 0, 0, []))]
def b74_91 : List kIt := [(91, .inl (.iload 5, 0, 0, 0)), (93, .inl (.bipush (-59), 0, 0, 0)), (95, .inr (.if_icmp .ne 12, 0, 107, 0, [])), (98, .inl (.aload_n 0, 0, 0, 0)), (99, .inl (.getfield 21, 5, 7, 0)), (102, .inl (.iload_n 3, 0, 0, 0)), (103, .inl (.iconst 1, 0, 0, 0)), (104, .inl (.isub, 0, 0, 0)), (105, .inl (.iaload, 0, 0, 0)), (106, .inr (.ireturn, 3, 0, 0, []))]
def b74_107 : List kIt := [(107, .inl (.iload 5, 0, 0, 0)), (109, .inl (.bipush (-33), 0, 0, 0)), (111, .inr (.if_icmp .eq 10, 0, 121, 0, [])), (114, .inl (.iload 5, 0, 0, 0)), (116, .inl (.bipush (-110), 0, 0, 0)), (118, .inr (.if_icmp .ne 28, 0, 146, 0, [])), (121, .inr (.nop, 1, 121, 0, []))]
def b74_121 : List kIt := [(121, .inl (.aload_n 0, 0, 0, 0)), (122, .inl (.getfield 21, 5, 7, 0)), (125, .inl (.iload_n 3, 0, 0, 0)), (126, .inl (.iconst 1, 0, 0, 0)), (127, .inl (.isub, 0, 0, 0)), (128, .inl (.iload 5, 0, 0, 0)), (130, .inl (.ineg, 0, 0, 0)), (131, .inl (.aload_n 0, 0, 0, 0)), (132, .inl (.getfield 21, 5, 7, 0)), (135, .inl (.iload_n 3, 0, 0, 0)), (136, .inl (.iconst 1, 0, 0, 0)), (137, .inl (.isub, 0, 0, 0)), (138, .inl (.iaload, 0, 0, 0)), (139, .inr (.invokestatic 79, 4, 75, 2, [])), (142, .inr (.nop, 1, 142, 0, []))]
def b74_142 : List kIt := [(142, .inl (.iastore, 0, 0, 0)), (143, .inr (.goto 74, 1, 217, 0, []))]
def b74_146 : List kIt := [(146, .inl (.iload_n 3, 0, 0, 0)), (147, .inl (.iconst 2, 0, 0, 0)), (148, .inr (.if_icmp .ge 5, 0, 153, 0, [])), (151, .inl (.iconst 0, 0, 0, 0)), (152, .inr (.ireturn, 3, 0, 0, []))]
def b74_153 : List kIt := [(153, .inl (.iload 5, 0, 0, 0)), (155, .inl (.bipush (-63), 0, 0, 0)), (157, .inr (.if_icmp .ne 29, 0, 186, 0, [])), (160, .inl (.aload_n 0, 0, 0, 0)), (161, .inl (.getfield 21, 5, 7, 0)), (164, .inl (.iload_n 3, 0, 0, 0)), (165, .inl (.iconst 2, 0, 0, 0)), (166, .inl (.isub, 0, 0, 0)), (167, .inl (.iaload, 0, 0, 0)), (168, .inr (.ifCond .eq 12, 0, 180, 0, [])), (171, .inl (.aload_n 0, 0, 0, 0)), (172, .inl (.getfield 21, 5, 7, 0)), (175, .inl (.iload_n 3, 0, 0, 0)), (176, .inl (.iconst 1, 0, 0, 0)), (177, .inl (.isub, 0, 0, 0)), (178, .inl (.iaload, 0, 0, 0)), (179, .inr (.ireturn, 3, 0, 0, []))]
def b74_180 : List kIt := [(180, .inl (.iinc 3 (-2), 0, 0, 0)), (183, .inr (.goto 34, 1, 217, 0, []))]
def b74_186 : List kIt := [(186, .inl (.iinc 3 (-1), 0, 0, 0)), (189, .inl (.aload_n 0, 0, 0, 0)), (190, .inl (.getfield 21, 5, 7, 0)), (193, .inl (.iload_n 3, 0, 0, 0)), (194, .inl (.iconst 1, 0, 0, 0)), (195, .inl (.isub, 0, 0, 0)), (196, .inl (.iload 5, 0, 0, 0)), (198, .inl (.ineg, 0, 0, 0)), (199, .inl (.aload_n 0, 0, 0, 0)), (200, .inl (.getfield 21, 5, 7, 0)), (203, .inl (.iload_n 3, 0, 0, 0)), (204, .inl (.iconst 1, 0, 0, 0)), (205, .inl (.isub, 0, 0, 0)), (206, .inl (.iaload, 0, 0, 0)), (207, .inl (.aload_n 0, 0, 0, 0)), (208, .inl (.getfield 21, 5, 7, 0)), (211, .inl (.iload_n 3, 0, 0, 0)), (212, .inl (.iaload, 0, 0, 0)), (213, .inr (.invokestatic 83, 4, 76, 3, [])), (216, .inr (.nop, 1, 216, 0, []))]
def b74_216 : List kIt := [(216, .inl (.iastore, 0, 0, 0)), (217, .inr (.nop, 1, 217, 0, []))]
def b74_217 : List kIt := [(217, .inl (.iinc 4 1, 0, 0, 0)), (220, .inr (.goto (-201), 1, 19, 0, []))]
def b74_223 : List kIt := [(223, .inl (.iconst 0, 0, 0, 0)), (224, .inr (.ireturn, 3, 0, 0, []))]
def c74 : List (Nat × List kIt) := [(0, b74_0), (19, b74_19), (68, b74_68), (77, b74_77), (84, b74_84), (91, b74_91), (107, b74_107), (121, b74_121), (142, b74_142), (146, b74_146), (153, b74_153), (180, b74_180), (186, b74_186), (216, b74_216), (217, b74_217), (223, b74_223)]
-- 75: PennyALap$Law.turned
def b75_0 : List kIt := [(0, .inl (.iload_n 0, 0, 0, 0)), (1, .inl (.bipush 33, 0, 0, 0)), (3, .inr (.if_icmp .ne 18, 0, 21, 0, [])), (6, .inl (.iload_n 1, 0, 0, 0)), (7, .inr (.ifCond .ne 7, 0, 14, 0, [])), (10, .inl (.iconst 1, 0, 0, 0)), (11, .inr (.goto 4, 1, 15, 0, []))]
def b75_14 : List kIt := [(14, .inl (.iconst 0, 0, 0, 0)), (15, .inr (.nop, 1, 15, 0, []))]
def b75_15 : List kIt := [(15, .inr (.invokestatic 87, 4, 77, 1, [])), (18, .inr (.nop, 1, 18, 0, []))]
def b75_18 : List kIt := [(18, .inr (.goto 5, 1, 23, 0, []))]
def b75_21 : List kIt := [(21, .inl (.iload_n 1, 0, 0, 0)), (22, .inl (.ineg, 0, 0, 0)), (23, .inr (.nop, 1, 23, 0, []))]
def b75_23 : List kIt := [(23, .inr (.ireturn, 3, 0, 0, []))]
def c75 : List (Nat × List kIt) := [(0, b75_0), (14, b75_14), (15, b75_15), (18, b75_18), (21, b75_21), (23, b75_23)]
-- 76: PennyALap$Law.joined
def b76_0 : List kIt := [(0, .inl (.iload_n 0, 0, 0, 0)), (1, .inr (.nop, 2, 204, 0, [(37, 192), (38, 109), (42, 176), (43, 168), (45, 172), (47, 180), (60, 126), (61, 140), (62, 154), (124, 92)]))]
def b76_92 : List kIt := [(92, .inl (.iload_n 1, 0, 0, 0)), (93, .inr (.ifCond .ne 7, 0, 100, 0, [])), (96, .inl (.iload_n 2, 0, 0, 0)), (97, .inr (.ifCond .eq 7, 0, 104, 0, [])), (100, .inr (.nop, 1, 100, 0, []))]
def b76_100 : List kIt := [(100, .inl (.iconst 1, 0, 0, 0)), (101, .inr (.goto 4, 1, 105, 0, []))]
def b76_104 : List kIt := [(104, .inl (.iconst 0, 0, 0, 0)), (105, .inr (.nop, 1, 105, 0, []))]
def b76_105 : List kIt := [(105, .inr (.invokestatic 87, 4, 77, 1, [])), (108, .inr (.nop, 1, 108, 0, []))]
def b76_108 : List kIt := [(108, .inr (.ireturn, 3, 0, 0, []))]
def b76_109 : List kIt := [(109, .inl (.iload_n 1, 0, 0, 0)), (110, .inr (.ifCond .eq 11, 0, 121, 0, [])), (113, .inl (.iload_n 2, 0, 0, 0)), (114, .inr (.ifCond .eq 7, 0, 121, 0, [])), (117, .inl (.iconst 1, 0, 0, 0)), (118, .inr (.goto 4, 1, 122, 0, []))]
def b76_121 : List kIt := [(121, .inl (.iconst 0, 0, 0, 0)), (122, .inr (.nop, 1, 122, 0, []))]
def b76_122 : List kIt := [(122, .inr (.invokestatic 87, 4, 77, 1, [])), (125, .inr (.nop, 1, 125, 0, []))]
def b76_125 : List kIt := [(125, .inr (.ireturn, 3, 0, 0, []))]
def b76_126 : List kIt := [(126, .inl (.iload_n 1, 0, 0, 0)), (127, .inl (.iload_n 2, 0, 0, 0)), (128, .inr (.if_icmp .ge 7, 0, 135, 0, [])), (131, .inl (.iconst 1, 0, 0, 0)), (132, .inr (.goto 4, 1, 136, 0, []))]
def b76_135 : List kIt := [(135, .inl (.iconst 0, 0, 0, 0)), (136, .inr (.nop, 1, 136, 0, []))]
def b76_136 : List kIt := [(136, .inr (.invokestatic 87, 4, 77, 1, [])), (139, .inr (.nop, 1, 139, 0, []))]
def b76_139 : List kIt := [(139, .inr (.ireturn, 3, 0, 0, []))]
def b76_140 : List kIt := [(140, .inl (.iload_n 1, 0, 0, 0)), (141, .inl (.iload_n 2, 0, 0, 0)), (142, .inr (.if_icmp .ne 7, 0, 149, 0, [])), (145, .inl (.iconst 1, 0, 0, 0)), (146, .inr (.goto 4, 1, 150, 0, []))]
def b76_149 : List kIt := [(149, .inl (.iconst 0, 0, 0, 0)), (150, .inr (.nop, 1, 150, 0, []))]
def b76_150 : List kIt := [(150, .inr (.invokestatic 87, 4, 77, 1, [])), (153, .inr (.nop, 1, 153, 0, []))]
def b76_153 : List kIt := [(153, .inr (.ireturn, 3, 0, 0, []))]
def b76_154 : List kIt := [(154, .inl (.iload_n 1, 0, 0, 0)), (155, .inl (.iload_n 2, 0, 0, 0)), (156, .inr (.if_icmp .le 7, 0, 163, 0, [])), (159, .inl (.iconst 1, 0, 0, 0)), (160, .inr (.goto 4, 1, 164, 0, []))]
def b76_163 : List kIt := [(163, .inl (.iconst 0, 0, 0, 0)), (164, .inr (.nop, 1, 164, 0, []))]
def b76_164 : List kIt := [(164, .inr (.invokestatic 87, 4, 77, 1, [])), (167, .inr (.nop, 1, 167, 0, []))]
def b76_167 : List kIt := [(167, .inr (.ireturn, 3, 0, 0, []))]
def b76_168 : List kIt := [(168, .inl (.iload_n 1, 0, 0, 0)), (169, .inl (.iload_n 2, 0, 0, 0)), (170, .inl (.iadd, 0, 0, 0)), (171, .inr (.ireturn, 3, 0, 0, []))]
def b76_172 : List kIt := [(172, .inl (.iload_n 1, 0, 0, 0)), (173, .inl (.iload_n 2, 0, 0, 0)), (174, .inl (.isub, 0, 0, 0)), (175, .inr (.ireturn, 3, 0, 0, []))]
def b76_176 : List kIt := [(176, .inl (.iload_n 1, 0, 0, 0)), (177, .inl (.iload_n 2, 0, 0, 0)), (178, .inl (.imul, 0, 0, 0)), (179, .inr (.ireturn, 3, 0, 0, []))]
def b76_180 : List kIt := [(180, .inl (.iload_n 2, 0, 0, 0)), (181, .inr (.ifCond .ne 7, 0, 188, 0, [])), (184, .inl (.iconst 0, 0, 0, 0)), (185, .inr (.goto 6, 1, 191, 0, []))]
def b76_188 : List kIt := [(188, .inl (.iload_n 1, 0, 0, 0)), (189, .inl (.iload_n 2, 0, 0, 0)), (190, .inl (.idiv, 0, 0, 0)), (191, .inr (.nop, 1, 191, 0, []))]
def b76_191 : List kIt := [(191, .inr (.ireturn, 3, 0, 0, []))]
def b76_192 : List kIt := [(192, .inl (.iload_n 2, 0, 0, 0)), (193, .inr (.ifCond .ne 7, 0, 200, 0, [])), (196, .inl (.iconst 0, 0, 0, 0)), (197, .inr (.goto 6, 1, 203, 0, []))]
def b76_200 : List kIt := [(200, .inl (.iload_n 1, 0, 0, 0)), (201, .inl (.iload_n 2, 0, 0, 0)), (202, .inl (.irem, 0, 0, 0)), (203, .inr (.nop, 1, 203, 0, []))]
def b76_203 : List kIt := [(203, .inr (.ireturn, 3, 0, 0, []))]
def b76_204 : List kIt := [(204, .inl (.iconst 0, 0, 0, 0)), (205, .inr (.ireturn, 3, 0, 0, []))]
def c76 : List (Nat × List kIt) := [(0, b76_0), (92, b76_92), (100, b76_100), (104, b76_104), (105, b76_105), (108, b76_108), (109, b76_109), (121, b76_121), (122, b76_122), (125, b76_125), (126, b76_126), (135, b76_135), (136, b76_136), (139, b76_139), (140, b76_140), (149, b76_149), (150, b76_150), (153, b76_153), (154, b76_154), (163, b76_163), (164, b76_164), (167, b76_167), (168, b76_168), (172, b76_172), (176, b76_176), (180, b76_180), (188, b76_188), (191, b76_191), (192, b76_192), (200, b76_200), (203, b76_203), (204, b76_204)]
-- 77: PennyALap$Law.truth
def b77_0 : List kIt := [(0, .inl (.iload_n 0, 0, 0, 0)), (1, .inr (.ifCond .eq 7, 0, 8, 0, [])), (4, .inl (.iconst 1, 0, 0, 0)), (5, .inr (.goto 4, 1, 9, 0, []))]
def b77_8 : List kIt := [(8, .inl (.iconst 0, 0, 0, 0)), (9, .inr (.nop, 1, 9, 0, []))]
def b77_9 : List kIt := [(9, .inr (.ireturn, 3, 0, 0, []))]
def c77 : List (Nat × List kIt) := [(0, b77_0), (8, b77_8), (9, b77_9)]
-- 78: PennyALap$Plan.make
def b78_0 : List kIt := [(0, .inl (.aload_n 0, 0, 0, 0)), (1, .inl (.getfield 27, 6, 1, 0)), (4, .inl (.iload_n 1, 0, 0, 0)), (5, .inr (.invokevirtual 31, 4, 105, 2, [])), (8, .inr (.nop, 1, 8, 0, []))]
def b78_8 : List kIt := [(8, .inl (.aload_n 0, 0, 0, 0)), (9, .inl (.getfield 23, 6, 0, 0)), (12, .inr (.invokevirtual 35, 4, 38, 1, [])), (15, .inr (.nop, 1, 15, 0, []))]
def b78_15 : List kIt := [(15, .inl (.iconst 1, 0, 0, 0)), (16, .inl (.isub, 0, 0, 0)), (17, .inl (.istore_n 2, 0, 0, 0)), (18, .inr (.nop, 1, 18, 0, []))]
def b78_18 : List kIt := [(18, .inl (.iload_n 2, 0, 0, 0)), (19, .inr (.ifCond .lt 53, 0, 72, 0, [])), (22, .inl (.aload_n 0, 0, 0, 0)), (23, .inl (.iload_n 2, 0, 0, 0)), (24, .inr (.invokevirtual 41, 4, 79, 2, [])), (27, .inr (.nop, 1, 27, 0, []))]
def b78_27 : List kIt := [(27, .inl (.iload_n 2, 0, 0, 0)), (28, .inr (.ifCond .ne 7, 0, 35, 0, [])), (31, .inl (.iload_n 1, 0, 0, 0)), (32, .inr (.goto 4, 1, 36, 0, []))]
def b78_35 : List kIt := [(35, .inl (.iconst 0, 0, 0, 0)), (36, .inr (.nop, 1, 36, 0, []))]
def b78_36 : List kIt := [(36, .inl (.istore_n 3, 0, 0, 0)), (37, .inr (.nop, 1, 37, 0, []))]
def b78_37 : List kIt := [(37, .inl (.iload_n 3, 0, 0, 0)), (38, .inl (.iload_n 1, 0, 0, 0)), (39, .inr (.if_icmp .gt 27, 0, 66, 0, [])), (42, .inl (.aload_n 0, 0, 0, 0)), (43, .inl (.getfield 17, 6, 3, 0)), (46, .inl (.iload_n 2, 0, 0, 0)), (47, .inl (.sipush 301, 0, 0, 0)), (50, .inl (.imul, 0, 0, 0)), (51, .inl (.iload_n 3, 0, 0, 0)), (52, .inl (.iadd, 0, 0, 0)), (53, .inl (.aload_n 0, 0, 0, 0)), (54, .inl (.iload_n 2, 0, 0, 0)), (55, .inl (.iload_n 3, 0, 0, 0)), (56, .inr (.invokevirtual 44, 4, 80, 3, [])), (59, .inr (.nop, 1, 59, 0, []))]
def b78_59 : List kIt := [(59, .inl (.iastore, 0, 0, 0)), (60, .inl (.iinc 3 1, 0, 0, 0)), (63, .inr (.goto (-26), 1, 37, 0, []))]
def b78_66 : List kIt := [(66, .inl (.iinc 2 (-1), 0, 0, 0)), (69, .inr (.goto (-51), 1, 18, 0, []))]
def b78_72 : List kIt := [(72, .inl (.aload_n 0, 0, 0, 0)), (73, .inl (.iload_n 1, 0, 0, 0)), (74, .inr (.invokevirtual 48, 4, 82, 2, [])), (77, .inr (.nop, 1, 77, 0, []))]
def b78_77 : List kIt := [(77, .inr (.return_, 3, 0, 0, []))]
def c78 : List (Nat × List kIt) := [(0, b78_0), (8, b78_8), (15, b78_15), (18, b78_18), (27, b78_27), (35, b78_35), (36, b78_36), (37, b78_37), (59, b78_59), (66, b78_66), (72, b78_72), (77, b78_77)]
-- 79: PennyALap$Plan.weigh
def b79_0 : List kIt := [(0, .inl (.iconst 0, 0, 0, 0)), (1, .inl (.istore_n 2, 0, 0, 0)), (2, .inr (.nop, 1, 2, 0, []))]
def b79_2 : List kIt := [(2, .inl (.iload_n 2, 0, 0, 0)), (3, .inl (.aload_n 0, 0, 0, 0)), (4, .inl (.getfield 27, 6, 1, 0)), (7, .inl (.iload_n 1, 0, 0, 0)), (8, .inr (.invokevirtual 51, 4, 106, 2, [])), (11, .inr (.nop, 1, 11, 0, []))]
def b79_11 : List kIt := [(11, .inr (.if_icmp .gt 43, 0, 54, 0, [])), (14, .inl (.aload_n 0, 0, 0, 0)), (15, .inl (.getfield 13, 6, 2, 0)), (18, .inl (.iload_n 1, 0, 0, 0)), (19, .inl (.bipush 100, 0, 0, 0)), (21, .inl (.imul, 0, 0, 0)), (22, .inl (.iload_n 2, 0, 0, 0)), (23, .inl (.iadd, 0, 0, 0)), (24, .inl (.aload_n 0, 0, 0, 0)), (25, .inl (.getfield 23, 6, 0, 0)), (28, .inl (.iload_n 1, 0, 0, 0)), (29, .inl (.iload_n 2, 0, 0, 0)), (30, .inr (.invokevirtual 55, 4, 57, 3, [])), (33, .inr (.nop, 1, 33, 0, []))]
def b79_33 : List kIt := [(33, .inl (.sipush 512, 0, 0, 0)), (36, .inl (.imul, 0, 0, 0)), (37, .inl (.aload_n 0, 0, 0, 0)), (38, .inl (.getfield 27, 6, 1, 0)), (41, .inl (.iload_n 1, 0, 0, 0)), (42, .inl (.iload_n 2, 0, 0, 0)), (43, .inr (.invokevirtual 58, 4, 107, 3, [])), (46, .inr (.nop, 1, 46, 0, []))]
def b79_46 : List kIt := [(46, .inl (.isub, 0, 0, 0)), (47, .inl (.iastore, 0, 0, 0)), (48, .inl (.iinc 2 1, 0, 0, 0)), (51, .inr (.goto (-49), 1, 2, 0, []))]
def b79_54 : List kIt := [(54, .inr (.return_, 3, 0, 0, []))]
def c79 : List (Nat × List kIt) := [(0, b79_0), (2, b79_2), (11, b79_11), (33, b79_33), (46, b79_46), (54, b79_54)]
-- 80: PennyALap$Plan.bestOf
def b80_0 : List kIt := [(0, .inl (.aload_n 0, 0, 0, 0)), (1, .inl (.getfield 27, 6, 1, 0)), (4, .inl (.getfield 61, 8, 2, 0)), (7, .inl (.astore_n 3, 0, 0, 0)), (8, .inl (.aload_n 0, 0, 0, 0)), (9, .inl (.getfield 27, 6, 1, 0)), (12, .inl (.iload_n 1, 0, 0, 0)), (13, .inr (.invokevirtual 51, 4, 106, 2, [])), (16, .inr (.nop, 1, 16, 0, []))]
def b80_16 : List kIt := [(16, .inl (.istore 4, 0, 0, 0)), (18, .inl (.iload_n 1, 0, 0, 0)), (19, .inl (.bipush 100, 0, 0, 0)), (21, .inl (.imul, 0, 0, 0)), (22, .inl (.istore 5, 0, 0, 0)), (24, .inl (.iload_n 1, 0, 0, 0)), (25, .inl (.iconst 1, 0, 0, 0)), (26, .inl (.iadd, 0, 0, 0)), (27, .inl (.sipush 301, 0, 0, 0)), (30, .inl (.imul, 0, 0, 0)), (31, .inl (.iload_n 2, 0, 0, 0)), (32, .inl (.iadd, 0, 0, 0)), (33, .inl (.istore 6, 0, 0, 0)), (35, .inl (.aload_n 0, 0, 0, 0)), (36, .inl (.getfield 13, 6, 2, 0)), (39, .inl (.iload 5, 0, 0, 0)), (41, .inl (.iaload, 0, 0, 0)), (42, .inl (.aload_n 0, 0, 0, 0)), (43, .inl (.getfield 17, 6, 3, 0)), (46, .inl (.iload 6, 0, 0, 0)), (48, .inl (.iaload, 0, 0, 0)), (49, .inl (.iadd, 0, 0, 0)), (50, .inl (.istore 7, 0, 0, 0)), (52, .inl (.iconst 1, 0, 0, 0)), (53, .inl (.istore 8, 0, 0, 0)), (55, .inr (.nop, 1, 55, 0, []))]
def b80_55 : List kIt := [(55, .inl (.iload 8, 0, 0, 0)), (57, .inl (.iload 4, 0, 0, 0)), (59, .inr (.if_icmp .gt 53, 0, 112, 0, [])), (62, .inl (.aload_n 3, 0, 0, 0)), (63, .inl (.iload 5, 0, 0, 0)), (65, .inl (.iload 8, 0, 0, 0)), (67, .inl (.iadd, 0, 0, 0)), (68, .inl (.iaload, 0, 0, 0)), (69, .inl (.iload_n 2, 0, 0, 0)), (70, .inr (.if_icmp .gt 42, 0, 112, 0, [])), (73, .inl (.iload 7, 0, 0, 0)), (75, .inl (.aload_n 0, 0, 0, 0)), (76, .inl (.getfield 13, 6, 2, 0)), (79, .inl (.iload 5, 0, 0, 0)), (81, .inl (.iload 8, 0, 0, 0)), (83, .inl (.iadd, 0, 0, 0)), (84, .inl (.iaload, 0, 0, 0)), (85, .inl (.aload_n 0, 0, 0, 0)), (86, .inl (.getfield 17, 6, 3, 0)), (89, .inl (.iload 6, 0, 0, 0)), (91, .inl (.aload_n 3, 0, 0, 0)), (92, .inl (.iload 5, 0, 0, 0)), (94, .inl (.iload 8, 0, 0, 0)), (96, .inl (.iadd, 0, 0, 0)), (97, .inl (.iaload, 0, 0, 0)), (98, .inl (.isub, 0, 0, 0)), (99, .inl (.iaload, 0, 0, 0)), (100, .inl (.iadd, 0, 0, 0)), (101, .inl (.invokestatic 64, 1, 0, 0)), (104, .inl (.istore 7, 0, 0, 0)), (106, .inl (.iinc 8 1, 0, 0, 0)), (109, .inr (.goto (-54), 1, 55, 0, []))]
def b80_112 : List kIt := [(112, .inl (.iload 7, 0, 0, 0)), (114, .inr (.ireturn, 3, 0, 0, []))]
def c80 : List (Nat × List kIt) := [(0, b80_0), (16, b80_16), (55, b80_55), (112, b80_112)]
-- 81: PennyALap$Plan.worthWith
def b81_0 : List kIt := [(0, .inl (.iload_n 3, 0, 0, 0)), (1, .inl (.aload_n 0, 0, 0, 0)), (2, .inl (.getfield 27, 6, 1, 0)), (5, .inl (.iload_n 1, 0, 0, 0)), (6, .inl (.iload_n 2, 0, 0, 0)), (7, .inr (.invokevirtual 58, 4, 107, 3, [])), (10, .inr (.nop, 1, 10, 0, []))]
def b81_10 : List kIt := [(10, .inl (.isub, 0, 0, 0)), (11, .inl (.istore 4, 0, 0, 0)), (13, .inl (.aload_n 0, 0, 0, 0)), (14, .inl (.getfield 13, 6, 2, 0)), (17, .inl (.iload_n 1, 0, 0, 0)), (18, .inl (.bipush 100, 0, 0, 0)), (20, .inl (.imul, 0, 0, 0)), (21, .inl (.iload_n 2, 0, 0, 0)), (22, .inl (.iadd, 0, 0, 0)), (23, .inl (.iaload, 0, 0, 0)), (24, .inl (.iload 4, 0, 0, 0)), (26, .inr (.ifCond .lt 21, 0, 47, 0, [])), (29, .inl (.aload_n 0, 0, 0, 0)), (30, .inl (.getfield 17, 6, 3, 0)), (33, .inl (.iload_n 1, 0, 0, 0)), (34, .inl (.iconst 1, 0, 0, 0)), (35, .inl (.iadd, 0, 0, 0)), (36, .inl (.sipush 301, 0, 0, 0)), (39, .inl (.imul, 0, 0, 0)), (40, .inl (.iload 4, 0, 0, 0)), (42, .inl (.iadd, 0, 0, 0)), (43, .inl (.iaload, 0, 0, 0)), (44, .inr (.goto 4, 1, 48, 0, []))]
def b81_47 : List kIt := [(47, .inl (.iconst 0, 0, 0, 0)), (48, .inr (.nop, 1, 48, 0, []))]
def b81_48 : List kIt := [(48, .inl (.iadd, 0, 0, 0)), (49, .inr (.ireturn, 3, 0, 0, []))]
def c81 : List (Nat × List kIt) := [(0, b81_0), (10, b81_10), (47, b81_47), (48, b81_48)]
-- 82: PennyALap$Plan.choose
def b82_0 : List kIt := [(0, .inl (.iload_n 1, 0, 0, 0)), (1, .inl (.istore_n 2, 0, 0, 0)), (2, .inl (.iconst 0, 0, 0, 0)), (3, .inl (.istore_n 3, 0, 0, 0)), (4, .inr (.nop, 1, 4, 0, []))]
def b82_4 : List kIt := [(4, .inl (.iload_n 3, 0, 0, 0)), (5, .inl (.aload_n 0, 0, 0, 0)), (6, .inl (.getfield 23, 6, 0, 0)), (9, .inr (.invokevirtual 35, 4, 38, 1, [])), (12, .inr (.nop, 1, 12, 0, []))]
def b82_12 : List kIt := [(12, .inr (.if_icmp .ge 79, 0, 91, 0, [])), (15, .inl (.iconst 0, 0, 0, 0)), (16, .inl (.istore 4, 0, 0, 0)), (18, .inr (.nop, 1, 18, 0, []))]
def b82_18 : List kIt := [(18, .inl (.iload 4, 0, 0, 0)), (20, .inl (.aload_n 0, 0, 0, 0)), (21, .inl (.getfield 27, 6, 1, 0)), (24, .inl (.iload_n 3, 0, 0, 0)), (25, .inr (.invokevirtual 51, 4, 106, 2, [])), (28, .inr (.nop, 1, 28, 0, []))]
def b82_28 : List kIt := [(28, .inr (.if_icmp .ge 32, 0, 60, 0, [])), (31, .inl (.aload_n 0, 0, 0, 0)), (32, .inl (.iload_n 3, 0, 0, 0)), (33, .inl (.iload 4, 0, 0, 0)), (35, .inl (.iload_n 2, 0, 0, 0)), (36, .inr (.invokevirtual 69, 4, 81, 4, [])), (39, .inr (.nop, 1, 39, 0, []))]
def b82_39 : List kIt := [(39, .inl (.aload_n 0, 0, 0, 0)), (40, .inl (.getfield 17, 6, 3, 0)), (43, .inl (.iload_n 3, 0, 0, 0)), (44, .inl (.sipush 301, 0, 0, 0)), (47, .inl (.imul, 0, 0, 0)), (48, .inl (.iload_n 2, 0, 0, 0)), (49, .inl (.iadd, 0, 0, 0)), (50, .inl (.iaload, 0, 0, 0)), (51, .inr (.if_icmp .eq 9, 0, 60, 0, [])), (54, .inl (.iinc 4 1, 0, 0, 0)), (57, .inr (.goto (-39), 1, 18, 0, []))]
def b82_60 : List kIt := [(60, .inl (.aload_n 0, 0, 0, 0)), (61, .inl (.getfield 20, 6, 4, 0)), (64, .inl (.iload_n 3, 0, 0, 0)), (65, .inl (.iload 4, 0, 0, 0)), (67, .inl (.iastore, 0, 0, 0)), (68, .inl (.iconst 0, 0, 0, 0)), (69, .inl (.iload_n 2, 0, 0, 0)), (70, .inl (.aload_n 0, 0, 0, 0)), (71, .inl (.getfield 27, 6, 1, 0)), (74, .inl (.iload_n 3, 0, 0, 0)), (75, .inl (.iload 4, 0, 0, 0)), (77, .inr (.invokevirtual 58, 4, 107, 3, [])), (80, .inr (.nop, 1, 80, 0, []))]
def b82_80 : List kIt := [(80, .inl (.isub, 0, 0, 0)), (81, .inl (.invokestatic 64, 1, 0, 0)), (84, .inl (.istore_n 2, 0, 0, 0)), (85, .inl (.iinc 3 1, 0, 0, 0)), (88, .inr (.goto (-84), 1, 4, 0, []))]
def b82_91 : List kIt := [(91, .inr (.return_, 3, 0, 0, []))]
def c82 : List (Nat × List kIt) := [(0, b82_0), (4, b82_4), (12, b82_12), (18, b82_18), (28, b82_28), (39, b82_39), (60, b82_60), (80, b82_80), (91, b82_91)]
-- 83: PennyALap$Plan.lapsOf
def b83_0 : List kIt := [(0, .inl (.aload_n 0, 0, 0, 0)), (1, .inl (.getfield 23, 6, 0, 0)), (4, .inl (.iload_n 1, 0, 0, 0)), (5, .inr (.invokevirtual 73, 4, 40, 2, [])), (8, .inr (.nop, 1, 8, 0, []))]
def b83_8 : List kIt := [(8, .inr (.ifCond .eq 12, 0, 20, 0, [])), (11, .inl (.aload_n 0, 0, 0, 0)), (12, .inl (.getfield 20, 6, 4, 0)), (15, .inl (.iload_n 1, 0, 0, 0)), (16, .inl (.iaload, 0, 0, 0)), (17, .inr (.goto 4, 1, 21, 0, []))]
def b83_20 : List kIt := [(20, .inl (.iconst 0, 0, 0, 0)), (21, .inr (.nop, 1, 21, 0, []))]
def b83_21 : List kIt := [(21, .inr (.ireturn, 3, 0, 0, []))]
def c83 : List (Nat × List kIt) := [(0, b83_0), (8, b83_8), (20, b83_20), (21, b83_21)]
-- 84: PennyALap$Plan.pence
def b84_0 : List kIt := [(0, .inl (.iconst 0, 0, 0, 0)), (1, .inl (.istore_n 1, 0, 0, 0)), (2, .inl (.iconst 0, 0, 0, 0)), (3, .inl (.istore_n 2, 0, 0, 0)), (4, .inr (.nop, 1, 4, 0, []))]
def b84_4 : List kIt := [(4, .inl (.iload_n 2, 0, 0, 0)), (5, .inl (.aload_n 0, 0, 0, 0)), (6, .inl (.getfield 23, 6, 0, 0)), (9, .inr (.invokevirtual 35, 4, 38, 1, [])), (12, .inr (.nop, 1, 12, 0, []))]
def b84_12 : List kIt := [(12, .inr (.if_icmp .ge 26, 0, 38, 0, [])), (15, .inl (.iload_n 1, 0, 0, 0)), (16, .inl (.aload_n 0, 0, 0, 0)), (17, .inl (.getfield 23, 6, 0, 0)), (20, .inl (.iload_n 2, 0, 0, 0)), (21, .inl (.aload_n 0, 0, 0, 0)), (22, .inl (.getfield 20, 6, 4, 0)), (25, .inl (.iload_n 2, 0, 0, 0)), (26, .inl (.iaload, 0, 0, 0)), (27, .inr (.invokevirtual 55, 4, 57, 3, [])), (30, .inr (.nop, 1, 30, 0, []))]
def b84_30 : List kIt := [(30, .inl (.iadd, 0, 0, 0)), (31, .inl (.istore_n 1, 0, 0, 0)), (32, .inl (.iinc 2 1, 0, 0, 0)), (35, .inr (.goto (-31), 1, 4, 0, []))]
def b84_38 : List kIt := [(38, .inl (.iload_n 1, 0, 0, 0)), (39, .inr (.ireturn, 3, 0, 0, []))]
def c84 : List (Nat × List kIt) := [(0, b84_0), (4, b84_4), (12, b84_12), (30, b84_30), (38, b84_38)]
-- 85: PennyALap$Plan.minutesUsed
def b85_0 : List kIt := [(0, .inl (.iconst 0, 0, 0, 0)), (1, .inl (.istore_n 1, 0, 0, 0)), (2, .inl (.iconst 0, 0, 0, 0)), (3, .inl (.istore_n 2, 0, 0, 0)), (4, .inr (.nop, 1, 4, 0, []))]
def b85_4 : List kIt := [(4, .inl (.iload_n 2, 0, 0, 0)), (5, .inl (.aload_n 0, 0, 0, 0)), (6, .inl (.getfield 23, 6, 0, 0)), (9, .inr (.invokevirtual 35, 4, 38, 1, [])), (12, .inr (.nop, 1, 12, 0, []))]
def b85_12 : List kIt := [(12, .inr (.if_icmp .ge 26, 0, 38, 0, [])), (15, .inl (.iload_n 1, 0, 0, 0)), (16, .inl (.aload_n 0, 0, 0, 0)), (17, .inl (.getfield 27, 6, 1, 0)), (20, .inl (.iload_n 2, 0, 0, 0)), (21, .inl (.aload_n 0, 0, 0, 0)), (22, .inl (.getfield 20, 6, 4, 0)), (25, .inl (.iload_n 2, 0, 0, 0)), (26, .inl (.iaload, 0, 0, 0)), (27, .inr (.invokevirtual 58, 4, 107, 3, [])), (30, .inr (.nop, 1, 30, 0, []))]
def b85_30 : List kIt := [(30, .inl (.iadd, 0, 0, 0)), (31, .inl (.istore_n 1, 0, 0, 0)), (32, .inl (.iinc 2 1, 0, 0, 0)), (35, .inr (.goto (-31), 1, 4, 0, []))]
def b85_38 : List kIt := [(38, .inl (.iload_n 1, 0, 0, 0)), (39, .inr (.ireturn, 3, 0, 0, []))]
def c85 : List (Nat × List kIt) := [(0, b85_0), (4, b85_4), (12, b85_12), (30, b85_30), (38, b85_38)]
-- 86: PennyALap$Shelves.isShelf
def b86_0 : List kIt := [(0, .inl (.iload_n 1, 0, 0, 0)), (1, .inr (.ifCond .lt 13, 0, 14, 0, [])), (4, .inl (.iload_n 1, 0, 0, 0)), (5, .inl (.bipush 6, 0, 0, 0)), (7, .inr (.if_icmp .ge 7, 0, 14, 0, [])), (10, .inl (.iconst 1, 0, 0, 0)), (11, .inr (.goto 4, 1, 15, 0, []))]
def b86_14 : List kIt := [(14, .inl (.iconst 0, 0, 0, 0)), (15, .inr (.nop, 1, 15, 0, []))]
def b86_15 : List kIt := [(15, .inr (.ireturn, 3, 1, 0, []))]
def c86 : List (Nat × List kIt) := [(0, b86_0), (14, b86_14), (15, b86_15)]
-- 87: PennyALap$Shelves.isEmpty
def b87_0 : List kIt := [(0, .inl (.aload_n 0, 0, 0, 0)), (1, .inl (.iload_n 1, 0, 0, 0)), (2, .inr (.invokevirtual 25, 4, 86, 2, [])), (5, .inr (.nop, 1, 5, 0, []))]
def b87_5 : List kIt := [(5, .inr (.ifCond .eq 18, 0, 23, 0, [])), (8, .inl (.aload_n 0, 0, 0, 0)), (9, .inl (.getfield 9, 7, 0, 0)), (12, .inl (.iload_n 1, 0, 0, 0)), (13, .inl (.iaload, 0, 0, 0)), (14, .inl (.bipush 6, 0, 0, 0)), (16, .inr (.if_icmp .ne 7, 0, 23, 0, [])), (19, .inl (.iconst 1, 0, 0, 0)), (20, .inr (.goto 4, 1, 24, 0, []))]
def b87_23 : List kIt := [(23, .inl (.iconst 0, 0, 0, 0)), (24, .inr (.nop, 1, 24, 0, []))]
def b87_24 : List kIt := [(24, .inr (.ireturn, 3, 1, 0, []))]
def c87 : List (Nat × List kIt) := [(0, b87_0), (5, b87_5), (23, b87_23), (24, b87_24)]
-- 88: PennyALap$Shelves.isRow
def b88_0 : List kIt := [(0, .inl (.aload_n 0, 0, 0, 0)), (1, .inl (.iload_n 1, 0, 0, 0)), (2, .inr (.invokevirtual 25, 4, 86, 2, [])), (5, .inr (.nop, 1, 5, 0, []))]
def b88_5 : List kIt := [(5, .inr (.ifCond .eq 17, 0, 22, 0, [])), (8, .inl (.aload_n 0, 0, 0, 0)), (9, .inl (.getfield 9, 7, 0, 0)), (12, .inl (.iload_n 1, 0, 0, 0)), (13, .inl (.iaload, 0, 0, 0)), (14, .inl (.iconst 4, 0, 0, 0)), (15, .inr (.if_icmp .gt 7, 0, 22, 0, [])), (18, .inl (.iconst 1, 0, 0, 0)), (19, .inr (.goto 4, 1, 23, 0, []))]
def b88_22 : List kIt := [(22, .inl (.iconst 0, 0, 0, 0)), (23, .inr (.nop, 1, 23, 0, []))]
def b88_23 : List kIt := [(23, .inr (.ireturn, 3, 1, 0, []))]
def c88 : List (Nat × List kIt) := [(0, b88_0), (5, b88_5), (22, b88_22), (23, b88_23)]
-- 89: PennyALap$Shelves.areAlike
def b89_0 : List kIt := [(0, .inl (.aload_n 0, 0, 0, 0)), (1, .inl (.iload_n 1, 0, 0, 0)), (2, .inr (.invokevirtual 25, 4, 86, 2, [])), (5, .inr (.nop, 1, 5, 0, []))]
def b89_5 : List kIt := [(5, .inr (.ifCond .eq 30, 0, 35, 0, [])), (8, .inl (.aload_n 0, 0, 0, 0)), (9, .inl (.iload_n 2, 0, 0, 0)), (10, .inr (.invokevirtual 25, 4, 86, 2, [])), (13, .inr (.nop, 1, 13, 0, []))]
def b89_13 : List kIt := [(13, .inr (.ifCond .eq 22, 0, 35, 0, [])), (16, .inl (.aload_n 0, 0, 0, 0)), (17, .inl (.getfield 9, 7, 0, 0)), (20, .inl (.iload_n 1, 0, 0, 0)), (21, .inl (.iaload, 0, 0, 0)), (22, .inl (.aload_n 0, 0, 0, 0)), (23, .inl (.getfield 9, 7, 0, 0)), (26, .inl (.iload_n 2, 0, 0, 0)), (27, .inl (.iaload, 0, 0, 0)), (28, .inr (.if_icmp .ne 7, 0, 35, 0, [])), (31, .inl (.iconst 1, 0, 0, 0)), (32, .inr (.goto 4, 1, 36, 0, []))]
def b89_35 : List kIt := [(35, .inl (.iconst 0, 0, 0, 0)), (36, .inr (.nop, 1, 36, 0, []))]
def b89_36 : List kIt := [(36, .inr (.ireturn, 3, 1, 0, []))]
def c89 : List (Nat × List kIt) := [(0, b89_0), (5, b89_5), (13, b89_13), (35, b89_35), (36, b89_36)]
-- 90: PennyALap$Shelves.refusal
def b90_0 : List kIt := [(0, .inl (.aload_n 0, 0, 0, 0)), (1, .inl (.iload_n 1, 0, 0, 0)), (2, .inr (.invokevirtual 25, 4, 86, 2, [])), (5, .inr (.nop, 1, 5, 0, []))]
def b90_5 : List kIt := [(5, .inr (.ifCond .ne 5, 0, 10, 0, [])), (8, .inl (.iconst (-1), 0, 0, 0)), (9, .inr (.ireturn, 3, 0, 0, []))]
def b90_10 : List kIt := [(10, .inl (.aload_n 0, 0, 0, 0)), (11, .inl (.getfield 9, 7, 0, 0)), (14, .inl (.iload_n 1, 0, 0, 0)), (15, .inl (.iaload, 0, 0, 0)), (16, .inl (.bipush 6, 0, 0, 0)), (18, .inr (.if_icmp .ne 8, 0, 26, 0, [])), (21, .inl (.bipush (-11), 0, 0, 0)), (23, .inr (.goto 19, 1, 42, 0, []))]
def b90_26 : List kIt := [(26, .inl (.aload_n 0, 0, 0, 0)), (27, .inl (.getfield 9, 7, 0, 0)), (30, .inl (.iload_n 1, 0, 0, 0)), (31, .inl (.iaload, 0, 0, 0)), (32, .inl (.iload_n 2, 0, 0, 0)), (33, .inr (.if_icmp .eq 8, 0, 41, 0, [])), (36, .inl (.bipush (-12), 0, 0, 0)), (38, .inr (.goto 4, 1, 42, 0, []))]
def b90_41 : List kIt := [(41, .inl (.iconst 0, 0, 0, 0)), (42, .inr (.nop, 1, 42, 0, []))]
def b90_42 : List kIt := [(42, .inr (.ireturn, 3, 0, 0, []))]
def c90 : List (Nat × List kIt) := [(0, b90_0), (5, b90_5), (10, b90_10), (26, b90_26), (41, b90_41), (42, b90_42)]
-- 91: PennyALap$Shelves.placeRefusal
def b91_0 : List kIt := [(0, .inl (.aload_n 0, 0, 0, 0)), (1, .inl (.iload_n 1, 0, 0, 0)), (2, .inr (.invokevirtual 25, 4, 86, 2, [])), (5, .inr (.nop, 1, 5, 0, []))]
def b91_5 : List kIt := [(5, .inr (.ifCond .ne 5, 0, 10, 0, [])), (8, .inl (.iconst (-1), 0, 0, 0)), (9, .inr (.ireturn, 3, 0, 0, []))]
def b91_10 : List kIt := [(10, .inl (.aload_n 0, 0, 0, 0)), (11, .inl (.getfield 9, 7, 0, 0)), (14, .inl (.iload_n 1, 0, 0, 0)), (15, .inl (.iaload, 0, 0, 0)), (16, .inl (.bipush 6, 0, 0, 0)), (18, .inr (.if_icmp .ne 6, 0, 24, 0, [])), (21, .inl (.bipush (-11), 0, 0, 0)), (23, .inr (.ireturn, 3, 0, 0, []))]
def b91_24 : List kIt := [(24, .inl (.aload_n 0, 0, 0, 0)), (25, .inl (.iload_n 1, 0, 0, 0)), (26, .inr (.invokevirtual 29, 4, 88, 2, [])), (29, .inr (.nop, 1, 29, 0, []))]
def b91_29 : List kIt := [(29, .inr (.ifCond .ne 8, 0, 37, 0, [])), (32, .inl (.bipush (-12), 0, 0, 0)), (34, .inr (.goto 18, 1, 52, 0, []))]
def b91_37 : List kIt := [(37, .inl (.aload_n 0, 0, 0, 0)), (38, .inl (.iload_n 1, 0, 0, 0)), (39, .inl (.iload_n 2, 0, 0, 0)), (40, .inr (.invokevirtual 32, 4, 92, 3, [])), (43, .inr (.nop, 1, 43, 0, []))]
def b91_43 : List kIt := [(43, .inr (.ifCond .ne 8, 0, 51, 0, [])), (46, .inl (.bipush (-13), 0, 0, 0)), (48, .inr (.goto 4, 1, 52, 0, []))]
def b91_51 : List kIt := [(51, .inl (.iconst 0, 0, 0, 0)), (52, .inr (.nop, 1, 52, 0, []))]
def b91_52 : List kIt := [(52, .inr (.ireturn, 3, 0, 0, []))]
def c91 : List (Nat × List kIt) := [(0, b91_0), (5, b91_5), (10, b91_10), (24, b91_24), (29, b91_29), (37, b91_37), (43, b91_43), (51, b91_51), (52, b91_52)]
-- 92: PennyALap$Shelves.isPlace
def b92_0 : List kIt := [(0, .inl (.aload_n 0, 0, 0, 0)), (1, .inl (.iload_n 1, 0, 0, 0)), (2, .inr (.invokevirtual 29, 4, 88, 2, [])), (5, .inr (.nop, 1, 5, 0, []))]
def b92_5 : List kIt := [(5, .inr (.ifCond .eq 21, 0, 26, 0, [])), (8, .inl (.iload_n 2, 0, 0, 0)), (9, .inr (.ifCond .lt 17, 0, 26, 0, [])), (12, .inl (.iload_n 2, 0, 0, 0)), (13, .inl (.aload_n 0, 0, 0, 0)), (14, .inl (.getfield 15, 7, 1, 0)), (17, .inl (.iload_n 1, 0, 0, 0)), (18, .inl (.iaload, 0, 0, 0)), (19, .inr (.if_icmp .ge 7, 0, 26, 0, [])), (22, .inl (.iconst 1, 0, 0, 0)), (23, .inr (.goto 4, 1, 27, 0, []))]
def b92_26 : List kIt := [(26, .inl (.iconst 0, 0, 0, 0)), (27, .inr (.nop, 1, 27, 0, []))]
def b92_27 : List kIt := [(27, .inr (.ireturn, 3, 1, 0, []))]
def c92 : List (Nat × List kIt) := [(0, b92_0), (5, b92_5), (26, b92_26), (27, b92_27)]
-- 93: PennyALap$Shelves.size
def b93_0 : List kIt := [(0, .inl (.aload_n 0, 0, 0, 0)), (1, .inl (.iload_n 1, 0, 0, 0)), (2, .inr (.invokevirtual 29, 4, 88, 2, [])), (5, .inr (.nop, 1, 5, 0, []))]
def b93_5 : List kIt := [(5, .inr (.ifCond .eq 12, 0, 17, 0, [])), (8, .inl (.aload_n 0, 0, 0, 0)), (9, .inl (.getfield 15, 7, 1, 0)), (12, .inl (.iload_n 1, 0, 0, 0)), (13, .inl (.iaload, 0, 0, 0)), (14, .inr (.goto 4, 1, 18, 0, []))]
def b93_17 : List kIt := [(17, .inl (.iconst 0, 0, 0, 0)), (18, .inr (.nop, 1, 18, 0, []))]
def b93_18 : List kIt := [(18, .inr (.ireturn, 3, 0, 0, []))]
def c93 : List (Nat × List kIt) := [(0, b93_0), (5, b93_5), (17, b93_17), (18, b93_18)]
-- 94: PennyALap$Shelves.bodyOn
def b94_0 : List kIt := [(0, .inl (.aload_n 0, 0, 0, 0)), (1, .inl (.iload_n 1, 0, 0, 0)), (2, .inr (.invokevirtual 25, 4, 86, 2, [])), (5, .inr (.nop, 1, 5, 0, []))]
def b94_5 : List kIt := [(5, .inr (.ifCond .eq 22, 0, 27, 0, [])), (8, .inl (.aload_n 0, 0, 0, 0)), (9, .inl (.getfield 9, 7, 0, 0)), (12, .inl (.iload_n 1, 0, 0, 0)), (13, .inl (.iaload, 0, 0, 0)), (14, .inl (.iconst 5, 0, 0, 0)), (15, .inr (.if_icmp .ne 12, 0, 27, 0, [])), (18, .inl (.aload_n 0, 0, 0, 0)), (19, .inl (.getfield 18, 7, 2, 0)), (22, .inl (.iload_n 1, 0, 0, 0)), (23, .inl (.iaload, 0, 0, 0)), (24, .inr (.goto 4, 1, 28, 0, []))]
def b94_27 : List kIt := [(27, .inl (.iconst (-1), 0, 0, 0)), (28, .inr (.nop, 1, 28, 0, []))]
def b94_28 : List kIt := [(28, .inr (.ireturn, 3, 0, 0, []))]
def c94 : List (Nat × List kIt) := [(0, b94_0), (5, b94_5), (27, b94_27), (28, b94_28)]
-- 95: PennyALap$Shelves.hold
def b95_0 : List kIt := [(0, .inl (.aload_n 0, 0, 0, 0)), (1, .inl (.iload_n 1, 0, 0, 0)), (2, .inr (.invokevirtual 25, 4, 86, 2, [])), (5, .inr (.nop, 1, 5, 0, []))]
def b95_5 : List kIt := [(5, .inr (.ifCond .eq 27, 0, 32, 0, [])), (8, .inl (.aload_n 0, 0, 0, 0)), (9, .inl (.getfield 9, 7, 0, 0)), (12, .inl (.iload_n 1, 0, 0, 0)), (13, .inl (.iload_n 2, 0, 0, 0)), (14, .inl (.iconst (-1), 0, 0, 0)), (15, .inr (.if_icmp .ne 8, 0, 23, 0, [])), (18, .inl (.bipush 6, 0, 0, 0)), (20, .inr (.goto 4, 1, 24, 0, []))]
def b95_23 : List kIt := [(23, .inl (.iconst 5, 0, 0, 0)), (24, .inr (.nop, 1, 24, 0, []))]
def b95_24 : List kIt := [(24, .inl (.iastore, 0, 0, 0)), (25, .inl (.aload_n 0, 0, 0, 0)), (26, .inl (.getfield 18, 7, 2, 0)), (29, .inl (.iload_n 1, 0, 0, 0)), (30, .inl (.iload_n 2, 0, 0, 0)), (31, .inl (.iastore, 0, 0, 0)), (32, .inr (.nop, 1, 32, 0, []))]
def b95_32 : List kIt := [(32, .inr (.return_, 3, 0, 0, []))]
def c95 : List (Nat × List kIt) := [(0, b95_0), (5, b95_5), (23, b95_23), (24, b95_24), (32, b95_32)]
-- 96: PennyALap$Shelves.holdRow
def b96_0 : List kIt := [(0, .inl (.aload_n 0, 0, 0, 0)), (1, .inl (.iload_n 1, 0, 0, 0)), (2, .inr (.invokevirtual 25, 4, 86, 2, [])), (5, .inr (.nop, 1, 5, 0, []))]
def b96_5 : List kIt := [(5, .inr (.ifCond .eq 55, 0, 60, 0, [])), (8, .inl (.iload_n 3, 0, 0, 0)), (9, .inr (.ifCond .lt 51, 0, 60, 0, [])), (12, .inl (.iload_n 3, 0, 0, 0)), (13, .inl (.bipush 60, 0, 0, 0)), (15, .inr (.if_icmp .gt 45, 0, 60, 0, [])), (18, .inl (.aload_n 0, 0, 0, 0)), (19, .inl (.getfield 9, 7, 0, 0)), (22, .inl (.iload_n 1, 0, 0, 0)), (23, .inl (.iload_n 2, 0, 0, 0)), (24, .inl (.iastore, 0, 0, 0)), (25, .inl (.aload_n 0, 0, 0, 0)), (26, .inl (.getfield 15, 7, 1, 0)), (29, .inl (.iload_n 1, 0, 0, 0)), (30, .inl (.iload_n 3, 0, 0, 0)), (31, .inl (.iastore, 0, 0, 0)), (32, .inl (.iconst 0, 0, 0, 0)), (33, .inl (.istore 4, 0, 0, 0)), (35, .inr (.nop, 1, 35, 0, []))]
def b96_35 : List kIt := [(35, .inl (.iload 4, 0, 0, 0)), (37, .inl (.iload_n 3, 0, 0, 0)), (38, .inr (.if_icmp .ge 22, 0, 60, 0, [])), (41, .inl (.aload_n 0, 0, 0, 0)), (42, .inl (.getfield 21, 7, 3, 0)), (45, .inl (.iload_n 1, 0, 0, 0)), (46, .inl (.bipush 60, 0, 0, 0)), (48, .inl (.imul, 0, 0, 0)), (49, .inl (.iload 4, 0, 0, 0)), (51, .inl (.iadd, 0, 0, 0)), (52, .inl (.lconst 0, 0, 0, 0)), (53, .inl (.lastore, 0, 0, 0)), (54, .inl (.iinc 4 1, 0, 0, 0)), (57, .inr (.goto (-22), 1, 35, 0, []))]
def b96_60 : List kIt := [(60, .inr (.return_, 3, 0, 0, []))]
def c96 : List (Nat × List kIt) := [(0, b96_0), (5, b96_5), (35, b96_35), (60, b96_60)]
-- 97: PennyALap$Shelves.value
def b97_0 : List kIt := [(0, .inl (.aload_n 0, 0, 0, 0)), (1, .inl (.iload_n 1, 0, 0, 0)), (2, .inl (.iload_n 2, 0, 0, 0)), (3, .inr (.invokevirtual 32, 4, 92, 3, [])), (6, .inr (.nop, 1, 6, 0, []))]
def b97_6 : List kIt := [(6, .inr (.ifCond .eq 17, 0, 23, 0, [])), (9, .inl (.aload_n 0, 0, 0, 0)), (10, .inl (.getfield 21, 7, 3, 0)), (13, .inl (.iload_n 1, 0, 0, 0)), (14, .inl (.bipush 60, 0, 0, 0)), (16, .inl (.imul, 0, 0, 0)), (17, .inl (.iload_n 2, 0, 0, 0)), (18, .inl (.iadd, 0, 0, 0)), (19, .inl (.laload, 0, 0, 0)), (20, .inr (.goto 4, 1, 24, 0, []))]
def b97_23 : List kIt := [(23, .inl (.lconst 0, 0, 0, 0)), (24, .inr (.nop, 1, 24, 0, []))]
def b97_24 : List kIt := [(24, .inr (.lreturn, 3, 0, 0, []))]
def c97 : List (Nat × List kIt) := [(0, b97_0), (6, b97_6), (23, b97_23), (24, b97_24)]
-- 98: PennyALap$Shelves.become
def b98_0 : List kIt := [(0, .inl (.aload_n 0, 0, 0, 0)), (1, .inl (.iload_n 1, 0, 0, 0)), (2, .inl (.iload_n 2, 0, 0, 0)), (3, .inr (.invokevirtual 32, 4, 92, 3, [])), (6, .inr (.nop, 1, 6, 0, []))]
def b98_6 : List kIt := [(6, .inr (.ifCond .eq 24, 0, 30, 0, [])), (9, .inl (.aload_n 0, 0, 0, 0)), (10, .inl (.getfield 21, 7, 3, 0)), (13, .inl (.iload_n 1, 0, 0, 0)), (14, .inl (.bipush 60, 0, 0, 0)), (16, .inl (.imul, 0, 0, 0)), (17, .inl (.iload_n 2, 0, 0, 0)), (18, .inl (.iadd, 0, 0, 0)), (19, .inl (.aload_n 0, 0, 0, 0)), (20, .inl (.getfield 9, 7, 0, 0)), (23, .inl (.iload_n 1, 0, 0, 0)), (24, .inl (.iaload, 0, 0, 0)), (25, .inl (.lload_n 3, 0, 0, 0)), (26, .inr (.invokestatic 36, 4, 99, 2, [])), (29, .inr (.nop, 1, 29, 0, []))]
def b98_29 : List kIt := [(29, .inl (.lastore, 0, 0, 0)), (30, .inr (.nop, 1, 30, 0, []))]
def b98_30 : List kIt := [(30, .inr (.return_, 3, 0, 0, []))]
def c98 : List (Nat × List kIt) := [(0, b98_0), (6, b98_6), (29, b98_29), (30, b98_30)]
-- 99: PennyALap$Shelves.cut
def b99_0 : List kIt := [(0, .inl (.iload_n 0, 0, 0, 0)), (1, .inr (.nop, 2, 48, 0, [(0, 32), (1, 37), (2, 42), (3, 46)]))]
def b99_32 : List kIt := [(32, .inl (.lload_n 1, 0, 0, 0)), (33, .inl (.l2i, 0, 0, 0)), (34, .inl (.i2b, 0, 0, 0)), (35, .inl (.i2l, 0, 0, 0)), (36, .inr (.lreturn, 3, 0, 0, []))]
def b99_37 : List kIt := [(37, .inl (.lload_n 1, 0, 0, 0)), (38, .inl (.l2i, 0, 0, 0)), (39, .inl (.i2s, 0, 0, 0)), (40, .inl (.i2l, 0, 0, 0)), (41, .inr (.lreturn, 3, 0, 0, []))]
def b99_42 : List kIt := [(42, .inl (.lload_n 1, 0, 0, 0)), (43, .inl (.l2i, 0, 0, 0)), (44, .inl (.i2l, 0, 0, 0)), (45, .inr (.lreturn, 3, 0, 0, []))]
def b99_46 : List kIt := [(46, .inl (.lload_n 1, 0, 0, 0)), (47, .inr (.lreturn, 3, 0, 0, []))]
def b99_48 : List kIt := [(48, .inl (.lload_n 1, 0, 0, 0)), (49, .inl (.lconst 0, 0, 0, 0)), (50, .inl (.lcmp, 0, 0, 0)), (51, .inr (.ifCond .eq 7, 0, 58, 0, [])), (54, .inl (.lconst 1, 0, 0, 0)), (55, .inr (.goto 4, 1, 59, 0, []))]
def b99_58 : List kIt := [(58, .inl (.lconst 0, 0, 0, 0)), (59, .inr (.nop, 1, 59, 0, []))]
def b99_59 : List kIt := [(59, .inr (.lreturn, 3, 0, 0, []))]
def c99 : List (Nat × List kIt) := [(0, b99_0), (32, b99_32), (37, b99_37), (42, b99_42), (46, b99_46), (48, b99_48), (58, b99_58), (59, b99_59)]
-- 100: PennyALap$Shelves.hasPart
def b100_0 : List kIt := [(0, .inl (.aload_n 0, 0, 0, 0)), (1, .inl (.iload_n 1, 0, 0, 0)), (2, .inr (.invokevirtual 29, 4, 88, 2, [])), (5, .inr (.nop, 1, 5, 0, []))]
def b100_5 : List kIt := [(5, .inr (.ifCond .eq 37, 0, 42, 0, [])), (8, .inl (.iload_n 2, 0, 0, 0)), (9, .inr (.ifCond .lt 33, 0, 42, 0, [])), (12, .inl (.iload_n 3, 0, 0, 0)), (13, .inr (.ifCond .lt 29, 0, 42, 0, [])), (16, .inl (.iload_n 3, 0, 0, 0)), (17, .inl (.aload_n 0, 0, 0, 0)), (18, .inl (.getfield 15, 7, 1, 0)), (21, .inl (.iload_n 1, 0, 0, 0)), (22, .inl (.iaload, 0, 0, 0)), (23, .inr (.if_icmp .gt 19, 0, 42, 0, [])), (26, .inl (.iload_n 2, 0, 0, 0)), (27, .inl (.aload_n 0, 0, 0, 0)), (28, .inl (.getfield 15, 7, 1, 0)), (31, .inl (.iload_n 1, 0, 0, 0)), (32, .inl (.iaload, 0, 0, 0)), (33, .inl (.iload_n 3, 0, 0, 0)), (34, .inl (.isub, 0, 0, 0)), (35, .inr (.if_icmp .gt 7, 0, 42, 0, [])), (38, .inl (.iconst 1, 0, 0, 0)), (39, .inr (.goto 4, 1, 43, 0, []))]
def b100_42 : List kIt := [(42, .inl (.iconst 0, 0, 0, 0)), (43, .inr (.nop, 1, 43, 0, []))]
def b100_43 : List kIt := [(43, .inr (.ireturn, 3, 1, 0, []))]
def c100 : List (Nat × List kIt) := [(0, b100_0), (5, b100_5), (42, b100_42), (43, b100_43)]
-- 101: PennyALap$Shelves.copyPart
def b101_0 : List kIt := [(0, .inl (.aload_n 0, 0, 0, 0)), (1, .inl (.iload_n 1, 0, 0, 0)), (2, .inl (.iload_n 2, 0, 0, 0)), (3, .inl (.iload 5, 0, 0, 0)), (5, .inr (.invokevirtual 40, 4, 100, 4, [])), (8, .inr (.nop, 1, 8, 0, []))]
def b101_8 : List kIt := [(8, .inr (.ifCond .eq 41, 0, 49, 0, [])), (11, .inl (.aload_n 0, 0, 0, 0)), (12, .inl (.iload_n 3, 0, 0, 0)), (13, .inl (.iload 4, 0, 0, 0)), (15, .inl (.iload 5, 0, 0, 0)), (17, .inr (.invokevirtual 40, 4, 100, 4, [])), (20, .inr (.nop, 1, 20, 0, []))]
def b101_20 : List kIt := [(20, .inr (.ifCond .eq 29, 0, 49, 0, [])), (23, .inl (.aload_n 0, 0, 0, 0)), (24, .inl (.getfield 21, 7, 3, 0)), (27, .inl (.iload_n 1, 0, 0, 0)), (28, .inl (.bipush 60, 0, 0, 0)), (30, .inl (.imul, 0, 0, 0)), (31, .inl (.iload_n 2, 0, 0, 0)), (32, .inl (.iadd, 0, 0, 0)), (33, .inl (.aload_n 0, 0, 0, 0)), (34, .inl (.getfield 21, 7, 3, 0)), (37, .inl (.iload_n 3, 0, 0, 0)), (38, .inl (.bipush 60, 0, 0, 0)), (40, .inl (.imul, 0, 0, 0)), (41, .inl (.iload 4, 0, 0, 0)), (43, .inl (.iadd, 0, 0, 0)), (44, .inl (.iload 5, 0, 0, 0)), (46, .inl (.invokestatic 44, 4, 0, 0)), (49, .inr (.nop, 1, 49, 0, []))]
def b101_49 : List kIt := [(49, .inr (.return_, 3, 0, 0, []))]
def c101 : List (Nat × List kIt) := [(0, b101_0), (8, b101_8), (20, b101_20), (49, b101_49)]
-- 102: PennyALap$Thought.lapsIn
def b102_0 : List kIt := [(0, .inl (.aload_n 0, 0, 0, 0)), (1, .inl (.getfield 21, 8, 0, 0)), (4, .inl (.iload_n 1, 0, 0, 0)), (5, .inl (.iconst 2, 0, 0, 0)), (6, .inr (.invokevirtual 25, 4, 46, 3, [])), (9, .inr (.nop, 1, 9, 0, []))]
def b102_9 : List kIt := [(9, .inl (.istore_n 3, 0, 0, 0)), (10, .inl (.iconst 0, 0, 0, 0)), (11, .inl (.istore 4, 0, 0, 0)), (13, .inl (.iconst 0, 0, 0, 0)), (14, .inl (.istore 5, 0, 0, 0)), (16, .inr (.nop, 1, 16, 0, []))]
def b102_16 : List kIt := [(16, .inl (.iload 5, 0, 0, 0)), (18, .inl (.iload_n 3, 0, 0, 0)), (19, .inr (.if_icmp .ge 35, 0, 54, 0, [])), (22, .inl (.iload 4, 0, 0, 0)), (24, .inl (.aload_n 0, 0, 0, 0)), (25, .inl (.getfield 21, 8, 0, 0)), (28, .inl (.iload_n 1, 0, 0, 0)), (29, .inl (.iload 5, 0, 0, 0)), (31, .inl (.iload 4, 0, 0, 0)), (33, .inr (.invokevirtual 31, 4, 50, 4, [])), (36, .inr (.nop, 1, 36, 0, []))]
def b102_36 : List kIt := [(36, .inl (.iadd, 0, 0, 0)), (37, .inl (.istore 4, 0, 0, 0)), (39, .inl (.iload 4, 0, 0, 0)), (41, .inl (.iload_n 2, 0, 0, 0)), (42, .inr (.if_icmp .le 6, 0, 48, 0, [])), (45, .inl (.iload 5, 0, 0, 0)), (47, .inr (.ireturn, 3, 0, 0, []))]
def b102_48 : List kIt := [(48, .inl (.iinc 5 1, 0, 0, 0)), (51, .inr (.goto (-35), 1, 16, 0, []))]
def b102_54 : List kIt := [(54, .inl (.iload_n 3, 0, 0, 0)), (55, .inr (.ireturn, 3, 0, 0, []))]
def c102 : List (Nat × List kIt) := [(0, b102_0), (9, b102_9), (16, b102_16), (36, b102_36), (48, b102_48), (54, b102_54)]
-- 103: PennyALap$Thought.think
def b103_0 : List kIt := [(0, .inl (.iconst 0, 0, 0, 0)), (1, .inl (.istore_n 2, 0, 0, 0)), (2, .inr (.nop, 1, 2, 0, []))]
def b103_2 : List kIt := [(2, .inl (.iload_n 2, 0, 0, 0)), (3, .inl (.aload_n 0, 0, 0, 0)), (4, .inl (.getfield 21, 8, 0, 0)), (7, .inr (.invokevirtual 35, 4, 38, 1, [])), (10, .inr (.nop, 1, 10, 0, []))]
def b103_10 : List kIt := [(10, .inr (.if_icmp .ge 21, 0, 31, 0, [])), (13, .inl (.aload_n 0, 0, 0, 0)), (14, .inl (.getfield 9, 8, 1, 0)), (17, .inl (.iload_n 2, 0, 0, 0)), (18, .inl (.aload_n 0, 0, 0, 0)), (19, .inl (.iload_n 2, 0, 0, 0)), (20, .inl (.iload_n 1, 0, 0, 0)), (21, .inr (.invokevirtual 39, 4, 102, 3, [])), (24, .inr (.nop, 1, 24, 0, []))]
def b103_24 : List kIt := [(24, .inl (.iastore, 0, 0, 0)), (25, .inl (.iinc 2 1, 0, 0, 0)), (28, .inr (.goto (-26), 1, 2, 0, []))]
def b103_31 : List kIt := [(31, .inr (.return_, 3, 0, 0, []))]
def c103 : List (Nat × List kIt) := [(0, b103_0), (2, b103_2), (10, b103_10), (24, b103_24), (31, b103_31)]
-- 104: PennyALap$Thought.lapsNow
def b104_0 : List kIt := [(0, .inl (.aload_n 0, 0, 0, 0)), (1, .inl (.getfield 21, 8, 0, 0)), (4, .inl (.iload_n 1, 0, 0, 0)), (5, .inr (.invokevirtual 42, 4, 40, 2, [])), (8, .inr (.nop, 1, 8, 0, []))]
def b104_8 : List kIt := [(8, .inr (.ifCond .eq 12, 0, 20, 0, [])), (11, .inl (.aload_n 0, 0, 0, 0)), (12, .inl (.getfield 9, 8, 1, 0)), (15, .inl (.iload_n 1, 0, 0, 0)), (16, .inl (.iaload, 0, 0, 0)), (17, .inr (.goto 4, 1, 21, 0, []))]
def b104_20 : List kIt := [(20, .inl (.iconst 0, 0, 0, 0)), (21, .inr (.nop, 1, 21, 0, []))]
def b104_21 : List kIt := [(21, .inr (.ireturn, 3, 0, 0, []))]
def c104 : List (Nat × List kIt) := [(0, b104_0), (8, b104_8), (20, b104_20), (21, b104_21)]
-- 105: PennyALap$Thought.timeLaps
def b105_0 : List kIt := [(0, .inl (.iconst 0, 0, 0, 0)), (1, .inl (.istore_n 2, 0, 0, 0)), (2, .inr (.nop, 1, 2, 0, []))]
def b105_2 : List kIt := [(2, .inl (.iload_n 2, 0, 0, 0)), (3, .inl (.aload_n 0, 0, 0, 0)), (4, .inl (.getfield 21, 8, 0, 0)), (7, .inr (.invokevirtual 35, 4, 38, 1, [])), (10, .inr (.nop, 1, 10, 0, []))]
def b105_10 : List kIt := [(10, .inr (.if_icmp .ge 122, 0, 132, 0, [])), (13, .inl (.aload_n 0, 0, 0, 0)), (14, .inl (.getfield 21, 8, 0, 0)), (17, .inl (.iload_n 2, 0, 0, 0)), (18, .inl (.iconst 2, 0, 0, 0)), (19, .inr (.invokevirtual 25, 4, 46, 3, [])), (22, .inr (.nop, 1, 22, 0, []))]
def b105_22 : List kIt := [(22, .inl (.bipush 99, 0, 0, 0)), (24, .inl (.invokestatic 46, 2, 0, 0)), (27, .inl (.istore_n 3, 0, 0, 0)), (28, .inl (.aload_n 0, 0, 0, 0)), (29, .inl (.getfield 18, 8, 3, 0)), (32, .inl (.iload_n 2, 0, 0, 0)), (33, .inl (.iconst 0, 0, 0, 0)), (34, .inl (.iastore, 0, 0, 0)), (35, .inl (.aload_n 0, 0, 0, 0)), (36, .inl (.getfield 15, 8, 2, 0)), (39, .inl (.iload_n 2, 0, 0, 0)), (40, .inl (.bipush 100, 0, 0, 0)), (42, .inl (.imul, 0, 0, 0)), (43, .inl (.iconst 0, 0, 0, 0)), (44, .inl (.iastore, 0, 0, 0)), (45, .inl (.iconst 0, 0, 0, 0)), (46, .inl (.istore 4, 0, 0, 0)), (48, .inr (.nop, 1, 48, 0, []))]
def b105_48 : List kIt := [(48, .inl (.iload 4, 0, 0, 0)), (50, .inl (.iload_n 3, 0, 0, 0)), (51, .inr (.if_icmp .ge 75, 0, 126, 0, [])), (54, .inl (.aload_n 0, 0, 0, 0)), (55, .inl (.getfield 15, 8, 2, 0)), (58, .inl (.iload_n 2, 0, 0, 0)), (59, .inl (.bipush 100, 0, 0, 0)), (61, .inl (.imul, 0, 0, 0)), (62, .inl (.iload 4, 0, 0, 0)), (64, .inl (.iadd, 0, 0, 0)), (65, .inl (.iaload, 0, 0, 0)), (66, .inl (.istore 5, 0, 0, 0)), (68, .inl (.iload 5, 0, 0, 0)), (70, .inl (.aload_n 0, 0, 0, 0)), (71, .inl (.getfield 21, 8, 0, 0)), (74, .inl (.iload_n 2, 0, 0, 0)), (75, .inl (.iload 4, 0, 0, 0)), (77, .inl (.iload 5, 0, 0, 0)), (79, .inr (.invokevirtual 31, 4, 50, 4, [])), (82, .inr (.nop, 1, 82, 0, []))]
def b105_82 : List kIt := [(82, .inl (.iadd, 0, 0, 0)), (83, .inl (.istore 6, 0, 0, 0)), (85, .inl (.iload 6, 0, 0, 0)), (87, .inl (.iload_n 1, 0, 0, 0)), (88, .inr (.if_icmp .le 6, 0, 94, 0, [])), (91, .inr (.goto 35, 1, 126, 0, []))]
def b105_94 : List kIt := [(94, .inl (.aload_n 0, 0, 0, 0)), (95, .inl (.getfield 15, 8, 2, 0)), (98, .inl (.iload_n 2, 0, 0, 0)), (99, .inl (.bipush 100, 0, 0, 0)), (101, .inl (.imul, 0, 0, 0)), (102, .inl (.iload 4, 0, 0, 0)), (104, .inl (.iadd, 0, 0, 0)), (105, .inl (.iconst 1, 0, 0, 0)), (106, .inl (.iadd, 0, 0, 0)), (107, .inl (.iload 6, 0, 0, 0)), (109, .inl (.iastore, 0, 0, 0)), (110, .inl (.aload_n 0, 0, 0, 0)), (111, .inl (.getfield 18, 8, 3, 0)), (114, .inl (.iload_n 2, 0, 0, 0)), (115, .inl (.iload 4, 0, 0, 0)), (117, .inl (.iconst 1, 0, 0, 0)), (118, .inl (.iadd, 0, 0, 0)), (119, .inl (.iastore, 0, 0, 0)), (120, .inl (.iinc 4 1, 0, 0, 0)), (123, .inr (.goto (-75), 1, 48, 0, []))]
def b105_126 : List kIt := [(126, .inl (.iinc 2 1, 0, 0, 0)), (129, .inr (.goto (-127), 1, 2, 0, []))]
def b105_132 : List kIt := [(132, .inr (.return_, 3, 0, 0, []))]
def c105 : List (Nat × List kIt) := [(0, b105_0), (2, b105_2), (10, b105_10), (22, b105_22), (48, b105_48), (82, b105_82), (94, b105_94), (126, b105_126), (132, b105_132)]
-- 106: PennyALap$Thought.reachOf
def b106_0 : List kIt := [(0, .inl (.aload_n 0, 0, 0, 0)), (1, .inl (.getfield 21, 8, 0, 0)), (4, .inl (.iload_n 1, 0, 0, 0)), (5, .inr (.invokevirtual 42, 4, 40, 2, [])), (8, .inr (.nop, 1, 8, 0, []))]
def b106_8 : List kIt := [(8, .inr (.ifCond .eq 12, 0, 20, 0, [])), (11, .inl (.aload_n 0, 0, 0, 0)), (12, .inl (.getfield 18, 8, 3, 0)), (15, .inl (.iload_n 1, 0, 0, 0)), (16, .inl (.iaload, 0, 0, 0)), (17, .inr (.goto 4, 1, 21, 0, []))]
def b106_20 : List kIt := [(20, .inl (.iconst 0, 0, 0, 0)), (21, .inr (.nop, 1, 21, 0, []))]
def b106_21 : List kIt := [(21, .inr (.ireturn, 3, 0, 0, []))]
def c106 : List (Nat × List kIt) := [(0, b106_0), (8, b106_8), (20, b106_20), (21, b106_21)]
-- 107: PennyALap$Thought.endOf
def b107_0 : List kIt := [(0, .inl (.aload_n 0, 0, 0, 0)), (1, .inl (.getfield 21, 8, 0, 0)), (4, .inl (.iload_n 1, 0, 0, 0)), (5, .inr (.invokevirtual 42, 4, 40, 2, [])), (8, .inr (.nop, 1, 8, 0, []))]
def b107_8 : List kIt := [(8, .inr (.ifCond .eq 27, 0, 35, 0, [])), (11, .inl (.iload_n 2, 0, 0, 0)), (12, .inl (.iconst 0, 0, 0, 0)), (13, .inl (.bipush 99, 0, 0, 0)), (15, .inr (.invokestatic 51, 4, 118, 3, [])), (18, .inr (.nop, 1, 18, 0, []))]
def b107_18 : List kIt := [(18, .inr (.ifCond .eq 17, 0, 35, 0, [])), (21, .inl (.aload_n 0, 0, 0, 0)), (22, .inl (.getfield 15, 8, 2, 0)), (25, .inl (.iload_n 1, 0, 0, 0)), (26, .inl (.bipush 100, 0, 0, 0)), (28, .inl (.imul, 0, 0, 0)), (29, .inl (.iload_n 2, 0, 0, 0)), (30, .inl (.iadd, 0, 0, 0)), (31, .inl (.iaload, 0, 0, 0)), (32, .inr (.goto 4, 1, 36, 0, []))]
def b107_35 : List kIt := [(35, .inl (.iconst 0, 0, 0, 0)), (36, .inr (.nop, 1, 36, 0, []))]
def b107_36 : List kIt := [(36, .inr (.ireturn, 3, 0, 0, []))]
def c107 : List (Nat × List kIt) := [(0, b107_0), (8, b107_8), (18, b107_18), (35, b107_35), (36, b107_36)]
-- 108: PennyALap$Thought.beginMinutes
def b108_0 : List kIt := [(0, .inl (.aload_n 0, 0, 0, 0)), (1, .inl (.iload_n 1, 0, 0, 0)), (2, .inr (.invokevirtual 55, 4, 105, 2, [])), (5, .inr (.nop, 1, 5, 0, []))]
def b108_5 : List kIt := [(5, .inl (.iconst 0, 0, 0, 0)), (6, .inl (.istore_n 2, 0, 0, 0)), (7, .inr (.nop, 1, 7, 0, []))]
def b108_7 : List kIt := [(7, .inl (.iload_n 2, 0, 0, 0)), (8, .inl (.bipush 6, 0, 0, 0)), (10, .inr (.if_icmp .ge 16, 0, 26, 0, [])), (13, .inl (.aload_n 0, 0, 0, 0)), (14, .inl (.getfield 9, 8, 1, 0)), (17, .inl (.iload_n 2, 0, 0, 0)), (18, .inl (.iconst 0, 0, 0, 0)), (19, .inl (.iastore, 0, 0, 0)), (20, .inl (.iinc 2 1, 0, 0, 0)), (23, .inr (.goto (-16), 1, 7, 0, []))]
def b108_26 : List kIt := [(26, .inr (.return_, 3, 0, 0, []))]
def c108 : List (Nat × List kIt) := [(0, b108_0), (5, b108_5), (7, b108_7), (26, b108_26)]
-- 109: PennyALap$Thought.goOnTo
def b109_0 : List kIt := [(0, .inl (.iload_n 1, 0, 0, 0)), (1, .inr (.ifCond .ne 7, 0, 8, 0, [])), (4, .inl (.iconst 1, 0, 0, 0)), (5, .inr (.goto 4, 1, 9, 0, []))]
def b109_8 : List kIt := [(8, .inl (.iconst 0, 0, 0, 0)), (9, .inr (.nop, 1, 9, 0, []))]
def b109_9 : List kIt := [(9, .inl (.istore_n 2, 0, 0, 0)), (10, .inl (.iconst 0, 0, 0, 0)), (11, .inl (.istore_n 3, 0, 0, 0)), (12, .inr (.nop, 1, 12, 0, []))]
def b109_12 : List kIt := [(12, .inl (.iload_n 3, 0, 0, 0)), (13, .inl (.aload_n 0, 0, 0, 0)), (14, .inl (.getfield 21, 8, 0, 0)), (17, .inr (.invokevirtual 35, 4, 38, 1, [])), (20, .inr (.nop, 1, 20, 0, []))]
def b109_20 : List kIt := [(20, .inr (.if_icmp .ge 53, 0, 73, 0, [])), (23, .inl (.aload_n 0, 0, 0, 0)), (24, .inl (.getfield 9, 8, 1, 0)), (27, .inl (.iload_n 3, 0, 0, 0)), (28, .inl (.iaload, 0, 0, 0)), (29, .inl (.aload_n 0, 0, 0, 0)), (30, .inl (.getfield 18, 8, 3, 0)), (33, .inl (.iload_n 3, 0, 0, 0)), (34, .inl (.iaload, 0, 0, 0)), (35, .inr (.if_icmp .ge 32, 0, 67, 0, [])), (38, .inl (.aload_n 0, 0, 0, 0)), (39, .inl (.iload_n 3, 0, 0, 0)), (40, .inl (.aload_n 0, 0, 0, 0)), (41, .inl (.getfield 9, 8, 1, 0)), (44, .inl (.iload_n 3, 0, 0, 0)), (45, .inl (.iaload, 0, 0, 0)), (46, .inl (.iconst 1, 0, 0, 0)), (47, .inl (.iadd, 0, 0, 0)), (48, .inr (.invokevirtual 59, 4, 107, 3, [])), (51, .inr (.nop, 1, 51, 0, []))]
def b109_51 : List kIt := [(51, .inl (.iload_n 1, 0, 0, 0)), (52, .inr (.if_icmp .gt 15, 0, 67, 0, [])), (55, .inl (.aload_n 0, 0, 0, 0)), (56, .inl (.getfield 9, 8, 1, 0)), (59, .inl (.iload_n 3, 0, 0, 0)), (60, .inl (.dup2, 0, 0, 0)), (61, .inl (.iaload, 0, 0, 0)), (62, .inl (.iconst 1, 0, 0, 0)), (63, .inl (.iadd, 0, 0, 0)), (64, .inl (.iastore, 0, 0, 0)), (65, .inl (.iconst 1, 0, 0, 0)), (66, .inl (.istore_n 2, 0, 0, 0)), (67, .inr (.nop, 1, 67, 0, []))]
def b109_67 : List kIt := [(67, .inl (.iinc 3 1, 0, 0, 0)), (70, .inr (.goto (-58), 1, 12, 0, []))]
def b109_73 : List kIt := [(73, .inl (.iload_n 2, 0, 0, 0)), (74, .inr (.ireturn, 3, 1, 0, []))]
def c109 : List (Nat × List kIt) := [(0, b109_0), (8, b109_8), (9, b109_9), (12, b109_12), (20, b109_20), (51, b109_51), (67, b109_67), (73, b109_73)]
-- 110: PennyALap$Thought.drawField
def b110_0 : List kIt := [(0, .inl (.iload_n 1, 0, 0, 0)), (1, .inl (.istore_n 3, 0, 0, 0)), (2, .inl (.iconst 0, 0, 0, 0)), (3, .inl (.istore 4, 0, 0, 0)), (5, .inr (.nop, 1, 5, 0, []))]
def b110_5 : List kIt := [(5, .inl (.iload 4, 0, 0, 0)), (7, .inl (.aload_n 0, 0, 0, 0)), (8, .inl (.getfield 21, 8, 0, 0)), (11, .inr (.invokevirtual 35, 4, 38, 1, [])), (14, .inr (.nop, 1, 14, 0, []))]
def b110_14 : List kIt := [(14, .inr (.if_icmp .ge 18, 0, 32, 0, [])), (17, .inl (.aload_n 0, 0, 0, 0)), (18, .inl (.iload 4, 0, 0, 0)), (20, .inl (.iload_n 3, 0, 0, 0)), (21, .inl (.iload_n 2, 0, 0, 0)), (22, .inr (.invokevirtual 62, 4, 111, 4, [])), (25, .inr (.nop, 1, 25, 0, []))]
def b110_25 : List kIt := [(25, .inl (.istore_n 3, 0, 0, 0)), (26, .inl (.iinc 4 1, 0, 0, 0)), (29, .inr (.goto (-24), 1, 5, 0, []))]
def b110_32 : List kIt := [(32, .inl (.iload_n 3, 0, 0, 0)), (33, .inr (.ireturn, 3, 0, 0, []))]
def c110 : List (Nat × List kIt) := [(0, b110_0), (5, b110_5), (14, b110_14), (25, b110_25), (32, b110_32)]
-- 111: PennyALap$Thought.drawLaps
def b111_0 : List kIt := [(0, .inl (.iload_n 2, 0, 0, 0)), (1, .inl (.istore 4, 0, 0, 0)), (3, .inl (.aload_n 0, 0, 0, 0)), (4, .inl (.getfield 21, 8, 0, 0)), (7, .inl (.iload_n 1, 0, 0, 0)), (8, .inl (.iconst 2, 0, 0, 0)), (9, .inr (.invokevirtual 25, 4, 46, 3, [])), (12, .inr (.nop, 1, 12, 0, []))]
def b111_12 : List kIt := [(12, .inl (.istore 5, 0, 0, 0)), (14, .inl (.aload_n 0, 0, 0, 0)), (15, .inl (.getfield 21, 8, 0, 0)), (18, .inl (.iload_n 1, 0, 0, 0)), (19, .inl (.iconst 3, 0, 0, 0)), (20, .inr (.invokevirtual 25, 4, 46, 3, [])), (23, .inr (.nop, 1, 23, 0, []))]
def b111_23 : List kIt := [(23, .inl (.istore 6, 0, 0, 0)), (25, .inl (.iconst 0, 0, 0, 0)), (26, .inl (.istore 7, 0, 0, 0)), (28, .inl (.aload_n 0, 0, 0, 0)), (29, .inl (.getfield 9, 8, 1, 0)), (32, .inl (.iload_n 1, 0, 0, 0)), (33, .inl (.iconst 0, 0, 0, 0)), (34, .inl (.iastore, 0, 0, 0)), (35, .inl (.iconst 0, 0, 0, 0)), (36, .inl (.istore 8, 0, 0, 0)), (38, .inr (.nop, 1, 38, 0, []))]
def b111_38 : List kIt := [(38, .inl (.iload 8, 0, 0, 0)), (40, .inl (.iload 5, 0, 0, 0)), (42, .inr (.if_icmp .ge 84, 0, 126, 0, [])), (45, .inl (.iload 4, 0, 0, 0)), (47, .inl (.ldc 65, 0, 0, 1103515245)), (49, .inl (.imul, 0, 0, 0)), (50, .inl (.sipush 12345, 0, 0, 0)), (53, .inl (.iadd, 0, 0, 0)), (54, .inl (.istore 4, 0, 0, 0)), (56, .inl (.aload_n 0, 0, 0, 0)), (57, .inl (.getfield 21, 8, 0, 0)), (60, .inl (.iload_n 1, 0, 0, 0)), (61, .inl (.iload 8, 0, 0, 0)), (63, .inl (.iload 7, 0, 0, 0)), (65, .inr (.invokevirtual 31, 4, 50, 4, [])), (68, .inr (.nop, 1, 68, 0, []))]
def b111_68 : List kIt := [(68, .inl (.istore 9, 0, 0, 0)), (70, .inl (.iload 7, 0, 0, 0)), (72, .inl (.iload 4, 0, 0, 0)), (74, .inl (.bipush 8, 0, 0, 0)), (76, .inl (.iushr, 0, 0, 0)), (77, .inl (.bipush 12, 0, 0, 0)), (79, .inl (.irem, 0, 0, 0)), (80, .inl (.iload 6, 0, 0, 0)), (82, .inr (.if_icmp .ge 14, 0, 96, 0, [])), (85, .inl (.iconst 1, 0, 0, 0)), (86, .inl (.iload 9, 0, 0, 0)), (88, .inl (.iconst 2, 0, 0, 0)), (89, .inl (.idiv, 0, 0, 0)), (90, .inl (.invokestatic 66, 1, 0, 0)), (93, .inr (.goto 5, 1, 98, 0, []))]
def b111_96 : List kIt := [(96, .inl (.iload 9, 0, 0, 0)), (98, .inr (.nop, 1, 98, 0, []))]
def b111_98 : List kIt := [(98, .inl (.iadd, 0, 0, 0)), (99, .inl (.istore 7, 0, 0, 0)), (101, .inl (.iload 7, 0, 0, 0)), (103, .inl (.iload_n 3, 0, 0, 0)), (104, .inr (.if_icmp .le 6, 0, 110, 0, [])), (107, .inr (.goto 19, 1, 126, 0, []))]
def b111_110 : List kIt := [(110, .inl (.aload_n 0, 0, 0, 0)), (111, .inl (.getfield 9, 8, 1, 0)), (114, .inl (.iload_n 1, 0, 0, 0)), (115, .inl (.iload 8, 0, 0, 0)), (117, .inl (.iconst 1, 0, 0, 0)), (118, .inl (.iadd, 0, 0, 0)), (119, .inl (.iastore, 0, 0, 0)), (120, .inl (.iinc 8 1, 0, 0, 0)), (123, .inr (.goto (-85), 1, 38, 0, []))]
def b111_126 : List kIt := [(126, .inl (.iload 4, 0, 0, 0)), (128, .inr (.ireturn, 3, 0, 0, []))]
def c111 : List (Nat × List kIt) := [(0, b111_0), (12, b111_12), (23, b111_23), (38, b111_38), (68, b111_68), (96, b111_96), (98, b111_98), (110, b111_110), (126, b111_126)]
-- 112: PennyALap$Thought.lapsOfAll
def b112_0 : List kIt := [(0, .inl (.iconst 0, 0, 0, 0)), (1, .inl (.istore_n 1, 0, 0, 0)), (2, .inl (.iconst 0, 0, 0, 0)), (3, .inl (.istore_n 2, 0, 0, 0)), (4, .inr (.nop, 1, 4, 0, []))]
def b112_4 : List kIt := [(4, .inl (.iload_n 2, 0, 0, 0)), (5, .inl (.aload_n 0, 0, 0, 0)), (6, .inl (.getfield 21, 8, 0, 0)), (9, .inr (.invokevirtual 35, 4, 38, 1, [])), (12, .inr (.nop, 1, 12, 0, []))]
def b112_12 : List kIt := [(12, .inr (.if_icmp .ge 18, 0, 30, 0, [])), (15, .inl (.iload_n 1, 0, 0, 0)), (16, .inl (.aload_n 0, 0, 0, 0)), (17, .inl (.getfield 9, 8, 1, 0)), (20, .inl (.iload_n 2, 0, 0, 0)), (21, .inl (.iaload, 0, 0, 0)), (22, .inl (.iadd, 0, 0, 0)), (23, .inl (.istore_n 1, 0, 0, 0)), (24, .inl (.iinc 2 1, 0, 0, 0)), (27, .inr (.goto (-23), 1, 4, 0, []))]
def b112_30 : List kIt := [(30, .inl (.iload_n 1, 0, 0, 0)), (31, .inr (.ireturn, 3, 0, 0, []))]
def c112 : List (Nat × List kIt) := [(0, b112_0), (4, b112_4), (12, b112_12), (30, b112_30)]
-- 113: PennyALap$Thought.owedByAll
def b113_0 : List kIt := [(0, .inl (.iconst 0, 0, 0, 0)), (1, .inl (.istore_n 1, 0, 0, 0)), (2, .inl (.iconst 0, 0, 0, 0)), (3, .inl (.istore_n 2, 0, 0, 0)), (4, .inr (.nop, 1, 4, 0, []))]
def b113_4 : List kIt := [(4, .inl (.iload_n 2, 0, 0, 0)), (5, .inl (.aload_n 0, 0, 0, 0)), (6, .inl (.getfield 21, 8, 0, 0)), (9, .inr (.invokevirtual 35, 4, 38, 1, [])), (12, .inr (.nop, 1, 12, 0, []))]
def b113_12 : List kIt := [(12, .inr (.if_icmp .ge 26, 0, 38, 0, [])), (15, .inl (.iload_n 1, 0, 0, 0)), (16, .inl (.aload_n 0, 0, 0, 0)), (17, .inl (.getfield 21, 8, 0, 0)), (20, .inl (.iload_n 2, 0, 0, 0)), (21, .inl (.aload_n 0, 0, 0, 0)), (22, .inl (.getfield 9, 8, 1, 0)), (25, .inl (.iload_n 2, 0, 0, 0)), (26, .inl (.iaload, 0, 0, 0)), (27, .inr (.invokevirtual 69, 4, 56, 3, [])), (30, .inr (.nop, 1, 30, 0, []))]
def b113_30 : List kIt := [(30, .inl (.iadd, 0, 0, 0)), (31, .inl (.istore_n 1, 0, 0, 0)), (32, .inl (.iinc 2 1, 0, 0, 0)), (35, .inr (.goto (-31), 1, 4, 0, []))]
def b113_38 : List kIt := [(38, .inl (.iload_n 1, 0, 0, 0)), (39, .inr (.ireturn, 3, 0, 0, []))]
def c113 : List (Nat × List kIt) := [(0, b113_0), (4, b113_4), (12, b113_12), (30, b113_30), (38, b113_38)]
-- 114: PennyALap$Thought.paidByAll
def b114_0 : List kIt := [(0, .inl (.aload_n 0, 0, 0, 0)), (1, .inr (.invokevirtual 72, 4, 116, 1, [])), (4, .inr (.nop, 1, 4, 0, []))]
def b114_4 : List kIt := [(4, .inl (.bipush (-2), 0, 0, 0)), (6, .inr (.if_icmp .ne 7, 0, 13, 0, [])), (9, .inl (.iconst 0, 0, 0, 0)), (10, .inr (.goto 14, 1, 24, 0, []))]
def b114_13 : List kIt := [(13, .inl (.aload_n 0, 0, 0, 0)), (14, .inl (.getfield 21, 8, 0, 0)), (17, .inl (.iconst 0, 0, 0, 0)), (18, .inl (.bipush 12, 0, 0, 0)), (20, .inr (.invokevirtual 25, 4, 46, 3, [])), (23, .inr (.nop, 1, 23, 0, []))]
def b114_23 : List kIt := [(23, .inl (.ineg, 0, 0, 0)), (24, .inr (.nop, 1, 24, 0, []))]
def b114_24 : List kIt := [(24, .inl (.istore_n 1, 0, 0, 0)), (25, .inl (.iconst 0, 0, 0, 0)), (26, .inl (.istore_n 2, 0, 0, 0)), (27, .inr (.nop, 1, 27, 0, []))]
def b114_27 : List kIt := [(27, .inl (.iload_n 2, 0, 0, 0)), (28, .inl (.aload_n 0, 0, 0, 0)), (29, .inl (.getfield 21, 8, 0, 0)), (32, .inr (.invokevirtual 35, 4, 38, 1, [])), (35, .inr (.nop, 1, 35, 0, []))]
def b114_35 : List kIt := [(35, .inr (.if_icmp .ge 26, 0, 61, 0, [])), (38, .inl (.iload_n 1, 0, 0, 0)), (39, .inl (.aload_n 0, 0, 0, 0)), (40, .inl (.getfield 21, 8, 0, 0)), (43, .inl (.iload_n 2, 0, 0, 0)), (44, .inl (.aload_n 0, 0, 0, 0)), (45, .inl (.getfield 9, 8, 1, 0)), (48, .inl (.iload_n 2, 0, 0, 0)), (49, .inl (.iaload, 0, 0, 0)), (50, .inr (.invokevirtual 75, 4, 57, 3, [])), (53, .inr (.nop, 1, 53, 0, []))]
def b114_53 : List kIt := [(53, .inl (.iadd, 0, 0, 0)), (54, .inl (.istore_n 1, 0, 0, 0)), (55, .inl (.iinc 2 1, 0, 0, 0)), (58, .inr (.goto (-31), 1, 27, 0, []))]
def b114_61 : List kIt := [(61, .inl (.iload_n 1, 0, 0, 0)), (62, .inr (.ireturn, 3, 0, 0, []))]
def c114 : List (Nat × List kIt) := [(0, b114_0), (4, b114_4), (13, b114_13), (23, b114_23), (24, b114_24), (27, b114_27), (35, b114_35), (53, b114_53), (61, b114_61)]
-- 115: PennyALap$Thought.surprised
def b115_0 : List kIt := [(0, .inl (.iconst 0, 0, 0, 0)), (1, .inl (.istore_n 1, 0, 0, 0)), (2, .inl (.iconst 0, 0, 0, 0)), (3, .inl (.istore_n 2, 0, 0, 0)), (4, .inr (.nop, 1, 4, 0, []))]
def b115_4 : List kIt := [(4, .inl (.iload_n 2, 0, 0, 0)), (5, .inl (.aload_n 0, 0, 0, 0)), (6, .inl (.getfield 21, 8, 0, 0)), (9, .inr (.invokevirtual 78, 4, 39, 1, [])), (12, .inr (.nop, 1, 12, 0, []))]
def b115_12 : List kIt := [(12, .inr (.if_icmp .ge 42, 0, 54, 0, [])), (15, .inl (.iload_n 1, 0, 0, 0)), (16, .inl (.aload_n 0, 0, 0, 0)), (17, .inl (.getfield 21, 8, 0, 0)), (20, .inl (.iload_n 2, 0, 0, 0)), (21, .inl (.aload_n 0, 0, 0, 0)), (22, .inl (.aload_n 0, 0, 0, 0)), (23, .inl (.getfield 21, 8, 0, 0)), (26, .inl (.iload_n 2, 0, 0, 0)), (27, .inr (.invokevirtual 81, 4, 42, 2, [])), (30, .inr (.nop, 1, 30, 0, []))]
def b115_30 : List kIt := [(30, .inr (.invokevirtual 85, 4, 104, 2, [])), (33, .inr (.nop, 1, 33, 0, []))]
def b115_33 : List kIt := [(33, .inr (.invokevirtual 88, 4, 55, 3, [])), (36, .inr (.nop, 1, 36, 0, []))]
def b115_36 : List kIt := [(36, .inr (.ifCond .eq 9, 0, 45, 0, [])), (39, .inl (.iconst 1, 0, 0, 0)), (40, .inl (.iload_n 2, 0, 0, 0)), (41, .inl (.ishl, 0, 0, 0)), (42, .inr (.goto 4, 1, 46, 0, []))]
def b115_45 : List kIt := [(45, .inl (.iconst 0, 0, 0, 0)), (46, .inr (.nop, 1, 46, 0, []))]
def b115_46 : List kIt := [(46, .inl (.ior, 0, 0, 0)), (47, .inl (.istore_n 1, 0, 0, 0)), (48, .inl (.iinc 2 1, 0, 0, 0)), (51, .inr (.goto (-47), 1, 4, 0, []))]
def b115_54 : List kIt := [(54, .inl (.iload_n 1, 0, 0, 0)), (55, .inr (.ireturn, 3, 0, 0, []))]
def c115 : List (Nat × List kIt) := [(0, b115_0), (4, b115_4), (12, b115_12), (30, b115_30), (33, b115_33), (36, b115_36), (45, b115_45), (46, b115_46), (54, b115_54)]
-- 116: PennyALap$Thought.mostLaps
def b116_0 : List kIt := [(0, .inl (.bipush (-2), 0, 0, 0)), (2, .inl (.istore_n 1, 0, 0, 0)), (3, .inl (.iconst 0, 0, 0, 0)), (4, .inl (.istore_n 2, 0, 0, 0)), (5, .inl (.iconst 0, 0, 0, 0)), (6, .inl (.istore_n 3, 0, 0, 0)), (7, .inr (.nop, 1, 7, 0, []))]
def b116_7 : List kIt := [(7, .inl (.iload_n 3, 0, 0, 0)), (8, .inl (.aload_n 0, 0, 0, 0)), (9, .inl (.getfield 21, 8, 0, 0)), (12, .inr (.invokevirtual 35, 4, 38, 1, [])), (15, .inr (.nop, 1, 15, 0, []))]
def b116_15 : List kIt := [(15, .inr (.if_icmp .ge 28, 0, 43, 0, [])), (18, .inl (.aload_n 0, 0, 0, 0)), (19, .inl (.getfield 9, 8, 1, 0)), (22, .inl (.iload_n 3, 0, 0, 0)), (23, .inl (.iaload, 0, 0, 0)), (24, .inl (.iload_n 2, 0, 0, 0)), (25, .inr (.if_icmp .le 12, 0, 37, 0, [])), (28, .inl (.aload_n 0, 0, 0, 0)), (29, .inl (.getfield 9, 8, 1, 0)), (32, .inl (.iload_n 3, 0, 0, 0)), (33, .inl (.iaload, 0, 0, 0)), (34, .inl (.istore_n 2, 0, 0, 0)), (35, .inl (.iload_n 3, 0, 0, 0)), (36, .inl (.istore_n 1, 0, 0, 0)), (37, .inr (.nop, 1, 37, 0, []))]
def b116_37 : List kIt := [(37, .inl (.iinc 3 1, 0, 0, 0)), (40, .inr (.goto (-33), 1, 7, 0, []))]
def b116_43 : List kIt := [(43, .inl (.iload_n 1, 0, 0, 0)), (44, .inr (.ireturn, 3, 0, 0, []))]
def c116 : List (Nat × List kIt) := [(0, b116_0), (7, b116_7), (15, b116_15), (37, b116_37), (43, b116_43)]
-- 117: PennyALap$Thought.mostPence
def b117_0 : List kIt := [(0, .inl (.bipush (-2), 0, 0, 0)), (2, .inl (.istore_n 1, 0, 0, 0)), (3, .inl (.iconst (-1), 0, 0, 0)), (4, .inl (.istore_n 2, 0, 0, 0)), (5, .inl (.iconst 0, 0, 0, 0)), (6, .inl (.istore_n 3, 0, 0, 0)), (7, .inr (.nop, 1, 7, 0, []))]
def b117_7 : List kIt := [(7, .inl (.iload_n 3, 0, 0, 0)), (8, .inl (.aload_n 0, 0, 0, 0)), (9, .inl (.getfield 21, 8, 0, 0)), (12, .inr (.invokevirtual 35, 4, 38, 1, [])), (15, .inr (.nop, 1, 15, 0, []))]
def b117_15 : List kIt := [(15, .inr (.if_icmp .ge 36, 0, 51, 0, [])), (18, .inl (.aload_n 0, 0, 0, 0)), (19, .inl (.getfield 21, 8, 0, 0)), (22, .inl (.iload_n 3, 0, 0, 0)), (23, .inl (.aload_n 0, 0, 0, 0)), (24, .inl (.getfield 9, 8, 1, 0)), (27, .inl (.iload_n 3, 0, 0, 0)), (28, .inl (.iaload, 0, 0, 0)), (29, .inr (.invokevirtual 75, 4, 57, 3, [])), (32, .inr (.nop, 1, 32, 0, []))]
def b117_32 : List kIt := [(32, .inl (.istore 4, 0, 0, 0)), (34, .inl (.iload 4, 0, 0, 0)), (36, .inl (.iload_n 2, 0, 0, 0)), (37, .inr (.if_icmp .le 8, 0, 45, 0, [])), (40, .inl (.iload 4, 0, 0, 0)), (42, .inl (.istore_n 2, 0, 0, 0)), (43, .inl (.iload_n 3, 0, 0, 0)), (44, .inl (.istore_n 1, 0, 0, 0)), (45, .inr (.nop, 1, 45, 0, []))]
def b117_45 : List kIt := [(45, .inl (.iinc 3 1, 0, 0, 0)), (48, .inr (.goto (-41), 1, 7, 0, []))]
def b117_51 : List kIt := [(51, .inl (.iload_n 1, 0, 0, 0)), (52, .inr (.ireturn, 3, 0, 0, []))]
def c117 : List (Nat × List kIt) := [(0, b117_0), (7, b117_7), (15, b117_15), (32, b117_32), (45, b117_45), (51, b117_51)]
-- 118: PennyALap.within
def b118_0 : List kIt := [(0, .inl (.iload_n 0, 0, 0, 0)), (1, .inl (.iload_n 1, 0, 0, 0)), (2, .inr (.if_icmp .lt 12, 0, 14, 0, [])), (5, .inl (.iload_n 0, 0, 0, 0)), (6, .inl (.iload_n 2, 0, 0, 0)), (7, .inr (.if_icmp .gt 7, 0, 14, 0, [])), (10, .inl (.iconst 1, 0, 0, 0)), (11, .inr (.goto 4, 1, 15, 0, []))]
def b118_14 : List kIt := [(14, .inl (.iconst 0, 0, 0, 0)), (15, .inr (.nop, 1, 15, 0, []))]
def b118_15 : List kIt := [(15, .inr (.ireturn, 3, 1, 0, []))]
def c118 : List (Nat × List kIt) := [(0, b118_0), (14, b118_14), (15, b118_15)]
-- 119: PennyALap.isPair
def b119_0 : List kIt := [(0, .inl (.iload_n 0, 0, 0, 0)), (1, .inr (.ifCond .lt 25, 0, 26, 0, [])), (4, .inl (.iload_n 1, 0, 0, 0)), (5, .inr (.ifCond .le 21, 0, 26, 0, [])), (8, .inl (.iload_n 0, 0, 0, 0)), (9, .inl (.iload_n 1, 0, 0, 0)), (10, .inl (.idiv, 0, 0, 0)), (11, .inl (.iload_n 2, 0, 0, 0)), (12, .inr (.if_icmp .gt 14, 0, 26, 0, [])), (15, .inl (.iload_n 0, 0, 0, 0)), (16, .inl (.iload_n 1, 0, 0, 0)), (17, .inl (.irem, 0, 0, 0)), (18, .inl (.iload_n 3, 0, 0, 0)), (19, .inr (.if_icmp .gt 7, 0, 26, 0, [])), (22, .inl (.iconst 1, 0, 0, 0)), (23, .inr (.goto 4, 1, 27, 0, []))]
def b119_26 : List kIt := [(26, .inl (.iconst 0, 0, 0, 0)), (27, .inr (.nop, 1, 27, 0, []))]
def b119_27 : List kIt := [(27, .inr (.ireturn, 3, 1, 0, []))]
def c119 : List (Nat × List kIt) := [(0, b119_0), (26, b119_26), (27, b119_27)]
-- 120: PennyALap.child
def b120_0 : List kIt := [(0, .inl (.iload_n 1, 0, 0, 0)), (1, .inl (.getstatic 81, 1000, 0, 0)), (4, .inl (.iconst 0, 0, 0, 0)), (5, .inl (.iaload, 0, 0, 0)), (6, .inl (.getstatic 85, 1001, 0, 0)), (9, .inl (.iconst 0, 0, 0, 0)), (10, .inl (.iaload, 0, 0, 0)), (11, .inr (.invokestatic 88, 4, 118, 3, [])), (14, .inr (.nop, 1, 14, 0, []))]
def b120_14 : List kIt := [(14, .inr (.ifCond .ne 5, 0, 19, 0, [])), (17, .inl (.iconst (-1), 0, 0, 0)), (18, .inr (.ireturn, 3, 0, 0, []))]
def b120_19 : List kIt := [(19, .inl (.aload_n 0, 0, 0, 0)), (20, .inl (.getfield 21, 9, 1, 0)), (23, .inl (.iload_n 1, 0, 0, 0)), (24, .inr (.invokevirtual 92, 4, 47, 2, [])), (27, .inr (.nop, 1, 27, 0, []))]
def b120_27 : List kIt := [(27, .inr (.ireturn, 3, 0, 0, []))]
def c120 : List (Nat × List kIt) := [(0, b120_0), (14, b120_14), (19, b120_19), (27, b120_27)]
-- 121: PennyALap.sponsor
def b121_0 : List kIt := [(0, .inl (.aload_n 0, 0, 0, 0)), (1, .inl (.getfield 21, 9, 1, 0)), (4, .inl (.iload_n 1, 0, 0, 0)), (5, .inl (.iload_n 2, 0, 0, 0)), (6, .inl (.iconst 0, 0, 0, 0)), (7, .inr (.invokevirtual 96, 4, 48, 4, [])), (10, .inr (.nop, 1, 10, 0, []))]
def b121_10 : List kIt := [(10, .inr (.ifCond .ne 5, 0, 15, 0, [])), (13, .inl (.iconst (-1), 0, 0, 0)), (14, .inr (.ireturn, 3, 0, 0, []))]
def b121_15 : List kIt := [(15, .inl (.aload_n 0, 0, 0, 0)), (16, .inl (.getfield 21, 9, 1, 0)), (19, .inl (.iload_n 1, 0, 0, 0)), (20, .inl (.iload_n 2, 0, 0, 0)), (21, .inl (.iconst 0, 0, 0, 0)), (22, .inr (.invokevirtual 99, 4, 49, 4, [])), (25, .inr (.nop, 1, 25, 0, []))]
def b121_25 : List kIt := [(25, .inr (.ireturn, 3, 0, 0, []))]
def c121 : List (Nat × List kIt) := [(0, b121_0), (10, b121_10), (15, b121_15), (25, b121_25)]
-- 122: PennyALap.sponsors
def b122_0 : List kIt := [(0, .inl (.aload_n 0, 0, 0, 0)), (1, .inl (.getfield 77, 9, 10, 0)), (4, .inl (.iload_n 1, 0, 0, 0)), (5, .inr (.invokevirtual 103, 4, 86, 2, [])), (8, .inr (.nop, 1, 8, 0, []))]
def b122_8 : List kIt := [(8, .inr (.ifCond .eq 13, 0, 21, 0, [])), (11, .inl (.iload_n 3, 0, 0, 0)), (12, .inl (.iconst 1, 0, 0, 0)), (13, .inl (.bipush 16, 0, 0, 0)), (15, .inr (.invokestatic 88, 4, 118, 3, [])), (18, .inr (.nop, 1, 18, 0, []))]
def b122_18 : List kIt := [(18, .inr (.ifCond .ne 5, 0, 23, 0, [])), (21, .inr (.nop, 1, 21, 0, []))]
def b122_21 : List kIt := [(21, .inl (.iconst (-1), 0, 0, 0)), (22, .inr (.ireturn, 3, 0, 0, []))]
def b122_23 : List kIt := [(23, .inl (.aload_n 0, 0, 0, 0)), (24, .inl (.getfield 77, 9, 10, 0)), (27, .inl (.iload_n 1, 0, 0, 0)), (28, .inl (.iconst 1, 0, 0, 0)), (29, .inr (.invokevirtual 107, 4, 90, 3, [])), (32, .inr (.nop, 1, 32, 0, []))]
def b122_32 : List kIt := [(32, .inl (.istore 4, 0, 0, 0)), (34, .inl (.iload 4, 0, 0, 0)), (36, .inl (.bipush (-12), 0, 0, 0)), (38, .inr (.if_icmp .ne 6, 0, 44, 0, [])), (41, .inl (.iload 4, 0, 0, 0)), (43, .inr (.ireturn, 3, 0, 0, []))]
def b122_44 : List kIt := [(44, .inl (.iload 4, 0, 0, 0)), (46, .inl (.bipush (-11), 0, 0, 0)), (48, .inr (.if_icmp .eq 7, 0, 55, 0, [])), (51, .inl (.iload_n 2, 0, 0, 0)), (52, .inr (.ifCond .ge 7, 0, 59, 0, [])), (55, .inr (.nop, 1, 55, 0, []))]
def b122_55 : List kIt := [(55, .inl (.iconst 0, 0, 0, 0)), (56, .inr (.goto 10, 1, 66, 0, []))]
def b122_59 : List kIt := [(59, .inl (.aload_n 0, 0, 0, 0)), (60, .inl (.iload_n 1, 0, 0, 0)), (61, .inl (.iload_n 2, 0, 0, 0)), (62, .inl (.iload_n 3, 0, 0, 0)), (63, .inr (.invokevirtual 111, 4, 123, 4, [])), (66, .inr (.nop, 1, 66, 0, []))]
def b122_66 : List kIt := [(66, .inr (.ireturn, 3, 0, 0, []))]
def c122 : List (Nat × List kIt) := [(0, b122_0), (8, b122_8), (18, b122_18), (21, b122_21), (23, b122_23), (32, b122_32), (44, b122_44), (55, b122_55), (59, b122_59), (66, b122_66)]
-- 123: PennyALap.sponsorsFromRow
def b123_0 : List kIt := [(0, .inl (.aload_n 0, 0, 0, 0)), (1, .inl (.getfield 77, 9, 10, 0)), (4, .inl (.iload_n 1, 0, 0, 0)), (5, .inr (.invokevirtual 114, 4, 93, 2, [])), (8, .inr (.nop, 1, 8, 0, []))]
def b123_8 : List kIt := [(8, .inl (.istore 4, 0, 0, 0)), (10, .inl (.iconst 0, 0, 0, 0)), (11, .inl (.istore 5, 0, 0, 0)), (13, .inr (.nop, 1, 13, 0, []))]
def b123_13 : List kIt := [(13, .inl (.iload 5, 0, 0, 0)), (15, .inl (.iload_n 3, 0, 0, 0)), (16, .inr (.if_icmp .ge 108, 0, 124, 0, [])), (19, .inl (.iload_n 2, 0, 0, 0)), (20, .inl (.iload 4, 0, 0, 0)), (22, .inl (.iconst 3, 0, 0, 0)), (23, .inl (.iload 5, 0, 0, 0)), (25, .inl (.iconst 1, 0, 0, 0)), (26, .inl (.iadd, 0, 0, 0)), (27, .inl (.imul, 0, 0, 0)), (28, .inl (.isub, 0, 0, 0)), (29, .inr (.if_icmp .gt 95, 0, 124, 0, [])), (32, .inl (.iload_n 2, 0, 0, 0)), (33, .inl (.iconst 3, 0, 0, 0)), (34, .inl (.iload 5, 0, 0, 0)), (36, .inl (.imul, 0, 0, 0)), (37, .inl (.iadd, 0, 0, 0)), (38, .inl (.istore 6, 0, 0, 0)), (40, .inl (.aload_n 0, 0, 0, 0)), (41, .inl (.getfield 77, 9, 10, 0)), (44, .inl (.iload_n 1, 0, 0, 0)), (45, .inl (.iload 6, 0, 0, 0)), (47, .inr (.invokevirtual 117, 4, 97, 3, [])), (50, .inr (.nop, 1, 50, 0, []))]
def b123_50 : List kIt := [(50, .inl (.l2i, 0, 0, 0)), (51, .inl (.istore 7, 0, 0, 0)), (53, .inl (.aload_n 0, 0, 0, 0)), (54, .inl (.getfield 77, 9, 10, 0)), (57, .inl (.iload_n 1, 0, 0, 0)), (58, .inl (.iload 6, 0, 0, 0)), (60, .inl (.iconst 1, 0, 0, 0)), (61, .inl (.iadd, 0, 0, 0)), (62, .inr (.invokevirtual 117, 4, 97, 3, [])), (65, .inr (.nop, 1, 65, 0, []))]
def b123_65 : List kIt := [(65, .inl (.l2i, 0, 0, 0)), (66, .inl (.istore 8, 0, 0, 0)), (68, .inl (.aload_n 0, 0, 0, 0)), (69, .inl (.getfield 77, 9, 10, 0)), (72, .inl (.iload_n 1, 0, 0, 0)), (73, .inl (.iload 6, 0, 0, 0)), (75, .inl (.iconst 2, 0, 0, 0)), (76, .inl (.iadd, 0, 0, 0)), (77, .inr (.invokevirtual 117, 4, 97, 3, [])), (80, .inr (.nop, 1, 80, 0, []))]
def b123_80 : List kIt := [(80, .inl (.l2i, 0, 0, 0)), (81, .inl (.istore 9, 0, 0, 0)), (83, .inl (.aload_n 0, 0, 0, 0)), (84, .inl (.getfield 21, 9, 1, 0)), (87, .inl (.iload 7, 0, 0, 0)), (89, .inl (.iload 8, 0, 0, 0)), (91, .inl (.iload 9, 0, 0, 0)), (93, .inr (.invokevirtual 96, 4, 48, 4, [])), (96, .inr (.nop, 1, 96, 0, []))]
def b123_96 : List kIt := [(96, .inr (.ifCond .eq 19, 0, 115, 0, [])), (99, .inl (.aload_n 0, 0, 0, 0)), (100, .inl (.getfield 21, 9, 1, 0)), (103, .inl (.iload 7, 0, 0, 0)), (105, .inl (.iload 8, 0, 0, 0)), (107, .inl (.iload 9, 0, 0, 0)), (109, .inr (.invokevirtual 99, 4, 49, 4, [])), (112, .inr (.nop, 1, 112, 0, []))]
def b123_112 : List kIt := [(112, .inr (.ifCond .ge 6, 0, 118, 0, [])), (115, .inr (.nop, 1, 115, 0, []))]
def b123_115 : List kIt := [(115, .inl (.iload 5, 0, 0, 0)), (117, .inr (.ireturn, 3, 0, 0, []))]
def b123_118 : List kIt := [(118, .inl (.iinc 5 1, 0, 0, 0)), (121, .inr (.goto (-108), 1, 13, 0, []))]
def b123_124 : List kIt := [(124, .inl (.iload 5, 0, 0, 0)), (126, .inr (.ireturn, 3, 0, 0, []))]
def c123 : List (Nat × List kIt) := [(0, b123_0), (8, b123_8), (13, b123_13), (50, b123_50), (65, b123_65), (80, b123_80), (96, b123_96), (112, b123_112), (115, b123_115), (118, b123_118), (124, b123_124)]
-- 124: PennyALap.mend
def b124_0 : List kIt := [(0, .inl (.aload_n 0, 0, 0, 0)), (1, .inl (.getfield 21, 9, 1, 0)), (4, .inl (.iload_n 1, 0, 0, 0)), (5, .inl (.iload_n 2, 0, 0, 0)), (6, .inr (.invokevirtual 121, 4, 43, 3, [])), (9, .inr (.nop, 1, 9, 0, []))]
def b124_9 : List kIt := [(9, .inl (.istore 4, 0, 0, 0)), (11, .inl (.iload 4, 0, 0, 0)), (13, .inr (.ifCond .lt 20, 0, 33, 0, [])), (16, .inl (.iload_n 3, 0, 0, 0)), (17, .inl (.getstatic 81, 1000, 0, 0)), (20, .inl (.iload_n 2, 0, 0, 0)), (21, .inl (.iaload, 0, 0, 0)), (22, .inl (.getstatic 85, 1001, 0, 0)), (25, .inl (.iload_n 2, 0, 0, 0)), (26, .inl (.iaload, 0, 0, 0)), (27, .inr (.invokestatic 88, 4, 118, 3, [])), (30, .inr (.nop, 1, 30, 0, []))]
def b124_30 : List kIt := [(30, .inr (.ifCond .ne 5, 0, 35, 0, [])), (33, .inr (.nop, 1, 33, 0, []))]
def b124_33 : List kIt := [(33, .inl (.iconst (-1), 0, 0, 0)), (34, .inr (.ireturn, 3, 0, 0, []))]
def b124_35 : List kIt := [(35, .inl (.aload_n 0, 0, 0, 0)), (36, .inl (.getfield 21, 9, 1, 0)), (39, .inl (.iload 4, 0, 0, 0)), (41, .inr (.invokevirtual 124, 4, 44, 2, [])), (44, .inr (.nop, 1, 44, 0, []))]
def b124_44 : List kIt := [(44, .inl (.istore 5, 0, 0, 0)), (46, .inl (.iload_n 3, 0, 0, 0)), (47, .inl (.iload 5, 0, 0, 0)), (49, .inr (.if_icmp .eq 25, 0, 74, 0, [])), (52, .inl (.aload_n 0, 0, 0, 0)), (53, .inl (.getfield 21, 9, 1, 0)), (56, .inl (.iload 4, 0, 0, 0)), (58, .inl (.iload_n 3, 0, 0, 0)), (59, .inr (.invokevirtual 127, 4, 45, 3, [])), (62, .inr (.nop, 1, 62, 0, []))]
def b124_62 : List kIt := [(62, .inl (.aload_n 0, 0, 0, 0)), (63, .inl (.getfield 28, 9, 2, 0)), (66, .inl (.iload 4, 0, 0, 0)), (68, .inl (.iload 5, 0, 0, 0)), (70, .inl (.iload_n 3, 0, 0, 0)), (71, .inr (.invokevirtual 131, 4, 14, 4, [])), (74, .inr (.nop, 1, 74, 0, []))]
def b124_74 : List kIt := [(74, .inl (.iload 5, 0, 0, 0)), (76, .inr (.ireturn, 3, 0, 0, []))]
def c124 : List (Nat × List kIt) := [(0, b124_0), (9, b124_9), (30, b124_30), (33, b124_33), (35, b124_35), (44, b124_44), (62, b124_62), (74, b124_74)]
-- 125: PennyALap.of
def b125_0 : List kIt := [(0, .inl (.iload_n 2, 0, 0, 0)), (1, .inl (.iconst 0, 0, 0, 0)), (2, .inl (.bipush 12, 0, 0, 0)), (4, .inr (.invokestatic 88, 4, 118, 3, [])), (7, .inr (.nop, 1, 7, 0, []))]
def b125_7 : List kIt := [(7, .inr (.ifCond .eq 30, 0, 37, 0, [])), (10, .inl (.aload_n 0, 0, 0, 0)), (11, .inl (.getfield 21, 9, 1, 0)), (14, .inl (.iload_n 1, 0, 0, 0)), (15, .inl (.iload_n 2, 0, 0, 0)), (16, .inr (.invokevirtual 121, 4, 43, 3, [])), (19, .inr (.nop, 1, 19, 0, []))]
def b125_19 : List kIt := [(19, .inl (.istore_n 3, 0, 0, 0)), (20, .inl (.iload_n 3, 0, 0, 0)), (21, .inr (.ifCond .ge 7, 0, 28, 0, [])), (24, .inl (.iconst (-1), 0, 0, 0)), (25, .inr (.goto 11, 1, 36, 0, []))]
def b125_28 : List kIt := [(28, .inl (.aload_n 0, 0, 0, 0)), (29, .inl (.getfield 21, 9, 1, 0)), (32, .inl (.iload_n 3, 0, 0, 0)), (33, .inr (.invokevirtual 124, 4, 44, 2, [])), (36, .inr (.nop, 1, 36, 0, []))]
def b125_36 : List kIt := [(36, .inr (.ireturn, 3, 0, 0, []))]
def b125_37 : List kIt := [(37, .inl (.iload_n 2, 0, 0, 0)), (38, .inl (.bipush 14, 0, 0, 0)), (40, .inr (.if_icmp .gt 14, 0, 54, 0, [])), (43, .inl (.aload_n 0, 0, 0, 0)), (44, .inl (.getfield 21, 9, 1, 0)), (47, .inl (.iload_n 1, 0, 0, 0)), (48, .inr (.invokevirtual 135, 4, 41, 2, [])), (51, .inr (.nop, 1, 51, 0, []))]
def b125_51 : List kIt := [(51, .inr (.goto 11, 1, 62, 0, []))]
def b125_54 : List kIt := [(54, .inl (.aload_n 0, 0, 0, 0)), (55, .inl (.getfield 21, 9, 1, 0)), (58, .inl (.iload_n 1, 0, 0, 0)), (59, .inr (.invokevirtual 138, 4, 40, 2, [])), (62, .inr (.nop, 1, 62, 0, []))]
def b125_62 : List kIt := [(62, .inl (.istore_n 3, 0, 0, 0)), (63, .inl (.iload_n 3, 0, 0, 0)), (64, .inr (.ifCond .ne 5, 0, 69, 0, [])), (67, .inl (.iconst (-1), 0, 0, 0)), (68, .inr (.ireturn, 3, 0, 0, []))]
def b125_69 : List kIt := [(69, .inl (.iload_n 2, 0, 0, 0)), (70, .inr (.nop, 2, 136, 0, [(13, 100), (14, 109), (15, 118), (16, 127)]))]
def b125_100 : List kIt := [(100, .inl (.aload_n 0, 0, 0, 0)), (101, .inl (.getfield 21, 9, 1, 0)), (104, .inl (.iload_n 1, 0, 0, 0)), (105, .inr (.invokevirtual 141, 4, 42, 2, [])), (108, .inr (.nop, 1, 108, 0, []))]
def b125_108 : List kIt := [(108, .inr (.ireturn, 3, 0, 0, []))]
def b125_109 : List kIt := [(109, .inl (.aload_n 0, 0, 0, 0)), (110, .inl (.getfield 60, 9, 6, 0)), (113, .inl (.iload_n 1, 0, 0, 0)), (114, .inr (.invokevirtual 144, 4, 27, 2, [])), (117, .inr (.nop, 1, 117, 0, []))]
def b125_117 : List kIt := [(117, .inr (.ireturn, 3, 0, 0, []))]
def b125_118 : List kIt := [(118, .inl (.aload_n 0, 0, 0, 0)), (119, .inl (.getfield 60, 9, 6, 0)), (122, .inl (.iload_n 1, 0, 0, 0)), (123, .inr (.invokevirtual 147, 4, 25, 2, [])), (126, .inr (.nop, 1, 126, 0, []))]
def b125_126 : List kIt := [(126, .inr (.ireturn, 3, 0, 0, []))]
def b125_127 : List kIt := [(127, .inl (.aload_n 0, 0, 0, 0)), (128, .inl (.getfield 60, 9, 6, 0)), (131, .inl (.iload_n 1, 0, 0, 0)), (132, .inr (.invokevirtual 150, 4, 26, 2, [])), (135, .inr (.nop, 1, 135, 0, []))]
def b125_135 : List kIt := [(135, .inr (.ireturn, 3, 0, 0, []))]
def b125_136 : List kIt := [(136, .inl (.iconst (-1), 0, 0, 0)), (137, .inr (.ireturn, 3, 0, 0, []))]
def c125 : List (Nat × List kIt) := [(0, b125_0), (7, b125_7), (19, b125_19), (28, b125_28), (36, b125_36), (37, b125_37), (51, b125_51), (54, b125_54), (62, b125_62), (69, b125_69), (100, b125_100), (108, b125_108), (109, b125_109), (117, b125_117), (118, b125_118), (126, b125_126), (127, b125_127), (135, b125_135), (136, b125_136)]
-- 126: PennyALap.feed
def b126_0 : List kIt := [(0, .inl (.iload_n 1, 0, 0, 0)), (1, .inl (.iconst 0, 0, 0, 0)), (2, .inl (.sipush 255, 0, 0, 0)), (5, .inr (.invokestatic 88, 4, 118, 3, [])), (8, .inr (.nop, 1, 8, 0, []))]
def b126_8 : List kIt := [(8, .inr (.ifCond .ne 5, 0, 13, 0, [])), (11, .inl (.iconst (-1), 0, 0, 0)), (12, .inr (.ireturn, 3, 0, 0, []))]
def b126_13 : List kIt := [(13, .inl (.aload_n 0, 0, 0, 0)), (14, .inl (.getfield 10, 9, 0, 0)), (17, .inl (.iload_n 1, 0, 0, 0)), (18, .inr (.invokevirtual 153, 4, 59, 2, [])), (21, .inr (.nop, 1, 21, 0, []))]
def b126_21 : List kIt := [(21, .inr (.ireturn, 3, 0, 0, []))]
def c126 : List (Nat × List kIt) := [(0, b126_0), (8, b126_8), (13, b126_13), (21, b126_21)]
-- 127: PennyALap.law
def b127_0 : List kIt := [(0, .inl (.aload_n 0, 0, 0, 0)), (1, .inl (.getfield 10, 9, 0, 0)), (4, .inr (.invokevirtual 156, 4, 60, 1, [])), (7, .inr (.nop, 1, 7, 0, []))]
def b127_7 : List kIt := [(7, .inl (.istore_n 1, 0, 0, 0)), (8, .inl (.iload_n 1, 0, 0, 0)), (9, .inr (.ifCond .ge 7, 0, 16, 0, [])), (12, .inl (.iconst 1, 0, 0, 0)), (13, .inr (.goto 7, 1, 20, 0, []))]
def b127_16 : List kIt := [(16, .inl (.bipush (-100), 0, 0, 0)), (18, .inl (.iload_n 1, 0, 0, 0)), (19, .inl (.isub, 0, 0, 0)), (20, .inr (.nop, 1, 20, 0, []))]
def b127_20 : List kIt := [(20, .inr (.ireturn, 3, 0, 0, []))]
def c127 : List (Nat × List kIt) := [(0, b127_0), (7, b127_7), (16, b127_16), (20, b127_20)]
-- 128: PennyALap.lap
def b128_0 : List kIt := [(0, .inl (.aload_n 0, 0, 0, 0)), (1, .inl (.getfield 21, 9, 1, 0)), (4, .inl (.iload_n 1, 0, 0, 0)), (5, .inr (.invokevirtual 138, 4, 40, 2, [])), (8, .inr (.nop, 1, 8, 0, []))]
def b128_8 : List kIt := [(8, .inr (.ifCond .eq 18, 0, 26, 0, [])), (11, .inl (.iload_n 2, 0, 0, 0)), (12, .inl (.sipush 1000, 0, 0, 0)), (15, .inl (.bipush 99, 0, 0, 0)), (17, .inl (.sipush 999, 0, 0, 0)), (20, .inr (.invokestatic 160, 4, 119, 4, [])), (23, .inr (.nop, 1, 23, 0, []))]
def b128_23 : List kIt := [(23, .inr (.ifCond .ne 5, 0, 28, 0, [])), (26, .inr (.nop, 1, 26, 0, []))]
def b128_26 : List kIt := [(26, .inl (.iconst (-1), 0, 0, 0)), (27, .inr (.ireturn, 3, 0, 0, []))]
def b128_28 : List kIt := [(28, .inl (.aload_n 0, 0, 0, 0)), (29, .inl (.getfield 21, 9, 1, 0)), (32, .inl (.iload_n 1, 0, 0, 0)), (33, .inl (.iload_n 2, 0, 0, 0)), (34, .inl (.sipush 1000, 0, 0, 0)), (37, .inl (.idiv, 0, 0, 0)), (38, .inl (.iload_n 2, 0, 0, 0)), (39, .inl (.sipush 1000, 0, 0, 0)), (42, .inl (.irem, 0, 0, 0)), (43, .inr (.invokevirtual 164, 4, 50, 4, [])), (46, .inr (.nop, 1, 46, 0, []))]
def b128_46 : List kIt := [(46, .inr (.ireturn, 3, 0, 0, []))]
def c128 : List (Nat × List kIt) := [(0, b128_0), (8, b128_8), (23, b128_23), (26, b128_26), (28, b128_28), (46, b128_46)]
-- 129: PennyALap.laps
def b129_0 : List kIt := [(0, .inl (.iload_n 1, 0, 0, 0)), (1, .inl (.iconst (-1), 0, 0, 0)), (2, .inr (.if_icmp .eq 14, 0, 16, 0, [])), (5, .inl (.aload_n 0, 0, 0, 0)), (6, .inl (.getfield 21, 9, 1, 0)), (9, .inl (.iload_n 1, 0, 0, 0)), (10, .inr (.invokevirtual 138, 4, 40, 2, [])), (13, .inr (.nop, 1, 13, 0, []))]
def b129_13 : List kIt := [(13, .inr (.ifCond .eq 23, 0, 36, 0, [])), (16, .inr (.nop, 1, 16, 0, []))]
def b129_16 : List kIt := [(16, .inl (.iload_n 2, 0, 0, 0)), (17, .inl (.iconst 0, 0, 0, 0)), (18, .inl (.sipush 999, 0, 0, 0)), (21, .inr (.invokestatic 88, 4, 118, 3, [])), (24, .inr (.nop, 1, 24, 0, []))]
def b129_24 : List kIt := [(24, .inr (.ifCond .eq 12, 0, 36, 0, [])), (27, .inl (.iload_n 3, 0, 0, 0)), (28, .inl (.iconst 0, 0, 0, 0)), (29, .inl (.iconst 2, 0, 0, 0)), (30, .inr (.invokestatic 88, 4, 118, 3, [])), (33, .inr (.nop, 1, 33, 0, []))]
def b129_33 : List kIt := [(33, .inr (.ifCond .ne 5, 0, 38, 0, [])), (36, .inr (.nop, 1, 36, 0, []))]
def b129_36 : List kIt := [(36, .inl (.iconst (-1), 0, 0, 0)), (37, .inr (.ireturn, 3, 0, 0, []))]
def b129_38 : List kIt := [(38, .inl (.iload_n 1, 0, 0, 0)), (39, .inl (.iconst (-1), 0, 0, 0)), (40, .inr (.if_icmp .ne 48, 0, 88, 0, [])), (43, .inl (.aload_n 0, 0, 0, 0)), (44, .inl (.getfield 37, 9, 3, 0)), (47, .inl (.iload_n 2, 0, 0, 0)), (48, .inr (.invokevirtual 167, 4, 103, 2, [])), (51, .inr (.nop, 1, 51, 0, []))]
def b129_51 : List kIt := [(51, .inl (.iload_n 3, 0, 0, 0)), (52, .inr (.ifCond .ne 13, 0, 65, 0, [])), (55, .inl (.aload_n 0, 0, 0, 0)), (56, .inl (.getfield 37, 9, 3, 0)), (59, .inr (.invokevirtual 171, 4, 112, 1, [])), (62, .inr (.nop, 1, 62, 0, []))]
def b129_62 : List kIt := [(62, .inr (.goto 25, 1, 87, 0, []))]
def b129_65 : List kIt := [(65, .inl (.iload_n 3, 0, 0, 0)), (66, .inl (.iconst 1, 0, 0, 0)), (67, .inr (.if_icmp .ne 13, 0, 80, 0, [])), (70, .inl (.aload_n 0, 0, 0, 0)), (71, .inl (.getfield 37, 9, 3, 0)), (74, .inr (.invokevirtual 174, 4, 113, 1, [])), (77, .inr (.nop, 1, 77, 0, []))]
def b129_77 : List kIt := [(77, .inr (.goto 10, 1, 87, 0, []))]
def b129_80 : List kIt := [(80, .inl (.aload_n 0, 0, 0, 0)), (81, .inl (.getfield 37, 9, 3, 0)), (84, .inr (.invokevirtual 177, 4, 114, 1, [])), (87, .inr (.nop, 1, 87, 0, []))]
def b129_87 : List kIt := [(87, .inr (.ireturn, 3, 0, 0, []))]
def b129_88 : List kIt := [(88, .inl (.aload_n 0, 0, 0, 0)), (89, .inl (.getfield 37, 9, 3, 0)), (92, .inl (.iload_n 1, 0, 0, 0)), (93, .inl (.iload_n 2, 0, 0, 0)), (94, .inr (.invokevirtual 180, 4, 102, 3, [])), (97, .inr (.nop, 1, 97, 0, []))]
def b129_97 : List kIt := [(97, .inl (.istore 4, 0, 0, 0)), (99, .inl (.iload_n 3, 0, 0, 0)), (100, .inr (.ifCond .ne 8, 0, 108, 0, [])), (103, .inl (.iload 4, 0, 0, 0)), (105, .inr (.goto 31, 1, 136, 0, []))]
def b129_108 : List kIt := [(108, .inl (.iload_n 3, 0, 0, 0)), (109, .inl (.iconst 1, 0, 0, 0)), (110, .inr (.if_icmp .ne 16, 0, 126, 0, [])), (113, .inl (.aload_n 0, 0, 0, 0)), (114, .inl (.getfield 21, 9, 1, 0)), (117, .inl (.iload_n 1, 0, 0, 0)), (118, .inl (.iload 4, 0, 0, 0)), (120, .inr (.invokevirtual 183, 4, 56, 3, [])), (123, .inr (.nop, 1, 123, 0, []))]
def b129_123 : List kIt := [(123, .inr (.goto 13, 1, 136, 0, []))]
def b129_126 : List kIt := [(126, .inl (.aload_n 0, 0, 0, 0)), (127, .inl (.getfield 21, 9, 1, 0)), (130, .inl (.iload_n 1, 0, 0, 0)), (131, .inl (.iload 4, 0, 0, 0)), (133, .inr (.invokevirtual 186, 4, 57, 3, [])), (136, .inr (.nop, 1, 136, 0, []))]
def b129_136 : List kIt := [(136, .inr (.ireturn, 3, 0, 0, []))]
def c129 : List (Nat × List kIt) := [(0, b129_0), (13, b129_13), (16, b129_16), (24, b129_24), (33, b129_33), (36, b129_36), (38, b129_38), (51, b129_51), (62, b129_62), (65, b129_65), (77, b129_77), (80, b129_80), (87, b129_87), (88, b129_88), (97, b129_97), (108, b129_108), (123, b129_123), (126, b129_126), (136, b129_136)]
-- 130: PennyALap.minutes
def b130_0 : List kIt := [(0, .inl (.aload_n 0, 0, 0, 0)), (1, .inl (.getfield 21, 9, 1, 0)), (4, .inl (.iload_n 1, 0, 0, 0)), (5, .inr (.invokevirtual 138, 4, 40, 2, [])), (8, .inr (.nop, 1, 8, 0, []))]
def b130_8 : List kIt := [(8, .inr (.ifCond .eq 13, 0, 21, 0, [])), (11, .inl (.iload_n 2, 0, 0, 0)), (12, .inl (.iconst 0, 0, 0, 0)), (13, .inl (.bipush 99, 0, 0, 0)), (15, .inr (.invokestatic 88, 4, 118, 3, [])), (18, .inr (.nop, 1, 18, 0, []))]
def b130_18 : List kIt := [(18, .inr (.ifCond .ne 5, 0, 23, 0, [])), (21, .inr (.nop, 1, 21, 0, []))]
def b130_21 : List kIt := [(21, .inl (.iconst (-1), 0, 0, 0)), (22, .inr (.ireturn, 3, 0, 0, []))]
def b130_23 : List kIt := [(23, .inl (.iload_n 2, 0, 0, 0)), (24, .inl (.aload_n 0, 0, 0, 0)), (25, .inl (.getfield 21, 9, 1, 0)), (28, .inl (.iload_n 1, 0, 0, 0)), (29, .inl (.iconst 2, 0, 0, 0)), (30, .inr (.invokevirtual 189, 4, 46, 3, [])), (33, .inr (.nop, 1, 33, 0, []))]
def b130_33 : List kIt := [(33, .inr (.if_icmp .le 6, 0, 39, 0, [])), (36, .inl (.bipush (-2), 0, 0, 0)), (38, .inr (.ireturn, 3, 0, 0, []))]
def b130_39 : List kIt := [(39, .inl (.aload_n 0, 0, 0, 0)), (40, .inl (.getfield 21, 9, 1, 0)), (43, .inl (.iload_n 1, 0, 0, 0)), (44, .inl (.iload_n 2, 0, 0, 0)), (45, .inr (.invokevirtual 192, 4, 51, 3, [])), (48, .inr (.nop, 1, 48, 0, []))]
def b130_48 : List kIt := [(48, .inl (.istore_n 3, 0, 0, 0)), (49, .inl (.iload_n 3, 0, 0, 0)), (50, .inl (.sipush 9999, 0, 0, 0)), (53, .inr (.if_icmp .le 8, 0, 61, 0, [])), (56, .inl (.bipush (-2), 0, 0, 0)), (58, .inr (.goto 4, 1, 62, 0, []))]
def b130_61 : List kIt := [(61, .inl (.iload_n 3, 0, 0, 0)), (62, .inr (.nop, 1, 62, 0, []))]
def b130_62 : List kIt := [(62, .inr (.ireturn, 3, 0, 0, []))]
def c130 : List (Nat × List kIt) := [(0, b130_0), (8, b130_8), (18, b130_18), (21, b130_21), (23, b130_23), (33, b130_33), (39, b130_39), (48, b130_48), (61, b130_61), (62, b130_62)]
-- 131: PennyALap.most
def b131_0 : List kIt := [(0, .inl (.iload_n 1, 0, 0, 0)), (1, .inl (.iconst 0, 0, 0, 0)), (2, .inl (.sipush 999, 0, 0, 0)), (5, .inr (.invokestatic 88, 4, 118, 3, [])), (8, .inr (.nop, 1, 8, 0, []))]
def b131_8 : List kIt := [(8, .inr (.ifCond .eq 12, 0, 20, 0, [])), (11, .inl (.iload_n 2, 0, 0, 0)), (12, .inl (.iconst 0, 0, 0, 0)), (13, .inl (.iconst 2, 0, 0, 0)), (14, .inr (.invokestatic 88, 4, 118, 3, [])), (17, .inr (.nop, 1, 17, 0, []))]
def b131_17 : List kIt := [(17, .inr (.ifCond .ne 5, 0, 22, 0, [])), (20, .inr (.nop, 1, 20, 0, []))]
def b131_20 : List kIt := [(20, .inl (.iconst (-1), 0, 0, 0)), (21, .inr (.ireturn, 3, 0, 0, []))]
def b131_22 : List kIt := [(22, .inl (.aload_n 0, 0, 0, 0)), (23, .inl (.getfield 37, 9, 3, 0)), (26, .inl (.iload_n 1, 0, 0, 0)), (27, .inr (.invokevirtual 167, 4, 103, 2, [])), (30, .inr (.nop, 1, 30, 0, []))]
def b131_30 : List kIt := [(30, .inl (.iload_n 2, 0, 0, 0)), (31, .inr (.ifCond .ne 13, 0, 44, 0, [])), (34, .inl (.aload_n 0, 0, 0, 0)), (35, .inl (.getfield 37, 9, 3, 0)), (38, .inr (.invokevirtual 195, 4, 115, 1, [])), (41, .inr (.nop, 1, 41, 0, []))]
def b131_41 : List kIt := [(41, .inr (.goto 25, 1, 66, 0, []))]
def b131_44 : List kIt := [(44, .inl (.iload_n 2, 0, 0, 0)), (45, .inl (.iconst 1, 0, 0, 0)), (46, .inr (.if_icmp .ne 13, 0, 59, 0, [])), (49, .inl (.aload_n 0, 0, 0, 0)), (50, .inl (.getfield 37, 9, 3, 0)), (53, .inr (.invokevirtual 198, 4, 116, 1, [])), (56, .inr (.nop, 1, 56, 0, []))]
def b131_56 : List kIt := [(56, .inr (.goto 10, 1, 66, 0, []))]
def b131_59 : List kIt := [(59, .inl (.aload_n 0, 0, 0, 0)), (60, .inl (.getfield 37, 9, 3, 0)), (63, .inr (.invokevirtual 201, 4, 117, 1, [])), (66, .inr (.nop, 1, 66, 0, []))]
def b131_66 : List kIt := [(66, .inr (.ireturn, 3, 0, 0, []))]
def c131 : List (Nat × List kIt) := [(0, b131_0), (8, b131_8), (17, b131_17), (20, b131_20), (22, b131_22), (30, b131_30), (41, b131_41), (44, b131_44), (56, b131_56), (59, b131_59), (66, b131_66)]
-- 132: PennyALap.owes
def b132_0 : List kIt := [(0, .inl (.aload_n 0, 0, 0, 0)), (1, .inl (.getfield 21, 9, 1, 0)), (4, .inl (.iload_n 1, 0, 0, 0)), (5, .inr (.invokevirtual 135, 4, 41, 2, [])), (8, .inr (.nop, 1, 8, 0, []))]
def b132_8 : List kIt := [(8, .inr (.ifCond .eq 22, 0, 30, 0, [])), (11, .inl (.iload_n 2, 0, 0, 0)), (12, .inl (.iconst 0, 0, 0, 0)), (13, .inl (.bipush 99, 0, 0, 0)), (15, .inr (.invokestatic 88, 4, 118, 3, [])), (18, .inr (.nop, 1, 18, 0, []))]
def b132_18 : List kIt := [(18, .inr (.ifCond .eq 12, 0, 30, 0, [])), (21, .inl (.iload_n 3, 0, 0, 0)), (22, .inl (.iconst 0, 0, 0, 0)), (23, .inl (.iconst 1, 0, 0, 0)), (24, .inr (.invokestatic 88, 4, 118, 3, [])), (27, .inr (.nop, 1, 27, 0, []))]
def b132_27 : List kIt := [(27, .inr (.ifCond .ne 5, 0, 32, 0, [])), (30, .inr (.nop, 1, 30, 0, []))]
def b132_30 : List kIt := [(30, .inl (.iconst (-1), 0, 0, 0)), (31, .inr (.ireturn, 3, 0, 0, []))]
def b132_32 : List kIt := [(32, .inl (.iload_n 3, 0, 0, 0)), (33, .inr (.ifCond .ne 15, 0, 48, 0, [])), (36, .inl (.aload_n 0, 0, 0, 0)), (37, .inl (.getfield 21, 9, 1, 0)), (40, .inl (.iload_n 1, 0, 0, 0)), (41, .inl (.iload_n 2, 0, 0, 0)), (42, .inr (.invokevirtual 204, 4, 53, 3, [])), (45, .inr (.nop, 1, 45, 0, []))]
def b132_45 : List kIt := [(45, .inr (.goto 12, 1, 57, 0, []))]
def b132_48 : List kIt := [(48, .inl (.aload_n 0, 0, 0, 0)), (49, .inl (.getfield 21, 9, 1, 0)), (52, .inl (.iload_n 1, 0, 0, 0)), (53, .inl (.iload_n 2, 0, 0, 0)), (54, .inr (.invokevirtual 207, 4, 54, 3, [])), (57, .inr (.nop, 1, 57, 0, []))]
def b132_57 : List kIt := [(57, .inr (.ireturn, 3, 0, 0, []))]
def c132 : List (Nat × List kIt) := [(0, b132_0), (8, b132_8), (18, b132_18), (27, b132_27), (30, b132_30), (32, b132_32), (45, b132_45), (48, b132_48), (57, b132_57)]
-- 133: PennyALap.more
def b133_0 : List kIt := [(0, .inl (.aload_n 0, 0, 0, 0)), (1, .inl (.getfield 21, 9, 1, 0)), (4, .inl (.iload_n 1, 0, 0, 0)), (5, .inr (.invokevirtual 138, 4, 40, 2, [])), (8, .inr (.nop, 1, 8, 0, []))]
def b133_8 : List kIt := [(8, .inr (.ifCond .eq 13, 0, 21, 0, [])), (11, .inl (.iload_n 2, 0, 0, 0)), (12, .inl (.iconst 0, 0, 0, 0)), (13, .inl (.bipush 98, 0, 0, 0)), (15, .inr (.invokestatic 88, 4, 118, 3, [])), (18, .inr (.nop, 1, 18, 0, []))]
def b133_18 : List kIt := [(18, .inr (.ifCond .ne 5, 0, 23, 0, [])), (21, .inr (.nop, 1, 21, 0, []))]
def b133_21 : List kIt := [(21, .inl (.iconst (-1), 0, 0, 0)), (22, .inr (.ireturn, 3, 0, 0, []))]
def b133_23 : List kIt := [(23, .inl (.aload_n 0, 0, 0, 0)), (24, .inl (.getfield 21, 9, 1, 0)), (27, .inl (.iload_n 1, 0, 0, 0)), (28, .inl (.iload_n 2, 0, 0, 0)), (29, .inl (.iconst 1, 0, 0, 0)), (30, .inl (.iadd, 0, 0, 0)), (31, .inr (.invokevirtual 186, 4, 57, 3, [])), (34, .inr (.nop, 1, 34, 0, []))]
def b133_34 : List kIt := [(34, .inl (.aload_n 0, 0, 0, 0)), (35, .inl (.getfield 21, 9, 1, 0)), (38, .inl (.iload_n 1, 0, 0, 0)), (39, .inl (.iload_n 2, 0, 0, 0)), (40, .inr (.invokevirtual 186, 4, 57, 3, [])), (43, .inr (.nop, 1, 43, 0, []))]
def b133_43 : List kIt := [(43, .inl (.isub, 0, 0, 0)), (44, .inr (.ireturn, 3, 0, 0, []))]
def c133 : List (Nat × List kIt) := [(0, b133_0), (8, b133_8), (18, b133_18), (21, b133_21), (23, b133_23), (34, b133_34), (43, b133_43)]
-- 134: PennyALap.done
def b134_0 : List kIt := [(0, .inl (.aload_n 0, 0, 0, 0)), (1, .inl (.getfield 21, 9, 1, 0)), (4, .inl (.iload_n 1, 0, 0, 0)), (5, .inr (.invokevirtual 138, 4, 40, 2, [])), (8, .inr (.nop, 1, 8, 0, []))]
def b134_8 : List kIt := [(8, .inr (.ifCond .ne 5, 0, 13, 0, [])), (11, .inl (.iconst (-1), 0, 0, 0)), (12, .inr (.ireturn, 3, 0, 0, []))]
def b134_13 : List kIt := [(13, .inl (.bipush 99, 0, 0, 0)), (15, .inl (.istore_n 2, 0, 0, 0)), (16, .inr (.nop, 1, 16, 0, []))]
def b134_16 : List kIt := [(16, .inl (.iload_n 2, 0, 0, 0)), (17, .inr (.ifCond .le 32, 0, 49, 0, [])), (20, .inl (.aload_n 0, 0, 0, 0)), (21, .inl (.getfield 21, 9, 1, 0)), (24, .inl (.iload_n 1, 0, 0, 0)), (25, .inl (.iload_n 2, 0, 0, 0)), (26, .inl (.iconst 1, 0, 0, 0)), (27, .inl (.isub, 0, 0, 0)), (28, .inr (.invokevirtual 186, 4, 57, 3, [])), (31, .inr (.nop, 1, 31, 0, []))]
def b134_31 : List kIt := [(31, .inl (.aload_n 0, 0, 0, 0)), (32, .inl (.getfield 21, 9, 1, 0)), (35, .inl (.iload_n 1, 0, 0, 0)), (36, .inl (.iload_n 2, 0, 0, 0)), (37, .inr (.invokevirtual 186, 4, 57, 3, [])), (40, .inr (.nop, 1, 40, 0, []))]
def b134_40 : List kIt := [(40, .inr (.if_icmp .ne 9, 0, 49, 0, [])), (43, .inl (.iinc 2 (-1), 0, 0, 0)), (46, .inr (.goto (-30), 1, 16, 0, []))]
def b134_49 : List kIt := [(49, .inl (.iload_n 2, 0, 0, 0)), (50, .inr (.ireturn, 3, 0, 0, []))]
def c134 : List (Nat × List kIt) := [(0, b134_0), (8, b134_8), (13, b134_13), (16, b134_16), (31, b134_31), (40, b134_40), (49, b134_49)]
-- 135: PennyALap.lapOrSum
def b135_0 : List kIt := [(0, .inl (.aload_n 0, 0, 0, 0)), (1, .inl (.getfield 21, 9, 1, 0)), (4, .inl (.iload_n 1, 0, 0, 0)), (5, .inr (.invokevirtual 135, 4, 41, 2, [])), (8, .inr (.nop, 1, 8, 0, []))]
def b135_8 : List kIt := [(8, .inr (.ifCond .eq 14, 0, 22, 0, [])), (11, .inl (.iload_n 2, 0, 0, 0)), (12, .inl (.iconst 0, 0, 0, 0)), (13, .inl (.sipush 9999, 0, 0, 0)), (16, .inr (.invokestatic 88, 4, 118, 3, [])), (19, .inr (.nop, 1, 19, 0, []))]
def b135_19 : List kIt := [(19, .inr (.ifCond .ne 5, 0, 24, 0, [])), (22, .inr (.nop, 1, 22, 0, []))]
def b135_22 : List kIt := [(22, .inl (.iconst (-1), 0, 0, 0)), (23, .inr (.ireturn, 3, 0, 0, []))]
def b135_24 : List kIt := [(24, .inl (.iconst 0, 0, 0, 0)), (25, .inl (.istore_n 3, 0, 0, 0)), (26, .inr (.nop, 1, 26, 0, []))]
def b135_26 : List kIt := [(26, .inl (.iload_n 3, 0, 0, 0)), (27, .inl (.bipush 99, 0, 0, 0)), (29, .inr (.if_icmp .gt 24, 0, 53, 0, [])), (32, .inl (.aload_n 0, 0, 0, 0)), (33, .inl (.getfield 21, 9, 1, 0)), (36, .inl (.iload_n 1, 0, 0, 0)), (37, .inl (.iload_n 3, 0, 0, 0)), (38, .inr (.invokevirtual 204, 4, 53, 3, [])), (41, .inr (.nop, 1, 41, 0, []))]
def b135_41 : List kIt := [(41, .inl (.iload_n 2, 0, 0, 0)), (42, .inr (.if_icmp .lt 5, 0, 47, 0, [])), (45, .inl (.iload_n 3, 0, 0, 0)), (46, .inr (.ireturn, 3, 0, 0, []))]
def b135_47 : List kIt := [(47, .inl (.iinc 3 1, 0, 0, 0)), (50, .inr (.goto (-24), 1, 26, 0, []))]
def b135_53 : List kIt := [(53, .inl (.bipush (-2), 0, 0, 0)), (55, .inr (.ireturn, 3, 0, 0, []))]
def c135 : List (Nat × List kIt) := [(0, b135_0), (8, b135_8), (19, b135_19), (22, b135_22), (24, b135_24), (26, b135_26), (41, b135_41), (47, b135_47), (53, b135_53)]
-- 136: PennyALap.top
def b136_0 : List kIt := [(0, .inl (.aload_n 0, 0, 0, 0)), (1, .inl (.getfield 21, 9, 1, 0)), (4, .inl (.iload_n 1, 0, 0, 0)), (5, .inr (.invokevirtual 135, 4, 41, 2, [])), (8, .inr (.nop, 1, 8, 0, []))]
def b136_8 : List kIt := [(8, .inr (.ifCond .ne 5, 0, 13, 0, [])), (11, .inl (.iconst (-1), 0, 0, 0)), (12, .inr (.ireturn, 3, 0, 0, []))]
def b136_13 : List kIt := [(13, .inl (.aload_n 0, 0, 0, 0)), (14, .inl (.getfield 21, 9, 1, 0)), (17, .inl (.iload_n 1, 0, 0, 0)), (18, .inl (.bipush 8, 0, 0, 0)), (20, .inr (.invokevirtual 189, 4, 46, 3, [])), (23, .inr (.nop, 1, 23, 0, []))]
def b136_23 : List kIt := [(23, .inl (.istore_n 2, 0, 0, 0)), (24, .inl (.aload_n 0, 0, 0, 0)), (25, .inl (.getfield 21, 9, 1, 0)), (28, .inl (.iload_n 1, 0, 0, 0)), (29, .inl (.bipush 99, 0, 0, 0)), (31, .inr (.invokevirtual 209, 4, 52, 3, [])), (34, .inr (.nop, 1, 34, 0, []))]
def b136_34 : List kIt := [(34, .inl (.iload_n 2, 0, 0, 0)), (35, .inr (.if_icmp .gt 7, 0, 42, 0, [])), (38, .inl (.iconst 0, 0, 0, 0)), (39, .inr (.goto 8, 1, 47, 0, []))]
def b136_42 : List kIt := [(42, .inl (.iconst 1, 0, 0, 0)), (43, .inl (.iload_n 2, 0, 0, 0)), (44, .inl (.invokestatic 212, 1, 0, 0)), (47, .inr (.nop, 1, 47, 0, []))]
def b136_47 : List kIt := [(47, .inr (.ireturn, 3, 0, 0, []))]
def c136 : List (Nat × List kIt) := [(0, b136_0), (8, b136_8), (13, b136_13), (23, b136_23), (34, b136_34), (42, b136_42), (47, b136_47)]
-- 137: PennyALap.howLong
def b137_0 : List kIt := [(0, .inl (.iload_n 1, 0, 0, 0)), (1, .inl (.iconst 0, 0, 0, 0)), (2, .inl (.ldc 217, 0, 0, 99999)), (4, .inr (.invokestatic 88, 4, 118, 3, [])), (7, .inr (.nop, 1, 7, 0, []))]
def b137_7 : List kIt := [(7, .inr (.ifCond .ne 5, 0, 12, 0, [])), (10, .inl (.iconst (-1), 0, 0, 0)), (11, .inr (.ireturn, 3, 0, 0, []))]
def b137_12 : List kIt := [(12, .inl (.aload_n 0, 0, 0, 0)), (13, .inl (.getfield 37, 9, 3, 0)), (16, .inl (.sipush 999, 0, 0, 0)), (19, .inr (.invokevirtual 218, 4, 108, 2, [])), (22, .inr (.nop, 1, 22, 0, []))]
def b137_22 : List kIt := [(22, .inl (.iconst 0, 0, 0, 0)), (23, .inl (.istore_n 2, 0, 0, 0)), (24, .inr (.nop, 1, 24, 0, []))]
def b137_24 : List kIt := [(24, .inl (.iload_n 2, 0, 0, 0)), (25, .inl (.sipush 999, 0, 0, 0)), (28, .inr (.if_icmp .gt 33, 0, 61, 0, [])), (31, .inl (.aload_n 0, 0, 0, 0)), (32, .inl (.getfield 37, 9, 3, 0)), (35, .inl (.iload_n 2, 0, 0, 0)), (36, .inr (.invokevirtual 221, 4, 109, 2, [])), (39, .inr (.nop, 1, 39, 0, []))]
def b137_39 : List kIt := [(39, .inr (.ifCond .eq 16, 0, 55, 0, [])), (42, .inl (.aload_n 0, 0, 0, 0)), (43, .inl (.getfield 37, 9, 3, 0)), (46, .inr (.invokevirtual 177, 4, 114, 1, [])), (49, .inr (.nop, 1, 49, 0, []))]
def b137_49 : List kIt := [(49, .inl (.iload_n 1, 0, 0, 0)), (50, .inr (.if_icmp .lt 5, 0, 55, 0, [])), (53, .inl (.iload_n 2, 0, 0, 0)), (54, .inr (.ireturn, 3, 0, 0, []))]
def b137_55 : List kIt := [(55, .inl (.iinc 2 1, 0, 0, 0)), (58, .inr (.goto (-34), 1, 24, 0, []))]
def b137_61 : List kIt := [(61, .inl (.bipush (-2), 0, 0, 0)), (63, .inr (.ireturn, 3, 0, 0, []))]
def c137 : List (Nat × List kIt) := [(0, b137_0), (7, b137_7), (12, b137_12), (22, b137_22), (24, b137_24), (39, b137_39), (49, b137_49), (55, b137_55), (61, b137_61)]
-- 138: PennyALap.field
def b138_0 : List kIt := [(0, .inl (.iload_n 1, 0, 0, 0)), (1, .inl (.iconst 0, 0, 0, 0)), (2, .inl (.sipush 300, 0, 0, 0)), (5, .inr (.invokestatic 88, 4, 118, 3, [])), (8, .inr (.nop, 1, 8, 0, []))]
def b138_8 : List kIt := [(8, .inr (.ifCond .eq 25, 0, 33, 0, [])), (11, .inl (.iload_n 2, 0, 0, 0)), (12, .inl (.iconst (-1), 0, 0, 0)), (13, .inr (.if_icmp .eq 22, 0, 35, 0, [])), (16, .inl (.iload_n 2, 0, 0, 0)), (17, .inl (.bipush (-2), 0, 0, 0)), (19, .inr (.if_icmp .eq 16, 0, 35, 0, [])), (22, .inl (.aload_n 0, 0, 0, 0)), (23, .inl (.getfield 21, 9, 1, 0)), (26, .inl (.iload_n 2, 0, 0, 0)), (27, .inr (.invokevirtual 138, 4, 40, 2, [])), (30, .inr (.nop, 1, 30, 0, []))]
def b138_30 : List kIt := [(30, .inr (.ifCond .ne 5, 0, 35, 0, [])), (33, .inr (.nop, 1, 33, 0, []))]
def b138_33 : List kIt := [(33, .inl (.iconst (-1), 0, 0, 0)), (34, .inr (.ireturn, 3, 0, 0, []))]
def b138_35 : List kIt := [(35, .inl (.aload_n 0, 0, 0, 0)), (36, .inl (.getfield 46, 9, 4, 0)), (39, .inl (.iload_n 1, 0, 0, 0)), (40, .inr (.invokevirtual 224, 4, 78, 2, [])), (43, .inr (.nop, 1, 43, 0, []))]
def b138_43 : List kIt := [(43, .inl (.iload_n 2, 0, 0, 0)), (44, .inl (.iconst (-1), 0, 0, 0)), (45, .inr (.if_icmp .ne 13, 0, 58, 0, [])), (48, .inl (.aload_n 0, 0, 0, 0)), (49, .inl (.getfield 46, 9, 4, 0)), (52, .inr (.invokevirtual 227, 4, 84, 1, [])), (55, .inr (.nop, 1, 55, 0, []))]
def b138_55 : List kIt := [(55, .inr (.goto 27, 1, 82, 0, []))]
def b138_58 : List kIt := [(58, .inl (.iload_n 2, 0, 0, 0)), (59, .inl (.bipush (-2), 0, 0, 0)), (61, .inr (.if_icmp .ne 13, 0, 74, 0, [])), (64, .inl (.aload_n 0, 0, 0, 0)), (65, .inl (.getfield 46, 9, 4, 0)), (68, .inr (.invokevirtual 230, 4, 85, 1, [])), (71, .inr (.nop, 1, 71, 0, []))]
def b138_71 : List kIt := [(71, .inr (.goto 11, 1, 82, 0, []))]
def b138_74 : List kIt := [(74, .inl (.aload_n 0, 0, 0, 0)), (75, .inl (.getfield 46, 9, 4, 0)), (78, .inl (.iload_n 2, 0, 0, 0)), (79, .inr (.invokevirtual 233, 4, 83, 2, [])), (82, .inr (.nop, 1, 82, 0, []))]
def b138_82 : List kIt := [(82, .inr (.ireturn, 3, 0, 0, []))]
def c138 : List (Nat × List kIt) := [(0, b138_0), (8, b138_8), (30, b138_30), (33, b138_33), (35, b138_35), (43, b138_43), (55, b138_55), (58, b138_58), (71, b138_71), (74, b138_74), (82, b138_82)]
-- 139: PennyALap.comes
def b139_0 : List kIt := [(0, .inl (.aload_n 0, 0, 0, 0)), (1, .inl (.getfield 77, 9, 10, 0)), (4, .inl (.iload_n 1, 0, 0, 0)), (5, .inr (.invokevirtual 103, 4, 86, 2, [])), (8, .inr (.nop, 1, 8, 0, []))]
def b139_8 : List kIt := [(8, .inr (.ifCond .eq 17, 0, 25, 0, [])), (11, .inl (.iload_n 2, 0, 0, 0)), (12, .inl (.bipush 100, 0, 0, 0)), (14, .inl (.sipush 999, 0, 0, 0)), (17, .inl (.bipush 60, 0, 0, 0)), (19, .inr (.invokestatic 160, 4, 119, 4, [])), (22, .inr (.nop, 1, 22, 0, []))]
def b139_22 : List kIt := [(22, .inr (.ifCond .ne 5, 0, 27, 0, [])), (25, .inr (.nop, 1, 25, 0, []))]
def b139_25 : List kIt := [(25, .inl (.iconst (-1), 0, 0, 0)), (26, .inr (.ireturn, 3, 0, 0, []))]
def b139_27 : List kIt := [(27, .inl (.aload_n 0, 0, 0, 0)), (28, .inl (.getfield 77, 9, 10, 0)), (31, .inl (.iload_n 1, 0, 0, 0)), (32, .inl (.iconst 0, 0, 0, 0)), (33, .inr (.invokevirtual 107, 4, 90, 3, [])), (36, .inr (.nop, 1, 36, 0, []))]
def b139_36 : List kIt := [(36, .inl (.istore_n 3, 0, 0, 0)), (37, .inl (.iload_n 3, 0, 0, 0)), (38, .inr (.ifCond .eq 5, 0, 43, 0, [])), (41, .inl (.iload_n 3, 0, 0, 0)), (42, .inr (.ireturn, 3, 0, 0, []))]
def b139_43 : List kIt := [(43, .inl (.aload_n 0, 0, 0, 0)), (44, .inl (.iload_n 1, 0, 0, 0)), (45, .inl (.iload_n 2, 0, 0, 0)), (46, .inl (.bipush 100, 0, 0, 0)), (48, .inl (.idiv, 0, 0, 0)), (49, .inr (.invokevirtual 234, 4, 142, 3, [])), (52, .inr (.nop, 1, 52, 0, []))]
def b139_52 : List kIt := [(52, .inl (.aload_n 0, 0, 0, 0)), (53, .inl (.getfield 53, 9, 5, 0)), (56, .inl (.iload_n 2, 0, 0, 0)), (57, .inl (.bipush 100, 0, 0, 0)), (59, .inl (.irem, 0, 0, 0)), (60, .inl (.iconst (-1), 0, 0, 0)), (61, .inr (.invokevirtual 237, 4, 20, 3, [])), (64, .inr (.nop, 1, 64, 0, []))]
def b139_64 : List kIt := [(64, .inr (.ireturn, 3, 0, 0, []))]
def c139 : List (Nat × List kIt) := [(0, b139_0), (8, b139_8), (22, b139_22), (25, b139_25), (27, b139_27), (36, b139_36), (43, b139_43), (52, b139_52), (64, b139_64)]
-- 140: PennyALap.by
def b140_0 : List kIt := [(0, .inl (.aload_n 0, 0, 0, 0)), (1, .inl (.getfield 77, 9, 10, 0)), (4, .inl (.iload_n 1, 0, 0, 0)), (5, .inr (.invokevirtual 103, 4, 86, 2, [])), (8, .inr (.nop, 1, 8, 0, []))]
def b140_8 : List kIt := [(8, .inr (.ifCond .eq 17, 0, 25, 0, [])), (11, .inl (.iload_n 2, 0, 0, 0)), (12, .inl (.bipush 100, 0, 0, 0)), (14, .inl (.sipush 999, 0, 0, 0)), (17, .inl (.bipush 12, 0, 0, 0)), (19, .inr (.invokestatic 160, 4, 119, 4, [])), (22, .inr (.nop, 1, 22, 0, []))]
def b140_22 : List kIt := [(22, .inr (.ifCond .ne 5, 0, 27, 0, [])), (25, .inr (.nop, 1, 25, 0, []))]
def b140_25 : List kIt := [(25, .inl (.iconst (-1), 0, 0, 0)), (26, .inr (.ireturn, 3, 0, 0, []))]
def b140_27 : List kIt := [(27, .inl (.aload_n 0, 0, 0, 0)), (28, .inl (.getfield 77, 9, 10, 0)), (31, .inl (.iload_n 1, 0, 0, 0)), (32, .inl (.iconst 0, 0, 0, 0)), (33, .inr (.invokevirtual 107, 4, 90, 3, [])), (36, .inr (.nop, 1, 36, 0, []))]
def b140_36 : List kIt := [(36, .inl (.istore_n 3, 0, 0, 0)), (37, .inl (.iload_n 3, 0, 0, 0)), (38, .inr (.ifCond .eq 5, 0, 43, 0, [])), (41, .inl (.iload_n 3, 0, 0, 0)), (42, .inr (.ireturn, 3, 0, 0, []))]
def b140_43 : List kIt := [(43, .inl (.aload_n 0, 0, 0, 0)), (44, .inl (.iload_n 1, 0, 0, 0)), (45, .inl (.iload_n 2, 0, 0, 0)), (46, .inl (.bipush 100, 0, 0, 0)), (48, .inl (.idiv, 0, 0, 0)), (49, .inr (.invokevirtual 234, 4, 142, 3, [])), (52, .inr (.nop, 1, 52, 0, []))]
def b140_52 : List kIt := [(52, .inl (.aload_n 0, 0, 0, 0)), (53, .inl (.getfield 53, 9, 5, 0)), (56, .inl (.iload_n 2, 0, 0, 0)), (57, .inl (.bipush 100, 0, 0, 0)), (59, .inl (.irem, 0, 0, 0)), (60, .inr (.invokevirtual 240, 4, 23, 2, [])), (63, .inr (.nop, 1, 63, 0, []))]
def b140_63 : List kIt := [(63, .inr (.ireturn, 3, 0, 0, []))]
def c140 : List (Nat × List kIt) := [(0, b140_0), (8, b140_8), (22, b140_22), (25, b140_25), (27, b140_27), (36, b140_36), (43, b140_43), (52, b140_52), (63, b140_63)]
-- 141: PennyALap.remind
def b141_0 : List kIt := [(0, .inl (.aload_n 0, 0, 0, 0)), (1, .inl (.getfield 77, 9, 10, 0)), (4, .inl (.iload_n 1, 0, 0, 0)), (5, .inr (.invokevirtual 103, 4, 86, 2, [])), (8, .inr (.nop, 1, 8, 0, []))]
def b141_8 : List kIt := [(8, .inr (.ifCond .eq 26, 0, 34, 0, [])), (11, .inl (.iload_n 2, 0, 0, 0)), (12, .inl (.bipush 100, 0, 0, 0)), (14, .inl (.sipush 999, 0, 0, 0)), (17, .inl (.bipush 60, 0, 0, 0)), (19, .inr (.invokestatic 160, 4, 119, 4, [])), (22, .inr (.nop, 1, 22, 0, []))]
def b141_22 : List kIt := [(22, .inr (.ifCond .eq 12, 0, 34, 0, [])), (25, .inl (.iload_n 3, 0, 0, 0)), (26, .inl (.iconst 0, 0, 0, 0)), (27, .inl (.iconst 1, 0, 0, 0)), (28, .inr (.invokestatic 88, 4, 118, 3, [])), (31, .inr (.nop, 1, 31, 0, []))]
def b141_31 : List kIt := [(31, .inr (.ifCond .ne 5, 0, 36, 0, [])), (34, .inr (.nop, 1, 34, 0, []))]
def b141_34 : List kIt := [(34, .inl (.iconst (-1), 0, 0, 0)), (35, .inr (.ireturn, 3, 0, 0, []))]
def b141_36 : List kIt := [(36, .inl (.aload_n 0, 0, 0, 0)), (37, .inl (.getfield 77, 9, 10, 0)), (40, .inl (.iload_n 1, 0, 0, 0)), (41, .inl (.iconst 0, 0, 0, 0)), (42, .inr (.invokevirtual 107, 4, 90, 3, [])), (45, .inr (.nop, 1, 45, 0, []))]
def b141_45 : List kIt := [(45, .inl (.istore 4, 0, 0, 0)), (47, .inl (.iload 4, 0, 0, 0)), (49, .inr (.ifCond .eq 6, 0, 55, 0, [])), (52, .inl (.iload 4, 0, 0, 0)), (54, .inr (.ireturn, 3, 0, 0, []))]
def b141_55 : List kIt := [(55, .inl (.iload_n 2, 0, 0, 0)), (56, .inl (.bipush 100, 0, 0, 0)), (58, .inl (.irem, 0, 0, 0)), (59, .inl (.istore 5, 0, 0, 0)), (61, .inl (.iload 5, 0, 0, 0)), (63, .inr (.ifCond .ne 6, 0, 69, 0, [])), (66, .inl (.bipush (-2), 0, 0, 0)), (68, .inr (.ireturn, 3, 0, 0, []))]
def b141_69 : List kIt := [(69, .inl (.aload_n 0, 0, 0, 0)), (70, .inl (.iload_n 1, 0, 0, 0)), (71, .inl (.iload_n 2, 0, 0, 0)), (72, .inl (.bipush 100, 0, 0, 0)), (74, .inl (.idiv, 0, 0, 0)), (75, .inr (.invokevirtual 234, 4, 142, 3, [])), (78, .inr (.nop, 1, 78, 0, []))]
def b141_78 : List kIt := [(78, .inl (.aload_n 0, 0, 0, 0)), (79, .inl (.getfield 53, 9, 5, 0)), (82, .inl (.iload 5, 0, 0, 0)), (84, .inr (.invokevirtual 243, 4, 24, 2, [])), (87, .inr (.nop, 1, 87, 0, []))]
def b141_87 : List kIt := [(87, .inl (.istore 6, 0, 0, 0)), (89, .inl (.iload_n 3, 0, 0, 0)), (90, .inr (.ifCond .ne 8, 0, 98, 0, [])), (93, .inl (.iload 6, 0, 0, 0)), (95, .inr (.goto 14, 1, 109, 0, []))]
def b141_98 : List kIt := [(98, .inl (.aload_n 0, 0, 0, 0)), (99, .inl (.getfield 53, 9, 5, 0)), (102, .inl (.iload 5, 0, 0, 0)), (104, .inl (.iload 6, 0, 0, 0)), (106, .inr (.invokevirtual 237, 4, 20, 3, [])), (109, .inr (.nop, 1, 109, 0, []))]
def b141_109 : List kIt := [(109, .inr (.ireturn, 3, 0, 0, []))]
def c141 : List (Nat × List kIt) := [(0, b141_0), (8, b141_8), (22, b141_22), (31, b141_31), (34, b141_34), (36, b141_36), (45, b141_45), (55, b141_55), (69, b141_69), (78, b141_78), (87, b141_87), (98, b141_98), (109, b141_109)]
-- 142: PennyALap.readReminders
def b142_0 : List kIt := [(0, .inl (.aload_n 0, 0, 0, 0)), (1, .inl (.getfield 37, 9, 3, 0)), (4, .inl (.iload_n 2, 0, 0, 0)), (5, .inr (.invokevirtual 167, 4, 103, 2, [])), (8, .inr (.nop, 1, 8, 0, []))]
def b142_8 : List kIt := [(8, .inl (.aload_n 0, 0, 0, 0)), (9, .inl (.getfield 53, 9, 5, 0)), (12, .inr (.invokevirtual 246, 4, 18, 1, [])), (15, .inr (.nop, 1, 15, 0, []))]
def b142_15 : List kIt := [(15, .inl (.iconst 0, 0, 0, 0)), (16, .inl (.istore_n 3, 0, 0, 0)), (17, .inr (.nop, 1, 17, 0, []))]
def b142_17 : List kIt := [(17, .inl (.iload_n 3, 0, 0, 0)), (18, .inl (.aload_n 0, 0, 0, 0)), (19, .inl (.getfield 77, 9, 10, 0)), (22, .inl (.iload_n 1, 0, 0, 0)), (23, .inr (.invokevirtual 114, 4, 93, 2, [])), (26, .inr (.nop, 1, 26, 0, []))]
def b142_26 : List kIt := [(26, .inr (.if_icmp .ge 26, 0, 52, 0, [])), (29, .inl (.aload_n 0, 0, 0, 0)), (30, .inl (.getfield 53, 9, 5, 0)), (33, .inl (.aload_n 0, 0, 0, 0)), (34, .inl (.getfield 77, 9, 10, 0)), (37, .inl (.iload_n 1, 0, 0, 0)), (38, .inl (.iload_n 3, 0, 0, 0)), (39, .inr (.invokevirtual 117, 4, 97, 3, [])), (42, .inr (.nop, 1, 42, 0, []))]
def b142_42 : List kIt := [(42, .inl (.l2i, 0, 0, 0)), (43, .inr (.invokevirtual 249, 4, 19, 2, [])), (46, .inr (.nop, 1, 46, 0, []))]
def b142_46 : List kIt := [(46, .inl (.iinc 3 1, 0, 0, 0)), (49, .inr (.goto (-32), 1, 17, 0, []))]
def b142_52 : List kIt := [(52, .inr (.return_, 3, 0, 0, []))]
def c142 : List (Nat × List kIt) := [(0, b142_0), (8, b142_8), (15, b142_15), (17, b142_17), (26, b142_26), (42, b142_42), (46, b142_46), (52, b142_52)]
-- 143: PennyALap.judge
def b143_0 : List kIt := [(0, .inl (.aload_n 0, 0, 0, 0)), (1, .inl (.getfield 77, 9, 10, 0)), (4, .inl (.iload_n 1, 0, 0, 0)), (5, .inr (.invokevirtual 103, 4, 86, 2, [])), (8, .inr (.nop, 1, 8, 0, []))]
def b143_8 : List kIt := [(8, .inr (.ifCond .eq 14, 0, 22, 0, [])), (11, .inl (.iload_n 2, 0, 0, 0)), (12, .inl (.iconst 0, 0, 0, 0)), (13, .inl (.sipush 999, 0, 0, 0)), (16, .inr (.invokestatic 88, 4, 118, 3, [])), (19, .inr (.nop, 1, 19, 0, []))]
def b143_19 : List kIt := [(19, .inr (.ifCond .ne 5, 0, 24, 0, [])), (22, .inr (.nop, 1, 22, 0, []))]
def b143_22 : List kIt := [(22, .inl (.iconst (-1), 0, 0, 0)), (23, .inr (.ireturn, 3, 0, 0, []))]
def b143_24 : List kIt := [(24, .inl (.aload_n 0, 0, 0, 0)), (25, .inl (.getfield 77, 9, 10, 0)), (28, .inl (.iload_n 1, 0, 0, 0)), (29, .inl (.iconst 1, 0, 0, 0)), (30, .inr (.invokevirtual 107, 4, 90, 3, [])), (33, .inr (.nop, 1, 33, 0, []))]
def b143_33 : List kIt := [(33, .inl (.istore_n 3, 0, 0, 0)), (34, .inl (.iload_n 3, 0, 0, 0)), (35, .inr (.ifCond .eq 5, 0, 40, 0, [])), (38, .inl (.iload_n 3, 0, 0, 0)), (39, .inr (.ireturn, 3, 0, 0, []))]
def b143_40 : List kIt := [(40, .inl (.aload_n 0, 0, 0, 0)), (41, .inl (.getfield 37, 9, 3, 0)), (44, .inl (.iload_n 2, 0, 0, 0)), (45, .inr (.invokevirtual 167, 4, 103, 2, [])), (48, .inr (.nop, 1, 48, 0, []))]
def b143_48 : List kIt := [(48, .inl (.aload_n 0, 0, 0, 0)), (49, .inl (.iload_n 1, 0, 0, 0)), (50, .inr (.invokevirtual 252, 4, 144, 2, [])), (53, .inr (.nop, 1, 53, 0, []))]
def b143_53 : List kIt := [(53, .inr (.ireturn, 3, 0, 0, []))]
def c143 : List (Nat × List kIt) := [(0, b143_0), (8, b143_8), (19, b143_19), (22, b143_22), (24, b143_24), (33, b143_33), (40, b143_40), (48, b143_48), (53, b143_53)]
-- 144: PennyALap.firstAmiss
def b144_0 : List kIt := [(0, .inl (.aload_n 0, 0, 0, 0)), (1, .inl (.getfield 77, 9, 10, 0)), (4, .inl (.iload_n 1, 0, 0, 0)), (5, .inr (.invokevirtual 114, 4, 93, 2, [])), (8, .inr (.nop, 1, 8, 0, []))]
def b144_8 : List kIt := [(8, .inl (.istore_n 2, 0, 0, 0)), (9, .inl (.iconst 0, 0, 0, 0)), (10, .inl (.istore_n 3, 0, 0, 0)), (11, .inr (.nop, 1, 11, 0, []))]
def b144_11 : List kIt := [(11, .inl (.iload_n 3, 0, 0, 0)), (12, .inl (.iload_n 2, 0, 0, 0)), (13, .inr (.if_icmp .ge 82, 0, 95, 0, [])), (16, .inl (.aload_n 0, 0, 0, 0)), (17, .inl (.getfield 77, 9, 10, 0)), (20, .inl (.iload_n 1, 0, 0, 0)), (21, .inl (.iload_n 3, 0, 0, 0)), (22, .inr (.invokevirtual 117, 4, 97, 3, [])), (25, .inr (.nop, 1, 25, 0, []))]
def b144_25 : List kIt := [(25, .inl (.l2i, 0, 0, 0)), (26, .inl (.istore 4, 0, 0, 0)), (28, .inl (.iload_n 3, 0, 0, 0)), (29, .inl (.iconst 1, 0, 0, 0)), (30, .inl (.iadd, 0, 0, 0)), (31, .inl (.iload_n 2, 0, 0, 0)), (32, .inr (.if_icmp .ge 15, 0, 47, 0, [])), (35, .inl (.aload_n 0, 0, 0, 0)), (36, .inl (.getfield 21, 9, 1, 0)), (39, .inl (.iload 4, 0, 0, 0)), (41, .inr (.invokevirtual 138, 4, 40, 2, [])), (44, .inr (.nop, 1, 44, 0, []))]
def b144_44 : List kIt := [(44, .inr (.ifCond .ne 7, 0, 51, 0, [])), (47, .inr (.nop, 1, 47, 0, []))]
def b144_47 : List kIt := [(47, .inl (.iload_n 3, 0, 0, 0)), (48, .inl (.iconst 2, 0, 0, 0)), (49, .inl (.idiv, 0, 0, 0)), (50, .inr (.ireturn, 3, 0, 0, []))]
def b144_51 : List kIt := [(51, .inl (.aload_n 0, 0, 0, 0)), (52, .inl (.getfield 21, 9, 1, 0)), (55, .inl (.iload 4, 0, 0, 0)), (57, .inl (.aload_n 0, 0, 0, 0)), (58, .inl (.getfield 37, 9, 3, 0)), (61, .inl (.iload 4, 0, 0, 0)), (63, .inr (.invokevirtual 255, 4, 104, 2, [])), (66, .inr (.nop, 1, 66, 0, []))]
def b144_66 : List kIt := [(66, .inr (.invokevirtual 186, 4, 57, 3, [])), (69, .inr (.nop, 1, 69, 0, []))]
def b144_69 : List kIt := [(69, .inl (.i2l, 0, 0, 0)), (70, .inl (.aload_n 0, 0, 0, 0)), (71, .inl (.getfield 77, 9, 10, 0)), (74, .inl (.iload_n 1, 0, 0, 0)), (75, .inl (.iload_n 3, 0, 0, 0)), (76, .inl (.iconst 1, 0, 0, 0)), (77, .inl (.iadd, 0, 0, 0)), (78, .inr (.invokevirtual 117, 4, 97, 3, [])), (81, .inr (.nop, 1, 81, 0, []))]
def b144_81 : List kIt := [(81, .inl (.lcmp, 0, 0, 0)), (82, .inr (.ifCond .eq 7, 0, 89, 0, [])), (85, .inl (.iload_n 3, 0, 0, 0)), (86, .inl (.iconst 2, 0, 0, 0)), (87, .inl (.idiv, 0, 0, 0)), (88, .inr (.ireturn, 3, 0, 0, []))]
def b144_89 : List kIt := [(89, .inl (.iinc 3 2, 0, 0, 0)), (92, .inr (.goto (-81), 1, 11, 0, []))]
def b144_95 : List kIt := [(95, .inl (.bipush (-2), 0, 0, 0)), (97, .inr (.ireturn, 3, 0, 0, []))]
def c144 : List (Nat × List kIt) := [(0, b144_0), (8, b144_8), (11, b144_11), (25, b144_25), (44, b144_44), (47, b144_47), (51, b144_51), (66, b144_66), (69, b144_69), (81, b144_81), (89, b144_89), (95, b144_95)]
-- 145: PennyALap.lapsFor
def b145_0 : List kIt := [(0, .inl (.aload_n 0, 0, 0, 0)), (1, .inl (.getfield 21, 9, 1, 0)), (4, .inl (.iload_n 1, 0, 0, 0)), (5, .inr (.invokevirtual 138, 4, 40, 2, [])), (8, .inr (.nop, 1, 8, 0, []))]
def b145_8 : List kIt := [(8, .inr (.ifCond .eq 22, 0, 30, 0, [])), (11, .inl (.iload_n 2, 0, 0, 0)), (12, .inl (.iconst 0, 0, 0, 0)), (13, .inl (.ldc 217, 0, 0, 99999)), (15, .inr (.invokestatic 88, 4, 118, 3, [])), (18, .inr (.nop, 1, 18, 0, []))]
def b145_18 : List kIt := [(18, .inr (.ifCond .eq 12, 0, 30, 0, [])), (21, .inl (.iload_n 3, 0, 0, 0)), (22, .inl (.iconst 0, 0, 0, 0)), (23, .inl (.iconst 1, 0, 0, 0)), (24, .inr (.invokestatic 88, 4, 118, 3, [])), (27, .inr (.nop, 1, 27, 0, []))]
def b145_27 : List kIt := [(27, .inr (.ifCond .ne 5, 0, 32, 0, [])), (30, .inr (.nop, 1, 30, 0, []))]
def b145_30 : List kIt := [(30, .inl (.iconst (-1), 0, 0, 0)), (31, .inr (.ireturn, 3, 0, 0, []))]
def b145_32 : List kIt := [(32, .inl (.iconst 0, 0, 0, 0)), (33, .inl (.istore 4, 0, 0, 0)), (35, .inl (.iconst 0, 0, 0, 0)), (36, .inl (.istore 5, 0, 0, 0)), (38, .inr (.nop, 1, 38, 0, []))]
def b145_38 : List kIt := [(38, .inl (.iload 5, 0, 0, 0)), (40, .inl (.bipush 99, 0, 0, 0)), (42, .inr (.if_icmp .gt 34, 0, 76, 0, [])), (45, .inl (.aload_n 0, 0, 0, 0)), (46, .inl (.getfield 21, 9, 1, 0)), (49, .inl (.iload_n 1, 0, 0, 0)), (50, .inl (.iload 5, 0, 0, 0)), (52, .inr (.invokevirtual 186, 4, 57, 3, [])), (55, .inr (.nop, 1, 55, 0, []))]
def b145_55 : List kIt := [(55, .inl (.iload_n 2, 0, 0, 0)), (56, .inr (.if_icmp .ne 14, 0, 70, 0, [])), (59, .inl (.iload_n 3, 0, 0, 0)), (60, .inl (.iconst 1, 0, 0, 0)), (61, .inr (.if_icmp .ne 6, 0, 67, 0, [])), (64, .inl (.iload 5, 0, 0, 0)), (66, .inr (.ireturn, 3, 0, 0, []))]
def b145_67 : List kIt := [(67, .inl (.iinc 4 1, 0, 0, 0)), (70, .inr (.nop, 1, 70, 0, []))]
def b145_70 : List kIt := [(70, .inl (.iinc 5 1, 0, 0, 0)), (73, .inr (.goto (-35), 1, 38, 0, []))]
def b145_76 : List kIt := [(76, .inl (.iload_n 3, 0, 0, 0)), (77, .inl (.iconst 1, 0, 0, 0)), (78, .inr (.if_icmp .ne 8, 0, 86, 0, [])), (81, .inl (.bipush (-2), 0, 0, 0)), (83, .inr (.goto 5, 1, 88, 0, []))]
def b145_86 : List kIt := [(86, .inl (.iload 4, 0, 0, 0)), (88, .inr (.nop, 1, 88, 0, []))]
def b145_88 : List kIt := [(88, .inr (.ireturn, 3, 0, 0, []))]
def c145 : List (Nat × List kIt) := [(0, b145_0), (8, b145_8), (18, b145_18), (27, b145_27), (30, b145_30), (32, b145_32), (38, b145_38), (55, b145_55), (67, b145_67), (70, b145_70), (76, b145_76), (86, b145_86), (88, b145_88)]
-- 146: PennyALap.minutesFor
def b146_0 : List kIt := [(0, .inl (.aload_n 0, 0, 0, 0)), (1, .inl (.getfield 77, 9, 10, 0)), (4, .inl (.iload_n 1, 0, 0, 0)), (5, .inr (.invokevirtual 103, 4, 86, 2, [])), (8, .inr (.nop, 1, 8, 0, []))]
def b146_8 : List kIt := [(8, .inr (.ifCond .ne 5, 0, 13, 0, [])), (11, .inl (.iconst (-1), 0, 0, 0)), (12, .inr (.ireturn, 3, 0, 0, []))]
def b146_13 : List kIt := [(13, .inl (.aload_n 0, 0, 0, 0)), (14, .inl (.getfield 77, 9, 10, 0)), (17, .inl (.iload_n 1, 0, 0, 0)), (18, .inl (.iconst 1, 0, 0, 0)), (19, .inr (.invokevirtual 107, 4, 90, 3, [])), (22, .inr (.nop, 1, 22, 0, []))]
def b146_22 : List kIt := [(22, .inl (.istore_n 2, 0, 0, 0)), (23, .inl (.iload_n 2, 0, 0, 0)), (24, .inr (.ifCond .eq 5, 0, 29, 0, [])), (27, .inl (.iload_n 2, 0, 0, 0)), (28, .inr (.ireturn, 3, 0, 0, []))]
def b146_29 : List kIt := [(29, .inl (.aload_n 0, 0, 0, 0)), (30, .inl (.getfield 37, 9, 3, 0)), (33, .inl (.sipush 999, 0, 0, 0)), (36, .inr (.invokevirtual 218, 4, 108, 2, [])), (39, .inr (.nop, 1, 39, 0, []))]
def b146_39 : List kIt := [(39, .inl (.iconst 0, 0, 0, 0)), (40, .inl (.istore_n 3, 0, 0, 0)), (41, .inr (.nop, 1, 41, 0, []))]
def b146_41 : List kIt := [(41, .inl (.iload_n 3, 0, 0, 0)), (42, .inl (.sipush 999, 0, 0, 0)), (45, .inr (.if_icmp .gt 32, 0, 77, 0, [])), (48, .inl (.aload_n 0, 0, 0, 0)), (49, .inl (.getfield 37, 9, 3, 0)), (52, .inl (.iload_n 3, 0, 0, 0)), (53, .inr (.invokevirtual 221, 4, 109, 2, [])), (56, .inr (.nop, 1, 56, 0, []))]
def b146_56 : List kIt := [(56, .inr (.ifCond .eq 15, 0, 71, 0, [])), (59, .inl (.aload_n 0, 0, 0, 0)), (60, .inl (.iload_n 1, 0, 0, 0)), (61, .inr (.invokevirtual 252, 4, 144, 2, [])), (64, .inr (.nop, 1, 64, 0, []))]
def b146_64 : List kIt := [(64, .inl (.bipush (-2), 0, 0, 0)), (66, .inr (.if_icmp .ne 5, 0, 71, 0, [])), (69, .inl (.iload_n 3, 0, 0, 0)), (70, .inr (.ireturn, 3, 0, 0, []))]
def b146_71 : List kIt := [(71, .inl (.iinc 3 1, 0, 0, 0)), (74, .inr (.goto (-33), 1, 41, 0, []))]
def b146_77 : List kIt := [(77, .inl (.bipush (-2), 0, 0, 0)), (79, .inr (.ireturn, 3, 0, 0, []))]
def c146 : List (Nat × List kIt) := [(0, b146_0), (8, b146_8), (13, b146_13), (22, b146_22), (29, b146_29), (39, b146_39), (41, b146_41), (56, b146_56), (64, b146_64), (71, b146_71), (77, b146_77)]
-- 147: PennyALap.whose
def b147_0 : List kIt := [(0, .inl (.aload_n 0, 0, 0, 0)), (1, .inl (.getfield 21, 9, 1, 0)), (4, .inl (.iload_n 1, 0, 0, 0)), (5, .inr (.invokevirtual 138, 4, 40, 2, [])), (8, .inr (.nop, 1, 8, 0, []))]
def b147_8 : List kIt := [(8, .inr (.ifCond .eq 24, 0, 32, 0, [])), (11, .inl (.iload_n 2, 0, 0, 0)), (12, .inl (.iconst 0, 0, 0, 0)), (13, .inl (.sipush 999, 0, 0, 0)), (16, .inr (.invokestatic 88, 4, 118, 3, [])), (19, .inr (.nop, 1, 19, 0, []))]
def b147_19 : List kIt := [(19, .inr (.ifCond .eq 13, 0, 32, 0, [])), (22, .inl (.iload_n 3, 0, 0, 0)), (23, .inl (.iconst 0, 0, 0, 0)), (24, .inl (.ldc 217, 0, 0, 99999)), (26, .inr (.invokestatic 88, 4, 118, 3, [])), (29, .inr (.nop, 1, 29, 0, []))]
def b147_29 : List kIt := [(29, .inr (.ifCond .ne 5, 0, 34, 0, [])), (32, .inr (.nop, 1, 32, 0, []))]
def b147_32 : List kIt := [(32, .inl (.iconst (-1), 0, 0, 0)), (33, .inr (.ireturn, 3, 0, 0, []))]
def b147_34 : List kIt := [(34, .inl (.aload_n 0, 0, 0, 0)), (35, .inl (.getfield 37, 9, 3, 0)), (38, .inl (.iload_n 1, 0, 0, 0)), (39, .inl (.iload_n 2, 0, 0, 0)), (40, .inr (.invokevirtual 180, 4, 102, 3, [])), (43, .inr (.nop, 1, 43, 0, []))]
def b147_43 : List kIt := [(43, .inl (.istore 4, 0, 0, 0)), (45, .inl (.aload_n 0, 0, 0, 0)), (46, .inl (.getfield 21, 9, 1, 0)), (49, .inl (.iload_n 1, 0, 0, 0)), (50, .inl (.iload 4, 0, 0, 0)), (52, .inr (.invokevirtual 186, 4, 57, 3, [])), (55, .inr (.nop, 1, 55, 0, []))]
def b147_55 : List kIt := [(55, .inl (.istore 5, 0, 0, 0)), (57, .inl (.iconst 0, 0, 0, 0)), (58, .inl (.istore 6, 0, 0, 0)), (60, .inr (.nop, 1, 60, 0, []))]
def b147_60 : List kIt := [(60, .inl (.iload 6, 0, 0, 0)), (62, .inl (.getstatic 85, 1001, 0, 0)), (65, .inl (.iconst 4, 0, 0, 0)), (66, .inl (.iaload, 0, 0, 0)), (67, .inr (.if_icmp .gt 33, 0, 100, 0, [])), (70, .inl (.iload 5, 0, 0, 0)), (72, .inl (.iload 6, 0, 0, 0)), (74, .inl (.iload 4, 0, 0, 0)), (76, .inl (.imul, 0, 0, 0)), (77, .inl (.getstatic 258, 1002, 0, 0)), (80, .inl (.bipush 8, 0, 0, 0)), (82, .inl (.iaload, 0, 0, 0)), (83, .inl (.invokestatic 261, 2, 0, 0)), (86, .inl (.iadd, 0, 0, 0)), (87, .inl (.iload_n 3, 0, 0, 0)), (88, .inr (.if_icmp .ne 6, 0, 94, 0, [])), (91, .inl (.iload 6, 0, 0, 0)), (93, .inr (.ireturn, 3, 0, 0, []))]
def b147_94 : List kIt := [(94, .inl (.iinc 6 1, 0, 0, 0)), (97, .inr (.goto (-37), 1, 60, 0, []))]
def b147_100 : List kIt := [(100, .inl (.bipush (-2), 0, 0, 0)), (102, .inr (.ireturn, 3, 0, 0, []))]
def c147 : List (Nat × List kIt) := [(0, b147_0), (8, b147_8), (19, b147_19), (29, b147_29), (32, b147_32), (34, b147_34), (43, b147_43), (55, b147_55), (60, b147_60), (94, b147_94), (100, b147_100)]
-- 148: PennyALap.oak
def b148_0 : List kIt := [(0, .inl (.aload_n 0, 0, 0, 0)), (1, .inl (.getfield 77, 9, 10, 0)), (4, .inl (.iload_n 1, 0, 0, 0)), (5, .inr (.invokevirtual 103, 4, 86, 2, [])), (8, .inr (.nop, 1, 8, 0, []))]
def b148_8 : List kIt := [(8, .inr (.ifCond .eq 30, 0, 38, 0, [])), (11, .inl (.iload_n 2, 0, 0, 0)), (12, .inl (.iconst 0, 0, 0, 0)), (13, .inl (.sipush 999, 0, 0, 0)), (16, .inr (.invokestatic 88, 4, 118, 3, [])), (19, .inr (.nop, 1, 19, 0, []))]
def b148_19 : List kIt := [(19, .inr (.ifCond .eq 19, 0, 38, 0, [])), (22, .inl (.iload_n 3, 0, 0, 0)), (23, .inl (.iconst (-1), 0, 0, 0)), (24, .inr (.if_icmp .eq 16, 0, 40, 0, [])), (27, .inl (.aload_n 0, 0, 0, 0)), (28, .inl (.getfield 21, 9, 1, 0)), (31, .inl (.iload_n 3, 0, 0, 0)), (32, .inr (.invokevirtual 138, 4, 40, 2, [])), (35, .inr (.nop, 1, 35, 0, []))]
def b148_35 : List kIt := [(35, .inr (.ifCond .ne 5, 0, 40, 0, [])), (38, .inr (.nop, 1, 38, 0, []))]
def b148_38 : List kIt := [(38, .inl (.iconst (-1), 0, 0, 0)), (39, .inr (.ireturn, 3, 0, 0, []))]
def b148_40 : List kIt := [(40, .inl (.aload_n 0, 0, 0, 0)), (41, .inl (.getfield 77, 9, 10, 0)), (44, .inl (.iload_n 1, 0, 0, 0)), (45, .inl (.iconst 0, 0, 0, 0)), (46, .inr (.invokevirtual 107, 4, 90, 3, [])), (49, .inr (.nop, 1, 49, 0, []))]
def b148_49 : List kIt := [(49, .inl (.istore 4, 0, 0, 0)), (51, .inl (.iload 4, 0, 0, 0)), (53, .inr (.ifCond .eq 6, 0, 59, 0, [])), (56, .inl (.iload 4, 0, 0, 0)), (58, .inr (.ireturn, 3, 0, 0, []))]
def b148_59 : List kIt := [(59, .inl (.iload_n 3, 0, 0, 0)), (60, .inl (.iconst (-1), 0, 0, 0)), (61, .inr (.if_icmp .eq 34, 0, 95, 0, [])), (64, .inl (.aload_n 0, 0, 0, 0)), (65, .inl (.iload_n 1, 0, 0, 0)), (66, .inl (.iload_n 2, 0, 0, 0)), (67, .inl (.iload_n 3, 0, 0, 0)), (68, .inr (.invokevirtual 264, 4, 149, 4, [])), (71, .inr (.nop, 1, 71, 0, []))]
def b148_71 : List kIt := [(71, .inr (.ifCond .eq 22, 0, 93, 0, [])), (74, .inl (.iload_n 2, 0, 0, 0)), (75, .inl (.aload_n 0, 0, 0, 0)), (76, .inl (.getfield 21, 9, 1, 0)), (79, .inl (.iload_n 3, 0, 0, 0)), (80, .inl (.aload_n 0, 0, 0, 0)), (81, .inl (.iload_n 1, 0, 0, 0)), (82, .inl (.iload_n 3, 0, 0, 0)), (83, .inr (.invokevirtual 267, 4, 150, 3, [])), (86, .inr (.nop, 1, 86, 0, []))]
def b148_86 : List kIt := [(86, .inr (.invokevirtual 192, 4, 51, 3, [])), (89, .inr (.nop, 1, 89, 0, []))]
def b148_89 : List kIt := [(89, .inl (.isub, 0, 0, 0)), (90, .inr (.goto 4, 1, 94, 0, []))]
def b148_93 : List kIt := [(93, .inl (.iconst 0, 0, 0, 0)), (94, .inr (.nop, 1, 94, 0, []))]
def b148_94 : List kIt := [(94, .inr (.ireturn, 3, 0, 0, []))]
def b148_95 : List kIt := [(95, .inl (.iconst 0, 0, 0, 0)), (96, .inl (.istore 5, 0, 0, 0)), (98, .inl (.iconst 0, 0, 0, 0)), (99, .inl (.istore 6, 0, 0, 0)), (101, .inr (.nop, 1, 101, 0, []))]
def b148_101 : List kIt := [(101, .inl (.iload 6, 0, 0, 0)), (103, .inl (.aload_n 0, 0, 0, 0)), (104, .inl (.getfield 21, 9, 1, 0)), (107, .inr (.invokevirtual 270, 4, 38, 1, [])), (110, .inr (.nop, 1, 110, 0, []))]
def b148_110 : List kIt := [(110, .inr (.if_icmp .ge 33, 0, 143, 0, [])), (113, .inl (.iload 5, 0, 0, 0)), (115, .inl (.aload_n 0, 0, 0, 0)), (116, .inl (.iload_n 1, 0, 0, 0)), (117, .inl (.iload_n 2, 0, 0, 0)), (118, .inl (.iload 6, 0, 0, 0)), (120, .inr (.invokevirtual 264, 4, 149, 4, [])), (123, .inr (.nop, 1, 123, 0, []))]
def b148_123 : List kIt := [(123, .inr (.ifCond .eq 10, 0, 133, 0, [])), (126, .inl (.iconst 1, 0, 0, 0)), (127, .inl (.iload 6, 0, 0, 0)), (129, .inl (.ishl, 0, 0, 0)), (130, .inr (.goto 4, 1, 134, 0, []))]
def b148_133 : List kIt := [(133, .inl (.iconst 0, 0, 0, 0)), (134, .inr (.nop, 1, 134, 0, []))]
def b148_134 : List kIt := [(134, .inl (.ior, 0, 0, 0)), (135, .inl (.istore 5, 0, 0, 0)), (137, .inl (.iinc 6 1, 0, 0, 0)), (140, .inr (.goto (-39), 1, 101, 0, []))]
def b148_143 : List kIt := [(143, .inl (.iload 5, 0, 0, 0)), (145, .inr (.ireturn, 3, 0, 0, []))]
def c148 : List (Nat × List kIt) := [(0, b148_0), (8, b148_8), (19, b148_19), (35, b148_35), (38, b148_38), (40, b148_40), (49, b148_49), (59, b148_59), (71, b148_71), (86, b148_86), (89, b148_89), (93, b148_93), (94, b148_94), (95, b148_95), (101, b148_101), (110, b148_110), (123, b148_123), (133, b148_133), (134, b148_134), (143, b148_143)]
-- 149: PennyALap.cheats
def b149_0 : List kIt := [(0, .inl (.aload_n 0, 0, 0, 0)), (1, .inl (.iload_n 1, 0, 0, 0)), (2, .inl (.iload_n 3, 0, 0, 0)), (3, .inr (.invokevirtual 267, 4, 150, 3, [])), (6, .inr (.nop, 1, 6, 0, []))]
def b149_6 : List kIt := [(6, .inl (.aload_n 0, 0, 0, 0)), (7, .inl (.getfield 37, 9, 3, 0)), (10, .inl (.iload_n 3, 0, 0, 0)), (11, .inl (.iload_n 2, 0, 0, 0)), (12, .inr (.invokevirtual 180, 4, 102, 3, [])), (15, .inr (.nop, 1, 15, 0, []))]
def b149_15 : List kIt := [(15, .inr (.if_icmp .le 7, 0, 22, 0, [])), (18, .inl (.iconst 1, 0, 0, 0)), (19, .inr (.goto 4, 1, 23, 0, []))]
def b149_22 : List kIt := [(22, .inl (.iconst 0, 0, 0, 0)), (23, .inr (.nop, 1, 23, 0, []))]
def b149_23 : List kIt := [(23, .inr (.ireturn, 3, 1, 0, []))]
def c149 : List (Nat × List kIt) := [(0, b149_0), (6, b149_6), (15, b149_15), (22, b149_22), (23, b149_23)]
-- 150: PennyALap.lapsSaid
def b150_0 : List kIt := [(0, .inl (.iload_n 2, 0, 0, 0)), (1, .inl (.aload_n 0, 0, 0, 0)), (2, .inl (.getfield 77, 9, 10, 0)), (5, .inl (.iload_n 1, 0, 0, 0)), (6, .inr (.invokevirtual 114, 4, 93, 2, [])), (9, .inr (.nop, 1, 9, 0, []))]
def b150_9 : List kIt := [(9, .inr (.if_icmp .ge 20, 0, 29, 0, [])), (12, .inl (.iconst 0, 0, 0, 0)), (13, .inl (.aload_n 0, 0, 0, 0)), (14, .inl (.getfield 77, 9, 10, 0)), (17, .inl (.iload_n 1, 0, 0, 0)), (18, .inl (.iload_n 2, 0, 0, 0)), (19, .inr (.invokevirtual 117, 4, 97, 3, [])), (22, .inr (.nop, 1, 22, 0, []))]
def b150_22 : List kIt := [(22, .inl (.l2i, 0, 0, 0)), (23, .inl (.invokestatic 212, 1, 0, 0)), (26, .inr (.goto 4, 1, 30, 0, []))]
def b150_29 : List kIt := [(29, .inl (.iconst 0, 0, 0, 0)), (30, .inr (.nop, 1, 30, 0, []))]
def b150_30 : List kIt := [(30, .inr (.ireturn, 3, 0, 0, []))]
def c150 : List (Nat × List kIt) := [(0, b150_0), (9, b150_9), (22, b150_22), (29, b150_29), (30, b150_30)]
-- 151: PennyALap.drawn
def b151_0 : List kIt := [(0, .inl (.iload_n 2, 0, 0, 0)), (1, .inl (.sipush 1000, 0, 0, 0)), (4, .inl (.bipush 30, 0, 0, 0)), (6, .inl (.sipush 999, 0, 0, 0)), (9, .inr (.invokestatic 160, 4, 119, 4, [])), (12, .inr (.nop, 1, 12, 0, []))]
def b151_12 : List kIt := [(12, .inr (.ifCond .eq 19, 0, 31, 0, [])), (15, .inl (.iload_n 2, 0, 0, 0)), (16, .inl (.sipush 1000, 0, 0, 0)), (19, .inr (.if_icmp .lt 12, 0, 31, 0, [])), (22, .inl (.iload_n 3, 0, 0, 0)), (23, .inl (.iconst 0, 0, 0, 0)), (24, .inl (.iconst 1, 0, 0, 0)), (25, .inr (.invokestatic 88, 4, 118, 3, [])), (28, .inr (.nop, 1, 28, 0, []))]
def b151_28 : List kIt := [(28, .inr (.ifCond .ne 5, 0, 33, 0, [])), (31, .inr (.nop, 1, 31, 0, []))]
def b151_31 : List kIt := [(31, .inl (.iconst (-1), 0, 0, 0)), (32, .inr (.ireturn, 3, 0, 0, []))]
def b151_33 : List kIt := [(33, .inl (.iload_n 1, 0, 0, 0)), (34, .inl (.istore 4, 0, 0, 0)), (36, .inl (.iconst 0, 0, 0, 0)), (37, .inl (.istore 5, 0, 0, 0)), (39, .inl (.iconst 0, 0, 0, 0)), (40, .inl (.istore 6, 0, 0, 0)), (42, .inr (.nop, 1, 42, 0, []))]
def b151_42 : List kIt := [(42, .inl (.iload 6, 0, 0, 0)), (44, .inl (.iload_n 2, 0, 0, 0)), (45, .inl (.sipush 1000, 0, 0, 0)), (48, .inl (.idiv, 0, 0, 0)), (49, .inr (.if_icmp .ge 51, 0, 100, 0, [])), (52, .inl (.aload_n 0, 0, 0, 0)), (53, .inl (.getfield 37, 9, 3, 0)), (56, .inl (.iload 4, 0, 0, 0)), (58, .inl (.iload_n 2, 0, 0, 0)), (59, .inl (.sipush 1000, 0, 0, 0)), (62, .inl (.irem, 0, 0, 0)), (63, .inr (.invokevirtual 273, 4, 110, 3, [])), (66, .inr (.nop, 1, 66, 0, []))]
def b151_66 : List kIt := [(66, .inl (.istore 4, 0, 0, 0)), (68, .inl (.iload 5, 0, 0, 0)), (70, .inl (.iload_n 3, 0, 0, 0)), (71, .inr (.ifCond .ne 13, 0, 84, 0, [])), (74, .inl (.aload_n 0, 0, 0, 0)), (75, .inl (.getfield 37, 9, 3, 0)), (78, .inr (.invokevirtual 171, 4, 112, 1, [])), (81, .inr (.nop, 1, 81, 0, []))]
def b151_81 : List kIt := [(81, .inr (.goto 10, 1, 91, 0, []))]
def b151_84 : List kIt := [(84, .inl (.aload_n 0, 0, 0, 0)), (85, .inl (.getfield 37, 9, 3, 0)), (88, .inr (.invokevirtual 177, 4, 114, 1, [])), (91, .inr (.nop, 1, 91, 0, []))]
def b151_91 : List kIt := [(91, .inl (.iadd, 0, 0, 0)), (92, .inl (.istore 5, 0, 0, 0)), (94, .inl (.iinc 6 1, 0, 0, 0)), (97, .inr (.goto (-55), 1, 42, 0, []))]
def b151_100 : List kIt := [(100, .inl (.iload 5, 0, 0, 0)), (102, .inr (.ireturn, 3, 0, 0, []))]
def c151 : List (Nat × List kIt) := [(0, b151_0), (12, b151_12), (28, b151_28), (31, b151_31), (33, b151_33), (42, b151_42), (66, b151_66), (81, b151_81), (84, b151_84), (91, b151_91), (100, b151_100)]
-- 152: PennyALap.run
def b152_0 : List kIt := [(0, .inl (.aload_n 0, 0, 0, 0)), (1, .inl (.getfield 21, 9, 1, 0)), (4, .inl (.iload_n 1, 0, 0, 0)), (5, .inr (.invokevirtual 138, 4, 40, 2, [])), (8, .inr (.nop, 1, 8, 0, []))]
def b152_8 : List kIt := [(8, .inr (.ifCond .ne 5, 0, 13, 0, [])), (11, .inl (.iconst (-1), 0, 0, 0)), (12, .inr (.ireturn, 3, 0, 0, []))]
def b152_13 : List kIt := [(13, .inl (.aload_n 0, 0, 0, 0)), (14, .inl (.getfield 60, 9, 6, 0)), (17, .inl (.iload_n 1, 0, 0, 0)), (18, .inr (.invokevirtual 147, 4, 25, 2, [])), (21, .inr (.nop, 1, 21, 0, []))]
def b152_21 : List kIt := [(21, .inl (.istore_n 2, 0, 0, 0)), (22, .inl (.aload_n 0, 0, 0, 0)), (23, .inl (.getfield 60, 9, 6, 0)), (26, .inl (.iload_n 1, 0, 0, 0)), (27, .inr (.invokevirtual 150, 4, 26, 2, [])), (30, .inr (.nop, 1, 30, 0, []))]
def b152_30 : List kIt := [(30, .inl (.istore_n 3, 0, 0, 0)), (31, .inl (.iload_n 2, 0, 0, 0)), (32, .inl (.aload_n 0, 0, 0, 0)), (33, .inl (.getfield 21, 9, 1, 0)), (36, .inl (.iload_n 1, 0, 0, 0)), (37, .inl (.iconst 2, 0, 0, 0)), (38, .inr (.invokevirtual 189, 4, 46, 3, [])), (41, .inr (.nop, 1, 41, 0, []))]
def b152_41 : List kIt := [(41, .inr (.if_icmp .lt 6, 0, 47, 0, [])), (44, .inl (.bipush (-5), 0, 0, 0)), (46, .inr (.ireturn, 3, 0, 0, []))]
def b152_47 : List kIt := [(47, .inl (.iload_n 3, 0, 0, 0)), (48, .inl (.aload_n 0, 0, 0, 0)), (49, .inl (.getfield 21, 9, 1, 0)), (52, .inl (.iload_n 1, 0, 0, 0)), (53, .inl (.iload_n 2, 0, 0, 0)), (54, .inl (.iload_n 3, 0, 0, 0)), (55, .inr (.invokevirtual 164, 4, 50, 4, [])), (58, .inr (.nop, 1, 58, 0, []))]
def b152_58 : List kIt := [(58, .inl (.iadd, 0, 0, 0)), (59, .inl (.istore 4, 0, 0, 0)), (61, .inl (.iload 4, 0, 0, 0)), (63, .inl (.sipush 9999, 0, 0, 0)), (66, .inr (.if_icmp .le 6, 0, 72, 0, [])), (69, .inl (.bipush (-5), 0, 0, 0)), (71, .inr (.ireturn, 3, 0, 0, []))]
def b152_72 : List kIt := [(72, .inl (.aload_n 0, 0, 0, 0)), (73, .inl (.getfield 60, 9, 6, 0)), (76, .inl (.iload_n 1, 0, 0, 0)), (77, .inl (.iload 4, 0, 0, 0)), (79, .inr (.invokevirtual 276, 4, 34, 3, [])), (82, .inr (.nop, 1, 82, 0, []))]
def b152_82 : List kIt := [(82, .inl (.iload 4, 0, 0, 0)), (84, .inr (.ireturn, 3, 0, 0, []))]
def c152 : List (Nat × List kIt) := [(0, b152_0), (8, b152_8), (13, b152_13), (21, b152_21), (30, b152_30), (41, b152_41), (47, b152_47), (58, b152_58), (72, b152_72), (82, b152_82)]
-- 153: PennyALap.ask
def b153_0 : List kIt := [(0, .inl (.aload_n 0, 0, 0, 0)), (1, .inl (.getfield 21, 9, 1, 0)), (4, .inl (.iload_n 1, 0, 0, 0)), (5, .inr (.invokevirtual 135, 4, 41, 2, [])), (8, .inr (.nop, 1, 8, 0, []))]
def b153_8 : List kIt := [(8, .inr (.ifCond .ne 5, 0, 13, 0, [])), (11, .inl (.iconst (-1), 0, 0, 0)), (12, .inr (.ireturn, 3, 0, 0, []))]
def b153_13 : List kIt := [(13, .inl (.aload_n 0, 0, 0, 0)), (14, .inl (.getfield 60, 9, 6, 0)), (17, .inl (.aload_n 0, 0, 0, 0)), (18, .inl (.getfield 21, 9, 1, 0)), (21, .inl (.iload_n 1, 0, 0, 0)), (22, .inr (.invokevirtual 141, 4, 42, 2, [])), (25, .inr (.nop, 1, 25, 0, []))]
def b153_25 : List kIt := [(25, .inr (.invokevirtual 147, 4, 25, 2, [])), (28, .inr (.nop, 1, 28, 0, []))]
def b153_28 : List kIt := [(28, .inl (.istore_n 2, 0, 0, 0)), (29, .inl (.iconst 0, 0, 0, 0)), (30, .inl (.aload_n 0, 0, 0, 0)), (31, .inl (.getfield 21, 9, 1, 0)), (34, .inl (.iload_n 1, 0, 0, 0)), (35, .inl (.iload_n 2, 0, 0, 0)), (36, .inr (.invokevirtual 207, 4, 54, 3, [])), (39, .inr (.nop, 1, 39, 0, []))]
def b153_39 : List kIt := [(39, .inl (.aload_n 0, 0, 0, 0)), (40, .inl (.getfield 60, 9, 6, 0)), (43, .inl (.iload_n 1, 0, 0, 0)), (44, .inr (.invokevirtual 144, 4, 27, 2, [])), (47, .inr (.nop, 1, 47, 0, []))]
def b153_47 : List kIt := [(47, .inl (.isub, 0, 0, 0)), (48, .inl (.invokestatic 212, 1, 0, 0)), (51, .inl (.istore_n 3, 0, 0, 0)), (52, .inl (.aload_n 0, 0, 0, 0)), (53, .inl (.getfield 60, 9, 6, 0)), (56, .inl (.iload_n 1, 0, 0, 0)), (57, .inl (.iload_n 3, 0, 0, 0)), (58, .inl (.aload_n 0, 0, 0, 0)), (59, .inl (.getfield 21, 9, 1, 0)), (62, .inl (.iload_n 1, 0, 0, 0)), (63, .inl (.iload_n 2, 0, 0, 0)), (64, .inr (.invokevirtual 279, 4, 55, 3, [])), (67, .inr (.nop, 1, 67, 0, []))]
def b153_67 : List kIt := [(67, .inr (.invokevirtual 283, 4, 35, 4, [])), (70, .inr (.nop, 1, 70, 0, []))]
def b153_70 : List kIt := [(70, .inl (.iload_n 3, 0, 0, 0)), (71, .inr (.ireturn, 3, 0, 0, []))]
def c153 : List (Nat × List kIt) := [(0, b153_0), (8, b153_8), (13, b153_13), (25, b153_25), (28, b153_28), (39, b153_39), (47, b153_47), (67, b153_67), (70, b153_70)]
-- 154: PennyALap.anew
def b154_0 : List kIt := [(0, .inl (.aload_n 0, 0, 0, 0)), (1, .inl (.getfield 60, 9, 6, 0)), (4, .inr (.invokevirtual 287, 4, 33, 1, [])), (7, .inr (.nop, 1, 7, 0, []))]
def b154_7 : List kIt := [(7, .inl (.istore_n 1, 0, 0, 0)), (8, .inl (.aload_n 0, 0, 0, 0)), (9, .inl (.getfield 60, 9, 6, 0)), (12, .inr (.invokevirtual 290, 4, 36, 1, [])), (15, .inr (.nop, 1, 15, 0, []))]
def b154_15 : List kIt := [(15, .inl (.iload_n 1, 0, 0, 0)), (16, .inr (.ireturn, 3, 0, 0, []))]
def c154 : List (Nat × List kIt) := [(0, b154_0), (7, b154_7), (15, b154_15)]
-- 155: PennyALap.led
def b155_0 : List kIt := [(0, .inl (.iload_n 1, 0, 0, 0)), (1, .inr (.nop, 2, 76, 0, [(0, 36), (1, 44), (2, 52), (3, 60), (4, 68)]))]
def b155_36 : List kIt := [(36, .inl (.aload_n 0, 0, 0, 0)), (37, .inl (.getfield 60, 9, 6, 0)), (40, .inr (.invokevirtual 293, 4, 28, 1, [])), (43, .inr (.nop, 1, 43, 0, []))]
def b155_43 : List kIt := [(43, .inr (.ireturn, 3, 0, 0, []))]
def b155_44 : List kIt := [(44, .inl (.aload_n 0, 0, 0, 0)), (45, .inl (.getfield 60, 9, 6, 0)), (48, .inr (.invokevirtual 296, 4, 29, 1, [])), (51, .inr (.nop, 1, 51, 0, []))]
def b155_51 : List kIt := [(51, .inr (.ireturn, 3, 0, 0, []))]
def b155_52 : List kIt := [(52, .inl (.aload_n 0, 0, 0, 0)), (53, .inl (.getfield 60, 9, 6, 0)), (56, .inr (.invokevirtual 299, 4, 31, 1, [])), (59, .inr (.nop, 1, 59, 0, []))]
def b155_59 : List kIt := [(59, .inr (.ireturn, 3, 0, 0, []))]
def b155_60 : List kIt := [(60, .inl (.aload_n 0, 0, 0, 0)), (61, .inl (.getfield 60, 9, 6, 0)), (64, .inr (.invokevirtual 302, 4, 30, 1, [])), (67, .inr (.nop, 1, 67, 0, []))]
def b155_67 : List kIt := [(67, .inr (.ireturn, 3, 0, 0, []))]
def b155_68 : List kIt := [(68, .inl (.aload_n 0, 0, 0, 0)), (69, .inl (.getfield 60, 9, 6, 0)), (72, .inr (.invokevirtual 305, 4, 32, 1, [])), (75, .inr (.nop, 1, 75, 0, []))]
def b155_75 : List kIt := [(75, .inr (.ireturn, 3, 0, 0, []))]
def b155_76 : List kIt := [(76, .inl (.iconst (-1), 0, 0, 0)), (77, .inr (.ireturn, 3, 0, 0, []))]
def c155 : List (Nat × List kIt) := [(0, b155_0), (36, b155_36), (43, b155_43), (44, b155_44), (51, b155_51), (52, b155_52), (59, b155_59), (60, b155_60), (67, b155_67), (68, b155_68), (75, b155_75), (76, b155_76)]
-- 156: PennyALap.image
def b156_0 : List kIt := [(0, .inl (.aload_n 0, 0, 0, 0)), (1, .inl (.getfield 64, 9, 7, 0)), (4, .inl (.aload_n 0, 0, 0, 0)), (5, .inl (.getfield 60, 9, 6, 0)), (8, .inr (.invokevirtual 308, 4, 37, 2, [])), (11, .inr (.nop, 1, 11, 0, []))]
def b156_11 : List kIt := [(11, .inl (.aload_n 0, 0, 0, 0)), (12, .inl (.iconst 1, 0, 0, 0)), (13, .inl (.putfield 312, 9, 8, 1)), (16, .inl (.aload_n 0, 0, 0, 0)), (17, .inl (.getfield 60, 9, 6, 0)), (20, .inr (.invokevirtual 293, 4, 28, 1, [])), (23, .inr (.nop, 1, 23, 0, []))]
def b156_23 : List kIt := [(23, .inr (.ireturn, 3, 0, 0, []))]
def c156 : List (Nat × List kIt) := [(0, b156_0), (11, b156_11), (23, b156_23)]
-- 157: PennyALap.back
def b157_0 : List kIt := [(0, .inl (.aload_n 0, 0, 0, 0)), (1, .inl (.getfield 312, 9, 8, 0)), (4, .inr (.ifCond .ne 6, 0, 10, 0, [])), (7, .inl (.bipush (-5), 0, 0, 0)), (9, .inr (.ireturn, 3, 0, 0, []))]
def b157_10 : List kIt := [(10, .inl (.aload_n 0, 0, 0, 0)), (11, .inl (.getfield 60, 9, 6, 0)), (14, .inl (.aload_n 0, 0, 0, 0)), (15, .inl (.getfield 64, 9, 7, 0)), (18, .inr (.invokevirtual 308, 4, 37, 2, [])), (21, .inr (.nop, 1, 21, 0, []))]
def b157_21 : List kIt := [(21, .inl (.aload_n 0, 0, 0, 0)), (22, .inl (.getfield 60, 9, 6, 0)), (25, .inr (.invokevirtual 293, 4, 28, 1, [])), (28, .inr (.nop, 1, 28, 0, []))]
def b157_28 : List kIt := [(28, .inr (.ireturn, 3, 0, 0, []))]
def c157 : List (Nat × List kIt) := [(0, b157_0), (10, b157_10), (21, b157_21), (28, b157_28)]
-- 158: PennyALap.undo
def b158_0 : List kIt := [(0, .inl (.aload_n 0, 0, 0, 0)), (1, .inl (.getfield 28, 9, 2, 0)), (4, .inl (.aload_n 0, 0, 0, 0)), (5, .inl (.getfield 21, 9, 1, 0)), (8, .inr (.invokevirtual 316, 4, 16, 2, [])), (11, .inr (.nop, 1, 11, 0, []))]
def b158_11 : List kIt := [(11, .inr (.ireturn, 3, 0, 0, []))]
def c158 : List (Nat × List kIt) := [(0, b158_0), (11, b158_11)]
-- 159: PennyALap.redo
def b159_0 : List kIt := [(0, .inl (.aload_n 0, 0, 0, 0)), (1, .inl (.getfield 28, 9, 2, 0)), (4, .inl (.aload_n 0, 0, 0, 0)), (5, .inl (.getfield 21, 9, 1, 0)), (8, .inr (.invokevirtual 320, 4, 17, 2, [])), (11, .inr (.nop, 1, 11, 0, []))]
def b159_11 : List kIt := [(11, .inr (.ireturn, 3, 0, 0, []))]
def c159 : List (Nat × List kIt) := [(0, b159_0), (11, b159_11)]
-- 160: PennyALap.body
def b160_0 : List kIt := [(0, .inl (.aload_n 0, 0, 0, 0)), (1, .inl (.getfield 70, 9, 9, 0)), (4, .inl (.iload_n 1, 0, 0, 0)), (5, .inr (.invokevirtual 323, 4, 2, 2, [])), (8, .inr (.nop, 1, 8, 0, []))]
def b160_8 : List kIt := [(8, .inr (.ifCond .ne 5, 0, 13, 0, [])), (11, .inl (.iconst (-1), 0, 0, 0)), (12, .inr (.ireturn, 3, 0, 0, []))]
def b160_13 : List kIt := [(13, .inl (.aload_n 0, 0, 0, 0)), (14, .inl (.getfield 70, 9, 9, 0)), (17, .inl (.iload_n 1, 0, 0, 0)), (18, .inr (.invokevirtual 326, 4, 5, 2, [])), (21, .inr (.nop, 1, 21, 0, []))]
def b160_21 : List kIt := [(21, .inr (.ireturn, 3, 0, 0, []))]
def c160 : List (Nat × List kIt) := [(0, b160_0), (8, b160_8), (13, b160_13), (21, b160_21)]
-- 161: PennyALap.act
def b161_0 : List kIt := [(0, .inl (.aload_n 0, 0, 0, 0)), (1, .inl (.getfield 70, 9, 9, 0)), (4, .inl (.iload_n 1, 0, 0, 0)), (5, .inl (.iload_n 2, 0, 0, 0)), (6, .inl (.iload_n 3, 0, 0, 0)), (7, .inr (.invokevirtual 329, 4, 8, 4, [])), (10, .inr (.nop, 1, 10, 0, []))]
def b161_10 : List kIt := [(10, .inr (.ireturn, 3, 0, 0, []))]
def c161 : List (Nat × List kIt) := [(0, b161_0), (10, b161_10)]
-- 162: PennyALap.trace
def b162_0 : List kIt := [(0, .inl (.aload_n 0, 0, 0, 0)), (1, .inl (.getfield 70, 9, 9, 0)), (4, .inl (.iload_n 1, 0, 0, 0)), (5, .inr (.invokevirtual 331, 4, 7, 2, [])), (8, .inr (.nop, 1, 8, 0, []))]
def b162_8 : List kIt := [(8, .inr (.ireturn, 3, 0, 0, []))]
def c162 : List (Nat × List kIt) := [(0, b162_0), (8, b162_8)]
-- 163: PennyALap.keep
def b163_0 : List kIt := [(0, .inl (.aload_n 0, 0, 0, 0)), (1, .inl (.getfield 77, 9, 10, 0)), (4, .inl (.iload_n 1, 0, 0, 0)), (5, .inr (.invokevirtual 103, 4, 86, 2, [])), (8, .inr (.nop, 1, 8, 0, []))]
def b163_8 : List kIt := [(8, .inr (.ifCond .eq 19, 0, 27, 0, [])), (11, .inl (.iload_n 2, 0, 0, 0)), (12, .inl (.iconst (-1), 0, 0, 0)), (13, .inr (.if_icmp .eq 16, 0, 29, 0, [])), (16, .inl (.aload_n 0, 0, 0, 0)), (17, .inl (.getfield 70, 9, 9, 0)), (20, .inl (.iload_n 2, 0, 0, 0)), (21, .inr (.invokevirtual 334, 4, 3, 2, [])), (24, .inr (.nop, 1, 24, 0, []))]
def b163_24 : List kIt := [(24, .inr (.ifCond .ne 5, 0, 29, 0, [])), (27, .inr (.nop, 1, 27, 0, []))]
def b163_27 : List kIt := [(27, .inl (.iconst (-1), 0, 0, 0)), (28, .inr (.ireturn, 3, 0, 0, []))]
def b163_29 : List kIt := [(29, .inl (.aload_n 0, 0, 0, 0)), (30, .inl (.getfield 77, 9, 10, 0)), (33, .inl (.iload_n 1, 0, 0, 0)), (34, .inl (.iload_n 2, 0, 0, 0)), (35, .inr (.invokevirtual 337, 4, 95, 3, [])), (38, .inr (.nop, 1, 38, 0, []))]
def b163_38 : List kIt := [(38, .inl (.iconst 1, 0, 0, 0)), (39, .inr (.ireturn, 3, 0, 0, []))]
def c163 : List (Nat × List kIt) := [(0, b163_0), (8, b163_8), (24, b163_24), (27, b163_27), (29, b163_29), (38, b163_38)]
-- 164: PennyALap.row
def b164_0 : List kIt := [(0, .inl (.aload_n 0, 0, 0, 0)), (1, .inl (.getfield 77, 9, 10, 0)), (4, .inl (.iload_n 1, 0, 0, 0)), (5, .inr (.invokevirtual 103, 4, 86, 2, [])), (8, .inr (.nop, 1, 8, 0, []))]
def b164_8 : List kIt := [(8, .inr (.ifCond .eq 18, 0, 26, 0, [])), (11, .inl (.iload_n 2, 0, 0, 0)), (12, .inl (.iconst 0, 0, 0, 0)), (13, .inl (.iconst 4, 0, 0, 0)), (14, .inr (.invokestatic 88, 4, 118, 3, [])), (17, .inr (.nop, 1, 17, 0, []))]
def b164_17 : List kIt := [(17, .inr (.ifCond .eq 9, 0, 26, 0, [])), (20, .inl (.iload_n 3, 0, 0, 0)), (21, .inl (.bipush 60, 0, 0, 0)), (23, .inr (.if_icmp .le 5, 0, 28, 0, [])), (26, .inr (.nop, 1, 26, 0, []))]
def b164_26 : List kIt := [(26, .inl (.iconst (-1), 0, 0, 0)), (27, .inr (.ireturn, 3, 0, 0, []))]
def b164_28 : List kIt := [(28, .inl (.iload_n 3, 0, 0, 0)), (29, .inr (.ifCond .ge 6, 0, 35, 0, [])), (32, .inl (.bipush (-14), 0, 0, 0)), (34, .inr (.ireturn, 3, 0, 0, []))]
def b164_35 : List kIt := [(35, .inl (.aload_n 0, 0, 0, 0)), (36, .inl (.getfield 77, 9, 10, 0)), (39, .inl (.iload_n 1, 0, 0, 0)), (40, .inl (.iload_n 2, 0, 0, 0)), (41, .inl (.iload_n 3, 0, 0, 0)), (42, .inr (.invokevirtual 340, 4, 96, 4, [])), (45, .inr (.nop, 1, 45, 0, []))]
def b164_45 : List kIt := [(45, .inl (.iconst 1, 0, 0, 0)), (46, .inr (.ireturn, 3, 0, 0, []))]
def c164 : List (Nat × List kIt) := [(0, b164_0), (8, b164_8), (17, b164_17), (26, b164_26), (28, b164_28), (35, b164_35), (45, b164_45)]
-- 165: PennyALap.put
def b165_0 : List kIt := [(0, .inl (.aload_n 0, 0, 0, 0)), (1, .inl (.getfield 77, 9, 10, 0)), (4, .inl (.iload_n 1, 0, 0, 0)), (5, .inl (.iload_n 2, 0, 0, 0)), (6, .inr (.invokevirtual 343, 4, 91, 3, [])), (9, .inr (.nop, 1, 9, 0, []))]
def b165_9 : List kIt := [(9, .inl (.istore 5, 0, 0, 0)), (11, .inl (.iload 5, 0, 0, 0)), (13, .inr (.ifCond .eq 6, 0, 19, 0, [])), (16, .inl (.iload 5, 0, 0, 0)), (18, .inr (.ireturn, 3, 0, 0, []))]
def b165_19 : List kIt := [(19, .inl (.aload_n 0, 0, 0, 0)), (20, .inl (.getfield 77, 9, 10, 0)), (23, .inl (.iload_n 1, 0, 0, 0)), (24, .inl (.iload_n 2, 0, 0, 0)), (25, .inl (.lload_n 3, 0, 0, 0)), (26, .inr (.invokevirtual 346, 4, 98, 4, [])), (29, .inr (.nop, 1, 29, 0, []))]
def b165_29 : List kIt := [(29, .inl (.iconst 1, 0, 0, 0)), (30, .inr (.ireturn, 3, 0, 0, []))]
def c165 : List (Nat × List kIt) := [(0, b165_0), (9, b165_9), (19, b165_19), (29, b165_29)]
-- 166: PennyALap.element
def b166_0 : List kIt := [(0, .inl (.aload_n 0, 0, 0, 0)), (1, .inl (.getfield 77, 9, 10, 0)), (4, .inl (.iload_n 1, 0, 0, 0)), (5, .inl (.iload_n 2, 0, 0, 0)), (6, .inr (.invokevirtual 343, 4, 91, 3, [])), (9, .inr (.nop, 1, 9, 0, []))]
def b166_9 : List kIt := [(9, .inr (.ifCond .eq 9, 0, 18, 0, [])), (12, .inl (.ldc2_w 351, 0, 0, (-9223372036854775808))), (15, .inr (.goto 12, 1, 27, 0, []))]
def b166_18 : List kIt := [(18, .inl (.aload_n 0, 0, 0, 0)), (19, .inl (.getfield 77, 9, 10, 0)), (22, .inl (.iload_n 1, 0, 0, 0)), (23, .inl (.iload_n 2, 0, 0, 0)), (24, .inr (.invokevirtual 117, 4, 97, 3, [])), (27, .inr (.nop, 1, 27, 0, []))]
def b166_27 : List kIt := [(27, .inr (.lreturn, 3, 0, 0, []))]
def c166 : List (Nat × List kIt) := [(0, b166_0), (9, b166_9), (18, b166_18), (27, b166_27)]
-- 167: PennyALap.shift
def b167_0 : List kIt := [(0, .inl (.aload_n 0, 0, 0, 0)), (1, .inl (.getfield 77, 9, 10, 0)), (4, .inl (.iload_n 1, 0, 0, 0)), (5, .inr (.invokevirtual 103, 4, 86, 2, [])), (8, .inr (.nop, 1, 8, 0, []))]
def b167_8 : List kIt := [(8, .inr (.ifCond .eq 14, 0, 22, 0, [])), (11, .inl (.aload_n 0, 0, 0, 0)), (12, .inl (.getfield 77, 9, 10, 0)), (15, .inl (.iload_n 3, 0, 0, 0)), (16, .inr (.invokevirtual 103, 4, 86, 2, [])), (19, .inr (.nop, 1, 19, 0, []))]
def b167_19 : List kIt := [(19, .inr (.ifCond .ne 5, 0, 24, 0, [])), (22, .inr (.nop, 1, 22, 0, []))]
def b167_22 : List kIt := [(22, .inl (.iconst (-1), 0, 0, 0)), (23, .inr (.ireturn, 3, 0, 0, []))]
def b167_24 : List kIt := [(24, .inl (.aload_n 0, 0, 0, 0)), (25, .inl (.getfield 77, 9, 10, 0)), (28, .inl (.iload_n 1, 0, 0, 0)), (29, .inr (.invokevirtual 353, 4, 87, 2, [])), (32, .inr (.nop, 1, 32, 0, []))]
def b167_32 : List kIt := [(32, .inr (.ifCond .ne 14, 0, 46, 0, [])), (35, .inl (.aload_n 0, 0, 0, 0)), (36, .inl (.getfield 77, 9, 10, 0)), (39, .inl (.iload_n 3, 0, 0, 0)), (40, .inr (.invokevirtual 353, 4, 87, 2, [])), (43, .inr (.nop, 1, 43, 0, []))]
def b167_43 : List kIt := [(43, .inr (.ifCond .eq 6, 0, 49, 0, [])), (46, .inr (.nop, 1, 46, 0, []))]
def b167_46 : List kIt := [(46, .inl (.bipush (-11), 0, 0, 0)), (48, .inr (.ireturn, 3, 0, 0, []))]
def b167_49 : List kIt := [(49, .inl (.aload_n 0, 0, 0, 0)), (50, .inl (.getfield 77, 9, 10, 0)), (53, .inl (.iload_n 1, 0, 0, 0)), (54, .inr (.invokevirtual 356, 4, 88, 2, [])), (57, .inr (.nop, 1, 57, 0, []))]
def b167_57 : List kIt := [(57, .inr (.ifCond .eq 26, 0, 83, 0, [])), (60, .inl (.aload_n 0, 0, 0, 0)), (61, .inl (.getfield 77, 9, 10, 0)), (64, .inl (.iload_n 3, 0, 0, 0)), (65, .inr (.invokevirtual 356, 4, 88, 2, [])), (68, .inr (.nop, 1, 68, 0, []))]
def b167_68 : List kIt := [(68, .inr (.ifCond .eq 15, 0, 83, 0, [])), (71, .inl (.aload_n 0, 0, 0, 0)), (72, .inl (.getfield 77, 9, 10, 0)), (75, .inl (.iload_n 1, 0, 0, 0)), (76, .inl (.iload_n 3, 0, 0, 0)), (77, .inr (.invokevirtual 359, 4, 89, 3, [])), (80, .inr (.nop, 1, 80, 0, []))]
def b167_80 : List kIt := [(80, .inr (.ifCond .ne 6, 0, 86, 0, [])), (83, .inr (.nop, 1, 83, 0, []))]
def b167_83 : List kIt := [(83, .inl (.bipush (-12), 0, 0, 0)), (85, .inr (.ireturn, 3, 0, 0, []))]
def b167_86 : List kIt := [(86, .inl (.aload_n 0, 0, 0, 0)), (87, .inl (.getfield 77, 9, 10, 0)), (90, .inl (.iload_n 1, 0, 0, 0)), (91, .inl (.iload_n 2, 0, 0, 0)), (92, .inl (.iload 5, 0, 0, 0)), (94, .inr (.invokevirtual 362, 4, 100, 4, [])), (97, .inr (.nop, 1, 97, 0, []))]
def b167_97 : List kIt := [(97, .inr (.ifCond .eq 18, 0, 115, 0, [])), (100, .inl (.aload_n 0, 0, 0, 0)), (101, .inl (.getfield 77, 9, 10, 0)), (104, .inl (.iload_n 3, 0, 0, 0)), (105, .inl (.iload 4, 0, 0, 0)), (107, .inl (.iload 5, 0, 0, 0)), (109, .inr (.invokevirtual 362, 4, 100, 4, [])), (112, .inr (.nop, 1, 112, 0, []))]
def b167_112 : List kIt := [(112, .inr (.ifCond .ne 6, 0, 118, 0, [])), (115, .inr (.nop, 1, 115, 0, []))]
def b167_115 : List kIt := [(115, .inl (.bipush (-13), 0, 0, 0)), (117, .inr (.ireturn, 3, 0, 0, []))]
def b167_118 : List kIt := [(118, .inl (.aload_n 0, 0, 0, 0)), (119, .inl (.getfield 77, 9, 10, 0)), (122, .inl (.iload_n 1, 0, 0, 0)), (123, .inl (.iload_n 2, 0, 0, 0)), (124, .inl (.iload_n 3, 0, 0, 0)), (125, .inl (.iload 4, 0, 0, 0)), (127, .inl (.iload 5, 0, 0, 0)), (129, .inr (.invokevirtual 365, 4, 101, 6, [])), (132, .inr (.nop, 1, 132, 0, []))]
def b167_132 : List kIt := [(132, .inl (.iload 5, 0, 0, 0)), (134, .inr (.ireturn, 3, 0, 0, []))]
def c167 : List (Nat × List kIt) := [(0, b167_0), (8, b167_8), (19, b167_19), (22, b167_22), (24, b167_24), (32, b167_32), (43, b167_43), (46, b167_46), (49, b167_49), (57, b167_57), (68, b167_68), (80, b167_80), (83, b167_83), (86, b167_86), (97, b167_97), (112, b167_112), (115, b167_115), (118, b167_118), (132, b167_132)]
-- 168: PennyALap.taken
def b168_0 : List kIt := [(0, .inl (.aload_n 0, 0, 0, 0)), (1, .inl (.getfield 77, 9, 10, 0)), (4, .inl (.iload_n 1, 0, 0, 0)), (5, .inr (.invokevirtual 103, 4, 86, 2, [])), (8, .inr (.nop, 1, 8, 0, []))]
def b168_8 : List kIt := [(8, .inr (.ifCond .eq 14, 0, 22, 0, [])), (11, .inl (.aload_n 0, 0, 0, 0)), (12, .inl (.getfield 70, 9, 9, 0)), (15, .inl (.iload_n 2, 0, 0, 0)), (16, .inr (.invokevirtual 323, 4, 2, 2, [])), (19, .inr (.nop, 1, 19, 0, []))]
def b168_19 : List kIt := [(19, .inr (.ifCond .ne 5, 0, 24, 0, [])), (22, .inr (.nop, 1, 22, 0, []))]
def b168_22 : List kIt := [(22, .inl (.iconst (-1), 0, 0, 0)), (23, .inr (.ireturn, 3, 0, 0, []))]
def b168_24 : List kIt := [(24, .inl (.aload_n 0, 0, 0, 0)), (25, .inl (.getfield 77, 9, 10, 0)), (28, .inl (.iload_n 1, 0, 0, 0)), (29, .inl (.iconst 5, 0, 0, 0)), (30, .inr (.invokevirtual 107, 4, 90, 3, [])), (33, .inr (.nop, 1, 33, 0, []))]
def b168_33 : List kIt := [(33, .inl (.istore_n 3, 0, 0, 0)), (34, .inl (.iload_n 3, 0, 0, 0)), (35, .inr (.ifCond .eq 5, 0, 40, 0, [])), (38, .inl (.iload_n 3, 0, 0, 0)), (39, .inr (.ireturn, 3, 0, 0, []))]
def b168_40 : List kIt := [(40, .inl (.aload_n 0, 0, 0, 0)), (41, .inl (.getfield 70, 9, 9, 0)), (44, .inl (.aload_n 0, 0, 0, 0)), (45, .inl (.getfield 77, 9, 10, 0)), (48, .inl (.iload_n 1, 0, 0, 0)), (49, .inr (.invokevirtual 369, 4, 94, 2, [])), (52, .inr (.nop, 1, 52, 0, []))]
def b168_52 : List kIt := [(52, .inr (.invokevirtual 372, 4, 4, 2, [])), (55, .inr (.nop, 1, 55, 0, []))]
def b168_55 : List kIt := [(55, .inl (.istore 4, 0, 0, 0)), (57, .inl (.aload_n 0, 0, 0, 0)), (58, .inl (.getfield 70, 9, 9, 0)), (61, .inl (.iload 4, 0, 0, 0)), (63, .inl (.iload_n 2, 0, 0, 0)), (64, .inr (.invokevirtual 375, 4, 6, 3, [])), (67, .inr (.nop, 1, 67, 0, []))]
def b168_67 : List kIt := [(67, .inr (.ifCond .eq 8, 0, 75, 0, [])), (70, .inl (.iload 4, 0, 0, 0)), (72, .inr (.goto 5, 1, 77, 0, []))]
def b168_75 : List kIt := [(75, .inl (.bipush (-12), 0, 0, 0)), (77, .inr (.nop, 1, 77, 0, []))]
def b168_77 : List kIt := [(77, .inr (.ireturn, 3, 0, 0, []))]
def c168 : List (Nat × List kIt) := [(0, b168_0), (8, b168_8), (19, b168_19), (22, b168_22), (24, b168_24), (33, b168_33), (40, b168_40), (52, b168_52), (55, b168_55), (67, b168_67), (75, b168_75), (77, b168_77)]
-- 169: PennyALap.count
def b169_0 : List kIt := [(0, .inl (.iload_n 1, 0, 0, 0)), (1, .inr (.nop, 2, 88, 0, [(0, 40), (1, 48), (2, 56), (3, 64), (4, 72), (5, 80)]))]
def b169_40 : List kIt := [(40, .inl (.aload_n 0, 0, 0, 0)), (41, .inl (.getfield 21, 9, 1, 0)), (44, .inr (.invokevirtual 270, 4, 38, 1, [])), (47, .inr (.nop, 1, 47, 0, []))]
def b169_47 : List kIt := [(47, .inr (.ireturn, 3, 0, 0, []))]
def b169_48 : List kIt := [(48, .inl (.aload_n 0, 0, 0, 0)), (49, .inl (.getfield 21, 9, 1, 0)), (52, .inr (.invokevirtual 378, 4, 39, 1, [])), (55, .inr (.nop, 1, 55, 0, []))]
def b169_55 : List kIt := [(55, .inr (.ireturn, 3, 0, 0, []))]
def b169_56 : List kIt := [(56, .inl (.aload_n 0, 0, 0, 0)), (57, .inl (.getfield 10, 9, 0, 0)), (60, .inr (.invokevirtual 381, 4, 58, 1, [])), (63, .inr (.nop, 1, 63, 0, []))]
def b169_63 : List kIt := [(63, .inr (.ireturn, 3, 0, 0, []))]
def b169_64 : List kIt := [(64, .inl (.aload_n 0, 0, 0, 0)), (65, .inl (.getfield 28, 9, 2, 0)), (68, .inr (.invokevirtual 384, 4, 13, 1, [])), (71, .inr (.nop, 1, 71, 0, []))]
def b169_71 : List kIt := [(71, .inr (.ireturn, 3, 0, 0, []))]
def b169_72 : List kIt := [(72, .inl (.aload_n 0, 0, 0, 0)), (73, .inl (.getfield 70, 9, 9, 0)), (76, .inr (.invokevirtual 387, 4, 0, 1, [])), (79, .inr (.nop, 1, 79, 0, []))]
def b169_79 : List kIt := [(79, .inr (.ireturn, 3, 0, 0, []))]
def b169_80 : List kIt := [(80, .inl (.aload_n 0, 0, 0, 0)), (81, .inl (.getfield 70, 9, 9, 0)), (84, .inr (.invokevirtual 389, 4, 1, 1, [])), (87, .inr (.nop, 1, 87, 0, []))]
def b169_87 : List kIt := [(87, .inr (.ireturn, 3, 0, 0, []))]
def b169_88 : List kIt := [(88, .inl (.iconst (-1), 0, 0, 0)), (89, .inr (.ireturn, 3, 0, 0, []))]
def c169 : List (Nat × List kIt) := [(0, b169_0), (40, b169_40), (47, b169_47), (48, b169_48), (55, b169_55), (56, b169_56), (63, b169_63), (64, b169_64), (71, b169_71), (72, b169_72), (79, b169_79), (80, b169_80), (87, b169_87), (88, b169_88)]
-- 170: PennyALapModel.in
def b170_0 : List kIt := [(0, .inl (.iload_n 0, 0, 0, 0)), (1, .inl (.iload_n 1, 0, 0, 0)), (2, .inr (.if_icmp .lt 12, 0, 14, 0, [])), (5, .inl (.iload_n 0, 0, 0, 0)), (6, .inl (.iload_n 2, 0, 0, 0)), (7, .inr (.if_icmp .gt 7, 0, 14, 0, [])), (10, .inl (.iconst 1, 0, 0, 0)), (11, .inr (.goto 4, 1, 15, 0, []))]
def b170_14 : List kIt := [(14, .inl (.iconst 0, 0, 0, 0)), (15, .inr (.nop, 1, 15, 0, []))]
def b170_15 : List kIt := [(15, .inr (.ireturn, 3, 1, 0, []))]
def c170 : List (Nat × List kIt) := [(0, b170_0), (14, b170_14), (15, b170_15)]
-- 171: PennyALapModel.isChild
def b171_0 : List kIt := [(0, .inl (.iload_n 1, 0, 0, 0)), (1, .inl (.iconst 0, 0, 0, 0)), (2, .inl (.aload_n 0, 0, 0, 0)), (3, .inl (.getfield 143, 10, 1, 0)), (6, .inl (.iconst 1, 0, 0, 0)), (7, .inl (.isub, 0, 0, 0)), (8, .inr (.invokestatic 146, 4, 170, 3, [])), (11, .inr (.nop, 1, 11, 0, []))]
def b171_11 : List kIt := [(11, .inr (.ireturn, 3, 1, 0, []))]
def c171 : List (Nat × List kIt) := [(0, b171_0), (11, b171_11)]
-- 172: PennyALapModel.isSponsor
def b172_0 : List kIt := [(0, .inl (.iload_n 1, 0, 0, 0)), (1, .inl (.iconst 0, 0, 0, 0)), (2, .inl (.aload_n 0, 0, 0, 0)), (3, .inl (.getfield 150, 10, 6, 0)), (6, .inl (.iconst 1, 0, 0, 0)), (7, .inl (.isub, 0, 0, 0)), (8, .inr (.invokestatic 146, 4, 170, 3, [])), (11, .inr (.nop, 1, 11, 0, []))]
def b172_11 : List kIt := [(11, .inr (.ireturn, 3, 1, 0, []))]
def c172 : List (Nat × List kIt) := [(0, b172_0), (11, b172_11)]
-- 173: PennyALapModel.child
def b173_0 : List kIt := [(0, .inl (.iload_n 1, 0, 0, 0)), (1, .inl (.iconst 1, 0, 0, 0)), (2, .inl (.bipush 30, 0, 0, 0)), (4, .inr (.invokestatic 146, 4, 170, 3, [])), (7, .inr (.nop, 1, 7, 0, []))]
def b173_7 : List kIt := [(7, .inr (.ifCond .ne 5, 0, 12, 0, [])), (10, .inl (.iconst (-1), 0, 0, 0)), (11, .inr (.ireturn, 3, 0, 0, []))]
def b173_12 : List kIt := [(12, .inl (.aload_n 0, 0, 0, 0)), (13, .inl (.getfield 143, 10, 1, 0)), (16, .inl (.bipush 6, 0, 0, 0)), (18, .inr (.if_icmp .ne 6, 0, 24, 0, [])), (21, .inl (.bipush (-3), 0, 0, 0)), (23, .inr (.ireturn, 3, 0, 0, []))]
def b173_24 : List kIt := [(24, .inl (.aload_n 0, 0, 0, 0)), (25, .inl (.getfield 7, 10, 2, 0)), (28, .inl (.aload_n 0, 0, 0, 0)), (29, .inl (.getfield 143, 10, 1, 0)), (32, .inl (.iload_n 1, 0, 0, 0)), (33, .inl (.iastore, 0, 0, 0)), (34, .inl (.aload_n 0, 0, 0, 0)), (35, .inl (.getfield 13, 10, 3, 0)), (38, .inl (.aload_n 0, 0, 0, 0)), (39, .inl (.getfield 143, 10, 1, 0)), (42, .inl (.iconst 0, 0, 0, 0)), (43, .inl (.iastore, 0, 0, 0)), (44, .inl (.aload_n 0, 0, 0, 0)), (45, .inl (.getfield 16, 10, 4, 0)), (48, .inl (.aload_n 0, 0, 0, 0)), (49, .inl (.getfield 143, 10, 1, 0)), (52, .inl (.bipush 99, 0, 0, 0)), (54, .inl (.iastore, 0, 0, 0)), (55, .inl (.aload_n 0, 0, 0, 0)), (56, .inl (.getfield 19, 10, 5, 0)), (59, .inl (.aload_n 0, 0, 0, 0)), (60, .inl (.getfield 143, 10, 1, 0)), (63, .inl (.iconst 0, 0, 0, 0)), (64, .inl (.iastore, 0, 0, 0)), (65, .inl (.aload_n 0, 0, 0, 0)), (66, .inl (.dup, 0, 0, 0)), (67, .inl (.getfield 143, 10, 1, 0)), (70, .inl (.iconst 1, 0, 0, 0)), (71, .inl (.iadd, 0, 0, 0)), (72, .inl (.putfield 143, 10, 1, 0)), (75, .inl (.aload_n 0, 0, 0, 0)), (76, .inl (.getfield 143, 10, 1, 0)), (79, .inl (.iconst 1, 0, 0, 0)), (80, .inl (.isub, 0, 0, 0)), (81, .inr (.ireturn, 3, 0, 0, []))]
def c173 : List (Nat × List kIt) := [(0, b173_0), (7, b173_7), (12, b173_12), (24, b173_24)]
-- 174: PennyALapModel.addSponsor
def b174_0 : List kIt := [(0, .inl (.aload_n 0, 0, 0, 0)), (1, .inl (.getfield 22, 10, 7, 0)), (4, .inl (.aload_n 0, 0, 0, 0)), (5, .inl (.getfield 150, 10, 6, 0)), (8, .inl (.iload_n 1, 0, 0, 0)), (9, .inl (.iastore, 0, 0, 0)), (10, .inl (.aload_n 0, 0, 0, 0)), (11, .inl (.getfield 25, 10, 8, 0)), (14, .inl (.aload_n 0, 0, 0, 0)), (15, .inl (.getfield 150, 10, 6, 0)), (18, .inl (.iload_n 2, 0, 0, 0)), (19, .inl (.iastore, 0, 0, 0)), (20, .inl (.aload_n 0, 0, 0, 0)), (21, .inl (.getfield 28, 10, 9, 0)), (24, .inl (.aload_n 0, 0, 0, 0)), (25, .inl (.getfield 150, 10, 6, 0)), (28, .inl (.iload_n 3, 0, 0, 0)), (29, .inl (.iastore, 0, 0, 0)), (30, .inl (.aload_n 0, 0, 0, 0)), (31, .inl (.getfield 31, 10, 10, 0)), (34, .inl (.aload_n 0, 0, 0, 0)), (35, .inl (.getfield 150, 10, 6, 0)), (38, .inl (.bipush 10, 0, 0, 0)), (40, .inl (.iastore, 0, 0, 0)), (41, .inl (.aload_n 0, 0, 0, 0)), (42, .inl (.getfield 34, 10, 11, 0)), (45, .inl (.aload_n 0, 0, 0, 0)), (46, .inl (.getfield 150, 10, 6, 0)), (49, .inl (.iconst 0, 0, 0, 0)), (50, .inl (.iastore, 0, 0, 0)), (51, .inl (.aload_n 0, 0, 0, 0)), (52, .inl (.getfield 37, 10, 12, 0)), (55, .inl (.aload_n 0, 0, 0, 0)), (56, .inl (.getfield 150, 10, 6, 0)), (59, .inl (.sipush 9999, 0, 0, 0)), (62, .inl (.iastore, 0, 0, 0)), (63, .inl (.aload_n 0, 0, 0, 0)), (64, .inl (.dup, 0, 0, 0)), (65, .inl (.getfield 150, 10, 6, 0)), (68, .inl (.iconst 1, 0, 0, 0)), (69, .inl (.iadd, 0, 0, 0)), (70, .inl (.putfield 150, 10, 6, 0)), (73, .inl (.aload_n 0, 0, 0, 0)), (74, .inl (.getfield 150, 10, 6, 0)), (77, .inl (.iconst 1, 0, 0, 0)), (78, .inl (.isub, 0, 0, 0)), (79, .inr (.ireturn, 3, 0, 0, []))]
def c174 : List (Nat × List kIt) := [(0, b174_0)]
-- 175: PennyALapModel.sponsor
def b175_0 : List kIt := [(0, .inl (.aload_n 0, 0, 0, 0)), (1, .inl (.iload_n 1, 0, 0, 0)), (2, .inr (.invokevirtual 153, 4, 171, 2, [])), (5, .inr (.nop, 1, 5, 0, []))]
def b175_5 : List kIt := [(5, .inr (.ifCond .eq 14, 0, 19, 0, [])), (8, .inl (.iload_n 2, 0, 0, 0)), (9, .inl (.iconst 0, 0, 0, 0)), (10, .inl (.sipush 200, 0, 0, 0)), (13, .inr (.invokestatic 146, 4, 170, 3, [])), (16, .inr (.nop, 1, 16, 0, []))]
def b175_16 : List kIt := [(16, .inr (.ifCond .ne 5, 0, 21, 0, [])), (19, .inr (.nop, 1, 19, 0, []))]
def b175_19 : List kIt := [(19, .inl (.iconst (-1), 0, 0, 0)), (20, .inr (.ireturn, 3, 0, 0, []))]
def b175_21 : List kIt := [(21, .inl (.aload_n 0, 0, 0, 0)), (22, .inl (.getfield 150, 10, 6, 0)), (25, .inl (.bipush 16, 0, 0, 0)), (27, .inr (.if_icmp .ne 8, 0, 35, 0, [])), (30, .inl (.bipush (-3), 0, 0, 0)), (32, .inr (.goto 10, 1, 42, 0, []))]
def b175_35 : List kIt := [(35, .inl (.aload_n 0, 0, 0, 0)), (36, .inl (.iload_n 1, 0, 0, 0)), (37, .inl (.iload_n 2, 0, 0, 0)), (38, .inl (.iconst 0, 0, 0, 0)), (39, .inr (.invokevirtual 157, 4, 174, 4, [])), (42, .inr (.nop, 1, 42, 0, []))]
def b175_42 : List kIt := [(42, .inr (.ireturn, 3, 0, 0, []))]
def c175 : List (Nat × List kIt) := [(0, b175_0), (5, b175_5), (16, b175_16), (19, b175_19), (21, b175_21), (35, b175_35), (42, b175_42)]
-- 176: PennyALapModel.sponsors
def b176_0 : List kIt := [(0, .inl (.iload_n 1, 0, 0, 0)), (1, .inr (.invokestatic 161, 4, 276, 1, [])), (4, .inr (.nop, 1, 4, 0, []))]
def b176_4 : List kIt := [(4, .inr (.ifCond .eq 13, 0, 17, 0, [])), (7, .inl (.iload_n 3, 0, 0, 0)), (8, .inl (.iconst 1, 0, 0, 0)), (9, .inl (.bipush 16, 0, 0, 0)), (11, .inr (.invokestatic 146, 4, 170, 3, [])), (14, .inr (.nop, 1, 14, 0, []))]
def b176_14 : List kIt := [(14, .inr (.ifCond .ne 5, 0, 19, 0, [])), (17, .inr (.nop, 1, 17, 0, []))]
def b176_17 : List kIt := [(17, .inl (.iconst (-1), 0, 0, 0)), (18, .inr (.ireturn, 3, 0, 0, []))]
def b176_19 : List kIt := [(19, .inl (.aload_n 0, 0, 0, 0)), (20, .inl (.getfield 127, 10, 55, 0)), (23, .inl (.iload_n 1, 0, 0, 0)), (24, .inl (.iaload, 0, 0, 0)), (25, .inl (.iconst (-1), 0, 0, 0)), (26, .inr (.if_icmp .eq 17, 0, 43, 0, [])), (29, .inl (.aload_n 0, 0, 0, 0)), (30, .inl (.getfield 127, 10, 55, 0)), (33, .inl (.iload_n 1, 0, 0, 0)), (34, .inl (.iaload, 0, 0, 0)), (35, .inl (.bipush (-3), 0, 0, 0)), (37, .inr (.if_icmp .eq 6, 0, 43, 0, [])), (40, .inl (.bipush (-12), 0, 0, 0)), (42, .inr (.ireturn, 3, 0, 0, []))]
def b176_43 : List kIt := [(43, .inl (.aload_n 0, 0, 0, 0)), (44, .inl (.getfield 127, 10, 55, 0)), (47, .inl (.iload_n 1, 0, 0, 0)), (48, .inl (.iaload, 0, 0, 0)), (49, .inl (.iconst (-1), 0, 0, 0)), (50, .inr (.if_icmp .ne 5, 0, 55, 0, [])), (53, .inl (.iconst 0, 0, 0, 0)), (54, .inr (.ireturn, 3, 0, 0, []))]
def b176_55 : List kIt := [(55, .inl (.iconst 0, 0, 0, 0)), (56, .inl (.istore 4, 0, 0, 0)), (58, .inr (.nop, 1, 58, 0, []))]
def b176_58 : List kIt := [(58, .inl (.iload 4, 0, 0, 0)), (60, .inl (.iload_n 3, 0, 0, 0)), (61, .inr (.if_icmp .ge 156, 0, 217, 0, [])), (64, .inl (.iload_n 2, 0, 0, 0)), (65, .inl (.i2l, 0, 0, 0)), (66, .inl (.iconst 3, 0, 0, 0)), (67, .inl (.iload 4, 0, 0, 0)), (69, .inl (.imul, 0, 0, 0)), (70, .inl (.i2l, 0, 0, 0)), (71, .inl (.ladd, 0, 0, 0)), (72, .inl (.lstore 5, 0, 0, 0)), (74, .inl (.lload 5, 0, 0, 0)), (76, .inl (.lconst 0, 0, 0, 0)), (77, .inl (.lcmp, 0, 0, 0)), (78, .inr (.ifCond .lt 29, 0, 107, 0, [])), (81, .inl (.lload 5, 0, 0, 0)), (83, .inl (.ldc2_w 164, 0, 0, 2)), (86, .inl (.ladd, 0, 0, 0)), (87, .inl (.aload_n 0, 0, 0, 0)), (88, .inl (.getfield 130, 10, 56, 0)), (91, .inl (.iload_n 1, 0, 0, 0)), (92, .inl (.iaload, 0, 0, 0)), (93, .inl (.i2l, 0, 0, 0)), (94, .inl (.lcmp, 0, 0, 0)), (95, .inr (.ifCond .ge 12, 0, 107, 0, [])), (98, .inl (.aload_n 0, 0, 0, 0)), (99, .inl (.getfield 150, 10, 6, 0)), (102, .inl (.bipush 16, 0, 0, 0)), (104, .inr (.if_icmp .ne 6, 0, 110, 0, [])), (107, .inr (.nop, 1, 107, 0, []))]
def b176_107 : List kIt := [(107, .inl (.iload 4, 0, 0, 0)), (109, .inr (.ireturn, 3, 0, 0, []))]
def b176_110 : List kIt := [(110, .inl (.bipush 60, 0, 0, 0)), (112, .inl (.iload_n 1, 0, 0, 0)), (113, .inl (.imul, 0, 0, 0)), (114, .inl (.lload 5, 0, 0, 0)), (116, .inl (.l2i, 0, 0, 0)), (117, .inl (.iadd, 0, 0, 0)), (118, .inl (.istore 7, 0, 0, 0)), (120, .inl (.aload_n 0, 0, 0, 0)), (121, .inl (.aload_n 0, 0, 0, 0)), (122, .inl (.getfield 133, 10, 57, 0)), (125, .inl (.iload 7, 0, 0, 0)), (127, .inl (.laload, 0, 0, 0)), (128, .inl (.l2i, 0, 0, 0)), (129, .inr (.invokevirtual 153, 4, 171, 2, [])), (132, .inr (.nop, 1, 132, 0, []))]
def b176_132 : List kIt := [(132, .inr (.ifCond .eq 43, 0, 175, 0, [])), (135, .inl (.aload_n 0, 0, 0, 0)), (136, .inl (.getfield 133, 10, 57, 0)), (139, .inl (.iload 7, 0, 0, 0)), (141, .inl (.iconst 1, 0, 0, 0)), (142, .inl (.iadd, 0, 0, 0)), (143, .inl (.laload, 0, 0, 0)), (144, .inl (.l2i, 0, 0, 0)), (145, .inl (.iconst 0, 0, 0, 0)), (146, .inl (.sipush 200, 0, 0, 0)), (149, .inr (.invokestatic 146, 4, 170, 3, [])), (152, .inr (.nop, 1, 152, 0, []))]
def b176_152 : List kIt := [(152, .inr (.ifCond .eq 23, 0, 175, 0, [])), (155, .inl (.aload_n 0, 0, 0, 0)), (156, .inl (.getfield 133, 10, 57, 0)), (159, .inl (.iload 7, 0, 0, 0)), (161, .inl (.iconst 2, 0, 0, 0)), (162, .inl (.iadd, 0, 0, 0)), (163, .inl (.laload, 0, 0, 0)), (164, .inl (.l2i, 0, 0, 0)), (165, .inl (.iconst 0, 0, 0, 0)), (166, .inl (.sipush 999, 0, 0, 0)), (169, .inr (.invokestatic 146, 4, 170, 3, [])), (172, .inr (.nop, 1, 172, 0, []))]
def b176_172 : List kIt := [(172, .inr (.ifCond .ne 6, 0, 178, 0, [])), (175, .inr (.nop, 1, 175, 0, []))]
def b176_175 : List kIt := [(175, .inl (.iload 4, 0, 0, 0)), (177, .inr (.ireturn, 3, 0, 0, []))]
def b176_178 : List kIt := [(178, .inl (.aload_n 0, 0, 0, 0)), (179, .inl (.aload_n 0, 0, 0, 0)), (180, .inl (.getfield 133, 10, 57, 0)), (183, .inl (.iload 7, 0, 0, 0)), (185, .inl (.laload, 0, 0, 0)), (186, .inl (.l2i, 0, 0, 0)), (187, .inl (.aload_n 0, 0, 0, 0)), (188, .inl (.getfield 133, 10, 57, 0)), (191, .inl (.iload 7, 0, 0, 0)), (193, .inl (.iconst 1, 0, 0, 0)), (194, .inl (.iadd, 0, 0, 0)), (195, .inl (.laload, 0, 0, 0)), (196, .inl (.l2i, 0, 0, 0)), (197, .inl (.aload_n 0, 0, 0, 0)), (198, .inl (.getfield 133, 10, 57, 0)), (201, .inl (.iload 7, 0, 0, 0)), (203, .inl (.iconst 2, 0, 0, 0)), (204, .inl (.iadd, 0, 0, 0)), (205, .inl (.laload, 0, 0, 0)), (206, .inl (.l2i, 0, 0, 0)), (207, .inr (.invokevirtual 157, 4, 174, 4, [])), (210, .inr (.nop, 1, 210, 0, []))]
def b176_210 : List kIt := [(210, .inl (.pop, 0, 0, 0)), (211, .inl (.iinc 4 1, 0, 0, 0)), (214, .inr (.goto (-156), 1, 58, 0, []))]
def b176_217 : List kIt := [(217, .inl (.iload_n 3, 0, 0, 0)), (218, .inr (.ireturn, 3, 0, 0, []))]
def c176 : List (Nat × List kIt) := [(0, b176_0), (4, b176_4), (14, b176_14), (17, b176_17), (19, b176_19), (43, b176_43), (55, b176_55), (58, b176_58), (107, b176_107), (110, b176_110), (132, b176_132), (152, b176_152), (172, b176_172), (175, b176_175), (178, b176_178), (210, b176_210), (217, b176_217)]
-- 177: PennyALapModel.valueAt
def b177_0 : List kIt := [(0, .inl (.iload_n 1, 0, 0, 0)), (1, .inr (.nop, 2, 142, 0, [(0, 64), (1, 71), (2, 78), (3, 85), (4, 92), (5, 99), (6, 106), (7, 113), (8, 120), (9, 127), (10, 132), (11, 137)]))]
def b177_64 : List kIt := [(64, .inl (.aload_n 0, 0, 0, 0)), (65, .inl (.getfield 7, 10, 2, 0)), (68, .inl (.iload_n 2, 0, 0, 0)), (69, .inl (.iaload, 0, 0, 0)), (70, .inr (.ireturn, 3, 0, 0, []))]
def b177_71 : List kIt := [(71, .inl (.aload_n 0, 0, 0, 0)), (72, .inl (.getfield 13, 10, 3, 0)), (75, .inl (.iload_n 2, 0, 0, 0)), (76, .inl (.iaload, 0, 0, 0)), (77, .inr (.ireturn, 3, 0, 0, []))]
def b177_78 : List kIt := [(78, .inl (.aload_n 0, 0, 0, 0)), (79, .inl (.getfield 16, 10, 4, 0)), (82, .inl (.iload_n 2, 0, 0, 0)), (83, .inl (.iaload, 0, 0, 0)), (84, .inr (.ireturn, 3, 0, 0, []))]
def b177_85 : List kIt := [(85, .inl (.aload_n 0, 0, 0, 0)), (86, .inl (.getfield 19, 10, 5, 0)), (89, .inl (.iload_n 2, 0, 0, 0)), (90, .inl (.iaload, 0, 0, 0)), (91, .inr (.ireturn, 3, 0, 0, []))]
def b177_92 : List kIt := [(92, .inl (.aload_n 0, 0, 0, 0)), (93, .inl (.getfield 25, 10, 8, 0)), (96, .inl (.iload_n 2, 0, 0, 0)), (97, .inl (.iaload, 0, 0, 0)), (98, .inr (.ireturn, 3, 0, 0, []))]
def b177_99 : List kIt := [(99, .inl (.aload_n 0, 0, 0, 0)), (100, .inl (.getfield 28, 10, 9, 0)), (103, .inl (.iload_n 2, 0, 0, 0)), (104, .inl (.iaload, 0, 0, 0)), (105, .inr (.ireturn, 3, 0, 0, []))]
def b177_106 : List kIt := [(106, .inl (.aload_n 0, 0, 0, 0)), (107, .inl (.getfield 31, 10, 10, 0)), (110, .inl (.iload_n 2, 0, 0, 0)), (111, .inl (.iaload, 0, 0, 0)), (112, .inr (.ireturn, 3, 0, 0, []))]
def b177_113 : List kIt := [(113, .inl (.aload_n 0, 0, 0, 0)), (114, .inl (.getfield 34, 10, 11, 0)), (117, .inl (.iload_n 2, 0, 0, 0)), (118, .inl (.iaload, 0, 0, 0)), (119, .inr (.ireturn, 3, 0, 0, []))]
def b177_120 : List kIt := [(120, .inl (.aload_n 0, 0, 0, 0)), (121, .inl (.getfield 37, 10, 12, 0)), (124, .inl (.iload_n 2, 0, 0, 0)), (125, .inl (.iaload, 0, 0, 0)), (126, .inr (.ireturn, 3, 0, 0, []))]
def b177_127 : List kIt := [(127, .inl (.aload_n 0, 0, 0, 0)), (128, .inl (.getfield 166, 10, 13, 0)), (131, .inr (.ireturn, 3, 0, 0, []))]
def b177_132 : List kIt := [(132, .inl (.aload_n 0, 0, 0, 0)), (133, .inl (.getfield 40, 10, 14, 0)), (136, .inr (.ireturn, 3, 0, 0, []))]
def b177_137 : List kIt := [(137, .inl (.aload_n 0, 0, 0, 0)), (138, .inl (.getfield 44, 10, 15, 0)), (141, .inr (.ireturn, 3, 0, 0, []))]
def b177_142 : List kIt := [(142, .inl (.aload_n 0, 0, 0, 0)), (143, .inl (.getfield 169, 10, 16, 0)), (146, .inr (.ireturn, 3, 0, 0, []))]
def c177 : List (Nat × List kIt) := [(0, b177_0), (64, b177_64), (71, b177_71), (78, b177_78), (85, b177_85), (92, b177_92), (99, b177_99), (106, b177_106), (113, b177_113), (120, b177_120), (127, b177_127), (132, b177_132), (137, b177_137), (142, b177_142)]
-- 178: PennyALapModel.lays
def b178_0 : List kIt := [(0, .inl (.iload_n 1, 0, 0, 0)), (1, .inr (.nop, 2, 178, 0, [(0, 64), (1, 74), (2, 84), (3, 94), (4, 104), (5, 114), (6, 124), (7, 134), (8, 144), (9, 154), (10, 162), (11, 170)]))]
def b178_64 : List kIt := [(64, .inl (.aload_n 0, 0, 0, 0)), (65, .inl (.getfield 7, 10, 2, 0)), (68, .inl (.iload_n 2, 0, 0, 0)), (69, .inl (.iload_n 3, 0, 0, 0)), (70, .inl (.iastore, 0, 0, 0)), (71, .inr (.goto 112, 1, 183, 0, []))]
def b178_74 : List kIt := [(74, .inl (.aload_n 0, 0, 0, 0)), (75, .inl (.getfield 13, 10, 3, 0)), (78, .inl (.iload_n 2, 0, 0, 0)), (79, .inl (.iload_n 3, 0, 0, 0)), (80, .inl (.iastore, 0, 0, 0)), (81, .inr (.goto 102, 1, 183, 0, []))]
def b178_84 : List kIt := [(84, .inl (.aload_n 0, 0, 0, 0)), (85, .inl (.getfield 16, 10, 4, 0)), (88, .inl (.iload_n 2, 0, 0, 0)), (89, .inl (.iload_n 3, 0, 0, 0)), (90, .inl (.iastore, 0, 0, 0)), (91, .inr (.goto 92, 1, 183, 0, []))]
def b178_94 : List kIt := [(94, .inl (.aload_n 0, 0, 0, 0)), (95, .inl (.getfield 19, 10, 5, 0)), (98, .inl (.iload_n 2, 0, 0, 0)), (99, .inl (.iload_n 3, 0, 0, 0)), (100, .inl (.iastore, 0, 0, 0)), (101, .inr (.goto 82, 1, 183, 0, []))]
def b178_104 : List kIt := [(104, .inl (.aload_n 0, 0, 0, 0)), (105, .inl (.getfield 25, 10, 8, 0)), (108, .inl (.iload_n 2, 0, 0, 0)), (109, .inl (.iload_n 3, 0, 0, 0)), (110, .inl (.iastore, 0, 0, 0)), (111, .inr (.goto 72, 1, 183, 0, []))]
def b178_114 : List kIt := [(114, .inl (.aload_n 0, 0, 0, 0)), (115, .inl (.getfield 28, 10, 9, 0)), (118, .inl (.iload_n 2, 0, 0, 0)), (119, .inl (.iload_n 3, 0, 0, 0)), (120, .inl (.iastore, 0, 0, 0)), (121, .inr (.goto 62, 1, 183, 0, []))]
def b178_124 : List kIt := [(124, .inl (.aload_n 0, 0, 0, 0)), (125, .inl (.getfield 31, 10, 10, 0)), (128, .inl (.iload_n 2, 0, 0, 0)), (129, .inl (.iload_n 3, 0, 0, 0)), (130, .inl (.iastore, 0, 0, 0)), (131, .inr (.goto 52, 1, 183, 0, []))]
def b178_134 : List kIt := [(134, .inl (.aload_n 0, 0, 0, 0)), (135, .inl (.getfield 34, 10, 11, 0)), (138, .inl (.iload_n 2, 0, 0, 0)), (139, .inl (.iload_n 3, 0, 0, 0)), (140, .inl (.iastore, 0, 0, 0)), (141, .inr (.goto 42, 1, 183, 0, []))]
def b178_144 : List kIt := [(144, .inl (.aload_n 0, 0, 0, 0)), (145, .inl (.getfield 37, 10, 12, 0)), (148, .inl (.iload_n 2, 0, 0, 0)), (149, .inl (.iload_n 3, 0, 0, 0)), (150, .inl (.iastore, 0, 0, 0)), (151, .inr (.goto 32, 1, 183, 0, []))]
def b178_154 : List kIt := [(154, .inl (.aload_n 0, 0, 0, 0)), (155, .inl (.iload_n 3, 0, 0, 0)), (156, .inl (.putfield 166, 10, 13, 0)), (159, .inr (.goto 24, 1, 183, 0, []))]
def b178_162 : List kIt := [(162, .inl (.aload_n 0, 0, 0, 0)), (163, .inl (.iload_n 3, 0, 0, 0)), (164, .inl (.putfield 40, 10, 14, 0)), (167, .inr (.goto 16, 1, 183, 0, []))]
def b178_170 : List kIt := [(170, .inl (.aload_n 0, 0, 0, 0)), (171, .inl (.iload_n 3, 0, 0, 0)), (172, .inl (.putfield 44, 10, 15, 0)), (175, .inr (.goto 8, 1, 183, 0, []))]
def b178_178 : List kIt := [(178, .inl (.aload_n 0, 0, 0, 0)), (179, .inl (.iload_n 3, 0, 0, 0)), (180, .inl (.putfield 169, 10, 16, 0)), (183, .inr (.nop, 1, 183, 0, []))]
def b178_183 : List kIt := [(183, .inr (.return_, 3, 0, 0, []))]
def c178 : List (Nat × List kIt) := [(0, b178_0), (64, b178_64), (74, b178_74), (84, b178_84), (94, b178_94), (104, b178_104), (114, b178_114), (124, b178_124), (134, b178_134), (144, b178_144), (154, b178_154), (162, b178_162), (170, b178_170), (178, b178_178), (183, b178_183)]
-- 179: PennyALapModel.changes
def b179_0 : List kIt := [(0, .inl (.aload_n 0, 0, 0, 0)), (1, .inl (.iload_n 1, 0, 0, 0)), (2, .inl (.iload_n 2, 0, 0, 0)), (3, .inr (.invokevirtual 172, 4, 177, 3, [])), (6, .inr (.nop, 1, 6, 0, []))]
def b179_6 : List kIt := [(6, .inl (.istore 4, 0, 0, 0)), (8, .inl (.iload 4, 0, 0, 0)), (10, .inl (.iload_n 3, 0, 0, 0)), (11, .inr (.if_icmp .ne 6, 0, 17, 0, [])), (14, .inl (.iload 4, 0, 0, 0)), (16, .inr (.ireturn, 3, 0, 0, []))]
def b179_17 : List kIt := [(17, .inl (.aload_n 0, 0, 0, 0)), (18, .inl (.iconst 0, 0, 0, 0)), (19, .inl (.putfield 176, 10, 18, 0)), (22, .inl (.aload_n 0, 0, 0, 0)), (23, .inl (.getfield 179, 10, 17, 0)), (26, .inl (.bipush 40, 0, 0, 0)), (28, .inr (.if_icmp .ne 93, 0, 121, 0, [])), (31, .inl (.iconst 1, 0, 0, 0)), (32, .inl (.istore 5, 0, 0, 0)), (34, .inr (.nop, 1, 34, 0, []))]
def b179_34 : List kIt := [(34, .inl (.iload 5, 0, 0, 0)), (36, .inl (.bipush 40, 0, 0, 0)), (38, .inr (.if_icmp .ge 73, 0, 111, 0, [])), (41, .inl (.aload_n 0, 0, 0, 0)), (42, .inl (.getfield 47, 10, 19, 0)), (45, .inl (.iload 5, 0, 0, 0)), (47, .inl (.iconst 1, 0, 0, 0)), (48, .inl (.isub, 0, 0, 0)), (49, .inl (.aload_n 0, 0, 0, 0)), (50, .inl (.getfield 47, 10, 19, 0)), (53, .inl (.iload 5, 0, 0, 0)), (55, .inl (.iaload, 0, 0, 0)), (56, .inl (.iastore, 0, 0, 0)), (57, .inl (.aload_n 0, 0, 0, 0)), (58, .inl (.getfield 50, 10, 20, 0)), (61, .inl (.iload 5, 0, 0, 0)), (63, .inl (.iconst 1, 0, 0, 0)), (64, .inl (.isub, 0, 0, 0)), (65, .inl (.aload_n 0, 0, 0, 0)), (66, .inl (.getfield 50, 10, 20, 0)), (69, .inl (.iload 5, 0, 0, 0)), (71, .inl (.iaload, 0, 0, 0)), (72, .inl (.iastore, 0, 0, 0)), (73, .inl (.aload_n 0, 0, 0, 0)), (74, .inl (.getfield 53, 10, 21, 0)), (77, .inl (.iload 5, 0, 0, 0)), (79, .inl (.iconst 1, 0, 0, 0)), (80, .inl (.isub, 0, 0, 0)), (81, .inl (.aload_n 0, 0, 0, 0)), (82, .inl (.getfield 53, 10, 21, 0)), (85, .inl (.iload 5, 0, 0, 0)), (87, .inl (.iaload, 0, 0, 0)), (88, .inl (.iastore, 0, 0, 0)), (89, .inl (.aload_n 0, 0, 0, 0)), (90, .inl (.getfield 56, 10, 22, 0)), (93, .inl (.iload 5, 0, 0, 0)), (95, .inl (.iconst 1, 0, 0, 0)), (96, .inl (.isub, 0, 0, 0)), (97, .inl (.aload_n 0, 0, 0, 0)), (98, .inl (.getfield 56, 10, 22, 0)), (101, .inl (.iload 5, 0, 0, 0)), (103, .inl (.iaload, 0, 0, 0)), (104, .inl (.iastore, 0, 0, 0)), (105, .inl (.iinc 5 1, 0, 0, 0)), (108, .inr (.goto (-74), 1, 34, 0, []))]
def b179_111 : List kIt := [(111, .inl (.aload_n 0, 0, 0, 0)), (112, .inl (.dup, 0, 0, 0)), (113, .inl (.getfield 179, 10, 17, 0)), (116, .inl (.iconst 1, 0, 0, 0)), (117, .inl (.isub, 0, 0, 0)), (118, .inl (.putfield 179, 10, 17, 0)), (121, .inr (.nop, 1, 121, 0, []))]
def b179_121 : List kIt := [(121, .inl (.aload_n 0, 0, 0, 0)), (122, .inl (.getfield 47, 10, 19, 0)), (125, .inl (.aload_n 0, 0, 0, 0)), (126, .inl (.getfield 179, 10, 17, 0)), (129, .inl (.iload_n 1, 0, 0, 0)), (130, .inl (.iastore, 0, 0, 0)), (131, .inl (.aload_n 0, 0, 0, 0)), (132, .inl (.getfield 50, 10, 20, 0)), (135, .inl (.aload_n 0, 0, 0, 0)), (136, .inl (.getfield 179, 10, 17, 0)), (139, .inl (.iload_n 2, 0, 0, 0)), (140, .inl (.iastore, 0, 0, 0)), (141, .inl (.aload_n 0, 0, 0, 0)), (142, .inl (.getfield 53, 10, 21, 0)), (145, .inl (.aload_n 0, 0, 0, 0)), (146, .inl (.getfield 179, 10, 17, 0)), (149, .inl (.iload 4, 0, 0, 0)), (151, .inl (.iastore, 0, 0, 0)), (152, .inl (.aload_n 0, 0, 0, 0)), (153, .inl (.getfield 56, 10, 22, 0)), (156, .inl (.aload_n 0, 0, 0, 0)), (157, .inl (.getfield 179, 10, 17, 0)), (160, .inl (.iload_n 3, 0, 0, 0)), (161, .inl (.iastore, 0, 0, 0)), (162, .inl (.aload_n 0, 0, 0, 0)), (163, .inl (.dup, 0, 0, 0)), (164, .inl (.getfield 179, 10, 17, 0)), (167, .inl (.iconst 1, 0, 0, 0)), (168, .inl (.iadd, 0, 0, 0)), (169, .inl (.putfield 179, 10, 17, 0)), (172, .inl (.aload_n 0, 0, 0, 0)), (173, .inl (.iload_n 1, 0, 0, 0)), (174, .inl (.iload_n 2, 0, 0, 0)), (175, .inl (.iload_n 3, 0, 0, 0)), (176, .inr (.invokevirtual 182, 4, 178, 4, [])), (179, .inr (.nop, 1, 179, 0, []))]
def b179_179 : List kIt := [(179, .inl (.iload 4, 0, 0, 0)), (181, .inr (.ireturn, 3, 0, 0, []))]
def c179 : List (Nat × List kIt) := [(0, b179_0), (6, b179_6), (17, b179_17), (34, b179_34), (111, b179_111), (121, b179_121), (179, b179_179)]
-- 180: PennyALapModel.undo
def b180_0 : List kIt := [(0, .inl (.aload_n 0, 0, 0, 0)), (1, .inl (.getfield 179, 10, 17, 0)), (4, .inr (.ifCond .ne 6, 0, 10, 0, [])), (7, .inl (.bipush (-5), 0, 0, 0)), (9, .inr (.ireturn, 3, 0, 0, []))]
def b180_10 : List kIt := [(10, .inl (.aload_n 0, 0, 0, 0)), (11, .inl (.dup, 0, 0, 0)), (12, .inl (.getfield 179, 10, 17, 0)), (15, .inl (.iconst 1, 0, 0, 0)), (16, .inl (.isub, 0, 0, 0)), (17, .inl (.putfield 179, 10, 17, 0)), (20, .inl (.aload_n 0, 0, 0, 0)), (21, .inl (.dup, 0, 0, 0)), (22, .inl (.getfield 176, 10, 18, 0)), (25, .inl (.iconst 1, 0, 0, 0)), (26, .inl (.iadd, 0, 0, 0)), (27, .inl (.putfield 176, 10, 18, 0)), (30, .inl (.aload_n 0, 0, 0, 0)), (31, .inl (.aload_n 0, 0, 0, 0)), (32, .inl (.getfield 47, 10, 19, 0)), (35, .inl (.aload_n 0, 0, 0, 0)), (36, .inl (.getfield 179, 10, 17, 0)), (39, .inl (.iaload, 0, 0, 0)), (40, .inl (.aload_n 0, 0, 0, 0)), (41, .inl (.getfield 50, 10, 20, 0)), (44, .inl (.aload_n 0, 0, 0, 0)), (45, .inl (.getfield 179, 10, 17, 0)), (48, .inl (.iaload, 0, 0, 0)), (49, .inl (.aload_n 0, 0, 0, 0)), (50, .inl (.getfield 53, 10, 21, 0)), (53, .inl (.aload_n 0, 0, 0, 0)), (54, .inl (.getfield 179, 10, 17, 0)), (57, .inl (.iaload, 0, 0, 0)), (58, .inr (.invokevirtual 182, 4, 178, 4, [])), (61, .inr (.nop, 1, 61, 0, []))]
def b180_61 : List kIt := [(61, .inl (.aload_n 0, 0, 0, 0)), (62, .inl (.getfield 179, 10, 17, 0)), (65, .inr (.ireturn, 3, 0, 0, []))]
def c180 : List (Nat × List kIt) := [(0, b180_0), (10, b180_10), (61, b180_61)]
-- 181: PennyALapModel.redo
def b181_0 : List kIt := [(0, .inl (.aload_n 0, 0, 0, 0)), (1, .inl (.getfield 176, 10, 18, 0)), (4, .inr (.ifCond .ne 6, 0, 10, 0, [])), (7, .inl (.bipush (-5), 0, 0, 0)), (9, .inr (.ireturn, 3, 0, 0, []))]
def b181_10 : List kIt := [(10, .inl (.aload_n 0, 0, 0, 0)), (11, .inl (.aload_n 0, 0, 0, 0)), (12, .inl (.getfield 47, 10, 19, 0)), (15, .inl (.aload_n 0, 0, 0, 0)), (16, .inl (.getfield 179, 10, 17, 0)), (19, .inl (.iaload, 0, 0, 0)), (20, .inl (.aload_n 0, 0, 0, 0)), (21, .inl (.getfield 50, 10, 20, 0)), (24, .inl (.aload_n 0, 0, 0, 0)), (25, .inl (.getfield 179, 10, 17, 0)), (28, .inl (.iaload, 0, 0, 0)), (29, .inl (.aload_n 0, 0, 0, 0)), (30, .inl (.getfield 56, 10, 22, 0)), (33, .inl (.aload_n 0, 0, 0, 0)), (34, .inl (.getfield 179, 10, 17, 0)), (37, .inl (.iaload, 0, 0, 0)), (38, .inr (.invokevirtual 182, 4, 178, 4, [])), (41, .inr (.nop, 1, 41, 0, []))]
def b181_41 : List kIt := [(41, .inl (.aload_n 0, 0, 0, 0)), (42, .inl (.dup, 0, 0, 0)), (43, .inl (.getfield 179, 10, 17, 0)), (46, .inl (.iconst 1, 0, 0, 0)), (47, .inl (.iadd, 0, 0, 0)), (48, .inl (.putfield 179, 10, 17, 0)), (51, .inl (.aload_n 0, 0, 0, 0)), (52, .inl (.dup, 0, 0, 0)), (53, .inl (.getfield 176, 10, 18, 0)), (56, .inl (.iconst 1, 0, 0, 0)), (57, .inl (.isub, 0, 0, 0)), (58, .inl (.putfield 176, 10, 18, 0)), (61, .inl (.aload_n 0, 0, 0, 0)), (62, .inl (.getfield 176, 10, 18, 0)), (65, .inr (.ireturn, 3, 0, 0, []))]
def c181 : List (Nat × List kIt) := [(0, b181_0), (10, b181_10), (41, b181_41)]
-- 182: PennyALapModel.isOne
def b182_0 : List kIt := [(0, .inl (.iload_n 2, 0, 0, 0)), (1, .inl (.iconst 0, 0, 0, 0)), (2, .inl (.iconst 3, 0, 0, 0)), (3, .inr (.invokestatic 146, 4, 170, 3, [])), (6, .inr (.nop, 1, 6, 0, []))]
def b182_6 : List kIt := [(6, .inr (.ifCond .eq 11, 0, 17, 0, [])), (9, .inl (.aload_n 0, 0, 0, 0)), (10, .inl (.iload_n 1, 0, 0, 0)), (11, .inr (.invokevirtual 153, 4, 171, 2, [])), (14, .inr (.nop, 1, 14, 0, []))]
def b182_14 : List kIt := [(14, .inr (.goto 41, 1, 55, 0, []))]
def b182_17 : List kIt := [(17, .inl (.iload_n 2, 0, 0, 0)), (18, .inl (.iconst 4, 0, 0, 0)), (19, .inl (.bipush 8, 0, 0, 0)), (21, .inr (.invokestatic 146, 4, 170, 3, [])), (24, .inr (.nop, 1, 24, 0, []))]
def b182_24 : List kIt := [(24, .inr (.ifCond .eq 11, 0, 35, 0, [])), (27, .inl (.aload_n 0, 0, 0, 0)), (28, .inl (.iload_n 1, 0, 0, 0)), (29, .inr (.invokevirtual 186, 4, 172, 2, [])), (32, .inr (.nop, 1, 32, 0, []))]
def b182_32 : List kIt := [(32, .inr (.goto 23, 1, 55, 0, []))]
def b182_35 : List kIt := [(35, .inl (.iload_n 2, 0, 0, 0)), (36, .inl (.bipush 9, 0, 0, 0)), (38, .inl (.bipush 12, 0, 0, 0)), (40, .inr (.invokestatic 146, 4, 170, 3, [])), (43, .inr (.nop, 1, 43, 0, []))]
def b182_43 : List kIt := [(43, .inr (.ifCond .eq 11, 0, 54, 0, [])), (46, .inl (.iload_n 1, 0, 0, 0)), (47, .inr (.ifCond .ne 7, 0, 54, 0, [])), (50, .inl (.iconst 1, 0, 0, 0)), (51, .inr (.goto 4, 1, 55, 0, []))]
def b182_54 : List kIt := [(54, .inl (.iconst 0, 0, 0, 0)), (55, .inr (.nop, 1, 55, 0, []))]
def b182_55 : List kIt := [(55, .inr (.ireturn, 3, 1, 0, []))]
def c182 : List (Nat × List kIt) := [(0, b182_0), (6, b182_6), (14, b182_14), (17, b182_17), (24, b182_24), (32, b182_32), (35, b182_35), (43, b182_43), (54, b182_54), (55, b182_55)]
-- 183: PennyALapModel.mayBe
def b183_0 : List kIt := [(0, .inl (.iload_n 0, 0, 0, 0)), (1, .inr (.nop, 2, 158, 0, [(0, 68), (1, 76), (2, 84), (3, 92), (4, 100), (5, 109), (6, 118), (7, 158), (8, 158), (9, 126), (10, 134), (11, 142), (12, 149)]))]
def b183_68 : List kIt := [(68, .inl (.iload_n 1, 0, 0, 0)), (69, .inl (.iconst 1, 0, 0, 0)), (70, .inl (.bipush 30, 0, 0, 0)), (72, .inr (.invokestatic 146, 4, 170, 3, [])), (75, .inr (.nop, 1, 75, 0, []))]
def b183_75 : List kIt := [(75, .inr (.ireturn, 3, 1, 0, []))]
def b183_76 : List kIt := [(76, .inl (.iload_n 1, 0, 0, 0)), (77, .inl (.iconst 0, 0, 0, 0)), (78, .inl (.bipush 9, 0, 0, 0)), (80, .inr (.invokestatic 146, 4, 170, 3, [])), (83, .inr (.nop, 1, 83, 0, []))]
def b183_83 : List kIt := [(83, .inr (.ireturn, 3, 1, 0, []))]
def b183_84 : List kIt := [(84, .inl (.iload_n 1, 0, 0, 0)), (85, .inl (.iconst 0, 0, 0, 0)), (86, .inl (.bipush 99, 0, 0, 0)), (88, .inr (.invokestatic 146, 4, 170, 3, [])), (91, .inr (.nop, 1, 91, 0, []))]
def b183_91 : List kIt := [(91, .inr (.ireturn, 3, 1, 0, []))]
def b183_92 : List kIt := [(92, .inl (.iload_n 1, 0, 0, 0)), (93, .inl (.iconst 0, 0, 0, 0)), (94, .inl (.bipush 12, 0, 0, 0)), (96, .inr (.invokestatic 146, 4, 170, 3, [])), (99, .inr (.nop, 1, 99, 0, []))]
def b183_99 : List kIt := [(99, .inr (.ireturn, 3, 1, 0, []))]
def b183_100 : List kIt := [(100, .inl (.iload_n 1, 0, 0, 0)), (101, .inl (.iconst 0, 0, 0, 0)), (102, .inl (.sipush 200, 0, 0, 0)), (105, .inr (.invokestatic 146, 4, 170, 3, [])), (108, .inr (.nop, 1, 108, 0, []))]
def b183_108 : List kIt := [(108, .inr (.ireturn, 3, 1, 0, []))]
def b183_109 : List kIt := [(109, .inl (.iload_n 1, 0, 0, 0)), (110, .inl (.iconst 0, 0, 0, 0)), (111, .inl (.sipush 999, 0, 0, 0)), (114, .inr (.invokestatic 146, 4, 170, 3, [])), (117, .inr (.nop, 1, 117, 0, []))]
def b183_117 : List kIt := [(117, .inr (.ireturn, 3, 1, 0, []))]
def b183_118 : List kIt := [(118, .inl (.iload_n 1, 0, 0, 0)), (119, .inl (.iconst 0, 0, 0, 0)), (120, .inl (.bipush 99, 0, 0, 0)), (122, .inr (.invokestatic 146, 4, 170, 3, [])), (125, .inr (.nop, 1, 125, 0, []))]
def b183_125 : List kIt := [(125, .inr (.ireturn, 3, 1, 0, []))]
def b183_126 : List kIt := [(126, .inl (.iload_n 1, 0, 0, 0)), (127, .inl (.iconst 0, 0, 0, 0)), (128, .inl (.bipush 9, 0, 0, 0)), (130, .inr (.invokestatic 146, 4, 170, 3, [])), (133, .inr (.nop, 1, 133, 0, []))]
def b183_133 : List kIt := [(133, .inr (.ireturn, 3, 1, 0, []))]
def b183_134 : List kIt := [(134, .inl (.iload_n 1, 0, 0, 0)), (135, .inl (.iconst 0, 0, 0, 0)), (136, .inl (.bipush 12, 0, 0, 0)), (138, .inr (.invokestatic 146, 4, 170, 3, [])), (141, .inr (.nop, 1, 141, 0, []))]
def b183_141 : List kIt := [(141, .inr (.ireturn, 3, 1, 0, []))]
def b183_142 : List kIt := [(142, .inl (.iload_n 1, 0, 0, 0)), (143, .inl (.iconst 1, 0, 0, 0)), (144, .inl (.iconst 4, 0, 0, 0)), (145, .inr (.invokestatic 146, 4, 170, 3, [])), (148, .inr (.nop, 1, 148, 0, []))]
def b183_148 : List kIt := [(148, .inr (.ireturn, 3, 1, 0, []))]
def b183_149 : List kIt := [(149, .inl (.iload_n 1, 0, 0, 0)), (150, .inl (.iconst 0, 0, 0, 0)), (151, .inl (.sipush 999, 0, 0, 0)), (154, .inr (.invokestatic 146, 4, 170, 3, [])), (157, .inr (.nop, 1, 157, 0, []))]
def b183_157 : List kIt := [(157, .inr (.ireturn, 3, 1, 0, []))]
def b183_158 : List kIt := [(158, .inl (.iload_n 1, 0, 0, 0)), (159, .inl (.iconst 0, 0, 0, 0)), (160, .inl (.sipush 9999, 0, 0, 0)), (163, .inr (.invokestatic 146, 4, 170, 3, [])), (166, .inr (.nop, 1, 166, 0, []))]
def b183_166 : List kIt := [(166, .inr (.ireturn, 3, 1, 0, []))]
def c183 : List (Nat × List kIt) := [(0, b183_0), (68, b183_68), (75, b183_75), (76, b183_76), (83, b183_83), (84, b183_84), (91, b183_91), (92, b183_92), (99, b183_99), (100, b183_100), (108, b183_108), (109, b183_109), (117, b183_117), (118, b183_118), (125, b183_125), (126, b183_126), (133, b183_133), (134, b183_134), (141, b183_141), (142, b183_142), (148, b183_148), (149, b183_149), (157, b183_157), (158, b183_158), (166, b183_166)]
-- 184: PennyALapModel.mend
def b184_0 : List kIt := [(0, .inl (.aload_n 0, 0, 0, 0)), (1, .inl (.iload_n 1, 0, 0, 0)), (2, .inl (.iload_n 2, 0, 0, 0)), (3, .inr (.invokevirtual 189, 4, 182, 3, [])), (6, .inr (.nop, 1, 6, 0, []))]
def b184_6 : List kIt := [(6, .inr (.ifCond .eq 21, 0, 27, 0, [])), (9, .inl (.iload_n 2, 0, 0, 0)), (10, .inl (.iload_n 3, 0, 0, 0)), (11, .inr (.invokestatic 193, 4, 183, 2, [])), (14, .inr (.nop, 1, 14, 0, []))]
def b184_14 : List kIt := [(14, .inr (.ifCond .eq 13, 0, 27, 0, [])), (17, .inl (.aload_n 0, 0, 0, 0)), (18, .inl (.iload_n 2, 0, 0, 0)), (19, .inl (.iload_n 1, 0, 0, 0)), (20, .inl (.iload_n 3, 0, 0, 0)), (21, .inr (.invokevirtual 196, 4, 179, 4, [])), (24, .inr (.nop, 1, 24, 0, []))]
def b184_24 : List kIt := [(24, .inr (.goto 4, 1, 28, 0, []))]
def b184_27 : List kIt := [(27, .inl (.iconst (-1), 0, 0, 0)), (28, .inr (.nop, 1, 28, 0, []))]
def b184_28 : List kIt := [(28, .inr (.ireturn, 3, 0, 0, []))]
def c184 : List (Nat × List kIt) := [(0, b184_0), (6, b184_6), (14, b184_14), (24, b184_24), (27, b184_27), (28, b184_28)]
-- 185: PennyALapModel.of
def b185_0 : List kIt := [(0, .inl (.iload_n 2, 0, 0, 0)), (1, .inl (.iconst 0, 0, 0, 0)), (2, .inl (.bipush 12, 0, 0, 0)), (4, .inr (.invokestatic 146, 4, 170, 3, [])), (7, .inr (.nop, 1, 7, 0, []))]
def b185_7 : List kIt := [(7, .inr (.ifCond .eq 23, 0, 30, 0, [])), (10, .inl (.aload_n 0, 0, 0, 0)), (11, .inl (.iload_n 1, 0, 0, 0)), (12, .inl (.iload_n 2, 0, 0, 0)), (13, .inr (.invokevirtual 189, 4, 182, 3, [])), (16, .inr (.nop, 1, 16, 0, []))]
def b185_16 : List kIt := [(16, .inr (.ifCond .eq 12, 0, 28, 0, [])), (19, .inl (.aload_n 0, 0, 0, 0)), (20, .inl (.iload_n 2, 0, 0, 0)), (21, .inl (.iload_n 1, 0, 0, 0)), (22, .inr (.invokevirtual 172, 4, 177, 3, [])), (25, .inr (.nop, 1, 25, 0, []))]
def b185_25 : List kIt := [(25, .inr (.goto 4, 1, 29, 0, []))]
def b185_28 : List kIt := [(28, .inl (.iconst (-1), 0, 0, 0)), (29, .inr (.nop, 1, 29, 0, []))]
def b185_29 : List kIt := [(29, .inr (.ireturn, 3, 0, 0, []))]
def b185_30 : List kIt := [(30, .inl (.iload_n 2, 0, 0, 0)), (31, .inl (.bipush 13, 0, 0, 0)), (33, .inl (.bipush 14, 0, 0, 0)), (35, .inr (.invokestatic 146, 4, 170, 3, [])), (38, .inr (.nop, 1, 38, 0, []))]
def b185_38 : List kIt := [(38, .inr (.ifCond .eq 37, 0, 75, 0, [])), (41, .inl (.aload_n 0, 0, 0, 0)), (42, .inl (.iload_n 1, 0, 0, 0)), (43, .inr (.invokevirtual 186, 4, 172, 2, [])), (46, .inr (.nop, 1, 46, 0, []))]
def b185_46 : List kIt := [(46, .inr (.ifCond .ne 7, 0, 53, 0, [])), (49, .inl (.iconst (-1), 0, 0, 0)), (50, .inr (.goto 24, 1, 74, 0, []))]
def b185_53 : List kIt := [(53, .inl (.iload_n 2, 0, 0, 0)), (54, .inl (.bipush 13, 0, 0, 0)), (56, .inr (.if_icmp .ne 12, 0, 68, 0, [])), (59, .inl (.aload_n 0, 0, 0, 0)), (60, .inl (.getfield 22, 10, 7, 0)), (63, .inl (.iload_n 1, 0, 0, 0)), (64, .inl (.iaload, 0, 0, 0)), (65, .inr (.goto 9, 1, 74, 0, []))]
def b185_68 : List kIt := [(68, .inl (.aload_n 0, 0, 0, 0)), (69, .inl (.getfield 106, 10, 45, 0)), (72, .inl (.iload_n 1, 0, 0, 0)), (73, .inl (.iaload, 0, 0, 0)), (74, .inr (.nop, 1, 74, 0, []))]
def b185_74 : List kIt := [(74, .inr (.ireturn, 3, 0, 0, []))]
def b185_75 : List kIt := [(75, .inl (.iload_n 2, 0, 0, 0)), (76, .inl (.bipush 15, 0, 0, 0)), (78, .inl (.bipush 16, 0, 0, 0)), (80, .inr (.invokestatic 146, 4, 170, 3, [])), (83, .inr (.nop, 1, 83, 0, []))]
def b185_83 : List kIt := [(83, .inr (.ifCond .eq 37, 0, 120, 0, [])), (86, .inl (.aload_n 0, 0, 0, 0)), (87, .inl (.iload_n 1, 0, 0, 0)), (88, .inr (.invokevirtual 153, 4, 171, 2, [])), (91, .inr (.nop, 1, 91, 0, []))]
def b185_91 : List kIt := [(91, .inr (.ifCond .ne 7, 0, 98, 0, [])), (94, .inl (.iconst (-1), 0, 0, 0)), (95, .inr (.goto 24, 1, 119, 0, []))]
def b185_98 : List kIt := [(98, .inl (.iload_n 2, 0, 0, 0)), (99, .inl (.bipush 15, 0, 0, 0)), (101, .inr (.if_icmp .ne 12, 0, 113, 0, [])), (104, .inl (.aload_n 0, 0, 0, 0)), (105, .inl (.getfield 100, 10, 43, 0)), (108, .inl (.iload_n 1, 0, 0, 0)), (109, .inl (.iaload, 0, 0, 0)), (110, .inr (.goto 9, 1, 119, 0, []))]
def b185_113 : List kIt := [(113, .inl (.aload_n 0, 0, 0, 0)), (114, .inl (.getfield 103, 10, 44, 0)), (117, .inl (.iload_n 1, 0, 0, 0)), (118, .inl (.iaload, 0, 0, 0)), (119, .inr (.nop, 1, 119, 0, []))]
def b185_119 : List kIt := [(119, .inr (.ireturn, 3, 0, 0, []))]
def b185_120 : List kIt := [(120, .inl (.iconst (-1), 0, 0, 0)), (121, .inr (.ireturn, 3, 0, 0, []))]
def c185 : List (Nat × List kIt) := [(0, b185_0), (7, b185_7), (16, b185_16), (25, b185_25), (28, b185_28), (29, b185_29), (30, b185_30), (38, b185_38), (46, b185_46), (53, b185_53), (68, b185_68), (74, b185_74), (75, b185_75), (83, b185_83), (91, b185_91), (98, b185_98), (113, b185_113), (119, b185_119), (120, b185_120)]
-- 186: PennyALapModel.feed
def b186_0 : List kIt := [(0, .inl (.iload_n 1, 0, 0, 0)), (1, .inl (.iconst 0, 0, 0, 0)), (2, .inl (.sipush 255, 0, 0, 0)), (5, .inr (.invokestatic 146, 4, 170, 3, [])), (8, .inr (.nop, 1, 8, 0, []))]
def b186_8 : List kIt := [(8, .inr (.ifCond .ne 5, 0, 13, 0, [])), (11, .inl (.iconst (-1), 0, 0, 0)), (12, .inr (.ireturn, 3, 0, 0, []))]
def b186_13 : List kIt := [(13, .inl (.aload_n 0, 0, 0, 0)), (14, .inl (.getfield 199, 10, 24, 0)), (17, .inl (.bipush 120, 0, 0, 0)), (19, .inr (.if_icmp .ne 6, 0, 25, 0, [])), (22, .inl (.bipush (-3), 0, 0, 0)), (24, .inr (.ireturn, 3, 0, 0, []))]
def b186_25 : List kIt := [(25, .inl (.aload_n 0, 0, 0, 0)), (26, .inl (.getfield 59, 10, 23, 0)), (29, .inl (.aload_n 0, 0, 0, 0)), (30, .inl (.getfield 199, 10, 24, 0)), (33, .inl (.iload_n 1, 0, 0, 0)), (34, .inl (.i2b, 0, 0, 0)), (35, .inl (.bastore, 2, 0, 0)), (36, .inl (.aload_n 0, 0, 0, 0)), (37, .inl (.dup, 0, 0, 0)), (38, .inl (.getfield 199, 10, 24, 0)), (41, .inl (.iconst 1, 0, 0, 0)), (42, .inl (.iadd, 0, 0, 0)), (43, .inl (.putfield 199, 10, 24, 0)), (46, .inl (.aload_n 0, 0, 0, 0)), (47, .inl (.getfield 199, 10, 24, 0)), (50, .inr (.ireturn, 3, 0, 0, []))]
def c186 : List (Nat × List kIt) := [(0, b186_0), (8, b186_8), (13, b186_13), (25, b186_25)]
-- 187: PennyALapModel.look
def b187_0 : List kIt := [(0, .inl (.aload_n 0, 0, 0, 0)), (1, .inl (.getfield 202, 10, 25, 0)), (4, .inl (.aload_n 0, 0, 0, 0)), (5, .inl (.getfield 199, 10, 24, 0)), (8, .inr (.if_icmp .ge 15, 0, 23, 0, [])), (11, .inl (.aload_n 0, 0, 0, 0)), (12, .inl (.getfield 59, 10, 23, 0)), (15, .inl (.aload_n 0, 0, 0, 0)), (16, .inl (.getfield 202, 10, 25, 0)), (19, .inl (.baload, 2, 0, 0)), (20, .inr (.goto 4, 1, 24, 0, []))]
def b187_23 : List kIt := [(23, .inl (.iconst (-1), 0, 0, 0)), (24, .inr (.nop, 1, 24, 0, []))]
def b187_24 : List kIt := [(24, .inr (.ireturn, 3, 0, 0, []))]
def c187 : List (Nat × List kIt) := [(0, b187_0), (23, b187_23), (24, b187_24)]
-- 188: PennyALapModel.wrong
def b188_0 : List kIt := [(0, .inl (.aload_n 0, 0, 0, 0)), (1, .inl (.getfield 205, 10, 26, 0)), (4, .inr (.ifCond .ge 11, 0, 15, 0, [])), (7, .inl (.aload_n 0, 0, 0, 0)), (8, .inl (.aload_n 0, 0, 0, 0)), (9, .inl (.getfield 202, 10, 25, 0)), (12, .inl (.putfield 205, 10, 26, 0)), (15, .inr (.nop, 1, 15, 0, []))]
def b188_15 : List kIt := [(15, .inr (.return_, 3, 0, 0, []))]
def c188 : List (Nat × List kIt) := [(0, b188_0), (15, b188_15)]
-- 189: PennyALapModel.addStep
def b189_0 : List kIt := [(0, .inl (.aload_n 0, 0, 0, 0)), (1, .inl (.getfield 63, 10, 29, 0)), (4, .inl (.sipush 130, 0, 0, 0)), (7, .inl (.aload_n 0, 0, 0, 0)), (8, .inl (.getfield 208, 10, 28, 0)), (11, .inl (.iadd, 0, 0, 0)), (12, .inl (.iload_n 1, 0, 0, 0)), (13, .inl (.i2b, 0, 0, 0)), (14, .inl (.bastore, 2, 0, 0)), (15, .inl (.aload_n 0, 0, 0, 0)), (16, .inl (.getfield 66, 10, 30, 0)), (19, .inl (.sipush 130, 0, 0, 0)), (22, .inl (.aload_n 0, 0, 0, 0)), (23, .inl (.getfield 208, 10, 28, 0)), (26, .inl (.iadd, 0, 0, 0)), (27, .inl (.iload_n 2, 0, 0, 0)), (28, .inl (.iastore, 0, 0, 0)), (29, .inl (.aload_n 0, 0, 0, 0)), (30, .inl (.dup, 0, 0, 0)), (31, .inl (.getfield 208, 10, 28, 0)), (34, .inl (.iconst 1, 0, 0, 0)), (35, .inl (.iadd, 0, 0, 0)), (36, .inl (.putfield 208, 10, 28, 0)), (39, .inr (.return_, 3, 0, 0, []))]
def c189 : List (Nat × List kIt) := [(0, b189_0)]
-- 190: PennyALapModel.nameOf
def b190_0 : List kIt := [(0, .inl (.iload_n 0, 0, 0, 0)), (1, .inr (.nop, 2, 100, 0, [(99, 98), (100, 100), (101, 100), (102, 100), (103, 100), (104, 100), (105, 100), (106, 100), (107, 92), (108, 100), (109, 94), (110, 100), (111, 100), (112, 88), (113, 100), (114, 96), (115, 100), (116, 90)]))]
def b190_88 : List kIt := [(88, .inl (.iconst 0, 0, 0, 0)), (89, .inr (.ireturn, 3, 0, 0, []))]
def b190_90 : List kIt := [(90, .inl (.iconst 1, 0, 0, 0)), (91, .inr (.ireturn, 3, 0, 0, []))]
def b190_92 : List kIt := [(92, .inl (.iconst 2, 0, 0, 0)), (93, .inr (.ireturn, 3, 0, 0, []))]
def b190_94 : List kIt := [(94, .inl (.iconst 3, 0, 0, 0)), (95, .inr (.ireturn, 3, 0, 0, []))]
def b190_96 : List kIt := [(96, .inl (.iconst 4, 0, 0, 0)), (97, .inr (.ireturn, 3, 0, 0, []))]
def b190_98 : List kIt := [(98, .inl (.iconst 5, 0, 0, 0)), (99, .inr (.ireturn, 3, 0, 0, []))]
def b190_100 : List kIt := [(100, .inl (.iconst (-1), 0, 0, 0)), (101, .inr (.ireturn, 3, 0, 0, []))]
def c190 : List (Nat × List kIt) := [(0, b190_0), (88, b190_88), (90, b190_90), (92, b190_92), (94, b190_94), (96, b190_96), (98, b190_98), (100, b190_100)]
-- 191: PennyALapModel.opens
def b191_0 : List kIt := [(0, .inl (.aload_n 0, 0, 0, 0)), (1, .inl (.getfield 211, 10, 27, 0)), (4, .inl (.bipush 6, 0, 0, 0)), (6, .inr (.if_icmp .ne 9, 0, 15, 0, [])), (9, .inl (.aload_n 0, 0, 0, 0)), (10, .inr (.invokevirtual 214, 4, 188, 1, [])), (13, .inr (.nop, 1, 13, 0, []))]
def b191_13 : List kIt := [(13, .inl (.iconst 0, 0, 0, 0)), (14, .inr (.ireturn, 3, 1, 0, []))]
def b191_15 : List kIt := [(15, .inl (.aload_n 0, 0, 0, 0)), (16, .inl (.dup, 0, 0, 0)), (17, .inl (.getfield 211, 10, 27, 0)), (20, .inl (.iconst 1, 0, 0, 0)), (21, .inl (.iadd, 0, 0, 0)), (22, .inl (.putfield 211, 10, 27, 0)), (25, .inl (.aload_n 0, 0, 0, 0)), (26, .inl (.dup, 0, 0, 0)), (27, .inl (.getfield 202, 10, 25, 0)), (30, .inl (.iconst 1, 0, 0, 0)), (31, .inl (.iadd, 0, 0, 0)), (32, .inl (.putfield 202, 10, 25, 0)), (35, .inl (.iconst 1, 0, 0, 0)), (36, .inr (.ireturn, 3, 1, 0, []))]
def c191 : List (Nat × List kIt) := [(0, b191_0), (13, b191_13), (15, b191_15)]
-- 192: PennyALapModel.figure
def b192_0 : List kIt := [(0, .inl (.iconst 0, 0, 0, 0)), (1, .inl (.istore_n 1, 0, 0, 0)), (2, .inl (.iconst 0, 0, 0, 0)), (3, .inl (.istore_n 2, 0, 0, 0)), (4, .inr (.nop, 1, 4, 0, []))]
def b192_4 : List kIt := [(4, .inl (.iload_n 2, 0, 0, 0)), (5, .inl (.iconst 4, 0, 0, 0)), (6, .inr (.if_icmp .ge 46, 0, 52, 0, [])), (9, .inl (.aload_n 0, 0, 0, 0)), (10, .inr (.invokevirtual 217, 4, 187, 1, [])), (13, .inr (.nop, 1, 13, 0, []))]
def b192_13 : List kIt := [(13, .inl (.bipush 48, 0, 0, 0)), (15, .inl (.bipush 57, 0, 0, 0)), (17, .inr (.invokestatic 146, 4, 170, 3, [])), (20, .inr (.nop, 1, 20, 0, []))]
def b192_20 : List kIt := [(20, .inr (.ifCond .eq 32, 0, 52, 0, [])), (23, .inl (.bipush 10, 0, 0, 0)), (25, .inl (.iload_n 1, 0, 0, 0)), (26, .inl (.imul, 0, 0, 0)), (27, .inl (.aload_n 0, 0, 0, 0)), (28, .inr (.invokevirtual 217, 4, 187, 1, [])), (31, .inr (.nop, 1, 31, 0, []))]
def b192_31 : List kIt := [(31, .inl (.iadd, 0, 0, 0)), (32, .inl (.bipush 48, 0, 0, 0)), (34, .inl (.isub, 0, 0, 0)), (35, .inl (.istore_n 1, 0, 0, 0)), (36, .inl (.iinc 2 1, 0, 0, 0)), (39, .inl (.aload_n 0, 0, 0, 0)), (40, .inl (.dup, 0, 0, 0)), (41, .inl (.getfield 202, 10, 25, 0)), (44, .inl (.iconst 1, 0, 0, 0)), (45, .inl (.iadd, 0, 0, 0)), (46, .inl (.putfield 202, 10, 25, 0)), (49, .inr (.goto (-45), 1, 4, 0, []))]
def b192_52 : List kIt := [(52, .inl (.iload_n 2, 0, 0, 0)), (53, .inr (.ifCond .eq 17, 0, 70, 0, [])), (56, .inl (.aload_n 0, 0, 0, 0)), (57, .inr (.invokevirtual 217, 4, 187, 1, [])), (60, .inr (.nop, 1, 60, 0, []))]
def b192_60 : List kIt := [(60, .inl (.bipush 48, 0, 0, 0)), (62, .inl (.bipush 57, 0, 0, 0)), (64, .inr (.invokestatic 146, 4, 170, 3, [])), (67, .inr (.nop, 1, 67, 0, []))]
def b192_67 : List kIt := [(67, .inr (.ifCond .eq 7, 0, 74, 0, [])), (70, .inr (.nop, 1, 70, 0, []))]
def b192_70 : List kIt := [(70, .inl (.aload_n 0, 0, 0, 0)), (71, .inr (.invokevirtual 214, 4, 188, 1, [])), (74, .inr (.nop, 1, 74, 0, []))]
def b192_74 : List kIt := [(74, .inl (.aload_n 0, 0, 0, 0)), (75, .inl (.iconst 1, 0, 0, 0)), (76, .inl (.iload_n 1, 0, 0, 0)), (77, .inr (.invokevirtual 221, 4, 189, 3, [])), (80, .inr (.nop, 1, 80, 0, []))]
def b192_80 : List kIt := [(80, .inr (.return_, 3, 0, 0, []))]
def c192 : List (Nat × List kIt) := [(0, b192_0), (4, b192_4), (13, b192_13), (20, b192_20), (31, b192_31), (52, b192_52), (60, b192_60), (67, b192_67), (70, b192_70), (74, b192_74), (80, b192_80)]
-- 193: PennyALapModel.operand
def b193_0 : List kIt := [(0, .inl (.aload_n 0, 0, 0, 0)), (1, .inr (.invokevirtual 217, 4, 187, 1, [])), (4, .inr (.nop, 1, 4, 0, []))]
def b193_4 : List kIt := [(4, .inl (.istore_n 1, 0, 0, 0)), (5, .inl (.iload_n 1, 0, 0, 0)), (6, .inr (.invokestatic 225, 4, 190, 1, [])), (9, .inr (.nop, 1, 9, 0, []))]
def b193_9 : List kIt := [(9, .inr (.ifCond .lt 25, 0, 34, 0, [])), (12, .inl (.aload_n 0, 0, 0, 0)), (13, .inl (.iconst 2, 0, 0, 0)), (14, .inl (.iload_n 1, 0, 0, 0)), (15, .inr (.invokestatic 225, 4, 190, 1, [])), (18, .inr (.nop, 1, 18, 0, []))]
def b193_18 : List kIt := [(18, .inr (.invokevirtual 221, 4, 189, 3, [])), (21, .inr (.nop, 1, 21, 0, []))]
def b193_21 : List kIt := [(21, .inl (.aload_n 0, 0, 0, 0)), (22, .inl (.dup, 0, 0, 0)), (23, .inl (.getfield 202, 10, 25, 0)), (26, .inl (.iconst 1, 0, 0, 0)), (27, .inl (.iadd, 0, 0, 0)), (28, .inl (.putfield 202, 10, 25, 0)), (31, .inr (.goto 123, 1, 154, 0, []))]
def b193_34 : List kIt := [(34, .inl (.iload_n 1, 0, 0, 0)), (35, .inl (.bipush 33, 0, 0, 0)), (37, .inr (.if_icmp .eq 9, 0, 46, 0, [])), (40, .inl (.iload_n 1, 0, 0, 0)), (41, .inl (.bipush 45, 0, 0, 0)), (43, .inr (.if_icmp .ne 44, 0, 87, 0, [])), (46, .inr (.nop, 1, 46, 0, []))]
def b193_46 : List kIt := [(46, .inl (.aload_n 0, 0, 0, 0)), (47, .inr (.invokevirtual 229, 4, 191, 1, [])), (50, .inr (.nop, 1, 50, 0, []))]
def b193_50 : List kIt := [(50, .inr (.ifCond .ne 4, 0, 54, 0, [])), (53, .inr (.return_, 3, 0, 0, []))]
def b193_54 : List kIt := [(54, .inl (.aload_n 0, 0, 0, 0)), (55, .inr (.invokevirtual 233, 4, 193, 1, [])), (58, .inr (.nop, 1, 58, 0, []))]
def b193_58 : List kIt := [(58, .inl (.aload_n 0, 0, 0, 0)), (59, .inl (.dup, 0, 0, 0)), (60, .inl (.getfield 211, 10, 27, 0)), (63, .inl (.iconst 1, 0, 0, 0)), (64, .inl (.isub, 0, 0, 0)), (65, .inl (.putfield 211, 10, 27, 0)), (68, .inl (.aload_n 0, 0, 0, 0)), (69, .inl (.iload_n 1, 0, 0, 0)), (70, .inl (.bipush 33, 0, 0, 0)), (72, .inr (.if_icmp .ne 7, 0, 79, 0, [])), (75, .inl (.iconst 3, 0, 0, 0)), (76, .inr (.goto 4, 1, 80, 0, []))]
def b193_79 : List kIt := [(79, .inl (.iconst 4, 0, 0, 0)), (80, .inr (.nop, 1, 80, 0, []))]
def b193_80 : List kIt := [(80, .inl (.iconst 0, 0, 0, 0)), (81, .inr (.invokevirtual 221, 4, 189, 3, [])), (84, .inr (.nop, 1, 84, 0, []))]
def b193_84 : List kIt := [(84, .inr (.goto 70, 1, 154, 0, []))]
def b193_87 : List kIt := [(87, .inl (.iload_n 1, 0, 0, 0)), (88, .inl (.bipush 40, 0, 0, 0)), (90, .inr (.if_icmp .ne 60, 0, 150, 0, [])), (93, .inl (.aload_n 0, 0, 0, 0)), (94, .inr (.invokevirtual 229, 4, 191, 1, [])), (97, .inr (.nop, 1, 97, 0, []))]
def b193_97 : List kIt := [(97, .inr (.ifCond .ne 4, 0, 101, 0, [])), (100, .inr (.return_, 3, 0, 0, []))]
def b193_101 : List kIt := [(101, .inl (.aload_n 0, 0, 0, 0)), (102, .inr (.invokevirtual 236, 4, 198, 1, [])), (105, .inr (.nop, 1, 105, 0, []))]
def b193_105 : List kIt := [(105, .inl (.aload_n 0, 0, 0, 0)), (106, .inl (.getfield 205, 10, 26, 0)), (109, .inr (.ifCond .lt 4, 0, 113, 0, [])), (112, .inr (.return_, 3, 0, 0, []))]
def b193_113 : List kIt := [(113, .inl (.aload_n 0, 0, 0, 0)), (114, .inr (.invokevirtual 217, 4, 187, 1, [])), (117, .inr (.nop, 1, 117, 0, []))]
def b193_117 : List kIt := [(117, .inl (.bipush 41, 0, 0, 0)), (119, .inr (.if_icmp .eq 8, 0, 127, 0, [])), (122, .inl (.aload_n 0, 0, 0, 0)), (123, .inr (.invokevirtual 214, 4, 188, 1, [])), (126, .inr (.nop, 1, 126, 0, []))]
def b193_126 : List kIt := [(126, .inr (.return_, 3, 0, 0, []))]
def b193_127 : List kIt := [(127, .inl (.aload_n 0, 0, 0, 0)), (128, .inl (.dup, 0, 0, 0)), (129, .inl (.getfield 202, 10, 25, 0)), (132, .inl (.iconst 1, 0, 0, 0)), (133, .inl (.iadd, 0, 0, 0)), (134, .inl (.putfield 202, 10, 25, 0)), (137, .inl (.aload_n 0, 0, 0, 0)), (138, .inl (.dup, 0, 0, 0)), (139, .inl (.getfield 211, 10, 27, 0)), (142, .inl (.iconst 1, 0, 0, 0)), (143, .inl (.isub, 0, 0, 0)), (144, .inl (.putfield 211, 10, 27, 0)), (147, .inr (.goto 7, 1, 154, 0, []))]
def b193_150 : List kIt := [(150, .inl (.aload_n 0, 0, 0, 0)), (151, .inr (.invokevirtual 239, 4, 192, 1, [])), (154, .inr (.nop, 1, 154, 0, []))]
def b193_154 : List kIt := [(154, .inr (.return_, 3, 0, 0, []))]
def c193 : List (Nat × List kIt) := [(0, b193_0), (4, b193_4), (9, b193_9), (18, b193_18), (21, b193_21), (34, b193_34), (46, b193_46), (50, b193_50), (54, b193_54), (58, b193_58), (79, b193_79), (80, b193_80), (84, b193_84), (87, b193_87), (97, b193_97), (101, b193_101), (105, b193_105), (113, b193_113), (117, b193_117), (126, b193_126), (127, b193_127), (150, b193_150), (154, b193_154)]
-- 194: PennyALapModel.product
def b194_0 : List kIt := [(0, .inl (.aload_n 0, 0, 0, 0)), (1, .inr (.invokevirtual 233, 4, 193, 1, [])), (4, .inr (.nop, 1, 4, 0, []))]
def b194_4 : List kIt := [(4, .inl (.aload_n 0, 0, 0, 0)), (5, .inl (.getfield 205, 10, 26, 0)), (8, .inr (.ifCond .ge 58, 0, 66, 0, [])), (11, .inl (.aload_n 0, 0, 0, 0)), (12, .inr (.invokevirtual 217, 4, 187, 1, [])), (15, .inr (.nop, 1, 15, 0, []))]
def b194_15 : List kIt := [(15, .inl (.bipush 42, 0, 0, 0)), (17, .inr (.if_icmp .eq 21, 0, 38, 0, [])), (20, .inl (.aload_n 0, 0, 0, 0)), (21, .inr (.invokevirtual 217, 4, 187, 1, [])), (24, .inr (.nop, 1, 24, 0, []))]
def b194_24 : List kIt := [(24, .inl (.bipush 47, 0, 0, 0)), (26, .inr (.if_icmp .eq 12, 0, 38, 0, [])), (29, .inl (.aload_n 0, 0, 0, 0)), (30, .inr (.invokevirtual 217, 4, 187, 1, [])), (33, .inr (.nop, 1, 33, 0, []))]
def b194_33 : List kIt := [(33, .inl (.bipush 37, 0, 0, 0)), (35, .inr (.if_icmp .ne 31, 0, 66, 0, [])), (38, .inr (.nop, 1, 38, 0, []))]
def b194_38 : List kIt := [(38, .inl (.aload_n 0, 0, 0, 0)), (39, .inr (.invokevirtual 217, 4, 187, 1, [])), (42, .inr (.nop, 1, 42, 0, []))]
def b194_42 : List kIt := [(42, .inl (.istore_n 1, 0, 0, 0)), (43, .inl (.aload_n 0, 0, 0, 0)), (44, .inl (.dup, 0, 0, 0)), (45, .inl (.getfield 202, 10, 25, 0)), (48, .inl (.iconst 1, 0, 0, 0)), (49, .inl (.iadd, 0, 0, 0)), (50, .inl (.putfield 202, 10, 25, 0)), (53, .inl (.aload_n 0, 0, 0, 0)), (54, .inr (.invokevirtual 233, 4, 193, 1, [])), (57, .inr (.nop, 1, 57, 0, []))]
def b194_57 : List kIt := [(57, .inl (.aload_n 0, 0, 0, 0)), (58, .inl (.iload_n 1, 0, 0, 0)), (59, .inl (.iconst 0, 0, 0, 0)), (60, .inr (.invokevirtual 221, 4, 189, 3, [])), (63, .inr (.nop, 1, 63, 0, []))]
def b194_63 : List kIt := [(63, .inr (.goto (-59), 1, 4, 0, []))]
def b194_66 : List kIt := [(66, .inr (.return_, 3, 0, 0, []))]
def c194 : List (Nat × List kIt) := [(0, b194_0), (4, b194_4), (15, b194_15), (24, b194_24), (33, b194_33), (38, b194_38), (42, b194_42), (57, b194_57), (63, b194_63), (66, b194_66)]
-- 195: PennyALapModel.sum
def b195_0 : List kIt := [(0, .inl (.aload_n 0, 0, 0, 0)), (1, .inr (.invokevirtual 242, 4, 194, 1, [])), (4, .inr (.nop, 1, 4, 0, []))]
def b195_4 : List kIt := [(4, .inl (.aload_n 0, 0, 0, 0)), (5, .inl (.getfield 205, 10, 26, 0)), (8, .inr (.ifCond .ge 49, 0, 57, 0, [])), (11, .inl (.aload_n 0, 0, 0, 0)), (12, .inr (.invokevirtual 217, 4, 187, 1, [])), (15, .inr (.nop, 1, 15, 0, []))]
def b195_15 : List kIt := [(15, .inl (.bipush 43, 0, 0, 0)), (17, .inr (.if_icmp .eq 12, 0, 29, 0, [])), (20, .inl (.aload_n 0, 0, 0, 0)), (21, .inr (.invokevirtual 217, 4, 187, 1, [])), (24, .inr (.nop, 1, 24, 0, []))]
def b195_24 : List kIt := [(24, .inl (.bipush 45, 0, 0, 0)), (26, .inr (.if_icmp .ne 31, 0, 57, 0, [])), (29, .inr (.nop, 1, 29, 0, []))]
def b195_29 : List kIt := [(29, .inl (.aload_n 0, 0, 0, 0)), (30, .inr (.invokevirtual 217, 4, 187, 1, [])), (33, .inr (.nop, 1, 33, 0, []))]
def b195_33 : List kIt := [(33, .inl (.istore_n 1, 0, 0, 0)), (34, .inl (.aload_n 0, 0, 0, 0)), (35, .inl (.dup, 0, 0, 0)), (36, .inl (.getfield 202, 10, 25, 0)), (39, .inl (.iconst 1, 0, 0, 0)), (40, .inl (.iadd, 0, 0, 0)), (41, .inl (.putfield 202, 10, 25, 0)), (44, .inl (.aload_n 0, 0, 0, 0)), (45, .inr (.invokevirtual 242, 4, 194, 1, [])), (48, .inr (.nop, 1, 48, 0, []))]
def b195_48 : List kIt := [(48, .inl (.aload_n 0, 0, 0, 0)), (49, .inl (.iload_n 1, 0, 0, 0)), (50, .inl (.iconst 0, 0, 0, 0)), (51, .inr (.invokevirtual 221, 4, 189, 3, [])), (54, .inr (.nop, 1, 54, 0, []))]
def b195_54 : List kIt := [(54, .inr (.goto (-50), 1, 4, 0, []))]
def b195_57 : List kIt := [(57, .inr (.return_, 3, 0, 0, []))]
def c195 : List (Nat × List kIt) := [(0, b195_0), (4, b195_4), (15, b195_15), (24, b195_24), (29, b195_29), (33, b195_33), (48, b195_48), (54, b195_54), (57, b195_57)]
-- 196: PennyALapModel.compared
def b196_0 : List kIt := [(0, .inl (.aload_n 0, 0, 0, 0)), (1, .inr (.invokevirtual 245, 4, 195, 1, [])), (4, .inr (.nop, 1, 4, 0, []))]
def b196_4 : List kIt := [(4, .inl (.aload_n 0, 0, 0, 0)), (5, .inr (.invokevirtual 217, 4, 187, 1, [])), (8, .inr (.nop, 1, 8, 0, []))]
def b196_8 : List kIt := [(8, .inl (.istore_n 1, 0, 0, 0)), (9, .inl (.aload_n 0, 0, 0, 0)), (10, .inl (.getfield 205, 10, 26, 0)), (13, .inr (.ifCond .ge 21, 0, 34, 0, [])), (16, .inl (.iload_n 1, 0, 0, 0)), (17, .inl (.bipush 60, 0, 0, 0)), (19, .inr (.if_icmp .eq 16, 0, 35, 0, [])), (22, .inl (.iload_n 1, 0, 0, 0)), (23, .inl (.bipush 61, 0, 0, 0)), (25, .inr (.if_icmp .eq 10, 0, 35, 0, [])), (28, .inl (.iload_n 1, 0, 0, 0)), (29, .inl (.bipush 62, 0, 0, 0)), (31, .inr (.if_icmp .eq 4, 0, 35, 0, [])), (34, .inr (.nop, 1, 34, 0, []))]
def b196_34 : List kIt := [(34, .inr (.return_, 3, 0, 0, []))]
def b196_35 : List kIt := [(35, .inl (.aload_n 0, 0, 0, 0)), (36, .inl (.dup, 0, 0, 0)), (37, .inl (.getfield 202, 10, 25, 0)), (40, .inl (.iconst 1, 0, 0, 0)), (41, .inl (.iadd, 0, 0, 0)), (42, .inl (.putfield 202, 10, 25, 0)), (45, .inl (.aload_n 0, 0, 0, 0)), (46, .inr (.invokevirtual 245, 4, 195, 1, [])), (49, .inr (.nop, 1, 49, 0, []))]
def b196_49 : List kIt := [(49, .inl (.aload_n 0, 0, 0, 0)), (50, .inl (.iload_n 1, 0, 0, 0)), (51, .inl (.iconst 0, 0, 0, 0)), (52, .inr (.invokevirtual 221, 4, 189, 3, [])), (55, .inr (.nop, 1, 55, 0, []))]
def b196_55 : List kIt := [(55, .inr (.return_, 3, 0, 0, []))]
def c196 : List (Nat × List kIt) := [(0, b196_0), (4, b196_4), (8, b196_8), (34, b196_34), (35, b196_35), (49, b196_49), (55, b196_55)]
-- 197: PennyALapModel.both
def b197_0 : List kIt := [(0, .inl (.aload_n 0, 0, 0, 0)), (1, .inr (.invokevirtual 248, 4, 196, 1, [])), (4, .inr (.nop, 1, 4, 0, []))]
def b197_4 : List kIt := [(4, .inl (.aload_n 0, 0, 0, 0)), (5, .inl (.getfield 205, 10, 26, 0)), (8, .inr (.ifCond .ge 36, 0, 44, 0, [])), (11, .inl (.aload_n 0, 0, 0, 0)), (12, .inr (.invokevirtual 217, 4, 187, 1, [])), (15, .inr (.nop, 1, 15, 0, []))]
def b197_15 : List kIt := [(15, .inl (.bipush 38, 0, 0, 0)), (17, .inr (.if_icmp .ne 27, 0, 44, 0, [])), (20, .inl (.aload_n 0, 0, 0, 0)), (21, .inl (.dup, 0, 0, 0)), (22, .inl (.getfield 202, 10, 25, 0)), (25, .inl (.iconst 1, 0, 0, 0)), (26, .inl (.iadd, 0, 0, 0)), (27, .inl (.putfield 202, 10, 25, 0)), (30, .inl (.aload_n 0, 0, 0, 0)), (31, .inr (.invokevirtual 248, 4, 196, 1, [])), (34, .inr (.nop, 1, 34, 0, []))]
def b197_34 : List kIt := [(34, .inl (.aload_n 0, 0, 0, 0)), (35, .inl (.bipush 38, 0, 0, 0)), (37, .inl (.iconst 0, 0, 0, 0)), (38, .inr (.invokevirtual 221, 4, 189, 3, [])), (41, .inr (.nop, 1, 41, 0, []))]
def b197_41 : List kIt := [(41, .inr (.goto (-37), 1, 4, 0, []))]
def b197_44 : List kIt := [(44, .inr (.return_, 3, 0, 0, []))]
def c197 : List (Nat × List kIt) := [(0, b197_0), (4, b197_4), (15, b197_15), (34, b197_34), (41, b197_41), (44, b197_44)]
-- 198: PennyALapModel.either
def b198_0 : List kIt := [(0, .inl (.aload_n 0, 0, 0, 0)), (1, .inr (.invokevirtual 251, 4, 197, 1, [])), (4, .inr (.nop, 1, 4, 0, []))]
def b198_4 : List kIt := [(4, .inl (.aload_n 0, 0, 0, 0)), (5, .inl (.getfield 205, 10, 26, 0)), (8, .inr (.ifCond .ge 36, 0, 44, 0, [])), (11, .inl (.aload_n 0, 0, 0, 0)), (12, .inr (.invokevirtual 217, 4, 187, 1, [])), (15, .inr (.nop, 1, 15, 0, []))]
def b198_15 : List kIt := [(15, .inl (.bipush 124, 0, 0, 0)), (17, .inr (.if_icmp .ne 27, 0, 44, 0, [])), (20, .inl (.aload_n 0, 0, 0, 0)), (21, .inl (.dup, 0, 0, 0)), (22, .inl (.getfield 202, 10, 25, 0)), (25, .inl (.iconst 1, 0, 0, 0)), (26, .inl (.iadd, 0, 0, 0)), (27, .inl (.putfield 202, 10, 25, 0)), (30, .inl (.aload_n 0, 0, 0, 0)), (31, .inr (.invokevirtual 251, 4, 197, 1, [])), (34, .inr (.nop, 1, 34, 0, []))]
def b198_34 : List kIt := [(34, .inl (.aload_n 0, 0, 0, 0)), (35, .inl (.bipush 124, 0, 0, 0)), (37, .inl (.iconst 0, 0, 0, 0)), (38, .inr (.invokevirtual 221, 4, 189, 3, [])), (41, .inr (.nop, 1, 41, 0, []))]
def b198_41 : List kIt := [(41, .inr (.goto (-37), 1, 4, 0, []))]
def b198_44 : List kIt := [(44, .inr (.return_, 3, 0, 0, []))]
def c198 : List (Nat × List kIt) := [(0, b198_0), (4, b198_4), (15, b198_15), (34, b198_34), (41, b198_41), (44, b198_44)]
-- 199: PennyALapModel.line
def b199_0 : List kIt := [(0, .inl (.bipush 61, 0, 0, 0)), (2, .inl (.aload_n 0, 0, 0, 0)), (3, .inl (.getfield 69, 10, 31, 0)), (6, .inl (.iconst 1, 0, 0, 0)), (7, .inl (.iaload, 0, 0, 0)), (8, .inl (.iadd, 0, 0, 0)), (9, .inl (.istore_n 1, 0, 0, 0)), (10, .inl (.aload_n 0, 0, 0, 0)), (11, .inl (.getfield 72, 10, 32, 0)), (14, .inl (.iload_n 1, 0, 0, 0)), (15, .inl (.aload_n 0, 0, 0, 0)), (16, .inl (.getfield 208, 10, 28, 0)), (19, .inl (.i2s, 0, 0, 0)), (20, .inl (.sastore, 0, 0, 0)), (21, .inl (.aload_n 0, 0, 0, 0)), (22, .inr (.invokevirtual 236, 4, 198, 1, [])), (25, .inr (.nop, 1, 25, 0, []))]
def b199_25 : List kIt := [(25, .inl (.aload_n 0, 0, 0, 0)), (26, .inl (.getfield 205, 10, 26, 0)), (29, .inr (.ifCond .ge 37, 0, 66, 0, [])), (32, .inl (.aload_n 0, 0, 0, 0)), (33, .inr (.invokevirtual 217, 4, 187, 1, [])), (36, .inr (.nop, 1, 36, 0, []))]
def b199_36 : List kIt := [(36, .inl (.bipush 63, 0, 0, 0)), (38, .inr (.if_icmp .ne 28, 0, 66, 0, [])), (41, .inl (.aload_n 0, 0, 0, 0)), (42, .inl (.dup, 0, 0, 0)), (43, .inl (.getfield 202, 10, 25, 0)), (46, .inl (.iconst 1, 0, 0, 0)), (47, .inl (.iadd, 0, 0, 0)), (48, .inl (.putfield 202, 10, 25, 0)), (51, .inl (.aload_n 0, 0, 0, 0)), (52, .inl (.getfield 72, 10, 32, 0)), (55, .inl (.iload_n 1, 0, 0, 0)), (56, .inl (.aload_n 0, 0, 0, 0)), (57, .inl (.getfield 208, 10, 28, 0)), (60, .inl (.i2s, 0, 0, 0)), (61, .inl (.sastore, 0, 0, 0)), (62, .inl (.aload_n 0, 0, 0, 0)), (63, .inr (.invokevirtual 236, 4, 198, 1, [])), (66, .inr (.nop, 1, 66, 0, []))]
def b199_66 : List kIt := [(66, .inl (.aload_n 0, 0, 0, 0)), (67, .inl (.getfield 76, 10, 33, 0)), (70, .inl (.iload_n 1, 0, 0, 0)), (71, .inl (.aload_n 0, 0, 0, 0)), (72, .inl (.getfield 208, 10, 28, 0)), (75, .inl (.i2s, 0, 0, 0)), (76, .inl (.sastore, 0, 0, 0)), (77, .inl (.aload_n 0, 0, 0, 0)), (78, .inl (.getfield 69, 10, 31, 0)), (81, .inl (.iconst 1, 0, 0, 0)), (82, .inl (.dup2, 0, 0, 0)), (83, .inl (.iaload, 0, 0, 0)), (84, .inl (.iconst 1, 0, 0, 0)), (85, .inl (.iadd, 0, 0, 0)), (86, .inl (.iastore, 0, 0, 0)), (87, .inr (.return_, 3, 0, 0, []))]
def c199 : List (Nat × List kIt) := [(0, b199_0), (25, b199_25), (36, b199_36), (66, b199_66)]
-- 200: PennyALapModel.readText
def b200_0 : List kIt := [(0, .inl (.aload_n 0, 0, 0, 0)), (1, .inl (.iconst 0, 0, 0, 0)), (2, .inl (.putfield 202, 10, 25, 0)), (5, .inl (.aload_n 0, 0, 0, 0)), (6, .inl (.iconst (-1), 0, 0, 0)), (7, .inl (.putfield 205, 10, 26, 0)), (10, .inl (.aload_n 0, 0, 0, 0)), (11, .inl (.iconst 0, 0, 0, 0)), (12, .inl (.putfield 211, 10, 27, 0)), (15, .inl (.aload_n 0, 0, 0, 0)), (16, .inl (.iconst 0, 0, 0, 0)), (17, .inl (.putfield 208, 10, 28, 0)), (20, .inl (.aload_n 0, 0, 0, 0)), (21, .inl (.getfield 69, 10, 31, 0)), (24, .inl (.iconst 1, 0, 0, 0)), (25, .inl (.iconst 0, 0, 0, 0)), (26, .inl (.iastore, 0, 0, 0)), (27, .inl (.aload_n 0, 0, 0, 0)), (28, .inr (.invokevirtual 254, 4, 199, 1, [])), (31, .inr (.nop, 1, 31, 0, []))]
def b200_31 : List kIt := [(31, .inl (.aload_n 0, 0, 0, 0)), (32, .inl (.getfield 205, 10, 26, 0)), (35, .inr (.ifCond .ge 29, 0, 64, 0, [])), (38, .inl (.aload_n 0, 0, 0, 0)), (39, .inr (.invokevirtual 217, 4, 187, 1, [])), (42, .inr (.nop, 1, 42, 0, []))]
def b200_42 : List kIt := [(42, .inl (.bipush 59, 0, 0, 0)), (44, .inr (.if_icmp .ne 20, 0, 64, 0, [])), (47, .inl (.aload_n 0, 0, 0, 0)), (48, .inl (.dup, 0, 0, 0)), (49, .inl (.getfield 202, 10, 25, 0)), (52, .inl (.iconst 1, 0, 0, 0)), (53, .inl (.iadd, 0, 0, 0)), (54, .inl (.putfield 202, 10, 25, 0)), (57, .inl (.aload_n 0, 0, 0, 0)), (58, .inr (.invokevirtual 254, 4, 199, 1, [])), (61, .inr (.nop, 1, 61, 0, []))]
def b200_61 : List kIt := [(61, .inr (.goto (-30), 1, 31, 0, []))]
def b200_64 : List kIt := [(64, .inl (.aload_n 0, 0, 0, 0)), (65, .inl (.getfield 205, 10, 26, 0)), (68, .inr (.ifCond .ge 18, 0, 86, 0, [])), (71, .inl (.aload_n 0, 0, 0, 0)), (72, .inl (.getfield 202, 10, 25, 0)), (75, .inl (.aload_n 0, 0, 0, 0)), (76, .inl (.getfield 199, 10, 24, 0)), (79, .inr (.if_icmp .ge 7, 0, 86, 0, [])), (82, .inl (.aload_n 0, 0, 0, 0)), (83, .inr (.invokevirtual 214, 4, 188, 1, [])), (86, .inr (.nop, 1, 86, 0, []))]
def b200_86 : List kIt := [(86, .inl (.aload_n 0, 0, 0, 0)), (87, .inl (.iconst 0, 0, 0, 0)), (88, .inl (.putfield 199, 10, 24, 0)), (91, .inl (.aload_n 0, 0, 0, 0)), (92, .inl (.getfield 205, 10, 26, 0)), (95, .inr (.ifCond .lt 8, 0, 103, 0, [])), (98, .inl (.aload_n 0, 0, 0, 0)), (99, .inl (.getfield 205, 10, 26, 0)), (102, .inr (.ireturn, 3, 0, 0, []))]
def b200_103 : List kIt := [(103, .inl (.iconst 0, 0, 0, 0)), (104, .inl (.istore_n 2, 0, 0, 0)), (105, .inr (.nop, 1, 105, 0, []))]
def b200_105 : List kIt := [(105, .inl (.iload_n 2, 0, 0, 0)), (106, .inl (.aload_n 0, 0, 0, 0)), (107, .inl (.getfield 208, 10, 28, 0)), (110, .inr (.if_icmp .ge 53, 0, 163, 0, [])), (113, .inl (.aload_n 0, 0, 0, 0)), (114, .inl (.getfield 63, 10, 29, 0)), (117, .inl (.sipush 130, 0, 0, 0)), (120, .inl (.iload_n 1, 0, 0, 0)), (121, .inl (.imul, 0, 0, 0)), (122, .inl (.iload_n 2, 0, 0, 0)), (123, .inl (.iadd, 0, 0, 0)), (124, .inl (.aload_n 0, 0, 0, 0)), (125, .inl (.getfield 63, 10, 29, 0)), (128, .inl (.sipush 130, 0, 0, 0)), (131, .inl (.iload_n 2, 0, 0, 0)), (132, .inl (.iadd, 0, 0, 0)), (133, .inl (.baload, 2, 0, 0)), (134, .inl (.bastore, 2, 0, 0)), (135, .inl (.aload_n 0, 0, 0, 0)), (136, .inl (.getfield 66, 10, 30, 0)), (139, .inl (.sipush 130, 0, 0, 0)), (142, .inl (.iload_n 1, 0, 0, 0)), (143, .inl (.imul, 0, 0, 0)), (144, .inl (.iload_n 2, 0, 0, 0)), (145, .inl (.iadd, 0, 0, 0)), (146, .inl (.aload_n 0, 0, 0, 0)), (147, .inl (.getfield 66, 10, 30, 0)), (150, .inl (.sipush 130, 0, 0, 0)), (153, .inl (.iload_n 2, 0, 0, 0)), (154, .inl (.iadd, 0, 0, 0)), (155, .inl (.iaload, 0, 0, 0)), (156, .inl (.iastore, 0, 0, 0)), (157, .inl (.iinc 2 1, 0, 0, 0)), (160, .inr (.goto (-55), 1, 105, 0, []))]
def b200_163 : List kIt := [(163, .inl (.aload_n 0, 0, 0, 0)), (164, .inl (.getfield 69, 10, 31, 0)), (167, .inl (.iload_n 1, 0, 0, 0)), (168, .inl (.aload_n 0, 0, 0, 0)), (169, .inl (.getfield 69, 10, 31, 0)), (172, .inl (.iconst 1, 0, 0, 0)), (173, .inl (.iaload, 0, 0, 0)), (174, .inl (.iastore, 0, 0, 0)), (175, .inl (.iconst 0, 0, 0, 0)), (176, .inl (.istore_n 2, 0, 0, 0)), (177, .inr (.nop, 1, 177, 0, []))]
def b200_177 : List kIt := [(177, .inl (.iload_n 2, 0, 0, 0)), (178, .inl (.aload_n 0, 0, 0, 0)), (179, .inl (.getfield 69, 10, 31, 0)), (182, .inl (.iload_n 1, 0, 0, 0)), (183, .inl (.iaload, 0, 0, 0)), (184, .inr (.if_icmp .ge 49, 0, 233, 0, [])), (187, .inl (.aload_n 0, 0, 0, 0)), (188, .inl (.getfield 72, 10, 32, 0)), (191, .inl (.bipush 61, 0, 0, 0)), (193, .inl (.iload_n 1, 0, 0, 0)), (194, .inl (.imul, 0, 0, 0)), (195, .inl (.iload_n 2, 0, 0, 0)), (196, .inl (.iadd, 0, 0, 0)), (197, .inl (.aload_n 0, 0, 0, 0)), (198, .inl (.getfield 72, 10, 32, 0)), (201, .inl (.bipush 61, 0, 0, 0)), (203, .inl (.iload_n 2, 0, 0, 0)), (204, .inl (.iadd, 0, 0, 0)), (205, .inl (.saload, 0, 0, 0)), (206, .inl (.sastore, 0, 0, 0)), (207, .inl (.aload_n 0, 0, 0, 0)), (208, .inl (.getfield 76, 10, 33, 0)), (211, .inl (.bipush 61, 0, 0, 0)), (213, .inl (.iload_n 1, 0, 0, 0)), (214, .inl (.imul, 0, 0, 0)), (215, .inl (.iload_n 2, 0, 0, 0)), (216, .inl (.iadd, 0, 0, 0)), (217, .inl (.aload_n 0, 0, 0, 0)), (218, .inl (.getfield 76, 10, 33, 0)), (221, .inl (.bipush 61, 0, 0, 0)), (223, .inl (.iload_n 2, 0, 0, 0)), (224, .inl (.iadd, 0, 0, 0)), (225, .inl (.saload, 0, 0, 0)), (226, .inl (.sastore, 0, 0, 0)), (227, .inl (.iinc 2 1, 0, 0, 0)), (230, .inr (.goto (-53), 1, 177, 0, []))]
def b200_233 : List kIt := [(233, .inl (.iconst (-1), 0, 0, 0)), (234, .inr (.ireturn, 3, 0, 0, []))]
def c200 : List (Nat × List kIt) := [(0, b200_0), (31, b200_31), (42, b200_42), (61, b200_61), (64, b200_64), (86, b200_86), (103, b200_103), (105, b200_105), (163, b200_163), (177, b200_177), (233, b200_233)]
-- 201: PennyALapModel.twoOf
def b201_0 : List kIt := [(0, .inl (.iload_n 0, 0, 0, 0)), (1, .inr (.nop, 2, 218, 0, [(37, 154), (38, 204), (39, 218), (40, 218), (41, 218), (42, 128), (43, 120), (44, 218), (45, 124), (46, 218), (47, 132), (48, 218), (49, 218), (50, 218), (51, 218), (52, 218), (53, 218), (54, 218), (55, 218), (56, 218), (57, 218), (58, 218), (59, 218), (60, 171), (61, 182), (62, 193)]))]
def b201_120 : List kIt := [(120, .inl (.iload_n 1, 0, 0, 0)), (121, .inl (.iload_n 2, 0, 0, 0)), (122, .inl (.iadd, 0, 0, 0)), (123, .inr (.ireturn, 3, 0, 0, []))]
def b201_124 : List kIt := [(124, .inl (.iload_n 1, 0, 0, 0)), (125, .inl (.iload_n 2, 0, 0, 0)), (126, .inl (.isub, 0, 0, 0)), (127, .inr (.ireturn, 3, 0, 0, []))]
def b201_128 : List kIt := [(128, .inl (.iload_n 1, 0, 0, 0)), (129, .inl (.iload_n 2, 0, 0, 0)), (130, .inl (.imul, 0, 0, 0)), (131, .inr (.ireturn, 3, 0, 0, []))]
def b201_132 : List kIt := [(132, .inl (.iload_n 2, 0, 0, 0)), (133, .inr (.ifCond .ne 7, 0, 140, 0, [])), (136, .inl (.iconst 0, 0, 0, 0)), (137, .inr (.goto 16, 1, 153, 0, []))]
def b201_140 : List kIt := [(140, .inl (.iload_n 2, 0, 0, 0)), (141, .inl (.iconst (-1), 0, 0, 0)), (142, .inr (.if_icmp .ne 8, 0, 150, 0, [])), (145, .inl (.iload_n 1, 0, 0, 0)), (146, .inl (.ineg, 0, 0, 0)), (147, .inr (.goto 6, 1, 153, 0, []))]
def b201_150 : List kIt := [(150, .inl (.iload_n 1, 0, 0, 0)), (151, .inl (.iload_n 2, 0, 0, 0)), (152, .inl (.idiv, 0, 0, 0)), (153, .inr (.nop, 1, 153, 0, []))]
def b201_153 : List kIt := [(153, .inr (.ireturn, 3, 0, 0, []))]
def b201_154 : List kIt := [(154, .inl (.iload_n 2, 0, 0, 0)), (155, .inr (.ifCond .eq 8, 0, 163, 0, [])), (158, .inl (.iload_n 2, 0, 0, 0)), (159, .inl (.iconst (-1), 0, 0, 0)), (160, .inr (.if_icmp .ne 7, 0, 167, 0, [])), (163, .inr (.nop, 1, 163, 0, []))]
def b201_163 : List kIt := [(163, .inl (.iconst 0, 0, 0, 0)), (164, .inr (.goto 6, 1, 170, 0, []))]
def b201_167 : List kIt := [(167, .inl (.iload_n 1, 0, 0, 0)), (168, .inl (.iload_n 2, 0, 0, 0)), (169, .inl (.irem, 0, 0, 0)), (170, .inr (.nop, 1, 170, 0, []))]
def b201_170 : List kIt := [(170, .inr (.ireturn, 3, 0, 0, []))]
def b201_171 : List kIt := [(171, .inl (.iload_n 1, 0, 0, 0)), (172, .inl (.iload_n 2, 0, 0, 0)), (173, .inr (.if_icmp .ge 7, 0, 180, 0, [])), (176, .inl (.iconst 1, 0, 0, 0)), (177, .inr (.goto 4, 1, 181, 0, []))]
def b201_180 : List kIt := [(180, .inl (.iconst 0, 0, 0, 0)), (181, .inr (.nop, 1, 181, 0, []))]
def b201_181 : List kIt := [(181, .inr (.ireturn, 3, 0, 0, []))]
def b201_182 : List kIt := [(182, .inl (.iload_n 1, 0, 0, 0)), (183, .inl (.iload_n 2, 0, 0, 0)), (184, .inr (.if_icmp .ne 7, 0, 191, 0, [])), (187, .inl (.iconst 1, 0, 0, 0)), (188, .inr (.goto 4, 1, 192, 0, []))]
def b201_191 : List kIt := [(191, .inl (.iconst 0, 0, 0, 0)), (192, .inr (.nop, 1, 192, 0, []))]
def b201_192 : List kIt := [(192, .inr (.ireturn, 3, 0, 0, []))]
def b201_193 : List kIt := [(193, .inl (.iload_n 1, 0, 0, 0)), (194, .inl (.iload_n 2, 0, 0, 0)), (195, .inr (.if_icmp .le 7, 0, 202, 0, [])), (198, .inl (.iconst 1, 0, 0, 0)), (199, .inr (.goto 4, 1, 203, 0, []))]
def b201_202 : List kIt := [(202, .inl (.iconst 0, 0, 0, 0)), (203, .inr (.nop, 1, 203, 0, []))]
def b201_203 : List kIt := [(203, .inr (.ireturn, 3, 0, 0, []))]
def b201_204 : List kIt := [(204, .inl (.iload_n 1, 0, 0, 0)), (205, .inr (.ifCond .eq 11, 0, 216, 0, [])), (208, .inl (.iload_n 2, 0, 0, 0)), (209, .inr (.ifCond .eq 7, 0, 216, 0, [])), (212, .inl (.iconst 1, 0, 0, 0)), (213, .inr (.goto 4, 1, 217, 0, []))]
def b201_216 : List kIt := [(216, .inl (.iconst 0, 0, 0, 0)), (217, .inr (.nop, 1, 217, 0, []))]
def b201_217 : List kIt := [(217, .inr (.ireturn, 3, 0, 0, []))]
def b201_218 : List kIt := [(218, .inl (.iload_n 1, 0, 0, 0)), (219, .inr (.ifCond .ne 7, 0, 226, 0, [])), (222, .inl (.iload_n 2, 0, 0, 0)), (223, .inr (.ifCond .eq 7, 0, 230, 0, [])), (226, .inr (.nop, 1, 226, 0, []))]
def b201_226 : List kIt := [(226, .inl (.iconst 1, 0, 0, 0)), (227, .inr (.goto 4, 1, 231, 0, []))]
def b201_230 : List kIt := [(230, .inl (.iconst 0, 0, 0, 0)), (231, .inr (.nop, 1, 231, 0, []))]
def b201_231 : List kIt := [(231, .inr (.ireturn, 3, 0, 0, []))]
def c201 : List (Nat × List kIt) := [(0, b201_0), (120, b201_120), (124, b201_124), (128, b201_128), (132, b201_132), (140, b201_140), (150, b201_150), (153, b201_153), (154, b201_154), (163, b201_163), (167, b201_167), (170, b201_170), (171, b201_171), (180, b201_180), (181, b201_181), (182, b201_182), (191, b201_191), (192, b201_192), (193, b201_193), (202, b201_202), (203, b201_203), (204, b201_204), (216, b201_216), (217, b201_217), (218, b201_218), (226, b201_226), (230, b201_230), (231, b201_231)]
-- 202: PennyALapModel.worked
def b202_0 : List kIt := [(0, .inl (.iconst 0, 0, 0, 0)), (1, .inl (.istore 4, 0, 0, 0)), (3, .inl (.sipush 130, 0, 0, 0)), (6, .inl (.iload_n 1, 0, 0, 0)), (7, .inl (.imul, 0, 0, 0)), (8, .inl (.iload_n 2, 0, 0, 0)), (9, .inl (.iadd, 0, 0, 0)), (10, .inl (.istore 5, 0, 0, 0)), (12, .inr (.nop, 1, 12, 0, []))]
def b202_12 : List kIt := [(12, .inl (.iload 5, 0, 0, 0)), (14, .inl (.sipush 130, 0, 0, 0)), (17, .inl (.iload_n 1, 0, 0, 0)), (18, .inl (.imul, 0, 0, 0)), (19, .inl (.iload_n 3, 0, 0, 0)), (20, .inl (.iadd, 0, 0, 0)), (21, .inr (.if_icmp .ge 167, 0, 188, 0, [])), (24, .inl (.aload_n 0, 0, 0, 0)), (25, .inl (.getfield 63, 10, 29, 0)), (28, .inl (.iload 5, 0, 0, 0)), (30, .inl (.baload, 2, 0, 0)), (31, .inl (.istore 6, 0, 0, 0)), (33, .inl (.iload 6, 0, 0, 0)), (35, .inl (.iconst 1, 0, 0, 0)), (36, .inr (.if_icmp .eq 9, 0, 45, 0, [])), (39, .inl (.iload 6, 0, 0, 0)), (41, .inl (.iconst 2, 0, 0, 0)), (42, .inr (.if_icmp .ne 44, 0, 86, 0, [])), (45, .inr (.nop, 1, 45, 0, []))]
def b202_45 : List kIt := [(45, .inl (.aload_n 0, 0, 0, 0)), (46, .inl (.getfield 82, 10, 35, 0)), (49, .inl (.iload 4, 0, 0, 0)), (51, .inl (.iload 6, 0, 0, 0)), (53, .inl (.iconst 1, 0, 0, 0)), (54, .inr (.if_icmp .ne 13, 0, 67, 0, [])), (57, .inl (.aload_n 0, 0, 0, 0)), (58, .inl (.getfield 66, 10, 30, 0)), (61, .inl (.iload 5, 0, 0, 0)), (63, .inl (.iaload, 0, 0, 0)), (64, .inr (.goto 15, 1, 79, 0, []))]
def b202_67 : List kIt := [(67, .inl (.aload_n 0, 0, 0, 0)), (68, .inl (.getfield 79, 10, 34, 0)), (71, .inl (.aload_n 0, 0, 0, 0)), (72, .inl (.getfield 66, 10, 30, 0)), (75, .inl (.iload 5, 0, 0, 0)), (77, .inl (.iaload, 0, 0, 0)), (78, .inl (.iaload, 0, 0, 0)), (79, .inr (.nop, 1, 79, 0, []))]
def b202_79 : List kIt := [(79, .inl (.iastore, 0, 0, 0)), (80, .inl (.iinc 4 1, 0, 0, 0)), (83, .inr (.goto 99, 1, 182, 0, []))]
def b202_86 : List kIt := [(86, .inl (.iload 6, 0, 0, 0)), (88, .inl (.iconst 3, 0, 0, 0)), (89, .inr (.if_icmp .ne 32, 0, 121, 0, [])), (92, .inl (.aload_n 0, 0, 0, 0)), (93, .inl (.getfield 82, 10, 35, 0)), (96, .inl (.iload 4, 0, 0, 0)), (98, .inl (.iconst 1, 0, 0, 0)), (99, .inl (.isub, 0, 0, 0)), (100, .inl (.aload_n 0, 0, 0, 0)), (101, .inl (.getfield 82, 10, 35, 0)), (104, .inl (.iload 4, 0, 0, 0)), (106, .inl (.iconst 1, 0, 0, 0)), (107, .inl (.isub, 0, 0, 0)), (108, .inl (.iaload, 0, 0, 0)), (109, .inr (.ifCond .ne 7, 0, 116, 0, [])), (112, .inl (.iconst 1, 0, 0, 0)), (113, .inr (.goto 4, 1, 117, 0, []))]
def b202_116 : List kIt := [(116, .inl (.iconst 0, 0, 0, 0)), (117, .inr (.nop, 1, 117, 0, []))]
def b202_117 : List kIt := [(117, .inl (.iastore, 0, 0, 0)), (118, .inr (.goto 64, 1, 182, 0, []))]
def b202_121 : List kIt := [(121, .inl (.iload 6, 0, 0, 0)), (123, .inl (.iconst 4, 0, 0, 0)), (124, .inr (.if_icmp .ne 25, 0, 149, 0, [])), (127, .inl (.aload_n 0, 0, 0, 0)), (128, .inl (.getfield 82, 10, 35, 0)), (131, .inl (.iload 4, 0, 0, 0)), (133, .inl (.iconst 1, 0, 0, 0)), (134, .inl (.isub, 0, 0, 0)), (135, .inl (.aload_n 0, 0, 0, 0)), (136, .inl (.getfield 82, 10, 35, 0)), (139, .inl (.iload 4, 0, 0, 0)), (141, .inl (.iconst 1, 0, 0, 0)), (142, .inl (.isub, 0, 0, 0)), (143, .inl (.iaload, 0, 0, 0)), (144, .inl (.ineg, 0, 0, 0)), (145, .inl (.iastore, 0, 0, 0)), (146, .inr (.goto 36, 1, 182, 0, []))]
def b202_149 : List kIt := [(149, .inl (.iinc 4 (-1), 0, 0, 0)), (152, .inl (.aload_n 0, 0, 0, 0)), (153, .inl (.getfield 82, 10, 35, 0)), (156, .inl (.iload 4, 0, 0, 0)), (158, .inl (.iconst 1, 0, 0, 0)), (159, .inl (.isub, 0, 0, 0)), (160, .inl (.iload 6, 0, 0, 0)), (162, .inl (.aload_n 0, 0, 0, 0)), (163, .inl (.getfield 82, 10, 35, 0)), (166, .inl (.iload 4, 0, 0, 0)), (168, .inl (.iconst 1, 0, 0, 0)), (169, .inl (.isub, 0, 0, 0)), (170, .inl (.iaload, 0, 0, 0)), (171, .inl (.aload_n 0, 0, 0, 0)), (172, .inl (.getfield 82, 10, 35, 0)), (175, .inl (.iload 4, 0, 0, 0)), (177, .inl (.iaload, 0, 0, 0)), (178, .inr (.invokestatic 257, 4, 201, 3, [])), (181, .inr (.nop, 1, 181, 0, []))]
def b202_181 : List kIt := [(181, .inl (.iastore, 0, 0, 0)), (182, .inr (.nop, 1, 182, 0, []))]
def b202_182 : List kIt := [(182, .inl (.iinc 5 1, 0, 0, 0)), (185, .inr (.goto (-173), 1, 12, 0, []))]
def b202_188 : List kIt := [(188, .inl (.aload_n 0, 0, 0, 0)), (189, .inl (.getfield 82, 10, 35, 0)), (192, .inl (.iconst 0, 0, 0, 0)), (193, .inl (.iaload, 0, 0, 0)), (194, .inr (.ireturn, 3, 0, 0, []))]
def c202 : List (Nat × List kIt) := [(0, b202_0), (12, b202_12), (45, b202_45), (67, b202_67), (79, b202_79), (86, b202_86), (116, b202_116), (117, b202_117), (121, b202_121), (149, b202_149), (181, b202_181), (182, b202_182), (188, b202_188)]
-- 203: PennyALapModel.gives
def b203_0 : List kIt := [(0, .inl (.iconst 0, 0, 0, 0)), (1, .inl (.istore_n 2, 0, 0, 0)), (2, .inl (.bipush 61, 0, 0, 0)), (4, .inl (.iload_n 1, 0, 0, 0)), (5, .inl (.imul, 0, 0, 0)), (6, .inl (.istore_n 3, 0, 0, 0)), (7, .inr (.nop, 1, 7, 0, []))]
def b203_7 : List kIt := [(7, .inl (.iload_n 3, 0, 0, 0)), (8, .inl (.bipush 61, 0, 0, 0)), (10, .inl (.iload_n 1, 0, 0, 0)), (11, .inl (.imul, 0, 0, 0)), (12, .inl (.aload_n 0, 0, 0, 0)), (13, .inl (.getfield 69, 10, 31, 0)), (16, .inl (.iload_n 1, 0, 0, 0)), (17, .inl (.iaload, 0, 0, 0)), (18, .inl (.iadd, 0, 0, 0)), (19, .inr (.if_icmp .ge 59, 0, 78, 0, [])), (22, .inl (.aload_n 0, 0, 0, 0)), (23, .inl (.getfield 72, 10, 32, 0)), (26, .inl (.iload_n 3, 0, 0, 0)), (27, .inl (.saload, 0, 0, 0)), (28, .inl (.iload_n 2, 0, 0, 0)), (29, .inr (.if_icmp .eq 18, 0, 47, 0, [])), (32, .inl (.aload_n 0, 0, 0, 0)), (33, .inl (.iload_n 1, 0, 0, 0)), (34, .inl (.iload_n 2, 0, 0, 0)), (35, .inl (.aload_n 0, 0, 0, 0)), (36, .inl (.getfield 72, 10, 32, 0)), (39, .inl (.iload_n 3, 0, 0, 0)), (40, .inl (.saload, 0, 0, 0)), (41, .inr (.invokevirtual 260, 4, 202, 4, [])), (44, .inr (.nop, 1, 44, 0, []))]
def b203_44 : List kIt := [(44, .inr (.ifCond .eq 21, 0, 65, 0, [])), (47, .inr (.nop, 1, 47, 0, []))]
def b203_47 : List kIt := [(47, .inl (.aload_n 0, 0, 0, 0)), (48, .inl (.iload_n 1, 0, 0, 0)), (49, .inl (.aload_n 0, 0, 0, 0)), (50, .inl (.getfield 72, 10, 32, 0)), (53, .inl (.iload_n 3, 0, 0, 0)), (54, .inl (.saload, 0, 0, 0)), (55, .inl (.aload_n 0, 0, 0, 0)), (56, .inl (.getfield 76, 10, 33, 0)), (59, .inl (.iload_n 3, 0, 0, 0)), (60, .inl (.saload, 0, 0, 0)), (61, .inr (.invokevirtual 260, 4, 202, 4, [])), (64, .inr (.nop, 1, 64, 0, []))]
def b203_64 : List kIt := [(64, .inr (.ireturn, 3, 0, 0, []))]
def b203_65 : List kIt := [(65, .inl (.aload_n 0, 0, 0, 0)), (66, .inl (.getfield 76, 10, 33, 0)), (69, .inl (.iload_n 3, 0, 0, 0)), (70, .inl (.saload, 0, 0, 0)), (71, .inl (.istore_n 2, 0, 0, 0)), (72, .inl (.iinc 3 1, 0, 0, 0)), (75, .inr (.goto (-68), 1, 7, 0, []))]
def b203_78 : List kIt := [(78, .inl (.iconst 0, 0, 0, 0)), (79, .inr (.ireturn, 3, 0, 0, []))]
def c203 : List (Nat × List kIt) := [(0, b203_0), (7, b203_7), (44, b203_44), (47, b203_47), (64, b203_64), (65, b203_65), (78, b203_78)]
-- 204: PennyALapModel.law
def b204_0 : List kIt := [(0, .inl (.aload_n 0, 0, 0, 0)), (1, .inl (.iconst 0, 0, 0, 0)), (2, .inr (.invokevirtual 263, 4, 200, 2, [])), (5, .inr (.nop, 1, 5, 0, []))]
def b204_5 : List kIt := [(5, .inl (.istore_n 1, 0, 0, 0)), (6, .inl (.iload_n 1, 0, 0, 0)), (7, .inr (.ifCond .lt 8, 0, 15, 0, [])), (10, .inl (.bipush (-100), 0, 0, 0)), (12, .inl (.iload_n 1, 0, 0, 0)), (13, .inl (.isub, 0, 0, 0)), (14, .inr (.ireturn, 3, 0, 0, []))]
def b204_15 : List kIt := [(15, .inl (.aload_n 0, 0, 0, 0)), (16, .inl (.iconst 1, 0, 0, 0)), (17, .inl (.putfield 266, 10, 36, 1)), (20, .inl (.iconst 1, 0, 0, 0)), (21, .inr (.ireturn, 3, 0, 0, []))]
def c204 : List (Nat × List kIt) := [(0, b204_0), (5, b204_5), (15, b204_15)]
-- 205: PennyALapModel.lapOf
def b205_0 : List kIt := [(0, .inl (.aload_n 0, 0, 0, 0)), (1, .inl (.getfield 7, 10, 2, 0)), (4, .inl (.iload_n 1, 0, 0, 0)), (5, .inl (.iaload, 0, 0, 0)), (6, .inl (.aload_n 0, 0, 0, 0)), (7, .inl (.getfield 13, 10, 3, 0)), (10, .inl (.iload_n 1, 0, 0, 0)), (11, .inl (.iaload, 0, 0, 0)), (12, .inl (.iload_n 2, 0, 0, 0)), (13, .inl (.imul, 0, 0, 0)), (14, .inl (.iconst 4, 0, 0, 0)), (15, .inl (.idiv, 0, 0, 0)), (16, .inl (.iadd, 0, 0, 0)), (17, .inl (.aload_n 0, 0, 0, 0)), (18, .inl (.getfield 166, 10, 13, 0)), (21, .inl (.iadd, 0, 0, 0)), (22, .inl (.istore 4, 0, 0, 0)), (24, .inl (.aload_n 0, 0, 0, 0)), (25, .inl (.getfield 266, 10, 36, 0)), (28, .inr (.ifCond .eq 65, 0, 93, 0, [])), (31, .inl (.aload_n 0, 0, 0, 0)), (32, .inl (.getfield 79, 10, 34, 0)), (35, .inl (.iconst 0, 0, 0, 0)), (36, .inl (.aload_n 0, 0, 0, 0)), (37, .inl (.getfield 7, 10, 2, 0)), (40, .inl (.iload_n 1, 0, 0, 0)), (41, .inl (.iaload, 0, 0, 0)), (42, .inl (.iastore, 0, 0, 0)), (43, .inl (.aload_n 0, 0, 0, 0)), (44, .inl (.getfield 79, 10, 34, 0)), (47, .inl (.iconst 1, 0, 0, 0)), (48, .inl (.aload_n 0, 0, 0, 0)), (49, .inl (.getfield 13, 10, 3, 0)), (52, .inl (.iload_n 1, 0, 0, 0)), (53, .inl (.iaload, 0, 0, 0)), (54, .inl (.iastore, 0, 0, 0)), (55, .inl (.aload_n 0, 0, 0, 0)), (56, .inl (.getfield 79, 10, 34, 0)), (59, .inl (.iconst 2, 0, 0, 0)), (60, .inl (.iload_n 2, 0, 0, 0)), (61, .inl (.iastore, 0, 0, 0)), (62, .inl (.aload_n 0, 0, 0, 0)), (63, .inl (.getfield 79, 10, 34, 0)), (66, .inl (.iconst 3, 0, 0, 0)), (67, .inl (.iload_n 3, 0, 0, 0)), (68, .inl (.iastore, 0, 0, 0)), (69, .inl (.aload_n 0, 0, 0, 0)), (70, .inl (.getfield 79, 10, 34, 0)), (73, .inl (.iconst 4, 0, 0, 0)), (74, .inl (.aload_n 0, 0, 0, 0)), (75, .inl (.getfield 166, 10, 13, 0)), (78, .inl (.iastore, 0, 0, 0)), (79, .inl (.aload_n 0, 0, 0, 0)), (80, .inl (.getfield 79, 10, 34, 0)), (83, .inl (.iconst 5, 0, 0, 0)), (84, .inl (.iload_n 1, 0, 0, 0)), (85, .inl (.iastore, 0, 0, 0)), (86, .inl (.aload_n 0, 0, 0, 0)), (87, .inl (.iconst 0, 0, 0, 0)), (88, .inr (.invokevirtual 270, 4, 203, 2, [])), (91, .inr (.nop, 1, 91, 0, []))]
def b205_91 : List kIt := [(91, .inl (.istore 4, 0, 0, 0)), (93, .inr (.nop, 1, 93, 0, []))]
def b205_93 : List kIt := [(93, .inl (.iload 4, 0, 0, 0)), (95, .inl (.iconst 1, 0, 0, 0)), (96, .inr (.if_icmp .ge 7, 0, 103, 0, [])), (99, .inl (.iconst 1, 0, 0, 0)), (100, .inr (.goto 17, 1, 117, 0, []))]
def b205_103 : List kIt := [(103, .inl (.iload 4, 0, 0, 0)), (105, .inl (.bipush 99, 0, 0, 0)), (107, .inr (.if_icmp .le 8, 0, 115, 0, [])), (110, .inl (.bipush 99, 0, 0, 0)), (112, .inr (.goto 5, 1, 117, 0, []))]
def b205_115 : List kIt := [(115, .inl (.iload 4, 0, 0, 0)), (117, .inr (.nop, 1, 117, 0, []))]
def b205_117 : List kIt := [(117, .inr (.ireturn, 3, 0, 0, []))]
def c205 : List (Nat × List kIt) := [(0, b205_0), (91, b205_91), (93, b205_93), (103, b205_103), (115, b205_115), (117, b205_117)]
-- 206: PennyALapModel.lap
def b206_0 : List kIt := [(0, .inl (.aload_n 0, 0, 0, 0)), (1, .inl (.iload_n 1, 0, 0, 0)), (2, .inr (.invokevirtual 153, 4, 171, 2, [])), (5, .inr (.nop, 1, 5, 0, []))]
def b206_5 : List kIt := [(5, .inr (.ifCond .eq 35, 0, 40, 0, [])), (8, .inl (.iload_n 2, 0, 0, 0)), (9, .inr (.ifCond .lt 31, 0, 40, 0, [])), (12, .inl (.iload_n 2, 0, 0, 0)), (13, .inl (.sipush 1000, 0, 0, 0)), (16, .inl (.idiv, 0, 0, 0)), (17, .inl (.bipush 99, 0, 0, 0)), (19, .inr (.if_icmp .gt 21, 0, 40, 0, [])), (22, .inl (.aload_n 0, 0, 0, 0)), (23, .inl (.iload_n 1, 0, 0, 0)), (24, .inl (.iload_n 2, 0, 0, 0)), (25, .inl (.sipush 1000, 0, 0, 0)), (28, .inl (.idiv, 0, 0, 0)), (29, .inl (.iload_n 2, 0, 0, 0)), (30, .inl (.sipush 1000, 0, 0, 0)), (33, .inl (.irem, 0, 0, 0)), (34, .inr (.invokevirtual 273, 4, 205, 4, [])), (37, .inr (.nop, 1, 37, 0, []))]
def b206_37 : List kIt := [(37, .inr (.goto 4, 1, 41, 0, []))]
def b206_40 : List kIt := [(40, .inl (.iconst (-1), 0, 0, 0)), (41, .inr (.nop, 1, 41, 0, []))]
def b206_41 : List kIt := [(41, .inr (.ireturn, 3, 0, 0, []))]
def c206 : List (Nat × List kIt) := [(0, b206_0), (5, b206_5), (37, b206_37), (40, b206_40), (41, b206_41)]
-- 207: PennyALapModel.isTime
def b207_0 : List kIt := [(0, .inl (.iload_n 0, 0, 0, 0)), (1, .inl (.iconst 0, 0, 0, 0)), (2, .inl (.sipush 999, 0, 0, 0)), (5, .inr (.invokestatic 146, 4, 170, 3, [])), (8, .inr (.nop, 1, 8, 0, []))]
def b207_8 : List kIt := [(8, .inr (.ireturn, 3, 1, 0, []))]
def c207 : List (Nat × List kIt) := [(0, b207_0), (8, b207_8)]
-- 208: PennyALapModel.lapsBy
def b208_0 : List kIt := [(0, .inl (.iconst 0, 0, 0, 0)), (1, .inl (.istore_n 3, 0, 0, 0)), (2, .inl (.iconst 0, 0, 0, 0)), (3, .inl (.istore 4, 0, 0, 0)), (5, .inr (.nop, 1, 5, 0, []))]
def b208_5 : List kIt := [(5, .inl (.iload 4, 0, 0, 0)), (7, .inl (.aload_n 0, 0, 0, 0)), (8, .inl (.getfield 16, 10, 4, 0)), (11, .inl (.iload_n 1, 0, 0, 0)), (12, .inl (.iaload, 0, 0, 0)), (13, .inr (.if_icmp .ge 28, 0, 41, 0, [])), (16, .inl (.iload_n 3, 0, 0, 0)), (17, .inl (.aload_n 0, 0, 0, 0)), (18, .inl (.iload_n 1, 0, 0, 0)), (19, .inl (.iload 4, 0, 0, 0)), (21, .inl (.iload_n 3, 0, 0, 0)), (22, .inr (.invokevirtual 273, 4, 205, 4, [])), (25, .inr (.nop, 1, 25, 0, []))]
def b208_25 : List kIt := [(25, .inl (.iadd, 0, 0, 0)), (26, .inl (.istore_n 3, 0, 0, 0)), (27, .inl (.iload_n 3, 0, 0, 0)), (28, .inl (.iload_n 2, 0, 0, 0)), (29, .inr (.if_icmp .le 6, 0, 35, 0, [])), (32, .inl (.iload 4, 0, 0, 0)), (34, .inr (.ireturn, 3, 0, 0, []))]
def b208_35 : List kIt := [(35, .inl (.iinc 4 1, 0, 0, 0)), (38, .inr (.goto (-33), 1, 5, 0, []))]
def b208_41 : List kIt := [(41, .inl (.iload 4, 0, 0, 0)), (43, .inr (.ireturn, 3, 0, 0, []))]
def c208 : List (Nat × List kIt) := [(0, b208_0), (5, b208_5), (25, b208_25), (35, b208_35), (41, b208_41)]
-- 209: PennyALapModel.minutesOf
def b209_0 : List kIt := [(0, .inl (.iconst 0, 0, 0, 0)), (1, .inl (.istore_n 3, 0, 0, 0)), (2, .inl (.iconst 0, 0, 0, 0)), (3, .inl (.istore 4, 0, 0, 0)), (5, .inr (.nop, 1, 5, 0, []))]
def b209_5 : List kIt := [(5, .inl (.iload 4, 0, 0, 0)), (7, .inl (.iload_n 2, 0, 0, 0)), (8, .inr (.if_icmp .ge 20, 0, 28, 0, [])), (11, .inl (.iload_n 3, 0, 0, 0)), (12, .inl (.aload_n 0, 0, 0, 0)), (13, .inl (.iload_n 1, 0, 0, 0)), (14, .inl (.iload 4, 0, 0, 0)), (16, .inl (.iload_n 3, 0, 0, 0)), (17, .inr (.invokevirtual 273, 4, 205, 4, [])), (20, .inr (.nop, 1, 20, 0, []))]
def b209_20 : List kIt := [(20, .inl (.iadd, 0, 0, 0)), (21, .inl (.istore_n 3, 0, 0, 0)), (22, .inl (.iinc 4 1, 0, 0, 0)), (25, .inr (.goto (-20), 1, 5, 0, []))]
def b209_28 : List kIt := [(28, .inl (.iload_n 3, 0, 0, 0)), (29, .inr (.ireturn, 3, 0, 0, []))]
def c209 : List (Nat × List kIt) := [(0, b209_0), (5, b209_5), (20, b209_20), (28, b209_28)]
-- 210: PennyALapModel.minutes
def b210_0 : List kIt := [(0, .inl (.aload_n 0, 0, 0, 0)), (1, .inl (.iload_n 1, 0, 0, 0)), (2, .inr (.invokevirtual 153, 4, 171, 2, [])), (5, .inr (.nop, 1, 5, 0, []))]
def b210_5 : List kIt := [(5, .inr (.ifCond .eq 13, 0, 18, 0, [])), (8, .inl (.iload_n 2, 0, 0, 0)), (9, .inl (.iconst 0, 0, 0, 0)), (10, .inl (.bipush 99, 0, 0, 0)), (12, .inr (.invokestatic 146, 4, 170, 3, [])), (15, .inr (.nop, 1, 15, 0, []))]
def b210_15 : List kIt := [(15, .inr (.ifCond .ne 5, 0, 20, 0, [])), (18, .inr (.nop, 1, 18, 0, []))]
def b210_18 : List kIt := [(18, .inl (.iconst (-1), 0, 0, 0)), (19, .inr (.ireturn, 3, 0, 0, []))]
def b210_20 : List kIt := [(20, .inl (.iload_n 2, 0, 0, 0)), (21, .inl (.aload_n 0, 0, 0, 0)), (22, .inl (.getfield 16, 10, 4, 0)), (25, .inl (.iload_n 1, 0, 0, 0)), (26, .inl (.iaload, 0, 0, 0)), (27, .inr (.if_icmp .le 8, 0, 35, 0, [])), (30, .inl (.bipush (-2), 0, 0, 0)), (32, .inr (.goto 9, 1, 41, 0, []))]
def b210_35 : List kIt := [(35, .inl (.aload_n 0, 0, 0, 0)), (36, .inl (.iload_n 1, 0, 0, 0)), (37, .inl (.iload_n 2, 0, 0, 0)), (38, .inr (.invokevirtual 276, 4, 209, 3, [])), (41, .inr (.nop, 1, 41, 0, []))]
def b210_41 : List kIt := [(41, .inr (.ireturn, 3, 0, 0, []))]
def c210 : List (Nat × List kIt) := [(0, b210_0), (5, b210_5), (15, b210_15), (18, b210_18), (20, b210_20), (35, b210_35), (41, b210_41)]
-- 211: PennyALapModel.plainOf
def b211_0 : List kIt := [(0, .inl (.aload_n 0, 0, 0, 0)), (1, .inl (.getfield 25, 10, 8, 0)), (4, .inl (.iload_n 1, 0, 0, 0)), (5, .inl (.iaload, 0, 0, 0)), (6, .inl (.iload_n 2, 0, 0, 0)), (7, .inl (.imul, 0, 0, 0)), (8, .inl (.iload_n 2, 0, 0, 0)), (9, .inl (.aload_n 0, 0, 0, 0)), (10, .inl (.getfield 31, 10, 10, 0)), (13, .inl (.iload_n 1, 0, 0, 0)), (14, .inl (.iaload, 0, 0, 0)), (15, .inr (.if_icmp .lt 12, 0, 27, 0, [])), (18, .inl (.aload_n 0, 0, 0, 0)), (19, .inl (.getfield 28, 10, 9, 0)), (22, .inl (.iload_n 1, 0, 0, 0)), (23, .inl (.iaload, 0, 0, 0)), (24, .inr (.goto 4, 1, 28, 0, []))]
def b211_27 : List kIt := [(27, .inl (.iconst 0, 0, 0, 0)), (28, .inr (.nop, 1, 28, 0, []))]
def b211_28 : List kIt := [(28, .inl (.iadd, 0, 0, 0)), (29, .inr (.ireturn, 3, 0, 0, []))]
def c211 : List (Nat × List kIt) := [(0, b211_0), (27, b211_27), (28, b211_28)]
-- 212: PennyALapModel.owesOf
def b212_0 : List kIt := [(0, .inl (.aload_n 0, 0, 0, 0)), (1, .inl (.iload_n 1, 0, 0, 0)), (2, .inl (.iload_n 2, 0, 0, 0)), (3, .inr (.invokevirtual 279, 4, 211, 3, [])), (6, .inr (.nop, 1, 6, 0, []))]
def b212_6 : List kIt := [(6, .inl (.istore_n 3, 0, 0, 0)), (7, .inl (.aload_n 0, 0, 0, 0)), (8, .inl (.getfield 34, 10, 11, 0)), (11, .inl (.iload_n 1, 0, 0, 0)), (12, .inl (.iaload, 0, 0, 0)), (13, .inr (.ifCond .le 22, 0, 35, 0, [])), (16, .inl (.iload_n 3, 0, 0, 0)), (17, .inl (.aload_n 0, 0, 0, 0)), (18, .inl (.getfield 34, 10, 11, 0)), (21, .inl (.iload_n 1, 0, 0, 0)), (22, .inl (.iaload, 0, 0, 0)), (23, .inr (.if_icmp .le 12, 0, 35, 0, [])), (26, .inl (.aload_n 0, 0, 0, 0)), (27, .inl (.getfield 34, 10, 11, 0)), (30, .inl (.iload_n 1, 0, 0, 0)), (31, .inl (.iaload, 0, 0, 0)), (32, .inr (.goto 4, 1, 36, 0, []))]
def b212_35 : List kIt := [(35, .inl (.iload_n 3, 0, 0, 0)), (36, .inr (.nop, 1, 36, 0, []))]
def b212_36 : List kIt := [(36, .inr (.ireturn, 3, 0, 0, []))]
def c212 : List (Nat × List kIt) := [(0, b212_0), (6, b212_6), (35, b212_35), (36, b212_36)]
-- 213: PennyALapModel.paysOf
def b213_0 : List kIt := [(0, .inl (.aload_n 0, 0, 0, 0)), (1, .inl (.iload_n 1, 0, 0, 0)), (2, .inl (.iload_n 2, 0, 0, 0)), (3, .inr (.invokevirtual 282, 4, 212, 3, [])), (6, .inr (.nop, 1, 6, 0, []))]
def b213_6 : List kIt := [(6, .inl (.istore_n 3, 0, 0, 0)), (7, .inl (.iload_n 3, 0, 0, 0)), (8, .inl (.aload_n 0, 0, 0, 0)), (9, .inl (.getfield 37, 10, 12, 0)), (12, .inl (.iload_n 1, 0, 0, 0)), (13, .inl (.iaload, 0, 0, 0)), (14, .inr (.if_icmp .le 12, 0, 26, 0, [])), (17, .inl (.aload_n 0, 0, 0, 0)), (18, .inl (.getfield 37, 10, 12, 0)), (21, .inl (.iload_n 1, 0, 0, 0)), (22, .inl (.iaload, 0, 0, 0)), (23, .inr (.goto 4, 1, 27, 0, []))]
def b213_26 : List kIt := [(26, .inl (.iload_n 3, 0, 0, 0)), (27, .inr (.nop, 1, 27, 0, []))]
def b213_27 : List kIt := [(27, .inr (.ireturn, 3, 0, 0, []))]
def c213 : List (Nat × List kIt) := [(0, b213_0), (6, b213_6), (26, b213_26), (27, b213_27)]
-- 214: PennyALapModel.owes
def b214_0 : List kIt := [(0, .inl (.aload_n 0, 0, 0, 0)), (1, .inl (.iload_n 1, 0, 0, 0)), (2, .inr (.invokevirtual 186, 4, 172, 2, [])), (5, .inr (.nop, 1, 5, 0, []))]
def b214_5 : List kIt := [(5, .inr (.ifCond .eq 22, 0, 27, 0, [])), (8, .inl (.iload_n 2, 0, 0, 0)), (9, .inl (.iconst 0, 0, 0, 0)), (10, .inl (.bipush 99, 0, 0, 0)), (12, .inr (.invokestatic 146, 4, 170, 3, [])), (15, .inr (.nop, 1, 15, 0, []))]
def b214_15 : List kIt := [(15, .inr (.ifCond .eq 12, 0, 27, 0, [])), (18, .inl (.iload_n 3, 0, 0, 0)), (19, .inl (.iconst 0, 0, 0, 0)), (20, .inl (.iconst 1, 0, 0, 0)), (21, .inr (.invokestatic 146, 4, 170, 3, [])), (24, .inr (.nop, 1, 24, 0, []))]
def b214_24 : List kIt := [(24, .inr (.ifCond .ne 5, 0, 29, 0, [])), (27, .inr (.nop, 1, 27, 0, []))]
def b214_27 : List kIt := [(27, .inl (.iconst (-1), 0, 0, 0)), (28, .inr (.ireturn, 3, 0, 0, []))]
def b214_29 : List kIt := [(29, .inl (.iload_n 3, 0, 0, 0)), (30, .inr (.ifCond .ne 12, 0, 42, 0, [])), (33, .inl (.aload_n 0, 0, 0, 0)), (34, .inl (.iload_n 1, 0, 0, 0)), (35, .inl (.iload_n 2, 0, 0, 0)), (36, .inr (.invokevirtual 282, 4, 212, 3, [])), (39, .inr (.nop, 1, 39, 0, []))]
def b214_39 : List kIt := [(39, .inr (.goto 9, 1, 48, 0, []))]
def b214_42 : List kIt := [(42, .inl (.aload_n 0, 0, 0, 0)), (43, .inl (.iload_n 1, 0, 0, 0)), (44, .inl (.iload_n 2, 0, 0, 0)), (45, .inr (.invokevirtual 285, 4, 213, 3, [])), (48, .inr (.nop, 1, 48, 0, []))]
def b214_48 : List kIt := [(48, .inr (.ireturn, 3, 0, 0, []))]
def c214 : List (Nat × List kIt) := [(0, b214_0), (5, b214_5), (15, b214_15), (24, b214_24), (27, b214_27), (29, b214_29), (39, b214_39), (42, b214_42), (48, b214_48)]
-- 215: PennyALapModel.owedTo
def b215_0 : List kIt := [(0, .inl (.iconst 0, 0, 0, 0)), (1, .inl (.istore_n 3, 0, 0, 0)), (2, .inl (.iconst 0, 0, 0, 0)), (3, .inl (.istore 4, 0, 0, 0)), (5, .inr (.nop, 1, 5, 0, []))]
def b215_5 : List kIt := [(5, .inl (.iload 4, 0, 0, 0)), (7, .inl (.aload_n 0, 0, 0, 0)), (8, .inl (.getfield 150, 10, 6, 0)), (11, .inr (.if_icmp .ge 30, 0, 41, 0, [])), (14, .inl (.aload_n 0, 0, 0, 0)), (15, .inl (.getfield 22, 10, 7, 0)), (18, .inl (.iload 4, 0, 0, 0)), (20, .inl (.iaload, 0, 0, 0)), (21, .inl (.iload_n 1, 0, 0, 0)), (22, .inr (.if_icmp .ne 13, 0, 35, 0, [])), (25, .inl (.iload_n 3, 0, 0, 0)), (26, .inl (.aload_n 0, 0, 0, 0)), (27, .inl (.iload 4, 0, 0, 0)), (29, .inl (.iload_n 2, 0, 0, 0)), (30, .inr (.invokevirtual 282, 4, 212, 3, [])), (33, .inr (.nop, 1, 33, 0, []))]
def b215_33 : List kIt := [(33, .inl (.iadd, 0, 0, 0)), (34, .inl (.istore_n 3, 0, 0, 0)), (35, .inr (.nop, 1, 35, 0, []))]
def b215_35 : List kIt := [(35, .inl (.iinc 4 1, 0, 0, 0)), (38, .inr (.goto (-33), 1, 5, 0, []))]
def b215_41 : List kIt := [(41, .inl (.iload_n 3, 0, 0, 0)), (42, .inr (.ireturn, 3, 0, 0, []))]
def c215 : List (Nat × List kIt) := [(0, b215_0), (5, b215_5), (33, b215_33), (35, b215_35), (41, b215_41)]
-- 216: PennyALapModel.paidTo
def b216_0 : List kIt := [(0, .inl (.iconst 0, 0, 0, 0)), (1, .inl (.istore_n 3, 0, 0, 0)), (2, .inl (.iconst 0, 0, 0, 0)), (3, .inl (.istore 4, 0, 0, 0)), (5, .inr (.nop, 1, 5, 0, []))]
def b216_5 : List kIt := [(5, .inl (.iload 4, 0, 0, 0)), (7, .inl (.aload_n 0, 0, 0, 0)), (8, .inl (.getfield 150, 10, 6, 0)), (11, .inr (.if_icmp .ge 30, 0, 41, 0, [])), (14, .inl (.aload_n 0, 0, 0, 0)), (15, .inl (.getfield 22, 10, 7, 0)), (18, .inl (.iload 4, 0, 0, 0)), (20, .inl (.iaload, 0, 0, 0)), (21, .inl (.iload_n 1, 0, 0, 0)), (22, .inr (.if_icmp .ne 13, 0, 35, 0, [])), (25, .inl (.iload_n 3, 0, 0, 0)), (26, .inl (.aload_n 0, 0, 0, 0)), (27, .inl (.iload 4, 0, 0, 0)), (29, .inl (.iload_n 2, 0, 0, 0)), (30, .inr (.invokevirtual 285, 4, 213, 3, [])), (33, .inr (.nop, 1, 33, 0, []))]
def b216_33 : List kIt := [(33, .inl (.iadd, 0, 0, 0)), (34, .inl (.istore_n 3, 0, 0, 0)), (35, .inr (.nop, 1, 35, 0, []))]
def b216_35 : List kIt := [(35, .inl (.iinc 4 1, 0, 0, 0)), (38, .inr (.goto (-33), 1, 5, 0, []))]
def b216_41 : List kIt := [(41, .inl (.iload_n 3, 0, 0, 0)), (42, .inr (.ireturn, 3, 0, 0, []))]
def c216 : List (Nat × List kIt) := [(0, b216_0), (5, b216_5), (33, b216_33), (35, b216_35), (41, b216_41)]
-- 217: PennyALapModel.goTo
def b217_0 : List kIt := [(0, .inl (.iconst 0, 0, 0, 0)), (1, .inl (.istore_n 2, 0, 0, 0)), (2, .inr (.nop, 1, 2, 0, []))]
def b217_2 : List kIt := [(2, .inl (.iload_n 2, 0, 0, 0)), (3, .inl (.aload_n 0, 0, 0, 0)), (4, .inl (.getfield 143, 10, 1, 0)), (7, .inr (.if_icmp .ge 21, 0, 28, 0, [])), (10, .inl (.aload_n 0, 0, 0, 0)), (11, .inl (.getfield 85, 10, 37, 0)), (14, .inl (.iload_n 2, 0, 0, 0)), (15, .inl (.aload_n 0, 0, 0, 0)), (16, .inl (.iload_n 2, 0, 0, 0)), (17, .inl (.iload_n 1, 0, 0, 0)), (18, .inr (.invokevirtual 288, 4, 208, 3, [])), (21, .inr (.nop, 1, 21, 0, []))]
def b217_21 : List kIt := [(21, .inl (.iastore, 0, 0, 0)), (22, .inl (.iinc 2 1, 0, 0, 0)), (25, .inr (.goto (-23), 1, 2, 0, []))]
def b217_28 : List kIt := [(28, .inr (.return_, 3, 0, 0, []))]
def c217 : List (Nat × List kIt) := [(0, b217_0), (2, b217_2), (21, b217_21), (28, b217_28)]
-- 218: PennyALapModel.lapsAll
def b218_0 : List kIt := [(0, .inl (.iconst 0, 0, 0, 0)), (1, .inl (.istore_n 1, 0, 0, 0)), (2, .inl (.iconst 0, 0, 0, 0)), (3, .inl (.istore_n 2, 0, 0, 0)), (4, .inr (.nop, 1, 4, 0, []))]
def b218_4 : List kIt := [(4, .inl (.iload_n 2, 0, 0, 0)), (5, .inl (.aload_n 0, 0, 0, 0)), (6, .inl (.getfield 143, 10, 1, 0)), (9, .inr (.if_icmp .ge 18, 0, 27, 0, [])), (12, .inl (.iload_n 1, 0, 0, 0)), (13, .inl (.aload_n 0, 0, 0, 0)), (14, .inl (.getfield 85, 10, 37, 0)), (17, .inl (.iload_n 2, 0, 0, 0)), (18, .inl (.iaload, 0, 0, 0)), (19, .inl (.iadd, 0, 0, 0)), (20, .inl (.istore_n 1, 0, 0, 0)), (21, .inl (.iinc 2 1, 0, 0, 0)), (24, .inr (.goto (-20), 1, 4, 0, []))]
def b218_27 : List kIt := [(27, .inl (.iload_n 1, 0, 0, 0)), (28, .inr (.ireturn, 3, 0, 0, []))]
def c218 : List (Nat × List kIt) := [(0, b218_0), (4, b218_4), (27, b218_27)]
-- 219: PennyALapModel.mostLaps
def b219_0 : List kIt := [(0, .inl (.bipush (-2), 0, 0, 0)), (2, .inl (.istore_n 1, 0, 0, 0)), (3, .inl (.iconst 0, 0, 0, 0)), (4, .inl (.istore_n 2, 0, 0, 0)), (5, .inr (.nop, 1, 5, 0, []))]
def b219_5 : List kIt := [(5, .inl (.iload_n 2, 0, 0, 0)), (6, .inl (.aload_n 0, 0, 0, 0)), (7, .inl (.getfield 143, 10, 1, 0)), (10, .inr (.if_icmp .ge 39, 0, 49, 0, [])), (13, .inl (.aload_n 0, 0, 0, 0)), (14, .inl (.getfield 85, 10, 37, 0)), (17, .inl (.iload_n 2, 0, 0, 0)), (18, .inl (.iaload, 0, 0, 0)), (19, .inr (.ifCond .le 24, 0, 43, 0, [])), (22, .inl (.iload_n 1, 0, 0, 0)), (23, .inr (.ifCond .lt 18, 0, 41, 0, [])), (26, .inl (.aload_n 0, 0, 0, 0)), (27, .inl (.getfield 85, 10, 37, 0)), (30, .inl (.iload_n 2, 0, 0, 0)), (31, .inl (.iaload, 0, 0, 0)), (32, .inl (.aload_n 0, 0, 0, 0)), (33, .inl (.getfield 85, 10, 37, 0)), (36, .inl (.iload_n 1, 0, 0, 0)), (37, .inl (.iaload, 0, 0, 0)), (38, .inr (.if_icmp .le 5, 0, 43, 0, [])), (41, .inr (.nop, 1, 41, 0, []))]
def b219_41 : List kIt := [(41, .inl (.iload_n 2, 0, 0, 0)), (42, .inl (.istore_n 1, 0, 0, 0)), (43, .inr (.nop, 1, 43, 0, []))]
def b219_43 : List kIt := [(43, .inl (.iinc 2 1, 0, 0, 0)), (46, .inr (.goto (-41), 1, 5, 0, []))]
def b219_49 : List kIt := [(49, .inl (.iload_n 1, 0, 0, 0)), (50, .inr (.ireturn, 3, 0, 0, []))]
def c219 : List (Nat × List kIt) := [(0, b219_0), (5, b219_5), (41, b219_41), (43, b219_43), (49, b219_49)]
-- 220: PennyALapModel.paidAll
def b220_0 : List kIt := [(0, .inl (.iconst 0, 0, 0, 0)), (1, .inl (.istore_n 1, 0, 0, 0)), (2, .inl (.iconst 0, 0, 0, 0)), (3, .inl (.istore_n 2, 0, 0, 0)), (4, .inr (.nop, 1, 4, 0, []))]
def b220_4 : List kIt := [(4, .inl (.iload_n 2, 0, 0, 0)), (5, .inl (.aload_n 0, 0, 0, 0)), (6, .inl (.getfield 143, 10, 1, 0)), (9, .inr (.if_icmp .ge 23, 0, 32, 0, [])), (12, .inl (.iload_n 1, 0, 0, 0)), (13, .inl (.aload_n 0, 0, 0, 0)), (14, .inl (.iload_n 2, 0, 0, 0)), (15, .inl (.aload_n 0, 0, 0, 0)), (16, .inl (.getfield 85, 10, 37, 0)), (19, .inl (.iload_n 2, 0, 0, 0)), (20, .inl (.iaload, 0, 0, 0)), (21, .inr (.invokevirtual 291, 4, 216, 3, [])), (24, .inr (.nop, 1, 24, 0, []))]
def b220_24 : List kIt := [(24, .inl (.iadd, 0, 0, 0)), (25, .inl (.istore_n 1, 0, 0, 0)), (26, .inl (.iinc 2 1, 0, 0, 0)), (29, .inr (.goto (-25), 1, 4, 0, []))]
def b220_32 : List kIt := [(32, .inl (.aload_n 0, 0, 0, 0)), (33, .inr (.invokevirtual 294, 4, 219, 1, [])), (36, .inr (.nop, 1, 36, 0, []))]
def b220_36 : List kIt := [(36, .inr (.ifCond .ge 7, 0, 43, 0, [])), (39, .inl (.iload_n 1, 0, 0, 0)), (40, .inr (.goto 9, 1, 49, 0, []))]
def b220_43 : List kIt := [(43, .inl (.iload_n 1, 0, 0, 0)), (44, .inl (.aload_n 0, 0, 0, 0)), (45, .inl (.getfield 169, 10, 16, 0)), (48, .inl (.isub, 0, 0, 0)), (49, .inr (.nop, 1, 49, 0, []))]
def b220_49 : List kIt := [(49, .inr (.ireturn, 3, 0, 0, []))]
def c220 : List (Nat × List kIt) := [(0, b220_0), (4, b220_4), (24, b220_24), (32, b220_32), (36, b220_36), (43, b220_43), (49, b220_49)]
-- 221: PennyALapModel.laps
def b221_0 : List kIt := [(0, .inl (.iload_n 1, 0, 0, 0)), (1, .inl (.iconst (-1), 0, 0, 0)), (2, .inl (.aload_n 0, 0, 0, 0)), (3, .inl (.getfield 143, 10, 1, 0)), (6, .inl (.iconst 1, 0, 0, 0)), (7, .inl (.isub, 0, 0, 0)), (8, .inr (.invokestatic 146, 4, 170, 3, [])), (11, .inr (.nop, 1, 11, 0, []))]
def b221_11 : List kIt := [(11, .inr (.ifCond .eq 19, 0, 30, 0, [])), (14, .inl (.iload_n 2, 0, 0, 0)), (15, .inr (.invokestatic 297, 4, 207, 1, [])), (18, .inr (.nop, 1, 18, 0, []))]
def b221_18 : List kIt := [(18, .inr (.ifCond .eq 12, 0, 30, 0, [])), (21, .inl (.iload_n 3, 0, 0, 0)), (22, .inl (.iconst 0, 0, 0, 0)), (23, .inl (.iconst 2, 0, 0, 0)), (24, .inr (.invokestatic 146, 4, 170, 3, [])), (27, .inr (.nop, 1, 27, 0, []))]
def b221_27 : List kIt := [(27, .inr (.ifCond .ne 5, 0, 32, 0, [])), (30, .inr (.nop, 1, 30, 0, []))]
def b221_30 : List kIt := [(30, .inl (.iconst (-1), 0, 0, 0)), (31, .inr (.ireturn, 3, 0, 0, []))]
def b221_32 : List kIt := [(32, .inl (.aload_n 0, 0, 0, 0)), (33, .inl (.iload_n 2, 0, 0, 0)), (34, .inr (.invokevirtual 300, 4, 217, 2, [])), (37, .inr (.nop, 1, 37, 0, []))]
def b221_37 : List kIt := [(37, .inl (.iload_n 1, 0, 0, 0)), (38, .inr (.ifCond .lt 47, 0, 85, 0, [])), (41, .inl (.iload_n 3, 0, 0, 0)), (42, .inr (.ifCond .ne 12, 0, 54, 0, [])), (45, .inl (.aload_n 0, 0, 0, 0)), (46, .inl (.getfield 85, 10, 37, 0)), (49, .inl (.iload_n 1, 0, 0, 0)), (50, .inl (.iaload, 0, 0, 0)), (51, .inr (.goto 33, 1, 84, 0, []))]
def b221_54 : List kIt := [(54, .inl (.iload_n 3, 0, 0, 0)), (55, .inl (.iconst 1, 0, 0, 0)), (56, .inr (.if_icmp .ne 17, 0, 73, 0, [])), (59, .inl (.aload_n 0, 0, 0, 0)), (60, .inl (.iload_n 1, 0, 0, 0)), (61, .inl (.aload_n 0, 0, 0, 0)), (62, .inl (.getfield 85, 10, 37, 0)), (65, .inl (.iload_n 1, 0, 0, 0)), (66, .inl (.iaload, 0, 0, 0)), (67, .inr (.invokevirtual 304, 4, 215, 3, [])), (70, .inr (.nop, 1, 70, 0, []))]
def b221_70 : List kIt := [(70, .inr (.goto 14, 1, 84, 0, []))]
def b221_73 : List kIt := [(73, .inl (.aload_n 0, 0, 0, 0)), (74, .inl (.iload_n 1, 0, 0, 0)), (75, .inl (.aload_n 0, 0, 0, 0)), (76, .inl (.getfield 85, 10, 37, 0)), (79, .inl (.iload_n 1, 0, 0, 0)), (80, .inl (.iaload, 0, 0, 0)), (81, .inr (.invokevirtual 291, 4, 216, 3, [])), (84, .inr (.nop, 1, 84, 0, []))]
def b221_84 : List kIt := [(84, .inr (.ireturn, 3, 0, 0, []))]
def b221_85 : List kIt := [(85, .inl (.iload_n 3, 0, 0, 0)), (86, .inr (.ifCond .ne 8, 0, 94, 0, [])), (89, .inl (.aload_n 0, 0, 0, 0)), (90, .inr (.invokevirtual 307, 4, 218, 1, [])), (93, .inr (.nop, 1, 93, 0, []))]
def b221_93 : List kIt := [(93, .inr (.ireturn, 3, 0, 0, []))]
def b221_94 : List kIt := [(94, .inl (.iload_n 3, 0, 0, 0)), (95, .inl (.iconst 2, 0, 0, 0)), (96, .inr (.if_icmp .ne 8, 0, 104, 0, [])), (99, .inl (.aload_n 0, 0, 0, 0)), (100, .inr (.invokevirtual 310, 4, 220, 1, [])), (103, .inr (.nop, 1, 103, 0, []))]
def b221_103 : List kIt := [(103, .inr (.ireturn, 3, 0, 0, []))]
def b221_104 : List kIt := [(104, .inl (.iconst 0, 0, 0, 0)), (105, .inl (.istore 4, 0, 0, 0)), (107, .inl (.iconst 0, 0, 0, 0)), (108, .inl (.istore 5, 0, 0, 0)), (110, .inr (.nop, 1, 110, 0, []))]
def b221_110 : List kIt := [(110, .inl (.iload 5, 0, 0, 0)), (112, .inl (.aload_n 0, 0, 0, 0)), (113, .inl (.getfield 143, 10, 1, 0)), (116, .inr (.if_icmp .ge 27, 0, 143, 0, [])), (119, .inl (.iload 4, 0, 0, 0)), (121, .inl (.aload_n 0, 0, 0, 0)), (122, .inl (.iload 5, 0, 0, 0)), (124, .inl (.aload_n 0, 0, 0, 0)), (125, .inl (.getfield 85, 10, 37, 0)), (128, .inl (.iload 5, 0, 0, 0)), (130, .inl (.iaload, 0, 0, 0)), (131, .inr (.invokevirtual 304, 4, 215, 3, [])), (134, .inr (.nop, 1, 134, 0, []))]
def b221_134 : List kIt := [(134, .inl (.iadd, 0, 0, 0)), (135, .inl (.istore 4, 0, 0, 0)), (137, .inl (.iinc 5 1, 0, 0, 0)), (140, .inr (.goto (-30), 1, 110, 0, []))]
def b221_143 : List kIt := [(143, .inl (.iload 4, 0, 0, 0)), (145, .inr (.ireturn, 3, 0, 0, []))]
def c221 : List (Nat × List kIt) := [(0, b221_0), (11, b221_11), (18, b221_18), (27, b221_27), (30, b221_30), (32, b221_32), (37, b221_37), (54, b221_54), (70, b221_70), (73, b221_73), (84, b221_84), (85, b221_85), (93, b221_93), (94, b221_94), (103, b221_103), (104, b221_104), (110, b221_110), (134, b221_134), (143, b221_143)]
-- 222: PennyALapModel.surprised
def b222_0 : List kIt := [(0, .inl (.iconst 0, 0, 0, 0)), (1, .inl (.istore_n 1, 0, 0, 0)), (2, .inl (.iconst 0, 0, 0, 0)), (3, .inl (.istore_n 2, 0, 0, 0)), (4, .inr (.nop, 1, 4, 0, []))]
def b222_4 : List kIt := [(4, .inl (.iload_n 2, 0, 0, 0)), (5, .inl (.aload_n 0, 0, 0, 0)), (6, .inl (.getfield 150, 10, 6, 0)), (9, .inr (.if_icmp .ge 40, 0, 49, 0, [])), (12, .inl (.aload_n 0, 0, 0, 0)), (13, .inl (.iload_n 2, 0, 0, 0)), (14, .inl (.aload_n 0, 0, 0, 0)), (15, .inl (.getfield 85, 10, 37, 0)), (18, .inl (.aload_n 0, 0, 0, 0)), (19, .inl (.getfield 22, 10, 7, 0)), (22, .inl (.iload_n 2, 0, 0, 0)), (23, .inl (.iaload, 0, 0, 0)), (24, .inl (.iaload, 0, 0, 0)), (25, .inr (.invokevirtual 282, 4, 212, 3, [])), (28, .inr (.nop, 1, 28, 0, []))]
def b222_28 : List kIt := [(28, .inl (.aload_n 0, 0, 0, 0)), (29, .inl (.getfield 37, 10, 12, 0)), (32, .inl (.iload_n 2, 0, 0, 0)), (33, .inl (.iaload, 0, 0, 0)), (34, .inr (.if_icmp .le 9, 0, 43, 0, [])), (37, .inl (.iload_n 1, 0, 0, 0)), (38, .inl (.iconst 1, 0, 0, 0)), (39, .inl (.iload_n 2, 0, 0, 0)), (40, .inl (.ishl, 0, 0, 0)), (41, .inl (.ior, 0, 0, 0)), (42, .inl (.istore_n 1, 0, 0, 0)), (43, .inr (.nop, 1, 43, 0, []))]
def b222_43 : List kIt := [(43, .inl (.iinc 2 1, 0, 0, 0)), (46, .inr (.goto (-42), 1, 4, 0, []))]
def b222_49 : List kIt := [(49, .inl (.iload_n 1, 0, 0, 0)), (50, .inr (.ireturn, 3, 0, 0, []))]
def c222 : List (Nat × List kIt) := [(0, b222_0), (4, b222_4), (28, b222_28), (43, b222_43), (49, b222_49)]
-- 223: PennyALapModel.mostPence
def b223_0 : List kIt := [(0, .inl (.bipush (-2), 0, 0, 0)), (2, .inl (.istore_n 1, 0, 0, 0)), (3, .inl (.iconst 0, 0, 0, 0)), (4, .inl (.istore_n 2, 0, 0, 0)), (5, .inr (.nop, 1, 5, 0, []))]
def b223_5 : List kIt := [(5, .inl (.iload_n 2, 0, 0, 0)), (6, .inl (.aload_n 0, 0, 0, 0)), (7, .inl (.getfield 143, 10, 1, 0)), (10, .inr (.if_icmp .ge 40, 0, 50, 0, [])), (13, .inl (.iload_n 1, 0, 0, 0)), (14, .inr (.ifCond .lt 28, 0, 42, 0, [])), (17, .inl (.aload_n 0, 0, 0, 0)), (18, .inl (.iload_n 2, 0, 0, 0)), (19, .inl (.aload_n 0, 0, 0, 0)), (20, .inl (.getfield 85, 10, 37, 0)), (23, .inl (.iload_n 2, 0, 0, 0)), (24, .inl (.iaload, 0, 0, 0)), (25, .inr (.invokevirtual 291, 4, 216, 3, [])), (28, .inr (.nop, 1, 28, 0, []))]
def b223_28 : List kIt := [(28, .inl (.aload_n 0, 0, 0, 0)), (29, .inl (.iload_n 1, 0, 0, 0)), (30, .inl (.aload_n 0, 0, 0, 0)), (31, .inl (.getfield 85, 10, 37, 0)), (34, .inl (.iload_n 1, 0, 0, 0)), (35, .inl (.iaload, 0, 0, 0)), (36, .inr (.invokevirtual 291, 4, 216, 3, [])), (39, .inr (.nop, 1, 39, 0, []))]
def b223_39 : List kIt := [(39, .inr (.if_icmp .le 5, 0, 44, 0, [])), (42, .inr (.nop, 1, 42, 0, []))]
def b223_42 : List kIt := [(42, .inl (.iload_n 2, 0, 0, 0)), (43, .inl (.istore_n 1, 0, 0, 0)), (44, .inr (.nop, 1, 44, 0, []))]
def b223_44 : List kIt := [(44, .inl (.iinc 2 1, 0, 0, 0)), (47, .inr (.goto (-42), 1, 5, 0, []))]
def b223_50 : List kIt := [(50, .inl (.iload_n 1, 0, 0, 0)), (51, .inr (.ireturn, 3, 0, 0, []))]
def c223 : List (Nat × List kIt) := [(0, b223_0), (5, b223_5), (28, b223_28), (39, b223_39), (42, b223_42), (44, b223_44), (50, b223_50)]
-- 224: PennyALapModel.most
def b224_0 : List kIt := [(0, .inl (.iload_n 1, 0, 0, 0)), (1, .inr (.invokestatic 297, 4, 207, 1, [])), (4, .inr (.nop, 1, 4, 0, []))]
def b224_4 : List kIt := [(4, .inr (.ifCond .eq 12, 0, 16, 0, [])), (7, .inl (.iload_n 2, 0, 0, 0)), (8, .inl (.iconst 0, 0, 0, 0)), (9, .inl (.iconst 2, 0, 0, 0)), (10, .inr (.invokestatic 146, 4, 170, 3, [])), (13, .inr (.nop, 1, 13, 0, []))]
def b224_13 : List kIt := [(13, .inr (.ifCond .ne 5, 0, 18, 0, [])), (16, .inr (.nop, 1, 16, 0, []))]
def b224_16 : List kIt := [(16, .inl (.iconst (-1), 0, 0, 0)), (17, .inr (.ireturn, 3, 0, 0, []))]
def b224_18 : List kIt := [(18, .inl (.aload_n 0, 0, 0, 0)), (19, .inl (.iload_n 1, 0, 0, 0)), (20, .inr (.invokevirtual 300, 4, 217, 2, [])), (23, .inr (.nop, 1, 23, 0, []))]
def b224_23 : List kIt := [(23, .inl (.iload_n 2, 0, 0, 0)), (24, .inr (.ifCond .ne 10, 0, 34, 0, [])), (27, .inl (.aload_n 0, 0, 0, 0)), (28, .inr (.invokevirtual 313, 4, 222, 1, [])), (31, .inr (.nop, 1, 31, 0, []))]
def b224_31 : List kIt := [(31, .inr (.goto 19, 1, 50, 0, []))]
def b224_34 : List kIt := [(34, .inl (.iload_n 2, 0, 0, 0)), (35, .inl (.iconst 1, 0, 0, 0)), (36, .inr (.if_icmp .ne 10, 0, 46, 0, [])), (39, .inl (.aload_n 0, 0, 0, 0)), (40, .inr (.invokevirtual 294, 4, 219, 1, [])), (43, .inr (.nop, 1, 43, 0, []))]
def b224_43 : List kIt := [(43, .inr (.goto 7, 1, 50, 0, []))]
def b224_46 : List kIt := [(46, .inl (.aload_n 0, 0, 0, 0)), (47, .inr (.invokevirtual 316, 4, 223, 1, [])), (50, .inr (.nop, 1, 50, 0, []))]
def b224_50 : List kIt := [(50, .inr (.ireturn, 3, 0, 0, []))]
def c224 : List (Nat × List kIt) := [(0, b224_0), (4, b224_4), (13, b224_13), (16, b224_16), (18, b224_18), (23, b224_23), (31, b224_31), (34, b224_34), (43, b224_43), (46, b224_46), (50, b224_50)]
-- 225: PennyALapModel.moreBy
def b225_0 : List kIt := [(0, .inl (.aload_n 0, 0, 0, 0)), (1, .inl (.iload_n 1, 0, 0, 0)), (2, .inl (.iload_n 2, 0, 0, 0)), (3, .inl (.iconst 1, 0, 0, 0)), (4, .inl (.iadd, 0, 0, 0)), (5, .inr (.invokevirtual 291, 4, 216, 3, [])), (8, .inr (.nop, 1, 8, 0, []))]
def b225_8 : List kIt := [(8, .inl (.aload_n 0, 0, 0, 0)), (9, .inl (.iload_n 1, 0, 0, 0)), (10, .inl (.iload_n 2, 0, 0, 0)), (11, .inr (.invokevirtual 291, 4, 216, 3, [])), (14, .inr (.nop, 1, 14, 0, []))]
def b225_14 : List kIt := [(14, .inl (.isub, 0, 0, 0)), (15, .inr (.ireturn, 3, 0, 0, []))]
def c225 : List (Nat × List kIt) := [(0, b225_0), (8, b225_8), (14, b225_14)]
-- 226: PennyALapModel.more
def b226_0 : List kIt := [(0, .inl (.aload_n 0, 0, 0, 0)), (1, .inl (.iload_n 1, 0, 0, 0)), (2, .inr (.invokevirtual 153, 4, 171, 2, [])), (5, .inr (.nop, 1, 5, 0, []))]
def b226_5 : List kIt := [(5, .inr (.ifCond .eq 22, 0, 27, 0, [])), (8, .inl (.iload_n 2, 0, 0, 0)), (9, .inl (.iconst 0, 0, 0, 0)), (10, .inl (.bipush 98, 0, 0, 0)), (12, .inr (.invokestatic 146, 4, 170, 3, [])), (15, .inr (.nop, 1, 15, 0, []))]
def b226_15 : List kIt := [(15, .inr (.ifCond .eq 12, 0, 27, 0, [])), (18, .inl (.aload_n 0, 0, 0, 0)), (19, .inl (.iload_n 1, 0, 0, 0)), (20, .inl (.iload_n 2, 0, 0, 0)), (21, .inr (.invokevirtual 319, 4, 225, 3, [])), (24, .inr (.nop, 1, 24, 0, []))]
def b226_24 : List kIt := [(24, .inr (.goto 4, 1, 28, 0, []))]
def b226_27 : List kIt := [(27, .inl (.iconst (-1), 0, 0, 0)), (28, .inr (.nop, 1, 28, 0, []))]
def b226_28 : List kIt := [(28, .inr (.ireturn, 3, 0, 0, []))]
def c226 : List (Nat × List kIt) := [(0, b226_0), (5, b226_5), (15, b226_15), (24, b226_24), (27, b226_27), (28, b226_28)]
-- 227: PennyALapModel.done
def b227_0 : List kIt := [(0, .inl (.aload_n 0, 0, 0, 0)), (1, .inl (.iload_n 1, 0, 0, 0)), (2, .inr (.invokevirtual 153, 4, 171, 2, [])), (5, .inr (.nop, 1, 5, 0, []))]
def b227_5 : List kIt := [(5, .inr (.ifCond .ne 5, 0, 10, 0, [])), (8, .inl (.iconst (-1), 0, 0, 0)), (9, .inr (.ireturn, 3, 0, 0, []))]
def b227_10 : List kIt := [(10, .inl (.bipush 99, 0, 0, 0)), (12, .inl (.istore_n 2, 0, 0, 0)), (13, .inr (.nop, 1, 13, 0, []))]
def b227_13 : List kIt := [(13, .inl (.iload_n 2, 0, 0, 0)), (14, .inr (.ifCond .le 20, 0, 34, 0, [])), (17, .inl (.aload_n 0, 0, 0, 0)), (18, .inl (.iload_n 1, 0, 0, 0)), (19, .inl (.iload_n 2, 0, 0, 0)), (20, .inl (.iconst 1, 0, 0, 0)), (21, .inl (.isub, 0, 0, 0)), (22, .inr (.invokevirtual 319, 4, 225, 3, [])), (25, .inr (.nop, 1, 25, 0, []))]
def b227_25 : List kIt := [(25, .inr (.ifCond .ne 9, 0, 34, 0, [])), (28, .inl (.iinc 2 (-1), 0, 0, 0)), (31, .inr (.goto (-18), 1, 13, 0, []))]
def b227_34 : List kIt := [(34, .inl (.iload_n 2, 0, 0, 0)), (35, .inr (.ireturn, 3, 0, 0, []))]
def c227 : List (Nat × List kIt) := [(0, b227_0), (5, b227_5), (10, b227_10), (13, b227_13), (25, b227_25), (34, b227_34)]
-- 228: PennyALapModel.lapOrSum
def b228_0 : List kIt := [(0, .inl (.aload_n 0, 0, 0, 0)), (1, .inl (.iload_n 1, 0, 0, 0)), (2, .inr (.invokevirtual 186, 4, 172, 2, [])), (5, .inr (.nop, 1, 5, 0, []))]
def b228_5 : List kIt := [(5, .inr (.ifCond .eq 14, 0, 19, 0, [])), (8, .inl (.iload_n 2, 0, 0, 0)), (9, .inl (.iconst 0, 0, 0, 0)), (10, .inl (.sipush 9999, 0, 0, 0)), (13, .inr (.invokestatic 146, 4, 170, 3, [])), (16, .inr (.nop, 1, 16, 0, []))]
def b228_16 : List kIt := [(16, .inr (.ifCond .ne 5, 0, 21, 0, [])), (19, .inr (.nop, 1, 19, 0, []))]
def b228_19 : List kIt := [(19, .inl (.iconst (-1), 0, 0, 0)), (20, .inr (.ireturn, 3, 0, 0, []))]
def b228_21 : List kIt := [(21, .inl (.iconst 0, 0, 0, 0)), (22, .inl (.istore_n 3, 0, 0, 0)), (23, .inr (.nop, 1, 23, 0, []))]
def b228_23 : List kIt := [(23, .inl (.iload_n 3, 0, 0, 0)), (24, .inl (.bipush 99, 0, 0, 0)), (26, .inr (.if_icmp .gt 21, 0, 47, 0, [])), (29, .inl (.aload_n 0, 0, 0, 0)), (30, .inl (.iload_n 1, 0, 0, 0)), (31, .inl (.iload_n 3, 0, 0, 0)), (32, .inr (.invokevirtual 282, 4, 212, 3, [])), (35, .inr (.nop, 1, 35, 0, []))]
def b228_35 : List kIt := [(35, .inl (.iload_n 2, 0, 0, 0)), (36, .inr (.if_icmp .lt 5, 0, 41, 0, [])), (39, .inl (.iload_n 3, 0, 0, 0)), (40, .inr (.ireturn, 3, 0, 0, []))]
def b228_41 : List kIt := [(41, .inl (.iinc 3 1, 0, 0, 0)), (44, .inr (.goto (-21), 1, 23, 0, []))]
def b228_47 : List kIt := [(47, .inl (.bipush (-2), 0, 0, 0)), (49, .inr (.ireturn, 3, 0, 0, []))]
def c228 : List (Nat × List kIt) := [(0, b228_0), (5, b228_5), (16, b228_16), (19, b228_19), (21, b228_21), (23, b228_23), (35, b228_35), (41, b228_41), (47, b228_47)]
-- 229: PennyALapModel.top
def b229_0 : List kIt := [(0, .inl (.aload_n 0, 0, 0, 0)), (1, .inl (.iload_n 1, 0, 0, 0)), (2, .inr (.invokevirtual 186, 4, 172, 2, [])), (5, .inr (.nop, 1, 5, 0, []))]
def b229_5 : List kIt := [(5, .inr (.ifCond .ne 5, 0, 10, 0, [])), (8, .inl (.iconst (-1), 0, 0, 0)), (9, .inr (.ireturn, 3, 0, 0, []))]
def b229_10 : List kIt := [(10, .inl (.iconst 0, 0, 0, 0)), (11, .inl (.istore_n 2, 0, 0, 0)), (12, .inl (.iconst 0, 0, 0, 0)), (13, .inl (.istore_n 3, 0, 0, 0)), (14, .inr (.nop, 1, 14, 0, []))]
def b229_14 : List kIt := [(14, .inl (.iload_n 3, 0, 0, 0)), (15, .inl (.bipush 99, 0, 0, 0)), (17, .inr (.if_icmp .gt 26, 0, 43, 0, [])), (20, .inl (.aload_n 0, 0, 0, 0)), (21, .inl (.iload_n 1, 0, 0, 0)), (22, .inl (.iload_n 3, 0, 0, 0)), (23, .inr (.invokevirtual 279, 4, 211, 3, [])), (26, .inr (.nop, 1, 26, 0, []))]
def b229_26 : List kIt := [(26, .inl (.iload_n 2, 0, 0, 0)), (27, .inr (.if_icmp .le 10, 0, 37, 0, [])), (30, .inl (.aload_n 0, 0, 0, 0)), (31, .inl (.iload_n 1, 0, 0, 0)), (32, .inl (.iload_n 3, 0, 0, 0)), (33, .inr (.invokevirtual 279, 4, 211, 3, [])), (36, .inr (.nop, 1, 36, 0, []))]
def b229_36 : List kIt := [(36, .inl (.istore_n 2, 0, 0, 0)), (37, .inr (.nop, 1, 37, 0, []))]
def b229_37 : List kIt := [(37, .inl (.iinc 3 1, 0, 0, 0)), (40, .inr (.goto (-26), 1, 14, 0, []))]
def b229_43 : List kIt := [(43, .inl (.iload_n 2, 0, 0, 0)), (44, .inl (.aload_n 0, 0, 0, 0)), (45, .inl (.getfield 37, 10, 12, 0)), (48, .inl (.iload_n 1, 0, 0, 0)), (49, .inl (.iaload, 0, 0, 0)), (50, .inr (.if_icmp .gt 5, 0, 55, 0, [])), (53, .inl (.iconst 0, 0, 0, 0)), (54, .inr (.ireturn, 3, 0, 0, []))]
def b229_55 : List kIt := [(55, .inl (.aload_n 0, 0, 0, 0)), (56, .inl (.getfield 37, 10, 12, 0)), (59, .inl (.iload_n 1, 0, 0, 0)), (60, .inl (.iaload, 0, 0, 0)), (61, .inl (.iconst 1, 0, 0, 0)), (62, .inr (.if_icmp .ge 7, 0, 69, 0, [])), (65, .inl (.iconst 1, 0, 0, 0)), (66, .inr (.goto 9, 1, 75, 0, []))]
def b229_69 : List kIt := [(69, .inl (.aload_n 0, 0, 0, 0)), (70, .inl (.getfield 37, 10, 12, 0)), (73, .inl (.iload_n 1, 0, 0, 0)), (74, .inl (.iaload, 0, 0, 0)), (75, .inr (.nop, 1, 75, 0, []))]
def b229_75 : List kIt := [(75, .inr (.ireturn, 3, 0, 0, []))]
def c229 : List (Nat × List kIt) := [(0, b229_0), (5, b229_5), (10, b229_10), (14, b229_14), (26, b229_26), (36, b229_36), (37, b229_37), (43, b229_43), (55, b229_55), (69, b229_69), (75, b229_75)]
-- 230: PennyALapModel.howLong
def b230_0 : List kIt := [(0, .inl (.iload_n 1, 0, 0, 0)), (1, .inl (.iconst 0, 0, 0, 0)), (2, .inl (.ldc_w 322, 0, 0, 99999)), (5, .inr (.invokestatic 146, 4, 170, 3, [])), (8, .inr (.nop, 1, 8, 0, []))]
def b230_8 : List kIt := [(8, .inr (.ifCond .ne 5, 0, 13, 0, [])), (11, .inl (.iconst (-1), 0, 0, 0)), (12, .inr (.ireturn, 3, 0, 0, []))]
def b230_13 : List kIt := [(13, .inl (.iconst 0, 0, 0, 0)), (14, .inl (.istore_n 2, 0, 0, 0)), (15, .inr (.nop, 1, 15, 0, []))]
def b230_15 : List kIt := [(15, .inl (.iload_n 2, 0, 0, 0)), (16, .inl (.sipush 999, 0, 0, 0)), (19, .inr (.if_icmp .gt 24, 0, 43, 0, [])), (22, .inl (.aload_n 0, 0, 0, 0)), (23, .inl (.iload_n 2, 0, 0, 0)), (24, .inr (.invokevirtual 300, 4, 217, 2, [])), (27, .inr (.nop, 1, 27, 0, []))]
def b230_27 : List kIt := [(27, .inl (.aload_n 0, 0, 0, 0)), (28, .inr (.invokevirtual 310, 4, 220, 1, [])), (31, .inr (.nop, 1, 31, 0, []))]
def b230_31 : List kIt := [(31, .inl (.iload_n 1, 0, 0, 0)), (32, .inr (.if_icmp .lt 5, 0, 37, 0, [])), (35, .inl (.iload_n 2, 0, 0, 0)), (36, .inr (.ireturn, 3, 0, 0, []))]
def b230_37 : List kIt := [(37, .inl (.iinc 2 1, 0, 0, 0)), (40, .inr (.goto (-25), 1, 15, 0, []))]
def b230_43 : List kIt := [(43, .inl (.bipush (-2), 0, 0, 0)), (45, .inr (.ireturn, 3, 0, 0, []))]
def c230 : List (Nat × List kIt) := [(0, b230_0), (8, b230_8), (13, b230_13), (15, b230_15), (27, b230_27), (31, b230_31), (37, b230_37), (43, b230_43)]
-- 231: PennyALapModel.partFrom
def b231_0 : List kIt := [(0, .inl (.iconst 0, 0, 0, 0)), (1, .inl (.istore_n 2, 0, 0, 0)), (2, .inr (.nop, 1, 2, 0, []))]
def b231_2 : List kIt := [(2, .inl (.iload_n 2, 0, 0, 0)), (3, .inl (.sipush 300, 0, 0, 0)), (6, .inr (.if_icmp .gt 176, 0, 182, 0, [])), (9, .inl (.iconst (-1), 0, 0, 0)), (10, .inl (.istore_n 3, 0, 0, 0)), (11, .inl (.iconst 0, 0, 0, 0)), (12, .inl (.istore 4, 0, 0, 0)), (14, .inl (.iconst 0, 0, 0, 0)), (15, .inl (.istore 5, 0, 0, 0)), (17, .inr (.nop, 1, 17, 0, []))]
def b231_17 : List kIt := [(17, .inl (.iload 5, 0, 0, 0)), (19, .inl (.aload_n 0, 0, 0, 0)), (20, .inl (.getfield 16, 10, 4, 0)), (23, .inl (.iload_n 1, 0, 0, 0)), (24, .inl (.iaload, 0, 0, 0)), (25, .inr (.if_icmp .gt 151, 0, 176, 0, [])), (28, .inl (.iload 4, 0, 0, 0)), (30, .inl (.iload_n 2, 0, 0, 0)), (31, .inr (.if_icmp .gt 145, 0, 176, 0, [])), (34, .inl (.sipush 301, 0, 0, 0)), (37, .inl (.iload_n 1, 0, 0, 0)), (38, .inl (.iconst 1, 0, 0, 0)), (39, .inl (.iadd, 0, 0, 0)), (40, .inl (.imul, 0, 0, 0)), (41, .inl (.iload_n 2, 0, 0, 0)), (42, .inl (.iadd, 0, 0, 0)), (43, .inl (.iload 4, 0, 0, 0)), (45, .inl (.isub, 0, 0, 0)), (46, .inl (.istore 6, 0, 0, 0)), (48, .inl (.aload_n 0, 0, 0, 0)), (49, .inl (.iload_n 1, 0, 0, 0)), (50, .inl (.iload 5, 0, 0, 0)), (52, .inr (.invokevirtual 291, 4, 216, 3, [])), (55, .inr (.nop, 1, 55, 0, []))]
def b231_55 : List kIt := [(55, .inl (.aload_n 0, 0, 0, 0)), (56, .inl (.getfield 88, 10, 38, 0)), (59, .inl (.iload 6, 0, 0, 0)), (61, .inl (.iaload, 0, 0, 0)), (62, .inl (.iadd, 0, 0, 0)), (63, .inl (.istore 7, 0, 0, 0)), (65, .inl (.iload 4, 0, 0, 0)), (67, .inl (.aload_n 0, 0, 0, 0)), (68, .inl (.getfield 91, 10, 39, 0)), (71, .inl (.iload 6, 0, 0, 0)), (73, .inl (.iaload, 0, 0, 0)), (74, .inl (.iadd, 0, 0, 0)), (75, .inl (.istore 8, 0, 0, 0)), (77, .inl (.sipush 301, 0, 0, 0)), (80, .inl (.iload_n 1, 0, 0, 0)), (81, .inl (.imul, 0, 0, 0)), (82, .inl (.iload_n 2, 0, 0, 0)), (83, .inl (.iadd, 0, 0, 0)), (84, .inl (.istore 9, 0, 0, 0)), (86, .inl (.iload_n 3, 0, 0, 0)), (87, .inr (.ifCond .lt 39, 0, 126, 0, [])), (90, .inl (.iload 7, 0, 0, 0)), (92, .inl (.aload_n 0, 0, 0, 0)), (93, .inl (.getfield 88, 10, 38, 0)), (96, .inl (.iload 9, 0, 0, 0)), (98, .inl (.iaload, 0, 0, 0)), (99, .inr (.if_icmp .gt 27, 0, 126, 0, [])), (102, .inl (.iload 7, 0, 0, 0)), (104, .inl (.aload_n 0, 0, 0, 0)), (105, .inl (.getfield 88, 10, 38, 0)), (108, .inl (.iload 9, 0, 0, 0)), (110, .inl (.iaload, 0, 0, 0)), (111, .inr (.if_icmp .ne 45, 0, 156, 0, [])), (114, .inl (.iload 8, 0, 0, 0)), (116, .inl (.aload_n 0, 0, 0, 0)), (117, .inl (.getfield 91, 10, 39, 0)), (120, .inl (.iload 9, 0, 0, 0)), (122, .inl (.iaload, 0, 0, 0)), (123, .inr (.if_icmp .ge 33, 0, 156, 0, [])), (126, .inr (.nop, 1, 126, 0, []))]
def b231_126 : List kIt := [(126, .inl (.iload 5, 0, 0, 0)), (128, .inl (.istore_n 3, 0, 0, 0)), (129, .inl (.aload_n 0, 0, 0, 0)), (130, .inl (.getfield 88, 10, 38, 0)), (133, .inl (.iload 9, 0, 0, 0)), (135, .inl (.iload 7, 0, 0, 0)), (137, .inl (.iastore, 0, 0, 0)), (138, .inl (.aload_n 0, 0, 0, 0)), (139, .inl (.getfield 91, 10, 39, 0)), (142, .inl (.iload 9, 0, 0, 0)), (144, .inl (.iload 8, 0, 0, 0)), (146, .inl (.iastore, 0, 0, 0)), (147, .inl (.aload_n 0, 0, 0, 0)), (148, .inl (.getfield 94, 10, 40, 0)), (151, .inl (.iload 9, 0, 0, 0)), (153, .inl (.iload 5, 0, 0, 0)), (155, .inl (.iastore, 0, 0, 0)), (156, .inr (.nop, 1, 156, 0, []))]
def b231_156 : List kIt := [(156, .inl (.iload 4, 0, 0, 0)), (158, .inl (.aload_n 0, 0, 0, 0)), (159, .inl (.iload_n 1, 0, 0, 0)), (160, .inl (.iload 5, 0, 0, 0)), (162, .inl (.iload 4, 0, 0, 0)), (164, .inr (.invokevirtual 273, 4, 205, 4, [])), (167, .inr (.nop, 1, 167, 0, []))]
def b231_167 : List kIt := [(167, .inl (.iadd, 0, 0, 0)), (168, .inl (.istore 4, 0, 0, 0)), (170, .inl (.iinc 5 1, 0, 0, 0)), (173, .inr (.goto (-156), 1, 17, 0, []))]
def b231_176 : List kIt := [(176, .inl (.iinc 2 1, 0, 0, 0)), (179, .inr (.goto (-177), 1, 2, 0, []))]
def b231_182 : List kIt := [(182, .inr (.return_, 3, 0, 0, []))]
def c231 : List (Nat × List kIt) := [(0, b231_0), (2, b231_2), (17, b231_17), (55, b231_55), (126, b231_126), (156, b231_156), (167, b231_167), (176, b231_176), (182, b231_182)]
-- 232: PennyALapModel.field
def b232_0 : List kIt := [(0, .inl (.iload_n 1, 0, 0, 0)), (1, .inl (.iconst 0, 0, 0, 0)), (2, .inl (.sipush 300, 0, 0, 0)), (5, .inr (.invokestatic 146, 4, 170, 3, [])), (8, .inr (.nop, 1, 8, 0, []))]
def b232_8 : List kIt := [(8, .inr (.ifCond .eq 18, 0, 26, 0, [])), (11, .inl (.iload_n 2, 0, 0, 0)), (12, .inl (.bipush (-2), 0, 0, 0)), (14, .inl (.aload_n 0, 0, 0, 0)), (15, .inl (.getfield 143, 10, 1, 0)), (18, .inl (.iconst 1, 0, 0, 0)), (19, .inl (.isub, 0, 0, 0)), (20, .inr (.invokestatic 146, 4, 170, 3, [])), (23, .inr (.nop, 1, 23, 0, []))]
def b232_23 : List kIt := [(23, .inr (.ifCond .ne 5, 0, 28, 0, [])), (26, .inr (.nop, 1, 26, 0, []))]
def b232_26 : List kIt := [(26, .inl (.iconst (-1), 0, 0, 0)), (27, .inr (.ireturn, 3, 0, 0, []))]
def b232_28 : List kIt := [(28, .inl (.iconst 0, 0, 0, 0)), (29, .inl (.istore_n 3, 0, 0, 0)), (30, .inr (.nop, 1, 30, 0, []))]
def b232_30 : List kIt := [(30, .inl (.iload_n 3, 0, 0, 0)), (31, .inl (.sipush 300, 0, 0, 0)), (34, .inr (.if_icmp .gt 41, 0, 75, 0, [])), (37, .inl (.aload_n 0, 0, 0, 0)), (38, .inl (.getfield 88, 10, 38, 0)), (41, .inl (.sipush 301, 0, 0, 0)), (44, .inl (.aload_n 0, 0, 0, 0)), (45, .inl (.getfield 143, 10, 1, 0)), (48, .inl (.imul, 0, 0, 0)), (49, .inl (.iload_n 3, 0, 0, 0)), (50, .inl (.iadd, 0, 0, 0)), (51, .inl (.iconst 0, 0, 0, 0)), (52, .inl (.iastore, 0, 0, 0)), (53, .inl (.aload_n 0, 0, 0, 0)), (54, .inl (.getfield 91, 10, 39, 0)), (57, .inl (.sipush 301, 0, 0, 0)), (60, .inl (.aload_n 0, 0, 0, 0)), (61, .inl (.getfield 143, 10, 1, 0)), (64, .inl (.imul, 0, 0, 0)), (65, .inl (.iload_n 3, 0, 0, 0)), (66, .inl (.iadd, 0, 0, 0)), (67, .inl (.iconst 0, 0, 0, 0)), (68, .inl (.iastore, 0, 0, 0)), (69, .inl (.iinc 3 1, 0, 0, 0)), (72, .inr (.goto (-42), 1, 30, 0, []))]
def b232_75 : List kIt := [(75, .inl (.aload_n 0, 0, 0, 0)), (76, .inl (.getfield 143, 10, 1, 0)), (79, .inl (.iconst 1, 0, 0, 0)), (80, .inl (.isub, 0, 0, 0)), (81, .inl (.istore_n 3, 0, 0, 0)), (82, .inr (.nop, 1, 82, 0, []))]
def b232_82 : List kIt := [(82, .inl (.iload_n 3, 0, 0, 0)), (83, .inr (.ifCond .lt 14, 0, 97, 0, [])), (86, .inl (.aload_n 0, 0, 0, 0)), (87, .inl (.iload_n 3, 0, 0, 0)), (88, .inr (.invokevirtual 323, 4, 231, 2, [])), (91, .inr (.nop, 1, 91, 0, []))]
def b232_91 : List kIt := [(91, .inl (.iinc 3 (-1), 0, 0, 0)), (94, .inr (.goto (-12), 1, 82, 0, []))]
def b232_97 : List kIt := [(97, .inl (.iload_n 2, 0, 0, 0)), (98, .inl (.iconst (-1), 0, 0, 0)), (99, .inr (.if_icmp .ne 10, 0, 109, 0, [])), (102, .inl (.aload_n 0, 0, 0, 0)), (103, .inl (.getfield 88, 10, 38, 0)), (106, .inl (.iload_n 1, 0, 0, 0)), (107, .inl (.iaload, 0, 0, 0)), (108, .inr (.ireturn, 3, 0, 0, []))]
def b232_109 : List kIt := [(109, .inl (.iload_n 2, 0, 0, 0)), (110, .inl (.bipush (-2), 0, 0, 0)), (112, .inr (.if_icmp .ne 10, 0, 122, 0, [])), (115, .inl (.aload_n 0, 0, 0, 0)), (116, .inl (.getfield 91, 10, 39, 0)), (119, .inl (.iload_n 1, 0, 0, 0)), (120, .inl (.iaload, 0, 0, 0)), (121, .inr (.ireturn, 3, 0, 0, []))]
def b232_122 : List kIt := [(122, .inl (.iload_n 1, 0, 0, 0)), (123, .inl (.istore_n 3, 0, 0, 0)), (124, .inl (.iconst 0, 0, 0, 0)), (125, .inl (.istore 4, 0, 0, 0)), (127, .inr (.nop, 1, 127, 0, []))]
def b232_127 : List kIt := [(127, .inl (.iload 4, 0, 0, 0)), (129, .inl (.iload_n 2, 0, 0, 0)), (130, .inr (.if_icmp .ge 31, 0, 161, 0, [])), (133, .inl (.iload_n 3, 0, 0, 0)), (134, .inl (.aload_n 0, 0, 0, 0)), (135, .inl (.iload 4, 0, 0, 0)), (137, .inl (.aload_n 0, 0, 0, 0)), (138, .inl (.getfield 94, 10, 40, 0)), (141, .inl (.sipush 301, 0, 0, 0)), (144, .inl (.iload 4, 0, 0, 0)), (146, .inl (.imul, 0, 0, 0)), (147, .inl (.iload_n 3, 0, 0, 0)), (148, .inl (.iadd, 0, 0, 0)), (149, .inl (.iaload, 0, 0, 0)), (150, .inr (.invokevirtual 276, 4, 209, 3, [])), (153, .inr (.nop, 1, 153, 0, []))]
def b232_153 : List kIt := [(153, .inl (.isub, 0, 0, 0)), (154, .inl (.istore_n 3, 0, 0, 0)), (155, .inl (.iinc 4 1, 0, 0, 0)), (158, .inr (.goto (-31), 1, 127, 0, []))]
def b232_161 : List kIt := [(161, .inl (.aload_n 0, 0, 0, 0)), (162, .inl (.getfield 94, 10, 40, 0)), (165, .inl (.sipush 301, 0, 0, 0)), (168, .inl (.iload_n 2, 0, 0, 0)), (169, .inl (.imul, 0, 0, 0)), (170, .inl (.iload_n 3, 0, 0, 0)), (171, .inl (.iadd, 0, 0, 0)), (172, .inl (.iaload, 0, 0, 0)), (173, .inr (.ireturn, 3, 0, 0, []))]
def c232 : List (Nat × List kIt) := [(0, b232_0), (8, b232_8), (23, b232_23), (26, b232_26), (28, b232_28), (30, b232_30), (75, b232_75), (82, b232_82), (91, b232_91), (97, b232_97), (109, b232_109), (122, b232_122), (127, b232_127), (153, b232_153), (161, b232_161)]
-- 233: PennyALapModel.rowFault
def b233_0 : List kIt := [(0, .inl (.aload_n 0, 0, 0, 0)), (1, .inl (.getfield 127, 10, 55, 0)), (4, .inl (.iload_n 1, 0, 0, 0)), (5, .inl (.iaload, 0, 0, 0)), (6, .inl (.iconst (-1), 0, 0, 0)), (7, .inr (.if_icmp .ne 8, 0, 15, 0, [])), (10, .inl (.bipush (-11), 0, 0, 0)), (12, .inr (.goto 22, 1, 34, 0, []))]
def b233_15 : List kIt := [(15, .inl (.aload_n 0, 0, 0, 0)), (16, .inl (.getfield 127, 10, 55, 0)), (19, .inl (.iload_n 1, 0, 0, 0)), (20, .inl (.iaload, 0, 0, 0)), (21, .inl (.bipush (-2), 0, 0, 0)), (23, .inl (.iload_n 2, 0, 0, 0)), (24, .inl (.isub, 0, 0, 0)), (25, .inr (.if_icmp .ne 7, 0, 32, 0, [])), (28, .inl (.iconst 0, 0, 0, 0)), (29, .inr (.goto 5, 1, 34, 0, []))]
def b233_32 : List kIt := [(32, .inl (.bipush (-12), 0, 0, 0)), (34, .inr (.nop, 1, 34, 0, []))]
def b233_34 : List kIt := [(34, .inr (.ireturn, 3, 0, 0, []))]
def c233 : List (Nat × List kIt) := [(0, b233_0), (15, b233_15), (32, b233_32), (34, b233_34)]
-- 234: PennyALapModel.at
def b234_0 : List kIt := [(0, .inl (.aload_n 0, 0, 0, 0)), (1, .inl (.getfield 133, 10, 57, 0)), (4, .inl (.bipush 60, 0, 0, 0)), (6, .inl (.iload_n 1, 0, 0, 0)), (7, .inl (.imul, 0, 0, 0)), (8, .inl (.iload_n 2, 0, 0, 0)), (9, .inl (.iadd, 0, 0, 0)), (10, .inl (.laload, 0, 0, 0)), (11, .inl (.l2i, 0, 0, 0)), (12, .inr (.ireturn, 3, 0, 0, []))]
def c234 : List (Nat × List kIt) := [(0, b234_0)]
-- 235: PennyALapModel.isTold
def b235_0 : List kIt := [(0, .inl (.iconst 0, 0, 0, 0)), (1, .inl (.istore_n 3, 0, 0, 0)), (2, .inr (.nop, 1, 2, 0, []))]
def b235_2 : List kIt := [(2, .inl (.iload_n 3, 0, 0, 0)), (3, .inl (.aload_n 0, 0, 0, 0)), (4, .inl (.getfield 130, 10, 56, 0)), (7, .inl (.iload_n 1, 0, 0, 0)), (8, .inl (.iaload, 0, 0, 0)), (9, .inr (.if_icmp .ge 21, 0, 30, 0, [])), (12, .inl (.aload_n 0, 0, 0, 0)), (13, .inl (.iload_n 1, 0, 0, 0)), (14, .inl (.iload_n 3, 0, 0, 0)), (15, .inr (.invokevirtual 326, 4, 234, 3, [])), (18, .inr (.nop, 1, 18, 0, []))]
def b235_18 : List kIt := [(18, .inl (.iload_n 2, 0, 0, 0)), (19, .inr (.if_icmp .ne 5, 0, 24, 0, [])), (22, .inl (.iconst 1, 0, 0, 0)), (23, .inr (.ireturn, 3, 1, 0, []))]
def b235_24 : List kIt := [(24, .inl (.iinc 3 1, 0, 0, 0)), (27, .inr (.goto (-25), 1, 2, 0, []))]
def b235_30 : List kIt := [(30, .inl (.iconst 0, 0, 0, 0)), (31, .inr (.ireturn, 3, 1, 0, []))]
def c235 : List (Nat × List kIt) := [(0, b235_0), (2, b235_2), (18, b235_18), (24, b235_24), (30, b235_30)]
-- 236: PennyALapModel.beginRest
def b236_0 : List kIt := [(0, .inl (.aload_n 0, 0, 0, 0)), (1, .inl (.iload_n 1, 0, 0, 0)), (2, .inr (.invokevirtual 300, 4, 217, 2, [])), (5, .inr (.nop, 1, 5, 0, []))]
def b236_5 : List kIt := [(5, .inl (.iconst 0, 0, 0, 0)), (6, .inl (.istore_n 2, 0, 0, 0)), (7, .inl (.iconst 0, 0, 0, 0)), (8, .inl (.istore_n 3, 0, 0, 0)), (9, .inr (.nop, 1, 9, 0, []))]
def b236_9 : List kIt := [(9, .inl (.iload_n 3, 0, 0, 0)), (10, .inl (.aload_n 0, 0, 0, 0)), (11, .inl (.getfield 150, 10, 6, 0)), (14, .inr (.if_icmp .ge 40, 0, 54, 0, [])), (17, .inl (.aload_n 0, 0, 0, 0)), (18, .inl (.getfield 97, 10, 41, 0)), (21, .inl (.iload_n 3, 0, 0, 0)), (22, .inl (.aload_n 0, 0, 0, 0)), (23, .inl (.iload_n 3, 0, 0, 0)), (24, .inl (.aload_n 0, 0, 0, 0)), (25, .inl (.getfield 85, 10, 37, 0)), (28, .inl (.aload_n 0, 0, 0, 0)), (29, .inl (.getfield 22, 10, 7, 0)), (32, .inl (.iload_n 3, 0, 0, 0)), (33, .inl (.iaload, 0, 0, 0)), (34, .inl (.iaload, 0, 0, 0)), (35, .inr (.invokevirtual 285, 4, 213, 3, [])), (38, .inr (.nop, 1, 38, 0, []))]
def b236_38 : List kIt := [(38, .inl (.iastore, 0, 0, 0)), (39, .inl (.iload_n 2, 0, 0, 0)), (40, .inl (.aload_n 0, 0, 0, 0)), (41, .inl (.getfield 97, 10, 41, 0)), (44, .inl (.iload_n 3, 0, 0, 0)), (45, .inl (.iaload, 0, 0, 0)), (46, .inl (.iadd, 0, 0, 0)), (47, .inl (.istore_n 2, 0, 0, 0)), (48, .inl (.iinc 3 1, 0, 0, 0)), (51, .inr (.goto (-42), 1, 9, 0, []))]
def b236_54 : List kIt := [(54, .inl (.iload_n 2, 0, 0, 0)), (55, .inr (.ireturn, 3, 0, 0, []))]
def c236 : List (Nat × List kIt) := [(0, b236_0), (5, b236_5), (9, b236_9), (38, b236_38), (54, b236_54)]
-- 237: PennyALapModel.weekComes
def b237_0 : List kIt := [(0, .inl (.iconst 0, 0, 0, 0)), (1, .inl (.istore_n 2, 0, 0, 0)), (2, .inl (.iconst 0, 0, 0, 0)), (3, .inl (.istore_n 3, 0, 0, 0)), (4, .inr (.nop, 1, 4, 0, []))]
def b237_4 : List kIt := [(4, .inl (.iload_n 3, 0, 0, 0)), (5, .inl (.aload_n 0, 0, 0, 0)), (6, .inl (.getfield 150, 10, 6, 0)), (9, .inr (.if_icmp .ge 82, 0, 91, 0, [])), (12, .inl (.aload_n 0, 0, 0, 0)), (13, .inl (.getfield 97, 10, 41, 0)), (16, .inl (.iload_n 3, 0, 0, 0)), (17, .inl (.iaload, 0, 0, 0)), (18, .inl (.aload_n 0, 0, 0, 0)), (19, .inl (.getfield 40, 10, 14, 0)), (22, .inl (.imul, 0, 0, 0)), (23, .inl (.bipush 12, 0, 0, 0)), (25, .inl (.idiv, 0, 0, 0)), (26, .inl (.istore 4, 0, 0, 0)), (28, .inl (.iload 4, 0, 0, 0)), (30, .inl (.iconst 1, 0, 0, 0)), (31, .inr (.if_icmp .ge 6, 0, 37, 0, [])), (34, .inl (.iconst 1, 0, 0, 0)), (35, .inl (.istore 4, 0, 0, 0)), (37, .inr (.nop, 1, 37, 0, []))]
def b237_37 : List kIt := [(37, .inl (.iload_n 1, 0, 0, 0)), (38, .inr (.ifCond .eq 12, 0, 50, 0, [])), (41, .inl (.iload 4, 0, 0, 0)), (43, .inl (.aload_n 0, 0, 0, 0)), (44, .inl (.getfield 44, 10, 15, 0)), (47, .inl (.imul, 0, 0, 0)), (48, .inl (.istore 4, 0, 0, 0)), (50, .inr (.nop, 1, 50, 0, []))]
def b237_50 : List kIt := [(50, .inl (.iload 4, 0, 0, 0)), (52, .inl (.aload_n 0, 0, 0, 0)), (53, .inl (.getfield 97, 10, 41, 0)), (56, .inl (.iload_n 3, 0, 0, 0)), (57, .inl (.iaload, 0, 0, 0)), (58, .inr (.if_icmp .le 11, 0, 69, 0, [])), (61, .inl (.aload_n 0, 0, 0, 0)), (62, .inl (.getfield 97, 10, 41, 0)), (65, .inl (.iload_n 3, 0, 0, 0)), (66, .inl (.iaload, 0, 0, 0)), (67, .inl (.istore 4, 0, 0, 0)), (69, .inr (.nop, 1, 69, 0, []))]
def b237_69 : List kIt := [(69, .inl (.aload_n 0, 0, 0, 0)), (70, .inl (.getfield 97, 10, 41, 0)), (73, .inl (.iload_n 3, 0, 0, 0)), (74, .inl (.dup2, 0, 0, 0)), (75, .inl (.iaload, 0, 0, 0)), (76, .inl (.iload 4, 0, 0, 0)), (78, .inl (.isub, 0, 0, 0)), (79, .inl (.iastore, 0, 0, 0)), (80, .inl (.iload_n 2, 0, 0, 0)), (81, .inl (.iload 4, 0, 0, 0)), (83, .inl (.iadd, 0, 0, 0)), (84, .inl (.istore_n 2, 0, 0, 0)), (85, .inl (.iinc 3 1, 0, 0, 0)), (88, .inr (.goto (-84), 1, 4, 0, []))]
def b237_91 : List kIt := [(91, .inl (.iload_n 2, 0, 0, 0)), (92, .inr (.ireturn, 3, 0, 0, []))]
def c237 : List (Nat × List kIt) := [(0, b237_0), (4, b237_4), (37, b237_37), (50, b237_50), (69, b237_69), (91, b237_91)]
-- 238: PennyALapModel.comesBy
def b238_0 : List kIt := [(0, .inl (.aload_n 0, 0, 0, 0)), (1, .inl (.iload_n 2, 0, 0, 0)), (2, .inr (.invokevirtual 329, 4, 236, 2, [])), (5, .inr (.nop, 1, 5, 0, []))]
def b238_5 : List kIt := [(5, .inl (.pop, 0, 0, 0)), (6, .inl (.iconst 0, 0, 0, 0)), (7, .inl (.istore 5, 0, 0, 0)), (9, .inl (.iconst 0, 0, 0, 0)), (10, .inl (.istore 6, 0, 0, 0)), (12, .inr (.nop, 1, 12, 0, []))]
def b238_12 : List kIt := [(12, .inl (.iload 6, 0, 0, 0)), (14, .inl (.iload_n 3, 0, 0, 0)), (15, .inr (.if_icmp .ge 40, 0, 55, 0, [])), (18, .inl (.iload 5, 0, 0, 0)), (20, .inl (.aload_n 0, 0, 0, 0)), (21, .inl (.iload 6, 0, 0, 0)), (23, .inl (.iload 4, 0, 0, 0)), (25, .inr (.if_icmp .eq 13, 0, 38, 0, [])), (28, .inl (.aload_n 0, 0, 0, 0)), (29, .inl (.iload_n 1, 0, 0, 0)), (30, .inl (.iload 6, 0, 0, 0)), (32, .inr (.invokevirtual 332, 4, 235, 3, [])), (35, .inr (.nop, 1, 35, 0, []))]
def b238_35 : List kIt := [(35, .inr (.ifCond .eq 7, 0, 42, 0, [])), (38, .inr (.nop, 1, 38, 0, []))]
def b238_38 : List kIt := [(38, .inl (.iconst 1, 0, 0, 0)), (39, .inr (.goto 4, 1, 43, 0, []))]
def b238_42 : List kIt := [(42, .inl (.iconst 0, 0, 0, 0)), (43, .inr (.nop, 1, 43, 0, []))]
def b238_43 : List kIt := [(43, .inr (.invokevirtual 335, 4, 237, 2, [])), (46, .inr (.nop, 1, 46, 0, []))]
def b238_46 : List kIt := [(46, .inl (.iadd, 0, 0, 0)), (47, .inl (.istore 5, 0, 0, 0)), (49, .inl (.iinc 6 1, 0, 0, 0)), (52, .inr (.goto (-40), 1, 12, 0, []))]
def b238_55 : List kIt := [(55, .inl (.iload 5, 0, 0, 0)), (57, .inr (.ireturn, 3, 0, 0, []))]
def c238 : List (Nat × List kIt) := [(0, b238_0), (5, b238_5), (12, b238_12), (35, b238_35), (38, b238_38), (42, b238_42), (43, b238_43), (46, b238_46), (55, b238_55)]
-- 239: PennyALapModel.areWeeks
def b239_0 : List kIt := [(0, .inl (.iload_n 0, 0, 0, 0)), (1, .inr (.ifCond .lt 26, 0, 27, 0, [])), (4, .inl (.iload_n 0, 0, 0, 0)), (5, .inl (.bipush 100, 0, 0, 0)), (7, .inl (.idiv, 0, 0, 0)), (8, .inr (.invokestatic 297, 4, 207, 1, [])), (11, .inr (.nop, 1, 11, 0, []))]
def b239_11 : List kIt := [(11, .inr (.ifCond .eq 16, 0, 27, 0, [])), (14, .inl (.iload_n 0, 0, 0, 0)), (15, .inl (.bipush 100, 0, 0, 0)), (17, .inl (.irem, 0, 0, 0)), (18, .inl (.bipush 60, 0, 0, 0)), (20, .inr (.if_icmp .gt 7, 0, 27, 0, [])), (23, .inl (.iconst 1, 0, 0, 0)), (24, .inr (.goto 4, 1, 28, 0, []))]
def b239_27 : List kIt := [(27, .inl (.iconst 0, 0, 0, 0)), (28, .inr (.nop, 1, 28, 0, []))]
def b239_28 : List kIt := [(28, .inr (.ireturn, 3, 1, 0, []))]
def c239 : List (Nat × List kIt) := [(0, b239_0), (11, b239_11), (27, b239_27), (28, b239_28)]
-- 240: PennyALapModel.comes
def b240_0 : List kIt := [(0, .inl (.iload_n 1, 0, 0, 0)), (1, .inr (.invokestatic 161, 4, 276, 1, [])), (4, .inr (.nop, 1, 4, 0, []))]
def b240_4 : List kIt := [(4, .inr (.ifCond .eq 10, 0, 14, 0, [])), (7, .inl (.iload_n 2, 0, 0, 0)), (8, .inr (.invokestatic 339, 4, 239, 1, [])), (11, .inr (.nop, 1, 11, 0, []))]
def b240_11 : List kIt := [(11, .inr (.ifCond .ne 5, 0, 16, 0, [])), (14, .inr (.nop, 1, 14, 0, []))]
def b240_14 : List kIt := [(14, .inl (.iconst (-1), 0, 0, 0)), (15, .inr (.ireturn, 3, 0, 0, []))]
def b240_16 : List kIt := [(16, .inl (.aload_n 0, 0, 0, 0)), (17, .inl (.iload_n 1, 0, 0, 0)), (18, .inl (.iconst 0, 0, 0, 0)), (19, .inr (.invokevirtual 342, 4, 233, 3, [])), (22, .inr (.nop, 1, 22, 0, []))]
def b240_22 : List kIt := [(22, .inl (.istore_n 3, 0, 0, 0)), (23, .inl (.iload_n 3, 0, 0, 0)), (24, .inr (.ifCond .ge 7, 0, 31, 0, [])), (27, .inl (.iload_n 3, 0, 0, 0)), (28, .inr (.goto 17, 1, 45, 0, []))]
def b240_31 : List kIt := [(31, .inl (.aload_n 0, 0, 0, 0)), (32, .inl (.iload_n 1, 0, 0, 0)), (33, .inl (.iload_n 2, 0, 0, 0)), (34, .inl (.bipush 100, 0, 0, 0)), (36, .inl (.idiv, 0, 0, 0)), (37, .inl (.iload_n 2, 0, 0, 0)), (38, .inl (.bipush 100, 0, 0, 0)), (40, .inl (.irem, 0, 0, 0)), (41, .inl (.iconst (-1), 0, 0, 0)), (42, .inr (.invokevirtual 345, 4, 238, 5, [])), (45, .inr (.nop, 1, 45, 0, []))]
def b240_45 : List kIt := [(45, .inr (.ireturn, 3, 0, 0, []))]
def c240 : List (Nat × List kIt) := [(0, b240_0), (4, b240_4), (11, b240_11), (14, b240_14), (16, b240_16), (22, b240_22), (31, b240_31), (45, b240_45)]
-- 241: PennyALapModel.by
def b241_0 : List kIt := [(0, .inl (.iload_n 1, 0, 0, 0)), (1, .inr (.invokestatic 161, 4, 276, 1, [])), (4, .inr (.nop, 1, 4, 0, []))]
def b241_4 : List kIt := [(4, .inr (.ifCond .eq 19, 0, 23, 0, [])), (7, .inl (.iload_n 2, 0, 0, 0)), (8, .inr (.invokestatic 339, 4, 239, 1, [])), (11, .inr (.nop, 1, 11, 0, []))]
def b241_11 : List kIt := [(11, .inr (.ifCond .eq 12, 0, 23, 0, [])), (14, .inl (.iload_n 2, 0, 0, 0)), (15, .inl (.bipush 100, 0, 0, 0)), (17, .inl (.irem, 0, 0, 0)), (18, .inl (.bipush 12, 0, 0, 0)), (20, .inr (.if_icmp .le 5, 0, 25, 0, [])), (23, .inr (.nop, 1, 23, 0, []))]
def b241_23 : List kIt := [(23, .inl (.iconst (-1), 0, 0, 0)), (24, .inr (.ireturn, 3, 0, 0, []))]
def b241_25 : List kIt := [(25, .inl (.aload_n 0, 0, 0, 0)), (26, .inl (.iload_n 1, 0, 0, 0)), (27, .inl (.iconst 0, 0, 0, 0)), (28, .inr (.invokevirtual 342, 4, 233, 3, [])), (31, .inr (.nop, 1, 31, 0, []))]
def b241_31 : List kIt := [(31, .inl (.istore_n 3, 0, 0, 0)), (32, .inl (.iload_n 3, 0, 0, 0)), (33, .inr (.ifCond .ge 5, 0, 38, 0, [])), (36, .inl (.iload_n 3, 0, 0, 0)), (37, .inr (.ireturn, 3, 0, 0, []))]
def b241_38 : List kIt := [(38, .inl (.aload_n 0, 0, 0, 0)), (39, .inl (.iload_n 2, 0, 0, 0)), (40, .inl (.bipush 100, 0, 0, 0)), (42, .inl (.idiv, 0, 0, 0)), (43, .inr (.invokevirtual 329, 4, 236, 2, [])), (46, .inr (.nop, 1, 46, 0, []))]
def b241_46 : List kIt := [(46, .inl (.istore 4, 0, 0, 0)), (48, .inl (.iconst 0, 0, 0, 0)), (49, .inl (.istore 5, 0, 0, 0)), (51, .inl (.iconst 0, 0, 0, 0)), (52, .inl (.istore 6, 0, 0, 0)), (54, .inr (.nop, 1, 54, 0, []))]
def b241_54 : List kIt := [(54, .inl (.iload 6, 0, 0, 0)), (56, .inl (.bipush 60, 0, 0, 0)), (58, .inr (.if_icmp .gt 43, 0, 101, 0, [])), (61, .inl (.bipush 12, 0, 0, 0)), (63, .inl (.iload 5, 0, 0, 0)), (65, .inl (.imul, 0, 0, 0)), (66, .inl (.iload_n 2, 0, 0, 0)), (67, .inl (.bipush 100, 0, 0, 0)), (69, .inl (.irem, 0, 0, 0)), (70, .inl (.iload 4, 0, 0, 0)), (72, .inl (.imul, 0, 0, 0)), (73, .inr (.if_icmp .lt 6, 0, 79, 0, [])), (76, .inl (.iload 6, 0, 0, 0)), (78, .inr (.ireturn, 3, 0, 0, []))]
def b241_79 : List kIt := [(79, .inl (.iload 5, 0, 0, 0)), (81, .inl (.aload_n 0, 0, 0, 0)), (82, .inl (.aload_n 0, 0, 0, 0)), (83, .inl (.iload_n 1, 0, 0, 0)), (84, .inl (.iload 6, 0, 0, 0)), (86, .inr (.invokevirtual 332, 4, 235, 3, [])), (89, .inr (.nop, 1, 89, 0, []))]
def b241_89 : List kIt := [(89, .inr (.invokevirtual 335, 4, 237, 2, [])), (92, .inr (.nop, 1, 92, 0, []))]
def b241_92 : List kIt := [(92, .inl (.iadd, 0, 0, 0)), (93, .inl (.istore 5, 0, 0, 0)), (95, .inl (.iinc 6 1, 0, 0, 0)), (98, .inr (.goto (-44), 1, 54, 0, []))]
def b241_101 : List kIt := [(101, .inl (.bipush (-2), 0, 0, 0)), (103, .inr (.ireturn, 3, 0, 0, []))]
def c241 : List (Nat × List kIt) := [(0, b241_0), (4, b241_4), (11, b241_11), (23, b241_23), (25, b241_25), (31, b241_31), (38, b241_38), (46, b241_46), (54, b241_54), (79, b241_79), (89, b241_89), (92, b241_92), (101, b241_101)]
-- 242: PennyALapModel.remind
def b242_0 : List kIt := [(0, .inl (.iload_n 1, 0, 0, 0)), (1, .inr (.invokestatic 161, 4, 276, 1, [])), (4, .inr (.nop, 1, 4, 0, []))]
def b242_4 : List kIt := [(4, .inr (.ifCond .eq 19, 0, 23, 0, [])), (7, .inl (.iload_n 2, 0, 0, 0)), (8, .inr (.invokestatic 339, 4, 239, 1, [])), (11, .inr (.nop, 1, 11, 0, []))]
def b242_11 : List kIt := [(11, .inr (.ifCond .eq 12, 0, 23, 0, [])), (14, .inl (.iload_n 3, 0, 0, 0)), (15, .inl (.iconst 0, 0, 0, 0)), (16, .inl (.iconst 1, 0, 0, 0)), (17, .inr (.invokestatic 146, 4, 170, 3, [])), (20, .inr (.nop, 1, 20, 0, []))]
def b242_20 : List kIt := [(20, .inr (.ifCond .ne 5, 0, 25, 0, [])), (23, .inr (.nop, 1, 23, 0, []))]
def b242_23 : List kIt := [(23, .inl (.iconst (-1), 0, 0, 0)), (24, .inr (.ireturn, 3, 0, 0, []))]
def b242_25 : List kIt := [(25, .inl (.aload_n 0, 0, 0, 0)), (26, .inl (.iload_n 1, 0, 0, 0)), (27, .inl (.iconst 0, 0, 0, 0)), (28, .inr (.invokevirtual 342, 4, 233, 3, [])), (31, .inr (.nop, 1, 31, 0, []))]
def b242_31 : List kIt := [(31, .inl (.istore 4, 0, 0, 0)), (33, .inl (.iload 4, 0, 0, 0)), (35, .inr (.ifCond .ge 6, 0, 41, 0, [])), (38, .inl (.iload 4, 0, 0, 0)), (40, .inr (.ireturn, 3, 0, 0, []))]
def b242_41 : List kIt := [(41, .inl (.bipush (-2), 0, 0, 0)), (43, .inl (.istore 5, 0, 0, 0)), (45, .inl (.bipush (-2), 0, 0, 0)), (47, .inl (.istore 6, 0, 0, 0)), (49, .inl (.iconst 0, 0, 0, 0)), (50, .inl (.istore 7, 0, 0, 0)), (52, .inr (.nop, 1, 52, 0, []))]
def b242_52 : List kIt := [(52, .inl (.iload 7, 0, 0, 0)), (54, .inl (.iload_n 2, 0, 0, 0)), (55, .inl (.bipush 100, 0, 0, 0)), (57, .inl (.irem, 0, 0, 0)), (58, .inr (.if_icmp .ge 49, 0, 107, 0, [])), (61, .inl (.aload_n 0, 0, 0, 0)), (62, .inl (.iload_n 1, 0, 0, 0)), (63, .inl (.iload_n 2, 0, 0, 0)), (64, .inl (.bipush 100, 0, 0, 0)), (66, .inl (.idiv, 0, 0, 0)), (67, .inl (.iload_n 2, 0, 0, 0)), (68, .inl (.bipush 100, 0, 0, 0)), (70, .inl (.irem, 0, 0, 0)), (71, .inl (.iload 7, 0, 0, 0)), (73, .inr (.invokevirtual 345, 4, 238, 5, [])), (76, .inr (.nop, 1, 76, 0, []))]
def b242_76 : List kIt := [(76, .inl (.istore 8, 0, 0, 0)), (78, .inl (.iload 5, 0, 0, 0)), (80, .inr (.ifCond .lt 13, 0, 93, 0, [])), (83, .inl (.iload 8, 0, 0, 0)), (85, .inl (.iload 6, 0, 0, 0)), (87, .inr (.if_icmp .gt 6, 0, 93, 0, [])), (90, .inr (.goto 11, 1, 101, 0, []))]
def b242_93 : List kIt := [(93, .inl (.iload 7, 0, 0, 0)), (95, .inl (.istore 5, 0, 0, 0)), (97, .inl (.iload 8, 0, 0, 0)), (99, .inl (.istore 6, 0, 0, 0)), (101, .inr (.nop, 1, 101, 0, []))]
def b242_101 : List kIt := [(101, .inl (.iinc 7 1, 0, 0, 0)), (104, .inr (.goto (-52), 1, 52, 0, []))]
def b242_107 : List kIt := [(107, .inl (.iload_n 3, 0, 0, 0)), (108, .inr (.ifCond .ne 8, 0, 116, 0, [])), (111, .inl (.iload 5, 0, 0, 0)), (113, .inr (.goto 5, 1, 118, 0, []))]
def b242_116 : List kIt := [(116, .inl (.iload 6, 0, 0, 0)), (118, .inr (.nop, 1, 118, 0, []))]
def b242_118 : List kIt := [(118, .inr (.ireturn, 3, 0, 0, []))]
def c242 : List (Nat × List kIt) := [(0, b242_0), (4, b242_4), (11, b242_11), (20, b242_20), (23, b242_23), (25, b242_25), (31, b242_31), (41, b242_41), (52, b242_52), (76, b242_76), (93, b242_93), (101, b242_101), (107, b242_107), (116, b242_116), (118, b242_118)]
-- 243: PennyALapModel.wrongSheet
def b243_0 : List kIt := [(0, .inl (.aload_n 0, 0, 0, 0)), (1, .inl (.iload_n 2, 0, 0, 0)), (2, .inr (.invokevirtual 300, 4, 217, 2, [])), (5, .inr (.nop, 1, 5, 0, []))]
def b243_5 : List kIt := [(5, .inl (.iconst 0, 0, 0, 0)), (6, .inl (.istore_n 3, 0, 0, 0)), (7, .inr (.nop, 1, 7, 0, []))]
def b243_7 : List kIt := [(7, .inl (.iconst 2, 0, 0, 0)), (8, .inl (.iload_n 3, 0, 0, 0)), (9, .inl (.imul, 0, 0, 0)), (10, .inl (.aload_n 0, 0, 0, 0)), (11, .inl (.getfield 130, 10, 56, 0)), (14, .inl (.iload_n 1, 0, 0, 0)), (15, .inl (.iaload, 0, 0, 0)), (16, .inr (.if_icmp .ge 72, 0, 88, 0, [])), (19, .inl (.iconst 2, 0, 0, 0)), (20, .inl (.iload_n 3, 0, 0, 0)), (21, .inl (.imul, 0, 0, 0)), (22, .inl (.iconst 1, 0, 0, 0)), (23, .inl (.iadd, 0, 0, 0)), (24, .inl (.aload_n 0, 0, 0, 0)), (25, .inl (.getfield 130, 10, 56, 0)), (28, .inl (.iload_n 1, 0, 0, 0)), (29, .inl (.iaload, 0, 0, 0)), (30, .inr (.if_icmp .lt 5, 0, 35, 0, [])), (33, .inl (.iload_n 3, 0, 0, 0)), (34, .inr (.ireturn, 3, 0, 0, []))]
def b243_35 : List kIt := [(35, .inl (.aload_n 0, 0, 0, 0)), (36, .inl (.iload_n 1, 0, 0, 0)), (37, .inl (.iconst 2, 0, 0, 0)), (38, .inl (.iload_n 3, 0, 0, 0)), (39, .inl (.imul, 0, 0, 0)), (40, .inr (.invokevirtual 326, 4, 234, 3, [])), (43, .inr (.nop, 1, 43, 0, []))]
def b243_43 : List kIt := [(43, .inl (.istore 4, 0, 0, 0)), (45, .inl (.aload_n 0, 0, 0, 0)), (46, .inl (.iload 4, 0, 0, 0)), (48, .inr (.invokevirtual 153, 4, 171, 2, [])), (51, .inr (.nop, 1, 51, 0, []))]
def b243_51 : List kIt := [(51, .inr (.ifCond .eq 29, 0, 80, 0, [])), (54, .inl (.aload_n 0, 0, 0, 0)), (55, .inl (.iload 4, 0, 0, 0)), (57, .inl (.aload_n 0, 0, 0, 0)), (58, .inl (.getfield 85, 10, 37, 0)), (61, .inl (.iload 4, 0, 0, 0)), (63, .inl (.iaload, 0, 0, 0)), (64, .inr (.invokevirtual 291, 4, 216, 3, [])), (67, .inr (.nop, 1, 67, 0, []))]
def b243_67 : List kIt := [(67, .inl (.aload_n 0, 0, 0, 0)), (68, .inl (.iload_n 1, 0, 0, 0)), (69, .inl (.iconst 2, 0, 0, 0)), (70, .inl (.iload_n 3, 0, 0, 0)), (71, .inl (.imul, 0, 0, 0)), (72, .inl (.iconst 1, 0, 0, 0)), (73, .inl (.iadd, 0, 0, 0)), (74, .inr (.invokevirtual 326, 4, 234, 3, [])), (77, .inr (.nop, 1, 77, 0, []))]
def b243_77 : List kIt := [(77, .inr (.if_icmp .eq 5, 0, 82, 0, [])), (80, .inr (.nop, 1, 80, 0, []))]
def b243_80 : List kIt := [(80, .inl (.iload_n 3, 0, 0, 0)), (81, .inr (.ireturn, 3, 0, 0, []))]
def b243_82 : List kIt := [(82, .inl (.iinc 3 1, 0, 0, 0)), (85, .inr (.goto (-78), 1, 7, 0, []))]
def b243_88 : List kIt := [(88, .inl (.bipush (-2), 0, 0, 0)), (90, .inr (.ireturn, 3, 0, 0, []))]
def c243 : List (Nat × List kIt) := [(0, b243_0), (5, b243_5), (7, b243_7), (35, b243_35), (43, b243_43), (51, b243_51), (67, b243_67), (77, b243_77), (80, b243_80), (82, b243_82), (88, b243_88)]
-- 244: PennyALapModel.judge
def b244_0 : List kIt := [(0, .inl (.iload_n 1, 0, 0, 0)), (1, .inr (.invokestatic 161, 4, 276, 1, [])), (4, .inr (.nop, 1, 4, 0, []))]
def b244_4 : List kIt := [(4, .inr (.ifCond .eq 10, 0, 14, 0, [])), (7, .inl (.iload_n 2, 0, 0, 0)), (8, .inr (.invokestatic 297, 4, 207, 1, [])), (11, .inr (.nop, 1, 11, 0, []))]
def b244_11 : List kIt := [(11, .inr (.ifCond .ne 5, 0, 16, 0, [])), (14, .inr (.nop, 1, 14, 0, []))]
def b244_14 : List kIt := [(14, .inl (.iconst (-1), 0, 0, 0)), (15, .inr (.ireturn, 3, 0, 0, []))]
def b244_16 : List kIt := [(16, .inl (.aload_n 0, 0, 0, 0)), (17, .inl (.iload_n 1, 0, 0, 0)), (18, .inl (.iconst 1, 0, 0, 0)), (19, .inr (.invokevirtual 342, 4, 233, 3, [])), (22, .inr (.nop, 1, 22, 0, []))]
def b244_22 : List kIt := [(22, .inl (.istore_n 3, 0, 0, 0)), (23, .inl (.iload_n 3, 0, 0, 0)), (24, .inr (.ifCond .ge 7, 0, 31, 0, [])), (27, .inl (.iload_n 3, 0, 0, 0)), (28, .inr (.goto 9, 1, 37, 0, []))]
def b244_31 : List kIt := [(31, .inl (.aload_n 0, 0, 0, 0)), (32, .inl (.iload_n 1, 0, 0, 0)), (33, .inl (.iload_n 2, 0, 0, 0)), (34, .inr (.invokevirtual 349, 4, 243, 3, [])), (37, .inr (.nop, 1, 37, 0, []))]
def b244_37 : List kIt := [(37, .inr (.ireturn, 3, 0, 0, []))]
def c244 : List (Nat × List kIt) := [(0, b244_0), (4, b244_4), (11, b244_11), (14, b244_14), (16, b244_16), (22, b244_22), (31, b244_31), (37, b244_37)]
-- 245: PennyALapModel.lapsFor
def b245_0 : List kIt := [(0, .inl (.aload_n 0, 0, 0, 0)), (1, .inl (.iload_n 1, 0, 0, 0)), (2, .inr (.invokevirtual 153, 4, 171, 2, [])), (5, .inr (.nop, 1, 5, 0, []))]
def b245_5 : List kIt := [(5, .inr (.ifCond .eq 23, 0, 28, 0, [])), (8, .inl (.iload_n 2, 0, 0, 0)), (9, .inl (.iconst 0, 0, 0, 0)), (10, .inl (.ldc_w 322, 0, 0, 99999)), (13, .inr (.invokestatic 146, 4, 170, 3, [])), (16, .inr (.nop, 1, 16, 0, []))]
def b245_16 : List kIt := [(16, .inr (.ifCond .eq 12, 0, 28, 0, [])), (19, .inl (.iload_n 3, 0, 0, 0)), (20, .inl (.iconst 0, 0, 0, 0)), (21, .inl (.iconst 1, 0, 0, 0)), (22, .inr (.invokestatic 146, 4, 170, 3, [])), (25, .inr (.nop, 1, 25, 0, []))]
def b245_25 : List kIt := [(25, .inr (.ifCond .ne 5, 0, 30, 0, [])), (28, .inr (.nop, 1, 28, 0, []))]
def b245_28 : List kIt := [(28, .inl (.iconst (-1), 0, 0, 0)), (29, .inr (.ireturn, 3, 0, 0, []))]
def b245_30 : List kIt := [(30, .inl (.iconst 0, 0, 0, 0)), (31, .inl (.istore 4, 0, 0, 0)), (33, .inl (.bipush (-2), 0, 0, 0)), (35, .inl (.istore 5, 0, 0, 0)), (37, .inl (.iconst 0, 0, 0, 0)), (38, .inl (.istore 6, 0, 0, 0)), (40, .inr (.nop, 1, 40, 0, []))]
def b245_40 : List kIt := [(40, .inl (.iload 6, 0, 0, 0)), (42, .inl (.bipush 99, 0, 0, 0)), (44, .inr (.if_icmp .gt 35, 0, 79, 0, [])), (47, .inl (.aload_n 0, 0, 0, 0)), (48, .inl (.iload_n 1, 0, 0, 0)), (49, .inl (.iload 6, 0, 0, 0)), (51, .inr (.invokevirtual 291, 4, 216, 3, [])), (54, .inr (.nop, 1, 54, 0, []))]
def b245_54 : List kIt := [(54, .inl (.iload_n 2, 0, 0, 0)), (55, .inr (.if_icmp .eq 6, 0, 61, 0, [])), (58, .inr (.goto 15, 1, 73, 0, []))]
def b245_61 : List kIt := [(61, .inl (.iload 4, 0, 0, 0)), (63, .inr (.ifCond .ne 7, 0, 70, 0, [])), (66, .inl (.iload 6, 0, 0, 0)), (68, .inl (.istore 5, 0, 0, 0)), (70, .inr (.nop, 1, 70, 0, []))]
def b245_70 : List kIt := [(70, .inl (.iinc 4 1, 0, 0, 0)), (73, .inr (.nop, 1, 73, 0, []))]
def b245_73 : List kIt := [(73, .inl (.iinc 6 1, 0, 0, 0)), (76, .inr (.goto (-36), 1, 40, 0, []))]
def b245_79 : List kIt := [(79, .inl (.iload_n 3, 0, 0, 0)), (80, .inr (.ifCond .ne 8, 0, 88, 0, [])), (83, .inl (.iload 4, 0, 0, 0)), (85, .inr (.goto 5, 1, 90, 0, []))]
def b245_88 : List kIt := [(88, .inl (.iload 5, 0, 0, 0)), (90, .inr (.nop, 1, 90, 0, []))]
def b245_90 : List kIt := [(90, .inr (.ireturn, 3, 0, 0, []))]
def c245 : List (Nat × List kIt) := [(0, b245_0), (5, b245_5), (16, b245_16), (25, b245_25), (28, b245_28), (30, b245_30), (40, b245_40), (54, b245_54), (61, b245_61), (70, b245_70), (73, b245_73), (79, b245_79), (88, b245_88), (90, b245_90)]
-- 246: PennyALapModel.minutesFor
def b246_0 : List kIt := [(0, .inl (.iload_n 1, 0, 0, 0)), (1, .inr (.invokestatic 161, 4, 276, 1, [])), (4, .inr (.nop, 1, 4, 0, []))]
def b246_4 : List kIt := [(4, .inr (.ifCond .ne 5, 0, 9, 0, [])), (7, .inl (.iconst (-1), 0, 0, 0)), (8, .inr (.ireturn, 3, 0, 0, []))]
def b246_9 : List kIt := [(9, .inl (.aload_n 0, 0, 0, 0)), (10, .inl (.iload_n 1, 0, 0, 0)), (11, .inl (.iconst 1, 0, 0, 0)), (12, .inr (.invokevirtual 342, 4, 233, 3, [])), (15, .inr (.nop, 1, 15, 0, []))]
def b246_15 : List kIt := [(15, .inl (.istore_n 2, 0, 0, 0)), (16, .inl (.iload_n 2, 0, 0, 0)), (17, .inr (.ifCond .ge 5, 0, 22, 0, [])), (20, .inl (.iload_n 2, 0, 0, 0)), (21, .inr (.ireturn, 3, 0, 0, []))]
def b246_22 : List kIt := [(22, .inl (.iconst 0, 0, 0, 0)), (23, .inl (.istore_n 3, 0, 0, 0)), (24, .inr (.nop, 1, 24, 0, []))]
def b246_24 : List kIt := [(24, .inl (.iload_n 3, 0, 0, 0)), (25, .inl (.sipush 999, 0, 0, 0)), (28, .inr (.if_icmp .gt 20, 0, 48, 0, [])), (31, .inl (.aload_n 0, 0, 0, 0)), (32, .inl (.iload_n 1, 0, 0, 0)), (33, .inl (.iload_n 3, 0, 0, 0)), (34, .inr (.invokevirtual 349, 4, 243, 3, [])), (37, .inr (.nop, 1, 37, 0, []))]
def b246_37 : List kIt := [(37, .inr (.ifCond .ge 5, 0, 42, 0, [])), (40, .inl (.iload_n 3, 0, 0, 0)), (41, .inr (.ireturn, 3, 0, 0, []))]
def b246_42 : List kIt := [(42, .inl (.iinc 3 1, 0, 0, 0)), (45, .inr (.goto (-21), 1, 24, 0, []))]
def b246_48 : List kIt := [(48, .inl (.bipush (-2), 0, 0, 0)), (50, .inr (.ireturn, 3, 0, 0, []))]
def c246 : List (Nat × List kIt) := [(0, b246_0), (4, b246_4), (9, b246_9), (15, b246_15), (22, b246_22), (24, b246_24), (37, b246_37), (42, b246_42), (48, b246_48)]
-- 247: PennyALapModel.whose
def b247_0 : List kIt := [(0, .inl (.aload_n 0, 0, 0, 0)), (1, .inl (.iload_n 1, 0, 0, 0)), (2, .inr (.invokevirtual 153, 4, 171, 2, [])), (5, .inr (.nop, 1, 5, 0, []))]
def b247_5 : List kIt := [(5, .inr (.ifCond .eq 21, 0, 26, 0, [])), (8, .inl (.iload_n 2, 0, 0, 0)), (9, .inr (.invokestatic 297, 4, 207, 1, [])), (12, .inr (.nop, 1, 12, 0, []))]
def b247_12 : List kIt := [(12, .inr (.ifCond .eq 14, 0, 26, 0, [])), (15, .inl (.iload_n 3, 0, 0, 0)), (16, .inl (.iconst 0, 0, 0, 0)), (17, .inl (.ldc_w 322, 0, 0, 99999)), (20, .inr (.invokestatic 146, 4, 170, 3, [])), (23, .inr (.nop, 1, 23, 0, []))]
def b247_23 : List kIt := [(23, .inr (.ifCond .ne 5, 0, 28, 0, [])), (26, .inr (.nop, 1, 26, 0, []))]
def b247_26 : List kIt := [(26, .inl (.iconst (-1), 0, 0, 0)), (27, .inr (.ireturn, 3, 0, 0, []))]
def b247_28 : List kIt := [(28, .inl (.aload_n 0, 0, 0, 0)), (29, .inl (.iload_n 1, 0, 0, 0)), (30, .inl (.iload_n 2, 0, 0, 0)), (31, .inr (.invokevirtual 288, 4, 208, 3, [])), (34, .inr (.nop, 1, 34, 0, []))]
def b247_34 : List kIt := [(34, .inl (.istore 4, 0, 0, 0)), (36, .inl (.aload_n 0, 0, 0, 0)), (37, .inl (.iload_n 1, 0, 0, 0)), (38, .inl (.iload 4, 0, 0, 0)), (40, .inr (.invokevirtual 291, 4, 216, 3, [])), (43, .inr (.nop, 1, 43, 0, []))]
def b247_43 : List kIt := [(43, .inl (.istore 5, 0, 0, 0)), (45, .inl (.iconst 0, 0, 0, 0)), (46, .inl (.istore 6, 0, 0, 0)), (48, .inr (.nop, 1, 48, 0, []))]
def b247_48 : List kIt := [(48, .inl (.iload 6, 0, 0, 0)), (50, .inl (.sipush 200, 0, 0, 0)), (53, .inr (.if_icmp .gt 41, 0, 94, 0, [])), (56, .inl (.iload 5, 0, 0, 0)), (58, .inl (.iload 6, 0, 0, 0)), (60, .inl (.iload 4, 0, 0, 0)), (62, .inl (.imul, 0, 0, 0)), (63, .inl (.sipush 9999, 0, 0, 0)), (66, .inr (.if_icmp .le 9, 0, 75, 0, [])), (69, .inl (.sipush 9999, 0, 0, 0)), (72, .inr (.goto 8, 1, 80, 0, []))]
def b247_75 : List kIt := [(75, .inl (.iload 6, 0, 0, 0)), (77, .inl (.iload 4, 0, 0, 0)), (79, .inl (.imul, 0, 0, 0)), (80, .inr (.nop, 1, 80, 0, []))]
def b247_80 : List kIt := [(80, .inl (.iadd, 0, 0, 0)), (81, .inl (.iload_n 3, 0, 0, 0)), (82, .inr (.if_icmp .ne 6, 0, 88, 0, [])), (85, .inl (.iload 6, 0, 0, 0)), (87, .inr (.ireturn, 3, 0, 0, []))]
def b247_88 : List kIt := [(88, .inl (.iinc 6 1, 0, 0, 0)), (91, .inr (.goto (-43), 1, 48, 0, []))]
def b247_94 : List kIt := [(94, .inl (.bipush (-2), 0, 0, 0)), (96, .inr (.ireturn, 3, 0, 0, []))]
def c247 : List (Nat × List kIt) := [(0, b247_0), (5, b247_5), (12, b247_12), (23, b247_23), (26, b247_26), (28, b247_28), (34, b247_34), (43, b247_43), (48, b247_48), (75, b247_75), (80, b247_80), (88, b247_88), (94, b247_94)]
-- 248: PennyALapModel.saidBy
def b248_0 : List kIt := [(0, .inl (.iload_n 2, 0, 0, 0)), (1, .inl (.aload_n 0, 0, 0, 0)), (2, .inl (.getfield 130, 10, 56, 0)), (5, .inl (.iload_n 1, 0, 0, 0)), (6, .inl (.iaload, 0, 0, 0)), (7, .inr (.if_icmp .ge 12, 0, 19, 0, [])), (10, .inl (.aload_n 0, 0, 0, 0)), (11, .inl (.iload_n 1, 0, 0, 0)), (12, .inl (.iload_n 2, 0, 0, 0)), (13, .inr (.invokevirtual 326, 4, 234, 3, [])), (16, .inr (.nop, 1, 16, 0, []))]
def b248_16 : List kIt := [(16, .inr (.goto 4, 1, 20, 0, []))]
def b248_19 : List kIt := [(19, .inl (.iconst (-1), 0, 0, 0)), (20, .inr (.nop, 1, 20, 0, []))]
def b248_20 : List kIt := [(20, .inr (.ireturn, 3, 0, 0, []))]
def c248 : List (Nat × List kIt) := [(0, b248_0), (16, b248_16), (19, b248_19), (20, b248_20)]
-- 249: PennyALapModel.oak
def b249_0 : List kIt := [(0, .inl (.iload_n 1, 0, 0, 0)), (1, .inr (.invokestatic 161, 4, 276, 1, [])), (4, .inr (.nop, 1, 4, 0, []))]
def b249_4 : List kIt := [(4, .inr (.ifCond .eq 24, 0, 28, 0, [])), (7, .inl (.iload_n 2, 0, 0, 0)), (8, .inr (.invokestatic 297, 4, 207, 1, [])), (11, .inr (.nop, 1, 11, 0, []))]
def b249_11 : List kIt := [(11, .inr (.ifCond .eq 17, 0, 28, 0, [])), (14, .inl (.iload_n 3, 0, 0, 0)), (15, .inl (.iconst (-1), 0, 0, 0)), (16, .inl (.aload_n 0, 0, 0, 0)), (17, .inl (.getfield 143, 10, 1, 0)), (20, .inl (.iconst 1, 0, 0, 0)), (21, .inl (.isub, 0, 0, 0)), (22, .inr (.invokestatic 146, 4, 170, 3, [])), (25, .inr (.nop, 1, 25, 0, []))]
def b249_25 : List kIt := [(25, .inr (.ifCond .ne 5, 0, 30, 0, [])), (28, .inr (.nop, 1, 28, 0, []))]
def b249_28 : List kIt := [(28, .inl (.iconst (-1), 0, 0, 0)), (29, .inr (.ireturn, 3, 0, 0, []))]
def b249_30 : List kIt := [(30, .inl (.aload_n 0, 0, 0, 0)), (31, .inl (.iload_n 1, 0, 0, 0)), (32, .inl (.iconst 0, 0, 0, 0)), (33, .inr (.invokevirtual 342, 4, 233, 3, [])), (36, .inr (.nop, 1, 36, 0, []))]
def b249_36 : List kIt := [(36, .inl (.istore 4, 0, 0, 0)), (38, .inl (.iload 4, 0, 0, 0)), (40, .inr (.ifCond .ge 6, 0, 46, 0, [])), (43, .inl (.iload 4, 0, 0, 0)), (45, .inr (.ireturn, 3, 0, 0, []))]
def b249_46 : List kIt := [(46, .inl (.aload_n 0, 0, 0, 0)), (47, .inl (.iload_n 2, 0, 0, 0)), (48, .inr (.invokevirtual 300, 4, 217, 2, [])), (51, .inr (.nop, 1, 51, 0, []))]
def b249_51 : List kIt := [(51, .inl (.iload_n 3, 0, 0, 0)), (52, .inr (.ifCond .lt 36, 0, 88, 0, [])), (55, .inl (.aload_n 0, 0, 0, 0)), (56, .inl (.iload_n 1, 0, 0, 0)), (57, .inl (.iload_n 3, 0, 0, 0)), (58, .inr (.invokevirtual 352, 4, 248, 3, [])), (61, .inr (.nop, 1, 61, 0, []))]
def b249_61 : List kIt := [(61, .inl (.aload_n 0, 0, 0, 0)), (62, .inl (.getfield 85, 10, 37, 0)), (65, .inl (.iload_n 3, 0, 0, 0)), (66, .inl (.iaload, 0, 0, 0)), (67, .inr (.if_icmp .le 19, 0, 86, 0, [])), (70, .inl (.iload_n 2, 0, 0, 0)), (71, .inl (.aload_n 0, 0, 0, 0)), (72, .inl (.iload_n 3, 0, 0, 0)), (73, .inl (.aload_n 0, 0, 0, 0)), (74, .inl (.iload_n 1, 0, 0, 0)), (75, .inl (.iload_n 3, 0, 0, 0)), (76, .inr (.invokevirtual 352, 4, 248, 3, [])), (79, .inr (.nop, 1, 79, 0, []))]
def b249_79 : List kIt := [(79, .inr (.invokevirtual 276, 4, 209, 3, [])), (82, .inr (.nop, 1, 82, 0, []))]
def b249_82 : List kIt := [(82, .inl (.isub, 0, 0, 0)), (83, .inr (.goto 4, 1, 87, 0, []))]
def b249_86 : List kIt := [(86, .inl (.iconst 0, 0, 0, 0)), (87, .inr (.nop, 1, 87, 0, []))]
def b249_87 : List kIt := [(87, .inr (.ireturn, 3, 0, 0, []))]
def b249_88 : List kIt := [(88, .inl (.iconst 0, 0, 0, 0)), (89, .inl (.istore 5, 0, 0, 0)), (91, .inl (.iconst 0, 0, 0, 0)), (92, .inl (.istore 6, 0, 0, 0)), (94, .inr (.nop, 1, 94, 0, []))]
def b249_94 : List kIt := [(94, .inl (.iload 6, 0, 0, 0)), (96, .inl (.aload_n 0, 0, 0, 0)), (97, .inl (.getfield 143, 10, 1, 0)), (100, .inr (.if_icmp .ge 35, 0, 135, 0, [])), (103, .inl (.aload_n 0, 0, 0, 0)), (104, .inl (.iload_n 1, 0, 0, 0)), (105, .inl (.iload 6, 0, 0, 0)), (107, .inr (.invokevirtual 352, 4, 248, 3, [])), (110, .inr (.nop, 1, 110, 0, []))]
def b249_110 : List kIt := [(110, .inl (.aload_n 0, 0, 0, 0)), (111, .inl (.getfield 85, 10, 37, 0)), (114, .inl (.iload 6, 0, 0, 0)), (116, .inl (.iaload, 0, 0, 0)), (117, .inr (.if_icmp .le 12, 0, 129, 0, [])), (120, .inl (.iload 5, 0, 0, 0)), (122, .inl (.iconst 1, 0, 0, 0)), (123, .inl (.iload 6, 0, 0, 0)), (125, .inl (.ishl, 0, 0, 0)), (126, .inl (.ior, 0, 0, 0)), (127, .inl (.istore 5, 0, 0, 0)), (129, .inr (.nop, 1, 129, 0, []))]
def b249_129 : List kIt := [(129, .inl (.iinc 6 1, 0, 0, 0)), (132, .inr (.goto (-38), 1, 94, 0, []))]
def b249_135 : List kIt := [(135, .inl (.iload 5, 0, 0, 0)), (137, .inr (.ireturn, 3, 0, 0, []))]
def c249 : List (Nat × List kIt) := [(0, b249_0), (4, b249_4), (11, b249_11), (25, b249_25), (28, b249_28), (30, b249_30), (36, b249_36), (46, b249_46), (51, b249_51), (61, b249_61), (79, b249_79), (82, b249_82), (86, b249_86), (87, b249_87), (88, b249_88), (94, b249_94), (110, b249_110), (129, b249_129), (135, b249_135)]
-- 250: PennyALapModel.drawnLaps
def b250_0 : List kIt := [(0, .inl (.iconst 0, 0, 0, 0)), (1, .inl (.istore_n 3, 0, 0, 0)), (2, .inl (.iconst 0, 0, 0, 0)), (3, .inl (.istore 4, 0, 0, 0)), (5, .inr (.nop, 1, 5, 0, []))]
def b250_5 : List kIt := [(5, .inl (.iload 4, 0, 0, 0)), (7, .inl (.aload_n 0, 0, 0, 0)), (8, .inl (.getfield 16, 10, 4, 0)), (11, .inl (.iload_n 1, 0, 0, 0)), (12, .inl (.iaload, 0, 0, 0)), (13, .inr (.if_icmp .ge 83, 0, 96, 0, [])), (16, .inl (.aload_n 0, 0, 0, 0)), (17, .inl (.aload_n 0, 0, 0, 0)), (18, .inl (.getfield 355, 10, 42, 0)), (21, .inl (.ldc_w 358, 0, 0, 1103515245)), (24, .inl (.imul, 0, 0, 0)), (25, .inl (.sipush 12345, 0, 0, 0)), (28, .inl (.iadd, 0, 0, 0)), (29, .inl (.putfield 355, 10, 42, 0)), (32, .inl (.aload_n 0, 0, 0, 0)), (33, .inl (.iload_n 1, 0, 0, 0)), (34, .inl (.iload 4, 0, 0, 0)), (36, .inl (.iload_n 3, 0, 0, 0)), (37, .inr (.invokevirtual 273, 4, 205, 4, [])), (40, .inr (.nop, 1, 40, 0, []))]
def b250_40 : List kIt := [(40, .inl (.istore 5, 0, 0, 0)), (42, .inl (.aload_n 0, 0, 0, 0)), (43, .inl (.getfield 355, 10, 42, 0)), (46, .inl (.bipush 8, 0, 0, 0)), (48, .inl (.iushr, 0, 0, 0)), (49, .inl (.bipush 12, 0, 0, 0)), (51, .inl (.irem, 0, 0, 0)), (52, .inl (.aload_n 0, 0, 0, 0)), (53, .inl (.getfield 19, 10, 5, 0)), (56, .inl (.iload_n 1, 0, 0, 0)), (57, .inl (.iaload, 0, 0, 0)), (58, .inr (.if_icmp .ge 19, 0, 77, 0, [])), (61, .inl (.iload 5, 0, 0, 0)), (63, .inl (.iconst 2, 0, 0, 0)), (64, .inr (.if_icmp .ge 7, 0, 71, 0, [])), (67, .inl (.iconst 1, 0, 0, 0)), (68, .inr (.goto 7, 1, 75, 0, []))]
def b250_71 : List kIt := [(71, .inl (.iload 5, 0, 0, 0)), (73, .inl (.iconst 2, 0, 0, 0)), (74, .inl (.idiv, 0, 0, 0)), (75, .inr (.nop, 1, 75, 0, []))]
def b250_75 : List kIt := [(75, .inl (.istore 5, 0, 0, 0)), (77, .inr (.nop, 1, 77, 0, []))]
def b250_77 : List kIt := [(77, .inl (.iload_n 3, 0, 0, 0)), (78, .inl (.iload 5, 0, 0, 0)), (80, .inl (.iadd, 0, 0, 0)), (81, .inl (.istore_n 3, 0, 0, 0)), (82, .inl (.iload_n 3, 0, 0, 0)), (83, .inl (.iload_n 2, 0, 0, 0)), (84, .inr (.if_icmp .le 6, 0, 90, 0, [])), (87, .inl (.iload 4, 0, 0, 0)), (89, .inr (.ireturn, 3, 0, 0, []))]
def b250_90 : List kIt := [(90, .inl (.iinc 4 1, 0, 0, 0)), (93, .inr (.goto (-88), 1, 5, 0, []))]
def b250_96 : List kIt := [(96, .inl (.iload 4, 0, 0, 0)), (98, .inr (.ireturn, 3, 0, 0, []))]
def c250 : List (Nat × List kIt) := [(0, b250_0), (5, b250_5), (40, b250_40), (71, b250_71), (75, b250_75), (77, b250_77), (90, b250_90), (96, b250_96)]
-- 251: PennyALapModel.drawn
def b251_0 : List kIt := [(0, .inl (.iload_n 2, 0, 0, 0)), (1, .inr (.ifCond .lt 26, 0, 27, 0, [])), (4, .inl (.iload_n 2, 0, 0, 0)), (5, .inl (.sipush 1000, 0, 0, 0)), (8, .inl (.idiv, 0, 0, 0)), (9, .inl (.iconst 1, 0, 0, 0)), (10, .inl (.bipush 30, 0, 0, 0)), (12, .inr (.invokestatic 146, 4, 170, 3, [])), (15, .inr (.nop, 1, 15, 0, []))]
def b251_15 : List kIt := [(15, .inr (.ifCond .eq 12, 0, 27, 0, [])), (18, .inl (.iload_n 3, 0, 0, 0)), (19, .inl (.iconst 0, 0, 0, 0)), (20, .inl (.iconst 1, 0, 0, 0)), (21, .inr (.invokestatic 146, 4, 170, 3, [])), (24, .inr (.nop, 1, 24, 0, []))]
def b251_24 : List kIt := [(24, .inr (.ifCond .ne 5, 0, 29, 0, [])), (27, .inr (.nop, 1, 27, 0, []))]
def b251_27 : List kIt := [(27, .inl (.iconst (-1), 0, 0, 0)), (28, .inr (.ireturn, 3, 0, 0, []))]
def b251_29 : List kIt := [(29, .inl (.aload_n 0, 0, 0, 0)), (30, .inl (.iload_n 1, 0, 0, 0)), (31, .inl (.putfield 355, 10, 42, 0)), (34, .inl (.iconst 0, 0, 0, 0)), (35, .inl (.istore 4, 0, 0, 0)), (37, .inl (.iconst 0, 0, 0, 0)), (38, .inl (.istore 5, 0, 0, 0)), (40, .inr (.nop, 1, 40, 0, []))]
def b251_40 : List kIt := [(40, .inl (.iload 5, 0, 0, 0)), (42, .inl (.iload_n 2, 0, 0, 0)), (43, .inl (.sipush 1000, 0, 0, 0)), (46, .inl (.idiv, 0, 0, 0)), (47, .inr (.if_icmp .ge 65, 0, 112, 0, [])), (50, .inl (.iconst 0, 0, 0, 0)), (51, .inl (.istore 6, 0, 0, 0)), (53, .inr (.nop, 1, 53, 0, []))]
def b251_53 : List kIt := [(53, .inl (.iload 6, 0, 0, 0)), (55, .inl (.aload_n 0, 0, 0, 0)), (56, .inl (.getfield 143, 10, 1, 0)), (59, .inr (.if_icmp .ge 27, 0, 86, 0, [])), (62, .inl (.aload_n 0, 0, 0, 0)), (63, .inl (.getfield 85, 10, 37, 0)), (66, .inl (.iload 6, 0, 0, 0)), (68, .inl (.aload_n 0, 0, 0, 0)), (69, .inl (.iload 6, 0, 0, 0)), (71, .inl (.iload_n 2, 0, 0, 0)), (72, .inl (.sipush 1000, 0, 0, 0)), (75, .inl (.irem, 0, 0, 0)), (76, .inr (.invokevirtual 359, 4, 250, 3, [])), (79, .inr (.nop, 1, 79, 0, []))]
def b251_79 : List kIt := [(79, .inl (.iastore, 0, 0, 0)), (80, .inl (.iinc 6 1, 0, 0, 0)), (83, .inr (.goto (-30), 1, 53, 0, []))]
def b251_86 : List kIt := [(86, .inl (.iload 4, 0, 0, 0)), (88, .inl (.iload_n 3, 0, 0, 0)), (89, .inr (.ifCond .ne 10, 0, 99, 0, [])), (92, .inl (.aload_n 0, 0, 0, 0)), (93, .inr (.invokevirtual 307, 4, 218, 1, [])), (96, .inr (.nop, 1, 96, 0, []))]
def b251_96 : List kIt := [(96, .inr (.goto 7, 1, 103, 0, []))]
def b251_99 : List kIt := [(99, .inl (.aload_n 0, 0, 0, 0)), (100, .inr (.invokevirtual 310, 4, 220, 1, [])), (103, .inr (.nop, 1, 103, 0, []))]
def b251_103 : List kIt := [(103, .inl (.iadd, 0, 0, 0)), (104, .inl (.istore 4, 0, 0, 0)), (106, .inl (.iinc 5 1, 0, 0, 0)), (109, .inr (.goto (-69), 1, 40, 0, []))]
def b251_112 : List kIt := [(112, .inl (.iload 4, 0, 0, 0)), (114, .inr (.ireturn, 3, 0, 0, []))]
def c251 : List (Nat × List kIt) := [(0, b251_0), (15, b251_15), (24, b251_24), (27, b251_27), (29, b251_29), (40, b251_40), (53, b251_53), (79, b251_79), (86, b251_86), (96, b251_96), (99, b251_99), (103, b251_103), (112, b251_112)]
-- 252: PennyALapModel.run
def b252_0 : List kIt := [(0, .inl (.aload_n 0, 0, 0, 0)), (1, .inl (.iload_n 1, 0, 0, 0)), (2, .inr (.invokevirtual 153, 4, 171, 2, [])), (5, .inr (.nop, 1, 5, 0, []))]
def b252_5 : List kIt := [(5, .inr (.ifCond .ne 5, 0, 10, 0, [])), (8, .inl (.iconst (-1), 0, 0, 0)), (9, .inr (.ireturn, 3, 0, 0, []))]
def b252_10 : List kIt := [(10, .inl (.aload_n 0, 0, 0, 0)), (11, .inl (.getfield 100, 10, 43, 0)), (14, .inl (.iload_n 1, 0, 0, 0)), (15, .inl (.iaload, 0, 0, 0)), (16, .inl (.aload_n 0, 0, 0, 0)), (17, .inl (.getfield 16, 10, 4, 0)), (20, .inl (.iload_n 1, 0, 0, 0)), (21, .inl (.iaload, 0, 0, 0)), (22, .inr (.if_icmp .lt 6, 0, 28, 0, [])), (25, .inl (.bipush (-5), 0, 0, 0)), (27, .inr (.ireturn, 3, 0, 0, []))]
def b252_28 : List kIt := [(28, .inl (.aload_n 0, 0, 0, 0)), (29, .inl (.iload_n 1, 0, 0, 0)), (30, .inl (.aload_n 0, 0, 0, 0)), (31, .inl (.getfield 100, 10, 43, 0)), (34, .inl (.iload_n 1, 0, 0, 0)), (35, .inl (.iaload, 0, 0, 0)), (36, .inl (.aload_n 0, 0, 0, 0)), (37, .inl (.getfield 103, 10, 44, 0)), (40, .inl (.iload_n 1, 0, 0, 0)), (41, .inl (.iaload, 0, 0, 0)), (42, .inr (.invokevirtual 273, 4, 205, 4, [])), (45, .inr (.nop, 1, 45, 0, []))]
def b252_45 : List kIt := [(45, .inl (.istore_n 2, 0, 0, 0)), (46, .inl (.aload_n 0, 0, 0, 0)), (47, .inl (.getfield 103, 10, 44, 0)), (50, .inl (.iload_n 1, 0, 0, 0)), (51, .inl (.iaload, 0, 0, 0)), (52, .inl (.iload_n 2, 0, 0, 0)), (53, .inl (.iadd, 0, 0, 0)), (54, .inl (.sipush 9999, 0, 0, 0)), (57, .inr (.if_icmp .le 6, 0, 63, 0, [])), (60, .inl (.bipush (-5), 0, 0, 0)), (62, .inr (.ireturn, 3, 0, 0, []))]
def b252_63 : List kIt := [(63, .inl (.aload_n 0, 0, 0, 0)), (64, .inl (.getfield 100, 10, 43, 0)), (67, .inl (.iload_n 1, 0, 0, 0)), (68, .inl (.dup2, 0, 0, 0)), (69, .inl (.iaload, 0, 0, 0)), (70, .inl (.iconst 1, 0, 0, 0)), (71, .inl (.iadd, 0, 0, 0)), (72, .inl (.iastore, 0, 0, 0)), (73, .inl (.aload_n 0, 0, 0, 0)), (74, .inl (.getfield 103, 10, 44, 0)), (77, .inl (.iload_n 1, 0, 0, 0)), (78, .inl (.dup2, 0, 0, 0)), (79, .inl (.iaload, 0, 0, 0)), (80, .inl (.iload_n 2, 0, 0, 0)), (81, .inl (.iadd, 0, 0, 0)), (82, .inl (.iastore, 0, 0, 0)), (83, .inl (.aload_n 0, 0, 0, 0)), (84, .inl (.getfield 109, 10, 46, 0)), (87, .inl (.iconst 0, 0, 0, 0)), (88, .inl (.dup2, 0, 0, 0)), (89, .inl (.iaload, 0, 0, 0)), (90, .inl (.iconst 1, 0, 0, 0)), (91, .inl (.iadd, 0, 0, 0)), (92, .inl (.iastore, 0, 0, 0)), (93, .inl (.aload_n 0, 0, 0, 0)), (94, .inl (.getfield 109, 10, 46, 0)), (97, .inl (.iconst 3, 0, 0, 0)), (98, .inl (.dup2, 0, 0, 0)), (99, .inl (.iaload, 0, 0, 0)), (100, .inl (.iload_n 2, 0, 0, 0)), (101, .inl (.iadd, 0, 0, 0)), (102, .inl (.iastore, 0, 0, 0)), (103, .inl (.aload_n 0, 0, 0, 0)), (104, .inl (.getfield 103, 10, 44, 0)), (107, .inl (.iload_n 1, 0, 0, 0)), (108, .inl (.iaload, 0, 0, 0)), (109, .inr (.ireturn, 3, 0, 0, []))]
def c252 : List (Nat × List kIt) := [(0, b252_0), (5, b252_5), (10, b252_10), (28, b252_28), (45, b252_45), (63, b252_63)]
-- 253: PennyALapModel.ask
def b253_0 : List kIt := [(0, .inl (.aload_n 0, 0, 0, 0)), (1, .inl (.iload_n 1, 0, 0, 0)), (2, .inr (.invokevirtual 186, 4, 172, 2, [])), (5, .inr (.nop, 1, 5, 0, []))]
def b253_5 : List kIt := [(5, .inr (.ifCond .ne 5, 0, 10, 0, [])), (8, .inl (.iconst (-1), 0, 0, 0)), (9, .inr (.ireturn, 3, 0, 0, []))]
def b253_10 : List kIt := [(10, .inl (.aload_n 0, 0, 0, 0)), (11, .inl (.getfield 100, 10, 43, 0)), (14, .inl (.aload_n 0, 0, 0, 0)), (15, .inl (.getfield 22, 10, 7, 0)), (18, .inl (.iload_n 1, 0, 0, 0)), (19, .inl (.iaload, 0, 0, 0)), (20, .inl (.iaload, 0, 0, 0)), (21, .inl (.istore_n 2, 0, 0, 0)), (22, .inl (.aload_n 0, 0, 0, 0)), (23, .inl (.iload_n 1, 0, 0, 0)), (24, .inl (.iload_n 2, 0, 0, 0)), (25, .inr (.invokevirtual 285, 4, 213, 3, [])), (28, .inr (.nop, 1, 28, 0, []))]
def b253_28 : List kIt := [(28, .inl (.aload_n 0, 0, 0, 0)), (29, .inl (.getfield 106, 10, 45, 0)), (32, .inl (.iload_n 1, 0, 0, 0)), (33, .inl (.iaload, 0, 0, 0)), (34, .inl (.isub, 0, 0, 0)), (35, .inl (.istore_n 3, 0, 0, 0)), (36, .inl (.iload_n 3, 0, 0, 0)), (37, .inr (.ifCond .ge 5, 0, 42, 0, [])), (40, .inl (.iconst 0, 0, 0, 0)), (41, .inl (.istore_n 3, 0, 0, 0)), (42, .inr (.nop, 1, 42, 0, []))]
def b253_42 : List kIt := [(42, .inl (.aload_n 0, 0, 0, 0)), (43, .inl (.getfield 106, 10, 45, 0)), (46, .inl (.iload_n 1, 0, 0, 0)), (47, .inl (.dup2, 0, 0, 0)), (48, .inl (.iaload, 0, 0, 0)), (49, .inl (.iload_n 3, 0, 0, 0)), (50, .inl (.iadd, 0, 0, 0)), (51, .inl (.iastore, 0, 0, 0)), (52, .inl (.aload_n 0, 0, 0, 0)), (53, .inl (.getfield 109, 10, 46, 0)), (56, .inl (.iconst 1, 0, 0, 0)), (57, .inl (.dup2, 0, 0, 0)), (58, .inl (.iaload, 0, 0, 0)), (59, .inl (.iload_n 3, 0, 0, 0)), (60, .inl (.iadd, 0, 0, 0)), (61, .inl (.iastore, 0, 0, 0)), (62, .inl (.aload_n 0, 0, 0, 0)), (63, .inl (.iload_n 1, 0, 0, 0)), (64, .inl (.iload_n 2, 0, 0, 0)), (65, .inr (.invokevirtual 282, 4, 212, 3, [])), (68, .inr (.nop, 1, 68, 0, []))]
def b253_68 : List kIt := [(68, .inl (.aload_n 0, 0, 0, 0)), (69, .inl (.getfield 37, 10, 12, 0)), (72, .inl (.iload_n 1, 0, 0, 0)), (73, .inl (.iaload, 0, 0, 0)), (74, .inr (.if_icmp .le 13, 0, 87, 0, [])), (77, .inl (.aload_n 0, 0, 0, 0)), (78, .inl (.getfield 109, 10, 46, 0)), (81, .inl (.iconst 4, 0, 0, 0)), (82, .inl (.dup2, 0, 0, 0)), (83, .inl (.iaload, 0, 0, 0)), (84, .inl (.iconst 1, 0, 0, 0)), (85, .inl (.iadd, 0, 0, 0)), (86, .inl (.iastore, 0, 0, 0)), (87, .inr (.nop, 1, 87, 0, []))]
def b253_87 : List kIt := [(87, .inl (.iload_n 3, 0, 0, 0)), (88, .inr (.ireturn, 3, 0, 0, []))]
def c253 : List (Nat × List kIt) := [(0, b253_0), (5, b253_5), (10, b253_10), (28, b253_28), (42, b253_42), (68, b253_68), (87, b253_87)]
-- 254: PennyALapModel.anew
def b254_0 : List kIt := [(0, .inl (.iconst 0, 0, 0, 0)), (1, .inl (.istore_n 1, 0, 0, 0)), (2, .inl (.iconst 0, 0, 0, 0)), (3, .inl (.istore_n 2, 0, 0, 0)), (4, .inr (.nop, 1, 4, 0, []))]
def b254_4 : List kIt := [(4, .inl (.iload_n 2, 0, 0, 0)), (5, .inl (.bipush 6, 0, 0, 0)), (7, .inr (.if_icmp .ge 32, 0, 39, 0, [])), (10, .inl (.iload_n 1, 0, 0, 0)), (11, .inl (.aload_n 0, 0, 0, 0)), (12, .inl (.getfield 100, 10, 43, 0)), (15, .inl (.iload_n 2, 0, 0, 0)), (16, .inl (.iaload, 0, 0, 0)), (17, .inl (.iadd, 0, 0, 0)), (18, .inl (.istore_n 1, 0, 0, 0)), (19, .inl (.aload_n 0, 0, 0, 0)), (20, .inl (.getfield 100, 10, 43, 0)), (23, .inl (.iload_n 2, 0, 0, 0)), (24, .inl (.iconst 0, 0, 0, 0)), (25, .inl (.iastore, 0, 0, 0)), (26, .inl (.aload_n 0, 0, 0, 0)), (27, .inl (.getfield 103, 10, 44, 0)), (30, .inl (.iload_n 2, 0, 0, 0)), (31, .inl (.iconst 0, 0, 0, 0)), (32, .inl (.iastore, 0, 0, 0)), (33, .inl (.iinc 2 1, 0, 0, 0)), (36, .inr (.goto (-32), 1, 4, 0, []))]
def b254_39 : List kIt := [(39, .inl (.iconst 0, 0, 0, 0)), (40, .inl (.istore_n 2, 0, 0, 0)), (41, .inr (.nop, 1, 41, 0, []))]
def b254_41 : List kIt := [(41, .inl (.iload_n 2, 0, 0, 0)), (42, .inl (.bipush 16, 0, 0, 0)), (44, .inr (.if_icmp .ge 16, 0, 60, 0, [])), (47, .inl (.aload_n 0, 0, 0, 0)), (48, .inl (.getfield 106, 10, 45, 0)), (51, .inl (.iload_n 2, 0, 0, 0)), (52, .inl (.iconst 0, 0, 0, 0)), (53, .inl (.iastore, 0, 0, 0)), (54, .inl (.iinc 2 1, 0, 0, 0)), (57, .inr (.goto (-16), 1, 41, 0, []))]
def b254_60 : List kIt := [(60, .inl (.aload_n 0, 0, 0, 0)), (61, .inl (.getfield 109, 10, 46, 0)), (64, .inl (.iconst 2, 0, 0, 0)), (65, .inl (.dup2, 0, 0, 0)), (66, .inl (.iaload, 0, 0, 0)), (67, .inl (.iconst 1, 0, 0, 0)), (68, .inl (.iadd, 0, 0, 0)), (69, .inl (.iastore, 0, 0, 0)), (70, .inl (.iload_n 1, 0, 0, 0)), (71, .inr (.ireturn, 3, 0, 0, []))]
def c254 : List (Nat × List kIt) := [(0, b254_0), (4, b254_4), (39, b254_39), (41, b254_41), (60, b254_60)]
-- 255: PennyALapModel.led
def b255_0 : List kIt := [(0, .inl (.iload_n 1, 0, 0, 0)), (1, .inl (.iconst 0, 0, 0, 0)), (2, .inl (.iconst 4, 0, 0, 0)), (3, .inr (.invokestatic 146, 4, 170, 3, [])), (6, .inr (.nop, 1, 6, 0, []))]
def b255_6 : List kIt := [(6, .inr (.ifCond .eq 12, 0, 18, 0, [])), (9, .inl (.aload_n 0, 0, 0, 0)), (10, .inl (.getfield 109, 10, 46, 0)), (13, .inl (.iload_n 1, 0, 0, 0)), (14, .inl (.iaload, 0, 0, 0)), (15, .inr (.goto 4, 1, 19, 0, []))]
def b255_18 : List kIt := [(18, .inl (.iconst (-1), 0, 0, 0)), (19, .inr (.nop, 1, 19, 0, []))]
def b255_19 : List kIt := [(19, .inr (.ireturn, 3, 0, 0, []))]
def c255 : List (Nat × List kIt) := [(0, b255_0), (6, b255_6), (18, b255_18), (19, b255_19)]
-- 256: PennyALapModel.image
def b256_0 : List kIt := [(0, .inl (.aload_n 0, 0, 0, 0)), (1, .inl (.iconst 1, 0, 0, 0)), (2, .inl (.putfield 362, 10, 47, 1)), (5, .inl (.iconst 0, 0, 0, 0)), (6, .inl (.istore_n 1, 0, 0, 0)), (7, .inr (.nop, 1, 7, 0, []))]
def b256_7 : List kIt := [(7, .inl (.iload_n 1, 0, 0, 0)), (8, .inl (.bipush 6, 0, 0, 0)), (10, .inr (.if_icmp .ge 39, 0, 49, 0, [])), (13, .inl (.aload_n 0, 0, 0, 0)), (14, .inl (.getfield 112, 10, 48, 0)), (17, .inl (.iconst 2, 0, 0, 0)), (18, .inl (.iload_n 1, 0, 0, 0)), (19, .inl (.imul, 0, 0, 0)), (20, .inl (.aload_n 0, 0, 0, 0)), (21, .inl (.getfield 100, 10, 43, 0)), (24, .inl (.iload_n 1, 0, 0, 0)), (25, .inl (.iaload, 0, 0, 0)), (26, .inl (.iastore, 0, 0, 0)), (27, .inl (.aload_n 0, 0, 0, 0)), (28, .inl (.getfield 112, 10, 48, 0)), (31, .inl (.iconst 2, 0, 0, 0)), (32, .inl (.iload_n 1, 0, 0, 0)), (33, .inl (.imul, 0, 0, 0)), (34, .inl (.iconst 1, 0, 0, 0)), (35, .inl (.iadd, 0, 0, 0)), (36, .inl (.aload_n 0, 0, 0, 0)), (37, .inl (.getfield 103, 10, 44, 0)), (40, .inl (.iload_n 1, 0, 0, 0)), (41, .inl (.iaload, 0, 0, 0)), (42, .inl (.iastore, 0, 0, 0)), (43, .inl (.iinc 1 1, 0, 0, 0)), (46, .inr (.goto (-39), 1, 7, 0, []))]
def b256_49 : List kIt := [(49, .inl (.iconst 0, 0, 0, 0)), (50, .inl (.istore_n 1, 0, 0, 0)), (51, .inr (.nop, 1, 51, 0, []))]
def b256_51 : List kIt := [(51, .inl (.iload_n 1, 0, 0, 0)), (52, .inl (.bipush 16, 0, 0, 0)), (54, .inr (.if_icmp .ge 21, 0, 75, 0, [])), (57, .inl (.aload_n 0, 0, 0, 0)), (58, .inl (.getfield 115, 10, 49, 0)), (61, .inl (.iload_n 1, 0, 0, 0)), (62, .inl (.aload_n 0, 0, 0, 0)), (63, .inl (.getfield 106, 10, 45, 0)), (66, .inl (.iload_n 1, 0, 0, 0)), (67, .inl (.iaload, 0, 0, 0)), (68, .inl (.iastore, 0, 0, 0)), (69, .inl (.iinc 1 1, 0, 0, 0)), (72, .inr (.goto (-21), 1, 51, 0, []))]
def b256_75 : List kIt := [(75, .inl (.iconst 0, 0, 0, 0)), (76, .inl (.istore_n 1, 0, 0, 0)), (77, .inr (.nop, 1, 77, 0, []))]
def b256_77 : List kIt := [(77, .inl (.iload_n 1, 0, 0, 0)), (78, .inl (.iconst 5, 0, 0, 0)), (79, .inr (.if_icmp .ge 21, 0, 100, 0, [])), (82, .inl (.aload_n 0, 0, 0, 0)), (83, .inl (.getfield 118, 10, 50, 0)), (86, .inl (.iload_n 1, 0, 0, 0)), (87, .inl (.aload_n 0, 0, 0, 0)), (88, .inl (.getfield 109, 10, 46, 0)), (91, .inl (.iload_n 1, 0, 0, 0)), (92, .inl (.iaload, 0, 0, 0)), (93, .inl (.iastore, 0, 0, 0)), (94, .inl (.iinc 1 1, 0, 0, 0)), (97, .inr (.goto (-20), 1, 77, 0, []))]
def b256_100 : List kIt := [(100, .inl (.aload_n 0, 0, 0, 0)), (101, .inl (.getfield 109, 10, 46, 0)), (104, .inl (.iconst 0, 0, 0, 0)), (105, .inl (.iaload, 0, 0, 0)), (106, .inr (.ireturn, 3, 0, 0, []))]
def c256 : List (Nat × List kIt) := [(0, b256_0), (7, b256_7), (49, b256_49), (51, b256_51), (75, b256_75), (77, b256_77), (100, b256_100)]
-- 257: PennyALapModel.back
def b257_0 : List kIt := [(0, .inl (.aload_n 0, 0, 0, 0)), (1, .inl (.getfield 362, 10, 47, 0)), (4, .inr (.ifCond .ne 6, 0, 10, 0, [])), (7, .inl (.bipush (-5), 0, 0, 0)), (9, .inr (.ireturn, 3, 0, 0, []))]
def b257_10 : List kIt := [(10, .inl (.iconst 0, 0, 0, 0)), (11, .inl (.istore_n 1, 0, 0, 0)), (12, .inr (.nop, 1, 12, 0, []))]
def b257_12 : List kIt := [(12, .inl (.iload_n 1, 0, 0, 0)), (13, .inl (.bipush 6, 0, 0, 0)), (15, .inr (.if_icmp .ge 39, 0, 54, 0, [])), (18, .inl (.aload_n 0, 0, 0, 0)), (19, .inl (.getfield 100, 10, 43, 0)), (22, .inl (.iload_n 1, 0, 0, 0)), (23, .inl (.aload_n 0, 0, 0, 0)), (24, .inl (.getfield 112, 10, 48, 0)), (27, .inl (.iconst 2, 0, 0, 0)), (28, .inl (.iload_n 1, 0, 0, 0)), (29, .inl (.imul, 0, 0, 0)), (30, .inl (.iaload, 0, 0, 0)), (31, .inl (.iastore, 0, 0, 0)), (32, .inl (.aload_n 0, 0, 0, 0)), (33, .inl (.getfield 103, 10, 44, 0)), (36, .inl (.iload_n 1, 0, 0, 0)), (37, .inl (.aload_n 0, 0, 0, 0)), (38, .inl (.getfield 112, 10, 48, 0)), (41, .inl (.iconst 2, 0, 0, 0)), (42, .inl (.iload_n 1, 0, 0, 0)), (43, .inl (.imul, 0, 0, 0)), (44, .inl (.iconst 1, 0, 0, 0)), (45, .inl (.iadd, 0, 0, 0)), (46, .inl (.iaload, 0, 0, 0)), (47, .inl (.iastore, 0, 0, 0)), (48, .inl (.iinc 1 1, 0, 0, 0)), (51, .inr (.goto (-39), 1, 12, 0, []))]
def b257_54 : List kIt := [(54, .inl (.iconst 0, 0, 0, 0)), (55, .inl (.istore_n 1, 0, 0, 0)), (56, .inr (.nop, 1, 56, 0, []))]
def b257_56 : List kIt := [(56, .inl (.iload_n 1, 0, 0, 0)), (57, .inl (.bipush 16, 0, 0, 0)), (59, .inr (.if_icmp .ge 21, 0, 80, 0, [])), (62, .inl (.aload_n 0, 0, 0, 0)), (63, .inl (.getfield 106, 10, 45, 0)), (66, .inl (.iload_n 1, 0, 0, 0)), (67, .inl (.aload_n 0, 0, 0, 0)), (68, .inl (.getfield 115, 10, 49, 0)), (71, .inl (.iload_n 1, 0, 0, 0)), (72, .inl (.iaload, 0, 0, 0)), (73, .inl (.iastore, 0, 0, 0)), (74, .inl (.iinc 1 1, 0, 0, 0)), (77, .inr (.goto (-21), 1, 56, 0, []))]
def b257_80 : List kIt := [(80, .inl (.iconst 0, 0, 0, 0)), (81, .inl (.istore_n 1, 0, 0, 0)), (82, .inr (.nop, 1, 82, 0, []))]
def b257_82 : List kIt := [(82, .inl (.iload_n 1, 0, 0, 0)), (83, .inl (.iconst 5, 0, 0, 0)), (84, .inr (.if_icmp .ge 21, 0, 105, 0, [])), (87, .inl (.aload_n 0, 0, 0, 0)), (88, .inl (.getfield 109, 10, 46, 0)), (91, .inl (.iload_n 1, 0, 0, 0)), (92, .inl (.aload_n 0, 0, 0, 0)), (93, .inl (.getfield 118, 10, 50, 0)), (96, .inl (.iload_n 1, 0, 0, 0)), (97, .inl (.iaload, 0, 0, 0)), (98, .inl (.iastore, 0, 0, 0)), (99, .inl (.iinc 1 1, 0, 0, 0)), (102, .inr (.goto (-20), 1, 82, 0, []))]
def b257_105 : List kIt := [(105, .inl (.aload_n 0, 0, 0, 0)), (106, .inl (.getfield 109, 10, 46, 0)), (109, .inl (.iconst 0, 0, 0, 0)), (110, .inl (.iaload, 0, 0, 0)), (111, .inr (.ireturn, 3, 0, 0, []))]
def c257 : List (Nat × List kIt) := [(0, b257_0), (10, b257_10), (12, b257_12), (54, b257_54), (56, b257_56), (80, b257_80), (82, b257_82), (105, b257_105)]
-- 258: PennyALapModel.isBody
def b258_0 : List kIt := [(0, .inl (.iload_n 1, 0, 0, 0)), (1, .inl (.iconst 0, 0, 0, 0)), (2, .inl (.aload_n 0, 0, 0, 0)), (3, .inl (.getfield 365, 10, 51, 0)), (6, .inl (.iconst 1, 0, 0, 0)), (7, .inl (.isub, 0, 0, 0)), (8, .inr (.invokestatic 146, 4, 170, 3, [])), (11, .inr (.nop, 1, 11, 0, []))]
def b258_11 : List kIt := [(11, .inr (.ireturn, 3, 1, 0, []))]
def c258 : List (Nat × List kIt) := [(0, b258_0), (11, b258_11)]
-- 259: PennyALapModel.ran
def b259_0 : List kIt := [(0, .inl (.aload_n 0, 0, 0, 0)), (1, .inl (.getfield 368, 10, 53, 0)), (4, .inl (.bipush 24, 0, 0, 0)), (6, .inr (.if_icmp .ge 13, 0, 19, 0, [])), (9, .inl (.aload_n 0, 0, 0, 0)), (10, .inl (.getfield 124, 10, 54, 0)), (13, .inl (.aload_n 0, 0, 0, 0)), (14, .inl (.getfield 368, 10, 53, 0)), (17, .inl (.iload_n 1, 0, 0, 0)), (18, .inl (.iastore, 0, 0, 0)), (19, .inr (.nop, 1, 19, 0, []))]
def b259_19 : List kIt := [(19, .inl (.aload_n 0, 0, 0, 0)), (20, .inl (.dup, 0, 0, 0)), (21, .inl (.getfield 368, 10, 53, 0)), (24, .inl (.iconst 1, 0, 0, 0)), (25, .inl (.iadd, 0, 0, 0)), (26, .inl (.putfield 368, 10, 53, 0)), (29, .inr (.return_, 3, 0, 0, []))]
def c259 : List (Nat × List kIt) := [(0, b259_0), (19, b259_19)]
-- 260: PennyALapModel.trace
def b260_0 : List kIt := [(0, .inl (.iload_n 1, 0, 0, 0)), (1, .inr (.ifCond .lt 26, 0, 27, 0, [])), (4, .inl (.iload_n 1, 0, 0, 0)), (5, .inl (.aload_n 0, 0, 0, 0)), (6, .inl (.getfield 368, 10, 53, 0)), (9, .inr (.if_icmp .ge 18, 0, 27, 0, [])), (12, .inl (.iload_n 1, 0, 0, 0)), (13, .inl (.bipush 24, 0, 0, 0)), (15, .inr (.if_icmp .ge 12, 0, 27, 0, [])), (18, .inl (.aload_n 0, 0, 0, 0)), (19, .inl (.getfield 124, 10, 54, 0)), (22, .inl (.iload_n 1, 0, 0, 0)), (23, .inl (.iaload, 0, 0, 0)), (24, .inr (.goto 4, 1, 28, 0, []))]
def b260_27 : List kIt := [(27, .inl (.iconst (-1), 0, 0, 0)), (28, .inr (.nop, 1, 28, 0, []))]
def b260_28 : List kIt := [(28, .inr (.ireturn, 3, 0, 0, []))]
def c260 : List (Nat × List kIt) := [(0, b260_0), (27, b260_27), (28, b260_28)]
-- 261: PennyALapModel.body
def b261_0 : List kIt := [(0, .inl (.iload_n 1, 0, 0, 0)), (1, .inl (.iconst 0, 0, 0, 0)), (2, .inl (.bipush 7, 0, 0, 0)), (4, .inr (.invokestatic 146, 4, 170, 3, [])), (7, .inr (.nop, 1, 7, 0, []))]
def b261_7 : List kIt := [(7, .inr (.ifCond .ne 5, 0, 12, 0, [])), (10, .inl (.iconst (-1), 0, 0, 0)), (11, .inr (.ireturn, 3, 0, 0, []))]
def b261_12 : List kIt := [(12, .inl (.aload_n 0, 0, 0, 0)), (13, .inl (.getfield 365, 10, 51, 0)), (16, .inl (.bipush 50, 0, 0, 0)), (18, .inr (.if_icmp .ne 6, 0, 24, 0, [])), (21, .inl (.bipush (-3), 0, 0, 0)), (23, .inr (.ireturn, 3, 0, 0, []))]
def b261_24 : List kIt := [(24, .inl (.aload_n 0, 0, 0, 0)), (25, .inl (.getfield 121, 10, 52, 0)), (28, .inl (.aload_n 0, 0, 0, 0)), (29, .inl (.getfield 365, 10, 51, 0)), (32, .inl (.iload_n 1, 0, 0, 0)), (33, .inl (.iastore, 0, 0, 0)), (34, .inl (.aload_n 0, 0, 0, 0)), (35, .inl (.dup, 0, 0, 0)), (36, .inl (.getfield 365, 10, 51, 0)), (39, .inl (.iconst 1, 0, 0, 0)), (40, .inl (.iadd, 0, 0, 0)), (41, .inl (.putfield 365, 10, 51, 0)), (44, .inl (.aload_n 0, 0, 0, 0)), (45, .inl (.getfield 365, 10, 51, 0)), (48, .inl (.iconst 1, 0, 0, 0)), (49, .inl (.isub, 0, 0, 0)), (50, .inr (.ireturn, 3, 0, 0, []))]
def c261 : List (Nat × List kIt) := [(0, b261_0), (7, b261_7), (12, b261_12), (24, b261_24)]
-- 262: PennyALapModel.isUnder
def b262_0 : List kIt := [(0, .inl (.iload_n 1, 0, 0, 0)), (1, .inr (.ifCond .eq 55, 0, 56, 0, [])), (4, .inl (.iload_n 0, 0, 0, 0)), (5, .inl (.iload_n 1, 0, 0, 0)), (6, .inr (.if_icmp .eq 50, 0, 56, 0, [])), (9, .inl (.iload_n 1, 0, 0, 0)), (10, .inl (.iconst 1, 0, 0, 0)), (11, .inr (.if_icmp .ne 8, 0, 19, 0, [])), (14, .inl (.iload_n 0, 0, 0, 0)), (15, .inl (.iconst 4, 0, 0, 0)), (16, .inr (.if_icmp .eq 40, 0, 56, 0, [])), (19, .inr (.nop, 1, 19, 0, []))]
def b262_19 : List kIt := [(19, .inl (.iload_n 1, 0, 0, 0)), (20, .inl (.iconst 2, 0, 0, 0)), (21, .inr (.if_icmp .ne 13, 0, 34, 0, [])), (24, .inl (.iload_n 0, 0, 0, 0)), (25, .inl (.iconst 3, 0, 0, 0)), (26, .inr (.if_icmp .eq 30, 0, 56, 0, [])), (29, .inl (.iload_n 0, 0, 0, 0)), (30, .inl (.iconst 5, 0, 0, 0)), (31, .inr (.if_icmp .eq 25, 0, 56, 0, [])), (34, .inr (.nop, 1, 34, 0, []))]
def b262_34 : List kIt := [(34, .inl (.iload_n 1, 0, 0, 0)), (35, .inl (.iconst 3, 0, 0, 0)), (36, .inr (.if_icmp .ne 8, 0, 44, 0, [])), (39, .inl (.iload_n 0, 0, 0, 0)), (40, .inl (.iconst 5, 0, 0, 0)), (41, .inr (.if_icmp .eq 15, 0, 56, 0, [])), (44, .inr (.nop, 1, 44, 0, []))]
def b262_44 : List kIt := [(44, .inl (.iload_n 1, 0, 0, 0)), (45, .inl (.bipush 6, 0, 0, 0)), (47, .inr (.if_icmp .ne 13, 0, 60, 0, [])), (50, .inl (.iload_n 0, 0, 0, 0)), (51, .inl (.bipush 7, 0, 0, 0)), (53, .inr (.if_icmp .ne 7, 0, 60, 0, [])), (56, .inr (.nop, 1, 56, 0, []))]
def b262_56 : List kIt := [(56, .inl (.iconst 1, 0, 0, 0)), (57, .inr (.goto 4, 1, 61, 0, []))]
def b262_60 : List kIt := [(60, .inl (.iconst 0, 0, 0, 0)), (61, .inr (.nop, 1, 61, 0, []))]
def b262_61 : List kIt := [(61, .inr (.ireturn, 3, 1, 0, []))]
def c262 : List (Nat × List kIt) := [(0, b262_0), (19, b262_19), (34, b262_34), (44, b262_44), (56, b262_56), (60, b262_60), (61, b262_61)]
-- 263: PennyALapModel.plainRuns
def b263_0 : List kIt := [(0, .inl (.aload_n 0, 0, 0, 0)), (1, .inl (.iconst 1, 0, 0, 0)), (2, .inr (.invokevirtual 371, 4, 259, 2, [])), (5, .inr (.nop, 1, 5, 0, []))]
def b263_5 : List kIt := [(5, .inl (.iload_n 2, 0, 0, 0)), (6, .inl (.iload_n 1, 0, 0, 0)), (7, .inl (.iadd, 0, 0, 0)), (8, .inr (.ireturn, 3, 0, 0, []))]
def c263 : List (Nat × List kIt) := [(0, b263_0), (5, b263_5)]
-- 264: PennyALapModel.prizeRuns
def b264_0 : List kIt := [(0, .inl (.aload_n 0, 0, 0, 0)), (1, .inl (.bipush 70, 0, 0, 0)), (3, .inr (.invokevirtual 371, 4, 259, 2, [])), (6, .inr (.nop, 1, 6, 0, []))]
def b264_6 : List kIt := [(6, .inl (.aload_n 0, 0, 0, 0)), (7, .inl (.iload_n 1, 0, 0, 0)), (8, .inl (.iload_n 2, 0, 0, 0)), (9, .inr (.invokevirtual 374, 4, 263, 3, [])), (12, .inr (.nop, 1, 12, 0, []))]
def b264_12 : List kIt := [(12, .inl (.iconst 2, 0, 0, 0)), (13, .inl (.imul, 0, 0, 0)), (14, .inr (.ireturn, 3, 0, 0, []))]
def c264 : List (Nat × List kIt) := [(0, b264_0), (6, b264_6), (12, b264_12)]
-- 265: PennyALapModel.running
def b265_0 : List kIt := [(0, .inl (.aload_n 0, 0, 0, 0)), (1, .inl (.getfield 121, 10, 52, 0)), (4, .inl (.iload_n 1, 0, 0, 0)), (5, .inl (.iaload, 0, 0, 0)), (6, .inl (.iconst 1, 0, 0, 0)), (7, .inr (.invokestatic 377, 4, 262, 2, [])), (10, .inr (.nop, 1, 10, 0, []))]
def b265_10 : List kIt := [(10, .inr (.ifCond .eq 18, 0, 28, 0, [])), (13, .inl (.aload_n 0, 0, 0, 0)), (14, .inl (.bipush 20, 0, 0, 0)), (16, .inr (.invokevirtual 371, 4, 259, 2, [])), (19, .inr (.nop, 1, 19, 0, []))]
def b265_19 : List kIt := [(19, .inl (.aload_n 0, 0, 0, 0)), (20, .inl (.iload_n 1, 0, 0, 0)), (21, .inl (.iload_n 2, 0, 0, 0)), (22, .inr (.invokevirtual 374, 4, 263, 3, [])), (25, .inr (.nop, 1, 25, 0, []))]
def b265_25 : List kIt := [(25, .inl (.iconst 3, 0, 0, 0)), (26, .inl (.iadd, 0, 0, 0)), (27, .inr (.ireturn, 3, 0, 0, []))]
def b265_28 : List kIt := [(28, .inl (.aload_n 0, 0, 0, 0)), (29, .inl (.getfield 121, 10, 52, 0)), (32, .inl (.iload_n 1, 0, 0, 0)), (33, .inl (.iaload, 0, 0, 0)), (34, .inl (.bipush 7, 0, 0, 0)), (36, .inr (.if_icmp .ne 18, 0, 54, 0, [])), (39, .inl (.aload_n 0, 0, 0, 0)), (40, .inl (.bipush 81, 0, 0, 0)), (42, .inr (.invokevirtual 371, 4, 259, 2, [])), (45, .inr (.nop, 1, 45, 0, []))]
def b265_45 : List kIt := [(45, .inl (.aload_n 0, 0, 0, 0)), (46, .inl (.iload_n 1, 0, 0, 0)), (47, .inl (.iload_n 2, 0, 0, 0)), (48, .inr (.invokevirtual 380, 4, 264, 3, [])), (51, .inr (.nop, 1, 51, 0, []))]
def b265_51 : List kIt := [(51, .inl (.iconst 1, 0, 0, 0)), (52, .inl (.isub, 0, 0, 0)), (53, .inr (.ireturn, 3, 0, 0, []))]
def b265_54 : List kIt := [(54, .inl (.aload_n 0, 0, 0, 0)), (55, .inl (.getfield 121, 10, 52, 0)), (58, .inl (.iload_n 1, 0, 0, 0)), (59, .inl (.iaload, 0, 0, 0)), (60, .inl (.bipush 6, 0, 0, 0)), (62, .inr (.if_icmp .ne 12, 0, 74, 0, [])), (65, .inl (.aload_n 0, 0, 0, 0)), (66, .inl (.iload_n 1, 0, 0, 0)), (67, .inl (.iload_n 2, 0, 0, 0)), (68, .inr (.invokevirtual 380, 4, 264, 3, [])), (71, .inr (.nop, 1, 71, 0, []))]
def b265_71 : List kIt := [(71, .inr (.goto 9, 1, 80, 0, []))]
def b265_74 : List kIt := [(74, .inl (.aload_n 0, 0, 0, 0)), (75, .inl (.iload_n 1, 0, 0, 0)), (76, .inl (.iload_n 2, 0, 0, 0)), (77, .inr (.invokevirtual 374, 4, 263, 3, [])), (80, .inr (.nop, 1, 80, 0, []))]
def b265_80 : List kIt := [(80, .inr (.ireturn, 3, 0, 0, []))]
def c265 : List (Nat × List kIt) := [(0, b265_0), (10, b265_10), (19, b265_19), (25, b265_25), (28, b265_28), (45, b265_45), (51, b265_51), (54, b265_54), (71, b265_71), (74, b265_74), (80, b265_80)]
-- 266: PennyALapModel.plainOwes
def b266_0 : List kIt := [(0, .inl (.aload_n 0, 0, 0, 0)), (1, .inl (.bipush 10, 0, 0, 0)), (3, .inr (.invokevirtual 371, 4, 259, 2, [])), (6, .inr (.nop, 1, 6, 0, []))]
def b266_6 : List kIt := [(6, .inl (.aload_n 0, 0, 0, 0)), (7, .inl (.iload_n 1, 0, 0, 0)), (8, .inl (.iload_n 2, 0, 0, 0)), (9, .inr (.invokevirtual 383, 4, 265, 3, [])), (12, .inr (.nop, 1, 12, 0, []))]
def b266_12 : List kIt := [(12, .inl (.iconst 2, 0, 0, 0)), (13, .inl (.imul, 0, 0, 0)), (14, .inr (.ireturn, 3, 0, 0, []))]
def c266 : List (Nat × List kIt) := [(0, b266_0), (6, b266_6), (12, b266_12)]
-- 267: PennyALapModel.sumOwes
def b267_0 : List kIt := [(0, .inl (.aload_n 0, 0, 0, 0)), (1, .inl (.bipush 30, 0, 0, 0)), (3, .inr (.invokevirtual 371, 4, 259, 2, [])), (6, .inr (.nop, 1, 6, 0, []))]
def b267_6 : List kIt := [(6, .inl (.aload_n 0, 0, 0, 0)), (7, .inl (.iload_n 1, 0, 0, 0)), (8, .inl (.iload_n 2, 0, 0, 0)), (9, .inr (.invokevirtual 386, 4, 266, 3, [])), (12, .inr (.nop, 1, 12, 0, []))]
def b267_12 : List kIt := [(12, .inl (.ineg, 0, 0, 0)), (13, .inr (.ireturn, 3, 0, 0, []))]
def c267 : List (Nat × List kIt) := [(0, b267_0), (6, b267_6), (12, b267_12)]
-- 268: PennyALapModel.owing
def b268_0 : List kIt := [(0, .inl (.aload_n 0, 0, 0, 0)), (1, .inl (.getfield 121, 10, 52, 0)), (4, .inl (.iload_n 1, 0, 0, 0)), (5, .inl (.iaload, 0, 0, 0)), (6, .inl (.iconst 3, 0, 0, 0)), (7, .inr (.invokestatic 377, 4, 262, 2, [])), (10, .inr (.nop, 1, 10, 0, []))]
def b268_10 : List kIt := [(10, .inr (.ifCond .eq 18, 0, 28, 0, [])), (13, .inl (.aload_n 0, 0, 0, 0)), (14, .inl (.bipush 41, 0, 0, 0)), (16, .inr (.invokevirtual 371, 4, 259, 2, [])), (19, .inr (.nop, 1, 19, 0, []))]
def b268_19 : List kIt := [(19, .inl (.aload_n 0, 0, 0, 0)), (20, .inl (.iload_n 1, 0, 0, 0)), (21, .inl (.iload_n 2, 0, 0, 0)), (22, .inl (.iconst 1, 0, 0, 0)), (23, .inl (.iadd, 0, 0, 0)), (24, .inr (.invokevirtual 389, 4, 267, 3, [])), (27, .inr (.nop, 1, 27, 0, []))]
def b268_27 : List kIt := [(27, .inr (.ireturn, 3, 0, 0, []))]
def b268_28 : List kIt := [(28, .inl (.aload_n 0, 0, 0, 0)), (29, .inl (.getfield 121, 10, 52, 0)), (32, .inl (.iload_n 1, 0, 0, 0)), (33, .inl (.iaload, 0, 0, 0)), (34, .inl (.bipush 7, 0, 0, 0)), (36, .inr (.if_icmp .ne 25, 0, 61, 0, [])), (39, .inl (.aload_n 0, 0, 0, 0)), (40, .inl (.bipush 80, 0, 0, 0)), (42, .inr (.invokevirtual 371, 4, 259, 2, [])), (45, .inr (.nop, 1, 45, 0, []))]
def b268_45 : List kIt := [(45, .inl (.aload_n 0, 0, 0, 0)), (46, .inl (.iload_n 1, 0, 0, 0)), (47, .inl (.iload_n 2, 0, 0, 0)), (48, .inr (.invokevirtual 386, 4, 266, 3, [])), (51, .inr (.nop, 1, 51, 0, []))]
def b268_51 : List kIt := [(51, .inl (.istore_n 3, 0, 0, 0)), (52, .inl (.iload_n 3, 0, 0, 0)), (53, .inl (.aload_n 0, 0, 0, 0)), (54, .inl (.iload_n 1, 0, 0, 0)), (55, .inl (.iconst 2, 0, 0, 0)), (56, .inr (.invokevirtual 392, 4, 271, 3, [])), (59, .inr (.nop, 1, 59, 0, []))]
def b268_59 : List kIt := [(59, .inl (.iadd, 0, 0, 0)), (60, .inr (.ireturn, 3, 0, 0, []))]
def b268_61 : List kIt := [(61, .inl (.aload_n 0, 0, 0, 0)), (62, .inl (.getfield 121, 10, 52, 0)), (65, .inl (.iload_n 1, 0, 0, 0)), (66, .inl (.iaload, 0, 0, 0)), (67, .inl (.iconst 2, 0, 0, 0)), (68, .inr (.if_icmp .ne 12, 0, 80, 0, [])), (71, .inl (.aload_n 0, 0, 0, 0)), (72, .inl (.iload_n 1, 0, 0, 0)), (73, .inl (.iload_n 2, 0, 0, 0)), (74, .inr (.invokevirtual 389, 4, 267, 3, [])), (77, .inr (.nop, 1, 77, 0, []))]
def b268_77 : List kIt := [(77, .inr (.goto 9, 1, 86, 0, []))]
def b268_80 : List kIt := [(80, .inl (.aload_n 0, 0, 0, 0)), (81, .inl (.iload_n 1, 0, 0, 0)), (82, .inl (.iload_n 2, 0, 0, 0)), (83, .inr (.invokevirtual 386, 4, 266, 3, [])), (86, .inr (.nop, 1, 86, 0, []))]
def b268_86 : List kIt := [(86, .inr (.ireturn, 3, 0, 0, []))]
def c268 : List (Nat × List kIt) := [(0, b268_0), (10, b268_10), (19, b268_19), (27, b268_27), (28, b268_28), (45, b268_45), (51, b268_51), (59, b268_59), (61, b268_61), (77, b268_77), (80, b268_80), (86, b268_86)]
-- 269: PennyALapModel.plainPays
def b269_0 : List kIt := [(0, .inl (.aload_n 0, 0, 0, 0)), (1, .inl (.bipush 11, 0, 0, 0)), (3, .inr (.invokevirtual 371, 4, 259, 2, [])), (6, .inr (.nop, 1, 6, 0, []))]
def b269_6 : List kIt := [(6, .inl (.iload_n 2, 0, 0, 0)), (7, .inl (.iload_n 1, 0, 0, 0)), (8, .inl (.ixor, 0, 0, 0)), (9, .inr (.ireturn, 3, 0, 0, []))]
def c269 : List (Nat × List kIt) := [(0, b269_0), (6, b269_6)]
-- 270: PennyALapModel.oakPays
def b270_0 : List kIt := [(0, .inl (.aload_n 0, 0, 0, 0)), (1, .inl (.bipush 40, 0, 0, 0)), (3, .inr (.invokevirtual 371, 4, 259, 2, [])), (6, .inr (.nop, 1, 6, 0, []))]
def b270_6 : List kIt := [(6, .inl (.aload_n 0, 0, 0, 0)), (7, .inl (.iload_n 1, 0, 0, 0)), (8, .inl (.iload_n 2, 0, 0, 0)), (9, .inr (.invokevirtual 395, 4, 269, 3, [])), (12, .inr (.nop, 1, 12, 0, []))]
def b270_12 : List kIt := [(12, .inl (.iconst 3, 0, 0, 0)), (13, .inl (.imul, 0, 0, 0)), (14, .inr (.ireturn, 3, 0, 0, []))]
def c270 : List (Nat × List kIt) := [(0, b270_0), (6, b270_6), (12, b270_12)]
-- 271: PennyALapModel.paying
def b271_0 : List kIt := [(0, .inl (.aload_n 0, 0, 0, 0)), (1, .inl (.getfield 121, 10, 52, 0)), (4, .inl (.iload_n 1, 0, 0, 0)), (5, .inl (.iaload, 0, 0, 0)), (6, .inl (.iconst 5, 0, 0, 0)), (7, .inr (.if_icmp .ne 25, 0, 32, 0, [])), (10, .inl (.aload_n 0, 0, 0, 0)), (11, .inl (.bipush 60, 0, 0, 0)), (13, .inr (.invokevirtual 371, 4, 259, 2, [])), (16, .inr (.nop, 1, 16, 0, []))]
def b271_16 : List kIt := [(16, .inl (.aload_n 0, 0, 0, 0)), (17, .inl (.iload_n 1, 0, 0, 0)), (18, .inl (.iload_n 2, 0, 0, 0)), (19, .inr (.invokevirtual 398, 4, 270, 3, [])), (22, .inr (.nop, 1, 22, 0, []))]
def b271_22 : List kIt := [(22, .inl (.istore_n 3, 0, 0, 0)), (23, .inl (.iload_n 3, 0, 0, 0)), (24, .inl (.aload_n 0, 0, 0, 0)), (25, .inl (.iload_n 1, 0, 0, 0)), (26, .inl (.iconst 2, 0, 0, 0)), (27, .inr (.invokevirtual 383, 4, 265, 3, [])), (30, .inr (.nop, 1, 30, 0, []))]
def b271_30 : List kIt := [(30, .inl (.isub, 0, 0, 0)), (31, .inr (.ireturn, 3, 0, 0, []))]
def b271_32 : List kIt := [(32, .inl (.aload_n 0, 0, 0, 0)), (33, .inl (.getfield 121, 10, 52, 0)), (36, .inl (.iload_n 1, 0, 0, 0)), (37, .inl (.iaload, 0, 0, 0)), (38, .inl (.iconst 3, 0, 0, 0)), (39, .inr (.if_icmp .ne 12, 0, 51, 0, [])), (42, .inl (.aload_n 0, 0, 0, 0)), (43, .inl (.iload_n 1, 0, 0, 0)), (44, .inl (.iload_n 2, 0, 0, 0)), (45, .inr (.invokevirtual 398, 4, 270, 3, [])), (48, .inr (.nop, 1, 48, 0, []))]
def b271_48 : List kIt := [(48, .inr (.goto 9, 1, 57, 0, []))]
def b271_51 : List kIt := [(51, .inl (.aload_n 0, 0, 0, 0)), (52, .inl (.iload_n 1, 0, 0, 0)), (53, .inl (.iload_n 2, 0, 0, 0)), (54, .inr (.invokevirtual 395, 4, 269, 3, [])), (57, .inr (.nop, 1, 57, 0, []))]
def b271_57 : List kIt := [(57, .inr (.ireturn, 3, 0, 0, []))]
def c271 : List (Nat × List kIt) := [(0, b271_0), (16, b271_16), (22, b271_22), (30, b271_30), (32, b271_32), (48, b271_48), (51, b271_51), (57, b271_57)]
-- 272: PennyALapModel.plainTells
def b272_0 : List kIt := [(0, .inl (.aload_n 0, 0, 0, 0)), (1, .inl (.iconst 2, 0, 0, 0)), (2, .inr (.invokevirtual 371, 4, 259, 2, [])), (5, .inr (.nop, 1, 5, 0, []))]
def b272_5 : List kIt := [(5, .inl (.aload_n 0, 0, 0, 0)), (6, .inl (.iload_n 1, 0, 0, 0)), (7, .inl (.iload_n 2, 0, 0, 0)), (8, .inr (.invokevirtual 401, 4, 268, 3, [])), (11, .inr (.nop, 1, 11, 0, []))]
def b272_11 : List kIt := [(11, .inl (.istore_n 3, 0, 0, 0)), (12, .inl (.iload_n 3, 0, 0, 0)), (13, .inl (.aload_n 0, 0, 0, 0)), (14, .inl (.iload_n 1, 0, 0, 0)), (15, .inl (.iconst 1, 0, 0, 0)), (16, .inr (.invokevirtual 392, 4, 271, 3, [])), (19, .inr (.nop, 1, 19, 0, []))]
def b272_19 : List kIt := [(19, .inl (.isub, 0, 0, 0)), (20, .inr (.ireturn, 3, 0, 0, []))]
def c272 : List (Nat × List kIt) := [(0, b272_0), (5, b272_5), (11, b272_11), (19, b272_19)]
-- 273: PennyALapModel.telling
def b273_0 : List kIt := [(0, .inl (.aload_n 0, 0, 0, 0)), (1, .inl (.getfield 121, 10, 52, 0)), (4, .inl (.iload_n 1, 0, 0, 0)), (5, .inl (.iaload, 0, 0, 0)), (6, .inl (.iconst 4, 0, 0, 0)), (7, .inr (.if_icmp .ne 18, 0, 25, 0, [])), (10, .inl (.aload_n 0, 0, 0, 0)), (11, .inl (.bipush 50, 0, 0, 0)), (13, .inr (.invokevirtual 371, 4, 259, 2, [])), (16, .inr (.nop, 1, 16, 0, []))]
def b273_16 : List kIt := [(16, .inl (.aload_n 0, 0, 0, 0)), (17, .inl (.iload_n 1, 0, 0, 0)), (18, .inl (.iload_n 2, 0, 0, 0)), (19, .inr (.invokevirtual 404, 4, 272, 3, [])), (22, .inr (.nop, 1, 22, 0, []))]
def b273_22 : List kIt := [(22, .inl (.iconst 5, 0, 0, 0)), (23, .inl (.ixor, 0, 0, 0)), (24, .inr (.ireturn, 3, 0, 0, []))]
def b273_25 : List kIt := [(25, .inl (.aload_n 0, 0, 0, 0)), (26, .inl (.getfield 121, 10, 52, 0)), (29, .inl (.iload_n 1, 0, 0, 0)), (30, .inl (.iaload, 0, 0, 0)), (31, .inl (.iconst 5, 0, 0, 0)), (32, .inr (.if_icmp .ne 18, 0, 50, 0, [])), (35, .inl (.aload_n 0, 0, 0, 0)), (36, .inl (.bipush 61, 0, 0, 0)), (38, .inr (.invokevirtual 371, 4, 259, 2, [])), (41, .inr (.nop, 1, 41, 0, []))]
def b273_41 : List kIt := [(41, .inl (.aload_n 0, 0, 0, 0)), (42, .inl (.iload_n 1, 0, 0, 0)), (43, .inl (.iload_n 2, 0, 0, 0)), (44, .inr (.invokevirtual 404, 4, 272, 3, [])), (47, .inr (.nop, 1, 47, 0, []))]
def b273_47 : List kIt := [(47, .inl (.iconst 1, 0, 0, 0)), (48, .inl (.iadd, 0, 0, 0)), (49, .inr (.ireturn, 3, 0, 0, []))]
def b273_50 : List kIt := [(50, .inl (.aload_n 0, 0, 0, 0)), (51, .inl (.iload_n 1, 0, 0, 0)), (52, .inl (.iload_n 2, 0, 0, 0)), (53, .inr (.invokevirtual 404, 4, 272, 3, [])), (56, .inr (.nop, 1, 56, 0, []))]
def b273_56 : List kIt := [(56, .inr (.ireturn, 3, 0, 0, []))]
def c273 : List (Nat × List kIt) := [(0, b273_0), (16, b273_16), (22, b273_22), (25, b273_25), (41, b273_41), (47, b273_47), (50, b273_50), (56, b273_56)]
-- 274: PennyALapModel.act
def b274_0 : List kIt := [(0, .inl (.aload_n 0, 0, 0, 0)), (1, .inl (.iconst 0, 0, 0, 0)), (2, .inl (.putfield 368, 10, 53, 0)), (5, .inl (.aload_n 0, 0, 0, 0)), (6, .inl (.iload_n 1, 0, 0, 0)), (7, .inr (.invokevirtual 407, 4, 258, 2, [])), (10, .inr (.nop, 1, 10, 0, []))]
def b274_10 : List kIt := [(10, .inr (.ifCond .eq 12, 0, 22, 0, [])), (13, .inl (.iload_n 2, 0, 0, 0)), (14, .inl (.iconst 0, 0, 0, 0)), (15, .inl (.iconst 3, 0, 0, 0)), (16, .inr (.invokestatic 146, 4, 170, 3, [])), (19, .inr (.nop, 1, 19, 0, []))]
def b274_19 : List kIt := [(19, .inr (.ifCond .ne 5, 0, 24, 0, [])), (22, .inr (.nop, 1, 22, 0, []))]
def b274_22 : List kIt := [(22, .inl (.iconst 0, 0, 0, 0)), (23, .inr (.ireturn, 3, 0, 0, []))]
def b274_24 : List kIt := [(24, .inl (.iload_n 2, 0, 0, 0)), (25, .inr (.ifCond .ne 12, 0, 37, 0, [])), (28, .inl (.aload_n 0, 0, 0, 0)), (29, .inl (.iload_n 1, 0, 0, 0)), (30, .inl (.iload_n 3, 0, 0, 0)), (31, .inr (.invokevirtual 383, 4, 265, 3, [])), (34, .inr (.nop, 1, 34, 0, []))]
def b274_34 : List kIt := [(34, .inr (.goto 37, 1, 71, 0, []))]
def b274_37 : List kIt := [(37, .inl (.iload_n 2, 0, 0, 0)), (38, .inl (.iconst 1, 0, 0, 0)), (39, .inr (.if_icmp .ne 12, 0, 51, 0, [])), (42, .inl (.aload_n 0, 0, 0, 0)), (43, .inl (.iload_n 1, 0, 0, 0)), (44, .inl (.iload_n 3, 0, 0, 0)), (45, .inr (.invokevirtual 401, 4, 268, 3, [])), (48, .inr (.nop, 1, 48, 0, []))]
def b274_48 : List kIt := [(48, .inr (.goto 23, 1, 71, 0, []))]
def b274_51 : List kIt := [(51, .inl (.iload_n 2, 0, 0, 0)), (52, .inl (.iconst 2, 0, 0, 0)), (53, .inr (.if_icmp .ne 12, 0, 65, 0, [])), (56, .inl (.aload_n 0, 0, 0, 0)), (57, .inl (.iload_n 1, 0, 0, 0)), (58, .inl (.iload_n 3, 0, 0, 0)), (59, .inr (.invokevirtual 392, 4, 271, 3, [])), (62, .inr (.nop, 1, 62, 0, []))]
def b274_62 : List kIt := [(62, .inr (.goto 9, 1, 71, 0, []))]
def b274_65 : List kIt := [(65, .inl (.aload_n 0, 0, 0, 0)), (66, .inl (.iload_n 1, 0, 0, 0)), (67, .inl (.iload_n 3, 0, 0, 0)), (68, .inr (.invokevirtual 410, 4, 273, 3, [])), (71, .inr (.nop, 1, 71, 0, []))]
def b274_71 : List kIt := [(71, .inr (.ireturn, 3, 0, 0, []))]
def c274 : List (Nat × List kIt) := [(0, b274_0), (10, b274_10), (19, b274_19), (22, b274_22), (24, b274_24), (34, b274_34), (37, b274_37), (48, b274_48), (51, b274_51), (62, b274_62), (65, b274_65), (71, b274_71)]
-- 275: PennyALapModel.count
def b275_0 : List kIt := [(0, .inl (.iload_n 1, 0, 0, 0)), (1, .inr (.nop, 2, 70, 0, [(0, 40), (1, 45), (2, 50), (3, 55), (4, 60), (5, 65)]))]
def b275_40 : List kIt := [(40, .inl (.aload_n 0, 0, 0, 0)), (41, .inl (.getfield 143, 10, 1, 0)), (44, .inr (.ireturn, 3, 0, 0, []))]
def b275_45 : List kIt := [(45, .inl (.aload_n 0, 0, 0, 0)), (46, .inl (.getfield 150, 10, 6, 0)), (49, .inr (.ireturn, 3, 0, 0, []))]
def b275_50 : List kIt := [(50, .inl (.aload_n 0, 0, 0, 0)), (51, .inl (.getfield 199, 10, 24, 0)), (54, .inr (.ireturn, 3, 0, 0, []))]
def b275_55 : List kIt := [(55, .inl (.aload_n 0, 0, 0, 0)), (56, .inl (.getfield 179, 10, 17, 0)), (59, .inr (.ireturn, 3, 0, 0, []))]
def b275_60 : List kIt := [(60, .inl (.aload_n 0, 0, 0, 0)), (61, .inl (.getfield 365, 10, 51, 0)), (64, .inr (.ireturn, 3, 0, 0, []))]
def b275_65 : List kIt := [(65, .inl (.aload_n 0, 0, 0, 0)), (66, .inl (.getfield 368, 10, 53, 0)), (69, .inr (.ireturn, 3, 0, 0, []))]
def b275_70 : List kIt := [(70, .inl (.iconst (-1), 0, 0, 0)), (71, .inr (.ireturn, 3, 0, 0, []))]
def c275 : List (Nat × List kIt) := [(0, b275_0), (40, b275_40), (45, b275_45), (50, b275_50), (55, b275_55), (60, b275_60), (65, b275_65), (70, b275_70)]
-- 276: PennyALapModel.isShelf
def b276_0 : List kIt := [(0, .inl (.iload_n 0, 0, 0, 0)), (1, .inl (.iconst 0, 0, 0, 0)), (2, .inl (.iconst 5, 0, 0, 0)), (3, .inr (.invokestatic 146, 4, 170, 3, [])), (6, .inr (.nop, 1, 6, 0, []))]
def b276_6 : List kIt := [(6, .inr (.ireturn, 3, 1, 0, []))]
def c276 : List (Nat × List kIt) := [(0, b276_0), (6, b276_6)]
-- 277: PennyALapModel.keep
def b277_0 : List kIt := [(0, .inl (.iload_n 1, 0, 0, 0)), (1, .inr (.invokestatic 161, 4, 276, 1, [])), (4, .inr (.nop, 1, 4, 0, []))]
def b277_4 : List kIt := [(4, .inr (.ifCond .eq 16, 0, 20, 0, [])), (7, .inl (.iload_n 2, 0, 0, 0)), (8, .inl (.iconst (-1), 0, 0, 0)), (9, .inr (.if_icmp .eq 13, 0, 22, 0, [])), (12, .inl (.aload_n 0, 0, 0, 0)), (13, .inl (.iload_n 2, 0, 0, 0)), (14, .inr (.invokevirtual 407, 4, 258, 2, [])), (17, .inr (.nop, 1, 17, 0, []))]
def b277_17 : List kIt := [(17, .inr (.ifCond .ne 5, 0, 22, 0, [])), (20, .inr (.nop, 1, 20, 0, []))]
def b277_20 : List kIt := [(20, .inl (.iconst (-1), 0, 0, 0)), (21, .inr (.ireturn, 3, 0, 0, []))]
def b277_22 : List kIt := [(22, .inl (.aload_n 0, 0, 0, 0)), (23, .inl (.getfield 127, 10, 55, 0)), (26, .inl (.iload_n 1, 0, 0, 0)), (27, .inl (.iload_n 2, 0, 0, 0)), (28, .inl (.iastore, 0, 0, 0)), (29, .inl (.iconst 1, 0, 0, 0)), (30, .inr (.ireturn, 3, 0, 0, []))]
def c277 : List (Nat × List kIt) := [(0, b277_0), (4, b277_4), (17, b277_17), (20, b277_20), (22, b277_22)]
-- 278: PennyALapModel.row
def b278_0 : List kIt := [(0, .inl (.iload_n 1, 0, 0, 0)), (1, .inr (.invokestatic 161, 4, 276, 1, [])), (4, .inr (.nop, 1, 4, 0, []))]
def b278_4 : List kIt := [(4, .inr (.ifCond .eq 18, 0, 22, 0, [])), (7, .inl (.iload_n 2, 0, 0, 0)), (8, .inl (.iconst 0, 0, 0, 0)), (9, .inl (.iconst 4, 0, 0, 0)), (10, .inr (.invokestatic 146, 4, 170, 3, [])), (13, .inr (.nop, 1, 13, 0, []))]
def b278_13 : List kIt := [(13, .inr (.ifCond .eq 9, 0, 22, 0, [])), (16, .inl (.iload_n 3, 0, 0, 0)), (17, .inl (.bipush 60, 0, 0, 0)), (19, .inr (.if_icmp .le 5, 0, 24, 0, [])), (22, .inr (.nop, 1, 22, 0, []))]
def b278_22 : List kIt := [(22, .inl (.iconst (-1), 0, 0, 0)), (23, .inr (.ireturn, 3, 0, 0, []))]
def b278_24 : List kIt := [(24, .inl (.iload_n 3, 0, 0, 0)), (25, .inr (.ifCond .ge 6, 0, 31, 0, [])), (28, .inl (.bipush (-14), 0, 0, 0)), (30, .inr (.ireturn, 3, 0, 0, []))]
def b278_31 : List kIt := [(31, .inl (.aload_n 0, 0, 0, 0)), (32, .inl (.getfield 127, 10, 55, 0)), (35, .inl (.iload_n 1, 0, 0, 0)), (36, .inl (.bipush (-2), 0, 0, 0)), (38, .inl (.iload_n 2, 0, 0, 0)), (39, .inl (.isub, 0, 0, 0)), (40, .inl (.iastore, 0, 0, 0)), (41, .inl (.aload_n 0, 0, 0, 0)), (42, .inl (.getfield 130, 10, 56, 0)), (45, .inl (.iload_n 1, 0, 0, 0)), (46, .inl (.iload_n 3, 0, 0, 0)), (47, .inl (.iastore, 0, 0, 0)), (48, .inl (.bipush 60, 0, 0, 0)), (50, .inl (.iload_n 1, 0, 0, 0)), (51, .inl (.imul, 0, 0, 0)), (52, .inl (.istore 4, 0, 0, 0)), (54, .inr (.nop, 1, 54, 0, []))]
def b278_54 : List kIt := [(54, .inl (.iload 4, 0, 0, 0)), (56, .inl (.bipush 60, 0, 0, 0)), (58, .inl (.iload_n 1, 0, 0, 0)), (59, .inl (.imul, 0, 0, 0)), (60, .inl (.bipush 60, 0, 0, 0)), (62, .inl (.iadd, 0, 0, 0)), (63, .inr (.if_icmp .ge 17, 0, 80, 0, [])), (66, .inl (.aload_n 0, 0, 0, 0)), (67, .inl (.getfield 133, 10, 57, 0)), (70, .inl (.iload 4, 0, 0, 0)), (72, .inl (.lconst 0, 0, 0, 0)), (73, .inl (.lastore, 0, 0, 0)), (74, .inl (.iinc 4 1, 0, 0, 0)), (77, .inr (.goto (-23), 1, 54, 0, []))]
def b278_80 : List kIt := [(80, .inl (.iconst 1, 0, 0, 0)), (81, .inr (.ireturn, 3, 0, 0, []))]
def c278 : List (Nat × List kIt) := [(0, b278_0), (4, b278_4), (13, b278_13), (22, b278_22), (24, b278_24), (31, b278_31), (54, b278_54), (80, b278_80)]
-- 279: PennyALapModel.whyNoPlace
def b279_0 : List kIt := [(0, .inl (.iload_n 1, 0, 0, 0)), (1, .inr (.invokestatic 161, 4, 276, 1, [])), (4, .inr (.nop, 1, 4, 0, []))]
def b279_4 : List kIt := [(4, .inr (.ifCond .ne 5, 0, 9, 0, [])), (7, .inl (.iconst (-1), 0, 0, 0)), (8, .inr (.ireturn, 3, 0, 0, []))]
def b279_9 : List kIt := [(9, .inl (.aload_n 0, 0, 0, 0)), (10, .inl (.getfield 127, 10, 55, 0)), (13, .inl (.iload_n 1, 0, 0, 0)), (14, .inl (.iaload, 0, 0, 0)), (15, .inl (.iconst (-1), 0, 0, 0)), (16, .inr (.if_icmp .ne 6, 0, 22, 0, [])), (19, .inl (.bipush (-11), 0, 0, 0)), (21, .inr (.ireturn, 3, 0, 0, []))]
def b279_22 : List kIt := [(22, .inl (.aload_n 0, 0, 0, 0)), (23, .inl (.getfield 127, 10, 55, 0)), (26, .inl (.iload_n 1, 0, 0, 0)), (27, .inl (.iaload, 0, 0, 0)), (28, .inr (.ifCond .lt 6, 0, 34, 0, [])), (31, .inl (.bipush (-12), 0, 0, 0)), (33, .inr (.ireturn, 3, 0, 0, []))]
def b279_34 : List kIt := [(34, .inl (.iload_n 2, 0, 0, 0)), (35, .inl (.iconst 0, 0, 0, 0)), (36, .inl (.aload_n 0, 0, 0, 0)), (37, .inl (.getfield 130, 10, 56, 0)), (40, .inl (.iload_n 1, 0, 0, 0)), (41, .inl (.iaload, 0, 0, 0)), (42, .inl (.iconst 1, 0, 0, 0)), (43, .inl (.isub, 0, 0, 0)), (44, .inr (.invokestatic 146, 4, 170, 3, [])), (47, .inr (.nop, 1, 47, 0, []))]
def b279_47 : List kIt := [(47, .inr (.ifCond .eq 7, 0, 54, 0, [])), (50, .inl (.iconst 0, 0, 0, 0)), (51, .inr (.goto 5, 1, 56, 0, []))]
def b279_54 : List kIt := [(54, .inl (.bipush (-13), 0, 0, 0)), (56, .inr (.nop, 1, 56, 0, []))]
def b279_56 : List kIt := [(56, .inr (.ireturn, 3, 0, 0, []))]
def c279 : List (Nat × List kIt) := [(0, b279_0), (4, b279_4), (9, b279_9), (22, b279_22), (34, b279_34), (47, b279_47), (54, b279_54), (56, b279_56)]
-- 280: PennyALapModel.put
def b280_0 : List kIt := [(0, .inl (.aload_n 0, 0, 0, 0)), (1, .inl (.iload_n 1, 0, 0, 0)), (2, .inl (.iload_n 2, 0, 0, 0)), (3, .inr (.invokevirtual 413, 4, 279, 3, [])), (6, .inr (.nop, 1, 6, 0, []))]
def b280_6 : List kIt := [(6, .inl (.istore 5, 0, 0, 0)), (8, .inl (.iload 5, 0, 0, 0)), (10, .inr (.ifCond .ge 6, 0, 16, 0, [])), (13, .inl (.iload 5, 0, 0, 0)), (15, .inr (.ireturn, 3, 0, 0, []))]
def b280_16 : List kIt := [(16, .inl (.bipush (-2), 0, 0, 0)), (18, .inl (.aload_n 0, 0, 0, 0)), (19, .inl (.getfield 127, 10, 55, 0)), (22, .inl (.iload_n 1, 0, 0, 0)), (23, .inl (.iaload, 0, 0, 0)), (24, .inl (.isub, 0, 0, 0)), (25, .inl (.istore 6, 0, 0, 0)), (27, .inl (.aload_n 0, 0, 0, 0)), (28, .inl (.getfield 133, 10, 57, 0)), (31, .inl (.bipush 60, 0, 0, 0)), (33, .inl (.iload_n 1, 0, 0, 0)), (34, .inl (.imul, 0, 0, 0)), (35, .inl (.iload_n 2, 0, 0, 0)), (36, .inl (.iadd, 0, 0, 0)), (37, .inl (.iload 6, 0, 0, 0)), (39, .inr (.ifCond .ne 10, 0, 49, 0, [])), (42, .inl (.lload_n 3, 0, 0, 0)), (43, .inl (.l2i, 0, 0, 0)), (44, .inl (.i2b, 0, 0, 0)), (45, .inl (.i2l, 0, 0, 0)), (46, .inr (.goto 49, 1, 95, 0, []))]
def b280_49 : List kIt := [(49, .inl (.iload 6, 0, 0, 0)), (51, .inl (.iconst 1, 0, 0, 0)), (52, .inr (.if_icmp .ne 10, 0, 62, 0, [])), (55, .inl (.lload_n 3, 0, 0, 0)), (56, .inl (.l2i, 0, 0, 0)), (57, .inl (.i2s, 0, 0, 0)), (58, .inl (.i2l, 0, 0, 0)), (59, .inr (.goto 36, 1, 95, 0, []))]
def b280_62 : List kIt := [(62, .inl (.iload 6, 0, 0, 0)), (64, .inl (.iconst 2, 0, 0, 0)), (65, .inr (.if_icmp .ne 9, 0, 74, 0, [])), (68, .inl (.lload_n 3, 0, 0, 0)), (69, .inl (.l2i, 0, 0, 0)), (70, .inl (.i2l, 0, 0, 0)), (71, .inr (.goto 24, 1, 95, 0, []))]
def b280_74 : List kIt := [(74, .inl (.iload 6, 0, 0, 0)), (76, .inl (.iconst 3, 0, 0, 0)), (77, .inr (.if_icmp .ne 7, 0, 84, 0, [])), (80, .inl (.lload_n 3, 0, 0, 0)), (81, .inr (.goto 14, 1, 95, 0, []))]
def b280_84 : List kIt := [(84, .inl (.lload_n 3, 0, 0, 0)), (85, .inl (.lconst 0, 0, 0, 0)), (86, .inl (.lcmp, 0, 0, 0)), (87, .inr (.ifCond .eq 7, 0, 94, 0, [])), (90, .inl (.lconst 1, 0, 0, 0)), (91, .inr (.goto 4, 1, 95, 0, []))]
def b280_94 : List kIt := [(94, .inl (.lconst 0, 0, 0, 0)), (95, .inr (.nop, 1, 95, 0, []))]
def b280_95 : List kIt := [(95, .inl (.lastore, 0, 0, 0)), (96, .inl (.iconst 1, 0, 0, 0)), (97, .inr (.ireturn, 3, 0, 0, []))]
def c280 : List (Nat × List kIt) := [(0, b280_0), (6, b280_6), (16, b280_16), (49, b280_49), (62, b280_62), (74, b280_74), (84, b280_84), (94, b280_94), (95, b280_95)]
-- 281: PennyALapModel.element
def b281_0 : List kIt := [(0, .inl (.aload_n 0, 0, 0, 0)), (1, .inl (.iload_n 1, 0, 0, 0)), (2, .inl (.iload_n 2, 0, 0, 0)), (3, .inr (.invokevirtual 413, 4, 279, 3, [])), (6, .inr (.nop, 1, 6, 0, []))]
def b281_6 : List kIt := [(6, .inr (.ifCond .ge 9, 0, 15, 0, [])), (9, .inl (.ldc2_w 418, 0, 0, (-9223372036854775808))), (12, .inr (.goto 14, 1, 26, 0, []))]
def b281_15 : List kIt := [(15, .inl (.aload_n 0, 0, 0, 0)), (16, .inl (.getfield 133, 10, 57, 0)), (19, .inl (.bipush 60, 0, 0, 0)), (21, .inl (.iload_n 1, 0, 0, 0)), (22, .inl (.imul, 0, 0, 0)), (23, .inl (.iload_n 2, 0, 0, 0)), (24, .inl (.iadd, 0, 0, 0)), (25, .inl (.laload, 0, 0, 0)), (26, .inr (.nop, 1, 26, 0, []))]
def b281_26 : List kIt := [(26, .inr (.lreturn, 3, 0, 0, []))]
def c281 : List (Nat × List kIt) := [(0, b281_0), (6, b281_6), (15, b281_15), (26, b281_26)]
-- 282: PennyALapModel.shift
def b282_0 : List kIt := [(0, .inl (.iload_n 1, 0, 0, 0)), (1, .inr (.invokestatic 161, 4, 276, 1, [])), (4, .inr (.nop, 1, 4, 0, []))]
def b282_4 : List kIt := [(4, .inr (.ifCond .eq 10, 0, 14, 0, [])), (7, .inl (.iload_n 3, 0, 0, 0)), (8, .inr (.invokestatic 161, 4, 276, 1, [])), (11, .inr (.nop, 1, 11, 0, []))]
def b282_11 : List kIt := [(11, .inr (.ifCond .ne 5, 0, 16, 0, [])), (14, .inr (.nop, 1, 14, 0, []))]
def b282_14 : List kIt := [(14, .inl (.iconst (-1), 0, 0, 0)), (15, .inr (.ireturn, 3, 0, 0, []))]
def b282_16 : List kIt := [(16, .inl (.aload_n 0, 0, 0, 0)), (17, .inl (.getfield 127, 10, 55, 0)), (20, .inl (.iload_n 1, 0, 0, 0)), (21, .inl (.iaload, 0, 0, 0)), (22, .inl (.iconst (-1), 0, 0, 0)), (23, .inr (.if_icmp .eq 13, 0, 36, 0, [])), (26, .inl (.aload_n 0, 0, 0, 0)), (27, .inl (.getfield 127, 10, 55, 0)), (30, .inl (.iload_n 3, 0, 0, 0)), (31, .inl (.iaload, 0, 0, 0)), (32, .inl (.iconst (-1), 0, 0, 0)), (33, .inr (.if_icmp .ne 6, 0, 39, 0, [])), (36, .inr (.nop, 1, 36, 0, []))]
def b282_36 : List kIt := [(36, .inl (.bipush (-11), 0, 0, 0)), (38, .inr (.ireturn, 3, 0, 0, []))]
def b282_39 : List kIt := [(39, .inl (.aload_n 0, 0, 0, 0)), (40, .inl (.getfield 127, 10, 55, 0)), (43, .inl (.iload_n 1, 0, 0, 0)), (44, .inl (.iaload, 0, 0, 0)), (45, .inr (.ifCond .ge 18, 0, 63, 0, [])), (48, .inl (.aload_n 0, 0, 0, 0)), (49, .inl (.getfield 127, 10, 55, 0)), (52, .inl (.iload_n 1, 0, 0, 0)), (53, .inl (.iaload, 0, 0, 0)), (54, .inl (.aload_n 0, 0, 0, 0)), (55, .inl (.getfield 127, 10, 55, 0)), (58, .inl (.iload_n 3, 0, 0, 0)), (59, .inl (.iaload, 0, 0, 0)), (60, .inr (.if_icmp .eq 6, 0, 66, 0, [])), (63, .inr (.nop, 1, 63, 0, []))]
def b282_63 : List kIt := [(63, .inl (.bipush (-12), 0, 0, 0)), (65, .inr (.ireturn, 3, 0, 0, []))]
def b282_66 : List kIt := [(66, .inl (.iload 5, 0, 0, 0)), (68, .inr (.ifCond .lt 39, 0, 107, 0, [])), (71, .inl (.iload_n 2, 0, 0, 0)), (72, .inr (.ifCond .lt 35, 0, 107, 0, [])), (75, .inl (.iload 4, 0, 0, 0)), (77, .inr (.ifCond .lt 30, 0, 107, 0, [])), (80, .inl (.iload_n 2, 0, 0, 0)), (81, .inl (.aload_n 0, 0, 0, 0)), (82, .inl (.getfield 130, 10, 56, 0)), (85, .inl (.iload_n 1, 0, 0, 0)), (86, .inl (.iaload, 0, 0, 0)), (87, .inl (.iload 5, 0, 0, 0)), (89, .inl (.isub, 0, 0, 0)), (90, .inr (.if_icmp .gt 17, 0, 107, 0, [])), (93, .inl (.iload 4, 0, 0, 0)), (95, .inl (.aload_n 0, 0, 0, 0)), (96, .inl (.getfield 130, 10, 56, 0)), (99, .inl (.iload_n 3, 0, 0, 0)), (100, .inl (.iaload, 0, 0, 0)), (101, .inl (.iload 5, 0, 0, 0)), (103, .inl (.isub, 0, 0, 0)), (104, .inr (.if_icmp .le 6, 0, 110, 0, [])), (107, .inr (.nop, 1, 107, 0, []))]
def b282_107 : List kIt := [(107, .inl (.bipush (-13), 0, 0, 0)), (109, .inr (.ireturn, 3, 0, 0, []))]
def b282_110 : List kIt := [(110, .inl (.iconst 0, 0, 0, 0)), (111, .inl (.istore 6, 0, 0, 0)), (113, .inr (.nop, 1, 113, 0, []))]
def b282_113 : List kIt := [(113, .inl (.iload 6, 0, 0, 0)), (115, .inl (.iload 5, 0, 0, 0)), (117, .inr (.if_icmp .ge 30, 0, 147, 0, [])), (120, .inl (.aload_n 0, 0, 0, 0)), (121, .inl (.getfield 137, 10, 58, 0)), (124, .inl (.iload 6, 0, 0, 0)), (126, .inl (.aload_n 0, 0, 0, 0)), (127, .inl (.getfield 133, 10, 57, 0)), (130, .inl (.bipush 60, 0, 0, 0)), (132, .inl (.iload_n 1, 0, 0, 0)), (133, .inl (.imul, 0, 0, 0)), (134, .inl (.iload_n 2, 0, 0, 0)), (135, .inl (.iadd, 0, 0, 0)), (136, .inl (.iload 6, 0, 0, 0)), (138, .inl (.iadd, 0, 0, 0)), (139, .inl (.laload, 0, 0, 0)), (140, .inl (.lastore, 0, 0, 0)), (141, .inl (.iinc 6 1, 0, 0, 0)), (144, .inr (.goto (-31), 1, 113, 0, []))]
def b282_147 : List kIt := [(147, .inl (.iconst 0, 0, 0, 0)), (148, .inl (.istore 6, 0, 0, 0)), (150, .inr (.nop, 1, 150, 0, []))]
def b282_150 : List kIt := [(150, .inl (.iload 6, 0, 0, 0)), (152, .inl (.iload 5, 0, 0, 0)), (154, .inr (.if_icmp .ge 31, 0, 185, 0, [])), (157, .inl (.aload_n 0, 0, 0, 0)), (158, .inl (.getfield 133, 10, 57, 0)), (161, .inl (.bipush 60, 0, 0, 0)), (163, .inl (.iload_n 3, 0, 0, 0)), (164, .inl (.imul, 0, 0, 0)), (165, .inl (.iload 4, 0, 0, 0)), (167, .inl (.iadd, 0, 0, 0)), (168, .inl (.iload 6, 0, 0, 0)), (170, .inl (.iadd, 0, 0, 0)), (171, .inl (.aload_n 0, 0, 0, 0)), (172, .inl (.getfield 137, 10, 58, 0)), (175, .inl (.iload 6, 0, 0, 0)), (177, .inl (.laload, 0, 0, 0)), (178, .inl (.lastore, 0, 0, 0)), (179, .inl (.iinc 6 1, 0, 0, 0)), (182, .inr (.goto (-32), 1, 150, 0, []))]
def b282_185 : List kIt := [(185, .inl (.iload 5, 0, 0, 0)), (187, .inr (.ireturn, 3, 0, 0, []))]
def c282 : List (Nat × List kIt) := [(0, b282_0), (4, b282_4), (11, b282_11), (14, b282_14), (16, b282_16), (36, b282_36), (39, b282_39), (63, b282_63), (66, b282_66), (107, b282_107), (110, b282_110), (113, b282_113), (147, b282_147), (150, b282_150), (185, b282_185)]
-- 283: PennyALapModel.taken
def b283_0 : List kIt := [(0, .inl (.iload_n 1, 0, 0, 0)), (1, .inr (.invokestatic 161, 4, 276, 1, [])), (4, .inr (.nop, 1, 4, 0, []))]
def b283_4 : List kIt := [(4, .inr (.ifCond .eq 13, 0, 17, 0, [])), (7, .inl (.iload_n 2, 0, 0, 0)), (8, .inl (.iconst 0, 0, 0, 0)), (9, .inl (.bipush 7, 0, 0, 0)), (11, .inr (.invokestatic 146, 4, 170, 3, [])), (14, .inr (.nop, 1, 14, 0, []))]
def b283_14 : List kIt := [(14, .inr (.ifCond .ne 5, 0, 19, 0, [])), (17, .inr (.nop, 1, 17, 0, []))]
def b283_17 : List kIt := [(17, .inl (.iconst (-1), 0, 0, 0)), (18, .inr (.ireturn, 3, 0, 0, []))]
def b283_19 : List kIt := [(19, .inl (.aload_n 0, 0, 0, 0)), (20, .inl (.getfield 127, 10, 55, 0)), (23, .inl (.iload_n 1, 0, 0, 0)), (24, .inl (.iaload, 0, 0, 0)), (25, .inl (.iconst (-1), 0, 0, 0)), (26, .inr (.if_icmp .ne 6, 0, 32, 0, [])), (29, .inl (.bipush (-11), 0, 0, 0)), (31, .inr (.ireturn, 3, 0, 0, []))]
def b283_32 : List kIt := [(32, .inl (.aload_n 0, 0, 0, 0)), (33, .inl (.getfield 127, 10, 55, 0)), (36, .inl (.iload_n 1, 0, 0, 0)), (37, .inl (.iaload, 0, 0, 0)), (38, .inr (.ifCond .lt 35, 0, 73, 0, [])), (41, .inl (.aload_n 0, 0, 0, 0)), (42, .inl (.getfield 121, 10, 52, 0)), (45, .inl (.aload_n 0, 0, 0, 0)), (46, .inl (.getfield 127, 10, 55, 0)), (49, .inl (.iload_n 1, 0, 0, 0)), (50, .inl (.iaload, 0, 0, 0)), (51, .inl (.iaload, 0, 0, 0)), (52, .inl (.iload_n 2, 0, 0, 0)), (53, .inr (.invokestatic 377, 4, 262, 2, [])), (56, .inr (.nop, 1, 56, 0, []))]
def b283_56 : List kIt := [(56, .inr (.ifCond .eq 17, 0, 73, 0, [])), (59, .inl (.aload_n 0, 0, 0, 0)), (60, .inl (.getfield 121, 10, 52, 0)), (63, .inl (.aload_n 0, 0, 0, 0)), (64, .inl (.getfield 127, 10, 55, 0)), (67, .inl (.iload_n 1, 0, 0, 0)), (68, .inl (.iaload, 0, 0, 0)), (69, .inl (.iaload, 0, 0, 0)), (70, .inr (.goto 5, 1, 75, 0, []))]
def b283_73 : List kIt := [(73, .inl (.bipush (-12), 0, 0, 0)), (75, .inr (.nop, 1, 75, 0, []))]
def b283_75 : List kIt := [(75, .inr (.ireturn, 3, 0, 0, []))]
def c283 : List (Nat × List kIt) := [(0, b283_0), (4, b283_4), (14, b283_14), (17, b283_17), (19, b283_19), (32, b283_32), (56, b283_56), (73, b283_73), (75, b283_75)]
-- 284: PennyALap$Bodies.<init>
def b284_0 : List kIt := [(0, .inl (.aload_n 0, 0, 0, 0)), (1, .inl (.invokespecial 3, 0, 0, 0)), (4, .inl (.aload_n 0, 0, 0, 0)), (5, .inl (.bipush 50, 0, 0, 0)), (7, .inl (.newarray .int, 0, 0, 0)), (9, .inl (.putfield 11, 0, 0, 2)), (12, .inl (.aload_n 0, 0, 0, 0)), (13, .inl (.bipush 24, 0, 0, 0)), (15, .inl (.newarray .int, 0, 0, 0)), (17, .inl (.putfield 15, 0, 2, 2)), (20, .inr (.return_, 3, 0, 0, []))]
def c284 : List (Nat × List kIt) := [(0, b284_0)]
-- 285: PennyALap$Changes.<init>
def b285_0 : List kIt := [(0, .inl (.aload_n 0, 0, 0, 0)), (1, .inl (.invokespecial 3, 0, 0, 0)), (4, .inl (.aload_n 0, 0, 0, 0)), (5, .inl (.bipush 40, 0, 0, 0)), (7, .inl (.newarray .int, 0, 0, 0)), (9, .inl (.putfield 11, 1, 0, 2)), (12, .inl (.aload_n 0, 0, 0, 0)), (13, .inl (.bipush 40, 0, 0, 0)), (15, .inl (.newarray .int, 0, 0, 0)), (17, .inl (.putfield 15, 1, 1, 2)), (20, .inl (.aload_n 0, 0, 0, 0)), (21, .inl (.bipush 40, 0, 0, 0)), (23, .inl (.newarray .int, 0, 0, 0)), (25, .inl (.putfield 18, 1, 2, 2)), (28, .inr (.return_, 3, 0, 0, []))]
def c285 : List (Nat × List kIt) := [(0, b285_0)]
-- 286: PennyALap$Coming.<init>
def b286_0 : List kIt := [(0, .inl (.aload_n 0, 0, 0, 0)), (1, .inl (.invokespecial 3, 0, 0, 0)), (4, .inl (.aload_n 0, 0, 0, 0)), (5, .inl (.bipush 16, 0, 0, 0)), (7, .inl (.newarray .int, 0, 0, 0)), (9, .inl (.putfield 9, 2, 2, 2)), (12, .inl (.aload_n 0, 0, 0, 0)), (13, .inl (.bipush 16, 0, 0, 0)), (15, .inl (.newarray .int, 0, 0, 0)), (17, .inl (.putfield 15, 2, 3, 2)), (20, .inl (.aload_n 0, 0, 0, 0)), (21, .inl (.bipush 60, 0, 0, 0)), (23, .inl (.newarray .boolean, 0, 0, 0)), (25, .inl (.putfield 18, 2, 4, 9)), (28, .inl (.aload_n 0, 0, 0, 0)), (29, .inl (.aload_n 1, 0, 0, 0)), (30, .inl (.putfield 22, 2, 0, 9)), (33, .inl (.aload_n 0, 0, 0, 0)), (34, .inl (.aload_n 2, 0, 0, 0)), (35, .inl (.putfield 26, 2, 1, 9)), (38, .inr (.return_, 3, 0, 0, []))]
def c286 : List (Nat × List kIt) := [(0, b286_0)]
-- 287: PennyALap$Deed.<init>
def b287_0 : List kIt := [(0, .inl (.aload_n 0, 0, 0, 0)), (1, .inl (.invokespecial 3, 0, 0, 0)), (4, .inl (.aload_n 0, 0, 0, 0)), (5, .inl (.bipush 6, 0, 0, 0)), (7, .inl (.newarray .int, 0, 0, 0)), (9, .inl (.putfield 9, 3, 0, 2)), (12, .inl (.aload_n 0, 0, 0, 0)), (13, .inl (.bipush 6, 0, 0, 0)), (15, .inl (.newarray .int, 0, 0, 0)), (17, .inl (.putfield 15, 3, 1, 2)), (20, .inl (.aload_n 0, 0, 0, 0)), (21, .inl (.bipush 16, 0, 0, 0)), (23, .inl (.newarray .int, 0, 0, 0)), (25, .inl (.putfield 18, 3, 2, 2)), (28, .inr (.return_, 3, 0, 0, []))]
def c287 : List (Nat × List kIt) := [(0, b287_0)]
-- 288: PennyALap$Folk.<init>
def b288_0 : List kIt := [(0, .inl (.aload_n 0, 0, 0, 0)), (1, .inl (.invokespecial 5, 0, 0, 0)), (4, .inl (.aload_n 0, 0, 0, 0)), (5, .inl (.bipush 108, 0, 0, 0)), (7, .inl (.newarray .int, 0, 0, 0)), (9, .inl (.putfield 11, 4, 1, 2)), (12, .inl (.aload_n 0, 0, 0, 0)), (13, .inl (.bipush 16, 0, 0, 0)), (15, .inl (.newarray .int, 0, 0, 0)), (17, .inl (.putfield 15, 4, 2, 2)), (20, .inl (.aload_n 0, 0, 0, 0)), (21, .inl (.aload_n 1, 0, 0, 0)), (22, .inl (.putfield 18, 4, 0, 9)), (25, .inl (.bipush 9, 0, 0, 0)), (27, .inl (.istore_n 2, 0, 0, 0)), (28, .inr (.nop, 1, 28, 0, []))]
def b288_28 : List kIt := [(28, .inl (.iload_n 2, 0, 0, 0)), (29, .inl (.bipush 12, 0, 0, 0)), (31, .inr (.if_icmp .gt 26, 0, 57, 0, [])), (34, .inl (.aload_n 0, 0, 0, 0)), (35, .inl (.getfield 11, 4, 1, 0)), (38, .inl (.bipush 104, 0, 0, 0)), (40, .inl (.iload_n 2, 0, 0, 0)), (41, .inl (.iadd, 0, 0, 0)), (42, .inl (.bipush 9, 0, 0, 0)), (44, .inl (.isub, 0, 0, 0)), (45, .inl (.getstatic 22, 1002, 0, 0)), (48, .inl (.iload_n 2, 0, 0, 0)), (49, .inl (.iaload, 0, 0, 0)), (50, .inl (.iastore, 0, 0, 0)), (51, .inl (.iinc 2 1, 0, 0, 0)), (54, .inr (.goto (-26), 1, 28, 0, []))]
def b288_57 : List kIt := [(57, .inr (.return_, 3, 0, 0, []))]
def c288 : List (Nat × List kIt) := [(0, b288_0), (28, b288_28), (57, b288_57)]
-- 289: PennyALap$Law.<init>
def b289_0 : List kIt := [(0, .inl (.aload_n 0, 0, 0, 0)), (1, .inl (.invokespecial 3, 0, 0, 0)), (4, .inl (.aload_n 0, 0, 0, 0)), (5, .inl (.bipush 120, 0, 0, 0)), (7, .inl (.newarray .int, 0, 0, 0)), (9, .inl (.putfield 11, 5, 0, 2)), (12, .inl (.aload_n 0, 0, 0, 0)), (13, .inl (.bipush 121, 0, 0, 0)), (15, .inl (.newarray .int, 0, 0, 0)), (17, .inl (.putfield 15, 5, 3, 2)), (20, .inl (.aload_n 0, 0, 0, 0)), (21, .inl (.bipush 121, 0, 0, 0)), (23, .inl (.newarray .int, 0, 0, 0)), (25, .inl (.putfield 18, 5, 5, 2)), (28, .inl (.aload_n 0, 0, 0, 0)), (29, .inl (.bipush 121, 0, 0, 0)), (31, .inl (.newarray .int, 0, 0, 0)), (33, .inl (.putfield 21, 5, 7, 2)), (36, .inl (.aload_n 0, 0, 0, 0)), (37, .inl (.bipush 6, 0, 0, 0)), (39, .inl (.newarray .int, 0, 0, 0)), (41, .inl (.putfield 24, 5, 8, 2)), (44, .inr (.return_, 3, 0, 0, []))]
def c289 : List (Nat × List kIt) := [(0, b289_0)]
-- 290: PennyALap$Plan.<init>
def b290_0 : List kIt := [(0, .inl (.aload_n 0, 0, 0, 0)), (1, .inl (.invokespecial 5, 0, 0, 0)), (4, .inl (.aload_n 0, 0, 0, 0)), (5, .inl (.sipush 600, 0, 0, 0)), (8, .inl (.newarray .int, 0, 0, 0)), (10, .inl (.putfield 13, 6, 2, 2)), (13, .inl (.aload_n 0, 0, 0, 0)), (14, .inl (.sipush 2107, 0, 0, 0)), (17, .inl (.newarray .int, 0, 0, 0)), (19, .inl (.putfield 17, 6, 3, 2)), (22, .inl (.aload_n 0, 0, 0, 0)), (23, .inl (.bipush 6, 0, 0, 0)), (25, .inl (.newarray .int, 0, 0, 0)), (27, .inl (.putfield 20, 6, 4, 2)), (30, .inl (.aload_n 0, 0, 0, 0)), (31, .inl (.aload_n 1, 0, 0, 0)), (32, .inl (.putfield 23, 6, 0, 9)), (35, .inl (.aload_n 0, 0, 0, 0)), (36, .inl (.aload_n 2, 0, 0, 0)), (37, .inl (.putfield 27, 6, 1, 9)), (40, .inr (.return_, 3, 0, 0, []))]
def c290 : List (Nat × List kIt) := [(0, b290_0)]
-- 291: PennyALap$Shelves.<init>
def b291_0 : List kIt := [(0, .inl (.aload_n 0, 0, 0, 0)), (1, .inl (.invokespecial 3, 0, 0, 0)), (4, .inl (.aload_n 0, 0, 0, 0)), (5, .inl (.bipush 6, 0, 0, 0)), (7, .inl (.newarray .int, 0, 0, 0)), (9, .inl (.putfield 9, 7, 0, 2)), (12, .inl (.aload_n 0, 0, 0, 0)), (13, .inl (.bipush 6, 0, 0, 0)), (15, .inl (.newarray .int, 0, 0, 0)), (17, .inl (.putfield 15, 7, 1, 2)), (20, .inl (.aload_n 0, 0, 0, 0)), (21, .inl (.bipush 6, 0, 0, 0)), (23, .inl (.newarray .int, 0, 0, 0)), (25, .inl (.putfield 18, 7, 2, 2)), (28, .inl (.aload_n 0, 0, 0, 0)), (29, .inl (.sipush 360, 0, 0, 0)), (32, .inl (.newarray .long, 0, 0, 0)), (34, .inl (.putfield 21, 7, 3, 9)), (37, .inl (.iconst 0, 0, 0, 0)), (38, .inl (.istore_n 1, 0, 0, 0)), (39, .inr (.nop, 1, 39, 0, []))]
def b291_39 : List kIt := [(39, .inl (.iload_n 1, 0, 0, 0)), (40, .inl (.bipush 6, 0, 0, 0)), (42, .inr (.if_icmp .ge 17, 0, 59, 0, [])), (45, .inl (.aload_n 0, 0, 0, 0)), (46, .inl (.getfield 9, 7, 0, 0)), (49, .inl (.iload_n 1, 0, 0, 0)), (50, .inl (.bipush 6, 0, 0, 0)), (52, .inl (.iastore, 0, 0, 0)), (53, .inl (.iinc 1 1, 0, 0, 0)), (56, .inr (.goto (-17), 1, 39, 0, []))]
def b291_59 : List kIt := [(59, .inr (.return_, 3, 0, 0, []))]
def c291 : List (Nat × List kIt) := [(0, b291_0), (39, b291_39), (59, b291_59)]
-- 292: PennyALap$Thought.<init>
def b292_0 : List kIt := [(0, .inl (.aload_n 0, 0, 0, 0)), (1, .inl (.invokespecial 3, 0, 0, 0)), (4, .inl (.aload_n 0, 0, 0, 0)), (5, .inl (.bipush 6, 0, 0, 0)), (7, .inl (.newarray .int, 0, 0, 0)), (9, .inl (.putfield 9, 8, 1, 2)), (12, .inl (.aload_n 0, 0, 0, 0)), (13, .inl (.sipush 600, 0, 0, 0)), (16, .inl (.newarray .int, 0, 0, 0)), (18, .inl (.putfield 15, 8, 2, 2)), (21, .inl (.aload_n 0, 0, 0, 0)), (22, .inl (.bipush 6, 0, 0, 0)), (24, .inl (.newarray .int, 0, 0, 0)), (26, .inl (.putfield 18, 8, 3, 2)), (29, .inl (.aload_n 0, 0, 0, 0)), (30, .inl (.aload_n 1, 0, 0, 0)), (31, .inl (.putfield 21, 8, 0, 9)), (34, .inr (.return_, 3, 0, 0, []))]
def c292 : List (Nat × List kIt) := [(0, b292_0)]
-- 293: PennyALap.<init>
def b293_0 : List kIt := [(0, .inl (.aload_n 0, 0, 0, 0)), (1, .inl (.invokespecial 1, 0, 0, 0)), (4, .inl (.aload_n 0, 0, 0, 0)), (5, .inl (.new 7, 0, 0, 0)), (8, .inl (.dup, 0, 0, 0)), (9, .inl (.invokespecial 9, 0, 0, 0)), (12, .inl (.putfield 10, 9, 0, 9)), (15, .inl (.aload_n 0, 0, 0, 0)), (16, .inl (.new 16, 0, 0, 0)), (19, .inl (.dup, 0, 0, 0)), (20, .inl (.aload_n 0, 0, 0, 0)), (21, .inl (.getfield 10, 9, 0, 0)), (24, .inl (.invokespecial 18, 0, 0, 0)), (27, .inl (.putfield 21, 9, 1, 9)), (30, .inl (.aload_n 0, 0, 0, 0)), (31, .inl (.new 25, 0, 0, 0)), (34, .inl (.dup, 0, 0, 0)), (35, .inl (.invokespecial 27, 0, 0, 0)), (38, .inl (.putfield 28, 9, 2, 9)), (41, .inl (.aload_n 0, 0, 0, 0)), (42, .inl (.new 32, 0, 0, 0)), (45, .inl (.dup, 0, 0, 0)), (46, .inl (.aload_n 0, 0, 0, 0)), (47, .inl (.getfield 21, 9, 1, 0)), (50, .inl (.invokespecial 34, 0, 0, 0)), (53, .inl (.putfield 37, 9, 3, 9)), (56, .inl (.aload_n 0, 0, 0, 0)), (57, .inl (.new 41, 0, 0, 0)), (60, .inl (.dup, 0, 0, 0)), (61, .inl (.aload_n 0, 0, 0, 0)), (62, .inl (.getfield 21, 9, 1, 0)), (65, .inl (.aload_n 0, 0, 0, 0)), (66, .inl (.getfield 37, 9, 3, 0)), (69, .inl (.invokespecial 43, 0, 0, 0)), (72, .inl (.putfield 46, 9, 4, 9)), (75, .inl (.aload_n 0, 0, 0, 0)), (76, .inl (.new 50, 0, 0, 0)), (79, .inl (.dup, 0, 0, 0)), (80, .inl (.aload_n 0, 0, 0, 0)), (81, .inl (.getfield 21, 9, 1, 0)), (84, .inl (.aload_n 0, 0, 0, 0)), (85, .inl (.getfield 37, 9, 3, 0)), (88, .inl (.invokespecial 52, 0, 0, 0)), (91, .inl (.putfield 53, 9, 5, 9)), (94, .inl (.aload_n 0, 0, 0, 0)), (95, .inl (.new 57, 0, 0, 0)), (98, .inl (.dup, 0, 0, 0)), (99, .inl (.invokespecial 59, 0, 0, 0)), (102, .inl (.putfield 60, 9, 6, 9)), (105, .inl (.aload_n 0, 0, 0, 0)), (106, .inl (.new 57, 0, 0, 0)), (109, .inl (.dup, 0, 0, 0)), (110, .inl (.invokespecial 59, 0, 0, 0)), (113, .inl (.putfield 64, 9, 7, 9)), (116, .inl (.aload_n 0, 0, 0, 0)), (117, .inl (.new 67, 0, 0, 0)), (120, .inl (.dup, 0, 0, 0)), (121, .inl (.invokespecial 69, 0, 0, 0)), (124, .inl (.putfield 70, 9, 9, 9)), (127, .inl (.aload_n 0, 0, 0, 0)), (128, .inl (.new 74, 0, 0, 0)), (131, .inl (.dup, 0, 0, 0)), (132, .inl (.invokespecial 76, 0, 0, 0)), (135, .inl (.putfield 77, 9, 10, 9)), (138, .inr (.return_, 3, 0, 0, []))]
def c293 : List (Nat × List kIt) := [(0, b293_0)]
-- 294: PennyALapModel.<init>
def b294_0 : List kIt := [(0, .inl (.aload_n 0, 0, 0, 0)), (1, .inl (.invokespecial 1, 0, 0, 0)), (4, .inl (.aload_n 0, 0, 0, 0)), (5, .inl (.bipush 6, 0, 0, 0)), (7, .inl (.newarray .int, 0, 0, 0)), (9, .inl (.putfield 7, 10, 2, 2)), (12, .inl (.aload_n 0, 0, 0, 0)), (13, .inl (.bipush 6, 0, 0, 0)), (15, .inl (.newarray .int, 0, 0, 0)), (17, .inl (.putfield 13, 10, 3, 2)), (20, .inl (.aload_n 0, 0, 0, 0)), (21, .inl (.bipush 6, 0, 0, 0)), (23, .inl (.newarray .int, 0, 0, 0)), (25, .inl (.putfield 16, 10, 4, 2)), (28, .inl (.aload_n 0, 0, 0, 0)), (29, .inl (.bipush 6, 0, 0, 0)), (31, .inl (.newarray .int, 0, 0, 0)), (33, .inl (.putfield 19, 10, 5, 2)), (36, .inl (.aload_n 0, 0, 0, 0)), (37, .inl (.bipush 16, 0, 0, 0)), (39, .inl (.newarray .int, 0, 0, 0)), (41, .inl (.putfield 22, 10, 7, 2)), (44, .inl (.aload_n 0, 0, 0, 0)), (45, .inl (.bipush 16, 0, 0, 0)), (47, .inl (.newarray .int, 0, 0, 0)), (49, .inl (.putfield 25, 10, 8, 2)), (52, .inl (.aload_n 0, 0, 0, 0)), (53, .inl (.bipush 16, 0, 0, 0)), (55, .inl (.newarray .int, 0, 0, 0)), (57, .inl (.putfield 28, 10, 9, 2)), (60, .inl (.aload_n 0, 0, 0, 0)), (61, .inl (.bipush 16, 0, 0, 0)), (63, .inl (.newarray .int, 0, 0, 0)), (65, .inl (.putfield 31, 10, 10, 2)), (68, .inl (.aload_n 0, 0, 0, 0)), (69, .inl (.bipush 16, 0, 0, 0)), (71, .inl (.newarray .int, 0, 0, 0)), (73, .inl (.putfield 34, 10, 11, 2)), (76, .inl (.aload_n 0, 0, 0, 0)), (77, .inl (.bipush 16, 0, 0, 0)), (79, .inl (.newarray .int, 0, 0, 0)), (81, .inl (.putfield 37, 10, 12, 2)), (84, .inl (.aload_n 0, 0, 0, 0)), (85, .inl (.bipush 8, 0, 0, 0)), (87, .inl (.putfield 40, 10, 14, 0)), (90, .inl (.aload_n 0, 0, 0, 0)), (91, .inl (.iconst 2, 0, 0, 0)), (92, .inl (.putfield 44, 10, 15, 0)), (95, .inl (.aload_n 0, 0, 0, 0)), (96, .inl (.bipush 40, 0, 0, 0)), (98, .inl (.newarray .int, 0, 0, 0)), (100, .inl (.putfield 47, 10, 19, 2)), (103, .inl (.aload_n 0, 0, 0, 0)), (104, .inl (.bipush 40, 0, 0, 0)), (106, .inl (.newarray .int, 0, 0, 0)), (108, .inl (.putfield 50, 10, 20, 2)), (111, .inl (.aload_n 0, 0, 0, 0)), (112, .inl (.bipush 40, 0, 0, 0)), (114, .inl (.newarray .int, 0, 0, 0)), (116, .inl (.putfield 53, 10, 21, 2)), (119, .inl (.aload_n 0, 0, 0, 0)), (120, .inl (.bipush 40, 0, 0, 0)), (122, .inl (.newarray .int, 0, 0, 0)), (124, .inl (.putfield 56, 10, 22, 2)), (127, .inl (.aload_n 0, 0, 0, 0)), (128, .inl (.bipush 120, 0, 0, 0)), (130, .inl (.newarray .byte, 0, 0, 0)), (132, .inl (.putfield 59, 10, 23, 9)), (135, .inl (.aload_n 0, 0, 0, 0)), (136, .inl (.sipush 260, 0, 0, 0)), (139, .inl (.newarray .byte, 0, 0, 0)), (141, .inl (.putfield 63, 10, 29, 9)), (144, .inl (.aload_n 0, 0, 0, 0)), (145, .inl (.sipush 260, 0, 0, 0)), (148, .inl (.newarray .int, 0, 0, 0)), (150, .inl (.putfield 66, 10, 30, 2)), (153, .inl (.aload_n 0, 0, 0, 0)), (154, .inl (.iconst 2, 0, 0, 0)), (155, .inl (.newarray .int, 0, 0, 0)), (157, .inl (.putfield 69, 10, 31, 2)), (160, .inl (.aload_n 0, 0, 0, 0)), (161, .inl (.bipush 122, 0, 0, 0)), (163, .inl (.newarray .short, 0, 0, 0)), (165, .inl (.putfield 72, 10, 32, 9)), (168, .inl (.aload_n 0, 0, 0, 0)), (169, .inl (.bipush 122, 0, 0, 0)), (171, .inl (.newarray .short, 0, 0, 0)), (173, .inl (.putfield 76, 10, 33, 9)), (176, .inl (.aload_n 0, 0, 0, 0)), (177, .inl (.bipush 6, 0, 0, 0)), (179, .inl (.newarray .int, 0, 0, 0)), (181, .inl (.putfield 79, 10, 34, 2)), (184, .inl (.aload_n 0, 0, 0, 0)), (185, .inl (.sipush 130, 0, 0, 0)), (188, .inl (.newarray .int, 0, 0, 0)), (190, .inl (.putfield 82, 10, 35, 2)), (193, .inl (.aload_n 0, 0, 0, 0)), (194, .inl (.bipush 6, 0, 0, 0)), (196, .inl (.newarray .int, 0, 0, 0)), (198, .inl (.putfield 85, 10, 37, 2)), (201, .inl (.aload_n 0, 0, 0, 0)), (202, .inl (.sipush 2107, 0, 0, 0)), (205, .inl (.newarray .int, 0, 0, 0)), (207, .inl (.putfield 88, 10, 38, 2)), (210, .inl (.aload_n 0, 0, 0, 0)), (211, .inl (.sipush 2107, 0, 0, 0)), (214, .inl (.newarray .int, 0, 0, 0)), (216, .inl (.putfield 91, 10, 39, 2)), (219, .inl (.aload_n 0, 0, 0, 0)), (220, .inl (.sipush 2107, 0, 0, 0)), (223, .inl (.newarray .int, 0, 0, 0)), (225, .inl (.putfield 94, 10, 40, 2)), (228, .inl (.aload_n 0, 0, 0, 0)), (229, .inl (.bipush 16, 0, 0, 0)), (231, .inl (.newarray .int, 0, 0, 0)), (233, .inl (.putfield 97, 10, 41, 2)), (236, .inl (.aload_n 0, 0, 0, 0)), (237, .inl (.bipush 6, 0, 0, 0)), (239, .inl (.newarray .int, 0, 0, 0)), (241, .inl (.putfield 100, 10, 43, 2)), (244, .inl (.aload_n 0, 0, 0, 0)), (245, .inl (.bipush 6, 0, 0, 0)), (247, .inl (.newarray .int, 0, 0, 0)), (249, .inl (.putfield 103, 10, 44, 2)), (252, .inl (.aload_n 0, 0, 0, 0)), (253, .inl (.bipush 16, 0, 0, 0)), (255, .inl (.newarray .int, 0, 0, 0)), (257, .inl (.putfield 106, 10, 45, 2)), (260, .inl (.aload_n 0, 0, 0, 0)), (261, .inl (.iconst 5, 0, 0, 0)), (262, .inl (.newarray .int, 0, 0, 0)), (264, .inl (.putfield 109, 10, 46, 2)), (267, .inl (.aload_n 0, 0, 0, 0)), (268, .inl (.bipush 12, 0, 0, 0)), (270, .inl (.newarray .int, 0, 0, 0)), (272, .inl (.putfield 112, 10, 48, 2)), (275, .inl (.aload_n 0, 0, 0, 0)), (276, .inl (.bipush 16, 0, 0, 0)), (278, .inl (.newarray .int, 0, 0, 0)), (280, .inl (.putfield 115, 10, 49, 2)), (283, .inl (.aload_n 0, 0, 0, 0)), (284, .inl (.iconst 5, 0, 0, 0)), (285, .inl (.newarray .int, 0, 0, 0)), (287, .inl (.putfield 118, 10, 50, 2)), (290, .inl (.aload_n 0, 0, 0, 0)), (291, .inl (.bipush 50, 0, 0, 0)), (293, .inl (.newarray .int, 0, 0, 0)), (295, .inl (.putfield 121, 10, 52, 2)), (298, .inl (.aload_n 0, 0, 0, 0)), (299, .inl (.bipush 24, 0, 0, 0)), (301, .inl (.newarray .int, 0, 0, 0)), (303, .inl (.putfield 124, 10, 54, 2)), (306, .inl (.aload_n 0, 0, 0, 0)), (307, .inl (.bipush 6, 0, 0, 0)), (309, .inl (.newarray .int, 0, 0, 0)), (311, .inl (.dup, 0, 0, 0)), (312, .inl (.iconst 0, 0, 0, 0)), (313, .inl (.iconst (-1), 0, 0, 0)), (314, .inl (.iastore, 0, 0, 0)), (315, .inl (.dup, 0, 0, 0)), (316, .inl (.iconst 1, 0, 0, 0)), (317, .inl (.iconst (-1), 0, 0, 0)), (318, .inl (.iastore, 0, 0, 0)), (319, .inl (.dup, 0, 0, 0)), (320, .inl (.iconst 2, 0, 0, 0)), (321, .inl (.iconst (-1), 0, 0, 0)), (322, .inl (.iastore, 0, 0, 0)), (323, .inl (.dup, 0, 0, 0)), (324, .inl (.iconst 3, 0, 0, 0)), (325, .inl (.iconst (-1), 0, 0, 0)), (326, .inl (.iastore, 0, 0, 0)), (327, .inl (.dup, 0, 0, 0)), (328, .inl (.iconst 4, 0, 0, 0)), (329, .inl (.iconst (-1), 0, 0, 0)), (330, .inl (.iastore, 0, 0, 0)), (331, .inl (.dup, 0, 0, 0)), (332, .inl (.iconst 5, 0, 0, 0)), (333, .inl (.iconst (-1), 0, 0, 0)), (334, .inl (.iastore, 0, 0, 0)), (335, .inl (.putfield 127, 10, 55, 2)), (338, .inl (.aload_n 0, 0, 0, 0)), (339, .inl (.bipush 6, 0, 0, 0)), (341, .inl (.newarray .int, 0, 0, 0)), (343, .inl (.putfield 130, 10, 56, 2)), (346, .inl (.aload_n 0, 0, 0, 0)), (347, .inl (.sipush 360, 0, 0, 0)), (350, .inl (.newarray .long, 0, 0, 0)), (352, .inl (.putfield 133, 10, 57, 9)), (355, .inl (.aload_n 0, 0, 0, 0)), (356, .inl (.bipush 60, 0, 0, 0)), (358, .inl (.newarray .long, 0, 0, 0)), (360, .inl (.putfield 137, 10, 58, 9)), (363, .inr (.return_, 3, 0, 0, []))]
def c294 : List (Nat × List kIt) := [(0, b294_0)]
-- 295: PennyALapLaw.law
def b295_0 : List kIt := [(0, .inl (.new 7, 0, 0, 0)), (3, .inl (.dup, 0, 0, 0)), (4, .inl (.invokespecial 9, 0, 0, 0)), (7, .inl (.astore_n 1, 0, 0, 0)), (8, .inl (.new 10, 0, 0, 0)), (11, .inl (.dup, 0, 0, 0)), (12, .inl (.invokespecial 12, 0, 0, 0)), (15, .inl (.astore_n 2, 0, 0, 0)), (16, .inl (.iconst 0, 0, 0, 0)), (17, .inl (.istore_n 3, 0, 0, 0)), (18, .inr (.nop, 1, 18, 0, []))]
def b295_18 : List kIt := [(18, .inl (.iload_n 3, 0, 0, 0)), (19, .inl (.aload_n 0, 0, 0, 0)), (20, .inl (.arraylength, 0, 0, 0)), (21, .inl (.bipush 6, 0, 0, 0)), (23, .inl (.isub, 0, 0, 0)), (24, .inr (.if_icmp .gt 1636, 0, 1660, 0, [])), (27, .inl (.aload_n 0, 0, 0, 0)), (28, .inl (.iload_n 3, 0, 0, 0)), (29, .inl (.iaload, 0, 0, 0)), (30, .inl (.bipush 63, 0, 0, 0)), (32, .inl (.iand, 0, 0, 0)), (33, .inr (.nop, 2, 1654, 0, [(0, 228), (1, 251), (2, 284), (3, 327), (4, 370), (5, 403), (6, 426), (7, 439), (8, 472), (9, 515), (10, 548), (11, 581), (12, 624), (13, 657), (14, 680), (15, 713), (16, 736), (17, 759), (18, 792), (19, 825), (20, 858), (21, 901), (22, 934), (23, 977), (24, 1000), (25, 1043), (26, 1086), (27, 1129), (28, 1152), (29, 1175), (30, 1188), (31, 1211), (32, 1224), (33, 1237), (34, 1250), (35, 1263), (36, 1286), (37, 1329), (38, 1352), (39, 1385), (40, 1428), (41, 1501), (42, 1535), (43, 1598), (44, 1631)]))]
def b295_228 : List kIt := [(228, .inl (.aload_n 1, 0, 0, 0)), (229, .inl (.aload_n 0, 0, 0, 0)), (230, .inl (.iload_n 3, 0, 0, 0)), (231, .inl (.iconst 1, 0, 0, 0)), (232, .inl (.iadd, 0, 0, 0)), (233, .inl (.iaload, 0, 0, 0)), (234, .inr (.invokevirtual 13, 4, 120, 2, [])), (237, .inr (.nop, 1, 237, 0, []))]
def b295_237 : List kIt := [(237, .inl (.aload_n 2, 0, 0, 0)), (238, .inl (.aload_n 0, 0, 0, 0)), (239, .inl (.iload_n 3, 0, 0, 0)), (240, .inl (.iconst 1, 0, 0, 0)), (241, .inl (.iadd, 0, 0, 0)), (242, .inl (.iaload, 0, 0, 0)), (243, .inr (.invokevirtual 17, 4, 173, 2, [])), (246, .inr (.nop, 1, 246, 0, []))]
def b295_246 : List kIt := [(246, .inr (.if_icmp .eq 1408, 0, 1654, 0, [])), (249, .inl (.iconst 0, 0, 0, 0)), (250, .inr (.ireturn, 3, 1, 0, []))]
def b295_251 : List kIt := [(251, .inl (.aload_n 1, 0, 0, 0)), (252, .inl (.aload_n 0, 0, 0, 0)), (253, .inl (.iload_n 3, 0, 0, 0)), (254, .inl (.iconst 1, 0, 0, 0)), (255, .inl (.iadd, 0, 0, 0)), (256, .inl (.iaload, 0, 0, 0)), (257, .inl (.aload_n 0, 0, 0, 0)), (258, .inl (.iload_n 3, 0, 0, 0)), (259, .inl (.iconst 2, 0, 0, 0)), (260, .inl (.iadd, 0, 0, 0)), (261, .inl (.iaload, 0, 0, 0)), (262, .inr (.invokevirtual 18, 4, 121, 3, [])), (265, .inr (.nop, 1, 265, 0, []))]
def b295_265 : List kIt := [(265, .inl (.aload_n 2, 0, 0, 0)), (266, .inl (.aload_n 0, 0, 0, 0)), (267, .inl (.iload_n 3, 0, 0, 0)), (268, .inl (.iconst 1, 0, 0, 0)), (269, .inl (.iadd, 0, 0, 0)), (270, .inl (.iaload, 0, 0, 0)), (271, .inl (.aload_n 0, 0, 0, 0)), (272, .inl (.iload_n 3, 0, 0, 0)), (273, .inl (.iconst 2, 0, 0, 0)), (274, .inl (.iadd, 0, 0, 0)), (275, .inl (.iaload, 0, 0, 0)), (276, .inr (.invokevirtual 22, 4, 175, 3, [])), (279, .inr (.nop, 1, 279, 0, []))]
def b295_279 : List kIt := [(279, .inr (.if_icmp .eq 1375, 0, 1654, 0, [])), (282, .inl (.iconst 0, 0, 0, 0)), (283, .inr (.ireturn, 3, 1, 0, []))]
def b295_284 : List kIt := [(284, .inl (.aload_n 1, 0, 0, 0)), (285, .inl (.aload_n 0, 0, 0, 0)), (286, .inl (.iload_n 3, 0, 0, 0)), (287, .inl (.iconst 1, 0, 0, 0)), (288, .inl (.iadd, 0, 0, 0)), (289, .inl (.iaload, 0, 0, 0)), (290, .inl (.aload_n 0, 0, 0, 0)), (291, .inl (.iload_n 3, 0, 0, 0)), (292, .inl (.iconst 2, 0, 0, 0)), (293, .inl (.iadd, 0, 0, 0)), (294, .inl (.iaload, 0, 0, 0)), (295, .inl (.aload_n 0, 0, 0, 0)), (296, .inl (.iload_n 3, 0, 0, 0)), (297, .inl (.iconst 3, 0, 0, 0)), (298, .inl (.iadd, 0, 0, 0)), (299, .inl (.iaload, 0, 0, 0)), (300, .inr (.invokevirtual 23, 4, 122, 4, [])), (303, .inr (.nop, 1, 303, 0, []))]
def b295_303 : List kIt := [(303, .inl (.aload_n 2, 0, 0, 0)), (304, .inl (.aload_n 0, 0, 0, 0)), (305, .inl (.iload_n 3, 0, 0, 0)), (306, .inl (.iconst 1, 0, 0, 0)), (307, .inl (.iadd, 0, 0, 0)), (308, .inl (.iaload, 0, 0, 0)), (309, .inl (.aload_n 0, 0, 0, 0)), (310, .inl (.iload_n 3, 0, 0, 0)), (311, .inl (.iconst 2, 0, 0, 0)), (312, .inl (.iadd, 0, 0, 0)), (313, .inl (.iaload, 0, 0, 0)), (314, .inl (.aload_n 0, 0, 0, 0)), (315, .inl (.iload_n 3, 0, 0, 0)), (316, .inl (.iconst 3, 0, 0, 0)), (317, .inl (.iadd, 0, 0, 0)), (318, .inl (.iaload, 0, 0, 0)), (319, .inr (.invokevirtual 27, 4, 176, 4, [])), (322, .inr (.nop, 1, 322, 0, []))]
def b295_322 : List kIt := [(322, .inr (.if_icmp .eq 1332, 0, 1654, 0, [])), (325, .inl (.iconst 0, 0, 0, 0)), (326, .inr (.ireturn, 3, 1, 0, []))]
def b295_327 : List kIt := [(327, .inl (.aload_n 1, 0, 0, 0)), (328, .inl (.aload_n 0, 0, 0, 0)), (329, .inl (.iload_n 3, 0, 0, 0)), (330, .inl (.iconst 1, 0, 0, 0)), (331, .inl (.iadd, 0, 0, 0)), (332, .inl (.iaload, 0, 0, 0)), (333, .inl (.aload_n 0, 0, 0, 0)), (334, .inl (.iload_n 3, 0, 0, 0)), (335, .inl (.iconst 2, 0, 0, 0)), (336, .inl (.iadd, 0, 0, 0)), (337, .inl (.iaload, 0, 0, 0)), (338, .inl (.aload_n 0, 0, 0, 0)), (339, .inl (.iload_n 3, 0, 0, 0)), (340, .inl (.iconst 3, 0, 0, 0)), (341, .inl (.iadd, 0, 0, 0)), (342, .inl (.iaload, 0, 0, 0)), (343, .inr (.invokevirtual 28, 4, 124, 4, [])), (346, .inr (.nop, 1, 346, 0, []))]
def b295_346 : List kIt := [(346, .inl (.aload_n 2, 0, 0, 0)), (347, .inl (.aload_n 0, 0, 0, 0)), (348, .inl (.iload_n 3, 0, 0, 0)), (349, .inl (.iconst 1, 0, 0, 0)), (350, .inl (.iadd, 0, 0, 0)), (351, .inl (.iaload, 0, 0, 0)), (352, .inl (.aload_n 0, 0, 0, 0)), (353, .inl (.iload_n 3, 0, 0, 0)), (354, .inl (.iconst 2, 0, 0, 0)), (355, .inl (.iadd, 0, 0, 0)), (356, .inl (.iaload, 0, 0, 0)), (357, .inl (.aload_n 0, 0, 0, 0)), (358, .inl (.iload_n 3, 0, 0, 0)), (359, .inl (.iconst 3, 0, 0, 0)), (360, .inl (.iadd, 0, 0, 0)), (361, .inl (.iaload, 0, 0, 0)), (362, .inr (.invokevirtual 31, 4, 184, 4, [])), (365, .inr (.nop, 1, 365, 0, []))]
def b295_365 : List kIt := [(365, .inr (.if_icmp .eq 1289, 0, 1654, 0, [])), (368, .inl (.iconst 0, 0, 0, 0)), (369, .inr (.ireturn, 3, 1, 0, []))]
def b295_370 : List kIt := [(370, .inl (.aload_n 1, 0, 0, 0)), (371, .inl (.aload_n 0, 0, 0, 0)), (372, .inl (.iload_n 3, 0, 0, 0)), (373, .inl (.iconst 1, 0, 0, 0)), (374, .inl (.iadd, 0, 0, 0)), (375, .inl (.iaload, 0, 0, 0)), (376, .inl (.aload_n 0, 0, 0, 0)), (377, .inl (.iload_n 3, 0, 0, 0)), (378, .inl (.iconst 2, 0, 0, 0)), (379, .inl (.iadd, 0, 0, 0)), (380, .inl (.iaload, 0, 0, 0)), (381, .inr (.invokevirtual 32, 4, 125, 3, [])), (384, .inr (.nop, 1, 384, 0, []))]
def b295_384 : List kIt := [(384, .inl (.aload_n 2, 0, 0, 0)), (385, .inl (.aload_n 0, 0, 0, 0)), (386, .inl (.iload_n 3, 0, 0, 0)), (387, .inl (.iconst 1, 0, 0, 0)), (388, .inl (.iadd, 0, 0, 0)), (389, .inl (.iaload, 0, 0, 0)), (390, .inl (.aload_n 0, 0, 0, 0)), (391, .inl (.iload_n 3, 0, 0, 0)), (392, .inl (.iconst 2, 0, 0, 0)), (393, .inl (.iadd, 0, 0, 0)), (394, .inl (.iaload, 0, 0, 0)), (395, .inr (.invokevirtual 35, 4, 185, 3, [])), (398, .inr (.nop, 1, 398, 0, []))]
def b295_398 : List kIt := [(398, .inr (.if_icmp .eq 1256, 0, 1654, 0, [])), (401, .inl (.iconst 0, 0, 0, 0)), (402, .inr (.ireturn, 3, 1, 0, []))]
def b295_403 : List kIt := [(403, .inl (.aload_n 1, 0, 0, 0)), (404, .inl (.aload_n 0, 0, 0, 0)), (405, .inl (.iload_n 3, 0, 0, 0)), (406, .inl (.iconst 1, 0, 0, 0)), (407, .inl (.iadd, 0, 0, 0)), (408, .inl (.iaload, 0, 0, 0)), (409, .inr (.invokevirtual 36, 4, 126, 2, [])), (412, .inr (.nop, 1, 412, 0, []))]
def b295_412 : List kIt := [(412, .inl (.aload_n 2, 0, 0, 0)), (413, .inl (.aload_n 0, 0, 0, 0)), (414, .inl (.iload_n 3, 0, 0, 0)), (415, .inl (.iconst 1, 0, 0, 0)), (416, .inl (.iadd, 0, 0, 0)), (417, .inl (.iaload, 0, 0, 0)), (418, .inr (.invokevirtual 39, 4, 186, 2, [])), (421, .inr (.nop, 1, 421, 0, []))]
def b295_421 : List kIt := [(421, .inr (.if_icmp .eq 1233, 0, 1654, 0, [])), (424, .inl (.iconst 0, 0, 0, 0)), (425, .inr (.ireturn, 3, 1, 0, []))]
def b295_426 : List kIt := [(426, .inl (.aload_n 1, 0, 0, 0)), (427, .inr (.invokevirtual 40, 4, 127, 1, [])), (430, .inr (.nop, 1, 430, 0, []))]
def b295_430 : List kIt := [(430, .inl (.aload_n 2, 0, 0, 0)), (431, .inr (.invokevirtual 44, 4, 204, 1, [])), (434, .inr (.nop, 1, 434, 0, []))]
def b295_434 : List kIt := [(434, .inr (.if_icmp .eq 1220, 0, 1654, 0, [])), (437, .inl (.iconst 0, 0, 0, 0)), (438, .inr (.ireturn, 3, 1, 0, []))]
def b295_439 : List kIt := [(439, .inl (.aload_n 1, 0, 0, 0)), (440, .inl (.aload_n 0, 0, 0, 0)), (441, .inl (.iload_n 3, 0, 0, 0)), (442, .inl (.iconst 1, 0, 0, 0)), (443, .inl (.iadd, 0, 0, 0)), (444, .inl (.iaload, 0, 0, 0)), (445, .inl (.aload_n 0, 0, 0, 0)), (446, .inl (.iload_n 3, 0, 0, 0)), (447, .inl (.iconst 2, 0, 0, 0)), (448, .inl (.iadd, 0, 0, 0)), (449, .inl (.iaload, 0, 0, 0)), (450, .inr (.invokevirtual 45, 4, 128, 3, [])), (453, .inr (.nop, 1, 453, 0, []))]
def b295_453 : List kIt := [(453, .inl (.aload_n 2, 0, 0, 0)), (454, .inl (.aload_n 0, 0, 0, 0)), (455, .inl (.iload_n 3, 0, 0, 0)), (456, .inl (.iconst 1, 0, 0, 0)), (457, .inl (.iadd, 0, 0, 0)), (458, .inl (.iaload, 0, 0, 0)), (459, .inl (.aload_n 0, 0, 0, 0)), (460, .inl (.iload_n 3, 0, 0, 0)), (461, .inl (.iconst 2, 0, 0, 0)), (462, .inl (.iadd, 0, 0, 0)), (463, .inl (.iaload, 0, 0, 0)), (464, .inr (.invokevirtual 48, 4, 206, 3, [])), (467, .inr (.nop, 1, 467, 0, []))]
def b295_467 : List kIt := [(467, .inr (.if_icmp .eq 1187, 0, 1654, 0, [])), (470, .inl (.iconst 0, 0, 0, 0)), (471, .inr (.ireturn, 3, 1, 0, []))]
def b295_472 : List kIt := [(472, .inl (.aload_n 1, 0, 0, 0)), (473, .inl (.aload_n 0, 0, 0, 0)), (474, .inl (.iload_n 3, 0, 0, 0)), (475, .inl (.iconst 1, 0, 0, 0)), (476, .inl (.iadd, 0, 0, 0)), (477, .inl (.iaload, 0, 0, 0)), (478, .inl (.aload_n 0, 0, 0, 0)), (479, .inl (.iload_n 3, 0, 0, 0)), (480, .inl (.iconst 2, 0, 0, 0)), (481, .inl (.iadd, 0, 0, 0)), (482, .inl (.iaload, 0, 0, 0)), (483, .inl (.aload_n 0, 0, 0, 0)), (484, .inl (.iload_n 3, 0, 0, 0)), (485, .inl (.iconst 3, 0, 0, 0)), (486, .inl (.iadd, 0, 0, 0)), (487, .inl (.iaload, 0, 0, 0)), (488, .inr (.invokevirtual 49, 4, 129, 4, [])), (491, .inr (.nop, 1, 491, 0, []))]
def b295_491 : List kIt := [(491, .inl (.aload_n 2, 0, 0, 0)), (492, .inl (.aload_n 0, 0, 0, 0)), (493, .inl (.iload_n 3, 0, 0, 0)), (494, .inl (.iconst 1, 0, 0, 0)), (495, .inl (.iadd, 0, 0, 0)), (496, .inl (.iaload, 0, 0, 0)), (497, .inl (.aload_n 0, 0, 0, 0)), (498, .inl (.iload_n 3, 0, 0, 0)), (499, .inl (.iconst 2, 0, 0, 0)), (500, .inl (.iadd, 0, 0, 0)), (501, .inl (.iaload, 0, 0, 0)), (502, .inl (.aload_n 0, 0, 0, 0)), (503, .inl (.iload_n 3, 0, 0, 0)), (504, .inl (.iconst 3, 0, 0, 0)), (505, .inl (.iadd, 0, 0, 0)), (506, .inl (.iaload, 0, 0, 0)), (507, .inr (.invokevirtual 52, 4, 221, 4, [])), (510, .inr (.nop, 1, 510, 0, []))]
def b295_510 : List kIt := [(510, .inr (.if_icmp .eq 1144, 0, 1654, 0, [])), (513, .inl (.iconst 0, 0, 0, 0)), (514, .inr (.ireturn, 3, 1, 0, []))]
def b295_515 : List kIt := [(515, .inl (.aload_n 1, 0, 0, 0)), (516, .inl (.aload_n 0, 0, 0, 0)), (517, .inl (.iload_n 3, 0, 0, 0)), (518, .inl (.iconst 1, 0, 0, 0)), (519, .inl (.iadd, 0, 0, 0)), (520, .inl (.iaload, 0, 0, 0)), (521, .inl (.aload_n 0, 0, 0, 0)), (522, .inl (.iload_n 3, 0, 0, 0)), (523, .inl (.iconst 2, 0, 0, 0)), (524, .inl (.iadd, 0, 0, 0)), (525, .inl (.iaload, 0, 0, 0)), (526, .inr (.invokevirtual 53, 4, 130, 3, [])), (529, .inr (.nop, 1, 529, 0, []))]
def b295_529 : List kIt := [(529, .inl (.aload_n 2, 0, 0, 0)), (530, .inl (.aload_n 0, 0, 0, 0)), (531, .inl (.iload_n 3, 0, 0, 0)), (532, .inl (.iconst 1, 0, 0, 0)), (533, .inl (.iadd, 0, 0, 0)), (534, .inl (.iaload, 0, 0, 0)), (535, .inl (.aload_n 0, 0, 0, 0)), (536, .inl (.iload_n 3, 0, 0, 0)), (537, .inl (.iconst 2, 0, 0, 0)), (538, .inl (.iadd, 0, 0, 0)), (539, .inl (.iaload, 0, 0, 0)), (540, .inr (.invokevirtual 56, 4, 210, 3, [])), (543, .inr (.nop, 1, 543, 0, []))]
def b295_543 : List kIt := [(543, .inr (.if_icmp .eq 1111, 0, 1654, 0, [])), (546, .inl (.iconst 0, 0, 0, 0)), (547, .inr (.ireturn, 3, 1, 0, []))]
def b295_548 : List kIt := [(548, .inl (.aload_n 1, 0, 0, 0)), (549, .inl (.aload_n 0, 0, 0, 0)), (550, .inl (.iload_n 3, 0, 0, 0)), (551, .inl (.iconst 1, 0, 0, 0)), (552, .inl (.iadd, 0, 0, 0)), (553, .inl (.iaload, 0, 0, 0)), (554, .inl (.aload_n 0, 0, 0, 0)), (555, .inl (.iload_n 3, 0, 0, 0)), (556, .inl (.iconst 2, 0, 0, 0)), (557, .inl (.iadd, 0, 0, 0)), (558, .inl (.iaload, 0, 0, 0)), (559, .inr (.invokevirtual 57, 4, 131, 3, [])), (562, .inr (.nop, 1, 562, 0, []))]
def b295_562 : List kIt := [(562, .inl (.aload_n 2, 0, 0, 0)), (563, .inl (.aload_n 0, 0, 0, 0)), (564, .inl (.iload_n 3, 0, 0, 0)), (565, .inl (.iconst 1, 0, 0, 0)), (566, .inl (.iadd, 0, 0, 0)), (567, .inl (.iaload, 0, 0, 0)), (568, .inl (.aload_n 0, 0, 0, 0)), (569, .inl (.iload_n 3, 0, 0, 0)), (570, .inl (.iconst 2, 0, 0, 0)), (571, .inl (.iadd, 0, 0, 0)), (572, .inl (.iaload, 0, 0, 0)), (573, .inr (.invokevirtual 60, 4, 224, 3, [])), (576, .inr (.nop, 1, 576, 0, []))]
def b295_576 : List kIt := [(576, .inr (.if_icmp .eq 1078, 0, 1654, 0, [])), (579, .inl (.iconst 0, 0, 0, 0)), (580, .inr (.ireturn, 3, 1, 0, []))]
def b295_581 : List kIt := [(581, .inl (.aload_n 1, 0, 0, 0)), (582, .inl (.aload_n 0, 0, 0, 0)), (583, .inl (.iload_n 3, 0, 0, 0)), (584, .inl (.iconst 1, 0, 0, 0)), (585, .inl (.iadd, 0, 0, 0)), (586, .inl (.iaload, 0, 0, 0)), (587, .inl (.aload_n 0, 0, 0, 0)), (588, .inl (.iload_n 3, 0, 0, 0)), (589, .inl (.iconst 2, 0, 0, 0)), (590, .inl (.iadd, 0, 0, 0)), (591, .inl (.iaload, 0, 0, 0)), (592, .inl (.aload_n 0, 0, 0, 0)), (593, .inl (.iload_n 3, 0, 0, 0)), (594, .inl (.iconst 3, 0, 0, 0)), (595, .inl (.iadd, 0, 0, 0)), (596, .inl (.iaload, 0, 0, 0)), (597, .inr (.invokevirtual 61, 4, 132, 4, [])), (600, .inr (.nop, 1, 600, 0, []))]
def b295_600 : List kIt := [(600, .inl (.aload_n 2, 0, 0, 0)), (601, .inl (.aload_n 0, 0, 0, 0)), (602, .inl (.iload_n 3, 0, 0, 0)), (603, .inl (.iconst 1, 0, 0, 0)), (604, .inl (.iadd, 0, 0, 0)), (605, .inl (.iaload, 0, 0, 0)), (606, .inl (.aload_n 0, 0, 0, 0)), (607, .inl (.iload_n 3, 0, 0, 0)), (608, .inl (.iconst 2, 0, 0, 0)), (609, .inl (.iadd, 0, 0, 0)), (610, .inl (.iaload, 0, 0, 0)), (611, .inl (.aload_n 0, 0, 0, 0)), (612, .inl (.iload_n 3, 0, 0, 0)), (613, .inl (.iconst 3, 0, 0, 0)), (614, .inl (.iadd, 0, 0, 0)), (615, .inl (.iaload, 0, 0, 0)), (616, .inr (.invokevirtual 64, 4, 214, 4, [])), (619, .inr (.nop, 1, 619, 0, []))]
def b295_619 : List kIt := [(619, .inr (.if_icmp .eq 1035, 0, 1654, 0, [])), (622, .inl (.iconst 0, 0, 0, 0)), (623, .inr (.ireturn, 3, 1, 0, []))]
def b295_624 : List kIt := [(624, .inl (.aload_n 1, 0, 0, 0)), (625, .inl (.aload_n 0, 0, 0, 0)), (626, .inl (.iload_n 3, 0, 0, 0)), (627, .inl (.iconst 1, 0, 0, 0)), (628, .inl (.iadd, 0, 0, 0)), (629, .inl (.iaload, 0, 0, 0)), (630, .inl (.aload_n 0, 0, 0, 0)), (631, .inl (.iload_n 3, 0, 0, 0)), (632, .inl (.iconst 2, 0, 0, 0)), (633, .inl (.iadd, 0, 0, 0)), (634, .inl (.iaload, 0, 0, 0)), (635, .inr (.invokevirtual 65, 4, 133, 3, [])), (638, .inr (.nop, 1, 638, 0, []))]
def b295_638 : List kIt := [(638, .inl (.aload_n 2, 0, 0, 0)), (639, .inl (.aload_n 0, 0, 0, 0)), (640, .inl (.iload_n 3, 0, 0, 0)), (641, .inl (.iconst 1, 0, 0, 0)), (642, .inl (.iadd, 0, 0, 0)), (643, .inl (.iaload, 0, 0, 0)), (644, .inl (.aload_n 0, 0, 0, 0)), (645, .inl (.iload_n 3, 0, 0, 0)), (646, .inl (.iconst 2, 0, 0, 0)), (647, .inl (.iadd, 0, 0, 0)), (648, .inl (.iaload, 0, 0, 0)), (649, .inr (.invokevirtual 68, 4, 226, 3, [])), (652, .inr (.nop, 1, 652, 0, []))]
def b295_652 : List kIt := [(652, .inr (.if_icmp .eq 1002, 0, 1654, 0, [])), (655, .inl (.iconst 0, 0, 0, 0)), (656, .inr (.ireturn, 3, 1, 0, []))]
def b295_657 : List kIt := [(657, .inl (.aload_n 1, 0, 0, 0)), (658, .inl (.aload_n 0, 0, 0, 0)), (659, .inl (.iload_n 3, 0, 0, 0)), (660, .inl (.iconst 1, 0, 0, 0)), (661, .inl (.iadd, 0, 0, 0)), (662, .inl (.iaload, 0, 0, 0)), (663, .inr (.invokevirtual 69, 4, 134, 2, [])), (666, .inr (.nop, 1, 666, 0, []))]
def b295_666 : List kIt := [(666, .inl (.aload_n 2, 0, 0, 0)), (667, .inl (.aload_n 0, 0, 0, 0)), (668, .inl (.iload_n 3, 0, 0, 0)), (669, .inl (.iconst 1, 0, 0, 0)), (670, .inl (.iadd, 0, 0, 0)), (671, .inl (.iaload, 0, 0, 0)), (672, .inr (.invokevirtual 72, 4, 227, 2, [])), (675, .inr (.nop, 1, 675, 0, []))]
def b295_675 : List kIt := [(675, .inr (.if_icmp .eq 979, 0, 1654, 0, [])), (678, .inl (.iconst 0, 0, 0, 0)), (679, .inr (.ireturn, 3, 1, 0, []))]
def b295_680 : List kIt := [(680, .inl (.aload_n 1, 0, 0, 0)), (681, .inl (.aload_n 0, 0, 0, 0)), (682, .inl (.iload_n 3, 0, 0, 0)), (683, .inl (.iconst 1, 0, 0, 0)), (684, .inl (.iadd, 0, 0, 0)), (685, .inl (.iaload, 0, 0, 0)), (686, .inl (.aload_n 0, 0, 0, 0)), (687, .inl (.iload_n 3, 0, 0, 0)), (688, .inl (.iconst 2, 0, 0, 0)), (689, .inl (.iadd, 0, 0, 0)), (690, .inl (.iaload, 0, 0, 0)), (691, .inr (.invokevirtual 73, 4, 135, 3, [])), (694, .inr (.nop, 1, 694, 0, []))]
def b295_694 : List kIt := [(694, .inl (.aload_n 2, 0, 0, 0)), (695, .inl (.aload_n 0, 0, 0, 0)), (696, .inl (.iload_n 3, 0, 0, 0)), (697, .inl (.iconst 1, 0, 0, 0)), (698, .inl (.iadd, 0, 0, 0)), (699, .inl (.iaload, 0, 0, 0)), (700, .inl (.aload_n 0, 0, 0, 0)), (701, .inl (.iload_n 3, 0, 0, 0)), (702, .inl (.iconst 2, 0, 0, 0)), (703, .inl (.iadd, 0, 0, 0)), (704, .inl (.iaload, 0, 0, 0)), (705, .inr (.invokevirtual 76, 4, 228, 3, [])), (708, .inr (.nop, 1, 708, 0, []))]
def b295_708 : List kIt := [(708, .inr (.if_icmp .eq 946, 0, 1654, 0, [])), (711, .inl (.iconst 0, 0, 0, 0)), (712, .inr (.ireturn, 3, 1, 0, []))]
def b295_713 : List kIt := [(713, .inl (.aload_n 1, 0, 0, 0)), (714, .inl (.aload_n 0, 0, 0, 0)), (715, .inl (.iload_n 3, 0, 0, 0)), (716, .inl (.iconst 1, 0, 0, 0)), (717, .inl (.iadd, 0, 0, 0)), (718, .inl (.iaload, 0, 0, 0)), (719, .inr (.invokevirtual 77, 4, 136, 2, [])), (722, .inr (.nop, 1, 722, 0, []))]
def b295_722 : List kIt := [(722, .inl (.aload_n 2, 0, 0, 0)), (723, .inl (.aload_n 0, 0, 0, 0)), (724, .inl (.iload_n 3, 0, 0, 0)), (725, .inl (.iconst 1, 0, 0, 0)), (726, .inl (.iadd, 0, 0, 0)), (727, .inl (.iaload, 0, 0, 0)), (728, .inr (.invokevirtual 80, 4, 229, 2, [])), (731, .inr (.nop, 1, 731, 0, []))]
def b295_731 : List kIt := [(731, .inr (.if_icmp .eq 923, 0, 1654, 0, [])), (734, .inl (.iconst 0, 0, 0, 0)), (735, .inr (.ireturn, 3, 1, 0, []))]
def b295_736 : List kIt := [(736, .inl (.aload_n 1, 0, 0, 0)), (737, .inl (.aload_n 0, 0, 0, 0)), (738, .inl (.iload_n 3, 0, 0, 0)), (739, .inl (.iconst 1, 0, 0, 0)), (740, .inl (.iadd, 0, 0, 0)), (741, .inl (.iaload, 0, 0, 0)), (742, .inr (.invokevirtual 81, 4, 137, 2, [])), (745, .inr (.nop, 1, 745, 0, []))]
def b295_745 : List kIt := [(745, .inl (.aload_n 2, 0, 0, 0)), (746, .inl (.aload_n 0, 0, 0, 0)), (747, .inl (.iload_n 3, 0, 0, 0)), (748, .inl (.iconst 1, 0, 0, 0)), (749, .inl (.iadd, 0, 0, 0)), (750, .inl (.iaload, 0, 0, 0)), (751, .inr (.invokevirtual 84, 4, 230, 2, [])), (754, .inr (.nop, 1, 754, 0, []))]
def b295_754 : List kIt := [(754, .inr (.if_icmp .eq 900, 0, 1654, 0, [])), (757, .inl (.iconst 0, 0, 0, 0)), (758, .inr (.ireturn, 3, 1, 0, []))]
def b295_759 : List kIt := [(759, .inl (.aload_n 1, 0, 0, 0)), (760, .inl (.aload_n 0, 0, 0, 0)), (761, .inl (.iload_n 3, 0, 0, 0)), (762, .inl (.iconst 1, 0, 0, 0)), (763, .inl (.iadd, 0, 0, 0)), (764, .inl (.iaload, 0, 0, 0)), (765, .inl (.aload_n 0, 0, 0, 0)), (766, .inl (.iload_n 3, 0, 0, 0)), (767, .inl (.iconst 2, 0, 0, 0)), (768, .inl (.iadd, 0, 0, 0)), (769, .inl (.iaload, 0, 0, 0)), (770, .inr (.invokevirtual 85, 4, 138, 3, [])), (773, .inr (.nop, 1, 773, 0, []))]
def b295_773 : List kIt := [(773, .inl (.aload_n 2, 0, 0, 0)), (774, .inl (.aload_n 0, 0, 0, 0)), (775, .inl (.iload_n 3, 0, 0, 0)), (776, .inl (.iconst 1, 0, 0, 0)), (777, .inl (.iadd, 0, 0, 0)), (778, .inl (.iaload, 0, 0, 0)), (779, .inl (.aload_n 0, 0, 0, 0)), (780, .inl (.iload_n 3, 0, 0, 0)), (781, .inl (.iconst 2, 0, 0, 0)), (782, .inl (.iadd, 0, 0, 0)), (783, .inl (.iaload, 0, 0, 0)), (784, .inr (.invokevirtual 88, 4, 232, 3, [])), (787, .inr (.nop, 1, 787, 0, []))]
def b295_787 : List kIt := [(787, .inr (.if_icmp .eq 867, 0, 1654, 0, [])), (790, .inl (.iconst 0, 0, 0, 0)), (791, .inr (.ireturn, 3, 1, 0, []))]
def b295_792 : List kIt := [(792, .inl (.aload_n 1, 0, 0, 0)), (793, .inl (.aload_n 0, 0, 0, 0)), (794, .inl (.iload_n 3, 0, 0, 0)), (795, .inl (.iconst 1, 0, 0, 0)), (796, .inl (.iadd, 0, 0, 0)), (797, .inl (.iaload, 0, 0, 0)), (798, .inl (.aload_n 0, 0, 0, 0)), (799, .inl (.iload_n 3, 0, 0, 0)), (800, .inl (.iconst 2, 0, 0, 0)), (801, .inl (.iadd, 0, 0, 0)), (802, .inl (.iaload, 0, 0, 0)), (803, .inr (.invokevirtual 89, 4, 139, 3, [])), (806, .inr (.nop, 1, 806, 0, []))]
def b295_806 : List kIt := [(806, .inl (.aload_n 2, 0, 0, 0)), (807, .inl (.aload_n 0, 0, 0, 0)), (808, .inl (.iload_n 3, 0, 0, 0)), (809, .inl (.iconst 1, 0, 0, 0)), (810, .inl (.iadd, 0, 0, 0)), (811, .inl (.iaload, 0, 0, 0)), (812, .inl (.aload_n 0, 0, 0, 0)), (813, .inl (.iload_n 3, 0, 0, 0)), (814, .inl (.iconst 2, 0, 0, 0)), (815, .inl (.iadd, 0, 0, 0)), (816, .inl (.iaload, 0, 0, 0)), (817, .inr (.invokevirtual 92, 4, 240, 3, [])), (820, .inr (.nop, 1, 820, 0, []))]
def b295_820 : List kIt := [(820, .inr (.if_icmp .eq 834, 0, 1654, 0, [])), (823, .inl (.iconst 0, 0, 0, 0)), (824, .inr (.ireturn, 3, 1, 0, []))]
def b295_825 : List kIt := [(825, .inl (.aload_n 1, 0, 0, 0)), (826, .inl (.aload_n 0, 0, 0, 0)), (827, .inl (.iload_n 3, 0, 0, 0)), (828, .inl (.iconst 1, 0, 0, 0)), (829, .inl (.iadd, 0, 0, 0)), (830, .inl (.iaload, 0, 0, 0)), (831, .inl (.aload_n 0, 0, 0, 0)), (832, .inl (.iload_n 3, 0, 0, 0)), (833, .inl (.iconst 2, 0, 0, 0)), (834, .inl (.iadd, 0, 0, 0)), (835, .inl (.iaload, 0, 0, 0)), (836, .inr (.invokevirtual 93, 4, 140, 3, [])), (839, .inr (.nop, 1, 839, 0, []))]
def b295_839 : List kIt := [(839, .inl (.aload_n 2, 0, 0, 0)), (840, .inl (.aload_n 0, 0, 0, 0)), (841, .inl (.iload_n 3, 0, 0, 0)), (842, .inl (.iconst 1, 0, 0, 0)), (843, .inl (.iadd, 0, 0, 0)), (844, .inl (.iaload, 0, 0, 0)), (845, .inl (.aload_n 0, 0, 0, 0)), (846, .inl (.iload_n 3, 0, 0, 0)), (847, .inl (.iconst 2, 0, 0, 0)), (848, .inl (.iadd, 0, 0, 0)), (849, .inl (.iaload, 0, 0, 0)), (850, .inr (.invokevirtual 96, 4, 241, 3, [])), (853, .inr (.nop, 1, 853, 0, []))]
def b295_853 : List kIt := [(853, .inr (.if_icmp .eq 801, 0, 1654, 0, [])), (856, .inl (.iconst 0, 0, 0, 0)), (857, .inr (.ireturn, 3, 1, 0, []))]
def b295_858 : List kIt := [(858, .inl (.aload_n 1, 0, 0, 0)), (859, .inl (.aload_n 0, 0, 0, 0)), (860, .inl (.iload_n 3, 0, 0, 0)), (861, .inl (.iconst 1, 0, 0, 0)), (862, .inl (.iadd, 0, 0, 0)), (863, .inl (.iaload, 0, 0, 0)), (864, .inl (.aload_n 0, 0, 0, 0)), (865, .inl (.iload_n 3, 0, 0, 0)), (866, .inl (.iconst 2, 0, 0, 0)), (867, .inl (.iadd, 0, 0, 0)), (868, .inl (.iaload, 0, 0, 0)), (869, .inl (.aload_n 0, 0, 0, 0)), (870, .inl (.iload_n 3, 0, 0, 0)), (871, .inl (.iconst 3, 0, 0, 0)), (872, .inl (.iadd, 0, 0, 0)), (873, .inl (.iaload, 0, 0, 0)), (874, .inr (.invokevirtual 97, 4, 141, 4, [])), (877, .inr (.nop, 1, 877, 0, []))]
def b295_877 : List kIt := [(877, .inl (.aload_n 2, 0, 0, 0)), (878, .inl (.aload_n 0, 0, 0, 0)), (879, .inl (.iload_n 3, 0, 0, 0)), (880, .inl (.iconst 1, 0, 0, 0)), (881, .inl (.iadd, 0, 0, 0)), (882, .inl (.iaload, 0, 0, 0)), (883, .inl (.aload_n 0, 0, 0, 0)), (884, .inl (.iload_n 3, 0, 0, 0)), (885, .inl (.iconst 2, 0, 0, 0)), (886, .inl (.iadd, 0, 0, 0)), (887, .inl (.iaload, 0, 0, 0)), (888, .inl (.aload_n 0, 0, 0, 0)), (889, .inl (.iload_n 3, 0, 0, 0)), (890, .inl (.iconst 3, 0, 0, 0)), (891, .inl (.iadd, 0, 0, 0)), (892, .inl (.iaload, 0, 0, 0)), (893, .inr (.invokevirtual 100, 4, 242, 4, [])), (896, .inr (.nop, 1, 896, 0, []))]
def b295_896 : List kIt := [(896, .inr (.if_icmp .eq 758, 0, 1654, 0, [])), (899, .inl (.iconst 0, 0, 0, 0)), (900, .inr (.ireturn, 3, 1, 0, []))]
def b295_901 : List kIt := [(901, .inl (.aload_n 1, 0, 0, 0)), (902, .inl (.aload_n 0, 0, 0, 0)), (903, .inl (.iload_n 3, 0, 0, 0)), (904, .inl (.iconst 1, 0, 0, 0)), (905, .inl (.iadd, 0, 0, 0)), (906, .inl (.iaload, 0, 0, 0)), (907, .inl (.aload_n 0, 0, 0, 0)), (908, .inl (.iload_n 3, 0, 0, 0)), (909, .inl (.iconst 2, 0, 0, 0)), (910, .inl (.iadd, 0, 0, 0)), (911, .inl (.iaload, 0, 0, 0)), (912, .inr (.invokevirtual 101, 4, 143, 3, [])), (915, .inr (.nop, 1, 915, 0, []))]
def b295_915 : List kIt := [(915, .inl (.aload_n 2, 0, 0, 0)), (916, .inl (.aload_n 0, 0, 0, 0)), (917, .inl (.iload_n 3, 0, 0, 0)), (918, .inl (.iconst 1, 0, 0, 0)), (919, .inl (.iadd, 0, 0, 0)), (920, .inl (.iaload, 0, 0, 0)), (921, .inl (.aload_n 0, 0, 0, 0)), (922, .inl (.iload_n 3, 0, 0, 0)), (923, .inl (.iconst 2, 0, 0, 0)), (924, .inl (.iadd, 0, 0, 0)), (925, .inl (.iaload, 0, 0, 0)), (926, .inr (.invokevirtual 104, 4, 244, 3, [])), (929, .inr (.nop, 1, 929, 0, []))]
def b295_929 : List kIt := [(929, .inr (.if_icmp .eq 725, 0, 1654, 0, [])), (932, .inl (.iconst 0, 0, 0, 0)), (933, .inr (.ireturn, 3, 1, 0, []))]
def b295_934 : List kIt := [(934, .inl (.aload_n 1, 0, 0, 0)), (935, .inl (.aload_n 0, 0, 0, 0)), (936, .inl (.iload_n 3, 0, 0, 0)), (937, .inl (.iconst 1, 0, 0, 0)), (938, .inl (.iadd, 0, 0, 0)), (939, .inl (.iaload, 0, 0, 0)), (940, .inl (.aload_n 0, 0, 0, 0)), (941, .inl (.iload_n 3, 0, 0, 0)), (942, .inl (.iconst 2, 0, 0, 0)), (943, .inl (.iadd, 0, 0, 0)), (944, .inl (.iaload, 0, 0, 0)), (945, .inl (.aload_n 0, 0, 0, 0)), (946, .inl (.iload_n 3, 0, 0, 0)), (947, .inl (.iconst 3, 0, 0, 0)), (948, .inl (.iadd, 0, 0, 0)), (949, .inl (.iaload, 0, 0, 0)), (950, .inr (.invokevirtual 105, 4, 145, 4, [])), (953, .inr (.nop, 1, 953, 0, []))]
def b295_953 : List kIt := [(953, .inl (.aload_n 2, 0, 0, 0)), (954, .inl (.aload_n 0, 0, 0, 0)), (955, .inl (.iload_n 3, 0, 0, 0)), (956, .inl (.iconst 1, 0, 0, 0)), (957, .inl (.iadd, 0, 0, 0)), (958, .inl (.iaload, 0, 0, 0)), (959, .inl (.aload_n 0, 0, 0, 0)), (960, .inl (.iload_n 3, 0, 0, 0)), (961, .inl (.iconst 2, 0, 0, 0)), (962, .inl (.iadd, 0, 0, 0)), (963, .inl (.iaload, 0, 0, 0)), (964, .inl (.aload_n 0, 0, 0, 0)), (965, .inl (.iload_n 3, 0, 0, 0)), (966, .inl (.iconst 3, 0, 0, 0)), (967, .inl (.iadd, 0, 0, 0)), (968, .inl (.iaload, 0, 0, 0)), (969, .inr (.invokevirtual 108, 4, 245, 4, [])), (972, .inr (.nop, 1, 972, 0, []))]
def b295_972 : List kIt := [(972, .inr (.if_icmp .eq 682, 0, 1654, 0, [])), (975, .inl (.iconst 0, 0, 0, 0)), (976, .inr (.ireturn, 3, 1, 0, []))]
def b295_977 : List kIt := [(977, .inl (.aload_n 1, 0, 0, 0)), (978, .inl (.aload_n 0, 0, 0, 0)), (979, .inl (.iload_n 3, 0, 0, 0)), (980, .inl (.iconst 1, 0, 0, 0)), (981, .inl (.iadd, 0, 0, 0)), (982, .inl (.iaload, 0, 0, 0)), (983, .inr (.invokevirtual 109, 4, 146, 2, [])), (986, .inr (.nop, 1, 986, 0, []))]
def b295_986 : List kIt := [(986, .inl (.aload_n 2, 0, 0, 0)), (987, .inl (.aload_n 0, 0, 0, 0)), (988, .inl (.iload_n 3, 0, 0, 0)), (989, .inl (.iconst 1, 0, 0, 0)), (990, .inl (.iadd, 0, 0, 0)), (991, .inl (.iaload, 0, 0, 0)), (992, .inr (.invokevirtual 112, 4, 246, 2, [])), (995, .inr (.nop, 1, 995, 0, []))]
def b295_995 : List kIt := [(995, .inr (.if_icmp .eq 659, 0, 1654, 0, [])), (998, .inl (.iconst 0, 0, 0, 0)), (999, .inr (.ireturn, 3, 1, 0, []))]
def b295_1000 : List kIt := [(1000, .inl (.aload_n 1, 0, 0, 0)), (1001, .inl (.aload_n 0, 0, 0, 0)), (1002, .inl (.iload_n 3, 0, 0, 0)), (1003, .inl (.iconst 1, 0, 0, 0)), (1004, .inl (.iadd, 0, 0, 0)), (1005, .inl (.iaload, 0, 0, 0)), (1006, .inl (.aload_n 0, 0, 0, 0)), (1007, .inl (.iload_n 3, 0, 0, 0)), (1008, .inl (.iconst 2, 0, 0, 0)), (1009, .inl (.iadd, 0, 0, 0)), (1010, .inl (.iaload, 0, 0, 0)), (1011, .inl (.aload_n 0, 0, 0, 0)), (1012, .inl (.iload_n 3, 0, 0, 0)), (1013, .inl (.iconst 3, 0, 0, 0)), (1014, .inl (.iadd, 0, 0, 0)), (1015, .inl (.iaload, 0, 0, 0)), (1016, .inr (.invokevirtual 113, 4, 147, 4, [])), (1019, .inr (.nop, 1, 1019, 0, []))]
def b295_1019 : List kIt := [(1019, .inl (.aload_n 2, 0, 0, 0)), (1020, .inl (.aload_n 0, 0, 0, 0)), (1021, .inl (.iload_n 3, 0, 0, 0)), (1022, .inl (.iconst 1, 0, 0, 0)), (1023, .inl (.iadd, 0, 0, 0)), (1024, .inl (.iaload, 0, 0, 0)), (1025, .inl (.aload_n 0, 0, 0, 0)), (1026, .inl (.iload_n 3, 0, 0, 0)), (1027, .inl (.iconst 2, 0, 0, 0)), (1028, .inl (.iadd, 0, 0, 0)), (1029, .inl (.iaload, 0, 0, 0)), (1030, .inl (.aload_n 0, 0, 0, 0)), (1031, .inl (.iload_n 3, 0, 0, 0)), (1032, .inl (.iconst 3, 0, 0, 0)), (1033, .inl (.iadd, 0, 0, 0)), (1034, .inl (.iaload, 0, 0, 0)), (1035, .inr (.invokevirtual 116, 4, 247, 4, [])), (1038, .inr (.nop, 1, 1038, 0, []))]
def b295_1038 : List kIt := [(1038, .inr (.if_icmp .eq 616, 0, 1654, 0, [])), (1041, .inl (.iconst 0, 0, 0, 0)), (1042, .inr (.ireturn, 3, 1, 0, []))]
def b295_1043 : List kIt := [(1043, .inl (.aload_n 1, 0, 0, 0)), (1044, .inl (.aload_n 0, 0, 0, 0)), (1045, .inl (.iload_n 3, 0, 0, 0)), (1046, .inl (.iconst 1, 0, 0, 0)), (1047, .inl (.iadd, 0, 0, 0)), (1048, .inl (.iaload, 0, 0, 0)), (1049, .inl (.aload_n 0, 0, 0, 0)), (1050, .inl (.iload_n 3, 0, 0, 0)), (1051, .inl (.iconst 2, 0, 0, 0)), (1052, .inl (.iadd, 0, 0, 0)), (1053, .inl (.iaload, 0, 0, 0)), (1054, .inl (.aload_n 0, 0, 0, 0)), (1055, .inl (.iload_n 3, 0, 0, 0)), (1056, .inl (.iconst 3, 0, 0, 0)), (1057, .inl (.iadd, 0, 0, 0)), (1058, .inl (.iaload, 0, 0, 0)), (1059, .inr (.invokevirtual 117, 4, 148, 4, [])), (1062, .inr (.nop, 1, 1062, 0, []))]
def b295_1062 : List kIt := [(1062, .inl (.aload_n 2, 0, 0, 0)), (1063, .inl (.aload_n 0, 0, 0, 0)), (1064, .inl (.iload_n 3, 0, 0, 0)), (1065, .inl (.iconst 1, 0, 0, 0)), (1066, .inl (.iadd, 0, 0, 0)), (1067, .inl (.iaload, 0, 0, 0)), (1068, .inl (.aload_n 0, 0, 0, 0)), (1069, .inl (.iload_n 3, 0, 0, 0)), (1070, .inl (.iconst 2, 0, 0, 0)), (1071, .inl (.iadd, 0, 0, 0)), (1072, .inl (.iaload, 0, 0, 0)), (1073, .inl (.aload_n 0, 0, 0, 0)), (1074, .inl (.iload_n 3, 0, 0, 0)), (1075, .inl (.iconst 3, 0, 0, 0)), (1076, .inl (.iadd, 0, 0, 0)), (1077, .inl (.iaload, 0, 0, 0)), (1078, .inr (.invokevirtual 120, 4, 249, 4, [])), (1081, .inr (.nop, 1, 1081, 0, []))]
def b295_1081 : List kIt := [(1081, .inr (.if_icmp .eq 573, 0, 1654, 0, [])), (1084, .inl (.iconst 0, 0, 0, 0)), (1085, .inr (.ireturn, 3, 1, 0, []))]
def b295_1086 : List kIt := [(1086, .inl (.aload_n 1, 0, 0, 0)), (1087, .inl (.aload_n 0, 0, 0, 0)), (1088, .inl (.iload_n 3, 0, 0, 0)), (1089, .inl (.iconst 1, 0, 0, 0)), (1090, .inl (.iadd, 0, 0, 0)), (1091, .inl (.iaload, 0, 0, 0)), (1092, .inl (.aload_n 0, 0, 0, 0)), (1093, .inl (.iload_n 3, 0, 0, 0)), (1094, .inl (.iconst 2, 0, 0, 0)), (1095, .inl (.iadd, 0, 0, 0)), (1096, .inl (.iaload, 0, 0, 0)), (1097, .inl (.aload_n 0, 0, 0, 0)), (1098, .inl (.iload_n 3, 0, 0, 0)), (1099, .inl (.iconst 3, 0, 0, 0)), (1100, .inl (.iadd, 0, 0, 0)), (1101, .inl (.iaload, 0, 0, 0)), (1102, .inr (.invokevirtual 121, 4, 151, 4, [])), (1105, .inr (.nop, 1, 1105, 0, []))]
def b295_1105 : List kIt := [(1105, .inl (.aload_n 2, 0, 0, 0)), (1106, .inl (.aload_n 0, 0, 0, 0)), (1107, .inl (.iload_n 3, 0, 0, 0)), (1108, .inl (.iconst 1, 0, 0, 0)), (1109, .inl (.iadd, 0, 0, 0)), (1110, .inl (.iaload, 0, 0, 0)), (1111, .inl (.aload_n 0, 0, 0, 0)), (1112, .inl (.iload_n 3, 0, 0, 0)), (1113, .inl (.iconst 2, 0, 0, 0)), (1114, .inl (.iadd, 0, 0, 0)), (1115, .inl (.iaload, 0, 0, 0)), (1116, .inl (.aload_n 0, 0, 0, 0)), (1117, .inl (.iload_n 3, 0, 0, 0)), (1118, .inl (.iconst 3, 0, 0, 0)), (1119, .inl (.iadd, 0, 0, 0)), (1120, .inl (.iaload, 0, 0, 0)), (1121, .inr (.invokevirtual 124, 4, 251, 4, [])), (1124, .inr (.nop, 1, 1124, 0, []))]
def b295_1124 : List kIt := [(1124, .inr (.if_icmp .eq 530, 0, 1654, 0, [])), (1127, .inl (.iconst 0, 0, 0, 0)), (1128, .inr (.ireturn, 3, 1, 0, []))]
def b295_1129 : List kIt := [(1129, .inl (.aload_n 1, 0, 0, 0)), (1130, .inl (.aload_n 0, 0, 0, 0)), (1131, .inl (.iload_n 3, 0, 0, 0)), (1132, .inl (.iconst 1, 0, 0, 0)), (1133, .inl (.iadd, 0, 0, 0)), (1134, .inl (.iaload, 0, 0, 0)), (1135, .inr (.invokevirtual 125, 4, 152, 2, [])), (1138, .inr (.nop, 1, 1138, 0, []))]
def b295_1138 : List kIt := [(1138, .inl (.aload_n 2, 0, 0, 0)), (1139, .inl (.aload_n 0, 0, 0, 0)), (1140, .inl (.iload_n 3, 0, 0, 0)), (1141, .inl (.iconst 1, 0, 0, 0)), (1142, .inl (.iadd, 0, 0, 0)), (1143, .inl (.iaload, 0, 0, 0)), (1144, .inr (.invokevirtual 128, 4, 252, 2, [])), (1147, .inr (.nop, 1, 1147, 0, []))]
def b295_1147 : List kIt := [(1147, .inr (.if_icmp .eq 507, 0, 1654, 0, [])), (1150, .inl (.iconst 0, 0, 0, 0)), (1151, .inr (.ireturn, 3, 1, 0, []))]
def b295_1152 : List kIt := [(1152, .inl (.aload_n 1, 0, 0, 0)), (1153, .inl (.aload_n 0, 0, 0, 0)), (1154, .inl (.iload_n 3, 0, 0, 0)), (1155, .inl (.iconst 1, 0, 0, 0)), (1156, .inl (.iadd, 0, 0, 0)), (1157, .inl (.iaload, 0, 0, 0)), (1158, .inr (.invokevirtual 129, 4, 153, 2, [])), (1161, .inr (.nop, 1, 1161, 0, []))]
def b295_1161 : List kIt := [(1161, .inl (.aload_n 2, 0, 0, 0)), (1162, .inl (.aload_n 0, 0, 0, 0)), (1163, .inl (.iload_n 3, 0, 0, 0)), (1164, .inl (.iconst 1, 0, 0, 0)), (1165, .inl (.iadd, 0, 0, 0)), (1166, .inl (.iaload, 0, 0, 0)), (1167, .inr (.invokevirtual 132, 4, 253, 2, [])), (1170, .inr (.nop, 1, 1170, 0, []))]
def b295_1170 : List kIt := [(1170, .inr (.if_icmp .eq 484, 0, 1654, 0, [])), (1173, .inl (.iconst 0, 0, 0, 0)), (1174, .inr (.ireturn, 3, 1, 0, []))]
def b295_1175 : List kIt := [(1175, .inl (.aload_n 1, 0, 0, 0)), (1176, .inr (.invokevirtual 133, 4, 154, 1, [])), (1179, .inr (.nop, 1, 1179, 0, []))]
def b295_1179 : List kIt := [(1179, .inl (.aload_n 2, 0, 0, 0)), (1180, .inr (.invokevirtual 136, 4, 254, 1, [])), (1183, .inr (.nop, 1, 1183, 0, []))]
def b295_1183 : List kIt := [(1183, .inr (.if_icmp .eq 471, 0, 1654, 0, [])), (1186, .inl (.iconst 0, 0, 0, 0)), (1187, .inr (.ireturn, 3, 1, 0, []))]
def b295_1188 : List kIt := [(1188, .inl (.aload_n 1, 0, 0, 0)), (1189, .inl (.aload_n 0, 0, 0, 0)), (1190, .inl (.iload_n 3, 0, 0, 0)), (1191, .inl (.iconst 1, 0, 0, 0)), (1192, .inl (.iadd, 0, 0, 0)), (1193, .inl (.iaload, 0, 0, 0)), (1194, .inr (.invokevirtual 137, 4, 155, 2, [])), (1197, .inr (.nop, 1, 1197, 0, []))]
def b295_1197 : List kIt := [(1197, .inl (.aload_n 2, 0, 0, 0)), (1198, .inl (.aload_n 0, 0, 0, 0)), (1199, .inl (.iload_n 3, 0, 0, 0)), (1200, .inl (.iconst 1, 0, 0, 0)), (1201, .inl (.iadd, 0, 0, 0)), (1202, .inl (.iaload, 0, 0, 0)), (1203, .inr (.invokevirtual 140, 4, 255, 2, [])), (1206, .inr (.nop, 1, 1206, 0, []))]
def b295_1206 : List kIt := [(1206, .inr (.if_icmp .eq 448, 0, 1654, 0, [])), (1209, .inl (.iconst 0, 0, 0, 0)), (1210, .inr (.ireturn, 3, 1, 0, []))]
def b295_1211 : List kIt := [(1211, .inl (.aload_n 1, 0, 0, 0)), (1212, .inr (.invokevirtual 141, 4, 156, 1, [])), (1215, .inr (.nop, 1, 1215, 0, []))]
def b295_1215 : List kIt := [(1215, .inl (.aload_n 2, 0, 0, 0)), (1216, .inr (.invokevirtual 144, 4, 256, 1, [])), (1219, .inr (.nop, 1, 1219, 0, []))]
def b295_1219 : List kIt := [(1219, .inr (.if_icmp .eq 435, 0, 1654, 0, [])), (1222, .inl (.iconst 0, 0, 0, 0)), (1223, .inr (.ireturn, 3, 1, 0, []))]
def b295_1224 : List kIt := [(1224, .inl (.aload_n 1, 0, 0, 0)), (1225, .inr (.invokevirtual 145, 4, 157, 1, [])), (1228, .inr (.nop, 1, 1228, 0, []))]
def b295_1228 : List kIt := [(1228, .inl (.aload_n 2, 0, 0, 0)), (1229, .inr (.invokevirtual 148, 4, 257, 1, [])), (1232, .inr (.nop, 1, 1232, 0, []))]
def b295_1232 : List kIt := [(1232, .inr (.if_icmp .eq 422, 0, 1654, 0, [])), (1235, .inl (.iconst 0, 0, 0, 0)), (1236, .inr (.ireturn, 3, 1, 0, []))]
def b295_1237 : List kIt := [(1237, .inl (.aload_n 1, 0, 0, 0)), (1238, .inr (.invokevirtual 149, 4, 158, 1, [])), (1241, .inr (.nop, 1, 1241, 0, []))]
def b295_1241 : List kIt := [(1241, .inl (.aload_n 2, 0, 0, 0)), (1242, .inr (.invokevirtual 152, 4, 180, 1, [])), (1245, .inr (.nop, 1, 1245, 0, []))]
def b295_1245 : List kIt := [(1245, .inr (.if_icmp .eq 409, 0, 1654, 0, [])), (1248, .inl (.iconst 0, 0, 0, 0)), (1249, .inr (.ireturn, 3, 1, 0, []))]
def b295_1250 : List kIt := [(1250, .inl (.aload_n 1, 0, 0, 0)), (1251, .inr (.invokevirtual 153, 4, 159, 1, [])), (1254, .inr (.nop, 1, 1254, 0, []))]
def b295_1254 : List kIt := [(1254, .inl (.aload_n 2, 0, 0, 0)), (1255, .inr (.invokevirtual 156, 4, 181, 1, [])), (1258, .inr (.nop, 1, 1258, 0, []))]
def b295_1258 : List kIt := [(1258, .inr (.if_icmp .eq 396, 0, 1654, 0, [])), (1261, .inl (.iconst 0, 0, 0, 0)), (1262, .inr (.ireturn, 3, 1, 0, []))]
def b295_1263 : List kIt := [(1263, .inl (.aload_n 1, 0, 0, 0)), (1264, .inl (.aload_n 0, 0, 0, 0)), (1265, .inl (.iload_n 3, 0, 0, 0)), (1266, .inl (.iconst 1, 0, 0, 0)), (1267, .inl (.iadd, 0, 0, 0)), (1268, .inl (.iaload, 0, 0, 0)), (1269, .inr (.invokevirtual 157, 4, 160, 2, [])), (1272, .inr (.nop, 1, 1272, 0, []))]
def b295_1272 : List kIt := [(1272, .inl (.aload_n 2, 0, 0, 0)), (1273, .inl (.aload_n 0, 0, 0, 0)), (1274, .inl (.iload_n 3, 0, 0, 0)), (1275, .inl (.iconst 1, 0, 0, 0)), (1276, .inl (.iadd, 0, 0, 0)), (1277, .inl (.iaload, 0, 0, 0)), (1278, .inr (.invokevirtual 160, 4, 261, 2, [])), (1281, .inr (.nop, 1, 1281, 0, []))]
def b295_1281 : List kIt := [(1281, .inr (.if_icmp .eq 373, 0, 1654, 0, [])), (1284, .inl (.iconst 0, 0, 0, 0)), (1285, .inr (.ireturn, 3, 1, 0, []))]
def b295_1286 : List kIt := [(1286, .inl (.aload_n 1, 0, 0, 0)), (1287, .inl (.aload_n 0, 0, 0, 0)), (1288, .inl (.iload_n 3, 0, 0, 0)), (1289, .inl (.iconst 1, 0, 0, 0)), (1290, .inl (.iadd, 0, 0, 0)), (1291, .inl (.iaload, 0, 0, 0)), (1292, .inl (.aload_n 0, 0, 0, 0)), (1293, .inl (.iload_n 3, 0, 0, 0)), (1294, .inl (.iconst 2, 0, 0, 0)), (1295, .inl (.iadd, 0, 0, 0)), (1296, .inl (.iaload, 0, 0, 0)), (1297, .inl (.aload_n 0, 0, 0, 0)), (1298, .inl (.iload_n 3, 0, 0, 0)), (1299, .inl (.iconst 3, 0, 0, 0)), (1300, .inl (.iadd, 0, 0, 0)), (1301, .inl (.iaload, 0, 0, 0)), (1302, .inr (.invokevirtual 161, 4, 161, 4, [])), (1305, .inr (.nop, 1, 1305, 0, []))]
def b295_1305 : List kIt := [(1305, .inl (.aload_n 2, 0, 0, 0)), (1306, .inl (.aload_n 0, 0, 0, 0)), (1307, .inl (.iload_n 3, 0, 0, 0)), (1308, .inl (.iconst 1, 0, 0, 0)), (1309, .inl (.iadd, 0, 0, 0)), (1310, .inl (.iaload, 0, 0, 0)), (1311, .inl (.aload_n 0, 0, 0, 0)), (1312, .inl (.iload_n 3, 0, 0, 0)), (1313, .inl (.iconst 2, 0, 0, 0)), (1314, .inl (.iadd, 0, 0, 0)), (1315, .inl (.iaload, 0, 0, 0)), (1316, .inl (.aload_n 0, 0, 0, 0)), (1317, .inl (.iload_n 3, 0, 0, 0)), (1318, .inl (.iconst 3, 0, 0, 0)), (1319, .inl (.iadd, 0, 0, 0)), (1320, .inl (.iaload, 0, 0, 0)), (1321, .inr (.invokevirtual 164, 4, 274, 4, [])), (1324, .inr (.nop, 1, 1324, 0, []))]
def b295_1324 : List kIt := [(1324, .inr (.if_icmp .eq 330, 0, 1654, 0, [])), (1327, .inl (.iconst 0, 0, 0, 0)), (1328, .inr (.ireturn, 3, 1, 0, []))]
def b295_1329 : List kIt := [(1329, .inl (.aload_n 1, 0, 0, 0)), (1330, .inl (.aload_n 0, 0, 0, 0)), (1331, .inl (.iload_n 3, 0, 0, 0)), (1332, .inl (.iconst 1, 0, 0, 0)), (1333, .inl (.iadd, 0, 0, 0)), (1334, .inl (.iaload, 0, 0, 0)), (1335, .inr (.invokevirtual 165, 4, 162, 2, [])), (1338, .inr (.nop, 1, 1338, 0, []))]
def b295_1338 : List kIt := [(1338, .inl (.aload_n 2, 0, 0, 0)), (1339, .inl (.aload_n 0, 0, 0, 0)), (1340, .inl (.iload_n 3, 0, 0, 0)), (1341, .inl (.iconst 1, 0, 0, 0)), (1342, .inl (.iadd, 0, 0, 0)), (1343, .inl (.iaload, 0, 0, 0)), (1344, .inr (.invokevirtual 168, 4, 260, 2, [])), (1347, .inr (.nop, 1, 1347, 0, []))]
def b295_1347 : List kIt := [(1347, .inr (.if_icmp .eq 307, 0, 1654, 0, [])), (1350, .inl (.iconst 0, 0, 0, 0)), (1351, .inr (.ireturn, 3, 1, 0, []))]
def b295_1352 : List kIt := [(1352, .inl (.aload_n 1, 0, 0, 0)), (1353, .inl (.aload_n 0, 0, 0, 0)), (1354, .inl (.iload_n 3, 0, 0, 0)), (1355, .inl (.iconst 1, 0, 0, 0)), (1356, .inl (.iadd, 0, 0, 0)), (1357, .inl (.iaload, 0, 0, 0)), (1358, .inl (.aload_n 0, 0, 0, 0)), (1359, .inl (.iload_n 3, 0, 0, 0)), (1360, .inl (.iconst 2, 0, 0, 0)), (1361, .inl (.iadd, 0, 0, 0)), (1362, .inl (.iaload, 0, 0, 0)), (1363, .inr (.invokevirtual 169, 4, 163, 3, [])), (1366, .inr (.nop, 1, 1366, 0, []))]
def b295_1366 : List kIt := [(1366, .inl (.aload_n 2, 0, 0, 0)), (1367, .inl (.aload_n 0, 0, 0, 0)), (1368, .inl (.iload_n 3, 0, 0, 0)), (1369, .inl (.iconst 1, 0, 0, 0)), (1370, .inl (.iadd, 0, 0, 0)), (1371, .inl (.iaload, 0, 0, 0)), (1372, .inl (.aload_n 0, 0, 0, 0)), (1373, .inl (.iload_n 3, 0, 0, 0)), (1374, .inl (.iconst 2, 0, 0, 0)), (1375, .inl (.iadd, 0, 0, 0)), (1376, .inl (.iaload, 0, 0, 0)), (1377, .inr (.invokevirtual 172, 4, 277, 3, [])), (1380, .inr (.nop, 1, 1380, 0, []))]
def b295_1380 : List kIt := [(1380, .inr (.if_icmp .eq 274, 0, 1654, 0, [])), (1383, .inl (.iconst 0, 0, 0, 0)), (1384, .inr (.ireturn, 3, 1, 0, []))]
def b295_1385 : List kIt := [(1385, .inl (.aload_n 1, 0, 0, 0)), (1386, .inl (.aload_n 0, 0, 0, 0)), (1387, .inl (.iload_n 3, 0, 0, 0)), (1388, .inl (.iconst 1, 0, 0, 0)), (1389, .inl (.iadd, 0, 0, 0)), (1390, .inl (.iaload, 0, 0, 0)), (1391, .inl (.aload_n 0, 0, 0, 0)), (1392, .inl (.iload_n 3, 0, 0, 0)), (1393, .inl (.iconst 2, 0, 0, 0)), (1394, .inl (.iadd, 0, 0, 0)), (1395, .inl (.iaload, 0, 0, 0)), (1396, .inl (.aload_n 0, 0, 0, 0)), (1397, .inl (.iload_n 3, 0, 0, 0)), (1398, .inl (.iconst 3, 0, 0, 0)), (1399, .inl (.iadd, 0, 0, 0)), (1400, .inl (.iaload, 0, 0, 0)), (1401, .inr (.invokevirtual 173, 4, 164, 4, [])), (1404, .inr (.nop, 1, 1404, 0, []))]
def b295_1404 : List kIt := [(1404, .inl (.aload_n 2, 0, 0, 0)), (1405, .inl (.aload_n 0, 0, 0, 0)), (1406, .inl (.iload_n 3, 0, 0, 0)), (1407, .inl (.iconst 1, 0, 0, 0)), (1408, .inl (.iadd, 0, 0, 0)), (1409, .inl (.iaload, 0, 0, 0)), (1410, .inl (.aload_n 0, 0, 0, 0)), (1411, .inl (.iload_n 3, 0, 0, 0)), (1412, .inl (.iconst 2, 0, 0, 0)), (1413, .inl (.iadd, 0, 0, 0)), (1414, .inl (.iaload, 0, 0, 0)), (1415, .inl (.aload_n 0, 0, 0, 0)), (1416, .inl (.iload_n 3, 0, 0, 0)), (1417, .inl (.iconst 3, 0, 0, 0)), (1418, .inl (.iadd, 0, 0, 0)), (1419, .inl (.iaload, 0, 0, 0)), (1420, .inr (.invokevirtual 176, 4, 278, 4, [])), (1423, .inr (.nop, 1, 1423, 0, []))]
def b295_1423 : List kIt := [(1423, .inr (.if_icmp .eq 231, 0, 1654, 0, [])), (1426, .inl (.iconst 0, 0, 0, 0)), (1427, .inr (.ireturn, 3, 1, 0, []))]
def b295_1428 : List kIt := [(1428, .inl (.aload_n 1, 0, 0, 0)), (1429, .inl (.aload_n 0, 0, 0, 0)), (1430, .inl (.iload_n 3, 0, 0, 0)), (1431, .inl (.iconst 1, 0, 0, 0)), (1432, .inl (.iadd, 0, 0, 0)), (1433, .inl (.iaload, 0, 0, 0)), (1434, .inl (.aload_n 0, 0, 0, 0)), (1435, .inl (.iload_n 3, 0, 0, 0)), (1436, .inl (.iconst 2, 0, 0, 0)), (1437, .inl (.iadd, 0, 0, 0)), (1438, .inl (.iaload, 0, 0, 0)), (1439, .inl (.aload_n 0, 0, 0, 0)), (1440, .inl (.iload_n 3, 0, 0, 0)), (1441, .inl (.iconst 3, 0, 0, 0)), (1442, .inl (.iadd, 0, 0, 0)), (1443, .inl (.iaload, 0, 0, 0)), (1444, .inl (.i2l, 0, 0, 0)), (1445, .inl (.bipush 32, 0, 0, 0)), (1447, .inl (.lshl, 0, 0, 0)), (1448, .inl (.aload_n 0, 0, 0, 0)), (1449, .inl (.iload_n 3, 0, 0, 0)), (1450, .inl (.iconst 4, 0, 0, 0)), (1451, .inl (.iadd, 0, 0, 0)), (1452, .inl (.iaload, 0, 0, 0)), (1453, .inl (.i2l, 0, 0, 0)), (1454, .inl (.ldc2_w 177, 0, 0, 4294967295)), (1457, .inl (.land, 0, 0, 0)), (1458, .inl (.lor, 0, 0, 0)), (1459, .inr (.invokevirtual 179, 4, 165, 4, [])), (1462, .inr (.nop, 1, 1462, 0, []))]
def b295_1462 : List kIt := [(1462, .inl (.aload_n 2, 0, 0, 0)), (1463, .inl (.aload_n 0, 0, 0, 0)), (1464, .inl (.iload_n 3, 0, 0, 0)), (1465, .inl (.iconst 1, 0, 0, 0)), (1466, .inl (.iadd, 0, 0, 0)), (1467, .inl (.iaload, 0, 0, 0)), (1468, .inl (.aload_n 0, 0, 0, 0)), (1469, .inl (.iload_n 3, 0, 0, 0)), (1470, .inl (.iconst 2, 0, 0, 0)), (1471, .inl (.iadd, 0, 0, 0)), (1472, .inl (.iaload, 0, 0, 0)), (1473, .inl (.aload_n 0, 0, 0, 0)), (1474, .inl (.iload_n 3, 0, 0, 0)), (1475, .inl (.iconst 3, 0, 0, 0)), (1476, .inl (.iadd, 0, 0, 0)), (1477, .inl (.iaload, 0, 0, 0)), (1478, .inl (.i2l, 0, 0, 0)), (1479, .inl (.bipush 32, 0, 0, 0)), (1481, .inl (.lshl, 0, 0, 0)), (1482, .inl (.aload_n 0, 0, 0, 0)), (1483, .inl (.iload_n 3, 0, 0, 0)), (1484, .inl (.iconst 4, 0, 0, 0)), (1485, .inl (.iadd, 0, 0, 0)), (1486, .inl (.iaload, 0, 0, 0)), (1487, .inl (.i2l, 0, 0, 0)), (1488, .inl (.ldc2_w 177, 0, 0, 4294967295)), (1491, .inl (.land, 0, 0, 0)), (1492, .inl (.lor, 0, 0, 0)), (1493, .inr (.invokevirtual 183, 4, 280, 4, [])), (1496, .inr (.nop, 1, 1496, 0, []))]
def b295_1496 : List kIt := [(1496, .inr (.if_icmp .eq 158, 0, 1654, 0, [])), (1499, .inl (.iconst 0, 0, 0, 0)), (1500, .inr (.ireturn, 3, 1, 0, []))]
def b295_1501 : List kIt := [(1501, .inl (.aload_n 1, 0, 0, 0)), (1502, .inl (.aload_n 0, 0, 0, 0)), (1503, .inl (.iload_n 3, 0, 0, 0)), (1504, .inl (.iconst 1, 0, 0, 0)), (1505, .inl (.iadd, 0, 0, 0)), (1506, .inl (.iaload, 0, 0, 0)), (1507, .inl (.aload_n 0, 0, 0, 0)), (1508, .inl (.iload_n 3, 0, 0, 0)), (1509, .inl (.iconst 2, 0, 0, 0)), (1510, .inl (.iadd, 0, 0, 0)), (1511, .inl (.iaload, 0, 0, 0)), (1512, .inr (.invokevirtual 184, 4, 166, 3, [])), (1515, .inr (.nop, 1, 1515, 0, []))]
def b295_1515 : List kIt := [(1515, .inl (.aload_n 2, 0, 0, 0)), (1516, .inl (.aload_n 0, 0, 0, 0)), (1517, .inl (.iload_n 3, 0, 0, 0)), (1518, .inl (.iconst 1, 0, 0, 0)), (1519, .inl (.iadd, 0, 0, 0)), (1520, .inl (.iaload, 0, 0, 0)), (1521, .inl (.aload_n 0, 0, 0, 0)), (1522, .inl (.iload_n 3, 0, 0, 0)), (1523, .inl (.iconst 2, 0, 0, 0)), (1524, .inl (.iadd, 0, 0, 0)), (1525, .inl (.iaload, 0, 0, 0)), (1526, .inr (.invokevirtual 188, 4, 281, 3, [])), (1529, .inr (.nop, 1, 1529, 0, []))]
def b295_1529 : List kIt := [(1529, .inl (.lcmp, 0, 0, 0)), (1530, .inr (.ifCond .eq 124, 0, 1654, 0, [])), (1533, .inl (.iconst 0, 0, 0, 0)), (1534, .inr (.ireturn, 3, 1, 0, []))]
def b295_1535 : List kIt := [(1535, .inl (.aload_n 1, 0, 0, 0)), (1536, .inl (.aload_n 0, 0, 0, 0)), (1537, .inl (.iload_n 3, 0, 0, 0)), (1538, .inl (.iconst 1, 0, 0, 0)), (1539, .inl (.iadd, 0, 0, 0)), (1540, .inl (.iaload, 0, 0, 0)), (1541, .inl (.aload_n 0, 0, 0, 0)), (1542, .inl (.iload_n 3, 0, 0, 0)), (1543, .inl (.iconst 2, 0, 0, 0)), (1544, .inl (.iadd, 0, 0, 0)), (1545, .inl (.iaload, 0, 0, 0)), (1546, .inl (.aload_n 0, 0, 0, 0)), (1547, .inl (.iload_n 3, 0, 0, 0)), (1548, .inl (.iconst 3, 0, 0, 0)), (1549, .inl (.iadd, 0, 0, 0)), (1550, .inl (.iaload, 0, 0, 0)), (1551, .inl (.aload_n 0, 0, 0, 0)), (1552, .inl (.iload_n 3, 0, 0, 0)), (1553, .inl (.iconst 4, 0, 0, 0)), (1554, .inl (.iadd, 0, 0, 0)), (1555, .inl (.iaload, 0, 0, 0)), (1556, .inl (.aload_n 0, 0, 0, 0)), (1557, .inl (.iload_n 3, 0, 0, 0)), (1558, .inl (.iconst 5, 0, 0, 0)), (1559, .inl (.iadd, 0, 0, 0)), (1560, .inl (.iaload, 0, 0, 0)), (1561, .inr (.invokevirtual 189, 4, 167, 6, [])), (1564, .inr (.nop, 1, 1564, 0, []))]
def b295_1564 : List kIt := [(1564, .inl (.aload_n 2, 0, 0, 0)), (1565, .inl (.aload_n 0, 0, 0, 0)), (1566, .inl (.iload_n 3, 0, 0, 0)), (1567, .inl (.iconst 1, 0, 0, 0)), (1568, .inl (.iadd, 0, 0, 0)), (1569, .inl (.iaload, 0, 0, 0)), (1570, .inl (.aload_n 0, 0, 0, 0)), (1571, .inl (.iload_n 3, 0, 0, 0)), (1572, .inl (.iconst 2, 0, 0, 0)), (1573, .inl (.iadd, 0, 0, 0)), (1574, .inl (.iaload, 0, 0, 0)), (1575, .inl (.aload_n 0, 0, 0, 0)), (1576, .inl (.iload_n 3, 0, 0, 0)), (1577, .inl (.iconst 3, 0, 0, 0)), (1578, .inl (.iadd, 0, 0, 0)), (1579, .inl (.iaload, 0, 0, 0)), (1580, .inl (.aload_n 0, 0, 0, 0)), (1581, .inl (.iload_n 3, 0, 0, 0)), (1582, .inl (.iconst 4, 0, 0, 0)), (1583, .inl (.iadd, 0, 0, 0)), (1584, .inl (.iaload, 0, 0, 0)), (1585, .inl (.aload_n 0, 0, 0, 0)), (1586, .inl (.iload_n 3, 0, 0, 0)), (1587, .inl (.iconst 5, 0, 0, 0)), (1588, .inl (.iadd, 0, 0, 0)), (1589, .inl (.iaload, 0, 0, 0)), (1590, .inr (.invokevirtual 193, 4, 282, 6, [])), (1593, .inr (.nop, 1, 1593, 0, []))]
def b295_1593 : List kIt := [(1593, .inr (.if_icmp .eq 61, 0, 1654, 0, [])), (1596, .inl (.iconst 0, 0, 0, 0)), (1597, .inr (.ireturn, 3, 1, 0, []))]
def b295_1598 : List kIt := [(1598, .inl (.aload_n 1, 0, 0, 0)), (1599, .inl (.aload_n 0, 0, 0, 0)), (1600, .inl (.iload_n 3, 0, 0, 0)), (1601, .inl (.iconst 1, 0, 0, 0)), (1602, .inl (.iadd, 0, 0, 0)), (1603, .inl (.iaload, 0, 0, 0)), (1604, .inl (.aload_n 0, 0, 0, 0)), (1605, .inl (.iload_n 3, 0, 0, 0)), (1606, .inl (.iconst 2, 0, 0, 0)), (1607, .inl (.iadd, 0, 0, 0)), (1608, .inl (.iaload, 0, 0, 0)), (1609, .inr (.invokevirtual 194, 4, 168, 3, [])), (1612, .inr (.nop, 1, 1612, 0, []))]
def b295_1612 : List kIt := [(1612, .inl (.aload_n 2, 0, 0, 0)), (1613, .inl (.aload_n 0, 0, 0, 0)), (1614, .inl (.iload_n 3, 0, 0, 0)), (1615, .inl (.iconst 1, 0, 0, 0)), (1616, .inl (.iadd, 0, 0, 0)), (1617, .inl (.iaload, 0, 0, 0)), (1618, .inl (.aload_n 0, 0, 0, 0)), (1619, .inl (.iload_n 3, 0, 0, 0)), (1620, .inl (.iconst 2, 0, 0, 0)), (1621, .inl (.iadd, 0, 0, 0)), (1622, .inl (.iaload, 0, 0, 0)), (1623, .inr (.invokevirtual 197, 4, 283, 3, [])), (1626, .inr (.nop, 1, 1626, 0, []))]
def b295_1626 : List kIt := [(1626, .inr (.if_icmp .eq 28, 0, 1654, 0, [])), (1629, .inl (.iconst 0, 0, 0, 0)), (1630, .inr (.ireturn, 3, 1, 0, []))]
def b295_1631 : List kIt := [(1631, .inl (.aload_n 1, 0, 0, 0)), (1632, .inl (.aload_n 0, 0, 0, 0)), (1633, .inl (.iload_n 3, 0, 0, 0)), (1634, .inl (.iconst 1, 0, 0, 0)), (1635, .inl (.iadd, 0, 0, 0)), (1636, .inl (.iaload, 0, 0, 0)), (1637, .inr (.invokevirtual 198, 4, 169, 2, [])), (1640, .inr (.nop, 1, 1640, 0, []))]
def b295_1640 : List kIt := [(1640, .inl (.aload_n 2, 0, 0, 0)), (1641, .inl (.aload_n 0, 0, 0, 0)), (1642, .inl (.iload_n 3, 0, 0, 0)), (1643, .inl (.iconst 1, 0, 0, 0)), (1644, .inl (.iadd, 0, 0, 0)), (1645, .inl (.iaload, 0, 0, 0)), (1646, .inr (.invokevirtual 201, 4, 275, 2, [])), (1649, .inr (.nop, 1, 1649, 0, []))]
def b295_1649 : List kIt := [(1649, .inr (.if_icmp .eq 5, 0, 1654, 0, [])), (1652, .inl (.iconst 0, 0, 0, 0)), (1653, .inr (.ireturn, 3, 1, 0, []))]
def b295_1654 : List kIt := [(1654, .inl (.iinc 3 6, 0, 0, 0)), (1657, .inr (.goto (-1639), 1, 18, 0, []))]
def b295_1660 : List kIt := [(1660, .inl (.iconst 1, 0, 0, 0)), (1661, .inr (.ireturn, 3, 1, 0, []))]
def c295 : List (Nat × List kIt) := [(0, b295_0), (18, b295_18), (228, b295_228), (237, b295_237), (246, b295_246), (251, b295_251), (265, b295_265), (279, b295_279), (284, b295_284), (303, b295_303), (322, b295_322), (327, b295_327), (346, b295_346), (365, b295_365), (370, b295_370), (384, b295_384), (398, b295_398), (403, b295_403), (412, b295_412), (421, b295_421), (426, b295_426), (430, b295_430), (434, b295_434), (439, b295_439), (453, b295_453), (467, b295_467), (472, b295_472), (491, b295_491), (510, b295_510), (515, b295_515), (529, b295_529), (543, b295_543), (548, b295_548), (562, b295_562), (576, b295_576), (581, b295_581), (600, b295_600), (619, b295_619), (624, b295_624), (638, b295_638), (652, b295_652), (657, b295_657), (666, b295_666), (675, b295_675), (680, b295_680), (694, b295_694), (708, b295_708), (713, b295_713), (722, b295_722), (731, b295_731), (736, b295_736), (745, b295_745), (754, b295_754), (759, b295_759), (773, b295_773), (787, b295_787), (792, b295_792), (806, b295_806), (820, b295_820), (825, b295_825), (839, b295_839), (853, b295_853), (858, b295_858), (877, b295_877), (896, b295_896), (901, b295_901), (915, b295_915), (929, b295_929), (934, b295_934), (953, b295_953), (972, b295_972), (977, b295_977), (986, b295_986), (995, b295_995), (1000, b295_1000), (1019, b295_1019), (1038, b295_1038), (1043, b295_1043), (1062, b295_1062), (1081, b295_1081), (1086, b295_1086), (1105, b295_1105), (1124, b295_1124), (1129, b295_1129), (1138, b295_1138), (1147, b295_1147), (1152, b295_1152), (1161, b295_1161), (1170, b295_1170), (1175, b295_1175), (1179, b295_1179), (1183, b295_1183), (1188, b295_1188), (1197, b295_1197), (1206, b295_1206), (1211, b295_1211), (1215, b295_1215), (1219, b295_1219), (1224, b295_1224), (1228, b295_1228), (1232, b295_1232), (1237, b295_1237), (1241, b295_1241), (1245, b295_1245), (1250, b295_1250), (1254, b295_1254), (1258, b295_1258), (1263, b295_1263), (1272, b295_1272), (1281, b295_1281), (1286, b295_1286), (1305, b295_1305), (1324, b295_1324), (1329, b295_1329), (1338, b295_1338), (1347, b295_1347), (1352, b295_1352), (1366, b295_1366), (1380, b295_1380), (1385, b295_1385), (1404, b295_1404), (1423, b295_1423), (1428, b295_1428), (1462, b295_1462), (1496, b295_1496), (1501, b295_1501), (1515, b295_1515), (1529, b295_1529), (1535, b295_1535), (1564, b295_1564), (1593, b295_1593), (1598, b295_1598), (1612, b295_1612), (1626, b295_1626), (1631, b295_1631), (1640, b295_1640), (1649, b295_1649), (1654, b295_1654), (1660, b295_1660)]
def kBl0 : List (List (Nat × List kIt)) := [c0, c1, c2, c3, c4, c5, c6, c7, c8, c9, c10, c11, c12, c13, c14, c15, c16, c17, c18, c19]
def kBl1 : List (List (Nat × List kIt)) := [c20, c21, c22, c23, c24, c25, c26, c27, c28, c29, c30, c31, c32, c33, c34, c35, c36, c37, c38, c39]
def kBl2 : List (List (Nat × List kIt)) := [c40, c41, c42, c43, c44, c45, c46, c47, c48, c49, c50, c51, c52, c53, c54, c55, c56, c57, c58, c59]
def kBl3 : List (List (Nat × List kIt)) := [c60, c61, c62, c63, c64, c65, c66, c67, c68, c69, c70, c71, c72, c73, c74, c75, c76, c77, c78, c79]
def kBl4 : List (List (Nat × List kIt)) := [c80, c81, c82, c83, c84, c85, c86, c87, c88, c89, c90, c91, c92, c93, c94, c95, c96, c97, c98, c99]
def kBl5 : List (List (Nat × List kIt)) := [c100, c101, c102, c103, c104, c105, c106, c107, c108, c109, c110, c111, c112, c113, c114, c115, c116, c117, c118, c119]
def kBl6 : List (List (Nat × List kIt)) := [c120, c121, c122, c123, c124, c125, c126, c127, c128, c129, c130, c131, c132, c133, c134, c135, c136, c137, c138, c139]
def kBl7 : List (List (Nat × List kIt)) := [c140, c141, c142, c143, c144, c145, c146, c147, c148, c149, c150, c151, c152, c153, c154, c155, c156, c157, c158, c159]
def kBl8 : List (List (Nat × List kIt)) := [c160, c161, c162, c163, c164, c165, c166, c167, c168, c169, c170, c171, c172, c173, c174, c175, c176, c177, c178, c179]
def kBl9 : List (List (Nat × List kIt)) := [c180, c181, c182, c183, c184, c185, c186, c187, c188, c189, c190, c191, c192, c193, c194, c195, c196, c197, c198, c199]
def kBl10 : List (List (Nat × List kIt)) := [c200, c201, c202, c203, c204, c205, c206, c207, c208, c209, c210, c211, c212, c213, c214, c215, c216, c217, c218, c219]
def kBl11 : List (List (Nat × List kIt)) := [c220, c221, c222, c223, c224, c225, c226, c227, c228, c229, c230, c231, c232, c233, c234, c235, c236, c237, c238, c239]
def kBl12 : List (List (Nat × List kIt)) := [c240, c241, c242, c243, c244, c245, c246, c247, c248, c249, c250, c251, c252, c253, c254, c255, c256, c257, c258, c259]
def kBl13 : List (List (Nat × List kIt)) := [c260, c261, c262, c263, c264, c265, c266, c267, c268, c269, c270, c271, c272, c273, c274, c275, c276, c277, c278, c279]
def kBl14 : List (List (Nat × List kIt)) := [c280, c281, c282, c283]
def kBlX : List (List (Nat × List kIt)) := [c284, c285, c286, c287, c288, c289, c290, c291, c292, c293, c294, c295]
def kBls : List (List (Nat × List kIt)) := kBl0 ++ (kBl1 ++ (kBl2 ++ (kBl3 ++ (kBl4 ++ (kBl5 ++ (kBl6 ++ (kBl7 ++ (kBl8 ++ (kBl9 ++ (kBl10 ++ (kBl11 ++ (kBl12 ++ (kBl13 ++ (kBl14 ++ (kBlX)))))))))))))))
def kBlk (m t : Nat) : List kIt := kLook t (kBls.getD m [])
end
section
-- laid by wip/whole/gen.py
set_option maxRecDepth 100000 in
theorem kc0 : c0.all (fun q => kOkB kTb0 kPlt cX0_bodies (some .int) q.1 q.2) = true := by decide +kernel
set_option maxRecDepth 100000 in
theorem kc1 : c1.all (fun q => kOkB kTb0 kPlt cX0_ran (some .int) q.1 q.2) = true := by decide +kernel
set_option maxRecDepth 100000 in
theorem kc2 : c2.all (fun q => kOkB kTb0 kPlt cX0_isKind (some .boolean) q.1 q.2) = true := by decide +kernel
set_option maxRecDepth 100000 in
theorem kc3 : c3.all (fun q => kOkB kTb0 kPlt cX0_isBody (some .boolean) q.1 q.2) = true := by decide +kernel
set_option maxRecDepth 100000 in
theorem kc4 : c4.all (fun q => kOkB kTb0 kPlt cX0_kindOf (some .int) q.1 q.2) = true := by decide +kernel
set_option maxRecDepth 100000 in
theorem kc5 : c5.all (fun q => kOkB kTb0 kPlt cX0_bodyComes (some .int) q.1 q.2) = true := by decide +kernel
set_option maxRecDepth 100000 in
theorem kc6 : c6.all (fun q => kOkB kTb0 kPlt cX0_isUnder (some .boolean) q.1 q.2) = true := by decide +kernel
set_option maxRecDepth 100000 in
theorem kc7 : c7.all (fun q => kOkB kTb0 kPlt cX0_traced (some .int) q.1 q.2) = true := by decide +kernel
set_option maxRecDepth 100000 in
theorem kc8 : c8.all (fun q => kOkB kTb0 kPlt cX0_begin (some .int) q.1 q.2) = true := by decide +kernel
set_option maxRecDepth 100000 in
theorem kc9 : c9.all (fun q => kOkB kTb0 kPlt cX0_own (some .int) q.1 q.2) = true := by decide +kernel
set_option maxRecDepth 100000 in
theorem kc10 : c10.all (fun q => kOkB kTb0 kPlt cX0_higher (some .int) q.1 q.2) = true := by decide +kernel
set_option maxRecDepth 100000 in
theorem kc11 : c11.all (fun q => kOkB kTb0 kPlt cX0_from (some .int) q.1 q.2) = true := by decide +kernel
set_option maxRecDepth 100000 in
theorem kc12 : c12.all (fun q => kOkB kTb0 kPlt cX0_perform (some .int) q.1 q.2) = true := by decide +kernel
set_option maxRecDepth 100000 in
theorem kc13 : c13.all (fun q => kOkB kTb1 kPlt cX1_undoable (some .int) q.1 q.2) = true := by decide +kernel
set_option maxRecDepth 100000 in
theorem kc14 : c14.all (fun q => kOkB kTb1 kPlt cX1_add none q.1 q.2) = true := by decide +kernel
set_option maxRecDepth 100000 in
theorem kc15 : c15.all (fun q => kOkB kTb1 kPlt cX1_forgetOldest none q.1 q.2) = true := by decide +kernel
set_option maxRecDepth 100000 in
theorem kc16 : c16.all (fun q => kOkB kTb1 kPlt cX1_undoOne (some .int) q.1 q.2) = true := by decide +kernel
set_option maxRecDepth 100000 in
theorem kc17 : c17.all (fun q => kOkB kTb1 kPlt cX1_redoOne (some .int) q.1 q.2) = true := by decide +kernel
set_option maxRecDepth 100000 in
theorem kc18 : c18.all (fun q => kOkB kTb2 kPlt cX2_begin none q.1 q.2) = true := by decide +kernel
set_option maxRecDepth 100000 in
theorem kc19 : c19.all (fun q => kOkB kTb2 kPlt cX2_remindIn none q.1 q.2) = true := by decide +kernel
set_option maxRecDepth 100000 in
theorem kc20 : c20.all (fun q => kOkB kTb2 kPlt cX2_cameBy (some .int) q.1 q.2) = true := by decide +kernel
set_option maxRecDepth 100000 in
theorem kc21 : c21.all (fun q => kOkB kTb2 kPlt cX2_startWeeks none q.1 q.2) = true := by decide +kernel
set_option maxRecDepth 100000 in
theorem kc22 : c22.all (fun q => kOkB kTb2 kPlt cX2_comesIn (some .int) q.1 q.2) = true := by decide +kernel
set_option maxRecDepth 100000 in
theorem kc23 : c23.all (fun q => kOkB kTb2 kPlt cX2_weeksTill (some .int) q.1 q.2) = true := by decide +kernel
set_option maxRecDepth 100000 in
theorem kc24 : c24.all (fun q => kOkB kTb2 kPlt cX2_bestWeek (some .int) q.1 q.2) = true := by decide +kernel
set_option maxRecDepth 100000 in
theorem kc25 : c25.all (fun q => kOkB kTb3 kPlt cX3_lapsOf (some .int) q.1 q.2) = true := by decide +kernel
set_option maxRecDepth 100000 in
theorem kc26 : c26.all (fun q => kOkB kTb3 kPlt cX3_minutesOf (some .int) q.1 q.2) = true := by decide +kernel
set_option maxRecDepth 100000 in
theorem kc27 : c27.all (fun q => kOkB kTb3 kPlt cX3_paidBy (some .int) q.1 q.2) = true := by decide +kernel
set_option maxRecDepth 100000 in
theorem kc28 : c28.all (fun q => kOkB kTb3 kPlt cX3_ledLaps (some .int) q.1 q.2) = true := by decide +kernel
set_option maxRecDepth 100000 in
theorem kc29 : c29.all (fun q => kOkB kTb3 kPlt cX3_ledPence (some .int) q.1 q.2) = true := by decide +kernel
set_option maxRecDepth 100000 in
theorem kc30 : c30.all (fun q => kOkB kTb3 kPlt cX3_ledMinutes (some .int) q.1 q.2) = true := by decide +kernel
set_option maxRecDepth 100000 in
theorem kc31 : c31.all (fun q => kOkB kTb3 kPlt cX3_fields (some .int) q.1 q.2) = true := by decide +kernel
set_option maxRecDepth 100000 in
theorem kc32 : c32.all (fun q => kOkB kTb3 kPlt cX3_surprises (some .int) q.1 q.2) = true := by decide +kernel
set_option maxRecDepth 100000 in
theorem kc33 : c33.all (fun q => kOkB kTb3 kPlt cX3_lapsOfField (some .int) q.1 q.2) = true := by decide +kernel
set_option maxRecDepth 100000 in
theorem kc34 : c34.all (fun q => kOkB kTb3 kPlt cX3_lapRun none q.1 q.2) = true := by decide +kernel
set_option maxRecDepth 100000 in
theorem kc35 : c35.all (fun q => kOkB kTb3 kPlt cX3_asked none q.1 q.2) = true := by decide +kernel
set_option maxRecDepth 100000 in
theorem kc36 : c36.all (fun q => kOkB kTb3 kPlt cX3_newField none q.1 q.2) = true := by decide +kernel
set_option maxRecDepth 100000 in
theorem kc37 : c37.all (fun q => kOkB kTb3 kPlt cX3_becomeLike none q.1 q.2) = true := by decide +kernel
set_option maxRecDepth 100000 in
theorem kc38 : c38.all (fun q => kOkB kTb4 kPlt cX4_childCount (some .int) q.1 q.2) = true := by decide +kernel
set_option maxRecDepth 100000 in
theorem kc39 : c39.all (fun q => kOkB kTb4 kPlt cX4_sponsorCount (some .int) q.1 q.2) = true := by decide +kernel
set_option maxRecDepth 100000 in
theorem kc40 : c40.all (fun q => kOkB kTb4 kPlt cX4_isChild (some .boolean) q.1 q.2) = true := by decide +kernel
set_option maxRecDepth 100000 in
theorem kc41 : c41.all (fun q => kOkB kTb4 kPlt cX4_isSponsor (some .boolean) q.1 q.2) = true := by decide +kernel
set_option maxRecDepth 100000 in
theorem kc42 : c42.all (fun q => kOkB kTb4 kPlt cX4_childOf (some .int) q.1 q.2) = true := by decide +kernel
set_option maxRecDepth 100000 in
theorem kc43 : c43.all (fun q => kOkB kTb4 kPlt cX4_place (some .int) q.1 q.2) = true := by decide +kernel
set_option maxRecDepth 100000 in
theorem kc44 : c44.all (fun q => kOkB kTb4 kPlt cX4_at (some .int) q.1 q.2) = true := by decide +kernel
set_option maxRecDepth 100000 in
theorem kc45 : c45.all (fun q => kOkB kTb4 kPlt cX4_become none q.1 q.2) = true := by decide +kernel
set_option maxRecDepth 100000 in
theorem kc46 : c46.all (fun q => kOkB kTb4 kPlt cX4_told (some .int) q.1 q.2) = true := by decide +kernel
set_option maxRecDepth 100000 in
theorem kc47 : c47.all (fun q => kOkB kTb4 kPlt cX4_childComes (some .int) q.1 q.2) = true := by decide +kernel
set_option maxRecDepth 100000 in
theorem kc48 : c48.all (fun q => kOkB kTb4 kPlt cX4_maySponsor (some .boolean) q.1 q.2) = true := by decide +kernel
set_option maxRecDepth 100000 in
theorem kc49 : c49.all (fun q => kOkB kTb4 kPlt cX4_sponsorComes (some .int) q.1 q.2) = true := by decide +kernel
set_option maxRecDepth 100000 in
theorem kc50 : c50.all (fun q => kOkB kTb4 kPlt cX4_lapTakes (some .int) q.1 q.2) = true := by decide +kernel
set_option maxRecDepth 100000 in
theorem kc51 : c51.all (fun q => kOkB kTb4 kPlt cX4_minutesOfLaps (some .int) q.1 q.2) = true := by decide +kernel
set_option maxRecDepth 100000 in
theorem kc52 : c52.all (fun q => kOkB kTb4 kPlt cX4_owedWithoutTop (some .int) q.1 q.2) = true := by decide +kernel
set_option maxRecDepth 100000 in
theorem kc53 : c53.all (fun q => kOkB kTb4 kPlt cX4_owedBy (some .int) q.1 q.2) = true := by decide +kernel
set_option maxRecDepth 100000 in
theorem kc54 : c54.all (fun q => kOkB kTb4 kPlt cX4_paidBy (some .int) q.1 q.2) = true := by decide +kernel
set_option maxRecDepth 100000 in
theorem kc55 : c55.all (fun q => kOkB kTb4 kPlt cX4_isSurprised (some .boolean) q.1 q.2) = true := by decide +kernel
set_option maxRecDepth 100000 in
theorem kc56 : c56.all (fun q => kOkB kTb4 kPlt cX4_owedTo (some .int) q.1 q.2) = true := by decide +kernel
set_option maxRecDepth 100000 in
theorem kc57 : c57.all (fun q => kOkB kTb4 kPlt cX4_paidTo (some .int) q.1 q.2) = true := by decide +kernel
set_option maxRecDepth 100000 in
theorem kc58 : c58.all (fun q => kOkB kTb5 kPlt cX5_fed (some .int) q.1 q.2) = true := by decide +kernel
set_option maxRecDepth 100000 in
theorem kc59 : c59.all (fun q => kOkB kTb5 kPlt cX5_takeByte (some .int) q.1 q.2) = true := by decide +kernel
set_option maxRecDepth 100000 in
theorem kc60 : c60.all (fun q => kOkB kTb5 kPlt cX5_takeTape (some .int) q.1 q.2) = true := by decide +kernel
set_option maxRecDepth 100000 in
theorem kc61 : c61.all (fun q => kOkB kTb5 kPlt cX5_readLines (some .int) q.1 q.2) = true := by decide +kernel
set_option maxRecDepth 100000 in
theorem kc62 : c62.all (fun q => kOkB kTb5 kPlt cX5_readLine (some .boolean) q.1 q.2) = true := by decide +kernel
set_option maxRecDepth 100000 in
theorem kc63 : c63.all (fun q => kOkB kTb5 kPlt cX5_readJoined (some .boolean) q.1 q.2) = true := by decide +kernel
set_option maxRecDepth 100000 in
theorem kc64 : c64.all (fun q => kOkB kTb5 kPlt cX5_readOperand (some .boolean) q.1 q.2) = true := by decide +kernel
set_option maxRecDepth 100000 in
theorem kc65 : c65.all (fun q => kOkB kTb5 kPlt cX5_readClosing (some .boolean) q.1 q.2) = true := by decide +kernel
set_option maxRecDepth 100000 in
theorem kc66 : c66.all (fun q => kOkB kTb5 kPlt cX5_readNumber none q.1 q.2) = true := by decide +kernel
set_option maxRecDepth 100000 in
theorem kc67 : c67.all (fun q => kOkB kTb5 kPlt cX5_sign (some .int) q.1 q.2) = true := by decide +kernel
set_option maxRecDepth 100000 in
theorem kc68 : c68.all (fun q => kOkB kTb5 kPlt cX5_write none q.1 q.2) = true := by decide +kernel
set_option maxRecDepth 100000 in
theorem kc69 : c69.all (fun q => kOkB kTb5 kPlt cX5_isDigit (some .boolean) q.1 q.2) = true := by decide +kernel
set_option maxRecDepth 100000 in
theorem kc70 : c70.all (fun q => kOkB kTb5 kPlt cX5_nameOf (some .int) q.1 q.2) = true := by decide +kernel
set_option maxRecDepth 100000 in
theorem kc71 : c71.all (fun q => kOkB kTb5 kPlt cX5_levelOf (some .int) q.1 q.2) = true := by decide +kernel
end
section
-- laid by wip/whole/gen.py
set_option maxRecDepth 100000 in
theorem kc72 : c72.all (fun q => kOkB kTb5 kPlt cX5_isThere (some .boolean) q.1 q.2) = true := by decide +kernel
set_option maxRecDepth 100000 in
theorem kc73 : c73.all (fun q => kOkB kTb5 kPlt cX5_ofChild none q.1 q.2) = true := by decide +kernel
set_option maxRecDepth 100000 in
theorem kc74 : c74.all (fun q => kOkB kTb5 kPlt cX5_gives (some .int) q.1 q.2) = true := by decide +kernel
set_option maxRecDepth 100000 in
theorem kc75 : c75.all (fun q => kOkB kTb5 kPlt cX5_turned (some .int) q.1 q.2) = true := by decide +kernel
set_option maxRecDepth 100000 in
theorem kc76 : c76.all (fun q => kOkB kTb5 kPlt cX5_joined (some .int) q.1 q.2) = true := by decide +kernel
set_option maxRecDepth 100000 in
theorem kc77 : c77.all (fun q => kOkB kTb5 kPlt cX5_truth (some .int) q.1 q.2) = true := by decide +kernel
set_option maxRecDepth 100000 in
theorem kc78 : c78.all (fun q => kOkB kTb6 kPlt cX6_make none q.1 q.2) = true := by decide +kernel
set_option maxRecDepth 100000 in
theorem kc79 : c79.all (fun q => kOkB kTb6 kPlt cX6_weigh none q.1 q.2) = true := by decide +kernel
set_option maxRecDepth 100000 in
theorem kc80 : c80.all (fun q => kOkB kTb6 kPlt cX6_bestOf (some .int) q.1 q.2) = true := by decide +kernel
set_option maxRecDepth 100000 in
theorem kc81 : c81.all (fun q => kOkB kTb6 kPlt cX6_worthWith (some .int) q.1 q.2) = true := by decide +kernel
set_option maxRecDepth 100000 in
theorem kc82 : c82.all (fun q => kOkB kTb6 kPlt cX6_choose none q.1 q.2) = true := by decide +kernel
set_option maxRecDepth 100000 in
theorem kc83 : c83.all (fun q => kOkB kTb6 kPlt cX6_lapsOf (some .int) q.1 q.2) = true := by decide +kernel
set_option maxRecDepth 100000 in
theorem kc84 : c84.all (fun q => kOkB kTb6 kPlt cX6_pence (some .int) q.1 q.2) = true := by decide +kernel
set_option maxRecDepth 100000 in
theorem kc85 : c85.all (fun q => kOkB kTb6 kPlt cX6_minutesUsed (some .int) q.1 q.2) = true := by decide +kernel
set_option maxRecDepth 100000 in
theorem kc86 : c86.all (fun q => kOkB kTb7 kPlt cX7_isShelf (some .boolean) q.1 q.2) = true := by decide +kernel
set_option maxRecDepth 100000 in
theorem kc87 : c87.all (fun q => kOkB kTb7 kPlt cX7_isEmpty (some .boolean) q.1 q.2) = true := by decide +kernel
set_option maxRecDepth 100000 in
theorem kc88 : c88.all (fun q => kOkB kTb7 kPlt cX7_isRow (some .boolean) q.1 q.2) = true := by decide +kernel
set_option maxRecDepth 100000 in
theorem kc89 : c89.all (fun q => kOkB kTb7 kPlt cX7_areAlike (some .boolean) q.1 q.2) = true := by decide +kernel
set_option maxRecDepth 100000 in
theorem kc90 : c90.all (fun q => kOkB kTb7 kPlt cX7_refusal (some .int) q.1 q.2) = true := by decide +kernel
set_option maxRecDepth 100000 in
theorem kc91 : c91.all (fun q => kOkB kTb7 kPlt cX7_placeRefusal (some .int) q.1 q.2) = true := by decide +kernel
set_option maxRecDepth 100000 in
theorem kc92 : c92.all (fun q => kOkB kTb7 kPlt cX7_isPlace (some .boolean) q.1 q.2) = true := by decide +kernel
set_option maxRecDepth 100000 in
theorem kc93 : c93.all (fun q => kOkB kTb7 kPlt cX7_size (some .int) q.1 q.2) = true := by decide +kernel
set_option maxRecDepth 100000 in
theorem kc94 : c94.all (fun q => kOkB kTb7 kPlt cX7_bodyOn (some .int) q.1 q.2) = true := by decide +kernel
set_option maxRecDepth 100000 in
theorem kc95 : c95.all (fun q => kOkB kTb7 kPlt cX7_hold none q.1 q.2) = true := by decide +kernel
set_option maxRecDepth 100000 in
theorem kc96 : c96.all (fun q => kOkB kTb7 kPlt cX7_holdRow none q.1 q.2) = true := by decide +kernel
set_option maxRecDepth 100000 in
theorem kc97 : c97.all (fun q => kOkB kTb7 kPlt cX7_value (some .long) q.1 q.2) = true := by decide +kernel
set_option maxRecDepth 100000 in
theorem kc98 : c98.all (fun q => kOkB kTb7 kPlt cX7_become none q.1 q.2) = true := by decide +kernel
set_option maxRecDepth 100000 in
theorem kc99 : c99.all (fun q => kOkB kTb7 kPlt cX7_cut (some .long) q.1 q.2) = true := by decide +kernel
set_option maxRecDepth 100000 in
theorem kc100 : c100.all (fun q => kOkB kTb7 kPlt cX7_hasPart (some .boolean) q.1 q.2) = true := by decide +kernel
set_option maxRecDepth 100000 in
theorem kc101 : c101.all (fun q => kOkB kTb7 kPlt cX7_copyPart none q.1 q.2) = true := by decide +kernel
set_option maxRecDepth 100000 in
theorem kc102 : c102.all (fun q => kOkB kTb8 kPlt cX8_lapsIn (some .int) q.1 q.2) = true := by decide +kernel
set_option maxRecDepth 100000 in
theorem kc103 : c103.all (fun q => kOkB kTb8 kPlt cX8_think none q.1 q.2) = true := by decide +kernel
set_option maxRecDepth 100000 in
theorem kc104 : c104.all (fun q => kOkB kTb8 kPlt cX8_lapsNow (some .int) q.1 q.2) = true := by decide +kernel
set_option maxRecDepth 100000 in
theorem kc105 : c105.all (fun q => kOkB kTb8 kPlt cX8_timeLaps none q.1 q.2) = true := by decide +kernel
set_option maxRecDepth 100000 in
theorem kc106 : c106.all (fun q => kOkB kTb8 kPlt cX8_reachOf (some .int) q.1 q.2) = true := by decide +kernel
set_option maxRecDepth 100000 in
theorem kc107 : c107.all (fun q => kOkB kTb8 kPlt cX8_endOf (some .int) q.1 q.2) = true := by decide +kernel
set_option maxRecDepth 100000 in
theorem kc108 : c108.all (fun q => kOkB kTb8 kPlt cX8_beginMinutes none q.1 q.2) = true := by decide +kernel
set_option maxRecDepth 100000 in
theorem kc109 : c109.all (fun q => kOkB kTb8 kPlt cX8_goOnTo (some .boolean) q.1 q.2) = true := by decide +kernel
set_option maxRecDepth 100000 in
theorem kc110 : c110.all (fun q => kOkB kTb8 kPlt cX8_drawField (some .int) q.1 q.2) = true := by decide +kernel
set_option maxRecDepth 100000 in
theorem kc111 : c111.all (fun q => kOkB kTb8 kPlt cX8_drawLaps (some .int) q.1 q.2) = true := by decide +kernel
set_option maxRecDepth 100000 in
theorem kc112 : c112.all (fun q => kOkB kTb8 kPlt cX8_lapsOfAll (some .int) q.1 q.2) = true := by decide +kernel
set_option maxRecDepth 100000 in
theorem kc113 : c113.all (fun q => kOkB kTb8 kPlt cX8_owedByAll (some .int) q.1 q.2) = true := by decide +kernel
set_option maxRecDepth 100000 in
theorem kc114 : c114.all (fun q => kOkB kTb8 kPlt cX8_paidByAll (some .int) q.1 q.2) = true := by decide +kernel
set_option maxRecDepth 100000 in
theorem kc115 : c115.all (fun q => kOkB kTb8 kPlt cX8_surprised (some .int) q.1 q.2) = true := by decide +kernel
set_option maxRecDepth 100000 in
theorem kc116 : c116.all (fun q => kOkB kTb8 kPlt cX8_mostLaps (some .int) q.1 q.2) = true := by decide +kernel
set_option maxRecDepth 100000 in
theorem kc117 : c117.all (fun q => kOkB kTb8 kPlt cX8_mostPence (some .int) q.1 q.2) = true := by decide +kernel
set_option maxRecDepth 100000 in
theorem kc118 : c118.all (fun q => kOkB kTb9 kPlt cX9_within (some .boolean) q.1 q.2) = true := by decide +kernel
set_option maxRecDepth 100000 in
theorem kc119 : c119.all (fun q => kOkB kTb9 kPlt cX9_isPair (some .boolean) q.1 q.2) = true := by decide +kernel
set_option maxRecDepth 100000 in
theorem kc120 : c120.all (fun q => kOkB kTb9 kPlt cX9_child (some .int) q.1 q.2) = true := by decide +kernel
set_option maxRecDepth 100000 in
theorem kc121 : c121.all (fun q => kOkB kTb9 kPlt cX9_sponsor (some .int) q.1 q.2) = true := by decide +kernel
set_option maxRecDepth 100000 in
theorem kc122 : c122.all (fun q => kOkB kTb9 kPlt cX9_sponsors (some .int) q.1 q.2) = true := by decide +kernel
set_option maxRecDepth 100000 in
theorem kc123 : c123.all (fun q => kOkB kTb9 kPlt cX9_sponsorsFromRow (some .int) q.1 q.2) = true := by decide +kernel
set_option maxRecDepth 100000 in
theorem kc124 : c124.all (fun q => kOkB kTb9 kPlt cX9_mend (some .int) q.1 q.2) = true := by decide +kernel
set_option maxRecDepth 100000 in
theorem kc125 : c125.all (fun q => kOkB kTb9 kPlt cX9_of (some .int) q.1 q.2) = true := by decide +kernel
set_option maxRecDepth 100000 in
theorem kc126 : c126.all (fun q => kOkB kTb9 kPlt cX9_feed (some .int) q.1 q.2) = true := by decide +kernel
set_option maxRecDepth 100000 in
theorem kc127 : c127.all (fun q => kOkB kTb9 kPlt cX9_law (some .int) q.1 q.2) = true := by decide +kernel
set_option maxRecDepth 100000 in
theorem kc128 : c128.all (fun q => kOkB kTb9 kPlt cX9_lap (some .int) q.1 q.2) = true := by decide +kernel
set_option maxRecDepth 100000 in
theorem kc129 : c129.all (fun q => kOkB kTb9 kPlt cX9_laps (some .int) q.1 q.2) = true := by decide +kernel
set_option maxRecDepth 100000 in
theorem kc130 : c130.all (fun q => kOkB kTb9 kPlt cX9_minutes (some .int) q.1 q.2) = true := by decide +kernel
set_option maxRecDepth 100000 in
theorem kc131 : c131.all (fun q => kOkB kTb9 kPlt cX9_most (some .int) q.1 q.2) = true := by decide +kernel
set_option maxRecDepth 100000 in
theorem kc132 : c132.all (fun q => kOkB kTb9 kPlt cX9_owes (some .int) q.1 q.2) = true := by decide +kernel
set_option maxRecDepth 100000 in
theorem kc133 : c133.all (fun q => kOkB kTb9 kPlt cX9_more (some .int) q.1 q.2) = true := by decide +kernel
set_option maxRecDepth 100000 in
theorem kc134 : c134.all (fun q => kOkB kTb9 kPlt cX9_done (some .int) q.1 q.2) = true := by decide +kernel
set_option maxRecDepth 100000 in
theorem kc135 : c135.all (fun q => kOkB kTb9 kPlt cX9_lapOrSum (some .int) q.1 q.2) = true := by decide +kernel
set_option maxRecDepth 100000 in
theorem kc136 : c136.all (fun q => kOkB kTb9 kPlt cX9_top (some .int) q.1 q.2) = true := by decide +kernel
set_option maxRecDepth 100000 in
theorem kc137 : c137.all (fun q => kOkB kTb9 kPlt cX9_howLong (some .int) q.1 q.2) = true := by decide +kernel
set_option maxRecDepth 100000 in
theorem kc138 : c138.all (fun q => kOkB kTb9 kPlt cX9_field (some .int) q.1 q.2) = true := by decide +kernel
set_option maxRecDepth 100000 in
theorem kc139 : c139.all (fun q => kOkB kTb9 kPlt cX9_comes (some .int) q.1 q.2) = true := by decide +kernel
set_option maxRecDepth 100000 in
theorem kc140 : c140.all (fun q => kOkB kTb9 kPlt cX9_by (some .int) q.1 q.2) = true := by decide +kernel
set_option maxRecDepth 100000 in
theorem kc141 : c141.all (fun q => kOkB kTb9 kPlt cX9_remind (some .int) q.1 q.2) = true := by decide +kernel
set_option maxRecDepth 100000 in
theorem kc142 : c142.all (fun q => kOkB kTb9 kPlt cX9_readReminders none q.1 q.2) = true := by decide +kernel
set_option maxRecDepth 100000 in
theorem kc143 : c143.all (fun q => kOkB kTb9 kPlt cX9_judge (some .int) q.1 q.2) = true := by decide +kernel
end
section
-- laid by wip/whole/gen.py
set_option maxRecDepth 100000 in
theorem kc144 : c144.all (fun q => kOkB kTb9 kPlt cX9_firstAmiss (some .int) q.1 q.2) = true := by decide +kernel
set_option maxRecDepth 100000 in
theorem kc145 : c145.all (fun q => kOkB kTb9 kPlt cX9_lapsFor (some .int) q.1 q.2) = true := by decide +kernel
set_option maxRecDepth 100000 in
theorem kc146 : c146.all (fun q => kOkB kTb9 kPlt cX9_minutesFor (some .int) q.1 q.2) = true := by decide +kernel
set_option maxRecDepth 100000 in
theorem kc147 : c147.all (fun q => kOkB kTb9 kPlt cX9_whose (some .int) q.1 q.2) = true := by decide +kernel
set_option maxRecDepth 100000 in
theorem kc148 : c148.all (fun q => kOkB kTb9 kPlt cX9_oak (some .int) q.1 q.2) = true := by decide +kernel
set_option maxRecDepth 100000 in
theorem kc149 : c149.all (fun q => kOkB kTb9 kPlt cX9_cheats (some .boolean) q.1 q.2) = true := by decide +kernel
set_option maxRecDepth 100000 in
theorem kc150 : c150.all (fun q => kOkB kTb9 kPlt cX9_lapsSaid (some .int) q.1 q.2) = true := by decide +kernel
set_option maxRecDepth 100000 in
theorem kc151 : c151.all (fun q => kOkB kTb9 kPlt cX9_drawn (some .int) q.1 q.2) = true := by decide +kernel
set_option maxRecDepth 100000 in
theorem kc152 : c152.all (fun q => kOkB kTb9 kPlt cX9_run (some .int) q.1 q.2) = true := by decide +kernel
set_option maxRecDepth 100000 in
theorem kc153 : c153.all (fun q => kOkB kTb9 kPlt cX9_ask (some .int) q.1 q.2) = true := by decide +kernel
set_option maxRecDepth 100000 in
theorem kc154 : c154.all (fun q => kOkB kTb9 kPlt cX9_anew (some .int) q.1 q.2) = true := by decide +kernel
set_option maxRecDepth 100000 in
theorem kc155 : c155.all (fun q => kOkB kTb9 kPlt cX9_led (some .int) q.1 q.2) = true := by decide +kernel
set_option maxRecDepth 100000 in
theorem kc156 : c156.all (fun q => kOkB kTb9 kPlt cX9_image (some .int) q.1 q.2) = true := by decide +kernel
set_option maxRecDepth 100000 in
theorem kc157 : c157.all (fun q => kOkB kTb9 kPlt cX9_back (some .int) q.1 q.2) = true := by decide +kernel
set_option maxRecDepth 100000 in
theorem kc158 : c158.all (fun q => kOkB kTb9 kPlt cX9_undo (some .int) q.1 q.2) = true := by decide +kernel
set_option maxRecDepth 100000 in
theorem kc159 : c159.all (fun q => kOkB kTb9 kPlt cX9_redo (some .int) q.1 q.2) = true := by decide +kernel
set_option maxRecDepth 100000 in
theorem kc160 : c160.all (fun q => kOkB kTb9 kPlt cX9_body (some .int) q.1 q.2) = true := by decide +kernel
set_option maxRecDepth 100000 in
theorem kc161 : c161.all (fun q => kOkB kTb9 kPlt cX9_act (some .int) q.1 q.2) = true := by decide +kernel
set_option maxRecDepth 100000 in
theorem kc162 : c162.all (fun q => kOkB kTb9 kPlt cX9_trace (some .int) q.1 q.2) = true := by decide +kernel
set_option maxRecDepth 100000 in
theorem kc163 : c163.all (fun q => kOkB kTb9 kPlt cX9_keep (some .int) q.1 q.2) = true := by decide +kernel
set_option maxRecDepth 100000 in
theorem kc164 : c164.all (fun q => kOkB kTb9 kPlt cX9_row (some .int) q.1 q.2) = true := by decide +kernel
set_option maxRecDepth 100000 in
theorem kc165 : c165.all (fun q => kOkB kTb9 kPlt cX9_put (some .int) q.1 q.2) = true := by decide +kernel
set_option maxRecDepth 100000 in
theorem kc166 : c166.all (fun q => kOkB kTb9 kPlt cX9_element (some .long) q.1 q.2) = true := by decide +kernel
set_option maxRecDepth 100000 in
theorem kc167 : c167.all (fun q => kOkB kTb9 kPlt cX9_shift (some .int) q.1 q.2) = true := by decide +kernel
set_option maxRecDepth 100000 in
theorem kc168 : c168.all (fun q => kOkB kTb9 kPlt cX9_taken (some .int) q.1 q.2) = true := by decide +kernel
set_option maxRecDepth 100000 in
theorem kc169 : c169.all (fun q => kOkB kTb9 kPlt cX9_count (some .int) q.1 q.2) = true := by decide +kernel
set_option maxRecDepth 100000 in
theorem kc170 : c170.all (fun q => kOkB kTb10 kPlt cX10_in (some .boolean) q.1 q.2) = true := by decide +kernel
set_option maxRecDepth 100000 in
theorem kc171 : c171.all (fun q => kOkB kTb10 kPlt cX10_isChild (some .boolean) q.1 q.2) = true := by decide +kernel
set_option maxRecDepth 100000 in
theorem kc172 : c172.all (fun q => kOkB kTb10 kPlt cX10_isSponsor (some .boolean) q.1 q.2) = true := by decide +kernel
set_option maxRecDepth 100000 in
theorem kc173 : c173.all (fun q => kOkB kTb10 kPlt cX10_child (some .int) q.1 q.2) = true := by decide +kernel
set_option maxRecDepth 100000 in
theorem kc174 : c174.all (fun q => kOkB kTb10 kPlt cX10_addSponsor (some .int) q.1 q.2) = true := by decide +kernel
set_option maxRecDepth 100000 in
theorem kc175 : c175.all (fun q => kOkB kTb10 kPlt cX10_sponsor (some .int) q.1 q.2) = true := by decide +kernel
set_option maxRecDepth 100000 in
theorem kc176 : c176.all (fun q => kOkB kTb10 kPlt cX10_sponsors (some .int) q.1 q.2) = true := by decide +kernel
set_option maxRecDepth 100000 in
theorem kc177 : c177.all (fun q => kOkB kTb10 kPlt cX10_valueAt (some .int) q.1 q.2) = true := by decide +kernel
set_option maxRecDepth 100000 in
theorem kc178 : c178.all (fun q => kOkB kTb10 kPlt cX10_lays none q.1 q.2) = true := by decide +kernel
set_option maxRecDepth 100000 in
theorem kc179 : c179.all (fun q => kOkB kTb10 kPlt cX10_changes (some .int) q.1 q.2) = true := by decide +kernel
set_option maxRecDepth 100000 in
theorem kc180 : c180.all (fun q => kOkB kTb10 kPlt cX10_undo (some .int) q.1 q.2) = true := by decide +kernel
set_option maxRecDepth 100000 in
theorem kc181 : c181.all (fun q => kOkB kTb10 kPlt cX10_redo (some .int) q.1 q.2) = true := by decide +kernel
set_option maxRecDepth 100000 in
theorem kc182 : c182.all (fun q => kOkB kTb10 kPlt cX10_isOne (some .boolean) q.1 q.2) = true := by decide +kernel
set_option maxRecDepth 100000 in
theorem kc183 : c183.all (fun q => kOkB kTb10 kPlt cX10_mayBe (some .boolean) q.1 q.2) = true := by decide +kernel
set_option maxRecDepth 100000 in
theorem kc184 : c184.all (fun q => kOkB kTb10 kPlt cX10_mend (some .int) q.1 q.2) = true := by decide +kernel
set_option maxRecDepth 100000 in
theorem kc185 : c185.all (fun q => kOkB kTb10 kPlt cX10_of (some .int) q.1 q.2) = true := by decide +kernel
set_option maxRecDepth 100000 in
theorem kc186 : c186.all (fun q => kOkB kTb10 kPlt cX10_feed (some .int) q.1 q.2) = true := by decide +kernel
set_option maxRecDepth 100000 in
theorem kc187 : c187.all (fun q => kOkB kTb10 kPlt cX10_look (some .int) q.1 q.2) = true := by decide +kernel
set_option maxRecDepth 100000 in
theorem kc188 : c188.all (fun q => kOkB kTb10 kPlt cX10_wrong none q.1 q.2) = true := by decide +kernel
set_option maxRecDepth 100000 in
theorem kc189 : c189.all (fun q => kOkB kTb10 kPlt cX10_addStep none q.1 q.2) = true := by decide +kernel
set_option maxRecDepth 100000 in
theorem kc190 : c190.all (fun q => kOkB kTb10 kPlt cX10_nameOf (some .int) q.1 q.2) = true := by decide +kernel
set_option maxRecDepth 100000 in
theorem kc191 : c191.all (fun q => kOkB kTb10 kPlt cX10_opens (some .boolean) q.1 q.2) = true := by decide +kernel
set_option maxRecDepth 100000 in
theorem kc192 : c192.all (fun q => kOkB kTb10 kPlt cX10_figure none q.1 q.2) = true := by decide +kernel
set_option maxRecDepth 100000 in
theorem kc193 : c193.all (fun q => kOkB kTb10 kPlt cX10_operand none q.1 q.2) = true := by decide +kernel
set_option maxRecDepth 100000 in
theorem kc194 : c194.all (fun q => kOkB kTb10 kPlt cX10_product none q.1 q.2) = true := by decide +kernel
set_option maxRecDepth 100000 in
theorem kc195 : c195.all (fun q => kOkB kTb10 kPlt cX10_sum none q.1 q.2) = true := by decide +kernel
set_option maxRecDepth 100000 in
theorem kc196 : c196.all (fun q => kOkB kTb10 kPlt cX10_compared none q.1 q.2) = true := by decide +kernel
set_option maxRecDepth 100000 in
theorem kc197 : c197.all (fun q => kOkB kTb10 kPlt cX10_both none q.1 q.2) = true := by decide +kernel
set_option maxRecDepth 100000 in
theorem kc198 : c198.all (fun q => kOkB kTb10 kPlt cX10_either none q.1 q.2) = true := by decide +kernel
set_option maxRecDepth 100000 in
theorem kc199 : c199.all (fun q => kOkB kTb10 kPlt cX10_line none q.1 q.2) = true := by decide +kernel
set_option maxRecDepth 100000 in
theorem kc200 : c200.all (fun q => kOkB kTb10 kPlt cX10_readText (some .int) q.1 q.2) = true := by decide +kernel
set_option maxRecDepth 100000 in
theorem kc201 : c201.all (fun q => kOkB kTb10 kPlt cX10_twoOf (some .int) q.1 q.2) = true := by decide +kernel
set_option maxRecDepth 100000 in
theorem kc202 : c202.all (fun q => kOkB kTb10 kPlt cX10_worked (some .int) q.1 q.2) = true := by decide +kernel
set_option maxRecDepth 100000 in
theorem kc203 : c203.all (fun q => kOkB kTb10 kPlt cX10_gives (some .int) q.1 q.2) = true := by decide +kernel
set_option maxRecDepth 100000 in
theorem kc204 : c204.all (fun q => kOkB kTb10 kPlt cX10_law (some .int) q.1 q.2) = true := by decide +kernel
set_option maxRecDepth 100000 in
theorem kc205 : c205.all (fun q => kOkB kTb10 kPlt cX10_lapOf (some .int) q.1 q.2) = true := by decide +kernel
set_option maxRecDepth 100000 in
theorem kc206 : c206.all (fun q => kOkB kTb10 kPlt cX10_lap (some .int) q.1 q.2) = true := by decide +kernel
set_option maxRecDepth 100000 in
theorem kc207 : c207.all (fun q => kOkB kTb10 kPlt cX10_isTime (some .boolean) q.1 q.2) = true := by decide +kernel
set_option maxRecDepth 100000 in
theorem kc208 : c208.all (fun q => kOkB kTb10 kPlt cX10_lapsBy (some .int) q.1 q.2) = true := by decide +kernel
set_option maxRecDepth 100000 in
theorem kc209 : c209.all (fun q => kOkB kTb10 kPlt cX10_minutesOf (some .int) q.1 q.2) = true := by decide +kernel
set_option maxRecDepth 100000 in
theorem kc210 : c210.all (fun q => kOkB kTb10 kPlt cX10_minutes (some .int) q.1 q.2) = true := by decide +kernel
set_option maxRecDepth 100000 in
theorem kc211 : c211.all (fun q => kOkB kTb10 kPlt cX10_plainOf (some .int) q.1 q.2) = true := by decide +kernel
set_option maxRecDepth 100000 in
theorem kc212 : c212.all (fun q => kOkB kTb10 kPlt cX10_owesOf (some .int) q.1 q.2) = true := by decide +kernel
set_option maxRecDepth 100000 in
theorem kc213 : c213.all (fun q => kOkB kTb10 kPlt cX10_paysOf (some .int) q.1 q.2) = true := by decide +kernel
set_option maxRecDepth 100000 in
theorem kc214 : c214.all (fun q => kOkB kTb10 kPlt cX10_owes (some .int) q.1 q.2) = true := by decide +kernel
set_option maxRecDepth 100000 in
theorem kc215 : c215.all (fun q => kOkB kTb10 kPlt cX10_owedTo (some .int) q.1 q.2) = true := by decide +kernel
end
section
-- laid by wip/whole/gen.py
set_option maxRecDepth 100000 in
theorem kc216 : c216.all (fun q => kOkB kTb10 kPlt cX10_paidTo (some .int) q.1 q.2) = true := by decide +kernel
set_option maxRecDepth 100000 in
theorem kc217 : c217.all (fun q => kOkB kTb10 kPlt cX10_goTo none q.1 q.2) = true := by decide +kernel
set_option maxRecDepth 100000 in
theorem kc218 : c218.all (fun q => kOkB kTb10 kPlt cX10_lapsAll (some .int) q.1 q.2) = true := by decide +kernel
set_option maxRecDepth 100000 in
theorem kc219 : c219.all (fun q => kOkB kTb10 kPlt cX10_mostLaps (some .int) q.1 q.2) = true := by decide +kernel
set_option maxRecDepth 100000 in
theorem kc220 : c220.all (fun q => kOkB kTb10 kPlt cX10_paidAll (some .int) q.1 q.2) = true := by decide +kernel
set_option maxRecDepth 100000 in
theorem kc221 : c221.all (fun q => kOkB kTb10 kPlt cX10_laps (some .int) q.1 q.2) = true := by decide +kernel
set_option maxRecDepth 100000 in
theorem kc222 : c222.all (fun q => kOkB kTb10 kPlt cX10_surprised (some .int) q.1 q.2) = true := by decide +kernel
set_option maxRecDepth 100000 in
theorem kc223 : c223.all (fun q => kOkB kTb10 kPlt cX10_mostPence (some .int) q.1 q.2) = true := by decide +kernel
set_option maxRecDepth 100000 in
theorem kc224 : c224.all (fun q => kOkB kTb10 kPlt cX10_most (some .int) q.1 q.2) = true := by decide +kernel
set_option maxRecDepth 100000 in
theorem kc225 : c225.all (fun q => kOkB kTb10 kPlt cX10_moreBy (some .int) q.1 q.2) = true := by decide +kernel
set_option maxRecDepth 100000 in
theorem kc226 : c226.all (fun q => kOkB kTb10 kPlt cX10_more (some .int) q.1 q.2) = true := by decide +kernel
set_option maxRecDepth 100000 in
theorem kc227 : c227.all (fun q => kOkB kTb10 kPlt cX10_done (some .int) q.1 q.2) = true := by decide +kernel
set_option maxRecDepth 100000 in
theorem kc228 : c228.all (fun q => kOkB kTb10 kPlt cX10_lapOrSum (some .int) q.1 q.2) = true := by decide +kernel
set_option maxRecDepth 100000 in
theorem kc229 : c229.all (fun q => kOkB kTb10 kPlt cX10_top (some .int) q.1 q.2) = true := by decide +kernel
set_option maxRecDepth 100000 in
theorem kc230 : c230.all (fun q => kOkB kTb10 kPlt cX10_howLong (some .int) q.1 q.2) = true := by decide +kernel
set_option maxRecDepth 100000 in
theorem kc231 : c231.all (fun q => kOkB kTb10 kPlt cX10_partFrom none q.1 q.2) = true := by decide +kernel
set_option maxRecDepth 100000 in
theorem kc232 : c232.all (fun q => kOkB kTb10 kPlt cX10_field (some .int) q.1 q.2) = true := by decide +kernel
set_option maxRecDepth 100000 in
theorem kc233 : c233.all (fun q => kOkB kTb10 kPlt cX10_rowFault (some .int) q.1 q.2) = true := by decide +kernel
set_option maxRecDepth 100000 in
theorem kc234 : c234.all (fun q => kOkB kTb10 kPlt cX10_at (some .int) q.1 q.2) = true := by decide +kernel
set_option maxRecDepth 100000 in
theorem kc235 : c235.all (fun q => kOkB kTb10 kPlt cX10_isTold (some .boolean) q.1 q.2) = true := by decide +kernel
set_option maxRecDepth 100000 in
theorem kc236 : c236.all (fun q => kOkB kTb10 kPlt cX10_beginRest (some .int) q.1 q.2) = true := by decide +kernel
set_option maxRecDepth 100000 in
theorem kc237 : c237.all (fun q => kOkB kTb10 kPlt cX10_weekComes (some .int) q.1 q.2) = true := by decide +kernel
set_option maxRecDepth 100000 in
theorem kc238 : c238.all (fun q => kOkB kTb10 kPlt cX10_comesBy (some .int) q.1 q.2) = true := by decide +kernel
set_option maxRecDepth 100000 in
theorem kc239 : c239.all (fun q => kOkB kTb10 kPlt cX10_areWeeks (some .boolean) q.1 q.2) = true := by decide +kernel
set_option maxRecDepth 100000 in
theorem kc240 : c240.all (fun q => kOkB kTb10 kPlt cX10_comes (some .int) q.1 q.2) = true := by decide +kernel
set_option maxRecDepth 100000 in
theorem kc241 : c241.all (fun q => kOkB kTb10 kPlt cX10_by (some .int) q.1 q.2) = true := by decide +kernel
set_option maxRecDepth 100000 in
theorem kc242 : c242.all (fun q => kOkB kTb10 kPlt cX10_remind (some .int) q.1 q.2) = true := by decide +kernel
set_option maxRecDepth 100000 in
theorem kc243 : c243.all (fun q => kOkB kTb10 kPlt cX10_wrongSheet (some .int) q.1 q.2) = true := by decide +kernel
set_option maxRecDepth 100000 in
theorem kc244 : c244.all (fun q => kOkB kTb10 kPlt cX10_judge (some .int) q.1 q.2) = true := by decide +kernel
set_option maxRecDepth 100000 in
theorem kc245 : c245.all (fun q => kOkB kTb10 kPlt cX10_lapsFor (some .int) q.1 q.2) = true := by decide +kernel
set_option maxRecDepth 100000 in
theorem kc246 : c246.all (fun q => kOkB kTb10 kPlt cX10_minutesFor (some .int) q.1 q.2) = true := by decide +kernel
set_option maxRecDepth 100000 in
theorem kc247 : c247.all (fun q => kOkB kTb10 kPlt cX10_whose (some .int) q.1 q.2) = true := by decide +kernel
set_option maxRecDepth 100000 in
theorem kc248 : c248.all (fun q => kOkB kTb10 kPlt cX10_saidBy (some .int) q.1 q.2) = true := by decide +kernel
set_option maxRecDepth 100000 in
theorem kc249 : c249.all (fun q => kOkB kTb10 kPlt cX10_oak (some .int) q.1 q.2) = true := by decide +kernel
set_option maxRecDepth 100000 in
theorem kc250 : c250.all (fun q => kOkB kTb10 kPlt cX10_drawnLaps (some .int) q.1 q.2) = true := by decide +kernel
set_option maxRecDepth 100000 in
theorem kc251 : c251.all (fun q => kOkB kTb10 kPlt cX10_drawn (some .int) q.1 q.2) = true := by decide +kernel
set_option maxRecDepth 100000 in
theorem kc252 : c252.all (fun q => kOkB kTb10 kPlt cX10_run (some .int) q.1 q.2) = true := by decide +kernel
set_option maxRecDepth 100000 in
theorem kc253 : c253.all (fun q => kOkB kTb10 kPlt cX10_ask (some .int) q.1 q.2) = true := by decide +kernel
set_option maxRecDepth 100000 in
theorem kc254 : c254.all (fun q => kOkB kTb10 kPlt cX10_anew (some .int) q.1 q.2) = true := by decide +kernel
set_option maxRecDepth 100000 in
theorem kc255 : c255.all (fun q => kOkB kTb10 kPlt cX10_led (some .int) q.1 q.2) = true := by decide +kernel
set_option maxRecDepth 100000 in
theorem kc256 : c256.all (fun q => kOkB kTb10 kPlt cX10_image (some .int) q.1 q.2) = true := by decide +kernel
set_option maxRecDepth 100000 in
theorem kc257 : c257.all (fun q => kOkB kTb10 kPlt cX10_back (some .int) q.1 q.2) = true := by decide +kernel
set_option maxRecDepth 100000 in
theorem kc258 : c258.all (fun q => kOkB kTb10 kPlt cX10_isBody (some .boolean) q.1 q.2) = true := by decide +kernel
set_option maxRecDepth 100000 in
theorem kc259 : c259.all (fun q => kOkB kTb10 kPlt cX10_ran none q.1 q.2) = true := by decide +kernel
set_option maxRecDepth 100000 in
theorem kc260 : c260.all (fun q => kOkB kTb10 kPlt cX10_trace (some .int) q.1 q.2) = true := by decide +kernel
set_option maxRecDepth 100000 in
theorem kc261 : c261.all (fun q => kOkB kTb10 kPlt cX10_body (some .int) q.1 q.2) = true := by decide +kernel
set_option maxRecDepth 100000 in
theorem kc262 : c262.all (fun q => kOkB kTb10 kPlt cX10_isUnder (some .boolean) q.1 q.2) = true := by decide +kernel
set_option maxRecDepth 100000 in
theorem kc263 : c263.all (fun q => kOkB kTb10 kPlt cX10_plainRuns (some .int) q.1 q.2) = true := by decide +kernel
set_option maxRecDepth 100000 in
theorem kc264 : c264.all (fun q => kOkB kTb10 kPlt cX10_prizeRuns (some .int) q.1 q.2) = true := by decide +kernel
set_option maxRecDepth 100000 in
theorem kc265 : c265.all (fun q => kOkB kTb10 kPlt cX10_running (some .int) q.1 q.2) = true := by decide +kernel
set_option maxRecDepth 100000 in
theorem kc266 : c266.all (fun q => kOkB kTb10 kPlt cX10_plainOwes (some .int) q.1 q.2) = true := by decide +kernel
set_option maxRecDepth 100000 in
theorem kc267 : c267.all (fun q => kOkB kTb10 kPlt cX10_sumOwes (some .int) q.1 q.2) = true := by decide +kernel
set_option maxRecDepth 100000 in
theorem kc268 : c268.all (fun q => kOkB kTb10 kPlt cX10_owing (some .int) q.1 q.2) = true := by decide +kernel
set_option maxRecDepth 100000 in
theorem kc269 : c269.all (fun q => kOkB kTb10 kPlt cX10_plainPays (some .int) q.1 q.2) = true := by decide +kernel
set_option maxRecDepth 100000 in
theorem kc270 : c270.all (fun q => kOkB kTb10 kPlt cX10_oakPays (some .int) q.1 q.2) = true := by decide +kernel
set_option maxRecDepth 100000 in
theorem kc271 : c271.all (fun q => kOkB kTb10 kPlt cX10_paying (some .int) q.1 q.2) = true := by decide +kernel
set_option maxRecDepth 100000 in
theorem kc272 : c272.all (fun q => kOkB kTb10 kPlt cX10_plainTells (some .int) q.1 q.2) = true := by decide +kernel
set_option maxRecDepth 100000 in
theorem kc273 : c273.all (fun q => kOkB kTb10 kPlt cX10_telling (some .int) q.1 q.2) = true := by decide +kernel
set_option maxRecDepth 100000 in
theorem kc274 : c274.all (fun q => kOkB kTb10 kPlt cX10_act (some .int) q.1 q.2) = true := by decide +kernel
set_option maxRecDepth 100000 in
theorem kc275 : c275.all (fun q => kOkB kTb10 kPlt cX10_count (some .int) q.1 q.2) = true := by decide +kernel
set_option maxRecDepth 100000 in
theorem kc276 : c276.all (fun q => kOkB kTb10 kPlt cX10_isShelf (some .boolean) q.1 q.2) = true := by decide +kernel
set_option maxRecDepth 100000 in
theorem kc277 : c277.all (fun q => kOkB kTb10 kPlt cX10_keep (some .int) q.1 q.2) = true := by decide +kernel
set_option maxRecDepth 100000 in
theorem kc278 : c278.all (fun q => kOkB kTb10 kPlt cX10_row (some .int) q.1 q.2) = true := by decide +kernel
set_option maxRecDepth 100000 in
theorem kc279 : c279.all (fun q => kOkB kTb10 kPlt cX10_whyNoPlace (some .int) q.1 q.2) = true := by decide +kernel
set_option maxRecDepth 100000 in
theorem kc280 : c280.all (fun q => kOkB kTb10 kPlt cX10_put (some .int) q.1 q.2) = true := by decide +kernel
set_option maxRecDepth 100000 in
theorem kc281 : c281.all (fun q => kOkB kTb10 kPlt cX10_element (some .long) q.1 q.2) = true := by decide +kernel
set_option maxRecDepth 100000 in
theorem kc282 : c282.all (fun q => kOkB kTb10 kPlt cX10_shift (some .int) q.1 q.2) = true := by decide +kernel
set_option maxRecDepth 100000 in
theorem kc283 : c283.all (fun q => kOkB kTb10 kPlt cX10_taken (some .int) q.1 q.2) = true := by decide +kernel
end
section
-- laid by wip/whole/gen.py
def kBok (M : kMi) (c : List (Nat × List kIt)) : Prop := ∀ t, kOk kTbl kCl kZs kMi_ M t (kLook t c)
theorem kBok_of {M : kMi} {c : List (Nat × List kIt)} {own : String} {tb : kTab} (hown : M.1.cls = own) (hT : kTabOk kTbl kCl kZs kMi_ own tb) (h : c.all (fun q => kOkB tb kPlt M.2.1 M.2.2.2.1 q.1 q.2) = true) : kBok M c := fun t =>
  kOkB_ok hown hT kPlt_ok kCl_ok _ _ (kLook_all (f := fun t is => kOkB tb kPlt M.2.1 M.2.2.2.1 t is) (fun _ => rfl) c h)
def kRel : List kMi → List (List (Nat × List kIt)) → Prop
  | [], _ => True
  | M :: Ms, c :: cs => kBok M c ∧ kRel Ms cs
  | _ :: _, [] => False
theorem kRel_get : ∀ (Ms : List kMi) (cs : List (List (Nat × List kIt))), kRel Ms cs → ∀ (a : Nat) (M : kMi), Ms[a]? = some M → kBok M (cs.getD a [])
  | [], _, _, a, M, h => by simp at h
  | _ :: _, [], h, _, _, _ => h.elim
  | M :: Ms, c :: cs, h, 0, M', h' => by cases h'; exact h.1
  | M :: Ms, c :: cs, h, a + 1, M', h' => kRel_get Ms cs h.2 a M' h'
theorem kRel_app : ∀ (Ms Ns : List kMi) (cs ds : List (List (Nat × List kIt))), Ms.length = cs.length → kRel Ms cs → kRel Ns ds → kRel (Ms ++ Ns) (cs ++ ds)
  | [], _, [], _, _, _, h => h
  | [], _, _ :: _, _, h, _, _ => by cases h
  | _ :: _, _, [], _, h, _, _ => by cases h
  | M :: Ms, Ns, c :: cs, ds, hl, h, h2 => ⟨h.1, kRel_app Ms Ns cs ds (by simpa using hl) h.2 h2⟩
theorem kRl0 : kRel kMis0 kBl0 := ⟨kBok_of rfl kTb0_ok kc0, kBok_of rfl kTb0_ok kc1, kBok_of rfl kTb0_ok kc2, kBok_of rfl kTb0_ok kc3, kBok_of rfl kTb0_ok kc4, kBok_of rfl kTb0_ok kc5, kBok_of rfl kTb0_ok kc6, kBok_of rfl kTb0_ok kc7, kBok_of rfl kTb0_ok kc8, kBok_of rfl kTb0_ok kc9, kBok_of rfl kTb0_ok kc10, kBok_of rfl kTb0_ok kc11, kBok_of rfl kTb0_ok kc12, kBok_of rfl kTb1_ok kc13, kBok_of rfl kTb1_ok kc14, kBok_of rfl kTb1_ok kc15, kBok_of rfl kTb1_ok kc16, kBok_of rfl kTb1_ok kc17, kBok_of rfl kTb2_ok kc18, kBok_of rfl kTb2_ok kc19, trivial⟩
theorem kRl1 : kRel kMis1 kBl1 := ⟨kBok_of rfl kTb2_ok kc20, kBok_of rfl kTb2_ok kc21, kBok_of rfl kTb2_ok kc22, kBok_of rfl kTb2_ok kc23, kBok_of rfl kTb2_ok kc24, kBok_of rfl kTb3_ok kc25, kBok_of rfl kTb3_ok kc26, kBok_of rfl kTb3_ok kc27, kBok_of rfl kTb3_ok kc28, kBok_of rfl kTb3_ok kc29, kBok_of rfl kTb3_ok kc30, kBok_of rfl kTb3_ok kc31, kBok_of rfl kTb3_ok kc32, kBok_of rfl kTb3_ok kc33, kBok_of rfl kTb3_ok kc34, kBok_of rfl kTb3_ok kc35, kBok_of rfl kTb3_ok kc36, kBok_of rfl kTb3_ok kc37, kBok_of rfl kTb4_ok kc38, kBok_of rfl kTb4_ok kc39, trivial⟩
theorem kRl2 : kRel kMis2 kBl2 := ⟨kBok_of rfl kTb4_ok kc40, kBok_of rfl kTb4_ok kc41, kBok_of rfl kTb4_ok kc42, kBok_of rfl kTb4_ok kc43, kBok_of rfl kTb4_ok kc44, kBok_of rfl kTb4_ok kc45, kBok_of rfl kTb4_ok kc46, kBok_of rfl kTb4_ok kc47, kBok_of rfl kTb4_ok kc48, kBok_of rfl kTb4_ok kc49, kBok_of rfl kTb4_ok kc50, kBok_of rfl kTb4_ok kc51, kBok_of rfl kTb4_ok kc52, kBok_of rfl kTb4_ok kc53, kBok_of rfl kTb4_ok kc54, kBok_of rfl kTb4_ok kc55, kBok_of rfl kTb4_ok kc56, kBok_of rfl kTb4_ok kc57, kBok_of rfl kTb5_ok kc58, kBok_of rfl kTb5_ok kc59, trivial⟩
theorem kRl3 : kRel kMis3 kBl3 := ⟨kBok_of rfl kTb5_ok kc60, kBok_of rfl kTb5_ok kc61, kBok_of rfl kTb5_ok kc62, kBok_of rfl kTb5_ok kc63, kBok_of rfl kTb5_ok kc64, kBok_of rfl kTb5_ok kc65, kBok_of rfl kTb5_ok kc66, kBok_of rfl kTb5_ok kc67, kBok_of rfl kTb5_ok kc68, kBok_of rfl kTb5_ok kc69, kBok_of rfl kTb5_ok kc70, kBok_of rfl kTb5_ok kc71, kBok_of rfl kTb5_ok kc72, kBok_of rfl kTb5_ok kc73, kBok_of rfl kTb5_ok kc74, kBok_of rfl kTb5_ok kc75, kBok_of rfl kTb5_ok kc76, kBok_of rfl kTb5_ok kc77, kBok_of rfl kTb6_ok kc78, kBok_of rfl kTb6_ok kc79, trivial⟩
theorem kRl4 : kRel kMis4 kBl4 := ⟨kBok_of rfl kTb6_ok kc80, kBok_of rfl kTb6_ok kc81, kBok_of rfl kTb6_ok kc82, kBok_of rfl kTb6_ok kc83, kBok_of rfl kTb6_ok kc84, kBok_of rfl kTb6_ok kc85, kBok_of rfl kTb7_ok kc86, kBok_of rfl kTb7_ok kc87, kBok_of rfl kTb7_ok kc88, kBok_of rfl kTb7_ok kc89, kBok_of rfl kTb7_ok kc90, kBok_of rfl kTb7_ok kc91, kBok_of rfl kTb7_ok kc92, kBok_of rfl kTb7_ok kc93, kBok_of rfl kTb7_ok kc94, kBok_of rfl kTb7_ok kc95, kBok_of rfl kTb7_ok kc96, kBok_of rfl kTb7_ok kc97, kBok_of rfl kTb7_ok kc98, kBok_of rfl kTb7_ok kc99, trivial⟩
theorem kRl5 : kRel kMis5 kBl5 := ⟨kBok_of rfl kTb7_ok kc100, kBok_of rfl kTb7_ok kc101, kBok_of rfl kTb8_ok kc102, kBok_of rfl kTb8_ok kc103, kBok_of rfl kTb8_ok kc104, kBok_of rfl kTb8_ok kc105, kBok_of rfl kTb8_ok kc106, kBok_of rfl kTb8_ok kc107, kBok_of rfl kTb8_ok kc108, kBok_of rfl kTb8_ok kc109, kBok_of rfl kTb8_ok kc110, kBok_of rfl kTb8_ok kc111, kBok_of rfl kTb8_ok kc112, kBok_of rfl kTb8_ok kc113, kBok_of rfl kTb8_ok kc114, kBok_of rfl kTb8_ok kc115, kBok_of rfl kTb8_ok kc116, kBok_of rfl kTb8_ok kc117, kBok_of rfl kTb9_ok kc118, kBok_of rfl kTb9_ok kc119, trivial⟩
theorem kRl6 : kRel kMis6 kBl6 := ⟨kBok_of rfl kTb9_ok kc120, kBok_of rfl kTb9_ok kc121, kBok_of rfl kTb9_ok kc122, kBok_of rfl kTb9_ok kc123, kBok_of rfl kTb9_ok kc124, kBok_of rfl kTb9_ok kc125, kBok_of rfl kTb9_ok kc126, kBok_of rfl kTb9_ok kc127, kBok_of rfl kTb9_ok kc128, kBok_of rfl kTb9_ok kc129, kBok_of rfl kTb9_ok kc130, kBok_of rfl kTb9_ok kc131, kBok_of rfl kTb9_ok kc132, kBok_of rfl kTb9_ok kc133, kBok_of rfl kTb9_ok kc134, kBok_of rfl kTb9_ok kc135, kBok_of rfl kTb9_ok kc136, kBok_of rfl kTb9_ok kc137, kBok_of rfl kTb9_ok kc138, kBok_of rfl kTb9_ok kc139, trivial⟩
theorem kRl7 : kRel kMis7 kBl7 := ⟨kBok_of rfl kTb9_ok kc140, kBok_of rfl kTb9_ok kc141, kBok_of rfl kTb9_ok kc142, kBok_of rfl kTb9_ok kc143, kBok_of rfl kTb9_ok kc144, kBok_of rfl kTb9_ok kc145, kBok_of rfl kTb9_ok kc146, kBok_of rfl kTb9_ok kc147, kBok_of rfl kTb9_ok kc148, kBok_of rfl kTb9_ok kc149, kBok_of rfl kTb9_ok kc150, kBok_of rfl kTb9_ok kc151, kBok_of rfl kTb9_ok kc152, kBok_of rfl kTb9_ok kc153, kBok_of rfl kTb9_ok kc154, kBok_of rfl kTb9_ok kc155, kBok_of rfl kTb9_ok kc156, kBok_of rfl kTb9_ok kc157, kBok_of rfl kTb9_ok kc158, kBok_of rfl kTb9_ok kc159, trivial⟩
theorem kRl8 : kRel kMis8 kBl8 := ⟨kBok_of rfl kTb9_ok kc160, kBok_of rfl kTb9_ok kc161, kBok_of rfl kTb9_ok kc162, kBok_of rfl kTb9_ok kc163, kBok_of rfl kTb9_ok kc164, kBok_of rfl kTb9_ok kc165, kBok_of rfl kTb9_ok kc166, kBok_of rfl kTb9_ok kc167, kBok_of rfl kTb9_ok kc168, kBok_of rfl kTb9_ok kc169, kBok_of rfl kTb10_ok kc170, kBok_of rfl kTb10_ok kc171, kBok_of rfl kTb10_ok kc172, kBok_of rfl kTb10_ok kc173, kBok_of rfl kTb10_ok kc174, kBok_of rfl kTb10_ok kc175, kBok_of rfl kTb10_ok kc176, kBok_of rfl kTb10_ok kc177, kBok_of rfl kTb10_ok kc178, kBok_of rfl kTb10_ok kc179, trivial⟩
theorem kRl9 : kRel kMis9 kBl9 := ⟨kBok_of rfl kTb10_ok kc180, kBok_of rfl kTb10_ok kc181, kBok_of rfl kTb10_ok kc182, kBok_of rfl kTb10_ok kc183, kBok_of rfl kTb10_ok kc184, kBok_of rfl kTb10_ok kc185, kBok_of rfl kTb10_ok kc186, kBok_of rfl kTb10_ok kc187, kBok_of rfl kTb10_ok kc188, kBok_of rfl kTb10_ok kc189, kBok_of rfl kTb10_ok kc190, kBok_of rfl kTb10_ok kc191, kBok_of rfl kTb10_ok kc192, kBok_of rfl kTb10_ok kc193, kBok_of rfl kTb10_ok kc194, kBok_of rfl kTb10_ok kc195, kBok_of rfl kTb10_ok kc196, kBok_of rfl kTb10_ok kc197, kBok_of rfl kTb10_ok kc198, kBok_of rfl kTb10_ok kc199, trivial⟩
theorem kRl10 : kRel kMis10 kBl10 := ⟨kBok_of rfl kTb10_ok kc200, kBok_of rfl kTb10_ok kc201, kBok_of rfl kTb10_ok kc202, kBok_of rfl kTb10_ok kc203, kBok_of rfl kTb10_ok kc204, kBok_of rfl kTb10_ok kc205, kBok_of rfl kTb10_ok kc206, kBok_of rfl kTb10_ok kc207, kBok_of rfl kTb10_ok kc208, kBok_of rfl kTb10_ok kc209, kBok_of rfl kTb10_ok kc210, kBok_of rfl kTb10_ok kc211, kBok_of rfl kTb10_ok kc212, kBok_of rfl kTb10_ok kc213, kBok_of rfl kTb10_ok kc214, kBok_of rfl kTb10_ok kc215, kBok_of rfl kTb10_ok kc216, kBok_of rfl kTb10_ok kc217, kBok_of rfl kTb10_ok kc218, kBok_of rfl kTb10_ok kc219, trivial⟩
theorem kRl11 : kRel kMis11 kBl11 := ⟨kBok_of rfl kTb10_ok kc220, kBok_of rfl kTb10_ok kc221, kBok_of rfl kTb10_ok kc222, kBok_of rfl kTb10_ok kc223, kBok_of rfl kTb10_ok kc224, kBok_of rfl kTb10_ok kc225, kBok_of rfl kTb10_ok kc226, kBok_of rfl kTb10_ok kc227, kBok_of rfl kTb10_ok kc228, kBok_of rfl kTb10_ok kc229, kBok_of rfl kTb10_ok kc230, kBok_of rfl kTb10_ok kc231, kBok_of rfl kTb10_ok kc232, kBok_of rfl kTb10_ok kc233, kBok_of rfl kTb10_ok kc234, kBok_of rfl kTb10_ok kc235, kBok_of rfl kTb10_ok kc236, kBok_of rfl kTb10_ok kc237, kBok_of rfl kTb10_ok kc238, kBok_of rfl kTb10_ok kc239, trivial⟩
theorem kRl12 : kRel kMis12 kBl12 := ⟨kBok_of rfl kTb10_ok kc240, kBok_of rfl kTb10_ok kc241, kBok_of rfl kTb10_ok kc242, kBok_of rfl kTb10_ok kc243, kBok_of rfl kTb10_ok kc244, kBok_of rfl kTb10_ok kc245, kBok_of rfl kTb10_ok kc246, kBok_of rfl kTb10_ok kc247, kBok_of rfl kTb10_ok kc248, kBok_of rfl kTb10_ok kc249, kBok_of rfl kTb10_ok kc250, kBok_of rfl kTb10_ok kc251, kBok_of rfl kTb10_ok kc252, kBok_of rfl kTb10_ok kc253, kBok_of rfl kTb10_ok kc254, kBok_of rfl kTb10_ok kc255, kBok_of rfl kTb10_ok kc256, kBok_of rfl kTb10_ok kc257, kBok_of rfl kTb10_ok kc258, kBok_of rfl kTb10_ok kc259, trivial⟩
theorem kRl13 : kRel kMis13 kBl13 := ⟨kBok_of rfl kTb10_ok kc260, kBok_of rfl kTb10_ok kc261, kBok_of rfl kTb10_ok kc262, kBok_of rfl kTb10_ok kc263, kBok_of rfl kTb10_ok kc264, kBok_of rfl kTb10_ok kc265, kBok_of rfl kTb10_ok kc266, kBok_of rfl kTb10_ok kc267, kBok_of rfl kTb10_ok kc268, kBok_of rfl kTb10_ok kc269, kBok_of rfl kTb10_ok kc270, kBok_of rfl kTb10_ok kc271, kBok_of rfl kTb10_ok kc272, kBok_of rfl kTb10_ok kc273, kBok_of rfl kTb10_ok kc274, kBok_of rfl kTb10_ok kc275, kBok_of rfl kTb10_ok kc276, kBok_of rfl kTb10_ok kc277, kBok_of rfl kTb10_ok kc278, kBok_of rfl kTb10_ok kc279, trivial⟩
theorem kRl14 : kRel kMis14 kBl14 := ⟨kBok_of rfl kTb10_ok kc280, kBok_of rfl kTb10_ok kc281, kBok_of rfl kTb10_ok kc282, kBok_of rfl kTb10_ok kc283, trivial⟩
theorem kRlE : kRel (kMis14 ++ []) (kBl14 ++ kBlX) := kRel_app _ [] _ kBlX rfl kRl14 trivial
theorem kRlL : kRel kMis14 (kBl14 ++ kBlX) := by have h := kRlE; rw [List.append_nil] at h; exact h
theorem kRl : kRel kMis kBls := (kRel_app _ _ _ _ rfl kRl0 (kRel_app _ _ _ _ rfl kRl1 (kRel_app _ _ _ _ rfl kRl2 (kRel_app _ _ _ _ rfl kRl3 (kRel_app _ _ _ _ rfl kRl4 (kRel_app _ _ _ _ rfl kRl5 (kRel_app _ _ _ _ rfl kRl6 (kRel_app _ _ _ _ rfl kRl7 (kRel_app _ _ _ _ rfl kRl8 (kRel_app _ _ _ _ rfl kRl9 (kRel_app _ _ _ _ rfl kRl10 (kRel_app _ _ _ _ rfl kRl11 (kRel_app _ _ _ _ rfl kRl12 (kRel_app _ _ _ _ rfl kRl13 kRlL))))))))))))))
theorem kBlk_ok : ∀ a M, kMi_ a = some M → ∀ t, kOk kTbl kCl kZs kMi_ M t (kBlk a t) := fun a M h t => kRel_get _ _ kRl a M h t
def kMxB : List kMi → List Nat → List (Option Nat) → Bool
  | [], _, _ => true
  | M :: Ms, x :: xs, r :: rs => decide (x = M.2.2.1) && (M.2.2.2.2.2.1 || decide (r = some M.2.2.2.2.2.2)) && kMxB Ms xs rs
  | _ :: _, _, _ => false
theorem kMxB_ok : ∀ (Ms : List kMi) (xs : List Nat) (rs : List (Option Nat)), kMxB Ms xs rs = true → ∀ (a : Nat) (M : kMi), Ms[a]? = some M → xs.getD a 0 = M.2.2.1 ∧ (M.2.2.2.2.2.1 = false → rs.getD a none = some M.2.2.2.2.2.2)
  | [], _, _, _, a, M, h => by simp at h
  | M :: Ms, [], _, h, _, _, _ => by cases h
  | M :: Ms, _ :: _, [], h, _, _, _ => by cases h
  | M :: Ms, x :: xs, r :: rs, h, 0, M', h' => by
    cases h'
    simp only [kMxB, Bool.and_eq_true, Bool.or_eq_true, decide_eq_true_eq] at h
    exact ⟨h.1.1, fun q => h.1.2.elim (fun z => by rw [q] at z; cases z) id⟩
  | M :: Ms, x :: xs, r :: rs, h, a + 1, M', h' => by
    simp only [kMxB, Bool.and_eq_true] at h
    exact kMxB_ok Ms xs rs h.2 a M' h'
theorem kMx_ok : ∀ a M', kMi_ a = some M' → kMx_ a = M'.2.2.1 ∧ (M'.2.2.2.2.2.1 = false → kRc_ a = some M'.2.2.2.2.2.2) := fun a M h => kMxB_ok kMis kMxl kRcl (by decide +kernel) a M h
end
section
/-! THE STORE of class and reference: its shape; a call (zE), a block (zJ) -/
def zInt : Option (Option Nat) := none
def zRef (q : Nat) : Option (Option Nat) := some (some q)
def zDyn : Option (Option Nat) := some none
def zLEAST : List Int := [1, 0, 0, 0, 0, 0, 0, 0, 0, 0, 0, 1, 0]
def zMOST : List Int := [30, 9, 99, 12, 200, 999, 99, 9999, 9999, 9, 12, 4, 999]
def zFIRST : List Int := [1, 0, 99, 0, 0, 0, 10, 0, 9999, 0, 8, 2, 0]
def zABOVE : List Int := [-1, 0, 0, 2, 1, 3, 0, 6]
def zBODY : List Int := [1, 10, 11, 2, 20, 0, 0, 0, 0, 30, 0, 0, 0, 41, 40, 0, 0, 0, 0, 50, 0, 0, 60, 61, 70, 0, 0, 0, 81, 80, 0, 0]
def zSh : List zC := [.inr (9, [zRef 1, zRef 2, zRef 3, zRef 4, zRef 5, zRef 6, zRef 7, zRef 8, zInt, zRef 9, zRef 10]),
  .inr (5, [zRef 11, zInt, zInt, zDyn, zInt, zDyn, zInt, zRef 14, zRef 15]),
  .inr (4, [zRef 1, zRef 16, zRef 17, zInt, zInt]),
  .inr (1, [zRef 18, zRef 19, zRef 20, zInt, zInt]),
  .inr (8, [zRef 2, zRef 21, zRef 22, zRef 23]),
  .inr (6, [zRef 2, zRef 4, zRef 24, zRef 25, zRef 26]),
  .inr (2, [zRef 2, zRef 4, zRef 27, zRef 28, zRef 29]),
  .inr (3, [zRef 30, zRef 31, zRef 32, zInt, zInt, zInt, zInt, zInt]),
  .inr (3, [zRef 33, zRef 34, zRef 35, zInt, zInt, zInt, zInt, zInt]),
  .inr (0, [zRef 36, zInt, zRef 37, zInt]),
  .inr (7, [zRef 38, zRef 39, zRef 40, zRef 41]),
  .inl (0, 120),
  .inl (0, 121),
  .inl (0, 121),
  .inl (0, 121),
  .inl (0, 6),
  .inl (0, 108),
  .inl (0, 16),
  .inl (0, 40),
  .inl (0, 40),
  .inl (0, 40),
  .inl (0, 6),
  .inl (0, 600),
  .inl (0, 6),
  .inl (0, 600),
  .inl (0, 2107),
  .inl (0, 6),
  .inl (0, 16),
  .inl (0, 16),
  .inl (3, 60),
  .inl (0, 6),
  .inl (0, 6),
  .inl (0, 16),
  .inl (0, 6),
  .inl (0, 6),
  .inl (0, 16),
  .inl (0, 50),
  .inl (0, 24),
  .inl (0, 6),
  .inl (0, 6),
  .inl (0, 6),
  .inl (1, 360),
  .inr (10, [zInt, zInt, zRef 43, zRef 44, zRef 45, zRef 46, zInt, zRef 47, zRef 48, zRef 49, zRef 50, zRef 51, zRef 52, zInt, zInt, zInt, zInt, zInt, zInt, zRef 53, zRef 54, zRef 55, zRef 56, zRef 57, zInt, zInt, zInt, zInt, zInt, zRef 58, zRef 59, zRef 60, zRef 61, zRef 62, zRef 63, zRef 64, zInt, zRef 65, zRef 66, zRef 67, zRef 68, zRef 69, zInt, zRef 70, zRef 71, zRef 72, zRef 73, zInt, zRef 74, zRef 75, zRef 76, zInt, zRef 77, zInt, zRef 78, zRef 79, zRef 80, zRef 81, zRef 82]),
  .inl (0, 6),
  .inl (0, 6),
  .inl (0, 6),
  .inl (0, 6),
  .inl (0, 16),
  .inl (0, 16),
  .inl (0, 16),
  .inl (0, 16),
  .inl (0, 16),
  .inl (0, 16),
  .inl (0, 40),
  .inl (0, 40),
  .inl (0, 40),
  .inl (0, 40),
  .inl (2, 120),
  .inl (2, 260),
  .inl (0, 260),
  .inl (0, 2),
  .inl (4, 122),
  .inl (4, 122),
  .inl (0, 6),
  .inl (0, 130),
  .inl (0, 6),
  .inl (0, 2107),
  .inl (0, 2107),
  .inl (0, 2107),
  .inl (0, 16),
  .inl (0, 6),
  .inl (0, 6),
  .inl (0, 16),
  .inl (0, 5),
  .inl (0, 12),
  .inl (0, 16),
  .inl (0, 5),
  .inl (0, 50),
  .inl (0, 24),
  .inl (0, 6),
  .inl (0, 6),
  .inl (1, 360),
  .inl (1, 60)]
def zRo (x : List Int) (q : Nat) : Option (List Int) := cond (Nat.blt q 1000) none ([zLEAST, zMOST, zFIRST, zABOVE, zBODY, x][q - 1000]?)
def zScr (x : List Int) : Prop := ∀ k, zR (x.getD k 0)
theorem zR_list {l : List Int} (h : l.all (fun v => zRb v) = true) (k : Nat) : zR (l.getD k 0) := by
  rw [List.getD_eq_getElem?_getD]
  cases hk : l[k]? with
  | none => exact zR0
  | some v => exact zRb_ok (List.all_eq_true.mp h v (List.mem_of_getElem? hk))
theorem zRo_ok {x : List Int} (hx : zScr x) : ∀ q l, zRo x q = some l → ∀ k, zR (l.getD k 0) := by
  intro q l h k
  unfold zRo at h
  cases hb : Nat.blt q 1000 with
  | true => rw [hb] at h; cases h
  | false =>
    rw [hb, cond_false] at h
    generalize q - 1000 = i at h
    match i, h with
    | 0, h => cases h; exact zR_list (by decide) k
    | 1, h => cases h; exact zR_list (by decide) k
    | 2, h => cases h; exact zR_list (by decide) k
    | 3, h => cases h; exact zR_list (by decide) k
    | 4, h => cases h; exact zR_list (by decide) k
    | 5, h => cases h; exact hx k
    | i + 6, h => cases h
/-- a call, d calls deep at most; a block of a method whose calls are d deep at most -/
def zE (x : List Int) (d : Nat) : zEo := fun m as s Q => zScr x → zSok zSh s → zTok as → zRes zSh (kM (zro (zRo x)) kBlk kMx_ kRc_ d m (as.map zv) (zH s 0 zSh)) Q
def zJ (x : List Int) (d m : Nat) : zJo := fun l lv st s Q => zScr x → zSok zSh s → zLok lv → zTok st → zRes zSh (kD (zro (zRo x)) kBlk kMx_ kRc_ (d + 1) m l (zM lv) (st.map zv) (zH s 0 zSh)) Q
section ZRun
variable {x : List Int} {d m l : Nat} {lv : zL} {st as : List zV} {s : zSt} {Q Q' : zQ}
theorem zJ_of {b : List kIt} (hb : kBlk m l = b) (h : zX zSh (zRo x) (zE x d) (zJ x d m) b lv st s Q) : zJ x d m l lv st s Q := by
  intro hx hs hl ht
  rw [kD_eq, hb]
  exact zX_ok (zRo_ok hx) (fun m as s Q h hs ha => h hx hs ha) (fun t lv st s Q h hs hl ht => h hx hs hl ht) b lv st s Q h hs hl ht
def zRc (o : Option Nat) (as : List zV) : Bool := match o with
  | none => true
  | some ci => match as with
    | .inr (.inl q) :: _ => (match zSh[q]? with
      | some (.inr o) => Nat.beq o.1 ci
      | _ => false)
    | _ => false
theorem zRc_ok {o : Option Nat} (h : zRc o as = true) : kRc o (as.map zv) (zH s 0 zSh) = true := by
  unfold zRc at h
  unfold kRc
  cases o with
  | none => rfl
  | some ci =>
    dsimp only at h ⊢
    split at h
    · rename_i q r
      split at h
      · rename_i o ho
        have ha : o.1 = ci := Nat.eq_of_beq_eq_true h
        show (kObj (zH s 0 zSh) q ci).isSome = true
        rw [kObj_zH (ss := o.2) (by rw [ho, ← ha])]
        rfl
      · cases h
    · cases h
theorem zE_of {n : Nat} (hn : kMx_ m = n) (h1 : kEnt n (as.map zv) = zM lv) (h2 : lv.length = n) (h3 : zRc (kRc_ m) as = true) (h4 : zLok lv ∨ zTok as → zLok lv) (h : zJ x d m 0 lv [] s Q) : zE x (d + 1) m as s Q := by
  intro hx hs ha
  unfold kM kMof
  rw [hn, h1, if_pos ⟨by rw [zM_len, h2], zRc_ok h3⟩]
  exact h hx hs (h4 (Or.inr ha)) zTok_nil
theorem zRes_mono {o : Option kR} (h : zRes zSh o Q) (hQ : ∀ r s, Q r s → Q' r s) : zRes zSh o Q' := by
  obtain ⟨r, s', h1, h2, h3, h4⟩ := h
  exact ⟨r, s', h1, h2, h3, hQ _ _ h4⟩
theorem zE_mono (h : zE x d m as s Q) (hQ : ∀ r s, Q r s → Q' r s) : zE x d m as s Q' := fun a b c => zRes_mono (h a b c) hQ
theorem zJ_mono (h : zJ x d m l lv st s Q) (hQ : ∀ r s, Q r s → Q' r s) : zJ x d m l lv st s Q' := fun a b c e => zRes_mono (h a b c e) hQ
theorem zJ_ok (h : zSok zSh s → zLok lv → zTok st → zJ x d m l lv st s Q) : zJ x d m l lv st s Q := fun a b c e => h b c e a b c e
theorem zE_ok (h : zSok zSh s → zTok as → zE x d m as s Q) : zE x d m as s Q := fun a b c => h b c a b c
theorem zE_inR (h : zE x d m as s Q) : zE x d m as s (fun r s' => zSok zSh s' ∧ (∀ v, r = some v → zVok v) ∧ Q r s') := fun a b c => by
  obtain ⟨r, s', h1, h2, h3, h4⟩ := h a b c
  exact ⟨r, s', h1, h2, h3, h2, h3, h4⟩
theorem zJ_inR (h : zJ x d m l lv st s Q) : zJ x d m l lv st s (fun r s' => zSok zSh s' ∧ (∀ v, r = some v → zVok v) ∧ Q r s') := fun a b c e => by
  obtain ⟨r, s', h1, h2, h3, h4⟩ := h a b c e
  exact ⟨r, s', h1, h2, h3, h2, h3, h4⟩
theorem zQi {r : Option zV} {v w : Int} (h : Q (some (.inl v)) s) (e : v = w) : Q (some (.inl w)) s := e ▸ h
theorem zQs {r : Option zV} {s' : zSt} (h : Q r s) (e : s = s') : Q r s' := e ▸ h
theorem kX_upE {ro : kRo} {blk : Nat → Nat → List kIt} {E E' : kEo} (hE : ∀ m as hp r, E m as hp = some r → E' m as hp = some r) (m : Nat) : ∀ (n l : Nat) (lv : kL) (st : List Value) (hp : kH) (r : kR), kG ro blk E m n l lv st hp = some r → kG ro blk E' m n l lv st hp = some r
  | 0, _, _, _, _, _, h => by cases h
  | n + 1, l, lv, st, hp, r, h => kX_mono hE (kX_upE hE m n) _ _ _ _ _ h
theorem kM_up {ro : kRo} {blk : Nat → Nat → List kIt} {mx : Nat → Nat} {rc : Nat → Option Nat} : ∀ (d m : Nat) (as : List Value) (hp : kH) (r : kR), kM ro blk mx rc d m as hp = some r → kM ro blk mx rc (d + 1) m as hp = some r
  | 0, m, as, hp, r, h => by
    unfold kM kMof at h
    split at h <;> cases h
  | d + 1, m, as, hp, r, h => by
    unfold kM kMof at h ⊢
    split at h
    · rename_i hc
      rw [if_pos hc]
      obtain ⟨n, hn⟩ := kU_iff.mp h
      exact kU_iff.mpr ⟨n, kX_upE (fun m as hp r => kM_up d m as hp r) m n _ _ _ _ _ hn⟩
    · cases h
theorem zE_up (h : zE x d m as s Q) : zE x (d + 1) m as s Q := fun a b c => by
  obtain ⟨r, s', h1, h2⟩ := h a b c
  exact ⟨r, s', kM_up _ _ _ _ _ h1, h2⟩
theorem zE_le {d' : Nat} (h : zE x d m as s Q) (hd : d ≤ d') : zE x d' m as s Q := by
  obtain ⟨k, rfl⟩ := Nat.le.dest hd
  clear hd
  induction k with
  | zero => exact h
  | succ k ih => exact zE_up ih
end ZRun
theorem zLok_nil : zLok [] := fun _ h => by cases h
theorem zLok_some {v : zV} {lv : zL} (h1 : zVok v) (h2 : zLok lv) : zLok (some v :: lv) := fun w hw => by
  rcases List.mem_cons.mp hw with h | h
  · cases h; exact h1
  · exact h2 w h
theorem zLok_none {lv : zL} (h2 : zLok lv) : zLok (none :: lv) := fun w hw => by
  rcases List.mem_cons.mp hw with h | h
  · cases h
  · exact h2 w h
end
