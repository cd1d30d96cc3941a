section
-- ===== PART A: goes FIRST, ahead of the names: the tables' words, and 'selects' of the private methods out of them =====
/-- a private method of a class that the tables say can be made, by its rows of tables_1 -/
def lw_okq (q : MethodName × Nat) : Prop := (q.1.cls ≠ "java/lang/invoke/MethodHandle" ∧ q.1.cls ≠ "java/lang/invoke/VarHandle") ∧ Cond.instantiable q.1.cls q.2 ∈ tables_1 ∧ Cond.privateMethod q.1 ∈ tables_1 ∧ Cond.instanceMethod q.1 ∈ tables_1
theorem lw_p0 : lw_okq (⟨"PennyALap", "sponsorsFromRow", "(III)I"⟩, 11) := ⟨⟨by decide +kernel, by decide +kernel⟩, List.mem_of_getElem? (i := 15) (by decide +kernel), List.mem_of_getElem? (i := 328) (by decide +kernel), List.mem_of_getElem? (i := 329) (by decide +kernel)⟩
theorem lw_p1 : lw_okq (⟨"PennyALap$Shelves", "isPlace", "(II)Z"⟩, 4) := ⟨⟨by decide +kernel, by decide +kernel⟩, List.mem_of_getElem? (i := 219) (by decide +kernel), List.mem_of_getElem? (i := 344) (by decide +kernel), List.mem_of_getElem? (i := 345) (by decide +kernel)⟩
theorem lw_p2 : lw_okq (⟨"PennyALap$Changes", "forgetOldest", "()V"⟩, 5) := ⟨⟨by decide +kernel, by decide +kernel⟩, List.mem_of_getElem? (i := 82) (by decide +kernel), List.mem_of_getElem? (i := 362) (by decide +kernel), List.mem_of_getElem? (i := 363) (by decide +kernel)⟩
theorem lw_p3 : lw_okq (⟨"PennyALap$Law", "readLines", "()I"⟩, 9) := ⟨⟨by decide +kernel, by decide +kernel⟩, List.mem_of_getElem? (i := 23) (by decide +kernel), List.mem_of_getElem? (i := 411) (by decide +kernel), List.mem_of_getElem? (i := 412) (by decide +kernel)⟩
theorem lw_p4 : lw_okq (⟨"PennyALap$Law", "readLine", "()Z"⟩, 9) := ⟨⟨by decide +kernel, by decide +kernel⟩, List.mem_of_getElem? (i := 23) (by decide +kernel), List.mem_of_getElem? (i := 415) (by decide +kernel), List.mem_of_getElem? (i := 416) (by decide +kernel)⟩
theorem lw_p5 : lw_okq (⟨"PennyALap$Law", "readJoined", "(II)Z"⟩, 9) := ⟨⟨by decide +kernel, by decide +kernel⟩, List.mem_of_getElem? (i := 23) (by decide +kernel), List.mem_of_getElem? (i := 419) (by decide +kernel), List.mem_of_getElem? (i := 420) (by decide +kernel)⟩
theorem lw_p6 : lw_okq (⟨"PennyALap$Law", "readOperand", "(I)Z"⟩, 9) := ⟨⟨by decide +kernel, by decide +kernel⟩, List.mem_of_getElem? (i := 23) (by decide +kernel), List.mem_of_getElem? (i := 423) (by decide +kernel), List.mem_of_getElem? (i := 424) (by decide +kernel)⟩
theorem lw_p7 : lw_okq (⟨"PennyALap$Law", "sign", "()I"⟩, 9) := ⟨⟨by decide +kernel, by decide +kernel⟩, List.mem_of_getElem? (i := 23) (by decide +kernel), List.mem_of_getElem? (i := 427) (by decide +kernel), List.mem_of_getElem? (i := 428) (by decide +kernel)⟩
theorem lw_p8 : lw_okq (⟨"PennyALap$Law", "readNumber", "()V"⟩, 9) := ⟨⟨by decide +kernel, by decide +kernel⟩, List.mem_of_getElem? (i := 23) (by decide +kernel), List.mem_of_getElem? (i := 434) (by decide +kernel), List.mem_of_getElem? (i := 435) (by decide +kernel)⟩
theorem lw_p9 : lw_okq (⟨"PennyALap$Law", "write", "(I)V"⟩, 9) := ⟨⟨by decide +kernel, by decide +kernel⟩, List.mem_of_getElem? (i := 23) (by decide +kernel), List.mem_of_getElem? (i := 438) (by decide +kernel), List.mem_of_getElem? (i := 439) (by decide +kernel)⟩
theorem lw_p10 : lw_okq (⟨"PennyALap$Law", "readClosing", "()Z"⟩, 9) := ⟨⟨by decide +kernel, by decide +kernel⟩, List.mem_of_getElem? (i := 23) (by decide +kernel), List.mem_of_getElem? (i := 445) (by decide +kernel), List.mem_of_getElem? (i := 446) (by decide +kernel)⟩
theorem lw_p11 : lw_okq (⟨"PennyALap$Plan", "weigh", "(I)V"⟩, 5) := ⟨⟨by decide +kernel, by decide +kernel⟩, List.mem_of_getElem? (i := 124) (by decide +kernel), List.mem_of_getElem? (i := 646) (by decide +kernel), List.mem_of_getElem? (i := 647) (by decide +kernel)⟩
theorem lw_p12 : lw_okq (⟨"PennyALap$Plan", "bestOf", "(II)I"⟩, 5) := ⟨⟨by decide +kernel, by decide +kernel⟩, List.mem_of_getElem? (i := 124) (by decide +kernel), List.mem_of_getElem? (i := 656) (by decide +kernel), List.mem_of_getElem? (i := 657) (by decide +kernel)⟩
theorem lw_p13 : lw_okq (⟨"PennyALap$Plan", "choose", "(I)V"⟩, 5) := ⟨⟨by decide +kernel, by decide +kernel⟩, List.mem_of_getElem? (i := 124) (by decide +kernel), List.mem_of_getElem? (i := 661) (by decide +kernel), List.mem_of_getElem? (i := 662) (by decide +kernel)⟩
theorem lw_p14 : lw_okq (⟨"PennyALap$Plan", "worthWith", "(III)I"⟩, 5) := ⟨⟨by decide +kernel, by decide +kernel⟩, List.mem_of_getElem? (i := 124) (by decide +kernel), List.mem_of_getElem? (i := 665) (by decide +kernel), List.mem_of_getElem? (i := 666) (by decide +kernel)⟩
theorem lw_p15 : lw_okq (⟨"PennyALap", "readReminders", "(II)V"⟩, 11) := ⟨⟨by decide +kernel, by decide +kernel⟩, List.mem_of_getElem? (i := 15) (by decide +kernel), List.mem_of_getElem? (i := 686) (by decide +kernel), List.mem_of_getElem? (i := 687) (by decide +kernel)⟩
def lw_privs_1 : List (MethodName × Nat) := [(⟨"PennyALap", "sponsorsFromRow", "(III)I"⟩, 11), (⟨"PennyALap$Shelves", "isPlace", "(II)Z"⟩, 4), (⟨"PennyALap$Changes", "forgetOldest", "()V"⟩, 5), (⟨"PennyALap$Law", "readLines", "()I"⟩, 9), (⟨"PennyALap$Law", "readLine", "()Z"⟩, 9), (⟨"PennyALap$Law", "readJoined", "(II)Z"⟩, 9), (⟨"PennyALap$Law", "readOperand", "(I)Z"⟩, 9), (⟨"PennyALap$Law", "sign", "()I"⟩, 9), (⟨"PennyALap$Law", "readNumber", "()V"⟩, 9), (⟨"PennyALap$Law", "write", "(I)V"⟩, 9), (⟨"PennyALap$Law", "readClosing", "()Z"⟩, 9), (⟨"PennyALap$Plan", "weigh", "(I)V"⟩, 5), (⟨"PennyALap$Plan", "bestOf", "(II)I"⟩, 5), (⟨"PennyALap$Plan", "choose", "(I)V"⟩, 5), (⟨"PennyALap$Plan", "worthWith", "(III)I"⟩, 5), (⟨"PennyALap", "readReminders", "(II)V"⟩, 11)]
theorem lw_r1 : ∀ q ∈ lw_privs_1, lw_okq q := List.forall_mem_cons.mpr ⟨lw_p0, List.forall_mem_cons.mpr ⟨lw_p1, List.forall_mem_cons.mpr ⟨lw_p2, List.forall_mem_cons.mpr ⟨lw_p3, List.forall_mem_cons.mpr ⟨lw_p4, List.forall_mem_cons.mpr ⟨lw_p5, List.forall_mem_cons.mpr ⟨lw_p6, List.forall_mem_cons.mpr ⟨lw_p7, List.forall_mem_cons.mpr ⟨lw_p8, List.forall_mem_cons.mpr ⟨lw_p9, List.forall_mem_cons.mpr ⟨lw_p10, List.forall_mem_cons.mpr ⟨lw_p11, List.forall_mem_cons.mpr ⟨lw_p12, List.forall_mem_cons.mpr ⟨lw_p13, List.forall_mem_cons.mpr ⟨lw_p14, List.forall_mem_cons.mpr ⟨lw_p15, fun _ h => absurd h List.not_mem_nil⟩⟩⟩⟩⟩⟩⟩⟩⟩⟩⟩⟩⟩⟩⟩⟩
theorem lw_p16 : lw_okq (⟨"PennyALap$Coming", "startWeeks", "()V"⟩, 5) := ⟨⟨by decide +kernel, by decide +kernel⟩, List.mem_of_getElem? (i := 146) (by decide +kernel), List.mem_of_getElem? (i := 706) (by decide +kernel), List.mem_of_getElem? (i := 707) (by decide +kernel)⟩
theorem lw_p17 : lw_okq (⟨"PennyALap$Coming", "comesIn", "(Z)I"⟩, 5) := ⟨⟨by decide +kernel, by decide +kernel⟩, List.mem_of_getElem? (i := 146) (by decide +kernel), List.mem_of_getElem? (i := 710) (by decide +kernel), List.mem_of_getElem? (i := 711) (by decide +kernel)⟩
theorem lw_p18 : lw_okq (⟨"PennyALap", "firstAmiss", "(I)I"⟩, 11) := ⟨⟨by decide +kernel, by decide +kernel⟩, List.mem_of_getElem? (i := 15) (by decide +kernel), List.mem_of_getElem? (i := 738) (by decide +kernel), List.mem_of_getElem? (i := 739) (by decide +kernel)⟩
theorem lw_p19 : lw_okq (⟨"PennyALap", "cheats", "(III)Z"⟩, 11) := ⟨⟨by decide +kernel, by decide +kernel⟩, List.mem_of_getElem? (i := 15) (by decide +kernel), List.mem_of_getElem? (i := 761) (by decide +kernel), List.mem_of_getElem? (i := 762) (by decide +kernel)⟩
theorem lw_p20 : lw_okq (⟨"PennyALap", "lapsSaid", "(II)I"⟩, 11) := ⟨⟨by decide +kernel, by decide +kernel⟩, List.mem_of_getElem? (i := 15) (by decide +kernel), List.mem_of_getElem? (i := 765) (by decide +kernel), List.mem_of_getElem? (i := 766) (by decide +kernel)⟩
theorem lw_p21 : lw_okq (⟨"PennyALap$Thought", "drawLaps", "(III)I"⟩, 4) := ⟨⟨by decide +kernel, by decide +kernel⟩, List.mem_of_getElem? (i := 104) (by decide +kernel), List.mem_of_getElem? (i := 778) (by decide +kernel), List.mem_of_getElem? (i := 779) (by decide +kernel)⟩
theorem lw_p22 : lw_okq (⟨"PennyALap$Bodies", "own", "(IIII)I"⟩, 4) := ⟨⟨by decide +kernel, by decide +kernel⟩, List.mem_of_getElem? (i := 200) (by decide +kernel), List.mem_of_getElem? (i := 891) (by decide +kernel), List.mem_of_getElem? (i := 892) (by decide +kernel)⟩
theorem lw_p23 : lw_okq (⟨"PennyALap$Bodies", "from", "(IIIII)I"⟩, 4) := ⟨⟨by decide +kernel, by decide +kernel⟩, List.mem_of_getElem? (i := 200) (by decide +kernel), List.mem_of_getElem? (i := 899) (by decide +kernel), List.mem_of_getElem? (i := 900) (by decide +kernel)⟩
theorem lw_p24 : lw_okq (⟨"PennyALap$Bodies", "perform", "(IIII)I"⟩, 4) := ⟨⟨by decide +kernel, by decide +kernel⟩, List.mem_of_getElem? (i := 200) (by decide +kernel), List.mem_of_getElem? (i := 908) (by decide +kernel), List.mem_of_getElem? (i := 909) (by decide +kernel)⟩
theorem lw_p25 : lw_okq (⟨"PennyALap$Bodies", "higher", "(IIIII)I"⟩, 4) := ⟨⟨by decide +kernel, by decide +kernel⟩, List.mem_of_getElem? (i := 200) (by decide +kernel), List.mem_of_getElem? (i := 912) (by decide +kernel), List.mem_of_getElem? (i := 913) (by decide +kernel)⟩
theorem lw_p26 : lw_okq (⟨"PennyALapModel", "isChild", "(I)Z"⟩, 59) := ⟨⟨by decide +kernel, by decide +kernel⟩, List.mem_of_getElem? (i := 1018) (by decide +kernel), List.mem_of_getElem? (i := 1214) (by decide +kernel), List.mem_of_getElem? (i := 1215) (by decide +kernel)⟩
theorem lw_p27 : lw_okq (⟨"PennyALapModel", "addSponsor", "(III)I"⟩, 59) := ⟨⟨by decide +kernel, by decide +kernel⟩, List.mem_of_getElem? (i := 1018) (by decide +kernel), List.mem_of_getElem? (i := 1218) (by decide +kernel), List.mem_of_getElem? (i := 1219) (by decide +kernel)⟩
theorem lw_p28 : lw_okq (⟨"PennyALapModel", "lays", "(III)V"⟩, 59) := ⟨⟨by decide +kernel, by decide +kernel⟩, List.mem_of_getElem? (i := 1018) (by decide +kernel), List.mem_of_getElem? (i := 1234) (by decide +kernel), List.mem_of_getElem? (i := 1235) (by decide +kernel)⟩
theorem lw_p29 : lw_okq (⟨"PennyALapModel", "isOne", "(II)Z"⟩, 59) := ⟨⟨by decide +kernel, by decide +kernel⟩, List.mem_of_getElem? (i := 1018) (by decide +kernel), List.mem_of_getElem? (i := 1246) (by decide +kernel), List.mem_of_getElem? (i := 1247) (by decide +kernel)⟩
theorem lw_p30 : lw_okq (⟨"PennyALapModel", "isSponsor", "(I)Z"⟩, 59) := ⟨⟨by decide +kernel, by decide +kernel⟩, List.mem_of_getElem? (i := 1018) (by decide +kernel), List.mem_of_getElem? (i := 1250) (by decide +kernel), List.mem_of_getElem? (i := 1251) (by decide +kernel)⟩
theorem lw_p31 : lw_okq (⟨"PennyALapModel", "changes", "(III)I"⟩, 59) := ⟨⟨by decide +kernel, by decide +kernel⟩, List.mem_of_getElem? (i := 1018) (by decide +kernel), List.mem_of_getElem? (i := 1257) (by decide +kernel), List.mem_of_getElem? (i := 1258) (by decide +kernel)⟩
def lw_privs_2 : List (MethodName × Nat) := [(⟨"PennyALap$Coming", "startWeeks", "()V"⟩, 5), (⟨"PennyALap$Coming", "comesIn", "(Z)I"⟩, 5), (⟨"PennyALap", "firstAmiss", "(I)I"⟩, 11), (⟨"PennyALap", "cheats", "(III)Z"⟩, 11), (⟨"PennyALap", "lapsSaid", "(II)I"⟩, 11), (⟨"PennyALap$Thought", "drawLaps", "(III)I"⟩, 4), (⟨"PennyALap$Bodies", "own", "(IIII)I"⟩, 4), (⟨"PennyALap$Bodies", "from", "(IIIII)I"⟩, 4), (⟨"PennyALap$Bodies", "perform", "(IIII)I"⟩, 4), (⟨"PennyALap$Bodies", "higher", "(IIIII)I"⟩, 4), (⟨"PennyALapModel", "isChild", "(I)Z"⟩, 59), (⟨"PennyALapModel", "addSponsor", "(III)I"⟩, 59), (⟨"PennyALapModel", "lays", "(III)V"⟩, 59), (⟨"PennyALapModel", "isOne", "(II)Z"⟩, 59), (⟨"PennyALapModel", "isSponsor", "(I)Z"⟩, 59), (⟨"PennyALapModel", "changes", "(III)I"⟩, 59)]
theorem lw_r2 : ∀ q ∈ lw_privs_2, lw_okq q := List.forall_mem_cons.mpr ⟨lw_p16, List.forall_mem_cons.mpr ⟨lw_p17, List.forall_mem_cons.mpr ⟨lw_p18, List.forall_mem_cons.mpr ⟨lw_p19, List.forall_mem_cons.mpr ⟨lw_p20, List.forall_mem_cons.mpr ⟨lw_p21, List.forall_mem_cons.mpr ⟨lw_p22, List.forall_mem_cons.mpr ⟨lw_p23, List.forall_mem_cons.mpr ⟨lw_p24, List.forall_mem_cons.mpr ⟨lw_p25, List.forall_mem_cons.mpr ⟨lw_p26, List.forall_mem_cons.mpr ⟨lw_p27, List.forall_mem_cons.mpr ⟨lw_p28, List.forall_mem_cons.mpr ⟨lw_p29, List.forall_mem_cons.mpr ⟨lw_p30, List.forall_mem_cons.mpr ⟨lw_p31, fun _ h => absurd h List.not_mem_nil⟩⟩⟩⟩⟩⟩⟩⟩⟩⟩⟩⟩⟩⟩⟩⟩
theorem lw_p32 : lw_okq (⟨"PennyALapModel", "valueAt", "(II)I"⟩, 59) := ⟨⟨by decide +kernel, by decide +kernel⟩, List.mem_of_getElem? (i := 1018) (by decide +kernel), List.mem_of_getElem? (i := 1261) (by decide +kernel), List.mem_of_getElem? (i := 1262) (by decide +kernel)⟩
theorem lw_p33 : lw_okq (⟨"PennyALapModel", "readText", "(I)I"⟩, 59) := ⟨⟨by decide +kernel, by decide +kernel⟩, List.mem_of_getElem? (i := 1018) (by decide +kernel), List.mem_of_getElem? (i := 1277) (by decide +kernel), List.mem_of_getElem? (i := 1278) (by decide +kernel)⟩
theorem lw_p34 : lw_okq (⟨"PennyALapModel", "line", "()V"⟩, 59) := ⟨⟨by decide +kernel, by decide +kernel⟩, List.mem_of_getElem? (i := 1018) (by decide +kernel), List.mem_of_getElem? (i := 1281) (by decide +kernel), List.mem_of_getElem? (i := 1282) (by decide +kernel)⟩
theorem lw_p35 : lw_okq (⟨"PennyALapModel", "either", "()V"⟩, 59) := ⟨⟨by decide +kernel, by decide +kernel⟩, List.mem_of_getElem? (i := 1018) (by decide +kernel), List.mem_of_getElem? (i := 1285) (by decide +kernel), List.mem_of_getElem? (i := 1286) (by decide +kernel)⟩
theorem lw_p36 : lw_okq (⟨"PennyALapModel", "both", "()V"⟩, 59) := ⟨⟨by decide +kernel, by decide +kernel⟩, List.mem_of_getElem? (i := 1018) (by decide +kernel), List.mem_of_getElem? (i := 1289) (by decide +kernel), List.mem_of_getElem? (i := 1290) (by decide +kernel)⟩
theorem lw_p37 : lw_okq (⟨"PennyALapModel", "compared", "()V"⟩, 59) := ⟨⟨by decide +kernel, by decide +kernel⟩, List.mem_of_getElem? (i := 1018) (by decide +kernel), List.mem_of_getElem? (i := 1293) (by decide +kernel), List.mem_of_getElem? (i := 1294) (by decide +kernel)⟩
theorem lw_p38 : lw_okq (⟨"PennyALapModel", "sum", "()V"⟩, 59) := ⟨⟨by decide +kernel, by decide +kernel⟩, List.mem_of_getElem? (i := 1018) (by decide +kernel), List.mem_of_getElem? (i := 1297) (by decide +kernel), List.mem_of_getElem? (i := 1298) (by decide +kernel)⟩
theorem lw_p39 : lw_okq (⟨"PennyALapModel", "product", "()V"⟩, 59) := ⟨⟨by decide +kernel, by decide +kernel⟩, List.mem_of_getElem? (i := 1018) (by decide +kernel), List.mem_of_getElem? (i := 1301) (by decide +kernel), List.mem_of_getElem? (i := 1302) (by decide +kernel)⟩
theorem lw_p40 : lw_okq (⟨"PennyALapModel", "operand", "()V"⟩, 59) := ⟨⟨by decide +kernel, by decide +kernel⟩, List.mem_of_getElem? (i := 1018) (by decide +kernel), List.mem_of_getElem? (i := 1305) (by decide +kernel), List.mem_of_getElem? (i := 1306) (by decide +kernel)⟩
theorem lw_p41 : lw_okq (⟨"PennyALapModel", "look", "()I"⟩, 59) := ⟨⟨by decide +kernel, by decide +kernel⟩, List.mem_of_getElem? (i := 1018) (by decide +kernel), List.mem_of_getElem? (i := 1309) (by decide +kernel), List.mem_of_getElem? (i := 1310) (by decide +kernel)⟩
theorem lw_p42 : lw_okq (⟨"PennyALapModel", "addStep", "(II)V"⟩, 59) := ⟨⟨by decide +kernel, by decide +kernel⟩, List.mem_of_getElem? (i := 1018) (by decide +kernel), List.mem_of_getElem? (i := 1316) (by decide +kernel), List.mem_of_getElem? (i := 1317) (by decide +kernel)⟩
theorem lw_p43 : lw_okq (⟨"PennyALapModel", "opens", "()Z"⟩, 59) := ⟨⟨by decide +kernel, by decide +kernel⟩, List.mem_of_getElem? (i := 1018) (by decide +kernel), List.mem_of_getElem? (i := 1320) (by decide +kernel), List.mem_of_getElem? (i := 1321) (by decide +kernel)⟩
theorem lw_p44 : lw_okq (⟨"PennyALapModel", "wrong", "()V"⟩, 59) := ⟨⟨by decide +kernel, by decide +kernel⟩, List.mem_of_getElem? (i := 1018) (by decide +kernel), List.mem_of_getElem? (i := 1324) (by decide +kernel), List.mem_of_getElem? (i := 1325) (by decide +kernel)⟩
theorem lw_p45 : lw_okq (⟨"PennyALapModel", "figure", "()V"⟩, 59) := ⟨⟨by decide +kernel, by decide +kernel⟩, List.mem_of_getElem? (i := 1018) (by decide +kernel), List.mem_of_getElem? (i := 1328) (by decide +kernel), List.mem_of_getElem? (i := 1329) (by decide +kernel)⟩
theorem lw_p46 : lw_okq (⟨"PennyALapModel", "lapOf", "(III)I"⟩, 59) := ⟨⟨by decide +kernel, by decide +kernel⟩, List.mem_of_getElem? (i := 1018) (by decide +kernel), List.mem_of_getElem? (i := 1336) (by decide +kernel), List.mem_of_getElem? (i := 1337) (by decide +kernel)⟩
theorem lw_p47 : lw_okq (⟨"PennyALapModel", "gives", "(I)I"⟩, 59) := ⟨⟨by decide +kernel, by decide +kernel⟩, List.mem_of_getElem? (i := 1018) (by decide +kernel), List.mem_of_getElem? (i := 1340) (by decide +kernel), List.mem_of_getElem? (i := 1341) (by decide +kernel)⟩
def lw_privs_3 : List (MethodName × Nat) := [(⟨"PennyALapModel", "valueAt", "(II)I"⟩, 59), (⟨"PennyALapModel", "readText", "(I)I"⟩, 59), (⟨"PennyALapModel", "line", "()V"⟩, 59), (⟨"PennyALapModel", "either", "()V"⟩, 59), (⟨"PennyALapModel", "both", "()V"⟩, 59), (⟨"PennyALapModel", "compared", "()V"⟩, 59), (⟨"PennyALapModel", "sum", "()V"⟩, 59), (⟨"PennyALapModel", "product", "()V"⟩, 59), (⟨"PennyALapModel", "operand", "()V"⟩, 59), (⟨"PennyALapModel", "look", "()I"⟩, 59), (⟨"PennyALapModel", "addStep", "(II)V"⟩, 59), (⟨"PennyALapModel", "opens", "()Z"⟩, 59), (⟨"PennyALapModel", "wrong", "()V"⟩, 59), (⟨"PennyALapModel", "figure", "()V"⟩, 59), (⟨"PennyALapModel", "lapOf", "(III)I"⟩, 59), (⟨"PennyALapModel", "gives", "(I)I"⟩, 59)]
theorem lw_r3 : ∀ q ∈ lw_privs_3, lw_okq q := List.forall_mem_cons.mpr ⟨lw_p32, List.forall_mem_cons.mpr ⟨lw_p33, List.forall_mem_cons.mpr ⟨lw_p34, List.forall_mem_cons.mpr ⟨lw_p35, List.forall_mem_cons.mpr ⟨lw_p36, List.forall_mem_cons.mpr ⟨lw_p37, List.forall_mem_cons.mpr ⟨lw_p38, List.forall_mem_cons.mpr ⟨lw_p39, List.forall_mem_cons.mpr ⟨lw_p40, List.forall_mem_cons.mpr ⟨lw_p41, List.forall_mem_cons.mpr ⟨lw_p42, List.forall_mem_cons.mpr ⟨lw_p43, List.forall_mem_cons.mpr ⟨lw_p44, List.forall_mem_cons.mpr ⟨lw_p45, List.forall_mem_cons.mpr ⟨lw_p46, List.forall_mem_cons.mpr ⟨lw_p47, fun _ h => absurd h List.not_mem_nil⟩⟩⟩⟩⟩⟩⟩⟩⟩⟩⟩⟩⟩⟩⟩⟩
theorem lw_p48 : lw_okq (⟨"PennyALapModel", "worked", "(III)I"⟩, 59) := ⟨⟨by decide +kernel, by decide +kernel⟩, List.mem_of_getElem? (i := 1018) (by decide +kernel), List.mem_of_getElem? (i := 1344) (by decide +kernel), List.mem_of_getElem? (i := 1345) (by decide +kernel)⟩
theorem lw_p49 : lw_okq (⟨"PennyALapModel", "minutesOf", "(II)I"⟩, 59) := ⟨⟨by decide +kernel, by decide +kernel⟩, List.mem_of_getElem? (i := 1018) (by decide +kernel), List.mem_of_getElem? (i := 1355) (by decide +kernel), List.mem_of_getElem? (i := 1356) (by decide +kernel)⟩
theorem lw_p50 : lw_okq (⟨"PennyALapModel", "owesOf", "(II)I"⟩, 59) := ⟨⟨by decide +kernel, by decide +kernel⟩, List.mem_of_getElem? (i := 1018) (by decide +kernel), List.mem_of_getElem? (i := 1363) (by decide +kernel), List.mem_of_getElem? (i := 1364) (by decide +kernel)⟩
theorem lw_p51 : lw_okq (⟨"PennyALapModel", "plainOf", "(II)I"⟩, 59) := ⟨⟨by decide +kernel, by decide +kernel⟩, List.mem_of_getElem? (i := 1018) (by decide +kernel), List.mem_of_getElem? (i := 1367) (by decide +kernel), List.mem_of_getElem? (i := 1368) (by decide +kernel)⟩
theorem lw_p52 : lw_okq (⟨"PennyALapModel", "paysOf", "(II)I"⟩, 59) := ⟨⟨by decide +kernel, by decide +kernel⟩, List.mem_of_getElem? (i := 1018) (by decide +kernel), List.mem_of_getElem? (i := 1371) (by decide +kernel), List.mem_of_getElem? (i := 1372) (by decide +kernel)⟩
theorem lw_p53 : lw_okq (⟨"PennyALapModel", "goTo", "(I)V"⟩, 59) := ⟨⟨by decide +kernel, by decide +kernel⟩, List.mem_of_getElem? (i := 1018) (by decide +kernel), List.mem_of_getElem? (i := 1382) (by decide +kernel), List.mem_of_getElem? (i := 1383) (by decide +kernel)⟩
theorem lw_p54 : lw_okq (⟨"PennyALapModel", "lapsBy", "(II)I"⟩, 59) := ⟨⟨by decide +kernel, by decide +kernel⟩, List.mem_of_getElem? (i := 1018) (by decide +kernel), List.mem_of_getElem? (i := 1386) (by decide +kernel), List.mem_of_getElem? (i := 1387) (by decide +kernel)⟩
theorem lw_p55 : lw_okq (⟨"PennyALapModel", "owedTo", "(II)I"⟩, 59) := ⟨⟨by decide +kernel, by decide +kernel⟩, List.mem_of_getElem? (i := 1018) (by decide +kernel), List.mem_of_getElem? (i := 1390) (by decide +kernel), List.mem_of_getElem? (i := 1391) (by decide +kernel)⟩
theorem lw_p56 : lw_okq (⟨"PennyALapModel", "paidTo", "(II)I"⟩, 59) := ⟨⟨by decide +kernel, by decide +kernel⟩, List.mem_of_getElem? (i := 1018) (by decide +kernel), List.mem_of_getElem? (i := 1394) (by decide +kernel), List.mem_of_getElem? (i := 1395) (by decide +kernel)⟩
theorem lw_p57 : lw_okq (⟨"PennyALapModel", "lapsAll", "()I"⟩, 59) := ⟨⟨by decide +kernel, by decide +kernel⟩, List.mem_of_getElem? (i := 1018) (by decide +kernel), List.mem_of_getElem? (i := 1398) (by decide +kernel), List.mem_of_getElem? (i := 1399) (by decide +kernel)⟩
theorem lw_p58 : lw_okq (⟨"PennyALapModel", "paidAll", "()I"⟩, 59) := ⟨⟨by decide +kernel, by decide +kernel⟩, List.mem_of_getElem? (i := 1018) (by decide +kernel), List.mem_of_getElem? (i := 1402) (by decide +kernel), List.mem_of_getElem? (i := 1403) (by decide +kernel)⟩
theorem lw_p59 : lw_okq (⟨"PennyALapModel", "mostLaps", "()I"⟩, 59) := ⟨⟨by decide +kernel, by decide +kernel⟩, List.mem_of_getElem? (i := 1018) (by decide +kernel), List.mem_of_getElem? (i := 1406) (by decide +kernel), List.mem_of_getElem? (i := 1407) (by decide +kernel)⟩
theorem lw_p60 : lw_okq (⟨"PennyALapModel", "surprised", "()I"⟩, 59) := ⟨⟨by decide +kernel, by decide +kernel⟩, List.mem_of_getElem? (i := 1018) (by decide +kernel), List.mem_of_getElem? (i := 1414) (by decide +kernel), List.mem_of_getElem? (i := 1415) (by decide +kernel)⟩
theorem lw_p61 : lw_okq (⟨"PennyALapModel", "mostPence", "()I"⟩, 59) := ⟨⟨by decide +kernel, by decide +kernel⟩, List.mem_of_getElem? (i := 1018) (by decide +kernel), List.mem_of_getElem? (i := 1418) (by decide +kernel), List.mem_of_getElem? (i := 1419) (by decide +kernel)⟩
theorem lw_p62 : lw_okq (⟨"PennyALapModel", "moreBy", "(II)I"⟩, 59) := ⟨⟨by decide +kernel, by decide +kernel⟩, List.mem_of_getElem? (i := 1018) (by decide +kernel), List.mem_of_getElem? (i := 1426) (by decide +kernel), List.mem_of_getElem? (i := 1427) (by decide +kernel)⟩
theorem lw_p63 : lw_okq (⟨"PennyALapModel", "partFrom", "(I)V"⟩, 59) := ⟨⟨by decide +kernel, by decide +kernel⟩, List.mem_of_getElem? (i := 1018) (by decide +kernel), List.mem_of_getElem? (i := 1451) (by decide +kernel), List.mem_of_getElem? (i := 1452) (by decide +kernel)⟩
def lw_privs_4 : List (MethodName × Nat) := [(⟨"PennyALapModel", "worked", "(III)I"⟩, 59), (⟨"PennyALapModel", "minutesOf", "(II)I"⟩, 59), (⟨"PennyALapModel", "owesOf", "(II)I"⟩, 59), (⟨"PennyALapModel", "plainOf", "(II)I"⟩, 59), (⟨"PennyALapModel", "paysOf", "(II)I"⟩, 59), (⟨"PennyALapModel", "goTo", "(I)V"⟩, 59), (⟨"PennyALapModel", "lapsBy", "(II)I"⟩, 59), (⟨"PennyALapModel", "owedTo", "(II)I"⟩, 59), (⟨"PennyALapModel", "paidTo", "(II)I"⟩, 59), (⟨"PennyALapModel", "lapsAll", "()I"⟩, 59), (⟨"PennyALapModel", "paidAll", "()I"⟩, 59), (⟨"PennyALapModel", "mostLaps", "()I"⟩, 59), (⟨"PennyALapModel", "surprised", "()I"⟩, 59), (⟨"PennyALapModel", "mostPence", "()I"⟩, 59), (⟨"PennyALapModel", "moreBy", "(II)I"⟩, 59), (⟨"PennyALapModel", "partFrom", "(I)V"⟩, 59)]
theorem lw_r4 : ∀ q ∈ lw_privs_4, lw_okq q := List.forall_mem_cons.mpr ⟨lw_p48, List.forall_mem_cons.mpr ⟨lw_p49, List.forall_mem_cons.mpr ⟨lw_p50, List.forall_mem_cons.mpr ⟨lw_p51, List.forall_mem_cons.mpr ⟨lw_p52, List.forall_mem_cons.mpr ⟨lw_p53, List.forall_mem_cons.mpr ⟨lw_p54, List.forall_mem_cons.mpr ⟨lw_p55, List.forall_mem_cons.mpr ⟨lw_p56, List.forall_mem_cons.mpr ⟨lw_p57, List.forall_mem_cons.mpr ⟨lw_p58, List.forall_mem_cons.mpr ⟨lw_p59, List.forall_mem_cons.mpr ⟨lw_p60, List.forall_mem_cons.mpr ⟨lw_p61, List.forall_mem_cons.mpr ⟨lw_p62, List.forall_mem_cons.mpr ⟨lw_p63, fun _ h => absurd h List.not_mem_nil⟩⟩⟩⟩⟩⟩⟩⟩⟩⟩⟩⟩⟩⟩⟩⟩
theorem lw_p64 : lw_okq (⟨"PennyALapModel", "rowFault", "(II)I"⟩, 59) := ⟨⟨by decide +kernel, by decide +kernel⟩, List.mem_of_getElem? (i := 1018) (by decide +kernel), List.mem_of_getElem? (i := 1462) (by decide +kernel), List.mem_of_getElem? (i := 1463) (by decide +kernel)⟩
theorem lw_p65 : lw_okq (⟨"PennyALapModel", "comesBy", "(IIII)I"⟩, 59) := ⟨⟨by decide +kernel, by decide +kernel⟩, List.mem_of_getElem? (i := 1018) (by decide +kernel), List.mem_of_getElem? (i := 1466) (by decide +kernel), List.mem_of_getElem? (i := 1467) (by decide +kernel)⟩
theorem lw_p66 : lw_okq (⟨"PennyALapModel", "beginRest", "(I)I"⟩, 59) := ⟨⟨by decide +kernel, by decide +kernel⟩, List.mem_of_getElem? (i := 1018) (by decide +kernel), List.mem_of_getElem? (i := 1470) (by decide +kernel), List.mem_of_getElem? (i := 1471) (by decide +kernel)⟩
theorem lw_p67 : lw_okq (⟨"PennyALapModel", "isTold", "(II)Z"⟩, 59) := ⟨⟨by decide +kernel, by decide +kernel⟩, List.mem_of_getElem? (i := 1018) (by decide +kernel), List.mem_of_getElem? (i := 1474) (by decide +kernel), List.mem_of_getElem? (i := 1475) (by decide +kernel)⟩
theorem lw_p68 : lw_okq (⟨"PennyALapModel", "at", "(II)I"⟩, 59) := ⟨⟨by decide +kernel, by decide +kernel⟩, List.mem_of_getElem? (i := 1018) (by decide +kernel), List.mem_of_getElem? (i := 1478) (by decide +kernel), List.mem_of_getElem? (i := 1479) (by decide +kernel)⟩
theorem lw_p69 : lw_okq (⟨"PennyALapModel", "weekComes", "(Z)I"⟩, 59) := ⟨⟨by decide +kernel, by decide +kernel⟩, List.mem_of_getElem? (i := 1018) (by decide +kernel), List.mem_of_getElem? (i := 1482) (by decide +kernel), List.mem_of_getElem? (i := 1483) (by decide +kernel)⟩
theorem lw_p70 : lw_okq (⟨"PennyALapModel", "wrongSheet", "(II)I"⟩, 59) := ⟨⟨by decide +kernel, by decide +kernel⟩, List.mem_of_getElem? (i := 1018) (by decide +kernel), List.mem_of_getElem? (i := 1498) (by decide +kernel), List.mem_of_getElem? (i := 1499) (by decide +kernel)⟩
theorem lw_p71 : lw_okq (⟨"PennyALapModel", "saidBy", "(II)I"⟩, 59) := ⟨⟨by decide +kernel, by decide +kernel⟩, List.mem_of_getElem? (i := 1018) (by decide +kernel), List.mem_of_getElem? (i := 1518) (by decide +kernel), List.mem_of_getElem? (i := 1519) (by decide +kernel)⟩
theorem lw_p72 : lw_okq (⟨"PennyALapModel", "drawnLaps", "(II)I"⟩, 59) := ⟨⟨by decide +kernel, by decide +kernel⟩, List.mem_of_getElem? (i := 1018) (by decide +kernel), List.mem_of_getElem? (i := 1526) (by decide +kernel), List.mem_of_getElem? (i := 1527) (by decide +kernel)⟩
theorem lw_p73 : lw_okq (⟨"PennyALapModel", "isBody", "(I)Z"⟩, 59) := ⟨⟨by decide +kernel, by decide +kernel⟩, List.mem_of_getElem? (i := 1018) (by decide +kernel), List.mem_of_getElem? (i := 1567) (by decide +kernel), List.mem_of_getElem? (i := 1568) (by decide +kernel)⟩
theorem lw_p74 : lw_okq (⟨"PennyALapModel", "running", "(II)I"⟩, 59) := ⟨⟨by decide +kernel, by decide +kernel⟩, List.mem_of_getElem? (i := 1018) (by decide +kernel), List.mem_of_getElem? (i := 1571) (by decide +kernel), List.mem_of_getElem? (i := 1572) (by decide +kernel)⟩
theorem lw_p75 : lw_okq (⟨"PennyALapModel", "ran", "(I)V"⟩, 59) := ⟨⟨by decide +kernel, by decide +kernel⟩, List.mem_of_getElem? (i := 1018) (by decide +kernel), List.mem_of_getElem? (i := 1578) (by decide +kernel), List.mem_of_getElem? (i := 1579) (by decide +kernel)⟩
theorem lw_p76 : lw_okq (⟨"PennyALapModel", "plainRuns", "(II)I"⟩, 59) := ⟨⟨by decide +kernel, by decide +kernel⟩, List.mem_of_getElem? (i := 1018) (by decide +kernel), List.mem_of_getElem? (i := 1582) (by decide +kernel), List.mem_of_getElem? (i := 1583) (by decide +kernel)⟩
theorem lw_p77 : lw_okq (⟨"PennyALapModel", "prizeRuns", "(II)I"⟩, 59) := ⟨⟨by decide +kernel, by decide +kernel⟩, List.mem_of_getElem? (i := 1018) (by decide +kernel), List.mem_of_getElem? (i := 1586) (by decide +kernel), List.mem_of_getElem? (i := 1587) (by decide +kernel)⟩
theorem lw_p78 : lw_okq (⟨"PennyALapModel", "owing", "(II)I"⟩, 59) := ⟨⟨by decide +kernel, by decide +kernel⟩, List.mem_of_getElem? (i := 1018) (by decide +kernel), List.mem_of_getElem? (i := 1590) (by decide +kernel), List.mem_of_getElem? (i := 1591) (by decide +kernel)⟩
theorem lw_p79 : lw_okq (⟨"PennyALapModel", "sumOwes", "(II)I"⟩, 59) := ⟨⟨by decide +kernel, by decide +kernel⟩, List.mem_of_getElem? (i := 1018) (by decide +kernel), List.mem_of_getElem? (i := 1594) (by decide +kernel), List.mem_of_getElem? (i := 1595) (by decide +kernel)⟩
def lw_privs_5 : List (MethodName × Nat) := [(⟨"PennyALapModel", "rowFault", "(II)I"⟩, 59), (⟨"PennyALapModel", "comesBy", "(IIII)I"⟩, 59), (⟨"PennyALapModel", "beginRest", "(I)I"⟩, 59), (⟨"PennyALapModel", "isTold", "(II)Z"⟩, 59), (⟨"PennyALapModel", "at", "(II)I"⟩, 59), (⟨"PennyALapModel", "weekComes", "(Z)I"⟩, 59), (⟨"PennyALapModel", "wrongSheet", "(II)I"⟩, 59), (⟨"PennyALapModel", "saidBy", "(II)I"⟩, 59), (⟨"PennyALapModel", "drawnLaps", "(II)I"⟩, 59), (⟨"PennyALapModel", "isBody", "(I)Z"⟩, 59), (⟨"PennyALapModel", "running", "(II)I"⟩, 59), (⟨"PennyALapModel", "ran", "(I)V"⟩, 59), (⟨"PennyALapModel", "plainRuns", "(II)I"⟩, 59), (⟨"PennyALapModel", "prizeRuns", "(II)I"⟩, 59), (⟨"PennyALapModel", "owing", "(II)I"⟩, 59), (⟨"PennyALapModel", "sumOwes", "(II)I"⟩, 59)]
theorem lw_r5 : ∀ q ∈ lw_privs_5, lw_okq q := List.forall_mem_cons.mpr ⟨lw_p64, List.forall_mem_cons.mpr ⟨lw_p65, List.forall_mem_cons.mpr ⟨lw_p66, List.forall_mem_cons.mpr ⟨lw_p67, List.forall_mem_cons.mpr ⟨lw_p68, List.forall_mem_cons.mpr ⟨lw_p69, List.forall_mem_cons.mpr ⟨lw_p70, List.forall_mem_cons.mpr ⟨lw_p71, List.forall_mem_cons.mpr ⟨lw_p72, List.forall_mem_cons.mpr ⟨lw_p73, List.forall_mem_cons.mpr ⟨lw_p74, List.forall_mem_cons.mpr ⟨lw_p75, List.forall_mem_cons.mpr ⟨lw_p76, List.forall_mem_cons.mpr ⟨lw_p77, List.forall_mem_cons.mpr ⟨lw_p78, List.forall_mem_cons.mpr ⟨lw_p79, fun _ h => absurd h List.not_mem_nil⟩⟩⟩⟩⟩⟩⟩⟩⟩⟩⟩⟩⟩⟩⟩⟩
theorem lw_p80 : lw_okq (⟨"PennyALapModel", "plainOwes", "(II)I"⟩, 59) := ⟨⟨by decide +kernel, by decide +kernel⟩, List.mem_of_getElem? (i := 1018) (by decide +kernel), List.mem_of_getElem? (i := 1598) (by decide +kernel), List.mem_of_getElem? (i := 1599) (by decide +kernel)⟩
theorem lw_p81 : lw_okq (⟨"PennyALapModel", "paying", "(II)I"⟩, 59) := ⟨⟨by decide +kernel, by decide +kernel⟩, List.mem_of_getElem? (i := 1018) (by decide +kernel), List.mem_of_getElem? (i := 1602) (by decide +kernel), List.mem_of_getElem? (i := 1603) (by decide +kernel)⟩
theorem lw_p82 : lw_okq (⟨"PennyALapModel", "oakPays", "(II)I"⟩, 59) := ⟨⟨by decide +kernel, by decide +kernel⟩, List.mem_of_getElem? (i := 1018) (by decide +kernel), List.mem_of_getElem? (i := 1606) (by decide +kernel), List.mem_of_getElem? (i := 1607) (by decide +kernel)⟩
theorem lw_p83 : lw_okq (⟨"PennyALapModel", "plainPays", "(II)I"⟩, 59) := ⟨⟨by decide +kernel, by decide +kernel⟩, List.mem_of_getElem? (i := 1018) (by decide +kernel), List.mem_of_getElem? (i := 1610) (by decide +kernel), List.mem_of_getElem? (i := 1611) (by decide +kernel)⟩
theorem lw_p84 : lw_okq (⟨"PennyALapModel", "telling", "(II)I"⟩, 59) := ⟨⟨by decide +kernel, by decide +kernel⟩, List.mem_of_getElem? (i := 1018) (by decide +kernel), List.mem_of_getElem? (i := 1614) (by decide +kernel), List.mem_of_getElem? (i := 1615) (by decide +kernel)⟩
theorem lw_p85 : lw_okq (⟨"PennyALapModel", "plainTells", "(II)I"⟩, 59) := ⟨⟨by decide +kernel, by decide +kernel⟩, List.mem_of_getElem? (i := 1018) (by decide +kernel), List.mem_of_getElem? (i := 1618) (by decide +kernel), List.mem_of_getElem? (i := 1619) (by decide +kernel)⟩
theorem lw_p86 : lw_okq (⟨"PennyALapModel", "whyNoPlace", "(II)I"⟩, 59) := ⟨⟨by decide +kernel, by decide +kernel⟩, List.mem_of_getElem? (i := 1018) (by decide +kernel), List.mem_of_getElem? (i := 1638) (by decide +kernel), List.mem_of_getElem? (i := 1639) (by decide +kernel)⟩
def lw_privs_6 : List (MethodName × Nat) := [(⟨"PennyALapModel", "plainOwes", "(II)I"⟩, 59), (⟨"PennyALapModel", "paying", "(II)I"⟩, 59), (⟨"PennyALapModel", "oakPays", "(II)I"⟩, 59), (⟨"PennyALapModel", "plainPays", "(II)I"⟩, 59), (⟨"PennyALapModel", "telling", "(II)I"⟩, 59), (⟨"PennyALapModel", "plainTells", "(II)I"⟩, 59), (⟨"PennyALapModel", "whyNoPlace", "(II)I"⟩, 59)]
theorem lw_r6 : ∀ q ∈ lw_privs_6, lw_okq q := List.forall_mem_cons.mpr ⟨lw_p80, List.forall_mem_cons.mpr ⟨lw_p81, List.forall_mem_cons.mpr ⟨lw_p82, List.forall_mem_cons.mpr ⟨lw_p83, List.forall_mem_cons.mpr ⟨lw_p84, List.forall_mem_cons.mpr ⟨lw_p85, List.forall_mem_cons.mpr ⟨lw_p86, fun _ h => absurd h List.not_mem_nil⟩⟩⟩⟩⟩⟩⟩
def lw_privs : List (MethodName × Nat) := lw_privs_1 ++ (lw_privs_2 ++ (lw_privs_3 ++ (lw_privs_4 ++ (lw_privs_5 ++ (lw_privs_6)))))
def lw_tbl : List Cond := k2_sels lw_privs ++ tables_1
theorem lw_privs_ok : ∀ q ∈ lw_privs, lw_okq q := by
  show ∀ q ∈ lw_privs_1 ++ (lw_privs_2 ++ (lw_privs_3 ++ (lw_privs_4 ++ (lw_privs_5 ++ (lw_privs_6))))), lw_okq q
  exact List.forall_mem_append.mpr ⟨lw_r1, List.forall_mem_append.mpr ⟨lw_r2, List.forall_mem_append.mpr ⟨lw_r3, List.forall_mem_append.mpr ⟨lw_r4, List.forall_mem_append.mpr ⟨lw_r5, lw_r6⟩⟩⟩⟩⟩
end
section
/-! THE ENGINE: a plain machine over lists (cells are known by their places), run by equations; its soundness over W is the next part.
    An item: (pc, a simple instruction and three numbers) or (pc, an instruction that goes elsewhere, its kind, two numbers, a list). -/
abbrev kE : Type := (Nat × vp_A) ⊕ (Nat × List Value)
abbrev kH : Type := List kE
abbrev kL : Type := List (Option Value)
abbrev kR : Type := Option Value × kH
abbrev kIt : Type := Nat × ((Instr × Nat × Nat × Int) ⊕ (Instr × Nat × Nat × Nat × List (Int32 × Nat)))
abbrev kRo : Type := Nat → Option (Nat × (Nat → Int32))
def kLd (lv : kL) (i : Nat) : Option Value := match lv[i]? with
  | some (some v) => some v
  | _ => none
def kClr (lv : kL) (i : Nat) : kL := match i with
  | 0 => lv
  | j + 1 => match lv[j]? with
    | some (some (.long _)) => lv.set j none
    | some (some (.double _)) => lv.set j none
    | _ => lv
def kSt1 (lv : kL) (i : Nat) (v : Value) : kL := (kClr lv i).set i (some v)
def kSt2 (lv : kL) (i : Nat) (v : Value) : kL := ((kClr lv i).set i (some v)).set (i + 1) none
def kArr (hp : kH) (q t : Nat) : Option (Nat × (Nat → Int32)) := match hp[q]? with
  | some (.inl x) => if x.1 = t then (match x.2.2 with
    | .inl f => some (x.2.1, f)
    | _ => none) else none
  | _ => none
def kArrL (hp : kH) (q : Nat) : Option (Nat × (Nat → Int64)) := match hp[q]? with
  | some (.inl x) => if x.1 = 1 then (match x.2.2 with
    | .inr (.inl f) => some (x.2.1, f)
    | _ => none) else none
  | _ => none
def kObj (hp : kH) (q a : Nat) : Option (List Value) := match hp[q]? with
  | some (.inr o) => if o.1 = a then some o.2 else none
  | _ => none
def kRd (ro : kRo) (hp : kH) (q : Nat) : Option (Nat × (Nat → Int32)) := match ro q with
  | some x => some x
  | none => kArr hp q 0
def kLen (ro : kRo) (hp : kH) (q : Nat) : Option Nat := match ro q with
  | some x => some x.1
  | none => match hp[q]? with
    | some (.inl x) => if x.1 < 5 then some x.2.1 else none
    | _ => none
def kFit (z : Int) (v : Value) : Bool := match v with
  | .int x => z == 0 || (z == 1 && (x == 0 || x == 1))
  | .ref _ => z == 2
  | _ => false
def kBy (a : Nat) : FieldType := if a = 2 then .byte else .boolean
def kI1 (st : List Value) (f : Int32 → Value) : Option (List Value) := match st with
  | .int x :: r => some (f x :: r)
  | _ => none
def kI2 (st : List Value) (f : Int32 → Int32 → Value) : Option (List Value) := match st with
  | .int y :: .int x :: r => some (f x y :: r)
  | _ => none
def kJ2 (st : List Value) (f : Int64 → Int64 → Value) : Option (List Value) := match st with
  | .long y :: .long x :: r => some (f x y :: r)
  | _ => none
def kSi (lv : kL) (hp : kH) (o : Option (List Value)) : Option (kL × List Value × kH) := match o with
  | some s => some (lv, s, hp)
  | none => none
def kPi (lv : kL) (st : List Value) (hp : kH) (i : Nat) : Option (kL × List Value × kH) := match kLd lv i with
  | some (.int x) => some (lv, .int x :: st, hp)
  | _ => none
def kPl (lv : kL) (st : List Value) (hp : kH) (i : Nat) : Option (kL × List Value × kH) := match kLd lv i with
  | some (.long x) => some (lv, .long x :: st, hp)
  | _ => none
def kPa (lv : kL) (st : List Value) (hp : kH) (i : Nat) : Option (kL × List Value × kH) := match kLd lv i with
  | some (.ref x) => some (lv, .ref x :: st, hp)
  | _ => none
def kTi (lv : kL) (st : List Value) (hp : kH) (i : Nat) : Option (kL × List Value × kH) := match st with
  | .int x :: r => if i < lv.length then some (kSt1 lv i (.int x), r, hp) else none
  | _ => none
def kTa (lv : kL) (st : List Value) (hp : kH) (i : Nat) : Option (kL × List Value × kH) := match st with
  | .ref x :: r => if i < lv.length then some (kSt1 lv i (.ref x), r, hp) else none
  | _ => none
def kTl (lv : kL) (st : List Value) (hp : kH) (i : Nat) : Option (kL × List Value × kH) := match st with
  | .long x :: r => if i + 1 < lv.length then some (kSt2 lv i (.long x), r, hp) else none
  | _ => none
def kInc (lv : kL) (st : List Value) (hp : kH) (i : Nat) (n : Int) : Option (kL × List Value × kH) := match kLd lv i with
  | some (.int x) => some (kSt1 lv i (.int (x + Int32.ofInt n)), st, hp)
  | _ => none
def kDiv (lv : kL) (st : List Value) (hp : kH) (f : Int32 → Int32 → Int32) : Option (kL × List Value × kH) := match st with
  | .int y :: .int x :: r => if y = 0 then none else some (lv, .int (f x y) :: r, hp)
  | _ => none
def kDup (lv : kL) (st : List Value) (hp : kH) : Option (kL × List Value × kH) := match st with
  | v :: r => if v.category = 1 then some (lv, v :: v :: r, hp) else none
  | _ => none
def kPop (lv : kL) (st : List Value) (hp : kH) : Option (kL × List Value × kH) := match st with
  | v :: r => if v.category = 1 then some (lv, r, hp) else none
  | _ => none
def kDup2 (lv : kL) (st : List Value) (hp : kH) : Option (kL × List Value × kH) := match st with
  | v :: w :: r => if v.category = 1 ∧ w.category = 1 then some (lv, v :: w :: v :: w :: r, hp) else none
  | _ => none
def kGet (lv : kL) (st : List Value) (hp : kH) (a b : Nat) : Option (kL × List Value × kH) := match st with
  | .ref q :: r => match kObj hp q a with
    | some fs => match fs[b]? with
      | some v => some (lv, v :: r, hp)
      | none => none
    | none => none
  | _ => none
def kPut (lv : kL) (st : List Value) (hp : kH) (a b : Nat) (z : Int) : Option (kL × List Value × kH) := match st with
  | v :: .ref q :: r => match kObj hp q a with
    | some fs => if b < fs.length ∧ kFit z v = true then some (lv, r, hp.set q (.inr (a, fs.set b v))) else none
    | none => none
  | _ => none
def kAl (lv : kL) (st : List Value) (hp : kH) (ro : kRo) : Option (kL × List Value × kH) := match st with
  | .ref q :: r => match kLen ro hp q with
    | some n => some (lv, .int (Int32.ofNat n) :: r, hp)
    | none => none
  | _ => none
def kAi (lv : kL) (st : List Value) (hp : kH) (ro : kRo) : Option (kL × List Value × kH) := match st with
  | .int j :: .ref q :: r => match kRd ro hp q with
    | some x => if j < 0 ∨ x.1 ≤ j.toNatClampNeg then none else some (lv, .int (x.2 j.toNatClampNeg) :: r, hp)
    | none => none
  | _ => none
def kAt (lv : kL) (st : List Value) (hp : kH) (t : Nat) : Option (kL × List Value × kH) := match st with
  | .int j :: .ref q :: r => match kArr hp q t with
    | some x => if j < 0 ∨ x.1 ≤ j.toNatClampNeg then none else some (lv, .int (x.2 j.toNatClampNeg) :: r, hp)
    | none => none
  | _ => none
def kAj (lv : kL) (st : List Value) (hp : kH) : Option (kL × List Value × kH) := match st with
  | .int j :: .ref q :: r => match kArrL hp q with
    | some x => if j < 0 ∨ x.1 ≤ j.toNatClampNeg then none else some (lv, .long (x.2 j.toNatClampNeg) :: r, hp)
    | none => none
  | _ => none
def kBt (lv : kL) (st : List Value) (hp : kH) (t : Nat) (g : Int32 → Int32) : Option (kL × List Value × kH) := match st with
  | .int v :: .int j :: .ref q :: r => match kArr hp q t with
    | some x => if j < 0 ∨ x.1 ≤ j.toNatClampNeg then none else some (lv, r, hp.set q (.inl (t, x.1, .inl (upd x.2 j.toNatClampNeg (g v)))))
    | none => none
  | _ => none
def kBj (lv : kL) (st : List Value) (hp : kH) : Option (kL × List Value × kH) := match st with
  | .long v :: .int j :: .ref q :: r => match kArrL hp q with
    | some x => if j < 0 ∨ x.1 ≤ j.toNatClampNeg then none else some (lv, r, hp.set q (.inl (1, x.1, .inr (.inl (vp_updL x.2 j.toNatClampNeg v)))))
    | none => none
  | _ => none
def kMx (lv : kL) (st : List Value) (hp : kH) (f : Int32 → Int32 → Int32) : Option (kL × List Value × kH) := match st with
  | .int y :: .int x :: r => if r.length ≤ 4 then some (lv, .int (f x y) :: r, hp) else none
  | _ => none
def kCpI (lv : kL) (st : List Value) (hp : kH) : Option (kL × List Value × kH) := match st with
  | .int n :: .int dp :: .ref q1 :: .int sp :: .ref q0 :: r => match kArr hp q0 0, kArr hp q1 0 with
    | some x, some y => if r.length ≤ 4 ∧ ¬ sp < 0 ∧ ¬ dp < 0 ∧ ¬ n < 0 ∧ sp.toNatClampNeg + n.toNatClampNeg ≤ x.1 ∧ dp.toNatClampNeg + n.toNatClampNeg ≤ y.1 then some (lv, r, hp.set q1 (.inl (0, y.1, .inl (va_cpy x.2 y.2 sp.toNatClampNeg dp.toNatClampNeg n.toNatClampNeg)))) else none
    | _, _ => none
  | _ => none
def kCpL (lv : kL) (st : List Value) (hp : kH) : Option (kL × List Value × kH) := match st with
  | .int n :: .int dp :: .ref q1 :: .int sp :: .ref q0 :: r => match kArrL hp q0, kArrL hp q1 with
    | some x, some y => if r.length ≤ 4 ∧ ¬ sp < 0 ∧ ¬ dp < 0 ∧ ¬ n < 0 ∧ sp.toNatClampNeg + n.toNatClampNeg ≤ x.1 ∧ dp.toNatClampNeg + n.toNatClampNeg ≤ y.1 then some (lv, r, hp.set q1 (.inl (1, y.1, .inr (.inl (va_cpy x.2 y.2 sp.toNatClampNeg dp.toNatClampNeg n.toNatClampNeg))))) else none
    | _, _ => none
  | _ => none
def kNat (lv : kL) (st : List Value) (hp : kH) (a : Nat) : Option (kL × List Value × kH) :=
  if a = 1 then kMx lv st hp (fun x y => if x < y then y else x)
  else if a = 2 then kMx lv st hp (fun x y => if y < x then y else x)
  else if a = 3 then kCpI lv st hp
  else if a = 4 then kCpL lv st hp
  else none
def kS (ro : kRo) (i : Instr) (a b : Nat) (z : Int) (lv : kL) (st : List Value) (hp : kH) : Option (kL × List Value × kH) :=
  match i with
  | .iconst n => some (lv, .int (Int32.ofInt n) :: st, hp)
  | .bipush n => some (lv, .int (Int32.ofInt n) :: st, hp)
  | .sipush n => some (lv, .int (Int32.ofInt n) :: st, hp)
  | .lconst n => some (lv, .long (Int64.ofNat (n : Nat)) :: st, hp)
  | .ldc _ => some (lv, .int (Int32.ofInt z) :: st, hp)
  | .ldc_w _ => some (lv, .int (Int32.ofInt z) :: st, hp)
  | .ldc2_w _ => some (lv, .long (Int64.ofInt z) :: st, hp)
  | .iload_n k => kPi lv st hp k
  | .iload k => kPi lv st hp k
  | .lload_n k => kPl lv st hp k
  | .lload k => kPl lv st hp k
  | .aload_n k => kPa lv st hp k
  | .aload k => kPa lv st hp k
  | .istore_n k => kTi lv st hp k
  | .istore k => kTi lv st hp k
  | .astore_n k => kTa lv st hp k
  | .lstore k => kTl lv st hp k
  | .iinc k n => kInc lv st hp k n
  | .iadd => kSi lv hp (kI2 st (fun x y => .int (x + y)))
  | .isub => kSi lv hp (kI2 st (fun x y => .int (x - y)))
  | .imul => kSi lv hp (kI2 st (fun x y => .int (x * y)))
  | .iand => kSi lv hp (kI2 st (fun x y => .int (x &&& y)))
  | .ior => kSi lv hp (kI2 st (fun x y => .int (x ||| y)))
  | .ixor => kSi lv hp (kI2 st (fun x y => .int (x ^^^ y)))
  | .ishl => kSi lv hp (kI2 st (fun x y => .int (x <<< (y &&& 31))))
  | .iushr => kSi lv hp (kI2 st (fun x y => .int ((x.toUInt32 >>> (y.toUInt32 &&& Int32.toUInt32 31)).toInt32)))
  | .idiv => kDiv lv st hp (fun x y => x / y)
  | .irem => kDiv lv st hp (fun x y => x - x / y * y)
  | .ineg => kSi lv hp (kI1 st (fun x => .int (-x)))
  | .i2l => kSi lv hp (kI1 st (fun x => .long x.toInt64))
  | .i2b => kSi lv hp (kI1 st (fun x => .int x.toInt8.toInt32))
  | .i2s => kSi lv hp (kI1 st (fun x => .int x.toInt16.toInt32))
  | .l2i => (match st with
    | .long x :: r => some (lv, .int x.toInt32 :: r, hp)
    | _ => none)
  | .ladd => kSi lv hp (kJ2 st (fun x y => .long (x + y)))
  | .land => kSi lv hp (kJ2 st (fun x y => .long (x &&& y)))
  | .lor => kSi lv hp (kJ2 st (fun x y => .long (x ||| y)))
  | .lcmp => kSi lv hp (kJ2 st (fun x y => .int (lg_cmp x y)))
  | .lshl => (match st with
    | .int y :: .long x :: r => some (lv, .long (x <<< (y.toInt64 &&& 63)) :: r, hp)
    | _ => none)
  | .dup => kDup lv st hp
  | .pop => kPop lv st hp
  | .dup2 => kDup2 lv st hp
  | .getfield _ => kGet lv st hp a b
  | .putfield _ => kPut lv st hp a b z
  | .getstatic _ => some (lv, .ref a :: st, hp)
  | .arraylength => kAl lv st hp ro
  | .iaload => kAi lv st hp ro
  | .baload => kAt lv st hp a
  | .saload => kAt lv st hp 4
  | .laload => kAj lv st hp
  | .iastore => kBt lv st hp 0 (fun x => x)
  | .bastore => kBt lv st hp a (fun x => vp_nar (kBy a) x)
  | .sastore => kBt lv st hp 4 (fun x => vp_nar .short x)
  | .lastore => kBj lv st hp
  | .invokestatic _ => kNat lv st hp a
  | _ => none
def kCm (c : ClassFile.Cond) (x y : Int32) : Bool := match c with
  | .eq => decide (x = y)
  | .ne => decide (¬ x = y)
  | .lt => decide (x < y)
  | .ge => decide (y ≤ x)
  | .gt => decide (y < x)
  | .le => decide (x ≤ y)
def kCd (i : Instr) (st : List Value) : Option (Bool × List Value) := match i with
  | .ifCond c _ => (match st with
    | .int x :: r => some (kCm c x 0, r)
    | _ => none)
  | .if_icmp c _ => (match st with
    | .int y :: .int x :: r => some (kCm c x y, r)
    | _ => none)
  | _ => none
def kSw {α : Type} (k : Nat → α) (x : Int32) (d : Nat) : List (Int32 × Nat) → α
  | [] => k d
  | q :: r => if x = q.1 then k q.2 else kSw k x d r
def kRt (i : Instr) (a : Nat) (st : List Value) (hp : kH) : Option kR := match i with
  | .ireturn => (match st with
    | [.int x] => if a = 0 then some (some (.int x), hp) else if x = 0 ∨ x = 1 then some (some (.int x), hp) else none
    | _ => none)
  | .lreturn => (match st with
    | [.long x] => some (some (.long x), hp)
    | _ => none)
  | .return_ => (match st with
    | [] => some (none, hp)
    | _ => none)
  | _ => none
abbrev kEo : Type := Nat → List Value → kH → Option kR
abbrev kJo : Type := Nat → kL → List Value → kH → Option kR
def kX (ro : kRo) (E : kEo) (J : kJo) : List kIt → kL → List Value → kH → Option kR
  | [], _, _, _ => none
  | (_, .inl (i, a, b, z)) :: is, lv, st, hp => match kS ro i a b z lv st hp with
    | some w => kX ro E J is w.1 w.2.1 w.2.2
    | none => none
  | (_, .inr (i, k, a, b, sw)) :: is, lv, st, hp =>
    if k = 0 then (match kCd i st with
      | some w => if w.1 = true then J a lv w.2 hp else kX ro E J is lv w.2 hp
      | none => none)
    else if k = 1 then J a lv st hp
    else if k = 2 then (match st with
      | .int x :: r => kSw (fun t => J t lv r hp) x a sw
      | _ => none)
    else if k = 3 then kRt i a st hp
    else if k = 4 then (if b ≤ st.length ∧ st.length ≤ b + 4 then (match E a (st.take b).reverse hp with
      | some w => kX ro E J is lv (w.1.toList ++ st.drop b) w.2
      | none => none) else none)
    else none
/-- so many jumps of one method, its calls answered by E -/
def kG (ro : kRo) (blk : Nat → Nat → List kIt) (E : kEo) (m : Nat) : Nat → kJo
  | 0 => fun _ _ _ _ => none
  | n + 1 => fun l lv st hp => kX ro E (kG ro blk E m n) (blk m l) lv st hp
noncomputable def kU (ro : kRo) (blk : Nat → Nat → List kIt) (E : kEo) (m : Nat) : kJo := fun l lv st hp =>
  @dite _ (∃ r, ∃ n, kG ro blk E m n l lv st hp = some r) (Classical.propDecidable _) (fun h => some (Classical.choose h)) (fun _ => none)
def kEnt (n : Nat) (as : List Value) : kL := (fun l : kL => l ++ List.replicate (n - l.length) none) (as.flatMap fun v => if v.category = 2 then [some v, none] else [some v])
def kRc (o : Option Nat) (as : List Value) (hp : kH) : Bool := match o with
  | none => true
  | some ci => match as with
    | .ref q :: _ => (kObj hp q ci).isSome
    | _ => false
/-- a call enters its method if the arguments fit and the receiver is of its sort -/
def kMof (mx : Nat → Nat) (rc : Nat → Option Nat) (B : Nat → kJo) : kEo := fun m as hp => if (kEnt (mx m) as).length = mx m ∧ kRc (rc m) as hp = true then B m 0 (kEnt (mx m) as) [] hp else none
noncomputable def kD (ro : kRo) (blk : Nat → Nat → List kIt) (mx : Nat → Nat) (rc : Nat → Option Nat) : Nat → Nat → kJo
  | 0 => fun _ _ _ _ _ => none
  | d + 1 => fun m => kU ro blk (kMof mx rc (kD ro blk mx rc d)) m
/-- a call of a method, d calls deep at most -/
noncomputable def kM (ro : kRo) (blk : Nat → Nat → List kIt) (mx : Nat → Nat) (rc : Nat → Option Nat) (d : Nat) : kEo := kMof mx rc (kD ro blk mx rc d)
theorem kSw_mono {β : Type} {k k' : Nat → Option β} (h : ∀ t r, k t = some r → k' t = some r) (x : Int32) (d : Nat) : ∀ (sw : List (Int32 × Nat)) (r : β), kSw k x d sw = some r → kSw k' x d sw = some r
  | [], r, e => h _ _ e
  | q :: l, r, e => by
    unfold kSw at e ⊢
    split
    · rename_i hq; rw [if_pos hq] at e; exact h _ _ e
    · rename_i hq; rw [if_neg hq] at e; exact kSw_mono h x d l r e
theorem kX_mono {ro : kRo} {E E' : kEo} {J J' : kJo} (hE : ∀ m as hp r, E m as hp = some r → E' m as hp = some r) (hJ : ∀ t lv st hp r, J t lv st hp = some r → J' t lv st hp = some r) :
    ∀ (is : List kIt) (lv : kL) (st : List Value) (hp : kH) (r : kR), kX ro E J is lv st hp = some r → kX ro E' J' is lv st hp = some r
  | [], lv, st, hp, r, h => h
  | (_, .inl (i, a, b, z)) :: is, lv, st, hp, r, h => by
    unfold kX at h ⊢
    cases hs : kS ro i a b z lv st hp with
    | none => rw [hs] at h; cases h
    | some w =>
      rw [hs] at h
      exact kX_mono hE hJ is _ _ _ r h
  | (_, .inr (i, k, a, b, sw)) :: is, lv, st, hp, r, h => by
    unfold kX at h ⊢
    by_cases h0 : k = 0
    · rw [if_pos h0] at h ⊢
      cases hs : kCd i st with
      | none => rw [hs] at h; cases h
      | some w =>
        rw [hs] at h
        dsimp only at h ⊢
        by_cases hw : w.1 = true
        · rw [if_pos hw] at h ⊢; exact hJ _ _ _ _ _ h
        · rw [if_neg hw] at h ⊢; exact kX_mono hE hJ is _ _ _ r h
    · rw [if_neg h0] at h ⊢
      by_cases h1 : k = 1
      · rw [if_pos h1] at h ⊢; exact hJ _ _ _ _ _ h
      · rw [if_neg h1] at h ⊢
        by_cases h2 : k = 2
        · rw [if_pos h2] at h ⊢
          split at h
          · exact kSw_mono (fun t r => hJ t _ _ _ r) _ _ _ _ h
          · cases h
        · rw [if_neg h2] at h ⊢
          by_cases h3 : k = 3
          · rw [if_pos h3] at h ⊢; exact h
          · rw [if_neg h3] at h ⊢
            by_cases h4 : k = 4
            · rw [if_pos h4] at h ⊢
              by_cases hl : b ≤ st.length ∧ st.length ≤ b + 4
              · rw [if_pos hl] at h ⊢
                cases hs : E a (st.take b).reverse hp with
                | none => rw [hs] at h; cases h
                | some w =>
                  rw [hs] at h
                  rw [hE _ _ _ _ hs]
                  exact kX_mono hE hJ is _ _ _ r h
              · rw [if_neg hl] at h; cases h
            · rw [if_neg h4] at h; cases h
theorem kG_mono {ro : kRo} {blk : Nat → Nat → List kIt} {E : kEo} {m : Nat} : ∀ (n : Nat) (l : Nat) (lv : kL) (st : List Value) (hp : kH) (r : kR), kG ro blk E m n l lv st hp = some r → kG ro blk E m (n + 1) l lv st hp = some r
  | 0, l, lv, st, hp, r, h => by cases h
  | n + 1, l, lv, st, hp, r, h => kX_mono (fun _ _ _ _ h => h) (kG_mono n) _ _ _ _ _ h
theorem kG_le {ro : kRo} {blk : Nat → Nat → List kIt} {E : kEo} {m : Nat} {n l : Nat} {lv : kL} {st : List Value} {hp : kH} {r : kR} (h : kG ro blk E m n l lv st hp = some r) (k : Nat) : kG ro blk E m (n + k) l lv st hp = some r := by
  induction k with
  | zero => exact h
  | succ k ih => exact kG_mono _ _ _ _ _ _ ih
theorem kU_iff {ro : kRo} {blk : Nat → Nat → List kIt} {E : kEo} {m l : Nat} {lv : kL} {st : List Value} {hp : kH} {r : kR} : kU ro blk E m l lv st hp = some r ↔ ∃ n, kG ro blk E m n l lv st hp = some r := by
  unfold kU
  by_cases h : ∃ r, ∃ n, kG ro blk E m n l lv st hp = some r
  · rw [dif_pos h]
    obtain ⟨n, hn⟩ := Classical.choose_spec h
    constructor
    · intro e
      cases e
      exact ⟨n, hn⟩
    · rintro ⟨k, hk⟩
      have h1 := kG_le hn k
      have h2 := kG_le hk n
      rw [Nat.add_comm k n] at h2
      exact h1.symm.trans h2
  · rw [dif_neg h]
    constructor
    · intro e; cases e
    · rintro ⟨n, hn⟩
      exact absurd ⟨r, n, hn⟩ h
theorem kSw_fin {ro : kRo} {blk : Nat → Nat → List kIt} {E : kEo} {m : Nat} (lv : kL) (st : List Value) (hp : kH) (x : Int32) (d : Nat) : ∀ (sw : List (Int32 × Nat)) (r : kR), kSw (fun t => kU ro blk E m t lv st hp) x d sw = some r → ∃ n, kSw (fun t => kG ro blk E m n t lv st hp) x d sw = some r
  | [], r, e => kU_iff.mp e
  | q :: l, r, e => by
    unfold kSw at e ⊢
    split
    · rename_i hq; rw [if_pos hq] at e; exact kU_iff.mp e
    · rename_i hq; rw [if_neg hq] at e; exact kSw_fin lv st hp x d l r e
theorem kX_fin {ro : kRo} {blk : Nat → Nat → List kIt} {E : kEo} {m : Nat} :
    ∀ (is : List kIt) (lv : kL) (st : List Value) (hp : kH) (r : kR), kX ro E (kU ro blk E m) is lv st hp = some r → ∃ n, kX ro E (kG ro blk E m n) is lv st hp = some r
  | [], lv, st, hp, r, h => by cases h
  | (_, .inl (i, a, b, z)) :: is, lv, st, hp, r, h => by
    unfold kX at h ⊢
    cases hs : kS ro i a b z lv st hp with
    | none => rw [hs] at h; cases h
    | some w =>
      rw [hs] at h
      exact kX_fin is _ _ _ r h
  | (_, .inr (i, k, a, b, sw)) :: is, lv, st, hp, r, h => by
    unfold kX at h ⊢
    by_cases h0 : k = 0
    · simp only [if_pos h0] at h ⊢
      cases hs : kCd i st with
      | none => rw [hs] at h; cases h
      | some w =>
        rw [hs] at h
        dsimp only at h ⊢
        by_cases hw : w.1 = true
        · simp only [if_pos hw] at h ⊢; exact kU_iff.mp h
        · simp only [if_neg hw] at h ⊢; exact kX_fin is _ _ _ r h
    · simp only [if_neg h0] at h ⊢
      by_cases h1 : k = 1
      · simp only [if_pos h1] at h ⊢; exact kU_iff.mp h
      · simp only [if_neg h1] at h ⊢
        by_cases h2 : k = 2
        · simp only [if_pos h2] at h ⊢
          split at h
          · exact kSw_fin _ _ _ _ _ _ _ h
          · cases h
        · simp only [if_neg h2] at h ⊢
          by_cases h3 : k = 3
          · simp only [if_pos h3] at h ⊢; exact ⟨0, h⟩
          · simp only [if_neg h3] at h ⊢
            by_cases h4 : k = 4
            · simp only [if_pos h4] at h ⊢
              by_cases hl : b ≤ st.length ∧ st.length ≤ b + 4
              · simp only [if_pos hl] at h ⊢
                cases hs : E a (st.take b).reverse hp with
                | none => rw [hs] at h; cases h
                | some w =>
                  rw [hs] at h
                  exact kX_fin is _ _ _ r h
              · simp only [if_neg hl] at h; cases h
            · simp only [if_neg h4] at h; cases h
/-- a method's block runs by its own equation -/
theorem kU_eq (ro : kRo) (blk : Nat → Nat → List kIt) (E : kEo) (m l : Nat) (lv : kL) (st : List Value) (hp : kH) : kU ro blk E m l lv st hp = kX ro E (kU ro blk E m) (blk m l) lv st hp := by
  apply Option.ext
  intro r
  constructor
  · intro h
    obtain ⟨n, hn⟩ := kU_iff.mp h
    cases n with
    | zero => cases hn
    | succ n => exact kX_mono (fun _ _ _ _ h => h) (fun t lv st hp r h => kU_iff.mpr ⟨n, h⟩) _ _ _ _ _ hn
  · intro h
    obtain ⟨n, hn⟩ := kX_fin _ _ _ _ _ h
    exact kU_iff.mpr ⟨n + 1, hn⟩
theorem kD_eq (ro : kRo) (blk : Nat → Nat → List kIt) (mx : Nat → Nat) (rc : Nat → Option Nat) (d m l : Nat) (lv : kL) (st : List Value) (hp : kH) : kD ro blk mx rc (d + 1) m l lv st hp = kX ro (kM ro blk mx rc d) (kD ro blk mx rc (d + 1) m) (blk m l) lv st hp := kU_eq _ _ _ _ _ _ _ _
end
section
/-! THE ENGINE IS SOUND, simple instructions: what it does to the lists, the machine does to its heap -/
def kV (ad : Nat → Nat) (v : Value) : Value := match v with
  | .ref a => .ref (ad a)
  | v => v
def kC (tc : Nat → ClassId) (ad : Nat → Nat) (e : kE) : va_E := match e with
  | .inl x => .inl (tc x.1, x.2)
  | .inr o => .inr (o.1, o.2.map (kV ad))
def kW (tc : Nat → ClassId) (ad : Nat → Nat) : Nat → kH → va_W
  | _, [] => []
  | i, e :: r => (ad i, kC tc ad e) :: kW tc ad (i + 1) r
theorem kW_get (tc : Nat → ClassId) (ad : Nat → Nat) : ∀ (hp : kH) (i0 i : Nat), (kW tc ad i0 hp)[i]? = (hp[i]?).map (fun e => (ad (i0 + i), kC tc ad e))
  | [], i0, i => by simp [kW]
  | e :: r, i0, 0 => by simp [kW]
  | e :: r, i0, i + 1 => by
    have h := kW_get tc ad r (i0 + 1) i
    simp only [kW, List.getElem?_cons_succ, h]
    rw [show i0 + 1 + i = i0 + (i + 1) by omega]
theorem kW_at {tc : Nat → ClassId} {ad : Nat → Nat} {hp : kH} {q : Nat} {e : kE} (h : hp[q]? = some e) : (kW tc ad 0 hp)[q]? = some (ad q, kC tc ad e) := by
  rw [kW_get, h, Nat.zero_add]; rfl
theorem kW_set (tc : Nat → ClassId) (ad : Nat → Nat) (e : kE) : ∀ (hp : kH) (i0 i : Nat), kW tc ad i0 (hp.set i e) = (kW tc ad i0 hp).set i (ad (i0 + i), kC tc ad e)
  | [], i0, i => by simp [kW]
  | x :: r, i0, 0 => by simp [kW]
  | x :: r, i0, i + 1 => by
    have h := kW_set tc ad e r (i0 + 1) i
    simp only [kW, List.set_cons_succ, h]
    rw [show i0 + 1 + i = i0 + (i + 1) by omega]
theorem kW_put (tc : Nat → ClassId) (ad : Nat → Nat) (e : kE) (hp : kH) (i : Nat) : kW tc ad 0 (hp.set i e) = (kW tc ad 0 hp).set i (ad i, kC tc ad e) := by
  rw [kW_set, Nat.zero_add]
theorem kV_cat (ad : Nat → Nat) (v : Value) : (kV ad v).category = v.category := by cases v <;> rfl
def kLl (ad : Nat → Nat) : Nat → kL → List (Nat × Value)
  | _, [] => []
  | i, none :: r => kLl ad (i + 1) r
  | i, some v :: r => (i, kV ad v) :: kLl ad (i + 1) r
theorem kLl_mem {ad : Nat → Nat} {i : Nat} {w : Value} : ∀ (lv : kL) (i0 : Nat), (i, w) ∈ kLl ad i0 lv ↔ ∃ j v, lv[j]? = some (some v) ∧ i = i0 + j ∧ w = kV ad v
  | [], i0 => by simp [kLl]
  | none :: r, i0 => by
    have h := kLl_mem (ad := ad) (i := i) (w := w) r (i0 + 1)
    simp only [kLl, h]
    constructor
    · rintro ⟨j, v, h1, h2, h3⟩
      exact ⟨j + 1, v, by simpa using h1, by omega, h3⟩
    · rintro ⟨j, v, h1, h2, h3⟩
      cases j with
      | zero => simp at h1
      | succ j => exact ⟨j, v, by simpa using h1, by omega, h3⟩
  | some u :: r, i0 => by
    have h := kLl_mem (ad := ad) (i := i) (w := w) r (i0 + 1)
    simp only [kLl, List.mem_cons, h]
    constructor
    · rintro (h0 | ⟨j, v, h1, h2, h3⟩)
      · cases h0
        exact ⟨0, u, by simp, by omega, rfl⟩
      · exact ⟨j + 1, v, by simpa using h1, by omega, h3⟩
    · rintro ⟨j, v, h1, h2, h3⟩
      cases j with
      | zero =>
        simp at h1
        subst h1
        left
        rw [h2, h3]; rfl
      | succ j => exact Or.inr ⟨j, v, by simpa using h1, by omega, h3⟩
theorem kLd_some {lv : kL} {i : Nat} {v : Value} (h : kLd lv i = some v) : lv[i]? = some (some v) := by
  unfold kLd at h
  split at h
  · rename_i w hw; cases h; exact hw
  · cases h
theorem kLd_at {ad : Nat → Nat} {ls : Array Slot} {nL : Nat} {lv : kL} {i : Nat} {v : Value} (hl : lv_has ls nL (kLl ad 0 lv)) (h : kLd lv i = some v) : ls[i]? = some (.val (kV ad v)) :=
  hl.2.2 (i, kV ad v) ((kLl_mem lv 0).mpr ⟨i, v, kLd_some h, by omega, rfl⟩)
theorem kClr_len (lv : kL) (i : Nat) : (kClr lv i).length = lv.length := by
  cases i with
  | zero => rfl
  | succ j =>
    unfold kClr
    dsimp only
    split <;> simp
theorem kClr_get {lv : kL} {i j : Nat} {v : Value} (h : (kClr lv i)[j]? = some (some v)) : lv[j]? = some (some v) ∧ (j + 1 = i → v.category = 1) := by
  cases i with
  | zero => exact ⟨h, fun q => by omega⟩
  | succ k =>
    unfold kClr at h
    dsimp only at h
    split at h
    · by_cases hj : k = j
      · subst hj
        rw [List.getElem?_set] at h
        simp at h
      · rw [List.getElem?_set_ne hj] at h
        exact ⟨h, fun q => by omega⟩
    · by_cases hj : k = j
      · subst hj
        rw [List.getElem?_set] at h
        simp at h
      · rw [List.getElem?_set_ne hj] at h
        exact ⟨h, fun q => by omega⟩
    · rename_i h1 h2
      refine ⟨h, fun q => ?_⟩
      have hk : j = k := by omega
      subst hk
      cases v with
      | long x => exact absurd h (h1 x)
      | double x => exact absurd h (h2 x)
      | _ => rfl
theorem kSt1_has {ad : Nat → Nat} {ls ls' : Array Slot} {nL i : Nat} {lv : kL} {v : Value} (hi : i < lv.length)
    (h' : lv_has ls' nL ((i, kV ad v) :: (kLl ad 0 lv).filter (fun q => !(q.1 == i) && !(q.1 + 1 == i && q.2.category == 2)))) : lv_has ls' nL (kLl ad 0 (kSt1 lv i v)) := by
  refine ⟨h'.1, h'.2.1, fun q hq => h'.2.2 q ?_⟩
  obtain ⟨qi, qw⟩ := q
  obtain ⟨j, u, h1, h2, h3⟩ := (kLl_mem _ _).mp hq
  rw [Nat.zero_add] at h2
  subst h2; subst h3
  unfold kSt1 at h1
  by_cases hj : i = qi
  · subst hj
    rw [List.getElem?_set_self (by rw [kClr_len]; exact hi)] at h1
    cases h1
    exact List.mem_cons_self
  · rw [List.getElem?_set_ne hj] at h1
    obtain ⟨g1, g2⟩ := kClr_get h1
    refine List.mem_cons_of_mem _ (List.mem_filter.mpr ⟨(kLl_mem _ _).mpr ⟨qi, u, g1, by omega, rfl⟩, ?_⟩)
    simp only [kV_cat, Bool.and_eq_true, Bool.not_eq_true', beq_eq_false_iff_ne, Bool.and_eq_false_iff]
    refine ⟨fun h => hj h.symm, ?_⟩
    by_cases hq1 : qi + 1 = i
    · right; rw [g2 hq1]; decide
    · left; exact hq1
theorem kSt2_has {ad : Nat → Nat} {ls ls' : Array Slot} {nL i : Nat} {lv : kL} {v : Value} (hi : i + 1 < lv.length)
    (h' : lv_has ls' nL ((i, kV ad v) :: (kLl ad 0 lv).filter (fun q => !(q.1 == i) && (!(q.1 == i + 1) && !(q.1 + 1 == i && q.2.category == 2))))) : lv_has ls' nL (kLl ad 0 (kSt2 lv i v)) := by
  refine ⟨h'.1, h'.2.1, fun q hq => h'.2.2 q ?_⟩
  obtain ⟨qi, qw⟩ := q
  obtain ⟨j, u, h1, h2, h3⟩ := (kLl_mem _ _).mp hq
  rw [Nat.zero_add] at h2
  subst h2; subst h3
  unfold kSt2 at h1
  by_cases hj2 : i + 1 = qi
  · subst hj2
    rw [List.getElem?_set_self (by simp [kClr_len]; exact hi)] at h1
    cases h1
  · rw [List.getElem?_set_ne hj2] at h1
    by_cases hj : i = qi
    · subst hj
      rw [List.getElem?_set_self (by rw [kClr_len]; omega)] at h1
      cases h1
      exact List.mem_cons_self
    · rw [List.getElem?_set_ne hj] at h1
      obtain ⟨g1, g2⟩ := kClr_get h1
      refine List.mem_cons_of_mem _ (List.mem_filter.mpr ⟨(kLl_mem _ _).mpr ⟨qi, u, g1, by omega, rfl⟩, ?_⟩)
      simp only [kV_cat, Bool.and_eq_true, Bool.not_eq_true', beq_eq_false_iff_ne, Bool.and_eq_false_iff]
      refine ⟨fun h => hj h.symm, fun h => hj2 h.symm, ?_⟩
      by_cases hq1 : qi + 1 = i
      · right; rw [g2 hq1]; decide
      · left; exact hq1
theorem kSt1_len (lv : kL) (i : Nat) (v : Value) : (kSt1 lv i v).length = lv.length := by unfold kSt1; rw [List.length_set, kClr_len]
theorem kSt2_len (lv : kL) (i : Nat) (v : Value) : (kSt2 lv i v).length = lv.length := by unfold kSt2; rw [List.length_set, List.length_set, kClr_len]
def kTy (tc : Nat → ClassId) : List (ClassId × FieldType) := [(tc 0, .int), (tc 1, .long), (tc 2, .byte), (tc 3, .boolean), (tc 4, .short)]
def kIv (D : va_G) (cl : List vw_C) (tc : Nat → ClassId) (ad : Nat → Nat) (A : Nat → Prop) (s : State) (hp : kH) (H : Heap) (locs : List Loc) : Prop := va_P D cl (kW tc ad 0 hp) H ∧ va_D A (kW tc ad 0 hp) ∧ va_S A s.heap H locs
def kRoOk (ro : kRo) (ad : Nat → Nat) (A : Nat → Prop) (s : State) : Prop := ∀ q x, ro q = some x → va_T .int (ad q) x.1 (fun j => .int (x.2 j)) A s s.heap
/-- statics (file, name, place) and links across a nest -/
abbrev kZt : Type := List (String × String × Nat) × List Jvm.Cond
def kNok (ns : List Jvm.Cond) (U : State) : Prop := ∀ w ∈ ns, va_Nw w U ∧ ((∃ a i b n d h, w = .fieldLinkNest a i b n d h) ∨ ∃ a i x h, w = .methodLinkNest a i x h)
theorem kNok.same {ns : List Jvm.Cond} {u U : State} (h : u.vm = U.vm) (hn : kNok ns u) : kNok ns U := by
  intro w hw
  obtain ⟨h1, h2⟩ := hn w hw
  refine ⟨?_, h2⟩
  rcases h2 with ⟨a, i, b, n, d, q, rfl⟩ | ⟨a, i, x, q, rfl⟩
  · exact va_Nw.same rfl h h1
  · exact va_Nw.same rfl h h1
theorem kNok.warm {ns : List Jvm.Cond} {s U : State} (hW : s.WarmedH U.vm) (hn : kNok ns s) : kNok ns U := by
  intro w hw
  obtain ⟨h1, h2⟩ := hn w hw
  refine ⟨?_, h2⟩
  rcases h2 with ⟨a, i, b, n, d, q, rfl⟩ | ⟨a, i, x, q, rfl⟩
  · exact va_Nw.warmF hW h1
  · exact va_Nw.warmM hW h1
def kZOk (zs : kZt) (ad : Nat → Nat) (A : Nat → Prop) (s : State) : Prop := (∀ z ∈ zs.1, va_Z z.1 z.2.1 "[I" (.ref (ad z.2.2)) A s s.heap) ∧ kNok zs.2 s
def kLn (i : Instr) : Nat := match i with
  | .bipush _ => 2 | .sipush _ => 3 | .ldc _ => 2 | .ldc_w _ => 3 | .ldc2_w _ => 3 | .iload _ => 2 | .lload _ => 2 | .aload _ => 2 | .istore _ => 2 | .lstore _ => 2 | .iinc _ _ => 3
  | .getfield _ => 3 | .putfield _ => 3 | .getstatic _ => 3 | .invokestatic _ => 3 | .invokevirtual _ => 3 | .ifCond _ _ => 3 | .if_icmp _ _ => 3 | .goto _ => 3
  | _ => 1
/-- what the tables must say for a simple instruction of the method's own file -/
def kWd (tbl : List Jvm.Cond) (cl : List vw_C) (own : String) (zs : kZt) (i : Instr) (a b : Nat) (z : Int) : Prop := match i with
  | .bipush n => (Int8.ofInt n).toInt32 = Int32.ofInt n
  | .sipush n => (Int16.ofInt n).toInt32 = Int32.ofInt n
  | .ldc idx => Jvm.Cond.constant own idx (Int32.ofInt z) ∈ tbl
  | .ldc_w idx => Jvm.Cond.constant own idx (Int32.ofInt z) ∈ tbl
  | .ldc2_w idx => Jvm.Cond.constantLong own idx (Int64.ofInt z) ∈ tbl
  | .getfield idx => ∃ q : vw_C, cl[a]? = some q ∧ b < q.2.2 ∧ (q.2.1 b).1 = q.1 ∧ Jvm.Cond.fieldLink own idx q.1 (q.2.1 b).2.1 (q.2.1 b).2.2.1 ∈ tbl ∧ ∀ w ∈ u_ws q.1 q.2.1 q.2.2, w ∈ tbl
  | .putfield idx => ∃ (q : vw_C) (ty0 : Nat → FieldType), cl[a]? = some q ∧ b < q.2.2 ∧ (q.2.1 b).1 = q.1 ∧ Jvm.Cond.fieldLink own idx q.1 (q.2.1 b).2.1 (q.2.1 b).2.2.1 ∈ tbl ∧ (∀ w ∈ u_ws q.1 q.2.1 q.2.2, w ∈ tbl) ∧ (q.2.1 b).2.2.2 = false ∧ (∀ k, k < q.2.2 → parseFieldDescriptor (q.2.1 k).2.2.1 = some (ty0 k)) ∧ (∀ a, a < q.2.2 → ∀ b, b < q.2.2 → a ≠ b → (q.2.1 a).2.1 ≠ (q.2.1 b).2.1) ∧ ((z = 0 ∧ ty0 b = .int) ∨ (z = 1 ∧ ty0 b = .boolean) ∨ (z = 2 ∧ ty0 b = .array .int))
  | .getstatic idx => ∃ C n host : String, (C, n, a) ∈ zs.1 ∧ (Jvm.Cond.fieldLink own idx C n "[I" ∈ tbl ∨ Jvm.Cond.fieldLinkNest own idx C n "[I" host ∈ zs.2)
  | .baload => a = 2 ∨ a = 3
  | .bastore => a = 2 ∨ a = 3
  | .invokestatic idx => (a = 1 → Jvm.Cond.methodLink own idx Lib.Math.max.name ∈ tbl ∧ Jvm.Cond.static Lib.Math.max.name ∈ tbl ∧ Jvm.Cond.initialized "java/lang/Math" ∈ tbl ∧ Jvm.Cond.code Lib.Math.max.name Lib.Math.max.code 2 (some .int) ∈ tbl)
      ∧ (a = 2 → Jvm.Cond.methodLink own idx Lib.Math.min.name ∈ tbl ∧ Jvm.Cond.static Lib.Math.min.name ∈ tbl ∧ Jvm.Cond.initialized "java/lang/Math" ∈ tbl ∧ Jvm.Cond.code Lib.Math.min.name Lib.Math.min.code 2 (some .int) ∈ tbl)
      ∧ (a = 3 ∨ a = 4 → Jvm.Cond.methodLink own idx arraycopyName ∈ tbl ∧ Jvm.Cond.native arraycopyName ∈ tbl ∧ Jvm.Cond.static arraycopyName ∈ tbl ∧ Jvm.Cond.initialized "java/lang/System" ∈ tbl)
  | _ => True
theorem kSi_inv {lv lv' : kL} {hp hp' : kH} {o : Option (List Value)} {st' : List Value} (h : kSi lv hp o = some (lv', st', hp')) : o = some st' ∧ lv' = lv ∧ hp' = hp := by
  unfold kSi at h
  cases o with
  | none => cases h
  | some x => cases h; exact ⟨rfl, rfl, rfl⟩
theorem kI1_inv {lv lv' : kL} {hp hp' : kH} {st st' : List Value} {f : Int32 → Value} (h : kSi lv hp (kI1 st f) = some (lv', st', hp')) : ∃ x r, st = .int x :: r ∧ lv' = lv ∧ st' = f x :: r ∧ hp' = hp := by
  obtain ⟨h1, h2, h3⟩ := kSi_inv h
  unfold kI1 at h1
  split at h1
  · cases h1; exact ⟨_, _, rfl, h2, rfl, h3⟩
  · cases h1
theorem kI2_inv {lv lv' : kL} {hp hp' : kH} {st st' : List Value} {f : Int32 → Int32 → Value} (h : kSi lv hp (kI2 st f) = some (lv', st', hp')) : ∃ x y r, st = .int y :: .int x :: r ∧ lv' = lv ∧ st' = f x y :: r ∧ hp' = hp := by
  obtain ⟨h1, h2, h3⟩ := kSi_inv h
  unfold kI2 at h1
  split at h1
  · cases h1; exact ⟨_, _, _, rfl, h2, rfl, h3⟩
  · cases h1
theorem kJ2_inv {lv lv' : kL} {hp hp' : kH} {st st' : List Value} {f : Int64 → Int64 → Value} (h : kSi lv hp (kJ2 st f) = some (lv', st', hp')) : ∃ x y r, st = .long y :: .long x :: r ∧ lv' = lv ∧ st' = f x y :: r ∧ hp' = hp := by
  obtain ⟨h1, h2, h3⟩ := kSi_inv h
  unfold kJ2 at h1
  split at h1
  · cases h1; exact ⟨_, _, _, rfl, h2, rfl, h3⟩
  · cases h1
theorem kPi_inv {lv lv' : kL} {hp hp' : kH} {st st' : List Value} {i : Nat} (h : kPi lv st hp i = some (lv', st', hp')) : ∃ x, kLd lv i = some (.int x) ∧ lv' = lv ∧ st' = .int x :: st ∧ hp' = hp := by
  unfold kPi at h
  split at h
  · rename_i x hx; cases h; exact ⟨x, hx, rfl, rfl, rfl⟩
  · cases h
theorem kPl_inv {lv lv' : kL} {hp hp' : kH} {st st' : List Value} {i : Nat} (h : kPl lv st hp i = some (lv', st', hp')) : ∃ x, kLd lv i = some (.long x) ∧ lv' = lv ∧ st' = .long x :: st ∧ hp' = hp := by
  unfold kPl at h
  split at h
  · rename_i x hx; cases h; exact ⟨x, hx, rfl, rfl, rfl⟩
  · cases h
theorem kPa_inv {lv lv' : kL} {hp hp' : kH} {st st' : List Value} {i : Nat} (h : kPa lv st hp i = some (lv', st', hp')) : ∃ x, kLd lv i = some (.ref x) ∧ lv' = lv ∧ st' = .ref x :: st ∧ hp' = hp := by
  unfold kPa at h
  split at h
  · rename_i x hx; cases h; exact ⟨x, hx, rfl, rfl, rfl⟩
  · cases h
theorem kTi_inv {lv lv' : kL} {hp hp' : kH} {st st' : List Value} {i : Nat} (h : kTi lv st hp i = some (lv', st', hp')) : ∃ x, st = .int x :: st' ∧ i < lv.length ∧ lv' = kSt1 lv i (.int x) ∧ hp' = hp := by
  unfold kTi at h
  split at h
  · split at h
    · rename_i hi; cases h; exact ⟨_, rfl, hi, rfl, rfl⟩
    · cases h
  · cases h
theorem kTa_inv {lv lv' : kL} {hp hp' : kH} {st st' : List Value} {i : Nat} (h : kTa lv st hp i = some (lv', st', hp')) : ∃ x, st = .ref x :: st' ∧ i < lv.length ∧ lv' = kSt1 lv i (.ref x) ∧ hp' = hp := by
  unfold kTa at h
  split at h
  · split at h
    · rename_i hi; cases h; exact ⟨_, rfl, hi, rfl, rfl⟩
    · cases h
  · cases h
theorem kTl_inv {lv lv' : kL} {hp hp' : kH} {st st' : List Value} {i : Nat} (h : kTl lv st hp i = some (lv', st', hp')) : ∃ x, st = .long x :: st' ∧ i + 1 < lv.length ∧ lv' = kSt2 lv i (.long x) ∧ hp' = hp := by
  unfold kTl at h
  split at h
  · split at h
    · rename_i hi; cases h; exact ⟨_, rfl, hi, rfl, rfl⟩
    · cases h
  · cases h
theorem kInc_inv {lv lv' : kL} {hp hp' : kH} {st st' : List Value} {i : Nat} {n : Int} (h : kInc lv st hp i n = some (lv', st', hp')) : ∃ x, kLd lv i = some (.int x) ∧ lv' = kSt1 lv i (.int (x + Int32.ofInt n)) ∧ st' = st ∧ hp' = hp := by
  unfold kInc at h
  split at h
  · rename_i x hx; cases h; exact ⟨x, hx, rfl, rfl, rfl⟩
  · cases h
theorem kDiv_inv {lv lv' : kL} {hp hp' : kH} {st st' : List Value} {f : Int32 → Int32 → Int32} (h : kDiv lv st hp f = some (lv', st', hp')) : ∃ x y r, st = .int y :: .int x :: r ∧ ¬ y = 0 ∧ lv' = lv ∧ st' = .int (f x y) :: r ∧ hp' = hp := by
  unfold kDiv at h
  split at h
  · split at h
    · cases h
    · rename_i hi; cases h; exact ⟨_, _, _, rfl, hi, rfl, rfl, rfl⟩
  · cases h
theorem kDup_inv {lv lv' : kL} {hp hp' : kH} {st st' : List Value} (h : kDup lv st hp = some (lv', st', hp')) : ∃ v r, st = v :: r ∧ v.category = 1 ∧ lv' = lv ∧ st' = v :: v :: r ∧ hp' = hp := by
  unfold kDup at h
  split at h
  · split at h
    · rename_i hi; cases h; exact ⟨_, _, rfl, hi, rfl, rfl, rfl⟩
    · cases h
  · cases h
theorem kPop_inv {lv lv' : kL} {hp hp' : kH} {st st' : List Value} (h : kPop lv st hp = some (lv', st', hp')) : ∃ v, st = v :: st' ∧ v.category = 1 ∧ lv' = lv ∧ hp' = hp := by
  unfold kPop at h
  split at h
  · split at h
    · rename_i hi; cases h; exact ⟨_, rfl, hi, rfl, rfl⟩
    · cases h
  · cases h
theorem kDup2_inv {lv lv' : kL} {hp hp' : kH} {st st' : List Value} (h : kDup2 lv st hp = some (lv', st', hp')) : ∃ v w r, st = v :: w :: r ∧ v.category = 1 ∧ w.category = 1 ∧ lv' = lv ∧ st' = v :: w :: v :: w :: r ∧ hp' = hp := by
  unfold kDup2 at h
  split at h
  · split at h
    · rename_i hi; cases h; exact ⟨_, _, _, rfl, hi.1, hi.2, rfl, rfl, rfl⟩
    · cases h
  · cases h
theorem kObj_inv {hp : kH} {q a : Nat} {fs : List Value} (h : kObj hp q a = some fs) : hp[q]? = some (.inr (a, fs)) := by
  unfold kObj at h
  split at h
  · rename_i o ho
    split at h
    · rename_i ha; cases h; rw [ho]; obtain ⟨o1, o2⟩ := o; dsimp only at ha; rw [ha]
    · cases h
  · cases h
theorem kArr_inv {hp : kH} {q t : Nat} {x : Nat × (Nat → Int32)} (h : kArr hp q t = some x) : hp[q]? = some (.inl (t, x.1, .inl x.2)) := by
  unfold kArr at h
  split at h
  · rename_i y hy
    obtain ⟨y1, y2, y3⟩ := y
    split at h
    · rename_i ha
      dsimp only at ha h
      subst ha
      split at h
      · cases h; exact hy
      · cases h
    · cases h
  · cases h
theorem kArrL_inv {hp : kH} {q : Nat} {x : Nat × (Nat → Int64)} (h : kArrL hp q = some x) : hp[q]? = some (.inl (1, x.1, .inr (.inl x.2))) := by
  unfold kArrL at h
  split at h
  · rename_i y hy
    obtain ⟨y1, y2, y3⟩ := y
    split at h
    · rename_i ha
      dsimp only at ha h
      subst ha
      split at h
      · cases h; exact hy
      · cases h
    · cases h
  · cases h
theorem kGet_inv {lv lv' : kL} {hp hp' : kH} {st st' : List Value} {a b : Nat} (h : kGet lv st hp a b = some (lv', st', hp')) : ∃ q r fs v, st = .ref q :: r ∧ hp[q]? = some (.inr (a, fs)) ∧ fs[b]? = some v ∧ lv' = lv ∧ st' = v :: r ∧ hp' = hp := by
  unfold kGet at h
  split at h
  · split at h
    · rename_i fs ho
      split at h
      · rename_i v hv; cases h; exact ⟨_, _, fs, v, rfl, kObj_inv ho, hv, rfl, rfl, rfl⟩
      · cases h
    · cases h
  · cases h
theorem kPut_inv {lv lv' : kL} {hp hp' : kH} {st st' : List Value} {a b : Nat} {z : Int} (h : kPut lv st hp a b z = some (lv', st', hp')) : ∃ v q fs, st = v :: .ref q :: st' ∧ hp[q]? = some (.inr (a, fs)) ∧ b < fs.length ∧ kFit z v = true ∧ lv' = lv ∧ hp' = hp.set q (.inr (a, fs.set b v)) := by
  unfold kPut at h
  split at h
  · split at h
    · rename_i fs ho
      split at h
      · rename_i hc; cases h; exact ⟨_, _, fs, rfl, kObj_inv ho, hc.1, hc.2, rfl, rfl⟩
      · cases h
    · cases h
  · cases h
theorem kAl_inv {lv lv' : kL} {hp hp' : kH} {st st' : List Value} {ro : kRo} (h : kAl lv st hp ro = some (lv', st', hp')) : ∃ q r n, st = .ref q :: r ∧ kLen ro hp q = some n ∧ lv' = lv ∧ st' = .int (Int32.ofNat n) :: r ∧ hp' = hp := by
  unfold kAl at h
  split at h
  · split at h
    · rename_i n hn; cases h; exact ⟨_, _, n, rfl, hn, rfl, rfl, rfl⟩
    · cases h
  · cases h
theorem kAi_inv {lv lv' : kL} {hp hp' : kH} {st st' : List Value} {ro : kRo} (h : kAi lv st hp ro = some (lv', st', hp')) : ∃ j q r x, st = .int j :: .ref q :: r ∧ kRd ro hp q = some x ∧ vp_in j x.1 ∧ lv' = lv ∧ st' = .int (x.2 j.toNatClampNeg) :: r ∧ hp' = hp := by
  unfold kAi at h
  split at h
  · split at h
    · rename_i x hn
      split at h
      · cases h
      · rename_i hi; cases h; exact ⟨_, _, _, x, rfl, hn, hi, rfl, rfl, rfl⟩
    · cases h
  · cases h
theorem kAt_inv {lv lv' : kL} {hp hp' : kH} {st st' : List Value} {t : Nat} (h : kAt lv st hp t = some (lv', st', hp')) : ∃ j q r x, st = .int j :: .ref q :: r ∧ kArr hp q t = some x ∧ vp_in j x.1 ∧ lv' = lv ∧ st' = .int (x.2 j.toNatClampNeg) :: r ∧ hp' = hp := by
  unfold kAt at h
  split at h
  · split at h
    · rename_i x hn
      split at h
      · cases h
      · rename_i hi; cases h; exact ⟨_, _, _, x, rfl, hn, hi, rfl, rfl, rfl⟩
    · cases h
  · cases h
theorem kAj_inv {lv lv' : kL} {hp hp' : kH} {st st' : List Value} (h : kAj lv st hp = some (lv', st', hp')) : ∃ j q r x, st = .int j :: .ref q :: r ∧ kArrL hp q = some x ∧ vp_in j x.1 ∧ lv' = lv ∧ st' = .long (x.2 j.toNatClampNeg) :: r ∧ hp' = hp := by
  unfold kAj at h
  split at h
  · split at h
    · rename_i x hn
      split at h
      · cases h
      · rename_i hi; cases h; exact ⟨_, _, _, x, rfl, hn, hi, rfl, rfl, rfl⟩
    · cases h
  · cases h
theorem kBt_inv {lv lv' : kL} {hp hp' : kH} {st st' : List Value} {t : Nat} {g : Int32 → Int32} (h : kBt lv st hp t g = some (lv', st', hp')) : ∃ v j q x, st = .int v :: .int j :: .ref q :: st' ∧ kArr hp q t = some x ∧ vp_in j x.1 ∧ lv' = lv ∧ hp' = hp.set q (.inl (t, x.1, .inl (upd x.2 j.toNatClampNeg (g v)))) := by
  unfold kBt at h
  split at h
  · split at h
    · rename_i x hn
      split at h
      · cases h
      · rename_i hi; cases h; exact ⟨_, _, _, x, rfl, hn, hi, rfl, rfl⟩
    · cases h
  · cases h
theorem kBj_inv {lv lv' : kL} {hp hp' : kH} {st st' : List Value} (h : kBj lv st hp = some (lv', st', hp')) : ∃ v j q x, st = .long v :: .int j :: .ref q :: st' ∧ kArrL hp q = some x ∧ vp_in j x.1 ∧ lv' = lv ∧ hp' = hp.set q (.inl (1, x.1, .inr (.inl (vp_updL x.2 j.toNatClampNeg v)))) := by
  unfold kBj at h
  split at h
  · split at h
    · rename_i x hn
      split at h
      · cases h
      · rename_i hi; cases h; exact ⟨_, _, _, x, rfl, hn, hi, rfl, rfl⟩
    · cases h
  · cases h
theorem kMx_inv {lv lv' : kL} {hp hp' : kH} {st st' : List Value} {f : Int32 → Int32 → Int32} (h : kMx lv st hp f = some (lv', st', hp')) : ∃ x y r, st = .int y :: .int x :: r ∧ r.length ≤ 4 ∧ lv' = lv ∧ st' = .int (f x y) :: r ∧ hp' = hp := by
  unfold kMx at h
  split at h
  · split at h
    · rename_i hi; cases h; exact ⟨_, _, _, rfl, hi, rfl, rfl, rfl⟩
    · cases h
  · cases h
theorem kCpI_inv {lv lv' : kL} {hp hp' : kH} {st st' : List Value} (h : kCpI lv st hp = some (lv', st', hp')) : ∃ n dp q1 sp q0 x y, st = .int n :: .int dp :: .ref q1 :: .int sp :: .ref q0 :: st' ∧ kArr hp q0 0 = some x ∧ kArr hp q1 0 = some y ∧ st'.length ≤ 4 ∧ ¬ sp < 0 ∧ ¬ dp < 0 ∧ ¬ n < 0 ∧ sp.toNatClampNeg + n.toNatClampNeg ≤ x.1 ∧ dp.toNatClampNeg + n.toNatClampNeg ≤ y.1 ∧ lv' = lv ∧ hp' = hp.set q1 (.inl (0, y.1, .inl (va_cpy x.2 y.2 sp.toNatClampNeg dp.toNatClampNeg n.toNatClampNeg))) := by
  unfold kCpI at h
  split at h
  · split at h
    · rename_i x y hx hy
      split at h
      · rename_i hc
        cases h
        exact ⟨_, _, _, _, _, x, y, rfl, hx, hy, hc.1, hc.2.1, hc.2.2.1, hc.2.2.2.1, hc.2.2.2.2.1, hc.2.2.2.2.2, rfl, rfl⟩
      · cases h
    · cases h
  · cases h
theorem kCpL_inv {lv lv' : kL} {hp hp' : kH} {st st' : List Value} (h : kCpL lv st hp = some (lv', st', hp')) : ∃ n dp q1 sp q0 x y, st = .int n :: .int dp :: .ref q1 :: .int sp :: .ref q0 :: st' ∧ kArrL hp q0 = some x ∧ kArrL hp q1 = some y ∧ st'.length ≤ 4 ∧ ¬ sp < 0 ∧ ¬ dp < 0 ∧ ¬ n < 0 ∧ sp.toNatClampNeg + n.toNatClampNeg ≤ x.1 ∧ dp.toNatClampNeg + n.toNatClampNeg ≤ y.1 ∧ lv' = lv ∧ hp' = hp.set q1 (.inl (1, y.1, .inr (.inl (va_cpy x.2 y.2 sp.toNatClampNeg dp.toNatClampNeg n.toNatClampNeg)))) := by
  unfold kCpL at h
  split at h
  · split at h
    · rename_i x y hx hy
      split at h
      · rename_i hc
        cases h
        exact ⟨_, _, _, _, _, x, y, rfl, hx, hy, hc.1, hc.2.1, hc.2.2.1, hc.2.2.2.1, hc.2.2.2.2.1, hc.2.2.2.2.2, rfl, rfl⟩
      · cases h
    · cases h
  · cases h
theorem kSum_le (ad : Nat → Nat) : ∀ (st : List Value), ((st.map (kV ad)).map fun v => v.category).sum ≤ 2 * st.length
  | [] => by simp
  | v :: r => by
    have h := kSum_le ad r
    have hc : (kV ad v).category ≤ 2 := by cases v <;> simp [kV, Value.category]
    simp only [List.map_cons, List.sum_cons, List.length_cons]
    omega
end
section
/-! THE ENGINE IS SOUND: a simple instruction -/
section KSnd
variable {p : Program} {l : Launch} {e : Env} {R : Room} {s : State} {m : MethodId} {args : Array Value} {below : List Frame} {meth : Method} {c : Code} {cells slots : Nat} {Q : State → Prop} {H : Heap} {locs : List Loc}
variable {cc : ByteArray} {D : va_G} {cl : List vw_C} {A : Nat → Prop} {tc : Nat → ClassId} {ad : Nat → Nat} {ro : kRo} {own : String} {Ts tbl : List Jvm.Cond} {zs : kZt} {nL pc : Nat} {ls : Array Slot}
set_option maxHeartbeats 4000000 in
set_option maxRecDepth 100000 in
theorem kS_ok (hx : p.tables.exec = Jvm.exec) (hb : c.code = cc) (hml : c.maxLocals = nL) (hown : s.vm.findClass own = some m.cls) (hts : ∀ w ∈ Ts, w.before args s = true) (hT : ∀ w ∈ tbl, w ∈ Ts)
    (hK : va_K D cl (kTy tc) s) (hro : kRoOk ro ad A s) (hz : kZOk zs ad A s) (hR : 1 ≤ R.frames ∧ 64 ≤ R.locals ∧ cells ≤ R.cells ∧ slots ≤ R.slots)
    {i : Instr} {a b : Nat} {z : Int} {lv lv' : kL} {st st' : List Value} {hp hp' : kH} (hw : kWd tbl cl own zs i a b z) (hd : decode cc pc = .ok (i, kLn i)) (h : kS ro i a b z lv st hp = some (lv', st', hp'))
    (hlen : lv.length = nL) (hl : lv_has ls nL (kLl ad 0 lv)) (hI : kIv D cl tc ad A s hp H locs)
    (k : ∀ (ls' : Array Slot) (H' : Heap) (locs' : List Loc), lv'.length = nL → lv_has ls' nL (kLl ad 0 lv') → kIv D cl tc ad A s hp' H' locs' → W p l e R s m args below meth c H' locs' cells slots Q (F0 m (pc + kLn i) ls' (st'.map (kV ad)))) :
    W p l e R s m args below meth c H locs cells slots Q (F0 m pc ls (st.map (kV ad))) := by
  have htb : ∀ w ∈ tbl, w.before args s = true := fun w q => hts w (hT w q)
  have hls : c.maxLocals = ls.size := hml.trans hl.1.symm
  cases i
  case iconst n => cases h; exact lv_iconst hx hb hd rfl (k ls H locs hlen hl hI)
  case bipush n => cases h; exact lv_bipush hx hb hd hw (k ls H locs hlen hl hI)
  case sipush n => cases h; exact lv_sipush hx hb hd hw (k ls H locs hlen hl hI)
  case lconst n => cases h; exact lv_lconst hx hb hd rfl (k ls H locs hlen hl hI)
  case ldc n => cases h; exact lv_ldc hx hb hown (htb _ hw) hd (k ls H locs hlen hl hI)
  case ldc_w n => cases h; exact lv_ldcw hx hb hown (htb _ hw) hd (k ls H locs hlen hl hI)
  case ldc2_w n => cases h; exact lv_ldc2 hx hb hown (htb _ hw) hd (k ls H locs hlen hl hI)
  case iload_n n => obtain ⟨x, h1, rfl, rfl, rfl⟩ := kPi_inv h; exact lv_iload_n hx hb hd rfl (kLd_at hl h1) (k ls H locs hlen hl hI)
  case iload n => obtain ⟨x, h1, rfl, rfl, rfl⟩ := kPi_inv h; exact lv_iload hx hb hd (kLd_at hl h1) (k ls H locs hlen hl hI)
  case lload_n n => obtain ⟨x, h1, rfl, rfl, rfl⟩ := kPl_inv h; exact lv_lload_n hx hb hd rfl (kLd_at hl h1) (k ls H locs hlen hl hI)
  case lload n => obtain ⟨x, h1, rfl, rfl, rfl⟩ := kPl_inv h; exact lv_lload hx hb hd (kLd_at hl h1) (k ls H locs hlen hl hI)
  case aload_n n => obtain ⟨x, h1, rfl, rfl, rfl⟩ := kPa_inv h; exact lv_aload_n hx hb hd rfl (kLd_at hl h1) (k ls H locs hlen hl hI)
  case aload n => obtain ⟨x, h1, rfl, rfl, rfl⟩ := kPa_inv h; exact lv_aload hx hb hd (kLd_at hl h1) (k ls H locs hlen hl hI)
  case istore_n n =>
    obtain ⟨x, rfl, h1, rfl, rfl⟩ := kTi_inv h
    exact lv_istore_n hx hb hd rfl hl (by rw [← hlen]; exact h1) rfl (fun ls' hl' => k ls' H locs (by rw [kSt1_len]; exact hlen) (kSt1_has (ls := ls) (v := .int x) h1 hl') hI)
  case istore n =>
    obtain ⟨x, rfl, h1, rfl, rfl⟩ := kTi_inv h
    exact lv_istore hx hb hd hl (by rw [← hlen]; exact h1) rfl (fun ls' hl' => k ls' H locs (by rw [kSt1_len]; exact hlen) (kSt1_has (ls := ls) (v := .int x) h1 hl') hI)
  case astore_n n =>
    obtain ⟨x, rfl, h1, rfl, rfl⟩ := kTa_inv h
    exact lv_astore_n hx hb hd rfl hl (by rw [← hlen]; exact h1) rfl (fun ls' hl' => k ls' H locs (by rw [kSt1_len]; exact hlen) (kSt1_has (ls := ls) (v := .ref x) h1 hl') hI)
  case lstore n =>
    obtain ⟨x, rfl, h1, rfl, rfl⟩ := kTl_inv h
    exact lv_lstore hx hb hd hl (by rw [← hlen]; exact h1) rfl (fun ls' hl' => k ls' H locs (by rw [kSt2_len]; exact hlen) (kSt2_has (ls := ls) (v := .long x) h1 hl') hI)
  case iinc n v =>
    obtain ⟨x, h1, rfl, rfl, rfl⟩ := kInc_inv h
    have h0 : n < lv.length := (List.getElem?_eq_some_iff.mp (kLd_some h1)).1
    obtain ⟨j, hj⟩ := List.getElem?_of_mem ((kLl_mem (ad := ad) lv 0).mpr ⟨n, _, kLd_some h1, (Nat.zero_add n).symm, rfl⟩)
    exact lv_iinc hx hb hd hl (k := j) hj rfl (by rw [← hlen]; exact h0) rfl (fun ls' hl' => k ls' H locs (by rw [kSt1_len]; exact hlen) (kSt1_has (ls := ls) (v := .int (x + Int32.ofInt v)) h0 hl') hI)
  case iadd => obtain ⟨x, y, r, rfl, rfl, rfl, rfl⟩ := kI2_inv h; exact lv_iadd hx hb hd (k ls H locs hlen hl hI)
  case isub => obtain ⟨x, y, r, rfl, rfl, rfl, rfl⟩ := kI2_inv h; exact lv_isub hx hb hd (k ls H locs hlen hl hI)
  case imul => obtain ⟨x, y, r, rfl, rfl, rfl, rfl⟩ := kI2_inv h; exact lv_imul hx hb hd (k ls H locs hlen hl hI)
  case iand => obtain ⟨x, y, r, rfl, rfl, rfl, rfl⟩ := kI2_inv h; exact lv_iand hx hb hd (k ls H locs hlen hl hI)
  case ior => obtain ⟨x, y, r, rfl, rfl, rfl, rfl⟩ := kI2_inv h; exact lv_ior hx hb hd (k ls H locs hlen hl hI)
  case ixor => obtain ⟨x, y, r, rfl, rfl, rfl, rfl⟩ := kI2_inv h; exact lv_ixor hx hb hd (k ls H locs hlen hl hI)
  case ishl => obtain ⟨x, y, r, rfl, rfl, rfl, rfl⟩ := kI2_inv h; exact lv_ishl hx hb hd (k ls H locs hlen hl hI)
  case iushr => obtain ⟨x, y, r, rfl, rfl, rfl, rfl⟩ := kI2_inv h; exact lv_iushr hx hb hd rfl (k ls H locs hlen hl hI)
  case idiv => obtain ⟨x, y, r, rfl, h1, rfl, rfl, rfl⟩ := kDiv_inv h; exact lv_idiv hx hb hd h1 (k ls H locs hlen hl hI)
  case irem => obtain ⟨x, y, r, rfl, h1, rfl, rfl, rfl⟩ := kDiv_inv h; exact lv_irem hx hb hd h1 (k ls H locs hlen hl hI)
  case ineg => obtain ⟨x, r, rfl, rfl, rfl, rfl⟩ := kI1_inv h; exact lv_ineg hx hb hd (k ls H locs hlen hl hI)
  case i2l => obtain ⟨x, r, rfl, rfl, rfl, rfl⟩ := kI1_inv h; exact lv_i2l hx hb hd rfl (k ls H locs hlen hl hI)
  case i2b => obtain ⟨x, r, rfl, rfl, rfl, rfl⟩ := kI1_inv h; exact lv_i2b hx hb hd rfl (k ls H locs hlen hl hI)
  case i2s => obtain ⟨x, r, rfl, rfl, rfl, rfl⟩ := kI1_inv h; exact lv_i2s hx hb hd rfl (k ls H locs hlen hl hI)
  case l2i =>
    simp only [kS] at h
    split at h
    · cases h; exact lv_l2i hx hb hd rfl (k ls H locs hlen hl hI)
    · cases h
  case lshl =>
    simp only [kS] at h
    split at h
    · cases h; exact lv_lshl hx hb hd rfl (k ls H locs hlen hl hI)
    · cases h
  case ladd => obtain ⟨x, y, r, rfl, rfl, rfl, rfl⟩ := kJ2_inv h; exact lv_ladd hx hb hd (k ls H locs hlen hl hI)
  case land => obtain ⟨x, y, r, rfl, rfl, rfl, rfl⟩ := kJ2_inv h; exact lv_land hx hb hd (k ls H locs hlen hl hI)
  case lor => obtain ⟨x, y, r, rfl, rfl, rfl, rfl⟩ := kJ2_inv h; exact lv_lor hx hb hd (k ls H locs hlen hl hI)
  case lcmp => obtain ⟨x, y, r, rfl, rfl, rfl, rfl⟩ := kJ2_inv h; exact W.lcmp hx hb hd (k ls H locs hlen hl hI)
  case dup => obtain ⟨v, r, rfl, h1, rfl, rfl, rfl⟩ := kDup_inv h; exact lv_dup hx hb hd (by rw [kV_cat]; exact h1) (k ls H locs hlen hl hI)
  case pop => obtain ⟨v, rfl, h1, rfl, rfl⟩ := kPop_inv h; exact lv_pop hx hb hd (by rw [kV_cat]; exact h1) (k ls H locs hlen hl hI)
  case dup2 => obtain ⟨v, w, r, rfl, h1, h2, rfl, rfl, rfl⟩ := kDup2_inv h; exact lv_dup2_11 hx hb hd (by rw [kV_cat]; exact h1) (by rw [kV_cat]; exact h2) (k ls H locs hlen hl hI)
  case getfield n =>
    obtain ⟨q, r, fs, v, rfl, h1, h2, rfl, rfl, rfl⟩ := kGet_inv h
    obtain ⟨⟨C, T, N⟩, w1, w2, w3, w4, w5⟩ := hw
    exact va_get (D := D) (cl := cl) (ci := a) (C := C) (T := T) (N := N) (ref := C) hx hb htb w5 hown hK hI.1 q (kW_at h1) w1 b w2 (htb _ w4) (fun x hx' => by rw [w3] at hx'; exact hx') (v := kV ad v) (by rw [List.getElem?_map, h2]; rfl) hd (k ls H locs hlen hl hI)
  case putfield n =>
    obtain ⟨v, q, fs, rfl, h1, h2, h3, rfl, rfl⟩ := kPut_inv h
    obtain ⟨⟨C, T, N⟩, ty0, w1, w2, w3, w4, w5, w6, w7, w8, w9⟩ := hw
    have hfit : narrow (ty0 b) (kV ad v) = kV ad v ∧ fits (ty0 b) (kV ad v) = true := by
      rcases w9 with ⟨z1, z2⟩ | ⟨z1, z2⟩ | ⟨z1, z2⟩
      · rw [z2]; subst z1
        cases v <;> simp [kFit] at h3
        exact ⟨rfl, rfl⟩
      · rw [z2]; subst z1
        cases v <;> simp [kFit] at h3
        rcases h3 with rfl | rfl
        · exact ⟨rfl, rfl⟩
        · exact ⟨rfl, rfl⟩
      · rw [z2]; subst z1
        cases v <;> simp [kFit] at h3
        exact ⟨rfl, rfl⟩
    exact va_put (D := D) (cl := cl) (ci := a) (C := C) (T := T) (N := N) (ref := C) hx hb htb w5 ty0 w7 w8 hown hK hI.1 hI.2.1 hI.2.2 q (kW_at h1) w1 b w2 (htb _ w4) (fun x hx' => by rw [w3] at hx'; exact hx') w6 (v := kV ad v) (w7 b w2) hfit.1 hfit.2 (by rw [List.length_map]; exact h2) hd
      (fun H' locs' hP hD hS => k ls H' locs' hlen hl ⟨by rw [kW_put]; simpa [kC, List.map_set] using hP, by rw [kW_put]; simpa [kC, List.map_set] using hD, hS⟩)
  case getstatic n =>
    cases h
    obtain ⟨C, nm, host, w1, w2⟩ := hw
    rcases w2 with w2 | w2
    · exact va_gets hx hb (hz.1 _ w1) hI.2.2 hown (htb _ w2) (fun _ q => q) hd (k ls H locs hlen hl hI)
    · exact va_getsN hx hb (hz.1 _ w1) hI.2.2 hown (va_Nw.use rfl (hz.2 _ w2).1) (fun _ q => q) hd (k ls H locs hlen hl hI)
  case arraylength =>
    obtain ⟨q, r, n, rfl, h1, rfl, rfl, rfl⟩ := kAl_inv h
    unfold kLen at h1
    split at h1
    · rename_i x hx0
      cases h1
      exact va_tlen hx hb (hro _ _ hx0) hI.2.2 rfl hd (k ls H locs hlen hl hI)
    · split at h1
      · rename_i x hx0
        split at h1
        · rename_i h5
          cases h1
          obtain ⟨t, n, f⟩ := x
          dsimp only at h5
          have ht : (kTy tc)[t]? = some (tc t, ([.int, .long, .byte, .boolean, .short] : List FieldType).getD t .int) := by
            rcases (show t = 0 ∨ t = 1 ∨ t = 2 ∨ t = 3 ∨ t = 4 by omega) with rfl | rfl | rfl | rfl | rfl <;> rfl
          exact va_alen hx hb hK hI.1 q t (kW_at hx0) ht rfl hd (k ls H locs hlen hl hI)
        · cases h1
      · cases h1
  case iaload =>
    obtain ⟨j, q, r, x, rfl, h1, h2, rfl, rfl, rfl⟩ := kAi_inv h
    unfold kRd at h1
    split at h1
    · rename_i y hy
      cases h1
      exact va_ti hx hb (hro _ _ hy) hI.2.2 h2 rfl hd (k ls H locs hlen hl hI)
    · exact va_iald hx hb hK hI.1 q 0 (kW_at (kArr_inv h1)) rfl h2 hd (k ls H locs hlen hl hI)
  case baload =>
    obtain ⟨j, q, r, x, rfl, h1, h2, rfl, rfl, rfl⟩ := kAt_inv h
    rcases hw with rfl | rfl
    · exact va_bald hx hb hK hI.1 q 2 (kW_at (kArr_inv h1)) rfl h2 hd (k ls H locs hlen hl hI)
    · exact va_zald hx hb hK hI.1 q 3 (kW_at (kArr_inv h1)) rfl h2 hd (k ls H locs hlen hl hI)
  case saload =>
    obtain ⟨j, q, r, x, rfl, h1, h2, rfl, rfl, rfl⟩ := kAt_inv h
    exact va_sald hx hb hK hI.1 q 4 (kW_at (kArr_inv h1)) rfl h2 hd (k ls H locs hlen hl hI)
  case laload =>
    obtain ⟨j, q, r, x, rfl, h1, h2, rfl, rfl, rfl⟩ := kAj_inv h
    exact va_lald hx hb hK hI.1 q 1 (kW_at (kArrL_inv h1)) rfl h2 hd (k ls H locs hlen hl hI)
  case iastore =>
    obtain ⟨v, j, q, x, rfl, h1, h2, rfl, rfl⟩ := kBt_inv h
    exact va_iast hx hb hK hI.1 hI.2.1 hI.2.2 q 0 (kW_at (kArr_inv h1)) rfl h2 hd (fun H' locs' hP hD hS => k ls H' locs' hlen hl ⟨by rw [kW_put]; exact hP, by rw [kW_put]; exact hD, hS⟩)
  case bastore =>
    obtain ⟨v, j, q, x, rfl, h1, h2, rfl, rfl⟩ := kBt_inv h
    rcases hw with rfl | rfl
    · exact va_bast hx hb hK hI.1 hI.2.1 hI.2.2 q 2 (kW_at (kArr_inv h1)) rfl h2 hd (fun H' locs' hP hD hS => k ls H' locs' hlen hl ⟨by rw [kW_put]; exact hP, by rw [kW_put]; exact hD, hS⟩)
    · exact va_zast hx hb hK hI.1 hI.2.1 hI.2.2 q 3 (kW_at (kArr_inv h1)) rfl h2 hd (fun H' locs' hP hD hS => k ls H' locs' hlen hl ⟨by rw [kW_put]; exact hP, by rw [kW_put]; exact hD, hS⟩)
  case sastore =>
    obtain ⟨v, j, q, x, rfl, h1, h2, rfl, rfl⟩ := kBt_inv h
    exact va_sast hx hb hK hI.1 hI.2.1 hI.2.2 q 4 (kW_at (kArr_inv h1)) rfl h2 hd (fun H' locs' hP hD hS => k ls H' locs' hlen hl ⟨by rw [kW_put]; exact hP, by rw [kW_put]; exact hD, hS⟩)
  case lastore =>
    obtain ⟨v, j, q, x, rfl, h1, h2, rfl, rfl⟩ := kBj_inv h
    exact va_last hx hb hK hI.1 hI.2.1 hI.2.2 q 1 (kW_at (kArrL_inv h1)) rfl h2 hd (fun H' locs' hP hD hS => k ls H' locs' hlen hl ⟨by rw [kW_put]; exact hP, by rw [kW_put]; exact hD, hS⟩)
  case invokestatic n =>
    obtain ⟨hw1, hw2, hw3⟩ := hw
    simp only [kS, kNat] at h
    by_cases a1 : a = 1
    · rw [if_pos a1] at h
      obtain ⟨x, y, r, rfl, h1, rfl, rfl, rfl⟩ := kMx_inv h
      obtain ⟨w1, w2, w3, w4⟩ := hw1 a1
      exact va_mmax hx hb hls hown (htb _ w1) (htb _ w2) (htb _ w3) (htb _ w4) hR.1 (by have := kSum_le ad r; have := hR.2.1; omega) hR.2.2.1 hR.2.2.2 hd (k ls H locs hlen hl hI)
    · rw [if_neg a1] at h
      by_cases a2 : a = 2
      · rw [if_pos a2] at h
        obtain ⟨x, y, r, rfl, h1, rfl, rfl, rfl⟩ := kMx_inv h
        obtain ⟨w1, w2, w3, w4⟩ := hw2 a2
        exact va_mmin hx hb hls hown (htb _ w1) (htb _ w2) (htb _ w3) (htb _ w4) hR.1 (by have := kSum_le ad r; have := hR.2.1; omega) hR.2.2.1 hR.2.2.2 hd (k ls H locs hlen hl hI)
      · rw [if_neg a2] at h
        have hnw : nativeFrameWords "java/lang/System" "arraycopy" 5 + 11 ≤ 50 := by decide
        by_cases a3 : a = 3
        · rw [if_pos a3] at h
          obtain ⟨w1, w2, w3, w4⟩ := hw3 (Or.inl a3)
          obtain ⟨n', dp, q1, sp, q0, x, y, rfl, g0, g1, g2, g3, g4, g5, g6, g7, rfl, rfl⟩ := kCpI_inv h
          exact va_copyi hx hb hls hown (htb _ w1) (htb _ w2) (htb _ w3) (htb _ w4) hK hI.1 hI.2.1 hI.2.2 q0 q1 0 0 (ty := .int) (kW_at (kArr_inv g0)) (kW_at (kArr_inv g1)) rfl rfl rfl g3 g4 g5 g6 g7 (fun _ _ => rfl) hR.1 (by have := kSum_le ad st'; have := hR.2.1; omega) hd
            (fun H' locs' hP hD hS => k ls H' locs' hlen hl ⟨by rw [kW_put]; exact hP, by rw [kW_put]; exact hD, hS⟩)
        · rw [if_neg a3] at h
          by_cases a4 : a = 4
          · rw [if_pos a4] at h
            obtain ⟨w1, w2, w3, w4⟩ := hw3 (Or.inr a4)
            obtain ⟨n', dp, q1, sp, q0, x, y, rfl, g0, g1, g2, g3, g4, g5, g6, g7, rfl, rfl⟩ := kCpL_inv h
            exact va_copyl hx hb hls hown (htb _ w1) (htb _ w2) (htb _ w3) (htb _ w4) hK hI.1 hI.2.1 hI.2.2 q0 q1 1 1 (ty := .long) (kW_at (kArrL_inv g0)) (kW_at (kArrL_inv g1)) rfl rfl rfl g3 g4 g5 g6 g7 (fun _ _ => rfl) hR.1 (by have := kSum_le ad st'; have := hR.2.1; omega) hd
              (fun H' locs' hP hD hS => k ls H' locs' hlen hl ⟨by rw [kW_put]; exact hP, by rw [kW_put]; exact hD, hS⟩)
          · rw [if_neg a4] at h; cases h
  all_goals exact absurd h (by simp [kS])
end KSnd
end
section
/-! THE ENGINE IS SOUND: blocks, calls, methods -/
abbrev kMi : Type := MethodName × ByteArray × Nat × Option FieldType × Nat × Bool × Nat
def kRm (d : Nat) : Room := { frames := d, cells := 0, slots := 0, locals := 64 * d }
def kTb (pc : Nat) : Int → List Int → List (Int32 × Nat) → Prop
  | _, [], [] => True
  | lo, o :: os, q :: r => q.1.toInt = lo ∧ (pc : Int) + o = (q.2 : Int) ∧ kTb pc (lo + 1) os r
  | _, _, _ => False
def kLk (pc : Nat) : List (Int × Int) → List (Int32 × Nat) → Prop
  | [], [] => True
  | o :: os, q :: r => q.1.toInt = o.1 ∧ (pc : Int) + o.2 = (q.2 : Int) ∧ kLk pc os r
  | _, _ => False
def kRok (i : Instr) (a : Nat) (ret : Option FieldType) : Prop := match i with
  | .ireturn => (a = 0 ∧ ret = some .int) ∨ (a = 1 ∧ ret = some .boolean)
  | .lreturn => ret = some .long
  | .return_ => ret = none
  | _ => False
def kCok (tbl : List Jvm.Cond) (zs : kZt) (mi : Nat → Option kMi) (M : kMi) (pc a b : Nat) : Prop := ∃ (M' : kMi) (idx : Nat), mi a = some M' ∧
  ((M'.2.2.2.2.2.1 = true ∧ b = M'.2.2.2.2.1 ∧ decode M.2.1 pc = .ok (.invokestatic idx, 3) ∧ (Jvm.Cond.methodLink M.1.cls idx M'.1 ∈ tbl ∨ ∃ host, Jvm.Cond.methodLinkNest M.1.cls idx M'.1 host ∈ zs.2))
    ∨ (M'.2.2.2.2.2.1 = false ∧ b = M'.2.2.2.2.1 + 1 ∧ decode M.2.1 pc = .ok (.invokevirtual idx, 3) ∧ Jvm.Cond.methodLink M.1.cls idx M'.1 ∈ tbl))
def kOk (tbl : List Jvm.Cond) (cl : List vw_C) (zs : kZt) (mi : Nat → Option kMi) (M : kMi) : Nat → List kIt → Prop
  | _, [] => True
  | pc, (_, .inl (i, a, b, z)) :: is => decode M.2.1 pc = .ok (i, kLn i) ∧ kWd tbl cl M.1.cls zs i a b z ∧ kOk tbl cl zs mi M (pc + kLn i) is
  | pc, (_, .inr (i, k, a, b, sw)) :: is =>
      (k = 0 → (∃ cd off, (i = .ifCond cd off ∨ i = .if_icmp cd off) ∧ (pc : Int) + off = (a : Int)) ∧ decode M.2.1 pc = .ok (i, 3) ∧ kOk tbl cl zs mi M (pc + 3) is)
    ∧ (k = 1 → a = pc ∨ ∃ off, decode M.2.1 pc = .ok (.goto off, 3) ∧ (pc : Int) + off = (a : Int))
    ∧ (k = 2 → (∃ dflt lo hi offs len, decode M.2.1 pc = .ok (.tableswitch dflt lo hi offs, len) ∧ (pc : Int) + dflt = (a : Int) ∧ hi + 1 = lo + offs.toList.length ∧ kTb pc lo offs.toList sw)
        ∨ ∃ dflt ps len, decode M.2.1 pc = .ok (.lookupswitch dflt ps, len) ∧ (ps.toList.zip (ps.toList.drop 1)).all (fun (a, next) => a.1 < next.1) = true ∧ (pc : Int) + dflt = (a : Int) ∧ kLk pc ps.toList sw)
    ∧ (k = 3 → decode M.2.1 pc = .ok (i, 1) ∧ kRok i a M.2.2.2.1)
    ∧ (k = 4 → kCok tbl zs mi M pc a b ∧ kOk tbl cl zs mi M (pc + 3) is)
def kMok (tbl : List Jvm.Cond) (cl : List vw_C) (M : kMi) : Prop := plainName M.1.cls = true ∧ Jvm.Cond.code M.1 M.2.1 M.2.2.1 M.2.2.2.1 ∈ tbl ∧ Jvm.Cond.initialized M.1.cls ∈ tbl ∧ (M.1.cls ≠ "java/lang/invoke/MethodHandle" ∧ M.1.cls ≠ "java/lang/invoke/VarHandle")
  ∧ (parseMethodDescriptor M.1.desc).map (fun d => d.parameters.length) = some M.2.2.2.2.1 ∧ M.2.2.1 ≤ 45
  ∧ (M.2.2.2.2.2.1 = true → Jvm.Cond.static M.1 ∈ tbl) ∧ (M.2.2.2.2.2.1 = false → Jvm.Cond.instanceMethod M.1 ∈ tbl ∧ Jvm.Cond.selects M.1.cls M.1 M.1 ∈ tbl ∧ ∃ q : vw_C, cl[M.2.2.2.2.2.2]? = some q ∧ q.1 = M.1.cls)
theorem kSw_tb {α : Type} {k : Nat → α} {pc d : Nat} {x : Int32} : ∀ (offs : List Int) (lo : Int) (sw : List (Int32 × Nat)), kTb pc lo offs sw →
    ((x.toInt < lo ∨ lo + offs.length ≤ x.toInt) ∧ kSw k x d sw = k d) ∨ (¬ x.toInt < lo ∧ x.toInt < lo + offs.length ∧ ∃ (off : Int) (t : Nat), offs[(x.toInt - lo).toNat]? = some off ∧ (pc : Int) + off = (t : Int) ∧ kSw k x d sw = k t)
  | [], lo, [], _ => Or.inl ⟨by simp; omega, rfl⟩
  | [], lo, _ :: _, h => h.elim
  | _ :: _, lo, [], h => h.elim
  | o :: os, lo, q :: r, h => by
    obtain ⟨h1, h2, h3⟩ := h
    by_cases hq : x = q.1
    · right
      have hx : x.toInt = lo := by rw [hq]; exact h1
      refine ⟨by omega, by rw [List.length_cons]; omega, o, q.2, ?_, h2, ?_⟩
      · rw [show (x.toInt - lo).toNat = 0 by omega]; rfl
      · unfold kSw; rw [if_pos hq]
    · have hx : ¬ x.toInt = lo := fun z => hq (Int32.toInt_inj.mp (z.trans h1.symm))
      have e : kSw k x d (q :: r) = kSw k x d r := by
        show (if x = q.1 then k q.2 else kSw k x d r) = _
        rw [if_neg hq]
      rcases kSw_tb (k := k) (d := d) (x := x) os (lo + 1) r h3 with ⟨g1, g2⟩ | ⟨g1, g2, off, t, g3, g4, g5⟩
      · left
        exact ⟨by rw [List.length_cons]; omega, e.trans g2⟩
      · right
        refine ⟨by omega, by rw [List.length_cons]; omega, off, t, ?_, g4, e.trans g5⟩
        rw [show (x.toInt - lo).toNat = (x.toInt - (lo + 1)).toNat + 1 by omega]
        exact g3
theorem kSw_lk {α : Type} {k : Nat → α} {pc d : Nat} {dflt : Int} {x : Int32} (hd : (pc : Int) + dflt = (d : Int)) : ∀ (ps : List (Int × Int)) (sw : List (Int32 × Nat)), kLk pc ps sw → ∃ t : Nat, (pc : Int) + Op.lookupswitch.offset ps dflt x.toInt = (t : Int) ∧ kSw k x d sw = k t
  | [], [], _ => ⟨d, hd, rfl⟩
  | [], _ :: _, h => h.elim
  | _ :: _, [], h => h.elim
  | o :: os, q :: r, h => by
    obtain ⟨h1, h2, h3⟩ := h
    by_cases hq : x = q.1
    · refine ⟨q.2, ?_, ?_⟩
      · rw [Op.lookupswitch.offset_cons, if_pos (by rw [hq, h1])]; exact h2
      · unfold kSw; rw [if_pos hq]
    · obtain ⟨t, g1, g2⟩ := kSw_lk (k := k) (x := x) hd os r h3
      refine ⟨t, ?_, ?_⟩
      · rw [Op.lookupswitch.offset_cons, if_neg (fun z => hq (Int32.toInt_inj.mp (by rw [h1, z])))]; exact g1
      · show (if x = q.1 then k q.2 else kSw k x d r) = _
        rw [if_neg hq]; exact g2
section KSnd
variable {p : Program} {l : Launch} {e : Env} {R : Room} {s : State} {m : MethodId} {args : Array Value} {below : List Frame} {meth : Method} {c : Code} {cells slots : Nat} {Q : State → Prop} {H : Heap} {locs : List Loc}
variable {D : va_G} {cl : List vw_C} {A : Nat → Prop} {tc : Nat → ClassId} {ad : Nat → Nat} {ro : kRo} {Ts tbl : List Jvm.Cond} {zs : kZt} {pc : Nat} {ls : Array Slot}
/-- a method's start and end, over the lists -/
def kPc (D : va_G) (cl : List vw_C) (tc : Nat → ClassId) (ad : Nat → Nat) (ro : kRo) (zs : kZt) (as : List Value) (hp : kH) (sz : Nat) : Array Value → State → Prop :=
  va_Pc (as.map (kV ad)) (fun U => U.heap.size = sz ∧ va_P D cl (kW tc ad 0 hp) U.heap ∧ va_K D cl (kTy tc) U ∧ va_D (fun _ => True) (kW tc ad 0 hp) ∧ kRoOk ro ad (va_A (kW tc ad 0 hp) sz) U ∧ kZOk zs ad (va_A (kW tc ad 0 hp) sz) U)
def kQc (D : va_G) (cl : List vw_C) (tc : Nat → ClassId) (ad : Nat → Nat) (hp : kH) (sz : Nat) (r : Option Value) (hp' : kH) : Array Value → State → Outcome → State → Prop := fun _ st oc t =>
  oc = .returned (r.map (kV ad)) ∧ va_P D cl (kW tc ad 0 hp') t.heap ∧ va_D (va_A (kW tc ad 0 hp) sz) (kW tc ad 0 hp') ∧ va_F (va_A (kW tc ad 0 hp) sz) st t
def kMet (l : Launch) (D : va_G) (cl : List vw_C) (tc : Nat → ClassId) (ad : Nat → Nat) (ro : kRo) (tbl : List Jvm.Cond) (zs : kZt) (d : Nat) (M : kMi) (as : List Value) (hp : kH) (r : Option Value) (hp' : kH) : Prop :=
  ∀ sz, Met l M.1 (.code M.1 M.2.1 M.2.2.1 M.2.2.2.1 :: tbl) (kRm d) (kPc D cl tc ad ro zs as hp sz) (kQc D cl tc ad hp sz r hp') 0 0 (va_A (kW tc ad 0 hp) sz)
theorem kPc_blind (as : List Value) (hp : kH) (sz : Nat) : FrameBlind (kPc D cl tc ad ro zs as hp sz) := by
  intro a U g mk q
  obtain ⟨q0, q1, qP, qK, qD, qR, qZ⟩ := q
  exact ⟨q0, q1, qP, va_K.moved (u := U) (U := U.calling g mk a) (Vm.Alike.refl U.vm) qK, qD, fun x y h => (qR x y h).moved (u := U) (U := U.calling g mk a) (Vm.Alike.refl U.vm), fun x h => (qZ.1 x h).moved (u := U) (U := U.calling g mk a) (Vm.Alike.refl U.vm), qZ.2.same (u := U) (U := U.calling g mk a) rfl⟩
theorem kFree (hA : ∀ q : Nat, s.heap.size ≤ q → A q) {hp : kH} (hI : kIv D cl tc ad A s hp H locs) : ∀ q, va_A (kW tc ad 0 hp) H.size q → A q := by
  intro q h
  rcases h with ⟨k, e', h⟩ | h
  · exact hI.2.1.2 k (q, e') h
  · exact hA q (Nat.le_trans hI.2.2.1 h)
theorem kPc_of (hA : ∀ q : Nat, s.heap.size ≤ q → A q) (hK : va_K D cl (kTy tc) s) (hro : kRoOk ro ad A s) (hz : kZOk zs ad A s) {hp : kH} (hI : kIv D cl tc ad A s hp H locs) (as : List Value) {U : State} (hU : U.heap = H) (hW : s.WarmedH U.vm) : kPc D cl tc ad ro zs as hp H.size (as.map (kV ad)).toArray U := by
  have hF := kFree hA hI
  refine ⟨rfl, by rw [hU], by rw [hU]; exact hI.1, va_K.moved hW.alike hK, hI.2.1.weaken (fun _ _ _ _ => trivial), fun q x h => ?_, fun x h => ?_, hz.2.warm hW⟩
  · rw [hU]; exact (((hro q x h).kept (H1 := H) (fun a h1 h2 => hI.2.2.2.1 a h1 h2)).narrow hF).moved hW.alike
  · rw [hU]; exact (((hz.1 x h).kept (H1 := H) (fun a h1 h2 => hI.2.2.2.1 a h1 h2)).narrow hF).moved hW.alike
theorem kCall {rest : List Value} {st0 : List Value} {r : Option Value} {hp hp' : kH} {aa : Array Value} (hA : ∀ q : Nat, s.heap.size ≤ q → A q) (hI : kIv D cl tc ad A s hp H locs)
    (hr : va_Run p l e R s m args below meth c H locs cells slots 0 0 (F0 m pc ls st0) rest (kQc D cl tc ad hp H.size r hp' aa) (va_A (kW tc ad 0 hp) H.size))
    (kk : ∀ (H1 : Heap) (locs1 : List Loc), kIv D cl tc ad A s hp' H1 locs1 → W p l e R s m args below meth c H1 locs1 cells slots Q (F0 m (pc + 3) ls ((r.map (kV ad)).toList ++ rest))) : W p l e R s m args below meth c H locs cells slots Q (F0 m pc ls st0) := by
  have hF := kFree hA hI
  intro T hT X
  obtain ⟨v, st₀, t, T', L, h0, X', hL, e1, e2, ⟨hv, hP, hD, hz, hk⟩, st⟩ := hr T hT X
  cases hv
  rw [h0] at hz hk
  have hS := hI.2.2
  obtain ⟨t2, a1, b1⟩ := kk T'.heap (locs ++ L) ⟨by rw [e1]; exact hP, hD.weaken (fun _ q _ h => hF q.1 h), Nat.le_trans hS.1 (by rw [e1]; exact hz), fun q h1 h2 => by rw [e1, hk q (Nat.lt_of_lt_of_le h1 hS.1) (fun z => h2 (hF q z))]; exact hS.2.1 q h1 h2, fun q hq => by
      rcases List.mem_append.mp hq with h | h
      · exact hS.2.2 q h
      · exact hF _ (hL q h)⟩ T' rfl X'
  exact ⟨t2, st t2 a1, b1⟩
theorem kIf (hx : p.tables.exec = Jvm.exec) {cc : ByteArray} (hb : c.code = cc) {i : Instr} {cd : ClassFile.Cond} {off : Int} {a : Nat} {st : List Value} {w : Bool × List Value} (hi : i = .ifCond cd off ∨ i = .if_icmp cd off) (ha : (pc : Int) + off = (a : Int)) (hd : decode cc pc = .ok (i, 3)) (h : kCd i st = some w)
    (kt : w.1 = true → W p l e R s m args below meth c H locs cells slots Q (F0 m a ls (w.2.map (kV ad)))) (kf : w.1 = false → W p l e R s m args below meth c H locs cells slots Q (F0 m (pc + 3) ls (w.2.map (kV ad)))) : W p l e R s m args below meth c H locs cells slots Q (F0 m pc ls (st.map (kV ad))) := by
  rcases hi with rfl | rfl
  · simp only [kCd] at h
    split at h
    · cases h
      cases cd
      · exact lv_if_eq hx hb hd ha (fun q => kt (decide_eq_true q)) (fun q => kf (decide_eq_false q))
      · exact lv_if_ne hx hb hd ha (fun q => kt (decide_eq_true q)) (fun q => kf (decide_eq_false (fun z => z q)))
      · exact lv_if_lt hx hb hd ha (fun q => kt (decide_eq_true q)) (fun q => kf (decide_eq_false q))
      · exact lv_if_ge hx hb hd ha (fun q => kt (decide_eq_true q)) (fun q => kf (decide_eq_false q))
      · exact lv_if_gt hx hb hd ha (fun q => kt (decide_eq_true q)) (fun q => kf (decide_eq_false q))
      · exact lv_if_le hx hb hd ha (fun q => kt (decide_eq_true q)) (fun q => kf (decide_eq_false q))
    · cases h
  · simp only [kCd] at h
    split at h
    · cases h
      cases cd
      · exact lv_icmp_eq hx hb hd ha (fun q => kt (decide_eq_true q)) (fun q => kf (decide_eq_false q))
      · exact lv_icmp_ne hx hb hd ha (fun q => kt (decide_eq_true q)) (fun q => kf (decide_eq_false (fun z => z q)))
      · exact lv_icmp_lt hx hb hd ha (fun q => kt (decide_eq_true q)) (fun q => kf (decide_eq_false q))
      · exact lv_icmp_ge hx hb hd ha (fun q => kt (decide_eq_true q)) (fun q => kf (decide_eq_false q))
      · exact lv_icmp_gt hx hb hd ha (fun q => kt (decide_eq_true q)) (fun q => kf (decide_eq_false q))
      · exact lv_icmp_le hx hb hd ha (fun q => kt (decide_eq_true q)) (fun q => kf (decide_eq_false q))
    · cases h
set_option maxHeartbeats 4000000 in
theorem kX_ok (hx : p.tables.exec = Jvm.exec) {M : kMi} {mi : Nat → Option kMi} {E : kEo} {J : kJo} {r0 : kR} {d : Nat} (hb : c.code = M.2.1) (hml : c.maxLocals = M.2.2.1) (hown : s.vm.findClass M.1.cls = some m.cls) (hts : ∀ w ∈ Ts, w.before args s = true) (hT : ∀ w ∈ tbl, w ∈ Ts) (hG : ∀ w ∈ tbl, goodWord w = true)
    (hK : va_K D cl (kTy tc) s) (hro : kRoOk ro ad A s) (hz : kZOk zs ad A s) (hA : ∀ q : Nat, s.heap.size ≤ q → A q) (hR : d + 1 ≤ R.frames ∧ 64 * (d + 1) ≤ R.locals ∧ cells ≤ R.cells ∧ slots ≤ R.slots)
    (hMok : ∀ a M', mi a = some M' → kMok tbl cl M')
    (hE : ∀ a M' as hp r, mi a = some M' → E a as hp = some r → kMet l D cl tc ad ro tbl zs d M' as hp r.1 r.2 ∧ (M'.2.2.2.2.2.1 = false → ∃ q As fs, as = .ref q :: As ∧ hp[q]? = some (.inr (M'.2.2.2.2.2.2, fs))))
    (hJ : ∀ t lv st hp (ls : Array Slot) (H : Heap) (locs : List Loc), J t lv st hp = some r0 → lv.length = M.2.2.1 → lv_has ls M.2.2.1 (kLl ad 0 lv) → kIv D cl tc ad A s hp H locs → W p l e R s m args below meth c H locs cells slots Q (F0 m t ls (st.map (kV ad))))
    (hRet : ∀ i a pc st hp (ls : Array Slot) (H : Heap) (locs : List Loc), decode M.2.1 pc = .ok (i, 1) → kRok i a M.2.2.2.1 → kRt i a st hp = some r0 → kIv D cl tc ad A s hp H locs → W p l e R s m args below meth c H locs cells slots Q (F0 m pc ls (st.map (kV ad)))) :
    ∀ (is : List kIt) (pc : Nat) (lv : kL) (st : List Value) (hp : kH) (ls : Array Slot) (H : Heap) (locs : List Loc), kOk tbl cl zs mi M pc is → kX ro E J is lv st hp = some r0 → lv.length = M.2.2.1 → lv_has ls M.2.2.1 (kLl ad 0 lv) → kIv D cl tc ad A s hp H locs → W p l e R s m args below meth c H locs cells slots Q (F0 m pc ls (st.map (kV ad))) := by
  intro is
  induction is with
  | nil => intro pc lv st hp ls H locs _ h; cases h
  | cons it is ih =>
    intro pc lv st hp ls H locs hok h hlen hl hI
    obtain ⟨q, it⟩ := it
    cases it with
    | inl x =>
      obtain ⟨i, a, b, z⟩ := x
      obtain ⟨h1, h2, h3⟩ := hok
      unfold kX at h
      cases hs : kS ro i a b z lv st hp with
      | none => rw [hs] at h; cases h
      | some w =>
        rw [hs] at h
        obtain ⟨lv', st', hp'⟩ := w
        exact kS_ok hx hb hml hown hts hT hK hro hz ⟨by omega, by omega, hR.2.2.1, hR.2.2.2⟩ h2 h1 hs hlen hl hI (fun ls' H' locs' g1 g2 g3 => ih _ _ _ _ _ _ _ h3 h g1 g2 g3)
    | inr x =>
      obtain ⟨i, k, a, b, sw⟩ := x
      obtain ⟨o0, o1, o2, o3, o4⟩ := hok
      unfold kX at h
      by_cases h0 : k = 0
      · rw [if_pos h0] at h
        obtain ⟨⟨cd, off, hi, ha⟩, hd, hrest⟩ := o0 h0
        cases hs : kCd i st with
        | none => rw [hs] at h; cases h
        | some w =>
          rw [hs] at h
          dsimp only at h
          refine kIf hx hb hi ha hd hs (fun hw => ?_) (fun hw => ?_)
          · rw [if_pos hw] at h; exact hJ _ _ _ _ _ _ _ h hlen hl hI
          · rw [if_neg (by rw [hw]; decide)] at h; exact ih _ _ _ _ _ _ _ hrest h hlen hl hI
      · rw [if_neg h0] at h
        by_cases h1 : k = 1
        · rw [if_pos h1] at h
          rcases o1 h1 with rfl | ⟨off, hd, ha⟩
          · exact hJ _ _ _ _ _ _ _ h hlen hl hI
          · exact lv_goto hx hb hd ha (hJ _ _ _ _ _ _ _ h hlen hl hI)
        · rw [if_neg h1] at h
          by_cases h2 : k = 2
          · rw [if_pos h2] at h
            split at h
            · rename_i x r
              rcases o2 h2 with ⟨dflt, lo, hi, offs, len, hd, ha, hhi, htb⟩ | ⟨dflt, ps, len, hd, hsrt, ha, hlk⟩
              · rcases kSw_tb (k := fun t => J t lv r hp) (d := a) (x := x) _ _ _ htb with ⟨g1, g2⟩ | ⟨g1, g2, off, t, g3, g4, g5⟩
                · rw [g2] at h
                  exact lv_tableOut hx hb hd (by omega) ha (hJ _ _ _ _ _ _ _ h hlen hl hI)
                · rw [g5] at h
                  exact lv_tableIn hx hb hd g1 (by omega) (by rw [← Array.getElem?_toList]; exact g3) g4 (hJ _ _ _ _ _ _ _ h hlen hl hI)
              · obtain ⟨t, g1, g2⟩ := kSw_lk (k := fun t => J t lv r hp) (x := x) ha _ _ hlk
                rw [g2] at h
                exact lv_lookup hx hb hd hsrt rfl g1 (hJ _ _ _ _ _ _ _ h hlen hl hI)
            · cases h
          · rw [if_neg h2] at h
            by_cases h3 : k = 3
            · rw [if_pos h3] at h
              exact hRet _ _ _ _ _ _ _ _ (o3 h3).1 (o3 h3).2 h hI
            · rw [if_neg h3] at h
              by_cases h4 : k = 4
              · rw [if_pos h4] at h
                by_cases hln : b ≤ st.length ∧ st.length ≤ b + 4
                · rw [if_pos hln] at h
                  obtain ⟨⟨M', idx, hm, hcall⟩, hrest⟩ := o4 h4
                  cases hs : E a (st.take b).reverse hp with
                  | none => rw [hs] at h; cases h
                  | some w =>
                    rw [hs] at h
                    obtain ⟨hM, hrec⟩ := hE _ _ _ _ _ hm hs
                    obtain ⟨m1, m2, m3, m4, m5, m6, m7, m8⟩ := hMok _ _ hm
                    have htb : ∀ w ∈ tbl, w.before args s = true := fun w q => hts w (hT w q)
                    have hGI : GoodIn Ts (Jvm.Cond.code M'.1 M'.2.1 M'.2.2.1 M'.2.2.2.1 :: tbl) := by
                      intro w hw
                      rcases List.mem_cons.mp hw with rfl | hw
                      · exact ⟨hT _ m2, good_of_word (hG _ m2)⟩
                      · exact ⟨hT _ hw, good_of_word (hG _ hw)⟩
                    have hroom : (kRm d).frames + 1 ≤ R.frames ∧ 8 + (M'.2.2.1 + 11) + (kRm d).locals ≤ R.locals := ⟨hR.1, by have := hR.2.1; show 8 + (M'.2.2.1 + 11) + 64 * d ≤ R.locals; omega⟩
                    have hsum : (((st.drop b).map (kV ad)).map fun v => v.category).sum ≤ 8 := by
                      have := kSum_le ad (st.drop b)
                      rw [List.length_drop] at this
                      omega
                    have hst : st.map (kV ad) = (st.take b).map (kV ad) ++ (st.drop b).map (kV ad) := by rw [← List.map_append, List.take_append_drop]
                    have hgo : ∀ (H1 : Heap) (locs1 : List Loc), kIv D cl tc ad A s w.2 H1 locs1 → W p l e R s m args below meth c H1 locs1 cells slots Q (F0 m (pc + 3) ls ((w.1.map (kV ad)).toList ++ (st.drop b).map (kV ad))) := by
                      intro H1 locs1 hI1
                      have := ih (pc + 3) lv (w.1.toList ++ st.drop b) w.2 ls H1 locs1 hrest h hlen hl hI1
                      rw [List.map_append] at this
                      rw [show (w.1.map (kV ad)).toList = w.1.toList.map (kV ad) by cases w.1 <;> rfl]
                      exact this
                    rcases hcall with ⟨c1, c2, c3, c4⟩ | ⟨c1, c2, c3, c4⟩
                    · have hAs : ((st.take b).reverse.map (kV ad)).length = M'.2.2.2.2.1 := by
                        rw [List.length_map, List.length_reverse, List.length_take]; omega
                      have hpre : PreS s H (kPc D cl tc ad ro zs (st.take b).reverse hp H.size) ((st.take b).reverse.map (kV ad)) := ⟨kPc_blind _ _ _, fun U hU hW => kPc_of hA hK hro hz hI _ hU hW⟩
                      have hstk : st.map (kV ad) = ((st.take b).reverse.map (kV ad)).reverse ++ (st.drop b).map (kV ad) := by
                        rw [← List.map_reverse, List.reverse_reverse]; exact hst
                      rcases c4 with c4 | ⟨host, c4⟩
                      · exact kCall hA hI (va_runS (g := F0 m pc ls (st.map (kV ad))) ⟨hx, hb, hml, hown, hts⟩ (hM H.size) ⟨callB_of M'.2.2.2.2.1 hts hGI rfl rfl rfl (htb _ m3) (htb _ c4) ⟨m4.1, m4.2, m5⟩ hroom, htb _ (m7 c1)⟩ hpre rfl hAs hl.1 hstk (lv_room hsum) c3 ⟨hR.2.2.1, hR.2.2.2⟩) hgo
                      · exact kCall hA hI (va_runSN (g := F0 m pc ls (st.map (kV ad))) ⟨hx, hb, hml, hown, hts⟩ (hM H.size) ⟨va_cnB M'.2.2.2.2.1 hts hGI rfl rfl rfl (hz.2 _ c4).1 (htb _ m3) ⟨m4.1, m4.2, m5⟩ hroom, htb _ (m7 c1), trivial⟩ hpre rfl hAs hl.1 hstk (lv_room hsum) c3 ⟨hR.2.2.1, hR.2.2.2⟩) hgo
                    · obtain ⟨i1, i2, ⟨C', T', N'⟩, i3, i4⟩ := m8 c1
                      obtain ⟨q0, As, fs, e1, e2⟩ := hrec c1
                      have hAs : (As.map (kV ad)).length = M'.2.2.2.2.1 := by
                        have h9 := congrArg List.length e1
                        rw [List.length_reverse, List.length_take, List.length_cons] at h9
                        rw [List.length_map]; omega
                      have hpre : PreV s H M'.1.cls (ad q0) (kPc D cl tc ad ro zs (st.take b).reverse hp H.size) (As.map (kV ad)) := by
                        refine ⟨kPc_blind _ _ _, ?_, fun U hU hW => ?_⟩
                        · have := va_recv hK hI.1 i3 (kW_at e2)
                          rw [← i4]; exact this
                        · have := kPc_of hA hK hro hz hI (st.take b).reverse hU hW
                          rw [e1] at this ⊢
                          exact this
                      have hstk : st.map (kV ad) = (As.map (kV ad)).reverse ++ .ref (ad q0) :: (st.drop b).map (kV ad) := by
                        have h9 : st.take b = As.reverse ++ [.ref q0] := by
                          have := congrArg List.reverse e1
                          rw [List.reverse_reverse, List.reverse_cons] at this
                          exact this
                        rw [hst, h9, List.map_append, List.map_reverse, List.append_assoc]; rfl
                      exact kCall hA hI (va_runV (g := F0 m pc ls (st.map (kV ad))) ⟨hx, hb, hml, hown, hts⟩ (hM H.size) ⟨callB_of M'.2.2.2.2.1 hts hGI rfl rfl rfl (htb _ m3) (htb _ c4) ⟨m4.1, m4.2, m5⟩ hroom, htb _ i1, htb _ i2⟩ hpre rfl hAs hl.1 hstk (lv_room hsum) c3 ⟨hR.2.2.1, hR.2.2.2⟩) hgo
                · rw [if_neg hln] at h; cases h
              · rw [if_neg h4] at h; cases h
end KSnd
end
section
/-! THE ENGINE IS SOUND: methods, by the depth of their calls -/
theorem kLl_none (ad : Nat → Nat) : ∀ (k i : Nat), kLl ad i (List.replicate k none) = []
  | 0, i => rfl
  | k + 1, i => by rw [List.replicate_succ]; exact kLl_none ad k (i + 1)
theorem kLl_args (ad : Nat → Nat) (k : Nat) : ∀ (as : List Value) (i : Nat), kLl ad i ((as.flatMap fun v => if v.category = 2 then [some v, none] else [some v]) ++ List.replicate k none) = lv_args i (as.map (kV ad))
  | [], i => by simp [kLl_none, lv_args]
  | v :: r, i => by
    rw [List.flatMap_cons, List.append_assoc, List.map_cons]
    by_cases h : v.category = 2
    · have e : lv_args i (kV ad v :: r.map (kV ad)) = (i, kV ad v) :: lv_args (i + 2) (r.map (kV ad)) := by
        show (i, kV ad v) :: lv_args (if (kV ad v).category = 2 then i + 2 else i + 1) (r.map (kV ad)) = _
        rw [kV_cat, if_pos h]
      rw [if_pos h, e, ← kLl_args ad k r (i + 2)]
      rfl
    · have e : lv_args i (kV ad v :: r.map (kV ad)) = (i, kV ad v) :: lv_args (i + 1) (r.map (kV ad)) := by
        show (i, kV ad v) :: lv_args (if (kV ad v).category = 2 then i + 2 else i + 1) (r.map (kV ad)) = _
        rw [kV_cat, if_neg h]
      rw [if_neg h, e, ← kLl_args ad k r (i + 1)]
      rfl
theorem kSl_len (ad : Nat → Nat) : ∀ (as : List Value), (lg_sl (as.map (kV ad))).length = (as.flatMap fun v => if v.category = 2 then [some v, none] else [some v]).length
  | [] => rfl
  | v :: r => by
    have h := kSl_len ad r
    unfold lg_sl at h ⊢
    rw [List.map_cons, List.flatMap_cons, List.flatMap_cons, List.length_append, List.length_append, h, kV_cat]
    by_cases hc : v.category = 2
    · rw [if_pos hc, if_pos hc]; rfl
    · rw [if_neg hc, if_neg hc]; rfl
theorem kEnt_has (ad : Nat → Nat) (n : Nat) (as : List Value) (h : (kEnt n as).length = n) : lv_has ((lg_sl (as.map (kV ad)) ++ List.replicate (n - (lg_sl (as.map (kV ad))).length) Slot.unset).toArray) n (kLl ad 0 (kEnt n as)) := by
  have hl : (lg_sl (as.map (kV ad))).length ≤ n := by
    rw [kSl_len]
    unfold kEnt at h
    rw [List.length_append, List.length_replicate] at h
    omega
  have h1 := lv_entry (as.map (kV ad)) hl
  unfold kEnt
  rw [kLl_args]
  exact h1
section KSnd
variable {p : Program} {l : Launch} {e : Env} {R : Room} {s : State} {m : MethodId} {args : Array Value} {below : List Frame} {meth : Method} {c : Code} {cells slots : Nat} {Q : State → Prop} {H : Heap} {locs : List Loc}
variable {D : va_G} {cl : List vw_C} {A : Nat → Prop} {tc : Nat → ClassId} {ad : Nat → Nat} {ro : kRo} {Ts tbl : List Jvm.Cond} {zs : kZt} {pc : Nat} {ls : Array Slot}
theorem kU_ok (hx : p.tables.exec = Jvm.exec) {M : kMi} {mi : Nat → Option kMi} {E : kEo} {blk : Nat → Nat → List kIt} {mm : Nat} {r0 : kR} {d : Nat} (hb : c.code = M.2.1) (hml : c.maxLocals = M.2.2.1) (hown : s.vm.findClass M.1.cls = some m.cls) (hts : ∀ w ∈ Ts, w.before args s = true) (hT : ∀ w ∈ tbl, w ∈ Ts) (hG : ∀ w ∈ tbl, goodWord w = true)
    (hK : va_K D cl (kTy tc) s) (hro : kRoOk ro ad A s) (hz : kZOk zs ad A s) (hA : ∀ q : Nat, s.heap.size ≤ q → A q) (hR : d + 1 ≤ R.frames ∧ 64 * (d + 1) ≤ R.locals ∧ cells ≤ R.cells ∧ slots ≤ R.slots)
    (hMok : ∀ a M', mi a = some M' → kMok tbl cl M') (hblk : ∀ t, kOk tbl cl zs mi M t (blk mm t))
    (hE : ∀ a M' as hp r, mi a = some M' → E a as hp = some r → kMet l D cl tc ad ro tbl zs d M' as hp r.1 r.2 ∧ (M'.2.2.2.2.2.1 = false → ∃ q As fs, as = .ref q :: As ∧ hp[q]? = some (.inr (M'.2.2.2.2.2.2, fs))))
    (hRet : ∀ i a pc st hp (ls : Array Slot) (H : Heap) (locs : List Loc), decode M.2.1 pc = .ok (i, 1) → kRok i a M.2.2.2.1 → kRt i a st hp = some r0 → kIv D cl tc ad A s hp H locs → W p l e R s m args below meth c H locs cells slots Q (F0 m pc ls (st.map (kV ad))))
    {t : Nat} {lv : kL} {st : List Value} {hp : kH} (h : kU ro blk E mm t lv st hp = some r0) (hlen : lv.length = M.2.2.1) (hl : lv_has ls M.2.2.1 (kLl ad 0 lv)) (hI : kIv D cl tc ad A s hp H locs) :
    W p l e R s m args below meth c H locs cells slots Q (F0 m t ls (st.map (kV ad))) := by
  obtain ⟨n, hn⟩ := kU_iff.mp h
  clear h
  induction n generalizing t lv st hp ls H locs with
  | zero => cases hn
  | succ n ih => exact kX_ok hx hb hml hown hts hT hG hK hro hz hA hR hMok hE (fun t lv st hp ls H locs g1 g2 g3 g4 => ih g2 g3 g4 g1) hRet (blk mm t) t lv st hp ls H locs (hblk t) hn hlen hl hI
theorem kRc_inv {ci : Nat} {as : List Value} {hp : kH} (h : kRc (some ci) as hp = true) : ∃ q As fs, as = .ref q :: As ∧ hp[q]? = some (.inr (ci, fs)) := by
  unfold kRc at h
  dsimp only at h
  split at h
  · rename_i q As
    cases ho : kObj hp q ci with
    | none => rw [ho] at h; cases h
    | some fs => exact ⟨q, As, fs, rfl, kObj_inv ho⟩
  · cases h
set_option maxHeartbeats 4000000 in
theorem kM_ok {mi : Nat → Option kMi} {blk : Nat → Nat → List kIt} {mx : Nat → Nat} {rc : Nat → Option Nat} (hG : ∀ w ∈ tbl, goodWord w = true)
    (hMok : ∀ a M', mi a = some M' → kMok tbl cl M') (hblk : ∀ a M', mi a = some M' → ∀ t, kOk tbl cl zs mi M' t (blk a t)) (hmx : ∀ a M', mi a = some M' → mx a = M'.2.2.1 ∧ (M'.2.2.2.2.2.1 = false → rc a = some M'.2.2.2.2.2.2)) :
    ∀ (d : Nat) (a : Nat) (M' : kMi) (as : List Value) (hp : kH) (r : kR), mi a = some M' → kM ro blk mx rc d a as hp = some r → kMet l D cl tc ad ro tbl zs d M' as hp r.1 r.2 ∧ (M'.2.2.2.2.2.1 = false → ∃ q As fs, as = .ref q :: As ∧ hp[q]? = some (.inr (M'.2.2.2.2.2.2, fs))) := by
  intro d
  induction d with
  | zero =>
    intro a M' as hp r hm h
    unfold kM kMof at h
    split at h
    · cases h
    · cases h
  | succ d ih =>
    intro a M' as hp r hm h
    unfold kM kMof at h
    split at h
    · rename_i hc
      obtain ⟨hc1, hc2⟩ := hc
      obtain ⟨x1, x2⟩ := hmx a M' hm
      refine ⟨?_, fun hs => kRc_inv (by rw [← x2 hs]; exact hc2)⟩
      obtain ⟨y, cc, maxL, ret, n, sta, ci⟩ := M'
      dsimp only at x1
      intro sz
      have hmk := hMok a _ hm
      rw [x1] at hc1 h
      refine Met.ofW (cc := cc) (maxL := maxL) (ret := ret) hmk.1 rfl ?_
      intro p e s m args below meth c s₁ B hml hv
      obtain ⟨rfl, hsz, hP, hK, hD0, hro, hz⟩ := hv
      have hx := B.exec
      have hb := B.bytes
      have hr := B.returns
      have hts := atoms_spec (ws := Jvm.Cond.code y cc maxL ret :: tbl) B.pre
      have hown : s.vm.findClass y.cls = some m.cls := findClass_of_methodNamed B.named
      have hlocks := B.notSynchronized
      subst hsz
      have hD := hD0.self (sz := s.heap.size)
      have hA : ∀ q : Nat, s.heap.size ≤ q → va_A (kW tc ad 0 hp) s.heap.size q := fun q h => Or.inr h
      rw [lg_entry_eq]
      refine kU_ok (M := (y, cc, maxL, ret, n, sta, ci)) (mm := a) (r0 := r) (d := d) (st := []) (tbl := tbl) (mi := mi) hx hb hml hown hts (fun w q => List.mem_cons_of_mem _ q) hG hK hro hz hA ⟨Nat.le_refl _, Nat.le_refl _, Nat.le_refl _, Nat.le_refl _⟩ hMok (hblk a _ hm) ih ?_ h hc1 (kEnt_has ad maxL as hc1) ⟨hP, hD, va_S.rf⟩
      intro i a2 pc st hp2 ls H locs hd hrk hrt hI
      have hfin : ∀ (v : Option Value) (t : State), t.heap = H → r = (v, hp2) → kQc D cl tc ad hp s.heap.size r.1 r.2 (as.map (kV ad)).toArray s (.returned (v.map (kV ad))) t := by
        intro v t ht hr0
        rw [hr0]
        exact ⟨rfl, by rw [ht]; exact hI.1, hI.2.1, hI.2.2.F ht⟩
      cases i
      case ireturn =>
        simp only [kRt] at hrt
        split at hrt
        · rename_i x
          rcases hrk with ⟨z1, z2⟩ | ⟨z1, z2⟩
          · subst z1
            rw [if_pos rfl] at hrt
            exact W.iret (v := x) hx hb (hr.trans z2) (fun t ht _ => hfin (some (.int x)) t ht (Option.some.inj hrt).symm) hI.2.2.2.2 hd
          · subst z1
            rw [if_neg (by decide)] at hrt
            split at hrt
            · rename_i h01
              exact W.zret (v := x) hx hb (hr.trans z2) (by rcases h01 with rfl | rfl <;> rfl) (fun t ht _ => hfin (some (.int x)) t ht (Option.some.inj hrt).symm) hI.2.2.2.2 hd
            · cases hrt
        · cases hrt
      case lreturn =>
        simp only [kRt] at hrt
        split at hrt
        · rename_i x
          exact W.lret (v := x) hx hb (hr.trans hrk) (fun t ht _ => hfin (some (.long x)) t ht (Option.some.inj hrt).symm) hI.2.2.2.2 hd
        · cases hrt
      case return_ =>
        simp only [kRt] at hrt
        split at hrt
        · exact W.vret hx hb (hr.trans hrk) (fun t ht _ => hfin none t ht (Option.some.inj hrt).symm) hI.2.2.2.2 hd
        · cases hrt
      all_goals exact hrk.elim
    · cases h
end KSnd
end
section
/-! A CHECK of blocks by program: what it lets through is so (kOk) -/
/-- the tables of links of one file's own numbers: fields (idx, sort, place), fields that may be put (sort, place, kind), statics (idx, place), ints (idx, value), longs, calls (idx, method, how many, static), library calls (idx, which) -/
abbrev kTab : Type := List (Nat × Nat × Nat) × List (Nat × Nat) × List (Nat × Int) × List (Nat × Int) × List (Nat × Nat × Nat × Bool) × List (Nat × Nat)
def kWdB (tb : kTab) (pl : List (Nat × Nat × Int)) (i : Instr) (a b : Nat) (z : Int) : Bool := match i with
  | .bipush n => decide ((Int8.ofInt n).toInt32 = Int32.ofInt n)
  | .sipush n => decide ((Int16.ofInt n).toInt32 = Int32.ofInt n)
  | .ldc idx => decide ((idx, z) ∈ tb.2.2.1)
  | .ldc_w idx => decide ((idx, z) ∈ tb.2.2.1)
  | .ldc2_w idx => decide ((idx, z) ∈ tb.2.2.2.1)
  | .getfield idx => decide ((idx, a, b) ∈ tb.1)
  | .putfield idx => decide ((idx, a, b) ∈ tb.1) && decide ((a, b, z) ∈ pl)
  | .getstatic idx => decide ((idx, a) ∈ tb.2.1)
  | .baload => a == 2 || a == 3
  | .bastore => a == 2 || a == 3
  | .invokestatic idx => decide ((idx, a) ∈ tb.2.2.2.2.2)
  | _ => true
def kBrB (pc : Nat) (i : Instr) (a : Nat) : Bool := match i with
  | .ifCond _ off => decide ((pc : Int) + off = (a : Int))
  | .if_icmp _ off => decide ((pc : Int) + off = (a : Int))
  | _ => false
def kTbB (pc : Nat) : Int → List Int → List (Int32 × Nat) → Bool
  | _, [], [] => true
  | lo, o :: os, q :: r => decide (q.1.toInt = lo) && decide ((pc : Int) + o = (q.2 : Int)) && kTbB pc (lo + 1) os r
  | _, _, _ => false
def kLkB (pc : Nat) : List (Int × Int) → List (Int32 × Nat) → Bool
  | [], [] => true
  | o :: os, q :: r => decide (q.1.toInt = o.1) && decide ((pc : Int) + o.2 = (q.2 : Int)) && kLkB pc os r
  | _, _ => false
def kRokB (i : Instr) (a : Nat) (ret : Option FieldType) : Bool := match i with
  | .ireturn => (a == 0 && decide (ret = some .int)) || (a == 1 && decide (ret = some .boolean))
  | .lreturn => decide (ret = some .long)
  | .return_ => decide (ret = none)
  | _ => false
def kGoB (cc : ByteArray) (pc a : Nat) : Bool := a == pc || (match decode cc pc with
  | .ok (.goto off, n) => n == 3 && decide ((pc : Int) + off = (a : Int))
  | _ => false)
def kSwB (cc : ByteArray) (pc a : Nat) (sw : List (Int32 × Nat)) : Bool := match decode cc pc with
  | .ok (.tableswitch dflt lo hi offs, _) => decide ((pc : Int) + dflt = (a : Int)) && decide (hi + 1 = lo + offs.toList.length) && kTbB pc lo offs.toList sw
  | .ok (.lookupswitch dflt ps, _) => (ps.toList.zip (ps.toList.drop 1)).all (fun (a, next) => a.1 < next.1) && decide ((pc : Int) + dflt = (a : Int)) && kLkB pc ps.toList sw
  | _ => false
def kCaB (tb : kTab) (cc : ByteArray) (pc a b : Nat) : Bool := match decode cc pc with
  | .ok (.invokestatic idx, n) => n == 3 && decide ((idx, a, b, true) ∈ tb.2.2.2.2.1)
  | .ok (.invokevirtual idx, n) => n == 3 && decide ((idx, a, b, false) ∈ tb.2.2.2.2.1)
  | _ => false
def kOkB (tb : kTab) (pl : List (Nat × Nat × Int)) (cc : ByteArray) (ret : Option FieldType) : Nat → List kIt → Bool
  | _, [] => true
  | pc, (_, .inl (i, a, b, z)) :: is => decide (decode cc pc = .ok (i, kLn i)) && (kWdB tb pl i a b z && kOkB tb pl cc ret (pc + kLn i) is)
  | pc, (_, .inr (i, k, a, b, sw)) :: is =>
    if k = 0 then decide (decode cc pc = .ok (i, 3)) && (kBrB pc i a && kOkB tb pl cc ret (pc + 3) is)
    else if k = 1 then kGoB cc pc a
    else if k = 2 then kSwB cc pc a sw
    else if k = 3 then decide (decode cc pc = .ok (i, 1)) && kRokB i a ret
    else if k = 4 then kCaB tb cc pc a b && kOkB tb pl cc ret (pc + 3) is
    else true
/-- what the tables of links stand for -/
def kTabOk (tbl : List Jvm.Cond) (cl : List vw_C) (zs : kZt) (mi : Nat → Option kMi) (own : String) (tb : kTab) : Prop :=
  (∀ x ∈ tb.1, ∃ q : vw_C, cl[x.2.1]? = some q ∧ x.2.2 < q.2.2 ∧ (q.2.1 x.2.2).1 = q.1 ∧ Jvm.Cond.fieldLink own x.1 q.1 (q.2.1 x.2.2).2.1 (q.2.1 x.2.2).2.2.1 ∈ tbl)
  ∧ (∀ x ∈ tb.2.1, ∃ C n host : String, (C, n, x.2) ∈ zs.1 ∧ (Jvm.Cond.fieldLink own x.1 C n "[I" ∈ tbl ∨ Jvm.Cond.fieldLinkNest own x.1 C n "[I" host ∈ zs.2))
  ∧ (∀ x ∈ tb.2.2.1, Jvm.Cond.constant own x.1 (Int32.ofInt x.2) ∈ tbl)
  ∧ (∀ x ∈ tb.2.2.2.1, Jvm.Cond.constantLong own x.1 (Int64.ofInt x.2) ∈ tbl)
  ∧ (∀ x ∈ tb.2.2.2.2.1, ∃ M' : kMi, mi x.2.1 = some M' ∧ M'.2.2.2.2.2.1 = x.2.2.2 ∧ x.2.2.1 = (if x.2.2.2 = true then M'.2.2.2.2.1 else M'.2.2.2.2.1 + 1) ∧ (Jvm.Cond.methodLink own x.1 M'.1 ∈ tbl ∨ (x.2.2.2 = true ∧ ∃ host, Jvm.Cond.methodLinkNest own x.1 M'.1 host ∈ zs.2)))
  ∧ (∀ x ∈ tb.2.2.2.2.2, ((x.2 = 1 → Jvm.Cond.methodLink own x.1 Lib.Math.max.name ∈ tbl ∧ Jvm.Cond.static Lib.Math.max.name ∈ tbl ∧ Jvm.Cond.initialized "java/lang/Math" ∈ tbl ∧ Jvm.Cond.code Lib.Math.max.name Lib.Math.max.code 2 (some .int) ∈ tbl)
      ∧ (x.2 = 2 → Jvm.Cond.methodLink own x.1 Lib.Math.min.name ∈ tbl ∧ Jvm.Cond.static Lib.Math.min.name ∈ tbl ∧ Jvm.Cond.initialized "java/lang/Math" ∈ tbl ∧ Jvm.Cond.code Lib.Math.min.name Lib.Math.min.code 2 (some .int) ∈ tbl)
      ∧ (x.2 = 3 ∨ x.2 = 4 → Jvm.Cond.methodLink own x.1 arraycopyName ∈ tbl ∧ Jvm.Cond.native arraycopyName ∈ tbl ∧ Jvm.Cond.static arraycopyName ∈ tbl ∧ Jvm.Cond.initialized "java/lang/System" ∈ tbl)))
def kPlOk (cl : List vw_C) (pl : List (Nat × Nat × Int)) : Prop := ∀ x ∈ pl, ∃ (q : vw_C) (ty0 : Nat → FieldType), cl[x.1]? = some q ∧ (q.2.1 x.2.1).2.2.2 = false ∧ (∀ k, k < q.2.2 → parseFieldDescriptor (q.2.1 k).2.2.1 = some (ty0 k)) ∧ (∀ a, a < q.2.2 → ∀ b, b < q.2.2 → a ≠ b → (q.2.1 a).2.1 ≠ (q.2.1 b).2.1) ∧ ((x.2.2 = 0 ∧ ty0 x.2.1 = .int) ∨ (x.2.2 = 1 ∧ ty0 x.2.1 = .boolean) ∨ (x.2.2 = 2 ∧ ty0 x.2.1 = .array .int))
def kClOk (tbl : List Jvm.Cond) (cl : List vw_C) : Prop := ∀ (a : Nat) (q : vw_C), cl[a]? = some q → ∀ w ∈ u_ws q.1 q.2.1 q.2.2, w ∈ tbl
section KChk
variable {tbl : List Jvm.Cond} {cl : List vw_C} {zs : kZt} {mi : Nat → Option kMi} {own : String} {tb : kTab} {pl : List (Nat × Nat × Int)}
theorem kWdB_ok (hT : kTabOk tbl cl zs mi own tb) (hP : kPlOk cl pl) (hC : kClOk tbl cl) {i : Instr} {a b : Nat} {z : Int} (h : kWdB tb pl i a b z = true) : kWd tbl cl own zs i a b z := by
  obtain ⟨t1, t2, t3, t4, t5, t6⟩ := hT
  cases i
  case bipush n =>
    have h' : decide ((Int8.ofInt n).toInt32 = Int32.ofInt n) = true := h
    have h2 := of_decide_eq_true h'
    exact h2
  case sipush n =>
    have h' : decide ((Int16.ofInt n).toInt32 = Int32.ofInt n) = true := h
    have h2 := of_decide_eq_true h'
    exact h2
  case ldc n => exact t3 _ (of_decide_eq_true h)
  case ldc_w n => exact t3 _ (of_decide_eq_true h)
  case ldc2_w n => exact t4 _ (of_decide_eq_true h)
  case getfield n =>
    obtain ⟨q, h1, h2, h3, h4⟩ := t1 _ (of_decide_eq_true h)
    exact ⟨q, h1, h2, h3, h4, hC _ _ h1⟩
  case putfield n =>
    have h := Bool.and_eq_true_iff.mp h
    obtain ⟨q, h1, h2, h3, h4⟩ := t1 _ (of_decide_eq_true h.1)
    obtain ⟨q', ty0, g1, g2, g3, g4, g5⟩ := hP _ (of_decide_eq_true h.2)
    cases h1.symm.trans g1
    exact ⟨q, ty0, h1, h2, h3, h4, hC _ _ h1, g2, g3, g4, g5⟩
  case getstatic n => exact t2 _ (of_decide_eq_true h)
  case baload =>
    simp only [kWdB, Bool.or_eq_true, beq_iff_eq] at h
    exact h
  case bastore =>
    simp only [kWdB, Bool.or_eq_true, beq_iff_eq] at h
    exact h
  case invokestatic n => exact t6 _ (of_decide_eq_true h)
  all_goals trivial
theorem kTbB_ok {pc : Nat} : ∀ (lo : Int) (os : List Int) (sw : List (Int32 × Nat)), kTbB pc lo os sw = true → kTb pc lo os sw
  | _, [], [], _ => trivial
  | lo, o :: os, q :: r, h => by
    simp only [kTbB, Bool.and_eq_true, decide_eq_true_eq] at h
    exact ⟨h.1.1, h.1.2, kTbB_ok _ _ _ h.2⟩
  | _, [], _ :: _, h => by cases h
  | _, _ :: _, [], h => by cases h
theorem kLkB_ok {pc : Nat} : ∀ (os : List (Int × Int)) (sw : List (Int32 × Nat)), kLkB pc os sw = true → kLk pc os sw
  | [], [], _ => trivial
  | o :: os, q :: r, h => by
    simp only [kLkB, Bool.and_eq_true, decide_eq_true_eq] at h
    exact ⟨h.1.1, h.1.2, kLkB_ok _ _ h.2⟩
  | [], _ :: _, h => by cases h
  | _ :: _, [], h => by cases h
theorem kRokB_ok {i : Instr} {a : Nat} {ret : Option FieldType} (h : kRokB i a ret = true) : kRok i a ret := by
  cases i
  case ireturn =>
    simp only [kRokB, Bool.or_eq_true, Bool.and_eq_true, beq_iff_eq, decide_eq_true_eq] at h
    exact h
  case lreturn =>
    have h' : decide (ret = some .long) = true := h
    have h2 := of_decide_eq_true h'
    exact h2
  case return_ =>
    have h' : decide (ret = none) = true := h
    have h2 := of_decide_eq_true h'
    exact h2
  all_goals cases h
theorem kOkB_ok {M : kMi} (hown : M.1.cls = own) (hT : kTabOk tbl cl zs mi own tb) (hP : kPlOk cl pl) (hC : kClOk tbl cl) : ∀ (is : List kIt) (pc : Nat), kOkB tb pl M.2.1 M.2.2.2.1 pc is = true → kOk tbl cl zs mi M pc is
  | [], pc, _ => trivial
  | (_, .inl (i, a, b, z)) :: is, pc, h => by
    simp only [kOkB, Bool.and_eq_true, decide_eq_true_eq] at h
    exact ⟨h.1, by rw [hown]; exact kWdB_ok hT hP hC h.2.1, kOkB_ok hown hT hP hC is _ h.2.2⟩
  | (_, .inr (i, k, a, b, sw)) :: is, pc, h => by
    unfold kOkB at h
    refine ⟨fun h0 => ?_, fun h1 => ?_, fun h2 => ?_, fun h3 => ?_, fun h4 => ?_⟩
    · rw [if_pos h0] at h
      simp only [Bool.and_eq_true, decide_eq_true_eq] at h
      refine ⟨?_, h.1, kOkB_ok hown hT hP hC is _ h.2.2⟩
      have hb := h.2.1
      cases i
      case ifCond cd off => exact ⟨cd, off, Or.inl rfl, of_decide_eq_true hb⟩
      case if_icmp cd off => exact ⟨cd, off, Or.inr rfl, of_decide_eq_true hb⟩
      all_goals cases hb
    · subst h1
      rw [if_neg (by decide), if_pos rfl] at h
      unfold kGoB at h
      rw [Bool.or_eq_true] at h
      rcases h with h | h
      · exact Or.inl (by simpa using h)
      · split at h
        · rename_i off n hd
          simp only [Bool.and_eq_true, beq_iff_eq, decide_eq_true_eq] at h
          obtain ⟨rfl, h⟩ := h
          exact Or.inr ⟨off, hd, h⟩
        · cases h
    · subst h2
      rw [if_neg (by decide), if_neg (by decide), if_pos rfl] at h
      unfold kSwB at h
      split at h
      · rename_i dflt lo hi offs len hd
        simp only [Bool.and_eq_true, decide_eq_true_eq] at h
        exact Or.inl ⟨dflt, lo, hi, offs, len, hd, h.1.1, h.1.2, kTbB_ok _ _ _ h.2⟩
      · rename_i dflt ps len hd
        rw [Bool.and_eq_true, Bool.and_eq_true] at h
        exact Or.inr ⟨dflt, ps, len, hd, h.1.1, of_decide_eq_true h.1.2, kLkB_ok _ _ h.2⟩
      · cases h
    · subst h3
      rw [if_neg (by decide), if_neg (by decide), if_neg (by decide), if_pos rfl] at h
      simp only [Bool.and_eq_true, decide_eq_true_eq] at h
      exact ⟨h.1, kRokB_ok h.2⟩
    · subst h4
      rw [if_neg (by decide), if_neg (by decide), if_neg (by decide), if_neg (by decide), if_pos rfl] at h
      rw [Bool.and_eq_true] at h
      refine ⟨?_, kOkB_ok hown hT hP hC is _ h.2⟩
      have hc := h.1
      unfold kCaB at hc
      split at hc
      · rename_i idx n hd
        simp only [Bool.and_eq_true, beq_iff_eq, decide_eq_true_eq] at hc
        obtain ⟨rfl, hc⟩ := hc
        obtain ⟨M', g1, g2, g3, g4⟩ := hT.2.2.2.2.1 _ hc
        refine ⟨M', idx, g1, Or.inl ⟨g2, g3, hd, ?_⟩⟩
        rw [hown]
        rcases g4 with g4 | ⟨-, g4⟩
        · exact Or.inl g4
        · exact Or.inr g4
      · rename_i idx n hd
        simp only [Bool.and_eq_true, beq_iff_eq, decide_eq_true_eq] at hc
        obtain ⟨rfl, hc⟩ := hc
        obtain ⟨M', g1, g2, g3, g4⟩ := hT.2.2.2.2.1 _ hc
        refine ⟨M', idx, g1, Or.inr ⟨g2, g3, hd, ?_⟩⟩
        rw [hown]
        rcases g4 with g4 | ⟨g5, -⟩
        · exact g4
        · cases g5
      · cases hc
end KChk
def kLook (t : Nat) : List (Nat × List kIt) → List kIt
  | [] => []
  | q :: r => if q.1 = t then q.2 else kLook t r
theorem kLook_all {f : Nat → List kIt → Bool} (h0 : ∀ t, f t [] = true) {t : Nat} : ∀ (bs : List (Nat × List kIt)), bs.all (fun q => f q.1 q.2) = true → f t (kLook t bs) = true
  | [], _ => h0 t
  | q :: r, h => by
    rw [List.all_cons, Bool.and_eq_true] at h
    unfold kLook
    split
    · rename_i hq; rw [← hq]; exact h.1
    · exact kLook_all h0 r h.2
end
section
/-! THE STORE: a fixed shape of cells, their ints by place and index; what must hold ahead of a block (zX), and that the engine then runs -/
abbrev zV : Type := Int ⊕ (Nat ⊕ Int)
abbrev zL : Type := List (Option zV)
abbrev zSt : Type := Nat → Nat → Int
abbrev zC : Type := (Nat × Nat) ⊕ (Nat × List (Option (Option Nat)))
abbrev zQ : Type := Option zV → zSt → Prop
abbrev zEo : Type := Nat → List zV → zSt → zQ → Prop
abbrev zJo : Type := Nat → zL → List zV → zSt → zQ → Prop
def zv (v : zV) : Value := match v with
  | .inl x => .int (Int32.ofInt x)
  | .inr (.inl q) => .ref q
  | .inr (.inr x) => .long (Int64.ofInt x)
def zM (lv : zL) : kL := lv.map (fun o => o.map zv)
def zSv (f : Nat → Int) (b : Nat) (t : Option (Option Nat)) : Value := match t with
  | none => .int (Int32.ofInt (f b))
  | some (some q) => .ref q
  | some none => .ref (f b).toNat
def zSl (f : Nat → Int) : Nat → List (Option (Option Nat)) → List Value
  | _, [] => []
  | b, t :: r => zSv f b t :: zSl f (b + 1) r
def zCe (f : Nat → Int) (c : zC) : kE := match c with
  | .inl x => .inl (x.1, x.2, if x.1 = 1 then .inr (.inl (fun j => Int64.ofInt (f j))) else .inl (fun j => Int32.ofInt (f j)))
  | .inr o => .inr (o.1, zSl f 0 o.2)
def zH (s : zSt) : Nat → List zC → kH
  | _, [] => []
  | q, c :: r => zCe (s q) c :: zH s (q + 1) r
def zU (s : zSt) (q k : Nat) (v : Int) : zSt := fun q' => if q' = q then (fun k' => if k' = k then v else s q k') else s q'
def zF (s : zSt) (q : Nat) (f : Nat → Int) : zSt := fun q' => if q' = q then f else s q'
theorem zU_at (s : zSt) (q k : Nat) (v : Int) : zU s q k v q = fun k' => if k' = k then v else s q k' := if_pos rfl
theorem zU_ne {q q' : Nat} (h : q' ≠ q) (s : zSt) (k : Nat) (v : Int) : zU s q k v q' = s q' := if_neg h
theorem zF_at (s : zSt) (q : Nat) (f : Nat → Int) : zF s q f q = f := if_pos rfl
theorem zF_ne {q q' : Nat} (h : q' ≠ q) (s : zSt) (f : Nat → Int) : zF s q f q' = s q' := if_neg h
theorem zH_len (s : zSt) : ∀ (sh : List zC) (q : Nat), (zH s q sh).length = sh.length
  | [], _ => rfl
  | _ :: r, q => by simp only [zH, List.length_cons, zH_len s r]
theorem zH_get (s : zSt) : ∀ (sh : List zC) (q0 q : Nat), (zH s q0 sh)[q]? = (sh[q]?).map (zCe (s (q0 + q)))
  | [], q0, q => by simp [zH]
  | c :: r, q0, 0 => by simp [zH]
  | c :: r, q0, q + 1 => by
    have h := zH_get s r (q0 + 1) q
    simp only [zH, List.getElem?_cons_succ, h]
    rw [show q0 + 1 + q = q0 + (q + 1) by omega]
theorem zH_at {s : zSt} {sh : List zC} {q : Nat} {c : zC} (h : sh[q]? = some c) : (zH s 0 sh)[q]? = some (zCe (s q) c) := by
  rw [zH_get, h, Nat.zero_add]; rfl
theorem zH_put {s s' : zSt} {sh : List zC} {q : Nat} {c : zC} (hc : sh[q]? = some c) (h : ∀ q', q' ≠ q → s' q' = s q') : (zH s 0 sh).set q (zCe (s' q) c) = zH s' 0 sh := by
  apply List.ext_getElem?
  intro i
  rw [zH_get, Nat.zero_add]
  by_cases hi : q = i
  · subst hi
    rw [List.getElem?_set_self (by rw [zH_len]; exact (List.getElem?_eq_some_iff.mp hc).1), hc]; rfl
  · rw [List.getElem?_set_ne hi, zH_get, Nat.zero_add, h i (fun e => hi e.symm)]
def zR (x : Int) : Prop := -2147483648 ≤ x ∧ x ≤ 2147483647
def zR64 (x : Int) : Prop := -9223372036854775808 ≤ x ∧ x ≤ 9223372036854775807
def zVok (v : zV) : Prop := match v with
  | .inl x => zR x
  | .inr (.inl _) => True
  | .inr (.inr x) => zR64 x
def zLong (sh : List zC) (q : Nat) : Bool := match sh[q]? with
  | some (.inl x) => Nat.beq x.1 1
  | _ => false
def zSok (sh : List zC) (s : zSt) : Prop := ∀ q j, (zLong sh q = true → zR64 (s q j)) ∧ (zLong sh q = false → zR (s q j))
def zLok (lv : zL) : Prop := ∀ v, some v ∈ lv → zVok v
def zTok (st : List zV) : Prop := ∀ v ∈ st, zVok v
def zro (ro : Nat → Option (List Int)) : kRo := fun q => (ro q).map (fun l => (l.length, fun j => Int32.ofInt (l.getD j 0)))
/-! ints that wrap -/
def wr (x : Int) : Int := (x + 2147483648) % 4294967296 - 2147483648
def wl (x : Int) : Int := (x + 9223372036854775808) % 18446744073709551616 - 9223372036854775808
def w8 (x : Int) : Int := (x + 128) % 256 - 128
def w16 (x : Int) : Int := (x + 32768) % 65536 - 32768
theorem wr_bmod (x : Int) : wr x = x.bmod 4294967296 := by
  unfold wr
  rw [Int.bmod_def]
  split <;> omega
theorem wl_bmod (x : Int) : wl x = x.bmod 18446744073709551616 := by
  unfold wl
  rw [Int.bmod_def]
  split <;> omega
theorem w8_bmod (x : Int) : w8 x = x.bmod 256 := by
  unfold w8
  rw [Int.bmod_def]
  split <;> omega
theorem w16_bmod (x : Int) : w16 x = x.bmod 65536 := by
  unfold w16
  rw [Int.bmod_def]
  split <;> omega
theorem wr_R (x : Int) : zR (wr x) := by unfold wr zR; omega
theorem wl_R (x : Int) : zR64 (wl x) := by unfold wl zR64; omega
theorem wr_id {x : Int} (h : zR x) : wr x = x := by unfold wr; unfold zR at h; omega
theorem wl_id {x : Int} (h : zR64 x) : wl x = x := by unfold wl; unfold zR64 at h; omega
theorem z32 {x : Int} (h : zR x) : (Int32.ofInt x).toInt = x := Int32.toInt_ofInt_of_le (by have := h.1; omega) (by have := h.2; omega)
theorem z64 {x : Int} (h : zR64 x) : (Int64.ofInt x).toInt = x := Int64.toInt_ofInt_of_le (by have := h.1; omega) (by have := h.2; omega)
theorem z32w (x : Int) : (Int32.ofInt x).toInt = wr x := by rw [Int32.toInt_ofInt, wr_bmod]
theorem z64w (x : Int) : (Int64.ofInt x).toInt = wl x := by rw [Int64.toInt_ofInt, wl_bmod]
theorem zof_wr (x : Int) : Int32.ofInt (wr x) = Int32.ofInt x := by rw [← z32w, Int32.ofInt_toInt]
theorem zof_wl (x : Int) : Int64.ofInt (wl x) = Int64.ofInt x := by rw [← z64w, Int64.ofInt_toInt]
theorem zR_of (x : Int32) : zR x.toInt := by
  have h1 := x.toInt_lt
  have h2 := x.le_toInt
  unfold zR
  omega
theorem zR64_of (x : Int64) : zR64 x.toInt := by
  have h1 := x.toInt_lt
  have h2 := x.le_toInt
  unfold zR64
  omega
theorem z_lt {x y : Int} (hx : zR x) (hy : zR y) : Int32.ofInt x < Int32.ofInt y ↔ x < y := by rw [Int32.lt_iff_toInt_lt, z32 hx, z32 hy]
theorem z_le {x y : Int} (hx : zR x) (hy : zR y) : Int32.ofInt x ≤ Int32.ofInt y ↔ x ≤ y := by rw [Int32.le_iff_toInt_le, z32 hx, z32 hy]
theorem z_eq {x y : Int} (hx : zR x) (hy : zR y) : Int32.ofInt x = Int32.ofInt y ↔ x = y := by rw [← Int32.toInt_inj, z32 hx, z32 hy]
theorem z_eq64 {x y : Int} (hx : zR64 x) (hy : zR64 y) : Int64.ofInt x = Int64.ofInt y ↔ x = y := by rw [← Int64.toInt_inj, z64 hx, z64 hy]
theorem z_lt64 {x y : Int} (hx : zR64 x) (hy : zR64 y) : Int64.ofInt x < Int64.ofInt y ↔ x < y := by rw [Int64.lt_iff_toInt_lt, z64 hx, z64 hy]
theorem zR0 : zR 0 := by unfold zR; omega
theorem z_nat {x : Int} (hx : zR x) : (Int32.ofInt x).toNatClampNeg = x.toNat := by rw [← Int32.toNat_toInt, z32 hx]
/-- an index within -/
theorem z_in {j : Int} {n : Nat} (hj : zR j) (h : 0 ≤ j ∧ j < (n : Int)) : ¬ (Int32.ofInt j < 0 ∨ n ≤ (Int32.ofInt j).toNatClampNeg) := by
  rw [z_nat hj, show (0 : Int32) = Int32.ofInt 0 from rfl, z_lt hj zR0]
  omega
def zRb (n : Int) : Bool := match n with
  | .ofNat k => Nat.ble k 2147483647
  | .negSucc k => Nat.ble k 2147483647
def zRb64 (n : Int) : Bool := match n with
  | .ofNat k => Nat.ble k 9223372036854775807
  | .negSucc k => Nat.ble k 9223372036854775807
theorem zRb_ok {n : Int} (h : zRb n = true) : zR n := by
  unfold zR
  cases n with
  | ofNat k =>
    have := Nat.le_of_ble_eq_true h
    rw [Int.ofNat_eq_natCast]
    omega
  | negSucc k => have := Nat.le_of_ble_eq_true h; omega
theorem zRb64_ok {n : Int} (h : zRb64 n = true) : zR64 n := by
  unfold zR64
  cases n with
  | ofNat k =>
    have := Nat.le_of_ble_eq_true h
    rw [Int.ofNat_eq_natCast]
    omega
  | negSucc k => have := Nat.le_of_ble_eq_true h; omega
/-! one instruction -/
abbrev zK : Type := zL → List zV → zSt → Prop
def zLd (lv : zL) (i : Nat) : Option zV := match lv[i]? with
  | some (some v) => some v
  | _ => none
def zClr (lv : zL) (i : Nat) : zL := match i with
  | 0 => lv
  | j + 1 => match lv[j]? with
    | some (some (.inr (.inr _))) => lv.set j none
    | _ => lv
def zSt1 (lv : zL) (i : Nat) (v : zV) : zL := (zClr lv i).set i (some v)
def zSt2 (lv : zL) (i : Nat) (v : zV) : zL := ((zClr lv i).set i (some v)).set (i + 1) none
def zPush (b : Bool) (v : zV) (lv : zL) (st : List zV) (s : zSt) (K : zK) : Prop := cond b (K lv (v :: st) s) False
def zPi (lv : zL) (st : List zV) (s : zSt) (i : Nat) (K : zK) : Prop := match zLd lv i with
  | some (.inl x) => K lv (.inl x :: st) s
  | _ => False
def zPl (lv : zL) (st : List zV) (s : zSt) (i : Nat) (K : zK) : Prop := match zLd lv i with
  | some (.inr (.inr x)) => K lv (.inr (.inr x) :: st) s
  | _ => False
def zPa (lv : zL) (st : List zV) (s : zSt) (i : Nat) (K : zK) : Prop := match zLd lv i with
  | some (.inr (.inl x)) => K lv (.inr (.inl x) :: st) s
  | _ => False
def zTi (lv : zL) (st : List zV) (s : zSt) (i : Nat) (K : zK) : Prop := match st with
  | .inl x :: r => cond (Nat.blt i lv.length) (K (zSt1 lv i (.inl x)) r s) False
  | _ => False
def zTa (lv : zL) (st : List zV) (s : zSt) (i : Nat) (K : zK) : Prop := match st with
  | .inr (.inl x) :: r => cond (Nat.blt i lv.length) (K (zSt1 lv i (.inr (.inl x))) r s) False
  | _ => False
def zTl (lv : zL) (st : List zV) (s : zSt) (i : Nat) (K : zK) : Prop := match st with
  | .inr (.inr x) :: r => cond (Nat.blt (i + 1) lv.length) (K (zSt2 lv i (.inr (.inr x))) r s) False
  | _ => False
def zInc (lv : zL) (st : List zV) (s : zSt) (i : Nat) (n : Int) (K : zK) : Prop := match zLd lv i with
  | some (.inl x) => K (zSt1 lv i (.inl (wr (x + n)))) st s
  | _ => False
def zI1 (lv : zL) (st : List zV) (s : zSt) (f : Int → zV) (K : zK) : Prop := match st with
  | .inl x :: r => K lv (f x :: r) s
  | _ => False
def zI2 (lv : zL) (st : List zV) (s : zSt) (f : Int → Int → Int) (K : zK) : Prop := match st with
  | .inl y :: .inl x :: r => K lv (.inl (f x y) :: r) s
  | _ => False
def zJ2 (lv : zL) (st : List zV) (s : zSt) (f : Int → Int → zV) (K : zK) : Prop := match st with
  | .inr (.inr y) :: .inr (.inr x) :: r => K lv (f x y :: r) s
  | _ => False
def zDiv (lv : zL) (st : List zV) (s : zSt) (f : Int → Int → Int) (K : zK) : Prop := match st with
  | .inl y :: .inl x :: r => if y = 0 then False else K lv (.inl (f x y) :: r) s
  | _ => False
def zCat (v : zV) : Bool := match v with
  | .inr (.inr _) => false
  | _ => true
def zDup (lv : zL) (st : List zV) (s : zSt) (K : zK) : Prop := match st with
  | v :: r => cond (zCat v) (K lv (v :: v :: r) s) False
  | _ => False
def zPop (lv : zL) (st : List zV) (s : zSt) (K : zK) : Prop := match st with
  | v :: r => cond (zCat v) (K lv r s) False
  | _ => False
def zDup2 (lv : zL) (st : List zV) (s : zSt) (K : zK) : Prop := match st with
  | v :: w :: r => cond (zCat v && zCat w) (K lv (v :: w :: v :: w :: r) s) False
  | _ => False
def zOb (sh : List zC) (q a b : Nat) (k : Option (Option Nat) → Prop) : Prop := match sh[q]? with
  | some (.inr o) => cond (Nat.beq o.1 a) (match o.2[b]? with
    | some t => k t
    | none => False) False
  | _ => False
def zGet (sh : List zC) (lv : zL) (st : List zV) (s : zSt) (a b : Nat) (K : zK) : Prop := match st with
  | .inr (.inl q) :: r => zOb sh q a b (fun t => match t with
    | none => K lv (.inl (s q b) :: r) s
    | some (some x) => K lv (.inr (.inl x) :: r) s
    | some none => K lv (.inr (.inl (s q b).toNat) :: r) s)
  | _ => False
def zPut (sh : List zC) (lv : zL) (st : List zV) (s : zSt) (a b : Nat) (z : Int) (K : zK) : Prop := match st with
  | .inl x :: .inr (.inl q) :: r => zOb sh q a b (fun t => match t with
    | none => (match z with
      | 0 => K lv r (zU s q b x)
      | 1 => (x = 0 ∨ x = 1) ∧ K lv r (zU s q b x)
      | _ => False)
    | _ => False)
  | .inr (.inl x) :: .inr (.inl q) :: r => zOb sh q a b (fun t => match t with
    | some none => (match z with
      | 2 => cond (Nat.ble x 2147483647) (K lv r (zU s q b (x : Int))) False
      | _ => False)
    | _ => False)
  | _ => False
def zAr (sh : List zC) (q t : Nat) (k : Nat → Prop) : Prop := match sh[q]? with
  | some (.inl x) => cond (Nat.beq x.1 t) (k x.2) False
  | _ => False
def zRd (sh : List zC) (ro : Nat → Option (List Int)) (s : zSt) (q : Nat) (k : Nat → (Nat → Int) → Prop) : Prop := match ro q with
  | some l => k l.length (fun j => l.getD j 0)
  | none => zAr sh q 0 (fun n => k n (s q))
def zAl (sh : List zC) (ro : Nat → Option (List Int)) (lv : zL) (st : List zV) (s : zSt) (K : zK) : Prop := match st with
  | .inr (.inl q) :: r => (match ro q with
    | some l => cond (Nat.ble l.length 2147483647) (K lv (.inl (l.length : Int) :: r) s) False
    | none => match sh[q]? with
      | some (.inl x) => cond (Nat.ble x.2 2147483647 && Nat.blt x.1 5) (K lv (.inl (x.2 : Int) :: r) s) False
      | _ => False)
  | _ => False
def zAi (sh : List zC) (ro : Nat → Option (List Int)) (lv : zL) (st : List zV) (s : zSt) (K : zK) : Prop := match st with
  | .inl j :: .inr (.inl q) :: r => zRd sh ro s q (fun n f => 0 ≤ j ∧ j < (n : Int) ∧ K lv (.inl (f j.toNat) :: r) s)
  | _ => False
def zAt (sh : List zC) (lv : zL) (st : List zV) (s : zSt) (t : Nat) (K : zK) : Prop := match st with
  | .inl j :: .inr (.inl q) :: r => cond (Nat.beq t 1) False (zAr sh q t (fun n => 0 ≤ j ∧ j < (n : Int) ∧ K lv (.inl (s q j.toNat) :: r) s))
  | _ => False
def zAj (sh : List zC) (lv : zL) (st : List zV) (s : zSt) (K : zK) : Prop := match st with
  | .inl j :: .inr (.inl q) :: r => zAr sh q 1 (fun n => 0 ≤ j ∧ j < (n : Int) ∧ K lv (.inr (.inr (s q j.toNat)) :: r) s)
  | _ => False
def zBt (sh : List zC) (lv : zL) (st : List zV) (s : zSt) (t : Nat) (g : Int → Int) (K : zK) : Prop := match st with
  | .inl v :: .inl j :: .inr (.inl q) :: r => cond (Nat.beq t 1) False (zAr sh q t (fun n => 0 ≤ j ∧ j < (n : Int) ∧ K lv r (zU s q j.toNat (g v))))
  | _ => False
def zBj (sh : List zC) (lv : zL) (st : List zV) (s : zSt) (K : zK) : Prop := match st with
  | .inr (.inr v) :: .inl j :: .inr (.inl q) :: r => zAr sh q 1 (fun n => 0 ≤ j ∧ j < (n : Int) ∧ K lv r (zU s q j.toNat v))
  | _ => False
def zCpF (f g : Nat → Int) (sp dp n : Nat) : Nat → Int := fun k => if dp ≤ k ∧ k < dp + n then f (sp + (k - dp)) else g k
def zCp (sh : List zC) (lv : zL) (st : List zV) (s : zSt) (t : Nat) (K : zK) : Prop := match st with
  | .inl n :: .inl dp :: .inr (.inl q1) :: .inl sp :: .inr (.inl q0) :: r => cond (Nat.ble r.length 4) (zAr sh q0 t (fun x => zAr sh q1 t (fun y => 0 ≤ sp ∧ 0 ≤ dp ∧ 0 ≤ n ∧ sp + n ≤ (x : Int) ∧ dp + n ≤ (y : Int) ∧ K lv r (zF s q1 (zCpF (s q0) (s q1) sp.toNat dp.toNat n.toNat))))) False
  | _ => False
def zMx (lv : zL) (st : List zV) (s : zSt) (f : Int → Int → Int) (K : zK) : Prop := match st with
  | .inl y :: .inl x :: r => cond (Nat.ble r.length 4) (K lv (.inl (f x y) :: r) s) False
  | _ => False
def zNat (sh : List zC) (lv : zL) (st : List zV) (s : zSt) (a : Nat) (K : zK) : Prop := match a with
  | 1 => zMx lv st s (fun x y => max x y) K
  | 2 => zMx lv st s (fun x y => min x y) K
  | 3 => zCp sh lv st s 0 K
  | 4 => zCp sh lv st s 1 K
  | _ => False
def zAnd (x y : Int) : Int := (Int32.ofInt x &&& Int32.ofInt y).toInt
def zOr (x y : Int) : Int := (Int32.ofInt x ||| Int32.ofInt y).toInt
def zXor (x y : Int) : Int := (Int32.ofInt x ^^^ Int32.ofInt y).toInt
def zShl (x y : Int) : Int := (Int32.ofInt x <<< (Int32.ofInt y &&& 31)).toInt
def zUsh (x y : Int) : Int := (((Int32.ofInt x).toUInt32 >>> ((Int32.ofInt y).toUInt32 &&& Int32.toUInt32 31)).toInt32).toInt
def zAndL (x y : Int) : Int := (Int64.ofInt x &&& Int64.ofInt y).toInt
def zOrL (x y : Int) : Int := (Int64.ofInt x ||| Int64.ofInt y).toInt
def zShlL (x y : Int) : Int := (Int64.ofInt x <<< ((Int32.ofInt y).toInt64 &&& 63)).toInt
def zBz (v : Int) : Int := zAnd v 1
def zS (sh : List zC) (ro : Nat → Option (List Int)) (i : Instr) (a b : Nat) (z : Int) (lv : zL) (st : List zV) (s : zSt) (K : zK) : Prop :=
  match i with
  | .iconst n => zPush (zRb n) (.inl n) lv st s K
  | .bipush n => zPush (zRb n) (.inl n) lv st s K
  | .sipush n => zPush (zRb n) (.inl n) lv st s K
  | .lconst n => zPush (Nat.ble n 1) (.inr (.inr ((n : Nat) : Int))) lv st s K
  | .ldc _ => zPush (zRb z) (.inl z) lv st s K
  | .ldc_w _ => zPush (zRb z) (.inl z) lv st s K
  | .ldc2_w _ => zPush (zRb64 z) (.inr (.inr z)) lv st s K
  | .iload_n k => zPi lv st s k K
  | .iload k => zPi lv st s k K
  | .lload_n k => zPl lv st s k K
  | .lload k => zPl lv st s k K
  | .aload_n k => zPa lv st s k K
  | .aload k => zPa lv st s k K
  | .istore_n k => zTi lv st s k K
  | .istore k => zTi lv st s k K
  | .astore_n k => zTa lv st s k K
  | .lstore k => zTl lv st s k K
  | .iinc k n => zInc lv st s k n K
  | .iadd => zI2 lv st s (fun x y => wr (x + y)) K
  | .isub => zI2 lv st s (fun x y => wr (x - y)) K
  | .imul => zI2 lv st s (fun x y => wr (x * y)) K
  | .iand => zI2 lv st s zAnd K
  | .ior => zI2 lv st s zOr K
  | .ixor => zI2 lv st s zXor K
  | .ishl => zI2 lv st s zShl K
  | .iushr => zI2 lv st s zUsh K
  | .idiv => zDiv lv st s (fun x y => wr (x.tdiv y)) K
  | .irem => zDiv lv st s (fun x y => wr (x.tmod y)) K
  | .ineg => zI1 lv st s (fun x => .inl (wr (-x))) K
  | .i2l => zI1 lv st s (fun x => .inr (.inr x)) K
  | .i2b => zI1 lv st s (fun x => .inl (w8 x)) K
  | .i2s => zI1 lv st s (fun x => .inl (w16 x)) K
  | .l2i => (match st with
    | .inr (.inr x) :: r => K lv (.inl (wr x) :: r) s
    | _ => False)
  | .ladd => zJ2 lv st s (fun x y => .inr (.inr (wl (x + y)))) K
  | .land => zJ2 lv st s (fun x y => .inr (.inr (zAndL x y))) K
  | .lor => zJ2 lv st s (fun x y => .inr (.inr (zOrL x y))) K
  | .lcmp => zJ2 lv st s (fun x y => .inl (if y < x then 1 else if x = y then 0 else -1)) K
  | .lshl => (match st with
    | .inl y :: .inr (.inr x) :: r => K lv (.inr (.inr (zShlL x y)) :: r) s
    | _ => False)
  | .dup => zDup lv st s K
  | .pop => zPop lv st s K
  | .dup2 => zDup2 lv st s K
  | .getfield _ => zGet sh lv st s a b K
  | .putfield _ => zPut sh lv st s a b z K
  | .getstatic _ => K lv (.inr (.inl a) :: st) s
  | .arraylength => zAl sh ro lv st s K
  | .iaload => zAi sh ro lv st s K
  | .baload => zAt sh lv st s a K
  | .saload => zAt sh lv st s 4 K
  | .laload => zAj sh lv st s K
  | .iastore => zBt sh lv st s 0 (fun x => x) K
  | .bastore => (match a with
    | 2 => zBt sh lv st s 2 w8 K
    | 3 => zBt sh lv st s 3 zBz K
    | _ => False)
  | .sastore => zBt sh lv st s 4 w16 K
  | .lastore => zBj sh lv st s K
  | .invokestatic _ => zNat sh lv st s a K
  | _ => False
def zCm (c : ClassFile.Cond) (x y : Int) : Prop := match c with
  | .eq => x = y
  | .ne => ¬ x = y
  | .lt => x < y
  | .ge => y ≤ x
  | .gt => y < x
  | .le => x ≤ y
def zCd (i : Instr) (st : List zV) (k : Prop → List zV → Prop) : Prop := match i with
  | .ifCond c _ => (match st with
    | .inl x :: r => k (zCm c x 0) r
    | _ => False)
  | .if_icmp c _ => (match st with
    | .inl y :: .inl x :: r => k (zCm c x y) r
    | _ => False)
  | _ => False
def zSw (k : Nat → Prop) (x : Int) (d : Nat) : List (Int32 × Nat) → Prop
  | [] => k d
  | q :: r => (x = q.1.toInt → k q.2) ∧ (¬ x = q.1.toInt → zSw k x d r)
def zRt (i : Instr) (a : Nat) (st : List zV) (s : zSt) (Q : zQ) : Prop := match i with
  | .ireturn => (match st with
    | [.inl x] => (match a with
      | 0 => Q (some (.inl x)) s
      | _ => (x = 0 ∨ x = 1) ∧ Q (some (.inl x)) s)
    | _ => False)
  | .lreturn => (match st with
    | [.inr (.inr x)] => Q (some (.inr (.inr x))) s
    | _ => False)
  | .return_ => (match st with
    | [] => Q none s
    | _ => False)
  | _ => False
def zAp (r : Option zV) (st : List zV) : List zV := match r with
  | some v => v :: st
  | none => st
def zX (sh : List zC) (ro : Nat → Option (List Int)) (E : zEo) (J : zJo) : List kIt → zL → List zV → zSt → zQ → Prop
  | [], _, _, _, _ => False
  | (_, .inl (i, a, b, z)) :: is, lv, st, s, Q => zS sh ro i a b z lv st s (fun lv st s => zX sh ro E J is lv st s Q)
  | (_, .inr (i, k, a, b, sw)) :: is, lv, st, s, Q => match k with
    | 0 => zCd i st (fun c r => (c → J a lv r s Q) ∧ (¬ c → zX sh ro E J is lv r s Q))
    | 1 => J a lv st s Q
    | 2 => (match st with
      | .inl x :: r => zSw (fun t => J t lv r s Q) x a sw
      | _ => False)
    | 3 => zRt i a st s Q
    | 4 => cond (Nat.ble b st.length && Nat.ble st.length (b + 4)) (E a (st.take b).reverse s (fun r s' => zX sh ro E J is lv (zAp r (st.drop b)) s' Q)) False
    | _ => False
end
section
/-! THE STORE, sound: what must hold ahead of a block makes the engine run, and the store moves as told -/
theorem zSl_len (f : Nat → Int) : ∀ (ss : List (Option (Option Nat))) (b : Nat), (zSl f b ss).length = ss.length
  | [], _ => rfl
  | _ :: r, b => by simp only [zSl, List.length_cons, zSl_len f r]
theorem zSl_get (f : Nat → Int) : ∀ (ss : List (Option (Option Nat))) (b0 b : Nat), (zSl f b0 ss)[b]? = (ss[b]?).map (zSv f (b0 + b))
  | [], b0, b => by simp [zSl]
  | c :: r, b0, 0 => by simp [zSl]
  | c :: r, b0, b + 1 => by
    have h := zSl_get f r (b0 + 1) b
    simp only [zSl, List.getElem?_cons_succ, h]
    rw [show b0 + 1 + b = b0 + (b + 1) by omega]
theorem zSl_put {f f' : Nat → Int} {ss : List (Option (Option Nat))} {b : Nat} {t : Option (Option Nat)} (hc : ss[b]? = some t) (h : ∀ b', b' ≠ b → f' b' = f b') : (zSl f 0 ss).set b (zSv f' b t) = zSl f' 0 ss := by
  apply List.ext_getElem?
  intro i
  rw [zSl_get, Nat.zero_add]
  by_cases hi : b = i
  · subst hi
    rw [List.getElem?_set_self (by rw [zSl_len]; exact (List.getElem?_eq_some_iff.mp hc).1), hc]; rfl
  · rw [List.getElem?_set_ne hi, zSl_get, Nat.zero_add]
    cases hs : ss[i]? with
    | none => rfl
    | some t' =>
      have := h i (fun e => hi e.symm)
      rcases t' with _ | _ | q
      · show some (Value.int (Int32.ofInt (f i))) = some (Value.int (Int32.ofInt (f' i))); rw [this]
      · show some (Value.ref (f i).toNat) = some (Value.ref (f' i).toNat); rw [this]
      · rfl
theorem zM_get (lv : zL) (i : Nat) : (zM lv)[i]? = (lv[i]?).map (fun o => o.map zv) := by unfold zM; rw [List.getElem?_map]
theorem zM_set (lv : zL) (i : Nat) (o : Option zV) : (zM lv).set i (o.map zv) = zM (lv.set i o) := by unfold zM; rw [List.map_set]
theorem zM_len (lv : zL) : (zM lv).length = lv.length := by unfold zM; rw [List.length_map]
theorem zLd_ok {lv : zL} {i : Nat} {v : zV} (h : zLd lv i = some v) : kLd (zM lv) i = some (zv v) ∧ some v ∈ lv := by
  unfold zLd at h
  split at h
  · rename_i w hw
    cases h
    refine ⟨?_, List.mem_of_getElem? hw⟩
    unfold kLd
    rw [zM_get, hw]; rfl
  · cases h
theorem zClr_ok (lv : zL) (i : Nat) : kClr (zM lv) i = zM (zClr lv i) := by
  cases i with
  | zero => rfl
  | succ j =>
    unfold kClr zClr
    dsimp only
    rw [zM_get]
    cases h : lv[j]? with
    | none => rfl
    | some o =>
      rcases o with _ | x | q | x
      · rfl
      · rfl
      · rfl
      · exact zM_set lv j none
theorem zClr_in {lv : zL} {i : Nat} {v : zV} (h : some v ∈ zClr lv i) : some v ∈ lv := by
  unfold zClr at h
  split at h
  · exact h
  · split at h
    · rcases List.mem_or_eq_of_mem_set h with h | h
      · exact h
      · cases h
    · exact h
theorem zTok.hd {v : zV} {r : List zV} (h : zTok (v :: r)) : zVok v := h v List.mem_cons_self
theorem zTok.tl {v : zV} {r : List zV} (h : zTok (v :: r)) : zTok r := fun w hw => h w (List.mem_cons_of_mem _ hw)
theorem zTok.mk {v : zV} {r : List zV} (h1 : zVok v) (h2 : zTok r) : zTok (v :: r) := fun w hw => (List.mem_cons.mp hw).elim (fun e => e ▸ h1) (h2 w)
theorem zTok_nil : zTok [] := fun _ h => by cases h
theorem zSt1_ok {lv : zL} {i : Nat} {v : zV} (hl : zLok lv) (hv : zVok v) : zLok (zSt1 lv i v) := by
  intro w hw
  rcases List.mem_or_eq_of_mem_set hw with h | h
  · exact hl w (zClr_in h)
  · cases h; exact hv
theorem zSt2_ok {lv : zL} {i : Nat} {v : zV} (hl : zLok lv) (hv : zVok v) : zLok (zSt2 lv i v) := by
  intro w hw
  rcases List.mem_or_eq_of_mem_set hw with h | h
  · exact zSt1_ok hl hv w h
  · cases h
theorem zSt1_map (lv : zL) (i : Nat) (v : zV) : kSt1 (zM lv) i (zv v) = zM (zSt1 lv i v) := by
  unfold kSt1 zSt1
  rw [zClr_ok]
  exact zM_set _ i (some v)
theorem zSt2_map (lv : zL) (i : Nat) (v : zV) : kSt2 (zM lv) i (zv v) = zM (zSt2 lv i v) := by
  have h := zSt1_map lv i v
  unfold kSt1 at h
  unfold kSt2 zSt2
  rw [h]
  exact zM_set _ (i + 1) none
theorem zSok_U {sh : List zC} {s : zSt} {q k : Nat} {v : Int} (hs : zSok sh s) (hv : (zLong sh q = true → zR64 v) ∧ (zLong sh q = false → zR v)) : zSok sh (zU s q k v) := by
  intro q' j
  by_cases hq : q' = q
  · subst hq
    rw [zU_at]
    dsimp only
    split
    · exact hv
    · exact hs q' j
  · rw [zU_ne hq]
    exact hs q' j
def zOut (sh : List zC) (o : Option (kL × List Value × kH)) (K : zK) : Prop := ∃ lv st s, o = some (zM lv, st.map zv, zH s 0 sh) ∧ K lv st s ∧ zSok sh s ∧ zLok lv ∧ zTok st
section ZSnd
variable {sh : List zC} {ro : Nat → Option (List Int)} {lv : zL} {st : List zV} {s : zSt} {K : zK}
theorem zPush_ok {b : Bool} {v : zV} (hb : b = true → zVok v) (h : zPush b v lv st s K) (hs : zSok sh s) (hl : zLok lv) (ht : zTok st) : zOut sh (some (zM lv, zv v :: st.map zv, zH s 0 sh)) K := by
  unfold zPush at h
  cases b with
  | false => exact h.elim
  | true => exact ⟨lv, v :: st, s, rfl, h, hs, hl, ht.mk (hb rfl)⟩
theorem zPi_ok {i : Nat} (h : zPi lv st s i K) (hs : zSok sh s) (hl : zLok lv) (ht : zTok st) : zOut sh (kPi (zM lv) (st.map zv) (zH s 0 sh) i) K := by
  unfold zPi at h
  split at h
  · rename_i x hx
    obtain ⟨h1, h2⟩ := zLd_ok hx
    unfold kPi
    rw [h1]
    exact ⟨lv, .inl x :: st, s, rfl, h, hs, hl, ht.mk (hl _ h2)⟩
  · exact h.elim
theorem zPl_ok {i : Nat} (h : zPl lv st s i K) (hs : zSok sh s) (hl : zLok lv) (ht : zTok st) : zOut sh (kPl (zM lv) (st.map zv) (zH s 0 sh) i) K := by
  unfold zPl at h
  split at h
  · rename_i x hx
    obtain ⟨h1, h2⟩ := zLd_ok hx
    unfold kPl
    rw [h1]
    exact ⟨lv, .inr (.inr x) :: st, s, rfl, h, hs, hl, ht.mk (hl _ h2)⟩
  · exact h.elim
theorem zPa_ok {i : Nat} (h : zPa lv st s i K) (hs : zSok sh s) (hl : zLok lv) (ht : zTok st) : zOut sh (kPa (zM lv) (st.map zv) (zH s 0 sh) i) K := by
  unfold zPa at h
  split at h
  · rename_i x hx
    obtain ⟨h1, h2⟩ := zLd_ok hx
    unfold kPa
    rw [h1]
    exact ⟨lv, .inr (.inl x) :: st, s, rfl, h, hs, hl, ht.mk (hl _ h2)⟩
  · exact h.elim
theorem z_blt {a b : Nat} (h : Nat.blt a b = true) : a < b := Nat.le_of_ble_eq_true h
theorem zTi_ok {i : Nat} (h : zTi lv st s i K) (hs : zSok sh s) (hl : zLok lv) (ht : zTok st) : zOut sh (kTi (zM lv) (st.map zv) (zH s 0 sh) i) K := by
  unfold zTi at h
  split at h
  · rename_i x r
    cases hb : Nat.blt i lv.length with
    | false => rw [hb] at h; exact h.elim
    | true =>
      rw [hb] at h
      refine ⟨zSt1 lv i (.inl x), r, s, ?_, h, hs, zSt1_ok hl ht.hd, ht.tl⟩
      show (if i < (zM lv).length then some (kSt1 (zM lv) i (zv (.inl x)), r.map zv, zH s 0 sh) else none) = _
      rw [zM_len, if_pos (z_blt hb), zSt1_map]
  · exact h.elim
theorem zTa_ok {i : Nat} (h : zTa lv st s i K) (hs : zSok sh s) (hl : zLok lv) (ht : zTok st) : zOut sh (kTa (zM lv) (st.map zv) (zH s 0 sh) i) K := by
  unfold zTa at h
  split at h
  · rename_i x r
    cases hb : Nat.blt i lv.length with
    | false => rw [hb] at h; exact h.elim
    | true =>
      rw [hb] at h
      refine ⟨zSt1 lv i (.inr (.inl x)), r, s, ?_, h, hs, zSt1_ok hl ht.hd, ht.tl⟩
      show (if i < (zM lv).length then some (kSt1 (zM lv) i (zv (.inr (.inl x))), r.map zv, zH s 0 sh) else none) = _
      rw [zM_len, if_pos (z_blt hb), zSt1_map]
  · exact h.elim
theorem zTl_ok {i : Nat} (h : zTl lv st s i K) (hs : zSok sh s) (hl : zLok lv) (ht : zTok st) : zOut sh (kTl (zM lv) (st.map zv) (zH s 0 sh) i) K := by
  unfold zTl at h
  split at h
  · rename_i x r
    cases hb : Nat.blt (i + 1) lv.length with
    | false => rw [hb] at h; exact h.elim
    | true =>
      rw [hb] at h
      refine ⟨zSt2 lv i (.inr (.inr x)), r, s, ?_, h, hs, zSt2_ok hl ht.hd, ht.tl⟩
      show (if i + 1 < (zM lv).length then some (kSt2 (zM lv) i (zv (.inr (.inr x))), r.map zv, zH s 0 sh) else none) = _
      rw [zM_len, if_pos (z_blt hb), zSt2_map]
  · exact h.elim
theorem zInc_ok {i : Nat} {n : Int} (h : zInc lv st s i n K) (hs : zSok sh s) (hl : zLok lv) (ht : zTok st) : zOut sh (kInc (zM lv) (st.map zv) (zH s 0 sh) i n) K := by
  unfold zInc at h
  split at h
  · rename_i x hx
    obtain ⟨h1, h2⟩ := zLd_ok hx
    unfold kInc
    rw [h1]
    refine ⟨zSt1 lv i (.inl (wr (x + n))), st, s, ?_, h, hs, zSt1_ok hl (wr_R _), ht⟩
    rw [← zSt1_map]
    show some (kSt1 (zM lv) i (.int (Int32.ofInt x + Int32.ofInt n)), _, _) = some (kSt1 (zM lv) i (.int (Int32.ofInt (wr (x + n)))), _, _)
    rw [zof_wr, Int32.ofInt_add]
  · exact h.elim
theorem zI1_ok {f : Int → zV} {g : Int32 → Value} (hg : ∀ x, zR x → g (Int32.ofInt x) = zv (f x) ∧ zVok (f x)) (h : zI1 lv st s f K) (hs : zSok sh s) (hl : zLok lv) (ht : zTok st) : zOut sh (kSi (zM lv) (zH s 0 sh) (kI1 (st.map zv) g)) K := by
  unfold zI1 at h
  split at h
  · rename_i x r
    obtain ⟨h1, h2⟩ := hg x ht.hd
    refine ⟨lv, f x :: r, s, ?_, h, hs, hl, ht.tl.mk h2⟩
    show some (zM lv, g (Int32.ofInt x) :: r.map zv, zH s 0 sh) = _
    rw [h1]; rfl
  · exact h.elim
theorem zI2_ok {f : Int → Int → Int} {g : Int32 → Int32 → Value} (hg : ∀ x y, zR x → zR y → g (Int32.ofInt x) (Int32.ofInt y) = .int (Int32.ofInt (f x y)) ∧ zR (f x y)) (h : zI2 lv st s f K) (hs : zSok sh s) (hl : zLok lv) (ht : zTok st) : zOut sh (kSi (zM lv) (zH s 0 sh) (kI2 (st.map zv) g)) K := by
  unfold zI2 at h
  split at h
  · rename_i y x r
    obtain ⟨h1, h2⟩ := hg x y ht.tl.hd ht.hd
    refine ⟨lv, .inl (f x y) :: r, s, ?_, h, hs, hl, ht.tl.tl.mk h2⟩
    show some (zM lv, g (Int32.ofInt x) (Int32.ofInt y) :: r.map zv, zH s 0 sh) = _
    rw [h1]; rfl
  · exact h.elim
theorem zJ2_ok {f : Int → Int → zV} {g : Int64 → Int64 → Value} (hg : ∀ x y, zR64 x → zR64 y → g (Int64.ofInt x) (Int64.ofInt y) = zv (f x y) ∧ zVok (f x y)) (h : zJ2 lv st s f K) (hs : zSok sh s) (hl : zLok lv) (ht : zTok st) : zOut sh (kSi (zM lv) (zH s 0 sh) (kJ2 (st.map zv) g)) K := by
  unfold zJ2 at h
  split at h
  · rename_i y x r
    obtain ⟨h1, h2⟩ := hg x y ht.tl.hd ht.hd
    refine ⟨lv, f x y :: r, s, ?_, h, hs, hl, ht.tl.tl.mk h2⟩
    show some (zM lv, g (Int64.ofInt x) (Int64.ofInt y) :: r.map zv, zH s 0 sh) = _
    rw [h1]; rfl
  · exact h.elim
theorem zDiv_ok {f : Int → Int → Int} {g : Int32 → Int32 → Int32} (hg : ∀ x y, zR x → zR y → g (Int32.ofInt x) (Int32.ofInt y) = Int32.ofInt (f x y) ∧ zR (f x y)) (h : zDiv lv st s f K) (hs : zSok sh s) (hl : zLok lv) (ht : zTok st) : zOut sh (kDiv (zM lv) (st.map zv) (zH s 0 sh) g) K := by
  unfold zDiv at h
  split at h
  · rename_i y x r
    split at h
    · exact h.elim
    · rename_i hy
      obtain ⟨h1, h2⟩ := hg x y ht.tl.hd ht.hd
      refine ⟨lv, .inl (f x y) :: r, s, ?_, h, hs, hl, ht.tl.tl.mk h2⟩
      show (if Int32.ofInt y = 0 then none else some (zM lv, Value.int (g (Int32.ofInt x) (Int32.ofInt y)) :: r.map zv, zH s 0 sh)) = _
      rw [if_neg (show ¬ Int32.ofInt y = 0 from fun e => hy ((z_eq ht.hd zR0).mp e)), h1]; rfl
  · exact h.elim
theorem zCat_ok {v : zV} (h : zCat v = true) : (zv v).category = 1 := by
  rcases v with x | q | x
  · rfl
  · rfl
  · cases h
theorem zDup_ok (h : zDup lv st s K) (hs : zSok sh s) (hl : zLok lv) (ht : zTok st) : zOut sh (kDup (zM lv) (st.map zv) (zH s 0 sh)) K := by
  unfold zDup at h
  split at h
  · rename_i v r
    cases hb : zCat v with
    | false => rw [hb] at h; exact h.elim
    | true =>
      rw [hb] at h
      refine ⟨lv, v :: v :: r, s, ?_, h, hs, hl, ht.mk ht.hd⟩
      show (if (zv v).category = 1 then _ else none) = _
      rw [if_pos (zCat_ok hb)]; rfl
  · exact h.elim
theorem zPop_ok (h : zPop lv st s K) (hs : zSok sh s) (hl : zLok lv) (ht : zTok st) : zOut sh (kPop (zM lv) (st.map zv) (zH s 0 sh)) K := by
  unfold zPop at h
  split at h
  · rename_i v r
    cases hb : zCat v with
    | false => rw [hb] at h; exact h.elim
    | true =>
      rw [hb] at h
      refine ⟨lv, r, s, ?_, h, hs, hl, ht.tl⟩
      show (if (zv v).category = 1 then _ else none) = _
      rw [if_pos (zCat_ok hb)]
  · exact h.elim
theorem zDup2_ok (h : zDup2 lv st s K) (hs : zSok sh s) (hl : zLok lv) (ht : zTok st) : zOut sh (kDup2 (zM lv) (st.map zv) (zH s 0 sh)) K := by
  unfold zDup2 at h
  split at h
  · rename_i v w r
    cases hb : zCat v && zCat w with
    | false => rw [hb] at h; exact h.elim
    | true =>
      rw [hb] at h
      obtain ⟨h1, h2⟩ := Bool.and_eq_true_iff.mp hb
      refine ⟨lv, v :: w :: v :: w :: r, s, ?_, h, hs, hl, (ht.mk ht.tl.hd).mk ht.hd⟩
      show (if (zv v).category = 1 ∧ (zv w).category = 1 then _ else none) = _
      rw [if_pos ⟨zCat_ok h1, zCat_ok h2⟩]; rfl
  · exact h.elim
theorem zOb_ok {q a b : Nat} {k : Option (Option Nat) → Prop} (h : zOb sh q a b k) : ∃ ss t, sh[q]? = some (.inr (a, ss)) ∧ ss[b]? = some t ∧ k t := by
  unfold zOb at h
  split at h
  · rename_i o ho
    cases hb : Nat.beq o.1 a with
    | false => rw [hb] at h; exact h.elim
    | true =>
      rw [hb] at h
      have ha : o.1 = a := Nat.eq_of_beq_eq_true hb
      dsimp only [cond] at h
      split at h
      · rename_i t ht
        exact ⟨o.2, t, by rw [ho, ← ha], ht, h⟩
      · exact h.elim
  · exact h.elim
theorem zLong_ob {q : Nat} {o : Nat × List (Option (Option Nat))} (h : sh[q]? = some (.inr o)) : zLong sh q = false := by unfold zLong; rw [h]
theorem zLong_ar {q t n : Nat} (h : sh[q]? = some (.inl (t, n))) : zLong sh q = Nat.beq t 1 := by unfold zLong; rw [h]
theorem kObj_zH {q a : Nat} {ss : List (Option (Option Nat))} (h : sh[q]? = some (.inr (a, ss))) : kObj (zH s 0 sh) q a = some (zSl (s q) 0 ss) := by
  unfold kObj
  rw [zH_at h]
  show (if a = a then _ else none) = _
  rw [if_pos rfl]
theorem zGet_ok {a b : Nat} (h : zGet sh lv st s a b K) (hs : zSok sh s) (hl : zLok lv) (ht : zTok st) : zOut sh (kGet (zM lv) (st.map zv) (zH s 0 sh) a b) K := by
  unfold zGet at h
  split at h
  · rename_i q r
    obtain ⟨ss, t, h1, h2, h3⟩ := zOb_ok h
    have hk : ∀ v : Value, zSv (s q) b t = v → kGet (zM lv) (List.map zv (.inr (.inl q) :: r)) (zH s 0 sh) a b = some (zM lv, v :: r.map zv, zH s 0 sh) := by
      intro v hv
      show (match kObj (zH s 0 sh) q a with
        | some fs => match fs[b]? with
          | some v => some (zM lv, v :: r.map zv, zH s 0 sh)
          | none => none
        | none => none) = _
      rw [kObj_zH h1]
      dsimp only
      rw [zSl_get, h2, Nat.zero_add, Option.map_some, hv]
    rcases t with _ | _ | x
    · exact ⟨lv, .inl (s q b) :: r, s, hk _ rfl, h3, hs, hl, ht.tl.mk ((hs q b).2 (zLong_ob h1))⟩
    · exact ⟨lv, .inr (.inl (s q b).toNat) :: r, s, hk _ rfl, h3, hs, hl, ht.tl.mk trivial⟩
    · exact ⟨lv, .inr (.inl x) :: r, s, hk _ rfl, h3, hs, hl, ht.tl.mk trivial⟩
  · exact h.elim
theorem kPut_zH {q a b : Nat} {z : Int} {r : List zV} {v : Value} {x : Int} {ss : List (Option (Option Nat))} {t : Option (Option Nat)} (h1 : sh[q]? = some (.inr (a, ss))) (h2 : ss[b]? = some t) (hf : kFit z v = true) (hv : zSv (fun k => if k = b then x else s q k) b t = v) :
    kPut (zM lv) (v :: List.map zv (.inr (.inl q) :: r)) (zH s 0 sh) a b z = some (zM lv, r.map zv, zH (zU s q b x) 0 sh) := by
  show (match kObj (zH s 0 sh) q a with
    | some fs => if b < fs.length ∧ kFit z v = true then some (zM lv, r.map zv, (zH s 0 sh).set q (.inr (a, fs.set b v))) else none
    | none => none) = _
  rw [kObj_zH h1]
  dsimp only
  rw [if_pos ⟨by rw [zSl_len]; exact (List.getElem?_eq_some_iff.mp h2).1, hf⟩, ← hv, zSl_put h2 (fun b' hb => if_neg hb)]
  have h5 := zH_put (s := s) (s' := zU s q b x) h1 (fun q' hq => zU_ne hq s b x)
  rw [zU_at] at h5
  rw [← h5]
  rfl
theorem zPut_ok {a b : Nat} {z : Int} (h : zPut sh lv st s a b z K) (hs : zSok sh s) (hl : zLok lv) (ht : zTok st) : zOut sh (kPut (zM lv) (st.map zv) (zH s 0 sh) a b z) K := by
  unfold zPut at h
  split at h
  · rename_i x q r
    obtain ⟨ss, t, h1, h2, h3⟩ := zOb_ok h
    have hR : zR x := ht.hd
    have hS : zSok sh (zU s q b x) := zSok_U hs ⟨fun e => ((by rw [zLong_ob h1] at e; cases e)), fun _ => hR⟩
    rcases t with _ | t
    · dsimp only at h3
      split at h3
      · exact ⟨lv, r, _, kPut_zH (z := 0) h1 h2 rfl (by show Value.int (Int32.ofInt (if b = b then x else s q b)) = _; rw [if_pos rfl]; rfl), h3, hS, hl, ht.tl.tl⟩
      · refine ⟨lv, r, _, kPut_zH (z := 1) h1 h2 ?_ (by show Value.int (Int32.ofInt (if b = b then x else s q b)) = _; rw [if_pos rfl]; rfl), h3.2, hS, hl, ht.tl.tl⟩
        rcases h3.1 with rfl | rfl <;> rfl
      · exact h3.elim
    · exact h3.elim
  · rename_i x q r
    obtain ⟨ss, t, h1, h2, h3⟩ := zOb_ok h
    rcases t with _ | _ | t
    · exact h3.elim
    · dsimp only at h3
      split at h3
      · cases hb : Nat.ble x 2147483647 with
        | false => rw [hb] at h3; exact h3.elim
        | true =>
          rw [hb] at h3
          have hx := Nat.le_of_ble_eq_true hb
          refine ⟨lv, r, _, kPut_zH (z := 2) h1 h2 rfl (by show Value.ref (if b = b then (x : Int) else s q b).toNat = _; rw [if_pos rfl]; rfl), h3, zSok_U hs ⟨fun e => ((by rw [zLong_ob h1] at e; cases e)), fun _ => ⟨by omega, by omega⟩⟩, hl, ht.tl.tl⟩
      · exact h3.elim
    · exact h3.elim
  · exact h.elim
theorem zAr_ok {q t : Nat} {k : Nat → Prop} (h : zAr sh q t k) : ∃ n, sh[q]? = some (.inl (t, n)) ∧ k n := by
  unfold zAr at h
  split at h
  · rename_i x hx
    cases hb : Nat.beq x.1 t with
    | false => rw [hb] at h; exact h.elim
    | true =>
      rw [hb] at h
      have ht : x.1 = t := Nat.eq_of_beq_eq_true hb
      exact ⟨x.2, by rw [hx, ← ht], h⟩
  · exact h.elim
theorem kArr_zH {q t n : Nat} (h : sh[q]? = some (.inl (t, n))) (ht : t ≠ 1) : kArr (zH s 0 sh) q t = some (n, fun j => Int32.ofInt (s q j)) := by
  unfold kArr
  rw [zH_at h]
  show (if t = t then (match (if t = 1 then Sum.inr (Sum.inl (fun j => Int64.ofInt (s q j))) else Sum.inl (fun j => Int32.ofInt (s q j)) : (Nat → Int32) ⊕ (Nat → Int64) ⊕ (Nat → UInt32) ⊕ (Nat → UInt64) ⊕ (Nat → Option Nat)) with
    | .inl f => some (n, f)
    | _ => none) else none) = _
  rw [if_pos rfl, if_neg ht]
theorem kArrL_zH {q n : Nat} (h : sh[q]? = some (.inl (1, n))) : kArrL (zH s 0 sh) q = some (n, fun j => Int64.ofInt (s q j)) := by
  unfold kArrL
  rw [zH_at h]
  rfl
theorem zCe_i {t n : Nat} (ht : t ≠ 1) (f : Nat → Int) : zCe f (.inl (t, n)) = .inl (t, n, .inl (fun j => Int32.ofInt (f j))) := by
  unfold zCe
  dsimp only
  rw [if_neg ht]
theorem zAl_ok (h : zAl sh ro lv st s K) (hs : zSok sh s) (hl : zLok lv) (ht : zTok st) : zOut sh (kAl (zM lv) (st.map zv) (zH s 0 sh) (zro ro)) K := by
  unfold zAl at h
  split at h
  · rename_i q r
    have hk : ∀ n : Nat, kLen (zro ro) (zH s 0 sh) q = some n → Nat.ble n 2147483647 = true → K lv (.inl (n : Int) :: r) s → zOut sh (kAl (zM lv) (List.map zv (.inr (.inl q) :: r)) (zH s 0 sh) (zro ro)) K := by
      intro n hn hb hK
      have hx := Nat.le_of_ble_eq_true hb
      refine ⟨lv, .inl (n : Int) :: r, s, ?_, hK, hs, hl, ht.tl.mk ⟨by omega, by omega⟩⟩
      show (match kLen (zro ro) (zH s 0 sh) q with
        | some n => some (zM lv, Value.int (Int32.ofNat n) :: r.map zv, zH s 0 sh)
        | none => none) = _
      rw [hn]
      dsimp only
      rw [← Int32.ofInt_eq_ofNat]; rfl
    split at h
    · rename_i l hr
      cases hb : Nat.ble l.length 2147483647 with
      | false => rw [hb] at h; exact h.elim
      | true =>
        rw [hb] at h
        refine hk l.length ?_ hb h
        unfold kLen zro
        rw [hr]; rfl
    · rename_i hr
      split at h
      · rename_i x hx
        cases hb : Nat.ble x.2 2147483647 && Nat.blt x.1 5 with
        | false => rw [hb] at h; exact h.elim
        | true =>
          rw [hb] at h
          obtain ⟨b1, b2⟩ := Bool.and_eq_true_iff.mp hb
          refine hk x.2 ?_ b1 h
          unfold kLen zro
          rw [hr, zH_at hx]
          show (if x.1 < 5 then some x.2 else none) = _
          rw [if_pos (z_blt b2)]
      · exact h.elim
  · exact h.elim
theorem zAi_ok (hro : ∀ q l, ro q = some l → ∀ k, zR (l.getD k 0)) (h : zAi sh ro lv st s K) (hs : zSok sh s) (hl : zLok lv) (ht : zTok st) : zOut sh (kAi (zM lv) (st.map zv) (zH s 0 sh) (zro ro)) K := by
  unfold zAi at h
  split at h
  · rename_i j q r
    have hj : zR j := ht.hd
    have hk : ∀ (n : Nat) (f : Nat → Int), kRd (zro ro) (zH s 0 sh) q = some (n, fun k => Int32.ofInt (f k)) → zR (f j.toNat) → (0 ≤ j ∧ j < (n : Int) ∧ K lv (.inl (f j.toNat) :: r) s) → zOut sh (kAi (zM lv) (List.map zv (.inl j :: .inr (.inl q) :: r)) (zH s 0 sh) (zro ro)) K := by
      intro n f hn hf hK
      refine ⟨lv, .inl (f j.toNat) :: r, s, ?_, hK.2.2, hs, hl, ht.tl.tl.mk hf⟩
      show (match kRd (zro ro) (zH s 0 sh) q with
        | some x => if Int32.ofInt j < 0 ∨ x.1 ≤ (Int32.ofInt j).toNatClampNeg then none else some (zM lv, Value.int (x.2 (Int32.ofInt j).toNatClampNeg) :: r.map zv, zH s 0 sh)
        | none => none) = _
      rw [hn]
      dsimp only
      rw [if_neg (z_in hj ⟨hK.1, hK.2.1⟩), z_nat hj]; rfl
    unfold zRd at h
    split at h
    · rename_i l hr
      refine hk l.length (fun j => l.getD j 0) ?_ (hro q l hr _) h
      unfold kRd zro
      rw [hr]; rfl
    · rename_i hr
      obtain ⟨n, h1, h2⟩ := zAr_ok h
      refine hk n (s q) ?_ ((hs q _).2 (by rw [zLong_ar h1]; rfl)) h2
      unfold kRd zro
      rw [hr]
      exact kArr_zH h1 (by decide)
  · exact h.elim
theorem zAt_ok {t : Nat} (h : zAt sh lv st s t K) (hs : zSok sh s) (hl : zLok lv) (ht : zTok st) : zOut sh (kAt (zM lv) (st.map zv) (zH s 0 sh) t) K := by
  unfold zAt at h
  split at h
  · rename_i j q r
    have hj : zR j := ht.hd
    cases hb : Nat.beq t 1 with
    | true => rw [hb] at h; exact h.elim
    | false =>
      rw [hb, cond_false] at h
      have ht1 : t ≠ 1 := Nat.ne_of_beq_eq_false hb
      obtain ⟨n, h1, h2⟩ := zAr_ok h
      refine ⟨lv, .inl (s q j.toNat) :: r, s, ?_, h2.2.2, hs, hl, ht.tl.tl.mk ((hs q _).2 (by rw [zLong_ar h1]; exact hb))⟩
      show (match kArr (zH s 0 sh) q t with
        | some x => if Int32.ofInt j < 0 ∨ x.1 ≤ (Int32.ofInt j).toNatClampNeg then none else some (zM lv, Value.int (x.2 (Int32.ofInt j).toNatClampNeg) :: r.map zv, zH s 0 sh)
        | none => none) = _
      rw [kArr_zH h1 ht1]
      dsimp only
      rw [if_neg (z_in hj ⟨h2.1, h2.2.1⟩), z_nat hj]; rfl
  · exact h.elim
theorem zAj_ok (h : zAj sh lv st s K) (hs : zSok sh s) (hl : zLok lv) (ht : zTok st) : zOut sh (kAj (zM lv) (st.map zv) (zH s 0 sh)) K := by
  unfold zAj at h
  split at h
  · rename_i j q r
    have hj : zR j := ht.hd
    obtain ⟨n, h1, h2⟩ := zAr_ok h
    refine ⟨lv, .inr (.inr (s q j.toNat)) :: r, s, ?_, h2.2.2, hs, hl, ht.tl.tl.mk ((hs q _).1 (by rw [zLong_ar h1]; rfl))⟩
    show (match kArrL (zH s 0 sh) q with
      | some x => if Int32.ofInt j < 0 ∨ x.1 ≤ (Int32.ofInt j).toNatClampNeg then none else some (zM lv, Value.long (x.2 (Int32.ofInt j).toNatClampNeg) :: r.map zv, zH s 0 sh)
      | none => none) = _
    rw [kArrL_zH h1]
    dsimp only
    rw [if_neg (z_in hj ⟨h2.1, h2.2.1⟩), z_nat hj]; rfl
  · exact h.elim
theorem zBt_ok {t : Nat} {g : Int → Int} {g' : Int32 → Int32} (hg : ∀ v, zR v → g' (Int32.ofInt v) = Int32.ofInt (g v) ∧ zR (g v)) (h : zBt sh lv st s t g K) (hs : zSok sh s) (hl : zLok lv) (ht : zTok st) : zOut sh (kBt (zM lv) (st.map zv) (zH s 0 sh) t g') K := by
  unfold zBt at h
  split at h
  · rename_i v j q r
    have hj : zR j := ht.tl.hd
    obtain ⟨g1, g2⟩ := hg v ht.hd
    cases hb : Nat.beq t 1 with
    | true => rw [hb] at h; exact h.elim
    | false =>
      rw [hb, cond_false] at h
      have ht1 : t ≠ 1 := Nat.ne_of_beq_eq_false hb
      obtain ⟨n, h1, h2⟩ := zAr_ok h
      refine ⟨lv, r, zU s q j.toNat (g v), ?_, h2.2.2, zSok_U hs ⟨fun e => ((by rw [zLong_ar h1, hb] at e; cases e)), fun _ => g2⟩, hl, ht.tl.tl.tl⟩
      show (match kArr (zH s 0 sh) q t with
        | some x => if Int32.ofInt j < 0 ∨ x.1 ≤ (Int32.ofInt j).toNatClampNeg then none else some (zM lv, r.map zv, (zH s 0 sh).set q (.inl (t, x.1, .inl (upd x.2 (Int32.ofInt j).toNatClampNeg (g' (Int32.ofInt v))))))
        | none => none) = _
      rw [kArr_zH h1 ht1]
      dsimp only
      rw [if_neg (z_in hj ⟨h2.1, h2.2.1⟩), z_nat hj, g1]
      have h5 := zH_put (s := s) (s' := zU s q j.toNat (g v)) h1 (fun q' hq => zU_ne hq s _ _)
      rw [zU_at, zCe_i ht1] at h5
      rw [← h5]
      have h6 : upd (fun j => Int32.ofInt (s q j)) j.toNat (Int32.ofInt (g v)) = fun k' => Int32.ofInt (if k' = j.toNat then g v else s q k') := by
        funext k'
        unfold upd
        split <;> rfl
      rw [h6]
  · exact h.elim
theorem zBj_ok (h : zBj sh lv st s K) (hs : zSok sh s) (hl : zLok lv) (ht : zTok st) : zOut sh (kBj (zM lv) (st.map zv) (zH s 0 sh)) K := by
  unfold zBj at h
  split at h
  · rename_i v j q r
    have hj : zR j := ht.tl.hd
    have hv : zR64 v := ht.hd
    obtain ⟨n, h1, h2⟩ := zAr_ok h
    refine ⟨lv, r, zU s q j.toNat v, ?_, h2.2.2, zSok_U hs ⟨fun _ => hv, fun e => ((by rw [zLong_ar h1] at e; cases e))⟩, hl, ht.tl.tl.tl⟩
    show (match kArrL (zH s 0 sh) q with
      | some x => if Int32.ofInt j < 0 ∨ x.1 ≤ (Int32.ofInt j).toNatClampNeg then none else some (zM lv, r.map zv, (zH s 0 sh).set q (.inl (1, x.1, .inr (.inl (vp_updL x.2 (Int32.ofInt j).toNatClampNeg (Int64.ofInt v))))))
      | none => none) = _
    rw [kArrL_zH h1]
    dsimp only
    rw [if_neg (z_in hj ⟨h2.1, h2.2.1⟩), z_nat hj]
    have h5 := zH_put (s := s) (s' := zU s q j.toNat v) h1 (fun q' hq => zU_ne hq s _ _)
    rw [zU_at] at h5
    rw [← h5]
    have h6 : vp_updL (fun j => Int64.ofInt (s q j)) j.toNat (Int64.ofInt v) = fun k' => Int64.ofInt (if k' = j.toNat then v else s q k') := by
      funext k'
      unfold vp_updL
      split <;> rfl
    rw [h6]
    rfl
  · exact h.elim
theorem zSok_F {q : Nat} {f : Nat → Int} (hs : zSok sh s) (hv : ∀ k, (zLong sh q = true → zR64 (f k)) ∧ (zLong sh q = false → zR (f k))) : zSok sh (zF s q f) := by
  intro q' j
  by_cases hq : q' = q
  · subst hq
    rw [zF_at]
    exact hv j
  · rw [zF_ne hq]
    exact hs q' j
theorem z_pos {x : Int} (hx : zR x) (h : 0 ≤ x) : ¬ Int32.ofInt x < 0 := by
  rw [show (0 : Int32) = Int32.ofInt 0 from rfl, z_lt hx zR0]
  omega
theorem zCpI_ok (h : zCp sh lv st s 0 K) (hs : zSok sh s) (hl : zLok lv) (ht : zTok st) : zOut sh (kCpI (zM lv) (st.map zv) (zH s 0 sh)) K := by
  unfold zCp at h
  split at h
  · rename_i n dp q1 sp q0 r
    have hn : zR n := ht.hd
    have hd : zR dp := ht.tl.hd
    have hsp : zR sp := ht.tl.tl.tl.hd
    cases hb : Nat.ble r.length 4 with
    | false => rw [hb] at h; exact h.elim
    | true =>
      rw [hb, cond_true] at h
      have hr := Nat.le_of_ble_eq_true hb
      obtain ⟨x, h1, h⟩ := zAr_ok h
      obtain ⟨y, h2, c1, c2, c3, c4, c5, h⟩ := zAr_ok h
      have hL1 : zLong sh q0 = false := by rw [zLong_ar h1]; rfl
      have hL2 : zLong sh q1 = false := by rw [zLong_ar h2]; rfl
      refine ⟨lv, r, _, ?_, h, zSok_F hs (fun k => ⟨fun e => (by rw [hL2] at e; cases e), fun _ => ?_⟩), hl, ht.tl.tl.tl.tl.tl⟩
      · show (match kArr (zH s 0 sh) q0 0, kArr (zH s 0 sh) q1 0 with
          | some x, some y => if (r.map zv).length ≤ 4 ∧ ¬ Int32.ofInt sp < 0 ∧ ¬ Int32.ofInt dp < 0 ∧ ¬ Int32.ofInt n < 0 ∧ (Int32.ofInt sp).toNatClampNeg + (Int32.ofInt n).toNatClampNeg ≤ x.1 ∧ (Int32.ofInt dp).toNatClampNeg + (Int32.ofInt n).toNatClampNeg ≤ y.1 then some (zM lv, r.map zv, (zH s 0 sh).set q1 (.inl (0, y.1, .inl (va_cpy x.2 y.2 (Int32.ofInt sp).toNatClampNeg (Int32.ofInt dp).toNatClampNeg (Int32.ofInt n).toNatClampNeg)))) else none
          | _, _ => none) = _
        rw [kArr_zH h1 (by decide), kArr_zH h2 (by decide)]
        dsimp only
        rw [z_nat hsp, z_nat hd, z_nat hn, if_pos ⟨by rw [List.length_map]; exact hr, z_pos hsp c1, z_pos hd c2, z_pos hn c3, by omega, by omega⟩]
        have h5 := zH_put (s := s) (s' := zF s q1 (zCpF (s q0) (s q1) sp.toNat dp.toNat n.toNat)) h2 (fun q' hq => zF_ne hq s _)
        rw [zF_at, zCe_i (by decide)] at h5
        rw [← h5]
        have h6 : va_cpy (fun j => Int32.ofInt (s q0 j)) (fun j => Int32.ofInt (s q1 j)) sp.toNat dp.toNat n.toNat = fun k => Int32.ofInt (zCpF (s q0) (s q1) sp.toNat dp.toNat n.toNat k) := by
          funext k
          unfold va_cpy zCpF
          split <;> rfl
        rw [h6]
      · unfold zCpF
        split
        · exact (hs q0 _).2 hL1
        · exact (hs q1 _).2 hL2
  · exact h.elim
theorem zCpL_ok (h : zCp sh lv st s 1 K) (hs : zSok sh s) (hl : zLok lv) (ht : zTok st) : zOut sh (kCpL (zM lv) (st.map zv) (zH s 0 sh)) K := by
  unfold zCp at h
  split at h
  · rename_i n dp q1 sp q0 r
    have hn : zR n := ht.hd
    have hd : zR dp := ht.tl.hd
    have hsp : zR sp := ht.tl.tl.tl.hd
    cases hb : Nat.ble r.length 4 with
    | false => rw [hb] at h; exact h.elim
    | true =>
      rw [hb, cond_true] at h
      have hr := Nat.le_of_ble_eq_true hb
      obtain ⟨x, h1, h⟩ := zAr_ok h
      obtain ⟨y, h2, c1, c2, c3, c4, c5, h⟩ := zAr_ok h
      have hL1 : zLong sh q0 = true := by rw [zLong_ar h1]; rfl
      have hL2 : zLong sh q1 = true := by rw [zLong_ar h2]; rfl
      refine ⟨lv, r, _, ?_, h, zSok_F hs (fun k => ⟨fun _ => ?_, fun e => (by rw [hL2] at e; cases e)⟩), hl, ht.tl.tl.tl.tl.tl⟩
      · show (match kArrL (zH s 0 sh) q0, kArrL (zH s 0 sh) q1 with
          | some x, some y => if (r.map zv).length ≤ 4 ∧ ¬ Int32.ofInt sp < 0 ∧ ¬ Int32.ofInt dp < 0 ∧ ¬ Int32.ofInt n < 0 ∧ (Int32.ofInt sp).toNatClampNeg + (Int32.ofInt n).toNatClampNeg ≤ x.1 ∧ (Int32.ofInt dp).toNatClampNeg + (Int32.ofInt n).toNatClampNeg ≤ y.1 then some (zM lv, r.map zv, (zH s 0 sh).set q1 (.inl (1, y.1, .inr (.inl (va_cpy x.2 y.2 (Int32.ofInt sp).toNatClampNeg (Int32.ofInt dp).toNatClampNeg (Int32.ofInt n).toNatClampNeg))))) else none
          | _, _ => none) = _
        rw [kArrL_zH h1, kArrL_zH h2]
        dsimp only
        rw [z_nat hsp, z_nat hd, z_nat hn, if_pos ⟨by rw [List.length_map]; exact hr, z_pos hsp c1, z_pos hd c2, z_pos hn c3, by omega, by omega⟩]
        have h5 := zH_put (s := s) (s' := zF s q1 (zCpF (s q0) (s q1) sp.toNat dp.toNat n.toNat)) h2 (fun q' hq => zF_ne hq s _)
        rw [zF_at] at h5
        rw [← h5]
        have h6 : va_cpy (fun j => Int64.ofInt (s q0 j)) (fun j => Int64.ofInt (s q1 j)) sp.toNat dp.toNat n.toNat = fun k => Int64.ofInt (zCpF (s q0) (s q1) sp.toNat dp.toNat n.toNat k) := by
          funext k
          unfold va_cpy zCpF
          split <;> rfl
        rw [h6]
        rfl
      · unfold zCpF
        split
        · exact (hs q0 _).1 hL1
        · exact (hs q1 _).1 hL2
  · exact h.elim
theorem zMx_ok {f : Int → Int → Int} {g : Int32 → Int32 → Int32} (hg : ∀ x y, zR x → zR y → g (Int32.ofInt x) (Int32.ofInt y) = Int32.ofInt (f x y) ∧ zR (f x y)) (h : zMx lv st s f K) (hs : zSok sh s) (hl : zLok lv) (ht : zTok st) : zOut sh (kMx (zM lv) (st.map zv) (zH s 0 sh) g) K := by
  unfold zMx at h
  split at h
  · rename_i y x r
    cases hb : Nat.ble r.length 4 with
    | false => rw [hb] at h; exact h.elim
    | true =>
      rw [hb] at h
      have hr := Nat.le_of_ble_eq_true hb
      obtain ⟨h1, h2⟩ := hg x y ht.tl.hd ht.hd
      refine ⟨lv, .inl (f x y) :: r, s, ?_, h, hs, hl, ht.tl.tl.mk h2⟩
      show (if (r.map zv).length ≤ 4 then some (zM lv, Value.int (g (Int32.ofInt x) (Int32.ofInt y)) :: r.map zv, zH s 0 sh) else none) = _
      rw [if_pos (by rw [List.length_map]; exact hr), h1]; rfl
  · exact h.elim
theorem zNat_ok {a : Nat} (h : zNat sh lv st s a K) (hs : zSok sh s) (hl : zLok lv) (ht : zTok st) : zOut sh (kNat (zM lv) (st.map zv) (zH s 0 sh) a) K := by
  unfold zNat at h
  split at h
  · refine zMx_ok (fun x y hx hy => ?_) h hs hl ht
    by_cases hc : x < y
    · rw [if_pos ((z_lt hx hy).mpr hc), Int.max_eq_right (Int.le_of_lt hc)]; exact ⟨rfl, hy⟩
    · rw [if_neg (fun e => hc ((z_lt hx hy).mp e)), Int.max_eq_left (Int.not_lt.mp hc)]; exact ⟨rfl, hx⟩
  · refine zMx_ok (fun x y hx hy => ?_) h hs hl ht
    by_cases hc : y < x
    · rw [if_pos ((z_lt hy hx).mpr hc), Int.min_eq_right (Int.le_of_lt hc)]; exact ⟨rfl, hy⟩
    · rw [if_neg (fun e => hc ((z_lt hy hx).mp e)), Int.min_eq_left (Int.not_lt.mp hc)]; exact ⟨rfl, hx⟩
  · exact zCpI_ok h hs hl ht
  · exact zCpL_ok h hs hl ht
  · exact h.elim
theorem z_toI {x : Int32} : Int32.ofInt x.toInt = x := Int32.ofInt_toInt x
theorem z_w8 {x : Int} (hx : zR x) : (Int32.ofInt x).toInt8.toInt32 = Int32.ofInt (w8 x) ∧ zR (w8 x) := by
  have h2 : zR (w8 x) := by unfold w8 zR; omega
  refine ⟨?_, h2⟩
  rw [← Int32.toInt_inj, z32 h2, Int8.toInt_toInt32, Int32.toInt_toInt8, z32 hx, w8_bmod]
theorem z_w16 {x : Int} (hx : zR x) : (Int32.ofInt x).toInt16.toInt32 = Int32.ofInt (w16 x) ∧ zR (w16 x) := by
  have h2 : zR (w16 x) := by unfold w16 zR; omega
  refine ⟨?_, h2⟩
  rw [← Int32.toInt_inj, z32 h2, Int16.toInt_toInt32, Int32.toInt_toInt16, z32 hx, w16_bmod]
theorem z_div {x y : Int} (hx : zR x) (hy : zR y) : Int32.ofInt x / Int32.ofInt y = Int32.ofInt (x.tdiv y) := by
  rw [← Int32.toInt_inj, Int32.toInt_div, z32 hx, z32 hy, z32w, wr_bmod]
theorem z_mod {x y : Int} (hx : zR x) (hy : zR y) : Int32.ofInt x - Int32.ofInt x / Int32.ofInt y * Int32.ofInt y = Int32.ofInt (x.tmod y) := by
  rw [z_div hx hy, ← Int32.ofInt_mul, ← Int32.ofInt_sub, Int.tmod_def, Int.mul_comm y]
theorem zR64_32 {x : Int} (h : zR x) : zR64 x := by unfold zR at h; unfold zR64; omega
theorem z_i2l {x : Int} (hx : zR x) : (Int32.ofInt x).toInt64 = Int64.ofInt x := by
  rw [← Int64.toInt_inj, Int32.toInt_toInt64, z32 hx, z64 (zR64_32 hx)]
theorem zS_ok (hro : ∀ q l, ro q = some l → ∀ k, zR (l.getD k 0)) {i : Instr} {a b : Nat} {z : Int} (h : zS sh ro i a b z lv st s K) (hs : zSok sh s) (hl : zLok lv) (ht : zTok st) : zOut sh (kS (zro ro) i a b z (zM lv) (st.map zv) (zH s 0 sh)) K := by
  cases i
  case iconst n => exact zPush_ok (v := .inl n) (fun e => zRb_ok e) h hs hl ht
  case bipush n => exact zPush_ok (v := .inl n) (fun e => zRb_ok e) h hs hl ht
  case sipush n => exact zPush_ok (v := .inl n) (fun e => zRb_ok e) h hs hl ht
  case lconst n =>
    have h2 := zPush_ok (v := .inr (.inr ((n : Nat) : Int))) (b := Nat.ble n 1) (fun e => by have := Nat.le_of_ble_eq_true e; exact ⟨by omega, by omega⟩) h hs hl ht
    have h3 : zv (.inr (.inr ((n : Nat) : Int))) = .long (Int64.ofNat (n : Nat)) := by
      show Value.long (Int64.ofInt ((n : Nat) : Int)) = _
      rw [Int64.ofInt_eq_ofNat]
    rw [h3] at h2
    exact h2
  case ldc n => exact zPush_ok (v := .inl z) (fun e => zRb_ok e) h hs hl ht
  case ldc_w n => exact zPush_ok (v := .inl z) (fun e => zRb_ok e) h hs hl ht
  case ldc2_w n => exact zPush_ok (v := .inr (.inr z)) (fun e => zRb64_ok e) h hs hl ht
  case iload_n k => exact zPi_ok h hs hl ht
  case iload k => exact zPi_ok h hs hl ht
  case lload_n k => exact zPl_ok h hs hl ht
  case lload k => exact zPl_ok h hs hl ht
  case aload_n k => exact zPa_ok h hs hl ht
  case aload k => exact zPa_ok h hs hl ht
  case istore_n k => exact zTi_ok h hs hl ht
  case istore k => exact zTi_ok h hs hl ht
  case astore_n k => exact zTa_ok h hs hl ht
  case lstore k => exact zTl_ok h hs hl ht
  case iinc k n => exact zInc_ok h hs hl ht
  case iadd => exact zI2_ok (f := fun x y => wr (x + y)) (fun x y _ _ => ⟨by rw [zof_wr, Int32.ofInt_add], wr_R _⟩) h hs hl ht
  case isub => exact zI2_ok (f := fun x y => wr (x - y)) (fun x y _ _ => ⟨by rw [zof_wr, Int32.ofInt_sub], wr_R _⟩) h hs hl ht
  case imul => exact zI2_ok (f := fun x y => wr (x * y)) (fun x y _ _ => ⟨by rw [zof_wr, Int32.ofInt_mul], wr_R _⟩) h hs hl ht
  case iand => exact zI2_ok (f := zAnd) (fun x y _ _ => ⟨by unfold zAnd; rw [z_toI], zR_of _⟩) h hs hl ht
  case ior => exact zI2_ok (f := zOr) (fun x y _ _ => ⟨by unfold zOr; rw [z_toI], zR_of _⟩) h hs hl ht
  case ixor => exact zI2_ok (f := zXor) (fun x y _ _ => ⟨by unfold zXor; rw [z_toI], zR_of _⟩) h hs hl ht
  case ishl => exact zI2_ok (f := zShl) (fun x y _ _ => ⟨by unfold zShl; rw [z_toI], zR_of _⟩) h hs hl ht
  case iushr => exact zI2_ok (f := zUsh) (fun x y _ _ => ⟨by unfold zUsh; rw [z_toI], zR_of _⟩) h hs hl ht
  case idiv => exact zDiv_ok (f := fun x y => wr (x.tdiv y)) (fun x y hx hy => ⟨by rw [zof_wr, z_div hx hy], wr_R _⟩) h hs hl ht
  case irem => exact zDiv_ok (f := fun x y => wr (x.tmod y)) (fun x y hx hy => ⟨by rw [zof_wr, z_mod hx hy], wr_R _⟩) h hs hl ht
  case ineg => exact zI1_ok (f := fun x => .inl (wr (-x))) (fun x _ => ⟨by show _ = Value.int (Int32.ofInt (wr (-x))); rw [zof_wr, Int32.ofInt_neg], wr_R _⟩) h hs hl ht
  case i2l => exact zI1_ok (f := fun x => .inr (.inr x)) (fun x hx => ⟨by show _ = Value.long (Int64.ofInt x); rw [z_i2l hx], zR64_32 hx⟩) h hs hl ht
  case i2b => exact zI1_ok (f := fun x => .inl (w8 x)) (fun x hx => ⟨by show _ = Value.int (Int32.ofInt (w8 x)); rw [(z_w8 hx).1], (z_w8 hx).2⟩) h hs hl ht
  case i2s => exact zI1_ok (f := fun x => .inl (w16 x)) (fun x hx => ⟨by show _ = Value.int (Int32.ofInt (w16 x)); rw [(z_w16 hx).1], (z_w16 hx).2⟩) h hs hl ht
  case l2i =>
    simp only [zS] at h
    split at h
    · rename_i x r
      refine ⟨lv, .inl (wr x) :: r, s, ?_, h, hs, hl, ht.tl.mk (wr_R x)⟩
      show some (zM lv, Value.int (Int64.ofInt x).toInt32 :: r.map zv, zH s 0 sh) = some (zM lv, Value.int (Int32.ofInt (wr x)) :: r.map zv, zH s 0 sh)
      rw [zof_wr, Int64.toInt32_ofInt]
    · exact h.elim
  case ladd => exact zJ2_ok (f := fun x y => .inr (.inr (wl (x + y)))) (fun x y _ _ => ⟨by show _ = Value.long (Int64.ofInt (wl (x + y))); rw [zof_wl, Int64.ofInt_add], wl_R _⟩) h hs hl ht
  case land => exact zJ2_ok (f := fun x y => .inr (.inr (zAndL x y))) (fun x y _ _ => ⟨by show _ = Value.long (Int64.ofInt (zAndL x y)); unfold zAndL; rw [Int64.ofInt_toInt], zR64_of _⟩) h hs hl ht
  case lor => exact zJ2_ok (f := fun x y => .inr (.inr (zOrL x y))) (fun x y _ _ => ⟨by show _ = Value.long (Int64.ofInt (zOrL x y)); unfold zOrL; rw [Int64.ofInt_toInt], zR64_of _⟩) h hs hl ht
  case lcmp =>
    refine zJ2_ok (f := fun x y => .inl (if y < x then 1 else if x = y then 0 else -1)) (fun x y hx hy => ⟨?_, ?_⟩) h hs hl ht
    · show Value.int (lg_cmp (Int64.ofInt x) (Int64.ofInt y)) = Value.int (Int32.ofInt (if y < x then 1 else if x = y then 0 else -1))
      unfold lg_cmp
      by_cases h1 : y < x
      · rw [if_pos h1, if_pos (show Int64.ofInt x > Int64.ofInt y from (z_lt64 hy hx).mpr h1)]; rfl
      · rw [if_neg h1, if_neg (show ¬ Int64.ofInt x > Int64.ofInt y from fun e => h1 ((z_lt64 hy hx).mp e))]
        by_cases h2 : x = y
        · rw [if_pos h2, if_pos ((z_eq64 hx hy).mpr h2)]; rfl
        · rw [if_neg h2, if_neg (fun e => h2 ((z_eq64 hx hy).mp e))]; rfl
    · show zR (if y < x then 1 else if x = y then 0 else -1)
      unfold zR
      split
      · omega
      · split <;> omega
  case lshl =>
    simp only [zS] at h
    split at h
    · rename_i y x r
      refine ⟨lv, .inr (.inr (zShlL x y)) :: r, s, ?_, h, hs, hl, ht.tl.tl.mk (zR64_of _)⟩
      show some (zM lv, Value.long (Int64.ofInt x <<< ((Int32.ofInt y).toInt64 &&& 63)) :: r.map zv, zH s 0 sh) = some (zM lv, Value.long (Int64.ofInt (zShlL x y)) :: r.map zv, zH s 0 sh)
      unfold zShlL
      rw [Int64.ofInt_toInt]
    · exact h.elim
  case dup => exact zDup_ok h hs hl ht
  case pop => exact zPop_ok h hs hl ht
  case dup2 => exact zDup2_ok h hs hl ht
  case getfield n => exact zGet_ok h hs hl ht
  case putfield n => exact zPut_ok h hs hl ht
  case getstatic n => exact ⟨lv, .inr (.inl a) :: st, s, rfl, h, hs, hl, ht.mk trivial⟩
  case arraylength => exact zAl_ok h hs hl ht
  case iaload => exact zAi_ok hro h hs hl ht
  case baload => exact zAt_ok h hs hl ht
  case saload => exact zAt_ok h hs hl ht
  case laload => exact zAj_ok h hs hl ht
  case iastore => exact zBt_ok (g := fun x => x) (g' := fun x => x) (fun v hv => ⟨rfl, hv⟩) h hs hl ht
  case bastore =>
    simp only [zS] at h
    split at h
    · exact zBt_ok (g := w8) (g' := fun x => vp_nar (kBy 2) x) (fun v hv => z_w8 hv) h hs hl ht
    · exact zBt_ok (g := zBz) (g' := fun x => vp_nar (kBy 3) x) (fun v _ => ⟨by show Int32.ofInt v &&& 1 = Int32.ofInt (zAnd v 1); unfold zAnd; rw [z_toI]; rfl, zR_of _⟩) h hs hl ht
    · exact h.elim
  case sastore => exact zBt_ok (g := w16) (g' := fun x => vp_nar .short x) (fun v hv => z_w16 hv) h hs hl ht
  case lastore => exact zBj_ok h hs hl ht
  case invokestatic n => exact zNat_ok h hs hl ht
  all_goals exact h.elim
def zRes (sh : List zC) (o : Option kR) (Q : zQ) : Prop := ∃ r s, o = some (r.map zv, zH s 0 sh) ∧ zSok sh s ∧ (∀ v, r = some v → zVok v) ∧ Q r s
theorem zCm_ok {c : ClassFile.Cond} {x y : Int} (hx : zR x) (hy : zR y) : kCm c (Int32.ofInt x) (Int32.ofInt y) = true ↔ zCm c x y := by
  cases c
  case eq => exact decide_eq_true_iff.trans (z_eq hx hy)
  case ne => exact decide_eq_true_iff.trans (not_congr (z_eq hx hy))
  case lt => exact decide_eq_true_iff.trans (z_lt hx hy)
  case ge => exact decide_eq_true_iff.trans (z_le hy hx)
  case gt => exact decide_eq_true_iff.trans (z_lt hy hx)
  case le => exact decide_eq_true_iff.trans (z_le hx hy)
theorem zCd_ok {i : Instr} {k : Prop → List zV → Prop} (h : zCd i st k) (ht : zTok st) : ∃ (c : Prop) (b : Bool) (r : List zV), kCd i (st.map zv) = some (b, r.map zv) ∧ (b = true ↔ c) ∧ k c r ∧ zTok r := by
  cases i
  case ifCond c off =>
    simp only [zCd] at h
    split at h
    · rename_i x r
      exact ⟨_, _, r, rfl, zCm_ok ht.hd zR0, h, ht.tl⟩
    · exact h.elim
  case if_icmp c off =>
    simp only [zCd] at h
    split at h
    · rename_i y x r
      exact ⟨_, _, r, rfl, zCm_ok ht.tl.hd ht.hd, h, ht.tl.tl⟩
    · exact h.elim
  all_goals exact h.elim
theorem zSw_ok {k : Nat → Prop} {kk : Nat → Option kR} {P : Option kR → Prop} (hk : ∀ t, k t → P (kk t)) {x : Int} (hx : zR x) {d : Nat} : ∀ (sw : List (Int32 × Nat)), zSw k x d sw → P (kSw kk (Int32.ofInt x) d sw)
  | [], h => hk d h
  | q :: r, h => by
    unfold kSw
    have hq : Int32.ofInt x = q.1 ↔ x = q.1.toInt := by
      rw [← Int32.toInt_inj, z32 hx]
    by_cases hc : x = q.1.toInt
    · rw [if_pos (hq.mpr hc)]; exact hk _ (h.1 hc)
    · rw [if_neg (fun e => hc (hq.mp e))]; exact zSw_ok hk hx r (h.2 hc)
theorem zRt_ok {i : Instr} {a : Nat} {Q : zQ} (h : zRt i a st s Q) (hs : zSok sh s) (ht : zTok st) : zRes sh (kRt i a (st.map zv) (zH s 0 sh)) Q := by
  cases i
  case ireturn =>
    simp only [zRt] at h
    split at h
    · rename_i x
      split at h
      · exact ⟨some (.inl x), s, rfl, hs, fun v e => (by cases e; exact ht.hd), h⟩
      · rename_i ha
        refine ⟨some (.inl x), s, ?_, hs, fun v e => (by cases e; exact ht.hd), h.2⟩
        show (if a = 0 then _ else if Int32.ofInt x = 0 ∨ Int32.ofInt x = 1 then some (some (Value.int (Int32.ofInt x)), zH s 0 sh) else none) = _
        rw [if_neg (fun e => ha e), if_pos (by rcases h.1 with rfl | rfl; exact Or.inl rfl; exact Or.inr rfl)]
        rfl
    · exact h.elim
  case lreturn =>
    simp only [zRt] at h
    split at h
    · rename_i x
      exact ⟨some (.inr (.inr x)), s, rfl, hs, fun v e => (by cases e; exact ht.hd), h⟩
    · exact h.elim
  case return_ =>
    simp only [zRt] at h
    split at h
    · exact ⟨none, s, rfl, hs, fun v e => (by cases e), h⟩
    · exact h.elim
  all_goals exact h.elim
theorem zTok_take {n : Nat} (h : zTok st) : zTok (st.take n).reverse := fun v hv => h v (List.mem_of_mem_take (List.mem_reverse.mp hv))
theorem zTok_drop {n : Nat} (h : zTok st) : zTok (st.drop n) := fun v hv => h v (List.mem_of_mem_drop hv)
theorem zAp_map (r : Option zV) (l : List zV) : (zAp r l).map zv = (r.map zv).toList ++ l.map zv := by cases r <;> rfl
theorem zAp_ok {r : Option zV} {l : List zV} (h1 : ∀ v, r = some v → zVok v) (h2 : zTok l) : zTok (zAp r l) := by
  cases r with
  | none => exact h2
  | some v => exact h2.mk (h1 v rfl)
theorem zX_ok (hro : ∀ q l, ro q = some l → ∀ k, zR (l.getD k 0)) {E : zEo} {J : zJo} {E' : kEo} {J' : kJo}
    (hE : ∀ m as s Q, E m as s Q → zSok sh s → zTok as → zRes sh (E' m (as.map zv) (zH s 0 sh)) Q)
    (hJ : ∀ t lv st s Q, J t lv st s Q → zSok sh s → zLok lv → zTok st → zRes sh (J' t (zM lv) (st.map zv) (zH s 0 sh)) Q) :
    ∀ (is : List kIt) (lv : zL) (st : List zV) (s : zSt) (Q : zQ), zX sh ro E J is lv st s Q → zSok sh s → zLok lv → zTok st → zRes sh (kX (zro ro) E' J' is (zM lv) (st.map zv) (zH s 0 sh)) Q
  | [], lv, st, s, Q, h, _, _, _ => h.elim
  | (_, .inl (i, a, b, z)) :: is, lv, st, s, Q, h, hs, hl, ht => by
    obtain ⟨lv', st', s', h1, h2, h3, h4, h5⟩ := zS_ok hro (show zS sh ro i a b z lv st s (fun lv st s => zX sh ro E J is lv st s Q) from h) hs hl ht
    unfold kX
    rw [h1]
    exact zX_ok hro hE hJ is lv' st' s' Q h2 h3 h4 h5
  | (_, .inr (i, k, a, b, sw)) :: is, lv, st, s, Q, h, hs, hl, ht => by
    unfold zX at h
    unfold kX
    split at h
    · obtain ⟨c, bb, r, h1, h2, ⟨h3, h4⟩, h5⟩ := zCd_ok h ht
      rw [if_pos rfl, h1]
      dsimp only
      by_cases hb : bb = true
      · rw [if_pos hb]; exact hJ _ _ _ _ _ (h3 (h2.mp hb)) hs hl h5
      · rw [if_neg hb]; exact zX_ok hro hE hJ is lv r s Q (h4 (fun e => hb (h2.mpr e))) hs hl h5
    · rw [if_neg (by decide), if_pos rfl]
      exact hJ _ _ _ _ _ h hs hl ht
    · rw [if_neg (by decide), if_neg (by decide), if_pos rfl]
      split at h
      · rename_i x r
        exact zSw_ok (P := fun o => zRes sh o Q) (fun t g => hJ t lv r s Q g hs hl ht.tl) ht.hd sw h
      · exact h.elim
    · rw [if_neg (by decide), if_neg (by decide), if_neg (by decide), if_pos rfl]
      exact zRt_ok h hs ht
    · rw [if_neg (by decide), if_neg (by decide), if_neg (by decide), if_neg (by decide), if_pos rfl]
      cases hb : Nat.ble b st.length && Nat.ble st.length (b + 4) with
      | false => rw [hb] at h; exact h.elim
      | true =>
        rw [hb] at h
        obtain ⟨b1, b2⟩ := Bool.and_eq_true_iff.mp hb
        obtain ⟨r, s', h1, h2, h3, h4⟩ := hE a _ s _ h hs (zTok_take ht)
        rw [if_pos ⟨by rw [List.length_map]; exact Nat.le_of_ble_eq_true b1, by rw [List.length_map]; exact Nat.le_of_ble_eq_true b2⟩, ← List.map_take, ← List.map_reverse, h1]
        dsimp only
        rw [← List.map_drop, ← zAp_map]
        exact zX_ok hro hE hJ is lv _ s' Q h4 h2 hl (zAp_ok h3 (zTok_drop ht))
    · exact h.elim
end ZSnd
end
