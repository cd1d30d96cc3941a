-- laid by wip/whole/ctor.py
/-! CONSTRUCTORS: the words of the tables, what a new object holds -/
theorem cwA_int : Jvm.Cond.arrayClass Jvm.ClassFile.FieldType.int ∈ kTbl := List.mem_filter.mpr ⟨(List.mem_append_right _ (List.mem_append_left _ (List.mem_of_getElem? (i := 56) rfl))), rfl⟩
theorem cwA_long : Jvm.Cond.arrayClass Jvm.ClassFile.FieldType.long ∈ kTbl := List.mem_filter.mpr ⟨(List.mem_append_right _ (List.mem_append_left _ (List.mem_of_getElem? (i := 237) rfl))), rfl⟩
theorem cwA_byte : Jvm.Cond.arrayClass Jvm.ClassFile.FieldType.byte ∈ kTbl := List.mem_filter.mpr ⟨(List.mem_append_right _ (List.mem_append_right _ (List.mem_append_right _ (List.mem_append_right _ (List.mem_append_right _ (List.mem_append_right _ (List.mem_append_left _ (List.mem_of_getElem? (i := 0) rfl)))))))), rfl⟩
theorem cwA_boolean : Jvm.Cond.arrayClass Jvm.ClassFile.FieldType.boolean ∈ kTbl := List.mem_filter.mpr ⟨(List.mem_append_right _ (List.mem_append_left _ (List.mem_of_getElem? (i := 167) rfl))), rfl⟩
theorem cwA_short : Jvm.Cond.arrayClass Jvm.ClassFile.FieldType.short ∈ kTbl := List.mem_filter.mpr ⟨(List.mem_append_right _ (List.mem_append_right _ (List.mem_append_right _ (List.mem_append_right _ (List.mem_append_right _ (List.mem_append_right _ (List.mem_append_left _ (List.mem_of_getElem? (i := 1) rfl)))))))), rfl⟩
theorem cwOi : Jvm.Cond.instanceMethod Lib.objectInit ∈ kTbl := List.mem_filter.mpr ⟨(List.mem_append_right _ (List.mem_append_left _ (List.mem_of_getElem? (i := 20) rfl))), rfl⟩
theorem cwOc : Jvm.Cond.code Lib.objectInit ⟨#[0xb1]⟩ 1 none ∈ kTbl := List.mem_filter.mpr ⟨(List.mem_append_right _ (List.mem_append_left _ (List.mem_of_getElem? (i := 21) rfl))), rfl⟩
theorem kCk0 : kCk 0 RX0 TX0 4 tyX0 := ⟨rfl, tyX0_ok, nmX0⟩
theorem cwI0 : Jvm.Cond.instanceMethod yX0_init ∈ kTbl := List.mem_filter.mpr ⟨(List.mem_append_right _ (List.mem_append_left _ (List.mem_of_getElem? (i := 202) rfl))), rfl⟩
theorem cwC0 : Jvm.Cond.code yX0_init cX0_init 1 none ∈ kTbl := List.mem_filter.mpr ⟨(List.mem_append_right _ (List.mem_append_left _ (List.mem_of_getElem? (i := 203) rfl))), rfl⟩
theorem cwN0 : Jvm.Cond.initialized RX0 ∈ kTbl := List.mem_filter.mpr ⟨(List.mem_append_right _ (List.mem_append_left _ (List.mem_of_getElem? (i := 9) rfl))), rfl⟩
theorem cwT0 : Jvm.Cond.instantiable RX0 4 ∈ kTbl := List.mem_filter.mpr ⟨(List.mem_append_right _ (List.mem_append_left _ (List.mem_of_getElem? (i := 200) rfl))), rfl⟩
def cF0 : List Value := [.null, .int (Int32.ofInt 0), .null, .int (Int32.ofInt 0)]
theorem cF0_ok : cF0 = (List.range 4).map (fun j => defaultValue (tyX0 j)) := rfl
theorem kCk1 : kCk 1 RX1 TX1 5 tyX1 := ⟨rfl, tyX1_ok, nmX1⟩
theorem cwI1 : Jvm.Cond.instanceMethod yX1_init ∈ kTbl := List.mem_filter.mpr ⟨(List.mem_append_right _ (List.mem_append_left _ (List.mem_of_getElem? (i := 84) rfl))), rfl⟩
theorem cwC1 : Jvm.Cond.code yX1_init cX1_init 1 none ∈ kTbl := List.mem_filter.mpr ⟨(List.mem_append_right _ (List.mem_append_left _ (List.mem_of_getElem? (i := 85) rfl))), rfl⟩
theorem cwN1 : Jvm.Cond.initialized RX1 ∈ kTbl := List.mem_filter.mpr ⟨(List.mem_append_right _ (List.mem_append_left _ (List.mem_of_getElem? (i := 4) rfl))), rfl⟩
theorem cwT1 : Jvm.Cond.instantiable RX1 5 ∈ kTbl := List.mem_filter.mpr ⟨(List.mem_append_right _ (List.mem_append_left _ (List.mem_of_getElem? (i := 82) rfl))), rfl⟩
def cF1 : List Value := [.null, .null, .null, .int (Int32.ofInt 0), .int (Int32.ofInt 0)]
theorem cF1_ok : cF1 = (List.range 5).map (fun j => defaultValue (tyX1 j)) := rfl
theorem kCk2 : kCk 2 RX2 TX2 5 tyX2 := ⟨rfl, tyX2_ok, nmX2⟩
theorem cwI2 : Jvm.Cond.instanceMethod yX2_init ∈ kTbl := List.mem_filter.mpr ⟨(List.mem_append_right _ (List.mem_append_left _ (List.mem_of_getElem? (i := 148) rfl))), rfl⟩
theorem cwC2 : Jvm.Cond.code yX2_init cX2_init 3 none ∈ kTbl := List.mem_filter.mpr ⟨(List.mem_append_right _ (List.mem_append_left _ (List.mem_of_getElem? (i := 149) rfl))), rfl⟩
theorem cwN2 : Jvm.Cond.initialized RX2 ∈ kTbl := List.mem_filter.mpr ⟨(List.mem_append_right _ (List.mem_append_left _ (List.mem_of_getElem? (i := 7) rfl))), rfl⟩
theorem cwT2 : Jvm.Cond.instantiable RX2 5 ∈ kTbl := List.mem_filter.mpr ⟨(List.mem_append_right _ (List.mem_append_left _ (List.mem_of_getElem? (i := 146) rfl))), rfl⟩
def cF2 : List Value := [.null, .null, .null, .null, .null]
theorem cF2_ok : cF2 = (List.range 5).map (fun j => defaultValue (tyX2 j)) := rfl
theorem kCk3 : kCk 3 RX3 TX3 8 tyX3 := ⟨rfl, tyX3_ok, nmX3⟩
theorem cwI3 : Jvm.Cond.instanceMethod yX3_init ∈ kTbl := List.mem_filter.mpr ⟨(List.mem_append_right _ (List.mem_append_left _ (List.mem_of_getElem? (i := 171) rfl))), rfl⟩
theorem cwC3 : Jvm.Cond.code yX3_init cX3_init 1 none ∈ kTbl := List.mem_filter.mpr ⟨(List.mem_append_right _ (List.mem_append_left _ (List.mem_of_getElem? (i := 172) rfl))), rfl⟩
theorem cwN3 : Jvm.Cond.initialized RX3 ∈ kTbl := List.mem_filter.mpr ⟨(List.mem_append_right _ (List.mem_append_left _ (List.mem_of_getElem? (i := 8) rfl))), rfl⟩
theorem cwT3 : Jvm.Cond.instantiable RX3 8 ∈ kTbl := List.mem_filter.mpr ⟨(List.mem_append_right _ (List.mem_append_left _ (List.mem_of_getElem? (i := 169) rfl))), rfl⟩
def cF3 : List Value := [.null, .null, .null, .int (Int32.ofInt 0), .int (Int32.ofInt 0), .int (Int32.ofInt 0), .int (Int32.ofInt 0), .int (Int32.ofInt 0)]
theorem cF3_ok : cF3 = (List.range 8).map (fun j => defaultValue (tyX3 j)) := rfl
theorem kCk4 : kCk 4 RX4 TX4 5 tyX4 := ⟨rfl, tyX4_ok, nmX4⟩
theorem cwI4 : Jvm.Cond.instanceMethod yX4_init ∈ kTbl := List.mem_filter.mpr ⟨(List.mem_append_right _ (List.mem_append_left _ (List.mem_of_getElem? (i := 60) rfl))), rfl⟩
theorem cwC4 : Jvm.Cond.code yX4_init cX4_init 3 none ∈ kTbl := List.mem_filter.mpr ⟨(List.mem_append_right _ (List.mem_append_left _ (List.mem_of_getElem? (i := 61) rfl))), rfl⟩
theorem cwN4 : Jvm.Cond.initialized RX4 ∈ kTbl := List.mem_filter.mpr ⟨(List.mem_append_right _ (List.mem_append_left _ (List.mem_of_getElem? (i := 3) rfl))), rfl⟩
theorem cwT4 : Jvm.Cond.instantiable RX4 5 ∈ kTbl := List.mem_filter.mpr ⟨(List.mem_append_right _ (List.mem_append_left _ (List.mem_of_getElem? (i := 58) rfl))), rfl⟩
def cF4 : List Value := [.null, .null, .null, .int (Int32.ofInt 0), .int (Int32.ofInt 0)]
theorem cF4_ok : cF4 = (List.range 5).map (fun j => defaultValue (tyX4 j)) := rfl
theorem kCk5 : kCk 5 RX5 TX5 9 tyX5 := ⟨rfl, tyX5_ok, nmX5⟩
theorem cwI5 : Jvm.Cond.instanceMethod yX5_init ∈ kTbl := List.mem_filter.mpr ⟨(List.mem_append_right _ (List.mem_append_left _ (List.mem_of_getElem? (i := 25) rfl))), rfl⟩
theorem cwC5 : Jvm.Cond.code yX5_init cX5_init 1 none ∈ kTbl := List.mem_filter.mpr ⟨(List.mem_append_right _ (List.mem_append_left _ (List.mem_of_getElem? (i := 26) rfl))), rfl⟩
theorem cwN5 : Jvm.Cond.initialized RX5 ∈ kTbl := List.mem_filter.mpr ⟨(List.mem_append_right _ (List.mem_append_left _ (List.mem_of_getElem? (i := 2) rfl))), rfl⟩
theorem cwT5 : Jvm.Cond.instantiable RX5 9 ∈ kTbl := List.mem_filter.mpr ⟨(List.mem_append_right _ (List.mem_append_left _ (List.mem_of_getElem? (i := 23) rfl))), rfl⟩
def cF5 : List Value := [.null, .int (Int32.ofInt 0), .int (Int32.ofInt 0), .null, .int (Int32.ofInt 0), .null, .int (Int32.ofInt 0), .null, .null]
theorem cF5_ok : cF5 = (List.range 9).map (fun j => defaultValue (tyX5 j)) := rfl
theorem kCk6 : kCk 6 RX6 TX6 5 tyX6 := ⟨rfl, tyX6_ok, nmX6⟩
theorem cwI6 : Jvm.Cond.instanceMethod yX6_init ∈ kTbl := List.mem_filter.mpr ⟨(List.mem_append_right _ (List.mem_append_left _ (List.mem_of_getElem? (i := 126) rfl))), rfl⟩
theorem cwC6 : Jvm.Cond.code yX6_init cX6_init 3 none ∈ kTbl := List.mem_filter.mpr ⟨(List.mem_append_right _ (List.mem_append_left _ (List.mem_of_getElem? (i := 127) rfl))), rfl⟩
theorem cwN6 : Jvm.Cond.initialized RX6 ∈ kTbl := List.mem_filter.mpr ⟨(List.mem_append_right _ (List.mem_append_left _ (List.mem_of_getElem? (i := 6) rfl))), rfl⟩
theorem cwT6 : Jvm.Cond.instantiable RX6 5 ∈ kTbl := List.mem_filter.mpr ⟨(List.mem_append_right _ (List.mem_append_left _ (List.mem_of_getElem? (i := 124) rfl))), rfl⟩
def cF6 : List Value := [.null, .null, .null, .null, .null]
theorem cF6_ok : cF6 = (List.range 5).map (fun j => defaultValue (tyX6 j)) := rfl
theorem kCk7 : kCk 7 RX7 TX7 4 tyX7 := ⟨rfl, tyX7_ok, nmX7⟩
theorem cwI7 : Jvm.Cond.instanceMethod yX7_init ∈ kTbl := List.mem_filter.mpr ⟨(List.mem_append_right _ (List.mem_append_left _ (List.mem_of_getElem? (i := 221) rfl))), rfl⟩
theorem cwC7 : Jvm.Cond.code yX7_init cX7_init 2 none ∈ kTbl := List.mem_filter.mpr ⟨(List.mem_append_right _ (List.mem_append_left _ (List.mem_of_getElem? (i := 222) rfl))), rfl⟩
theorem cwN7 : Jvm.Cond.initialized RX7 ∈ kTbl := List.mem_filter.mpr ⟨(List.mem_append_right _ (List.mem_append_left _ (List.mem_of_getElem? (i := 10) rfl))), rfl⟩
theorem cwT7 : Jvm.Cond.instantiable RX7 4 ∈ kTbl := List.mem_filter.mpr ⟨(List.mem_append_right _ (List.mem_append_left _ (List.mem_of_getElem? (i := 219) rfl))), rfl⟩
def cF7 : List Value := [.null, .null, .null, .null]
theorem cF7_ok : cF7 = (List.range 4).map (fun j => defaultValue (tyX7 j)) := rfl
theorem kCk8 : kCk 8 RX8 TX8 4 tyX8 := ⟨rfl, tyX8_ok, nmX8⟩
theorem cwI8 : Jvm.Cond.instanceMethod yX8_init ∈ kTbl := List.mem_filter.mpr ⟨(List.mem_append_right _ (List.mem_append_left _ (List.mem_of_getElem? (i := 106) rfl))), rfl⟩
theorem cwC8 : Jvm.Cond.code yX8_init cX8_init 2 none ∈ kTbl := List.mem_filter.mpr ⟨(List.mem_append_right _ (List.mem_append_left _ (List.mem_of_getElem? (i := 107) rfl))), rfl⟩
theorem cwN8 : Jvm.Cond.initialized RX8 ∈ kTbl := List.mem_filter.mpr ⟨(List.mem_append_right _ (List.mem_append_left _ (List.mem_of_getElem? (i := 5) rfl))), rfl⟩
theorem cwT8 : Jvm.Cond.instantiable RX8 4 ∈ kTbl := List.mem_filter.mpr ⟨(List.mem_append_right _ (List.mem_append_left _ (List.mem_of_getElem? (i := 104) rfl))), rfl⟩
def cF8 : List Value := [.null, .null, .null, .null]
theorem cF8_ok : cF8 = (List.range 4).map (fun j => defaultValue (tyX8 j)) := rfl
theorem kCk9 : kCk 9 RX9 TX9 11 tyX9 := ⟨rfl, tyX9_ok, nmX9⟩
theorem cwI9 : Jvm.Cond.instanceMethod yX9_init ∈ kTbl := List.mem_filter.mpr ⟨(List.mem_append_right _ (List.mem_append_left _ (List.mem_of_getElem? (i := 17) rfl))), rfl⟩
theorem cwC9 : Jvm.Cond.code yX9_init cX9_init 1 none ∈ kTbl := List.mem_filter.mpr ⟨(List.mem_append_right _ (List.mem_append_left _ (List.mem_of_getElem? (i := 18) rfl))), rfl⟩
theorem cwN9 : Jvm.Cond.initialized RX9 ∈ kTbl := List.mem_filter.mpr ⟨(List.mem_append_right _ (List.mem_append_left _ (List.mem_of_getElem? (i := 1) rfl))), rfl⟩
theorem cwT9 : Jvm.Cond.instantiable RX9 11 ∈ kTbl := List.mem_filter.mpr ⟨(List.mem_append_right _ (List.mem_append_left _ (List.mem_of_getElem? (i := 15) rfl))), rfl⟩
def cF9 : List Value := [.null, .null, .null, .null, .null, .null, .null, .null, .int (Int32.ofInt 0), .null, .null]
theorem cF9_ok : cF9 = (List.range 11).map (fun j => defaultValue (tyX9 j)) := rfl
theorem kCk10 : kCk 10 RX10 TX10 59 tyX10 := ⟨rfl, tyX10_ok, nmX10⟩
theorem cwI10 : Jvm.Cond.instanceMethod yX10_init ∈ kTbl := List.mem_filter.mpr ⟨(List.mem_append_right _ (List.mem_append_right _ (List.mem_append_right _ (List.mem_append_right _ (List.mem_append_right _ (List.mem_append_left _ (List.mem_of_getElem? (i := 60) rfl))))))), rfl⟩
theorem cwC10 : Jvm.Cond.code yX10_init cX10_init 1 none ∈ kTbl := List.mem_filter.mpr ⟨(List.mem_append_right _ (List.mem_append_right _ (List.mem_append_right _ (List.mem_append_right _ (List.mem_append_right _ (List.mem_append_left _ (List.mem_of_getElem? (i := 61) rfl))))))), rfl⟩
theorem cwN10 : Jvm.Cond.initialized RX10 ∈ kTbl := List.mem_filter.mpr ⟨(List.mem_append_right _ (List.mem_append_left _ (List.mem_of_getElem? (i := 11) rfl))), rfl⟩
theorem cwT10 : Jvm.Cond.instantiable RX10 59 ∈ kTbl := List.mem_filter.mpr ⟨(List.mem_append_right _ (List.mem_append_right _ (List.mem_append_right _ (List.mem_append_right _ (List.mem_append_right _ (List.mem_append_left _ (List.mem_of_getElem? (i := 58) rfl))))))), rfl⟩
def cF10 : List Value := [.int (Int32.ofInt 0), .int (Int32.ofInt 0), .null, .null, .null, .null, .int (Int32.ofInt 0), .null, .null, .null, .null, .null, .null, .int (Int32.ofInt 0), .int (Int32.ofInt 0), .int (Int32.ofInt 0), .int (Int32.ofInt 0), .int (Int32.ofInt 0), .int (Int32.ofInt 0), .null, .null, .null, .null, .null, .int (Int32.ofInt 0), .int (Int32.ofInt 0), .int (Int32.ofInt 0), .int (Int32.ofInt 0), .int (Int32.ofInt 0), .null, .null, .null, .null, .null, .null, .null, .int (Int32.ofInt 0), .null, .null, .null, .null, .null, .int (Int32.ofInt 0), .null, .null, .null, .null, .int (Int32.ofInt 0), .null, .null, .null, .int (Int32.ofInt 0), .null, .int (Int32.ofInt 0), .null, .null, .null, .null, .null]
theorem cF10_ok : cF10 = (List.range 59).map (fun j => defaultValue (tyX10 j)) := rfl
theorem e0_0 : decode cX0_init 0 = .ok (.aload_n 0, 1) := by decide +kernel
theorem e0_1 : decode cX0_init 1 = .ok (.invokespecial 3, 3) := by decide +kernel
theorem cw0_3 : Jvm.Cond.methodLink RX0 3 Lib.objectInit ∈ kTbl := List.mem_filter.mpr ⟨(List.mem_append_right _ (List.mem_append_left _ (List.mem_of_getElem? (i := 204) rfl))), rfl⟩
theorem e0_4 : decode cX0_init 4 = .ok (.aload_n 0, 1) := by decide +kernel
theorem e0_5 : decode cX0_init 5 = .ok (.bipush 50, 2) := by decide +kernel
theorem e0_7 : decode cX0_init 7 = .ok (.newarray .int, 2) := by decide +kernel
theorem e0_9 : decode cX0_init 9 = .ok (.putfield 11, 3) := by decide +kernel
theorem cw0_11 : Jvm.Cond.fieldLink RX0 11 RX0 "kinds" "[I" ∈ kTbl := List.mem_filter.mpr ⟨(List.mem_append_right _ (List.mem_append_left _ (List.mem_of_getElem? (i := 205) rfl))), rfl⟩
theorem e0_12 : decode cX0_init 12 = .ok (.aload_n 0, 1) := by decide +kernel
theorem e0_13 : decode cX0_init 13 = .ok (.bipush 24, 2) := by decide +kernel
theorem e0_15 : decode cX0_init 15 = .ok (.newarray .int, 2) := by decide +kernel
theorem e0_17 : decode cX0_init 17 = .ok (.putfield 15, 3) := by decide +kernel
theorem cw0_15 : Jvm.Cond.fieldLink RX0 15 RX0 "trace" "[I" ∈ kTbl := List.mem_filter.mpr ⟨(List.mem_append_right _ (List.mem_append_left _ (List.mem_of_getElem? (i := 207) rfl))), rfl⟩
theorem e0_20 : decode cX0_init 20 = .ok (.return_, 1) := by decide +kernel
theorem e1_0 : decode cX1_init 0 = .ok (.aload_n 0, 1) := by decide +kernel
theorem e1_1 : decode cX1_init 1 = .ok (.invokespecial 3, 3) := by decide +kernel
theorem cw1_3 : Jvm.Cond.methodLink RX1 3 Lib.objectInit ∈ kTbl := List.mem_filter.mpr ⟨(List.mem_append_right _ (List.mem_append_left _ (List.mem_of_getElem? (i := 86) rfl))), rfl⟩
theorem e1_4 : decode cX1_init 4 = .ok (.aload_n 0, 1) := by decide +kernel
theorem e1_5 : decode cX1_init 5 = .ok (.bipush 40, 2) := by decide +kernel
theorem e1_7 : decode cX1_init 7 = .ok (.newarray .int, 2) := by decide +kernel
theorem e1_9 : decode cX1_init 9 = .ok (.putfield 11, 3) := by decide +kernel
theorem cw1_11 : Jvm.Cond.fieldLink RX1 11 RX1 "places" "[I" ∈ kTbl := List.mem_filter.mpr ⟨(List.mem_append_right _ (List.mem_append_left _ (List.mem_of_getElem? (i := 87) rfl))), rfl⟩
theorem e1_12 : decode cX1_init 12 = .ok (.aload_n 0, 1) := by decide +kernel
theorem e1_13 : decode cX1_init 13 = .ok (.bipush 40, 2) := by decide +kernel
theorem e1_15 : decode cX1_init 15 = .ok (.newarray .int, 2) := by decide +kernel
theorem e1_17 : decode cX1_init 17 = .ok (.putfield 15, 3) := by decide +kernel
theorem cw1_15 : Jvm.Cond.fieldLink RX1 15 RX1 "before" "[I" ∈ kTbl := List.mem_filter.mpr ⟨(List.mem_append_right _ (List.mem_append_left _ (List.mem_of_getElem? (i := 88) rfl))), rfl⟩
theorem e1_20 : decode cX1_init 20 = .ok (.aload_n 0, 1) := by decide +kernel
theorem e1_21 : decode cX1_init 21 = .ok (.bipush 40, 2) := by decide +kernel
theorem e1_23 : decode cX1_init 23 = .ok (.newarray .int, 2) := by decide +kernel
theorem e1_25 : decode cX1_init 25 = .ok (.putfield 18, 3) := by decide +kernel
theorem cw1_18 : Jvm.Cond.fieldLink RX1 18 RX1 "behind" "[I" ∈ kTbl := List.mem_filter.mpr ⟨(List.mem_append_right _ (List.mem_append_left _ (List.mem_of_getElem? (i := 89) rfl))), rfl⟩
theorem e1_28 : decode cX1_init 28 = .ok (.return_, 1) := by decide +kernel
theorem e2_0 : decode cX2_init 0 = .ok (.aload_n 0, 1) := by decide +kernel
theorem e2_1 : decode cX2_init 1 = .ok (.invokespecial 3, 3) := by decide +kernel
theorem cw2_3 : Jvm.Cond.methodLink RX2 3 Lib.objectInit ∈ kTbl := List.mem_filter.mpr ⟨(List.mem_append_right _ (List.mem_append_left _ (List.mem_of_getElem? (i := 150) rfl))), rfl⟩
theorem e2_4 : decode cX2_init 4 = .ok (.aload_n 0, 1) := by decide +kernel
theorem e2_5 : decode cX2_init 5 = .ok (.bipush 16, 2) := by decide +kernel
theorem e2_7 : decode cX2_init 7 = .ok (.newarray .int, 2) := by decide +kernel
theorem e2_9 : decode cX2_init 9 = .ok (.putfield 9, 3) := by decide +kernel
theorem cw2_9 : Jvm.Cond.fieldLink RX2 9 RX2 "due" "[I" ∈ kTbl := List.mem_filter.mpr ⟨(List.mem_append_right _ (List.mem_append_left _ (List.mem_of_getElem? (i := 153) rfl))), rfl⟩
theorem e2_12 : decode cX2_init 12 = .ok (.aload_n 0, 1) := by decide +kernel
theorem e2_13 : decode cX2_init 13 = .ok (.bipush 16, 2) := by decide +kernel
theorem e2_15 : decode cX2_init 15 = .ok (.newarray .int, 2) := by decide +kernel
theorem e2_17 : decode cX2_init 17 = .ok (.putfield 15, 3) := by decide +kernel
theorem cw2_15 : Jvm.Cond.fieldLink RX2 15 RX2 "left" "[I" ∈ kTbl := List.mem_filter.mpr ⟨(List.mem_append_right _ (List.mem_append_left _ (List.mem_of_getElem? (i := 154) rfl))), rfl⟩
theorem e2_20 : decode cX2_init 20 = .ok (.aload_n 0, 1) := by decide +kernel
theorem e2_21 : decode cX2_init 21 = .ok (.bipush 60, 2) := by decide +kernel
theorem e2_23 : decode cX2_init 23 = .ok (.newarray .boolean, 2) := by decide +kernel
theorem e2_25 : decode cX2_init 25 = .ok (.putfield 18, 3) := by decide +kernel
theorem cw2_18 : Jvm.Cond.fieldLink RX2 18 RX2 "reminded" "[Z" ∈ kTbl := List.mem_filter.mpr ⟨(List.mem_append_right _ (List.mem_append_left _ (List.mem_of_getElem? (i := 155) rfl))), rfl⟩
theorem e2_28 : decode cX2_init 28 = .ok (.aload_n 0, 1) := by decide +kernel
theorem e2_29 : decode cX2_init 29 = .ok (.aload_n 1, 1) := by decide +kernel
theorem e2_30 : decode cX2_init 30 = .ok (.putfield 22, 3) := by decide +kernel
theorem cw2_22 : Jvm.Cond.fieldLink RX2 22 RX2 "folk" "LPennyALap$Folk;" ∈ kTbl := List.mem_filter.mpr ⟨(List.mem_append_right _ (List.mem_append_left _ (List.mem_of_getElem? (i := 151) rfl))), rfl⟩
theorem e2_33 : decode cX2_init 33 = .ok (.aload_n 0, 1) := by decide +kernel
theorem e2_34 : decode cX2_init 34 = .ok (.aload_n 2, 1) := by decide +kernel
theorem e2_35 : decode cX2_init 35 = .ok (.putfield 26, 3) := by decide +kernel
theorem cw2_26 : Jvm.Cond.fieldLink RX2 26 RX2 "thought" "LPennyALap$Thought;" ∈ kTbl := List.mem_filter.mpr ⟨(List.mem_append_right _ (List.mem_append_left _ (List.mem_of_getElem? (i := 152) rfl))), rfl⟩
theorem e2_38 : decode cX2_init 38 = .ok (.return_, 1) := by decide +kernel
theorem e3_0 : decode cX3_init 0 = .ok (.aload_n 0, 1) := by decide +kernel
theorem e3_1 : decode cX3_init 1 = .ok (.invokespecial 3, 3) := by decide +kernel
theorem cw3_3 : Jvm.Cond.methodLink RX3 3 Lib.objectInit ∈ kTbl := List.mem_filter.mpr ⟨(List.mem_append_right _ (List.mem_append_left _ (List.mem_of_getElem? (i := 173) rfl))), rfl⟩
theorem e3_4 : decode cX3_init 4 = .ok (.aload_n 0, 1) := by decide +kernel
theorem e3_5 : decode cX3_init 5 = .ok (.bipush 6, 2) := by decide +kernel
theorem e3_7 : decode cX3_init 7 = .ok (.newarray .int, 2) := by decide +kernel
theorem e3_9 : decode cX3_init 9 = .ok (.putfield 9, 3) := by decide +kernel
theorem cw3_9 : Jvm.Cond.fieldLink RX3 9 RX3 "laps" "[I" ∈ kTbl := List.mem_filter.mpr ⟨(List.mem_append_right _ (List.mem_append_left _ (List.mem_of_getElem? (i := 174) rfl))), rfl⟩
theorem e3_12 : decode cX3_init 12 = .ok (.aload_n 0, 1) := by decide +kernel
theorem e3_13 : decode cX3_init 13 = .ok (.bipush 6, 2) := by decide +kernel
theorem e3_15 : decode cX3_init 15 = .ok (.newarray .int, 2) := by decide +kernel
theorem e3_17 : decode cX3_init 17 = .ok (.putfield 15, 3) := by decide +kernel
theorem cw3_15 : Jvm.Cond.fieldLink RX3 15 RX3 "minutes" "[I" ∈ kTbl := List.mem_filter.mpr ⟨(List.mem_append_right _ (List.mem_append_left _ (List.mem_of_getElem? (i := 175) rfl))), rfl⟩
theorem e3_20 : decode cX3_init 20 = .ok (.aload_n 0, 1) := by decide +kernel
theorem e3_21 : decode cX3_init 21 = .ok (.bipush 16, 2) := by decide +kernel
theorem e3_23 : decode cX3_init 23 = .ok (.newarray .int, 2) := by decide +kernel
theorem e3_25 : decode cX3_init 25 = .ok (.putfield 18, 3) := by decide +kernel
theorem cw3_18 : Jvm.Cond.fieldLink RX3 18 RX3 "paid" "[I" ∈ kTbl := List.mem_filter.mpr ⟨(List.mem_append_right _ (List.mem_append_left _ (List.mem_of_getElem? (i := 176) rfl))), rfl⟩
theorem e3_28 : decode cX3_init 28 = .ok (.return_, 1) := by decide +kernel
theorem e4_0 : decode cX4_init 0 = .ok (.aload_n 0, 1) := by decide +kernel
theorem e4_1 : decode cX4_init 1 = .ok (.invokespecial 5, 3) := by decide +kernel
theorem cw4_5 : Jvm.Cond.methodLink RX4 5 Lib.objectInit ∈ kTbl := List.mem_filter.mpr ⟨(List.mem_append_right _ (List.mem_append_left _ (List.mem_of_getElem? (i := 62) rfl))), rfl⟩
theorem e4_4 : decode cX4_init 4 = .ok (.aload_n 0, 1) := by decide +kernel
theorem e4_5 : decode cX4_init 5 = .ok (.bipush 108, 2) := by decide +kernel
theorem e4_7 : decode cX4_init 7 = .ok (.newarray .int, 2) := by decide +kernel
theorem e4_9 : decode cX4_init 9 = .ok (.putfield 11, 3) := by decide +kernel
theorem cw4_11 : Jvm.Cond.fieldLink RX4 11 RX4 "numbers" "[I" ∈ kTbl := List.mem_filter.mpr ⟨(List.mem_append_right _ (List.mem_append_left _ (List.mem_of_getElem? (i := 66) rfl))), rfl⟩
theorem e4_12 : decode cX4_init 12 = .ok (.aload_n 0, 1) := by decide +kernel
theorem e4_13 : decode cX4_init 13 = .ok (.bipush 16, 2) := by decide +kernel
theorem e4_15 : decode cX4_init 15 = .ok (.newarray .int, 2) := by decide +kernel
theorem e4_17 : decode cX4_init 17 = .ok (.putfield 15, 3) := by decide +kernel
theorem cw4_15 : Jvm.Cond.fieldLink RX4 15 RX4 "childOf" "[I" ∈ kTbl := List.mem_filter.mpr ⟨(List.mem_append_right _ (List.mem_append_left _ (List.mem_of_getElem? (i := 67) rfl))), rfl⟩
theorem e4_20 : decode cX4_init 20 = .ok (.aload_n 0, 1) := by decide +kernel
theorem e4_21 : decode cX4_init 21 = .ok (.aload_n 1, 1) := by decide +kernel
theorem e4_22 : decode cX4_init 22 = .ok (.putfield 18, 3) := by decide +kernel
theorem cw4_18 : Jvm.Cond.fieldLink RX4 18 RX4 "law" "LPennyALap$Law;" ∈ kTbl := List.mem_filter.mpr ⟨(List.mem_append_right _ (List.mem_append_left _ (List.mem_of_getElem? (i := 65) rfl))), rfl⟩
theorem e4_25 : decode cX4_init 25 = .ok (.bipush 9, 2) := by decide +kernel
theorem e4_27 : decode cX4_init 27 = .ok (.istore_n 2, 1) := by decide +kernel
theorem e4_28 : decode cX4_init 28 = .ok (.iload_n 2, 1) := by decide +kernel
theorem e4_29 : decode cX4_init 29 = .ok (.bipush 12, 2) := by decide +kernel
theorem e4_31 : decode cX4_init 31 = .ok (.if_icmp .gt 26, 3) := by decide +kernel
theorem e4_34 : decode cX4_init 34 = .ok (.aload_n 0, 1) := by decide +kernel
theorem e4_35 : decode cX4_init 35 = .ok (.getfield 11, 3) := by decide +kernel
theorem e4_38 : decode cX4_init 38 = .ok (.bipush 104, 2) := by decide +kernel
theorem e4_40 : decode cX4_init 40 = .ok (.iload_n 2, 1) := by decide +kernel
theorem e4_41 : decode cX4_init 41 = .ok (.iadd, 1) := by decide +kernel
theorem e4_42 : decode cX4_init 42 = .ok (.bipush 9, 2) := by decide +kernel
theorem e4_44 : decode cX4_init 44 = .ok (.isub, 1) := by decide +kernel
theorem e4_45 : decode cX4_init 45 = .ok (.getstatic 22, 3) := by decide +kernel
theorem e4_48 : decode cX4_init 48 = .ok (.iload_n 2, 1) := by decide +kernel
theorem e4_49 : decode cX4_init 49 = .ok (.iaload, 1) := by decide +kernel
theorem e4_50 : decode cX4_init 50 = .ok (.iastore, 1) := by decide +kernel
theorem e4_51 : decode cX4_init 51 = .ok (.iinc 2 1, 3) := by decide +kernel
theorem e4_54 : decode cX4_init 54 = .ok (.goto (-26), 3) := by decide +kernel
theorem e4_57 : decode cX4_init 57 = .ok (.return_, 1) := by decide +kernel
theorem e5_0 : decode cX5_init 0 = .ok (.aload_n 0, 1) := by decide +kernel
theorem e5_1 : decode cX5_init 1 = .ok (.invokespecial 3, 3) := by decide +kernel
theorem cw5_3 : Jvm.Cond.methodLink RX5 3 Lib.objectInit ∈ kTbl := List.mem_filter.mpr ⟨(List.mem_append_right _ (List.mem_append_left _ (List.mem_of_getElem? (i := 27) rfl))), rfl⟩
theorem e5_4 : decode cX5_init 4 = .ok (.aload_n 0, 1) := by decide +kernel
theorem e5_5 : decode cX5_init 5 = .ok (.bipush 120, 2) := by decide +kernel
theorem e5_7 : decode cX5_init 7 = .ok (.newarray .int, 2) := by decide +kernel
theorem e5_9 : decode cX5_init 9 = .ok (.putfield 11, 3) := by decide +kernel
theorem cw5_11 : Jvm.Cond.fieldLink RX5 11 RX5 "tape" "[I" ∈ kTbl := List.mem_filter.mpr ⟨(List.mem_append_right _ (List.mem_append_left _ (List.mem_of_getElem? (i := 28) rfl))), rfl⟩
theorem e5_12 : decode cX5_init 12 = .ok (.aload_n 0, 1) := by decide +kernel
theorem e5_13 : decode cX5_init 13 = .ok (.bipush 121, 2) := by decide +kernel
theorem e5_15 : decode cX5_init 15 = .ok (.newarray .int, 2) := by decide +kernel
theorem e5_17 : decode cX5_init 17 = .ok (.putfield 15, 3) := by decide +kernel
theorem cw5_15 : Jvm.Cond.fieldLink RX5 15 RX5 "steps" "[I" ∈ kTbl := List.mem_filter.mpr ⟨(List.mem_append_right _ (List.mem_append_left _ (List.mem_of_getElem? (i := 31) rfl))), rfl⟩
theorem e5_20 : decode cX5_init 20 = .ok (.aload_n 0, 1) := by decide +kernel
theorem e5_21 : decode cX5_init 21 = .ok (.bipush 121, 2) := by decide +kernel
theorem e5_23 : decode cX5_init 23 = .ok (.newarray .int, 2) := by decide +kernel
theorem e5_25 : decode cX5_init 25 = .ok (.putfield 18, 3) := by decide +kernel
theorem cw5_18 : Jvm.Cond.fieldLink RX5 18 RX5 "draft" "[I" ∈ kTbl := List.mem_filter.mpr ⟨(List.mem_append_right _ (List.mem_append_left _ (List.mem_of_getElem? (i := 33) rfl))), rfl⟩
theorem e5_28 : decode cX5_init 28 = .ok (.aload_n 0, 1) := by decide +kernel
theorem e5_29 : decode cX5_init 29 = .ok (.bipush 121, 2) := by decide +kernel
theorem e5_31 : decode cX5_init 31 = .ok (.newarray .int, 2) := by decide +kernel
theorem e5_33 : decode cX5_init 33 = .ok (.putfield 21, 3) := by decide +kernel
theorem cw5_21 : Jvm.Cond.fieldLink RX5 21 RX5 "stack" "[I" ∈ kTbl := List.mem_filter.mpr ⟨(List.mem_append_right _ (List.mem_append_left _ (List.mem_of_getElem? (i := 35) rfl))), rfl⟩
theorem e5_36 : decode cX5_init 36 = .ok (.aload_n 0, 1) := by decide +kernel
theorem e5_37 : decode cX5_init 37 = .ok (.bipush 6, 2) := by decide +kernel
theorem e5_39 : decode cX5_init 39 = .ok (.newarray .int, 2) := by decide +kernel
theorem e5_41 : decode cX5_init 41 = .ok (.putfield 24, 3) := by decide +kernel
theorem cw5_24 : Jvm.Cond.fieldLink RX5 24 RX5 "names" "[I" ∈ kTbl := List.mem_filter.mpr ⟨(List.mem_append_right _ (List.mem_append_left _ (List.mem_of_getElem? (i := 36) rfl))), rfl⟩
theorem e5_44 : decode cX5_init 44 = .ok (.return_, 1) := by decide +kernel
theorem e6_0 : decode cX6_init 0 = .ok (.aload_n 0, 1) := by decide +kernel
theorem e6_1 : decode cX6_init 1 = .ok (.invokespecial 5, 3) := by decide +kernel
theorem cw6_5 : Jvm.Cond.methodLink RX6 5 Lib.objectInit ∈ kTbl := List.mem_filter.mpr ⟨(List.mem_append_right _ (List.mem_append_left _ (List.mem_of_getElem? (i := 128) rfl))), rfl⟩
theorem e6_4 : decode cX6_init 4 = .ok (.aload_n 0, 1) := by decide +kernel
theorem e6_5 : decode cX6_init 5 = .ok (.sipush 600, 3) := by decide +kernel
theorem e6_8 : decode cX6_init 8 = .ok (.newarray .int, 2) := by decide +kernel
theorem e6_10 : decode cX6_init 10 = .ok (.putfield 13, 3) := by decide +kernel
theorem cw6_13 : Jvm.Cond.fieldLink RX6 13 RX6 "worth" "[I" ∈ kTbl := List.mem_filter.mpr ⟨(List.mem_append_right _ (List.mem_append_left _ (List.mem_of_getElem? (i := 131) rfl))), rfl⟩
theorem e6_13 : decode cX6_init 13 = .ok (.aload_n 0, 1) := by decide +kernel
theorem e6_14 : decode cX6_init 14 = .ok (.sipush 2107, 3) := by decide +kernel
theorem e6_17 : decode cX6_init 17 = .ok (.newarray .int, 2) := by decide +kernel
theorem e6_19 : decode cX6_init 19 = .ok (.putfield 17, 3) := by decide +kernel
theorem cw6_17 : Jvm.Cond.fieldLink RX6 17 RX6 "best" "[I" ∈ kTbl := List.mem_filter.mpr ⟨(List.mem_append_right _ (List.mem_append_left _ (List.mem_of_getElem? (i := 132) rfl))), rfl⟩
theorem e6_22 : decode cX6_init 22 = .ok (.aload_n 0, 1) := by decide +kernel
theorem e6_23 : decode cX6_init 23 = .ok (.bipush 6, 2) := by decide +kernel
theorem e6_25 : decode cX6_init 25 = .ok (.newarray .int, 2) := by decide +kernel
theorem e6_27 : decode cX6_init 27 = .ok (.putfield 20, 3) := by decide +kernel
theorem cw6_20 : Jvm.Cond.fieldLink RX6 20 RX6 "chosen" "[I" ∈ kTbl := List.mem_filter.mpr ⟨(List.mem_append_right _ (List.mem_append_left _ (List.mem_of_getElem? (i := 133) rfl))), rfl⟩
theorem e6_30 : decode cX6_init 30 = .ok (.aload_n 0, 1) := by decide +kernel
theorem e6_31 : decode cX6_init 31 = .ok (.aload_n 1, 1) := by decide +kernel
theorem e6_32 : decode cX6_init 32 = .ok (.putfield 23, 3) := by decide +kernel
theorem cw6_23 : Jvm.Cond.fieldLink RX6 23 RX6 "folk" "LPennyALap$Folk;" ∈ kTbl := List.mem_filter.mpr ⟨(List.mem_append_right _ (List.mem_append_left _ (List.mem_of_getElem? (i := 129) rfl))), rfl⟩
theorem e6_35 : decode cX6_init 35 = .ok (.aload_n 0, 1) := by decide +kernel
theorem e6_36 : decode cX6_init 36 = .ok (.aload_n 2, 1) := by decide +kernel
theorem e6_37 : decode cX6_init 37 = .ok (.putfield 27, 3) := by decide +kernel
theorem cw6_27 : Jvm.Cond.fieldLink RX6 27 RX6 "thought" "LPennyALap$Thought;" ∈ kTbl := List.mem_filter.mpr ⟨(List.mem_append_right _ (List.mem_append_left _ (List.mem_of_getElem? (i := 130) rfl))), rfl⟩
theorem e6_40 : decode cX6_init 40 = .ok (.return_, 1) := by decide +kernel
theorem e7_0 : decode cX7_init 0 = .ok (.aload_n 0, 1) := by decide +kernel
theorem e7_1 : decode cX7_init 1 = .ok (.invokespecial 3, 3) := by decide +kernel
theorem cw7_3 : Jvm.Cond.methodLink RX7 3 Lib.objectInit ∈ kTbl := List.mem_filter.mpr ⟨(List.mem_append_right _ (List.mem_append_left _ (List.mem_of_getElem? (i := 223) rfl))), rfl⟩
theorem e7_4 : decode cX7_init 4 = .ok (.aload_n 0, 1) := by decide +kernel
theorem e7_5 : decode cX7_init 5 = .ok (.bipush 6, 2) := by decide +kernel
theorem e7_7 : decode cX7_init 7 = .ok (.newarray .int, 2) := by decide +kernel
theorem e7_9 : decode cX7_init 9 = .ok (.putfield 9, 3) := by decide +kernel
theorem cw7_9 : Jvm.Cond.fieldLink RX7 9 RX7 "sorts" "[I" ∈ kTbl := List.mem_filter.mpr ⟨(List.mem_append_right _ (List.mem_append_left _ (List.mem_of_getElem? (i := 224) rfl))), rfl⟩
theorem e7_12 : decode cX7_init 12 = .ok (.aload_n 0, 1) := by decide +kernel
theorem e7_13 : decode cX7_init 13 = .ok (.bipush 6, 2) := by decide +kernel
theorem e7_15 : decode cX7_init 15 = .ok (.newarray .int, 2) := by decide +kernel
theorem e7_17 : decode cX7_init 17 = .ok (.putfield 15, 3) := by decide +kernel
theorem cw7_15 : Jvm.Cond.fieldLink RX7 15 RX7 "sizes" "[I" ∈ kTbl := List.mem_filter.mpr ⟨(List.mem_append_right _ (List.mem_append_left _ (List.mem_of_getElem? (i := 225) rfl))), rfl⟩
theorem e7_20 : decode cX7_init 20 = .ok (.aload_n 0, 1) := by decide +kernel
theorem e7_21 : decode cX7_init 21 = .ok (.bipush 6, 2) := by decide +kernel
theorem e7_23 : decode cX7_init 23 = .ok (.newarray .int, 2) := by decide +kernel
theorem e7_25 : decode cX7_init 25 = .ok (.putfield 18, 3) := by decide +kernel
theorem cw7_18 : Jvm.Cond.fieldLink RX7 18 RX7 "bodyOn" "[I" ∈ kTbl := List.mem_filter.mpr ⟨(List.mem_append_right _ (List.mem_append_left _ (List.mem_of_getElem? (i := 226) rfl))), rfl⟩
theorem e7_28 : decode cX7_init 28 = .ok (.aload_n 0, 1) := by decide +kernel
theorem e7_29 : decode cX7_init 29 = .ok (.sipush 360, 3) := by decide +kernel
theorem e7_32 : decode cX7_init 32 = .ok (.newarray .long, 2) := by decide +kernel
theorem e7_34 : decode cX7_init 34 = .ok (.putfield 21, 3) := by decide +kernel
theorem cw7_21 : Jvm.Cond.fieldLink RX7 21 RX7 "values" "[J" ∈ kTbl := List.mem_filter.mpr ⟨(List.mem_append_right _ (List.mem_append_left _ (List.mem_of_getElem? (i := 227) rfl))), rfl⟩
theorem e7_37 : decode cX7_init 37 = .ok (.iconst 0, 1) := by decide +kernel
theorem e7_38 : decode cX7_init 38 = .ok (.istore_n 1, 1) := by decide +kernel
theorem e7_39 : decode cX7_init 39 = .ok (.iload_n 1, 1) := by decide +kernel
theorem e7_40 : decode cX7_init 40 = .ok (.bipush 6, 2) := by decide +kernel
theorem e7_42 : decode cX7_init 42 = .ok (.if_icmp .ge 17, 3) := by decide +kernel
theorem e7_45 : decode cX7_init 45 = .ok (.aload_n 0, 1) := by decide +kernel
theorem e7_46 : decode cX7_init 46 = .ok (.getfield 9, 3) := by decide +kernel
theorem e7_49 : decode cX7_init 49 = .ok (.iload_n 1, 1) := by decide +kernel
theorem e7_50 : decode cX7_init 50 = .ok (.bipush 6, 2) := by decide +kernel
theorem e7_52 : decode cX7_init 52 = .ok (.iastore, 1) := by decide +kernel
theorem e7_53 : decode cX7_init 53 = .ok (.iinc 1 1, 3) := by decide +kernel
theorem e7_56 : decode cX7_init 56 = .ok (.goto (-17), 3) := by decide +kernel
theorem e7_59 : decode cX7_init 59 = .ok (.return_, 1) := by decide +kernel
theorem e8_0 : decode cX8_init 0 = .ok (.aload_n 0, 1) := by decide +kernel
theorem e8_1 : decode cX8_init 1 = .ok (.invokespecial 3, 3) := by decide +kernel
theorem cw8_3 : Jvm.Cond.methodLink RX8 3 Lib.objectInit ∈ kTbl := List.mem_filter.mpr ⟨(List.mem_append_right _ (List.mem_append_left _ (List.mem_of_getElem? (i := 108) rfl))), rfl⟩
theorem e8_4 : decode cX8_init 4 = .ok (.aload_n 0, 1) := by decide +kernel
theorem e8_5 : decode cX8_init 5 = .ok (.bipush 6, 2) := by decide +kernel
theorem e8_7 : decode cX8_init 7 = .ok (.newarray .int, 2) := by decide +kernel
theorem e8_9 : decode cX8_init 9 = .ok (.putfield 9, 3) := by decide +kernel
theorem cw8_9 : Jvm.Cond.fieldLink RX8 9 RX8 "now" "[I" ∈ kTbl := List.mem_filter.mpr ⟨(List.mem_append_right _ (List.mem_append_left _ (List.mem_of_getElem? (i := 110) rfl))), rfl⟩
theorem e8_12 : decode cX8_init 12 = .ok (.aload_n 0, 1) := by decide +kernel
theorem e8_13 : decode cX8_init 13 = .ok (.sipush 600, 3) := by decide +kernel
theorem e8_16 : decode cX8_init 16 = .ok (.newarray .int, 2) := by decide +kernel
theorem e8_18 : decode cX8_init 18 = .ok (.putfield 15, 3) := by decide +kernel
theorem cw8_15 : Jvm.Cond.fieldLink RX8 15 RX8 "ends" "[I" ∈ kTbl := List.mem_filter.mpr ⟨(List.mem_append_right _ (List.mem_append_left _ (List.mem_of_getElem? (i := 111) rfl))), rfl⟩
theorem e8_21 : decode cX8_init 21 = .ok (.aload_n 0, 1) := by decide +kernel
theorem e8_22 : decode cX8_init 22 = .ok (.bipush 6, 2) := by decide +kernel
theorem e8_24 : decode cX8_init 24 = .ok (.newarray .int, 2) := by decide +kernel
theorem e8_26 : decode cX8_init 26 = .ok (.putfield 18, 3) := by decide +kernel
theorem cw8_18 : Jvm.Cond.fieldLink RX8 18 RX8 "reach" "[I" ∈ kTbl := List.mem_filter.mpr ⟨(List.mem_append_right _ (List.mem_append_left _ (List.mem_of_getElem? (i := 113) rfl))), rfl⟩
theorem e8_29 : decode cX8_init 29 = .ok (.aload_n 0, 1) := by decide +kernel
theorem e8_30 : decode cX8_init 30 = .ok (.aload_n 1, 1) := by decide +kernel
theorem e8_31 : decode cX8_init 31 = .ok (.putfield 21, 3) := by decide +kernel
theorem cw8_21 : Jvm.Cond.fieldLink RX8 21 RX8 "folk" "LPennyALap$Folk;" ∈ kTbl := List.mem_filter.mpr ⟨(List.mem_append_right _ (List.mem_append_left _ (List.mem_of_getElem? (i := 109) rfl))), rfl⟩
theorem e8_34 : decode cX8_init 34 = .ok (.return_, 1) := by decide +kernel
theorem e9_0 : decode cX9_init 0 = .ok (.aload_n 0, 1) := by decide +kernel
theorem e9_1 : decode cX9_init 1 = .ok (.invokespecial 1, 3) := by decide +kernel
theorem cw9_1 : Jvm.Cond.methodLink RX9 1 Lib.objectInit ∈ kTbl := List.mem_filter.mpr ⟨(List.mem_append_right _ (List.mem_append_left _ (List.mem_of_getElem? (i := 19) rfl))), rfl⟩
theorem e9_4 : decode cX9_init 4 = .ok (.aload_n 0, 1) := by decide +kernel
theorem e9_5 : decode cX9_init 5 = .ok (.new 7, 3) := by decide +kernel
theorem cw9_7 : Jvm.Cond.classLink RX9 7 RX5 ∈ kTbl := List.mem_filter.mpr ⟨(List.mem_append_right _ (List.mem_append_left _ (List.mem_of_getElem? (i := 22) rfl))), rfl⟩
theorem e9_8 : decode cX9_init 8 = .ok (.dup, 1) := by decide +kernel
theorem e9_9 : decode cX9_init 9 = .ok (.invokespecial 9, 3) := by decide +kernel
theorem cw9_9 : Jvm.Cond.methodLinkNest RX9 9 yX5_init "PennyALap" ∈ kNc := by simp [kNc, yX5_init, RX5, RX9]
theorem e9_12 : decode cX9_init 12 = .ok (.putfield 10, 3) := by decide +kernel
theorem cw9_10 : Jvm.Cond.fieldLink RX9 10 RX9 "law" "LPennyALap$Law;" ∈ kTbl := List.mem_filter.mpr ⟨(List.mem_append_right _ (List.mem_append_left _ (List.mem_of_getElem? (i := 238) rfl))), rfl⟩
theorem e9_15 : decode cX9_init 15 = .ok (.aload_n 0, 1) := by decide +kernel
theorem e9_16 : decode cX9_init 16 = .ok (.new 16, 3) := by decide +kernel
theorem cw9_16 : Jvm.Cond.classLink RX9 16 RX4 ∈ kTbl := List.mem_filter.mpr ⟨(List.mem_append_right _ (List.mem_append_left _ (List.mem_of_getElem? (i := 57) rfl))), rfl⟩
theorem e9_19 : decode cX9_init 19 = .ok (.dup, 1) := by decide +kernel
theorem e9_20 : decode cX9_init 20 = .ok (.aload_n 0, 1) := by decide +kernel
theorem e9_21 : decode cX9_init 21 = .ok (.getfield 10, 3) := by decide +kernel
theorem e9_24 : decode cX9_init 24 = .ok (.invokespecial 18, 3) := by decide +kernel
theorem cw9_18 : Jvm.Cond.methodLink RX9 18 yX4_init ∈ kTbl := List.mem_filter.mpr ⟨(List.mem_append_right _ (List.mem_append_left _ (List.mem_of_getElem? (i := 59) rfl))), rfl⟩
theorem e9_27 : decode cX9_init 27 = .ok (.putfield 21, 3) := by decide +kernel
theorem cw9_21 : Jvm.Cond.fieldLink RX9 21 RX9 "folk" "LPennyALap$Folk;" ∈ kTbl := List.mem_filter.mpr ⟨(List.mem_append_right _ (List.mem_append_left _ (List.mem_of_getElem? (i := 239) rfl))), rfl⟩
theorem e9_30 : decode cX9_init 30 = .ok (.aload_n 0, 1) := by decide +kernel
theorem e9_31 : decode cX9_init 31 = .ok (.new 25, 3) := by decide +kernel
theorem cw9_25 : Jvm.Cond.classLink RX9 25 RX1 ∈ kTbl := List.mem_filter.mpr ⟨(List.mem_append_right _ (List.mem_append_left _ (List.mem_of_getElem? (i := 81) rfl))), rfl⟩
theorem e9_34 : decode cX9_init 34 = .ok (.dup, 1) := by decide +kernel
theorem e9_35 : decode cX9_init 35 = .ok (.invokespecial 27, 3) := by decide +kernel
theorem cw9_27 : Jvm.Cond.methodLinkNest RX9 27 yX1_init "PennyALap" ∈ kNc := by simp [kNc, yX1_init, RX1, RX9]
theorem e9_38 : decode cX9_init 38 = .ok (.putfield 28, 3) := by decide +kernel
theorem cw9_28 : Jvm.Cond.fieldLink RX9 28 RX9 "changes" "LPennyALap$Changes;" ∈ kTbl := List.mem_filter.mpr ⟨(List.mem_append_right _ (List.mem_append_right _ (List.mem_append_left _ (List.mem_of_getElem? (i := 0) rfl)))), rfl⟩
theorem e9_41 : decode cX9_init 41 = .ok (.aload_n 0, 1) := by decide +kernel
theorem e9_42 : decode cX9_init 42 = .ok (.new 32, 3) := by decide +kernel
theorem cw9_32 : Jvm.Cond.classLink RX9 32 RX8 ∈ kTbl := List.mem_filter.mpr ⟨(List.mem_append_right _ (List.mem_append_left _ (List.mem_of_getElem? (i := 103) rfl))), rfl⟩
theorem e9_45 : decode cX9_init 45 = .ok (.dup, 1) := by decide +kernel
theorem e9_46 : decode cX9_init 46 = .ok (.aload_n 0, 1) := by decide +kernel
theorem e9_47 : decode cX9_init 47 = .ok (.getfield 21, 3) := by decide +kernel
theorem e9_50 : decode cX9_init 50 = .ok (.invokespecial 34, 3) := by decide +kernel
theorem cw9_34 : Jvm.Cond.methodLink RX9 34 yX8_init ∈ kTbl := List.mem_filter.mpr ⟨(List.mem_append_right _ (List.mem_append_left _ (List.mem_of_getElem? (i := 105) rfl))), rfl⟩
theorem e9_53 : decode cX9_init 53 = .ok (.putfield 37, 3) := by decide +kernel
theorem cw9_37 : Jvm.Cond.fieldLink RX9 37 RX9 "thought" "LPennyALap$Thought;" ∈ kTbl := List.mem_filter.mpr ⟨(List.mem_append_right _ (List.mem_append_right _ (List.mem_append_left _ (List.mem_of_getElem? (i := 1) rfl)))), rfl⟩
theorem e9_56 : decode cX9_init 56 = .ok (.aload_n 0, 1) := by decide +kernel
theorem e9_57 : decode cX9_init 57 = .ok (.new 41, 3) := by decide +kernel
theorem cw9_41 : Jvm.Cond.classLink RX9 41 RX6 ∈ kTbl := List.mem_filter.mpr ⟨(List.mem_append_right _ (List.mem_append_left _ (List.mem_of_getElem? (i := 123) rfl))), rfl⟩
theorem e9_60 : decode cX9_init 60 = .ok (.dup, 1) := by decide +kernel
theorem e9_61 : decode cX9_init 61 = .ok (.aload_n 0, 1) := by decide +kernel
theorem e9_62 : decode cX9_init 62 = .ok (.getfield 21, 3) := by decide +kernel
theorem e9_65 : decode cX9_init 65 = .ok (.aload_n 0, 1) := by decide +kernel
theorem e9_66 : decode cX9_init 66 = .ok (.getfield 37, 3) := by decide +kernel
theorem e9_69 : decode cX9_init 69 = .ok (.invokespecial 43, 3) := by decide +kernel
theorem cw9_43 : Jvm.Cond.methodLink RX9 43 yX6_init ∈ kTbl := List.mem_filter.mpr ⟨(List.mem_append_right _ (List.mem_append_left _ (List.mem_of_getElem? (i := 125) rfl))), rfl⟩
theorem e9_72 : decode cX9_init 72 = .ok (.putfield 46, 3) := by decide +kernel
theorem cw9_46 : Jvm.Cond.fieldLink RX9 46 RX9 "plan" "LPennyALap$Plan;" ∈ kTbl := List.mem_filter.mpr ⟨(List.mem_append_right _ (List.mem_append_right _ (List.mem_append_left _ (List.mem_of_getElem? (i := 2) rfl)))), rfl⟩
theorem e9_75 : decode cX9_init 75 = .ok (.aload_n 0, 1) := by decide +kernel
theorem e9_76 : decode cX9_init 76 = .ok (.new 50, 3) := by decide +kernel
theorem cw9_50 : Jvm.Cond.classLink RX9 50 RX2 ∈ kTbl := List.mem_filter.mpr ⟨(List.mem_append_right _ (List.mem_append_left _ (List.mem_of_getElem? (i := 145) rfl))), rfl⟩
theorem e9_79 : decode cX9_init 79 = .ok (.dup, 1) := by decide +kernel
theorem e9_80 : decode cX9_init 80 = .ok (.aload_n 0, 1) := by decide +kernel
theorem e9_81 : decode cX9_init 81 = .ok (.getfield 21, 3) := by decide +kernel
theorem e9_84 : decode cX9_init 84 = .ok (.aload_n 0, 1) := by decide +kernel
theorem e9_85 : decode cX9_init 85 = .ok (.getfield 37, 3) := by decide +kernel
theorem e9_88 : decode cX9_init 88 = .ok (.invokespecial 52, 3) := by decide +kernel
theorem cw9_52 : Jvm.Cond.methodLink RX9 52 yX2_init ∈ kTbl := List.mem_filter.mpr ⟨(List.mem_append_right _ (List.mem_append_left _ (List.mem_of_getElem? (i := 147) rfl))), rfl⟩
theorem e9_91 : decode cX9_init 91 = .ok (.putfield 53, 3) := by decide +kernel
theorem cw9_53 : Jvm.Cond.fieldLink RX9 53 RX9 "coming" "LPennyALap$Coming;" ∈ kTbl := List.mem_filter.mpr ⟨(List.mem_append_right _ (List.mem_append_right _ (List.mem_append_left _ (List.mem_of_getElem? (i := 3) rfl)))), rfl⟩
theorem e9_94 : decode cX9_init 94 = .ok (.aload_n 0, 1) := by decide +kernel
theorem e9_95 : decode cX9_init 95 = .ok (.new 57, 3) := by decide +kernel
theorem cw9_57 : Jvm.Cond.classLink RX9 57 RX3 ∈ kTbl := List.mem_filter.mpr ⟨(List.mem_append_right _ (List.mem_append_left _ (List.mem_of_getElem? (i := 168) rfl))), rfl⟩
theorem e9_98 : decode cX9_init 98 = .ok (.dup, 1) := by decide +kernel
theorem e9_99 : decode cX9_init 99 = .ok (.invokespecial 59, 3) := by decide +kernel
theorem cw9_59 : Jvm.Cond.methodLinkNest RX9 59 yX3_init "PennyALap" ∈ kNc := by simp [kNc, yX3_init, RX3, RX9]
theorem e9_102 : decode cX9_init 102 = .ok (.putfield 60, 3) := by decide +kernel
theorem cw9_60 : Jvm.Cond.fieldLink RX9 60 RX9 "deed" "LPennyALap$Deed;" ∈ kTbl := List.mem_filter.mpr ⟨(List.mem_append_right _ (List.mem_append_right _ (List.mem_append_left _ (List.mem_of_getElem? (i := 4) rfl)))), rfl⟩
theorem e9_105 : decode cX9_init 105 = .ok (.aload_n 0, 1) := by decide +kernel
theorem e9_106 : decode cX9_init 106 = .ok (.new 57, 3) := by decide +kernel
theorem e9_109 : decode cX9_init 109 = .ok (.dup, 1) := by decide +kernel
theorem e9_110 : decode cX9_init 110 = .ok (.invokespecial 59, 3) := by decide +kernel
theorem e9_113 : decode cX9_init 113 = .ok (.putfield 64, 3) := by decide +kernel
theorem cw9_64 : Jvm.Cond.fieldLink RX9 64 RX9 "kept" "LPennyALap$Deed;" ∈ kTbl := List.mem_filter.mpr ⟨(List.mem_append_right _ (List.mem_append_right _ (List.mem_append_left _ (List.mem_of_getElem? (i := 5) rfl)))), rfl⟩
theorem e9_116 : decode cX9_init 116 = .ok (.aload_n 0, 1) := by decide +kernel
theorem e9_117 : decode cX9_init 117 = .ok (.new 67, 3) := by decide +kernel
theorem cw9_67 : Jvm.Cond.classLink RX9 67 RX0 ∈ kTbl := List.mem_filter.mpr ⟨(List.mem_append_right _ (List.mem_append_left _ (List.mem_of_getElem? (i := 199) rfl))), rfl⟩
theorem e9_120 : decode cX9_init 120 = .ok (.dup, 1) := by decide +kernel
theorem e9_121 : decode cX9_init 121 = .ok (.invokespecial 69, 3) := by decide +kernel
theorem cw9_69 : Jvm.Cond.methodLinkNest RX9 69 yX0_init "PennyALap" ∈ kNc := by simp [kNc, yX0_init, RX0, RX9]
theorem e9_124 : decode cX9_init 124 = .ok (.putfield 70, 3) := by decide +kernel
theorem cw9_70 : Jvm.Cond.fieldLink RX9 70 RX9 "bodies" "LPennyALap$Bodies;" ∈ kTbl := List.mem_filter.mpr ⟨(List.mem_append_right _ (List.mem_append_right _ (List.mem_append_left _ (List.mem_of_getElem? (i := 7) rfl)))), rfl⟩
theorem e9_127 : decode cX9_init 127 = .ok (.aload_n 0, 1) := by decide +kernel
theorem e9_128 : decode cX9_init 128 = .ok (.new 74, 3) := by decide +kernel
theorem cw9_74 : Jvm.Cond.classLink RX9 74 RX7 ∈ kTbl := List.mem_filter.mpr ⟨(List.mem_append_right _ (List.mem_append_left _ (List.mem_of_getElem? (i := 218) rfl))), rfl⟩
theorem e9_131 : decode cX9_init 131 = .ok (.dup, 1) := by decide +kernel
theorem e9_132 : decode cX9_init 132 = .ok (.invokespecial 76, 3) := by decide +kernel
theorem cw9_76 : Jvm.Cond.methodLink RX9 76 yX7_init ∈ kTbl := List.mem_filter.mpr ⟨(List.mem_append_right _ (List.mem_append_left _ (List.mem_of_getElem? (i := 220) rfl))), rfl⟩
theorem e9_135 : decode cX9_init 135 = .ok (.putfield 77, 3) := by decide +kernel
theorem cw9_77 : Jvm.Cond.fieldLink RX9 77 RX9 "shelves" "LPennyALap$Shelves;" ∈ kTbl := List.mem_filter.mpr ⟨(List.mem_append_right _ (List.mem_append_right _ (List.mem_append_left _ (List.mem_of_getElem? (i := 8) rfl)))), rfl⟩
theorem e9_138 : decode cX9_init 138 = .ok (.return_, 1) := by decide +kernel
theorem e10_0 : decode cX10_init 0 = .ok (.aload_n 0, 1) := by decide +kernel
theorem e10_1 : decode cX10_init 1 = .ok (.invokespecial 1, 3) := by decide +kernel
theorem cw10_1 : Jvm.Cond.methodLink RX10 1 Lib.objectInit ∈ kTbl := List.mem_filter.mpr ⟨(List.mem_append_right _ (List.mem_append_right _ (List.mem_append_right _ (List.mem_append_right _ (List.mem_append_right _ (List.mem_append_left _ (List.mem_of_getElem? (i := 62) rfl))))))), rfl⟩
theorem e10_4 : decode cX10_init 4 = .ok (.aload_n 0, 1) := by decide +kernel
theorem e10_5 : decode cX10_init 5 = .ok (.bipush 6, 2) := by decide +kernel
theorem e10_7 : decode cX10_init 7 = .ok (.newarray .int, 2) := by decide +kernel
theorem e10_9 : decode cX10_init 9 = .ok (.putfield 7, 3) := by decide +kernel
theorem cw10_7 : Jvm.Cond.fieldLink RX10 7 RX10 "pace" "[I" ∈ kTbl := List.mem_filter.mpr ⟨(List.mem_append_right _ (List.mem_append_right _ (List.mem_append_right _ (List.mem_append_right _ (List.mem_append_right _ (List.mem_append_left _ (List.mem_of_getElem? (i := 64) rfl))))))), rfl⟩
theorem e10_12 : decode cX10_init 12 = .ok (.aload_n 0, 1) := by decide +kernel
theorem e10_13 : decode cX10_init 13 = .ok (.bipush 6, 2) := by decide +kernel
theorem e10_15 : decode cX10_init 15 = .ok (.newarray .int, 2) := by decide +kernel
theorem e10_17 : decode cX10_init 17 = .ok (.putfield 13, 3) := by decide +kernel
theorem cw10_13 : Jvm.Cond.fieldLink RX10 13 RX10 "tires" "[I" ∈ kTbl := List.mem_filter.mpr ⟨(List.mem_append_right _ (List.mem_append_right _ (List.mem_append_right _ (List.mem_append_right _ (List.mem_append_right _ (List.mem_append_left _ (List.mem_of_getElem? (i := 65) rfl))))))), rfl⟩
theorem e10_20 : decode cX10_init 20 = .ok (.aload_n 0, 1) := by decide +kernel
theorem e10_21 : decode cX10_init 21 = .ok (.bipush 6, 2) := by decide +kernel
theorem e10_23 : decode cX10_init 23 = .ok (.newarray .int, 2) := by decide +kernel
theorem e10_25 : decode cX10_init 25 = .ok (.putfield 16, 3) := by decide +kernel
theorem cw10_16 : Jvm.Cond.fieldLink RX10 16 RX10 "stops" "[I" ∈ kTbl := List.mem_filter.mpr ⟨(List.mem_append_right _ (List.mem_append_right _ (List.mem_append_right _ (List.mem_append_right _ (List.mem_append_right _ (List.mem_append_left _ (List.mem_of_getElem? (i := 66) rfl))))))), rfl⟩
theorem e10_28 : decode cX10_init 28 = .ok (.aload_n 0, 1) := by decide +kernel
theorem e10_29 : decode cX10_init 29 = .ok (.bipush 6, 2) := by decide +kernel
theorem e10_31 : decode cX10_init 31 = .ok (.newarray .int, 2) := by decide +kernel
theorem e10_33 : decode cX10_init 33 = .ok (.putfield 19, 3) := by decide +kernel
theorem cw10_19 : Jvm.Cond.fieldLink RX10 19 RX10 "cuts" "[I" ∈ kTbl := List.mem_filter.mpr ⟨(List.mem_append_right _ (List.mem_append_right _ (List.mem_append_right _ (List.mem_append_right _ (List.mem_append_right _ (List.mem_append_left _ (List.mem_of_getElem? (i := 67) rfl))))))), rfl⟩
theorem e10_36 : decode cX10_init 36 = .ok (.aload_n 0, 1) := by decide +kernel
theorem e10_37 : decode cX10_init 37 = .ok (.bipush 16, 2) := by decide +kernel
theorem e10_39 : decode cX10_init 39 = .ok (.newarray .int, 2) := by decide +kernel
theorem e10_41 : decode cX10_init 41 = .ok (.putfield 22, 3) := by decide +kernel
theorem cw10_22 : Jvm.Cond.fieldLink RX10 22 RX10 "ofChild" "[I" ∈ kTbl := List.mem_filter.mpr ⟨(List.mem_append_right _ (List.mem_append_right _ (List.mem_append_right _ (List.mem_append_right _ (List.mem_append_right _ (List.mem_append_left _ (List.mem_of_getElem? (i := 69) rfl))))))), rfl⟩
theorem e10_44 : decode cX10_init 44 = .ok (.aload_n 0, 1) := by decide +kernel
theorem e10_45 : decode cX10_init 45 = .ok (.bipush 16, 2) := by decide +kernel
theorem e10_47 : decode cX10_init 47 = .ok (.newarray .int, 2) := by decide +kernel
theorem e10_49 : decode cX10_init 49 = .ok (.putfield 25, 3) := by decide +kernel
theorem cw10_25 : Jvm.Cond.fieldLink RX10 25 RX10 "per" "[I" ∈ kTbl := List.mem_filter.mpr ⟨(List.mem_append_right _ (List.mem_append_right _ (List.mem_append_right _ (List.mem_append_right _ (List.mem_append_right _ (List.mem_append_left _ (List.mem_of_getElem? (i := 70) rfl))))))), rfl⟩
theorem e10_52 : decode cX10_init 52 = .ok (.aload_n 0, 1) := by decide +kernel
theorem e10_53 : decode cX10_init 53 = .ok (.bipush 16, 2) := by decide +kernel
theorem e10_55 : decode cX10_init 55 = .ok (.newarray .int, 2) := by decide +kernel
theorem e10_57 : decode cX10_init 57 = .ok (.putfield 28, 3) := by decide +kernel
theorem cw10_28 : Jvm.Cond.fieldLink RX10 28 RX10 "flat" "[I" ∈ kTbl := List.mem_filter.mpr ⟨(List.mem_append_right _ (List.mem_append_right _ (List.mem_append_right _ (List.mem_append_right _ (List.mem_append_right _ (List.mem_append_left _ (List.mem_of_getElem? (i := 71) rfl))))))), rfl⟩
theorem e10_60 : decode cX10_init 60 = .ok (.aload_n 0, 1) := by decide +kernel
theorem e10_61 : decode cX10_init 61 = .ok (.bipush 16, 2) := by decide +kernel
theorem e10_63 : decode cX10_init 63 = .ok (.newarray .int, 2) := by decide +kernel
theorem e10_65 : decode cX10_init 65 = .ok (.putfield 31, 3) := by decide +kernel
theorem cw10_31 : Jvm.Cond.fieldLink RX10 31 RX10 "need" "[I" ∈ kTbl := List.mem_filter.mpr ⟨(List.mem_append_right _ (List.mem_append_right _ (List.mem_append_right _ (List.mem_append_right _ (List.mem_append_right _ (List.mem_append_left _ (List.mem_of_getElem? (i := 72) rfl))))))), rfl⟩
theorem e10_68 : decode cX10_init 68 = .ok (.aload_n 0, 1) := by decide +kernel
theorem e10_69 : decode cX10_init 69 = .ok (.bipush 16, 2) := by decide +kernel
theorem e10_71 : decode cX10_init 71 = .ok (.newarray .int, 2) := by decide +kernel
theorem e10_73 : decode cX10_init 73 = .ok (.putfield 34, 3) := by decide +kernel
theorem cw10_34 : Jvm.Cond.fieldLink RX10 34 RX10 "topOf" "[I" ∈ kTbl := List.mem_filter.mpr ⟨(List.mem_append_right _ (List.mem_append_right _ (List.mem_append_right _ (List.mem_append_right _ (List.mem_append_right _ (List.mem_append_left _ (List.mem_of_getElem? (i := 73) rfl))))))), rfl⟩
theorem e10_76 : decode cX10_init 76 = .ok (.aload_n 0, 1) := by decide +kernel
theorem e10_77 : decode cX10_init 77 = .ok (.bipush 16, 2) := by decide +kernel
theorem e10_79 : decode cX10_init 79 = .ok (.newarray .int, 2) := by decide +kernel
theorem e10_81 : decode cX10_init 81 = .ok (.putfield 37, 3) := by decide +kernel
theorem cw10_37 : Jvm.Cond.fieldLink RX10 37 RX10 "purse" "[I" ∈ kTbl := List.mem_filter.mpr ⟨(List.mem_append_right _ (List.mem_append_right _ (List.mem_append_right _ (List.mem_append_right _ (List.mem_append_right _ (List.mem_append_left _ (List.mem_of_getElem? (i := 74) rfl))))))), rfl⟩
theorem e10_84 : decode cX10_init 84 = .ok (.aload_n 0, 1) := by decide +kernel
theorem e10_85 : decode cX10_init 85 = .ok (.bipush 8, 2) := by decide +kernel
theorem e10_87 : decode cX10_init 87 = .ok (.putfield 40, 3) := by decide +kernel
theorem cw10_40 : Jvm.Cond.fieldLink RX10 40 RX10 "prompt" "I" ∈ kTbl := List.mem_filter.mpr ⟨(List.mem_append_right _ (List.mem_append_right _ (List.mem_append_right _ (List.mem_append_right _ (List.mem_append_right _ (List.mem_append_left _ (List.mem_of_getElem? (i := 76) rfl))))))), rfl⟩
theorem e10_90 : decode cX10_init 90 = .ok (.aload_n 0, 1) := by decide +kernel
theorem e10_91 : decode cX10_init 91 = .ok (.iconst 2, 1) := by decide +kernel
theorem e10_92 : decode cX10_init 92 = .ok (.putfield 44, 3) := by decide +kernel
theorem cw10_44 : Jvm.Cond.fieldLink RX10 44 RX10 "reminded" "I" ∈ kTbl := List.mem_filter.mpr ⟨(List.mem_append_right _ (List.mem_append_right _ (List.mem_append_right _ (List.mem_append_right _ (List.mem_append_right _ (List.mem_append_left _ (List.mem_of_getElem? (i := 77) rfl))))))), rfl⟩
theorem e10_95 : decode cX10_init 95 = .ok (.aload_n 0, 1) := by decide +kernel
theorem e10_96 : decode cX10_init 96 = .ok (.bipush 40, 2) := by decide +kernel
theorem e10_98 : decode cX10_init 98 = .ok (.newarray .int, 2) := by decide +kernel
theorem e10_100 : decode cX10_init 100 = .ok (.putfield 47, 3) := by decide +kernel
theorem cw10_47 : Jvm.Cond.fieldLink RX10 47 RX10 "changeOf" "[I" ∈ kTbl := List.mem_filter.mpr ⟨(List.mem_append_right _ (List.mem_append_right _ (List.mem_append_right _ (List.mem_append_right _ (List.mem_append_right _ (List.mem_append_left _ (List.mem_of_getElem? (i := 81) rfl))))))), rfl⟩
theorem e10_103 : decode cX10_init 103 = .ok (.aload_n 0, 1) := by decide +kernel
theorem e10_104 : decode cX10_init 104 = .ok (.bipush 40, 2) := by decide +kernel
theorem e10_106 : decode cX10_init 106 = .ok (.newarray .int, 2) := by decide +kernel
theorem e10_108 : decode cX10_init 108 = .ok (.putfield 50, 3) := by decide +kernel
theorem cw10_50 : Jvm.Cond.fieldLink RX10 50 RX10 "changeAt" "[I" ∈ kTbl := List.mem_filter.mpr ⟨(List.mem_append_right _ (List.mem_append_right _ (List.mem_append_right _ (List.mem_append_right _ (List.mem_append_right _ (List.mem_append_left _ (List.mem_of_getElem? (i := 82) rfl))))))), rfl⟩
theorem e10_111 : decode cX10_init 111 = .ok (.aload_n 0, 1) := by decide +kernel
theorem e10_112 : decode cX10_init 112 = .ok (.bipush 40, 2) := by decide +kernel
theorem e10_114 : decode cX10_init 114 = .ok (.newarray .int, 2) := by decide +kernel
theorem e10_116 : decode cX10_init 116 = .ok (.putfield 53, 3) := by decide +kernel
theorem cw10_53 : Jvm.Cond.fieldLink RX10 53 RX10 "before" "[I" ∈ kTbl := List.mem_filter.mpr ⟨(List.mem_append_right _ (List.mem_append_right _ (List.mem_append_right _ (List.mem_append_right _ (List.mem_append_right _ (List.mem_append_left _ (List.mem_of_getElem? (i := 83) rfl))))))), rfl⟩
theorem e10_119 : decode cX10_init 119 = .ok (.aload_n 0, 1) := by decide +kernel
theorem e10_120 : decode cX10_init 120 = .ok (.bipush 40, 2) := by decide +kernel
theorem e10_122 : decode cX10_init 122 = .ok (.newarray .int, 2) := by decide +kernel
theorem e10_124 : decode cX10_init 124 = .ok (.putfield 56, 3) := by decide +kernel
theorem cw10_56 : Jvm.Cond.fieldLink RX10 56 RX10 "behind" "[I" ∈ kTbl := List.mem_filter.mpr ⟨(List.mem_append_right _ (List.mem_append_right _ (List.mem_append_right _ (List.mem_append_right _ (List.mem_append_right _ (List.mem_append_left _ (List.mem_of_getElem? (i := 84) rfl))))))), rfl⟩
theorem e10_127 : decode cX10_init 127 = .ok (.aload_n 0, 1) := by decide +kernel
theorem e10_128 : decode cX10_init 128 = .ok (.bipush 120, 2) := by decide +kernel
theorem e10_130 : decode cX10_init 130 = .ok (.newarray .byte, 2) := by decide +kernel
theorem e10_132 : decode cX10_init 132 = .ok (.putfield 59, 3) := by decide +kernel
theorem cw10_59 : Jvm.Cond.fieldLink RX10 59 RX10 "tape" "[B" ∈ kTbl := List.mem_filter.mpr ⟨(List.mem_append_right _ (List.mem_append_right _ (List.mem_append_right _ (List.mem_append_right _ (List.mem_append_right _ (List.mem_append_left _ (List.mem_of_getElem? (i := 85) rfl))))))), rfl⟩
theorem e10_135 : decode cX10_init 135 = .ok (.aload_n 0, 1) := by decide +kernel
theorem e10_136 : decode cX10_init 136 = .ok (.sipush 260, 3) := by decide +kernel
theorem e10_139 : decode cX10_init 139 = .ok (.newarray .byte, 2) := by decide +kernel
theorem e10_141 : decode cX10_init 141 = .ok (.putfield 63, 3) := by decide +kernel
theorem cw10_63 : Jvm.Cond.fieldLink RX10 63 RX10 "act" "[B" ∈ kTbl := List.mem_filter.mpr ⟨(List.mem_append_right _ (List.mem_append_right _ (List.mem_append_right _ (List.mem_append_right _ (List.mem_append_right _ (List.mem_append_left _ (List.mem_of_getElem? (i := 91) rfl))))))), rfl⟩
theorem e10_144 : decode cX10_init 144 = .ok (.aload_n 0, 1) := by decide +kernel
theorem e10_145 : decode cX10_init 145 = .ok (.sipush 260, 3) := by decide +kernel
theorem e10_148 : decode cX10_init 148 = .ok (.newarray .int, 2) := by decide +kernel
theorem e10_150 : decode cX10_init 150 = .ok (.putfield 66, 3) := by decide +kernel
theorem cw10_66 : Jvm.Cond.fieldLink RX10 66 RX10 "with" "[I" ∈ kTbl := List.mem_filter.mpr ⟨(List.mem_append_right _ (List.mem_append_right _ (List.mem_append_right _ (List.mem_append_right _ (List.mem_append_right _ (List.mem_append_left _ (List.mem_of_getElem? (i := 92) rfl))))))), rfl⟩
theorem e10_153 : decode cX10_init 153 = .ok (.aload_n 0, 1) := by decide +kernel
theorem e10_154 : decode cX10_init 154 = .ok (.iconst 2, 1) := by decide +kernel
theorem e10_155 : decode cX10_init 155 = .ok (.newarray .int, 2) := by decide +kernel
theorem e10_157 : decode cX10_init 157 = .ok (.putfield 69, 3) := by decide +kernel
theorem cw10_69 : Jvm.Cond.fieldLink RX10 69 RX10 "lineMany" "[I" ∈ kTbl := List.mem_filter.mpr ⟨(List.mem_append_right _ (List.mem_append_right _ (List.mem_append_right _ (List.mem_append_right _ (List.mem_append_right _ (List.mem_append_left _ (List.mem_of_getElem? (i := 93) rfl))))))), rfl⟩
theorem e10_160 : decode cX10_init 160 = .ok (.aload_n 0, 1) := by decide +kernel
theorem e10_161 : decode cX10_init 161 = .ok (.bipush 122, 2) := by decide +kernel
theorem e10_163 : decode cX10_init 163 = .ok (.newarray .short, 2) := by decide +kernel
theorem e10_165 : decode cX10_init 165 = .ok (.putfield 72, 3) := by decide +kernel
theorem cw10_72 : Jvm.Cond.fieldLink RX10 72 RX10 "testEnd" "[S" ∈ kTbl := List.mem_filter.mpr ⟨(List.mem_append_right _ (List.mem_append_right _ (List.mem_append_right _ (List.mem_append_right _ (List.mem_append_right _ (List.mem_append_left _ (List.mem_of_getElem? (i := 94) rfl))))))), rfl⟩
theorem e10_168 : decode cX10_init 168 = .ok (.aload_n 0, 1) := by decide +kernel
theorem e10_169 : decode cX10_init 169 = .ok (.bipush 122, 2) := by decide +kernel
theorem e10_171 : decode cX10_init 171 = .ok (.newarray .short, 2) := by decide +kernel
theorem e10_173 : decode cX10_init 173 = .ok (.putfield 76, 3) := by decide +kernel
theorem cw10_76 : Jvm.Cond.fieldLink RX10 76 RX10 "lineEnd" "[S" ∈ kTbl := List.mem_filter.mpr ⟨(List.mem_append_right _ (List.mem_append_right _ (List.mem_append_right _ (List.mem_append_right _ (List.mem_append_right _ (List.mem_append_left _ (List.mem_of_getElem? (i := 95) rfl))))))), rfl⟩
theorem e10_176 : decode cX10_init 176 = .ok (.aload_n 0, 1) := by decide +kernel
theorem e10_177 : decode cX10_init 177 = .ok (.bipush 6, 2) := by decide +kernel
theorem e10_179 : decode cX10_init 179 = .ok (.newarray .int, 2) := by decide +kernel
theorem e10_181 : decode cX10_init 181 = .ok (.putfield 79, 3) := by decide +kernel
theorem cw10_79 : Jvm.Cond.fieldLink RX10 79 RX10 "facts" "[I" ∈ kTbl := List.mem_filter.mpr ⟨(List.mem_append_right _ (List.mem_append_right _ (List.mem_append_right _ (List.mem_append_right _ (List.mem_append_right _ (List.mem_append_left _ (List.mem_of_getElem? (i := 96) rfl))))))), rfl⟩
theorem e10_184 : decode cX10_init 184 = .ok (.aload_n 0, 1) := by decide +kernel
theorem e10_185 : decode cX10_init 185 = .ok (.sipush 130, 3) := by decide +kernel
theorem e10_188 : decode cX10_init 188 = .ok (.newarray .int, 2) := by decide +kernel
theorem e10_190 : decode cX10_init 190 = .ok (.putfield 82, 3) := by decide +kernel
theorem cw10_82 : Jvm.Cond.fieldLink RX10 82 RX10 "pile" "[I" ∈ kTbl := List.mem_filter.mpr ⟨(List.mem_append_right _ (List.mem_append_right _ (List.mem_append_right _ (List.mem_append_right _ (List.mem_append_right _ (List.mem_append_left _ (List.mem_of_getElem? (i := 97) rfl))))))), rfl⟩
theorem e10_193 : decode cX10_init 193 = .ok (.aload_n 0, 1) := by decide +kernel
theorem e10_194 : decode cX10_init 194 = .ok (.bipush 6, 2) := by decide +kernel
theorem e10_196 : decode cX10_init 196 = .ok (.newarray .int, 2) := by decide +kernel
theorem e10_198 : decode cX10_init 198 = .ok (.putfield 85, 3) := by decide +kernel
theorem cw10_85 : Jvm.Cond.fieldLink RX10 85 RX10 "lapsNow1" "[I" ∈ kTbl := List.mem_filter.mpr ⟨(List.mem_append_right _ (List.mem_append_right _ (List.mem_append_right _ (List.mem_append_right _ (List.mem_append_right _ (List.mem_append_left _ (List.mem_of_getElem? (i := 99) rfl))))))), rfl⟩
theorem e10_201 : decode cX10_init 201 = .ok (.aload_n 0, 1) := by decide +kernel
theorem e10_202 : decode cX10_init 202 = .ok (.sipush 2107, 3) := by decide +kernel
theorem e10_205 : decode cX10_init 205 = .ok (.newarray .int, 2) := by decide +kernel
theorem e10_207 : decode cX10_init 207 = .ok (.putfield 88, 3) := by decide +kernel
theorem cw10_88 : Jvm.Cond.fieldLink RX10 88 RX10 "paidFrom" "[I" ∈ kTbl := List.mem_filter.mpr ⟨(List.mem_append_right _ (List.mem_append_right _ (List.mem_append_right _ (List.mem_append_right _ (List.mem_append_right _ (List.mem_append_left _ (List.mem_of_getElem? (i := 100) rfl))))))), rfl⟩
theorem e10_210 : decode cX10_init 210 = .ok (.aload_n 0, 1) := by decide +kernel
theorem e10_211 : decode cX10_init 211 = .ok (.sipush 2107, 3) := by decide +kernel
theorem e10_214 : decode cX10_init 214 = .ok (.newarray .int, 2) := by decide +kernel
theorem e10_216 : decode cX10_init 216 = .ok (.putfield 91, 3) := by decide +kernel
theorem cw10_91 : Jvm.Cond.fieldLink RX10 91 RX10 "usedFrom" "[I" ∈ kTbl := List.mem_filter.mpr ⟨(List.mem_append_right _ (List.mem_append_right _ (List.mem_append_right _ (List.mem_append_right _ (List.mem_append_right _ (List.mem_append_left _ (List.mem_of_getElem? (i := 101) rfl))))))), rfl⟩
theorem e10_219 : decode cX10_init 219 = .ok (.aload_n 0, 1) := by decide +kernel
theorem e10_220 : decode cX10_init 220 = .ok (.sipush 2107, 3) := by decide +kernel
theorem e10_223 : decode cX10_init 223 = .ok (.newarray .int, 2) := by decide +kernel
theorem e10_225 : decode cX10_init 225 = .ok (.putfield 94, 3) := by decide +kernel
theorem cw10_94 : Jvm.Cond.fieldLink RX10 94 RX10 "lapsFrom" "[I" ∈ kTbl := List.mem_filter.mpr ⟨(List.mem_append_right _ (List.mem_append_right _ (List.mem_append_right _ (List.mem_append_right _ (List.mem_append_right _ (List.mem_append_left _ (List.mem_of_getElem? (i := 102) rfl))))))), rfl⟩
theorem e10_228 : decode cX10_init 228 = .ok (.aload_n 0, 1) := by decide +kernel
theorem e10_229 : decode cX10_init 229 = .ok (.bipush 16, 2) := by decide +kernel
theorem e10_231 : decode cX10_init 231 = .ok (.newarray .int, 2) := by decide +kernel
theorem e10_233 : decode cX10_init 233 = .ok (.putfield 97, 3) := by decide +kernel
theorem cw10_97 : Jvm.Cond.fieldLink RX10 97 RX10 "rest" "[I" ∈ kTbl := List.mem_filter.mpr ⟨(List.mem_append_right _ (List.mem_append_right _ (List.mem_append_right _ (List.mem_append_right _ (List.mem_append_right _ (List.mem_append_left _ (List.mem_of_getElem? (i := 103) rfl))))))), rfl⟩
theorem e10_236 : decode cX10_init 236 = .ok (.aload_n 0, 1) := by decide +kernel
theorem e10_237 : decode cX10_init 237 = .ok (.bipush 6, 2) := by decide +kernel
theorem e10_239 : decode cX10_init 239 = .ok (.newarray .int, 2) := by decide +kernel
theorem e10_241 : decode cX10_init 241 = .ok (.putfield 100, 3) := by decide +kernel
theorem cw10_100 : Jvm.Cond.fieldLink RX10 100 RX10 "lapsNow" "[I" ∈ kTbl := List.mem_filter.mpr ⟨(List.mem_append_right _ (List.mem_append_right _ (List.mem_append_right _ (List.mem_append_right _ (List.mem_append_right _ (List.mem_append_left _ (List.mem_of_getElem? (i := 105) rfl))))))), rfl⟩
theorem e10_244 : decode cX10_init 244 = .ok (.aload_n 0, 1) := by decide +kernel
theorem e10_245 : decode cX10_init 245 = .ok (.bipush 6, 2) := by decide +kernel
theorem e10_247 : decode cX10_init 247 = .ok (.newarray .int, 2) := by decide +kernel
theorem e10_249 : decode cX10_init 249 = .ok (.putfield 103, 3) := by decide +kernel
theorem cw10_103 : Jvm.Cond.fieldLink RX10 103 RX10 "minutesNow" "[I" ∈ kTbl := List.mem_filter.mpr ⟨(List.mem_append_right _ (List.mem_append_right _ (List.mem_append_right _ (List.mem_append_right _ (List.mem_append_right _ (List.mem_append_left _ (List.mem_of_getElem? (i := 106) rfl))))))), rfl⟩
theorem e10_252 : decode cX10_init 252 = .ok (.aload_n 0, 1) := by decide +kernel
theorem e10_253 : decode cX10_init 253 = .ok (.bipush 16, 2) := by decide +kernel
theorem e10_255 : decode cX10_init 255 = .ok (.newarray .int, 2) := by decide +kernel
theorem e10_257 : decode cX10_init 257 = .ok (.putfield 106, 3) := by decide +kernel
theorem cw10_106 : Jvm.Cond.fieldLink RX10 106 RX10 "paidNow" "[I" ∈ kTbl := List.mem_filter.mpr ⟨(List.mem_append_right _ (List.mem_append_right _ (List.mem_append_right _ (List.mem_append_right _ (List.mem_append_right _ (List.mem_append_left _ (List.mem_of_getElem? (i := 107) rfl))))))), rfl⟩
theorem e10_260 : decode cX10_init 260 = .ok (.aload_n 0, 1) := by decide +kernel
theorem e10_261 : decode cX10_init 261 = .ok (.iconst 5, 1) := by decide +kernel
theorem e10_262 : decode cX10_init 262 = .ok (.newarray .int, 2) := by decide +kernel
theorem e10_264 : decode cX10_init 264 = .ok (.putfield 109, 3) := by decide +kernel
theorem cw10_109 : Jvm.Cond.fieldLink RX10 109 RX10 "ledOf" "[I" ∈ kTbl := List.mem_filter.mpr ⟨(List.mem_append_right _ (List.mem_append_right _ (List.mem_append_right _ (List.mem_append_right _ (List.mem_append_right _ (List.mem_append_left _ (List.mem_of_getElem? (i := 108) rfl))))))), rfl⟩
theorem e10_267 : decode cX10_init 267 = .ok (.aload_n 0, 1) := by decide +kernel
theorem e10_268 : decode cX10_init 268 = .ok (.bipush 12, 2) := by decide +kernel
theorem e10_270 : decode cX10_init 270 = .ok (.newarray .int, 2) := by decide +kernel
theorem e10_272 : decode cX10_init 272 = .ok (.putfield 112, 3) := by decide +kernel
theorem cw10_112 : Jvm.Cond.fieldLink RX10 112 RX10 "keptRun" "[I" ∈ kTbl := List.mem_filter.mpr ⟨(List.mem_append_right _ (List.mem_append_right _ (List.mem_append_right _ (List.mem_append_right _ (List.mem_append_right _ (List.mem_append_left _ (List.mem_of_getElem? (i := 110) rfl))))))), rfl⟩
theorem e10_275 : decode cX10_init 275 = .ok (.aload_n 0, 1) := by decide +kernel
theorem e10_276 : decode cX10_init 276 = .ok (.bipush 16, 2) := by decide +kernel
theorem e10_278 : decode cX10_init 278 = .ok (.newarray .int, 2) := by decide +kernel
theorem e10_280 : decode cX10_init 280 = .ok (.putfield 115, 3) := by decide +kernel
theorem cw10_115 : Jvm.Cond.fieldLink RX10 115 RX10 "keptPaid" "[I" ∈ kTbl := List.mem_filter.mpr ⟨(List.mem_append_right _ (List.mem_append_right _ (List.mem_append_right _ (List.mem_append_right _ (List.mem_append_right _ (List.mem_append_left _ (List.mem_of_getElem? (i := 111) rfl))))))), rfl⟩
theorem e10_283 : decode cX10_init 283 = .ok (.aload_n 0, 1) := by decide +kernel
theorem e10_284 : decode cX10_init 284 = .ok (.iconst 5, 1) := by decide +kernel
theorem e10_285 : decode cX10_init 285 = .ok (.newarray .int, 2) := by decide +kernel
theorem e10_287 : decode cX10_init 287 = .ok (.putfield 118, 3) := by decide +kernel
theorem cw10_118 : Jvm.Cond.fieldLink RX10 118 RX10 "keptLed" "[I" ∈ kTbl := List.mem_filter.mpr ⟨(List.mem_append_right _ (List.mem_append_right _ (List.mem_append_right _ (List.mem_append_right _ (List.mem_append_right _ (List.mem_append_left _ (List.mem_of_getElem? (i := 112) rfl))))))), rfl⟩
theorem e10_290 : decode cX10_init 290 = .ok (.aload_n 0, 1) := by decide +kernel
theorem e10_291 : decode cX10_init 291 = .ok (.bipush 50, 2) := by decide +kernel
theorem e10_293 : decode cX10_init 293 = .ok (.newarray .int, 2) := by decide +kernel
theorem e10_295 : decode cX10_init 295 = .ok (.putfield 121, 3) := by decide +kernel
theorem cw10_121 : Jvm.Cond.fieldLink RX10 121 RX10 "kind" "[I" ∈ kTbl := List.mem_filter.mpr ⟨(List.mem_append_right _ (List.mem_append_right _ (List.mem_append_right _ (List.mem_append_right _ (List.mem_append_right _ (List.mem_append_left _ (List.mem_of_getElem? (i := 114) rfl))))))), rfl⟩
theorem e10_298 : decode cX10_init 298 = .ok (.aload_n 0, 1) := by decide +kernel
theorem e10_299 : decode cX10_init 299 = .ok (.bipush 24, 2) := by decide +kernel
theorem e10_301 : decode cX10_init 301 = .ok (.newarray .int, 2) := by decide +kernel
theorem e10_303 : decode cX10_init 303 = .ok (.putfield 124, 3) := by decide +kernel
theorem cw10_124 : Jvm.Cond.fieldLink RX10 124 RX10 "traced" "[I" ∈ kTbl := List.mem_filter.mpr ⟨(List.mem_append_right _ (List.mem_append_right _ (List.mem_append_right _ (List.mem_append_right _ (List.mem_append_right _ (List.mem_append_left _ (List.mem_of_getElem? (i := 116) rfl))))))), rfl⟩
theorem e10_306 : decode cX10_init 306 = .ok (.aload_n 0, 1) := by decide +kernel
theorem e10_307 : decode cX10_init 307 = .ok (.bipush 6, 2) := by decide +kernel
theorem e10_309 : decode cX10_init 309 = .ok (.newarray .int, 2) := by decide +kernel
theorem e10_311 : decode cX10_init 311 = .ok (.dup, 1) := by decide +kernel
theorem e10_312 : decode cX10_init 312 = .ok (.iconst 0, 1) := by decide +kernel
theorem e10_313 : decode cX10_init 313 = .ok (.iconst (-1), 1) := by decide +kernel
theorem e10_314 : decode cX10_init 314 = .ok (.iastore, 1) := by decide +kernel
theorem e10_315 : decode cX10_init 315 = .ok (.dup, 1) := by decide +kernel
theorem e10_316 : decode cX10_init 316 = .ok (.iconst 1, 1) := by decide +kernel
theorem e10_317 : decode cX10_init 317 = .ok (.iconst (-1), 1) := by decide +kernel
theorem e10_318 : decode cX10_init 318 = .ok (.iastore, 1) := by decide +kernel
theorem e10_319 : decode cX10_init 319 = .ok (.dup, 1) := by decide +kernel
theorem e10_320 : decode cX10_init 320 = .ok (.iconst 2, 1) := by decide +kernel
theorem e10_321 : decode cX10_init 321 = .ok (.iconst (-1), 1) := by decide +kernel
theorem e10_322 : decode cX10_init 322 = .ok (.iastore, 1) := by decide +kernel
theorem e10_323 : decode cX10_init 323 = .ok (.dup, 1) := by decide +kernel
theorem e10_324 : decode cX10_init 324 = .ok (.iconst 3, 1) := by decide +kernel
theorem e10_325 : decode cX10_init 325 = .ok (.iconst (-1), 1) := by decide +kernel
theorem e10_326 : decode cX10_init 326 = .ok (.iastore, 1) := by decide +kernel
theorem e10_327 : decode cX10_init 327 = .ok (.dup, 1) := by decide +kernel
theorem e10_328 : decode cX10_init 328 = .ok (.iconst 4, 1) := by decide +kernel
theorem e10_329 : decode cX10_init 329 = .ok (.iconst (-1), 1) := by decide +kernel
theorem e10_330 : decode cX10_init 330 = .ok (.iastore, 1) := by decide +kernel
theorem e10_331 : decode cX10_init 331 = .ok (.dup, 1) := by decide +kernel
theorem e10_332 : decode cX10_init 332 = .ok (.iconst 5, 1) := by decide +kernel
theorem e10_333 : decode cX10_init 333 = .ok (.iconst (-1), 1) := by decide +kernel
theorem e10_334 : decode cX10_init 334 = .ok (.iastore, 1) := by decide +kernel
theorem e10_335 : decode cX10_init 335 = .ok (.putfield 127, 3) := by decide +kernel
theorem cw10_127 : Jvm.Cond.fieldLink RX10 127 RX10 "holds" "[I" ∈ kTbl := List.mem_filter.mpr ⟨(List.mem_append_right _ (List.mem_append_right _ (List.mem_append_right _ (List.mem_append_right _ (List.mem_append_right _ (List.mem_append_left _ (List.mem_of_getElem? (i := 117) rfl))))))), rfl⟩
theorem e10_338 : decode cX10_init 338 = .ok (.aload_n 0, 1) := by decide +kernel
theorem e10_339 : decode cX10_init 339 = .ok (.bipush 6, 2) := by decide +kernel
theorem e10_341 : decode cX10_init 341 = .ok (.newarray .int, 2) := by decide +kernel
theorem e10_343 : decode cX10_init 343 = .ok (.putfield 130, 3) := by decide +kernel
theorem cw10_130 : Jvm.Cond.fieldLink RX10 130 RX10 "size" "[I" ∈ kTbl := List.mem_filter.mpr ⟨(List.mem_append_right _ (List.mem_append_right _ (List.mem_append_right _ (List.mem_append_right _ (List.mem_append_right _ (List.mem_append_left _ (List.mem_of_getElem? (i := 118) rfl))))))), rfl⟩
theorem e10_346 : decode cX10_init 346 = .ok (.aload_n 0, 1) := by decide +kernel
theorem e10_347 : decode cX10_init 347 = .ok (.sipush 360, 3) := by decide +kernel
theorem e10_350 : decode cX10_init 350 = .ok (.newarray .long, 2) := by decide +kernel
theorem e10_352 : decode cX10_init 352 = .ok (.putfield 133, 3) := by decide +kernel
theorem cw10_133 : Jvm.Cond.fieldLink RX10 133 RX10 "elements" "[J" ∈ kTbl := List.mem_filter.mpr ⟨(List.mem_append_right _ (List.mem_append_right _ (List.mem_append_right _ (List.mem_append_right _ (List.mem_append_right _ (List.mem_append_left _ (List.mem_of_getElem? (i := 119) rfl))))))), rfl⟩
theorem e10_355 : decode cX10_init 355 = .ok (.aload_n 0, 1) := by decide +kernel
theorem e10_356 : decode cX10_init 356 = .ok (.bipush 60, 2) := by decide +kernel
theorem e10_358 : decode cX10_init 358 = .ok (.newarray .long, 2) := by decide +kernel
theorem e10_360 : decode cX10_init 360 = .ok (.putfield 137, 3) := by decide +kernel
theorem cw10_137 : Jvm.Cond.fieldLink RX10 137 RX10 "shifted" "[J" ∈ kTbl := List.mem_filter.mpr ⟨(List.mem_append_right _ (List.mem_append_right _ (List.mem_append_right _ (List.mem_append_right _ (List.mem_append_right _ (List.mem_append_left _ (List.mem_of_getElem? (i := 120) rfl))))))), rfl⟩
theorem e10_363 : decode cX10_init 363 = .ok (.return_, 1) := by decide +kernel
