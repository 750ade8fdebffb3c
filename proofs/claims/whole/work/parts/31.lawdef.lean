theorem wd_13 : (Jvm.Cond.classLink "DoorGuardLaw" (7 : Nat) "DoorGuard") ∈ gw := List.mem_filter.mpr ⟨List.mem_of_getElem? (i := 73) (by decide +kernel), by decide +kernel⟩
theorem wd_14 : (Jvm.Cond.instantiable "DoorGuard" (13 : Nat)) ∈ gw := List.mem_filter.mpr ⟨List.mem_of_getElem? (i := 74) (by decide +kernel), by decide +kernel⟩
theorem wd_17 : (Jvm.Cond.code ({ cls := "DoorGuard", name := "<init>", desc := "()V" } : Jvm.MethodName) prog_1_method_1_code (4 : Nat) (Option.none : Option Jvm.ClassFile.FieldType)) ∈ gw := List.mem_filter.mpr ⟨List.mem_of_getElem? (i := 77) (by decide +kernel), by decide +kernel⟩
theorem wd_15 : (Jvm.Cond.methodLink "DoorGuardLaw" (9 : Nat) ({ cls := "DoorGuard", name := "<init>", desc := "()V" } : Jvm.MethodName)) ∈ gw := List.mem_filter.mpr ⟨List.mem_of_getElem? (i := 75) (by decide +kernel), by decide +kernel⟩
theorem wd_16 : (Jvm.Cond.instanceMethod ({ cls := "DoorGuard", name := "<init>", desc := "()V" } : Jvm.MethodName)) ∈ gw := List.mem_filter.mpr ⟨List.mem_of_getElem? (i := 76) (by decide +kernel), by decide +kernel⟩
theorem wd_642 : (Jvm.Cond.classLink "DoorGuardLaw" (10 : Nat) "DoorGuardModel") ∈ gw := List.mem_filter.mpr ⟨List.mem_of_getElem? (i := 702) (by decide +kernel), by decide +kernel⟩
theorem wd_643 : (Jvm.Cond.instantiable "DoorGuardModel" (47 : Nat)) ∈ gw := List.mem_filter.mpr ⟨List.mem_of_getElem? (i := 703) (by decide +kernel), by decide +kernel⟩
theorem wd_646 : (Jvm.Cond.code ({ cls := "DoorGuardModel", name := "<init>", desc := "()V" } : Jvm.MethodName) prog_10_method_1_code (1 : Nat) (Option.none : Option Jvm.ClassFile.FieldType)) ∈ gw := List.mem_filter.mpr ⟨List.mem_of_getElem? (i := 706) (by decide +kernel), by decide +kernel⟩
theorem wd_644 : (Jvm.Cond.methodLink "DoorGuardLaw" (12 : Nat) ({ cls := "DoorGuardModel", name := "<init>", desc := "()V" } : Jvm.MethodName)) ∈ gw := List.mem_filter.mpr ⟨List.mem_of_getElem? (i := 704) (by decide +kernel), by decide +kernel⟩
theorem wd_645 : (Jvm.Cond.instanceMethod ({ cls := "DoorGuardModel", name := "<init>", desc := "()V" } : Jvm.MethodName)) ∈ gw := List.mem_filter.mpr ⟨List.mem_of_getElem? (i := 705) (by decide +kernel), by decide +kernel⟩
theorem wd_195 : (Jvm.Cond.code ({ cls := "DoorGuard", name := "days", desc := "(I)I" } : Jvm.MethodName) prog_1_method_2_code (2 : Nat) (Option.some Jvm.ClassFile.FieldType.int)) ∈ gw := List.mem_filter.mpr ⟨List.mem_of_getElem? (i := 255) (by decide +kernel), by decide +kernel⟩
theorem wd_192 : (Jvm.Cond.methodLink "DoorGuardLaw" (13 : Nat) ({ cls := "DoorGuard", name := "days", desc := "(I)I" } : Jvm.MethodName)) ∈ gw := List.mem_filter.mpr ⟨List.mem_of_getElem? (i := 252) (by decide +kernel), by decide +kernel⟩
theorem wd_194 : (Jvm.Cond.selects "DoorGuard" ({ cls := "DoorGuard", name := "days", desc := "(I)I" } : Jvm.MethodName) ({ cls := "DoorGuard", name := "days", desc := "(I)I" } : Jvm.MethodName)) ∈ gw := List.mem_filter.mpr ⟨List.mem_of_getElem? (i := 254) (by decide +kernel), by decide +kernel⟩
theorem wd_193 : (Jvm.Cond.instanceMethod ({ cls := "DoorGuard", name := "days", desc := "(I)I" } : Jvm.MethodName)) ∈ gw := List.mem_filter.mpr ⟨List.mem_of_getElem? (i := 253) (by decide +kernel), by decide +kernel⟩
theorem wd_793 : (Jvm.Cond.code ({ cls := "DoorGuardModel", name := "days", desc := "(I)I" } : Jvm.MethodName) prog_10_method_3_code (2 : Nat) (Option.some Jvm.ClassFile.FieldType.int)) ∈ gw := List.mem_filter.mpr ⟨List.mem_of_getElem? (i := 853) (by decide +kernel), by decide +kernel⟩
theorem wd_790 : (Jvm.Cond.methodLink "DoorGuardLaw" (17 : Nat) ({ cls := "DoorGuardModel", name := "days", desc := "(I)I" } : Jvm.MethodName)) ∈ gw := List.mem_filter.mpr ⟨List.mem_of_getElem? (i := 850) (by decide +kernel), by decide +kernel⟩
theorem wd_792 : (Jvm.Cond.selects "DoorGuardModel" ({ cls := "DoorGuardModel", name := "days", desc := "(I)I" } : Jvm.MethodName) ({ cls := "DoorGuardModel", name := "days", desc := "(I)I" } : Jvm.MethodName)) ∈ gw := List.mem_filter.mpr ⟨List.mem_of_getElem? (i := 852) (by decide +kernel), by decide +kernel⟩
theorem wd_791 : (Jvm.Cond.instanceMethod ({ cls := "DoorGuardModel", name := "days", desc := "(I)I" } : Jvm.MethodName)) ∈ gw := List.mem_filter.mpr ⟨List.mem_of_getElem? (i := 851) (by decide +kernel), by decide +kernel⟩
theorem wd_202 : (Jvm.Cond.code ({ cls := "DoorGuard", name := "feed", desc := "(IIIII)I" } : Jvm.MethodName) prog_1_method_3_code (7 : Nat) (Option.some Jvm.ClassFile.FieldType.int)) ∈ gw := List.mem_filter.mpr ⟨List.mem_of_getElem? (i := 262) (by decide +kernel), by decide +kernel⟩
theorem wd_199 : (Jvm.Cond.methodLink "DoorGuardLaw" (18 : Nat) ({ cls := "DoorGuard", name := "feed", desc := "(IIIII)I" } : Jvm.MethodName)) ∈ gw := List.mem_filter.mpr ⟨List.mem_of_getElem? (i := 259) (by decide +kernel), by decide +kernel⟩
theorem wd_201 : (Jvm.Cond.selects "DoorGuard" ({ cls := "DoorGuard", name := "feed", desc := "(IIIII)I" } : Jvm.MethodName) ({ cls := "DoorGuard", name := "feed", desc := "(IIIII)I" } : Jvm.MethodName)) ∈ gw := List.mem_filter.mpr ⟨List.mem_of_getElem? (i := 261) (by decide +kernel), by decide +kernel⟩
theorem wd_200 : (Jvm.Cond.instanceMethod ({ cls := "DoorGuard", name := "feed", desc := "(IIIII)I" } : Jvm.MethodName)) ∈ gw := List.mem_filter.mpr ⟨List.mem_of_getElem? (i := 260) (by decide +kernel), by decide +kernel⟩
theorem wd_800 : (Jvm.Cond.code ({ cls := "DoorGuardModel", name := "feed", desc := "(IIIII)I" } : Jvm.MethodName) prog_10_method_5_code (9 : Nat) (Option.some Jvm.ClassFile.FieldType.int)) ∈ gw := List.mem_filter.mpr ⟨List.mem_of_getElem? (i := 860) (by decide +kernel), by decide +kernel⟩
theorem wd_797 : (Jvm.Cond.methodLink "DoorGuardLaw" (22 : Nat) ({ cls := "DoorGuardModel", name := "feed", desc := "(IIIII)I" } : Jvm.MethodName)) ∈ gw := List.mem_filter.mpr ⟨List.mem_of_getElem? (i := 857) (by decide +kernel), by decide +kernel⟩
theorem wd_799 : (Jvm.Cond.selects "DoorGuardModel" ({ cls := "DoorGuardModel", name := "feed", desc := "(IIIII)I" } : Jvm.MethodName) ({ cls := "DoorGuardModel", name := "feed", desc := "(IIIII)I" } : Jvm.MethodName)) ∈ gw := List.mem_filter.mpr ⟨List.mem_of_getElem? (i := 859) (by decide +kernel), by decide +kernel⟩
theorem wd_798 : (Jvm.Cond.instanceMethod ({ cls := "DoorGuardModel", name := "feed", desc := "(IIIII)I" } : Jvm.MethodName)) ∈ gw := List.mem_filter.mpr ⟨List.mem_of_getElem? (i := 858) (by decide +kernel), by decide +kernel⟩
theorem wd_213 : (Jvm.Cond.code ({ cls := "DoorGuard", name := "end", desc := "(I)Z" } : Jvm.MethodName) prog_1_method_4_code (2 : Nat) (Option.some Jvm.ClassFile.FieldType.boolean)) ∈ gw := List.mem_filter.mpr ⟨List.mem_of_getElem? (i := 273) (by decide +kernel), by decide +kernel⟩
theorem wd_210 : (Jvm.Cond.methodLink "DoorGuardLaw" (23 : Nat) ({ cls := "DoorGuard", name := "end", desc := "(I)Z" } : Jvm.MethodName)) ∈ gw := List.mem_filter.mpr ⟨List.mem_of_getElem? (i := 270) (by decide +kernel), by decide +kernel⟩
theorem wd_212 : (Jvm.Cond.selects "DoorGuard" ({ cls := "DoorGuard", name := "end", desc := "(I)Z" } : Jvm.MethodName) ({ cls := "DoorGuard", name := "end", desc := "(I)Z" } : Jvm.MethodName)) ∈ gw := List.mem_filter.mpr ⟨List.mem_of_getElem? (i := 272) (by decide +kernel), by decide +kernel⟩
theorem wd_211 : (Jvm.Cond.instanceMethod ({ cls := "DoorGuard", name := "end", desc := "(I)Z" } : Jvm.MethodName)) ∈ gw := List.mem_filter.mpr ⟨List.mem_of_getElem? (i := 271) (by decide +kernel), by decide +kernel⟩
theorem wd_807 : (Jvm.Cond.code ({ cls := "DoorGuardModel", name := "end", desc := "(I)Z" } : Jvm.MethodName) prog_10_method_6_code (2 : Nat) (Option.some Jvm.ClassFile.FieldType.boolean)) ∈ gw := List.mem_filter.mpr ⟨List.mem_of_getElem? (i := 867) (by decide +kernel), by decide +kernel⟩
theorem wd_804 : (Jvm.Cond.methodLink "DoorGuardLaw" (27 : Nat) ({ cls := "DoorGuardModel", name := "end", desc := "(I)Z" } : Jvm.MethodName)) ∈ gw := List.mem_filter.mpr ⟨List.mem_of_getElem? (i := 864) (by decide +kernel), by decide +kernel⟩
theorem wd_806 : (Jvm.Cond.selects "DoorGuardModel" ({ cls := "DoorGuardModel", name := "end", desc := "(I)Z" } : Jvm.MethodName) ({ cls := "DoorGuardModel", name := "end", desc := "(I)Z" } : Jvm.MethodName)) ∈ gw := List.mem_filter.mpr ⟨List.mem_of_getElem? (i := 866) (by decide +kernel), by decide +kernel⟩
theorem wd_805 : (Jvm.Cond.instanceMethod ({ cls := "DoorGuardModel", name := "end", desc := "(I)Z" } : Jvm.MethodName)) ∈ gw := List.mem_filter.mpr ⟨List.mem_of_getElem? (i := 865) (by decide +kernel), by decide +kernel⟩
theorem wd_217 : (Jvm.Cond.code ({ cls := "DoorGuard", name := "keep", desc := "(I)I" } : Jvm.MethodName) prog_1_method_5_code (3 : Nat) (Option.some Jvm.ClassFile.FieldType.int)) ∈ gw := List.mem_filter.mpr ⟨List.mem_of_getElem? (i := 277) (by decide +kernel), by decide +kernel⟩
theorem wd_214 : (Jvm.Cond.methodLink "DoorGuardLaw" (28 : Nat) ({ cls := "DoorGuard", name := "keep", desc := "(I)I" } : Jvm.MethodName)) ∈ gw := List.mem_filter.mpr ⟨List.mem_of_getElem? (i := 274) (by decide +kernel), by decide +kernel⟩
theorem wd_216 : (Jvm.Cond.selects "DoorGuard" ({ cls := "DoorGuard", name := "keep", desc := "(I)I" } : Jvm.MethodName) ({ cls := "DoorGuard", name := "keep", desc := "(I)I" } : Jvm.MethodName)) ∈ gw := List.mem_filter.mpr ⟨List.mem_of_getElem? (i := 276) (by decide +kernel), by decide +kernel⟩
theorem wd_215 : (Jvm.Cond.instanceMethod ({ cls := "DoorGuard", name := "keep", desc := "(I)I" } : Jvm.MethodName)) ∈ gw := List.mem_filter.mpr ⟨List.mem_of_getElem? (i := 275) (by decide +kernel), by decide +kernel⟩
theorem wd_811 : (Jvm.Cond.code ({ cls := "DoorGuardModel", name := "keep", desc := "(I)I" } : Jvm.MethodName) prog_10_method_16_code (3 : Nat) (Option.some Jvm.ClassFile.FieldType.int)) ∈ gw := List.mem_filter.mpr ⟨List.mem_of_getElem? (i := 871) (by decide +kernel), by decide +kernel⟩
theorem wd_808 : (Jvm.Cond.methodLink "DoorGuardLaw" (31 : Nat) ({ cls := "DoorGuardModel", name := "keep", desc := "(I)I" } : Jvm.MethodName)) ∈ gw := List.mem_filter.mpr ⟨List.mem_of_getElem? (i := 868) (by decide +kernel), by decide +kernel⟩
theorem wd_810 : (Jvm.Cond.selects "DoorGuardModel" ({ cls := "DoorGuardModel", name := "keep", desc := "(I)I" } : Jvm.MethodName) ({ cls := "DoorGuardModel", name := "keep", desc := "(I)I" } : Jvm.MethodName)) ∈ gw := List.mem_filter.mpr ⟨List.mem_of_getElem? (i := 870) (by decide +kernel), by decide +kernel⟩
theorem wd_809 : (Jvm.Cond.instanceMethod ({ cls := "DoorGuardModel", name := "keep", desc := "(I)I" } : Jvm.MethodName)) ∈ gw := List.mem_filter.mpr ⟨List.mem_of_getElem? (i := 869) (by decide +kernel), by decide +kernel⟩
theorem wd_277 : (Jvm.Cond.code ({ cls := "DoorGuard", name := "mark", desc := "(I)Z" } : Jvm.MethodName) prog_1_method_6_code (2 : Nat) (Option.some Jvm.ClassFile.FieldType.boolean)) ∈ gw := List.mem_filter.mpr ⟨List.mem_of_getElem? (i := 337) (by decide +kernel), by decide +kernel⟩
theorem wd_274 : (Jvm.Cond.methodLink "DoorGuardLaw" (32 : Nat) ({ cls := "DoorGuard", name := "mark", desc := "(I)Z" } : Jvm.MethodName)) ∈ gw := List.mem_filter.mpr ⟨List.mem_of_getElem? (i := 334) (by decide +kernel), by decide +kernel⟩
theorem wd_276 : (Jvm.Cond.selects "DoorGuard" ({ cls := "DoorGuard", name := "mark", desc := "(I)Z" } : Jvm.MethodName) ({ cls := "DoorGuard", name := "mark", desc := "(I)Z" } : Jvm.MethodName)) ∈ gw := List.mem_filter.mpr ⟨List.mem_of_getElem? (i := 336) (by decide +kernel), by decide +kernel⟩
theorem wd_275 : (Jvm.Cond.instanceMethod ({ cls := "DoorGuard", name := "mark", desc := "(I)Z" } : Jvm.MethodName)) ∈ gw := List.mem_filter.mpr ⟨List.mem_of_getElem? (i := 335) (by decide +kernel), by decide +kernel⟩
theorem wd_847 : (Jvm.Cond.code ({ cls := "DoorGuardModel", name := "mark", desc := "(I)Z" } : Jvm.MethodName) prog_10_method_23_code (3 : Nat) (Option.some Jvm.ClassFile.FieldType.boolean)) ∈ gw := List.mem_filter.mpr ⟨List.mem_of_getElem? (i := 907) (by decide +kernel), by decide +kernel⟩
theorem wd_844 : (Jvm.Cond.methodLink "DoorGuardLaw" (35 : Nat) ({ cls := "DoorGuardModel", name := "mark", desc := "(I)Z" } : Jvm.MethodName)) ∈ gw := List.mem_filter.mpr ⟨List.mem_of_getElem? (i := 904) (by decide +kernel), by decide +kernel⟩
theorem wd_846 : (Jvm.Cond.selects "DoorGuardModel" ({ cls := "DoorGuardModel", name := "mark", desc := "(I)Z" } : Jvm.MethodName) ({ cls := "DoorGuardModel", name := "mark", desc := "(I)Z" } : Jvm.MethodName)) ∈ gw := List.mem_filter.mpr ⟨List.mem_of_getElem? (i := 906) (by decide +kernel), by decide +kernel⟩
theorem wd_845 : (Jvm.Cond.instanceMethod ({ cls := "DoorGuardModel", name := "mark", desc := "(I)Z" } : Jvm.MethodName)) ∈ gw := List.mem_filter.mpr ⟨List.mem_of_getElem? (i := 905) (by decide +kernel), by decide +kernel⟩
theorem wd_292 : (Jvm.Cond.code ({ cls := "DoorGuard", name := "near", desc := "(III)Z" } : Jvm.MethodName) prog_1_method_7_code (4 : Nat) (Option.some Jvm.ClassFile.FieldType.boolean)) ∈ gw := List.mem_filter.mpr ⟨List.mem_of_getElem? (i := 352) (by decide +kernel), by decide +kernel⟩
theorem wd_289 : (Jvm.Cond.methodLink "DoorGuardLaw" (36 : Nat) ({ cls := "DoorGuard", name := "near", desc := "(III)Z" } : Jvm.MethodName)) ∈ gw := List.mem_filter.mpr ⟨List.mem_of_getElem? (i := 349) (by decide +kernel), by decide +kernel⟩
theorem wd_291 : (Jvm.Cond.selects "DoorGuard" ({ cls := "DoorGuard", name := "near", desc := "(III)Z" } : Jvm.MethodName) ({ cls := "DoorGuard", name := "near", desc := "(III)Z" } : Jvm.MethodName)) ∈ gw := List.mem_filter.mpr ⟨List.mem_of_getElem? (i := 351) (by decide +kernel), by decide +kernel⟩
theorem wd_290 : (Jvm.Cond.instanceMethod ({ cls := "DoorGuard", name := "near", desc := "(III)Z" } : Jvm.MethodName)) ∈ gw := List.mem_filter.mpr ⟨List.mem_of_getElem? (i := 350) (by decide +kernel), by decide +kernel⟩
theorem wd_851 : (Jvm.Cond.code ({ cls := "DoorGuardModel", name := "near", desc := "(III)Z" } : Jvm.MethodName) prog_10_method_24_code (4 : Nat) (Option.some Jvm.ClassFile.FieldType.boolean)) ∈ gw := List.mem_filter.mpr ⟨List.mem_of_getElem? (i := 911) (by decide +kernel), by decide +kernel⟩
theorem wd_848 : (Jvm.Cond.methodLink "DoorGuardLaw" (40 : Nat) ({ cls := "DoorGuardModel", name := "near", desc := "(III)Z" } : Jvm.MethodName)) ∈ gw := List.mem_filter.mpr ⟨List.mem_of_getElem? (i := 908) (by decide +kernel), by decide +kernel⟩
theorem wd_850 : (Jvm.Cond.selects "DoorGuardModel" ({ cls := "DoorGuardModel", name := "near", desc := "(III)Z" } : Jvm.MethodName) ({ cls := "DoorGuardModel", name := "near", desc := "(III)Z" } : Jvm.MethodName)) ∈ gw := List.mem_filter.mpr ⟨List.mem_of_getElem? (i := 910) (by decide +kernel), by decide +kernel⟩
theorem wd_849 : (Jvm.Cond.instanceMethod ({ cls := "DoorGuardModel", name := "near", desc := "(III)Z" } : Jvm.MethodName)) ∈ gw := List.mem_filter.mpr ⟨List.mem_of_getElem? (i := 909) (by decide +kernel), by decide +kernel⟩
theorem wd_299 : (Jvm.Cond.code ({ cls := "DoorGuard", name := "count", desc := "(II)Z" } : Jvm.MethodName) prog_1_method_8_code (3 : Nat) (Option.some Jvm.ClassFile.FieldType.boolean)) ∈ gw := List.mem_filter.mpr ⟨List.mem_of_getElem? (i := 359) (by decide +kernel), by decide +kernel⟩
theorem wd_296 : (Jvm.Cond.methodLink "DoorGuardLaw" (41 : Nat) ({ cls := "DoorGuard", name := "count", desc := "(II)Z" } : Jvm.MethodName)) ∈ gw := List.mem_filter.mpr ⟨List.mem_of_getElem? (i := 356) (by decide +kernel), by decide +kernel⟩
theorem wd_298 : (Jvm.Cond.selects "DoorGuard" ({ cls := "DoorGuard", name := "count", desc := "(II)Z" } : Jvm.MethodName) ({ cls := "DoorGuard", name := "count", desc := "(II)Z" } : Jvm.MethodName)) ∈ gw := List.mem_filter.mpr ⟨List.mem_of_getElem? (i := 358) (by decide +kernel), by decide +kernel⟩
theorem wd_297 : (Jvm.Cond.instanceMethod ({ cls := "DoorGuard", name := "count", desc := "(II)Z" } : Jvm.MethodName)) ∈ gw := List.mem_filter.mpr ⟨List.mem_of_getElem? (i := 357) (by decide +kernel), by decide +kernel⟩
theorem wd_855 : (Jvm.Cond.code ({ cls := "DoorGuardModel", name := "count", desc := "(II)Z" } : Jvm.MethodName) prog_10_method_25_code (3 : Nat) (Option.some Jvm.ClassFile.FieldType.boolean)) ∈ gw := List.mem_filter.mpr ⟨List.mem_of_getElem? (i := 915) (by decide +kernel), by decide +kernel⟩
theorem wd_852 : (Jvm.Cond.methodLink "DoorGuardLaw" (45 : Nat) ({ cls := "DoorGuardModel", name := "count", desc := "(II)Z" } : Jvm.MethodName)) ∈ gw := List.mem_filter.mpr ⟨List.mem_of_getElem? (i := 912) (by decide +kernel), by decide +kernel⟩
theorem wd_854 : (Jvm.Cond.selects "DoorGuardModel" ({ cls := "DoorGuardModel", name := "count", desc := "(II)Z" } : Jvm.MethodName) ({ cls := "DoorGuardModel", name := "count", desc := "(II)Z" } : Jvm.MethodName)) ∈ gw := List.mem_filter.mpr ⟨List.mem_of_getElem? (i := 914) (by decide +kernel), by decide +kernel⟩
theorem wd_853 : (Jvm.Cond.instanceMethod ({ cls := "DoorGuardModel", name := "count", desc := "(II)Z" } : Jvm.MethodName)) ∈ gw := List.mem_filter.mpr ⟨List.mem_of_getElem? (i := 913) (by decide +kernel), by decide +kernel⟩
theorem wd_303 : (Jvm.Cond.code ({ cls := "DoorGuard", name := "pieces", desc := "(IIIII)Z" } : Jvm.MethodName) prog_1_method_9_code (6 : Nat) (Option.some Jvm.ClassFile.FieldType.boolean)) ∈ gw := List.mem_filter.mpr ⟨List.mem_of_getElem? (i := 363) (by decide +kernel), by decide +kernel⟩
theorem wd_300 : (Jvm.Cond.methodLink "DoorGuardLaw" (46 : Nat) ({ cls := "DoorGuard", name := "pieces", desc := "(IIIII)Z" } : Jvm.MethodName)) ∈ gw := List.mem_filter.mpr ⟨List.mem_of_getElem? (i := 360) (by decide +kernel), by decide +kernel⟩
theorem wd_302 : (Jvm.Cond.selects "DoorGuard" ({ cls := "DoorGuard", name := "pieces", desc := "(IIIII)Z" } : Jvm.MethodName) ({ cls := "DoorGuard", name := "pieces", desc := "(IIIII)Z" } : Jvm.MethodName)) ∈ gw := List.mem_filter.mpr ⟨List.mem_of_getElem? (i := 362) (by decide +kernel), by decide +kernel⟩
theorem wd_301 : (Jvm.Cond.instanceMethod ({ cls := "DoorGuard", name := "pieces", desc := "(IIIII)Z" } : Jvm.MethodName)) ∈ gw := List.mem_filter.mpr ⟨List.mem_of_getElem? (i := 361) (by decide +kernel), by decide +kernel⟩
theorem wd_859 : (Jvm.Cond.code ({ cls := "DoorGuardModel", name := "pieces", desc := "(IIIII)Z" } : Jvm.MethodName) prog_10_method_26_code (6 : Nat) (Option.some Jvm.ClassFile.FieldType.boolean)) ∈ gw := List.mem_filter.mpr ⟨List.mem_of_getElem? (i := 919) (by decide +kernel), by decide +kernel⟩
theorem wd_856 : (Jvm.Cond.methodLink "DoorGuardLaw" (50 : Nat) ({ cls := "DoorGuardModel", name := "pieces", desc := "(IIIII)Z" } : Jvm.MethodName)) ∈ gw := List.mem_filter.mpr ⟨List.mem_of_getElem? (i := 916) (by decide +kernel), by decide +kernel⟩
theorem wd_858 : (Jvm.Cond.selects "DoorGuardModel" ({ cls := "DoorGuardModel", name := "pieces", desc := "(IIIII)Z" } : Jvm.MethodName) ({ cls := "DoorGuardModel", name := "pieces", desc := "(IIIII)Z" } : Jvm.MethodName)) ∈ gw := List.mem_filter.mpr ⟨List.mem_of_getElem? (i := 918) (by decide +kernel), by decide +kernel⟩
theorem wd_857 : (Jvm.Cond.instanceMethod ({ cls := "DoorGuardModel", name := "pieces", desc := "(IIIII)Z" } : Jvm.MethodName)) ∈ gw := List.mem_filter.mpr ⟨List.mem_of_getElem? (i := 917) (by decide +kernel), by decide +kernel⟩
theorem wd_307 : (Jvm.Cond.code ({ cls := "DoorGuard", name := "allow", desc := "(IIIZ)Z" } : Jvm.MethodName) prog_1_method_10_code (6 : Nat) (Option.some Jvm.ClassFile.FieldType.boolean)) ∈ gw := List.mem_filter.mpr ⟨List.mem_of_getElem? (i := 367) (by decide +kernel), by decide +kernel⟩
theorem wd_304 : (Jvm.Cond.methodLink "DoorGuardLaw" (51 : Nat) ({ cls := "DoorGuard", name := "allow", desc := "(IIIZ)Z" } : Jvm.MethodName)) ∈ gw := List.mem_filter.mpr ⟨List.mem_of_getElem? (i := 364) (by decide +kernel), by decide +kernel⟩
theorem wd_306 : (Jvm.Cond.selects "DoorGuard" ({ cls := "DoorGuard", name := "allow", desc := "(IIIZ)Z" } : Jvm.MethodName) ({ cls := "DoorGuard", name := "allow", desc := "(IIIZ)Z" } : Jvm.MethodName)) ∈ gw := List.mem_filter.mpr ⟨List.mem_of_getElem? (i := 366) (by decide +kernel), by decide +kernel⟩
theorem wd_305 : (Jvm.Cond.instanceMethod ({ cls := "DoorGuard", name := "allow", desc := "(IIIZ)Z" } : Jvm.MethodName)) ∈ gw := List.mem_filter.mpr ⟨List.mem_of_getElem? (i := 365) (by decide +kernel), by decide +kernel⟩
theorem wd_863 : (Jvm.Cond.code ({ cls := "DoorGuardModel", name := "allow", desc := "(IIIZ)Z" } : Jvm.MethodName) prog_10_method_27_code (6 : Nat) (Option.some Jvm.ClassFile.FieldType.boolean)) ∈ gw := List.mem_filter.mpr ⟨List.mem_of_getElem? (i := 923) (by decide +kernel), by decide +kernel⟩
theorem wd_860 : (Jvm.Cond.methodLink "DoorGuardLaw" (55 : Nat) ({ cls := "DoorGuardModel", name := "allow", desc := "(IIIZ)Z" } : Jvm.MethodName)) ∈ gw := List.mem_filter.mpr ⟨List.mem_of_getElem? (i := 920) (by decide +kernel), by decide +kernel⟩
theorem wd_862 : (Jvm.Cond.selects "DoorGuardModel" ({ cls := "DoorGuardModel", name := "allow", desc := "(IIIZ)Z" } : Jvm.MethodName) ({ cls := "DoorGuardModel", name := "allow", desc := "(IIIZ)Z" } : Jvm.MethodName)) ∈ gw := List.mem_filter.mpr ⟨List.mem_of_getElem? (i := 922) (by decide +kernel), by decide +kernel⟩
theorem wd_861 : (Jvm.Cond.instanceMethod ({ cls := "DoorGuardModel", name := "allow", desc := "(IIIZ)Z" } : Jvm.MethodName)) ∈ gw := List.mem_filter.mpr ⟨List.mem_of_getElem? (i := 921) (by decide +kernel), by decide +kernel⟩
theorem wd_317 : (Jvm.Cond.code ({ cls := "DoorGuard", name := "rule", desc := "(IIIII)I" } : Jvm.MethodName) prog_1_method_11_code (6 : Nat) (Option.some Jvm.ClassFile.FieldType.int)) ∈ gw := List.mem_filter.mpr ⟨List.mem_of_getElem? (i := 377) (by decide +kernel), by decide +kernel⟩
theorem wd_314 : (Jvm.Cond.methodLink "DoorGuardLaw" (56 : Nat) ({ cls := "DoorGuard", name := "rule", desc := "(IIIII)I" } : Jvm.MethodName)) ∈ gw := List.mem_filter.mpr ⟨List.mem_of_getElem? (i := 374) (by decide +kernel), by decide +kernel⟩
theorem wd_316 : (Jvm.Cond.selects "DoorGuard" ({ cls := "DoorGuard", name := "rule", desc := "(IIIII)I" } : Jvm.MethodName) ({ cls := "DoorGuard", name := "rule", desc := "(IIIII)I" } : Jvm.MethodName)) ∈ gw := List.mem_filter.mpr ⟨List.mem_of_getElem? (i := 376) (by decide +kernel), by decide +kernel⟩
theorem wd_315 : (Jvm.Cond.instanceMethod ({ cls := "DoorGuard", name := "rule", desc := "(IIIII)I" } : Jvm.MethodName)) ∈ gw := List.mem_filter.mpr ⟨List.mem_of_getElem? (i := 375) (by decide +kernel), by decide +kernel⟩
theorem wd_867 : (Jvm.Cond.code ({ cls := "DoorGuardModel", name := "rule", desc := "(IIIII)I" } : Jvm.MethodName) prog_10_method_39_code (6 : Nat) (Option.some Jvm.ClassFile.FieldType.int)) ∈ gw := List.mem_filter.mpr ⟨List.mem_of_getElem? (i := 927) (by decide +kernel), by decide +kernel⟩
theorem wd_864 : (Jvm.Cond.methodLink "DoorGuardLaw" (59 : Nat) ({ cls := "DoorGuardModel", name := "rule", desc := "(IIIII)I" } : Jvm.MethodName)) ∈ gw := List.mem_filter.mpr ⟨List.mem_of_getElem? (i := 924) (by decide +kernel), by decide +kernel⟩
theorem wd_866 : (Jvm.Cond.selects "DoorGuardModel" ({ cls := "DoorGuardModel", name := "rule", desc := "(IIIII)I" } : Jvm.MethodName) ({ cls := "DoorGuardModel", name := "rule", desc := "(IIIII)I" } : Jvm.MethodName)) ∈ gw := List.mem_filter.mpr ⟨List.mem_of_getElem? (i := 926) (by decide +kernel), by decide +kernel⟩
theorem wd_865 : (Jvm.Cond.instanceMethod ({ cls := "DoorGuardModel", name := "rule", desc := "(IIIII)I" } : Jvm.MethodName)) ∈ gw := List.mem_filter.mpr ⟨List.mem_of_getElem? (i := 925) (by decide +kernel), by decide +kernel⟩
theorem wd_353 : (Jvm.Cond.code ({ cls := "DoorGuard", name := "drop", desc := "(I)Z" } : Jvm.MethodName) prog_1_method_12_code (2 : Nat) (Option.some Jvm.ClassFile.FieldType.boolean)) ∈ gw := List.mem_filter.mpr ⟨List.mem_of_getElem? (i := 413) (by decide +kernel), by decide +kernel⟩
theorem wd_350 : (Jvm.Cond.methodLink "DoorGuardLaw" (60 : Nat) ({ cls := "DoorGuard", name := "drop", desc := "(I)Z" } : Jvm.MethodName)) ∈ gw := List.mem_filter.mpr ⟨List.mem_of_getElem? (i := 410) (by decide +kernel), by decide +kernel⟩
theorem wd_352 : (Jvm.Cond.selects "DoorGuard" ({ cls := "DoorGuard", name := "drop", desc := "(I)Z" } : Jvm.MethodName) ({ cls := "DoorGuard", name := "drop", desc := "(I)Z" } : Jvm.MethodName)) ∈ gw := List.mem_filter.mpr ⟨List.mem_of_getElem? (i := 412) (by decide +kernel), by decide +kernel⟩
theorem wd_351 : (Jvm.Cond.instanceMethod ({ cls := "DoorGuard", name := "drop", desc := "(I)Z" } : Jvm.MethodName)) ∈ gw := List.mem_filter.mpr ⟨List.mem_of_getElem? (i := 411) (by decide +kernel), by decide +kernel⟩
theorem wd_879 : (Jvm.Cond.code ({ cls := "DoorGuardModel", name := "drop", desc := "(I)Z" } : Jvm.MethodName) prog_10_method_40_code (2 : Nat) (Option.some Jvm.ClassFile.FieldType.boolean)) ∈ gw := List.mem_filter.mpr ⟨List.mem_of_getElem? (i := 939) (by decide +kernel), by decide +kernel⟩
theorem wd_876 : (Jvm.Cond.methodLink "DoorGuardLaw" (63 : Nat) ({ cls := "DoorGuardModel", name := "drop", desc := "(I)Z" } : Jvm.MethodName)) ∈ gw := List.mem_filter.mpr ⟨List.mem_of_getElem? (i := 936) (by decide +kernel), by decide +kernel⟩
theorem wd_878 : (Jvm.Cond.selects "DoorGuardModel" ({ cls := "DoorGuardModel", name := "drop", desc := "(I)Z" } : Jvm.MethodName) ({ cls := "DoorGuardModel", name := "drop", desc := "(I)Z" } : Jvm.MethodName)) ∈ gw := List.mem_filter.mpr ⟨List.mem_of_getElem? (i := 938) (by decide +kernel), by decide +kernel⟩
theorem wd_877 : (Jvm.Cond.instanceMethod ({ cls := "DoorGuardModel", name := "drop", desc := "(I)Z" } : Jvm.MethodName)) ∈ gw := List.mem_filter.mpr ⟨List.mem_of_getElem? (i := 937) (by decide +kernel), by decide +kernel⟩
theorem wd_373 : (Jvm.Cond.code ({ cls := "DoorGuard", name := "send", desc := "(III)I" } : Jvm.MethodName) prog_1_method_14_code (7 : Nat) (Option.some Jvm.ClassFile.FieldType.int)) ∈ gw := List.mem_filter.mpr ⟨List.mem_of_getElem? (i := 433) (by decide +kernel), by decide +kernel⟩
theorem wd_370 : (Jvm.Cond.methodLink "DoorGuardLaw" (64 : Nat) ({ cls := "DoorGuard", name := "send", desc := "(III)I" } : Jvm.MethodName)) ∈ gw := List.mem_filter.mpr ⟨List.mem_of_getElem? (i := 430) (by decide +kernel), by decide +kernel⟩
theorem wd_372 : (Jvm.Cond.selects "DoorGuard" ({ cls := "DoorGuard", name := "send", desc := "(III)I" } : Jvm.MethodName) ({ cls := "DoorGuard", name := "send", desc := "(III)I" } : Jvm.MethodName)) ∈ gw := List.mem_filter.mpr ⟨List.mem_of_getElem? (i := 432) (by decide +kernel), by decide +kernel⟩
theorem wd_371 : (Jvm.Cond.instanceMethod ({ cls := "DoorGuard", name := "send", desc := "(III)I" } : Jvm.MethodName)) ∈ gw := List.mem_filter.mpr ⟨List.mem_of_getElem? (i := 431) (by decide +kernel), by decide +kernel⟩
theorem wd_887 : (Jvm.Cond.code ({ cls := "DoorGuardModel", name := "send", desc := "(III)I" } : Jvm.MethodName) prog_10_method_42_code (6 : Nat) (Option.some Jvm.ClassFile.FieldType.int)) ∈ gw := List.mem_filter.mpr ⟨List.mem_of_getElem? (i := 947) (by decide +kernel), by decide +kernel⟩
theorem wd_884 : (Jvm.Cond.methodLink "DoorGuardLaw" (68 : Nat) ({ cls := "DoorGuardModel", name := "send", desc := "(III)I" } : Jvm.MethodName)) ∈ gw := List.mem_filter.mpr ⟨List.mem_of_getElem? (i := 944) (by decide +kernel), by decide +kernel⟩
theorem wd_886 : (Jvm.Cond.selects "DoorGuardModel" ({ cls := "DoorGuardModel", name := "send", desc := "(III)I" } : Jvm.MethodName) ({ cls := "DoorGuardModel", name := "send", desc := "(III)I" } : Jvm.MethodName)) ∈ gw := List.mem_filter.mpr ⟨List.mem_of_getElem? (i := 946) (by decide +kernel), by decide +kernel⟩
theorem wd_885 : (Jvm.Cond.instanceMethod ({ cls := "DoorGuardModel", name := "send", desc := "(III)I" } : Jvm.MethodName)) ∈ gw := List.mem_filter.mpr ⟨List.mem_of_getElem? (i := 945) (by decide +kernel), by decide +kernel⟩
theorem wd_563 : (Jvm.Cond.code ({ cls := "DoorGuard", name := "answer", desc := "(IZ)Z" } : Jvm.MethodName) prog_1_method_15_code (4 : Nat) (Option.some Jvm.ClassFile.FieldType.boolean)) ∈ gw := List.mem_filter.mpr ⟨List.mem_of_getElem? (i := 623) (by decide +kernel), by decide +kernel⟩
theorem wd_560 : (Jvm.Cond.methodLink "DoorGuardLaw" (69 : Nat) ({ cls := "DoorGuard", name := "answer", desc := "(IZ)Z" } : Jvm.MethodName)) ∈ gw := List.mem_filter.mpr ⟨List.mem_of_getElem? (i := 620) (by decide +kernel), by decide +kernel⟩
theorem wd_562 : (Jvm.Cond.selects "DoorGuard" ({ cls := "DoorGuard", name := "answer", desc := "(IZ)Z" } : Jvm.MethodName) ({ cls := "DoorGuard", name := "answer", desc := "(IZ)Z" } : Jvm.MethodName)) ∈ gw := List.mem_filter.mpr ⟨List.mem_of_getElem? (i := 622) (by decide +kernel), by decide +kernel⟩
theorem wd_561 : (Jvm.Cond.instanceMethod ({ cls := "DoorGuard", name := "answer", desc := "(IZ)Z" } : Jvm.MethodName)) ∈ gw := List.mem_filter.mpr ⟨List.mem_of_getElem? (i := 621) (by decide +kernel), by decide +kernel⟩
theorem wd_950 : (Jvm.Cond.code ({ cls := "DoorGuardModel", name := "answer", desc := "(IZ)Z" } : Jvm.MethodName) prog_10_method_44_code (3 : Nat) (Option.some Jvm.ClassFile.FieldType.boolean)) ∈ gw := List.mem_filter.mpr ⟨List.mem_of_getElem? (i := 1010) (by decide +kernel), by decide +kernel⟩
theorem wd_947 : (Jvm.Cond.methodLink "DoorGuardLaw" (73 : Nat) ({ cls := "DoorGuardModel", name := "answer", desc := "(IZ)Z" } : Jvm.MethodName)) ∈ gw := List.mem_filter.mpr ⟨List.mem_of_getElem? (i := 1007) (by decide +kernel), by decide +kernel⟩
theorem wd_949 : (Jvm.Cond.selects "DoorGuardModel" ({ cls := "DoorGuardModel", name := "answer", desc := "(IZ)Z" } : Jvm.MethodName) ({ cls := "DoorGuardModel", name := "answer", desc := "(IZ)Z" } : Jvm.MethodName)) ∈ gw := List.mem_filter.mpr ⟨List.mem_of_getElem? (i := 1009) (by decide +kernel), by decide +kernel⟩
theorem wd_948 : (Jvm.Cond.instanceMethod ({ cls := "DoorGuardModel", name := "answer", desc := "(IZ)Z" } : Jvm.MethodName)) ∈ gw := List.mem_filter.mpr ⟨List.mem_of_getElem? (i := 1008) (by decide +kernel), by decide +kernel⟩
theorem wd_571 : (Jvm.Cond.code ({ cls := "DoorGuard", name := "told", desc := "(II)I" } : Jvm.MethodName) prog_1_method_16_code (4 : Nat) (Option.some Jvm.ClassFile.FieldType.int)) ∈ gw := List.mem_filter.mpr ⟨List.mem_of_getElem? (i := 631) (by decide +kernel), by decide +kernel⟩
theorem wd_568 : (Jvm.Cond.methodLink "DoorGuardLaw" (74 : Nat) ({ cls := "DoorGuard", name := "told", desc := "(II)I" } : Jvm.MethodName)) ∈ gw := List.mem_filter.mpr ⟨List.mem_of_getElem? (i := 628) (by decide +kernel), by decide +kernel⟩
theorem wd_570 : (Jvm.Cond.selects "DoorGuard" ({ cls := "DoorGuard", name := "told", desc := "(II)I" } : Jvm.MethodName) ({ cls := "DoorGuard", name := "told", desc := "(II)I" } : Jvm.MethodName)) ∈ gw := List.mem_filter.mpr ⟨List.mem_of_getElem? (i := 630) (by decide +kernel), by decide +kernel⟩
theorem wd_569 : (Jvm.Cond.instanceMethod ({ cls := "DoorGuard", name := "told", desc := "(II)I" } : Jvm.MethodName)) ∈ gw := List.mem_filter.mpr ⟨List.mem_of_getElem? (i := 629) (by decide +kernel), by decide +kernel⟩
theorem wd_958 : (Jvm.Cond.code ({ cls := "DoorGuardModel", name := "told", desc := "(II)I" } : Jvm.MethodName) prog_10_method_45_code (3 : Nat) (Option.some Jvm.ClassFile.FieldType.int)) ∈ gw := List.mem_filter.mpr ⟨List.mem_of_getElem? (i := 1018) (by decide +kernel), by decide +kernel⟩
theorem wd_955 : (Jvm.Cond.methodLink "DoorGuardLaw" (78 : Nat) ({ cls := "DoorGuardModel", name := "told", desc := "(II)I" } : Jvm.MethodName)) ∈ gw := List.mem_filter.mpr ⟨List.mem_of_getElem? (i := 1015) (by decide +kernel), by decide +kernel⟩
theorem wd_957 : (Jvm.Cond.selects "DoorGuardModel" ({ cls := "DoorGuardModel", name := "told", desc := "(II)I" } : Jvm.MethodName) ({ cls := "DoorGuardModel", name := "told", desc := "(II)I" } : Jvm.MethodName)) ∈ gw := List.mem_filter.mpr ⟨List.mem_of_getElem? (i := 1017) (by decide +kernel), by decide +kernel⟩
theorem wd_956 : (Jvm.Cond.instanceMethod ({ cls := "DoorGuardModel", name := "told", desc := "(II)I" } : Jvm.MethodName)) ∈ gw := List.mem_filter.mpr ⟨List.mem_of_getElem? (i := 1016) (by decide +kernel), by decide +kernel⟩
theorem wd_575 : (Jvm.Cond.code ({ cls := "DoorGuard", name := "at", desc := "(IIZ)I" } : Jvm.MethodName) prog_1_method_17_code (6 : Nat) (Option.some Jvm.ClassFile.FieldType.int)) ∈ gw := List.mem_filter.mpr ⟨List.mem_of_getElem? (i := 635) (by decide +kernel), by decide +kernel⟩
theorem wd_572 : (Jvm.Cond.methodLink "DoorGuardLaw" (79 : Nat) ({ cls := "DoorGuard", name := "at", desc := "(IIZ)I" } : Jvm.MethodName)) ∈ gw := List.mem_filter.mpr ⟨List.mem_of_getElem? (i := 632) (by decide +kernel), by decide +kernel⟩
theorem wd_574 : (Jvm.Cond.selects "DoorGuard" ({ cls := "DoorGuard", name := "at", desc := "(IIZ)I" } : Jvm.MethodName) ({ cls := "DoorGuard", name := "at", desc := "(IIZ)I" } : Jvm.MethodName)) ∈ gw := List.mem_filter.mpr ⟨List.mem_of_getElem? (i := 634) (by decide +kernel), by decide +kernel⟩
theorem wd_573 : (Jvm.Cond.instanceMethod ({ cls := "DoorGuard", name := "at", desc := "(IIZ)I" } : Jvm.MethodName)) ∈ gw := List.mem_filter.mpr ⟨List.mem_of_getElem? (i := 633) (by decide +kernel), by decide +kernel⟩
theorem wd_962 : (Jvm.Cond.code ({ cls := "DoorGuardModel", name := "at", desc := "(IIZ)I" } : Jvm.MethodName) prog_10_method_46_code (6 : Nat) (Option.some Jvm.ClassFile.FieldType.int)) ∈ gw := List.mem_filter.mpr ⟨List.mem_of_getElem? (i := 1022) (by decide +kernel), by decide +kernel⟩
theorem wd_959 : (Jvm.Cond.methodLink "DoorGuardLaw" (83 : Nat) ({ cls := "DoorGuardModel", name := "at", desc := "(IIZ)I" } : Jvm.MethodName)) ∈ gw := List.mem_filter.mpr ⟨List.mem_of_getElem? (i := 1019) (by decide +kernel), by decide +kernel⟩
theorem wd_961 : (Jvm.Cond.selects "DoorGuardModel" ({ cls := "DoorGuardModel", name := "at", desc := "(IIZ)I" } : Jvm.MethodName) ({ cls := "DoorGuardModel", name := "at", desc := "(IIZ)I" } : Jvm.MethodName)) ∈ gw := List.mem_filter.mpr ⟨List.mem_of_getElem? (i := 1021) (by decide +kernel), by decide +kernel⟩
theorem wd_960 : (Jvm.Cond.instanceMethod ({ cls := "DoorGuardModel", name := "at", desc := "(IIZ)I" } : Jvm.MethodName)) ∈ gw := List.mem_filter.mpr ⟨List.mem_of_getElem? (i := 1020) (by decide +kernel), by decide +kernel⟩
theorem wd_579 : (Jvm.Cond.code ({ cls := "DoorGuard", name := "found", desc := "(III)I" } : Jvm.MethodName) prog_1_method_18_code (5 : Nat) (Option.some Jvm.ClassFile.FieldType.int)) ∈ gw := List.mem_filter.mpr ⟨List.mem_of_getElem? (i := 639) (by decide +kernel), by decide +kernel⟩
theorem wd_576 : (Jvm.Cond.methodLink "DoorGuardLaw" (84 : Nat) ({ cls := "DoorGuard", name := "found", desc := "(III)I" } : Jvm.MethodName)) ∈ gw := List.mem_filter.mpr ⟨List.mem_of_getElem? (i := 636) (by decide +kernel), by decide +kernel⟩
theorem wd_578 : (Jvm.Cond.selects "DoorGuard" ({ cls := "DoorGuard", name := "found", desc := "(III)I" } : Jvm.MethodName) ({ cls := "DoorGuard", name := "found", desc := "(III)I" } : Jvm.MethodName)) ∈ gw := List.mem_filter.mpr ⟨List.mem_of_getElem? (i := 638) (by decide +kernel), by decide +kernel⟩
theorem wd_577 : (Jvm.Cond.instanceMethod ({ cls := "DoorGuard", name := "found", desc := "(III)I" } : Jvm.MethodName)) ∈ gw := List.mem_filter.mpr ⟨List.mem_of_getElem? (i := 637) (by decide +kernel), by decide +kernel⟩
theorem wd_966 : (Jvm.Cond.code ({ cls := "DoorGuardModel", name := "found", desc := "(III)I" } : Jvm.MethodName) prog_10_method_47_code (5 : Nat) (Option.some Jvm.ClassFile.FieldType.int)) ∈ gw := List.mem_filter.mpr ⟨List.mem_of_getElem? (i := 1026) (by decide +kernel), by decide +kernel⟩
theorem wd_963 : (Jvm.Cond.methodLink "DoorGuardLaw" (87 : Nat) ({ cls := "DoorGuardModel", name := "found", desc := "(III)I" } : Jvm.MethodName)) ∈ gw := List.mem_filter.mpr ⟨List.mem_of_getElem? (i := 1023) (by decide +kernel), by decide +kernel⟩
theorem wd_965 : (Jvm.Cond.selects "DoorGuardModel" ({ cls := "DoorGuardModel", name := "found", desc := "(III)I" } : Jvm.MethodName) ({ cls := "DoorGuardModel", name := "found", desc := "(III)I" } : Jvm.MethodName)) ∈ gw := List.mem_filter.mpr ⟨List.mem_of_getElem? (i := 1025) (by decide +kernel), by decide +kernel⟩
theorem wd_964 : (Jvm.Cond.instanceMethod ({ cls := "DoorGuardModel", name := "found", desc := "(III)I" } : Jvm.MethodName)) ∈ gw := List.mem_filter.mpr ⟨List.mem_of_getElem? (i := 1024) (by decide +kernel), by decide +kernel⟩
theorem wd_600 : (Jvm.Cond.code ({ cls := "DoorGuard", name := "words", desc := "()I" } : Jvm.MethodName) prog_1_method_19_code (1 : Nat) (Option.some Jvm.ClassFile.FieldType.int)) ∈ gw := List.mem_filter.mpr ⟨List.mem_of_getElem? (i := 660) (by decide +kernel), by decide +kernel⟩
theorem wd_597 : (Jvm.Cond.methodLink "DoorGuardLaw" (88 : Nat) ({ cls := "DoorGuard", name := "words", desc := "()I" } : Jvm.MethodName)) ∈ gw := List.mem_filter.mpr ⟨List.mem_of_getElem? (i := 657) (by decide +kernel), by decide +kernel⟩
theorem wd_599 : (Jvm.Cond.selects "DoorGuard" ({ cls := "DoorGuard", name := "words", desc := "()I" } : Jvm.MethodName) ({ cls := "DoorGuard", name := "words", desc := "()I" } : Jvm.MethodName)) ∈ gw := List.mem_filter.mpr ⟨List.mem_of_getElem? (i := 659) (by decide +kernel), by decide +kernel⟩
theorem wd_598 : (Jvm.Cond.instanceMethod ({ cls := "DoorGuard", name := "words", desc := "()I" } : Jvm.MethodName)) ∈ gw := List.mem_filter.mpr ⟨List.mem_of_getElem? (i := 658) (by decide +kernel), by decide +kernel⟩
theorem wd_970 : (Jvm.Cond.code ({ cls := "DoorGuardModel", name := "words", desc := "()I" } : Jvm.MethodName) prog_10_method_48_code (1 : Nat) (Option.some Jvm.ClassFile.FieldType.int)) ∈ gw := List.mem_filter.mpr ⟨List.mem_of_getElem? (i := 1030) (by decide +kernel), by decide +kernel⟩
theorem wd_967 : (Jvm.Cond.methodLink "DoorGuardLaw" (92 : Nat) ({ cls := "DoorGuardModel", name := "words", desc := "()I" } : Jvm.MethodName)) ∈ gw := List.mem_filter.mpr ⟨List.mem_of_getElem? (i := 1027) (by decide +kernel), by decide +kernel⟩
theorem wd_969 : (Jvm.Cond.selects "DoorGuardModel" ({ cls := "DoorGuardModel", name := "words", desc := "()I" } : Jvm.MethodName) ({ cls := "DoorGuardModel", name := "words", desc := "()I" } : Jvm.MethodName)) ∈ gw := List.mem_filter.mpr ⟨List.mem_of_getElem? (i := 1029) (by decide +kernel), by decide +kernel⟩
theorem wd_968 : (Jvm.Cond.instanceMethod ({ cls := "DoorGuardModel", name := "words", desc := "()I" } : Jvm.MethodName)) ∈ gw := List.mem_filter.mpr ⟨List.mem_of_getElem? (i := 1028) (by decide +kernel), by decide +kernel⟩
theorem wd_604 : (Jvm.Cond.code ({ cls := "DoorGuard", name := "numbers", desc := "()I" } : Jvm.MethodName) prog_1_method_20_code (1 : Nat) (Option.some Jvm.ClassFile.FieldType.int)) ∈ gw := List.mem_filter.mpr ⟨List.mem_of_getElem? (i := 664) (by decide +kernel), by decide +kernel⟩
theorem wd_601 : (Jvm.Cond.methodLink "DoorGuardLaw" (93 : Nat) ({ cls := "DoorGuard", name := "numbers", desc := "()I" } : Jvm.MethodName)) ∈ gw := List.mem_filter.mpr ⟨List.mem_of_getElem? (i := 661) (by decide +kernel), by decide +kernel⟩
theorem wd_603 : (Jvm.Cond.selects "DoorGuard" ({ cls := "DoorGuard", name := "numbers", desc := "()I" } : Jvm.MethodName) ({ cls := "DoorGuard", name := "numbers", desc := "()I" } : Jvm.MethodName)) ∈ gw := List.mem_filter.mpr ⟨List.mem_of_getElem? (i := 663) (by decide +kernel), by decide +kernel⟩
theorem wd_602 : (Jvm.Cond.instanceMethod ({ cls := "DoorGuard", name := "numbers", desc := "()I" } : Jvm.MethodName)) ∈ gw := List.mem_filter.mpr ⟨List.mem_of_getElem? (i := 662) (by decide +kernel), by decide +kernel⟩
theorem wd_974 : (Jvm.Cond.code ({ cls := "DoorGuardModel", name := "numbers", desc := "()I" } : Jvm.MethodName) prog_10_method_49_code (1 : Nat) (Option.some Jvm.ClassFile.FieldType.int)) ∈ gw := List.mem_filter.mpr ⟨List.mem_of_getElem? (i := 1034) (by decide +kernel), by decide +kernel⟩
theorem wd_971 : (Jvm.Cond.methodLink "DoorGuardLaw" (96 : Nat) ({ cls := "DoorGuardModel", name := "numbers", desc := "()I" } : Jvm.MethodName)) ∈ gw := List.mem_filter.mpr ⟨List.mem_of_getElem? (i := 1031) (by decide +kernel), by decide +kernel⟩
theorem wd_973 : (Jvm.Cond.selects "DoorGuardModel" ({ cls := "DoorGuardModel", name := "numbers", desc := "()I" } : Jvm.MethodName) ({ cls := "DoorGuardModel", name := "numbers", desc := "()I" } : Jvm.MethodName)) ∈ gw := List.mem_filter.mpr ⟨List.mem_of_getElem? (i := 1033) (by decide +kernel), by decide +kernel⟩
theorem wd_972 : (Jvm.Cond.instanceMethod ({ cls := "DoorGuardModel", name := "numbers", desc := "()I" } : Jvm.MethodName)) ∈ gw := List.mem_filter.mpr ⟨List.mem_of_getElem? (i := 1032) (by decide +kernel), by decide +kernel⟩
theorem wd_608 : (Jvm.Cond.code ({ cls := "DoorGuard", name := "parts", desc := "(II)I" } : Jvm.MethodName) prog_1_method_21_code (3 : Nat) (Option.some Jvm.ClassFile.FieldType.int)) ∈ gw := List.mem_filter.mpr ⟨List.mem_of_getElem? (i := 668) (by decide +kernel), by decide +kernel⟩
theorem wd_605 : (Jvm.Cond.methodLink "DoorGuardLaw" (97 : Nat) ({ cls := "DoorGuard", name := "parts", desc := "(II)I" } : Jvm.MethodName)) ∈ gw := List.mem_filter.mpr ⟨List.mem_of_getElem? (i := 665) (by decide +kernel), by decide +kernel⟩
theorem wd_607 : (Jvm.Cond.selects "DoorGuard" ({ cls := "DoorGuard", name := "parts", desc := "(II)I" } : Jvm.MethodName) ({ cls := "DoorGuard", name := "parts", desc := "(II)I" } : Jvm.MethodName)) ∈ gw := List.mem_filter.mpr ⟨List.mem_of_getElem? (i := 667) (by decide +kernel), by decide +kernel⟩
theorem wd_606 : (Jvm.Cond.instanceMethod ({ cls := "DoorGuard", name := "parts", desc := "(II)I" } : Jvm.MethodName)) ∈ gw := List.mem_filter.mpr ⟨List.mem_of_getElem? (i := 666) (by decide +kernel), by decide +kernel⟩
theorem wd_978 : (Jvm.Cond.code ({ cls := "DoorGuardModel", name := "parts", desc := "(II)I" } : Jvm.MethodName) prog_10_method_50_code (3 : Nat) (Option.some Jvm.ClassFile.FieldType.int)) ∈ gw := List.mem_filter.mpr ⟨List.mem_of_getElem? (i := 1038) (by decide +kernel), by decide +kernel⟩
theorem wd_975 : (Jvm.Cond.methodLink "DoorGuardLaw" (100 : Nat) ({ cls := "DoorGuardModel", name := "parts", desc := "(II)I" } : Jvm.MethodName)) ∈ gw := List.mem_filter.mpr ⟨List.mem_of_getElem? (i := 1035) (by decide +kernel), by decide +kernel⟩
theorem wd_977 : (Jvm.Cond.selects "DoorGuardModel" ({ cls := "DoorGuardModel", name := "parts", desc := "(II)I" } : Jvm.MethodName) ({ cls := "DoorGuardModel", name := "parts", desc := "(II)I" } : Jvm.MethodName)) ∈ gw := List.mem_filter.mpr ⟨List.mem_of_getElem? (i := 1037) (by decide +kernel), by decide +kernel⟩
theorem wd_976 : (Jvm.Cond.instanceMethod ({ cls := "DoorGuardModel", name := "parts", desc := "(II)I" } : Jvm.MethodName)) ∈ gw := List.mem_filter.mpr ⟨List.mem_of_getElem? (i := 1036) (by decide +kernel), by decide +kernel⟩
theorem wd_612 : (Jvm.Cond.code ({ cls := "DoorGuard", name := "trial", desc := "(IIIII)I" } : Jvm.MethodName) prog_1_method_22_code (8 : Nat) (Option.some Jvm.ClassFile.FieldType.int)) ∈ gw := List.mem_filter.mpr ⟨List.mem_of_getElem? (i := 672) (by decide +kernel), by decide +kernel⟩
theorem wd_609 : (Jvm.Cond.methodLink "DoorGuardLaw" (101 : Nat) ({ cls := "DoorGuard", name := "trial", desc := "(IIIII)I" } : Jvm.MethodName)) ∈ gw := List.mem_filter.mpr ⟨List.mem_of_getElem? (i := 669) (by decide +kernel), by decide +kernel⟩
theorem wd_611 : (Jvm.Cond.selects "DoorGuard" ({ cls := "DoorGuard", name := "trial", desc := "(IIIII)I" } : Jvm.MethodName) ({ cls := "DoorGuard", name := "trial", desc := "(IIIII)I" } : Jvm.MethodName)) ∈ gw := List.mem_filter.mpr ⟨List.mem_of_getElem? (i := 671) (by decide +kernel), by decide +kernel⟩
theorem wd_610 : (Jvm.Cond.instanceMethod ({ cls := "DoorGuard", name := "trial", desc := "(IIIII)I" } : Jvm.MethodName)) ∈ gw := List.mem_filter.mpr ⟨List.mem_of_getElem? (i := 670) (by decide +kernel), by decide +kernel⟩
theorem wd_982 : (Jvm.Cond.code ({ cls := "DoorGuardModel", name := "trial", desc := "(IIIII)I" } : Jvm.MethodName) prog_10_method_53_code (7 : Nat) (Option.some Jvm.ClassFile.FieldType.int)) ∈ gw := List.mem_filter.mpr ⟨List.mem_of_getElem? (i := 1042) (by decide +kernel), by decide +kernel⟩
theorem wd_979 : (Jvm.Cond.methodLink "DoorGuardLaw" (104 : Nat) ({ cls := "DoorGuardModel", name := "trial", desc := "(IIIII)I" } : Jvm.MethodName)) ∈ gw := List.mem_filter.mpr ⟨List.mem_of_getElem? (i := 1039) (by decide +kernel), by decide +kernel⟩
theorem wd_981 : (Jvm.Cond.selects "DoorGuardModel" ({ cls := "DoorGuardModel", name := "trial", desc := "(IIIII)I" } : Jvm.MethodName) ({ cls := "DoorGuardModel", name := "trial", desc := "(IIIII)I" } : Jvm.MethodName)) ∈ gw := List.mem_filter.mpr ⟨List.mem_of_getElem? (i := 1041) (by decide +kernel), by decide +kernel⟩
theorem wd_980 : (Jvm.Cond.instanceMethod ({ cls := "DoorGuardModel", name := "trial", desc := "(IIIII)I" } : Jvm.MethodName)) ∈ gw := List.mem_filter.mpr ⟨List.mem_of_getElem? (i := 1040) (by decide +kernel), by decide +kernel⟩
theorem wd_629 : (Jvm.Cond.code ({ cls := "DoorGuard", name := "tried", desc := "(IIIIII)I" } : Jvm.MethodName) prog_1_method_23_code (9 : Nat) (Option.some Jvm.ClassFile.FieldType.int)) ∈ gw := List.mem_filter.mpr ⟨List.mem_of_getElem? (i := 689) (by decide +kernel), by decide +kernel⟩
theorem wd_626 : (Jvm.Cond.methodLink "DoorGuardLaw" (105 : Nat) ({ cls := "DoorGuard", name := "tried", desc := "(IIIIII)I" } : Jvm.MethodName)) ∈ gw := List.mem_filter.mpr ⟨List.mem_of_getElem? (i := 686) (by decide +kernel), by decide +kernel⟩
theorem wd_628 : (Jvm.Cond.selects "DoorGuard" ({ cls := "DoorGuard", name := "tried", desc := "(IIIIII)I" } : Jvm.MethodName) ({ cls := "DoorGuard", name := "tried", desc := "(IIIIII)I" } : Jvm.MethodName)) ∈ gw := List.mem_filter.mpr ⟨List.mem_of_getElem? (i := 688) (by decide +kernel), by decide +kernel⟩
theorem wd_627 : (Jvm.Cond.instanceMethod ({ cls := "DoorGuard", name := "tried", desc := "(IIIIII)I" } : Jvm.MethodName)) ∈ gw := List.mem_filter.mpr ⟨List.mem_of_getElem? (i := 687) (by decide +kernel), by decide +kernel⟩
theorem wd_994 : (Jvm.Cond.code ({ cls := "DoorGuardModel", name := "tried", desc := "(IIIIII)I" } : Jvm.MethodName) prog_10_method_54_code (8 : Nat) (Option.some Jvm.ClassFile.FieldType.int)) ∈ gw := List.mem_filter.mpr ⟨List.mem_of_getElem? (i := 1054) (by decide +kernel), by decide +kernel⟩
theorem wd_991 : (Jvm.Cond.methodLink "DoorGuardLaw" (109 : Nat) ({ cls := "DoorGuardModel", name := "tried", desc := "(IIIIII)I" } : Jvm.MethodName)) ∈ gw := List.mem_filter.mpr ⟨List.mem_of_getElem? (i := 1051) (by decide +kernel), by decide +kernel⟩
theorem wd_993 : (Jvm.Cond.selects "DoorGuardModel" ({ cls := "DoorGuardModel", name := "tried", desc := "(IIIIII)I" } : Jvm.MethodName) ({ cls := "DoorGuardModel", name := "tried", desc := "(IIIIII)I" } : Jvm.MethodName)) ∈ gw := List.mem_filter.mpr ⟨List.mem_of_getElem? (i := 1053) (by decide +kernel), by decide +kernel⟩
theorem wd_992 : (Jvm.Cond.instanceMethod ({ cls := "DoorGuardModel", name := "tried", desc := "(IIIIII)I" } : Jvm.MethodName)) ∈ gw := List.mem_filter.mpr ⟨List.mem_of_getElem? (i := 1052) (by decide +kernel), by decide +kernel⟩
theorem wd_361 : (Jvm.Cond.code ({ cls := "DoorGuard", name := "quarrel", desc := "(II)I" } : Jvm.MethodName) prog_1_method_13_code (7 : Nat) (Option.some Jvm.ClassFile.FieldType.int)) ∈ gw := List.mem_filter.mpr ⟨List.mem_of_getElem? (i := 421) (by decide +kernel), by decide +kernel⟩
theorem wd_358 : (Jvm.Cond.methodLink "DoorGuardLaw" (110 : Nat) ({ cls := "DoorGuard", name := "quarrel", desc := "(II)I" } : Jvm.MethodName)) ∈ gw := List.mem_filter.mpr ⟨List.mem_of_getElem? (i := 418) (by decide +kernel), by decide +kernel⟩
theorem wd_360 : (Jvm.Cond.selects "DoorGuard" ({ cls := "DoorGuard", name := "quarrel", desc := "(II)I" } : Jvm.MethodName) ({ cls := "DoorGuard", name := "quarrel", desc := "(II)I" } : Jvm.MethodName)) ∈ gw := List.mem_filter.mpr ⟨List.mem_of_getElem? (i := 420) (by decide +kernel), by decide +kernel⟩
theorem wd_359 : (Jvm.Cond.instanceMethod ({ cls := "DoorGuard", name := "quarrel", desc := "(II)I" } : Jvm.MethodName)) ∈ gw := List.mem_filter.mpr ⟨List.mem_of_getElem? (i := 419) (by decide +kernel), by decide +kernel⟩
theorem wd_999 : (Jvm.Cond.code ({ cls := "DoorGuardModel", name := "quarrel", desc := "(II)I" } : Jvm.MethodName) prog_10_method_55_code (5 : Nat) (Option.some Jvm.ClassFile.FieldType.int)) ∈ gw := List.mem_filter.mpr ⟨List.mem_of_getElem? (i := 1059) (by decide +kernel), by decide +kernel⟩
theorem wd_996 : (Jvm.Cond.methodLink "DoorGuardLaw" (113 : Nat) ({ cls := "DoorGuardModel", name := "quarrel", desc := "(II)I" } : Jvm.MethodName)) ∈ gw := List.mem_filter.mpr ⟨List.mem_of_getElem? (i := 1056) (by decide +kernel), by decide +kernel⟩
theorem wd_998 : (Jvm.Cond.selects "DoorGuardModel" ({ cls := "DoorGuardModel", name := "quarrel", desc := "(II)I" } : Jvm.MethodName) ({ cls := "DoorGuardModel", name := "quarrel", desc := "(II)I" } : Jvm.MethodName)) ∈ gw := List.mem_filter.mpr ⟨List.mem_of_getElem? (i := 1058) (by decide +kernel), by decide +kernel⟩
theorem wd_997 : (Jvm.Cond.instanceMethod ({ cls := "DoorGuardModel", name := "quarrel", desc := "(II)I" } : Jvm.MethodName)) ∈ gw := List.mem_filter.mpr ⟨List.mem_of_getElem? (i := 1057) (by decide +kernel), by decide +kernel⟩
theorem wd_633 : (Jvm.Cond.code ({ cls := "DoorGuard", name := "state", desc := "(I)I" } : Jvm.MethodName) prog_1_method_24_code (2 : Nat) (Option.some Jvm.ClassFile.FieldType.int)) ∈ gw := List.mem_filter.mpr ⟨List.mem_of_getElem? (i := 693) (by decide +kernel), by decide +kernel⟩
theorem wd_630 : (Jvm.Cond.methodLink "DoorGuardLaw" (114 : Nat) ({ cls := "DoorGuard", name := "state", desc := "(I)I" } : Jvm.MethodName)) ∈ gw := List.mem_filter.mpr ⟨List.mem_of_getElem? (i := 690) (by decide +kernel), by decide +kernel⟩
theorem wd_632 : (Jvm.Cond.selects "DoorGuard" ({ cls := "DoorGuard", name := "state", desc := "(I)I" } : Jvm.MethodName) ({ cls := "DoorGuard", name := "state", desc := "(I)I" } : Jvm.MethodName)) ∈ gw := List.mem_filter.mpr ⟨List.mem_of_getElem? (i := 692) (by decide +kernel), by decide +kernel⟩
theorem wd_631 : (Jvm.Cond.instanceMethod ({ cls := "DoorGuard", name := "state", desc := "(I)I" } : Jvm.MethodName)) ∈ gw := List.mem_filter.mpr ⟨List.mem_of_getElem? (i := 691) (by decide +kernel), by decide +kernel⟩
theorem wd_1007 : (Jvm.Cond.code ({ cls := "DoorGuardModel", name := "state", desc := "(I)I" } : Jvm.MethodName) prog_10_method_57_code (6 : Nat) (Option.some Jvm.ClassFile.FieldType.int)) ∈ gw := List.mem_filter.mpr ⟨List.mem_of_getElem? (i := 1067) (by decide +kernel), by decide +kernel⟩
theorem wd_1004 : (Jvm.Cond.methodLink "DoorGuardLaw" (117 : Nat) ({ cls := "DoorGuardModel", name := "state", desc := "(I)I" } : Jvm.MethodName)) ∈ gw := List.mem_filter.mpr ⟨List.mem_of_getElem? (i := 1064) (by decide +kernel), by decide +kernel⟩
theorem wd_1006 : (Jvm.Cond.selects "DoorGuardModel" ({ cls := "DoorGuardModel", name := "state", desc := "(I)I" } : Jvm.MethodName) ({ cls := "DoorGuardModel", name := "state", desc := "(I)I" } : Jvm.MethodName)) ∈ gw := List.mem_filter.mpr ⟨List.mem_of_getElem? (i := 1066) (by decide +kernel), by decide +kernel⟩
theorem wd_1005 : (Jvm.Cond.instanceMethod ({ cls := "DoorGuardModel", name := "state", desc := "(I)I" } : Jvm.MethodName)) ∈ gw := List.mem_filter.mpr ⟨List.mem_of_getElem? (i := 1065) (by decide +kernel), by decide +kernel⟩
set_option maxRecDepth 20000 in
theorem nw_9_7 : NW "DoorGuardLaw" 7 7 [.int 0, .null, .int 0, .null, .null, .null, .null, .null, .int 0, .null, .null, .null, .null] := ⟨RX7, TX7, 13, tyX7, rfl, inX7, tyX7_ok, wd_13, wd_14, wd_1, rfl, by decide +kernel, by intro v hv b; simp only [List.mem_cons, List.not_mem_nil, or_false] at hv; rcases hv with rfl | rfl | rfl | rfl | rfl | rfl | rfl | rfl | rfl | rfl | rfl | rfl | rfl <;> rfl⟩
set_option maxRecDepth 20000 in
theorem nw_9_10 : NW "DoorGuardLaw" 10 8 [.int 0, .int 0, .int 0, .null, .int 0, .null, .null, .null, .int 0, .null, .null, .int 0, .null, .null, .int 0, .null, .null, .null, .null, .null, .null, .null, .null, .null, .null, .null, .null, .null, .null, .null, .null, .null, .null, .null, .null, .null, .null, .null, .null, .null, .null, .null, .int 0, .null, .null, .null, .null] := ⟨RX8, TX8, 47, tyX8, rfl, inX8, tyX8_ok, wd_642, wd_643, wd_8, rfl, by decide +kernel, by intro v hv b; simp only [List.mem_cons, List.not_mem_nil, or_false] at hv; rcases hv with rfl | rfl | rfl | rfl | rfl | rfl | rfl | rfl | rfl | rfl | rfl | rfl | rfl | rfl | rfl | rfl | rfl | rfl | rfl | rfl | rfl | rfl | rfl | rfl | rfl | rfl | rfl | rfl | rfl | rfl | rfl | rfl | rfl | rfl | rfl | rfl | rfl | rfl | rfl | rfl | rfl | rfl | rfl | rfl | rfl | rfl | rfl <;> rfl⟩
abbrev mL_law : MI := (yL_law, cL_law, 4, (some .boolean), 14, 566)
theorem ct_L_law_9 : CI mL_law m7_init 9 0 := ⟨⟨wd_17, wd_1, ⟨by decide, by decide, by decide +kernel⟩, by decide, by decide⟩, Or.inl wd_15, wd_16, rfl, rfl⟩
theorem ct_L_law_12 : CI mL_law m8_init 12 0 := ⟨⟨wd_646, wd_8, ⟨by decide, by decide, by decide +kernel⟩, by decide, by decide⟩, Or.inl wd_644, wd_645, rfl, rfl⟩
theorem ct_L_law_13 : CV mL_law m7_days 13 7 1 := ⟨⟨wd_195, wd_1, ⟨by decide, by decide, by decide +kernel⟩, by decide, by decide⟩, Or.inl wd_192, wd_193, wd_194, _, _, rfl⟩
theorem ct_L_law_17 : CV mL_law m8_days 17 8 1 := ⟨⟨wd_793, wd_8, ⟨by decide, by decide, by decide +kernel⟩, by decide, by decide⟩, Or.inl wd_790, wd_791, wd_792, _, _, rfl⟩
theorem ct_L_law_18 : CV mL_law m7_feed 18 7 5 := ⟨⟨wd_202, wd_1, ⟨by decide, by decide, by decide +kernel⟩, by decide, by decide⟩, Or.inl wd_199, wd_200, wd_201, _, _, rfl⟩
theorem ct_L_law_22 : CV mL_law m8_feed 22 8 5 := ⟨⟨wd_800, wd_8, ⟨by decide, by decide, by decide +kernel⟩, by decide, by decide⟩, Or.inl wd_797, wd_798, wd_799, _, _, rfl⟩
theorem ct_L_law_23 : CV mL_law m7_end 23 7 1 := ⟨⟨wd_213, wd_1, ⟨by decide, by decide, by decide +kernel⟩, by decide, by decide⟩, Or.inl wd_210, wd_211, wd_212, _, _, rfl⟩
theorem ct_L_law_27 : CV mL_law m8_end 27 8 1 := ⟨⟨wd_807, wd_8, ⟨by decide, by decide, by decide +kernel⟩, by decide, by decide⟩, Or.inl wd_804, wd_805, wd_806, _, _, rfl⟩
theorem ct_L_law_28 : CV mL_law m7_keep 28 7 1 := ⟨⟨wd_217, wd_1, ⟨by decide, by decide, by decide +kernel⟩, by decide, by decide⟩, Or.inl wd_214, wd_215, wd_216, _, _, rfl⟩
theorem ct_L_law_31 : CV mL_law m8_keep 31 8 1 := ⟨⟨wd_811, wd_8, ⟨by decide, by decide, by decide +kernel⟩, by decide, by decide⟩, Or.inl wd_808, wd_809, wd_810, _, _, rfl⟩
theorem ct_L_law_32 : CV mL_law m7_mark 32 7 1 := ⟨⟨wd_277, wd_1, ⟨by decide, by decide, by decide +kernel⟩, by decide, by decide⟩, Or.inl wd_274, wd_275, wd_276, _, _, rfl⟩
theorem ct_L_law_35 : CV mL_law m8_mark 35 8 1 := ⟨⟨wd_847, wd_8, ⟨by decide, by decide, by decide +kernel⟩, by decide, by decide⟩, Or.inl wd_844, wd_845, wd_846, _, _, rfl⟩
theorem ct_L_law_36 : CV mL_law m7_near 36 7 3 := ⟨⟨wd_292, wd_1, ⟨by decide, by decide, by decide +kernel⟩, by decide, by decide⟩, Or.inl wd_289, wd_290, wd_291, _, _, rfl⟩
theorem ct_L_law_40 : CV mL_law m8_near 40 8 3 := ⟨⟨wd_851, wd_8, ⟨by decide, by decide, by decide +kernel⟩, by decide, by decide⟩, Or.inl wd_848, wd_849, wd_850, _, _, rfl⟩
theorem ct_L_law_41 : CV mL_law m7_count 41 7 2 := ⟨⟨wd_299, wd_1, ⟨by decide, by decide, by decide +kernel⟩, by decide, by decide⟩, Or.inl wd_296, wd_297, wd_298, _, _, rfl⟩
theorem ct_L_law_45 : CV mL_law m8_count 45 8 2 := ⟨⟨wd_855, wd_8, ⟨by decide, by decide, by decide +kernel⟩, by decide, by decide⟩, Or.inl wd_852, wd_853, wd_854, _, _, rfl⟩
theorem ct_L_law_46 : CV mL_law m7_pieces 46 7 5 := ⟨⟨wd_303, wd_1, ⟨by decide, by decide, by decide +kernel⟩, by decide, by decide⟩, Or.inl wd_300, wd_301, wd_302, _, _, rfl⟩
theorem ct_L_law_50 : CV mL_law m8_pieces 50 8 5 := ⟨⟨wd_859, wd_8, ⟨by decide, by decide, by decide +kernel⟩, by decide, by decide⟩, Or.inl wd_856, wd_857, wd_858, _, _, rfl⟩
theorem ct_L_law_51 : CV mL_law m7_allow 51 7 4 := ⟨⟨wd_307, wd_1, ⟨by decide, by decide, by decide +kernel⟩, by decide, by decide⟩, Or.inl wd_304, wd_305, wd_306, _, _, rfl⟩
theorem ct_L_law_55 : CV mL_law m8_allow 55 8 4 := ⟨⟨wd_863, wd_8, ⟨by decide, by decide, by decide +kernel⟩, by decide, by decide⟩, Or.inl wd_860, wd_861, wd_862, _, _, rfl⟩
theorem ct_L_law_56 : CV mL_law m7_rule 56 7 5 := ⟨⟨wd_317, wd_1, ⟨by decide, by decide, by decide +kernel⟩, by decide, by decide⟩, Or.inl wd_314, wd_315, wd_316, _, _, rfl⟩
theorem ct_L_law_59 : CV mL_law m8_rule 59 8 5 := ⟨⟨wd_867, wd_8, ⟨by decide, by decide, by decide +kernel⟩, by decide, by decide⟩, Or.inl wd_864, wd_865, wd_866, _, _, rfl⟩
theorem ct_L_law_60 : CV mL_law m7_drop 60 7 1 := ⟨⟨wd_353, wd_1, ⟨by decide, by decide, by decide +kernel⟩, by decide, by decide⟩, Or.inl wd_350, wd_351, wd_352, _, _, rfl⟩
theorem ct_L_law_63 : CV mL_law m8_drop 63 8 1 := ⟨⟨wd_879, wd_8, ⟨by decide, by decide, by decide +kernel⟩, by decide, by decide⟩, Or.inl wd_876, wd_877, wd_878, _, _, rfl⟩
theorem ct_L_law_64 : CV mL_law m7_send 64 7 3 := ⟨⟨wd_373, wd_1, ⟨by decide, by decide, by decide +kernel⟩, by decide, by decide⟩, Or.inl wd_370, wd_371, wd_372, _, _, rfl⟩
theorem ct_L_law_68 : CV mL_law m8_send 68 8 3 := ⟨⟨wd_887, wd_8, ⟨by decide, by decide, by decide +kernel⟩, by decide, by decide⟩, Or.inl wd_884, wd_885, wd_886, _, _, rfl⟩
theorem ct_L_law_69 : CV mL_law m7_answer 69 7 2 := ⟨⟨wd_563, wd_1, ⟨by decide, by decide, by decide +kernel⟩, by decide, by decide⟩, Or.inl wd_560, wd_561, wd_562, _, _, rfl⟩
theorem ct_L_law_73 : CV mL_law m8_answer 73 8 2 := ⟨⟨wd_950, wd_8, ⟨by decide, by decide, by decide +kernel⟩, by decide, by decide⟩, Or.inl wd_947, wd_948, wd_949, _, _, rfl⟩
theorem ct_L_law_74 : CV mL_law m7_told 74 7 2 := ⟨⟨wd_571, wd_1, ⟨by decide, by decide, by decide +kernel⟩, by decide, by decide⟩, Or.inl wd_568, wd_569, wd_570, _, _, rfl⟩
theorem ct_L_law_78 : CV mL_law m8_told 78 8 2 := ⟨⟨wd_958, wd_8, ⟨by decide, by decide, by decide +kernel⟩, by decide, by decide⟩, Or.inl wd_955, wd_956, wd_957, _, _, rfl⟩
theorem ct_L_law_79 : CV mL_law m7_at 79 7 3 := ⟨⟨wd_575, wd_1, ⟨by decide, by decide, by decide +kernel⟩, by decide, by decide⟩, Or.inl wd_572, wd_573, wd_574, _, _, rfl⟩
theorem ct_L_law_83 : CV mL_law m8_at 83 8 3 := ⟨⟨wd_962, wd_8, ⟨by decide, by decide, by decide +kernel⟩, by decide, by decide⟩, Or.inl wd_959, wd_960, wd_961, _, _, rfl⟩
theorem ct_L_law_84 : CV mL_law m7_found 84 7 3 := ⟨⟨wd_579, wd_1, ⟨by decide, by decide, by decide +kernel⟩, by decide, by decide⟩, Or.inl wd_576, wd_577, wd_578, _, _, rfl⟩
theorem ct_L_law_87 : CV mL_law m8_found_ 87 8 3 := ⟨⟨wd_966, wd_8, ⟨by decide, by decide, by decide +kernel⟩, by decide, by decide⟩, Or.inl wd_963, wd_964, wd_965, _, _, rfl⟩
theorem ct_L_law_88 : CV mL_law m7_words 88 7 0 := ⟨⟨wd_600, wd_1, ⟨by decide, by decide, by decide +kernel⟩, by decide, by decide⟩, Or.inl wd_597, wd_598, wd_599, _, _, rfl⟩
theorem ct_L_law_92 : CV mL_law m8_words 92 8 0 := ⟨⟨wd_970, wd_8, ⟨by decide, by decide, by decide +kernel⟩, by decide, by decide⟩, Or.inl wd_967, wd_968, wd_969, _, _, rfl⟩
theorem ct_L_law_93 : CV mL_law m7_numbers 93 7 0 := ⟨⟨wd_604, wd_1, ⟨by decide, by decide, by decide +kernel⟩, by decide, by decide⟩, Or.inl wd_601, wd_602, wd_603, _, _, rfl⟩
theorem ct_L_law_96 : CV mL_law m8_numbers 96 8 0 := ⟨⟨wd_974, wd_8, ⟨by decide, by decide, by decide +kernel⟩, by decide, by decide⟩, Or.inl wd_971, wd_972, wd_973, _, _, rfl⟩
theorem ct_L_law_97 : CV mL_law m7_parts 97 7 2 := ⟨⟨wd_608, wd_1, ⟨by decide, by decide, by decide +kernel⟩, by decide, by decide⟩, Or.inl wd_605, wd_606, wd_607, _, _, rfl⟩
theorem ct_L_law_100 : CV mL_law m8_parts 100 8 2 := ⟨⟨wd_978, wd_8, ⟨by decide, by decide, by decide +kernel⟩, by decide, by decide⟩, Or.inl wd_975, wd_976, wd_977, _, _, rfl⟩
theorem ct_L_law_101 : CV mL_law m7_trial 101 7 5 := ⟨⟨wd_612, wd_1, ⟨by decide, by decide, by decide +kernel⟩, by decide, by decide⟩, Or.inl wd_609, wd_610, wd_611, _, _, rfl⟩
theorem ct_L_law_104 : CV mL_law m8_trial 104 8 5 := ⟨⟨wd_982, wd_8, ⟨by decide, by decide, by decide +kernel⟩, by decide, by decide⟩, Or.inl wd_979, wd_980, wd_981, _, _, rfl⟩
theorem ct_L_law_105 : CV mL_law m7_tried 105 7 6 := ⟨⟨wd_629, wd_1, ⟨by decide, by decide, by decide +kernel⟩, by decide, by decide⟩, Or.inl wd_626, wd_627, wd_628, _, _, rfl⟩
theorem ct_L_law_109 : CV mL_law m8_tried 109 8 6 := ⟨⟨wd_994, wd_8, ⟨by decide, by decide, by decide +kernel⟩, by decide, by decide⟩, Or.inl wd_991, wd_992, wd_993, _, _, rfl⟩
theorem ct_L_law_110 : CV mL_law m7_quarrel 110 7 2 := ⟨⟨wd_361, wd_1, ⟨by decide, by decide, by decide +kernel⟩, by decide, by decide⟩, Or.inl wd_358, wd_359, wd_360, _, _, rfl⟩
theorem ct_L_law_113 : CV mL_law m8_quarrel 113 8 2 := ⟨⟨wd_999, wd_8, ⟨by decide, by decide, by decide +kernel⟩, by decide, by decide⟩, Or.inl wd_996, wd_997, wd_998, _, _, rfl⟩
theorem ct_L_law_114 : CV mL_law m7_state 114 7 1 := ⟨⟨wd_633, wd_1, ⟨by decide, by decide, by decide +kernel⟩, by decide, by decide⟩, Or.inl wd_630, wd_631, wd_632, _, _, rfl⟩
theorem ct_L_law_117 : CV mL_law m8_state 117 8 1 := ⟨⟨wd_1007, wd_8, ⟨by decide, by decide, by decide +kernel⟩, by decide, by decide⟩, Or.inl wd_1004, wd_1005, wd_1006, _, _, rfl⟩
noncomputable def lL_law_18 (n : Nat) (xs : Nat → Int32) (p1 : Option Nat) (p2 : Option Nat) (rec : Int32 → Cm ((Int32) ⊕ (Unit))) (x18 : Int32) : Cm ((Int32) ⊕ (Unit)) :=
  if ((nI n) - 7) < x18 then
    rt (.inr ())
  else
    bn (oScr n xs x18) fun v29 =>
    if (v29 &&& 31) = 0 then
      bn (oScr n xs (x18 + 1)) fun v145 =>
      bn (oObj p1 7) fun _ =>
      bn (f7_days p1 v145) fun v146 =>
      bn (oScr n xs (x18 + 1)) fun v154 =>
      bn (oObj p2 8) fun _ =>
      bn (f8_days p2 v154) fun v155 =>
      if v146 = v155 then
        rec (x18 + 7)
      else
        rt (.inl (0))
    else
      if (v29 &&& 31) = 1 then
        bn (oScr n xs (x18 + 1)) fun v168 =>
        bn (oScr n xs (x18 + 2)) fun v173 =>
        bn (oScr n xs (x18 + 3)) fun v178 =>
        bn (oScr n xs (x18 + 4)) fun v183 =>
        bn (oScr n xs (x18 + 5)) fun v188 =>
        bn (oObj p1 7) fun _ =>
        bn (f7_feed p1 v168 v173 v178 v183 v188) fun v189 =>
        bn (oScr n xs (x18 + 1)) fun v197 =>
        bn (oScr n xs (x18 + 2)) fun v202 =>
        bn (oScr n xs (x18 + 3)) fun v207 =>
        bn (oScr n xs (x18 + 4)) fun v212 =>
        bn (oScr n xs (x18 + 5)) fun v217 =>
        bn (oObj p2 8) fun _ =>
        bn (f8_feed p2 v197 v202 v207 v212 v217) fun v218 =>
        if v189 = v218 then
          rec (x18 + 7)
        else
          rt (.inl (0))
      else
        if (v29 &&& 31) = 2 then
          bn (oScr n xs (x18 + 1)) fun v231 =>
          bn (oObj p1 7) fun _ =>
          bn (f7_end p1 v231) fun v232 =>
          bn (oScr n xs (x18 + 1)) fun v240 =>
          bn (oObj p2 8) fun _ =>
          bn (f8_end p2 v240) fun v241 =>
          if v232 = v241 then
            rec (x18 + 7)
          else
            rt (.inl (0))
        else
          if (v29 &&& 31) = 3 then
            bn (oScr n xs (x18 + 1)) fun v254 =>
            bn (oObj p1 7) fun _ =>
            bn (f7_keep p1 v254) fun v255 =>
            bn (oScr n xs (x18 + 1)) fun v263 =>
            bn (oObj p2 8) fun _ =>
            bn (f8_keep p2 v263) fun v264 =>
            if v255 = v264 then
              rec (x18 + 7)
            else
              rt (.inl (0))
          else
            if (v29 &&& 31) = 4 then
              bn (oScr n xs (x18 + 1)) fun v277 =>
              bn (oObj p1 7) fun _ =>
              bn (f7_mark p1 v277) fun v278 =>
              bn (oScr n xs (x18 + 1)) fun v286 =>
              bn (oObj p2 8) fun _ =>
              bn (f8_mark p2 v286) fun v287 =>
              if v278 = v287 then
                rec (x18 + 7)
              else
                rt (.inl (0))
            else
              if (v29 &&& 31) = 5 then
                bn (oScr n xs (x18 + 1)) fun v300 =>
                bn (oScr n xs (x18 + 2)) fun v305 =>
                bn (oScr n xs (x18 + 3)) fun v310 =>
                bn (oObj p1 7) fun _ =>
                bn (f7_near p1 v300 v305 v310) fun v311 =>
                bn (oScr n xs (x18 + 1)) fun v319 =>
                bn (oScr n xs (x18 + 2)) fun v324 =>
                bn (oScr n xs (x18 + 3)) fun v329 =>
                bn (oObj p2 8) fun _ =>
                bn (f8_near p2 v319 v324 v329) fun v330 =>
                if v311 = v330 then
                  rec (x18 + 7)
                else
                  rt (.inl (0))
              else
                if (v29 &&& 31) = 6 then
                  bn (oScr n xs (x18 + 1)) fun v343 =>
                  bn (oScr n xs (x18 + 2)) fun v348 =>
                  bn (oObj p1 7) fun _ =>
                  bn (f7_count p1 v343 v348) fun v349 =>
                  bn (oScr n xs (x18 + 1)) fun v357 =>
                  bn (oScr n xs (x18 + 2)) fun v362 =>
                  bn (oObj p2 8) fun _ =>
                  bn (f8_count p2 v357 v362) fun v363 =>
                  if v349 = v363 then
                    rec (x18 + 7)
                  else
                    rt (.inl (0))
                else
                  if (v29 &&& 31) = 7 then
                    bn (oScr n xs (x18 + 1)) fun v376 =>
                    bn (oScr n xs (x18 + 2)) fun v381 =>
                    bn (oScr n xs (x18 + 3)) fun v386 =>
                    bn (oScr n xs (x18 + 4)) fun v391 =>
                    bn (oScr n xs (x18 + 5)) fun v396 =>
                    bn (oObj p1 7) fun _ =>
                    bn (f7_pieces p1 v376 v381 v386 v391 v396) fun v397 =>
                    bn (oScr n xs (x18 + 1)) fun v405 =>
                    bn (oScr n xs (x18 + 2)) fun v410 =>
                    bn (oScr n xs (x18 + 3)) fun v415 =>
                    bn (oScr n xs (x18 + 4)) fun v420 =>
                    bn (oScr n xs (x18 + 5)) fun v425 =>
                    bn (oObj p2 8) fun _ =>
                    bn (f8_pieces p2 v405 v410 v415 v420 v425) fun v426 =>
                    if v397 = v426 then
                      rec (x18 + 7)
                    else
                      rt (.inl (0))
                  else
                    if (v29 &&& 31) = 8 then
                      bn (oScr n xs (x18 + 1)) fun v439 =>
                      bn (oScr n xs (x18 + 2)) fun v444 =>
                      bn (oScr n xs (x18 + 3)) fun v449 =>
                      bn (oScr n xs (x18 + 4)) fun v454 =>
                      bn (α := Int32) (
                        if v454 = 0 then
                          rt 0
                        else
                          rt 1
                      ) (fun y463 =>
                        bn (oObj p1 7) fun _ =>
                        bn (f7_allow p1 v439 v444 v449 y463) fun v463 =>
                        bn (oScr n xs (x18 + 1)) fun v471 =>
                        bn (oScr n xs (x18 + 2)) fun v476 =>
                        bn (oScr n xs (x18 + 3)) fun v481 =>
                        bn (oScr n xs (x18 + 4)) fun v486 =>
                        bn (α := Int32) (
                          if v486 = 0 then
                            rt 0
                          else
                            rt 1
                        ) (fun y495 =>
                          bn (oObj p2 8) fun _ =>
                          bn (f8_allow p2 v471 v476 v481 y495) fun v495 =>
                          if v463 = v495 then
                            rec (x18 + 7)
                          else
                            rt (.inl (0))
                        )
                      )
                    else
                      if (v29 &&& 31) = 9 then
                        bn (oScr n xs (x18 + 1)) fun v508 =>
                        bn (oScr n xs (x18 + 2)) fun v513 =>
                        bn (oScr n xs (x18 + 3)) fun v518 =>
                        bn (oScr n xs (x18 + 4)) fun v523 =>
                        bn (oScr n xs (x18 + 5)) fun v528 =>
                        bn (oObj p1 7) fun _ =>
                        bn (f7_rule p1 v508 v513 v518 v523 v528) fun v529 =>
                        bn (oScr n xs (x18 + 1)) fun v537 =>
                        bn (oScr n xs (x18 + 2)) fun v542 =>
                        bn (oScr n xs (x18 + 3)) fun v547 =>
                        bn (oScr n xs (x18 + 4)) fun v552 =>
                        bn (oScr n xs (x18 + 5)) fun v557 =>
                        bn (oObj p2 8) fun _ =>
                        bn (f8_rule p2 v537 v542 v547 v552 v557) fun v558 =>
                        if v529 = v558 then
                          rec (x18 + 7)
                        else
                          rt (.inl (0))
                      else
                        if (v29 &&& 31) = 10 then
                          bn (oScr n xs (x18 + 1)) fun v571 =>
                          bn (oObj p1 7) fun _ =>
                          bn (f7_drop p1 v571) fun v572 =>
                          bn (oScr n xs (x18 + 1)) fun v580 =>
                          bn (oObj p2 8) fun _ =>
                          bn (f8_drop p2 v580) fun v581 =>
                          if v572 = v581 then
                            rec (x18 + 7)
                          else
                            rt (.inl (0))
                        else
                          if (v29 &&& 31) = 11 then
                            bn (oScr n xs (x18 + 1)) fun v594 =>
                            bn (oScr n xs (x18 + 2)) fun v599 =>
                            bn (oScr n xs (x18 + 3)) fun v604 =>
                            bn (oObj p1 7) fun _ =>
                            bn (f7_send p1 v594 v599 v604) fun v605 =>
                            bn (oScr n xs (x18 + 1)) fun v613 =>
                            bn (oScr n xs (x18 + 2)) fun v618 =>
                            bn (oScr n xs (x18 + 3)) fun v623 =>
                            bn (oObj p2 8) fun _ =>
                            bn (f8_send p2 v613 v618 v623) fun v624 =>
                            if v605 = v624 then
                              rec (x18 + 7)
                            else
                              rt (.inl (0))
                          else
                            if (v29 &&& 31) = 12 then
                              bn (oScr n xs (x18 + 1)) fun v637 =>
                              bn (oScr n xs (x18 + 2)) fun v642 =>
                              bn (α := Int32) (
                                if v642 = 0 then
                                  rt 0
                                else
                                  rt 1
                              ) (fun y651 =>
                                bn (oObj p1 7) fun _ =>
                                bn (f7_answer p1 v637 y651) fun v651 =>
                                bn (oScr n xs (x18 + 1)) fun v659 =>
                                bn (oScr n xs (x18 + 2)) fun v664 =>
                                bn (α := Int32) (
                                  if v664 = 0 then
                                    rt 0
                                  else
                                    rt 1
                                ) (fun y673 =>
                                  bn (oObj p2 8) fun _ =>
                                  bn (f8_answer p2 v659 y673) fun v673 =>
                                  if v651 = v673 then
                                    rec (x18 + 7)
                                  else
                                    rt (.inl (0))
                                )
                              )
                            else
                              if (v29 &&& 31) = 13 then
                                bn (oScr n xs (x18 + 1)) fun v686 =>
                                bn (oScr n xs (x18 + 2)) fun v691 =>
                                bn (oObj p1 7) fun _ =>
                                bn (f7_told p1 v686 v691) fun v692 =>
                                bn (oScr n xs (x18 + 1)) fun v700 =>
                                bn (oScr n xs (x18 + 2)) fun v705 =>
                                bn (oObj p2 8) fun _ =>
                                bn (f8_told p2 v700 v705) fun v706 =>
                                if v692 = v706 then
                                  rec (x18 + 7)
                                else
                                  rt (.inl (0))
                              else
                                if (v29 &&& 31) = 14 then
                                  bn (oScr n xs (x18 + 1)) fun v719 =>
                                  bn (oScr n xs (x18 + 2)) fun v724 =>
                                  bn (oScr n xs (x18 + 3)) fun v729 =>
                                  bn (α := Int32) (
                                    if v729 = 0 then
                                      rt 0
                                    else
                                      rt 1
                                  ) (fun y738 =>
                                    bn (oObj p1 7) fun _ =>
                                    bn (f7_at p1 v719 v724 y738) fun v738 =>
                                    bn (oScr n xs (x18 + 1)) fun v746 =>
                                    bn (oScr n xs (x18 + 2)) fun v751 =>
                                    bn (oScr n xs (x18 + 3)) fun v756 =>
                                    bn (α := Int32) (
                                      if v756 = 0 then
                                        rt 0
                                      else
                                        rt 1
                                    ) (fun y765 =>
                                      bn (oObj p2 8) fun _ =>
                                      bn (f8_at p2 v746 v751 y765) fun v765 =>
                                      if v738 = v765 then
                                        rec (x18 + 7)
                                      else
                                        rt (.inl (0))
                                    )
                                  )
                                else
                                  if (v29 &&& 31) = 15 then
                                    bn (oScr n xs (x18 + 1)) fun v778 =>
                                    bn (oScr n xs (x18 + 2)) fun v783 =>
                                    bn (oScr n xs (x18 + 3)) fun v788 =>
                                    bn (oObj p1 7) fun _ =>
                                    bn (f7_found p1 v778 v783 v788) fun v789 =>
                                    bn (oScr n xs (x18 + 1)) fun v797 =>
                                    bn (oScr n xs (x18 + 2)) fun v802 =>
                                    bn (oScr n xs (x18 + 3)) fun v807 =>
                                    bn (oObj p2 8) fun _ =>
                                    bn (f8_found_ p2 v797 v802 v807) fun v808 =>
                                    if v789 = v808 then
                                      rec (x18 + 7)
                                    else
                                      rt (.inl (0))
                                  else
                                    if (v29 &&& 31) = 16 then
                                      bn (oObj p1 7) fun _ =>
                                      bn (f7_words p1 ) fun v817 =>
                                      bn (oObj p2 8) fun _ =>
                                      bn (f8_words p2 ) fun v821 =>
                                      if v817 = v821 then
                                        rec (x18 + 7)
                                      else
                                        rt (.inl (0))
                                    else
                                      if (v29 &&& 31) = 17 then
                                        bn (oObj p1 7) fun _ =>
                                        bn (f7_numbers p1 ) fun v830 =>
                                        bn (oObj p2 8) fun _ =>
                                        bn (f8_numbers p2 ) fun v834 =>
                                        if v830 = v834 then
                                          rec (x18 + 7)
                                        else
                                          rt (.inl (0))
                                      else
                                        if (v29 &&& 31) = 18 then
                                          bn (oScr n xs (x18 + 1)) fun v847 =>
                                          bn (oScr n xs (x18 + 2)) fun v852 =>
                                          bn (oObj p1 7) fun _ =>
                                          bn (f7_parts p1 v847 v852) fun v853 =>
                                          bn (oScr n xs (x18 + 1)) fun v861 =>
                                          bn (oScr n xs (x18 + 2)) fun v866 =>
                                          bn (oObj p2 8) fun _ =>
                                          bn (f8_parts p2 v861 v866) fun v867 =>
                                          if v853 = v867 then
                                            rec (x18 + 7)
                                          else
                                            rt (.inl (0))
                                        else
                                          if (v29 &&& 31) = 19 then
                                            bn (oScr n xs (x18 + 1)) fun v880 =>
                                            bn (oScr n xs (x18 + 2)) fun v885 =>
                                            bn (oScr n xs (x18 + 3)) fun v890 =>
                                            bn (oScr n xs (x18 + 4)) fun v895 =>
                                            bn (oScr n xs (x18 + 5)) fun v900 =>
                                            bn (oObj p1 7) fun _ =>
                                            bn (f7_trial p1 v880 v885 v890 v895 v900) fun v901 =>
                                            bn (oScr n xs (x18 + 1)) fun v909 =>
                                            bn (oScr n xs (x18 + 2)) fun v914 =>
                                            bn (oScr n xs (x18 + 3)) fun v919 =>
                                            bn (oScr n xs (x18 + 4)) fun v924 =>
                                            bn (oScr n xs (x18 + 5)) fun v929 =>
                                            bn (oObj p2 8) fun _ =>
                                            bn (f8_trial p2 v909 v914 v919 v924 v929) fun v930 =>
                                            if v901 = v930 then
                                              rec (x18 + 7)
                                            else
                                              rt (.inl (0))
                                          else
                                            if (v29 &&& 31) = 20 then
                                              bn (oScr n xs (x18 + 1)) fun v943 =>
                                              bn (oScr n xs (x18 + 2)) fun v948 =>
                                              bn (oScr n xs (x18 + 3)) fun v953 =>
                                              bn (oScr n xs (x18 + 4)) fun v958 =>
                                              bn (oScr n xs (x18 + 5)) fun v963 =>
                                              bn (oScr n xs (x18 + 6)) fun v969 =>
                                              bn (oObj p1 7) fun _ =>
                                              bn (f7_tried p1 v943 v948 v953 v958 v963 v969) fun v970 =>
                                              bn (oScr n xs (x18 + 1)) fun v978 =>
                                              bn (oScr n xs (x18 + 2)) fun v983 =>
                                              bn (oScr n xs (x18 + 3)) fun v988 =>
                                              bn (oScr n xs (x18 + 4)) fun v993 =>
                                              bn (oScr n xs (x18 + 5)) fun v998 =>
                                              bn (oScr n xs (x18 + 6)) fun v1004 =>
                                              bn (oObj p2 8) fun _ =>
                                              bn (f8_tried p2 v978 v983 v988 v993 v998 v1004) fun v1005 =>
                                              if v970 = v1005 then
                                                rec (x18 + 7)
                                              else
                                                rt (.inl (0))
                                            else
                                              if (v29 &&& 31) = 21 then
                                                bn (oScr n xs (x18 + 1)) fun v1018 =>
                                                bn (oScr n xs (x18 + 2)) fun v1023 =>
                                                bn (oObj p1 7) fun _ =>
                                                bn (f7_quarrel p1 v1018 v1023) fun v1024 =>
                                                bn (oScr n xs (x18 + 1)) fun v1032 =>
                                                bn (oScr n xs (x18 + 2)) fun v1037 =>
                                                bn (oObj p2 8) fun _ =>
                                                bn (f8_quarrel p2 v1032 v1037) fun v1038 =>
                                                if v1024 = v1038 then
                                                  rec (x18 + 7)
                                                else
                                                  rt (.inl (0))
                                              else
                                                if (v29 &&& 31) = 22 then
                                                  bn (oScr n xs (x18 + 1)) fun v1051 =>
                                                  bn (oObj p1 7) fun _ =>
                                                  bn (f7_state p1 v1051) fun v1052 =>
                                                  bn (oScr n xs (x18 + 1)) fun v1060 =>
                                                  bn (oObj p2 8) fun _ =>
                                                  bn (f8_state p2 v1060) fun v1061 =>
                                                  if v1052 = v1061 then
                                                    rec (x18 + 7)
                                                  else
                                                    rt (.inl (0))
                                                else
                                                  rec (x18 + 7)
noncomputable def fL_law (n : Nat) (xs : Nat → Int32) : Cm Int32 :=
  bn (oNewO 7 [.int 0, .null, .int 0, .null, .null, .null, .null, .null, .int 0, .null, .null, .null, .null]) fun v0 =>
  bn (oObj v0 7) fun _ =>
  bn (f7_init v0 ) fun _ =>
  bn (oNewO 8 [.int 0, .int 0, .int 0, .null, .int 0, .null, .null, .null, .int 0, .null, .null, .int 0, .null, .null, .int 0, .null, .null, .null, .null, .null, .null, .null, .null, .null, .null, .null, .null, .null, .null, .null, .null, .null, .null, .null, .null, .null, .null, .null, .null, .null, .null, .null, .int 0, .null, .null, .null, .null]) fun v8 =>
  bn (oObj v8 8) fun _ =>
  bn (f8_init v8 ) fun _ =>
  bn (fx (lL_law_18 n xs v0 v8) FUEL 0) (Sum.elim (fun r => rt r) fun y1075 =>
    rt (1)
  )
