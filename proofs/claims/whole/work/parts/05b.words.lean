set_option maxRecDepth 100000 in
theorem jwS_6_144 : Jvm.Cond.fieldLink (jcn 6) 144 "CometKin" "OVER_PEOPLE" "[I" ∈ jTb := jAt_in (w := 582) (by decide +kernel)
set_option maxRecDepth 100000 in
theorem jwS_6_155 : Jvm.Cond.fieldLink (jcn 6) 155 "CometKin" "OVER_COMETS" "[I" ∈ jTb := jAt_in (w := 595) (by decide +kernel)
set_option maxRecDepth 100000 in
theorem jwS_10_9 : Jvm.Cond.fieldLink (jcn 10) 9 "java/lang/String" "value" "[B" ∈ jTb := jAt_in (w := 1349) (by decide +kernel)
set_option maxRecDepth 100000 in
theorem jwS_10_15 : Jvm.Cond.fieldLink (jcn 10) 15 "java/lang/String" "coder" "B" ∈ jTb := jAt_in (w := 1350) (by decide +kernel)
set_option maxRecDepth 100000 in
theorem jwS_10_38 : Jvm.Cond.fieldLink (jcn 10) 38 "java/lang/String" "COMPACT_STRINGS" "Z" ∈ jTb := jAt_in (w := 425) (by decide +kernel)
set_option maxRecDepth 100000 in
theorem jwS_10_1053 : Jvm.Cond.fieldLink (jcn 10) 1053 "jdk/internal/util/Preconditions" "SIOOBE_FORMATTER" "Ljava/util/function/BiFunction;" ∈ jTb := jAt_in (w := 441) (by decide +kernel)
set_option maxRecDepth 100000 in
theorem jw_oi : Jvm.Cond.instanceMethod objectInit ∈ jTb := jAt_in (w := 90) (by decide +kernel)
set_option maxRecDepth 100000 in
theorem jw_oc : Jvm.Cond.code objectInit ⟨#[0xb1]⟩ 1 none ∈ jTb := jAt_in (w := 91) (by decide +kernel)
set_option maxRecDepth 100000 in
theorem jw_ao : Jvm.Cond.arrayOver (.object "CometKin$Life") ∈ lw_tbl := List.mem_of_getElem? (i := 257) (by decide +kernel)
set_option maxRecDepth 100000 in
theorem jw_aI : Jvm.Cond.arrayClass .int ∈ jTb := jAt_in (w := 111) (by decide +kernel)
set_option maxRecDepth 100000 in
theorem jw_aZ : Jvm.Cond.arrayClass .boolean ∈ jTb := jAt_in (w := 1018) (by decide +kernel)
set_option maxRecDepth 100000 in
theorem jw_aL : Jvm.Cond.classLink (jcn 4) 13 "CometKin$Life" ∈ jTb := jAt_in (w := 256) (by decide +kernel)
