/-! names: the words of the tables by their places, classes, fields, methods: written by program (wip/whole/gen/mknames.py) -/
def wsG : List Cond := lw_tbl.filter goodWord
theorem wg {w : Cond} (h : w ∈ lw_tbl) (hg : goodWord w = true) : w ∈ wsG := List.mem_filter.mpr ⟨h, hg⟩
theorem gdG : GoodIn wsG wsG := fun _ h => ⟨h, good_of_word (List.mem_filter.mp h).2⟩
theorem gd_cons {w : Cond} {ws : List Cond} (h : w ∈ wsG) (hw : GoodIn wsG ws) : GoodIn wsG (w :: ws) := by
  intro x hx
  rcases List.mem_cons.mp hx with rfl | h2
  · exact ⟨h, good_of_word (List.mem_filter.mp h).2⟩
  · exact hw x h2
def nw_isN : Cond → Bool
  | .fieldLinkNest .. => true
  | .methodLinkNest .. => true
  | _ => false
def NW (U : State) : Prop := ∀ w ∈ lw_tbl, nw_isN w = true → va_Nw w U
theorem tb_1 {w : Cond} (h : w ∈ tables_1_1) : w ∈ lw_tbl := List.mem_append_right _ (List.mem_append_left _ h)
theorem tb_2 {w : Cond} (h : w ∈ tables_1_2) : w ∈ lw_tbl := List.mem_append_right _ (List.mem_append_right _ (List.mem_append_left _ h))
theorem tb_3 {w : Cond} (h : w ∈ tables_1_3) : w ∈ lw_tbl := List.mem_append_right _ (List.mem_append_right _ (List.mem_append_right _ (List.mem_append_left _ h)))
theorem tb_4 {w : Cond} (h : w ∈ tables_1_4) : w ∈ lw_tbl := List.mem_append_right _ (List.mem_append_right _ (List.mem_append_right _ (List.mem_append_right _ (h))))
theorem sl_of {q : MethodName × Nat} (h : q ∈ lw_privs) : Cond.selects q.1.cls q.1 q.1 ∈ lw_tbl := List.mem_append_left _ (List.mem_map.mpr ⟨q, h, rfl⟩)
set_option maxRecDepth 20000 in
theorem wd_0 : Jvm.Cond.initialized "ToothWheelTimerLaw" ∈ lw_tbl := tb_1 (List.mem_of_getElem? (i := 0) rfl)
set_option maxRecDepth 20000 in
theorem wd_1 : Jvm.Cond.initialized "ToothWheelTimer" ∈ lw_tbl := tb_1 (List.mem_of_getElem? (i := 1) rfl)
set_option maxRecDepth 20000 in
theorem wd_2 : Jvm.Cond.initialized "ToothWheelTimer$Panel" ∈ lw_tbl := tb_1 (List.mem_of_getElem? (i := 2) rfl)
set_option maxRecDepth 20000 in
theorem wd_3 : Jvm.Cond.initialized "ToothWheelTimer$Chart" ∈ lw_tbl := tb_1 (List.mem_of_getElem? (i := 3) rfl)
set_option maxRecDepth 20000 in
theorem wd_4 : Jvm.Cond.initialized "ToothWheelTimer$Sensor" ∈ lw_tbl := tb_1 (List.mem_of_getElem? (i := 4) rfl)
set_option maxRecDepth 20000 in
theorem wd_5 : Jvm.Cond.initialized "java/lang/Math" ∈ lw_tbl := tb_1 (List.mem_of_getElem? (i := 5) rfl)
set_option maxRecDepth 20000 in
theorem wd_6 : Jvm.Cond.initialized "ToothWheelTimer$Wheel" ∈ lw_tbl := tb_1 (List.mem_of_getElem? (i := 6) rfl)
set_option maxRecDepth 20000 in
theorem wd_7 : Jvm.Cond.initialized "ToothWheelTimer$Agenda" ∈ lw_tbl := tb_1 (List.mem_of_getElem? (i := 7) rfl)
set_option maxRecDepth 20000 in
theorem wd_8 : Jvm.Cond.initialized "ToothWheelTimerModel" ∈ lw_tbl := tb_1 (List.mem_of_getElem? (i := 8) rfl)
set_option maxRecDepth 20000 in
theorem wd_9 : Jvm.Cond.classLink "ToothWheelTimerLaw" (7 : Nat) "ToothWheelTimer" ∈ lw_tbl := tb_1 (List.mem_of_getElem? (i := 9) rfl)
set_option maxRecDepth 20000 in
theorem wd_10 : Jvm.Cond.instantiable "ToothWheelTimer" (14 : Nat) ∈ lw_tbl := tb_1 (List.mem_of_getElem? (i := 10) rfl)
set_option maxRecDepth 20000 in
theorem wd_11 : Jvm.Cond.methodLink "ToothWheelTimerLaw" (15 : Nat) ({ cls := "ToothWheelTimer", name := "<init>", desc := "(IIII)V" } : Jvm.MethodName) ∈ lw_tbl := tb_1 (List.mem_of_getElem? (i := 11) rfl)
set_option maxRecDepth 20000 in
theorem wd_12 : Jvm.Cond.instanceMethod ({ cls := "ToothWheelTimer", name := "<init>", desc := "(IIII)V" } : Jvm.MethodName) ∈ lw_tbl := tb_1 (List.mem_of_getElem? (i := 12) rfl)
set_option maxRecDepth 20000 in
theorem wd_13 : Jvm.Cond.code ({ cls := "ToothWheelTimer", name := "<init>", desc := "(IIII)V" } : Jvm.MethodName) prog_1_method_1_code (5 : Nat) (Option.none : Option Jvm.ClassFile.FieldType) ∈ lw_tbl := tb_1 (List.mem_of_getElem? (i := 13) rfl)
set_option maxRecDepth 20000 in
theorem wd_14 : Jvm.Cond.methodLink "ToothWheelTimer" (1 : Nat) ({ cls := "java/lang/Object", name := "<init>", desc := "()V" } : Jvm.MethodName) ∈ lw_tbl := tb_1 (List.mem_of_getElem? (i := 14) rfl)
set_option maxRecDepth 20000 in
theorem wd_15 : Jvm.Cond.instanceMethod ({ cls := "java/lang/Object", name := "<init>", desc := "()V" } : Jvm.MethodName) ∈ lw_tbl := tb_1 (List.mem_of_getElem? (i := 15) rfl)
set_option maxRecDepth 20000 in
theorem wd_16 : Jvm.Cond.code ({ cls := "java/lang/Object", name := "<init>", desc := "()V" } : Jvm.MethodName) object_method_1_code (1 : Nat) (Option.none : Option Jvm.ClassFile.FieldType) ∈ lw_tbl := tb_1 (List.mem_of_getElem? (i := 16) rfl)
set_option maxRecDepth 20000 in
theorem wd_17 : Jvm.Cond.classLink "ToothWheelTimer" (7 : Nat) "ToothWheelTimer$Panel" ∈ lw_tbl := tb_1 (List.mem_of_getElem? (i := 17) rfl)
set_option maxRecDepth 20000 in
theorem wd_18 : Jvm.Cond.instantiable "ToothWheelTimer$Panel" (3 : Nat) ∈ lw_tbl := tb_1 (List.mem_of_getElem? (i := 18) rfl)
set_option maxRecDepth 20000 in
theorem wd_19 : Jvm.Cond.methodLinkNest "ToothWheelTimer" (9 : Nat) ({ cls := "ToothWheelTimer$Panel", name := "<init>", desc := "()V" } : Jvm.MethodName) "ToothWheelTimer" ∈ lw_tbl := tb_1 (List.mem_of_getElem? (i := 19) rfl)
set_option maxRecDepth 20000 in
theorem wd_20 : Jvm.Cond.instanceMethod ({ cls := "ToothWheelTimer$Panel", name := "<init>", desc := "()V" } : Jvm.MethodName) ∈ lw_tbl := tb_1 (List.mem_of_getElem? (i := 20) rfl)
set_option maxRecDepth 20000 in
theorem wd_21 : Jvm.Cond.code ({ cls := "ToothWheelTimer$Panel", name := "<init>", desc := "()V" } : Jvm.MethodName) prog_4_method_1_code (1 : Nat) (Option.none : Option Jvm.ClassFile.FieldType) ∈ lw_tbl := tb_1 (List.mem_of_getElem? (i := 21) rfl)
set_option maxRecDepth 20000 in
theorem wd_22 : Jvm.Cond.methodLink "ToothWheelTimer$Panel" (3 : Nat) ({ cls := "java/lang/Object", name := "<init>", desc := "()V" } : Jvm.MethodName) ∈ lw_tbl := tb_1 (List.mem_of_getElem? (i := 22) rfl)
set_option maxRecDepth 20000 in
theorem wd_23 : Jvm.Cond.fieldLink "ToothWheelTimer$Panel" (11 : Nat) "ToothWheelTimer$Panel" "log" "[J" ∈ lw_tbl := tb_1 (List.mem_of_getElem? (i := 23) rfl)
set_option maxRecDepth 20000 in
theorem wd_24 : Jvm.Cond.fieldLink "ToothWheelTimer$Panel" (15 : Nat) "ToothWheelTimer$Panel" "lit" "I" ∈ lw_tbl := tb_1 (List.mem_of_getElem? (i := 24) rfl)
set_option maxRecDepth 20000 in
theorem wd_25 : Jvm.Cond.fieldLinkNest "ToothWheelTimer" (181 : Nat) "ToothWheelTimer$Panel" "lit" "I" "ToothWheelTimer" ∈ lw_tbl := tb_1 (List.mem_of_getElem? (i := 25) rfl)
set_option maxRecDepth 20000 in
theorem wd_26 : Jvm.Cond.fieldLink "ToothWheelTimer$Panel" (19 : Nat) "ToothWheelTimer$Panel" "changes" "I" ∈ lw_tbl := tb_1 (List.mem_of_getElem? (i := 26) rfl)
set_option maxRecDepth 20000 in
theorem wd_27 : Jvm.Cond.fieldLinkNest "ToothWheelTimer" (149 : Nat) "ToothWheelTimer$Panel" "changes" "I" "ToothWheelTimer" ∈ lw_tbl := tb_1 (List.mem_of_getElem? (i := 27) rfl)
set_option maxRecDepth 20000 in
theorem wd_28 : Jvm.Cond.laysFinal "ToothWheelTimer$Panel" "ToothWheelTimer$Panel" "log" "[J" ∈ lw_tbl := tb_1 (List.mem_of_getElem? (i := 28) rfl)
set_option maxRecDepth 20000 in
theorem wd_29 : Jvm.Cond.soleField "ToothWheelTimer$Panel" "log" ∈ lw_tbl := tb_1 (List.mem_of_getElem? (i := 29) rfl)
set_option maxRecDepth 20000 in
theorem wd_30 : Jvm.Cond.lays "ToothWheelTimer$Panel" "ToothWheelTimer$Panel" "lit" "I" ∈ lw_tbl := tb_1 (List.mem_of_getElem? (i := 30) rfl)
set_option maxRecDepth 20000 in
theorem wd_31 : Jvm.Cond.soleField "ToothWheelTimer$Panel" "lit" ∈ lw_tbl := tb_1 (List.mem_of_getElem? (i := 31) rfl)
set_option maxRecDepth 20000 in
theorem wd_32 : Jvm.Cond.lays "ToothWheelTimer$Panel" "ToothWheelTimer$Panel" "changes" "I" ∈ lw_tbl := tb_1 (List.mem_of_getElem? (i := 32) rfl)
set_option maxRecDepth 20000 in
theorem wd_33 : Jvm.Cond.soleField "ToothWheelTimer$Panel" "changes" ∈ lw_tbl := tb_1 (List.mem_of_getElem? (i := 33) rfl)
set_option maxRecDepth 20000 in
theorem wd_34 : Jvm.Cond.superclass "ToothWheelTimer$Panel" "java/lang/Object" ∈ lw_tbl := tb_1 (List.mem_of_getElem? (i := 34) rfl)
set_option maxRecDepth 20000 in
theorem wd_35 : Jvm.Cond.arrayClass Jvm.ClassFile.FieldType.long ∈ lw_tbl := tb_1 (List.mem_of_getElem? (i := 35) rfl)
set_option maxRecDepth 20000 in
theorem wd_36 : Jvm.Cond.classLink "ToothWheelTimer" (16 : Nat) "ToothWheelTimer$Chart" ∈ lw_tbl := tb_1 (List.mem_of_getElem? (i := 36) rfl)
set_option maxRecDepth 20000 in
theorem wd_37 : Jvm.Cond.instantiable "ToothWheelTimer$Chart" (2 : Nat) ∈ lw_tbl := tb_1 (List.mem_of_getElem? (i := 37) rfl)
set_option maxRecDepth 20000 in
theorem wd_38 : Jvm.Cond.methodLinkNest "ToothWheelTimer" (18 : Nat) ({ cls := "ToothWheelTimer$Chart", name := "<init>", desc := "(I)V" } : Jvm.MethodName) "ToothWheelTimer" ∈ lw_tbl := tb_1 (List.mem_of_getElem? (i := 38) rfl)
set_option maxRecDepth 20000 in
theorem wd_39 : Jvm.Cond.instanceMethod ({ cls := "ToothWheelTimer$Chart", name := "<init>", desc := "(I)V" } : Jvm.MethodName) ∈ lw_tbl := tb_1 (List.mem_of_getElem? (i := 39) rfl)
set_option maxRecDepth 20000 in
theorem wd_40 : Jvm.Cond.code ({ cls := "ToothWheelTimer$Chart", name := "<init>", desc := "(I)V" } : Jvm.MethodName) prog_3_method_1_code (2 : Nat) (Option.none : Option Jvm.ClassFile.FieldType) ∈ lw_tbl := tb_1 (List.mem_of_getElem? (i := 40) rfl)
set_option maxRecDepth 20000 in
theorem wd_41 : Jvm.Cond.methodLink "ToothWheelTimer$Chart" (3 : Nat) ({ cls := "java/lang/Object", name := "<init>", desc := "()V" } : Jvm.MethodName) ∈ lw_tbl := tb_1 (List.mem_of_getElem? (i := 41) rfl)
set_option maxRecDepth 20000 in
theorem wd_42 : Jvm.Cond.fieldLink "ToothWheelTimer$Chart" (15 : Nat) "ToothWheelTimer$Chart" "most" "I" ∈ lw_tbl := tb_1 (List.mem_of_getElem? (i := 42) rfl)
set_option maxRecDepth 20000 in
theorem wd_43 : Jvm.Cond.fieldLink "ToothWheelTimer$Chart" (11 : Nat) "ToothWheelTimer$Chart" "points" "[I" ∈ lw_tbl := tb_1 (List.mem_of_getElem? (i := 43) rfl)
set_option maxRecDepth 20000 in
theorem wd_44 : Jvm.Cond.laysFinal "ToothWheelTimer$Chart" "ToothWheelTimer$Chart" "most" "I" ∈ lw_tbl := tb_1 (List.mem_of_getElem? (i := 44) rfl)
set_option maxRecDepth 20000 in
theorem wd_45 : Jvm.Cond.soleField "ToothWheelTimer$Chart" "most" ∈ lw_tbl := tb_1 (List.mem_of_getElem? (i := 45) rfl)
set_option maxRecDepth 20000 in
theorem wd_46 : Jvm.Cond.laysFinal "ToothWheelTimer$Chart" "ToothWheelTimer$Chart" "points" "[I" ∈ lw_tbl := tb_1 (List.mem_of_getElem? (i := 46) rfl)
set_option maxRecDepth 20000 in
theorem wd_47 : Jvm.Cond.soleField "ToothWheelTimer$Chart" "points" ∈ lw_tbl := tb_1 (List.mem_of_getElem? (i := 47) rfl)
set_option maxRecDepth 20000 in
theorem wd_48 : Jvm.Cond.superclass "ToothWheelTimer$Chart" "java/lang/Object" ∈ lw_tbl := tb_1 (List.mem_of_getElem? (i := 48) rfl)
set_option maxRecDepth 20000 in
theorem wd_49 : Jvm.Cond.arrayClass Jvm.ClassFile.FieldType.int ∈ lw_tbl := tb_1 (List.mem_of_getElem? (i := 49) rfl)
set_option maxRecDepth 20000 in
theorem wd_50 : Jvm.Cond.classLink "ToothWheelTimer" (28 : Nat) "ToothWheelTimer$Sensor" ∈ lw_tbl := tb_1 (List.mem_of_getElem? (i := 50) rfl)
set_option maxRecDepth 20000 in
theorem wd_51 : Jvm.Cond.instantiable "ToothWheelTimer$Sensor" (7 : Nat) ∈ lw_tbl := tb_1 (List.mem_of_getElem? (i := 51) rfl)
set_option maxRecDepth 20000 in
theorem wd_52 : Jvm.Cond.fieldLink "ToothWheelTimer" (30 : Nat) "ToothWheelTimer" "LOAD_CURVE" "[I" ∈ lw_tbl := tb_1 (List.mem_of_getElem? (i := 52) rfl)
set_option maxRecDepth 20000 in
theorem wd_53 : Jvm.Cond.laysStatic "ToothWheelTimer" "LOAD_CURVE" "[I" ∈ lw_tbl := tb_1 (List.mem_of_getElem? (i := 53) rfl)
set_option maxRecDepth 20000 in
theorem wd_54 : Jvm.Cond.methodLinkNest "ToothWheelTimer" (34 : Nat) ({ cls := "ToothWheelTimer$Sensor", name := "<init>", desc := "([III)V" } : Jvm.MethodName) "ToothWheelTimer" ∈ lw_tbl := tb_1 (List.mem_of_getElem? (i := 54) rfl)
set_option maxRecDepth 20000 in
theorem wd_55 : Jvm.Cond.instanceMethod ({ cls := "ToothWheelTimer$Sensor", name := "<init>", desc := "([III)V" } : Jvm.MethodName) ∈ lw_tbl := tb_1 (List.mem_of_getElem? (i := 55) rfl)
set_option maxRecDepth 20000 in
theorem wd_56 : Jvm.Cond.code ({ cls := "ToothWheelTimer$Sensor", name := "<init>", desc := "([III)V" } : Jvm.MethodName) prog_5_method_1_code (4 : Nat) (Option.none : Option Jvm.ClassFile.FieldType) ∈ lw_tbl := tb_1 (List.mem_of_getElem? (i := 56) rfl)
set_option maxRecDepth 20000 in
theorem wd_57 : Jvm.Cond.methodLink "ToothWheelTimer$Sensor" (3 : Nat) ({ cls := "java/lang/Object", name := "<init>", desc := "()V" } : Jvm.MethodName) ∈ lw_tbl := tb_1 (List.mem_of_getElem? (i := 57) rfl)
set_option maxRecDepth 20000 in
theorem wd_58 : Jvm.Cond.fieldLink "ToothWheelTimer$Sensor" (26 : Nat) "ToothWheelTimer$Sensor" "curve" "[I" ∈ lw_tbl := tb_1 (List.mem_of_getElem? (i := 58) rfl)
set_option maxRecDepth 20000 in
theorem wd_59 : Jvm.Cond.fieldLink "ToothWheelTimer$Sensor" (30 : Nat) "ToothWheelTimer$Sensor" "substitute" "I" ∈ lw_tbl := tb_1 (List.mem_of_getElem? (i := 59) rfl)
set_option maxRecDepth 20000 in
theorem wd_60 : Jvm.Cond.fieldLink "ToothWheelTimer$Sensor" (11 : Nat) "ToothWheelTimer$Sensor" "code" "[J" ∈ lw_tbl := tb_1 (List.mem_of_getElem? (i := 60) rfl)
set_option maxRecDepth 20000 in
theorem wd_61 : Jvm.Cond.fieldLink "ToothWheelTimer$Sensor" (33 : Nat) "ToothWheelTimer$Sensor" "good" "I" ∈ lw_tbl := tb_1 (List.mem_of_getElem? (i := 61) rfl)
set_option maxRecDepth 20000 in
theorem wd_62 : Jvm.Cond.fieldLink "ToothWheelTimer$Sensor" (15 : Nat) "ToothWheelTimer$Sensor" "previous" "I" ∈ lw_tbl := tb_1 (List.mem_of_getElem? (i := 62) rfl)
set_option maxRecDepth 20000 in
theorem wd_63 : Jvm.Cond.fieldLink "ToothWheelTimer$Sensor" (19 : Nat) "ToothWheelTimer$Sensor" "faults" "I" ∈ lw_tbl := tb_1 (List.mem_of_getElem? (i := 63) rfl)
set_option maxRecDepth 20000 in
theorem wd_64 : Jvm.Cond.fieldLinkNest "ToothWheelTimer" (124 : Nat) "ToothWheelTimer$Sensor" "faults" "I" "ToothWheelTimer" ∈ lw_tbl := tb_1 (List.mem_of_getElem? (i := 64) rfl)
set_option maxRecDepth 20000 in
theorem wd_65 : Jvm.Cond.fieldLink "ToothWheelTimer$Sensor" (22 : Nat) "ToothWheelTimer$Sensor" "coded" "Z" ∈ lw_tbl := tb_1 (List.mem_of_getElem? (i := 65) rfl)
set_option maxRecDepth 20000 in
theorem wd_66 : Jvm.Cond.fieldLinkNest "ToothWheelTimer" (280 : Nat) "ToothWheelTimer$Sensor" "coded" "Z" "ToothWheelTimer" ∈ lw_tbl := tb_1 (List.mem_of_getElem? (i := 66) rfl)
set_option maxRecDepth 20000 in
theorem wd_67 : Jvm.Cond.laysFinal "ToothWheelTimer$Sensor" "ToothWheelTimer$Sensor" "curve" "[I" ∈ lw_tbl := tb_1 (List.mem_of_getElem? (i := 67) rfl)
set_option maxRecDepth 20000 in
theorem wd_68 : Jvm.Cond.soleField "ToothWheelTimer$Sensor" "curve" ∈ lw_tbl := tb_1 (List.mem_of_getElem? (i := 68) rfl)
set_option maxRecDepth 20000 in
theorem wd_69 : Jvm.Cond.laysFinal "ToothWheelTimer$Sensor" "ToothWheelTimer$Sensor" "substitute" "I" ∈ lw_tbl := tb_1 (List.mem_of_getElem? (i := 69) rfl)
set_option maxRecDepth 20000 in
theorem wd_70 : Jvm.Cond.soleField "ToothWheelTimer$Sensor" "substitute" ∈ lw_tbl := tb_1 (List.mem_of_getElem? (i := 70) rfl)
set_option maxRecDepth 20000 in
theorem wd_71 : Jvm.Cond.laysFinal "ToothWheelTimer$Sensor" "ToothWheelTimer$Sensor" "code" "[J" ∈ lw_tbl := tb_1 (List.mem_of_getElem? (i := 71) rfl)
set_option maxRecDepth 20000 in
theorem wd_72 : Jvm.Cond.soleField "ToothWheelTimer$Sensor" "code" ∈ lw_tbl := tb_1 (List.mem_of_getElem? (i := 72) rfl)
set_option maxRecDepth 20000 in
theorem wd_73 : Jvm.Cond.lays "ToothWheelTimer$Sensor" "ToothWheelTimer$Sensor" "good" "I" ∈ lw_tbl := tb_1 (List.mem_of_getElem? (i := 73) rfl)
set_option maxRecDepth 20000 in
theorem wd_74 : Jvm.Cond.soleField "ToothWheelTimer$Sensor" "good" ∈ lw_tbl := tb_1 (List.mem_of_getElem? (i := 74) rfl)
set_option maxRecDepth 20000 in
theorem wd_75 : Jvm.Cond.lays "ToothWheelTimer$Sensor" "ToothWheelTimer$Sensor" "previous" "I" ∈ lw_tbl := tb_1 (List.mem_of_getElem? (i := 75) rfl)
set_option maxRecDepth 20000 in
theorem wd_76 : Jvm.Cond.soleField "ToothWheelTimer$Sensor" "previous" ∈ lw_tbl := tb_1 (List.mem_of_getElem? (i := 76) rfl)
set_option maxRecDepth 20000 in
theorem wd_77 : Jvm.Cond.lays "ToothWheelTimer$Sensor" "ToothWheelTimer$Sensor" "faults" "I" ∈ lw_tbl := tb_1 (List.mem_of_getElem? (i := 77) rfl)
set_option maxRecDepth 20000 in
theorem wd_78 : Jvm.Cond.soleField "ToothWheelTimer$Sensor" "faults" ∈ lw_tbl := tb_1 (List.mem_of_getElem? (i := 78) rfl)
set_option maxRecDepth 20000 in
theorem wd_79 : Jvm.Cond.lays "ToothWheelTimer$Sensor" "ToothWheelTimer$Sensor" "coded" "Z" ∈ lw_tbl := tb_1 (List.mem_of_getElem? (i := 79) rfl)
set_option maxRecDepth 20000 in
theorem wd_80 : Jvm.Cond.soleField "ToothWheelTimer$Sensor" "coded" ∈ lw_tbl := tb_1 (List.mem_of_getElem? (i := 80) rfl)
set_option maxRecDepth 20000 in
theorem wd_81 : Jvm.Cond.superclass "ToothWheelTimer$Sensor" "java/lang/Object" ∈ lw_tbl := tb_1 (List.mem_of_getElem? (i := 81) rfl)
set_option maxRecDepth 20000 in
theorem wd_82 : Jvm.Cond.fieldLink "ToothWheelTimer" (41 : Nat) "ToothWheelTimer" "HEAT_CURVE" "[I" ∈ lw_tbl := tb_1 (List.mem_of_getElem? (i := 82) rfl)
set_option maxRecDepth 20000 in
theorem wd_83 : Jvm.Cond.laysStatic "ToothWheelTimer" "HEAT_CURVE" "[I" ∈ lw_tbl := tb_1 (List.mem_of_getElem? (i := 83) rfl)
set_option maxRecDepth 20000 in
theorem wd_84 : Jvm.Cond.methodLink "ToothWheelTimer" (61 : Nat) ({ cls := "ToothWheelTimer", name := "within", desc := "(III)I" } : Jvm.MethodName) ∈ lw_tbl := tb_1 (List.mem_of_getElem? (i := 84) rfl)
set_option maxRecDepth 20000 in
theorem wd_85 : Jvm.Cond.static ({ cls := "ToothWheelTimer", name := "within", desc := "(III)I" } : Jvm.MethodName) ∈ lw_tbl := tb_1 (List.mem_of_getElem? (i := 85) rfl)
set_option maxRecDepth 20000 in
theorem wd_86 : Jvm.Cond.code ({ cls := "ToothWheelTimer", name := "within", desc := "(III)I" } : Jvm.MethodName) prog_1_method_22_code (3 : Nat) (Option.some Jvm.ClassFile.FieldType.int) ∈ lw_tbl := tb_1 (List.mem_of_getElem? (i := 86) rfl)
set_option maxRecDepth 20000 in
theorem wd_87 : Jvm.Cond.methodLink "ToothWheelTimer" (184 : Nat) ({ cls := "java/lang/Math", name := "min", desc := "(II)I" } : Jvm.MethodName) ∈ lw_tbl := tb_1 (List.mem_of_getElem? (i := 87) rfl)
set_option maxRecDepth 20000 in
theorem wd_88 : Jvm.Cond.static ({ cls := "java/lang/Math", name := "min", desc := "(II)I" } : Jvm.MethodName) ∈ lw_tbl := tb_1 (List.mem_of_getElem? (i := 88) rfl)
set_option maxRecDepth 20000 in
theorem wd_89 : Jvm.Cond.code ({ cls := "java/lang/Math", name := "min", desc := "(II)I" } : Jvm.MethodName) prog_9_method_69_code (2 : Nat) (Option.some Jvm.ClassFile.FieldType.int) ∈ lw_tbl := tb_1 (List.mem_of_getElem? (i := 89) rfl)
set_option maxRecDepth 20000 in
theorem wd_90 : Jvm.Cond.methodLink "ToothWheelTimer" (189 : Nat) ({ cls := "java/lang/Math", name := "max", desc := "(II)I" } : Jvm.MethodName) ∈ lw_tbl := tb_1 (List.mem_of_getElem? (i := 90) rfl)
set_option maxRecDepth 20000 in
theorem wd_91 : Jvm.Cond.static ({ cls := "java/lang/Math", name := "max", desc := "(II)I" } : Jvm.MethodName) ∈ lw_tbl := tb_1 (List.mem_of_getElem? (i := 91) rfl)
set_option maxRecDepth 20000 in
theorem wd_92 : Jvm.Cond.code ({ cls := "java/lang/Math", name := "max", desc := "(II)I" } : Jvm.MethodName) prog_9_method_65_code (2 : Nat) (Option.some Jvm.ClassFile.FieldType.int) ∈ lw_tbl := tb_1 (List.mem_of_getElem? (i := 92) rfl)
set_option maxRecDepth 20000 in
theorem wd_93 : Jvm.Cond.constant "ToothWheelTimer" (71 : Nat) (100000 : Int32) ∈ lw_tbl := tb_1 (List.mem_of_getElem? (i := 93) rfl)
set_option maxRecDepth 20000 in
theorem wd_94 : Jvm.Cond.classLink "ToothWheelTimer" (75 : Nat) "ToothWheelTimer$Wheel" ∈ lw_tbl := tb_1 (List.mem_of_getElem? (i := 94) rfl)
set_option maxRecDepth 20000 in
theorem wd_95 : Jvm.Cond.instantiable "ToothWheelTimer$Wheel" (10 : Nat) ∈ lw_tbl := tb_1 (List.mem_of_getElem? (i := 95) rfl)
set_option maxRecDepth 20000 in
theorem wd_96 : Jvm.Cond.methodLinkNest "ToothWheelTimer" (77 : Nat) ({ cls := "ToothWheelTimer$Wheel", name := "<init>", desc := "(I)V" } : Jvm.MethodName) "ToothWheelTimer" ∈ lw_tbl := tb_1 (List.mem_of_getElem? (i := 96) rfl)
set_option maxRecDepth 20000 in
theorem wd_97 : Jvm.Cond.instanceMethod ({ cls := "ToothWheelTimer$Wheel", name := "<init>", desc := "(I)V" } : Jvm.MethodName) ∈ lw_tbl := tb_1 (List.mem_of_getElem? (i := 97) rfl)
set_option maxRecDepth 20000 in
theorem wd_98 : Jvm.Cond.code ({ cls := "ToothWheelTimer$Wheel", name := "<init>", desc := "(I)V" } : Jvm.MethodName) prog_6_method_1_code (2 : Nat) (Option.none : Option Jvm.ClassFile.FieldType) ∈ lw_tbl := tb_1 (List.mem_of_getElem? (i := 98) rfl)
set_option maxRecDepth 20000 in
theorem wd_99 : Jvm.Cond.methodLink "ToothWheelTimer$Wheel" (3 : Nat) ({ cls := "java/lang/Object", name := "<init>", desc := "()V" } : Jvm.MethodName) ∈ lw_tbl := tb_1 (List.mem_of_getElem? (i := 99) rfl)
set_option maxRecDepth 20000 in
theorem wd_100 : Jvm.Cond.fieldLink "ToothWheelTimer$Wheel" (38 : Nat) "ToothWheelTimer$Wheel" "lastNotch" "I" ∈ lw_tbl := tb_1 (List.mem_of_getElem? (i := 100) rfl)
set_option maxRecDepth 20000 in
theorem wd_101 : Jvm.Cond.fieldLink "ToothWheelTimer$Wheel" (35 : Nat) "ToothWheelTimer$Wheel" "positions" "I" ∈ lw_tbl := tb_1 (List.mem_of_getElem? (i := 101) rfl)
set_option maxRecDepth 20000 in
theorem wd_102 : Jvm.Cond.fieldLink "ToothWheelTimer$Wheel" (41 : Nat) "ToothWheelTimer$Wheel" "cycle" "I" ∈ lw_tbl := tb_1 (List.mem_of_getElem? (i := 102) rfl)
set_option maxRecDepth 20000 in
theorem wd_103 : Jvm.Cond.fieldLinkNest "ToothWheelTimer" (162 : Nat) "ToothWheelTimer$Wheel" "cycle" "I" "ToothWheelTimer" ∈ lw_tbl := tb_1 (List.mem_of_getElem? (i := 103) rfl)
set_option maxRecDepth 20000 in
theorem wd_104 : Jvm.Cond.fieldLink "ToothWheelTimer$Wheel" (9 : Nat) "ToothWheelTimer$Wheel" "phase" "I" ∈ lw_tbl := tb_1 (List.mem_of_getElem? (i := 104) rfl)
set_option maxRecDepth 20000 in
theorem wd_105 : Jvm.Cond.fieldLinkNest "ToothWheelTimer" (142 : Nat) "ToothWheelTimer$Wheel" "phase" "I" "ToothWheelTimer" ∈ lw_tbl := tb_1 (List.mem_of_getElem? (i := 105) rfl)
set_option maxRecDepth 20000 in
theorem wd_106 : Jvm.Cond.fieldLink "ToothWheelTimer$Wheel" (15 : Nat) "ToothWheelTimer$Wheel" "edgeKnown" "Z" ∈ lw_tbl := tb_1 (List.mem_of_getElem? (i := 106) rfl)
set_option maxRecDepth 20000 in
theorem wd_107 : Jvm.Cond.fieldLink "ToothWheelTimer$Wheel" (19 : Nat) "ToothWheelTimer$Wheel" "latest" "J" ∈ lw_tbl := tb_1 (List.mem_of_getElem? (i := 107) rfl)
set_option maxRecDepth 20000 in
theorem wd_108 : Jvm.Cond.fieldLinkNest "ToothWheelTimer" (165 : Nat) "ToothWheelTimer$Wheel" "latest" "J" "ToothWheelTimer" ∈ lw_tbl := tb_1 (List.mem_of_getElem? (i := 108) rfl)
set_option maxRecDepth 20000 in
theorem wd_109 : Jvm.Cond.fieldLink "ToothWheelTimer$Wheel" (23 : Nat) "ToothWheelTimer$Wheel" "pace" "J" ∈ lw_tbl := tb_1 (List.mem_of_getElem? (i := 109) rfl)
set_option maxRecDepth 20000 in
theorem wd_110 : Jvm.Cond.fieldLinkNest "ToothWheelTimer" (113 : Nat) "ToothWheelTimer$Wheel" "pace" "J" "ToothWheelTimer" ∈ lw_tbl := tb_1 (List.mem_of_getElem? (i := 110) rfl)
set_option maxRecDepth 20000 in
theorem wd_111 : Jvm.Cond.fieldLink "ToothWheelTimer$Wheel" (26 : Nat) "ToothWheelTimer$Wheel" "notch" "I" ∈ lw_tbl := tb_1 (List.mem_of_getElem? (i := 111) rfl)
set_option maxRecDepth 20000 in
theorem wd_112 : Jvm.Cond.fieldLinkNest "ToothWheelTimer" (156 : Nat) "ToothWheelTimer$Wheel" "notch" "I" "ToothWheelTimer" ∈ lw_tbl := tb_1 (List.mem_of_getElem? (i := 112) rfl)
set_option maxRecDepth 20000 in
theorem wd_113 : Jvm.Cond.fieldLink "ToothWheelTimer$Wheel" (29 : Nat) "ToothWheelTimer$Wheel" "round" "I" ∈ lw_tbl := tb_1 (List.mem_of_getElem? (i := 113) rfl)
set_option maxRecDepth 20000 in
theorem wd_114 : Jvm.Cond.fieldLinkNest "ToothWheelTimer" (159 : Nat) "ToothWheelTimer$Wheel" "round" "I" "ToothWheelTimer" ∈ lw_tbl := tb_1 (List.mem_of_getElem? (i := 114) rfl)
set_option maxRecDepth 20000 in
theorem wd_115 : Jvm.Cond.fieldLink "ToothWheelTimer$Wheel" (32 : Nat) "ToothWheelTimer$Wheel" "camCame" "Z" ∈ lw_tbl := tb_1 (List.mem_of_getElem? (i := 115) rfl)
set_option maxRecDepth 20000 in
theorem wd_116 : Jvm.Cond.laysFinal "ToothWheelTimer$Wheel" "ToothWheelTimer$Wheel" "lastNotch" "I" ∈ lw_tbl := tb_1 (List.mem_of_getElem? (i := 116) rfl)
set_option maxRecDepth 20000 in
theorem wd_117 : Jvm.Cond.soleField "ToothWheelTimer$Wheel" "lastNotch" ∈ lw_tbl := tb_1 (List.mem_of_getElem? (i := 117) rfl)
set_option maxRecDepth 20000 in
theorem wd_118 : Jvm.Cond.laysFinal "ToothWheelTimer$Wheel" "ToothWheelTimer$Wheel" "positions" "I" ∈ lw_tbl := tb_1 (List.mem_of_getElem? (i := 118) rfl)
set_option maxRecDepth 20000 in
theorem wd_119 : Jvm.Cond.soleField "ToothWheelTimer$Wheel" "positions" ∈ lw_tbl := tb_1 (List.mem_of_getElem? (i := 119) rfl)
set_option maxRecDepth 20000 in
theorem wd_120 : Jvm.Cond.laysFinal "ToothWheelTimer$Wheel" "ToothWheelTimer$Wheel" "cycle" "I" ∈ lw_tbl := tb_1 (List.mem_of_getElem? (i := 120) rfl)
set_option maxRecDepth 20000 in
theorem wd_121 : Jvm.Cond.soleField "ToothWheelTimer$Wheel" "cycle" ∈ lw_tbl := tb_1 (List.mem_of_getElem? (i := 121) rfl)
set_option maxRecDepth 20000 in
theorem wd_122 : Jvm.Cond.lays "ToothWheelTimer$Wheel" "ToothWheelTimer$Wheel" "phase" "I" ∈ lw_tbl := tb_1 (List.mem_of_getElem? (i := 122) rfl)
set_option maxRecDepth 20000 in
theorem wd_123 : Jvm.Cond.soleField "ToothWheelTimer$Wheel" "phase" ∈ lw_tbl := tb_1 (List.mem_of_getElem? (i := 123) rfl)
set_option maxRecDepth 20000 in
theorem wd_124 : Jvm.Cond.lays "ToothWheelTimer$Wheel" "ToothWheelTimer$Wheel" "edgeKnown" "Z" ∈ lw_tbl := tb_1 (List.mem_of_getElem? (i := 124) rfl)
set_option maxRecDepth 20000 in
theorem wd_125 : Jvm.Cond.soleField "ToothWheelTimer$Wheel" "edgeKnown" ∈ lw_tbl := tb_1 (List.mem_of_getElem? (i := 125) rfl)
set_option maxRecDepth 20000 in
theorem wd_126 : Jvm.Cond.lays "ToothWheelTimer$Wheel" "ToothWheelTimer$Wheel" "latest" "J" ∈ lw_tbl := tb_1 (List.mem_of_getElem? (i := 126) rfl)
set_option maxRecDepth 20000 in
theorem wd_127 : Jvm.Cond.soleField "ToothWheelTimer$Wheel" "latest" ∈ lw_tbl := tb_1 (List.mem_of_getElem? (i := 127) rfl)
set_option maxRecDepth 20000 in
theorem wd_128 : Jvm.Cond.lays "ToothWheelTimer$Wheel" "ToothWheelTimer$Wheel" "pace" "J" ∈ lw_tbl := tb_1 (List.mem_of_getElem? (i := 128) rfl)
set_option maxRecDepth 20000 in
theorem wd_129 : Jvm.Cond.soleField "ToothWheelTimer$Wheel" "pace" ∈ lw_tbl := tb_1 (List.mem_of_getElem? (i := 129) rfl)
set_option maxRecDepth 20000 in
theorem wd_130 : Jvm.Cond.lays "ToothWheelTimer$Wheel" "ToothWheelTimer$Wheel" "notch" "I" ∈ lw_tbl := tb_1 (List.mem_of_getElem? (i := 130) rfl)
set_option maxRecDepth 20000 in
theorem wd_131 : Jvm.Cond.soleField "ToothWheelTimer$Wheel" "notch" ∈ lw_tbl := tb_1 (List.mem_of_getElem? (i := 131) rfl)
set_option maxRecDepth 20000 in
theorem wd_132 : Jvm.Cond.lays "ToothWheelTimer$Wheel" "ToothWheelTimer$Wheel" "round" "I" ∈ lw_tbl := tb_1 (List.mem_of_getElem? (i := 132) rfl)
set_option maxRecDepth 20000 in
theorem wd_133 : Jvm.Cond.soleField "ToothWheelTimer$Wheel" "round" ∈ lw_tbl := tb_1 (List.mem_of_getElem? (i := 133) rfl)
set_option maxRecDepth 20000 in
theorem wd_134 : Jvm.Cond.lays "ToothWheelTimer$Wheel" "ToothWheelTimer$Wheel" "camCame" "Z" ∈ lw_tbl := tb_1 (List.mem_of_getElem? (i := 134) rfl)
set_option maxRecDepth 20000 in
theorem wd_135 : Jvm.Cond.soleField "ToothWheelTimer$Wheel" "camCame" ∈ lw_tbl := tb_1 (List.mem_of_getElem? (i := 135) rfl)
set_option maxRecDepth 20000 in
theorem wd_136 : Jvm.Cond.superclass "ToothWheelTimer$Wheel" "java/lang/Object" ∈ lw_tbl := tb_1 (List.mem_of_getElem? (i := 136) rfl)
set_option maxRecDepth 20000 in
theorem wd_137 : Jvm.Cond.classLink "ToothWheelTimer" (82 : Nat) "ToothWheelTimer$Agenda" ∈ lw_tbl := tb_1 (List.mem_of_getElem? (i := 137) rfl)
set_option maxRecDepth 20000 in
theorem wd_138 : Jvm.Cond.instantiable "ToothWheelTimer$Agenda" (6 : Nat) ∈ lw_tbl := tb_1 (List.mem_of_getElem? (i := 138) rfl)
set_option maxRecDepth 20000 in
theorem wd_139 : Jvm.Cond.methodLinkNest "ToothWheelTimer" (84 : Nat) ({ cls := "ToothWheelTimer$Agenda", name := "<init>", desc := "(I)V" } : Jvm.MethodName) "ToothWheelTimer" ∈ lw_tbl := tb_1 (List.mem_of_getElem? (i := 139) rfl)
set_option maxRecDepth 20000 in
theorem wd_140 : Jvm.Cond.instanceMethod ({ cls := "ToothWheelTimer$Agenda", name := "<init>", desc := "(I)V" } : Jvm.MethodName) ∈ lw_tbl := tb_1 (List.mem_of_getElem? (i := 140) rfl)
set_option maxRecDepth 20000 in
theorem wd_141 : Jvm.Cond.code ({ cls := "ToothWheelTimer$Agenda", name := "<init>", desc := "(I)V" } : Jvm.MethodName) prog_2_method_1_code (2 : Nat) (Option.none : Option Jvm.ClassFile.FieldType) ∈ lw_tbl := tb_1 (List.mem_of_getElem? (i := 141) rfl)
set_option maxRecDepth 20000 in
theorem wd_142 : Jvm.Cond.methodLink "ToothWheelTimer$Agenda" (3 : Nat) ({ cls := "java/lang/Object", name := "<init>", desc := "()V" } : Jvm.MethodName) ∈ lw_tbl := tb_1 (List.mem_of_getElem? (i := 142) rfl)
set_option maxRecDepth 20000 in
theorem wd_143 : Jvm.Cond.fieldLink "ToothWheelTimer$Agenda" (18 : Nat) "ToothWheelTimer$Agenda" "cylinders" "I" ∈ lw_tbl := tb_1 (List.mem_of_getElem? (i := 143) rfl)
set_option maxRecDepth 20000 in
theorem wd_144 : Jvm.Cond.fieldLink "ToothWheelTimer$Agenda" (21 : Nat) "ToothWheelTimer$Agenda" "taken" "[Z" ∈ lw_tbl := tb_1 (List.mem_of_getElem? (i := 144) rfl)
set_option maxRecDepth 20000 in
theorem wd_145 : Jvm.Cond.fieldLink "ToothWheelTimer$Agenda" (25 : Nat) "ToothWheelTimer$Agenda" "times" "[J" ∈ lw_tbl := tb_1 (List.mem_of_getElem? (i := 145) rfl)
set_option maxRecDepth 20000 in
theorem wd_146 : Jvm.Cond.fieldLinkNest "ToothWheelTimer" (229 : Nat) "ToothWheelTimer$Agenda" "times" "[J" "ToothWheelTimer" ∈ lw_tbl := tb_1 (List.mem_of_getElem? (i := 146) rfl)
set_option maxRecDepth 20000 in
theorem wd_147 : Jvm.Cond.fieldLink "ToothWheelTimer$Agenda" (29 : Nat) "ToothWheelTimer$Agenda" "ranks" "[I" ∈ lw_tbl := tb_1 (List.mem_of_getElem? (i := 147) rfl)
set_option maxRecDepth 20000 in
theorem wd_148 : Jvm.Cond.fieldLink "ToothWheelTimer$Agenda" (9 : Nat) "ToothWheelTimer$Agenda" "nextRank" "I" ∈ lw_tbl := tb_1 (List.mem_of_getElem? (i := 148) rfl)
set_option maxRecDepth 20000 in
theorem wd_149 : Jvm.Cond.fieldLink "ToothWheelTimer$Agenda" (15 : Nat) "ToothWheelTimer$Agenda" "size" "I" ∈ lw_tbl := tb_1 (List.mem_of_getElem? (i := 149) rfl)
set_option maxRecDepth 20000 in
theorem wd_150 : Jvm.Cond.fieldLinkNest "ToothWheelTimer" (178 : Nat) "ToothWheelTimer$Agenda" "size" "I" "ToothWheelTimer" ∈ lw_tbl := tb_1 (List.mem_of_getElem? (i := 150) rfl)
set_option maxRecDepth 20000 in
theorem wd_151 : Jvm.Cond.laysFinal "ToothWheelTimer$Agenda" "ToothWheelTimer$Agenda" "cylinders" "I" ∈ lw_tbl := tb_1 (List.mem_of_getElem? (i := 151) rfl)
set_option maxRecDepth 20000 in
theorem wd_152 : Jvm.Cond.soleField "ToothWheelTimer$Agenda" "cylinders" ∈ lw_tbl := tb_1 (List.mem_of_getElem? (i := 152) rfl)
set_option maxRecDepth 20000 in
theorem wd_153 : Jvm.Cond.laysFinal "ToothWheelTimer$Agenda" "ToothWheelTimer$Agenda" "taken" "[Z" ∈ lw_tbl := tb_1 (List.mem_of_getElem? (i := 153) rfl)
set_option maxRecDepth 20000 in
theorem wd_154 : Jvm.Cond.soleField "ToothWheelTimer$Agenda" "taken" ∈ lw_tbl := tb_1 (List.mem_of_getElem? (i := 154) rfl)
set_option maxRecDepth 20000 in
theorem wd_155 : Jvm.Cond.laysFinal "ToothWheelTimer$Agenda" "ToothWheelTimer$Agenda" "times" "[J" ∈ lw_tbl := tb_1 (List.mem_of_getElem? (i := 155) rfl)
set_option maxRecDepth 20000 in
theorem wd_156 : Jvm.Cond.soleField "ToothWheelTimer$Agenda" "times" ∈ lw_tbl := tb_1 (List.mem_of_getElem? (i := 156) rfl)
set_option maxRecDepth 20000 in
theorem wd_157 : Jvm.Cond.laysFinal "ToothWheelTimer$Agenda" "ToothWheelTimer$Agenda" "ranks" "[I" ∈ lw_tbl := tb_1 (List.mem_of_getElem? (i := 157) rfl)
set_option maxRecDepth 20000 in
theorem wd_158 : Jvm.Cond.soleField "ToothWheelTimer$Agenda" "ranks" ∈ lw_tbl := tb_1 (List.mem_of_getElem? (i := 158) rfl)
set_option maxRecDepth 20000 in
theorem wd_159 : Jvm.Cond.lays "ToothWheelTimer$Agenda" "ToothWheelTimer$Agenda" "nextRank" "I" ∈ lw_tbl := tb_1 (List.mem_of_getElem? (i := 159) rfl)
set_option maxRecDepth 20000 in
theorem wd_160 : Jvm.Cond.soleField "ToothWheelTimer$Agenda" "nextRank" ∈ lw_tbl := tb_1 (List.mem_of_getElem? (i := 160) rfl)
set_option maxRecDepth 20000 in
theorem wd_161 : Jvm.Cond.lays "ToothWheelTimer$Agenda" "ToothWheelTimer$Agenda" "size" "I" ∈ lw_tbl := tb_1 (List.mem_of_getElem? (i := 161) rfl)
set_option maxRecDepth 20000 in
theorem wd_162 : Jvm.Cond.soleField "ToothWheelTimer$Agenda" "size" ∈ lw_tbl := tb_1 (List.mem_of_getElem? (i := 162) rfl)
set_option maxRecDepth 20000 in
theorem wd_163 : Jvm.Cond.superclass "ToothWheelTimer$Agenda" "java/lang/Object" ∈ lw_tbl := tb_1 (List.mem_of_getElem? (i := 163) rfl)
set_option maxRecDepth 20000 in
theorem wd_164 : Jvm.Cond.arrayClass Jvm.ClassFile.FieldType.boolean ∈ lw_tbl := tb_1 (List.mem_of_getElem? (i := 164) rfl)
set_option maxRecDepth 20000 in
theorem wd_165 : Jvm.Cond.fieldLink "ToothWheelTimer" (65 : Nat) "ToothWheelTimer" "cylinders" "I" ∈ lw_tbl := tb_1 (List.mem_of_getElem? (i := 165) rfl)
set_option maxRecDepth 20000 in
theorem wd_166 : Jvm.Cond.fieldLink "ToothWheelTimer" (68 : Nat) "ToothWheelTimer" "chargeSteps" "I" ∈ lw_tbl := tb_1 (List.mem_of_getElem? (i := 166) rfl)
set_option maxRecDepth 20000 in
theorem wd_167 : Jvm.Cond.fieldLink "ToothWheelTimer" (72 : Nat) "ToothWheelTimer" "longestDwell" "I" ∈ lw_tbl := tb_1 (List.mem_of_getElem? (i := 167) rfl)
set_option maxRecDepth 20000 in
theorem wd_168 : Jvm.Cond.fieldLink "ToothWheelTimer" (78 : Nat) "ToothWheelTimer" "wheel" "LToothWheelTimer$Wheel;" ∈ lw_tbl := tb_1 (List.mem_of_getElem? (i := 168) rfl)
set_option maxRecDepth 20000 in
theorem wd_169 : Jvm.Cond.fieldLink "ToothWheelTimer" (85 : Nat) "ToothWheelTimer" "agenda" "LToothWheelTimer$Agenda;" ∈ lw_tbl := tb_1 (List.mem_of_getElem? (i := 169) rfl)
set_option maxRecDepth 20000 in
theorem wd_170 : Jvm.Cond.fieldLink "ToothWheelTimer" (10 : Nat) "ToothWheelTimer" "panel" "LToothWheelTimer$Panel;" ∈ lw_tbl := tb_1 (List.mem_of_getElem? (i := 170) rfl)
set_option maxRecDepth 20000 in
theorem wd_171 : Jvm.Cond.fieldLink "ToothWheelTimer" (21 : Nat) "ToothWheelTimer" "advance" "LToothWheelTimer$Chart;" ∈ lw_tbl := tb_1 (List.mem_of_getElem? (i := 171) rfl)
set_option maxRecDepth 20000 in
theorem wd_172 : Jvm.Cond.fieldLink "ToothWheelTimer" (25 : Nat) "ToothWheelTimer" "fuel" "LToothWheelTimer$Chart;" ∈ lw_tbl := tb_1 (List.mem_of_getElem? (i := 172) rfl)
set_option maxRecDepth 20000 in
theorem wd_173 : Jvm.Cond.fieldLink "ToothWheelTimer" (37 : Nat) "ToothWheelTimer" "load" "LToothWheelTimer$Sensor;" ∈ lw_tbl := tb_1 (List.mem_of_getElem? (i := 173) rfl)
set_option maxRecDepth 20000 in
theorem wd_174 : Jvm.Cond.fieldLink "ToothWheelTimer" (44 : Nat) "ToothWheelTimer" "heat" "LToothWheelTimer$Sensor;" ∈ lw_tbl := tb_1 (List.mem_of_getElem? (i := 174) rfl)
set_option maxRecDepth 20000 in
theorem wd_175 : Jvm.Cond.fieldLink "ToothWheelTimer" (47 : Nat) "ToothWheelTimer" "now" "J" ∈ lw_tbl := tb_1 (List.mem_of_getElem? (i := 175) rfl)
set_option maxRecDepth 20000 in
theorem wd_176 : Jvm.Cond.fieldLink "ToothWheelTimer" (51 : Nat) "ToothWheelTimer" "sparks" "I" ∈ lw_tbl := tb_1 (List.mem_of_getElem? (i := 176) rfl)
set_option maxRecDepth 20000 in
theorem wd_177 : Jvm.Cond.fieldLink "ToothWheelTimer" (55 : Nat) "ToothWheelTimer" "cuts" "I" ∈ lw_tbl := tb_1 (List.mem_of_getElem? (i := 177) rfl)
set_option maxRecDepth 20000 in
theorem wd_178 : Jvm.Cond.fieldLink "ToothWheelTimer" (58 : Nat) "ToothWheelTimer" "unlockings" "I" ∈ lw_tbl := tb_1 (List.mem_of_getElem? (i := 178) rfl)
set_option maxRecDepth 20000 in
theorem wd_179 : Jvm.Cond.laysFinal "ToothWheelTimer" "ToothWheelTimer" "cylinders" "I" ∈ lw_tbl := tb_1 (List.mem_of_getElem? (i := 179) rfl)
set_option maxRecDepth 20000 in
theorem wd_180 : Jvm.Cond.soleField "ToothWheelTimer" "cylinders" ∈ lw_tbl := tb_1 (List.mem_of_getElem? (i := 180) rfl)
set_option maxRecDepth 20000 in
theorem wd_181 : Jvm.Cond.laysFinal "ToothWheelTimer" "ToothWheelTimer" "chargeSteps" "I" ∈ lw_tbl := tb_1 (List.mem_of_getElem? (i := 181) rfl)
set_option maxRecDepth 20000 in
theorem wd_182 : Jvm.Cond.soleField "ToothWheelTimer" "chargeSteps" ∈ lw_tbl := tb_1 (List.mem_of_getElem? (i := 182) rfl)
set_option maxRecDepth 20000 in
theorem wd_183 : Jvm.Cond.laysFinal "ToothWheelTimer" "ToothWheelTimer" "longestDwell" "I" ∈ lw_tbl := tb_1 (List.mem_of_getElem? (i := 183) rfl)
set_option maxRecDepth 20000 in
theorem wd_184 : Jvm.Cond.soleField "ToothWheelTimer" "longestDwell" ∈ lw_tbl := tb_1 (List.mem_of_getElem? (i := 184) rfl)
set_option maxRecDepth 20000 in
theorem wd_185 : Jvm.Cond.laysFinal "ToothWheelTimer" "ToothWheelTimer" "wheel" "LToothWheelTimer$Wheel;" ∈ lw_tbl := tb_1 (List.mem_of_getElem? (i := 185) rfl)
set_option maxRecDepth 20000 in
theorem wd_186 : Jvm.Cond.soleField "ToothWheelTimer" "wheel" ∈ lw_tbl := tb_1 (List.mem_of_getElem? (i := 186) rfl)
set_option maxRecDepth 20000 in
theorem wd_187 : Jvm.Cond.laysFinal "ToothWheelTimer" "ToothWheelTimer" "agenda" "LToothWheelTimer$Agenda;" ∈ lw_tbl := tb_1 (List.mem_of_getElem? (i := 187) rfl)
set_option maxRecDepth 20000 in
theorem wd_188 : Jvm.Cond.soleField "ToothWheelTimer" "agenda" ∈ lw_tbl := tb_1 (List.mem_of_getElem? (i := 188) rfl)
set_option maxRecDepth 20000 in
theorem wd_189 : Jvm.Cond.laysFinal "ToothWheelTimer" "ToothWheelTimer" "panel" "LToothWheelTimer$Panel;" ∈ lw_tbl := tb_1 (List.mem_of_getElem? (i := 189) rfl)
set_option maxRecDepth 20000 in
theorem wd_190 : Jvm.Cond.soleField "ToothWheelTimer" "panel" ∈ lw_tbl := tb_1 (List.mem_of_getElem? (i := 190) rfl)
set_option maxRecDepth 20000 in
theorem wd_191 : Jvm.Cond.laysFinal "ToothWheelTimer" "ToothWheelTimer" "advance" "LToothWheelTimer$Chart;" ∈ lw_tbl := tb_1 (List.mem_of_getElem? (i := 191) rfl)
set_option maxRecDepth 20000 in
theorem wd_192 : Jvm.Cond.soleField "ToothWheelTimer" "advance" ∈ lw_tbl := tb_1 (List.mem_of_getElem? (i := 192) rfl)
set_option maxRecDepth 20000 in
theorem wd_193 : Jvm.Cond.laysFinal "ToothWheelTimer" "ToothWheelTimer" "fuel" "LToothWheelTimer$Chart;" ∈ lw_tbl := tb_1 (List.mem_of_getElem? (i := 193) rfl)
set_option maxRecDepth 20000 in
theorem wd_194 : Jvm.Cond.soleField "ToothWheelTimer" "fuel" ∈ lw_tbl := tb_1 (List.mem_of_getElem? (i := 194) rfl)
set_option maxRecDepth 20000 in
theorem wd_195 : Jvm.Cond.laysFinal "ToothWheelTimer" "ToothWheelTimer" "load" "LToothWheelTimer$Sensor;" ∈ lw_tbl := tb_1 (List.mem_of_getElem? (i := 195) rfl)
set_option maxRecDepth 20000 in
theorem wd_196 : Jvm.Cond.soleField "ToothWheelTimer" "load" ∈ lw_tbl := tb_1 (List.mem_of_getElem? (i := 196) rfl)
set_option maxRecDepth 20000 in
theorem wd_197 : Jvm.Cond.laysFinal "ToothWheelTimer" "ToothWheelTimer" "heat" "LToothWheelTimer$Sensor;" ∈ lw_tbl := tb_1 (List.mem_of_getElem? (i := 197) rfl)
set_option maxRecDepth 20000 in
theorem wd_198 : Jvm.Cond.soleField "ToothWheelTimer" "heat" ∈ lw_tbl := tb_1 (List.mem_of_getElem? (i := 198) rfl)
set_option maxRecDepth 20000 in
theorem wd_199 : Jvm.Cond.lays "ToothWheelTimer" "ToothWheelTimer" "now" "J" ∈ lw_tbl := tb_1 (List.mem_of_getElem? (i := 199) rfl)
set_option maxRecDepth 20000 in
theorem wd_200 : Jvm.Cond.soleField "ToothWheelTimer" "now" ∈ lw_tbl := tb_1 (List.mem_of_getElem? (i := 200) rfl)
set_option maxRecDepth 20000 in
theorem wd_201 : Jvm.Cond.lays "ToothWheelTimer" "ToothWheelTimer" "sparks" "I" ∈ lw_tbl := tb_1 (List.mem_of_getElem? (i := 201) rfl)
set_option maxRecDepth 20000 in
theorem wd_202 : Jvm.Cond.soleField "ToothWheelTimer" "sparks" ∈ lw_tbl := tb_1 (List.mem_of_getElem? (i := 202) rfl)
set_option maxRecDepth 20000 in
theorem wd_203 : Jvm.Cond.lays "ToothWheelTimer" "ToothWheelTimer" "cuts" "I" ∈ lw_tbl := tb_1 (List.mem_of_getElem? (i := 203) rfl)
set_option maxRecDepth 20000 in
theorem wd_204 : Jvm.Cond.soleField "ToothWheelTimer" "cuts" ∈ lw_tbl := tb_1 (List.mem_of_getElem? (i := 204) rfl)
set_option maxRecDepth 20000 in
theorem wd_205 : Jvm.Cond.lays "ToothWheelTimer" "ToothWheelTimer" "unlockings" "I" ∈ lw_tbl := tb_1 (List.mem_of_getElem? (i := 205) rfl)
set_option maxRecDepth 20000 in
theorem wd_206 : Jvm.Cond.soleField "ToothWheelTimer" "unlockings" ∈ lw_tbl := tb_1 (List.mem_of_getElem? (i := 206) rfl)
set_option maxRecDepth 20000 in
theorem wd_207 : Jvm.Cond.superclass "ToothWheelTimer" "java/lang/Object" ∈ lw_tbl := tb_1 (List.mem_of_getElem? (i := 207) rfl)
set_option maxRecDepth 20000 in
theorem wd_208 : Jvm.Cond.methodLink "ToothWheelTimerLaw" (21 : Nat) ({ cls := "ToothWheelTimer", name := "set", desc := "(IIII)Z" } : Jvm.MethodName) ∈ lw_tbl := tb_1 (List.mem_of_getElem? (i := 208) rfl)
set_option maxRecDepth 20000 in
theorem wd_209 : Jvm.Cond.instanceMethod ({ cls := "ToothWheelTimer", name := "set", desc := "(IIII)Z" } : Jvm.MethodName) ∈ lw_tbl := tb_1 (List.mem_of_getElem? (i := 209) rfl)
set_option maxRecDepth 20000 in
theorem wd_210 : Jvm.Cond.selects "ToothWheelTimer" ({ cls := "ToothWheelTimer", name := "set", desc := "(IIII)Z" } : Jvm.MethodName) ({ cls := "ToothWheelTimer", name := "set", desc := "(IIII)Z" } : Jvm.MethodName) ∈ lw_tbl := tb_1 (List.mem_of_getElem? (i := 210) rfl)
set_option maxRecDepth 20000 in
theorem wd_211 : Jvm.Cond.code ({ cls := "ToothWheelTimer", name := "set", desc := "(IIII)Z" } : Jvm.MethodName) prog_1_method_2_code (6 : Nat) (Option.some Jvm.ClassFile.FieldType.boolean) ∈ lw_tbl := tb_1 (List.mem_of_getElem? (i := 211) rfl)
set_option maxRecDepth 20000 in
theorem wd_212 : Jvm.Cond.methodLink "ToothWheelTimer" (89 : Nat) ({ cls := "ToothWheelTimer", name := "chartOf", desc := "(I)LToothWheelTimer$Chart;" } : Jvm.MethodName) ∈ lw_tbl := tb_1 (List.mem_of_getElem? (i := 212) rfl)
set_option maxRecDepth 20000 in
theorem wd_213 : Jvm.Cond.privateMethod ({ cls := "ToothWheelTimer", name := "chartOf", desc := "(I)LToothWheelTimer$Chart;" } : Jvm.MethodName) ∈ lw_tbl := tb_1 (List.mem_of_getElem? (i := 213) rfl)
set_option maxRecDepth 20000 in
theorem wd_214 : Jvm.Cond.instanceMethod ({ cls := "ToothWheelTimer", name := "chartOf", desc := "(I)LToothWheelTimer$Chart;" } : Jvm.MethodName) ∈ lw_tbl := tb_1 (List.mem_of_getElem? (i := 214) rfl)
set_option maxRecDepth 20000 in
theorem wd_215 : Jvm.Cond.code ({ cls := "ToothWheelTimer", name := "chartOf", desc := "(I)LToothWheelTimer$Chart;" } : Jvm.MethodName) prog_1_method_23_code (2 : Nat) (Option.some (Jvm.ClassFile.FieldType.object "ToothWheelTimer$Chart")) ∈ lw_tbl := tb_1 (List.mem_of_getElem? (i := 215) rfl)
set_option maxRecDepth 20000 in
theorem wd_216 : Jvm.Cond.methodLinkNest "ToothWheelTimer" (93 : Nat) ({ cls := "ToothWheelTimer$Chart", name := "put", desc := "(III)Z" } : Jvm.MethodName) "ToothWheelTimer" ∈ lw_tbl := tb_1 (List.mem_of_getElem? (i := 216) rfl)
set_option maxRecDepth 20000 in
theorem wd_217 : Jvm.Cond.privateMethod ({ cls := "ToothWheelTimer$Chart", name := "put", desc := "(III)Z" } : Jvm.MethodName) ∈ lw_tbl := tb_1 (List.mem_of_getElem? (i := 217) rfl)
set_option maxRecDepth 20000 in
theorem wd_218 : Jvm.Cond.instanceMethod ({ cls := "ToothWheelTimer$Chart", name := "put", desc := "(III)Z" } : Jvm.MethodName) ∈ lw_tbl := tb_1 (List.mem_of_getElem? (i := 218) rfl)
set_option maxRecDepth 20000 in
theorem wd_219 : Jvm.Cond.code ({ cls := "ToothWheelTimer$Chart", name := "put", desc := "(III)Z" } : Jvm.MethodName) prog_3_method_2_code (4 : Nat) (Option.some Jvm.ClassFile.FieldType.boolean) ∈ lw_tbl := tb_1 (List.mem_of_getElem? (i := 219) rfl)
set_option maxRecDepth 20000 in
theorem wd_220 : Jvm.Cond.methodLink "ToothWheelTimerLaw" (26 : Nat) ({ cls := "ToothWheelTimer", name := "look", desc := "(III)I" } : Jvm.MethodName) ∈ lw_tbl := tb_1 (List.mem_of_getElem? (i := 220) rfl)
set_option maxRecDepth 20000 in
theorem wd_221 : Jvm.Cond.instanceMethod ({ cls := "ToothWheelTimer", name := "look", desc := "(III)I" } : Jvm.MethodName) ∈ lw_tbl := tb_1 (List.mem_of_getElem? (i := 221) rfl)
set_option maxRecDepth 20000 in
theorem wd_222 : Jvm.Cond.selects "ToothWheelTimer" ({ cls := "ToothWheelTimer", name := "look", desc := "(III)I" } : Jvm.MethodName) ({ cls := "ToothWheelTimer", name := "look", desc := "(III)I" } : Jvm.MethodName) ∈ lw_tbl := tb_1 (List.mem_of_getElem? (i := 222) rfl)
set_option maxRecDepth 20000 in
theorem wd_223 : Jvm.Cond.code ({ cls := "ToothWheelTimer", name := "look", desc := "(III)I" } : Jvm.MethodName) prog_1_method_3_code (5 : Nat) (Option.some Jvm.ClassFile.FieldType.int) ∈ lw_tbl := tb_1 (List.mem_of_getElem? (i := 223) rfl)
set_option maxRecDepth 20000 in
theorem wd_224 : Jvm.Cond.methodLinkNest "ToothWheelTimer" (97 : Nat) ({ cls := "ToothWheelTimer$Chart", name := "at", desc := "(II)I" } : Jvm.MethodName) "ToothWheelTimer" ∈ lw_tbl := tb_1 (List.mem_of_getElem? (i := 224) rfl)
set_option maxRecDepth 20000 in
theorem wd_225 : Jvm.Cond.privateMethod ({ cls := "ToothWheelTimer$Chart", name := "at", desc := "(II)I" } : Jvm.MethodName) ∈ lw_tbl := tb_1 (List.mem_of_getElem? (i := 225) rfl)
set_option maxRecDepth 20000 in
theorem wd_226 : Jvm.Cond.instanceMethod ({ cls := "ToothWheelTimer$Chart", name := "at", desc := "(II)I" } : Jvm.MethodName) ∈ lw_tbl := tb_1 (List.mem_of_getElem? (i := 226) rfl)
set_option maxRecDepth 20000 in
theorem wd_227 : Jvm.Cond.code ({ cls := "ToothWheelTimer$Chart", name := "at", desc := "(II)I" } : Jvm.MethodName) prog_3_method_3_code (12 : Nat) (Option.some Jvm.ClassFile.FieldType.int) ∈ lw_tbl := tb_1 (List.mem_of_getElem? (i := 227) rfl)
set_option maxRecDepth 20000 in
theorem wd_228 : Jvm.Cond.constantLong "ToothWheelTimer$Chart" (19 : Nat) (256 : Int64) ∈ lw_tbl := tb_1 (List.mem_of_getElem? (i := 228) rfl)
set_option maxRecDepth 20000 in
theorem wd_229 : Jvm.Cond.constantLong "ToothWheelTimer$Chart" (21 : Nat) (32768 : Int64) ∈ lw_tbl := tb_1 (List.mem_of_getElem? (i := 229) rfl)
set_option maxRecDepth 20000 in
theorem wd_230 : Jvm.Cond.constantLong "ToothWheelTimer$Chart" (23 : Nat) (65536 : Int64) ∈ lw_tbl := tb_1 (List.mem_of_getElem? (i := 230) rfl)
set_option maxRecDepth 20000 in
theorem wd_231 : Jvm.Cond.methodLink "ToothWheelTimerLaw" (31 : Nat) ({ cls := "ToothWheelTimer", name := "sample", desc := "(II)Z" } : Jvm.MethodName) ∈ lw_tbl := tb_1 (List.mem_of_getElem? (i := 231) rfl)
set_option maxRecDepth 20000 in
theorem wd_232 : Jvm.Cond.instanceMethod ({ cls := "ToothWheelTimer", name := "sample", desc := "(II)Z" } : Jvm.MethodName) ∈ lw_tbl := tb_1 (List.mem_of_getElem? (i := 232) rfl)
set_option maxRecDepth 20000 in
theorem wd_233 : Jvm.Cond.selects "ToothWheelTimer" ({ cls := "ToothWheelTimer", name := "sample", desc := "(II)Z" } : Jvm.MethodName) ({ cls := "ToothWheelTimer", name := "sample", desc := "(II)Z" } : Jvm.MethodName) ∈ lw_tbl := tb_1 (List.mem_of_getElem? (i := 233) rfl)
set_option maxRecDepth 20000 in
theorem wd_234 : Jvm.Cond.code ({ cls := "ToothWheelTimer", name := "sample", desc := "(II)Z" } : Jvm.MethodName) prog_1_method_4_code (5 : Nat) (Option.some Jvm.ClassFile.FieldType.boolean) ∈ lw_tbl := tb_1 (List.mem_of_getElem? (i := 234) rfl)
set_option maxRecDepth 20000 in
theorem wd_235 : Jvm.Cond.methodLink "ToothWheelTimer" (101 : Nat) ({ cls := "ToothWheelTimer", name := "sensorOf", desc := "(I)LToothWheelTimer$Sensor;" } : Jvm.MethodName) ∈ lw_tbl := tb_1 (List.mem_of_getElem? (i := 235) rfl)
set_option maxRecDepth 20000 in
theorem wd_236 : Jvm.Cond.privateMethod ({ cls := "ToothWheelTimer", name := "sensorOf", desc := "(I)LToothWheelTimer$Sensor;" } : Jvm.MethodName) ∈ lw_tbl := tb_1 (List.mem_of_getElem? (i := 236) rfl)
set_option maxRecDepth 20000 in
theorem wd_237 : Jvm.Cond.instanceMethod ({ cls := "ToothWheelTimer", name := "sensorOf", desc := "(I)LToothWheelTimer$Sensor;" } : Jvm.MethodName) ∈ lw_tbl := tb_1 (List.mem_of_getElem? (i := 237) rfl)
set_option maxRecDepth 20000 in
theorem wd_238 : Jvm.Cond.code ({ cls := "ToothWheelTimer", name := "sensorOf", desc := "(I)LToothWheelTimer$Sensor;" } : Jvm.MethodName) prog_1_method_24_code (2 : Nat) (Option.some (Jvm.ClassFile.FieldType.object "ToothWheelTimer$Sensor")) ∈ lw_tbl := tb_1 (List.mem_of_getElem? (i := 238) rfl)
set_option maxRecDepth 20000 in
theorem wd_239 : Jvm.Cond.methodLinkNest "ToothWheelTimer" (105 : Nat) ({ cls := "ToothWheelTimer$Sensor", name := "take", desc := "(I)Z" } : Jvm.MethodName) "ToothWheelTimer" ∈ lw_tbl := tb_1 (List.mem_of_getElem? (i := 239) rfl)
set_option maxRecDepth 20000 in
theorem wd_240 : Jvm.Cond.privateMethod ({ cls := "ToothWheelTimer$Sensor", name := "take", desc := "(I)Z" } : Jvm.MethodName) ∈ lw_tbl := tb_2 (List.mem_of_getElem? (i := 0) rfl)
set_option maxRecDepth 20000 in
theorem wd_241 : Jvm.Cond.instanceMethod ({ cls := "ToothWheelTimer$Sensor", name := "take", desc := "(I)Z" } : Jvm.MethodName) ∈ lw_tbl := tb_2 (List.mem_of_getElem? (i := 1) rfl)
set_option maxRecDepth 20000 in
theorem wd_242 : Jvm.Cond.code ({ cls := "ToothWheelTimer$Sensor", name := "take", desc := "(I)Z" } : Jvm.MethodName) prog_5_method_2_code (3 : Nat) (Option.some Jvm.ClassFile.FieldType.boolean) ∈ lw_tbl := tb_2 (List.mem_of_getElem? (i := 2) rfl)
set_option maxRecDepth 20000 in
theorem wd_243 : Jvm.Cond.methodLink "ToothWheelTimer$Sensor" (36 : Nat) ({ cls := "ToothWheelTimer$Sensor", name := "inRange", desc := "(I)Z" } : Jvm.MethodName) ∈ lw_tbl := tb_2 (List.mem_of_getElem? (i := 3) rfl)
set_option maxRecDepth 20000 in
theorem wd_244 : Jvm.Cond.static ({ cls := "ToothWheelTimer$Sensor", name := "inRange", desc := "(I)Z" } : Jvm.MethodName) ∈ lw_tbl := tb_2 (List.mem_of_getElem? (i := 4) rfl)
set_option maxRecDepth 20000 in
theorem wd_245 : Jvm.Cond.code ({ cls := "ToothWheelTimer$Sensor", name := "inRange", desc := "(I)Z" } : Jvm.MethodName) prog_5_method_3_code (1 : Nat) (Option.some Jvm.ClassFile.FieldType.boolean) ∈ lw_tbl := tb_2 (List.mem_of_getElem? (i := 5) rfl)
set_option maxRecDepth 20000 in
theorem wd_246 : Jvm.Cond.methodLink "ToothWheelTimer$Sensor" (40 : Nat) ({ cls := "java/lang/Math", name := "abs", desc := "(I)I" } : Jvm.MethodName) ∈ lw_tbl := tb_2 (List.mem_of_getElem? (i := 6) rfl)
set_option maxRecDepth 20000 in
theorem wd_247 : Jvm.Cond.static ({ cls := "java/lang/Math", name := "abs", desc := "(I)I" } : Jvm.MethodName) ∈ lw_tbl := tb_2 (List.mem_of_getElem? (i := 7) rfl)
set_option maxRecDepth 20000 in
theorem wd_248 : Jvm.Cond.code ({ cls := "java/lang/Math", name := "abs", desc := "(I)I" } : Jvm.MethodName) prog_9_method_59_code (1 : Nat) (Option.some Jvm.ClassFile.FieldType.int) ∈ lw_tbl := tb_2 (List.mem_of_getElem? (i := 8) rfl)
set_option maxRecDepth 20000 in
theorem wd_249 : Jvm.Cond.methodLink "ToothWheelTimer$Sensor" (46 : Nat) ({ cls := "java/lang/Math", name := "max", desc := "(II)I" } : Jvm.MethodName) ∈ lw_tbl := tb_2 (List.mem_of_getElem? (i := 9) rfl)
set_option maxRecDepth 20000 in
theorem wd_250 : Jvm.Cond.methodLink "ToothWheelTimer$Sensor" (50 : Nat) ({ cls := "ToothWheelTimer$Sensor", name := "onCurve", desc := "(I)I" } : Jvm.MethodName) ∈ lw_tbl := tb_2 (List.mem_of_getElem? (i := 10) rfl)
set_option maxRecDepth 20000 in
theorem wd_251 : Jvm.Cond.privateMethod ({ cls := "ToothWheelTimer$Sensor", name := "onCurve", desc := "(I)I" } : Jvm.MethodName) ∈ lw_tbl := tb_2 (List.mem_of_getElem? (i := 11) rfl)
set_option maxRecDepth 20000 in
theorem wd_252 : Jvm.Cond.instanceMethod ({ cls := "ToothWheelTimer$Sensor", name := "onCurve", desc := "(I)I" } : Jvm.MethodName) ∈ lw_tbl := tb_2 (List.mem_of_getElem? (i := 12) rfl)
set_option maxRecDepth 20000 in
theorem wd_253 : Jvm.Cond.code ({ cls := "ToothWheelTimer$Sensor", name := "onCurve", desc := "(I)I" } : Jvm.MethodName) prog_5_method_4_code (3 : Nat) (Option.some Jvm.ClassFile.FieldType.int) ∈ lw_tbl := tb_2 (List.mem_of_getElem? (i := 13) rfl)
set_option maxRecDepth 20000 in
theorem wd_254 : Jvm.Cond.methodLink "ToothWheelTimer$Sensor" (56 : Nat) ({ cls := "java/lang/Math", name := "floorDiv", desc := "(II)I" } : Jvm.MethodName) ∈ lw_tbl := tb_2 (List.mem_of_getElem? (i := 14) rfl)
set_option maxRecDepth 20000 in
theorem wd_255 : Jvm.Cond.static ({ cls := "java/lang/Math", name := "floorDiv", desc := "(II)I" } : Jvm.MethodName) ∈ lw_tbl := tb_2 (List.mem_of_getElem? (i := 15) rfl)
set_option maxRecDepth 20000 in
theorem wd_256 : Jvm.Cond.code ({ cls := "java/lang/Math", name := "floorDiv", desc := "(II)I" } : Jvm.MethodName) prog_9_method_47_code (3 : Nat) (Option.some Jvm.ClassFile.FieldType.int) ∈ lw_tbl := tb_2 (List.mem_of_getElem? (i := 16) rfl)
set_option maxRecDepth 20000 in
theorem wd_257 : Jvm.Cond.methodLink "ToothWheelTimer$Sensor" (53 : Nat) ({ cls := "java/lang/Math", name := "min", desc := "(II)I" } : Jvm.MethodName) ∈ lw_tbl := tb_2 (List.mem_of_getElem? (i := 17) rfl)
set_option maxRecDepth 20000 in
theorem wd_258 : Jvm.Cond.methodLinkNest "ToothWheelTimer" (109 : Nat) ({ cls := "ToothWheelTimer$Sensor", name := "wantsCode", desc := "()Z" } : Jvm.MethodName) "ToothWheelTimer" ∈ lw_tbl := tb_2 (List.mem_of_getElem? (i := 18) rfl)
set_option maxRecDepth 20000 in
theorem wd_259 : Jvm.Cond.privateMethod ({ cls := "ToothWheelTimer$Sensor", name := "wantsCode", desc := "()Z" } : Jvm.MethodName) ∈ lw_tbl := tb_2 (List.mem_of_getElem? (i := 19) rfl)
set_option maxRecDepth 20000 in
theorem wd_260 : Jvm.Cond.instanceMethod ({ cls := "ToothWheelTimer$Sensor", name := "wantsCode", desc := "()Z" } : Jvm.MethodName) ∈ lw_tbl := tb_2 (List.mem_of_getElem? (i := 20) rfl)
set_option maxRecDepth 20000 in
theorem wd_261 : Jvm.Cond.code ({ cls := "ToothWheelTimer$Sensor", name := "wantsCode", desc := "()Z" } : Jvm.MethodName) prog_5_method_6_code (1 : Nat) (Option.some Jvm.ClassFile.FieldType.boolean) ∈ lw_tbl := tb_2 (List.mem_of_getElem? (i := 21) rfl)
set_option maxRecDepth 20000 in
theorem wd_262 : Jvm.Cond.methodLinkNest "ToothWheelTimer" (116 : Nat) ({ cls := "ToothWheelTimer$Sensor", name := "reading", desc := "()I" } : Jvm.MethodName) "ToothWheelTimer" ∈ lw_tbl := tb_2 (List.mem_of_getElem? (i := 22) rfl)
set_option maxRecDepth 20000 in
theorem wd_263 : Jvm.Cond.privateMethod ({ cls := "ToothWheelTimer$Sensor", name := "reading", desc := "()I" } : Jvm.MethodName) ∈ lw_tbl := tb_2 (List.mem_of_getElem? (i := 23) rfl)
set_option maxRecDepth 20000 in
theorem wd_264 : Jvm.Cond.instanceMethod ({ cls := "ToothWheelTimer$Sensor", name := "reading", desc := "()I" } : Jvm.MethodName) ∈ lw_tbl := tb_2 (List.mem_of_getElem? (i := 24) rfl)
set_option maxRecDepth 20000 in
theorem wd_265 : Jvm.Cond.code ({ cls := "ToothWheelTimer$Sensor", name := "reading", desc := "()I" } : Jvm.MethodName) prog_5_method_5_code (1 : Nat) (Option.some Jvm.ClassFile.FieldType.int) ∈ lw_tbl := tb_2 (List.mem_of_getElem? (i := 25) rfl)
set_option maxRecDepth 20000 in
theorem wd_266 : Jvm.Cond.methodLinkNest "ToothWheelTimer" (120 : Nat) ({ cls := "ToothWheelTimer$Sensor", name := "storeCode", desc := "(JJI)V" } : Jvm.MethodName) "ToothWheelTimer" ∈ lw_tbl := tb_2 (List.mem_of_getElem? (i := 26) rfl)
set_option maxRecDepth 20000 in
theorem wd_267 : Jvm.Cond.privateMethod ({ cls := "ToothWheelTimer$Sensor", name := "storeCode", desc := "(JJI)V" } : Jvm.MethodName) ∈ lw_tbl := tb_2 (List.mem_of_getElem? (i := 27) rfl)
set_option maxRecDepth 20000 in
theorem wd_268 : Jvm.Cond.instanceMethod ({ cls := "ToothWheelTimer$Sensor", name := "storeCode", desc := "(JJI)V" } : Jvm.MethodName) ∈ lw_tbl := tb_2 (List.mem_of_getElem? (i := 28) rfl)
set_option maxRecDepth 20000 in
theorem wd_269 : Jvm.Cond.code ({ cls := "ToothWheelTimer$Sensor", name := "storeCode", desc := "(JJI)V" } : Jvm.MethodName) prog_5_method_7_code (6 : Nat) (Option.none : Option Jvm.ClassFile.FieldType) ∈ lw_tbl := tb_2 (List.mem_of_getElem? (i := 29) rfl)
set_option maxRecDepth 20000 in
theorem wd_270 : Jvm.Cond.methodLink "ToothWheelTimerLaw" (36 : Nat) ({ cls := "ToothWheelTimer", name := "value", desc := "(I)I" } : Jvm.MethodName) ∈ lw_tbl := tb_2 (List.mem_of_getElem? (i := 30) rfl)
set_option maxRecDepth 20000 in
theorem wd_271 : Jvm.Cond.instanceMethod ({ cls := "ToothWheelTimer", name := "value", desc := "(I)I" } : Jvm.MethodName) ∈ lw_tbl := tb_2 (List.mem_of_getElem? (i := 31) rfl)
set_option maxRecDepth 20000 in
theorem wd_272 : Jvm.Cond.selects "ToothWheelTimer" ({ cls := "ToothWheelTimer", name := "value", desc := "(I)I" } : Jvm.MethodName) ({ cls := "ToothWheelTimer", name := "value", desc := "(I)I" } : Jvm.MethodName) ∈ lw_tbl := tb_2 (List.mem_of_getElem? (i := 32) rfl)
set_option maxRecDepth 20000 in
theorem wd_273 : Jvm.Cond.code ({ cls := "ToothWheelTimer", name := "value", desc := "(I)I" } : Jvm.MethodName) prog_1_method_5_code (3 : Nat) (Option.some Jvm.ClassFile.FieldType.int) ∈ lw_tbl := tb_2 (List.mem_of_getElem? (i := 33) rfl)
set_option maxRecDepth 20000 in
theorem wd_274 : Jvm.Cond.methodLink "ToothWheelTimerLaw" (41 : Nat) ({ cls := "ToothWheelTimer", name := "count", desc := "(I)I" } : Jvm.MethodName) ∈ lw_tbl := tb_2 (List.mem_of_getElem? (i := 34) rfl)
set_option maxRecDepth 20000 in
theorem wd_275 : Jvm.Cond.instanceMethod ({ cls := "ToothWheelTimer", name := "count", desc := "(I)I" } : Jvm.MethodName) ∈ lw_tbl := tb_2 (List.mem_of_getElem? (i := 35) rfl)
set_option maxRecDepth 20000 in
theorem wd_276 : Jvm.Cond.selects "ToothWheelTimer" ({ cls := "ToothWheelTimer", name := "count", desc := "(I)I" } : Jvm.MethodName) ({ cls := "ToothWheelTimer", name := "count", desc := "(I)I" } : Jvm.MethodName) ∈ lw_tbl := tb_2 (List.mem_of_getElem? (i := 36) rfl)
set_option maxRecDepth 20000 in
theorem wd_277 : Jvm.Cond.code ({ cls := "ToothWheelTimer", name := "count", desc := "(I)I" } : Jvm.MethodName) prog_1_method_6_code (3 : Nat) (Option.some Jvm.ClassFile.FieldType.int) ∈ lw_tbl := tb_2 (List.mem_of_getElem? (i := 37) rfl)
set_option maxRecDepth 20000 in
theorem wd_278 : Jvm.Cond.methodLink "ToothWheelTimerLaw" (45 : Nat) ({ cls := "ToothWheelTimer", name := "frame", desc := "(II)J" } : Jvm.MethodName) ∈ lw_tbl := tb_2 (List.mem_of_getElem? (i := 38) rfl)
set_option maxRecDepth 20000 in
theorem wd_279 : Jvm.Cond.instanceMethod ({ cls := "ToothWheelTimer", name := "frame", desc := "(II)J" } : Jvm.MethodName) ∈ lw_tbl := tb_2 (List.mem_of_getElem? (i := 39) rfl)
set_option maxRecDepth 20000 in
theorem wd_280 : Jvm.Cond.selects "ToothWheelTimer" ({ cls := "ToothWheelTimer", name := "frame", desc := "(II)J" } : Jvm.MethodName) ({ cls := "ToothWheelTimer", name := "frame", desc := "(II)J" } : Jvm.MethodName) ∈ lw_tbl := tb_2 (List.mem_of_getElem? (i := 40) rfl)
set_option maxRecDepth 20000 in
theorem wd_281 : Jvm.Cond.code ({ cls := "ToothWheelTimer", name := "frame", desc := "(II)J" } : Jvm.MethodName) prog_1_method_7_code (4 : Nat) (Option.some Jvm.ClassFile.FieldType.long) ∈ lw_tbl := tb_2 (List.mem_of_getElem? (i := 41) rfl)
set_option maxRecDepth 20000 in
theorem wd_282 : Jvm.Cond.constantLong "ToothWheelTimer" (127 : Nat) (-1 : Int64) ∈ lw_tbl := tb_2 (List.mem_of_getElem? (i := 42) rfl)
set_option maxRecDepth 20000 in
theorem wd_283 : Jvm.Cond.methodLinkNest "ToothWheelTimer" (129 : Nat) ({ cls := "ToothWheelTimer$Sensor", name := "codePart", desc := "(I)J" } : Jvm.MethodName) "ToothWheelTimer" ∈ lw_tbl := tb_2 (List.mem_of_getElem? (i := 43) rfl)
set_option maxRecDepth 20000 in
theorem wd_284 : Jvm.Cond.privateMethod ({ cls := "ToothWheelTimer$Sensor", name := "codePart", desc := "(I)J" } : Jvm.MethodName) ∈ lw_tbl := tb_2 (List.mem_of_getElem? (i := 44) rfl)
set_option maxRecDepth 20000 in
theorem wd_285 : Jvm.Cond.instanceMethod ({ cls := "ToothWheelTimer$Sensor", name := "codePart", desc := "(I)J" } : Jvm.MethodName) ∈ lw_tbl := tb_2 (List.mem_of_getElem? (i := 45) rfl)
set_option maxRecDepth 20000 in
theorem wd_286 : Jvm.Cond.code ({ cls := "ToothWheelTimer$Sensor", name := "codePart", desc := "(I)J" } : Jvm.MethodName) prog_5_method_8_code (2 : Nat) (Option.some Jvm.ClassFile.FieldType.long) ∈ lw_tbl := tb_2 (List.mem_of_getElem? (i := 46) rfl)
set_option maxRecDepth 20000 in
theorem wd_287 : Jvm.Cond.constantLong "ToothWheelTimer$Sensor" (59 : Nat) (-1 : Int64) ∈ lw_tbl := tb_2 (List.mem_of_getElem? (i := 47) rfl)
set_option maxRecDepth 20000 in
theorem wd_288 : Jvm.Cond.methodLink "ToothWheelTimerLaw" (50 : Nat) ({ cls := "ToothWheelTimer", name := "clear", desc := "()I" } : Jvm.MethodName) ∈ lw_tbl := tb_2 (List.mem_of_getElem? (i := 48) rfl)
set_option maxRecDepth 20000 in
theorem wd_289 : Jvm.Cond.instanceMethod ({ cls := "ToothWheelTimer", name := "clear", desc := "()I" } : Jvm.MethodName) ∈ lw_tbl := tb_2 (List.mem_of_getElem? (i := 49) rfl)
set_option maxRecDepth 20000 in
theorem wd_290 : Jvm.Cond.selects "ToothWheelTimer" ({ cls := "ToothWheelTimer", name := "clear", desc := "()I" } : Jvm.MethodName) ({ cls := "ToothWheelTimer", name := "clear", desc := "()I" } : Jvm.MethodName) ∈ lw_tbl := tb_2 (List.mem_of_getElem? (i := 50) rfl)
set_option maxRecDepth 20000 in
theorem wd_291 : Jvm.Cond.code ({ cls := "ToothWheelTimer", name := "clear", desc := "()I" } : Jvm.MethodName) prog_1_method_8_code (1 : Nat) (Option.some Jvm.ClassFile.FieldType.int) ∈ lw_tbl := tb_2 (List.mem_of_getElem? (i := 51) rfl)
set_option maxRecDepth 20000 in
theorem wd_292 : Jvm.Cond.methodLinkNest "ToothWheelTimer" (133 : Nat) ({ cls := "ToothWheelTimer$Sensor", name := "dropCode", desc := "()I" } : Jvm.MethodName) "ToothWheelTimer" ∈ lw_tbl := tb_2 (List.mem_of_getElem? (i := 52) rfl)
set_option maxRecDepth 20000 in
theorem wd_293 : Jvm.Cond.privateMethod ({ cls := "ToothWheelTimer$Sensor", name := "dropCode", desc := "()I" } : Jvm.MethodName) ∈ lw_tbl := tb_2 (List.mem_of_getElem? (i := 53) rfl)
set_option maxRecDepth 20000 in
theorem wd_294 : Jvm.Cond.instanceMethod ({ cls := "ToothWheelTimer$Sensor", name := "dropCode", desc := "()I" } : Jvm.MethodName) ∈ lw_tbl := tb_2 (List.mem_of_getElem? (i := 54) rfl)
set_option maxRecDepth 20000 in
theorem wd_295 : Jvm.Cond.code ({ cls := "ToothWheelTimer$Sensor", name := "dropCode", desc := "()I" } : Jvm.MethodName) prog_5_method_9_code (2 : Nat) (Option.some Jvm.ClassFile.FieldType.int) ∈ lw_tbl := tb_2 (List.mem_of_getElem? (i := 55) rfl)
set_option maxRecDepth 20000 in
theorem wd_296 : Jvm.Cond.methodLink "ToothWheelTimerLaw" (55 : Nat) ({ cls := "ToothWheelTimer", name := "edge", desc := "(I)I" } : Jvm.MethodName) ∈ lw_tbl := tb_2 (List.mem_of_getElem? (i := 56) rfl)
set_option maxRecDepth 20000 in
theorem wd_297 : Jvm.Cond.instanceMethod ({ cls := "ToothWheelTimer", name := "edge", desc := "(I)I" } : Jvm.MethodName) ∈ lw_tbl := tb_2 (List.mem_of_getElem? (i := 57) rfl)
set_option maxRecDepth 20000 in
theorem wd_298 : Jvm.Cond.selects "ToothWheelTimer" ({ cls := "ToothWheelTimer", name := "edge", desc := "(I)I" } : Jvm.MethodName) ({ cls := "ToothWheelTimer", name := "edge", desc := "(I)I" } : Jvm.MethodName) ∈ lw_tbl := tb_2 (List.mem_of_getElem? (i := 58) rfl)
set_option maxRecDepth 20000 in
theorem wd_299 : Jvm.Cond.code ({ cls := "ToothWheelTimer", name := "edge", desc := "(I)I" } : Jvm.MethodName) prog_1_method_9_code (2 : Nat) (Option.some Jvm.ClassFile.FieldType.int) ∈ lw_tbl := tb_2 (List.mem_of_getElem? (i := 59) rfl)
set_option maxRecDepth 20000 in
theorem wd_300 : Jvm.Cond.methodLink "ToothWheelTimer" (136 : Nat) ({ cls := "ToothWheelTimer", name := "canFollow", desc := "(I)Z" } : Jvm.MethodName) ∈ lw_tbl := tb_2 (List.mem_of_getElem? (i := 60) rfl)
set_option maxRecDepth 20000 in
theorem wd_301 : Jvm.Cond.static ({ cls := "ToothWheelTimer", name := "canFollow", desc := "(I)Z" } : Jvm.MethodName) ∈ lw_tbl := tb_2 (List.mem_of_getElem? (i := 61) rfl)
set_option maxRecDepth 20000 in
theorem wd_302 : Jvm.Cond.code ({ cls := "ToothWheelTimer", name := "canFollow", desc := "(I)Z" } : Jvm.MethodName) prog_1_method_25_code (1 : Nat) (Option.some Jvm.ClassFile.FieldType.boolean) ∈ lw_tbl := tb_2 (List.mem_of_getElem? (i := 62) rfl)
set_option maxRecDepth 20000 in
theorem wd_303 : Jvm.Cond.constant "ToothWheelTimer" (192 : Nat) (1000000 : Int32) ∈ lw_tbl := tb_2 (List.mem_of_getElem? (i := 63) rfl)
set_option maxRecDepth 20000 in
theorem wd_304 : Jvm.Cond.methodLink "ToothWheelTimer" (139 : Nat) ({ cls := "ToothWheelTimer", name := "meetEdge", desc := "(I)V" } : Jvm.MethodName) ∈ lw_tbl := tb_2 (List.mem_of_getElem? (i := 64) rfl)
set_option maxRecDepth 20000 in
theorem wd_305 : Jvm.Cond.privateMethod ({ cls := "ToothWheelTimer", name := "meetEdge", desc := "(I)V" } : Jvm.MethodName) ∈ lw_tbl := tb_2 (List.mem_of_getElem? (i := 65) rfl)
set_option maxRecDepth 20000 in
theorem wd_306 : Jvm.Cond.instanceMethod ({ cls := "ToothWheelTimer", name := "meetEdge", desc := "(I)V" } : Jvm.MethodName) ∈ lw_tbl := tb_2 (List.mem_of_getElem? (i := 66) rfl)
set_option maxRecDepth 20000 in
theorem wd_307 : Jvm.Cond.code ({ cls := "ToothWheelTimer", name := "meetEdge", desc := "(I)V" } : Jvm.MethodName) prog_1_method_26_code (3 : Nat) (Option.none : Option Jvm.ClassFile.FieldType) ∈ lw_tbl := tb_2 (List.mem_of_getElem? (i := 67) rfl)
set_option maxRecDepth 20000 in
theorem wd_308 : Jvm.Cond.methodLink "ToothWheelTimer" (152 : Nat) ({ cls := "ToothWheelTimer", name := "goOnTo", desc := "(J)V" } : Jvm.MethodName) ∈ lw_tbl := tb_2 (List.mem_of_getElem? (i := 68) rfl)
set_option maxRecDepth 20000 in
theorem wd_309 : Jvm.Cond.privateMethod ({ cls := "ToothWheelTimer", name := "goOnTo", desc := "(J)V" } : Jvm.MethodName) ∈ lw_tbl := tb_2 (List.mem_of_getElem? (i := 69) rfl)
set_option maxRecDepth 20000 in
theorem wd_310 : Jvm.Cond.instanceMethod ({ cls := "ToothWheelTimer", name := "goOnTo", desc := "(J)V" } : Jvm.MethodName) ∈ lw_tbl := tb_2 (List.mem_of_getElem? (i := 70) rfl)
set_option maxRecDepth 20000 in
theorem wd_311 : Jvm.Cond.code ({ cls := "ToothWheelTimer", name := "goOnTo", desc := "(J)V" } : Jvm.MethodName) prog_1_method_27_code (8 : Nat) (Option.none : Option Jvm.ClassFile.FieldType) ∈ lw_tbl := tb_2 (List.mem_of_getElem? (i := 71) rfl)
set_option maxRecDepth 20000 in
theorem wd_312 : Jvm.Cond.methodLinkNest "ToothWheelTimer" (202 : Nat) ({ cls := "ToothWheelTimer$Wheel", name := "stallsBy", desc := "(J)Z" } : Jvm.MethodName) "ToothWheelTimer" ∈ lw_tbl := tb_2 (List.mem_of_getElem? (i := 72) rfl)
set_option maxRecDepth 20000 in
theorem wd_313 : Jvm.Cond.privateMethod ({ cls := "ToothWheelTimer$Wheel", name := "stallsBy", desc := "(J)Z" } : Jvm.MethodName) ∈ lw_tbl := tb_2 (List.mem_of_getElem? (i := 73) rfl)
set_option maxRecDepth 20000 in
theorem wd_314 : Jvm.Cond.instanceMethod ({ cls := "ToothWheelTimer$Wheel", name := "stallsBy", desc := "(J)Z" } : Jvm.MethodName) ∈ lw_tbl := tb_2 (List.mem_of_getElem? (i := 74) rfl)
set_option maxRecDepth 20000 in
theorem wd_315 : Jvm.Cond.code ({ cls := "ToothWheelTimer$Wheel", name := "stallsBy", desc := "(J)Z" } : Jvm.MethodName) prog_6_method_10_code (3 : Nat) (Option.some Jvm.ClassFile.FieldType.boolean) ∈ lw_tbl := tb_2 (List.mem_of_getElem? (i := 75) rfl)
set_option maxRecDepth 20000 in
theorem wd_316 : Jvm.Cond.methodLink "ToothWheelTimer$Wheel" (73 : Nat) ({ cls := "ToothWheelTimer$Wheel", name := "stallTime", desc := "()J" } : Jvm.MethodName) ∈ lw_tbl := tb_2 (List.mem_of_getElem? (i := 76) rfl)
set_option maxRecDepth 20000 in
theorem wd_317 : Jvm.Cond.privateMethod ({ cls := "ToothWheelTimer$Wheel", name := "stallTime", desc := "()J" } : Jvm.MethodName) ∈ lw_tbl := tb_2 (List.mem_of_getElem? (i := 77) rfl)
set_option maxRecDepth 20000 in
theorem wd_318 : Jvm.Cond.instanceMethod ({ cls := "ToothWheelTimer$Wheel", name := "stallTime", desc := "()J" } : Jvm.MethodName) ∈ lw_tbl := tb_2 (List.mem_of_getElem? (i := 78) rfl)
set_option maxRecDepth 20000 in
theorem wd_319 : Jvm.Cond.code ({ cls := "ToothWheelTimer$Wheel", name := "stallTime", desc := "()J" } : Jvm.MethodName) prog_6_method_9_code (1 : Nat) (Option.some Jvm.ClassFile.FieldType.long) ∈ lw_tbl := tb_2 (List.mem_of_getElem? (i := 79) rfl)
set_option maxRecDepth 20000 in
theorem wd_320 : Jvm.Cond.constantLong "ToothWheelTimer$Wheel" (71 : Nat) (5 : Int64) ∈ lw_tbl := tb_2 (List.mem_of_getElem? (i := 80) rfl)
set_option maxRecDepth 20000 in
theorem wd_321 : Jvm.Cond.methodLinkNest "ToothWheelTimer" (206 : Nat) ({ cls := "ToothWheelTimer$Wheel", name := "stallTime", desc := "()J" } : Jvm.MethodName) "ToothWheelTimer" ∈ lw_tbl := tb_2 (List.mem_of_getElem? (i := 81) rfl)
set_option maxRecDepth 20000 in
theorem wd_322 : Jvm.Cond.methodLinkNest "ToothWheelTimer" (210 : Nat) ({ cls := "ToothWheelTimer$Agenda", name := "firstUntil", desc := "(J)I" } : Jvm.MethodName) "ToothWheelTimer" ∈ lw_tbl := tb_2 (List.mem_of_getElem? (i := 82) rfl)
set_option maxRecDepth 20000 in
theorem wd_323 : Jvm.Cond.privateMethod ({ cls := "ToothWheelTimer$Agenda", name := "firstUntil", desc := "(J)I" } : Jvm.MethodName) ∈ lw_tbl := tb_2 (List.mem_of_getElem? (i := 83) rfl)
set_option maxRecDepth 20000 in
theorem wd_324 : Jvm.Cond.instanceMethod ({ cls := "ToothWheelTimer$Agenda", name := "firstUntil", desc := "(J)I" } : Jvm.MethodName) ∈ lw_tbl := tb_2 (List.mem_of_getElem? (i := 84) rfl)
set_option maxRecDepth 20000 in
theorem wd_325 : Jvm.Cond.code ({ cls := "ToothWheelTimer$Agenda", name := "firstUntil", desc := "(J)I" } : Jvm.MethodName) prog_2_method_8_code (5 : Nat) (Option.some Jvm.ClassFile.FieldType.int) ∈ lw_tbl := tb_2 (List.mem_of_getElem? (i := 85) rfl)
set_option maxRecDepth 20000 in
theorem wd_326 : Jvm.Cond.methodLink "ToothWheelTimer$Agenda" (37 : Nat) ({ cls := "ToothWheelTimer$Agenda", name := "isBefore", desc := "(II)Z" } : Jvm.MethodName) ∈ lw_tbl := tb_2 (List.mem_of_getElem? (i := 86) rfl)
set_option maxRecDepth 20000 in
theorem wd_327 : Jvm.Cond.privateMethod ({ cls := "ToothWheelTimer$Agenda", name := "isBefore", desc := "(II)Z" } : Jvm.MethodName) ∈ lw_tbl := tb_2 (List.mem_of_getElem? (i := 87) rfl)
set_option maxRecDepth 20000 in
theorem wd_328 : Jvm.Cond.instanceMethod ({ cls := "ToothWheelTimer$Agenda", name := "isBefore", desc := "(II)Z" } : Jvm.MethodName) ∈ lw_tbl := tb_2 (List.mem_of_getElem? (i := 88) rfl)
set_option maxRecDepth 20000 in
theorem wd_329 : Jvm.Cond.code ({ cls := "ToothWheelTimer$Agenda", name := "isBefore", desc := "(II)Z" } : Jvm.MethodName) prog_2_method_9_code (3 : Nat) (Option.some Jvm.ClassFile.FieldType.boolean) ∈ lw_tbl := tb_2 (List.mem_of_getElem? (i := 89) rfl)
set_option maxRecDepth 20000 in
theorem wd_330 : Jvm.Cond.methodLink "ToothWheelTimer" (214 : Nat) ({ cls := "ToothWheelTimer", name := "fireAt", desc := "(I)V" } : Jvm.MethodName) ∈ lw_tbl := tb_2 (List.mem_of_getElem? (i := 90) rfl)
set_option maxRecDepth 20000 in
theorem wd_331 : Jvm.Cond.privateMethod ({ cls := "ToothWheelTimer", name := "fireAt", desc := "(I)V" } : Jvm.MethodName) ∈ lw_tbl := tb_2 (List.mem_of_getElem? (i := 91) rfl)
set_option maxRecDepth 20000 in
theorem wd_332 : Jvm.Cond.instanceMethod ({ cls := "ToothWheelTimer", name := "fireAt", desc := "(I)V" } : Jvm.MethodName) ∈ lw_tbl := tb_2 (List.mem_of_getElem? (i := 92) rfl)
set_option maxRecDepth 20000 in
theorem wd_333 : Jvm.Cond.code ({ cls := "ToothWheelTimer", name := "fireAt", desc := "(I)V" } : Jvm.MethodName) prog_1_method_30_code (4 : Nat) (Option.none : Option Jvm.ClassFile.FieldType) ∈ lw_tbl := tb_2 (List.mem_of_getElem? (i := 93) rfl)
set_option maxRecDepth 20000 in
theorem wd_334 : Jvm.Cond.methodLinkNest "ToothWheelTimer" (233 : Nat) ({ cls := "ToothWheelTimer$Agenda", name := "kindOf", desc := "(I)I" } : Jvm.MethodName) "ToothWheelTimer" ∈ lw_tbl := tb_2 (List.mem_of_getElem? (i := 94) rfl)
set_option maxRecDepth 20000 in
theorem wd_335 : Jvm.Cond.privateMethod ({ cls := "ToothWheelTimer$Agenda", name := "kindOf", desc := "(I)I" } : Jvm.MethodName) ∈ lw_tbl := tb_2 (List.mem_of_getElem? (i := 95) rfl)
set_option maxRecDepth 20000 in
theorem wd_336 : Jvm.Cond.instanceMethod ({ cls := "ToothWheelTimer$Agenda", name := "kindOf", desc := "(I)I" } : Jvm.MethodName) ∈ lw_tbl := tb_2 (List.mem_of_getElem? (i := 96) rfl)
set_option maxRecDepth 20000 in
theorem wd_337 : Jvm.Cond.code ({ cls := "ToothWheelTimer$Agenda", name := "kindOf", desc := "(I)I" } : Jvm.MethodName) prog_2_method_3_code (2 : Nat) (Option.some Jvm.ClassFile.FieldType.int) ∈ lw_tbl := tb_2 (List.mem_of_getElem? (i := 97) rfl)
set_option maxRecDepth 20000 in
theorem wd_338 : Jvm.Cond.methodLinkNest "ToothWheelTimer" (236 : Nat) ({ cls := "ToothWheelTimer$Agenda", name := "cylinderOf", desc := "(I)I" } : Jvm.MethodName) "ToothWheelTimer" ∈ lw_tbl := tb_2 (List.mem_of_getElem? (i := 98) rfl)
set_option maxRecDepth 20000 in
theorem wd_339 : Jvm.Cond.privateMethod ({ cls := "ToothWheelTimer$Agenda", name := "cylinderOf", desc := "(I)I" } : Jvm.MethodName) ∈ lw_tbl := tb_2 (List.mem_of_getElem? (i := 99) rfl)
set_option maxRecDepth 20000 in
theorem wd_340 : Jvm.Cond.instanceMethod ({ cls := "ToothWheelTimer$Agenda", name := "cylinderOf", desc := "(I)I" } : Jvm.MethodName) ∈ lw_tbl := tb_2 (List.mem_of_getElem? (i := 100) rfl)
set_option maxRecDepth 20000 in
theorem wd_341 : Jvm.Cond.code ({ cls := "ToothWheelTimer$Agenda", name := "cylinderOf", desc := "(I)I" } : Jvm.MethodName) prog_2_method_4_code (2 : Nat) (Option.some Jvm.ClassFile.FieldType.int) ∈ lw_tbl := tb_2 (List.mem_of_getElem? (i := 101) rfl)
set_option maxRecDepth 20000 in
theorem wd_342 : Jvm.Cond.methodLinkNest "ToothWheelTimer" (239 : Nat) ({ cls := "ToothWheelTimer$Agenda", name := "remove", desc := "(II)V" } : Jvm.MethodName) "ToothWheelTimer" ∈ lw_tbl := tb_2 (List.mem_of_getElem? (i := 102) rfl)
set_option maxRecDepth 20000 in
theorem wd_343 : Jvm.Cond.privateMethod ({ cls := "ToothWheelTimer$Agenda", name := "remove", desc := "(II)V" } : Jvm.MethodName) ∈ lw_tbl := tb_2 (List.mem_of_getElem? (i := 103) rfl)
set_option maxRecDepth 20000 in
theorem wd_344 : Jvm.Cond.instanceMethod ({ cls := "ToothWheelTimer$Agenda", name := "remove", desc := "(II)V" } : Jvm.MethodName) ∈ lw_tbl := tb_2 (List.mem_of_getElem? (i := 104) rfl)
set_option maxRecDepth 20000 in
theorem wd_345 : Jvm.Cond.code ({ cls := "ToothWheelTimer$Agenda", name := "remove", desc := "(II)V" } : Jvm.MethodName) prog_2_method_6_code (4 : Nat) (Option.none : Option Jvm.ClassFile.FieldType) ∈ lw_tbl := tb_2 (List.mem_of_getElem? (i := 105) rfl)
set_option maxRecDepth 20000 in
theorem wd_346 : Jvm.Cond.methodLink "ToothWheelTimer$Agenda" (33 : Nat) ({ cls := "ToothWheelTimer$Agenda", name := "placeOf", desc := "(II)I" } : Jvm.MethodName) ∈ lw_tbl := tb_2 (List.mem_of_getElem? (i := 106) rfl)
set_option maxRecDepth 20000 in
theorem wd_347 : Jvm.Cond.privateMethod ({ cls := "ToothWheelTimer$Agenda", name := "placeOf", desc := "(II)I" } : Jvm.MethodName) ∈ lw_tbl := tb_2 (List.mem_of_getElem? (i := 107) rfl)
set_option maxRecDepth 20000 in
theorem wd_348 : Jvm.Cond.instanceMethod ({ cls := "ToothWheelTimer$Agenda", name := "placeOf", desc := "(II)I" } : Jvm.MethodName) ∈ lw_tbl := tb_2 (List.mem_of_getElem? (i := 108) rfl)
set_option maxRecDepth 20000 in
theorem wd_349 : Jvm.Cond.code ({ cls := "ToothWheelTimer$Agenda", name := "placeOf", desc := "(II)I" } : Jvm.MethodName) prog_2_method_2_code (3 : Nat) (Option.some Jvm.ClassFile.FieldType.int) ∈ lw_tbl := tb_2 (List.mem_of_getElem? (i := 109) rfl)
set_option maxRecDepth 20000 in
theorem wd_350 : Jvm.Cond.methodLink "ToothWheelTimer" (243 : Nat) ({ cls := "ToothWheelTimer", name := "chargeCoil", desc := "(I)V" } : Jvm.MethodName) ∈ lw_tbl := tb_2 (List.mem_of_getElem? (i := 110) rfl)
set_option maxRecDepth 20000 in
theorem wd_351 : Jvm.Cond.privateMethod ({ cls := "ToothWheelTimer", name := "chargeCoil", desc := "(I)V" } : Jvm.MethodName) ∈ lw_tbl := tb_2 (List.mem_of_getElem? (i := 111) rfl)
set_option maxRecDepth 20000 in
theorem wd_352 : Jvm.Cond.instanceMethod ({ cls := "ToothWheelTimer", name := "chargeCoil", desc := "(I)V" } : Jvm.MethodName) ∈ lw_tbl := tb_2 (List.mem_of_getElem? (i := 112) rfl)
set_option maxRecDepth 20000 in
theorem wd_353 : Jvm.Cond.code ({ cls := "ToothWheelTimer", name := "chargeCoil", desc := "(I)V" } : Jvm.MethodName) prog_1_method_31_code (2 : Nat) (Option.none : Option Jvm.ClassFile.FieldType) ∈ lw_tbl := tb_2 (List.mem_of_getElem? (i := 113) rfl)
set_option maxRecDepth 20000 in
theorem wd_354 : Jvm.Cond.methodLinkNest "ToothWheelTimer" (256 : Nat) ({ cls := "ToothWheelTimer$Panel", name := "isOn", desc := "(I)Z" } : Jvm.MethodName) "ToothWheelTimer" ∈ lw_tbl := tb_2 (List.mem_of_getElem? (i := 114) rfl)
set_option maxRecDepth 20000 in
theorem wd_355 : Jvm.Cond.privateMethod ({ cls := "ToothWheelTimer$Panel", name := "isOn", desc := "(I)Z" } : Jvm.MethodName) ∈ lw_tbl := tb_2 (List.mem_of_getElem? (i := 115) rfl)
set_option maxRecDepth 20000 in
theorem wd_356 : Jvm.Cond.instanceMethod ({ cls := "ToothWheelTimer$Panel", name := "isOn", desc := "(I)Z" } : Jvm.MethodName) ∈ lw_tbl := tb_2 (List.mem_of_getElem? (i := 116) rfl)
set_option maxRecDepth 20000 in
theorem wd_357 : Jvm.Cond.code ({ cls := "ToothWheelTimer$Panel", name := "isOn", desc := "(I)Z" } : Jvm.MethodName) prog_4_method_2_code (2 : Nat) (Option.some Jvm.ClassFile.FieldType.boolean) ∈ lw_tbl := tb_2 (List.mem_of_getElem? (i := 117) rfl)
set_option maxRecDepth 20000 in
theorem wd_358 : Jvm.Cond.methodLinkNest "ToothWheelTimer" (249 : Nat) ({ cls := "ToothWheelTimer$Panel", name := "switchTo", desc := "(IZJ)V" } : Jvm.MethodName) "ToothWheelTimer" ∈ lw_tbl := tb_2 (List.mem_of_getElem? (i := 118) rfl)
set_option maxRecDepth 20000 in
theorem wd_359 : Jvm.Cond.privateMethod ({ cls := "ToothWheelTimer$Panel", name := "switchTo", desc := "(IZJ)V" } : Jvm.MethodName) ∈ lw_tbl := tb_2 (List.mem_of_getElem? (i := 119) rfl)
set_option maxRecDepth 20000 in
theorem wd_360 : Jvm.Cond.instanceMethod ({ cls := "ToothWheelTimer$Panel", name := "switchTo", desc := "(IZJ)V" } : Jvm.MethodName) ∈ lw_tbl := tb_2 (List.mem_of_getElem? (i := 120) rfl)
set_option maxRecDepth 20000 in
theorem wd_361 : Jvm.Cond.code ({ cls := "ToothWheelTimer$Panel", name := "switchTo", desc := "(IZJ)V" } : Jvm.MethodName) prog_4_method_3_code (5 : Nat) (Option.none : Option Jvm.ClassFile.FieldType) ∈ lw_tbl := tb_2 (List.mem_of_getElem? (i := 121) rfl)
set_option maxRecDepth 20000 in
theorem wd_362 : Jvm.Cond.constantLong "ToothWheelTimer$Panel" (22 : Nat) (32 : Int64) ∈ lw_tbl := tb_2 (List.mem_of_getElem? (i := 122) rfl)
set_option maxRecDepth 20000 in
theorem wd_363 : Jvm.Cond.methodLinkNest "ToothWheelTimer" (259 : Nat) ({ cls := "ToothWheelTimer$Agenda", name := "plan", desc := "(IIJ)V" } : Jvm.MethodName) "ToothWheelTimer" ∈ lw_tbl := tb_2 (List.mem_of_getElem? (i := 123) rfl)
set_option maxRecDepth 20000 in
theorem wd_364 : Jvm.Cond.privateMethod ({ cls := "ToothWheelTimer$Agenda", name := "plan", desc := "(IIJ)V" } : Jvm.MethodName) ∈ lw_tbl := tb_2 (List.mem_of_getElem? (i := 124) rfl)
set_option maxRecDepth 20000 in
theorem wd_365 : Jvm.Cond.instanceMethod ({ cls := "ToothWheelTimer$Agenda", name := "plan", desc := "(IIJ)V" } : Jvm.MethodName) ∈ lw_tbl := tb_2 (List.mem_of_getElem? (i := 125) rfl)
set_option maxRecDepth 20000 in
theorem wd_366 : Jvm.Cond.code ({ cls := "ToothWheelTimer$Agenda", name := "plan", desc := "(IIJ)V" } : Jvm.MethodName) prog_2_method_5_code (6 : Nat) (Option.none : Option Jvm.ClassFile.FieldType) ∈ lw_tbl := tb_2 (List.mem_of_getElem? (i := 126) rfl)
set_option maxRecDepth 20000 in
theorem wd_367 : Jvm.Cond.methodLink "ToothWheelTimer" (246 : Nat) ({ cls := "ToothWheelTimer", name := "fireCoil", desc := "(I)V" } : Jvm.MethodName) ∈ lw_tbl := tb_2 (List.mem_of_getElem? (i := 127) rfl)
set_option maxRecDepth 20000 in
theorem wd_368 : Jvm.Cond.privateMethod ({ cls := "ToothWheelTimer", name := "fireCoil", desc := "(I)V" } : Jvm.MethodName) ∈ lw_tbl := tb_2 (List.mem_of_getElem? (i := 128) rfl)
set_option maxRecDepth 20000 in
theorem wd_369 : Jvm.Cond.instanceMethod ({ cls := "ToothWheelTimer", name := "fireCoil", desc := "(I)V" } : Jvm.MethodName) ∈ lw_tbl := tb_2 (List.mem_of_getElem? (i := 129) rfl)
set_option maxRecDepth 20000 in
theorem wd_370 : Jvm.Cond.code ({ cls := "ToothWheelTimer", name := "fireCoil", desc := "(I)V" } : Jvm.MethodName) prog_1_method_32_code (2 : Nat) (Option.none : Option Jvm.ClassFile.FieldType) ∈ lw_tbl := tb_2 (List.mem_of_getElem? (i := 130) rfl)
set_option maxRecDepth 20000 in
theorem wd_371 : Jvm.Cond.methodLink "ToothWheelTimer" (253 : Nat) ({ cls := "ToothWheelTimer", name := "openInjector", desc := "(I)V" } : Jvm.MethodName) ∈ lw_tbl := tb_2 (List.mem_of_getElem? (i := 131) rfl)
set_option maxRecDepth 20000 in
theorem wd_372 : Jvm.Cond.privateMethod ({ cls := "ToothWheelTimer", name := "openInjector", desc := "(I)V" } : Jvm.MethodName) ∈ lw_tbl := tb_2 (List.mem_of_getElem? (i := 132) rfl)
set_option maxRecDepth 20000 in
theorem wd_373 : Jvm.Cond.instanceMethod ({ cls := "ToothWheelTimer", name := "openInjector", desc := "(I)V" } : Jvm.MethodName) ∈ lw_tbl := tb_2 (List.mem_of_getElem? (i := 133) rfl)
set_option maxRecDepth 20000 in
theorem wd_374 : Jvm.Cond.code ({ cls := "ToothWheelTimer", name := "openInjector", desc := "(I)V" } : Jvm.MethodName) prog_1_method_33_code (3 : Nat) (Option.none : Option Jvm.ClassFile.FieldType) ∈ lw_tbl := tb_2 (List.mem_of_getElem? (i := 134) rfl)
set_option maxRecDepth 20000 in
theorem wd_375 : Jvm.Cond.methodLink "ToothWheelTimer" (263 : Nat) ({ cls := "ToothWheelTimer", name := "present", desc := "(LToothWheelTimer$Chart;)I" } : Jvm.MethodName) ∈ lw_tbl := tb_2 (List.mem_of_getElem? (i := 135) rfl)
set_option maxRecDepth 20000 in
theorem wd_376 : Jvm.Cond.privateMethod ({ cls := "ToothWheelTimer", name := "present", desc := "(LToothWheelTimer$Chart;)I" } : Jvm.MethodName) ∈ lw_tbl := tb_2 (List.mem_of_getElem? (i := 136) rfl)
set_option maxRecDepth 20000 in
theorem wd_377 : Jvm.Cond.instanceMethod ({ cls := "ToothWheelTimer", name := "present", desc := "(LToothWheelTimer$Chart;)I" } : Jvm.MethodName) ∈ lw_tbl := tb_2 (List.mem_of_getElem? (i := 137) rfl)
set_option maxRecDepth 20000 in
theorem wd_378 : Jvm.Cond.code ({ cls := "ToothWheelTimer", name := "present", desc := "(LToothWheelTimer$Chart;)I" } : Jvm.MethodName) prog_1_method_35_code (2 : Nat) (Option.some Jvm.ClassFile.FieldType.int) ∈ lw_tbl := tb_2 (List.mem_of_getElem? (i := 138) rfl)
set_option maxRecDepth 20000 in
theorem wd_379 : Jvm.Cond.methodLinkNest "ToothWheelTimer" (270 : Nat) ({ cls := "ToothWheelTimer$Wheel", name := "speed", desc := "()I" } : Jvm.MethodName) "ToothWheelTimer" ∈ lw_tbl := tb_2 (List.mem_of_getElem? (i := 139) rfl)
set_option maxRecDepth 20000 in
theorem wd_380 : Jvm.Cond.privateMethod ({ cls := "ToothWheelTimer$Wheel", name := "speed", desc := "()I" } : Jvm.MethodName) ∈ lw_tbl := tb_2 (List.mem_of_getElem? (i := 140) rfl)
set_option maxRecDepth 20000 in
theorem wd_381 : Jvm.Cond.instanceMethod ({ cls := "ToothWheelTimer$Wheel", name := "speed", desc := "()I" } : Jvm.MethodName) ∈ lw_tbl := tb_2 (List.mem_of_getElem? (i := 141) rfl)
set_option maxRecDepth 20000 in
theorem wd_382 : Jvm.Cond.code ({ cls := "ToothWheelTimer$Wheel", name := "speed", desc := "()I" } : Jvm.MethodName) prog_6_method_15_code (3 : Nat) (Option.some Jvm.ClassFile.FieldType.int) ∈ lw_tbl := tb_2 (List.mem_of_getElem? (i := 142) rfl)
set_option maxRecDepth 20000 in
theorem wd_383 : Jvm.Cond.constantLong "ToothWheelTimer$Wheel" (83 : Nat) (200000 : Int64) ∈ lw_tbl := tb_2 (List.mem_of_getElem? (i := 143) rfl)
set_option maxRecDepth 20000 in
theorem wd_384 : Jvm.Cond.constantLong "ToothWheelTimer$Wheel" (87 : Nat) (1791 : Int64) ∈ lw_tbl := tb_2 (List.mem_of_getElem? (i := 144) rfl)
set_option maxRecDepth 20000 in
theorem wd_385 : Jvm.Cond.methodLink "ToothWheelTimer" (267 : Nat) ({ cls := "ToothWheelTimer", name := "enriched", desc := "(I)I" } : Jvm.MethodName) ∈ lw_tbl := tb_2 (List.mem_of_getElem? (i := 145) rfl)
set_option maxRecDepth 20000 in
theorem wd_386 : Jvm.Cond.privateMethod ({ cls := "ToothWheelTimer", name := "enriched", desc := "(I)I" } : Jvm.MethodName) ∈ lw_tbl := tb_2 (List.mem_of_getElem? (i := 146) rfl)
set_option maxRecDepth 20000 in
theorem wd_387 : Jvm.Cond.instanceMethod ({ cls := "ToothWheelTimer", name := "enriched", desc := "(I)I" } : Jvm.MethodName) ∈ lw_tbl := tb_2 (List.mem_of_getElem? (i := 147) rfl)
set_option maxRecDepth 20000 in
theorem wd_388 : Jvm.Cond.code ({ cls := "ToothWheelTimer", name := "enriched", desc := "(I)I" } : Jvm.MethodName) prog_1_method_34_code (4 : Nat) (Option.some Jvm.ClassFile.FieldType.int) ∈ lw_tbl := tb_2 (List.mem_of_getElem? (i := 148) rfl)
set_option maxRecDepth 20000 in
theorem wd_389 : Jvm.Cond.methodLink "ToothWheelTimer" (217 : Nat) ({ cls := "ToothWheelTimer", name := "stall", desc := "()V" } : Jvm.MethodName) ∈ lw_tbl := tb_2 (List.mem_of_getElem? (i := 149) rfl)
set_option maxRecDepth 20000 in
theorem wd_390 : Jvm.Cond.privateMethod ({ cls := "ToothWheelTimer", name := "stall", desc := "()V" } : Jvm.MethodName) ∈ lw_tbl := tb_2 (List.mem_of_getElem? (i := 150) rfl)
set_option maxRecDepth 20000 in
theorem wd_391 : Jvm.Cond.instanceMethod ({ cls := "ToothWheelTimer", name := "stall", desc := "()V" } : Jvm.MethodName) ∈ lw_tbl := tb_2 (List.mem_of_getElem? (i := 151) rfl)
set_option maxRecDepth 20000 in
theorem wd_392 : Jvm.Cond.code ({ cls := "ToothWheelTimer", name := "stall", desc := "()V" } : Jvm.MethodName) prog_1_method_28_code (2 : Nat) (Option.none : Option Jvm.ClassFile.FieldType) ∈ lw_tbl := tb_2 (List.mem_of_getElem? (i := 152) rfl)
set_option maxRecDepth 20000 in
theorem wd_393 : Jvm.Cond.methodLinkNest "ToothWheelTimer" (220 : Nat) ({ cls := "ToothWheelTimer$Wheel", name := "stand", desc := "()V" } : Jvm.MethodName) "ToothWheelTimer" ∈ lw_tbl := tb_2 (List.mem_of_getElem? (i := 153) rfl)
set_option maxRecDepth 20000 in
theorem wd_394 : Jvm.Cond.privateMethod ({ cls := "ToothWheelTimer$Wheel", name := "stand", desc := "()V" } : Jvm.MethodName) ∈ lw_tbl := tb_2 (List.mem_of_getElem? (i := 154) rfl)
set_option maxRecDepth 20000 in
theorem wd_395 : Jvm.Cond.instanceMethod ({ cls := "ToothWheelTimer$Wheel", name := "stand", desc := "()V" } : Jvm.MethodName) ∈ lw_tbl := tb_2 (List.mem_of_getElem? (i := 155) rfl)
set_option maxRecDepth 20000 in
theorem wd_396 : Jvm.Cond.code ({ cls := "ToothWheelTimer$Wheel", name := "stand", desc := "()V" } : Jvm.MethodName) prog_6_method_11_code (1 : Nat) (Option.none : Option Jvm.ClassFile.FieldType) ∈ lw_tbl := tb_2 (List.mem_of_getElem? (i := 156) rfl)
set_option maxRecDepth 20000 in
theorem wd_397 : Jvm.Cond.methodLink "ToothWheelTimer$Wheel" (56 : Nat) ({ cls := "ToothWheelTimer$Wheel", name := "lose", desc := "()V" } : Jvm.MethodName) ∈ lw_tbl := tb_2 (List.mem_of_getElem? (i := 157) rfl)
set_option maxRecDepth 20000 in
theorem wd_398 : Jvm.Cond.privateMethod ({ cls := "ToothWheelTimer$Wheel", name := "lose", desc := "()V" } : Jvm.MethodName) ∈ lw_tbl := tb_2 (List.mem_of_getElem? (i := 158) rfl)
set_option maxRecDepth 20000 in
theorem wd_399 : Jvm.Cond.instanceMethod ({ cls := "ToothWheelTimer$Wheel", name := "lose", desc := "()V" } : Jvm.MethodName) ∈ lw_tbl := tb_2 (List.mem_of_getElem? (i := 159) rfl)
set_option maxRecDepth 20000 in
theorem wd_400 : Jvm.Cond.code ({ cls := "ToothWheelTimer$Wheel", name := "lose", desc := "()V" } : Jvm.MethodName) prog_6_method_7_code (1 : Nat) (Option.none : Option Jvm.ClassFile.FieldType) ∈ lw_tbl := tb_2 (List.mem_of_getElem? (i := 160) rfl)
set_option maxRecDepth 20000 in
theorem wd_401 : Jvm.Cond.methodLink "ToothWheelTimer" (196 : Nat) ({ cls := "ToothWheelTimer", name := "shutDown", desc := "()V" } : Jvm.MethodName) ∈ lw_tbl := tb_2 (List.mem_of_getElem? (i := 161) rfl)
set_option maxRecDepth 20000 in
theorem wd_402 : Jvm.Cond.privateMethod ({ cls := "ToothWheelTimer", name := "shutDown", desc := "()V" } : Jvm.MethodName) ∈ lw_tbl := tb_2 (List.mem_of_getElem? (i := 162) rfl)
set_option maxRecDepth 20000 in
theorem wd_403 : Jvm.Cond.instanceMethod ({ cls := "ToothWheelTimer", name := "shutDown", desc := "()V" } : Jvm.MethodName) ∈ lw_tbl := tb_2 (List.mem_of_getElem? (i := 163) rfl)
set_option maxRecDepth 20000 in
theorem wd_404 : Jvm.Cond.code ({ cls := "ToothWheelTimer", name := "shutDown", desc := "()V" } : Jvm.MethodName) prog_1_method_29_code (1 : Nat) (Option.none : Option Jvm.ClassFile.FieldType) ∈ lw_tbl := tb_2 (List.mem_of_getElem? (i := 164) rfl)
set_option maxRecDepth 20000 in
theorem wd_405 : Jvm.Cond.methodLinkNest "ToothWheelTimer" (223 : Nat) ({ cls := "ToothWheelTimer$Agenda", name := "removeAll", desc := "()V" } : Jvm.MethodName) "ToothWheelTimer" ∈ lw_tbl := tb_2 (List.mem_of_getElem? (i := 165) rfl)
set_option maxRecDepth 20000 in
theorem wd_406 : Jvm.Cond.privateMethod ({ cls := "ToothWheelTimer$Agenda", name := "removeAll", desc := "()V" } : Jvm.MethodName) ∈ lw_tbl := tb_2 (List.mem_of_getElem? (i := 166) rfl)
set_option maxRecDepth 20000 in
theorem wd_407 : Jvm.Cond.instanceMethod ({ cls := "ToothWheelTimer$Agenda", name := "removeAll", desc := "()V" } : Jvm.MethodName) ∈ lw_tbl := tb_2 (List.mem_of_getElem? (i := 167) rfl)
set_option maxRecDepth 20000 in
theorem wd_408 : Jvm.Cond.code ({ cls := "ToothWheelTimer$Agenda", name := "removeAll", desc := "()V" } : Jvm.MethodName) prog_2_method_7_code (2 : Nat) (Option.none : Option Jvm.ClassFile.FieldType) ∈ lw_tbl := tb_2 (List.mem_of_getElem? (i := 168) rfl)
set_option maxRecDepth 20000 in
theorem wd_409 : Jvm.Cond.methodLinkNest "ToothWheelTimer" (226 : Nat) ({ cls := "ToothWheelTimer$Panel", name := "switchAllOff", desc := "(J)V" } : Jvm.MethodName) "ToothWheelTimer" ∈ lw_tbl := tb_2 (List.mem_of_getElem? (i := 169) rfl)
set_option maxRecDepth 20000 in
theorem wd_410 : Jvm.Cond.privateMethod ({ cls := "ToothWheelTimer$Panel", name := "switchAllOff", desc := "(J)V" } : Jvm.MethodName) ∈ lw_tbl := tb_2 (List.mem_of_getElem? (i := 170) rfl)
set_option maxRecDepth 20000 in
theorem wd_411 : Jvm.Cond.instanceMethod ({ cls := "ToothWheelTimer$Panel", name := "switchAllOff", desc := "(J)V" } : Jvm.MethodName) ∈ lw_tbl := tb_2 (List.mem_of_getElem? (i := 171) rfl)
set_option maxRecDepth 20000 in
theorem wd_412 : Jvm.Cond.code ({ cls := "ToothWheelTimer$Panel", name := "switchAllOff", desc := "(J)V" } : Jvm.MethodName) prog_4_method_4_code (4 : Nat) (Option.none : Option Jvm.ClassFile.FieldType) ∈ lw_tbl := tb_2 (List.mem_of_getElem? (i := 172) rfl)
set_option maxRecDepth 20000 in
theorem wd_413 : Jvm.Cond.methodLink "ToothWheelTimer$Panel" (24 : Nat) ({ cls := "ToothWheelTimer$Panel", name := "isOn", desc := "(I)Z" } : Jvm.MethodName) ∈ lw_tbl := tb_2 (List.mem_of_getElem? (i := 173) rfl)
set_option maxRecDepth 20000 in
theorem wd_414 : Jvm.Cond.methodLink "ToothWheelTimer$Panel" (28 : Nat) ({ cls := "ToothWheelTimer$Panel", name := "switchTo", desc := "(IZJ)V" } : Jvm.MethodName) ∈ lw_tbl := tb_2 (List.mem_of_getElem? (i := 174) rfl)
set_option maxRecDepth 20000 in
theorem wd_415 : Jvm.Cond.methodLinkNest "ToothWheelTimer" (193 : Nat) ({ cls := "ToothWheelTimer$Wheel", name := "meetTooth", desc := "(J)V" } : Jvm.MethodName) "ToothWheelTimer" ∈ lw_tbl := tb_2 (List.mem_of_getElem? (i := 175) rfl)
set_option maxRecDepth 20000 in
theorem wd_416 : Jvm.Cond.privateMethod ({ cls := "ToothWheelTimer$Wheel", name := "meetTooth", desc := "(J)V" } : Jvm.MethodName) ∈ lw_tbl := tb_2 (List.mem_of_getElem? (i := 176) rfl)
set_option maxRecDepth 20000 in
theorem wd_417 : Jvm.Cond.instanceMethod ({ cls := "ToothWheelTimer$Wheel", name := "meetTooth", desc := "(J)V" } : Jvm.MethodName) ∈ lw_tbl := tb_2 (List.mem_of_getElem? (i := 177) rfl)
set_option maxRecDepth 20000 in
theorem wd_418 : Jvm.Cond.code ({ cls := "ToothWheelTimer$Wheel", name := "meetTooth", desc := "(J)V" } : Jvm.MethodName) prog_6_method_2_code (3 : Nat) (Option.none : Option Jvm.ClassFile.FieldType) ∈ lw_tbl := tb_2 (List.mem_of_getElem? (i := 178) rfl)
set_option maxRecDepth 20000 in
theorem wd_419 : Jvm.Cond.methodLink "ToothWheelTimer$Wheel" (44 : Nat) ({ cls := "ToothWheelTimer$Wheel", name := "measure", desc := "(J)V" } : Jvm.MethodName) ∈ lw_tbl := tb_2 (List.mem_of_getElem? (i := 179) rfl)
set_option maxRecDepth 20000 in
theorem wd_420 : Jvm.Cond.privateMethod ({ cls := "ToothWheelTimer$Wheel", name := "measure", desc := "(J)V" } : Jvm.MethodName) ∈ lw_tbl := tb_2 (List.mem_of_getElem? (i := 180) rfl)
set_option maxRecDepth 20000 in
theorem wd_421 : Jvm.Cond.instanceMethod ({ cls := "ToothWheelTimer$Wheel", name := "measure", desc := "(J)V" } : Jvm.MethodName) ∈ lw_tbl := tb_2 (List.mem_of_getElem? (i := 181) rfl)
set_option maxRecDepth 20000 in
theorem wd_422 : Jvm.Cond.code ({ cls := "ToothWheelTimer$Wheel", name := "measure", desc := "(J)V" } : Jvm.MethodName) prog_6_method_3_code (3 : Nat) (Option.none : Option Jvm.ClassFile.FieldType) ∈ lw_tbl := tb_2 (List.mem_of_getElem? (i := 182) rfl)
set_option maxRecDepth 20000 in
theorem wd_423 : Jvm.Cond.constantLong "ToothWheelTimer$Wheel" (48 : Nat) (2 : Int64) ∈ lw_tbl := tb_2 (List.mem_of_getElem? (i := 183) rfl)
set_option maxRecDepth 20000 in
theorem wd_424 : Jvm.Cond.methodLink "ToothWheelTimer$Wheel" (50 : Nat) ({ cls := "ToothWheelTimer$Wheel", name := "passGap", desc := "(J)V" } : Jvm.MethodName) ∈ lw_tbl := tb_2 (List.mem_of_getElem? (i := 184) rfl)
set_option maxRecDepth 20000 in
theorem wd_425 : Jvm.Cond.privateMethod ({ cls := "ToothWheelTimer$Wheel", name := "passGap", desc := "(J)V" } : Jvm.MethodName) ∈ lw_tbl := tb_2 (List.mem_of_getElem? (i := 185) rfl)
set_option maxRecDepth 20000 in
theorem wd_426 : Jvm.Cond.instanceMethod ({ cls := "ToothWheelTimer$Wheel", name := "passGap", desc := "(J)V" } : Jvm.MethodName) ∈ lw_tbl := tb_2 (List.mem_of_getElem? (i := 186) rfl)
set_option maxRecDepth 20000 in
theorem wd_427 : Jvm.Cond.code ({ cls := "ToothWheelTimer$Wheel", name := "passGap", desc := "(J)V" } : Jvm.MethodName) prog_6_method_4_code (4 : Nat) (Option.none : Option Jvm.ClassFile.FieldType) ∈ lw_tbl := tb_2 (List.mem_of_getElem? (i := 187) rfl)
set_option maxRecDepth 20000 in
theorem wd_428 : Jvm.Cond.constantLong "ToothWheelTimer$Wheel" (59 : Nat) (3 : Int64) ∈ lw_tbl := tb_2 (List.mem_of_getElem? (i := 188) rfl)
set_option maxRecDepth 20000 in
theorem wd_429 : Jvm.Cond.methodLink "ToothWheelTimer$Wheel" (61 : Nat) ({ cls := "java/lang/Math", name := "max", desc := "(JJ)J" } : Jvm.MethodName) ∈ lw_tbl := tb_2 (List.mem_of_getElem? (i := 189) rfl)
set_option maxRecDepth 20000 in
theorem wd_430 : Jvm.Cond.static ({ cls := "java/lang/Math", name := "max", desc := "(JJ)J" } : Jvm.MethodName) ∈ lw_tbl := tb_2 (List.mem_of_getElem? (i := 190) rfl)
set_option maxRecDepth 20000 in
theorem wd_431 : Jvm.Cond.code ({ cls := "java/lang/Math", name := "max", desc := "(JJ)J" } : Jvm.MethodName) prog_9_method_66_code (4 : Nat) (Option.some Jvm.ClassFile.FieldType.long) ∈ lw_tbl := tb_2 (List.mem_of_getElem? (i := 191) rfl)
set_option maxRecDepth 20000 in
theorem wd_432 : Jvm.Cond.methodLink "ToothWheelTimer$Wheel" (67 : Nat) ({ cls := "ToothWheelTimer$Wheel", name := "roundAfterGap", desc := "()I" } : Jvm.MethodName) ∈ lw_tbl := tb_2 (List.mem_of_getElem? (i := 192) rfl)
set_option maxRecDepth 20000 in
theorem wd_433 : Jvm.Cond.privateMethod ({ cls := "ToothWheelTimer$Wheel", name := "roundAfterGap", desc := "()I" } : Jvm.MethodName) ∈ lw_tbl := tb_2 (List.mem_of_getElem? (i := 193) rfl)
set_option maxRecDepth 20000 in
theorem wd_434 : Jvm.Cond.instanceMethod ({ cls := "ToothWheelTimer$Wheel", name := "roundAfterGap", desc := "()I" } : Jvm.MethodName) ∈ lw_tbl := tb_2 (List.mem_of_getElem? (i := 194) rfl)
set_option maxRecDepth 20000 in
theorem wd_435 : Jvm.Cond.code ({ cls := "ToothWheelTimer$Wheel", name := "roundAfterGap", desc := "()I" } : Jvm.MethodName) prog_6_method_5_code (1 : Nat) (Option.some Jvm.ClassFile.FieldType.int) ∈ lw_tbl := tb_2 (List.mem_of_getElem? (i := 195) rfl)
set_option maxRecDepth 20000 in
theorem wd_436 : Jvm.Cond.methodLink "ToothWheelTimer$Wheel" (53 : Nat) ({ cls := "ToothWheelTimer$Wheel", name := "passPlain", desc := "(J)V" } : Jvm.MethodName) ∈ lw_tbl := tb_2 (List.mem_of_getElem? (i := 196) rfl)
set_option maxRecDepth 20000 in
theorem wd_437 : Jvm.Cond.privateMethod ({ cls := "ToothWheelTimer$Wheel", name := "passPlain", desc := "(J)V" } : Jvm.MethodName) ∈ lw_tbl := tb_2 (List.mem_of_getElem? (i := 197) rfl)
set_option maxRecDepth 20000 in
theorem wd_438 : Jvm.Cond.instanceMethod ({ cls := "ToothWheelTimer$Wheel", name := "passPlain", desc := "(J)V" } : Jvm.MethodName) ∈ lw_tbl := tb_2 (List.mem_of_getElem? (i := 198) rfl)
set_option maxRecDepth 20000 in
theorem wd_439 : Jvm.Cond.code ({ cls := "ToothWheelTimer$Wheel", name := "passPlain", desc := "(J)V" } : Jvm.MethodName) prog_6_method_6_code (3 : Nat) (Option.none : Option Jvm.ClassFile.FieldType) ∈ lw_tbl := tb_2 (List.mem_of_getElem? (i := 199) rfl)
set_option maxRecDepth 20000 in
theorem wd_440 : Jvm.Cond.methodLink "ToothWheelTimer" (199 : Nat) ({ cls := "ToothWheelTimer", name := "planAll", desc := "()V" } : Jvm.MethodName) ∈ lw_tbl := tb_2 (List.mem_of_getElem? (i := 200) rfl)
set_option maxRecDepth 20000 in
theorem wd_441 : Jvm.Cond.privateMethod ({ cls := "ToothWheelTimer", name := "planAll", desc := "()V" } : Jvm.MethodName) ∈ lw_tbl := tb_2 (List.mem_of_getElem? (i := 201) rfl)
set_option maxRecDepth 20000 in
theorem wd_442 : Jvm.Cond.instanceMethod ({ cls := "ToothWheelTimer", name := "planAll", desc := "()V" } : Jvm.MethodName) ∈ lw_tbl := tb_2 (List.mem_of_getElem? (i := 202) rfl)
set_option maxRecDepth 20000 in
theorem wd_443 : Jvm.Cond.code ({ cls := "ToothWheelTimer", name := "planAll", desc := "()V" } : Jvm.MethodName) prog_1_method_36_code (5 : Nat) (Option.none : Option Jvm.ClassFile.FieldType) ∈ lw_tbl := tb_2 (List.mem_of_getElem? (i := 203) rfl)
set_option maxRecDepth 20000 in
theorem wd_444 : Jvm.Cond.methodLink "ToothWheelTimer" (273 : Nat) ({ cls := "ToothWheelTimer", name := "paceLimit", desc := "()I" } : Jvm.MethodName) ∈ lw_tbl := tb_2 (List.mem_of_getElem? (i := 204) rfl)
set_option maxRecDepth 20000 in
theorem wd_445 : Jvm.Cond.privateMethod ({ cls := "ToothWheelTimer", name := "paceLimit", desc := "()I" } : Jvm.MethodName) ∈ lw_tbl := tb_2 (List.mem_of_getElem? (i := 205) rfl)
set_option maxRecDepth 20000 in
theorem wd_446 : Jvm.Cond.instanceMethod ({ cls := "ToothWheelTimer", name := "paceLimit", desc := "()I" } : Jvm.MethodName) ∈ lw_tbl := tb_2 (List.mem_of_getElem? (i := 206) rfl)
set_option maxRecDepth 20000 in
theorem wd_447 : Jvm.Cond.code ({ cls := "ToothWheelTimer", name := "paceLimit", desc := "()I" } : Jvm.MethodName) prog_1_method_37_code (2 : Nat) (Option.some Jvm.ClassFile.FieldType.int) ∈ lw_tbl := tb_2 (List.mem_of_getElem? (i := 207) rfl)
set_option maxRecDepth 20000 in
theorem wd_448 : Jvm.Cond.methodLink "ToothWheelTimer" (276 : Nat) ({ cls := "ToothWheelTimer", name := "planNear", desc := "(III)V" } : Jvm.MethodName) ∈ lw_tbl := tb_2 (List.mem_of_getElem? (i := 208) rfl)
set_option maxRecDepth 20000 in
theorem wd_449 : Jvm.Cond.privateMethod ({ cls := "ToothWheelTimer", name := "planNear", desc := "(III)V" } : Jvm.MethodName) ∈ lw_tbl := tb_2 (List.mem_of_getElem? (i := 209) rfl)
set_option maxRecDepth 20000 in
theorem wd_450 : Jvm.Cond.instanceMethod ({ cls := "ToothWheelTimer", name := "planNear", desc := "(III)V" } : Jvm.MethodName) ∈ lw_tbl := tb_2 (List.mem_of_getElem? (i := 210) rfl)
set_option maxRecDepth 20000 in
theorem wd_451 : Jvm.Cond.code ({ cls := "ToothWheelTimer", name := "planNear", desc := "(III)V" } : Jvm.MethodName) prog_1_method_38_code (5 : Nat) (Option.none : Option Jvm.ClassFile.FieldType) ∈ lw_tbl := tb_2 (List.mem_of_getElem? (i := 211) rfl)
set_option maxRecDepth 20000 in
theorem wd_452 : Jvm.Cond.methodLinkNest "ToothWheelTimer" (168 : Nat) ({ cls := "ToothWheelTimer$Wheel", name := "stepsTo", desc := "(I)I" } : Jvm.MethodName) "ToothWheelTimer" ∈ lw_tbl := tb_2 (List.mem_of_getElem? (i := 212) rfl)
set_option maxRecDepth 20000 in
theorem wd_453 : Jvm.Cond.privateMethod ({ cls := "ToothWheelTimer$Wheel", name := "stepsTo", desc := "(I)I" } : Jvm.MethodName) ∈ lw_tbl := tb_2 (List.mem_of_getElem? (i := 213) rfl)
set_option maxRecDepth 20000 in
theorem wd_454 : Jvm.Cond.instanceMethod ({ cls := "ToothWheelTimer$Wheel", name := "stepsTo", desc := "(I)I" } : Jvm.MethodName) ∈ lw_tbl := tb_2 (List.mem_of_getElem? (i := 214) rfl)
set_option maxRecDepth 20000 in
theorem wd_455 : Jvm.Cond.code ({ cls := "ToothWheelTimer$Wheel", name := "stepsTo", desc := "(I)I" } : Jvm.MethodName) prog_6_method_12_code (3 : Nat) (Option.some Jvm.ClassFile.FieldType.int) ∈ lw_tbl := tb_2 (List.mem_of_getElem? (i := 215) rfl)
set_option maxRecDepth 20000 in
theorem wd_456 : Jvm.Cond.methodLink "ToothWheelTimer$Wheel" (77 : Nat) ({ cls := "java/lang/Math", name := "floorMod", desc := "(II)I" } : Jvm.MethodName) ∈ lw_tbl := tb_2 (List.mem_of_getElem? (i := 216) rfl)
set_option maxRecDepth 20000 in
theorem wd_457 : Jvm.Cond.static ({ cls := "java/lang/Math", name := "floorMod", desc := "(II)I" } : Jvm.MethodName) ∈ lw_tbl := tb_2 (List.mem_of_getElem? (i := 217) rfl)
set_option maxRecDepth 20000 in
theorem wd_458 : Jvm.Cond.code ({ cls := "java/lang/Math", name := "floorMod", desc := "(II)I" } : Jvm.MethodName) prog_9_method_50_code (3 : Nat) (Option.some Jvm.ClassFile.FieldType.int) ∈ lw_tbl := tb_2 (List.mem_of_getElem? (i := 218) rfl)
set_option maxRecDepth 20000 in
theorem wd_459 : Jvm.Cond.methodLinkNest "ToothWheelTimer" (284 : Nat) ({ cls := "ToothWheelTimer$Wheel", name := "stepsToNextTooth", desc := "()I" } : Jvm.MethodName) "ToothWheelTimer" ∈ lw_tbl := tb_2 (List.mem_of_getElem? (i := 219) rfl)
set_option maxRecDepth 20000 in
theorem wd_460 : Jvm.Cond.privateMethod ({ cls := "ToothWheelTimer$Wheel", name := "stepsToNextTooth", desc := "()I" } : Jvm.MethodName) ∈ lw_tbl := tb_2 (List.mem_of_getElem? (i := 220) rfl)
set_option maxRecDepth 20000 in
theorem wd_461 : Jvm.Cond.instanceMethod ({ cls := "ToothWheelTimer$Wheel", name := "stepsToNextTooth", desc := "()I" } : Jvm.MethodName) ∈ lw_tbl := tb_2 (List.mem_of_getElem? (i := 221) rfl)
set_option maxRecDepth 20000 in
theorem wd_462 : Jvm.Cond.code ({ cls := "ToothWheelTimer$Wheel", name := "stepsToNextTooth", desc := "()I" } : Jvm.MethodName) prog_6_method_13_code (1 : Nat) (Option.some Jvm.ClassFile.FieldType.int) ∈ lw_tbl := tb_2 (List.mem_of_getElem? (i := 222) rfl)
set_option maxRecDepth 20000 in
theorem wd_463 : Jvm.Cond.methodLinkNest "ToothWheelTimer" (172 : Nat) ({ cls := "ToothWheelTimer$Wheel", name := "timeOver", desc := "(I)J" } : Jvm.MethodName) "ToothWheelTimer" ∈ lw_tbl := tb_2 (List.mem_of_getElem? (i := 223) rfl)
set_option maxRecDepth 20000 in
theorem wd_464 : Jvm.Cond.privateMethod ({ cls := "ToothWheelTimer$Wheel", name := "timeOver", desc := "(I)J" } : Jvm.MethodName) ∈ lw_tbl := tb_2 (List.mem_of_getElem? (i := 224) rfl)
set_option maxRecDepth 20000 in
theorem wd_465 : Jvm.Cond.instanceMethod ({ cls := "ToothWheelTimer$Wheel", name := "timeOver", desc := "(I)J" } : Jvm.MethodName) ∈ lw_tbl := tb_2 (List.mem_of_getElem? (i := 225) rfl)
set_option maxRecDepth 20000 in
theorem wd_466 : Jvm.Cond.code ({ cls := "ToothWheelTimer$Wheel", name := "timeOver", desc := "(I)J" } : Jvm.MethodName) prog_6_method_14_code (2 : Nat) (Option.some Jvm.ClassFile.FieldType.long) ∈ lw_tbl := tb_2 (List.mem_of_getElem? (i := 226) rfl)
set_option maxRecDepth 20000 in
theorem wd_467 : Jvm.Cond.constantLong "ToothWheelTimer$Wheel" (81 : Nat) (64 : Int64) ∈ lw_tbl := tb_2 (List.mem_of_getElem? (i := 227) rfl)
set_option maxRecDepth 20000 in
theorem wd_468 : Jvm.Cond.methodLink "ToothWheelTimerLaw" (59 : Nat) ({ cls := "ToothWheelTimer", name := "teeth", desc := "(II)I" } : Jvm.MethodName) ∈ lw_tbl := tb_2 (List.mem_of_getElem? (i := 228) rfl)
set_option maxRecDepth 20000 in
theorem wd_469 : Jvm.Cond.instanceMethod ({ cls := "ToothWheelTimer", name := "teeth", desc := "(II)I" } : Jvm.MethodName) ∈ lw_tbl := tb_2 (List.mem_of_getElem? (i := 229) rfl)
set_option maxRecDepth 20000 in
theorem wd_470 : Jvm.Cond.selects "ToothWheelTimer" ({ cls := "ToothWheelTimer", name := "teeth", desc := "(II)I" } : Jvm.MethodName) ({ cls := "ToothWheelTimer", name := "teeth", desc := "(II)I" } : Jvm.MethodName) ∈ lw_tbl := tb_2 (List.mem_of_getElem? (i := 230) rfl)
set_option maxRecDepth 20000 in
theorem wd_471 : Jvm.Cond.code ({ cls := "ToothWheelTimer", name := "teeth", desc := "(II)I" } : Jvm.MethodName) prog_1_method_10_code (4 : Nat) (Option.some Jvm.ClassFile.FieldType.int) ∈ lw_tbl := tb_2 (List.mem_of_getElem? (i := 231) rfl)
set_option maxRecDepth 20000 in
theorem wd_472 : Jvm.Cond.methodLink "ToothWheelTimerLaw" (64 : Nat) ({ cls := "ToothWheelTimer", name := "cam", desc := "()Z" } : Jvm.MethodName) ∈ lw_tbl := tb_2 (List.mem_of_getElem? (i := 232) rfl)
set_option maxRecDepth 20000 in
theorem wd_473 : Jvm.Cond.instanceMethod ({ cls := "ToothWheelTimer", name := "cam", desc := "()Z" } : Jvm.MethodName) ∈ lw_tbl := tb_2 (List.mem_of_getElem? (i := 233) rfl)
set_option maxRecDepth 20000 in
theorem wd_474 : Jvm.Cond.selects "ToothWheelTimer" ({ cls := "ToothWheelTimer", name := "cam", desc := "()Z" } : Jvm.MethodName) ({ cls := "ToothWheelTimer", name := "cam", desc := "()Z" } : Jvm.MethodName) ∈ lw_tbl := tb_2 (List.mem_of_getElem? (i := 234) rfl)
set_option maxRecDepth 20000 in
theorem wd_475 : Jvm.Cond.code ({ cls := "ToothWheelTimer", name := "cam", desc := "()Z" } : Jvm.MethodName) prog_1_method_11_code (1 : Nat) (Option.some Jvm.ClassFile.FieldType.boolean) ∈ lw_tbl := tb_2 (List.mem_of_getElem? (i := 235) rfl)
set_option maxRecDepth 20000 in
theorem wd_476 : Jvm.Cond.methodLinkNest "ToothWheelTimer" (145 : Nat) ({ cls := "ToothWheelTimer$Wheel", name := "meetCam", desc := "()V" } : Jvm.MethodName) "ToothWheelTimer" ∈ lw_tbl := tb_2 (List.mem_of_getElem? (i := 236) rfl)
set_option maxRecDepth 20000 in
theorem wd_477 : Jvm.Cond.privateMethod ({ cls := "ToothWheelTimer$Wheel", name := "meetCam", desc := "()V" } : Jvm.MethodName) ∈ lw_tbl := tb_2 (List.mem_of_getElem? (i := 237) rfl)
set_option maxRecDepth 20000 in
theorem wd_478 : Jvm.Cond.instanceMethod ({ cls := "ToothWheelTimer$Wheel", name := "meetCam", desc := "()V" } : Jvm.MethodName) ∈ lw_tbl := tb_2 (List.mem_of_getElem? (i := 238) rfl)
set_option maxRecDepth 20000 in
theorem wd_479 : Jvm.Cond.code ({ cls := "ToothWheelTimer$Wheel", name := "meetCam", desc := "()V" } : Jvm.MethodName) prog_6_method_8_code (1 : Nat) (Option.none : Option Jvm.ClassFile.FieldType) ∈ lw_tbl := tb_2 (List.mem_of_getElem? (i := 239) rfl)
set_option maxRecDepth 20000 in
theorem wd_480 : Jvm.Cond.methodLink "ToothWheelTimerLaw" (69 : Nat) ({ cls := "ToothWheelTimer", name := "rest", desc := "(I)I" } : Jvm.MethodName) ∈ lw_tbl := tb_3 (List.mem_of_getElem? (i := 0) rfl)
set_option maxRecDepth 20000 in
theorem wd_481 : Jvm.Cond.instanceMethod ({ cls := "ToothWheelTimer", name := "rest", desc := "(I)I" } : Jvm.MethodName) ∈ lw_tbl := tb_3 (List.mem_of_getElem? (i := 1) rfl)
set_option maxRecDepth 20000 in
theorem wd_482 : Jvm.Cond.selects "ToothWheelTimer" ({ cls := "ToothWheelTimer", name := "rest", desc := "(I)I" } : Jvm.MethodName) ({ cls := "ToothWheelTimer", name := "rest", desc := "(I)I" } : Jvm.MethodName) ∈ lw_tbl := tb_3 (List.mem_of_getElem? (i := 2) rfl)
set_option maxRecDepth 20000 in
theorem wd_483 : Jvm.Cond.code ({ cls := "ToothWheelTimer", name := "rest", desc := "(I)I" } : Jvm.MethodName) prog_1_method_12_code (3 : Nat) (Option.some Jvm.ClassFile.FieldType.int) ∈ lw_tbl := tb_3 (List.mem_of_getElem? (i := 3) rfl)
set_option maxRecDepth 20000 in
theorem wd_484 : Jvm.Cond.constant "ToothWheelTimer" (148 : Nat) (10000000 : Int32) ∈ lw_tbl := tb_3 (List.mem_of_getElem? (i := 4) rfl)
set_option maxRecDepth 20000 in
theorem wd_485 : Jvm.Cond.methodLink "ToothWheelTimerLaw" (73 : Nat) ({ cls := "ToothWheelTimer", name := "state", desc := "()I" } : Jvm.MethodName) ∈ lw_tbl := tb_3 (List.mem_of_getElem? (i := 5) rfl)
set_option maxRecDepth 20000 in
theorem wd_486 : Jvm.Cond.instanceMethod ({ cls := "ToothWheelTimer", name := "state", desc := "()I" } : Jvm.MethodName) ∈ lw_tbl := tb_3 (List.mem_of_getElem? (i := 6) rfl)
set_option maxRecDepth 20000 in
theorem wd_487 : Jvm.Cond.selects "ToothWheelTimer" ({ cls := "ToothWheelTimer", name := "state", desc := "()I" } : Jvm.MethodName) ({ cls := "ToothWheelTimer", name := "state", desc := "()I" } : Jvm.MethodName) ∈ lw_tbl := tb_3 (List.mem_of_getElem? (i := 7) rfl)
set_option maxRecDepth 20000 in
theorem wd_488 : Jvm.Cond.code ({ cls := "ToothWheelTimer", name := "state", desc := "()I" } : Jvm.MethodName) prog_1_method_13_code (1 : Nat) (Option.some Jvm.ClassFile.FieldType.int) ∈ lw_tbl := tb_3 (List.mem_of_getElem? (i := 8) rfl)
set_option maxRecDepth 20000 in
theorem wd_489 : Jvm.Cond.methodLink "ToothWheelTimerLaw" (77 : Nat) ({ cls := "ToothWheelTimer", name := "tooth", desc := "()I" } : Jvm.MethodName) ∈ lw_tbl := tb_3 (List.mem_of_getElem? (i := 9) rfl)
set_option maxRecDepth 20000 in
theorem wd_490 : Jvm.Cond.instanceMethod ({ cls := "ToothWheelTimer", name := "tooth", desc := "()I" } : Jvm.MethodName) ∈ lw_tbl := tb_3 (List.mem_of_getElem? (i := 10) rfl)
set_option maxRecDepth 20000 in
theorem wd_491 : Jvm.Cond.selects "ToothWheelTimer" ({ cls := "ToothWheelTimer", name := "tooth", desc := "()I" } : Jvm.MethodName) ({ cls := "ToothWheelTimer", name := "tooth", desc := "()I" } : Jvm.MethodName) ∈ lw_tbl := tb_3 (List.mem_of_getElem? (i := 11) rfl)
set_option maxRecDepth 20000 in
theorem wd_492 : Jvm.Cond.code ({ cls := "ToothWheelTimer", name := "tooth", desc := "()I" } : Jvm.MethodName) prog_1_method_14_code (1 : Nat) (Option.some Jvm.ClassFile.FieldType.int) ∈ lw_tbl := tb_3 (List.mem_of_getElem? (i := 12) rfl)
set_option maxRecDepth 20000 in
theorem wd_493 : Jvm.Cond.methodLink "ToothWheelTimerLaw" (81 : Nat) ({ cls := "ToothWheelTimer", name := "turn", desc := "()I" } : Jvm.MethodName) ∈ lw_tbl := tb_3 (List.mem_of_getElem? (i := 13) rfl)
set_option maxRecDepth 20000 in
theorem wd_494 : Jvm.Cond.instanceMethod ({ cls := "ToothWheelTimer", name := "turn", desc := "()I" } : Jvm.MethodName) ∈ lw_tbl := tb_3 (List.mem_of_getElem? (i := 14) rfl)
set_option maxRecDepth 20000 in
theorem wd_495 : Jvm.Cond.selects "ToothWheelTimer" ({ cls := "ToothWheelTimer", name := "turn", desc := "()I" } : Jvm.MethodName) ({ cls := "ToothWheelTimer", name := "turn", desc := "()I" } : Jvm.MethodName) ∈ lw_tbl := tb_3 (List.mem_of_getElem? (i := 15) rfl)
set_option maxRecDepth 20000 in
theorem wd_496 : Jvm.Cond.code ({ cls := "ToothWheelTimer", name := "turn", desc := "()I" } : Jvm.MethodName) prog_1_method_15_code (1 : Nat) (Option.some Jvm.ClassFile.FieldType.int) ∈ lw_tbl := tb_3 (List.mem_of_getElem? (i := 16) rfl)
set_option maxRecDepth 20000 in
theorem wd_497 : Jvm.Cond.methodLink "ToothWheelTimerLaw" (85 : Nat) ({ cls := "ToothWheelTimer", name := "unit", desc := "()J" } : Jvm.MethodName) ∈ lw_tbl := tb_3 (List.mem_of_getElem? (i := 17) rfl)
set_option maxRecDepth 20000 in
theorem wd_498 : Jvm.Cond.instanceMethod ({ cls := "ToothWheelTimer", name := "unit", desc := "()J" } : Jvm.MethodName) ∈ lw_tbl := tb_3 (List.mem_of_getElem? (i := 18) rfl)
set_option maxRecDepth 20000 in
theorem wd_499 : Jvm.Cond.selects "ToothWheelTimer" ({ cls := "ToothWheelTimer", name := "unit", desc := "()J" } : Jvm.MethodName) ({ cls := "ToothWheelTimer", name := "unit", desc := "()J" } : Jvm.MethodName) ∈ lw_tbl := tb_3 (List.mem_of_getElem? (i := 19) rfl)
set_option maxRecDepth 20000 in
theorem wd_500 : Jvm.Cond.code ({ cls := "ToothWheelTimer", name := "unit", desc := "()J" } : Jvm.MethodName) prog_1_method_16_code (1 : Nat) (Option.some Jvm.ClassFile.FieldType.long) ∈ lw_tbl := tb_3 (List.mem_of_getElem? (i := 20) rfl)
set_option maxRecDepth 20000 in
theorem wd_501 : Jvm.Cond.methodLink "ToothWheelTimerLaw" (90 : Nat) ({ cls := "ToothWheelTimer", name := "foretell", desc := "(I)J" } : Jvm.MethodName) ∈ lw_tbl := tb_3 (List.mem_of_getElem? (i := 21) rfl)
set_option maxRecDepth 20000 in
theorem wd_502 : Jvm.Cond.instanceMethod ({ cls := "ToothWheelTimer", name := "foretell", desc := "(I)J" } : Jvm.MethodName) ∈ lw_tbl := tb_3 (List.mem_of_getElem? (i := 22) rfl)
set_option maxRecDepth 20000 in
theorem wd_503 : Jvm.Cond.selects "ToothWheelTimer" ({ cls := "ToothWheelTimer", name := "foretell", desc := "(I)J" } : Jvm.MethodName) ({ cls := "ToothWheelTimer", name := "foretell", desc := "(I)J" } : Jvm.MethodName) ∈ lw_tbl := tb_3 (List.mem_of_getElem? (i := 23) rfl)
set_option maxRecDepth 20000 in
theorem wd_504 : Jvm.Cond.code ({ cls := "ToothWheelTimer", name := "foretell", desc := "(I)J" } : Jvm.MethodName) prog_1_method_17_code (2 : Nat) (Option.some Jvm.ClassFile.FieldType.long) ∈ lw_tbl := tb_3 (List.mem_of_getElem? (i := 24) rfl)
set_option maxRecDepth 20000 in
theorem wd_505 : Jvm.Cond.methodLink "ToothWheelTimerLaw" (95 : Nat) ({ cls := "ToothWheelTimer", name := "output", desc := "(I)J" } : Jvm.MethodName) ∈ lw_tbl := tb_3 (List.mem_of_getElem? (i := 25) rfl)
set_option maxRecDepth 20000 in
theorem wd_506 : Jvm.Cond.instanceMethod ({ cls := "ToothWheelTimer", name := "output", desc := "(I)J" } : Jvm.MethodName) ∈ lw_tbl := tb_3 (List.mem_of_getElem? (i := 26) rfl)
set_option maxRecDepth 20000 in
theorem wd_507 : Jvm.Cond.selects "ToothWheelTimer" ({ cls := "ToothWheelTimer", name := "output", desc := "(I)J" } : Jvm.MethodName) ({ cls := "ToothWheelTimer", name := "output", desc := "(I)J" } : Jvm.MethodName) ∈ lw_tbl := tb_3 (List.mem_of_getElem? (i := 27) rfl)
set_option maxRecDepth 20000 in
theorem wd_508 : Jvm.Cond.code ({ cls := "ToothWheelTimer", name := "output", desc := "(I)J" } : Jvm.MethodName) prog_1_method_18_code (2 : Nat) (Option.some Jvm.ClassFile.FieldType.long) ∈ lw_tbl := tb_3 (List.mem_of_getElem? (i := 28) rfl)
set_option maxRecDepth 20000 in
theorem wd_509 : Jvm.Cond.methodLinkNest "ToothWheelTimer" (175 : Nat) ({ cls := "ToothWheelTimer$Panel", name := "logged", desc := "(I)J" } : Jvm.MethodName) "ToothWheelTimer" ∈ lw_tbl := tb_3 (List.mem_of_getElem? (i := 29) rfl)
set_option maxRecDepth 20000 in
theorem wd_510 : Jvm.Cond.privateMethod ({ cls := "ToothWheelTimer$Panel", name := "logged", desc := "(I)J" } : Jvm.MethodName) ∈ lw_tbl := tb_3 (List.mem_of_getElem? (i := 30) rfl)
set_option maxRecDepth 20000 in
theorem wd_511 : Jvm.Cond.instanceMethod ({ cls := "ToothWheelTimer$Panel", name := "logged", desc := "(I)J" } : Jvm.MethodName) ∈ lw_tbl := tb_3 (List.mem_of_getElem? (i := 31) rfl)
set_option maxRecDepth 20000 in
theorem wd_512 : Jvm.Cond.code ({ cls := "ToothWheelTimer$Panel", name := "logged", desc := "(I)J" } : Jvm.MethodName) prog_4_method_5_code (2 : Nat) (Option.some Jvm.ClassFile.FieldType.long) ∈ lw_tbl := tb_3 (List.mem_of_getElem? (i := 32) rfl)
set_option maxRecDepth 20000 in
theorem wd_513 : Jvm.Cond.constantLong "ToothWheelTimer$Panel" (32 : Nat) (-1 : Int64) ∈ lw_tbl := tb_3 (List.mem_of_getElem? (i := 33) rfl)
set_option maxRecDepth 20000 in
theorem wd_514 : Jvm.Cond.methodLink "ToothWheelTimerLaw" (99 : Nat) ({ cls := "ToothWheelTimer", name := "tally", desc := "(I)I" } : Jvm.MethodName) ∈ lw_tbl := tb_3 (List.mem_of_getElem? (i := 34) rfl)
set_option maxRecDepth 20000 in
theorem wd_515 : Jvm.Cond.instanceMethod ({ cls := "ToothWheelTimer", name := "tally", desc := "(I)I" } : Jvm.MethodName) ∈ lw_tbl := tb_3 (List.mem_of_getElem? (i := 35) rfl)
set_option maxRecDepth 20000 in
theorem wd_516 : Jvm.Cond.selects "ToothWheelTimer" ({ cls := "ToothWheelTimer", name := "tally", desc := "(I)I" } : Jvm.MethodName) ({ cls := "ToothWheelTimer", name := "tally", desc := "(I)I" } : Jvm.MethodName) ∈ lw_tbl := tb_3 (List.mem_of_getElem? (i := 36) rfl)
set_option maxRecDepth 20000 in
theorem wd_517 : Jvm.Cond.code ({ cls := "ToothWheelTimer", name := "tally", desc := "(I)I" } : Jvm.MethodName) prog_1_method_19_code (2 : Nat) (Option.some Jvm.ClassFile.FieldType.int) ∈ lw_tbl := tb_3 (List.mem_of_getElem? (i := 37) rfl)
set_option maxRecDepth 20000 in
theorem wd_518 : Jvm.Cond.methodLink "ToothWheelTimerLaw" (103 : Nat) ({ cls := "ToothWheelTimer", name := "waiting", desc := "()I" } : Jvm.MethodName) ∈ lw_tbl := tb_3 (List.mem_of_getElem? (i := 38) rfl)
set_option maxRecDepth 20000 in
theorem wd_519 : Jvm.Cond.instanceMethod ({ cls := "ToothWheelTimer", name := "waiting", desc := "()I" } : Jvm.MethodName) ∈ lw_tbl := tb_3 (List.mem_of_getElem? (i := 39) rfl)
set_option maxRecDepth 20000 in
theorem wd_520 : Jvm.Cond.selects "ToothWheelTimer" ({ cls := "ToothWheelTimer", name := "waiting", desc := "()I" } : Jvm.MethodName) ({ cls := "ToothWheelTimer", name := "waiting", desc := "()I" } : Jvm.MethodName) ∈ lw_tbl := tb_3 (List.mem_of_getElem? (i := 40) rfl)
set_option maxRecDepth 20000 in
theorem wd_521 : Jvm.Cond.code ({ cls := "ToothWheelTimer", name := "waiting", desc := "()I" } : Jvm.MethodName) prog_1_method_20_code (1 : Nat) (Option.some Jvm.ClassFile.FieldType.int) ∈ lw_tbl := tb_3 (List.mem_of_getElem? (i := 41) rfl)
set_option maxRecDepth 20000 in
theorem wd_522 : Jvm.Cond.methodLink "ToothWheelTimerLaw" (107 : Nat) ({ cls := "ToothWheelTimer", name := "running", desc := "()I" } : Jvm.MethodName) ∈ lw_tbl := tb_3 (List.mem_of_getElem? (i := 42) rfl)
set_option maxRecDepth 20000 in
theorem wd_523 : Jvm.Cond.instanceMethod ({ cls := "ToothWheelTimer", name := "running", desc := "()I" } : Jvm.MethodName) ∈ lw_tbl := tb_3 (List.mem_of_getElem? (i := 43) rfl)
set_option maxRecDepth 20000 in
theorem wd_524 : Jvm.Cond.selects "ToothWheelTimer" ({ cls := "ToothWheelTimer", name := "running", desc := "()I" } : Jvm.MethodName) ({ cls := "ToothWheelTimer", name := "running", desc := "()I" } : Jvm.MethodName) ∈ lw_tbl := tb_3 (List.mem_of_getElem? (i := 44) rfl)
set_option maxRecDepth 20000 in
theorem wd_525 : Jvm.Cond.code ({ cls := "ToothWheelTimer", name := "running", desc := "()I" } : Jvm.MethodName) prog_1_method_21_code (1 : Nat) (Option.some Jvm.ClassFile.FieldType.int) ∈ lw_tbl := tb_3 (List.mem_of_getElem? (i := 45) rfl)
set_option maxRecDepth 20000 in
theorem wd_526 : Jvm.Cond.methodLink "ToothWheelTimerLaw" (9 : Nat) ({ cls := "ToothWheelTimerLaw", name := "cell", desc := "([II)I" } : Jvm.MethodName) ∈ lw_tbl := tb_3 (List.mem_of_getElem? (i := 46) rfl)
set_option maxRecDepth 20000 in
theorem wd_527 : Jvm.Cond.static ({ cls := "ToothWheelTimerLaw", name := "cell", desc := "([II)I" } : Jvm.MethodName) ∈ lw_tbl := tb_3 (List.mem_of_getElem? (i := 47) rfl)
set_option maxRecDepth 20000 in
theorem wd_528 : Jvm.Cond.code ({ cls := "ToothWheelTimerLaw", name := "cell", desc := "([II)I" } : Jvm.MethodName) method_2_code (2 : Nat) (Option.some Jvm.ClassFile.FieldType.int) ∈ lw_tbl := tb_3 (List.mem_of_getElem? (i := 48) rfl)
set_option maxRecDepth 20000 in
theorem wd_529 : Jvm.Cond.classLink "ToothWheelTimerLaw" (18 : Nat) "ToothWheelTimerModel" ∈ lw_tbl := tb_3 (List.mem_of_getElem? (i := 49) rfl)
set_option maxRecDepth 20000 in
theorem wd_530 : Jvm.Cond.instantiable "ToothWheelTimerModel" (32 : Nat) ∈ lw_tbl := tb_3 (List.mem_of_getElem? (i := 50) rfl)
set_option maxRecDepth 20000 in
theorem wd_531 : Jvm.Cond.methodLink "ToothWheelTimerLaw" (20 : Nat) ({ cls := "ToothWheelTimerModel", name := "<init>", desc := "(IIII)V" } : Jvm.MethodName) ∈ lw_tbl := tb_3 (List.mem_of_getElem? (i := 51) rfl)
set_option maxRecDepth 20000 in
theorem wd_532 : Jvm.Cond.instanceMethod ({ cls := "ToothWheelTimerModel", name := "<init>", desc := "(IIII)V" } : Jvm.MethodName) ∈ lw_tbl := tb_3 (List.mem_of_getElem? (i := 52) rfl)
set_option maxRecDepth 20000 in
theorem wd_533 : Jvm.Cond.code ({ cls := "ToothWheelTimerModel", name := "<init>", desc := "(IIII)V" } : Jvm.MethodName) prog_8_method_1_code (6 : Nat) (Option.none : Option Jvm.ClassFile.FieldType) ∈ lw_tbl := tb_3 (List.mem_of_getElem? (i := 53) rfl)
set_option maxRecDepth 20000 in
theorem wd_534 : Jvm.Cond.methodLink "ToothWheelTimerModel" (1 : Nat) ({ cls := "java/lang/Object", name := "<init>", desc := "()V" } : Jvm.MethodName) ∈ lw_tbl := tb_3 (List.mem_of_getElem? (i := 54) rfl)
set_option maxRecDepth 20000 in
theorem wd_535 : Jvm.Cond.methodLink "ToothWheelTimerModel" (58 : Nat) ({ cls := "ToothWheelTimerModel", name := "bound", desc := "(III)I" } : Jvm.MethodName) ∈ lw_tbl := tb_3 (List.mem_of_getElem? (i := 55) rfl)
set_option maxRecDepth 20000 in
theorem wd_536 : Jvm.Cond.static ({ cls := "ToothWheelTimerModel", name := "bound", desc := "(III)I" } : Jvm.MethodName) ∈ lw_tbl := tb_3 (List.mem_of_getElem? (i := 56) rfl)
set_option maxRecDepth 20000 in
theorem wd_537 : Jvm.Cond.code ({ cls := "ToothWheelTimerModel", name := "bound", desc := "(III)I" } : Jvm.MethodName) prog_8_method_2_code (3 : Nat) (Option.some Jvm.ClassFile.FieldType.int) ∈ lw_tbl := tb_3 (List.mem_of_getElem? (i := 57) rfl)
set_option maxRecDepth 20000 in
theorem wd_538 : Jvm.Cond.constant "ToothWheelTimerModel" (74 : Nat) (100000 : Int32) ∈ lw_tbl := tb_3 (List.mem_of_getElem? (i := 58) rfl)
set_option maxRecDepth 20000 in
theorem wd_539 : Jvm.Cond.fieldLink "ToothWheelTimerModel" (62 : Nat) "ToothWheelTimerModel" "last" "I" ∈ lw_tbl := tb_3 (List.mem_of_getElem? (i := 59) rfl)
set_option maxRecDepth 20000 in
theorem wd_540 : Jvm.Cond.fieldLink "ToothWheelTimerModel" (68 : Nat) "ToothWheelTimerModel" "many" "I" ∈ lw_tbl := tb_3 (List.mem_of_getElem? (i := 60) rfl)
set_option maxRecDepth 20000 in
theorem wd_541 : Jvm.Cond.fieldLink "ToothWheelTimerModel" (71 : Nat) "ToothWheelTimerModel" "ahead" "I" ∈ lw_tbl := tb_3 (List.mem_of_getElem? (i := 61) rfl)
set_option maxRecDepth 20000 in
theorem wd_542 : Jvm.Cond.fieldLink "ToothWheelTimerModel" (75 : Nat) "ToothWheelTimerModel" "dwell" "I" ∈ lw_tbl := tb_3 (List.mem_of_getElem? (i := 62) rfl)
set_option maxRecDepth 20000 in
theorem wd_543 : Jvm.Cond.fieldLink "ToothWheelTimerModel" (65 : Nat) "ToothWheelTimerModel" "cycle" "I" ∈ lw_tbl := tb_3 (List.mem_of_getElem? (i := 63) rfl)
set_option maxRecDepth 20000 in
theorem wd_544 : Jvm.Cond.fieldLink "ToothWheelTimerModel" (111 : Nat) "ToothWheelTimerModel" "now" "J" ∈ lw_tbl := tb_3 (List.mem_of_getElem? (i := 64) rfl)
set_option maxRecDepth 20000 in
theorem wd_545 : Jvm.Cond.fieldLink "ToothWheelTimerModel" (161 : Nat) "ToothWheelTimerModel" "any" "Z" ∈ lw_tbl := tb_3 (List.mem_of_getElem? (i := 65) rfl)
set_option maxRecDepth 20000 in
theorem wd_546 : Jvm.Cond.fieldLink "ToothWheelTimerModel" (145 : Nat) "ToothWheelTimerModel" "latest" "J" ∈ lw_tbl := tb_3 (List.mem_of_getElem? (i := 66) rfl)
set_option maxRecDepth 20000 in
theorem wd_547 : Jvm.Cond.fieldLink "ToothWheelTimerModel" (86 : Nat) "ToothWheelTimerModel" "unit" "J" ∈ lw_tbl := tb_3 (List.mem_of_getElem? (i := 67) rfl)
set_option maxRecDepth 20000 in
theorem wd_548 : Jvm.Cond.fieldLink "ToothWheelTimerModel" (158 : Nat) "ToothWheelTimerModel" "state" "I" ∈ lw_tbl := tb_3 (List.mem_of_getElem? (i := 68) rfl)
set_option maxRecDepth 20000 in
theorem wd_549 : Jvm.Cond.fieldLink "ToothWheelTimerModel" (171 : Nat) "ToothWheelTimerModel" "tooth" "I" ∈ lw_tbl := tb_3 (List.mem_of_getElem? (i := 69) rfl)
set_option maxRecDepth 20000 in
theorem wd_550 : Jvm.Cond.fieldLink "ToothWheelTimerModel" (7 : Nat) "ToothWheelTimerModel" "turn" "I" ∈ lw_tbl := tb_3 (List.mem_of_getElem? (i := 70) rfl)
set_option maxRecDepth 20000 in
theorem wd_551 : Jvm.Cond.fieldLink "ToothWheelTimerModel" (176 : Nat) "ToothWheelTimerModel" "camSeen" "Z" ∈ lw_tbl := tb_3 (List.mem_of_getElem? (i := 71) rfl)
set_option maxRecDepth 20000 in
theorem wd_552 : Jvm.Cond.fieldLink "ToothWheelTimerModel" (13 : Nat) "ToothWheelTimerModel" "point" "[I" ∈ lw_tbl := tb_3 (List.mem_of_getElem? (i := 72) rfl)
set_option maxRecDepth 20000 in
theorem wd_553 : Jvm.Cond.fieldLink "ToothWheelTimerModel" (17 : Nat) "ToothWheelTimerModel" "waits" "[Z" ∈ lw_tbl := tb_3 (List.mem_of_getElem? (i := 73) rfl)
set_option maxRecDepth 20000 in
theorem wd_554 : Jvm.Cond.fieldLink "ToothWheelTimerModel" (21 : Nat) "ToothWheelTimerModel" "due" "[J" ∈ lw_tbl := tb_3 (List.mem_of_getElem? (i := 74) rfl)
set_option maxRecDepth 20000 in
theorem wd_555 : Jvm.Cond.fieldLink "ToothWheelTimerModel" (25 : Nat) "ToothWheelTimerModel" "number" "[I" ∈ lw_tbl := tb_3 (List.mem_of_getElem? (i := 75) rfl)
set_option maxRecDepth 20000 in
theorem wd_556 : Jvm.Cond.fieldLink "ToothWheelTimerModel" (116 : Nat) "ToothWheelTimerModel" "planned" "I" ∈ lw_tbl := tb_3 (List.mem_of_getElem? (i := 76) rfl)
set_option maxRecDepth 20000 in
theorem wd_557 : Jvm.Cond.fieldLink "ToothWheelTimerModel" (28 : Nat) "ToothWheelTimerModel" "coil" "[Z" ∈ lw_tbl := tb_3 (List.mem_of_getElem? (i := 77) rfl)
set_option maxRecDepth 20000 in
theorem wd_558 : Jvm.Cond.fieldLink "ToothWheelTimerModel" (31 : Nat) "ToothWheelTimerModel" "injector" "[Z" ∈ lw_tbl := tb_3 (List.mem_of_getElem? (i := 78) rfl)
set_option maxRecDepth 20000 in
theorem wd_559 : Jvm.Cond.fieldLink "ToothWheelTimerModel" (34 : Nat) "ToothWheelTimerModel" "sampled" "[Z" ∈ lw_tbl := tb_3 (List.mem_of_getElem? (i := 79) rfl)
set_option maxRecDepth 20000 in
theorem wd_560 : Jvm.Cond.fieldLink "ToothWheelTimerModel" (37 : Nat) "ToothWheelTimerModel" "before" "[I" ∈ lw_tbl := tb_3 (List.mem_of_getElem? (i := 80) rfl)
set_option maxRecDepth 20000 in
theorem wd_561 : Jvm.Cond.fieldLink "ToothWheelTimerModel" (40 : Nat) "ToothWheelTimerModel" "anyGood" "[Z" ∈ lw_tbl := tb_3 (List.mem_of_getElem? (i := 81) rfl)
set_option maxRecDepth 20000 in
theorem wd_562 : Jvm.Cond.fieldLink "ToothWheelTimerModel" (43 : Nat) "ToothWheelTimerModel" "good" "[I" ∈ lw_tbl := tb_3 (List.mem_of_getElem? (i := 82) rfl)
set_option maxRecDepth 20000 in
theorem wd_563 : Jvm.Cond.fieldLink "ToothWheelTimerModel" (46 : Nat) "ToothWheelTimerModel" "fails" "[I" ∈ lw_tbl := tb_3 (List.mem_of_getElem? (i := 83) rfl)
set_option maxRecDepth 20000 in
theorem wd_564 : Jvm.Cond.fieldLink "ToothWheelTimerModel" (49 : Nat) "ToothWheelTimerModel" "stored" "[Z" ∈ lw_tbl := tb_3 (List.mem_of_getElem? (i := 84) rfl)
set_option maxRecDepth 20000 in
theorem wd_565 : Jvm.Cond.fieldLink "ToothWheelTimerModel" (52 : Nat) "ToothWheelTimerModel" "shot" "[J" ∈ lw_tbl := tb_3 (List.mem_of_getElem? (i := 85) rfl)
set_option maxRecDepth 20000 in
theorem wd_566 : Jvm.Cond.fieldLink "ToothWheelTimerModel" (55 : Nat) "ToothWheelTimerModel" "out" "[J" ∈ lw_tbl := tb_3 (List.mem_of_getElem? (i := 86) rfl)
set_option maxRecDepth 20000 in
theorem wd_567 : Jvm.Cond.fieldLink "ToothWheelTimerModel" (121 : Nat) "ToothWheelTimerModel" "switchings" "I" ∈ lw_tbl := tb_3 (List.mem_of_getElem? (i := 87) rfl)
set_option maxRecDepth 20000 in
theorem wd_568 : Jvm.Cond.fieldLink "ToothWheelTimerModel" (132 : Nat) "ToothWheelTimerModel" "sparks" "I" ∈ lw_tbl := tb_3 (List.mem_of_getElem? (i := 88) rfl)
set_option maxRecDepth 20000 in
theorem wd_569 : Jvm.Cond.fieldLink "ToothWheelTimerModel" (135 : Nat) "ToothWheelTimerModel" "cuts" "I" ∈ lw_tbl := tb_3 (List.mem_of_getElem? (i := 89) rfl)
set_option maxRecDepth 20000 in
theorem wd_570 : Jvm.Cond.fieldLink "ToothWheelTimerModel" (168 : Nat) "ToothWheelTimerModel" "ceased" "I" ∈ lw_tbl := tb_3 (List.mem_of_getElem? (i := 90) rfl)
set_option maxRecDepth 20000 in
theorem wd_571 : Jvm.Cond.lays "ToothWheelTimerModel" "ToothWheelTimerModel" "last" "I" ∈ lw_tbl := tb_3 (List.mem_of_getElem? (i := 91) rfl)
set_option maxRecDepth 20000 in
theorem wd_572 : Jvm.Cond.soleField "ToothWheelTimerModel" "last" ∈ lw_tbl := tb_3 (List.mem_of_getElem? (i := 92) rfl)
set_option maxRecDepth 20000 in
theorem wd_573 : Jvm.Cond.lays "ToothWheelTimerModel" "ToothWheelTimerModel" "many" "I" ∈ lw_tbl := tb_3 (List.mem_of_getElem? (i := 93) rfl)
set_option maxRecDepth 20000 in
theorem wd_574 : Jvm.Cond.soleField "ToothWheelTimerModel" "many" ∈ lw_tbl := tb_3 (List.mem_of_getElem? (i := 94) rfl)
set_option maxRecDepth 20000 in
theorem wd_575 : Jvm.Cond.lays "ToothWheelTimerModel" "ToothWheelTimerModel" "ahead" "I" ∈ lw_tbl := tb_3 (List.mem_of_getElem? (i := 95) rfl)
set_option maxRecDepth 20000 in
theorem wd_576 : Jvm.Cond.soleField "ToothWheelTimerModel" "ahead" ∈ lw_tbl := tb_3 (List.mem_of_getElem? (i := 96) rfl)
set_option maxRecDepth 20000 in
theorem wd_577 : Jvm.Cond.lays "ToothWheelTimerModel" "ToothWheelTimerModel" "dwell" "I" ∈ lw_tbl := tb_3 (List.mem_of_getElem? (i := 97) rfl)
set_option maxRecDepth 20000 in
theorem wd_578 : Jvm.Cond.soleField "ToothWheelTimerModel" "dwell" ∈ lw_tbl := tb_3 (List.mem_of_getElem? (i := 98) rfl)
set_option maxRecDepth 20000 in
theorem wd_579 : Jvm.Cond.lays "ToothWheelTimerModel" "ToothWheelTimerModel" "cycle" "I" ∈ lw_tbl := tb_3 (List.mem_of_getElem? (i := 99) rfl)
set_option maxRecDepth 20000 in
theorem wd_580 : Jvm.Cond.soleField "ToothWheelTimerModel" "cycle" ∈ lw_tbl := tb_3 (List.mem_of_getElem? (i := 100) rfl)
set_option maxRecDepth 20000 in
theorem wd_581 : Jvm.Cond.lays "ToothWheelTimerModel" "ToothWheelTimerModel" "now" "J" ∈ lw_tbl := tb_3 (List.mem_of_getElem? (i := 101) rfl)
set_option maxRecDepth 20000 in
theorem wd_582 : Jvm.Cond.soleField "ToothWheelTimerModel" "now" ∈ lw_tbl := tb_3 (List.mem_of_getElem? (i := 102) rfl)
set_option maxRecDepth 20000 in
theorem wd_583 : Jvm.Cond.lays "ToothWheelTimerModel" "ToothWheelTimerModel" "any" "Z" ∈ lw_tbl := tb_3 (List.mem_of_getElem? (i := 103) rfl)
set_option maxRecDepth 20000 in
theorem wd_584 : Jvm.Cond.soleField "ToothWheelTimerModel" "any" ∈ lw_tbl := tb_3 (List.mem_of_getElem? (i := 104) rfl)
set_option maxRecDepth 20000 in
theorem wd_585 : Jvm.Cond.lays "ToothWheelTimerModel" "ToothWheelTimerModel" "latest" "J" ∈ lw_tbl := tb_3 (List.mem_of_getElem? (i := 105) rfl)
set_option maxRecDepth 20000 in
theorem wd_586 : Jvm.Cond.soleField "ToothWheelTimerModel" "latest" ∈ lw_tbl := tb_3 (List.mem_of_getElem? (i := 106) rfl)
set_option maxRecDepth 20000 in
theorem wd_587 : Jvm.Cond.lays "ToothWheelTimerModel" "ToothWheelTimerModel" "unit" "J" ∈ lw_tbl := tb_3 (List.mem_of_getElem? (i := 107) rfl)
set_option maxRecDepth 20000 in
theorem wd_588 : Jvm.Cond.soleField "ToothWheelTimerModel" "unit" ∈ lw_tbl := tb_3 (List.mem_of_getElem? (i := 108) rfl)
set_option maxRecDepth 20000 in
theorem wd_589 : Jvm.Cond.lays "ToothWheelTimerModel" "ToothWheelTimerModel" "state" "I" ∈ lw_tbl := tb_3 (List.mem_of_getElem? (i := 109) rfl)
set_option maxRecDepth 20000 in
theorem wd_590 : Jvm.Cond.soleField "ToothWheelTimerModel" "state" ∈ lw_tbl := tb_3 (List.mem_of_getElem? (i := 110) rfl)
set_option maxRecDepth 20000 in
theorem wd_591 : Jvm.Cond.lays "ToothWheelTimerModel" "ToothWheelTimerModel" "tooth" "I" ∈ lw_tbl := tb_3 (List.mem_of_getElem? (i := 111) rfl)
set_option maxRecDepth 20000 in
theorem wd_592 : Jvm.Cond.soleField "ToothWheelTimerModel" "tooth" ∈ lw_tbl := tb_3 (List.mem_of_getElem? (i := 112) rfl)
set_option maxRecDepth 20000 in
theorem wd_593 : Jvm.Cond.lays "ToothWheelTimerModel" "ToothWheelTimerModel" "turn" "I" ∈ lw_tbl := tb_3 (List.mem_of_getElem? (i := 113) rfl)
set_option maxRecDepth 20000 in
theorem wd_594 : Jvm.Cond.soleField "ToothWheelTimerModel" "turn" ∈ lw_tbl := tb_3 (List.mem_of_getElem? (i := 114) rfl)
set_option maxRecDepth 20000 in
theorem wd_595 : Jvm.Cond.lays "ToothWheelTimerModel" "ToothWheelTimerModel" "camSeen" "Z" ∈ lw_tbl := tb_3 (List.mem_of_getElem? (i := 115) rfl)
set_option maxRecDepth 20000 in
theorem wd_596 : Jvm.Cond.soleField "ToothWheelTimerModel" "camSeen" ∈ lw_tbl := tb_3 (List.mem_of_getElem? (i := 116) rfl)
set_option maxRecDepth 20000 in
theorem wd_597 : Jvm.Cond.laysFinal "ToothWheelTimerModel" "ToothWheelTimerModel" "point" "[I" ∈ lw_tbl := tb_3 (List.mem_of_getElem? (i := 117) rfl)
set_option maxRecDepth 20000 in
theorem wd_598 : Jvm.Cond.soleField "ToothWheelTimerModel" "point" ∈ lw_tbl := tb_3 (List.mem_of_getElem? (i := 118) rfl)
set_option maxRecDepth 20000 in
theorem wd_599 : Jvm.Cond.laysFinal "ToothWheelTimerModel" "ToothWheelTimerModel" "waits" "[Z" ∈ lw_tbl := tb_3 (List.mem_of_getElem? (i := 119) rfl)
set_option maxRecDepth 20000 in
theorem wd_600 : Jvm.Cond.soleField "ToothWheelTimerModel" "waits" ∈ lw_tbl := tb_3 (List.mem_of_getElem? (i := 120) rfl)
set_option maxRecDepth 20000 in
theorem wd_601 : Jvm.Cond.laysFinal "ToothWheelTimerModel" "ToothWheelTimerModel" "due" "[J" ∈ lw_tbl := tb_3 (List.mem_of_getElem? (i := 121) rfl)
set_option maxRecDepth 20000 in
theorem wd_602 : Jvm.Cond.soleField "ToothWheelTimerModel" "due" ∈ lw_tbl := tb_3 (List.mem_of_getElem? (i := 122) rfl)
set_option maxRecDepth 20000 in
theorem wd_603 : Jvm.Cond.laysFinal "ToothWheelTimerModel" "ToothWheelTimerModel" "number" "[I" ∈ lw_tbl := tb_3 (List.mem_of_getElem? (i := 123) rfl)
set_option maxRecDepth 20000 in
theorem wd_604 : Jvm.Cond.soleField "ToothWheelTimerModel" "number" ∈ lw_tbl := tb_3 (List.mem_of_getElem? (i := 124) rfl)
set_option maxRecDepth 20000 in
theorem wd_605 : Jvm.Cond.lays "ToothWheelTimerModel" "ToothWheelTimerModel" "planned" "I" ∈ lw_tbl := tb_3 (List.mem_of_getElem? (i := 125) rfl)
set_option maxRecDepth 20000 in
theorem wd_606 : Jvm.Cond.soleField "ToothWheelTimerModel" "planned" ∈ lw_tbl := tb_3 (List.mem_of_getElem? (i := 126) rfl)
set_option maxRecDepth 20000 in
theorem wd_607 : Jvm.Cond.laysFinal "ToothWheelTimerModel" "ToothWheelTimerModel" "coil" "[Z" ∈ lw_tbl := tb_3 (List.mem_of_getElem? (i := 127) rfl)
set_option maxRecDepth 20000 in
theorem wd_608 : Jvm.Cond.soleField "ToothWheelTimerModel" "coil" ∈ lw_tbl := tb_3 (List.mem_of_getElem? (i := 128) rfl)
set_option maxRecDepth 20000 in
theorem wd_609 : Jvm.Cond.laysFinal "ToothWheelTimerModel" "ToothWheelTimerModel" "injector" "[Z" ∈ lw_tbl := tb_3 (List.mem_of_getElem? (i := 129) rfl)
set_option maxRecDepth 20000 in
theorem wd_610 : Jvm.Cond.soleField "ToothWheelTimerModel" "injector" ∈ lw_tbl := tb_3 (List.mem_of_getElem? (i := 130) rfl)
set_option maxRecDepth 20000 in
theorem wd_611 : Jvm.Cond.laysFinal "ToothWheelTimerModel" "ToothWheelTimerModel" "sampled" "[Z" ∈ lw_tbl := tb_3 (List.mem_of_getElem? (i := 131) rfl)
set_option maxRecDepth 20000 in
theorem wd_612 : Jvm.Cond.soleField "ToothWheelTimerModel" "sampled" ∈ lw_tbl := tb_3 (List.mem_of_getElem? (i := 132) rfl)
set_option maxRecDepth 20000 in
theorem wd_613 : Jvm.Cond.laysFinal "ToothWheelTimerModel" "ToothWheelTimerModel" "before" "[I" ∈ lw_tbl := tb_3 (List.mem_of_getElem? (i := 133) rfl)
set_option maxRecDepth 20000 in
theorem wd_614 : Jvm.Cond.soleField "ToothWheelTimerModel" "before" ∈ lw_tbl := tb_3 (List.mem_of_getElem? (i := 134) rfl)
set_option maxRecDepth 20000 in
theorem wd_615 : Jvm.Cond.laysFinal "ToothWheelTimerModel" "ToothWheelTimerModel" "anyGood" "[Z" ∈ lw_tbl := tb_3 (List.mem_of_getElem? (i := 135) rfl)
set_option maxRecDepth 20000 in
theorem wd_616 : Jvm.Cond.soleField "ToothWheelTimerModel" "anyGood" ∈ lw_tbl := tb_3 (List.mem_of_getElem? (i := 136) rfl)
set_option maxRecDepth 20000 in
theorem wd_617 : Jvm.Cond.laysFinal "ToothWheelTimerModel" "ToothWheelTimerModel" "good" "[I" ∈ lw_tbl := tb_3 (List.mem_of_getElem? (i := 137) rfl)
set_option maxRecDepth 20000 in
theorem wd_618 : Jvm.Cond.soleField "ToothWheelTimerModel" "good" ∈ lw_tbl := tb_3 (List.mem_of_getElem? (i := 138) rfl)
set_option maxRecDepth 20000 in
theorem wd_619 : Jvm.Cond.laysFinal "ToothWheelTimerModel" "ToothWheelTimerModel" "fails" "[I" ∈ lw_tbl := tb_3 (List.mem_of_getElem? (i := 139) rfl)
set_option maxRecDepth 20000 in
theorem wd_620 : Jvm.Cond.soleField "ToothWheelTimerModel" "fails" ∈ lw_tbl := tb_3 (List.mem_of_getElem? (i := 140) rfl)
set_option maxRecDepth 20000 in
theorem wd_621 : Jvm.Cond.laysFinal "ToothWheelTimerModel" "ToothWheelTimerModel" "stored" "[Z" ∈ lw_tbl := tb_3 (List.mem_of_getElem? (i := 141) rfl)
set_option maxRecDepth 20000 in
theorem wd_622 : Jvm.Cond.soleField "ToothWheelTimerModel" "stored" ∈ lw_tbl := tb_3 (List.mem_of_getElem? (i := 142) rfl)
set_option maxRecDepth 20000 in
theorem wd_623 : Jvm.Cond.laysFinal "ToothWheelTimerModel" "ToothWheelTimerModel" "shot" "[J" ∈ lw_tbl := tb_3 (List.mem_of_getElem? (i := 143) rfl)
set_option maxRecDepth 20000 in
theorem wd_624 : Jvm.Cond.soleField "ToothWheelTimerModel" "shot" ∈ lw_tbl := tb_3 (List.mem_of_getElem? (i := 144) rfl)
set_option maxRecDepth 20000 in
theorem wd_625 : Jvm.Cond.laysFinal "ToothWheelTimerModel" "ToothWheelTimerModel" "out" "[J" ∈ lw_tbl := tb_3 (List.mem_of_getElem? (i := 145) rfl)
set_option maxRecDepth 20000 in
theorem wd_626 : Jvm.Cond.soleField "ToothWheelTimerModel" "out" ∈ lw_tbl := tb_3 (List.mem_of_getElem? (i := 146) rfl)
set_option maxRecDepth 20000 in
theorem wd_627 : Jvm.Cond.lays "ToothWheelTimerModel" "ToothWheelTimerModel" "switchings" "I" ∈ lw_tbl := tb_3 (List.mem_of_getElem? (i := 147) rfl)
set_option maxRecDepth 20000 in
theorem wd_628 : Jvm.Cond.soleField "ToothWheelTimerModel" "switchings" ∈ lw_tbl := tb_3 (List.mem_of_getElem? (i := 148) rfl)
set_option maxRecDepth 20000 in
theorem wd_629 : Jvm.Cond.lays "ToothWheelTimerModel" "ToothWheelTimerModel" "sparks" "I" ∈ lw_tbl := tb_3 (List.mem_of_getElem? (i := 149) rfl)
set_option maxRecDepth 20000 in
theorem wd_630 : Jvm.Cond.soleField "ToothWheelTimerModel" "sparks" ∈ lw_tbl := tb_3 (List.mem_of_getElem? (i := 150) rfl)
set_option maxRecDepth 20000 in
theorem wd_631 : Jvm.Cond.lays "ToothWheelTimerModel" "ToothWheelTimerModel" "cuts" "I" ∈ lw_tbl := tb_3 (List.mem_of_getElem? (i := 151) rfl)
set_option maxRecDepth 20000 in
theorem wd_632 : Jvm.Cond.soleField "ToothWheelTimerModel" "cuts" ∈ lw_tbl := tb_3 (List.mem_of_getElem? (i := 152) rfl)
set_option maxRecDepth 20000 in
theorem wd_633 : Jvm.Cond.lays "ToothWheelTimerModel" "ToothWheelTimerModel" "ceased" "I" ∈ lw_tbl := tb_3 (List.mem_of_getElem? (i := 153) rfl)
set_option maxRecDepth 20000 in
theorem wd_634 : Jvm.Cond.soleField "ToothWheelTimerModel" "ceased" ∈ lw_tbl := tb_3 (List.mem_of_getElem? (i := 154) rfl)
set_option maxRecDepth 20000 in
theorem wd_635 : Jvm.Cond.superclass "ToothWheelTimerModel" "java/lang/Object" ∈ lw_tbl := tb_3 (List.mem_of_getElem? (i := 155) rfl)
set_option maxRecDepth 20000 in
theorem wd_636 : Jvm.Cond.methodLink "ToothWheelTimerLaw" (25 : Nat) ({ cls := "ToothWheelTimerModel", name := "set", desc := "(IIII)Z" } : Jvm.MethodName) ∈ lw_tbl := tb_3 (List.mem_of_getElem? (i := 156) rfl)
set_option maxRecDepth 20000 in
theorem wd_637 : Jvm.Cond.instanceMethod ({ cls := "ToothWheelTimerModel", name := "set", desc := "(IIII)Z" } : Jvm.MethodName) ∈ lw_tbl := tb_3 (List.mem_of_getElem? (i := 157) rfl)
set_option maxRecDepth 20000 in
theorem wd_638 : Jvm.Cond.selects "ToothWheelTimerModel" ({ cls := "ToothWheelTimerModel", name := "set", desc := "(IIII)Z" } : Jvm.MethodName) ({ cls := "ToothWheelTimerModel", name := "set", desc := "(IIII)Z" } : Jvm.MethodName) ∈ lw_tbl := tb_3 (List.mem_of_getElem? (i := 158) rfl)
set_option maxRecDepth 20000 in
theorem wd_639 : Jvm.Cond.code ({ cls := "ToothWheelTimerModel", name := "set", desc := "(IIII)Z" } : Jvm.MethodName) prog_8_method_5_code (6 : Nat) (Option.some Jvm.ClassFile.FieldType.boolean) ∈ lw_tbl := tb_3 (List.mem_of_getElem? (i := 159) rfl)
set_option maxRecDepth 20000 in
theorem wd_640 : Jvm.Cond.methodLink "ToothWheelTimerModel" (78 : Nat) ({ cls := "ToothWheelTimerModel", name := "in", desc := "(III)Z" } : Jvm.MethodName) ∈ lw_tbl := tb_3 (List.mem_of_getElem? (i := 160) rfl)
set_option maxRecDepth 20000 in
theorem wd_641 : Jvm.Cond.static ({ cls := "ToothWheelTimerModel", name := "in", desc := "(III)Z" } : Jvm.MethodName) ∈ lw_tbl := tb_3 (List.mem_of_getElem? (i := 161) rfl)
set_option maxRecDepth 20000 in
theorem wd_642 : Jvm.Cond.code ({ cls := "ToothWheelTimerModel", name := "in", desc := "(III)Z" } : Jvm.MethodName) prog_8_method_3_code (3 : Nat) (Option.some Jvm.ClassFile.FieldType.boolean) ∈ lw_tbl := tb_3 (List.mem_of_getElem? (i := 162) rfl)
set_option maxRecDepth 20000 in
theorem wd_643 : Jvm.Cond.methodLink "ToothWheelTimerLaw" (30 : Nat) ({ cls := "ToothWheelTimerModel", name := "look", desc := "(III)I" } : Jvm.MethodName) ∈ lw_tbl := tb_3 (List.mem_of_getElem? (i := 163) rfl)
set_option maxRecDepth 20000 in
theorem wd_644 : Jvm.Cond.instanceMethod ({ cls := "ToothWheelTimerModel", name := "look", desc := "(III)I" } : Jvm.MethodName) ∈ lw_tbl := tb_3 (List.mem_of_getElem? (i := 164) rfl)
set_option maxRecDepth 20000 in
theorem wd_645 : Jvm.Cond.selects "ToothWheelTimerModel" ({ cls := "ToothWheelTimerModel", name := "look", desc := "(III)I" } : Jvm.MethodName) ({ cls := "ToothWheelTimerModel", name := "look", desc := "(III)I" } : Jvm.MethodName) ∈ lw_tbl := tb_3 (List.mem_of_getElem? (i := 165) rfl)
set_option maxRecDepth 20000 in
theorem wd_646 : Jvm.Cond.code ({ cls := "ToothWheelTimerModel", name := "look", desc := "(III)I" } : Jvm.MethodName) prog_8_method_6_code (13 : Nat) (Option.some Jvm.ClassFile.FieldType.int) ∈ lw_tbl := tb_3 (List.mem_of_getElem? (i := 166) rfl)
set_option maxRecDepth 20000 in
theorem wd_647 : Jvm.Cond.constantLong "ToothWheelTimerModel" (82 : Nat) (32768 : Int64) ∈ lw_tbl := tb_3 (List.mem_of_getElem? (i := 167) rfl)
set_option maxRecDepth 20000 in
theorem wd_648 : Jvm.Cond.constantLong "ToothWheelTimerModel" (84 : Nat) (65536 : Int64) ∈ lw_tbl := tb_3 (List.mem_of_getElem? (i := 168) rfl)
set_option maxRecDepth 20000 in
theorem wd_649 : Jvm.Cond.methodLink "ToothWheelTimerLaw" (40 : Nat) ({ cls := "ToothWheelTimerModel", name := "value", desc := "(I)I" } : Jvm.MethodName) ∈ lw_tbl := tb_3 (List.mem_of_getElem? (i := 169) rfl)
set_option maxRecDepth 20000 in
theorem wd_650 : Jvm.Cond.instanceMethod ({ cls := "ToothWheelTimerModel", name := "value", desc := "(I)I" } : Jvm.MethodName) ∈ lw_tbl := tb_3 (List.mem_of_getElem? (i := 170) rfl)
set_option maxRecDepth 20000 in
theorem wd_651 : Jvm.Cond.selects "ToothWheelTimerModel" ({ cls := "ToothWheelTimerModel", name := "value", desc := "(I)I" } : Jvm.MethodName) ({ cls := "ToothWheelTimerModel", name := "value", desc := "(I)I" } : Jvm.MethodName) ∈ lw_tbl := tb_3 (List.mem_of_getElem? (i := 171) rfl)
set_option maxRecDepth 20000 in
theorem wd_652 : Jvm.Cond.code ({ cls := "ToothWheelTimerModel", name := "value", desc := "(I)I" } : Jvm.MethodName) prog_8_method_11_code (2 : Nat) (Option.some Jvm.ClassFile.FieldType.int) ∈ lw_tbl := tb_3 (List.mem_of_getElem? (i := 172) rfl)
set_option maxRecDepth 20000 in
theorem wd_653 : Jvm.Cond.methodLink "ToothWheelTimerModel" (92 : Nat) ({ cls := "ToothWheelTimerModel", name := "valueOf", desc := "(I)I" } : Jvm.MethodName) ∈ lw_tbl := tb_3 (List.mem_of_getElem? (i := 173) rfl)
set_option maxRecDepth 20000 in
theorem wd_654 : Jvm.Cond.privateMethod ({ cls := "ToothWheelTimerModel", name := "valueOf", desc := "(I)I" } : Jvm.MethodName) ∈ lw_tbl := tb_3 (List.mem_of_getElem? (i := 174) rfl)
set_option maxRecDepth 20000 in
theorem wd_655 : Jvm.Cond.instanceMethod ({ cls := "ToothWheelTimerModel", name := "valueOf", desc := "(I)I" } : Jvm.MethodName) ∈ lw_tbl := tb_3 (List.mem_of_getElem? (i := 175) rfl)
set_option maxRecDepth 20000 in
theorem wd_656 : Jvm.Cond.code ({ cls := "ToothWheelTimerModel", name := "valueOf", desc := "(I)I" } : Jvm.MethodName) prog_8_method_10_code (5 : Nat) (Option.some Jvm.ClassFile.FieldType.int) ∈ lw_tbl := tb_3 (List.mem_of_getElem? (i := 176) rfl)
set_option maxRecDepth 20000 in
theorem wd_657 : Jvm.Cond.methodLink "ToothWheelTimerModel" (104 : Nat) ({ cls := "ToothWheelTimerModel", name := "corner", desc := "(I)I" } : Jvm.MethodName) ∈ lw_tbl := tb_3 (List.mem_of_getElem? (i := 177) rfl)
set_option maxRecDepth 20000 in
theorem wd_658 : Jvm.Cond.static ({ cls := "ToothWheelTimerModel", name := "corner", desc := "(I)I" } : Jvm.MethodName) ∈ lw_tbl := tb_3 (List.mem_of_getElem? (i := 178) rfl)
set_option maxRecDepth 20000 in
theorem wd_659 : Jvm.Cond.code ({ cls := "ToothWheelTimerModel", name := "corner", desc := "(I)I" } : Jvm.MethodName) prog_8_method_9_code (1 : Nat) (Option.some Jvm.ClassFile.FieldType.int) ∈ lw_tbl := tb_3 (List.mem_of_getElem? (i := 179) rfl)
set_option maxRecDepth 20000 in
theorem wd_660 : Jvm.Cond.methodLink "ToothWheelTimerModel" (107 : Nat) ({ cls := "ToothWheelTimerModel", name := "down", desc := "(II)I" } : Jvm.MethodName) ∈ lw_tbl := tb_3 (List.mem_of_getElem? (i := 180) rfl)
set_option maxRecDepth 20000 in
theorem wd_661 : Jvm.Cond.static ({ cls := "ToothWheelTimerModel", name := "down", desc := "(II)I" } : Jvm.MethodName) ∈ lw_tbl := tb_3 (List.mem_of_getElem? (i := 181) rfl)
set_option maxRecDepth 20000 in
theorem wd_662 : Jvm.Cond.code ({ cls := "ToothWheelTimerModel", name := "down", desc := "(II)I" } : Jvm.MethodName) prog_8_method_4_code (3 : Nat) (Option.some Jvm.ClassFile.FieldType.int) ∈ lw_tbl := tb_3 (List.mem_of_getElem? (i := 182) rfl)
set_option maxRecDepth 20000 in
theorem wd_663 : Jvm.Cond.methodLink "ToothWheelTimerLaw" (44 : Nat) ({ cls := "ToothWheelTimerModel", name := "count", desc := "(I)I" } : Jvm.MethodName) ∈ lw_tbl := tb_3 (List.mem_of_getElem? (i := 183) rfl)
set_option maxRecDepth 20000 in
theorem wd_664 : Jvm.Cond.instanceMethod ({ cls := "ToothWheelTimerModel", name := "count", desc := "(I)I" } : Jvm.MethodName) ∈ lw_tbl := tb_3 (List.mem_of_getElem? (i := 184) rfl)
set_option maxRecDepth 20000 in
theorem wd_665 : Jvm.Cond.selects "ToothWheelTimerModel" ({ cls := "ToothWheelTimerModel", name := "count", desc := "(I)I" } : Jvm.MethodName) ({ cls := "ToothWheelTimerModel", name := "count", desc := "(I)I" } : Jvm.MethodName) ∈ lw_tbl := tb_3 (List.mem_of_getElem? (i := 185) rfl)
set_option maxRecDepth 20000 in
theorem wd_666 : Jvm.Cond.code ({ cls := "ToothWheelTimerModel", name := "count", desc := "(I)I" } : Jvm.MethodName) prog_8_method_12_code (2 : Nat) (Option.some Jvm.ClassFile.FieldType.int) ∈ lw_tbl := tb_3 (List.mem_of_getElem? (i := 186) rfl)
set_option maxRecDepth 20000 in
theorem wd_667 : Jvm.Cond.methodLink "ToothWheelTimerLaw" (35 : Nat) ({ cls := "ToothWheelTimerModel", name := "sample", desc := "(II)Z" } : Jvm.MethodName) ∈ lw_tbl := tb_3 (List.mem_of_getElem? (i := 187) rfl)
set_option maxRecDepth 20000 in
theorem wd_668 : Jvm.Cond.instanceMethod ({ cls := "ToothWheelTimerModel", name := "sample", desc := "(II)Z" } : Jvm.MethodName) ∈ lw_tbl := tb_3 (List.mem_of_getElem? (i := 188) rfl)
set_option maxRecDepth 20000 in
theorem wd_669 : Jvm.Cond.selects "ToothWheelTimerModel" ({ cls := "ToothWheelTimerModel", name := "sample", desc := "(II)Z" } : Jvm.MethodName) ({ cls := "ToothWheelTimerModel", name := "sample", desc := "(II)Z" } : Jvm.MethodName) ∈ lw_tbl := tb_3 (List.mem_of_getElem? (i := 189) rfl)
set_option maxRecDepth 20000 in
theorem wd_670 : Jvm.Cond.code ({ cls := "ToothWheelTimerModel", name := "sample", desc := "(II)Z" } : Jvm.MethodName) prog_8_method_13_code (5 : Nat) (Option.some Jvm.ClassFile.FieldType.boolean) ∈ lw_tbl := tb_3 (List.mem_of_getElem? (i := 190) rfl)
set_option maxRecDepth 20000 in
theorem wd_671 : Jvm.Cond.methodLink "ToothWheelTimerLaw" (49 : Nat) ({ cls := "ToothWheelTimerModel", name := "frame", desc := "(II)J" } : Jvm.MethodName) ∈ lw_tbl := tb_3 (List.mem_of_getElem? (i := 191) rfl)
set_option maxRecDepth 20000 in
theorem wd_672 : Jvm.Cond.instanceMethod ({ cls := "ToothWheelTimerModel", name := "frame", desc := "(II)J" } : Jvm.MethodName) ∈ lw_tbl := tb_3 (List.mem_of_getElem? (i := 192) rfl)
set_option maxRecDepth 20000 in
theorem wd_673 : Jvm.Cond.selects "ToothWheelTimerModel" ({ cls := "ToothWheelTimerModel", name := "frame", desc := "(II)J" } : Jvm.MethodName) ({ cls := "ToothWheelTimerModel", name := "frame", desc := "(II)J" } : Jvm.MethodName) ∈ lw_tbl := tb_3 (List.mem_of_getElem? (i := 193) rfl)
set_option maxRecDepth 20000 in
theorem wd_674 : Jvm.Cond.code ({ cls := "ToothWheelTimerModel", name := "frame", desc := "(II)J" } : Jvm.MethodName) prog_8_method_14_code (3 : Nat) (Option.some Jvm.ClassFile.FieldType.long) ∈ lw_tbl := tb_3 (List.mem_of_getElem? (i := 194) rfl)
set_option maxRecDepth 20000 in
theorem wd_675 : Jvm.Cond.constantLong "ToothWheelTimerModel" (114 : Nat) (-1 : Int64) ∈ lw_tbl := tb_3 (List.mem_of_getElem? (i := 195) rfl)
set_option maxRecDepth 20000 in
theorem wd_676 : Jvm.Cond.methodLink "ToothWheelTimerLaw" (54 : Nat) ({ cls := "ToothWheelTimerModel", name := "clear", desc := "()I" } : Jvm.MethodName) ∈ lw_tbl := tb_3 (List.mem_of_getElem? (i := 196) rfl)
set_option maxRecDepth 20000 in
theorem wd_677 : Jvm.Cond.instanceMethod ({ cls := "ToothWheelTimerModel", name := "clear", desc := "()I" } : Jvm.MethodName) ∈ lw_tbl := tb_3 (List.mem_of_getElem? (i := 197) rfl)
set_option maxRecDepth 20000 in
theorem wd_678 : Jvm.Cond.selects "ToothWheelTimerModel" ({ cls := "ToothWheelTimerModel", name := "clear", desc := "()I" } : Jvm.MethodName) ({ cls := "ToothWheelTimerModel", name := "clear", desc := "()I" } : Jvm.MethodName) ∈ lw_tbl := tb_3 (List.mem_of_getElem? (i := 198) rfl)
set_option maxRecDepth 20000 in
theorem wd_679 : Jvm.Cond.code ({ cls := "ToothWheelTimerModel", name := "clear", desc := "()I" } : Jvm.MethodName) prog_8_method_15_code (2 : Nat) (Option.some Jvm.ClassFile.FieldType.int) ∈ lw_tbl := tb_3 (List.mem_of_getElem? (i := 199) rfl)
set_option maxRecDepth 20000 in
theorem wd_680 : Jvm.Cond.methodLink "ToothWheelTimerLaw" (58 : Nat) ({ cls := "ToothWheelTimerModel", name := "edge", desc := "(I)I" } : Jvm.MethodName) ∈ lw_tbl := tb_3 (List.mem_of_getElem? (i := 200) rfl)
set_option maxRecDepth 20000 in
theorem wd_681 : Jvm.Cond.instanceMethod ({ cls := "ToothWheelTimerModel", name := "edge", desc := "(I)I" } : Jvm.MethodName) ∈ lw_tbl := tb_3 (List.mem_of_getElem? (i := 201) rfl)
set_option maxRecDepth 20000 in
theorem wd_682 : Jvm.Cond.selects "ToothWheelTimerModel" ({ cls := "ToothWheelTimerModel", name := "edge", desc := "(I)I" } : Jvm.MethodName) ({ cls := "ToothWheelTimerModel", name := "edge", desc := "(I)I" } : Jvm.MethodName) ∈ lw_tbl := tb_3 (List.mem_of_getElem? (i := 202) rfl)
set_option maxRecDepth 20000 in
theorem wd_683 : Jvm.Cond.code ({ cls := "ToothWheelTimerModel", name := "edge", desc := "(I)I" } : Jvm.MethodName) prog_8_method_30_code (2 : Nat) (Option.some Jvm.ClassFile.FieldType.int) ∈ lw_tbl := tb_3 (List.mem_of_getElem? (i := 203) rfl)
set_option maxRecDepth 20000 in
theorem wd_684 : Jvm.Cond.constant "ToothWheelTimerModel" (206 : Nat) (1000000 : Int32) ∈ lw_tbl := tb_3 (List.mem_of_getElem? (i := 204) rfl)
set_option maxRecDepth 20000 in
theorem wd_685 : Jvm.Cond.methodLink "ToothWheelTimerModel" (207 : Nat) ({ cls := "ToothWheelTimerModel", name := "oneEdge", desc := "(I)V" } : Jvm.MethodName) ∈ lw_tbl := tb_3 (List.mem_of_getElem? (i := 205) rfl)
set_option maxRecDepth 20000 in
theorem wd_686 : Jvm.Cond.privateMethod ({ cls := "ToothWheelTimerModel", name := "oneEdge", desc := "(I)V" } : Jvm.MethodName) ∈ lw_tbl := tb_3 (List.mem_of_getElem? (i := 206) rfl)
set_option maxRecDepth 20000 in
theorem wd_687 : Jvm.Cond.instanceMethod ({ cls := "ToothWheelTimerModel", name := "oneEdge", desc := "(I)V" } : Jvm.MethodName) ∈ lw_tbl := tb_3 (List.mem_of_getElem? (i := 207) rfl)
set_option maxRecDepth 20000 in
theorem wd_688 : Jvm.Cond.code ({ cls := "ToothWheelTimerModel", name := "oneEdge", desc := "(I)V" } : Jvm.MethodName) prog_8_method_25_code (4 : Nat) (Option.none : Option Jvm.ClassFile.FieldType) ∈ lw_tbl := tb_3 (List.mem_of_getElem? (i := 208) rfl)
set_option maxRecDepth 20000 in
theorem wd_689 : Jvm.Cond.methodLink "ToothWheelTimerModel" (179 : Nat) ({ cls := "ToothWheelTimerModel", name := "advance", desc := "(J)V" } : Jvm.MethodName) ∈ lw_tbl := tb_3 (List.mem_of_getElem? (i := 209) rfl)
set_option maxRecDepth 20000 in
theorem wd_690 : Jvm.Cond.privateMethod ({ cls := "ToothWheelTimerModel", name := "advance", desc := "(J)V" } : Jvm.MethodName) ∈ lw_tbl := tb_3 (List.mem_of_getElem? (i := 210) rfl)
set_option maxRecDepth 20000 in
theorem wd_691 : Jvm.Cond.instanceMethod ({ cls := "ToothWheelTimerModel", name := "advance", desc := "(J)V" } : Jvm.MethodName) ∈ lw_tbl := tb_3 (List.mem_of_getElem? (i := 211) rfl)
set_option maxRecDepth 20000 in
theorem wd_692 : Jvm.Cond.code ({ cls := "ToothWheelTimerModel", name := "advance", desc := "(J)V" } : Jvm.MethodName) prog_8_method_20_code (9 : Nat) (Option.none : Option Jvm.ClassFile.FieldType) ∈ lw_tbl := tb_3 (List.mem_of_getElem? (i := 212) rfl)
set_option maxRecDepth 20000 in
theorem wd_693 : Jvm.Cond.methodLink "ToothWheelTimerModel" (142 : Nat) ({ cls := "ToothWheelTimerModel", name := "nextEvent", desc := "()I" } : Jvm.MethodName) ∈ lw_tbl := tb_3 (List.mem_of_getElem? (i := 213) rfl)
set_option maxRecDepth 20000 in
theorem wd_694 : Jvm.Cond.privateMethod ({ cls := "ToothWheelTimerModel", name := "nextEvent", desc := "()I" } : Jvm.MethodName) ∈ lw_tbl := tb_3 (List.mem_of_getElem? (i := 214) rfl)
set_option maxRecDepth 20000 in
theorem wd_695 : Jvm.Cond.instanceMethod ({ cls := "ToothWheelTimerModel", name := "nextEvent", desc := "()I" } : Jvm.MethodName) ∈ lw_tbl := tb_3 (List.mem_of_getElem? (i := 215) rfl)
set_option maxRecDepth 20000 in
theorem wd_696 : Jvm.Cond.code ({ cls := "ToothWheelTimerModel", name := "nextEvent", desc := "()I" } : Jvm.MethodName) prog_8_method_17_code (3 : Nat) (Option.some Jvm.ClassFile.FieldType.int) ∈ lw_tbl := tb_3 (List.mem_of_getElem? (i := 216) rfl)
set_option maxRecDepth 20000 in
theorem wd_697 : Jvm.Cond.constantLong "ToothWheelTimerModel" (148 : Nat) (5 : Int64) ∈ lw_tbl := tb_3 (List.mem_of_getElem? (i := 217) rfl)
set_option maxRecDepth 20000 in
theorem wd_698 : Jvm.Cond.methodLink "ToothWheelTimerModel" (150 : Nat) ({ cls := "ToothWheelTimerModel", name := "fire", desc := "(I)V" } : Jvm.MethodName) ∈ lw_tbl := tb_3 (List.mem_of_getElem? (i := 218) rfl)
set_option maxRecDepth 20000 in
theorem wd_699 : Jvm.Cond.privateMethod ({ cls := "ToothWheelTimerModel", name := "fire", desc := "(I)V" } : Jvm.MethodName) ∈ lw_tbl := tb_3 (List.mem_of_getElem? (i := 219) rfl)
set_option maxRecDepth 20000 in
theorem wd_700 : Jvm.Cond.instanceMethod ({ cls := "ToothWheelTimerModel", name := "fire", desc := "(I)V" } : Jvm.MethodName) ∈ lw_tbl := tb_3 (List.mem_of_getElem? (i := 220) rfl)
set_option maxRecDepth 20000 in
theorem wd_701 : Jvm.Cond.code ({ cls := "ToothWheelTimerModel", name := "fire", desc := "(I)V" } : Jvm.MethodName) prog_8_method_19_code (5 : Nat) (Option.none : Option Jvm.ClassFile.FieldType) ∈ lw_tbl := tb_3 (List.mem_of_getElem? (i := 221) rfl)
set_option maxRecDepth 20000 in
theorem wd_702 : Jvm.Cond.methodLink "ToothWheelTimerModel" (124 : Nat) ({ cls := "ToothWheelTimerModel", name := "switched", desc := "(ZIZ)V" } : Jvm.MethodName) ∈ lw_tbl := tb_3 (List.mem_of_getElem? (i := 222) rfl)
set_option maxRecDepth 20000 in
theorem wd_703 : Jvm.Cond.privateMethod ({ cls := "ToothWheelTimerModel", name := "switched", desc := "(ZIZ)V" } : Jvm.MethodName) ∈ lw_tbl := tb_3 (List.mem_of_getElem? (i := 223) rfl)
set_option maxRecDepth 20000 in
theorem wd_704 : Jvm.Cond.instanceMethod ({ cls := "ToothWheelTimerModel", name := "switched", desc := "(ZIZ)V" } : Jvm.MethodName) ∈ lw_tbl := tb_3 (List.mem_of_getElem? (i := 224) rfl)
set_option maxRecDepth 20000 in
theorem wd_705 : Jvm.Cond.code ({ cls := "ToothWheelTimerModel", name := "switched", desc := "(ZIZ)V" } : Jvm.MethodName) prog_8_method_18_code (5 : Nat) (Option.none : Option Jvm.ClassFile.FieldType) ∈ lw_tbl := tb_3 (List.mem_of_getElem? (i := 225) rfl)
set_option maxRecDepth 20000 in
theorem wd_706 : Jvm.Cond.constantLong "ToothWheelTimerModel" (119 : Nat) (32 : Int64) ∈ lw_tbl := tb_3 (List.mem_of_getElem? (i := 226) rfl)
set_option maxRecDepth 20000 in
theorem wd_707 : Jvm.Cond.methodLink "ToothWheelTimerModel" (128 : Nat) ({ cls := "ToothWheelTimerModel", name := "plan", desc := "(IIJ)V" } : Jvm.MethodName) ∈ lw_tbl := tb_3 (List.mem_of_getElem? (i := 227) rfl)
set_option maxRecDepth 20000 in
theorem wd_708 : Jvm.Cond.privateMethod ({ cls := "ToothWheelTimerModel", name := "plan", desc := "(IIJ)V" } : Jvm.MethodName) ∈ lw_tbl := tb_3 (List.mem_of_getElem? (i := 228) rfl)
set_option maxRecDepth 20000 in
theorem wd_709 : Jvm.Cond.instanceMethod ({ cls := "ToothWheelTimerModel", name := "plan", desc := "(IIJ)V" } : Jvm.MethodName) ∈ lw_tbl := tb_3 (List.mem_of_getElem? (i := 229) rfl)
set_option maxRecDepth 20000 in
theorem wd_710 : Jvm.Cond.code ({ cls := "ToothWheelTimerModel", name := "plan", desc := "(IIJ)V" } : Jvm.MethodName) prog_8_method_16_code (6 : Nat) (Option.none : Option Jvm.ClassFile.FieldType) ∈ lw_tbl := tb_3 (List.mem_of_getElem? (i := 230) rfl)
set_option maxRecDepth 20000 in
theorem wd_711 : Jvm.Cond.methodLink "ToothWheelTimerModel" (138 : Nat) ({ cls := "ToothWheelTimerModel", name := "amount", desc := "()I" } : Jvm.MethodName) ∈ lw_tbl := tb_3 (List.mem_of_getElem? (i := 231) rfl)
set_option maxRecDepth 20000 in
theorem wd_712 : Jvm.Cond.privateMethod ({ cls := "ToothWheelTimerModel", name := "amount", desc := "()I" } : Jvm.MethodName) ∈ lw_tbl := tb_3 (List.mem_of_getElem? (i := 232) rfl)
set_option maxRecDepth 20000 in
theorem wd_713 : Jvm.Cond.instanceMethod ({ cls := "ToothWheelTimerModel", name := "amount", desc := "()I" } : Jvm.MethodName) ∈ lw_tbl := tb_3 (List.mem_of_getElem? (i := 233) rfl)
set_option maxRecDepth 20000 in
theorem wd_714 : Jvm.Cond.code ({ cls := "ToothWheelTimerModel", name := "amount", desc := "()I" } : Jvm.MethodName) prog_8_method_8_code (4 : Nat) (Option.some Jvm.ClassFile.FieldType.int) ∈ lw_tbl := tb_3 (List.mem_of_getElem? (i := 234) rfl)
set_option maxRecDepth 20000 in
theorem wd_715 : Jvm.Cond.methodLink "ToothWheelTimerModel" (101 : Nat) ({ cls := "ToothWheelTimerModel", name := "present", desc := "(I)I" } : Jvm.MethodName) ∈ lw_tbl := tb_3 (List.mem_of_getElem? (i := 235) rfl)
set_option maxRecDepth 20000 in
theorem wd_716 : Jvm.Cond.privateMethod ({ cls := "ToothWheelTimerModel", name := "present", desc := "(I)I" } : Jvm.MethodName) ∈ lw_tbl := tb_3 (List.mem_of_getElem? (i := 236) rfl)
set_option maxRecDepth 20000 in
theorem wd_717 : Jvm.Cond.instanceMethod ({ cls := "ToothWheelTimerModel", name := "present", desc := "(I)I" } : Jvm.MethodName) ∈ lw_tbl := tb_3 (List.mem_of_getElem? (i := 237) rfl)
set_option maxRecDepth 20000 in
theorem wd_718 : Jvm.Cond.code ({ cls := "ToothWheelTimerModel", name := "present", desc := "(I)I" } : Jvm.MethodName) prog_8_method_7_code (5 : Nat) (Option.some Jvm.ClassFile.FieldType.int) ∈ lw_tbl := tb_3 (List.mem_of_getElem? (i := 238) rfl)
set_option maxRecDepth 20000 in
theorem wd_719 : Jvm.Cond.constantLong "ToothWheelTimerModel" (90 : Nat) (200000 : Int64) ∈ lw_tbl := tb_3 (List.mem_of_getElem? (i := 239) rfl)
set_option maxRecDepth 20000 in
theorem wd_720 : Jvm.Cond.constantLong "ToothWheelTimerModel" (96 : Nat) (1791 : Int64) ∈ lw_tbl := tb_4 (List.mem_of_getElem? (i := 0) rfl)
set_option maxRecDepth 20000 in
theorem wd_721 : Jvm.Cond.methodLink "ToothWheelTimerModel" (98 : Nat) ({ cls := "ToothWheelTimerModel", name := "look", desc := "(III)I" } : Jvm.MethodName) ∈ lw_tbl := tb_4 (List.mem_of_getElem? (i := 1) rfl)
set_option maxRecDepth 20000 in
theorem wd_722 : Jvm.Cond.methodLink "ToothWheelTimerModel" (154 : Nat) ({ cls := "ToothWheelTimerModel", name := "lose", desc := "(Z)V" } : Jvm.MethodName) ∈ lw_tbl := tb_4 (List.mem_of_getElem? (i := 2) rfl)
set_option maxRecDepth 20000 in
theorem wd_723 : Jvm.Cond.privateMethod ({ cls := "ToothWheelTimerModel", name := "lose", desc := "(Z)V" } : Jvm.MethodName) ∈ lw_tbl := tb_4 (List.mem_of_getElem? (i := 3) rfl)
set_option maxRecDepth 20000 in
theorem wd_724 : Jvm.Cond.instanceMethod ({ cls := "ToothWheelTimerModel", name := "lose", desc := "(Z)V" } : Jvm.MethodName) ∈ lw_tbl := tb_4 (List.mem_of_getElem? (i := 4) rfl)
set_option maxRecDepth 20000 in
theorem wd_725 : Jvm.Cond.code ({ cls := "ToothWheelTimerModel", name := "lose", desc := "(Z)V" } : Jvm.MethodName) prog_8_method_21_code (3 : Nat) (Option.none : Option Jvm.ClassFile.FieldType) ∈ lw_tbl := tb_4 (List.mem_of_getElem? (i := 5) rfl)
set_option maxRecDepth 20000 in
theorem wd_726 : Jvm.Cond.methodLink "ToothWheelTimerModel" (165 : Nat) ({ cls := "ToothWheelTimerModel", name := "cease", desc := "()V" } : Jvm.MethodName) ∈ lw_tbl := tb_4 (List.mem_of_getElem? (i := 6) rfl)
set_option maxRecDepth 20000 in
theorem wd_727 : Jvm.Cond.privateMethod ({ cls := "ToothWheelTimerModel", name := "cease", desc := "()V" } : Jvm.MethodName) ∈ lw_tbl := tb_4 (List.mem_of_getElem? (i := 7) rfl)
set_option maxRecDepth 20000 in
theorem wd_728 : Jvm.Cond.instanceMethod ({ cls := "ToothWheelTimerModel", name := "cease", desc := "()V" } : Jvm.MethodName) ∈ lw_tbl := tb_4 (List.mem_of_getElem? (i := 8) rfl)
set_option maxRecDepth 20000 in
theorem wd_729 : Jvm.Cond.code ({ cls := "ToothWheelTimerModel", name := "cease", desc := "()V" } : Jvm.MethodName) prog_8_method_22_code (2 : Nat) (Option.none : Option Jvm.ClassFile.FieldType) ∈ lw_tbl := tb_4 (List.mem_of_getElem? (i := 9) rfl)
set_option maxRecDepth 20000 in
theorem wd_730 : Jvm.Cond.constantLong "ToothWheelTimerModel" (183 : Nat) (2 : Int64) ∈ lw_tbl := tb_4 (List.mem_of_getElem? (i := 10) rfl)
set_option maxRecDepth 20000 in
theorem wd_731 : Jvm.Cond.methodLink "ToothWheelTimerModel" (185 : Nat) ({ cls := "ToothWheelTimerModel", name := "longInterval", desc := "(J)V" } : Jvm.MethodName) ∈ lw_tbl := tb_4 (List.mem_of_getElem? (i := 11) rfl)
set_option maxRecDepth 20000 in
theorem wd_732 : Jvm.Cond.privateMethod ({ cls := "ToothWheelTimerModel", name := "longInterval", desc := "(J)V" } : Jvm.MethodName) ∈ lw_tbl := tb_4 (List.mem_of_getElem? (i := 12) rfl)
set_option maxRecDepth 20000 in
theorem wd_733 : Jvm.Cond.instanceMethod ({ cls := "ToothWheelTimerModel", name := "longInterval", desc := "(J)V" } : Jvm.MethodName) ∈ lw_tbl := tb_4 (List.mem_of_getElem? (i := 13) rfl)
set_option maxRecDepth 20000 in
theorem wd_734 : Jvm.Cond.code ({ cls := "ToothWheelTimerModel", name := "longInterval", desc := "(J)V" } : Jvm.MethodName) prog_8_method_24_code (5 : Nat) (Option.none : Option Jvm.ClassFile.FieldType) ∈ lw_tbl := tb_4 (List.mem_of_getElem? (i := 14) rfl)
set_option maxRecDepth 20000 in
theorem wd_735 : Jvm.Cond.constantLong "ToothWheelTimerModel" (174 : Nat) (3 : Int64) ∈ lw_tbl := tb_4 (List.mem_of_getElem? (i := 15) rfl)
set_option maxRecDepth 20000 in
theorem wd_736 : Jvm.Cond.methodLink "ToothWheelTimerModel" (188 : Nat) ({ cls := "ToothWheelTimerModel", name := "plainInterval", desc := "(J)V" } : Jvm.MethodName) ∈ lw_tbl := tb_4 (List.mem_of_getElem? (i := 16) rfl)
set_option maxRecDepth 20000 in
theorem wd_737 : Jvm.Cond.privateMethod ({ cls := "ToothWheelTimerModel", name := "plainInterval", desc := "(J)V" } : Jvm.MethodName) ∈ lw_tbl := tb_4 (List.mem_of_getElem? (i := 17) rfl)
set_option maxRecDepth 20000 in
theorem wd_738 : Jvm.Cond.instanceMethod ({ cls := "ToothWheelTimerModel", name := "plainInterval", desc := "(J)V" } : Jvm.MethodName) ∈ lw_tbl := tb_4 (List.mem_of_getElem? (i := 18) rfl)
set_option maxRecDepth 20000 in
theorem wd_739 : Jvm.Cond.code ({ cls := "ToothWheelTimerModel", name := "plainInterval", desc := "(J)V" } : Jvm.MethodName) prog_8_method_23_code (4 : Nat) (Option.none : Option Jvm.ClassFile.FieldType) ∈ lw_tbl := tb_4 (List.mem_of_getElem? (i := 19) rfl)
set_option maxRecDepth 20000 in
theorem wd_740 : Jvm.Cond.methodLink "ToothWheelTimerModel" (191 : Nat) ({ cls := "ToothWheelTimerModel", name := "planAll", desc := "()V" } : Jvm.MethodName) ∈ lw_tbl := tb_4 (List.mem_of_getElem? (i := 20) rfl)
set_option maxRecDepth 20000 in
theorem wd_741 : Jvm.Cond.privateMethod ({ cls := "ToothWheelTimerModel", name := "planAll", desc := "()V" } : Jvm.MethodName) ∈ lw_tbl := tb_4 (List.mem_of_getElem? (i := 21) rfl)
set_option maxRecDepth 20000 in
theorem wd_742 : Jvm.Cond.instanceMethod ({ cls := "ToothWheelTimerModel", name := "planAll", desc := "()V" } : Jvm.MethodName) ∈ lw_tbl := tb_4 (List.mem_of_getElem? (i := 22) rfl)
set_option maxRecDepth 20000 in
theorem wd_743 : Jvm.Cond.code ({ cls := "ToothWheelTimerModel", name := "planAll", desc := "()V" } : Jvm.MethodName) prog_8_method_29_code (6 : Nat) (Option.none : Option Jvm.ClassFile.FieldType) ∈ lw_tbl := tb_4 (List.mem_of_getElem? (i := 23) rfl)
set_option maxRecDepth 20000 in
theorem wd_744 : Jvm.Cond.methodLink "ToothWheelTimerModel" (202 : Nat) ({ cls := "ToothWheelTimerModel", name := "planIfNear", desc := "(III)V" } : Jvm.MethodName) ∈ lw_tbl := tb_4 (List.mem_of_getElem? (i := 24) rfl)
set_option maxRecDepth 20000 in
theorem wd_745 : Jvm.Cond.privateMethod ({ cls := "ToothWheelTimerModel", name := "planIfNear", desc := "(III)V" } : Jvm.MethodName) ∈ lw_tbl := tb_4 (List.mem_of_getElem? (i := 25) rfl)
set_option maxRecDepth 20000 in
theorem wd_746 : Jvm.Cond.instanceMethod ({ cls := "ToothWheelTimerModel", name := "planIfNear", desc := "(III)V" } : Jvm.MethodName) ∈ lw_tbl := tb_4 (List.mem_of_getElem? (i := 26) rfl)
set_option maxRecDepth 20000 in
theorem wd_747 : Jvm.Cond.code ({ cls := "ToothWheelTimerModel", name := "planIfNear", desc := "(III)V" } : Jvm.MethodName) prog_8_method_28_code (5 : Nat) (Option.none : Option Jvm.ClassFile.FieldType) ∈ lw_tbl := tb_4 (List.mem_of_getElem? (i := 27) rfl)
set_option maxRecDepth 20000 in
theorem wd_748 : Jvm.Cond.methodLink "ToothWheelTimerModel" (197 : Nat) ({ cls := "ToothWheelTimerModel", name := "far", desc := "(I)I" } : Jvm.MethodName) ∈ lw_tbl := tb_4 (List.mem_of_getElem? (i := 28) rfl)
set_option maxRecDepth 20000 in
theorem wd_749 : Jvm.Cond.privateMethod ({ cls := "ToothWheelTimerModel", name := "far", desc := "(I)I" } : Jvm.MethodName) ∈ lw_tbl := tb_4 (List.mem_of_getElem? (i := 29) rfl)
set_option maxRecDepth 20000 in
theorem wd_750 : Jvm.Cond.instanceMethod ({ cls := "ToothWheelTimerModel", name := "far", desc := "(I)I" } : Jvm.MethodName) ∈ lw_tbl := tb_4 (List.mem_of_getElem? (i := 30) rfl)
set_option maxRecDepth 20000 in
theorem wd_751 : Jvm.Cond.code ({ cls := "ToothWheelTimerModel", name := "far", desc := "(I)I" } : Jvm.MethodName) prog_8_method_27_code (4 : Nat) (Option.some Jvm.ClassFile.FieldType.int) ∈ lw_tbl := tb_4 (List.mem_of_getElem? (i := 31) rfl)
set_option maxRecDepth 20000 in
theorem wd_752 : Jvm.Cond.methodLink "ToothWheelTimerModel" (194 : Nat) ({ cls := "ToothWheelTimerModel", name := "angle", desc := "()I" } : Jvm.MethodName) ∈ lw_tbl := tb_4 (List.mem_of_getElem? (i := 32) rfl)
set_option maxRecDepth 20000 in
theorem wd_753 : Jvm.Cond.privateMethod ({ cls := "ToothWheelTimerModel", name := "angle", desc := "()I" } : Jvm.MethodName) ∈ lw_tbl := tb_4 (List.mem_of_getElem? (i := 33) rfl)
set_option maxRecDepth 20000 in
theorem wd_754 : Jvm.Cond.instanceMethod ({ cls := "ToothWheelTimerModel", name := "angle", desc := "()I" } : Jvm.MethodName) ∈ lw_tbl := tb_4 (List.mem_of_getElem? (i := 34) rfl)
set_option maxRecDepth 20000 in
theorem wd_755 : Jvm.Cond.code ({ cls := "ToothWheelTimerModel", name := "angle", desc := "()I" } : Jvm.MethodName) prog_8_method_26_code (1 : Nat) (Option.some Jvm.ClassFile.FieldType.int) ∈ lw_tbl := tb_4 (List.mem_of_getElem? (i := 35) rfl)
set_option maxRecDepth 20000 in
theorem wd_756 : Jvm.Cond.constantLong "ToothWheelTimerModel" (200 : Nat) (64 : Int64) ∈ lw_tbl := tb_4 (List.mem_of_getElem? (i := 36) rfl)
set_option maxRecDepth 20000 in
theorem wd_757 : Jvm.Cond.methodLink "ToothWheelTimerLaw" (63 : Nat) ({ cls := "ToothWheelTimerModel", name := "teeth", desc := "(II)I" } : Jvm.MethodName) ∈ lw_tbl := tb_4 (List.mem_of_getElem? (i := 37) rfl)
set_option maxRecDepth 20000 in
theorem wd_758 : Jvm.Cond.instanceMethod ({ cls := "ToothWheelTimerModel", name := "teeth", desc := "(II)I" } : Jvm.MethodName) ∈ lw_tbl := tb_4 (List.mem_of_getElem? (i := 38) rfl)
set_option maxRecDepth 20000 in
theorem wd_759 : Jvm.Cond.selects "ToothWheelTimerModel" ({ cls := "ToothWheelTimerModel", name := "teeth", desc := "(II)I" } : Jvm.MethodName) ({ cls := "ToothWheelTimerModel", name := "teeth", desc := "(II)I" } : Jvm.MethodName) ∈ lw_tbl := tb_4 (List.mem_of_getElem? (i := 39) rfl)
set_option maxRecDepth 20000 in
theorem wd_760 : Jvm.Cond.code ({ cls := "ToothWheelTimerModel", name := "teeth", desc := "(II)I" } : Jvm.MethodName) prog_8_method_31_code (4 : Nat) (Option.some Jvm.ClassFile.FieldType.int) ∈ lw_tbl := tb_4 (List.mem_of_getElem? (i := 40) rfl)
set_option maxRecDepth 20000 in
theorem wd_761 : Jvm.Cond.methodLink "ToothWheelTimerLaw" (68 : Nat) ({ cls := "ToothWheelTimerModel", name := "cam", desc := "()Z" } : Jvm.MethodName) ∈ lw_tbl := tb_4 (List.mem_of_getElem? (i := 41) rfl)
set_option maxRecDepth 20000 in
theorem wd_762 : Jvm.Cond.instanceMethod ({ cls := "ToothWheelTimerModel", name := "cam", desc := "()Z" } : Jvm.MethodName) ∈ lw_tbl := tb_4 (List.mem_of_getElem? (i := 42) rfl)
set_option maxRecDepth 20000 in
theorem wd_763 : Jvm.Cond.selects "ToothWheelTimerModel" ({ cls := "ToothWheelTimerModel", name := "cam", desc := "()Z" } : Jvm.MethodName) ({ cls := "ToothWheelTimerModel", name := "cam", desc := "()Z" } : Jvm.MethodName) ∈ lw_tbl := tb_4 (List.mem_of_getElem? (i := 43) rfl)
set_option maxRecDepth 20000 in
theorem wd_764 : Jvm.Cond.code ({ cls := "ToothWheelTimerModel", name := "cam", desc := "()Z" } : Jvm.MethodName) prog_8_method_32_code (1 : Nat) (Option.some Jvm.ClassFile.FieldType.boolean) ∈ lw_tbl := tb_4 (List.mem_of_getElem? (i := 44) rfl)
set_option maxRecDepth 20000 in
theorem wd_765 : Jvm.Cond.methodLink "ToothWheelTimerLaw" (72 : Nat) ({ cls := "ToothWheelTimerModel", name := "rest", desc := "(I)I" } : Jvm.MethodName) ∈ lw_tbl := tb_4 (List.mem_of_getElem? (i := 45) rfl)
set_option maxRecDepth 20000 in
theorem wd_766 : Jvm.Cond.instanceMethod ({ cls := "ToothWheelTimerModel", name := "rest", desc := "(I)I" } : Jvm.MethodName) ∈ lw_tbl := tb_4 (List.mem_of_getElem? (i := 46) rfl)
set_option maxRecDepth 20000 in
theorem wd_767 : Jvm.Cond.selects "ToothWheelTimerModel" ({ cls := "ToothWheelTimerModel", name := "rest", desc := "(I)I" } : Jvm.MethodName) ({ cls := "ToothWheelTimerModel", name := "rest", desc := "(I)I" } : Jvm.MethodName) ∈ lw_tbl := tb_4 (List.mem_of_getElem? (i := 47) rfl)
set_option maxRecDepth 20000 in
theorem wd_768 : Jvm.Cond.code ({ cls := "ToothWheelTimerModel", name := "rest", desc := "(I)I" } : Jvm.MethodName) prog_8_method_33_code (3 : Nat) (Option.some Jvm.ClassFile.FieldType.int) ∈ lw_tbl := tb_4 (List.mem_of_getElem? (i := 48) rfl)
set_option maxRecDepth 20000 in
theorem wd_769 : Jvm.Cond.constant "ToothWheelTimerModel" (210 : Nat) (10000000 : Int32) ∈ lw_tbl := tb_4 (List.mem_of_getElem? (i := 49) rfl)
set_option maxRecDepth 20000 in
theorem wd_770 : Jvm.Cond.methodLink "ToothWheelTimerLaw" (76 : Nat) ({ cls := "ToothWheelTimerModel", name := "state", desc := "()I" } : Jvm.MethodName) ∈ lw_tbl := tb_4 (List.mem_of_getElem? (i := 50) rfl)
set_option maxRecDepth 20000 in
theorem wd_771 : Jvm.Cond.instanceMethod ({ cls := "ToothWheelTimerModel", name := "state", desc := "()I" } : Jvm.MethodName) ∈ lw_tbl := tb_4 (List.mem_of_getElem? (i := 51) rfl)
set_option maxRecDepth 20000 in
theorem wd_772 : Jvm.Cond.selects "ToothWheelTimerModel" ({ cls := "ToothWheelTimerModel", name := "state", desc := "()I" } : Jvm.MethodName) ({ cls := "ToothWheelTimerModel", name := "state", desc := "()I" } : Jvm.MethodName) ∈ lw_tbl := tb_4 (List.mem_of_getElem? (i := 52) rfl)
set_option maxRecDepth 20000 in
theorem wd_773 : Jvm.Cond.code ({ cls := "ToothWheelTimerModel", name := "state", desc := "()I" } : Jvm.MethodName) prog_8_method_34_code (1 : Nat) (Option.some Jvm.ClassFile.FieldType.int) ∈ lw_tbl := tb_4 (List.mem_of_getElem? (i := 53) rfl)
set_option maxRecDepth 20000 in
theorem wd_774 : Jvm.Cond.methodLink "ToothWheelTimerLaw" (80 : Nat) ({ cls := "ToothWheelTimerModel", name := "tooth", desc := "()I" } : Jvm.MethodName) ∈ lw_tbl := tb_4 (List.mem_of_getElem? (i := 54) rfl)
set_option maxRecDepth 20000 in
theorem wd_775 : Jvm.Cond.instanceMethod ({ cls := "ToothWheelTimerModel", name := "tooth", desc := "()I" } : Jvm.MethodName) ∈ lw_tbl := tb_4 (List.mem_of_getElem? (i := 55) rfl)
set_option maxRecDepth 20000 in
theorem wd_776 : Jvm.Cond.selects "ToothWheelTimerModel" ({ cls := "ToothWheelTimerModel", name := "tooth", desc := "()I" } : Jvm.MethodName) ({ cls := "ToothWheelTimerModel", name := "tooth", desc := "()I" } : Jvm.MethodName) ∈ lw_tbl := tb_4 (List.mem_of_getElem? (i := 56) rfl)
set_option maxRecDepth 20000 in
theorem wd_777 : Jvm.Cond.code ({ cls := "ToothWheelTimerModel", name := "tooth", desc := "()I" } : Jvm.MethodName) prog_8_method_35_code (1 : Nat) (Option.some Jvm.ClassFile.FieldType.int) ∈ lw_tbl := tb_4 (List.mem_of_getElem? (i := 57) rfl)
set_option maxRecDepth 20000 in
theorem wd_778 : Jvm.Cond.methodLink "ToothWheelTimerLaw" (84 : Nat) ({ cls := "ToothWheelTimerModel", name := "turn", desc := "()I" } : Jvm.MethodName) ∈ lw_tbl := tb_4 (List.mem_of_getElem? (i := 58) rfl)
set_option maxRecDepth 20000 in
theorem wd_779 : Jvm.Cond.instanceMethod ({ cls := "ToothWheelTimerModel", name := "turn", desc := "()I" } : Jvm.MethodName) ∈ lw_tbl := tb_4 (List.mem_of_getElem? (i := 59) rfl)
set_option maxRecDepth 20000 in
theorem wd_780 : Jvm.Cond.selects "ToothWheelTimerModel" ({ cls := "ToothWheelTimerModel", name := "turn", desc := "()I" } : Jvm.MethodName) ({ cls := "ToothWheelTimerModel", name := "turn", desc := "()I" } : Jvm.MethodName) ∈ lw_tbl := tb_4 (List.mem_of_getElem? (i := 60) rfl)
set_option maxRecDepth 20000 in
theorem wd_781 : Jvm.Cond.code ({ cls := "ToothWheelTimerModel", name := "turn", desc := "()I" } : Jvm.MethodName) prog_8_method_36_code (1 : Nat) (Option.some Jvm.ClassFile.FieldType.int) ∈ lw_tbl := tb_4 (List.mem_of_getElem? (i := 61) rfl)
set_option maxRecDepth 20000 in
theorem wd_782 : Jvm.Cond.methodLink "ToothWheelTimerLaw" (89 : Nat) ({ cls := "ToothWheelTimerModel", name := "unit", desc := "()J" } : Jvm.MethodName) ∈ lw_tbl := tb_4 (List.mem_of_getElem? (i := 62) rfl)
set_option maxRecDepth 20000 in
theorem wd_783 : Jvm.Cond.instanceMethod ({ cls := "ToothWheelTimerModel", name := "unit", desc := "()J" } : Jvm.MethodName) ∈ lw_tbl := tb_4 (List.mem_of_getElem? (i := 63) rfl)
set_option maxRecDepth 20000 in
theorem wd_784 : Jvm.Cond.selects "ToothWheelTimerModel" ({ cls := "ToothWheelTimerModel", name := "unit", desc := "()J" } : Jvm.MethodName) ({ cls := "ToothWheelTimerModel", name := "unit", desc := "()J" } : Jvm.MethodName) ∈ lw_tbl := tb_4 (List.mem_of_getElem? (i := 64) rfl)
set_option maxRecDepth 20000 in
theorem wd_785 : Jvm.Cond.code ({ cls := "ToothWheelTimerModel", name := "unit", desc := "()J" } : Jvm.MethodName) prog_8_method_37_code (1 : Nat) (Option.some Jvm.ClassFile.FieldType.long) ∈ lw_tbl := tb_4 (List.mem_of_getElem? (i := 65) rfl)
set_option maxRecDepth 20000 in
theorem wd_786 : Jvm.Cond.methodLink "ToothWheelTimerLaw" (94 : Nat) ({ cls := "ToothWheelTimerModel", name := "foretell", desc := "(I)J" } : Jvm.MethodName) ∈ lw_tbl := tb_4 (List.mem_of_getElem? (i := 66) rfl)
set_option maxRecDepth 20000 in
theorem wd_787 : Jvm.Cond.instanceMethod ({ cls := "ToothWheelTimerModel", name := "foretell", desc := "(I)J" } : Jvm.MethodName) ∈ lw_tbl := tb_4 (List.mem_of_getElem? (i := 67) rfl)
set_option maxRecDepth 20000 in
theorem wd_788 : Jvm.Cond.selects "ToothWheelTimerModel" ({ cls := "ToothWheelTimerModel", name := "foretell", desc := "(I)J" } : Jvm.MethodName) ({ cls := "ToothWheelTimerModel", name := "foretell", desc := "(I)J" } : Jvm.MethodName) ∈ lw_tbl := tb_4 (List.mem_of_getElem? (i := 68) rfl)
set_option maxRecDepth 20000 in
theorem wd_789 : Jvm.Cond.code ({ cls := "ToothWheelTimerModel", name := "foretell", desc := "(I)J" } : Jvm.MethodName) prog_8_method_38_code (3 : Nat) (Option.some Jvm.ClassFile.FieldType.long) ∈ lw_tbl := tb_4 (List.mem_of_getElem? (i := 69) rfl)
set_option maxRecDepth 20000 in
theorem wd_790 : Jvm.Cond.methodLink "ToothWheelTimerLaw" (98 : Nat) ({ cls := "ToothWheelTimerModel", name := "output", desc := "(I)J" } : Jvm.MethodName) ∈ lw_tbl := tb_4 (List.mem_of_getElem? (i := 70) rfl)
set_option maxRecDepth 20000 in
theorem wd_791 : Jvm.Cond.instanceMethod ({ cls := "ToothWheelTimerModel", name := "output", desc := "(I)J" } : Jvm.MethodName) ∈ lw_tbl := tb_4 (List.mem_of_getElem? (i := 71) rfl)
set_option maxRecDepth 20000 in
theorem wd_792 : Jvm.Cond.selects "ToothWheelTimerModel" ({ cls := "ToothWheelTimerModel", name := "output", desc := "(I)J" } : Jvm.MethodName) ({ cls := "ToothWheelTimerModel", name := "output", desc := "(I)J" } : Jvm.MethodName) ∈ lw_tbl := tb_4 (List.mem_of_getElem? (i := 72) rfl)
set_option maxRecDepth 20000 in
theorem wd_793 : Jvm.Cond.code ({ cls := "ToothWheelTimerModel", name := "output", desc := "(I)J" } : Jvm.MethodName) prog_8_method_39_code (2 : Nat) (Option.some Jvm.ClassFile.FieldType.long) ∈ lw_tbl := tb_4 (List.mem_of_getElem? (i := 73) rfl)
set_option maxRecDepth 20000 in
theorem wd_794 : Jvm.Cond.methodLink "ToothWheelTimerLaw" (102 : Nat) ({ cls := "ToothWheelTimerModel", name := "tally", desc := "(I)I" } : Jvm.MethodName) ∈ lw_tbl := tb_4 (List.mem_of_getElem? (i := 74) rfl)
set_option maxRecDepth 20000 in
theorem wd_795 : Jvm.Cond.instanceMethod ({ cls := "ToothWheelTimerModel", name := "tally", desc := "(I)I" } : Jvm.MethodName) ∈ lw_tbl := tb_4 (List.mem_of_getElem? (i := 75) rfl)
set_option maxRecDepth 20000 in
theorem wd_796 : Jvm.Cond.selects "ToothWheelTimerModel" ({ cls := "ToothWheelTimerModel", name := "tally", desc := "(I)I" } : Jvm.MethodName) ({ cls := "ToothWheelTimerModel", name := "tally", desc := "(I)I" } : Jvm.MethodName) ∈ lw_tbl := tb_4 (List.mem_of_getElem? (i := 76) rfl)
set_option maxRecDepth 20000 in
theorem wd_797 : Jvm.Cond.code ({ cls := "ToothWheelTimerModel", name := "tally", desc := "(I)I" } : Jvm.MethodName) prog_8_method_40_code (2 : Nat) (Option.some Jvm.ClassFile.FieldType.int) ∈ lw_tbl := tb_4 (List.mem_of_getElem? (i := 77) rfl)
set_option maxRecDepth 20000 in
theorem wd_798 : Jvm.Cond.methodLink "ToothWheelTimerLaw" (106 : Nat) ({ cls := "ToothWheelTimerModel", name := "waiting", desc := "()I" } : Jvm.MethodName) ∈ lw_tbl := tb_4 (List.mem_of_getElem? (i := 78) rfl)
set_option maxRecDepth 20000 in
theorem wd_799 : Jvm.Cond.instanceMethod ({ cls := "ToothWheelTimerModel", name := "waiting", desc := "()I" } : Jvm.MethodName) ∈ lw_tbl := tb_4 (List.mem_of_getElem? (i := 79) rfl)
set_option maxRecDepth 20000 in
theorem wd_800 : Jvm.Cond.selects "ToothWheelTimerModel" ({ cls := "ToothWheelTimerModel", name := "waiting", desc := "()I" } : Jvm.MethodName) ({ cls := "ToothWheelTimerModel", name := "waiting", desc := "()I" } : Jvm.MethodName) ∈ lw_tbl := tb_4 (List.mem_of_getElem? (i := 80) rfl)
set_option maxRecDepth 20000 in
theorem wd_801 : Jvm.Cond.code ({ cls := "ToothWheelTimerModel", name := "waiting", desc := "()I" } : Jvm.MethodName) prog_8_method_41_code (3 : Nat) (Option.some Jvm.ClassFile.FieldType.int) ∈ lw_tbl := tb_4 (List.mem_of_getElem? (i := 81) rfl)
set_option maxRecDepth 20000 in
theorem wd_802 : Jvm.Cond.methodLink "ToothWheelTimerLaw" (110 : Nat) ({ cls := "ToothWheelTimerModel", name := "running", desc := "()I" } : Jvm.MethodName) ∈ lw_tbl := tb_4 (List.mem_of_getElem? (i := 82) rfl)
set_option maxRecDepth 20000 in
theorem wd_803 : Jvm.Cond.instanceMethod ({ cls := "ToothWheelTimerModel", name := "running", desc := "()I" } : Jvm.MethodName) ∈ lw_tbl := tb_4 (List.mem_of_getElem? (i := 83) rfl)
set_option maxRecDepth 20000 in
theorem wd_804 : Jvm.Cond.selects "ToothWheelTimerModel" ({ cls := "ToothWheelTimerModel", name := "running", desc := "()I" } : Jvm.MethodName) ({ cls := "ToothWheelTimerModel", name := "running", desc := "()I" } : Jvm.MethodName) ∈ lw_tbl := tb_4 (List.mem_of_getElem? (i := 84) rfl)
set_option maxRecDepth 20000 in
theorem wd_805 : Jvm.Cond.code ({ cls := "ToothWheelTimerModel", name := "running", desc := "()I" } : Jvm.MethodName) prog_8_method_42_code (3 : Nat) (Option.some Jvm.ClassFile.FieldType.int) ∈ lw_tbl := tb_4 (List.mem_of_getElem? (i := 85) rfl)
def TA : u_T := fun k => match k with
  | 0 => ("ToothWheelTimer$Agenda", "cylinders", "I", true)
  | 1 => ("ToothWheelTimer$Agenda", "taken", "[Z", true)
  | 2 => ("ToothWheelTimer$Agenda", "times", "[J", true)
  | 3 => ("ToothWheelTimer$Agenda", "ranks", "[I", true)
  | 4 => ("ToothWheelTimer$Agenda", "nextRank", "I", false)
  | _ => ("ToothWheelTimer$Agenda", "size", "I", false)
def tyA : Nat → FieldType := fun k => match k with
  | 0 => .int
  | 1 => .array .boolean
  | 2 => .array .long
  | 3 => .array .int
  | 4 => .int
  | _ => .int
theorem nmA : ∀ a, a < 6 → ∀ b, b < 6 → a ≠ b → (TA a).2.1 ≠ (TA b).2.1 := by decide +kernel
theorem tyokA : ∀ k, k < 6 → parseFieldDescriptor (TA k).2.2.1 = some (tyA k) := by decide +kernel
set_option maxRecDepth 20000 in
theorem inA : ∀ w ∈ u_ws "ToothWheelTimer$Agenda" TA 6, w ∈ wsG := fun w h => List.mem_filter.mpr (by
  have h1 := List.all_eq_true.mp (show (u_ws "ToothWheelTimer$Agenda" TA 6).all (fun w => decide (w ∈ lw_tbl) && goodWord w) = true by decide +kernel) w h
  simp only [Bool.and_eq_true, decide_eq_true_eq] at h1
  exact h1)
def TC : u_T := fun k => match k with
  | 0 => ("ToothWheelTimer$Chart", "most", "I", true)
  | _ => ("ToothWheelTimer$Chart", "points", "[I", true)
def tyC : Nat → FieldType := fun k => match k with
  | 0 => .int
  | _ => .array .int
theorem nmC : ∀ a, a < 2 → ∀ b, b < 2 → a ≠ b → (TC a).2.1 ≠ (TC b).2.1 := by decide +kernel
theorem tyokC : ∀ k, k < 2 → parseFieldDescriptor (TC k).2.2.1 = some (tyC k) := by decide +kernel
set_option maxRecDepth 20000 in
theorem inC : ∀ w ∈ u_ws "ToothWheelTimer$Chart" TC 2, w ∈ wsG := fun w h => List.mem_filter.mpr (by
  have h1 := List.all_eq_true.mp (show (u_ws "ToothWheelTimer$Chart" TC 2).all (fun w => decide (w ∈ lw_tbl) && goodWord w) = true by decide +kernel) w h
  simp only [Bool.and_eq_true, decide_eq_true_eq] at h1
  exact h1)
def TP : u_T := fun k => match k with
  | 0 => ("ToothWheelTimer$Panel", "log", "[J", true)
  | 1 => ("ToothWheelTimer$Panel", "lit", "I", false)
  | _ => ("ToothWheelTimer$Panel", "changes", "I", false)
def tyP : Nat → FieldType := fun k => match k with
  | 0 => .array .long
  | 1 => .int
  | _ => .int
theorem nmP : ∀ a, a < 3 → ∀ b, b < 3 → a ≠ b → (TP a).2.1 ≠ (TP b).2.1 := by decide +kernel
theorem tyokP : ∀ k, k < 3 → parseFieldDescriptor (TP k).2.2.1 = some (tyP k) := by decide +kernel
set_option maxRecDepth 20000 in
theorem inP : ∀ w ∈ u_ws "ToothWheelTimer$Panel" TP 3, w ∈ wsG := fun w h => List.mem_filter.mpr (by
  have h1 := List.all_eq_true.mp (show (u_ws "ToothWheelTimer$Panel" TP 3).all (fun w => decide (w ∈ lw_tbl) && goodWord w) = true by decide +kernel) w h
  simp only [Bool.and_eq_true, decide_eq_true_eq] at h1
  exact h1)
def TS : u_T := fun k => match k with
  | 0 => ("ToothWheelTimer$Sensor", "curve", "[I", true)
  | 1 => ("ToothWheelTimer$Sensor", "substitute", "I", true)
  | 2 => ("ToothWheelTimer$Sensor", "code", "[J", true)
  | 3 => ("ToothWheelTimer$Sensor", "good", "I", false)
  | 4 => ("ToothWheelTimer$Sensor", "previous", "I", false)
  | 5 => ("ToothWheelTimer$Sensor", "faults", "I", false)
  | _ => ("ToothWheelTimer$Sensor", "coded", "Z", false)
def tyS : Nat → FieldType := fun k => match k with
  | 0 => .array .int
  | 1 => .int
  | 2 => .array .long
  | 3 => .int
  | 4 => .int
  | 5 => .int
  | _ => .boolean
theorem nmS : ∀ a, a < 7 → ∀ b, b < 7 → a ≠ b → (TS a).2.1 ≠ (TS b).2.1 := by decide +kernel
theorem tyokS : ∀ k, k < 7 → parseFieldDescriptor (TS k).2.2.1 = some (tyS k) := by decide +kernel
set_option maxRecDepth 20000 in
theorem inS : ∀ w ∈ u_ws "ToothWheelTimer$Sensor" TS 7, w ∈ wsG := fun w h => List.mem_filter.mpr (by
  have h1 := List.all_eq_true.mp (show (u_ws "ToothWheelTimer$Sensor" TS 7).all (fun w => decide (w ∈ lw_tbl) && goodWord w) = true by decide +kernel) w h
  simp only [Bool.and_eq_true, decide_eq_true_eq] at h1
  exact h1)
def TW : u_T := fun k => match k with
  | 0 => ("ToothWheelTimer$Wheel", "lastNotch", "I", true)
  | 1 => ("ToothWheelTimer$Wheel", "positions", "I", true)
  | 2 => ("ToothWheelTimer$Wheel", "cycle", "I", true)
  | 3 => ("ToothWheelTimer$Wheel", "phase", "I", false)
  | 4 => ("ToothWheelTimer$Wheel", "edgeKnown", "Z", false)
  | 5 => ("ToothWheelTimer$Wheel", "latest", "J", false)
  | 6 => ("ToothWheelTimer$Wheel", "pace", "J", false)
  | 7 => ("ToothWheelTimer$Wheel", "notch", "I", false)
  | 8 => ("ToothWheelTimer$Wheel", "round", "I", false)
  | _ => ("ToothWheelTimer$Wheel", "camCame", "Z", false)
def tyW : Nat → FieldType := fun k => match k with
  | 0 => .int
  | 1 => .int
  | 2 => .int
  | 3 => .int
  | 4 => .boolean
  | 5 => .long
  | 6 => .long
  | 7 => .int
  | 8 => .int
  | _ => .boolean
theorem nmW : ∀ a, a < 10 → ∀ b, b < 10 → a ≠ b → (TW a).2.1 ≠ (TW b).2.1 := by decide +kernel
theorem tyokW : ∀ k, k < 10 → parseFieldDescriptor (TW k).2.2.1 = some (tyW k) := by decide +kernel
set_option maxRecDepth 20000 in
theorem inW : ∀ w ∈ u_ws "ToothWheelTimer$Wheel" TW 10, w ∈ wsG := fun w h => List.mem_filter.mpr (by
  have h1 := List.all_eq_true.mp (show (u_ws "ToothWheelTimer$Wheel" TW 10).all (fun w => decide (w ∈ lw_tbl) && goodWord w) = true by decide +kernel) w h
  simp only [Bool.and_eq_true, decide_eq_true_eq] at h1
  exact h1)
def TT : u_T := fun k => match k with
  | 0 => ("ToothWheelTimer", "cylinders", "I", true)
  | 1 => ("ToothWheelTimer", "chargeSteps", "I", true)
  | 2 => ("ToothWheelTimer", "longestDwell", "I", true)
  | 3 => ("ToothWheelTimer", "wheel", "LToothWheelTimer$Wheel;", true)
  | 4 => ("ToothWheelTimer", "agenda", "LToothWheelTimer$Agenda;", true)
  | 5 => ("ToothWheelTimer", "panel", "LToothWheelTimer$Panel;", true)
  | 6 => ("ToothWheelTimer", "advance", "LToothWheelTimer$Chart;", true)
  | 7 => ("ToothWheelTimer", "fuel", "LToothWheelTimer$Chart;", true)
  | 8 => ("ToothWheelTimer", "load", "LToothWheelTimer$Sensor;", true)
  | 9 => ("ToothWheelTimer", "heat", "LToothWheelTimer$Sensor;", true)
  | 10 => ("ToothWheelTimer", "now", "J", false)
  | 11 => ("ToothWheelTimer", "sparks", "I", false)
  | 12 => ("ToothWheelTimer", "cuts", "I", false)
  | _ => ("ToothWheelTimer", "unlockings", "I", false)
def tyT : Nat → FieldType := fun k => match k with
  | 0 => .int
  | 1 => .int
  | 2 => .int
  | 3 => .object "ToothWheelTimer$Wheel"
  | 4 => .object "ToothWheelTimer$Agenda"
  | 5 => .object "ToothWheelTimer$Panel"
  | 6 => .object "ToothWheelTimer$Chart"
  | 7 => .object "ToothWheelTimer$Chart"
  | 8 => .object "ToothWheelTimer$Sensor"
  | 9 => .object "ToothWheelTimer$Sensor"
  | 10 => .long
  | 11 => .int
  | 12 => .int
  | _ => .int
theorem nmT : ∀ a, a < 14 → ∀ b, b < 14 → a ≠ b → (TT a).2.1 ≠ (TT b).2.1 := by decide +kernel
theorem tyokT : ∀ k, k < 14 → parseFieldDescriptor (TT k).2.2.1 = some (tyT k) := by decide +kernel
set_option maxRecDepth 20000 in
theorem inT : ∀ w ∈ u_ws "ToothWheelTimer" TT 14, w ∈ wsG := fun w h => List.mem_filter.mpr (by
  have h1 := List.all_eq_true.mp (show (u_ws "ToothWheelTimer" TT 14).all (fun w => decide (w ∈ lw_tbl) && goodWord w) = true by decide +kernel) w h
  simp only [Bool.and_eq_true, decide_eq_true_eq] at h1
  exact h1)
def TM : u_T := fun k => match k with
  | 0 => ("ToothWheelTimerModel", "last", "I", false)
  | 1 => ("ToothWheelTimerModel", "many", "I", false)
  | 2 => ("ToothWheelTimerModel", "ahead", "I", false)
  | 3 => ("ToothWheelTimerModel", "dwell", "I", false)
  | 4 => ("ToothWheelTimerModel", "cycle", "I", false)
  | 5 => ("ToothWheelTimerModel", "now", "J", false)
  | 6 => ("ToothWheelTimerModel", "any", "Z", false)
  | 7 => ("ToothWheelTimerModel", "latest", "J", false)
  | 8 => ("ToothWheelTimerModel", "unit", "J", false)
  | 9 => ("ToothWheelTimerModel", "state", "I", false)
  | 10 => ("ToothWheelTimerModel", "tooth", "I", false)
  | 11 => ("ToothWheelTimerModel", "turn", "I", false)
  | 12 => ("ToothWheelTimerModel", "camSeen", "Z", false)
  | 13 => ("ToothWheelTimerModel", "point", "[I", true)
  | 14 => ("ToothWheelTimerModel", "waits", "[Z", true)
  | 15 => ("ToothWheelTimerModel", "due", "[J", true)
  | 16 => ("ToothWheelTimerModel", "number", "[I", true)
  | 17 => ("ToothWheelTimerModel", "planned", "I", false)
  | 18 => ("ToothWheelTimerModel", "coil", "[Z", true)
  | 19 => ("ToothWheelTimerModel", "injector", "[Z", true)
  | 20 => ("ToothWheelTimerModel", "sampled", "[Z", true)
  | 21 => ("ToothWheelTimerModel", "before", "[I", true)
  | 22 => ("ToothWheelTimerModel", "anyGood", "[Z", true)
  | 23 => ("ToothWheelTimerModel", "good", "[I", true)
  | 24 => ("ToothWheelTimerModel", "fails", "[I", true)
  | 25 => ("ToothWheelTimerModel", "stored", "[Z", true)
  | 26 => ("ToothWheelTimerModel", "shot", "[J", true)
  | 27 => ("ToothWheelTimerModel", "out", "[J", true)
  | 28 => ("ToothWheelTimerModel", "switchings", "I", false)
  | 29 => ("ToothWheelTimerModel", "sparks", "I", false)
  | 30 => ("ToothWheelTimerModel", "cuts", "I", false)
  | _ => ("ToothWheelTimerModel", "ceased", "I", false)
def tyM : Nat → FieldType := fun k => match k with
  | 0 => .int
  | 1 => .int
  | 2 => .int
  | 3 => .int
  | 4 => .int
  | 5 => .long
  | 6 => .boolean
  | 7 => .long
  | 8 => .long
  | 9 => .int
  | 10 => .int
  | 11 => .int
  | 12 => .boolean
  | 13 => .array .int
  | 14 => .array .boolean
  | 15 => .array .long
  | 16 => .array .int
  | 17 => .int
  | 18 => .array .boolean
  | 19 => .array .boolean
  | 20 => .array .boolean
  | 21 => .array .int
  | 22 => .array .boolean
  | 23 => .array .int
  | 24 => .array .int
  | 25 => .array .boolean
  | 26 => .array .long
  | 27 => .array .long
  | 28 => .int
  | 29 => .int
  | 30 => .int
  | _ => .int
theorem nmM : ∀ a, a < 32 → ∀ b, b < 32 → a ≠ b → (TM a).2.1 ≠ (TM b).2.1 := by decide +kernel
theorem tyokM : ∀ k, k < 32 → parseFieldDescriptor (TM k).2.2.1 = some (tyM k) := by decide +kernel
set_option maxRecDepth 20000 in
theorem inM : ∀ w ∈ u_ws "ToothWheelTimerModel" TM 32, w ∈ wsG := fun w h => List.mem_filter.mpr (by
  have h1 := List.all_eq_true.mp (show (u_ws "ToothWheelTimerModel" TM 32).all (fun w => decide (w ∈ lw_tbl) && goodWord w) = true by decide +kernel) w h
  simp only [Bool.and_eq_true, decide_eq_true_eq] at h1
  exact h1)
abbrev vwCl : List vw_C := [("ToothWheelTimer$Agenda", TA, 6), ("ToothWheelTimer$Chart", TC, 2), ("ToothWheelTimer$Panel", TP, 3), ("ToothWheelTimer$Sensor", TS, 7), ("ToothWheelTimer$Wheel", TW, 10), ("ToothWheelTimer", TT, 14), ("ToothWheelTimerModel", TM, 32)]
abbrev tyG (cZ cI cJ : ClassId) : List (ClassId × FieldType) := [(cZ, .boolean), (cI, .int), (cJ, .long)]
def lc : Nat → Int32 := fun j => match j with
  | 0 => 0
  | 1 => 256
  | 2 => 512
  | 3 => 768
  | _ => 1024
def hc : Nat → Int32 := fun j => match j with
  | 0 => 140
  | 1 => 90
  | 2 => 60
  | 3 => 25
  | _ => (-40)
abbrev lcurve : Nat → Value := fun j => .int (lc j)
abbrev hcurve : Nat → Value := fun j => .int (hc j)
def STT (tL tH : Nat) (A : Nat → Prop) (U : State) (H : Heap) : Prop := va_T .int tL 5 lcurve A U H ∧ va_T .int tH 5 hcurve A U H ∧ va_Z "ToothWheelTimer" "LOAD_CURVE" "[I" (.ref tL) A U H ∧ va_Z "ToothWheelTimer" "HEAT_CURVE" "[I" (.ref tH) A U H
abbrev yT_init : MethodName := ⟨"ToothWheelTimer", "<init>", "(IIII)V"⟩
abbrev cT_init : ByteArray := prog_1_method_1_code
abbrev wT_init : List Cond := Cond.code yT_init cT_init 5 (Option.none : Option Jvm.ClassFile.FieldType) :: wsG
abbrev yO_init : MethodName := ⟨"java/lang/Object", "<init>", "()V"⟩
abbrev cO_init : ByteArray := object_method_1_code
abbrev wO_init : List Cond := Cond.code yO_init cO_init 1 (Option.none : Option Jvm.ClassFile.FieldType) :: wsG
abbrev yP_init : MethodName := ⟨"ToothWheelTimer$Panel", "<init>", "()V"⟩
abbrev cP_init : ByteArray := prog_4_method_1_code
abbrev wP_init : List Cond := Cond.code yP_init cP_init 1 (Option.none : Option Jvm.ClassFile.FieldType) :: wsG
abbrev yC_init : MethodName := ⟨"ToothWheelTimer$Chart", "<init>", "(I)V"⟩
abbrev cC_init : ByteArray := prog_3_method_1_code
abbrev wC_init : List Cond := Cond.code yC_init cC_init 2 (Option.none : Option Jvm.ClassFile.FieldType) :: wsG
abbrev yS_init : MethodName := ⟨"ToothWheelTimer$Sensor", "<init>", "([III)V"⟩
abbrev cS_init : ByteArray := prog_5_method_1_code
abbrev wS_init : List Cond := Cond.code yS_init cS_init 4 (Option.none : Option Jvm.ClassFile.FieldType) :: wsG
abbrev yT_within : MethodName := ⟨"ToothWheelTimer", "within", "(III)I"⟩
abbrev cT_within : ByteArray := prog_1_method_22_code
abbrev wT_within : List Cond := Cond.code yT_within cT_within 3 (Option.some Jvm.ClassFile.FieldType.int) :: wsG
abbrev yJ_min : MethodName := ⟨"java/lang/Math", "min", "(II)I"⟩
abbrev cJ_min : ByteArray := prog_9_method_69_code
abbrev wJ_min : List Cond := Cond.code yJ_min cJ_min 2 (Option.some Jvm.ClassFile.FieldType.int) :: wsG
abbrev yJ_maxI : MethodName := ⟨"java/lang/Math", "max", "(II)I"⟩
abbrev cJ_maxI : ByteArray := prog_9_method_65_code
abbrev wJ_maxI : List Cond := Cond.code yJ_maxI cJ_maxI 2 (Option.some Jvm.ClassFile.FieldType.int) :: wsG
abbrev yW_init : MethodName := ⟨"ToothWheelTimer$Wheel", "<init>", "(I)V"⟩
abbrev cW_init : ByteArray := prog_6_method_1_code
abbrev wW_init : List Cond := Cond.code yW_init cW_init 2 (Option.none : Option Jvm.ClassFile.FieldType) :: wsG
abbrev yA_init : MethodName := ⟨"ToothWheelTimer$Agenda", "<init>", "(I)V"⟩
abbrev cA_init : ByteArray := prog_2_method_1_code
abbrev wA_init : List Cond := Cond.code yA_init cA_init 2 (Option.none : Option Jvm.ClassFile.FieldType) :: wsG
abbrev yT_set : MethodName := ⟨"ToothWheelTimer", "set", "(IIII)Z"⟩
abbrev cT_set : ByteArray := prog_1_method_2_code
abbrev wT_set : List Cond := Cond.code yT_set cT_set 6 (Option.some Jvm.ClassFile.FieldType.boolean) :: wsG
abbrev yT_chartOf : MethodName := ⟨"ToothWheelTimer", "chartOf", "(I)LToothWheelTimer$Chart;"⟩
abbrev cT_chartOf : ByteArray := prog_1_method_23_code
abbrev wT_chartOf : List Cond := Cond.code yT_chartOf cT_chartOf 2 (Option.some (Jvm.ClassFile.FieldType.object "ToothWheelTimer$Chart")) :: wsG
abbrev yC_put : MethodName := ⟨"ToothWheelTimer$Chart", "put", "(III)Z"⟩
abbrev cC_put : ByteArray := prog_3_method_2_code
abbrev wC_put : List Cond := Cond.code yC_put cC_put 4 (Option.some Jvm.ClassFile.FieldType.boolean) :: wsG
abbrev yT_look : MethodName := ⟨"ToothWheelTimer", "look", "(III)I"⟩
abbrev cT_look : ByteArray := prog_1_method_3_code
abbrev wT_look : List Cond := Cond.code yT_look cT_look 5 (Option.some Jvm.ClassFile.FieldType.int) :: wsG
abbrev yC_at : MethodName := ⟨"ToothWheelTimer$Chart", "at", "(II)I"⟩
abbrev cC_at : ByteArray := prog_3_method_3_code
abbrev wC_at : List Cond := Cond.code yC_at cC_at 12 (Option.some Jvm.ClassFile.FieldType.int) :: wsG
abbrev yT_sample : MethodName := ⟨"ToothWheelTimer", "sample", "(II)Z"⟩
abbrev cT_sample : ByteArray := prog_1_method_4_code
abbrev wT_sample : List Cond := Cond.code yT_sample cT_sample 5 (Option.some Jvm.ClassFile.FieldType.boolean) :: wsG
abbrev yT_sensorOf : MethodName := ⟨"ToothWheelTimer", "sensorOf", "(I)LToothWheelTimer$Sensor;"⟩
abbrev cT_sensorOf : ByteArray := prog_1_method_24_code
abbrev wT_sensorOf : List Cond := Cond.code yT_sensorOf cT_sensorOf 2 (Option.some (Jvm.ClassFile.FieldType.object "ToothWheelTimer$Sensor")) :: wsG
abbrev yS_take : MethodName := ⟨"ToothWheelTimer$Sensor", "take", "(I)Z"⟩
abbrev cS_take : ByteArray := prog_5_method_2_code
abbrev wS_take : List Cond := Cond.code yS_take cS_take 3 (Option.some Jvm.ClassFile.FieldType.boolean) :: wsG
abbrev yS_inRange : MethodName := ⟨"ToothWheelTimer$Sensor", "inRange", "(I)Z"⟩
abbrev cS_inRange : ByteArray := prog_5_method_3_code
abbrev wS_inRange : List Cond := Cond.code yS_inRange cS_inRange 1 (Option.some Jvm.ClassFile.FieldType.boolean) :: wsG
abbrev yJ_abs : MethodName := ⟨"java/lang/Math", "abs", "(I)I"⟩
abbrev cJ_abs : ByteArray := prog_9_method_59_code
abbrev wJ_abs : List Cond := Cond.code yJ_abs cJ_abs 1 (Option.some Jvm.ClassFile.FieldType.int) :: wsG
abbrev yS_onCurve : MethodName := ⟨"ToothWheelTimer$Sensor", "onCurve", "(I)I"⟩
abbrev cS_onCurve : ByteArray := prog_5_method_4_code
abbrev wS_onCurve : List Cond := Cond.code yS_onCurve cS_onCurve 3 (Option.some Jvm.ClassFile.FieldType.int) :: wsG
abbrev yJ_floorDiv : MethodName := ⟨"java/lang/Math", "floorDiv", "(II)I"⟩
abbrev cJ_floorDiv : ByteArray := prog_9_method_47_code
abbrev wJ_floorDiv : List Cond := Cond.code yJ_floorDiv cJ_floorDiv 3 (Option.some Jvm.ClassFile.FieldType.int) :: wsG
abbrev yS_wantsCode : MethodName := ⟨"ToothWheelTimer$Sensor", "wantsCode", "()Z"⟩
abbrev cS_wantsCode : ByteArray := prog_5_method_6_code
abbrev wS_wantsCode : List Cond := Cond.code yS_wantsCode cS_wantsCode 1 (Option.some Jvm.ClassFile.FieldType.boolean) :: wsG
abbrev yS_reading : MethodName := ⟨"ToothWheelTimer$Sensor", "reading", "()I"⟩
abbrev cS_reading : ByteArray := prog_5_method_5_code
abbrev wS_reading : List Cond := Cond.code yS_reading cS_reading 1 (Option.some Jvm.ClassFile.FieldType.int) :: wsG
abbrev yS_storeCode : MethodName := ⟨"ToothWheelTimer$Sensor", "storeCode", "(JJI)V"⟩
abbrev cS_storeCode : ByteArray := prog_5_method_7_code
abbrev wS_storeCode : List Cond := Cond.code yS_storeCode cS_storeCode 6 (Option.none : Option Jvm.ClassFile.FieldType) :: wsG
abbrev yT_value : MethodName := ⟨"ToothWheelTimer", "value", "(I)I"⟩
abbrev cT_value : ByteArray := prog_1_method_5_code
abbrev wT_value : List Cond := Cond.code yT_value cT_value 3 (Option.some Jvm.ClassFile.FieldType.int) :: wsG
abbrev yT_count : MethodName := ⟨"ToothWheelTimer", "count", "(I)I"⟩
abbrev cT_count : ByteArray := prog_1_method_6_code
abbrev wT_count : List Cond := Cond.code yT_count cT_count 3 (Option.some Jvm.ClassFile.FieldType.int) :: wsG
abbrev yT_frame : MethodName := ⟨"ToothWheelTimer", "frame", "(II)J"⟩
abbrev cT_frame : ByteArray := prog_1_method_7_code
abbrev wT_frame : List Cond := Cond.code yT_frame cT_frame 4 (Option.some Jvm.ClassFile.FieldType.long) :: wsG
abbrev yS_codePart : MethodName := ⟨"ToothWheelTimer$Sensor", "codePart", "(I)J"⟩
abbrev cS_codePart : ByteArray := prog_5_method_8_code
abbrev wS_codePart : List Cond := Cond.code yS_codePart cS_codePart 2 (Option.some Jvm.ClassFile.FieldType.long) :: wsG
abbrev yT_clear : MethodName := ⟨"ToothWheelTimer", "clear", "()I"⟩
abbrev cT_clear : ByteArray := prog_1_method_8_code
abbrev wT_clear : List Cond := Cond.code yT_clear cT_clear 1 (Option.some Jvm.ClassFile.FieldType.int) :: wsG
abbrev yS_dropCode : MethodName := ⟨"ToothWheelTimer$Sensor", "dropCode", "()I"⟩
abbrev cS_dropCode : ByteArray := prog_5_method_9_code
abbrev wS_dropCode : List Cond := Cond.code yS_dropCode cS_dropCode 2 (Option.some Jvm.ClassFile.FieldType.int) :: wsG
abbrev yT_edge : MethodName := ⟨"ToothWheelTimer", "edge", "(I)I"⟩
abbrev cT_edge : ByteArray := prog_1_method_9_code
abbrev wT_edge : List Cond := Cond.code yT_edge cT_edge 2 (Option.some Jvm.ClassFile.FieldType.int) :: wsG
abbrev yT_canFollow : MethodName := ⟨"ToothWheelTimer", "canFollow", "(I)Z"⟩
abbrev cT_canFollow : ByteArray := prog_1_method_25_code
abbrev wT_canFollow : List Cond := Cond.code yT_canFollow cT_canFollow 1 (Option.some Jvm.ClassFile.FieldType.boolean) :: wsG
abbrev yT_meetEdge : MethodName := ⟨"ToothWheelTimer", "meetEdge", "(I)V"⟩
abbrev cT_meetEdge : ByteArray := prog_1_method_26_code
abbrev wT_meetEdge : List Cond := Cond.code yT_meetEdge cT_meetEdge 3 (Option.none : Option Jvm.ClassFile.FieldType) :: wsG
abbrev yT_goOnTo : MethodName := ⟨"ToothWheelTimer", "goOnTo", "(J)V"⟩
abbrev cT_goOnTo : ByteArray := prog_1_method_27_code
abbrev wT_goOnTo : List Cond := Cond.code yT_goOnTo cT_goOnTo 8 (Option.none : Option Jvm.ClassFile.FieldType) :: wsG
abbrev yW_stallsBy : MethodName := ⟨"ToothWheelTimer$Wheel", "stallsBy", "(J)Z"⟩
abbrev cW_stallsBy : ByteArray := prog_6_method_10_code
abbrev wW_stallsBy : List Cond := Cond.code yW_stallsBy cW_stallsBy 3 (Option.some Jvm.ClassFile.FieldType.boolean) :: wsG
abbrev yW_stallTime : MethodName := ⟨"ToothWheelTimer$Wheel", "stallTime", "()J"⟩
abbrev cW_stallTime : ByteArray := prog_6_method_9_code
abbrev wW_stallTime : List Cond := Cond.code yW_stallTime cW_stallTime 1 (Option.some Jvm.ClassFile.FieldType.long) :: wsG
abbrev yA_firstUntil : MethodName := ⟨"ToothWheelTimer$Agenda", "firstUntil", "(J)I"⟩
abbrev cA_firstUntil : ByteArray := prog_2_method_8_code
abbrev wA_firstUntil : List Cond := Cond.code yA_firstUntil cA_firstUntil 5 (Option.some Jvm.ClassFile.FieldType.int) :: wsG
abbrev yA_isBefore : MethodName := ⟨"ToothWheelTimer$Agenda", "isBefore", "(II)Z"⟩
abbrev cA_isBefore : ByteArray := prog_2_method_9_code
abbrev wA_isBefore : List Cond := Cond.code yA_isBefore cA_isBefore 3 (Option.some Jvm.ClassFile.FieldType.boolean) :: wsG
abbrev yT_fireAt : MethodName := ⟨"ToothWheelTimer", "fireAt", "(I)V"⟩
abbrev cT_fireAt : ByteArray := prog_1_method_30_code
abbrev wT_fireAt : List Cond := Cond.code yT_fireAt cT_fireAt 4 (Option.none : Option Jvm.ClassFile.FieldType) :: wsG
abbrev yA_kindOf : MethodName := ⟨"ToothWheelTimer$Agenda", "kindOf", "(I)I"⟩
abbrev cA_kindOf : ByteArray := prog_2_method_3_code
abbrev wA_kindOf : List Cond := Cond.code yA_kindOf cA_kindOf 2 (Option.some Jvm.ClassFile.FieldType.int) :: wsG
abbrev yA_cylinderOf : MethodName := ⟨"ToothWheelTimer$Agenda", "cylinderOf", "(I)I"⟩
abbrev cA_cylinderOf : ByteArray := prog_2_method_4_code
abbrev wA_cylinderOf : List Cond := Cond.code yA_cylinderOf cA_cylinderOf 2 (Option.some Jvm.ClassFile.FieldType.int) :: wsG
abbrev yA_remove : MethodName := ⟨"ToothWheelTimer$Agenda", "remove", "(II)V"⟩
abbrev cA_remove : ByteArray := prog_2_method_6_code
abbrev wA_remove : List Cond := Cond.code yA_remove cA_remove 4 (Option.none : Option Jvm.ClassFile.FieldType) :: wsG
abbrev yA_placeOf : MethodName := ⟨"ToothWheelTimer$Agenda", "placeOf", "(II)I"⟩
abbrev cA_placeOf : ByteArray := prog_2_method_2_code
abbrev wA_placeOf : List Cond := Cond.code yA_placeOf cA_placeOf 3 (Option.some Jvm.ClassFile.FieldType.int) :: wsG
abbrev yT_chargeCoil : MethodName := ⟨"ToothWheelTimer", "chargeCoil", "(I)V"⟩
abbrev cT_chargeCoil : ByteArray := prog_1_method_31_code
abbrev wT_chargeCoil : List Cond := Cond.code yT_chargeCoil cT_chargeCoil 2 (Option.none : Option Jvm.ClassFile.FieldType) :: wsG
abbrev yP_isOn : MethodName := ⟨"ToothWheelTimer$Panel", "isOn", "(I)Z"⟩
abbrev cP_isOn : ByteArray := prog_4_method_2_code
abbrev wP_isOn : List Cond := Cond.code yP_isOn cP_isOn 2 (Option.some Jvm.ClassFile.FieldType.boolean) :: wsG
abbrev yP_switchTo : MethodName := ⟨"ToothWheelTimer$Panel", "switchTo", "(IZJ)V"⟩
abbrev cP_switchTo : ByteArray := prog_4_method_3_code
abbrev wP_switchTo : List Cond := Cond.code yP_switchTo cP_switchTo 5 (Option.none : Option Jvm.ClassFile.FieldType) :: wsG
abbrev yA_plan : MethodName := ⟨"ToothWheelTimer$Agenda", "plan", "(IIJ)V"⟩
abbrev cA_plan : ByteArray := prog_2_method_5_code
abbrev wA_plan : List Cond := Cond.code yA_plan cA_plan 6 (Option.none : Option Jvm.ClassFile.FieldType) :: wsG
abbrev yT_fireCoil : MethodName := ⟨"ToothWheelTimer", "fireCoil", "(I)V"⟩
abbrev cT_fireCoil : ByteArray := prog_1_method_32_code
abbrev wT_fireCoil : List Cond := Cond.code yT_fireCoil cT_fireCoil 2 (Option.none : Option Jvm.ClassFile.FieldType) :: wsG
abbrev yT_openInjector : MethodName := ⟨"ToothWheelTimer", "openInjector", "(I)V"⟩
abbrev cT_openInjector : ByteArray := prog_1_method_33_code
abbrev wT_openInjector : List Cond := Cond.code yT_openInjector cT_openInjector 3 (Option.none : Option Jvm.ClassFile.FieldType) :: wsG
abbrev yT_present : MethodName := ⟨"ToothWheelTimer", "present", "(LToothWheelTimer$Chart;)I"⟩
abbrev cT_present : ByteArray := prog_1_method_35_code
abbrev wT_present : List Cond := Cond.code yT_present cT_present 2 (Option.some Jvm.ClassFile.FieldType.int) :: wsG
abbrev yW_speed : MethodName := ⟨"ToothWheelTimer$Wheel", "speed", "()I"⟩
abbrev cW_speed : ByteArray := prog_6_method_15_code
abbrev wW_speed : List Cond := Cond.code yW_speed cW_speed 3 (Option.some Jvm.ClassFile.FieldType.int) :: wsG
abbrev yT_enriched : MethodName := ⟨"ToothWheelTimer", "enriched", "(I)I"⟩
abbrev cT_enriched : ByteArray := prog_1_method_34_code
abbrev wT_enriched : List Cond := Cond.code yT_enriched cT_enriched 4 (Option.some Jvm.ClassFile.FieldType.int) :: wsG
abbrev yT_stall : MethodName := ⟨"ToothWheelTimer", "stall", "()V"⟩
abbrev cT_stall : ByteArray := prog_1_method_28_code
abbrev wT_stall : List Cond := Cond.code yT_stall cT_stall 2 (Option.none : Option Jvm.ClassFile.FieldType) :: wsG
abbrev yW_stand : MethodName := ⟨"ToothWheelTimer$Wheel", "stand", "()V"⟩
abbrev cW_stand : ByteArray := prog_6_method_11_code
abbrev wW_stand : List Cond := Cond.code yW_stand cW_stand 1 (Option.none : Option Jvm.ClassFile.FieldType) :: wsG
abbrev yW_lose : MethodName := ⟨"ToothWheelTimer$Wheel", "lose", "()V"⟩
abbrev cW_lose : ByteArray := prog_6_method_7_code
abbrev wW_lose : List Cond := Cond.code yW_lose cW_lose 1 (Option.none : Option Jvm.ClassFile.FieldType) :: wsG
abbrev yT_shutDown : MethodName := ⟨"ToothWheelTimer", "shutDown", "()V"⟩
abbrev cT_shutDown : ByteArray := prog_1_method_29_code
abbrev wT_shutDown : List Cond := Cond.code yT_shutDown cT_shutDown 1 (Option.none : Option Jvm.ClassFile.FieldType) :: wsG
abbrev yA_removeAll : MethodName := ⟨"ToothWheelTimer$Agenda", "removeAll", "()V"⟩
abbrev cA_removeAll : ByteArray := prog_2_method_7_code
abbrev wA_removeAll : List Cond := Cond.code yA_removeAll cA_removeAll 2 (Option.none : Option Jvm.ClassFile.FieldType) :: wsG
abbrev yP_switchAllOff : MethodName := ⟨"ToothWheelTimer$Panel", "switchAllOff", "(J)V"⟩
abbrev cP_switchAllOff : ByteArray := prog_4_method_4_code
abbrev wP_switchAllOff : List Cond := Cond.code yP_switchAllOff cP_switchAllOff 4 (Option.none : Option Jvm.ClassFile.FieldType) :: wsG
abbrev yW_meetTooth : MethodName := ⟨"ToothWheelTimer$Wheel", "meetTooth", "(J)V"⟩
abbrev cW_meetTooth : ByteArray := prog_6_method_2_code
abbrev wW_meetTooth : List Cond := Cond.code yW_meetTooth cW_meetTooth 3 (Option.none : Option Jvm.ClassFile.FieldType) :: wsG
abbrev yW_measure : MethodName := ⟨"ToothWheelTimer$Wheel", "measure", "(J)V"⟩
abbrev cW_measure : ByteArray := prog_6_method_3_code
abbrev wW_measure : List Cond := Cond.code yW_measure cW_measure 3 (Option.none : Option Jvm.ClassFile.FieldType) :: wsG
abbrev yW_passGap : MethodName := ⟨"ToothWheelTimer$Wheel", "passGap", "(J)V"⟩
abbrev cW_passGap : ByteArray := prog_6_method_4_code
abbrev wW_passGap : List Cond := Cond.code yW_passGap cW_passGap 4 (Option.none : Option Jvm.ClassFile.FieldType) :: wsG
abbrev yJ_maxJ : MethodName := ⟨"java/lang/Math", "max", "(JJ)J"⟩
abbrev cJ_maxJ : ByteArray := prog_9_method_66_code
abbrev wJ_maxJ : List Cond := Cond.code yJ_maxJ cJ_maxJ 4 (Option.some Jvm.ClassFile.FieldType.long) :: wsG
abbrev yW_roundAfterGap : MethodName := ⟨"ToothWheelTimer$Wheel", "roundAfterGap", "()I"⟩
abbrev cW_roundAfterGap : ByteArray := prog_6_method_5_code
abbrev wW_roundAfterGap : List Cond := Cond.code yW_roundAfterGap cW_roundAfterGap 1 (Option.some Jvm.ClassFile.FieldType.int) :: wsG
abbrev yW_passPlain : MethodName := ⟨"ToothWheelTimer$Wheel", "passPlain", "(J)V"⟩
abbrev cW_passPlain : ByteArray := prog_6_method_6_code
abbrev wW_passPlain : List Cond := Cond.code yW_passPlain cW_passPlain 3 (Option.none : Option Jvm.ClassFile.FieldType) :: wsG
abbrev yT_planAll : MethodName := ⟨"ToothWheelTimer", "planAll", "()V"⟩
abbrev cT_planAll : ByteArray := prog_1_method_36_code
abbrev wT_planAll : List Cond := Cond.code yT_planAll cT_planAll 5 (Option.none : Option Jvm.ClassFile.FieldType) :: wsG
abbrev yT_paceLimit : MethodName := ⟨"ToothWheelTimer", "paceLimit", "()I"⟩
abbrev cT_paceLimit : ByteArray := prog_1_method_37_code
abbrev wT_paceLimit : List Cond := Cond.code yT_paceLimit cT_paceLimit 2 (Option.some Jvm.ClassFile.FieldType.int) :: wsG
abbrev yT_planNear : MethodName := ⟨"ToothWheelTimer", "planNear", "(III)V"⟩
abbrev cT_planNear : ByteArray := prog_1_method_38_code
abbrev wT_planNear : List Cond := Cond.code yT_planNear cT_planNear 5 (Option.none : Option Jvm.ClassFile.FieldType) :: wsG
abbrev yW_stepsTo : MethodName := ⟨"ToothWheelTimer$Wheel", "stepsTo", "(I)I"⟩
abbrev cW_stepsTo : ByteArray := prog_6_method_12_code
abbrev wW_stepsTo : List Cond := Cond.code yW_stepsTo cW_stepsTo 3 (Option.some Jvm.ClassFile.FieldType.int) :: wsG
abbrev yJ_floorMod : MethodName := ⟨"java/lang/Math", "floorMod", "(II)I"⟩
abbrev cJ_floorMod : ByteArray := prog_9_method_50_code
abbrev wJ_floorMod : List Cond := Cond.code yJ_floorMod cJ_floorMod 3 (Option.some Jvm.ClassFile.FieldType.int) :: wsG
abbrev yW_stepsToNextTooth : MethodName := ⟨"ToothWheelTimer$Wheel", "stepsToNextTooth", "()I"⟩
abbrev cW_stepsToNextTooth : ByteArray := prog_6_method_13_code
abbrev wW_stepsToNextTooth : List Cond := Cond.code yW_stepsToNextTooth cW_stepsToNextTooth 1 (Option.some Jvm.ClassFile.FieldType.int) :: wsG
abbrev yW_timeOver : MethodName := ⟨"ToothWheelTimer$Wheel", "timeOver", "(I)J"⟩
abbrev cW_timeOver : ByteArray := prog_6_method_14_code
abbrev wW_timeOver : List Cond := Cond.code yW_timeOver cW_timeOver 2 (Option.some Jvm.ClassFile.FieldType.long) :: wsG
abbrev yT_teeth : MethodName := ⟨"ToothWheelTimer", "teeth", "(II)I"⟩
abbrev cT_teeth : ByteArray := prog_1_method_10_code
abbrev wT_teeth : List Cond := Cond.code yT_teeth cT_teeth 4 (Option.some Jvm.ClassFile.FieldType.int) :: wsG
abbrev yT_cam : MethodName := ⟨"ToothWheelTimer", "cam", "()Z"⟩
abbrev cT_cam : ByteArray := prog_1_method_11_code
abbrev wT_cam : List Cond := Cond.code yT_cam cT_cam 1 (Option.some Jvm.ClassFile.FieldType.boolean) :: wsG
abbrev yW_meetCam : MethodName := ⟨"ToothWheelTimer$Wheel", "meetCam", "()V"⟩
abbrev cW_meetCam : ByteArray := prog_6_method_8_code
abbrev wW_meetCam : List Cond := Cond.code yW_meetCam cW_meetCam 1 (Option.none : Option Jvm.ClassFile.FieldType) :: wsG
abbrev yT_rest : MethodName := ⟨"ToothWheelTimer", "rest", "(I)I"⟩
abbrev cT_rest : ByteArray := prog_1_method_12_code
abbrev wT_rest : List Cond := Cond.code yT_rest cT_rest 3 (Option.some Jvm.ClassFile.FieldType.int) :: wsG
abbrev yT_state : MethodName := ⟨"ToothWheelTimer", "state", "()I"⟩
abbrev cT_state : ByteArray := prog_1_method_13_code
abbrev wT_state : List Cond := Cond.code yT_state cT_state 1 (Option.some Jvm.ClassFile.FieldType.int) :: wsG
abbrev yT_tooth : MethodName := ⟨"ToothWheelTimer", "tooth", "()I"⟩
abbrev cT_tooth : ByteArray := prog_1_method_14_code
abbrev wT_tooth : List Cond := Cond.code yT_tooth cT_tooth 1 (Option.some Jvm.ClassFile.FieldType.int) :: wsG
abbrev yT_turn : MethodName := ⟨"ToothWheelTimer", "turn", "()I"⟩
abbrev cT_turn : ByteArray := prog_1_method_15_code
abbrev wT_turn : List Cond := Cond.code yT_turn cT_turn 1 (Option.some Jvm.ClassFile.FieldType.int) :: wsG
abbrev yT_unit : MethodName := ⟨"ToothWheelTimer", "unit", "()J"⟩
abbrev cT_unit : ByteArray := prog_1_method_16_code
abbrev wT_unit : List Cond := Cond.code yT_unit cT_unit 1 (Option.some Jvm.ClassFile.FieldType.long) :: wsG
abbrev yT_foretell : MethodName := ⟨"ToothWheelTimer", "foretell", "(I)J"⟩
abbrev cT_foretell : ByteArray := prog_1_method_17_code
abbrev wT_foretell : List Cond := Cond.code yT_foretell cT_foretell 2 (Option.some Jvm.ClassFile.FieldType.long) :: wsG
abbrev yT_output : MethodName := ⟨"ToothWheelTimer", "output", "(I)J"⟩
abbrev cT_output : ByteArray := prog_1_method_18_code
abbrev wT_output : List Cond := Cond.code yT_output cT_output 2 (Option.some Jvm.ClassFile.FieldType.long) :: wsG
abbrev yP_logged : MethodName := ⟨"ToothWheelTimer$Panel", "logged", "(I)J"⟩
abbrev cP_logged : ByteArray := prog_4_method_5_code
abbrev wP_logged : List Cond := Cond.code yP_logged cP_logged 2 (Option.some Jvm.ClassFile.FieldType.long) :: wsG
abbrev yT_tally : MethodName := ⟨"ToothWheelTimer", "tally", "(I)I"⟩
abbrev cT_tally : ByteArray := prog_1_method_19_code
abbrev wT_tally : List Cond := Cond.code yT_tally cT_tally 2 (Option.some Jvm.ClassFile.FieldType.int) :: wsG
abbrev yT_waiting : MethodName := ⟨"ToothWheelTimer", "waiting", "()I"⟩
abbrev cT_waiting : ByteArray := prog_1_method_20_code
abbrev wT_waiting : List Cond := Cond.code yT_waiting cT_waiting 1 (Option.some Jvm.ClassFile.FieldType.int) :: wsG
abbrev yT_running : MethodName := ⟨"ToothWheelTimer", "running", "()I"⟩
abbrev cT_running : ByteArray := prog_1_method_21_code
abbrev wT_running : List Cond := Cond.code yT_running cT_running 1 (Option.some Jvm.ClassFile.FieldType.int) :: wsG
abbrev yL_cell : MethodName := ⟨"ToothWheelTimerLaw", "cell", "([II)I"⟩
abbrev cL_cell : ByteArray := method_2_code
abbrev wL_cell : List Cond := Cond.code yL_cell cL_cell 2 (Option.some Jvm.ClassFile.FieldType.int) :: wsG
abbrev yM_init : MethodName := ⟨"ToothWheelTimerModel", "<init>", "(IIII)V"⟩
abbrev cM_init : ByteArray := prog_8_method_1_code
abbrev wM_init : List Cond := Cond.code yM_init cM_init 6 (Option.none : Option Jvm.ClassFile.FieldType) :: wsG
abbrev yM_bound : MethodName := ⟨"ToothWheelTimerModel", "bound", "(III)I"⟩
abbrev cM_bound : ByteArray := prog_8_method_2_code
abbrev wM_bound : List Cond := Cond.code yM_bound cM_bound 3 (Option.some Jvm.ClassFile.FieldType.int) :: wsG
abbrev yM_set : MethodName := ⟨"ToothWheelTimerModel", "set", "(IIII)Z"⟩
abbrev cM_set : ByteArray := prog_8_method_5_code
abbrev wM_set : List Cond := Cond.code yM_set cM_set 6 (Option.some Jvm.ClassFile.FieldType.boolean) :: wsG
abbrev yM_in : MethodName := ⟨"ToothWheelTimerModel", "in", "(III)Z"⟩
abbrev cM_in : ByteArray := prog_8_method_3_code
abbrev wM_in : List Cond := Cond.code yM_in cM_in 3 (Option.some Jvm.ClassFile.FieldType.boolean) :: wsG
abbrev yM_look : MethodName := ⟨"ToothWheelTimerModel", "look", "(III)I"⟩
abbrev cM_look : ByteArray := prog_8_method_6_code
abbrev wM_look : List Cond := Cond.code yM_look cM_look 13 (Option.some Jvm.ClassFile.FieldType.int) :: wsG
abbrev yM_value : MethodName := ⟨"ToothWheelTimerModel", "value", "(I)I"⟩
abbrev cM_value : ByteArray := prog_8_method_11_code
abbrev wM_value : List Cond := Cond.code yM_value cM_value 2 (Option.some Jvm.ClassFile.FieldType.int) :: wsG
abbrev yM_valueOf : MethodName := ⟨"ToothWheelTimerModel", "valueOf", "(I)I"⟩
abbrev cM_valueOf : ByteArray := prog_8_method_10_code
abbrev wM_valueOf : List Cond := Cond.code yM_valueOf cM_valueOf 5 (Option.some Jvm.ClassFile.FieldType.int) :: wsG
abbrev yM_corner : MethodName := ⟨"ToothWheelTimerModel", "corner", "(I)I"⟩
abbrev cM_corner : ByteArray := prog_8_method_9_code
abbrev wM_corner : List Cond := Cond.code yM_corner cM_corner 1 (Option.some Jvm.ClassFile.FieldType.int) :: wsG
abbrev yM_down : MethodName := ⟨"ToothWheelTimerModel", "down", "(II)I"⟩
abbrev cM_down : ByteArray := prog_8_method_4_code
abbrev wM_down : List Cond := Cond.code yM_down cM_down 3 (Option.some Jvm.ClassFile.FieldType.int) :: wsG
abbrev yM_count : MethodName := ⟨"ToothWheelTimerModel", "count", "(I)I"⟩
abbrev cM_count : ByteArray := prog_8_method_12_code
abbrev wM_count : List Cond := Cond.code yM_count cM_count 2 (Option.some Jvm.ClassFile.FieldType.int) :: wsG
abbrev yM_sample : MethodName := ⟨"ToothWheelTimerModel", "sample", "(II)Z"⟩
abbrev cM_sample : ByteArray := prog_8_method_13_code
abbrev wM_sample : List Cond := Cond.code yM_sample cM_sample 5 (Option.some Jvm.ClassFile.FieldType.boolean) :: wsG
abbrev yM_frame : MethodName := ⟨"ToothWheelTimerModel", "frame", "(II)J"⟩
abbrev cM_frame : ByteArray := prog_8_method_14_code
abbrev wM_frame : List Cond := Cond.code yM_frame cM_frame 3 (Option.some Jvm.ClassFile.FieldType.long) :: wsG
abbrev yM_clear : MethodName := ⟨"ToothWheelTimerModel", "clear", "()I"⟩
abbrev cM_clear : ByteArray := prog_8_method_15_code
abbrev wM_clear : List Cond := Cond.code yM_clear cM_clear 2 (Option.some Jvm.ClassFile.FieldType.int) :: wsG
abbrev yM_edge : MethodName := ⟨"ToothWheelTimerModel", "edge", "(I)I"⟩
abbrev cM_edge : ByteArray := prog_8_method_30_code
abbrev wM_edge : List Cond := Cond.code yM_edge cM_edge 2 (Option.some Jvm.ClassFile.FieldType.int) :: wsG
abbrev yM_oneEdge : MethodName := ⟨"ToothWheelTimerModel", "oneEdge", "(I)V"⟩
abbrev cM_oneEdge : ByteArray := prog_8_method_25_code
abbrev wM_oneEdge : List Cond := Cond.code yM_oneEdge cM_oneEdge 4 (Option.none : Option Jvm.ClassFile.FieldType) :: wsG
abbrev yM_advance : MethodName := ⟨"ToothWheelTimerModel", "advance", "(J)V"⟩
abbrev cM_advance : ByteArray := prog_8_method_20_code
abbrev wM_advance : List Cond := Cond.code yM_advance cM_advance 9 (Option.none : Option Jvm.ClassFile.FieldType) :: wsG
abbrev yM_nextEvent : MethodName := ⟨"ToothWheelTimerModel", "nextEvent", "()I"⟩
abbrev cM_nextEvent : ByteArray := prog_8_method_17_code
abbrev wM_nextEvent : List Cond := Cond.code yM_nextEvent cM_nextEvent 3 (Option.some Jvm.ClassFile.FieldType.int) :: wsG
abbrev yM_fire : MethodName := ⟨"ToothWheelTimerModel", "fire", "(I)V"⟩
abbrev cM_fire : ByteArray := prog_8_method_19_code
abbrev wM_fire : List Cond := Cond.code yM_fire cM_fire 5 (Option.none : Option Jvm.ClassFile.FieldType) :: wsG
abbrev yM_switched : MethodName := ⟨"ToothWheelTimerModel", "switched", "(ZIZ)V"⟩
abbrev cM_switched : ByteArray := prog_8_method_18_code
abbrev wM_switched : List Cond := Cond.code yM_switched cM_switched 5 (Option.none : Option Jvm.ClassFile.FieldType) :: wsG
abbrev yM_plan : MethodName := ⟨"ToothWheelTimerModel", "plan", "(IIJ)V"⟩
abbrev cM_plan : ByteArray := prog_8_method_16_code
abbrev wM_plan : List Cond := Cond.code yM_plan cM_plan 6 (Option.none : Option Jvm.ClassFile.FieldType) :: wsG
abbrev yM_amount : MethodName := ⟨"ToothWheelTimerModel", "amount", "()I"⟩
abbrev cM_amount : ByteArray := prog_8_method_8_code
abbrev wM_amount : List Cond := Cond.code yM_amount cM_amount 4 (Option.some Jvm.ClassFile.FieldType.int) :: wsG
abbrev yM_present : MethodName := ⟨"ToothWheelTimerModel", "present", "(I)I"⟩
abbrev cM_present : ByteArray := prog_8_method_7_code
abbrev wM_present : List Cond := Cond.code yM_present cM_present 5 (Option.some Jvm.ClassFile.FieldType.int) :: wsG
abbrev yM_lose : MethodName := ⟨"ToothWheelTimerModel", "lose", "(Z)V"⟩
abbrev cM_lose : ByteArray := prog_8_method_21_code
abbrev wM_lose : List Cond := Cond.code yM_lose cM_lose 3 (Option.none : Option Jvm.ClassFile.FieldType) :: wsG
abbrev yM_cease : MethodName := ⟨"ToothWheelTimerModel", "cease", "()V"⟩
abbrev cM_cease : ByteArray := prog_8_method_22_code
abbrev wM_cease : List Cond := Cond.code yM_cease cM_cease 2 (Option.none : Option Jvm.ClassFile.FieldType) :: wsG
abbrev yM_longInterval : MethodName := ⟨"ToothWheelTimerModel", "longInterval", "(J)V"⟩
abbrev cM_longInterval : ByteArray := prog_8_method_24_code
abbrev wM_longInterval : List Cond := Cond.code yM_longInterval cM_longInterval 5 (Option.none : Option Jvm.ClassFile.FieldType) :: wsG
abbrev yM_plainInterval : MethodName := ⟨"ToothWheelTimerModel", "plainInterval", "(J)V"⟩
abbrev cM_plainInterval : ByteArray := prog_8_method_23_code
abbrev wM_plainInterval : List Cond := Cond.code yM_plainInterval cM_plainInterval 4 (Option.none : Option Jvm.ClassFile.FieldType) :: wsG
abbrev yM_planAll : MethodName := ⟨"ToothWheelTimerModel", "planAll", "()V"⟩
abbrev cM_planAll : ByteArray := prog_8_method_29_code
abbrev wM_planAll : List Cond := Cond.code yM_planAll cM_planAll 6 (Option.none : Option Jvm.ClassFile.FieldType) :: wsG
abbrev yM_planIfNear : MethodName := ⟨"ToothWheelTimerModel", "planIfNear", "(III)V"⟩
abbrev cM_planIfNear : ByteArray := prog_8_method_28_code
abbrev wM_planIfNear : List Cond := Cond.code yM_planIfNear cM_planIfNear 5 (Option.none : Option Jvm.ClassFile.FieldType) :: wsG
abbrev yM_far : MethodName := ⟨"ToothWheelTimerModel", "far", "(I)I"⟩
abbrev cM_far : ByteArray := prog_8_method_27_code
abbrev wM_far : List Cond := Cond.code yM_far cM_far 4 (Option.some Jvm.ClassFile.FieldType.int) :: wsG
abbrev yM_angle : MethodName := ⟨"ToothWheelTimerModel", "angle", "()I"⟩
abbrev cM_angle : ByteArray := prog_8_method_26_code
abbrev wM_angle : List Cond := Cond.code yM_angle cM_angle 1 (Option.some Jvm.ClassFile.FieldType.int) :: wsG
abbrev yM_teeth : MethodName := ⟨"ToothWheelTimerModel", "teeth", "(II)I"⟩
abbrev cM_teeth : ByteArray := prog_8_method_31_code
abbrev wM_teeth : List Cond := Cond.code yM_teeth cM_teeth 4 (Option.some Jvm.ClassFile.FieldType.int) :: wsG
abbrev yM_cam : MethodName := ⟨"ToothWheelTimerModel", "cam", "()Z"⟩
abbrev cM_cam : ByteArray := prog_8_method_32_code
abbrev wM_cam : List Cond := Cond.code yM_cam cM_cam 1 (Option.some Jvm.ClassFile.FieldType.boolean) :: wsG
abbrev yM_rest : MethodName := ⟨"ToothWheelTimerModel", "rest", "(I)I"⟩
abbrev cM_rest : ByteArray := prog_8_method_33_code
abbrev wM_rest : List Cond := Cond.code yM_rest cM_rest 3 (Option.some Jvm.ClassFile.FieldType.int) :: wsG
abbrev yM_state : MethodName := ⟨"ToothWheelTimerModel", "state", "()I"⟩
abbrev cM_state : ByteArray := prog_8_method_34_code
abbrev wM_state : List Cond := Cond.code yM_state cM_state 1 (Option.some Jvm.ClassFile.FieldType.int) :: wsG
abbrev yM_tooth : MethodName := ⟨"ToothWheelTimerModel", "tooth", "()I"⟩
abbrev cM_tooth : ByteArray := prog_8_method_35_code
abbrev wM_tooth : List Cond := Cond.code yM_tooth cM_tooth 1 (Option.some Jvm.ClassFile.FieldType.int) :: wsG
abbrev yM_turn : MethodName := ⟨"ToothWheelTimerModel", "turn", "()I"⟩
abbrev cM_turn : ByteArray := prog_8_method_36_code
abbrev wM_turn : List Cond := Cond.code yM_turn cM_turn 1 (Option.some Jvm.ClassFile.FieldType.int) :: wsG
abbrev yM_unit : MethodName := ⟨"ToothWheelTimerModel", "unit", "()J"⟩
abbrev cM_unit : ByteArray := prog_8_method_37_code
abbrev wM_unit : List Cond := Cond.code yM_unit cM_unit 1 (Option.some Jvm.ClassFile.FieldType.long) :: wsG
abbrev yM_foretell : MethodName := ⟨"ToothWheelTimerModel", "foretell", "(I)J"⟩
abbrev cM_foretell : ByteArray := prog_8_method_38_code
abbrev wM_foretell : List Cond := Cond.code yM_foretell cM_foretell 3 (Option.some Jvm.ClassFile.FieldType.long) :: wsG
abbrev yM_output : MethodName := ⟨"ToothWheelTimerModel", "output", "(I)J"⟩
abbrev cM_output : ByteArray := prog_8_method_39_code
abbrev wM_output : List Cond := Cond.code yM_output cM_output 2 (Option.some Jvm.ClassFile.FieldType.long) :: wsG
abbrev yM_tally : MethodName := ⟨"ToothWheelTimerModel", "tally", "(I)I"⟩
abbrev cM_tally : ByteArray := prog_8_method_40_code
abbrev wM_tally : List Cond := Cond.code yM_tally cM_tally 2 (Option.some Jvm.ClassFile.FieldType.int) :: wsG
abbrev yM_waiting : MethodName := ⟨"ToothWheelTimerModel", "waiting", "()I"⟩
abbrev cM_waiting : ByteArray := prog_8_method_41_code
abbrev wM_waiting : List Cond := Cond.code yM_waiting cM_waiting 3 (Option.some Jvm.ClassFile.FieldType.int) :: wsG
abbrev yM_running : MethodName := ⟨"ToothWheelTimerModel", "running", "()I"⟩
abbrev cM_running : ByteArray := prog_8_method_42_code
abbrev wM_running : List Cond := Cond.code yM_running cM_running 3 (Option.some Jvm.ClassFile.FieldType.int) :: wsG
abbrev cL_law : ByteArray := code
