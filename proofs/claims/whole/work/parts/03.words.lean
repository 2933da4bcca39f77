/-! the words, by their places -/
def lw_gd : List Cond := lw_tbl.filter goodWord
def nstWord : Cond → Bool
  | .fieldLinkNest .. => true
  | .methodLinkNest .. => true
  | _ => false
def lw_nst : List Cond := lw_tbl.filter nstWord
theorem gd_in {w : Cond} (h : w ∈ lw_tbl) (hg : goodWord w = true) : w ∈ lw_gd := List.mem_filter.mpr ⟨h, hg⟩
theorem gd_tb {w : Cond} (h : w ∈ lw_gd) : w ∈ lw_tbl := (List.mem_filter.mp h).1
theorem rb1 {w : Cond} {i : Nat} (h0 : tables_1_1[i]? = some w) : w ∈ lw_tbl := by
  have h : w ∈ tables_1_1 := List.mem_of_getElem? h0
  exact List.mem_append_right _ (show w ∈ tables_1 from List.mem_append_left _ h)
theorem nb1 {w : Cond} {i : Nat} (h0 : tables_1_1[i]? = some w) (hg : nstWord w = true) : w ∈ lw_nst := List.mem_filter.mpr ⟨rb1 h0, hg⟩
theorem tb1 {w : Cond} {i : Nat} (h0 : tables_1_1[i]? = some w) (hg : goodWord w = true) : w ∈ lw_gd := by
  have h : w ∈ tables_1_1 := List.mem_of_getElem? h0
  exact gd_in (List.mem_append_right _ (show w ∈ tables_1 from List.mem_append_left _ h)) hg
theorem rb2 {w : Cond} {i : Nat} (h0 : tables_1_2[i]? = some w) : w ∈ lw_tbl := by
  have h : w ∈ tables_1_2 := List.mem_of_getElem? h0
  exact List.mem_append_right _ (show w ∈ tables_1 from List.mem_append_right _ (List.mem_append_left _ h))
theorem nb2 {w : Cond} {i : Nat} (h0 : tables_1_2[i]? = some w) (hg : nstWord w = true) : w ∈ lw_nst := List.mem_filter.mpr ⟨rb2 h0, hg⟩
theorem tb2 {w : Cond} {i : Nat} (h0 : tables_1_2[i]? = some w) (hg : goodWord w = true) : w ∈ lw_gd := by
  have h : w ∈ tables_1_2 := List.mem_of_getElem? h0
  exact gd_in (List.mem_append_right _ (show w ∈ tables_1 from List.mem_append_right _ (List.mem_append_left _ h))) hg
theorem rb3 {w : Cond} {i : Nat} (h0 : tables_1_3[i]? = some w) : w ∈ lw_tbl := by
  have h : w ∈ tables_1_3 := List.mem_of_getElem? h0
  exact List.mem_append_right _ (show w ∈ tables_1 from List.mem_append_right _ (List.mem_append_right _ (List.mem_append_left _ h)))
theorem nb3 {w : Cond} {i : Nat} (h0 : tables_1_3[i]? = some w) (hg : nstWord w = true) : w ∈ lw_nst := List.mem_filter.mpr ⟨rb3 h0, hg⟩
theorem tb3 {w : Cond} {i : Nat} (h0 : tables_1_3[i]? = some w) (hg : goodWord w = true) : w ∈ lw_gd := by
  have h : w ∈ tables_1_3 := List.mem_of_getElem? h0
  exact gd_in (List.mem_append_right _ (show w ∈ tables_1 from List.mem_append_right _ (List.mem_append_right _ (List.mem_append_left _ h)))) hg
theorem rb4 {w : Cond} {i : Nat} (h0 : tables_1_4[i]? = some w) : w ∈ lw_tbl := by
  have h : w ∈ tables_1_4 := List.mem_of_getElem? h0
  exact List.mem_append_right _ (show w ∈ tables_1 from List.mem_append_right _ (List.mem_append_right _ (List.mem_append_right _ (List.mem_append_left _ h))))
theorem nb4 {w : Cond} {i : Nat} (h0 : tables_1_4[i]? = some w) (hg : nstWord w = true) : w ∈ lw_nst := List.mem_filter.mpr ⟨rb4 h0, hg⟩
theorem tb4 {w : Cond} {i : Nat} (h0 : tables_1_4[i]? = some w) (hg : goodWord w = true) : w ∈ lw_gd := by
  have h : w ∈ tables_1_4 := List.mem_of_getElem? h0
  exact gd_in (List.mem_append_right _ (show w ∈ tables_1 from List.mem_append_right _ (List.mem_append_right _ (List.mem_append_right _ (List.mem_append_left _ h))))) hg
theorem rb5 {w : Cond} {i : Nat} (h0 : tables_1_5[i]? = some w) : w ∈ lw_tbl := by
  have h : w ∈ tables_1_5 := List.mem_of_getElem? h0
  exact List.mem_append_right _ (show w ∈ tables_1 from List.mem_append_right _ (List.mem_append_right _ (List.mem_append_right _ (List.mem_append_right _ (List.mem_append_left _ h)))))
theorem nb5 {w : Cond} {i : Nat} (h0 : tables_1_5[i]? = some w) (hg : nstWord w = true) : w ∈ lw_nst := List.mem_filter.mpr ⟨rb5 h0, hg⟩
theorem tb5 {w : Cond} {i : Nat} (h0 : tables_1_5[i]? = some w) (hg : goodWord w = true) : w ∈ lw_gd := by
  have h : w ∈ tables_1_5 := List.mem_of_getElem? h0
  exact gd_in (List.mem_append_right _ (show w ∈ tables_1 from List.mem_append_right _ (List.mem_append_right _ (List.mem_append_right _ (List.mem_append_right _ (List.mem_append_left _ h)))))) hg
theorem rb6 {w : Cond} {i : Nat} (h0 : tables_1_6[i]? = some w) : w ∈ lw_tbl := by
  have h : w ∈ tables_1_6 := List.mem_of_getElem? h0
  exact List.mem_append_right _ (show w ∈ tables_1 from List.mem_append_right _ (List.mem_append_right _ (List.mem_append_right _ (List.mem_append_right _ (List.mem_append_right _ (List.mem_append_left _ h))))))
theorem nb6 {w : Cond} {i : Nat} (h0 : tables_1_6[i]? = some w) (hg : nstWord w = true) : w ∈ lw_nst := List.mem_filter.mpr ⟨rb6 h0, hg⟩
theorem tb6 {w : Cond} {i : Nat} (h0 : tables_1_6[i]? = some w) (hg : goodWord w = true) : w ∈ lw_gd := by
  have h : w ∈ tables_1_6 := List.mem_of_getElem? h0
  exact gd_in (List.mem_append_right _ (show w ∈ tables_1 from List.mem_append_right _ (List.mem_append_right _ (List.mem_append_right _ (List.mem_append_right _ (List.mem_append_right _ (List.mem_append_left _ h))))))) hg
theorem rb7 {w : Cond} {i : Nat} (h0 : tables_1_7[i]? = some w) : w ∈ lw_tbl := by
  have h : w ∈ tables_1_7 := List.mem_of_getElem? h0
  exact List.mem_append_right _ (show w ∈ tables_1 from List.mem_append_right _ (List.mem_append_right _ (List.mem_append_right _ (List.mem_append_right _ (List.mem_append_right _ (List.mem_append_right _ (h)))))))
theorem nb7 {w : Cond} {i : Nat} (h0 : tables_1_7[i]? = some w) (hg : nstWord w = true) : w ∈ lw_nst := List.mem_filter.mpr ⟨rb7 h0, hg⟩
theorem tb7 {w : Cond} {i : Nat} (h0 : tables_1_7[i]? = some w) (hg : goodWord w = true) : w ∈ lw_gd := by
  have h : w ∈ tables_1_7 := List.mem_of_getElem? h0
  exact gd_in (List.mem_append_right _ (show w ∈ tables_1 from List.mem_append_right _ (List.mem_append_right _ (List.mem_append_right _ (List.mem_append_right _ (List.mem_append_right _ (List.mem_append_right _ (h)))))))) hg
theorem tbs {q : MethodName × Nat} {i : Nat} (h0 : lw_privs[i]? = some q) (hg : goodWord (Cond.selects q.1.cls q.1 q.1) = true) : Cond.selects q.1.cls q.1 q.1 ∈ lw_gd := gd_in (List.mem_append_left _ (List.mem_map.mpr ⟨q, List.mem_of_getElem? h0, rfl⟩)) hg
theorem w_0 : Cond.initialized RL ∈ lw_gd := tb1 (i := 0) rfl (by first | rfl | decide +kernel)
theorem w_1 : Cond.initialized RX10 ∈ lw_gd := tb1 (i := 1) rfl (by first | rfl | decide +kernel)
theorem w_2 : Cond.initialized RX5 ∈ lw_gd := tb1 (i := 2) rfl (by first | rfl | decide +kernel)
theorem w_3 : Cond.initialized RX3 ∈ lw_gd := tb1 (i := 3) rfl (by first | rfl | decide +kernel)
theorem w_4 : Cond.initialized RX8 ∈ lw_gd := tb1 (i := 4) rfl (by first | rfl | decide +kernel)
theorem w_5 : Cond.initialized RX0 ∈ lw_gd := tb1 (i := 5) rfl (by first | rfl | decide +kernel)
theorem w_6 : Cond.initialized RX9 ∈ lw_gd := tb1 (i := 6) rfl (by first | rfl | decide +kernel)
theorem w_7 : Cond.initialized RX7 ∈ lw_gd := tb1 (i := 7) rfl (by first | rfl | decide +kernel)
theorem w_8 : Cond.initialized RX2 ∈ lw_gd := tb1 (i := 8) rfl (by first | rfl | decide +kernel)
theorem w_9 : Cond.initialized RX4 ∈ lw_gd := tb1 (i := 9) rfl (by first | rfl | decide +kernel)
theorem w_10 : Cond.initialized RX1 ∈ lw_gd := tb1 (i := 10) rfl (by first | rfl | decide +kernel)
theorem w_11 : Cond.initialized RX6 ∈ lw_gd := tb1 (i := 11) rfl (by first | rfl | decide +kernel)
theorem w_12 : Cond.initialized RX11 ∈ lw_gd := tb1 (i := 12) rfl (by first | rfl | decide +kernel)
theorem w_13 : Cond.initialized RJ10 ∈ lw_gd := tb1 (i := 13) rfl (by first | rfl | decide +kernel)
theorem w_14 : Cond.initialized RJ0 ∈ lw_gd := tb1 (i := 14) rfl (by first | rfl | decide +kernel)
theorem w_15 : Cond.initialized RJ1 ∈ lw_gd := tb1 (i := 15) rfl (by first | rfl | decide +kernel)
theorem w_16 : Cond.initialized RJ3 ∈ lw_gd := tb1 (i := 16) rfl (by first | rfl | decide +kernel)
theorem w_17 : Cond.initialized RJ2 ∈ lw_gd := tb1 (i := 17) rfl (by first | rfl | decide +kernel)
theorem w_18 : Cond.initialized RJ9 ∈ lw_gd := tb1 (i := 18) rfl (by first | rfl | decide +kernel)
theorem w_19 : Cond.initialized RJ7 ∈ lw_gd := tb1 (i := 19) rfl (by first | rfl | decide +kernel)
theorem w_20 : Cond.initialized RJxd2413 ∈ lw_gd := tb1 (i := 20) rfl (by first | rfl | decide +kernel)
theorem w_21 : Cond.initialized RJ6 ∈ lw_gd := tb1 (i := 21) rfl (by first | rfl | decide +kernel)
theorem w_22 : Cond.initialized RJxf58ca ∈ lw_gd := tb1 (i := 22) rfl (by first | rfl | decide +kernel)
theorem w_23 : Cond.classLink RL 7 RX10 ∈ lw_gd := tb1 (i := 23) rfl (by first | rfl | decide +kernel)
theorem w_24 : Cond.instantiable RX10 13 ∈ lw_gd := tb1 (i := 24) rfl (by first | rfl | decide +kernel)
theorem w_25 : Cond.methodLink RL 9 (my mX10_init) ∈ lw_gd := tb1 (i := 25) rfl (by first | rfl | decide +kernel)
theorem w_26 : Cond.instanceMethod (my mX10_init) ∈ lw_gd := tb1 (i := 26) rfl (by first | rfl | decide +kernel)
theorem w_27 : Cond.code (my mX10_init) (mc mX10_init) (mL mX10_init) (mr mX10_init) ∈ lw_gd := tb1 (i := 27) rfl (by first | rfl | decide +kernel)
theorem w_28 : Cond.methodLink RX10 1 (⟨"java/lang/Object", "<init>", "()V"⟩ : MethodName) ∈ lw_gd := tb1 (i := 28) rfl (by first | rfl | decide +kernel)
theorem w_29 : Cond.instanceMethod (⟨"java/lang/Object", "<init>", "()V"⟩ : MethodName) ∈ lw_gd := tb1 (i := 29) rfl (by first | rfl | decide +kernel)
theorem w_30 : Cond.code (⟨"java/lang/Object", "<init>", "()V"⟩ : MethodName) object_method_1_code 1 (Option.none : Option Jvm.ClassFile.FieldType) ∈ lw_gd := tb1 (i := 30) rfl (by first | rfl | decide +kernel)
theorem w_31 : Cond.classLink RX10 7 RX5 ∈ lw_gd := tb1 (i := 31) rfl (by first | rfl | decide +kernel)
theorem w_32 : Cond.instantiable RX5 9 ∈ lw_gd := tb1 (i := 32) rfl (by first | rfl | decide +kernel)
theorem w_33 : Cond.methodLinkNest RX10 9 (my mX5_init) RX10 ∈ lw_nst := nb1 (i := 33) rfl rfl
theorem w_34 : Cond.instanceMethod (my mX5_init) ∈ lw_gd := tb1 (i := 34) rfl (by first | rfl | decide +kernel)
theorem w_35 : Cond.code (my mX5_init) (mc mX5_init) (mL mX5_init) (mr mX5_init) ∈ lw_gd := tb1 (i := 35) rfl (by first | rfl | decide +kernel)
theorem w_36 : Cond.methodLink RX5 3 (⟨"java/lang/Object", "<init>", "()V"⟩ : MethodName) ∈ lw_gd := tb1 (i := 36) rfl (by first | rfl | decide +kernel)
theorem w_37 : Cond.classLink RX5 25 RX3 ∈ lw_gd := tb1 (i := 37) rfl (by first | rfl | decide +kernel)
theorem w_38 : Cond.arrayOver (Jvm.ClassFile.FieldType.object "PlantsCommitted$Plant") ∈ lw_tbl := rb1 (i := 38) rfl
theorem w_39 : Cond.instantiable RX3 10 ∈ lw_gd := tb1 (i := 39) rfl (by first | rfl | decide +kernel)
theorem w_40 : Cond.methodLinkNest RX5 44 (my mX3_init) RX10 ∈ lw_nst := nb1 (i := 40) rfl rfl
theorem w_41 : Cond.instanceMethod (my mX3_init) ∈ lw_gd := tb1 (i := 41) rfl (by first | rfl | decide +kernel)
theorem w_42 : Cond.code (my mX3_init) (mc mX3_init) (mL mX3_init) (mr mX3_init) ∈ lw_gd := tb1 (i := 42) rfl (by first | rfl | decide +kernel)
theorem w_43 : Cond.methodLink RX3 3 (⟨"java/lang/Object", "<init>", "()V"⟩ : MethodName) ∈ lw_gd := tb1 (i := 43) rfl (by first | rfl | decide +kernel)
theorem w_44 : Cond.fieldLink RX3 9 RX3 "kind" "I" ∈ lw_gd := tb1 (i := 44) rfl (by first | rfl | decide +kernel)
theorem w_45 : Cond.fieldLinkNest RX10 280 RX3 "kind" "I" RX10 ∈ lw_nst := nb1 (i := 45) rfl rfl
theorem w_46 : Cond.fieldLink RX3 15 RX3 "figure" "I" ∈ lw_gd := tb1 (i := 46) rfl (by first | rfl | decide +kernel)
theorem w_47 : Cond.fieldLinkNest RX10 283 RX3 "figure" "I" RX10 ∈ lw_nst := nb1 (i := 47) rfl rfl
theorem w_48 : Cond.fieldLink RX3 18 RX3 "low" "I" ∈ lw_gd := tb1 (i := 48) rfl (by first | rfl | decide +kernel)
theorem w_49 : Cond.fieldLinkNest RX5 66 RX3 "low" "I" RX10 ∈ lw_nst := nb1 (i := 49) rfl rfl
theorem w_50 : Cond.fieldLink RX3 21 RX3 "high" "I" ∈ lw_gd := tb1 (i := 50) rfl (by first | rfl | decide +kernel)
theorem w_51 : Cond.fieldLinkNest RX0 63 RX3 "high" "I" RX10 ∈ lw_nst := nb1 (i := 51) rfl rfl
theorem w_52 : Cond.fieldLinkNest RX5 69 RX3 "high" "I" RX10 ∈ lw_nst := nb1 (i := 52) rfl rfl
theorem w_53 : Cond.fieldLink RX3 24 RX3 "price" "I" ∈ lw_gd := tb1 (i := 53) rfl (by first | rfl | decide +kernel)
theorem w_54 : Cond.fieldLinkNest RX0 52 RX3 "price" "I" RX10 ∈ lw_nst := nb1 (i := 54) rfl rfl
theorem w_55 : Cond.fieldLinkNest RX2 84 RX3 "price" "I" RX10 ∈ lw_nst := nb1 (i := 55) rfl rfl
theorem w_56 : Cond.fieldLinkNest RX5 72 RX3 "price" "I" RX10 ∈ lw_nst := nb1 (i := 56) rfl rfl
theorem w_57 : Cond.fieldLink RX3 27 RX3 "keep" "I" ∈ lw_gd := tb1 (i := 57) rfl (by first | rfl | decide +kernel)
theorem w_58 : Cond.fieldLinkNest RX0 54 RX3 "keep" "I" RX10 ∈ lw_nst := nb1 (i := 58) rfl rfl
theorem w_59 : Cond.fieldLinkNest RX2 77 RX3 "keep" "I" RX10 ∈ lw_nst := nb1 (i := 59) rfl rfl
theorem w_60 : Cond.fieldLinkNest RX5 74 RX3 "keep" "I" RX10 ∈ lw_nst := nb1 (i := 60) rfl rfl
theorem w_61 : Cond.fieldLink RX3 30 RX3 "start" "I" ∈ lw_gd := tb1 (i := 61) rfl (by first | rfl | decide +kernel)
theorem w_62 : Cond.fieldLinkNest RX5 77 RX3 "start" "I" RX10 ∈ lw_nst := nb1 (i := 62) rfl rfl
theorem w_63 : Cond.fieldLinkNest RX10 286 RX3 "start" "I" RX10 ∈ lw_nst := nb1 (i := 63) rfl rfl
theorem w_64 : Cond.fieldLink RX3 33 RX3 "up" "I" ∈ lw_gd := tb1 (i := 64) rfl (by first | rfl | decide +kernel)
theorem w_65 : Cond.fieldLinkNest RX7 126 RX3 "up" "I" RX10 ∈ lw_nst := nb1 (i := 65) rfl rfl
theorem w_66 : Cond.fieldLinkNest RX5 80 RX3 "up" "I" RX10 ∈ lw_nst := nb1 (i := 66) rfl rfl
theorem w_67 : Cond.fieldLink RX3 36 RX3 "down" "I" ∈ lw_gd := tb1 (i := 67) rfl (by first | rfl | decide +kernel)
theorem w_68 : Cond.fieldLinkNest RX7 123 RX3 "down" "I" RX10 ∈ lw_nst := nb1 (i := 68) rfl rfl
theorem w_69 : Cond.fieldLinkNest RX5 83 RX3 "down" "I" RX10 ∈ lw_nst := nb1 (i := 69) rfl rfl
theorem w_70 : Cond.fieldLinkNest RX9 39 RX3 "age" "I" RX10 ∈ lw_nst := nb1 (i := 70) rfl rfl
theorem w_71 : Cond.fieldLink RX3 39 RX3 "age" "I" ∈ lw_gd := tb1 (i := 71) rfl (by first | rfl | decide +kernel)
theorem w_72 : Cond.fieldLinkNest RX2 68 RX3 "age" "I" RX10 ∈ lw_nst := nb1 (i := 72) rfl rfl
theorem w_73 : Cond.fieldLinkNest RX7 140 RX3 "age" "I" RX10 ∈ lw_nst := nb1 (i := 73) rfl rfl
theorem w_74 : Cond.fieldLinkNest RX5 86 RX3 "age" "I" RX10 ∈ lw_nst := nb1 (i := 74) rfl rfl
theorem w_75 : Cond.lays "PlantsCommitted$Plant" "PlantsCommitted$Plant" "kind" "I" ∈ lw_gd := tb1 (i := 75) rfl (by first | rfl | decide +kernel)
theorem w_77 : Cond.lays "PlantsCommitted$Plant" "PlantsCommitted$Plant" "figure" "I" ∈ lw_gd := tb1 (i := 77) rfl (by first | rfl | decide +kernel)
theorem w_79 : Cond.lays "PlantsCommitted$Plant" "PlantsCommitted$Plant" "low" "I" ∈ lw_gd := tb1 (i := 79) rfl (by first | rfl | decide +kernel)
theorem w_81 : Cond.lays "PlantsCommitted$Plant" "PlantsCommitted$Plant" "high" "I" ∈ lw_gd := tb1 (i := 81) rfl (by first | rfl | decide +kernel)
theorem w_83 : Cond.lays "PlantsCommitted$Plant" "PlantsCommitted$Plant" "price" "I" ∈ lw_gd := tb1 (i := 83) rfl (by first | rfl | decide +kernel)
theorem w_85 : Cond.lays "PlantsCommitted$Plant" "PlantsCommitted$Plant" "keep" "I" ∈ lw_gd := tb1 (i := 85) rfl (by first | rfl | decide +kernel)
theorem w_87 : Cond.lays "PlantsCommitted$Plant" "PlantsCommitted$Plant" "start" "I" ∈ lw_gd := tb1 (i := 87) rfl (by first | rfl | decide +kernel)
theorem w_89 : Cond.lays "PlantsCommitted$Plant" "PlantsCommitted$Plant" "up" "I" ∈ lw_gd := tb1 (i := 89) rfl (by first | rfl | decide +kernel)
theorem w_91 : Cond.lays "PlantsCommitted$Plant" "PlantsCommitted$Plant" "down" "I" ∈ lw_gd := tb1 (i := 91) rfl (by first | rfl | decide +kernel)
theorem w_93 : Cond.lays "PlantsCommitted$Plant" "PlantsCommitted$Plant" "age" "I" ∈ lw_gd := tb1 (i := 93) rfl (by first | rfl | decide +kernel)
theorem w_95 : Cond.superclass "PlantsCommitted$Plant" "java/lang/Object" ∈ lw_gd := tb1 (i := 95) rfl (by first | rfl | decide +kernel)
theorem w_96 : Cond.arrayClass Jvm.ClassFile.FieldType.int ∈ lw_gd := tb1 (i := 96) rfl (by first | rfl | decide +kernel)
theorem w_97 : Cond.fieldLink RX5 9 RX5 "span" "I" ∈ lw_gd := tb1 (i := 97) rfl (by first | rfl | decide +kernel)
theorem w_98 : Cond.fieldLinkNest RX4 38 RX5 "span" "I" RX10 ∈ lw_nst := nb1 (i := 98) rfl rfl
theorem w_99 : Cond.fieldLinkNest RX2 57 RX5 "span" "I" RX10 ∈ lw_nst := nb1 (i := 99) rfl rfl
theorem w_100 : Cond.fieldLinkNest RX7 90 RX5 "span" "I" RX10 ∈ lw_nst := nb1 (i := 100) rfl rfl
theorem w_101 : Cond.fieldLinkNest RX10 160 RX5 "span" "I" RX10 ∈ lw_nst := nb1 (i := 101) rfl rfl
theorem w_102 : Cond.fieldLink RX5 15 RX5 "demand" "[I" ∈ lw_gd := tb1 (i := 102) rfl (by first | rfl | decide +kernel)
theorem w_103 : Cond.fieldLinkNest RX7 56 RX5 "demand" "[I" RX10 ∈ lw_nst := nb1 (i := 103) rfl rfl
theorem w_104 : Cond.fieldLinkNest RX9 52 RX5 "demand" "[I" RX10 ∈ lw_nst := nb1 (i := 104) rfl rfl
theorem w_105 : Cond.fieldLinkNest RX2 98 RX5 "demand" "[I" RX10 ∈ lw_nst := nb1 (i := 105) rfl rfl
theorem w_106 : Cond.fieldLinkNest RX10 176 RX5 "demand" "[I" RX10 ∈ lw_nst := nb1 (i := 106) rfl rfl
theorem w_107 : Cond.fieldLink RX5 19 RX5 "reserve" "[I" ∈ lw_gd := tb1 (i := 107) rfl (by first | rfl | decide +kernel)
theorem w_108 : Cond.fieldLinkNest RX7 65 RX5 "reserve" "[I" RX10 ∈ lw_nst := nb1 (i := 108) rfl rfl
theorem w_109 : Cond.fieldLinkNest RX9 55 RX5 "reserve" "[I" RX10 ∈ lw_nst := nb1 (i := 109) rfl rfl
theorem w_110 : Cond.fieldLinkNest RX10 179 RX5 "reserve" "[I" RX10 ∈ lw_nst := nb1 (i := 110) rfl rfl
theorem w_111 : Cond.fieldLink RX5 22 RX5 "price" "[I" ∈ lw_gd := tb1 (i := 111) rfl (by first | rfl | decide +kernel)
theorem w_112 : Cond.fieldLinkNest RX2 31 RX5 "price" "[I" RX10 ∈ lw_nst := nb1 (i := 112) rfl rfl
theorem w_113 : Cond.fieldLinkNest RX10 246 RX5 "price" "[I" RX10 ∈ lw_nst := nb1 (i := 113) rfl rfl
theorem w_114 : Cond.fieldLink RX5 27 RX5 "plants" "[LPlantsCommitted$Plant;" ∈ lw_gd := tb1 (i := 114) rfl (by first | rfl | decide +kernel)
theorem w_115 : Cond.fieldLinkNest RX0 40 RX5 "plants" "[LPlantsCommitted$Plant;" RX10 ∈ lw_nst := nb1 (i := 115) rfl rfl
theorem w_116 : Cond.fieldLinkNest RX9 35 RX5 "plants" "[LPlantsCommitted$Plant;" RX10 ∈ lw_nst := nb1 (i := 116) rfl rfl
theorem w_117 : Cond.fieldLinkNest RX2 52 RX5 "plants" "[LPlantsCommitted$Plant;" RX10 ∈ lw_nst := nb1 (i := 117) rfl rfl
theorem w_118 : Cond.fieldLinkNest RX7 75 RX5 "plants" "[LPlantsCommitted$Plant;" RX10 ∈ lw_nst := nb1 (i := 118) rfl rfl
theorem w_119 : Cond.fieldLinkNest RX10 148 RX5 "plants" "[LPlantsCommitted$Plant;" RX10 ∈ lw_nst := nb1 (i := 119) rfl rfl
theorem w_120 : Cond.fieldLink RX5 31 RX5 "many" "I" ∈ lw_gd := tb1 (i := 120) rfl (by first | rfl | decide +kernel)
theorem w_121 : Cond.fieldLinkNest RX0 37 RX5 "many" "I" RX10 ∈ lw_nst := nb1 (i := 121) rfl rfl
theorem w_122 : Cond.fieldLinkNest RX9 29 RX5 "many" "I" RX10 ∈ lw_nst := nb1 (i := 122) rfl rfl
theorem w_123 : Cond.fieldLinkNest RX7 66 RX5 "many" "I" RX10 ∈ lw_nst := nb1 (i := 123) rfl rfl
theorem w_124 : Cond.fieldLinkNest RX4 44 RX5 "many" "I" RX10 ∈ lw_nst := nb1 (i := 124) rfl rfl
theorem w_125 : Cond.fieldLinkNest RX2 48 RX5 "many" "I" RX10 ∈ lw_nst := nb1 (i := 125) rfl rfl
theorem w_126 : Cond.fieldLinkNest RX10 223 RX5 "many" "I" RX10 ∈ lw_nst := nb1 (i := 126) rfl rfl
theorem w_127 : Cond.fieldLink RX5 34 RX5 "merit" "I" ∈ lw_gd := tb1 (i := 127) rfl (by first | rfl | decide +kernel)
theorem w_128 : Cond.fieldLinkNest RX0 56 RX5 "merit" "I" RX10 ∈ lw_nst := nb1 (i := 128) rfl rfl
theorem w_129 : Cond.fieldLinkNest RX10 141 RX5 "merit" "I" RX10 ∈ lw_nst := nb1 (i := 129) rfl rfl
theorem w_130 : Cond.fieldLink RX5 37 RX5 "step" "I" ∈ lw_gd := tb1 (i := 130) rfl (by first | rfl | decide +kernel)
theorem w_131 : Cond.fieldLinkNest RX2 110 RX5 "step" "I" RX10 ∈ lw_nst := nb1 (i := 131) rfl rfl
theorem w_132 : Cond.fieldLinkNest RX10 249 RX5 "step" "I" RX10 ∈ lw_nst := nb1 (i := 132) rfl rfl
theorem w_133 : Cond.fieldLink RX5 40 RX5 "purse" "J" ∈ lw_gd := tb1 (i := 133) rfl (by first | rfl | decide +kernel)
theorem w_134 : Cond.fieldLinkNest RX10 307 RX5 "purse" "J" RX10 ∈ lw_nst := nb1 (i := 134) rfl rfl
theorem w_135 : Cond.lays "PlantsCommitted$Scene" "PlantsCommitted$Scene" "span" "I" ∈ lw_gd := tb1 (i := 135) rfl (by first | rfl | decide +kernel)
theorem w_137 : Cond.laysFinal "PlantsCommitted$Scene" "PlantsCommitted$Scene" "demand" "[I" ∈ lw_gd := tb1 (i := 137) rfl (by first | rfl | decide +kernel)
theorem w_139 : Cond.laysFinal "PlantsCommitted$Scene" "PlantsCommitted$Scene" "reserve" "[I" ∈ lw_gd := tb1 (i := 139) rfl (by first | rfl | decide +kernel)
theorem w_141 : Cond.laysFinal "PlantsCommitted$Scene" "PlantsCommitted$Scene" "price" "[I" ∈ lw_gd := tb1 (i := 141) rfl (by first | rfl | decide +kernel)
theorem w_143 : Cond.laysFinal "PlantsCommitted$Scene" "PlantsCommitted$Scene" "plants" "[LPlantsCommitted$Plant;" ∈ lw_gd := tb1 (i := 143) rfl (by first | rfl | decide +kernel)
theorem w_145 : Cond.lays "PlantsCommitted$Scene" "PlantsCommitted$Scene" "many" "I" ∈ lw_gd := tb1 (i := 145) rfl (by first | rfl | decide +kernel)
theorem w_147 : Cond.lays "PlantsCommitted$Scene" "PlantsCommitted$Scene" "merit" "I" ∈ lw_gd := tb1 (i := 147) rfl (by first | rfl | decide +kernel)
theorem w_149 : Cond.lays "PlantsCommitted$Scene" "PlantsCommitted$Scene" "step" "I" ∈ lw_gd := tb1 (i := 149) rfl (by first | rfl | decide +kernel)
theorem w_151 : Cond.lays "PlantsCommitted$Scene" "PlantsCommitted$Scene" "purse" "J" ∈ lw_gd := tb1 (i := 151) rfl (by first | rfl | decide +kernel)
theorem w_153 : Cond.superclass "PlantsCommitted$Scene" "java/lang/Object" ∈ lw_gd := tb1 (i := 153) rfl (by first | rfl | decide +kernel)
theorem w_154 : Cond.classLink RX10 26 RX8 ∈ lw_gd := tb1 (i := 154) rfl (by first | rfl | decide +kernel)
theorem w_155 : Cond.instantiable RX8 5 ∈ lw_gd := tb1 (i := 155) rfl (by first | rfl | decide +kernel)
theorem w_156 : Cond.methodLinkNest RX10 28 (my mX8_init) RX10 ∈ lw_nst := nb1 (i := 156) rfl rfl
theorem w_157 : Cond.instanceMethod (my mX8_init) ∈ lw_gd := tb1 (i := 157) rfl (by first | rfl | decide +kernel)
theorem w_158 : Cond.code (my mX8_init) (mc mX8_init) (mL mX8_init) (mr mX8_init) ∈ lw_gd := tb1 (i := 158) rfl (by first | rfl | decide +kernel)
theorem w_159 : Cond.methodLink RX8 3 (⟨"java/lang/Object", "<init>", "()V"⟩ : MethodName) ∈ lw_gd := tb1 (i := 159) rfl (by first | rfl | decide +kernel)
theorem w_160 : Cond.fieldLink RX8 9 RX8 "letters" "[I" ∈ lw_gd := tb1 (i := 160) rfl (by first | rfl | decide +kernel)
theorem w_161 : Cond.fieldLink RX8 15 RX8 "many" "I" ∈ lw_gd := tb1 (i := 161) rfl (by first | rfl | decide +kernel)
theorem w_162 : Cond.fieldLinkNest RX10 96 RX8 "many" "I" RX10 ∈ lw_nst := nb1 (i := 162) rfl rfl
theorem w_163 : Cond.fieldLink RX8 19 RX8 "at" "I" ∈ lw_gd := tb1 (i := 163) rfl (by first | rfl | decide +kernel)
theorem w_164 : Cond.fieldLink RX8 22 RX8 "sign" "I" ∈ lw_gd := tb1 (i := 164) rfl (by first | rfl | decide +kernel)
theorem w_165 : Cond.fieldLink RX8 25 RX8 "numbers" "[I" ∈ lw_gd := tb1 (i := 165) rfl (by first | rfl | decide +kernel)
theorem w_166 : Cond.laysFinal "PlantsCommitted$Teller" "PlantsCommitted$Teller" "letters" "[I" ∈ lw_gd := tb1 (i := 166) rfl (by first | rfl | decide +kernel)
theorem w_168 : Cond.lays "PlantsCommitted$Teller" "PlantsCommitted$Teller" "many" "I" ∈ lw_gd := tb1 (i := 168) rfl (by first | rfl | decide +kernel)
theorem w_170 : Cond.lays "PlantsCommitted$Teller" "PlantsCommitted$Teller" "at" "I" ∈ lw_gd := tb1 (i := 170) rfl (by first | rfl | decide +kernel)
theorem w_172 : Cond.lays "PlantsCommitted$Teller" "PlantsCommitted$Teller" "sign" "I" ∈ lw_gd := tb1 (i := 172) rfl (by first | rfl | decide +kernel)
theorem w_174 : Cond.laysFinal "PlantsCommitted$Teller" "PlantsCommitted$Teller" "numbers" "[I" ∈ lw_gd := tb1 (i := 174) rfl (by first | rfl | decide +kernel)
theorem w_176 : Cond.superclass "PlantsCommitted$Teller" "java/lang/Object" ∈ lw_gd := tb1 (i := 176) rfl (by first | rfl | decide +kernel)
theorem w_177 : Cond.classLink RX10 33 RX0 ∈ lw_gd := tb1 (i := 177) rfl (by first | rfl | decide +kernel)
theorem w_178 : Cond.instantiable RX0 8 ∈ lw_gd := tb1 (i := 178) rfl (by first | rfl | decide +kernel)
theorem w_179 : Cond.methodLinkNest RX10 35 (my mX0_init) RX10 ∈ lw_nst := nb1 (i := 179) rfl rfl
theorem w_180 : Cond.instanceMethod (my mX0_init) ∈ lw_gd := tb1 (i := 180) rfl (by first | rfl | decide +kernel)
theorem w_181 : Cond.code (my mX0_init) (mc mX0_init) (mL mX0_init) (mr mX0_init) ∈ lw_gd := tb1 (i := 181) rfl (by first | rfl | decide +kernel)
theorem w_182 : Cond.methodLink RX0 3 (⟨"java/lang/Object", "<init>", "()V"⟩ : MethodName) ∈ lw_gd := tb1 (i := 182) rfl (by first | rfl | decide +kernel)
theorem w_183 : Cond.fieldLink RX0 9 RX0 "order" "[I" ∈ lw_gd := tb1 (i := 183) rfl (by first | rfl | decide +kernel)
theorem w_184 : Cond.fieldLink RX0 15 RX0 "least" "[I" ∈ lw_gd := tb1 (i := 184) rfl (by first | rfl | decide +kernel)
theorem w_185 : Cond.fieldLink RX0 18 RX0 "most" "[I" ∈ lw_gd := tb1 (i := 185) rfl (by first | rfl | decide +kernel)
theorem w_186 : Cond.fieldLink RX0 21 RX0 "mostAtFirst" "[I" ∈ lw_gd := tb1 (i := 186) rfl (by first | rfl | decide +kernel)
theorem w_187 : Cond.fieldLink RX0 24 RX0 "price" "[I" ∈ lw_gd := tb1 (i := 187) rfl (by first | rfl | decide +kernel)
theorem w_188 : Cond.fieldLink RX0 27 RX0 "keep" "[I" ∈ lw_gd := tb1 (i := 188) rfl (by first | rfl | decide +kernel)
theorem w_189 : Cond.fieldLink RX0 30 RX0 "shares" "[I" ∈ lw_gd := tb1 (i := 189) rfl (by first | rfl | decide +kernel)
theorem w_190 : Cond.fieldLinkNest RX10 185 RX0 "shares" "[I" RX10 ∈ lw_nst := nb1 (i := 190) rfl rfl
theorem w_191 : Cond.fieldLink RX0 33 RX0 "many" "I" ∈ lw_gd := tb1 (i := 191) rfl (by first | rfl | decide +kernel)
theorem w_192 : Cond.laysFinal "PlantsCommitted$Dispatch" "PlantsCommitted$Dispatch" "order" "[I" ∈ lw_gd := tb1 (i := 192) rfl (by first | rfl | decide +kernel)
theorem w_194 : Cond.laysFinal "PlantsCommitted$Dispatch" "PlantsCommitted$Dispatch" "least" "[I" ∈ lw_gd := tb1 (i := 194) rfl (by first | rfl | decide +kernel)
theorem w_196 : Cond.laysFinal "PlantsCommitted$Dispatch" "PlantsCommitted$Dispatch" "most" "[I" ∈ lw_gd := tb1 (i := 196) rfl (by first | rfl | decide +kernel)
theorem w_198 : Cond.laysFinal "PlantsCommitted$Dispatch" "PlantsCommitted$Dispatch" "mostAtFirst" "[I" ∈ lw_gd := tb1 (i := 198) rfl (by first | rfl | decide +kernel)
theorem w_200 : Cond.laysFinal "PlantsCommitted$Dispatch" "PlantsCommitted$Dispatch" "price" "[I" ∈ lw_gd := tb1 (i := 200) rfl (by first | rfl | decide +kernel)
theorem w_202 : Cond.laysFinal "PlantsCommitted$Dispatch" "PlantsCommitted$Dispatch" "keep" "[I" ∈ lw_gd := tb1 (i := 202) rfl (by first | rfl | decide +kernel)
theorem w_204 : Cond.laysFinal "PlantsCommitted$Dispatch" "PlantsCommitted$Dispatch" "shares" "[I" ∈ lw_gd := tb1 (i := 204) rfl (by first | rfl | decide +kernel)
theorem w_206 : Cond.lays "PlantsCommitted$Dispatch" "PlantsCommitted$Dispatch" "many" "I" ∈ lw_gd := tb1 (i := 206) rfl (by first | rfl | decide +kernel)
theorem w_208 : Cond.superclass "PlantsCommitted$Dispatch" "java/lang/Object" ∈ lw_gd := tb1 (i := 208) rfl (by first | rfl | decide +kernel)
theorem w_209 : Cond.classLink RX10 40 RX9 ∈ lw_gd := tb1 (i := 209) rfl (by first | rfl | decide +kernel)
theorem w_210 : Cond.instantiable RX9 3 ∈ lw_gd := tb1 (i := 210) rfl (by first | rfl | decide +kernel)
theorem w_211 : Cond.methodLinkNest RX10 42 (my mX9_init) RX10 ∈ lw_nst := nb1 (i := 211) rfl rfl
theorem w_212 : Cond.instanceMethod (my mX9_init) ∈ lw_gd := tb1 (i := 212) rfl (by first | rfl | decide +kernel)
theorem w_213 : Cond.code (my mX9_init) (mc mX9_init) (mL mX9_init) (mr mX9_init) ∈ lw_gd := tb1 (i := 213) rfl (by first | rfl | decide +kernel)
theorem w_214 : Cond.methodLink RX9 3 (⟨"java/lang/Object", "<init>", "()V"⟩ : MethodName) ∈ lw_gd := tb1 (i := 214) rfl (by first | rfl | decide +kernel)
theorem w_215 : Cond.fieldLink RX9 19 RX9 "dispatch" "LPlantsCommitted$Dispatch;" ∈ lw_gd := tb1 (i := 215) rfl (by first | rfl | decide +kernel)
theorem w_216 : Cond.fieldLink RX9 15 RX9 "scene" "LPlantsCommitted$Scene;" ∈ lw_gd := tb1 (i := 216) rfl (by first | rfl | decide +kernel)
theorem w_217 : Cond.fieldLink RX9 9 RX9 "ages" "[I" ∈ lw_gd := tb1 (i := 217) rfl (by first | rfl | decide +kernel)
theorem w_218 : Cond.laysFinal "PlantsCommitted$Walk" "PlantsCommitted$Walk" "dispatch" "LPlantsCommitted$Dispatch;" ∈ lw_gd := tb1 (i := 218) rfl (by first | rfl | decide +kernel)
theorem w_220 : Cond.laysFinal "PlantsCommitted$Walk" "PlantsCommitted$Walk" "scene" "LPlantsCommitted$Scene;" ∈ lw_gd := tb1 (i := 220) rfl (by first | rfl | decide +kernel)
theorem w_222 : Cond.laysFinal "PlantsCommitted$Walk" "PlantsCommitted$Walk" "ages" "[I" ∈ lw_gd := tb1 (i := 222) rfl (by first | rfl | decide +kernel)
theorem w_224 : Cond.superclass "PlantsCommitted$Walk" "java/lang/Object" ∈ lw_gd := tb1 (i := 224) rfl (by first | rfl | decide +kernel)
theorem w_225 : Cond.classLink RX10 49 RX7 ∈ lw_gd := tb1 (i := 225) rfl (by first | rfl | decide +kernel)
theorem w_226 : Cond.instantiable RX7 13 ∈ lw_gd := tb1 (i := 226) rfl (by first | rfl | decide +kernel)
theorem w_227 : Cond.methodLinkNest RX10 51 (my mX7_init) RX10 ∈ lw_nst := nb1 (i := 227) rfl rfl
theorem w_228 : Cond.instanceMethod (my mX7_init) ∈ lw_gd := tb1 (i := 228) rfl (by first | rfl | decide +kernel)
theorem w_229 : Cond.code (my mX7_init) (mc mX7_init) (mL mX7_init) (mr mX7_init) ∈ lw_gd := tb1 (i := 229) rfl (by first | rfl | decide +kernel)
theorem w_230 : Cond.methodLink RX7 3 (⟨"java/lang/Object", "<init>", "()V"⟩ : MethodName) ∈ lw_gd := tb1 (i := 230) rfl (by first | rfl | decide +kernel)
theorem w_231 : Cond.classLink RX7 28 "[[I" ∈ lw_gd := tb1 (i := 231) rfl (by first | rfl | decide +kernel)
theorem w_232 : Cond.arrayOver (Jvm.ClassFile.FieldType.array Jvm.ClassFile.FieldType.int) ∈ lw_tbl := rb1 (i := 232) rfl
theorem w_233 : Cond.fieldLink RX7 52 RX7 "dispatch" "LPlantsCommitted$Dispatch;" ∈ lw_gd := tb1 (i := 233) rfl (by first | rfl | decide +kernel)
theorem w_234 : Cond.fieldLink RX7 48 RX7 "scene" "LPlantsCommitted$Scene;" ∈ lw_gd := tb1 (i := 234) rfl (by first | rfl | decide +kernel)
theorem w_235 : Cond.fieldLink RX7 9 RX7 "demand" "[I" ∈ lw_gd := tb1 (i := 235) rfl (by first | rfl | decide +kernel)
theorem w_236 : Cond.fieldLinkNest RX10 206 RX7 "demand" "[I" RX10 ∈ lw_nst := nb1 (i := 236) rfl rfl
theorem w_237 : Cond.fieldLink RX7 15 RX7 "reserve" "[I" ∈ lw_gd := tb1 (i := 237) rfl (by first | rfl | decide +kernel)
theorem w_238 : Cond.fieldLinkNest RX10 341 RX7 "reserve" "[I" RX10 ∈ lw_nst := nb1 (i := 238) rfl rfl
theorem w_239 : Cond.fieldLink RX7 18 RX7 "there" "I" ∈ lw_gd := tb1 (i := 239) rfl (by first | rfl | decide +kernel)
theorem w_240 : Cond.fieldLinkNest RX10 213 RX7 "there" "I" RX10 ∈ lw_nst := nb2 (i := 0) rfl rfl
theorem w_241 : Cond.fieldLink RX7 22 RX7 "rows" "[I" ∈ lw_gd := tb2 (i := 1) rfl (by first | rfl | decide +kernel)
theorem w_242 : Cond.fieldLinkNest RX10 191 RX7 "rows" "[I" RX10 ∈ lw_nst := nb2 (i := 2) rfl rfl
theorem w_243 : Cond.fieldLink RX7 25 RX7 "states" "[I" ∈ lw_gd := tb2 (i := 3) rfl (by first | rfl | decide +kernel)
theorem w_244 : Cond.fieldLink RX7 30 RX7 "to" "[[I" ∈ lw_gd := tb2 (i := 4) rfl (by first | rfl | decide +kernel)
theorem w_245 : Cond.fieldLink RX7 33 RX7 "mode" "[[I" ∈ lw_gd := tb2 (i := 5) rfl (by first | rfl | decide +kernel)
theorem w_246 : Cond.fieldLink RX7 36 RX7 "toll" "[[I" ∈ lw_gd := tb2 (i := 6) rfl (by first | rfl | decide +kernel)
theorem w_247 : Cond.fieldLink RX7 39 RX7 "hourCosts" "[I" ∈ lw_gd := tb2 (i := 7) rfl (by first | rfl | decide +kernel)
theorem w_248 : Cond.fieldLink RX7 42 RX7 "now" "[I" ∈ lw_gd := tb2 (i := 8) rfl (by first | rfl | decide +kernel)
theorem w_249 : Cond.fieldLink RX7 45 RX7 "then" "[I" ∈ lw_gd := tb2 (i := 9) rfl (by first | rfl | decide +kernel)
theorem w_250 : Cond.laysFinal "PlantsCommitted$Solver" "PlantsCommitted$Solver" "dispatch" "LPlantsCommitted$Dispatch;" ∈ lw_gd := tb2 (i := 10) rfl (by first | rfl | decide +kernel)
theorem w_252 : Cond.laysFinal "PlantsCommitted$Solver" "PlantsCommitted$Solver" "scene" "LPlantsCommitted$Scene;" ∈ lw_gd := tb2 (i := 12) rfl (by first | rfl | decide +kernel)
theorem w_254 : Cond.laysFinal "PlantsCommitted$Solver" "PlantsCommitted$Solver" "demand" "[I" ∈ lw_gd := tb2 (i := 14) rfl (by first | rfl | decide +kernel)
theorem w_256 : Cond.laysFinal "PlantsCommitted$Solver" "PlantsCommitted$Solver" "reserve" "[I" ∈ lw_gd := tb2 (i := 16) rfl (by first | rfl | decide +kernel)
theorem w_258 : Cond.lays "PlantsCommitted$Solver" "PlantsCommitted$Solver" "there" "I" ∈ lw_gd := tb2 (i := 18) rfl (by first | rfl | decide +kernel)
theorem w_260 : Cond.laysFinal "PlantsCommitted$Solver" "PlantsCommitted$Solver" "rows" "[I" ∈ lw_gd := tb2 (i := 20) rfl (by first | rfl | decide +kernel)
theorem w_262 : Cond.laysFinal "PlantsCommitted$Solver" "PlantsCommitted$Solver" "states" "[I" ∈ lw_gd := tb2 (i := 22) rfl (by first | rfl | decide +kernel)
theorem w_264 : Cond.laysFinal "PlantsCommitted$Solver" "PlantsCommitted$Solver" "to" "[[I" ∈ lw_gd := tb2 (i := 24) rfl (by first | rfl | decide +kernel)
theorem w_266 : Cond.laysFinal "PlantsCommitted$Solver" "PlantsCommitted$Solver" "mode" "[[I" ∈ lw_gd := tb2 (i := 26) rfl (by first | rfl | decide +kernel)
theorem w_268 : Cond.laysFinal "PlantsCommitted$Solver" "PlantsCommitted$Solver" "toll" "[[I" ∈ lw_gd := tb2 (i := 28) rfl (by first | rfl | decide +kernel)
theorem w_270 : Cond.laysFinal "PlantsCommitted$Solver" "PlantsCommitted$Solver" "hourCosts" "[I" ∈ lw_gd := tb2 (i := 30) rfl (by first | rfl | decide +kernel)
theorem w_272 : Cond.lays "PlantsCommitted$Solver" "PlantsCommitted$Solver" "now" "[I" ∈ lw_gd := tb2 (i := 32) rfl (by first | rfl | decide +kernel)
theorem w_274 : Cond.lays "PlantsCommitted$Solver" "PlantsCommitted$Solver" "then" "[I" ∈ lw_gd := tb2 (i := 34) rfl (by first | rfl | decide +kernel)
theorem w_276 : Cond.superclass "PlantsCommitted$Solver" "java/lang/Object" ∈ lw_gd := tb2 (i := 36) rfl (by first | rfl | decide +kernel)
theorem w_277 : Cond.classLink RX10 56 RX2 ∈ lw_gd := tb2 (i := 37) rfl (by first | rfl | decide +kernel)
theorem w_278 : Cond.instantiable RX2 6 ∈ lw_gd := tb2 (i := 38) rfl (by first | rfl | decide +kernel)
theorem w_279 : Cond.methodLinkNest RX10 58 (my mX2_init) RX10 ∈ lw_nst := nb2 (i := 39) rfl rfl
theorem w_280 : Cond.instanceMethod (my mX2_init) ∈ lw_gd := tb2 (i := 40) rfl (by first | rfl | decide +kernel)
theorem w_281 : Cond.code (my mX2_init) (mc mX2_init) (mL mX2_init) (mr mX2_init) ∈ lw_gd := tb2 (i := 41) rfl (by first | rfl | decide +kernel)
theorem w_282 : Cond.methodLink RX2 3 (⟨"java/lang/Object", "<init>", "()V"⟩ : MethodName) ∈ lw_gd := tb2 (i := 42) rfl (by first | rfl | decide +kernel)
theorem w_283 : Cond.fieldLink RX2 27 RX2 "scene" "LPlantsCommitted$Scene;" ∈ lw_gd := tb2 (i := 43) rfl (by first | rfl | decide +kernel)
theorem w_284 : Cond.fieldLink RX2 9 RX2 "prices" "[I" ∈ lw_gd := tb2 (i := 44) rfl (by first | rfl | decide +kernel)
theorem w_285 : Cond.fieldLinkNest RX10 266 RX2 "prices" "[I" RX10 ∈ lw_nst := nb2 (i := 45) rfl rfl
theorem w_286 : Cond.fieldLink RX2 15 RX2 "together" "[I" ∈ lw_gd := tb2 (i := 46) rfl (by first | rfl | decide +kernel)
theorem w_287 : Cond.fieldLink RX2 18 RX2 "rows" "[I" ∈ lw_gd := tb2 (i := 47) rfl (by first | rfl | decide +kernel)
theorem w_288 : Cond.fieldLinkNest RX4 47 RX2 "rows" "[I" RX10 ∈ lw_nst := nb2 (i := 48) rfl rfl
theorem w_289 : Cond.fieldLinkNest RX10 256 RX2 "rows" "[I" RX10 ∈ lw_nst := nb2 (i := 49) rfl rfl
theorem w_290 : Cond.fieldLink RX2 21 RX2 "nets" "[I" ∈ lw_gd := tb2 (i := 50) rfl (by first | rfl | decide +kernel)
theorem w_291 : Cond.fieldLinkNest RX10 257 RX2 "nets" "[I" RX10 ∈ lw_nst := nb2 (i := 51) rfl rfl
theorem w_292 : Cond.fieldLink RX2 24 RX2 "amounts" "[I" ∈ lw_gd := tb2 (i := 52) rfl (by first | rfl | decide +kernel)
theorem w_293 : Cond.fieldLinkNest RX10 260 RX2 "amounts" "[I" RX10 ∈ lw_nst := nb2 (i := 53) rfl rfl
theorem w_294 : Cond.laysFinal "PlantsCommitted$Market" "PlantsCommitted$Market" "scene" "LPlantsCommitted$Scene;" ∈ lw_gd := tb2 (i := 54) rfl (by first | rfl | decide +kernel)
theorem w_296 : Cond.laysFinal "PlantsCommitted$Market" "PlantsCommitted$Market" "prices" "[I" ∈ lw_gd := tb2 (i := 56) rfl (by first | rfl | decide +kernel)
theorem w_298 : Cond.laysFinal "PlantsCommitted$Market" "PlantsCommitted$Market" "together" "[I" ∈ lw_gd := tb2 (i := 58) rfl (by first | rfl | decide +kernel)
theorem w_300 : Cond.laysFinal "PlantsCommitted$Market" "PlantsCommitted$Market" "rows" "[I" ∈ lw_gd := tb2 (i := 60) rfl (by first | rfl | decide +kernel)
theorem w_302 : Cond.laysFinal "PlantsCommitted$Market" "PlantsCommitted$Market" "nets" "[I" ∈ lw_gd := tb2 (i := 62) rfl (by first | rfl | decide +kernel)
theorem w_304 : Cond.laysFinal "PlantsCommitted$Market" "PlantsCommitted$Market" "amounts" "[I" ∈ lw_gd := tb2 (i := 64) rfl (by first | rfl | decide +kernel)
theorem w_306 : Cond.superclass "PlantsCommitted$Market" "java/lang/Object" ∈ lw_gd := tb2 (i := 66) rfl (by first | rfl | decide +kernel)
theorem w_307 : Cond.classLink RX10 65 RX4 ∈ lw_gd := tb2 (i := 67) rfl (by first | rfl | decide +kernel)
theorem w_308 : Cond.instantiable RX4 4 ∈ lw_gd := tb2 (i := 68) rfl (by first | rfl | decide +kernel)
theorem w_309 : Cond.methodLinkNest RX10 67 (my mX4_init) RX10 ∈ lw_nst := nb2 (i := 69) rfl rfl
theorem w_310 : Cond.instanceMethod (my mX4_init) ∈ lw_gd := tb2 (i := 70) rfl (by first | rfl | decide +kernel)
theorem w_311 : Cond.code (my mX4_init) (mc mX4_init) (mL mX4_init) (mr mX4_init) ∈ lw_gd := tb2 (i := 71) rfl (by first | rfl | decide +kernel)
theorem w_312 : Cond.methodLink RX4 3 (⟨"java/lang/Object", "<init>", "()V"⟩ : MethodName) ∈ lw_gd := tb2 (i := 72) rfl (by first | rfl | decide +kernel)
theorem w_313 : Cond.fieldLink RX4 15 RX4 "scene" "LPlantsCommitted$Scene;" ∈ lw_gd := tb2 (i := 73) rfl (by first | rfl | decide +kernel)
theorem w_314 : Cond.fieldLink RX4 19 RX4 "market" "LPlantsCommitted$Market;" ∈ lw_gd := tb2 (i := 74) rfl (by first | rfl | decide +kernel)
theorem w_315 : Cond.fieldLink RX4 23 RX4 "walk" "LPlantsCommitted$Walk;" ∈ lw_gd := tb2 (i := 75) rfl (by first | rfl | decide +kernel)
theorem w_316 : Cond.fieldLink RX4 9 RX4 "rows" "[I" ∈ lw_gd := tb2 (i := 76) rfl (by first | rfl | decide +kernel)
theorem w_317 : Cond.fieldLinkNest RX10 271 RX4 "rows" "[I" RX10 ∈ lw_nst := nb2 (i := 77) rfl rfl
theorem w_318 : Cond.laysFinal "PlantsCommitted$Repair" "PlantsCommitted$Repair" "scene" "LPlantsCommitted$Scene;" ∈ lw_gd := tb2 (i := 78) rfl (by first | rfl | decide +kernel)
theorem w_320 : Cond.laysFinal "PlantsCommitted$Repair" "PlantsCommitted$Repair" "market" "LPlantsCommitted$Market;" ∈ lw_gd := tb2 (i := 80) rfl (by first | rfl | decide +kernel)
theorem w_322 : Cond.laysFinal "PlantsCommitted$Repair" "PlantsCommitted$Repair" "walk" "LPlantsCommitted$Walk;" ∈ lw_gd := tb2 (i := 82) rfl (by first | rfl | decide +kernel)
theorem w_324 : Cond.laysFinal "PlantsCommitted$Repair" "PlantsCommitted$Repair" "rows" "[I" ∈ lw_gd := tb2 (i := 84) rfl (by first | rfl | decide +kernel)
theorem w_326 : Cond.superclass "PlantsCommitted$Repair" "java/lang/Object" ∈ lw_gd := tb2 (i := 86) rfl (by first | rfl | decide +kernel)
theorem w_327 : Cond.classLink RX10 74 RX1 ∈ lw_gd := tb2 (i := 87) rfl (by first | rfl | decide +kernel)
theorem w_328 : Cond.arrayOver (Jvm.ClassFile.FieldType.object "PlantsCommitted$Line") ∈ lw_tbl := rb2 (i := 88) rfl
theorem w_329 : Cond.classLink RX10 80 RX6 ∈ lw_gd := tb2 (i := 89) rfl (by first | rfl | decide +kernel)
theorem w_330 : Cond.arrayOver (Jvm.ClassFile.FieldType.object "PlantsCommitted$Shelf") ∈ lw_tbl := rb2 (i := 90) rfl
theorem w_331 : Cond.instantiable RX1 2 ∈ lw_gd := tb2 (i := 91) rfl (by first | rfl | decide +kernel)
theorem w_332 : Cond.methodLinkNest RX10 90 (my mX1_init) RX10 ∈ lw_nst := nb2 (i := 92) rfl rfl
theorem w_333 : Cond.instanceMethod (my mX1_init) ∈ lw_gd := tb2 (i := 93) rfl (by first | rfl | decide +kernel)
theorem w_334 : Cond.code (my mX1_init) (mc mX1_init) (mL mX1_init) (mr mX1_init) ∈ lw_gd := tb2 (i := 94) rfl (by first | rfl | decide +kernel)
theorem w_335 : Cond.methodLink RX1 3 (⟨"java/lang/Object", "<init>", "()V"⟩ : MethodName) ∈ lw_gd := tb2 (i := 95) rfl (by first | rfl | decide +kernel)
theorem w_336 : Cond.fieldLink RX1 9 RX1 "values" "[I" ∈ lw_gd := tb2 (i := 96) rfl (by first | rfl | decide +kernel)
theorem w_337 : Cond.fieldLink RX1 15 RX1 "size" "I" ∈ lw_gd := tb2 (i := 97) rfl (by first | rfl | decide +kernel)
theorem w_338 : Cond.fieldLinkNest RX10 275 RX1 "size" "I" RX10 ∈ lw_nst := nb2 (i := 98) rfl rfl
theorem w_339 : Cond.laysFinal "PlantsCommitted$Line" "PlantsCommitted$Line" "values" "[I" ∈ lw_gd := tb2 (i := 99) rfl (by first | rfl | decide +kernel)
theorem w_341 : Cond.lays "PlantsCommitted$Line" "PlantsCommitted$Line" "size" "I" ∈ lw_gd := tb2 (i := 101) rfl (by first | rfl | decide +kernel)
theorem w_343 : Cond.superclass "PlantsCommitted$Line" "java/lang/Object" ∈ lw_gd := tb2 (i := 103) rfl (by first | rfl | decide +kernel)
theorem w_344 : Cond.instantiable RX6 4 ∈ lw_gd := tb2 (i := 104) rfl (by first | rfl | decide +kernel)
theorem w_345 : Cond.methodLinkNest RX10 91 (my mX6_init) RX10 ∈ lw_nst := nb2 (i := 105) rfl rfl
theorem w_346 : Cond.instanceMethod (my mX6_init) ∈ lw_gd := tb2 (i := 106) rfl (by first | rfl | decide +kernel)
theorem w_347 : Cond.code (my mX6_init) (mc mX6_init) (mL mX6_init) (mr mX6_init) ∈ lw_gd := tb2 (i := 107) rfl (by first | rfl | decide +kernel)
theorem w_348 : Cond.methodLink RX6 3 (⟨"java/lang/Object", "<init>", "()V"⟩ : MethodName) ∈ lw_gd := tb2 (i := 108) rfl (by first | rfl | decide +kernel)
theorem w_349 : Cond.classLink RX6 9 RX3 ∈ lw_gd := tb2 (i := 109) rfl (by first | rfl | decide +kernel)
theorem w_350 : Cond.methodLinkNest RX6 28 (my mX3_init) RX10 ∈ lw_nst := nb2 (i := 110) rfl rfl
theorem w_351 : Cond.fieldLink RX6 11 RX6 "places" "[LPlantsCommitted$Plant;" ∈ lw_gd := tb2 (i := 111) rfl (by first | rfl | decide +kernel)
theorem w_352 : Cond.fieldLinkNest RX10 329 RX6 "places" "[LPlantsCommitted$Plant;" RX10 ∈ lw_nst := nb2 (i := 112) rfl rfl
theorem w_353 : Cond.fieldLink RX6 17 RX6 "full" "[Z" ∈ lw_gd := tb2 (i := 113) rfl (by first | rfl | decide +kernel)
theorem w_354 : Cond.fieldLinkNest RX10 321 RX6 "full" "[Z" RX10 ∈ lw_nst := nb2 (i := 114) rfl rfl
theorem w_355 : Cond.fieldLink RX6 21 RX6 "kind" "I" ∈ lw_gd := tb2 (i := 115) rfl (by first | rfl | decide +kernel)
theorem w_356 : Cond.fieldLinkNest RX10 325 RX6 "kind" "I" RX10 ∈ lw_nst := nb2 (i := 116) rfl rfl
theorem w_357 : Cond.fieldLink RX6 25 RX6 "size" "I" ∈ lw_gd := tb2 (i := 117) rfl (by first | rfl | decide +kernel)
theorem w_358 : Cond.fieldLinkNest RX10 317 RX6 "size" "I" RX10 ∈ lw_nst := nb2 (i := 118) rfl rfl
theorem w_359 : Cond.laysFinal "PlantsCommitted$Shelf" "PlantsCommitted$Shelf" "places" "[LPlantsCommitted$Plant;" ∈ lw_gd := tb2 (i := 119) rfl (by first | rfl | decide +kernel)
theorem w_361 : Cond.laysFinal "PlantsCommitted$Shelf" "PlantsCommitted$Shelf" "full" "[Z" ∈ lw_gd := tb2 (i := 121) rfl (by first | rfl | decide +kernel)
theorem w_363 : Cond.lays "PlantsCommitted$Shelf" "PlantsCommitted$Shelf" "kind" "I" ∈ lw_gd := tb2 (i := 123) rfl (by first | rfl | decide +kernel)
theorem w_365 : Cond.lays "PlantsCommitted$Shelf" "PlantsCommitted$Shelf" "size" "I" ∈ lw_gd := tb2 (i := 125) rfl (by first | rfl | decide +kernel)
theorem w_367 : Cond.superclass "PlantsCommitted$Shelf" "java/lang/Object" ∈ lw_gd := tb2 (i := 127) rfl (by first | rfl | decide +kernel)
theorem w_368 : Cond.arrayClass Jvm.ClassFile.FieldType.boolean ∈ lw_gd := tb2 (i := 128) rfl (by first | rfl | decide +kernel)
theorem w_369 : Cond.fieldLink RX10 10 RX10 "scene" "LPlantsCommitted$Scene;" ∈ lw_gd := tb2 (i := 129) rfl (by first | rfl | decide +kernel)
theorem w_370 : Cond.fieldLink RX10 16 RX10 "before" "LPlantsCommitted$Scene;" ∈ lw_gd := tb2 (i := 130) rfl (by first | rfl | decide +kernel)
theorem w_371 : Cond.fieldLink RX10 19 RX10 "taken" "LPlantsCommitted$Scene;" ∈ lw_gd := tb2 (i := 131) rfl (by first | rfl | decide +kernel)
theorem w_372 : Cond.fieldLink RX10 22 RX10 "hasTaken" "Z" ∈ lw_gd := tb2 (i := 132) rfl (by first | rfl | decide +kernel)
theorem w_373 : Cond.fieldLink RX10 29 RX10 "teller" "LPlantsCommitted$Teller;" ∈ lw_gd := tb2 (i := 133) rfl (by first | rfl | decide +kernel)
theorem w_374 : Cond.fieldLink RX10 36 RX10 "dispatch" "LPlantsCommitted$Dispatch;" ∈ lw_gd := tb2 (i := 134) rfl (by first | rfl | decide +kernel)
theorem w_375 : Cond.fieldLink RX10 45 RX10 "walk" "LPlantsCommitted$Walk;" ∈ lw_gd := tb2 (i := 135) rfl (by first | rfl | decide +kernel)
theorem w_376 : Cond.fieldLink RX10 52 RX10 "solver" "LPlantsCommitted$Solver;" ∈ lw_gd := tb2 (i := 136) rfl (by first | rfl | decide +kernel)
theorem w_377 : Cond.fieldLink RX10 61 RX10 "market" "LPlantsCommitted$Market;" ∈ lw_gd := tb2 (i := 137) rfl (by first | rfl | decide +kernel)
theorem w_378 : Cond.fieldLink RX10 70 RX10 "repair" "LPlantsCommitted$Repair;" ∈ lw_gd := tb2 (i := 138) rfl (by first | rfl | decide +kernel)
theorem w_379 : Cond.fieldLink RX10 76 RX10 "lines" "[LPlantsCommitted$Line;" ∈ lw_gd := tb2 (i := 139) rfl (by first | rfl | decide +kernel)
theorem w_380 : Cond.fieldLink RX10 82 RX10 "shelves" "[LPlantsCommitted$Shelf;" ∈ lw_gd := tb2 (i := 140) rfl (by first | rfl | decide +kernel)
theorem w_381 : Cond.fieldLink RX10 86 RX10 "refusals" "[I" ∈ lw_gd := tb2 (i := 141) rfl (by first | rfl | decide +kernel)
theorem w_382 : Cond.laysFinal "PlantsCommitted" "PlantsCommitted" "scene" "LPlantsCommitted$Scene;" ∈ lw_gd := tb2 (i := 142) rfl (by first | rfl | decide +kernel)
theorem w_384 : Cond.laysFinal "PlantsCommitted" "PlantsCommitted" "before" "LPlantsCommitted$Scene;" ∈ lw_gd := tb2 (i := 144) rfl (by first | rfl | decide +kernel)
theorem w_386 : Cond.laysFinal "PlantsCommitted" "PlantsCommitted" "taken" "LPlantsCommitted$Scene;" ∈ lw_gd := tb2 (i := 146) rfl (by first | rfl | decide +kernel)
theorem w_388 : Cond.lays "PlantsCommitted" "PlantsCommitted" "hasTaken" "Z" ∈ lw_gd := tb2 (i := 148) rfl (by first | rfl | decide +kernel)
theorem w_390 : Cond.laysFinal "PlantsCommitted" "PlantsCommitted" "teller" "LPlantsCommitted$Teller;" ∈ lw_gd := tb2 (i := 150) rfl (by first | rfl | decide +kernel)
theorem w_392 : Cond.laysFinal "PlantsCommitted" "PlantsCommitted" "dispatch" "LPlantsCommitted$Dispatch;" ∈ lw_gd := tb2 (i := 152) rfl (by first | rfl | decide +kernel)
theorem w_394 : Cond.laysFinal "PlantsCommitted" "PlantsCommitted" "walk" "LPlantsCommitted$Walk;" ∈ lw_gd := tb2 (i := 154) rfl (by first | rfl | decide +kernel)
theorem w_396 : Cond.laysFinal "PlantsCommitted" "PlantsCommitted" "solver" "LPlantsCommitted$Solver;" ∈ lw_gd := tb2 (i := 156) rfl (by first | rfl | decide +kernel)
theorem w_398 : Cond.laysFinal "PlantsCommitted" "PlantsCommitted" "market" "LPlantsCommitted$Market;" ∈ lw_gd := tb2 (i := 158) rfl (by first | rfl | decide +kernel)
theorem w_400 : Cond.laysFinal "PlantsCommitted" "PlantsCommitted" "repair" "LPlantsCommitted$Repair;" ∈ lw_gd := tb2 (i := 160) rfl (by first | rfl | decide +kernel)
theorem w_402 : Cond.laysFinal "PlantsCommitted" "PlantsCommitted" "lines" "[LPlantsCommitted$Line;" ∈ lw_gd := tb2 (i := 162) rfl (by first | rfl | decide +kernel)
theorem w_404 : Cond.laysFinal "PlantsCommitted" "PlantsCommitted" "shelves" "[LPlantsCommitted$Shelf;" ∈ lw_gd := tb2 (i := 164) rfl (by first | rfl | decide +kernel)
theorem w_406 : Cond.laysFinal "PlantsCommitted" "PlantsCommitted" "refusals" "[I" ∈ lw_gd := tb2 (i := 166) rfl (by first | rfl | decide +kernel)
theorem w_408 : Cond.superclass "PlantsCommitted" "java/lang/Object" ∈ lw_gd := tb2 (i := 168) rfl (by first | rfl | decide +kernel)
theorem w_409 : Cond.methodLink RL 13 (my mX10_letter) ∈ lw_gd := tb2 (i := 169) rfl (by first | rfl | decide +kernel)
theorem w_410 : Cond.instanceMethod (my mX10_letter) ∈ lw_gd := tb2 (i := 170) rfl (by first | rfl | decide +kernel)
theorem w_411 : Cond.selects RX10 (my mX10_letter) (my mX10_letter) ∈ lw_gd := tb2 (i := 171) rfl (by first | rfl | decide +kernel)
theorem w_412 : Cond.code (my mX10_letter) (mc mX10_letter) (mL mX10_letter) (mr mX10_letter) ∈ lw_gd := tb2 (i := 172) rfl (by first | rfl | decide +kernel)
theorem w_413 : Cond.methodLink RX10 92 (my mX10_refuse) ∈ lw_gd := tb2 (i := 173) rfl (by first | rfl | decide +kernel)
theorem w_415 : Cond.instanceMethod (my mX10_refuse) ∈ lw_gd := tb2 (i := 175) rfl (by first | rfl | decide +kernel)
theorem w_416 : Cond.code (my mX10_refuse) (mc mX10_refuse) (mL mX10_refuse) (mr mX10_refuse) ∈ lw_gd := tb2 (i := 176) rfl (by first | rfl | decide +kernel)
theorem w_417 : Cond.methodLinkNest RX10 100 (my mX8_take) RX10 ∈ lw_nst := nb2 (i := 177) rfl rfl
theorem w_419 : Cond.instanceMethod (my mX8_take) ∈ lw_gd := tb2 (i := 179) rfl (by first | rfl | decide +kernel)
theorem w_420 : Cond.code (my mX8_take) (mc mX8_take) (mL mX8_take) (mr mX8_take) ∈ lw_gd := tb2 (i := 180) rfl (by first | rfl | decide +kernel)
theorem w_421 : Cond.methodLink RL 18 (my mX10_tells) ∈ lw_gd := tb2 (i := 181) rfl (by first | rfl | decide +kernel)
theorem w_422 : Cond.instanceMethod (my mX10_tells) ∈ lw_gd := tb2 (i := 182) rfl (by first | rfl | decide +kernel)
theorem w_423 : Cond.selects RX10 (my mX10_tells) (my mX10_tells) ∈ lw_gd := tb2 (i := 183) rfl (by first | rfl | decide +kernel)
theorem w_424 : Cond.code (my mX10_tells) (mc mX10_tells) (mL mX10_tells) (mr mX10_tells) ∈ lw_gd := tb2 (i := 184) rfl (by first | rfl | decide +kernel)
theorem w_425 : Cond.methodLinkNest RX10 103 (my mX5_copyFrom) RX10 ∈ lw_nst := nb2 (i := 185) rfl rfl
theorem w_427 : Cond.instanceMethod (my mX5_copyFrom) ∈ lw_gd := tb2 (i := 187) rfl (by first | rfl | decide +kernel)
theorem w_428 : Cond.code (my mX5_copyFrom) (mc mX5_copyFrom) (mL mX5_copyFrom) (mr mX5_copyFrom) ∈ lw_gd := tb2 (i := 188) rfl (by first | rfl | decide +kernel)
theorem w_429 : Cond.methodLink RX5 45 (⟨"java/lang/System", "arraycopy", "(Ljava/lang/Object;ILjava/lang/Object;II)V"⟩ : MethodName) ∈ lw_gd := tb2 (i := 189) rfl (by first | rfl | decide +kernel)
theorem w_430 : Cond.static (⟨"java/lang/System", "arraycopy", "(Ljava/lang/Object;ILjava/lang/Object;II)V"⟩ : MethodName) ∈ lw_gd := tb2 (i := 190) rfl (by first | rfl | decide +kernel)
theorem w_431 : Cond.native (⟨"java/lang/System", "arraycopy", "(Ljava/lang/Object;ILjava/lang/Object;II)V"⟩ : MethodName) ∈ lw_gd := tb2 (i := 191) rfl (by first | rfl | decide +kernel)
theorem w_432 : Cond.methodLinkNest RX5 51 (my mX3_copyFrom) RX10 ∈ lw_nst := nb2 (i := 192) rfl rfl
theorem w_434 : Cond.instanceMethod (my mX3_copyFrom) ∈ lw_gd := tb2 (i := 194) rfl (by first | rfl | decide +kernel)
theorem w_435 : Cond.code (my mX3_copyFrom) (mc mX3_copyFrom) (mL mX3_copyFrom) (mr mX3_copyFrom) ∈ lw_gd := tb2 (i := 195) rfl (by first | rfl | decide +kernel)
theorem w_436 : Cond.methodLinkNest RX10 106 (my mX8_readAll) RX10 ∈ lw_nst := nb2 (i := 196) rfl rfl
theorem w_438 : Cond.instanceMethod (my mX8_readAll) ∈ lw_gd := tb2 (i := 198) rfl (by first | rfl | decide +kernel)
theorem w_439 : Cond.code (my mX8_readAll) (mc mX8_readAll) (mL mX8_readAll) (mr mX8_readAll) ∈ lw_gd := tb2 (i := 199) rfl (by first | rfl | decide +kernel)
theorem w_440 : Cond.methodLink RX8 28 (my mX8_readOne) ∈ lw_gd := tb2 (i := 200) rfl (by first | rfl | decide +kernel)
theorem w_442 : Cond.instanceMethod (my mX8_readOne) ∈ lw_gd := tb2 (i := 202) rfl (by first | rfl | decide +kernel)
theorem w_443 : Cond.code (my mX8_readOne) (mc mX8_readOne) (mL mX8_readOne) (mr mX8_readOne) ∈ lw_gd := tb2 (i := 203) rfl (by first | rfl | decide +kernel)
theorem w_444 : Cond.methodLink RX8 48 (my mX8_here) ∈ lw_gd := tb2 (i := 204) rfl (by first | rfl | decide +kernel)
theorem w_446 : Cond.instanceMethod (my mX8_here) ∈ lw_gd := tb2 (i := 206) rfl (by first | rfl | decide +kernel)
theorem w_447 : Cond.code (my mX8_here) (mc mX8_here) (mL mX8_here) (mr mX8_here) ∈ lw_gd := tb2 (i := 207) rfl (by first | rfl | decide +kernel)
theorem w_448 : Cond.methodLink RX8 52 (my mX8_shapeOf) ∈ lw_gd := tb2 (i := 208) rfl (by first | rfl | decide +kernel)
theorem w_449 : Cond.static (my mX8_shapeOf) ∈ lw_gd := tb2 (i := 209) rfl (by first | rfl | decide +kernel)
theorem w_450 : Cond.code (my mX8_shapeOf) (mc mX8_shapeOf) (mL mX8_shapeOf) (mr mX8_shapeOf) ∈ lw_gd := tb2 (i := 210) rfl (by first | rfl | decide +kernel)
theorem w_451 : Cond.stringRef "PlantsCommitted$Teller" (36 : Nat) "n,n;" ∈ lw_tbl := rb2 (i := 211) rfl
theorem w_452 : Cond.stringRef "PlantsCommitted$Teller" (38 : Nat) "n=n,n;" ∈ lw_tbl := rb2 (i := 212) rfl
theorem w_453 : Cond.stringRef "PlantsCommitted$Teller" (40 : Nat) "n=n,n,n;" ∈ lw_tbl := rb2 (i := 213) rfl
theorem w_454 : Cond.stringRef "PlantsCommitted$Teller" (42 : Nat) "n?n;" ∈ lw_tbl := rb2 (i := 214) rfl
theorem w_455 : Cond.stringRef "PlantsCommitted$Teller" (44 : Nat) "n;" ∈ lw_tbl := rb2 (i := 215) rfl
theorem w_456 : Cond.stringRef "PlantsCommitted$Teller" (46 : Nat) "" ∈ lw_tbl := rb2 (i := 216) rfl
theorem w_457 : Cond.methodLink RX8 56 (my mJ0_isEmpty_aae02) ∈ lw_gd := tb2 (i := 217) rfl (by first | rfl | decide +kernel)
theorem w_458 : Cond.instanceMethod (my mJ0_isEmpty_aae02) ∈ lw_gd := tb2 (i := 218) rfl (by first | rfl | decide +kernel)
theorem w_459 : Cond.selects RJ0 (my mJ0_isEmpty_aae02) (my mJ0_isEmpty_aae02) ∈ lw_gd := tb2 (i := 219) rfl (by first | rfl | decide +kernel)
theorem w_460 : Cond.code (my mJ0_isEmpty_aae02) (mc mJ0_isEmpty_aae02) (mL mJ0_isEmpty_aae02) (mr mJ0_isEmpty_aae02) ∈ lw_gd := tb2 (i := 220) rfl (by first | rfl | decide +kernel)
theorem w_461 : Cond.methodLink RX8 61 (my mJ0_length_8abf5) ∈ lw_gd := tb2 (i := 221) rfl (by first | rfl | decide +kernel)
theorem w_462 : Cond.instanceMethod (my mJ0_length_8abf5) ∈ lw_gd := tb2 (i := 222) rfl (by first | rfl | decide +kernel)
theorem w_463 : Cond.selects RJ0 (my mJ0_length_8abf5) (my mJ0_length_8abf5) ∈ lw_gd := tb2 (i := 223) rfl (by first | rfl | decide +kernel)
theorem w_464 : Cond.code (my mJ0_length_8abf5) (mc mJ0_length_8abf5) (mL mJ0_length_8abf5) (mr mJ0_length_8abf5) ∈ lw_gd := tb2 (i := 224) rfl (by first | rfl | decide +kernel)
theorem w_465 : Cond.methodLink RJ0 335 (my mJ0_coder_7d493) ∈ lw_gd := tb2 (i := 225) rfl (by first | rfl | decide +kernel)
theorem w_466 : Cond.instanceMethod (my mJ0_coder_7d493) ∈ lw_gd := tb2 (i := 226) rfl (by first | rfl | decide +kernel)
theorem w_467 : Cond.selects RJ0 (my mJ0_coder_7d493) (my mJ0_coder_7d493) ∈ lw_gd := tb2 (i := 227) rfl (by first | rfl | decide +kernel)
theorem w_468 : Cond.code (my mJ0_coder_7d493) (mc mJ0_coder_7d493) (mL mJ0_coder_7d493) (mr mJ0_coder_7d493) ∈ lw_gd := tb2 (i := 228) rfl (by first | rfl | decide +kernel)
theorem w_469 : Cond.fieldLink RJ0 38 RJ0 "COMPACT_STRINGS" "Z" ∈ lw_gd := tb2 (i := 229) rfl (by first | rfl | decide +kernel)
theorem w_470 : Cond.laysStatic "java/lang/String" "COMPACT_STRINGS" "Z" ∈ lw_tbl := rb2 (i := 230) rfl
theorem w_471 : Cond.methodLink RX8 64 (my mJ0_charAt_5068e) ∈ lw_gd := tb2 (i := 231) rfl (by first | rfl | decide +kernel)
theorem w_472 : Cond.instanceMethod (my mJ0_charAt_5068e) ∈ lw_gd := tb2 (i := 232) rfl (by first | rfl | decide +kernel)
theorem w_473 : Cond.selects RJ0 (my mJ0_charAt_5068e) (my mJ0_charAt_5068e) ∈ lw_gd := tb2 (i := 233) rfl (by first | rfl | decide +kernel)
theorem w_474 : Cond.code (my mJ0_charAt_5068e) (mc mJ0_charAt_5068e) (mL mJ0_charAt_5068e) (mr mJ0_charAt_5068e) ∈ lw_gd := tb2 (i := 234) rfl (by first | rfl | decide +kernel)
theorem w_475 : Cond.methodLink RJ0 492 (my mJ0_isLatin1_aae02) ∈ lw_gd := tb2 (i := 235) rfl (by first | rfl | decide +kernel)
theorem w_476 : Cond.instanceMethod (my mJ0_isLatin1_aae02) ∈ lw_gd := tb2 (i := 236) rfl (by first | rfl | decide +kernel)
theorem w_477 : Cond.selects RJ0 (my mJ0_isLatin1_aae02) (my mJ0_isLatin1_aae02) ∈ lw_gd := tb2 (i := 237) rfl (by first | rfl | decide +kernel)
theorem w_478 : Cond.code (my mJ0_isLatin1_aae02) (mc mJ0_isLatin1_aae02) (mL mJ0_isLatin1_aae02) (mr mJ0_isLatin1_aae02) ∈ lw_gd := tb2 (i := 238) rfl (by first | rfl | decide +kernel)
theorem w_479 : Cond.methodLink RJ0 495 (my mJ1_charAt_3b067) ∈ lw_gd := tb2 (i := 239) rfl (by first | rfl | decide +kernel)
theorem w_480 : Cond.static (my mJ1_charAt_3b067) ∈ lw_gd := tb3 (i := 0) rfl (by first | rfl | decide +kernel)
theorem w_481 : Cond.code (my mJ1_charAt_3b067) (mc mJ1_charAt_3b067) (mL mJ1_charAt_3b067) (mr mJ1_charAt_3b067) ∈ lw_gd := tb3 (i := 1) rfl (by first | rfl | decide +kernel)
theorem w_482 : Cond.methodLink RJ1 9 (my mJ0_checkIndex_df160) ∈ lw_gd := tb3 (i := 2) rfl (by first | rfl | decide +kernel)
theorem w_483 : Cond.static (my mJ0_checkIndex_df160) ∈ lw_gd := tb3 (i := 3) rfl (by first | rfl | decide +kernel)
theorem w_484 : Cond.code (my mJ0_checkIndex_df160) (mc mJ0_checkIndex_df160) (mL mJ0_checkIndex_df160) (mr mJ0_checkIndex_df160) ∈ lw_gd := tb3 (i := 4) rfl (by first | rfl | decide +kernel)
theorem w_485 : Cond.fieldLink RJ0 1053 RJ3 "SIOOBE_FORMATTER" "Ljava/util/function/BiFunction;" ∈ lw_gd := tb3 (i := 5) rfl (by first | rfl | decide +kernel)
theorem w_486 : Cond.laysStatic "jdk/internal/util/Preconditions" "SIOOBE_FORMATTER" "Ljava/util/function/BiFunction;" ∈ lw_tbl := rb3 (i := 6) rfl
theorem w_487 : Cond.methodLink RJ0 1059 (my mJ3_checkIndex_8e157) ∈ lw_gd := tb3 (i := 7) rfl (by first | rfl | decide +kernel)
theorem w_488 : Cond.static (my mJ3_checkIndex_8e157) ∈ lw_gd := tb3 (i := 8) rfl (by first | rfl | decide +kernel)
theorem w_489 : Cond.code (my mJ3_checkIndex_8e157) (mc mJ3_checkIndex_8e157) (mL mJ3_checkIndex_8e157) (mr mJ3_checkIndex_8e157) ∈ lw_gd := tb3 (i := 9) rfl (by first | rfl | decide +kernel)
theorem w_490 : Cond.methodLink RJ0 498 (my mJ2_charAt_3b067) ∈ lw_gd := tb3 (i := 10) rfl (by first | rfl | decide +kernel)
theorem w_491 : Cond.static (my mJ2_charAt_3b067) ∈ lw_gd := tb3 (i := 11) rfl (by first | rfl | decide +kernel)
theorem w_492 : Cond.code (my mJ2_charAt_3b067) (mc mJ2_charAt_3b067) (mL mJ2_charAt_3b067) (mr mJ2_charAt_3b067) ∈ lw_gd := tb3 (i := 12) rfl (by first | rfl | decide +kernel)
theorem w_493 : Cond.methodLink RJ2 67 (my mJ2_checkIndex_2214a) ∈ lw_gd := tb3 (i := 13) rfl (by first | rfl | decide +kernel)
theorem w_494 : Cond.static (my mJ2_checkIndex_2214a) ∈ lw_gd := tb3 (i := 14) rfl (by first | rfl | decide +kernel)
theorem w_495 : Cond.code (my mJ2_checkIndex_2214a) (mc mJ2_checkIndex_2214a) (mL mJ2_checkIndex_2214a) (mr mJ2_checkIndex_2214a) ∈ lw_gd := tb3 (i := 15) rfl (by first | rfl | decide +kernel)
theorem w_496 : Cond.methodLink RJ2 48 (my mJ2_length_9d52b) ∈ lw_gd := tb3 (i := 16) rfl (by first | rfl | decide +kernel)
theorem w_497 : Cond.static (my mJ2_length_9d52b) ∈ lw_gd := tb3 (i := 17) rfl (by first | rfl | decide +kernel)
theorem w_498 : Cond.code (my mJ2_length_9d52b) (mc mJ2_length_9d52b) (mL mJ2_length_9d52b) (mr mJ2_length_9d52b) ∈ lw_gd := tb3 (i := 18) rfl (by first | rfl | decide +kernel)
theorem w_499 : Cond.methodLink RJ2 414 (my mJ0_checkIndex_df160) ∈ lw_gd := tb3 (i := 19) rfl (by first | rfl | decide +kernel)
theorem w_500 : Cond.methodLink RJ2 71 (my mJ2_getChar_3b067) ∈ lw_gd := tb3 (i := 20) rfl (by first | rfl | decide +kernel)
theorem w_501 : Cond.static (my mJ2_getChar_3b067) ∈ lw_gd := tb3 (i := 21) rfl (by first | rfl | decide +kernel)
theorem w_502 : Cond.code (my mJ2_getChar_3b067) (mc mJ2_getChar_3b067) (mL mJ2_getChar_3b067) (mr mJ2_getChar_3b067) ∈ lw_gd := tb3 (i := 22) rfl (by first | rfl | decide +kernel)
theorem w_503 : Cond.fieldLink RJ2 44 RJ2 "$assertionsDisabled" "Z" ∈ lw_gd := tb3 (i := 23) rfl (by first | rfl | decide +kernel)
theorem w_504 : Cond.laysStatic "java/lang/StringUTF16" "$assertionsDisabled" "Z" ∈ lw_tbl := rb3 (i := 24) rfl
theorem w_505 : Cond.fieldLink RJ2 59 RJ2 "HI_BYTE_SHIFT" "I" ∈ lw_gd := tb3 (i := 25) rfl (by first | rfl | decide +kernel)
theorem w_506 : Cond.laysStatic "java/lang/StringUTF16" "HI_BYTE_SHIFT" "I" ∈ lw_tbl := rb3 (i := 26) rfl
theorem w_507 : Cond.fieldLink RJ2 63 RJ2 "LO_BYTE_SHIFT" "I" ∈ lw_gd := tb3 (i := 27) rfl (by first | rfl | decide +kernel)
theorem w_508 : Cond.laysStatic "java/lang/StringUTF16" "LO_BYTE_SHIFT" "I" ∈ lw_tbl := rb3 (i := 28) rfl
theorem w_509 : Cond.methodLink RX8 68 (my mX8_readNumber) ∈ lw_gd := tb3 (i := 29) rfl (by first | rfl | decide +kernel)
theorem w_511 : Cond.instanceMethod (my mX8_readNumber) ∈ lw_gd := tb3 (i := 31) rfl (by first | rfl | decide +kernel)
theorem w_512 : Cond.code (my mX8_readNumber) (mc mX8_readNumber) (mL mX8_readNumber) (mr mX8_readNumber) ∈ lw_gd := tb3 (i := 32) rfl (by first | rfl | decide +kernel)
theorem w_513 : Cond.methodLink RX8 79 (my mX8_isDigit) ∈ lw_gd := tb3 (i := 33) rfl (by first | rfl | decide +kernel)
theorem w_515 : Cond.instanceMethod (my mX8_isDigit) ∈ lw_gd := tb3 (i := 35) rfl (by first | rfl | decide +kernel)
theorem w_516 : Cond.code (my mX8_isDigit) (mc mX8_isDigit) (mL mX8_isDigit) (mr mX8_isDigit) ∈ lw_gd := tb3 (i := 36) rfl (by first | rfl | decide +kernel)
theorem w_517 : Cond.methodLink RX8 72 (my mX8_readSign) ∈ lw_gd := tb3 (i := 37) rfl (by first | rfl | decide +kernel)
theorem w_519 : Cond.instanceMethod (my mX8_readSign) ∈ lw_gd := tb3 (i := 39) rfl (by first | rfl | decide +kernel)
theorem w_520 : Cond.code (my mX8_readSign) (mc mX8_readSign) (mL mX8_readSign) (mr mX8_readSign) ∈ lw_gd := tb3 (i := 40) rfl (by first | rfl | decide +kernel)
theorem w_521 : Cond.methodLink RX8 75 (my mX8_readLetter) ∈ lw_gd := tb3 (i := 41) rfl (by first | rfl | decide +kernel)
theorem w_523 : Cond.instanceMethod (my mX8_readLetter) ∈ lw_gd := tb3 (i := 43) rfl (by first | rfl | decide +kernel)
theorem w_524 : Cond.code (my mX8_readLetter) (mc mX8_readLetter) (mL mX8_readLetter) (mr mX8_readLetter) ∈ lw_gd := tb3 (i := 44) rfl (by first | rfl | decide +kernel)
theorem w_525 : Cond.methodLinkNest RX10 110 (my mX8_applyAll) RX10 ∈ lw_nst := nb3 (i := 45) rfl rfl
theorem w_527 : Cond.instanceMethod (my mX8_applyAll) ∈ lw_gd := tb3 (i := 47) rfl (by first | rfl | decide +kernel)
theorem w_528 : Cond.code (my mX8_applyAll) (mc mX8_applyAll) (mL mX8_applyAll) (mr mX8_applyAll) ∈ lw_gd := tb3 (i := 48) rfl (by first | rfl | decide +kernel)
theorem w_529 : Cond.methodLink RX8 32 (my mX8_applyOne) ∈ lw_gd := tb3 (i := 49) rfl (by first | rfl | decide +kernel)
theorem w_531 : Cond.instanceMethod (my mX8_applyOne) ∈ lw_gd := tb3 (i := 51) rfl (by first | rfl | decide +kernel)
theorem w_532 : Cond.code (my mX8_applyOne) (mc mX8_applyOne) (mL mX8_applyOne) (mr mX8_applyOne) ∈ lw_gd := tb3 (i := 52) rfl (by first | rfl | decide +kernel)
theorem w_533 : Cond.methodLinkNest RX8 82 (my mX5_addPlant) RX10 ∈ lw_nst := nb3 (i := 53) rfl rfl
theorem w_535 : Cond.instanceMethod (my mX5_addPlant) ∈ lw_gd := tb3 (i := 55) rfl (by first | rfl | decide +kernel)
theorem w_536 : Cond.code (my mX5_addPlant) (mc mX5_addPlant) (mL mX5_addPlant) (mr mX5_addPlant) ∈ lw_gd := tb3 (i := 56) rfl (by first | rfl | decide +kernel)
theorem w_537 : Cond.methodLinkNest RX5 59 (my mX3_begin) RX10 ∈ lw_nst := nb3 (i := 57) rfl rfl
theorem w_539 : Cond.instanceMethod (my mX3_begin) ∈ lw_gd := tb3 (i := 59) rfl (by first | rfl | decide +kernel)
theorem w_540 : Cond.code (my mX3_begin) (mc mX3_begin) (mL mX3_begin) (mr mX3_begin) ∈ lw_gd := tb3 (i := 60) rfl (by first | rfl | decide +kernel)
theorem w_541 : Cond.methodLinkNest RX8 88 (my mX5_setRange) RX10 ∈ lw_nst := nb3 (i := 61) rfl rfl
theorem w_543 : Cond.instanceMethod (my mX5_setRange) ∈ lw_gd := tb3 (i := 63) rfl (by first | rfl | decide +kernel)
theorem w_544 : Cond.code (my mX5_setRange) (mc mX5_setRange) (mL mX5_setRange) (mr mX5_setRange) ∈ lw_gd := tb3 (i := 64) rfl (by first | rfl | decide +kernel)
theorem w_545 : Cond.methodLink RX5 63 (my mX5_noPlant) ∈ lw_gd := tb3 (i := 65) rfl (by first | rfl | decide +kernel)
theorem w_547 : Cond.instanceMethod (my mX5_noPlant) ∈ lw_gd := tb3 (i := 67) rfl (by first | rfl | decide +kernel)
theorem w_548 : Cond.code (my mX5_noPlant) (mc mX5_noPlant) (mL mX5_noPlant) (mr mX5_noPlant) ∈ lw_gd := tb3 (i := 68) rfl (by first | rfl | decide +kernel)
theorem w_549 : Cond.methodLinkNest RX8 92 (my mX5_setCosts) RX10 ∈ lw_nst := nb3 (i := 69) rfl rfl
theorem w_551 : Cond.instanceMethod (my mX5_setCosts) ∈ lw_gd := tb3 (i := 71) rfl (by first | rfl | decide +kernel)
theorem w_552 : Cond.code (my mX5_setCosts) (mc mX5_setCosts) (mL mX5_setCosts) (mr mX5_setCosts) ∈ lw_gd := tb3 (i := 72) rfl (by first | rfl | decide +kernel)
theorem w_553 : Cond.methodLinkNest RX8 96 (my mX5_setTimes) RX10 ∈ lw_nst := nb3 (i := 73) rfl rfl
theorem w_555 : Cond.instanceMethod (my mX5_setTimes) ∈ lw_gd := tb3 (i := 75) rfl (by first | rfl | decide +kernel)
theorem w_556 : Cond.code (my mX5_setTimes) (mc mX5_setTimes) (mL mX5_setTimes) (mr mX5_setTimes) ∈ lw_gd := tb3 (i := 76) rfl (by first | rfl | decide +kernel)
theorem w_557 : Cond.methodLinkNest RX8 99 (my mX5_setAge) RX10 ∈ lw_nst := nb3 (i := 77) rfl rfl
theorem w_559 : Cond.instanceMethod (my mX5_setAge) ∈ lw_gd := tb3 (i := 79) rfl (by first | rfl | decide +kernel)
theorem w_560 : Cond.code (my mX5_setAge) (mc mX5_setAge) (mL mX5_setAge) (mr mX5_setAge) ∈ lw_gd := tb3 (i := 80) rfl (by first | rfl | decide +kernel)
theorem w_561 : Cond.methodLinkNest RX8 102 (my mX5_setDemand) RX10 ∈ lw_nst := nb3 (i := 81) rfl rfl
theorem w_563 : Cond.instanceMethod (my mX5_setDemand) ∈ lw_gd := tb3 (i := 83) rfl (by first | rfl | decide +kernel)
theorem w_564 : Cond.code (my mX5_setDemand) (mc mX5_setDemand) (mL mX5_setDemand) (mr mX5_setDemand) ∈ lw_gd := tb3 (i := 84) rfl (by first | rfl | decide +kernel)
theorem w_565 : Cond.methodLink RX5 55 (my mX5_noHour) ∈ lw_gd := tb3 (i := 85) rfl (by first | rfl | decide +kernel)
theorem w_567 : Cond.instanceMethod (my mX5_noHour) ∈ lw_gd := tb3 (i := 87) rfl (by first | rfl | decide +kernel)
theorem w_568 : Cond.code (my mX5_noHour) (mc mX5_noHour) (mL mX5_noHour) (mr mX5_noHour) ∈ lw_gd := tb3 (i := 88) rfl (by first | rfl | decide +kernel)
theorem w_569 : Cond.methodLinkNest RX8 105 (my mX5_setSpan) RX10 ∈ lw_nst := nb3 (i := 89) rfl rfl
theorem w_571 : Cond.instanceMethod (my mX5_setSpan) ∈ lw_gd := tb3 (i := 91) rfl (by first | rfl | decide +kernel)
theorem w_572 : Cond.code (my mX5_setSpan) (mc mX5_setSpan) (mL mX5_setSpan) (mr mX5_setSpan) ∈ lw_gd := tb3 (i := 92) rfl (by first | rfl | decide +kernel)
theorem w_573 : Cond.arrayClass Jvm.ClassFile.FieldType.byte ∈ lw_gd := tb3 (i := 93) rfl (by first | rfl | decide +kernel)
theorem w_574 : Cond.methodLink RL 23 (my mX10_hours) ∈ lw_gd := tb3 (i := 94) rfl (by first | rfl | decide +kernel)
theorem w_575 : Cond.instanceMethod (my mX10_hours) ∈ lw_gd := tb3 (i := 95) rfl (by first | rfl | decide +kernel)
theorem w_576 : Cond.selects RX10 (my mX10_hours) (my mX10_hours) ∈ lw_gd := tb3 (i := 96) rfl (by first | rfl | decide +kernel)
theorem w_577 : Cond.code (my mX10_hours) (mc mX10_hours) (mL mX10_hours) (mr mX10_hours) ∈ lw_gd := tb3 (i := 97) rfl (by first | rfl | decide +kernel)
theorem w_578 : Cond.methodLinkNest RX10 114 (my mX5_setSpan) RX10 ∈ lw_nst := nb3 (i := 98) rfl rfl
theorem w_579 : Cond.methodLink RX10 117 (my mX10_counted) ∈ lw_gd := tb3 (i := 99) rfl (by first | rfl | decide +kernel)
theorem w_581 : Cond.instanceMethod (my mX10_counted) ∈ lw_gd := tb3 (i := 101) rfl (by first | rfl | decide +kernel)
theorem w_582 : Cond.code (my mX10_counted) (mc mX10_counted) (mL mX10_counted) (mr mX10_counted) ∈ lw_gd := tb3 (i := 102) rfl (by first | rfl | decide +kernel)
theorem w_583 : Cond.methodLink RL 27 (my mX10_demand) ∈ lw_gd := tb3 (i := 103) rfl (by first | rfl | decide +kernel)
theorem w_584 : Cond.instanceMethod (my mX10_demand) ∈ lw_gd := tb3 (i := 104) rfl (by first | rfl | decide +kernel)
theorem w_585 : Cond.selects RX10 (my mX10_demand) (my mX10_demand) ∈ lw_gd := tb3 (i := 105) rfl (by first | rfl | decide +kernel)
theorem w_586 : Cond.code (my mX10_demand) (mc mX10_demand) (mL mX10_demand) (mr mX10_demand) ∈ lw_gd := tb3 (i := 106) rfl (by first | rfl | decide +kernel)
theorem w_587 : Cond.methodLinkNest RX10 120 (my mX5_setDemand) RX10 ∈ lw_nst := nb3 (i := 107) rfl rfl
theorem w_588 : Cond.methodLink RL 32 (my mX10_plant) ∈ lw_gd := tb3 (i := 108) rfl (by first | rfl | decide +kernel)
theorem w_589 : Cond.instanceMethod (my mX10_plant) ∈ lw_gd := tb3 (i := 109) rfl (by first | rfl | decide +kernel)
theorem w_590 : Cond.selects RX10 (my mX10_plant) (my mX10_plant) ∈ lw_gd := tb3 (i := 110) rfl (by first | rfl | decide +kernel)
theorem w_591 : Cond.code (my mX10_plant) (mc mX10_plant) (mL mX10_plant) (mr mX10_plant) ∈ lw_gd := tb3 (i := 111) rfl (by first | rfl | decide +kernel)
theorem w_592 : Cond.methodLinkNest RX10 124 (my mX5_addPlant) RX10 ∈ lw_nst := nb3 (i := 112) rfl rfl
theorem w_593 : Cond.methodLink RL 37 (my mX10_gives) ∈ lw_gd := tb3 (i := 113) rfl (by first | rfl | decide +kernel)
theorem w_594 : Cond.instanceMethod (my mX10_gives) ∈ lw_gd := tb3 (i := 114) rfl (by first | rfl | decide +kernel)
theorem w_595 : Cond.selects RX10 (my mX10_gives) (my mX10_gives) ∈ lw_gd := tb3 (i := 115) rfl (by first | rfl | decide +kernel)
theorem w_596 : Cond.code (my mX10_gives) (mc mX10_gives) (mL mX10_gives) (mr mX10_gives) ∈ lw_gd := tb3 (i := 116) rfl (by first | rfl | decide +kernel)
theorem w_597 : Cond.methodLinkNest RX10 128 (my mX5_setRange) RX10 ∈ lw_nst := nb3 (i := 117) rfl rfl
theorem w_598 : Cond.methodLink RL 41 (my mX10_costs) ∈ lw_gd := tb3 (i := 118) rfl (by first | rfl | decide +kernel)
theorem w_599 : Cond.instanceMethod (my mX10_costs) ∈ lw_gd := tb3 (i := 119) rfl (by first | rfl | decide +kernel)
theorem w_600 : Cond.selects RX10 (my mX10_costs) (my mX10_costs) ∈ lw_gd := tb3 (i := 120) rfl (by first | rfl | decide +kernel)
theorem w_601 : Cond.code (my mX10_costs) (mc mX10_costs) (mL mX10_costs) (mr mX10_costs) ∈ lw_gd := tb3 (i := 121) rfl (by first | rfl | decide +kernel)
theorem w_602 : Cond.methodLinkNest RX10 131 (my mX5_setCosts) RX10 ∈ lw_nst := nb3 (i := 122) rfl rfl
theorem w_603 : Cond.methodLink RL 46 (my mX10_times) ∈ lw_gd := tb3 (i := 123) rfl (by first | rfl | decide +kernel)
theorem w_604 : Cond.instanceMethod (my mX10_times) ∈ lw_gd := tb3 (i := 124) rfl (by first | rfl | decide +kernel)
theorem w_605 : Cond.selects RX10 (my mX10_times) (my mX10_times) ∈ lw_gd := tb3 (i := 125) rfl (by first | rfl | decide +kernel)
theorem w_606 : Cond.code (my mX10_times) (mc mX10_times) (mL mX10_times) (mr mX10_times) ∈ lw_gd := tb3 (i := 126) rfl (by first | rfl | decide +kernel)
theorem w_607 : Cond.methodLinkNest RX10 135 (my mX5_setTimes) RX10 ∈ lw_nst := nb3 (i := 127) rfl rfl
theorem w_608 : Cond.methodLink RL 50 (my mX10_age) ∈ lw_gd := tb3 (i := 128) rfl (by first | rfl | decide +kernel)
theorem w_609 : Cond.instanceMethod (my mX10_age) ∈ lw_gd := tb3 (i := 129) rfl (by first | rfl | decide +kernel)
theorem w_610 : Cond.selects RX10 (my mX10_age) (my mX10_age) ∈ lw_gd := tb3 (i := 130) rfl (by first | rfl | decide +kernel)
theorem w_611 : Cond.code (my mX10_age) (mc mX10_age) (mL mX10_age) (mr mX10_age) ∈ lw_gd := tb3 (i := 131) rfl (by first | rfl | decide +kernel)
theorem w_612 : Cond.methodLinkNest RX10 138 (my mX5_setAge) RX10 ∈ lw_nst := nb3 (i := 132) rfl rfl
theorem w_613 : Cond.methodLink RL 54 (my mX10_merit) ∈ lw_gd := tb3 (i := 133) rfl (by first | rfl | decide +kernel)
theorem w_614 : Cond.instanceMethod (my mX10_merit) ∈ lw_gd := tb3 (i := 134) rfl (by first | rfl | decide +kernel)
theorem w_615 : Cond.selects RX10 (my mX10_merit) (my mX10_merit) ∈ lw_gd := tb3 (i := 135) rfl (by first | rfl | decide +kernel)
theorem w_616 : Cond.code (my mX10_merit) (mc mX10_merit) (mL mX10_merit) (mr mX10_merit) ∈ lw_gd := tb3 (i := 136) rfl (by first | rfl | decide +kernel)
theorem w_617 : Cond.methodLink RL 58 (my mX10_of) ∈ lw_gd := tb3 (i := 137) rfl (by first | rfl | decide +kernel)
theorem w_618 : Cond.instanceMethod (my mX10_of) ∈ lw_gd := tb3 (i := 138) rfl (by first | rfl | decide +kernel)
theorem w_619 : Cond.selects RX10 (my mX10_of) (my mX10_of) ∈ lw_gd := tb3 (i := 139) rfl (by first | rfl | decide +kernel)
theorem w_620 : Cond.code (my mX10_of) (mc mX10_of) (mL mX10_of) (mr mX10_of) ∈ lw_gd := tb3 (i := 140) rfl (by first | rfl | decide +kernel)
theorem w_621 : Cond.methodLinkNest RX10 144 (my mX5_noPlant) RX10 ∈ lw_nst := nb3 (i := 141) rfl rfl
theorem w_622 : Cond.methodLinkNest RX10 152 (my mX3_figureOf) RX10 ∈ lw_nst := nb3 (i := 142) rfl rfl
theorem w_624 : Cond.instanceMethod (my mX3_figureOf) ∈ lw_gd := tb3 (i := 144) rfl (by first | rfl | decide +kernel)
theorem w_625 : Cond.code (my mX3_figureOf) (mc mX3_figureOf) (mL mX3_figureOf) (mr mX3_figureOf) ∈ lw_gd := tb3 (i := 145) rfl (by first | rfl | decide +kernel)
theorem w_626 : Cond.methodLink RX3 42 (my mX3_least) ∈ lw_gd := tb3 (i := 146) rfl (by first | rfl | decide +kernel)
theorem w_628 : Cond.instanceMethod (my mX3_least) ∈ lw_gd := tb3 (i := 148) rfl (by first | rfl | decide +kernel)
theorem w_629 : Cond.code (my mX3_least) (mc mX3_least) (mL mX3_least) (mr mX3_least) ∈ lw_gd := tb3 (i := 149) rfl (by first | rfl | decide +kernel)
theorem w_630 : Cond.methodLink RX3 46 (my mX3_most) ∈ lw_gd := tb3 (i := 150) rfl (by first | rfl | decide +kernel)
theorem w_632 : Cond.instanceMethod (my mX3_most) ∈ lw_gd := tb3 (i := 152) rfl (by first | rfl | decide +kernel)
theorem w_633 : Cond.code (my mX3_most) (mc mX3_most) (mL mX3_most) (mr mX3_most) ∈ lw_gd := tb3 (i := 153) rfl (by first | rfl | decide +kernel)
theorem w_634 : Cond.methodLink RX3 54 (my mX3_kindIsUnder) ∈ lw_gd := tb3 (i := 154) rfl (by first | rfl | decide +kernel)
theorem w_635 : Cond.static (my mX3_kindIsUnder) ∈ lw_gd := tb3 (i := 155) rfl (by first | rfl | decide +kernel)
theorem w_636 : Cond.code (my mX3_kindIsUnder) (mc mX3_kindIsUnder) (mL mX3_kindIsUnder) (mr mX3_kindIsUnder) ∈ lw_gd := tb3 (i := 156) rfl (by first | rfl | decide +kernel)
theorem w_637 : Cond.fieldLinkNest RX3 50 RX10 "KIND_ABOVE" "[I" RX10 ∈ lw_nst := nb3 (i := 157) rfl rfl
theorem w_638 : Cond.laysStatic "PlantsCommitted" "KIND_ABOVE" "[I" ∈ lw_tbl := rb3 (i := 158) rfl
theorem w_639 : Cond.methodLink RX3 58 (my mJ9_min_7cf53) ∈ lw_gd := tb3 (i := 159) rfl (by first | rfl | decide +kernel)
theorem w_640 : Cond.static (my mJ9_min_7cf53) ∈ lw_gd := tb3 (i := 160) rfl (by first | rfl | decide +kernel)
theorem w_641 : Cond.code (my mJ9_min_7cf53) (mc mJ9_min_7cf53) (mL mJ9_min_7cf53) (mr mJ9_min_7cf53) ∈ lw_gd := tb3 (i := 161) rfl (by first | rfl | decide +kernel)
theorem w_642 : Cond.methodLink RL 62 (my mX10_starts) ∈ lw_gd := tb3 (i := 162) rfl (by first | rfl | decide +kernel)
theorem w_643 : Cond.instanceMethod (my mX10_starts) ∈ lw_gd := tb3 (i := 163) rfl (by first | rfl | decide +kernel)
theorem w_644 : Cond.selects RX10 (my mX10_starts) (my mX10_starts) ∈ lw_gd := tb3 (i := 164) rfl (by first | rfl | decide +kernel)
theorem w_645 : Cond.code (my mX10_starts) (mc mX10_starts) (mL mX10_starts) (mr mX10_starts) ∈ lw_gd := tb3 (i := 165) rfl (by first | rfl | decide +kernel)
theorem w_646 : Cond.methodLinkNest RX10 157 (my mX3_startBehind) RX10 ∈ lw_nst := nb3 (i := 166) rfl rfl
theorem w_648 : Cond.instanceMethod (my mX3_startBehind) ∈ lw_gd := tb3 (i := 168) rfl (by first | rfl | decide +kernel)
theorem w_649 : Cond.code (my mX3_startBehind) (mc mX3_startBehind) (mL mX3_startBehind) (mr mX3_startBehind) ∈ lw_gd := tb3 (i := 169) rfl (by first | rfl | decide +kernel)
theorem w_650 : Cond.methodLink RX3 64 (my mX3_startOf) ∈ lw_gd := tb3 (i := 170) rfl (by first | rfl | decide +kernel)
theorem w_651 : Cond.static (my mX3_startOf) ∈ lw_gd := tb3 (i := 171) rfl (by first | rfl | decide +kernel)
theorem w_652 : Cond.code (my mX3_startOf) (mc mX3_startOf) (mL mX3_startOf) (mr mX3_startOf) ∈ lw_gd := tb3 (i := 172) rfl (by first | rfl | decide +kernel)
theorem w_653 : Cond.methodLink RL 66 (my mX10_lawful) ∈ lw_gd := tb3 (i := 173) rfl (by first | rfl | decide +kernel)
theorem w_654 : Cond.instanceMethod (my mX10_lawful) ∈ lw_gd := tb3 (i := 174) rfl (by first | rfl | decide +kernel)
theorem w_655 : Cond.selects RX10 (my mX10_lawful) (my mX10_lawful) ∈ lw_gd := tb3 (i := 175) rfl (by first | rfl | decide +kernel)
theorem w_656 : Cond.code (my mX10_lawful) (mc mX10_lawful) (mL mX10_lawful) (mr mX10_lawful) ∈ lw_gd := tb3 (i := 176) rfl (by first | rfl | decide +kernel)
theorem w_657 : Cond.methodLinkNest RX10 163 (my mX3_mayRun) RX10 ∈ lw_nst := nb3 (i := 177) rfl rfl
theorem w_659 : Cond.instanceMethod (my mX3_mayRun) ∈ lw_gd := tb3 (i := 179) rfl (by first | rfl | decide +kernel)
theorem w_660 : Cond.code (my mX3_mayRun) (mc mX3_mayRun) (mL mX3_mayRun) (mr mX3_mayRun) ∈ lw_gd := tb3 (i := 180) rfl (by first | rfl | decide +kernel)
theorem w_661 : Cond.methodLink RX3 71 (my mX3_moved) ∈ lw_gd := tb3 (i := 181) rfl (by first | rfl | decide +kernel)
theorem w_663 : Cond.instanceMethod (my mX3_moved) ∈ lw_gd := tb3 (i := 183) rfl (by first | rfl | decide +kernel)
theorem w_664 : Cond.code (my mX3_moved) (mc mX3_moved) (mL mX3_moved) (mr mX3_moved) ∈ lw_gd := tb3 (i := 184) rfl (by first | rfl | decide +kernel)
theorem w_665 : Cond.methodLink RX3 68 (my mJ9_max_7cf53) ∈ lw_gd := tb3 (i := 185) rfl (by first | rfl | decide +kernel)
theorem w_666 : Cond.static (my mJ9_max_7cf53) ∈ lw_gd := tb3 (i := 186) rfl (by first | rfl | decide +kernel)
theorem w_667 : Cond.code (my mJ9_max_7cf53) (mc mJ9_max_7cf53) (mL mJ9_max_7cf53) (mr mJ9_max_7cf53) ∈ lw_gd := tb3 (i := 187) rfl (by first | rfl | decide +kernel)
theorem w_668 : Cond.methodLink RL 70 (my mX10_rows) ∈ lw_gd := tb3 (i := 188) rfl (by first | rfl | decide +kernel)
theorem w_669 : Cond.instanceMethod (my mX10_rows) ∈ lw_gd := tb3 (i := 189) rfl (by first | rfl | decide +kernel)
theorem w_670 : Cond.selects RX10 (my mX10_rows) (my mX10_rows) ∈ lw_gd := tb3 (i := 190) rfl (by first | rfl | decide +kernel)
theorem w_671 : Cond.code (my mX10_rows) (mc mX10_rows) (mL mX10_rows) (mr mX10_rows) ∈ lw_gd := tb3 (i := 191) rfl (by first | rfl | decide +kernel)
theorem w_672 : Cond.methodLink RL 74 (my mX10_done) ∈ lw_gd := tb3 (i := 192) rfl (by first | rfl | decide +kernel)
theorem w_673 : Cond.instanceMethod (my mX10_done) ∈ lw_gd := tb3 (i := 193) rfl (by first | rfl | decide +kernel)
theorem w_674 : Cond.selects RX10 (my mX10_done) (my mX10_done) ∈ lw_gd := tb3 (i := 194) rfl (by first | rfl | decide +kernel)
theorem w_675 : Cond.code (my mX10_done) (mc mX10_done) (mL mX10_done) (mr mX10_done) ∈ lw_gd := tb3 (i := 195) rfl (by first | rfl | decide +kernel)
theorem w_676 : Cond.methodLinkNest RX10 167 (my mX5_noHour) RX10 ∈ lw_nst := nb3 (i := 196) rfl rfl
theorem w_677 : Cond.methodLink RX10 170 (my mX10_refusalOfSet) ∈ lw_gd := tb3 (i := 197) rfl (by first | rfl | decide +kernel)
theorem w_679 : Cond.instanceMethod (my mX10_refusalOfSet) ∈ lw_gd := tb3 (i := 199) rfl (by first | rfl | decide +kernel)
theorem w_680 : Cond.code (my mX10_refusalOfSet) (mc mX10_refusalOfSet) (mL mX10_refusalOfSet) (mr mX10_refusalOfSet) ∈ lw_gd := tb3 (i := 200) rfl (by first | rfl | decide +kernel)
theorem w_681 : Cond.methodLinkNest RX10 173 (my mX0_ready) RX10 ∈ lw_nst := nb3 (i := 201) rfl rfl
theorem w_683 : Cond.instanceMethod (my mX0_ready) ∈ lw_gd := tb3 (i := 203) rfl (by first | rfl | decide +kernel)
theorem w_684 : Cond.code (my mX0_ready) (mc mX0_ready) (mL mX0_ready) (mr mX0_ready) ∈ lw_gd := tb3 (i := 204) rfl (by first | rfl | decide +kernel)
theorem w_685 : Cond.methodLinkNest RX0 44 (my mX3_least) RX10 ∈ lw_nst := nb3 (i := 205) rfl rfl
theorem w_686 : Cond.methodLinkNest RX0 49 (my mX3_most) RX10 ∈ lw_nst := nb3 (i := 206) rfl rfl
theorem w_687 : Cond.methodLink RX0 59 (my mX0_comesAhead) ∈ lw_gd := tb3 (i := 207) rfl (by first | rfl | decide +kernel)
theorem w_688 : Cond.static (my mX0_comesAhead) ∈ lw_gd := tb3 (i := 208) rfl (by first | rfl | decide +kernel)
theorem w_689 : Cond.code (my mX0_comesAhead) (mc mX0_comesAhead) (mL mX0_comesAhead) (mr mX0_comesAhead) ∈ lw_gd := tb3 (i := 209) rfl (by first | rfl | decide +kernel)
theorem w_690 : Cond.methodLinkNest RX10 182 (my mX0_share) RX10 ∈ lw_nst := nb3 (i := 210) rfl rfl
theorem w_692 : Cond.instanceMethod (my mX0_share) ∈ lw_gd := tb3 (i := 212) rfl (by first | rfl | decide +kernel)
theorem w_693 : Cond.code (my mX0_share) (mc mX0_share) (mL mX0_share) (mr mX0_share) ∈ lw_gd := tb3 (i := 213) rfl (by first | rfl | decide +kernel)
theorem w_694 : Cond.methodLink RX0 66 (my mX0_mostOf) ∈ lw_gd := tb3 (i := 214) rfl (by first | rfl | decide +kernel)
theorem w_696 : Cond.instanceMethod (my mX0_mostOf) ∈ lw_gd := tb3 (i := 216) rfl (by first | rfl | decide +kernel)
theorem w_697 : Cond.code (my mX0_mostOf) (mc mX0_mostOf) (mL mX0_mostOf) (mr mX0_mostOf) ∈ lw_gd := tb3 (i := 217) rfl (by first | rfl | decide +kernel)
theorem w_698 : Cond.methodLink RX0 70 (my mJ9_min_7cf53) ∈ lw_gd := tb3 (i := 218) rfl (by first | rfl | decide +kernel)
theorem w_699 : Cond.methodLink RL 78 (my mX10_given) ∈ lw_gd := tb3 (i := 219) rfl (by first | rfl | decide +kernel)
theorem w_700 : Cond.instanceMethod (my mX10_given) ∈ lw_gd := tb3 (i := 220) rfl (by first | rfl | decide +kernel)
theorem w_701 : Cond.selects RX10 (my mX10_given) (my mX10_given) ∈ lw_gd := tb3 (i := 221) rfl (by first | rfl | decide +kernel)
theorem w_702 : Cond.code (my mX10_given) (mc mX10_given) (mL mX10_given) (mr mX10_given) ∈ lw_gd := tb3 (i := 222) rfl (by first | rfl | decide +kernel)
theorem w_703 : Cond.methodLink RL 82 (my mX10_best) ∈ lw_gd := tb3 (i := 223) rfl (by first | rfl | decide +kernel)
theorem w_704 : Cond.instanceMethod (my mX10_best) ∈ lw_gd := tb3 (i := 224) rfl (by first | rfl | decide +kernel)
theorem w_705 : Cond.selects RX10 (my mX10_best) (my mX10_best) ∈ lw_gd := tb3 (i := 225) rfl (by first | rfl | decide +kernel)
theorem w_706 : Cond.code (my mX10_best) (mc mX10_best) (mL mX10_best) (mr mX10_best) ∈ lw_gd := tb3 (i := 226) rfl (by first | rfl | decide +kernel)
theorem w_707 : Cond.methodLink RX10 188 (my mX10_solveAsIs) ∈ lw_gd := tb3 (i := 227) rfl (by first | rfl | decide +kernel)
theorem w_709 : Cond.instanceMethod (my mX10_solveAsIs) ∈ lw_gd := tb3 (i := 229) rfl (by first | rfl | decide +kernel)
theorem w_710 : Cond.code (my mX10_solveAsIs) (mc mX10_solveAsIs) (mL mX10_solveAsIs) (mr mX10_solveAsIs) ∈ lw_gd := tb3 (i := 230) rfl (by first | rfl | decide +kernel)
theorem w_711 : Cond.methodLinkNest RX10 203 (my mX7_load) RX10 ∈ lw_nst := nb3 (i := 231) rfl rfl
theorem w_713 : Cond.instanceMethod (my mX7_load) ∈ lw_gd := tb3 (i := 233) rfl (by first | rfl | decide +kernel)
theorem w_714 : Cond.code (my mX7_load) (mc mX7_load) (mL mX7_load) (mr mX7_load) ∈ lw_gd := tb3 (i := 234) rfl (by first | rfl | decide +kernel)
theorem w_715 : Cond.methodLink RX7 59 (⟨"java/lang/System", "arraycopy", "(Ljava/lang/Object;ILjava/lang/Object;II)V"⟩ : MethodName) ∈ lw_gd := tb3 (i := 235) rfl (by first | rfl | decide +kernel)
theorem w_716 : Cond.methodLinkNest RX10 207 (my mX7_solve) RX10 ∈ lw_nst := nb3 (i := 236) rfl rfl
theorem w_718 : Cond.instanceMethod (my mX7_solve) ∈ lw_gd := tb3 (i := 238) rfl (by first | rfl | decide +kernel)
theorem w_719 : Cond.code (my mX7_solve) (mc mX7_solve) (mL mX7_solve) (mr mX7_solve) ∈ lw_gd := tb3 (i := 239) rfl (by first | rfl | decide +kernel)
theorem w_720 : Cond.methodLinkNest RX7 69 (my mX0_ready) RX10 ∈ lw_nst := nb4 (i := 0) rfl rfl
theorem w_721 : Cond.methodLink RX7 79 (my mX7_layTables) ∈ lw_gd := tb4 (i := 1) rfl (by first | rfl | decide +kernel)
theorem w_723 : Cond.instanceMethod (my mX7_layTables) ∈ lw_gd := tb4 (i := 3) rfl (by first | rfl | decide +kernel)
theorem w_724 : Cond.code (my mX7_layTables) (mc mX7_layTables) (mL mX7_layTables) (mr mX7_layTables) ∈ lw_gd := tb4 (i := 4) rfl (by first | rfl | decide +kernel)
theorem w_725 : Cond.methodLink RX7 113 (my mX7_layMove) ∈ lw_gd := tb4 (i := 5) rfl (by first | rfl | decide +kernel)
theorem w_727 : Cond.instanceMethod (my mX7_layMove) ∈ lw_gd := tb4 (i := 7) rfl (by first | rfl | decide +kernel)
theorem w_728 : Cond.code (my mX7_layMove) (mc mX7_layMove) (mL mX7_layMove) (mr mX7_layMove) ∈ lw_gd := tb4 (i := 8) rfl (by first | rfl | decide +kernel)
theorem w_729 : Cond.methodLinkNest RX7 117 (my mX3_isUnder) RX10 ∈ lw_nst := nb4 (i := 9) rfl rfl
theorem w_731 : Cond.instanceMethod (my mX3_isUnder) ∈ lw_gd := tb4 (i := 11) rfl (by first | rfl | decide +kernel)
theorem w_732 : Cond.code (my mX3_isUnder) (mc mX3_isUnder) (mL mX3_isUnder) (mr mX3_isUnder) ∈ lw_gd := tb4 (i := 12) rfl (by first | rfl | decide +kernel)
theorem w_733 : Cond.methodLinkNest RX7 129 (my mX3_moved) RX10 ∈ lw_nst := nb4 (i := 13) rfl rfl
theorem w_734 : Cond.methodLink RX7 133 (my mX7_placeOf) ∈ lw_gd := tb4 (i := 14) rfl (by first | rfl | decide +kernel)
theorem w_735 : Cond.static (my mX7_placeOf) ∈ lw_gd := tb4 (i := 15) rfl (by first | rfl | decide +kernel)
theorem w_736 : Cond.code (my mX7_placeOf) (mc mX7_placeOf) (mL mX7_placeOf) (mr mX7_placeOf) ∈ lw_gd := tb4 (i := 16) rfl (by first | rfl | decide +kernel)
theorem w_737 : Cond.methodLink RX7 100 (my mJ9_min_7cf53) ∈ lw_gd := tb4 (i := 17) rfl (by first | rfl | decide +kernel)
theorem w_738 : Cond.methodLinkNest RX7 137 (my mX3_startBehind) RX10 ∈ lw_nst := nb4 (i := 18) rfl rfl
theorem w_739 : Cond.constant RX7 83 (2147483647) ∈ lw_gd := tb4 (i := 19) rfl (by first | rfl | decide +kernel)
theorem w_740 : Cond.methodLink RX7 84 (my mJ7_fill_fda19) ∈ lw_gd := tb4 (i := 20) rfl (by first | rfl | decide +kernel)
theorem w_741 : Cond.static (my mJ7_fill_fda19) ∈ lw_gd := tb4 (i := 21) rfl (by first | rfl | decide +kernel)
theorem w_742 : Cond.code (my mJ7_fill_fda19) (mc mJ7_fill_fda19) (mL mJ7_fill_fda19) (mr mJ7_fill_fda19) ∈ lw_gd := tb4 (i := 22) rfl (by first | rfl | decide +kernel)
theorem w_743 : Cond.methodLink RJ7 13 (my mJ7_rangeCheck_23922) ∈ lw_gd := tb4 (i := 23) rfl (by first | rfl | decide +kernel)
theorem w_744 : Cond.static (my mJ7_rangeCheck_23922) ∈ lw_gd := tb4 (i := 24) rfl (by first | rfl | decide +kernel)
theorem w_745 : Cond.code (my mJ7_rangeCheck_23922) (mc mJ7_rangeCheck_23922) (mL mJ7_rangeCheck_23922) (mr mJ7_rangeCheck_23922) ∈ lw_gd := tb4 (i := 25) rfl (by first | rfl | decide +kernel)
theorem w_746 : Cond.methodLink RX7 93 (my mX7_layHourCosts) ∈ lw_gd := tb4 (i := 26) rfl (by first | rfl | decide +kernel)
theorem w_748 : Cond.instanceMethod (my mX7_layHourCosts) ∈ lw_gd := tb4 (i := 28) rfl (by first | rfl | decide +kernel)
theorem w_749 : Cond.code (my mX7_layHourCosts) (mc mX7_layHourCosts) (mL mX7_layHourCosts) (mr mX7_layHourCosts) ∈ lw_gd := tb4 (i := 29) rfl (by first | rfl | decide +kernel)
theorem w_750 : Cond.methodLinkNest RX7 143 (my mX0_share) RX10 ∈ lw_nst := nb4 (i := 30) rfl rfl
theorem w_751 : Cond.methodLink RX7 97 (my mX7_spread) ∈ lw_gd := tb4 (i := 31) rfl (by first | rfl | decide +kernel)
theorem w_753 : Cond.instanceMethod (my mX7_spread) ∈ lw_gd := tb4 (i := 33) rfl (by first | rfl | decide +kernel)
theorem w_754 : Cond.code (my mX7_spread) (mc mX7_spread) (mL mX7_spread) (mr mX7_spread) ∈ lw_gd := tb4 (i := 34) rfl (by first | rfl | decide +kernel)
theorem w_755 : Cond.methodLink RX7 146 (my mX7_spreadFrom) ∈ lw_gd := tb4 (i := 35) rfl (by first | rfl | decide +kernel)
theorem w_757 : Cond.instanceMethod (my mX7_spreadFrom) ∈ lw_gd := tb4 (i := 37) rfl (by first | rfl | decide +kernel)
theorem w_758 : Cond.code (my mX7_spreadFrom) (mc mX7_spreadFrom) (mL mX7_spreadFrom) (mr mX7_spreadFrom) ∈ lw_gd := tb4 (i := 38) rfl (by first | rfl | decide +kernel)
theorem w_759 : Cond.methodLink RX7 110 (my mX7_rowShift) ∈ lw_gd := tb4 (i := 39) rfl (by first | rfl | decide +kernel)
theorem w_760 : Cond.static (my mX7_rowShift) ∈ lw_gd := tb4 (i := 40) rfl (by first | rfl | decide +kernel)
theorem w_761 : Cond.code (my mX7_rowShift) (mc mX7_rowShift) (mL mX7_rowShift) (mr mX7_rowShift) ∈ lw_gd := tb4 (i := 41) rfl (by first | rfl | decide +kernel)
theorem w_762 : Cond.methodLink RX7 106 (my mX7_keepRows) ∈ lw_gd := tb4 (i := 42) rfl (by first | rfl | decide +kernel)
theorem w_764 : Cond.instanceMethod (my mX7_keepRows) ∈ lw_gd := tb4 (i := 44) rfl (by first | rfl | decide +kernel)
theorem w_765 : Cond.code (my mX7_keepRows) (mc mX7_keepRows) (mL mX7_keepRows) (mr mX7_keepRows) ∈ lw_gd := tb4 (i := 45) rfl (by first | rfl | decide +kernel)
theorem w_766 : Cond.methodLink RL 86 (my mX10_row) ∈ lw_gd := tb4 (i := 46) rfl (by first | rfl | decide +kernel)
theorem w_767 : Cond.instanceMethod (my mX10_row) ∈ lw_gd := tb4 (i := 47) rfl (by first | rfl | decide +kernel)
theorem w_768 : Cond.selects RX10 (my mX10_row) (my mX10_row) ∈ lw_gd := tb4 (i := 48) rfl (by first | rfl | decide +kernel)
theorem w_769 : Cond.code (my mX10_row) (mc mX10_row) (mL mX10_row) (mr mX10_row) ∈ lw_gd := tb4 (i := 49) rfl (by first | rfl | decide +kernel)
theorem w_770 : Cond.methodLink RL 90 (my mX10_cost) ∈ lw_gd := tb4 (i := 50) rfl (by first | rfl | decide +kernel)
theorem w_771 : Cond.instanceMethod (my mX10_cost) ∈ lw_gd := tb4 (i := 51) rfl (by first | rfl | decide +kernel)
theorem w_772 : Cond.selects RX10 (my mX10_cost) (my mX10_cost) ∈ lw_gd := tb4 (i := 52) rfl (by first | rfl | decide +kernel)
theorem w_773 : Cond.code (my mX10_cost) (mc mX10_cost) (mL mX10_cost) (mr mX10_cost) ∈ lw_gd := tb4 (i := 53) rfl (by first | rfl | decide +kernel)
theorem w_774 : Cond.methodLinkNest RX10 194 (my mX9_begin) RX10 ∈ lw_nst := nb4 (i := 54) rfl rfl
theorem w_776 : Cond.instanceMethod (my mX9_begin) ∈ lw_gd := tb4 (i := 56) rfl (by first | rfl | decide +kernel)
theorem w_777 : Cond.code (my mX9_begin) (mc mX9_begin) (mL mX9_begin) (mr mX9_begin) ∈ lw_gd := tb4 (i := 57) rfl (by first | rfl | decide +kernel)
theorem w_778 : Cond.methodLinkNest RX9 23 (my mX0_ready) RX10 ∈ lw_nst := nb4 (i := 58) rfl rfl
theorem w_779 : Cond.methodLinkNest RX10 197 (my mX7_setAt) RX10 ∈ lw_nst := nb4 (i := 59) rfl rfl
theorem w_781 : Cond.instanceMethod (my mX7_setAt) ∈ lw_gd := tb4 (i := 61) rfl (by first | rfl | decide +kernel)
theorem w_782 : Cond.code (my mX7_setAt) (mc mX7_setAt) (mL mX7_setAt) (mr mX7_setAt) ∈ lw_gd := tb4 (i := 62) rfl (by first | rfl | decide +kernel)
theorem w_783 : Cond.methodLinkNest RX10 200 (my mX9_pass) RX10 ∈ lw_nst := nb4 (i := 63) rfl rfl
theorem w_785 : Cond.instanceMethod (my mX9_pass) ∈ lw_gd := tb4 (i := 65) rfl (by first | rfl | decide +kernel)
theorem w_786 : Cond.code (my mX9_pass) (mc mX9_pass) (mL mX9_pass) (mr mX9_pass) ∈ lw_gd := tb4 (i := 66) rfl (by first | rfl | decide +kernel)
theorem w_787 : Cond.methodLink RX9 62 (my mX9_tried) ∈ lw_gd := tb4 (i := 67) rfl (by first | rfl | decide +kernel)
theorem w_789 : Cond.instanceMethod (my mX9_tried) ∈ lw_gd := tb4 (i := 69) rfl (by first | rfl | decide +kernel)
theorem w_790 : Cond.code (my mX9_tried) (mc mX9_tried) (mL mX9_tried) (mr mX9_tried) ∈ lw_gd := tb4 (i := 70) rfl (by first | rfl | decide +kernel)
theorem w_791 : Cond.methodLinkNest RX9 44 (my mX3_moved) RX10 ∈ lw_nst := nb4 (i := 71) rfl rfl
theorem w_792 : Cond.methodLinkNest RX9 48 (my mX3_startBehind) RX10 ∈ lw_nst := nb4 (i := 72) rfl rfl
theorem w_793 : Cond.methodLinkNest RX9 58 (my mX0_share) RX10 ∈ lw_nst := nb4 (i := 73) rfl rfl
theorem w_794 : Cond.methodLink RL 94 (my mX10_margin) ∈ lw_gd := tb4 (i := 74) rfl (by first | rfl | decide +kernel)
theorem w_795 : Cond.instanceMethod (my mX10_margin) ∈ lw_gd := tb4 (i := 75) rfl (by first | rfl | decide +kernel)
theorem w_796 : Cond.selects RX10 (my mX10_margin) (my mX10_margin) ∈ lw_gd := tb4 (i := 76) rfl (by first | rfl | decide +kernel)
theorem w_797 : Cond.code (my mX10_margin) (mc mX10_margin) (mL mX10_margin) (mr mX10_margin) ∈ lw_gd := tb4 (i := 77) rfl (by first | rfl | decide +kernel)
theorem w_798 : Cond.methodLink RX10 210 (my mX10_difference) ∈ lw_gd := tb4 (i := 78) rfl (by first | rfl | decide +kernel)
theorem w_799 : Cond.static (my mX10_difference) ∈ lw_gd := tb4 (i := 79) rfl (by first | rfl | decide +kernel)
theorem w_800 : Cond.code (my mX10_difference) (mc mX10_difference) (mL mX10_difference) (mr mX10_difference) ∈ lw_gd := tb4 (i := 80) rfl (by first | rfl | decide +kernel)
theorem w_801 : Cond.constant RX10 340 (-99999) ∈ lw_gd := tb4 (i := 81) rfl (by first | rfl | decide +kernel)
theorem w_802 : Cond.methodLink RL 98 (my mX10_worth) ∈ lw_gd := tb4 (i := 82) rfl (by first | rfl | decide +kernel)
theorem w_803 : Cond.instanceMethod (my mX10_worth) ∈ lw_gd := tb4 (i := 83) rfl (by first | rfl | decide +kernel)
theorem w_804 : Cond.selects RX10 (my mX10_worth) (my mX10_worth) ∈ lw_gd := tb4 (i := 84) rfl (by first | rfl | decide +kernel)
theorem w_805 : Cond.code (my mX10_worth) (mc mX10_worth) (mL mX10_worth) (mr mX10_worth) ∈ lw_gd := tb4 (i := 85) rfl (by first | rfl | decide +kernel)
theorem w_806 : Cond.methodLink RL 102 (my mX10_hand) ∈ lw_gd := tb4 (i := 86) rfl (by first | rfl | decide +kernel)
theorem w_807 : Cond.instanceMethod (my mX10_hand) ∈ lw_gd := tb4 (i := 87) rfl (by first | rfl | decide +kernel)
theorem w_808 : Cond.selects RX10 (my mX10_hand) (my mX10_hand) ∈ lw_gd := tb4 (i := 88) rfl (by first | rfl | decide +kernel)
theorem w_809 : Cond.code (my mX10_hand) (mc mX10_hand) (mL mX10_hand) (mr mX10_hand) ∈ lw_gd := tb4 (i := 89) rfl (by first | rfl | decide +kernel)
theorem w_810 : Cond.methodLink RX10 216 (my mX10_canKeep) ∈ lw_gd := tb4 (i := 90) rfl (by first | rfl | decide +kernel)
theorem w_812 : Cond.instanceMethod (my mX10_canKeep) ∈ lw_gd := tb4 (i := 92) rfl (by first | rfl | decide +kernel)
theorem w_813 : Cond.code (my mX10_canKeep) (mc mX10_canKeep) (mL mX10_canKeep) (mr mX10_canKeep) ∈ lw_gd := tb4 (i := 93) rfl (by first | rfl | decide +kernel)
theorem w_814 : Cond.methodLink RL 106 (my mX10_likely) ∈ lw_gd := tb4 (i := 94) rfl (by first | rfl | decide +kernel)
theorem w_815 : Cond.instanceMethod (my mX10_likely) ∈ lw_gd := tb4 (i := 95) rfl (by first | rfl | decide +kernel)
theorem w_816 : Cond.selects RX10 (my mX10_likely) (my mX10_likely) ∈ lw_gd := tb4 (i := 96) rfl (by first | rfl | decide +kernel)
theorem w_817 : Cond.code (my mX10_likely) (mc mX10_likely) (mL mX10_likely) (mr mX10_likely) ∈ lw_gd := tb4 (i := 97) rfl (by first | rfl | decide +kernel)
theorem w_818 : Cond.methodLink RX10 219 (my mX10_refuseLong) ∈ lw_gd := tb4 (i := 98) rfl (by first | rfl | decide +kernel)
theorem w_820 : Cond.instanceMethod (my mX10_refuseLong) ∈ lw_gd := tb4 (i := 100) rfl (by first | rfl | decide +kernel)
theorem w_821 : Cond.code (my mX10_refuseLong) (mc mX10_refuseLong) (mL mX10_refuseLong) (mr mX10_refuseLong) ∈ lw_gd := tb4 (i := 101) rfl (by first | rfl | decide +kernel)
theorem w_822 : Cond.constantLong RX10 338 (4000000000000000000) ∈ lw_gd := tb4 (i := 102) rfl (by first | rfl | decide +kernel)
theorem w_823 : Cond.methodLink RX10 224 (my mJ6_bitCount_0f7a4) ∈ lw_gd := tb4 (i := 103) rfl (by first | rfl | decide +kernel)
theorem w_824 : Cond.static (my mJ6_bitCount_0f7a4) ∈ lw_gd := tb4 (i := 104) rfl (by first | rfl | decide +kernel)
theorem w_825 : Cond.code (my mJ6_bitCount_0f7a4) (mc mJ6_bitCount_0f7a4) (mL mJ6_bitCount_0f7a4) (mr mJ6_bitCount_0f7a4) ∈ lw_gd := tb4 (i := 105) rfl (by first | rfl | decide +kernel)
theorem w_826 : Cond.constant RJ6 265 (1431655765) ∈ lw_gd := tb4 (i := 106) rfl (by first | rfl | decide +kernel)
theorem w_827 : Cond.constant RJ6 266 (858993459) ∈ lw_gd := tb4 (i := 107) rfl (by first | rfl | decide +kernel)
theorem w_828 : Cond.constant RJ6 267 (252645135) ∈ lw_gd := tb4 (i := 108) rfl (by first | rfl | decide +kernel)
theorem w_829 : Cond.methodLink RX10 229 (my mX10_power) ∈ lw_gd := tb4 (i := 109) rfl (by first | rfl | decide +kernel)
theorem w_830 : Cond.static (my mX10_power) ∈ lw_gd := tb4 (i := 110) rfl (by first | rfl | decide +kernel)
theorem w_831 : Cond.code (my mX10_power) (mc mX10_power) (mL mX10_power) (mr mX10_power) ∈ lw_gd := tb4 (i := 111) rfl (by first | rfl | decide +kernel)
theorem w_832 : Cond.methodLink RX10 232 (my mX10_commonDivisor) ∈ lw_gd := tb4 (i := 112) rfl (by first | rfl | decide +kernel)
theorem w_833 : Cond.static (my mX10_commonDivisor) ∈ lw_gd := tb4 (i := 113) rfl (by first | rfl | decide +kernel)
theorem w_834 : Cond.code (my mX10_commonDivisor) (mc mX10_commonDivisor) (mL mX10_commonDivisor) (mr mX10_commonDivisor) ∈ lw_gd := tb4 (i := 114) rfl (by first | rfl | decide +kernel)
theorem w_835 : Cond.methodLink RL 111 (my mX10_shown) ∈ lw_gd := tb4 (i := 115) rfl (by first | rfl | decide +kernel)
theorem w_836 : Cond.instanceMethod (my mX10_shown) ∈ lw_gd := tb4 (i := 116) rfl (by first | rfl | decide +kernel)
theorem w_837 : Cond.selects RX10 (my mX10_shown) (my mX10_shown) ∈ lw_gd := tb4 (i := 117) rfl (by first | rfl | decide +kernel)
theorem w_838 : Cond.code (my mX10_shown) (mc mX10_shown) (mL mX10_shown) (mr mX10_shown) ∈ lw_gd := tb4 (i := 118) rfl (by first | rfl | decide +kernel)
theorem w_839 : Cond.methodLinkNest RX10 235 (my mX5_demandOfAll) RX10 ∈ lw_nst := nb4 (i := 119) rfl rfl
theorem w_841 : Cond.instanceMethod (my mX5_demandOfAll) ∈ lw_gd := tb4 (i := 121) rfl (by first | rfl | decide +kernel)
theorem w_842 : Cond.code (my mX5_demandOfAll) (mc mX5_demandOfAll) (mL mX5_demandOfAll) (mr mX5_demandOfAll) ∈ lw_gd := tb4 (i := 122) rfl (by first | rfl | decide +kernel)
theorem w_843 : Cond.methodLink RX10 238 (my mX10_bitsOf) ∈ lw_gd := tb4 (i := 123) rfl (by first | rfl | decide +kernel)
theorem w_844 : Cond.static (my mX10_bitsOf) ∈ lw_gd := tb4 (i := 124) rfl (by first | rfl | decide +kernel)
theorem w_845 : Cond.code (my mX10_bitsOf) (mc mX10_bitsOf) (mL mX10_bitsOf) (mr mX10_bitsOf) ∈ lw_gd := tb4 (i := 125) rfl (by first | rfl | decide +kernel)
theorem w_846 : Cond.constantFloat RX10 342 (1056964608) ∈ lw_gd := tb4 (i := 126) rfl (by first | rfl | decide +kernel)
theorem w_847 : Cond.constantFloat RX10 347 (1258291200) ∈ lw_gd := tb4 (i := 127) rfl (by first | rfl | decide +kernel)
theorem w_848 : Cond.constant RX10 348 (8388608) ∈ lw_gd := tb4 (i := 128) rfl (by first | rfl | decide +kernel)
theorem w_849 : Cond.methodLink RX10 242 (my mX10_leansOfBest) ∈ lw_gd := tb4 (i := 129) rfl (by first | rfl | decide +kernel)
theorem w_851 : Cond.instanceMethod (my mX10_leansOfBest) ∈ lw_gd := tb4 (i := 131) rfl (by first | rfl | decide +kernel)
theorem w_852 : Cond.code (my mX10_leansOfBest) (mc mX10_leansOfBest) (mL mX10_leansOfBest) (mr mX10_leansOfBest) ∈ lw_gd := tb4 (i := 132) rfl (by first | rfl | decide +kernel)
theorem w_853 : Cond.methodLink RL 116 (my mX10_price) ∈ lw_gd := tb4 (i := 133) rfl (by first | rfl | decide +kernel)
theorem w_854 : Cond.instanceMethod (my mX10_price) ∈ lw_gd := tb4 (i := 134) rfl (by first | rfl | decide +kernel)
theorem w_855 : Cond.selects RX10 (my mX10_price) (my mX10_price) ∈ lw_gd := tb4 (i := 135) rfl (by first | rfl | decide +kernel)
theorem w_856 : Cond.code (my mX10_price) (mc mX10_price) (mL mX10_price) (mr mX10_price) ∈ lw_gd := tb4 (i := 136) rfl (by first | rfl | decide +kernel)
theorem w_857 : Cond.methodLink RL 120 (my mX10_step) ∈ lw_gd := tb4 (i := 137) rfl (by first | rfl | decide +kernel)
theorem w_858 : Cond.instanceMethod (my mX10_step) ∈ lw_gd := tb4 (i := 138) rfl (by first | rfl | decide +kernel)
theorem w_859 : Cond.selects RX10 (my mX10_step) (my mX10_step) ∈ lw_gd := tb4 (i := 139) rfl (by first | rfl | decide +kernel)
theorem w_860 : Cond.code (my mX10_step) (mc mX10_step) (mL mX10_step) (mr mX10_step) ∈ lw_gd := tb4 (i := 140) rfl (by first | rfl | decide +kernel)
theorem w_861 : Cond.methodLink RL 124 (my mX10_answer) ∈ lw_gd := tb4 (i := 141) rfl (by first | rfl | decide +kernel)
theorem w_862 : Cond.instanceMethod (my mX10_answer) ∈ lw_gd := tb4 (i := 142) rfl (by first | rfl | decide +kernel)
theorem w_863 : Cond.selects RX10 (my mX10_answer) (my mX10_answer) ∈ lw_gd := tb4 (i := 143) rfl (by first | rfl | decide +kernel)
theorem w_864 : Cond.code (my mX10_answer) (mc mX10_answer) (mL mX10_answer) (mr mX10_answer) ∈ lw_gd := tb4 (i := 144) rfl (by first | rfl | decide +kernel)
theorem w_865 : Cond.methodLinkNest RX10 252 (my mX2_begin) RX10 ∈ lw_nst := nb4 (i := 145) rfl rfl
theorem w_867 : Cond.instanceMethod (my mX2_begin) ∈ lw_gd := tb4 (i := 147) rfl (by first | rfl | decide +kernel)
theorem w_868 : Cond.code (my mX2_begin) (mc mX2_begin) (mL mX2_begin) (mr mX2_begin) ∈ lw_gd := tb4 (i := 148) rfl (by first | rfl | decide +kernel)
theorem w_869 : Cond.methodLink RX2 36 (⟨"java/lang/System", "arraycopy", "(Ljava/lang/Object;ILjava/lang/Object;II)V"⟩ : MethodName) ∈ lw_gd := tb4 (i := 149) rfl (by first | rfl | decide +kernel)
theorem w_870 : Cond.methodLinkNest RX10 253 (my mX2_ask) RX10 ∈ lw_nst := nb4 (i := 150) rfl rfl
theorem w_872 : Cond.instanceMethod (my mX2_ask) ∈ lw_gd := tb4 (i := 152) rfl (by first | rfl | decide +kernel)
theorem w_873 : Cond.code (my mX2_ask) (mc mX2_ask) (mL mX2_ask) (mr mX2_ask) ∈ lw_gd := tb4 (i := 153) rfl (by first | rfl | decide +kernel)
theorem w_874 : Cond.methodLink RX2 42 (my mJ7_fill_53178) ∈ lw_gd := tb4 (i := 154) rfl (by first | rfl | decide +kernel)
theorem w_875 : Cond.static (my mJ7_fill_53178) ∈ lw_gd := tb4 (i := 155) rfl (by first | rfl | decide +kernel)
theorem w_876 : Cond.code (my mJ7_fill_53178) (mc mJ7_fill_53178) (mL mJ7_fill_53178) (mr mJ7_fill_53178) ∈ lw_gd := tb4 (i := 156) rfl (by first | rfl | decide +kernel)
theorem w_877 : Cond.constant RX2 56 (2147483647) ∈ lw_gd := tb4 (i := 157) rfl (by first | rfl | decide +kernel)
theorem w_878 : Cond.methodLink RX2 60 (my mX2_netOf) ∈ lw_gd := tb4 (i := 158) rfl (by first | rfl | decide +kernel)
theorem w_880 : Cond.instanceMethod (my mX2_netOf) ∈ lw_gd := tb4 (i := 160) rfl (by first | rfl | decide +kernel)
theorem w_881 : Cond.code (my mX2_netOf) (mc mX2_netOf) (mL mX2_netOf) (mr mX2_netOf) ∈ lw_gd := tb4 (i := 161) rfl (by first | rfl | decide +kernel)
theorem w_882 : Cond.methodLinkNest RX2 73 (my mX3_moved) RX10 ∈ lw_nst := nb4 (i := 162) rfl rfl
theorem w_883 : Cond.methodLink RX2 80 (my mX2_amountAt) ∈ lw_gd := tb4 (i := 163) rfl (by first | rfl | decide +kernel)
theorem w_885 : Cond.instanceMethod (my mX2_amountAt) ∈ lw_gd := tb4 (i := 165) rfl (by first | rfl | decide +kernel)
theorem w_886 : Cond.code (my mX2_amountAt) (mc mX2_amountAt) (mL mX2_amountAt) (mr mX2_amountAt) ∈ lw_gd := tb4 (i := 166) rfl (by first | rfl | decide +kernel)
theorem w_887 : Cond.methodLinkNest RX2 90 (my mX3_most) RX10 ∈ lw_nst := nb4 (i := 167) rfl rfl
theorem w_888 : Cond.methodLinkNest RX2 94 (my mX3_least) RX10 ∈ lw_nst := nb4 (i := 168) rfl rfl
theorem w_889 : Cond.methodLinkNest RX2 86 (my mX3_startBehind) RX10 ∈ lw_nst := nb4 (i := 169) rfl rfl
theorem w_890 : Cond.methodLink RX2 64 (my mX2_addAmounts) ∈ lw_gd := tb4 (i := 170) rfl (by first | rfl | decide +kernel)
theorem w_892 : Cond.instanceMethod (my mX2_addAmounts) ∈ lw_gd := tb4 (i := 172) rfl (by first | rfl | decide +kernel)
theorem w_893 : Cond.code (my mX2_addAmounts) (mc mX2_addAmounts) (mL mX2_addAmounts) (mr mX2_addAmounts) ∈ lw_gd := tb4 (i := 173) rfl (by first | rfl | decide +kernel)
theorem w_894 : Cond.methodLink RL 128 (my mX10_bound) ∈ lw_gd := tb4 (i := 174) rfl (by first | rfl | decide +kernel)
theorem w_895 : Cond.instanceMethod (my mX10_bound) ∈ lw_gd := tb4 (i := 175) rfl (by first | rfl | decide +kernel)
theorem w_896 : Cond.selects RX10 (my mX10_bound) (my mX10_bound) ∈ lw_gd := tb4 (i := 176) rfl (by first | rfl | decide +kernel)
theorem w_897 : Cond.code (my mX10_bound) (mc mX10_bound) (mL mX10_bound) (mr mX10_bound) ∈ lw_gd := tb4 (i := 177) rfl (by first | rfl | decide +kernel)
theorem w_898 : Cond.methodLinkNest RX10 263 (my mX2_run) RX10 ∈ lw_nst := nb4 (i := 178) rfl rfl
theorem w_900 : Cond.instanceMethod (my mX2_run) ∈ lw_gd := tb4 (i := 180) rfl (by first | rfl | decide +kernel)
theorem w_901 : Cond.code (my mX2_run) (mc mX2_run) (mL mX2_run) (mr mX2_run) ∈ lw_gd := tb4 (i := 181) rfl (by first | rfl | decide +kernel)
theorem w_902 : Cond.methodLink RX2 101 (my mX2_begin) ∈ lw_gd := tb4 (i := 182) rfl (by first | rfl | decide +kernel)
theorem w_903 : Cond.methodLink RX2 104 (my mX2_ask) ∈ lw_gd := tb4 (i := 183) rfl (by first | rfl | decide +kernel)
theorem w_904 : Cond.methodLink RX2 107 (my mX2_boundNow) ∈ lw_gd := tb4 (i := 184) rfl (by first | rfl | decide +kernel)
theorem w_906 : Cond.instanceMethod (my mX2_boundNow) ∈ lw_gd := tb4 (i := 186) rfl (by first | rfl | decide +kernel)
theorem w_907 : Cond.code (my mX2_boundNow) (mc mX2_boundNow) (mL mX2_boundNow) (mr mX2_boundNow) ∈ lw_gd := tb4 (i := 187) rfl (by first | rfl | decide +kernel)
theorem w_908 : Cond.methodLink RX2 113 (my mJ9_min_7cf53) ∈ lw_gd := tb4 (i := 188) rfl (by first | rfl | decide +kernel)
theorem w_909 : Cond.methodLink RX2 119 (my mJ9_max_7cf53) ∈ lw_gd := tb4 (i := 189) rfl (by first | rfl | decide +kernel)
theorem w_910 : Cond.methodLink RL 132 (my mX10_rounds) ∈ lw_gd := tb4 (i := 190) rfl (by first | rfl | decide +kernel)
theorem w_911 : Cond.instanceMethod (my mX10_rounds) ∈ lw_gd := tb4 (i := 191) rfl (by first | rfl | decide +kernel)
theorem w_912 : Cond.selects RX10 (my mX10_rounds) (my mX10_rounds) ∈ lw_gd := tb4 (i := 192) rfl (by first | rfl | decide +kernel)
theorem w_913 : Cond.code (my mX10_rounds) (mc mX10_rounds) (mL mX10_rounds) (mr mX10_rounds) ∈ lw_gd := tb4 (i := 193) rfl (by first | rfl | decide +kernel)
theorem w_914 : Cond.methodLink RL 136 (my mX10_goes) ∈ lw_gd := tb4 (i := 194) rfl (by first | rfl | decide +kernel)
theorem w_915 : Cond.instanceMethod (my mX10_goes) ∈ lw_gd := tb4 (i := 195) rfl (by first | rfl | decide +kernel)
theorem w_916 : Cond.selects RX10 (my mX10_goes) (my mX10_goes) ∈ lw_gd := tb4 (i := 196) rfl (by first | rfl | decide +kernel)
theorem w_917 : Cond.code (my mX10_goes) (mc mX10_goes) (mL mX10_goes) (mr mX10_goes) ∈ lw_gd := tb4 (i := 197) rfl (by first | rfl | decide +kernel)
theorem w_918 : Cond.methodLink RL 140 (my mX10_repaired) ∈ lw_gd := tb4 (i := 198) rfl (by first | rfl | decide +kernel)
theorem w_919 : Cond.instanceMethod (my mX10_repaired) ∈ lw_gd := tb4 (i := 199) rfl (by first | rfl | decide +kernel)
theorem w_920 : Cond.selects RX10 (my mX10_repaired) (my mX10_repaired) ∈ lw_gd := tb4 (i := 200) rfl (by first | rfl | decide +kernel)
theorem w_921 : Cond.code (my mX10_repaired) (mc mX10_repaired) (mL mX10_repaired) (mr mX10_repaired) ∈ lw_gd := tb4 (i := 201) rfl (by first | rfl | decide +kernel)
theorem w_922 : Cond.methodLinkNest RX10 269 (my mX4_run) RX10 ∈ lw_nst := nb4 (i := 202) rfl rfl
theorem w_924 : Cond.instanceMethod (my mX4_run) ∈ lw_gd := tb4 (i := 204) rfl (by first | rfl | decide +kernel)
theorem w_925 : Cond.code (my mX4_run) (mc mX4_run) (mL mX4_run) (mr mX4_run) ∈ lw_gd := tb4 (i := 205) rfl (by first | rfl | decide +kernel)
theorem w_926 : Cond.methodLink RX4 27 (my mJ7_fill_53178) ∈ lw_gd := tb4 (i := 206) rfl (by first | rfl | decide +kernel)
theorem w_927 : Cond.methodLinkNest RX4 33 (my mX9_begin) RX10 ∈ lw_nst := nb4 (i := 207) rfl rfl
theorem w_928 : Cond.methodLink RX4 50 (my mX4_nearest) ∈ lw_gd := tb4 (i := 208) rfl (by first | rfl | decide +kernel)
theorem w_930 : Cond.instanceMethod (my mX4_nearest) ∈ lw_gd := tb4 (i := 210) rfl (by first | rfl | decide +kernel)
theorem w_931 : Cond.code (my mX4_nearest) (mc mX4_nearest) (mL mX4_nearest) (mr mX4_nearest) ∈ lw_gd := tb4 (i := 211) rfl (by first | rfl | decide +kernel)
theorem w_932 : Cond.methodLinkNest RX4 57 (my mX9_tried) RX10 ∈ lw_nst := nb4 (i := 212) rfl rfl
theorem w_933 : Cond.methodLink RX4 60 (my mJ6_bitCount_0f7a4) ∈ lw_gd := tb4 (i := 213) rfl (by first | rfl | decide +kernel)
theorem w_934 : Cond.methodLinkNest RX4 54 (my mX9_pass) RX10 ∈ lw_nst := nb4 (i := 214) rfl rfl
theorem w_935 : Cond.methodLink RL 144 (my mX10_judge) ∈ lw_gd := tb4 (i := 215) rfl (by first | rfl | decide +kernel)
theorem w_936 : Cond.instanceMethod (my mX10_judge) ∈ lw_gd := tb4 (i := 216) rfl (by first | rfl | decide +kernel)
theorem w_937 : Cond.selects RX10 (my mX10_judge) (my mX10_judge) ∈ lw_gd := tb4 (i := 217) rfl (by first | rfl | decide +kernel)
theorem w_938 : Cond.code (my mX10_judge) (mc mX10_judge) (mL mX10_judge) (mr mX10_judge) ∈ lw_gd := tb4 (i := 218) rfl (by first | rfl | decide +kernel)
theorem w_939 : Cond.methodLink RX10 272 (my mX10_noList) ∈ lw_gd := tb4 (i := 219) rfl (by first | rfl | decide +kernel)
theorem w_940 : Cond.static (my mX10_noList) ∈ lw_gd := tb4 (i := 220) rfl (by first | rfl | decide +kernel)
theorem w_941 : Cond.code (my mX10_noList) (mc mX10_noList) (mL mX10_noList) (mr mX10_noList) ∈ lw_gd := tb4 (i := 221) rfl (by first | rfl | decide +kernel)
theorem w_942 : Cond.methodLinkNest RX10 278 (my mX1_setAt) RX10 ∈ lw_nst := nb4 (i := 222) rfl rfl
theorem w_944 : Cond.instanceMethod (my mX1_setAt) ∈ lw_gd := tb4 (i := 224) rfl (by first | rfl | decide +kernel)
theorem w_945 : Cond.code (my mX1_setAt) (mc mX1_setAt) (mL mX1_setAt) (mr mX1_setAt) ∈ lw_gd := tb4 (i := 225) rfl (by first | rfl | decide +kernel)
theorem w_946 : Cond.methodLink RL 148 (my mX10_whatIs) ∈ lw_gd := tb4 (i := 226) rfl (by first | rfl | decide +kernel)
theorem w_947 : Cond.instanceMethod (my mX10_whatIs) ∈ lw_gd := tb4 (i := 227) rfl (by first | rfl | decide +kernel)
theorem w_948 : Cond.selects RX10 (my mX10_whatIs) (my mX10_whatIs) ∈ lw_gd := tb4 (i := 228) rfl (by first | rfl | decide +kernel)
theorem w_949 : Cond.code (my mX10_whatIs) (mc mX10_whatIs) (mL mX10_whatIs) (mr mX10_whatIs) ∈ lw_gd := tb4 (i := 229) rfl (by first | rfl | decide +kernel)
theorem w_950 : Cond.methodLinkNest RX10 289 (my mX1_tellsStarts) RX10 ∈ lw_nst := nb4 (i := 230) rfl rfl
theorem w_952 : Cond.instanceMethod (my mX1_tellsStarts) ∈ lw_gd := tb4 (i := 232) rfl (by first | rfl | decide +kernel)
theorem w_953 : Cond.code (my mX1_tellsStarts) (mc mX1_tellsStarts) (mL mX1_tellsStarts) (mr mX1_tellsStarts) ∈ lw_gd := tb4 (i := 233) rfl (by first | rfl | decide +kernel)
theorem w_954 : Cond.methodLinkNest RX1 25 (my mX3_startOf) RX10 ∈ lw_nst := nb4 (i := 234) rfl rfl
theorem w_955 : Cond.methodLink RL 152 (my mX10_lots) ∈ lw_gd := tb4 (i := 235) rfl (by first | rfl | decide +kernel)
theorem w_956 : Cond.instanceMethod (my mX10_lots) ∈ lw_gd := tb4 (i := 236) rfl (by first | rfl | decide +kernel)
theorem w_957 : Cond.selects RX10 (my mX10_lots) (my mX10_lots) ∈ lw_gd := tb4 (i := 237) rfl (by first | rfl | decide +kernel)
theorem w_958 : Cond.code (my mX10_lots) (mc mX10_lots) (mL mX10_lots) (mr mX10_lots) ∈ lw_gd := tb4 (i := 238) rfl (by first | rfl | decide +kernel)
theorem w_959 : Cond.constant RX10 293 (1664525) ∈ lw_gd := tb4 (i := 239) rfl (by first | rfl | decide +kernel)
theorem w_960 : Cond.constant RX10 294 (1013904223) ∈ lw_gd := tb5 (i := 0) rfl (by first | rfl | decide +kernel)
theorem w_961 : Cond.constant RX10 295 (2147483647) ∈ lw_gd := tb5 (i := 1) rfl (by first | rfl | decide +kernel)
theorem w_962 : Cond.methodLink RL 156 (my mX10_list) ∈ lw_gd := tb5 (i := 2) rfl (by first | rfl | decide +kernel)
theorem w_963 : Cond.instanceMethod (my mX10_list) ∈ lw_gd := tb5 (i := 3) rfl (by first | rfl | decide +kernel)
theorem w_964 : Cond.selects RX10 (my mX10_list) (my mX10_list) ∈ lw_gd := tb5 (i := 4) rfl (by first | rfl | decide +kernel)
theorem w_965 : Cond.code (my mX10_list) (mc mX10_list) (mL mX10_list) (mr mX10_list) ∈ lw_gd := tb5 (i := 5) rfl (by first | rfl | decide +kernel)
theorem w_966 : Cond.methodLinkNest RX10 296 (my mX1_make) RX10 ∈ lw_nst := nb5 (i := 6) rfl rfl
theorem w_968 : Cond.instanceMethod (my mX1_make) ∈ lw_gd := tb5 (i := 8) rfl (by first | rfl | decide +kernel)
theorem w_969 : Cond.code (my mX1_make) (mc mX1_make) (mL mX1_make) (mr mX1_make) ∈ lw_gd := tb5 (i := 9) rfl (by first | rfl | decide +kernel)
theorem w_970 : Cond.methodLink RX1 19 (my mJ7_fill_53178) ∈ lw_gd := tb5 (i := 10) rfl (by first | rfl | decide +kernel)
theorem w_971 : Cond.methodLink RL 160 (my mX10_put) ∈ lw_gd := tb5 (i := 11) rfl (by first | rfl | decide +kernel)
theorem w_972 : Cond.instanceMethod (my mX10_put) ∈ lw_gd := tb5 (i := 12) rfl (by first | rfl | decide +kernel)
theorem w_973 : Cond.selects RX10 (my mX10_put) (my mX10_put) ∈ lw_gd := tb5 (i := 13) rfl (by first | rfl | decide +kernel)
theorem w_974 : Cond.code (my mX10_put) (mc mX10_put) (mL mX10_put) (mr mX10_put) ∈ lw_gd := tb5 (i := 14) rfl (by first | rfl | decide +kernel)
theorem w_975 : Cond.methodLinkNest RX10 300 (my mX1_set) RX10 ∈ lw_nst := nb5 (i := 15) rfl rfl
theorem w_977 : Cond.instanceMethod (my mX1_set) ∈ lw_gd := tb5 (i := 17) rfl (by first | rfl | decide +kernel)
theorem w_978 : Cond.code (my mX1_set) (mc mX1_set) (mL mX1_set) (mr mX1_set) ∈ lw_gd := tb5 (i := 18) rfl (by first | rfl | decide +kernel)
theorem w_979 : Cond.methodLink RL 164 (my mX10_lays) ∈ lw_gd := tb5 (i := 19) rfl (by first | rfl | decide +kernel)
theorem w_980 : Cond.instanceMethod (my mX10_lays) ∈ lw_gd := tb5 (i := 20) rfl (by first | rfl | decide +kernel)
theorem w_981 : Cond.selects RX10 (my mX10_lays) (my mX10_lays) ∈ lw_gd := tb5 (i := 21) rfl (by first | rfl | decide +kernel)
theorem w_982 : Cond.code (my mX10_lays) (mc mX10_lays) (mL mX10_lays) (mr mX10_lays) ∈ lw_gd := tb5 (i := 22) rfl (by first | rfl | decide +kernel)
theorem w_983 : Cond.methodLink RL 170 (my mX10_pays) ∈ lw_gd := tb5 (i := 23) rfl (by first | rfl | decide +kernel)
theorem w_984 : Cond.instanceMethod (my mX10_pays) ∈ lw_gd := tb5 (i := 24) rfl (by first | rfl | decide +kernel)
theorem w_985 : Cond.selects RX10 (my mX10_pays) (my mX10_pays) ∈ lw_gd := tb5 (i := 25) rfl (by first | rfl | decide +kernel)
theorem w_986 : Cond.code (my mX10_pays) (mc mX10_pays) (mL mX10_pays) (mr mX10_pays) ∈ lw_gd := tb5 (i := 26) rfl (by first | rfl | decide +kernel)
theorem w_987 : Cond.methodLink RX10 303 (my mX10_productIsOver) ∈ lw_gd := tb5 (i := 27) rfl (by first | rfl | decide +kernel)
theorem w_988 : Cond.static (my mX10_productIsOver) ∈ lw_gd := tb5 (i := 28) rfl (by first | rfl | decide +kernel)
theorem w_989 : Cond.code (my mX10_productIsOver) (mc mX10_productIsOver) (mL mX10_productIsOver) (mr mX10_productIsOver) ∈ lw_gd := tb5 (i := 29) rfl (by first | rfl | decide +kernel)
theorem w_990 : Cond.constantLong RX10 343 (-1) ∈ lw_gd := tb5 (i := 30) rfl (by first | rfl | decide +kernel)
theorem w_991 : Cond.constantLong RX10 345 (-9223372036854775808) ∈ lw_gd := tb5 (i := 31) rfl (by first | rfl | decide +kernel)
theorem w_992 : Cond.methodLink RL 175 (my mX10_purse) ∈ lw_gd := tb5 (i := 32) rfl (by first | rfl | decide +kernel)
theorem w_993 : Cond.instanceMethod (my mX10_purse) ∈ lw_gd := tb5 (i := 33) rfl (by first | rfl | decide +kernel)
theorem w_994 : Cond.selects RX10 (my mX10_purse) (my mX10_purse) ∈ lw_gd := tb5 (i := 34) rfl (by first | rfl | decide +kernel)
theorem w_995 : Cond.code (my mX10_purse) (mc mX10_purse) (mL mX10_purse) (mr mX10_purse) ∈ lw_gd := tb5 (i := 35) rfl (by first | rfl | decide +kernel)
theorem w_996 : Cond.methodLink RL 180 (my mX10_bills) ∈ lw_gd := tb5 (i := 36) rfl (by first | rfl | decide +kernel)
theorem w_997 : Cond.instanceMethod (my mX10_bills) ∈ lw_gd := tb5 (i := 37) rfl (by first | rfl | decide +kernel)
theorem w_998 : Cond.selects RX10 (my mX10_bills) (my mX10_bills) ∈ lw_gd := tb5 (i := 38) rfl (by first | rfl | decide +kernel)
theorem w_999 : Cond.code (my mX10_bills) (mc mX10_bills) (mL mX10_bills) (mr mX10_bills) ∈ lw_gd := tb5 (i := 39) rfl (by first | rfl | decide +kernel)
theorem w_1000 : Cond.methodLink RL 184 (my mX10_rack) ∈ lw_gd := tb5 (i := 40) rfl (by first | rfl | decide +kernel)
theorem w_1001 : Cond.instanceMethod (my mX10_rack) ∈ lw_gd := tb5 (i := 41) rfl (by first | rfl | decide +kernel)
theorem w_1002 : Cond.selects RX10 (my mX10_rack) (my mX10_rack) ∈ lw_gd := tb5 (i := 42) rfl (by first | rfl | decide +kernel)
theorem w_1003 : Cond.code (my mX10_rack) (mc mX10_rack) (mL mX10_rack) (mr mX10_rack) ∈ lw_gd := tb5 (i := 43) rfl (by first | rfl | decide +kernel)
theorem w_1004 : Cond.methodLink RX10 311 (my mX10_noRack) ∈ lw_gd := tb5 (i := 44) rfl (by first | rfl | decide +kernel)
theorem w_1005 : Cond.static (my mX10_noRack) ∈ lw_gd := tb5 (i := 45) rfl (by first | rfl | decide +kernel)
theorem w_1006 : Cond.code (my mX10_noRack) (mc mX10_noRack) (mL mX10_noRack) (mr mX10_noRack) ∈ lw_gd := tb5 (i := 46) rfl (by first | rfl | decide +kernel)
theorem w_1007 : Cond.methodLinkNest RX10 314 (my mX6_make) RX10 ∈ lw_nst := nb5 (i := 47) rfl rfl
theorem w_1009 : Cond.instanceMethod (my mX6_make) ∈ lw_gd := tb5 (i := 49) rfl (by first | rfl | decide +kernel)
theorem w_1010 : Cond.code (my mX6_make) (mc mX6_make) (mL mX6_make) (mr mX6_make) ∈ lw_gd := tb5 (i := 50) rfl (by first | rfl | decide +kernel)
theorem w_1011 : Cond.methodLink RL 188 (my mX10_racks) ∈ lw_gd := tb5 (i := 51) rfl (by first | rfl | decide +kernel)
theorem w_1012 : Cond.instanceMethod (my mX10_racks) ∈ lw_gd := tb5 (i := 52) rfl (by first | rfl | decide +kernel)
theorem w_1013 : Cond.selects RX10 (my mX10_racks) (my mX10_racks) ∈ lw_gd := tb5 (i := 53) rfl (by first | rfl | decide +kernel)
theorem w_1014 : Cond.code (my mX10_racks) (mc mX10_racks) (mL mX10_racks) (mr mX10_racks) ∈ lw_gd := tb5 (i := 54) rfl (by first | rfl | decide +kernel)
theorem w_1015 : Cond.methodLinkNest RX10 318 (my mX6_noPlace) RX10 ∈ lw_nst := nb5 (i := 55) rfl rfl
theorem w_1017 : Cond.instanceMethod (my mX6_noPlace) ∈ lw_gd := tb5 (i := 57) rfl (by first | rfl | decide +kernel)
theorem w_1018 : Cond.code (my mX6_noPlace) (mc mX6_noPlace) (mL mX6_noPlace) (mr mX6_noPlace) ∈ lw_gd := tb5 (i := 58) rfl (by first | rfl | decide +kernel)
theorem w_1019 : Cond.methodLinkNest RX10 326 (my mX3_isUnder) RX10 ∈ lw_nst := nb5 (i := 59) rfl rfl
theorem w_1020 : Cond.methodLinkNest RX10 332 (my mX3_copyFrom) RX10 ∈ lw_nst := nb5 (i := 60) rfl rfl
theorem w_1021 : Cond.methodLink RL 192 (my mX10_racked) ∈ lw_gd := tb5 (i := 61) rfl (by first | rfl | decide +kernel)
theorem w_1022 : Cond.instanceMethod (my mX10_racked) ∈ lw_gd := tb5 (i := 62) rfl (by first | rfl | decide +kernel)
theorem w_1023 : Cond.selects RX10 (my mX10_racked) (my mX10_racked) ∈ lw_gd := tb5 (i := 63) rfl (by first | rfl | decide +kernel)
theorem w_1024 : Cond.code (my mX10_racked) (mc mX10_racked) (mL mX10_racked) (mr mX10_racked) ∈ lw_gd := tb5 (i := 64) rfl (by first | rfl | decide +kernel)
theorem w_1025 : Cond.methodLink RL 196 (my mX10_like) ∈ lw_gd := tb5 (i := 65) rfl (by first | rfl | decide +kernel)
theorem w_1026 : Cond.instanceMethod (my mX10_like) ∈ lw_gd := tb5 (i := 66) rfl (by first | rfl | decide +kernel)
theorem w_1027 : Cond.selects RX10 (my mX10_like) (my mX10_like) ∈ lw_gd := tb5 (i := 67) rfl (by first | rfl | decide +kernel)
theorem w_1028 : Cond.code (my mX10_like) (mc mX10_like) (mL mX10_like) (mr mX10_like) ∈ lw_gd := tb5 (i := 68) rfl (by first | rfl | decide +kernel)
theorem w_1029 : Cond.methodLinkNest RX10 335 (my mX6_copyFrom) RX10 ∈ lw_nst := nb5 (i := 69) rfl rfl
theorem w_1031 : Cond.instanceMethod (my mX6_copyFrom) ∈ lw_gd := tb5 (i := 71) rfl (by first | rfl | decide +kernel)
theorem w_1032 : Cond.code (my mX6_copyFrom) (mc mX6_copyFrom) (mL mX6_copyFrom) (mr mX6_copyFrom) ∈ lw_gd := tb5 (i := 72) rfl (by first | rfl | decide +kernel)
theorem w_1033 : Cond.methodLinkNest RX6 29 (my mX3_copyFrom) RX10 ∈ lw_nst := nb5 (i := 73) rfl rfl
theorem w_1034 : Cond.methodLink RL 200 (my mX10_image) ∈ lw_gd := tb5 (i := 74) rfl (by first | rfl | decide +kernel)
theorem w_1035 : Cond.instanceMethod (my mX10_image) ∈ lw_gd := tb5 (i := 75) rfl (by first | rfl | decide +kernel)
theorem w_1036 : Cond.selects RX10 (my mX10_image) (my mX10_image) ∈ lw_gd := tb5 (i := 76) rfl (by first | rfl | decide +kernel)
theorem w_1037 : Cond.code (my mX10_image) (mc mX10_image) (mL mX10_image) (mr mX10_image) ∈ lw_gd := tb5 (i := 77) rfl (by first | rfl | decide +kernel)
theorem w_1038 : Cond.methodLink RL 204 (my mX10_on) ∈ lw_gd := tb5 (i := 78) rfl (by first | rfl | decide +kernel)
theorem w_1039 : Cond.instanceMethod (my mX10_on) ∈ lw_gd := tb5 (i := 79) rfl (by first | rfl | decide +kernel)
theorem w_1040 : Cond.selects RX10 (my mX10_on) (my mX10_on) ∈ lw_gd := tb5 (i := 80) rfl (by first | rfl | decide +kernel)
theorem w_1041 : Cond.code (my mX10_on) (mc mX10_on) (mL mX10_on) (mr mX10_on) ∈ lw_gd := tb5 (i := 81) rfl (by first | rfl | decide +kernel)
theorem w_1042 : Cond.methodLink RL 208 (my mX10_count) ∈ lw_gd := tb5 (i := 82) rfl (by first | rfl | decide +kernel)
theorem w_1043 : Cond.instanceMethod (my mX10_count) ∈ lw_gd := tb5 (i := 83) rfl (by first | rfl | decide +kernel)
theorem w_1044 : Cond.selects RX10 (my mX10_count) (my mX10_count) ∈ lw_gd := tb5 (i := 84) rfl (by first | rfl | decide +kernel)
theorem w_1045 : Cond.code (my mX10_count) (mc mX10_count) (mL mX10_count) (mr mX10_count) ∈ lw_gd := tb5 (i := 85) rfl (by first | rfl | decide +kernel)
theorem w_1046 : Cond.methodLink RL 212 (my mX10_hour) ∈ lw_gd := tb5 (i := 86) rfl (by first | rfl | decide +kernel)
theorem w_1047 : Cond.instanceMethod (my mX10_hour) ∈ lw_gd := tb5 (i := 87) rfl (by first | rfl | decide +kernel)
theorem w_1048 : Cond.selects RX10 (my mX10_hour) (my mX10_hour) ∈ lw_gd := tb5 (i := 88) rfl (by first | rfl | decide +kernel)
theorem w_1049 : Cond.code (my mX10_hour) (mc mX10_hour) (mL mX10_hour) (mr mX10_hour) ∈ lw_gd := tb5 (i := 89) rfl (by first | rfl | decide +kernel)
theorem w_1050 : Cond.classLink RL 10 RX11 ∈ lw_gd := tb5 (i := 90) rfl (by first | rfl | decide +kernel)
theorem w_1051 : Cond.instantiable RX11 31 ∈ lw_gd := tb5 (i := 91) rfl (by first | rfl | decide +kernel)
theorem w_1052 : Cond.methodLink RL 12 (my mX11_init) ∈ lw_gd := tb5 (i := 92) rfl (by first | rfl | decide +kernel)
theorem w_1053 : Cond.instanceMethod (my mX11_init) ∈ lw_gd := tb5 (i := 93) rfl (by first | rfl | decide +kernel)
theorem w_1054 : Cond.code (my mX11_init) (mc mX11_init) (mL mX11_init) (mr mX11_init) ∈ lw_gd := tb5 (i := 94) rfl (by first | rfl | decide +kernel)
theorem w_1055 : Cond.methodLink RX11 3 (⟨"java/lang/Object", "<init>", "()V"⟩ : MethodName) ∈ lw_gd := tb5 (i := 95) rfl (by first | rfl | decide +kernel)
theorem w_1056 : Cond.fieldLink RX11 9 RX11 "s" "[I" ∈ lw_gd := tb5 (i := 96) rfl (by first | rfl | decide +kernel)
theorem w_1057 : Cond.fieldLink RX11 13 RX11 "aside" "[I" ∈ lw_gd := tb5 (i := 97) rfl (by first | rfl | decide +kernel)
theorem w_1058 : Cond.fieldLink RX11 16 RX11 "image" "[I" ∈ lw_gd := tb5 (i := 98) rfl (by first | rfl | decide +kernel)
theorem w_1059 : Cond.fieldLink RX11 407 RX11 "hasImage" "Z" ∈ lw_gd := tb5 (i := 99) rfl (by first | rfl | decide +kernel)
theorem w_1060 : Cond.fieldLink RX11 315 RX11 "purse" "J" ∈ lw_gd := tb5 (i := 100) rfl (by first | rfl | decide +kernel)
theorem w_1061 : Cond.fieldLink RX11 404 RX11 "imagePurse" "J" ∈ lw_gd := tb5 (i := 101) rfl (by first | rfl | decide +kernel)
theorem w_1062 : Cond.fieldLink RX11 19 RX11 "refused" "[I" ∈ lw_gd := tb5 (i := 102) rfl (by first | rfl | decide +kernel)
theorem w_1063 : Cond.fieldLink RX11 22 RX11 "out" "[I" ∈ lw_gd := tb5 (i := 103) rfl (by first | rfl | decide +kernel)
theorem w_1064 : Cond.fieldLink RX11 199 RX11 "absent" "I" ∈ lw_gd := tb5 (i := 104) rfl (by first | rfl | decide +kernel)
theorem w_1065 : Cond.fieldLink RX11 25 RX11 "table" "[I" ∈ lw_gd := tb5 (i := 105) rfl (by first | rfl | decide +kernel)
theorem w_1066 : Cond.fieldLink RX11 28 RX11 "isRow" "[Z" ∈ lw_gd := tb5 (i := 106) rfl (by first | rfl | decide +kernel)
theorem w_1067 : Cond.fieldLink RX11 32 RX11 "freshOf" "[I" ∈ lw_gd := tb5 (i := 107) rfl (by first | rfl | decide +kernel)
theorem w_1068 : Cond.fieldLink RX11 35 RX11 "startCosts" "[I" ∈ lw_gd := tb5 (i := 108) rfl (by first | rfl | decide +kernel)
theorem w_1069 : Cond.fieldLink RX11 38 RX11 "bestRows" "[I" ∈ lw_gd := tb5 (i := 109) rfl (by first | rfl | decide +kernel)
theorem w_1070 : Cond.fieldLink RX11 41 RX11 "triedRows" "[I" ∈ lw_gd := tb5 (i := 110) rfl (by first | rfl | decide +kernel)
theorem w_1071 : Cond.fieldLink RX11 207 RX11 "bestCost" "I" ∈ lw_gd := tb5 (i := 111) rfl (by first | rfl | decide +kernel)
theorem w_1072 : Cond.fieldLink RX11 44 RX11 "answers" "[I" ∈ lw_gd := tb5 (i := 112) rfl (by first | rfl | decide +kernel)
theorem w_1073 : Cond.fieldLink RX11 47 RX11 "lacks" "[I" ∈ lw_gd := tb5 (i := 113) rfl (by first | rfl | decide +kernel)
theorem w_1074 : Cond.fieldLink RX11 50 RX11 "ages" "[I" ∈ lw_gd := tb5 (i := 114) rfl (by first | rfl | decide +kernel)
theorem w_1075 : Cond.fieldLink RX11 53 RX11 "mended" "[I" ∈ lw_gd := tb5 (i := 115) rfl (by first | rfl | decide +kernel)
theorem w_1076 : Cond.fieldLink RX11 56 RX11 "sizes" "[I" ∈ lw_gd := tb5 (i := 116) rfl (by first | rfl | decide +kernel)
theorem w_1077 : Cond.fieldLink RX11 59 RX11 "items" "[I" ∈ lw_gd := tb5 (i := 117) rfl (by first | rfl | decide +kernel)
theorem w_1078 : Cond.fieldLink RX11 62 RX11 "madeFor" "[I" ∈ lw_gd := tb5 (i := 118) rfl (by first | rfl | decide +kernel)
theorem w_1079 : Cond.fieldLink RX11 65 RX11 "rackSizes" "[I" ∈ lw_gd := tb5 (i := 119) rfl (by first | rfl | decide +kernel)
theorem w_1080 : Cond.fieldLink RX11 68 RX11 "laid" "[I" ∈ lw_gd := tb5 (i := 120) rfl (by first | rfl | decide +kernel)
theorem w_1081 : Cond.fieldLink RX11 71 RX11 "letters" "[I" ∈ lw_gd := tb5 (i := 121) rfl (by first | rfl | decide +kernel)
theorem w_1082 : Cond.fieldLink RX11 342 RX11 "letterMany" "I" ∈ lw_gd := tb5 (i := 122) rfl (by first | rfl | decide +kernel)
theorem w_1083 : Cond.fieldLink RX11 345 RX11 "at" "I" ∈ lw_gd := tb5 (i := 123) rfl (by first | rfl | decide +kernel)
theorem w_1084 : Cond.fieldLink RX11 355 RX11 "told" "I" ∈ lw_gd := tb5 (i := 124) rfl (by first | rfl | decide +kernel)
theorem w_1085 : Cond.fieldLink RX11 358 RX11 "sign" "I" ∈ lw_gd := tb5 (i := 125) rfl (by first | rfl | decide +kernel)
theorem w_1086 : Cond.fieldLink RX11 74 RX11 "numbers" "[I" ∈ lw_gd := tb5 (i := 126) rfl (by first | rfl | decide +kernel)
theorem w_1087 : Cond.laysFinal "PlantsCommittedModel" "PlantsCommittedModel" "s" "[I" ∈ lw_gd := tb5 (i := 127) rfl (by first | rfl | decide +kernel)
theorem w_1089 : Cond.laysFinal "PlantsCommittedModel" "PlantsCommittedModel" "aside" "[I" ∈ lw_gd := tb5 (i := 129) rfl (by first | rfl | decide +kernel)
theorem w_1091 : Cond.laysFinal "PlantsCommittedModel" "PlantsCommittedModel" "image" "[I" ∈ lw_gd := tb5 (i := 131) rfl (by first | rfl | decide +kernel)
theorem w_1093 : Cond.lays "PlantsCommittedModel" "PlantsCommittedModel" "hasImage" "Z" ∈ lw_gd := tb5 (i := 133) rfl (by first | rfl | decide +kernel)
theorem w_1095 : Cond.lays "PlantsCommittedModel" "PlantsCommittedModel" "purse" "J" ∈ lw_gd := tb5 (i := 135) rfl (by first | rfl | decide +kernel)
theorem w_1097 : Cond.lays "PlantsCommittedModel" "PlantsCommittedModel" "imagePurse" "J" ∈ lw_gd := tb5 (i := 137) rfl (by first | rfl | decide +kernel)
theorem w_1099 : Cond.laysFinal "PlantsCommittedModel" "PlantsCommittedModel" "refused" "[I" ∈ lw_gd := tb5 (i := 139) rfl (by first | rfl | decide +kernel)
theorem w_1101 : Cond.laysFinal "PlantsCommittedModel" "PlantsCommittedModel" "out" "[I" ∈ lw_gd := tb5 (i := 141) rfl (by first | rfl | decide +kernel)
theorem w_1103 : Cond.lays "PlantsCommittedModel" "PlantsCommittedModel" "absent" "I" ∈ lw_gd := tb5 (i := 143) rfl (by first | rfl | decide +kernel)
theorem w_1105 : Cond.laysFinal "PlantsCommittedModel" "PlantsCommittedModel" "table" "[I" ∈ lw_gd := tb5 (i := 145) rfl (by first | rfl | decide +kernel)
theorem w_1107 : Cond.laysFinal "PlantsCommittedModel" "PlantsCommittedModel" "isRow" "[Z" ∈ lw_gd := tb5 (i := 147) rfl (by first | rfl | decide +kernel)
theorem w_1109 : Cond.laysFinal "PlantsCommittedModel" "PlantsCommittedModel" "freshOf" "[I" ∈ lw_gd := tb5 (i := 149) rfl (by first | rfl | decide +kernel)
theorem w_1111 : Cond.laysFinal "PlantsCommittedModel" "PlantsCommittedModel" "startCosts" "[I" ∈ lw_gd := tb5 (i := 151) rfl (by first | rfl | decide +kernel)
theorem w_1113 : Cond.laysFinal "PlantsCommittedModel" "PlantsCommittedModel" "bestRows" "[I" ∈ lw_gd := tb5 (i := 153) rfl (by first | rfl | decide +kernel)
theorem w_1115 : Cond.laysFinal "PlantsCommittedModel" "PlantsCommittedModel" "triedRows" "[I" ∈ lw_gd := tb5 (i := 155) rfl (by first | rfl | decide +kernel)
theorem w_1117 : Cond.lays "PlantsCommittedModel" "PlantsCommittedModel" "bestCost" "I" ∈ lw_gd := tb5 (i := 157) rfl (by first | rfl | decide +kernel)
theorem w_1119 : Cond.laysFinal "PlantsCommittedModel" "PlantsCommittedModel" "answers" "[I" ∈ lw_gd := tb5 (i := 159) rfl (by first | rfl | decide +kernel)
theorem w_1121 : Cond.laysFinal "PlantsCommittedModel" "PlantsCommittedModel" "lacks" "[I" ∈ lw_gd := tb5 (i := 161) rfl (by first | rfl | decide +kernel)
theorem w_1123 : Cond.laysFinal "PlantsCommittedModel" "PlantsCommittedModel" "ages" "[I" ∈ lw_gd := tb5 (i := 163) rfl (by first | rfl | decide +kernel)
theorem w_1125 : Cond.laysFinal "PlantsCommittedModel" "PlantsCommittedModel" "mended" "[I" ∈ lw_gd := tb5 (i := 165) rfl (by first | rfl | decide +kernel)
theorem w_1127 : Cond.laysFinal "PlantsCommittedModel" "PlantsCommittedModel" "sizes" "[I" ∈ lw_gd := tb5 (i := 167) rfl (by first | rfl | decide +kernel)
theorem w_1129 : Cond.laysFinal "PlantsCommittedModel" "PlantsCommittedModel" "items" "[I" ∈ lw_gd := tb5 (i := 169) rfl (by first | rfl | decide +kernel)
theorem w_1131 : Cond.laysFinal "PlantsCommittedModel" "PlantsCommittedModel" "madeFor" "[I" ∈ lw_gd := tb5 (i := 171) rfl (by first | rfl | decide +kernel)
theorem w_1133 : Cond.laysFinal "PlantsCommittedModel" "PlantsCommittedModel" "rackSizes" "[I" ∈ lw_gd := tb5 (i := 173) rfl (by first | rfl | decide +kernel)
theorem w_1135 : Cond.laysFinal "PlantsCommittedModel" "PlantsCommittedModel" "laid" "[I" ∈ lw_gd := tb5 (i := 175) rfl (by first | rfl | decide +kernel)
theorem w_1137 : Cond.laysFinal "PlantsCommittedModel" "PlantsCommittedModel" "letters" "[I" ∈ lw_gd := tb5 (i := 177) rfl (by first | rfl | decide +kernel)
theorem w_1139 : Cond.lays "PlantsCommittedModel" "PlantsCommittedModel" "letterMany" "I" ∈ lw_gd := tb5 (i := 179) rfl (by first | rfl | decide +kernel)
theorem w_1141 : Cond.lays "PlantsCommittedModel" "PlantsCommittedModel" "at" "I" ∈ lw_gd := tb5 (i := 181) rfl (by first | rfl | decide +kernel)
theorem w_1143 : Cond.lays "PlantsCommittedModel" "PlantsCommittedModel" "told" "I" ∈ lw_gd := tb5 (i := 183) rfl (by first | rfl | decide +kernel)
theorem w_1145 : Cond.lays "PlantsCommittedModel" "PlantsCommittedModel" "sign" "I" ∈ lw_gd := tb5 (i := 185) rfl (by first | rfl | decide +kernel)
theorem w_1147 : Cond.laysFinal "PlantsCommittedModel" "PlantsCommittedModel" "numbers" "[I" ∈ lw_gd := tb5 (i := 187) rfl (by first | rfl | decide +kernel)
theorem w_1149 : Cond.superclass "PlantsCommittedModel" "java/lang/Object" ∈ lw_gd := tb5 (i := 189) rfl (by first | rfl | decide +kernel)
theorem w_1150 : Cond.methodLink RL 26 (my mX11_hours) ∈ lw_gd := tb5 (i := 190) rfl (by first | rfl | decide +kernel)
theorem w_1151 : Cond.instanceMethod (my mX11_hours) ∈ lw_gd := tb5 (i := 191) rfl (by first | rfl | decide +kernel)
theorem w_1152 : Cond.selects RX11 (my mX11_hours) (my mX11_hours) ∈ lw_gd := tb5 (i := 192) rfl (by first | rfl | decide +kernel)
theorem w_1153 : Cond.code (my mX11_hours) (mc mX11_hours) (mL mX11_hours) (mr mX11_hours) ∈ lw_gd := tb5 (i := 193) rfl (by first | rfl | decide +kernel)
theorem w_1154 : Cond.methodLink RX11 97 (my mX11_hoursWrong) ∈ lw_gd := tb5 (i := 194) rfl (by first | rfl | decide +kernel)
theorem w_1156 : Cond.instanceMethod (my mX11_hoursWrong) ∈ lw_gd := tb5 (i := 196) rfl (by first | rfl | decide +kernel)
theorem w_1157 : Cond.code (my mX11_hoursWrong) (mc mX11_hoursWrong) (mL mX11_hoursWrong) (mr mX11_hoursWrong) ∈ lw_gd := tb5 (i := 197) rfl (by first | rfl | decide +kernel)
theorem w_1158 : Cond.methodLink RX11 93 (my mX11_wrongBy) ∈ lw_gd := tb5 (i := 198) rfl (by first | rfl | decide +kernel)
theorem w_1159 : Cond.static (my mX11_wrongBy) ∈ lw_gd := tb5 (i := 199) rfl (by first | rfl | decide +kernel)
theorem w_1160 : Cond.code (my mX11_wrongBy) (mc mX11_wrongBy) (mL mX11_wrongBy) (mr mX11_wrongBy) ∈ lw_gd := tb5 (i := 200) rfl (by first | rfl | decide +kernel)
theorem w_1161 : Cond.methodLink RX11 79 (my mX11_no) ∈ lw_gd := tb5 (i := 201) rfl (by first | rfl | decide +kernel)
theorem w_1163 : Cond.instanceMethod (my mX11_no) ∈ lw_gd := tb5 (i := 203) rfl (by first | rfl | decide +kernel)
theorem w_1164 : Cond.code (my mX11_no) (mc mX11_no) (mL mX11_no) (mr mX11_no) ∈ lw_gd := tb5 (i := 204) rfl (by first | rfl | decide +kernel)
theorem w_1165 : Cond.methodLink RL 31 (my mX11_demand) ∈ lw_gd := tb5 (i := 205) rfl (by first | rfl | decide +kernel)
theorem w_1166 : Cond.instanceMethod (my mX11_demand) ∈ lw_gd := tb5 (i := 206) rfl (by first | rfl | decide +kernel)
theorem w_1167 : Cond.selects RX11 (my mX11_demand) (my mX11_demand) ∈ lw_gd := tb5 (i := 207) rfl (by first | rfl | decide +kernel)
theorem w_1168 : Cond.code (my mX11_demand) (mc mX11_demand) (mL mX11_demand) (mr mX11_demand) ∈ lw_gd := tb5 (i := 208) rfl (by first | rfl | decide +kernel)
theorem w_1169 : Cond.methodLink RX11 108 (my mX11_demandWrong) ∈ lw_gd := tb5 (i := 209) rfl (by first | rfl | decide +kernel)
theorem w_1171 : Cond.instanceMethod (my mX11_demandWrong) ∈ lw_gd := tb5 (i := 211) rfl (by first | rfl | decide +kernel)
theorem w_1172 : Cond.code (my mX11_demandWrong) (mc mX11_demandWrong) (mL mX11_demandWrong) (mr mX11_demandWrong) ∈ lw_gd := tb5 (i := 212) rfl (by first | rfl | decide +kernel)
theorem w_1173 : Cond.methodLink RX11 100 (my mX11_isHour) ∈ lw_gd := tb5 (i := 213) rfl (by first | rfl | decide +kernel)
theorem w_1175 : Cond.instanceMethod (my mX11_isHour) ∈ lw_gd := tb5 (i := 215) rfl (by first | rfl | decide +kernel)
theorem w_1176 : Cond.code (my mX11_isHour) (mc mX11_isHour) (mL mX11_isHour) (mr mX11_isHour) ∈ lw_gd := tb5 (i := 216) rfl (by first | rfl | decide +kernel)
theorem w_1177 : Cond.methodLink RX11 89 (my mX11_isIn) ∈ lw_gd := tb5 (i := 217) rfl (by first | rfl | decide +kernel)
theorem w_1178 : Cond.static (my mX11_isIn) ∈ lw_gd := tb5 (i := 218) rfl (by first | rfl | decide +kernel)
theorem w_1179 : Cond.code (my mX11_isIn) (mc mX11_isIn) (mL mX11_isIn) (mr mX11_isIn) ∈ lw_gd := tb5 (i := 219) rfl (by first | rfl | decide +kernel)
theorem w_1180 : Cond.methodLink RX11 104 (my mX11_wrongOf) ∈ lw_gd := tb5 (i := 220) rfl (by first | rfl | decide +kernel)
theorem w_1181 : Cond.static (my mX11_wrongOf) ∈ lw_gd := tb5 (i := 221) rfl (by first | rfl | decide +kernel)
theorem w_1182 : Cond.code (my mX11_wrongOf) (mc mX11_wrongOf) (mL mX11_wrongOf) (mr mX11_wrongOf) ∈ lw_gd := tb5 (i := 222) rfl (by first | rfl | decide +kernel)
theorem w_1183 : Cond.methodLink RL 36 (my mX11_plant) ∈ lw_gd := tb5 (i := 223) rfl (by first | rfl | decide +kernel)
theorem w_1184 : Cond.instanceMethod (my mX11_plant) ∈ lw_gd := tb5 (i := 224) rfl (by first | rfl | decide +kernel)
theorem w_1185 : Cond.selects RX11 (my mX11_plant) (my mX11_plant) ∈ lw_gd := tb5 (i := 225) rfl (by first | rfl | decide +kernel)
theorem w_1186 : Cond.code (my mX11_plant) (mc mX11_plant) (mL mX11_plant) (mr mX11_plant) ∈ lw_gd := tb5 (i := 226) rfl (by first | rfl | decide +kernel)
theorem w_1187 : Cond.methodLink RX11 117 (my mX11_plantWrong) ∈ lw_gd := tb5 (i := 227) rfl (by first | rfl | decide +kernel)
theorem w_1189 : Cond.instanceMethod (my mX11_plantWrong) ∈ lw_gd := tb5 (i := 229) rfl (by first | rfl | decide +kernel)
theorem w_1190 : Cond.code (my mX11_plantWrong) (mc mX11_plantWrong) (mL mX11_plantWrong) (mr mX11_plantWrong) ∈ lw_gd := tb5 (i := 230) rfl (by first | rfl | decide +kernel)
theorem w_1191 : Cond.constantLong RX11 111 (5) ∈ lw_gd := tb5 (i := 231) rfl (by first | rfl | decide +kernel)
theorem w_1192 : Cond.methodLink RX11 121 (my mX11_adds) ∈ lw_gd := tb5 (i := 232) rfl (by first | rfl | decide +kernel)
theorem w_1194 : Cond.instanceMethod (my mX11_adds) ∈ lw_gd := tb5 (i := 234) rfl (by first | rfl | decide +kernel)
theorem w_1195 : Cond.code (my mX11_adds) (mc mX11_adds) (mL mX11_adds) (mr mX11_adds) ∈ lw_gd := tb5 (i := 235) rfl (by first | rfl | decide +kernel)
theorem w_1196 : Cond.methodLink RX11 113 (my mX11_sets) ∈ lw_gd := tb5 (i := 236) rfl (by first | rfl | decide +kernel)
theorem w_1198 : Cond.instanceMethod (my mX11_sets) ∈ lw_gd := tb5 (i := 238) rfl (by first | rfl | decide +kernel)
theorem w_1199 : Cond.code (my mX11_sets) (mc mX11_sets) (mL mX11_sets) (mr mX11_sets) ∈ lw_gd := tb5 (i := 239) rfl (by first | rfl | decide +kernel)
theorem w_1200 : Cond.methodLink RL 40 (my mX11_gives) ∈ lw_gd := tb6 (i := 0) rfl (by first | rfl | decide +kernel)
theorem w_1201 : Cond.instanceMethod (my mX11_gives) ∈ lw_gd := tb6 (i := 1) rfl (by first | rfl | decide +kernel)
theorem w_1202 : Cond.selects RX11 (my mX11_gives) (my mX11_gives) ∈ lw_gd := tb6 (i := 2) rfl (by first | rfl | decide +kernel)
theorem w_1203 : Cond.code (my mX11_gives) (mc mX11_gives) (mL mX11_gives) (mr mX11_gives) ∈ lw_gd := tb6 (i := 3) rfl (by first | rfl | decide +kernel)
theorem w_1204 : Cond.methodLink RX11 127 (my mX11_givesWrong) ∈ lw_gd := tb6 (i := 4) rfl (by first | rfl | decide +kernel)
theorem w_1206 : Cond.instanceMethod (my mX11_givesWrong) ∈ lw_gd := tb6 (i := 6) rfl (by first | rfl | decide +kernel)
theorem w_1207 : Cond.code (my mX11_givesWrong) (mc mX11_givesWrong) (mL mX11_givesWrong) (mr mX11_givesWrong) ∈ lw_gd := tb6 (i := 7) rfl (by first | rfl | decide +kernel)
theorem w_1208 : Cond.methodLink RX11 124 (my mX11_isPlant) ∈ lw_gd := tb6 (i := 8) rfl (by first | rfl | decide +kernel)
theorem w_1210 : Cond.instanceMethod (my mX11_isPlant) ∈ lw_gd := tb6 (i := 10) rfl (by first | rfl | decide +kernel)
theorem w_1211 : Cond.code (my mX11_isPlant) (mc mX11_isPlant) (mL mX11_isPlant) (mr mX11_isPlant) ∈ lw_gd := tb6 (i := 11) rfl (by first | rfl | decide +kernel)
theorem w_1212 : Cond.methodLink RX11 130 (my mX11_of1) ∈ lw_gd := tb6 (i := 12) rfl (by first | rfl | decide +kernel)
theorem w_1214 : Cond.instanceMethod (my mX11_of1) ∈ lw_gd := tb6 (i := 14) rfl (by first | rfl | decide +kernel)
theorem w_1215 : Cond.code (my mX11_of1) (mc mX11_of1) (mL mX11_of1) (mr mX11_of1) ∈ lw_gd := tb6 (i := 15) rfl (by first | rfl | decide +kernel)
theorem w_1216 : Cond.methodLink RL 45 (my mX11_costs) ∈ lw_gd := tb6 (i := 16) rfl (by first | rfl | decide +kernel)
theorem w_1217 : Cond.instanceMethod (my mX11_costs) ∈ lw_gd := tb6 (i := 17) rfl (by first | rfl | decide +kernel)
theorem w_1218 : Cond.selects RX11 (my mX11_costs) (my mX11_costs) ∈ lw_gd := tb6 (i := 18) rfl (by first | rfl | decide +kernel)
theorem w_1219 : Cond.code (my mX11_costs) (mc mX11_costs) (mL mX11_costs) (mr mX11_costs) ∈ lw_gd := tb6 (i := 19) rfl (by first | rfl | decide +kernel)
theorem w_1220 : Cond.methodLink RX11 133 (my mX11_costsWrong) ∈ lw_gd := tb6 (i := 20) rfl (by first | rfl | decide +kernel)
theorem w_1222 : Cond.instanceMethod (my mX11_costsWrong) ∈ lw_gd := tb6 (i := 22) rfl (by first | rfl | decide +kernel)
theorem w_1223 : Cond.code (my mX11_costsWrong) (mc mX11_costsWrong) (mL mX11_costsWrong) (mr mX11_costsWrong) ∈ lw_gd := tb6 (i := 23) rfl (by first | rfl | decide +kernel)
theorem w_1224 : Cond.methodLink RL 49 (my mX11_times) ∈ lw_gd := tb6 (i := 24) rfl (by first | rfl | decide +kernel)
theorem w_1225 : Cond.instanceMethod (my mX11_times) ∈ lw_gd := tb6 (i := 25) rfl (by first | rfl | decide +kernel)
theorem w_1226 : Cond.selects RX11 (my mX11_times) (my mX11_times) ∈ lw_gd := tb6 (i := 26) rfl (by first | rfl | decide +kernel)
theorem w_1227 : Cond.code (my mX11_times) (mc mX11_times) (mL mX11_times) (mr mX11_times) ∈ lw_gd := tb6 (i := 27) rfl (by first | rfl | decide +kernel)
theorem w_1228 : Cond.methodLink RX11 137 (my mX11_timesWrong) ∈ lw_gd := tb6 (i := 28) rfl (by first | rfl | decide +kernel)
theorem w_1230 : Cond.instanceMethod (my mX11_timesWrong) ∈ lw_gd := tb6 (i := 30) rfl (by first | rfl | decide +kernel)
theorem w_1231 : Cond.code (my mX11_timesWrong) (mc mX11_timesWrong) (mL mX11_timesWrong) (mr mX11_timesWrong) ∈ lw_gd := tb6 (i := 31) rfl (by first | rfl | decide +kernel)
theorem w_1232 : Cond.methodLink RL 53 (my mX11_age) ∈ lw_gd := tb6 (i := 32) rfl (by first | rfl | decide +kernel)
theorem w_1233 : Cond.instanceMethod (my mX11_age) ∈ lw_gd := tb6 (i := 33) rfl (by first | rfl | decide +kernel)
theorem w_1234 : Cond.selects RX11 (my mX11_age) (my mX11_age) ∈ lw_gd := tb6 (i := 34) rfl (by first | rfl | decide +kernel)
theorem w_1235 : Cond.code (my mX11_age) (mc mX11_age) (mL mX11_age) (mr mX11_age) ∈ lw_gd := tb6 (i := 35) rfl (by first | rfl | decide +kernel)
theorem w_1236 : Cond.methodLink RX11 140 (my mX11_ageWrong) ∈ lw_gd := tb6 (i := 36) rfl (by first | rfl | decide +kernel)
theorem w_1238 : Cond.instanceMethod (my mX11_ageWrong) ∈ lw_gd := tb6 (i := 38) rfl (by first | rfl | decide +kernel)
theorem w_1239 : Cond.code (my mX11_ageWrong) (mc mX11_ageWrong) (mL mX11_ageWrong) (mr mX11_ageWrong) ∈ lw_gd := tb6 (i := 39) rfl (by first | rfl | decide +kernel)
theorem w_1240 : Cond.methodLink RL 57 (my mX11_merit) ∈ lw_gd := tb6 (i := 40) rfl (by first | rfl | decide +kernel)
theorem w_1241 : Cond.instanceMethod (my mX11_merit) ∈ lw_gd := tb6 (i := 41) rfl (by first | rfl | decide +kernel)
theorem w_1242 : Cond.selects RX11 (my mX11_merit) (my mX11_merit) ∈ lw_gd := tb6 (i := 42) rfl (by first | rfl | decide +kernel)
theorem w_1243 : Cond.code (my mX11_merit) (mc mX11_merit) (mL mX11_merit) (mr mX11_merit) ∈ lw_gd := tb6 (i := 43) rfl (by first | rfl | decide +kernel)
theorem w_1244 : Cond.constantLong RX11 143 (2) ∈ lw_gd := tb6 (i := 44) rfl (by first | rfl | decide +kernel)
theorem w_1245 : Cond.methodLink RL 61 (my mX11_of) ∈ lw_gd := tb6 (i := 45) rfl (by first | rfl | decide +kernel)
theorem w_1246 : Cond.instanceMethod (my mX11_of) ∈ lw_gd := tb6 (i := 46) rfl (by first | rfl | decide +kernel)
theorem w_1247 : Cond.selects RX11 (my mX11_of) (my mX11_of) ∈ lw_gd := tb6 (i := 47) rfl (by first | rfl | decide +kernel)
theorem w_1248 : Cond.code (my mX11_of) (mc mX11_of) (mL mX11_of) (mr mX11_of) ∈ lw_gd := tb6 (i := 48) rfl (by first | rfl | decide +kernel)
theorem w_1249 : Cond.constantLong RX11 153 (11) ∈ lw_gd := tb6 (i := 49) rfl (by first | rfl | decide +kernel)
theorem w_1250 : Cond.methodLink RX11 155 (my mX11_leastOf) ∈ lw_gd := tb6 (i := 50) rfl (by first | rfl | decide +kernel)
theorem w_1252 : Cond.instanceMethod (my mX11_leastOf) ∈ lw_gd := tb6 (i := 52) rfl (by first | rfl | decide +kernel)
theorem w_1253 : Cond.code (my mX11_leastOf) (mc mX11_leastOf) (mL mX11_leastOf) (mr mX11_leastOf) ∈ lw_gd := tb6 (i := 53) rfl (by first | rfl | decide +kernel)
theorem w_1254 : Cond.methodLink RX11 158 (my mX11_mostOf) ∈ lw_gd := tb6 (i := 54) rfl (by first | rfl | decide +kernel)
theorem w_1256 : Cond.instanceMethod (my mX11_mostOf) ∈ lw_gd := tb6 (i := 56) rfl (by first | rfl | decide +kernel)
theorem w_1257 : Cond.code (my mX11_mostOf) (mc mX11_mostOf) (mL mX11_mostOf) (mr mX11_mostOf) ∈ lw_gd := tb6 (i := 57) rfl (by first | rfl | decide +kernel)
theorem w_1258 : Cond.methodLink RX11 148 (my mJ9_min_7cf53) ∈ lw_gd := tb6 (i := 58) rfl (by first | rfl | decide +kernel)
theorem w_1259 : Cond.methodLink RL 65 (my mX11_starts) ∈ lw_gd := tb6 (i := 59) rfl (by first | rfl | decide +kernel)
theorem w_1260 : Cond.instanceMethod (my mX11_starts) ∈ lw_gd := tb6 (i := 60) rfl (by first | rfl | decide +kernel)
theorem w_1261 : Cond.selects RX11 (my mX11_starts) (my mX11_starts) ∈ lw_gd := tb6 (i := 61) rfl (by first | rfl | decide +kernel)
theorem w_1262 : Cond.code (my mX11_starts) (mc mX11_starts) (mL mX11_starts) (mr mX11_starts) ∈ lw_gd := tb6 (i := 62) rfl (by first | rfl | decide +kernel)
theorem w_1263 : Cond.methodLink RX11 162 (my mX11_startsOf) ∈ lw_gd := tb6 (i := 63) rfl (by first | rfl | decide +kernel)
theorem w_1265 : Cond.instanceMethod (my mX11_startsOf) ∈ lw_gd := tb6 (i := 65) rfl (by first | rfl | decide +kernel)
theorem w_1266 : Cond.code (my mX11_startsOf) (mc mX11_startsOf) (mL mX11_startsOf) (mr mX11_startsOf) ∈ lw_gd := tb6 (i := 66) rfl (by first | rfl | decide +kernel)
theorem w_1267 : Cond.methodLink RX11 145 (my mX11_startsBy) ∈ lw_gd := tb6 (i := 67) rfl (by first | rfl | decide +kernel)
theorem w_1268 : Cond.static (my mX11_startsBy) ∈ lw_gd := tb6 (i := 68) rfl (by first | rfl | decide +kernel)
theorem w_1269 : Cond.code (my mX11_startsBy) (mc mX11_startsBy) (mL mX11_startsBy) (mr mX11_startsBy) ∈ lw_gd := tb6 (i := 69) rfl (by first | rfl | decide +kernel)
theorem w_1270 : Cond.methodLink RL 69 (my mX11_lawful) ∈ lw_gd := tb6 (i := 70) rfl (by first | rfl | decide +kernel)
theorem w_1271 : Cond.instanceMethod (my mX11_lawful) ∈ lw_gd := tb6 (i := 71) rfl (by first | rfl | decide +kernel)
theorem w_1272 : Cond.selects RX11 (my mX11_lawful) (my mX11_lawful) ∈ lw_gd := tb6 (i := 72) rfl (by first | rfl | decide +kernel)
theorem w_1273 : Cond.code (my mX11_lawful) (mc mX11_lawful) (mL mX11_lawful) (mr mX11_lawful) ∈ lw_gd := tb6 (i := 73) rfl (by first | rfl | decide +kernel)
theorem w_1274 : Cond.methodLink RX11 176 (my mX11_isLawful) ∈ lw_gd := tb6 (i := 74) rfl (by first | rfl | decide +kernel)
theorem w_1276 : Cond.instanceMethod (my mX11_isLawful) ∈ lw_gd := tb6 (i := 76) rfl (by first | rfl | decide +kernel)
theorem w_1277 : Cond.code (my mX11_isLawful) (mc mX11_isLawful) (mL mX11_isLawful) (mr mX11_isLawful) ∈ lw_gd := tb6 (i := 77) rfl (by first | rfl | decide +kernel)
theorem w_1278 : Cond.methodLink RX11 165 (my mX11_has) ∈ lw_gd := tb6 (i := 78) rfl (by first | rfl | decide +kernel)
theorem w_1279 : Cond.static (my mX11_has) ∈ lw_gd := tb6 (i := 79) rfl (by first | rfl | decide +kernel)
theorem w_1280 : Cond.code (my mX11_has) (mc mX11_has) (mL mX11_has) (mr mX11_has) ∈ lw_gd := tb6 (i := 80) rfl (by first | rfl | decide +kernel)
theorem w_1281 : Cond.methodLink RX11 169 (my mX11_mayGo) ∈ lw_gd := tb6 (i := 81) rfl (by first | rfl | decide +kernel)
theorem w_1283 : Cond.instanceMethod (my mX11_mayGo) ∈ lw_gd := tb6 (i := 83) rfl (by first | rfl | decide +kernel)
theorem w_1284 : Cond.code (my mX11_mayGo) (mc mX11_mayGo) (mL mX11_mayGo) (mr mX11_mayGo) ∈ lw_gd := tb6 (i := 84) rfl (by first | rfl | decide +kernel)
theorem w_1285 : Cond.methodLink RX11 173 (my mX11_goesOn) ∈ lw_gd := tb6 (i := 85) rfl (by first | rfl | decide +kernel)
theorem w_1286 : Cond.static (my mX11_goesOn) ∈ lw_gd := tb6 (i := 86) rfl (by first | rfl | decide +kernel)
theorem w_1287 : Cond.code (my mX11_goesOn) (mc mX11_goesOn) (mL mX11_goesOn) (mr mX11_goesOn) ∈ lw_gd := tb6 (i := 87) rfl (by first | rfl | decide +kernel)
theorem w_1288 : Cond.methodLink RL 73 (my mX11_rows) ∈ lw_gd := tb6 (i := 88) rfl (by first | rfl | decide +kernel)
theorem w_1289 : Cond.instanceMethod (my mX11_rows) ∈ lw_gd := tb6 (i := 89) rfl (by first | rfl | decide +kernel)
theorem w_1290 : Cond.selects RX11 (my mX11_rows) (my mX11_rows) ∈ lw_gd := tb6 (i := 90) rfl (by first | rfl | decide +kernel)
theorem w_1291 : Cond.code (my mX11_rows) (mc mX11_rows) (mL mX11_rows) (mr mX11_rows) ∈ lw_gd := tb6 (i := 91) rfl (by first | rfl | decide +kernel)
theorem w_1292 : Cond.methodLink RL 77 (my mX11_done) ∈ lw_gd := tb6 (i := 92) rfl (by first | rfl | decide +kernel)
theorem w_1293 : Cond.instanceMethod (my mX11_done) ∈ lw_gd := tb6 (i := 93) rfl (by first | rfl | decide +kernel)
theorem w_1294 : Cond.selects RX11 (my mX11_done) (my mX11_done) ∈ lw_gd := tb6 (i := 94) rfl (by first | rfl | decide +kernel)
theorem w_1295 : Cond.code (my mX11_done) (mc mX11_done) (mL mX11_done) (mr mX11_done) ∈ lw_gd := tb6 (i := 95) rfl (by first | rfl | decide +kernel)
theorem w_1296 : Cond.methodLink RX11 193 (my mX11_setWrong) ∈ lw_gd := tb6 (i := 96) rfl (by first | rfl | decide +kernel)
theorem w_1298 : Cond.instanceMethod (my mX11_setWrong) ∈ lw_gd := tb6 (i := 98) rfl (by first | rfl | decide +kernel)
theorem w_1299 : Cond.code (my mX11_setWrong) (mc mX11_setWrong) (mL mX11_setWrong) (mr mX11_setWrong) ∈ lw_gd := tb6 (i := 99) rfl (by first | rfl | decide +kernel)
theorem w_1300 : Cond.methodLink RX11 196 (my mX11_costBy) ∈ lw_gd := tb6 (i := 100) rfl (by first | rfl | decide +kernel)
theorem w_1302 : Cond.instanceMethod (my mX11_costBy) ∈ lw_gd := tb6 (i := 102) rfl (by first | rfl | decide +kernel)
theorem w_1303 : Cond.code (my mX11_costBy) (mc mX11_costBy) (mL mX11_costBy) (mr mX11_costBy) ∈ lw_gd := tb6 (i := 103) rfl (by first | rfl | decide +kernel)
theorem w_1304 : Cond.methodLink RX11 185 (my mX11_canDo) ∈ lw_gd := tb6 (i := 104) rfl (by first | rfl | decide +kernel)
theorem w_1306 : Cond.instanceMethod (my mX11_canDo) ∈ lw_gd := tb6 (i := 106) rfl (by first | rfl | decide +kernel)
theorem w_1307 : Cond.code (my mX11_canDo) (mc mX11_canDo) (mL mX11_canDo) (mr mX11_canDo) ∈ lw_gd := tb6 (i := 107) rfl (by first | rfl | decide +kernel)
theorem w_1308 : Cond.constant RX11 189 (1000000000) ∈ lw_gd := tb6 (i := 108) rfl (by first | rfl | decide +kernel)
theorem w_1309 : Cond.methodLink RX11 190 (my mX11_shares) ∈ lw_gd := tb6 (i := 109) rfl (by first | rfl | decide +kernel)
theorem w_1311 : Cond.instanceMethod (my mX11_shares) ∈ lw_gd := tb6 (i := 111) rfl (by first | rfl | decide +kernel)
theorem w_1312 : Cond.code (my mX11_shares) (mc mX11_shares) (mL mX11_shares) (mr mX11_shares) ∈ lw_gd := tb6 (i := 112) rfl (by first | rfl | decide +kernel)
theorem w_1313 : Cond.methodLink RX11 182 (my mX11_byMerit) ∈ lw_gd := tb6 (i := 113) rfl (by first | rfl | decide +kernel)
theorem w_1315 : Cond.instanceMethod (my mX11_byMerit) ∈ lw_gd := tb6 (i := 115) rfl (by first | rfl | decide +kernel)
theorem w_1316 : Cond.code (my mX11_byMerit) (mc mX11_byMerit) (mL mX11_byMerit) (mr mX11_byMerit) ∈ lw_gd := tb6 (i := 116) rfl (by first | rfl | decide +kernel)
theorem w_1317 : Cond.methodLink RX11 179 (my mX11_isAhead) ∈ lw_gd := tb6 (i := 117) rfl (by first | rfl | decide +kernel)
theorem w_1319 : Cond.instanceMethod (my mX11_isAhead) ∈ lw_gd := tb6 (i := 119) rfl (by first | rfl | decide +kernel)
theorem w_1320 : Cond.code (my mX11_isAhead) (mc mX11_isAhead) (mL mX11_isAhead) (mr mX11_isAhead) ∈ lw_gd := tb6 (i := 120) rfl (by first | rfl | decide +kernel)
theorem w_1321 : Cond.methodLink RL 81 (my mX11_given) ∈ lw_gd := tb6 (i := 121) rfl (by first | rfl | decide +kernel)
theorem w_1322 : Cond.instanceMethod (my mX11_given) ∈ lw_gd := tb6 (i := 122) rfl (by first | rfl | decide +kernel)
theorem w_1323 : Cond.selects RX11 (my mX11_given) (my mX11_given) ∈ lw_gd := tb6 (i := 123) rfl (by first | rfl | decide +kernel)
theorem w_1324 : Cond.code (my mX11_given) (mc mX11_given) (mL mX11_given) (mr mX11_given) ∈ lw_gd := tb6 (i := 124) rfl (by first | rfl | decide +kernel)
theorem w_1325 : Cond.methodLink RL 85 (my mX11_best) ∈ lw_gd := tb6 (i := 125) rfl (by first | rfl | decide +kernel)
theorem w_1326 : Cond.instanceMethod (my mX11_best) ∈ lw_gd := tb6 (i := 126) rfl (by first | rfl | decide +kernel)
theorem w_1327 : Cond.selects RX11 (my mX11_best) (my mX11_best) ∈ lw_gd := tb6 (i := 127) rfl (by first | rfl | decide +kernel)
theorem w_1328 : Cond.code (my mX11_best) (mc mX11_best) (mL mX11_best) (mr mX11_best) ∈ lw_gd := tb6 (i := 128) rfl (by first | rfl | decide +kernel)
theorem w_1329 : Cond.methodLink RX11 220 (my mX11_bests) ∈ lw_gd := tb6 (i := 129) rfl (by first | rfl | decide +kernel)
theorem w_1331 : Cond.instanceMethod (my mX11_bests) ∈ lw_gd := tb6 (i := 131) rfl (by first | rfl | decide +kernel)
theorem w_1332 : Cond.code (my mX11_bests) (mc mX11_bests) (mL mX11_bests) (mr mX11_bests) ∈ lw_gd := tb6 (i := 132) rfl (by first | rfl | decide +kernel)
theorem w_1333 : Cond.methodLink RX11 214 (my mX11_laysRows) ∈ lw_gd := tb6 (i := 133) rfl (by first | rfl | decide +kernel)
theorem w_1335 : Cond.instanceMethod (my mX11_laysRows) ∈ lw_gd := tb6 (i := 135) rfl (by first | rfl | decide +kernel)
theorem w_1336 : Cond.code (my mX11_laysRows) (mc mX11_laysRows) (mL mX11_laysRows) (mr mX11_laysRows) ∈ lw_gd := tb6 (i := 136) rfl (by first | rfl | decide +kernel)
theorem w_1337 : Cond.methodLink RX11 217 (my mX11_laysTable) ∈ lw_gd := tb6 (i := 137) rfl (by first | rfl | decide +kernel)
theorem w_1339 : Cond.instanceMethod (my mX11_laysTable) ∈ lw_gd := tb6 (i := 139) rfl (by first | rfl | decide +kernel)
theorem w_1340 : Cond.code (my mX11_laysTable) (mc mX11_laysTable) (mL mX11_laysTable) (mr mX11_laysTable) ∈ lw_gd := tb6 (i := 140) rfl (by first | rfl | decide +kernel)
theorem w_1341 : Cond.methodLink RX11 210 (my mX11_tries) ∈ lw_gd := tb6 (i := 141) rfl (by first | rfl | decide +kernel)
theorem w_1343 : Cond.instanceMethod (my mX11_tries) ∈ lw_gd := tb6 (i := 143) rfl (by first | rfl | decide +kernel)
theorem w_1344 : Cond.code (my mX11_tries) (mc mX11_tries) (mL mX11_tries) (mr mX11_tries) ∈ lw_gd := tb6 (i := 144) rfl (by first | rfl | decide +kernel)
theorem w_1345 : Cond.methodLink RX11 203 (my mX11_costOfTried) ∈ lw_gd := tb6 (i := 145) rfl (by first | rfl | decide +kernel)
theorem w_1347 : Cond.instanceMethod (my mX11_costOfTried) ∈ lw_gd := tb6 (i := 147) rfl (by first | rfl | decide +kernel)
theorem w_1348 : Cond.code (my mX11_costOfTried) (mc mX11_costOfTried) (mL mX11_costOfTried) (mr mX11_costOfTried) ∈ lw_gd := tb6 (i := 148) rfl (by first | rfl | decide +kernel)
theorem w_1349 : Cond.methodLink RL 89 (my mX11_row) ∈ lw_gd := tb6 (i := 149) rfl (by first | rfl | decide +kernel)
theorem w_1350 : Cond.instanceMethod (my mX11_row) ∈ lw_gd := tb6 (i := 150) rfl (by first | rfl | decide +kernel)
theorem w_1351 : Cond.selects RX11 (my mX11_row) (my mX11_row) ∈ lw_gd := tb6 (i := 151) rfl (by first | rfl | decide +kernel)
theorem w_1352 : Cond.code (my mX11_row) (mc mX11_row) (mL mX11_row) (mr mX11_row) ∈ lw_gd := tb6 (i := 152) rfl (by first | rfl | decide +kernel)
theorem w_1353 : Cond.methodLink RL 93 (my mX11_cost) ∈ lw_gd := tb6 (i := 153) rfl (by first | rfl | decide +kernel)
theorem w_1354 : Cond.instanceMethod (my mX11_cost) ∈ lw_gd := tb6 (i := 154) rfl (by first | rfl | decide +kernel)
theorem w_1355 : Cond.selects RX11 (my mX11_cost) (my mX11_cost) ∈ lw_gd := tb6 (i := 155) rfl (by first | rfl | decide +kernel)
theorem w_1356 : Cond.code (my mX11_cost) (mc mX11_cost) (mL mX11_cost) (mr mX11_cost) ∈ lw_gd := tb6 (i := 156) rfl (by first | rfl | decide +kernel)
theorem w_1357 : Cond.methodLink RX11 223 (my mX11_hourBest) ∈ lw_gd := tb6 (i := 157) rfl (by first | rfl | decide +kernel)
theorem w_1359 : Cond.instanceMethod (my mX11_hourBest) ∈ lw_gd := tb6 (i := 159) rfl (by first | rfl | decide +kernel)
theorem w_1360 : Cond.code (my mX11_hourBest) (mc mX11_hourBest) (mL mX11_hourBest) (mr mX11_hourBest) ∈ lw_gd := tb6 (i := 160) rfl (by first | rfl | decide +kernel)
theorem w_1361 : Cond.methodLink RL 97 (my mX11_margin) ∈ lw_gd := tb6 (i := 161) rfl (by first | rfl | decide +kernel)
theorem w_1362 : Cond.instanceMethod (my mX11_margin) ∈ lw_gd := tb6 (i := 162) rfl (by first | rfl | decide +kernel)
theorem w_1363 : Cond.selects RX11 (my mX11_margin) (my mX11_margin) ∈ lw_gd := tb6 (i := 163) rfl (by first | rfl | decide +kernel)
theorem w_1364 : Cond.code (my mX11_margin) (mc mX11_margin) (mL mX11_margin) (mr mX11_margin) ∈ lw_gd := tb6 (i := 164) rfl (by first | rfl | decide +kernel)
theorem w_1365 : Cond.constant RX11 226 (-99999) ∈ lw_gd := tb6 (i := 165) rfl (by first | rfl | decide +kernel)
theorem w_1366 : Cond.methodLink RL 101 (my mX11_worth) ∈ lw_gd := tb6 (i := 166) rfl (by first | rfl | decide +kernel)
theorem w_1367 : Cond.instanceMethod (my mX11_worth) ∈ lw_gd := tb6 (i := 167) rfl (by first | rfl | decide +kernel)
theorem w_1368 : Cond.selects RX11 (my mX11_worth) (my mX11_worth) ∈ lw_gd := tb6 (i := 168) rfl (by first | rfl | decide +kernel)
theorem w_1369 : Cond.code (my mX11_worth) (mc mX11_worth) (mL mX11_worth) (mr mX11_worth) ∈ lw_gd := tb6 (i := 169) rfl (by first | rfl | decide +kernel)
theorem w_1370 : Cond.methodLink RL 105 (my mX11_hand) ∈ lw_gd := tb6 (i := 170) rfl (by first | rfl | decide +kernel)
theorem w_1371 : Cond.instanceMethod (my mX11_hand) ∈ lw_gd := tb6 (i := 171) rfl (by first | rfl | decide +kernel)
theorem w_1372 : Cond.selects RX11 (my mX11_hand) (my mX11_hand) ∈ lw_gd := tb6 (i := 172) rfl (by first | rfl | decide +kernel)
theorem w_1373 : Cond.code (my mX11_hand) (mc mX11_hand) (mL mX11_hand) (mr mX11_hand) ∈ lw_gd := tb6 (i := 173) rfl (by first | rfl | decide +kernel)
theorem w_1374 : Cond.methodLink RX11 227 (my mX11_isBestBy) ∈ lw_gd := tb6 (i := 174) rfl (by first | rfl | decide +kernel)
theorem w_1376 : Cond.instanceMethod (my mX11_isBestBy) ∈ lw_gd := tb6 (i := 176) rfl (by first | rfl | decide +kernel)
theorem w_1377 : Cond.code (my mX11_isBestBy) (mc mX11_isBestBy) (mL mX11_isBestBy) (mr mX11_isBestBy) ∈ lw_gd := tb6 (i := 177) rfl (by first | rfl | decide +kernel)
theorem w_1378 : Cond.methodLink RL 110 (my mX11_likely) ∈ lw_gd := tb6 (i := 178) rfl (by first | rfl | decide +kernel)
theorem w_1379 : Cond.instanceMethod (my mX11_likely) ∈ lw_gd := tb6 (i := 179) rfl (by first | rfl | decide +kernel)
theorem w_1380 : Cond.selects RX11 (my mX11_likely) (my mX11_likely) ∈ lw_gd := tb6 (i := 180) rfl (by first | rfl | decide +kernel)
theorem w_1381 : Cond.code (my mX11_likely) (mc mX11_likely) (mL mX11_likely) (mr mX11_likely) ∈ lw_gd := tb6 (i := 181) rfl (by first | rfl | decide +kernel)
theorem w_1382 : Cond.methodLink RX11 230 (my mX11_noWide) ∈ lw_gd := tb6 (i := 182) rfl (by first | rfl | decide +kernel)
theorem w_1384 : Cond.instanceMethod (my mX11_noWide) ∈ lw_gd := tb6 (i := 184) rfl (by first | rfl | decide +kernel)
theorem w_1385 : Cond.code (my mX11_noWide) (mc mX11_noWide) (mL mX11_noWide) (mr mX11_noWide) ∈ lw_gd := tb6 (i := 185) rfl (by first | rfl | decide +kernel)
theorem w_1386 : Cond.constantLong RX11 77 (4000000000000000000) ∈ lw_gd := tb6 (i := 186) rfl (by first | rfl | decide +kernel)
theorem w_1387 : Cond.methodLink RX11 234 (my mX11_lowest) ∈ lw_gd := tb6 (i := 187) rfl (by first | rfl | decide +kernel)
theorem w_1388 : Cond.static (my mX11_lowest) ∈ lw_gd := tb6 (i := 188) rfl (by first | rfl | decide +kernel)
theorem w_1389 : Cond.code (my mX11_lowest) (mc mX11_lowest) (mL mX11_lowest) (mr mX11_lowest) ∈ lw_gd := tb6 (i := 189) rfl (by first | rfl | decide +kernel)
theorem w_1390 : Cond.methodLink RL 115 (my mX11_shown) ∈ lw_gd := tb6 (i := 190) rfl (by first | rfl | decide +kernel)
theorem w_1391 : Cond.instanceMethod (my mX11_shown) ∈ lw_gd := tb6 (i := 191) rfl (by first | rfl | decide +kernel)
theorem w_1392 : Cond.selects RX11 (my mX11_shown) (my mX11_shown) ∈ lw_gd := tb6 (i := 192) rfl (by first | rfl | decide +kernel)
theorem w_1393 : Cond.code (my mX11_shown) (mc mX11_shown) (mL mX11_shown) (mr mX11_shown) ∈ lw_gd := tb6 (i := 193) rfl (by first | rfl | decide +kernel)
theorem w_1394 : Cond.methodLink RX11 238 (my mX11_allDemand) ∈ lw_gd := tb6 (i := 194) rfl (by first | rfl | decide +kernel)
theorem w_1396 : Cond.instanceMethod (my mX11_allDemand) ∈ lw_gd := tb6 (i := 196) rfl (by first | rfl | decide +kernel)
theorem w_1397 : Cond.code (my mX11_allDemand) (mc mX11_allDemand) (mL mX11_allDemand) (mr mX11_allDemand) ∈ lw_gd := tb6 (i := 197) rfl (by first | rfl | decide +kernel)
theorem w_1398 : Cond.methodLink RX11 241 (my mJxf58ca_floatToIntBits_5c35a) ∈ lw_gd := tb6 (i := 198) rfl (by first | rfl | decide +kernel)
theorem w_1399 : Cond.static (my mJxf58ca_floatToIntBits_5c35a) ∈ lw_gd := tb6 (i := 199) rfl (by first | rfl | decide +kernel)
theorem w_1400 : Cond.code (my mJxf58ca_floatToIntBits_5c35a) (mc mJxf58ca_floatToIntBits_5c35a) (mL mJxf58ca_floatToIntBits_5c35a) (mr mJxf58ca_floatToIntBits_5c35a) ∈ lw_gd := tb6 (i := 200) rfl (by first | rfl | decide +kernel)
theorem w_1401 : Cond.methodLink RJxf58ca 59 (my mJxf58ca_isNaN_12338) ∈ lw_gd := tb6 (i := 201) rfl (by first | rfl | decide +kernel)
theorem w_1402 : Cond.static (my mJxf58ca_isNaN_12338) ∈ lw_gd := tb6 (i := 202) rfl (by first | rfl | decide +kernel)
theorem w_1403 : Cond.code (my mJxf58ca_isNaN_12338) (mc mJxf58ca_isNaN_12338) (mL mJxf58ca_isNaN_12338) (mr mJxf58ca_isNaN_12338) ∈ lw_gd := tb6 (i := 203) rfl (by first | rfl | decide +kernel)
theorem w_1404 : Cond.methodLink RJxf58ca 74 (⟨"java/lang/Float", "floatToRawIntBits", "(F)I"⟩ : MethodName) ∈ lw_gd := tb6 (i := 204) rfl (by first | rfl | decide +kernel)
theorem w_1405 : Cond.static (⟨"java/lang/Float", "floatToRawIntBits", "(F)I"⟩ : MethodName) ∈ lw_gd := tb6 (i := 205) rfl (by first | rfl | decide +kernel)
theorem w_1406 : Cond.native (⟨"java/lang/Float", "floatToRawIntBits", "(F)I"⟩ : MethodName) ∈ lw_gd := tb6 (i := 206) rfl (by first | rfl | decide +kernel)
theorem w_1407 : Cond.constant RJxf58ca 77 (2143289344) ∈ lw_gd := tb6 (i := 207) rfl (by first | rfl | decide +kernel)
theorem w_1408 : Cond.constantFloat RX11 247 (1056964608) ∈ lw_gd := tb6 (i := 208) rfl (by first | rfl | decide +kernel)
theorem w_1409 : Cond.methodLink RL 119 (my mX11_price) ∈ lw_gd := tb6 (i := 209) rfl (by first | rfl | decide +kernel)
theorem w_1410 : Cond.instanceMethod (my mX11_price) ∈ lw_gd := tb6 (i := 210) rfl (by first | rfl | decide +kernel)
theorem w_1411 : Cond.selects RX11 (my mX11_price) (my mX11_price) ∈ lw_gd := tb6 (i := 211) rfl (by first | rfl | decide +kernel)
theorem w_1412 : Cond.code (my mX11_price) (mc mX11_price) (mL mX11_price) (mr mX11_price) ∈ lw_gd := tb6 (i := 212) rfl (by first | rfl | decide +kernel)
theorem w_1413 : Cond.methodLink RL 123 (my mX11_step) ∈ lw_gd := tb6 (i := 213) rfl (by first | rfl | decide +kernel)
theorem w_1414 : Cond.instanceMethod (my mX11_step) ∈ lw_gd := tb6 (i := 214) rfl (by first | rfl | decide +kernel)
theorem w_1415 : Cond.selects RX11 (my mX11_step) (my mX11_step) ∈ lw_gd := tb6 (i := 215) rfl (by first | rfl | decide +kernel)
theorem w_1416 : Cond.code (my mX11_step) (mc mX11_step) (mL mX11_step) (mr mX11_step) ∈ lw_gd := tb6 (i := 216) rfl (by first | rfl | decide +kernel)
theorem w_1417 : Cond.methodLink RL 127 (my mX11_answer) ∈ lw_gd := tb6 (i := 217) rfl (by first | rfl | decide +kernel)
theorem w_1418 : Cond.instanceMethod (my mX11_answer) ∈ lw_gd := tb6 (i := 218) rfl (by first | rfl | decide +kernel)
theorem w_1419 : Cond.selects RX11 (my mX11_answer) (my mX11_answer) ∈ lw_gd := tb6 (i := 219) rfl (by first | rfl | decide +kernel)
theorem w_1420 : Cond.code (my mX11_answer) (mc mX11_answer) (mL mX11_answer) (mr mX11_answer) ∈ lw_gd := tb6 (i := 220) rfl (by first | rfl | decide +kernel)
theorem w_1421 : Cond.methodLink RX11 255 (my mX11_answerOf) ∈ lw_gd := tb6 (i := 221) rfl (by first | rfl | decide +kernel)
theorem w_1423 : Cond.instanceMethod (my mX11_answerOf) ∈ lw_gd := tb6 (i := 223) rfl (by first | rfl | decide +kernel)
theorem w_1424 : Cond.code (my mX11_answerOf) (mc mX11_answerOf) (mL mX11_answerOf) (mr mX11_answerOf) ∈ lw_gd := tb6 (i := 224) rfl (by first | rfl | decide +kernel)
theorem w_1425 : Cond.methodLink RX11 252 (my mX11_netOf) ∈ lw_gd := tb6 (i := 225) rfl (by first | rfl | decide +kernel)
theorem w_1427 : Cond.instanceMethod (my mX11_netOf) ∈ lw_gd := tb6 (i := 227) rfl (by first | rfl | decide +kernel)
theorem w_1428 : Cond.code (my mX11_netOf) (mc mX11_netOf) (mL mX11_netOf) (mr mX11_netOf) ∈ lw_gd := tb6 (i := 228) rfl (by first | rfl | decide +kernel)
theorem w_1429 : Cond.methodLink RX11 248 (my mX11_answersIn) ∈ lw_gd := tb6 (i := 229) rfl (by first | rfl | decide +kernel)
theorem w_1431 : Cond.instanceMethod (my mX11_answersIn) ∈ lw_gd := tb6 (i := 231) rfl (by first | rfl | decide +kernel)
theorem w_1432 : Cond.code (my mX11_answersIn) (mc mX11_answersIn) (mL mX11_answersIn) (mr mX11_answersIn) ∈ lw_gd := tb6 (i := 232) rfl (by first | rfl | decide +kernel)
theorem w_1433 : Cond.methodLink RX11 258 (my mX11_givesBy) ∈ lw_gd := tb6 (i := 233) rfl (by first | rfl | decide +kernel)
theorem w_1435 : Cond.instanceMethod (my mX11_givesBy) ∈ lw_gd := tb6 (i := 235) rfl (by first | rfl | decide +kernel)
theorem w_1436 : Cond.code (my mX11_givesBy) (mc mX11_givesBy) (mL mX11_givesBy) (mr mX11_givesBy) ∈ lw_gd := tb6 (i := 236) rfl (by first | rfl | decide +kernel)
theorem w_1437 : Cond.methodLink RL 131 (my mX11_bound) ∈ lw_gd := tb6 (i := 237) rfl (by first | rfl | decide +kernel)
theorem w_1438 : Cond.instanceMethod (my mX11_bound) ∈ lw_gd := tb6 (i := 238) rfl (by first | rfl | decide +kernel)
theorem w_1439 : Cond.selects RX11 (my mX11_bound) (my mX11_bound) ∈ lw_gd := tb6 (i := 239) rfl (by first | rfl | decide +kernel)
theorem w_1440 : Cond.code (my mX11_bound) (mc mX11_bound) (mL mX11_bound) (mr mX11_bound) ∈ lw_gd := tb7 (i := 0) rfl (by first | rfl | decide +kernel)
theorem w_1441 : Cond.methodLink RL 135 (my mX11_rounds) ∈ lw_gd := tb7 (i := 1) rfl (by first | rfl | decide +kernel)
theorem w_1442 : Cond.instanceMethod (my mX11_rounds) ∈ lw_gd := tb7 (i := 2) rfl (by first | rfl | decide +kernel)
theorem w_1443 : Cond.selects RX11 (my mX11_rounds) (my mX11_rounds) ∈ lw_gd := tb7 (i := 3) rfl (by first | rfl | decide +kernel)
theorem w_1444 : Cond.code (my mX11_rounds) (mc mX11_rounds) (mL mX11_rounds) (mr mX11_rounds) ∈ lw_gd := tb7 (i := 4) rfl (by first | rfl | decide +kernel)
theorem w_1445 : Cond.methodLink RX11 261 (my mX11_keeps) ∈ lw_gd := tb7 (i := 5) rfl (by first | rfl | decide +kernel)
theorem w_1447 : Cond.instanceMethod (my mX11_keeps) ∈ lw_gd := tb7 (i := 7) rfl (by first | rfl | decide +kernel)
theorem w_1448 : Cond.code (my mX11_keeps) (mc mX11_keeps) (mL mX11_keeps) (mr mX11_keeps) ∈ lw_gd := tb7 (i := 8) rfl (by first | rfl | decide +kernel)
theorem w_1449 : Cond.methodLink RX11 83 (⟨"java/lang/System", "arraycopy", "(Ljava/lang/Object;ILjava/lang/Object;II)V"⟩ : MethodName) ∈ lw_gd := tb7 (i := 9) rfl (by first | rfl | decide +kernel)
theorem w_1450 : Cond.methodLink RX11 264 (my mX11_bound) ∈ lw_gd := tb7 (i := 10) rfl (by first | rfl | decide +kernel)
theorem w_1451 : Cond.methodLink RX11 267 (my mX11_round) ∈ lw_gd := tb7 (i := 11) rfl (by first | rfl | decide +kernel)
theorem w_1453 : Cond.instanceMethod (my mX11_round) ∈ lw_gd := tb7 (i := 13) rfl (by first | rfl | decide +kernel)
theorem w_1454 : Cond.code (my mX11_round) (mc mX11_round) (mL mX11_round) (mr mX11_round) ∈ lw_gd := tb7 (i := 14) rfl (by first | rfl | decide +kernel)
theorem w_1455 : Cond.methodLink RX11 270 (my mJ9_max_7cf53) ∈ lw_gd := tb7 (i := 15) rfl (by first | rfl | decide +kernel)
theorem w_1456 : Cond.methodLink RX11 273 (my mX11_laysBack) ∈ lw_gd := tb7 (i := 16) rfl (by first | rfl | decide +kernel)
theorem w_1458 : Cond.instanceMethod (my mX11_laysBack) ∈ lw_gd := tb7 (i := 18) rfl (by first | rfl | decide +kernel)
theorem w_1459 : Cond.code (my mX11_laysBack) (mc mX11_laysBack) (mL mX11_laysBack) (mr mX11_laysBack) ∈ lw_gd := tb7 (i := 19) rfl (by first | rfl | decide +kernel)
theorem w_1460 : Cond.methodLink RL 139 (my mX11_goes) ∈ lw_gd := tb7 (i := 20) rfl (by first | rfl | decide +kernel)
theorem w_1461 : Cond.instanceMethod (my mX11_goes) ∈ lw_gd := tb7 (i := 21) rfl (by first | rfl | decide +kernel)
theorem w_1462 : Cond.selects RX11 (my mX11_goes) (my mX11_goes) ∈ lw_gd := tb7 (i := 22) rfl (by first | rfl | decide +kernel)
theorem w_1463 : Cond.code (my mX11_goes) (mc mX11_goes) (mL mX11_goes) (mr mX11_goes) ∈ lw_gd := tb7 (i := 23) rfl (by first | rfl | decide +kernel)
theorem w_1464 : Cond.methodLink RL 143 (my mX11_repaired) ∈ lw_gd := tb7 (i := 24) rfl (by first | rfl | decide +kernel)
theorem w_1465 : Cond.instanceMethod (my mX11_repaired) ∈ lw_gd := tb7 (i := 25) rfl (by first | rfl | decide +kernel)
theorem w_1466 : Cond.selects RX11 (my mX11_repaired) (my mX11_repaired) ∈ lw_gd := tb7 (i := 26) rfl (by first | rfl | decide +kernel)
theorem w_1467 : Cond.code (my mX11_repaired) (mc mX11_repaired) (mL mX11_repaired) (mr mX11_repaired) ∈ lw_gd := tb7 (i := 27) rfl (by first | rfl | decide +kernel)
theorem w_1468 : Cond.methodLink RX11 291 (my mX11_repairs) ∈ lw_gd := tb7 (i := 28) rfl (by first | rfl | decide +kernel)
theorem w_1470 : Cond.instanceMethod (my mX11_repairs) ∈ lw_gd := tb7 (i := 30) rfl (by first | rfl | decide +kernel)
theorem w_1471 : Cond.code (my mX11_repairs) (mc mX11_repairs) (mL mX11_repairs) (mr mX11_repairs) ∈ lw_gd := tb7 (i := 31) rfl (by first | rfl | decide +kernel)
theorem w_1472 : Cond.methodLink RX11 288 (my mX11_mends) ∈ lw_gd := tb7 (i := 32) rfl (by first | rfl | decide +kernel)
theorem w_1474 : Cond.instanceMethod (my mX11_mends) ∈ lw_gd := tb7 (i := 34) rfl (by first | rfl | decide +kernel)
theorem w_1475 : Cond.code (my mX11_mends) (mc mX11_mends) (mL mX11_mends) (mr mX11_mends) ∈ lw_gd := tb7 (i := 35) rfl (by first | rfl | decide +kernel)
theorem w_1476 : Cond.methodLink RX11 279 (my mX11_mayAll) ∈ lw_gd := tb7 (i := 36) rfl (by first | rfl | decide +kernel)
theorem w_1478 : Cond.instanceMethod (my mX11_mayAll) ∈ lw_gd := tb7 (i := 38) rfl (by first | rfl | decide +kernel)
theorem w_1479 : Cond.code (my mX11_mayAll) (mc mX11_mayAll) (mL mX11_mayAll) (mr mX11_mayAll) ∈ lw_gd := tb7 (i := 39) rfl (by first | rfl | decide +kernel)
theorem w_1480 : Cond.methodLink RX11 282 (my mX11_withStarts) ∈ lw_gd := tb7 (i := 40) rfl (by first | rfl | decide +kernel)
theorem w_1482 : Cond.instanceMethod (my mX11_withStarts) ∈ lw_gd := tb7 (i := 42) rfl (by first | rfl | decide +kernel)
theorem w_1483 : Cond.code (my mX11_withStarts) (mc mX11_withStarts) (mL mX11_withStarts) (mr mX11_withStarts) ∈ lw_gd := tb7 (i := 43) rfl (by first | rfl | decide +kernel)
theorem w_1484 : Cond.methodLink RX11 276 (my mX11_freshIn) ∈ lw_gd := tb7 (i := 44) rfl (by first | rfl | decide +kernel)
theorem w_1486 : Cond.instanceMethod (my mX11_freshIn) ∈ lw_gd := tb7 (i := 46) rfl (by first | rfl | decide +kernel)
theorem w_1487 : Cond.code (my mX11_freshIn) (mc mX11_freshIn) (mL mX11_freshIn) (mr mX11_freshIn) ∈ lw_gd := tb7 (i := 47) rfl (by first | rfl | decide +kernel)
theorem w_1488 : Cond.methodLink RX11 285 (my mX11_unlikeIn) ∈ lw_gd := tb7 (i := 48) rfl (by first | rfl | decide +kernel)
theorem w_1490 : Cond.instanceMethod (my mX11_unlikeIn) ∈ lw_gd := tb7 (i := 50) rfl (by first | rfl | decide +kernel)
theorem w_1491 : Cond.code (my mX11_unlikeIn) (mc mX11_unlikeIn) (mL mX11_unlikeIn) (mr mX11_unlikeIn) ∈ lw_gd := tb7 (i := 51) rfl (by first | rfl | decide +kernel)
theorem w_1492 : Cond.methodLink RL 159 (my mX11_list) ∈ lw_gd := tb7 (i := 52) rfl (by first | rfl | decide +kernel)
theorem w_1493 : Cond.instanceMethod (my mX11_list) ∈ lw_gd := tb7 (i := 53) rfl (by first | rfl | decide +kernel)
theorem w_1494 : Cond.selects RX11 (my mX11_list) (my mX11_list) ∈ lw_gd := tb7 (i := 54) rfl (by first | rfl | decide +kernel)
theorem w_1495 : Cond.code (my mX11_list) (mc mX11_list) (mL mX11_list) (mr mX11_list) ∈ lw_gd := tb7 (i := 55) rfl (by first | rfl | decide +kernel)
theorem w_1496 : Cond.methodLink RX11 296 (my mX11_isList) ∈ lw_gd := tb7 (i := 56) rfl (by first | rfl | decide +kernel)
theorem w_1497 : Cond.static (my mX11_isList) ∈ lw_gd := tb7 (i := 57) rfl (by first | rfl | decide +kernel)
theorem w_1498 : Cond.code (my mX11_isList) (mc mX11_isList) (mL mX11_isList) (mr mX11_isList) ∈ lw_gd := tb7 (i := 58) rfl (by first | rfl | decide +kernel)
theorem w_1499 : Cond.constantLong RX11 294 (3) ∈ lw_gd := tb7 (i := 59) rfl (by first | rfl | decide +kernel)
theorem w_1500 : Cond.methodLink RL 163 (my mX11_put) ∈ lw_gd := tb7 (i := 60) rfl (by first | rfl | decide +kernel)
theorem w_1501 : Cond.instanceMethod (my mX11_put) ∈ lw_gd := tb7 (i := 61) rfl (by first | rfl | decide +kernel)
theorem w_1502 : Cond.selects RX11 (my mX11_put) (my mX11_put) ∈ lw_gd := tb7 (i := 62) rfl (by first | rfl | decide +kernel)
theorem w_1503 : Cond.code (my mX11_put) (mc mX11_put) (mL mX11_put) (mr mX11_put) ∈ lw_gd := tb7 (i := 63) rfl (by first | rfl | decide +kernel)
theorem w_1504 : Cond.methodLink RL 167 (my mX11_lays) ∈ lw_gd := tb7 (i := 64) rfl (by first | rfl | decide +kernel)
theorem w_1505 : Cond.instanceMethod (my mX11_lays) ∈ lw_gd := tb7 (i := 65) rfl (by first | rfl | decide +kernel)
theorem w_1506 : Cond.selects RX11 (my mX11_lays) (my mX11_lays) ∈ lw_gd := tb7 (i := 66) rfl (by first | rfl | decide +kernel)
theorem w_1507 : Cond.code (my mX11_lays) (mc mX11_lays) (mL mX11_lays) (mr mX11_lays) ∈ lw_gd := tb7 (i := 67) rfl (by first | rfl | decide +kernel)
theorem w_1508 : Cond.methodLink RL 147 (my mX11_judge) ∈ lw_gd := tb7 (i := 68) rfl (by first | rfl | decide +kernel)
theorem w_1509 : Cond.instanceMethod (my mX11_judge) ∈ lw_gd := tb7 (i := 69) rfl (by first | rfl | decide +kernel)
theorem w_1510 : Cond.selects RX11 (my mX11_judge) (my mX11_judge) ∈ lw_gd := tb7 (i := 70) rfl (by first | rfl | decide +kernel)
theorem w_1511 : Cond.code (my mX11_judge) (mc mX11_judge) (mL mX11_judge) (mr mX11_judge) ∈ lw_gd := tb7 (i := 71) rfl (by first | rfl | decide +kernel)
theorem w_1512 : Cond.methodLink RX11 299 (my mX11_firstWrong) ∈ lw_gd := tb7 (i := 72) rfl (by first | rfl | decide +kernel)
theorem w_1514 : Cond.instanceMethod (my mX11_firstWrong) ∈ lw_gd := tb7 (i := 74) rfl (by first | rfl | decide +kernel)
theorem w_1515 : Cond.code (my mX11_firstWrong) (mc mX11_firstWrong) (mL mX11_firstWrong) (mr mX11_firstWrong) ∈ lw_gd := tb7 (i := 75) rfl (by first | rfl | decide +kernel)
theorem w_1516 : Cond.methodLink RL 151 (my mX11_whatIs) ∈ lw_gd := tb7 (i := 76) rfl (by first | rfl | decide +kernel)
theorem w_1517 : Cond.instanceMethod (my mX11_whatIs) ∈ lw_gd := tb7 (i := 77) rfl (by first | rfl | decide +kernel)
theorem w_1518 : Cond.selects RX11 (my mX11_whatIs) (my mX11_whatIs) ∈ lw_gd := tb7 (i := 78) rfl (by first | rfl | decide +kernel)
theorem w_1519 : Cond.code (my mX11_whatIs) (mc mX11_whatIs) (mL mX11_whatIs) (mr mX11_whatIs) ∈ lw_gd := tb7 (i := 79) rfl (by first | rfl | decide +kernel)
theorem w_1520 : Cond.methodLink RX11 302 (my mX11_isSo) ∈ lw_gd := tb7 (i := 80) rfl (by first | rfl | decide +kernel)
theorem w_1522 : Cond.instanceMethod (my mX11_isSo) ∈ lw_gd := tb7 (i := 82) rfl (by first | rfl | decide +kernel)
theorem w_1523 : Cond.code (my mX11_isSo) (mc mX11_isSo) (mL mX11_isSo) (mr mX11_isSo) ∈ lw_gd := tb7 (i := 83) rfl (by first | rfl | decide +kernel)
theorem w_1524 : Cond.methodLink RL 155 (my mX11_lots) ∈ lw_gd := tb7 (i := 84) rfl (by first | rfl | decide +kernel)
theorem w_1525 : Cond.instanceMethod (my mX11_lots) ∈ lw_gd := tb7 (i := 85) rfl (by first | rfl | decide +kernel)
theorem w_1526 : Cond.selects RX11 (my mX11_lots) (my mX11_lots) ∈ lw_gd := tb7 (i := 86) rfl (by first | rfl | decide +kernel)
theorem w_1527 : Cond.code (my mX11_lots) (mc mX11_lots) (mL mX11_lots) (mr mX11_lots) ∈ lw_gd := tb7 (i := 87) rfl (by first | rfl | decide +kernel)
theorem w_1528 : Cond.constant RX11 306 (1664525) ∈ lw_gd := tb7 (i := 88) rfl (by first | rfl | decide +kernel)
theorem w_1529 : Cond.constant RX11 307 (1013904223) ∈ lw_gd := tb7 (i := 89) rfl (by first | rfl | decide +kernel)
theorem w_1530 : Cond.constant RX11 308 (2147483647) ∈ lw_gd := tb7 (i := 90) rfl (by first | rfl | decide +kernel)
theorem w_1531 : Cond.methodLink RL 174 (my mX11_pays) ∈ lw_gd := tb7 (i := 91) rfl (by first | rfl | decide +kernel)
theorem w_1532 : Cond.instanceMethod (my mX11_pays) ∈ lw_gd := tb7 (i := 92) rfl (by first | rfl | decide +kernel)
theorem w_1533 : Cond.selects RX11 (my mX11_pays) (my mX11_pays) ∈ lw_gd := tb7 (i := 93) rfl (by first | rfl | decide +kernel)
theorem w_1534 : Cond.code (my mX11_pays) (mc mX11_pays) (mL mX11_pays) (mr mX11_pays) ∈ lw_gd := tb7 (i := 94) rfl (by first | rfl | decide +kernel)
theorem w_1535 : Cond.methodLink RX11 319 (my mX11_isOver) ∈ lw_gd := tb7 (i := 95) rfl (by first | rfl | decide +kernel)
theorem w_1536 : Cond.static (my mX11_isOver) ∈ lw_gd := tb7 (i := 96) rfl (by first | rfl | decide +kernel)
theorem w_1537 : Cond.code (my mX11_isOver) (mc mX11_isOver) (mL mX11_isOver) (mr mX11_isOver) ∈ lw_gd := tb7 (i := 97) rfl (by first | rfl | decide +kernel)
theorem w_1538 : Cond.constantLong RX11 309 (-1) ∈ lw_gd := tb7 (i := 98) rfl (by first | rfl | decide +kernel)
theorem w_1539 : Cond.constantLong RX11 313 (-9223372036854775808) ∈ lw_gd := tb7 (i := 99) rfl (by first | rfl | decide +kernel)
theorem w_1540 : Cond.methodLink RX11 323 (my mX11_comes) ∈ lw_gd := tb7 (i := 100) rfl (by first | rfl | decide +kernel)
theorem w_1542 : Cond.instanceMethod (my mX11_comes) ∈ lw_gd := tb7 (i := 102) rfl (by first | rfl | decide +kernel)
theorem w_1543 : Cond.code (my mX11_comes) (mc mX11_comes) (mL mX11_comes) (mr mX11_comes) ∈ lw_gd := tb7 (i := 103) rfl (by first | rfl | decide +kernel)
theorem w_1544 : Cond.methodLink RL 179 (my mX11_purse) ∈ lw_gd := tb7 (i := 104) rfl (by first | rfl | decide +kernel)
theorem w_1545 : Cond.instanceMethod (my mX11_purse) ∈ lw_gd := tb7 (i := 105) rfl (by first | rfl | decide +kernel)
theorem w_1546 : Cond.selects RX11 (my mX11_purse) (my mX11_purse) ∈ lw_gd := tb7 (i := 106) rfl (by first | rfl | decide +kernel)
theorem w_1547 : Cond.code (my mX11_purse) (mc mX11_purse) (mL mX11_purse) (mr mX11_purse) ∈ lw_gd := tb7 (i := 107) rfl (by first | rfl | decide +kernel)
theorem w_1548 : Cond.methodLink RL 183 (my mX11_bills) ∈ lw_gd := tb7 (i := 108) rfl (by first | rfl | decide +kernel)
theorem w_1549 : Cond.instanceMethod (my mX11_bills) ∈ lw_gd := tb7 (i := 109) rfl (by first | rfl | decide +kernel)
theorem w_1550 : Cond.selects RX11 (my mX11_bills) (my mX11_bills) ∈ lw_gd := tb7 (i := 110) rfl (by first | rfl | decide +kernel)
theorem w_1551 : Cond.code (my mX11_bills) (mc mX11_bills) (mL mX11_bills) (mr mX11_bills) ∈ lw_gd := tb7 (i := 111) rfl (by first | rfl | decide +kernel)
theorem w_1552 : Cond.methodLink RL 187 (my mX11_rack) ∈ lw_gd := tb7 (i := 112) rfl (by first | rfl | decide +kernel)
theorem w_1553 : Cond.instanceMethod (my mX11_rack) ∈ lw_gd := tb7 (i := 113) rfl (by first | rfl | decide +kernel)
theorem w_1554 : Cond.selects RX11 (my mX11_rack) (my mX11_rack) ∈ lw_gd := tb7 (i := 114) rfl (by first | rfl | decide +kernel)
theorem w_1555 : Cond.code (my mX11_rack) (mc mX11_rack) (mL mX11_rack) (mr mX11_rack) ∈ lw_gd := tb7 (i := 115) rfl (by first | rfl | decide +kernel)
theorem w_1556 : Cond.methodLink RX11 327 (my mX11_isRack) ∈ lw_gd := tb7 (i := 116) rfl (by first | rfl | decide +kernel)
theorem w_1557 : Cond.static (my mX11_isRack) ∈ lw_gd := tb7 (i := 117) rfl (by first | rfl | decide +kernel)
theorem w_1558 : Cond.code (my mX11_isRack) (mc mX11_isRack) (mL mX11_isRack) (mr mX11_isRack) ∈ lw_gd := tb7 (i := 118) rfl (by first | rfl | decide +kernel)
theorem w_1559 : Cond.methodLink RX11 330 (my mX11_placeOf) ∈ lw_gd := tb7 (i := 119) rfl (by first | rfl | decide +kernel)
theorem w_1560 : Cond.static (my mX11_placeOf) ∈ lw_gd := tb7 (i := 120) rfl (by first | rfl | decide +kernel)
theorem w_1561 : Cond.code (my mX11_placeOf) (mc mX11_placeOf) (mL mX11_placeOf) (mr mX11_placeOf) ∈ lw_gd := tb7 (i := 121) rfl (by first | rfl | decide +kernel)
theorem w_1562 : Cond.methodLink RL 191 (my mX11_racks) ∈ lw_gd := tb7 (i := 122) rfl (by first | rfl | decide +kernel)
theorem w_1563 : Cond.instanceMethod (my mX11_racks) ∈ lw_gd := tb7 (i := 123) rfl (by first | rfl | decide +kernel)
theorem w_1564 : Cond.selects RX11 (my mX11_racks) (my mX11_racks) ∈ lw_gd := tb7 (i := 124) rfl (by first | rfl | decide +kernel)
theorem w_1565 : Cond.code (my mX11_racks) (mc mX11_racks) (mL mX11_racks) (mr mX11_racks) ∈ lw_gd := tb7 (i := 125) rfl (by first | rfl | decide +kernel)
theorem w_1566 : Cond.methodLink RX11 336 (my mX11_rackWrong) ∈ lw_gd := tb7 (i := 126) rfl (by first | rfl | decide +kernel)
theorem w_1568 : Cond.instanceMethod (my mX11_rackWrong) ∈ lw_gd := tb7 (i := 128) rfl (by first | rfl | decide +kernel)
theorem w_1569 : Cond.code (my mX11_rackWrong) (mc mX11_rackWrong) (mL mX11_rackWrong) (mr mX11_rackWrong) ∈ lw_gd := tb7 (i := 129) rfl (by first | rfl | decide +kernel)
theorem w_1570 : Cond.methodLink RX11 339 (my mX11_isUnder) ∈ lw_gd := tb7 (i := 130) rfl (by first | rfl | decide +kernel)
theorem w_1571 : Cond.static (my mX11_isUnder) ∈ lw_gd := tb7 (i := 131) rfl (by first | rfl | decide +kernel)
theorem w_1572 : Cond.code (my mX11_isUnder) (mc mX11_isUnder) (mL mX11_isUnder) (mr mX11_isUnder) ∈ lw_gd := tb7 (i := 132) rfl (by first | rfl | decide +kernel)
theorem w_1573 : Cond.methodLink RX11 333 (my mX11_above) ∈ lw_gd := tb7 (i := 133) rfl (by first | rfl | decide +kernel)
theorem w_1574 : Cond.static (my mX11_above) ∈ lw_gd := tb7 (i := 134) rfl (by first | rfl | decide +kernel)
theorem w_1575 : Cond.code (my mX11_above) (mc mX11_above) (mL mX11_above) (mr mX11_above) ∈ lw_gd := tb7 (i := 135) rfl (by first | rfl | decide +kernel)
theorem w_1576 : Cond.methodLink RL 195 (my mX11_racked) ∈ lw_gd := tb7 (i := 136) rfl (by first | rfl | decide +kernel)
theorem w_1577 : Cond.instanceMethod (my mX11_racked) ∈ lw_gd := tb7 (i := 137) rfl (by first | rfl | decide +kernel)
theorem w_1578 : Cond.selects RX11 (my mX11_racked) (my mX11_racked) ∈ lw_gd := tb7 (i := 138) rfl (by first | rfl | decide +kernel)
theorem w_1579 : Cond.code (my mX11_racked) (mc mX11_racked) (mL mX11_racked) (mr mX11_racked) ∈ lw_gd := tb7 (i := 139) rfl (by first | rfl | decide +kernel)
theorem w_1580 : Cond.methodLink RL 199 (my mX11_like) ∈ lw_gd := tb7 (i := 140) rfl (by first | rfl | decide +kernel)
theorem w_1581 : Cond.instanceMethod (my mX11_like) ∈ lw_gd := tb7 (i := 141) rfl (by first | rfl | decide +kernel)
theorem w_1582 : Cond.selects RX11 (my mX11_like) (my mX11_like) ∈ lw_gd := tb7 (i := 142) rfl (by first | rfl | decide +kernel)
theorem w_1583 : Cond.code (my mX11_like) (mc mX11_like) (mL mX11_like) (mr mX11_like) ∈ lw_gd := tb7 (i := 143) rfl (by first | rfl | decide +kernel)
theorem w_1584 : Cond.methodLink RL 17 (my mX11_letter) ∈ lw_gd := tb7 (i := 144) rfl (by first | rfl | decide +kernel)
theorem w_1585 : Cond.instanceMethod (my mX11_letter) ∈ lw_gd := tb7 (i := 145) rfl (by first | rfl | decide +kernel)
theorem w_1586 : Cond.selects RX11 (my mX11_letter) (my mX11_letter) ∈ lw_gd := tb7 (i := 146) rfl (by first | rfl | decide +kernel)
theorem w_1587 : Cond.code (my mX11_letter) (mc mX11_letter) (mL mX11_letter) (mr mX11_letter) ∈ lw_gd := tb7 (i := 147) rfl (by first | rfl | decide +kernel)
theorem w_1588 : Cond.methodLink RL 22 (my mX11_tells) ∈ lw_gd := tb7 (i := 148) rfl (by first | rfl | decide +kernel)
theorem w_1589 : Cond.instanceMethod (my mX11_tells) ∈ lw_gd := tb7 (i := 149) rfl (by first | rfl | decide +kernel)
theorem w_1590 : Cond.selects RX11 (my mX11_tells) (my mX11_tells) ∈ lw_gd := tb7 (i := 150) rfl (by first | rfl | decide +kernel)
theorem w_1591 : Cond.code (my mX11_tells) (mc mX11_tells) (mL mX11_tells) (mr mX11_tells) ∈ lw_gd := tb7 (i := 151) rfl (by first | rfl | decide +kernel)
theorem w_1592 : Cond.methodLink RX11 395 (my mX11_reads) ∈ lw_gd := tb7 (i := 152) rfl (by first | rfl | decide +kernel)
theorem w_1594 : Cond.instanceMethod (my mX11_reads) ∈ lw_gd := tb7 (i := 154) rfl (by first | rfl | decide +kernel)
theorem w_1595 : Cond.code (my mX11_reads) (mc mX11_reads) (mL mX11_reads) (mr mX11_reads) ∈ lw_gd := tb7 (i := 155) rfl (by first | rfl | decide +kernel)
theorem w_1596 : Cond.methodLink RX11 348 (my mX11_here) ∈ lw_gd := tb7 (i := 156) rfl (by first | rfl | decide +kernel)
theorem w_1598 : Cond.instanceMethod (my mX11_here) ∈ lw_gd := tb7 (i := 158) rfl (by first | rfl | decide +kernel)
theorem w_1599 : Cond.code (my mX11_here) (mc mX11_here) (mL mX11_here) (mr mX11_here) ∈ lw_gd := tb7 (i := 159) rfl (by first | rfl | decide +kernel)
theorem w_1600 : Cond.methodLink RX11 364 (my mX11_takesNumber) ∈ lw_gd := tb7 (i := 160) rfl (by first | rfl | decide +kernel)
theorem w_1602 : Cond.instanceMethod (my mX11_takesNumber) ∈ lw_gd := tb7 (i := 162) rfl (by first | rfl | decide +kernel)
theorem w_1603 : Cond.code (my mX11_takesNumber) (mc mX11_takesNumber) (mL mX11_takesNumber) (mr mX11_takesNumber) ∈ lw_gd := tb7 (i := 163) rfl (by first | rfl | decide +kernel)
theorem w_1604 : Cond.constantLong RX11 351 (48) ∈ lw_gd := tb7 (i := 164) rfl (by first | rfl | decide +kernel)
theorem w_1605 : Cond.constantLong RX11 353 (57) ∈ lw_gd := tb7 (i := 165) rfl (by first | rfl | decide +kernel)
theorem w_1606 : Cond.methodLink RX11 367 (my mX11_moreOf) ∈ lw_gd := tb7 (i := 166) rfl (by first | rfl | decide +kernel)
theorem w_1607 : Cond.static (my mX11_moreOf) ∈ lw_gd := tb7 (i := 167) rfl (by first | rfl | decide +kernel)
theorem w_1608 : Cond.code (my mX11_moreOf) (mc mX11_moreOf) (mL mX11_moreOf) (mr mX11_moreOf) ∈ lw_gd := tb7 (i := 168) rfl (by first | rfl | decide +kernel)
theorem w_1609 : Cond.methodLink RX11 370 (my mX11_takesSign) ∈ lw_gd := tb7 (i := 169) rfl (by first | rfl | decide +kernel)
theorem w_1611 : Cond.instanceMethod (my mX11_takesSign) ∈ lw_gd := tb7 (i := 171) rfl (by first | rfl | decide +kernel)
theorem w_1612 : Cond.code (my mX11_takesSign) (mc mX11_takesSign) (mL mX11_takesSign) (mr mX11_takesSign) ∈ lw_gd := tb7 (i := 172) rfl (by first | rfl | decide +kernel)
theorem w_1613 : Cond.methodLink RX11 361 (my mX11_takes) ∈ lw_gd := tb7 (i := 173) rfl (by first | rfl | decide +kernel)
theorem w_1615 : Cond.instanceMethod (my mX11_takes) ∈ lw_gd := tb7 (i := 175) rfl (by first | rfl | decide +kernel)
theorem w_1616 : Cond.code (my mX11_takes) (mc mX11_takes) (mL mX11_takes) (mr mX11_takes) ∈ lw_gd := tb7 (i := 176) rfl (by first | rfl | decide +kernel)
theorem w_1617 : Cond.methodLink RX11 398 (my mX11_wrongTold) ∈ lw_gd := tb7 (i := 177) rfl (by first | rfl | decide +kernel)
theorem w_1619 : Cond.instanceMethod (my mX11_wrongTold) ∈ lw_gd := tb7 (i := 179) rfl (by first | rfl | decide +kernel)
theorem w_1620 : Cond.code (my mX11_wrongTold) (mc mX11_wrongTold) (mL mX11_wrongTold) (mr mX11_wrongTold) ∈ lw_gd := tb7 (i := 180) rfl (by first | rfl | decide +kernel)
theorem w_1621 : Cond.methodLink RX11 401 (my mX11_doesTold) ∈ lw_gd := tb7 (i := 181) rfl (by first | rfl | decide +kernel)
theorem w_1623 : Cond.instanceMethod (my mX11_doesTold) ∈ lw_gd := tb7 (i := 183) rfl (by first | rfl | decide +kernel)
theorem w_1624 : Cond.code (my mX11_doesTold) (mc mX11_doesTold) (mL mX11_doesTold) (mr mX11_doesTold) ∈ lw_gd := tb7 (i := 184) rfl (by first | rfl | decide +kernel)
theorem w_1625 : Cond.methodLink RX11 374 (my mX11_plant) ∈ lw_gd := tb7 (i := 185) rfl (by first | rfl | decide +kernel)
theorem w_1626 : Cond.methodLink RX11 377 (my mX11_gives) ∈ lw_gd := tb7 (i := 186) rfl (by first | rfl | decide +kernel)
theorem w_1627 : Cond.methodLink RX11 380 (my mX11_costs) ∈ lw_gd := tb7 (i := 187) rfl (by first | rfl | decide +kernel)
theorem w_1628 : Cond.methodLink RX11 383 (my mX11_times) ∈ lw_gd := tb7 (i := 188) rfl (by first | rfl | decide +kernel)
theorem w_1629 : Cond.methodLink RX11 386 (my mX11_age) ∈ lw_gd := tb7 (i := 189) rfl (by first | rfl | decide +kernel)
theorem w_1630 : Cond.methodLink RX11 389 (my mX11_demand) ∈ lw_gd := tb7 (i := 190) rfl (by first | rfl | decide +kernel)
theorem w_1631 : Cond.methodLink RX11 392 (my mX11_hours) ∈ lw_gd := tb7 (i := 191) rfl (by first | rfl | decide +kernel)
theorem w_1632 : Cond.methodLink RL 203 (my mX11_image) ∈ lw_gd := tb7 (i := 192) rfl (by first | rfl | decide +kernel)
theorem w_1633 : Cond.instanceMethod (my mX11_image) ∈ lw_gd := tb7 (i := 193) rfl (by first | rfl | decide +kernel)
theorem w_1634 : Cond.selects RX11 (my mX11_image) (my mX11_image) ∈ lw_gd := tb7 (i := 194) rfl (by first | rfl | decide +kernel)
theorem w_1635 : Cond.code (my mX11_image) (mc mX11_image) (mL mX11_image) (mr mX11_image) ∈ lw_gd := tb7 (i := 195) rfl (by first | rfl | decide +kernel)
theorem w_1636 : Cond.methodLink RL 207 (my mX11_on) ∈ lw_gd := tb7 (i := 196) rfl (by first | rfl | decide +kernel)
theorem w_1637 : Cond.instanceMethod (my mX11_on) ∈ lw_gd := tb7 (i := 197) rfl (by first | rfl | decide +kernel)
theorem w_1638 : Cond.selects RX11 (my mX11_on) (my mX11_on) ∈ lw_gd := tb7 (i := 198) rfl (by first | rfl | decide +kernel)
theorem w_1639 : Cond.code (my mX11_on) (mc mX11_on) (mL mX11_on) (mr mX11_on) ∈ lw_gd := tb7 (i := 199) rfl (by first | rfl | decide +kernel)
theorem w_1640 : Cond.methodLink RL 211 (my mX11_count) ∈ lw_gd := tb7 (i := 200) rfl (by first | rfl | decide +kernel)
theorem w_1641 : Cond.instanceMethod (my mX11_count) ∈ lw_gd := tb7 (i := 201) rfl (by first | rfl | decide +kernel)
theorem w_1642 : Cond.selects RX11 (my mX11_count) (my mX11_count) ∈ lw_gd := tb7 (i := 202) rfl (by first | rfl | decide +kernel)
theorem w_1643 : Cond.code (my mX11_count) (mc mX11_count) (mL mX11_count) (mr mX11_count) ∈ lw_gd := tb7 (i := 203) rfl (by first | rfl | decide +kernel)
theorem w_1644 : Cond.constantLong RX11 411 (16) ∈ lw_gd := tb7 (i := 204) rfl (by first | rfl | decide +kernel)
theorem w_1645 : Cond.methodLink RL 215 (my mX11_hour) ∈ lw_gd := tb7 (i := 205) rfl (by first | rfl | decide +kernel)
theorem w_1646 : Cond.instanceMethod (my mX11_hour) ∈ lw_gd := tb7 (i := 206) rfl (by first | rfl | decide +kernel)
theorem w_1647 : Cond.selects RX11 (my mX11_hour) (my mX11_hour) ∈ lw_gd := tb7 (i := 207) rfl (by first | rfl | decide +kernel)
theorem w_1648 : Cond.code (my mX11_hour) (mc mX11_hour) (mL mX11_hour) (mr mX11_hour) ∈ lw_gd := tb7 (i := 208) rfl (by first | rfl | decide +kernel)
theorem w_1649 : Cond.constantLong RL 168 (4294967295) ∈ lw_gd := tb7 (i := 209) rfl (by first | rfl | decide +kernel)
theorem w_1650 : Cond.fieldLink RJ0 9 RJ0 "value" "[B" ∈ lw_gd := tb7 (i := 210) rfl (by first | rfl | decide +kernel)
theorem w_1651 : Cond.fieldLink RJ0 15 RJ0 "coder" "B" ∈ lw_gd := tb7 (i := 211) rfl (by first | rfl | decide +kernel)
theorem s_0 : Cond.selects (my mX10_refuse).cls (my mX10_refuse) (my mX10_refuse) ∈ lw_gd := tbs (q := (my mX10_refuse, 13)) (i := 0) rfl rfl
theorem s_1 : Cond.selects (my mX8_take).cls (my mX8_take) (my mX8_take) ∈ lw_gd := tbs (q := (my mX8_take, 5)) (i := 1) rfl rfl
theorem s_2 : Cond.selects (my mX5_copyFrom).cls (my mX5_copyFrom) (my mX5_copyFrom) ∈ lw_gd := tbs (q := (my mX5_copyFrom, 9)) (i := 2) rfl rfl
theorem s_3 : Cond.selects (my mX3_copyFrom).cls (my mX3_copyFrom) (my mX3_copyFrom) ∈ lw_gd := tbs (q := (my mX3_copyFrom, 10)) (i := 3) rfl rfl
theorem s_4 : Cond.selects (my mX8_readAll).cls (my mX8_readAll) (my mX8_readAll) ∈ lw_gd := tbs (q := (my mX8_readAll, 5)) (i := 4) rfl rfl
theorem s_5 : Cond.selects (my mX8_readOne).cls (my mX8_readOne) (my mX8_readOne) ∈ lw_gd := tbs (q := (my mX8_readOne, 5)) (i := 5) rfl rfl
theorem s_6 : Cond.selects (my mX8_here).cls (my mX8_here) (my mX8_here) ∈ lw_gd := tbs (q := (my mX8_here, 5)) (i := 6) rfl rfl
theorem s_7 : Cond.selects (my mX8_readNumber).cls (my mX8_readNumber) (my mX8_readNumber) ∈ lw_gd := tbs (q := (my mX8_readNumber, 5)) (i := 7) rfl rfl
theorem s_8 : Cond.selects (my mX8_isDigit).cls (my mX8_isDigit) (my mX8_isDigit) ∈ lw_gd := tbs (q := (my mX8_isDigit, 5)) (i := 8) rfl rfl
theorem s_9 : Cond.selects (my mX8_readSign).cls (my mX8_readSign) (my mX8_readSign) ∈ lw_gd := tbs (q := (my mX8_readSign, 5)) (i := 9) rfl rfl
theorem s_10 : Cond.selects (my mX8_readLetter).cls (my mX8_readLetter) (my mX8_readLetter) ∈ lw_gd := tbs (q := (my mX8_readLetter, 5)) (i := 10) rfl rfl
theorem s_11 : Cond.selects (my mX8_applyAll).cls (my mX8_applyAll) (my mX8_applyAll) ∈ lw_gd := tbs (q := (my mX8_applyAll, 5)) (i := 11) rfl rfl
theorem s_12 : Cond.selects (my mX8_applyOne).cls (my mX8_applyOne) (my mX8_applyOne) ∈ lw_gd := tbs (q := (my mX8_applyOne, 5)) (i := 12) rfl rfl
theorem s_13 : Cond.selects (my mX5_addPlant).cls (my mX5_addPlant) (my mX5_addPlant) ∈ lw_gd := tbs (q := (my mX5_addPlant, 9)) (i := 13) rfl rfl
theorem s_14 : Cond.selects (my mX3_begin).cls (my mX3_begin) (my mX3_begin) ∈ lw_gd := tbs (q := (my mX3_begin, 10)) (i := 14) rfl rfl
theorem s_15 : Cond.selects (my mX5_setRange).cls (my mX5_setRange) (my mX5_setRange) ∈ lw_gd := tbs (q := (my mX5_setRange, 9)) (i := 15) rfl rfl
theorem s_16 : Cond.selects (my mX5_noPlant).cls (my mX5_noPlant) (my mX5_noPlant) ∈ lw_gd := tbs (q := (my mX5_noPlant, 9)) (i := 16) rfl rfl
theorem s_17 : Cond.selects (my mX5_setCosts).cls (my mX5_setCosts) (my mX5_setCosts) ∈ lw_gd := tbs (q := (my mX5_setCosts, 9)) (i := 17) rfl rfl
theorem s_18 : Cond.selects (my mX5_setTimes).cls (my mX5_setTimes) (my mX5_setTimes) ∈ lw_gd := tbs (q := (my mX5_setTimes, 9)) (i := 18) rfl rfl
theorem s_19 : Cond.selects (my mX5_setAge).cls (my mX5_setAge) (my mX5_setAge) ∈ lw_gd := tbs (q := (my mX5_setAge, 9)) (i := 19) rfl rfl
theorem s_20 : Cond.selects (my mX5_setDemand).cls (my mX5_setDemand) (my mX5_setDemand) ∈ lw_gd := tbs (q := (my mX5_setDemand, 9)) (i := 20) rfl rfl
theorem s_21 : Cond.selects (my mX5_noHour).cls (my mX5_noHour) (my mX5_noHour) ∈ lw_gd := tbs (q := (my mX5_noHour, 9)) (i := 21) rfl rfl
theorem s_22 : Cond.selects (my mX5_setSpan).cls (my mX5_setSpan) (my mX5_setSpan) ∈ lw_gd := tbs (q := (my mX5_setSpan, 9)) (i := 22) rfl rfl
theorem s_23 : Cond.selects (my mX10_counted).cls (my mX10_counted) (my mX10_counted) ∈ lw_gd := tbs (q := (my mX10_counted, 13)) (i := 23) rfl rfl
theorem s_24 : Cond.selects (my mX3_figureOf).cls (my mX3_figureOf) (my mX3_figureOf) ∈ lw_gd := tbs (q := (my mX3_figureOf, 10)) (i := 24) rfl rfl
theorem s_25 : Cond.selects (my mX3_least).cls (my mX3_least) (my mX3_least) ∈ lw_gd := tbs (q := (my mX3_least, 10)) (i := 25) rfl rfl
theorem s_26 : Cond.selects (my mX3_most).cls (my mX3_most) (my mX3_most) ∈ lw_gd := tbs (q := (my mX3_most, 10)) (i := 26) rfl rfl
theorem s_27 : Cond.selects (my mX3_startBehind).cls (my mX3_startBehind) (my mX3_startBehind) ∈ lw_gd := tbs (q := (my mX3_startBehind, 10)) (i := 27) rfl rfl
theorem s_28 : Cond.selects (my mX3_mayRun).cls (my mX3_mayRun) (my mX3_mayRun) ∈ lw_gd := tbs (q := (my mX3_mayRun, 10)) (i := 28) rfl rfl
theorem s_29 : Cond.selects (my mX3_moved).cls (my mX3_moved) (my mX3_moved) ∈ lw_gd := tbs (q := (my mX3_moved, 10)) (i := 29) rfl rfl
theorem s_30 : Cond.selects (my mX10_refusalOfSet).cls (my mX10_refusalOfSet) (my mX10_refusalOfSet) ∈ lw_gd := tbs (q := (my mX10_refusalOfSet, 13)) (i := 30) rfl rfl
theorem s_31 : Cond.selects (my mX0_ready).cls (my mX0_ready) (my mX0_ready) ∈ lw_gd := tbs (q := (my mX0_ready, 8)) (i := 31) rfl rfl
theorem s_32 : Cond.selects (my mX0_share).cls (my mX0_share) (my mX0_share) ∈ lw_gd := tbs (q := (my mX0_share, 8)) (i := 32) rfl rfl
theorem s_33 : Cond.selects (my mX0_mostOf).cls (my mX0_mostOf) (my mX0_mostOf) ∈ lw_gd := tbs (q := (my mX0_mostOf, 8)) (i := 33) rfl rfl
theorem s_34 : Cond.selects (my mX10_solveAsIs).cls (my mX10_solveAsIs) (my mX10_solveAsIs) ∈ lw_gd := tbs (q := (my mX10_solveAsIs, 13)) (i := 34) rfl rfl
theorem s_35 : Cond.selects (my mX7_load).cls (my mX7_load) (my mX7_load) ∈ lw_gd := tbs (q := (my mX7_load, 13)) (i := 35) rfl rfl
theorem s_36 : Cond.selects (my mX7_solve).cls (my mX7_solve) (my mX7_solve) ∈ lw_gd := tbs (q := (my mX7_solve, 13)) (i := 36) rfl rfl
theorem s_37 : Cond.selects (my mX7_layTables).cls (my mX7_layTables) (my mX7_layTables) ∈ lw_gd := tbs (q := (my mX7_layTables, 13)) (i := 37) rfl rfl
theorem s_38 : Cond.selects (my mX7_layMove).cls (my mX7_layMove) (my mX7_layMove) ∈ lw_gd := tbs (q := (my mX7_layMove, 13)) (i := 38) rfl rfl
theorem s_39 : Cond.selects (my mX3_isUnder).cls (my mX3_isUnder) (my mX3_isUnder) ∈ lw_gd := tbs (q := (my mX3_isUnder, 10)) (i := 39) rfl rfl
theorem s_40 : Cond.selects (my mX7_layHourCosts).cls (my mX7_layHourCosts) (my mX7_layHourCosts) ∈ lw_gd := tbs (q := (my mX7_layHourCosts, 13)) (i := 40) rfl rfl
theorem s_41 : Cond.selects (my mX7_spread).cls (my mX7_spread) (my mX7_spread) ∈ lw_gd := tbs (q := (my mX7_spread, 13)) (i := 41) rfl rfl
theorem s_42 : Cond.selects (my mX7_spreadFrom).cls (my mX7_spreadFrom) (my mX7_spreadFrom) ∈ lw_gd := tbs (q := (my mX7_spreadFrom, 13)) (i := 42) rfl rfl
theorem s_43 : Cond.selects (my mX7_keepRows).cls (my mX7_keepRows) (my mX7_keepRows) ∈ lw_gd := tbs (q := (my mX7_keepRows, 13)) (i := 43) rfl rfl
theorem s_44 : Cond.selects (my mX9_begin).cls (my mX9_begin) (my mX9_begin) ∈ lw_gd := tbs (q := (my mX9_begin, 3)) (i := 44) rfl rfl
theorem s_45 : Cond.selects (my mX7_setAt).cls (my mX7_setAt) (my mX7_setAt) ∈ lw_gd := tbs (q := (my mX7_setAt, 13)) (i := 45) rfl rfl
theorem s_46 : Cond.selects (my mX9_pass).cls (my mX9_pass) (my mX9_pass) ∈ lw_gd := tbs (q := (my mX9_pass, 3)) (i := 46) rfl rfl
theorem s_47 : Cond.selects (my mX9_tried).cls (my mX9_tried) (my mX9_tried) ∈ lw_gd := tbs (q := (my mX9_tried, 3)) (i := 47) rfl rfl
theorem s_48 : Cond.selects (my mX10_canKeep).cls (my mX10_canKeep) (my mX10_canKeep) ∈ lw_gd := tbs (q := (my mX10_canKeep, 13)) (i := 48) rfl rfl
theorem s_49 : Cond.selects (my mX10_refuseLong).cls (my mX10_refuseLong) (my mX10_refuseLong) ∈ lw_gd := tbs (q := (my mX10_refuseLong, 13)) (i := 49) rfl rfl
theorem s_50 : Cond.selects (my mX5_demandOfAll).cls (my mX5_demandOfAll) (my mX5_demandOfAll) ∈ lw_gd := tbs (q := (my mX5_demandOfAll, 9)) (i := 50) rfl rfl
theorem s_51 : Cond.selects (my mX10_leansOfBest).cls (my mX10_leansOfBest) (my mX10_leansOfBest) ∈ lw_gd := tbs (q := (my mX10_leansOfBest, 13)) (i := 51) rfl rfl
theorem s_52 : Cond.selects (my mX2_begin).cls (my mX2_begin) (my mX2_begin) ∈ lw_gd := tbs (q := (my mX2_begin, 6)) (i := 52) rfl rfl
theorem s_53 : Cond.selects (my mX2_ask).cls (my mX2_ask) (my mX2_ask) ∈ lw_gd := tbs (q := (my mX2_ask, 6)) (i := 53) rfl rfl
theorem s_54 : Cond.selects (my mX2_netOf).cls (my mX2_netOf) (my mX2_netOf) ∈ lw_gd := tbs (q := (my mX2_netOf, 6)) (i := 54) rfl rfl
theorem s_55 : Cond.selects (my mX2_amountAt).cls (my mX2_amountAt) (my mX2_amountAt) ∈ lw_gd := tbs (q := (my mX2_amountAt, 6)) (i := 55) rfl rfl
theorem s_56 : Cond.selects (my mX2_addAmounts).cls (my mX2_addAmounts) (my mX2_addAmounts) ∈ lw_gd := tbs (q := (my mX2_addAmounts, 6)) (i := 56) rfl rfl
theorem s_57 : Cond.selects (my mX2_run).cls (my mX2_run) (my mX2_run) ∈ lw_gd := tbs (q := (my mX2_run, 6)) (i := 57) rfl rfl
theorem s_58 : Cond.selects (my mX2_boundNow).cls (my mX2_boundNow) (my mX2_boundNow) ∈ lw_gd := tbs (q := (my mX2_boundNow, 6)) (i := 58) rfl rfl
theorem s_59 : Cond.selects (my mX4_run).cls (my mX4_run) (my mX4_run) ∈ lw_gd := tbs (q := (my mX4_run, 4)) (i := 59) rfl rfl
theorem s_60 : Cond.selects (my mX4_nearest).cls (my mX4_nearest) (my mX4_nearest) ∈ lw_gd := tbs (q := (my mX4_nearest, 4)) (i := 60) rfl rfl
theorem s_61 : Cond.selects (my mX1_setAt).cls (my mX1_setAt) (my mX1_setAt) ∈ lw_gd := tbs (q := (my mX1_setAt, 2)) (i := 61) rfl rfl
theorem s_62 : Cond.selects (my mX1_tellsStarts).cls (my mX1_tellsStarts) (my mX1_tellsStarts) ∈ lw_gd := tbs (q := (my mX1_tellsStarts, 2)) (i := 62) rfl rfl
theorem s_63 : Cond.selects (my mX1_make).cls (my mX1_make) (my mX1_make) ∈ lw_gd := tbs (q := (my mX1_make, 2)) (i := 63) rfl rfl
theorem s_64 : Cond.selects (my mX1_set).cls (my mX1_set) (my mX1_set) ∈ lw_gd := tbs (q := (my mX1_set, 2)) (i := 64) rfl rfl
theorem s_65 : Cond.selects (my mX6_make).cls (my mX6_make) (my mX6_make) ∈ lw_gd := tbs (q := (my mX6_make, 4)) (i := 65) rfl rfl
theorem s_66 : Cond.selects (my mX6_noPlace).cls (my mX6_noPlace) (my mX6_noPlace) ∈ lw_gd := tbs (q := (my mX6_noPlace, 4)) (i := 66) rfl rfl
theorem s_67 : Cond.selects (my mX6_copyFrom).cls (my mX6_copyFrom) (my mX6_copyFrom) ∈ lw_gd := tbs (q := (my mX6_copyFrom, 4)) (i := 67) rfl rfl
theorem s_68 : Cond.selects (my mX11_hoursWrong).cls (my mX11_hoursWrong) (my mX11_hoursWrong) ∈ lw_gd := tbs (q := (my mX11_hoursWrong, 31)) (i := 68) rfl rfl
theorem s_69 : Cond.selects (my mX11_no).cls (my mX11_no) (my mX11_no) ∈ lw_gd := tbs (q := (my mX11_no, 31)) (i := 69) rfl rfl
theorem s_70 : Cond.selects (my mX11_demandWrong).cls (my mX11_demandWrong) (my mX11_demandWrong) ∈ lw_gd := tbs (q := (my mX11_demandWrong, 31)) (i := 70) rfl rfl
theorem s_71 : Cond.selects (my mX11_isHour).cls (my mX11_isHour) (my mX11_isHour) ∈ lw_gd := tbs (q := (my mX11_isHour, 31)) (i := 71) rfl rfl
theorem s_72 : Cond.selects (my mX11_plantWrong).cls (my mX11_plantWrong) (my mX11_plantWrong) ∈ lw_gd := tbs (q := (my mX11_plantWrong, 31)) (i := 72) rfl rfl
theorem s_73 : Cond.selects (my mX11_adds).cls (my mX11_adds) (my mX11_adds) ∈ lw_gd := tbs (q := (my mX11_adds, 31)) (i := 73) rfl rfl
theorem s_74 : Cond.selects (my mX11_sets).cls (my mX11_sets) (my mX11_sets) ∈ lw_gd := tbs (q := (my mX11_sets, 31)) (i := 74) rfl rfl
theorem s_75 : Cond.selects (my mX11_givesWrong).cls (my mX11_givesWrong) (my mX11_givesWrong) ∈ lw_gd := tbs (q := (my mX11_givesWrong, 31)) (i := 75) rfl rfl
theorem s_76 : Cond.selects (my mX11_isPlant).cls (my mX11_isPlant) (my mX11_isPlant) ∈ lw_gd := tbs (q := (my mX11_isPlant, 31)) (i := 76) rfl rfl
theorem s_77 : Cond.selects (my mX11_of1).cls (my mX11_of1) (my mX11_of1) ∈ lw_gd := tbs (q := (my mX11_of1, 31)) (i := 77) rfl rfl
theorem s_78 : Cond.selects (my mX11_costsWrong).cls (my mX11_costsWrong) (my mX11_costsWrong) ∈ lw_gd := tbs (q := (my mX11_costsWrong, 31)) (i := 78) rfl rfl
theorem s_79 : Cond.selects (my mX11_timesWrong).cls (my mX11_timesWrong) (my mX11_timesWrong) ∈ lw_gd := tbs (q := (my mX11_timesWrong, 31)) (i := 79) rfl rfl
theorem s_80 : Cond.selects (my mX11_ageWrong).cls (my mX11_ageWrong) (my mX11_ageWrong) ∈ lw_gd := tbs (q := (my mX11_ageWrong, 31)) (i := 80) rfl rfl
theorem s_81 : Cond.selects (my mX11_leastOf).cls (my mX11_leastOf) (my mX11_leastOf) ∈ lw_gd := tbs (q := (my mX11_leastOf, 31)) (i := 81) rfl rfl
theorem s_82 : Cond.selects (my mX11_mostOf).cls (my mX11_mostOf) (my mX11_mostOf) ∈ lw_gd := tbs (q := (my mX11_mostOf, 31)) (i := 82) rfl rfl
theorem s_83 : Cond.selects (my mX11_startsOf).cls (my mX11_startsOf) (my mX11_startsOf) ∈ lw_gd := tbs (q := (my mX11_startsOf, 31)) (i := 83) rfl rfl
theorem s_84 : Cond.selects (my mX11_isLawful).cls (my mX11_isLawful) (my mX11_isLawful) ∈ lw_gd := tbs (q := (my mX11_isLawful, 31)) (i := 84) rfl rfl
theorem s_85 : Cond.selects (my mX11_mayGo).cls (my mX11_mayGo) (my mX11_mayGo) ∈ lw_gd := tbs (q := (my mX11_mayGo, 31)) (i := 85) rfl rfl
theorem s_86 : Cond.selects (my mX11_setWrong).cls (my mX11_setWrong) (my mX11_setWrong) ∈ lw_gd := tbs (q := (my mX11_setWrong, 31)) (i := 86) rfl rfl
theorem s_87 : Cond.selects (my mX11_costBy).cls (my mX11_costBy) (my mX11_costBy) ∈ lw_gd := tbs (q := (my mX11_costBy, 31)) (i := 87) rfl rfl
theorem s_88 : Cond.selects (my mX11_canDo).cls (my mX11_canDo) (my mX11_canDo) ∈ lw_gd := tbs (q := (my mX11_canDo, 31)) (i := 88) rfl rfl
theorem s_89 : Cond.selects (my mX11_shares).cls (my mX11_shares) (my mX11_shares) ∈ lw_gd := tbs (q := (my mX11_shares, 31)) (i := 89) rfl rfl
theorem s_90 : Cond.selects (my mX11_byMerit).cls (my mX11_byMerit) (my mX11_byMerit) ∈ lw_gd := tbs (q := (my mX11_byMerit, 31)) (i := 90) rfl rfl
theorem s_91 : Cond.selects (my mX11_isAhead).cls (my mX11_isAhead) (my mX11_isAhead) ∈ lw_gd := tbs (q := (my mX11_isAhead, 31)) (i := 91) rfl rfl
theorem s_92 : Cond.selects (my mX11_bests).cls (my mX11_bests) (my mX11_bests) ∈ lw_gd := tbs (q := (my mX11_bests, 31)) (i := 92) rfl rfl
theorem s_93 : Cond.selects (my mX11_laysRows).cls (my mX11_laysRows) (my mX11_laysRows) ∈ lw_gd := tbs (q := (my mX11_laysRows, 31)) (i := 93) rfl rfl
theorem s_94 : Cond.selects (my mX11_laysTable).cls (my mX11_laysTable) (my mX11_laysTable) ∈ lw_gd := tbs (q := (my mX11_laysTable, 31)) (i := 94) rfl rfl
theorem s_95 : Cond.selects (my mX11_tries).cls (my mX11_tries) (my mX11_tries) ∈ lw_gd := tbs (q := (my mX11_tries, 31)) (i := 95) rfl rfl
theorem s_96 : Cond.selects (my mX11_costOfTried).cls (my mX11_costOfTried) (my mX11_costOfTried) ∈ lw_gd := tbs (q := (my mX11_costOfTried, 31)) (i := 96) rfl rfl
theorem s_97 : Cond.selects (my mX11_hourBest).cls (my mX11_hourBest) (my mX11_hourBest) ∈ lw_gd := tbs (q := (my mX11_hourBest, 31)) (i := 97) rfl rfl
theorem s_98 : Cond.selects (my mX11_isBestBy).cls (my mX11_isBestBy) (my mX11_isBestBy) ∈ lw_gd := tbs (q := (my mX11_isBestBy, 31)) (i := 98) rfl rfl
theorem s_99 : Cond.selects (my mX11_noWide).cls (my mX11_noWide) (my mX11_noWide) ∈ lw_gd := tbs (q := (my mX11_noWide, 31)) (i := 99) rfl rfl
theorem s_100 : Cond.selects (my mX11_allDemand).cls (my mX11_allDemand) (my mX11_allDemand) ∈ lw_gd := tbs (q := (my mX11_allDemand, 31)) (i := 100) rfl rfl
theorem s_101 : Cond.selects (my mX11_answerOf).cls (my mX11_answerOf) (my mX11_answerOf) ∈ lw_gd := tbs (q := (my mX11_answerOf, 31)) (i := 101) rfl rfl
theorem s_102 : Cond.selects (my mX11_netOf).cls (my mX11_netOf) (my mX11_netOf) ∈ lw_gd := tbs (q := (my mX11_netOf, 31)) (i := 102) rfl rfl
theorem s_103 : Cond.selects (my mX11_answersIn).cls (my mX11_answersIn) (my mX11_answersIn) ∈ lw_gd := tbs (q := (my mX11_answersIn, 31)) (i := 103) rfl rfl
theorem s_104 : Cond.selects (my mX11_givesBy).cls (my mX11_givesBy) (my mX11_givesBy) ∈ lw_gd := tbs (q := (my mX11_givesBy, 31)) (i := 104) rfl rfl
theorem s_105 : Cond.selects (my mX11_keeps).cls (my mX11_keeps) (my mX11_keeps) ∈ lw_gd := tbs (q := (my mX11_keeps, 31)) (i := 105) rfl rfl
theorem s_106 : Cond.selects (my mX11_round).cls (my mX11_round) (my mX11_round) ∈ lw_gd := tbs (q := (my mX11_round, 31)) (i := 106) rfl rfl
theorem s_107 : Cond.selects (my mX11_laysBack).cls (my mX11_laysBack) (my mX11_laysBack) ∈ lw_gd := tbs (q := (my mX11_laysBack, 31)) (i := 107) rfl rfl
theorem s_108 : Cond.selects (my mX11_repairs).cls (my mX11_repairs) (my mX11_repairs) ∈ lw_gd := tbs (q := (my mX11_repairs, 31)) (i := 108) rfl rfl
theorem s_109 : Cond.selects (my mX11_mends).cls (my mX11_mends) (my mX11_mends) ∈ lw_gd := tbs (q := (my mX11_mends, 31)) (i := 109) rfl rfl
theorem s_110 : Cond.selects (my mX11_mayAll).cls (my mX11_mayAll) (my mX11_mayAll) ∈ lw_gd := tbs (q := (my mX11_mayAll, 31)) (i := 110) rfl rfl
theorem s_111 : Cond.selects (my mX11_withStarts).cls (my mX11_withStarts) (my mX11_withStarts) ∈ lw_gd := tbs (q := (my mX11_withStarts, 31)) (i := 111) rfl rfl
theorem s_112 : Cond.selects (my mX11_freshIn).cls (my mX11_freshIn) (my mX11_freshIn) ∈ lw_gd := tbs (q := (my mX11_freshIn, 31)) (i := 112) rfl rfl
theorem s_113 : Cond.selects (my mX11_unlikeIn).cls (my mX11_unlikeIn) (my mX11_unlikeIn) ∈ lw_gd := tbs (q := (my mX11_unlikeIn, 31)) (i := 113) rfl rfl
theorem s_114 : Cond.selects (my mX11_firstWrong).cls (my mX11_firstWrong) (my mX11_firstWrong) ∈ lw_gd := tbs (q := (my mX11_firstWrong, 31)) (i := 114) rfl rfl
theorem s_115 : Cond.selects (my mX11_isSo).cls (my mX11_isSo) (my mX11_isSo) ∈ lw_gd := tbs (q := (my mX11_isSo, 31)) (i := 115) rfl rfl
theorem s_116 : Cond.selects (my mX11_comes).cls (my mX11_comes) (my mX11_comes) ∈ lw_gd := tbs (q := (my mX11_comes, 31)) (i := 116) rfl rfl
theorem s_117 : Cond.selects (my mX11_rackWrong).cls (my mX11_rackWrong) (my mX11_rackWrong) ∈ lw_gd := tbs (q := (my mX11_rackWrong, 31)) (i := 117) rfl rfl
theorem s_118 : Cond.selects (my mX11_reads).cls (my mX11_reads) (my mX11_reads) ∈ lw_gd := tbs (q := (my mX11_reads, 31)) (i := 118) rfl rfl
theorem s_119 : Cond.selects (my mX11_here).cls (my mX11_here) (my mX11_here) ∈ lw_gd := tbs (q := (my mX11_here, 31)) (i := 119) rfl rfl
theorem s_120 : Cond.selects (my mX11_takesNumber).cls (my mX11_takesNumber) (my mX11_takesNumber) ∈ lw_gd := tbs (q := (my mX11_takesNumber, 31)) (i := 120) rfl rfl
theorem s_121 : Cond.selects (my mX11_takesSign).cls (my mX11_takesSign) (my mX11_takesSign) ∈ lw_gd := tbs (q := (my mX11_takesSign, 31)) (i := 121) rfl rfl
theorem s_122 : Cond.selects (my mX11_takes).cls (my mX11_takes) (my mX11_takes) ∈ lw_gd := tbs (q := (my mX11_takes, 31)) (i := 122) rfl rfl
theorem s_123 : Cond.selects (my mX11_wrongTold).cls (my mX11_wrongTold) (my mX11_wrongTold) ∈ lw_gd := tbs (q := (my mX11_wrongTold, 31)) (i := 123) rfl rfl
theorem s_124 : Cond.selects (my mX11_doesTold).cls (my mX11_doesTold) (my mX11_doesTold) ∈ lw_gd := tbs (q := (my mX11_doesTold, 31)) (i := 124) rfl rfl
