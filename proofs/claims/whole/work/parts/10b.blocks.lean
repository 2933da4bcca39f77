theorem e_X7_load  {h : Hp} {Q : Hp → Prop}  (k : (∀ g1 : Hp, g1 = (uc h 39 (va_cpy (h.1 2) (h.1 39) 0 0 5)) → (∀ g2 : Hp, g2 = (uc g1 40 (va_cpy (g1.1 3) (g1.1 40) 0 0 5)) → (∀ g3 : Hp, g3 = (ui g2 38 4 (((1 : Int32) <<< ((g2.1 1 5) &&& 31)) - (1 : Int32))) → Q g3)))) : CtV 1 mX7_load [.ref 38] h Q := by
  refine Ct.of (by decide +kernel) (Nat.le_of_ble_eq_true rfl) ?_
  show GoV 1 mX7_load 0 [(0, .ref 38)] [] h Q
  refine go_aload_n (pc2 := 1) dX7_load_0 rfl rfl rfl ?_
  refine gf_234 (pc2 := 4) rfl dX7_load_1 rfl c_38 (fvs r_38_1) ?_
  refine gf_103 (pc2 := 7) rfl dX7_load_4 rfl c_1 (fvs r_1_1) ?_
  refine go_iconst (pc2 := 8) (v := (0 : Int32)) dX7_load_7 rfl (by decide) ?_
  refine go_aload_n (pc2 := 9) dX7_load_8 rfl rfl rfl ?_
  refine gf_235 (pc2 := 12) rfl dX7_load_9 rfl c_38 (fvs r_38_2) ?_
  refine go_iconst (pc2 := 13) (v := (0 : Int32)) dX7_load_12 rfl (by decide) ?_
  refine go_iconst (pc2 := 14) (v := (5 : Int32)) dX7_load_13 rfl (by decide) ?_
  refine go_copyi (pc2 := 17) rfl dX7_load_14 rfl fin_w0 w_715 w_431 w_430 w_13 (by decide) (Nat.le_of_ble_eq_true rfl) c_2 c_39 (by decide) (by decide) (by decide) (by decide : _ = 0) (by decide : _ = 0) (by decide : _ = 5) (by decide) (by decide) ?_
  obtain ⟨g1, eg1⟩ : ∃ y : Hp, y = (uc h 39 (va_cpy (h.1 2) (h.1 39) 0 0 5)) := ⟨_, rfl⟩
  rw [← eg1]
  have k := k g1 eg1
  refine go_aload_n (pc2 := 18) dX7_load_17 rfl rfl rfl ?_
  refine gf_234 (pc2 := 21) rfl dX7_load_18 rfl c_38 (fvs r_38_1) ?_
  refine gf_108 (pc2 := 24) rfl dX7_load_21 rfl c_1 (fvs r_1_2) ?_
  refine go_iconst (pc2 := 25) (v := (0 : Int32)) dX7_load_24 rfl (by decide) ?_
  refine go_aload_n (pc2 := 26) dX7_load_25 rfl rfl rfl ?_
  refine gf_237 (pc2 := 29) rfl dX7_load_26 rfl c_38 (fvs r_38_3) ?_
  refine go_iconst (pc2 := 30) (v := (0 : Int32)) dX7_load_29 rfl (by decide) ?_
  refine go_iconst (pc2 := 31) (v := (5 : Int32)) dX7_load_30 rfl (by decide) ?_
  refine go_copyi (pc2 := 34) rfl dX7_load_31 rfl fin_w0 w_715 w_431 w_430 w_13 (by decide) (Nat.le_of_ble_eq_true rfl) c_3 c_40 (by decide) (by decide) (by decide) (by decide : _ = 0) (by decide : _ = 0) (by decide : _ = 5) (by decide) (by decide) ?_
  obtain ⟨g2, eg2⟩ : ∃ y : Hp, y = (uc g1 40 (va_cpy (g1.1 3) (g1.1 40) 0 0 5)) := ⟨_, rfl⟩
  rw [← eg2]
  have k := k g2 eg2
  refine go_aload_n (pc2 := 35) dX7_load_34 rfl rfl rfl ?_
  refine go_iconst (pc2 := 36) (v := (1 : Int32)) dX7_load_35 rfl (by decide) ?_
  refine go_aload_n (pc2 := 37) dX7_load_36 rfl rfl rfl ?_
  refine gf_234 (pc2 := 40) rfl dX7_load_37 rfl c_38 (fvs r_38_1) ?_
  refine gf_123 (pc2 := 43) rfl dX7_load_40 rfl c_1 fvi ?_
  refine go_ishl (pc2 := 44) dX7_load_43 rfl ?_
  refine go_iconst (pc2 := 45) (v := (1 : Int32)) dX7_load_44 rfl (by decide) ?_
  refine go_isub (pc2 := 46) dX7_load_45 rfl ?_
  refine pf_239 (pc2 := 49) rfl dX7_load_46 rfl c_38 ?_
  obtain ⟨g3, eg3⟩ : ∃ y : Hp, y = (ui g2 38 4 (((1 : Int32) <<< ((g2.1 1 5) &&& 31)) - (1 : Int32))) := ⟨_, rfl⟩
  rw [← eg3]
  have k := k g3 eg3
  exact go_ret dX7_load_49 rfl ⟨rfl, rfl, k⟩
theorem e_X7_solve  {h : Hp} {Q : Int32 → Hp → Prop}  (k : (∃ Q1, CtV 2 mX0_ready [.ref 28, .ref 1] h Q1 ∧ ∀ h4 : Hp, Q1 h4 → GoI 4 mX7_solve 17 [(0, .ref 38), (1, .int (1 : Int32)), (2, .int (0 : Int32)), (3, .int (2 : Int32))] [] h4 Q)) : CtI 4 mX7_solve [.ref 38] h Q := by
  refine Ct.of (by decide +kernel) (Nat.le_of_ble_eq_true rfl) ?_
  show GoI 4 mX7_solve 0 [(0, .ref 38)] [] h Q
  refine go_aload_n (pc2 := 1) dX7_solve_0 rfl rfl rfl ?_
  refine gf_233 (pc2 := 4) rfl dX7_solve_1 rfl c_38 (fvs r_38_0) ?_
  refine go_aload_n (pc2 := 5) dX7_solve_4 rfl rfl rfl ?_
  refine gf_234 (pc2 := 8) rfl dX7_solve_5 rfl c_38 (fvs r_38_1) ?_
  obtain ⟨Q1, hC2, k⟩ := k
  refine gcVN_V (pc2 := 11) (dC := 2) (As := [.ref 1]) (st := []) rfl dX7_solve_8 rfl w_720 ok_X0_ready vi_X0_ready c_28 (by decide) rfl rfl rfl (by decide) (Nat.le_of_ble_eq_true rfl) hC2 (fun h4 hq5 => ?_)
  have k := k h4 hq5
  refine go_iconst (pc2 := 12) (v := (1 : Int32)) dX7_solve_11 rfl (by decide) ?_
  refine go_istore_n (pc2 := 13) (ls2 := [(0, .ref 38), (1, .int (1 : Int32))]) dX7_solve_12 rfl rfl rfl rfl rfl rfl ?_
  refine go_iconst (pc2 := 14) (v := (0 : Int32)) dX7_solve_13 rfl (by decide) ?_
  refine go_istore_n (pc2 := 15) (ls2 := [(0, .ref 38), (1, .int (1 : Int32)), (2, .int (0 : Int32))]) dX7_solve_14 rfl rfl rfl rfl rfl rfl ?_
  refine go_iconst (pc2 := 16) (v := (2 : Int32)) dX7_solve_15 rfl (by decide) ?_
  refine go_istore_n (pc2 := 17) (ls2 := [(0, .ref 38), (1, .int (1 : Int32)), (2, .int (0 : Int32)), (3, .int (2 : Int32))]) dX7_solve_16 rfl rfl rfl rfl rfl rfl ?_
  exact k
theorem b_X7_solve_17 {x1 : Int32} {x2 : Int32} {x3 : Int32} {h : Hp} {Q : Int32 → Hp → Prop}  (k : ((x3 < 0 → (∃ r1, rfo w0 h 38 11 = some r1 ∧ w0.2[r1]? = some (100, 343) ∧ (∃ Q4, CtV 1 mJ7_fill_fda19 [.ref r1, .int (0 : Int32), .int x1, .int (2147483647 : Int32)] h Q4 ∧ ∀ h7 : Hp, Q4 h7 → (∃ r9, rfo w0 h7 38 11 = some r9 ∧ w0.2[r9]? = some (100, 343) ∧ (vp_in x2 343 ∧ (∀ g13 : Hp, g13 = (ui h7 r9 (x2).toNatClampNeg (0 : Int32)) → GoI 4 mX7_solve 74 [(0, .ref 38), (1, .int x1), (3, .int (0 : Int32))] [] g13 Q)))))) ∧ (¬ (x3 < 0) → (vp_in x3 3 ∧ (∃ Q15, CtI 3 mX7_layTables [.ref 38, .ref (6 + (x3).toNatClampNeg), .int x3, .int x1] h Q15 ∧ ∀ (v17 : Int32) (h18 : Hp), Q15 v17 h18 → (vp_in x3 3 ∧ GoI 4 mX7_solve 17 [(0, .ref 38), (1, .int (x1 * (h18.1 42 (x3).toNatClampNeg))), (2, .int (x2 + v17)), (3, .int (x3 + (-1)))] [] h18 Q)))))) : GoI 4 mX7_solve 17 [(0, .ref 38), (1, .int x1), (2, .int x2), (3, .int x3)] [] h Q := by
  refine go_iload_n (pc2 := 18) dX7_solve_17 rfl rfl rfl ?_
  refine go_if_lt (pc2 := 21) (tgt := 54) dX7_solve_18 rfl (by decide) (fun c => ?_) (fun c => ?_)
  · have k := k.1 c
    refine go_aload_n (pc2 := 55) dX7_solve_54 rfl rfl rfl ?_
    obtain ⟨r1, q2, c3, k⟩ := k
    refine gf_248 (pc2 := 58) rfl dX7_solve_55 rfl c_38 (fvr q2) ?_
    refine go_iconst (pc2 := 59) (v := (0 : Int32)) dX7_solve_58 rfl (by decide) ?_
    refine go_iload_n (pc2 := 60) dX7_solve_59 rfl rfl rfl ?_
    refine go_ldc (pc2 := 62) dX7_solve_60 rfl rfl w_739 ?_
    obtain ⟨Q4, hC5, k⟩ := k
    refine gcS_V (pc2 := 65) (dC := 1) (As := [.ref r1, .int (0 : Int32), .int x1, .int (2147483647 : Int32)]) (st := []) rfl dX7_solve_62 rfl w_740 ok_J7_fill_fda19 w_741 rfl (by decide) (Nat.le_of_ble_eq_true rfl) hC5 (fun h7 hq8 => ?_)
    have k := k h7 hq8
    refine go_aload_n (pc2 := 66) dX7_solve_65 rfl rfl rfl ?_
    obtain ⟨r9, q10, c11, k⟩ := k
    refine gf_248 (pc2 := 69) rfl dX7_solve_66 rfl c_38 (fvr q10) ?_
    refine go_iload_n (pc2 := 70) dX7_solve_69 rfl rfl rfl ?_
    refine go_iconst (pc2 := 71) (v := (0 : Int32)) dX7_solve_70 rfl (by decide) ?_
    obtain ⟨y12, k⟩ := k
    refine go_iastore (pc2 := 72) (j := (x2).toNatClampNeg) dX7_solve_71 rfl c11 y12 rfl ?_
    obtain ⟨g13, eg13⟩ : ∃ y : Hp, y = (ui h7 r9 (x2).toNatClampNeg (0 : Int32)) := ⟨_, rfl⟩
    rw [← eg13]
    have k := k g13 eg13
    refine go_iconst (pc2 := 73) (v := (0 : Int32)) dX7_solve_72 rfl (by decide) ?_
    refine go_istore_n (pc2 := 74) (ls2 := [(0, .ref 38), (1, .int x1), (2, .int x2), (3, .int (0 : Int32))]) dX7_solve_73 rfl rfl rfl rfl rfl rfl ?_
    exact Go.pick [0, 1, 3] rfl k
  · have k := k.2 c
    refine go_iload_n (pc2 := 22) dX7_solve_21 rfl rfl rfl ?_
    refine go_aload_n (pc2 := 23) dX7_solve_22 rfl rfl rfl ?_
    refine go_aload_n (pc2 := 24) dX7_solve_23 rfl rfl rfl ?_
    refine gf_234 (pc2 := 27) rfl dX7_solve_24 rfl c_38 (fvs r_38_1) ?_
    refine gf_118 (pc2 := 30) rfl dX7_solve_27 rfl c_1 (fvs r_1_4) ?_
    refine go_iload_n (pc2 := 31) dX7_solve_30 rfl rfl rfl ?_
    obtain ⟨y14, k⟩ := k
    refine go_aaload (pc2 := 32) (t := 0) dX7_solve_31 rfl (by decide) c_5 y14 rfl (rfo_s (ra_5 _ (vp_lt y14))) ?_
    refine go_iload_n (pc2 := 33) dX7_solve_32 rfl rfl rfl ?_
    refine go_iload_n (pc2 := 34) dX7_solve_33 rfl rfl rfl ?_
    obtain ⟨Q15, hC16, k⟩ := k
    refine gcV_I (pc2 := 37) (dC := 3) (As := [.ref (6 + (x3).toNatClampNeg), .int x3, .int x1]) (st := [.int x2]) rfl dX7_solve_34 rfl w_721 ok_X7_layTables vi_X7_layTables c_38 (by decide) rfl rfl rfl (by decide) (Nat.le_of_ble_eq_true rfl) hC16 (fun v17 h18 hq19 => ?_)
    have k := k v17 h18 hq19
    refine go_iadd (pc2 := 38) dX7_solve_37 rfl ?_
    refine go_istore_n (pc2 := 39) (ls2 := [(0, .ref 38), (1, .int x1), (2, .int (x2 + v17)), (3, .int x3)]) dX7_solve_38 rfl rfl rfl rfl rfl rfl ?_
    refine go_iload_n (pc2 := 40) dX7_solve_39 rfl rfl rfl ?_
    refine go_aload_n (pc2 := 41) dX7_solve_40 rfl rfl rfl ?_
    refine gf_243 (pc2 := 44) rfl dX7_solve_41 rfl c_38 (fvs r_38_6) ?_
    refine go_iload_n (pc2 := 45) dX7_solve_44 rfl rfl rfl ?_
    obtain ⟨y20, k⟩ := k
    refine go_iaload (pc2 := 46) (j := (x3).toNatClampNeg) dX7_solve_45 rfl c_42 y20 rfl ?_
    refine go_imul (pc2 := 47) dX7_solve_46 rfl ?_
    refine go_istore_n (pc2 := 48) (ls2 := [(0, .ref 38), (1, .int (x1 * (h18.1 42 (x3).toNatClampNeg))), (2, .int (x2 + v17)), (3, .int x3)]) dX7_solve_47 rfl rfl rfl rfl rfl rfl ?_
    refine go_iinc (pc2 := 51) (ls2 := [(0, .ref 38), (1, .int (x1 * (h18.1 42 (x3).toNatClampNeg))), (2, .int (x2 + v17)), (3, .int (x3 + (-1)))]) (v := (x3 + (-1))) dX7_solve_48 rfl rfl rfl rfl rfl rfl rfl ?_
    refine go_goto (tgt := 17) dX7_solve_51 (by decide) ?_
    exact k
theorem b_X7_solve_74 {x1 : Int32} {x3 : Int32} {h : Hp} {Q : Int32 → Hp → Prop}  (k : (((h.1 1 0) ≤ x3 → GoI 4 mX7_solve 138 [(0, .ref 38), (1, .int x1), (3, .int (2147483647 : Int32)), (4, .int (0 : Int32))] [] h Q) ∧ (¬ ((h.1 1 0) ≤ x3) → (∃ Q1, CtV 2 mX7_layHourCosts [.ref 38, .int x3] h Q1 ∧ ∀ h4 : Hp, Q1 h4 → (∃ r6, rfo w0 h4 38 12 = some r6 ∧ w0.2[r6]? = some (100, 343) ∧ (∃ Q9, CtV 1 mJ7_fill_fda19 [.ref r6, .int (0 : Int32), .int x1, .int (2147483647 : Int32)] h4 Q9 ∧ ∀ h12 : Hp, Q9 h12 → (∃ Q14, CtV 2 mX7_spread [.ref 38, .int x3] h12 Q14 ∧ ∀ h17 : Hp, Q14 h17 → (∃ r19, rfo w0 h17 38 11 = some r19 ∧ w0.2[r19]? = some (100, 343) ∧ (∃ r22, rfo w0 h17 38 12 = some r22 ∧ w0.2[r22]? = some (100, 343) ∧ (r22 < 1000 ∧ (∀ g26 : Hp, g26 = (ui h17 38 11 (nI (r22 + 1))) → (r19 < 1000 ∧ (∀ g28 : Hp, g28 = (ui g26 38 12 (nI (r19 + 1))) → GoI 4 mX7_solve 74 [(0, .ref 38), (1, .int x1), (3, .int (x3 + 1))] [] g28 Q))))))))))))) : GoI 4 mX7_solve 74 [(0, .ref 38), (1, .int x1), (3, .int x3)] [] h Q := by
  refine go_iload_n (pc2 := 75) dX7_solve_74 rfl rfl rfl ?_
  refine go_aload_n (pc2 := 76) dX7_solve_75 rfl rfl rfl ?_
  refine gf_234 (pc2 := 79) rfl dX7_solve_76 rfl c_38 (fvs r_38_1) ?_
  refine gf_100 (pc2 := 82) rfl dX7_solve_79 rfl c_1 fvi ?_
  refine go_icmp_ge (pc2 := 85) (tgt := 132) dX7_solve_82 rfl (by decide) (fun c => ?_) (fun c => ?_)
  · have k := k.1 c
    refine go_ldc (pc2 := 134) dX7_solve_132 rfl rfl w_739 ?_
    refine go_istore_n (pc2 := 135) (ls2 := [(0, .ref 38), (1, .int x1), (3, .int (2147483647 : Int32))]) dX7_solve_134 rfl rfl rfl rfl rfl rfl ?_
    refine go_iconst (pc2 := 136) (v := (0 : Int32)) dX7_solve_135 rfl (by decide) ?_
    refine go_istore (pc2 := 138) (ls2 := [(0, .ref 38), (1, .int x1), (3, .int (2147483647 : Int32)), (4, .int (0 : Int32))]) dX7_solve_136 rfl rfl rfl rfl rfl ?_
    exact k
  · have k := k.2 c
    refine go_aload_n (pc2 := 86) dX7_solve_85 rfl rfl rfl ?_
    refine go_iload_n (pc2 := 87) dX7_solve_86 rfl rfl rfl ?_
    obtain ⟨Q1, hC2, k⟩ := k
    refine gcV_V (pc2 := 90) (dC := 2) (As := [.int x3]) (st := []) rfl dX7_solve_87 rfl w_746 ok_X7_layHourCosts vi_X7_layHourCosts c_38 (by decide) rfl rfl rfl (by decide) (Nat.le_of_ble_eq_true rfl) hC2 (fun h4 hq5 => ?_)
    have k := k h4 hq5
    refine go_aload_n (pc2 := 91) dX7_solve_90 rfl rfl rfl ?_
    obtain ⟨r6, q7, c8, k⟩ := k
    refine gf_249 (pc2 := 94) rfl dX7_solve_91 rfl c_38 (fvr q7) ?_
    refine go_iconst (pc2 := 95) (v := (0 : Int32)) dX7_solve_94 rfl (by decide) ?_
    refine go_iload_n (pc2 := 96) dX7_solve_95 rfl rfl rfl ?_
    refine go_ldc (pc2 := 98) dX7_solve_96 rfl rfl w_739 ?_
    obtain ⟨Q9, hC10, k⟩ := k
    refine gcS_V (pc2 := 101) (dC := 1) (As := [.ref r6, .int (0 : Int32), .int x1, .int (2147483647 : Int32)]) (st := []) rfl dX7_solve_98 rfl w_740 ok_J7_fill_fda19 w_741 rfl (by decide) (Nat.le_of_ble_eq_true rfl) hC10 (fun h12 hq13 => ?_)
    have k := k h12 hq13
    refine go_aload_n (pc2 := 102) dX7_solve_101 rfl rfl rfl ?_
    refine go_iload_n (pc2 := 103) dX7_solve_102 rfl rfl rfl ?_
    obtain ⟨Q14, hC15, k⟩ := k
    refine gcV_V (pc2 := 106) (dC := 2) (As := [.int x3]) (st := []) rfl dX7_solve_103 rfl w_751 ok_X7_spread vi_X7_spread c_38 (by decide) rfl rfl rfl (by decide) (Nat.le_of_ble_eq_true rfl) hC15 (fun h17 hq18 => ?_)
    have k := k h17 hq18
    refine go_aload_n (pc2 := 107) dX7_solve_106 rfl rfl rfl ?_
    obtain ⟨r19, q20, c21, k⟩ := k
    refine gf_248 (pc2 := 110) rfl dX7_solve_107 rfl c_38 (fvr q20) ?_
    refine go_astore (pc2 := 112) (ls2 := [(0, .ref 38), (1, .int x1), (3, .int x3), (4, .ref r19)]) dX7_solve_110 rfl rfl rfl rfl rfl ?_
    refine go_aload_n (pc2 := 113) dX7_solve_112 rfl rfl rfl ?_
    refine go_aload_n (pc2 := 114) dX7_solve_113 rfl rfl rfl ?_
    obtain ⟨r22, q23, c24, k⟩ := k
    refine gf_249 (pc2 := 117) rfl dX7_solve_114 rfl c_38 (fvr q23) ?_
    obtain ⟨y25, k⟩ := k
    refine pd_248 (pc2 := 120) rfl dX7_solve_117 rfl c_38 dyn_38_11 y25 ?_
    obtain ⟨g26, eg26⟩ : ∃ y : Hp, y = (ui h17 38 11 (nI (r22 + 1))) := ⟨_, rfl⟩
    rw [← eg26]
    have k := k g26 eg26
    refine go_aload_n (pc2 := 121) dX7_solve_120 rfl rfl rfl ?_
    refine go_aload (pc2 := 123) dX7_solve_121 rfl rfl ?_
    obtain ⟨y27, k⟩ := k
    refine pd_249 (pc2 := 126) rfl dX7_solve_123 rfl c_38 dyn_38_12 y27 ?_
    obtain ⟨g28, eg28⟩ : ∃ y : Hp, y = (ui g26 38 12 (nI (r19 + 1))) := ⟨_, rfl⟩
    rw [← eg28]
    have k := k g28 eg28
    refine go_iinc (pc2 := 129) (ls2 := [(0, .ref 38), (1, .int x1), (3, .int (x3 + 1)), (4, .ref r19)]) (v := (x3 + 1)) dX7_solve_126 rfl rfl rfl rfl rfl rfl rfl ?_
    refine go_goto (tgt := 74) dX7_solve_129 (by decide) ?_
    exact Go.pick [0, 1, 2] rfl k
theorem b_X7_solve_138 {x1 : Int32} {x3 : Int32} {x4 : Int32} {h : Hp} {Q : Int32 → Hp → Prop}  (k : ((x1 ≤ x4 → (∃ Q1, CtI 1 mX7_keepRows [.ref 38, .int x3] h Q1 ∧ ∀ (v3 : Int32) (h4 : Hp), Q1 v3 h4 → Q v3 h4)) ∧ (¬ (x1 ≤ x4) → (∃ r6, rfo w0 h 38 11 = some r6 ∧ w0.2[r6]? = some (100, 343) ∧ (vp_in x4 343 ∧ (∃ Q10, CtI 0 mJ9_min_7cf53 [.int x3, .int (h.1 r6 (x4).toNatClampNeg)] h Q10 ∧ ∀ (v12 : Int32) (h13 : Hp), Q10 v12 h13 → GoI 4 mX7_solve 138 [(0, .ref 38), (1, .int x1), (3, .int v12), (4, .int (x4 + 1))] [] h13 Q)))))) : GoI 4 mX7_solve 138 [(0, .ref 38), (1, .int x1), (3, .int x3), (4, .int x4)] [] h Q := by
  refine go_iload (pc2 := 140) dX7_solve_138 rfl rfl ?_
  refine go_iload_n (pc2 := 141) dX7_solve_140 rfl rfl rfl ?_
  refine go_icmp_ge (pc2 := 144) (tgt := 162) dX7_solve_141 rfl (by decide) (fun c => ?_) (fun c => ?_)
  · have k := k.1 c
    refine go_aload_n (pc2 := 163) dX7_solve_162 rfl rfl rfl ?_
    refine go_iload_n (pc2 := 164) dX7_solve_163 rfl rfl rfl ?_
    obtain ⟨Q1, hC2, k⟩ := k
    refine gcV_I (pc2 := 167) (dC := 1) (As := [.int x3]) (st := []) rfl dX7_solve_164 rfl w_762 ok_X7_keepRows vi_X7_keepRows c_38 (by decide) rfl rfl rfl (by decide) (Nat.le_of_ble_eq_true rfl) hC2 (fun v3 h4 hq5 => ?_)
    have k := k v3 h4 hq5
    exact go_iret dX7_solve_167 ⟨_, rfl, rfl⟩ ⟨rfl, _, rfl, k⟩
  · have k := k.2 c
    refine go_iload_n (pc2 := 145) dX7_solve_144 rfl rfl rfl ?_
    refine go_aload_n (pc2 := 146) dX7_solve_145 rfl rfl rfl ?_
    obtain ⟨r6, q7, c8, k⟩ := k
    refine gf_248 (pc2 := 149) rfl dX7_solve_146 rfl c_38 (fvr q7) ?_
    refine go_iload (pc2 := 151) dX7_solve_149 rfl rfl ?_
    obtain ⟨y9, k⟩ := k
    refine go_iaload (pc2 := 152) (j := (x4).toNatClampNeg) dX7_solve_151 rfl c8 y9 rfl ?_
    obtain ⟨Q10, hC11, k⟩ := k
    refine gcS_I (pc2 := 155) (dC := 0) (As := [.int x3, .int (h.1 r6 (x4).toNatClampNeg)]) (st := []) rfl dX7_solve_152 rfl w_737 ok_J9_min_7cf53 w_640 rfl (by decide) (Nat.le_of_ble_eq_true rfl) hC11 (fun v12 h13 hq14 => ?_)
    have k := k v12 h13 hq14
    refine go_istore_n (pc2 := 156) (ls2 := [(0, .ref 38), (1, .int x1), (3, .int v12), (4, .int x4)]) dX7_solve_155 rfl rfl rfl rfl rfl rfl ?_
    refine go_iinc (pc2 := 159) (ls2 := [(0, .ref 38), (1, .int x1), (3, .int v12), (4, .int (x4 + 1))]) (v := (x4 + 1)) dX7_solve_156 rfl rfl rfl rfl rfl rfl rfl ?_
    refine go_goto (tgt := 138) dX7_solve_159 (by decide) ?_
    exact k
theorem e_X7_keepRows {x1 : Int32} {h : Hp} {Q : Int32 → Hp → Prop}  (k : ((¬ x1 = (2147483647 : Int32) → GoI 1 mX7_keepRows 11 [(0, .ref 38), (1, .int x1), (2, .int (0 : Int32))] [] h Q) ∧ (x1 = (2147483647 : Int32) → Q (-9 : Int32) h))) : CtI 1 mX7_keepRows [.ref 38, .int x1] h Q := by
  refine Ct.of (by decide +kernel) (Nat.le_of_ble_eq_true rfl) ?_
  show GoI 1 mX7_keepRows 0 [(0, .ref 38), (1, .int x1)] [] h Q
  refine go_iload_n (pc2 := 1) dX7_keepRows_0 rfl rfl rfl ?_
  refine go_ldc (pc2 := 3) dX7_keepRows_1 rfl rfl w_739 ?_
  refine go_icmp_ne (pc2 := 6) (tgt := 9) dX7_keepRows_3 rfl (by decide) (fun c => ?_) (fun c => ?_)
  · have k := k.1 c
    refine go_iconst (pc2 := 10) (v := (0 : Int32)) dX7_keepRows_9 rfl (by decide) ?_
    refine go_istore_n (pc2 := 11) (ls2 := [(0, .ref 38), (1, .int x1), (2, .int (0 : Int32))]) dX7_keepRows_10 rfl rfl rfl rfl rfl rfl ?_
    exact k
  · have k := k.2 c
    refine go_bipush (pc2 := 8) (v := (-9 : Int32)) dX7_keepRows_6 rfl (by decide) ?_
    exact go_iret dX7_keepRows_8 ⟨_, rfl, rfl⟩ ⟨rfl, _, rfl, k⟩
theorem b_X7_keepRows_11 {x1 : Int32} {x2 : Int32} {h : Hp} {Q : Int32 → Hp → Prop}  (k : (((3 : Int32) ≤ x2 → Q (x1 >>> ((15 : Int32) &&& 31)) h) ∧ (¬ ((3 : Int32) ≤ x2) → (∃ Q1, CtI 0 mX7_rowShift [.int x2] h Q1 ∧ ∀ (v3 : Int32) (h4 : Hp), Q1 v3 h4 → (vp_in x2 3 ∧ (∀ g7 : Hp, g7 = (ui h4 41 (x2).toNatClampNeg ((x1 >>> (v3 &&& 31)) &&& (31 : Int32))) → GoI 1 mX7_keepRows 11 [(0, .ref 38), (1, .int x1), (2, .int (x2 + 1))] [] g7 Q)))))) : GoI 1 mX7_keepRows 11 [(0, .ref 38), (1, .int x1), (2, .int x2)] [] h Q := by
  refine go_iload_n (pc2 := 12) dX7_keepRows_11 rfl rfl rfl ?_
  refine go_iconst (pc2 := 13) (v := (3 : Int32)) dX7_keepRows_12 rfl (by decide) ?_
  refine go_icmp_ge (pc2 := 16) (tgt := 37) dX7_keepRows_13 rfl (by decide) (fun c => ?_) (fun c => ?_)
  · have k := k.1 c
    refine go_iload_n (pc2 := 38) dX7_keepRows_37 rfl rfl rfl ?_
    refine go_bipush (pc2 := 40) (v := (15 : Int32)) dX7_keepRows_38 rfl (by decide) ?_
    refine go_ishr (pc2 := 41) dX7_keepRows_40 rfl ?_
    exact go_iret dX7_keepRows_41 ⟨_, rfl, rfl⟩ ⟨rfl, _, rfl, k⟩
  · have k := k.2 c
    refine go_aload_n (pc2 := 17) dX7_keepRows_16 rfl rfl rfl ?_
    refine gf_241 (pc2 := 20) rfl dX7_keepRows_17 rfl c_38 (fvs r_38_5) ?_
    refine go_iload_n (pc2 := 21) dX7_keepRows_20 rfl rfl rfl ?_
    refine go_iload_n (pc2 := 22) dX7_keepRows_21 rfl rfl rfl ?_
    refine go_iload_n (pc2 := 23) dX7_keepRows_22 rfl rfl rfl ?_
    obtain ⟨Q1, hC2, k⟩ := k
    refine gcS_I (pc2 := 26) (dC := 0) (As := [.int x2]) (st := [.int x1, .int x2, .ref 41]) rfl dX7_keepRows_23 rfl w_759 ok_X7_rowShift w_760 rfl (by decide) (Nat.le_of_ble_eq_true rfl) hC2 (fun v3 h4 hq5 => ?_)
    have k := k v3 h4 hq5
    refine go_ishr (pc2 := 27) dX7_keepRows_26 rfl ?_
    refine go_bipush (pc2 := 29) (v := (31 : Int32)) dX7_keepRows_27 rfl (by decide) ?_
    refine go_iand (pc2 := 30) dX7_keepRows_29 rfl ?_
    obtain ⟨y6, k⟩ := k
    refine go_iastore (pc2 := 31) (j := (x2).toNatClampNeg) dX7_keepRows_30 rfl c_41 y6 rfl ?_
    obtain ⟨g7, eg7⟩ : ∃ y : Hp, y = (ui h4 41 (x2).toNatClampNeg ((x1 >>> (v3 &&& 31)) &&& (31 : Int32))) := ⟨_, rfl⟩
    rw [← eg7]
    have k := k g7 eg7
    refine go_iinc (pc2 := 34) (ls2 := [(0, .ref 38), (1, .int x1), (2, .int (x2 + 1))]) (v := (x2 + 1)) dX7_keepRows_31 rfl rfl rfl rfl rfl rfl rfl ?_
    refine go_goto (tgt := 11) dX7_keepRows_34 (by decide) ?_
    exact k
theorem e_X7_rowShift {x0 : Int32} {h : Hp} {Q : Int32 → Hp → Prop}  (k : Q ((5 : Int32) * ((2 : Int32) - x0)) h) : CtI 0 mX7_rowShift [.int x0] h Q := by
  refine Ct.of (by decide +kernel) (Nat.le_of_ble_eq_true rfl) ?_
  show GoI 0 mX7_rowShift 0 [(0, .int x0)] [] h Q
  refine go_iconst (pc2 := 1) (v := (5 : Int32)) dX7_rowShift_0 rfl (by decide) ?_
  refine go_iconst (pc2 := 2) (v := (2 : Int32)) dX7_rowShift_1 rfl (by decide) ?_
  refine go_iload_n (pc2 := 3) dX7_rowShift_2 rfl rfl rfl ?_
  refine go_isub (pc2 := 4) dX7_rowShift_3 rfl ?_
  refine go_imul (pc2 := 5) dX7_rowShift_4 rfl ?_
  exact go_iret dX7_rowShift_5 ⟨_, rfl, rfl⟩ ⟨rfl, _, rfl, k⟩
theorem e_X7_setAt {x1 : Int32} {h : Hp} {Q : Int32 → Hp → Prop}  (k : GoI 0 mX7_setAt 4 [(0, .ref 38), (1, .int x1), (2, .int (0 : Int32)), (3, .int (0 : Int32))] [] h Q) : CtI 0 mX7_setAt [.ref 38, .int x1] h Q := by
  refine Ct.of (by decide +kernel) (Nat.le_of_ble_eq_true rfl) ?_
  show GoI 0 mX7_setAt 0 [(0, .ref 38), (1, .int x1)] [] h Q
  refine go_iconst (pc2 := 1) (v := (0 : Int32)) dX7_setAt_0 rfl (by decide) ?_
  refine go_istore_n (pc2 := 2) (ls2 := [(0, .ref 38), (1, .int x1), (2, .int (0 : Int32))]) dX7_setAt_1 rfl rfl rfl rfl rfl rfl ?_
  refine go_iconst (pc2 := 3) (v := (0 : Int32)) dX7_setAt_2 rfl (by decide) ?_
  refine go_istore_n (pc2 := 4) (ls2 := [(0, .ref 38), (1, .int x1), (2, .int (0 : Int32)), (3, .int (0 : Int32))]) dX7_setAt_3 rfl rfl rfl rfl rfl rfl ?_
  exact k
theorem b_X7_setAt_4 {x1 : Int32} {x2 : Int32} {x3 : Int32} {h : Hp} {Q : Int32 → Hp → Prop}  (k : (((3 : Int32) ≤ x3 → Q x2 h) ∧ (¬ ((3 : Int32) ≤ x3) → (vp_in x3 3 ∧ GoI 0 mX7_setAt 4 [(0, .ref 38), (1, .int x1), (2, .int (x2 ||| ((((h.1 41 (x3).toNatClampNeg) >>> (x1 &&& 31)) &&& (1 : Int32)) <<< (x3 &&& 31)))), (3, .int (x3 + 1))] [] h Q)))) : GoI 0 mX7_setAt 4 [(0, .ref 38), (1, .int x1), (2, .int x2), (3, .int x3)] [] h Q := by
  refine go_iload_n (pc2 := 5) dX7_setAt_4 rfl rfl rfl ?_
  refine go_iconst (pc2 := 6) (v := (3 : Int32)) dX7_setAt_5 rfl (by decide) ?_
  refine go_icmp_ge (pc2 := 9) (tgt := 30) dX7_setAt_6 rfl (by decide) (fun c => ?_) (fun c => ?_)
  · have k := k.1 c
    refine go_iload_n (pc2 := 31) dX7_setAt_30 rfl rfl rfl ?_
    exact go_iret dX7_setAt_31 ⟨_, rfl, rfl⟩ ⟨rfl, _, rfl, k⟩
  · have k := k.2 c
    refine go_iload_n (pc2 := 10) dX7_setAt_9 rfl rfl rfl ?_
    refine go_aload_n (pc2 := 11) dX7_setAt_10 rfl rfl rfl ?_
    refine gf_241 (pc2 := 14) rfl dX7_setAt_11 rfl c_38 (fvs r_38_5) ?_
    refine go_iload_n (pc2 := 15) dX7_setAt_14 rfl rfl rfl ?_
    obtain ⟨y1, k⟩ := k
    refine go_iaload (pc2 := 16) (j := (x3).toNatClampNeg) dX7_setAt_15 rfl c_41 y1 rfl ?_
    refine go_iload_n (pc2 := 17) dX7_setAt_16 rfl rfl rfl ?_
    refine go_ishr (pc2 := 18) dX7_setAt_17 rfl ?_
    refine go_iconst (pc2 := 19) (v := (1 : Int32)) dX7_setAt_18 rfl (by decide) ?_
    refine go_iand (pc2 := 20) dX7_setAt_19 rfl ?_
    refine go_iload_n (pc2 := 21) dX7_setAt_20 rfl rfl rfl ?_
    refine go_ishl (pc2 := 22) dX7_setAt_21 rfl ?_
    refine go_ior (pc2 := 23) dX7_setAt_22 rfl ?_
    refine go_istore_n (pc2 := 24) (ls2 := [(0, .ref 38), (1, .int x1), (2, .int (x2 ||| ((((h.1 41 (x3).toNatClampNeg) >>> (x1 &&& 31)) &&& (1 : Int32)) <<< (x3 &&& 31)))), (3, .int x3)]) dX7_setAt_23 rfl rfl rfl rfl rfl rfl ?_
    refine go_iinc (pc2 := 27) (ls2 := [(0, .ref 38), (1, .int x1), (2, .int (x2 ||| ((((h.1 41 (x3).toNatClampNeg) >>> (x1 &&& 31)) &&& (1 : Int32)) <<< (x3 &&& 31)))), (3, .int (x3 + 1))]) (v := (x3 + 1)) dX7_setAt_24 rfl rfl rfl rfl rfl rfl rfl ?_
    refine go_goto (tgt := 4) dX7_setAt_27 (by decide) ?_
    exact k
theorem e_X7_layTables {x1 : Nat} {x2 : Int32} {x3 : Int32} {h : Hp} {Q : Int32 → Hp → Prop} (hx1 : isPl x1) (k : ((¬ (((h.1 38 4) >>> (x2 &&& 31)) &&& (1 : Int32)) = 0 → (∃ Q1, CtI 1 mX3_isUnder [.ref x1, .int (1 : Int32)] h Q1 ∧ ∀ (v3 : Int32) (h4 : Hp), Q1 v3 h4 → ((v3 = 0 → GoI 3 mX7_layTables 54 [(0, .ref 38), (1, .ref x1), (2, .int x2), (3, .int x3)] [.int (h4.1 x1 8)] h4 Q) ∧ (¬ v3 = 0 → GoI 3 mX7_layTables 54 [(0, .ref 38), (1, .ref x1), (2, .int x2), (3, .int x3)] [.int (4 : Int32)] h4 Q)))) ∧ ((((h.1 38 4) >>> (x2 &&& 31)) &&& (1 : Int32)) = 0 → (vp_in x2 3 ∧ (∀ g7 : Hp, g7 = (ui h 42 (x2).toNatClampNeg (1 : Int32)) → (∃ Q8, CtV 0 mX7_layMove [.ref 38, .int x2, .int (0 : Int32), .int (0 : Int32), .int (0 : Int32), .int (0 : Int32)] g7 Q8 ∧ ∀ h11 : Hp, Q8 h11 → (∃ Q13, CtV 0 mX7_layMove [.ref 38, .int x2, .int (1 : Int32), .int (-1 : Int32), .int (0 : Int32), .int (0 : Int32)] h11 Q13 ∧ ∀ h16 : Hp, Q13 h16 → Q (0 : Int32) h16))))))) : CtI 3 mX7_layTables [.ref 38, .ref x1, .int x2, .int x3] h Q := by
  refine Ct.of (by decide +kernel) (Nat.le_of_ble_eq_true rfl) ?_
  show GoI 3 mX7_layTables 0 [(0, .ref 38), (1, .ref x1), (2, .int x2), (3, .int x3)] [] h Q
  refine go_aload_n (pc2 := 1) dX7_layTables_0 rfl rfl rfl ?_
  refine gf_239 (pc2 := 4) rfl dX7_layTables_1 rfl c_38 fvi ?_
  refine go_iload_n (pc2 := 5) dX7_layTables_4 rfl rfl rfl ?_
  refine go_ishr (pc2 := 6) dX7_layTables_5 rfl ?_
  refine go_iconst (pc2 := 7) (v := (1 : Int32)) dX7_layTables_6 rfl (by decide) ?_
  refine go_iand (pc2 := 8) dX7_layTables_7 rfl ?_
  refine go_if_ne (pc2 := 11) (tgt := 38) dX7_layTables_8 rfl (by decide) (fun c => ?_) (fun c => ?_)
  · have k := k.1 c
    refine go_aload_n (pc2 := 39) dX7_layTables_38 rfl rfl rfl ?_
    refine go_iconst (pc2 := 40) (v := (1 : Int32)) dX7_layTables_39 rfl (by decide) ?_
    obtain ⟨Q1, hC2, k⟩ := k
    refine gcVN_I (pc2 := 43) (dC := 1) (As := [.int (1 : Int32)]) (st := []) rfl dX7_layTables_40 rfl w_729 ok_X3_isUnder vi_X3_isUnder hx1 (by decide) rfl rfl rfl (by decide) (Nat.le_of_ble_eq_true rfl) hC2 (fun v3 h4 hq5 => ?_)
    have k := k v3 h4 hq5
    refine go_if_eq (pc2 := 46) (tgt := 50) dX7_layTables_43 rfl (by decide) (fun c => ?_) (fun c => ?_)
    · have k := k.1 c
      refine go_aload_n (pc2 := 51) dX7_layTables_50 rfl rfl rfl ?_
      refine gf_68 (pc2 := 54) rfl dX7_layTables_51 rfl hx1 fvi ?_
      exact k
    · have k := k.2 c
      refine go_iconst (pc2 := 47) (v := (4 : Int32)) dX7_layTables_46 rfl (by decide) ?_
      refine go_goto (tgt := 54) dX7_layTables_47 (by decide) ?_
      exact k
  · have k := k.2 c
    refine go_aload_n (pc2 := 12) dX7_layTables_11 rfl rfl rfl ?_
    refine gf_243 (pc2 := 15) rfl dX7_layTables_12 rfl c_38 (fvs r_38_6) ?_
    refine go_iload_n (pc2 := 16) dX7_layTables_15 rfl rfl rfl ?_
    refine go_iconst (pc2 := 17) (v := (1 : Int32)) dX7_layTables_16 rfl (by decide) ?_
    obtain ⟨y6, k⟩ := k
    refine go_iastore (pc2 := 18) (j := (x2).toNatClampNeg) dX7_layTables_17 rfl c_42 y6 rfl ?_
    obtain ⟨g7, eg7⟩ : ∃ y : Hp, y = (ui h 42 (x2).toNatClampNeg (1 : Int32)) := ⟨_, rfl⟩
    rw [← eg7]
    have k := k g7 eg7
    refine go_aload_n (pc2 := 19) dX7_layTables_18 rfl rfl rfl ?_
    refine go_iload_n (pc2 := 20) dX7_layTables_19 rfl rfl rfl ?_
    refine go_iconst (pc2 := 21) (v := (0 : Int32)) dX7_layTables_20 rfl (by decide) ?_
    refine go_iconst (pc2 := 22) (v := (0 : Int32)) dX7_layTables_21 rfl (by decide) ?_
    refine go_iconst (pc2 := 23) (v := (0 : Int32)) dX7_layTables_22 rfl (by decide) ?_
    refine go_iconst (pc2 := 24) (v := (0 : Int32)) dX7_layTables_23 rfl (by decide) ?_
    obtain ⟨Q8, hC9, k⟩ := k
    refine gcV_V (pc2 := 27) (dC := 0) (As := [.int x2, .int (0 : Int32), .int (0 : Int32), .int (0 : Int32), .int (0 : Int32)]) (st := []) rfl dX7_layTables_24 rfl w_725 ok_X7_layMove vi_X7_layMove c_38 (by decide) rfl rfl rfl (by decide) (Nat.le_of_ble_eq_true rfl) hC9 (fun h11 hq12 => ?_)
    have k := k h11 hq12
    refine go_aload_n (pc2 := 28) dX7_layTables_27 rfl rfl rfl ?_
    refine go_iload_n (pc2 := 29) dX7_layTables_28 rfl rfl rfl ?_
    refine go_iconst (pc2 := 30) (v := (1 : Int32)) dX7_layTables_29 rfl (by decide) ?_
    refine go_iconst (pc2 := 31) (v := (-1 : Int32)) dX7_layTables_30 rfl (by decide) ?_
    refine go_iconst (pc2 := 32) (v := (0 : Int32)) dX7_layTables_31 rfl (by decide) ?_
    refine go_iconst (pc2 := 33) (v := (0 : Int32)) dX7_layTables_32 rfl (by decide) ?_
    obtain ⟨Q13, hC14, k⟩ := k
    refine gcV_V (pc2 := 36) (dC := 0) (As := [.int x2, .int (1 : Int32), .int (-1 : Int32), .int (0 : Int32), .int (0 : Int32)]) (st := []) rfl dX7_layTables_33 rfl w_725 ok_X7_layMove vi_X7_layMove c_38 (by decide) rfl rfl rfl (by decide) (Nat.le_of_ble_eq_true rfl) hC14 (fun h16 hq17 => ?_)
    have k := k h16 hq17
    refine go_iconst (pc2 := 37) (v := (0 : Int32)) dX7_layTables_36 rfl (by decide) ?_
    exact go_iret dX7_layTables_37 ⟨_, rfl, rfl⟩ ⟨rfl, _, rfl, k⟩
theorem b_X7_layTables_54 {x1 : Nat} {x2 : Int32} {x3 : Int32} {s0 : Int32} {h : Hp} {Q : Int32 → Hp → Prop} (hx1 : isPl x1) (k : (∃ Q1, CtI 1 mX3_isUnder [.ref x1, .int (3 : Int32)] h Q1 ∧ ∀ (v3 : Int32) (h4 : Hp), Q1 v3 h4 → ((v3 = 0 → GoI 3 mX7_layTables 72 [(0, .ref 38), (1, .ref x1), (2, .int x2), (3, .int x3), (4, .int s0)] [.int (h4.1 x1 7)] h4 Q) ∧ (¬ v3 = 0 → GoI 3 mX7_layTables 72 [(0, .ref 38), (1, .ref x1), (2, .int x2), (3, .int x3), (4, .int s0)] [.int (1 : Int32)] h4 Q)))) : GoI 3 mX7_layTables 54 [(0, .ref 38), (1, .ref x1), (2, .int x2), (3, .int x3)] [.int s0] h Q := by
  refine go_istore (pc2 := 56) (ls2 := [(0, .ref 38), (1, .ref x1), (2, .int x2), (3, .int x3), (4, .int s0)]) dX7_layTables_54 rfl rfl rfl rfl rfl ?_
  refine go_aload_n (pc2 := 57) dX7_layTables_56 rfl rfl rfl ?_
  refine go_iconst (pc2 := 58) (v := (3 : Int32)) dX7_layTables_57 rfl (by decide) ?_
  obtain ⟨Q1, hC2, k⟩ := k
  refine gcVN_I (pc2 := 61) (dC := 1) (As := [.int (3 : Int32)]) (st := []) rfl dX7_layTables_58 rfl w_729 ok_X3_isUnder vi_X3_isUnder hx1 (by decide) rfl rfl rfl (by decide) (Nat.le_of_ble_eq_true rfl) hC2 (fun v3 h4 hq5 => ?_)
  have k := k v3 h4 hq5
  refine go_if_eq (pc2 := 64) (tgt := 68) dX7_layTables_61 rfl (by decide) (fun c => ?_) (fun c => ?_)
  · have k := k.1 c
    refine go_aload_n (pc2 := 69) dX7_layTables_68 rfl rfl rfl ?_
    refine gf_65 (pc2 := 72) rfl dX7_layTables_69 rfl hx1 fvi ?_
    exact k
  · have k := k.2 c
    refine go_iconst (pc2 := 65) (v := (1 : Int32)) dX7_layTables_64 rfl (by decide) ?_
    refine go_goto (tgt := 72) dX7_layTables_65 (by decide) ?_
    exact k
theorem b_X7_layTables_72 {x1 : Nat} {x2 : Int32} {x3 : Int32} {x4 : Int32} {s0 : Int32} {h : Hp} {Q : Int32 → Hp → Prop} (hx1 : isPl x1) (k : (vp_in x2 3 ∧ (∀ g2 : Hp, g2 = (ui h 42 (x2).toNatClampNeg (x4 + s0)) → GoI 3 mX7_layTables 88 [(0, .ref 38), (1, .ref x1), (2, .int x2), (3, .int x3), (4, .int x4), (5, .int s0), (6, .int (0 : Int32))] [] g2 Q))) : GoI 3 mX7_layTables 72 [(0, .ref 38), (1, .ref x1), (2, .int x2), (3, .int x3), (4, .int x4)] [.int s0] h Q := by
  refine go_istore (pc2 := 74) (ls2 := [(0, .ref 38), (1, .ref x1), (2, .int x2), (3, .int x3), (4, .int x4), (5, .int s0)]) dX7_layTables_72 rfl rfl rfl rfl rfl ?_
  refine go_aload_n (pc2 := 75) dX7_layTables_74 rfl rfl rfl ?_
  refine gf_243 (pc2 := 78) rfl dX7_layTables_75 rfl c_38 (fvs r_38_6) ?_
  refine go_iload_n (pc2 := 79) dX7_layTables_78 rfl rfl rfl ?_
  refine go_iload (pc2 := 81) dX7_layTables_79 rfl rfl ?_
  refine go_iload (pc2 := 83) dX7_layTables_81 rfl rfl ?_
  refine go_iadd (pc2 := 84) dX7_layTables_83 rfl ?_
  obtain ⟨y1, k⟩ := k
  refine go_iastore (pc2 := 85) (j := (x2).toNatClampNeg) dX7_layTables_84 rfl c_42 y1 rfl ?_
  obtain ⟨g2, eg2⟩ : ∃ y : Hp, y = (ui h 42 (x2).toNatClampNeg (x4 + s0)) := ⟨_, rfl⟩
  rw [← eg2]
  have k := k g2 eg2
  refine go_iconst (pc2 := 86) (v := (0 : Int32)) dX7_layTables_85 rfl (by decide) ?_
  refine go_istore (pc2 := 88) (ls2 := [(0, .ref 38), (1, .ref x1), (2, .int x2), (3, .int x3), (4, .int x4), (5, .int s0), (6, .int (0 : Int32))]) dX7_layTables_86 rfl rfl rfl rfl rfl ?_
  exact k
theorem b_X7_layTables_88 {x1 : Nat} {x2 : Int32} {x3 : Int32} {x4 : Int32} {x5 : Int32} {x6 : Int32} {h : Hp} {Q : Int32 → Hp → Prop} (hx1 : isPl x1) (k : (((x4 + x5) ≤ x6 → (∃ Q1, CtI 1 mX7_placeOf [.int (h.1 x1 9), .int x4, .int x5, .int x3] h Q1 ∧ ∀ (v3 : Int32) (h4 : Hp), Q1 v3 h4 → Q v3 h4)) ∧ (¬ ((x4 + x5) ≤ x6) → ((x4 ≤ x6 → GoI 3 mX7_layTables 119 [(0, .ref 38), (1, .ref x1), (2, .int x2), (3, .int x3), (4, .int x4), (5, .int x5), (6, .int x6)] [.int ((x6 - x4) + (1 : Int32))] h Q) ∧ (¬ (x4 ≤ x6) → GoI 3 mX7_layTables 119 [(0, .ref 38), (1, .ref x1), (2, .int x2), (3, .int x3), (4, .int x4), (5, .int x5), (6, .int x6)] [.int ((-1 : Int32) - x6)] h Q))))) : GoI 3 mX7_layTables 88 [(0, .ref 38), (1, .ref x1), (2, .int x2), (3, .int x3), (4, .int x4), (5, .int x5), (6, .int x6)] [] h Q := by
  refine go_iload (pc2 := 90) dX7_layTables_88 rfl rfl ?_
  refine go_iload (pc2 := 92) dX7_layTables_90 rfl rfl ?_
  refine go_iload (pc2 := 94) dX7_layTables_92 rfl rfl ?_
  refine go_iadd (pc2 := 95) dX7_layTables_94 rfl ?_
  refine go_icmp_ge (pc2 := 98) (tgt := 228) dX7_layTables_95 rfl (by decide) (fun c => ?_) (fun c => ?_)
  · have k := k.1 c
    refine go_aload_n (pc2 := 229) dX7_layTables_228 rfl rfl rfl ?_
    refine gf_73 (pc2 := 232) rfl dX7_layTables_229 rfl hx1 fvi ?_
    refine go_iload (pc2 := 234) dX7_layTables_232 rfl rfl ?_
    refine go_iload (pc2 := 236) dX7_layTables_234 rfl rfl ?_
    refine go_iload_n (pc2 := 237) dX7_layTables_236 rfl rfl rfl ?_
    obtain ⟨Q1, hC2, k⟩ := k
    refine gcS_I (pc2 := 240) (dC := 1) (As := [.int (h.1 x1 9), .int x4, .int x5, .int x3]) (st := []) rfl dX7_layTables_237 rfl w_734 ok_X7_placeOf w_735 rfl (by decide) (Nat.le_of_ble_eq_true rfl) hC2 (fun v3 h4 hq5 => ?_)
    have k := k v3 h4 hq5
    exact go_iret dX7_layTables_240 ⟨_, rfl, rfl⟩ ⟨rfl, _, rfl, k⟩
  · have k := k.2 c
    refine go_iload (pc2 := 100) dX7_layTables_98 rfl rfl ?_
    refine go_iload (pc2 := 102) dX7_layTables_100 rfl rfl ?_
    refine go_icmp_ge (pc2 := 105) (tgt := 112) dX7_layTables_102 rfl (by decide) (fun c => ?_) (fun c => ?_)
    · have k := k.1 c
      refine go_iload (pc2 := 114) dX7_layTables_112 rfl rfl ?_
      refine go_iload (pc2 := 116) dX7_layTables_114 rfl rfl ?_
      refine go_isub (pc2 := 117) dX7_layTables_116 rfl ?_
      refine go_iconst (pc2 := 118) (v := (1 : Int32)) dX7_layTables_117 rfl (by decide) ?_
      refine go_iadd (pc2 := 119) dX7_layTables_118 rfl ?_
      exact k
    · have k := k.2 c
      refine go_iconst (pc2 := 106) (v := (-1 : Int32)) dX7_layTables_105 rfl (by decide) ?_
      refine go_iload (pc2 := 108) dX7_layTables_106 rfl rfl ?_
      refine go_isub (pc2 := 109) dX7_layTables_108 rfl ?_
      refine go_goto (tgt := 119) dX7_layTables_109 (by decide) ?_
      exact k
theorem b_X7_layTables_119 {x1 : Nat} {x2 : Int32} {x3 : Int32} {x4 : Int32} {x5 : Int32} {x6 : Int32} {s0 : Int32} {h : Hp} {Q : Int32 → Hp → Prop} (hx1 : isPl x1) (k : (∃ Q1, CtI 1 mX3_moved [.ref x1, .int s0, .int (0 : Int32)] h Q1 ∧ ∀ (v3 : Int32) (h4 : Hp), Q1 v3 h4 → (∃ Q6, CtI 1 mX3_moved [.ref x1, .int s0, .int (1 : Int32)] h4 Q6 ∧ ∀ (v8 : Int32) (h9 : Hp), Q6 v8 h9 → (∃ Q11, CtI 1 mX7_placeOf [.int v3, .int x4, .int x5, .int x3] h9 Q11 ∧ ∀ (v13 : Int32) (h14 : Hp), Q11 v13 h14 → (∃ Q16, CtV 0 mX7_layMove [.ref 38, .int x2, .int ((2 : Int32) * x6), .int v13, .int (0 : Int32), .int (0 : Int32)] h14 Q16 ∧ ∀ h19 : Hp, Q16 h19 → (∃ Q21, CtI 1 mX7_placeOf [.int v8, .int x4, .int x5, .int x3] h19 Q21 ∧ ∀ (v23 : Int32) (h24 : Hp), Q21 v23 h24 → (((if 0 ≤ s0 then (0 : Int32) else (1 : Int32)) = 0 → GoI 3 mX7_layTables 219 [(0, .ref 38), (1, .ref x1), (2, .int x2), (3, .int x3), (4, .int x4), (5, .int x5), (6, .int x6)] [.int (0 : Int32), .int (if (if 0 ≤ s0 then (0 : Int32) else (1 : Int32)) = 0 then (1 : Int32) else (2 : Int32)), .int v23, .int (((2 : Int32) * x6) + (1 : Int32)), .int x2, .ref 38] h24 Q) ∧ (¬ (if 0 ≤ s0 then (0 : Int32) else (1 : Int32)) = 0 → (∃ Q26, CtI 2 mX3_startBehind [.ref x1, .int (-s0)] h24 Q26 ∧ ∀ (v28 : Int32) (h29 : Hp), Q26 v28 h29 → GoI 3 mX7_layTables 219 [(0, .ref 38), (1, .ref x1), (2, .int x2), (3, .int x3), (4, .int x4), (5, .int x5), (6, .int x6)] [.int (v28 <<< ((15 : Int32) &&& 31)), .int (if (if 0 ≤ s0 then (0 : Int32) else (1 : Int32)) = 0 then (1 : Int32) else (2 : Int32)), .int v23, .int (((2 : Int32) * x6) + (1 : Int32)), .int x2, .ref 38] h29 Q))))))))) : GoI 3 mX7_layTables 119 [(0, .ref 38), (1, .ref x1), (2, .int x2), (3, .int x3), (4, .int x4), (5, .int x5), (6, .int x6)] [.int s0] h Q := by
  refine go_istore (pc2 := 121) (ls2 := [(0, .ref 38), (1, .ref x1), (2, .int x2), (3, .int x3), (4, .int x4), (5, .int x5), (6, .int x6), (7, .int s0)]) dX7_layTables_119 rfl rfl rfl rfl rfl ?_
  refine go_aload_n (pc2 := 122) dX7_layTables_121 rfl rfl rfl ?_
  refine go_iload (pc2 := 124) dX7_layTables_122 rfl rfl ?_
  refine go_iconst (pc2 := 125) (v := (0 : Int32)) dX7_layTables_124 rfl (by decide) ?_
  obtain ⟨Q1, hC2, k⟩ := k
  refine gcVN_I (pc2 := 128) (dC := 1) (As := [.int s0, .int (0 : Int32)]) (st := []) rfl dX7_layTables_125 rfl w_733 ok_X3_moved vi_X3_moved hx1 (by decide) rfl rfl rfl (by decide) (Nat.le_of_ble_eq_true rfl) hC2 (fun v3 h4 hq5 => ?_)
  have k := k v3 h4 hq5
  refine go_istore (pc2 := 130) (ls2 := [(0, .ref 38), (1, .ref x1), (2, .int x2), (3, .int x3), (4, .int x4), (5, .int x5), (6, .int x6), (7, .int s0), (8, .int v3)]) dX7_layTables_128 rfl rfl rfl rfl rfl ?_
  refine go_aload_n (pc2 := 131) dX7_layTables_130 rfl rfl rfl ?_
  refine go_iload (pc2 := 133) dX7_layTables_131 rfl rfl ?_
  refine go_iconst (pc2 := 134) (v := (1 : Int32)) dX7_layTables_133 rfl (by decide) ?_
  obtain ⟨Q6, hC7, k⟩ := k
  refine gcVN_I (pc2 := 137) (dC := 1) (As := [.int s0, .int (1 : Int32)]) (st := []) rfl dX7_layTables_134 rfl w_733 ok_X3_moved vi_X3_moved hx1 (by decide) rfl rfl rfl (by decide) (Nat.le_of_ble_eq_true rfl) hC7 (fun v8 h9 hq10 => ?_)
  have k := k v8 h9 hq10
  refine go_istore (pc2 := 139) (ls2 := [(0, .ref 38), (1, .ref x1), (2, .int x2), (3, .int x3), (4, .int x4), (5, .int x5), (6, .int x6), (7, .int s0), (8, .int v3), (9, .int v8)]) dX7_layTables_137 rfl rfl rfl rfl rfl ?_
  refine go_iload (pc2 := 141) dX7_layTables_139 rfl rfl ?_
  have J : GoI 3 mX7_layTables 149 [(0, .ref 38), (1, .ref x1), (2, .int x2), (3, .int x3), (4, .int x4), (5, .int x5), (6, .int x6), (7, .int s0), (8, .int v3), (9, .int v8)] [.int (if 0 ≤ s0 then (0 : Int32) else (1 : Int32))] h9 Q := by
    refine go_istore (pc2 := 151) (ls2 := [(0, .ref 38), (1, .ref x1), (2, .int x2), (3, .int x3), (4, .int x4), (5, .int x5), (6, .int x6), (7, .int s0), (8, .int v3), (9, .int v8), (10, .int (if 0 ≤ s0 then (0 : Int32) else (1 : Int32)))]) dX7_layTables_149 rfl rfl rfl rfl rfl ?_
    refine go_aload_n (pc2 := 152) dX7_layTables_151 rfl rfl rfl ?_
    refine go_iload_n (pc2 := 153) dX7_layTables_152 rfl rfl rfl ?_
    refine go_iconst (pc2 := 154) (v := (2 : Int32)) dX7_layTables_153 rfl (by decide) ?_
    refine go_iload (pc2 := 156) dX7_layTables_154 rfl rfl ?_
    refine go_imul (pc2 := 157) dX7_layTables_156 rfl ?_
    refine go_iload (pc2 := 159) dX7_layTables_157 rfl rfl ?_
    refine go_iload (pc2 := 161) dX7_layTables_159 rfl rfl ?_
    refine go_iload (pc2 := 163) dX7_layTables_161 rfl rfl ?_
    refine go_iload_n (pc2 := 164) dX7_layTables_163 rfl rfl rfl ?_
    obtain ⟨Q11, hC12, k⟩ := k
    refine gcS_I (pc2 := 167) (dC := 1) (As := [.int v3, .int x4, .int x5, .int x3]) (st := [.int ((2 : Int32) * x6), .int x2, .ref 38]) rfl dX7_layTables_164 rfl w_734 ok_X7_placeOf w_735 rfl (by decide) (Nat.le_of_ble_eq_true rfl) hC12 (fun v13 h14 hq15 => ?_)
    have k := k v13 h14 hq15
    refine go_iconst (pc2 := 168) (v := (0 : Int32)) dX7_layTables_167 rfl (by decide) ?_
    refine go_iconst (pc2 := 169) (v := (0 : Int32)) dX7_layTables_168 rfl (by decide) ?_
    obtain ⟨Q16, hC17, k⟩ := k
    refine gcV_V (pc2 := 172) (dC := 0) (As := [.int x2, .int ((2 : Int32) * x6), .int v13, .int (0 : Int32), .int (0 : Int32)]) (st := []) rfl dX7_layTables_169 rfl w_725 ok_X7_layMove vi_X7_layMove c_38 (by decide) rfl rfl rfl (by decide) (Nat.le_of_ble_eq_true rfl) hC17 (fun h19 hq20 => ?_)
    have k := k h19 hq20
    refine go_aload_n (pc2 := 173) dX7_layTables_172 rfl rfl rfl ?_
    refine go_iload_n (pc2 := 174) dX7_layTables_173 rfl rfl rfl ?_
    refine go_iconst (pc2 := 175) (v := (2 : Int32)) dX7_layTables_174 rfl (by decide) ?_
    refine go_iload (pc2 := 177) dX7_layTables_175 rfl rfl ?_
    refine go_imul (pc2 := 178) dX7_layTables_177 rfl ?_
    refine go_iconst (pc2 := 179) (v := (1 : Int32)) dX7_layTables_178 rfl (by decide) ?_
    refine go_iadd (pc2 := 180) dX7_layTables_179 rfl ?_
    refine go_iload (pc2 := 182) dX7_layTables_180 rfl rfl ?_
    refine go_iload (pc2 := 184) dX7_layTables_182 rfl rfl ?_
    refine go_iload (pc2 := 186) dX7_layTables_184 rfl rfl ?_
    refine go_iload_n (pc2 := 187) dX7_layTables_186 rfl rfl rfl ?_
    obtain ⟨Q21, hC22, k⟩ := k
    refine gcS_I (pc2 := 190) (dC := 1) (As := [.int v8, .int x4, .int x5, .int x3]) (st := [.int (((2 : Int32) * x6) + (1 : Int32)), .int x2, .ref 38]) rfl dX7_layTables_187 rfl w_734 ok_X7_placeOf w_735 rfl (by decide) (Nat.le_of_ble_eq_true rfl) hC22 (fun v23 h24 hq25 => ?_)
    have k := k v23 h24 hq25
    refine go_iload (pc2 := 192) dX7_layTables_190 rfl rfl ?_
    have J : GoI 3 mX7_layTables 200 [(0, .ref 38), (1, .ref x1), (2, .int x2), (3, .int x3), (4, .int x4), (5, .int x5), (6, .int x6), (7, .int s0), (8, .int v3), (9, .int v8), (10, .int (if 0 ≤ s0 then (0 : Int32) else (1 : Int32)))] [.int (if (if 0 ≤ s0 then (0 : Int32) else (1 : Int32)) = 0 then (1 : Int32) else (2 : Int32)), .int v23, .int (((2 : Int32) * x6) + (1 : Int32)), .int x2, .ref 38] h24 Q := by
      refine go_iload (pc2 := 202) dX7_layTables_200 rfl rfl ?_
      refine go_if_eq (pc2 := 205) (tgt := 218) dX7_layTables_202 rfl (by decide) (fun c => ?_) (fun c => ?_)
      · have k := k.1 c
        refine go_iconst (pc2 := 219) (v := (0 : Int32)) dX7_layTables_218 rfl (by decide) ?_
        exact Go.pick [0, 1, 2, 3, 4, 5, 6] rfl k
      · have k := k.2 c
        refine go_aload_n (pc2 := 206) dX7_layTables_205 rfl rfl rfl ?_
        refine go_iload (pc2 := 208) dX7_layTables_206 rfl rfl ?_
        refine go_ineg (pc2 := 209) dX7_layTables_208 rfl ?_
        obtain ⟨Q26, hC27, k⟩ := k
        refine gcVN_I (pc2 := 212) (dC := 2) (As := [.int (-s0)]) (st := [.int (if (if 0 ≤ s0 then (0 : Int32) else (1 : Int32)) = 0 then (1 : Int32) else (2 : Int32)), .int v23, .int (((2 : Int32) * x6) + (1 : Int32)), .int x2, .ref 38]) rfl dX7_layTables_209 rfl w_738 ok_X3_startBehind vi_X3_startBehind hx1 (by decide) rfl rfl rfl (by decide) (Nat.le_of_ble_eq_true rfl) hC27 (fun v28 h29 hq30 => ?_)
        have k := k v28 h29 hq30
        refine go_bipush (pc2 := 214) (v := (15 : Int32)) dX7_layTables_212 rfl (by decide) ?_
        refine go_ishl (pc2 := 215) dX7_layTables_214 rfl ?_
        refine go_goto (tgt := 219) dX7_layTables_215 (by decide) ?_
        exact Go.pick [0, 1, 2, 3, 4, 5, 6] rfl k
    refine go_if_eq (pc2 := 195) (tgt := 199) dX7_layTables_192 rfl (by decide) (fun c => ?_) (fun c => ?_)
    · rw [if_pos c] at J
      exact go_iconst (pc2 := 200) dX7_layTables_199 rfl (by decide) J
    · rw [if_neg c] at J
      exact go_iconst (pc2 := 196) dX7_layTables_195 rfl (by decide) (go_goto (tgt := 200) dX7_layTables_196 (by decide) J)
  refine go_if_ge (pc2 := 144) (tgt := 148) dX7_layTables_141 rfl (by decide) (fun c => ?_) (fun c => ?_)
  · rw [if_pos c] at J
    exact go_iconst (pc2 := 149) dX7_layTables_148 rfl (by decide) J
  · rw [if_neg c] at J
    exact go_iconst (pc2 := 145) dX7_layTables_144 rfl (by decide) (go_goto (tgt := 149) dX7_layTables_145 (by decide) J)
theorem b_X7_layTables_219 {x1 : Nat} {x2 : Int32} {x3 : Int32} {x4 : Int32} {x5 : Int32} {x6 : Int32} {s1 : Int32} {s2 : Int32} {s3 : Int32} {s4 : Int32} {s5 : Int32} {h : Hp} {Q : Int32 → Hp → Prop} (hx1 : isPl x1) (k : (∃ Q1, CtV 0 mX7_layMove [.ref 38, .int s1, .int s2, .int s3, .int s4, .int s5] h Q1 ∧ ∀ h4 : Hp, Q1 h4 → GoI 3 mX7_layTables 88 [(0, .ref 38), (1, .ref x1), (2, .int x2), (3, .int x3), (4, .int x4), (5, .int x5), (6, .int (x6 + 1))] [] h4 Q)) : GoI 3 mX7_layTables 219 [(0, .ref 38), (1, .ref x1), (2, .int x2), (3, .int x3), (4, .int x4), (5, .int x5), (6, .int x6)] [.int s5, .int s4, .int s3, .int s2, .int s1, .ref 38] h Q := by
  obtain ⟨Q1, hC2, k⟩ := k
  refine gcV_V (pc2 := 222) (dC := 0) (As := [.int s1, .int s2, .int s3, .int s4, .int s5]) (st := []) rfl dX7_layTables_219 rfl w_725 ok_X7_layMove vi_X7_layMove c_38 (by decide) rfl rfl rfl (by decide) (Nat.le_of_ble_eq_true rfl) hC2 (fun h4 hq5 => ?_)
  have k := k h4 hq5
  refine go_iinc (pc2 := 225) (ls2 := [(0, .ref 38), (1, .ref x1), (2, .int x2), (3, .int x3), (4, .int x4), (5, .int x5), (6, .int (x6 + 1))]) (v := (x6 + 1)) dX7_layTables_222 rfl rfl rfl rfl rfl rfl rfl ?_
  refine go_goto (tgt := 88) dX7_layTables_225 (by decide) ?_
  exact k
theorem e_X7_layMove {x1 : Int32} {x2 : Int32} {x3 : Int32} {x4 : Int32} {x5 : Int32} {h : Hp} {Q : Hp → Prop}  (k : (vp_in x1 3 ∧ (vp_in x2 14 ∧ (∀ g3 : Hp, g3 = (ui h (44 + (x1).toNatClampNeg) (x2).toNatClampNeg x3) → (vp_in x1 3 ∧ (vp_in x2 14 ∧ (∀ g6 : Hp, g6 = (ui g3 (48 + (x1).toNatClampNeg) (x2).toNatClampNeg x4) → (vp_in x1 3 ∧ (vp_in x2 14 ∧ (∀ g9 : Hp, g9 = (ui g6 (52 + (x1).toNatClampNeg) (x2).toNatClampNeg x5) → Q g9)))))))))) : CtV 0 mX7_layMove [.ref 38, .int x1, .int x2, .int x3, .int x4, .int x5] h Q := by
  refine Ct.of (by decide +kernel) (Nat.le_of_ble_eq_true rfl) ?_
  show GoV 0 mX7_layMove 0 [(0, .ref 38), (1, .int x1), (2, .int x2), (3, .int x3), (4, .int x4), (5, .int x5)] [] h Q
  refine go_aload_n (pc2 := 1) dX7_layMove_0 rfl rfl rfl ?_
  refine gf_244 (pc2 := 4) rfl dX7_layMove_1 rfl c_38 (fvs r_38_7) ?_
  refine go_iload_n (pc2 := 5) dX7_layMove_4 rfl rfl rfl ?_
  obtain ⟨y1, k⟩ := k
  refine go_aaload (pc2 := 6) (t := 3) dX7_layMove_5 rfl (by decide) c_43 y1 rfl (rfo_s (ra_43 _ (vp_lt y1)).1) ?_
  refine go_iload_n (pc2 := 7) dX7_layMove_6 rfl rfl rfl ?_
  refine go_iload_n (pc2 := 8) dX7_layMove_7 rfl rfl rfl ?_
  obtain ⟨y2, k⟩ := k
  refine go_iastore (pc2 := 9) (j := (x2).toNatClampNeg) dX7_layMove_8 rfl (ra_43 _ (vp_lt y1)).2 y2 rfl ?_
  obtain ⟨g3, eg3⟩ : ∃ y : Hp, y = (ui h (44 + (x1).toNatClampNeg) (x2).toNatClampNeg x3) := ⟨_, rfl⟩
  rw [← eg3]
  have k := k g3 eg3
  refine go_aload_n (pc2 := 10) dX7_layMove_9 rfl rfl rfl ?_
  refine gf_245 (pc2 := 13) rfl dX7_layMove_10 rfl c_38 (fvs r_38_8) ?_
  refine go_iload_n (pc2 := 14) dX7_layMove_13 rfl rfl rfl ?_
  obtain ⟨y4, k⟩ := k
  refine go_aaload (pc2 := 15) (t := 3) dX7_layMove_14 rfl (by decide) c_47 y4 rfl (rfo_s (ra_47 _ (vp_lt y4)).1) ?_
  refine go_iload_n (pc2 := 16) dX7_layMove_15 rfl rfl rfl ?_
  refine go_iload (pc2 := 18) dX7_layMove_16 rfl rfl ?_
  obtain ⟨y5, k⟩ := k
  refine go_iastore (pc2 := 19) (j := (x2).toNatClampNeg) dX7_layMove_18 rfl (ra_47 _ (vp_lt y4)).2 y5 rfl ?_
  obtain ⟨g6, eg6⟩ : ∃ y : Hp, y = (ui g3 (48 + (x1).toNatClampNeg) (x2).toNatClampNeg x4) := ⟨_, rfl⟩
  rw [← eg6]
  have k := k g6 eg6
  refine go_aload_n (pc2 := 20) dX7_layMove_19 rfl rfl rfl ?_
  refine gf_246 (pc2 := 23) rfl dX7_layMove_20 rfl c_38 (fvs r_38_9) ?_
  refine go_iload_n (pc2 := 24) dX7_layMove_23 rfl rfl rfl ?_
  obtain ⟨y7, k⟩ := k
  refine go_aaload (pc2 := 25) (t := 3) dX7_layMove_24 rfl (by decide) c_51 y7 rfl (rfo_s (ra_51 _ (vp_lt y7)).1) ?_
  refine go_iload_n (pc2 := 26) dX7_layMove_25 rfl rfl rfl ?_
  refine go_iload (pc2 := 28) dX7_layMove_26 rfl rfl ?_
  obtain ⟨y8, k⟩ := k
  refine go_iastore (pc2 := 29) (j := (x2).toNatClampNeg) dX7_layMove_28 rfl (ra_51 _ (vp_lt y7)).2 y8 rfl ?_
  obtain ⟨g9, eg9⟩ : ∃ y : Hp, y = (ui g6 (52 + (x1).toNatClampNeg) (x2).toNatClampNeg x5) := ⟨_, rfl⟩
  rw [← eg9]
  have k := k g9 eg9
  exact go_ret dX7_layMove_29 rfl ⟨rfl, rfl, k⟩
theorem e_X7_placeOf {x0 : Int32} {x1 : Int32} {x2 : Int32} {x3 : Int32} {h : Hp} {Q : Int32 → Hp → Prop}  (k : ((¬ x0 = 0 → ((0 ≤ x0 → (∃ Q1, CtI 0 mJ9_min_7cf53 [.int x0, .int x2] h Q1 ∧ ∀ (v3 : Int32) (h4 : Hp), Q1 v3 h4 → Q (((x1 + v3) - (1 : Int32)) * x3) h4)) ∧ (¬ (0 ≤ x0) → (∃ Q6, CtI 0 mJ9_min_7cf53 [.int (-x0), .int x1] h Q6 ∧ ∀ (v8 : Int32) (h9 : Hp), Q6 v8 h9 → Q ((v8 - (1 : Int32)) * x3) h9)))) ∧ (x0 = 0 → Q (-1 : Int32) h))) : CtI 1 mX7_placeOf [.int x0, .int x1, .int x2, .int x3] h Q := by
  refine Ct.of (by decide +kernel) (Nat.le_of_ble_eq_true rfl) ?_
  show GoI 1 mX7_placeOf 0 [(0, .int x0), (1, .int x1), (2, .int x2), (3, .int x3)] [] h Q
  refine go_iload_n (pc2 := 1) dX7_placeOf_0 rfl rfl rfl ?_
  refine go_if_ne (pc2 := 4) (tgt := 6) dX7_placeOf_1 rfl (by decide) (fun c => ?_) (fun c => ?_)
  · have k := k.1 c
    refine go_iload_n (pc2 := 7) dX7_placeOf_6 rfl rfl rfl ?_
    refine go_if_ge (pc2 := 10) (tgt := 21) dX7_placeOf_7 rfl (by decide) (fun c => ?_) (fun c => ?_)
    · have k := k.1 c
      refine go_iload_n (pc2 := 22) dX7_placeOf_21 rfl rfl rfl ?_
      refine go_iload_n (pc2 := 23) dX7_placeOf_22 rfl rfl rfl ?_
      refine go_iload_n (pc2 := 24) dX7_placeOf_23 rfl rfl rfl ?_
      obtain ⟨Q1, hC2, k⟩ := k
      refine gcS_I (pc2 := 27) (dC := 0) (As := [.int x0, .int x2]) (st := [.int x1]) rfl dX7_placeOf_24 rfl w_737 ok_J9_min_7cf53 w_640 rfl (by decide) (Nat.le_of_ble_eq_true rfl) hC2 (fun v3 h4 hq5 => ?_)
      have k := k v3 h4 hq5
      refine go_iadd (pc2 := 28) dX7_placeOf_27 rfl ?_
      refine go_iconst (pc2 := 29) (v := (1 : Int32)) dX7_placeOf_28 rfl (by decide) ?_
      refine go_isub (pc2 := 30) dX7_placeOf_29 rfl ?_
      refine go_istore (pc2 := 32) (ls2 := [(0, .int x0), (1, .int x1), (2, .int x2), (3, .int x3), (4, .int ((x1 + v3) - (1 : Int32)))]) dX7_placeOf_30 rfl rfl rfl rfl rfl ?_
      refine go_iload (pc2 := 34) dX7_placeOf_32 rfl rfl ?_
      refine go_iload_n (pc2 := 35) dX7_placeOf_34 rfl rfl rfl ?_
      refine go_imul (pc2 := 36) dX7_placeOf_35 rfl ?_
      exact go_iret dX7_placeOf_36 ⟨_, rfl, rfl⟩ ⟨rfl, _, rfl, k⟩
    · have k := k.2 c
      refine go_iload_n (pc2 := 11) dX7_placeOf_10 rfl rfl rfl ?_
      refine go_ineg (pc2 := 12) dX7_placeOf_11 rfl ?_
      refine go_iload_n (pc2 := 13) dX7_placeOf_12 rfl rfl rfl ?_
      obtain ⟨Q6, hC7, k⟩ := k
      refine gcS_I (pc2 := 16) (dC := 0) (As := [.int (-x0), .int x1]) (st := []) rfl dX7_placeOf_13 rfl w_737 ok_J9_min_7cf53 w_640 rfl (by decide) (Nat.le_of_ble_eq_true rfl) hC7 (fun v8 h9 hq10 => ?_)
      have k := k v8 h9 hq10
      refine go_iconst (pc2 := 17) (v := (1 : Int32)) dX7_placeOf_16 rfl (by decide) ?_
      refine go_isub (pc2 := 18) dX7_placeOf_17 rfl ?_
      refine go_goto (tgt := 30) dX7_placeOf_18 (by decide) ?_
      refine go_istore (pc2 := 32) (ls2 := [(0, .int x0), (1, .int x1), (2, .int x2), (3, .int x3), (4, .int (v8 - (1 : Int32)))]) dX7_placeOf_30 rfl rfl rfl rfl rfl ?_
      refine go_iload (pc2 := 34) dX7_placeOf_32 rfl rfl ?_
      refine go_iload_n (pc2 := 35) dX7_placeOf_34 rfl rfl rfl ?_
      refine go_imul (pc2 := 36) dX7_placeOf_35 rfl ?_
      exact go_iret dX7_placeOf_36 ⟨_, rfl, rfl⟩ ⟨rfl, _, rfl, k⟩
  · have k := k.2 c
    refine go_iconst (pc2 := 5) (v := (-1 : Int32)) dX7_placeOf_4 rfl (by decide) ?_
    exact go_iret dX7_placeOf_5 ⟨_, rfl, rfl⟩ ⟨rfl, _, rfl, k⟩
theorem e_X7_layHourCosts {x1 : Int32} {h : Hp} {Q : Hp → Prop}  (k : GoV 2 mX7_layHourCosts 2 [(0, .ref 38), (1, .int x1), (2, .int (0 : Int32))] [] h Q) : CtV 2 mX7_layHourCosts [.ref 38, .int x1] h Q := by
  refine Ct.of (by decide +kernel) (Nat.le_of_ble_eq_true rfl) ?_
  show GoV 2 mX7_layHourCosts 0 [(0, .ref 38), (1, .int x1)] [] h Q
  refine go_iconst (pc2 := 1) (v := (0 : Int32)) dX7_layHourCosts_0 rfl (by decide) ?_
  refine go_istore_n (pc2 := 2) (ls2 := [(0, .ref 38), (1, .int x1), (2, .int (0 : Int32))]) dX7_layHourCosts_1 rfl rfl rfl rfl rfl rfl ?_
  exact k
theorem b_X7_layHourCosts_2 {x1 : Int32} {x2 : Int32} {h : Hp} {Q : Hp → Prop}  (k : (((27 : Int32) ≤ x2 → Q h) ∧ (¬ ((27 : Int32) ≤ x2) → GoV 2 mX7_layHourCosts 19 [(0, .ref 38), (1, .int x1), (2, .int x2), (3, .int (0 : Int32)), (4, .int (0 : Int32)), (5, .int x2), (6, .int (2 : Int32))] [] h Q))) : GoV 2 mX7_layHourCosts 2 [(0, .ref 38), (1, .int x1), (2, .int x2)] [] h Q := by
  refine go_iload_n (pc2 := 3) dX7_layHourCosts_2 rfl rfl rfl ?_
  refine go_bipush (pc2 := 5) (v := (27 : Int32)) dX7_layHourCosts_3 rfl (by decide) ?_
  refine go_icmp_ge (pc2 := 8) (tgt := 139) dX7_layHourCosts_5 rfl (by decide) (fun c => ?_) (fun c => ?_)
  · have k := k.1 c
    exact go_ret dX7_layHourCosts_139 rfl ⟨rfl, rfl, k⟩
  · have k := k.2 c
    refine go_iconst (pc2 := 9) (v := (0 : Int32)) dX7_layHourCosts_8 rfl (by decide) ?_
    refine go_istore_n (pc2 := 10) (ls2 := [(0, .ref 38), (1, .int x1), (2, .int x2), (3, .int (0 : Int32))]) dX7_layHourCosts_9 rfl rfl rfl rfl rfl rfl ?_
    refine go_iconst (pc2 := 11) (v := (0 : Int32)) dX7_layHourCosts_10 rfl (by decide) ?_
    refine go_istore (pc2 := 13) (ls2 := [(0, .ref 38), (1, .int x1), (2, .int x2), (3, .int (0 : Int32)), (4, .int (0 : Int32))]) dX7_layHourCosts_11 rfl rfl rfl rfl rfl ?_
    refine go_iload_n (pc2 := 14) dX7_layHourCosts_13 rfl rfl rfl ?_
    refine go_istore (pc2 := 16) (ls2 := [(0, .ref 38), (1, .int x1), (2, .int x2), (3, .int (0 : Int32)), (4, .int (0 : Int32)), (5, .int x2)]) dX7_layHourCosts_14 rfl rfl rfl rfl rfl ?_
    refine go_iconst (pc2 := 17) (v := (2 : Int32)) dX7_layHourCosts_16 rfl (by decide) ?_
    refine go_istore (pc2 := 19) (ls2 := [(0, .ref 38), (1, .int x1), (2, .int x2), (3, .int (0 : Int32)), (4, .int (0 : Int32)), (5, .int x2), (6, .int (2 : Int32))]) dX7_layHourCosts_17 rfl rfl rfl rfl rfl ?_
    exact k
theorem b_X7_layHourCosts_19 {x1 : Int32} {x2 : Int32} {x3 : Int32} {x4 : Int32} {x5 : Int32} {x6 : Int32} {h : Hp} {Q : Hp → Prop}  (k : ((x6 < 0 → (((if (x3 &&& ((h.1 38 4) ^^^ (-1 : Int32))) = 0 then (1 : Int32) else (0 : Int32)) = 0 → GoV 2 mX7_layHourCosts 132 [(0, .ref 38), (1, .int x1), (2, .int x2)] [.int (-9 : Int32), .int x2, .ref 55] h Q) ∧ (¬ (if (x3 &&& ((h.1 38 4) ^^^ (-1 : Int32))) = 0 then (1 : Int32) else (0 : Int32)) = 0 → (vp_in x1 5 ∧ (vp_in x1 5 ∧ (∃ Q3, CtI 1 mX0_share [.ref 28, .int (h.1 39 (x1).toNatClampNeg), .int (h.1 40 (x1).toNatClampNeg), .int x3, .int x4] h Q3 ∧ ∀ (v5 : Int32) (h6 : Hp), Q3 v5 h6 → GoV 2 mX7_layHourCosts 132 [(0, .ref 38), (1, .int x1), (2, .int x2)] [.int v5, .int x2, .ref 55] h6 Q)))))) ∧ (¬ (x6 < 0) → GoV 2 mX7_layHourCosts 19 [(0, .ref 38), (1, .int x1), (2, .int x2), (3, .int (x3 ||| ((if (x5 - x5 / (3 : Int32) * (3 : Int32)) = 0 then (0 : Int32) else (1 : Int32)) <<< (x6 &&& 31)))), (4, .int (x4 ||| ((if (x5 - x5 / (3 : Int32) * (3 : Int32)) = (2 : Int32) then (1 : Int32) else (0 : Int32)) <<< (x6 &&& 31)))), (5, .int (x5 / (3 : Int32))), (6, .int (x6 + (-1)))] [] h Q))) : GoV 2 mX7_layHourCosts 19 [(0, .ref 38), (1, .int x1), (2, .int x2), (3, .int x3), (4, .int x4), (5, .int x5), (6, .int x6)] [] h Q := by
  refine go_iload (pc2 := 21) dX7_layHourCosts_19 rfl rfl ?_
  refine go_if_lt (pc2 := 24) (tgt := 77) dX7_layHourCosts_21 rfl (by decide) (fun c => ?_) (fun c => ?_)
  · have k := k.1 c
    refine go_iload_n (pc2 := 78) dX7_layHourCosts_77 rfl rfl rfl ?_
    refine go_aload_n (pc2 := 79) dX7_layHourCosts_78 rfl rfl rfl ?_
    refine gf_239 (pc2 := 82) rfl dX7_layHourCosts_79 rfl c_38 fvi ?_
    refine go_iconst (pc2 := 83) (v := (-1 : Int32)) dX7_layHourCosts_82 rfl (by decide) ?_
    refine go_ixor (pc2 := 84) dX7_layHourCosts_83 rfl ?_
    refine go_iand (pc2 := 85) dX7_layHourCosts_84 rfl ?_
    have J : GoV 2 mX7_layHourCosts 93 [(0, .ref 38), (1, .int x1), (2, .int x2), (3, .int x3), (4, .int x4), (5, .int x5), (6, .int x6)] [.int (if (x3 &&& ((h.1 38 4) ^^^ (-1 : Int32))) = 0 then (1 : Int32) else (0 : Int32))] h Q := by
      refine go_istore (pc2 := 95) (ls2 := [(0, .ref 38), (1, .int x1), (2, .int x2), (3, .int x3), (4, .int x4), (5, .int x5), (6, .int (if (x3 &&& ((h.1 38 4) ^^^ (-1 : Int32))) = 0 then (1 : Int32) else (0 : Int32)))]) dX7_layHourCosts_93 rfl rfl rfl rfl rfl ?_
      refine go_aload_n (pc2 := 96) dX7_layHourCosts_95 rfl rfl rfl ?_
      refine gf_247 (pc2 := 99) rfl dX7_layHourCosts_96 rfl c_38 (fvs r_38_10) ?_
      refine go_iload_n (pc2 := 100) dX7_layHourCosts_99 rfl rfl rfl ?_
      refine go_iload (pc2 := 102) dX7_layHourCosts_100 rfl rfl ?_
      refine go_if_eq (pc2 := 105) (tgt := 130) dX7_layHourCosts_102 rfl (by decide) (fun c => ?_) (fun c => ?_)
      · have k := k.1 c
        refine go_bipush (pc2 := 132) (v := (-9 : Int32)) dX7_layHourCosts_130 rfl (by decide) ?_
        exact Go.pick [0, 1, 2] rfl k
      · have k := k.2 c
        refine go_aload_n (pc2 := 106) dX7_layHourCosts_105 rfl rfl rfl ?_
        refine gf_233 (pc2 := 109) rfl dX7_layHourCosts_106 rfl c_38 (fvs r_38_0) ?_
        refine go_aload_n (pc2 := 110) dX7_layHourCosts_109 rfl rfl rfl ?_
        refine gf_235 (pc2 := 113) rfl dX7_layHourCosts_110 rfl c_38 (fvs r_38_2) ?_
        refine go_iload_n (pc2 := 114) dX7_layHourCosts_113 rfl rfl rfl ?_
        obtain ⟨y1, k⟩ := k
        refine go_iaload (pc2 := 115) (j := (x1).toNatClampNeg) dX7_layHourCosts_114 rfl c_39 y1 rfl ?_
        refine go_aload_n (pc2 := 116) dX7_layHourCosts_115 rfl rfl rfl ?_
        refine gf_237 (pc2 := 119) rfl dX7_layHourCosts_116 rfl c_38 (fvs r_38_3) ?_
        refine go_iload_n (pc2 := 120) dX7_layHourCosts_119 rfl rfl rfl ?_
        obtain ⟨y2, k⟩ := k
        refine go_iaload (pc2 := 121) (j := (x1).toNatClampNeg) dX7_layHourCosts_120 rfl c_40 y2 rfl ?_
        refine go_iload_n (pc2 := 122) dX7_layHourCosts_121 rfl rfl rfl ?_
        refine go_iload (pc2 := 124) dX7_layHourCosts_122 rfl rfl ?_
        obtain ⟨Q3, hC4, k⟩ := k
        refine gcVN_I (pc2 := 127) (dC := 1) (As := [.int (h.1 39 (x1).toNatClampNeg), .int (h.1 40 (x1).toNatClampNeg), .int x3, .int x4]) (st := [.int x2, .ref 55]) rfl dX7_layHourCosts_124 rfl w_750 ok_X0_share vi_X0_share c_28 (by decide) rfl rfl rfl (by decide) (Nat.le_of_ble_eq_true rfl) hC4 (fun v5 h6 hq7 => ?_)
        have k := k v5 h6 hq7
        refine go_goto (tgt := 132) dX7_layHourCosts_127 (by decide) ?_
        exact Go.pick [0, 1, 2] rfl k
    refine go_if_ne (pc2 := 88) (tgt := 92) dX7_layHourCosts_85 rfl (by decide) (fun c => ?_) (fun c => ?_)
    · rw [if_neg c] at J
      exact go_iconst (pc2 := 93) dX7_layHourCosts_92 rfl (by decide) J
    · rw [if_pos c] at J
      exact go_iconst (pc2 := 89) dX7_layHourCosts_88 rfl (by decide) (go_goto (tgt := 93) dX7_layHourCosts_89 (by decide) J)
  · have k := k.2 c
    refine go_iload (pc2 := 26) dX7_layHourCosts_24 rfl rfl ?_
    refine go_iconst (pc2 := 27) (v := (3 : Int32)) dX7_layHourCosts_26 rfl (by decide) ?_
    refine go_irem (pc2 := 28) dX7_layHourCosts_27 rfl (by decide) ?_
    refine go_istore (pc2 := 30) (ls2 := [(0, .ref 38), (1, .int x1), (2, .int x2), (3, .int x3), (4, .int x4), (5, .int x5), (6, .int x6), (7, .int (x5 - x5 / (3 : Int32) * (3 : Int32)))]) dX7_layHourCosts_28 rfl rfl rfl rfl rfl ?_
    refine go_iload (pc2 := 32) dX7_layHourCosts_30 rfl rfl ?_
    refine go_iconst (pc2 := 33) (v := (3 : Int32)) dX7_layHourCosts_32 rfl (by decide) ?_
    refine go_idiv (pc2 := 34) dX7_layHourCosts_33 rfl (by decide) ?_
    refine go_istore (pc2 := 36) (ls2 := [(0, .ref 38), (1, .int x1), (2, .int x2), (3, .int x3), (4, .int x4), (5, .int (x5 / (3 : Int32))), (6, .int x6), (7, .int (x5 - x5 / (3 : Int32) * (3 : Int32)))]) dX7_layHourCosts_34 rfl rfl rfl rfl rfl ?_
    refine go_iload_n (pc2 := 37) dX7_layHourCosts_36 rfl rfl rfl ?_
    refine go_iload (pc2 := 39) dX7_layHourCosts_37 rfl rfl ?_
    have J : GoV 2 mX7_layHourCosts 47 [(0, .ref 38), (1, .int x1), (2, .int x2), (3, .int x3), (4, .int x4), (5, .int (x5 / (3 : Int32))), (6, .int x6), (7, .int (x5 - x5 / (3 : Int32) * (3 : Int32)))] [.int (if (x5 - x5 / (3 : Int32) * (3 : Int32)) = 0 then (0 : Int32) else (1 : Int32)), .int x3] h Q := by
      refine go_iload (pc2 := 49) dX7_layHourCosts_47 rfl rfl ?_
      refine go_ishl (pc2 := 50) dX7_layHourCosts_49 rfl ?_
      refine go_ior (pc2 := 51) dX7_layHourCosts_50 rfl ?_
      refine go_istore_n (pc2 := 52) (ls2 := [(0, .ref 38), (1, .int x1), (2, .int x2), (3, .int (x3 ||| ((if (x5 - x5 / (3 : Int32) * (3 : Int32)) = 0 then (0 : Int32) else (1 : Int32)) <<< (x6 &&& 31)))), (4, .int x4), (5, .int (x5 / (3 : Int32))), (6, .int x6), (7, .int (x5 - x5 / (3 : Int32) * (3 : Int32)))]) dX7_layHourCosts_51 rfl rfl rfl rfl rfl rfl ?_
      refine go_iload (pc2 := 54) dX7_layHourCosts_52 rfl rfl ?_
      refine go_iload (pc2 := 56) dX7_layHourCosts_54 rfl rfl ?_
      refine go_iconst (pc2 := 57) (v := (2 : Int32)) dX7_layHourCosts_56 rfl (by decide) ?_
      have J : GoV 2 mX7_layHourCosts 65 [(0, .ref 38), (1, .int x1), (2, .int x2), (3, .int (x3 ||| ((if (x5 - x5 / (3 : Int32) * (3 : Int32)) = 0 then (0 : Int32) else (1 : Int32)) <<< (x6 &&& 31)))), (4, .int x4), (5, .int (x5 / (3 : Int32))), (6, .int x6), (7, .int (x5 - x5 / (3 : Int32) * (3 : Int32)))] [.int (if (x5 - x5 / (3 : Int32) * (3 : Int32)) = (2 : Int32) then (1 : Int32) else (0 : Int32)), .int x4] h Q := by
        refine go_iload (pc2 := 67) dX7_layHourCosts_65 rfl rfl ?_
        refine go_ishl (pc2 := 68) dX7_layHourCosts_67 rfl ?_
        refine go_ior (pc2 := 69) dX7_layHourCosts_68 rfl ?_
        refine go_istore (pc2 := 71) (ls2 := [(0, .ref 38), (1, .int x1), (2, .int x2), (3, .int (x3 ||| ((if (x5 - x5 / (3 : Int32) * (3 : Int32)) = 0 then (0 : Int32) else (1 : Int32)) <<< (x6 &&& 31)))), (4, .int (x4 ||| ((if (x5 - x5 / (3 : Int32) * (3 : Int32)) = (2 : Int32) then (1 : Int32) else (0 : Int32)) <<< (x6 &&& 31)))), (5, .int (x5 / (3 : Int32))), (6, .int x6), (7, .int (x5 - x5 / (3 : Int32) * (3 : Int32)))]) dX7_layHourCosts_69 rfl rfl rfl rfl rfl ?_
        refine go_iinc (pc2 := 74) (ls2 := [(0, .ref 38), (1, .int x1), (2, .int x2), (3, .int (x3 ||| ((if (x5 - x5 / (3 : Int32) * (3 : Int32)) = 0 then (0 : Int32) else (1 : Int32)) <<< (x6 &&& 31)))), (4, .int (x4 ||| ((if (x5 - x5 / (3 : Int32) * (3 : Int32)) = (2 : Int32) then (1 : Int32) else (0 : Int32)) <<< (x6 &&& 31)))), (5, .int (x5 / (3 : Int32))), (6, .int (x6 + (-1))), (7, .int (x5 - x5 / (3 : Int32) * (3 : Int32)))]) (v := (x6 + (-1))) dX7_layHourCosts_71 rfl rfl rfl rfl rfl rfl rfl ?_
        refine go_goto (tgt := 19) dX7_layHourCosts_74 (by decide) ?_
        exact Go.pick [0, 1, 2, 3, 4, 5, 6] rfl k
      refine go_icmp_ne (pc2 := 60) (tgt := 64) dX7_layHourCosts_57 rfl (by decide) (fun c => ?_) (fun c => ?_)
      · rw [if_neg c] at J
        exact go_iconst (pc2 := 65) dX7_layHourCosts_64 rfl (by decide) J
      · rw [if_pos c] at J
        exact go_iconst (pc2 := 61) dX7_layHourCosts_60 rfl (by decide) (go_goto (tgt := 65) dX7_layHourCosts_61 (by decide) J)
    refine go_if_ne (pc2 := 42) (tgt := 46) dX7_layHourCosts_39 rfl (by decide) (fun c => ?_) (fun c => ?_)
    · rw [if_neg c] at J
      exact go_iconst (pc2 := 47) dX7_layHourCosts_46 rfl (by decide) J
    · rw [if_pos c] at J
      exact go_iconst (pc2 := 43) dX7_layHourCosts_42 rfl (by decide) (go_goto (tgt := 47) dX7_layHourCosts_43 (by decide) J)
theorem b_X7_layHourCosts_132 {x1 : Int32} {x2 : Int32} {s1 : Int32} {s2 : Int32} {h : Hp} {Q : Hp → Prop}  (k : (vp_in s1 27 ∧ (∀ g2 : Hp, g2 = (ui h 55 (s1).toNatClampNeg s2) → GoV 2 mX7_layHourCosts 2 [(0, .ref 38), (1, .int x1), (2, .int (x2 + 1))] [] g2 Q))) : GoV 2 mX7_layHourCosts 132 [(0, .ref 38), (1, .int x1), (2, .int x2)] [.int s2, .int s1, .ref 55] h Q := by
  obtain ⟨y1, k⟩ := k
  refine go_iastore (pc2 := 133) (j := (s1).toNatClampNeg) dX7_layHourCosts_132 rfl c_55 y1 rfl ?_
  obtain ⟨g2, eg2⟩ : ∃ y : Hp, y = (ui h 55 (s1).toNatClampNeg s2) := ⟨_, rfl⟩
  rw [← eg2]
  have k := k g2 eg2
  refine go_iinc (pc2 := 136) (ls2 := [(0, .ref 38), (1, .int x1), (2, .int (x2 + 1))]) (v := (x2 + 1)) dX7_layHourCosts_133 rfl rfl rfl rfl rfl rfl rfl ?_
  refine go_goto (tgt := 2) dX7_layHourCosts_136 (by decide) ?_
  exact k
theorem e_X7_spread {x1 : Int32} {h : Hp} {Q : Hp → Prop}  (k : GoV 2 mX7_spread 4 [(0, .ref 38), (1, .int x1), (2, .int (0 : Int32)), (3, .int (0 : Int32))] [] h Q) : CtV 2 mX7_spread [.ref 38, .int x1] h Q := by
  refine Ct.of (by decide +kernel) (Nat.le_of_ble_eq_true rfl) ?_
  show GoV 2 mX7_spread 0 [(0, .ref 38), (1, .int x1)] [] h Q
  refine go_iconst (pc2 := 1) (v := (0 : Int32)) dX7_spread_0 rfl (by decide) ?_
  refine go_istore_n (pc2 := 2) (ls2 := [(0, .ref 38), (1, .int x1), (2, .int (0 : Int32))]) dX7_spread_1 rfl rfl rfl rfl rfl rfl ?_
  refine go_iconst (pc2 := 3) (v := (0 : Int32)) dX7_spread_2 rfl (by decide) ?_
  refine go_istore_n (pc2 := 4) (ls2 := [(0, .ref 38), (1, .int x1), (2, .int (0 : Int32)), (3, .int (0 : Int32))]) dX7_spread_3 rfl rfl rfl rfl rfl rfl ?_
  exact k
theorem b_X7_spread_4 {x1 : Int32} {x2 : Int32} {x3 : Int32} {h : Hp} {Q : Hp → Prop}  (k : (((h.1 42 0) ≤ x3 → Q h) ∧ (¬ ((h.1 42 0) ≤ x3) → GoV 2 mX7_spread 17 [(0, .ref 38), (1, .int x1), (2, .int x2), (3, .int x3), (4, .int (0 : Int32))] [] h Q))) : GoV 2 mX7_spread 4 [(0, .ref 38), (1, .int x1), (2, .int x2), (3, .int x3)] [] h Q := by
  refine go_iload_n (pc2 := 5) dX7_spread_4 rfl rfl rfl ?_
  refine go_aload_n (pc2 := 6) dX7_spread_5 rfl rfl rfl ?_
  refine gf_243 (pc2 := 9) rfl dX7_spread_6 rfl c_38 (fvs r_38_6) ?_
  refine go_iconst (pc2 := 10) (v := (0 : Int32)) dX7_spread_9 rfl (by decide) ?_
  refine go_iaload (pc2 := 11) (j := 0) dX7_spread_10 rfl c_42 (vp_c rfl) rfl ?_
  refine go_icmp_ge (pc2 := 14) (tgt := 96) dX7_spread_11 rfl (by decide) (fun c => ?_) (fun c => ?_)
  · have k := k.1 c
    exact go_ret dX7_spread_96 rfl ⟨rfl, rfl, k⟩
  · have k := k.2 c
    refine go_iconst (pc2 := 15) (v := (0 : Int32)) dX7_spread_14 rfl (by decide) ?_
    refine go_istore (pc2 := 17) (ls2 := [(0, .ref 38), (1, .int x1), (2, .int x2), (3, .int x3), (4, .int (0 : Int32))]) dX7_spread_15 rfl rfl rfl rfl rfl ?_
    exact k
theorem b_X7_spread_17 {x1 : Int32} {x2 : Int32} {x3 : Int32} {x4 : Int32} {h : Hp} {Q : Hp → Prop}  (k : (((h.1 42 1) ≤ x4 → GoV 2 mX7_spread 4 [(0, .ref 38), (1, .int x1), (2, .int x2), (3, .int (x3 + 1))] [] h Q) ∧ (¬ ((h.1 42 1) ≤ x4) → GoV 2 mX7_spread 31 [(0, .ref 38), (1, .int x1), (2, .int x2), (3, .int x3), (4, .int x4), (5, .int (0 : Int32))] [] h Q))) : GoV 2 mX7_spread 17 [(0, .ref 38), (1, .int x1), (2, .int x2), (3, .int x3), (4, .int x4)] [] h Q := by
  refine go_iload (pc2 := 19) dX7_spread_17 rfl rfl ?_
  refine go_aload_n (pc2 := 20) dX7_spread_19 rfl rfl rfl ?_
  refine gf_243 (pc2 := 23) rfl dX7_spread_20 rfl c_38 (fvs r_38_6) ?_
  refine go_iconst (pc2 := 24) (v := (1 : Int32)) dX7_spread_23 rfl (by decide) ?_
  refine go_iaload (pc2 := 25) (j := 1) dX7_spread_24 rfl c_42 (vp_c rfl) rfl ?_
  refine go_icmp_ge (pc2 := 28) (tgt := 90) dX7_spread_25 rfl (by decide) (fun c => ?_) (fun c => ?_)
  · have k := k.1 c
    refine go_iinc (pc2 := 93) (ls2 := [(0, .ref 38), (1, .int x1), (2, .int x2), (3, .int (x3 + 1)), (4, .int x4)]) (v := (x3 + 1)) dX7_spread_90 rfl rfl rfl rfl rfl rfl rfl ?_
    refine go_goto (tgt := 4) dX7_spread_93 (by decide) ?_
    exact Go.pick [0, 1, 2, 3] rfl k
  · have k := k.2 c
    refine go_iconst (pc2 := 29) (v := (0 : Int32)) dX7_spread_28 rfl (by decide) ?_
    refine go_istore (pc2 := 31) (ls2 := [(0, .ref 38), (1, .int x1), (2, .int x2), (3, .int x3), (4, .int x4), (5, .int (0 : Int32))]) dX7_spread_29 rfl rfl rfl rfl rfl ?_
    exact k
theorem b_X7_spread_31 {x1 : Int32} {x2 : Int32} {x3 : Int32} {x4 : Int32} {x5 : Int32} {h : Hp} {Q : Hp → Prop}  (k : (((h.1 42 2) ≤ x5 → GoV 2 mX7_spread 17 [(0, .ref 38), (1, .int x1), (2, .int x2), (3, .int x3), (4, .int (x4 + 1))] [] h Q) ∧ (¬ ((h.1 42 2) ≤ x5) → (∃ r1, rfo w0 h 38 11 = some r1 ∧ w0.2[r1]? = some (100, 343) ∧ (vp_in x2 343 ∧ (((h.1 r1 (x2).toNatClampNeg) = (2147483647 : Int32) → GoV 2 mX7_spread 75 [(0, .ref 38), (1, .int x1), (2, .int x2), (3, .int x3), (4, .int x4), (5, .int x5)] [] h Q) ∧ (¬ (h.1 r1 (x2).toNatClampNeg) = (2147483647 : Int32) → (∃ r5, rfo w0 h 38 11 = some r5 ∧ w0.2[r5]? = some (100, 343) ∧ (vp_in x2 343 ∧ (∃ Q9, CtV 1 mX7_spreadFrom [.ref 38, .int (h.1 r5 (x2).toNatClampNeg), .int x1, .int ((2 : Int32) * x3), .int ((2 : Int32) * x4), .int ((2 : Int32) * x5)] h Q9 ∧ ∀ h12 : Hp, Q9 h12 → GoV 2 mX7_spread 75 [(0, .ref 38), (1, .int x1), (2, .int x2), (3, .int x3), (4, .int x4), (5, .int x5)] [] h12 Q)))))))))) : GoV 2 mX7_spread 31 [(0, .ref 38), (1, .int x1), (2, .int x2), (3, .int x3), (4, .int x4), (5, .int x5)] [] h Q := by
  refine go_iload (pc2 := 33) dX7_spread_31 rfl rfl ?_
  refine go_aload_n (pc2 := 34) dX7_spread_33 rfl rfl rfl ?_
  refine gf_243 (pc2 := 37) rfl dX7_spread_34 rfl c_38 (fvs r_38_6) ?_
  refine go_iconst (pc2 := 38) (v := (2 : Int32)) dX7_spread_37 rfl (by decide) ?_
  refine go_iaload (pc2 := 39) (j := 2) dX7_spread_38 rfl c_42 (vp_c rfl) rfl ?_
  refine go_icmp_ge (pc2 := 42) (tgt := 84) dX7_spread_39 rfl (by decide) (fun c => ?_) (fun c => ?_)
  · have k := k.1 c
    refine go_iinc (pc2 := 87) (ls2 := [(0, .ref 38), (1, .int x1), (2, .int x2), (3, .int x3), (4, .int (x4 + 1)), (5, .int x5)]) (v := (x4 + 1)) dX7_spread_84 rfl rfl rfl rfl rfl rfl rfl ?_
    refine go_goto (tgt := 17) dX7_spread_87 (by decide) ?_
    exact Go.pick [0, 1, 2, 3, 4] rfl k
  · have k := k.2 c
    refine go_aload_n (pc2 := 43) dX7_spread_42 rfl rfl rfl ?_
    obtain ⟨r1, q2, c3, k⟩ := k
    refine gf_248 (pc2 := 46) rfl dX7_spread_43 rfl c_38 (fvr q2) ?_
    refine go_iload_n (pc2 := 47) dX7_spread_46 rfl rfl rfl ?_
    obtain ⟨y4, k⟩ := k
    refine go_iaload (pc2 := 48) (j := (x2).toNatClampNeg) dX7_spread_47 rfl c3 y4 rfl ?_
    refine go_ldc (pc2 := 50) dX7_spread_48 rfl rfl w_739 ?_
    refine go_icmp_eq (pc2 := 53) (tgt := 75) dX7_spread_50 rfl (by decide) (fun c => ?_) (fun c => ?_)
    · have k := k.1 c
      exact k
    · have k := k.2 c
      refine go_aload_n (pc2 := 54) dX7_spread_53 rfl rfl rfl ?_
      refine go_aload_n (pc2 := 55) dX7_spread_54 rfl rfl rfl ?_
      obtain ⟨r5, q6, c7, k⟩ := k
      refine gf_248 (pc2 := 58) rfl dX7_spread_55 rfl c_38 (fvr q6) ?_
      refine go_iload_n (pc2 := 59) dX7_spread_58 rfl rfl rfl ?_
      obtain ⟨y8, k⟩ := k
      refine go_iaload (pc2 := 60) (j := (x2).toNatClampNeg) dX7_spread_59 rfl c7 y8 rfl ?_
      refine go_iload_n (pc2 := 61) dX7_spread_60 rfl rfl rfl ?_
      refine go_iconst (pc2 := 62) (v := (2 : Int32)) dX7_spread_61 rfl (by decide) ?_
      refine go_iload_n (pc2 := 63) dX7_spread_62 rfl rfl rfl ?_
      refine go_imul (pc2 := 64) dX7_spread_63 rfl ?_
      refine go_iconst (pc2 := 65) (v := (2 : Int32)) dX7_spread_64 rfl (by decide) ?_
      refine go_iload (pc2 := 67) dX7_spread_65 rfl rfl ?_
      refine go_imul (pc2 := 68) dX7_spread_67 rfl ?_
      refine go_iconst (pc2 := 69) (v := (2 : Int32)) dX7_spread_68 rfl (by decide) ?_
      refine go_iload (pc2 := 71) dX7_spread_69 rfl rfl ?_
      refine go_imul (pc2 := 72) dX7_spread_71 rfl ?_
      obtain ⟨Q9, hC10, k⟩ := k
      refine gcV_V (pc2 := 75) (dC := 1) (As := [.int (h.1 r5 (x2).toNatClampNeg), .int x1, .int ((2 : Int32) * x3), .int ((2 : Int32) * x4), .int ((2 : Int32) * x5)]) (st := []) rfl dX7_spread_72 rfl w_755 ok_X7_spreadFrom vi_X7_spreadFrom c_38 (by decide) rfl rfl rfl (by decide) (Nat.le_of_ble_eq_true rfl) hC10 (fun h12 hq13 => ?_)
      have k := k h12 hq13
      exact k
theorem b_X7_spread_75 {x1 : Int32} {x2 : Int32} {x3 : Int32} {x4 : Int32} {x5 : Int32} {h : Hp} {Q : Hp → Prop}  (k : GoV 2 mX7_spread 31 [(0, .ref 38), (1, .int x1), (2, .int (x2 + 1)), (3, .int x3), (4, .int x4), (5, .int (x5 + 1))] [] h Q) : GoV 2 mX7_spread 75 [(0, .ref 38), (1, .int x1), (2, .int x2), (3, .int x3), (4, .int x4), (5, .int x5)] [] h Q := by
  refine go_iinc (pc2 := 78) (ls2 := [(0, .ref 38), (1, .int x1), (2, .int (x2 + 1)), (3, .int x3), (4, .int x4), (5, .int x5)]) (v := (x2 + 1)) dX7_spread_75 rfl rfl rfl rfl rfl rfl rfl ?_
  refine go_iinc (pc2 := 81) (ls2 := [(0, .ref 38), (1, .int x1), (2, .int (x2 + 1)), (3, .int x3), (4, .int x4), (5, .int (x5 + 1))]) (v := (x5 + 1)) dX7_spread_78 rfl rfl rfl rfl rfl rfl rfl ?_
  refine go_goto (tgt := 31) dX7_spread_81 (by decide) ?_
  exact k
theorem e_X7_spreadFrom {x1 : Int32} {x2 : Int32} {x3 : Int32} {x4 : Int32} {x5 : Int32} {h : Hp} {Q : Hp → Prop}  (k : GoV 1 mX7_spreadFrom 3 [(0, .ref 38), (1, .int x1), (2, .int x2), (3, .int x3), (4, .int x4), (5, .int x5), (6, .int x3)] [] h Q) : CtV 1 mX7_spreadFrom [.ref 38, .int x1, .int x2, .int x3, .int x4, .int x5] h Q := by
  refine Ct.of (by decide +kernel) (Nat.le_of_ble_eq_true rfl) ?_
  show GoV 1 mX7_spreadFrom 0 [(0, .ref 38), (1, .int x1), (2, .int x2), (3, .int x3), (4, .int x4), (5, .int x5)] [] h Q
  refine go_iload_n (pc2 := 1) dX7_spreadFrom_0 rfl rfl rfl ?_
  refine go_istore (pc2 := 3) (ls2 := [(0, .ref 38), (1, .int x1), (2, .int x2), (3, .int x3), (4, .int x4), (5, .int x5), (6, .int x3)]) dX7_spreadFrom_1 rfl rfl rfl rfl rfl ?_
  exact k
theorem b_X7_spreadFrom_3 {x1 : Int32} {x2 : Int32} {x3 : Int32} {x4 : Int32} {x5 : Int32} {x6 : Int32} {h : Hp} {Q : Hp → Prop}  (k : (((x3 + (2 : Int32)) ≤ x6 → Q h) ∧ (¬ ((x3 + (2 : Int32)) ≤ x6) → GoV 1 mX7_spreadFrom 15 [(0, .ref 38), (1, .int x1), (2, .int x2), (3, .int x3), (4, .int x4), (5, .int x5), (6, .int x6), (7, .int x4)] [] h Q))) : GoV 1 mX7_spreadFrom 3 [(0, .ref 38), (1, .int x1), (2, .int x2), (3, .int x3), (4, .int x4), (5, .int x5), (6, .int x6)] [] h Q := by
  refine go_iload (pc2 := 5) dX7_spreadFrom_3 rfl rfl ?_
  refine go_iload_n (pc2 := 6) dX7_spreadFrom_5 rfl rfl rfl ?_
  refine go_iconst (pc2 := 7) (v := (2 : Int32)) dX7_spreadFrom_6 rfl (by decide) ?_
  refine go_iadd (pc2 := 8) dX7_spreadFrom_7 rfl ?_
  refine go_icmp_ge (pc2 := 11) (tgt := 263) dX7_spreadFrom_8 rfl (by decide) (fun c => ?_) (fun c => ?_)
  · have k := k.1 c
    exact go_ret dX7_spreadFrom_263 rfl ⟨rfl, rfl, k⟩
  · have k := k.2 c
    refine go_iload (pc2 := 13) dX7_spreadFrom_11 rfl rfl ?_
    refine go_istore (pc2 := 15) (ls2 := [(0, .ref 38), (1, .int x1), (2, .int x2), (3, .int x3), (4, .int x4), (5, .int x5), (6, .int x6), (7, .int x4)]) dX7_spreadFrom_13 rfl rfl rfl rfl rfl ?_
    exact k
theorem b_X7_spreadFrom_15 {x1 : Int32} {x2 : Int32} {x3 : Int32} {x4 : Int32} {x5 : Int32} {x6 : Int32} {x7 : Int32} {h : Hp} {Q : Hp → Prop}  (k : (((x4 + (2 : Int32)) ≤ x7 → GoV 1 mX7_spreadFrom 3 [(0, .ref 38), (1, .int x1), (2, .int x2), (3, .int x3), (4, .int x4), (5, .int x5), (6, .int (x6 + 1))] [] h Q) ∧ (¬ ((x4 + (2 : Int32)) ≤ x7) → (vp_in x6 14 ∧ (((h.1 44 (x6).toNatClampNeg) < 0 → GoV 1 mX7_spreadFrom 251 [(0, .ref 38), (1, .int x1), (2, .int x2), (3, .int x3), (4, .int x4), (5, .int x5), (6, .int x6), (7, .int x7)] [] h Q) ∧ (¬ ((h.1 44 (x6).toNatClampNeg) < 0) → (vp_in x7 14 ∧ ((0 ≤ (h.1 45 (x7).toNatClampNeg) → GoV 1 mX7_spreadFrom 55 [(0, .ref 38), (1, .int x1), (2, .int x2), (3, .int x3), (4, .int x4), (5, .int x5), (6, .int x6), (7, .int x7), (8, .int x5)] [] h Q) ∧ (¬ (0 ≤ (h.1 45 (x7).toNatClampNeg)) → GoV 1 mX7_spreadFrom 251 [(0, .ref 38), (1, .int x1), (2, .int x2), (3, .int x3), (4, .int x4), (5, .int x5), (6, .int x6), (7, .int x7)] [] h Q))))))))) : GoV 1 mX7_spreadFrom 15 [(0, .ref 38), (1, .int x1), (2, .int x2), (3, .int x3), (4, .int x4), (5, .int x5), (6, .int x6), (7, .int x7)] [] h Q := by
  refine go_iload (pc2 := 17) dX7_spreadFrom_15 rfl rfl ?_
  refine go_iload (pc2 := 19) dX7_spreadFrom_17 rfl rfl ?_
  refine go_iconst (pc2 := 20) (v := (2 : Int32)) dX7_spreadFrom_19 rfl (by decide) ?_
  refine go_iadd (pc2 := 21) dX7_spreadFrom_20 rfl ?_
  refine go_icmp_ge (pc2 := 24) (tgt := 257) dX7_spreadFrom_21 rfl (by decide) (fun c => ?_) (fun c => ?_)
  · have k := k.1 c
    refine go_iinc (pc2 := 260) (ls2 := [(0, .ref 38), (1, .int x1), (2, .int x2), (3, .int x3), (4, .int x4), (5, .int x5), (6, .int (x6 + 1)), (7, .int x7)]) (v := (x6 + 1)) dX7_spreadFrom_257 rfl rfl rfl rfl rfl rfl rfl ?_
    refine go_goto (tgt := 3) dX7_spreadFrom_260 (by decide) ?_
    exact Go.pick [0, 1, 2, 3, 4, 5, 6] rfl k
  · have k := k.2 c
    refine go_aload_n (pc2 := 25) dX7_spreadFrom_24 rfl rfl rfl ?_
    refine gf_244 (pc2 := 28) rfl dX7_spreadFrom_25 rfl c_38 (fvs r_38_7) ?_
    refine go_iconst (pc2 := 29) (v := (0 : Int32)) dX7_spreadFrom_28 rfl (by decide) ?_
    refine go_aaload (pc2 := 30) (t := 3) dX7_spreadFrom_29 rfl (by decide) c_43 (vp_c rfl) rfl (rfo_s r_43_0) ?_
    refine go_iload (pc2 := 32) dX7_spreadFrom_30 rfl rfl ?_
    obtain ⟨y1, k⟩ := k
    refine go_iaload (pc2 := 33) (j := (x6).toNatClampNeg) dX7_spreadFrom_32 rfl c_44 y1 rfl ?_
    refine go_if_lt (pc2 := 36) (tgt := 251) dX7_spreadFrom_33 rfl (by decide) (fun c => ?_) (fun c => ?_)
    · have k := k.1 c
      exact k
    · have k := k.2 c
      refine go_aload_n (pc2 := 37) dX7_spreadFrom_36 rfl rfl rfl ?_
      refine gf_244 (pc2 := 40) rfl dX7_spreadFrom_37 rfl c_38 (fvs r_38_7) ?_
      refine go_iconst (pc2 := 41) (v := (1 : Int32)) dX7_spreadFrom_40 rfl (by decide) ?_
      refine go_aaload (pc2 := 42) (t := 3) dX7_spreadFrom_41 rfl (by decide) c_43 (vp_c rfl) rfl (rfo_s r_43_1) ?_
      refine go_iload (pc2 := 44) dX7_spreadFrom_42 rfl rfl ?_
      obtain ⟨y2, k⟩ := k
      refine go_iaload (pc2 := 45) (j := (x7).toNatClampNeg) dX7_spreadFrom_44 rfl c_45 y2 rfl ?_
      refine go_if_ge (pc2 := 48) (tgt := 51) dX7_spreadFrom_45 rfl (by decide) (fun c => ?_) (fun c => ?_)
      · have k := k.1 c
        refine go_iload (pc2 := 53) dX7_spreadFrom_51 rfl rfl ?_
        refine go_istore (pc2 := 55) (ls2 := [(0, .ref 38), (1, .int x1), (2, .int x2), (3, .int x3), (4, .int x4), (5, .int x5), (6, .int x6), (7, .int x7), (8, .int x5)]) dX7_spreadFrom_53 rfl rfl rfl rfl rfl ?_
        exact k
      · have k := k.2 c
        refine go_goto (tgt := 251) dX7_spreadFrom_48 (by decide) ?_
        exact k
theorem b_X7_spreadFrom_251 {x1 : Int32} {x2 : Int32} {x3 : Int32} {x4 : Int32} {x5 : Int32} {x6 : Int32} {x7 : Int32} {h : Hp} {Q : Hp → Prop}  (k : GoV 1 mX7_spreadFrom 15 [(0, .ref 38), (1, .int x1), (2, .int x2), (3, .int x3), (4, .int x4), (5, .int x5), (6, .int x6), (7, .int (x7 + 1))] [] h Q) : GoV 1 mX7_spreadFrom 251 [(0, .ref 38), (1, .int x1), (2, .int x2), (3, .int x3), (4, .int x4), (5, .int x5), (6, .int x6), (7, .int x7)] [] h Q := by
  refine go_iinc (pc2 := 254) (ls2 := [(0, .ref 38), (1, .int x1), (2, .int x2), (3, .int x3), (4, .int x4), (5, .int x5), (6, .int x6), (7, .int (x7 + 1))]) (v := (x7 + 1)) dX7_spreadFrom_251 rfl rfl rfl rfl rfl rfl rfl ?_
  refine go_goto (tgt := 15) dX7_spreadFrom_254 (by decide) ?_
  exact k
theorem b_X7_spreadFrom_55 {x1 : Int32} {x2 : Int32} {x3 : Int32} {x4 : Int32} {x5 : Int32} {x6 : Int32} {x7 : Int32} {x8 : Int32} {h : Hp} {Q : Hp → Prop}  (k : (((x5 + (2 : Int32)) ≤ x8 → GoV 1 mX7_spreadFrom 251 [(0, .ref 38), (1, .int x1), (2, .int x2), (3, .int x3), (4, .int x4), (5, .int x5), (6, .int x6), (7, .int x7)] [] h Q) ∧ (¬ ((x5 + (2 : Int32)) ≤ x8) → (vp_in x6 14 ∧ (vp_in x7 14 ∧ (vp_in x8 14 ∧ (vp_in ((((9 : Int32) * (h.1 48 (x6).toNatClampNeg)) + ((3 : Int32) * (h.1 49 (x7).toNatClampNeg))) + (h.1 50 (x8).toNatClampNeg)) 27 ∧ (vp_in x8 14 ∧ (((h.1 46 (x8).toNatClampNeg) < 0 → GoV 1 mX7_spreadFrom 245 [(0, .ref 38), (1, .int x1), (2, .int x2), (3, .int x3), (4, .int x4), (5, .int x5), (6, .int x6), (7, .int x7), (8, .int x8)] [] h Q) ∧ (¬ ((h.1 46 (x8).toNatClampNeg) < 0) → ((0 ≤ (h.1 55 (((((9 : Int32) * (h.1 48 (x6).toNatClampNeg)) + ((3 : Int32) * (h.1 49 (x7).toNatClampNeg))) + (h.1 50 (x8).toNatClampNeg))).toNatClampNeg) → (∃ Q6, CtI 0 mX7_rowShift [.int (0 : Int32)] h Q6 ∧ ∀ (v8 : Int32) (h9 : Hp), Q6 v8 h9 → (∃ Q11, CtI 0 mX7_rowShift [.int (1 : Int32)] h9 Q11 ∧ ∀ (v13 : Int32) (h14 : Hp), Q11 v13 h14 → (vp_in x6 14 ∧ (vp_in x7 14 ∧ (vp_in x8 14 ∧ (vp_in x6 14 ∧ (vp_in x7 14 ∧ (vp_in x8 14 ∧ (∃ r22, rfo w0 h14 38 12 = some r22 ∧ w0.2[r22]? = some (100, 343) ∧ (∃ r25, rfo w0 h14 38 12 = some r25 ∧ w0.2[r25]? = some (100, 343) ∧ (vp_in (((h14.1 44 (x6).toNatClampNeg) + (h14.1 45 (x7).toNatClampNeg)) + (h14.1 46 (x8).toNatClampNeg)) 343 ∧ (∃ Q29, CtI 0 mJ9_min_7cf53 [.int (h14.1 r25 ((((h14.1 44 (x6).toNatClampNeg) + (h14.1 45 (x7).toNatClampNeg)) + (h14.1 46 (x8).toNatClampNeg))).toNatClampNeg), .int (((((x1 + ((h.1 55 (((((9 : Int32) * (h.1 48 (x6).toNatClampNeg)) + ((3 : Int32) * (h.1 49 (x7).toNatClampNeg))) + (h.1 50 (x8).toNatClampNeg))).toNatClampNeg) <<< ((15 : Int32) &&& 31))) + (h14.1 52 (x6).toNatClampNeg)) + (h14.1 53 (x7).toNatClampNeg)) + (h14.1 54 (x8).toNatClampNeg)) + (((((x6 &&& (1 : Int32)) <<< (v8 &&& 31)) ||| ((x7 &&& (1 : Int32)) <<< (v13 &&& 31))) ||| (x8 &&& (1 : Int32))) <<< (x2 &&& 31)))] h14 Q29 ∧ ∀ (v31 : Int32) (h32 : Hp), Q29 v31 h32 → (vp_in (((h14.1 44 (x6).toNatClampNeg) + (h14.1 45 (x7).toNatClampNeg)) + (h14.1 46 (x8).toNatClampNeg)) 343 ∧ (∀ g35 : Hp, g35 = (ui h32 r22 ((((h14.1 44 (x6).toNatClampNeg) + (h14.1 45 (x7).toNatClampNeg)) + (h14.1 46 (x8).toNatClampNeg))).toNatClampNeg v31) → GoV 1 mX7_spreadFrom 245 [(0, .ref 38), (1, .int x1), (2, .int x2), (3, .int x3), (4, .int x4), (5, .int x5), (6, .int x6), (7, .int x7), (8, .int x8)] [] g35 Q))))))))))))))) ∧ (¬ (0 ≤ (h.1 55 (((((9 : Int32) * (h.1 48 (x6).toNatClampNeg)) + ((3 : Int32) * (h.1 49 (x7).toNatClampNeg))) + (h.1 50 (x8).toNatClampNeg))).toNatClampNeg)) → GoV 1 mX7_spreadFrom 245 [(0, .ref 38), (1, .int x1), (2, .int x2), (3, .int x3), (4, .int x4), (5, .int x5), (6, .int x6), (7, .int x7), (8, .int x8)] [] h Q)))))))))))) : GoV 1 mX7_spreadFrom 55 [(0, .ref 38), (1, .int x1), (2, .int x2), (3, .int x3), (4, .int x4), (5, .int x5), (6, .int x6), (7, .int x7), (8, .int x8)] [] h Q := by
  refine go_iload (pc2 := 57) dX7_spreadFrom_55 rfl rfl ?_
  refine go_iload (pc2 := 59) dX7_spreadFrom_57 rfl rfl ?_
  refine go_iconst (pc2 := 60) (v := (2 : Int32)) dX7_spreadFrom_59 rfl (by decide) ?_
  refine go_iadd (pc2 := 61) dX7_spreadFrom_60 rfl ?_
  refine go_icmp_ge (pc2 := 64) (tgt := 251) dX7_spreadFrom_61 rfl (by decide) (fun c => ?_) (fun c => ?_)
  · have k := k.1 c
    exact Go.pick [0, 1, 2, 3, 4, 5, 6, 7] rfl k
  · have k := k.2 c
    refine go_aload_n (pc2 := 65) dX7_spreadFrom_64 rfl rfl rfl ?_
    refine gf_247 (pc2 := 68) rfl dX7_spreadFrom_65 rfl c_38 (fvs r_38_10) ?_
    refine go_bipush (pc2 := 70) (v := (9 : Int32)) dX7_spreadFrom_68 rfl (by decide) ?_
    refine go_aload_n (pc2 := 71) dX7_spreadFrom_70 rfl rfl rfl ?_
    refine gf_245 (pc2 := 74) rfl dX7_spreadFrom_71 rfl c_38 (fvs r_38_8) ?_
    refine go_iconst (pc2 := 75) (v := (0 : Int32)) dX7_spreadFrom_74 rfl (by decide) ?_
    refine go_aaload (pc2 := 76) (t := 3) dX7_spreadFrom_75 rfl (by decide) c_47 (vp_c rfl) rfl (rfo_s r_47_0) ?_
    refine go_iload (pc2 := 78) dX7_spreadFrom_76 rfl rfl ?_
    obtain ⟨y1, k⟩ := k
    refine go_iaload (pc2 := 79) (j := (x6).toNatClampNeg) dX7_spreadFrom_78 rfl c_48 y1 rfl ?_
    refine go_imul (pc2 := 80) dX7_spreadFrom_79 rfl ?_
    refine go_iconst (pc2 := 81) (v := (3 : Int32)) dX7_spreadFrom_80 rfl (by decide) ?_
    refine go_aload_n (pc2 := 82) dX7_spreadFrom_81 rfl rfl rfl ?_
    refine gf_245 (pc2 := 85) rfl dX7_spreadFrom_82 rfl c_38 (fvs r_38_8) ?_
    refine go_iconst (pc2 := 86) (v := (1 : Int32)) dX7_spreadFrom_85 rfl (by decide) ?_
    refine go_aaload (pc2 := 87) (t := 3) dX7_spreadFrom_86 rfl (by decide) c_47 (vp_c rfl) rfl (rfo_s r_47_1) ?_
    refine go_iload (pc2 := 89) dX7_spreadFrom_87 rfl rfl ?_
    obtain ⟨y2, k⟩ := k
    refine go_iaload (pc2 := 90) (j := (x7).toNatClampNeg) dX7_spreadFrom_89 rfl c_49 y2 rfl ?_
    refine go_imul (pc2 := 91) dX7_spreadFrom_90 rfl ?_
    refine go_iadd (pc2 := 92) dX7_spreadFrom_91 rfl ?_
    refine go_aload_n (pc2 := 93) dX7_spreadFrom_92 rfl rfl rfl ?_
    refine gf_245 (pc2 := 96) rfl dX7_spreadFrom_93 rfl c_38 (fvs r_38_8) ?_
    refine go_iconst (pc2 := 97) (v := (2 : Int32)) dX7_spreadFrom_96 rfl (by decide) ?_
    refine go_aaload (pc2 := 98) (t := 3) dX7_spreadFrom_97 rfl (by decide) c_47 (vp_c rfl) rfl (rfo_s r_47_2) ?_
    refine go_iload (pc2 := 100) dX7_spreadFrom_98 rfl rfl ?_
    obtain ⟨y3, k⟩ := k
    refine go_iaload (pc2 := 101) (j := (x8).toNatClampNeg) dX7_spreadFrom_100 rfl c_50 y3 rfl ?_
    refine go_iadd (pc2 := 102) dX7_spreadFrom_101 rfl ?_
    obtain ⟨y4, k⟩ := k
    refine go_iaload (pc2 := 103) (j := (((((9 : Int32) * (h.1 48 (x6).toNatClampNeg)) + ((3 : Int32) * (h.1 49 (x7).toNatClampNeg))) + (h.1 50 (x8).toNatClampNeg))).toNatClampNeg) dX7_spreadFrom_102 rfl c_55 y4 rfl ?_
    refine go_istore (pc2 := 105) (ls2 := [(0, .ref 38), (1, .int x1), (2, .int x2), (3, .int x3), (4, .int x4), (5, .int x5), (6, .int x6), (7, .int x7), (8, .int x8), (9, .int (h.1 55 (((((9 : Int32) * (h.1 48 (x6).toNatClampNeg)) + ((3 : Int32) * (h.1 49 (x7).toNatClampNeg))) + (h.1 50 (x8).toNatClampNeg))).toNatClampNeg))]) dX7_spreadFrom_103 rfl rfl rfl rfl rfl ?_
    refine go_aload_n (pc2 := 106) dX7_spreadFrom_105 rfl rfl rfl ?_
    refine gf_244 (pc2 := 109) rfl dX7_spreadFrom_106 rfl c_38 (fvs r_38_7) ?_
    refine go_iconst (pc2 := 110) (v := (2 : Int32)) dX7_spreadFrom_109 rfl (by decide) ?_
    refine go_aaload (pc2 := 111) (t := 3) dX7_spreadFrom_110 rfl (by decide) c_43 (vp_c rfl) rfl (rfo_s r_43_2) ?_
    refine go_iload (pc2 := 113) dX7_spreadFrom_111 rfl rfl ?_
    obtain ⟨y5, k⟩ := k
    refine go_iaload (pc2 := 114) (j := (x8).toNatClampNeg) dX7_spreadFrom_113 rfl c_46 y5 rfl ?_
    refine go_if_lt (pc2 := 117) (tgt := 245) dX7_spreadFrom_114 rfl (by decide) (fun c => ?_) (fun c => ?_)
    · have k := k.1 c
      exact Go.pick [0, 1, 2, 3, 4, 5, 6, 7, 8] rfl k
    · have k := k.2 c
      refine go_iload (pc2 := 119) dX7_spreadFrom_117 rfl rfl ?_
      refine go_if_ge (pc2 := 122) (tgt := 125) dX7_spreadFrom_119 rfl (by decide) (fun c => ?_) (fun c => ?_)
      · have k := k.1 c
        refine go_iload (pc2 := 127) dX7_spreadFrom_125 rfl rfl ?_
        refine go_iconst (pc2 := 128) (v := (1 : Int32)) dX7_spreadFrom_127 rfl (by decide) ?_
        refine go_iand (pc2 := 129) dX7_spreadFrom_128 rfl ?_
        refine go_iconst (pc2 := 130) (v := (0 : Int32)) dX7_spreadFrom_129 rfl (by decide) ?_
        obtain ⟨Q6, hC7, k⟩ := k
        refine gcS_I (pc2 := 133) (dC := 0) (As := [.int (0 : Int32)]) (st := [.int (x6 &&& (1 : Int32))]) rfl dX7_spreadFrom_130 rfl w_759 ok_X7_rowShift w_760 rfl (by decide) (Nat.le_of_ble_eq_true rfl) hC7 (fun v8 h9 hq10 => ?_)
        have k := k v8 h9 hq10
        refine go_ishl (pc2 := 134) dX7_spreadFrom_133 rfl ?_
        refine go_iload (pc2 := 136) dX7_spreadFrom_134 rfl rfl ?_
        refine go_iconst (pc2 := 137) (v := (1 : Int32)) dX7_spreadFrom_136 rfl (by decide) ?_
        refine go_iand (pc2 := 138) dX7_spreadFrom_137 rfl ?_
        refine go_iconst (pc2 := 139) (v := (1 : Int32)) dX7_spreadFrom_138 rfl (by decide) ?_
        obtain ⟨Q11, hC12, k⟩ := k
        refine gcS_I (pc2 := 142) (dC := 0) (As := [.int (1 : Int32)]) (st := [.int (x7 &&& (1 : Int32)), .int ((x6 &&& (1 : Int32)) <<< (v8 &&& 31))]) rfl dX7_spreadFrom_139 rfl w_759 ok_X7_rowShift w_760 rfl (by decide) (Nat.le_of_ble_eq_true rfl) hC12 (fun v13 h14 hq15 => ?_)
        have k := k v13 h14 hq15
        refine go_ishl (pc2 := 143) dX7_spreadFrom_142 rfl ?_
        refine go_ior (pc2 := 144) dX7_spreadFrom_143 rfl ?_
        refine go_iload (pc2 := 146) dX7_spreadFrom_144 rfl rfl ?_
        refine go_iconst (pc2 := 147) (v := (1 : Int32)) dX7_spreadFrom_146 rfl (by decide) ?_
        refine go_iand (pc2 := 148) dX7_spreadFrom_147 rfl ?_
        refine go_ior (pc2 := 149) dX7_spreadFrom_148 rfl ?_
        refine go_istore (pc2 := 151) (ls2 := [(0, .ref 38), (1, .int x1), (2, .int x2), (3, .int x3), (4, .int x4), (5, .int x5), (6, .int x6), (7, .int x7), (8, .int x8), (9, .int (h.1 55 (((((9 : Int32) * (h.1 48 (x6).toNatClampNeg)) + ((3 : Int32) * (h.1 49 (x7).toNatClampNeg))) + (h.1 50 (x8).toNatClampNeg))).toNatClampNeg)), (10, .int ((((x6 &&& (1 : Int32)) <<< (v8 &&& 31)) ||| ((x7 &&& (1 : Int32)) <<< (v13 &&& 31))) ||| (x8 &&& (1 : Int32))))]) dX7_spreadFrom_149 rfl rfl rfl rfl rfl ?_
        refine go_iload_n (pc2 := 152) dX7_spreadFrom_151 rfl rfl rfl ?_
        refine go_iload (pc2 := 154) dX7_spreadFrom_152 rfl rfl ?_
        refine go_bipush (pc2 := 156) (v := (15 : Int32)) dX7_spreadFrom_154 rfl (by decide) ?_
        refine go_ishl (pc2 := 157) dX7_spreadFrom_156 rfl ?_
        refine go_iadd (pc2 := 158) dX7_spreadFrom_157 rfl ?_
        refine go_aload_n (pc2 := 159) dX7_spreadFrom_158 rfl rfl rfl ?_
        refine gf_246 (pc2 := 162) rfl dX7_spreadFrom_159 rfl c_38 (fvs r_38_9) ?_
        refine go_iconst (pc2 := 163) (v := (0 : Int32)) dX7_spreadFrom_162 rfl (by decide) ?_
        refine go_aaload (pc2 := 164) (t := 3) dX7_spreadFrom_163 rfl (by decide) c_51 (vp_c rfl) rfl (rfo_s r_51_0) ?_
        refine go_iload (pc2 := 166) dX7_spreadFrom_164 rfl rfl ?_
        obtain ⟨y16, k⟩ := k
        refine go_iaload (pc2 := 167) (j := (x6).toNatClampNeg) dX7_spreadFrom_166 rfl c_52 y16 rfl ?_
        refine go_iadd (pc2 := 168) dX7_spreadFrom_167 rfl ?_
        refine go_aload_n (pc2 := 169) dX7_spreadFrom_168 rfl rfl rfl ?_
        refine gf_246 (pc2 := 172) rfl dX7_spreadFrom_169 rfl c_38 (fvs r_38_9) ?_
        refine go_iconst (pc2 := 173) (v := (1 : Int32)) dX7_spreadFrom_172 rfl (by decide) ?_
        refine go_aaload (pc2 := 174) (t := 3) dX7_spreadFrom_173 rfl (by decide) c_51 (vp_c rfl) rfl (rfo_s r_51_1) ?_
        refine go_iload (pc2 := 176) dX7_spreadFrom_174 rfl rfl ?_
        obtain ⟨y17, k⟩ := k
        refine go_iaload (pc2 := 177) (j := (x7).toNatClampNeg) dX7_spreadFrom_176 rfl c_53 y17 rfl ?_
        refine go_iadd (pc2 := 178) dX7_spreadFrom_177 rfl ?_
        refine go_aload_n (pc2 := 179) dX7_spreadFrom_178 rfl rfl rfl ?_
        refine gf_246 (pc2 := 182) rfl dX7_spreadFrom_179 rfl c_38 (fvs r_38_9) ?_
        refine go_iconst (pc2 := 183) (v := (2 : Int32)) dX7_spreadFrom_182 rfl (by decide) ?_
        refine go_aaload (pc2 := 184) (t := 3) dX7_spreadFrom_183 rfl (by decide) c_51 (vp_c rfl) rfl (rfo_s r_51_2) ?_
        refine go_iload (pc2 := 186) dX7_spreadFrom_184 rfl rfl ?_
        obtain ⟨y18, k⟩ := k
        refine go_iaload (pc2 := 187) (j := (x8).toNatClampNeg) dX7_spreadFrom_186 rfl c_54 y18 rfl ?_
        refine go_iadd (pc2 := 188) dX7_spreadFrom_187 rfl ?_
        refine go_iload (pc2 := 190) dX7_spreadFrom_188 rfl rfl ?_
        refine go_iload_n (pc2 := 191) dX7_spreadFrom_190 rfl rfl rfl ?_
        refine go_ishl (pc2 := 192) dX7_spreadFrom_191 rfl ?_
        refine go_iadd (pc2 := 193) dX7_spreadFrom_192 rfl ?_
        refine go_istore (pc2 := 195) (ls2 := [(0, .ref 38), (1, .int x1), (2, .int x2), (3, .int x3), (4, .int x4), (5, .int x5), (6, .int x6), (7, .int x7), (8, .int x8), (9, .int (h.1 55 (((((9 : Int32) * (h.1 48 (x6).toNatClampNeg)) + ((3 : Int32) * (h.1 49 (x7).toNatClampNeg))) + (h.1 50 (x8).toNatClampNeg))).toNatClampNeg)), (10, .int ((((x6 &&& (1 : Int32)) <<< (v8 &&& 31)) ||| ((x7 &&& (1 : Int32)) <<< (v13 &&& 31))) ||| (x8 &&& (1 : Int32)))), (11, .int (((((x1 + ((h.1 55 (((((9 : Int32) * (h.1 48 (x6).toNatClampNeg)) + ((3 : Int32) * (h.1 49 (x7).toNatClampNeg))) + (h.1 50 (x8).toNatClampNeg))).toNatClampNeg) <<< ((15 : Int32) &&& 31))) + (h14.1 52 (x6).toNatClampNeg)) + (h14.1 53 (x7).toNatClampNeg)) + (h14.1 54 (x8).toNatClampNeg)) + (((((x6 &&& (1 : Int32)) <<< (v8 &&& 31)) ||| ((x7 &&& (1 : Int32)) <<< (v13 &&& 31))) ||| (x8 &&& (1 : Int32))) <<< (x2 &&& 31))))]) dX7_spreadFrom_193 rfl rfl rfl rfl rfl ?_
        refine go_aload_n (pc2 := 196) dX7_spreadFrom_195 rfl rfl rfl ?_
        refine gf_244 (pc2 := 199) rfl dX7_spreadFrom_196 rfl c_38 (fvs r_38_7) ?_
        refine go_iconst (pc2 := 200) (v := (0 : Int32)) dX7_spreadFrom_199 rfl (by decide) ?_
        refine go_aaload (pc2 := 201) (t := 3) dX7_spreadFrom_200 rfl (by decide) c_43 (vp_c rfl) rfl (rfo_s r_43_0) ?_
        refine go_iload (pc2 := 203) dX7_spreadFrom_201 rfl rfl ?_
        obtain ⟨y19, k⟩ := k
        refine go_iaload (pc2 := 204) (j := (x6).toNatClampNeg) dX7_spreadFrom_203 rfl c_44 y19 rfl ?_
        refine go_aload_n (pc2 := 205) dX7_spreadFrom_204 rfl rfl rfl ?_
        refine gf_244 (pc2 := 208) rfl dX7_spreadFrom_205 rfl c_38 (fvs r_38_7) ?_
        refine go_iconst (pc2 := 209) (v := (1 : Int32)) dX7_spreadFrom_208 rfl (by decide) ?_
        refine go_aaload (pc2 := 210) (t := 3) dX7_spreadFrom_209 rfl (by decide) c_43 (vp_c rfl) rfl (rfo_s r_43_1) ?_
        refine go_iload (pc2 := 212) dX7_spreadFrom_210 rfl rfl ?_
        obtain ⟨y20, k⟩ := k
        refine go_iaload (pc2 := 213) (j := (x7).toNatClampNeg) dX7_spreadFrom_212 rfl c_45 y20 rfl ?_
        refine go_iadd (pc2 := 214) dX7_spreadFrom_213 rfl ?_
        refine go_aload_n (pc2 := 215) dX7_spreadFrom_214 rfl rfl rfl ?_
        refine gf_244 (pc2 := 218) rfl dX7_spreadFrom_215 rfl c_38 (fvs r_38_7) ?_
        refine go_iconst (pc2 := 219) (v := (2 : Int32)) dX7_spreadFrom_218 rfl (by decide) ?_
        refine go_aaload (pc2 := 220) (t := 3) dX7_spreadFrom_219 rfl (by decide) c_43 (vp_c rfl) rfl (rfo_s r_43_2) ?_
        refine go_iload (pc2 := 222) dX7_spreadFrom_220 rfl rfl ?_
        obtain ⟨y21, k⟩ := k
        refine go_iaload (pc2 := 223) (j := (x8).toNatClampNeg) dX7_spreadFrom_222 rfl c_46 y21 rfl ?_
        refine go_iadd (pc2 := 224) dX7_spreadFrom_223 rfl ?_
        refine go_istore (pc2 := 226) (ls2 := [(0, .ref 38), (1, .int x1), (2, .int x2), (3, .int x3), (4, .int x4), (5, .int x5), (6, .int x6), (7, .int x7), (8, .int x8), (9, .int (h.1 55 (((((9 : Int32) * (h.1 48 (x6).toNatClampNeg)) + ((3 : Int32) * (h.1 49 (x7).toNatClampNeg))) + (h.1 50 (x8).toNatClampNeg))).toNatClampNeg)), (10, .int ((((x6 &&& (1 : Int32)) <<< (v8 &&& 31)) ||| ((x7 &&& (1 : Int32)) <<< (v13 &&& 31))) ||| (x8 &&& (1 : Int32)))), (11, .int (((((x1 + ((h.1 55 (((((9 : Int32) * (h.1 48 (x6).toNatClampNeg)) + ((3 : Int32) * (h.1 49 (x7).toNatClampNeg))) + (h.1 50 (x8).toNatClampNeg))).toNatClampNeg) <<< ((15 : Int32) &&& 31))) + (h14.1 52 (x6).toNatClampNeg)) + (h14.1 53 (x7).toNatClampNeg)) + (h14.1 54 (x8).toNatClampNeg)) + (((((x6 &&& (1 : Int32)) <<< (v8 &&& 31)) ||| ((x7 &&& (1 : Int32)) <<< (v13 &&& 31))) ||| (x8 &&& (1 : Int32))) <<< (x2 &&& 31)))), (12, .int (((h14.1 44 (x6).toNatClampNeg) + (h14.1 45 (x7).toNatClampNeg)) + (h14.1 46 (x8).toNatClampNeg)))]) dX7_spreadFrom_224 rfl rfl rfl rfl rfl ?_
        refine go_aload_n (pc2 := 227) dX7_spreadFrom_226 rfl rfl rfl ?_
        obtain ⟨r22, q23, c24, k⟩ := k
        refine gf_249 (pc2 := 230) rfl dX7_spreadFrom_227 rfl c_38 (fvr q23) ?_
        refine go_iload (pc2 := 232) dX7_spreadFrom_230 rfl rfl ?_
        refine go_aload_n (pc2 := 233) dX7_spreadFrom_232 rfl rfl rfl ?_
        obtain ⟨r25, q26, c27, k⟩ := k
        refine gf_249 (pc2 := 236) rfl dX7_spreadFrom_233 rfl c_38 (fvr q26) ?_
        refine go_iload (pc2 := 238) dX7_spreadFrom_236 rfl rfl ?_
        obtain ⟨y28, k⟩ := k
        refine go_iaload (pc2 := 239) (j := ((((h14.1 44 (x6).toNatClampNeg) + (h14.1 45 (x7).toNatClampNeg)) + (h14.1 46 (x8).toNatClampNeg))).toNatClampNeg) dX7_spreadFrom_238 rfl c27 y28 rfl ?_
        refine go_iload (pc2 := 241) dX7_spreadFrom_239 rfl rfl ?_
        obtain ⟨Q29, hC30, k⟩ := k
        refine gcS_I (pc2 := 244) (dC := 0) (As := [.int (h14.1 r25 ((((h14.1 44 (x6).toNatClampNeg) + (h14.1 45 (x7).toNatClampNeg)) + (h14.1 46 (x8).toNatClampNeg))).toNatClampNeg), .int (((((x1 + ((h.1 55 (((((9 : Int32) * (h.1 48 (x6).toNatClampNeg)) + ((3 : Int32) * (h.1 49 (x7).toNatClampNeg))) + (h.1 50 (x8).toNatClampNeg))).toNatClampNeg) <<< ((15 : Int32) &&& 31))) + (h14.1 52 (x6).toNatClampNeg)) + (h14.1 53 (x7).toNatClampNeg)) + (h14.1 54 (x8).toNatClampNeg)) + (((((x6 &&& (1 : Int32)) <<< (v8 &&& 31)) ||| ((x7 &&& (1 : Int32)) <<< (v13 &&& 31))) ||| (x8 &&& (1 : Int32))) <<< (x2 &&& 31)))]) (st := [.int (((h14.1 44 (x6).toNatClampNeg) + (h14.1 45 (x7).toNatClampNeg)) + (h14.1 46 (x8).toNatClampNeg)), .ref r22]) rfl dX7_spreadFrom_241 rfl w_737 ok_J9_min_7cf53 w_640 rfl (by decide) (Nat.le_of_ble_eq_true rfl) hC30 (fun v31 h32 hq33 => ?_)
        have k := k v31 h32 hq33
        obtain ⟨y34, k⟩ := k
        refine go_iastore (pc2 := 245) (j := ((((h14.1 44 (x6).toNatClampNeg) + (h14.1 45 (x7).toNatClampNeg)) + (h14.1 46 (x8).toNatClampNeg))).toNatClampNeg) dX7_spreadFrom_244 rfl c24 y34 rfl ?_
        obtain ⟨g35, eg35⟩ : ∃ y : Hp, y = (ui h32 r22 ((((h14.1 44 (x6).toNatClampNeg) + (h14.1 45 (x7).toNatClampNeg)) + (h14.1 46 (x8).toNatClampNeg))).toNatClampNeg v31) := ⟨_, rfl⟩
        rw [← eg35]
        have k := k g35 eg35
        exact Go.pick [0, 1, 2, 3, 4, 5, 6, 7, 8] rfl k
      · have k := k.2 c
        refine go_goto (tgt := 245) dX7_spreadFrom_122 (by decide) ?_
        exact Go.pick [0, 1, 2, 3, 4, 5, 6, 7, 8] rfl k
theorem b_X7_spreadFrom_245 {x1 : Int32} {x2 : Int32} {x3 : Int32} {x4 : Int32} {x5 : Int32} {x6 : Int32} {x7 : Int32} {x8 : Int32} {h : Hp} {Q : Hp → Prop}  (k : GoV 1 mX7_spreadFrom 55 [(0, .ref 38), (1, .int x1), (2, .int x2), (3, .int x3), (4, .int x4), (5, .int x5), (6, .int x6), (7, .int x7), (8, .int (x8 + 1))] [] h Q) : GoV 1 mX7_spreadFrom 245 [(0, .ref 38), (1, .int x1), (2, .int x2), (3, .int x3), (4, .int x4), (5, .int x5), (6, .int x6), (7, .int x7), (8, .int x8)] [] h Q := by
  refine go_iinc (pc2 := 248) (ls2 := [(0, .ref 38), (1, .int x1), (2, .int x2), (3, .int x3), (4, .int x4), (5, .int x5), (6, .int x6), (7, .int x7), (8, .int (x8 + 1))]) (v := (x8 + 1)) dX7_spreadFrom_245 rfl rfl rfl rfl rfl rfl rfl ?_
  refine go_goto (tgt := 55) dX7_spreadFrom_248 (by decide) ?_
  exact k
