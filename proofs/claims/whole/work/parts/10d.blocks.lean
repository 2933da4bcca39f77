theorem e_X11_isIn {x0 : Int64} {x2 : Int64} {x4 : Int64} {h : Hp} {Q : Int32 → Hp → Prop}  (k : (((lg_cmp x0 x2) < 0 → Q (0 : Int32) h) ∧ (¬ ((lg_cmp x0 x2) < 0) → ((0 < (lg_cmp x0 x4) → Q (0 : Int32) h) ∧ (¬ (0 < (lg_cmp x0 x4)) → Q (1 : Int32) h))))) : CtI 0 mX11_isIn [.long x0, .long x2, .long x4] h Q := by
  refine Ct.of (by decide +kernel) (Nat.le_of_ble_eq_true rfl) ?_
  show GoI 0 mX11_isIn 0 [(0, .long x0), (2, .long x2), (4, .long x4)] [] h Q
  refine go_lload_n (pc2 := 1) dX11_isIn_0 rfl rfl rfl ?_
  refine go_lload_n (pc2 := 2) dX11_isIn_1 rfl rfl rfl ?_
  refine go_lcmp (pc2 := 3) dX11_isIn_2 rfl ?_
  refine go_if_lt (pc2 := 6) (tgt := 17) dX11_isIn_3 rfl (by decide) (fun c => ?_) (fun c => ?_)
  · have k := k.1 c
    refine go_iconst (pc2 := 18) (v := (0 : Int32)) dX11_isIn_17 rfl (by decide) ?_
    exact go_iret dX11_isIn_18 ⟨_, rfl, rfl⟩ ⟨rfl, _, rfl, k⟩
  · have k := k.2 c
    refine go_lload_n (pc2 := 7) dX11_isIn_6 rfl rfl rfl ?_
    refine go_lload (pc2 := 9) dX11_isIn_7 rfl rfl ?_
    refine go_lcmp (pc2 := 10) dX11_isIn_9 rfl ?_
    refine go_if_gt (pc2 := 13) (tgt := 17) dX11_isIn_10 rfl (by decide) (fun c => ?_) (fun c => ?_)
    · have k := k.1 c
      refine go_iconst (pc2 := 18) (v := (0 : Int32)) dX11_isIn_17 rfl (by decide) ?_
      exact go_iret dX11_isIn_18 ⟨_, rfl, rfl⟩ ⟨rfl, _, rfl, k⟩
    · have k := k.2 c
      refine go_iconst (pc2 := 14) (v := (1 : Int32)) dX11_isIn_13 rfl (by decide) ?_
      refine go_goto (tgt := 18) dX11_isIn_14 (by decide) ?_
      exact go_iret dX11_isIn_18 ⟨_, rfl, rfl⟩ ⟨rfl, _, rfl, k⟩
theorem e_X11_no {x1 : Int32} {h : Hp} {Q : Int32 → Hp → Prop}  (k : (vp_in (-x1) 7 ∧ (vp_in (-x1) 7 ∧ (∀ g3 : Hp, g3 = (ui h 117 ((-x1)).toNatClampNeg ((h.1 117 ((-x1)).toNatClampNeg) + (1 : Int32))) → Q x1 g3)))) : CtI 0 mX11_no [.ref 113, .int x1] h Q := by
  refine Ct.of (by decide +kernel) (Nat.le_of_ble_eq_true rfl) ?_
  show GoI 0 mX11_no 0 [(0, .ref 113), (1, .int x1)] [] h Q
  refine go_aload_n (pc2 := 1) dX11_no_0 rfl rfl rfl ?_
  refine gf_1062 (pc2 := 4) rfl dX11_no_1 rfl c_113 (fvs r_113_6) ?_
  refine go_iload_n (pc2 := 5) dX11_no_4 rfl rfl rfl ?_
  refine go_ineg (pc2 := 6) dX11_no_5 rfl ?_
  refine go_dup2 (pc2 := 7) dX11_no_6 rfl rfl rfl ?_
  obtain ⟨y1, k⟩ := k
  refine go_iaload (pc2 := 8) (j := ((-x1)).toNatClampNeg) dX11_no_7 rfl c_117 y1 rfl ?_
  refine go_iconst (pc2 := 9) (v := (1 : Int32)) dX11_no_8 rfl (by decide) ?_
  refine go_iadd (pc2 := 10) dX11_no_9 rfl ?_
  obtain ⟨y2, k⟩ := k
  refine go_iastore (pc2 := 11) (j := ((-x1)).toNatClampNeg) dX11_no_10 rfl c_117 y2 rfl ?_
  obtain ⟨g3, eg3⟩ : ∃ y : Hp, y = (ui h 117 ((-x1)).toNatClampNeg ((h.1 117 ((-x1)).toNatClampNeg) + (1 : Int32))) := ⟨_, rfl⟩
  rw [← eg3]
  have k := k g3 eg3
  refine go_iload_n (pc2 := 12) dX11_no_11 rfl rfl rfl ?_
  exact go_iret dX11_no_12 ⟨_, rfl, rfl⟩ ⟨rfl, _, rfl, k⟩
theorem e_X11_noWide {x1 : Int32} {h : Hp} {Q : Int64 → Hp → Prop}  (k : (∃ Q1, CtI 0 mX11_no [.ref 113, .int x1] h Q1 ∧ ∀ (v3 : Int32) (h4 : Hp), Q1 v3 h4 → Q ((4000000000000000000 : Int64) - (v3).toInt64) h4)) : CtL 1 mX11_noWide [.ref 113, .int x1] h Q := by
  refine Ct.of (by decide +kernel) (Nat.le_of_ble_eq_true rfl) ?_
  show GoL 1 mX11_noWide 0 [(0, .ref 113), (1, .int x1)] [] h Q
  refine go_ldc2 (pc2 := 3) dX11_noWide_0 rfl rfl w_1386 ?_
  refine go_aload_n (pc2 := 4) dX11_noWide_3 rfl rfl rfl ?_
  refine go_iload_n (pc2 := 5) dX11_noWide_4 rfl rfl rfl ?_
  obtain ⟨Q1, hC2, k⟩ := k
  refine gcV_I (pc2 := 8) (dC := 0) (As := [.int x1]) (st := [.long (4000000000000000000 : Int64)]) rfl dX11_noWide_5 rfl w_1161 ok_X11_no vi_X11_no c_113 (by decide) rfl rfl rfl (by decide) (Nat.le_of_ble_eq_true rfl) hC2 (fun v3 h4 hq5 => ?_)
  have k := k v3 h4 hq5
  refine go_i2l (pc2 := 9) dX11_noWide_8 rfl ?_
  refine go_lsub (pc2 := 10) dX11_noWide_9 rfl ?_
  exact go_lret dX11_noWide_10 rfl ⟨rfl, _, rfl, k⟩
theorem e_X11_keeps  {h : Hp} {Q : Hp → Prop}  (k : (∀ g1 : Hp, g1 = (uc h 115 (va_cpy (h.1 114) (h.1 115) 0 0 49)) → Q g1)) : CtV 1 mX11_keeps [.ref 113] h Q := by
  refine Ct.of (by decide +kernel) (Nat.le_of_ble_eq_true rfl) ?_
  show GoV 1 mX11_keeps 0 [(0, .ref 113)] [] h Q
  refine go_aload_n (pc2 := 1) dX11_keeps_0 rfl rfl rfl ?_
  refine gf_1056 (pc2 := 4) rfl dX11_keeps_1 rfl c_113 (fvs r_113_0) ?_
  refine go_iconst (pc2 := 5) (v := (0 : Int32)) dX11_keeps_4 rfl (by decide) ?_
  refine go_aload_n (pc2 := 6) dX11_keeps_5 rfl rfl rfl ?_
  refine gf_1057 (pc2 := 9) rfl dX11_keeps_6 rfl c_113 (fvs r_113_1) ?_
  refine go_iconst (pc2 := 10) (v := (0 : Int32)) dX11_keeps_9 rfl (by decide) ?_
  refine go_bipush (pc2 := 12) (v := (49 : Int32)) dX11_keeps_10 rfl (by decide) ?_
  refine go_copyi (pc2 := 15) rfl dX11_keeps_12 rfl fin_w0 w_1449 w_431 w_430 w_13 (by decide) (Nat.le_of_ble_eq_true rfl) c_114 c_115 (by decide) (by decide) (by decide) (by decide : _ = 0) (by decide : _ = 0) (by decide : _ = 49) (by decide) (by decide) ?_
  obtain ⟨g1, eg1⟩ : ∃ y : Hp, y = (uc h 115 (va_cpy (h.1 114) (h.1 115) 0 0 49)) := ⟨_, rfl⟩
  rw [← eg1]
  have k := k g1 eg1
  exact go_ret dX11_keeps_15 rfl ⟨rfl, rfl, k⟩
theorem e_X11_laysBack  {h : Hp} {Q : Hp → Prop}  (k : (∀ g1 : Hp, g1 = (uc h 114 (va_cpy (h.1 115) (h.1 114) 0 0 49)) → Q g1)) : CtV 1 mX11_laysBack [.ref 113] h Q := by
  refine Ct.of (by decide +kernel) (Nat.le_of_ble_eq_true rfl) ?_
  show GoV 1 mX11_laysBack 0 [(0, .ref 113)] [] h Q
  refine go_aload_n (pc2 := 1) dX11_laysBack_0 rfl rfl rfl ?_
  refine gf_1057 (pc2 := 4) rfl dX11_laysBack_1 rfl c_113 (fvs r_113_1) ?_
  refine go_iconst (pc2 := 5) (v := (0 : Int32)) dX11_laysBack_4 rfl (by decide) ?_
  refine go_aload_n (pc2 := 6) dX11_laysBack_5 rfl rfl rfl ?_
  refine gf_1056 (pc2 := 9) rfl dX11_laysBack_6 rfl c_113 (fvs r_113_0) ?_
  refine go_iconst (pc2 := 10) (v := (0 : Int32)) dX11_laysBack_9 rfl (by decide) ?_
  refine go_bipush (pc2 := 12) (v := (49 : Int32)) dX11_laysBack_10 rfl (by decide) ?_
  refine go_copyi (pc2 := 15) rfl dX11_laysBack_12 rfl fin_w0 w_1449 w_431 w_430 w_13 (by decide) (Nat.le_of_ble_eq_true rfl) c_115 c_114 (by decide) (by decide) (by decide) (by decide : _ = 0) (by decide : _ = 0) (by decide : _ = 49) (by decide) (by decide) ?_
  obtain ⟨g1, eg1⟩ : ∃ y : Hp, y = (uc h 114 (va_cpy (h.1 115) (h.1 114) 0 0 49)) := ⟨_, rfl⟩
  rw [← eg1]
  have k := k g1 eg1
  exact go_ret dX11_laysBack_15 rfl ⟨rfl, rfl, k⟩
theorem e_X11_isHour {x1 : Int32} {h : Hp} {Q : Int32 → Hp → Prop}  (k : (∃ Q1, CtI 0 mX11_isIn [.long (x1).toInt64, .long (0 : Int64), .long (((h.1 114 0) - (1 : Int32))).toInt64] h Q1 ∧ ∀ (v3 : Int32) (h4 : Hp), Q1 v3 h4 → (v3 &&& 1 = v3 ∧ Q v3 h4))) : CtI 1 mX11_isHour [.ref 113, .int x1] h Q := by
  refine Ct.of (by decide +kernel) (Nat.le_of_ble_eq_true rfl) ?_
  show GoI 1 mX11_isHour 0 [(0, .ref 113), (1, .int x1)] [] h Q
  refine go_iload_n (pc2 := 1) dX11_isHour_0 rfl rfl rfl ?_
  refine go_i2l (pc2 := 2) dX11_isHour_1 rfl ?_
  refine go_lconst (pc2 := 3) (v := (0 : Int64)) dX11_isHour_2 rfl (by decide) ?_
  refine go_aload_n (pc2 := 4) dX11_isHour_3 rfl rfl rfl ?_
  refine gf_1056 (pc2 := 7) rfl dX11_isHour_4 rfl c_113 (fvs r_113_0) ?_
  refine go_iconst (pc2 := 8) (v := (0 : Int32)) dX11_isHour_7 rfl (by decide) ?_
  refine go_iaload (pc2 := 9) (j := 0) dX11_isHour_8 rfl c_114 (vp_c rfl) rfl ?_
  refine go_iconst (pc2 := 10) (v := (1 : Int32)) dX11_isHour_9 rfl (by decide) ?_
  refine go_isub (pc2 := 11) dX11_isHour_10 rfl ?_
  refine go_i2l (pc2 := 12) dX11_isHour_11 rfl ?_
  obtain ⟨Q1, hC2, k⟩ := k
  refine gcS_I (pc2 := 15) (dC := 0) (As := [.long (x1).toInt64, .long (0 : Int64), .long (((h.1 114 0) - (1 : Int32))).toInt64]) (st := []) rfl dX11_isHour_12 rfl w_1177 ok_X11_isIn w_1178 rfl (by decide) (Nat.le_of_ble_eq_true rfl) hC2 (fun v3 h4 hq5 => ?_)
  have k := k v3 h4 hq5
  obtain ⟨y6, k⟩ := k
  exact go_iret dX11_isHour_15 ⟨_, rfl, congrArg Value.int y6⟩ ⟨rfl, _, rfl, k⟩
theorem e_X11_isPlant {x1 : Int32} {h : Hp} {Q : Int32 → Hp → Prop}  (k : (∃ Q1, CtI 0 mX11_isIn [.long (x1).toInt64, .long (0 : Int64), .long (((h.1 114 3) - (1 : Int32))).toInt64] h Q1 ∧ ∀ (v3 : Int32) (h4 : Hp), Q1 v3 h4 → (v3 &&& 1 = v3 ∧ Q v3 h4))) : CtI 1 mX11_isPlant [.ref 113, .int x1] h Q := by
  refine Ct.of (by decide +kernel) (Nat.le_of_ble_eq_true rfl) ?_
  show GoI 1 mX11_isPlant 0 [(0, .ref 113), (1, .int x1)] [] h Q
  refine go_iload_n (pc2 := 1) dX11_isPlant_0 rfl rfl rfl ?_
  refine go_i2l (pc2 := 2) dX11_isPlant_1 rfl ?_
  refine go_lconst (pc2 := 3) (v := (0 : Int64)) dX11_isPlant_2 rfl (by decide) ?_
  refine go_aload_n (pc2 := 4) dX11_isPlant_3 rfl rfl rfl ?_
  refine gf_1056 (pc2 := 7) rfl dX11_isPlant_4 rfl c_113 (fvs r_113_0) ?_
  refine go_iconst (pc2 := 8) (v := (3 : Int32)) dX11_isPlant_7 rfl (by decide) ?_
  refine go_iaload (pc2 := 9) (j := 3) dX11_isPlant_8 rfl c_114 (vp_c rfl) rfl ?_
  refine go_iconst (pc2 := 10) (v := (1 : Int32)) dX11_isPlant_9 rfl (by decide) ?_
  refine go_isub (pc2 := 11) dX11_isPlant_10 rfl ?_
  refine go_i2l (pc2 := 12) dX11_isPlant_11 rfl ?_
  obtain ⟨Q1, hC2, k⟩ := k
  refine gcS_I (pc2 := 15) (dC := 0) (As := [.long (x1).toInt64, .long (0 : Int64), .long (((h.1 114 3) - (1 : Int32))).toInt64]) (st := []) rfl dX11_isPlant_12 rfl w_1177 ok_X11_isIn w_1178 rfl (by decide) (Nat.le_of_ble_eq_true rfl) hC2 (fun v3 h4 hq5 => ?_)
  have k := k v3 h4 hq5
  obtain ⟨y6, k⟩ := k
  exact go_iret dX11_isPlant_15 ⟨_, rfl, congrArg Value.int y6⟩ ⟨rfl, _, rfl, k⟩
theorem e_X11_of1 {x1 : Int32} {x2 : Int32} {h : Hp} {Q : Int32 → Hp → Prop}  (k : (vp_in (((19 : Int32) + ((10 : Int32) * x1)) + x2) 49 ∧ Q (h.1 114 ((((19 : Int32) + ((10 : Int32) * x1)) + x2)).toNatClampNeg) h)) : CtI 0 mX11_of1 [.ref 113, .int x1, .int x2] h Q := by
  refine Ct.of (by decide +kernel) (Nat.le_of_ble_eq_true rfl) ?_
  show GoI 0 mX11_of1 0 [(0, .ref 113), (1, .int x1), (2, .int x2)] [] h Q
  refine go_aload_n (pc2 := 1) dX11_of1_0 rfl rfl rfl ?_
  refine gf_1056 (pc2 := 4) rfl dX11_of1_1 rfl c_113 (fvs r_113_0) ?_
  refine go_bipush (pc2 := 6) (v := (19 : Int32)) dX11_of1_4 rfl (by decide) ?_
  refine go_bipush (pc2 := 8) (v := (10 : Int32)) dX11_of1_6 rfl (by decide) ?_
  refine go_iload_n (pc2 := 9) dX11_of1_8 rfl rfl rfl ?_
  refine go_imul (pc2 := 10) dX11_of1_9 rfl ?_
  refine go_iadd (pc2 := 11) dX11_of1_10 rfl ?_
  refine go_iload_n (pc2 := 12) dX11_of1_11 rfl rfl rfl ?_
  refine go_iadd (pc2 := 13) dX11_of1_12 rfl ?_
  obtain ⟨y1, k⟩ := k
  refine go_iaload (pc2 := 14) (j := ((((19 : Int32) + ((10 : Int32) * x1)) + x2)).toNatClampNeg) dX11_of1_13 rfl c_114 y1 rfl ?_
  exact go_iret dX11_of1_14 ⟨_, rfl, rfl⟩ ⟨rfl, _, rfl, k⟩
theorem e_X11_sets {x1 : Int32} {x2 : Int32} {x3 : Int32} {h : Hp} {Q : Hp → Prop}  (k : (vp_in (((19 : Int32) + ((10 : Int32) * x1)) + x2) 49 ∧ (∀ g2 : Hp, g2 = (ui h 114 ((((19 : Int32) + ((10 : Int32) * x1)) + x2)).toNatClampNeg x3) → Q g2))) : CtV 0 mX11_sets [.ref 113, .int x1, .int x2, .int x3] h Q := by
  refine Ct.of (by decide +kernel) (Nat.le_of_ble_eq_true rfl) ?_
  show GoV 0 mX11_sets 0 [(0, .ref 113), (1, .int x1), (2, .int x2), (3, .int x3)] [] h Q
  refine go_aload_n (pc2 := 1) dX11_sets_0 rfl rfl rfl ?_
  refine gf_1056 (pc2 := 4) rfl dX11_sets_1 rfl c_113 (fvs r_113_0) ?_
  refine go_bipush (pc2 := 6) (v := (19 : Int32)) dX11_sets_4 rfl (by decide) ?_
  refine go_bipush (pc2 := 8) (v := (10 : Int32)) dX11_sets_6 rfl (by decide) ?_
  refine go_iload_n (pc2 := 9) dX11_sets_8 rfl rfl rfl ?_
  refine go_imul (pc2 := 10) dX11_sets_9 rfl ?_
  refine go_iadd (pc2 := 11) dX11_sets_10 rfl ?_
  refine go_iload_n (pc2 := 12) dX11_sets_11 rfl rfl rfl ?_
  refine go_iadd (pc2 := 13) dX11_sets_12 rfl ?_
  refine go_iload_n (pc2 := 14) dX11_sets_13 rfl rfl rfl ?_
  obtain ⟨y1, k⟩ := k
  refine go_iastore (pc2 := 15) (j := ((((19 : Int32) + ((10 : Int32) * x1)) + x2)).toNatClampNeg) dX11_sets_14 rfl c_114 y1 rfl ?_
  obtain ⟨g2, eg2⟩ : ∃ y : Hp, y = (ui h 114 ((((19 : Int32) + ((10 : Int32) * x1)) + x2)).toNatClampNeg x3) := ⟨_, rfl⟩
  rw [← eg2]
  have k := k g2 eg2
  exact go_ret dX11_sets_15 rfl ⟨rfl, rfl, k⟩
theorem e_X11_has {x0 : Int32} {x1 : Int32} {h : Hp} {Q : Int32 → Hp → Prop}  (k : Q (if ((x0 >>> (x1 &&& 31)) &&& (1 : Int32)) = (1 : Int32) then (1 : Int32) else (0 : Int32)) h) : CtI 0 mX11_has [.int x0, .int x1] h Q := by
  refine Ct.of (by decide +kernel) (Nat.le_of_ble_eq_true rfl) ?_
  show GoI 0 mX11_has 0 [(0, .int x0), (1, .int x1)] [] h Q
  refine go_iload_n (pc2 := 1) dX11_has_0 rfl rfl rfl ?_
  refine go_iload_n (pc2 := 2) dX11_has_1 rfl rfl rfl ?_
  refine go_ishr (pc2 := 3) dX11_has_2 rfl ?_
  refine go_iconst (pc2 := 4) (v := (1 : Int32)) dX11_has_3 rfl (by decide) ?_
  refine go_iand (pc2 := 5) dX11_has_4 rfl ?_
  refine go_iconst (pc2 := 6) (v := (1 : Int32)) dX11_has_5 rfl (by decide) ?_
  have J : GoI 0 mX11_has 14 [(0, .int x0), (1, .int x1)] [.int (if ((x0 >>> (x1 &&& 31)) &&& (1 : Int32)) = (1 : Int32) then (1 : Int32) else (0 : Int32))] h Q := by
    exact go_iret dX11_has_14 ⟨_, rfl, congrArg Value.int ite_b⟩ ⟨rfl, _, rfl, k⟩
  refine go_icmp_ne (pc2 := 9) (tgt := 13) dX11_has_6 rfl (by decide) (fun c => ?_) (fun c => ?_)
  · rw [if_neg c] at J
    exact go_iconst (pc2 := 14) dX11_has_13 rfl (by decide) J
  · rw [if_pos c] at J
    exact go_iconst (pc2 := 10) dX11_has_9 rfl (by decide) (go_goto (tgt := 14) dX11_has_10 (by decide) J)
theorem e_X11_wrongBy {x0 : Int32} {x1 : Int32} {x2 : Int32} {h : Hp} {Q : Int32 → Hp → Prop}  (k : ((x1 ≤ x0 → ((x0 ≤ x2 → Q (0 : Int32) h) ∧ (¬ (x0 ≤ x2) → Q (-6 : Int32) h))) ∧ (¬ (x1 ≤ x0) → Q (-4 : Int32) h))) : CtI 0 mX11_wrongBy [.int x0, .int x1, .int x2] h Q := by
  refine Ct.of (by decide +kernel) (Nat.le_of_ble_eq_true rfl) ?_
  show GoI 0 mX11_wrongBy 0 [(0, .int x0), (1, .int x1), (2, .int x2)] [] h Q
  refine go_iload_n (pc2 := 1) dX11_wrongBy_0 rfl rfl rfl ?_
  refine go_iload_n (pc2 := 2) dX11_wrongBy_1 rfl rfl rfl ?_
  refine go_icmp_ge (pc2 := 5) (tgt := 10) dX11_wrongBy_2 rfl (by decide) (fun c => ?_) (fun c => ?_)
  · have k := k.1 c
    refine go_iload_n (pc2 := 11) dX11_wrongBy_10 rfl rfl rfl ?_
    refine go_iload_n (pc2 := 12) dX11_wrongBy_11 rfl rfl rfl ?_
    refine go_icmp_le (pc2 := 15) (tgt := 20) dX11_wrongBy_12 rfl (by decide) (fun c => ?_) (fun c => ?_)
    · have k := k.1 c
      refine go_iconst (pc2 := 21) (v := (0 : Int32)) dX11_wrongBy_20 rfl (by decide) ?_
      exact go_iret dX11_wrongBy_21 ⟨_, rfl, rfl⟩ ⟨rfl, _, rfl, k⟩
    · have k := k.2 c
      refine go_bipush (pc2 := 17) (v := (-6 : Int32)) dX11_wrongBy_15 rfl (by decide) ?_
      refine go_goto (tgt := 21) dX11_wrongBy_17 (by decide) ?_
      exact go_iret dX11_wrongBy_21 ⟨_, rfl, rfl⟩ ⟨rfl, _, rfl, k⟩
  · have k := k.2 c
    refine go_bipush (pc2 := 7) (v := (-4 : Int32)) dX11_wrongBy_5 rfl (by decide) ?_
    refine go_goto (tgt := 21) dX11_wrongBy_7 (by decide) ?_
    exact go_iret dX11_wrongBy_21 ⟨_, rfl, rfl⟩ ⟨rfl, _, rfl, k⟩
theorem e_X11_wrongOf {x0 : Int32} {x1 : Int32} {x2 : Int32} {x3 : Int32} {x4 : Int32} {x5 : Int32} {h : Hp} {Q : Int32 → Hp → Prop}  (k : ((x0 < x1 → Q (-4 : Int32) h) ∧ (¬ (x0 < x1) → ((x4 ≤ x3 → ((x2 < x0 → Q (-6 : Int32) h) ∧ (¬ (x2 < x0) → ((x3 ≤ x5 → Q (0 : Int32) h) ∧ (¬ (x3 ≤ x5) → Q (-6 : Int32) h))))) ∧ (¬ (x4 ≤ x3) → Q (-4 : Int32) h))))) : CtI 0 mX11_wrongOf [.int x0, .int x1, .int x2, .int x3, .int x4, .int x5] h Q := by
  refine Ct.of (by decide +kernel) (Nat.le_of_ble_eq_true rfl) ?_
  show GoI 0 mX11_wrongOf 0 [(0, .int x0), (1, .int x1), (2, .int x2), (3, .int x3), (4, .int x4), (5, .int x5)] [] h Q
  refine go_iload_n (pc2 := 1) dX11_wrongOf_0 rfl rfl rfl ?_
  refine go_iload_n (pc2 := 2) dX11_wrongOf_1 rfl rfl rfl ?_
  refine go_icmp_lt (pc2 := 5) (tgt := 11) dX11_wrongOf_2 rfl (by decide) (fun c => ?_) (fun c => ?_)
  · have k := k.1 c
    refine go_bipush (pc2 := 13) (v := (-4 : Int32)) dX11_wrongOf_11 rfl (by decide) ?_
    exact go_iret dX11_wrongOf_13 ⟨_, rfl, rfl⟩ ⟨rfl, _, rfl, k⟩
  · have k := k.2 c
    refine go_iload_n (pc2 := 6) dX11_wrongOf_5 rfl rfl rfl ?_
    refine go_iload (pc2 := 8) dX11_wrongOf_6 rfl rfl ?_
    refine go_icmp_ge (pc2 := 11) (tgt := 14) dX11_wrongOf_8 rfl (by decide) (fun c => ?_) (fun c => ?_)
    · have k := k.1 c
      refine go_iload_n (pc2 := 15) dX11_wrongOf_14 rfl rfl rfl ?_
      refine go_iload_n (pc2 := 16) dX11_wrongOf_15 rfl rfl rfl ?_
      refine go_icmp_gt (pc2 := 19) (tgt := 25) dX11_wrongOf_16 rfl (by decide) (fun c => ?_) (fun c => ?_)
      · have k := k.1 c
        refine go_bipush (pc2 := 27) (v := (-6 : Int32)) dX11_wrongOf_25 rfl (by decide) ?_
        refine go_goto (tgt := 31) dX11_wrongOf_27 (by decide) ?_
        exact go_iret dX11_wrongOf_31 ⟨_, rfl, rfl⟩ ⟨rfl, _, rfl, k⟩
      · have k := k.2 c
        refine go_iload_n (pc2 := 20) dX11_wrongOf_19 rfl rfl rfl ?_
        refine go_iload (pc2 := 22) dX11_wrongOf_20 rfl rfl ?_
        refine go_icmp_le (pc2 := 25) (tgt := 30) dX11_wrongOf_22 rfl (by decide) (fun c => ?_) (fun c => ?_)
        · have k := k.1 c
          refine go_iconst (pc2 := 31) (v := (0 : Int32)) dX11_wrongOf_30 rfl (by decide) ?_
          exact go_iret dX11_wrongOf_31 ⟨_, rfl, rfl⟩ ⟨rfl, _, rfl, k⟩
        · have k := k.2 c
          refine go_bipush (pc2 := 27) (v := (-6 : Int32)) dX11_wrongOf_25 rfl (by decide) ?_
          refine go_goto (tgt := 31) dX11_wrongOf_27 (by decide) ?_
          exact go_iret dX11_wrongOf_31 ⟨_, rfl, rfl⟩ ⟨rfl, _, rfl, k⟩
    · have k := k.2 c
      refine go_bipush (pc2 := 13) (v := (-4 : Int32)) dX11_wrongOf_11 rfl (by decide) ?_
      exact go_iret dX11_wrongOf_13 ⟨_, rfl, rfl⟩ ⟨rfl, _, rfl, k⟩
theorem e_X11_hoursWrong {x1 : Int32} {h : Hp} {Q : Int32 → Hp → Prop}  (k : (∃ Q1, CtI 0 mX11_wrongBy [.int x1, .int (1 : Int32), .int (5 : Int32)] h Q1 ∧ ∀ (v3 : Int32) (h4 : Hp), Q1 v3 h4 → Q v3 h4)) : CtI 1 mX11_hoursWrong [.ref 113, .int x1] h Q := by
  refine Ct.of (by decide +kernel) (Nat.le_of_ble_eq_true rfl) ?_
  show GoI 1 mX11_hoursWrong 0 [(0, .ref 113), (1, .int x1)] [] h Q
  refine go_iload_n (pc2 := 1) dX11_hoursWrong_0 rfl rfl rfl ?_
  refine go_iconst (pc2 := 2) (v := (1 : Int32)) dX11_hoursWrong_1 rfl (by decide) ?_
  refine go_iconst (pc2 := 3) (v := (5 : Int32)) dX11_hoursWrong_2 rfl (by decide) ?_
  obtain ⟨Q1, hC2, k⟩ := k
  refine gcS_I (pc2 := 6) (dC := 0) (As := [.int x1, .int (1 : Int32), .int (5 : Int32)]) (st := []) rfl dX11_hoursWrong_3 rfl w_1158 ok_X11_wrongBy w_1159 rfl (by decide) (Nat.le_of_ble_eq_true rfl) hC2 (fun v3 h4 hq5 => ?_)
  have k := k v3 h4 hq5
  exact go_iret dX11_hoursWrong_6 ⟨_, rfl, rfl⟩ ⟨rfl, _, rfl, k⟩
theorem e_X11_hours {x1 : Int32} {h : Hp} {Q : Int32 → Hp → Prop}  (k : (∃ Q1, CtI 1 mX11_hoursWrong [.ref 113, .int x1] h Q1 ∧ ∀ (v3 : Int32) (h4 : Hp), Q1 v3 h4 → ((v3 = 0 → (∀ g6 : Hp, g6 = (ui h4 114 0 x1) → Q (h4.1 114 0) g6)) ∧ (¬ v3 = 0 → (∃ Q7, CtI 0 mX11_no [.ref 113, .int v3] h4 Q7 ∧ ∀ (v9 : Int32) (h10 : Hp), Q7 v9 h10 → Q v9 h10))))) : CtI 2 mX11_hours [.ref 113, .int x1] h Q := by
  refine Ct.of (by decide +kernel) (Nat.le_of_ble_eq_true rfl) ?_
  show GoI 2 mX11_hours 0 [(0, .ref 113), (1, .int x1)] [] h Q
  refine go_aload_n (pc2 := 1) dX11_hours_0 rfl rfl rfl ?_
  refine go_iload_n (pc2 := 2) dX11_hours_1 rfl rfl rfl ?_
  obtain ⟨Q1, hC2, k⟩ := k
  refine gcV_I (pc2 := 5) (dC := 1) (As := [.int x1]) (st := []) rfl dX11_hours_2 rfl w_1154 ok_X11_hoursWrong vi_X11_hoursWrong c_113 (by decide) rfl rfl rfl (by decide) (Nat.le_of_ble_eq_true rfl) hC2 (fun v3 h4 hq5 => ?_)
  have k := k v3 h4 hq5
  refine go_istore_n (pc2 := 6) (ls2 := [(0, .ref 113), (1, .int x1), (2, .int v3)]) dX11_hours_5 rfl rfl rfl rfl rfl rfl ?_
  refine go_iload_n (pc2 := 7) dX11_hours_6 rfl rfl rfl ?_
  refine go_if_eq (pc2 := 10) (tgt := 16) dX11_hours_7 rfl (by decide) (fun c => ?_) (fun c => ?_)
  · have k := k.1 c
    refine go_aload_n (pc2 := 17) dX11_hours_16 rfl rfl rfl ?_
    refine gf_1056 (pc2 := 20) rfl dX11_hours_17 rfl c_113 (fvs r_113_0) ?_
    refine go_iconst (pc2 := 21) (v := (0 : Int32)) dX11_hours_20 rfl (by decide) ?_
    refine go_iaload (pc2 := 22) (j := 0) dX11_hours_21 rfl c_114 (vp_c rfl) rfl ?_
    refine go_istore_n (pc2 := 23) (ls2 := [(0, .ref 113), (1, .int x1), (2, .int v3), (3, .int (h4.1 114 0))]) dX11_hours_22 rfl rfl rfl rfl rfl rfl ?_
    refine go_aload_n (pc2 := 24) dX11_hours_23 rfl rfl rfl ?_
    refine gf_1056 (pc2 := 27) rfl dX11_hours_24 rfl c_113 (fvs r_113_0) ?_
    refine go_iconst (pc2 := 28) (v := (0 : Int32)) dX11_hours_27 rfl (by decide) ?_
    refine go_iload_n (pc2 := 29) dX11_hours_28 rfl rfl rfl ?_
    refine go_iastore (pc2 := 30) (j := 0) dX11_hours_29 rfl c_114 (vp_c rfl) rfl ?_
    obtain ⟨g6, eg6⟩ : ∃ y : Hp, y = (ui h4 114 0 x1) := ⟨_, rfl⟩
    rw [← eg6]
    have k := k g6 eg6
    refine go_iload_n (pc2 := 31) dX11_hours_30 rfl rfl rfl ?_
    exact go_iret dX11_hours_31 ⟨_, rfl, rfl⟩ ⟨rfl, _, rfl, k⟩
  · have k := k.2 c
    refine go_aload_n (pc2 := 11) dX11_hours_10 rfl rfl rfl ?_
    refine go_iload_n (pc2 := 12) dX11_hours_11 rfl rfl rfl ?_
    obtain ⟨Q7, hC8, k⟩ := k
    refine gcV_I (pc2 := 15) (dC := 0) (As := [.int v3]) (st := []) rfl dX11_hours_12 rfl w_1161 ok_X11_no vi_X11_no c_113 (by decide) rfl rfl rfl (by decide) (Nat.le_of_ble_eq_true rfl) hC8 (fun v9 h10 hq11 => ?_)
    have k := k v9 h10 hq11
    exact go_iret dX11_hours_15 ⟨_, rfl, rfl⟩ ⟨rfl, _, rfl, k⟩
theorem e_X11_demandWrong {x1 : Int32} {x2 : Int32} {x3 : Int32} {h : Hp} {Q : Int32 → Hp → Prop}  (k : (∃ Q1, CtI 1 mX11_isHour [.ref 113, .int x1] h Q1 ∧ ∀ (v3 : Int32) (h4 : Hp), Q1 v3 h4 → ((v3 = 0 → Q (-1 : Int32) h4) ∧ (¬ v3 = 0 → (∃ Q6, CtI 0 mX11_wrongOf [.int x2, .int (0 : Int32), .int (99 : Int32), .int x3, .int (0 : Int32), .int (20 : Int32)] h4 Q6 ∧ ∀ (v8 : Int32) (h9 : Hp), Q6 v8 h9 → Q v8 h9))))) : CtI 2 mX11_demandWrong [.ref 113, .int x1, .int x2, .int x3] h Q := by
  refine Ct.of (by decide +kernel) (Nat.le_of_ble_eq_true rfl) ?_
  show GoI 2 mX11_demandWrong 0 [(0, .ref 113), (1, .int x1), (2, .int x2), (3, .int x3)] [] h Q
  refine go_aload_n (pc2 := 1) dX11_demandWrong_0 rfl rfl rfl ?_
  refine go_iload_n (pc2 := 2) dX11_demandWrong_1 rfl rfl rfl ?_
  obtain ⟨Q1, hC2, k⟩ := k
  refine gcV_I (pc2 := 5) (dC := 1) (As := [.int x1]) (st := []) rfl dX11_demandWrong_2 rfl w_1173 ok_X11_isHour vi_X11_isHour c_113 (by decide) rfl rfl rfl (by decide) (Nat.le_of_ble_eq_true rfl) hC2 (fun v3 h4 hq5 => ?_)
  have k := k v3 h4 hq5
  refine go_if_eq (pc2 := 8) (tgt := 22) dX11_demandWrong_5 rfl (by decide) (fun c => ?_) (fun c => ?_)
  · have k := k.1 c
    refine go_iconst (pc2 := 23) (v := (-1 : Int32)) dX11_demandWrong_22 rfl (by decide) ?_
    exact go_iret dX11_demandWrong_23 ⟨_, rfl, rfl⟩ ⟨rfl, _, rfl, k⟩
  · have k := k.2 c
    refine go_iload_n (pc2 := 9) dX11_demandWrong_8 rfl rfl rfl ?_
    refine go_iconst (pc2 := 10) (v := (0 : Int32)) dX11_demandWrong_9 rfl (by decide) ?_
    refine go_bipush (pc2 := 12) (v := (99 : Int32)) dX11_demandWrong_10 rfl (by decide) ?_
    refine go_iload_n (pc2 := 13) dX11_demandWrong_12 rfl rfl rfl ?_
    refine go_iconst (pc2 := 14) (v := (0 : Int32)) dX11_demandWrong_13 rfl (by decide) ?_
    refine go_bipush (pc2 := 16) (v := (20 : Int32)) dX11_demandWrong_14 rfl (by decide) ?_
    obtain ⟨Q6, hC7, k⟩ := k
    refine gcS_I (pc2 := 19) (dC := 0) (As := [.int x2, .int (0 : Int32), .int (99 : Int32), .int x3, .int (0 : Int32), .int (20 : Int32)]) (st := []) rfl dX11_demandWrong_16 rfl w_1180 ok_X11_wrongOf w_1181 rfl (by decide) (Nat.le_of_ble_eq_true rfl) hC7 (fun v8 h9 hq10 => ?_)
    have k := k v8 h9 hq10
    refine go_goto (tgt := 23) dX11_demandWrong_19 (by decide) ?_
    exact go_iret dX11_demandWrong_23 ⟨_, rfl, rfl⟩ ⟨rfl, _, rfl, k⟩
theorem e_X11_demand {x1 : Int32} {x2 : Int32} {x3 : Int32} {h : Hp} {Q : Int32 → Hp → Prop}  (k : (∃ Q1, CtI 2 mX11_demandWrong [.ref 113, .int x1, .int x2, .int x3] h Q1 ∧ ∀ (v3 : Int32) (h4 : Hp), Q1 v3 h4 → ((v3 = 0 → (vp_in ((4 : Int32) + x1) 49 ∧ (vp_in ((9 : Int32) + x1) 49 ∧ (vp_in ((4 : Int32) + x1) 49 ∧ (∀ g9 : Hp, g9 = (ui h4 114 (((4 : Int32) + x1)).toNatClampNeg x2) → (vp_in ((9 : Int32) + x1) 49 ∧ (∀ g11 : Hp, g11 = (ui g9 114 (((9 : Int32) + x1)).toNatClampNeg x3) → Q (((100 : Int32) * (h4.1 114 (((4 : Int32) + x1)).toNatClampNeg)) + (h4.1 114 (((9 : Int32) + x1)).toNatClampNeg)) g11))))))) ∧ (¬ v3 = 0 → (∃ Q12, CtI 0 mX11_no [.ref 113, .int v3] h4 Q12 ∧ ∀ (v14 : Int32) (h15 : Hp), Q12 v14 h15 → Q v14 h15))))) : CtI 3 mX11_demand [.ref 113, .int x1, .int x2, .int x3] h Q := by
  refine Ct.of (by decide +kernel) (Nat.le_of_ble_eq_true rfl) ?_
  show GoI 3 mX11_demand 0 [(0, .ref 113), (1, .int x1), (2, .int x2), (3, .int x3)] [] h Q
  refine go_aload_n (pc2 := 1) dX11_demand_0 rfl rfl rfl ?_
  refine go_iload_n (pc2 := 2) dX11_demand_1 rfl rfl rfl ?_
  refine go_iload_n (pc2 := 3) dX11_demand_2 rfl rfl rfl ?_
  refine go_iload_n (pc2 := 4) dX11_demand_3 rfl rfl rfl ?_
  obtain ⟨Q1, hC2, k⟩ := k
  refine gcV_I (pc2 := 7) (dC := 2) (As := [.int x1, .int x2, .int x3]) (st := []) rfl dX11_demand_4 rfl w_1169 ok_X11_demandWrong vi_X11_demandWrong c_113 (by decide) rfl rfl rfl (by decide) (Nat.le_of_ble_eq_true rfl) hC2 (fun v3 h4 hq5 => ?_)
  have k := k v3 h4 hq5
  refine go_istore (pc2 := 9) (ls2 := [(0, .ref 113), (1, .int x1), (2, .int x2), (3, .int x3), (4, .int v3)]) dX11_demand_7 rfl rfl rfl rfl rfl ?_
  refine go_iload (pc2 := 11) dX11_demand_9 rfl rfl ?_
  refine go_if_eq (pc2 := 14) (tgt := 21) dX11_demand_11 rfl (by decide) (fun c => ?_) (fun c => ?_)
  · have k := k.1 c
    refine go_bipush (pc2 := 23) (v := (100 : Int32)) dX11_demand_21 rfl (by decide) ?_
    refine go_aload_n (pc2 := 24) dX11_demand_23 rfl rfl rfl ?_
    refine gf_1056 (pc2 := 27) rfl dX11_demand_24 rfl c_113 (fvs r_113_0) ?_
    refine go_iconst (pc2 := 28) (v := (4 : Int32)) dX11_demand_27 rfl (by decide) ?_
    refine go_iload_n (pc2 := 29) dX11_demand_28 rfl rfl rfl ?_
    refine go_iadd (pc2 := 30) dX11_demand_29 rfl ?_
    obtain ⟨y6, k⟩ := k
    refine go_iaload (pc2 := 31) (j := (((4 : Int32) + x1)).toNatClampNeg) dX11_demand_30 rfl c_114 y6 rfl ?_
    refine go_imul (pc2 := 32) dX11_demand_31 rfl ?_
    refine go_aload_n (pc2 := 33) dX11_demand_32 rfl rfl rfl ?_
    refine gf_1056 (pc2 := 36) rfl dX11_demand_33 rfl c_113 (fvs r_113_0) ?_
    refine go_bipush (pc2 := 38) (v := (9 : Int32)) dX11_demand_36 rfl (by decide) ?_
    refine go_iload_n (pc2 := 39) dX11_demand_38 rfl rfl rfl ?_
    refine go_iadd (pc2 := 40) dX11_demand_39 rfl ?_
    obtain ⟨y7, k⟩ := k
    refine go_iaload (pc2 := 41) (j := (((9 : Int32) + x1)).toNatClampNeg) dX11_demand_40 rfl c_114 y7 rfl ?_
    refine go_iadd (pc2 := 42) dX11_demand_41 rfl ?_
    refine go_istore (pc2 := 44) (ls2 := [(0, .ref 113), (1, .int x1), (2, .int x2), (3, .int x3), (4, .int v3), (5, .int (((100 : Int32) * (h4.1 114 (((4 : Int32) + x1)).toNatClampNeg)) + (h4.1 114 (((9 : Int32) + x1)).toNatClampNeg)))]) dX11_demand_42 rfl rfl rfl rfl rfl ?_
    refine go_aload_n (pc2 := 45) dX11_demand_44 rfl rfl rfl ?_
    refine gf_1056 (pc2 := 48) rfl dX11_demand_45 rfl c_113 (fvs r_113_0) ?_
    refine go_iconst (pc2 := 49) (v := (4 : Int32)) dX11_demand_48 rfl (by decide) ?_
    refine go_iload_n (pc2 := 50) dX11_demand_49 rfl rfl rfl ?_
    refine go_iadd (pc2 := 51) dX11_demand_50 rfl ?_
    refine go_iload_n (pc2 := 52) dX11_demand_51 rfl rfl rfl ?_
    obtain ⟨y8, k⟩ := k
    refine go_iastore (pc2 := 53) (j := (((4 : Int32) + x1)).toNatClampNeg) dX11_demand_52 rfl c_114 y8 rfl ?_
    obtain ⟨g9, eg9⟩ : ∃ y : Hp, y = (ui h4 114 (((4 : Int32) + x1)).toNatClampNeg x2) := ⟨_, rfl⟩
    rw [← eg9]
    have k := k g9 eg9
    refine go_aload_n (pc2 := 54) dX11_demand_53 rfl rfl rfl ?_
    refine gf_1056 (pc2 := 57) rfl dX11_demand_54 rfl c_113 (fvs r_113_0) ?_
    refine go_bipush (pc2 := 59) (v := (9 : Int32)) dX11_demand_57 rfl (by decide) ?_
    refine go_iload_n (pc2 := 60) dX11_demand_59 rfl rfl rfl ?_
    refine go_iadd (pc2 := 61) dX11_demand_60 rfl ?_
    refine go_iload_n (pc2 := 62) dX11_demand_61 rfl rfl rfl ?_
    obtain ⟨y10, k⟩ := k
    refine go_iastore (pc2 := 63) (j := (((9 : Int32) + x1)).toNatClampNeg) dX11_demand_62 rfl c_114 y10 rfl ?_
    obtain ⟨g11, eg11⟩ : ∃ y : Hp, y = (ui g9 114 (((9 : Int32) + x1)).toNatClampNeg x3) := ⟨_, rfl⟩
    rw [← eg11]
    have k := k g11 eg11
    refine go_iload (pc2 := 65) dX11_demand_63 rfl rfl ?_
    exact go_iret dX11_demand_65 ⟨_, rfl, rfl⟩ ⟨rfl, _, rfl, k⟩
  · have k := k.2 c
    refine go_aload_n (pc2 := 15) dX11_demand_14 rfl rfl rfl ?_
    refine go_iload (pc2 := 17) dX11_demand_15 rfl rfl ?_
    obtain ⟨Q12, hC13, k⟩ := k
    refine gcV_I (pc2 := 20) (dC := 0) (As := [.int v3]) (st := []) rfl dX11_demand_17 rfl w_1161 ok_X11_no vi_X11_no c_113 (by decide) rfl rfl rfl (by decide) (Nat.le_of_ble_eq_true rfl) hC13 (fun v14 h15 hq16 => ?_)
    have k := k v14 h15 hq16
    exact go_iret dX11_demand_20 ⟨_, rfl, rfl⟩ ⟨rfl, _, rfl, k⟩
theorem e_X11_plantWrong {x1 : Int32} {x2 : Int32} {h : Hp} {Q : Int32 → Hp → Prop}  (k : (∃ Q1, CtI 0 mX11_isIn [.long (x1).toInt64, .long (0 : Int64), .long (5 : Int64)] h Q1 ∧ ∀ (v3 : Int32) (h4 : Hp), Q1 v3 h4 → ((¬ v3 = 0 → (∃ Q6, CtI 0 mX11_wrongBy [.int x2, .int (0 : Int32), .int (9 : Int32)] h4 Q6 ∧ ∀ (v8 : Int32) (h9 : Hp), Q6 v8 h9 → ((¬ v8 = 0 → Q v8 h9) ∧ (v8 = 0 → ((¬ (h9.1 114 3) = (3 : Int32) → Q v8 h9) ∧ ((h9.1 114 3) = (3 : Int32) → Q (-6 : Int32) h9)))))) ∧ (v3 = 0 → Q (-2 : Int32) h4)))) : CtI 1 mX11_plantWrong [.ref 113, .int x1, .int x2] h Q := by
  refine Ct.of (by decide +kernel) (Nat.le_of_ble_eq_true rfl) ?_
  show GoI 1 mX11_plantWrong 0 [(0, .ref 113), (1, .int x1), (2, .int x2)] [] h Q
  refine go_iload_n (pc2 := 1) dX11_plantWrong_0 rfl rfl rfl ?_
  refine go_i2l (pc2 := 2) dX11_plantWrong_1 rfl ?_
  refine go_lconst (pc2 := 3) (v := (0 : Int64)) dX11_plantWrong_2 rfl (by decide) ?_
  refine go_ldc2 (pc2 := 6) dX11_plantWrong_3 rfl rfl w_1191 ?_
  obtain ⟨Q1, hC2, k⟩ := k
  refine gcS_I (pc2 := 9) (dC := 0) (As := [.long (x1).toInt64, .long (0 : Int64), .long (5 : Int64)]) (st := []) rfl dX11_plantWrong_6 rfl w_1177 ok_X11_isIn w_1178 rfl (by decide) (Nat.le_of_ble_eq_true rfl) hC2 (fun v3 h4 hq5 => ?_)
  have k := k v3 h4 hq5
  refine go_if_ne (pc2 := 12) (tgt := 15) dX11_plantWrong_9 rfl (by decide) (fun c => ?_) (fun c => ?_)
  · have k := k.1 c
    refine go_iload_n (pc2 := 16) dX11_plantWrong_15 rfl rfl rfl ?_
    refine go_iconst (pc2 := 17) (v := (0 : Int32)) dX11_plantWrong_16 rfl (by decide) ?_
    refine go_bipush (pc2 := 19) (v := (9 : Int32)) dX11_plantWrong_17 rfl (by decide) ?_
    obtain ⟨Q6, hC7, k⟩ := k
    refine gcS_I (pc2 := 22) (dC := 0) (As := [.int x2, .int (0 : Int32), .int (9 : Int32)]) (st := []) rfl dX11_plantWrong_19 rfl w_1158 ok_X11_wrongBy w_1159 rfl (by decide) (Nat.le_of_ble_eq_true rfl) hC7 (fun v8 h9 hq10 => ?_)
    have k := k v8 h9 hq10
    refine go_istore_n (pc2 := 23) (ls2 := [(0, .ref 113), (1, .int x1), (2, .int x2), (3, .int v8)]) dX11_plantWrong_22 rfl rfl rfl rfl rfl rfl ?_
    refine go_iload_n (pc2 := 24) dX11_plantWrong_23 rfl rfl rfl ?_
    refine go_if_ne (pc2 := 27) (tgt := 42) dX11_plantWrong_24 rfl (by decide) (fun c => ?_) (fun c => ?_)
    · have k := k.1 c
      refine go_iload_n (pc2 := 43) dX11_plantWrong_42 rfl rfl rfl ?_
      exact go_iret dX11_plantWrong_43 ⟨_, rfl, rfl⟩ ⟨rfl, _, rfl, k⟩
    · have k := k.2 c
      refine go_aload_n (pc2 := 28) dX11_plantWrong_27 rfl rfl rfl ?_
      refine gf_1056 (pc2 := 31) rfl dX11_plantWrong_28 rfl c_113 (fvs r_113_0) ?_
      refine go_iconst (pc2 := 32) (v := (3 : Int32)) dX11_plantWrong_31 rfl (by decide) ?_
      refine go_iaload (pc2 := 33) (j := 3) dX11_plantWrong_32 rfl c_114 (vp_c rfl) rfl ?_
      refine go_iconst (pc2 := 34) (v := (3 : Int32)) dX11_plantWrong_33 rfl (by decide) ?_
      refine go_icmp_ne (pc2 := 37) (tgt := 42) dX11_plantWrong_34 rfl (by decide) (fun c => ?_) (fun c => ?_)
      · have k := k.1 c
        refine go_iload_n (pc2 := 43) dX11_plantWrong_42 rfl rfl rfl ?_
        exact go_iret dX11_plantWrong_43 ⟨_, rfl, rfl⟩ ⟨rfl, _, rfl, k⟩
      · have k := k.2 c
        refine go_bipush (pc2 := 39) (v := (-6 : Int32)) dX11_plantWrong_37 rfl (by decide) ?_
        refine go_goto (tgt := 43) dX11_plantWrong_39 (by decide) ?_
        exact go_iret dX11_plantWrong_43 ⟨_, rfl, rfl⟩ ⟨rfl, _, rfl, k⟩
  · have k := k.2 c
    refine go_bipush (pc2 := 14) (v := (-2 : Int32)) dX11_plantWrong_12 rfl (by decide) ?_
    exact go_iret dX11_plantWrong_14 ⟨_, rfl, rfl⟩ ⟨rfl, _, rfl, k⟩
theorem e_X11_adds {x1 : Int32} {x2 : Int32} {h : Hp} {Q : Int32 → Hp → Prop}  (k : (∃ Q1, CtV 0 mX11_sets [.ref 113, .int (h.1 114 3), .int (0 : Int32), .int x1] h Q1 ∧ ∀ h4 : Hp, Q1 h4 → (∃ Q6, CtV 0 mX11_sets [.ref 113, .int (h.1 114 3), .int (1 : Int32), .int x2] h4 Q6 ∧ ∀ h9 : Hp, Q6 h9 → (∃ Q11, CtV 0 mX11_sets [.ref 113, .int (h.1 114 3), .int (2 : Int32), .int (0 : Int32)] h9 Q11 ∧ ∀ h14 : Hp, Q11 h14 → (∃ Q16, CtV 0 mX11_sets [.ref 113, .int (h.1 114 3), .int (3 : Int32), .int (10 : Int32)] h14 Q16 ∧ ∀ h19 : Hp, Q16 h19 → (∃ Q21, CtV 0 mX11_sets [.ref 113, .int (h.1 114 3), .int (4 : Int32), .int (1 : Int32)] h19 Q21 ∧ ∀ h24 : Hp, Q21 h24 → (∃ Q26, CtV 0 mX11_sets [.ref 113, .int (h.1 114 3), .int (5 : Int32), .int (0 : Int32)] h24 Q26 ∧ ∀ h29 : Hp, Q26 h29 → (∃ Q31, CtV 0 mX11_sets [.ref 113, .int (h.1 114 3), .int (6 : Int32), .int (0 : Int32)] h29 Q31 ∧ ∀ h34 : Hp, Q31 h34 → (∃ Q36, CtV 0 mX11_sets [.ref 113, .int (h.1 114 3), .int (7 : Int32), .int (1 : Int32)] h34 Q36 ∧ ∀ h39 : Hp, Q36 h39 → (∃ Q41, CtV 0 mX11_sets [.ref 113, .int (h.1 114 3), .int (8 : Int32), .int (1 : Int32)] h39 Q41 ∧ ∀ h44 : Hp, Q41 h44 → (∃ Q46, CtV 0 mX11_sets [.ref 113, .int (h.1 114 3), .int (9 : Int32), .int (-1 : Int32)] h44 Q46 ∧ ∀ h49 : Hp, Q46 h49 → (∀ g51 : Hp, g51 = (ui h49 114 3 ((h49.1 114 3) + (1 : Int32))) → Q (h.1 114 3) g51)))))))))))) : CtI 1 mX11_adds [.ref 113, .int x1, .int x2] h Q := by
  refine Ct.of (by decide +kernel) (Nat.le_of_ble_eq_true rfl) ?_
  show GoI 1 mX11_adds 0 [(0, .ref 113), (1, .int x1), (2, .int x2)] [] h Q
  refine go_aload_n (pc2 := 1) dX11_adds_0 rfl rfl rfl ?_
  refine gf_1056 (pc2 := 4) rfl dX11_adds_1 rfl c_113 (fvs r_113_0) ?_
  refine go_iconst (pc2 := 5) (v := (3 : Int32)) dX11_adds_4 rfl (by decide) ?_
  refine go_iaload (pc2 := 6) (j := 3) dX11_adds_5 rfl c_114 (vp_c rfl) rfl ?_
  refine go_istore_n (pc2 := 7) (ls2 := [(0, .ref 113), (1, .int x1), (2, .int x2), (3, .int (h.1 114 3))]) dX11_adds_6 rfl rfl rfl rfl rfl rfl ?_
  refine go_aload_n (pc2 := 8) dX11_adds_7 rfl rfl rfl ?_
  refine go_iload_n (pc2 := 9) dX11_adds_8 rfl rfl rfl ?_
  refine go_iconst (pc2 := 10) (v := (0 : Int32)) dX11_adds_9 rfl (by decide) ?_
  refine go_iload_n (pc2 := 11) dX11_adds_10 rfl rfl rfl ?_
  obtain ⟨Q1, hC2, k⟩ := k
  refine gcV_V (pc2 := 14) (dC := 0) (As := [.int (h.1 114 3), .int (0 : Int32), .int x1]) (st := []) rfl dX11_adds_11 rfl w_1196 ok_X11_sets vi_X11_sets c_113 (by decide) rfl rfl rfl (by decide) (Nat.le_of_ble_eq_true rfl) hC2 (fun h4 hq5 => ?_)
  have k := k h4 hq5
  refine go_aload_n (pc2 := 15) dX11_adds_14 rfl rfl rfl ?_
  refine go_iload_n (pc2 := 16) dX11_adds_15 rfl rfl rfl ?_
  refine go_iconst (pc2 := 17) (v := (1 : Int32)) dX11_adds_16 rfl (by decide) ?_
  refine go_iload_n (pc2 := 18) dX11_adds_17 rfl rfl rfl ?_
  obtain ⟨Q6, hC7, k⟩ := k
  refine gcV_V (pc2 := 21) (dC := 0) (As := [.int (h.1 114 3), .int (1 : Int32), .int x2]) (st := []) rfl dX11_adds_18 rfl w_1196 ok_X11_sets vi_X11_sets c_113 (by decide) rfl rfl rfl (by decide) (Nat.le_of_ble_eq_true rfl) hC7 (fun h9 hq10 => ?_)
  have k := k h9 hq10
  refine go_aload_n (pc2 := 22) dX11_adds_21 rfl rfl rfl ?_
  refine go_iload_n (pc2 := 23) dX11_adds_22 rfl rfl rfl ?_
  refine go_iconst (pc2 := 24) (v := (2 : Int32)) dX11_adds_23 rfl (by decide) ?_
  refine go_iconst (pc2 := 25) (v := (0 : Int32)) dX11_adds_24 rfl (by decide) ?_
  obtain ⟨Q11, hC12, k⟩ := k
  refine gcV_V (pc2 := 28) (dC := 0) (As := [.int (h.1 114 3), .int (2 : Int32), .int (0 : Int32)]) (st := []) rfl dX11_adds_25 rfl w_1196 ok_X11_sets vi_X11_sets c_113 (by decide) rfl rfl rfl (by decide) (Nat.le_of_ble_eq_true rfl) hC12 (fun h14 hq15 => ?_)
  have k := k h14 hq15
  refine go_aload_n (pc2 := 29) dX11_adds_28 rfl rfl rfl ?_
  refine go_iload_n (pc2 := 30) dX11_adds_29 rfl rfl rfl ?_
  refine go_iconst (pc2 := 31) (v := (3 : Int32)) dX11_adds_30 rfl (by decide) ?_
  refine go_bipush (pc2 := 33) (v := (10 : Int32)) dX11_adds_31 rfl (by decide) ?_
  obtain ⟨Q16, hC17, k⟩ := k
  refine gcV_V (pc2 := 36) (dC := 0) (As := [.int (h.1 114 3), .int (3 : Int32), .int (10 : Int32)]) (st := []) rfl dX11_adds_33 rfl w_1196 ok_X11_sets vi_X11_sets c_113 (by decide) rfl rfl rfl (by decide) (Nat.le_of_ble_eq_true rfl) hC17 (fun h19 hq20 => ?_)
  have k := k h19 hq20
  refine go_aload_n (pc2 := 37) dX11_adds_36 rfl rfl rfl ?_
  refine go_iload_n (pc2 := 38) dX11_adds_37 rfl rfl rfl ?_
  refine go_iconst (pc2 := 39) (v := (4 : Int32)) dX11_adds_38 rfl (by decide) ?_
  refine go_iconst (pc2 := 40) (v := (1 : Int32)) dX11_adds_39 rfl (by decide) ?_
  obtain ⟨Q21, hC22, k⟩ := k
  refine gcV_V (pc2 := 43) (dC := 0) (As := [.int (h.1 114 3), .int (4 : Int32), .int (1 : Int32)]) (st := []) rfl dX11_adds_40 rfl w_1196 ok_X11_sets vi_X11_sets c_113 (by decide) rfl rfl rfl (by decide) (Nat.le_of_ble_eq_true rfl) hC22 (fun h24 hq25 => ?_)
  have k := k h24 hq25
  refine go_aload_n (pc2 := 44) dX11_adds_43 rfl rfl rfl ?_
  refine go_iload_n (pc2 := 45) dX11_adds_44 rfl rfl rfl ?_
  refine go_iconst (pc2 := 46) (v := (5 : Int32)) dX11_adds_45 rfl (by decide) ?_
  refine go_iconst (pc2 := 47) (v := (0 : Int32)) dX11_adds_46 rfl (by decide) ?_
  obtain ⟨Q26, hC27, k⟩ := k
  refine gcV_V (pc2 := 50) (dC := 0) (As := [.int (h.1 114 3), .int (5 : Int32), .int (0 : Int32)]) (st := []) rfl dX11_adds_47 rfl w_1196 ok_X11_sets vi_X11_sets c_113 (by decide) rfl rfl rfl (by decide) (Nat.le_of_ble_eq_true rfl) hC27 (fun h29 hq30 => ?_)
  have k := k h29 hq30
  refine go_aload_n (pc2 := 51) dX11_adds_50 rfl rfl rfl ?_
  refine go_iload_n (pc2 := 52) dX11_adds_51 rfl rfl rfl ?_
  refine go_bipush (pc2 := 54) (v := (6 : Int32)) dX11_adds_52 rfl (by decide) ?_
  refine go_iconst (pc2 := 55) (v := (0 : Int32)) dX11_adds_54 rfl (by decide) ?_
  obtain ⟨Q31, hC32, k⟩ := k
  refine gcV_V (pc2 := 58) (dC := 0) (As := [.int (h.1 114 3), .int (6 : Int32), .int (0 : Int32)]) (st := []) rfl dX11_adds_55 rfl w_1196 ok_X11_sets vi_X11_sets c_113 (by decide) rfl rfl rfl (by decide) (Nat.le_of_ble_eq_true rfl) hC32 (fun h34 hq35 => ?_)
  have k := k h34 hq35
  refine go_aload_n (pc2 := 59) dX11_adds_58 rfl rfl rfl ?_
  refine go_iload_n (pc2 := 60) dX11_adds_59 rfl rfl rfl ?_
  refine go_bipush (pc2 := 62) (v := (7 : Int32)) dX11_adds_60 rfl (by decide) ?_
  refine go_iconst (pc2 := 63) (v := (1 : Int32)) dX11_adds_62 rfl (by decide) ?_
  obtain ⟨Q36, hC37, k⟩ := k
  refine gcV_V (pc2 := 66) (dC := 0) (As := [.int (h.1 114 3), .int (7 : Int32), .int (1 : Int32)]) (st := []) rfl dX11_adds_63 rfl w_1196 ok_X11_sets vi_X11_sets c_113 (by decide) rfl rfl rfl (by decide) (Nat.le_of_ble_eq_true rfl) hC37 (fun h39 hq40 => ?_)
  have k := k h39 hq40
  refine go_aload_n (pc2 := 67) dX11_adds_66 rfl rfl rfl ?_
  refine go_iload_n (pc2 := 68) dX11_adds_67 rfl rfl rfl ?_
  refine go_bipush (pc2 := 70) (v := (8 : Int32)) dX11_adds_68 rfl (by decide) ?_
  refine go_iconst (pc2 := 71) (v := (1 : Int32)) dX11_adds_70 rfl (by decide) ?_
  obtain ⟨Q41, hC42, k⟩ := k
  refine gcV_V (pc2 := 74) (dC := 0) (As := [.int (h.1 114 3), .int (8 : Int32), .int (1 : Int32)]) (st := []) rfl dX11_adds_71 rfl w_1196 ok_X11_sets vi_X11_sets c_113 (by decide) rfl rfl rfl (by decide) (Nat.le_of_ble_eq_true rfl) hC42 (fun h44 hq45 => ?_)
  have k := k h44 hq45
  refine go_aload_n (pc2 := 75) dX11_adds_74 rfl rfl rfl ?_
  refine go_iload_n (pc2 := 76) dX11_adds_75 rfl rfl rfl ?_
  refine go_bipush (pc2 := 78) (v := (9 : Int32)) dX11_adds_76 rfl (by decide) ?_
  refine go_iconst (pc2 := 79) (v := (-1 : Int32)) dX11_adds_78 rfl (by decide) ?_
  obtain ⟨Q46, hC47, k⟩ := k
  refine gcV_V (pc2 := 82) (dC := 0) (As := [.int (h.1 114 3), .int (9 : Int32), .int (-1 : Int32)]) (st := []) rfl dX11_adds_79 rfl w_1196 ok_X11_sets vi_X11_sets c_113 (by decide) rfl rfl rfl (by decide) (Nat.le_of_ble_eq_true rfl) hC47 (fun h49 hq50 => ?_)
  have k := k h49 hq50
  refine go_aload_n (pc2 := 83) dX11_adds_82 rfl rfl rfl ?_
  refine gf_1056 (pc2 := 86) rfl dX11_adds_83 rfl c_113 (fvs r_113_0) ?_
  refine go_iconst (pc2 := 87) (v := (3 : Int32)) dX11_adds_86 rfl (by decide) ?_
  refine go_dup2 (pc2 := 88) dX11_adds_87 rfl rfl rfl ?_
  refine go_iaload (pc2 := 89) (j := 3) dX11_adds_88 rfl c_114 (vp_c rfl) rfl ?_
  refine go_iconst (pc2 := 90) (v := (1 : Int32)) dX11_adds_89 rfl (by decide) ?_
  refine go_iadd (pc2 := 91) dX11_adds_90 rfl ?_
  refine go_iastore (pc2 := 92) (j := 3) dX11_adds_91 rfl c_114 (vp_c rfl) rfl ?_
  obtain ⟨g51, eg51⟩ : ∃ y : Hp, y = (ui h49 114 3 ((h49.1 114 3) + (1 : Int32))) := ⟨_, rfl⟩
  rw [← eg51]
  have k := k g51 eg51
  refine go_iload_n (pc2 := 93) dX11_adds_92 rfl rfl rfl ?_
  exact go_iret dX11_adds_93 ⟨_, rfl, rfl⟩ ⟨rfl, _, rfl, k⟩
theorem e_X11_plant {x1 : Int32} {x2 : Int32} {h : Hp} {Q : Int32 → Hp → Prop}  (k : (∃ Q1, CtI 1 mX11_plantWrong [.ref 113, .int x1, .int x2] h Q1 ∧ ∀ (v3 : Int32) (h4 : Hp), Q1 v3 h4 → ((v3 = 0 → (∃ Q6, CtI 1 mX11_adds [.ref 113, .int x1, .int x2] h4 Q6 ∧ ∀ (v8 : Int32) (h9 : Hp), Q6 v8 h9 → Q v8 h9)) ∧ (¬ v3 = 0 → (∃ Q11, CtI 0 mX11_no [.ref 113, .int v3] h4 Q11 ∧ ∀ (v13 : Int32) (h14 : Hp), Q11 v13 h14 → Q v13 h14))))) : CtI 2 mX11_plant [.ref 113, .int x1, .int x2] h Q := by
  refine Ct.of (by decide +kernel) (Nat.le_of_ble_eq_true rfl) ?_
  show GoI 2 mX11_plant 0 [(0, .ref 113), (1, .int x1), (2, .int x2)] [] h Q
  refine go_aload_n (pc2 := 1) dX11_plant_0 rfl rfl rfl ?_
  refine go_iload_n (pc2 := 2) dX11_plant_1 rfl rfl rfl ?_
  refine go_iload_n (pc2 := 3) dX11_plant_2 rfl rfl rfl ?_
  obtain ⟨Q1, hC2, k⟩ := k
  refine gcV_I (pc2 := 6) (dC := 1) (As := [.int x1, .int x2]) (st := []) rfl dX11_plant_3 rfl w_1187 ok_X11_plantWrong vi_X11_plantWrong c_113 (by decide) rfl rfl rfl (by decide) (Nat.le_of_ble_eq_true rfl) hC2 (fun v3 h4 hq5 => ?_)
  have k := k v3 h4 hq5
  refine go_istore_n (pc2 := 7) (ls2 := [(0, .ref 113), (1, .int x1), (2, .int x2), (3, .int v3)]) dX11_plant_6 rfl rfl rfl rfl rfl rfl ?_
  refine go_iload_n (pc2 := 8) dX11_plant_7 rfl rfl rfl ?_
  refine go_if_eq (pc2 := 11) (tgt := 19) dX11_plant_8 rfl (by decide) (fun c => ?_) (fun c => ?_)
  · have k := k.1 c
    refine go_aload_n (pc2 := 20) dX11_plant_19 rfl rfl rfl ?_
    refine go_iload_n (pc2 := 21) dX11_plant_20 rfl rfl rfl ?_
    refine go_iload_n (pc2 := 22) dX11_plant_21 rfl rfl rfl ?_
    obtain ⟨Q6, hC7, k⟩ := k
    refine gcV_I (pc2 := 25) (dC := 1) (As := [.int x1, .int x2]) (st := []) rfl dX11_plant_22 rfl w_1192 ok_X11_adds vi_X11_adds c_113 (by decide) rfl rfl rfl (by decide) (Nat.le_of_ble_eq_true rfl) hC7 (fun v8 h9 hq10 => ?_)
    have k := k v8 h9 hq10
    exact go_iret dX11_plant_25 ⟨_, rfl, rfl⟩ ⟨rfl, _, rfl, k⟩
  · have k := k.2 c
    refine go_aload_n (pc2 := 12) dX11_plant_11 rfl rfl rfl ?_
    refine go_iload_n (pc2 := 13) dX11_plant_12 rfl rfl rfl ?_
    obtain ⟨Q11, hC12, k⟩ := k
    refine gcV_I (pc2 := 16) (dC := 0) (As := [.int v3]) (st := []) rfl dX11_plant_13 rfl w_1161 ok_X11_no vi_X11_no c_113 (by decide) rfl rfl rfl (by decide) (Nat.le_of_ble_eq_true rfl) hC12 (fun v13 h14 hq15 => ?_)
    have k := k v13 h14 hq15
    refine go_goto (tgt := 25) dX11_plant_16 (by decide) ?_
    exact go_iret dX11_plant_25 ⟨_, rfl, rfl⟩ ⟨rfl, _, rfl, k⟩
theorem e_X11_givesWrong {x1 : Int32} {x2 : Int32} {x3 : Int32} {h : Hp} {Q : Int32 → Hp → Prop}  (k : (∃ Q1, CtI 1 mX11_isPlant [.ref 113, .int x1] h Q1 ∧ ∀ (v3 : Int32) (h4 : Hp), Q1 v3 h4 → ((¬ v3 = 0 → (∃ Q6, CtI 0 mX11_wrongOf [.int x2, .int (0 : Int32), .int (30 : Int32), .int x3, .int (0 : Int32), .int (60 : Int32)] h4 Q6 ∧ ∀ (v8 : Int32) (h9 : Hp), Q6 v8 h9 → ((¬ v8 = 0 → Q v8 h9) ∧ (v8 = 0 → ((x2 ≤ x3 → Q v8 h9) ∧ (¬ (x2 ≤ x3) → Q (-3 : Int32) h9)))))) ∧ (v3 = 0 → Q (-1 : Int32) h4)))) : CtI 2 mX11_givesWrong [.ref 113, .int x1, .int x2, .int x3] h Q := by
  refine Ct.of (by decide +kernel) (Nat.le_of_ble_eq_true rfl) ?_
  show GoI 2 mX11_givesWrong 0 [(0, .ref 113), (1, .int x1), (2, .int x2), (3, .int x3)] [] h Q
  refine go_aload_n (pc2 := 1) dX11_givesWrong_0 rfl rfl rfl ?_
  refine go_iload_n (pc2 := 2) dX11_givesWrong_1 rfl rfl rfl ?_
  obtain ⟨Q1, hC2, k⟩ := k
  refine gcV_I (pc2 := 5) (dC := 1) (As := [.int x1]) (st := []) rfl dX11_givesWrong_2 rfl w_1208 ok_X11_isPlant vi_X11_isPlant c_113 (by decide) rfl rfl rfl (by decide) (Nat.le_of_ble_eq_true rfl) hC2 (fun v3 h4 hq5 => ?_)
  have k := k v3 h4 hq5
  refine go_if_ne (pc2 := 8) (tgt := 10) dX11_givesWrong_5 rfl (by decide) (fun c => ?_) (fun c => ?_)
  · have k := k.1 c
    refine go_iload_n (pc2 := 11) dX11_givesWrong_10 rfl rfl rfl ?_
    refine go_iconst (pc2 := 12) (v := (0 : Int32)) dX11_givesWrong_11 rfl (by decide) ?_
    refine go_bipush (pc2 := 14) (v := (30 : Int32)) dX11_givesWrong_12 rfl (by decide) ?_
    refine go_iload_n (pc2 := 15) dX11_givesWrong_14 rfl rfl rfl ?_
    refine go_iconst (pc2 := 16) (v := (0 : Int32)) dX11_givesWrong_15 rfl (by decide) ?_
    refine go_bipush (pc2 := 18) (v := (60 : Int32)) dX11_givesWrong_16 rfl (by decide) ?_
    obtain ⟨Q6, hC7, k⟩ := k
    refine gcS_I (pc2 := 21) (dC := 0) (As := [.int x2, .int (0 : Int32), .int (30 : Int32), .int x3, .int (0 : Int32), .int (60 : Int32)]) (st := []) rfl dX11_givesWrong_18 rfl w_1180 ok_X11_wrongOf w_1181 rfl (by decide) (Nat.le_of_ble_eq_true rfl) hC7 (fun v8 h9 hq10 => ?_)
    have k := k v8 h9 hq10
    refine go_istore (pc2 := 23) (ls2 := [(0, .ref 113), (1, .int x1), (2, .int x2), (3, .int x3), (4, .int v8)]) dX11_givesWrong_21 rfl rfl rfl rfl rfl ?_
    refine go_iload (pc2 := 25) dX11_givesWrong_23 rfl rfl ?_
    refine go_if_ne (pc2 := 28) (tgt := 38) dX11_givesWrong_25 rfl (by decide) (fun c => ?_) (fun c => ?_)
    · have k := k.1 c
      refine go_iload (pc2 := 40) dX11_givesWrong_38 rfl rfl ?_
      exact go_iret dX11_givesWrong_40 ⟨_, rfl, rfl⟩ ⟨rfl, _, rfl, k⟩
    · have k := k.2 c
      refine go_iload_n (pc2 := 29) dX11_givesWrong_28 rfl rfl rfl ?_
      refine go_iload_n (pc2 := 30) dX11_givesWrong_29 rfl rfl rfl ?_
      refine go_icmp_le (pc2 := 33) (tgt := 38) dX11_givesWrong_30 rfl (by decide) (fun c => ?_) (fun c => ?_)
      · have k := k.1 c
        refine go_iload (pc2 := 40) dX11_givesWrong_38 rfl rfl ?_
        exact go_iret dX11_givesWrong_40 ⟨_, rfl, rfl⟩ ⟨rfl, _, rfl, k⟩
      · have k := k.2 c
        refine go_bipush (pc2 := 35) (v := (-3 : Int32)) dX11_givesWrong_33 rfl (by decide) ?_
        refine go_goto (tgt := 40) dX11_givesWrong_35 (by decide) ?_
        exact go_iret dX11_givesWrong_40 ⟨_, rfl, rfl⟩ ⟨rfl, _, rfl, k⟩
  · have k := k.2 c
    refine go_iconst (pc2 := 9) (v := (-1 : Int32)) dX11_givesWrong_8 rfl (by decide) ?_
    exact go_iret dX11_givesWrong_9 ⟨_, rfl, rfl⟩ ⟨rfl, _, rfl, k⟩
theorem e_X11_gives {x1 : Int32} {x2 : Int32} {x3 : Int32} {h : Hp} {Q : Int32 → Hp → Prop}  (k : (∃ Q1, CtI 2 mX11_givesWrong [.ref 113, .int x1, .int x2, .int x3] h Q1 ∧ ∀ (v3 : Int32) (h4 : Hp), Q1 v3 h4 → ((v3 = 0 → (∃ Q6, CtI 0 mX11_of1 [.ref 113, .int x1, .int (2 : Int32)] h4 Q6 ∧ ∀ (v8 : Int32) (h9 : Hp), Q6 v8 h9 → (∃ Q11, CtI 0 mX11_of1 [.ref 113, .int x1, .int (3 : Int32)] h9 Q11 ∧ ∀ (v13 : Int32) (h14 : Hp), Q11 v13 h14 → (∃ Q16, CtV 0 mX11_sets [.ref 113, .int x1, .int (2 : Int32), .int x2] h14 Q16 ∧ ∀ h19 : Hp, Q16 h19 → (∃ Q21, CtV 0 mX11_sets [.ref 113, .int x1, .int (3 : Int32), .int x3] h19 Q21 ∧ ∀ h24 : Hp, Q21 h24 → Q (((100 : Int32) * v8) + v13) h24))))) ∧ (¬ v3 = 0 → (∃ Q26, CtI 0 mX11_no [.ref 113, .int v3] h4 Q26 ∧ ∀ (v28 : Int32) (h29 : Hp), Q26 v28 h29 → Q v28 h29))))) : CtI 3 mX11_gives [.ref 113, .int x1, .int x2, .int x3] h Q := by
  refine Ct.of (by decide +kernel) (Nat.le_of_ble_eq_true rfl) ?_
  show GoI 3 mX11_gives 0 [(0, .ref 113), (1, .int x1), (2, .int x2), (3, .int x3)] [] h Q
  refine go_aload_n (pc2 := 1) dX11_gives_0 rfl rfl rfl ?_
  refine go_iload_n (pc2 := 2) dX11_gives_1 rfl rfl rfl ?_
  refine go_iload_n (pc2 := 3) dX11_gives_2 rfl rfl rfl ?_
  refine go_iload_n (pc2 := 4) dX11_gives_3 rfl rfl rfl ?_
  obtain ⟨Q1, hC2, k⟩ := k
  refine gcV_I (pc2 := 7) (dC := 2) (As := [.int x1, .int x2, .int x3]) (st := []) rfl dX11_gives_4 rfl w_1204 ok_X11_givesWrong vi_X11_givesWrong c_113 (by decide) rfl rfl rfl (by decide) (Nat.le_of_ble_eq_true rfl) hC2 (fun v3 h4 hq5 => ?_)
  have k := k v3 h4 hq5
  refine go_istore (pc2 := 9) (ls2 := [(0, .ref 113), (1, .int x1), (2, .int x2), (3, .int x3), (4, .int v3)]) dX11_gives_7 rfl rfl rfl rfl rfl ?_
  refine go_iload (pc2 := 11) dX11_gives_9 rfl rfl ?_
  refine go_if_eq (pc2 := 14) (tgt := 21) dX11_gives_11 rfl (by decide) (fun c => ?_) (fun c => ?_)
  · have k := k.1 c
    refine go_bipush (pc2 := 23) (v := (100 : Int32)) dX11_gives_21 rfl (by decide) ?_
    refine go_aload_n (pc2 := 24) dX11_gives_23 rfl rfl rfl ?_
    refine go_iload_n (pc2 := 25) dX11_gives_24 rfl rfl rfl ?_
    refine go_iconst (pc2 := 26) (v := (2 : Int32)) dX11_gives_25 rfl (by decide) ?_
    obtain ⟨Q6, hC7, k⟩ := k
    refine gcV_I (pc2 := 29) (dC := 0) (As := [.int x1, .int (2 : Int32)]) (st := [.int (100 : Int32)]) rfl dX11_gives_26 rfl w_1212 ok_X11_of1 vi_X11_of1 c_113 (by decide) rfl rfl rfl (by decide) (Nat.le_of_ble_eq_true rfl) hC7 (fun v8 h9 hq10 => ?_)
    have k := k v8 h9 hq10
    refine go_imul (pc2 := 30) dX11_gives_29 rfl ?_
    refine go_aload_n (pc2 := 31) dX11_gives_30 rfl rfl rfl ?_
    refine go_iload_n (pc2 := 32) dX11_gives_31 rfl rfl rfl ?_
    refine go_iconst (pc2 := 33) (v := (3 : Int32)) dX11_gives_32 rfl (by decide) ?_
    obtain ⟨Q11, hC12, k⟩ := k
    refine gcV_I (pc2 := 36) (dC := 0) (As := [.int x1, .int (3 : Int32)]) (st := [.int ((100 : Int32) * v8)]) rfl dX11_gives_33 rfl w_1212 ok_X11_of1 vi_X11_of1 c_113 (by decide) rfl rfl rfl (by decide) (Nat.le_of_ble_eq_true rfl) hC12 (fun v13 h14 hq15 => ?_)
    have k := k v13 h14 hq15
    refine go_iadd (pc2 := 37) dX11_gives_36 rfl ?_
    refine go_istore (pc2 := 39) (ls2 := [(0, .ref 113), (1, .int x1), (2, .int x2), (3, .int x3), (4, .int v3), (5, .int (((100 : Int32) * v8) + v13))]) dX11_gives_37 rfl rfl rfl rfl rfl ?_
    refine go_aload_n (pc2 := 40) dX11_gives_39 rfl rfl rfl ?_
    refine go_iload_n (pc2 := 41) dX11_gives_40 rfl rfl rfl ?_
    refine go_iconst (pc2 := 42) (v := (2 : Int32)) dX11_gives_41 rfl (by decide) ?_
    refine go_iload_n (pc2 := 43) dX11_gives_42 rfl rfl rfl ?_
    obtain ⟨Q16, hC17, k⟩ := k
    refine gcV_V (pc2 := 46) (dC := 0) (As := [.int x1, .int (2 : Int32), .int x2]) (st := []) rfl dX11_gives_43 rfl w_1196 ok_X11_sets vi_X11_sets c_113 (by decide) rfl rfl rfl (by decide) (Nat.le_of_ble_eq_true rfl) hC17 (fun h19 hq20 => ?_)
    have k := k h19 hq20
    refine go_aload_n (pc2 := 47) dX11_gives_46 rfl rfl rfl ?_
    refine go_iload_n (pc2 := 48) dX11_gives_47 rfl rfl rfl ?_
    refine go_iconst (pc2 := 49) (v := (3 : Int32)) dX11_gives_48 rfl (by decide) ?_
    refine go_iload_n (pc2 := 50) dX11_gives_49 rfl rfl rfl ?_
    obtain ⟨Q21, hC22, k⟩ := k
    refine gcV_V (pc2 := 53) (dC := 0) (As := [.int x1, .int (3 : Int32), .int x3]) (st := []) rfl dX11_gives_50 rfl w_1196 ok_X11_sets vi_X11_sets c_113 (by decide) rfl rfl rfl (by decide) (Nat.le_of_ble_eq_true rfl) hC22 (fun h24 hq25 => ?_)
    have k := k h24 hq25
    refine go_iload (pc2 := 55) dX11_gives_53 rfl rfl ?_
    exact go_iret dX11_gives_55 ⟨_, rfl, rfl⟩ ⟨rfl, _, rfl, k⟩
  · have k := k.2 c
    refine go_aload_n (pc2 := 15) dX11_gives_14 rfl rfl rfl ?_
    refine go_iload (pc2 := 17) dX11_gives_15 rfl rfl ?_
    obtain ⟨Q26, hC27, k⟩ := k
    refine gcV_I (pc2 := 20) (dC := 0) (As := [.int v3]) (st := []) rfl dX11_gives_17 rfl w_1161 ok_X11_no vi_X11_no c_113 (by decide) rfl rfl rfl (by decide) (Nat.le_of_ble_eq_true rfl) hC27 (fun v28 h29 hq30 => ?_)
    have k := k v28 h29 hq30
    exact go_iret dX11_gives_20 ⟨_, rfl, rfl⟩ ⟨rfl, _, rfl, k⟩
theorem e_X11_costsWrong {x1 : Int32} {x2 : Int32} {x3 : Int32} {x4 : Int32} {h : Hp} {Q : Int32 → Hp → Prop}  (k : (∃ Q1, CtI 1 mX11_isPlant [.ref 113, .int x1] h Q1 ∧ ∀ (v3 : Int32) (h4 : Hp), Q1 v3 h4 → ((¬ v3 = 0 → ((x2 < 0 → Q (-4 : Int32) h4) ∧ (¬ (x2 < 0) → ((x3 < 0 → Q (-4 : Int32) h4) ∧ (¬ (x3 < 0) → ((0 ≤ x4 → (((9 : Int32) < x2 → Q (-6 : Int32) h4) ∧ (¬ ((9 : Int32) < x2) → (((30 : Int32) < x3 → Q (-6 : Int32) h4) ∧ (¬ ((30 : Int32) < x3) → ((x4 ≤ (50 : Int32) → Q (0 : Int32) h4) ∧ (¬ (x4 ≤ (50 : Int32)) → Q (-6 : Int32) h4))))))) ∧ (¬ (0 ≤ x4) → Q (-4 : Int32) h4))))))) ∧ (v3 = 0 → Q (-1 : Int32) h4)))) : CtI 2 mX11_costsWrong [.ref 113, .int x1, .int x2, .int x3, .int x4] h Q := by
  refine Ct.of (by decide +kernel) (Nat.le_of_ble_eq_true rfl) ?_
  show GoI 2 mX11_costsWrong 0 [(0, .ref 113), (1, .int x1), (2, .int x2), (3, .int x3), (4, .int x4)] [] h Q
  refine go_aload_n (pc2 := 1) dX11_costsWrong_0 rfl rfl rfl ?_
  refine go_iload_n (pc2 := 2) dX11_costsWrong_1 rfl rfl rfl ?_
  obtain ⟨Q1, hC2, k⟩ := k
  refine gcV_I (pc2 := 5) (dC := 1) (As := [.int x1]) (st := []) rfl dX11_costsWrong_2 rfl w_1208 ok_X11_isPlant vi_X11_isPlant c_113 (by decide) rfl rfl rfl (by decide) (Nat.le_of_ble_eq_true rfl) hC2 (fun v3 h4 hq5 => ?_)
  have k := k v3 h4 hq5
  refine go_if_ne (pc2 := 8) (tgt := 10) dX11_costsWrong_5 rfl (by decide) (fun c => ?_) (fun c => ?_)
  · have k := k.1 c
    refine go_iload_n (pc2 := 11) dX11_costsWrong_10 rfl rfl rfl ?_
    refine go_if_lt (pc2 := 14) (tgt := 23) dX11_costsWrong_11 rfl (by decide) (fun c => ?_) (fun c => ?_)
    · have k := k.1 c
      refine go_bipush (pc2 := 25) (v := (-4 : Int32)) dX11_costsWrong_23 rfl (by decide) ?_
      exact go_iret dX11_costsWrong_25 ⟨_, rfl, rfl⟩ ⟨rfl, _, rfl, k⟩
    · have k := k.2 c
      refine go_iload_n (pc2 := 15) dX11_costsWrong_14 rfl rfl rfl ?_
      refine go_if_lt (pc2 := 18) (tgt := 23) dX11_costsWrong_15 rfl (by decide) (fun c => ?_) (fun c => ?_)
      · have k := k.1 c
        refine go_bipush (pc2 := 25) (v := (-4 : Int32)) dX11_costsWrong_23 rfl (by decide) ?_
        exact go_iret dX11_costsWrong_25 ⟨_, rfl, rfl⟩ ⟨rfl, _, rfl, k⟩
      · have k := k.2 c
        refine go_iload (pc2 := 20) dX11_costsWrong_18 rfl rfl ?_
        refine go_if_ge (pc2 := 23) (tgt := 26) dX11_costsWrong_20 rfl (by decide) (fun c => ?_) (fun c => ?_)
        · have k := k.1 c
          refine go_iload_n (pc2 := 27) dX11_costsWrong_26 rfl rfl rfl ?_
          refine go_bipush (pc2 := 29) (v := (9 : Int32)) dX11_costsWrong_27 rfl (by decide) ?_
          refine go_icmp_gt (pc2 := 32) (tgt := 45) dX11_costsWrong_29 rfl (by decide) (fun c => ?_) (fun c => ?_)
          · have k := k.1 c
            refine go_bipush (pc2 := 47) (v := (-6 : Int32)) dX11_costsWrong_45 rfl (by decide) ?_
            refine go_goto (tgt := 51) dX11_costsWrong_47 (by decide) ?_
            exact go_iret dX11_costsWrong_51 ⟨_, rfl, rfl⟩ ⟨rfl, _, rfl, k⟩
          · have k := k.2 c
            refine go_iload_n (pc2 := 33) dX11_costsWrong_32 rfl rfl rfl ?_
            refine go_bipush (pc2 := 35) (v := (30 : Int32)) dX11_costsWrong_33 rfl (by decide) ?_
            refine go_icmp_gt (pc2 := 38) (tgt := 45) dX11_costsWrong_35 rfl (by decide) (fun c => ?_) (fun c => ?_)
            · have k := k.1 c
              refine go_bipush (pc2 := 47) (v := (-6 : Int32)) dX11_costsWrong_45 rfl (by decide) ?_
              refine go_goto (tgt := 51) dX11_costsWrong_47 (by decide) ?_
              exact go_iret dX11_costsWrong_51 ⟨_, rfl, rfl⟩ ⟨rfl, _, rfl, k⟩
            · have k := k.2 c
              refine go_iload (pc2 := 40) dX11_costsWrong_38 rfl rfl ?_
              refine go_bipush (pc2 := 42) (v := (50 : Int32)) dX11_costsWrong_40 rfl (by decide) ?_
              refine go_icmp_le (pc2 := 45) (tgt := 50) dX11_costsWrong_42 rfl (by decide) (fun c => ?_) (fun c => ?_)
              · have k := k.1 c
                refine go_iconst (pc2 := 51) (v := (0 : Int32)) dX11_costsWrong_50 rfl (by decide) ?_
                exact go_iret dX11_costsWrong_51 ⟨_, rfl, rfl⟩ ⟨rfl, _, rfl, k⟩
              · have k := k.2 c
                refine go_bipush (pc2 := 47) (v := (-6 : Int32)) dX11_costsWrong_45 rfl (by decide) ?_
                refine go_goto (tgt := 51) dX11_costsWrong_47 (by decide) ?_
                exact go_iret dX11_costsWrong_51 ⟨_, rfl, rfl⟩ ⟨rfl, _, rfl, k⟩
        · have k := k.2 c
          refine go_bipush (pc2 := 25) (v := (-4 : Int32)) dX11_costsWrong_23 rfl (by decide) ?_
          exact go_iret dX11_costsWrong_25 ⟨_, rfl, rfl⟩ ⟨rfl, _, rfl, k⟩
  · have k := k.2 c
    refine go_iconst (pc2 := 9) (v := (-1 : Int32)) dX11_costsWrong_8 rfl (by decide) ?_
    exact go_iret dX11_costsWrong_9 ⟨_, rfl, rfl⟩ ⟨rfl, _, rfl, k⟩
theorem e_X11_costs {x1 : Int32} {x2 : Int32} {x3 : Int32} {x4 : Int32} {h : Hp} {Q : Int32 → Hp → Prop}  (k : (∃ Q1, CtI 2 mX11_costsWrong [.ref 113, .int x1, .int x2, .int x3, .int x4] h Q1 ∧ ∀ (v3 : Int32) (h4 : Hp), Q1 v3 h4 → ((v3 = 0 → (∃ Q6, CtI 0 mX11_of1 [.ref 113, .int x1, .int (4 : Int32)] h4 Q6 ∧ ∀ (v8 : Int32) (h9 : Hp), Q6 v8 h9 → (∃ Q11, CtI 0 mX11_of1 [.ref 113, .int x1, .int (5 : Int32)] h9 Q11 ∧ ∀ (v13 : Int32) (h14 : Hp), Q11 v13 h14 → (∃ Q16, CtI 0 mX11_of1 [.ref 113, .int x1, .int (6 : Int32)] h14 Q16 ∧ ∀ (v18 : Int32) (h19 : Hp), Q16 v18 h19 → (∃ Q21, CtV 0 mX11_sets [.ref 113, .int x1, .int (4 : Int32), .int x2] h19 Q21 ∧ ∀ h24 : Hp, Q21 h24 → (∃ Q26, CtV 0 mX11_sets [.ref 113, .int x1, .int (5 : Int32), .int x3] h24 Q26 ∧ ∀ h29 : Hp, Q26 h29 → (∃ Q31, CtV 0 mX11_sets [.ref 113, .int x1, .int (6 : Int32), .int x4] h29 Q31 ∧ ∀ h34 : Hp, Q31 h34 → Q ((((10000 : Int32) * v8) + ((100 : Int32) * v13)) + v18) h34))))))) ∧ (¬ v3 = 0 → (∃ Q36, CtI 0 mX11_no [.ref 113, .int v3] h4 Q36 ∧ ∀ (v38 : Int32) (h39 : Hp), Q36 v38 h39 → Q v38 h39))))) : CtI 3 mX11_costs [.ref 113, .int x1, .int x2, .int x3, .int x4] h Q := by
  refine Ct.of (by decide +kernel) (Nat.le_of_ble_eq_true rfl) ?_
  show GoI 3 mX11_costs 0 [(0, .ref 113), (1, .int x1), (2, .int x2), (3, .int x3), (4, .int x4)] [] h Q
  refine go_aload_n (pc2 := 1) dX11_costs_0 rfl rfl rfl ?_
  refine go_iload_n (pc2 := 2) dX11_costs_1 rfl rfl rfl ?_
  refine go_iload_n (pc2 := 3) dX11_costs_2 rfl rfl rfl ?_
  refine go_iload_n (pc2 := 4) dX11_costs_3 rfl rfl rfl ?_
  refine go_iload (pc2 := 6) dX11_costs_4 rfl rfl ?_
  obtain ⟨Q1, hC2, k⟩ := k
  refine gcV_I (pc2 := 9) (dC := 2) (As := [.int x1, .int x2, .int x3, .int x4]) (st := []) rfl dX11_costs_6 rfl w_1220 ok_X11_costsWrong vi_X11_costsWrong c_113 (by decide) rfl rfl rfl (by decide) (Nat.le_of_ble_eq_true rfl) hC2 (fun v3 h4 hq5 => ?_)
  have k := k v3 h4 hq5
  refine go_istore (pc2 := 11) (ls2 := [(0, .ref 113), (1, .int x1), (2, .int x2), (3, .int x3), (4, .int x4), (5, .int v3)]) dX11_costs_9 rfl rfl rfl rfl rfl ?_
  refine go_iload (pc2 := 13) dX11_costs_11 rfl rfl ?_
  refine go_if_eq (pc2 := 16) (tgt := 23) dX11_costs_13 rfl (by decide) (fun c => ?_) (fun c => ?_)
  · have k := k.1 c
    refine go_sipush (pc2 := 26) (v := (10000 : Int32)) dX11_costs_23 rfl (by decide) ?_
    refine go_aload_n (pc2 := 27) dX11_costs_26 rfl rfl rfl ?_
    refine go_iload_n (pc2 := 28) dX11_costs_27 rfl rfl rfl ?_
    refine go_iconst (pc2 := 29) (v := (4 : Int32)) dX11_costs_28 rfl (by decide) ?_
    obtain ⟨Q6, hC7, k⟩ := k
    refine gcV_I (pc2 := 32) (dC := 0) (As := [.int x1, .int (4 : Int32)]) (st := [.int (10000 : Int32)]) rfl dX11_costs_29 rfl w_1212 ok_X11_of1 vi_X11_of1 c_113 (by decide) rfl rfl rfl (by decide) (Nat.le_of_ble_eq_true rfl) hC7 (fun v8 h9 hq10 => ?_)
    have k := k v8 h9 hq10
    refine go_imul (pc2 := 33) dX11_costs_32 rfl ?_
    refine go_bipush (pc2 := 35) (v := (100 : Int32)) dX11_costs_33 rfl (by decide) ?_
    refine go_aload_n (pc2 := 36) dX11_costs_35 rfl rfl rfl ?_
    refine go_iload_n (pc2 := 37) dX11_costs_36 rfl rfl rfl ?_
    refine go_iconst (pc2 := 38) (v := (5 : Int32)) dX11_costs_37 rfl (by decide) ?_
    obtain ⟨Q11, hC12, k⟩ := k
    refine gcV_I (pc2 := 41) (dC := 0) (As := [.int x1, .int (5 : Int32)]) (st := [.int (100 : Int32), .int ((10000 : Int32) * v8)]) rfl dX11_costs_38 rfl w_1212 ok_X11_of1 vi_X11_of1 c_113 (by decide) rfl rfl rfl (by decide) (Nat.le_of_ble_eq_true rfl) hC12 (fun v13 h14 hq15 => ?_)
    have k := k v13 h14 hq15
    refine go_imul (pc2 := 42) dX11_costs_41 rfl ?_
    refine go_iadd (pc2 := 43) dX11_costs_42 rfl ?_
    refine go_aload_n (pc2 := 44) dX11_costs_43 rfl rfl rfl ?_
    refine go_iload_n (pc2 := 45) dX11_costs_44 rfl rfl rfl ?_
    refine go_bipush (pc2 := 47) (v := (6 : Int32)) dX11_costs_45 rfl (by decide) ?_
    obtain ⟨Q16, hC17, k⟩ := k
    refine gcV_I (pc2 := 50) (dC := 0) (As := [.int x1, .int (6 : Int32)]) (st := [.int (((10000 : Int32) * v8) + ((100 : Int32) * v13))]) rfl dX11_costs_47 rfl w_1212 ok_X11_of1 vi_X11_of1 c_113 (by decide) rfl rfl rfl (by decide) (Nat.le_of_ble_eq_true rfl) hC17 (fun v18 h19 hq20 => ?_)
    have k := k v18 h19 hq20
    refine go_iadd (pc2 := 51) dX11_costs_50 rfl ?_
    refine go_istore (pc2 := 53) (ls2 := [(0, .ref 113), (1, .int x1), (2, .int x2), (3, .int x3), (4, .int x4), (5, .int v3), (6, .int ((((10000 : Int32) * v8) + ((100 : Int32) * v13)) + v18))]) dX11_costs_51 rfl rfl rfl rfl rfl ?_
    refine go_aload_n (pc2 := 54) dX11_costs_53 rfl rfl rfl ?_
    refine go_iload_n (pc2 := 55) dX11_costs_54 rfl rfl rfl ?_
    refine go_iconst (pc2 := 56) (v := (4 : Int32)) dX11_costs_55 rfl (by decide) ?_
    refine go_iload_n (pc2 := 57) dX11_costs_56 rfl rfl rfl ?_
    obtain ⟨Q21, hC22, k⟩ := k
    refine gcV_V (pc2 := 60) (dC := 0) (As := [.int x1, .int (4 : Int32), .int x2]) (st := []) rfl dX11_costs_57 rfl w_1196 ok_X11_sets vi_X11_sets c_113 (by decide) rfl rfl rfl (by decide) (Nat.le_of_ble_eq_true rfl) hC22 (fun h24 hq25 => ?_)
    have k := k h24 hq25
    refine go_aload_n (pc2 := 61) dX11_costs_60 rfl rfl rfl ?_
    refine go_iload_n (pc2 := 62) dX11_costs_61 rfl rfl rfl ?_
    refine go_iconst (pc2 := 63) (v := (5 : Int32)) dX11_costs_62 rfl (by decide) ?_
    refine go_iload_n (pc2 := 64) dX11_costs_63 rfl rfl rfl ?_
    obtain ⟨Q26, hC27, k⟩ := k
    refine gcV_V (pc2 := 67) (dC := 0) (As := [.int x1, .int (5 : Int32), .int x3]) (st := []) rfl dX11_costs_64 rfl w_1196 ok_X11_sets vi_X11_sets c_113 (by decide) rfl rfl rfl (by decide) (Nat.le_of_ble_eq_true rfl) hC27 (fun h29 hq30 => ?_)
    have k := k h29 hq30
    refine go_aload_n (pc2 := 68) dX11_costs_67 rfl rfl rfl ?_
    refine go_iload_n (pc2 := 69) dX11_costs_68 rfl rfl rfl ?_
    refine go_bipush (pc2 := 71) (v := (6 : Int32)) dX11_costs_69 rfl (by decide) ?_
    refine go_iload (pc2 := 73) dX11_costs_71 rfl rfl ?_
    obtain ⟨Q31, hC32, k⟩ := k
    refine gcV_V (pc2 := 76) (dC := 0) (As := [.int x1, .int (6 : Int32), .int x4]) (st := []) rfl dX11_costs_73 rfl w_1196 ok_X11_sets vi_X11_sets c_113 (by decide) rfl rfl rfl (by decide) (Nat.le_of_ble_eq_true rfl) hC32 (fun h34 hq35 => ?_)
    have k := k h34 hq35
    refine go_iload (pc2 := 78) dX11_costs_76 rfl rfl ?_
    exact go_iret dX11_costs_78 ⟨_, rfl, rfl⟩ ⟨rfl, _, rfl, k⟩
  · have k := k.2 c
    refine go_aload_n (pc2 := 17) dX11_costs_16 rfl rfl rfl ?_
    refine go_iload (pc2 := 19) dX11_costs_17 rfl rfl ?_
    obtain ⟨Q36, hC37, k⟩ := k
    refine gcV_I (pc2 := 22) (dC := 0) (As := [.int v3]) (st := []) rfl dX11_costs_19 rfl w_1161 ok_X11_no vi_X11_no c_113 (by decide) rfl rfl rfl (by decide) (Nat.le_of_ble_eq_true rfl) hC37 (fun v38 h39 hq40 => ?_)
    have k := k v38 h39 hq40
    exact go_iret dX11_costs_22 ⟨_, rfl, rfl⟩ ⟨rfl, _, rfl, k⟩
theorem e_X11_timesWrong {x1 : Int32} {x2 : Int32} {x3 : Int32} {h : Hp} {Q : Int32 → Hp → Prop}  (k : (∃ Q1, CtI 1 mX11_isPlant [.ref 113, .int x1] h Q1 ∧ ∀ (v3 : Int32) (h4 : Hp), Q1 v3 h4 → ((v3 = 0 → Q (-1 : Int32) h4) ∧ (¬ v3 = 0 → (∃ Q6, CtI 0 mX11_wrongOf [.int x2, .int (1 : Int32), .int (3 : Int32), .int x3, .int (1 : Int32), .int (3 : Int32)] h4 Q6 ∧ ∀ (v8 : Int32) (h9 : Hp), Q6 v8 h9 → Q v8 h9))))) : CtI 2 mX11_timesWrong [.ref 113, .int x1, .int x2, .int x3] h Q := by
  refine Ct.of (by decide +kernel) (Nat.le_of_ble_eq_true rfl) ?_
  show GoI 2 mX11_timesWrong 0 [(0, .ref 113), (1, .int x1), (2, .int x2), (3, .int x3)] [] h Q
  refine go_aload_n (pc2 := 1) dX11_timesWrong_0 rfl rfl rfl ?_
  refine go_iload_n (pc2 := 2) dX11_timesWrong_1 rfl rfl rfl ?_
  obtain ⟨Q1, hC2, k⟩ := k
  refine gcV_I (pc2 := 5) (dC := 1) (As := [.int x1]) (st := []) rfl dX11_timesWrong_2 rfl w_1208 ok_X11_isPlant vi_X11_isPlant c_113 (by decide) rfl rfl rfl (by decide) (Nat.le_of_ble_eq_true rfl) hC2 (fun v3 h4 hq5 => ?_)
  have k := k v3 h4 hq5
  refine go_if_eq (pc2 := 8) (tgt := 20) dX11_timesWrong_5 rfl (by decide) (fun c => ?_) (fun c => ?_)
  · have k := k.1 c
    refine go_iconst (pc2 := 21) (v := (-1 : Int32)) dX11_timesWrong_20 rfl (by decide) ?_
    exact go_iret dX11_timesWrong_21 ⟨_, rfl, rfl⟩ ⟨rfl, _, rfl, k⟩
  · have k := k.2 c
    refine go_iload_n (pc2 := 9) dX11_timesWrong_8 rfl rfl rfl ?_
    refine go_iconst (pc2 := 10) (v := (1 : Int32)) dX11_timesWrong_9 rfl (by decide) ?_
    refine go_iconst (pc2 := 11) (v := (3 : Int32)) dX11_timesWrong_10 rfl (by decide) ?_
    refine go_iload_n (pc2 := 12) dX11_timesWrong_11 rfl rfl rfl ?_
    refine go_iconst (pc2 := 13) (v := (1 : Int32)) dX11_timesWrong_12 rfl (by decide) ?_
    refine go_iconst (pc2 := 14) (v := (3 : Int32)) dX11_timesWrong_13 rfl (by decide) ?_
    obtain ⟨Q6, hC7, k⟩ := k
    refine gcS_I (pc2 := 17) (dC := 0) (As := [.int x2, .int (1 : Int32), .int (3 : Int32), .int x3, .int (1 : Int32), .int (3 : Int32)]) (st := []) rfl dX11_timesWrong_14 rfl w_1180 ok_X11_wrongOf w_1181 rfl (by decide) (Nat.le_of_ble_eq_true rfl) hC7 (fun v8 h9 hq10 => ?_)
    have k := k v8 h9 hq10
    refine go_goto (tgt := 21) dX11_timesWrong_17 (by decide) ?_
    exact go_iret dX11_timesWrong_21 ⟨_, rfl, rfl⟩ ⟨rfl, _, rfl, k⟩
theorem e_X11_times {x1 : Int32} {x2 : Int32} {x3 : Int32} {h : Hp} {Q : Int32 → Hp → Prop}  (k : (∃ Q1, CtI 2 mX11_timesWrong [.ref 113, .int x1, .int x2, .int x3] h Q1 ∧ ∀ (v3 : Int32) (h4 : Hp), Q1 v3 h4 → ((v3 = 0 → (∃ Q6, CtI 0 mX11_of1 [.ref 113, .int x1, .int (7 : Int32)] h4 Q6 ∧ ∀ (v8 : Int32) (h9 : Hp), Q6 v8 h9 → (∃ Q11, CtI 0 mX11_of1 [.ref 113, .int x1, .int (8 : Int32)] h9 Q11 ∧ ∀ (v13 : Int32) (h14 : Hp), Q11 v13 h14 → (∃ Q16, CtV 0 mX11_sets [.ref 113, .int x1, .int (7 : Int32), .int x2] h14 Q16 ∧ ∀ h19 : Hp, Q16 h19 → (∃ Q21, CtV 0 mX11_sets [.ref 113, .int x1, .int (8 : Int32), .int x3] h19 Q21 ∧ ∀ h24 : Hp, Q21 h24 → Q (((10 : Int32) * v8) + v13) h24))))) ∧ (¬ v3 = 0 → (∃ Q26, CtI 0 mX11_no [.ref 113, .int v3] h4 Q26 ∧ ∀ (v28 : Int32) (h29 : Hp), Q26 v28 h29 → Q v28 h29))))) : CtI 3 mX11_times [.ref 113, .int x1, .int x2, .int x3] h Q := by
  refine Ct.of (by decide +kernel) (Nat.le_of_ble_eq_true rfl) ?_
  show GoI 3 mX11_times 0 [(0, .ref 113), (1, .int x1), (2, .int x2), (3, .int x3)] [] h Q
  refine go_aload_n (pc2 := 1) dX11_times_0 rfl rfl rfl ?_
  refine go_iload_n (pc2 := 2) dX11_times_1 rfl rfl rfl ?_
  refine go_iload_n (pc2 := 3) dX11_times_2 rfl rfl rfl ?_
  refine go_iload_n (pc2 := 4) dX11_times_3 rfl rfl rfl ?_
  obtain ⟨Q1, hC2, k⟩ := k
  refine gcV_I (pc2 := 7) (dC := 2) (As := [.int x1, .int x2, .int x3]) (st := []) rfl dX11_times_4 rfl w_1228 ok_X11_timesWrong vi_X11_timesWrong c_113 (by decide) rfl rfl rfl (by decide) (Nat.le_of_ble_eq_true rfl) hC2 (fun v3 h4 hq5 => ?_)
  have k := k v3 h4 hq5
  refine go_istore (pc2 := 9) (ls2 := [(0, .ref 113), (1, .int x1), (2, .int x2), (3, .int x3), (4, .int v3)]) dX11_times_7 rfl rfl rfl rfl rfl ?_
  refine go_iload (pc2 := 11) dX11_times_9 rfl rfl ?_
  refine go_if_eq (pc2 := 14) (tgt := 21) dX11_times_11 rfl (by decide) (fun c => ?_) (fun c => ?_)
  · have k := k.1 c
    refine go_bipush (pc2 := 23) (v := (10 : Int32)) dX11_times_21 rfl (by decide) ?_
    refine go_aload_n (pc2 := 24) dX11_times_23 rfl rfl rfl ?_
    refine go_iload_n (pc2 := 25) dX11_times_24 rfl rfl rfl ?_
    refine go_bipush (pc2 := 27) (v := (7 : Int32)) dX11_times_25 rfl (by decide) ?_
    obtain ⟨Q6, hC7, k⟩ := k
    refine gcV_I (pc2 := 30) (dC := 0) (As := [.int x1, .int (7 : Int32)]) (st := [.int (10 : Int32)]) rfl dX11_times_27 rfl w_1212 ok_X11_of1 vi_X11_of1 c_113 (by decide) rfl rfl rfl (by decide) (Nat.le_of_ble_eq_true rfl) hC7 (fun v8 h9 hq10 => ?_)
    have k := k v8 h9 hq10
    refine go_imul (pc2 := 31) dX11_times_30 rfl ?_
    refine go_aload_n (pc2 := 32) dX11_times_31 rfl rfl rfl ?_
    refine go_iload_n (pc2 := 33) dX11_times_32 rfl rfl rfl ?_
    refine go_bipush (pc2 := 35) (v := (8 : Int32)) dX11_times_33 rfl (by decide) ?_
    obtain ⟨Q11, hC12, k⟩ := k
    refine gcV_I (pc2 := 38) (dC := 0) (As := [.int x1, .int (8 : Int32)]) (st := [.int ((10 : Int32) * v8)]) rfl dX11_times_35 rfl w_1212 ok_X11_of1 vi_X11_of1 c_113 (by decide) rfl rfl rfl (by decide) (Nat.le_of_ble_eq_true rfl) hC12 (fun v13 h14 hq15 => ?_)
    have k := k v13 h14 hq15
    refine go_iadd (pc2 := 39) dX11_times_38 rfl ?_
    refine go_istore (pc2 := 41) (ls2 := [(0, .ref 113), (1, .int x1), (2, .int x2), (3, .int x3), (4, .int v3), (5, .int (((10 : Int32) * v8) + v13))]) dX11_times_39 rfl rfl rfl rfl rfl ?_
    refine go_aload_n (pc2 := 42) dX11_times_41 rfl rfl rfl ?_
    refine go_iload_n (pc2 := 43) dX11_times_42 rfl rfl rfl ?_
    refine go_bipush (pc2 := 45) (v := (7 : Int32)) dX11_times_43 rfl (by decide) ?_
    refine go_iload_n (pc2 := 46) dX11_times_45 rfl rfl rfl ?_
    obtain ⟨Q16, hC17, k⟩ := k
    refine gcV_V (pc2 := 49) (dC := 0) (As := [.int x1, .int (7 : Int32), .int x2]) (st := []) rfl dX11_times_46 rfl w_1196 ok_X11_sets vi_X11_sets c_113 (by decide) rfl rfl rfl (by decide) (Nat.le_of_ble_eq_true rfl) hC17 (fun h19 hq20 => ?_)
    have k := k h19 hq20
    refine go_aload_n (pc2 := 50) dX11_times_49 rfl rfl rfl ?_
    refine go_iload_n (pc2 := 51) dX11_times_50 rfl rfl rfl ?_
    refine go_bipush (pc2 := 53) (v := (8 : Int32)) dX11_times_51 rfl (by decide) ?_
    refine go_iload_n (pc2 := 54) dX11_times_53 rfl rfl rfl ?_
    obtain ⟨Q21, hC22, k⟩ := k
    refine gcV_V (pc2 := 57) (dC := 0) (As := [.int x1, .int (8 : Int32), .int x3]) (st := []) rfl dX11_times_54 rfl w_1196 ok_X11_sets vi_X11_sets c_113 (by decide) rfl rfl rfl (by decide) (Nat.le_of_ble_eq_true rfl) hC22 (fun h24 hq25 => ?_)
    have k := k h24 hq25
    refine go_iload (pc2 := 59) dX11_times_57 rfl rfl ?_
    exact go_iret dX11_times_59 ⟨_, rfl, rfl⟩ ⟨rfl, _, rfl, k⟩
  · have k := k.2 c
    refine go_aload_n (pc2 := 15) dX11_times_14 rfl rfl rfl ?_
    refine go_iload (pc2 := 17) dX11_times_15 rfl rfl ?_
    obtain ⟨Q26, hC27, k⟩ := k
    refine gcV_I (pc2 := 20) (dC := 0) (As := [.int v3]) (st := []) rfl dX11_times_17 rfl w_1161 ok_X11_no vi_X11_no c_113 (by decide) rfl rfl rfl (by decide) (Nat.le_of_ble_eq_true rfl) hC27 (fun v28 h29 hq30 => ?_)
    have k := k v28 h29 hq30
    exact go_iret dX11_times_20 ⟨_, rfl, rfl⟩ ⟨rfl, _, rfl, k⟩
theorem e_X11_ageWrong {x1 : Int32} {x2 : Int32} {h : Hp} {Q : Int32 → Hp → Prop}  (k : (∃ Q1, CtI 1 mX11_isPlant [.ref 113, .int x1] h Q1 ∧ ∀ (v3 : Int32) (h4 : Hp), Q1 v3 h4 → ((¬ v3 = 0 → (∃ Q6, CtI 0 mX11_wrongBy [.int x2, .int (-4 : Int32), .int (4 : Int32)] h4 Q6 ∧ ∀ (v8 : Int32) (h9 : Hp), Q6 v8 h9 → ((¬ v8 = 0 → Q v8 h9) ∧ (v8 = 0 → ((¬ x2 = 0 → Q v8 h9) ∧ (x2 = 0 → Q (-3 : Int32) h9)))))) ∧ (v3 = 0 → Q (-1 : Int32) h4)))) : CtI 2 mX11_ageWrong [.ref 113, .int x1, .int x2] h Q := by
  refine Ct.of (by decide +kernel) (Nat.le_of_ble_eq_true rfl) ?_
  show GoI 2 mX11_ageWrong 0 [(0, .ref 113), (1, .int x1), (2, .int x2)] [] h Q
  refine go_aload_n (pc2 := 1) dX11_ageWrong_0 rfl rfl rfl ?_
  refine go_iload_n (pc2 := 2) dX11_ageWrong_1 rfl rfl rfl ?_
  obtain ⟨Q1, hC2, k⟩ := k
  refine gcV_I (pc2 := 5) (dC := 1) (As := [.int x1]) (st := []) rfl dX11_ageWrong_2 rfl w_1208 ok_X11_isPlant vi_X11_isPlant c_113 (by decide) rfl rfl rfl (by decide) (Nat.le_of_ble_eq_true rfl) hC2 (fun v3 h4 hq5 => ?_)
  have k := k v3 h4 hq5
  refine go_if_ne (pc2 := 8) (tgt := 10) dX11_ageWrong_5 rfl (by decide) (fun c => ?_) (fun c => ?_)
  · have k := k.1 c
    refine go_iload_n (pc2 := 11) dX11_ageWrong_10 rfl rfl rfl ?_
    refine go_bipush (pc2 := 13) (v := (-4 : Int32)) dX11_ageWrong_11 rfl (by decide) ?_
    refine go_iconst (pc2 := 14) (v := (4 : Int32)) dX11_ageWrong_13 rfl (by decide) ?_
    obtain ⟨Q6, hC7, k⟩ := k
    refine gcS_I (pc2 := 17) (dC := 0) (As := [.int x2, .int (-4 : Int32), .int (4 : Int32)]) (st := []) rfl dX11_ageWrong_14 rfl w_1158 ok_X11_wrongBy w_1159 rfl (by decide) (Nat.le_of_ble_eq_true rfl) hC7 (fun v8 h9 hq10 => ?_)
    have k := k v8 h9 hq10
    refine go_istore_n (pc2 := 18) (ls2 := [(0, .ref 113), (1, .int x1), (2, .int x2), (3, .int v8)]) dX11_ageWrong_17 rfl rfl rfl rfl rfl rfl ?_
    refine go_iload_n (pc2 := 19) dX11_ageWrong_18 rfl rfl rfl ?_
    refine go_if_ne (pc2 := 22) (tgt := 31) dX11_ageWrong_19 rfl (by decide) (fun c => ?_) (fun c => ?_)
    · have k := k.1 c
      refine go_iload_n (pc2 := 32) dX11_ageWrong_31 rfl rfl rfl ?_
      exact go_iret dX11_ageWrong_32 ⟨_, rfl, rfl⟩ ⟨rfl, _, rfl, k⟩
    · have k := k.2 c
      refine go_iload_n (pc2 := 23) dX11_ageWrong_22 rfl rfl rfl ?_
      refine go_if_ne (pc2 := 26) (tgt := 31) dX11_ageWrong_23 rfl (by decide) (fun c => ?_) (fun c => ?_)
      · have k := k.1 c
        refine go_iload_n (pc2 := 32) dX11_ageWrong_31 rfl rfl rfl ?_
        exact go_iret dX11_ageWrong_32 ⟨_, rfl, rfl⟩ ⟨rfl, _, rfl, k⟩
      · have k := k.2 c
        refine go_bipush (pc2 := 28) (v := (-3 : Int32)) dX11_ageWrong_26 rfl (by decide) ?_
        refine go_goto (tgt := 32) dX11_ageWrong_28 (by decide) ?_
        exact go_iret dX11_ageWrong_32 ⟨_, rfl, rfl⟩ ⟨rfl, _, rfl, k⟩
  · have k := k.2 c
    refine go_iconst (pc2 := 9) (v := (-1 : Int32)) dX11_ageWrong_8 rfl (by decide) ?_
    exact go_iret dX11_ageWrong_9 ⟨_, rfl, rfl⟩ ⟨rfl, _, rfl, k⟩
theorem e_X11_age {x1 : Int32} {x2 : Int32} {h : Hp} {Q : Int32 → Hp → Prop}  (k : (∃ Q1, CtI 2 mX11_ageWrong [.ref 113, .int x1, .int x2] h Q1 ∧ ∀ (v3 : Int32) (h4 : Hp), Q1 v3 h4 → ((v3 = 0 → (∃ Q6, CtI 0 mX11_of1 [.ref 113, .int x1, .int (9 : Int32)] h4 Q6 ∧ ∀ (v8 : Int32) (h9 : Hp), Q6 v8 h9 → (∃ Q11, CtV 0 mX11_sets [.ref 113, .int x1, .int (9 : Int32), .int x2] h9 Q11 ∧ ∀ h14 : Hp, Q11 h14 → Q (v8 + (10 : Int32)) h14))) ∧ (¬ v3 = 0 → (∃ Q16, CtI 0 mX11_no [.ref 113, .int v3] h4 Q16 ∧ ∀ (v18 : Int32) (h19 : Hp), Q16 v18 h19 → Q v18 h19))))) : CtI 3 mX11_age [.ref 113, .int x1, .int x2] h Q := by
  refine Ct.of (by decide +kernel) (Nat.le_of_ble_eq_true rfl) ?_
  show GoI 3 mX11_age 0 [(0, .ref 113), (1, .int x1), (2, .int x2)] [] h Q
  refine go_aload_n (pc2 := 1) dX11_age_0 rfl rfl rfl ?_
  refine go_iload_n (pc2 := 2) dX11_age_1 rfl rfl rfl ?_
  refine go_iload_n (pc2 := 3) dX11_age_2 rfl rfl rfl ?_
  obtain ⟨Q1, hC2, k⟩ := k
  refine gcV_I (pc2 := 6) (dC := 2) (As := [.int x1, .int x2]) (st := []) rfl dX11_age_3 rfl w_1236 ok_X11_ageWrong vi_X11_ageWrong c_113 (by decide) rfl rfl rfl (by decide) (Nat.le_of_ble_eq_true rfl) hC2 (fun v3 h4 hq5 => ?_)
  have k := k v3 h4 hq5
  refine go_istore_n (pc2 := 7) (ls2 := [(0, .ref 113), (1, .int x1), (2, .int x2), (3, .int v3)]) dX11_age_6 rfl rfl rfl rfl rfl rfl ?_
  refine go_iload_n (pc2 := 8) dX11_age_7 rfl rfl rfl ?_
  refine go_if_eq (pc2 := 11) (tgt := 17) dX11_age_8 rfl (by decide) (fun c => ?_) (fun c => ?_)
  · have k := k.1 c
    refine go_aload_n (pc2 := 18) dX11_age_17 rfl rfl rfl ?_
    refine go_iload_n (pc2 := 19) dX11_age_18 rfl rfl rfl ?_
    refine go_bipush (pc2 := 21) (v := (9 : Int32)) dX11_age_19 rfl (by decide) ?_
    obtain ⟨Q6, hC7, k⟩ := k
    refine gcV_I (pc2 := 24) (dC := 0) (As := [.int x1, .int (9 : Int32)]) (st := []) rfl dX11_age_21 rfl w_1212 ok_X11_of1 vi_X11_of1 c_113 (by decide) rfl rfl rfl (by decide) (Nat.le_of_ble_eq_true rfl) hC7 (fun v8 h9 hq10 => ?_)
    have k := k v8 h9 hq10
    refine go_bipush (pc2 := 26) (v := (10 : Int32)) dX11_age_24 rfl (by decide) ?_
    refine go_iadd (pc2 := 27) dX11_age_26 rfl ?_
    refine go_istore (pc2 := 29) (ls2 := [(0, .ref 113), (1, .int x1), (2, .int x2), (3, .int v3), (4, .int (v8 + (10 : Int32)))]) dX11_age_27 rfl rfl rfl rfl rfl ?_
    refine go_aload_n (pc2 := 30) dX11_age_29 rfl rfl rfl ?_
    refine go_iload_n (pc2 := 31) dX11_age_30 rfl rfl rfl ?_
    refine go_bipush (pc2 := 33) (v := (9 : Int32)) dX11_age_31 rfl (by decide) ?_
    refine go_iload_n (pc2 := 34) dX11_age_33 rfl rfl rfl ?_
    obtain ⟨Q11, hC12, k⟩ := k
    refine gcV_V (pc2 := 37) (dC := 0) (As := [.int x1, .int (9 : Int32), .int x2]) (st := []) rfl dX11_age_34 rfl w_1196 ok_X11_sets vi_X11_sets c_113 (by decide) rfl rfl rfl (by decide) (Nat.le_of_ble_eq_true rfl) hC12 (fun h14 hq15 => ?_)
    have k := k h14 hq15
    refine go_iload (pc2 := 39) dX11_age_37 rfl rfl ?_
    exact go_iret dX11_age_39 ⟨_, rfl, rfl⟩ ⟨rfl, _, rfl, k⟩
  · have k := k.2 c
    refine go_aload_n (pc2 := 12) dX11_age_11 rfl rfl rfl ?_
    refine go_iload_n (pc2 := 13) dX11_age_12 rfl rfl rfl ?_
    obtain ⟨Q16, hC17, k⟩ := k
    refine gcV_I (pc2 := 16) (dC := 0) (As := [.int v3]) (st := []) rfl dX11_age_13 rfl w_1161 ok_X11_no vi_X11_no c_113 (by decide) rfl rfl rfl (by decide) (Nat.le_of_ble_eq_true rfl) hC17 (fun v18 h19 hq20 => ?_)
    have k := k v18 h19 hq20
    exact go_iret dX11_age_16 ⟨_, rfl, rfl⟩ ⟨rfl, _, rfl, k⟩
theorem e_X11_merit {x1 : Int32} {h : Hp} {Q : Int32 → Hp → Prop}  (k : (∃ Q1, CtI 0 mX11_isIn [.long (x1).toInt64, .long (0 : Int64), .long (2 : Int64)] h Q1 ∧ ∀ (v3 : Int32) (h4 : Hp), Q1 v3 h4 → ((¬ v3 = 0 → (∀ g6 : Hp, g6 = (ui h4 114 1 x1) → Q (h4.1 114 1) g6)) ∧ (v3 = 0 → (∃ Q7, CtI 0 mX11_no [.ref 113, .int (-2 : Int32)] h4 Q7 ∧ ∀ (v9 : Int32) (h10 : Hp), Q7 v9 h10 → Q v9 h10))))) : CtI 1 mX11_merit [.ref 113, .int x1] h Q := by
  refine Ct.of (by decide +kernel) (Nat.le_of_ble_eq_true rfl) ?_
  show GoI 1 mX11_merit 0 [(0, .ref 113), (1, .int x1)] [] h Q
  refine go_iload_n (pc2 := 1) dX11_merit_0 rfl rfl rfl ?_
  refine go_i2l (pc2 := 2) dX11_merit_1 rfl ?_
  refine go_lconst (pc2 := 3) (v := (0 : Int64)) dX11_merit_2 rfl (by decide) ?_
  refine go_ldc2 (pc2 := 6) dX11_merit_3 rfl rfl w_1244 ?_
  obtain ⟨Q1, hC2, k⟩ := k
  refine gcS_I (pc2 := 9) (dC := 0) (As := [.long (x1).toInt64, .long (0 : Int64), .long (2 : Int64)]) (st := []) rfl dX11_merit_6 rfl w_1177 ok_X11_isIn w_1178 rfl (by decide) (Nat.le_of_ble_eq_true rfl) hC2 (fun v3 h4 hq5 => ?_)
  have k := k v3 h4 hq5
  refine go_if_ne (pc2 := 12) (tgt := 19) dX11_merit_9 rfl (by decide) (fun c => ?_) (fun c => ?_)
  · have k := k.1 c
    refine go_aload_n (pc2 := 20) dX11_merit_19 rfl rfl rfl ?_
    refine gf_1056 (pc2 := 23) rfl dX11_merit_20 rfl c_113 (fvs r_113_0) ?_
    refine go_iconst (pc2 := 24) (v := (1 : Int32)) dX11_merit_23 rfl (by decide) ?_
    refine go_iaload (pc2 := 25) (j := 1) dX11_merit_24 rfl c_114 (vp_c rfl) rfl ?_
    refine go_istore_n (pc2 := 26) (ls2 := [(0, .ref 113), (1, .int x1), (2, .int (h4.1 114 1))]) dX11_merit_25 rfl rfl rfl rfl rfl rfl ?_
    refine go_aload_n (pc2 := 27) dX11_merit_26 rfl rfl rfl ?_
    refine gf_1056 (pc2 := 30) rfl dX11_merit_27 rfl c_113 (fvs r_113_0) ?_
    refine go_iconst (pc2 := 31) (v := (1 : Int32)) dX11_merit_30 rfl (by decide) ?_
    refine go_iload_n (pc2 := 32) dX11_merit_31 rfl rfl rfl ?_
    refine go_iastore (pc2 := 33) (j := 1) dX11_merit_32 rfl c_114 (vp_c rfl) rfl ?_
    obtain ⟨g6, eg6⟩ : ∃ y : Hp, y = (ui h4 114 1 x1) := ⟨_, rfl⟩
    rw [← eg6]
    have k := k g6 eg6
    refine go_iload_n (pc2 := 34) dX11_merit_33 rfl rfl rfl ?_
    exact go_iret dX11_merit_34 ⟨_, rfl, rfl⟩ ⟨rfl, _, rfl, k⟩
  · have k := k.2 c
    refine go_aload_n (pc2 := 13) dX11_merit_12 rfl rfl rfl ?_
    refine go_bipush (pc2 := 15) (v := (-2 : Int32)) dX11_merit_13 rfl (by decide) ?_
    obtain ⟨Q7, hC8, k⟩ := k
    refine gcV_I (pc2 := 18) (dC := 0) (As := [.int (-2 : Int32)]) (st := []) rfl dX11_merit_15 rfl w_1161 ok_X11_no vi_X11_no c_113 (by decide) rfl rfl rfl (by decide) (Nat.le_of_ble_eq_true rfl) hC8 (fun v9 h10 hq11 => ?_)
    have k := k v9 h10 hq11
    exact go_iret dX11_merit_18 ⟨_, rfl, rfl⟩ ⟨rfl, _, rfl, k⟩
theorem e_X11_startsBy {x0 : Int32} {x1 : Int32} {x2 : Int32} {x3 : Int32} {h : Hp} {Q : Int32 → Hp → Prop}  (k : ((x3 ≤ (4 : Int32) → GoI 0 mX11_startsBy 10 [(0, .int x0), (1, .int x1), (2, .int x2)] [.int x3] h Q) ∧ (¬ (x3 ≤ (4 : Int32)) → GoI 0 mX11_startsBy 10 [(0, .int x0), (1, .int x1), (2, .int x2)] [.int (4 : Int32)] h Q))) : CtI 0 mX11_startsBy [.int x0, .int x1, .int x2, .int x3] h Q := by
  refine Ct.of (by decide +kernel) (Nat.le_of_ble_eq_true rfl) ?_
  show GoI 0 mX11_startsBy 0 [(0, .int x0), (1, .int x1), (2, .int x2), (3, .int x3)] [] h Q
  refine go_iload_n (pc2 := 1) dX11_startsBy_0 rfl rfl rfl ?_
  refine go_iconst (pc2 := 2) (v := (4 : Int32)) dX11_startsBy_1 rfl (by decide) ?_
  refine go_icmp_le (pc2 := 5) (tgt := 9) dX11_startsBy_2 rfl (by decide) (fun c => ?_) (fun c => ?_)
  · have k := k.1 c
    refine go_iload_n (pc2 := 10) dX11_startsBy_9 rfl rfl rfl ?_
    exact Go.pick [0, 1, 2] rfl k
  · have k := k.2 c
    refine go_iconst (pc2 := 6) (v := (4 : Int32)) dX11_startsBy_5 rfl (by decide) ?_
    refine go_goto (tgt := 10) dX11_startsBy_6 (by decide) ?_
    exact Go.pick [0, 1, 2] rfl k
theorem b_X11_startsBy_10 {x0 : Int32} {x1 : Int32} {x2 : Int32} {s0 : Int32} {h : Hp} {Q : Int32 → Hp → Prop}  (k : ((x0 = (1 : Int32) → Q (x2 + (x1 * s0)) h) ∧ (¬ x0 = (1 : Int32) → ((x0 = (3 : Int32) → Q ((2 : Int32) * x2) h) ∧ (¬ x0 = (3 : Int32) → ((x0 = (4 : Int32) → ((¬ s0 = (1 : Int32) → Q (x2 + (x1 * s0)) h) ∧ (s0 = (1 : Int32) → Q ((x2 + (x1 * s0)) / (2 : Int32)) h))) ∧ (¬ x0 = (4 : Int32) → ((x0 = (5 : Int32) → Q ((2 : Int32) * x2) h) ∧ (¬ x0 = (5 : Int32) → Q x2 h))))))))) : GoI 0 mX11_startsBy 10 [(0, .int x0), (1, .int x1), (2, .int x2)] [.int s0] h Q := by
  refine go_istore (pc2 := 12) (ls2 := [(0, .int x0), (1, .int x1), (2, .int x2), (4, .int s0)]) dX11_startsBy_10 rfl rfl rfl rfl rfl ?_
  refine go_iload_n (pc2 := 13) dX11_startsBy_12 rfl rfl rfl ?_
  refine go_iload_n (pc2 := 14) dX11_startsBy_13 rfl rfl rfl ?_
  refine go_iload (pc2 := 16) dX11_startsBy_14 rfl rfl ?_
  refine go_imul (pc2 := 17) dX11_startsBy_16 rfl ?_
  refine go_iadd (pc2 := 18) dX11_startsBy_17 rfl ?_
  refine go_istore (pc2 := 20) (ls2 := [(0, .int x0), (1, .int x1), (2, .int x2), (4, .int s0), (5, .int (x2 + (x1 * s0)))]) dX11_startsBy_18 rfl rfl rfl rfl rfl ?_
  refine go_iload_n (pc2 := 21) dX11_startsBy_20 rfl rfl rfl ?_
  by_cases cs0 : x0 = (1 : Int32)
  · have k := k.1 cs0
    refine go_tsEq (tgt := 56) dX11_startsBy_21 cs0 (by decide) (by decide) rfl (by decide) ?_
    refine go_iload (pc2 := 58) dX11_startsBy_56 rfl rfl ?_
    exact go_iret dX11_startsBy_58 ⟨_, rfl, rfl⟩ ⟨rfl, _, rfl, k⟩
  have k := k.2 cs0
  by_cases cs1 : x0 = (3 : Int32)
  · have k := k.1 cs1
    refine go_tsEq (tgt := 75) dX11_startsBy_21 cs1 (by decide) (by decide) rfl (by decide) ?_
    refine go_iconst (pc2 := 76) (v := (2 : Int32)) dX11_startsBy_75 rfl (by decide) ?_
    refine go_iload_n (pc2 := 77) dX11_startsBy_76 rfl rfl rfl ?_
    refine go_imul (pc2 := 78) dX11_startsBy_77 rfl ?_
    exact go_iret dX11_startsBy_78 ⟨_, rfl, rfl⟩ ⟨rfl, _, rfl, k⟩
  have k := k.2 cs1
  by_cases cs2 : x0 = (4 : Int32)
  · have k := k.1 cs2
    refine go_tsEq (tgt := 59) dX11_startsBy_21 cs2 (by decide) (by decide) rfl (by decide) ?_
    refine go_iload (pc2 := 61) dX11_startsBy_59 rfl rfl ?_
    refine go_iconst (pc2 := 62) (v := (1 : Int32)) dX11_startsBy_61 rfl (by decide) ?_
    refine go_icmp_ne (pc2 := 65) (tgt := 72) dX11_startsBy_62 rfl (by decide) (fun c => ?_) (fun c => ?_)
    · have k := k.1 c
      refine go_iload (pc2 := 74) dX11_startsBy_72 rfl rfl ?_
      exact go_iret dX11_startsBy_74 ⟨_, rfl, rfl⟩ ⟨rfl, _, rfl, k⟩
    · have k := k.2 c
      refine go_iload (pc2 := 67) dX11_startsBy_65 rfl rfl ?_
      refine go_iconst (pc2 := 68) (v := (2 : Int32)) dX11_startsBy_67 rfl (by decide) ?_
      refine go_idiv (pc2 := 69) dX11_startsBy_68 rfl (by decide) ?_
      refine go_goto (tgt := 74) dX11_startsBy_69 (by decide) ?_
      exact go_iret dX11_startsBy_74 ⟨_, rfl, rfl⟩ ⟨rfl, _, rfl, k⟩
  have k := k.2 cs2
  by_cases cs3 : x0 = (5 : Int32)
  · have k := k.1 cs3
    refine go_tsEq (tgt := 75) dX11_startsBy_21 cs3 (by decide) (by decide) rfl (by decide) ?_
    refine go_iconst (pc2 := 76) (v := (2 : Int32)) dX11_startsBy_75 rfl (by decide) ?_
    refine go_iload_n (pc2 := 77) dX11_startsBy_76 rfl rfl rfl ?_
    refine go_imul (pc2 := 78) dX11_startsBy_77 rfl ?_
    exact go_iret dX11_startsBy_78 ⟨_, rfl, rfl⟩ ⟨rfl, _, rfl, k⟩
  have k := k.2 cs3
  by_cases cb : x0.toInt < 1 ∨ 5 < x0.toInt
  · refine go_tsOut (tgt := 79) dX11_startsBy_21 cb (by decide) ?_
    refine go_iload_n (pc2 := 80) dX11_startsBy_79 rfl rfl rfl ?_
    exact go_iret dX11_startsBy_80 ⟨_, rfl, rfl⟩ ⟨rfl, _, rfl, k⟩
  · have ch : x0 = (2 : Int32) := by
      have q1 := cb
      have e0 := i32_ne cs0 (by decide : ((1 : Int32)).toInt = 1)
      have e1 := i32_ne cs1 (by decide : ((3 : Int32)).toInt = 3)
      have e2 := i32_ne cs2 (by decide : ((4 : Int32)).toInt = 4)
      have e3 := i32_ne cs3 (by decide : ((5 : Int32)).toInt = 5)
      have q2 : x0.toInt = 2 := by omega
      exact i32_eq q2 (by decide)
    · refine go_tsEq (tgt := 79) dX11_startsBy_21 ch (by decide) (by decide) rfl (by decide) ?_
      refine go_iload_n (pc2 := 80) dX11_startsBy_79 rfl rfl rfl ?_
      exact go_iret dX11_startsBy_80 ⟨_, rfl, rfl⟩ ⟨rfl, _, rfl, k⟩
theorem e_X11_startsOf {x1 : Int32} {x2 : Int32} {h : Hp} {Q : Int32 → Hp → Prop}  (k : (∃ Q1, CtI 0 mX11_of1 [.ref 113, .int x1, .int (0 : Int32)] h Q1 ∧ ∀ (v3 : Int32) (h4 : Hp), Q1 v3 h4 → (∃ Q6, CtI 0 mX11_of1 [.ref 113, .int x1, .int (1 : Int32)] h4 Q6 ∧ ∀ (v8 : Int32) (h9 : Hp), Q6 v8 h9 → (∃ Q11, CtI 0 mX11_of1 [.ref 113, .int x1, .int (6 : Int32)] h9 Q11 ∧ ∀ (v13 : Int32) (h14 : Hp), Q11 v13 h14 → (∃ Q16, CtI 0 mX11_startsBy [.int v3, .int v8, .int v13, .int x2] h14 Q16 ∧ ∀ (v18 : Int32) (h19 : Hp), Q16 v18 h19 → Q v18 h19))))) : CtI 1 mX11_startsOf [.ref 113, .int x1, .int x2] h Q := by
  refine Ct.of (by decide +kernel) (Nat.le_of_ble_eq_true rfl) ?_
  show GoI 1 mX11_startsOf 0 [(0, .ref 113), (1, .int x1), (2, .int x2)] [] h Q
  refine go_aload_n (pc2 := 1) dX11_startsOf_0 rfl rfl rfl ?_
  refine go_iload_n (pc2 := 2) dX11_startsOf_1 rfl rfl rfl ?_
  refine go_iconst (pc2 := 3) (v := (0 : Int32)) dX11_startsOf_2 rfl (by decide) ?_
  obtain ⟨Q1, hC2, k⟩ := k
  refine gcV_I (pc2 := 6) (dC := 0) (As := [.int x1, .int (0 : Int32)]) (st := []) rfl dX11_startsOf_3 rfl w_1212 ok_X11_of1 vi_X11_of1 c_113 (by decide) rfl rfl rfl (by decide) (Nat.le_of_ble_eq_true rfl) hC2 (fun v3 h4 hq5 => ?_)
  have k := k v3 h4 hq5
  refine go_aload_n (pc2 := 7) dX11_startsOf_6 rfl rfl rfl ?_
  refine go_iload_n (pc2 := 8) dX11_startsOf_7 rfl rfl rfl ?_
  refine go_iconst (pc2 := 9) (v := (1 : Int32)) dX11_startsOf_8 rfl (by decide) ?_
  obtain ⟨Q6, hC7, k⟩ := k
  refine gcV_I (pc2 := 12) (dC := 0) (As := [.int x1, .int (1 : Int32)]) (st := [.int v3]) rfl dX11_startsOf_9 rfl w_1212 ok_X11_of1 vi_X11_of1 c_113 (by decide) rfl rfl rfl (by decide) (Nat.le_of_ble_eq_true rfl) hC7 (fun v8 h9 hq10 => ?_)
  have k := k v8 h9 hq10
  refine go_aload_n (pc2 := 13) dX11_startsOf_12 rfl rfl rfl ?_
  refine go_iload_n (pc2 := 14) dX11_startsOf_13 rfl rfl rfl ?_
  refine go_bipush (pc2 := 16) (v := (6 : Int32)) dX11_startsOf_14 rfl (by decide) ?_
  obtain ⟨Q11, hC12, k⟩ := k
  refine gcV_I (pc2 := 19) (dC := 0) (As := [.int x1, .int (6 : Int32)]) (st := [.int v8, .int v3]) rfl dX11_startsOf_16 rfl w_1212 ok_X11_of1 vi_X11_of1 c_113 (by decide) rfl rfl rfl (by decide) (Nat.le_of_ble_eq_true rfl) hC12 (fun v13 h14 hq15 => ?_)
  have k := k v13 h14 hq15
  refine go_iload_n (pc2 := 20) dX11_startsOf_19 rfl rfl rfl ?_
  obtain ⟨Q16, hC17, k⟩ := k
  refine gcS_I (pc2 := 23) (dC := 0) (As := [.int v3, .int v8, .int v13, .int x2]) (st := []) rfl dX11_startsOf_20 rfl w_1267 ok_X11_startsBy w_1268 rfl (by decide) (Nat.le_of_ble_eq_true rfl) hC17 (fun v18 h19 hq20 => ?_)
  have k := k v18 h19 hq20
  exact go_iret dX11_startsOf_23 ⟨_, rfl, rfl⟩ ⟨rfl, _, rfl, k⟩
theorem e_X11_leastOf {x1 : Int32} {h : Hp} {Q : Int32 → Hp → Prop}  (k : (∃ Q1, CtI 0 mX11_of1 [.ref 113, .int x1, .int (0 : Int32)] h Q1 ∧ ∀ (v3 : Int32) (h4 : Hp), Q1 v3 h4 → ((¬ v3 = (5 : Int32) → (∃ Q6, CtI 0 mX11_of1 [.ref 113, .int x1, .int (2 : Int32)] h4 Q6 ∧ ∀ (v8 : Int32) (h9 : Hp), Q6 v8 h9 → Q v8 h9)) ∧ (v3 = (5 : Int32) → (∃ Q11, CtI 0 mX11_of1 [.ref 113, .int x1, .int (3 : Int32)] h4 Q11 ∧ ∀ (v13 : Int32) (h14 : Hp), Q11 v13 h14 → Q v13 h14))))) : CtI 1 mX11_leastOf [.ref 113, .int x1] h Q := by
  refine Ct.of (by decide +kernel) (Nat.le_of_ble_eq_true rfl) ?_
  show GoI 1 mX11_leastOf 0 [(0, .ref 113), (1, .int x1)] [] h Q
  refine go_aload_n (pc2 := 1) dX11_leastOf_0 rfl rfl rfl ?_
  refine go_iload_n (pc2 := 2) dX11_leastOf_1 rfl rfl rfl ?_
  refine go_iconst (pc2 := 3) (v := (0 : Int32)) dX11_leastOf_2 rfl (by decide) ?_
  obtain ⟨Q1, hC2, k⟩ := k
  refine gcV_I (pc2 := 6) (dC := 0) (As := [.int x1, .int (0 : Int32)]) (st := []) rfl dX11_leastOf_3 rfl w_1212 ok_X11_of1 vi_X11_of1 c_113 (by decide) rfl rfl rfl (by decide) (Nat.le_of_ble_eq_true rfl) hC2 (fun v3 h4 hq5 => ?_)
  have k := k v3 h4 hq5
  refine go_iconst (pc2 := 7) (v := (5 : Int32)) dX11_leastOf_6 rfl (by decide) ?_
  refine go_icmp_ne (pc2 := 10) (tgt := 19) dX11_leastOf_7 rfl (by decide) (fun c => ?_) (fun c => ?_)
  · have k := k.1 c
    refine go_aload_n (pc2 := 20) dX11_leastOf_19 rfl rfl rfl ?_
    refine go_iload_n (pc2 := 21) dX11_leastOf_20 rfl rfl rfl ?_
    refine go_iconst (pc2 := 22) (v := (2 : Int32)) dX11_leastOf_21 rfl (by decide) ?_
    obtain ⟨Q6, hC7, k⟩ := k
    refine gcV_I (pc2 := 25) (dC := 0) (As := [.int x1, .int (2 : Int32)]) (st := []) rfl dX11_leastOf_22 rfl w_1212 ok_X11_of1 vi_X11_of1 c_113 (by decide) rfl rfl rfl (by decide) (Nat.le_of_ble_eq_true rfl) hC7 (fun v8 h9 hq10 => ?_)
    have k := k v8 h9 hq10
    exact go_iret dX11_leastOf_25 ⟨_, rfl, rfl⟩ ⟨rfl, _, rfl, k⟩
  · have k := k.2 c
    refine go_aload_n (pc2 := 11) dX11_leastOf_10 rfl rfl rfl ?_
    refine go_iload_n (pc2 := 12) dX11_leastOf_11 rfl rfl rfl ?_
    refine go_iconst (pc2 := 13) (v := (3 : Int32)) dX11_leastOf_12 rfl (by decide) ?_
    obtain ⟨Q11, hC12, k⟩ := k
    refine gcV_I (pc2 := 16) (dC := 0) (As := [.int x1, .int (3 : Int32)]) (st := []) rfl dX11_leastOf_13 rfl w_1212 ok_X11_of1 vi_X11_of1 c_113 (by decide) rfl rfl rfl (by decide) (Nat.le_of_ble_eq_true rfl) hC12 (fun v13 h14 hq15 => ?_)
    have k := k v13 h14 hq15
    refine go_goto (tgt := 25) dX11_leastOf_16 (by decide) ?_
    exact go_iret dX11_leastOf_25 ⟨_, rfl, rfl⟩ ⟨rfl, _, rfl, k⟩
theorem e_X11_mostOf {x1 : Int32} {x2 : Int32} {h : Hp} {Q : Int32 → Hp → Prop}  (k : (∃ Q1, CtI 0 mX11_of1 [.ref 113, .int x1, .int (0 : Int32)] h Q1 ∧ ∀ (v3 : Int32) (h4 : Hp), Q1 v3 h4 → ((x2 = 0 → (∃ Q6, CtI 0 mX11_of1 [.ref 113, .int x1, .int (3 : Int32)] h4 Q6 ∧ ∀ (v8 : Int32) (h9 : Hp), Q6 v8 h9 → Q v8 h9)) ∧ (¬ x2 = 0 → ((v3 = (2 : Int32) → GoI 1 mX11_mostOf 21 [(0, .ref 113), (1, .int x1)] [] h4 Q) ∧ (¬ v3 = (2 : Int32) → ((¬ v3 = (3 : Int32) → (∃ Q11, CtI 0 mX11_of1 [.ref 113, .int x1, .int (3 : Int32)] h4 Q11 ∧ ∀ (v13 : Int32) (h14 : Hp), Q11 v13 h14 → Q v13 h14)) ∧ (v3 = (3 : Int32) → GoI 1 mX11_mostOf 21 [(0, .ref 113), (1, .int x1)] [] h4 Q)))))))) : CtI 1 mX11_mostOf [.ref 113, .int x1, .int x2] h Q := by
  refine Ct.of (by decide +kernel) (Nat.le_of_ble_eq_true rfl) ?_
  show GoI 1 mX11_mostOf 0 [(0, .ref 113), (1, .int x1), (2, .int x2)] [] h Q
  refine go_aload_n (pc2 := 1) dX11_mostOf_0 rfl rfl rfl ?_
  refine go_iload_n (pc2 := 2) dX11_mostOf_1 rfl rfl rfl ?_
  refine go_iconst (pc2 := 3) (v := (0 : Int32)) dX11_mostOf_2 rfl (by decide) ?_
  obtain ⟨Q1, hC2, k⟩ := k
  refine gcV_I (pc2 := 6) (dC := 0) (As := [.int x1, .int (0 : Int32)]) (st := []) rfl dX11_mostOf_3 rfl w_1212 ok_X11_of1 vi_X11_of1 c_113 (by decide) rfl rfl rfl (by decide) (Nat.le_of_ble_eq_true rfl) hC2 (fun v3 h4 hq5 => ?_)
  have k := k v3 h4 hq5
  refine go_istore_n (pc2 := 7) (ls2 := [(0, .ref 113), (1, .int x1), (2, .int x2), (3, .int v3)]) dX11_mostOf_6 rfl rfl rfl rfl rfl rfl ?_
  refine go_iload_n (pc2 := 8) dX11_mostOf_7 rfl rfl rfl ?_
  refine go_if_eq (pc2 := 11) (tgt := 46) dX11_mostOf_8 rfl (by decide) (fun c => ?_) (fun c => ?_)
  · have k := k.1 c
    refine go_aload_n (pc2 := 47) dX11_mostOf_46 rfl rfl rfl ?_
    refine go_iload_n (pc2 := 48) dX11_mostOf_47 rfl rfl rfl ?_
    refine go_iconst (pc2 := 49) (v := (3 : Int32)) dX11_mostOf_48 rfl (by decide) ?_
    obtain ⟨Q6, hC7, k⟩ := k
    refine gcV_I (pc2 := 52) (dC := 0) (As := [.int x1, .int (3 : Int32)]) (st := []) rfl dX11_mostOf_49 rfl w_1212 ok_X11_of1 vi_X11_of1 c_113 (by decide) rfl rfl rfl (by decide) (Nat.le_of_ble_eq_true rfl) hC7 (fun v8 h9 hq10 => ?_)
    have k := k v8 h9 hq10
    exact go_iret dX11_mostOf_52 ⟨_, rfl, rfl⟩ ⟨rfl, _, rfl, k⟩
  · have k := k.2 c
    refine go_iload_n (pc2 := 12) dX11_mostOf_11 rfl rfl rfl ?_
    refine go_iconst (pc2 := 13) (v := (2 : Int32)) dX11_mostOf_12 rfl (by decide) ?_
    refine go_icmp_eq (pc2 := 16) (tgt := 21) dX11_mostOf_13 rfl (by decide) (fun c => ?_) (fun c => ?_)
    · have k := k.1 c
      exact Go.pick [0, 1] rfl k
    · have k := k.2 c
      refine go_iload_n (pc2 := 17) dX11_mostOf_16 rfl rfl rfl ?_
      refine go_iconst (pc2 := 18) (v := (3 : Int32)) dX11_mostOf_17 rfl (by decide) ?_
      refine go_icmp_ne (pc2 := 21) (tgt := 46) dX11_mostOf_18 rfl (by decide) (fun c => ?_) (fun c => ?_)
      · have k := k.1 c
        refine go_aload_n (pc2 := 47) dX11_mostOf_46 rfl rfl rfl ?_
        refine go_iload_n (pc2 := 48) dX11_mostOf_47 rfl rfl rfl ?_
        refine go_iconst (pc2 := 49) (v := (3 : Int32)) dX11_mostOf_48 rfl (by decide) ?_
        obtain ⟨Q11, hC12, k⟩ := k
        refine gcV_I (pc2 := 52) (dC := 0) (As := [.int x1, .int (3 : Int32)]) (st := []) rfl dX11_mostOf_49 rfl w_1212 ok_X11_of1 vi_X11_of1 c_113 (by decide) rfl rfl rfl (by decide) (Nat.le_of_ble_eq_true rfl) hC12 (fun v13 h14 hq15 => ?_)
        have k := k v13 h14 hq15
        exact go_iret dX11_mostOf_52 ⟨_, rfl, rfl⟩ ⟨rfl, _, rfl, k⟩
      · have k := k.2 c
        exact Go.pick [0, 1] rfl k
theorem b_X11_mostOf_21 {x1 : Int32} {h : Hp} {Q : Int32 → Hp → Prop}  (k : (∃ Q1, CtI 0 mX11_of1 [.ref 113, .int x1, .int (3 : Int32)] h Q1 ∧ ∀ (v3 : Int32) (h4 : Hp), Q1 v3 h4 → (∃ Q6, CtI 0 mX11_of1 [.ref 113, .int x1, .int (2 : Int32)] h4 Q6 ∧ ∀ (v8 : Int32) (h9 : Hp), Q6 v8 h9 → (∃ Q11, CtI 0 mX11_of1 [.ref 113, .int x1, .int (1 : Int32)] h9 Q11 ∧ ∀ (v13 : Int32) (h14 : Hp), Q11 v13 h14 → (∃ Q16, CtI 0 mJ9_min_7cf53 [.int v3, .int (v8 + v13)] h14 Q16 ∧ ∀ (v18 : Int32) (h19 : Hp), Q16 v18 h19 → Q v18 h19))))) : GoI 1 mX11_mostOf 21 [(0, .ref 113), (1, .int x1)] [] h Q := by
  refine go_aload_n (pc2 := 22) dX11_mostOf_21 rfl rfl rfl ?_
  refine go_iload_n (pc2 := 23) dX11_mostOf_22 rfl rfl rfl ?_
  refine go_iconst (pc2 := 24) (v := (3 : Int32)) dX11_mostOf_23 rfl (by decide) ?_
  obtain ⟨Q1, hC2, k⟩ := k
  refine gcV_I (pc2 := 27) (dC := 0) (As := [.int x1, .int (3 : Int32)]) (st := []) rfl dX11_mostOf_24 rfl w_1212 ok_X11_of1 vi_X11_of1 c_113 (by decide) rfl rfl rfl (by decide) (Nat.le_of_ble_eq_true rfl) hC2 (fun v3 h4 hq5 => ?_)
  have k := k v3 h4 hq5
  refine go_aload_n (pc2 := 28) dX11_mostOf_27 rfl rfl rfl ?_
  refine go_iload_n (pc2 := 29) dX11_mostOf_28 rfl rfl rfl ?_
  refine go_iconst (pc2 := 30) (v := (2 : Int32)) dX11_mostOf_29 rfl (by decide) ?_
  obtain ⟨Q6, hC7, k⟩ := k
  refine gcV_I (pc2 := 33) (dC := 0) (As := [.int x1, .int (2 : Int32)]) (st := [.int v3]) rfl dX11_mostOf_30 rfl w_1212 ok_X11_of1 vi_X11_of1 c_113 (by decide) rfl rfl rfl (by decide) (Nat.le_of_ble_eq_true rfl) hC7 (fun v8 h9 hq10 => ?_)
  have k := k v8 h9 hq10
  refine go_aload_n (pc2 := 34) dX11_mostOf_33 rfl rfl rfl ?_
  refine go_iload_n (pc2 := 35) dX11_mostOf_34 rfl rfl rfl ?_
  refine go_iconst (pc2 := 36) (v := (1 : Int32)) dX11_mostOf_35 rfl (by decide) ?_
  obtain ⟨Q11, hC12, k⟩ := k
  refine gcV_I (pc2 := 39) (dC := 0) (As := [.int x1, .int (1 : Int32)]) (st := [.int v8, .int v3]) rfl dX11_mostOf_36 rfl w_1212 ok_X11_of1 vi_X11_of1 c_113 (by decide) rfl rfl rfl (by decide) (Nat.le_of_ble_eq_true rfl) hC12 (fun v13 h14 hq15 => ?_)
  have k := k v13 h14 hq15
  refine go_iadd (pc2 := 40) dX11_mostOf_39 rfl ?_
  obtain ⟨Q16, hC17, k⟩ := k
  refine gcS_I (pc2 := 43) (dC := 0) (As := [.int v3, .int (v8 + v13)]) (st := []) rfl dX11_mostOf_40 rfl w_1258 ok_J9_min_7cf53 w_640 rfl (by decide) (Nat.le_of_ble_eq_true rfl) hC17 (fun v18 h19 hq20 => ?_)
  have k := k v18 h19 hq20
  refine go_goto (tgt := 52) dX11_mostOf_43 (by decide) ?_
  exact go_iret dX11_mostOf_52 ⟨_, rfl, rfl⟩ ⟨rfl, _, rfl, k⟩
theorem e_X11_of {x1 : Int32} {x2 : Int32} {h : Hp} {Q : Int32 → Hp → Prop}  (k : (∃ Q1, CtI 1 mX11_isPlant [.ref 113, .int x1] h Q1 ∧ ∀ (v3 : Int32) (h4 : Hp), Q1 v3 h4 → ((¬ v3 = 0 → (∃ Q6, CtI 0 mX11_isIn [.long (x2).toInt64, .long (0 : Int64), .long (11 : Int64)] h4 Q6 ∧ ∀ (v8 : Int32) (h9 : Hp), Q6 v8 h9 → ((¬ v8 = 0 → ((¬ x2 = (10 : Int32) → ((¬ x2 = (11 : Int32) → (∃ Q11, CtI 0 mX11_of1 [.ref 113, .int x1, .int x2] h9 Q11 ∧ ∀ (v13 : Int32) (h14 : Hp), Q11 v13 h14 → Q (v13 + (if x2 = (9 : Int32) then (10 : Int32) else (0 : Int32))) h14)) ∧ (x2 = (11 : Int32) → (∃ Q16, CtI 1 mX11_mostOf [.ref 113, .int x1, .int (1 : Int32)] h9 Q16 ∧ ∀ (v18 : Int32) (h19 : Hp), Q16 v18 h19 → Q v18 h19)))) ∧ (x2 = (10 : Int32) → (∃ Q21, CtI 1 mX11_leastOf [.ref 113, .int x1] h9 Q21 ∧ ∀ (v23 : Int32) (h24 : Hp), Q21 v23 h24 → Q v23 h24)))) ∧ (v8 = 0 → (∃ Q26, CtI 0 mX11_no [.ref 113, .int (-2 : Int32)] h9 Q26 ∧ ∀ (v28 : Int32) (h29 : Hp), Q26 v28 h29 → Q v28 h29))))) ∧ (v3 = 0 → (∃ Q31, CtI 0 mX11_no [.ref 113, .int (-1 : Int32)] h4 Q31 ∧ ∀ (v33 : Int32) (h34 : Hp), Q31 v33 h34 → Q v33 h34))))) : CtI 2 mX11_of [.ref 113, .int x1, .int x2] h Q := by
  refine Ct.of (by decide +kernel) (Nat.le_of_ble_eq_true rfl) ?_
  show GoI 2 mX11_of 0 [(0, .ref 113), (1, .int x1), (2, .int x2)] [] h Q
  refine go_aload_n (pc2 := 1) dX11_of_0 rfl rfl rfl ?_
  refine go_iload_n (pc2 := 2) dX11_of_1 rfl rfl rfl ?_
  obtain ⟨Q1, hC2, k⟩ := k
  refine gcV_I (pc2 := 5) (dC := 1) (As := [.int x1]) (st := []) rfl dX11_of_2 rfl w_1208 ok_X11_isPlant vi_X11_isPlant c_113 (by decide) rfl rfl rfl (by decide) (Nat.le_of_ble_eq_true rfl) hC2 (fun v3 h4 hq5 => ?_)
  have k := k v3 h4 hq5
  refine go_if_ne (pc2 := 8) (tgt := 14) dX11_of_5 rfl (by decide) (fun c => ?_) (fun c => ?_)
  · have k := k.1 c
    refine go_iload_n (pc2 := 15) dX11_of_14 rfl rfl rfl ?_
    refine go_i2l (pc2 := 16) dX11_of_15 rfl ?_
    refine go_lconst (pc2 := 17) (v := (0 : Int64)) dX11_of_16 rfl (by decide) ?_
    refine go_ldc2 (pc2 := 20) dX11_of_17 rfl rfl w_1249 ?_
    obtain ⟨Q6, hC7, k⟩ := k
    refine gcS_I (pc2 := 23) (dC := 0) (As := [.long (x2).toInt64, .long (0 : Int64), .long (11 : Int64)]) (st := []) rfl dX11_of_20 rfl w_1177 ok_X11_isIn w_1178 rfl (by decide) (Nat.le_of_ble_eq_true rfl) hC7 (fun v8 h9 hq10 => ?_)
    have k := k v8 h9 hq10
    refine go_if_ne (pc2 := 26) (tgt := 33) dX11_of_23 rfl (by decide) (fun c => ?_) (fun c => ?_)
    · have k := k.1 c
      refine go_iload_n (pc2 := 34) dX11_of_33 rfl rfl rfl ?_
      refine go_bipush (pc2 := 36) (v := (10 : Int32)) dX11_of_34 rfl (by decide) ?_
      refine go_icmp_ne (pc2 := 39) (tgt := 47) dX11_of_36 rfl (by decide) (fun c => ?_) (fun c => ?_)
      · have k := k.1 c
        refine go_iload_n (pc2 := 48) dX11_of_47 rfl rfl rfl ?_
        refine go_bipush (pc2 := 50) (v := (11 : Int32)) dX11_of_48 rfl (by decide) ?_
        refine go_icmp_ne (pc2 := 53) (tgt := 62) dX11_of_50 rfl (by decide) (fun c => ?_) (fun c => ?_)
        · have k := k.1 c
          refine go_aload_n (pc2 := 63) dX11_of_62 rfl rfl rfl ?_
          refine go_iload_n (pc2 := 64) dX11_of_63 rfl rfl rfl ?_
          refine go_iload_n (pc2 := 65) dX11_of_64 rfl rfl rfl ?_
          obtain ⟨Q11, hC12, k⟩ := k
          refine gcV_I (pc2 := 68) (dC := 0) (As := [.int x1, .int x2]) (st := []) rfl dX11_of_65 rfl w_1212 ok_X11_of1 vi_X11_of1 c_113 (by decide) rfl rfl rfl (by decide) (Nat.le_of_ble_eq_true rfl) hC12 (fun v13 h14 hq15 => ?_)
          have k := k v13 h14 hq15
          refine go_iload_n (pc2 := 69) dX11_of_68 rfl rfl rfl ?_
          refine go_bipush (pc2 := 71) (v := (9 : Int32)) dX11_of_69 rfl (by decide) ?_
          have J : GoI 2 mX11_of 80 [(0, .ref 113), (1, .int x1), (2, .int x2)] [.int (if x2 = (9 : Int32) then (10 : Int32) else (0 : Int32)), .int v13] h14 Q := by
            refine go_iadd (pc2 := 81) dX11_of_80 rfl ?_
            exact go_iret dX11_of_81 ⟨_, rfl, rfl⟩ ⟨rfl, _, rfl, k⟩
          refine go_icmp_ne (pc2 := 74) (tgt := 79) dX11_of_71 rfl (by decide) (fun c => ?_) (fun c => ?_)
          · rw [if_neg c] at J
            exact go_iconst (pc2 := 80) dX11_of_79 rfl (by decide) J
          · rw [if_pos c] at J
            exact go_bipush (pc2 := 76) dX11_of_74 rfl (by decide) (go_goto (tgt := 80) dX11_of_76 (by decide) J)
        · have k := k.2 c
          refine go_aload_n (pc2 := 54) dX11_of_53 rfl rfl rfl ?_
          refine go_iload_n (pc2 := 55) dX11_of_54 rfl rfl rfl ?_
          refine go_iconst (pc2 := 56) (v := (1 : Int32)) dX11_of_55 rfl (by decide) ?_
          obtain ⟨Q16, hC17, k⟩ := k
          refine gcV_I (pc2 := 59) (dC := 1) (As := [.int x1, .int (1 : Int32)]) (st := []) rfl dX11_of_56 rfl w_1254 ok_X11_mostOf vi_X11_mostOf c_113 (by decide) rfl rfl rfl (by decide) (Nat.le_of_ble_eq_true rfl) hC17 (fun v18 h19 hq20 => ?_)
          have k := k v18 h19 hq20
          refine go_goto (tgt := 81) dX11_of_59 (by decide) ?_
          exact go_iret dX11_of_81 ⟨_, rfl, rfl⟩ ⟨rfl, _, rfl, k⟩
      · have k := k.2 c
        refine go_aload_n (pc2 := 40) dX11_of_39 rfl rfl rfl ?_
        refine go_iload_n (pc2 := 41) dX11_of_40 rfl rfl rfl ?_
        obtain ⟨Q21, hC22, k⟩ := k
        refine gcV_I (pc2 := 44) (dC := 1) (As := [.int x1]) (st := []) rfl dX11_of_41 rfl w_1250 ok_X11_leastOf vi_X11_leastOf c_113 (by decide) rfl rfl rfl (by decide) (Nat.le_of_ble_eq_true rfl) hC22 (fun v23 h24 hq25 => ?_)
        have k := k v23 h24 hq25
        refine go_goto (tgt := 81) dX11_of_44 (by decide) ?_
        exact go_iret dX11_of_81 ⟨_, rfl, rfl⟩ ⟨rfl, _, rfl, k⟩
    · have k := k.2 c
      refine go_aload_n (pc2 := 27) dX11_of_26 rfl rfl rfl ?_
      refine go_bipush (pc2 := 29) (v := (-2 : Int32)) dX11_of_27 rfl (by decide) ?_
      obtain ⟨Q26, hC27, k⟩ := k
      refine gcV_I (pc2 := 32) (dC := 0) (As := [.int (-2 : Int32)]) (st := []) rfl dX11_of_29 rfl w_1161 ok_X11_no vi_X11_no c_113 (by decide) rfl rfl rfl (by decide) (Nat.le_of_ble_eq_true rfl) hC27 (fun v28 h29 hq30 => ?_)
      have k := k v28 h29 hq30
      exact go_iret dX11_of_32 ⟨_, rfl, rfl⟩ ⟨rfl, _, rfl, k⟩
  · have k := k.2 c
    refine go_aload_n (pc2 := 9) dX11_of_8 rfl rfl rfl ?_
    refine go_iconst (pc2 := 10) (v := (-1 : Int32)) dX11_of_9 rfl (by decide) ?_
    obtain ⟨Q31, hC32, k⟩ := k
    refine gcV_I (pc2 := 13) (dC := 0) (As := [.int (-1 : Int32)]) (st := []) rfl dX11_of_10 rfl w_1161 ok_X11_no vi_X11_no c_113 (by decide) rfl rfl rfl (by decide) (Nat.le_of_ble_eq_true rfl) hC32 (fun v33 h34 hq35 => ?_)
    have k := k v33 h34 hq35
    exact go_iret dX11_of_13 ⟨_, rfl, rfl⟩ ⟨rfl, _, rfl, k⟩
theorem e_X11_starts {x1 : Int32} {x2 : Int32} {h : Hp} {Q : Int32 → Hp → Prop}  (k : (∃ Q1, CtI 1 mX11_isPlant [.ref 113, .int x1] h Q1 ∧ ∀ (v3 : Int32) (h4 : Hp), Q1 v3 h4 → ((v3 = 0 → (((-1 : Int32) = 0 → (∃ Q6, CtI 1 mX11_startsOf [.ref 113, .int x1, .int x2] h4 Q6 ∧ ∀ (v8 : Int32) (h9 : Hp), Q6 v8 h9 → Q v8 h9)) ∧ (¬ (-1 : Int32) = 0 → (∃ Q11, CtI 0 mX11_no [.ref 113, .int (-1 : Int32)] h4 Q11 ∧ ∀ (v13 : Int32) (h14 : Hp), Q11 v13 h14 → Q v13 h14)))) ∧ (¬ v3 = 0 → (∃ Q16, CtI 0 mX11_wrongBy [.int x2, .int (1 : Int32), .int (9 : Int32)] h4 Q16 ∧ ∀ (v18 : Int32) (h19 : Hp), Q16 v18 h19 → ((v18 = 0 → (∃ Q21, CtI 1 mX11_startsOf [.ref 113, .int x1, .int x2] h19 Q21 ∧ ∀ (v23 : Int32) (h24 : Hp), Q21 v23 h24 → Q v23 h24)) ∧ (¬ v18 = 0 → (∃ Q26, CtI 0 mX11_no [.ref 113, .int v18] h19 Q26 ∧ ∀ (v28 : Int32) (h29 : Hp), Q26 v28 h29 → Q v28 h29)))))))) : CtI 2 mX11_starts [.ref 113, .int x1, .int x2] h Q := by
  refine Ct.of (by decide +kernel) (Nat.le_of_ble_eq_true rfl) ?_
  show GoI 2 mX11_starts 0 [(0, .ref 113), (1, .int x1), (2, .int x2)] [] h Q
  refine go_aload_n (pc2 := 1) dX11_starts_0 rfl rfl rfl ?_
  refine go_iload_n (pc2 := 2) dX11_starts_1 rfl rfl rfl ?_
  obtain ⟨Q1, hC2, k⟩ := k
  refine gcV_I (pc2 := 5) (dC := 1) (As := [.int x1]) (st := []) rfl dX11_starts_2 rfl w_1208 ok_X11_isPlant vi_X11_isPlant c_113 (by decide) rfl rfl rfl (by decide) (Nat.le_of_ble_eq_true rfl) hC2 (fun v3 h4 hq5 => ?_)
  have k := k v3 h4 hq5
  refine go_if_eq (pc2 := 8) (tgt := 18) dX11_starts_5 rfl (by decide) (fun c => ?_) (fun c => ?_)
  · have k := k.1 c
    refine go_iconst (pc2 := 19) (v := (-1 : Int32)) dX11_starts_18 rfl (by decide) ?_
    refine go_istore_n (pc2 := 20) (ls2 := [(0, .ref 113), (1, .int x1), (2, .int x2), (3, .int (-1 : Int32))]) dX11_starts_19 rfl rfl rfl rfl rfl rfl ?_
    refine go_iload_n (pc2 := 21) dX11_starts_20 rfl rfl rfl ?_
    refine go_if_eq (pc2 := 24) (tgt := 32) dX11_starts_21 rfl (by decide) (fun c => ?_) (fun c => ?_)
    · have k := k.1 c
      refine go_aload_n (pc2 := 33) dX11_starts_32 rfl rfl rfl ?_
      refine go_iload_n (pc2 := 34) dX11_starts_33 rfl rfl rfl ?_
      refine go_iload_n (pc2 := 35) dX11_starts_34 rfl rfl rfl ?_
      obtain ⟨Q6, hC7, k⟩ := k
      refine gcV_I (pc2 := 38) (dC := 1) (As := [.int x1, .int x2]) (st := []) rfl dX11_starts_35 rfl w_1263 ok_X11_startsOf vi_X11_startsOf c_113 (by decide) rfl rfl rfl (by decide) (Nat.le_of_ble_eq_true rfl) hC7 (fun v8 h9 hq10 => ?_)
      have k := k v8 h9 hq10
      exact go_iret dX11_starts_38 ⟨_, rfl, rfl⟩ ⟨rfl, _, rfl, k⟩
    · have k := k.2 c
      refine go_aload_n (pc2 := 25) dX11_starts_24 rfl rfl rfl ?_
      refine go_iload_n (pc2 := 26) dX11_starts_25 rfl rfl rfl ?_
      obtain ⟨Q11, hC12, k⟩ := k
      refine gcV_I (pc2 := 29) (dC := 0) (As := [.int (-1 : Int32)]) (st := []) rfl dX11_starts_26 rfl w_1161 ok_X11_no vi_X11_no c_113 (by decide) rfl rfl rfl (by decide) (Nat.le_of_ble_eq_true rfl) hC12 (fun v13 h14 hq15 => ?_)
      have k := k v13 h14 hq15
      refine go_goto (tgt := 38) dX11_starts_29 (by decide) ?_
      exact go_iret dX11_starts_38 ⟨_, rfl, rfl⟩ ⟨rfl, _, rfl, k⟩
  · have k := k.2 c
    refine go_iload_n (pc2 := 9) dX11_starts_8 rfl rfl rfl ?_
    refine go_iconst (pc2 := 10) (v := (1 : Int32)) dX11_starts_9 rfl (by decide) ?_
    refine go_bipush (pc2 := 12) (v := (9 : Int32)) dX11_starts_10 rfl (by decide) ?_
    obtain ⟨Q16, hC17, k⟩ := k
    refine gcS_I (pc2 := 15) (dC := 0) (As := [.int x2, .int (1 : Int32), .int (9 : Int32)]) (st := []) rfl dX11_starts_12 rfl w_1158 ok_X11_wrongBy w_1159 rfl (by decide) (Nat.le_of_ble_eq_true rfl) hC17 (fun v18 h19 hq20 => ?_)
    have k := k v18 h19 hq20
    refine go_goto (tgt := 19) dX11_starts_15 (by decide) ?_
    refine go_istore_n (pc2 := 20) (ls2 := [(0, .ref 113), (1, .int x1), (2, .int x2), (3, .int v18)]) dX11_starts_19 rfl rfl rfl rfl rfl rfl ?_
    refine go_iload_n (pc2 := 21) dX11_starts_20 rfl rfl rfl ?_
    refine go_if_eq (pc2 := 24) (tgt := 32) dX11_starts_21 rfl (by decide) (fun c => ?_) (fun c => ?_)
    · have k := k.1 c
      refine go_aload_n (pc2 := 33) dX11_starts_32 rfl rfl rfl ?_
      refine go_iload_n (pc2 := 34) dX11_starts_33 rfl rfl rfl ?_
      refine go_iload_n (pc2 := 35) dX11_starts_34 rfl rfl rfl ?_
      obtain ⟨Q21, hC22, k⟩ := k
      refine gcV_I (pc2 := 38) (dC := 1) (As := [.int x1, .int x2]) (st := []) rfl dX11_starts_35 rfl w_1263 ok_X11_startsOf vi_X11_startsOf c_113 (by decide) rfl rfl rfl (by decide) (Nat.le_of_ble_eq_true rfl) hC22 (fun v23 h24 hq25 => ?_)
      have k := k v23 h24 hq25
      exact go_iret dX11_starts_38 ⟨_, rfl, rfl⟩ ⟨rfl, _, rfl, k⟩
    · have k := k.2 c
      refine go_aload_n (pc2 := 25) dX11_starts_24 rfl rfl rfl ?_
      refine go_iload_n (pc2 := 26) dX11_starts_25 rfl rfl rfl ?_
      obtain ⟨Q26, hC27, k⟩ := k
      refine gcV_I (pc2 := 29) (dC := 0) (As := [.int v18]) (st := []) rfl dX11_starts_26 rfl w_1161 ok_X11_no vi_X11_no c_113 (by decide) rfl rfl rfl (by decide) (Nat.le_of_ble_eq_true rfl) hC27 (fun v28 h29 hq30 => ?_)
      have k := k v28 h29 hq30
      refine go_goto (tgt := 38) dX11_starts_29 (by decide) ?_
      exact go_iret dX11_starts_38 ⟨_, rfl, rfl⟩ ⟨rfl, _, rfl, k⟩
theorem e_X11_mayGo {x1 : Int32} {x2 : Int32} {x3 : Int32} {h : Hp} {Q : Int32 → Hp → Prop}  (k : ((¬ (if x2 ≤ 0 then (0 : Int32) else (1 : Int32)) = x3 → ((x3 = 0 → (∃ Q1, CtI 0 mX11_of1 [.ref 113, .int x1, .int (7 : Int32)] h Q1 ∧ ∀ (v3 : Int32) (h4 : Hp), Q1 v3 h4 → ((x2 < v3 → Q (0 : Int32) h4) ∧ (¬ (x2 < v3) → (∃ Q6, CtI 0 mX11_of1 [.ref 113, .int x1, .int (0 : Int32)] h4 Q6 ∧ ∀ (v8 : Int32) (h9 : Hp), Q6 v8 h9 → ((v8 = (3 : Int32) → Q (0 : Int32) h9) ∧ (¬ v8 = (3 : Int32) → (∃ Q11, CtI 0 mX11_of1 [.ref 113, .int x1, .int (0 : Int32)] h9 Q11 ∧ ∀ (v13 : Int32) (h14 : Hp), Q11 v13 h14 → ((v13 = (5 : Int32) → Q (0 : Int32) h14) ∧ (¬ v13 = (5 : Int32) → Q (1 : Int32) h14)))))))))) ∧ (¬ x3 = 0 → (∃ Q16, CtI 0 mX11_of1 [.ref 113, .int x1, .int (8 : Int32)] h Q16 ∧ ∀ (v18 : Int32) (h19 : Hp), Q16 v18 h19 → Q (if (-x2) < v18 then (0 : Int32) else (1 : Int32)) h19)))) ∧ ((if x2 ≤ 0 then (0 : Int32) else (1 : Int32)) = x3 → Q (1 : Int32) h))) : CtI 1 mX11_mayGo [.ref 113, .int x1, .int x2, .int x3] h Q := by
  refine Ct.of (by decide +kernel) (Nat.le_of_ble_eq_true rfl) ?_
  show GoI 1 mX11_mayGo 0 [(0, .ref 113), (1, .int x1), (2, .int x2), (3, .int x3)] [] h Q
  refine go_iload_n (pc2 := 1) dX11_mayGo_0 rfl rfl rfl ?_
  have J : GoI 1 mX11_mayGo 9 [(0, .ref 113), (1, .int x1), (2, .int x2), (3, .int x3)] [.int (if x2 ≤ 0 then (0 : Int32) else (1 : Int32))] h Q := by
    refine go_iload_n (pc2 := 10) dX11_mayGo_9 rfl rfl rfl ?_
    refine go_icmp_ne (pc2 := 13) (tgt := 15) dX11_mayGo_10 rfl (by decide) (fun c => ?_) (fun c => ?_)
    · have k := k.1 c
      refine go_iload_n (pc2 := 16) dX11_mayGo_15 rfl rfl rfl ?_
      refine go_if_eq (pc2 := 19) (tgt := 37) dX11_mayGo_16 rfl (by decide) (fun c => ?_) (fun c => ?_)
      · have k := k.1 c
        refine go_iload_n (pc2 := 38) dX11_mayGo_37 rfl rfl rfl ?_
        refine go_aload_n (pc2 := 39) dX11_mayGo_38 rfl rfl rfl ?_
        refine go_iload_n (pc2 := 40) dX11_mayGo_39 rfl rfl rfl ?_
        refine go_bipush (pc2 := 42) (v := (7 : Int32)) dX11_mayGo_40 rfl (by decide) ?_
        obtain ⟨Q1, hC2, k⟩ := k
        refine gcV_I (pc2 := 45) (dC := 0) (As := [.int x1, .int (7 : Int32)]) (st := [.int x2]) rfl dX11_mayGo_42 rfl w_1212 ok_X11_of1 vi_X11_of1 c_113 (by decide) rfl rfl rfl (by decide) (Nat.le_of_ble_eq_true rfl) hC2 (fun v3 h4 hq5 => ?_)
        have k := k v3 h4 hq5
        refine go_icmp_lt (pc2 := 48) (tgt := 72) dX11_mayGo_45 rfl (by decide) (fun c => ?_) (fun c => ?_)
        · have k := k.1 c
          refine go_iconst (pc2 := 73) (v := (0 : Int32)) dX11_mayGo_72 rfl (by decide) ?_
          exact go_iret dX11_mayGo_73 ⟨_, rfl, rfl⟩ ⟨rfl, _, rfl, k⟩
        · have k := k.2 c
          refine go_aload_n (pc2 := 49) dX11_mayGo_48 rfl rfl rfl ?_
          refine go_iload_n (pc2 := 50) dX11_mayGo_49 rfl rfl rfl ?_
          refine go_iconst (pc2 := 51) (v := (0 : Int32)) dX11_mayGo_50 rfl (by decide) ?_
          obtain ⟨Q6, hC7, k⟩ := k
          refine gcV_I (pc2 := 54) (dC := 0) (As := [.int x1, .int (0 : Int32)]) (st := []) rfl dX11_mayGo_51 rfl w_1212 ok_X11_of1 vi_X11_of1 c_113 (by decide) rfl rfl rfl (by decide) (Nat.le_of_ble_eq_true rfl) hC7 (fun v8 h9 hq10 => ?_)
          have k := k v8 h9 hq10
          refine go_iconst (pc2 := 55) (v := (3 : Int32)) dX11_mayGo_54 rfl (by decide) ?_
          refine go_icmp_eq (pc2 := 58) (tgt := 72) dX11_mayGo_55 rfl (by decide) (fun c => ?_) (fun c => ?_)
          · have k := k.1 c
            refine go_iconst (pc2 := 73) (v := (0 : Int32)) dX11_mayGo_72 rfl (by decide) ?_
            exact go_iret dX11_mayGo_73 ⟨_, rfl, rfl⟩ ⟨rfl, _, rfl, k⟩
          · have k := k.2 c
            refine go_aload_n (pc2 := 59) dX11_mayGo_58 rfl rfl rfl ?_
            refine go_iload_n (pc2 := 60) dX11_mayGo_59 rfl rfl rfl ?_
            refine go_iconst (pc2 := 61) (v := (0 : Int32)) dX11_mayGo_60 rfl (by decide) ?_
            obtain ⟨Q11, hC12, k⟩ := k
            refine gcV_I (pc2 := 64) (dC := 0) (As := [.int x1, .int (0 : Int32)]) (st := []) rfl dX11_mayGo_61 rfl w_1212 ok_X11_of1 vi_X11_of1 c_113 (by decide) rfl rfl rfl (by decide) (Nat.le_of_ble_eq_true rfl) hC12 (fun v13 h14 hq15 => ?_)
            have k := k v13 h14 hq15
            refine go_iconst (pc2 := 65) (v := (5 : Int32)) dX11_mayGo_64 rfl (by decide) ?_
            refine go_icmp_eq (pc2 := 68) (tgt := 72) dX11_mayGo_65 rfl (by decide) (fun c => ?_) (fun c => ?_)
            · have k := k.1 c
              refine go_iconst (pc2 := 73) (v := (0 : Int32)) dX11_mayGo_72 rfl (by decide) ?_
              exact go_iret dX11_mayGo_73 ⟨_, rfl, rfl⟩ ⟨rfl, _, rfl, k⟩
            · have k := k.2 c
              refine go_iconst (pc2 := 69) (v := (1 : Int32)) dX11_mayGo_68 rfl (by decide) ?_
              refine go_goto (tgt := 73) dX11_mayGo_69 (by decide) ?_
              exact go_iret dX11_mayGo_73 ⟨_, rfl, rfl⟩ ⟨rfl, _, rfl, k⟩
      · have k := k.2 c
        refine go_iload_n (pc2 := 20) dX11_mayGo_19 rfl rfl rfl ?_
        refine go_ineg (pc2 := 21) dX11_mayGo_20 rfl ?_
        refine go_aload_n (pc2 := 22) dX11_mayGo_21 rfl rfl rfl ?_
        refine go_iload_n (pc2 := 23) dX11_mayGo_22 rfl rfl rfl ?_
        refine go_bipush (pc2 := 25) (v := (8 : Int32)) dX11_mayGo_23 rfl (by decide) ?_
        obtain ⟨Q16, hC17, k⟩ := k
        refine gcV_I (pc2 := 28) (dC := 0) (As := [.int x1, .int (8 : Int32)]) (st := [.int (-x2)]) rfl dX11_mayGo_25 rfl w_1212 ok_X11_of1 vi_X11_of1 c_113 (by decide) rfl rfl rfl (by decide) (Nat.le_of_ble_eq_true rfl) hC17 (fun v18 h19 hq20 => ?_)
        have k := k v18 h19 hq20
        have J : GoI 1 mX11_mayGo 36 [(0, .ref 113), (1, .int x1), (2, .int x2), (3, .int x3)] [.int (if (-x2) < v18 then (0 : Int32) else (1 : Int32))] h19 Q := by
          exact go_iret dX11_mayGo_36 ⟨_, rfl, congrArg Value.int ite_b⟩ ⟨rfl, _, rfl, k⟩
        refine go_icmp_lt (pc2 := 31) (tgt := 35) dX11_mayGo_28 rfl (by decide) (fun c => ?_) (fun c => ?_)
        · rw [if_pos c] at J
          exact go_iconst (pc2 := 36) dX11_mayGo_35 rfl (by decide) J
        · rw [if_neg c] at J
          exact go_iconst (pc2 := 32) dX11_mayGo_31 rfl (by decide) (go_goto (tgt := 36) dX11_mayGo_32 (by decide) J)
    · have k := k.2 c
      refine go_iconst (pc2 := 14) (v := (1 : Int32)) dX11_mayGo_13 rfl (by decide) ?_
      exact go_iret dX11_mayGo_14 ⟨_, rfl, rfl⟩ ⟨rfl, _, rfl, k⟩
  refine go_if_le (pc2 := 4) (tgt := 8) dX11_mayGo_1 rfl (by decide) (fun c => ?_) (fun c => ?_)
  · rw [if_pos c] at J
    exact go_iconst (pc2 := 9) dX11_mayGo_8 rfl (by decide) J
  · rw [if_neg c] at J
    exact go_iconst (pc2 := 5) dX11_mayGo_4 rfl (by decide) (go_goto (tgt := 9) dX11_mayGo_5 (by decide) J)
theorem e_X11_goesOn {x0 : Int32} {x1 : Int32} {h : Hp} {Q : Int32 → Hp → Prop}  (k : ((¬ (if x0 ≤ 0 then (0 : Int32) else (1 : Int32)) = x1 → ((x1 = 0 → Q (-1 : Int32) h) ∧ (¬ x1 = 0 → Q (1 : Int32) h))) ∧ ((if x0 ≤ 0 then (0 : Int32) else (1 : Int32)) = x1 → Q (x0 + (if x1 = 0 then (-1 : Int32) else (1 : Int32))) h))) : CtI 0 mX11_goesOn [.int x0, .int x1] h Q := by
  refine Ct.of (by decide +kernel) (Nat.le_of_ble_eq_true rfl) ?_
  show GoI 0 mX11_goesOn 0 [(0, .int x0), (1, .int x1)] [] h Q
  refine go_iload_n (pc2 := 1) dX11_goesOn_0 rfl rfl rfl ?_
  have J : GoI 0 mX11_goesOn 9 [(0, .int x0), (1, .int x1)] [.int (if x0 ≤ 0 then (0 : Int32) else (1 : Int32))] h Q := by
    refine go_iload_n (pc2 := 10) dX11_goesOn_9 rfl rfl rfl ?_
    refine go_icmp_ne (pc2 := 13) (tgt := 27) dX11_goesOn_10 rfl (by decide) (fun c => ?_) (fun c => ?_)
    · have k := k.1 c
      refine go_iload_n (pc2 := 28) dX11_goesOn_27 rfl rfl rfl ?_
      refine go_if_eq (pc2 := 31) (tgt := 35) dX11_goesOn_28 rfl (by decide) (fun c => ?_) (fun c => ?_)
      · have k := k.1 c
        refine go_iconst (pc2 := 36) (v := (-1 : Int32)) dX11_goesOn_35 rfl (by decide) ?_
        exact go_iret dX11_goesOn_36 ⟨_, rfl, rfl⟩ ⟨rfl, _, rfl, k⟩
      · have k := k.2 c
        refine go_iconst (pc2 := 32) (v := (1 : Int32)) dX11_goesOn_31 rfl (by decide) ?_
        refine go_goto (tgt := 36) dX11_goesOn_32 (by decide) ?_
        exact go_iret dX11_goesOn_36 ⟨_, rfl, rfl⟩ ⟨rfl, _, rfl, k⟩
    · have k := k.2 c
      refine go_iload_n (pc2 := 14) dX11_goesOn_13 rfl rfl rfl ?_
      refine go_iload_n (pc2 := 15) dX11_goesOn_14 rfl rfl rfl ?_
      have J : GoI 0 mX11_goesOn 23 [(0, .int x0), (1, .int x1)] [.int (if x1 = 0 then (-1 : Int32) else (1 : Int32)), .int x0] h Q := by
        refine go_iadd (pc2 := 24) dX11_goesOn_23 rfl ?_
        refine go_goto (tgt := 36) dX11_goesOn_24 (by decide) ?_
        exact go_iret dX11_goesOn_36 ⟨_, rfl, rfl⟩ ⟨rfl, _, rfl, k⟩
      refine go_if_eq (pc2 := 18) (tgt := 22) dX11_goesOn_15 rfl (by decide) (fun c => ?_) (fun c => ?_)
      · rw [if_pos c] at J
        exact go_iconst (pc2 := 23) dX11_goesOn_22 rfl (by decide) J
      · rw [if_neg c] at J
        exact go_iconst (pc2 := 19) dX11_goesOn_18 rfl (by decide) (go_goto (tgt := 23) dX11_goesOn_19 (by decide) J)
  refine go_if_le (pc2 := 4) (tgt := 8) dX11_goesOn_1 rfl (by decide) (fun c => ?_) (fun c => ?_)
  · rw [if_pos c] at J
    exact go_iconst (pc2 := 9) dX11_goesOn_8 rfl (by decide) J
  · rw [if_neg c] at J
    exact go_iconst (pc2 := 5) dX11_goesOn_4 rfl (by decide) (go_goto (tgt := 9) dX11_goesOn_5 (by decide) J)
theorem e_X11_isLawful {x1 : Int32} {x2 : Int32} {h : Hp} {Q : Int32 → Hp → Prop}  (k : (∃ Q1, CtI 0 mX11_of1 [.ref 113, .int x1, .int (9 : Int32)] h Q1 ∧ ∀ (v3 : Int32) (h4 : Hp), Q1 v3 h4 → GoI 2 mX11_isLawful 11 [(0, .ref 113), (1, .int x1), (2, .int x2), (3, .int v3), (4, .int (0 : Int32))] [] h4 Q)) : CtI 2 mX11_isLawful [.ref 113, .int x1, .int x2] h Q := by
  refine Ct.of (by decide +kernel) (Nat.le_of_ble_eq_true rfl) ?_
  show GoI 2 mX11_isLawful 0 [(0, .ref 113), (1, .int x1), (2, .int x2)] [] h Q
  refine go_aload_n (pc2 := 1) dX11_isLawful_0 rfl rfl rfl ?_
  refine go_iload_n (pc2 := 2) dX11_isLawful_1 rfl rfl rfl ?_
  refine go_bipush (pc2 := 4) (v := (9 : Int32)) dX11_isLawful_2 rfl (by decide) ?_
  obtain ⟨Q1, hC2, k⟩ := k
  refine gcV_I (pc2 := 7) (dC := 0) (As := [.int x1, .int (9 : Int32)]) (st := []) rfl dX11_isLawful_4 rfl w_1212 ok_X11_of1 vi_X11_of1 c_113 (by decide) rfl rfl rfl (by decide) (Nat.le_of_ble_eq_true rfl) hC2 (fun v3 h4 hq5 => ?_)
  have k := k v3 h4 hq5
  refine go_istore_n (pc2 := 8) (ls2 := [(0, .ref 113), (1, .int x1), (2, .int x2), (3, .int v3)]) dX11_isLawful_7 rfl rfl rfl rfl rfl rfl ?_
  refine go_iconst (pc2 := 9) (v := (0 : Int32)) dX11_isLawful_8 rfl (by decide) ?_
  refine go_istore (pc2 := 11) (ls2 := [(0, .ref 113), (1, .int x1), (2, .int x2), (3, .int v3), (4, .int (0 : Int32))]) dX11_isLawful_9 rfl rfl rfl rfl rfl ?_
  exact k
theorem b_X11_isLawful_11 {x1 : Int32} {x2 : Int32} {x3 : Int32} {x4 : Int32} {h : Hp} {Q : Int32 → Hp → Prop}  (k : (((h.1 114 0) ≤ x4 → Q (1 : Int32) h) ∧ (¬ ((h.1 114 0) ≤ x4) → (∃ Q1, CtI 0 mX11_has [.int x2, .int x4] h Q1 ∧ ∀ (v3 : Int32) (h4 : Hp), Q1 v3 h4 → (∃ Q6, CtI 1 mX11_mayGo [.ref 113, .int x1, .int x3, .int v3] h4 Q6 ∧ ∀ (v8 : Int32) (h9 : Hp), Q6 v8 h9 → ((¬ v8 = 0 → (∃ Q11, CtI 0 mX11_has [.int x2, .int x4] h9 Q11 ∧ ∀ (v13 : Int32) (h14 : Hp), Q11 v13 h14 → (∃ Q16, CtI 0 mX11_goesOn [.int x3, .int v13] h14 Q16 ∧ ∀ (v18 : Int32) (h19 : Hp), Q16 v18 h19 → GoI 2 mX11_isLawful 11 [(0, .ref 113), (1, .int x1), (2, .int x2), (3, .int v18), (4, .int (x4 + 1))] [] h19 Q))) ∧ (v8 = 0 → Q (0 : Int32) h9))))))) : GoI 2 mX11_isLawful 11 [(0, .ref 113), (1, .int x1), (2, .int x2), (3, .int x3), (4, .int x4)] [] h Q := by
  refine go_iload (pc2 := 13) dX11_isLawful_11 rfl rfl ?_
  refine go_aload_n (pc2 := 14) dX11_isLawful_13 rfl rfl rfl ?_
  refine gf_1056 (pc2 := 17) rfl dX11_isLawful_14 rfl c_113 (fvs r_113_0) ?_
  refine go_iconst (pc2 := 18) (v := (0 : Int32)) dX11_isLawful_17 rfl (by decide) ?_
  refine go_iaload (pc2 := 19) (j := 0) dX11_isLawful_18 rfl c_114 (vp_c rfl) rfl ?_
  refine go_icmp_ge (pc2 := 22) (tgt := 56) dX11_isLawful_19 rfl (by decide) (fun c => ?_) (fun c => ?_)
  · have k := k.1 c
    refine go_iconst (pc2 := 57) (v := (1 : Int32)) dX11_isLawful_56 rfl (by decide) ?_
    exact go_iret dX11_isLawful_57 ⟨_, rfl, rfl⟩ ⟨rfl, _, rfl, k⟩
  · have k := k.2 c
    refine go_aload_n (pc2 := 23) dX11_isLawful_22 rfl rfl rfl ?_
    refine go_iload_n (pc2 := 24) dX11_isLawful_23 rfl rfl rfl ?_
    refine go_iload_n (pc2 := 25) dX11_isLawful_24 rfl rfl rfl ?_
    refine go_iload_n (pc2 := 26) dX11_isLawful_25 rfl rfl rfl ?_
    refine go_iload (pc2 := 28) dX11_isLawful_26 rfl rfl ?_
    obtain ⟨Q1, hC2, k⟩ := k
    refine gcS_I (pc2 := 31) (dC := 0) (As := [.int x2, .int x4]) (st := [.int x3, .int x1, .ref 113]) rfl dX11_isLawful_28 rfl w_1278 ok_X11_has w_1279 rfl (by decide) (Nat.le_of_ble_eq_true rfl) hC2 (fun v3 h4 hq5 => ?_)
    have k := k v3 h4 hq5
    obtain ⟨Q6, hC7, k⟩ := k
    refine gcV_I (pc2 := 34) (dC := 1) (As := [.int x1, .int x3, .int v3]) (st := []) rfl dX11_isLawful_31 rfl w_1281 ok_X11_mayGo vi_X11_mayGo c_113 (by decide) rfl rfl rfl (by decide) (Nat.le_of_ble_eq_true rfl) hC7 (fun v8 h9 hq10 => ?_)
    have k := k v8 h9 hq10
    refine go_if_ne (pc2 := 37) (tgt := 39) dX11_isLawful_34 rfl (by decide) (fun c => ?_) (fun c => ?_)
    · have k := k.1 c
      refine go_iload_n (pc2 := 40) dX11_isLawful_39 rfl rfl rfl ?_
      refine go_iload_n (pc2 := 41) dX11_isLawful_40 rfl rfl rfl ?_
      refine go_iload (pc2 := 43) dX11_isLawful_41 rfl rfl ?_
      obtain ⟨Q11, hC12, k⟩ := k
      refine gcS_I (pc2 := 46) (dC := 0) (As := [.int x2, .int x4]) (st := [.int x3]) rfl dX11_isLawful_43 rfl w_1278 ok_X11_has w_1279 rfl (by decide) (Nat.le_of_ble_eq_true rfl) hC12 (fun v13 h14 hq15 => ?_)
      have k := k v13 h14 hq15
      obtain ⟨Q16, hC17, k⟩ := k
      refine gcS_I (pc2 := 49) (dC := 0) (As := [.int x3, .int v13]) (st := []) rfl dX11_isLawful_46 rfl w_1285 ok_X11_goesOn w_1286 rfl (by decide) (Nat.le_of_ble_eq_true rfl) hC17 (fun v18 h19 hq20 => ?_)
      have k := k v18 h19 hq20
      refine go_istore_n (pc2 := 50) (ls2 := [(0, .ref 113), (1, .int x1), (2, .int x2), (3, .int v18), (4, .int x4)]) dX11_isLawful_49 rfl rfl rfl rfl rfl rfl ?_
      refine go_iinc (pc2 := 53) (ls2 := [(0, .ref 113), (1, .int x1), (2, .int x2), (3, .int v18), (4, .int (x4 + 1))]) (v := (x4 + 1)) dX11_isLawful_50 rfl rfl rfl rfl rfl rfl rfl ?_
      refine go_goto (tgt := 11) dX11_isLawful_53 (by decide) ?_
      exact k
    · have k := k.2 c
      refine go_iconst (pc2 := 38) (v := (0 : Int32)) dX11_isLawful_37 rfl (by decide) ?_
      exact go_iret dX11_isLawful_38 ⟨_, rfl, rfl⟩ ⟨rfl, _, rfl, k⟩
theorem e_X11_lawful {x1 : Int32} {x2 : Int32} {h : Hp} {Q : Int32 → Hp → Prop}  (k : (∃ Q1, CtI 1 mX11_isPlant [.ref 113, .int x1] h Q1 ∧ ∀ (v3 : Int32) (h4 : Hp), Q1 v3 h4 → ((v3 = 0 → GoI 3 mX11_lawful 27 [(0, .ref 113), (1, .int x1), (2, .int x2)] [.int (-1 : Int32)] h4 Q) ∧ (¬ v3 = 0 → (∃ Q6, CtI 0 mX11_wrongBy [.int x2, .int (0 : Int32), .int (((1 : Int32) <<< ((h4.1 114 0) &&& 31)) - (1 : Int32))] h4 Q6 ∧ ∀ (v8 : Int32) (h9 : Hp), Q6 v8 h9 → GoI 3 mX11_lawful 27 [(0, .ref 113), (1, .int x1), (2, .int x2)] [.int v8] h9 Q))))) : CtI 3 mX11_lawful [.ref 113, .int x1, .int x2] h Q := by
  refine Ct.of (by decide +kernel) (Nat.le_of_ble_eq_true rfl) ?_
  show GoI 3 mX11_lawful 0 [(0, .ref 113), (1, .int x1), (2, .int x2)] [] h Q
  refine go_aload_n (pc2 := 1) dX11_lawful_0 rfl rfl rfl ?_
  refine go_iload_n (pc2 := 2) dX11_lawful_1 rfl rfl rfl ?_
  obtain ⟨Q1, hC2, k⟩ := k
  refine gcV_I (pc2 := 5) (dC := 1) (As := [.int x1]) (st := []) rfl dX11_lawful_2 rfl w_1208 ok_X11_isPlant vi_X11_isPlant c_113 (by decide) rfl rfl rfl (by decide) (Nat.le_of_ble_eq_true rfl) hC2 (fun v3 h4 hq5 => ?_)
  have k := k v3 h4 hq5
  refine go_if_eq (pc2 := 8) (tgt := 26) dX11_lawful_5 rfl (by decide) (fun c => ?_) (fun c => ?_)
  · have k := k.1 c
    refine go_iconst (pc2 := 27) (v := (-1 : Int32)) dX11_lawful_26 rfl (by decide) ?_
    exact k
  · have k := k.2 c
    refine go_iload_n (pc2 := 9) dX11_lawful_8 rfl rfl rfl ?_
    refine go_iconst (pc2 := 10) (v := (0 : Int32)) dX11_lawful_9 rfl (by decide) ?_
    refine go_iconst (pc2 := 11) (v := (1 : Int32)) dX11_lawful_10 rfl (by decide) ?_
    refine go_aload_n (pc2 := 12) dX11_lawful_11 rfl rfl rfl ?_
    refine gf_1056 (pc2 := 15) rfl dX11_lawful_12 rfl c_113 (fvs r_113_0) ?_
    refine go_iconst (pc2 := 16) (v := (0 : Int32)) dX11_lawful_15 rfl (by decide) ?_
    refine go_iaload (pc2 := 17) (j := 0) dX11_lawful_16 rfl c_114 (vp_c rfl) rfl ?_
    refine go_ishl (pc2 := 18) dX11_lawful_17 rfl ?_
    refine go_iconst (pc2 := 19) (v := (1 : Int32)) dX11_lawful_18 rfl (by decide) ?_
    refine go_isub (pc2 := 20) dX11_lawful_19 rfl ?_
    obtain ⟨Q6, hC7, k⟩ := k
    refine gcS_I (pc2 := 23) (dC := 0) (As := [.int x2, .int (0 : Int32), .int (((1 : Int32) <<< ((h4.1 114 0) &&& 31)) - (1 : Int32))]) (st := []) rfl dX11_lawful_20 rfl w_1158 ok_X11_wrongBy w_1159 rfl (by decide) (Nat.le_of_ble_eq_true rfl) hC7 (fun v8 h9 hq10 => ?_)
    have k := k v8 h9 hq10
    refine go_goto (tgt := 27) dX11_lawful_23 (by decide) ?_
    exact k
theorem b_X11_lawful_27 {x1 : Int32} {x2 : Int32} {s0 : Int32} {h : Hp} {Q : Int32 → Hp → Prop}  (k : ((s0 = 0 → (∃ Q1, CtI 2 mX11_isLawful [.ref 113, .int x1, .int x2] h Q1 ∧ ∀ (v3 : Int32) (h4 : Hp), Q1 v3 h4 → ((v3 = 0 → Q (0 : Int32) h4) ∧ (¬ v3 = 0 → Q (1 : Int32) h4)))) ∧ (¬ s0 = 0 → (∃ Q6, CtI 0 mX11_no [.ref 113, .int s0] h Q6 ∧ ∀ (v8 : Int32) (h9 : Hp), Q6 v8 h9 → Q v8 h9)))) : GoI 3 mX11_lawful 27 [(0, .ref 113), (1, .int x1), (2, .int x2)] [.int s0] h Q := by
  refine go_istore_n (pc2 := 28) (ls2 := [(0, .ref 113), (1, .int x1), (2, .int x2), (3, .int s0)]) dX11_lawful_27 rfl rfl rfl rfl rfl rfl ?_
  refine go_iload_n (pc2 := 29) dX11_lawful_28 rfl rfl rfl ?_
  refine go_if_eq (pc2 := 32) (tgt := 40) dX11_lawful_29 rfl (by decide) (fun c => ?_) (fun c => ?_)
  · have k := k.1 c
    refine go_aload_n (pc2 := 41) dX11_lawful_40 rfl rfl rfl ?_
    refine go_iload_n (pc2 := 42) dX11_lawful_41 rfl rfl rfl ?_
    refine go_iload_n (pc2 := 43) dX11_lawful_42 rfl rfl rfl ?_
    obtain ⟨Q1, hC2, k⟩ := k
    refine gcV_I (pc2 := 46) (dC := 2) (As := [.int x1, .int x2]) (st := []) rfl dX11_lawful_43 rfl w_1274 ok_X11_isLawful vi_X11_isLawful c_113 (by decide) rfl rfl rfl (by decide) (Nat.le_of_ble_eq_true rfl) hC2 (fun v3 h4 hq5 => ?_)
    have k := k v3 h4 hq5
    refine go_if_eq (pc2 := 49) (tgt := 53) dX11_lawful_46 rfl (by decide) (fun c => ?_) (fun c => ?_)
    · have k := k.1 c
      refine go_iconst (pc2 := 54) (v := (0 : Int32)) dX11_lawful_53 rfl (by decide) ?_
      exact go_iret dX11_lawful_54 ⟨_, rfl, rfl⟩ ⟨rfl, _, rfl, k⟩
    · have k := k.2 c
      refine go_iconst (pc2 := 50) (v := (1 : Int32)) dX11_lawful_49 rfl (by decide) ?_
      refine go_goto (tgt := 54) dX11_lawful_50 (by decide) ?_
      exact go_iret dX11_lawful_54 ⟨_, rfl, rfl⟩ ⟨rfl, _, rfl, k⟩
  · have k := k.2 c
    refine go_aload_n (pc2 := 33) dX11_lawful_32 rfl rfl rfl ?_
    refine go_iload_n (pc2 := 34) dX11_lawful_33 rfl rfl rfl ?_
    obtain ⟨Q6, hC7, k⟩ := k
    refine gcV_I (pc2 := 37) (dC := 0) (As := [.int s0]) (st := []) rfl dX11_lawful_34 rfl w_1161 ok_X11_no vi_X11_no c_113 (by decide) rfl rfl rfl (by decide) (Nat.le_of_ble_eq_true rfl) hC7 (fun v8 h9 hq10 => ?_)
    have k := k v8 h9 hq10
    refine go_goto (tgt := 54) dX11_lawful_37 (by decide) ?_
    exact go_iret dX11_lawful_54 ⟨_, rfl, rfl⟩ ⟨rfl, _, rfl, k⟩
theorem e_X11_rows {x1 : Int32} {x2 : Int32} {h : Hp} {Q : Int32 → Hp → Prop}  (k : (∃ Q1, CtI 1 mX11_isPlant [.ref 113, .int x1] h Q1 ∧ ∀ (v3 : Int32) (h4 : Hp), Q1 v3 h4 → ((¬ v3 = 0 → GoI 3 mX11_rows 19 [(0, .ref 113), (1, .int x1), (2, .int x2), (3, .int (0 : Int32)), (4, .int (0 : Int32))] [] h4 Q) ∧ (v3 = 0 → (∃ Q6, CtI 0 mX11_no [.ref 113, .int (-1 : Int32)] h4 Q6 ∧ ∀ (v8 : Int32) (h9 : Hp), Q6 v8 h9 → Q v8 h9))))) : CtI 3 mX11_rows [.ref 113, .int x1, .int x2] h Q := by
  refine Ct.of (by decide +kernel) (Nat.le_of_ble_eq_true rfl) ?_
  show GoI 3 mX11_rows 0 [(0, .ref 113), (1, .int x1), (2, .int x2)] [] h Q
  refine go_aload_n (pc2 := 1) dX11_rows_0 rfl rfl rfl ?_
  refine go_iload_n (pc2 := 2) dX11_rows_1 rfl rfl rfl ?_
  obtain ⟨Q1, hC2, k⟩ := k
  refine gcV_I (pc2 := 5) (dC := 1) (As := [.int x1]) (st := []) rfl dX11_rows_2 rfl w_1208 ok_X11_isPlant vi_X11_isPlant c_113 (by decide) rfl rfl rfl (by decide) (Nat.le_of_ble_eq_true rfl) hC2 (fun v3 h4 hq5 => ?_)
  have k := k v3 h4 hq5
  refine go_if_ne (pc2 := 8) (tgt := 14) dX11_rows_5 rfl (by decide) (fun c => ?_) (fun c => ?_)
  · have k := k.1 c
    refine go_iconst (pc2 := 15) (v := (0 : Int32)) dX11_rows_14 rfl (by decide) ?_
    refine go_istore_n (pc2 := 16) (ls2 := [(0, .ref 113), (1, .int x1), (2, .int x2), (3, .int (0 : Int32))]) dX11_rows_15 rfl rfl rfl rfl rfl rfl ?_
    refine go_iconst (pc2 := 17) (v := (0 : Int32)) dX11_rows_16 rfl (by decide) ?_
    refine go_istore (pc2 := 19) (ls2 := [(0, .ref 113), (1, .int x1), (2, .int x2), (3, .int (0 : Int32)), (4, .int (0 : Int32))]) dX11_rows_17 rfl rfl rfl rfl rfl ?_
    exact k
  · have k := k.2 c
    refine go_aload_n (pc2 := 9) dX11_rows_8 rfl rfl rfl ?_
    refine go_iconst (pc2 := 10) (v := (-1 : Int32)) dX11_rows_9 rfl (by decide) ?_
    obtain ⟨Q6, hC7, k⟩ := k
    refine gcV_I (pc2 := 13) (dC := 0) (As := [.int (-1 : Int32)]) (st := []) rfl dX11_rows_10 rfl w_1161 ok_X11_no vi_X11_no c_113 (by decide) rfl rfl rfl (by decide) (Nat.le_of_ble_eq_true rfl) hC7 (fun v8 h9 hq10 => ?_)
    have k := k v8 h9 hq10
    exact go_iret dX11_rows_13 ⟨_, rfl, rfl⟩ ⟨rfl, _, rfl, k⟩
theorem b_X11_rows_19 {x1 : Int32} {x2 : Int32} {x3 : Int32} {x4 : Int32} {h : Hp} {Q : Int32 → Hp → Prop}  (k : ((((1 : Int32) <<< ((h.1 114 0) &&& 31)) ≤ x4 → ((¬ x2 = (-1 : Int32) → (∃ Q1, CtI 0 mX11_no [.ref 113, .int (-3 : Int32)] h Q1 ∧ ∀ (v3 : Int32) (h4 : Hp), Q1 v3 h4 → Q v3 h4)) ∧ (x2 = (-1 : Int32) → Q x3 h))) ∧ (¬ (((1 : Int32) <<< ((h.1 114 0) &&& 31)) ≤ x4) → (∃ Q6, CtI 2 mX11_isLawful [.ref 113, .int x1, .int x4] h Q6 ∧ ∀ (v8 : Int32) (h9 : Hp), Q6 v8 h9 → ((v8 = 0 → GoI 3 mX11_rows 53 [(0, .ref 113), (1, .int x1), (2, .int x2), (3, .int x3), (4, .int x4)] [] h9 Q) ∧ (¬ v8 = 0 → ((¬ x3 = x2 → GoI 3 mX11_rows 53 [(0, .ref 113), (1, .int x1), (2, .int x2), (3, .int (x3 + 1)), (4, .int x4)] [] h9 Q) ∧ (x3 = x2 → Q x4 h9)))))))) : GoI 3 mX11_rows 19 [(0, .ref 113), (1, .int x1), (2, .int x2), (3, .int x3), (4, .int x4)] [] h Q := by
  refine go_iload (pc2 := 21) dX11_rows_19 rfl rfl ?_
  refine go_iconst (pc2 := 22) (v := (1 : Int32)) dX11_rows_21 rfl (by decide) ?_
  refine go_aload_n (pc2 := 23) dX11_rows_22 rfl rfl rfl ?_
  refine gf_1056 (pc2 := 26) rfl dX11_rows_23 rfl c_113 (fvs r_113_0) ?_
  refine go_iconst (pc2 := 27) (v := (0 : Int32)) dX11_rows_26 rfl (by decide) ?_
  refine go_iaload (pc2 := 28) (j := 0) dX11_rows_27 rfl c_114 (vp_c rfl) rfl ?_
  refine go_ishl (pc2 := 29) dX11_rows_28 rfl ?_
  refine go_icmp_ge (pc2 := 32) (tgt := 59) dX11_rows_29 rfl (by decide) (fun c => ?_) (fun c => ?_)
  · have k := k.1 c
    refine go_iload_n (pc2 := 60) dX11_rows_59 rfl rfl rfl ?_
    refine go_iconst (pc2 := 61) (v := (-1 : Int32)) dX11_rows_60 rfl (by decide) ?_
    refine go_icmp_ne (pc2 := 64) (tgt := 68) dX11_rows_61 rfl (by decide) (fun c => ?_) (fun c => ?_)
    · have k := k.1 c
      refine go_aload_n (pc2 := 69) dX11_rows_68 rfl rfl rfl ?_
      refine go_bipush (pc2 := 71) (v := (-3 : Int32)) dX11_rows_69 rfl (by decide) ?_
      obtain ⟨Q1, hC2, k⟩ := k
      refine gcV_I (pc2 := 74) (dC := 0) (As := [.int (-3 : Int32)]) (st := []) rfl dX11_rows_71 rfl w_1161 ok_X11_no vi_X11_no c_113 (by decide) rfl rfl rfl (by decide) (Nat.le_of_ble_eq_true rfl) hC2 (fun v3 h4 hq5 => ?_)
      have k := k v3 h4 hq5
      exact go_iret dX11_rows_74 ⟨_, rfl, rfl⟩ ⟨rfl, _, rfl, k⟩
    · have k := k.2 c
      refine go_iload_n (pc2 := 65) dX11_rows_64 rfl rfl rfl ?_
      refine go_goto (tgt := 74) dX11_rows_65 (by decide) ?_
      exact go_iret dX11_rows_74 ⟨_, rfl, rfl⟩ ⟨rfl, _, rfl, k⟩
  · have k := k.2 c
    refine go_aload_n (pc2 := 33) dX11_rows_32 rfl rfl rfl ?_
    refine go_iload_n (pc2 := 34) dX11_rows_33 rfl rfl rfl ?_
    refine go_iload (pc2 := 36) dX11_rows_34 rfl rfl ?_
    obtain ⟨Q6, hC7, k⟩ := k
    refine gcV_I (pc2 := 39) (dC := 2) (As := [.int x1, .int x4]) (st := []) rfl dX11_rows_36 rfl w_1274 ok_X11_isLawful vi_X11_isLawful c_113 (by decide) rfl rfl rfl (by decide) (Nat.le_of_ble_eq_true rfl) hC7 (fun v8 h9 hq10 => ?_)
    have k := k v8 h9 hq10
    refine go_if_eq (pc2 := 42) (tgt := 53) dX11_rows_39 rfl (by decide) (fun c => ?_) (fun c => ?_)
    · have k := k.1 c
      exact k
    · have k := k.2 c
      refine go_iload_n (pc2 := 43) dX11_rows_42 rfl rfl rfl ?_
      refine go_iload_n (pc2 := 44) dX11_rows_43 rfl rfl rfl ?_
      refine go_icmp_ne (pc2 := 47) (tgt := 50) dX11_rows_44 rfl (by decide) (fun c => ?_) (fun c => ?_)
      · have k := k.1 c
        refine go_iinc (pc2 := 53) (ls2 := [(0, .ref 113), (1, .int x1), (2, .int x2), (3, .int (x3 + 1)), (4, .int x4)]) (v := (x3 + 1)) dX11_rows_50 rfl rfl rfl rfl rfl rfl rfl ?_
        exact k
      · have k := k.2 c
        refine go_iload (pc2 := 49) dX11_rows_47 rfl rfl ?_
        exact go_iret dX11_rows_49 ⟨_, rfl, rfl⟩ ⟨rfl, _, rfl, k⟩
theorem b_X11_rows_53 {x1 : Int32} {x2 : Int32} {x3 : Int32} {x4 : Int32} {h : Hp} {Q : Int32 → Hp → Prop}  (k : GoI 3 mX11_rows 19 [(0, .ref 113), (1, .int x1), (2, .int x2), (3, .int x3), (4, .int (x4 + 1))] [] h Q) : GoI 3 mX11_rows 53 [(0, .ref 113), (1, .int x1), (2, .int x2), (3, .int x3), (4, .int x4)] [] h Q := by
  refine go_iinc (pc2 := 56) (ls2 := [(0, .ref 113), (1, .int x1), (2, .int x2), (3, .int x3), (4, .int (x4 + 1))]) (v := (x4 + 1)) dX11_rows_53 rfl rfl rfl rfl rfl rfl rfl ?_
  refine go_goto (tgt := 19) dX11_rows_56 (by decide) ?_
  exact k
theorem e_X11_canDo {x1 : Int32} {x2 : Int32} {x3 : Int32} {h : Hp} {Q : Int32 → Hp → Prop}  (k : GoI 2 mX11_canDo 9 [(0, .ref 113), (1, .int x1), (2, .int x2), (3, .int x3), (4, .int (0 : Int32)), (5, .int (0 : Int32)), (6, .int (0 : Int32))] [] h Q) : CtI 2 mX11_canDo [.ref 113, .int x1, .int x2, .int x3] h Q := by
  refine Ct.of (by decide +kernel) (Nat.le_of_ble_eq_true rfl) ?_
  show GoI 2 mX11_canDo 0 [(0, .ref 113), (1, .int x1), (2, .int x2), (3, .int x3)] [] h Q
  refine go_iconst (pc2 := 1) (v := (0 : Int32)) dX11_canDo_0 rfl (by decide) ?_
  refine go_istore (pc2 := 3) (ls2 := [(0, .ref 113), (1, .int x1), (2, .int x2), (3, .int x3), (4, .int (0 : Int32))]) dX11_canDo_1 rfl rfl rfl rfl rfl ?_
  refine go_iconst (pc2 := 4) (v := (0 : Int32)) dX11_canDo_3 rfl (by decide) ?_
  refine go_istore (pc2 := 6) (ls2 := [(0, .ref 113), (1, .int x1), (2, .int x2), (3, .int x3), (4, .int (0 : Int32)), (5, .int (0 : Int32))]) dX11_canDo_4 rfl rfl rfl rfl rfl ?_
  refine go_iconst (pc2 := 7) (v := (0 : Int32)) dX11_canDo_6 rfl (by decide) ?_
  refine go_istore (pc2 := 9) (ls2 := [(0, .ref 113), (1, .int x1), (2, .int x2), (3, .int x3), (4, .int (0 : Int32)), (5, .int (0 : Int32)), (6, .int (0 : Int32))]) dX11_canDo_7 rfl rfl rfl rfl rfl ?_
  exact k
theorem b_X11_canDo_9 {x1 : Int32} {x2 : Int32} {x3 : Int32} {x4 : Int32} {x5 : Int32} {x6 : Int32} {h : Hp} {Q : Int32 → Hp → Prop}  (k : (((h.1 114 3) ≤ x6 → (vp_in ((4 : Int32) + x1) 49 ∧ (((h.1 114 (((4 : Int32) + x1)).toNatClampNeg) < x4 → Q (0 : Int32) h) ∧ (¬ ((h.1 114 (((4 : Int32) + x1)).toNatClampNeg) < x4) → (vp_in ((4 : Int32) + x1) 49 ∧ (vp_in ((9 : Int32) + x1) 49 ∧ ((x5 < ((h.1 114 (((4 : Int32) + x1)).toNatClampNeg) + (h.1 114 (((9 : Int32) + x1)).toNatClampNeg)) → Q (0 : Int32) h) ∧ (¬ (x5 < ((h.1 114 (((4 : Int32) + x1)).toNatClampNeg) + (h.1 114 (((9 : Int32) + x1)).toNatClampNeg))) → Q (1 : Int32) h)))))))) ∧ (¬ ((h.1 114 3) ≤ x6) → (∃ Q4, CtI 0 mX11_has [.int x2, .int x6] h Q4 ∧ ∀ (v6 : Int32) (h7 : Hp), Q4 v6 h7 → ((v6 = 0 → GoI 2 mX11_canDo 57 [(0, .ref 113), (1, .int x1), (2, .int x2), (3, .int x3), (4, .int x4), (5, .int x5), (6, .int x6)] [] h7 Q) ∧ (¬ v6 = 0 → (∃ Q9, CtI 1 mX11_leastOf [.ref 113, .int x6] h7 Q9 ∧ ∀ (v11 : Int32) (h12 : Hp), Q9 v11 h12 → (∃ Q14, CtI 0 mX11_has [.int x3, .int x6] h12 Q14 ∧ ∀ (v16 : Int32) (h17 : Hp), Q14 v16 h17 → (∃ Q19, CtI 1 mX11_mostOf [.ref 113, .int x6, .int v16] h17 Q19 ∧ ∀ (v21 : Int32) (h22 : Hp), Q19 v21 h22 → GoI 2 mX11_canDo 57 [(0, .ref 113), (1, .int x1), (2, .int x2), (3, .int x3), (4, .int (x4 + v11)), (5, .int (x5 + v21)), (6, .int x6)] [] h22 Q))))))))) : GoI 2 mX11_canDo 9 [(0, .ref 113), (1, .int x1), (2, .int x2), (3, .int x3), (4, .int x4), (5, .int x5), (6, .int x6)] [] h Q := by
  refine go_iload (pc2 := 11) dX11_canDo_9 rfl rfl ?_
  refine go_aload_n (pc2 := 12) dX11_canDo_11 rfl rfl rfl ?_
  refine gf_1056 (pc2 := 15) rfl dX11_canDo_12 rfl c_113 (fvs r_113_0) ?_
  refine go_iconst (pc2 := 16) (v := (3 : Int32)) dX11_canDo_15 rfl (by decide) ?_
  refine go_iaload (pc2 := 17) (j := 3) dX11_canDo_16 rfl c_114 (vp_c rfl) rfl ?_
  refine go_icmp_ge (pc2 := 20) (tgt := 63) dX11_canDo_17 rfl (by decide) (fun c => ?_) (fun c => ?_)
  · have k := k.1 c
    refine go_iload (pc2 := 65) dX11_canDo_63 rfl rfl ?_
    refine go_aload_n (pc2 := 66) dX11_canDo_65 rfl rfl rfl ?_
    refine gf_1056 (pc2 := 69) rfl dX11_canDo_66 rfl c_113 (fvs r_113_0) ?_
    refine go_iconst (pc2 := 70) (v := (4 : Int32)) dX11_canDo_69 rfl (by decide) ?_
    refine go_iload_n (pc2 := 71) dX11_canDo_70 rfl rfl rfl ?_
    refine go_iadd (pc2 := 72) dX11_canDo_71 rfl ?_
    obtain ⟨y1, k⟩ := k
    refine go_iaload (pc2 := 73) (j := (((4 : Int32) + x1)).toNatClampNeg) dX11_canDo_72 rfl c_114 y1 rfl ?_
    refine go_icmp_gt (pc2 := 76) (tgt := 103) dX11_canDo_73 rfl (by decide) (fun c => ?_) (fun c => ?_)
    · have k := k.1 c
      refine go_iconst (pc2 := 104) (v := (0 : Int32)) dX11_canDo_103 rfl (by decide) ?_
      exact go_iret dX11_canDo_104 ⟨_, rfl, rfl⟩ ⟨rfl, _, rfl, k⟩
    · have k := k.2 c
      refine go_iload (pc2 := 78) dX11_canDo_76 rfl rfl ?_
      refine go_aload_n (pc2 := 79) dX11_canDo_78 rfl rfl rfl ?_
      refine gf_1056 (pc2 := 82) rfl dX11_canDo_79 rfl c_113 (fvs r_113_0) ?_
      refine go_iconst (pc2 := 83) (v := (4 : Int32)) dX11_canDo_82 rfl (by decide) ?_
      refine go_iload_n (pc2 := 84) dX11_canDo_83 rfl rfl rfl ?_
      refine go_iadd (pc2 := 85) dX11_canDo_84 rfl ?_
      obtain ⟨y2, k⟩ := k
      refine go_iaload (pc2 := 86) (j := (((4 : Int32) + x1)).toNatClampNeg) dX11_canDo_85 rfl c_114 y2 rfl ?_
      refine go_aload_n (pc2 := 87) dX11_canDo_86 rfl rfl rfl ?_
      refine gf_1056 (pc2 := 90) rfl dX11_canDo_87 rfl c_113 (fvs r_113_0) ?_
      refine go_bipush (pc2 := 92) (v := (9 : Int32)) dX11_canDo_90 rfl (by decide) ?_
      refine go_iload_n (pc2 := 93) dX11_canDo_92 rfl rfl rfl ?_
      refine go_iadd (pc2 := 94) dX11_canDo_93 rfl ?_
      obtain ⟨y3, k⟩ := k
      refine go_iaload (pc2 := 95) (j := (((9 : Int32) + x1)).toNatClampNeg) dX11_canDo_94 rfl c_114 y3 rfl ?_
      refine go_iadd (pc2 := 96) dX11_canDo_95 rfl ?_
      refine go_icmp_lt (pc2 := 99) (tgt := 103) dX11_canDo_96 rfl (by decide) (fun c => ?_) (fun c => ?_)
      · have k := k.1 c
        refine go_iconst (pc2 := 104) (v := (0 : Int32)) dX11_canDo_103 rfl (by decide) ?_
        exact go_iret dX11_canDo_104 ⟨_, rfl, rfl⟩ ⟨rfl, _, rfl, k⟩
      · have k := k.2 c
        refine go_iconst (pc2 := 100) (v := (1 : Int32)) dX11_canDo_99 rfl (by decide) ?_
        refine go_goto (tgt := 104) dX11_canDo_100 (by decide) ?_
        exact go_iret dX11_canDo_104 ⟨_, rfl, rfl⟩ ⟨rfl, _, rfl, k⟩
  · have k := k.2 c
    refine go_iload_n (pc2 := 21) dX11_canDo_20 rfl rfl rfl ?_
    refine go_iload (pc2 := 23) dX11_canDo_21 rfl rfl ?_
    obtain ⟨Q4, hC5, k⟩ := k
    refine gcS_I (pc2 := 26) (dC := 0) (As := [.int x2, .int x6]) (st := []) rfl dX11_canDo_23 rfl w_1278 ok_X11_has w_1279 rfl (by decide) (Nat.le_of_ble_eq_true rfl) hC5 (fun v6 h7 hq8 => ?_)
    have k := k v6 h7 hq8
    refine go_if_eq (pc2 := 29) (tgt := 57) dX11_canDo_26 rfl (by decide) (fun c => ?_) (fun c => ?_)
    · have k := k.1 c
      exact k
    · have k := k.2 c
      refine go_iload (pc2 := 31) dX11_canDo_29 rfl rfl ?_
      refine go_aload_n (pc2 := 32) dX11_canDo_31 rfl rfl rfl ?_
      refine go_iload (pc2 := 34) dX11_canDo_32 rfl rfl ?_
      obtain ⟨Q9, hC10, k⟩ := k
      refine gcV_I (pc2 := 37) (dC := 1) (As := [.int x6]) (st := [.int x4]) rfl dX11_canDo_34 rfl w_1250 ok_X11_leastOf vi_X11_leastOf c_113 (by decide) rfl rfl rfl (by decide) (Nat.le_of_ble_eq_true rfl) hC10 (fun v11 h12 hq13 => ?_)
      have k := k v11 h12 hq13
      refine go_iadd (pc2 := 38) dX11_canDo_37 rfl ?_
      refine go_istore (pc2 := 40) (ls2 := [(0, .ref 113), (1, .int x1), (2, .int x2), (3, .int x3), (4, .int (x4 + v11)), (5, .int x5), (6, .int x6)]) dX11_canDo_38 rfl rfl rfl rfl rfl ?_
      refine go_iload (pc2 := 42) dX11_canDo_40 rfl rfl ?_
      refine go_aload_n (pc2 := 43) dX11_canDo_42 rfl rfl rfl ?_
      refine go_iload (pc2 := 45) dX11_canDo_43 rfl rfl ?_
      refine go_iload_n (pc2 := 46) dX11_canDo_45 rfl rfl rfl ?_
      refine go_iload (pc2 := 48) dX11_canDo_46 rfl rfl ?_
      obtain ⟨Q14, hC15, k⟩ := k
      refine gcS_I (pc2 := 51) (dC := 0) (As := [.int x3, .int x6]) (st := [.int x6, .ref 113, .int x5]) rfl dX11_canDo_48 rfl w_1278 ok_X11_has w_1279 rfl (by decide) (Nat.le_of_ble_eq_true rfl) hC15 (fun v16 h17 hq18 => ?_)
      have k := k v16 h17 hq18
      obtain ⟨Q19, hC20, k⟩ := k
      refine gcV_I (pc2 := 54) (dC := 1) (As := [.int x6, .int v16]) (st := [.int x5]) rfl dX11_canDo_51 rfl w_1254 ok_X11_mostOf vi_X11_mostOf c_113 (by decide) rfl rfl rfl (by decide) (Nat.le_of_ble_eq_true rfl) hC20 (fun v21 h22 hq23 => ?_)
      have k := k v21 h22 hq23
      refine go_iadd (pc2 := 55) dX11_canDo_54 rfl ?_
      refine go_istore (pc2 := 57) (ls2 := [(0, .ref 113), (1, .int x1), (2, .int x2), (3, .int x3), (4, .int (x4 + v11)), (5, .int (x5 + v21)), (6, .int x6)]) dX11_canDo_55 rfl rfl rfl rfl rfl ?_
      exact k
theorem b_X11_canDo_57 {x1 : Int32} {x2 : Int32} {x3 : Int32} {x4 : Int32} {x5 : Int32} {x6 : Int32} {h : Hp} {Q : Int32 → Hp → Prop}  (k : GoI 2 mX11_canDo 9 [(0, .ref 113), (1, .int x1), (2, .int x2), (3, .int x3), (4, .int x4), (5, .int x5), (6, .int (x6 + 1))] [] h Q) : GoI 2 mX11_canDo 57 [(0, .ref 113), (1, .int x1), (2, .int x2), (3, .int x3), (4, .int x4), (5, .int x5), (6, .int x6)] [] h Q := by
  refine go_iinc (pc2 := 60) (ls2 := [(0, .ref 113), (1, .int x1), (2, .int x2), (3, .int x3), (4, .int x4), (5, .int x5), (6, .int (x6 + 1))]) (v := (x6 + 1)) dX11_canDo_57 rfl rfl rfl rfl rfl rfl rfl ?_
  refine go_goto (tgt := 9) dX11_canDo_60 (by decide) ?_
  exact k
theorem e_X11_isAhead {x1 : Int32} {x2 : Int32} {h : Hp} {Q : Int32 → Hp → Prop}  (k : ((¬ (h.1 114 1) = 0 → ((¬ (h.1 114 1) = (1 : Int32) → GoI 1 mX11_isAhead 52 [(1, .int x1), (2, .int x2)] [.int (0 : Int32)] h Q) ∧ ((h.1 114 1) = (1 : Int32) → (∃ Q1, CtI 0 mX11_of1 [.ref 113, .int x2, .int (3 : Int32)] h Q1 ∧ ∀ (v3 : Int32) (h4 : Hp), Q1 v3 h4 → (∃ Q6, CtI 0 mX11_of1 [.ref 113, .int x1, .int (3 : Int32)] h4 Q6 ∧ ∀ (v8 : Int32) (h9 : Hp), Q6 v8 h9 → GoI 1 mX11_isAhead 52 [(1, .int x1), (2, .int x2)] [.int (v3 - v8)] h9 Q))))) ∧ ((h.1 114 1) = 0 → (∃ Q11, CtI 0 mX11_of1 [.ref 113, .int x1, .int (4 : Int32)] h Q11 ∧ ∀ (v13 : Int32) (h14 : Hp), Q11 v13 h14 → (∃ Q16, CtI 0 mX11_of1 [.ref 113, .int x2, .int (4 : Int32)] h14 Q16 ∧ ∀ (v18 : Int32) (h19 : Hp), Q16 v18 h19 → GoI 1 mX11_isAhead 52 [(1, .int x1), (2, .int x2)] [.int (v13 - v18)] h19 Q))))) : CtI 1 mX11_isAhead [.ref 113, .int x1, .int x2] h Q := by
  refine Ct.of (by decide +kernel) (Nat.le_of_ble_eq_true rfl) ?_
  show GoI 1 mX11_isAhead 0 [(0, .ref 113), (1, .int x1), (2, .int x2)] [] h Q
  refine go_aload_n (pc2 := 1) dX11_isAhead_0 rfl rfl rfl ?_
  refine gf_1056 (pc2 := 4) rfl dX11_isAhead_1 rfl c_113 (fvs r_113_0) ?_
  refine go_iconst (pc2 := 5) (v := (1 : Int32)) dX11_isAhead_4 rfl (by decide) ?_
  refine go_iaload (pc2 := 6) (j := 1) dX11_isAhead_5 rfl c_114 (vp_c rfl) rfl ?_
  refine go_if_ne (pc2 := 9) (tgt := 25) dX11_isAhead_6 rfl (by decide) (fun c => ?_) (fun c => ?_)
  · have k := k.1 c
    refine go_aload_n (pc2 := 26) dX11_isAhead_25 rfl rfl rfl ?_
    refine gf_1056 (pc2 := 29) rfl dX11_isAhead_26 rfl c_113 (fvs r_113_0) ?_
    refine go_iconst (pc2 := 30) (v := (1 : Int32)) dX11_isAhead_29 rfl (by decide) ?_
    refine go_iaload (pc2 := 31) (j := 1) dX11_isAhead_30 rfl c_114 (vp_c rfl) rfl ?_
    refine go_iconst (pc2 := 32) (v := (1 : Int32)) dX11_isAhead_31 rfl (by decide) ?_
    refine go_icmp_ne (pc2 := 35) (tgt := 51) dX11_isAhead_32 rfl (by decide) (fun c => ?_) (fun c => ?_)
    · have k := k.1 c
      refine go_iconst (pc2 := 52) (v := (0 : Int32)) dX11_isAhead_51 rfl (by decide) ?_
      exact Go.pick [1, 2] rfl k
    · have k := k.2 c
      refine go_aload_n (pc2 := 36) dX11_isAhead_35 rfl rfl rfl ?_
      refine go_iload_n (pc2 := 37) dX11_isAhead_36 rfl rfl rfl ?_
      refine go_iconst (pc2 := 38) (v := (3 : Int32)) dX11_isAhead_37 rfl (by decide) ?_
      obtain ⟨Q1, hC2, k⟩ := k
      refine gcV_I (pc2 := 41) (dC := 0) (As := [.int x2, .int (3 : Int32)]) (st := []) rfl dX11_isAhead_38 rfl w_1212 ok_X11_of1 vi_X11_of1 c_113 (by decide) rfl rfl rfl (by decide) (Nat.le_of_ble_eq_true rfl) hC2 (fun v3 h4 hq5 => ?_)
      have k := k v3 h4 hq5
      refine go_aload_n (pc2 := 42) dX11_isAhead_41 rfl rfl rfl ?_
      refine go_iload_n (pc2 := 43) dX11_isAhead_42 rfl rfl rfl ?_
      refine go_iconst (pc2 := 44) (v := (3 : Int32)) dX11_isAhead_43 rfl (by decide) ?_
      obtain ⟨Q6, hC7, k⟩ := k
      refine gcV_I (pc2 := 47) (dC := 0) (As := [.int x1, .int (3 : Int32)]) (st := [.int v3]) rfl dX11_isAhead_44 rfl w_1212 ok_X11_of1 vi_X11_of1 c_113 (by decide) rfl rfl rfl (by decide) (Nat.le_of_ble_eq_true rfl) hC7 (fun v8 h9 hq10 => ?_)
      have k := k v8 h9 hq10
      refine go_isub (pc2 := 48) dX11_isAhead_47 rfl ?_
      refine go_goto (tgt := 52) dX11_isAhead_48 (by decide) ?_
      exact Go.pick [1, 2] rfl k
  · have k := k.2 c
    refine go_aload_n (pc2 := 10) dX11_isAhead_9 rfl rfl rfl ?_
    refine go_iload_n (pc2 := 11) dX11_isAhead_10 rfl rfl rfl ?_
    refine go_iconst (pc2 := 12) (v := (4 : Int32)) dX11_isAhead_11 rfl (by decide) ?_
    obtain ⟨Q11, hC12, k⟩ := k
    refine gcV_I (pc2 := 15) (dC := 0) (As := [.int x1, .int (4 : Int32)]) (st := []) rfl dX11_isAhead_12 rfl w_1212 ok_X11_of1 vi_X11_of1 c_113 (by decide) rfl rfl rfl (by decide) (Nat.le_of_ble_eq_true rfl) hC12 (fun v13 h14 hq15 => ?_)
    have k := k v13 h14 hq15
    refine go_aload_n (pc2 := 16) dX11_isAhead_15 rfl rfl rfl ?_
    refine go_iload_n (pc2 := 17) dX11_isAhead_16 rfl rfl rfl ?_
    refine go_iconst (pc2 := 18) (v := (4 : Int32)) dX11_isAhead_17 rfl (by decide) ?_
    obtain ⟨Q16, hC17, k⟩ := k
    refine gcV_I (pc2 := 21) (dC := 0) (As := [.int x2, .int (4 : Int32)]) (st := [.int v13]) rfl dX11_isAhead_18 rfl w_1212 ok_X11_of1 vi_X11_of1 c_113 (by decide) rfl rfl rfl (by decide) (Nat.le_of_ble_eq_true rfl) hC17 (fun v18 h19 hq20 => ?_)
    have k := k v18 h19 hq20
    refine go_isub (pc2 := 22) dX11_isAhead_21 rfl ?_
    refine go_goto (tgt := 52) dX11_isAhead_22 (by decide) ?_
    exact Go.pick [1, 2] rfl k
theorem b_X11_isAhead_52 {x1 : Int32} {x2 : Int32} {s0 : Int32} {h : Hp} {Q : Int32 → Hp → Prop}  (k : ((s0 < 0 → Q (1 : Int32) h) ∧ (¬ (s0 < 0) → ((¬ s0 = 0 → Q (0 : Int32) h) ∧ (s0 = 0 → ((x2 ≤ x1 → Q (0 : Int32) h) ∧ (¬ (x2 ≤ x1) → Q (1 : Int32) h))))))) : GoI 1 mX11_isAhead 52 [(1, .int x1), (2, .int x2)] [.int s0] h Q := by
  refine go_istore_n (pc2 := 53) (ls2 := [(1, .int x1), (2, .int x2), (3, .int s0)]) dX11_isAhead_52 rfl rfl rfl rfl rfl rfl ?_
  refine go_iload_n (pc2 := 54) dX11_isAhead_53 rfl rfl rfl ?_
  refine go_if_lt (pc2 := 57) (tgt := 66) dX11_isAhead_54 rfl (by decide) (fun c => ?_) (fun c => ?_)
  · have k := k.1 c
    refine go_iconst (pc2 := 67) (v := (1 : Int32)) dX11_isAhead_66 rfl (by decide) ?_
    refine go_goto (tgt := 71) dX11_isAhead_67 (by decide) ?_
    exact go_iret dX11_isAhead_71 ⟨_, rfl, rfl⟩ ⟨rfl, _, rfl, k⟩
  · have k := k.2 c
    refine go_iload_n (pc2 := 58) dX11_isAhead_57 rfl rfl rfl ?_
    refine go_if_ne (pc2 := 61) (tgt := 70) dX11_isAhead_58 rfl (by decide) (fun c => ?_) (fun c => ?_)
    · have k := k.1 c
      refine go_iconst (pc2 := 71) (v := (0 : Int32)) dX11_isAhead_70 rfl (by decide) ?_
      exact go_iret dX11_isAhead_71 ⟨_, rfl, rfl⟩ ⟨rfl, _, rfl, k⟩
    · have k := k.2 c
      refine go_iload_n (pc2 := 62) dX11_isAhead_61 rfl rfl rfl ?_
      refine go_iload_n (pc2 := 63) dX11_isAhead_62 rfl rfl rfl ?_
      refine go_icmp_ge (pc2 := 66) (tgt := 70) dX11_isAhead_63 rfl (by decide) (fun c => ?_) (fun c => ?_)
      · have k := k.1 c
        refine go_iconst (pc2 := 71) (v := (0 : Int32)) dX11_isAhead_70 rfl (by decide) ?_
        exact go_iret dX11_isAhead_71 ⟨_, rfl, rfl⟩ ⟨rfl, _, rfl, k⟩
      · have k := k.2 c
        refine go_iconst (pc2 := 67) (v := (1 : Int32)) dX11_isAhead_66 rfl (by decide) ?_
        refine go_goto (tgt := 71) dX11_isAhead_67 (by decide) ?_
        exact go_iret dX11_isAhead_71 ⟨_, rfl, rfl⟩ ⟨rfl, _, rfl, k⟩
theorem e_X11_byMerit {x1 : Int32} {h : Hp} {Q : Int32 → Hp → Prop}  (k : GoI 2 mX11_byMerit 2 [(0, .ref 113), (1, .int x1), (2, .int (0 : Int32))] [] h Q) : CtI 2 mX11_byMerit [.ref 113, .int x1] h Q := by
  refine Ct.of (by decide +kernel) (Nat.le_of_ble_eq_true rfl) ?_
  show GoI 2 mX11_byMerit 0 [(0, .ref 113), (1, .int x1)] [] h Q
  refine go_iconst (pc2 := 1) (v := (0 : Int32)) dX11_byMerit_0 rfl (by decide) ?_
  refine go_istore_n (pc2 := 2) (ls2 := [(0, .ref 113), (1, .int x1), (2, .int (0 : Int32))]) dX11_byMerit_1 rfl rfl rfl rfl rfl rfl ?_
  exact k
theorem b_X11_byMerit_2 {x1 : Int32} {x2 : Int32} {h : Hp} {Q : Int32 → Hp → Prop}  (k : (((h.1 114 3) ≤ x2 → Q (0 : Int32) h) ∧ (¬ ((h.1 114 3) ≤ x2) → GoI 2 mX11_byMerit 17 [(0, .ref 113), (1, .int x1), (2, .int x2), (3, .int (0 : Int32)), (4, .int (0 : Int32))] [] h Q))) : GoI 2 mX11_byMerit 2 [(0, .ref 113), (1, .int x1), (2, .int x2)] [] h Q := by
  refine go_iload_n (pc2 := 3) dX11_byMerit_2 rfl rfl rfl ?_
  refine go_aload_n (pc2 := 4) dX11_byMerit_3 rfl rfl rfl ?_
  refine gf_1056 (pc2 := 7) rfl dX11_byMerit_4 rfl c_113 (fvs r_113_0) ?_
  refine go_iconst (pc2 := 8) (v := (3 : Int32)) dX11_byMerit_7 rfl (by decide) ?_
  refine go_iaload (pc2 := 9) (j := 3) dX11_byMerit_8 rfl c_114 (vp_c rfl) rfl ?_
  refine go_icmp_ge (pc2 := 12) (tgt := 65) dX11_byMerit_9 rfl (by decide) (fun c => ?_) (fun c => ?_)
  · have k := k.1 c
    refine go_iconst (pc2 := 66) (v := (0 : Int32)) dX11_byMerit_65 rfl (by decide) ?_
    exact go_iret dX11_byMerit_66 ⟨_, rfl, rfl⟩ ⟨rfl, _, rfl, k⟩
  · have k := k.2 c
    refine go_iconst (pc2 := 13) (v := (0 : Int32)) dX11_byMerit_12 rfl (by decide) ?_
    refine go_istore_n (pc2 := 14) (ls2 := [(0, .ref 113), (1, .int x1), (2, .int x2), (3, .int (0 : Int32))]) dX11_byMerit_13 rfl rfl rfl rfl rfl rfl ?_
    refine go_iconst (pc2 := 15) (v := (0 : Int32)) dX11_byMerit_14 rfl (by decide) ?_
    refine go_istore (pc2 := 17) (ls2 := [(0, .ref 113), (1, .int x1), (2, .int x2), (3, .int (0 : Int32)), (4, .int (0 : Int32))]) dX11_byMerit_15 rfl rfl rfl rfl rfl ?_
    exact k
theorem b_X11_byMerit_17 {x1 : Int32} {x2 : Int32} {x3 : Int32} {x4 : Int32} {h : Hp} {Q : Int32 → Hp → Prop}  (k : (((h.1 114 3) ≤ x4 → ((¬ x3 = x1 → GoI 2 mX11_byMerit 2 [(0, .ref 113), (1, .int x1), (2, .int (x2 + 1))] [] h Q) ∧ (x3 = x1 → Q x2 h))) ∧ (¬ ((h.1 114 3) ≤ x4) → (∃ Q1, CtI 1 mX11_isAhead [.ref 113, .int x4, .int x2] h Q1 ∧ ∀ (v3 : Int32) (h4 : Hp), Q1 v3 h4 → GoI 2 mX11_byMerit 17 [(0, .ref 113), (1, .int x1), (2, .int x2), (3, .int (x3 + (if v3 = 0 then (0 : Int32) else (1 : Int32)))), (4, .int (x4 + 1))] [] h4 Q)))) : GoI 2 mX11_byMerit 17 [(0, .ref 113), (1, .int x1), (2, .int x2), (3, .int x3), (4, .int x4)] [] h Q := by
  refine go_iload (pc2 := 19) dX11_byMerit_17 rfl rfl ?_
  refine go_aload_n (pc2 := 20) dX11_byMerit_19 rfl rfl rfl ?_
  refine gf_1056 (pc2 := 23) rfl dX11_byMerit_20 rfl c_113 (fvs r_113_0) ?_
  refine go_iconst (pc2 := 24) (v := (3 : Int32)) dX11_byMerit_23 rfl (by decide) ?_
  refine go_iaload (pc2 := 25) (j := 3) dX11_byMerit_24 rfl c_114 (vp_c rfl) rfl ?_
  refine go_icmp_ge (pc2 := 28) (tgt := 52) dX11_byMerit_25 rfl (by decide) (fun c => ?_) (fun c => ?_)
  · have k := k.1 c
    refine go_iload_n (pc2 := 53) dX11_byMerit_52 rfl rfl rfl ?_
    refine go_iload_n (pc2 := 54) dX11_byMerit_53 rfl rfl rfl ?_
    refine go_icmp_ne (pc2 := 57) (tgt := 59) dX11_byMerit_54 rfl (by decide) (fun c => ?_) (fun c => ?_)
    · have k := k.1 c
      refine go_iinc (pc2 := 62) (ls2 := [(0, .ref 113), (1, .int x1), (2, .int (x2 + 1)), (3, .int x3), (4, .int x4)]) (v := (x2 + 1)) dX11_byMerit_59 rfl rfl rfl rfl rfl rfl rfl ?_
      refine go_goto (tgt := 2) dX11_byMerit_62 (by decide) ?_
      exact Go.pick [0, 1, 2] rfl k
    · have k := k.2 c
      refine go_iload_n (pc2 := 58) dX11_byMerit_57 rfl rfl rfl ?_
      exact go_iret dX11_byMerit_58 ⟨_, rfl, rfl⟩ ⟨rfl, _, rfl, k⟩
  · have k := k.2 c
    refine go_iload_n (pc2 := 29) dX11_byMerit_28 rfl rfl rfl ?_
    refine go_aload_n (pc2 := 30) dX11_byMerit_29 rfl rfl rfl ?_
    refine go_iload (pc2 := 32) dX11_byMerit_30 rfl rfl ?_
    refine go_iload_n (pc2 := 33) dX11_byMerit_32 rfl rfl rfl ?_
    obtain ⟨Q1, hC2, k⟩ := k
    refine gcV_I (pc2 := 36) (dC := 1) (As := [.int x4, .int x2]) (st := [.int x3]) rfl dX11_byMerit_33 rfl w_1317 ok_X11_isAhead vi_X11_isAhead c_113 (by decide) rfl rfl rfl (by decide) (Nat.le_of_ble_eq_true rfl) hC2 (fun v3 h4 hq5 => ?_)
    have k := k v3 h4 hq5
    have J : GoI 2 mX11_byMerit 44 [(0, .ref 113), (1, .int x1), (2, .int x2), (3, .int x3), (4, .int x4)] [.int (if v3 = 0 then (0 : Int32) else (1 : Int32)), .int x3] h4 Q := by
      refine go_iadd (pc2 := 45) dX11_byMerit_44 rfl ?_
      refine go_istore_n (pc2 := 46) (ls2 := [(0, .ref 113), (1, .int x1), (2, .int x2), (3, .int (x3 + (if v3 = 0 then (0 : Int32) else (1 : Int32)))), (4, .int x4)]) dX11_byMerit_45 rfl rfl rfl rfl rfl rfl ?_
      refine go_iinc (pc2 := 49) (ls2 := [(0, .ref 113), (1, .int x1), (2, .int x2), (3, .int (x3 + (if v3 = 0 then (0 : Int32) else (1 : Int32)))), (4, .int (x4 + 1))]) (v := (x4 + 1)) dX11_byMerit_46 rfl rfl rfl rfl rfl rfl rfl ?_
      refine go_goto (tgt := 17) dX11_byMerit_49 (by decide) ?_
      exact k
    refine go_if_eq (pc2 := 39) (tgt := 43) dX11_byMerit_36 rfl (by decide) (fun c => ?_) (fun c => ?_)
    · rw [if_pos c] at J
      exact go_iconst (pc2 := 44) dX11_byMerit_43 rfl (by decide) J
    · rw [if_neg c] at J
      exact go_iconst (pc2 := 40) dX11_byMerit_39 rfl (by decide) (go_goto (tgt := 44) dX11_byMerit_40 (by decide) J)
theorem e_X11_shares {x1 : Int32} {x2 : Int32} {x3 : Int32} {h : Hp} {Q : Hp → Prop}  (k : (vp_in ((4 : Int32) + x1) 49 ∧ GoV 3 mX11_shares 13 [(0, .ref 113), (2, .int x2), (3, .int x3), (4, .int (h.1 114 (((4 : Int32) + x1)).toNatClampNeg)), (5, .int (0 : Int32))] [] h Q)) : CtV 3 mX11_shares [.ref 113, .int x1, .int x2, .int x3] h Q := by
  refine Ct.of (by decide +kernel) (Nat.le_of_ble_eq_true rfl) ?_
  show GoV 3 mX11_shares 0 [(0, .ref 113), (1, .int x1), (2, .int x2), (3, .int x3)] [] h Q
  refine go_aload_n (pc2 := 1) dX11_shares_0 rfl rfl rfl ?_
  refine gf_1056 (pc2 := 4) rfl dX11_shares_1 rfl c_113 (fvs r_113_0) ?_
  refine go_iconst (pc2 := 5) (v := (4 : Int32)) dX11_shares_4 rfl (by decide) ?_
  refine go_iload_n (pc2 := 6) dX11_shares_5 rfl rfl rfl ?_
  refine go_iadd (pc2 := 7) dX11_shares_6 rfl ?_
  obtain ⟨y1, k⟩ := k
  refine go_iaload (pc2 := 8) (j := (((4 : Int32) + x1)).toNatClampNeg) dX11_shares_7 rfl c_114 y1 rfl ?_
  refine go_istore (pc2 := 10) (ls2 := [(0, .ref 113), (1, .int x1), (2, .int x2), (3, .int x3), (4, .int (h.1 114 (((4 : Int32) + x1)).toNatClampNeg))]) dX11_shares_8 rfl rfl rfl rfl rfl ?_
  refine go_iconst (pc2 := 11) (v := (0 : Int32)) dX11_shares_10 rfl (by decide) ?_
  refine go_istore (pc2 := 13) (ls2 := [(0, .ref 113), (1, .int x1), (2, .int x2), (3, .int x3), (4, .int (h.1 114 (((4 : Int32) + x1)).toNatClampNeg)), (5, .int (0 : Int32))]) dX11_shares_11 rfl rfl rfl rfl rfl ?_
  exact Go.pick [0, 2, 3, 4, 5] rfl k
theorem b_X11_shares_13 {x2 : Int32} {x3 : Int32} {x4 : Int32} {x5 : Int32} {h : Hp} {Q : Hp → Prop}  (k : (((h.1 114 3) ≤ x5 → GoV 3 mX11_shares 71 [(0, .ref 113), (2, .int x2), (3, .int x3), (4, .int x4), (5, .int (0 : Int32))] [] h Q) ∧ (¬ ((h.1 114 3) ≤ x5) → (∃ Q1, CtI 0 mX11_has [.int x2, .int x5] h Q1 ∧ ∀ (v3 : Int32) (h4 : Hp), Q1 v3 h4 → ((v3 = 0 → GoV 3 mX11_shares 49 [(0, .ref 113), (2, .int x2), (3, .int x3), (4, .int x4), (5, .int x5)] [.int (0 : Int32), .int x5, .ref 118] h4 Q) ∧ (¬ v3 = 0 → (∃ Q6, CtI 1 mX11_leastOf [.ref 113, .int x5] h4 Q6 ∧ ∀ (v8 : Int32) (h9 : Hp), Q6 v8 h9 → GoV 3 mX11_shares 49 [(0, .ref 113), (2, .int x2), (3, .int x3), (4, .int x4), (5, .int x5)] [.int v8, .int x5, .ref 118] h9 Q))))))) : GoV 3 mX11_shares 13 [(0, .ref 113), (2, .int x2), (3, .int x3), (4, .int x4), (5, .int x5)] [] h Q := by
  refine go_iload (pc2 := 15) dX11_shares_13 rfl rfl ?_
  refine go_aload_n (pc2 := 16) dX11_shares_15 rfl rfl rfl ?_
  refine gf_1056 (pc2 := 19) rfl dX11_shares_16 rfl c_113 (fvs r_113_0) ?_
  refine go_iconst (pc2 := 20) (v := (3 : Int32)) dX11_shares_19 rfl (by decide) ?_
  refine go_iaload (pc2 := 21) (j := 3) dX11_shares_20 rfl c_114 (vp_c rfl) rfl ?_
  refine go_icmp_ge (pc2 := 24) (tgt := 68) dX11_shares_21 rfl (by decide) (fun c => ?_) (fun c => ?_)
  · have k := k.1 c
    refine go_iconst (pc2 := 69) (v := (0 : Int32)) dX11_shares_68 rfl (by decide) ?_
    refine go_istore (pc2 := 71) (ls2 := [(0, .ref 113), (2, .int x2), (3, .int x3), (4, .int x4), (5, .int (0 : Int32))]) dX11_shares_69 rfl rfl rfl rfl rfl ?_
    exact k
  · have k := k.2 c
    refine go_aload_n (pc2 := 25) dX11_shares_24 rfl rfl rfl ?_
    refine gf_1063 (pc2 := 28) rfl dX11_shares_25 rfl c_113 (fvs r_113_7) ?_
    refine go_iload (pc2 := 30) dX11_shares_28 rfl rfl ?_
    refine go_iload_n (pc2 := 31) dX11_shares_30 rfl rfl rfl ?_
    refine go_iload (pc2 := 33) dX11_shares_31 rfl rfl ?_
    obtain ⟨Q1, hC2, k⟩ := k
    refine gcS_I (pc2 := 36) (dC := 0) (As := [.int x2, .int x5]) (st := [.int x5, .ref 118]) rfl dX11_shares_33 rfl w_1278 ok_X11_has w_1279 rfl (by decide) (Nat.le_of_ble_eq_true rfl) hC2 (fun v3 h4 hq5 => ?_)
    have k := k v3 h4 hq5
    refine go_if_eq (pc2 := 39) (tgt := 48) dX11_shares_36 rfl (by decide) (fun c => ?_) (fun c => ?_)
    · have k := k.1 c
      refine go_iconst (pc2 := 49) (v := (0 : Int32)) dX11_shares_48 rfl (by decide) ?_
      exact k
    · have k := k.2 c
      refine go_aload_n (pc2 := 40) dX11_shares_39 rfl rfl rfl ?_
      refine go_iload (pc2 := 42) dX11_shares_40 rfl rfl ?_
      obtain ⟨Q6, hC7, k⟩ := k
      refine gcV_I (pc2 := 45) (dC := 1) (As := [.int x5]) (st := [.int x5, .ref 118]) rfl dX11_shares_42 rfl w_1250 ok_X11_leastOf vi_X11_leastOf c_113 (by decide) rfl rfl rfl (by decide) (Nat.le_of_ble_eq_true rfl) hC7 (fun v8 h9 hq10 => ?_)
      have k := k v8 h9 hq10
      refine go_goto (tgt := 49) dX11_shares_45 (by decide) ?_
      exact k
theorem b_X11_shares_71 {x2 : Int32} {x3 : Int32} {x4 : Int32} {x5 : Int32} {h : Hp} {Q : Hp → Prop}  (k : (((h.1 114 3) ≤ x5 → Q h) ∧ (¬ ((h.1 114 3) ≤ x5) → (∃ Q1, CtI 2 mX11_byMerit [.ref 113, .int x5] h Q1 ∧ ∀ (v3 : Int32) (h4 : Hp), Q1 v3 h4 → (∃ Q6, CtI 0 mX11_has [.int x2, .int v3] h4 Q6 ∧ ∀ (v8 : Int32) (h9 : Hp), Q6 v8 h9 → ((v8 = 0 → GoV 3 mX11_shares 145 [(0, .ref 113), (2, .int x2), (3, .int x3), (4, .int x4), (5, .int x5)] [] h9 Q) ∧ (¬ v8 = 0 → (∃ Q11, CtI 0 mX11_has [.int x3, .int v3] h9 Q11 ∧ ∀ (v13 : Int32) (h14 : Hp), Q11 v13 h14 → (∃ Q16, CtI 1 mX11_mostOf [.ref 113, .int v3, .int v13] h14 Q16 ∧ ∀ (v18 : Int32) (h19 : Hp), Q16 v18 h19 → (vp_in v3 3 ∧ (∃ Q22, CtI 0 mJ9_min_7cf53 [.int x4, .int (v18 - (h19.1 118 (v3).toNatClampNeg))] h19 Q22 ∧ ∀ (v24 : Int32) (h25 : Hp), Q22 v24 h25 → (vp_in v3 3 ∧ (vp_in v3 3 ∧ (∀ g29 : Hp, g29 = (ui h25 118 (v3).toNatClampNeg ((h25.1 118 (v3).toNatClampNeg) + v24)) → GoV 3 mX11_shares 145 [(0, .ref 113), (2, .int x2), (3, .int x3), (4, .int (x4 - v24)), (5, .int x5)] [] g29 Q)))))))))))))) : GoV 3 mX11_shares 71 [(0, .ref 113), (2, .int x2), (3, .int x3), (4, .int x4), (5, .int x5)] [] h Q := by
  refine go_iload (pc2 := 73) dX11_shares_71 rfl rfl ?_
  refine go_aload_n (pc2 := 74) dX11_shares_73 rfl rfl rfl ?_
  refine gf_1056 (pc2 := 77) rfl dX11_shares_74 rfl c_113 (fvs r_113_0) ?_
  refine go_iconst (pc2 := 78) (v := (3 : Int32)) dX11_shares_77 rfl (by decide) ?_
  refine go_iaload (pc2 := 79) (j := 3) dX11_shares_78 rfl c_114 (vp_c rfl) rfl ?_
  refine go_icmp_ge (pc2 := 82) (tgt := 151) dX11_shares_79 rfl (by decide) (fun c => ?_) (fun c => ?_)
  · have k := k.1 c
    exact go_ret dX11_shares_151 rfl ⟨rfl, rfl, k⟩
  · have k := k.2 c
    refine go_aload_n (pc2 := 83) dX11_shares_82 rfl rfl rfl ?_
    refine go_iload (pc2 := 85) dX11_shares_83 rfl rfl ?_
    obtain ⟨Q1, hC2, k⟩ := k
    refine gcV_I (pc2 := 88) (dC := 2) (As := [.int x5]) (st := []) rfl dX11_shares_85 rfl w_1313 ok_X11_byMerit vi_X11_byMerit c_113 (by decide) rfl rfl rfl (by decide) (Nat.le_of_ble_eq_true rfl) hC2 (fun v3 h4 hq5 => ?_)
    have k := k v3 h4 hq5
    refine go_istore (pc2 := 90) (ls2 := [(0, .ref 113), (2, .int x2), (3, .int x3), (4, .int x4), (5, .int x5), (6, .int v3)]) dX11_shares_88 rfl rfl rfl rfl rfl ?_
    refine go_iload_n (pc2 := 91) dX11_shares_90 rfl rfl rfl ?_
    refine go_iload (pc2 := 93) dX11_shares_91 rfl rfl ?_
    obtain ⟨Q6, hC7, k⟩ := k
    refine gcS_I (pc2 := 96) (dC := 0) (As := [.int x2, .int v3]) (st := []) rfl dX11_shares_93 rfl w_1278 ok_X11_has w_1279 rfl (by decide) (Nat.le_of_ble_eq_true rfl) hC7 (fun v8 h9 hq10 => ?_)
    have k := k v8 h9 hq10
    refine go_if_eq (pc2 := 99) (tgt := 145) dX11_shares_96 rfl (by decide) (fun c => ?_) (fun c => ?_)
    · have k := k.1 c
      exact Go.pick [0, 1, 2, 3, 4] rfl k
    · have k := k.2 c
      refine go_iload (pc2 := 101) dX11_shares_99 rfl rfl ?_
      refine go_aload_n (pc2 := 102) dX11_shares_101 rfl rfl rfl ?_
      refine go_iload (pc2 := 104) dX11_shares_102 rfl rfl ?_
      refine go_iload_n (pc2 := 105) dX11_shares_104 rfl rfl rfl ?_
      refine go_iload (pc2 := 107) dX11_shares_105 rfl rfl ?_
      obtain ⟨Q11, hC12, k⟩ := k
      refine gcS_I (pc2 := 110) (dC := 0) (As := [.int x3, .int v3]) (st := [.int v3, .ref 113, .int x4]) rfl dX11_shares_107 rfl w_1278 ok_X11_has w_1279 rfl (by decide) (Nat.le_of_ble_eq_true rfl) hC12 (fun v13 h14 hq15 => ?_)
      have k := k v13 h14 hq15
      obtain ⟨Q16, hC17, k⟩ := k
      refine gcV_I (pc2 := 113) (dC := 1) (As := [.int v3, .int v13]) (st := [.int x4]) rfl dX11_shares_110 rfl w_1254 ok_X11_mostOf vi_X11_mostOf c_113 (by decide) rfl rfl rfl (by decide) (Nat.le_of_ble_eq_true rfl) hC17 (fun v18 h19 hq20 => ?_)
      have k := k v18 h19 hq20
      refine go_aload_n (pc2 := 114) dX11_shares_113 rfl rfl rfl ?_
      refine gf_1063 (pc2 := 117) rfl dX11_shares_114 rfl c_113 (fvs r_113_7) ?_
      refine go_iload (pc2 := 119) dX11_shares_117 rfl rfl ?_
      obtain ⟨y21, k⟩ := k
      refine go_iaload (pc2 := 120) (j := (v3).toNatClampNeg) dX11_shares_119 rfl c_118 y21 rfl ?_
      refine go_isub (pc2 := 121) dX11_shares_120 rfl ?_
      obtain ⟨Q22, hC23, k⟩ := k
      refine gcS_I (pc2 := 124) (dC := 0) (As := [.int x4, .int (v18 - (h19.1 118 (v3).toNatClampNeg))]) (st := []) rfl dX11_shares_121 rfl w_1258 ok_J9_min_7cf53 w_640 rfl (by decide) (Nat.le_of_ble_eq_true rfl) hC23 (fun v24 h25 hq26 => ?_)
      have k := k v24 h25 hq26
      refine go_istore (pc2 := 126) (ls2 := [(0, .ref 113), (2, .int x2), (3, .int x3), (4, .int x4), (5, .int x5), (6, .int v3), (7, .int v24)]) dX11_shares_124 rfl rfl rfl rfl rfl ?_
      refine go_aload_n (pc2 := 127) dX11_shares_126 rfl rfl rfl ?_
      refine gf_1063 (pc2 := 130) rfl dX11_shares_127 rfl c_113 (fvs r_113_7) ?_
      refine go_iload (pc2 := 132) dX11_shares_130 rfl rfl ?_
      refine go_dup2 (pc2 := 133) dX11_shares_132 rfl rfl rfl ?_
      obtain ⟨y27, k⟩ := k
      refine go_iaload (pc2 := 134) (j := (v3).toNatClampNeg) dX11_shares_133 rfl c_118 y27 rfl ?_
      refine go_iload (pc2 := 136) dX11_shares_134 rfl rfl ?_
      refine go_iadd (pc2 := 137) dX11_shares_136 rfl ?_
      obtain ⟨y28, k⟩ := k
      refine go_iastore (pc2 := 138) (j := (v3).toNatClampNeg) dX11_shares_137 rfl c_118 y28 rfl ?_
      obtain ⟨g29, eg29⟩ : ∃ y : Hp, y = (ui h25 118 (v3).toNatClampNeg ((h25.1 118 (v3).toNatClampNeg) + v24)) := ⟨_, rfl⟩
      rw [← eg29]
      have k := k g29 eg29
      refine go_iload (pc2 := 140) dX11_shares_138 rfl rfl ?_
      refine go_iload (pc2 := 142) dX11_shares_140 rfl rfl ?_
      refine go_isub (pc2 := 143) dX11_shares_142 rfl ?_
      refine go_istore (pc2 := 145) (ls2 := [(0, .ref 113), (2, .int x2), (3, .int x3), (4, .int (x4 - v24)), (5, .int x5), (6, .int v3), (7, .int v24)]) dX11_shares_143 rfl rfl rfl rfl rfl ?_
      exact Go.pick [0, 1, 2, 3, 4] rfl k
theorem b_X11_shares_49 {x2 : Int32} {x3 : Int32} {x4 : Int32} {x5 : Int32} {s1 : Int32} {s2 : Int32} {h : Hp} {Q : Hp → Prop}  (k : (vp_in s1 3 ∧ (∀ g2 : Hp, g2 = (ui h 118 (s1).toNatClampNeg s2) → (vp_in x5 3 ∧ GoV 3 mX11_shares 13 [(0, .ref 113), (2, .int x2), (3, .int x3), (4, .int (x4 - (g2.1 118 (x5).toNatClampNeg))), (5, .int (x5 + 1))] [] g2 Q)))) : GoV 3 mX11_shares 49 [(0, .ref 113), (2, .int x2), (3, .int x3), (4, .int x4), (5, .int x5)] [.int s2, .int s1, .ref 118] h Q := by
  obtain ⟨y1, k⟩ := k
  refine go_iastore (pc2 := 50) (j := (s1).toNatClampNeg) dX11_shares_49 rfl c_118 y1 rfl ?_
  obtain ⟨g2, eg2⟩ : ∃ y : Hp, y = (ui h 118 (s1).toNatClampNeg s2) := ⟨_, rfl⟩
  rw [← eg2]
  have k := k g2 eg2
  refine go_iload (pc2 := 52) dX11_shares_50 rfl rfl ?_
  refine go_aload_n (pc2 := 53) dX11_shares_52 rfl rfl rfl ?_
  refine gf_1063 (pc2 := 56) rfl dX11_shares_53 rfl c_113 (fvs r_113_7) ?_
  refine go_iload (pc2 := 58) dX11_shares_56 rfl rfl ?_
  obtain ⟨y3, k⟩ := k
  refine go_iaload (pc2 := 59) (j := (x5).toNatClampNeg) dX11_shares_58 rfl c_118 y3 rfl ?_
  refine go_isub (pc2 := 60) dX11_shares_59 rfl ?_
  refine go_istore (pc2 := 62) (ls2 := [(0, .ref 113), (2, .int x2), (3, .int x3), (4, .int (x4 - (g2.1 118 (x5).toNatClampNeg))), (5, .int x5)]) dX11_shares_60 rfl rfl rfl rfl rfl ?_
  refine go_iinc (pc2 := 65) (ls2 := [(0, .ref 113), (2, .int x2), (3, .int x3), (4, .int (x4 - (g2.1 118 (x5).toNatClampNeg))), (5, .int (x5 + 1))]) (v := (x5 + 1)) dX11_shares_62 rfl rfl rfl rfl rfl rfl rfl ?_
  refine go_goto (tgt := 13) dX11_shares_65 (by decide) ?_
  exact k
theorem b_X11_shares_145 {x2 : Int32} {x3 : Int32} {x4 : Int32} {x5 : Int32} {h : Hp} {Q : Hp → Prop}  (k : GoV 3 mX11_shares 71 [(0, .ref 113), (2, .int x2), (3, .int x3), (4, .int x4), (5, .int (x5 + 1))] [] h Q) : GoV 3 mX11_shares 145 [(0, .ref 113), (2, .int x2), (3, .int x3), (4, .int x4), (5, .int x5)] [] h Q := by
  refine go_iinc (pc2 := 148) (ls2 := [(0, .ref 113), (2, .int x2), (3, .int x3), (4, .int x4), (5, .int (x5 + 1))]) (v := (x5 + 1)) dX11_shares_145 rfl rfl rfl rfl rfl rfl rfl ?_
  refine go_goto (tgt := 71) dX11_shares_148 (by decide) ?_
  exact k
theorem e_X11_costBy {x1 : Int32} {x2 : Int32} {x3 : Int32} {h : Hp} {Q : Int32 → Hp → Prop}  (k : (∃ Q1, CtI 2 mX11_canDo [.ref 113, .int x1, .int x2, .int x3] h Q1 ∧ ∀ (v3 : Int32) (h4 : Hp), Q1 v3 h4 → ((¬ v3 = 0 → (∃ Q6, CtV 3 mX11_shares [.ref 113, .int x1, .int x2, .int x3] h4 Q6 ∧ ∀ h9 : Hp, Q6 h9 → GoI 4 mX11_costBy 26 [(0, .ref 113), (2, .int x2), (4, .int (0 : Int32)), (5, .int (0 : Int32))] [] h9 Q)) ∧ (v3 = 0 → Q (1000000000 : Int32) h4)))) : CtI 4 mX11_costBy [.ref 113, .int x1, .int x2, .int x3] h Q := by
  refine Ct.of (by decide +kernel) (Nat.le_of_ble_eq_true rfl) ?_
  show GoI 4 mX11_costBy 0 [(0, .ref 113), (1, .int x1), (2, .int x2), (3, .int x3)] [] h Q
  refine go_aload_n (pc2 := 1) dX11_costBy_0 rfl rfl rfl ?_
  refine go_iload_n (pc2 := 2) dX11_costBy_1 rfl rfl rfl ?_
  refine go_iload_n (pc2 := 3) dX11_costBy_2 rfl rfl rfl ?_
  refine go_iload_n (pc2 := 4) dX11_costBy_3 rfl rfl rfl ?_
  obtain ⟨Q1, hC2, k⟩ := k
  refine gcV_I (pc2 := 7) (dC := 2) (As := [.int x1, .int x2, .int x3]) (st := []) rfl dX11_costBy_4 rfl w_1304 ok_X11_canDo vi_X11_canDo c_113 (by decide) rfl rfl rfl (by decide) (Nat.le_of_ble_eq_true rfl) hC2 (fun v3 h4 hq5 => ?_)
  have k := k v3 h4 hq5
  refine go_if_ne (pc2 := 10) (tgt := 13) dX11_costBy_7 rfl (by decide) (fun c => ?_) (fun c => ?_)
  · have k := k.1 c
    refine go_aload_n (pc2 := 14) dX11_costBy_13 rfl rfl rfl ?_
    refine go_iload_n (pc2 := 15) dX11_costBy_14 rfl rfl rfl ?_
    refine go_iload_n (pc2 := 16) dX11_costBy_15 rfl rfl rfl ?_
    refine go_iload_n (pc2 := 17) dX11_costBy_16 rfl rfl rfl ?_
    obtain ⟨Q6, hC7, k⟩ := k
    refine gcV_V (pc2 := 20) (dC := 3) (As := [.int x1, .int x2, .int x3]) (st := []) rfl dX11_costBy_17 rfl w_1309 ok_X11_shares vi_X11_shares c_113 (by decide) rfl rfl rfl (by decide) (Nat.le_of_ble_eq_true rfl) hC7 (fun h9 hq10 => ?_)
    have k := k h9 hq10
    refine go_iconst (pc2 := 21) (v := (0 : Int32)) dX11_costBy_20 rfl (by decide) ?_
    refine go_istore (pc2 := 23) (ls2 := [(0, .ref 113), (1, .int x1), (2, .int x2), (3, .int x3), (4, .int (0 : Int32))]) dX11_costBy_21 rfl rfl rfl rfl rfl ?_
    refine go_iconst (pc2 := 24) (v := (0 : Int32)) dX11_costBy_23 rfl (by decide) ?_
    refine go_istore (pc2 := 26) (ls2 := [(0, .ref 113), (1, .int x1), (2, .int x2), (3, .int x3), (4, .int (0 : Int32)), (5, .int (0 : Int32))]) dX11_costBy_24 rfl rfl rfl rfl rfl ?_
    exact Go.pick [0, 2, 4, 5] rfl k
  · have k := k.2 c
    refine go_ldc (pc2 := 12) dX11_costBy_10 rfl rfl w_1308 ?_
    exact go_iret dX11_costBy_12 ⟨_, rfl, rfl⟩ ⟨rfl, _, rfl, k⟩
theorem b_X11_costBy_26 {x2 : Int32} {x4 : Int32} {x5 : Int32} {h : Hp} {Q : Int32 → Hp → Prop}  (k : (((h.1 114 3) ≤ x5 → Q x4 h) ∧ (¬ ((h.1 114 3) ≤ x5) → (∃ Q1, CtI 0 mX11_has [.int x2, .int x5] h Q1 ∧ ∀ (v3 : Int32) (h4 : Hp), Q1 v3 h4 → ((v3 = 0 → GoI 4 mX11_costBy 75 [(0, .ref 113), (2, .int x2), (5, .int x5)] [.int (0 : Int32), .int x4] h4 Q) ∧ (¬ v3 = 0 → (∃ Q6, CtI 0 mX11_of1 [.ref 113, .int x5, .int (4 : Int32)] h4 Q6 ∧ ∀ (v8 : Int32) (h9 : Hp), Q6 v8 h9 → (vp_in x5 3 ∧ (∃ Q12, CtI 0 mX11_of1 [.ref 113, .int x5, .int (5 : Int32)] h9 Q12 ∧ ∀ (v14 : Int32) (h15 : Hp), Q12 v14 h15 → GoI 4 mX11_costBy 75 [(0, .ref 113), (2, .int x2), (5, .int x5)] [.int ((v8 * (h9.1 118 (x5).toNatClampNeg)) + v14), .int x4] h15 Q))))))))) : GoI 4 mX11_costBy 26 [(0, .ref 113), (2, .int x2), (4, .int x4), (5, .int x5)] [] h Q := by
  refine go_iload (pc2 := 28) dX11_costBy_26 rfl rfl ?_
  refine go_aload_n (pc2 := 29) dX11_costBy_28 rfl rfl rfl ?_
  refine gf_1056 (pc2 := 32) rfl dX11_costBy_29 rfl c_113 (fvs r_113_0) ?_
  refine go_iconst (pc2 := 33) (v := (3 : Int32)) dX11_costBy_32 rfl (by decide) ?_
  refine go_iaload (pc2 := 34) (j := 3) dX11_costBy_33 rfl c_114 (vp_c rfl) rfl ?_
  refine go_icmp_ge (pc2 := 37) (tgt := 84) dX11_costBy_34 rfl (by decide) (fun c => ?_) (fun c => ?_)
  · have k := k.1 c
    refine go_iload (pc2 := 86) dX11_costBy_84 rfl rfl ?_
    exact go_iret dX11_costBy_86 ⟨_, rfl, rfl⟩ ⟨rfl, _, rfl, k⟩
  · have k := k.2 c
    refine go_iload (pc2 := 39) dX11_costBy_37 rfl rfl ?_
    refine go_iload_n (pc2 := 40) dX11_costBy_39 rfl rfl rfl ?_
    refine go_iload (pc2 := 42) dX11_costBy_40 rfl rfl ?_
    obtain ⟨Q1, hC2, k⟩ := k
    refine gcS_I (pc2 := 45) (dC := 0) (As := [.int x2, .int x5]) (st := [.int x4]) rfl dX11_costBy_42 rfl w_1278 ok_X11_has w_1279 rfl (by decide) (Nat.le_of_ble_eq_true rfl) hC2 (fun v3 h4 hq5 => ?_)
    have k := k v3 h4 hq5
    refine go_if_eq (pc2 := 48) (tgt := 74) dX11_costBy_45 rfl (by decide) (fun c => ?_) (fun c => ?_)
    · have k := k.1 c
      refine go_iconst (pc2 := 75) (v := (0 : Int32)) dX11_costBy_74 rfl (by decide) ?_
      exact Go.pick [0, 1, 3] rfl k
    · have k := k.2 c
      refine go_aload_n (pc2 := 49) dX11_costBy_48 rfl rfl rfl ?_
      refine go_iload (pc2 := 51) dX11_costBy_49 rfl rfl ?_
      refine go_iconst (pc2 := 52) (v := (4 : Int32)) dX11_costBy_51 rfl (by decide) ?_
      obtain ⟨Q6, hC7, k⟩ := k
      refine gcV_I (pc2 := 55) (dC := 0) (As := [.int x5, .int (4 : Int32)]) (st := [.int x4]) rfl dX11_costBy_52 rfl w_1212 ok_X11_of1 vi_X11_of1 c_113 (by decide) rfl rfl rfl (by decide) (Nat.le_of_ble_eq_true rfl) hC7 (fun v8 h9 hq10 => ?_)
      have k := k v8 h9 hq10
      refine go_aload_n (pc2 := 56) dX11_costBy_55 rfl rfl rfl ?_
      refine gf_1063 (pc2 := 59) rfl dX11_costBy_56 rfl c_113 (fvs r_113_7) ?_
      refine go_iload (pc2 := 61) dX11_costBy_59 rfl rfl ?_
      obtain ⟨y11, k⟩ := k
      refine go_iaload (pc2 := 62) (j := (x5).toNatClampNeg) dX11_costBy_61 rfl c_118 y11 rfl ?_
      refine go_imul (pc2 := 63) dX11_costBy_62 rfl ?_
      refine go_aload_n (pc2 := 64) dX11_costBy_63 rfl rfl rfl ?_
      refine go_iload (pc2 := 66) dX11_costBy_64 rfl rfl ?_
      refine go_iconst (pc2 := 67) (v := (5 : Int32)) dX11_costBy_66 rfl (by decide) ?_
      obtain ⟨Q12, hC13, k⟩ := k
      refine gcV_I (pc2 := 70) (dC := 0) (As := [.int x5, .int (5 : Int32)]) (st := [.int (v8 * (h9.1 118 (x5).toNatClampNeg)), .int x4]) rfl dX11_costBy_67 rfl w_1212 ok_X11_of1 vi_X11_of1 c_113 (by decide) rfl rfl rfl (by decide) (Nat.le_of_ble_eq_true rfl) hC13 (fun v14 h15 hq16 => ?_)
      have k := k v14 h15 hq16
      refine go_iadd (pc2 := 71) dX11_costBy_70 rfl ?_
      refine go_goto (tgt := 75) dX11_costBy_71 (by decide) ?_
      exact Go.pick [0, 1, 3] rfl k
theorem b_X11_costBy_75 {x2 : Int32} {x5 : Int32} {s0 : Int32} {s1 : Int32} {h : Hp} {Q : Int32 → Hp → Prop}  (k : GoI 4 mX11_costBy 26 [(0, .ref 113), (2, .int x2), (4, .int (s0 + s1)), (5, .int (x5 + 1))] [] h Q) : GoI 4 mX11_costBy 75 [(0, .ref 113), (2, .int x2), (5, .int x5)] [.int s1, .int s0] h Q := by
  refine go_iadd (pc2 := 76) dX11_costBy_75 rfl ?_
  refine go_istore (pc2 := 78) (ls2 := [(0, .ref 113), (2, .int x2), (4, .int (s0 + s1)), (5, .int x5)]) dX11_costBy_76 rfl rfl rfl rfl rfl ?_
  refine go_iinc (pc2 := 81) (ls2 := [(0, .ref 113), (2, .int x2), (4, .int (s0 + s1)), (5, .int (x5 + 1))]) (v := (x5 + 1)) dX11_costBy_78 rfl rfl rfl rfl rfl rfl rfl ?_
  refine go_goto (tgt := 26) dX11_costBy_81 (by decide) ?_
  exact k
theorem e_X11_setWrong {x1 : Int32} {h : Hp} {Q : Int32 → Hp → Prop}  (k : (∃ Q1, CtI 0 mX11_wrongBy [.int x1, .int (0 : Int32), .int (((1 : Int32) <<< ((h.1 114 3) &&& 31)) - (1 : Int32))] h Q1 ∧ ∀ (v3 : Int32) (h4 : Hp), Q1 v3 h4 → Q v3 h4)) : CtI 1 mX11_setWrong [.ref 113, .int x1] h Q := by
  refine Ct.of (by decide +kernel) (Nat.le_of_ble_eq_true rfl) ?_
  show GoI 1 mX11_setWrong 0 [(0, .ref 113), (1, .int x1)] [] h Q
  refine go_iload_n (pc2 := 1) dX11_setWrong_0 rfl rfl rfl ?_
  refine go_iconst (pc2 := 2) (v := (0 : Int32)) dX11_setWrong_1 rfl (by decide) ?_
  refine go_iconst (pc2 := 3) (v := (1 : Int32)) dX11_setWrong_2 rfl (by decide) ?_
  refine go_aload_n (pc2 := 4) dX11_setWrong_3 rfl rfl rfl ?_
  refine gf_1056 (pc2 := 7) rfl dX11_setWrong_4 rfl c_113 (fvs r_113_0) ?_
  refine go_iconst (pc2 := 8) (v := (3 : Int32)) dX11_setWrong_7 rfl (by decide) ?_
  refine go_iaload (pc2 := 9) (j := 3) dX11_setWrong_8 rfl c_114 (vp_c rfl) rfl ?_
  refine go_ishl (pc2 := 10) dX11_setWrong_9 rfl ?_
  refine go_iconst (pc2 := 11) (v := (1 : Int32)) dX11_setWrong_10 rfl (by decide) ?_
  refine go_isub (pc2 := 12) dX11_setWrong_11 rfl ?_
  obtain ⟨Q1, hC2, k⟩ := k
  refine gcS_I (pc2 := 15) (dC := 0) (As := [.int x1, .int (0 : Int32), .int (((1 : Int32) <<< ((h.1 114 3) &&& 31)) - (1 : Int32))]) (st := []) rfl dX11_setWrong_12 rfl w_1158 ok_X11_wrongBy w_1159 rfl (by decide) (Nat.le_of_ble_eq_true rfl) hC2 (fun v3 h4 hq5 => ?_)
  have k := k v3 h4 hq5
  exact go_iret dX11_setWrong_15 ⟨_, rfl, rfl⟩ ⟨rfl, _, rfl, k⟩
theorem e_X11_done {x1 : Int32} {x2 : Int32} {h : Hp} {Q : Int32 → Hp → Prop}  (k : (∃ Q1, CtI 1 mX11_isHour [.ref 113, .int x1] h Q1 ∧ ∀ (v3 : Int32) (h4 : Hp), Q1 v3 h4 → ((v3 = 0 → GoI 5 mX11_done 17 [(0, .ref 113), (1, .int x1), (2, .int x2)] [.int (-1 : Int32)] h4 Q) ∧ (¬ v3 = 0 → (∃ Q6, CtI 1 mX11_setWrong [.ref 113, .int x2] h4 Q6 ∧ ∀ (v8 : Int32) (h9 : Hp), Q6 v8 h9 → GoI 5 mX11_done 17 [(0, .ref 113), (1, .int x1), (2, .int x2)] [.int v8] h9 Q))))) : CtI 5 mX11_done [.ref 113, .int x1, .int x2] h Q := by
  refine Ct.of (by decide +kernel) (Nat.le_of_ble_eq_true rfl) ?_
  show GoI 5 mX11_done 0 [(0, .ref 113), (1, .int x1), (2, .int x2)] [] h Q
  refine go_aload_n (pc2 := 1) dX11_done_0 rfl rfl rfl ?_
  refine go_iload_n (pc2 := 2) dX11_done_1 rfl rfl rfl ?_
  obtain ⟨Q1, hC2, k⟩ := k
  refine gcV_I (pc2 := 5) (dC := 1) (As := [.int x1]) (st := []) rfl dX11_done_2 rfl w_1173 ok_X11_isHour vi_X11_isHour c_113 (by decide) rfl rfl rfl (by decide) (Nat.le_of_ble_eq_true rfl) hC2 (fun v3 h4 hq5 => ?_)
  have k := k v3 h4 hq5
  refine go_if_eq (pc2 := 8) (tgt := 16) dX11_done_5 rfl (by decide) (fun c => ?_) (fun c => ?_)
  · have k := k.1 c
    refine go_iconst (pc2 := 17) (v := (-1 : Int32)) dX11_done_16 rfl (by decide) ?_
    exact k
  · have k := k.2 c
    refine go_aload_n (pc2 := 9) dX11_done_8 rfl rfl rfl ?_
    refine go_iload_n (pc2 := 10) dX11_done_9 rfl rfl rfl ?_
    obtain ⟨Q6, hC7, k⟩ := k
    refine gcV_I (pc2 := 13) (dC := 1) (As := [.int x2]) (st := []) rfl dX11_done_10 rfl w_1296 ok_X11_setWrong vi_X11_setWrong c_113 (by decide) rfl rfl rfl (by decide) (Nat.le_of_ble_eq_true rfl) hC7 (fun v8 h9 hq10 => ?_)
    have k := k v8 h9 hq10
    refine go_goto (tgt := 17) dX11_done_13 (by decide) ?_
    exact k
theorem b_X11_done_17 {x1 : Int32} {x2 : Int32} {s0 : Int32} {h : Hp} {Q : Int32 → Hp → Prop}  (k : ((s0 = 0 → (∃ Q1, CtI 4 mX11_costBy [.ref 113, .int x1, .int x2, .int (0 : Int32)] h Q1 ∧ ∀ (v3 : Int32) (h4 : Hp), Q1 v3 h4 → ((¬ v3 = (1000000000 : Int32) → Q v3 h4) ∧ (v3 = (1000000000 : Int32) → Q (-9 : Int32) h4)))) ∧ (¬ s0 = 0 → (∃ Q6, CtI 0 mX11_no [.ref 113, .int s0] h Q6 ∧ ∀ (v8 : Int32) (h9 : Hp), Q6 v8 h9 → Q v8 h9)))) : GoI 5 mX11_done 17 [(0, .ref 113), (1, .int x1), (2, .int x2)] [.int s0] h Q := by
  refine go_istore_n (pc2 := 18) (ls2 := [(0, .ref 113), (1, .int x1), (2, .int x2), (3, .int s0)]) dX11_done_17 rfl rfl rfl rfl rfl rfl ?_
  refine go_iload_n (pc2 := 19) dX11_done_18 rfl rfl rfl ?_
  refine go_if_eq (pc2 := 22) (tgt := 28) dX11_done_19 rfl (by decide) (fun c => ?_) (fun c => ?_)
  · have k := k.1 c
    refine go_aload_n (pc2 := 29) dX11_done_28 rfl rfl rfl ?_
    refine go_iload_n (pc2 := 30) dX11_done_29 rfl rfl rfl ?_
    refine go_iload_n (pc2 := 31) dX11_done_30 rfl rfl rfl ?_
    refine go_iconst (pc2 := 32) (v := (0 : Int32)) dX11_done_31 rfl (by decide) ?_
    obtain ⟨Q1, hC2, k⟩ := k
    refine gcV_I (pc2 := 35) (dC := 4) (As := [.int x1, .int x2, .int (0 : Int32)]) (st := []) rfl dX11_done_32 rfl w_1300 ok_X11_costBy vi_X11_costBy c_113 (by decide) rfl rfl rfl (by decide) (Nat.le_of_ble_eq_true rfl) hC2 (fun v3 h4 hq5 => ?_)
    have k := k v3 h4 hq5
    refine go_istore (pc2 := 37) (ls2 := [(0, .ref 113), (1, .int x1), (2, .int x2), (3, .int s0), (4, .int v3)]) dX11_done_35 rfl rfl rfl rfl rfl ?_
    refine go_iload (pc2 := 39) dX11_done_37 rfl rfl ?_
    refine go_ldc (pc2 := 41) dX11_done_39 rfl rfl w_1308 ?_
    refine go_icmp_ne (pc2 := 44) (tgt := 49) dX11_done_41 rfl (by decide) (fun c => ?_) (fun c => ?_)
    · have k := k.1 c
      refine go_iload (pc2 := 51) dX11_done_49 rfl rfl ?_
      exact go_iret dX11_done_51 ⟨_, rfl, rfl⟩ ⟨rfl, _, rfl, k⟩
    · have k := k.2 c
      refine go_bipush (pc2 := 46) (v := (-9 : Int32)) dX11_done_44 rfl (by decide) ?_
      refine go_goto (tgt := 51) dX11_done_46 (by decide) ?_
      exact go_iret dX11_done_51 ⟨_, rfl, rfl⟩ ⟨rfl, _, rfl, k⟩
  · have k := k.2 c
    refine go_aload_n (pc2 := 23) dX11_done_22 rfl rfl rfl ?_
    refine go_iload_n (pc2 := 24) dX11_done_23 rfl rfl rfl ?_
    obtain ⟨Q6, hC7, k⟩ := k
    refine gcV_I (pc2 := 27) (dC := 0) (As := [.int s0]) (st := []) rfl dX11_done_24 rfl w_1161 ok_X11_no vi_X11_no c_113 (by decide) rfl rfl rfl (by decide) (Nat.le_of_ble_eq_true rfl) hC7 (fun v8 h9 hq10 => ?_)
    have k := k v8 h9 hq10
    exact go_iret dX11_done_27 ⟨_, rfl, rfl⟩ ⟨rfl, _, rfl, k⟩
theorem e_X11_given {x1 : Int32} {x2 : Int32} {x3 : Int32} {h : Hp} {Q : Int32 → Hp → Prop}  (k : (∃ Q1, CtI 1 mX11_isHour [.ref 113, .int x1] h Q1 ∧ ∀ (v3 : Int32) (h4 : Hp), Q1 v3 h4 → ((v3 = 0 → GoI 5 mX11_given 24 [(0, .ref 113), (1, .int x1), (2, .int x2), (3, .int x3)] [] h4 Q) ∧ (¬ v3 = 0 → (∃ Q6, CtI 1 mX11_isPlant [.ref 113, .int x3] h4 Q6 ∧ ∀ (v8 : Int32) (h9 : Hp), Q6 v8 h9 → ((v8 = 0 → GoI 5 mX11_given 24 [(0, .ref 113), (1, .int x1), (2, .int x2), (3, .int x3)] [] h9 Q) ∧ (¬ v8 = 0 → (∃ Q11, CtI 1 mX11_setWrong [.ref 113, .int x2] h9 Q11 ∧ ∀ (v13 : Int32) (h14 : Hp), Q11 v13 h14 → GoI 5 mX11_given 25 [(0, .ref 113), (1, .int x1), (2, .int x2), (3, .int x3)] [.int v13] h14 Q)))))))) : CtI 5 mX11_given [.ref 113, .int x1, .int x2, .int x3] h Q := by
  refine Ct.of (by decide +kernel) (Nat.le_of_ble_eq_true rfl) ?_
  show GoI 5 mX11_given 0 [(0, .ref 113), (1, .int x1), (2, .int x2), (3, .int x3)] [] h Q
  refine go_aload_n (pc2 := 1) dX11_given_0 rfl rfl rfl ?_
  refine go_iload_n (pc2 := 2) dX11_given_1 rfl rfl rfl ?_
  obtain ⟨Q1, hC2, k⟩ := k
  refine gcV_I (pc2 := 5) (dC := 1) (As := [.int x1]) (st := []) rfl dX11_given_2 rfl w_1173 ok_X11_isHour vi_X11_isHour c_113 (by decide) rfl rfl rfl (by decide) (Nat.le_of_ble_eq_true rfl) hC2 (fun v3 h4 hq5 => ?_)
  have k := k v3 h4 hq5
  refine go_if_eq (pc2 := 8) (tgt := 24) dX11_given_5 rfl (by decide) (fun c => ?_) (fun c => ?_)
  · have k := k.1 c
    exact k
  · have k := k.2 c
    refine go_aload_n (pc2 := 9) dX11_given_8 rfl rfl rfl ?_
    refine go_iload_n (pc2 := 10) dX11_given_9 rfl rfl rfl ?_
    obtain ⟨Q6, hC7, k⟩ := k
    refine gcV_I (pc2 := 13) (dC := 1) (As := [.int x3]) (st := []) rfl dX11_given_10 rfl w_1208 ok_X11_isPlant vi_X11_isPlant c_113 (by decide) rfl rfl rfl (by decide) (Nat.le_of_ble_eq_true rfl) hC7 (fun v8 h9 hq10 => ?_)
    have k := k v8 h9 hq10
    refine go_if_eq (pc2 := 16) (tgt := 24) dX11_given_13 rfl (by decide) (fun c => ?_) (fun c => ?_)
    · have k := k.1 c
      exact k
    · have k := k.2 c
      refine go_aload_n (pc2 := 17) dX11_given_16 rfl rfl rfl ?_
      refine go_iload_n (pc2 := 18) dX11_given_17 rfl rfl rfl ?_
      obtain ⟨Q11, hC12, k⟩ := k
      refine gcV_I (pc2 := 21) (dC := 1) (As := [.int x2]) (st := []) rfl dX11_given_18 rfl w_1296 ok_X11_setWrong vi_X11_setWrong c_113 (by decide) rfl rfl rfl (by decide) (Nat.le_of_ble_eq_true rfl) hC12 (fun v13 h14 hq15 => ?_)
      have k := k v13 h14 hq15
      refine go_goto (tgt := 25) dX11_given_21 (by decide) ?_
      exact k
theorem b_X11_given_24 {x1 : Int32} {x2 : Int32} {x3 : Int32} {h : Hp} {Q : Int32 → Hp → Prop}  (k : GoI 5 mX11_given 25 [(0, .ref 113), (1, .int x1), (2, .int x2), (3, .int x3)] [.int (-1 : Int32)] h Q) : GoI 5 mX11_given 24 [(0, .ref 113), (1, .int x1), (2, .int x2), (3, .int x3)] [] h Q := by
  refine go_iconst (pc2 := 25) (v := (-1 : Int32)) dX11_given_24 rfl (by decide) ?_
  exact k
theorem b_X11_given_25 {x1 : Int32} {x2 : Int32} {x3 : Int32} {s0 : Int32} {h : Hp} {Q : Int32 → Hp → Prop}  (k : ((s0 = 0 → (∃ Q1, CtI 0 mX11_has [.int x2, .int x3] h Q1 ∧ ∀ (v3 : Int32) (h4 : Hp), Q1 v3 h4 → ((¬ v3 = 0 → (∃ Q6, CtI 4 mX11_costBy [.ref 113, .int x1, .int x2, .int (0 : Int32)] h4 Q6 ∧ ∀ (v8 : Int32) (h9 : Hp), Q6 v8 h9 → ((¬ v8 = (1000000000 : Int32) → (vp_in x3 3 ∧ Q (h9.1 118 (x3).toNatClampNeg) h9)) ∧ (v8 = (1000000000 : Int32) → Q (-9 : Int32) h9)))) ∧ (v3 = 0 → Q (0 : Int32) h4)))) ∧ (¬ s0 = 0 → (∃ Q12, CtI 0 mX11_no [.ref 113, .int s0] h Q12 ∧ ∀ (v14 : Int32) (h15 : Hp), Q12 v14 h15 → Q v14 h15)))) : GoI 5 mX11_given 25 [(0, .ref 113), (1, .int x1), (2, .int x2), (3, .int x3)] [.int s0] h Q := by
  refine go_istore (pc2 := 27) (ls2 := [(0, .ref 113), (1, .int x1), (2, .int x2), (3, .int x3), (4, .int s0)]) dX11_given_25 rfl rfl rfl rfl rfl ?_
  refine go_iload (pc2 := 29) dX11_given_27 rfl rfl ?_
  refine go_if_eq (pc2 := 32) (tgt := 39) dX11_given_29 rfl (by decide) (fun c => ?_) (fun c => ?_)
  · have k := k.1 c
    refine go_iload_n (pc2 := 40) dX11_given_39 rfl rfl rfl ?_
    refine go_iload_n (pc2 := 41) dX11_given_40 rfl rfl rfl ?_
    obtain ⟨Q1, hC2, k⟩ := k
    refine gcS_I (pc2 := 44) (dC := 0) (As := [.int x2, .int x3]) (st := []) rfl dX11_given_41 rfl w_1278 ok_X11_has w_1279 rfl (by decide) (Nat.le_of_ble_eq_true rfl) hC2 (fun v3 h4 hq5 => ?_)
    have k := k v3 h4 hq5
    refine go_if_ne (pc2 := 47) (tgt := 49) dX11_given_44 rfl (by decide) (fun c => ?_) (fun c => ?_)
    · have k := k.1 c
      refine go_aload_n (pc2 := 50) dX11_given_49 rfl rfl rfl ?_
      refine go_iload_n (pc2 := 51) dX11_given_50 rfl rfl rfl ?_
      refine go_iload_n (pc2 := 52) dX11_given_51 rfl rfl rfl ?_
      refine go_iconst (pc2 := 53) (v := (0 : Int32)) dX11_given_52 rfl (by decide) ?_
      obtain ⟨Q6, hC7, k⟩ := k
      refine gcV_I (pc2 := 56) (dC := 4) (As := [.int x1, .int x2, .int (0 : Int32)]) (st := []) rfl dX11_given_53 rfl w_1300 ok_X11_costBy vi_X11_costBy c_113 (by decide) rfl rfl rfl (by decide) (Nat.le_of_ble_eq_true rfl) hC7 (fun v8 h9 hq10 => ?_)
      have k := k v8 h9 hq10
      refine go_ldc (pc2 := 58) dX11_given_56 rfl rfl w_1308 ?_
      refine go_icmp_ne (pc2 := 61) (tgt := 64) dX11_given_58 rfl (by decide) (fun c => ?_) (fun c => ?_)
      · have k := k.1 c
        refine go_aload_n (pc2 := 65) dX11_given_64 rfl rfl rfl ?_
        refine gf_1063 (pc2 := 68) rfl dX11_given_65 rfl c_113 (fvs r_113_7) ?_
        refine go_iload_n (pc2 := 69) dX11_given_68 rfl rfl rfl ?_
        obtain ⟨y11, k⟩ := k
        refine go_iaload (pc2 := 70) (j := (x3).toNatClampNeg) dX11_given_69 rfl c_118 y11 rfl ?_
        exact go_iret dX11_given_70 ⟨_, rfl, rfl⟩ ⟨rfl, _, rfl, k⟩
      · have k := k.2 c
        refine go_bipush (pc2 := 63) (v := (-9 : Int32)) dX11_given_61 rfl (by decide) ?_
        exact go_iret dX11_given_63 ⟨_, rfl, rfl⟩ ⟨rfl, _, rfl, k⟩
    · have k := k.2 c
      refine go_iconst (pc2 := 48) (v := (0 : Int32)) dX11_given_47 rfl (by decide) ?_
      exact go_iret dX11_given_48 ⟨_, rfl, rfl⟩ ⟨rfl, _, rfl, k⟩
  · have k := k.2 c
    refine go_aload_n (pc2 := 33) dX11_given_32 rfl rfl rfl ?_
    refine go_iload (pc2 := 35) dX11_given_33 rfl rfl ?_
    obtain ⟨Q12, hC13, k⟩ := k
    refine gcV_I (pc2 := 38) (dC := 0) (As := [.int s0]) (st := []) rfl dX11_given_35 rfl w_1161 ok_X11_no vi_X11_no c_113 (by decide) rfl rfl rfl (by decide) (Nat.le_of_ble_eq_true rfl) hC13 (fun v14 h15 hq16 => ?_)
    have k := k v14 h15 hq16
    exact go_iret dX11_given_38 ⟨_, rfl, rfl⟩ ⟨rfl, _, rfl, k⟩
theorem e_X11_laysRows {x1 : Int32} {h : Hp} {Q : Hp → Prop}  (k : GoV 3 mX11_laysRows 2 [(0, .ref 113), (1, .int x1), (2, .int (0 : Int32))] [] h Q) : CtV 3 mX11_laysRows [.ref 113, .int x1] h Q := by
  refine Ct.of (by decide +kernel) (Nat.le_of_ble_eq_true rfl) ?_
  show GoV 3 mX11_laysRows 0 [(0, .ref 113), (1, .int x1)] [] h Q
  refine go_iconst (pc2 := 1) (v := (0 : Int32)) dX11_laysRows_0 rfl (by decide) ?_
  refine go_istore_n (pc2 := 2) (ls2 := [(0, .ref 113), (1, .int x1), (2, .int (0 : Int32))]) dX11_laysRows_1 rfl rfl rfl rfl rfl rfl ?_
  exact k
theorem b_X11_laysRows_2 {x1 : Int32} {x2 : Int32} {h : Hp} {Q : Hp → Prop}  (k : ((((1 : Int32) <<< ((h.1 114 0) &&& 31)) ≤ x2 → Q h) ∧ (¬ (((1 : Int32) <<< ((h.1 114 0) &&& 31)) ≤ x2) → (∃ Q1, CtI 0 mX11_has [.int (h.1 113 8), .int x1] h Q1 ∧ ∀ (v3 : Int32) (h4 : Hp), Q1 v3 h4 → ((v3 = 0 → (∃ Q6, CtI 2 mX11_isLawful [.ref 113, .int x1, .int x2] h4 Q6 ∧ ∀ (v8 : Int32) (h9 : Hp), Q6 v8 h9 → GoV 3 mX11_laysRows 55 [(0, .ref 113), (1, .int x1), (2, .int x2), (3, .int (((32 : Int32) * x1) + x2))] [.int v8, .int (((32 : Int32) * x1) + x2), .ref 120] h9 Q)) ∧ (¬ v3 = 0 → ((¬ x2 = 0 → GoV 3 mX11_laysRows 55 [(0, .ref 113), (1, .int x1), (2, .int x2), (3, .int (((32 : Int32) * x1) + x2))] [.int (0 : Int32), .int (((32 : Int32) * x1) + x2), .ref 120] h4 Q) ∧ (x2 = 0 → GoV 3 mX11_laysRows 55 [(0, .ref 113), (1, .int x1), (2, .int x2), (3, .int (((32 : Int32) * x1) + x2))] [.int (1 : Int32), .int (((32 : Int32) * x1) + x2), .ref 120] h4 Q)))))))) : GoV 3 mX11_laysRows 2 [(0, .ref 113), (1, .int x1), (2, .int x2)] [] h Q := by
  refine go_iload_n (pc2 := 3) dX11_laysRows_2 rfl rfl rfl ?_
  refine go_iconst (pc2 := 4) (v := (1 : Int32)) dX11_laysRows_3 rfl (by decide) ?_
  refine go_aload_n (pc2 := 5) dX11_laysRows_4 rfl rfl rfl ?_
  refine gf_1056 (pc2 := 8) rfl dX11_laysRows_5 rfl c_113 (fvs r_113_0) ?_
  refine go_iconst (pc2 := 9) (v := (0 : Int32)) dX11_laysRows_8 rfl (by decide) ?_
  refine go_iaload (pc2 := 10) (j := 0) dX11_laysRows_9 rfl c_114 (vp_c rfl) rfl ?_
  refine go_ishl (pc2 := 11) dX11_laysRows_10 rfl ?_
  refine go_icmp_ge (pc2 := 14) (tgt := 162) dX11_laysRows_11 rfl (by decide) (fun c => ?_) (fun c => ?_)
  · have k := k.1 c
    exact go_ret dX11_laysRows_162 rfl ⟨rfl, rfl, k⟩
  · have k := k.2 c
    refine go_bipush (pc2 := 16) (v := (32 : Int32)) dX11_laysRows_14 rfl (by decide) ?_
    refine go_iload_n (pc2 := 17) dX11_laysRows_16 rfl rfl rfl ?_
    refine go_imul (pc2 := 18) dX11_laysRows_17 rfl ?_
    refine go_iload_n (pc2 := 19) dX11_laysRows_18 rfl rfl rfl ?_
    refine go_iadd (pc2 := 20) dX11_laysRows_19 rfl ?_
    refine go_istore_n (pc2 := 21) (ls2 := [(0, .ref 113), (1, .int x1), (2, .int x2), (3, .int (((32 : Int32) * x1) + x2))]) dX11_laysRows_20 rfl rfl rfl rfl rfl rfl ?_
    refine go_aload_n (pc2 := 22) dX11_laysRows_21 rfl rfl rfl ?_
    refine gf_1066 (pc2 := 25) rfl dX11_laysRows_22 rfl c_113 (fvs r_113_10) ?_
    refine go_iload_n (pc2 := 26) dX11_laysRows_25 rfl rfl rfl ?_
    refine go_aload_n (pc2 := 27) dX11_laysRows_26 rfl rfl rfl ?_
    refine gf_1064 (pc2 := 30) rfl dX11_laysRows_27 rfl c_113 fvi ?_
    refine go_iload_n (pc2 := 31) dX11_laysRows_30 rfl rfl rfl ?_
    obtain ⟨Q1, hC2, k⟩ := k
    refine gcS_I (pc2 := 34) (dC := 0) (As := [.int (h.1 113 8), .int x1]) (st := [.int (((32 : Int32) * x1) + x2), .ref 120]) rfl dX11_laysRows_31 rfl w_1278 ok_X11_has w_1279 rfl (by decide) (Nat.le_of_ble_eq_true rfl) hC2 (fun v3 h4 hq5 => ?_)
    have k := k v3 h4 hq5
    refine go_if_eq (pc2 := 37) (tgt := 49) dX11_laysRows_34 rfl (by decide) (fun c => ?_) (fun c => ?_)
    · have k := k.1 c
      refine go_aload_n (pc2 := 50) dX11_laysRows_49 rfl rfl rfl ?_
      refine go_iload_n (pc2 := 51) dX11_laysRows_50 rfl rfl rfl ?_
      refine go_iload_n (pc2 := 52) dX11_laysRows_51 rfl rfl rfl ?_
      obtain ⟨Q6, hC7, k⟩ := k
      refine gcV_I (pc2 := 55) (dC := 2) (As := [.int x1, .int x2]) (st := [.int (((32 : Int32) * x1) + x2), .ref 120]) rfl dX11_laysRows_52 rfl w_1274 ok_X11_isLawful vi_X11_isLawful c_113 (by decide) rfl rfl rfl (by decide) (Nat.le_of_ble_eq_true rfl) hC7 (fun v8 h9 hq10 => ?_)
      have k := k v8 h9 hq10
      exact k
    · have k := k.2 c
      refine go_iload_n (pc2 := 38) dX11_laysRows_37 rfl rfl rfl ?_
      refine go_if_ne (pc2 := 41) (tgt := 45) dX11_laysRows_38 rfl (by decide) (fun c => ?_) (fun c => ?_)
      · have k := k.1 c
        refine go_iconst (pc2 := 46) (v := (0 : Int32)) dX11_laysRows_45 rfl (by decide) ?_
        refine go_goto (tgt := 55) dX11_laysRows_46 (by decide) ?_
        exact k
      · have k := k.2 c
        refine go_iconst (pc2 := 42) (v := (1 : Int32)) dX11_laysRows_41 rfl (by decide) ?_
        refine go_goto (tgt := 55) dX11_laysRows_42 (by decide) ?_
        exact k
theorem b_X11_laysRows_55 {x1 : Int32} {x2 : Int32} {x3 : Int32} {s1 : Int32} {s2 : Int32} {h : Hp} {Q : Hp → Prop}  (k : (vp_in s1 96 ∧ (s2 &&& 1 = s2 ∧ (∀ g3 : Hp, g3 = (ui h 120 (s1).toNatClampNeg s2) → (vp_in x3 96 ∧ (∀ g5 : Hp, g5 = (ui g3 121 (x3).toNatClampNeg (0 : Int32)) → (vp_in x3 96 ∧ (∀ g7 : Hp, g7 = (ui g5 122 (x3).toNatClampNeg (0 : Int32)) → (∃ Q8, CtI 0 mX11_of1 [.ref 113, .int x1, .int (9 : Int32)] g7 Q8 ∧ ∀ (v10 : Int32) (h11 : Hp), Q8 v10 h11 → GoV 3 mX11_laysRows 82 [(0, .ref 113), (1, .int x1), (2, .int x2), (3, .int x3), (4, .int v10), (5, .int (0 : Int32))] [] h11 Q))))))))) : GoV 3 mX11_laysRows 55 [(0, .ref 113), (1, .int x1), (2, .int x2), (3, .int x3)] [.int s2, .int s1, .ref 120] h Q := by
  obtain ⟨y1, k⟩ := k
  obtain ⟨y2, k⟩ := k
  refine go_bastore (pc2 := 56) (j := (s1).toNatClampNeg) dX11_laysRows_55 rfl c_120 y1 rfl y2 ?_
  obtain ⟨g3, eg3⟩ : ∃ y : Hp, y = (ui h 120 (s1).toNatClampNeg s2) := ⟨_, rfl⟩
  rw [← eg3]
  have k := k g3 eg3
  refine go_aload_n (pc2 := 57) dX11_laysRows_56 rfl rfl rfl ?_
  refine gf_1067 (pc2 := 60) rfl dX11_laysRows_57 rfl c_113 (fvs r_113_11) ?_
  refine go_iload_n (pc2 := 61) dX11_laysRows_60 rfl rfl rfl ?_
  refine go_iconst (pc2 := 62) (v := (0 : Int32)) dX11_laysRows_61 rfl (by decide) ?_
  obtain ⟨y4, k⟩ := k
  refine go_iastore (pc2 := 63) (j := (x3).toNatClampNeg) dX11_laysRows_62 rfl c_121 y4 rfl ?_
  obtain ⟨g5, eg5⟩ : ∃ y : Hp, y = (ui g3 121 (x3).toNatClampNeg (0 : Int32)) := ⟨_, rfl⟩
  rw [← eg5]
  have k := k g5 eg5
  refine go_aload_n (pc2 := 64) dX11_laysRows_63 rfl rfl rfl ?_
  refine gf_1068 (pc2 := 67) rfl dX11_laysRows_64 rfl c_113 (fvs r_113_12) ?_
  refine go_iload_n (pc2 := 68) dX11_laysRows_67 rfl rfl rfl ?_
  refine go_iconst (pc2 := 69) (v := (0 : Int32)) dX11_laysRows_68 rfl (by decide) ?_
  obtain ⟨y6, k⟩ := k
  refine go_iastore (pc2 := 70) (j := (x3).toNatClampNeg) dX11_laysRows_69 rfl c_122 y6 rfl ?_
  obtain ⟨g7, eg7⟩ : ∃ y : Hp, y = (ui g5 122 (x3).toNatClampNeg (0 : Int32)) := ⟨_, rfl⟩
  rw [← eg7]
  have k := k g7 eg7
  refine go_aload_n (pc2 := 71) dX11_laysRows_70 rfl rfl rfl ?_
  refine go_iload_n (pc2 := 72) dX11_laysRows_71 rfl rfl rfl ?_
  refine go_bipush (pc2 := 74) (v := (9 : Int32)) dX11_laysRows_72 rfl (by decide) ?_
  obtain ⟨Q8, hC9, k⟩ := k
  refine gcV_I (pc2 := 77) (dC := 0) (As := [.int x1, .int (9 : Int32)]) (st := []) rfl dX11_laysRows_74 rfl w_1212 ok_X11_of1 vi_X11_of1 c_113 (by decide) rfl rfl rfl (by decide) (Nat.le_of_ble_eq_true rfl) hC9 (fun v10 h11 hq12 => ?_)
  have k := k v10 h11 hq12
  refine go_istore (pc2 := 79) (ls2 := [(0, .ref 113), (1, .int x1), (2, .int x2), (3, .int x3), (4, .int v10)]) dX11_laysRows_77 rfl rfl rfl rfl rfl ?_
  refine go_iconst (pc2 := 80) (v := (0 : Int32)) dX11_laysRows_79 rfl (by decide) ?_
  refine go_istore (pc2 := 82) (ls2 := [(0, .ref 113), (1, .int x1), (2, .int x2), (3, .int x3), (4, .int v10), (5, .int (0 : Int32))]) dX11_laysRows_80 rfl rfl rfl rfl rfl ?_
  exact k
theorem b_X11_laysRows_82 {x1 : Int32} {x2 : Int32} {x3 : Int32} {x4 : Int32} {x5 : Int32} {h : Hp} {Q : Hp → Prop}  (k : (((h.1 114 0) ≤ x5 → GoV 3 mX11_laysRows 2 [(0, .ref 113), (1, .int x1), (2, .int (x2 + 1))] [] h Q) ∧ (¬ ((h.1 114 0) ≤ x5) → ((0 ≤ x4 → GoV 3 mX11_laysRows 137 [(0, .ref 113), (1, .int x1), (2, .int x2), (3, .int x3), (4, .int x4), (5, .int x5)] [] h Q) ∧ (¬ (0 ≤ x4) → (∃ Q1, CtI 0 mX11_has [.int x2, .int x5] h Q1 ∧ ∀ (v3 : Int32) (h4 : Hp), Q1 v3 h4 → ((v3 = 0 → GoV 3 mX11_laysRows 137 [(0, .ref 113), (1, .int x1), (2, .int x2), (3, .int x3), (4, .int x4), (5, .int x5)] [] h4 Q) ∧ (¬ v3 = 0 → (vp_in x3 96 ∧ (vp_in x3 96 ∧ (∀ g8 : Hp, g8 = (ui h4 121 (x3).toNatClampNeg ((h4.1 121 (x3).toNatClampNeg) ||| ((1 : Int32) <<< (x5 &&& 31)))) → (vp_in x3 96 ∧ (∃ Q10, CtI 1 mX11_startsOf [.ref 113, .int x1, .int (-x4)] g8 Q10 ∧ ∀ (v12 : Int32) (h13 : Hp), Q10 v12 h13 → (vp_in x3 96 ∧ (∀ g16 : Hp, g16 = (ui h13 122 (x3).toNatClampNeg ((g8.1 122 (x3).toNatClampNeg) + v12)) → GoV 3 mX11_laysRows 137 [(0, .ref 113), (1, .int x1), (2, .int x2), (3, .int x3), (4, .int x4), (5, .int x5)] [] g16 Q))))))))))))))) : GoV 3 mX11_laysRows 82 [(0, .ref 113), (1, .int x1), (2, .int x2), (3, .int x3), (4, .int x4), (5, .int x5)] [] h Q := by
  refine go_iload (pc2 := 84) dX11_laysRows_82 rfl rfl ?_
  refine go_aload_n (pc2 := 85) dX11_laysRows_84 rfl rfl rfl ?_
  refine gf_1056 (pc2 := 88) rfl dX11_laysRows_85 rfl c_113 (fvs r_113_0) ?_
  refine go_iconst (pc2 := 89) (v := (0 : Int32)) dX11_laysRows_88 rfl (by decide) ?_
  refine go_iaload (pc2 := 90) (j := 0) dX11_laysRows_89 rfl c_114 (vp_c rfl) rfl ?_
  refine go_icmp_ge (pc2 := 93) (tgt := 156) dX11_laysRows_90 rfl (by decide) (fun c => ?_) (fun c => ?_)
  · have k := k.1 c
    refine go_iinc (pc2 := 159) (ls2 := [(0, .ref 113), (1, .int x1), (2, .int (x2 + 1)), (3, .int x3), (4, .int x4), (5, .int x5)]) (v := (x2 + 1)) dX11_laysRows_156 rfl rfl rfl rfl rfl rfl rfl ?_
    refine go_goto (tgt := 2) dX11_laysRows_159 (by decide) ?_
    exact Go.pick [0, 1, 2] rfl k
  · have k := k.2 c
    refine go_iload (pc2 := 95) dX11_laysRows_93 rfl rfl ?_
    refine go_if_ge (pc2 := 98) (tgt := 137) dX11_laysRows_95 rfl (by decide) (fun c => ?_) (fun c => ?_)
    · have k := k.1 c
      exact k
    · have k := k.2 c
      refine go_iload_n (pc2 := 99) dX11_laysRows_98 rfl rfl rfl ?_
      refine go_iload (pc2 := 101) dX11_laysRows_99 rfl rfl ?_
      obtain ⟨Q1, hC2, k⟩ := k
      refine gcS_I (pc2 := 104) (dC := 0) (As := [.int x2, .int x5]) (st := []) rfl dX11_laysRows_101 rfl w_1278 ok_X11_has w_1279 rfl (by decide) (Nat.le_of_ble_eq_true rfl) hC2 (fun v3 h4 hq5 => ?_)
      have k := k v3 h4 hq5
      refine go_if_eq (pc2 := 107) (tgt := 137) dX11_laysRows_104 rfl (by decide) (fun c => ?_) (fun c => ?_)
      · have k := k.1 c
        exact k
      · have k := k.2 c
        refine go_aload_n (pc2 := 108) dX11_laysRows_107 rfl rfl rfl ?_
        refine gf_1067 (pc2 := 111) rfl dX11_laysRows_108 rfl c_113 (fvs r_113_11) ?_
        refine go_iload_n (pc2 := 112) dX11_laysRows_111 rfl rfl rfl ?_
        refine go_dup2 (pc2 := 113) dX11_laysRows_112 rfl rfl rfl ?_
        obtain ⟨y6, k⟩ := k
        refine go_iaload (pc2 := 114) (j := (x3).toNatClampNeg) dX11_laysRows_113 rfl c_121 y6 rfl ?_
        refine go_iconst (pc2 := 115) (v := (1 : Int32)) dX11_laysRows_114 rfl (by decide) ?_
        refine go_iload (pc2 := 117) dX11_laysRows_115 rfl rfl ?_
        refine go_ishl (pc2 := 118) dX11_laysRows_117 rfl ?_
        refine go_ior (pc2 := 119) dX11_laysRows_118 rfl ?_
        obtain ⟨y7, k⟩ := k
        refine go_iastore (pc2 := 120) (j := (x3).toNatClampNeg) dX11_laysRows_119 rfl c_121 y7 rfl ?_
        obtain ⟨g8, eg8⟩ : ∃ y : Hp, y = (ui h4 121 (x3).toNatClampNeg ((h4.1 121 (x3).toNatClampNeg) ||| ((1 : Int32) <<< (x5 &&& 31)))) := ⟨_, rfl⟩
        rw [← eg8]
        have k := k g8 eg8
        refine go_aload_n (pc2 := 121) dX11_laysRows_120 rfl rfl rfl ?_
        refine gf_1068 (pc2 := 124) rfl dX11_laysRows_121 rfl c_113 (fvs r_113_12) ?_
        refine go_iload_n (pc2 := 125) dX11_laysRows_124 rfl rfl rfl ?_
        refine go_dup2 (pc2 := 126) dX11_laysRows_125 rfl rfl rfl ?_
        obtain ⟨y9, k⟩ := k
        refine go_iaload (pc2 := 127) (j := (x3).toNatClampNeg) dX11_laysRows_126 rfl c_122 y9 rfl ?_
        refine go_aload_n (pc2 := 128) dX11_laysRows_127 rfl rfl rfl ?_
        refine go_iload_n (pc2 := 129) dX11_laysRows_128 rfl rfl rfl ?_
        refine go_iload (pc2 := 131) dX11_laysRows_129 rfl rfl ?_
        refine go_ineg (pc2 := 132) dX11_laysRows_131 rfl ?_
        obtain ⟨Q10, hC11, k⟩ := k
        refine gcV_I (pc2 := 135) (dC := 1) (As := [.int x1, .int (-x4)]) (st := [.int (g8.1 122 (x3).toNatClampNeg), .int x3, .ref 122]) rfl dX11_laysRows_132 rfl w_1263 ok_X11_startsOf vi_X11_startsOf c_113 (by decide) rfl rfl rfl (by decide) (Nat.le_of_ble_eq_true rfl) hC11 (fun v12 h13 hq14 => ?_)
        have k := k v12 h13 hq14
        refine go_iadd (pc2 := 136) dX11_laysRows_135 rfl ?_
        obtain ⟨y15, k⟩ := k
        refine go_iastore (pc2 := 137) (j := (x3).toNatClampNeg) dX11_laysRows_136 rfl c_122 y15 rfl ?_
        obtain ⟨g16, eg16⟩ : ∃ y : Hp, y = (ui h13 122 (x3).toNatClampNeg ((g8.1 122 (x3).toNatClampNeg) + v12)) := ⟨_, rfl⟩
        rw [← eg16]
        have k := k g16 eg16
        exact k
theorem b_X11_laysRows_137 {x1 : Int32} {x2 : Int32} {x3 : Int32} {x4 : Int32} {x5 : Int32} {h : Hp} {Q : Hp → Prop}  (k : (∃ Q1, CtI 0 mX11_has [.int x2, .int x5] h Q1 ∧ ∀ (v3 : Int32) (h4 : Hp), Q1 v3 h4 → (∃ Q6, CtI 0 mX11_goesOn [.int x4, .int v3] h4 Q6 ∧ ∀ (v8 : Int32) (h9 : Hp), Q6 v8 h9 → GoV 3 mX11_laysRows 82 [(0, .ref 113), (1, .int x1), (2, .int x2), (3, .int x3), (4, .int v8), (5, .int (x5 + 1))] [] h9 Q))) : GoV 3 mX11_laysRows 137 [(0, .ref 113), (1, .int x1), (2, .int x2), (3, .int x3), (4, .int x4), (5, .int x5)] [] h Q := by
  refine go_iload (pc2 := 139) dX11_laysRows_137 rfl rfl ?_
  refine go_iload_n (pc2 := 140) dX11_laysRows_139 rfl rfl rfl ?_
  refine go_iload (pc2 := 142) dX11_laysRows_140 rfl rfl ?_
  obtain ⟨Q1, hC2, k⟩ := k
  refine gcS_I (pc2 := 145) (dC := 0) (As := [.int x2, .int x5]) (st := [.int x4]) rfl dX11_laysRows_142 rfl w_1278 ok_X11_has w_1279 rfl (by decide) (Nat.le_of_ble_eq_true rfl) hC2 (fun v3 h4 hq5 => ?_)
  have k := k v3 h4 hq5
  obtain ⟨Q6, hC7, k⟩ := k
  refine gcS_I (pc2 := 148) (dC := 0) (As := [.int x4, .int v3]) (st := []) rfl dX11_laysRows_145 rfl w_1285 ok_X11_goesOn w_1286 rfl (by decide) (Nat.le_of_ble_eq_true rfl) hC7 (fun v8 h9 hq10 => ?_)
  have k := k v8 h9 hq10
  refine go_istore (pc2 := 150) (ls2 := [(0, .ref 113), (1, .int x1), (2, .int x2), (3, .int x3), (4, .int v8), (5, .int x5)]) dX11_laysRows_148 rfl rfl rfl rfl rfl ?_
  refine go_iinc (pc2 := 153) (ls2 := [(0, .ref 113), (1, .int x1), (2, .int x2), (3, .int x3), (4, .int v8), (5, .int (x5 + 1))]) (v := (x5 + 1)) dX11_laysRows_150 rfl rfl rfl rfl rfl rfl rfl ?_
  refine go_goto (tgt := 82) dX11_laysRows_153 (by decide) ?_
  exact k
theorem e_X11_laysTable  {h : Hp} {Q : Hp → Prop}  (k : GoV 5 mX11_laysTable 2 [(0, .ref 113), (1, .int (0 : Int32))] [] h Q) : CtV 5 mX11_laysTable [.ref 113] h Q := by
  refine Ct.of (by decide +kernel) (Nat.le_of_ble_eq_true rfl) ?_
  show GoV 5 mX11_laysTable 0 [(0, .ref 113)] [] h Q
  refine go_iconst (pc2 := 1) (v := (0 : Int32)) dX11_laysTable_0 rfl (by decide) ?_
  refine go_istore_n (pc2 := 2) (ls2 := [(0, .ref 113), (1, .int (0 : Int32))]) dX11_laysTable_1 rfl rfl rfl rfl rfl rfl ?_
  exact k
theorem b_X11_laysTable_2 {x1 : Int32} {h : Hp} {Q : Hp → Prop}  (k : (((h.1 114 0) ≤ x1 → Q h) ∧ (¬ ((h.1 114 0) ≤ x1) → GoV 5 mX11_laysTable 14 [(0, .ref 113), (1, .int x1), (2, .int (0 : Int32))] [] h Q))) : GoV 5 mX11_laysTable 2 [(0, .ref 113), (1, .int x1)] [] h Q := by
  refine go_iload_n (pc2 := 3) dX11_laysTable_2 rfl rfl rfl ?_
  refine go_aload_n (pc2 := 4) dX11_laysTable_3 rfl rfl rfl ?_
  refine gf_1056 (pc2 := 7) rfl dX11_laysTable_4 rfl c_113 (fvs r_113_0) ?_
  refine go_iconst (pc2 := 8) (v := (0 : Int32)) dX11_laysTable_7 rfl (by decide) ?_
  refine go_iaload (pc2 := 9) (j := 0) dX11_laysTable_8 rfl c_114 (vp_c rfl) rfl ?_
  refine go_icmp_ge (pc2 := 12) (tgt := 82) dX11_laysTable_9 rfl (by decide) (fun c => ?_) (fun c => ?_)
  · have k := k.1 c
    exact go_ret dX11_laysTable_82 rfl ⟨rfl, rfl, k⟩
  · have k := k.2 c
    refine go_iconst (pc2 := 13) (v := (0 : Int32)) dX11_laysTable_12 rfl (by decide) ?_
    refine go_istore_n (pc2 := 14) (ls2 := [(0, .ref 113), (1, .int x1), (2, .int (0 : Int32))]) dX11_laysTable_13 rfl rfl rfl rfl rfl rfl ?_
    exact k
theorem b_X11_laysTable_14 {x1 : Int32} {x2 : Int32} {h : Hp} {Q : Hp → Prop}  (k : ((((1 : Int32) <<< ((h.1 114 3) &&& 31)) ≤ x2 → GoV 5 mX11_laysTable 2 [(0, .ref 113), (1, .int (x1 + 1))] [] h Q) ∧ (¬ (((1 : Int32) <<< ((h.1 114 3) &&& 31)) ≤ x2) → GoV 5 mX11_laysTable 28 [(0, .ref 113), (1, .int x1), (2, .int x2), (3, .int (0 : Int32))] [] h Q))) : GoV 5 mX11_laysTable 14 [(0, .ref 113), (1, .int x1), (2, .int x2)] [] h Q := by
  refine go_iload_n (pc2 := 15) dX11_laysTable_14 rfl rfl rfl ?_
  refine go_iconst (pc2 := 16) (v := (1 : Int32)) dX11_laysTable_15 rfl (by decide) ?_
  refine go_aload_n (pc2 := 17) dX11_laysTable_16 rfl rfl rfl ?_
  refine gf_1056 (pc2 := 20) rfl dX11_laysTable_17 rfl c_113 (fvs r_113_0) ?_
  refine go_iconst (pc2 := 21) (v := (3 : Int32)) dX11_laysTable_20 rfl (by decide) ?_
  refine go_iaload (pc2 := 22) (j := 3) dX11_laysTable_21 rfl c_114 (vp_c rfl) rfl ?_
  refine go_ishl (pc2 := 23) dX11_laysTable_22 rfl ?_
  refine go_icmp_ge (pc2 := 26) (tgt := 76) dX11_laysTable_23 rfl (by decide) (fun c => ?_) (fun c => ?_)
  · have k := k.1 c
    refine go_iinc (pc2 := 79) (ls2 := [(0, .ref 113), (1, .int (x1 + 1)), (2, .int x2)]) (v := (x1 + 1)) dX11_laysTable_76 rfl rfl rfl rfl rfl rfl rfl ?_
    refine go_goto (tgt := 2) dX11_laysTable_79 (by decide) ?_
    exact Go.pick [0, 1] rfl k
  · have k := k.2 c
    refine go_iconst (pc2 := 27) (v := (0 : Int32)) dX11_laysTable_26 rfl (by decide) ?_
    refine go_istore_n (pc2 := 28) (ls2 := [(0, .ref 113), (1, .int x1), (2, .int x2), (3, .int (0 : Int32))]) dX11_laysTable_27 rfl rfl rfl rfl rfl rfl ?_
    exact k
theorem b_X11_laysTable_28 {x1 : Int32} {x2 : Int32} {x3 : Int32} {h : Hp} {Q : Hp → Prop}  (k : ((x2 < x3 → GoV 5 mX11_laysTable 14 [(0, .ref 113), (1, .int x1), (2, .int (x2 + 1))] [] h Q) ∧ (¬ (x2 < x3) → ((¬ (x3 &&& (x2 ^^^ (-1 : Int32))) = 0 → GoV 5 mX11_laysTable 64 [(0, .ref 113), (1, .int x1), (2, .int x2), (3, .int x3)] [] h Q) ∧ ((x3 &&& (x2 ^^^ (-1 : Int32))) = 0 → (∃ Q1, CtI 4 mX11_costBy [.ref 113, .int x1, .int x2, .int x3] h Q1 ∧ ∀ (v3 : Int32) (h4 : Hp), Q1 v3 h4 → (vp_in (((8 : Int32) * (((8 : Int32) * x1) + x2)) + x3) 320 ∧ (∀ g7 : Hp, g7 = (ui h4 119 ((((8 : Int32) * (((8 : Int32) * x1) + x2)) + x3)).toNatClampNeg v3) → GoV 5 mX11_laysTable 64 [(0, .ref 113), (1, .int x1), (2, .int x2), (3, .int x3)] [] g7 Q)))))))) : GoV 5 mX11_laysTable 28 [(0, .ref 113), (1, .int x1), (2, .int x2), (3, .int x3)] [] h Q := by
  refine go_iload_n (pc2 := 29) dX11_laysTable_28 rfl rfl rfl ?_
  refine go_iload_n (pc2 := 30) dX11_laysTable_29 rfl rfl rfl ?_
  refine go_icmp_gt (pc2 := 33) (tgt := 70) dX11_laysTable_30 rfl (by decide) (fun c => ?_) (fun c => ?_)
  · have k := k.1 c
    refine go_iinc (pc2 := 73) (ls2 := [(0, .ref 113), (1, .int x1), (2, .int (x2 + 1)), (3, .int x3)]) (v := (x2 + 1)) dX11_laysTable_70 rfl rfl rfl rfl rfl rfl rfl ?_
    refine go_goto (tgt := 14) dX11_laysTable_73 (by decide) ?_
    exact Go.pick [0, 1, 2] rfl k
  · have k := k.2 c
    refine go_iload_n (pc2 := 34) dX11_laysTable_33 rfl rfl rfl ?_
    refine go_iload_n (pc2 := 35) dX11_laysTable_34 rfl rfl rfl ?_
    refine go_iconst (pc2 := 36) (v := (-1 : Int32)) dX11_laysTable_35 rfl (by decide) ?_
    refine go_ixor (pc2 := 37) dX11_laysTable_36 rfl ?_
    refine go_iand (pc2 := 38) dX11_laysTable_37 rfl ?_
    refine go_if_ne (pc2 := 41) (tgt := 64) dX11_laysTable_38 rfl (by decide) (fun c => ?_) (fun c => ?_)
    · have k := k.1 c
      exact k
    · have k := k.2 c
      refine go_aload_n (pc2 := 42) dX11_laysTable_41 rfl rfl rfl ?_
      refine gf_1065 (pc2 := 45) rfl dX11_laysTable_42 rfl c_113 (fvs r_113_9) ?_
      refine go_bipush (pc2 := 47) (v := (8 : Int32)) dX11_laysTable_45 rfl (by decide) ?_
      refine go_bipush (pc2 := 49) (v := (8 : Int32)) dX11_laysTable_47 rfl (by decide) ?_
      refine go_iload_n (pc2 := 50) dX11_laysTable_49 rfl rfl rfl ?_
      refine go_imul (pc2 := 51) dX11_laysTable_50 rfl ?_
      refine go_iload_n (pc2 := 52) dX11_laysTable_51 rfl rfl rfl ?_
      refine go_iadd (pc2 := 53) dX11_laysTable_52 rfl ?_
      refine go_imul (pc2 := 54) dX11_laysTable_53 rfl ?_
      refine go_iload_n (pc2 := 55) dX11_laysTable_54 rfl rfl rfl ?_
      refine go_iadd (pc2 := 56) dX11_laysTable_55 rfl ?_
      refine go_aload_n (pc2 := 57) dX11_laysTable_56 rfl rfl rfl ?_
      refine go_iload_n (pc2 := 58) dX11_laysTable_57 rfl rfl rfl ?_
      refine go_iload_n (pc2 := 59) dX11_laysTable_58 rfl rfl rfl ?_
      refine go_iload_n (pc2 := 60) dX11_laysTable_59 rfl rfl rfl ?_
      obtain ⟨Q1, hC2, k⟩ := k
      refine gcV_I (pc2 := 63) (dC := 4) (As := [.int x1, .int x2, .int x3]) (st := [.int (((8 : Int32) * (((8 : Int32) * x1) + x2)) + x3), .ref 119]) rfl dX11_laysTable_60 rfl w_1300 ok_X11_costBy vi_X11_costBy c_113 (by decide) rfl rfl rfl (by decide) (Nat.le_of_ble_eq_true rfl) hC2 (fun v3 h4 hq5 => ?_)
      have k := k v3 h4 hq5
      obtain ⟨y6, k⟩ := k
      refine go_iastore (pc2 := 64) (j := ((((8 : Int32) * (((8 : Int32) * x1) + x2)) + x3)).toNatClampNeg) dX11_laysTable_63 rfl c_119 y6 rfl ?_
      obtain ⟨g7, eg7⟩ : ∃ y : Hp, y = (ui h4 119 ((((8 : Int32) * (((8 : Int32) * x1) + x2)) + x3)).toNatClampNeg v3) := ⟨_, rfl⟩
      rw [← eg7]
      have k := k g7 eg7
      exact k
theorem b_X11_laysTable_64 {x1 : Int32} {x2 : Int32} {x3 : Int32} {h : Hp} {Q : Hp → Prop}  (k : GoV 5 mX11_laysTable 28 [(0, .ref 113), (1, .int x1), (2, .int x2), (3, .int (x3 + 1))] [] h Q) : GoV 5 mX11_laysTable 64 [(0, .ref 113), (1, .int x1), (2, .int x2), (3, .int x3)] [] h Q := by
  refine go_iinc (pc2 := 67) (ls2 := [(0, .ref 113), (1, .int x1), (2, .int x2), (3, .int (x3 + 1))]) (v := (x3 + 1)) dX11_laysTable_64 rfl rfl rfl rfl rfl rfl rfl ?_
  refine go_goto (tgt := 28) dX11_laysTable_67 (by decide) ?_
  exact k
theorem e_X11_costOfTried  {h : Hp} {Q : Int32 → Hp → Prop}  (k : GoI 1 mX11_costOfTried 4 [(0, .ref 113), (1, .int (0 : Int32)), (2, .int (0 : Int32))] [] h Q) : CtI 1 mX11_costOfTried [.ref 113] h Q := by
  refine Ct.of (by decide +kernel) (Nat.le_of_ble_eq_true rfl) ?_
  show GoI 1 mX11_costOfTried 0 [(0, .ref 113)] [] h Q
  refine go_iconst (pc2 := 1) (v := (0 : Int32)) dX11_costOfTried_0 rfl (by decide) ?_
  refine go_istore_n (pc2 := 2) (ls2 := [(0, .ref 113), (1, .int (0 : Int32))]) dX11_costOfTried_1 rfl rfl rfl rfl rfl rfl ?_
  refine go_iconst (pc2 := 3) (v := (0 : Int32)) dX11_costOfTried_2 rfl (by decide) ?_
  refine go_istore_n (pc2 := 4) (ls2 := [(0, .ref 113), (1, .int (0 : Int32)), (2, .int (0 : Int32))]) dX11_costOfTried_3 rfl rfl rfl rfl rfl rfl ?_
  exact k
theorem b_X11_costOfTried_4 {x1 : Int32} {x2 : Int32} {h : Hp} {Q : Int32 → Hp → Prop}  (k : (((h.1 114 3) ≤ x2 → GoI 1 mX11_costOfTried 41 [(0, .ref 113), (1, .int x1), (2, .int (0 : Int32))] [] h Q) ∧ (¬ ((h.1 114 3) ≤ x2) → (vp_in x2 3 ∧ (vp_in (((32 : Int32) * x2) + (h.1 124 (x2).toNatClampNeg)) 96 ∧ GoI 1 mX11_costOfTried 4 [(0, .ref 113), (1, .int (x1 + (h.1 122 ((((32 : Int32) * x2) + (h.1 124 (x2).toNatClampNeg))).toNatClampNeg))), (2, .int (x2 + 1))] [] h Q))))) : GoI 1 mX11_costOfTried 4 [(0, .ref 113), (1, .int x1), (2, .int x2)] [] h Q := by
  refine go_iload_n (pc2 := 5) dX11_costOfTried_4 rfl rfl rfl ?_
  refine go_aload_n (pc2 := 6) dX11_costOfTried_5 rfl rfl rfl ?_
  refine gf_1056 (pc2 := 9) rfl dX11_costOfTried_6 rfl c_113 (fvs r_113_0) ?_
  refine go_iconst (pc2 := 10) (v := (3 : Int32)) dX11_costOfTried_9 rfl (by decide) ?_
  refine go_iaload (pc2 := 11) (j := 3) dX11_costOfTried_10 rfl c_114 (vp_c rfl) rfl ?_
  refine go_icmp_ge (pc2 := 14) (tgt := 39) dX11_costOfTried_11 rfl (by decide) (fun c => ?_) (fun c => ?_)
  · have k := k.1 c
    refine go_iconst (pc2 := 40) (v := (0 : Int32)) dX11_costOfTried_39 rfl (by decide) ?_
    refine go_istore_n (pc2 := 41) (ls2 := [(0, .ref 113), (1, .int x1), (2, .int (0 : Int32))]) dX11_costOfTried_40 rfl rfl rfl rfl rfl rfl ?_
    exact k
  · have k := k.2 c
    refine go_iload_n (pc2 := 15) dX11_costOfTried_14 rfl rfl rfl ?_
    refine go_aload_n (pc2 := 16) dX11_costOfTried_15 rfl rfl rfl ?_
    refine gf_1068 (pc2 := 19) rfl dX11_costOfTried_16 rfl c_113 (fvs r_113_12) ?_
    refine go_bipush (pc2 := 21) (v := (32 : Int32)) dX11_costOfTried_19 rfl (by decide) ?_
    refine go_iload_n (pc2 := 22) dX11_costOfTried_21 rfl rfl rfl ?_
    refine go_imul (pc2 := 23) dX11_costOfTried_22 rfl ?_
    refine go_aload_n (pc2 := 24) dX11_costOfTried_23 rfl rfl rfl ?_
    refine gf_1070 (pc2 := 27) rfl dX11_costOfTried_24 rfl c_113 (fvs r_113_14) ?_
    refine go_iload_n (pc2 := 28) dX11_costOfTried_27 rfl rfl rfl ?_
    obtain ⟨y1, k⟩ := k
    refine go_iaload (pc2 := 29) (j := (x2).toNatClampNeg) dX11_costOfTried_28 rfl c_124 y1 rfl ?_
    refine go_iadd (pc2 := 30) dX11_costOfTried_29 rfl ?_
    obtain ⟨y2, k⟩ := k
    refine go_iaload (pc2 := 31) (j := ((((32 : Int32) * x2) + (h.1 124 (x2).toNatClampNeg))).toNatClampNeg) dX11_costOfTried_30 rfl c_122 y2 rfl ?_
    refine go_iadd (pc2 := 32) dX11_costOfTried_31 rfl ?_
    refine go_istore_n (pc2 := 33) (ls2 := [(0, .ref 113), (1, .int (x1 + (h.1 122 ((((32 : Int32) * x2) + (h.1 124 (x2).toNatClampNeg))).toNatClampNeg))), (2, .int x2)]) dX11_costOfTried_32 rfl rfl rfl rfl rfl rfl ?_
    refine go_iinc (pc2 := 36) (ls2 := [(0, .ref 113), (1, .int (x1 + (h.1 122 ((((32 : Int32) * x2) + (h.1 124 (x2).toNatClampNeg))).toNatClampNeg))), (2, .int (x2 + 1))]) (v := (x2 + 1)) dX11_costOfTried_33 rfl rfl rfl rfl rfl rfl rfl ?_
    refine go_goto (tgt := 4) dX11_costOfTried_36 (by decide) ?_
    exact k
theorem b_X11_costOfTried_41 {x1 : Int32} {x2 : Int32} {h : Hp} {Q : Int32 → Hp → Prop}  (k : (((h.1 114 0) ≤ x2 → Q x1 h) ∧ (¬ ((h.1 114 0) ≤ x2) → GoI 1 mX11_costOfTried 59 [(0, .ref 113), (1, .int x1), (2, .int x2), (3, .int (0 : Int32)), (4, .int (0 : Int32)), (5, .int (0 : Int32))] [] h Q))) : GoI 1 mX11_costOfTried 41 [(0, .ref 113), (1, .int x1), (2, .int x2)] [] h Q := by
  refine go_iload_n (pc2 := 42) dX11_costOfTried_41 rfl rfl rfl ?_
  refine go_aload_n (pc2 := 43) dX11_costOfTried_42 rfl rfl rfl ?_
  refine gf_1056 (pc2 := 46) rfl dX11_costOfTried_43 rfl c_113 (fvs r_113_0) ?_
  refine go_iconst (pc2 := 47) (v := (0 : Int32)) dX11_costOfTried_46 rfl (by decide) ?_
  refine go_iaload (pc2 := 48) (j := 0) dX11_costOfTried_47 rfl c_114 (vp_c rfl) rfl ?_
  refine go_icmp_ge (pc2 := 51) (tgt := 179) dX11_costOfTried_48 rfl (by decide) (fun c => ?_) (fun c => ?_)
  · have k := k.1 c
    refine go_iload_n (pc2 := 180) dX11_costOfTried_179 rfl rfl rfl ?_
    exact go_iret dX11_costOfTried_180 ⟨_, rfl, rfl⟩ ⟨rfl, _, rfl, k⟩
  · have k := k.2 c
    refine go_iconst (pc2 := 52) (v := (0 : Int32)) dX11_costOfTried_51 rfl (by decide) ?_
    refine go_istore_n (pc2 := 53) (ls2 := [(0, .ref 113), (1, .int x1), (2, .int x2), (3, .int (0 : Int32))]) dX11_costOfTried_52 rfl rfl rfl rfl rfl rfl ?_
    refine go_iconst (pc2 := 54) (v := (0 : Int32)) dX11_costOfTried_53 rfl (by decide) ?_
    refine go_istore (pc2 := 56) (ls2 := [(0, .ref 113), (1, .int x1), (2, .int x2), (3, .int (0 : Int32)), (4, .int (0 : Int32))]) dX11_costOfTried_54 rfl rfl rfl rfl rfl ?_
    refine go_iconst (pc2 := 57) (v := (0 : Int32)) dX11_costOfTried_56 rfl (by decide) ?_
    refine go_istore (pc2 := 59) (ls2 := [(0, .ref 113), (1, .int x1), (2, .int x2), (3, .int (0 : Int32)), (4, .int (0 : Int32)), (5, .int (0 : Int32))]) dX11_costOfTried_57 rfl rfl rfl rfl rfl ?_
    exact k
theorem b_X11_costOfTried_59 {x1 : Int32} {x2 : Int32} {x3 : Int32} {x4 : Int32} {x5 : Int32} {h : Hp} {Q : Int32 → Hp → Prop}  (k : (((h.1 114 3) ≤ x5 → (vp_in (((8 : Int32) * (((8 : Int32) * x2) + x3)) + x4) 320 ∧ ((¬ (h.1 119 ((((8 : Int32) * (((8 : Int32) * x2) + x3)) + x4)).toNatClampNeg) = (1000000000 : Int32) → GoI 1 mX11_costOfTried 41 [(0, .ref 113), (1, .int (x1 + (h.1 119 ((((8 : Int32) * (((8 : Int32) * x2) + x3)) + x4)).toNatClampNeg))), (2, .int (x2 + 1))] [] h Q) ∧ ((h.1 119 ((((8 : Int32) * (((8 : Int32) * x2) + x3)) + x4)).toNatClampNeg) = (1000000000 : Int32) → Q (1000000000 : Int32) h)))) ∧ (¬ ((h.1 114 3) ≤ x5) → (vp_in x5 3 ∧ (∃ Q3, CtI 0 mX11_has [.int (h.1 124 (x5).toNatClampNeg), .int x2] h Q3 ∧ ∀ (v5 : Int32) (h6 : Hp), Q3 v5 h6 → ((v5 = 0 → GoI 1 mX11_costOfTried 93 [(0, .ref 113), (1, .int x1), (2, .int x2), (4, .int x4), (5, .int x5)] [.int (0 : Int32), .int x3] h6 Q) ∧ (¬ v5 = 0 → GoI 1 mX11_costOfTried 93 [(0, .ref 113), (1, .int x1), (2, .int x2), (4, .int x4), (5, .int x5)] [.int ((1 : Int32) <<< (x5 &&& 31)), .int x3] h6 Q))))))) : GoI 1 mX11_costOfTried 59 [(0, .ref 113), (1, .int x1), (2, .int x2), (3, .int x3), (4, .int x4), (5, .int x5)] [] h Q := by
  refine go_iload (pc2 := 61) dX11_costOfTried_59 rfl rfl ?_
  refine go_aload_n (pc2 := 62) dX11_costOfTried_61 rfl rfl rfl ?_
  refine gf_1056 (pc2 := 65) rfl dX11_costOfTried_62 rfl c_113 (fvs r_113_0) ?_
  refine go_iconst (pc2 := 66) (v := (3 : Int32)) dX11_costOfTried_65 rfl (by decide) ?_
  refine go_iaload (pc2 := 67) (j := 3) dX11_costOfTried_66 rfl c_114 (vp_c rfl) rfl ?_
  refine go_icmp_ge (pc2 := 70) (tgt := 139) dX11_costOfTried_67 rfl (by decide) (fun c => ?_) (fun c => ?_)
  · have k := k.1 c
    refine go_aload_n (pc2 := 140) dX11_costOfTried_139 rfl rfl rfl ?_
    refine gf_1065 (pc2 := 143) rfl dX11_costOfTried_140 rfl c_113 (fvs r_113_9) ?_
    refine go_bipush (pc2 := 145) (v := (8 : Int32)) dX11_costOfTried_143 rfl (by decide) ?_
    refine go_bipush (pc2 := 147) (v := (8 : Int32)) dX11_costOfTried_145 rfl (by decide) ?_
    refine go_iload_n (pc2 := 148) dX11_costOfTried_147 rfl rfl rfl ?_
    refine go_imul (pc2 := 149) dX11_costOfTried_148 rfl ?_
    refine go_iload_n (pc2 := 150) dX11_costOfTried_149 rfl rfl rfl ?_
    refine go_iadd (pc2 := 151) dX11_costOfTried_150 rfl ?_
    refine go_imul (pc2 := 152) dX11_costOfTried_151 rfl ?_
    refine go_iload (pc2 := 154) dX11_costOfTried_152 rfl rfl ?_
    refine go_iadd (pc2 := 155) dX11_costOfTried_154 rfl ?_
    obtain ⟨y1, k⟩ := k
    refine go_iaload (pc2 := 156) (j := ((((8 : Int32) * (((8 : Int32) * x2) + x3)) + x4)).toNatClampNeg) dX11_costOfTried_155 rfl c_119 y1 rfl ?_
    refine go_istore (pc2 := 158) (ls2 := [(0, .ref 113), (1, .int x1), (2, .int x2), (3, .int x3), (4, .int x4), (5, .int (h.1 119 ((((8 : Int32) * (((8 : Int32) * x2) + x3)) + x4)).toNatClampNeg))]) dX11_costOfTried_156 rfl rfl rfl rfl rfl ?_
    refine go_iload (pc2 := 160) dX11_costOfTried_158 rfl rfl ?_
    refine go_ldc (pc2 := 162) dX11_costOfTried_160 rfl rfl w_1308 ?_
    refine go_icmp_ne (pc2 := 165) (tgt := 168) dX11_costOfTried_162 rfl (by decide) (fun c => ?_) (fun c => ?_)
    · have k := k.1 c
      refine go_iload_n (pc2 := 169) dX11_costOfTried_168 rfl rfl rfl ?_
      refine go_iload (pc2 := 171) dX11_costOfTried_169 rfl rfl ?_
      refine go_iadd (pc2 := 172) dX11_costOfTried_171 rfl ?_
      refine go_istore_n (pc2 := 173) (ls2 := [(0, .ref 113), (1, .int (x1 + (h.1 119 ((((8 : Int32) * (((8 : Int32) * x2) + x3)) + x4)).toNatClampNeg))), (2, .int x2), (3, .int x3), (4, .int x4), (5, .int (h.1 119 ((((8 : Int32) * (((8 : Int32) * x2) + x3)) + x4)).toNatClampNeg))]) dX11_costOfTried_172 rfl rfl rfl rfl rfl rfl ?_
      refine go_iinc (pc2 := 176) (ls2 := [(0, .ref 113), (1, .int (x1 + (h.1 119 ((((8 : Int32) * (((8 : Int32) * x2) + x3)) + x4)).toNatClampNeg))), (2, .int (x2 + 1)), (3, .int x3), (4, .int x4), (5, .int (h.1 119 ((((8 : Int32) * (((8 : Int32) * x2) + x3)) + x4)).toNatClampNeg))]) (v := (x2 + 1)) dX11_costOfTried_173 rfl rfl rfl rfl rfl rfl rfl ?_
      refine go_goto (tgt := 41) dX11_costOfTried_176 (by decide) ?_
      exact Go.pick [0, 1, 2] rfl k
    · have k := k.2 c
      refine go_ldc (pc2 := 167) dX11_costOfTried_165 rfl rfl w_1308 ?_
      exact go_iret dX11_costOfTried_167 ⟨_, rfl, rfl⟩ ⟨rfl, _, rfl, k⟩
  · have k := k.2 c
    refine go_iload_n (pc2 := 71) dX11_costOfTried_70 rfl rfl rfl ?_
    refine go_aload_n (pc2 := 72) dX11_costOfTried_71 rfl rfl rfl ?_
    refine gf_1070 (pc2 := 75) rfl dX11_costOfTried_72 rfl c_113 (fvs r_113_14) ?_
    refine go_iload (pc2 := 77) dX11_costOfTried_75 rfl rfl ?_
    obtain ⟨y2, k⟩ := k
    refine go_iaload (pc2 := 78) (j := (x5).toNatClampNeg) dX11_costOfTried_77 rfl c_124 y2 rfl ?_
    refine go_iload_n (pc2 := 79) dX11_costOfTried_78 rfl rfl rfl ?_
    obtain ⟨Q3, hC4, k⟩ := k
    refine gcS_I (pc2 := 82) (dC := 0) (As := [.int (h.1 124 (x5).toNatClampNeg), .int x2]) (st := [.int x3]) rfl dX11_costOfTried_79 rfl w_1278 ok_X11_has w_1279 rfl (by decide) (Nat.le_of_ble_eq_true rfl) hC4 (fun v5 h6 hq7 => ?_)
    have k := k v5 h6 hq7
    refine go_if_eq (pc2 := 85) (tgt := 92) dX11_costOfTried_82 rfl (by decide) (fun c => ?_) (fun c => ?_)
    · have k := k.1 c
      refine go_iconst (pc2 := 93) (v := (0 : Int32)) dX11_costOfTried_92 rfl (by decide) ?_
      exact Go.pick [0, 1, 2, 4, 5] rfl k
    · have k := k.2 c
      refine go_iconst (pc2 := 86) (v := (1 : Int32)) dX11_costOfTried_85 rfl (by decide) ?_
      refine go_iload (pc2 := 88) dX11_costOfTried_86 rfl rfl ?_
      refine go_ishl (pc2 := 89) dX11_costOfTried_88 rfl ?_
      refine go_goto (tgt := 93) dX11_costOfTried_89 (by decide) ?_
      exact Go.pick [0, 1, 2, 4, 5] rfl k
theorem b_X11_costOfTried_93 {x1 : Int32} {x2 : Int32} {x4 : Int32} {x5 : Int32} {s0 : Int32} {s1 : Int32} {h : Hp} {Q : Int32 → Hp → Prop}  (k : (vp_in x5 3 ∧ (vp_in (((32 : Int32) * x5) + (h.1 124 (x5).toNatClampNeg)) 96 ∧ (∃ Q3, CtI 0 mX11_has [.int (h.1 121 ((((32 : Int32) * x5) + (h.1 124 (x5).toNatClampNeg))).toNatClampNeg), .int x2] h Q3 ∧ ∀ (v5 : Int32) (h6 : Hp), Q3 v5 h6 → ((v5 = 0 → GoI 1 mX11_costOfTried 130 [(0, .ref 113), (1, .int x1), (2, .int x2), (3, .int (s0 ||| s1)), (5, .int x5)] [.int (0 : Int32), .int x4] h6 Q) ∧ (¬ v5 = 0 → GoI 1 mX11_costOfTried 130 [(0, .ref 113), (1, .int x1), (2, .int x2), (3, .int (s0 ||| s1)), (5, .int x5)] [.int ((1 : Int32) <<< (x5 &&& 31)), .int x4] h6 Q)))))) : GoI 1 mX11_costOfTried 93 [(0, .ref 113), (1, .int x1), (2, .int x2), (4, .int x4), (5, .int x5)] [.int s1, .int s0] h Q := by
  refine go_ior (pc2 := 94) dX11_costOfTried_93 rfl ?_
  refine go_istore_n (pc2 := 95) (ls2 := [(0, .ref 113), (1, .int x1), (2, .int x2), (3, .int (s0 ||| s1)), (4, .int x4), (5, .int x5)]) dX11_costOfTried_94 rfl rfl rfl rfl rfl rfl ?_
  refine go_iload (pc2 := 97) dX11_costOfTried_95 rfl rfl ?_
  refine go_aload_n (pc2 := 98) dX11_costOfTried_97 rfl rfl rfl ?_
  refine gf_1067 (pc2 := 101) rfl dX11_costOfTried_98 rfl c_113 (fvs r_113_11) ?_
  refine go_bipush (pc2 := 103) (v := (32 : Int32)) dX11_costOfTried_101 rfl (by decide) ?_
  refine go_iload (pc2 := 105) dX11_costOfTried_103 rfl rfl ?_
  refine go_imul (pc2 := 106) dX11_costOfTried_105 rfl ?_
  refine go_aload_n (pc2 := 107) dX11_costOfTried_106 rfl rfl rfl ?_
  refine gf_1070 (pc2 := 110) rfl dX11_costOfTried_107 rfl c_113 (fvs r_113_14) ?_
  refine go_iload (pc2 := 112) dX11_costOfTried_110 rfl rfl ?_
  obtain ⟨y1, k⟩ := k
  refine go_iaload (pc2 := 113) (j := (x5).toNatClampNeg) dX11_costOfTried_112 rfl c_124 y1 rfl ?_
  refine go_iadd (pc2 := 114) dX11_costOfTried_113 rfl ?_
  obtain ⟨y2, k⟩ := k
  refine go_iaload (pc2 := 115) (j := ((((32 : Int32) * x5) + (h.1 124 (x5).toNatClampNeg))).toNatClampNeg) dX11_costOfTried_114 rfl c_121 y2 rfl ?_
  refine go_iload_n (pc2 := 116) dX11_costOfTried_115 rfl rfl rfl ?_
  obtain ⟨Q3, hC4, k⟩ := k
  refine gcS_I (pc2 := 119) (dC := 0) (As := [.int (h.1 121 ((((32 : Int32) * x5) + (h.1 124 (x5).toNatClampNeg))).toNatClampNeg), .int x2]) (st := [.int x4]) rfl dX11_costOfTried_116 rfl w_1278 ok_X11_has w_1279 rfl (by decide) (Nat.le_of_ble_eq_true rfl) hC4 (fun v5 h6 hq7 => ?_)
  have k := k v5 h6 hq7
  refine go_if_eq (pc2 := 122) (tgt := 129) dX11_costOfTried_119 rfl (by decide) (fun c => ?_) (fun c => ?_)
  · have k := k.1 c
    refine go_iconst (pc2 := 130) (v := (0 : Int32)) dX11_costOfTried_129 rfl (by decide) ?_
    exact Go.pick [0, 1, 2, 3, 5] rfl k
  · have k := k.2 c
    refine go_iconst (pc2 := 123) (v := (1 : Int32)) dX11_costOfTried_122 rfl (by decide) ?_
    refine go_iload (pc2 := 125) dX11_costOfTried_123 rfl rfl ?_
    refine go_ishl (pc2 := 126) dX11_costOfTried_125 rfl ?_
    refine go_goto (tgt := 130) dX11_costOfTried_126 (by decide) ?_
    exact Go.pick [0, 1, 2, 3, 5] rfl k
theorem b_X11_costOfTried_130 {x1 : Int32} {x2 : Int32} {x3 : Int32} {x5 : Int32} {s0 : Int32} {s1 : Int32} {h : Hp} {Q : Int32 → Hp → Prop}  (k : GoI 1 mX11_costOfTried 59 [(0, .ref 113), (1, .int x1), (2, .int x2), (3, .int x3), (4, .int (s0 ||| s1)), (5, .int (x5 + 1))] [] h Q) : GoI 1 mX11_costOfTried 130 [(0, .ref 113), (1, .int x1), (2, .int x2), (3, .int x3), (5, .int x5)] [.int s1, .int s0] h Q := by
  refine go_ior (pc2 := 131) dX11_costOfTried_130 rfl ?_
  refine go_istore (pc2 := 133) (ls2 := [(0, .ref 113), (1, .int x1), (2, .int x2), (3, .int x3), (4, .int (s0 ||| s1)), (5, .int x5)]) dX11_costOfTried_131 rfl rfl rfl rfl rfl ?_
  refine go_iinc (pc2 := 136) (ls2 := [(0, .ref 113), (1, .int x1), (2, .int x2), (3, .int x3), (4, .int (s0 ||| s1)), (5, .int (x5 + 1))]) (v := (x5 + 1)) dX11_costOfTried_133 rfl rfl rfl rfl rfl rfl rfl ?_
  refine go_goto (tgt := 59) dX11_costOfTried_136 (by decide) ?_
  exact k
theorem e_X11_tries {d dC : Nat} (hdd : dC + 1 ≤ d) (hd2 : 3 ≤ d) {x1 : Int32} {h : Hp} {Q : Hp → Prop}  (k : ((¬ x1 = (h.1 114 3) → GoV d mX11_tries 56 [(0, .ref 113), (1, .int x1), (2, .int (0 : Int32))] [] h Q) ∧ (x1 = (h.1 114 3) → (∃ Q1, CtI 1 mX11_costOfTried [.ref 113] h Q1 ∧ ∀ (v3 : Int32) (h4 : Hp), Q1 v3 h4 → (((h4.1 113 15) ≤ v3 → Q h4) ∧ (¬ ((h4.1 113 15) ≤ v3) → (∀ g6 : Hp, g6 = (ui h4 113 15 v3) → GoV d mX11_tries 30 [(0, .ref 113), (3, .int (0 : Int32))] [] g6 Q))))))) : CtV d mX11_tries [.ref 113, .int x1] h Q := by
  refine Ct.of (by decide +kernel) (Nat.le_of_ble_eq_true rfl) ?_
  show GoV d mX11_tries 0 [(0, .ref 113), (1, .int x1)] [] h Q
  refine go_iload_n (pc2 := 1) dX11_tries_0 rfl rfl rfl ?_
  refine go_aload_n (pc2 := 2) dX11_tries_1 rfl rfl rfl ?_
  refine gf_1056 (pc2 := 5) rfl dX11_tries_2 rfl c_113 (fvs r_113_0) ?_
  refine go_iconst (pc2 := 6) (v := (3 : Int32)) dX11_tries_5 rfl (by decide) ?_
  refine go_iaload (pc2 := 7) (j := 3) dX11_tries_6 rfl c_114 (vp_c rfl) rfl ?_
  refine go_icmp_ne (pc2 := 10) (tgt := 54) dX11_tries_7 rfl (by decide) (fun c => ?_) (fun c => ?_)
  · have k := k.1 c
    refine go_iconst (pc2 := 55) (v := (0 : Int32)) dX11_tries_54 rfl (by decide) ?_
    refine go_istore_n (pc2 := 56) (ls2 := [(0, .ref 113), (1, .int x1), (2, .int (0 : Int32))]) dX11_tries_55 rfl rfl rfl rfl rfl rfl ?_
    exact k
  · have k := k.2 c
    refine go_aload_n (pc2 := 11) dX11_tries_10 rfl rfl rfl ?_
    obtain ⟨Q1, hC2, k⟩ := k
    refine gcV_I (pc2 := 14) (dC := 1) (As := []) (st := []) rfl dX11_tries_11 rfl w_1345 ok_X11_costOfTried vi_X11_costOfTried c_113 (by decide) rfl rfl rfl (by omega) (Nat.le_of_ble_eq_true rfl) hC2 (fun v3 h4 hq5 => ?_)
    have k := k v3 h4 hq5
    refine go_istore_n (pc2 := 15) (ls2 := [(0, .ref 113), (1, .int x1), (2, .int v3)]) dX11_tries_14 rfl rfl rfl rfl rfl rfl ?_
    refine go_iload_n (pc2 := 16) dX11_tries_15 rfl rfl rfl ?_
    refine go_aload_n (pc2 := 17) dX11_tries_16 rfl rfl rfl ?_
    refine gf_1071 (pc2 := 20) rfl dX11_tries_17 rfl c_113 fvi ?_
    refine go_icmp_ge (pc2 := 23) (tgt := 53) dX11_tries_20 rfl (by decide) (fun c => ?_) (fun c => ?_)
    · have k := k.1 c
      exact go_ret dX11_tries_53 rfl ⟨rfl, rfl, k⟩
    · have k := k.2 c
      refine go_aload_n (pc2 := 24) dX11_tries_23 rfl rfl rfl ?_
      refine go_iload_n (pc2 := 25) dX11_tries_24 rfl rfl rfl ?_
      refine pf_1071 (pc2 := 28) rfl dX11_tries_25 rfl c_113 ?_
      obtain ⟨g6, eg6⟩ : ∃ y : Hp, y = (ui h4 113 15 v3) := ⟨_, rfl⟩
      rw [← eg6]
      have k := k g6 eg6
      refine go_iconst (pc2 := 29) (v := (0 : Int32)) dX11_tries_28 rfl (by decide) ?_
      refine go_istore_n (pc2 := 30) (ls2 := [(0, .ref 113), (1, .int x1), (2, .int v3), (3, .int (0 : Int32))]) dX11_tries_29 rfl rfl rfl rfl rfl rfl ?_
      exact Go.pick [0, 3] rfl k
theorem b_X11_tries_56 {d dC : Nat} (hdd : dC + 1 ≤ d) (hd2 : 3 ≤ d) {x1 : Int32} {x2 : Int32} {h : Hp} {Q : Hp → Prop}  (k : ((((1 : Int32) <<< ((h.1 114 0) &&& 31)) ≤ x2 → Q h) ∧ (¬ (((1 : Int32) <<< ((h.1 114 0) &&& 31)) ≤ x2) → (vp_in (((32 : Int32) * x1) + x2) 96 ∧ (((h.1 120 ((((32 : Int32) * x1) + x2)).toNatClampNeg) = 0 → GoV d mX11_tries 96 [(0, .ref 113), (1, .int x1), (2, .int x2)] [] h Q) ∧ (¬ (h.1 120 ((((32 : Int32) * x1) + x2)).toNatClampNeg) = 0 → (vp_in x1 3 ∧ (∀ g3 : Hp, g3 = (ui h 124 (x1).toNatClampNeg x2) → (∃ Q4, CtV dC mX11_tries [.ref 113, .int (x1 + (1 : Int32))] g3 Q4 ∧ ∀ h7 : Hp, Q4 h7 → GoV d mX11_tries 96 [(0, .ref 113), (1, .int x1), (2, .int x2)] [] h7 Q))))))))) : GoV d mX11_tries 56 [(0, .ref 113), (1, .int x1), (2, .int x2)] [] h Q := by
  refine go_iload_n (pc2 := 57) dX11_tries_56 rfl rfl rfl ?_
  refine go_iconst (pc2 := 58) (v := (1 : Int32)) dX11_tries_57 rfl (by decide) ?_
  refine go_aload_n (pc2 := 59) dX11_tries_58 rfl rfl rfl ?_
  refine gf_1056 (pc2 := 62) rfl dX11_tries_59 rfl c_113 (fvs r_113_0) ?_
  refine go_iconst (pc2 := 63) (v := (0 : Int32)) dX11_tries_62 rfl (by decide) ?_
  refine go_iaload (pc2 := 64) (j := 0) dX11_tries_63 rfl c_114 (vp_c rfl) rfl ?_
  refine go_ishl (pc2 := 65) dX11_tries_64 rfl ?_
  refine go_icmp_ge (pc2 := 68) (tgt := 102) dX11_tries_65 rfl (by decide) (fun c => ?_) (fun c => ?_)
  · have k := k.1 c
    exact go_ret dX11_tries_102 rfl ⟨rfl, rfl, k⟩
  · have k := k.2 c
    refine go_aload_n (pc2 := 69) dX11_tries_68 rfl rfl rfl ?_
    refine gf_1066 (pc2 := 72) rfl dX11_tries_69 rfl c_113 (fvs r_113_10) ?_
    refine go_bipush (pc2 := 74) (v := (32 : Int32)) dX11_tries_72 rfl (by decide) ?_
    refine go_iload_n (pc2 := 75) dX11_tries_74 rfl rfl rfl ?_
    refine go_imul (pc2 := 76) dX11_tries_75 rfl ?_
    refine go_iload_n (pc2 := 77) dX11_tries_76 rfl rfl rfl ?_
    refine go_iadd (pc2 := 78) dX11_tries_77 rfl ?_
    obtain ⟨y1, k⟩ := k
    refine go_baload (pc2 := 79) (j := ((((32 : Int32) * x1) + x2)).toNatClampNeg) dX11_tries_78 rfl c_120 y1 rfl ?_
    refine go_if_eq (pc2 := 82) (tgt := 96) dX11_tries_79 rfl (by decide) (fun c => ?_) (fun c => ?_)
    · have k := k.1 c
      exact k
    · have k := k.2 c
      refine go_aload_n (pc2 := 83) dX11_tries_82 rfl rfl rfl ?_
      refine gf_1070 (pc2 := 86) rfl dX11_tries_83 rfl c_113 (fvs r_113_14) ?_
      refine go_iload_n (pc2 := 87) dX11_tries_86 rfl rfl rfl ?_
      refine go_iload_n (pc2 := 88) dX11_tries_87 rfl rfl rfl ?_
      obtain ⟨y2, k⟩ := k
      refine go_iastore (pc2 := 89) (j := (x1).toNatClampNeg) dX11_tries_88 rfl c_124 y2 rfl ?_
      obtain ⟨g3, eg3⟩ : ∃ y : Hp, y = (ui h 124 (x1).toNatClampNeg x2) := ⟨_, rfl⟩
      rw [← eg3]
      have k := k g3 eg3
      refine go_aload_n (pc2 := 90) dX11_tries_89 rfl rfl rfl ?_
      refine go_iload_n (pc2 := 91) dX11_tries_90 rfl rfl rfl ?_
      refine go_iconst (pc2 := 92) (v := (1 : Int32)) dX11_tries_91 rfl (by decide) ?_
      refine go_iadd (pc2 := 93) dX11_tries_92 rfl ?_
      obtain ⟨Q4, hC5, k⟩ := k
      refine gcV_V (pc2 := 96) (dC := dC) (As := [.int (x1 + (1 : Int32))]) (st := []) rfl dX11_tries_93 rfl w_1341 ok_X11_tries vi_X11_tries c_113 (by decide) rfl rfl rfl hdd (Nat.le_of_ble_eq_true rfl) hC5 (fun h7 hq8 => ?_)
      have k := k h7 hq8
      exact k
theorem b_X11_tries_30 {d dC : Nat} (hdd : dC + 1 ≤ d) (hd2 : 3 ≤ d) {x3 : Int32} {h : Hp} {Q : Hp → Prop}  (k : (((3 : Int32) ≤ x3 → Q h) ∧ (¬ ((3 : Int32) ≤ x3) → (vp_in x3 3 ∧ (vp_in x3 3 ∧ (∀ g3 : Hp, g3 = (ui h 123 (x3).toNatClampNeg (h.1 124 (x3).toNatClampNeg)) → GoV d mX11_tries 30 [(0, .ref 113), (3, .int (x3 + 1))] [] g3 Q)))))) : GoV d mX11_tries 30 [(0, .ref 113), (3, .int x3)] [] h Q := by
  refine go_iload_n (pc2 := 31) dX11_tries_30 rfl rfl rfl ?_
  refine go_iconst (pc2 := 32) (v := (3 : Int32)) dX11_tries_31 rfl (by decide) ?_
  refine go_icmp_ge (pc2 := 35) (tgt := 53) dX11_tries_32 rfl (by decide) (fun c => ?_) (fun c => ?_)
  · have k := k.1 c
    exact go_ret dX11_tries_53 rfl ⟨rfl, rfl, k⟩
  · have k := k.2 c
    refine go_aload_n (pc2 := 36) dX11_tries_35 rfl rfl rfl ?_
    refine gf_1069 (pc2 := 39) rfl dX11_tries_36 rfl c_113 (fvs r_113_13) ?_
    refine go_iload_n (pc2 := 40) dX11_tries_39 rfl rfl rfl ?_
    refine go_aload_n (pc2 := 41) dX11_tries_40 rfl rfl rfl ?_
    refine gf_1070 (pc2 := 44) rfl dX11_tries_41 rfl c_113 (fvs r_113_14) ?_
    refine go_iload_n (pc2 := 45) dX11_tries_44 rfl rfl rfl ?_
    obtain ⟨y1, k⟩ := k
    refine go_iaload (pc2 := 46) (j := (x3).toNatClampNeg) dX11_tries_45 rfl c_124 y1 rfl ?_
    obtain ⟨y2, k⟩ := k
    refine go_iastore (pc2 := 47) (j := (x3).toNatClampNeg) dX11_tries_46 rfl c_123 y2 rfl ?_
    obtain ⟨g3, eg3⟩ : ∃ y : Hp, y = (ui h 123 (x3).toNatClampNeg (h.1 124 (x3).toNatClampNeg)) := ⟨_, rfl⟩
    rw [← eg3]
    have k := k g3 eg3
    refine go_iinc (pc2 := 50) (ls2 := [(0, .ref 113), (3, .int (x3 + 1))]) (v := (x3 + 1)) dX11_tries_47 rfl rfl rfl rfl rfl rfl rfl ?_
    refine go_goto (tgt := 30) dX11_tries_50 (by decide) ?_
    exact k
theorem b_X11_tries_96 {d dC : Nat} (hdd : dC + 1 ≤ d) (hd2 : 3 ≤ d) {x1 : Int32} {x2 : Int32} {h : Hp} {Q : Hp → Prop}  (k : GoV d mX11_tries 56 [(0, .ref 113), (1, .int x1), (2, .int (x2 + 1))] [] h Q) : GoV d mX11_tries 96 [(0, .ref 113), (1, .int x1), (2, .int x2)] [] h Q := by
  refine go_iinc (pc2 := 99) (ls2 := [(0, .ref 113), (1, .int x1), (2, .int (x2 + 1))]) (v := (x2 + 1)) dX11_tries_96 rfl rfl rfl rfl rfl rfl rfl ?_
  refine go_goto (tgt := 56) dX11_tries_99 (by decide) ?_
  exact k
theorem e_X11_bests  {h : Hp} {Q : Int32 → Hp → Prop}  (k : GoI 7 mX11_bests 2 [(0, .ref 113), (1, .int (0 : Int32))] [] h Q) : CtI 7 mX11_bests [.ref 113] h Q := by
  refine Ct.of (by decide +kernel) (Nat.le_of_ble_eq_true rfl) ?_
  show GoI 7 mX11_bests 0 [(0, .ref 113)] [] h Q
  refine go_iconst (pc2 := 1) (v := (0 : Int32)) dX11_bests_0 rfl (by decide) ?_
  refine go_istore_n (pc2 := 2) (ls2 := [(0, .ref 113), (1, .int (0 : Int32))]) dX11_bests_1 rfl rfl rfl rfl rfl rfl ?_
  exact k
theorem b_X11_bests_2 {x1 : Int32} {h : Hp} {Q : Int32 → Hp → Prop}  (k : (((h.1 114 3) ≤ x1 → (∃ Q1, CtV 5 mX11_laysTable [.ref 113] h Q1 ∧ ∀ h4 : Hp, Q1 h4 → (∀ g6 : Hp, g6 = (ui h4 113 15 (1000000000 : Int32)) → (∃ Q7, CtV 6 mX11_tries [.ref 113, .int (0 : Int32)] g6 Q7 ∧ ∀ h10 : Hp, Q7 h10 → ((¬ (h10.1 113 15) = (1000000000 : Int32) → Q (h10.1 113 15) h10) ∧ ((h10.1 113 15) = (1000000000 : Int32) → Q (-9 : Int32) h10)))))) ∧ (¬ ((h.1 114 3) ≤ x1) → (∃ Q12, CtV 3 mX11_laysRows [.ref 113, .int x1] h Q12 ∧ ∀ h15 : Hp, Q12 h15 → GoI 7 mX11_bests 2 [(0, .ref 113), (1, .int (x1 + 1))] [] h15 Q)))) : GoI 7 mX11_bests 2 [(0, .ref 113), (1, .int x1)] [] h Q := by
  refine go_iload_n (pc2 := 3) dX11_bests_2 rfl rfl rfl ?_
  refine go_aload_n (pc2 := 4) dX11_bests_3 rfl rfl rfl ?_
  refine gf_1056 (pc2 := 7) rfl dX11_bests_4 rfl c_113 (fvs r_113_0) ?_
  refine go_iconst (pc2 := 8) (v := (3 : Int32)) dX11_bests_7 rfl (by decide) ?_
  refine go_iaload (pc2 := 9) (j := 3) dX11_bests_8 rfl c_114 (vp_c rfl) rfl ?_
  refine go_icmp_ge (pc2 := 12) (tgt := 23) dX11_bests_9 rfl (by decide) (fun c => ?_) (fun c => ?_)
  · have k := k.1 c
    refine go_aload_n (pc2 := 24) dX11_bests_23 rfl rfl rfl ?_
    obtain ⟨Q1, hC2, k⟩ := k
    refine gcV_V (pc2 := 27) (dC := 5) (As := []) (st := []) rfl dX11_bests_24 rfl w_1337 ok_X11_laysTable vi_X11_laysTable c_113 (by decide) rfl rfl rfl (by decide) (Nat.le_of_ble_eq_true rfl) hC2 (fun h4 hq5 => ?_)
    have k := k h4 hq5
    refine go_aload_n (pc2 := 28) dX11_bests_27 rfl rfl rfl ?_
    refine go_ldc (pc2 := 30) dX11_bests_28 rfl rfl w_1308 ?_
    refine pf_1071 (pc2 := 33) rfl dX11_bests_30 rfl c_113 ?_
    obtain ⟨g6, eg6⟩ : ∃ y : Hp, y = (ui h4 113 15 (1000000000 : Int32)) := ⟨_, rfl⟩
    rw [← eg6]
    have k := k g6 eg6
    refine go_aload_n (pc2 := 34) dX11_bests_33 rfl rfl rfl ?_
    refine go_iconst (pc2 := 35) (v := (0 : Int32)) dX11_bests_34 rfl (by decide) ?_
    obtain ⟨Q7, hC8, k⟩ := k
    refine gcV_V (pc2 := 38) (dC := 6) (As := [.int (0 : Int32)]) (st := []) rfl dX11_bests_35 rfl w_1341 ok_X11_tries vi_X11_tries c_113 (by decide) rfl rfl rfl (by decide) (Nat.le_of_ble_eq_true rfl) hC8 (fun h10 hq11 => ?_)
    have k := k h10 hq11
    refine go_aload_n (pc2 := 39) dX11_bests_38 rfl rfl rfl ?_
    refine gf_1071 (pc2 := 42) rfl dX11_bests_39 rfl c_113 fvi ?_
    refine go_ldc (pc2 := 44) dX11_bests_42 rfl rfl w_1308 ?_
    refine go_icmp_ne (pc2 := 47) (tgt := 52) dX11_bests_44 rfl (by decide) (fun c => ?_) (fun c => ?_)
    · have k := k.1 c
      refine go_aload_n (pc2 := 53) dX11_bests_52 rfl rfl rfl ?_
      refine gf_1071 (pc2 := 56) rfl dX11_bests_53 rfl c_113 fvi ?_
      exact go_iret dX11_bests_56 ⟨_, rfl, rfl⟩ ⟨rfl, _, rfl, k⟩
    · have k := k.2 c
      refine go_bipush (pc2 := 49) (v := (-9 : Int32)) dX11_bests_47 rfl (by decide) ?_
      refine go_goto (tgt := 56) dX11_bests_49 (by decide) ?_
      exact go_iret dX11_bests_56 ⟨_, rfl, rfl⟩ ⟨rfl, _, rfl, k⟩
  · have k := k.2 c
    refine go_aload_n (pc2 := 13) dX11_bests_12 rfl rfl rfl ?_
    refine go_iload_n (pc2 := 14) dX11_bests_13 rfl rfl rfl ?_
    obtain ⟨Q12, hC13, k⟩ := k
    refine gcV_V (pc2 := 17) (dC := 3) (As := [.int x1]) (st := []) rfl dX11_bests_14 rfl w_1333 ok_X11_laysRows vi_X11_laysRows c_113 (by decide) rfl rfl rfl (by decide) (Nat.le_of_ble_eq_true rfl) hC13 (fun h15 hq16 => ?_)
    have k := k h15 hq16
    refine go_iinc (pc2 := 20) (ls2 := [(0, .ref 113), (1, .int (x1 + 1))]) (v := (x1 + 1)) dX11_bests_17 rfl rfl rfl rfl rfl rfl rfl ?_
    refine go_goto (tgt := 2) dX11_bests_20 (by decide) ?_
    exact k
theorem e_X11_best  {h : Hp} {Q : Int32 → Hp → Prop}  (k : (∃ Q1, CtI 7 mX11_bests [.ref 113] h Q1 ∧ ∀ (v3 : Int32) (h4 : Hp), Q1 v3 h4 → Q v3 h4)) : CtI 8 mX11_best [.ref 113] h Q := by
  refine Ct.of (by decide +kernel) (Nat.le_of_ble_eq_true rfl) ?_
  show GoI 8 mX11_best 0 [(0, .ref 113)] [] h Q
  refine go_aload_n (pc2 := 1) dX11_best_0 rfl rfl rfl ?_
  obtain ⟨Q1, hC2, k⟩ := k
  refine gcV_I (pc2 := 4) (dC := 7) (As := []) (st := []) rfl dX11_best_1 rfl w_1329 ok_X11_bests vi_X11_bests c_113 (by decide) rfl rfl rfl (by decide) (Nat.le_of_ble_eq_true rfl) hC2 (fun v3 h4 hq5 => ?_)
  have k := k v3 h4 hq5
  exact go_iret dX11_best_4 ⟨_, rfl, rfl⟩ ⟨rfl, _, rfl, k⟩
theorem e_X11_row {x1 : Int32} {h : Hp} {Q : Int32 → Hp → Prop}  (k : (∃ Q1, CtI 1 mX11_isPlant [.ref 113, .int x1] h Q1 ∧ ∀ (v3 : Int32) (h4 : Hp), Q1 v3 h4 → ((¬ v3 = 0 → (∃ Q6, CtI 7 mX11_bests [.ref 113] h4 Q6 ∧ ∀ (v8 : Int32) (h9 : Hp), Q6 v8 h9 → ((¬ v8 = (-9 : Int32) → (vp_in x1 3 ∧ Q (h9.1 123 (x1).toNatClampNeg) h9)) ∧ (v8 = (-9 : Int32) → Q (-9 : Int32) h9)))) ∧ (v3 = 0 → (∃ Q12, CtI 0 mX11_no [.ref 113, .int (-1 : Int32)] h4 Q12 ∧ ∀ (v14 : Int32) (h15 : Hp), Q12 v14 h15 → Q v14 h15))))) : CtI 8 mX11_row [.ref 113, .int x1] h Q := by
  refine Ct.of (by decide +kernel) (Nat.le_of_ble_eq_true rfl) ?_
  show GoI 8 mX11_row 0 [(0, .ref 113), (1, .int x1)] [] h Q
  refine go_aload_n (pc2 := 1) dX11_row_0 rfl rfl rfl ?_
  refine go_iload_n (pc2 := 2) dX11_row_1 rfl rfl rfl ?_
  obtain ⟨Q1, hC2, k⟩ := k
  refine gcV_I (pc2 := 5) (dC := 1) (As := [.int x1]) (st := []) rfl dX11_row_2 rfl w_1208 ok_X11_isPlant vi_X11_isPlant c_113 (by decide) rfl rfl rfl (by decide) (Nat.le_of_ble_eq_true rfl) hC2 (fun v3 h4 hq5 => ?_)
  have k := k v3 h4 hq5
  refine go_if_ne (pc2 := 8) (tgt := 14) dX11_row_5 rfl (by decide) (fun c => ?_) (fun c => ?_)
  · have k := k.1 c
    refine go_aload_n (pc2 := 15) dX11_row_14 rfl rfl rfl ?_
    obtain ⟨Q6, hC7, k⟩ := k
    refine gcV_I (pc2 := 18) (dC := 7) (As := []) (st := []) rfl dX11_row_15 rfl w_1329 ok_X11_bests vi_X11_bests c_113 (by decide) rfl rfl rfl (by decide) (Nat.le_of_ble_eq_true rfl) hC7 (fun v8 h9 hq10 => ?_)
    have k := k v8 h9 hq10
    refine go_bipush (pc2 := 20) (v := (-9 : Int32)) dX11_row_18 rfl (by decide) ?_
    refine go_icmp_ne (pc2 := 23) (tgt := 28) dX11_row_20 rfl (by decide) (fun c => ?_) (fun c => ?_)
    · have k := k.1 c
      refine go_aload_n (pc2 := 29) dX11_row_28 rfl rfl rfl ?_
      refine gf_1069 (pc2 := 32) rfl dX11_row_29 rfl c_113 (fvs r_113_13) ?_
      refine go_iload_n (pc2 := 33) dX11_row_32 rfl rfl rfl ?_
      obtain ⟨y11, k⟩ := k
      refine go_iaload (pc2 := 34) (j := (x1).toNatClampNeg) dX11_row_33 rfl c_123 y11 rfl ?_
      exact go_iret dX11_row_34 ⟨_, rfl, rfl⟩ ⟨rfl, _, rfl, k⟩
    · have k := k.2 c
      refine go_bipush (pc2 := 25) (v := (-9 : Int32)) dX11_row_23 rfl (by decide) ?_
      refine go_goto (tgt := 34) dX11_row_25 (by decide) ?_
      exact go_iret dX11_row_34 ⟨_, rfl, rfl⟩ ⟨rfl, _, rfl, k⟩
  · have k := k.2 c
    refine go_aload_n (pc2 := 9) dX11_row_8 rfl rfl rfl ?_
    refine go_iconst (pc2 := 10) (v := (-1 : Int32)) dX11_row_9 rfl (by decide) ?_
    obtain ⟨Q12, hC13, k⟩ := k
    refine gcV_I (pc2 := 13) (dC := 0) (As := [.int (-1 : Int32)]) (st := []) rfl dX11_row_10 rfl w_1161 ok_X11_no vi_X11_no c_113 (by decide) rfl rfl rfl (by decide) (Nat.le_of_ble_eq_true rfl) hC13 (fun v14 h15 hq16 => ?_)
    have k := k v14 h15 hq16
    exact go_iret dX11_row_13 ⟨_, rfl, rfl⟩ ⟨rfl, _, rfl, k⟩
theorem e_X11_hourBest {x1 : Int32} {h : Hp} {Q : Int32 → Hp → Prop}  (k : GoI 5 mX11_hourBest 10 [(0, .ref 113), (1, .int x1), (2, .int (0 : Int32)), (3, .int (0 : Int32)), (4, .int (0 : Int32)), (5, .int (0 : Int32))] [] h Q) : CtI 5 mX11_hourBest [.ref 113, .int x1] h Q := by
  refine Ct.of (by decide +kernel) (Nat.le_of_ble_eq_true rfl) ?_
  show GoI 5 mX11_hourBest 0 [(0, .ref 113), (1, .int x1)] [] h Q
  refine go_iconst (pc2 := 1) (v := (0 : Int32)) dX11_hourBest_0 rfl (by decide) ?_
  refine go_istore_n (pc2 := 2) (ls2 := [(0, .ref 113), (1, .int x1), (2, .int (0 : Int32))]) dX11_hourBest_1 rfl rfl rfl rfl rfl rfl ?_
  refine go_iconst (pc2 := 3) (v := (0 : Int32)) dX11_hourBest_2 rfl (by decide) ?_
  refine go_istore_n (pc2 := 4) (ls2 := [(0, .ref 113), (1, .int x1), (2, .int (0 : Int32)), (3, .int (0 : Int32))]) dX11_hourBest_3 rfl rfl rfl rfl rfl rfl ?_
  refine go_iconst (pc2 := 5) (v := (0 : Int32)) dX11_hourBest_4 rfl (by decide) ?_
  refine go_istore (pc2 := 7) (ls2 := [(0, .ref 113), (1, .int x1), (2, .int (0 : Int32)), (3, .int (0 : Int32)), (4, .int (0 : Int32))]) dX11_hourBest_5 rfl rfl rfl rfl rfl ?_
  refine go_iconst (pc2 := 8) (v := (0 : Int32)) dX11_hourBest_7 rfl (by decide) ?_
  refine go_istore (pc2 := 10) (ls2 := [(0, .ref 113), (1, .int x1), (2, .int (0 : Int32)), (3, .int (0 : Int32)), (4, .int (0 : Int32)), (5, .int (0 : Int32))]) dX11_hourBest_8 rfl rfl rfl rfl rfl ?_
  exact k
theorem b_X11_hourBest_10 {x1 : Int32} {x2 : Int32} {x3 : Int32} {x4 : Int32} {x5 : Int32} {h : Hp} {Q : Int32 → Hp → Prop}  (k : (((h.1 114 3) ≤ x5 → (∃ Q1, CtI 4 mX11_costBy [.ref 113, .int x1, .int x2, .int x3] h Q1 ∧ ∀ (v3 : Int32) (h4 : Hp), Q1 v3 h4 → Q (x4 + v3) h4)) ∧ (¬ ((h.1 114 3) ≤ x5) → (∃ Q6, CtI 0 mX11_of1 [.ref 113, .int x5, .int (9 : Int32)] h Q6 ∧ ∀ (v8 : Int32) (h9 : Hp), Q6 v8 h9 → GoI 5 mX11_hourBest 34 [(0, .ref 113), (1, .int x1), (2, .int x2), (3, .int x3), (4, .int x4), (5, .int x5), (6, .int v8), (7, .int (0 : Int32))] [] h9 Q)))) : GoI 5 mX11_hourBest 10 [(0, .ref 113), (1, .int x1), (2, .int x2), (3, .int x3), (4, .int x4), (5, .int x5)] [] h Q := by
  refine go_iload (pc2 := 12) dX11_hourBest_10 rfl rfl ?_
  refine go_aload_n (pc2 := 13) dX11_hourBest_12 rfl rfl rfl ?_
  refine gf_1056 (pc2 := 16) rfl dX11_hourBest_13 rfl c_113 (fvs r_113_0) ?_
  refine go_iconst (pc2 := 17) (v := (3 : Int32)) dX11_hourBest_16 rfl (by decide) ?_
  refine go_iaload (pc2 := 18) (j := 3) dX11_hourBest_17 rfl c_114 (vp_c rfl) rfl ?_
  refine go_icmp_ge (pc2 := 21) (tgt := 131) dX11_hourBest_18 rfl (by decide) (fun c => ?_) (fun c => ?_)
  · have k := k.1 c
    refine go_iload (pc2 := 133) dX11_hourBest_131 rfl rfl ?_
    refine go_aload_n (pc2 := 134) dX11_hourBest_133 rfl rfl rfl ?_
    refine go_iload_n (pc2 := 135) dX11_hourBest_134 rfl rfl rfl ?_
    refine go_iload_n (pc2 := 136) dX11_hourBest_135 rfl rfl rfl ?_
    refine go_iload_n (pc2 := 137) dX11_hourBest_136 rfl rfl rfl ?_
    obtain ⟨Q1, hC2, k⟩ := k
    refine gcV_I (pc2 := 140) (dC := 4) (As := [.int x1, .int x2, .int x3]) (st := [.int x4]) rfl dX11_hourBest_137 rfl w_1300 ok_X11_costBy vi_X11_costBy c_113 (by decide) rfl rfl rfl (by decide) (Nat.le_of_ble_eq_true rfl) hC2 (fun v3 h4 hq5 => ?_)
    have k := k v3 h4 hq5
    refine go_iadd (pc2 := 141) dX11_hourBest_140 rfl ?_
    exact go_iret dX11_hourBest_141 ⟨_, rfl, rfl⟩ ⟨rfl, _, rfl, k⟩
  · have k := k.2 c
    refine go_aload_n (pc2 := 22) dX11_hourBest_21 rfl rfl rfl ?_
    refine go_iload (pc2 := 24) dX11_hourBest_22 rfl rfl ?_
    refine go_bipush (pc2 := 26) (v := (9 : Int32)) dX11_hourBest_24 rfl (by decide) ?_
    obtain ⟨Q6, hC7, k⟩ := k
    refine gcV_I (pc2 := 29) (dC := 0) (As := [.int x5, .int (9 : Int32)]) (st := []) rfl dX11_hourBest_26 rfl w_1212 ok_X11_of1 vi_X11_of1 c_113 (by decide) rfl rfl rfl (by decide) (Nat.le_of_ble_eq_true rfl) hC7 (fun v8 h9 hq10 => ?_)
    have k := k v8 h9 hq10
    refine go_istore (pc2 := 31) (ls2 := [(0, .ref 113), (1, .int x1), (2, .int x2), (3, .int x3), (4, .int x4), (5, .int x5), (6, .int v8)]) dX11_hourBest_29 rfl rfl rfl rfl rfl ?_
    refine go_iconst (pc2 := 32) (v := (0 : Int32)) dX11_hourBest_31 rfl (by decide) ?_
    refine go_istore (pc2 := 34) (ls2 := [(0, .ref 113), (1, .int x1), (2, .int x2), (3, .int x3), (4, .int x4), (5, .int x5), (6, .int v8), (7, .int (0 : Int32))]) dX11_hourBest_32 rfl rfl rfl rfl rfl ?_
    exact k
theorem b_X11_hourBest_34 {x1 : Int32} {x2 : Int32} {x3 : Int32} {x4 : Int32} {x5 : Int32} {x6 : Int32} {x7 : Int32} {h : Hp} {Q : Int32 → Hp → Prop}  (k : ((x1 ≤ x7 → (vp_in x5 3 ∧ (∃ Q2, CtI 0 mX11_has [.int (h.1 123 (x5).toNatClampNeg), .int x1] h Q2 ∧ ∀ (v4 : Int32) (h5 : Hp), Q2 v4 h5 → ((v4 = 0 → GoI 5 mX11_hourBest 125 [(0, .ref 113), (1, .int x1), (2, .int x2), (3, .int x3), (4, .int x4), (5, .int x5)] [] h5 Q) ∧ (¬ v4 = 0 → ((0 ≤ x6 → GoI 5 mX11_hourBest 100 [(0, .ref 113), (1, .int x1), (2, .int (x2 ||| ((1 : Int32) <<< (x5 &&& 31)))), (4, .int x4), (5, .int x5), (6, .int x6)] [.int (0 : Int32), .int x3] h5 Q) ∧ (¬ (0 ≤ x6) → GoI 5 mX11_hourBest 100 [(0, .ref 113), (1, .int x1), (2, .int (x2 ||| ((1 : Int32) <<< (x5 &&& 31)))), (4, .int x4), (5, .int x5), (6, .int x6)] [.int ((1 : Int32) <<< (x5 &&& 31)), .int x3] h5 Q))))))) ∧ (¬ (x1 ≤ x7) → (vp_in x5 3 ∧ (∃ Q8, CtI 0 mX11_has [.int (h.1 123 (x5).toNatClampNeg), .int x7] h Q8 ∧ ∀ (v10 : Int32) (h11 : Hp), Q8 v10 h11 → (∃ Q13, CtI 0 mX11_goesOn [.int x6, .int v10] h11 Q13 ∧ ∀ (v15 : Int32) (h16 : Hp), Q13 v15 h16 → GoI 5 mX11_hourBest 34 [(0, .ref 113), (1, .int x1), (2, .int x2), (3, .int x3), (4, .int x4), (5, .int x5), (6, .int v15), (7, .int (x7 + 1))] [] h16 Q)))))) : GoI 5 mX11_hourBest 34 [(0, .ref 113), (1, .int x1), (2, .int x2), (3, .int x3), (4, .int x4), (5, .int x5), (6, .int x6), (7, .int x7)] [] h Q := by
  refine go_iload (pc2 := 36) dX11_hourBest_34 rfl rfl ?_
  refine go_iload_n (pc2 := 37) dX11_hourBest_36 rfl rfl rfl ?_
  refine go_icmp_ge (pc2 := 40) (tgt := 65) dX11_hourBest_37 rfl (by decide) (fun c => ?_) (fun c => ?_)
  · have k := k.1 c
    refine go_aload_n (pc2 := 66) dX11_hourBest_65 rfl rfl rfl ?_
    refine gf_1069 (pc2 := 69) rfl dX11_hourBest_66 rfl c_113 (fvs r_113_13) ?_
    refine go_iload (pc2 := 71) dX11_hourBest_69 rfl rfl ?_
    obtain ⟨y1, k⟩ := k
    refine go_iaload (pc2 := 72) (j := (x5).toNatClampNeg) dX11_hourBest_71 rfl c_123 y1 rfl ?_
    refine go_iload_n (pc2 := 73) dX11_hourBest_72 rfl rfl rfl ?_
    obtain ⟨Q2, hC3, k⟩ := k
    refine gcS_I (pc2 := 76) (dC := 0) (As := [.int (h.1 123 (x5).toNatClampNeg), .int x1]) (st := []) rfl dX11_hourBest_73 rfl w_1278 ok_X11_has w_1279 rfl (by decide) (Nat.le_of_ble_eq_true rfl) hC3 (fun v4 h5 hq6 => ?_)
    have k := k v4 h5 hq6
    refine go_if_eq (pc2 := 79) (tgt := 125) dX11_hourBest_76 rfl (by decide) (fun c => ?_) (fun c => ?_)
    · have k := k.1 c
      exact Go.pick [0, 1, 2, 3, 4, 5] rfl k
    · have k := k.2 c
      refine go_iload_n (pc2 := 80) dX11_hourBest_79 rfl rfl rfl ?_
      refine go_iconst (pc2 := 81) (v := (1 : Int32)) dX11_hourBest_80 rfl (by decide) ?_
      refine go_iload (pc2 := 83) dX11_hourBest_81 rfl rfl ?_
      refine go_ishl (pc2 := 84) dX11_hourBest_83 rfl ?_
      refine go_ior (pc2 := 85) dX11_hourBest_84 rfl ?_
      refine go_istore_n (pc2 := 86) (ls2 := [(0, .ref 113), (1, .int x1), (2, .int (x2 ||| ((1 : Int32) <<< (x5 &&& 31)))), (3, .int x3), (4, .int x4), (5, .int x5), (6, .int x6), (7, .int x7)]) dX11_hourBest_85 rfl rfl rfl rfl rfl rfl ?_
      refine go_iload_n (pc2 := 87) dX11_hourBest_86 rfl rfl rfl ?_
      refine go_iload (pc2 := 89) dX11_hourBest_87 rfl rfl ?_
      refine go_if_ge (pc2 := 92) (tgt := 99) dX11_hourBest_89 rfl (by decide) (fun c => ?_) (fun c => ?_)
      · have k := k.1 c
        refine go_iconst (pc2 := 100) (v := (0 : Int32)) dX11_hourBest_99 rfl (by decide) ?_
        exact Go.pick [0, 1, 2, 4, 5, 6] rfl k
      · have k := k.2 c
        refine go_iconst (pc2 := 93) (v := (1 : Int32)) dX11_hourBest_92 rfl (by decide) ?_
        refine go_iload (pc2 := 95) dX11_hourBest_93 rfl rfl ?_
        refine go_ishl (pc2 := 96) dX11_hourBest_95 rfl ?_
        refine go_goto (tgt := 100) dX11_hourBest_96 (by decide) ?_
        exact Go.pick [0, 1, 2, 4, 5, 6] rfl k
  · have k := k.2 c
    refine go_iload (pc2 := 42) dX11_hourBest_40 rfl rfl ?_
    refine go_aload_n (pc2 := 43) dX11_hourBest_42 rfl rfl rfl ?_
    refine gf_1069 (pc2 := 46) rfl dX11_hourBest_43 rfl c_113 (fvs r_113_13) ?_
    refine go_iload (pc2 := 48) dX11_hourBest_46 rfl rfl ?_
    obtain ⟨y7, k⟩ := k
    refine go_iaload (pc2 := 49) (j := (x5).toNatClampNeg) dX11_hourBest_48 rfl c_123 y7 rfl ?_
    refine go_iload (pc2 := 51) dX11_hourBest_49 rfl rfl ?_
    obtain ⟨Q8, hC9, k⟩ := k
    refine gcS_I (pc2 := 54) (dC := 0) (As := [.int (h.1 123 (x5).toNatClampNeg), .int x7]) (st := [.int x6]) rfl dX11_hourBest_51 rfl w_1278 ok_X11_has w_1279 rfl (by decide) (Nat.le_of_ble_eq_true rfl) hC9 (fun v10 h11 hq12 => ?_)
    have k := k v10 h11 hq12
    obtain ⟨Q13, hC14, k⟩ := k
    refine gcS_I (pc2 := 57) (dC := 0) (As := [.int x6, .int v10]) (st := []) rfl dX11_hourBest_54 rfl w_1285 ok_X11_goesOn w_1286 rfl (by decide) (Nat.le_of_ble_eq_true rfl) hC14 (fun v15 h16 hq17 => ?_)
    have k := k v15 h16 hq17
    refine go_istore (pc2 := 59) (ls2 := [(0, .ref 113), (1, .int x1), (2, .int x2), (3, .int x3), (4, .int x4), (5, .int x5), (6, .int v15), (7, .int x7)]) dX11_hourBest_57 rfl rfl rfl rfl rfl ?_
    refine go_iinc (pc2 := 62) (ls2 := [(0, .ref 113), (1, .int x1), (2, .int x2), (3, .int x3), (4, .int x4), (5, .int x5), (6, .int v15), (7, .int (x7 + 1))]) (v := (x7 + 1)) dX11_hourBest_59 rfl rfl rfl rfl rfl rfl rfl ?_
    refine go_goto (tgt := 34) dX11_hourBest_62 (by decide) ?_
    exact k
theorem b_X11_hourBest_125 {x1 : Int32} {x2 : Int32} {x3 : Int32} {x4 : Int32} {x5 : Int32} {h : Hp} {Q : Int32 → Hp → Prop}  (k : GoI 5 mX11_hourBest 10 [(0, .ref 113), (1, .int x1), (2, .int x2), (3, .int x3), (4, .int x4), (5, .int (x5 + 1))] [] h Q) : GoI 5 mX11_hourBest 125 [(0, .ref 113), (1, .int x1), (2, .int x2), (3, .int x3), (4, .int x4), (5, .int x5)] [] h Q := by
  refine go_iinc (pc2 := 128) (ls2 := [(0, .ref 113), (1, .int x1), (2, .int x2), (3, .int x3), (4, .int x4), (5, .int (x5 + 1))]) (v := (x5 + 1)) dX11_hourBest_125 rfl rfl rfl rfl rfl rfl rfl ?_
  refine go_goto (tgt := 10) dX11_hourBest_128 (by decide) ?_
  exact k
theorem b_X11_hourBest_100 {x1 : Int32} {x2 : Int32} {x4 : Int32} {x5 : Int32} {x6 : Int32} {s0 : Int32} {s1 : Int32} {h : Hp} {Q : Int32 → Hp → Prop}  (k : ((0 ≤ x6 → GoI 5 mX11_hourBest 122 [(0, .ref 113), (1, .int x1), (2, .int x2), (3, .int (s0 ||| s1)), (5, .int x5)] [.int (0 : Int32), .int x4] h Q) ∧ (¬ (0 ≤ x6) → (∃ Q1, CtI 1 mX11_startsOf [.ref 113, .int x5, .int (-x6)] h Q1 ∧ ∀ (v3 : Int32) (h4 : Hp), Q1 v3 h4 → GoI 5 mX11_hourBest 122 [(0, .ref 113), (1, .int x1), (2, .int x2), (3, .int (s0 ||| s1)), (5, .int x5)] [.int v3, .int x4] h4 Q)))) : GoI 5 mX11_hourBest 100 [(0, .ref 113), (1, .int x1), (2, .int x2), (4, .int x4), (5, .int x5), (6, .int x6)] [.int s1, .int s0] h Q := by
  refine go_ior (pc2 := 101) dX11_hourBest_100 rfl ?_
  refine go_istore_n (pc2 := 102) (ls2 := [(0, .ref 113), (1, .int x1), (2, .int x2), (3, .int (s0 ||| s1)), (4, .int x4), (5, .int x5), (6, .int x6)]) dX11_hourBest_101 rfl rfl rfl rfl rfl rfl ?_
  refine go_iload (pc2 := 104) dX11_hourBest_102 rfl rfl ?_
  refine go_iload (pc2 := 106) dX11_hourBest_104 rfl rfl ?_
  refine go_if_ge (pc2 := 109) (tgt := 121) dX11_hourBest_106 rfl (by decide) (fun c => ?_) (fun c => ?_)
  · have k := k.1 c
    refine go_iconst (pc2 := 122) (v := (0 : Int32)) dX11_hourBest_121 rfl (by decide) ?_
    exact Go.pick [0, 1, 2, 3, 5] rfl k
  · have k := k.2 c
    refine go_aload_n (pc2 := 110) dX11_hourBest_109 rfl rfl rfl ?_
    refine go_iload (pc2 := 112) dX11_hourBest_110 rfl rfl ?_
    refine go_iload (pc2 := 114) dX11_hourBest_112 rfl rfl ?_
    refine go_ineg (pc2 := 115) dX11_hourBest_114 rfl ?_
    obtain ⟨Q1, hC2, k⟩ := k
    refine gcV_I (pc2 := 118) (dC := 1) (As := [.int x5, .int (-x6)]) (st := [.int x4]) rfl dX11_hourBest_115 rfl w_1263 ok_X11_startsOf vi_X11_startsOf c_113 (by decide) rfl rfl rfl (by decide) (Nat.le_of_ble_eq_true rfl) hC2 (fun v3 h4 hq5 => ?_)
    have k := k v3 h4 hq5
    refine go_goto (tgt := 122) dX11_hourBest_118 (by decide) ?_
    exact Go.pick [0, 1, 2, 3, 5] rfl k
theorem b_X11_hourBest_122 {x1 : Int32} {x2 : Int32} {x3 : Int32} {x5 : Int32} {s0 : Int32} {s1 : Int32} {h : Hp} {Q : Int32 → Hp → Prop}  (k : GoI 5 mX11_hourBest 125 [(0, .ref 113), (1, .int x1), (2, .int x2), (3, .int x3), (4, .int (s0 + s1)), (5, .int x5)] [] h Q) : GoI 5 mX11_hourBest 122 [(0, .ref 113), (1, .int x1), (2, .int x2), (3, .int x3), (5, .int x5)] [.int s1, .int s0] h Q := by
  refine go_iadd (pc2 := 123) dX11_hourBest_122 rfl ?_
  refine go_istore (pc2 := 125) (ls2 := [(0, .ref 113), (1, .int x1), (2, .int x2), (3, .int x3), (4, .int (s0 + s1)), (5, .int x5)]) dX11_hourBest_123 rfl rfl rfl rfl rfl ?_
  exact k
theorem e_X11_cost {x1 : Int32} {h : Hp} {Q : Int32 → Hp → Prop}  (k : (∃ Q1, CtI 1 mX11_isHour [.ref 113, .int x1] h Q1 ∧ ∀ (v3 : Int32) (h4 : Hp), Q1 v3 h4 → ((¬ v3 = 0 → (∃ Q6, CtI 7 mX11_bests [.ref 113] h4 Q6 ∧ ∀ (v8 : Int32) (h9 : Hp), Q6 v8 h9 → ((¬ v8 = (-9 : Int32) → (∃ Q11, CtI 5 mX11_hourBest [.ref 113, .int x1] h9 Q11 ∧ ∀ (v13 : Int32) (h14 : Hp), Q11 v13 h14 → Q v13 h14)) ∧ (v8 = (-9 : Int32) → Q (-9 : Int32) h9)))) ∧ (v3 = 0 → (∃ Q16, CtI 0 mX11_no [.ref 113, .int (-1 : Int32)] h4 Q16 ∧ ∀ (v18 : Int32) (h19 : Hp), Q16 v18 h19 → Q v18 h19))))) : CtI 8 mX11_cost [.ref 113, .int x1] h Q := by
  refine Ct.of (by decide +kernel) (Nat.le_of_ble_eq_true rfl) ?_
  show GoI 8 mX11_cost 0 [(0, .ref 113), (1, .int x1)] [] h Q
  refine go_aload_n (pc2 := 1) dX11_cost_0 rfl rfl rfl ?_
  refine go_iload_n (pc2 := 2) dX11_cost_1 rfl rfl rfl ?_
  obtain ⟨Q1, hC2, k⟩ := k
  refine gcV_I (pc2 := 5) (dC := 1) (As := [.int x1]) (st := []) rfl dX11_cost_2 rfl w_1173 ok_X11_isHour vi_X11_isHour c_113 (by decide) rfl rfl rfl (by decide) (Nat.le_of_ble_eq_true rfl) hC2 (fun v3 h4 hq5 => ?_)
  have k := k v3 h4 hq5
  refine go_if_ne (pc2 := 8) (tgt := 14) dX11_cost_5 rfl (by decide) (fun c => ?_) (fun c => ?_)
  · have k := k.1 c
    refine go_aload_n (pc2 := 15) dX11_cost_14 rfl rfl rfl ?_
    obtain ⟨Q6, hC7, k⟩ := k
    refine gcV_I (pc2 := 18) (dC := 7) (As := []) (st := []) rfl dX11_cost_15 rfl w_1329 ok_X11_bests vi_X11_bests c_113 (by decide) rfl rfl rfl (by decide) (Nat.le_of_ble_eq_true rfl) hC7 (fun v8 h9 hq10 => ?_)
    have k := k v8 h9 hq10
    refine go_bipush (pc2 := 20) (v := (-9 : Int32)) dX11_cost_18 rfl (by decide) ?_
    refine go_icmp_ne (pc2 := 23) (tgt := 28) dX11_cost_20 rfl (by decide) (fun c => ?_) (fun c => ?_)
    · have k := k.1 c
      refine go_aload_n (pc2 := 29) dX11_cost_28 rfl rfl rfl ?_
      refine go_iload_n (pc2 := 30) dX11_cost_29 rfl rfl rfl ?_
      obtain ⟨Q11, hC12, k⟩ := k
      refine gcV_I (pc2 := 33) (dC := 5) (As := [.int x1]) (st := []) rfl dX11_cost_30 rfl w_1357 ok_X11_hourBest vi_X11_hourBest c_113 (by decide) rfl rfl rfl (by decide) (Nat.le_of_ble_eq_true rfl) hC12 (fun v13 h14 hq15 => ?_)
      have k := k v13 h14 hq15
      exact go_iret dX11_cost_33 ⟨_, rfl, rfl⟩ ⟨rfl, _, rfl, k⟩
    · have k := k.2 c
      refine go_bipush (pc2 := 25) (v := (-9 : Int32)) dX11_cost_23 rfl (by decide) ?_
      refine go_goto (tgt := 33) dX11_cost_25 (by decide) ?_
      exact go_iret dX11_cost_33 ⟨_, rfl, rfl⟩ ⟨rfl, _, rfl, k⟩
  · have k := k.2 c
    refine go_aload_n (pc2 := 9) dX11_cost_8 rfl rfl rfl ?_
    refine go_iconst (pc2 := 10) (v := (-1 : Int32)) dX11_cost_9 rfl (by decide) ?_
    obtain ⟨Q16, hC17, k⟩ := k
    refine gcV_I (pc2 := 13) (dC := 0) (As := [.int (-1 : Int32)]) (st := []) rfl dX11_cost_10 rfl w_1161 ok_X11_no vi_X11_no c_113 (by decide) rfl rfl rfl (by decide) (Nat.le_of_ble_eq_true rfl) hC17 (fun v18 h19 hq20 => ?_)
    have k := k v18 h19 hq20
    exact go_iret dX11_cost_13 ⟨_, rfl, rfl⟩ ⟨rfl, _, rfl, k⟩
theorem e_X11_margin {x1 : Int32} {h : Hp} {Q : Int32 → Hp → Prop}  (k : (∃ Q1, CtI 1 mX11_isHour [.ref 113, .int x1] h Q1 ∧ ∀ (v3 : Int32) (h4 : Hp), Q1 v3 h4 → ((¬ v3 = 0 → (∃ Q6, CtI 7 mX11_bests [.ref 113] h4 Q6 ∧ ∀ (v8 : Int32) (h9 : Hp), Q6 v8 h9 → (vp_in ((4 : Int32) + x1) 49 ∧ (vp_in ((4 : Int32) + x1) 49 ∧ (∀ g13 : Hp, g13 = (ui h9 114 (((4 : Int32) + x1)).toNatClampNeg ((h9.1 114 (((4 : Int32) + x1)).toNatClampNeg) + (1 : Int32))) → (∃ Q14, CtI 7 mX11_bests [.ref 113] g13 Q14 ∧ ∀ (v16 : Int32) (h17 : Hp), Q14 v16 h17 → (vp_in ((4 : Int32) + x1) 49 ∧ (vp_in ((4 : Int32) + x1) 49 ∧ (∀ g21 : Hp, g21 = (ui h17 114 (((4 : Int32) + x1)).toNatClampNeg ((h17.1 114 (((4 : Int32) + x1)).toNatClampNeg) - (1 : Int32))) → ((v8 = (-9 : Int32) → Q (-99999 : Int32) g21) ∧ (¬ v8 = (-9 : Int32) → ((¬ v16 = (-9 : Int32) → Q (v16 - v8) g21) ∧ (v16 = (-9 : Int32) → Q (-99999 : Int32) g21))))))))))))) ∧ (v3 = 0 → (∃ Q22, CtI 0 mX11_no [.ref 113, .int (-1 : Int32)] h4 Q22 ∧ ∀ (v24 : Int32) (h25 : Hp), Q22 v24 h25 → Q v24 h25))))) : CtI 8 mX11_margin [.ref 113, .int x1] h Q := by
  refine Ct.of (by decide +kernel) (Nat.le_of_ble_eq_true rfl) ?_
  show GoI 8 mX11_margin 0 [(0, .ref 113), (1, .int x1)] [] h Q
  refine go_aload_n (pc2 := 1) dX11_margin_0 rfl rfl rfl ?_
  refine go_iload_n (pc2 := 2) dX11_margin_1 rfl rfl rfl ?_
  obtain ⟨Q1, hC2, k⟩ := k
  refine gcV_I (pc2 := 5) (dC := 1) (As := [.int x1]) (st := []) rfl dX11_margin_2 rfl w_1173 ok_X11_isHour vi_X11_isHour c_113 (by decide) rfl rfl rfl (by decide) (Nat.le_of_ble_eq_true rfl) hC2 (fun v3 h4 hq5 => ?_)
  have k := k v3 h4 hq5
  refine go_if_ne (pc2 := 8) (tgt := 14) dX11_margin_5 rfl (by decide) (fun c => ?_) (fun c => ?_)
  · have k := k.1 c
    refine go_aload_n (pc2 := 15) dX11_margin_14 rfl rfl rfl ?_
    obtain ⟨Q6, hC7, k⟩ := k
    refine gcV_I (pc2 := 18) (dC := 7) (As := []) (st := []) rfl dX11_margin_15 rfl w_1329 ok_X11_bests vi_X11_bests c_113 (by decide) rfl rfl rfl (by decide) (Nat.le_of_ble_eq_true rfl) hC7 (fun v8 h9 hq10 => ?_)
    have k := k v8 h9 hq10
    refine go_istore_n (pc2 := 19) (ls2 := [(0, .ref 113), (1, .int x1), (2, .int v8)]) dX11_margin_18 rfl rfl rfl rfl rfl rfl ?_
    refine go_aload_n (pc2 := 20) dX11_margin_19 rfl rfl rfl ?_
    refine gf_1056 (pc2 := 23) rfl dX11_margin_20 rfl c_113 (fvs r_113_0) ?_
    refine go_iconst (pc2 := 24) (v := (4 : Int32)) dX11_margin_23 rfl (by decide) ?_
    refine go_iload_n (pc2 := 25) dX11_margin_24 rfl rfl rfl ?_
    refine go_iadd (pc2 := 26) dX11_margin_25 rfl ?_
    refine go_dup2 (pc2 := 27) dX11_margin_26 rfl rfl rfl ?_
    obtain ⟨y11, k⟩ := k
    refine go_iaload (pc2 := 28) (j := (((4 : Int32) + x1)).toNatClampNeg) dX11_margin_27 rfl c_114 y11 rfl ?_
    refine go_iconst (pc2 := 29) (v := (1 : Int32)) dX11_margin_28 rfl (by decide) ?_
    refine go_iadd (pc2 := 30) dX11_margin_29 rfl ?_
    obtain ⟨y12, k⟩ := k
    refine go_iastore (pc2 := 31) (j := (((4 : Int32) + x1)).toNatClampNeg) dX11_margin_30 rfl c_114 y12 rfl ?_
    obtain ⟨g13, eg13⟩ : ∃ y : Hp, y = (ui h9 114 (((4 : Int32) + x1)).toNatClampNeg ((h9.1 114 (((4 : Int32) + x1)).toNatClampNeg) + (1 : Int32))) := ⟨_, rfl⟩
    rw [← eg13]
    have k := k g13 eg13
    refine go_aload_n (pc2 := 32) dX11_margin_31 rfl rfl rfl ?_
    obtain ⟨Q14, hC15, k⟩ := k
    refine gcV_I (pc2 := 35) (dC := 7) (As := []) (st := []) rfl dX11_margin_32 rfl w_1329 ok_X11_bests vi_X11_bests c_113 (by decide) rfl rfl rfl (by decide) (Nat.le_of_ble_eq_true rfl) hC15 (fun v16 h17 hq18 => ?_)
    have k := k v16 h17 hq18
    refine go_istore_n (pc2 := 36) (ls2 := [(0, .ref 113), (1, .int x1), (2, .int v8), (3, .int v16)]) dX11_margin_35 rfl rfl rfl rfl rfl rfl ?_
    refine go_aload_n (pc2 := 37) dX11_margin_36 rfl rfl rfl ?_
    refine gf_1056 (pc2 := 40) rfl dX11_margin_37 rfl c_113 (fvs r_113_0) ?_
    refine go_iconst (pc2 := 41) (v := (4 : Int32)) dX11_margin_40 rfl (by decide) ?_
    refine go_iload_n (pc2 := 42) dX11_margin_41 rfl rfl rfl ?_
    refine go_iadd (pc2 := 43) dX11_margin_42 rfl ?_
    refine go_dup2 (pc2 := 44) dX11_margin_43 rfl rfl rfl ?_
    obtain ⟨y19, k⟩ := k
    refine go_iaload (pc2 := 45) (j := (((4 : Int32) + x1)).toNatClampNeg) dX11_margin_44 rfl c_114 y19 rfl ?_
    refine go_iconst (pc2 := 46) (v := (1 : Int32)) dX11_margin_45 rfl (by decide) ?_
    refine go_isub (pc2 := 47) dX11_margin_46 rfl ?_
    obtain ⟨y20, k⟩ := k
    refine go_iastore (pc2 := 48) (j := (((4 : Int32) + x1)).toNatClampNeg) dX11_margin_47 rfl c_114 y20 rfl ?_
    obtain ⟨g21, eg21⟩ : ∃ y : Hp, y = (ui h17 114 (((4 : Int32) + x1)).toNatClampNeg ((h17.1 114 (((4 : Int32) + x1)).toNatClampNeg) - (1 : Int32))) := ⟨_, rfl⟩
    rw [← eg21]
    have k := k g21 eg21
    refine go_iload_n (pc2 := 49) dX11_margin_48 rfl rfl rfl ?_
    refine go_bipush (pc2 := 51) (v := (-9 : Int32)) dX11_margin_49 rfl (by decide) ?_
    refine go_icmp_eq (pc2 := 54) (tgt := 60) dX11_margin_51 rfl (by decide) (fun c => ?_) (fun c => ?_)
    · have k := k.1 c
      refine go_ldc (pc2 := 62) dX11_margin_60 rfl rfl w_1365 ?_
      refine go_goto (tgt := 68) dX11_margin_62 (by decide) ?_
      exact go_iret dX11_margin_68 ⟨_, rfl, rfl⟩ ⟨rfl, _, rfl, k⟩
    · have k := k.2 c
      refine go_iload_n (pc2 := 55) dX11_margin_54 rfl rfl rfl ?_
      refine go_bipush (pc2 := 57) (v := (-9 : Int32)) dX11_margin_55 rfl (by decide) ?_
      refine go_icmp_ne (pc2 := 60) (tgt := 65) dX11_margin_57 rfl (by decide) (fun c => ?_) (fun c => ?_)
      · have k := k.1 c
        refine go_iload_n (pc2 := 66) dX11_margin_65 rfl rfl rfl ?_
        refine go_iload_n (pc2 := 67) dX11_margin_66 rfl rfl rfl ?_
        refine go_isub (pc2 := 68) dX11_margin_67 rfl ?_
        exact go_iret dX11_margin_68 ⟨_, rfl, rfl⟩ ⟨rfl, _, rfl, k⟩
      · have k := k.2 c
        refine go_ldc (pc2 := 62) dX11_margin_60 rfl rfl w_1365 ?_
        refine go_goto (tgt := 68) dX11_margin_62 (by decide) ?_
        exact go_iret dX11_margin_68 ⟨_, rfl, rfl⟩ ⟨rfl, _, rfl, k⟩
  · have k := k.2 c
    refine go_aload_n (pc2 := 9) dX11_margin_8 rfl rfl rfl ?_
    refine go_iconst (pc2 := 10) (v := (-1 : Int32)) dX11_margin_9 rfl (by decide) ?_
    obtain ⟨Q22, hC23, k⟩ := k
    refine gcV_I (pc2 := 13) (dC := 0) (As := [.int (-1 : Int32)]) (st := []) rfl dX11_margin_10 rfl w_1161 ok_X11_no vi_X11_no c_113 (by decide) rfl rfl rfl (by decide) (Nat.le_of_ble_eq_true rfl) hC23 (fun v24 h25 hq26 => ?_)
    have k := k v24 h25 hq26
    exact go_iret dX11_margin_13 ⟨_, rfl, rfl⟩ ⟨rfl, _, rfl, k⟩
theorem e_X11_worth {x1 : Int32} {h : Hp} {Q : Int32 → Hp → Prop}  (k : (∃ Q1, CtI 1 mX11_isPlant [.ref 113, .int x1] h Q1 ∧ ∀ (v3 : Int32) (h4 : Hp), Q1 v3 h4 → ((¬ v3 = 0 → (∃ Q6, CtI 7 mX11_bests [.ref 113] h4 Q6 ∧ ∀ (v8 : Int32) (h9 : Hp), Q6 v8 h9 → (∀ g11 : Hp, g11 = (ui h9 113 8 ((1 : Int32) <<< (x1 &&& 31))) → (∃ Q12, CtI 7 mX11_bests [.ref 113] g11 Q12 ∧ ∀ (v14 : Int32) (h15 : Hp), Q12 v14 h15 → (∀ g17 : Hp, g17 = (ui h15 113 8 (0 : Int32)) → ((v8 = (-9 : Int32) → Q (-99999 : Int32) g17) ∧ (¬ v8 = (-9 : Int32) → ((¬ v14 = (-9 : Int32) → Q (v14 - v8) g17) ∧ (v14 = (-9 : Int32) → Q (-99999 : Int32) g17))))))))) ∧ (v3 = 0 → (∃ Q18, CtI 0 mX11_no [.ref 113, .int (-1 : Int32)] h4 Q18 ∧ ∀ (v20 : Int32) (h21 : Hp), Q18 v20 h21 → Q v20 h21))))) : CtI 8 mX11_worth [.ref 113, .int x1] h Q := by
  refine Ct.of (by decide +kernel) (Nat.le_of_ble_eq_true rfl) ?_
  show GoI 8 mX11_worth 0 [(0, .ref 113), (1, .int x1)] [] h Q
  refine go_aload_n (pc2 := 1) dX11_worth_0 rfl rfl rfl ?_
  refine go_iload_n (pc2 := 2) dX11_worth_1 rfl rfl rfl ?_
  obtain ⟨Q1, hC2, k⟩ := k
  refine gcV_I (pc2 := 5) (dC := 1) (As := [.int x1]) (st := []) rfl dX11_worth_2 rfl w_1208 ok_X11_isPlant vi_X11_isPlant c_113 (by decide) rfl rfl rfl (by decide) (Nat.le_of_ble_eq_true rfl) hC2 (fun v3 h4 hq5 => ?_)
  have k := k v3 h4 hq5
  refine go_if_ne (pc2 := 8) (tgt := 14) dX11_worth_5 rfl (by decide) (fun c => ?_) (fun c => ?_)
  · have k := k.1 c
    refine go_aload_n (pc2 := 15) dX11_worth_14 rfl rfl rfl ?_
    obtain ⟨Q6, hC7, k⟩ := k
    refine gcV_I (pc2 := 18) (dC := 7) (As := []) (st := []) rfl dX11_worth_15 rfl w_1329 ok_X11_bests vi_X11_bests c_113 (by decide) rfl rfl rfl (by decide) (Nat.le_of_ble_eq_true rfl) hC7 (fun v8 h9 hq10 => ?_)
    have k := k v8 h9 hq10
    refine go_istore_n (pc2 := 19) (ls2 := [(0, .ref 113), (1, .int x1), (2, .int v8)]) dX11_worth_18 rfl rfl rfl rfl rfl rfl ?_
    refine go_aload_n (pc2 := 20) dX11_worth_19 rfl rfl rfl ?_
    refine go_iconst (pc2 := 21) (v := (1 : Int32)) dX11_worth_20 rfl (by decide) ?_
    refine go_iload_n (pc2 := 22) dX11_worth_21 rfl rfl rfl ?_
    refine go_ishl (pc2 := 23) dX11_worth_22 rfl ?_
    refine pf_1064 (pc2 := 26) rfl dX11_worth_23 rfl c_113 ?_
    obtain ⟨g11, eg11⟩ : ∃ y : Hp, y = (ui h9 113 8 ((1 : Int32) <<< (x1 &&& 31))) := ⟨_, rfl⟩
    rw [← eg11]
    have k := k g11 eg11
    refine go_aload_n (pc2 := 27) dX11_worth_26 rfl rfl rfl ?_
    obtain ⟨Q12, hC13, k⟩ := k
    refine gcV_I (pc2 := 30) (dC := 7) (As := []) (st := []) rfl dX11_worth_27 rfl w_1329 ok_X11_bests vi_X11_bests c_113 (by decide) rfl rfl rfl (by decide) (Nat.le_of_ble_eq_true rfl) hC13 (fun v14 h15 hq16 => ?_)
    have k := k v14 h15 hq16
    refine go_istore_n (pc2 := 31) (ls2 := [(0, .ref 113), (1, .int x1), (2, .int v8), (3, .int v14)]) dX11_worth_30 rfl rfl rfl rfl rfl rfl ?_
    refine go_aload_n (pc2 := 32) dX11_worth_31 rfl rfl rfl ?_
    refine go_iconst (pc2 := 33) (v := (0 : Int32)) dX11_worth_32 rfl (by decide) ?_
    refine pf_1064 (pc2 := 36) rfl dX11_worth_33 rfl c_113 ?_
    obtain ⟨g17, eg17⟩ : ∃ y : Hp, y = (ui h15 113 8 (0 : Int32)) := ⟨_, rfl⟩
    rw [← eg17]
    have k := k g17 eg17
    refine go_iload_n (pc2 := 37) dX11_worth_36 rfl rfl rfl ?_
    refine go_bipush (pc2 := 39) (v := (-9 : Int32)) dX11_worth_37 rfl (by decide) ?_
    refine go_icmp_eq (pc2 := 42) (tgt := 48) dX11_worth_39 rfl (by decide) (fun c => ?_) (fun c => ?_)
    · have k := k.1 c
      refine go_ldc (pc2 := 50) dX11_worth_48 rfl rfl w_1365 ?_
      refine go_goto (tgt := 56) dX11_worth_50 (by decide) ?_
      exact go_iret dX11_worth_56 ⟨_, rfl, rfl⟩ ⟨rfl, _, rfl, k⟩
    · have k := k.2 c
      refine go_iload_n (pc2 := 43) dX11_worth_42 rfl rfl rfl ?_
      refine go_bipush (pc2 := 45) (v := (-9 : Int32)) dX11_worth_43 rfl (by decide) ?_
      refine go_icmp_ne (pc2 := 48) (tgt := 53) dX11_worth_45 rfl (by decide) (fun c => ?_) (fun c => ?_)
      · have k := k.1 c
        refine go_iload_n (pc2 := 54) dX11_worth_53 rfl rfl rfl ?_
        refine go_iload_n (pc2 := 55) dX11_worth_54 rfl rfl rfl ?_
        refine go_isub (pc2 := 56) dX11_worth_55 rfl ?_
        exact go_iret dX11_worth_56 ⟨_, rfl, rfl⟩ ⟨rfl, _, rfl, k⟩
      · have k := k.2 c
        refine go_ldc (pc2 := 50) dX11_worth_48 rfl rfl w_1365 ?_
        refine go_goto (tgt := 56) dX11_worth_50 (by decide) ?_
        exact go_iret dX11_worth_56 ⟨_, rfl, rfl⟩ ⟨rfl, _, rfl, k⟩
  · have k := k.2 c
    refine go_aload_n (pc2 := 9) dX11_worth_8 rfl rfl rfl ?_
    refine go_iconst (pc2 := 10) (v := (-1 : Int32)) dX11_worth_9 rfl (by decide) ?_
    obtain ⟨Q18, hC19, k⟩ := k
    refine gcV_I (pc2 := 13) (dC := 0) (As := [.int (-1 : Int32)]) (st := []) rfl dX11_worth_10 rfl w_1161 ok_X11_no vi_X11_no c_113 (by decide) rfl rfl rfl (by decide) (Nat.le_of_ble_eq_true rfl) hC19 (fun v20 h21 hq22 => ?_)
    have k := k v20 h21 hq22
    exact go_iret dX11_worth_13 ⟨_, rfl, rfl⟩ ⟨rfl, _, rfl, k⟩
theorem e_X11_isBestBy {x1 : Int32} {h : Hp} {Q : Int32 → Hp → Prop}  (k : GoI 8 mX11_isBestBy 2 [(0, .ref 113), (1, .int x1), (2, .int (0 : Int32))] [] h Q) : CtI 8 mX11_isBestBy [.ref 113, .int x1] h Q := by
  refine Ct.of (by decide +kernel) (Nat.le_of_ble_eq_true rfl) ?_
  show GoI 8 mX11_isBestBy 0 [(0, .ref 113), (1, .int x1)] [] h Q
  refine go_iconst (pc2 := 1) (v := (0 : Int32)) dX11_isBestBy_0 rfl (by decide) ?_
  refine go_istore_n (pc2 := 2) (ls2 := [(0, .ref 113), (1, .int x1), (2, .int (0 : Int32))]) dX11_isBestBy_1 rfl rfl rfl rfl rfl rfl ?_
  exact k
theorem b_X11_isBestBy_2 {x1 : Int32} {x2 : Int32} {h : Hp} {Q : Int32 → Hp → Prop}  (k : (((h.1 114 0) ≤ x2 → (∃ Q1, CtI 7 mX11_bests [.ref 113] h Q1 ∧ ∀ (v3 : Int32) (h4 : Hp), Q1 v3 h4 → GoI 8 mX11_isBestBy 48 [(0, .ref 113), (1, .int x1), (2, .int (if v3 = (-9 : Int32) then (0 : Int32) else (1 : Int32))), (3, .int (0 : Int32))] [] h4 Q)) ∧ (¬ ((h.1 114 0) ≤ x2) → (vp_in ((9 : Int32) + x2) 49 ∧ (vp_in ((9 : Int32) + x2) 49 ∧ (∀ g8 : Hp, g8 = (ui h 114 (((9 : Int32) + x2)).toNatClampNeg ((h.1 114 (((9 : Int32) + x2)).toNatClampNeg) + x1)) → GoI 8 mX11_isBestBy 2 [(0, .ref 113), (1, .int x1), (2, .int (x2 + 1))] [] g8 Q)))))) : GoI 8 mX11_isBestBy 2 [(0, .ref 113), (1, .int x1), (2, .int x2)] [] h Q := by
  refine go_iload_n (pc2 := 3) dX11_isBestBy_2 rfl rfl rfl ?_
  refine go_aload_n (pc2 := 4) dX11_isBestBy_3 rfl rfl rfl ?_
  refine gf_1056 (pc2 := 7) rfl dX11_isBestBy_4 rfl c_113 (fvs r_113_0) ?_
  refine go_iconst (pc2 := 8) (v := (0 : Int32)) dX11_isBestBy_7 rfl (by decide) ?_
  refine go_iaload (pc2 := 9) (j := 0) dX11_isBestBy_8 rfl c_114 (vp_c rfl) rfl ?_
  refine go_icmp_ge (pc2 := 12) (tgt := 31) dX11_isBestBy_9 rfl (by decide) (fun c => ?_) (fun c => ?_)
  · have k := k.1 c
    refine go_aload_n (pc2 := 32) dX11_isBestBy_31 rfl rfl rfl ?_
    obtain ⟨Q1, hC2, k⟩ := k
    refine gcV_I (pc2 := 35) (dC := 7) (As := []) (st := []) rfl dX11_isBestBy_32 rfl w_1329 ok_X11_bests vi_X11_bests c_113 (by decide) rfl rfl rfl (by decide) (Nat.le_of_ble_eq_true rfl) hC2 (fun v3 h4 hq5 => ?_)
    have k := k v3 h4 hq5
    refine go_bipush (pc2 := 37) (v := (-9 : Int32)) dX11_isBestBy_35 rfl (by decide) ?_
    have J : GoI 8 mX11_isBestBy 45 [(0, .ref 113), (1, .int x1), (2, .int x2)] [.int (if v3 = (-9 : Int32) then (0 : Int32) else (1 : Int32))] h4 Q := by
      refine go_istore_n (pc2 := 46) (ls2 := [(0, .ref 113), (1, .int x1), (2, .int (if v3 = (-9 : Int32) then (0 : Int32) else (1 : Int32)))]) dX11_isBestBy_45 rfl rfl rfl rfl rfl rfl ?_
      refine go_iconst (pc2 := 47) (v := (0 : Int32)) dX11_isBestBy_46 rfl (by decide) ?_
      refine go_istore_n (pc2 := 48) (ls2 := [(0, .ref 113), (1, .int x1), (2, .int (if v3 = (-9 : Int32) then (0 : Int32) else (1 : Int32))), (3, .int (0 : Int32))]) dX11_isBestBy_47 rfl rfl rfl rfl rfl rfl ?_
      exact k
    refine go_icmp_eq (pc2 := 40) (tgt := 44) dX11_isBestBy_37 rfl (by decide) (fun c => ?_) (fun c => ?_)
    · rw [if_pos c] at J
      exact go_iconst (pc2 := 45) dX11_isBestBy_44 rfl (by decide) J
    · rw [if_neg c] at J
      exact go_iconst (pc2 := 41) dX11_isBestBy_40 rfl (by decide) (go_goto (tgt := 45) dX11_isBestBy_41 (by decide) J)
  · have k := k.2 c
    refine go_aload_n (pc2 := 13) dX11_isBestBy_12 rfl rfl rfl ?_
    refine gf_1056 (pc2 := 16) rfl dX11_isBestBy_13 rfl c_113 (fvs r_113_0) ?_
    refine go_bipush (pc2 := 18) (v := (9 : Int32)) dX11_isBestBy_16 rfl (by decide) ?_
    refine go_iload_n (pc2 := 19) dX11_isBestBy_18 rfl rfl rfl ?_
    refine go_iadd (pc2 := 20) dX11_isBestBy_19 rfl ?_
    refine go_dup2 (pc2 := 21) dX11_isBestBy_20 rfl rfl rfl ?_
    obtain ⟨y6, k⟩ := k
    refine go_iaload (pc2 := 22) (j := (((9 : Int32) + x2)).toNatClampNeg) dX11_isBestBy_21 rfl c_114 y6 rfl ?_
    refine go_iload_n (pc2 := 23) dX11_isBestBy_22 rfl rfl rfl ?_
    refine go_iadd (pc2 := 24) dX11_isBestBy_23 rfl ?_
    obtain ⟨y7, k⟩ := k
    refine go_iastore (pc2 := 25) (j := (((9 : Int32) + x2)).toNatClampNeg) dX11_isBestBy_24 rfl c_114 y7 rfl ?_
    obtain ⟨g8, eg8⟩ : ∃ y : Hp, y = (ui h 114 (((9 : Int32) + x2)).toNatClampNeg ((h.1 114 (((9 : Int32) + x2)).toNatClampNeg) + x1)) := ⟨_, rfl⟩
    rw [← eg8]
    have k := k g8 eg8
    refine go_iinc (pc2 := 28) (ls2 := [(0, .ref 113), (1, .int x1), (2, .int (x2 + 1))]) (v := (x2 + 1)) dX11_isBestBy_25 rfl rfl rfl rfl rfl rfl rfl ?_
    refine go_goto (tgt := 2) dX11_isBestBy_28 (by decide) ?_
    exact k
theorem b_X11_isBestBy_48 {x1 : Int32} {x2 : Int32} {x3 : Int32} {h : Hp} {Q : Int32 → Hp → Prop}  (k : (((h.1 114 0) ≤ x3 → (x2 &&& 1 = x2 ∧ Q x2 h)) ∧ (¬ ((h.1 114 0) ≤ x3) → (vp_in ((9 : Int32) + x3) 49 ∧ (vp_in ((9 : Int32) + x3) 49 ∧ (∀ g4 : Hp, g4 = (ui h 114 (((9 : Int32) + x3)).toNatClampNeg ((h.1 114 (((9 : Int32) + x3)).toNatClampNeg) - x1)) → GoI 8 mX11_isBestBy 48 [(0, .ref 113), (1, .int x1), (2, .int x2), (3, .int (x3 + 1))] [] g4 Q)))))) : GoI 8 mX11_isBestBy 48 [(0, .ref 113), (1, .int x1), (2, .int x2), (3, .int x3)] [] h Q := by
  refine go_iload_n (pc2 := 49) dX11_isBestBy_48 rfl rfl rfl ?_
  refine go_aload_n (pc2 := 50) dX11_isBestBy_49 rfl rfl rfl ?_
  refine gf_1056 (pc2 := 53) rfl dX11_isBestBy_50 rfl c_113 (fvs r_113_0) ?_
  refine go_iconst (pc2 := 54) (v := (0 : Int32)) dX11_isBestBy_53 rfl (by decide) ?_
  refine go_iaload (pc2 := 55) (j := 0) dX11_isBestBy_54 rfl c_114 (vp_c rfl) rfl ?_
  refine go_icmp_ge (pc2 := 58) (tgt := 77) dX11_isBestBy_55 rfl (by decide) (fun c => ?_) (fun c => ?_)
  · have k := k.1 c
    refine go_iload_n (pc2 := 78) dX11_isBestBy_77 rfl rfl rfl ?_
    obtain ⟨y1, k⟩ := k
    exact go_iret dX11_isBestBy_78 ⟨_, rfl, congrArg Value.int y1⟩ ⟨rfl, _, rfl, k⟩
  · have k := k.2 c
    refine go_aload_n (pc2 := 59) dX11_isBestBy_58 rfl rfl rfl ?_
    refine gf_1056 (pc2 := 62) rfl dX11_isBestBy_59 rfl c_113 (fvs r_113_0) ?_
    refine go_bipush (pc2 := 64) (v := (9 : Int32)) dX11_isBestBy_62 rfl (by decide) ?_
    refine go_iload_n (pc2 := 65) dX11_isBestBy_64 rfl rfl rfl ?_
    refine go_iadd (pc2 := 66) dX11_isBestBy_65 rfl ?_
    refine go_dup2 (pc2 := 67) dX11_isBestBy_66 rfl rfl rfl ?_
    obtain ⟨y2, k⟩ := k
    refine go_iaload (pc2 := 68) (j := (((9 : Int32) + x3)).toNatClampNeg) dX11_isBestBy_67 rfl c_114 y2 rfl ?_
    refine go_iload_n (pc2 := 69) dX11_isBestBy_68 rfl rfl rfl ?_
    refine go_isub (pc2 := 70) dX11_isBestBy_69 rfl ?_
    obtain ⟨y3, k⟩ := k
    refine go_iastore (pc2 := 71) (j := (((9 : Int32) + x3)).toNatClampNeg) dX11_isBestBy_70 rfl c_114 y3 rfl ?_
    obtain ⟨g4, eg4⟩ : ∃ y : Hp, y = (ui h 114 (((9 : Int32) + x3)).toNatClampNeg ((h.1 114 (((9 : Int32) + x3)).toNatClampNeg) - x1)) := ⟨_, rfl⟩
    rw [← eg4]
    have k := k g4 eg4
    refine go_iinc (pc2 := 74) (ls2 := [(0, .ref 113), (1, .int x1), (2, .int x2), (3, .int (x3 + 1))]) (v := (x3 + 1)) dX11_isBestBy_71 rfl rfl rfl rfl rfl rfl rfl ?_
    refine go_goto (tgt := 48) dX11_isBestBy_74 (by decide) ?_
    exact k
theorem e_X11_hand  {h : Hp} {Q : Int32 → Hp → Prop}  (k : (∃ Q1, CtI 8 mX11_isBestBy [.ref 113, .int (0 : Int32)] h Q1 ∧ ∀ (v3 : Int32) (h4 : Hp), Q1 v3 h4 → ((¬ v3 = 0 → GoI 9 mX11_hand 16 [(0, .ref 113), (1, .int (0 : Int32)), (2, .int (60 : Int32))] [] h4 Q) ∧ (v3 = 0 → Q (-9 : Int32) h4)))) : CtI 9 mX11_hand [.ref 113] h Q := by
  refine Ct.of (by decide +kernel) (Nat.le_of_ble_eq_true rfl) ?_
  show GoI 9 mX11_hand 0 [(0, .ref 113)] [] h Q
  refine go_aload_n (pc2 := 1) dX11_hand_0 rfl rfl rfl ?_
  refine go_iconst (pc2 := 2) (v := (0 : Int32)) dX11_hand_1 rfl (by decide) ?_
  obtain ⟨Q1, hC2, k⟩ := k
  refine gcV_I (pc2 := 5) (dC := 8) (As := [.int (0 : Int32)]) (st := []) rfl dX11_hand_2 rfl w_1374 ok_X11_isBestBy vi_X11_isBestBy c_113 (by decide) rfl rfl rfl (by decide) (Nat.le_of_ble_eq_true rfl) hC2 (fun v3 h4 hq5 => ?_)
  have k := k v3 h4 hq5
  refine go_if_ne (pc2 := 8) (tgt := 11) dX11_hand_5 rfl (by decide) (fun c => ?_) (fun c => ?_)
  · have k := k.1 c
    refine go_iconst (pc2 := 12) (v := (0 : Int32)) dX11_hand_11 rfl (by decide) ?_
    refine go_istore_n (pc2 := 13) (ls2 := [(0, .ref 113), (1, .int (0 : Int32))]) dX11_hand_12 rfl rfl rfl rfl rfl rfl ?_
    refine go_bipush (pc2 := 15) (v := (60 : Int32)) dX11_hand_13 rfl (by decide) ?_
    refine go_istore_n (pc2 := 16) (ls2 := [(0, .ref 113), (1, .int (0 : Int32)), (2, .int (60 : Int32))]) dX11_hand_15 rfl rfl rfl rfl rfl rfl ?_
    exact k
  · have k := k.2 c
    refine go_bipush (pc2 := 10) (v := (-9 : Int32)) dX11_hand_8 rfl (by decide) ?_
    exact go_iret dX11_hand_10 ⟨_, rfl, rfl⟩ ⟨rfl, _, rfl, k⟩
theorem b_X11_hand_16 {x1 : Int32} {x2 : Int32} {h : Hp} {Q : Int32 → Hp → Prop}  (k : ((x2 ≤ x1 → Q x1 h) ∧ (¬ (x2 ≤ x1) → (∃ Q1, CtI 8 mX11_isBestBy [.ref 113, .int (((x1 + x2) + (1 : Int32)) / (2 : Int32))] h Q1 ∧ ∀ (v3 : Int32) (h4 : Hp), Q1 v3 h4 → ((v3 = 0 → GoI 9 mX11_hand 46 [(0, .ref 113), (2, .int x2), (3, .int (((x1 + x2) + (1 : Int32)) / (2 : Int32))), (4, .int v3)] [.int x1] h4 Q) ∧ (¬ v3 = 0 → GoI 9 mX11_hand 46 [(0, .ref 113), (2, .int x2), (3, .int (((x1 + x2) + (1 : Int32)) / (2 : Int32))), (4, .int v3)] [.int (((x1 + x2) + (1 : Int32)) / (2 : Int32))] h4 Q)))))) : GoI 9 mX11_hand 16 [(0, .ref 113), (1, .int x1), (2, .int x2)] [] h Q := by
  refine go_iload_n (pc2 := 17) dX11_hand_16 rfl rfl rfl ?_
  refine go_iload_n (pc2 := 18) dX11_hand_17 rfl rfl rfl ?_
  refine go_icmp_ge (pc2 := 21) (tgt := 63) dX11_hand_18 rfl (by decide) (fun c => ?_) (fun c => ?_)
  · have k := k.1 c
    refine go_iload_n (pc2 := 64) dX11_hand_63 rfl rfl rfl ?_
    exact go_iret dX11_hand_64 ⟨_, rfl, rfl⟩ ⟨rfl, _, rfl, k⟩
  · have k := k.2 c
    refine go_iload_n (pc2 := 22) dX11_hand_21 rfl rfl rfl ?_
    refine go_iload_n (pc2 := 23) dX11_hand_22 rfl rfl rfl ?_
    refine go_iadd (pc2 := 24) dX11_hand_23 rfl ?_
    refine go_iconst (pc2 := 25) (v := (1 : Int32)) dX11_hand_24 rfl (by decide) ?_
    refine go_iadd (pc2 := 26) dX11_hand_25 rfl ?_
    refine go_iconst (pc2 := 27) (v := (2 : Int32)) dX11_hand_26 rfl (by decide) ?_
    refine go_idiv (pc2 := 28) dX11_hand_27 rfl (by decide) ?_
    refine go_istore_n (pc2 := 29) (ls2 := [(0, .ref 113), (1, .int x1), (2, .int x2), (3, .int (((x1 + x2) + (1 : Int32)) / (2 : Int32)))]) dX11_hand_28 rfl rfl rfl rfl rfl rfl ?_
    refine go_aload_n (pc2 := 30) dX11_hand_29 rfl rfl rfl ?_
    refine go_iload_n (pc2 := 31) dX11_hand_30 rfl rfl rfl ?_
    obtain ⟨Q1, hC2, k⟩ := k
    refine gcV_I (pc2 := 34) (dC := 8) (As := [.int (((x1 + x2) + (1 : Int32)) / (2 : Int32))]) (st := []) rfl dX11_hand_31 rfl w_1374 ok_X11_isBestBy vi_X11_isBestBy c_113 (by decide) rfl rfl rfl (by decide) (Nat.le_of_ble_eq_true rfl) hC2 (fun v3 h4 hq5 => ?_)
    have k := k v3 h4 hq5
    refine go_istore (pc2 := 36) (ls2 := [(0, .ref 113), (1, .int x1), (2, .int x2), (3, .int (((x1 + x2) + (1 : Int32)) / (2 : Int32))), (4, .int v3)]) dX11_hand_34 rfl rfl rfl rfl rfl ?_
    refine go_iload (pc2 := 38) dX11_hand_36 rfl rfl ?_
    refine go_if_eq (pc2 := 41) (tgt := 45) dX11_hand_38 rfl (by decide) (fun c => ?_) (fun c => ?_)
    · have k := k.1 c
      refine go_iload_n (pc2 := 46) dX11_hand_45 rfl rfl rfl ?_
      exact Go.pick [0, 2, 3, 4] rfl k
    · have k := k.2 c
      refine go_iload_n (pc2 := 42) dX11_hand_41 rfl rfl rfl ?_
      refine go_goto (tgt := 46) dX11_hand_42 (by decide) ?_
      exact Go.pick [0, 2, 3, 4] rfl k
theorem b_X11_hand_46 {x2 : Int32} {x3 : Int32} {x4 : Int32} {s0 : Int32} {h : Hp} {Q : Int32 → Hp → Prop}  (k : ((x4 = 0 → GoI 9 mX11_hand 59 [(0, .ref 113), (1, .int s0)] [.int (x3 - (1 : Int32))] h Q) ∧ (¬ x4 = 0 → GoI 9 mX11_hand 59 [(0, .ref 113), (1, .int s0)] [.int x2] h Q))) : GoI 9 mX11_hand 46 [(0, .ref 113), (2, .int x2), (3, .int x3), (4, .int x4)] [.int s0] h Q := by
  refine go_istore_n (pc2 := 47) (ls2 := [(0, .ref 113), (1, .int s0), (2, .int x2), (3, .int x3), (4, .int x4)]) dX11_hand_46 rfl rfl rfl rfl rfl rfl ?_
  refine go_iload (pc2 := 49) dX11_hand_47 rfl rfl ?_
  refine go_if_eq (pc2 := 52) (tgt := 56) dX11_hand_49 rfl (by decide) (fun c => ?_) (fun c => ?_)
  · have k := k.1 c
    refine go_iload_n (pc2 := 57) dX11_hand_56 rfl rfl rfl ?_
    refine go_iconst (pc2 := 58) (v := (1 : Int32)) dX11_hand_57 rfl (by decide) ?_
    refine go_isub (pc2 := 59) dX11_hand_58 rfl ?_
    exact Go.pick [0, 1] rfl k
  · have k := k.2 c
    refine go_iload_n (pc2 := 53) dX11_hand_52 rfl rfl rfl ?_
    refine go_goto (tgt := 59) dX11_hand_53 (by decide) ?_
    exact Go.pick [0, 1] rfl k
theorem b_X11_hand_59 {x1 : Int32} {s0 : Int32} {h : Hp} {Q : Int32 → Hp → Prop}  (k : GoI 9 mX11_hand 16 [(0, .ref 113), (1, .int x1), (2, .int s0)] [] h Q) : GoI 9 mX11_hand 59 [(0, .ref 113), (1, .int x1)] [.int s0] h Q := by
  refine go_istore_n (pc2 := 60) (ls2 := [(0, .ref 113), (1, .int x1), (2, .int s0)]) dX11_hand_59 rfl rfl rfl rfl rfl rfl ?_
  refine go_goto (tgt := 16) dX11_hand_60 (by decide) ?_
  exact k
theorem e_X11_lowest {x0 : Int64} {x2 : Int64} {x4 : Int32} {h : Hp} {Q : Int64 → Hp → Prop}  (k : GoL 0 mX11_lowest 6 [(0, .long x0), (2, .long x2), (4, .int x4), (5, .long x0), (7, .long x2)] [] h Q) : CtL 0 mX11_lowest [.long x0, .long x2, .int x4] h Q := by
  refine Ct.of (by decide +kernel) (Nat.le_of_ble_eq_true rfl) ?_
  show GoL 0 mX11_lowest 0 [(0, .long x0), (2, .long x2), (4, .int x4)] [] h Q
  refine go_lload_n (pc2 := 1) dX11_lowest_0 rfl rfl rfl ?_
  refine go_lstore (pc2 := 3) (ls2 := [(0, .long x0), (2, .long x2), (4, .int x4), (5, .long x0)]) dX11_lowest_1 rfl rfl rfl rfl rfl ?_
  refine go_lload_n (pc2 := 4) dX11_lowest_3 rfl rfl rfl ?_
  refine go_lstore (pc2 := 6) (ls2 := [(0, .long x0), (2, .long x2), (4, .int x4), (5, .long x0), (7, .long x2)]) dX11_lowest_4 rfl rfl rfl rfl rfl ?_
  exact k
theorem b_X11_lowest_6 {x0 : Int64} {x2 : Int64} {x4 : Int32} {x5 : Int64} {x7 : Int64} {h : Hp} {Q : Int64 → Hp → Prop}  (k : (((lg_cmp x7 (0 : Int64)) = 0 → ((¬ x4 = 0 → (¬ x5 = 0 ∧ Q (x2 / x5) h)) ∧ (x4 = 0 → (¬ x5 = 0 ∧ Q (x0 / x5) h)))) ∧ (¬ (lg_cmp x7 (0 : Int64)) = 0 → (¬ x7 = 0 ∧ GoL 0 mX11_lowest 6 [(0, .long x0), (2, .long x2), (4, .int x4), (5, .long x7), (7, .long (x5 - x5 / x7 * x7))] [] h Q)))) : GoL 0 mX11_lowest 6 [(0, .long x0), (2, .long x2), (4, .int x4), (5, .long x5), (7, .long x7)] [] h Q := by
  refine go_lload (pc2 := 8) dX11_lowest_6 rfl rfl ?_
  refine go_lconst (pc2 := 9) (v := (0 : Int64)) dX11_lowest_8 rfl (by decide) ?_
  refine go_lcmp (pc2 := 10) dX11_lowest_9 rfl ?_
  refine go_if_eq (pc2 := 13) (tgt := 31) dX11_lowest_10 rfl (by decide) (fun c => ?_) (fun c => ?_)
  · have k := k.1 c
    refine go_iload (pc2 := 33) dX11_lowest_31 rfl rfl ?_
    refine go_if_ne (pc2 := 36) (tgt := 40) dX11_lowest_33 rfl (by decide) (fun c => ?_) (fun c => ?_)
    · have k := k.1 c
      refine go_lload_n (pc2 := 41) dX11_lowest_40 rfl rfl rfl ?_
      refine go_lload (pc2 := 43) dX11_lowest_41 rfl rfl ?_
      obtain ⟨y1, k⟩ := k
      refine go_ldiv (pc2 := 44) dX11_lowest_43 rfl y1 ?_
      exact go_lret dX11_lowest_44 rfl ⟨rfl, _, rfl, k⟩
    · have k := k.2 c
      refine go_lload_n (pc2 := 37) dX11_lowest_36 rfl rfl rfl ?_
      refine go_goto (tgt := 41) dX11_lowest_37 (by decide) ?_
      refine go_lload (pc2 := 43) dX11_lowest_41 rfl rfl ?_
      obtain ⟨y2, k⟩ := k
      refine go_ldiv (pc2 := 44) dX11_lowest_43 rfl y2 ?_
      exact go_lret dX11_lowest_44 rfl ⟨rfl, _, rfl, k⟩
  · have k := k.2 c
    refine go_lload (pc2 := 15) dX11_lowest_13 rfl rfl ?_
    refine go_lload (pc2 := 17) dX11_lowest_15 rfl rfl ?_
    obtain ⟨y3, k⟩ := k
    refine go_lrem (pc2 := 18) dX11_lowest_17 rfl y3 ?_
    refine go_lstore (pc2 := 20) (ls2 := [(0, .long x0), (2, .long x2), (4, .int x4), (5, .long x5), (7, .long x7), (9, .long (x5 - x5 / x7 * x7))]) dX11_lowest_18 rfl rfl rfl rfl rfl ?_
    refine go_lload (pc2 := 22) dX11_lowest_20 rfl rfl ?_
    refine go_lstore (pc2 := 24) (ls2 := [(0, .long x0), (2, .long x2), (4, .int x4), (5, .long x7), (7, .long x7), (9, .long (x5 - x5 / x7 * x7))]) dX11_lowest_22 rfl rfl rfl rfl rfl ?_
    refine go_lload (pc2 := 26) dX11_lowest_24 rfl rfl ?_
    refine go_lstore (pc2 := 28) (ls2 := [(0, .long x0), (2, .long x2), (4, .int x4), (5, .long x7), (7, .long (x5 - x5 / x7 * x7)), (9, .long (x5 - x5 / x7 * x7))]) dX11_lowest_26 rfl rfl rfl rfl rfl ?_
    refine go_goto (tgt := 6) dX11_lowest_28 (by decide) ?_
    exact Go.pick [0, 1, 2, 3, 4] rfl k
theorem e_X11_likely {x1 : Int32} {x2 : Int32} {h : Hp} {Q : Int64 → Hp → Prop}  (k : (∃ Q1, CtI 0 mX11_wrongBy [.int x1, .int (2 : Int32), .int (20 : Int32)] h Q1 ∧ ∀ (v3 : Int32) (h4 : Hp), Q1 v3 h4 → ((¬ v3 = 0 → GoL 8 mX11_likely 25 [(0, .ref 113), (1, .int x1), (2, .int x2), (3, .int v3)] [] h4 Q) ∧ (v3 = 0 → (∃ Q6, CtI 0 mX11_isIn [.long (x2).toInt64, .long (0 : Int64), .long (1 : Int64)] h4 Q6 ∧ ∀ (v8 : Int32) (h9 : Hp), Q6 v8 h9 → ((¬ v8 = 0 → GoL 8 mX11_likely 25 [(0, .ref 113), (1, .int x1), (2, .int x2), (3, .int v3)] [] h9 Q) ∧ (v8 = 0 → GoL 8 mX11_likely 25 [(0, .ref 113), (1, .int x1), (2, .int x2), (3, .int (-2 : Int32))] [] h9 Q))))))) : CtL 8 mX11_likely [.ref 113, .int x1, .int x2] h Q := by
  refine Ct.of (by decide +kernel) (Nat.le_of_ble_eq_true rfl) ?_
  show GoL 8 mX11_likely 0 [(0, .ref 113), (1, .int x1), (2, .int x2)] [] h Q
  refine go_iload_n (pc2 := 1) dX11_likely_0 rfl rfl rfl ?_
  refine go_iconst (pc2 := 2) (v := (2 : Int32)) dX11_likely_1 rfl (by decide) ?_
  refine go_bipush (pc2 := 4) (v := (20 : Int32)) dX11_likely_2 rfl (by decide) ?_
  obtain ⟨Q1, hC2, k⟩ := k
  refine gcS_I (pc2 := 7) (dC := 0) (As := [.int x1, .int (2 : Int32), .int (20 : Int32)]) (st := []) rfl dX11_likely_4 rfl w_1158 ok_X11_wrongBy w_1159 rfl (by decide) (Nat.le_of_ble_eq_true rfl) hC2 (fun v3 h4 hq5 => ?_)
  have k := k v3 h4 hq5
  refine go_istore_n (pc2 := 8) (ls2 := [(0, .ref 113), (1, .int x1), (2, .int x2), (3, .int v3)]) dX11_likely_7 rfl rfl rfl rfl rfl rfl ?_
  refine go_iload_n (pc2 := 9) dX11_likely_8 rfl rfl rfl ?_
  refine go_if_ne (pc2 := 12) (tgt := 25) dX11_likely_9 rfl (by decide) (fun c => ?_) (fun c => ?_)
  · have k := k.1 c
    exact k
  · have k := k.2 c
    refine go_iload_n (pc2 := 13) dX11_likely_12 rfl rfl rfl ?_
    refine go_i2l (pc2 := 14) dX11_likely_13 rfl ?_
    refine go_lconst (pc2 := 15) (v := (0 : Int64)) dX11_likely_14 rfl (by decide) ?_
    refine go_lconst (pc2 := 16) (v := (1 : Int64)) dX11_likely_15 rfl (by decide) ?_
    obtain ⟨Q6, hC7, k⟩ := k
    refine gcS_I (pc2 := 19) (dC := 0) (As := [.long (x2).toInt64, .long (0 : Int64), .long (1 : Int64)]) (st := []) rfl dX11_likely_16 rfl w_1177 ok_X11_isIn w_1178 rfl (by decide) (Nat.le_of_ble_eq_true rfl) hC7 (fun v8 h9 hq10 => ?_)
    have k := k v8 h9 hq10
    refine go_if_ne (pc2 := 22) (tgt := 25) dX11_likely_19 rfl (by decide) (fun c => ?_) (fun c => ?_)
    · have k := k.1 c
      exact k
    · have k := k.2 c
      refine go_bipush (pc2 := 24) (v := (-2 : Int32)) dX11_likely_22 rfl (by decide) ?_
      refine go_istore_n (pc2 := 25) (ls2 := [(0, .ref 113), (1, .int x1), (2, .int x2), (3, .int (-2 : Int32))]) dX11_likely_24 rfl rfl rfl rfl rfl rfl ?_
      exact k
theorem b_X11_likely_25 {x1 : Int32} {x2 : Int32} {x3 : Int32} {h : Hp} {Q : Int64 → Hp → Prop}  (k : ((x3 = 0 → GoL 8 mX11_likely 44 [(0, .ref 113), (1, .int x1), (2, .int x2), (4, .long (0 : Int64)), (6, .long (1 : Int64)), (8, .int (0 : Int32))] [] h Q) ∧ (¬ x3 = 0 → (∃ Q1, CtL 1 mX11_noWide [.ref 113, .int x3] h Q1 ∧ ∀ (v3 : Int64) (h4 : Hp), Q1 v3 h4 → Q v3 h4)))) : GoL 8 mX11_likely 25 [(0, .ref 113), (1, .int x1), (2, .int x2), (3, .int x3)] [] h Q := by
  refine go_iload_n (pc2 := 26) dX11_likely_25 rfl rfl rfl ?_
  refine go_if_eq (pc2 := 29) (tgt := 35) dX11_likely_26 rfl (by decide) (fun c => ?_) (fun c => ?_)
  · have k := k.1 c
    refine go_lconst (pc2 := 36) (v := (0 : Int64)) dX11_likely_35 rfl (by decide) ?_
    refine go_lstore (pc2 := 38) (ls2 := [(0, .ref 113), (1, .int x1), (2, .int x2), (3, .int x3), (4, .long (0 : Int64))]) dX11_likely_36 rfl rfl rfl rfl rfl ?_
    refine go_lconst (pc2 := 39) (v := (1 : Int64)) dX11_likely_38 rfl (by decide) ?_
    refine go_lstore (pc2 := 41) (ls2 := [(0, .ref 113), (1, .int x1), (2, .int x2), (3, .int x3), (4, .long (0 : Int64)), (6, .long (1 : Int64))]) dX11_likely_39 rfl rfl rfl rfl rfl ?_
    refine go_iconst (pc2 := 42) (v := (0 : Int32)) dX11_likely_41 rfl (by decide) ?_
    refine go_istore (pc2 := 44) (ls2 := [(0, .ref 113), (1, .int x1), (2, .int x2), (3, .int x3), (4, .long (0 : Int64)), (6, .long (1 : Int64)), (8, .int (0 : Int32))]) dX11_likely_42 rfl rfl rfl rfl rfl ?_
    exact Go.pick [0, 1, 2, 4, 5, 6] rfl k
  · have k := k.2 c
    refine go_aload_n (pc2 := 30) dX11_likely_29 rfl rfl rfl ?_
    refine go_iload_n (pc2 := 31) dX11_likely_30 rfl rfl rfl ?_
    obtain ⟨Q1, hC2, k⟩ := k
    refine gcV_L (pc2 := 34) (dC := 1) (As := [.int x3]) (st := []) rfl dX11_likely_31 rfl w_1382 ok_X11_noWide vi_X11_noWide c_113 (by decide) rfl rfl rfl (by decide) (Nat.le_of_ble_eq_true rfl) hC2 (fun v3 h4 hq5 => ?_)
    have k := k v3 h4 hq5
    exact go_lret dX11_likely_34 rfl ⟨rfl, _, rfl, k⟩
theorem b_X11_likely_44 {x1 : Int32} {x2 : Int32} {x4 : Int64} {x6 : Int64} {x8 : Int32} {h : Hp} {Q : Int64 → Hp → Prop}  (k : (((h.1 114 3) ≤ x8 → GoL 8 mX11_likely 71 [(0, .ref 113), (1, .int x1), (2, .int x2), (4, .long x4), (6, .long x6), (8, .int (0 : Int32))] [] h Q) ∧ (¬ ((h.1 114 3) ≤ x8) → GoL 8 mX11_likely 44 [(0, .ref 113), (1, .int x1), (2, .int x2), (4, .long x4), (6, .long (x6 * (x1).toInt64)), (8, .int (x8 + 1))] [] h Q))) : GoL 8 mX11_likely 44 [(0, .ref 113), (1, .int x1), (2, .int x2), (4, .long x4), (6, .long x6), (8, .int x8)] [] h Q := by
  refine go_iload (pc2 := 46) dX11_likely_44 rfl rfl ?_
  refine go_aload_n (pc2 := 47) dX11_likely_46 rfl rfl rfl ?_
  refine gf_1056 (pc2 := 50) rfl dX11_likely_47 rfl c_113 (fvs r_113_0) ?_
  refine go_iconst (pc2 := 51) (v := (3 : Int32)) dX11_likely_50 rfl (by decide) ?_
  refine go_iaload (pc2 := 52) (j := 3) dX11_likely_51 rfl c_114 (vp_c rfl) rfl ?_
  refine go_icmp_ge (pc2 := 55) (tgt := 68) dX11_likely_52 rfl (by decide) (fun c => ?_) (fun c => ?_)
  · have k := k.1 c
    refine go_iconst (pc2 := 69) (v := (0 : Int32)) dX11_likely_68 rfl (by decide) ?_
    refine go_istore (pc2 := 71) (ls2 := [(0, .ref 113), (1, .int x1), (2, .int x2), (4, .long x4), (6, .long x6), (8, .int (0 : Int32))]) dX11_likely_69 rfl rfl rfl rfl rfl ?_
    exact k
  · have k := k.2 c
    refine go_lload (pc2 := 57) dX11_likely_55 rfl rfl ?_
    refine go_iload_n (pc2 := 58) dX11_likely_57 rfl rfl rfl ?_
    refine go_i2l (pc2 := 59) dX11_likely_58 rfl ?_
    refine go_lmul (pc2 := 60) dX11_likely_59 rfl ?_
    refine go_lstore (pc2 := 62) (ls2 := [(0, .ref 113), (1, .int x1), (2, .int x2), (4, .long x4), (6, .long (x6 * (x1).toInt64)), (8, .int x8)]) dX11_likely_60 rfl rfl rfl rfl rfl ?_
    refine go_iinc (pc2 := 65) (ls2 := [(0, .ref 113), (1, .int x1), (2, .int x2), (4, .long x4), (6, .long (x6 * (x1).toInt64)), (8, .int (x8 + 1))]) (v := (x8 + 1)) dX11_likely_62 rfl rfl rfl rfl rfl rfl rfl ?_
    refine go_goto (tgt := 44) dX11_likely_65 (by decide) ?_
    exact k
theorem b_X11_likely_71 {x1 : Int32} {x2 : Int32} {x4 : Int64} {x6 : Int64} {x8 : Int32} {h : Hp} {Q : Int64 → Hp → Prop}  (k : ((((1 : Int32) <<< ((h.1 114 3) &&& 31)) ≤ x8 → (∀ g1 : Hp, g1 = (ui h 113 8 (0 : Int32)) → (∃ Q2, CtL 0 mX11_lowest [.long x4, .long x6, .int x2] g1 Q2 ∧ ∀ (v4 : Int64) (h5 : Hp), Q2 v4 h5 → Q v4 h5))) ∧ (¬ (((1 : Int32) <<< ((h.1 114 3) &&& 31)) ≤ x8) → GoL 8 mX11_likely 90 [(0, .ref 113), (1, .int x1), (2, .int x2), (4, .long x4), (6, .long x6), (8, .int x8), (9, .long (1 : Int64)), (11, .int (0 : Int32))] [] h Q))) : GoL 8 mX11_likely 71 [(0, .ref 113), (1, .int x1), (2, .int x2), (4, .long x4), (6, .long x6), (8, .int x8)] [] h Q := by
  refine go_iload (pc2 := 73) dX11_likely_71 rfl rfl ?_
  refine go_iconst (pc2 := 74) (v := (1 : Int32)) dX11_likely_73 rfl (by decide) ?_
  refine go_aload_n (pc2 := 75) dX11_likely_74 rfl rfl rfl ?_
  refine gf_1056 (pc2 := 78) rfl dX11_likely_75 rfl c_113 (fvs r_113_0) ?_
  refine go_iconst (pc2 := 79) (v := (3 : Int32)) dX11_likely_78 rfl (by decide) ?_
  refine go_iaload (pc2 := 80) (j := 3) dX11_likely_79 rfl c_114 (vp_c rfl) rfl ?_
  refine go_ishl (pc2 := 81) dX11_likely_80 rfl ?_
  refine go_icmp_ge (pc2 := 84) (tgt := 162) dX11_likely_81 rfl (by decide) (fun c => ?_) (fun c => ?_)
  · have k := k.1 c
    refine go_aload_n (pc2 := 163) dX11_likely_162 rfl rfl rfl ?_
    refine go_iconst (pc2 := 164) (v := (0 : Int32)) dX11_likely_163 rfl (by decide) ?_
    refine pf_1064 (pc2 := 167) rfl dX11_likely_164 rfl c_113 ?_
    obtain ⟨g1, eg1⟩ : ∃ y : Hp, y = (ui h 113 8 (0 : Int32)) := ⟨_, rfl⟩
    rw [← eg1]
    have k := k g1 eg1
    refine go_lload (pc2 := 169) dX11_likely_167 rfl rfl ?_
    refine go_lload (pc2 := 171) dX11_likely_169 rfl rfl ?_
    refine go_iload_n (pc2 := 172) dX11_likely_171 rfl rfl rfl ?_
    obtain ⟨Q2, hC3, k⟩ := k
    refine gcS_L (pc2 := 175) (dC := 0) (As := [.long x4, .long x6, .int x2]) (st := []) rfl dX11_likely_172 rfl w_1387 ok_X11_lowest w_1388 rfl (by decide) (Nat.le_of_ble_eq_true rfl) hC3 (fun v4 h5 hq6 => ?_)
    have k := k v4 h5 hq6
    exact go_lret dX11_likely_175 rfl ⟨rfl, _, rfl, k⟩
  · have k := k.2 c
    refine go_lconst (pc2 := 85) (v := (1 : Int64)) dX11_likely_84 rfl (by decide) ?_
    refine go_lstore (pc2 := 87) (ls2 := [(0, .ref 113), (1, .int x1), (2, .int x2), (4, .long x4), (6, .long x6), (8, .int x8), (9, .long (1 : Int64))]) dX11_likely_85 rfl rfl rfl rfl rfl ?_
    refine go_iconst (pc2 := 88) (v := (0 : Int32)) dX11_likely_87 rfl (by decide) ?_
    refine go_istore (pc2 := 90) (ls2 := [(0, .ref 113), (1, .int x1), (2, .int x2), (4, .long x4), (6, .long x6), (8, .int x8), (9, .long (1 : Int64)), (11, .int (0 : Int32))]) dX11_likely_88 rfl rfl rfl rfl rfl ?_
    exact k
theorem b_X11_likely_90 {x1 : Int32} {x2 : Int32} {x4 : Int64} {x6 : Int64} {x8 : Int32} {x9 : Int64} {x11 : Int32} {h : Hp} {Q : Int64 → Hp → Prop}  (k : (((h.1 114 3) ≤ x11 → (∀ g1 : Hp, g1 = (ui h 113 8 x8) → (∃ Q2, CtI 7 mX11_bests [.ref 113] g1 Q2 ∧ ∀ (v4 : Int32) (h5 : Hp), Q2 v4 h5 → ((¬ v4 = (-9 : Int32) → GoL 8 mX11_likely 153 [(0, .ref 113), (1, .int x1), (2, .int x2), (6, .long x6), (8, .int x8)] [.long x9, .long x4] h5 Q) ∧ (v4 = (-9 : Int32) → GoL 8 mX11_likely 153 [(0, .ref 113), (1, .int x1), (2, .int x2), (6, .long x6), (8, .int x8)] [.long (0 : Int64), .long x4] h5 Q))))) ∧ (¬ ((h.1 114 3) ≤ x11) → (∃ Q7, CtI 0 mX11_has [.int x8, .int x11] h Q7 ∧ ∀ (v9 : Int32) (h10 : Hp), Q7 v9 h10 → ((v9 = 0 → GoL 8 mX11_likely 121 [(0, .ref 113), (1, .int x1), (2, .int x2), (4, .long x4), (6, .long x6), (8, .int x8), (11, .int x11)] [.long ((x1 - (1 : Int32))).toInt64, .long x9] h10 Q) ∧ (¬ v9 = 0 → GoL 8 mX11_likely 121 [(0, .ref 113), (1, .int x1), (2, .int x2), (4, .long x4), (6, .long x6), (8, .int x8), (11, .int x11)] [.long (1 : Int64), .long x9] h10 Q)))))) : GoL 8 mX11_likely 90 [(0, .ref 113), (1, .int x1), (2, .int x2), (4, .long x4), (6, .long x6), (8, .int x8), (9, .long x9), (11, .int x11)] [] h Q := by
  refine go_iload (pc2 := 92) dX11_likely_90 rfl rfl ?_
  refine go_aload_n (pc2 := 93) dX11_likely_92 rfl rfl rfl ?_
  refine gf_1056 (pc2 := 96) rfl dX11_likely_93 rfl c_113 (fvs r_113_0) ?_
  refine go_iconst (pc2 := 97) (v := (3 : Int32)) dX11_likely_96 rfl (by decide) ?_
  refine go_iaload (pc2 := 98) (j := 3) dX11_likely_97 rfl c_114 (vp_c rfl) rfl ?_
  refine go_icmp_ge (pc2 := 101) (tgt := 130) dX11_likely_98 rfl (by decide) (fun c => ?_) (fun c => ?_)
  · have k := k.1 c
    refine go_aload_n (pc2 := 131) dX11_likely_130 rfl rfl rfl ?_
    refine go_iload (pc2 := 133) dX11_likely_131 rfl rfl ?_
    refine pf_1064 (pc2 := 136) rfl dX11_likely_133 rfl c_113 ?_
    obtain ⟨g1, eg1⟩ : ∃ y : Hp, y = (ui h 113 8 x8) := ⟨_, rfl⟩
    rw [← eg1]
    have k := k g1 eg1
    refine go_lload (pc2 := 138) dX11_likely_136 rfl rfl ?_
    refine go_aload_n (pc2 := 139) dX11_likely_138 rfl rfl rfl ?_
    obtain ⟨Q2, hC3, k⟩ := k
    refine gcV_I (pc2 := 142) (dC := 7) (As := []) (st := [.long x4]) rfl dX11_likely_139 rfl w_1329 ok_X11_bests vi_X11_bests c_113 (by decide) rfl rfl rfl (by decide) (Nat.le_of_ble_eq_true rfl) hC3 (fun v4 h5 hq6 => ?_)
    have k := k v4 h5 hq6
    refine go_bipush (pc2 := 144) (v := (-9 : Int32)) dX11_likely_142 rfl (by decide) ?_
    refine go_icmp_ne (pc2 := 147) (tgt := 151) dX11_likely_144 rfl (by decide) (fun c => ?_) (fun c => ?_)
    · have k := k.1 c
      refine go_lload (pc2 := 153) dX11_likely_151 rfl rfl ?_
      exact Go.pick [0, 1, 2, 4, 5] rfl k
    · have k := k.2 c
      refine go_lconst (pc2 := 148) (v := (0 : Int64)) dX11_likely_147 rfl (by decide) ?_
      refine go_goto (tgt := 153) dX11_likely_148 (by decide) ?_
      exact Go.pick [0, 1, 2, 4, 5] rfl k
  · have k := k.2 c
    refine go_lload (pc2 := 103) dX11_likely_101 rfl rfl ?_
    refine go_iload (pc2 := 105) dX11_likely_103 rfl rfl ?_
    refine go_iload (pc2 := 107) dX11_likely_105 rfl rfl ?_
    obtain ⟨Q7, hC8, k⟩ := k
    refine gcS_I (pc2 := 110) (dC := 0) (As := [.int x8, .int x11]) (st := [.long x9]) rfl dX11_likely_107 rfl w_1278 ok_X11_has w_1279 rfl (by decide) (Nat.le_of_ble_eq_true rfl) hC8 (fun v9 h10 hq11 => ?_)
    have k := k v9 h10 hq11
    refine go_if_eq (pc2 := 113) (tgt := 117) dX11_likely_110 rfl (by decide) (fun c => ?_) (fun c => ?_)
    · have k := k.1 c
      refine go_iload_n (pc2 := 118) dX11_likely_117 rfl rfl rfl ?_
      refine go_iconst (pc2 := 119) (v := (1 : Int32)) dX11_likely_118 rfl (by decide) ?_
      refine go_isub (pc2 := 120) dX11_likely_119 rfl ?_
      refine go_i2l (pc2 := 121) dX11_likely_120 rfl ?_
      exact Go.pick [0, 1, 2, 3, 4, 5, 7] rfl k
    · have k := k.2 c
      refine go_lconst (pc2 := 114) (v := (1 : Int64)) dX11_likely_113 rfl (by decide) ?_
      refine go_goto (tgt := 121) dX11_likely_114 (by decide) ?_
      exact Go.pick [0, 1, 2, 3, 4, 5, 7] rfl k
theorem b_X11_likely_153 {x1 : Int32} {x2 : Int32} {x6 : Int64} {x8 : Int32} {s0 : Int64} {s1 : Int64} {h : Hp} {Q : Int64 → Hp → Prop}  (k : GoL 8 mX11_likely 71 [(0, .ref 113), (1, .int x1), (2, .int x2), (4, .long (s0 + s1)), (6, .long x6), (8, .int (x8 + 1))] [] h Q) : GoL 8 mX11_likely 153 [(0, .ref 113), (1, .int x1), (2, .int x2), (6, .long x6), (8, .int x8)] [.long s1, .long s0] h Q := by
  refine go_ladd (pc2 := 154) dX11_likely_153 rfl ?_
  refine go_lstore (pc2 := 156) (ls2 := [(0, .ref 113), (1, .int x1), (2, .int x2), (4, .long (s0 + s1)), (6, .long x6), (8, .int x8)]) dX11_likely_154 rfl rfl rfl rfl rfl ?_
  refine go_iinc (pc2 := 159) (ls2 := [(0, .ref 113), (1, .int x1), (2, .int x2), (4, .long (s0 + s1)), (6, .long x6), (8, .int (x8 + 1))]) (v := (x8 + 1)) dX11_likely_156 rfl rfl rfl rfl rfl rfl rfl ?_
  refine go_goto (tgt := 71) dX11_likely_159 (by decide) ?_
  exact k
theorem b_X11_likely_121 {x1 : Int32} {x2 : Int32} {x4 : Int64} {x6 : Int64} {x8 : Int32} {x11 : Int32} {s0 : Int64} {s1 : Int64} {h : Hp} {Q : Int64 → Hp → Prop}  (k : GoL 8 mX11_likely 90 [(0, .ref 113), (1, .int x1), (2, .int x2), (4, .long x4), (6, .long x6), (8, .int x8), (9, .long (s0 * s1)), (11, .int (x11 + 1))] [] h Q) : GoL 8 mX11_likely 121 [(0, .ref 113), (1, .int x1), (2, .int x2), (4, .long x4), (6, .long x6), (8, .int x8), (11, .int x11)] [.long s1, .long s0] h Q := by
  refine go_lmul (pc2 := 122) dX11_likely_121 rfl ?_
  refine go_lstore (pc2 := 124) (ls2 := [(0, .ref 113), (1, .int x1), (2, .int x2), (4, .long x4), (6, .long x6), (8, .int x8), (9, .long (s0 * s1)), (11, .int x11)]) dX11_likely_122 rfl rfl rfl rfl rfl ?_
  refine go_iinc (pc2 := 127) (ls2 := [(0, .ref 113), (1, .int x1), (2, .int x2), (4, .long x4), (6, .long x6), (8, .int x8), (9, .long (s0 * s1)), (11, .int (x11 + 1))]) (v := (x11 + 1)) dX11_likely_124 rfl rfl rfl rfl rfl rfl rfl ?_
  refine go_goto (tgt := 90) dX11_likely_127 (by decide) ?_
  exact k
theorem e_X11_allDemand  {h : Hp} {Q : Int32 → Hp → Prop}  (k : GoI 0 mX11_allDemand 4 [(0, .ref 113), (1, .int (0 : Int32)), (2, .int (0 : Int32))] [] h Q) : CtI 0 mX11_allDemand [.ref 113] h Q := by
  refine Ct.of (by decide +kernel) (Nat.le_of_ble_eq_true rfl) ?_
  show GoI 0 mX11_allDemand 0 [(0, .ref 113)] [] h Q
  refine go_iconst (pc2 := 1) (v := (0 : Int32)) dX11_allDemand_0 rfl (by decide) ?_
  refine go_istore_n (pc2 := 2) (ls2 := [(0, .ref 113), (1, .int (0 : Int32))]) dX11_allDemand_1 rfl rfl rfl rfl rfl rfl ?_
  refine go_iconst (pc2 := 3) (v := (0 : Int32)) dX11_allDemand_2 rfl (by decide) ?_
  refine go_istore_n (pc2 := 4) (ls2 := [(0, .ref 113), (1, .int (0 : Int32)), (2, .int (0 : Int32))]) dX11_allDemand_3 rfl rfl rfl rfl rfl rfl ?_
  exact k
theorem b_X11_allDemand_4 {x1 : Int32} {x2 : Int32} {h : Hp} {Q : Int32 → Hp → Prop}  (k : (((h.1 114 0) ≤ x2 → Q x1 h) ∧ (¬ ((h.1 114 0) ≤ x2) → (vp_in ((4 : Int32) + x2) 49 ∧ GoI 0 mX11_allDemand 4 [(0, .ref 113), (1, .int (x1 + (h.1 114 (((4 : Int32) + x2)).toNatClampNeg))), (2, .int (x2 + 1))] [] h Q)))) : GoI 0 mX11_allDemand 4 [(0, .ref 113), (1, .int x1), (2, .int x2)] [] h Q := by
  refine go_iload_n (pc2 := 5) dX11_allDemand_4 rfl rfl rfl ?_
  refine go_aload_n (pc2 := 6) dX11_allDemand_5 rfl rfl rfl ?_
  refine gf_1056 (pc2 := 9) rfl dX11_allDemand_6 rfl c_113 (fvs r_113_0) ?_
  refine go_iconst (pc2 := 10) (v := (0 : Int32)) dX11_allDemand_9 rfl (by decide) ?_
  refine go_iaload (pc2 := 11) (j := 0) dX11_allDemand_10 rfl c_114 (vp_c rfl) rfl ?_
  refine go_icmp_ge (pc2 := 14) (tgt := 31) dX11_allDemand_11 rfl (by decide) (fun c => ?_) (fun c => ?_)
  · have k := k.1 c
    refine go_iload_n (pc2 := 32) dX11_allDemand_31 rfl rfl rfl ?_
    exact go_iret dX11_allDemand_32 ⟨_, rfl, rfl⟩ ⟨rfl, _, rfl, k⟩
  · have k := k.2 c
    refine go_iload_n (pc2 := 15) dX11_allDemand_14 rfl rfl rfl ?_
    refine go_aload_n (pc2 := 16) dX11_allDemand_15 rfl rfl rfl ?_
    refine gf_1056 (pc2 := 19) rfl dX11_allDemand_16 rfl c_113 (fvs r_113_0) ?_
    refine go_iconst (pc2 := 20) (v := (4 : Int32)) dX11_allDemand_19 rfl (by decide) ?_
    refine go_iload_n (pc2 := 21) dX11_allDemand_20 rfl rfl rfl ?_
    refine go_iadd (pc2 := 22) dX11_allDemand_21 rfl ?_
    obtain ⟨y1, k⟩ := k
    refine go_iaload (pc2 := 23) (j := (((4 : Int32) + x2)).toNatClampNeg) dX11_allDemand_22 rfl c_114 y1 rfl ?_
    refine go_iadd (pc2 := 24) dX11_allDemand_23 rfl ?_
    refine go_istore_n (pc2 := 25) (ls2 := [(0, .ref 113), (1, .int (x1 + (h.1 114 (((4 : Int32) + x2)).toNatClampNeg))), (2, .int x2)]) dX11_allDemand_24 rfl rfl rfl rfl rfl rfl ?_
    refine go_iinc (pc2 := 28) (ls2 := [(0, .ref 113), (1, .int (x1 + (h.1 114 (((4 : Int32) + x2)).toNatClampNeg))), (2, .int (x2 + 1))]) (v := (x2 + 1)) dX11_allDemand_25 rfl rfl rfl rfl rfl rfl rfl ?_
    refine go_goto (tgt := 4) dX11_allDemand_28 (by decide) ?_
    exact k
theorem e_X11_shown {x1 : Int32} {h : Hp} {Q : Int64 → Hp → Prop}  (k : (∃ Q1, CtI 0 mX11_isIn [.long (x1).toInt64, .long (0 : Int64), .long (2 : Int64)] h Q1 ∧ ∀ (v3 : Int32) (h4 : Hp), Q1 v3 h4 → ((¬ v3 = 0 → (∃ Q6, CtI 7 mX11_bests [.ref 113] h4 Q6 ∧ ∀ (v8 : Int32) (h9 : Hp), Q6 v8 h9 → ((v8 = (-9 : Int32) → (∃ Q11, CtL 1 mX11_noWide [.ref 113, .int (-3 : Int32)] h9 Q11 ∧ ∀ (v13 : Int64) (h14 : Hp), Q11 v13 h14 → Q v13 h14)) ∧ (¬ v8 = (-9 : Int32) → ((¬ x1 = 0 → GoL 8 mX11_shown 48 [(0, .ref 113), (1, .int x1), (2, .int v8)] [] h9 Q) ∧ (x1 = 0 → (∃ Q16, CtI 0 mX11_allDemand [.ref 113] h9 Q16 ∧ ∀ (v18 : Int32) (h19 : Hp), Q16 v18 h19 → ((¬ v18 = 0 → GoL 8 mX11_shown 48 [(0, .ref 113), (1, .int x1), (2, .int v8)] [] h19 Q) ∧ (v18 = 0 → (∃ Q21, CtL 1 mX11_noWide [.ref 113, .int (-3 : Int32)] h19 Q21 ∧ ∀ (v23 : Int64) (h24 : Hp), Q21 v23 h24 → Q v23 h24)))))))))) ∧ (v3 = 0 → (∃ Q26, CtL 1 mX11_noWide [.ref 113, .int (-2 : Int32)] h4 Q26 ∧ ∀ (v28 : Int64) (h29 : Hp), Q26 v28 h29 → Q v28 h29))))) : CtL 8 mX11_shown [.ref 113, .int x1] h Q := by
  refine Ct.of (by decide +kernel) (Nat.le_of_ble_eq_true rfl) ?_
  show GoL 8 mX11_shown 0 [(0, .ref 113), (1, .int x1)] [] h Q
  refine go_iload_n (pc2 := 1) dX11_shown_0 rfl rfl rfl ?_
  refine go_i2l (pc2 := 2) dX11_shown_1 rfl ?_
  refine go_lconst (pc2 := 3) (v := (0 : Int64)) dX11_shown_2 rfl (by decide) ?_
  refine go_ldc2 (pc2 := 6) dX11_shown_3 rfl rfl w_1244 ?_
  obtain ⟨Q1, hC2, k⟩ := k
  refine gcS_I (pc2 := 9) (dC := 0) (As := [.long (x1).toInt64, .long (0 : Int64), .long (2 : Int64)]) (st := []) rfl dX11_shown_6 rfl w_1177 ok_X11_isIn w_1178 rfl (by decide) (Nat.le_of_ble_eq_true rfl) hC2 (fun v3 h4 hq5 => ?_)
  have k := k v3 h4 hq5
  refine go_if_ne (pc2 := 12) (tgt := 19) dX11_shown_9 rfl (by decide) (fun c => ?_) (fun c => ?_)
  · have k := k.1 c
    refine go_aload_n (pc2 := 20) dX11_shown_19 rfl rfl rfl ?_
    obtain ⟨Q6, hC7, k⟩ := k
    refine gcV_I (pc2 := 23) (dC := 7) (As := []) (st := []) rfl dX11_shown_20 rfl w_1329 ok_X11_bests vi_X11_bests c_113 (by decide) rfl rfl rfl (by decide) (Nat.le_of_ble_eq_true rfl) hC7 (fun v8 h9 hq10 => ?_)
    have k := k v8 h9 hq10
    refine go_istore_n (pc2 := 24) (ls2 := [(0, .ref 113), (1, .int x1), (2, .int v8)]) dX11_shown_23 rfl rfl rfl rfl rfl rfl ?_
    refine go_iload_n (pc2 := 25) dX11_shown_24 rfl rfl rfl ?_
    refine go_bipush (pc2 := 27) (v := (-9 : Int32)) dX11_shown_25 rfl (by decide) ?_
    refine go_icmp_eq (pc2 := 30) (tgt := 41) dX11_shown_27 rfl (by decide) (fun c => ?_) (fun c => ?_)
    · have k := k.1 c
      refine go_aload_n (pc2 := 42) dX11_shown_41 rfl rfl rfl ?_
      refine go_bipush (pc2 := 44) (v := (-3 : Int32)) dX11_shown_42 rfl (by decide) ?_
      obtain ⟨Q11, hC12, k⟩ := k
      refine gcV_L (pc2 := 47) (dC := 1) (As := [.int (-3 : Int32)]) (st := []) rfl dX11_shown_44 rfl w_1382 ok_X11_noWide vi_X11_noWide c_113 (by decide) rfl rfl rfl (by decide) (Nat.le_of_ble_eq_true rfl) hC12 (fun v13 h14 hq15 => ?_)
      have k := k v13 h14 hq15
      exact go_lret dX11_shown_47 rfl ⟨rfl, _, rfl, k⟩
    · have k := k.2 c
      refine go_iload_n (pc2 := 31) dX11_shown_30 rfl rfl rfl ?_
      refine go_if_ne (pc2 := 34) (tgt := 48) dX11_shown_31 rfl (by decide) (fun c => ?_) (fun c => ?_)
      · have k := k.1 c
        exact k
      · have k := k.2 c
        refine go_aload_n (pc2 := 35) dX11_shown_34 rfl rfl rfl ?_
        obtain ⟨Q16, hC17, k⟩ := k
        refine gcV_I (pc2 := 38) (dC := 0) (As := []) (st := []) rfl dX11_shown_35 rfl w_1394 ok_X11_allDemand vi_X11_allDemand c_113 (by decide) rfl rfl rfl (by decide) (Nat.le_of_ble_eq_true rfl) hC17 (fun v18 h19 hq20 => ?_)
        have k := k v18 h19 hq20
        refine go_if_ne (pc2 := 41) (tgt := 48) dX11_shown_38 rfl (by decide) (fun c => ?_) (fun c => ?_)
        · have k := k.1 c
          exact k
        · have k := k.2 c
          refine go_aload_n (pc2 := 42) dX11_shown_41 rfl rfl rfl ?_
          refine go_bipush (pc2 := 44) (v := (-3 : Int32)) dX11_shown_42 rfl (by decide) ?_
          obtain ⟨Q21, hC22, k⟩ := k
          refine gcV_L (pc2 := 47) (dC := 1) (As := [.int (-3 : Int32)]) (st := []) rfl dX11_shown_44 rfl w_1382 ok_X11_noWide vi_X11_noWide c_113 (by decide) rfl rfl rfl (by decide) (Nat.le_of_ble_eq_true rfl) hC22 (fun v23 h24 hq25 => ?_)
          have k := k v23 h24 hq25
          exact go_lret dX11_shown_47 rfl ⟨rfl, _, rfl, k⟩
  · have k := k.2 c
    refine go_aload_n (pc2 := 13) dX11_shown_12 rfl rfl rfl ?_
    refine go_bipush (pc2 := 15) (v := (-2 : Int32)) dX11_shown_13 rfl (by decide) ?_
    obtain ⟨Q26, hC27, k⟩ := k
    refine gcV_L (pc2 := 18) (dC := 1) (As := [.int (-2 : Int32)]) (st := []) rfl dX11_shown_15 rfl w_1382 ok_X11_noWide vi_X11_noWide c_113 (by decide) rfl rfl rfl (by decide) (Nat.le_of_ble_eq_true rfl) hC27 (fun v28 h29 hq30 => ?_)
    have k := k v28 h29 hq30
    exact go_lret dX11_shown_18 rfl ⟨rfl, _, rfl, k⟩
theorem b_X11_shown_48 {x1 : Int32} {x2 : Int32} {h : Hp} {Q : Int64 → Hp → Prop}  (k : ((¬ x1 = 0 → GoL 8 mX11_shown 70 [(0, .ref 113), (1, .int x1), (3, .float FP.fconst0), (4, .int (0 : Int32))] [] h Q) ∧ (x1 = 0 → (∃ Q1, CtI 0 mX11_allDemand [.ref 113] h Q1 ∧ ∀ (v3 : Int32) (h4 : Hp), Q1 v3 h4 → (vf_n32 (FP.fdiv (FP.i2f x2) (FP.i2f v3)) ∧ (∃ Q7, CtI 1 mJxf58ca_floatToIntBits_5c35a [.float (FP.fdiv (FP.i2f x2) (FP.i2f v3))] h4 Q7 ∧ ∀ (v9 : Int32) (h10 : Hp), Q7 v9 h10 → Q (v9).toInt64 h10)))))) : GoL 8 mX11_shown 48 [(0, .ref 113), (1, .int x1), (2, .int x2)] [] h Q := by
  refine go_iload_n (pc2 := 49) dX11_shown_48 rfl rfl rfl ?_
  refine go_if_ne (pc2 := 52) (tgt := 65) dX11_shown_49 rfl (by decide) (fun c => ?_) (fun c => ?_)
  · have k := k.1 c
    refine go_fconst0 (pc2 := 66) dX11_shown_65 rfl ?_
    refine go_fstore_n (pc2 := 67) (ls2 := [(0, .ref 113), (1, .int x1), (2, .int x2), (3, .float FP.fconst0)]) dX11_shown_66 rfl rfl rfl rfl rfl rfl ?_
    refine go_iconst (pc2 := 68) (v := (0 : Int32)) dX11_shown_67 rfl (by decide) ?_
    refine go_istore (pc2 := 70) (ls2 := [(0, .ref 113), (1, .int x1), (2, .int x2), (3, .float FP.fconst0), (4, .int (0 : Int32))]) dX11_shown_68 rfl rfl rfl rfl rfl ?_
    exact Go.pick [0, 1, 3, 4] rfl k
  · have k := k.2 c
    refine go_iload_n (pc2 := 53) dX11_shown_52 rfl rfl rfl ?_
    refine go_i2f (pc2 := 54) dX11_shown_53 rfl ?_
    refine go_aload_n (pc2 := 55) dX11_shown_54 rfl rfl rfl ?_
    obtain ⟨Q1, hC2, k⟩ := k
    refine gcV_I (pc2 := 58) (dC := 0) (As := []) (st := [.float (FP.i2f x2)]) rfl dX11_shown_55 rfl w_1394 ok_X11_allDemand vi_X11_allDemand c_113 (by decide) rfl rfl rfl (by decide) (Nat.le_of_ble_eq_true rfl) hC2 (fun v3 h4 hq5 => ?_)
    have k := k v3 h4 hq5
    refine go_i2f (pc2 := 59) dX11_shown_58 rfl ?_
    obtain ⟨y6, k⟩ := k
    refine go_fdiv (pc2 := 60) dX11_shown_59 rfl y6 ?_
    obtain ⟨Q7, hC8, k⟩ := k
    refine gcS_I (pc2 := 63) (dC := 1) (As := [.float (FP.fdiv (FP.i2f x2) (FP.i2f v3))]) (st := []) rfl dX11_shown_60 rfl w_1398 ok_Jxf58ca_floatToIntBits_5c35a w_1399 rfl (by decide) (Nat.le_of_ble_eq_true rfl) hC8 (fun v9 h10 hq11 => ?_)
    have k := k v9 h10 hq11
    refine go_i2l (pc2 := 64) dX11_shown_63 rfl ?_
    exact go_lret dX11_shown_64 rfl ⟨rfl, _, rfl, k⟩
theorem b_X11_shown_70 {x1 : Int32} {x3 : UInt32} {x4 : Int32} {h : Hp} {Q : Int64 → Hp → Prop}  (k : (((h.1 114 0) ≤ x4 → ((¬ x1 = (1 : Int32) → Q ((FP.f2i x3)).toInt64 h) ∧ (x1 = (1 : Int32) → (∃ Q1, CtI 1 mJxf58ca_floatToIntBits_5c35a [.float x3] h Q1 ∧ ∀ (v3 : Int32) (h4 : Hp), Q1 v3 h4 → Q (v3).toInt64 h4)))) ∧ (¬ ((h.1 114 0) ≤ x4) → (∃ Q6, CtI 5 mX11_hourBest [.ref 113, .int x4] h Q6 ∧ ∀ (v8 : Int32) (h9 : Hp), Q6 v8 h9 → (vf_n32 (FP.fadd x3 (FP.i2f v8)) ∧ (vf_n32 (FP.fmul (FP.fadd x3 (FP.i2f v8)) (1056964608 : UInt32)) ∧ GoL 8 mX11_shown 70 [(0, .ref 113), (1, .int x1), (3, .float (FP.fmul (FP.fadd x3 (FP.i2f v8)) (1056964608 : UInt32))), (4, .int (x4 + 1))] [] h9 Q)))))) : GoL 8 mX11_shown 70 [(0, .ref 113), (1, .int x1), (3, .float x3), (4, .int x4)] [] h Q := by
  refine go_iload (pc2 := 72) dX11_shown_70 rfl rfl ?_
  refine go_aload_n (pc2 := 73) dX11_shown_72 rfl rfl rfl ?_
  refine gf_1056 (pc2 := 76) rfl dX11_shown_73 rfl c_113 (fvs r_113_0) ?_
  refine go_iconst (pc2 := 77) (v := (0 : Int32)) dX11_shown_76 rfl (by decide) ?_
  refine go_iaload (pc2 := 78) (j := 0) dX11_shown_77 rfl c_114 (vp_c rfl) rfl ?_
  refine go_icmp_ge (pc2 := 81) (tgt := 100) dX11_shown_78 rfl (by decide) (fun c => ?_) (fun c => ?_)
  · have k := k.1 c
    refine go_iload_n (pc2 := 101) dX11_shown_100 rfl rfl rfl ?_
    refine go_iconst (pc2 := 102) (v := (1 : Int32)) dX11_shown_101 rfl (by decide) ?_
    refine go_icmp_ne (pc2 := 105) (tgt := 113) dX11_shown_102 rfl (by decide) (fun c => ?_) (fun c => ?_)
    · have k := k.1 c
      refine go_fload_n (pc2 := 114) dX11_shown_113 rfl rfl rfl ?_
      refine go_f2i (pc2 := 115) dX11_shown_114 rfl ?_
      refine go_i2l (pc2 := 116) dX11_shown_115 rfl ?_
      exact go_lret dX11_shown_116 rfl ⟨rfl, _, rfl, k⟩
    · have k := k.2 c
      refine go_fload_n (pc2 := 106) dX11_shown_105 rfl rfl rfl ?_
      obtain ⟨Q1, hC2, k⟩ := k
      refine gcS_I (pc2 := 109) (dC := 1) (As := [.float x3]) (st := []) rfl dX11_shown_106 rfl w_1398 ok_Jxf58ca_floatToIntBits_5c35a w_1399 rfl (by decide) (Nat.le_of_ble_eq_true rfl) hC2 (fun v3 h4 hq5 => ?_)
      have k := k v3 h4 hq5
      refine go_i2l (pc2 := 110) dX11_shown_109 rfl ?_
      refine go_goto (tgt := 116) dX11_shown_110 (by decide) ?_
      exact go_lret dX11_shown_116 rfl ⟨rfl, _, rfl, k⟩
  · have k := k.2 c
    refine go_fload_n (pc2 := 82) dX11_shown_81 rfl rfl rfl ?_
    refine go_aload_n (pc2 := 83) dX11_shown_82 rfl rfl rfl ?_
    refine go_iload (pc2 := 85) dX11_shown_83 rfl rfl ?_
    obtain ⟨Q6, hC7, k⟩ := k
    refine gcV_I (pc2 := 88) (dC := 5) (As := [.int x4]) (st := [.float x3]) rfl dX11_shown_85 rfl w_1357 ok_X11_hourBest vi_X11_hourBest c_113 (by decide) rfl rfl rfl (by decide) (Nat.le_of_ble_eq_true rfl) hC7 (fun v8 h9 hq10 => ?_)
    have k := k v8 h9 hq10
    refine go_i2f (pc2 := 89) dX11_shown_88 rfl ?_
    obtain ⟨y11, k⟩ := k
    refine go_fadd (pc2 := 90) dX11_shown_89 rfl y11 ?_
    refine go_ldcf (pc2 := 92) dX11_shown_90 rfl rfl w_1408 ?_
    obtain ⟨y12, k⟩ := k
    refine go_fmul (pc2 := 93) dX11_shown_92 rfl y12 ?_
    refine go_fstore_n (pc2 := 94) (ls2 := [(0, .ref 113), (1, .int x1), (3, .float (FP.fmul (FP.fadd x3 (FP.i2f v8)) (1056964608 : UInt32))), (4, .int x4)]) dX11_shown_93 rfl rfl rfl rfl rfl rfl ?_
    refine go_iinc (pc2 := 97) (ls2 := [(0, .ref 113), (1, .int x1), (3, .float (FP.fmul (FP.fadd x3 (FP.i2f v8)) (1056964608 : UInt32))), (4, .int (x4 + 1))]) (v := (x4 + 1)) dX11_shown_94 rfl rfl rfl rfl rfl rfl rfl ?_
    refine go_goto (tgt := 70) dX11_shown_97 (by decide) ?_
    exact k
theorem e_X11_price {x1 : Int32} {x2 : Int32} {h : Hp} {Q : Int32 → Hp → Prop}  (k : (∃ Q1, CtI 1 mX11_isHour [.ref 113, .int x1] h Q1 ∧ ∀ (v3 : Int32) (h4 : Hp), Q1 v3 h4 → ((v3 = 0 → GoI 2 mX11_price 19 [(0, .ref 113), (1, .int x1), (2, .int x2)] [.int (-1 : Int32)] h4 Q) ∧ (¬ v3 = 0 → (∃ Q6, CtI 0 mX11_wrongBy [.int x2, .int (0 : Int32), .int (99 : Int32)] h4 Q6 ∧ ∀ (v8 : Int32) (h9 : Hp), Q6 v8 h9 → GoI 2 mX11_price 19 [(0, .ref 113), (1, .int x1), (2, .int x2)] [.int v8] h9 Q))))) : CtI 2 mX11_price [.ref 113, .int x1, .int x2] h Q := by
  refine Ct.of (by decide +kernel) (Nat.le_of_ble_eq_true rfl) ?_
  show GoI 2 mX11_price 0 [(0, .ref 113), (1, .int x1), (2, .int x2)] [] h Q
  refine go_aload_n (pc2 := 1) dX11_price_0 rfl rfl rfl ?_
  refine go_iload_n (pc2 := 2) dX11_price_1 rfl rfl rfl ?_
  obtain ⟨Q1, hC2, k⟩ := k
  refine gcV_I (pc2 := 5) (dC := 1) (As := [.int x1]) (st := []) rfl dX11_price_2 rfl w_1173 ok_X11_isHour vi_X11_isHour c_113 (by decide) rfl rfl rfl (by decide) (Nat.le_of_ble_eq_true rfl) hC2 (fun v3 h4 hq5 => ?_)
  have k := k v3 h4 hq5
  refine go_if_eq (pc2 := 8) (tgt := 18) dX11_price_5 rfl (by decide) (fun c => ?_) (fun c => ?_)
  · have k := k.1 c
    refine go_iconst (pc2 := 19) (v := (-1 : Int32)) dX11_price_18 rfl (by decide) ?_
    exact k
  · have k := k.2 c
    refine go_iload_n (pc2 := 9) dX11_price_8 rfl rfl rfl ?_
    refine go_iconst (pc2 := 10) (v := (0 : Int32)) dX11_price_9 rfl (by decide) ?_
    refine go_bipush (pc2 := 12) (v := (99 : Int32)) dX11_price_10 rfl (by decide) ?_
    obtain ⟨Q6, hC7, k⟩ := k
    refine gcS_I (pc2 := 15) (dC := 0) (As := [.int x2, .int (0 : Int32), .int (99 : Int32)]) (st := []) rfl dX11_price_12 rfl w_1158 ok_X11_wrongBy w_1159 rfl (by decide) (Nat.le_of_ble_eq_true rfl) hC7 (fun v8 h9 hq10 => ?_)
    have k := k v8 h9 hq10
    refine go_goto (tgt := 19) dX11_price_15 (by decide) ?_
    exact k
theorem b_X11_price_19 {x1 : Int32} {x2 : Int32} {s0 : Int32} {h : Hp} {Q : Int32 → Hp → Prop}  (k : ((s0 = 0 → (vp_in ((14 : Int32) + x1) 49 ∧ (vp_in ((14 : Int32) + x1) 49 ∧ (∀ g3 : Hp, g3 = (ui h 114 (((14 : Int32) + x1)).toNatClampNeg x2) → Q (h.1 114 (((14 : Int32) + x1)).toNatClampNeg) g3)))) ∧ (¬ s0 = 0 → (∃ Q4, CtI 0 mX11_no [.ref 113, .int s0] h Q4 ∧ ∀ (v6 : Int32) (h7 : Hp), Q4 v6 h7 → Q v6 h7)))) : GoI 2 mX11_price 19 [(0, .ref 113), (1, .int x1), (2, .int x2)] [.int s0] h Q := by
  refine go_istore_n (pc2 := 20) (ls2 := [(0, .ref 113), (1, .int x1), (2, .int x2), (3, .int s0)]) dX11_price_19 rfl rfl rfl rfl rfl rfl ?_
  refine go_iload_n (pc2 := 21) dX11_price_20 rfl rfl rfl ?_
  refine go_if_eq (pc2 := 24) (tgt := 30) dX11_price_21 rfl (by decide) (fun c => ?_) (fun c => ?_)
  · have k := k.1 c
    refine go_aload_n (pc2 := 31) dX11_price_30 rfl rfl rfl ?_
    refine gf_1056 (pc2 := 34) rfl dX11_price_31 rfl c_113 (fvs r_113_0) ?_
    refine go_bipush (pc2 := 36) (v := (14 : Int32)) dX11_price_34 rfl (by decide) ?_
    refine go_iload_n (pc2 := 37) dX11_price_36 rfl rfl rfl ?_
    refine go_iadd (pc2 := 38) dX11_price_37 rfl ?_
    obtain ⟨y1, k⟩ := k
    refine go_iaload (pc2 := 39) (j := (((14 : Int32) + x1)).toNatClampNeg) dX11_price_38 rfl c_114 y1 rfl ?_
    refine go_istore (pc2 := 41) (ls2 := [(0, .ref 113), (1, .int x1), (2, .int x2), (3, .int s0), (4, .int (h.1 114 (((14 : Int32) + x1)).toNatClampNeg))]) dX11_price_39 rfl rfl rfl rfl rfl ?_
    refine go_aload_n (pc2 := 42) dX11_price_41 rfl rfl rfl ?_
    refine gf_1056 (pc2 := 45) rfl dX11_price_42 rfl c_113 (fvs r_113_0) ?_
    refine go_bipush (pc2 := 47) (v := (14 : Int32)) dX11_price_45 rfl (by decide) ?_
    refine go_iload_n (pc2 := 48) dX11_price_47 rfl rfl rfl ?_
    refine go_iadd (pc2 := 49) dX11_price_48 rfl ?_
    refine go_iload_n (pc2 := 50) dX11_price_49 rfl rfl rfl ?_
    obtain ⟨y2, k⟩ := k
    refine go_iastore (pc2 := 51) (j := (((14 : Int32) + x1)).toNatClampNeg) dX11_price_50 rfl c_114 y2 rfl ?_
    obtain ⟨g3, eg3⟩ : ∃ y : Hp, y = (ui h 114 (((14 : Int32) + x1)).toNatClampNeg x2) := ⟨_, rfl⟩
    rw [← eg3]
    have k := k g3 eg3
    refine go_iload (pc2 := 53) dX11_price_51 rfl rfl ?_
    exact go_iret dX11_price_53 ⟨_, rfl, rfl⟩ ⟨rfl, _, rfl, k⟩
  · have k := k.2 c
    refine go_aload_n (pc2 := 25) dX11_price_24 rfl rfl rfl ?_
    refine go_iload_n (pc2 := 26) dX11_price_25 rfl rfl rfl ?_
    obtain ⟨Q4, hC5, k⟩ := k
    refine gcV_I (pc2 := 29) (dC := 0) (As := [.int s0]) (st := []) rfl dX11_price_26 rfl w_1161 ok_X11_no vi_X11_no c_113 (by decide) rfl rfl rfl (by decide) (Nat.le_of_ble_eq_true rfl) hC5 (fun v6 h7 hq8 => ?_)
    have k := k v6 h7 hq8
    exact go_iret dX11_price_29 ⟨_, rfl, rfl⟩ ⟨rfl, _, rfl, k⟩
theorem e_X11_step {x1 : Int32} {h : Hp} {Q : Int32 → Hp → Prop}  (k : (∃ Q1, CtI 0 mX11_wrongBy [.int x1, .int (0 : Int32), .int (9 : Int32)] h Q1 ∧ ∀ (v3 : Int32) (h4 : Hp), Q1 v3 h4 → ((v3 = 0 → (∀ g6 : Hp, g6 = (ui h4 114 2 x1) → Q (h4.1 114 2) g6)) ∧ (¬ v3 = 0 → (∃ Q7, CtI 0 mX11_no [.ref 113, .int v3] h4 Q7 ∧ ∀ (v9 : Int32) (h10 : Hp), Q7 v9 h10 → Q v9 h10))))) : CtI 1 mX11_step [.ref 113, .int x1] h Q := by
  refine Ct.of (by decide +kernel) (Nat.le_of_ble_eq_true rfl) ?_
  show GoI 1 mX11_step 0 [(0, .ref 113), (1, .int x1)] [] h Q
  refine go_iload_n (pc2 := 1) dX11_step_0 rfl rfl rfl ?_
  refine go_iconst (pc2 := 2) (v := (0 : Int32)) dX11_step_1 rfl (by decide) ?_
  refine go_bipush (pc2 := 4) (v := (9 : Int32)) dX11_step_2 rfl (by decide) ?_
  obtain ⟨Q1, hC2, k⟩ := k
  refine gcS_I (pc2 := 7) (dC := 0) (As := [.int x1, .int (0 : Int32), .int (9 : Int32)]) (st := []) rfl dX11_step_4 rfl w_1158 ok_X11_wrongBy w_1159 rfl (by decide) (Nat.le_of_ble_eq_true rfl) hC2 (fun v3 h4 hq5 => ?_)
  have k := k v3 h4 hq5
  refine go_istore_n (pc2 := 8) (ls2 := [(0, .ref 113), (1, .int x1), (2, .int v3)]) dX11_step_7 rfl rfl rfl rfl rfl rfl ?_
  refine go_iload_n (pc2 := 9) dX11_step_8 rfl rfl rfl ?_
  refine go_if_eq (pc2 := 12) (tgt := 18) dX11_step_9 rfl (by decide) (fun c => ?_) (fun c => ?_)
  · have k := k.1 c
    refine go_aload_n (pc2 := 19) dX11_step_18 rfl rfl rfl ?_
    refine gf_1056 (pc2 := 22) rfl dX11_step_19 rfl c_113 (fvs r_113_0) ?_
    refine go_iconst (pc2 := 23) (v := (2 : Int32)) dX11_step_22 rfl (by decide) ?_
    refine go_iaload (pc2 := 24) (j := 2) dX11_step_23 rfl c_114 (vp_c rfl) rfl ?_
    refine go_istore_n (pc2 := 25) (ls2 := [(0, .ref 113), (1, .int x1), (2, .int v3), (3, .int (h4.1 114 2))]) dX11_step_24 rfl rfl rfl rfl rfl rfl ?_
    refine go_aload_n (pc2 := 26) dX11_step_25 rfl rfl rfl ?_
    refine gf_1056 (pc2 := 29) rfl dX11_step_26 rfl c_113 (fvs r_113_0) ?_
    refine go_iconst (pc2 := 30) (v := (2 : Int32)) dX11_step_29 rfl (by decide) ?_
    refine go_iload_n (pc2 := 31) dX11_step_30 rfl rfl rfl ?_
    refine go_iastore (pc2 := 32) (j := 2) dX11_step_31 rfl c_114 (vp_c rfl) rfl ?_
    obtain ⟨g6, eg6⟩ : ∃ y : Hp, y = (ui h4 114 2 x1) := ⟨_, rfl⟩
    rw [← eg6]
    have k := k g6 eg6
    refine go_iload_n (pc2 := 33) dX11_step_32 rfl rfl rfl ?_
    exact go_iret dX11_step_33 ⟨_, rfl, rfl⟩ ⟨rfl, _, rfl, k⟩
  · have k := k.2 c
    refine go_aload_n (pc2 := 13) dX11_step_12 rfl rfl rfl ?_
    refine go_iload_n (pc2 := 14) dX11_step_13 rfl rfl rfl ?_
    obtain ⟨Q7, hC8, k⟩ := k
    refine gcV_I (pc2 := 17) (dC := 0) (As := [.int v3]) (st := []) rfl dX11_step_14 rfl w_1161 ok_X11_no vi_X11_no c_113 (by decide) rfl rfl rfl (by decide) (Nat.le_of_ble_eq_true rfl) hC8 (fun v9 h10 hq11 => ?_)
    have k := k v9 h10 hq11
    exact go_iret dX11_step_17 ⟨_, rfl, rfl⟩ ⟨rfl, _, rfl, k⟩
theorem e_X11_answersIn {x1 : Int32} {x2 : Int32} {x3 : Int32} {h : Hp} {Q : Int32 → Hp → Prop}  (k : (vp_in ((14 : Int32) + x2) 49 ∧ (∃ Q2, CtI 0 mX11_of1 [.ref 113, .int x1, .int (4 : Int32)] h Q2 ∧ ∀ (v4 : Int32) (h5 : Hp), Q2 v4 h5 → (((h.1 114 (((14 : Int32) + x2)).toNatClampNeg) ≤ v4 → (∃ Q7, CtI 1 mX11_leastOf [.ref 113, .int x1] h5 Q7 ∧ ∀ (v9 : Int32) (h10 : Hp), Q7 v9 h10 → Q v9 h10)) ∧ (¬ ((h.1 114 (((14 : Int32) + x2)).toNatClampNeg) ≤ v4) → (∃ Q12, CtI 1 mX11_mostOf [.ref 113, .int x1, .int x3] h5 Q12 ∧ ∀ (v14 : Int32) (h15 : Hp), Q12 v14 h15 → Q v14 h15)))))) : CtI 2 mX11_answersIn [.ref 113, .int x1, .int x2, .int x3] h Q := by
  refine Ct.of (by decide +kernel) (Nat.le_of_ble_eq_true rfl) ?_
  show GoI 2 mX11_answersIn 0 [(0, .ref 113), (1, .int x1), (2, .int x2), (3, .int x3)] [] h Q
  refine go_aload_n (pc2 := 1) dX11_answersIn_0 rfl rfl rfl ?_
  refine gf_1056 (pc2 := 4) rfl dX11_answersIn_1 rfl c_113 (fvs r_113_0) ?_
  refine go_bipush (pc2 := 6) (v := (14 : Int32)) dX11_answersIn_4 rfl (by decide) ?_
  refine go_iload_n (pc2 := 7) dX11_answersIn_6 rfl rfl rfl ?_
  refine go_iadd (pc2 := 8) dX11_answersIn_7 rfl ?_
  obtain ⟨y1, k⟩ := k
  refine go_iaload (pc2 := 9) (j := (((14 : Int32) + x2)).toNatClampNeg) dX11_answersIn_8 rfl c_114 y1 rfl ?_
  refine go_aload_n (pc2 := 10) dX11_answersIn_9 rfl rfl rfl ?_
  refine go_iload_n (pc2 := 11) dX11_answersIn_10 rfl rfl rfl ?_
  refine go_iconst (pc2 := 12) (v := (4 : Int32)) dX11_answersIn_11 rfl (by decide) ?_
  obtain ⟨Q2, hC3, k⟩ := k
  refine gcV_I (pc2 := 15) (dC := 0) (As := [.int x1, .int (4 : Int32)]) (st := [.int (h.1 114 (((14 : Int32) + x2)).toNatClampNeg)]) rfl dX11_answersIn_12 rfl w_1212 ok_X11_of1 vi_X11_of1 c_113 (by decide) rfl rfl rfl (by decide) (Nat.le_of_ble_eq_true rfl) hC3 (fun v4 h5 hq6 => ?_)
  have k := k v4 h5 hq6
  refine go_icmp_le (pc2 := 18) (tgt := 27) dX11_answersIn_15 rfl (by decide) (fun c => ?_) (fun c => ?_)
  · have k := k.1 c
    refine go_aload_n (pc2 := 28) dX11_answersIn_27 rfl rfl rfl ?_
    refine go_iload_n (pc2 := 29) dX11_answersIn_28 rfl rfl rfl ?_
    obtain ⟨Q7, hC8, k⟩ := k
    refine gcV_I (pc2 := 32) (dC := 1) (As := [.int x1]) (st := []) rfl dX11_answersIn_29 rfl w_1250 ok_X11_leastOf vi_X11_leastOf c_113 (by decide) rfl rfl rfl (by decide) (Nat.le_of_ble_eq_true rfl) hC8 (fun v9 h10 hq11 => ?_)
    have k := k v9 h10 hq11
    exact go_iret dX11_answersIn_32 ⟨_, rfl, rfl⟩ ⟨rfl, _, rfl, k⟩
  · have k := k.2 c
    refine go_aload_n (pc2 := 19) dX11_answersIn_18 rfl rfl rfl ?_
    refine go_iload_n (pc2 := 20) dX11_answersIn_19 rfl rfl rfl ?_
    refine go_iload_n (pc2 := 21) dX11_answersIn_20 rfl rfl rfl ?_
    obtain ⟨Q12, hC13, k⟩ := k
    refine gcV_I (pc2 := 24) (dC := 1) (As := [.int x1, .int x3]) (st := []) rfl dX11_answersIn_21 rfl w_1254 ok_X11_mostOf vi_X11_mostOf c_113 (by decide) rfl rfl rfl (by decide) (Nat.le_of_ble_eq_true rfl) hC13 (fun v14 h15 hq16 => ?_)
    have k := k v14 h15 hq16
    refine go_goto (tgt := 32) dX11_answersIn_24 (by decide) ?_
    exact go_iret dX11_answersIn_32 ⟨_, rfl, rfl⟩ ⟨rfl, _, rfl, k⟩
theorem e_X11_netOf {x1 : Int32} {x2 : Int32} {h : Hp} {Q : Int32 → Hp → Prop}  (k : (∃ Q1, CtI 0 mX11_of1 [.ref 113, .int x1, .int (9 : Int32)] h Q1 ∧ ∀ (v3 : Int32) (h4 : Hp), Q1 v3 h4 → GoI 3 mX11_netOf 14 [(0, .ref 113), (1, .int x1), (2, .int x2), (3, .int v3), (4, .int (0 : Int32)), (5, .int (0 : Int32))] [] h4 Q)) : CtI 3 mX11_netOf [.ref 113, .int x1, .int x2] h Q := by
  refine Ct.of (by decide +kernel) (Nat.le_of_ble_eq_true rfl) ?_
  show GoI 3 mX11_netOf 0 [(0, .ref 113), (1, .int x1), (2, .int x2)] [] h Q
  refine go_aload_n (pc2 := 1) dX11_netOf_0 rfl rfl rfl ?_
  refine go_iload_n (pc2 := 2) dX11_netOf_1 rfl rfl rfl ?_
  refine go_bipush (pc2 := 4) (v := (9 : Int32)) dX11_netOf_2 rfl (by decide) ?_
  obtain ⟨Q1, hC2, k⟩ := k
  refine gcV_I (pc2 := 7) (dC := 0) (As := [.int x1, .int (9 : Int32)]) (st := []) rfl dX11_netOf_4 rfl w_1212 ok_X11_of1 vi_X11_of1 c_113 (by decide) rfl rfl rfl (by decide) (Nat.le_of_ble_eq_true rfl) hC2 (fun v3 h4 hq5 => ?_)
  have k := k v3 h4 hq5
  refine go_istore_n (pc2 := 8) (ls2 := [(0, .ref 113), (1, .int x1), (2, .int x2), (3, .int v3)]) dX11_netOf_7 rfl rfl rfl rfl rfl rfl ?_
  refine go_iconst (pc2 := 9) (v := (0 : Int32)) dX11_netOf_8 rfl (by decide) ?_
  refine go_istore (pc2 := 11) (ls2 := [(0, .ref 113), (1, .int x1), (2, .int x2), (3, .int v3), (4, .int (0 : Int32))]) dX11_netOf_9 rfl rfl rfl rfl rfl ?_
  refine go_iconst (pc2 := 12) (v := (0 : Int32)) dX11_netOf_11 rfl (by decide) ?_
  refine go_istore (pc2 := 14) (ls2 := [(0, .ref 113), (1, .int x1), (2, .int x2), (3, .int v3), (4, .int (0 : Int32)), (5, .int (0 : Int32))]) dX11_netOf_12 rfl rfl rfl rfl rfl ?_
  exact k
theorem b_X11_netOf_14 {x1 : Int32} {x2 : Int32} {x3 : Int32} {x4 : Int32} {x5 : Int32} {h : Hp} {Q : Int32 → Hp → Prop}  (k : (((h.1 114 0) ≤ x5 → Q x4 h) ∧ (¬ ((h.1 114 0) ≤ x5) → (∃ Q1, CtI 0 mX11_has [.int x2, .int x5] h Q1 ∧ ∀ (v3 : Int32) (h4 : Hp), Q1 v3 h4 → ((v3 = 0 → GoI 3 mX11_netOf 100 [(0, .ref 113), (1, .int x1), (2, .int x2), (3, .int x3), (4, .int x4), (5, .int x5)] [] h4 Q) ∧ (¬ v3 = 0 → (∃ Q6, CtI 0 mX11_of1 [.ref 113, .int x1, .int (5 : Int32)] h4 Q6 ∧ ∀ (v8 : Int32) (h9 : Hp), Q6 v8 h9 → (∃ Q11, CtI 2 mX11_answersIn [.ref 113, .int x1, .int x5, .int (if 0 ≤ x3 then (0 : Int32) else (1 : Int32))] h9 Q11 ∧ ∀ (v13 : Int32) (h14 : Hp), Q11 v13 h14 → (∃ Q16, CtI 0 mX11_of1 [.ref 113, .int x1, .int (4 : Int32)] h14 Q16 ∧ ∀ (v18 : Int32) (h19 : Hp), Q16 v18 h19 → (vp_in ((14 : Int32) + x5) 49 ∧ ((0 ≤ x3 → GoI 3 mX11_netOf 97 [(0, .ref 113), (1, .int x1), (2, .int x2), (3, .int x3), (5, .int x5)] [.int (0 : Int32), .int (x4 + (v8 + (v13 * (v18 - (h19.1 114 (((14 : Int32) + x5)).toNatClampNeg)))))] h19 Q) ∧ (¬ (0 ≤ x3) → (∃ Q22, CtI 1 mX11_startsOf [.ref 113, .int x1, .int (-x3)] h19 Q22 ∧ ∀ (v24 : Int32) (h25 : Hp), Q22 v24 h25 → GoI 3 mX11_netOf 97 [(0, .ref 113), (1, .int x1), (2, .int x2), (3, .int x3), (5, .int x5)] [.int v24, .int (x4 + (v8 + (v13 * (v18 - (h19.1 114 (((14 : Int32) + x5)).toNatClampNeg)))))] h25 Q))))))))))))) : GoI 3 mX11_netOf 14 [(0, .ref 113), (1, .int x1), (2, .int x2), (3, .int x3), (4, .int x4), (5, .int x5)] [] h Q := by
  refine go_iload (pc2 := 16) dX11_netOf_14 rfl rfl ?_
  refine go_aload_n (pc2 := 17) dX11_netOf_16 rfl rfl rfl ?_
  refine gf_1056 (pc2 := 20) rfl dX11_netOf_17 rfl c_113 (fvs r_113_0) ?_
  refine go_iconst (pc2 := 21) (v := (0 : Int32)) dX11_netOf_20 rfl (by decide) ?_
  refine go_iaload (pc2 := 22) (j := 0) dX11_netOf_21 rfl c_114 (vp_c rfl) rfl ?_
  refine go_icmp_ge (pc2 := 25) (tgt := 117) dX11_netOf_22 rfl (by decide) (fun c => ?_) (fun c => ?_)
  · have k := k.1 c
    refine go_iload (pc2 := 119) dX11_netOf_117 rfl rfl ?_
    exact go_iret dX11_netOf_119 ⟨_, rfl, rfl⟩ ⟨rfl, _, rfl, k⟩
  · have k := k.2 c
    refine go_iload_n (pc2 := 26) dX11_netOf_25 rfl rfl rfl ?_
    refine go_iload (pc2 := 28) dX11_netOf_26 rfl rfl ?_
    obtain ⟨Q1, hC2, k⟩ := k
    refine gcS_I (pc2 := 31) (dC := 0) (As := [.int x2, .int x5]) (st := []) rfl dX11_netOf_28 rfl w_1278 ok_X11_has w_1279 rfl (by decide) (Nat.le_of_ble_eq_true rfl) hC2 (fun v3 h4 hq5 => ?_)
    have k := k v3 h4 hq5
    refine go_if_eq (pc2 := 34) (tgt := 100) dX11_netOf_31 rfl (by decide) (fun c => ?_) (fun c => ?_)
    · have k := k.1 c
      exact k
    · have k := k.2 c
      refine go_iload (pc2 := 36) dX11_netOf_34 rfl rfl ?_
      refine go_aload_n (pc2 := 37) dX11_netOf_36 rfl rfl rfl ?_
      refine go_iload_n (pc2 := 38) dX11_netOf_37 rfl rfl rfl ?_
      refine go_iconst (pc2 := 39) (v := (5 : Int32)) dX11_netOf_38 rfl (by decide) ?_
      obtain ⟨Q6, hC7, k⟩ := k
      refine gcV_I (pc2 := 42) (dC := 0) (As := [.int x1, .int (5 : Int32)]) (st := [.int x4]) rfl dX11_netOf_39 rfl w_1212 ok_X11_of1 vi_X11_of1 c_113 (by decide) rfl rfl rfl (by decide) (Nat.le_of_ble_eq_true rfl) hC7 (fun v8 h9 hq10 => ?_)
      have k := k v8 h9 hq10
      refine go_aload_n (pc2 := 43) dX11_netOf_42 rfl rfl rfl ?_
      refine go_iload_n (pc2 := 44) dX11_netOf_43 rfl rfl rfl ?_
      refine go_iload (pc2 := 46) dX11_netOf_44 rfl rfl ?_
      refine go_iload_n (pc2 := 47) dX11_netOf_46 rfl rfl rfl ?_
      have J : GoI 3 mX11_netOf 55 [(0, .ref 113), (1, .int x1), (2, .int x2), (3, .int x3), (4, .int x4), (5, .int x5)] [.int (if 0 ≤ x3 then (0 : Int32) else (1 : Int32)), .int x5, .int x1, .ref 113, .int v8, .int x4] h9 Q := by
        obtain ⟨Q11, hC12, k⟩ := k
        refine gcV_I (pc2 := 58) (dC := 2) (As := [.int x1, .int x5, .int (if 0 ≤ x3 then (0 : Int32) else (1 : Int32))]) (st := [.int v8, .int x4]) rfl dX11_netOf_55 rfl w_1429 ok_X11_answersIn vi_X11_answersIn c_113 (by decide) rfl rfl rfl (by decide) (Nat.le_of_ble_eq_true rfl) hC12 (fun v13 h14 hq15 => ?_)
        have k := k v13 h14 hq15
        refine go_aload_n (pc2 := 59) dX11_netOf_58 rfl rfl rfl ?_
        refine go_iload_n (pc2 := 60) dX11_netOf_59 rfl rfl rfl ?_
        refine go_iconst (pc2 := 61) (v := (4 : Int32)) dX11_netOf_60 rfl (by decide) ?_
        obtain ⟨Q16, hC17, k⟩ := k
        refine gcV_I (pc2 := 64) (dC := 0) (As := [.int x1, .int (4 : Int32)]) (st := [.int v13, .int v8, .int x4]) rfl dX11_netOf_61 rfl w_1212 ok_X11_of1 vi_X11_of1 c_113 (by decide) rfl rfl rfl (by decide) (Nat.le_of_ble_eq_true rfl) hC17 (fun v18 h19 hq20 => ?_)
        have k := k v18 h19 hq20
        refine go_aload_n (pc2 := 65) dX11_netOf_64 rfl rfl rfl ?_
        refine gf_1056 (pc2 := 68) rfl dX11_netOf_65 rfl c_113 (fvs r_113_0) ?_
        refine go_bipush (pc2 := 70) (v := (14 : Int32)) dX11_netOf_68 rfl (by decide) ?_
        refine go_iload (pc2 := 72) dX11_netOf_70 rfl rfl ?_
        refine go_iadd (pc2 := 73) dX11_netOf_72 rfl ?_
        obtain ⟨y21, k⟩ := k
        refine go_iaload (pc2 := 74) (j := (((14 : Int32) + x5)).toNatClampNeg) dX11_netOf_73 rfl c_114 y21 rfl ?_
        refine go_isub (pc2 := 75) dX11_netOf_74 rfl ?_
        refine go_imul (pc2 := 76) dX11_netOf_75 rfl ?_
        refine go_iadd (pc2 := 77) dX11_netOf_76 rfl ?_
        refine go_iadd (pc2 := 78) dX11_netOf_77 rfl ?_
        refine go_istore (pc2 := 80) (ls2 := [(0, .ref 113), (1, .int x1), (2, .int x2), (3, .int x3), (4, .int (x4 + (v8 + (v13 * (v18 - (h19.1 114 (((14 : Int32) + x5)).toNatClampNeg)))))), (5, .int x5)]) dX11_netOf_78 rfl rfl rfl rfl rfl ?_
        refine go_iload (pc2 := 82) dX11_netOf_80 rfl rfl ?_
        refine go_iload_n (pc2 := 83) dX11_netOf_82 rfl rfl rfl ?_
        refine go_if_ge (pc2 := 86) (tgt := 96) dX11_netOf_83 rfl (by decide) (fun c => ?_) (fun c => ?_)
        · have k := k.1 c
          refine go_iconst (pc2 := 97) (v := (0 : Int32)) dX11_netOf_96 rfl (by decide) ?_
          exact Go.pick [0, 1, 2, 3, 5] rfl k
        · have k := k.2 c
          refine go_aload_n (pc2 := 87) dX11_netOf_86 rfl rfl rfl ?_
          refine go_iload_n (pc2 := 88) dX11_netOf_87 rfl rfl rfl ?_
          refine go_iload_n (pc2 := 89) dX11_netOf_88 rfl rfl rfl ?_
          refine go_ineg (pc2 := 90) dX11_netOf_89 rfl ?_
          obtain ⟨Q22, hC23, k⟩ := k
          refine gcV_I (pc2 := 93) (dC := 1) (As := [.int x1, .int (-x3)]) (st := [.int (x4 + (v8 + (v13 * (v18 - (h19.1 114 (((14 : Int32) + x5)).toNatClampNeg)))))]) rfl dX11_netOf_90 rfl w_1263 ok_X11_startsOf vi_X11_startsOf c_113 (by decide) rfl rfl rfl (by decide) (Nat.le_of_ble_eq_true rfl) hC23 (fun v24 h25 hq26 => ?_)
          have k := k v24 h25 hq26
          refine go_goto (tgt := 97) dX11_netOf_93 (by decide) ?_
          exact Go.pick [0, 1, 2, 3, 5] rfl k
      refine go_if_ge (pc2 := 50) (tgt := 54) dX11_netOf_47 rfl (by decide) (fun c => ?_) (fun c => ?_)
      · rw [if_pos c] at J
        exact go_iconst (pc2 := 55) dX11_netOf_54 rfl (by decide) J
      · rw [if_neg c] at J
        exact go_iconst (pc2 := 51) dX11_netOf_50 rfl (by decide) (go_goto (tgt := 55) dX11_netOf_51 (by decide) J)
theorem b_X11_netOf_100 {x1 : Int32} {x2 : Int32} {x3 : Int32} {x4 : Int32} {x5 : Int32} {h : Hp} {Q : Int32 → Hp → Prop}  (k : (∃ Q1, CtI 0 mX11_has [.int x2, .int x5] h Q1 ∧ ∀ (v3 : Int32) (h4 : Hp), Q1 v3 h4 → (∃ Q6, CtI 0 mX11_goesOn [.int x3, .int v3] h4 Q6 ∧ ∀ (v8 : Int32) (h9 : Hp), Q6 v8 h9 → GoI 3 mX11_netOf 14 [(0, .ref 113), (1, .int x1), (2, .int x2), (3, .int v8), (4, .int x4), (5, .int (x5 + 1))] [] h9 Q))) : GoI 3 mX11_netOf 100 [(0, .ref 113), (1, .int x1), (2, .int x2), (3, .int x3), (4, .int x4), (5, .int x5)] [] h Q := by
  refine go_iload_n (pc2 := 101) dX11_netOf_100 rfl rfl rfl ?_
  refine go_iload_n (pc2 := 102) dX11_netOf_101 rfl rfl rfl ?_
  refine go_iload (pc2 := 104) dX11_netOf_102 rfl rfl ?_
  obtain ⟨Q1, hC2, k⟩ := k
  refine gcS_I (pc2 := 107) (dC := 0) (As := [.int x2, .int x5]) (st := [.int x3]) rfl dX11_netOf_104 rfl w_1278 ok_X11_has w_1279 rfl (by decide) (Nat.le_of_ble_eq_true rfl) hC2 (fun v3 h4 hq5 => ?_)
  have k := k v3 h4 hq5
  obtain ⟨Q6, hC7, k⟩ := k
  refine gcS_I (pc2 := 110) (dC := 0) (As := [.int x3, .int v3]) (st := []) rfl dX11_netOf_107 rfl w_1285 ok_X11_goesOn w_1286 rfl (by decide) (Nat.le_of_ble_eq_true rfl) hC7 (fun v8 h9 hq10 => ?_)
  have k := k v8 h9 hq10
  refine go_istore_n (pc2 := 111) (ls2 := [(0, .ref 113), (1, .int x1), (2, .int x2), (3, .int v8), (4, .int x4), (5, .int x5)]) dX11_netOf_110 rfl rfl rfl rfl rfl rfl ?_
  refine go_iinc (pc2 := 114) (ls2 := [(0, .ref 113), (1, .int x1), (2, .int x2), (3, .int v8), (4, .int x4), (5, .int (x5 + 1))]) (v := (x5 + 1)) dX11_netOf_111 rfl rfl rfl rfl rfl rfl rfl ?_
  refine go_goto (tgt := 14) dX11_netOf_114 (by decide) ?_
  exact k
theorem b_X11_netOf_97 {x1 : Int32} {x2 : Int32} {x3 : Int32} {x5 : Int32} {s0 : Int32} {s1 : Int32} {h : Hp} {Q : Int32 → Hp → Prop}  (k : GoI 3 mX11_netOf 100 [(0, .ref 113), (1, .int x1), (2, .int x2), (3, .int x3), (4, .int (s0 + s1)), (5, .int x5)] [] h Q) : GoI 3 mX11_netOf 97 [(0, .ref 113), (1, .int x1), (2, .int x2), (3, .int x3), (5, .int x5)] [.int s1, .int s0] h Q := by
  refine go_iadd (pc2 := 98) dX11_netOf_97 rfl ?_
  refine go_istore (pc2 := 100) (ls2 := [(0, .ref 113), (1, .int x1), (2, .int x2), (3, .int x3), (4, .int (s0 + s1)), (5, .int x5)]) dX11_netOf_98 rfl rfl rfl rfl rfl ?_
  exact k
theorem e_X11_answerOf {x1 : Int32} {h : Hp} {Q : Int32 → Hp → Prop}  (k : GoI 4 mX11_answerOf 8 [(0, .ref 113), (1, .int x1), (2, .int (-9 : Int32)), (3, .int (0 : Int32)), (4, .int (0 : Int32))] [] h Q) : CtI 4 mX11_answerOf [.ref 113, .int x1] h Q := by
  refine Ct.of (by decide +kernel) (Nat.le_of_ble_eq_true rfl) ?_
  show GoI 4 mX11_answerOf 0 [(0, .ref 113), (1, .int x1)] [] h Q
  refine go_bipush (pc2 := 2) (v := (-9 : Int32)) dX11_answerOf_0 rfl (by decide) ?_
  refine go_istore_n (pc2 := 3) (ls2 := [(0, .ref 113), (1, .int x1), (2, .int (-9 : Int32))]) dX11_answerOf_2 rfl rfl rfl rfl rfl rfl ?_
  refine go_iconst (pc2 := 4) (v := (0 : Int32)) dX11_answerOf_3 rfl (by decide) ?_
  refine go_istore_n (pc2 := 5) (ls2 := [(0, .ref 113), (1, .int x1), (2, .int (-9 : Int32)), (3, .int (0 : Int32))]) dX11_answerOf_4 rfl rfl rfl rfl rfl rfl ?_
  refine go_iconst (pc2 := 6) (v := (0 : Int32)) dX11_answerOf_5 rfl (by decide) ?_
  refine go_istore (pc2 := 8) (ls2 := [(0, .ref 113), (1, .int x1), (2, .int (-9 : Int32)), (3, .int (0 : Int32)), (4, .int (0 : Int32))]) dX11_answerOf_6 rfl rfl rfl rfl rfl ?_
  exact k
theorem b_X11_answerOf_8 {x1 : Int32} {x2 : Int32} {x3 : Int32} {x4 : Int32} {h : Hp} {Q : Int32 → Hp → Prop}  (k : ((((1 : Int32) <<< ((h.1 114 0) &&& 31)) ≤ x4 → Q x2 h) ∧ (¬ (((1 : Int32) <<< ((h.1 114 0) &&& 31)) ≤ x4) → (∃ Q1, CtI 2 mX11_isLawful [.ref 113, .int x1, .int x4] h Q1 ∧ ∀ (v3 : Int32) (h4 : Hp), Q1 v3 h4 → ((v3 = 0 → GoI 4 mX11_answerOf 58 [(0, .ref 113), (1, .int x1), (2, .int x2), (3, .int x3), (4, .int x4)] [] h4 Q) ∧ (¬ v3 = 0 → (∃ Q6, CtI 3 mX11_netOf [.ref 113, .int x1, .int x4] h4 Q6 ∧ ∀ (v8 : Int32) (h9 : Hp), Q6 v8 h9 → ((x2 = (-9 : Int32) → GoI 4 mX11_answerOf 52 [(0, .ref 113), (1, .int x1), (4, .int x4), (5, .int v8)] [] h9 Q) ∧ (¬ x2 = (-9 : Int32) → ((x3 ≤ v8 → GoI 4 mX11_answerOf 58 [(0, .ref 113), (1, .int x1), (2, .int x2), (3, .int x3), (4, .int x4)] [] h9 Q) ∧ (¬ (x3 ≤ v8) → GoI 4 mX11_answerOf 52 [(0, .ref 113), (1, .int x1), (4, .int x4), (5, .int v8)] [] h9 Q))))))))))) : GoI 4 mX11_answerOf 8 [(0, .ref 113), (1, .int x1), (2, .int x2), (3, .int x3), (4, .int x4)] [] h Q := by
  refine go_iload (pc2 := 10) dX11_answerOf_8 rfl rfl ?_
  refine go_iconst (pc2 := 11) (v := (1 : Int32)) dX11_answerOf_10 rfl (by decide) ?_
  refine go_aload_n (pc2 := 12) dX11_answerOf_11 rfl rfl rfl ?_
  refine gf_1056 (pc2 := 15) rfl dX11_answerOf_12 rfl c_113 (fvs r_113_0) ?_
  refine go_iconst (pc2 := 16) (v := (0 : Int32)) dX11_answerOf_15 rfl (by decide) ?_
  refine go_iaload (pc2 := 17) (j := 0) dX11_answerOf_16 rfl c_114 (vp_c rfl) rfl ?_
  refine go_ishl (pc2 := 18) dX11_answerOf_17 rfl ?_
  refine go_icmp_ge (pc2 := 21) (tgt := 64) dX11_answerOf_18 rfl (by decide) (fun c => ?_) (fun c => ?_)
  · have k := k.1 c
    refine go_iload_n (pc2 := 65) dX11_answerOf_64 rfl rfl rfl ?_
    exact go_iret dX11_answerOf_65 ⟨_, rfl, rfl⟩ ⟨rfl, _, rfl, k⟩
  · have k := k.2 c
    refine go_aload_n (pc2 := 22) dX11_answerOf_21 rfl rfl rfl ?_
    refine go_iload_n (pc2 := 23) dX11_answerOf_22 rfl rfl rfl ?_
    refine go_iload (pc2 := 25) dX11_answerOf_23 rfl rfl ?_
    obtain ⟨Q1, hC2, k⟩ := k
    refine gcV_I (pc2 := 28) (dC := 2) (As := [.int x1, .int x4]) (st := []) rfl dX11_answerOf_25 rfl w_1274 ok_X11_isLawful vi_X11_isLawful c_113 (by decide) rfl rfl rfl (by decide) (Nat.le_of_ble_eq_true rfl) hC2 (fun v3 h4 hq5 => ?_)
    have k := k v3 h4 hq5
    refine go_if_eq (pc2 := 31) (tgt := 58) dX11_answerOf_28 rfl (by decide) (fun c => ?_) (fun c => ?_)
    · have k := k.1 c
      exact k
    · have k := k.2 c
      refine go_aload_n (pc2 := 32) dX11_answerOf_31 rfl rfl rfl ?_
      refine go_iload_n (pc2 := 33) dX11_answerOf_32 rfl rfl rfl ?_
      refine go_iload (pc2 := 35) dX11_answerOf_33 rfl rfl ?_
      obtain ⟨Q6, hC7, k⟩ := k
      refine gcV_I (pc2 := 38) (dC := 3) (As := [.int x1, .int x4]) (st := []) rfl dX11_answerOf_35 rfl w_1425 ok_X11_netOf vi_X11_netOf c_113 (by decide) rfl rfl rfl (by decide) (Nat.le_of_ble_eq_true rfl) hC7 (fun v8 h9 hq10 => ?_)
      have k := k v8 h9 hq10
      refine go_istore (pc2 := 40) (ls2 := [(0, .ref 113), (1, .int x1), (2, .int x2), (3, .int x3), (4, .int x4), (5, .int v8)]) dX11_answerOf_38 rfl rfl rfl rfl rfl ?_
      refine go_iload_n (pc2 := 41) dX11_answerOf_40 rfl rfl rfl ?_
      refine go_bipush (pc2 := 43) (v := (-9 : Int32)) dX11_answerOf_41 rfl (by decide) ?_
      refine go_icmp_eq (pc2 := 46) (tgt := 52) dX11_answerOf_43 rfl (by decide) (fun c => ?_) (fun c => ?_)
      · have k := k.1 c
        exact Go.pick [0, 1, 4, 5] rfl k
      · have k := k.2 c
        refine go_iload (pc2 := 48) dX11_answerOf_46 rfl rfl ?_
        refine go_iload_n (pc2 := 49) dX11_answerOf_48 rfl rfl rfl ?_
        refine go_icmp_ge (pc2 := 52) (tgt := 58) dX11_answerOf_49 rfl (by decide) (fun c => ?_) (fun c => ?_)
        · have k := k.1 c
          exact Go.pick [0, 1, 2, 3, 4] rfl k
        · have k := k.2 c
          exact Go.pick [0, 1, 4, 5] rfl k
theorem b_X11_answerOf_58 {x1 : Int32} {x2 : Int32} {x3 : Int32} {x4 : Int32} {h : Hp} {Q : Int32 → Hp → Prop}  (k : GoI 4 mX11_answerOf 8 [(0, .ref 113), (1, .int x1), (2, .int x2), (3, .int x3), (4, .int (x4 + 1))] [] h Q) : GoI 4 mX11_answerOf 58 [(0, .ref 113), (1, .int x1), (2, .int x2), (3, .int x3), (4, .int x4)] [] h Q := by
  refine go_iinc (pc2 := 61) (ls2 := [(0, .ref 113), (1, .int x1), (2, .int x2), (3, .int x3), (4, .int (x4 + 1))]) (v := (x4 + 1)) dX11_answerOf_58 rfl rfl rfl rfl rfl rfl rfl ?_
  refine go_goto (tgt := 8) dX11_answerOf_61 (by decide) ?_
  exact k
theorem b_X11_answerOf_52 {x1 : Int32} {x4 : Int32} {x5 : Int32} {h : Hp} {Q : Int32 → Hp → Prop}  (k : GoI 4 mX11_answerOf 58 [(0, .ref 113), (1, .int x1), (2, .int x4), (3, .int x5), (4, .int x4)] [] h Q) : GoI 4 mX11_answerOf 52 [(0, .ref 113), (1, .int x1), (4, .int x4), (5, .int x5)] [] h Q := by
  refine go_iload (pc2 := 54) dX11_answerOf_52 rfl rfl ?_
  refine go_istore_n (pc2 := 55) (ls2 := [(0, .ref 113), (1, .int x1), (2, .int x4), (4, .int x4), (5, .int x5)]) dX11_answerOf_54 rfl rfl rfl rfl rfl rfl ?_
  refine go_iload (pc2 := 57) dX11_answerOf_55 rfl rfl ?_
  refine go_istore_n (pc2 := 58) (ls2 := [(0, .ref 113), (1, .int x1), (2, .int x4), (3, .int x5), (4, .int x4), (5, .int x5)]) dX11_answerOf_57 rfl rfl rfl rfl rfl rfl ?_
  exact Go.pick [0, 1, 2, 3, 4] rfl k
theorem e_X11_givesBy {x1 : Int32} {x2 : Int32} {x3 : Int32} {h : Hp} {Q : Int32 → Hp → Prop}  (k : (∃ Q1, CtI 0 mX11_of1 [.ref 113, .int x1, .int (9 : Int32)] h Q1 ∧ ∀ (v3 : Int32) (h4 : Hp), Q1 v3 h4 → GoI 3 mX11_givesBy 12 [(0, .ref 113), (1, .int x1), (2, .int x2), (3, .int x3), (4, .int v3), (5, .int (0 : Int32))] [] h4 Q)) : CtI 3 mX11_givesBy [.ref 113, .int x1, .int x2, .int x3] h Q := by
  refine Ct.of (by decide +kernel) (Nat.le_of_ble_eq_true rfl) ?_
  show GoI 3 mX11_givesBy 0 [(0, .ref 113), (1, .int x1), (2, .int x2), (3, .int x3)] [] h Q
  refine go_aload_n (pc2 := 1) dX11_givesBy_0 rfl rfl rfl ?_
  refine go_iload_n (pc2 := 2) dX11_givesBy_1 rfl rfl rfl ?_
  refine go_bipush (pc2 := 4) (v := (9 : Int32)) dX11_givesBy_2 rfl (by decide) ?_
  obtain ⟨Q1, hC2, k⟩ := k
  refine gcV_I (pc2 := 7) (dC := 0) (As := [.int x1, .int (9 : Int32)]) (st := []) rfl dX11_givesBy_4 rfl w_1212 ok_X11_of1 vi_X11_of1 c_113 (by decide) rfl rfl rfl (by decide) (Nat.le_of_ble_eq_true rfl) hC2 (fun v3 h4 hq5 => ?_)
  have k := k v3 h4 hq5
  refine go_istore (pc2 := 9) (ls2 := [(0, .ref 113), (1, .int x1), (2, .int x2), (3, .int x3), (4, .int v3)]) dX11_givesBy_7 rfl rfl rfl rfl rfl ?_
  refine go_iconst (pc2 := 10) (v := (0 : Int32)) dX11_givesBy_9 rfl (by decide) ?_
  refine go_istore (pc2 := 12) (ls2 := [(0, .ref 113), (1, .int x1), (2, .int x2), (3, .int x3), (4, .int v3), (5, .int (0 : Int32))]) dX11_givesBy_10 rfl rfl rfl rfl rfl ?_
  exact k
theorem b_X11_givesBy_12 {x1 : Int32} {x2 : Int32} {x3 : Int32} {x4 : Int32} {x5 : Int32} {h : Hp} {Q : Int32 → Hp → Prop}  (k : ((x3 ≤ x5 → (∃ Q1, CtI 0 mX11_has [.int x2, .int x3] h Q1 ∧ ∀ (v3 : Int32) (h4 : Hp), Q1 v3 h4 → ((v3 = 0 → Q (0 : Int32) h4) ∧ (¬ v3 = 0 → (∃ Q6, CtI 2 mX11_answersIn [.ref 113, .int x1, .int x3, .int (if 0 ≤ x4 then (0 : Int32) else (1 : Int32))] h4 Q6 ∧ ∀ (v8 : Int32) (h9 : Hp), Q6 v8 h9 → Q v8 h9))))) ∧ (¬ (x3 ≤ x5) → (∃ Q11, CtI 0 mX11_has [.int x2, .int x5] h Q11 ∧ ∀ (v13 : Int32) (h14 : Hp), Q11 v13 h14 → (∃ Q16, CtI 0 mX11_goesOn [.int x4, .int v13] h14 Q16 ∧ ∀ (v18 : Int32) (h19 : Hp), Q16 v18 h19 → GoI 3 mX11_givesBy 12 [(0, .ref 113), (1, .int x1), (2, .int x2), (3, .int x3), (4, .int v18), (5, .int (x5 + 1))] [] h19 Q))))) : GoI 3 mX11_givesBy 12 [(0, .ref 113), (1, .int x1), (2, .int x2), (3, .int x3), (4, .int x4), (5, .int x5)] [] h Q := by
  refine go_iload (pc2 := 14) dX11_givesBy_12 rfl rfl ?_
  refine go_iload_n (pc2 := 15) dX11_givesBy_14 rfl rfl rfl ?_
  refine go_icmp_ge (pc2 := 18) (tgt := 37) dX11_givesBy_15 rfl (by decide) (fun c => ?_) (fun c => ?_)
  · have k := k.1 c
    refine go_iload_n (pc2 := 38) dX11_givesBy_37 rfl rfl rfl ?_
    refine go_iload_n (pc2 := 39) dX11_givesBy_38 rfl rfl rfl ?_
    obtain ⟨Q1, hC2, k⟩ := k
    refine gcS_I (pc2 := 42) (dC := 0) (As := [.int x2, .int x3]) (st := []) rfl dX11_givesBy_39 rfl w_1278 ok_X11_has w_1279 rfl (by decide) (Nat.le_of_ble_eq_true rfl) hC2 (fun v3 h4 hq5 => ?_)
    have k := k v3 h4 hq5
    refine go_if_eq (pc2 := 45) (tgt := 64) dX11_givesBy_42 rfl (by decide) (fun c => ?_) (fun c => ?_)
    · have k := k.1 c
      refine go_iconst (pc2 := 65) (v := (0 : Int32)) dX11_givesBy_64 rfl (by decide) ?_
      exact go_iret dX11_givesBy_65 ⟨_, rfl, rfl⟩ ⟨rfl, _, rfl, k⟩
    · have k := k.2 c
      refine go_aload_n (pc2 := 46) dX11_givesBy_45 rfl rfl rfl ?_
      refine go_iload_n (pc2 := 47) dX11_givesBy_46 rfl rfl rfl ?_
      refine go_iload_n (pc2 := 48) dX11_givesBy_47 rfl rfl rfl ?_
      refine go_iload (pc2 := 50) dX11_givesBy_48 rfl rfl ?_
      have J : GoI 3 mX11_givesBy 58 [(0, .ref 113), (1, .int x1), (2, .int x2), (3, .int x3), (4, .int x4), (5, .int x5)] [.int (if 0 ≤ x4 then (0 : Int32) else (1 : Int32)), .int x3, .int x1, .ref 113] h4 Q := by
        obtain ⟨Q6, hC7, k⟩ := k
        refine gcV_I (pc2 := 61) (dC := 2) (As := [.int x1, .int x3, .int (if 0 ≤ x4 then (0 : Int32) else (1 : Int32))]) (st := []) rfl dX11_givesBy_58 rfl w_1429 ok_X11_answersIn vi_X11_answersIn c_113 (by decide) rfl rfl rfl (by decide) (Nat.le_of_ble_eq_true rfl) hC7 (fun v8 h9 hq10 => ?_)
        have k := k v8 h9 hq10
        refine go_goto (tgt := 65) dX11_givesBy_61 (by decide) ?_
        exact go_iret dX11_givesBy_65 ⟨_, rfl, rfl⟩ ⟨rfl, _, rfl, k⟩
      refine go_if_ge (pc2 := 53) (tgt := 57) dX11_givesBy_50 rfl (by decide) (fun c => ?_) (fun c => ?_)
      · rw [if_pos c] at J
        exact go_iconst (pc2 := 58) dX11_givesBy_57 rfl (by decide) J
      · rw [if_neg c] at J
        exact go_iconst (pc2 := 54) dX11_givesBy_53 rfl (by decide) (go_goto (tgt := 58) dX11_givesBy_54 (by decide) J)
  · have k := k.2 c
    refine go_iload (pc2 := 20) dX11_givesBy_18 rfl rfl ?_
    refine go_iload_n (pc2 := 21) dX11_givesBy_20 rfl rfl rfl ?_
    refine go_iload (pc2 := 23) dX11_givesBy_21 rfl rfl ?_
    obtain ⟨Q11, hC12, k⟩ := k
    refine gcS_I (pc2 := 26) (dC := 0) (As := [.int x2, .int x5]) (st := [.int x4]) rfl dX11_givesBy_23 rfl w_1278 ok_X11_has w_1279 rfl (by decide) (Nat.le_of_ble_eq_true rfl) hC12 (fun v13 h14 hq15 => ?_)
    have k := k v13 h14 hq15
    obtain ⟨Q16, hC17, k⟩ := k
    refine gcS_I (pc2 := 29) (dC := 0) (As := [.int x4, .int v13]) (st := []) rfl dX11_givesBy_26 rfl w_1285 ok_X11_goesOn w_1286 rfl (by decide) (Nat.le_of_ble_eq_true rfl) hC17 (fun v18 h19 hq20 => ?_)
    have k := k v18 h19 hq20
    refine go_istore (pc2 := 31) (ls2 := [(0, .ref 113), (1, .int x1), (2, .int x2), (3, .int x3), (4, .int v18), (5, .int x5)]) dX11_givesBy_29 rfl rfl rfl rfl rfl ?_
    refine go_iinc (pc2 := 34) (ls2 := [(0, .ref 113), (1, .int x1), (2, .int x2), (3, .int x3), (4, .int v18), (5, .int (x5 + 1))]) (v := (x5 + 1)) dX11_givesBy_31 rfl rfl rfl rfl rfl rfl rfl ?_
    refine go_goto (tgt := 12) dX11_givesBy_34 (by decide) ?_
    exact k
theorem e_X11_answer {x1 : Int32} {x2 : Int32} {h : Hp} {Q : Int64 → Hp → Prop}  (k : (∃ Q1, CtI 1 mX11_isPlant [.ref 113, .int x1] h Q1 ∧ ∀ (v3 : Int32) (h4 : Hp), Q1 v3 h4 → ((¬ v3 = 0 → (∃ Q6, CtI 0 mX11_isIn [.long (x2).toInt64, .long (0 : Int64), .long (2 : Int64)] h4 Q6 ∧ ∀ (v8 : Int32) (h9 : Hp), Q6 v8 h9 → ((¬ v8 = 0 → (∃ Q11, CtI 4 mX11_answerOf [.ref 113, .int x1] h9 Q11 ∧ ∀ (v13 : Int32) (h14 : Hp), Q11 v13 h14 → (((2 : Int32) ≤ x2 → GoL 5 mX11_answer 67 [(0, .ref 113), (1, .int x1), (3, .int v13), (4, .int (0 : Int32)), (5, .int (0 : Int32))] [] h14 Q) ∧ (¬ ((2 : Int32) ≤ x2) → ((¬ x2 = 0 → (∃ Q16, CtI 3 mX11_netOf [.ref 113, .int x1, .int v13] h14 Q16 ∧ ∀ (v18 : Int32) (h19 : Hp), Q16 v18 h19 → Q (v18).toInt64 h19)) ∧ (x2 = 0 → Q (v13).toInt64 h14)))))) ∧ (v8 = 0 → (∃ Q21, CtL 1 mX11_noWide [.ref 113, .int (-2 : Int32)] h9 Q21 ∧ ∀ (v23 : Int64) (h24 : Hp), Q21 v23 h24 → Q v23 h24))))) ∧ (v3 = 0 → (∃ Q26, CtL 1 mX11_noWide [.ref 113, .int (-1 : Int32)] h4 Q26 ∧ ∀ (v28 : Int64) (h29 : Hp), Q26 v28 h29 → Q v28 h29))))) : CtL 5 mX11_answer [.ref 113, .int x1, .int x2] h Q := by
  refine Ct.of (by decide +kernel) (Nat.le_of_ble_eq_true rfl) ?_
  show GoL 5 mX11_answer 0 [(0, .ref 113), (1, .int x1), (2, .int x2)] [] h Q
  refine go_aload_n (pc2 := 1) dX11_answer_0 rfl rfl rfl ?_
  refine go_iload_n (pc2 := 2) dX11_answer_1 rfl rfl rfl ?_
  obtain ⟨Q1, hC2, k⟩ := k
  refine gcV_I (pc2 := 5) (dC := 1) (As := [.int x1]) (st := []) rfl dX11_answer_2 rfl w_1208 ok_X11_isPlant vi_X11_isPlant c_113 (by decide) rfl rfl rfl (by decide) (Nat.le_of_ble_eq_true rfl) hC2 (fun v3 h4 hq5 => ?_)
  have k := k v3 h4 hq5
  refine go_if_ne (pc2 := 8) (tgt := 14) dX11_answer_5 rfl (by decide) (fun c => ?_) (fun c => ?_)
  · have k := k.1 c
    refine go_iload_n (pc2 := 15) dX11_answer_14 rfl rfl rfl ?_
    refine go_i2l (pc2 := 16) dX11_answer_15 rfl ?_
    refine go_lconst (pc2 := 17) (v := (0 : Int64)) dX11_answer_16 rfl (by decide) ?_
    refine go_ldc2 (pc2 := 20) dX11_answer_17 rfl rfl w_1244 ?_
    obtain ⟨Q6, hC7, k⟩ := k
    refine gcS_I (pc2 := 23) (dC := 0) (As := [.long (x2).toInt64, .long (0 : Int64), .long (2 : Int64)]) (st := []) rfl dX11_answer_20 rfl w_1177 ok_X11_isIn w_1178 rfl (by decide) (Nat.le_of_ble_eq_true rfl) hC7 (fun v8 h9 hq10 => ?_)
    have k := k v8 h9 hq10
    refine go_if_ne (pc2 := 26) (tgt := 33) dX11_answer_23 rfl (by decide) (fun c => ?_) (fun c => ?_)
    · have k := k.1 c
      refine go_aload_n (pc2 := 34) dX11_answer_33 rfl rfl rfl ?_
      refine go_iload_n (pc2 := 35) dX11_answer_34 rfl rfl rfl ?_
      obtain ⟨Q11, hC12, k⟩ := k
      refine gcV_I (pc2 := 38) (dC := 4) (As := [.int x1]) (st := []) rfl dX11_answer_35 rfl w_1421 ok_X11_answerOf vi_X11_answerOf c_113 (by decide) rfl rfl rfl (by decide) (Nat.le_of_ble_eq_true rfl) hC12 (fun v13 h14 hq15 => ?_)
      have k := k v13 h14 hq15
      refine go_istore_n (pc2 := 39) (ls2 := [(0, .ref 113), (1, .int x1), (2, .int x2), (3, .int v13)]) dX11_answer_38 rfl rfl rfl rfl rfl rfl ?_
      refine go_iload_n (pc2 := 40) dX11_answer_39 rfl rfl rfl ?_
      refine go_iconst (pc2 := 41) (v := (2 : Int32)) dX11_answer_40 rfl (by decide) ?_
      refine go_icmp_ge (pc2 := 44) (tgt := 61) dX11_answer_41 rfl (by decide) (fun c => ?_) (fun c => ?_)
      · have k := k.1 c
        refine go_iconst (pc2 := 62) (v := (0 : Int32)) dX11_answer_61 rfl (by decide) ?_
        refine go_istore (pc2 := 64) (ls2 := [(0, .ref 113), (1, .int x1), (2, .int x2), (3, .int v13), (4, .int (0 : Int32))]) dX11_answer_62 rfl rfl rfl rfl rfl ?_
        refine go_iconst (pc2 := 65) (v := (0 : Int32)) dX11_answer_64 rfl (by decide) ?_
        refine go_istore (pc2 := 67) (ls2 := [(0, .ref 113), (1, .int x1), (2, .int x2), (3, .int v13), (4, .int (0 : Int32)), (5, .int (0 : Int32))]) dX11_answer_65 rfl rfl rfl rfl rfl ?_
        exact Go.pick [0, 1, 3, 4, 5] rfl k
      · have k := k.2 c
        refine go_iload_n (pc2 := 45) dX11_answer_44 rfl rfl rfl ?_
        refine go_if_ne (pc2 := 48) (tgt := 53) dX11_answer_45 rfl (by decide) (fun c => ?_) (fun c => ?_)
        · have k := k.1 c
          refine go_aload_n (pc2 := 54) dX11_answer_53 rfl rfl rfl ?_
          refine go_iload_n (pc2 := 55) dX11_answer_54 rfl rfl rfl ?_
          refine go_iload_n (pc2 := 56) dX11_answer_55 rfl rfl rfl ?_
          obtain ⟨Q16, hC17, k⟩ := k
          refine gcV_I (pc2 := 59) (dC := 3) (As := [.int x1, .int v13]) (st := []) rfl dX11_answer_56 rfl w_1425 ok_X11_netOf vi_X11_netOf c_113 (by decide) rfl rfl rfl (by decide) (Nat.le_of_ble_eq_true rfl) hC17 (fun v18 h19 hq20 => ?_)
          have k := k v18 h19 hq20
          refine go_i2l (pc2 := 60) dX11_answer_59 rfl ?_
          exact go_lret dX11_answer_60 rfl ⟨rfl, _, rfl, k⟩
        · have k := k.2 c
          refine go_iload_n (pc2 := 49) dX11_answer_48 rfl rfl rfl ?_
          refine go_i2l (pc2 := 50) dX11_answer_49 rfl ?_
          refine go_goto (tgt := 60) dX11_answer_50 (by decide) ?_
          exact go_lret dX11_answer_60 rfl ⟨rfl, _, rfl, k⟩
    · have k := k.2 c
      refine go_aload_n (pc2 := 27) dX11_answer_26 rfl rfl rfl ?_
      refine go_bipush (pc2 := 29) (v := (-2 : Int32)) dX11_answer_27 rfl (by decide) ?_
      obtain ⟨Q21, hC22, k⟩ := k
      refine gcV_L (pc2 := 32) (dC := 1) (As := [.int (-2 : Int32)]) (st := []) rfl dX11_answer_29 rfl w_1382 ok_X11_noWide vi_X11_noWide c_113 (by decide) rfl rfl rfl (by decide) (Nat.le_of_ble_eq_true rfl) hC22 (fun v23 h24 hq25 => ?_)
      have k := k v23 h24 hq25
      exact go_lret dX11_answer_32 rfl ⟨rfl, _, rfl, k⟩
  · have k := k.2 c
    refine go_aload_n (pc2 := 9) dX11_answer_8 rfl rfl rfl ?_
    refine go_iconst (pc2 := 10) (v := (-1 : Int32)) dX11_answer_9 rfl (by decide) ?_
    obtain ⟨Q26, hC27, k⟩ := k
    refine gcV_L (pc2 := 13) (dC := 1) (As := [.int (-1 : Int32)]) (st := []) rfl dX11_answer_10 rfl w_1382 ok_X11_noWide vi_X11_noWide c_113 (by decide) rfl rfl rfl (by decide) (Nat.le_of_ble_eq_true rfl) hC27 (fun v28 h29 hq30 => ?_)
    have k := k v28 h29 hq30
    exact go_lret dX11_answer_13 rfl ⟨rfl, _, rfl, k⟩
theorem b_X11_answer_67 {x1 : Int32} {x3 : Int32} {x4 : Int32} {x5 : Int32} {h : Hp} {Q : Int64 → Hp → Prop}  (k : (((h.1 114 0) ≤ x5 → Q (x4).toInt64 h) ∧ (¬ ((h.1 114 0) ≤ x5) → (∃ Q1, CtI 3 mX11_givesBy [.ref 113, .int x1, .int x3, .int x5] h Q1 ∧ ∀ (v3 : Int32) (h4 : Hp), Q1 v3 h4 → GoL 5 mX11_answer 67 [(0, .ref 113), (1, .int x1), (3, .int x3), (4, .int (x4 + v3)), (5, .int (x5 + 1))] [] h4 Q)))) : GoL 5 mX11_answer 67 [(0, .ref 113), (1, .int x1), (3, .int x3), (4, .int x4), (5, .int x5)] [] h Q := by
  refine go_iload (pc2 := 69) dX11_answer_67 rfl rfl ?_
  refine go_aload_n (pc2 := 70) dX11_answer_69 rfl rfl rfl ?_
  refine gf_1056 (pc2 := 73) rfl dX11_answer_70 rfl c_113 (fvs r_113_0) ?_
  refine go_iconst (pc2 := 74) (v := (0 : Int32)) dX11_answer_73 rfl (by decide) ?_
  refine go_iaload (pc2 := 75) (j := 0) dX11_answer_74 rfl c_114 (vp_c rfl) rfl ?_
  refine go_icmp_ge (pc2 := 78) (tgt := 97) dX11_answer_75 rfl (by decide) (fun c => ?_) (fun c => ?_)
  · have k := k.1 c
    refine go_iload (pc2 := 99) dX11_answer_97 rfl rfl ?_
    refine go_i2l (pc2 := 100) dX11_answer_99 rfl ?_
    exact go_lret dX11_answer_100 rfl ⟨rfl, _, rfl, k⟩
  · have k := k.2 c
    refine go_iload (pc2 := 80) dX11_answer_78 rfl rfl ?_
    refine go_aload_n (pc2 := 81) dX11_answer_80 rfl rfl rfl ?_
    refine go_iload_n (pc2 := 82) dX11_answer_81 rfl rfl rfl ?_
    refine go_iload_n (pc2 := 83) dX11_answer_82 rfl rfl rfl ?_
    refine go_iload (pc2 := 85) dX11_answer_83 rfl rfl ?_
    obtain ⟨Q1, hC2, k⟩ := k
    refine gcV_I (pc2 := 88) (dC := 3) (As := [.int x1, .int x3, .int x5]) (st := [.int x4]) rfl dX11_answer_85 rfl w_1433 ok_X11_givesBy vi_X11_givesBy c_113 (by decide) rfl rfl rfl (by decide) (Nat.le_of_ble_eq_true rfl) hC2 (fun v3 h4 hq5 => ?_)
    have k := k v3 h4 hq5
    refine go_iadd (pc2 := 89) dX11_answer_88 rfl ?_
    refine go_istore (pc2 := 91) (ls2 := [(0, .ref 113), (1, .int x1), (3, .int x3), (4, .int (x4 + v3)), (5, .int x5)]) dX11_answer_89 rfl rfl rfl rfl rfl ?_
    refine go_iinc (pc2 := 94) (ls2 := [(0, .ref 113), (1, .int x1), (3, .int x3), (4, .int (x4 + v3)), (5, .int (x5 + 1))]) (v := (x5 + 1)) dX11_answer_91 rfl rfl rfl rfl rfl rfl rfl ?_
    refine go_goto (tgt := 67) dX11_answer_94 (by decide) ?_
    exact k
theorem e_X11_bound  {h : Hp} {Q : Int32 → Hp → Prop}  (k : GoI 5 mX11_bound 4 [(0, .ref 113), (1, .int (0 : Int32)), (2, .int (0 : Int32))] [] h Q) : CtI 5 mX11_bound [.ref 113] h Q := by
  refine Ct.of (by decide +kernel) (Nat.le_of_ble_eq_true rfl) ?_
  show GoI 5 mX11_bound 0 [(0, .ref 113)] [] h Q
  refine go_iconst (pc2 := 1) (v := (0 : Int32)) dX11_bound_0 rfl (by decide) ?_
  refine go_istore_n (pc2 := 2) (ls2 := [(0, .ref 113), (1, .int (0 : Int32))]) dX11_bound_1 rfl rfl rfl rfl rfl rfl ?_
  refine go_iconst (pc2 := 3) (v := (0 : Int32)) dX11_bound_2 rfl (by decide) ?_
  refine go_istore_n (pc2 := 4) (ls2 := [(0, .ref 113), (1, .int (0 : Int32)), (2, .int (0 : Int32))]) dX11_bound_3 rfl rfl rfl rfl rfl rfl ?_
  exact k
theorem b_X11_bound_4 {x1 : Int32} {x2 : Int32} {h : Hp} {Q : Int32 → Hp → Prop}  (k : (((h.1 114 0) ≤ x2 → GoI 5 mX11_bound 43 [(0, .ref 113), (1, .int x1), (2, .int (0 : Int32))] [] h Q) ∧ (¬ ((h.1 114 0) ≤ x2) → (vp_in ((14 : Int32) + x2) 49 ∧ (vp_in ((4 : Int32) + x2) 49 ∧ GoI 5 mX11_bound 4 [(0, .ref 113), (1, .int (x1 + ((h.1 114 (((14 : Int32) + x2)).toNatClampNeg) * (h.1 114 (((4 : Int32) + x2)).toNatClampNeg)))), (2, .int (x2 + 1))] [] h Q))))) : GoI 5 mX11_bound 4 [(0, .ref 113), (1, .int x1), (2, .int x2)] [] h Q := by
  refine go_iload_n (pc2 := 5) dX11_bound_4 rfl rfl rfl ?_
  refine go_aload_n (pc2 := 6) dX11_bound_5 rfl rfl rfl ?_
  refine gf_1056 (pc2 := 9) rfl dX11_bound_6 rfl c_113 (fvs r_113_0) ?_
  refine go_iconst (pc2 := 10) (v := (0 : Int32)) dX11_bound_9 rfl (by decide) ?_
  refine go_iaload (pc2 := 11) (j := 0) dX11_bound_10 rfl c_114 (vp_c rfl) rfl ?_
  refine go_icmp_ge (pc2 := 14) (tgt := 41) dX11_bound_11 rfl (by decide) (fun c => ?_) (fun c => ?_)
  · have k := k.1 c
    refine go_iconst (pc2 := 42) (v := (0 : Int32)) dX11_bound_41 rfl (by decide) ?_
    refine go_istore_n (pc2 := 43) (ls2 := [(0, .ref 113), (1, .int x1), (2, .int (0 : Int32))]) dX11_bound_42 rfl rfl rfl rfl rfl rfl ?_
    exact k
  · have k := k.2 c
    refine go_iload_n (pc2 := 15) dX11_bound_14 rfl rfl rfl ?_
    refine go_aload_n (pc2 := 16) dX11_bound_15 rfl rfl rfl ?_
    refine gf_1056 (pc2 := 19) rfl dX11_bound_16 rfl c_113 (fvs r_113_0) ?_
    refine go_bipush (pc2 := 21) (v := (14 : Int32)) dX11_bound_19 rfl (by decide) ?_
    refine go_iload_n (pc2 := 22) dX11_bound_21 rfl rfl rfl ?_
    refine go_iadd (pc2 := 23) dX11_bound_22 rfl ?_
    obtain ⟨y1, k⟩ := k
    refine go_iaload (pc2 := 24) (j := (((14 : Int32) + x2)).toNatClampNeg) dX11_bound_23 rfl c_114 y1 rfl ?_
    refine go_aload_n (pc2 := 25) dX11_bound_24 rfl rfl rfl ?_
    refine gf_1056 (pc2 := 28) rfl dX11_bound_25 rfl c_113 (fvs r_113_0) ?_
    refine go_iconst (pc2 := 29) (v := (4 : Int32)) dX11_bound_28 rfl (by decide) ?_
    refine go_iload_n (pc2 := 30) dX11_bound_29 rfl rfl rfl ?_
    refine go_iadd (pc2 := 31) dX11_bound_30 rfl ?_
    obtain ⟨y2, k⟩ := k
    refine go_iaload (pc2 := 32) (j := (((4 : Int32) + x2)).toNatClampNeg) dX11_bound_31 rfl c_114 y2 rfl ?_
    refine go_imul (pc2 := 33) dX11_bound_32 rfl ?_
    refine go_iadd (pc2 := 34) dX11_bound_33 rfl ?_
    refine go_istore_n (pc2 := 35) (ls2 := [(0, .ref 113), (1, .int (x1 + ((h.1 114 (((14 : Int32) + x2)).toNatClampNeg) * (h.1 114 (((4 : Int32) + x2)).toNatClampNeg)))), (2, .int x2)]) dX11_bound_34 rfl rfl rfl rfl rfl rfl ?_
    refine go_iinc (pc2 := 38) (ls2 := [(0, .ref 113), (1, .int (x1 + ((h.1 114 (((14 : Int32) + x2)).toNatClampNeg) * (h.1 114 (((4 : Int32) + x2)).toNatClampNeg)))), (2, .int (x2 + 1))]) (v := (x2 + 1)) dX11_bound_35 rfl rfl rfl rfl rfl rfl rfl ?_
    refine go_goto (tgt := 4) dX11_bound_38 (by decide) ?_
    exact k
theorem b_X11_bound_43 {x1 : Int32} {x2 : Int32} {h : Hp} {Q : Int32 → Hp → Prop}  (k : (((h.1 114 3) ≤ x2 → Q x1 h) ∧ (¬ ((h.1 114 3) ≤ x2) → (∃ Q1, CtI 4 mX11_answerOf [.ref 113, .int x2] h Q1 ∧ ∀ (v3 : Int32) (h4 : Hp), Q1 v3 h4 → (∃ Q6, CtI 3 mX11_netOf [.ref 113, .int x2, .int v3] h4 Q6 ∧ ∀ (v8 : Int32) (h9 : Hp), Q6 v8 h9 → GoI 5 mX11_bound 43 [(0, .ref 113), (1, .int (x1 + v8)), (2, .int (x2 + 1))] [] h9 Q))))) : GoI 5 mX11_bound 43 [(0, .ref 113), (1, .int x1), (2, .int x2)] [] h Q := by
  refine go_iload_n (pc2 := 44) dX11_bound_43 rfl rfl rfl ?_
  refine go_aload_n (pc2 := 45) dX11_bound_44 rfl rfl rfl ?_
  refine gf_1056 (pc2 := 48) rfl dX11_bound_45 rfl c_113 (fvs r_113_0) ?_
  refine go_iconst (pc2 := 49) (v := (3 : Int32)) dX11_bound_48 rfl (by decide) ?_
  refine go_iaload (pc2 := 50) (j := 3) dX11_bound_49 rfl c_114 (vp_c rfl) rfl ?_
  refine go_icmp_ge (pc2 := 53) (tgt := 72) dX11_bound_50 rfl (by decide) (fun c => ?_) (fun c => ?_)
  · have k := k.1 c
    refine go_iload_n (pc2 := 73) dX11_bound_72 rfl rfl rfl ?_
    exact go_iret dX11_bound_73 ⟨_, rfl, rfl⟩ ⟨rfl, _, rfl, k⟩
  · have k := k.2 c
    refine go_iload_n (pc2 := 54) dX11_bound_53 rfl rfl rfl ?_
    refine go_aload_n (pc2 := 55) dX11_bound_54 rfl rfl rfl ?_
    refine go_iload_n (pc2 := 56) dX11_bound_55 rfl rfl rfl ?_
    refine go_aload_n (pc2 := 57) dX11_bound_56 rfl rfl rfl ?_
    refine go_iload_n (pc2 := 58) dX11_bound_57 rfl rfl rfl ?_
    obtain ⟨Q1, hC2, k⟩ := k
    refine gcV_I (pc2 := 61) (dC := 4) (As := [.int x2]) (st := [.int x2, .ref 113, .int x1]) rfl dX11_bound_58 rfl w_1421 ok_X11_answerOf vi_X11_answerOf c_113 (by decide) rfl rfl rfl (by decide) (Nat.le_of_ble_eq_true rfl) hC2 (fun v3 h4 hq5 => ?_)
    have k := k v3 h4 hq5
    obtain ⟨Q6, hC7, k⟩ := k
    refine gcV_I (pc2 := 64) (dC := 3) (As := [.int x2, .int v3]) (st := [.int x1]) rfl dX11_bound_61 rfl w_1425 ok_X11_netOf vi_X11_netOf c_113 (by decide) rfl rfl rfl (by decide) (Nat.le_of_ble_eq_true rfl) hC7 (fun v8 h9 hq10 => ?_)
    have k := k v8 h9 hq10
    refine go_iadd (pc2 := 65) dX11_bound_64 rfl ?_
    refine go_istore_n (pc2 := 66) (ls2 := [(0, .ref 113), (1, .int (x1 + v8)), (2, .int x2)]) dX11_bound_65 rfl rfl rfl rfl rfl rfl ?_
    refine go_iinc (pc2 := 69) (ls2 := [(0, .ref 113), (1, .int (x1 + v8)), (2, .int (x2 + 1))]) (v := (x2 + 1)) dX11_bound_66 rfl rfl rfl rfl rfl rfl rfl ?_
    refine go_goto (tgt := 43) dX11_bound_69 (by decide) ?_
    exact k
theorem e_X11_round {x1 : Int32} {h : Hp} {Q : Hp → Prop}  (k : GoV 5 mX11_round 2 [(0, .ref 113), (1, .int x1), (2, .int (0 : Int32))] [] h Q) : CtV 5 mX11_round [.ref 113, .int x1] h Q := by
  refine Ct.of (by decide +kernel) (Nat.le_of_ble_eq_true rfl) ?_
  show GoV 5 mX11_round 0 [(0, .ref 113), (1, .int x1)] [] h Q
  refine go_iconst (pc2 := 1) (v := (0 : Int32)) dX11_round_0 rfl (by decide) ?_
  refine go_istore_n (pc2 := 2) (ls2 := [(0, .ref 113), (1, .int x1), (2, .int (0 : Int32))]) dX11_round_1 rfl rfl rfl rfl rfl rfl ?_
  exact k
theorem b_X11_round_2 {x1 : Int32} {x2 : Int32} {h : Hp} {Q : Hp → Prop}  (k : (((h.1 114 3) ≤ x2 → GoV 5 mX11_round 31 [(0, .ref 113), (1, .int x1), (2, .int (0 : Int32))] [] h Q) ∧ (¬ ((h.1 114 3) ≤ x2) → (∃ Q1, CtI 4 mX11_answerOf [.ref 113, .int x2] h Q1 ∧ ∀ (v3 : Int32) (h4 : Hp), Q1 v3 h4 → (vp_in x2 3 ∧ (∀ g7 : Hp, g7 = (ui h4 125 (x2).toNatClampNeg v3) → GoV 5 mX11_round 2 [(0, .ref 113), (1, .int x1), (2, .int (x2 + 1))] [] g7 Q)))))) : GoV 5 mX11_round 2 [(0, .ref 113), (1, .int x1), (2, .int x2)] [] h Q := by
  refine go_iload_n (pc2 := 3) dX11_round_2 rfl rfl rfl ?_
  refine go_aload_n (pc2 := 4) dX11_round_3 rfl rfl rfl ?_
  refine gf_1056 (pc2 := 7) rfl dX11_round_4 rfl c_113 (fvs r_113_0) ?_
  refine go_iconst (pc2 := 8) (v := (3 : Int32)) dX11_round_7 rfl (by decide) ?_
  refine go_iaload (pc2 := 9) (j := 3) dX11_round_8 rfl c_114 (vp_c rfl) rfl ?_
  refine go_icmp_ge (pc2 := 12) (tgt := 29) dX11_round_9 rfl (by decide) (fun c => ?_) (fun c => ?_)
  · have k := k.1 c
    refine go_iconst (pc2 := 30) (v := (0 : Int32)) dX11_round_29 rfl (by decide) ?_
    refine go_istore_n (pc2 := 31) (ls2 := [(0, .ref 113), (1, .int x1), (2, .int (0 : Int32))]) dX11_round_30 rfl rfl rfl rfl rfl rfl ?_
    exact k
  · have k := k.2 c
    refine go_aload_n (pc2 := 13) dX11_round_12 rfl rfl rfl ?_
    refine gf_1072 (pc2 := 16) rfl dX11_round_13 rfl c_113 (fvs r_113_16) ?_
    refine go_iload_n (pc2 := 17) dX11_round_16 rfl rfl rfl ?_
    refine go_aload_n (pc2 := 18) dX11_round_17 rfl rfl rfl ?_
    refine go_iload_n (pc2 := 19) dX11_round_18 rfl rfl rfl ?_
    obtain ⟨Q1, hC2, k⟩ := k
    refine gcV_I (pc2 := 22) (dC := 4) (As := [.int x2]) (st := [.int x2, .ref 125]) rfl dX11_round_19 rfl w_1421 ok_X11_answerOf vi_X11_answerOf c_113 (by decide) rfl rfl rfl (by decide) (Nat.le_of_ble_eq_true rfl) hC2 (fun v3 h4 hq5 => ?_)
    have k := k v3 h4 hq5
    obtain ⟨y6, k⟩ := k
    refine go_iastore (pc2 := 23) (j := (x2).toNatClampNeg) dX11_round_22 rfl c_125 y6 rfl ?_
    obtain ⟨g7, eg7⟩ : ∃ y : Hp, y = (ui h4 125 (x2).toNatClampNeg v3) := ⟨_, rfl⟩
    rw [← eg7]
    have k := k g7 eg7
    refine go_iinc (pc2 := 26) (ls2 := [(0, .ref 113), (1, .int x1), (2, .int (x2 + 1))]) (v := (x2 + 1)) dX11_round_23 rfl rfl rfl rfl rfl rfl rfl ?_
    refine go_goto (tgt := 2) dX11_round_26 (by decide) ?_
    exact k
theorem b_X11_round_31 {x1 : Int32} {x2 : Int32} {h : Hp} {Q : Hp → Prop}  (k : (((h.1 114 0) ≤ x2 → GoV 5 mX11_round 102 [(0, .ref 113), (1, .int x1), (2, .int (0 : Int32))] [] h Q) ∧ (¬ ((h.1 114 0) ≤ x2) → (vp_in ((4 : Int32) + x2) 49 ∧ (vp_in x2 5 ∧ (∀ g3 : Hp, g3 = (ui h 126 (x2).toNatClampNeg (h.1 114 (((4 : Int32) + x2)).toNatClampNeg)) → GoV 5 mX11_round 57 [(0, .ref 113), (1, .int x1), (2, .int x2), (3, .int (0 : Int32))] [] g3 Q)))))) : GoV 5 mX11_round 31 [(0, .ref 113), (1, .int x1), (2, .int x2)] [] h Q := by
  refine go_iload_n (pc2 := 32) dX11_round_31 rfl rfl rfl ?_
  refine go_aload_n (pc2 := 33) dX11_round_32 rfl rfl rfl ?_
  refine gf_1056 (pc2 := 36) rfl dX11_round_33 rfl c_113 (fvs r_113_0) ?_
  refine go_iconst (pc2 := 37) (v := (0 : Int32)) dX11_round_36 rfl (by decide) ?_
  refine go_iaload (pc2 := 38) (j := 0) dX11_round_37 rfl c_114 (vp_c rfl) rfl ?_
  refine go_icmp_ge (pc2 := 41) (tgt := 100) dX11_round_38 rfl (by decide) (fun c => ?_) (fun c => ?_)
  · have k := k.1 c
    refine go_iconst (pc2 := 101) (v := (0 : Int32)) dX11_round_100 rfl (by decide) ?_
    refine go_istore_n (pc2 := 102) (ls2 := [(0, .ref 113), (1, .int x1), (2, .int (0 : Int32))]) dX11_round_101 rfl rfl rfl rfl rfl rfl ?_
    exact k
  · have k := k.2 c
    refine go_aload_n (pc2 := 42) dX11_round_41 rfl rfl rfl ?_
    refine gf_1073 (pc2 := 45) rfl dX11_round_42 rfl c_113 (fvs r_113_17) ?_
    refine go_iload_n (pc2 := 46) dX11_round_45 rfl rfl rfl ?_
    refine go_aload_n (pc2 := 47) dX11_round_46 rfl rfl rfl ?_
    refine gf_1056 (pc2 := 50) rfl dX11_round_47 rfl c_113 (fvs r_113_0) ?_
    refine go_iconst (pc2 := 51) (v := (4 : Int32)) dX11_round_50 rfl (by decide) ?_
    refine go_iload_n (pc2 := 52) dX11_round_51 rfl rfl rfl ?_
    refine go_iadd (pc2 := 53) dX11_round_52 rfl ?_
    obtain ⟨y1, k⟩ := k
    refine go_iaload (pc2 := 54) (j := (((4 : Int32) + x2)).toNatClampNeg) dX11_round_53 rfl c_114 y1 rfl ?_
    obtain ⟨y2, k⟩ := k
    refine go_iastore (pc2 := 55) (j := (x2).toNatClampNeg) dX11_round_54 rfl c_126 y2 rfl ?_
    obtain ⟨g3, eg3⟩ : ∃ y : Hp, y = (ui h 126 (x2).toNatClampNeg (h.1 114 (((4 : Int32) + x2)).toNatClampNeg)) := ⟨_, rfl⟩
    rw [← eg3]
    have k := k g3 eg3
    refine go_iconst (pc2 := 56) (v := (0 : Int32)) dX11_round_55 rfl (by decide) ?_
    refine go_istore_n (pc2 := 57) (ls2 := [(0, .ref 113), (1, .int x1), (2, .int x2), (3, .int (0 : Int32))]) dX11_round_56 rfl rfl rfl rfl rfl rfl ?_
    exact k
theorem b_X11_round_102 {x1 : Int32} {x2 : Int32} {h : Hp} {Q : Hp → Prop}  (k : (((h.1 114 0) ≤ x2 → Q h) ∧ (¬ ((h.1 114 0) ≤ x2) → (vp_in ((14 : Int32) + x2) 49 ∧ (vp_in x2 5 ∧ (¬ x1 = 0 ∧ ((0 ≤ ((h.1 114 (((14 : Int32) + x2)).toNatClampNeg) + (((h.1 126 (x2).toNatClampNeg) * (h.1 114 2)) / x1)) → ((((h.1 114 (((14 : Int32) + x2)).toNatClampNeg) + (((h.1 126 (x2).toNatClampNeg) * (h.1 114 2)) / x1)) ≤ (99 : Int32) → GoV 5 mX11_round 166 [(0, .ref 113), (1, .int x1), (2, .int x2)] [.int ((h.1 114 (((14 : Int32) + x2)).toNatClampNeg) + (((h.1 126 (x2).toNatClampNeg) * (h.1 114 2)) / x1)), .int ((14 : Int32) + x2), .ref 114] h Q) ∧ (¬ (((h.1 114 (((14 : Int32) + x2)).toNatClampNeg) + (((h.1 126 (x2).toNatClampNeg) * (h.1 114 2)) / x1)) ≤ (99 : Int32)) → GoV 5 mX11_round 166 [(0, .ref 113), (1, .int x1), (2, .int x2)] [.int (99 : Int32), .int ((14 : Int32) + x2), .ref 114] h Q))) ∧ (¬ (0 ≤ ((h.1 114 (((14 : Int32) + x2)).toNatClampNeg) + (((h.1 126 (x2).toNatClampNeg) * (h.1 114 2)) / x1))) → GoV 5 mX11_round 166 [(0, .ref 113), (1, .int x1), (2, .int x2)] [.int (0 : Int32), .int ((14 : Int32) + x2), .ref 114] h Q)))))))) : GoV 5 mX11_round 102 [(0, .ref 113), (1, .int x1), (2, .int x2)] [] h Q := by
  refine go_iload_n (pc2 := 103) dX11_round_102 rfl rfl rfl ?_
  refine go_aload_n (pc2 := 104) dX11_round_103 rfl rfl rfl ?_
  refine gf_1056 (pc2 := 107) rfl dX11_round_104 rfl c_113 (fvs r_113_0) ?_
  refine go_iconst (pc2 := 108) (v := (0 : Int32)) dX11_round_107 rfl (by decide) ?_
  refine go_iaload (pc2 := 109) (j := 0) dX11_round_108 rfl c_114 (vp_c rfl) rfl ?_
  refine go_icmp_ge (pc2 := 112) (tgt := 173) dX11_round_109 rfl (by decide) (fun c => ?_) (fun c => ?_)
  · have k := k.1 c
    exact go_ret dX11_round_173 rfl ⟨rfl, rfl, k⟩
  · have k := k.2 c
    refine go_aload_n (pc2 := 113) dX11_round_112 rfl rfl rfl ?_
    refine gf_1056 (pc2 := 116) rfl dX11_round_113 rfl c_113 (fvs r_113_0) ?_
    refine go_bipush (pc2 := 118) (v := (14 : Int32)) dX11_round_116 rfl (by decide) ?_
    refine go_iload_n (pc2 := 119) dX11_round_118 rfl rfl rfl ?_
    refine go_iadd (pc2 := 120) dX11_round_119 rfl ?_
    obtain ⟨y1, k⟩ := k
    refine go_iaload (pc2 := 121) (j := (((14 : Int32) + x2)).toNatClampNeg) dX11_round_120 rfl c_114 y1 rfl ?_
    refine go_aload_n (pc2 := 122) dX11_round_121 rfl rfl rfl ?_
    refine gf_1073 (pc2 := 125) rfl dX11_round_122 rfl c_113 (fvs r_113_17) ?_
    refine go_iload_n (pc2 := 126) dX11_round_125 rfl rfl rfl ?_
    obtain ⟨y2, k⟩ := k
    refine go_iaload (pc2 := 127) (j := (x2).toNatClampNeg) dX11_round_126 rfl c_126 y2 rfl ?_
    refine go_aload_n (pc2 := 128) dX11_round_127 rfl rfl rfl ?_
    refine gf_1056 (pc2 := 131) rfl dX11_round_128 rfl c_113 (fvs r_113_0) ?_
    refine go_iconst (pc2 := 132) (v := (2 : Int32)) dX11_round_131 rfl (by decide) ?_
    refine go_iaload (pc2 := 133) (j := 2) dX11_round_132 rfl c_114 (vp_c rfl) rfl ?_
    refine go_imul (pc2 := 134) dX11_round_133 rfl ?_
    refine go_iload_n (pc2 := 135) dX11_round_134 rfl rfl rfl ?_
    obtain ⟨y3, k⟩ := k
    refine go_idiv (pc2 := 136) dX11_round_135 rfl y3 ?_
    refine go_iadd (pc2 := 137) dX11_round_136 rfl ?_
    refine go_istore_n (pc2 := 138) (ls2 := [(0, .ref 113), (1, .int x1), (2, .int x2), (3, .int ((h.1 114 (((14 : Int32) + x2)).toNatClampNeg) + (((h.1 126 (x2).toNatClampNeg) * (h.1 114 2)) / x1)))]) dX11_round_137 rfl rfl rfl rfl rfl rfl ?_
    refine go_aload_n (pc2 := 139) dX11_round_138 rfl rfl rfl ?_
    refine gf_1056 (pc2 := 142) rfl dX11_round_139 rfl c_113 (fvs r_113_0) ?_
    refine go_bipush (pc2 := 144) (v := (14 : Int32)) dX11_round_142 rfl (by decide) ?_
    refine go_iload_n (pc2 := 145) dX11_round_144 rfl rfl rfl ?_
    refine go_iadd (pc2 := 146) dX11_round_145 rfl ?_
    refine go_iload_n (pc2 := 147) dX11_round_146 rfl rfl rfl ?_
    refine go_if_ge (pc2 := 150) (tgt := 154) dX11_round_147 rfl (by decide) (fun c => ?_) (fun c => ?_)
    · have k := k.1 c
      refine go_iload_n (pc2 := 155) dX11_round_154 rfl rfl rfl ?_
      refine go_bipush (pc2 := 157) (v := (99 : Int32)) dX11_round_155 rfl (by decide) ?_
      refine go_icmp_le (pc2 := 160) (tgt := 165) dX11_round_157 rfl (by decide) (fun c => ?_) (fun c => ?_)
      · have k := k.1 c
        refine go_iload_n (pc2 := 166) dX11_round_165 rfl rfl rfl ?_
        exact Go.pick [0, 1, 2] rfl k
      · have k := k.2 c
        refine go_bipush (pc2 := 162) (v := (99 : Int32)) dX11_round_160 rfl (by decide) ?_
        refine go_goto (tgt := 166) dX11_round_162 (by decide) ?_
        exact Go.pick [0, 1, 2] rfl k
    · have k := k.2 c
      refine go_iconst (pc2 := 151) (v := (0 : Int32)) dX11_round_150 rfl (by decide) ?_
      refine go_goto (tgt := 166) dX11_round_151 (by decide) ?_
      exact Go.pick [0, 1, 2] rfl k
theorem b_X11_round_57 {x1 : Int32} {x2 : Int32} {x3 : Int32} {h : Hp} {Q : Hp → Prop}  (k : (((h.1 114 3) ≤ x3 → GoV 5 mX11_round 31 [(0, .ref 113), (1, .int x1), (2, .int (x2 + 1))] [] h Q) ∧ (¬ ((h.1 114 3) ≤ x3) → (vp_in x2 5 ∧ (vp_in x3 3 ∧ (∃ Q3, CtI 3 mX11_givesBy [.ref 113, .int x3, .int (h.1 125 (x3).toNatClampNeg), .int x2] h Q3 ∧ ∀ (v5 : Int32) (h6 : Hp), Q3 v5 h6 → (vp_in x2 5 ∧ (∀ g9 : Hp, g9 = (ui h6 126 (x2).toNatClampNeg ((h.1 126 (x2).toNatClampNeg) - v5)) → GoV 5 mX11_round 57 [(0, .ref 113), (1, .int x1), (2, .int x2), (3, .int (x3 + 1))] [] g9 Q)))))))) : GoV 5 mX11_round 57 [(0, .ref 113), (1, .int x1), (2, .int x2), (3, .int x3)] [] h Q := by
  refine go_iload_n (pc2 := 58) dX11_round_57 rfl rfl rfl ?_
  refine go_aload_n (pc2 := 59) dX11_round_58 rfl rfl rfl ?_
  refine gf_1056 (pc2 := 62) rfl dX11_round_59 rfl c_113 (fvs r_113_0) ?_
  refine go_iconst (pc2 := 63) (v := (3 : Int32)) dX11_round_62 rfl (by decide) ?_
  refine go_iaload (pc2 := 64) (j := 3) dX11_round_63 rfl c_114 (vp_c rfl) rfl ?_
  refine go_icmp_ge (pc2 := 67) (tgt := 94) dX11_round_64 rfl (by decide) (fun c => ?_) (fun c => ?_)
  · have k := k.1 c
    refine go_iinc (pc2 := 97) (ls2 := [(0, .ref 113), (1, .int x1), (2, .int (x2 + 1)), (3, .int x3)]) (v := (x2 + 1)) dX11_round_94 rfl rfl rfl rfl rfl rfl rfl ?_
    refine go_goto (tgt := 31) dX11_round_97 (by decide) ?_
    exact Go.pick [0, 1, 2] rfl k
  · have k := k.2 c
    refine go_aload_n (pc2 := 68) dX11_round_67 rfl rfl rfl ?_
    refine gf_1073 (pc2 := 71) rfl dX11_round_68 rfl c_113 (fvs r_113_17) ?_
    refine go_iload_n (pc2 := 72) dX11_round_71 rfl rfl rfl ?_
    refine go_dup2 (pc2 := 73) dX11_round_72 rfl rfl rfl ?_
    obtain ⟨y1, k⟩ := k
    refine go_iaload (pc2 := 74) (j := (x2).toNatClampNeg) dX11_round_73 rfl c_126 y1 rfl ?_
    refine go_aload_n (pc2 := 75) dX11_round_74 rfl rfl rfl ?_
    refine go_iload_n (pc2 := 76) dX11_round_75 rfl rfl rfl ?_
    refine go_aload_n (pc2 := 77) dX11_round_76 rfl rfl rfl ?_
    refine gf_1072 (pc2 := 80) rfl dX11_round_77 rfl c_113 (fvs r_113_16) ?_
    refine go_iload_n (pc2 := 81) dX11_round_80 rfl rfl rfl ?_
    obtain ⟨y2, k⟩ := k
    refine go_iaload (pc2 := 82) (j := (x3).toNatClampNeg) dX11_round_81 rfl c_125 y2 rfl ?_
    refine go_iload_n (pc2 := 83) dX11_round_82 rfl rfl rfl ?_
    obtain ⟨Q3, hC4, k⟩ := k
    refine gcV_I (pc2 := 86) (dC := 3) (As := [.int x3, .int (h.1 125 (x3).toNatClampNeg), .int x2]) (st := [.int (h.1 126 (x2).toNatClampNeg), .int x2, .ref 126]) rfl dX11_round_83 rfl w_1433 ok_X11_givesBy vi_X11_givesBy c_113 (by decide) rfl rfl rfl (by decide) (Nat.le_of_ble_eq_true rfl) hC4 (fun v5 h6 hq7 => ?_)
    have k := k v5 h6 hq7
    refine go_isub (pc2 := 87) dX11_round_86 rfl ?_
    obtain ⟨y8, k⟩ := k
    refine go_iastore (pc2 := 88) (j := (x2).toNatClampNeg) dX11_round_87 rfl c_126 y8 rfl ?_
    obtain ⟨g9, eg9⟩ : ∃ y : Hp, y = (ui h6 126 (x2).toNatClampNeg ((h.1 126 (x2).toNatClampNeg) - v5)) := ⟨_, rfl⟩
    rw [← eg9]
    have k := k g9 eg9
    refine go_iinc (pc2 := 91) (ls2 := [(0, .ref 113), (1, .int x1), (2, .int x2), (3, .int (x3 + 1))]) (v := (x3 + 1)) dX11_round_88 rfl rfl rfl rfl rfl rfl rfl ?_
    refine go_goto (tgt := 57) dX11_round_91 (by decide) ?_
    exact k
theorem b_X11_round_166 {x1 : Int32} {x2 : Int32} {s1 : Int32} {s2 : Int32} {h : Hp} {Q : Hp → Prop}  (k : (vp_in s1 49 ∧ (∀ g2 : Hp, g2 = (ui h 114 (s1).toNatClampNeg s2) → GoV 5 mX11_round 102 [(0, .ref 113), (1, .int x1), (2, .int (x2 + 1))] [] g2 Q))) : GoV 5 mX11_round 166 [(0, .ref 113), (1, .int x1), (2, .int x2)] [.int s2, .int s1, .ref 114] h Q := by
  obtain ⟨y1, k⟩ := k
  refine go_iastore (pc2 := 167) (j := (s1).toNatClampNeg) dX11_round_166 rfl c_114 y1 rfl ?_
  obtain ⟨g2, eg2⟩ : ∃ y : Hp, y = (ui h 114 (s1).toNatClampNeg s2) := ⟨_, rfl⟩
  rw [← eg2]
  have k := k g2 eg2
  refine go_iinc (pc2 := 170) (ls2 := [(0, .ref 113), (1, .int x1), (2, .int (x2 + 1))]) (v := (x2 + 1)) dX11_round_167 rfl rfl rfl rfl rfl rfl rfl ?_
  refine go_goto (tgt := 102) dX11_round_170 (by decide) ?_
  exact k
theorem e_X11_rounds {x1 : Int32} {x2 : Int32} {h : Hp} {Q : Int64 → Hp → Prop}  (k : (∃ Q1, CtI 0 mX11_wrongBy [.int x1, .int (0 : Int32), .int (20 : Int32)] h Q1 ∧ ∀ (v3 : Int32) (h4 : Hp), Q1 v3 h4 → ((¬ v3 = 0 → GoL 6 mX11_rounds 27 [(0, .ref 113), (1, .int x1), (2, .int x2), (3, .int v3)] [] h4 Q) ∧ (v3 = 0 → ((x2 = (-1 : Int32) → GoL 6 mX11_rounds 27 [(0, .ref 113), (1, .int x1), (2, .int x2), (3, .int v3)] [] h4 Q) ∧ (¬ x2 = (-1 : Int32) → (∃ Q6, CtI 1 mX11_isHour [.ref 113, .int x2] h4 Q6 ∧ ∀ (v8 : Int32) (h9 : Hp), Q6 v8 h9 → ((¬ v8 = 0 → GoL 6 mX11_rounds 27 [(0, .ref 113), (1, .int x1), (2, .int x2), (3, .int v3)] [] h9 Q) ∧ (v8 = 0 → GoL 6 mX11_rounds 27 [(0, .ref 113), (1, .int x1), (2, .int x2), (3, .int (-1 : Int32))] [] h9 Q))))))))) : CtL 6 mX11_rounds [.ref 113, .int x1, .int x2] h Q := by
  refine Ct.of (by decide +kernel) (Nat.le_of_ble_eq_true rfl) ?_
  show GoL 6 mX11_rounds 0 [(0, .ref 113), (1, .int x1), (2, .int x2)] [] h Q
  refine go_iload_n (pc2 := 1) dX11_rounds_0 rfl rfl rfl ?_
  refine go_iconst (pc2 := 2) (v := (0 : Int32)) dX11_rounds_1 rfl (by decide) ?_
  refine go_bipush (pc2 := 4) (v := (20 : Int32)) dX11_rounds_2 rfl (by decide) ?_
  obtain ⟨Q1, hC2, k⟩ := k
  refine gcS_I (pc2 := 7) (dC := 0) (As := [.int x1, .int (0 : Int32), .int (20 : Int32)]) (st := []) rfl dX11_rounds_4 rfl w_1158 ok_X11_wrongBy w_1159 rfl (by decide) (Nat.le_of_ble_eq_true rfl) hC2 (fun v3 h4 hq5 => ?_)
  have k := k v3 h4 hq5
  refine go_istore_n (pc2 := 8) (ls2 := [(0, .ref 113), (1, .int x1), (2, .int x2), (3, .int v3)]) dX11_rounds_7 rfl rfl rfl rfl rfl rfl ?_
  refine go_iload_n (pc2 := 9) dX11_rounds_8 rfl rfl rfl ?_
  refine go_if_ne (pc2 := 12) (tgt := 27) dX11_rounds_9 rfl (by decide) (fun c => ?_) (fun c => ?_)
  · have k := k.1 c
    exact k
  · have k := k.2 c
    refine go_iload_n (pc2 := 13) dX11_rounds_12 rfl rfl rfl ?_
    refine go_iconst (pc2 := 14) (v := (-1 : Int32)) dX11_rounds_13 rfl (by decide) ?_
    refine go_icmp_eq (pc2 := 17) (tgt := 27) dX11_rounds_14 rfl (by decide) (fun c => ?_) (fun c => ?_)
    · have k := k.1 c
      exact k
    · have k := k.2 c
      refine go_aload_n (pc2 := 18) dX11_rounds_17 rfl rfl rfl ?_
      refine go_iload_n (pc2 := 19) dX11_rounds_18 rfl rfl rfl ?_
      obtain ⟨Q6, hC7, k⟩ := k
      refine gcV_I (pc2 := 22) (dC := 1) (As := [.int x2]) (st := []) rfl dX11_rounds_19 rfl w_1173 ok_X11_isHour vi_X11_isHour c_113 (by decide) rfl rfl rfl (by decide) (Nat.le_of_ble_eq_true rfl) hC7 (fun v8 h9 hq10 => ?_)
      have k := k v8 h9 hq10
      refine go_if_ne (pc2 := 25) (tgt := 27) dX11_rounds_22 rfl (by decide) (fun c => ?_) (fun c => ?_)
      · have k := k.1 c
        exact k
      · have k := k.2 c
        refine go_iconst (pc2 := 26) (v := (-1 : Int32)) dX11_rounds_25 rfl (by decide) ?_
        refine go_istore_n (pc2 := 27) (ls2 := [(0, .ref 113), (1, .int x1), (2, .int x2), (3, .int (-1 : Int32))]) dX11_rounds_26 rfl rfl rfl rfl rfl rfl ?_
        exact k
theorem b_X11_rounds_27 {x1 : Int32} {x2 : Int32} {x3 : Int32} {h : Hp} {Q : Int64 → Hp → Prop}  (k : ((x3 = 0 → (∃ Q1, CtV 1 mX11_keeps [.ref 113] h Q1 ∧ ∀ h4 : Hp, Q1 h4 → (∃ Q6, CtI 5 mX11_bound [.ref 113] h4 Q6 ∧ ∀ (v8 : Int32) (h9 : Hp), Q6 v8 h9 → GoL 6 mX11_rounds 50 [(0, .ref 113), (1, .int x1), (2, .int x2), (4, .int v8), (5, .int (1 : Int32))] [] h9 Q))) ∧ (¬ x3 = 0 → (∃ Q11, CtL 1 mX11_noWide [.ref 113, .int x3] h Q11 ∧ ∀ (v13 : Int64) (h14 : Hp), Q11 v13 h14 → Q v13 h14)))) : GoL 6 mX11_rounds 27 [(0, .ref 113), (1, .int x1), (2, .int x2), (3, .int x3)] [] h Q := by
  refine go_iload_n (pc2 := 28) dX11_rounds_27 rfl rfl rfl ?_
  refine go_if_eq (pc2 := 31) (tgt := 37) dX11_rounds_28 rfl (by decide) (fun c => ?_) (fun c => ?_)
  · have k := k.1 c
    refine go_aload_n (pc2 := 38) dX11_rounds_37 rfl rfl rfl ?_
    obtain ⟨Q1, hC2, k⟩ := k
    refine gcV_V (pc2 := 41) (dC := 1) (As := []) (st := []) rfl dX11_rounds_38 rfl w_1445 ok_X11_keeps vi_X11_keeps c_113 (by decide) rfl rfl rfl (by decide) (Nat.le_of_ble_eq_true rfl) hC2 (fun h4 hq5 => ?_)
    have k := k h4 hq5
    refine go_aload_n (pc2 := 42) dX11_rounds_41 rfl rfl rfl ?_
    obtain ⟨Q6, hC7, k⟩ := k
    refine gcV_I (pc2 := 45) (dC := 5) (As := []) (st := []) rfl dX11_rounds_42 rfl w_1450 ok_X11_bound vi_X11_bound c_113 (by decide) rfl rfl rfl (by decide) (Nat.le_of_ble_eq_true rfl) hC7 (fun v8 h9 hq10 => ?_)
    have k := k v8 h9 hq10
    refine go_istore (pc2 := 47) (ls2 := [(0, .ref 113), (1, .int x1), (2, .int x2), (3, .int x3), (4, .int v8)]) dX11_rounds_45 rfl rfl rfl rfl rfl ?_
    refine go_iconst (pc2 := 48) (v := (1 : Int32)) dX11_rounds_47 rfl (by decide) ?_
    refine go_istore (pc2 := 50) (ls2 := [(0, .ref 113), (1, .int x1), (2, .int x2), (3, .int x3), (4, .int v8), (5, .int (1 : Int32))]) dX11_rounds_48 rfl rfl rfl rfl rfl ?_
    exact Go.pick [0, 1, 2, 4, 5] rfl k
  · have k := k.2 c
    refine go_aload_n (pc2 := 32) dX11_rounds_31 rfl rfl rfl ?_
    refine go_iload_n (pc2 := 33) dX11_rounds_32 rfl rfl rfl ?_
    obtain ⟨Q11, hC12, k⟩ := k
    refine gcV_L (pc2 := 36) (dC := 1) (As := [.int x3]) (st := []) rfl dX11_rounds_33 rfl w_1382 ok_X11_noWide vi_X11_noWide c_113 (by decide) rfl rfl rfl (by decide) (Nat.le_of_ble_eq_true rfl) hC12 (fun v13 h14 hq15 => ?_)
    have k := k v13 h14 hq15
    exact go_lret dX11_rounds_36 rfl ⟨rfl, _, rfl, k⟩
theorem b_X11_rounds_50 {x1 : Int32} {x2 : Int32} {x4 : Int32} {x5 : Int32} {h : Hp} {Q : Int64 → Hp → Prop}  (k : ((x1 < x5 → ((¬ x2 = (-1 : Int32) → (vp_in ((14 : Int32) + x2) 49 ∧ (∃ Q2, CtV 1 mX11_laysBack [.ref 113] h Q2 ∧ ∀ h5 : Hp, Q2 h5 → Q ((h.1 114 (((14 : Int32) + x2)).toNatClampNeg)).toInt64 h5))) ∧ (x2 = (-1 : Int32) → (∃ Q7, CtV 1 mX11_laysBack [.ref 113] h Q7 ∧ ∀ h10 : Hp, Q7 h10 → Q (x4).toInt64 h10)))) ∧ (¬ (x1 < x5) → (∃ Q12, CtV 5 mX11_round [.ref 113, .int x5] h Q12 ∧ ∀ h15 : Hp, Q12 h15 → (∃ Q17, CtI 5 mX11_bound [.ref 113] h15 Q17 ∧ ∀ (v19 : Int32) (h20 : Hp), Q17 v19 h20 → (∃ Q22, CtI 0 mJ9_max_7cf53 [.int x4, .int v19] h20 Q22 ∧ ∀ (v24 : Int32) (h25 : Hp), Q22 v24 h25 → GoL 6 mX11_rounds 50 [(0, .ref 113), (1, .int x1), (2, .int x2), (4, .int v24), (5, .int (x5 + 1))] [] h25 Q)))))) : GoL 6 mX11_rounds 50 [(0, .ref 113), (1, .int x1), (2, .int x2), (4, .int x4), (5, .int x5)] [] h Q := by
  refine go_iload (pc2 := 52) dX11_rounds_50 rfl rfl ?_
  refine go_iload_n (pc2 := 53) dX11_rounds_52 rfl rfl rfl ?_
  refine go_icmp_gt (pc2 := 56) (tgt := 79) dX11_rounds_53 rfl (by decide) (fun c => ?_) (fun c => ?_)
  · have k := k.1 c
    refine go_iload_n (pc2 := 80) dX11_rounds_79 rfl rfl rfl ?_
    refine go_iconst (pc2 := 81) (v := (-1 : Int32)) dX11_rounds_80 rfl (by decide) ?_
    refine go_icmp_ne (pc2 := 84) (tgt := 89) dX11_rounds_81 rfl (by decide) (fun c => ?_) (fun c => ?_)
    · have k := k.1 c
      refine go_aload_n (pc2 := 90) dX11_rounds_89 rfl rfl rfl ?_
      refine gf_1056 (pc2 := 93) rfl dX11_rounds_90 rfl c_113 (fvs r_113_0) ?_
      refine go_bipush (pc2 := 95) (v := (14 : Int32)) dX11_rounds_93 rfl (by decide) ?_
      refine go_iload_n (pc2 := 96) dX11_rounds_95 rfl rfl rfl ?_
      refine go_iadd (pc2 := 97) dX11_rounds_96 rfl ?_
      obtain ⟨y1, k⟩ := k
      refine go_iaload (pc2 := 98) (j := (((14 : Int32) + x2)).toNatClampNeg) dX11_rounds_97 rfl c_114 y1 rfl ?_
      refine go_istore (pc2 := 100) (ls2 := [(0, .ref 113), (1, .int x1), (2, .int x2), (4, .int x4), (5, .int (h.1 114 (((14 : Int32) + x2)).toNatClampNeg))]) dX11_rounds_98 rfl rfl rfl rfl rfl ?_
      refine go_aload_n (pc2 := 101) dX11_rounds_100 rfl rfl rfl ?_
      obtain ⟨Q2, hC3, k⟩ := k
      refine gcV_V (pc2 := 104) (dC := 1) (As := []) (st := []) rfl dX11_rounds_101 rfl w_1456 ok_X11_laysBack vi_X11_laysBack c_113 (by decide) rfl rfl rfl (by decide) (Nat.le_of_ble_eq_true rfl) hC3 (fun h5 hq6 => ?_)
      have k := k h5 hq6
      refine go_iload (pc2 := 106) dX11_rounds_104 rfl rfl ?_
      refine go_i2l (pc2 := 107) dX11_rounds_106 rfl ?_
      exact go_lret dX11_rounds_107 rfl ⟨rfl, _, rfl, k⟩
    · have k := k.2 c
      refine go_iload (pc2 := 86) dX11_rounds_84 rfl rfl ?_
      refine go_goto (tgt := 98) dX11_rounds_86 (by decide) ?_
      refine go_istore (pc2 := 100) (ls2 := [(0, .ref 113), (1, .int x1), (2, .int x2), (4, .int x4), (5, .int x4)]) dX11_rounds_98 rfl rfl rfl rfl rfl ?_
      refine go_aload_n (pc2 := 101) dX11_rounds_100 rfl rfl rfl ?_
      obtain ⟨Q7, hC8, k⟩ := k
      refine gcV_V (pc2 := 104) (dC := 1) (As := []) (st := []) rfl dX11_rounds_101 rfl w_1456 ok_X11_laysBack vi_X11_laysBack c_113 (by decide) rfl rfl rfl (by decide) (Nat.le_of_ble_eq_true rfl) hC8 (fun h10 hq11 => ?_)
      have k := k h10 hq11
      refine go_iload (pc2 := 106) dX11_rounds_104 rfl rfl ?_
      refine go_i2l (pc2 := 107) dX11_rounds_106 rfl ?_
      exact go_lret dX11_rounds_107 rfl ⟨rfl, _, rfl, k⟩
  · have k := k.2 c
    refine go_aload_n (pc2 := 57) dX11_rounds_56 rfl rfl rfl ?_
    refine go_iload (pc2 := 59) dX11_rounds_57 rfl rfl ?_
    obtain ⟨Q12, hC13, k⟩ := k
    refine gcV_V (pc2 := 62) (dC := 5) (As := [.int x5]) (st := []) rfl dX11_rounds_59 rfl w_1451 ok_X11_round vi_X11_round c_113 (by decide) rfl rfl rfl (by decide) (Nat.le_of_ble_eq_true rfl) hC13 (fun h15 hq16 => ?_)
    have k := k h15 hq16
    refine go_iload (pc2 := 64) dX11_rounds_62 rfl rfl ?_
    refine go_aload_n (pc2 := 65) dX11_rounds_64 rfl rfl rfl ?_
    obtain ⟨Q17, hC18, k⟩ := k
    refine gcV_I (pc2 := 68) (dC := 5) (As := []) (st := [.int x4]) rfl dX11_rounds_65 rfl w_1450 ok_X11_bound vi_X11_bound c_113 (by decide) rfl rfl rfl (by decide) (Nat.le_of_ble_eq_true rfl) hC18 (fun v19 h20 hq21 => ?_)
    have k := k v19 h20 hq21
    obtain ⟨Q22, hC23, k⟩ := k
    refine gcS_I (pc2 := 71) (dC := 0) (As := [.int x4, .int v19]) (st := []) rfl dX11_rounds_68 rfl w_1455 ok_J9_max_7cf53 w_666 rfl (by decide) (Nat.le_of_ble_eq_true rfl) hC23 (fun v24 h25 hq26 => ?_)
    have k := k v24 h25 hq26
    refine go_istore (pc2 := 73) (ls2 := [(0, .ref 113), (1, .int x1), (2, .int x2), (4, .int v24), (5, .int x5)]) dX11_rounds_71 rfl rfl rfl rfl rfl ?_
    refine go_iinc (pc2 := 76) (ls2 := [(0, .ref 113), (1, .int x1), (2, .int x2), (4, .int v24), (5, .int (x5 + 1))]) (v := (x5 + 1)) dX11_rounds_73 rfl rfl rfl rfl rfl rfl rfl ?_
    refine go_goto (tgt := 50) dX11_rounds_76 (by decide) ?_
    exact k
theorem e_X11_goes {x1 : Int32} {h : Hp} {Q : Int32 → Hp → Prop}  (k : (∃ Q1, CtI 0 mX11_wrongBy [.int x1, .int (0 : Int32), .int (20 : Int32)] h Q1 ∧ ∀ (v3 : Int32) (h4 : Hp), Q1 v3 h4 → ((v3 = 0 → (∃ Q6, CtV 1 mX11_keeps [.ref 113] h4 Q6 ∧ ∀ h9 : Hp, Q6 h9 → GoI 6 mX11_goes 24 [(0, .ref 113), (1, .int x1), (3, .int (1 : Int32))] [] h9 Q)) ∧ (¬ v3 = 0 → (∃ Q11, CtI 0 mX11_no [.ref 113, .int v3] h4 Q11 ∧ ∀ (v13 : Int32) (h14 : Hp), Q11 v13 h14 → Q v13 h14))))) : CtI 6 mX11_goes [.ref 113, .int x1] h Q := by
  refine Ct.of (by decide +kernel) (Nat.le_of_ble_eq_true rfl) ?_
  show GoI 6 mX11_goes 0 [(0, .ref 113), (1, .int x1)] [] h Q
  refine go_iload_n (pc2 := 1) dX11_goes_0 rfl rfl rfl ?_
  refine go_iconst (pc2 := 2) (v := (0 : Int32)) dX11_goes_1 rfl (by decide) ?_
  refine go_bipush (pc2 := 4) (v := (20 : Int32)) dX11_goes_2 rfl (by decide) ?_
  obtain ⟨Q1, hC2, k⟩ := k
  refine gcS_I (pc2 := 7) (dC := 0) (As := [.int x1, .int (0 : Int32), .int (20 : Int32)]) (st := []) rfl dX11_goes_4 rfl w_1158 ok_X11_wrongBy w_1159 rfl (by decide) (Nat.le_of_ble_eq_true rfl) hC2 (fun v3 h4 hq5 => ?_)
  have k := k v3 h4 hq5
  refine go_istore_n (pc2 := 8) (ls2 := [(0, .ref 113), (1, .int x1), (2, .int v3)]) dX11_goes_7 rfl rfl rfl rfl rfl rfl ?_
  refine go_iload_n (pc2 := 9) dX11_goes_8 rfl rfl rfl ?_
  refine go_if_eq (pc2 := 12) (tgt := 18) dX11_goes_9 rfl (by decide) (fun c => ?_) (fun c => ?_)
  · have k := k.1 c
    refine go_aload_n (pc2 := 19) dX11_goes_18 rfl rfl rfl ?_
    obtain ⟨Q6, hC7, k⟩ := k
    refine gcV_V (pc2 := 22) (dC := 1) (As := []) (st := []) rfl dX11_goes_19 rfl w_1445 ok_X11_keeps vi_X11_keeps c_113 (by decide) rfl rfl rfl (by decide) (Nat.le_of_ble_eq_true rfl) hC7 (fun h9 hq10 => ?_)
    have k := k h9 hq10
    refine go_iconst (pc2 := 23) (v := (1 : Int32)) dX11_goes_22 rfl (by decide) ?_
    refine go_istore_n (pc2 := 24) (ls2 := [(0, .ref 113), (1, .int x1), (2, .int v3), (3, .int (1 : Int32))]) dX11_goes_23 rfl rfl rfl rfl rfl rfl ?_
    exact Go.pick [0, 1, 3] rfl k
  · have k := k.2 c
    refine go_aload_n (pc2 := 13) dX11_goes_12 rfl rfl rfl ?_
    refine go_iload_n (pc2 := 14) dX11_goes_13 rfl rfl rfl ?_
    obtain ⟨Q11, hC12, k⟩ := k
    refine gcV_I (pc2 := 17) (dC := 0) (As := [.int v3]) (st := []) rfl dX11_goes_14 rfl w_1161 ok_X11_no vi_X11_no c_113 (by decide) rfl rfl rfl (by decide) (Nat.le_of_ble_eq_true rfl) hC12 (fun v13 h14 hq15 => ?_)
    have k := k v13 h14 hq15
    exact go_iret dX11_goes_17 ⟨_, rfl, rfl⟩ ⟨rfl, _, rfl, k⟩
theorem b_X11_goes_24 {x1 : Int32} {x3 : Int32} {h : Hp} {Q : Int32 → Hp → Prop}  (k : ((x1 < x3 → GoI 6 mX11_goes 45 [(0, .ref 113), (3, .int (0 : Int32)), (4, .int (0 : Int32))] [] h Q) ∧ (¬ (x1 < x3) → (∃ Q1, CtV 5 mX11_round [.ref 113, .int x3] h Q1 ∧ ∀ h4 : Hp, Q1 h4 → GoI 6 mX11_goes 24 [(0, .ref 113), (1, .int x1), (3, .int (x3 + 1))] [] h4 Q)))) : GoI 6 mX11_goes 24 [(0, .ref 113), (1, .int x1), (3, .int x3)] [] h Q := by
  refine go_iload_n (pc2 := 25) dX11_goes_24 rfl rfl rfl ?_
  refine go_iload_n (pc2 := 26) dX11_goes_25 rfl rfl rfl ?_
  refine go_icmp_gt (pc2 := 29) (tgt := 40) dX11_goes_26 rfl (by decide) (fun c => ?_) (fun c => ?_)
  · have k := k.1 c
    refine go_iconst (pc2 := 41) (v := (0 : Int32)) dX11_goes_40 rfl (by decide) ?_
    refine go_istore_n (pc2 := 42) (ls2 := [(0, .ref 113), (1, .int x1), (3, .int (0 : Int32))]) dX11_goes_41 rfl rfl rfl rfl rfl rfl ?_
    refine go_iconst (pc2 := 43) (v := (0 : Int32)) dX11_goes_42 rfl (by decide) ?_
    refine go_istore (pc2 := 45) (ls2 := [(0, .ref 113), (1, .int x1), (3, .int (0 : Int32)), (4, .int (0 : Int32))]) dX11_goes_43 rfl rfl rfl rfl rfl ?_
    exact Go.pick [0, 2, 3] rfl k
  · have k := k.2 c
    refine go_aload_n (pc2 := 30) dX11_goes_29 rfl rfl rfl ?_
    refine go_iload_n (pc2 := 31) dX11_goes_30 rfl rfl rfl ?_
    obtain ⟨Q1, hC2, k⟩ := k
    refine gcV_V (pc2 := 34) (dC := 5) (As := [.int x3]) (st := []) rfl dX11_goes_31 rfl w_1451 ok_X11_round vi_X11_round c_113 (by decide) rfl rfl rfl (by decide) (Nat.le_of_ble_eq_true rfl) hC2 (fun h4 hq5 => ?_)
    have k := k h4 hq5
    refine go_iinc (pc2 := 37) (ls2 := [(0, .ref 113), (1, .int x1), (3, .int (x3 + 1))]) (v := (x3 + 1)) dX11_goes_34 rfl rfl rfl rfl rfl rfl rfl ?_
    refine go_goto (tgt := 24) dX11_goes_37 (by decide) ?_
    exact k
theorem b_X11_goes_45 {x3 : Int32} {x4 : Int32} {h : Hp} {Q : Int32 → Hp → Prop}  (k : (((h.1 114 0) ≤ x4 → Q x3 h) ∧ (¬ ((h.1 114 0) ≤ x4) → (vp_in ((14 : Int32) + x4) 49 ∧ (vp_in ((14 : Int32) + x4) 49 ∧ GoI 6 mX11_goes 45 [(0, .ref 113), (3, .int (x3 + (if (h.1 114 (((14 : Int32) + x4)).toNatClampNeg) = (h.1 115 (((14 : Int32) + x4)).toNatClampNeg) then (0 : Int32) else (1 : Int32)))), (4, .int (x4 + 1))] [] h Q))))) : GoI 6 mX11_goes 45 [(0, .ref 113), (3, .int x3), (4, .int x4)] [] h Q := by
  refine go_iload (pc2 := 47) dX11_goes_45 rfl rfl ?_
  refine go_aload_n (pc2 := 48) dX11_goes_47 rfl rfl rfl ?_
  refine gf_1056 (pc2 := 51) rfl dX11_goes_48 rfl c_113 (fvs r_113_0) ?_
  refine go_iconst (pc2 := 52) (v := (0 : Int32)) dX11_goes_51 rfl (by decide) ?_
  refine go_iaload (pc2 := 53) (j := 0) dX11_goes_52 rfl c_114 (vp_c rfl) rfl ?_
  refine go_icmp_ge (pc2 := 56) (tgt := 93) dX11_goes_53 rfl (by decide) (fun c => ?_) (fun c => ?_)
  · have k := k.1 c
    refine go_iload_n (pc2 := 94) dX11_goes_93 rfl rfl rfl ?_
    exact go_iret dX11_goes_94 ⟨_, rfl, rfl⟩ ⟨rfl, _, rfl, k⟩
  · have k := k.2 c
    refine go_iload_n (pc2 := 57) dX11_goes_56 rfl rfl rfl ?_
    refine go_aload_n (pc2 := 58) dX11_goes_57 rfl rfl rfl ?_
    refine gf_1056 (pc2 := 61) rfl dX11_goes_58 rfl c_113 (fvs r_113_0) ?_
    refine go_bipush (pc2 := 63) (v := (14 : Int32)) dX11_goes_61 rfl (by decide) ?_
    refine go_iload (pc2 := 65) dX11_goes_63 rfl rfl ?_
    refine go_iadd (pc2 := 66) dX11_goes_65 rfl ?_
    obtain ⟨y1, k⟩ := k
    refine go_iaload (pc2 := 67) (j := (((14 : Int32) + x4)).toNatClampNeg) dX11_goes_66 rfl c_114 y1 rfl ?_
    refine go_aload_n (pc2 := 68) dX11_goes_67 rfl rfl rfl ?_
    refine gf_1057 (pc2 := 71) rfl dX11_goes_68 rfl c_113 (fvs r_113_1) ?_
    refine go_bipush (pc2 := 73) (v := (14 : Int32)) dX11_goes_71 rfl (by decide) ?_
    refine go_iload (pc2 := 75) dX11_goes_73 rfl rfl ?_
    refine go_iadd (pc2 := 76) dX11_goes_75 rfl ?_
    obtain ⟨y2, k⟩ := k
    refine go_iaload (pc2 := 77) (j := (((14 : Int32) + x4)).toNatClampNeg) dX11_goes_76 rfl c_115 y2 rfl ?_
    have J : GoI 6 mX11_goes 85 [(0, .ref 113), (3, .int x3), (4, .int x4)] [.int (if (h.1 114 (((14 : Int32) + x4)).toNatClampNeg) = (h.1 115 (((14 : Int32) + x4)).toNatClampNeg) then (0 : Int32) else (1 : Int32)), .int x3] h Q := by
      refine go_iadd (pc2 := 86) dX11_goes_85 rfl ?_
      refine go_istore_n (pc2 := 87) (ls2 := [(0, .ref 113), (3, .int (x3 + (if (h.1 114 (((14 : Int32) + x4)).toNatClampNeg) = (h.1 115 (((14 : Int32) + x4)).toNatClampNeg) then (0 : Int32) else (1 : Int32)))), (4, .int x4)]) dX11_goes_86 rfl rfl rfl rfl rfl rfl ?_
      refine go_iinc (pc2 := 90) (ls2 := [(0, .ref 113), (3, .int (x3 + (if (h.1 114 (((14 : Int32) + x4)).toNatClampNeg) = (h.1 115 (((14 : Int32) + x4)).toNatClampNeg) then (0 : Int32) else (1 : Int32)))), (4, .int (x4 + 1))]) (v := (x4 + 1)) dX11_goes_87 rfl rfl rfl rfl rfl rfl rfl ?_
      refine go_goto (tgt := 45) dX11_goes_90 (by decide) ?_
      exact k
    refine go_icmp_ne (pc2 := 80) (tgt := 84) dX11_goes_77 rfl (by decide) (fun c => ?_) (fun c => ?_)
    · rw [if_neg c] at J
      exact go_iconst (pc2 := 85) dX11_goes_84 rfl (by decide) J
    · rw [if_pos c] at J
      exact go_iconst (pc2 := 81) dX11_goes_80 rfl (by decide) (go_goto (tgt := 85) dX11_goes_81 (by decide) J)
theorem e_X11_mayAll {x1 : Int32} {h : Hp} {Q : Int32 → Hp → Prop}  (k : GoI 2 mX11_mayAll 4 [(0, .ref 113), (1, .int x1), (2, .int (1 : Int32)), (3, .int (0 : Int32))] [] h Q) : CtI 2 mX11_mayAll [.ref 113, .int x1] h Q := by
  refine Ct.of (by decide +kernel) (Nat.le_of_ble_eq_true rfl) ?_
  show GoI 2 mX11_mayAll 0 [(0, .ref 113), (1, .int x1)] [] h Q
  refine go_iconst (pc2 := 1) (v := (1 : Int32)) dX11_mayAll_0 rfl (by decide) ?_
  refine go_istore_n (pc2 := 2) (ls2 := [(0, .ref 113), (1, .int x1), (2, .int (1 : Int32))]) dX11_mayAll_1 rfl rfl rfl rfl rfl rfl ?_
  refine go_iconst (pc2 := 3) (v := (0 : Int32)) dX11_mayAll_2 rfl (by decide) ?_
  refine go_istore_n (pc2 := 4) (ls2 := [(0, .ref 113), (1, .int x1), (2, .int (1 : Int32)), (3, .int (0 : Int32))]) dX11_mayAll_3 rfl rfl rfl rfl rfl rfl ?_
  exact k
theorem b_X11_mayAll_4 {x1 : Int32} {x2 : Int32} {x3 : Int32} {h : Hp} {Q : Int32 → Hp → Prop}  (k : (((h.1 114 3) ≤ x3 → (x2 &&& 1 = x2 ∧ Q x2 h)) ∧ (¬ ((h.1 114 3) ≤ x3) → ((x2 = 0 → GoI 2 mX11_mayAll 41 [(0, .ref 113), (1, .int x1), (3, .int x3)] [] h Q) ∧ (¬ x2 = 0 → (vp_in x3 3 ∧ (∃ Q3, CtI 0 mX11_has [.int x1, .int x3] h Q3 ∧ ∀ (v5 : Int32) (h6 : Hp), Q3 v5 h6 → (∃ Q8, CtI 1 mX11_mayGo [.ref 113, .int x3, .int (h.1 127 (x3).toNatClampNeg), .int v5] h6 Q8 ∧ ∀ (v10 : Int32) (h11 : Hp), Q8 v10 h11 → ((v10 = 0 → GoI 2 mX11_mayAll 41 [(0, .ref 113), (1, .int x1), (3, .int x3)] [] h11 Q) ∧ (¬ v10 = 0 → GoI 2 mX11_mayAll 42 [(0, .ref 113), (1, .int x1), (3, .int x3)] [.int (1 : Int32)] h11 Q)))))))))) : GoI 2 mX11_mayAll 4 [(0, .ref 113), (1, .int x1), (2, .int x2), (3, .int x3)] [] h Q := by
  refine go_iload_n (pc2 := 5) dX11_mayAll_4 rfl rfl rfl ?_
  refine go_aload_n (pc2 := 6) dX11_mayAll_5 rfl rfl rfl ?_
  refine gf_1056 (pc2 := 9) rfl dX11_mayAll_6 rfl c_113 (fvs r_113_0) ?_
  refine go_iconst (pc2 := 10) (v := (3 : Int32)) dX11_mayAll_9 rfl (by decide) ?_
  refine go_iaload (pc2 := 11) (j := 3) dX11_mayAll_10 rfl c_114 (vp_c rfl) rfl ?_
  refine go_icmp_ge (pc2 := 14) (tgt := 49) dX11_mayAll_11 rfl (by decide) (fun c => ?_) (fun c => ?_)
  · have k := k.1 c
    refine go_iload_n (pc2 := 50) dX11_mayAll_49 rfl rfl rfl ?_
    obtain ⟨y1, k⟩ := k
    exact go_iret dX11_mayAll_50 ⟨_, rfl, congrArg Value.int y1⟩ ⟨rfl, _, rfl, k⟩
  · have k := k.2 c
    refine go_iload_n (pc2 := 15) dX11_mayAll_14 rfl rfl rfl ?_
    refine go_if_eq (pc2 := 18) (tgt := 41) dX11_mayAll_15 rfl (by decide) (fun c => ?_) (fun c => ?_)
    · have k := k.1 c
      exact Go.pick [0, 1, 3] rfl k
    · have k := k.2 c
      refine go_aload_n (pc2 := 19) dX11_mayAll_18 rfl rfl rfl ?_
      refine go_iload_n (pc2 := 20) dX11_mayAll_19 rfl rfl rfl ?_
      refine go_aload_n (pc2 := 21) dX11_mayAll_20 rfl rfl rfl ?_
      refine gf_1074 (pc2 := 24) rfl dX11_mayAll_21 rfl c_113 (fvs r_113_18) ?_
      refine go_iload_n (pc2 := 25) dX11_mayAll_24 rfl rfl rfl ?_
      obtain ⟨y2, k⟩ := k
      refine go_iaload (pc2 := 26) (j := (x3).toNatClampNeg) dX11_mayAll_25 rfl c_127 y2 rfl ?_
      refine go_iload_n (pc2 := 27) dX11_mayAll_26 rfl rfl rfl ?_
      refine go_iload_n (pc2 := 28) dX11_mayAll_27 rfl rfl rfl ?_
      obtain ⟨Q3, hC4, k⟩ := k
      refine gcS_I (pc2 := 31) (dC := 0) (As := [.int x1, .int x3]) (st := [.int (h.1 127 (x3).toNatClampNeg), .int x3, .ref 113]) rfl dX11_mayAll_28 rfl w_1278 ok_X11_has w_1279 rfl (by decide) (Nat.le_of_ble_eq_true rfl) hC4 (fun v5 h6 hq7 => ?_)
      have k := k v5 h6 hq7
      obtain ⟨Q8, hC9, k⟩ := k
      refine gcV_I (pc2 := 34) (dC := 1) (As := [.int x3, .int (h.1 127 (x3).toNatClampNeg), .int v5]) (st := []) rfl dX11_mayAll_31 rfl w_1281 ok_X11_mayGo vi_X11_mayGo c_113 (by decide) rfl rfl rfl (by decide) (Nat.le_of_ble_eq_true rfl) hC9 (fun v10 h11 hq12 => ?_)
      have k := k v10 h11 hq12
      refine go_if_eq (pc2 := 37) (tgt := 41) dX11_mayAll_34 rfl (by decide) (fun c => ?_) (fun c => ?_)
      · have k := k.1 c
        exact Go.pick [0, 1, 3] rfl k
      · have k := k.2 c
        refine go_iconst (pc2 := 38) (v := (1 : Int32)) dX11_mayAll_37 rfl (by decide) ?_
        refine go_goto (tgt := 42) dX11_mayAll_38 (by decide) ?_
        exact Go.pick [0, 1, 3] rfl k
theorem b_X11_mayAll_41 {x1 : Int32} {x3 : Int32} {h : Hp} {Q : Int32 → Hp → Prop}  (k : GoI 2 mX11_mayAll 42 [(0, .ref 113), (1, .int x1), (3, .int x3)] [.int (0 : Int32)] h Q) : GoI 2 mX11_mayAll 41 [(0, .ref 113), (1, .int x1), (3, .int x3)] [] h Q := by
  refine go_iconst (pc2 := 42) (v := (0 : Int32)) dX11_mayAll_41 rfl (by decide) ?_
  exact k
theorem b_X11_mayAll_42 {x1 : Int32} {x3 : Int32} {s0 : Int32} {h : Hp} {Q : Int32 → Hp → Prop}  (k : GoI 2 mX11_mayAll 4 [(0, .ref 113), (1, .int x1), (2, .int s0), (3, .int (x3 + 1))] [] h Q) : GoI 2 mX11_mayAll 42 [(0, .ref 113), (1, .int x1), (3, .int x3)] [.int s0] h Q := by
  refine go_istore_n (pc2 := 43) (ls2 := [(0, .ref 113), (1, .int x1), (2, .int s0), (3, .int x3)]) dX11_mayAll_42 rfl rfl rfl rfl rfl rfl ?_
  refine go_iinc (pc2 := 46) (ls2 := [(0, .ref 113), (1, .int x1), (2, .int s0), (3, .int (x3 + 1))]) (v := (x3 + 1)) dX11_mayAll_43 rfl rfl rfl rfl rfl rfl rfl ?_
  refine go_goto (tgt := 4) dX11_mayAll_46 (by decide) ?_
  exact k
theorem e_X11_freshIn {x1 : Int32} {h : Hp} {Q : Int32 → Hp → Prop}  (k : GoI 1 mX11_freshIn 4 [(0, .ref 113), (1, .int x1), (2, .int (0 : Int32)), (3, .int (0 : Int32))] [] h Q) : CtI 1 mX11_freshIn [.ref 113, .int x1] h Q := by
  refine Ct.of (by decide +kernel) (Nat.le_of_ble_eq_true rfl) ?_
  show GoI 1 mX11_freshIn 0 [(0, .ref 113), (1, .int x1)] [] h Q
  refine go_iconst (pc2 := 1) (v := (0 : Int32)) dX11_freshIn_0 rfl (by decide) ?_
  refine go_istore_n (pc2 := 2) (ls2 := [(0, .ref 113), (1, .int x1), (2, .int (0 : Int32))]) dX11_freshIn_1 rfl rfl rfl rfl rfl rfl ?_
  refine go_iconst (pc2 := 3) (v := (0 : Int32)) dX11_freshIn_2 rfl (by decide) ?_
  refine go_istore_n (pc2 := 4) (ls2 := [(0, .ref 113), (1, .int x1), (2, .int (0 : Int32)), (3, .int (0 : Int32))]) dX11_freshIn_3 rfl rfl rfl rfl rfl rfl ?_
  exact k
theorem b_X11_freshIn_4 {x1 : Int32} {x2 : Int32} {x3 : Int32} {h : Hp} {Q : Int32 → Hp → Prop}  (k : (((h.1 114 3) ≤ x3 → Q x2 h) ∧ (¬ ((h.1 114 3) ≤ x3) → (∃ Q1, CtI 0 mX11_has [.int x1, .int x3] h Q1 ∧ ∀ (v3 : Int32) (h4 : Hp), Q1 v3 h4 → ((v3 = 0 → GoI 1 mX11_freshIn 38 [(0, .ref 113), (1, .int x1), (3, .int x3)] [.int x2] h4 Q) ∧ (¬ v3 = 0 → (vp_in x3 3 ∧ ((0 ≤ (h4.1 127 (x3).toNatClampNeg) → GoI 1 mX11_freshIn 38 [(0, .ref 113), (1, .int x1), (3, .int x3)] [.int x2] h4 Q) ∧ (¬ (0 ≤ (h4.1 127 (x3).toNatClampNeg)) → GoI 1 mX11_freshIn 39 [(0, .ref 113), (1, .int x1), (3, .int x3)] [.int ((1 : Int32) <<< (x3 &&& 31)), .int x2] h4 Q))))))))) : GoI 1 mX11_freshIn 4 [(0, .ref 113), (1, .int x1), (2, .int x2), (3, .int x3)] [] h Q := by
  refine go_iload_n (pc2 := 5) dX11_freshIn_4 rfl rfl rfl ?_
  refine go_aload_n (pc2 := 6) dX11_freshIn_5 rfl rfl rfl ?_
  refine gf_1056 (pc2 := 9) rfl dX11_freshIn_6 rfl c_113 (fvs r_113_0) ?_
  refine go_iconst (pc2 := 10) (v := (3 : Int32)) dX11_freshIn_9 rfl (by decide) ?_
  refine go_iaload (pc2 := 11) (j := 3) dX11_freshIn_10 rfl c_114 (vp_c rfl) rfl ?_
  refine go_icmp_ge (pc2 := 14) (tgt := 47) dX11_freshIn_11 rfl (by decide) (fun c => ?_) (fun c => ?_)
  · have k := k.1 c
    refine go_iload_n (pc2 := 48) dX11_freshIn_47 rfl rfl rfl ?_
    exact go_iret dX11_freshIn_48 ⟨_, rfl, rfl⟩ ⟨rfl, _, rfl, k⟩
  · have k := k.2 c
    refine go_iload_n (pc2 := 15) dX11_freshIn_14 rfl rfl rfl ?_
    refine go_iload_n (pc2 := 16) dX11_freshIn_15 rfl rfl rfl ?_
    refine go_iload_n (pc2 := 17) dX11_freshIn_16 rfl rfl rfl ?_
    obtain ⟨Q1, hC2, k⟩ := k
    refine gcS_I (pc2 := 20) (dC := 0) (As := [.int x1, .int x3]) (st := [.int x2]) rfl dX11_freshIn_17 rfl w_1278 ok_X11_has w_1279 rfl (by decide) (Nat.le_of_ble_eq_true rfl) hC2 (fun v3 h4 hq5 => ?_)
    have k := k v3 h4 hq5
    refine go_if_eq (pc2 := 23) (tgt := 38) dX11_freshIn_20 rfl (by decide) (fun c => ?_) (fun c => ?_)
    · have k := k.1 c
      exact Go.pick [0, 1, 3] rfl k
    · have k := k.2 c
      refine go_aload_n (pc2 := 24) dX11_freshIn_23 rfl rfl rfl ?_
      refine gf_1074 (pc2 := 27) rfl dX11_freshIn_24 rfl c_113 (fvs r_113_18) ?_
      refine go_iload_n (pc2 := 28) dX11_freshIn_27 rfl rfl rfl ?_
      obtain ⟨y6, k⟩ := k
      refine go_iaload (pc2 := 29) (j := (x3).toNatClampNeg) dX11_freshIn_28 rfl c_127 y6 rfl ?_
      refine go_if_ge (pc2 := 32) (tgt := 38) dX11_freshIn_29 rfl (by decide) (fun c => ?_) (fun c => ?_)
      · have k := k.1 c
        exact Go.pick [0, 1, 3] rfl k
      · have k := k.2 c
        refine go_iconst (pc2 := 33) (v := (1 : Int32)) dX11_freshIn_32 rfl (by decide) ?_
        refine go_iload_n (pc2 := 34) dX11_freshIn_33 rfl rfl rfl ?_
        refine go_ishl (pc2 := 35) dX11_freshIn_34 rfl ?_
        refine go_goto (tgt := 39) dX11_freshIn_35 (by decide) ?_
        exact Go.pick [0, 1, 3] rfl k
theorem b_X11_freshIn_38 {x1 : Int32} {x3 : Int32} {s0 : Int32} {h : Hp} {Q : Int32 → Hp → Prop}  (k : GoI 1 mX11_freshIn 39 [(0, .ref 113), (1, .int x1), (3, .int x3)] [.int (0 : Int32), .int s0] h Q) : GoI 1 mX11_freshIn 38 [(0, .ref 113), (1, .int x1), (3, .int x3)] [.int s0] h Q := by
  refine go_iconst (pc2 := 39) (v := (0 : Int32)) dX11_freshIn_38 rfl (by decide) ?_
  exact k
theorem b_X11_freshIn_39 {x1 : Int32} {x3 : Int32} {s0 : Int32} {s1 : Int32} {h : Hp} {Q : Int32 → Hp → Prop}  (k : GoI 1 mX11_freshIn 4 [(0, .ref 113), (1, .int x1), (2, .int (s0 ||| s1)), (3, .int (x3 + 1))] [] h Q) : GoI 1 mX11_freshIn 39 [(0, .ref 113), (1, .int x1), (3, .int x3)] [.int s1, .int s0] h Q := by
  refine go_ior (pc2 := 40) dX11_freshIn_39 rfl ?_
  refine go_istore_n (pc2 := 41) (ls2 := [(0, .ref 113), (1, .int x1), (2, .int (s0 ||| s1)), (3, .int x3)]) dX11_freshIn_40 rfl rfl rfl rfl rfl rfl ?_
  refine go_iinc (pc2 := 44) (ls2 := [(0, .ref 113), (1, .int x1), (2, .int (s0 ||| s1)), (3, .int (x3 + 1))]) (v := (x3 + 1)) dX11_freshIn_41 rfl rfl rfl rfl rfl rfl rfl ?_
  refine go_goto (tgt := 4) dX11_freshIn_44 (by decide) ?_
  exact k
theorem e_X11_withStarts {x1 : Int32} {x2 : Int32} {h : Hp} {Q : Int32 → Hp → Prop}  (k : (∃ Q1, CtI 1 mX11_freshIn [.ref 113, .int x2] h Q1 ∧ ∀ (v3 : Int32) (h4 : Hp), Q1 v3 h4 → (∃ Q6, CtI 4 mX11_costBy [.ref 113, .int x1, .int x2, .int v3] h4 Q6 ∧ ∀ (v8 : Int32) (h9 : Hp), Q6 v8 h9 → GoI 5 mX11_withStarts 15 [(0, .ref 113), (2, .int x2), (3, .int v8), (4, .int (0 : Int32))] [] h9 Q))) : CtI 5 mX11_withStarts [.ref 113, .int x1, .int x2] h Q := by
  refine Ct.of (by decide +kernel) (Nat.le_of_ble_eq_true rfl) ?_
  show GoI 5 mX11_withStarts 0 [(0, .ref 113), (1, .int x1), (2, .int x2)] [] h Q
  refine go_aload_n (pc2 := 1) dX11_withStarts_0 rfl rfl rfl ?_
  refine go_iload_n (pc2 := 2) dX11_withStarts_1 rfl rfl rfl ?_
  refine go_iload_n (pc2 := 3) dX11_withStarts_2 rfl rfl rfl ?_
  refine go_aload_n (pc2 := 4) dX11_withStarts_3 rfl rfl rfl ?_
  refine go_iload_n (pc2 := 5) dX11_withStarts_4 rfl rfl rfl ?_
  obtain ⟨Q1, hC2, k⟩ := k
  refine gcV_I (pc2 := 8) (dC := 1) (As := [.int x2]) (st := [.int x2, .int x1, .ref 113]) rfl dX11_withStarts_5 rfl w_1484 ok_X11_freshIn vi_X11_freshIn c_113 (by decide) rfl rfl rfl (by decide) (Nat.le_of_ble_eq_true rfl) hC2 (fun v3 h4 hq5 => ?_)
  have k := k v3 h4 hq5
  obtain ⟨Q6, hC7, k⟩ := k
  refine gcV_I (pc2 := 11) (dC := 4) (As := [.int x1, .int x2, .int v3]) (st := []) rfl dX11_withStarts_8 rfl w_1300 ok_X11_costBy vi_X11_costBy c_113 (by decide) rfl rfl rfl (by decide) (Nat.le_of_ble_eq_true rfl) hC7 (fun v8 h9 hq10 => ?_)
  have k := k v8 h9 hq10
  refine go_istore_n (pc2 := 12) (ls2 := [(0, .ref 113), (1, .int x1), (2, .int x2), (3, .int v8)]) dX11_withStarts_11 rfl rfl rfl rfl rfl rfl ?_
  refine go_iconst (pc2 := 13) (v := (0 : Int32)) dX11_withStarts_12 rfl (by decide) ?_
  refine go_istore (pc2 := 15) (ls2 := [(0, .ref 113), (1, .int x1), (2, .int x2), (3, .int v8), (4, .int (0 : Int32))]) dX11_withStarts_13 rfl rfl rfl rfl rfl ?_
  exact Go.pick [0, 2, 3, 4] rfl k
theorem b_X11_withStarts_15 {x2 : Int32} {x3 : Int32} {x4 : Int32} {h : Hp} {Q : Int32 → Hp → Prop}  (k : (((h.1 114 3) ≤ x4 → Q x3 h) ∧ (¬ ((h.1 114 3) ≤ x4) → (((1000000000 : Int32) ≤ x3 → Q x3 h) ∧ (¬ ((1000000000 : Int32) ≤ x3) → (∃ Q1, CtI 0 mX11_has [.int x2, .int x4] h Q1 ∧ ∀ (v3 : Int32) (h4 : Hp), Q1 v3 h4 → ((v3 = 0 → GoI 5 mX11_withStarts 69 [(0, .ref 113), (2, .int x2), (4, .int x4)] [.int x3] h4 Q) ∧ (¬ v3 = 0 → (vp_in x4 3 ∧ ((0 ≤ (h4.1 127 (x4).toNatClampNeg) → GoI 5 mX11_withStarts 69 [(0, .ref 113), (2, .int x2), (4, .int x4)] [.int x3] h4 Q) ∧ (¬ (0 ≤ (h4.1 127 (x4).toNatClampNeg)) → (vp_in x4 3 ∧ (∃ Q8, CtI 1 mX11_startsOf [.ref 113, .int x4, .int (-(h4.1 127 (x4).toNatClampNeg))] h4 Q8 ∧ ∀ (v10 : Int32) (h11 : Hp), Q8 v10 h11 → GoI 5 mX11_withStarts 70 [(0, .ref 113), (2, .int x2), (4, .int x4)] [.int v10, .int x3] h11 Q))))))))))))) : GoI 5 mX11_withStarts 15 [(0, .ref 113), (2, .int x2), (3, .int x3), (4, .int x4)] [] h Q := by
  refine go_iload (pc2 := 17) dX11_withStarts_15 rfl rfl ?_
  refine go_aload_n (pc2 := 18) dX11_withStarts_17 rfl rfl rfl ?_
  refine gf_1056 (pc2 := 21) rfl dX11_withStarts_18 rfl c_113 (fvs r_113_0) ?_
  refine go_iconst (pc2 := 22) (v := (3 : Int32)) dX11_withStarts_21 rfl (by decide) ?_
  refine go_iaload (pc2 := 23) (j := 3) dX11_withStarts_22 rfl c_114 (vp_c rfl) rfl ?_
  refine go_icmp_ge (pc2 := 26) (tgt := 78) dX11_withStarts_23 rfl (by decide) (fun c => ?_) (fun c => ?_)
  · have k := k.1 c
    refine go_iload_n (pc2 := 79) dX11_withStarts_78 rfl rfl rfl ?_
    exact go_iret dX11_withStarts_79 ⟨_, rfl, rfl⟩ ⟨rfl, _, rfl, k⟩
  · have k := k.2 c
    refine go_iload_n (pc2 := 27) dX11_withStarts_26 rfl rfl rfl ?_
    refine go_ldc (pc2 := 29) dX11_withStarts_27 rfl rfl w_1308 ?_
    refine go_icmp_ge (pc2 := 32) (tgt := 78) dX11_withStarts_29 rfl (by decide) (fun c => ?_) (fun c => ?_)
    · have k := k.1 c
      refine go_iload_n (pc2 := 79) dX11_withStarts_78 rfl rfl rfl ?_
      exact go_iret dX11_withStarts_79 ⟨_, rfl, rfl⟩ ⟨rfl, _, rfl, k⟩
    · have k := k.2 c
      refine go_iload_n (pc2 := 33) dX11_withStarts_32 rfl rfl rfl ?_
      refine go_iload_n (pc2 := 34) dX11_withStarts_33 rfl rfl rfl ?_
      refine go_iload (pc2 := 36) dX11_withStarts_34 rfl rfl ?_
      obtain ⟨Q1, hC2, k⟩ := k
      refine gcS_I (pc2 := 39) (dC := 0) (As := [.int x2, .int x4]) (st := [.int x3]) rfl dX11_withStarts_36 rfl w_1278 ok_X11_has w_1279 rfl (by decide) (Nat.le_of_ble_eq_true rfl) hC2 (fun v3 h4 hq5 => ?_)
      have k := k v3 h4 hq5
      refine go_if_eq (pc2 := 42) (tgt := 69) dX11_withStarts_39 rfl (by decide) (fun c => ?_) (fun c => ?_)
      · have k := k.1 c
        exact Go.pick [0, 1, 3] rfl k
      · have k := k.2 c
        refine go_aload_n (pc2 := 43) dX11_withStarts_42 rfl rfl rfl ?_
        refine gf_1074 (pc2 := 46) rfl dX11_withStarts_43 rfl c_113 (fvs r_113_18) ?_
        refine go_iload (pc2 := 48) dX11_withStarts_46 rfl rfl ?_
        obtain ⟨y6, k⟩ := k
        refine go_iaload (pc2 := 49) (j := (x4).toNatClampNeg) dX11_withStarts_48 rfl c_127 y6 rfl ?_
        refine go_if_ge (pc2 := 52) (tgt := 69) dX11_withStarts_49 rfl (by decide) (fun c => ?_) (fun c => ?_)
        · have k := k.1 c
          exact Go.pick [0, 1, 3] rfl k
        · have k := k.2 c
          refine go_aload_n (pc2 := 53) dX11_withStarts_52 rfl rfl rfl ?_
          refine go_iload (pc2 := 55) dX11_withStarts_53 rfl rfl ?_
          refine go_aload_n (pc2 := 56) dX11_withStarts_55 rfl rfl rfl ?_
          refine gf_1074 (pc2 := 59) rfl dX11_withStarts_56 rfl c_113 (fvs r_113_18) ?_
          refine go_iload (pc2 := 61) dX11_withStarts_59 rfl rfl ?_
          obtain ⟨y7, k⟩ := k
          refine go_iaload (pc2 := 62) (j := (x4).toNatClampNeg) dX11_withStarts_61 rfl c_127 y7 rfl ?_
          refine go_ineg (pc2 := 63) dX11_withStarts_62 rfl ?_
          obtain ⟨Q8, hC9, k⟩ := k
          refine gcV_I (pc2 := 66) (dC := 1) (As := [.int x4, .int (-(h4.1 127 (x4).toNatClampNeg))]) (st := [.int x3]) rfl dX11_withStarts_63 rfl w_1263 ok_X11_startsOf vi_X11_startsOf c_113 (by decide) rfl rfl rfl (by decide) (Nat.le_of_ble_eq_true rfl) hC9 (fun v10 h11 hq12 => ?_)
          have k := k v10 h11 hq12
          refine go_goto (tgt := 70) dX11_withStarts_66 (by decide) ?_
          exact Go.pick [0, 1, 3] rfl k
theorem b_X11_withStarts_69 {x2 : Int32} {x4 : Int32} {s0 : Int32} {h : Hp} {Q : Int32 → Hp → Prop}  (k : GoI 5 mX11_withStarts 70 [(0, .ref 113), (2, .int x2), (4, .int x4)] [.int (0 : Int32), .int s0] h Q) : GoI 5 mX11_withStarts 69 [(0, .ref 113), (2, .int x2), (4, .int x4)] [.int s0] h Q := by
  refine go_iconst (pc2 := 70) (v := (0 : Int32)) dX11_withStarts_69 rfl (by decide) ?_
  exact k
theorem b_X11_withStarts_70 {x2 : Int32} {x4 : Int32} {s0 : Int32} {s1 : Int32} {h : Hp} {Q : Int32 → Hp → Prop}  (k : GoI 5 mX11_withStarts 15 [(0, .ref 113), (2, .int x2), (3, .int (s0 + s1)), (4, .int (x4 + 1))] [] h Q) : GoI 5 mX11_withStarts 70 [(0, .ref 113), (2, .int x2), (4, .int x4)] [.int s1, .int s0] h Q := by
  refine go_iadd (pc2 := 71) dX11_withStarts_70 rfl ?_
  refine go_istore_n (pc2 := 72) (ls2 := [(0, .ref 113), (2, .int x2), (3, .int (s0 + s1)), (4, .int x4)]) dX11_withStarts_71 rfl rfl rfl rfl rfl rfl ?_
  refine go_iinc (pc2 := 75) (ls2 := [(0, .ref 113), (2, .int x2), (3, .int (s0 + s1)), (4, .int (x4 + 1))]) (v := (x4 + 1)) dX11_withStarts_72 rfl rfl rfl rfl rfl rfl rfl ?_
  refine go_goto (tgt := 15) dX11_withStarts_75 (by decide) ?_
  exact k
theorem e_X11_unlikeIn {x1 : Int32} {x2 : Int32} {h : Hp} {Q : Int32 → Hp → Prop}  (k : GoI 1 mX11_unlikeIn 5 [(0, .ref 113), (1, .int x1), (2, .int x2), (3, .int (0 : Int32)), (4, .int (0 : Int32))] [] h Q) : CtI 1 mX11_unlikeIn [.ref 113, .int x1, .int x2] h Q := by
  refine Ct.of (by decide +kernel) (Nat.le_of_ble_eq_true rfl) ?_
  show GoI 1 mX11_unlikeIn 0 [(0, .ref 113), (1, .int x1), (2, .int x2)] [] h Q
  refine go_iconst (pc2 := 1) (v := (0 : Int32)) dX11_unlikeIn_0 rfl (by decide) ?_
  refine go_istore_n (pc2 := 2) (ls2 := [(0, .ref 113), (1, .int x1), (2, .int x2), (3, .int (0 : Int32))]) dX11_unlikeIn_1 rfl rfl rfl rfl rfl rfl ?_
  refine go_iconst (pc2 := 3) (v := (0 : Int32)) dX11_unlikeIn_2 rfl (by decide) ?_
  refine go_istore (pc2 := 5) (ls2 := [(0, .ref 113), (1, .int x1), (2, .int x2), (3, .int (0 : Int32)), (4, .int (0 : Int32))]) dX11_unlikeIn_3 rfl rfl rfl rfl rfl ?_
  exact k
theorem b_X11_unlikeIn_5 {x1 : Int32} {x2 : Int32} {x3 : Int32} {x4 : Int32} {h : Hp} {Q : Int32 → Hp → Prop}  (k : (((h.1 114 3) ≤ x4 → Q x3 h) ∧ (¬ ((h.1 114 3) ≤ x4) → (∃ Q1, CtI 0 mX11_has [.int x2, .int x4] h Q1 ∧ ∀ (v3 : Int32) (h4 : Hp), Q1 v3 h4 → (vp_in x4 3 ∧ (∃ Q7, CtI 0 mX11_has [.int (h4.1 125 (x4).toNatClampNeg), .int x1] h4 Q7 ∧ ∀ (v9 : Int32) (h10 : Hp), Q7 v9 h10 → GoI 1 mX11_unlikeIn 5 [(0, .ref 113), (1, .int x1), (2, .int x2), (3, .int (x3 + (if v3 = v9 then (0 : Int32) else (1 : Int32)))), (4, .int (x4 + 1))] [] h10 Q)))))) : GoI 1 mX11_unlikeIn 5 [(0, .ref 113), (1, .int x1), (2, .int x2), (3, .int x3), (4, .int x4)] [] h Q := by
  refine go_iload (pc2 := 7) dX11_unlikeIn_5 rfl rfl ?_
  refine go_aload_n (pc2 := 8) dX11_unlikeIn_7 rfl rfl rfl ?_
  refine gf_1056 (pc2 := 11) rfl dX11_unlikeIn_8 rfl c_113 (fvs r_113_0) ?_
  refine go_iconst (pc2 := 12) (v := (3 : Int32)) dX11_unlikeIn_11 rfl (by decide) ?_
  refine go_iaload (pc2 := 13) (j := 3) dX11_unlikeIn_12 rfl c_114 (vp_c rfl) rfl ?_
  refine go_icmp_ge (pc2 := 16) (tgt := 50) dX11_unlikeIn_13 rfl (by decide) (fun c => ?_) (fun c => ?_)
  · have k := k.1 c
    refine go_iload_n (pc2 := 51) dX11_unlikeIn_50 rfl rfl rfl ?_
    exact go_iret dX11_unlikeIn_51 ⟨_, rfl, rfl⟩ ⟨rfl, _, rfl, k⟩
  · have k := k.2 c
    refine go_iload_n (pc2 := 17) dX11_unlikeIn_16 rfl rfl rfl ?_
    refine go_iload_n (pc2 := 18) dX11_unlikeIn_17 rfl rfl rfl ?_
    refine go_iload (pc2 := 20) dX11_unlikeIn_18 rfl rfl ?_
    obtain ⟨Q1, hC2, k⟩ := k
    refine gcS_I (pc2 := 23) (dC := 0) (As := [.int x2, .int x4]) (st := [.int x3]) rfl dX11_unlikeIn_20 rfl w_1278 ok_X11_has w_1279 rfl (by decide) (Nat.le_of_ble_eq_true rfl) hC2 (fun v3 h4 hq5 => ?_)
    have k := k v3 h4 hq5
    refine go_aload_n (pc2 := 24) dX11_unlikeIn_23 rfl rfl rfl ?_
    refine gf_1072 (pc2 := 27) rfl dX11_unlikeIn_24 rfl c_113 (fvs r_113_16) ?_
    refine go_iload (pc2 := 29) dX11_unlikeIn_27 rfl rfl ?_
    obtain ⟨y6, k⟩ := k
    refine go_iaload (pc2 := 30) (j := (x4).toNatClampNeg) dX11_unlikeIn_29 rfl c_125 y6 rfl ?_
    refine go_iload_n (pc2 := 31) dX11_unlikeIn_30 rfl rfl rfl ?_
    obtain ⟨Q7, hC8, k⟩ := k
    refine gcS_I (pc2 := 34) (dC := 0) (As := [.int (h4.1 125 (x4).toNatClampNeg), .int x1]) (st := [.int v3, .int x3]) rfl dX11_unlikeIn_31 rfl w_1278 ok_X11_has w_1279 rfl (by decide) (Nat.le_of_ble_eq_true rfl) hC8 (fun v9 h10 hq11 => ?_)
    have k := k v9 h10 hq11
    have J : GoI 1 mX11_unlikeIn 42 [(0, .ref 113), (1, .int x1), (2, .int x2), (3, .int x3), (4, .int x4)] [.int (if v3 = v9 then (0 : Int32) else (1 : Int32)), .int x3] h10 Q := by
      refine go_iadd (pc2 := 43) dX11_unlikeIn_42 rfl ?_
      refine go_istore_n (pc2 := 44) (ls2 := [(0, .ref 113), (1, .int x1), (2, .int x2), (3, .int (x3 + (if v3 = v9 then (0 : Int32) else (1 : Int32)))), (4, .int x4)]) dX11_unlikeIn_43 rfl rfl rfl rfl rfl rfl ?_
      refine go_iinc (pc2 := 47) (ls2 := [(0, .ref 113), (1, .int x1), (2, .int x2), (3, .int (x3 + (if v3 = v9 then (0 : Int32) else (1 : Int32)))), (4, .int (x4 + 1))]) (v := (x4 + 1)) dX11_unlikeIn_44 rfl rfl rfl rfl rfl rfl rfl ?_
      refine go_goto (tgt := 5) dX11_unlikeIn_47 (by decide) ?_
      exact k
    refine go_icmp_ne (pc2 := 37) (tgt := 41) dX11_unlikeIn_34 rfl (by decide) (fun c => ?_) (fun c => ?_)
    · rw [if_neg c] at J
      exact go_iconst (pc2 := 42) dX11_unlikeIn_41 rfl (by decide) J
    · rw [if_pos c] at J
      exact go_iconst (pc2 := 38) dX11_unlikeIn_37 rfl (by decide) (go_goto (tgt := 42) dX11_unlikeIn_38 (by decide) J)
theorem e_X11_mends {x1 : Int32} {h : Hp} {Q : Int32 → Hp → Prop}  (k : GoI 6 mX11_mends 11 [(0, .ref 113), (1, .int x1), (2, .int (-9 : Int32)), (3, .int (0 : Int32)), (4, .int (0 : Int32)), (5, .int (0 : Int32))] [] h Q) : CtI 6 mX11_mends [.ref 113, .int x1] h Q := by
  refine Ct.of (by decide +kernel) (Nat.le_of_ble_eq_true rfl) ?_
  show GoI 6 mX11_mends 0 [(0, .ref 113), (1, .int x1)] [] h Q
  refine go_bipush (pc2 := 2) (v := (-9 : Int32)) dX11_mends_0 rfl (by decide) ?_
  refine go_istore_n (pc2 := 3) (ls2 := [(0, .ref 113), (1, .int x1), (2, .int (-9 : Int32))]) dX11_mends_2 rfl rfl rfl rfl rfl rfl ?_
  refine go_iconst (pc2 := 4) (v := (0 : Int32)) dX11_mends_3 rfl (by decide) ?_
  refine go_istore_n (pc2 := 5) (ls2 := [(0, .ref 113), (1, .int x1), (2, .int (-9 : Int32)), (3, .int (0 : Int32))]) dX11_mends_4 rfl rfl rfl rfl rfl rfl ?_
  refine go_iconst (pc2 := 6) (v := (0 : Int32)) dX11_mends_5 rfl (by decide) ?_
  refine go_istore (pc2 := 8) (ls2 := [(0, .ref 113), (1, .int x1), (2, .int (-9 : Int32)), (3, .int (0 : Int32)), (4, .int (0 : Int32))]) dX11_mends_6 rfl rfl rfl rfl rfl ?_
  refine go_iconst (pc2 := 9) (v := (0 : Int32)) dX11_mends_8 rfl (by decide) ?_
  refine go_istore (pc2 := 11) (ls2 := [(0, .ref 113), (1, .int x1), (2, .int (-9 : Int32)), (3, .int (0 : Int32)), (4, .int (0 : Int32)), (5, .int (0 : Int32))]) dX11_mends_9 rfl rfl rfl rfl rfl ?_
  exact k
theorem b_X11_mends_11 {x1 : Int32} {x2 : Int32} {x3 : Int32} {x4 : Int32} {x5 : Int32} {h : Hp} {Q : Int32 → Hp → Prop}  (k : ((((1 : Int32) <<< ((h.1 114 3) &&& 31)) ≤ x5 → Q x2 h) ∧ (¬ (((1 : Int32) <<< ((h.1 114 3) &&& 31)) ≤ x5) → (∃ Q1, CtI 2 mX11_mayAll [.ref 113, .int x5] h Q1 ∧ ∀ (v3 : Int32) (h4 : Hp), Q1 v3 h4 → ((v3 = 0 → GoI 6 mX11_mends 45 [(0, .ref 113), (1, .int x1), (2, .int x2), (3, .int x3), (4, .int x4), (5, .int x5)] [.int (1000000000 : Int32)] h4 Q) ∧ (¬ v3 = 0 → (∃ Q6, CtI 5 mX11_withStarts [.ref 113, .int x1, .int x5] h4 Q6 ∧ ∀ (v8 : Int32) (h9 : Hp), Q6 v8 h9 → GoI 6 mX11_mends 45 [(0, .ref 113), (1, .int x1), (2, .int x2), (3, .int x3), (4, .int x4), (5, .int x5)] [.int v8] h9 Q))))))) : GoI 6 mX11_mends 11 [(0, .ref 113), (1, .int x1), (2, .int x2), (3, .int x3), (4, .int x4), (5, .int x5)] [] h Q := by
  refine go_iload (pc2 := 13) dX11_mends_11 rfl rfl ?_
  refine go_iconst (pc2 := 14) (v := (1 : Int32)) dX11_mends_13 rfl (by decide) ?_
  refine go_aload_n (pc2 := 15) dX11_mends_14 rfl rfl rfl ?_
  refine gf_1056 (pc2 := 18) rfl dX11_mends_15 rfl c_113 (fvs r_113_0) ?_
  refine go_iconst (pc2 := 19) (v := (3 : Int32)) dX11_mends_18 rfl (by decide) ?_
  refine go_iaload (pc2 := 20) (j := 3) dX11_mends_19 rfl c_114 (vp_c rfl) rfl ?_
  refine go_ishl (pc2 := 21) dX11_mends_20 rfl ?_
  refine go_icmp_ge (pc2 := 24) (tgt := 104) dX11_mends_21 rfl (by decide) (fun c => ?_) (fun c => ?_)
  · have k := k.1 c
    refine go_iload_n (pc2 := 105) dX11_mends_104 rfl rfl rfl ?_
    exact go_iret dX11_mends_105 ⟨_, rfl, rfl⟩ ⟨rfl, _, rfl, k⟩
  · have k := k.2 c
    refine go_aload_n (pc2 := 25) dX11_mends_24 rfl rfl rfl ?_
    refine go_iload (pc2 := 27) dX11_mends_25 rfl rfl ?_
    obtain ⟨Q1, hC2, k⟩ := k
    refine gcV_I (pc2 := 30) (dC := 2) (As := [.int x5]) (st := []) rfl dX11_mends_27 rfl w_1476 ok_X11_mayAll vi_X11_mayAll c_113 (by decide) rfl rfl rfl (by decide) (Nat.le_of_ble_eq_true rfl) hC2 (fun v3 h4 hq5 => ?_)
    have k := k v3 h4 hq5
    refine go_if_eq (pc2 := 33) (tgt := 43) dX11_mends_30 rfl (by decide) (fun c => ?_) (fun c => ?_)
    · have k := k.1 c
      refine go_ldc (pc2 := 45) dX11_mends_43 rfl rfl w_1308 ?_
      exact k
    · have k := k.2 c
      refine go_aload_n (pc2 := 34) dX11_mends_33 rfl rfl rfl ?_
      refine go_iload_n (pc2 := 35) dX11_mends_34 rfl rfl rfl ?_
      refine go_iload (pc2 := 37) dX11_mends_35 rfl rfl ?_
      obtain ⟨Q6, hC7, k⟩ := k
      refine gcV_I (pc2 := 40) (dC := 5) (As := [.int x1, .int x5]) (st := []) rfl dX11_mends_37 rfl w_1480 ok_X11_withStarts vi_X11_withStarts c_113 (by decide) rfl rfl rfl (by decide) (Nat.le_of_ble_eq_true rfl) hC7 (fun v8 h9 hq10 => ?_)
      have k := k v8 h9 hq10
      refine go_goto (tgt := 45) dX11_mends_40 (by decide) ?_
      exact k
theorem b_X11_mends_45 {x1 : Int32} {x2 : Int32} {x3 : Int32} {x4 : Int32} {x5 : Int32} {s0 : Int32} {h : Hp} {Q : Int32 → Hp → Prop}  (k : (∃ Q1, CtI 1 mX11_unlikeIn [.ref 113, .int x1, .int x5] h Q1 ∧ ∀ (v3 : Int32) (h4 : Hp), Q1 v3 h4 → (((1000000000 : Int32) ≤ s0 → GoI 6 mX11_mends 98 [(0, .ref 113), (1, .int x1), (2, .int x2), (3, .int x3), (4, .int x4), (5, .int x5)] [] h4 Q) ∧ (¬ ((1000000000 : Int32) ≤ s0) → ((x2 = (-9 : Int32) → GoI 6 mX11_mends 88 [(0, .ref 113), (1, .int x1), (5, .int x5), (6, .int s0), (7, .int v3)] [] h4 Q) ∧ (¬ x2 = (-9 : Int32) → ((v3 < x3 → GoI 6 mX11_mends 88 [(0, .ref 113), (1, .int x1), (5, .int x5), (6, .int s0), (7, .int v3)] [] h4 Q) ∧ (¬ (v3 < x3) → ((¬ v3 = x3 → GoI 6 mX11_mends 98 [(0, .ref 113), (1, .int x1), (2, .int x2), (3, .int x3), (4, .int x4), (5, .int x5)] [] h4 Q) ∧ (v3 = x3 → ((x4 ≤ s0 → GoI 6 mX11_mends 98 [(0, .ref 113), (1, .int x1), (2, .int x2), (3, .int x3), (4, .int x4), (5, .int x5)] [] h4 Q) ∧ (¬ (x4 ≤ s0) → GoI 6 mX11_mends 88 [(0, .ref 113), (1, .int x1), (5, .int x5), (6, .int s0), (7, .int v3)] [] h4 Q)))))))))))) : GoI 6 mX11_mends 45 [(0, .ref 113), (1, .int x1), (2, .int x2), (3, .int x3), (4, .int x4), (5, .int x5)] [.int s0] h Q := by
  refine go_istore (pc2 := 47) (ls2 := [(0, .ref 113), (1, .int x1), (2, .int x2), (3, .int x3), (4, .int x4), (5, .int x5), (6, .int s0)]) dX11_mends_45 rfl rfl rfl rfl rfl ?_
  refine go_aload_n (pc2 := 48) dX11_mends_47 rfl rfl rfl ?_
  refine go_iload_n (pc2 := 49) dX11_mends_48 rfl rfl rfl ?_
  refine go_iload (pc2 := 51) dX11_mends_49 rfl rfl ?_
  obtain ⟨Q1, hC2, k⟩ := k
  refine gcV_I (pc2 := 54) (dC := 1) (As := [.int x1, .int x5]) (st := []) rfl dX11_mends_51 rfl w_1488 ok_X11_unlikeIn vi_X11_unlikeIn c_113 (by decide) rfl rfl rfl (by decide) (Nat.le_of_ble_eq_true rfl) hC2 (fun v3 h4 hq5 => ?_)
  have k := k v3 h4 hq5
  refine go_istore (pc2 := 56) (ls2 := [(0, .ref 113), (1, .int x1), (2, .int x2), (3, .int x3), (4, .int x4), (5, .int x5), (6, .int s0), (7, .int v3)]) dX11_mends_54 rfl rfl rfl rfl rfl ?_
  refine go_iload (pc2 := 58) dX11_mends_56 rfl rfl ?_
  refine go_ldc (pc2 := 60) dX11_mends_58 rfl rfl w_1308 ?_
  refine go_icmp_ge (pc2 := 63) (tgt := 98) dX11_mends_60 rfl (by decide) (fun c => ?_) (fun c => ?_)
  · have k := k.1 c
    exact Go.pick [0, 1, 2, 3, 4, 5] rfl k
  · have k := k.2 c
    refine go_iload_n (pc2 := 64) dX11_mends_63 rfl rfl rfl ?_
    refine go_bipush (pc2 := 66) (v := (-9 : Int32)) dX11_mends_64 rfl (by decide) ?_
    refine go_icmp_eq (pc2 := 69) (tgt := 88) dX11_mends_66 rfl (by decide) (fun c => ?_) (fun c => ?_)
    · have k := k.1 c
      exact Go.pick [0, 1, 5, 6, 7] rfl k
    · have k := k.2 c
      refine go_iload (pc2 := 71) dX11_mends_69 rfl rfl ?_
      refine go_iload_n (pc2 := 72) dX11_mends_71 rfl rfl rfl ?_
      refine go_icmp_lt (pc2 := 75) (tgt := 88) dX11_mends_72 rfl (by decide) (fun c => ?_) (fun c => ?_)
      · have k := k.1 c
        exact Go.pick [0, 1, 5, 6, 7] rfl k
      · have k := k.2 c
        refine go_iload (pc2 := 77) dX11_mends_75 rfl rfl ?_
        refine go_iload_n (pc2 := 78) dX11_mends_77 rfl rfl rfl ?_
        refine go_icmp_ne (pc2 := 81) (tgt := 98) dX11_mends_78 rfl (by decide) (fun c => ?_) (fun c => ?_)
        · have k := k.1 c
          exact Go.pick [0, 1, 2, 3, 4, 5] rfl k
        · have k := k.2 c
          refine go_iload (pc2 := 83) dX11_mends_81 rfl rfl ?_
          refine go_iload (pc2 := 85) dX11_mends_83 rfl rfl ?_
          refine go_icmp_ge (pc2 := 88) (tgt := 98) dX11_mends_85 rfl (by decide) (fun c => ?_) (fun c => ?_)
          · have k := k.1 c
            exact Go.pick [0, 1, 2, 3, 4, 5] rfl k
          · have k := k.2 c
            exact Go.pick [0, 1, 5, 6, 7] rfl k
theorem b_X11_mends_98 {x1 : Int32} {x2 : Int32} {x3 : Int32} {x4 : Int32} {x5 : Int32} {h : Hp} {Q : Int32 → Hp → Prop}  (k : GoI 6 mX11_mends 11 [(0, .ref 113), (1, .int x1), (2, .int x2), (3, .int x3), (4, .int x4), (5, .int (x5 + 1))] [] h Q) : GoI 6 mX11_mends 98 [(0, .ref 113), (1, .int x1), (2, .int x2), (3, .int x3), (4, .int x4), (5, .int x5)] [] h Q := by
  refine go_iinc (pc2 := 101) (ls2 := [(0, .ref 113), (1, .int x1), (2, .int x2), (3, .int x3), (4, .int x4), (5, .int (x5 + 1))]) (v := (x5 + 1)) dX11_mends_98 rfl rfl rfl rfl rfl rfl rfl ?_
  refine go_goto (tgt := 11) dX11_mends_101 (by decide) ?_
  exact k
theorem b_X11_mends_88 {x1 : Int32} {x5 : Int32} {x6 : Int32} {x7 : Int32} {h : Hp} {Q : Int32 → Hp → Prop}  (k : GoI 6 mX11_mends 98 [(0, .ref 113), (1, .int x1), (2, .int x5), (3, .int x7), (4, .int x6), (5, .int x5)] [] h Q) : GoI 6 mX11_mends 88 [(0, .ref 113), (1, .int x1), (5, .int x5), (6, .int x6), (7, .int x7)] [] h Q := by
  refine go_iload (pc2 := 90) dX11_mends_88 rfl rfl ?_
  refine go_istore_n (pc2 := 91) (ls2 := [(0, .ref 113), (1, .int x1), (2, .int x5), (5, .int x5), (6, .int x6), (7, .int x7)]) dX11_mends_90 rfl rfl rfl rfl rfl rfl ?_
  refine go_iload (pc2 := 93) dX11_mends_91 rfl rfl ?_
  refine go_istore_n (pc2 := 94) (ls2 := [(0, .ref 113), (1, .int x1), (2, .int x5), (3, .int x7), (5, .int x5), (6, .int x6), (7, .int x7)]) dX11_mends_93 rfl rfl rfl rfl rfl rfl ?_
  refine go_iload (pc2 := 96) dX11_mends_94 rfl rfl ?_
  refine go_istore (pc2 := 98) (ls2 := [(0, .ref 113), (1, .int x1), (2, .int x5), (3, .int x7), (4, .int x6), (5, .int x5), (6, .int x6), (7, .int x7)]) dX11_mends_96 rfl rfl rfl rfl rfl ?_
  exact Go.pick [0, 1, 2, 3, 4, 5] rfl k
theorem e_X11_repairs  {h : Hp} {Q : Int32 → Hp → Prop}  (k : GoI 7 mX11_repairs 2 [(0, .ref 113), (1, .int (0 : Int32))] [] h Q) : CtI 7 mX11_repairs [.ref 113] h Q := by
  refine Ct.of (by decide +kernel) (Nat.le_of_ble_eq_true rfl) ?_
  show GoI 7 mX11_repairs 0 [(0, .ref 113)] [] h Q
  refine go_iconst (pc2 := 1) (v := (0 : Int32)) dX11_repairs_0 rfl (by decide) ?_
  refine go_istore_n (pc2 := 2) (ls2 := [(0, .ref 113), (1, .int (0 : Int32))]) dX11_repairs_1 rfl rfl rfl rfl rfl rfl ?_
  exact k
theorem b_X11_repairs_2 {x1 : Int32} {h : Hp} {Q : Int32 → Hp → Prop}  (k : (((h.1 114 3) ≤ x1 → GoI 7 mX11_repairs 53 [(0, .ref 113), (1, .int (0 : Int32)), (2, .int (0 : Int32))] [] h Q) ∧ (¬ ((h.1 114 3) ≤ x1) → (∃ Q1, CtI 4 mX11_answerOf [.ref 113, .int x1] h Q1 ∧ ∀ (v3 : Int32) (h4 : Hp), Q1 v3 h4 → (vp_in x1 3 ∧ (∀ g7 : Hp, g7 = (ui h4 125 (x1).toNatClampNeg v3) → (∃ Q8, CtI 0 mX11_of1 [.ref 113, .int x1, .int (9 : Int32)] g7 Q8 ∧ ∀ (v10 : Int32) (h11 : Hp), Q8 v10 h11 → (vp_in x1 3 ∧ (∀ g14 : Hp, g14 = (ui h11 127 (x1).toNatClampNeg v10) → (vp_in x1 3 ∧ (∀ g16 : Hp, g16 = (ui g14 128 (x1).toNatClampNeg (0 : Int32)) → GoI 7 mX11_repairs 2 [(0, .ref 113), (1, .int (x1 + 1))] [] g16 Q))))))))))) : GoI 7 mX11_repairs 2 [(0, .ref 113), (1, .int x1)] [] h Q := by
  refine go_iload_n (pc2 := 3) dX11_repairs_2 rfl rfl rfl ?_
  refine go_aload_n (pc2 := 4) dX11_repairs_3 rfl rfl rfl ?_
  refine gf_1056 (pc2 := 7) rfl dX11_repairs_4 rfl c_113 (fvs r_113_0) ?_
  refine go_iconst (pc2 := 8) (v := (3 : Int32)) dX11_repairs_7 rfl (by decide) ?_
  refine go_iaload (pc2 := 9) (j := 3) dX11_repairs_8 rfl c_114 (vp_c rfl) rfl ?_
  refine go_icmp_ge (pc2 := 12) (tgt := 49) dX11_repairs_9 rfl (by decide) (fun c => ?_) (fun c => ?_)
  · have k := k.1 c
    refine go_iconst (pc2 := 50) (v := (0 : Int32)) dX11_repairs_49 rfl (by decide) ?_
    refine go_istore_n (pc2 := 51) (ls2 := [(0, .ref 113), (1, .int (0 : Int32))]) dX11_repairs_50 rfl rfl rfl rfl rfl rfl ?_
    refine go_iconst (pc2 := 52) (v := (0 : Int32)) dX11_repairs_51 rfl (by decide) ?_
    refine go_istore_n (pc2 := 53) (ls2 := [(0, .ref 113), (1, .int (0 : Int32)), (2, .int (0 : Int32))]) dX11_repairs_52 rfl rfl rfl rfl rfl rfl ?_
    exact k
  · have k := k.2 c
    refine go_aload_n (pc2 := 13) dX11_repairs_12 rfl rfl rfl ?_
    refine gf_1072 (pc2 := 16) rfl dX11_repairs_13 rfl c_113 (fvs r_113_16) ?_
    refine go_iload_n (pc2 := 17) dX11_repairs_16 rfl rfl rfl ?_
    refine go_aload_n (pc2 := 18) dX11_repairs_17 rfl rfl rfl ?_
    refine go_iload_n (pc2 := 19) dX11_repairs_18 rfl rfl rfl ?_
    obtain ⟨Q1, hC2, k⟩ := k
    refine gcV_I (pc2 := 22) (dC := 4) (As := [.int x1]) (st := [.int x1, .ref 125]) rfl dX11_repairs_19 rfl w_1421 ok_X11_answerOf vi_X11_answerOf c_113 (by decide) rfl rfl rfl (by decide) (Nat.le_of_ble_eq_true rfl) hC2 (fun v3 h4 hq5 => ?_)
    have k := k v3 h4 hq5
    obtain ⟨y6, k⟩ := k
    refine go_iastore (pc2 := 23) (j := (x1).toNatClampNeg) dX11_repairs_22 rfl c_125 y6 rfl ?_
    obtain ⟨g7, eg7⟩ : ∃ y : Hp, y = (ui h4 125 (x1).toNatClampNeg v3) := ⟨_, rfl⟩
    rw [← eg7]
    have k := k g7 eg7
    refine go_aload_n (pc2 := 24) dX11_repairs_23 rfl rfl rfl ?_
    refine gf_1074 (pc2 := 27) rfl dX11_repairs_24 rfl c_113 (fvs r_113_18) ?_
    refine go_iload_n (pc2 := 28) dX11_repairs_27 rfl rfl rfl ?_
    refine go_aload_n (pc2 := 29) dX11_repairs_28 rfl rfl rfl ?_
    refine go_iload_n (pc2 := 30) dX11_repairs_29 rfl rfl rfl ?_
    refine go_bipush (pc2 := 32) (v := (9 : Int32)) dX11_repairs_30 rfl (by decide) ?_
    obtain ⟨Q8, hC9, k⟩ := k
    refine gcV_I (pc2 := 35) (dC := 0) (As := [.int x1, .int (9 : Int32)]) (st := [.int x1, .ref 127]) rfl dX11_repairs_32 rfl w_1212 ok_X11_of1 vi_X11_of1 c_113 (by decide) rfl rfl rfl (by decide) (Nat.le_of_ble_eq_true rfl) hC9 (fun v10 h11 hq12 => ?_)
    have k := k v10 h11 hq12
    obtain ⟨y13, k⟩ := k
    refine go_iastore (pc2 := 36) (j := (x1).toNatClampNeg) dX11_repairs_35 rfl c_127 y13 rfl ?_
    obtain ⟨g14, eg14⟩ : ∃ y : Hp, y = (ui h11 127 (x1).toNatClampNeg v10) := ⟨_, rfl⟩
    rw [← eg14]
    have k := k g14 eg14
    refine go_aload_n (pc2 := 37) dX11_repairs_36 rfl rfl rfl ?_
    refine gf_1075 (pc2 := 40) rfl dX11_repairs_37 rfl c_113 (fvs r_113_19) ?_
    refine go_iload_n (pc2 := 41) dX11_repairs_40 rfl rfl rfl ?_
    refine go_iconst (pc2 := 42) (v := (0 : Int32)) dX11_repairs_41 rfl (by decide) ?_
    obtain ⟨y15, k⟩ := k
    refine go_iastore (pc2 := 43) (j := (x1).toNatClampNeg) dX11_repairs_42 rfl c_128 y15 rfl ?_
    obtain ⟨g16, eg16⟩ : ∃ y : Hp, y = (ui g14 128 (x1).toNatClampNeg (0 : Int32)) := ⟨_, rfl⟩
    rw [← eg16]
    have k := k g16 eg16
    refine go_iinc (pc2 := 46) (ls2 := [(0, .ref 113), (1, .int (x1 + 1))]) (v := (x1 + 1)) dX11_repairs_43 rfl rfl rfl rfl rfl rfl rfl ?_
    refine go_goto (tgt := 2) dX11_repairs_46 (by decide) ?_
    exact k
theorem b_X11_repairs_53 {x1 : Int32} {x2 : Int32} {h : Hp} {Q : Int32 → Hp → Prop}  (k : (((h.1 114 0) ≤ x2 → Q x1 h) ∧ (¬ ((h.1 114 0) ≤ x2) → (∃ Q1, CtI 6 mX11_mends [.ref 113, .int x2] h Q1 ∧ ∀ (v3 : Int32) (h4 : Hp), Q1 v3 h4 → ((¬ v3 = (-9 : Int32) → (∃ Q6, CtI 5 mX11_withStarts [.ref 113, .int x2, .int v3] h4 Q6 ∧ ∀ (v8 : Int32) (h9 : Hp), Q6 v8 h9 → GoI 7 mX11_repairs 90 [(0, .ref 113), (1, .int (x1 + v8)), (2, .int x2), (3, .int v3), (4, .int (0 : Int32))] [] h9 Q)) ∧ (v3 = (-9 : Int32) → Q (-9 : Int32) h4)))))) : GoI 7 mX11_repairs 53 [(0, .ref 113), (1, .int x1), (2, .int x2)] [] h Q := by
  refine go_iload_n (pc2 := 54) dX11_repairs_53 rfl rfl rfl ?_
  refine go_aload_n (pc2 := 55) dX11_repairs_54 rfl rfl rfl ?_
  refine gf_1056 (pc2 := 58) rfl dX11_repairs_55 rfl c_113 (fvs r_113_0) ?_
  refine go_iconst (pc2 := 59) (v := (0 : Int32)) dX11_repairs_58 rfl (by decide) ?_
  refine go_iaload (pc2 := 60) (j := 0) dX11_repairs_59 rfl c_114 (vp_c rfl) rfl ?_
  refine go_icmp_ge (pc2 := 63) (tgt := 162) dX11_repairs_60 rfl (by decide) (fun c => ?_) (fun c => ?_)
  · have k := k.1 c
    refine go_iload_n (pc2 := 163) dX11_repairs_162 rfl rfl rfl ?_
    exact go_iret dX11_repairs_163 ⟨_, rfl, rfl⟩ ⟨rfl, _, rfl, k⟩
  · have k := k.2 c
    refine go_aload_n (pc2 := 64) dX11_repairs_63 rfl rfl rfl ?_
    refine go_iload_n (pc2 := 65) dX11_repairs_64 rfl rfl rfl ?_
    obtain ⟨Q1, hC2, k⟩ := k
    refine gcV_I (pc2 := 68) (dC := 6) (As := [.int x2]) (st := []) rfl dX11_repairs_65 rfl w_1472 ok_X11_mends vi_X11_mends c_113 (by decide) rfl rfl rfl (by decide) (Nat.le_of_ble_eq_true rfl) hC2 (fun v3 h4 hq5 => ?_)
    have k := k v3 h4 hq5
    refine go_istore_n (pc2 := 69) (ls2 := [(0, .ref 113), (1, .int x1), (2, .int x2), (3, .int v3)]) dX11_repairs_68 rfl rfl rfl rfl rfl rfl ?_
    refine go_iload_n (pc2 := 70) dX11_repairs_69 rfl rfl rfl ?_
    refine go_bipush (pc2 := 72) (v := (-9 : Int32)) dX11_repairs_70 rfl (by decide) ?_
    refine go_icmp_ne (pc2 := 75) (tgt := 78) dX11_repairs_72 rfl (by decide) (fun c => ?_) (fun c => ?_)
    · have k := k.1 c
      refine go_iload_n (pc2 := 79) dX11_repairs_78 rfl rfl rfl ?_
      refine go_aload_n (pc2 := 80) dX11_repairs_79 rfl rfl rfl ?_
      refine go_iload_n (pc2 := 81) dX11_repairs_80 rfl rfl rfl ?_
      refine go_iload_n (pc2 := 82) dX11_repairs_81 rfl rfl rfl ?_
      obtain ⟨Q6, hC7, k⟩ := k
      refine gcV_I (pc2 := 85) (dC := 5) (As := [.int x2, .int v3]) (st := [.int x1]) rfl dX11_repairs_82 rfl w_1480 ok_X11_withStarts vi_X11_withStarts c_113 (by decide) rfl rfl rfl (by decide) (Nat.le_of_ble_eq_true rfl) hC7 (fun v8 h9 hq10 => ?_)
      have k := k v8 h9 hq10
      refine go_iadd (pc2 := 86) dX11_repairs_85 rfl ?_
      refine go_istore_n (pc2 := 87) (ls2 := [(0, .ref 113), (1, .int (x1 + v8)), (2, .int x2), (3, .int v3)]) dX11_repairs_86 rfl rfl rfl rfl rfl rfl ?_
      refine go_iconst (pc2 := 88) (v := (0 : Int32)) dX11_repairs_87 rfl (by decide) ?_
      refine go_istore (pc2 := 90) (ls2 := [(0, .ref 113), (1, .int (x1 + v8)), (2, .int x2), (3, .int v3), (4, .int (0 : Int32))]) dX11_repairs_88 rfl rfl rfl rfl rfl ?_
      exact k
    · have k := k.2 c
      refine go_bipush (pc2 := 77) (v := (-9 : Int32)) dX11_repairs_75 rfl (by decide) ?_
      exact go_iret dX11_repairs_77 ⟨_, rfl, rfl⟩ ⟨rfl, _, rfl, k⟩
theorem b_X11_repairs_90 {x1 : Int32} {x2 : Int32} {x3 : Int32} {x4 : Int32} {h : Hp} {Q : Int32 → Hp → Prop}  (k : (((h.1 114 3) ≤ x4 → GoI 7 mX11_repairs 53 [(0, .ref 113), (1, .int x1), (2, .int (x2 + 1))] [] h Q) ∧ (¬ ((h.1 114 3) ≤ x4) → (vp_in x4 3 ∧ (∃ Q2, CtI 0 mX11_has [.int x3, .int x4] h Q2 ∧ ∀ (v4 : Int32) (h5 : Hp), Q2 v4 h5 → ((v4 = 0 → GoI 7 mX11_repairs 125 [(0, .ref 113), (1, .int x1), (2, .int x2), (3, .int x3), (4, .int x4)] [.int (0 : Int32), .int (h.1 128 (x4).toNatClampNeg), .int x4, .ref 128] h5 Q) ∧ (¬ v4 = 0 → GoI 7 mX11_repairs 125 [(0, .ref 113), (1, .int x1), (2, .int x2), (3, .int x3), (4, .int x4)] [.int ((1 : Int32) <<< (x2 &&& 31)), .int (h.1 128 (x4).toNatClampNeg), .int x4, .ref 128] h5 Q))))))) : GoI 7 mX11_repairs 90 [(0, .ref 113), (1, .int x1), (2, .int x2), (3, .int x3), (4, .int x4)] [] h Q := by
  refine go_iload (pc2 := 92) dX11_repairs_90 rfl rfl ?_
  refine go_aload_n (pc2 := 93) dX11_repairs_92 rfl rfl rfl ?_
  refine gf_1056 (pc2 := 96) rfl dX11_repairs_93 rfl c_113 (fvs r_113_0) ?_
  refine go_iconst (pc2 := 97) (v := (3 : Int32)) dX11_repairs_96 rfl (by decide) ?_
  refine go_iaload (pc2 := 98) (j := 3) dX11_repairs_97 rfl c_114 (vp_c rfl) rfl ?_
  refine go_icmp_ge (pc2 := 101) (tgt := 156) dX11_repairs_98 rfl (by decide) (fun c => ?_) (fun c => ?_)
  · have k := k.1 c
    refine go_iinc (pc2 := 159) (ls2 := [(0, .ref 113), (1, .int x1), (2, .int (x2 + 1)), (3, .int x3), (4, .int x4)]) (v := (x2 + 1)) dX11_repairs_156 rfl rfl rfl rfl rfl rfl rfl ?_
    refine go_goto (tgt := 53) dX11_repairs_159 (by decide) ?_
    exact Go.pick [0, 1, 2] rfl k
  · have k := k.2 c
    refine go_aload_n (pc2 := 102) dX11_repairs_101 rfl rfl rfl ?_
    refine gf_1075 (pc2 := 105) rfl dX11_repairs_102 rfl c_113 (fvs r_113_19) ?_
    refine go_iload (pc2 := 107) dX11_repairs_105 rfl rfl ?_
    refine go_dup2 (pc2 := 108) dX11_repairs_107 rfl rfl rfl ?_
    obtain ⟨y1, k⟩ := k
    refine go_iaload (pc2 := 109) (j := (x4).toNatClampNeg) dX11_repairs_108 rfl c_128 y1 rfl ?_
    refine go_iload_n (pc2 := 110) dX11_repairs_109 rfl rfl rfl ?_
    refine go_iload (pc2 := 112) dX11_repairs_110 rfl rfl ?_
    obtain ⟨Q2, hC3, k⟩ := k
    refine gcS_I (pc2 := 115) (dC := 0) (As := [.int x3, .int x4]) (st := [.int (h.1 128 (x4).toNatClampNeg), .int x4, .ref 128]) rfl dX11_repairs_112 rfl w_1278 ok_X11_has w_1279 rfl (by decide) (Nat.le_of_ble_eq_true rfl) hC3 (fun v4 h5 hq6 => ?_)
    have k := k v4 h5 hq6
    refine go_if_eq (pc2 := 118) (tgt := 124) dX11_repairs_115 rfl (by decide) (fun c => ?_) (fun c => ?_)
    · have k := k.1 c
      refine go_iconst (pc2 := 125) (v := (0 : Int32)) dX11_repairs_124 rfl (by decide) ?_
      exact k
    · have k := k.2 c
      refine go_iconst (pc2 := 119) (v := (1 : Int32)) dX11_repairs_118 rfl (by decide) ?_
      refine go_iload_n (pc2 := 120) dX11_repairs_119 rfl rfl rfl ?_
      refine go_ishl (pc2 := 121) dX11_repairs_120 rfl ?_
      refine go_goto (tgt := 125) dX11_repairs_121 (by decide) ?_
      exact k
theorem b_X11_repairs_125 {x1 : Int32} {x2 : Int32} {x3 : Int32} {x4 : Int32} {s1 : Int32} {s2 : Int32} {s3 : Int32} {h : Hp} {Q : Int32 → Hp → Prop}  (k : (vp_in s1 3 ∧ (∀ g2 : Hp, g2 = (ui h 128 (s1).toNatClampNeg (s2 ||| s3)) → (vp_in x4 3 ∧ (∃ Q4, CtI 0 mX11_has [.int x3, .int x4] g2 Q4 ∧ ∀ (v6 : Int32) (h7 : Hp), Q4 v6 h7 → (∃ Q9, CtI 0 mX11_goesOn [.int (g2.1 127 (x4).toNatClampNeg), .int v6] h7 Q9 ∧ ∀ (v11 : Int32) (h12 : Hp), Q9 v11 h12 → (vp_in x4 3 ∧ (∀ g15 : Hp, g15 = (ui h12 127 (x4).toNatClampNeg v11) → GoI 7 mX11_repairs 90 [(0, .ref 113), (1, .int x1), (2, .int x2), (3, .int x3), (4, .int (x4 + 1))] [] g15 Q)))))))) : GoI 7 mX11_repairs 125 [(0, .ref 113), (1, .int x1), (2, .int x2), (3, .int x3), (4, .int x4)] [.int s3, .int s2, .int s1, .ref 128] h Q := by
  refine go_ior (pc2 := 126) dX11_repairs_125 rfl ?_
  obtain ⟨y1, k⟩ := k
  refine go_iastore (pc2 := 127) (j := (s1).toNatClampNeg) dX11_repairs_126 rfl c_128 y1 rfl ?_
  obtain ⟨g2, eg2⟩ : ∃ y : Hp, y = (ui h 128 (s1).toNatClampNeg (s2 ||| s3)) := ⟨_, rfl⟩
  rw [← eg2]
  have k := k g2 eg2
  refine go_aload_n (pc2 := 128) dX11_repairs_127 rfl rfl rfl ?_
  refine gf_1074 (pc2 := 131) rfl dX11_repairs_128 rfl c_113 (fvs r_113_18) ?_
  refine go_iload (pc2 := 133) dX11_repairs_131 rfl rfl ?_
  refine go_aload_n (pc2 := 134) dX11_repairs_133 rfl rfl rfl ?_
  refine gf_1074 (pc2 := 137) rfl dX11_repairs_134 rfl c_113 (fvs r_113_18) ?_
  refine go_iload (pc2 := 139) dX11_repairs_137 rfl rfl ?_
  obtain ⟨y3, k⟩ := k
  refine go_iaload (pc2 := 140) (j := (x4).toNatClampNeg) dX11_repairs_139 rfl c_127 y3 rfl ?_
  refine go_iload_n (pc2 := 141) dX11_repairs_140 rfl rfl rfl ?_
  refine go_iload (pc2 := 143) dX11_repairs_141 rfl rfl ?_
  obtain ⟨Q4, hC5, k⟩ := k
  refine gcS_I (pc2 := 146) (dC := 0) (As := [.int x3, .int x4]) (st := [.int (g2.1 127 (x4).toNatClampNeg), .int x4, .ref 127]) rfl dX11_repairs_143 rfl w_1278 ok_X11_has w_1279 rfl (by decide) (Nat.le_of_ble_eq_true rfl) hC5 (fun v6 h7 hq8 => ?_)
  have k := k v6 h7 hq8
  obtain ⟨Q9, hC10, k⟩ := k
  refine gcS_I (pc2 := 149) (dC := 0) (As := [.int (g2.1 127 (x4).toNatClampNeg), .int v6]) (st := [.int x4, .ref 127]) rfl dX11_repairs_146 rfl w_1285 ok_X11_goesOn w_1286 rfl (by decide) (Nat.le_of_ble_eq_true rfl) hC10 (fun v11 h12 hq13 => ?_)
  have k := k v11 h12 hq13
  obtain ⟨y14, k⟩ := k
  refine go_iastore (pc2 := 150) (j := (x4).toNatClampNeg) dX11_repairs_149 rfl c_127 y14 rfl ?_
  obtain ⟨g15, eg15⟩ : ∃ y : Hp, y = (ui h12 127 (x4).toNatClampNeg v11) := ⟨_, rfl⟩
  rw [← eg15]
  have k := k g15 eg15
  refine go_iinc (pc2 := 153) (ls2 := [(0, .ref 113), (1, .int x1), (2, .int x2), (3, .int x3), (4, .int (x4 + 1))]) (v := (x4 + 1)) dX11_repairs_150 rfl rfl rfl rfl rfl rfl rfl ?_
  refine go_goto (tgt := 90) dX11_repairs_153 (by decide) ?_
  exact k
theorem e_X11_repaired {x1 : Int32} {h : Hp} {Q : Int32 → Hp → Prop}  (k : ((x1 = (-1 : Int32) → GoI 8 mX11_repaired 19 [(0, .ref 113), (1, .int x1)] [] h Q) ∧ (¬ x1 = (-1 : Int32) → (∃ Q1, CtI 1 mX11_isPlant [.ref 113, .int x1] h Q1 ∧ ∀ (v3 : Int32) (h4 : Hp), Q1 v3 h4 → ((¬ v3 = 0 → GoI 8 mX11_repaired 19 [(0, .ref 113), (1, .int x1)] [] h4 Q) ∧ (v3 = 0 → (∃ Q6, CtI 0 mX11_no [.ref 113, .int (-1 : Int32)] h4 Q6 ∧ ∀ (v8 : Int32) (h9 : Hp), Q6 v8 h9 → Q v8 h9))))))) : CtI 8 mX11_repaired [.ref 113, .int x1] h Q := by
  refine Ct.of (by decide +kernel) (Nat.le_of_ble_eq_true rfl) ?_
  show GoI 8 mX11_repaired 0 [(0, .ref 113), (1, .int x1)] [] h Q
  refine go_iload_n (pc2 := 1) dX11_repaired_0 rfl rfl rfl ?_
  refine go_iconst (pc2 := 2) (v := (-1 : Int32)) dX11_repaired_1 rfl (by decide) ?_
  refine go_icmp_eq (pc2 := 5) (tgt := 19) dX11_repaired_2 rfl (by decide) (fun c => ?_) (fun c => ?_)
  · have k := k.1 c
    exact k
  · have k := k.2 c
    refine go_aload_n (pc2 := 6) dX11_repaired_5 rfl rfl rfl ?_
    refine go_iload_n (pc2 := 7) dX11_repaired_6 rfl rfl rfl ?_
    obtain ⟨Q1, hC2, k⟩ := k
    refine gcV_I (pc2 := 10) (dC := 1) (As := [.int x1]) (st := []) rfl dX11_repaired_7 rfl w_1208 ok_X11_isPlant vi_X11_isPlant c_113 (by decide) rfl rfl rfl (by decide) (Nat.le_of_ble_eq_true rfl) hC2 (fun v3 h4 hq5 => ?_)
    have k := k v3 h4 hq5
    refine go_if_ne (pc2 := 13) (tgt := 19) dX11_repaired_10 rfl (by decide) (fun c => ?_) (fun c => ?_)
    · have k := k.1 c
      exact k
    · have k := k.2 c
      refine go_aload_n (pc2 := 14) dX11_repaired_13 rfl rfl rfl ?_
      refine go_iconst (pc2 := 15) (v := (-1 : Int32)) dX11_repaired_14 rfl (by decide) ?_
      obtain ⟨Q6, hC7, k⟩ := k
      refine gcV_I (pc2 := 18) (dC := 0) (As := [.int (-1 : Int32)]) (st := []) rfl dX11_repaired_15 rfl w_1161 ok_X11_no vi_X11_no c_113 (by decide) rfl rfl rfl (by decide) (Nat.le_of_ble_eq_true rfl) hC7 (fun v8 h9 hq10 => ?_)
      have k := k v8 h9 hq10
      exact go_iret dX11_repaired_18 ⟨_, rfl, rfl⟩ ⟨rfl, _, rfl, k⟩
theorem b_X11_repaired_19 {x1 : Int32} {h : Hp} {Q : Int32 → Hp → Prop}  (k : (∃ Q1, CtI 7 mX11_repairs [.ref 113] h Q1 ∧ ∀ (v3 : Int32) (h4 : Hp), Q1 v3 h4 → ((v3 = (-9 : Int32) → Q v3 h4) ∧ (¬ v3 = (-9 : Int32) → ((¬ x1 = (-1 : Int32) → (vp_in x1 3 ∧ Q (h4.1 128 (x1).toNatClampNeg) h4)) ∧ (x1 = (-1 : Int32) → Q v3 h4)))))) : GoI 8 mX11_repaired 19 [(0, .ref 113), (1, .int x1)] [] h Q := by
  refine go_aload_n (pc2 := 20) dX11_repaired_19 rfl rfl rfl ?_
  obtain ⟨Q1, hC2, k⟩ := k
  refine gcV_I (pc2 := 23) (dC := 7) (As := []) (st := []) rfl dX11_repaired_20 rfl w_1468 ok_X11_repairs vi_X11_repairs c_113 (by decide) rfl rfl rfl (by decide) (Nat.le_of_ble_eq_true rfl) hC2 (fun v3 h4 hq5 => ?_)
  have k := k v3 h4 hq5
  refine go_istore_n (pc2 := 24) (ls2 := [(0, .ref 113), (1, .int x1), (2, .int v3)]) dX11_repaired_23 rfl rfl rfl rfl rfl rfl ?_
  refine go_iload_n (pc2 := 25) dX11_repaired_24 rfl rfl rfl ?_
  refine go_bipush (pc2 := 27) (v := (-9 : Int32)) dX11_repaired_25 rfl (by decide) ?_
  refine go_icmp_eq (pc2 := 30) (tgt := 35) dX11_repaired_27 rfl (by decide) (fun c => ?_) (fun c => ?_)
  · have k := k.1 c
    refine go_iload_n (pc2 := 36) dX11_repaired_35 rfl rfl rfl ?_
    refine go_goto (tgt := 45) dX11_repaired_36 (by decide) ?_
    exact go_iret dX11_repaired_45 ⟨_, rfl, rfl⟩ ⟨rfl, _, rfl, k⟩
  · have k := k.2 c
    refine go_iload_n (pc2 := 31) dX11_repaired_30 rfl rfl rfl ?_
    refine go_iconst (pc2 := 32) (v := (-1 : Int32)) dX11_repaired_31 rfl (by decide) ?_
    refine go_icmp_ne (pc2 := 35) (tgt := 39) dX11_repaired_32 rfl (by decide) (fun c => ?_) (fun c => ?_)
    · have k := k.1 c
      refine go_aload_n (pc2 := 40) dX11_repaired_39 rfl rfl rfl ?_
      refine gf_1075 (pc2 := 43) rfl dX11_repaired_40 rfl c_113 (fvs r_113_19) ?_
      refine go_iload_n (pc2 := 44) dX11_repaired_43 rfl rfl rfl ?_
      obtain ⟨y6, k⟩ := k
      refine go_iaload (pc2 := 45) (j := (x1).toNatClampNeg) dX11_repaired_44 rfl c_128 y6 rfl ?_
      exact go_iret dX11_repaired_45 ⟨_, rfl, rfl⟩ ⟨rfl, _, rfl, k⟩
    · have k := k.2 c
      refine go_iload_n (pc2 := 36) dX11_repaired_35 rfl rfl rfl ?_
      refine go_goto (tgt := 45) dX11_repaired_36 (by decide) ?_
      exact go_iret dX11_repaired_45 ⟨_, rfl, rfl⟩ ⟨rfl, _, rfl, k⟩
theorem e_X11_isList {x0 : Int32} {h : Hp} {Q : Int32 → Hp → Prop}  (k : (∃ Q1, CtI 0 mX11_isIn [.long (x0).toInt64, .long (0 : Int64), .long (3 : Int64)] h Q1 ∧ ∀ (v3 : Int32) (h4 : Hp), Q1 v3 h4 → (v3 &&& 1 = v3 ∧ Q v3 h4))) : CtI 1 mX11_isList [.int x0] h Q := by
  refine Ct.of (by decide +kernel) (Nat.le_of_ble_eq_true rfl) ?_
  show GoI 1 mX11_isList 0 [(0, .int x0)] [] h Q
  refine go_iload_n (pc2 := 1) dX11_isList_0 rfl rfl rfl ?_
  refine go_i2l (pc2 := 2) dX11_isList_1 rfl ?_
  refine go_lconst (pc2 := 3) (v := (0 : Int64)) dX11_isList_2 rfl (by decide) ?_
  refine go_ldc2 (pc2 := 6) dX11_isList_3 rfl rfl w_1499 ?_
  obtain ⟨Q1, hC2, k⟩ := k
  refine gcS_I (pc2 := 9) (dC := 0) (As := [.long (x0).toInt64, .long (0 : Int64), .long (3 : Int64)]) (st := []) rfl dX11_isList_6 rfl w_1177 ok_X11_isIn w_1178 rfl (by decide) (Nat.le_of_ble_eq_true rfl) hC2 (fun v3 h4 hq5 => ?_)
  have k := k v3 h4 hq5
  obtain ⟨y6, k⟩ := k
  exact go_iret dX11_isList_9 ⟨_, rfl, congrArg Value.int y6⟩ ⟨rfl, _, rfl, k⟩
theorem e_X11_list {x1 : Int32} {x2 : Int32} {h : Hp} {Q : Int32 → Hp → Prop}  (k : (∃ Q1, CtI 1 mX11_isList [.int x1] h Q1 ∧ ∀ (v3 : Int32) (h4 : Hp), Q1 v3 h4 → ((¬ v3 = 0 → ((x2 ≤ (20 : Int32) → ((0 ≤ x2 → (vp_in x1 4 ∧ (∀ g7 : Hp, g7 = (ui h4 129 (x1).toNatClampNeg x2) → GoI 2 mX11_list 42 [(0, .ref 113), (1, .int x1), (3, .int (0 : Int32))] [] g7 Q))) ∧ (¬ (0 ≤ x2) → Q (-14 : Int32) h4))) ∧ (¬ (x2 ≤ (20 : Int32)) → (∃ Q8, CtI 0 mX11_no [.ref 113, .int (-6 : Int32)] h4 Q8 ∧ ∀ (v10 : Int32) (h11 : Hp), Q8 v10 h11 → Q v10 h11)))) ∧ (v3 = 0 → (∃ Q13, CtI 0 mX11_no [.ref 113, .int (-1 : Int32)] h4 Q13 ∧ ∀ (v15 : Int32) (h16 : Hp), Q13 v15 h16 → Q v15 h16))))) : CtI 2 mX11_list [.ref 113, .int x1, .int x2] h Q := by
  refine Ct.of (by decide +kernel) (Nat.le_of_ble_eq_true rfl) ?_
  show GoI 2 mX11_list 0 [(0, .ref 113), (1, .int x1), (2, .int x2)] [] h Q
  refine go_iload_n (pc2 := 1) dX11_list_0 rfl rfl rfl ?_
  obtain ⟨Q1, hC2, k⟩ := k
  refine gcS_I (pc2 := 4) (dC := 1) (As := [.int x1]) (st := []) rfl dX11_list_1 rfl w_1496 ok_X11_isList w_1497 rfl (by decide) (Nat.le_of_ble_eq_true rfl) hC2 (fun v3 h4 hq5 => ?_)
  have k := k v3 h4 hq5
  refine go_if_ne (pc2 := 7) (tgt := 13) dX11_list_4 rfl (by decide) (fun c => ?_) (fun c => ?_)
  · have k := k.1 c
    refine go_iload_n (pc2 := 14) dX11_list_13 rfl rfl rfl ?_
    refine go_bipush (pc2 := 16) (v := (20 : Int32)) dX11_list_14 rfl (by decide) ?_
    refine go_icmp_le (pc2 := 19) (tgt := 26) dX11_list_16 rfl (by decide) (fun c => ?_) (fun c => ?_)
    · have k := k.1 c
      refine go_iload_n (pc2 := 27) dX11_list_26 rfl rfl rfl ?_
      refine go_if_ge (pc2 := 30) (tgt := 33) dX11_list_27 rfl (by decide) (fun c => ?_) (fun c => ?_)
      · have k := k.1 c
        refine go_aload_n (pc2 := 34) dX11_list_33 rfl rfl rfl ?_
        refine gf_1076 (pc2 := 37) rfl dX11_list_34 rfl c_113 (fvs r_113_20) ?_
        refine go_iload_n (pc2 := 38) dX11_list_37 rfl rfl rfl ?_
        refine go_iload_n (pc2 := 39) dX11_list_38 rfl rfl rfl ?_
        obtain ⟨y6, k⟩ := k
        refine go_iastore (pc2 := 40) (j := (x1).toNatClampNeg) dX11_list_39 rfl c_129 y6 rfl ?_
        obtain ⟨g7, eg7⟩ : ∃ y : Hp, y = (ui h4 129 (x1).toNatClampNeg x2) := ⟨_, rfl⟩
        rw [← eg7]
        have k := k g7 eg7
        refine go_iconst (pc2 := 41) (v := (0 : Int32)) dX11_list_40 rfl (by decide) ?_
        refine go_istore_n (pc2 := 42) (ls2 := [(0, .ref 113), (1, .int x1), (2, .int x2), (3, .int (0 : Int32))]) dX11_list_41 rfl rfl rfl rfl rfl rfl ?_
        exact Go.pick [0, 1, 3] rfl k
      · have k := k.2 c
        refine go_bipush (pc2 := 32) (v := (-14 : Int32)) dX11_list_30 rfl (by decide) ?_
        exact go_iret dX11_list_32 ⟨_, rfl, rfl⟩ ⟨rfl, _, rfl, k⟩
    · have k := k.2 c
      refine go_aload_n (pc2 := 20) dX11_list_19 rfl rfl rfl ?_
      refine go_bipush (pc2 := 22) (v := (-6 : Int32)) dX11_list_20 rfl (by decide) ?_
      obtain ⟨Q8, hC9, k⟩ := k
      refine gcV_I (pc2 := 25) (dC := 0) (As := [.int (-6 : Int32)]) (st := []) rfl dX11_list_22 rfl w_1161 ok_X11_no vi_X11_no c_113 (by decide) rfl rfl rfl (by decide) (Nat.le_of_ble_eq_true rfl) hC9 (fun v10 h11 hq12 => ?_)
      have k := k v10 h11 hq12
      exact go_iret dX11_list_25 ⟨_, rfl, rfl⟩ ⟨rfl, _, rfl, k⟩
  · have k := k.2 c
    refine go_aload_n (pc2 := 8) dX11_list_7 rfl rfl rfl ?_
    refine go_iconst (pc2 := 9) (v := (-1 : Int32)) dX11_list_8 rfl (by decide) ?_
    obtain ⟨Q13, hC14, k⟩ := k
    refine gcV_I (pc2 := 12) (dC := 0) (As := [.int (-1 : Int32)]) (st := []) rfl dX11_list_9 rfl w_1161 ok_X11_no vi_X11_no c_113 (by decide) rfl rfl rfl (by decide) (Nat.le_of_ble_eq_true rfl) hC14 (fun v15 h16 hq17 => ?_)
    have k := k v15 h16 hq17
    exact go_iret dX11_list_12 ⟨_, rfl, rfl⟩ ⟨rfl, _, rfl, k⟩
theorem b_X11_list_42 {x1 : Int32} {x3 : Int32} {h : Hp} {Q : Int32 → Hp → Prop}  (k : (((20 : Int32) ≤ x3 → Q (1 : Int32) h) ∧ (¬ ((20 : Int32) ≤ x3) → (vp_in (((20 : Int32) * x1) + x3) 80 ∧ (∀ g2 : Hp, g2 = (ui h 130 ((((20 : Int32) * x1) + x3)).toNatClampNeg (0 : Int32)) → GoI 2 mX11_list 42 [(0, .ref 113), (1, .int x1), (3, .int (x3 + 1))] [] g2 Q))))) : GoI 2 mX11_list 42 [(0, .ref 113), (1, .int x1), (3, .int x3)] [] h Q := by
  refine go_iload_n (pc2 := 43) dX11_list_42 rfl rfl rfl ?_
  refine go_bipush (pc2 := 45) (v := (20 : Int32)) dX11_list_43 rfl (by decide) ?_
  refine go_icmp_ge (pc2 := 48) (tgt := 66) dX11_list_45 rfl (by decide) (fun c => ?_) (fun c => ?_)
  · have k := k.1 c
    refine go_iconst (pc2 := 67) (v := (1 : Int32)) dX11_list_66 rfl (by decide) ?_
    exact go_iret dX11_list_67 ⟨_, rfl, rfl⟩ ⟨rfl, _, rfl, k⟩
  · have k := k.2 c
    refine go_aload_n (pc2 := 49) dX11_list_48 rfl rfl rfl ?_
    refine gf_1077 (pc2 := 52) rfl dX11_list_49 rfl c_113 (fvs r_113_21) ?_
    refine go_bipush (pc2 := 54) (v := (20 : Int32)) dX11_list_52 rfl (by decide) ?_
    refine go_iload_n (pc2 := 55) dX11_list_54 rfl rfl rfl ?_
    refine go_imul (pc2 := 56) dX11_list_55 rfl ?_
    refine go_iload_n (pc2 := 57) dX11_list_56 rfl rfl rfl ?_
    refine go_iadd (pc2 := 58) dX11_list_57 rfl ?_
    refine go_iconst (pc2 := 59) (v := (0 : Int32)) dX11_list_58 rfl (by decide) ?_
    obtain ⟨y1, k⟩ := k
    refine go_iastore (pc2 := 60) (j := ((((20 : Int32) * x1) + x3)).toNatClampNeg) dX11_list_59 rfl c_130 y1 rfl ?_
    obtain ⟨g2, eg2⟩ : ∃ y : Hp, y = (ui h 130 ((((20 : Int32) * x1) + x3)).toNatClampNeg (0 : Int32)) := ⟨_, rfl⟩
    rw [← eg2]
    have k := k g2 eg2
    refine go_iinc (pc2 := 63) (ls2 := [(0, .ref 113), (1, .int x1), (3, .int (x3 + 1))]) (v := (x3 + 1)) dX11_list_60 rfl rfl rfl rfl rfl rfl rfl ?_
    refine go_goto (tgt := 42) dX11_list_63 (by decide) ?_
    exact k
theorem e_X11_put {x1 : Int32} {x2 : Int32} {x3 : Int32} {h : Hp} {Q : Int32 → Hp → Prop}  (k : (∃ Q1, CtI 1 mX11_isList [.int x1] h Q1 ∧ ∀ (v3 : Int32) (h4 : Hp), Q1 v3 h4 → ((¬ v3 = 0 → (vp_in x1 4 ∧ ((¬ (h4.1 129 (x1).toNatClampNeg) = (-9 : Int32) → (vp_in x1 4 ∧ (∃ Q8, CtI 0 mX11_isIn [.long (x2).toInt64, .long (0 : Int64), .long (((h4.1 129 (x1).toNatClampNeg) - (1 : Int32))).toInt64] h4 Q8 ∧ ∀ (v10 : Int32) (h11 : Hp), Q8 v10 h11 → ((¬ v10 = 0 → (vp_in (((20 : Int32) * x1) + x2) 80 ∧ (∀ g14 : Hp, g14 = (ui h11 130 ((((20 : Int32) * x1) + x2)).toNatClampNeg x3) → Q (1 : Int32) g14))) ∧ (v10 = 0 → Q (-13 : Int32) h11))))) ∧ ((h4.1 129 (x1).toNatClampNeg) = (-9 : Int32) → Q (-11 : Int32) h4)))) ∧ (v3 = 0 → (∃ Q15, CtI 0 mX11_no [.ref 113, .int (-1 : Int32)] h4 Q15 ∧ ∀ (v17 : Int32) (h18 : Hp), Q15 v17 h18 → Q v17 h18))))) : CtI 2 mX11_put [.ref 113, .int x1, .int x2, .int x3] h Q := by
  refine Ct.of (by decide +kernel) (Nat.le_of_ble_eq_true rfl) ?_
  show GoI 2 mX11_put 0 [(0, .ref 113), (1, .int x1), (2, .int x2), (3, .int x3)] [] h Q
  refine go_iload_n (pc2 := 1) dX11_put_0 rfl rfl rfl ?_
  obtain ⟨Q1, hC2, k⟩ := k
  refine gcS_I (pc2 := 4) (dC := 1) (As := [.int x1]) (st := []) rfl dX11_put_1 rfl w_1496 ok_X11_isList w_1497 rfl (by decide) (Nat.le_of_ble_eq_true rfl) hC2 (fun v3 h4 hq5 => ?_)
  have k := k v3 h4 hq5
  refine go_if_ne (pc2 := 7) (tgt := 13) dX11_put_4 rfl (by decide) (fun c => ?_) (fun c => ?_)
  · have k := k.1 c
    refine go_aload_n (pc2 := 14) dX11_put_13 rfl rfl rfl ?_
    refine gf_1076 (pc2 := 17) rfl dX11_put_14 rfl c_113 (fvs r_113_20) ?_
    refine go_iload_n (pc2 := 18) dX11_put_17 rfl rfl rfl ?_
    obtain ⟨y6, k⟩ := k
    refine go_iaload (pc2 := 19) (j := (x1).toNatClampNeg) dX11_put_18 rfl c_129 y6 rfl ?_
    refine go_bipush (pc2 := 21) (v := (-9 : Int32)) dX11_put_19 rfl (by decide) ?_
    refine go_icmp_ne (pc2 := 24) (tgt := 27) dX11_put_21 rfl (by decide) (fun c => ?_) (fun c => ?_)
    · have k := k.1 c
      refine go_iload_n (pc2 := 28) dX11_put_27 rfl rfl rfl ?_
      refine go_i2l (pc2 := 29) dX11_put_28 rfl ?_
      refine go_lconst (pc2 := 30) (v := (0 : Int64)) dX11_put_29 rfl (by decide) ?_
      refine go_aload_n (pc2 := 31) dX11_put_30 rfl rfl rfl ?_
      refine gf_1076 (pc2 := 34) rfl dX11_put_31 rfl c_113 (fvs r_113_20) ?_
      refine go_iload_n (pc2 := 35) dX11_put_34 rfl rfl rfl ?_
      obtain ⟨y7, k⟩ := k
      refine go_iaload (pc2 := 36) (j := (x1).toNatClampNeg) dX11_put_35 rfl c_129 y7 rfl ?_
      refine go_iconst (pc2 := 37) (v := (1 : Int32)) dX11_put_36 rfl (by decide) ?_
      refine go_isub (pc2 := 38) dX11_put_37 rfl ?_
      refine go_i2l (pc2 := 39) dX11_put_38 rfl ?_
      obtain ⟨Q8, hC9, k⟩ := k
      refine gcS_I (pc2 := 42) (dC := 0) (As := [.long (x2).toInt64, .long (0 : Int64), .long (((h4.1 129 (x1).toNatClampNeg) - (1 : Int32))).toInt64]) (st := []) rfl dX11_put_39 rfl w_1177 ok_X11_isIn w_1178 rfl (by decide) (Nat.le_of_ble_eq_true rfl) hC9 (fun v10 h11 hq12 => ?_)
      have k := k v10 h11 hq12
      refine go_if_ne (pc2 := 45) (tgt := 48) dX11_put_42 rfl (by decide) (fun c => ?_) (fun c => ?_)
      · have k := k.1 c
        refine go_aload_n (pc2 := 49) dX11_put_48 rfl rfl rfl ?_
        refine gf_1077 (pc2 := 52) rfl dX11_put_49 rfl c_113 (fvs r_113_21) ?_
        refine go_bipush (pc2 := 54) (v := (20 : Int32)) dX11_put_52 rfl (by decide) ?_
        refine go_iload_n (pc2 := 55) dX11_put_54 rfl rfl rfl ?_
        refine go_imul (pc2 := 56) dX11_put_55 rfl ?_
        refine go_iload_n (pc2 := 57) dX11_put_56 rfl rfl rfl ?_
        refine go_iadd (pc2 := 58) dX11_put_57 rfl ?_
        refine go_iload_n (pc2 := 59) dX11_put_58 rfl rfl rfl ?_
        obtain ⟨y13, k⟩ := k
        refine go_iastore (pc2 := 60) (j := ((((20 : Int32) * x1) + x2)).toNatClampNeg) dX11_put_59 rfl c_130 y13 rfl ?_
        obtain ⟨g14, eg14⟩ : ∃ y : Hp, y = (ui h11 130 ((((20 : Int32) * x1) + x2)).toNatClampNeg x3) := ⟨_, rfl⟩
        rw [← eg14]
        have k := k g14 eg14
        refine go_iconst (pc2 := 61) (v := (1 : Int32)) dX11_put_60 rfl (by decide) ?_
        exact go_iret dX11_put_61 ⟨_, rfl, rfl⟩ ⟨rfl, _, rfl, k⟩
      · have k := k.2 c
        refine go_bipush (pc2 := 47) (v := (-13 : Int32)) dX11_put_45 rfl (by decide) ?_
        exact go_iret dX11_put_47 ⟨_, rfl, rfl⟩ ⟨rfl, _, rfl, k⟩
    · have k := k.2 c
      refine go_bipush (pc2 := 26) (v := (-11 : Int32)) dX11_put_24 rfl (by decide) ?_
      exact go_iret dX11_put_26 ⟨_, rfl, rfl⟩ ⟨rfl, _, rfl, k⟩
  · have k := k.2 c
    refine go_aload_n (pc2 := 8) dX11_put_7 rfl rfl rfl ?_
    refine go_iconst (pc2 := 9) (v := (-1 : Int32)) dX11_put_8 rfl (by decide) ?_
    obtain ⟨Q15, hC16, k⟩ := k
    refine gcV_I (pc2 := 12) (dC := 0) (As := [.int (-1 : Int32)]) (st := []) rfl dX11_put_9 rfl w_1161 ok_X11_no vi_X11_no c_113 (by decide) rfl rfl rfl (by decide) (Nat.le_of_ble_eq_true rfl) hC16 (fun v17 h18 hq19 => ?_)
    have k := k v17 h18 hq19
    exact go_iret dX11_put_12 ⟨_, rfl, rfl⟩ ⟨rfl, _, rfl, k⟩
theorem e_X11_lays {x1 : Int32} {x2 : Int32} {h : Hp} {Q : Int32 → Hp → Prop}  (k : (∃ Q1, CtI 1 mX11_isList [.int x1] h Q1 ∧ ∀ (v3 : Int32) (h4 : Hp), Q1 v3 h4 → ((¬ v3 = 0 → (∃ Q6, CtI 7 mX11_bests [.ref 113] h4 Q6 ∧ ∀ (v8 : Int32) (h9 : Hp), Q6 v8 h9 → ((¬ v8 = (-9 : Int32) → (vp_in x1 4 ∧ ((¬ (h9.1 129 (x1).toNatClampNeg) = (-9 : Int32) → GoI 8 mX11_lays 45 [(0, .ref 113), (1, .int x1), (2, .int x2), (3, .int (0 : Int32))] [] h9 Q) ∧ ((h9.1 129 (x1).toNatClampNeg) = (-9 : Int32) → Q (-11 : Int32) h9)))) ∧ (v8 = (-9 : Int32) → (∃ Q12, CtI 0 mX11_no [.ref 113, .int (-3 : Int32)] h9 Q12 ∧ ∀ (v14 : Int32) (h15 : Hp), Q12 v14 h15 → Q v14 h15))))) ∧ (v3 = 0 → (∃ Q17, CtI 0 mX11_no [.ref 113, .int (-1 : Int32)] h4 Q17 ∧ ∀ (v19 : Int32) (h20 : Hp), Q17 v19 h20 → Q v19 h20))))) : CtI 8 mX11_lays [.ref 113, .int x1, .int x2] h Q := by
  refine Ct.of (by decide +kernel) (Nat.le_of_ble_eq_true rfl) ?_
  show GoI 8 mX11_lays 0 [(0, .ref 113), (1, .int x1), (2, .int x2)] [] h Q
  refine go_iload_n (pc2 := 1) dX11_lays_0 rfl rfl rfl ?_
  obtain ⟨Q1, hC2, k⟩ := k
  refine gcS_I (pc2 := 4) (dC := 1) (As := [.int x1]) (st := []) rfl dX11_lays_1 rfl w_1496 ok_X11_isList w_1497 rfl (by decide) (Nat.le_of_ble_eq_true rfl) hC2 (fun v3 h4 hq5 => ?_)
  have k := k v3 h4 hq5
  refine go_if_ne (pc2 := 7) (tgt := 13) dX11_lays_4 rfl (by decide) (fun c => ?_) (fun c => ?_)
  · have k := k.1 c
    refine go_aload_n (pc2 := 14) dX11_lays_13 rfl rfl rfl ?_
    obtain ⟨Q6, hC7, k⟩ := k
    refine gcV_I (pc2 := 17) (dC := 7) (As := []) (st := []) rfl dX11_lays_14 rfl w_1329 ok_X11_bests vi_X11_bests c_113 (by decide) rfl rfl rfl (by decide) (Nat.le_of_ble_eq_true rfl) hC7 (fun v8 h9 hq10 => ?_)
    have k := k v8 h9 hq10
    refine go_bipush (pc2 := 19) (v := (-9 : Int32)) dX11_lays_17 rfl (by decide) ?_
    refine go_icmp_ne (pc2 := 22) (tgt := 29) dX11_lays_19 rfl (by decide) (fun c => ?_) (fun c => ?_)
    · have k := k.1 c
      refine go_aload_n (pc2 := 30) dX11_lays_29 rfl rfl rfl ?_
      refine gf_1076 (pc2 := 33) rfl dX11_lays_30 rfl c_113 (fvs r_113_20) ?_
      refine go_iload_n (pc2 := 34) dX11_lays_33 rfl rfl rfl ?_
      obtain ⟨y11, k⟩ := k
      refine go_iaload (pc2 := 35) (j := (x1).toNatClampNeg) dX11_lays_34 rfl c_129 y11 rfl ?_
      refine go_bipush (pc2 := 37) (v := (-9 : Int32)) dX11_lays_35 rfl (by decide) ?_
      refine go_icmp_ne (pc2 := 40) (tgt := 43) dX11_lays_37 rfl (by decide) (fun c => ?_) (fun c => ?_)
      · have k := k.1 c
        refine go_iconst (pc2 := 44) (v := (0 : Int32)) dX11_lays_43 rfl (by decide) ?_
        refine go_istore_n (pc2 := 45) (ls2 := [(0, .ref 113), (1, .int x1), (2, .int x2), (3, .int (0 : Int32))]) dX11_lays_44 rfl rfl rfl rfl rfl rfl ?_
        exact k
      · have k := k.2 c
        refine go_bipush (pc2 := 42) (v := (-11 : Int32)) dX11_lays_40 rfl (by decide) ?_
        exact go_iret dX11_lays_42 ⟨_, rfl, rfl⟩ ⟨rfl, _, rfl, k⟩
    · have k := k.2 c
      refine go_aload_n (pc2 := 23) dX11_lays_22 rfl rfl rfl ?_
      refine go_bipush (pc2 := 25) (v := (-3 : Int32)) dX11_lays_23 rfl (by decide) ?_
      obtain ⟨Q12, hC13, k⟩ := k
      refine gcV_I (pc2 := 28) (dC := 0) (As := [.int (-3 : Int32)]) (st := []) rfl dX11_lays_25 rfl w_1161 ok_X11_no vi_X11_no c_113 (by decide) rfl rfl rfl (by decide) (Nat.le_of_ble_eq_true rfl) hC13 (fun v14 h15 hq16 => ?_)
      have k := k v14 h15 hq16
      exact go_iret dX11_lays_28 ⟨_, rfl, rfl⟩ ⟨rfl, _, rfl, k⟩
  · have k := k.2 c
    refine go_aload_n (pc2 := 8) dX11_lays_7 rfl rfl rfl ?_
    refine go_iconst (pc2 := 9) (v := (-1 : Int32)) dX11_lays_8 rfl (by decide) ?_
    obtain ⟨Q17, hC18, k⟩ := k
    refine gcV_I (pc2 := 12) (dC := 0) (As := [.int (-1 : Int32)]) (st := []) rfl dX11_lays_9 rfl w_1161 ok_X11_no vi_X11_no c_113 (by decide) rfl rfl rfl (by decide) (Nat.le_of_ble_eq_true rfl) hC18 (fun v19 h20 hq21 => ?_)
    have k := k v19 h20 hq21
    exact go_iret dX11_lays_12 ⟨_, rfl, rfl⟩ ⟨rfl, _, rfl, k⟩
theorem b_X11_lays_45 {x1 : Int32} {x2 : Int32} {x3 : Int32} {h : Hp} {Q : Int32 → Hp → Prop}  (k : (((h.1 114 3) ≤ x3 → Q (h.1 114 3) h) ∧ (¬ ((h.1 114 3) ≤ x3) → ((x2 < 0 → Q (-13 : Int32) h) ∧ (¬ (x2 < 0) → (vp_in x1 4 ∧ ((x2 < ((h.1 129 (x1).toNatClampNeg) - x3) → (vp_in x3 3 ∧ (vp_in ((((20 : Int32) * x1) + x2) + x3) 80 ∧ (∀ g4 : Hp, g4 = (ui h 130 (((((20 : Int32) * x1) + x2) + x3)).toNatClampNeg (h.1 123 (x3).toNatClampNeg)) → GoI 8 mX11_lays 45 [(0, .ref 113), (1, .int x1), (2, .int x2), (3, .int (x3 + 1))] [] g4 Q)))) ∧ (¬ (x2 < ((h.1 129 (x1).toNatClampNeg) - x3)) → Q (-13 : Int32) h)))))))) : GoI 8 mX11_lays 45 [(0, .ref 113), (1, .int x1), (2, .int x2), (3, .int x3)] [] h Q := by
  refine go_iload_n (pc2 := 46) dX11_lays_45 rfl rfl rfl ?_
  refine go_aload_n (pc2 := 47) dX11_lays_46 rfl rfl rfl ?_
  refine gf_1056 (pc2 := 50) rfl dX11_lays_47 rfl c_113 (fvs r_113_0) ?_
  refine go_iconst (pc2 := 51) (v := (3 : Int32)) dX11_lays_50 rfl (by decide) ?_
  refine go_iaload (pc2 := 52) (j := 3) dX11_lays_51 rfl c_114 (vp_c rfl) rfl ?_
  refine go_icmp_ge (pc2 := 55) (tgt := 99) dX11_lays_52 rfl (by decide) (fun c => ?_) (fun c => ?_)
  · have k := k.1 c
    refine go_aload_n (pc2 := 100) dX11_lays_99 rfl rfl rfl ?_
    refine gf_1056 (pc2 := 103) rfl dX11_lays_100 rfl c_113 (fvs r_113_0) ?_
    refine go_iconst (pc2 := 104) (v := (3 : Int32)) dX11_lays_103 rfl (by decide) ?_
    refine go_iaload (pc2 := 105) (j := 3) dX11_lays_104 rfl c_114 (vp_c rfl) rfl ?_
    exact go_iret dX11_lays_105 ⟨_, rfl, rfl⟩ ⟨rfl, _, rfl, k⟩
  · have k := k.2 c
    refine go_iload_n (pc2 := 56) dX11_lays_55 rfl rfl rfl ?_
    refine go_if_lt (pc2 := 59) (tgt := 71) dX11_lays_56 rfl (by decide) (fun c => ?_) (fun c => ?_)
    · have k := k.1 c
      refine go_bipush (pc2 := 73) (v := (-13 : Int32)) dX11_lays_71 rfl (by decide) ?_
      exact go_iret dX11_lays_73 ⟨_, rfl, rfl⟩ ⟨rfl, _, rfl, k⟩
    · have k := k.2 c
      refine go_iload_n (pc2 := 60) dX11_lays_59 rfl rfl rfl ?_
      refine go_aload_n (pc2 := 61) dX11_lays_60 rfl rfl rfl ?_
      refine gf_1076 (pc2 := 64) rfl dX11_lays_61 rfl c_113 (fvs r_113_20) ?_
      refine go_iload_n (pc2 := 65) dX11_lays_64 rfl rfl rfl ?_
      obtain ⟨y1, k⟩ := k
      refine go_iaload (pc2 := 66) (j := (x1).toNatClampNeg) dX11_lays_65 rfl c_129 y1 rfl ?_
      refine go_iload_n (pc2 := 67) dX11_lays_66 rfl rfl rfl ?_
      refine go_isub (pc2 := 68) dX11_lays_67 rfl ?_
      refine go_icmp_lt (pc2 := 71) (tgt := 74) dX11_lays_68 rfl (by decide) (fun c => ?_) (fun c => ?_)
      · have k := k.1 c
        refine go_aload_n (pc2 := 75) dX11_lays_74 rfl rfl rfl ?_
        refine gf_1077 (pc2 := 78) rfl dX11_lays_75 rfl c_113 (fvs r_113_21) ?_
        refine go_bipush (pc2 := 80) (v := (20 : Int32)) dX11_lays_78 rfl (by decide) ?_
        refine go_iload_n (pc2 := 81) dX11_lays_80 rfl rfl rfl ?_
        refine go_imul (pc2 := 82) dX11_lays_81 rfl ?_
        refine go_iload_n (pc2 := 83) dX11_lays_82 rfl rfl rfl ?_
        refine go_iadd (pc2 := 84) dX11_lays_83 rfl ?_
        refine go_iload_n (pc2 := 85) dX11_lays_84 rfl rfl rfl ?_
        refine go_iadd (pc2 := 86) dX11_lays_85 rfl ?_
        refine go_aload_n (pc2 := 87) dX11_lays_86 rfl rfl rfl ?_
        refine gf_1069 (pc2 := 90) rfl dX11_lays_87 rfl c_113 (fvs r_113_13) ?_
        refine go_iload_n (pc2 := 91) dX11_lays_90 rfl rfl rfl ?_
        obtain ⟨y2, k⟩ := k
        refine go_iaload (pc2 := 92) (j := (x3).toNatClampNeg) dX11_lays_91 rfl c_123 y2 rfl ?_
        obtain ⟨y3, k⟩ := k
        refine go_iastore (pc2 := 93) (j := (((((20 : Int32) * x1) + x2) + x3)).toNatClampNeg) dX11_lays_92 rfl c_130 y3 rfl ?_
        obtain ⟨g4, eg4⟩ : ∃ y : Hp, y = (ui h 130 (((((20 : Int32) * x1) + x2) + x3)).toNatClampNeg (h.1 123 (x3).toNatClampNeg)) := ⟨_, rfl⟩
        rw [← eg4]
        have k := k g4 eg4
        refine go_iinc (pc2 := 96) (ls2 := [(0, .ref 113), (1, .int x1), (2, .int x2), (3, .int (x3 + 1))]) (v := (x3 + 1)) dX11_lays_93 rfl rfl rfl rfl rfl rfl rfl ?_
        refine go_goto (tgt := 45) dX11_lays_96 (by decide) ?_
        exact k
      · have k := k.2 c
        refine go_bipush (pc2 := 73) (v := (-13 : Int32)) dX11_lays_71 rfl (by decide) ?_
        exact go_iret dX11_lays_73 ⟨_, rfl, rfl⟩ ⟨rfl, _, rfl, k⟩
theorem e_X11_firstWrong {x1 : Int32} {h : Hp} {Q : Int32 → Hp → Prop}  (k : GoI 3 mX11_firstWrong 2 [(0, .ref 113), (1, .int x1), (2, .int (0 : Int32))] [] h Q) : CtI 3 mX11_firstWrong [.ref 113, .int x1] h Q := by
  refine Ct.of (by decide +kernel) (Nat.le_of_ble_eq_true rfl) ?_
  show GoI 3 mX11_firstWrong 0 [(0, .ref 113), (1, .int x1)] [] h Q
  refine go_iconst (pc2 := 1) (v := (0 : Int32)) dX11_firstWrong_0 rfl (by decide) ?_
  refine go_istore_n (pc2 := 2) (ls2 := [(0, .ref 113), (1, .int x1), (2, .int (0 : Int32))]) dX11_firstWrong_1 rfl rfl rfl rfl rfl rfl ?_
  exact k
theorem b_X11_firstWrong_2 {x1 : Int32} {x2 : Int32} {h : Hp} {Q : Int32 → Hp → Prop}  (k : (((h.1 114 3) ≤ x2 → GoI 3 mX11_firstWrong 33 [(0, .ref 113), (1, .int x1), (2, .int (0 : Int32))] [] h Q) ∧ (¬ ((h.1 114 3) ≤ x2) → (∃ Q1, CtI 0 mX11_of1 [.ref 113, .int x2, .int (9 : Int32)] h Q1 ∧ ∀ (v3 : Int32) (h4 : Hp), Q1 v3 h4 → (vp_in x2 3 ∧ (∀ g7 : Hp, g7 = (ui h4 127 (x2).toNatClampNeg v3) → GoI 3 mX11_firstWrong 2 [(0, .ref 113), (1, .int x1), (2, .int (x2 + 1))] [] g7 Q)))))) : GoI 3 mX11_firstWrong 2 [(0, .ref 113), (1, .int x1), (2, .int x2)] [] h Q := by
  refine go_iload_n (pc2 := 3) dX11_firstWrong_2 rfl rfl rfl ?_
  refine go_aload_n (pc2 := 4) dX11_firstWrong_3 rfl rfl rfl ?_
  refine gf_1056 (pc2 := 7) rfl dX11_firstWrong_4 rfl c_113 (fvs r_113_0) ?_
  refine go_iconst (pc2 := 8) (v := (3 : Int32)) dX11_firstWrong_7 rfl (by decide) ?_
  refine go_iaload (pc2 := 9) (j := 3) dX11_firstWrong_8 rfl c_114 (vp_c rfl) rfl ?_
  refine go_icmp_ge (pc2 := 12) (tgt := 31) dX11_firstWrong_9 rfl (by decide) (fun c => ?_) (fun c => ?_)
  · have k := k.1 c
    refine go_iconst (pc2 := 32) (v := (0 : Int32)) dX11_firstWrong_31 rfl (by decide) ?_
    refine go_istore_n (pc2 := 33) (ls2 := [(0, .ref 113), (1, .int x1), (2, .int (0 : Int32))]) dX11_firstWrong_32 rfl rfl rfl rfl rfl rfl ?_
    exact k
  · have k := k.2 c
    refine go_aload_n (pc2 := 13) dX11_firstWrong_12 rfl rfl rfl ?_
    refine gf_1074 (pc2 := 16) rfl dX11_firstWrong_13 rfl c_113 (fvs r_113_18) ?_
    refine go_iload_n (pc2 := 17) dX11_firstWrong_16 rfl rfl rfl ?_
    refine go_aload_n (pc2 := 18) dX11_firstWrong_17 rfl rfl rfl ?_
    refine go_iload_n (pc2 := 19) dX11_firstWrong_18 rfl rfl rfl ?_
    refine go_bipush (pc2 := 21) (v := (9 : Int32)) dX11_firstWrong_19 rfl (by decide) ?_
    obtain ⟨Q1, hC2, k⟩ := k
    refine gcV_I (pc2 := 24) (dC := 0) (As := [.int x2, .int (9 : Int32)]) (st := [.int x2, .ref 127]) rfl dX11_firstWrong_21 rfl w_1212 ok_X11_of1 vi_X11_of1 c_113 (by decide) rfl rfl rfl (by decide) (Nat.le_of_ble_eq_true rfl) hC2 (fun v3 h4 hq5 => ?_)
    have k := k v3 h4 hq5
    obtain ⟨y6, k⟩ := k
    refine go_iastore (pc2 := 25) (j := (x2).toNatClampNeg) dX11_firstWrong_24 rfl c_127 y6 rfl ?_
    obtain ⟨g7, eg7⟩ : ∃ y : Hp, y = (ui h4 127 (x2).toNatClampNeg v3) := ⟨_, rfl⟩
    rw [← eg7]
    have k := k g7 eg7
    refine go_iinc (pc2 := 28) (ls2 := [(0, .ref 113), (1, .int x1), (2, .int (x2 + 1))]) (v := (x2 + 1)) dX11_firstWrong_25 rfl rfl rfl rfl rfl rfl rfl ?_
    refine go_goto (tgt := 2) dX11_firstWrong_28 (by decide) ?_
    exact k
theorem b_X11_firstWrong_33 {x1 : Int32} {x2 : Int32} {h : Hp} {Q : Int32 → Hp → Prop}  (k : (((h.1 114 0) ≤ x2 → Q (-9 : Int32) h) ∧ (¬ ((h.1 114 0) ≤ x2) → GoI 3 mX11_firstWrong 48 [(0, .ref 113), (1, .int x1), (2, .int x2), (3, .int (0 : Int32)), (4, .int (0 : Int32))] [] h Q))) : GoI 3 mX11_firstWrong 33 [(0, .ref 113), (1, .int x1), (2, .int x2)] [] h Q := by
  refine go_iload_n (pc2 := 34) dX11_firstWrong_33 rfl rfl rfl ?_
  refine go_aload_n (pc2 := 35) dX11_firstWrong_34 rfl rfl rfl ?_
  refine gf_1056 (pc2 := 38) rfl dX11_firstWrong_35 rfl c_113 (fvs r_113_0) ?_
  refine go_iconst (pc2 := 39) (v := (0 : Int32)) dX11_firstWrong_38 rfl (by decide) ?_
  refine go_iaload (pc2 := 40) (j := 0) dX11_firstWrong_39 rfl c_114 (vp_c rfl) rfl ?_
  refine go_icmp_ge (pc2 := 43) (tgt := 168) dX11_firstWrong_40 rfl (by decide) (fun c => ?_) (fun c => ?_)
  · have k := k.1 c
    refine go_bipush (pc2 := 170) (v := (-9 : Int32)) dX11_firstWrong_168 rfl (by decide) ?_
    exact go_iret dX11_firstWrong_170 ⟨_, rfl, rfl⟩ ⟨rfl, _, rfl, k⟩
  · have k := k.2 c
    refine go_iconst (pc2 := 44) (v := (0 : Int32)) dX11_firstWrong_43 rfl (by decide) ?_
    refine go_istore_n (pc2 := 45) (ls2 := [(0, .ref 113), (1, .int x1), (2, .int x2), (3, .int (0 : Int32))]) dX11_firstWrong_44 rfl rfl rfl rfl rfl rfl ?_
    refine go_iconst (pc2 := 46) (v := (0 : Int32)) dX11_firstWrong_45 rfl (by decide) ?_
    refine go_istore (pc2 := 48) (ls2 := [(0, .ref 113), (1, .int x1), (2, .int x2), (3, .int (0 : Int32)), (4, .int (0 : Int32))]) dX11_firstWrong_46 rfl rfl rfl rfl rfl ?_
    exact k
theorem b_X11_firstWrong_48 {x1 : Int32} {x2 : Int32} {x3 : Int32} {x4 : Int32} {h : Hp} {Q : Int32 → Hp → Prop}  (k : (((h.1 114 3) ≤ x4 → (∃ Q1, CtI 2 mX11_mayAll [.ref 113, .int x3] h Q1 ∧ ∀ (v3 : Int32) (h4 : Hp), Q1 v3 h4 → ((v3 = 0 → Q x2 h4) ∧ (¬ v3 = 0 → (∃ Q6, CtI 1 mX11_freshIn [.ref 113, .int x3] h4 Q6 ∧ ∀ (v8 : Int32) (h9 : Hp), Q6 v8 h9 → (∃ Q11, CtI 2 mX11_canDo [.ref 113, .int x2, .int x3, .int v8] h9 Q11 ∧ ∀ (v13 : Int32) (h14 : Hp), Q11 v13 h14 → ((¬ v13 = 0 → GoI 3 mX11_firstWrong 122 [(0, .ref 113), (1, .int x1), (2, .int x2), (3, .int x3), (4, .int (0 : Int32))] [] h14 Q) ∧ (v13 = 0 → Q x2 h14)))))))) ∧ (¬ ((h.1 114 3) ≤ x4) → (vp_in (((20 : Int32) * x1) + x4) 80 ∧ (∃ Q17, CtI 0 mX11_has [.int (h.1 130 ((((20 : Int32) * x1) + x4)).toNatClampNeg), .int x2] h Q17 ∧ ∀ (v19 : Int32) (h20 : Hp), Q17 v19 h20 → ((v19 = 0 → GoI 3 mX11_firstWrong 87 [(0, .ref 113), (1, .int x1), (2, .int x2), (4, .int x4)] [.int (0 : Int32), .int x3] h20 Q) ∧ (¬ v19 = 0 → GoI 3 mX11_firstWrong 87 [(0, .ref 113), (1, .int x1), (2, .int x2), (4, .int x4)] [.int ((1 : Int32) <<< (x4 &&& 31)), .int x3] h20 Q))))))) : GoI 3 mX11_firstWrong 48 [(0, .ref 113), (1, .int x1), (2, .int x2), (3, .int x3), (4, .int x4)] [] h Q := by
  refine go_iload (pc2 := 50) dX11_firstWrong_48 rfl rfl ?_
  refine go_aload_n (pc2 := 51) dX11_firstWrong_50 rfl rfl rfl ?_
  refine gf_1056 (pc2 := 54) rfl dX11_firstWrong_51 rfl c_113 (fvs r_113_0) ?_
  refine go_iconst (pc2 := 55) (v := (3 : Int32)) dX11_firstWrong_54 rfl (by decide) ?_
  refine go_iaload (pc2 := 56) (j := 3) dX11_firstWrong_55 rfl c_114 (vp_c rfl) rfl ?_
  refine go_icmp_ge (pc2 := 59) (tgt := 95) dX11_firstWrong_56 rfl (by decide) (fun c => ?_) (fun c => ?_)
  · have k := k.1 c
    refine go_aload_n (pc2 := 96) dX11_firstWrong_95 rfl rfl rfl ?_
    refine go_iload_n (pc2 := 97) dX11_firstWrong_96 rfl rfl rfl ?_
    obtain ⟨Q1, hC2, k⟩ := k
    refine gcV_I (pc2 := 100) (dC := 2) (As := [.int x3]) (st := []) rfl dX11_firstWrong_97 rfl w_1476 ok_X11_mayAll vi_X11_mayAll c_113 (by decide) rfl rfl rfl (by decide) (Nat.le_of_ble_eq_true rfl) hC2 (fun v3 h4 hq5 => ?_)
    have k := k v3 h4 hq5
    refine go_if_eq (pc2 := 103) (tgt := 117) dX11_firstWrong_100 rfl (by decide) (fun c => ?_) (fun c => ?_)
    · have k := k.1 c
      refine go_iload_n (pc2 := 118) dX11_firstWrong_117 rfl rfl rfl ?_
      exact go_iret dX11_firstWrong_118 ⟨_, rfl, rfl⟩ ⟨rfl, _, rfl, k⟩
    · have k := k.2 c
      refine go_aload_n (pc2 := 104) dX11_firstWrong_103 rfl rfl rfl ?_
      refine go_iload_n (pc2 := 105) dX11_firstWrong_104 rfl rfl rfl ?_
      refine go_iload_n (pc2 := 106) dX11_firstWrong_105 rfl rfl rfl ?_
      refine go_aload_n (pc2 := 107) dX11_firstWrong_106 rfl rfl rfl ?_
      refine go_iload_n (pc2 := 108) dX11_firstWrong_107 rfl rfl rfl ?_
      obtain ⟨Q6, hC7, k⟩ := k
      refine gcV_I (pc2 := 111) (dC := 1) (As := [.int x3]) (st := [.int x3, .int x2, .ref 113]) rfl dX11_firstWrong_108 rfl w_1484 ok_X11_freshIn vi_X11_freshIn c_113 (by decide) rfl rfl rfl (by decide) (Nat.le_of_ble_eq_true rfl) hC7 (fun v8 h9 hq10 => ?_)
      have k := k v8 h9 hq10
      obtain ⟨Q11, hC12, k⟩ := k
      refine gcV_I (pc2 := 114) (dC := 2) (As := [.int x2, .int x3, .int v8]) (st := []) rfl dX11_firstWrong_111 rfl w_1304 ok_X11_canDo vi_X11_canDo c_113 (by decide) rfl rfl rfl (by decide) (Nat.le_of_ble_eq_true rfl) hC12 (fun v13 h14 hq15 => ?_)
      have k := k v13 h14 hq15
      refine go_if_ne (pc2 := 117) (tgt := 119) dX11_firstWrong_114 rfl (by decide) (fun c => ?_) (fun c => ?_)
      · have k := k.1 c
        refine go_iconst (pc2 := 120) (v := (0 : Int32)) dX11_firstWrong_119 rfl (by decide) ?_
        refine go_istore (pc2 := 122) (ls2 := [(0, .ref 113), (1, .int x1), (2, .int x2), (3, .int x3), (4, .int (0 : Int32))]) dX11_firstWrong_120 rfl rfl rfl rfl rfl ?_
        exact k
      · have k := k.2 c
        refine go_iload_n (pc2 := 118) dX11_firstWrong_117 rfl rfl rfl ?_
        exact go_iret dX11_firstWrong_118 ⟨_, rfl, rfl⟩ ⟨rfl, _, rfl, k⟩
  · have k := k.2 c
    refine go_iload_n (pc2 := 60) dX11_firstWrong_59 rfl rfl rfl ?_
    refine go_aload_n (pc2 := 61) dX11_firstWrong_60 rfl rfl rfl ?_
    refine gf_1077 (pc2 := 64) rfl dX11_firstWrong_61 rfl c_113 (fvs r_113_21) ?_
    refine go_bipush (pc2 := 66) (v := (20 : Int32)) dX11_firstWrong_64 rfl (by decide) ?_
    refine go_iload_n (pc2 := 67) dX11_firstWrong_66 rfl rfl rfl ?_
    refine go_imul (pc2 := 68) dX11_firstWrong_67 rfl ?_
    refine go_iload (pc2 := 70) dX11_firstWrong_68 rfl rfl ?_
    refine go_iadd (pc2 := 71) dX11_firstWrong_70 rfl ?_
    obtain ⟨y16, k⟩ := k
    refine go_iaload (pc2 := 72) (j := ((((20 : Int32) * x1) + x4)).toNatClampNeg) dX11_firstWrong_71 rfl c_130 y16 rfl ?_
    refine go_iload_n (pc2 := 73) dX11_firstWrong_72 rfl rfl rfl ?_
    obtain ⟨Q17, hC18, k⟩ := k
    refine gcS_I (pc2 := 76) (dC := 0) (As := [.int (h.1 130 ((((20 : Int32) * x1) + x4)).toNatClampNeg), .int x2]) (st := [.int x3]) rfl dX11_firstWrong_73 rfl w_1278 ok_X11_has w_1279 rfl (by decide) (Nat.le_of_ble_eq_true rfl) hC18 (fun v19 h20 hq21 => ?_)
    have k := k v19 h20 hq21
    refine go_if_eq (pc2 := 79) (tgt := 86) dX11_firstWrong_76 rfl (by decide) (fun c => ?_) (fun c => ?_)
    · have k := k.1 c
      refine go_iconst (pc2 := 87) (v := (0 : Int32)) dX11_firstWrong_86 rfl (by decide) ?_
      exact Go.pick [0, 1, 2, 4] rfl k
    · have k := k.2 c
      refine go_iconst (pc2 := 80) (v := (1 : Int32)) dX11_firstWrong_79 rfl (by decide) ?_
      refine go_iload (pc2 := 82) dX11_firstWrong_80 rfl rfl ?_
      refine go_ishl (pc2 := 83) dX11_firstWrong_82 rfl ?_
      refine go_goto (tgt := 87) dX11_firstWrong_83 (by decide) ?_
      exact Go.pick [0, 1, 2, 4] rfl k
theorem b_X11_firstWrong_122 {x1 : Int32} {x2 : Int32} {x3 : Int32} {x4 : Int32} {h : Hp} {Q : Int32 → Hp → Prop}  (k : (((h.1 114 3) ≤ x4 → GoI 3 mX11_firstWrong 33 [(0, .ref 113), (1, .int x1), (2, .int (x2 + 1))] [] h Q) ∧ (¬ ((h.1 114 3) ≤ x4) → (vp_in x4 3 ∧ (∃ Q2, CtI 0 mX11_has [.int x3, .int x4] h Q2 ∧ ∀ (v4 : Int32) (h5 : Hp), Q2 v4 h5 → (∃ Q7, CtI 0 mX11_goesOn [.int (h.1 127 (x4).toNatClampNeg), .int v4] h5 Q7 ∧ ∀ (v9 : Int32) (h10 : Hp), Q7 v9 h10 → (vp_in x4 3 ∧ (∀ g13 : Hp, g13 = (ui h10 127 (x4).toNatClampNeg v9) → GoI 3 mX11_firstWrong 122 [(0, .ref 113), (1, .int x1), (2, .int x2), (3, .int x3), (4, .int (x4 + 1))] [] g13 Q)))))))) : GoI 3 mX11_firstWrong 122 [(0, .ref 113), (1, .int x1), (2, .int x2), (3, .int x3), (4, .int x4)] [] h Q := by
  refine go_iload (pc2 := 124) dX11_firstWrong_122 rfl rfl ?_
  refine go_aload_n (pc2 := 125) dX11_firstWrong_124 rfl rfl rfl ?_
  refine gf_1056 (pc2 := 128) rfl dX11_firstWrong_125 rfl c_113 (fvs r_113_0) ?_
  refine go_iconst (pc2 := 129) (v := (3 : Int32)) dX11_firstWrong_128 rfl (by decide) ?_
  refine go_iaload (pc2 := 130) (j := 3) dX11_firstWrong_129 rfl c_114 (vp_c rfl) rfl ?_
  refine go_icmp_ge (pc2 := 133) (tgt := 162) dX11_firstWrong_130 rfl (by decide) (fun c => ?_) (fun c => ?_)
  · have k := k.1 c
    refine go_iinc (pc2 := 165) (ls2 := [(0, .ref 113), (1, .int x1), (2, .int (x2 + 1)), (3, .int x3), (4, .int x4)]) (v := (x2 + 1)) dX11_firstWrong_162 rfl rfl rfl rfl rfl rfl rfl ?_
    refine go_goto (tgt := 33) dX11_firstWrong_165 (by decide) ?_
    exact Go.pick [0, 1, 2] rfl k
  · have k := k.2 c
    refine go_aload_n (pc2 := 134) dX11_firstWrong_133 rfl rfl rfl ?_
    refine gf_1074 (pc2 := 137) rfl dX11_firstWrong_134 rfl c_113 (fvs r_113_18) ?_
    refine go_iload (pc2 := 139) dX11_firstWrong_137 rfl rfl ?_
    refine go_aload_n (pc2 := 140) dX11_firstWrong_139 rfl rfl rfl ?_
    refine gf_1074 (pc2 := 143) rfl dX11_firstWrong_140 rfl c_113 (fvs r_113_18) ?_
    refine go_iload (pc2 := 145) dX11_firstWrong_143 rfl rfl ?_
    obtain ⟨y1, k⟩ := k
    refine go_iaload (pc2 := 146) (j := (x4).toNatClampNeg) dX11_firstWrong_145 rfl c_127 y1 rfl ?_
    refine go_iload_n (pc2 := 147) dX11_firstWrong_146 rfl rfl rfl ?_
    refine go_iload (pc2 := 149) dX11_firstWrong_147 rfl rfl ?_
    obtain ⟨Q2, hC3, k⟩ := k
    refine gcS_I (pc2 := 152) (dC := 0) (As := [.int x3, .int x4]) (st := [.int (h.1 127 (x4).toNatClampNeg), .int x4, .ref 127]) rfl dX11_firstWrong_149 rfl w_1278 ok_X11_has w_1279 rfl (by decide) (Nat.le_of_ble_eq_true rfl) hC3 (fun v4 h5 hq6 => ?_)
    have k := k v4 h5 hq6
    obtain ⟨Q7, hC8, k⟩ := k
    refine gcS_I (pc2 := 155) (dC := 0) (As := [.int (h.1 127 (x4).toNatClampNeg), .int v4]) (st := [.int x4, .ref 127]) rfl dX11_firstWrong_152 rfl w_1285 ok_X11_goesOn w_1286 rfl (by decide) (Nat.le_of_ble_eq_true rfl) hC8 (fun v9 h10 hq11 => ?_)
    have k := k v9 h10 hq11
    obtain ⟨y12, k⟩ := k
    refine go_iastore (pc2 := 156) (j := (x4).toNatClampNeg) dX11_firstWrong_155 rfl c_127 y12 rfl ?_
    obtain ⟨g13, eg13⟩ : ∃ y : Hp, y = (ui h10 127 (x4).toNatClampNeg v9) := ⟨_, rfl⟩
    rw [← eg13]
    have k := k g13 eg13
    refine go_iinc (pc2 := 159) (ls2 := [(0, .ref 113), (1, .int x1), (2, .int x2), (3, .int x3), (4, .int (x4 + 1))]) (v := (x4 + 1)) dX11_firstWrong_156 rfl rfl rfl rfl rfl rfl rfl ?_
    refine go_goto (tgt := 122) dX11_firstWrong_159 (by decide) ?_
    exact k
theorem b_X11_firstWrong_87 {x1 : Int32} {x2 : Int32} {x4 : Int32} {s0 : Int32} {s1 : Int32} {h : Hp} {Q : Int32 → Hp → Prop}  (k : GoI 3 mX11_firstWrong 48 [(0, .ref 113), (1, .int x1), (2, .int x2), (3, .int (s0 ||| s1)), (4, .int (x4 + 1))] [] h Q) : GoI 3 mX11_firstWrong 87 [(0, .ref 113), (1, .int x1), (2, .int x2), (4, .int x4)] [.int s1, .int s0] h Q := by
  refine go_ior (pc2 := 88) dX11_firstWrong_87 rfl ?_
  refine go_istore_n (pc2 := 89) (ls2 := [(0, .ref 113), (1, .int x1), (2, .int x2), (3, .int (s0 ||| s1)), (4, .int x4)]) dX11_firstWrong_88 rfl rfl rfl rfl rfl rfl ?_
  refine go_iinc (pc2 := 92) (ls2 := [(0, .ref 113), (1, .int x1), (2, .int x2), (3, .int (s0 ||| s1)), (4, .int (x4 + 1))]) (v := (x4 + 1)) dX11_firstWrong_89 rfl rfl rfl rfl rfl rfl rfl ?_
  refine go_goto (tgt := 48) dX11_firstWrong_92 (by decide) ?_
  exact k
theorem e_X11_judge {x1 : Int32} {h : Hp} {Q : Int32 → Hp → Prop}  (k : (∃ Q1, CtI 1 mX11_isList [.int x1] h Q1 ∧ ∀ (v3 : Int32) (h4 : Hp), Q1 v3 h4 → ((¬ v3 = 0 → (vp_in x1 4 ∧ ((¬ (h4.1 129 (x1).toNatClampNeg) = (-9 : Int32) → (vp_in x1 4 ∧ (((h4.1 114 3) ≤ (h4.1 129 (x1).toNatClampNeg) → (∃ Q8, CtI 3 mX11_firstWrong [.ref 113, .int x1] h4 Q8 ∧ ∀ (v10 : Int32) (h11 : Hp), Q8 v10 h11 → Q v10 h11)) ∧ (¬ ((h4.1 114 3) ≤ (h4.1 129 (x1).toNatClampNeg)) → (vp_in x1 4 ∧ Q ((100 : Int32) + (h4.1 129 (x1).toNatClampNeg)) h4))))) ∧ ((h4.1 129 (x1).toNatClampNeg) = (-9 : Int32) → Q (-11 : Int32) h4)))) ∧ (v3 = 0 → (∃ Q14, CtI 0 mX11_no [.ref 113, .int (-1 : Int32)] h4 Q14 ∧ ∀ (v16 : Int32) (h17 : Hp), Q14 v16 h17 → Q v16 h17))))) : CtI 4 mX11_judge [.ref 113, .int x1] h Q := by
  refine Ct.of (by decide +kernel) (Nat.le_of_ble_eq_true rfl) ?_
  show GoI 4 mX11_judge 0 [(0, .ref 113), (1, .int x1)] [] h Q
  refine go_iload_n (pc2 := 1) dX11_judge_0 rfl rfl rfl ?_
  obtain ⟨Q1, hC2, k⟩ := k
  refine gcS_I (pc2 := 4) (dC := 1) (As := [.int x1]) (st := []) rfl dX11_judge_1 rfl w_1496 ok_X11_isList w_1497 rfl (by decide) (Nat.le_of_ble_eq_true rfl) hC2 (fun v3 h4 hq5 => ?_)
  have k := k v3 h4 hq5
  refine go_if_ne (pc2 := 7) (tgt := 13) dX11_judge_4 rfl (by decide) (fun c => ?_) (fun c => ?_)
  · have k := k.1 c
    refine go_aload_n (pc2 := 14) dX11_judge_13 rfl rfl rfl ?_
    refine gf_1076 (pc2 := 17) rfl dX11_judge_14 rfl c_113 (fvs r_113_20) ?_
    refine go_iload_n (pc2 := 18) dX11_judge_17 rfl rfl rfl ?_
    obtain ⟨y6, k⟩ := k
    refine go_iaload (pc2 := 19) (j := (x1).toNatClampNeg) dX11_judge_18 rfl c_129 y6 rfl ?_
    refine go_bipush (pc2 := 21) (v := (-9 : Int32)) dX11_judge_19 rfl (by decide) ?_
    refine go_icmp_ne (pc2 := 24) (tgt := 27) dX11_judge_21 rfl (by decide) (fun c => ?_) (fun c => ?_)
    · have k := k.1 c
      refine go_aload_n (pc2 := 28) dX11_judge_27 rfl rfl rfl ?_
      refine gf_1076 (pc2 := 31) rfl dX11_judge_28 rfl c_113 (fvs r_113_20) ?_
      refine go_iload_n (pc2 := 32) dX11_judge_31 rfl rfl rfl ?_
      obtain ⟨y7, k⟩ := k
      refine go_iaload (pc2 := 33) (j := (x1).toNatClampNeg) dX11_judge_32 rfl c_129 y7 rfl ?_
      refine go_aload_n (pc2 := 34) dX11_judge_33 rfl rfl rfl ?_
      refine gf_1056 (pc2 := 37) rfl dX11_judge_34 rfl c_113 (fvs r_113_0) ?_
      refine go_iconst (pc2 := 38) (v := (3 : Int32)) dX11_judge_37 rfl (by decide) ?_
      refine go_iaload (pc2 := 39) (j := 3) dX11_judge_38 rfl c_114 (vp_c rfl) rfl ?_
      refine go_icmp_ge (pc2 := 42) (tgt := 54) dX11_judge_39 rfl (by decide) (fun c => ?_) (fun c => ?_)
      · have k := k.1 c
        refine go_aload_n (pc2 := 55) dX11_judge_54 rfl rfl rfl ?_
        refine go_iload_n (pc2 := 56) dX11_judge_55 rfl rfl rfl ?_
        obtain ⟨Q8, hC9, k⟩ := k
        refine gcV_I (pc2 := 59) (dC := 3) (As := [.int x1]) (st := []) rfl dX11_judge_56 rfl w_1512 ok_X11_firstWrong vi_X11_firstWrong c_113 (by decide) rfl rfl rfl (by decide) (Nat.le_of_ble_eq_true rfl) hC9 (fun v10 h11 hq12 => ?_)
        have k := k v10 h11 hq12
        exact go_iret dX11_judge_59 ⟨_, rfl, rfl⟩ ⟨rfl, _, rfl, k⟩
      · have k := k.2 c
        refine go_bipush (pc2 := 44) (v := (100 : Int32)) dX11_judge_42 rfl (by decide) ?_
        refine go_aload_n (pc2 := 45) dX11_judge_44 rfl rfl rfl ?_
        refine gf_1076 (pc2 := 48) rfl dX11_judge_45 rfl c_113 (fvs r_113_20) ?_
        refine go_iload_n (pc2 := 49) dX11_judge_48 rfl rfl rfl ?_
        obtain ⟨y13, k⟩ := k
        refine go_iaload (pc2 := 50) (j := (x1).toNatClampNeg) dX11_judge_49 rfl c_129 y13 rfl ?_
        refine go_iadd (pc2 := 51) dX11_judge_50 rfl ?_
        refine go_goto (tgt := 59) dX11_judge_51 (by decide) ?_
        exact go_iret dX11_judge_59 ⟨_, rfl, rfl⟩ ⟨rfl, _, rfl, k⟩
    · have k := k.2 c
      refine go_bipush (pc2 := 26) (v := (-11 : Int32)) dX11_judge_24 rfl (by decide) ?_
      exact go_iret dX11_judge_26 ⟨_, rfl, rfl⟩ ⟨rfl, _, rfl, k⟩
  · have k := k.2 c
    refine go_aload_n (pc2 := 8) dX11_judge_7 rfl rfl rfl ?_
    refine go_iconst (pc2 := 9) (v := (-1 : Int32)) dX11_judge_8 rfl (by decide) ?_
    obtain ⟨Q14, hC15, k⟩ := k
    refine gcV_I (pc2 := 12) (dC := 0) (As := [.int (-1 : Int32)]) (st := []) rfl dX11_judge_9 rfl w_1161 ok_X11_no vi_X11_no c_113 (by decide) rfl rfl rfl (by decide) (Nat.le_of_ble_eq_true rfl) hC15 (fun v16 h17 hq18 => ?_)
    have k := k v16 h17 hq18
    exact go_iret dX11_judge_12 ⟨_, rfl, rfl⟩ ⟨rfl, _, rfl, k⟩
theorem e_X11_isSo {x1 : Int32} {x2 : Int32} {x3 : Int32} {x4 : Int32} {h : Hp} {Q : Int32 → Hp → Prop}  (k : GoI 1 mX11_isSo 6 [(0, .ref 113), (1, .int x1), (2, .int x2), (3, .int x3), (4, .int x4), (5, .int (1 : Int32)), (6, .int (0 : Int32))] [] h Q) : CtI 1 mX11_isSo [.ref 113, .int x1, .int x2, .int x3, .int x4] h Q := by
  refine Ct.of (by decide +kernel) (Nat.le_of_ble_eq_true rfl) ?_
  show GoI 1 mX11_isSo 0 [(0, .ref 113), (1, .int x1), (2, .int x2), (3, .int x3), (4, .int x4)] [] h Q
  refine go_iconst (pc2 := 1) (v := (1 : Int32)) dX11_isSo_0 rfl (by decide) ?_
  refine go_istore (pc2 := 3) (ls2 := [(0, .ref 113), (1, .int x1), (2, .int x2), (3, .int x3), (4, .int x4), (5, .int (1 : Int32))]) dX11_isSo_1 rfl rfl rfl rfl rfl ?_
  refine go_iconst (pc2 := 4) (v := (0 : Int32)) dX11_isSo_3 rfl (by decide) ?_
  refine go_istore (pc2 := 6) (ls2 := [(0, .ref 113), (1, .int x1), (2, .int x2), (3, .int x3), (4, .int x4), (5, .int (1 : Int32)), (6, .int (0 : Int32))]) dX11_isSo_4 rfl rfl rfl rfl rfl ?_
  exact k
theorem b_X11_isSo_6 {x1 : Int32} {x2 : Int32} {x3 : Int32} {x4 : Int32} {x5 : Int32} {x6 : Int32} {h : Hp} {Q : Int32 → Hp → Prop}  (k : (vp_in x1 4 ∧ (((h.1 129 (x1).toNatClampNeg) ≤ x6 → (x5 &&& 1 = x5 ∧ Q x5 h)) ∧ (¬ ((h.1 129 (x1).toNatClampNeg) ≤ x6) → ((x5 = 0 → GoI 1 mX11_isSo 52 [(0, .ref 113), (1, .int x1), (2, .int x2), (3, .int x3), (4, .int x4), (6, .int x6)] [] h Q) ∧ (¬ x5 = 0 → (vp_in (((20 : Int32) * x1) + x6) 80 ∧ (∃ Q4, CtI 0 mX11_startsBy [.int x2, .int x3, .int x4, .int (x6 + (1 : Int32))] h Q4 ∧ ∀ (v6 : Int32) (h7 : Hp), Q4 v6 h7 → ((¬ (h.1 130 ((((20 : Int32) * x1) + x6)).toNatClampNeg) = v6 → GoI 1 mX11_isSo 52 [(0, .ref 113), (1, .int x1), (2, .int x2), (3, .int x3), (4, .int x4), (6, .int x6)] [] h7 Q) ∧ ((h.1 130 ((((20 : Int32) * x1) + x6)).toNatClampNeg) = v6 → GoI 1 mX11_isSo 53 [(0, .ref 113), (1, .int x1), (2, .int x2), (3, .int x3), (4, .int x4), (6, .int x6)] [.int (1 : Int32)] h7 Q)))))))))) : GoI 1 mX11_isSo 6 [(0, .ref 113), (1, .int x1), (2, .int x2), (3, .int x3), (4, .int x4), (5, .int x5), (6, .int x6)] [] h Q := by
  refine go_iload (pc2 := 8) dX11_isSo_6 rfl rfl ?_
  refine go_aload_n (pc2 := 9) dX11_isSo_8 rfl rfl rfl ?_
  refine gf_1076 (pc2 := 12) rfl dX11_isSo_9 rfl c_113 (fvs r_113_20) ?_
  refine go_iload_n (pc2 := 13) dX11_isSo_12 rfl rfl rfl ?_
  obtain ⟨y1, k⟩ := k
  refine go_iaload (pc2 := 14) (j := (x1).toNatClampNeg) dX11_isSo_13 rfl c_129 y1 rfl ?_
  refine go_icmp_ge (pc2 := 17) (tgt := 61) dX11_isSo_14 rfl (by decide) (fun c => ?_) (fun c => ?_)
  · have k := k.1 c
    refine go_iload (pc2 := 63) dX11_isSo_61 rfl rfl ?_
    obtain ⟨y2, k⟩ := k
    exact go_iret dX11_isSo_63 ⟨_, rfl, congrArg Value.int y2⟩ ⟨rfl, _, rfl, k⟩
  · have k := k.2 c
    refine go_iload (pc2 := 19) dX11_isSo_17 rfl rfl ?_
    refine go_if_eq (pc2 := 22) (tgt := 52) dX11_isSo_19 rfl (by decide) (fun c => ?_) (fun c => ?_)
    · have k := k.1 c
      exact Go.pick [0, 1, 2, 3, 4, 6] rfl k
    · have k := k.2 c
      refine go_aload_n (pc2 := 23) dX11_isSo_22 rfl rfl rfl ?_
      refine gf_1077 (pc2 := 26) rfl dX11_isSo_23 rfl c_113 (fvs r_113_21) ?_
      refine go_bipush (pc2 := 28) (v := (20 : Int32)) dX11_isSo_26 rfl (by decide) ?_
      refine go_iload_n (pc2 := 29) dX11_isSo_28 rfl rfl rfl ?_
      refine go_imul (pc2 := 30) dX11_isSo_29 rfl ?_
      refine go_iload (pc2 := 32) dX11_isSo_30 rfl rfl ?_
      refine go_iadd (pc2 := 33) dX11_isSo_32 rfl ?_
      obtain ⟨y3, k⟩ := k
      refine go_iaload (pc2 := 34) (j := ((((20 : Int32) * x1) + x6)).toNatClampNeg) dX11_isSo_33 rfl c_130 y3 rfl ?_
      refine go_iload_n (pc2 := 35) dX11_isSo_34 rfl rfl rfl ?_
      refine go_iload_n (pc2 := 36) dX11_isSo_35 rfl rfl rfl ?_
      refine go_iload (pc2 := 38) dX11_isSo_36 rfl rfl ?_
      refine go_iload (pc2 := 40) dX11_isSo_38 rfl rfl ?_
      refine go_iconst (pc2 := 41) (v := (1 : Int32)) dX11_isSo_40 rfl (by decide) ?_
      refine go_iadd (pc2 := 42) dX11_isSo_41 rfl ?_
      obtain ⟨Q4, hC5, k⟩ := k
      refine gcS_I (pc2 := 45) (dC := 0) (As := [.int x2, .int x3, .int x4, .int (x6 + (1 : Int32))]) (st := [.int (h.1 130 ((((20 : Int32) * x1) + x6)).toNatClampNeg)]) rfl dX11_isSo_42 rfl w_1267 ok_X11_startsBy w_1268 rfl (by decide) (Nat.le_of_ble_eq_true rfl) hC5 (fun v6 h7 hq8 => ?_)
      have k := k v6 h7 hq8
      refine go_icmp_ne (pc2 := 48) (tgt := 52) dX11_isSo_45 rfl (by decide) (fun c => ?_) (fun c => ?_)
      · have k := k.1 c
        exact Go.pick [0, 1, 2, 3, 4, 6] rfl k
      · have k := k.2 c
        refine go_iconst (pc2 := 49) (v := (1 : Int32)) dX11_isSo_48 rfl (by decide) ?_
        refine go_goto (tgt := 53) dX11_isSo_49 (by decide) ?_
        exact Go.pick [0, 1, 2, 3, 4, 6] rfl k
theorem b_X11_isSo_52 {x1 : Int32} {x2 : Int32} {x3 : Int32} {x4 : Int32} {x6 : Int32} {h : Hp} {Q : Int32 → Hp → Prop}  (k : GoI 1 mX11_isSo 53 [(0, .ref 113), (1, .int x1), (2, .int x2), (3, .int x3), (4, .int x4), (6, .int x6)] [.int (0 : Int32)] h Q) : GoI 1 mX11_isSo 52 [(0, .ref 113), (1, .int x1), (2, .int x2), (3, .int x3), (4, .int x4), (6, .int x6)] [] h Q := by
  refine go_iconst (pc2 := 53) (v := (0 : Int32)) dX11_isSo_52 rfl (by decide) ?_
  exact k
theorem b_X11_isSo_53 {x1 : Int32} {x2 : Int32} {x3 : Int32} {x4 : Int32} {x6 : Int32} {s0 : Int32} {h : Hp} {Q : Int32 → Hp → Prop}  (k : GoI 1 mX11_isSo 6 [(0, .ref 113), (1, .int x1), (2, .int x2), (3, .int x3), (4, .int x4), (5, .int s0), (6, .int (x6 + 1))] [] h Q) : GoI 1 mX11_isSo 53 [(0, .ref 113), (1, .int x1), (2, .int x2), (3, .int x3), (4, .int x4), (6, .int x6)] [.int s0] h Q := by
  refine go_istore (pc2 := 55) (ls2 := [(0, .ref 113), (1, .int x1), (2, .int x2), (3, .int x3), (4, .int x4), (5, .int s0), (6, .int x6)]) dX11_isSo_53 rfl rfl rfl rfl rfl ?_
  refine go_iinc (pc2 := 58) (ls2 := [(0, .ref 113), (1, .int x1), (2, .int x2), (3, .int x3), (4, .int x4), (5, .int s0), (6, .int (x6 + 1))]) (v := (x6 + 1)) dX11_isSo_55 rfl rfl rfl rfl rfl rfl rfl ?_
  refine go_goto (tgt := 6) dX11_isSo_58 (by decide) ?_
  exact k
theorem e_X11_whatIs {x1 : Int32} {x2 : Int32} {x3 : Int32} {h : Hp} {Q : Int32 → Hp → Prop}  (k : (∃ Q1, CtI 1 mX11_isList [.int x1] h Q1 ∧ ∀ (v3 : Int32) (h4 : Hp), Q1 v3 h4 → ((v3 = 0 → (∃ Q6, CtI 0 mX11_no [.ref 113, .int (-1 : Int32)] h4 Q6 ∧ ∀ (v8 : Int32) (h9 : Hp), Q6 v8 h9 → Q v8 h9)) ∧ (¬ v3 = 0 → (∃ Q11, CtI 1 mX11_isPlant [.ref 113, .int x2] h4 Q11 ∧ ∀ (v13 : Int32) (h14 : Hp), Q11 v13 h14 → ((¬ v13 = 0 → (∃ Q16, CtI 0 mX11_isIn [.long (x3).toInt64, .long (0 : Int64), .long (1 : Int64)] h14 Q16 ∧ ∀ (v18 : Int32) (h19 : Hp), Q16 v18 h19 → ((¬ v18 = 0 → (vp_in x1 4 ∧ ((¬ (h19.1 129 (x1).toNatClampNeg) = (-9 : Int32) → GoI 2 mX11_whatIs 58 [(0, .ref 113), (1, .int x1), (2, .int x2), (3, .int x3), (4, .int (0 : Int32)), (5, .int (0 : Int32))] [] h19 Q) ∧ ((h19.1 129 (x1).toNatClampNeg) = (-9 : Int32) → Q (-11 : Int32) h19)))) ∧ (v18 = 0 → (∃ Q22, CtI 0 mX11_no [.ref 113, .int (-2 : Int32)] h19 Q22 ∧ ∀ (v24 : Int32) (h25 : Hp), Q22 v24 h25 → Q v24 h25))))) ∧ (v13 = 0 → (∃ Q27, CtI 0 mX11_no [.ref 113, .int (-1 : Int32)] h14 Q27 ∧ ∀ (v29 : Int32) (h30 : Hp), Q27 v29 h30 → Q v29 h30)))))))) : CtI 2 mX11_whatIs [.ref 113, .int x1, .int x2, .int x3] h Q := by
  refine Ct.of (by decide +kernel) (Nat.le_of_ble_eq_true rfl) ?_
  show GoI 2 mX11_whatIs 0 [(0, .ref 113), (1, .int x1), (2, .int x2), (3, .int x3)] [] h Q
  refine go_iload_n (pc2 := 1) dX11_whatIs_0 rfl rfl rfl ?_
  obtain ⟨Q1, hC2, k⟩ := k
  refine gcS_I (pc2 := 4) (dC := 1) (As := [.int x1]) (st := []) rfl dX11_whatIs_1 rfl w_1496 ok_X11_isList w_1497 rfl (by decide) (Nat.le_of_ble_eq_true rfl) hC2 (fun v3 h4 hq5 => ?_)
  have k := k v3 h4 hq5
  refine go_if_eq (pc2 := 7) (tgt := 15) dX11_whatIs_4 rfl (by decide) (fun c => ?_) (fun c => ?_)
  · have k := k.1 c
    refine go_aload_n (pc2 := 16) dX11_whatIs_15 rfl rfl rfl ?_
    refine go_iconst (pc2 := 17) (v := (-1 : Int32)) dX11_whatIs_16 rfl (by decide) ?_
    obtain ⟨Q6, hC7, k⟩ := k
    refine gcV_I (pc2 := 20) (dC := 0) (As := [.int (-1 : Int32)]) (st := []) rfl dX11_whatIs_17 rfl w_1161 ok_X11_no vi_X11_no c_113 (by decide) rfl rfl rfl (by decide) (Nat.le_of_ble_eq_true rfl) hC7 (fun v8 h9 hq10 => ?_)
    have k := k v8 h9 hq10
    exact go_iret dX11_whatIs_20 ⟨_, rfl, rfl⟩ ⟨rfl, _, rfl, k⟩
  · have k := k.2 c
    refine go_aload_n (pc2 := 8) dX11_whatIs_7 rfl rfl rfl ?_
    refine go_iload_n (pc2 := 9) dX11_whatIs_8 rfl rfl rfl ?_
    obtain ⟨Q11, hC12, k⟩ := k
    refine gcV_I (pc2 := 12) (dC := 1) (As := [.int x2]) (st := []) rfl dX11_whatIs_9 rfl w_1208 ok_X11_isPlant vi_X11_isPlant c_113 (by decide) rfl rfl rfl (by decide) (Nat.le_of_ble_eq_true rfl) hC12 (fun v13 h14 hq15 => ?_)
    have k := k v13 h14 hq15
    refine go_if_ne (pc2 := 15) (tgt := 21) dX11_whatIs_12 rfl (by decide) (fun c => ?_) (fun c => ?_)
    · have k := k.1 c
      refine go_iload_n (pc2 := 22) dX11_whatIs_21 rfl rfl rfl ?_
      refine go_i2l (pc2 := 23) dX11_whatIs_22 rfl ?_
      refine go_lconst (pc2 := 24) (v := (0 : Int64)) dX11_whatIs_23 rfl (by decide) ?_
      refine go_lconst (pc2 := 25) (v := (1 : Int64)) dX11_whatIs_24 rfl (by decide) ?_
      obtain ⟨Q16, hC17, k⟩ := k
      refine gcS_I (pc2 := 28) (dC := 0) (As := [.long (x3).toInt64, .long (0 : Int64), .long (1 : Int64)]) (st := []) rfl dX11_whatIs_25 rfl w_1177 ok_X11_isIn w_1178 rfl (by decide) (Nat.le_of_ble_eq_true rfl) hC17 (fun v18 h19 hq20 => ?_)
      have k := k v18 h19 hq20
      refine go_if_ne (pc2 := 31) (tgt := 38) dX11_whatIs_28 rfl (by decide) (fun c => ?_) (fun c => ?_)
      · have k := k.1 c
        refine go_aload_n (pc2 := 39) dX11_whatIs_38 rfl rfl rfl ?_
        refine gf_1076 (pc2 := 42) rfl dX11_whatIs_39 rfl c_113 (fvs r_113_20) ?_
        refine go_iload_n (pc2 := 43) dX11_whatIs_42 rfl rfl rfl ?_
        obtain ⟨y21, k⟩ := k
        refine go_iaload (pc2 := 44) (j := (x1).toNatClampNeg) dX11_whatIs_43 rfl c_129 y21 rfl ?_
        refine go_bipush (pc2 := 46) (v := (-9 : Int32)) dX11_whatIs_44 rfl (by decide) ?_
        refine go_icmp_ne (pc2 := 49) (tgt := 52) dX11_whatIs_46 rfl (by decide) (fun c => ?_) (fun c => ?_)
        · have k := k.1 c
          refine go_iconst (pc2 := 53) (v := (0 : Int32)) dX11_whatIs_52 rfl (by decide) ?_
          refine go_istore (pc2 := 55) (ls2 := [(0, .ref 113), (1, .int x1), (2, .int x2), (3, .int x3), (4, .int (0 : Int32))]) dX11_whatIs_53 rfl rfl rfl rfl rfl ?_
          refine go_iconst (pc2 := 56) (v := (0 : Int32)) dX11_whatIs_55 rfl (by decide) ?_
          refine go_istore (pc2 := 58) (ls2 := [(0, .ref 113), (1, .int x1), (2, .int x2), (3, .int x3), (4, .int (0 : Int32)), (5, .int (0 : Int32))]) dX11_whatIs_56 rfl rfl rfl rfl rfl ?_
          exact k
        · have k := k.2 c
          refine go_bipush (pc2 := 51) (v := (-11 : Int32)) dX11_whatIs_49 rfl (by decide) ?_
          exact go_iret dX11_whatIs_51 ⟨_, rfl, rfl⟩ ⟨rfl, _, rfl, k⟩
      · have k := k.2 c
        refine go_aload_n (pc2 := 32) dX11_whatIs_31 rfl rfl rfl ?_
        refine go_bipush (pc2 := 34) (v := (-2 : Int32)) dX11_whatIs_32 rfl (by decide) ?_
        obtain ⟨Q22, hC23, k⟩ := k
        refine gcV_I (pc2 := 37) (dC := 0) (As := [.int (-2 : Int32)]) (st := []) rfl dX11_whatIs_34 rfl w_1161 ok_X11_no vi_X11_no c_113 (by decide) rfl rfl rfl (by decide) (Nat.le_of_ble_eq_true rfl) hC23 (fun v24 h25 hq26 => ?_)
        have k := k v24 h25 hq26
        exact go_iret dX11_whatIs_37 ⟨_, rfl, rfl⟩ ⟨rfl, _, rfl, k⟩
    · have k := k.2 c
      refine go_aload_n (pc2 := 16) dX11_whatIs_15 rfl rfl rfl ?_
      refine go_iconst (pc2 := 17) (v := (-1 : Int32)) dX11_whatIs_16 rfl (by decide) ?_
      obtain ⟨Q27, hC28, k⟩ := k
      refine gcV_I (pc2 := 20) (dC := 0) (As := [.int (-1 : Int32)]) (st := []) rfl dX11_whatIs_17 rfl w_1161 ok_X11_no vi_X11_no c_113 (by decide) rfl rfl rfl (by decide) (Nat.le_of_ble_eq_true rfl) hC28 (fun v29 h30 hq31 => ?_)
      have k := k v29 h30 hq31
      exact go_iret dX11_whatIs_20 ⟨_, rfl, rfl⟩ ⟨rfl, _, rfl, k⟩
theorem b_X11_whatIs_58 {x1 : Int32} {x2 : Int32} {x3 : Int32} {x4 : Int32} {x5 : Int32} {h : Hp} {Q : Int32 → Hp → Prop}  (k : (((if x3 = 0 then (6 : Int32) else (10 : Int32)) ≤ x5 → Q x4 h) ∧ (¬ ((if x3 = 0 then (6 : Int32) else (10 : Int32)) ≤ x5) → ((¬ x3 = 0 → (∃ Q1, CtI 0 mX11_of1 [.ref 113, .int x2, .int (0 : Int32)] h Q1 ∧ ∀ (v3 : Int32) (h4 : Hp), Q1 v3 h4 → (∃ Q6, CtI 0 mX11_of1 [.ref 113, .int x2, .int (6 : Int32)] h4 Q6 ∧ ∀ (v8 : Int32) (h9 : Hp), Q6 v8 h9 → (∃ Q11, CtI 1 mX11_isSo [.ref 113, .int x1, .int v3, .int x5, .int v8] h9 Q11 ∧ ∀ (v13 : Int32) (h14 : Hp), Q11 v13 h14 → GoI 2 mX11_whatIs 121 [(0, .ref 113), (1, .int x1), (2, .int x2), (3, .int x3), (4, .int x4), (5, .int x5)] [.int v13] h14 Q)))) ∧ (x3 = 0 → (∃ Q16, CtI 0 mX11_of1 [.ref 113, .int x2, .int (1 : Int32)] h Q16 ∧ ∀ (v18 : Int32) (h19 : Hp), Q16 v18 h19 → (∃ Q21, CtI 0 mX11_of1 [.ref 113, .int x2, .int (6 : Int32)] h19 Q21 ∧ ∀ (v23 : Int32) (h24 : Hp), Q21 v23 h24 → (∃ Q26, CtI 1 mX11_isSo [.ref 113, .int x1, .int x5, .int v18, .int v23] h24 Q26 ∧ ∀ (v28 : Int32) (h29 : Hp), Q26 v28 h29 → GoI 2 mX11_whatIs 121 [(0, .ref 113), (1, .int x1), (2, .int x2), (3, .int x3), (4, .int x4), (5, .int x5)] [.int v28] h29 Q)))))))) : GoI 2 mX11_whatIs 58 [(0, .ref 113), (1, .int x1), (2, .int x2), (3, .int x3), (4, .int x4), (5, .int x5)] [] h Q := by
  refine go_iload (pc2 := 60) dX11_whatIs_58 rfl rfl ?_
  refine go_iload_n (pc2 := 61) dX11_whatIs_60 rfl rfl rfl ?_
  have J : GoI 2 mX11_whatIs 71 [(0, .ref 113), (1, .int x1), (2, .int x2), (3, .int x3), (4, .int x4), (5, .int x5)] [.int (if x3 = 0 then (6 : Int32) else (10 : Int32)), .int x5] h Q := by
    refine go_icmp_ge (pc2 := 74) (tgt := 147) dX11_whatIs_71 rfl (by decide) (fun c => ?_) (fun c => ?_)
    · have k := k.1 c
      refine go_iload (pc2 := 149) dX11_whatIs_147 rfl rfl ?_
      exact go_iret dX11_whatIs_149 ⟨_, rfl, rfl⟩ ⟨rfl, _, rfl, k⟩
    · have k := k.2 c
      refine go_iload_n (pc2 := 75) dX11_whatIs_74 rfl rfl rfl ?_
      refine go_if_ne (pc2 := 78) (tgt := 101) dX11_whatIs_75 rfl (by decide) (fun c => ?_) (fun c => ?_)
      · have k := k.1 c
        refine go_aload_n (pc2 := 102) dX11_whatIs_101 rfl rfl rfl ?_
        refine go_iload_n (pc2 := 103) dX11_whatIs_102 rfl rfl rfl ?_
        refine go_aload_n (pc2 := 104) dX11_whatIs_103 rfl rfl rfl ?_
        refine go_iload_n (pc2 := 105) dX11_whatIs_104 rfl rfl rfl ?_
        refine go_iconst (pc2 := 106) (v := (0 : Int32)) dX11_whatIs_105 rfl (by decide) ?_
        obtain ⟨Q1, hC2, k⟩ := k
        refine gcV_I (pc2 := 109) (dC := 0) (As := [.int x2, .int (0 : Int32)]) (st := [.int x1, .ref 113]) rfl dX11_whatIs_106 rfl w_1212 ok_X11_of1 vi_X11_of1 c_113 (by decide) rfl rfl rfl (by decide) (Nat.le_of_ble_eq_true rfl) hC2 (fun v3 h4 hq5 => ?_)
        have k := k v3 h4 hq5
        refine go_iload (pc2 := 111) dX11_whatIs_109 rfl rfl ?_
        refine go_aload_n (pc2 := 112) dX11_whatIs_111 rfl rfl rfl ?_
        refine go_iload_n (pc2 := 113) dX11_whatIs_112 rfl rfl rfl ?_
        refine go_bipush (pc2 := 115) (v := (6 : Int32)) dX11_whatIs_113 rfl (by decide) ?_
        obtain ⟨Q6, hC7, k⟩ := k
        refine gcV_I (pc2 := 118) (dC := 0) (As := [.int x2, .int (6 : Int32)]) (st := [.int x5, .int v3, .int x1, .ref 113]) rfl dX11_whatIs_115 rfl w_1212 ok_X11_of1 vi_X11_of1 c_113 (by decide) rfl rfl rfl (by decide) (Nat.le_of_ble_eq_true rfl) hC7 (fun v8 h9 hq10 => ?_)
        have k := k v8 h9 hq10
        obtain ⟨Q11, hC12, k⟩ := k
        refine gcV_I (pc2 := 121) (dC := 1) (As := [.int x1, .int v3, .int x5, .int v8]) (st := []) rfl dX11_whatIs_118 rfl w_1520 ok_X11_isSo vi_X11_isSo c_113 (by decide) rfl rfl rfl (by decide) (Nat.le_of_ble_eq_true rfl) hC12 (fun v13 h14 hq15 => ?_)
        have k := k v13 h14 hq15
        exact k
      · have k := k.2 c
        refine go_aload_n (pc2 := 79) dX11_whatIs_78 rfl rfl rfl ?_
        refine go_iload_n (pc2 := 80) dX11_whatIs_79 rfl rfl rfl ?_
        refine go_iload (pc2 := 82) dX11_whatIs_80 rfl rfl ?_
        refine go_aload_n (pc2 := 83) dX11_whatIs_82 rfl rfl rfl ?_
        refine go_iload_n (pc2 := 84) dX11_whatIs_83 rfl rfl rfl ?_
        refine go_iconst (pc2 := 85) (v := (1 : Int32)) dX11_whatIs_84 rfl (by decide) ?_
        obtain ⟨Q16, hC17, k⟩ := k
        refine gcV_I (pc2 := 88) (dC := 0) (As := [.int x2, .int (1 : Int32)]) (st := [.int x5, .int x1, .ref 113]) rfl dX11_whatIs_85 rfl w_1212 ok_X11_of1 vi_X11_of1 c_113 (by decide) rfl rfl rfl (by decide) (Nat.le_of_ble_eq_true rfl) hC17 (fun v18 h19 hq20 => ?_)
        have k := k v18 h19 hq20
        refine go_aload_n (pc2 := 89) dX11_whatIs_88 rfl rfl rfl ?_
        refine go_iload_n (pc2 := 90) dX11_whatIs_89 rfl rfl rfl ?_
        refine go_bipush (pc2 := 92) (v := (6 : Int32)) dX11_whatIs_90 rfl (by decide) ?_
        obtain ⟨Q21, hC22, k⟩ := k
        refine gcV_I (pc2 := 95) (dC := 0) (As := [.int x2, .int (6 : Int32)]) (st := [.int v18, .int x5, .int x1, .ref 113]) rfl dX11_whatIs_92 rfl w_1212 ok_X11_of1 vi_X11_of1 c_113 (by decide) rfl rfl rfl (by decide) (Nat.le_of_ble_eq_true rfl) hC22 (fun v23 h24 hq25 => ?_)
        have k := k v23 h24 hq25
        obtain ⟨Q26, hC27, k⟩ := k
        refine gcV_I (pc2 := 98) (dC := 1) (As := [.int x1, .int x5, .int v18, .int v23]) (st := []) rfl dX11_whatIs_95 rfl w_1520 ok_X11_isSo vi_X11_isSo c_113 (by decide) rfl rfl rfl (by decide) (Nat.le_of_ble_eq_true rfl) hC27 (fun v28 h29 hq30 => ?_)
        have k := k v28 h29 hq30
        refine go_goto (tgt := 121) dX11_whatIs_98 (by decide) ?_
        exact k
  refine go_if_ne (pc2 := 64) (tgt := 69) dX11_whatIs_61 rfl (by decide) (fun c => ?_) (fun c => ?_)
  · rw [if_neg c] at J
    exact go_bipush (pc2 := 71) dX11_whatIs_69 rfl (by decide) J
  · rw [if_pos c] at J
    exact go_bipush (pc2 := 66) dX11_whatIs_64 rfl (by decide) (go_goto (tgt := 71) dX11_whatIs_66 (by decide) J)
theorem b_X11_whatIs_121 {x1 : Int32} {x2 : Int32} {x3 : Int32} {x4 : Int32} {x5 : Int32} {s0 : Int32} {h : Hp} {Q : Int32 → Hp → Prop}  (k : ((s0 = 0 → GoI 2 mX11_whatIs 138 [(0, .ref 113), (1, .int x1), (2, .int x2), (3, .int x3), (5, .int x5)] [.int (0 : Int32), .int x4] h Q) ∧ (¬ s0 = 0 → GoI 2 mX11_whatIs 138 [(0, .ref 113), (1, .int x1), (2, .int x2), (3, .int x3), (5, .int x5)] [.int ((1 : Int32) <<< (x5 &&& 31)), .int x4] h Q))) : GoI 2 mX11_whatIs 121 [(0, .ref 113), (1, .int x1), (2, .int x2), (3, .int x3), (4, .int x4), (5, .int x5)] [.int s0] h Q := by
  refine go_istore (pc2 := 123) (ls2 := [(0, .ref 113), (1, .int x1), (2, .int x2), (3, .int x3), (4, .int x4), (5, .int x5), (6, .int s0)]) dX11_whatIs_121 rfl rfl rfl rfl rfl ?_
  refine go_iload (pc2 := 125) dX11_whatIs_123 rfl rfl ?_
  refine go_iload (pc2 := 127) dX11_whatIs_125 rfl rfl ?_
  refine go_if_eq (pc2 := 130) (tgt := 137) dX11_whatIs_127 rfl (by decide) (fun c => ?_) (fun c => ?_)
  · have k := k.1 c
    refine go_iconst (pc2 := 138) (v := (0 : Int32)) dX11_whatIs_137 rfl (by decide) ?_
    exact Go.pick [0, 1, 2, 3, 5] rfl k
  · have k := k.2 c
    refine go_iconst (pc2 := 131) (v := (1 : Int32)) dX11_whatIs_130 rfl (by decide) ?_
    refine go_iload (pc2 := 133) dX11_whatIs_131 rfl rfl ?_
    refine go_ishl (pc2 := 134) dX11_whatIs_133 rfl ?_
    refine go_goto (tgt := 138) dX11_whatIs_134 (by decide) ?_
    exact Go.pick [0, 1, 2, 3, 5] rfl k
theorem b_X11_whatIs_138 {x1 : Int32} {x2 : Int32} {x3 : Int32} {x5 : Int32} {s0 : Int32} {s1 : Int32} {h : Hp} {Q : Int32 → Hp → Prop}  (k : GoI 2 mX11_whatIs 58 [(0, .ref 113), (1, .int x1), (2, .int x2), (3, .int x3), (4, .int (s0 ||| s1)), (5, .int (x5 + 1))] [] h Q) : GoI 2 mX11_whatIs 138 [(0, .ref 113), (1, .int x1), (2, .int x2), (3, .int x3), (5, .int x5)] [.int s1, .int s0] h Q := by
  refine go_ior (pc2 := 139) dX11_whatIs_138 rfl ?_
  refine go_istore (pc2 := 141) (ls2 := [(0, .ref 113), (1, .int x1), (2, .int x2), (3, .int x3), (4, .int (s0 ||| s1)), (5, .int x5)]) dX11_whatIs_139 rfl rfl rfl rfl rfl ?_
  refine go_iinc (pc2 := 144) (ls2 := [(0, .ref 113), (1, .int x1), (2, .int x2), (3, .int x3), (4, .int (s0 ||| s1)), (5, .int (x5 + 1))]) (v := (x5 + 1)) dX11_whatIs_141 rfl rfl rfl rfl rfl rfl rfl ?_
  refine go_goto (tgt := 58) dX11_whatIs_144 (by decide) ?_
  exact k
theorem e_X11_lots {x1 : Int32} {x2 : Int32} {x3 : Int32} {h : Hp} {Q : Int32 → Hp → Prop}  (k : (∃ Q1, CtI 0 mX11_wrongBy [.int x1, .int (1 : Int32), .int (20 : Int32)] h Q1 ∧ ∀ (v3 : Int32) (h4 : Hp), Q1 v3 h4 → ((¬ v3 = 0 → GoI 8 mX11_lots 28 [(0, .ref 113), (1, .int x1), (2, .int x2), (3, .int x3), (4, .int v3)] [] h4 Q) ∧ (v3 = 0 → (∃ Q6, CtI 0 mX11_isIn [.long (x3).toInt64, .long (0 : Int64), .long (1 : Int64)] h4 Q6 ∧ ∀ (v8 : Int32) (h9 : Hp), Q6 v8 h9 → ((¬ v8 = 0 → GoI 8 mX11_lots 28 [(0, .ref 113), (1, .int x1), (2, .int x2), (3, .int x3), (4, .int v3)] [] h9 Q) ∧ (v8 = 0 → GoI 8 mX11_lots 28 [(0, .ref 113), (1, .int x1), (2, .int x2), (3, .int x3), (4, .int (-2 : Int32))] [] h9 Q))))))) : CtI 8 mX11_lots [.ref 113, .int x1, .int x2, .int x3] h Q := by
  refine Ct.of (by decide +kernel) (Nat.le_of_ble_eq_true rfl) ?_
  show GoI 8 mX11_lots 0 [(0, .ref 113), (1, .int x1), (2, .int x2), (3, .int x3)] [] h Q
  refine go_iload_n (pc2 := 1) dX11_lots_0 rfl rfl rfl ?_
  refine go_iconst (pc2 := 2) (v := (1 : Int32)) dX11_lots_1 rfl (by decide) ?_
  refine go_bipush (pc2 := 4) (v := (20 : Int32)) dX11_lots_2 rfl (by decide) ?_
  obtain ⟨Q1, hC2, k⟩ := k
  refine gcS_I (pc2 := 7) (dC := 0) (As := [.int x1, .int (1 : Int32), .int (20 : Int32)]) (st := []) rfl dX11_lots_4 rfl w_1158 ok_X11_wrongBy w_1159 rfl (by decide) (Nat.le_of_ble_eq_true rfl) hC2 (fun v3 h4 hq5 => ?_)
  have k := k v3 h4 hq5
  refine go_istore (pc2 := 9) (ls2 := [(0, .ref 113), (1, .int x1), (2, .int x2), (3, .int x3), (4, .int v3)]) dX11_lots_7 rfl rfl rfl rfl rfl ?_
  refine go_iload (pc2 := 11) dX11_lots_9 rfl rfl ?_
  refine go_if_ne (pc2 := 14) (tgt := 28) dX11_lots_11 rfl (by decide) (fun c => ?_) (fun c => ?_)
  · have k := k.1 c
    exact k
  · have k := k.2 c
    refine go_iload_n (pc2 := 15) dX11_lots_14 rfl rfl rfl ?_
    refine go_i2l (pc2 := 16) dX11_lots_15 rfl ?_
    refine go_lconst (pc2 := 17) (v := (0 : Int64)) dX11_lots_16 rfl (by decide) ?_
    refine go_lconst (pc2 := 18) (v := (1 : Int64)) dX11_lots_17 rfl (by decide) ?_
    obtain ⟨Q6, hC7, k⟩ := k
    refine gcS_I (pc2 := 21) (dC := 0) (As := [.long (x3).toInt64, .long (0 : Int64), .long (1 : Int64)]) (st := []) rfl dX11_lots_18 rfl w_1177 ok_X11_isIn w_1178 rfl (by decide) (Nat.le_of_ble_eq_true rfl) hC7 (fun v8 h9 hq10 => ?_)
    have k := k v8 h9 hq10
    refine go_if_ne (pc2 := 24) (tgt := 28) dX11_lots_21 rfl (by decide) (fun c => ?_) (fun c => ?_)
    · have k := k.1 c
      exact k
    · have k := k.2 c
      refine go_bipush (pc2 := 26) (v := (-2 : Int32)) dX11_lots_24 rfl (by decide) ?_
      refine go_istore (pc2 := 28) (ls2 := [(0, .ref 113), (1, .int x1), (2, .int x2), (3, .int x3), (4, .int (-2 : Int32))]) dX11_lots_26 rfl rfl rfl rfl rfl ?_
      exact k
theorem b_X11_lots_28 {x1 : Int32} {x2 : Int32} {x3 : Int32} {x4 : Int32} {h : Hp} {Q : Int32 → Hp → Prop}  (k : ((x4 = 0 → (∃ Q1, CtV 1 mX11_keeps [.ref 113] h Q1 ∧ ∀ h4 : Hp, Q1 h4 → GoI 8 mX11_lots 53 [(0, .ref 113), (1, .int x1), (3, .int x3), (5, .int x2), (6, .int (0 : Int32)), (7, .int (0 : Int32))] [] h4 Q)) ∧ (¬ x4 = 0 → (∃ Q6, CtI 0 mX11_no [.ref 113, .int x4] h Q6 ∧ ∀ (v8 : Int32) (h9 : Hp), Q6 v8 h9 → Q v8 h9)))) : GoI 8 mX11_lots 28 [(0, .ref 113), (1, .int x1), (2, .int x2), (3, .int x3), (4, .int x4)] [] h Q := by
  refine go_iload (pc2 := 30) dX11_lots_28 rfl rfl ?_
  refine go_if_eq (pc2 := 33) (tgt := 40) dX11_lots_30 rfl (by decide) (fun c => ?_) (fun c => ?_)
  · have k := k.1 c
    refine go_iload_n (pc2 := 41) dX11_lots_40 rfl rfl rfl ?_
    refine go_istore (pc2 := 43) (ls2 := [(0, .ref 113), (1, .int x1), (2, .int x2), (3, .int x3), (4, .int x4), (5, .int x2)]) dX11_lots_41 rfl rfl rfl rfl rfl ?_
    refine go_iconst (pc2 := 44) (v := (0 : Int32)) dX11_lots_43 rfl (by decide) ?_
    refine go_istore (pc2 := 46) (ls2 := [(0, .ref 113), (1, .int x1), (2, .int x2), (3, .int x3), (4, .int x4), (5, .int x2), (6, .int (0 : Int32))]) dX11_lots_44 rfl rfl rfl rfl rfl ?_
    refine go_aload_n (pc2 := 47) dX11_lots_46 rfl rfl rfl ?_
    obtain ⟨Q1, hC2, k⟩ := k
    refine gcV_V (pc2 := 50) (dC := 1) (As := []) (st := []) rfl dX11_lots_47 rfl w_1445 ok_X11_keeps vi_X11_keeps c_113 (by decide) rfl rfl rfl (by decide) (Nat.le_of_ble_eq_true rfl) hC2 (fun h4 hq5 => ?_)
    have k := k h4 hq5
    refine go_iconst (pc2 := 51) (v := (0 : Int32)) dX11_lots_50 rfl (by decide) ?_
    refine go_istore (pc2 := 53) (ls2 := [(0, .ref 113), (1, .int x1), (2, .int x2), (3, .int x3), (4, .int x4), (5, .int x2), (6, .int (0 : Int32)), (7, .int (0 : Int32))]) dX11_lots_51 rfl rfl rfl rfl rfl ?_
    exact Go.pick [0, 1, 3, 5, 6, 7] rfl k
  · have k := k.2 c
    refine go_aload_n (pc2 := 34) dX11_lots_33 rfl rfl rfl ?_
    refine go_iload (pc2 := 36) dX11_lots_34 rfl rfl ?_
    obtain ⟨Q6, hC7, k⟩ := k
    refine gcV_I (pc2 := 39) (dC := 0) (As := [.int x4]) (st := []) rfl dX11_lots_36 rfl w_1161 ok_X11_no vi_X11_no c_113 (by decide) rfl rfl rfl (by decide) (Nat.le_of_ble_eq_true rfl) hC7 (fun v8 h9 hq10 => ?_)
    have k := k v8 h9 hq10
    exact go_iret dX11_lots_39 ⟨_, rfl, rfl⟩ ⟨rfl, _, rfl, k⟩
theorem b_X11_lots_53 {x1 : Int32} {x3 : Int32} {x5 : Int32} {x6 : Int32} {x7 : Int32} {h : Hp} {Q : Int32 → Hp → Prop}  (k : ((x1 ≤ x7 → (∃ Q1, CtV 1 mX11_laysBack [.ref 113] h Q1 ∧ ∀ h4 : Hp, Q1 h4 → Q x6 h4)) ∧ (¬ (x1 ≤ x7) → GoI 8 mX11_lots 62 [(0, .ref 113), (1, .int x1), (3, .int x3), (5, .int x5), (6, .int x6), (7, .int x7), (8, .int (0 : Int32))] [] h Q))) : GoI 8 mX11_lots 53 [(0, .ref 113), (1, .int x1), (3, .int x3), (5, .int x5), (6, .int x6), (7, .int x7)] [] h Q := by
  refine go_iload (pc2 := 55) dX11_lots_53 rfl rfl ?_
  refine go_iload_n (pc2 := 56) dX11_lots_55 rfl rfl rfl ?_
  refine go_icmp_ge (pc2 := 59) (tgt := 151) dX11_lots_56 rfl (by decide) (fun c => ?_) (fun c => ?_)
  · have k := k.1 c
    refine go_aload_n (pc2 := 152) dX11_lots_151 rfl rfl rfl ?_
    obtain ⟨Q1, hC2, k⟩ := k
    refine gcV_V (pc2 := 155) (dC := 1) (As := []) (st := []) rfl dX11_lots_152 rfl w_1456 ok_X11_laysBack vi_X11_laysBack c_113 (by decide) rfl rfl rfl (by decide) (Nat.le_of_ble_eq_true rfl) hC2 (fun h4 hq5 => ?_)
    have k := k h4 hq5
    refine go_iload (pc2 := 157) dX11_lots_155 rfl rfl ?_
    exact go_iret dX11_lots_157 ⟨_, rfl, rfl⟩ ⟨rfl, _, rfl, k⟩
  · have k := k.2 c
    refine go_iconst (pc2 := 60) (v := (0 : Int32)) dX11_lots_59 rfl (by decide) ?_
    refine go_istore (pc2 := 62) (ls2 := [(0, .ref 113), (1, .int x1), (3, .int x3), (5, .int x5), (6, .int x6), (7, .int x7), (8, .int (0 : Int32))]) dX11_lots_60 rfl rfl rfl rfl rfl ?_
    exact k
theorem b_X11_lots_62 {x1 : Int32} {x3 : Int32} {x5 : Int32} {x6 : Int32} {x7 : Int32} {x8 : Int32} {h : Hp} {Q : Int32 → Hp → Prop}  (k : (((h.1 114 0) ≤ x8 → (∃ Q1, CtI 7 mX11_bests [.ref 113] h Q1 ∧ ∀ (v3 : Int32) (h4 : Hp), Q1 v3 h4 → ((¬ v3 = (-9 : Int32) → ((¬ x3 = 0 → GoI 8 mX11_lots 142 [(0, .ref 113), (1, .int x1), (3, .int x3), (5, .int x5), (7, .int x7)] [.int v3, .int x6] h4 Q) ∧ (x3 = 0 → GoI 8 mX11_lots 142 [(0, .ref 113), (1, .int x1), (3, .int x3), (5, .int x5), (7, .int x7)] [.int (1 : Int32), .int x6] h4 Q))) ∧ (v3 = (-9 : Int32) → GoI 8 mX11_lots 142 [(0, .ref 113), (1, .int x1), (3, .int x3), (5, .int x5), (7, .int x7)] [.int (0 : Int32), .int x6] h4 Q)))) ∧ (¬ ((h.1 114 0) ≤ x8) → (vp_in ((4 : Int32) + x8) 49 ∧ (∀ g7 : Hp, g7 = (ui h 114 (((4 : Int32) + x8)).toNatClampNeg (((((x5 * (1664525 : Int32)) + (1013904223 : Int32)) &&& (2147483647 : Int32)) / (256 : Int32)) - ((((x5 * (1664525 : Int32)) + (1013904223 : Int32)) &&& (2147483647 : Int32)) / (256 : Int32)) / (100 : Int32) * (100 : Int32))) → GoI 8 mX11_lots 62 [(0, .ref 113), (1, .int x1), (3, .int x3), (5, .int ((x5 * (1664525 : Int32)) + (1013904223 : Int32))), (6, .int x6), (7, .int x7), (8, .int (x8 + 1))] [] g7 Q))))) : GoI 8 mX11_lots 62 [(0, .ref 113), (1, .int x1), (3, .int x3), (5, .int x5), (6, .int x6), (7, .int x7), (8, .int x8)] [] h Q := by
  refine go_iload (pc2 := 64) dX11_lots_62 rfl rfl ?_
  refine go_aload_n (pc2 := 65) dX11_lots_64 rfl rfl rfl ?_
  refine gf_1056 (pc2 := 68) rfl dX11_lots_65 rfl c_113 (fvs r_113_0) ?_
  refine go_iconst (pc2 := 69) (v := (0 : Int32)) dX11_lots_68 rfl (by decide) ?_
  refine go_iaload (pc2 := 70) (j := 0) dX11_lots_69 rfl c_114 (vp_c rfl) rfl ?_
  refine go_icmp_ge (pc2 := 73) (tgt := 113) dX11_lots_70 rfl (by decide) (fun c => ?_) (fun c => ?_)
  · have k := k.1 c
    refine go_aload_n (pc2 := 114) dX11_lots_113 rfl rfl rfl ?_
    obtain ⟨Q1, hC2, k⟩ := k
    refine gcV_I (pc2 := 117) (dC := 7) (As := []) (st := []) rfl dX11_lots_114 rfl w_1329 ok_X11_bests vi_X11_bests c_113 (by decide) rfl rfl rfl (by decide) (Nat.le_of_ble_eq_true rfl) hC2 (fun v3 h4 hq5 => ?_)
    have k := k v3 h4 hq5
    refine go_istore (pc2 := 119) (ls2 := [(0, .ref 113), (1, .int x1), (3, .int x3), (5, .int x5), (6, .int x6), (7, .int x7), (8, .int v3)]) dX11_lots_117 rfl rfl rfl rfl rfl ?_
    refine go_iload (pc2 := 121) dX11_lots_119 rfl rfl ?_
    refine go_iload (pc2 := 123) dX11_lots_121 rfl rfl ?_
    refine go_bipush (pc2 := 125) (v := (-9 : Int32)) dX11_lots_123 rfl (by decide) ?_
    refine go_icmp_ne (pc2 := 128) (tgt := 132) dX11_lots_125 rfl (by decide) (fun c => ?_) (fun c => ?_)
    · have k := k.1 c
      refine go_iload_n (pc2 := 133) dX11_lots_132 rfl rfl rfl ?_
      refine go_if_ne (pc2 := 136) (tgt := 140) dX11_lots_133 rfl (by decide) (fun c => ?_) (fun c => ?_)
      · have k := k.1 c
        refine go_iload (pc2 := 142) dX11_lots_140 rfl rfl ?_
        exact Go.pick [0, 1, 2, 3, 5] rfl k
      · have k := k.2 c
        refine go_iconst (pc2 := 137) (v := (1 : Int32)) dX11_lots_136 rfl (by decide) ?_
        refine go_goto (tgt := 142) dX11_lots_137 (by decide) ?_
        exact Go.pick [0, 1, 2, 3, 5] rfl k
    · have k := k.2 c
      refine go_iconst (pc2 := 129) (v := (0 : Int32)) dX11_lots_128 rfl (by decide) ?_
      refine go_goto (tgt := 142) dX11_lots_129 (by decide) ?_
      exact Go.pick [0, 1, 2, 3, 5] rfl k
  · have k := k.2 c
    refine go_iload (pc2 := 75) dX11_lots_73 rfl rfl ?_
    refine go_ldcw (pc2 := 78) dX11_lots_75 rfl rfl w_1528 ?_
    refine go_imul (pc2 := 79) dX11_lots_78 rfl ?_
    refine go_ldcw (pc2 := 82) dX11_lots_79 rfl rfl w_1529 ?_
    refine go_iadd (pc2 := 83) dX11_lots_82 rfl ?_
    refine go_istore (pc2 := 85) (ls2 := [(0, .ref 113), (1, .int x1), (3, .int x3), (5, .int ((x5 * (1664525 : Int32)) + (1013904223 : Int32))), (6, .int x6), (7, .int x7), (8, .int x8)]) dX11_lots_83 rfl rfl rfl rfl rfl ?_
    refine go_aload_n (pc2 := 86) dX11_lots_85 rfl rfl rfl ?_
    refine gf_1056 (pc2 := 89) rfl dX11_lots_86 rfl c_113 (fvs r_113_0) ?_
    refine go_iconst (pc2 := 90) (v := (4 : Int32)) dX11_lots_89 rfl (by decide) ?_
    refine go_iload (pc2 := 92) dX11_lots_90 rfl rfl ?_
    refine go_iadd (pc2 := 93) dX11_lots_92 rfl ?_
    refine go_iload (pc2 := 95) dX11_lots_93 rfl rfl ?_
    refine go_ldcw (pc2 := 98) dX11_lots_95 rfl rfl w_1530 ?_
    refine go_iand (pc2 := 99) dX11_lots_98 rfl ?_
    refine go_sipush (pc2 := 102) (v := (256 : Int32)) dX11_lots_99 rfl (by decide) ?_
    refine go_idiv (pc2 := 103) dX11_lots_102 rfl (by decide) ?_
    refine go_bipush (pc2 := 105) (v := (100 : Int32)) dX11_lots_103 rfl (by decide) ?_
    refine go_irem (pc2 := 106) dX11_lots_105 rfl (by decide) ?_
    obtain ⟨y6, k⟩ := k
    refine go_iastore (pc2 := 107) (j := (((4 : Int32) + x8)).toNatClampNeg) dX11_lots_106 rfl c_114 y6 rfl ?_
    obtain ⟨g7, eg7⟩ : ∃ y : Hp, y = (ui h 114 (((4 : Int32) + x8)).toNatClampNeg (((((x5 * (1664525 : Int32)) + (1013904223 : Int32)) &&& (2147483647 : Int32)) / (256 : Int32)) - ((((x5 * (1664525 : Int32)) + (1013904223 : Int32)) &&& (2147483647 : Int32)) / (256 : Int32)) / (100 : Int32) * (100 : Int32))) := ⟨_, rfl⟩
    rw [← eg7]
    have k := k g7 eg7
    refine go_iinc (pc2 := 110) (ls2 := [(0, .ref 113), (1, .int x1), (3, .int x3), (5, .int ((x5 * (1664525 : Int32)) + (1013904223 : Int32))), (6, .int x6), (7, .int x7), (8, .int (x8 + 1))]) (v := (x8 + 1)) dX11_lots_107 rfl rfl rfl rfl rfl rfl rfl ?_
    refine go_goto (tgt := 62) dX11_lots_110 (by decide) ?_
    exact k
theorem b_X11_lots_142 {x1 : Int32} {x3 : Int32} {x5 : Int32} {x7 : Int32} {s0 : Int32} {s1 : Int32} {h : Hp} {Q : Int32 → Hp → Prop}  (k : GoI 8 mX11_lots 53 [(0, .ref 113), (1, .int x1), (3, .int x3), (5, .int x5), (6, .int (s0 + s1)), (7, .int (x7 + 1))] [] h Q) : GoI 8 mX11_lots 142 [(0, .ref 113), (1, .int x1), (3, .int x3), (5, .int x5), (7, .int x7)] [.int s1, .int s0] h Q := by
  refine go_iadd (pc2 := 143) dX11_lots_142 rfl ?_
  refine go_istore (pc2 := 145) (ls2 := [(0, .ref 113), (1, .int x1), (3, .int x3), (5, .int x5), (6, .int (s0 + s1)), (7, .int x7)]) dX11_lots_143 rfl rfl rfl rfl rfl ?_
  refine go_iinc (pc2 := 148) (ls2 := [(0, .ref 113), (1, .int x1), (3, .int x3), (5, .int x5), (6, .int (s0 + s1)), (7, .int (x7 + 1))]) (v := (x7 + 1)) dX11_lots_145 rfl rfl rfl rfl rfl rfl rfl ?_
  refine go_goto (tgt := 53) dX11_lots_148 (by decide) ?_
  exact k
theorem e_X11_isOver {x0 : Int64} {x2 : Int64} {h : Hp} {Q : Int32 → Hp → Prop}  (k : (((lg_cmp x0 (0 : Int64)) = 0 → Q (0 : Int32) h) ∧ (¬ (lg_cmp x0 (0 : Int64)) = 0 → ((¬ (lg_cmp x2 (0 : Int64)) = 0 → ((¬ (lg_cmp x0 (-1 : Int64)) = 0 → GoI 0 mX11_isOver 30 [(0, .long x0), (2, .long x2)] [] h Q) ∧ ((lg_cmp x0 (-1 : Int64)) = 0 → (((lg_cmp x2 (-9223372036854775808 : Int64)) = 0 → Q (1 : Int32) h) ∧ (¬ (lg_cmp x2 (-9223372036854775808 : Int64)) = 0 → GoI 0 mX11_isOver 30 [(0, .long x0), (2, .long x2)] [] h Q))))) ∧ ((lg_cmp x2 (0 : Int64)) = 0 → Q (0 : Int32) h))))) : CtI 0 mX11_isOver [.long x0, .long x2] h Q := by
  refine Ct.of (by decide +kernel) (Nat.le_of_ble_eq_true rfl) ?_
  show GoI 0 mX11_isOver 0 [(0, .long x0), (2, .long x2)] [] h Q
  refine go_lload_n (pc2 := 1) dX11_isOver_0 rfl rfl rfl ?_
  refine go_lconst (pc2 := 2) (v := (0 : Int64)) dX11_isOver_1 rfl (by decide) ?_
  refine go_lcmp (pc2 := 3) dX11_isOver_2 rfl ?_
  refine go_if_eq (pc2 := 6) (tgt := 12) dX11_isOver_3 rfl (by decide) (fun c => ?_) (fun c => ?_)
  · have k := k.1 c
    refine go_iconst (pc2 := 13) (v := (0 : Int32)) dX11_isOver_12 rfl (by decide) ?_
    exact go_iret dX11_isOver_13 ⟨_, rfl, rfl⟩ ⟨rfl, _, rfl, k⟩
  · have k := k.2 c
    refine go_lload_n (pc2 := 7) dX11_isOver_6 rfl rfl rfl ?_
    refine go_lconst (pc2 := 8) (v := (0 : Int64)) dX11_isOver_7 rfl (by decide) ?_
    refine go_lcmp (pc2 := 9) dX11_isOver_8 rfl ?_
    refine go_if_ne (pc2 := 12) (tgt := 14) dX11_isOver_9 rfl (by decide) (fun c => ?_) (fun c => ?_)
    · have k := k.1 c
      refine go_lload_n (pc2 := 15) dX11_isOver_14 rfl rfl rfl ?_
      refine go_ldc2 (pc2 := 18) dX11_isOver_15 rfl rfl w_1538 ?_
      refine go_lcmp (pc2 := 19) dX11_isOver_18 rfl ?_
      refine go_if_ne (pc2 := 22) (tgt := 30) dX11_isOver_19 rfl (by decide) (fun c => ?_) (fun c => ?_)
      · have k := k.1 c
        exact k
      · have k := k.2 c
        refine go_lload_n (pc2 := 23) dX11_isOver_22 rfl rfl rfl ?_
        refine go_ldc2 (pc2 := 26) dX11_isOver_23 rfl rfl w_1539 ?_
        refine go_lcmp (pc2 := 27) dX11_isOver_26 rfl ?_
        refine go_if_eq (pc2 := 30) (tgt := 56) dX11_isOver_27 rfl (by decide) (fun c => ?_) (fun c => ?_)
        · have k := k.1 c
          refine go_iconst (pc2 := 57) (v := (1 : Int32)) dX11_isOver_56 rfl (by decide) ?_
          refine go_goto (tgt := 61) dX11_isOver_57 (by decide) ?_
          exact go_iret dX11_isOver_61 ⟨_, rfl, rfl⟩ ⟨rfl, _, rfl, k⟩
        · have k := k.2 c
          exact k
    · have k := k.2 c
      refine go_iconst (pc2 := 13) (v := (0 : Int32)) dX11_isOver_12 rfl (by decide) ?_
      exact go_iret dX11_isOver_13 ⟨_, rfl, rfl⟩ ⟨rfl, _, rfl, k⟩
theorem b_X11_isOver_30 {x0 : Int64} {x2 : Int64} {h : Hp} {Q : Int32 → Hp → Prop}  (k : ((¬ (lg_cmp x2 (-1 : Int64)) = 0 → (¬ x2 = 0 ∧ (((lg_cmp ((x0 * x2) / x2) x0) = 0 → Q (0 : Int32) h) ∧ (¬ (lg_cmp ((x0 * x2) / x2) x0) = 0 → Q (1 : Int32) h)))) ∧ ((lg_cmp x2 (-1 : Int64)) = 0 → (((lg_cmp x0 (-9223372036854775808 : Int64)) = 0 → Q (1 : Int32) h) ∧ (¬ (lg_cmp x0 (-9223372036854775808 : Int64)) = 0 → (¬ x2 = 0 ∧ (((lg_cmp ((x0 * x2) / x2) x0) = 0 → Q (0 : Int32) h) ∧ (¬ (lg_cmp ((x0 * x2) / x2) x0) = 0 → Q (1 : Int32) h)))))))) : GoI 0 mX11_isOver 30 [(0, .long x0), (2, .long x2)] [] h Q := by
  refine go_lload_n (pc2 := 31) dX11_isOver_30 rfl rfl rfl ?_
  refine go_ldc2 (pc2 := 34) dX11_isOver_31 rfl rfl w_1538 ?_
  refine go_lcmp (pc2 := 35) dX11_isOver_34 rfl ?_
  refine go_if_ne (pc2 := 38) (tgt := 46) dX11_isOver_35 rfl (by decide) (fun c => ?_) (fun c => ?_)
  · have k := k.1 c
    refine go_lload_n (pc2 := 47) dX11_isOver_46 rfl rfl rfl ?_
    refine go_lload_n (pc2 := 48) dX11_isOver_47 rfl rfl rfl ?_
    refine go_lmul (pc2 := 49) dX11_isOver_48 rfl ?_
    refine go_lload_n (pc2 := 50) dX11_isOver_49 rfl rfl rfl ?_
    obtain ⟨y1, k⟩ := k
    refine go_ldiv (pc2 := 51) dX11_isOver_50 rfl y1 ?_
    refine go_lload_n (pc2 := 52) dX11_isOver_51 rfl rfl rfl ?_
    refine go_lcmp (pc2 := 53) dX11_isOver_52 rfl ?_
    refine go_if_eq (pc2 := 56) (tgt := 60) dX11_isOver_53 rfl (by decide) (fun c => ?_) (fun c => ?_)
    · have k := k.1 c
      refine go_iconst (pc2 := 61) (v := (0 : Int32)) dX11_isOver_60 rfl (by decide) ?_
      exact go_iret dX11_isOver_61 ⟨_, rfl, rfl⟩ ⟨rfl, _, rfl, k⟩
    · have k := k.2 c
      refine go_iconst (pc2 := 57) (v := (1 : Int32)) dX11_isOver_56 rfl (by decide) ?_
      refine go_goto (tgt := 61) dX11_isOver_57 (by decide) ?_
      exact go_iret dX11_isOver_61 ⟨_, rfl, rfl⟩ ⟨rfl, _, rfl, k⟩
  · have k := k.2 c
    refine go_lload_n (pc2 := 39) dX11_isOver_38 rfl rfl rfl ?_
    refine go_ldc2 (pc2 := 42) dX11_isOver_39 rfl rfl w_1539 ?_
    refine go_lcmp (pc2 := 43) dX11_isOver_42 rfl ?_
    refine go_if_eq (pc2 := 46) (tgt := 56) dX11_isOver_43 rfl (by decide) (fun c => ?_) (fun c => ?_)
    · have k := k.1 c
      refine go_iconst (pc2 := 57) (v := (1 : Int32)) dX11_isOver_56 rfl (by decide) ?_
      refine go_goto (tgt := 61) dX11_isOver_57 (by decide) ?_
      exact go_iret dX11_isOver_61 ⟨_, rfl, rfl⟩ ⟨rfl, _, rfl, k⟩
    · have k := k.2 c
      refine go_lload_n (pc2 := 47) dX11_isOver_46 rfl rfl rfl ?_
      refine go_lload_n (pc2 := 48) dX11_isOver_47 rfl rfl rfl ?_
      refine go_lmul (pc2 := 49) dX11_isOver_48 rfl ?_
      refine go_lload_n (pc2 := 50) dX11_isOver_49 rfl rfl rfl ?_
      obtain ⟨y2, k⟩ := k
      refine go_ldiv (pc2 := 51) dX11_isOver_50 rfl y2 ?_
      refine go_lload_n (pc2 := 52) dX11_isOver_51 rfl rfl rfl ?_
      refine go_lcmp (pc2 := 53) dX11_isOver_52 rfl ?_
      refine go_if_eq (pc2 := 56) (tgt := 60) dX11_isOver_53 rfl (by decide) (fun c => ?_) (fun c => ?_)
      · have k := k.1 c
        refine go_iconst (pc2 := 61) (v := (0 : Int32)) dX11_isOver_60 rfl (by decide) ?_
        exact go_iret dX11_isOver_61 ⟨_, rfl, rfl⟩ ⟨rfl, _, rfl, k⟩
      · have k := k.2 c
        refine go_iconst (pc2 := 57) (v := (1 : Int32)) dX11_isOver_56 rfl (by decide) ?_
        refine go_goto (tgt := 61) dX11_isOver_57 (by decide) ?_
        exact go_iret dX11_isOver_61 ⟨_, rfl, rfl⟩ ⟨rfl, _, rfl, k⟩
theorem e_X11_comes {x1 : Int64} {h : Hp} {Q : Int32 → Hp → Prop}  (k : (((lg_cmp x1 (0 : Int64)) ≤ 0 → GoI 0 mX11_comes 22 [(0, .ref 113), (1, .long x1), (3, .long ((h.2 113 4) + x1))] [] h Q) ∧ (¬ ((lg_cmp x1 (0 : Int64)) ≤ 0) → (((lg_cmp ((h.2 113 4) + x1) (h.2 113 4)) < 0 → Q (1 : Int32) h) ∧ (¬ ((lg_cmp ((h.2 113 4) + x1) (h.2 113 4)) < 0) → GoI 0 mX11_comes 22 [(0, .ref 113), (1, .long x1), (3, .long ((h.2 113 4) + x1))] [] h Q))))) : CtI 0 mX11_comes [.ref 113, .long x1] h Q := by
  refine Ct.of (by decide +kernel) (Nat.le_of_ble_eq_true rfl) ?_
  show GoI 0 mX11_comes 0 [(0, .ref 113), (1, .long x1)] [] h Q
  refine go_aload_n (pc2 := 1) dX11_comes_0 rfl rfl rfl ?_
  refine gf_1060 (pc2 := 4) rfl dX11_comes_1 rfl c_113 fvl ?_
  refine go_lload_n (pc2 := 5) dX11_comes_4 rfl rfl rfl ?_
  refine go_ladd (pc2 := 6) dX11_comes_5 rfl ?_
  refine go_lstore_n (pc2 := 7) (ls2 := [(0, .ref 113), (1, .long x1), (3, .long ((h.2 113 4) + x1))]) dX11_comes_6 rfl rfl rfl rfl rfl rfl ?_
  refine go_lload_n (pc2 := 8) dX11_comes_7 rfl rfl rfl ?_
  refine go_lconst (pc2 := 9) (v := (0 : Int64)) dX11_comes_8 rfl (by decide) ?_
  refine go_lcmp (pc2 := 10) dX11_comes_9 rfl ?_
  refine go_if_le (pc2 := 13) (tgt := 22) dX11_comes_10 rfl (by decide) (fun c => ?_) (fun c => ?_)
  · have k := k.1 c
    exact k
  · have k := k.2 c
    refine go_lload_n (pc2 := 14) dX11_comes_13 rfl rfl rfl ?_
    refine go_aload_n (pc2 := 15) dX11_comes_14 rfl rfl rfl ?_
    refine gf_1060 (pc2 := 18) rfl dX11_comes_15 rfl c_113 fvl ?_
    refine go_lcmp (pc2 := 19) dX11_comes_18 rfl ?_
    refine go_if_lt (pc2 := 22) (tgt := 37) dX11_comes_19 rfl (by decide) (fun c => ?_) (fun c => ?_)
    · have k := k.1 c
      refine go_iconst (pc2 := 38) (v := (1 : Int32)) dX11_comes_37 rfl (by decide) ?_
      exact go_iret dX11_comes_38 ⟨_, rfl, rfl⟩ ⟨rfl, _, rfl, k⟩
    · have k := k.2 c
      exact k
theorem b_X11_comes_22 {x1 : Int64} {x3 : Int64} {h : Hp} {Q : Int32 → Hp → Prop}  (k : ((0 ≤ (lg_cmp x1 (0 : Int64)) → (∀ g1 : Hp, g1 = (ul h 113 4 x3) → Q (0 : Int32) g1)) ∧ (¬ (0 ≤ (lg_cmp x1 (0 : Int64))) → (((lg_cmp x3 (h.2 113 4)) ≤ 0 → (∀ g2 : Hp, g2 = (ul h 113 4 x3) → Q (0 : Int32) g2)) ∧ (¬ ((lg_cmp x3 (h.2 113 4)) ≤ 0) → Q (1 : Int32) h))))) : GoI 0 mX11_comes 22 [(0, .ref 113), (1, .long x1), (3, .long x3)] [] h Q := by
  refine go_lload_n (pc2 := 23) dX11_comes_22 rfl rfl rfl ?_
  refine go_lconst (pc2 := 24) (v := (0 : Int64)) dX11_comes_23 rfl (by decide) ?_
  refine go_lcmp (pc2 := 25) dX11_comes_24 rfl ?_
  refine go_if_ge (pc2 := 28) (tgt := 39) dX11_comes_25 rfl (by decide) (fun c => ?_) (fun c => ?_)
  · have k := k.1 c
    refine go_aload_n (pc2 := 40) dX11_comes_39 rfl rfl rfl ?_
    refine go_lload_n (pc2 := 41) dX11_comes_40 rfl rfl rfl ?_
    refine pf_1060 (pc2 := 44) rfl dX11_comes_41 rfl c_113 ?_
    obtain ⟨g1, eg1⟩ : ∃ y : Hp, y = (ul h 113 4 x3) := ⟨_, rfl⟩
    rw [← eg1]
    have k := k g1 eg1
    refine go_iconst (pc2 := 45) (v := (0 : Int32)) dX11_comes_44 rfl (by decide) ?_
    exact go_iret dX11_comes_45 ⟨_, rfl, rfl⟩ ⟨rfl, _, rfl, k⟩
  · have k := k.2 c
    refine go_lload_n (pc2 := 29) dX11_comes_28 rfl rfl rfl ?_
    refine go_aload_n (pc2 := 30) dX11_comes_29 rfl rfl rfl ?_
    refine gf_1060 (pc2 := 33) rfl dX11_comes_30 rfl c_113 fvl ?_
    refine go_lcmp (pc2 := 34) dX11_comes_33 rfl ?_
    refine go_if_le (pc2 := 37) (tgt := 39) dX11_comes_34 rfl (by decide) (fun c => ?_) (fun c => ?_)
    · have k := k.1 c
      refine go_aload_n (pc2 := 40) dX11_comes_39 rfl rfl rfl ?_
      refine go_lload_n (pc2 := 41) dX11_comes_40 rfl rfl rfl ?_
      refine pf_1060 (pc2 := 44) rfl dX11_comes_41 rfl c_113 ?_
      obtain ⟨g2, eg2⟩ : ∃ y : Hp, y = (ul h 113 4 x3) := ⟨_, rfl⟩
      rw [← eg2]
      have k := k g2 eg2
      refine go_iconst (pc2 := 45) (v := (0 : Int32)) dX11_comes_44 rfl (by decide) ?_
      exact go_iret dX11_comes_45 ⟨_, rfl, rfl⟩ ⟨rfl, _, rfl, k⟩
    · have k := k.2 c
      refine go_iconst (pc2 := 38) (v := (1 : Int32)) dX11_comes_37 rfl (by decide) ?_
      exact go_iret dX11_comes_38 ⟨_, rfl, rfl⟩ ⟨rfl, _, rfl, k⟩
theorem e_X11_pays {x1 : Int64} {x3 : Int64} {h : Hp} {Q : Int32 → Hp → Prop}  (k : (∃ Q1, CtI 0 mX11_isOver [.long x1, .long x3] h Q1 ∧ ∀ (v3 : Int32) (h4 : Hp), Q1 v3 h4 → ((¬ v3 = 0 → Q (-7 : Int32) h4) ∧ (v3 = 0 → (∃ Q6, CtI 0 mX11_comes [.ref 113, .long (x1 * x3)] h4 Q6 ∧ ∀ (v8 : Int32) (h9 : Hp), Q6 v8 h9 → ((v8 = 0 → Q (1 : Int32) h9) ∧ (¬ v8 = 0 → Q (-7 : Int32) h9))))))) : CtI 1 mX11_pays [.ref 113, .long x1, .long x3] h Q := by
  refine Ct.of (by decide +kernel) (Nat.le_of_ble_eq_true rfl) ?_
  show GoI 1 mX11_pays 0 [(0, .ref 113), (1, .long x1), (3, .long x3)] [] h Q
  refine go_lload_n (pc2 := 1) dX11_pays_0 rfl rfl rfl ?_
  refine go_lload_n (pc2 := 2) dX11_pays_1 rfl rfl rfl ?_
  obtain ⟨Q1, hC2, k⟩ := k
  refine gcS_I (pc2 := 5) (dC := 0) (As := [.long x1, .long x3]) (st := []) rfl dX11_pays_2 rfl w_1535 ok_X11_isOver w_1536 rfl (by decide) (Nat.le_of_ble_eq_true rfl) hC2 (fun v3 h4 hq5 => ?_)
  have k := k v3 h4 hq5
  refine go_if_ne (pc2 := 8) (tgt := 18) dX11_pays_5 rfl (by decide) (fun c => ?_) (fun c => ?_)
  · have k := k.1 c
    refine go_bipush (pc2 := 20) (v := (-7 : Int32)) dX11_pays_18 rfl (by decide) ?_
    refine go_goto (tgt := 24) dX11_pays_20 (by decide) ?_
    exact go_iret dX11_pays_24 ⟨_, rfl, rfl⟩ ⟨rfl, _, rfl, k⟩
  · have k := k.2 c
    refine go_aload_n (pc2 := 9) dX11_pays_8 rfl rfl rfl ?_
    refine go_lload_n (pc2 := 10) dX11_pays_9 rfl rfl rfl ?_
    refine go_lload_n (pc2 := 11) dX11_pays_10 rfl rfl rfl ?_
    refine go_lmul (pc2 := 12) dX11_pays_11 rfl ?_
    obtain ⟨Q6, hC7, k⟩ := k
    refine gcV_I (pc2 := 15) (dC := 0) (As := [.long (x1 * x3)]) (st := []) rfl dX11_pays_12 rfl w_1540 ok_X11_comes vi_X11_comes c_113 (by decide) rfl rfl rfl (by decide) (Nat.le_of_ble_eq_true rfl) hC7 (fun v8 h9 hq10 => ?_)
    have k := k v8 h9 hq10
    refine go_if_eq (pc2 := 18) (tgt := 23) dX11_pays_15 rfl (by decide) (fun c => ?_) (fun c => ?_)
    · have k := k.1 c
      refine go_iconst (pc2 := 24) (v := (1 : Int32)) dX11_pays_23 rfl (by decide) ?_
      exact go_iret dX11_pays_24 ⟨_, rfl, rfl⟩ ⟨rfl, _, rfl, k⟩
    · have k := k.2 c
      refine go_bipush (pc2 := 20) (v := (-7 : Int32)) dX11_pays_18 rfl (by decide) ?_
      refine go_goto (tgt := 24) dX11_pays_20 (by decide) ?_
      exact go_iret dX11_pays_24 ⟨_, rfl, rfl⟩ ⟨rfl, _, rfl, k⟩
theorem e_X11_purse  {h : Hp} {Q : Int64 → Hp → Prop}  (k : Q (h.2 113 4) h) : CtL 0 mX11_purse [.ref 113] h Q := by
  refine Ct.of (by decide +kernel) (Nat.le_of_ble_eq_true rfl) ?_
  show GoL 0 mX11_purse 0 [(0, .ref 113)] [] h Q
  refine go_aload_n (pc2 := 1) dX11_purse_0 rfl rfl rfl ?_
  refine gf_1060 (pc2 := 4) rfl dX11_purse_1 rfl c_113 fvl ?_
  exact go_lret dX11_purse_4 rfl ⟨rfl, _, rfl, k⟩
theorem e_X11_bills {x1 : Int32} {h : Hp} {Q : Int32 → Hp → Prop}  (k : (∃ Q1, CtI 7 mX11_bests [.ref 113] h Q1 ∧ ∀ (v3 : Int32) (h4 : Hp), Q1 v3 h4 → ((¬ v3 = (-9 : Int32) → (∃ Q6, CtI 0 mX11_comes [.ref 113, .long (-((v3).toInt64 * (x1).toInt64))] h4 Q6 ∧ ∀ (v8 : Int32) (h9 : Hp), Q6 v8 h9 → Q (if v8 = 0 then (1 : Int32) else (-7 : Int32)) h9)) ∧ (v3 = (-9 : Int32) → (∃ Q11, CtI 0 mX11_no [.ref 113, .int (-3 : Int32)] h4 Q11 ∧ ∀ (v13 : Int32) (h14 : Hp), Q11 v13 h14 → Q v13 h14))))) : CtI 8 mX11_bills [.ref 113, .int x1] h Q := by
  refine Ct.of (by decide +kernel) (Nat.le_of_ble_eq_true rfl) ?_
  show GoI 8 mX11_bills 0 [(0, .ref 113), (1, .int x1)] [] h Q
  refine go_aload_n (pc2 := 1) dX11_bills_0 rfl rfl rfl ?_
  obtain ⟨Q1, hC2, k⟩ := k
  refine gcV_I (pc2 := 4) (dC := 7) (As := []) (st := []) rfl dX11_bills_1 rfl w_1329 ok_X11_bests vi_X11_bests c_113 (by decide) rfl rfl rfl (by decide) (Nat.le_of_ble_eq_true rfl) hC2 (fun v3 h4 hq5 => ?_)
  have k := k v3 h4 hq5
  refine go_istore_n (pc2 := 5) (ls2 := [(0, .ref 113), (1, .int x1), (2, .int v3)]) dX11_bills_4 rfl rfl rfl rfl rfl rfl ?_
  refine go_iload_n (pc2 := 6) dX11_bills_5 rfl rfl rfl ?_
  refine go_bipush (pc2 := 8) (v := (-9 : Int32)) dX11_bills_6 rfl (by decide) ?_
  refine go_icmp_ne (pc2 := 11) (tgt := 18) dX11_bills_8 rfl (by decide) (fun c => ?_) (fun c => ?_)
  · have k := k.1 c
    refine go_aload_n (pc2 := 19) dX11_bills_18 rfl rfl rfl ?_
    refine go_iload_n (pc2 := 20) dX11_bills_19 rfl rfl rfl ?_
    refine go_i2l (pc2 := 21) dX11_bills_20 rfl ?_
    refine go_iload_n (pc2 := 22) dX11_bills_21 rfl rfl rfl ?_
    refine go_i2l (pc2 := 23) dX11_bills_22 rfl ?_
    refine go_lmul (pc2 := 24) dX11_bills_23 rfl ?_
    refine go_lneg (pc2 := 25) dX11_bills_24 rfl ?_
    obtain ⟨Q6, hC7, k⟩ := k
    refine gcV_I (pc2 := 28) (dC := 0) (As := [.long (-((v3).toInt64 * (x1).toInt64))]) (st := []) rfl dX11_bills_25 rfl w_1540 ok_X11_comes vi_X11_comes c_113 (by decide) rfl rfl rfl (by decide) (Nat.le_of_ble_eq_true rfl) hC7 (fun v8 h9 hq10 => ?_)
    have k := k v8 h9 hq10
    have J : GoI 8 mX11_bills 37 [(0, .ref 113), (1, .int x1), (2, .int v3)] [.int (if v8 = 0 then (1 : Int32) else (-7 : Int32))] h9 Q := by
      exact go_iret dX11_bills_37 ⟨_, rfl, rfl⟩ ⟨rfl, _, rfl, k⟩
    refine go_if_eq (pc2 := 31) (tgt := 36) dX11_bills_28 rfl (by decide) (fun c => ?_) (fun c => ?_)
    · rw [if_pos c] at J
      exact go_iconst (pc2 := 37) dX11_bills_36 rfl (by decide) J
    · rw [if_neg c] at J
      exact go_bipush (pc2 := 33) dX11_bills_31 rfl (by decide) (go_goto (tgt := 37) dX11_bills_33 (by decide) J)
  · have k := k.2 c
    refine go_aload_n (pc2 := 12) dX11_bills_11 rfl rfl rfl ?_
    refine go_bipush (pc2 := 14) (v := (-3 : Int32)) dX11_bills_12 rfl (by decide) ?_
    obtain ⟨Q11, hC12, k⟩ := k
    refine gcV_I (pc2 := 17) (dC := 0) (As := [.int (-3 : Int32)]) (st := []) rfl dX11_bills_14 rfl w_1161 ok_X11_no vi_X11_no c_113 (by decide) rfl rfl rfl (by decide) (Nat.le_of_ble_eq_true rfl) hC12 (fun v13 h14 hq15 => ?_)
    have k := k v13 h14 hq15
    exact go_iret dX11_bills_17 ⟨_, rfl, rfl⟩ ⟨rfl, _, rfl, k⟩
theorem e_X11_isRack {x0 : Int32} {h : Hp} {Q : Int32 → Hp → Prop}  (k : (∃ Q1, CtI 0 mX11_isIn [.long (x0).toInt64, .long (0 : Int64), .long (2 : Int64)] h Q1 ∧ ∀ (v3 : Int32) (h4 : Hp), Q1 v3 h4 → (v3 &&& 1 = v3 ∧ Q v3 h4))) : CtI 1 mX11_isRack [.int x0] h Q := by
  refine Ct.of (by decide +kernel) (Nat.le_of_ble_eq_true rfl) ?_
  show GoI 1 mX11_isRack 0 [(0, .int x0)] [] h Q
  refine go_iload_n (pc2 := 1) dX11_isRack_0 rfl rfl rfl ?_
  refine go_i2l (pc2 := 2) dX11_isRack_1 rfl ?_
  refine go_lconst (pc2 := 3) (v := (0 : Int64)) dX11_isRack_2 rfl (by decide) ?_
  refine go_ldc2 (pc2 := 6) dX11_isRack_3 rfl rfl w_1244 ?_
  obtain ⟨Q1, hC2, k⟩ := k
  refine gcS_I (pc2 := 9) (dC := 0) (As := [.long (x0).toInt64, .long (0 : Int64), .long (2 : Int64)]) (st := []) rfl dX11_isRack_6 rfl w_1177 ok_X11_isIn w_1178 rfl (by decide) (Nat.le_of_ble_eq_true rfl) hC2 (fun v3 h4 hq5 => ?_)
  have k := k v3 h4 hq5
  obtain ⟨y6, k⟩ := k
  exact go_iret dX11_isRack_9 ⟨_, rfl, congrArg Value.int y6⟩ ⟨rfl, _, rfl, k⟩
theorem e_X11_placeOf {x0 : Int32} {x1 : Int32} {h : Hp} {Q : Int32 → Hp → Prop}  (k : Q ((3 : Int32) * (((9 : Int32) * x0) + x1)) h) : CtI 0 mX11_placeOf [.int x0, .int x1] h Q := by
  refine Ct.of (by decide +kernel) (Nat.le_of_ble_eq_true rfl) ?_
  show GoI 0 mX11_placeOf 0 [(0, .int x0), (1, .int x1)] [] h Q
  refine go_iconst (pc2 := 1) (v := (3 : Int32)) dX11_placeOf_0 rfl (by decide) ?_
  refine go_bipush (pc2 := 3) (v := (9 : Int32)) dX11_placeOf_1 rfl (by decide) ?_
  refine go_iload_n (pc2 := 4) dX11_placeOf_3 rfl rfl rfl ?_
  refine go_imul (pc2 := 5) dX11_placeOf_4 rfl ?_
  refine go_iload_n (pc2 := 6) dX11_placeOf_5 rfl rfl rfl ?_
  refine go_iadd (pc2 := 7) dX11_placeOf_6 rfl ?_
  refine go_imul (pc2 := 8) dX11_placeOf_7 rfl ?_
  exact go_iret dX11_placeOf_8 ⟨_, rfl, rfl⟩ ⟨rfl, _, rfl, k⟩
theorem e_X11_rack {x1 : Int32} {x2 : Int32} {x3 : Int32} {h : Hp} {Q : Int32 → Hp → Prop}  (k : (∃ Q1, CtI 1 mX11_isRack [.int x1] h Q1 ∧ ∀ (v3 : Int32) (h4 : Hp), Q1 v3 h4 → ((¬ v3 = 0 → (∃ Q6, CtI 0 mX11_isIn [.long (x2).toInt64, .long (0 : Int64), .long (5 : Int64)] h4 Q6 ∧ ∀ (v8 : Int32) (h9 : Hp), Q6 v8 h9 → ((¬ v8 = 0 → ((x3 ≤ (9 : Int32) → ((0 ≤ x3 → (vp_in x1 3 ∧ (∀ g12 : Hp, g12 = (ui h9 131 (x1).toNatClampNeg x2) → (vp_in x1 3 ∧ (∀ g14 : Hp, g14 = (ui g12 132 (x1).toNatClampNeg x3) → GoI 2 mX11_rack 69 [(0, .ref 113), (1, .int x1), (4, .int (0 : Int32))] [] g14 Q))))) ∧ (¬ (0 ≤ x3) → Q (-14 : Int32) h9))) ∧ (¬ (x3 ≤ (9 : Int32)) → (∃ Q15, CtI 0 mX11_no [.ref 113, .int (-6 : Int32)] h9 Q15 ∧ ∀ (v17 : Int32) (h18 : Hp), Q15 v17 h18 → Q v17 h18)))) ∧ (v8 = 0 → (∃ Q20, CtI 0 mX11_no [.ref 113, .int (-2 : Int32)] h9 Q20 ∧ ∀ (v22 : Int32) (h23 : Hp), Q20 v22 h23 → Q v22 h23))))) ∧ (v3 = 0 → (∃ Q25, CtI 0 mX11_no [.ref 113, .int (-1 : Int32)] h4 Q25 ∧ ∀ (v27 : Int32) (h28 : Hp), Q25 v27 h28 → Q v27 h28))))) : CtI 2 mX11_rack [.ref 113, .int x1, .int x2, .int x3] h Q := by
  refine Ct.of (by decide +kernel) (Nat.le_of_ble_eq_true rfl) ?_
  show GoI 2 mX11_rack 0 [(0, .ref 113), (1, .int x1), (2, .int x2), (3, .int x3)] [] h Q
  refine go_iload_n (pc2 := 1) dX11_rack_0 rfl rfl rfl ?_
  obtain ⟨Q1, hC2, k⟩ := k
  refine gcS_I (pc2 := 4) (dC := 1) (As := [.int x1]) (st := []) rfl dX11_rack_1 rfl w_1556 ok_X11_isRack w_1557 rfl (by decide) (Nat.le_of_ble_eq_true rfl) hC2 (fun v3 h4 hq5 => ?_)
  have k := k v3 h4 hq5
  refine go_if_ne (pc2 := 7) (tgt := 13) dX11_rack_4 rfl (by decide) (fun c => ?_) (fun c => ?_)
  · have k := k.1 c
    refine go_iload_n (pc2 := 14) dX11_rack_13 rfl rfl rfl ?_
    refine go_i2l (pc2 := 15) dX11_rack_14 rfl ?_
    refine go_lconst (pc2 := 16) (v := (0 : Int64)) dX11_rack_15 rfl (by decide) ?_
    refine go_ldc2 (pc2 := 19) dX11_rack_16 rfl rfl w_1191 ?_
    obtain ⟨Q6, hC7, k⟩ := k
    refine gcS_I (pc2 := 22) (dC := 0) (As := [.long (x2).toInt64, .long (0 : Int64), .long (5 : Int64)]) (st := []) rfl dX11_rack_19 rfl w_1177 ok_X11_isIn w_1178 rfl (by decide) (Nat.le_of_ble_eq_true rfl) hC7 (fun v8 h9 hq10 => ?_)
    have k := k v8 h9 hq10
    refine go_if_ne (pc2 := 25) (tgt := 32) dX11_rack_22 rfl (by decide) (fun c => ?_) (fun c => ?_)
    · have k := k.1 c
      refine go_iload_n (pc2 := 33) dX11_rack_32 rfl rfl rfl ?_
      refine go_bipush (pc2 := 35) (v := (9 : Int32)) dX11_rack_33 rfl (by decide) ?_
      refine go_icmp_le (pc2 := 38) (tgt := 45) dX11_rack_35 rfl (by decide) (fun c => ?_) (fun c => ?_)
      · have k := k.1 c
        refine go_iload_n (pc2 := 46) dX11_rack_45 rfl rfl rfl ?_
        refine go_if_ge (pc2 := 49) (tgt := 52) dX11_rack_46 rfl (by decide) (fun c => ?_) (fun c => ?_)
        · have k := k.1 c
          refine go_aload_n (pc2 := 53) dX11_rack_52 rfl rfl rfl ?_
          refine gf_1078 (pc2 := 56) rfl dX11_rack_53 rfl c_113 (fvs r_113_22) ?_
          refine go_iload_n (pc2 := 57) dX11_rack_56 rfl rfl rfl ?_
          refine go_iload_n (pc2 := 58) dX11_rack_57 rfl rfl rfl ?_
          obtain ⟨y11, k⟩ := k
          refine go_iastore (pc2 := 59) (j := (x1).toNatClampNeg) dX11_rack_58 rfl c_131 y11 rfl ?_
          obtain ⟨g12, eg12⟩ : ∃ y : Hp, y = (ui h9 131 (x1).toNatClampNeg x2) := ⟨_, rfl⟩
          rw [← eg12]
          have k := k g12 eg12
          refine go_aload_n (pc2 := 60) dX11_rack_59 rfl rfl rfl ?_
          refine gf_1079 (pc2 := 63) rfl dX11_rack_60 rfl c_113 (fvs r_113_23) ?_
          refine go_iload_n (pc2 := 64) dX11_rack_63 rfl rfl rfl ?_
          refine go_iload_n (pc2 := 65) dX11_rack_64 rfl rfl rfl ?_
          obtain ⟨y13, k⟩ := k
          refine go_iastore (pc2 := 66) (j := (x1).toNatClampNeg) dX11_rack_65 rfl c_132 y13 rfl ?_
          obtain ⟨g14, eg14⟩ : ∃ y : Hp, y = (ui g12 132 (x1).toNatClampNeg x3) := ⟨_, rfl⟩
          rw [← eg14]
          have k := k g14 eg14
          refine go_iconst (pc2 := 67) (v := (0 : Int32)) dX11_rack_66 rfl (by decide) ?_
          refine go_istore (pc2 := 69) (ls2 := [(0, .ref 113), (1, .int x1), (2, .int x2), (3, .int x3), (4, .int (0 : Int32))]) dX11_rack_67 rfl rfl rfl rfl rfl ?_
          exact Go.pick [0, 1, 4] rfl k
        · have k := k.2 c
          refine go_bipush (pc2 := 51) (v := (-14 : Int32)) dX11_rack_49 rfl (by decide) ?_
          exact go_iret dX11_rack_51 ⟨_, rfl, rfl⟩ ⟨rfl, _, rfl, k⟩
      · have k := k.2 c
        refine go_aload_n (pc2 := 39) dX11_rack_38 rfl rfl rfl ?_
        refine go_bipush (pc2 := 41) (v := (-6 : Int32)) dX11_rack_39 rfl (by decide) ?_
        obtain ⟨Q15, hC16, k⟩ := k
        refine gcV_I (pc2 := 44) (dC := 0) (As := [.int (-6 : Int32)]) (st := []) rfl dX11_rack_41 rfl w_1161 ok_X11_no vi_X11_no c_113 (by decide) rfl rfl rfl (by decide) (Nat.le_of_ble_eq_true rfl) hC16 (fun v17 h18 hq19 => ?_)
        have k := k v17 h18 hq19
        exact go_iret dX11_rack_44 ⟨_, rfl, rfl⟩ ⟨rfl, _, rfl, k⟩
    · have k := k.2 c
      refine go_aload_n (pc2 := 26) dX11_rack_25 rfl rfl rfl ?_
      refine go_bipush (pc2 := 28) (v := (-2 : Int32)) dX11_rack_26 rfl (by decide) ?_
      obtain ⟨Q20, hC21, k⟩ := k
      refine gcV_I (pc2 := 31) (dC := 0) (As := [.int (-2 : Int32)]) (st := []) rfl dX11_rack_28 rfl w_1161 ok_X11_no vi_X11_no c_113 (by decide) rfl rfl rfl (by decide) (Nat.le_of_ble_eq_true rfl) hC21 (fun v22 h23 hq24 => ?_)
      have k := k v22 h23 hq24
      exact go_iret dX11_rack_31 ⟨_, rfl, rfl⟩ ⟨rfl, _, rfl, k⟩
  · have k := k.2 c
    refine go_aload_n (pc2 := 8) dX11_rack_7 rfl rfl rfl ?_
    refine go_iconst (pc2 := 9) (v := (-1 : Int32)) dX11_rack_8 rfl (by decide) ?_
    obtain ⟨Q25, hC26, k⟩ := k
    refine gcV_I (pc2 := 12) (dC := 0) (As := [.int (-1 : Int32)]) (st := []) rfl dX11_rack_9 rfl w_1161 ok_X11_no vi_X11_no c_113 (by decide) rfl rfl rfl (by decide) (Nat.le_of_ble_eq_true rfl) hC26 (fun v27 h28 hq29 => ?_)
    have k := k v27 h28 hq29
    exact go_iret dX11_rack_12 ⟨_, rfl, rfl⟩ ⟨rfl, _, rfl, k⟩
theorem b_X11_rack_69 {x1 : Int32} {x4 : Int32} {h : Hp} {Q : Int32 → Hp → Prop}  (k : (((9 : Int32) ≤ x4 → Q (1 : Int32) h) ∧ (¬ ((9 : Int32) ≤ x4) → (∃ Q1, CtI 0 mX11_placeOf [.int x1, .int x4] h Q1 ∧ ∀ (v3 : Int32) (h4 : Hp), Q1 v3 h4 → (vp_in v3 81 ∧ (∀ g7 : Hp, g7 = (ui h4 133 (v3).toNatClampNeg (-9 : Int32)) → GoI 2 mX11_rack 69 [(0, .ref 113), (1, .int x1), (4, .int (x4 + 1))] [] g7 Q)))))) : GoI 2 mX11_rack 69 [(0, .ref 113), (1, .int x1), (4, .int x4)] [] h Q := by
  refine go_iload (pc2 := 71) dX11_rack_69 rfl rfl ?_
  refine go_bipush (pc2 := 73) (v := (9 : Int32)) dX11_rack_71 rfl (by decide) ?_
  refine go_icmp_ge (pc2 := 76) (tgt := 95) dX11_rack_73 rfl (by decide) (fun c => ?_) (fun c => ?_)
  · have k := k.1 c
    refine go_iconst (pc2 := 96) (v := (1 : Int32)) dX11_rack_95 rfl (by decide) ?_
    exact go_iret dX11_rack_96 ⟨_, rfl, rfl⟩ ⟨rfl, _, rfl, k⟩
  · have k := k.2 c
    refine go_aload_n (pc2 := 77) dX11_rack_76 rfl rfl rfl ?_
    refine gf_1080 (pc2 := 80) rfl dX11_rack_77 rfl c_113 (fvs r_113_24) ?_
    refine go_iload_n (pc2 := 81) dX11_rack_80 rfl rfl rfl ?_
    refine go_iload (pc2 := 83) dX11_rack_81 rfl rfl ?_
    obtain ⟨Q1, hC2, k⟩ := k
    refine gcS_I (pc2 := 86) (dC := 0) (As := [.int x1, .int x4]) (st := [.ref 133]) rfl dX11_rack_83 rfl w_1559 ok_X11_placeOf w_1560 rfl (by decide) (Nat.le_of_ble_eq_true rfl) hC2 (fun v3 h4 hq5 => ?_)
    have k := k v3 h4 hq5
    refine go_bipush (pc2 := 88) (v := (-9 : Int32)) dX11_rack_86 rfl (by decide) ?_
    obtain ⟨y6, k⟩ := k
    refine go_iastore (pc2 := 89) (j := (v3).toNatClampNeg) dX11_rack_88 rfl c_133 y6 rfl ?_
    obtain ⟨g7, eg7⟩ : ∃ y : Hp, y = (ui h4 133 (v3).toNatClampNeg (-9 : Int32)) := ⟨_, rfl⟩
    rw [← eg7]
    have k := k g7 eg7
    refine go_iinc (pc2 := 92) (ls2 := [(0, .ref 113), (1, .int x1), (4, .int (x4 + 1))]) (v := (x4 + 1)) dX11_rack_89 rfl rfl rfl rfl rfl rfl rfl ?_
    refine go_goto (tgt := 69) dX11_rack_92 (by decide) ?_
    exact k
theorem e_X11_above {x0 : Int32} {h : Hp} {Q : Int32 → Hp → Prop}  (k : ((¬ x0 = (3 : Int32) → ((¬ x0 = (4 : Int32) → ((¬ x0 = (5 : Int32) → Q (0 : Int32) h) ∧ (x0 = (5 : Int32) → Q (3 : Int32) h))) ∧ (x0 = (4 : Int32) → Q (1 : Int32) h))) ∧ (x0 = (3 : Int32) → Q (2 : Int32) h))) : CtI 0 mX11_above [.int x0] h Q := by
  refine Ct.of (by decide +kernel) (Nat.le_of_ble_eq_true rfl) ?_
  show GoI 0 mX11_above 0 [(0, .int x0)] [] h Q
  refine go_iload_n (pc2 := 1) dX11_above_0 rfl rfl rfl ?_
  refine go_iconst (pc2 := 2) (v := (3 : Int32)) dX11_above_1 rfl (by decide) ?_
  refine go_icmp_ne (pc2 := 5) (tgt := 9) dX11_above_2 rfl (by decide) (fun c => ?_) (fun c => ?_)
  · have k := k.1 c
    refine go_iload_n (pc2 := 10) dX11_above_9 rfl rfl rfl ?_
    refine go_iconst (pc2 := 11) (v := (4 : Int32)) dX11_above_10 rfl (by decide) ?_
    refine go_icmp_ne (pc2 := 14) (tgt := 18) dX11_above_11 rfl (by decide) (fun c => ?_) (fun c => ?_)
    · have k := k.1 c
      refine go_iload_n (pc2 := 19) dX11_above_18 rfl rfl rfl ?_
      refine go_iconst (pc2 := 20) (v := (5 : Int32)) dX11_above_19 rfl (by decide) ?_
      refine go_icmp_ne (pc2 := 23) (tgt := 27) dX11_above_20 rfl (by decide) (fun c => ?_) (fun c => ?_)
      · have k := k.1 c
        refine go_iconst (pc2 := 28) (v := (0 : Int32)) dX11_above_27 rfl (by decide) ?_
        exact go_iret dX11_above_28 ⟨_, rfl, rfl⟩ ⟨rfl, _, rfl, k⟩
      · have k := k.2 c
        refine go_iconst (pc2 := 24) (v := (3 : Int32)) dX11_above_23 rfl (by decide) ?_
        refine go_goto (tgt := 28) dX11_above_24 (by decide) ?_
        exact go_iret dX11_above_28 ⟨_, rfl, rfl⟩ ⟨rfl, _, rfl, k⟩
    · have k := k.2 c
      refine go_iconst (pc2 := 15) (v := (1 : Int32)) dX11_above_14 rfl (by decide) ?_
      refine go_goto (tgt := 28) dX11_above_15 (by decide) ?_
      exact go_iret dX11_above_28 ⟨_, rfl, rfl⟩ ⟨rfl, _, rfl, k⟩
  · have k := k.2 c
    refine go_iconst (pc2 := 6) (v := (2 : Int32)) dX11_above_5 rfl (by decide) ?_
    refine go_goto (tgt := 28) dX11_above_6 (by decide) ?_
    exact go_iret dX11_above_28 ⟨_, rfl, rfl⟩ ⟨rfl, _, rfl, k⟩
theorem e_X11_isUnder {x0 : Int32} {x1 : Int32} {h : Hp} {Q : Int32 → Hp → Prop}  (k : GoI 1 mX11_isUnder 2 [(1, .int x1), (2, .int x0)] [] h Q) : CtI 1 mX11_isUnder [.int x0, .int x1] h Q := by
  refine Ct.of (by decide +kernel) (Nat.le_of_ble_eq_true rfl) ?_
  show GoI 1 mX11_isUnder 0 [(0, .int x0), (1, .int x1)] [] h Q
  refine go_iload_n (pc2 := 1) dX11_isUnder_0 rfl rfl rfl ?_
  refine go_istore_n (pc2 := 2) (ls2 := [(0, .int x0), (1, .int x1), (2, .int x0)]) dX11_isUnder_1 rfl rfl rfl rfl rfl rfl ?_
  exact Go.pick [1, 2] rfl k
theorem b_X11_isUnder_2 {x1 : Int32} {x2 : Int32} {h : Hp} {Q : Int32 → Hp → Prop}  (k : ((x2 = x1 → Q (if x2 = x1 then (1 : Int32) else (0 : Int32)) h) ∧ (¬ x2 = x1 → ((x2 = 0 → Q (if x2 = x1 then (1 : Int32) else (0 : Int32)) h) ∧ (¬ x2 = 0 → (∃ Q1, CtI 0 mX11_above [.int x2] h Q1 ∧ ∀ (v3 : Int32) (h4 : Hp), Q1 v3 h4 → GoI 1 mX11_isUnder 2 [(1, .int x1), (2, .int v3)] [] h4 Q)))))) : GoI 1 mX11_isUnder 2 [(1, .int x1), (2, .int x2)] [] h Q := by
  refine go_iload_n (pc2 := 3) dX11_isUnder_2 rfl rfl rfl ?_
  refine go_iload_n (pc2 := 4) dX11_isUnder_3 rfl rfl rfl ?_
  refine go_icmp_eq (pc2 := 7) (tgt := 19) dX11_isUnder_4 rfl (by decide) (fun c => ?_) (fun c => ?_)
  · have k := k.1 c
    refine go_iload_n (pc2 := 20) dX11_isUnder_19 rfl rfl rfl ?_
    refine go_iload_n (pc2 := 21) dX11_isUnder_20 rfl rfl rfl ?_
    have J : GoI 1 mX11_isUnder 29 [(1, .int x1), (2, .int x2)] [.int (if x2 = x1 then (1 : Int32) else (0 : Int32))] h Q := by
      exact go_iret dX11_isUnder_29 ⟨_, rfl, congrArg Value.int ite_b⟩ ⟨rfl, _, rfl, k⟩
    refine go_icmp_ne (pc2 := 24) (tgt := 28) dX11_isUnder_21 rfl (by decide) (fun c => ?_) (fun c => ?_)
    · rw [if_neg c] at J
      exact go_iconst (pc2 := 29) dX11_isUnder_28 rfl (by decide) J
    · rw [if_pos c] at J
      exact go_iconst (pc2 := 25) dX11_isUnder_24 rfl (by decide) (go_goto (tgt := 29) dX11_isUnder_25 (by decide) J)
  · have k := k.2 c
    refine go_iload_n (pc2 := 8) dX11_isUnder_7 rfl rfl rfl ?_
    refine go_if_eq (pc2 := 11) (tgt := 19) dX11_isUnder_8 rfl (by decide) (fun c => ?_) (fun c => ?_)
    · have k := k.1 c
      refine go_iload_n (pc2 := 20) dX11_isUnder_19 rfl rfl rfl ?_
      refine go_iload_n (pc2 := 21) dX11_isUnder_20 rfl rfl rfl ?_
      have J : GoI 1 mX11_isUnder 29 [(1, .int x1), (2, .int x2)] [.int (if x2 = x1 then (1 : Int32) else (0 : Int32))] h Q := by
        exact go_iret dX11_isUnder_29 ⟨_, rfl, congrArg Value.int ite_b⟩ ⟨rfl, _, rfl, k⟩
      refine go_icmp_ne (pc2 := 24) (tgt := 28) dX11_isUnder_21 rfl (by decide) (fun c => ?_) (fun c => ?_)
      · rw [if_neg c] at J
        exact go_iconst (pc2 := 29) dX11_isUnder_28 rfl (by decide) J
      · rw [if_pos c] at J
        exact go_iconst (pc2 := 25) dX11_isUnder_24 rfl (by decide) (go_goto (tgt := 29) dX11_isUnder_25 (by decide) J)
    · have k := k.2 c
      refine go_iload_n (pc2 := 12) dX11_isUnder_11 rfl rfl rfl ?_
      obtain ⟨Q1, hC2, k⟩ := k
      refine gcS_I (pc2 := 15) (dC := 0) (As := [.int x2]) (st := []) rfl dX11_isUnder_12 rfl w_1573 ok_X11_above w_1574 rfl (by decide) (Nat.le_of_ble_eq_true rfl) hC2 (fun v3 h4 hq5 => ?_)
      have k := k v3 h4 hq5
      refine go_istore_n (pc2 := 16) (ls2 := [(1, .int x1), (2, .int v3)]) dX11_isUnder_15 rfl rfl rfl rfl rfl rfl ?_
      refine go_goto (tgt := 2) dX11_isUnder_16 (by decide) ?_
      exact k
theorem e_X11_rackWrong {x1 : Int32} {x2 : Int32} {h : Hp} {Q : Int32 → Hp → Prop}  (k : (vp_in x1 3 ∧ ((¬ (h.1 131 (x1).toNatClampNeg) = (-9 : Int32) → (vp_in x1 3 ∧ (∃ Q3, CtI 0 mX11_isIn [.long (x2).toInt64, .long (0 : Int64), .long (((h.1 132 (x1).toNatClampNeg) - (1 : Int32))).toInt64] h Q3 ∧ ∀ (v5 : Int32) (h6 : Hp), Q3 v5 h6 → ((v5 = 0 → Q (-13 : Int32) h6) ∧ (¬ v5 = 0 → Q (0 : Int32) h6))))) ∧ ((h.1 131 (x1).toNatClampNeg) = (-9 : Int32) → Q (-11 : Int32) h)))) : CtI 1 mX11_rackWrong [.ref 113, .int x1, .int x2] h Q := by
  refine Ct.of (by decide +kernel) (Nat.le_of_ble_eq_true rfl) ?_
  show GoI 1 mX11_rackWrong 0 [(0, .ref 113), (1, .int x1), (2, .int x2)] [] h Q
  refine go_aload_n (pc2 := 1) dX11_rackWrong_0 rfl rfl rfl ?_
  refine gf_1078 (pc2 := 4) rfl dX11_rackWrong_1 rfl c_113 (fvs r_113_22) ?_
  refine go_iload_n (pc2 := 5) dX11_rackWrong_4 rfl rfl rfl ?_
  obtain ⟨y1, k⟩ := k
  refine go_iaload (pc2 := 6) (j := (x1).toNatClampNeg) dX11_rackWrong_5 rfl c_131 y1 rfl ?_
  refine go_bipush (pc2 := 8) (v := (-9 : Int32)) dX11_rackWrong_6 rfl (by decide) ?_
  refine go_icmp_ne (pc2 := 11) (tgt := 16) dX11_rackWrong_8 rfl (by decide) (fun c => ?_) (fun c => ?_)
  · have k := k.1 c
    refine go_iload_n (pc2 := 17) dX11_rackWrong_16 rfl rfl rfl ?_
    refine go_i2l (pc2 := 18) dX11_rackWrong_17 rfl ?_
    refine go_lconst (pc2 := 19) (v := (0 : Int64)) dX11_rackWrong_18 rfl (by decide) ?_
    refine go_aload_n (pc2 := 20) dX11_rackWrong_19 rfl rfl rfl ?_
    refine gf_1079 (pc2 := 23) rfl dX11_rackWrong_20 rfl c_113 (fvs r_113_23) ?_
    refine go_iload_n (pc2 := 24) dX11_rackWrong_23 rfl rfl rfl ?_
    obtain ⟨y2, k⟩ := k
    refine go_iaload (pc2 := 25) (j := (x1).toNatClampNeg) dX11_rackWrong_24 rfl c_132 y2 rfl ?_
    refine go_iconst (pc2 := 26) (v := (1 : Int32)) dX11_rackWrong_25 rfl (by decide) ?_
    refine go_isub (pc2 := 27) dX11_rackWrong_26 rfl ?_
    refine go_i2l (pc2 := 28) dX11_rackWrong_27 rfl ?_
    obtain ⟨Q3, hC4, k⟩ := k
    refine gcS_I (pc2 := 31) (dC := 0) (As := [.long (x2).toInt64, .long (0 : Int64), .long (((h.1 132 (x1).toNatClampNeg) - (1 : Int32))).toInt64]) (st := []) rfl dX11_rackWrong_28 rfl w_1177 ok_X11_isIn w_1178 rfl (by decide) (Nat.le_of_ble_eq_true rfl) hC4 (fun v5 h6 hq7 => ?_)
    have k := k v5 h6 hq7
    refine go_if_eq (pc2 := 34) (tgt := 38) dX11_rackWrong_31 rfl (by decide) (fun c => ?_) (fun c => ?_)
    · have k := k.1 c
      refine go_bipush (pc2 := 40) (v := (-13 : Int32)) dX11_rackWrong_38 rfl (by decide) ?_
      exact go_iret dX11_rackWrong_40 ⟨_, rfl, rfl⟩ ⟨rfl, _, rfl, k⟩
    · have k := k.2 c
      refine go_iconst (pc2 := 35) (v := (0 : Int32)) dX11_rackWrong_34 rfl (by decide) ?_
      refine go_goto (tgt := 40) dX11_rackWrong_35 (by decide) ?_
      exact go_iret dX11_rackWrong_40 ⟨_, rfl, rfl⟩ ⟨rfl, _, rfl, k⟩
  · have k := k.2 c
    refine go_bipush (pc2 := 13) (v := (-11 : Int32)) dX11_rackWrong_11 rfl (by decide) ?_
    refine go_goto (tgt := 40) dX11_rackWrong_13 (by decide) ?_
    exact go_iret dX11_rackWrong_40 ⟨_, rfl, rfl⟩ ⟨rfl, _, rfl, k⟩
theorem e_X11_racks {x1 : Int32} {x2 : Int32} {x3 : Int32} {h : Hp} {Q : Int32 → Hp → Prop}  (k : (∃ Q1, CtI 1 mX11_isRack [.int x1] h Q1 ∧ ∀ (v3 : Int32) (h4 : Hp), Q1 v3 h4 → ((v3 = 0 → (∃ Q6, CtI 0 mX11_no [.ref 113, .int (-1 : Int32)] h4 Q6 ∧ ∀ (v8 : Int32) (h9 : Hp), Q6 v8 h9 → Q v8 h9)) ∧ (¬ v3 = 0 → ((x3 = (-1 : Int32) → GoI 2 mX11_racks 26 [(0, .ref 113), (1, .int x1), (2, .int x2), (3, .int x3)] [] h4 Q) ∧ (¬ x3 = (-1 : Int32) → (∃ Q11, CtI 1 mX11_isPlant [.ref 113, .int x3] h4 Q11 ∧ ∀ (v13 : Int32) (h14 : Hp), Q11 v13 h14 → ((¬ v13 = 0 → GoI 2 mX11_racks 26 [(0, .ref 113), (1, .int x1), (2, .int x2), (3, .int x3)] [] h14 Q) ∧ (v13 = 0 → (∃ Q16, CtI 0 mX11_no [.ref 113, .int (-1 : Int32)] h14 Q16 ∧ ∀ (v18 : Int32) (h19 : Hp), Q16 v18 h19 → Q v18 h19)))))))))) : CtI 2 mX11_racks [.ref 113, .int x1, .int x2, .int x3] h Q := by
  refine Ct.of (by decide +kernel) (Nat.le_of_ble_eq_true rfl) ?_
  show GoI 2 mX11_racks 0 [(0, .ref 113), (1, .int x1), (2, .int x2), (3, .int x3)] [] h Q
  refine go_iload_n (pc2 := 1) dX11_racks_0 rfl rfl rfl ?_
  obtain ⟨Q1, hC2, k⟩ := k
  refine gcS_I (pc2 := 4) (dC := 1) (As := [.int x1]) (st := []) rfl dX11_racks_1 rfl w_1556 ok_X11_isRack w_1557 rfl (by decide) (Nat.le_of_ble_eq_true rfl) hC2 (fun v3 h4 hq5 => ?_)
  have k := k v3 h4 hq5
  refine go_if_eq (pc2 := 7) (tgt := 20) dX11_racks_4 rfl (by decide) (fun c => ?_) (fun c => ?_)
  · have k := k.1 c
    refine go_aload_n (pc2 := 21) dX11_racks_20 rfl rfl rfl ?_
    refine go_iconst (pc2 := 22) (v := (-1 : Int32)) dX11_racks_21 rfl (by decide) ?_
    obtain ⟨Q6, hC7, k⟩ := k
    refine gcV_I (pc2 := 25) (dC := 0) (As := [.int (-1 : Int32)]) (st := []) rfl dX11_racks_22 rfl w_1161 ok_X11_no vi_X11_no c_113 (by decide) rfl rfl rfl (by decide) (Nat.le_of_ble_eq_true rfl) hC7 (fun v8 h9 hq10 => ?_)
    have k := k v8 h9 hq10
    exact go_iret dX11_racks_25 ⟨_, rfl, rfl⟩ ⟨rfl, _, rfl, k⟩
  · have k := k.2 c
    refine go_iload_n (pc2 := 8) dX11_racks_7 rfl rfl rfl ?_
    refine go_iconst (pc2 := 9) (v := (-1 : Int32)) dX11_racks_8 rfl (by decide) ?_
    refine go_icmp_eq (pc2 := 12) (tgt := 26) dX11_racks_9 rfl (by decide) (fun c => ?_) (fun c => ?_)
    · have k := k.1 c
      exact k
    · have k := k.2 c
      refine go_aload_n (pc2 := 13) dX11_racks_12 rfl rfl rfl ?_
      refine go_iload_n (pc2 := 14) dX11_racks_13 rfl rfl rfl ?_
      obtain ⟨Q11, hC12, k⟩ := k
      refine gcV_I (pc2 := 17) (dC := 1) (As := [.int x3]) (st := []) rfl dX11_racks_14 rfl w_1208 ok_X11_isPlant vi_X11_isPlant c_113 (by decide) rfl rfl rfl (by decide) (Nat.le_of_ble_eq_true rfl) hC12 (fun v13 h14 hq15 => ?_)
      have k := k v13 h14 hq15
      refine go_if_ne (pc2 := 20) (tgt := 26) dX11_racks_17 rfl (by decide) (fun c => ?_) (fun c => ?_)
      · have k := k.1 c
        exact k
      · have k := k.2 c
        refine go_aload_n (pc2 := 21) dX11_racks_20 rfl rfl rfl ?_
        refine go_iconst (pc2 := 22) (v := (-1 : Int32)) dX11_racks_21 rfl (by decide) ?_
        obtain ⟨Q16, hC17, k⟩ := k
        refine gcV_I (pc2 := 25) (dC := 0) (As := [.int (-1 : Int32)]) (st := []) rfl dX11_racks_22 rfl w_1161 ok_X11_no vi_X11_no c_113 (by decide) rfl rfl rfl (by decide) (Nat.le_of_ble_eq_true rfl) hC17 (fun v18 h19 hq20 => ?_)
        have k := k v18 h19 hq20
        exact go_iret dX11_racks_25 ⟨_, rfl, rfl⟩ ⟨rfl, _, rfl, k⟩
theorem b_X11_racks_26 {x1 : Int32} {x2 : Int32} {x3 : Int32} {h : Hp} {Q : Int32 → Hp → Prop}  (k : (∃ Q1, CtI 1 mX11_rackWrong [.ref 113, .int x1, .int x2] h Q1 ∧ ∀ (v3 : Int32) (h4 : Hp), Q1 v3 h4 → ((v3 = 0 → ((x3 = (-1 : Int32) → GoI 2 mX11_racks 72 [(0, .ref 113), (1, .int x1), (2, .int x2), (3, .int x3)] [] h4 Q) ∧ (¬ x3 = (-1 : Int32) → (∃ Q6, CtI 0 mJ9_max_7cf53 [.int (0 : Int32), .int x3] h4 Q6 ∧ ∀ (v8 : Int32) (h9 : Hp), Q6 v8 h9 → (∃ Q11, CtI 0 mX11_of1 [.ref 113, .int v8, .int (0 : Int32)] h9 Q11 ∧ ∀ (v13 : Int32) (h14 : Hp), Q11 v13 h14 → (vp_in x1 3 ∧ (∃ Q17, CtI 1 mX11_isUnder [.int v13, .int (h14.1 131 (x1).toNatClampNeg)] h14 Q17 ∧ ∀ (v19 : Int32) (h20 : Hp), Q17 v19 h20 → ((¬ v19 = 0 → GoI 2 mX11_racks 72 [(0, .ref 113), (1, .int x1), (2, .int x2), (3, .int x3)] [] h20 Q) ∧ (v19 = 0 → Q (-16 : Int32) h20))))))))) ∧ (¬ v3 = 0 → Q v3 h4)))) : GoI 2 mX11_racks 26 [(0, .ref 113), (1, .int x1), (2, .int x2), (3, .int x3)] [] h Q := by
  refine go_aload_n (pc2 := 27) dX11_racks_26 rfl rfl rfl ?_
  refine go_iload_n (pc2 := 28) dX11_racks_27 rfl rfl rfl ?_
  refine go_iload_n (pc2 := 29) dX11_racks_28 rfl rfl rfl ?_
  obtain ⟨Q1, hC2, k⟩ := k
  refine gcV_I (pc2 := 32) (dC := 1) (As := [.int x1, .int x2]) (st := []) rfl dX11_racks_29 rfl w_1566 ok_X11_rackWrong vi_X11_rackWrong c_113 (by decide) rfl rfl rfl (by decide) (Nat.le_of_ble_eq_true rfl) hC2 (fun v3 h4 hq5 => ?_)
  have k := k v3 h4 hq5
  refine go_istore (pc2 := 34) (ls2 := [(0, .ref 113), (1, .int x1), (2, .int x2), (3, .int x3), (4, .int v3)]) dX11_racks_32 rfl rfl rfl rfl rfl ?_
  refine go_iload (pc2 := 36) dX11_racks_34 rfl rfl ?_
  refine go_if_eq (pc2 := 39) (tgt := 42) dX11_racks_36 rfl (by decide) (fun c => ?_) (fun c => ?_)
  · have k := k.1 c
    refine go_iload_n (pc2 := 43) dX11_racks_42 rfl rfl rfl ?_
    refine go_iconst (pc2 := 44) (v := (-1 : Int32)) dX11_racks_43 rfl (by decide) ?_
    refine go_icmp_eq (pc2 := 47) (tgt := 72) dX11_racks_44 rfl (by decide) (fun c => ?_) (fun c => ?_)
    · have k := k.1 c
      exact Go.pick [0, 1, 2, 3] rfl k
    · have k := k.2 c
      refine go_aload_n (pc2 := 48) dX11_racks_47 rfl rfl rfl ?_
      refine go_iconst (pc2 := 49) (v := (0 : Int32)) dX11_racks_48 rfl (by decide) ?_
      refine go_iload_n (pc2 := 50) dX11_racks_49 rfl rfl rfl ?_
      obtain ⟨Q6, hC7, k⟩ := k
      refine gcS_I (pc2 := 53) (dC := 0) (As := [.int (0 : Int32), .int x3]) (st := [.ref 113]) rfl dX11_racks_50 rfl w_1455 ok_J9_max_7cf53 w_666 rfl (by decide) (Nat.le_of_ble_eq_true rfl) hC7 (fun v8 h9 hq10 => ?_)
      have k := k v8 h9 hq10
      refine go_iconst (pc2 := 54) (v := (0 : Int32)) dX11_racks_53 rfl (by decide) ?_
      obtain ⟨Q11, hC12, k⟩ := k
      refine gcV_I (pc2 := 57) (dC := 0) (As := [.int v8, .int (0 : Int32)]) (st := []) rfl dX11_racks_54 rfl w_1212 ok_X11_of1 vi_X11_of1 c_113 (by decide) rfl rfl rfl (by decide) (Nat.le_of_ble_eq_true rfl) hC12 (fun v13 h14 hq15 => ?_)
      have k := k v13 h14 hq15
      refine go_aload_n (pc2 := 58) dX11_racks_57 rfl rfl rfl ?_
      refine gf_1078 (pc2 := 61) rfl dX11_racks_58 rfl c_113 (fvs r_113_22) ?_
      refine go_iload_n (pc2 := 62) dX11_racks_61 rfl rfl rfl ?_
      obtain ⟨y16, k⟩ := k
      refine go_iaload (pc2 := 63) (j := (x1).toNatClampNeg) dX11_racks_62 rfl c_131 y16 rfl ?_
      obtain ⟨Q17, hC18, k⟩ := k
      refine gcS_I (pc2 := 66) (dC := 1) (As := [.int v13, .int (h14.1 131 (x1).toNatClampNeg)]) (st := []) rfl dX11_racks_63 rfl w_1570 ok_X11_isUnder w_1571 rfl (by decide) (Nat.le_of_ble_eq_true rfl) hC18 (fun v19 h20 hq21 => ?_)
      have k := k v19 h20 hq21
      refine go_if_ne (pc2 := 69) (tgt := 72) dX11_racks_66 rfl (by decide) (fun c => ?_) (fun c => ?_)
      · have k := k.1 c
        exact Go.pick [0, 1, 2, 3] rfl k
      · have k := k.2 c
        refine go_bipush (pc2 := 71) (v := (-16 : Int32)) dX11_racks_69 rfl (by decide) ?_
        exact go_iret dX11_racks_71 ⟨_, rfl, rfl⟩ ⟨rfl, _, rfl, k⟩
  · have k := k.2 c
    refine go_iload (pc2 := 41) dX11_racks_39 rfl rfl ?_
    exact go_iret dX11_racks_41 ⟨_, rfl, rfl⟩ ⟨rfl, _, rfl, k⟩
theorem b_X11_racks_72 {x1 : Int32} {x2 : Int32} {x3 : Int32} {h : Hp} {Q : Int32 → Hp → Prop}  (k : (∃ Q1, CtI 0 mX11_placeOf [.int x1, .int x2] h Q1 ∧ ∀ (v3 : Int32) (h4 : Hp), Q1 v3 h4 → ((¬ x3 = (-1 : Int32) → (∃ Q6, CtI 0 mX11_of1 [.ref 113, .int x3, .int (0 : Int32)] h4 Q6 ∧ ∀ (v8 : Int32) (h9 : Hp), Q6 v8 h9 → GoI 2 mX11_racks 101 [(0, .ref 113), (3, .int x3), (5, .int v3)] [.int v8, .int v3, .ref 133] h9 Q)) ∧ (x3 = (-1 : Int32) → GoI 2 mX11_racks 101 [(0, .ref 113), (3, .int x3), (5, .int v3)] [.int (-9 : Int32), .int v3, .ref 133] h4 Q)))) : GoI 2 mX11_racks 72 [(0, .ref 113), (1, .int x1), (2, .int x2), (3, .int x3)] [] h Q := by
  refine go_iload_n (pc2 := 73) dX11_racks_72 rfl rfl rfl ?_
  refine go_iload_n (pc2 := 74) dX11_racks_73 rfl rfl rfl ?_
  obtain ⟨Q1, hC2, k⟩ := k
  refine gcS_I (pc2 := 77) (dC := 0) (As := [.int x1, .int x2]) (st := []) rfl dX11_racks_74 rfl w_1559 ok_X11_placeOf w_1560 rfl (by decide) (Nat.le_of_ble_eq_true rfl) hC2 (fun v3 h4 hq5 => ?_)
  have k := k v3 h4 hq5
  refine go_istore (pc2 := 79) (ls2 := [(0, .ref 113), (1, .int x1), (2, .int x2), (3, .int x3), (5, .int v3)]) dX11_racks_77 rfl rfl rfl rfl rfl ?_
  refine go_aload_n (pc2 := 80) dX11_racks_79 rfl rfl rfl ?_
  refine gf_1080 (pc2 := 83) rfl dX11_racks_80 rfl c_113 (fvs r_113_24) ?_
  refine go_iload (pc2 := 85) dX11_racks_83 rfl rfl ?_
  refine go_iload_n (pc2 := 86) dX11_racks_85 rfl rfl rfl ?_
  refine go_iconst (pc2 := 87) (v := (-1 : Int32)) dX11_racks_86 rfl (by decide) ?_
  refine go_icmp_ne (pc2 := 90) (tgt := 95) dX11_racks_87 rfl (by decide) (fun c => ?_) (fun c => ?_)
  · have k := k.1 c
    refine go_aload_n (pc2 := 96) dX11_racks_95 rfl rfl rfl ?_
    refine go_iload_n (pc2 := 97) dX11_racks_96 rfl rfl rfl ?_
    refine go_iconst (pc2 := 98) (v := (0 : Int32)) dX11_racks_97 rfl (by decide) ?_
    obtain ⟨Q6, hC7, k⟩ := k
    refine gcV_I (pc2 := 101) (dC := 0) (As := [.int x3, .int (0 : Int32)]) (st := [.int v3, .ref 133]) rfl dX11_racks_98 rfl w_1212 ok_X11_of1 vi_X11_of1 c_113 (by decide) rfl rfl rfl (by decide) (Nat.le_of_ble_eq_true rfl) hC7 (fun v8 h9 hq10 => ?_)
    have k := k v8 h9 hq10
    exact Go.pick [0, 3, 4] rfl k
  · have k := k.2 c
    refine go_bipush (pc2 := 92) (v := (-9 : Int32)) dX11_racks_90 rfl (by decide) ?_
    refine go_goto (tgt := 101) dX11_racks_92 (by decide) ?_
    exact Go.pick [0, 3, 4] rfl k
theorem b_X11_racks_101 {x3 : Int32} {x5 : Int32} {s1 : Int32} {s2 : Int32} {h : Hp} {Q : Int32 → Hp → Prop}  (k : (vp_in s1 81 ∧ (∀ g2 : Hp, g2 = (ui h 133 (s1).toNatClampNeg s2) → ((¬ x3 = (-1 : Int32) → (∃ Q3, CtI 0 mX11_of1 [.ref 113, .int x3, .int (1 : Int32)] g2 Q3 ∧ ∀ (v5 : Int32) (h6 : Hp), Q3 v5 h6 → GoI 2 mX11_racks 125 [(0, .ref 113), (3, .int x3), (5, .int x5)] [.int v5, .int (x5 + (1 : Int32)), .ref 133] h6 Q)) ∧ (x3 = (-1 : Int32) → GoI 2 mX11_racks 125 [(0, .ref 113), (3, .int x3), (5, .int x5)] [.int (0 : Int32), .int (x5 + (1 : Int32)), .ref 133] g2 Q))))) : GoI 2 mX11_racks 101 [(0, .ref 113), (3, .int x3), (5, .int x5)] [.int s2, .int s1, .ref 133] h Q := by
  obtain ⟨y1, k⟩ := k
  refine go_iastore (pc2 := 102) (j := (s1).toNatClampNeg) dX11_racks_101 rfl c_133 y1 rfl ?_
  obtain ⟨g2, eg2⟩ : ∃ y : Hp, y = (ui h 133 (s1).toNatClampNeg s2) := ⟨_, rfl⟩
  rw [← eg2]
  have k := k g2 eg2
  refine go_aload_n (pc2 := 103) dX11_racks_102 rfl rfl rfl ?_
  refine gf_1080 (pc2 := 106) rfl dX11_racks_103 rfl c_113 (fvs r_113_24) ?_
  refine go_iload (pc2 := 108) dX11_racks_106 rfl rfl ?_
  refine go_iconst (pc2 := 109) (v := (1 : Int32)) dX11_racks_108 rfl (by decide) ?_
  refine go_iadd (pc2 := 110) dX11_racks_109 rfl ?_
  refine go_iload_n (pc2 := 111) dX11_racks_110 rfl rfl rfl ?_
  refine go_iconst (pc2 := 112) (v := (-1 : Int32)) dX11_racks_111 rfl (by decide) ?_
  refine go_icmp_ne (pc2 := 115) (tgt := 119) dX11_racks_112 rfl (by decide) (fun c => ?_) (fun c => ?_)
  · have k := k.1 c
    refine go_aload_n (pc2 := 120) dX11_racks_119 rfl rfl rfl ?_
    refine go_iload_n (pc2 := 121) dX11_racks_120 rfl rfl rfl ?_
    refine go_iconst (pc2 := 122) (v := (1 : Int32)) dX11_racks_121 rfl (by decide) ?_
    obtain ⟨Q3, hC4, k⟩ := k
    refine gcV_I (pc2 := 125) (dC := 0) (As := [.int x3, .int (1 : Int32)]) (st := [.int (x5 + (1 : Int32)), .ref 133]) rfl dX11_racks_122 rfl w_1212 ok_X11_of1 vi_X11_of1 c_113 (by decide) rfl rfl rfl (by decide) (Nat.le_of_ble_eq_true rfl) hC4 (fun v5 h6 hq7 => ?_)
    have k := k v5 h6 hq7
    exact k
  · have k := k.2 c
    refine go_iconst (pc2 := 116) (v := (0 : Int32)) dX11_racks_115 rfl (by decide) ?_
    refine go_goto (tgt := 125) dX11_racks_116 (by decide) ?_
    exact k
theorem b_X11_racks_125 {x3 : Int32} {x5 : Int32} {s1 : Int32} {s2 : Int32} {h : Hp} {Q : Int32 → Hp → Prop}  (k : (vp_in s1 81 ∧ (∀ g2 : Hp, g2 = (ui h 133 (s1).toNatClampNeg s2) → ((¬ x3 = (-1 : Int32) → (∃ Q3, CtI 0 mX11_of1 [.ref 113, .int x3, .int (6 : Int32)] g2 Q3 ∧ ∀ (v5 : Int32) (h6 : Hp), Q3 v5 h6 → (vp_in (x5 + (2 : Int32)) 81 ∧ (∀ g9 : Hp, g9 = (ui h6 133 ((x5 + (2 : Int32))).toNatClampNeg v5) → Q (1 : Int32) g9)))) ∧ (x3 = (-1 : Int32) → (vp_in (x5 + (2 : Int32)) 81 ∧ (∀ g11 : Hp, g11 = (ui g2 133 ((x5 + (2 : Int32))).toNatClampNeg (0 : Int32)) → Q (1 : Int32) g11))))))) : GoI 2 mX11_racks 125 [(0, .ref 113), (3, .int x3), (5, .int x5)] [.int s2, .int s1, .ref 133] h Q := by
  obtain ⟨y1, k⟩ := k
  refine go_iastore (pc2 := 126) (j := (s1).toNatClampNeg) dX11_racks_125 rfl c_133 y1 rfl ?_
  obtain ⟨g2, eg2⟩ : ∃ y : Hp, y = (ui h 133 (s1).toNatClampNeg s2) := ⟨_, rfl⟩
  rw [← eg2]
  have k := k g2 eg2
  refine go_aload_n (pc2 := 127) dX11_racks_126 rfl rfl rfl ?_
  refine gf_1080 (pc2 := 130) rfl dX11_racks_127 rfl c_113 (fvs r_113_24) ?_
  refine go_iload (pc2 := 132) dX11_racks_130 rfl rfl ?_
  refine go_iconst (pc2 := 133) (v := (2 : Int32)) dX11_racks_132 rfl (by decide) ?_
  refine go_iadd (pc2 := 134) dX11_racks_133 rfl ?_
  refine go_iload_n (pc2 := 135) dX11_racks_134 rfl rfl rfl ?_
  refine go_iconst (pc2 := 136) (v := (-1 : Int32)) dX11_racks_135 rfl (by decide) ?_
  refine go_icmp_ne (pc2 := 139) (tgt := 143) dX11_racks_136 rfl (by decide) (fun c => ?_) (fun c => ?_)
  · have k := k.1 c
    refine go_aload_n (pc2 := 144) dX11_racks_143 rfl rfl rfl ?_
    refine go_iload_n (pc2 := 145) dX11_racks_144 rfl rfl rfl ?_
    refine go_bipush (pc2 := 147) (v := (6 : Int32)) dX11_racks_145 rfl (by decide) ?_
    obtain ⟨Q3, hC4, k⟩ := k
    refine gcV_I (pc2 := 150) (dC := 0) (As := [.int x3, .int (6 : Int32)]) (st := [.int (x5 + (2 : Int32)), .ref 133]) rfl dX11_racks_147 rfl w_1212 ok_X11_of1 vi_X11_of1 c_113 (by decide) rfl rfl rfl (by decide) (Nat.le_of_ble_eq_true rfl) hC4 (fun v5 h6 hq7 => ?_)
    have k := k v5 h6 hq7
    obtain ⟨y8, k⟩ := k
    refine go_iastore (pc2 := 151) (j := ((x5 + (2 : Int32))).toNatClampNeg) dX11_racks_150 rfl c_133 y8 rfl ?_
    obtain ⟨g9, eg9⟩ : ∃ y : Hp, y = (ui h6 133 ((x5 + (2 : Int32))).toNatClampNeg v5) := ⟨_, rfl⟩
    rw [← eg9]
    have k := k g9 eg9
    refine go_iconst (pc2 := 152) (v := (1 : Int32)) dX11_racks_151 rfl (by decide) ?_
    exact go_iret dX11_racks_152 ⟨_, rfl, rfl⟩ ⟨rfl, _, rfl, k⟩
  · have k := k.2 c
    refine go_iconst (pc2 := 140) (v := (0 : Int32)) dX11_racks_139 rfl (by decide) ?_
    refine go_goto (tgt := 150) dX11_racks_140 (by decide) ?_
    obtain ⟨y10, k⟩ := k
    refine go_iastore (pc2 := 151) (j := ((x5 + (2 : Int32))).toNatClampNeg) dX11_racks_150 rfl c_133 y10 rfl ?_
    obtain ⟨g11, eg11⟩ : ∃ y : Hp, y = (ui g2 133 ((x5 + (2 : Int32))).toNatClampNeg (0 : Int32)) := ⟨_, rfl⟩
    rw [← eg11]
    have k := k g11 eg11
    refine go_iconst (pc2 := 152) (v := (1 : Int32)) dX11_racks_151 rfl (by decide) ?_
    exact go_iret dX11_racks_152 ⟨_, rfl, rfl⟩ ⟨rfl, _, rfl, k⟩
theorem e_X11_racked {x1 : Int32} {x2 : Int32} {x3 : Int32} {h : Hp} {Q : Int32 → Hp → Prop}  (k : (∃ Q1, CtI 1 mX11_isRack [.int x1] h Q1 ∧ ∀ (v3 : Int32) (h4 : Hp), Q1 v3 h4 → ((v3 = 0 → GoI 2 mX11_racked 18 [(0, .ref 113), (1, .int x1), (2, .int x2), (3, .int x3)] [.int (-1 : Int32)] h4 Q) ∧ (¬ v3 = 0 → (∃ Q6, CtI 0 mX11_wrongBy [.int x3, .int (1 : Int32), .int (9 : Int32)] h4 Q6 ∧ ∀ (v8 : Int32) (h9 : Hp), Q6 v8 h9 → GoI 2 mX11_racked 18 [(0, .ref 113), (1, .int x1), (2, .int x2), (3, .int x3)] [.int v8] h9 Q))))) : CtI 2 mX11_racked [.ref 113, .int x1, .int x2, .int x3] h Q := by
  refine Ct.of (by decide +kernel) (Nat.le_of_ble_eq_true rfl) ?_
  show GoI 2 mX11_racked 0 [(0, .ref 113), (1, .int x1), (2, .int x2), (3, .int x3)] [] h Q
  refine go_iload_n (pc2 := 1) dX11_racked_0 rfl rfl rfl ?_
  obtain ⟨Q1, hC2, k⟩ := k
  refine gcS_I (pc2 := 4) (dC := 1) (As := [.int x1]) (st := []) rfl dX11_racked_1 rfl w_1556 ok_X11_isRack w_1557 rfl (by decide) (Nat.le_of_ble_eq_true rfl) hC2 (fun v3 h4 hq5 => ?_)
  have k := k v3 h4 hq5
  refine go_if_eq (pc2 := 7) (tgt := 17) dX11_racked_4 rfl (by decide) (fun c => ?_) (fun c => ?_)
  · have k := k.1 c
    refine go_iconst (pc2 := 18) (v := (-1 : Int32)) dX11_racked_17 rfl (by decide) ?_
    exact k
  · have k := k.2 c
    refine go_iload_n (pc2 := 8) dX11_racked_7 rfl rfl rfl ?_
    refine go_iconst (pc2 := 9) (v := (1 : Int32)) dX11_racked_8 rfl (by decide) ?_
    refine go_bipush (pc2 := 11) (v := (9 : Int32)) dX11_racked_9 rfl (by decide) ?_
    obtain ⟨Q6, hC7, k⟩ := k
    refine gcS_I (pc2 := 14) (dC := 0) (As := [.int x3, .int (1 : Int32), .int (9 : Int32)]) (st := []) rfl dX11_racked_11 rfl w_1158 ok_X11_wrongBy w_1159 rfl (by decide) (Nat.le_of_ble_eq_true rfl) hC7 (fun v8 h9 hq10 => ?_)
    have k := k v8 h9 hq10
    refine go_goto (tgt := 18) dX11_racked_14 (by decide) ?_
    exact k
theorem b_X11_racked_18 {x1 : Int32} {x2 : Int32} {x3 : Int32} {s0 : Int32} {h : Hp} {Q : Int32 → Hp → Prop}  (k : ((s0 = 0 → (∃ Q1, CtI 1 mX11_rackWrong [.ref 113, .int x1, .int x2] h Q1 ∧ ∀ (v3 : Int32) (h4 : Hp), Q1 v3 h4 → ((v3 = 0 → (∃ Q6, CtI 0 mX11_placeOf [.int x1, .int x2] h4 Q6 ∧ ∀ (v8 : Int32) (h9 : Hp), Q6 v8 h9 → (vp_in v8 81 ∧ ((¬ (h9.1 133 (v8).toNatClampNeg) = (-9 : Int32) → (vp_in v8 81 ∧ (vp_in (v8 + (1 : Int32)) 81 ∧ (vp_in (v8 + (2 : Int32)) 81 ∧ (∃ Q15, CtI 0 mX11_startsBy [.int (h9.1 133 (v8).toNatClampNeg), .int (h9.1 133 ((v8 + (1 : Int32))).toNatClampNeg), .int (h9.1 133 ((v8 + (2 : Int32))).toNatClampNeg), .int x3] h9 Q15 ∧ ∀ (v17 : Int32) (h18 : Hp), Q15 v17 h18 → Q v17 h18))))) ∧ ((h9.1 133 (v8).toNatClampNeg) = (-9 : Int32) → Q (-9 : Int32) h9))))) ∧ (¬ v3 = 0 → Q v3 h4)))) ∧ (¬ s0 = 0 → (∃ Q20, CtI 0 mX11_no [.ref 113, .int s0] h Q20 ∧ ∀ (v22 : Int32) (h23 : Hp), Q20 v22 h23 → Q v22 h23)))) : GoI 2 mX11_racked 18 [(0, .ref 113), (1, .int x1), (2, .int x2), (3, .int x3)] [.int s0] h Q := by
  refine go_istore (pc2 := 20) (ls2 := [(0, .ref 113), (1, .int x1), (2, .int x2), (3, .int x3), (4, .int s0)]) dX11_racked_18 rfl rfl rfl rfl rfl ?_
  refine go_iload (pc2 := 22) dX11_racked_20 rfl rfl ?_
  refine go_if_eq (pc2 := 25) (tgt := 32) dX11_racked_22 rfl (by decide) (fun c => ?_) (fun c => ?_)
  · have k := k.1 c
    refine go_aload_n (pc2 := 33) dX11_racked_32 rfl rfl rfl ?_
    refine go_iload_n (pc2 := 34) dX11_racked_33 rfl rfl rfl ?_
    refine go_iload_n (pc2 := 35) dX11_racked_34 rfl rfl rfl ?_
    obtain ⟨Q1, hC2, k⟩ := k
    refine gcV_I (pc2 := 38) (dC := 1) (As := [.int x1, .int x2]) (st := []) rfl dX11_racked_35 rfl w_1566 ok_X11_rackWrong vi_X11_rackWrong c_113 (by decide) rfl rfl rfl (by decide) (Nat.le_of_ble_eq_true rfl) hC2 (fun v3 h4 hq5 => ?_)
    have k := k v3 h4 hq5
    refine go_istore (pc2 := 40) (ls2 := [(0, .ref 113), (1, .int x1), (2, .int x2), (3, .int x3), (4, .int v3)]) dX11_racked_38 rfl rfl rfl rfl rfl ?_
    refine go_iload (pc2 := 42) dX11_racked_40 rfl rfl ?_
    refine go_if_eq (pc2 := 45) (tgt := 48) dX11_racked_42 rfl (by decide) (fun c => ?_) (fun c => ?_)
    · have k := k.1 c
      refine go_iload_n (pc2 := 49) dX11_racked_48 rfl rfl rfl ?_
      refine go_iload_n (pc2 := 50) dX11_racked_49 rfl rfl rfl ?_
      obtain ⟨Q6, hC7, k⟩ := k
      refine gcS_I (pc2 := 53) (dC := 0) (As := [.int x1, .int x2]) (st := []) rfl dX11_racked_50 rfl w_1559 ok_X11_placeOf w_1560 rfl (by decide) (Nat.le_of_ble_eq_true rfl) hC7 (fun v8 h9 hq10 => ?_)
      have k := k v8 h9 hq10
      refine go_istore (pc2 := 55) (ls2 := [(0, .ref 113), (1, .int x1), (2, .int x2), (3, .int x3), (4, .int v3), (5, .int v8)]) dX11_racked_53 rfl rfl rfl rfl rfl ?_
      refine go_aload_n (pc2 := 56) dX11_racked_55 rfl rfl rfl ?_
      refine gf_1080 (pc2 := 59) rfl dX11_racked_56 rfl c_113 (fvs r_113_24) ?_
      refine go_iload (pc2 := 61) dX11_racked_59 rfl rfl ?_
      obtain ⟨y11, k⟩ := k
      refine go_iaload (pc2 := 62) (j := (v8).toNatClampNeg) dX11_racked_61 rfl c_133 y11 rfl ?_
      refine go_bipush (pc2 := 64) (v := (-9 : Int32)) dX11_racked_62 rfl (by decide) ?_
      refine go_icmp_ne (pc2 := 67) (tgt := 72) dX11_racked_64 rfl (by decide) (fun c => ?_) (fun c => ?_)
      · have k := k.1 c
        refine go_aload_n (pc2 := 73) dX11_racked_72 rfl rfl rfl ?_
        refine gf_1080 (pc2 := 76) rfl dX11_racked_73 rfl c_113 (fvs r_113_24) ?_
        refine go_iload (pc2 := 78) dX11_racked_76 rfl rfl ?_
        obtain ⟨y12, k⟩ := k
        refine go_iaload (pc2 := 79) (j := (v8).toNatClampNeg) dX11_racked_78 rfl c_133 y12 rfl ?_
        refine go_aload_n (pc2 := 80) dX11_racked_79 rfl rfl rfl ?_
        refine gf_1080 (pc2 := 83) rfl dX11_racked_80 rfl c_113 (fvs r_113_24) ?_
        refine go_iload (pc2 := 85) dX11_racked_83 rfl rfl ?_
        refine go_iconst (pc2 := 86) (v := (1 : Int32)) dX11_racked_85 rfl (by decide) ?_
        refine go_iadd (pc2 := 87) dX11_racked_86 rfl ?_
        obtain ⟨y13, k⟩ := k
        refine go_iaload (pc2 := 88) (j := ((v8 + (1 : Int32))).toNatClampNeg) dX11_racked_87 rfl c_133 y13 rfl ?_
        refine go_aload_n (pc2 := 89) dX11_racked_88 rfl rfl rfl ?_
        refine gf_1080 (pc2 := 92) rfl dX11_racked_89 rfl c_113 (fvs r_113_24) ?_
        refine go_iload (pc2 := 94) dX11_racked_92 rfl rfl ?_
        refine go_iconst (pc2 := 95) (v := (2 : Int32)) dX11_racked_94 rfl (by decide) ?_
        refine go_iadd (pc2 := 96) dX11_racked_95 rfl ?_
        obtain ⟨y14, k⟩ := k
        refine go_iaload (pc2 := 97) (j := ((v8 + (2 : Int32))).toNatClampNeg) dX11_racked_96 rfl c_133 y14 rfl ?_
        refine go_iload_n (pc2 := 98) dX11_racked_97 rfl rfl rfl ?_
        obtain ⟨Q15, hC16, k⟩ := k
        refine gcS_I (pc2 := 101) (dC := 0) (As := [.int (h9.1 133 (v8).toNatClampNeg), .int (h9.1 133 ((v8 + (1 : Int32))).toNatClampNeg), .int (h9.1 133 ((v8 + (2 : Int32))).toNatClampNeg), .int x3]) (st := []) rfl dX11_racked_98 rfl w_1267 ok_X11_startsBy w_1268 rfl (by decide) (Nat.le_of_ble_eq_true rfl) hC16 (fun v17 h18 hq19 => ?_)
        have k := k v17 h18 hq19
        exact go_iret dX11_racked_101 ⟨_, rfl, rfl⟩ ⟨rfl, _, rfl, k⟩
      · have k := k.2 c
        refine go_bipush (pc2 := 69) (v := (-9 : Int32)) dX11_racked_67 rfl (by decide) ?_
        refine go_goto (tgt := 101) dX11_racked_69 (by decide) ?_
        exact go_iret dX11_racked_101 ⟨_, rfl, rfl⟩ ⟨rfl, _, rfl, k⟩
    · have k := k.2 c
      refine go_iload (pc2 := 47) dX11_racked_45 rfl rfl ?_
      exact go_iret dX11_racked_47 ⟨_, rfl, rfl⟩ ⟨rfl, _, rfl, k⟩
  · have k := k.2 c
    refine go_aload_n (pc2 := 26) dX11_racked_25 rfl rfl rfl ?_
    refine go_iload (pc2 := 28) dX11_racked_26 rfl rfl ?_
    obtain ⟨Q20, hC21, k⟩ := k
    refine gcV_I (pc2 := 31) (dC := 0) (As := [.int s0]) (st := []) rfl dX11_racked_28 rfl w_1161 ok_X11_no vi_X11_no c_113 (by decide) rfl rfl rfl (by decide) (Nat.le_of_ble_eq_true rfl) hC21 (fun v22 h23 hq24 => ?_)
    have k := k v22 h23 hq24
    exact go_iret dX11_racked_31 ⟨_, rfl, rfl⟩ ⟨rfl, _, rfl, k⟩
theorem e_X11_like {x1 : Int32} {x2 : Int32} {h : Hp} {Q : Int32 → Hp → Prop}  (k : (∃ Q1, CtI 1 mX11_isRack [.int x1] h Q1 ∧ ∀ (v3 : Int32) (h4 : Hp), Q1 v3 h4 → ((v3 = 0 → (∃ Q6, CtI 0 mX11_no [.ref 113, .int (-1 : Int32)] h4 Q6 ∧ ∀ (v8 : Int32) (h9 : Hp), Q6 v8 h9 → Q v8 h9)) ∧ (¬ v3 = 0 → (∃ Q11, CtI 1 mX11_isRack [.int x2] h4 Q11 ∧ ∀ (v13 : Int32) (h14 : Hp), Q11 v13 h14 → ((¬ v13 = 0 → (vp_in x2 3 ∧ ((¬ (h14.1 131 (x2).toNatClampNeg) = (-9 : Int32) → (vp_in x2 3 ∧ (vp_in x1 3 ∧ (∀ g19 : Hp, g19 = (ui h14 131 (x1).toNatClampNeg (h14.1 131 (x2).toNatClampNeg)) → (vp_in x2 3 ∧ (vp_in x1 3 ∧ (∀ g22 : Hp, g22 = (ui g19 132 (x1).toNatClampNeg (g19.1 132 (x2).toNatClampNeg)) → (∃ Q23, CtI 0 mX11_placeOf [.int x2, .int (0 : Int32)] g22 Q23 ∧ ∀ (v25 : Int32) (h26 : Hp), Q23 v25 h26 → (∃ Q28, CtI 0 mX11_placeOf [.int x1, .int (0 : Int32)] h26 Q28 ∧ ∀ (v30 : Int32) (h31 : Hp), Q28 v30 h31 → ((¬ v25 < 0 ∧ ¬ v30 < 0 ∧ (v25).toNatClampNeg + 27 ≤ 81 ∧ (v30).toNatClampNeg + 27 ≤ 81) ∧ (∀ g34 : Hp, g34 = (uc h31 133 (va_cpy (h31.1 133) (h31.1 133) (v25).toNatClampNeg (v30).toNatClampNeg 27)) → (vp_in x1 3 ∧ Q (g34.1 132 (x1).toNatClampNeg) g34)))))))))))) ∧ ((h14.1 131 (x2).toNatClampNeg) = (-9 : Int32) → Q (-11 : Int32) h14)))) ∧ (v13 = 0 → (∃ Q36, CtI 0 mX11_no [.ref 113, .int (-1 : Int32)] h14 Q36 ∧ ∀ (v38 : Int32) (h39 : Hp), Q36 v38 h39 → Q v38 h39)))))))) : CtI 2 mX11_like [.ref 113, .int x1, .int x2] h Q := by
  refine Ct.of (by decide +kernel) (Nat.le_of_ble_eq_true rfl) ?_
  show GoI 2 mX11_like 0 [(0, .ref 113), (1, .int x1), (2, .int x2)] [] h Q
  refine go_iload_n (pc2 := 1) dX11_like_0 rfl rfl rfl ?_
  obtain ⟨Q1, hC2, k⟩ := k
  refine gcS_I (pc2 := 4) (dC := 1) (As := [.int x1]) (st := []) rfl dX11_like_1 rfl w_1556 ok_X11_isRack w_1557 rfl (by decide) (Nat.le_of_ble_eq_true rfl) hC2 (fun v3 h4 hq5 => ?_)
  have k := k v3 h4 hq5
  refine go_if_eq (pc2 := 7) (tgt := 14) dX11_like_4 rfl (by decide) (fun c => ?_) (fun c => ?_)
  · have k := k.1 c
    refine go_aload_n (pc2 := 15) dX11_like_14 rfl rfl rfl ?_
    refine go_iconst (pc2 := 16) (v := (-1 : Int32)) dX11_like_15 rfl (by decide) ?_
    obtain ⟨Q6, hC7, k⟩ := k
    refine gcV_I (pc2 := 19) (dC := 0) (As := [.int (-1 : Int32)]) (st := []) rfl dX11_like_16 rfl w_1161 ok_X11_no vi_X11_no c_113 (by decide) rfl rfl rfl (by decide) (Nat.le_of_ble_eq_true rfl) hC7 (fun v8 h9 hq10 => ?_)
    have k := k v8 h9 hq10
    exact go_iret dX11_like_19 ⟨_, rfl, rfl⟩ ⟨rfl, _, rfl, k⟩
  · have k := k.2 c
    refine go_iload_n (pc2 := 8) dX11_like_7 rfl rfl rfl ?_
    obtain ⟨Q11, hC12, k⟩ := k
    refine gcS_I (pc2 := 11) (dC := 1) (As := [.int x2]) (st := []) rfl dX11_like_8 rfl w_1556 ok_X11_isRack w_1557 rfl (by decide) (Nat.le_of_ble_eq_true rfl) hC12 (fun v13 h14 hq15 => ?_)
    have k := k v13 h14 hq15
    refine go_if_ne (pc2 := 14) (tgt := 20) dX11_like_11 rfl (by decide) (fun c => ?_) (fun c => ?_)
    · have k := k.1 c
      refine go_aload_n (pc2 := 21) dX11_like_20 rfl rfl rfl ?_
      refine gf_1078 (pc2 := 24) rfl dX11_like_21 rfl c_113 (fvs r_113_22) ?_
      refine go_iload_n (pc2 := 25) dX11_like_24 rfl rfl rfl ?_
      obtain ⟨y16, k⟩ := k
      refine go_iaload (pc2 := 26) (j := (x2).toNatClampNeg) dX11_like_25 rfl c_131 y16 rfl ?_
      refine go_bipush (pc2 := 28) (v := (-9 : Int32)) dX11_like_26 rfl (by decide) ?_
      refine go_icmp_ne (pc2 := 31) (tgt := 34) dX11_like_28 rfl (by decide) (fun c => ?_) (fun c => ?_)
      · have k := k.1 c
        refine go_aload_n (pc2 := 35) dX11_like_34 rfl rfl rfl ?_
        refine gf_1078 (pc2 := 38) rfl dX11_like_35 rfl c_113 (fvs r_113_22) ?_
        refine go_iload_n (pc2 := 39) dX11_like_38 rfl rfl rfl ?_
        refine go_aload_n (pc2 := 40) dX11_like_39 rfl rfl rfl ?_
        refine gf_1078 (pc2 := 43) rfl dX11_like_40 rfl c_113 (fvs r_113_22) ?_
        refine go_iload_n (pc2 := 44) dX11_like_43 rfl rfl rfl ?_
        obtain ⟨y17, k⟩ := k
        refine go_iaload (pc2 := 45) (j := (x2).toNatClampNeg) dX11_like_44 rfl c_131 y17 rfl ?_
        obtain ⟨y18, k⟩ := k
        refine go_iastore (pc2 := 46) (j := (x1).toNatClampNeg) dX11_like_45 rfl c_131 y18 rfl ?_
        obtain ⟨g19, eg19⟩ : ∃ y : Hp, y = (ui h14 131 (x1).toNatClampNeg (h14.1 131 (x2).toNatClampNeg)) := ⟨_, rfl⟩
        rw [← eg19]
        have k := k g19 eg19
        refine go_aload_n (pc2 := 47) dX11_like_46 rfl rfl rfl ?_
        refine gf_1079 (pc2 := 50) rfl dX11_like_47 rfl c_113 (fvs r_113_23) ?_
        refine go_iload_n (pc2 := 51) dX11_like_50 rfl rfl rfl ?_
        refine go_aload_n (pc2 := 52) dX11_like_51 rfl rfl rfl ?_
        refine gf_1079 (pc2 := 55) rfl dX11_like_52 rfl c_113 (fvs r_113_23) ?_
        refine go_iload_n (pc2 := 56) dX11_like_55 rfl rfl rfl ?_
        obtain ⟨y20, k⟩ := k
        refine go_iaload (pc2 := 57) (j := (x2).toNatClampNeg) dX11_like_56 rfl c_132 y20 rfl ?_
        obtain ⟨y21, k⟩ := k
        refine go_iastore (pc2 := 58) (j := (x1).toNatClampNeg) dX11_like_57 rfl c_132 y21 rfl ?_
        obtain ⟨g22, eg22⟩ : ∃ y : Hp, y = (ui g19 132 (x1).toNatClampNeg (g19.1 132 (x2).toNatClampNeg)) := ⟨_, rfl⟩
        rw [← eg22]
        have k := k g22 eg22
        refine go_aload_n (pc2 := 59) dX11_like_58 rfl rfl rfl ?_
        refine gf_1080 (pc2 := 62) rfl dX11_like_59 rfl c_113 (fvs r_113_24) ?_
        refine go_iload_n (pc2 := 63) dX11_like_62 rfl rfl rfl ?_
        refine go_iconst (pc2 := 64) (v := (0 : Int32)) dX11_like_63 rfl (by decide) ?_
        obtain ⟨Q23, hC24, k⟩ := k
        refine gcS_I (pc2 := 67) (dC := 0) (As := [.int x2, .int (0 : Int32)]) (st := [.ref 133]) rfl dX11_like_64 rfl w_1559 ok_X11_placeOf w_1560 rfl (by decide) (Nat.le_of_ble_eq_true rfl) hC24 (fun v25 h26 hq27 => ?_)
        have k := k v25 h26 hq27
        refine go_aload_n (pc2 := 68) dX11_like_67 rfl rfl rfl ?_
        refine gf_1080 (pc2 := 71) rfl dX11_like_68 rfl c_113 (fvs r_113_24) ?_
        refine go_iload_n (pc2 := 72) dX11_like_71 rfl rfl rfl ?_
        refine go_iconst (pc2 := 73) (v := (0 : Int32)) dX11_like_72 rfl (by decide) ?_
        obtain ⟨Q28, hC29, k⟩ := k
        refine gcS_I (pc2 := 76) (dC := 0) (As := [.int x1, .int (0 : Int32)]) (st := [.ref 133, .int v25, .ref 133]) rfl dX11_like_73 rfl w_1559 ok_X11_placeOf w_1560 rfl (by decide) (Nat.le_of_ble_eq_true rfl) hC29 (fun v30 h31 hq32 => ?_)
        have k := k v30 h31 hq32
        refine go_bipush (pc2 := 78) (v := (27 : Int32)) dX11_like_76 rfl (by decide) ?_
        obtain ⟨y33, k⟩ := k
        refine go_copyi (pc2 := 81) rfl dX11_like_78 rfl fin_w0 w_1449 w_431 w_430 w_13 (by decide) (Nat.le_of_ble_eq_true rfl) c_133 c_133 y33.1 y33.2.1 (by decide) rfl rfl (by decide : _ = 27) y33.2.2.1 y33.2.2.2 ?_
        obtain ⟨g34, eg34⟩ : ∃ y : Hp, y = (uc h31 133 (va_cpy (h31.1 133) (h31.1 133) (v25).toNatClampNeg (v30).toNatClampNeg 27)) := ⟨_, rfl⟩
        rw [← eg34]
        have k := k g34 eg34
        refine go_aload_n (pc2 := 82) dX11_like_81 rfl rfl rfl ?_
        refine gf_1079 (pc2 := 85) rfl dX11_like_82 rfl c_113 (fvs r_113_23) ?_
        refine go_iload_n (pc2 := 86) dX11_like_85 rfl rfl rfl ?_
        obtain ⟨y35, k⟩ := k
        refine go_iaload (pc2 := 87) (j := (x1).toNatClampNeg) dX11_like_86 rfl c_132 y35 rfl ?_
        exact go_iret dX11_like_87 ⟨_, rfl, rfl⟩ ⟨rfl, _, rfl, k⟩
      · have k := k.2 c
        refine go_bipush (pc2 := 33) (v := (-11 : Int32)) dX11_like_31 rfl (by decide) ?_
        exact go_iret dX11_like_33 ⟨_, rfl, rfl⟩ ⟨rfl, _, rfl, k⟩
    · have k := k.2 c
      refine go_aload_n (pc2 := 15) dX11_like_14 rfl rfl rfl ?_
      refine go_iconst (pc2 := 16) (v := (-1 : Int32)) dX11_like_15 rfl (by decide) ?_
      obtain ⟨Q36, hC37, k⟩ := k
      refine gcV_I (pc2 := 19) (dC := 0) (As := [.int (-1 : Int32)]) (st := []) rfl dX11_like_16 rfl w_1161 ok_X11_no vi_X11_no c_113 (by decide) rfl rfl rfl (by decide) (Nat.le_of_ble_eq_true rfl) hC37 (fun v38 h39 hq40 => ?_)
      have k := k v38 h39 hq40
      exact go_iret dX11_like_19 ⟨_, rfl, rfl⟩ ⟨rfl, _, rfl, k⟩
theorem e_X11_letter {x1 : Int32} {h : Hp} {Q : Int32 → Hp → Prop}  (k : (∃ Q1, CtI 0 mX11_wrongBy [.int x1, .int (0 : Int32), .int (255 : Int32)] h Q1 ∧ ∀ (v3 : Int32) (h4 : Hp), Q1 v3 h4 → ((¬ v3 = 0 → GoI 1 mX11_letter 25 [(0, .ref 113), (1, .int x1), (2, .int v3)] [] h4 Q) ∧ (v3 = 0 → ((¬ (h4.1 113 26) = (120 : Int32) → GoI 1 mX11_letter 25 [(0, .ref 113), (1, .int x1), (2, .int v3)] [] h4 Q) ∧ ((h4.1 113 26) = (120 : Int32) → GoI 1 mX11_letter 25 [(0, .ref 113), (1, .int x1), (2, .int (-6 : Int32))] [] h4 Q)))))) : CtI 1 mX11_letter [.ref 113, .int x1] h Q := by
  refine Ct.of (by decide +kernel) (Nat.le_of_ble_eq_true rfl) ?_
  show GoI 1 mX11_letter 0 [(0, .ref 113), (1, .int x1)] [] h Q
  refine go_iload_n (pc2 := 1) dX11_letter_0 rfl rfl rfl ?_
  refine go_iconst (pc2 := 2) (v := (0 : Int32)) dX11_letter_1 rfl (by decide) ?_
  refine go_sipush (pc2 := 5) (v := (255 : Int32)) dX11_letter_2 rfl (by decide) ?_
  obtain ⟨Q1, hC2, k⟩ := k
  refine gcS_I (pc2 := 8) (dC := 0) (As := [.int x1, .int (0 : Int32), .int (255 : Int32)]) (st := []) rfl dX11_letter_5 rfl w_1158 ok_X11_wrongBy w_1159 rfl (by decide) (Nat.le_of_ble_eq_true rfl) hC2 (fun v3 h4 hq5 => ?_)
  have k := k v3 h4 hq5
  refine go_istore_n (pc2 := 9) (ls2 := [(0, .ref 113), (1, .int x1), (2, .int v3)]) dX11_letter_8 rfl rfl rfl rfl rfl rfl ?_
  refine go_iload_n (pc2 := 10) dX11_letter_9 rfl rfl rfl ?_
  refine go_if_ne (pc2 := 13) (tgt := 25) dX11_letter_10 rfl (by decide) (fun c => ?_) (fun c => ?_)
  · have k := k.1 c
    exact k
  · have k := k.2 c
    refine go_aload_n (pc2 := 14) dX11_letter_13 rfl rfl rfl ?_
    refine gf_1082 (pc2 := 17) rfl dX11_letter_14 rfl c_113 fvi ?_
    refine go_bipush (pc2 := 19) (v := (120 : Int32)) dX11_letter_17 rfl (by decide) ?_
    refine go_icmp_ne (pc2 := 22) (tgt := 25) dX11_letter_19 rfl (by decide) (fun c => ?_) (fun c => ?_)
    · have k := k.1 c
      exact k
    · have k := k.2 c
      refine go_bipush (pc2 := 24) (v := (-6 : Int32)) dX11_letter_22 rfl (by decide) ?_
      refine go_istore_n (pc2 := 25) (ls2 := [(0, .ref 113), (1, .int x1), (2, .int (-6 : Int32))]) dX11_letter_24 rfl rfl rfl rfl rfl rfl ?_
      exact k
theorem b_X11_letter_25 {x1 : Int32} {x2 : Int32} {h : Hp} {Q : Int32 → Hp → Prop}  (k : ((x2 = 0 → (vp_in (h.1 113 26) 120 ∧ (∀ g2 : Hp, g2 = (ui h 134 ((h.1 113 26)).toNatClampNeg x1) → (∀ g3 : Hp, g3 = (ui g2 113 26 ((g2.1 113 26) + (1 : Int32))) → Q (g3.1 113 26) g3)))) ∧ (¬ x2 = 0 → (∃ Q4, CtI 0 mX11_no [.ref 113, .int x2] h Q4 ∧ ∀ (v6 : Int32) (h7 : Hp), Q4 v6 h7 → Q v6 h7)))) : GoI 1 mX11_letter 25 [(0, .ref 113), (1, .int x1), (2, .int x2)] [] h Q := by
  refine go_iload_n (pc2 := 26) dX11_letter_25 rfl rfl rfl ?_
  refine go_if_eq (pc2 := 29) (tgt := 35) dX11_letter_26 rfl (by decide) (fun c => ?_) (fun c => ?_)
  · have k := k.1 c
    refine go_aload_n (pc2 := 36) dX11_letter_35 rfl rfl rfl ?_
    refine gf_1081 (pc2 := 39) rfl dX11_letter_36 rfl c_113 (fvs r_113_25) ?_
    refine go_aload_n (pc2 := 40) dX11_letter_39 rfl rfl rfl ?_
    refine gf_1082 (pc2 := 43) rfl dX11_letter_40 rfl c_113 fvi ?_
    refine go_iload_n (pc2 := 44) dX11_letter_43 rfl rfl rfl ?_
    obtain ⟨y1, k⟩ := k
    refine go_iastore (pc2 := 45) (j := ((h.1 113 26)).toNatClampNeg) dX11_letter_44 rfl c_134 y1 rfl ?_
    obtain ⟨g2, eg2⟩ : ∃ y : Hp, y = (ui h 134 ((h.1 113 26)).toNatClampNeg x1) := ⟨_, rfl⟩
    rw [← eg2]
    have k := k g2 eg2
    refine go_aload_n (pc2 := 46) dX11_letter_45 rfl rfl rfl ?_
    refine go_dup (pc2 := 47) dX11_letter_46 rfl rfl ?_
    refine gf_1082 (pc2 := 50) rfl dX11_letter_47 rfl c_113 fvi ?_
    refine go_iconst (pc2 := 51) (v := (1 : Int32)) dX11_letter_50 rfl (by decide) ?_
    refine go_iadd (pc2 := 52) dX11_letter_51 rfl ?_
    refine pf_1082 (pc2 := 55) rfl dX11_letter_52 rfl c_113 ?_
    obtain ⟨g3, eg3⟩ : ∃ y : Hp, y = (ui g2 113 26 ((g2.1 113 26) + (1 : Int32))) := ⟨_, rfl⟩
    rw [← eg3]
    have k := k g3 eg3
    refine go_aload_n (pc2 := 56) dX11_letter_55 rfl rfl rfl ?_
    refine gf_1082 (pc2 := 59) rfl dX11_letter_56 rfl c_113 fvi ?_
    exact go_iret dX11_letter_59 ⟨_, rfl, rfl⟩ ⟨rfl, _, rfl, k⟩
  · have k := k.2 c
    refine go_aload_n (pc2 := 30) dX11_letter_29 rfl rfl rfl ?_
    refine go_iload_n (pc2 := 31) dX11_letter_30 rfl rfl rfl ?_
    obtain ⟨Q4, hC5, k⟩ := k
    refine gcV_I (pc2 := 34) (dC := 0) (As := [.int x2]) (st := []) rfl dX11_letter_31 rfl w_1161 ok_X11_no vi_X11_no c_113 (by decide) rfl rfl rfl (by decide) (Nat.le_of_ble_eq_true rfl) hC5 (fun v6 h7 hq8 => ?_)
    have k := k v6 h7 hq8
    exact go_iret dX11_letter_34 ⟨_, rfl, rfl⟩ ⟨rfl, _, rfl, k⟩
theorem e_X11_here  {h : Hp} {Q : Int32 → Hp → Prop}  (k : (((h.1 113 26) ≤ (h.1 113 27) → Q (-1 : Int32) h) ∧ (¬ ((h.1 113 26) ≤ (h.1 113 27)) → (vp_in (h.1 113 27) 120 ∧ Q (h.1 134 ((h.1 113 27)).toNatClampNeg) h)))) : CtI 0 mX11_here [.ref 113] h Q := by
  refine Ct.of (by decide +kernel) (Nat.le_of_ble_eq_true rfl) ?_
  show GoI 0 mX11_here 0 [(0, .ref 113)] [] h Q
  refine go_aload_n (pc2 := 1) dX11_here_0 rfl rfl rfl ?_
  refine gf_1083 (pc2 := 4) rfl dX11_here_1 rfl c_113 fvi ?_
  refine go_aload_n (pc2 := 5) dX11_here_4 rfl rfl rfl ?_
  refine gf_1082 (pc2 := 8) rfl dX11_here_5 rfl c_113 fvi ?_
  refine go_icmp_ge (pc2 := 11) (tgt := 23) dX11_here_8 rfl (by decide) (fun c => ?_) (fun c => ?_)
  · have k := k.1 c
    refine go_iconst (pc2 := 24) (v := (-1 : Int32)) dX11_here_23 rfl (by decide) ?_
    exact go_iret dX11_here_24 ⟨_, rfl, rfl⟩ ⟨rfl, _, rfl, k⟩
  · have k := k.2 c
    refine go_aload_n (pc2 := 12) dX11_here_11 rfl rfl rfl ?_
    refine gf_1081 (pc2 := 15) rfl dX11_here_12 rfl c_113 (fvs r_113_25) ?_
    refine go_aload_n (pc2 := 16) dX11_here_15 rfl rfl rfl ?_
    refine gf_1083 (pc2 := 19) rfl dX11_here_16 rfl c_113 fvi ?_
    obtain ⟨y1, k⟩ := k
    refine go_iaload (pc2 := 20) (j := ((h.1 113 27)).toNatClampNeg) dX11_here_19 rfl c_134 y1 rfl ?_
    refine go_goto (tgt := 24) dX11_here_20 (by decide) ?_
    exact go_iret dX11_here_24 ⟨_, rfl, rfl⟩ ⟨rfl, _, rfl, k⟩
theorem e_X11_takes {x1 : Int32} {h : Hp} {Q : Int32 → Hp → Prop}  (k : (∃ Q1, CtI 0 mX11_here [.ref 113] h Q1 ∧ ∀ (v3 : Int32) (h4 : Hp), Q1 v3 h4 → ((v3 = x1 → (∀ g6 : Hp, g6 = (ui h4 113 27 ((h4.1 113 27) + (1 : Int32))) → Q (1 : Int32) g6)) ∧ (¬ v3 = x1 → Q (0 : Int32) h4)))) : CtI 1 mX11_takes [.ref 113, .int x1] h Q := by
  refine Ct.of (by decide +kernel) (Nat.le_of_ble_eq_true rfl) ?_
  show GoI 1 mX11_takes 0 [(0, .ref 113), (1, .int x1)] [] h Q
  refine go_aload_n (pc2 := 1) dX11_takes_0 rfl rfl rfl ?_
  obtain ⟨Q1, hC2, k⟩ := k
  refine gcV_I (pc2 := 4) (dC := 0) (As := []) (st := []) rfl dX11_takes_1 rfl w_1596 ok_X11_here vi_X11_here c_113 (by decide) rfl rfl rfl (by decide) (Nat.le_of_ble_eq_true rfl) hC2 (fun v3 h4 hq5 => ?_)
  have k := k v3 h4 hq5
  refine go_iload_n (pc2 := 5) dX11_takes_4 rfl rfl rfl ?_
  refine go_icmp_eq (pc2 := 8) (tgt := 10) dX11_takes_5 rfl (by decide) (fun c => ?_) (fun c => ?_)
  · have k := k.1 c
    refine go_aload_n (pc2 := 11) dX11_takes_10 rfl rfl rfl ?_
    refine go_dup (pc2 := 12) dX11_takes_11 rfl rfl ?_
    refine gf_1083 (pc2 := 15) rfl dX11_takes_12 rfl c_113 fvi ?_
    refine go_iconst (pc2 := 16) (v := (1 : Int32)) dX11_takes_15 rfl (by decide) ?_
    refine go_iadd (pc2 := 17) dX11_takes_16 rfl ?_
    refine pf_1083 (pc2 := 20) rfl dX11_takes_17 rfl c_113 ?_
    obtain ⟨g6, eg6⟩ : ∃ y : Hp, y = (ui h4 113 27 ((h4.1 113 27) + (1 : Int32))) := ⟨_, rfl⟩
    rw [← eg6]
    have k := k g6 eg6
    refine go_iconst (pc2 := 21) (v := (1 : Int32)) dX11_takes_20 rfl (by decide) ?_
    exact go_iret dX11_takes_21 ⟨_, rfl, rfl⟩ ⟨rfl, _, rfl, k⟩
  · have k := k.2 c
    refine go_iconst (pc2 := 9) (v := (0 : Int32)) dX11_takes_8 rfl (by decide) ?_
    exact go_iret dX11_takes_9 ⟨_, rfl, rfl⟩ ⟨rfl, _, rfl, k⟩
theorem e_X11_takesNumber {x1 : Int32} {h : Hp} {Q : Int32 → Hp → Prop}  (k : (∃ Q1, CtI 0 mX11_here [.ref 113] h Q1 ∧ ∀ (v3 : Int32) (h4 : Hp), Q1 v3 h4 → (∃ Q6, CtI 0 mX11_isIn [.long (v3).toInt64, .long (48 : Int64), .long (57 : Int64)] h4 Q6 ∧ ∀ (v8 : Int32) (h9 : Hp), Q6 v8 h9 → ((¬ v8 = 0 → (∃ Q11, CtI 0 mX11_here [.ref 113] h9 Q11 ∧ ∀ (v13 : Int32) (h14 : Hp), Q11 v13 h14 → (vp_in x1 4 ∧ (∀ g17 : Hp, g17 = (ui h14 135 (x1).toNatClampNeg (v13 - (48 : Int32))) → (∀ g18 : Hp, g18 = (ui g17 113 27 ((g17.1 113 27) + (1 : Int32))) → (∃ Q19, CtI 0 mX11_here [.ref 113] g18 Q19 ∧ ∀ (v21 : Int32) (h22 : Hp), Q19 v21 h22 → (∃ Q24, CtI 0 mX11_isIn [.long (v21).toInt64, .long (48 : Int64), .long (57 : Int64)] h22 Q24 ∧ ∀ (v26 : Int32) (h27 : Hp), Q24 v26 h27 → ((v26 = 0 → Q (1 : Int32) h27) ∧ (¬ v26 = 0 → (vp_in x1 4 ∧ (∃ Q30, CtI 0 mX11_here [.ref 113] h27 Q30 ∧ ∀ (v32 : Int32) (h33 : Hp), Q30 v32 h33 → (vp_in x1 4 ∧ (∀ g36 : Hp, g36 = (ui h33 135 (x1).toNatClampNeg ((((10 : Int32) * (h27.1 135 (x1).toNatClampNeg)) + v32) - (48 : Int32))) → (∀ g37 : Hp, g37 = (ui g36 113 27 ((g36.1 113 27) + (1 : Int32))) → Q (1 : Int32) g37)))))))))))))) ∧ (v8 = 0 → Q (0 : Int32) h9))))) : CtI 1 mX11_takesNumber [.ref 113, .int x1] h Q := by
  refine Ct.of (by decide +kernel) (Nat.le_of_ble_eq_true rfl) ?_
  show GoI 1 mX11_takesNumber 0 [(0, .ref 113), (1, .int x1)] [] h Q
  refine go_aload_n (pc2 := 1) dX11_takesNumber_0 rfl rfl rfl ?_
  obtain ⟨Q1, hC2, k⟩ := k
  refine gcV_I (pc2 := 4) (dC := 0) (As := []) (st := []) rfl dX11_takesNumber_1 rfl w_1596 ok_X11_here vi_X11_here c_113 (by decide) rfl rfl rfl (by decide) (Nat.le_of_ble_eq_true rfl) hC2 (fun v3 h4 hq5 => ?_)
  have k := k v3 h4 hq5
  refine go_i2l (pc2 := 5) dX11_takesNumber_4 rfl ?_
  refine go_ldc2 (pc2 := 8) dX11_takesNumber_5 rfl rfl w_1604 ?_
  refine go_ldc2 (pc2 := 11) dX11_takesNumber_8 rfl rfl w_1605 ?_
  obtain ⟨Q6, hC7, k⟩ := k
  refine gcS_I (pc2 := 14) (dC := 0) (As := [.long (v3).toInt64, .long (48 : Int64), .long (57 : Int64)]) (st := []) rfl dX11_takesNumber_11 rfl w_1177 ok_X11_isIn w_1178 rfl (by decide) (Nat.le_of_ble_eq_true rfl) hC7 (fun v8 h9 hq10 => ?_)
  have k := k v8 h9 hq10
  refine go_if_ne (pc2 := 17) (tgt := 19) dX11_takesNumber_14 rfl (by decide) (fun c => ?_) (fun c => ?_)
  · have k := k.1 c
    refine go_aload_n (pc2 := 20) dX11_takesNumber_19 rfl rfl rfl ?_
    refine gf_1086 (pc2 := 23) rfl dX11_takesNumber_20 rfl c_113 (fvs r_113_30) ?_
    refine go_iload_n (pc2 := 24) dX11_takesNumber_23 rfl rfl rfl ?_
    refine go_aload_n (pc2 := 25) dX11_takesNumber_24 rfl rfl rfl ?_
    obtain ⟨Q11, hC12, k⟩ := k
    refine gcV_I (pc2 := 28) (dC := 0) (As := []) (st := [.int x1, .ref 135]) rfl dX11_takesNumber_25 rfl w_1596 ok_X11_here vi_X11_here c_113 (by decide) rfl rfl rfl (by decide) (Nat.le_of_ble_eq_true rfl) hC12 (fun v13 h14 hq15 => ?_)
    have k := k v13 h14 hq15
    refine go_bipush (pc2 := 30) (v := (48 : Int32)) dX11_takesNumber_28 rfl (by decide) ?_
    refine go_isub (pc2 := 31) dX11_takesNumber_30 rfl ?_
    obtain ⟨y16, k⟩ := k
    refine go_iastore (pc2 := 32) (j := (x1).toNatClampNeg) dX11_takesNumber_31 rfl c_135 y16 rfl ?_
    obtain ⟨g17, eg17⟩ : ∃ y : Hp, y = (ui h14 135 (x1).toNatClampNeg (v13 - (48 : Int32))) := ⟨_, rfl⟩
    rw [← eg17]
    have k := k g17 eg17
    refine go_aload_n (pc2 := 33) dX11_takesNumber_32 rfl rfl rfl ?_
    refine go_dup (pc2 := 34) dX11_takesNumber_33 rfl rfl ?_
    refine gf_1083 (pc2 := 37) rfl dX11_takesNumber_34 rfl c_113 fvi ?_
    refine go_iconst (pc2 := 38) (v := (1 : Int32)) dX11_takesNumber_37 rfl (by decide) ?_
    refine go_iadd (pc2 := 39) dX11_takesNumber_38 rfl ?_
    refine pf_1083 (pc2 := 42) rfl dX11_takesNumber_39 rfl c_113 ?_
    obtain ⟨g18, eg18⟩ : ∃ y : Hp, y = (ui g17 113 27 ((g17.1 113 27) + (1 : Int32))) := ⟨_, rfl⟩
    rw [← eg18]
    have k := k g18 eg18
    refine go_aload_n (pc2 := 43) dX11_takesNumber_42 rfl rfl rfl ?_
    obtain ⟨Q19, hC20, k⟩ := k
    refine gcV_I (pc2 := 46) (dC := 0) (As := []) (st := []) rfl dX11_takesNumber_43 rfl w_1596 ok_X11_here vi_X11_here c_113 (by decide) rfl rfl rfl (by decide) (Nat.le_of_ble_eq_true rfl) hC20 (fun v21 h22 hq23 => ?_)
    have k := k v21 h22 hq23
    refine go_i2l (pc2 := 47) dX11_takesNumber_46 rfl ?_
    refine go_ldc2 (pc2 := 50) dX11_takesNumber_47 rfl rfl w_1604 ?_
    refine go_ldc2 (pc2 := 53) dX11_takesNumber_50 rfl rfl w_1605 ?_
    obtain ⟨Q24, hC25, k⟩ := k
    refine gcS_I (pc2 := 56) (dC := 0) (As := [.long (v21).toInt64, .long (48 : Int64), .long (57 : Int64)]) (st := []) rfl dX11_takesNumber_53 rfl w_1177 ok_X11_isIn w_1178 rfl (by decide) (Nat.le_of_ble_eq_true rfl) hC25 (fun v26 h27 hq28 => ?_)
    have k := k v26 h27 hq28
    refine go_if_eq (pc2 := 59) (tgt := 92) dX11_takesNumber_56 rfl (by decide) (fun c => ?_) (fun c => ?_)
    · have k := k.1 c
      refine go_iconst (pc2 := 93) (v := (1 : Int32)) dX11_takesNumber_92 rfl (by decide) ?_
      exact go_iret dX11_takesNumber_93 ⟨_, rfl, rfl⟩ ⟨rfl, _, rfl, k⟩
    · have k := k.2 c
      refine go_aload_n (pc2 := 60) dX11_takesNumber_59 rfl rfl rfl ?_
      refine gf_1086 (pc2 := 63) rfl dX11_takesNumber_60 rfl c_113 (fvs r_113_30) ?_
      refine go_iload_n (pc2 := 64) dX11_takesNumber_63 rfl rfl rfl ?_
      refine go_bipush (pc2 := 66) (v := (10 : Int32)) dX11_takesNumber_64 rfl (by decide) ?_
      refine go_aload_n (pc2 := 67) dX11_takesNumber_66 rfl rfl rfl ?_
      refine gf_1086 (pc2 := 70) rfl dX11_takesNumber_67 rfl c_113 (fvs r_113_30) ?_
      refine go_iload_n (pc2 := 71) dX11_takesNumber_70 rfl rfl rfl ?_
      obtain ⟨y29, k⟩ := k
      refine go_iaload (pc2 := 72) (j := (x1).toNatClampNeg) dX11_takesNumber_71 rfl c_135 y29 rfl ?_
      refine go_imul (pc2 := 73) dX11_takesNumber_72 rfl ?_
      refine go_aload_n (pc2 := 74) dX11_takesNumber_73 rfl rfl rfl ?_
      obtain ⟨Q30, hC31, k⟩ := k
      refine gcV_I (pc2 := 77) (dC := 0) (As := []) (st := [.int ((10 : Int32) * (h27.1 135 (x1).toNatClampNeg)), .int x1, .ref 135]) rfl dX11_takesNumber_74 rfl w_1596 ok_X11_here vi_X11_here c_113 (by decide) rfl rfl rfl (by decide) (Nat.le_of_ble_eq_true rfl) hC31 (fun v32 h33 hq34 => ?_)
      have k := k v32 h33 hq34
      refine go_iadd (pc2 := 78) dX11_takesNumber_77 rfl ?_
      refine go_bipush (pc2 := 80) (v := (48 : Int32)) dX11_takesNumber_78 rfl (by decide) ?_
      refine go_isub (pc2 := 81) dX11_takesNumber_80 rfl ?_
      obtain ⟨y35, k⟩ := k
      refine go_iastore (pc2 := 82) (j := (x1).toNatClampNeg) dX11_takesNumber_81 rfl c_135 y35 rfl ?_
      obtain ⟨g36, eg36⟩ : ∃ y : Hp, y = (ui h33 135 (x1).toNatClampNeg ((((10 : Int32) * (h27.1 135 (x1).toNatClampNeg)) + v32) - (48 : Int32))) := ⟨_, rfl⟩
      rw [← eg36]
      have k := k g36 eg36
      refine go_aload_n (pc2 := 83) dX11_takesNumber_82 rfl rfl rfl ?_
      refine go_dup (pc2 := 84) dX11_takesNumber_83 rfl rfl ?_
      refine gf_1083 (pc2 := 87) rfl dX11_takesNumber_84 rfl c_113 fvi ?_
      refine go_iconst (pc2 := 88) (v := (1 : Int32)) dX11_takesNumber_87 rfl (by decide) ?_
      refine go_iadd (pc2 := 89) dX11_takesNumber_88 rfl ?_
      refine pf_1083 (pc2 := 92) rfl dX11_takesNumber_89 rfl c_113 ?_
      obtain ⟨g37, eg37⟩ : ∃ y : Hp, y = (ui g36 113 27 ((g36.1 113 27) + (1 : Int32))) := ⟨_, rfl⟩
      rw [← eg37]
      have k := k g37 eg37
      refine go_iconst (pc2 := 93) (v := (1 : Int32)) dX11_takesNumber_92 rfl (by decide) ?_
      exact go_iret dX11_takesNumber_93 ⟨_, rfl, rfl⟩ ⟨rfl, _, rfl, k⟩
  · have k := k.2 c
    refine go_iconst (pc2 := 18) (v := (0 : Int32)) dX11_takesNumber_17 rfl (by decide) ?_
    exact go_iret dX11_takesNumber_18 ⟨_, rfl, rfl⟩ ⟨rfl, _, rfl, k⟩
theorem e_X11_moreOf {x0 : Int32} {h : Hp} {Q : Int32 → Hp → Prop}  (k : ((¬ x0 = (104 : Int32) → ((x0 = (112 : Int32) → Q (1 : Int32) h) ∧ (¬ x0 = (112 : Int32) → ((¬ x0 = (97 : Int32) → ((¬ x0 = (99 : Int32) → Q (2 : Int32) h) ∧ (x0 = (99 : Int32) → Q (3 : Int32) h))) ∧ (x0 = (97 : Int32) → Q (1 : Int32) h))))) ∧ (x0 = (104 : Int32) → Q (0 : Int32) h))) : CtI 0 mX11_moreOf [.int x0] h Q := by
  refine Ct.of (by decide +kernel) (Nat.le_of_ble_eq_true rfl) ?_
  show GoI 0 mX11_moreOf 0 [(0, .int x0)] [] h Q
  refine go_iload_n (pc2 := 1) dX11_moreOf_0 rfl rfl rfl ?_
  refine go_bipush (pc2 := 3) (v := (104 : Int32)) dX11_moreOf_1 rfl (by decide) ?_
  refine go_icmp_ne (pc2 := 6) (tgt := 10) dX11_moreOf_3 rfl (by decide) (fun c => ?_) (fun c => ?_)
  · have k := k.1 c
    refine go_iload_n (pc2 := 11) dX11_moreOf_10 rfl rfl rfl ?_
    refine go_bipush (pc2 := 13) (v := (112 : Int32)) dX11_moreOf_11 rfl (by decide) ?_
    refine go_icmp_eq (pc2 := 16) (tgt := 22) dX11_moreOf_13 rfl (by decide) (fun c => ?_) (fun c => ?_)
    · have k := k.1 c
      refine go_iconst (pc2 := 23) (v := (1 : Int32)) dX11_moreOf_22 rfl (by decide) ?_
      refine go_goto (tgt := 37) dX11_moreOf_23 (by decide) ?_
      exact go_iret dX11_moreOf_37 ⟨_, rfl, rfl⟩ ⟨rfl, _, rfl, k⟩
    · have k := k.2 c
      refine go_iload_n (pc2 := 17) dX11_moreOf_16 rfl rfl rfl ?_
      refine go_bipush (pc2 := 19) (v := (97 : Int32)) dX11_moreOf_17 rfl (by decide) ?_
      refine go_icmp_ne (pc2 := 22) (tgt := 26) dX11_moreOf_19 rfl (by decide) (fun c => ?_) (fun c => ?_)
      · have k := k.1 c
        refine go_iload_n (pc2 := 27) dX11_moreOf_26 rfl rfl rfl ?_
        refine go_bipush (pc2 := 29) (v := (99 : Int32)) dX11_moreOf_27 rfl (by decide) ?_
        refine go_icmp_ne (pc2 := 32) (tgt := 36) dX11_moreOf_29 rfl (by decide) (fun c => ?_) (fun c => ?_)
        · have k := k.1 c
          refine go_iconst (pc2 := 37) (v := (2 : Int32)) dX11_moreOf_36 rfl (by decide) ?_
          exact go_iret dX11_moreOf_37 ⟨_, rfl, rfl⟩ ⟨rfl, _, rfl, k⟩
        · have k := k.2 c
          refine go_iconst (pc2 := 33) (v := (3 : Int32)) dX11_moreOf_32 rfl (by decide) ?_
          refine go_goto (tgt := 37) dX11_moreOf_33 (by decide) ?_
          exact go_iret dX11_moreOf_37 ⟨_, rfl, rfl⟩ ⟨rfl, _, rfl, k⟩
      · have k := k.2 c
        refine go_iconst (pc2 := 23) (v := (1 : Int32)) dX11_moreOf_22 rfl (by decide) ?_
        refine go_goto (tgt := 37) dX11_moreOf_23 (by decide) ?_
        exact go_iret dX11_moreOf_37 ⟨_, rfl, rfl⟩ ⟨rfl, _, rfl, k⟩
  · have k := k.2 c
    refine go_iconst (pc2 := 7) (v := (0 : Int32)) dX11_moreOf_6 rfl (by decide) ?_
    refine go_goto (tgt := 37) dX11_moreOf_7 (by decide) ?_
    exact go_iret dX11_moreOf_37 ⟨_, rfl, rfl⟩ ⟨rfl, _, rfl, k⟩
theorem e_X11_takesSign  {h : Hp} {Q : Int32 → Hp → Prop}  (k : ((¬ (h.1 113 28) = (97 : Int32) → (∃ Q1, CtI 1 mX11_takes [.ref 113, .int (if (h.1 113 28) = (112 : Int32) then (44 : Int32) else (61 : Int32))] h Q1 ∧ ∀ (v3 : Int32) (h4 : Hp), Q1 v3 h4 → (v3 &&& 1 = v3 ∧ Q v3 h4))) ∧ ((h.1 113 28) = (97 : Int32) → (∃ Q7, CtI 0 mX11_here [.ref 113] h Q7 ∧ ∀ (v9 : Int32) (h10 : Hp), Q7 v9 h10 → (∀ g12 : Hp, g12 = (ui h10 113 29 (if v9 = (45 : Int32) then (-1 : Int32) else (1 : Int32))) → (∃ Q13, CtI 1 mX11_takes [.ref 113, .int (43 : Int32)] g12 Q13 ∧ ∀ (v15 : Int32) (h16 : Hp), Q13 v15 h16 → ((¬ v15 = 0 → Q (1 : Int32) h16) ∧ (v15 = 0 → (∃ Q18, CtI 1 mX11_takes [.ref 113, .int (45 : Int32)] h16 Q18 ∧ ∀ (v20 : Int32) (h21 : Hp), Q18 v20 h21 → ((v20 = 0 → Q (0 : Int32) h21) ∧ (¬ v20 = 0 → Q (1 : Int32) h21))))))))))) : CtI 2 mX11_takesSign [.ref 113] h Q := by
  refine Ct.of (by decide +kernel) (Nat.le_of_ble_eq_true rfl) ?_
  show GoI 2 mX11_takesSign 0 [(0, .ref 113)] [] h Q
  refine go_aload_n (pc2 := 1) dX11_takesSign_0 rfl rfl rfl ?_
  refine gf_1084 (pc2 := 4) rfl dX11_takesSign_1 rfl c_113 fvi ?_
  refine go_bipush (pc2 := 6) (v := (97 : Int32)) dX11_takesSign_4 rfl (by decide) ?_
  refine go_icmp_ne (pc2 := 9) (tgt := 51) dX11_takesSign_6 rfl (by decide) (fun c => ?_) (fun c => ?_)
  · have k := k.1 c
    refine go_aload_n (pc2 := 52) dX11_takesSign_51 rfl rfl rfl ?_
    refine go_aload_n (pc2 := 53) dX11_takesSign_52 rfl rfl rfl ?_
    refine gf_1084 (pc2 := 56) rfl dX11_takesSign_53 rfl c_113 fvi ?_
    refine go_bipush (pc2 := 58) (v := (112 : Int32)) dX11_takesSign_56 rfl (by decide) ?_
    have J : GoI 2 mX11_takesSign 68 [(0, .ref 113)] [.int (if (h.1 113 28) = (112 : Int32) then (44 : Int32) else (61 : Int32)), .ref 113] h Q := by
      obtain ⟨Q1, hC2, k⟩ := k
      refine gcV_I (pc2 := 71) (dC := 1) (As := [.int (if (h.1 113 28) = (112 : Int32) then (44 : Int32) else (61 : Int32))]) (st := []) rfl dX11_takesSign_68 rfl w_1613 ok_X11_takes vi_X11_takes c_113 (by decide) rfl rfl rfl (by decide) (Nat.le_of_ble_eq_true rfl) hC2 (fun v3 h4 hq5 => ?_)
      have k := k v3 h4 hq5
      obtain ⟨y6, k⟩ := k
      exact go_iret dX11_takesSign_71 ⟨_, rfl, congrArg Value.int y6⟩ ⟨rfl, _, rfl, k⟩
    refine go_icmp_ne (pc2 := 61) (tgt := 66) dX11_takesSign_58 rfl (by decide) (fun c => ?_) (fun c => ?_)
    · rw [if_neg c] at J
      exact go_bipush (pc2 := 68) dX11_takesSign_66 rfl (by decide) J
    · rw [if_pos c] at J
      exact go_bipush (pc2 := 63) dX11_takesSign_61 rfl (by decide) (go_goto (tgt := 68) dX11_takesSign_63 (by decide) J)
  · have k := k.2 c
    refine go_aload_n (pc2 := 10) dX11_takesSign_9 rfl rfl rfl ?_
    refine go_aload_n (pc2 := 11) dX11_takesSign_10 rfl rfl rfl ?_
    obtain ⟨Q7, hC8, k⟩ := k
    refine gcV_I (pc2 := 14) (dC := 0) (As := []) (st := [.ref 113]) rfl dX11_takesSign_11 rfl w_1596 ok_X11_here vi_X11_here c_113 (by decide) rfl rfl rfl (by decide) (Nat.le_of_ble_eq_true rfl) hC8 (fun v9 h10 hq11 => ?_)
    have k := k v9 h10 hq11
    refine go_bipush (pc2 := 16) (v := (45 : Int32)) dX11_takesSign_14 rfl (by decide) ?_
    have J : GoI 2 mX11_takesSign 24 [(0, .ref 113)] [.int (if v9 = (45 : Int32) then (-1 : Int32) else (1 : Int32)), .ref 113] h10 Q := by
      refine pf_1085 (pc2 := 27) rfl dX11_takesSign_24 rfl c_113 ?_
      obtain ⟨g12, eg12⟩ : ∃ y : Hp, y = (ui h10 113 29 (if v9 = (45 : Int32) then (-1 : Int32) else (1 : Int32))) := ⟨_, rfl⟩
      rw [← eg12]
      have k := k g12 eg12
      refine go_aload_n (pc2 := 28) dX11_takesSign_27 rfl rfl rfl ?_
      refine go_bipush (pc2 := 30) (v := (43 : Int32)) dX11_takesSign_28 rfl (by decide) ?_
      obtain ⟨Q13, hC14, k⟩ := k
      refine gcV_I (pc2 := 33) (dC := 1) (As := [.int (43 : Int32)]) (st := []) rfl dX11_takesSign_30 rfl w_1613 ok_X11_takes vi_X11_takes c_113 (by decide) rfl rfl rfl (by decide) (Nat.le_of_ble_eq_true rfl) hC14 (fun v15 h16 hq17 => ?_)
      have k := k v15 h16 hq17
      refine go_if_ne (pc2 := 36) (tgt := 45) dX11_takesSign_33 rfl (by decide) (fun c => ?_) (fun c => ?_)
      · have k := k.1 c
        refine go_iconst (pc2 := 46) (v := (1 : Int32)) dX11_takesSign_45 rfl (by decide) ?_
        refine go_goto (tgt := 50) dX11_takesSign_46 (by decide) ?_
        exact go_iret dX11_takesSign_50 ⟨_, rfl, rfl⟩ ⟨rfl, _, rfl, k⟩
      · have k := k.2 c
        refine go_aload_n (pc2 := 37) dX11_takesSign_36 rfl rfl rfl ?_
        refine go_bipush (pc2 := 39) (v := (45 : Int32)) dX11_takesSign_37 rfl (by decide) ?_
        obtain ⟨Q18, hC19, k⟩ := k
        refine gcV_I (pc2 := 42) (dC := 1) (As := [.int (45 : Int32)]) (st := []) rfl dX11_takesSign_39 rfl w_1613 ok_X11_takes vi_X11_takes c_113 (by decide) rfl rfl rfl (by decide) (Nat.le_of_ble_eq_true rfl) hC19 (fun v20 h21 hq22 => ?_)
        have k := k v20 h21 hq22
        refine go_if_eq (pc2 := 45) (tgt := 49) dX11_takesSign_42 rfl (by decide) (fun c => ?_) (fun c => ?_)
        · have k := k.1 c
          refine go_iconst (pc2 := 50) (v := (0 : Int32)) dX11_takesSign_49 rfl (by decide) ?_
          exact go_iret dX11_takesSign_50 ⟨_, rfl, rfl⟩ ⟨rfl, _, rfl, k⟩
        · have k := k.2 c
          refine go_iconst (pc2 := 46) (v := (1 : Int32)) dX11_takesSign_45 rfl (by decide) ?_
          refine go_goto (tgt := 50) dX11_takesSign_46 (by decide) ?_
          exact go_iret dX11_takesSign_50 ⟨_, rfl, rfl⟩ ⟨rfl, _, rfl, k⟩
    refine go_icmp_ne (pc2 := 19) (tgt := 23) dX11_takesSign_16 rfl (by decide) (fun c => ?_) (fun c => ?_)
    · rw [if_neg c] at J
      exact go_iconst (pc2 := 24) dX11_takesSign_23 rfl (by decide) J
    · rw [if_pos c] at J
      exact go_iconst (pc2 := 20) dX11_takesSign_19 rfl (by decide) (go_goto (tgt := 24) dX11_takesSign_20 (by decide) J)
theorem e_X11_reads  {h : Hp} {Q : Int32 → Hp → Prop}  (k : (∃ Q1, CtI 0 mX11_here [.ref 113] h Q1 ∧ ∀ (v3 : Int32) (h4 : Hp), Q1 v3 h4 → (∀ g6 : Hp, g6 = (ui h4 113 28 v3) → (((g6.1 113 28) = (112 : Int32) → GoI 3 mX11_reads 73 [(0, .ref 113)] [] g6 Q) ∧ (¬ (g6.1 113 28) = (112 : Int32) → (((g6.1 113 28) = (103 : Int32) → GoI 3 mX11_reads 73 [(0, .ref 113)] [] g6 Q) ∧ (¬ (g6.1 113 28) = (103 : Int32) → (((g6.1 113 28) = (99 : Int32) → GoI 3 mX11_reads 73 [(0, .ref 113)] [] g6 Q) ∧ (¬ (g6.1 113 28) = (99 : Int32) → (((g6.1 113 28) = (116 : Int32) → GoI 3 mX11_reads 73 [(0, .ref 113)] [] g6 Q) ∧ (¬ (g6.1 113 28) = (116 : Int32) → (((g6.1 113 28) = (97 : Int32) → GoI 3 mX11_reads 73 [(0, .ref 113)] [] g6 Q) ∧ (¬ (g6.1 113 28) = (97 : Int32) → (((g6.1 113 28) = (100 : Int32) → GoI 3 mX11_reads 73 [(0, .ref 113)] [] g6 Q) ∧ (¬ (g6.1 113 28) = (100 : Int32) → (((g6.1 113 28) = (104 : Int32) → GoI 3 mX11_reads 73 [(0, .ref 113)] [] g6 Q) ∧ (¬ (g6.1 113 28) = (104 : Int32) → Q (0 : Int32) g6))))))))))))))))) : CtI 3 mX11_reads [.ref 113] h Q := by
  refine Ct.of (by decide +kernel) (Nat.le_of_ble_eq_true rfl) ?_
  show GoI 3 mX11_reads 0 [(0, .ref 113)] [] h Q
  refine go_aload_n (pc2 := 1) dX11_reads_0 rfl rfl rfl ?_
  refine go_aload_n (pc2 := 2) dX11_reads_1 rfl rfl rfl ?_
  obtain ⟨Q1, hC2, k⟩ := k
  refine gcV_I (pc2 := 5) (dC := 0) (As := []) (st := [.ref 113]) rfl dX11_reads_2 rfl w_1596 ok_X11_here vi_X11_here c_113 (by decide) rfl rfl rfl (by decide) (Nat.le_of_ble_eq_true rfl) hC2 (fun v3 h4 hq5 => ?_)
  have k := k v3 h4 hq5
  refine pf_1084 (pc2 := 8) rfl dX11_reads_5 rfl c_113 ?_
  obtain ⟨g6, eg6⟩ : ∃ y : Hp, y = (ui h4 113 28 v3) := ⟨_, rfl⟩
  rw [← eg6]
  have k := k g6 eg6
  refine go_aload_n (pc2 := 9) dX11_reads_8 rfl rfl rfl ?_
  refine gf_1084 (pc2 := 12) rfl dX11_reads_9 rfl c_113 fvi ?_
  refine go_bipush (pc2 := 14) (v := (112 : Int32)) dX11_reads_12 rfl (by decide) ?_
  refine go_icmp_eq (pc2 := 17) (tgt := 73) dX11_reads_14 rfl (by decide) (fun c => ?_) (fun c => ?_)
  · have k := k.1 c
    exact k
  · have k := k.2 c
    refine go_aload_n (pc2 := 18) dX11_reads_17 rfl rfl rfl ?_
    refine gf_1084 (pc2 := 21) rfl dX11_reads_18 rfl c_113 fvi ?_
    refine go_bipush (pc2 := 23) (v := (103 : Int32)) dX11_reads_21 rfl (by decide) ?_
    refine go_icmp_eq (pc2 := 26) (tgt := 73) dX11_reads_23 rfl (by decide) (fun c => ?_) (fun c => ?_)
    · have k := k.1 c
      exact k
    · have k := k.2 c
      refine go_aload_n (pc2 := 27) dX11_reads_26 rfl rfl rfl ?_
      refine gf_1084 (pc2 := 30) rfl dX11_reads_27 rfl c_113 fvi ?_
      refine go_bipush (pc2 := 32) (v := (99 : Int32)) dX11_reads_30 rfl (by decide) ?_
      refine go_icmp_eq (pc2 := 35) (tgt := 73) dX11_reads_32 rfl (by decide) (fun c => ?_) (fun c => ?_)
      · have k := k.1 c
        exact k
      · have k := k.2 c
        refine go_aload_n (pc2 := 36) dX11_reads_35 rfl rfl rfl ?_
        refine gf_1084 (pc2 := 39) rfl dX11_reads_36 rfl c_113 fvi ?_
        refine go_bipush (pc2 := 41) (v := (116 : Int32)) dX11_reads_39 rfl (by decide) ?_
        refine go_icmp_eq (pc2 := 44) (tgt := 73) dX11_reads_41 rfl (by decide) (fun c => ?_) (fun c => ?_)
        · have k := k.1 c
          exact k
        · have k := k.2 c
          refine go_aload_n (pc2 := 45) dX11_reads_44 rfl rfl rfl ?_
          refine gf_1084 (pc2 := 48) rfl dX11_reads_45 rfl c_113 fvi ?_
          refine go_bipush (pc2 := 50) (v := (97 : Int32)) dX11_reads_48 rfl (by decide) ?_
          refine go_icmp_eq (pc2 := 53) (tgt := 73) dX11_reads_50 rfl (by decide) (fun c => ?_) (fun c => ?_)
          · have k := k.1 c
            exact k
          · have k := k.2 c
            refine go_aload_n (pc2 := 54) dX11_reads_53 rfl rfl rfl ?_
            refine gf_1084 (pc2 := 57) rfl dX11_reads_54 rfl c_113 fvi ?_
            refine go_bipush (pc2 := 59) (v := (100 : Int32)) dX11_reads_57 rfl (by decide) ?_
            refine go_icmp_eq (pc2 := 62) (tgt := 73) dX11_reads_59 rfl (by decide) (fun c => ?_) (fun c => ?_)
            · have k := k.1 c
              exact k
            · have k := k.2 c
              refine go_aload_n (pc2 := 63) dX11_reads_62 rfl rfl rfl ?_
              refine gf_1084 (pc2 := 66) rfl dX11_reads_63 rfl c_113 fvi ?_
              refine go_bipush (pc2 := 68) (v := (104 : Int32)) dX11_reads_66 rfl (by decide) ?_
              refine go_icmp_eq (pc2 := 71) (tgt := 73) dX11_reads_68 rfl (by decide) (fun c => ?_) (fun c => ?_)
              · have k := k.1 c
                exact k
              · have k := k.2 c
                refine go_iconst (pc2 := 72) (v := (0 : Int32)) dX11_reads_71 rfl (by decide) ?_
                exact go_iret dX11_reads_72 ⟨_, rfl, rfl⟩ ⟨rfl, _, rfl, k⟩
theorem b_X11_reads_73  {h : Hp} {Q : Int32 → Hp → Prop}  (k : (∀ g1 : Hp, g1 = (ui h 113 27 ((h.1 113 27) + (1 : Int32))) → (∃ Q2, CtI 1 mX11_takesNumber [.ref 113, .int (0 : Int32)] g1 Q2 ∧ ∀ (v4 : Int32) (h5 : Hp), Q2 v4 h5 → ((¬ v4 = 0 → GoI 3 mX11_reads 95 [(0, .ref 113), (1, .int (1 : Int32))] [] h5 Q) ∧ (v4 = 0 → Q (0 : Int32) h5))))) : GoI 3 mX11_reads 73 [(0, .ref 113)] [] h Q := by
  refine go_aload_n (pc2 := 74) dX11_reads_73 rfl rfl rfl ?_
  refine go_dup (pc2 := 75) dX11_reads_74 rfl rfl ?_
  refine gf_1083 (pc2 := 78) rfl dX11_reads_75 rfl c_113 fvi ?_
  refine go_iconst (pc2 := 79) (v := (1 : Int32)) dX11_reads_78 rfl (by decide) ?_
  refine go_iadd (pc2 := 80) dX11_reads_79 rfl ?_
  refine pf_1083 (pc2 := 83) rfl dX11_reads_80 rfl c_113 ?_
  obtain ⟨g1, eg1⟩ : ∃ y : Hp, y = (ui h 113 27 ((h.1 113 27) + (1 : Int32))) := ⟨_, rfl⟩
  rw [← eg1]
  have k := k g1 eg1
  refine go_aload_n (pc2 := 84) dX11_reads_83 rfl rfl rfl ?_
  refine go_iconst (pc2 := 85) (v := (0 : Int32)) dX11_reads_84 rfl (by decide) ?_
  obtain ⟨Q2, hC3, k⟩ := k
  refine gcV_I (pc2 := 88) (dC := 1) (As := [.int (0 : Int32)]) (st := []) rfl dX11_reads_85 rfl w_1600 ok_X11_takesNumber vi_X11_takesNumber c_113 (by decide) rfl rfl rfl (by decide) (Nat.le_of_ble_eq_true rfl) hC3 (fun v4 h5 hq6 => ?_)
  have k := k v4 h5 hq6
  refine go_if_ne (pc2 := 91) (tgt := 93) dX11_reads_88 rfl (by decide) (fun c => ?_) (fun c => ?_)
  · have k := k.1 c
    refine go_iconst (pc2 := 94) (v := (1 : Int32)) dX11_reads_93 rfl (by decide) ?_
    refine go_istore_n (pc2 := 95) (ls2 := [(0, .ref 113), (1, .int (1 : Int32))]) dX11_reads_94 rfl rfl rfl rfl rfl rfl ?_
    exact k
  · have k := k.2 c
    refine go_iconst (pc2 := 92) (v := (0 : Int32)) dX11_reads_91 rfl (by decide) ?_
    exact go_iret dX11_reads_92 ⟨_, rfl, rfl⟩ ⟨rfl, _, rfl, k⟩
theorem b_X11_reads_95 {x1 : Int32} {h : Hp} {Q : Int32 → Hp → Prop}  (k : (∃ Q1, CtI 0 mX11_moreOf [.int (h.1 113 28)] h Q1 ∧ ∀ (v3 : Int32) (h4 : Hp), Q1 v3 h4 → ((v3 < x1 → (∃ Q6, CtI 1 mX11_takes [.ref 113, .int (59 : Int32)] h4 Q6 ∧ ∀ (v8 : Int32) (h9 : Hp), Q6 v8 h9 → (v8 &&& 1 = v8 ∧ Q v8 h9))) ∧ (¬ (v3 < x1) → ((¬ x1 = (1 : Int32) → (∃ Q12, CtI 1 mX11_takes [.ref 113, .int (44 : Int32)] h4 Q12 ∧ ∀ (v14 : Int32) (h15 : Hp), Q12 v14 h15 → GoI 3 mX11_reads 124 [(0, .ref 113), (1, .int x1)] [.int v14] h15 Q)) ∧ (x1 = (1 : Int32) → (∃ Q17, CtI 2 mX11_takesSign [.ref 113] h4 Q17 ∧ ∀ (v19 : Int32) (h20 : Hp), Q17 v19 h20 → GoI 3 mX11_reads 124 [(0, .ref 113), (1, .int x1)] [.int v19] h20 Q))))))) : GoI 3 mX11_reads 95 [(0, .ref 113), (1, .int x1)] [] h Q := by
  refine go_iload_n (pc2 := 96) dX11_reads_95 rfl rfl rfl ?_
  refine go_aload_n (pc2 := 97) dX11_reads_96 rfl rfl rfl ?_
  refine gf_1084 (pc2 := 100) rfl dX11_reads_97 rfl c_113 fvi ?_
  obtain ⟨Q1, hC2, k⟩ := k
  refine gcS_I (pc2 := 103) (dC := 0) (As := [.int (h.1 113 28)]) (st := [.int x1]) rfl dX11_reads_100 rfl w_1606 ok_X11_moreOf w_1607 rfl (by decide) (Nat.le_of_ble_eq_true rfl) hC2 (fun v3 h4 hq5 => ?_)
  have k := k v3 h4 hq5
  refine go_icmp_gt (pc2 := 106) (tgt := 145) dX11_reads_103 rfl (by decide) (fun c => ?_) (fun c => ?_)
  · have k := k.1 c
    refine go_aload_n (pc2 := 146) dX11_reads_145 rfl rfl rfl ?_
    refine go_bipush (pc2 := 148) (v := (59 : Int32)) dX11_reads_146 rfl (by decide) ?_
    obtain ⟨Q6, hC7, k⟩ := k
    refine gcV_I (pc2 := 151) (dC := 1) (As := [.int (59 : Int32)]) (st := []) rfl dX11_reads_148 rfl w_1613 ok_X11_takes vi_X11_takes c_113 (by decide) rfl rfl rfl (by decide) (Nat.le_of_ble_eq_true rfl) hC7 (fun v8 h9 hq10 => ?_)
    have k := k v8 h9 hq10
    obtain ⟨y11, k⟩ := k
    exact go_iret dX11_reads_151 ⟨_, rfl, congrArg Value.int y11⟩ ⟨rfl, _, rfl, k⟩
  · have k := k.2 c
    refine go_iload_n (pc2 := 107) dX11_reads_106 rfl rfl rfl ?_
    refine go_iconst (pc2 := 108) (v := (1 : Int32)) dX11_reads_107 rfl (by decide) ?_
    refine go_icmp_ne (pc2 := 111) (tgt := 118) dX11_reads_108 rfl (by decide) (fun c => ?_) (fun c => ?_)
    · have k := k.1 c
      refine go_aload_n (pc2 := 119) dX11_reads_118 rfl rfl rfl ?_
      refine go_bipush (pc2 := 121) (v := (44 : Int32)) dX11_reads_119 rfl (by decide) ?_
      obtain ⟨Q12, hC13, k⟩ := k
      refine gcV_I (pc2 := 124) (dC := 1) (As := [.int (44 : Int32)]) (st := []) rfl dX11_reads_121 rfl w_1613 ok_X11_takes vi_X11_takes c_113 (by decide) rfl rfl rfl (by decide) (Nat.le_of_ble_eq_true rfl) hC13 (fun v14 h15 hq16 => ?_)
      have k := k v14 h15 hq16
      exact k
    · have k := k.2 c
      refine go_aload_n (pc2 := 112) dX11_reads_111 rfl rfl rfl ?_
      obtain ⟨Q17, hC18, k⟩ := k
      refine gcV_I (pc2 := 115) (dC := 2) (As := []) (st := []) rfl dX11_reads_112 rfl w_1609 ok_X11_takesSign vi_X11_takesSign c_113 (by decide) rfl rfl rfl (by decide) (Nat.le_of_ble_eq_true rfl) hC18 (fun v19 h20 hq21 => ?_)
      have k := k v19 h20 hq21
      refine go_goto (tgt := 124) dX11_reads_115 (by decide) ?_
      exact k
theorem b_X11_reads_124 {x1 : Int32} {s0 : Int32} {h : Hp} {Q : Int32 → Hp → Prop}  (k : ((s0 = 0 → Q (0 : Int32) h) ∧ (¬ s0 = 0 → (∃ Q1, CtI 1 mX11_takesNumber [.ref 113, .int x1] h Q1 ∧ ∀ (v3 : Int32) (h4 : Hp), Q1 v3 h4 → ((¬ v3 = 0 → GoI 3 mX11_reads 95 [(0, .ref 113), (1, .int (x1 + 1))] [] h4 Q) ∧ (v3 = 0 → Q (0 : Int32) h4)))))) : GoI 3 mX11_reads 124 [(0, .ref 113), (1, .int x1)] [.int s0] h Q := by
  refine go_istore_n (pc2 := 125) (ls2 := [(0, .ref 113), (1, .int x1), (2, .int s0)]) dX11_reads_124 rfl rfl rfl rfl rfl rfl ?_
  refine go_iload_n (pc2 := 126) dX11_reads_125 rfl rfl rfl ?_
  refine go_if_eq (pc2 := 129) (tgt := 137) dX11_reads_126 rfl (by decide) (fun c => ?_) (fun c => ?_)
  · have k := k.1 c
    refine go_iconst (pc2 := 138) (v := (0 : Int32)) dX11_reads_137 rfl (by decide) ?_
    exact go_iret dX11_reads_138 ⟨_, rfl, rfl⟩ ⟨rfl, _, rfl, k⟩
  · have k := k.2 c
    refine go_aload_n (pc2 := 130) dX11_reads_129 rfl rfl rfl ?_
    refine go_iload_n (pc2 := 131) dX11_reads_130 rfl rfl rfl ?_
    obtain ⟨Q1, hC2, k⟩ := k
    refine gcV_I (pc2 := 134) (dC := 1) (As := [.int x1]) (st := []) rfl dX11_reads_131 rfl w_1600 ok_X11_takesNumber vi_X11_takesNumber c_113 (by decide) rfl rfl rfl (by decide) (Nat.le_of_ble_eq_true rfl) hC2 (fun v3 h4 hq5 => ?_)
    have k := k v3 h4 hq5
    refine go_if_ne (pc2 := 137) (tgt := 139) dX11_reads_134 rfl (by decide) (fun c => ?_) (fun c => ?_)
    · have k := k.1 c
      refine go_iinc (pc2 := 142) (ls2 := [(0, .ref 113), (1, .int (x1 + 1)), (2, .int s0)]) (v := (x1 + 1)) dX11_reads_139 rfl rfl rfl rfl rfl rfl rfl ?_
      refine go_goto (tgt := 95) dX11_reads_142 (by decide) ?_
      exact Go.pick [0, 1] rfl k
    · have k := k.2 c
      refine go_iconst (pc2 := 138) (v := (0 : Int32)) dX11_reads_137 rfl (by decide) ?_
      exact go_iret dX11_reads_138 ⟨_, rfl, rfl⟩ ⟨rfl, _, rfl, k⟩
theorem e_X11_wrongTold  {h : Hp} {Q : Int32 → Hp → Prop}  (k : (((h.1 113 28) = (97 : Int32) → (∃ Q31, CtI 2 mX11_ageWrong [.ref 113, .int (h.1 135 0), .int ((h.1 113 29) * (h.1 135 1))] h Q31 ∧ ∀ (v33 : Int32) (h34 : Hp), Q31 v33 h34 → Q v33 h34)) ∧ (¬ (h.1 113 28) = (97 : Int32) → (((h.1 113 28) = (99 : Int32) → (∃ Q26, CtI 2 mX11_costsWrong [.ref 113, .int (h.1 135 0), .int (h.1 135 1), .int (h.1 135 2), .int (h.1 135 3)] h Q26 ∧ ∀ (v28 : Int32) (h29 : Hp), Q26 v28 h29 → Q v28 h29)) ∧ (¬ (h.1 113 28) = (99 : Int32) → (((h.1 113 28) = (100 : Int32) → (∃ Q21, CtI 2 mX11_demandWrong [.ref 113, .int (h.1 135 0), .int (h.1 135 1), .int (h.1 135 2)] h Q21 ∧ ∀ (v23 : Int32) (h24 : Hp), Q21 v23 h24 → Q v23 h24)) ∧ (¬ (h.1 113 28) = (100 : Int32) → (((h.1 113 28) = (103 : Int32) → (∃ Q16, CtI 2 mX11_givesWrong [.ref 113, .int (h.1 135 0), .int (h.1 135 1), .int (h.1 135 2)] h Q16 ∧ ∀ (v18 : Int32) (h19 : Hp), Q16 v18 h19 → Q v18 h19)) ∧ (¬ (h.1 113 28) = (103 : Int32) → (((h.1 113 28) = (112 : Int32) → (∃ Q11, CtI 1 mX11_plantWrong [.ref 113, .int (h.1 135 0), .int (h.1 135 1)] h Q11 ∧ ∀ (v13 : Int32) (h14 : Hp), Q11 v13 h14 → Q v13 h14)) ∧ (¬ (h.1 113 28) = (112 : Int32) → (((h.1 113 28) = (116 : Int32) → (∃ Q6, CtI 2 mX11_timesWrong [.ref 113, .int (h.1 135 0), .int (h.1 135 1), .int (h.1 135 2)] h Q6 ∧ ∀ (v8 : Int32) (h9 : Hp), Q6 v8 h9 → Q v8 h9)) ∧ (¬ (h.1 113 28) = (116 : Int32) → (∃ Q1, CtI 1 mX11_hoursWrong [.ref 113, .int (h.1 135 0)] h Q1 ∧ ∀ (v3 : Int32) (h4 : Hp), Q1 v3 h4 → Q v3 h4)))))))))))))) : CtI 3 mX11_wrongTold [.ref 113] h Q := by
  refine Ct.of (by decide +kernel) (Nat.le_of_ble_eq_true rfl) ?_
  show GoI 3 mX11_wrongTold 0 [(0, .ref 113)] [] h Q
  refine go_aload_n (pc2 := 1) dX11_wrongTold_0 rfl rfl rfl ?_
  refine gf_1086 (pc2 := 4) rfl dX11_wrongTold_1 rfl c_113 (fvs r_113_30) ?_
  refine go_iconst (pc2 := 5) (v := (0 : Int32)) dX11_wrongTold_4 rfl (by decide) ?_
  refine go_iaload (pc2 := 6) (j := 0) dX11_wrongTold_5 rfl c_135 (vp_c rfl) rfl ?_
  refine go_istore_n (pc2 := 7) (ls2 := [(0, .ref 113), (1, .int (h.1 135 0))]) dX11_wrongTold_6 rfl rfl rfl rfl rfl rfl ?_
  refine go_aload_n (pc2 := 8) dX11_wrongTold_7 rfl rfl rfl ?_
  refine gf_1086 (pc2 := 11) rfl dX11_wrongTold_8 rfl c_113 (fvs r_113_30) ?_
  refine go_iconst (pc2 := 12) (v := (1 : Int32)) dX11_wrongTold_11 rfl (by decide) ?_
  refine go_iaload (pc2 := 13) (j := 1) dX11_wrongTold_12 rfl c_135 (vp_c rfl) rfl ?_
  refine go_istore_n (pc2 := 14) (ls2 := [(0, .ref 113), (1, .int (h.1 135 0)), (2, .int (h.1 135 1))]) dX11_wrongTold_13 rfl rfl rfl rfl rfl rfl ?_
  refine go_aload_n (pc2 := 15) dX11_wrongTold_14 rfl rfl rfl ?_
  refine gf_1086 (pc2 := 18) rfl dX11_wrongTold_15 rfl c_113 (fvs r_113_30) ?_
  refine go_iconst (pc2 := 19) (v := (2 : Int32)) dX11_wrongTold_18 rfl (by decide) ?_
  refine go_iaload (pc2 := 20) (j := 2) dX11_wrongTold_19 rfl c_135 (vp_c rfl) rfl ?_
  refine go_istore_n (pc2 := 21) (ls2 := [(0, .ref 113), (1, .int (h.1 135 0)), (2, .int (h.1 135 1)), (3, .int (h.1 135 2))]) dX11_wrongTold_20 rfl rfl rfl rfl rfl rfl ?_
  refine go_aload_n (pc2 := 22) dX11_wrongTold_21 rfl rfl rfl ?_
  refine gf_1084 (pc2 := 25) rfl dX11_wrongTold_22 rfl c_113 fvi ?_
  by_cases cs0 : (h.1 113 28) = (97 : Int32)
  · have k := k.1 cs0
    refine go_tsEq (tgt := 157) dX11_wrongTold_25 cs0 (by decide) (by decide) rfl (by decide) ?_
    refine go_aload_n (pc2 := 158) dX11_wrongTold_157 rfl rfl rfl ?_
    refine go_iload_n (pc2 := 159) dX11_wrongTold_158 rfl rfl rfl ?_
    refine go_aload_n (pc2 := 160) dX11_wrongTold_159 rfl rfl rfl ?_
    refine gf_1085 (pc2 := 163) rfl dX11_wrongTold_160 rfl c_113 fvi ?_
    refine go_iload_n (pc2 := 164) dX11_wrongTold_163 rfl rfl rfl ?_
    refine go_imul (pc2 := 165) dX11_wrongTold_164 rfl ?_
    obtain ⟨Q31, hC32, k⟩ := k
    refine gcV_I (pc2 := 168) (dC := 2) (As := [.int (h.1 135 0), .int ((h.1 113 29) * (h.1 135 1))]) (st := []) rfl dX11_wrongTold_165 rfl w_1236 ok_X11_ageWrong vi_X11_ageWrong c_113 (by decide) rfl rfl rfl (by decide) (Nat.le_of_ble_eq_true rfl) hC32 (fun v33 h34 hq35 => ?_)
    have k := k v33 h34 hq35
    exact go_iret dX11_wrongTold_168 ⟨_, rfl, rfl⟩ ⟨rfl, _, rfl, k⟩
  have k := k.2 cs0
  by_cases cs1 : (h.1 113 28) = (99 : Int32)
  · have k := k.1 cs1
    refine go_tsEq (tgt := 135) dX11_wrongTold_25 cs1 (by decide) (by decide) rfl (by decide) ?_
    refine go_aload_n (pc2 := 136) dX11_wrongTold_135 rfl rfl rfl ?_
    refine go_iload_n (pc2 := 137) dX11_wrongTold_136 rfl rfl rfl ?_
    refine go_iload_n (pc2 := 138) dX11_wrongTold_137 rfl rfl rfl ?_
    refine go_iload_n (pc2 := 139) dX11_wrongTold_138 rfl rfl rfl ?_
    refine go_aload_n (pc2 := 140) dX11_wrongTold_139 rfl rfl rfl ?_
    refine gf_1086 (pc2 := 143) rfl dX11_wrongTold_140 rfl c_113 (fvs r_113_30) ?_
    refine go_iconst (pc2 := 144) (v := (3 : Int32)) dX11_wrongTold_143 rfl (by decide) ?_
    refine go_iaload (pc2 := 145) (j := 3) dX11_wrongTold_144 rfl c_135 (vp_c rfl) rfl ?_
    obtain ⟨Q26, hC27, k⟩ := k
    refine gcV_I (pc2 := 148) (dC := 2) (As := [.int (h.1 135 0), .int (h.1 135 1), .int (h.1 135 2), .int (h.1 135 3)]) (st := []) rfl dX11_wrongTold_145 rfl w_1220 ok_X11_costsWrong vi_X11_costsWrong c_113 (by decide) rfl rfl rfl (by decide) (Nat.le_of_ble_eq_true rfl) hC27 (fun v28 h29 hq30 => ?_)
    have k := k v28 h29 hq30
    exact go_iret dX11_wrongTold_148 ⟨_, rfl, rfl⟩ ⟨rfl, _, rfl, k⟩
  have k := k.2 cs1
  by_cases cs2 : (h.1 113 28) = (100 : Int32)
  · have k := k.1 cs2
    refine go_tsEq (tgt := 169) dX11_wrongTold_25 cs2 (by decide) (by decide) rfl (by decide) ?_
    refine go_aload_n (pc2 := 170) dX11_wrongTold_169 rfl rfl rfl ?_
    refine go_iload_n (pc2 := 171) dX11_wrongTold_170 rfl rfl rfl ?_
    refine go_iload_n (pc2 := 172) dX11_wrongTold_171 rfl rfl rfl ?_
    refine go_iload_n (pc2 := 173) dX11_wrongTold_172 rfl rfl rfl ?_
    obtain ⟨Q21, hC22, k⟩ := k
    refine gcV_I (pc2 := 176) (dC := 2) (As := [.int (h.1 135 0), .int (h.1 135 1), .int (h.1 135 2)]) (st := []) rfl dX11_wrongTold_173 rfl w_1169 ok_X11_demandWrong vi_X11_demandWrong c_113 (by decide) rfl rfl rfl (by decide) (Nat.le_of_ble_eq_true rfl) hC22 (fun v23 h24 hq25 => ?_)
    have k := k v23 h24 hq25
    exact go_iret dX11_wrongTold_176 ⟨_, rfl, rfl⟩ ⟨rfl, _, rfl, k⟩
  have k := k.2 cs2
  by_cases cs3 : (h.1 113 28) = (103 : Int32)
  · have k := k.1 cs3
    refine go_tsEq (tgt := 127) dX11_wrongTold_25 cs3 (by decide) (by decide) rfl (by decide) ?_
    refine go_aload_n (pc2 := 128) dX11_wrongTold_127 rfl rfl rfl ?_
    refine go_iload_n (pc2 := 129) dX11_wrongTold_128 rfl rfl rfl ?_
    refine go_iload_n (pc2 := 130) dX11_wrongTold_129 rfl rfl rfl ?_
    refine go_iload_n (pc2 := 131) dX11_wrongTold_130 rfl rfl rfl ?_
    obtain ⟨Q16, hC17, k⟩ := k
    refine gcV_I (pc2 := 134) (dC := 2) (As := [.int (h.1 135 0), .int (h.1 135 1), .int (h.1 135 2)]) (st := []) rfl dX11_wrongTold_131 rfl w_1204 ok_X11_givesWrong vi_X11_givesWrong c_113 (by decide) rfl rfl rfl (by decide) (Nat.le_of_ble_eq_true rfl) hC17 (fun v18 h19 hq20 => ?_)
    have k := k v18 h19 hq20
    exact go_iret dX11_wrongTold_134 ⟨_, rfl, rfl⟩ ⟨rfl, _, rfl, k⟩
  have k := k.2 cs3
  by_cases cs4 : (h.1 113 28) = (112 : Int32)
  · have k := k.1 cs4
    refine go_tsEq (tgt := 120) dX11_wrongTold_25 cs4 (by decide) (by decide) rfl (by decide) ?_
    refine go_aload_n (pc2 := 121) dX11_wrongTold_120 rfl rfl rfl ?_
    refine go_iload_n (pc2 := 122) dX11_wrongTold_121 rfl rfl rfl ?_
    refine go_iload_n (pc2 := 123) dX11_wrongTold_122 rfl rfl rfl ?_
    obtain ⟨Q11, hC12, k⟩ := k
    refine gcV_I (pc2 := 126) (dC := 1) (As := [.int (h.1 135 0), .int (h.1 135 1)]) (st := []) rfl dX11_wrongTold_123 rfl w_1187 ok_X11_plantWrong vi_X11_plantWrong c_113 (by decide) rfl rfl rfl (by decide) (Nat.le_of_ble_eq_true rfl) hC12 (fun v13 h14 hq15 => ?_)
    have k := k v13 h14 hq15
    exact go_iret dX11_wrongTold_126 ⟨_, rfl, rfl⟩ ⟨rfl, _, rfl, k⟩
  have k := k.2 cs4
  by_cases cs5 : (h.1 113 28) = (116 : Int32)
  · have k := k.1 cs5
    refine go_tsEq (tgt := 149) dX11_wrongTold_25 cs5 (by decide) (by decide) rfl (by decide) ?_
    refine go_aload_n (pc2 := 150) dX11_wrongTold_149 rfl rfl rfl ?_
    refine go_iload_n (pc2 := 151) dX11_wrongTold_150 rfl rfl rfl ?_
    refine go_iload_n (pc2 := 152) dX11_wrongTold_151 rfl rfl rfl ?_
    refine go_iload_n (pc2 := 153) dX11_wrongTold_152 rfl rfl rfl ?_
    obtain ⟨Q6, hC7, k⟩ := k
    refine gcV_I (pc2 := 156) (dC := 2) (As := [.int (h.1 135 0), .int (h.1 135 1), .int (h.1 135 2)]) (st := []) rfl dX11_wrongTold_153 rfl w_1228 ok_X11_timesWrong vi_X11_timesWrong c_113 (by decide) rfl rfl rfl (by decide) (Nat.le_of_ble_eq_true rfl) hC7 (fun v8 h9 hq10 => ?_)
    have k := k v8 h9 hq10
    exact go_iret dX11_wrongTold_156 ⟨_, rfl, rfl⟩ ⟨rfl, _, rfl, k⟩
  have k := k.2 cs5
  by_cases cb : (h.1 113 28).toInt < 97 ∨ 116 < (h.1 113 28).toInt
  · refine go_tsOut (tgt := 177) dX11_wrongTold_25 cb (by decide) ?_
    refine go_aload_n (pc2 := 178) dX11_wrongTold_177 rfl rfl rfl ?_
    refine go_iload_n (pc2 := 179) dX11_wrongTold_178 rfl rfl rfl ?_
    obtain ⟨Q1, hC2, k⟩ := k
    refine gcV_I (pc2 := 182) (dC := 1) (As := [.int (h.1 135 0)]) (st := []) rfl dX11_wrongTold_179 rfl w_1154 ok_X11_hoursWrong vi_X11_hoursWrong c_113 (by decide) rfl rfl rfl (by decide) (Nat.le_of_ble_eq_true rfl) hC2 (fun v3 h4 hq5 => ?_)
    have k := k v3 h4 hq5
    exact go_iret dX11_wrongTold_182 ⟨_, rfl, rfl⟩ ⟨rfl, _, rfl, k⟩
  · have ch : (h.1 113 28) = (98 : Int32) ∨ (h.1 113 28) = (101 : Int32) ∨ (h.1 113 28) = (102 : Int32) ∨ (h.1 113 28) = (104 : Int32) ∨ (h.1 113 28) = (105 : Int32) ∨ (h.1 113 28) = (106 : Int32) ∨ (h.1 113 28) = (107 : Int32) ∨ (h.1 113 28) = (108 : Int32) ∨ (h.1 113 28) = (109 : Int32) ∨ (h.1 113 28) = (110 : Int32) ∨ (h.1 113 28) = (111 : Int32) ∨ (h.1 113 28) = (113 : Int32) ∨ (h.1 113 28) = (114 : Int32) ∨ (h.1 113 28) = (115 : Int32) := by
      have q1 := cb
      have e0 := i32_ne cs0 (by decide : ((97 : Int32)).toInt = 97)
      have e1 := i32_ne cs1 (by decide : ((99 : Int32)).toInt = 99)
      have e2 := i32_ne cs2 (by decide : ((100 : Int32)).toInt = 100)
      have e3 := i32_ne cs3 (by decide : ((103 : Int32)).toInt = 103)
      have e4 := i32_ne cs4 (by decide : ((112 : Int32)).toInt = 112)
      have e5 := i32_ne cs5 (by decide : ((116 : Int32)).toInt = 116)
      have q2 : (h.1 113 28).toInt = 98 ∨ (h.1 113 28).toInt = 101 ∨ (h.1 113 28).toInt = 102 ∨ (h.1 113 28).toInt = 104 ∨ (h.1 113 28).toInt = 105 ∨ (h.1 113 28).toInt = 106 ∨ (h.1 113 28).toInt = 107 ∨ (h.1 113 28).toInt = 108 ∨ (h.1 113 28).toInt = 109 ∨ (h.1 113 28).toInt = 110 ∨ (h.1 113 28).toInt = 111 ∨ (h.1 113 28).toInt = 113 ∨ (h.1 113 28).toInt = 114 ∨ (h.1 113 28).toInt = 115 := by omega
      rcases q2 with q | q | q | q | q | q | q | q | q | q | q | q | q | q
      · exact (Or.inl (i32_eq q (by decide)))
      · exact (Or.inr (Or.inl (i32_eq q (by decide))))
      · exact (Or.inr (Or.inr (Or.inl (i32_eq q (by decide)))))
      · exact (Or.inr (Or.inr (Or.inr (Or.inl (i32_eq q (by decide))))))
      · exact (Or.inr (Or.inr (Or.inr (Or.inr (Or.inl (i32_eq q (by decide)))))))
      · exact (Or.inr (Or.inr (Or.inr (Or.inr (Or.inr (Or.inl (i32_eq q (by decide))))))))
      · exact (Or.inr (Or.inr (Or.inr (Or.inr (Or.inr (Or.inr (Or.inl (i32_eq q (by decide)))))))))
      · exact (Or.inr (Or.inr (Or.inr (Or.inr (Or.inr (Or.inr (Or.inr (Or.inl (i32_eq q (by decide))))))))))
      · exact (Or.inr (Or.inr (Or.inr (Or.inr (Or.inr (Or.inr (Or.inr (Or.inr (Or.inl (i32_eq q (by decide)))))))))))
      · exact (Or.inr (Or.inr (Or.inr (Or.inr (Or.inr (Or.inr (Or.inr (Or.inr (Or.inr (Or.inl (i32_eq q (by decide))))))))))))
      · exact (Or.inr (Or.inr (Or.inr (Or.inr (Or.inr (Or.inr (Or.inr (Or.inr (Or.inr (Or.inr (Or.inl (i32_eq q (by decide)))))))))))))
      · exact (Or.inr (Or.inr (Or.inr (Or.inr (Or.inr (Or.inr (Or.inr (Or.inr (Or.inr (Or.inr (Or.inr (Or.inl (i32_eq q (by decide))))))))))))))
      · exact (Or.inr (Or.inr (Or.inr (Or.inr (Or.inr (Or.inr (Or.inr (Or.inr (Or.inr (Or.inr (Or.inr (Or.inr (Or.inl (i32_eq q (by decide)))))))))))))))
      · exact (Or.inr (Or.inr (Or.inr (Or.inr (Or.inr (Or.inr (Or.inr (Or.inr (Or.inr (Or.inr (Or.inr (Or.inr (Or.inr (i32_eq q (by decide)))))))))))))))
    rcases ch with ch | ch | ch | ch | ch | ch | ch | ch | ch | ch | ch | ch | ch | ch
    · refine go_tsEq (tgt := 177) dX11_wrongTold_25 ch (by decide) (by decide) rfl (by decide) ?_
      refine go_aload_n (pc2 := 178) dX11_wrongTold_177 rfl rfl rfl ?_
      refine go_iload_n (pc2 := 179) dX11_wrongTold_178 rfl rfl rfl ?_
      obtain ⟨Q1, hC2, k⟩ := k
      refine gcV_I (pc2 := 182) (dC := 1) (As := [.int (h.1 135 0)]) (st := []) rfl dX11_wrongTold_179 rfl w_1154 ok_X11_hoursWrong vi_X11_hoursWrong c_113 (by decide) rfl rfl rfl (by decide) (Nat.le_of_ble_eq_true rfl) hC2 (fun v3 h4 hq5 => ?_)
      have k := k v3 h4 hq5
      exact go_iret dX11_wrongTold_182 ⟨_, rfl, rfl⟩ ⟨rfl, _, rfl, k⟩
    · refine go_tsEq (tgt := 177) dX11_wrongTold_25 ch (by decide) (by decide) rfl (by decide) ?_
      refine go_aload_n (pc2 := 178) dX11_wrongTold_177 rfl rfl rfl ?_
      refine go_iload_n (pc2 := 179) dX11_wrongTold_178 rfl rfl rfl ?_
      obtain ⟨Q1, hC2, k⟩ := k
      refine gcV_I (pc2 := 182) (dC := 1) (As := [.int (h.1 135 0)]) (st := []) rfl dX11_wrongTold_179 rfl w_1154 ok_X11_hoursWrong vi_X11_hoursWrong c_113 (by decide) rfl rfl rfl (by decide) (Nat.le_of_ble_eq_true rfl) hC2 (fun v3 h4 hq5 => ?_)
      have k := k v3 h4 hq5
      exact go_iret dX11_wrongTold_182 ⟨_, rfl, rfl⟩ ⟨rfl, _, rfl, k⟩
    · refine go_tsEq (tgt := 177) dX11_wrongTold_25 ch (by decide) (by decide) rfl (by decide) ?_
      refine go_aload_n (pc2 := 178) dX11_wrongTold_177 rfl rfl rfl ?_
      refine go_iload_n (pc2 := 179) dX11_wrongTold_178 rfl rfl rfl ?_
      obtain ⟨Q1, hC2, k⟩ := k
      refine gcV_I (pc2 := 182) (dC := 1) (As := [.int (h.1 135 0)]) (st := []) rfl dX11_wrongTold_179 rfl w_1154 ok_X11_hoursWrong vi_X11_hoursWrong c_113 (by decide) rfl rfl rfl (by decide) (Nat.le_of_ble_eq_true rfl) hC2 (fun v3 h4 hq5 => ?_)
      have k := k v3 h4 hq5
      exact go_iret dX11_wrongTold_182 ⟨_, rfl, rfl⟩ ⟨rfl, _, rfl, k⟩
    · refine go_tsEq (tgt := 177) dX11_wrongTold_25 ch (by decide) (by decide) rfl (by decide) ?_
      refine go_aload_n (pc2 := 178) dX11_wrongTold_177 rfl rfl rfl ?_
      refine go_iload_n (pc2 := 179) dX11_wrongTold_178 rfl rfl rfl ?_
      obtain ⟨Q1, hC2, k⟩ := k
      refine gcV_I (pc2 := 182) (dC := 1) (As := [.int (h.1 135 0)]) (st := []) rfl dX11_wrongTold_179 rfl w_1154 ok_X11_hoursWrong vi_X11_hoursWrong c_113 (by decide) rfl rfl rfl (by decide) (Nat.le_of_ble_eq_true rfl) hC2 (fun v3 h4 hq5 => ?_)
      have k := k v3 h4 hq5
      exact go_iret dX11_wrongTold_182 ⟨_, rfl, rfl⟩ ⟨rfl, _, rfl, k⟩
    · refine go_tsEq (tgt := 177) dX11_wrongTold_25 ch (by decide) (by decide) rfl (by decide) ?_
      refine go_aload_n (pc2 := 178) dX11_wrongTold_177 rfl rfl rfl ?_
      refine go_iload_n (pc2 := 179) dX11_wrongTold_178 rfl rfl rfl ?_
      obtain ⟨Q1, hC2, k⟩ := k
      refine gcV_I (pc2 := 182) (dC := 1) (As := [.int (h.1 135 0)]) (st := []) rfl dX11_wrongTold_179 rfl w_1154 ok_X11_hoursWrong vi_X11_hoursWrong c_113 (by decide) rfl rfl rfl (by decide) (Nat.le_of_ble_eq_true rfl) hC2 (fun v3 h4 hq5 => ?_)
      have k := k v3 h4 hq5
      exact go_iret dX11_wrongTold_182 ⟨_, rfl, rfl⟩ ⟨rfl, _, rfl, k⟩
    · refine go_tsEq (tgt := 177) dX11_wrongTold_25 ch (by decide) (by decide) rfl (by decide) ?_
      refine go_aload_n (pc2 := 178) dX11_wrongTold_177 rfl rfl rfl ?_
      refine go_iload_n (pc2 := 179) dX11_wrongTold_178 rfl rfl rfl ?_
      obtain ⟨Q1, hC2, k⟩ := k
      refine gcV_I (pc2 := 182) (dC := 1) (As := [.int (h.1 135 0)]) (st := []) rfl dX11_wrongTold_179 rfl w_1154 ok_X11_hoursWrong vi_X11_hoursWrong c_113 (by decide) rfl rfl rfl (by decide) (Nat.le_of_ble_eq_true rfl) hC2 (fun v3 h4 hq5 => ?_)
      have k := k v3 h4 hq5
      exact go_iret dX11_wrongTold_182 ⟨_, rfl, rfl⟩ ⟨rfl, _, rfl, k⟩
    · refine go_tsEq (tgt := 177) dX11_wrongTold_25 ch (by decide) (by decide) rfl (by decide) ?_
      refine go_aload_n (pc2 := 178) dX11_wrongTold_177 rfl rfl rfl ?_
      refine go_iload_n (pc2 := 179) dX11_wrongTold_178 rfl rfl rfl ?_
      obtain ⟨Q1, hC2, k⟩ := k
      refine gcV_I (pc2 := 182) (dC := 1) (As := [.int (h.1 135 0)]) (st := []) rfl dX11_wrongTold_179 rfl w_1154 ok_X11_hoursWrong vi_X11_hoursWrong c_113 (by decide) rfl rfl rfl (by decide) (Nat.le_of_ble_eq_true rfl) hC2 (fun v3 h4 hq5 => ?_)
      have k := k v3 h4 hq5
      exact go_iret dX11_wrongTold_182 ⟨_, rfl, rfl⟩ ⟨rfl, _, rfl, k⟩
    · refine go_tsEq (tgt := 177) dX11_wrongTold_25 ch (by decide) (by decide) rfl (by decide) ?_
      refine go_aload_n (pc2 := 178) dX11_wrongTold_177 rfl rfl rfl ?_
      refine go_iload_n (pc2 := 179) dX11_wrongTold_178 rfl rfl rfl ?_
      obtain ⟨Q1, hC2, k⟩ := k
      refine gcV_I (pc2 := 182) (dC := 1) (As := [.int (h.1 135 0)]) (st := []) rfl dX11_wrongTold_179 rfl w_1154 ok_X11_hoursWrong vi_X11_hoursWrong c_113 (by decide) rfl rfl rfl (by decide) (Nat.le_of_ble_eq_true rfl) hC2 (fun v3 h4 hq5 => ?_)
      have k := k v3 h4 hq5
      exact go_iret dX11_wrongTold_182 ⟨_, rfl, rfl⟩ ⟨rfl, _, rfl, k⟩
    · refine go_tsEq (tgt := 177) dX11_wrongTold_25 ch (by decide) (by decide) rfl (by decide) ?_
      refine go_aload_n (pc2 := 178) dX11_wrongTold_177 rfl rfl rfl ?_
      refine go_iload_n (pc2 := 179) dX11_wrongTold_178 rfl rfl rfl ?_
      obtain ⟨Q1, hC2, k⟩ := k
      refine gcV_I (pc2 := 182) (dC := 1) (As := [.int (h.1 135 0)]) (st := []) rfl dX11_wrongTold_179 rfl w_1154 ok_X11_hoursWrong vi_X11_hoursWrong c_113 (by decide) rfl rfl rfl (by decide) (Nat.le_of_ble_eq_true rfl) hC2 (fun v3 h4 hq5 => ?_)
      have k := k v3 h4 hq5
      exact go_iret dX11_wrongTold_182 ⟨_, rfl, rfl⟩ ⟨rfl, _, rfl, k⟩
    · refine go_tsEq (tgt := 177) dX11_wrongTold_25 ch (by decide) (by decide) rfl (by decide) ?_
      refine go_aload_n (pc2 := 178) dX11_wrongTold_177 rfl rfl rfl ?_
      refine go_iload_n (pc2 := 179) dX11_wrongTold_178 rfl rfl rfl ?_
      obtain ⟨Q1, hC2, k⟩ := k
      refine gcV_I (pc2 := 182) (dC := 1) (As := [.int (h.1 135 0)]) (st := []) rfl dX11_wrongTold_179 rfl w_1154 ok_X11_hoursWrong vi_X11_hoursWrong c_113 (by decide) rfl rfl rfl (by decide) (Nat.le_of_ble_eq_true rfl) hC2 (fun v3 h4 hq5 => ?_)
      have k := k v3 h4 hq5
      exact go_iret dX11_wrongTold_182 ⟨_, rfl, rfl⟩ ⟨rfl, _, rfl, k⟩
    · refine go_tsEq (tgt := 177) dX11_wrongTold_25 ch (by decide) (by decide) rfl (by decide) ?_
      refine go_aload_n (pc2 := 178) dX11_wrongTold_177 rfl rfl rfl ?_
      refine go_iload_n (pc2 := 179) dX11_wrongTold_178 rfl rfl rfl ?_
      obtain ⟨Q1, hC2, k⟩ := k
      refine gcV_I (pc2 := 182) (dC := 1) (As := [.int (h.1 135 0)]) (st := []) rfl dX11_wrongTold_179 rfl w_1154 ok_X11_hoursWrong vi_X11_hoursWrong c_113 (by decide) rfl rfl rfl (by decide) (Nat.le_of_ble_eq_true rfl) hC2 (fun v3 h4 hq5 => ?_)
      have k := k v3 h4 hq5
      exact go_iret dX11_wrongTold_182 ⟨_, rfl, rfl⟩ ⟨rfl, _, rfl, k⟩
    · refine go_tsEq (tgt := 177) dX11_wrongTold_25 ch (by decide) (by decide) rfl (by decide) ?_
      refine go_aload_n (pc2 := 178) dX11_wrongTold_177 rfl rfl rfl ?_
      refine go_iload_n (pc2 := 179) dX11_wrongTold_178 rfl rfl rfl ?_
      obtain ⟨Q1, hC2, k⟩ := k
      refine gcV_I (pc2 := 182) (dC := 1) (As := [.int (h.1 135 0)]) (st := []) rfl dX11_wrongTold_179 rfl w_1154 ok_X11_hoursWrong vi_X11_hoursWrong c_113 (by decide) rfl rfl rfl (by decide) (Nat.le_of_ble_eq_true rfl) hC2 (fun v3 h4 hq5 => ?_)
      have k := k v3 h4 hq5
      exact go_iret dX11_wrongTold_182 ⟨_, rfl, rfl⟩ ⟨rfl, _, rfl, k⟩
    · refine go_tsEq (tgt := 177) dX11_wrongTold_25 ch (by decide) (by decide) rfl (by decide) ?_
      refine go_aload_n (pc2 := 178) dX11_wrongTold_177 rfl rfl rfl ?_
      refine go_iload_n (pc2 := 179) dX11_wrongTold_178 rfl rfl rfl ?_
      obtain ⟨Q1, hC2, k⟩ := k
      refine gcV_I (pc2 := 182) (dC := 1) (As := [.int (h.1 135 0)]) (st := []) rfl dX11_wrongTold_179 rfl w_1154 ok_X11_hoursWrong vi_X11_hoursWrong c_113 (by decide) rfl rfl rfl (by decide) (Nat.le_of_ble_eq_true rfl) hC2 (fun v3 h4 hq5 => ?_)
      have k := k v3 h4 hq5
      exact go_iret dX11_wrongTold_182 ⟨_, rfl, rfl⟩ ⟨rfl, _, rfl, k⟩
    · refine go_tsEq (tgt := 177) dX11_wrongTold_25 ch (by decide) (by decide) rfl (by decide) ?_
      refine go_aload_n (pc2 := 178) dX11_wrongTold_177 rfl rfl rfl ?_
      refine go_iload_n (pc2 := 179) dX11_wrongTold_178 rfl rfl rfl ?_
      obtain ⟨Q1, hC2, k⟩ := k
      refine gcV_I (pc2 := 182) (dC := 1) (As := [.int (h.1 135 0)]) (st := []) rfl dX11_wrongTold_179 rfl w_1154 ok_X11_hoursWrong vi_X11_hoursWrong c_113 (by decide) rfl rfl rfl (by decide) (Nat.le_of_ble_eq_true rfl) hC2 (fun v3 h4 hq5 => ?_)
      have k := k v3 h4 hq5
      exact go_iret dX11_wrongTold_182 ⟨_, rfl, rfl⟩ ⟨rfl, _, rfl, k⟩
theorem e_X11_doesTold  {h : Hp} {Q : Int32 → Hp → Prop}  (k : (((h.1 113 28) = (97 : Int32) → (∃ Q31, CtI 3 mX11_age [.ref 113, .int (h.1 135 0), .int ((h.1 113 29) * (h.1 135 1))] h Q31 ∧ ∀ (v33 : Int32) (h34 : Hp), Q31 v33 h34 → Q v33 h34)) ∧ (¬ (h.1 113 28) = (97 : Int32) → (((h.1 113 28) = (99 : Int32) → (∃ Q26, CtI 3 mX11_costs [.ref 113, .int (h.1 135 0), .int (h.1 135 1), .int (h.1 135 2), .int (h.1 135 3)] h Q26 ∧ ∀ (v28 : Int32) (h29 : Hp), Q26 v28 h29 → Q v28 h29)) ∧ (¬ (h.1 113 28) = (99 : Int32) → (((h.1 113 28) = (100 : Int32) → (∃ Q21, CtI 3 mX11_demand [.ref 113, .int (h.1 135 0), .int (h.1 135 1), .int (h.1 135 2)] h Q21 ∧ ∀ (v23 : Int32) (h24 : Hp), Q21 v23 h24 → Q v23 h24)) ∧ (¬ (h.1 113 28) = (100 : Int32) → (((h.1 113 28) = (103 : Int32) → (∃ Q16, CtI 3 mX11_gives [.ref 113, .int (h.1 135 0), .int (h.1 135 1), .int (h.1 135 2)] h Q16 ∧ ∀ (v18 : Int32) (h19 : Hp), Q16 v18 h19 → Q v18 h19)) ∧ (¬ (h.1 113 28) = (103 : Int32) → (((h.1 113 28) = (112 : Int32) → (∃ Q11, CtI 2 mX11_plant [.ref 113, .int (h.1 135 0), .int (h.1 135 1)] h Q11 ∧ ∀ (v13 : Int32) (h14 : Hp), Q11 v13 h14 → Q v13 h14)) ∧ (¬ (h.1 113 28) = (112 : Int32) → (((h.1 113 28) = (116 : Int32) → (∃ Q6, CtI 3 mX11_times [.ref 113, .int (h.1 135 0), .int (h.1 135 1), .int (h.1 135 2)] h Q6 ∧ ∀ (v8 : Int32) (h9 : Hp), Q6 v8 h9 → Q v8 h9)) ∧ (¬ (h.1 113 28) = (116 : Int32) → (∃ Q1, CtI 2 mX11_hours [.ref 113, .int (h.1 135 0)] h Q1 ∧ ∀ (v3 : Int32) (h4 : Hp), Q1 v3 h4 → Q v3 h4)))))))))))))) : CtI 4 mX11_doesTold [.ref 113] h Q := by
  refine Ct.of (by decide +kernel) (Nat.le_of_ble_eq_true rfl) ?_
  show GoI 4 mX11_doesTold 0 [(0, .ref 113)] [] h Q
  refine go_aload_n (pc2 := 1) dX11_doesTold_0 rfl rfl rfl ?_
  refine gf_1086 (pc2 := 4) rfl dX11_doesTold_1 rfl c_113 (fvs r_113_30) ?_
  refine go_iconst (pc2 := 5) (v := (0 : Int32)) dX11_doesTold_4 rfl (by decide) ?_
  refine go_iaload (pc2 := 6) (j := 0) dX11_doesTold_5 rfl c_135 (vp_c rfl) rfl ?_
  refine go_istore_n (pc2 := 7) (ls2 := [(0, .ref 113), (1, .int (h.1 135 0))]) dX11_doesTold_6 rfl rfl rfl rfl rfl rfl ?_
  refine go_aload_n (pc2 := 8) dX11_doesTold_7 rfl rfl rfl ?_
  refine gf_1086 (pc2 := 11) rfl dX11_doesTold_8 rfl c_113 (fvs r_113_30) ?_
  refine go_iconst (pc2 := 12) (v := (1 : Int32)) dX11_doesTold_11 rfl (by decide) ?_
  refine go_iaload (pc2 := 13) (j := 1) dX11_doesTold_12 rfl c_135 (vp_c rfl) rfl ?_
  refine go_istore_n (pc2 := 14) (ls2 := [(0, .ref 113), (1, .int (h.1 135 0)), (2, .int (h.1 135 1))]) dX11_doesTold_13 rfl rfl rfl rfl rfl rfl ?_
  refine go_aload_n (pc2 := 15) dX11_doesTold_14 rfl rfl rfl ?_
  refine gf_1086 (pc2 := 18) rfl dX11_doesTold_15 rfl c_113 (fvs r_113_30) ?_
  refine go_iconst (pc2 := 19) (v := (2 : Int32)) dX11_doesTold_18 rfl (by decide) ?_
  refine go_iaload (pc2 := 20) (j := 2) dX11_doesTold_19 rfl c_135 (vp_c rfl) rfl ?_
  refine go_istore_n (pc2 := 21) (ls2 := [(0, .ref 113), (1, .int (h.1 135 0)), (2, .int (h.1 135 1)), (3, .int (h.1 135 2))]) dX11_doesTold_20 rfl rfl rfl rfl rfl rfl ?_
  refine go_aload_n (pc2 := 22) dX11_doesTold_21 rfl rfl rfl ?_
  refine gf_1084 (pc2 := 25) rfl dX11_doesTold_22 rfl c_113 fvi ?_
  by_cases cs0 : (h.1 113 28) = (97 : Int32)
  · have k := k.1 cs0
    refine go_tsEq (tgt := 157) dX11_doesTold_25 cs0 (by decide) (by decide) rfl (by decide) ?_
    refine go_aload_n (pc2 := 158) dX11_doesTold_157 rfl rfl rfl ?_
    refine go_iload_n (pc2 := 159) dX11_doesTold_158 rfl rfl rfl ?_
    refine go_aload_n (pc2 := 160) dX11_doesTold_159 rfl rfl rfl ?_
    refine gf_1085 (pc2 := 163) rfl dX11_doesTold_160 rfl c_113 fvi ?_
    refine go_iload_n (pc2 := 164) dX11_doesTold_163 rfl rfl rfl ?_
    refine go_imul (pc2 := 165) dX11_doesTold_164 rfl ?_
    obtain ⟨Q31, hC32, k⟩ := k
    refine gcV_I (pc2 := 168) (dC := 3) (As := [.int (h.1 135 0), .int ((h.1 113 29) * (h.1 135 1))]) (st := []) rfl dX11_doesTold_165 rfl w_1629 ok_X11_age vi_X11_age c_113 (by decide) rfl rfl rfl (by decide) (Nat.le_of_ble_eq_true rfl) hC32 (fun v33 h34 hq35 => ?_)
    have k := k v33 h34 hq35
    exact go_iret dX11_doesTold_168 ⟨_, rfl, rfl⟩ ⟨rfl, _, rfl, k⟩
  have k := k.2 cs0
  by_cases cs1 : (h.1 113 28) = (99 : Int32)
  · have k := k.1 cs1
    refine go_tsEq (tgt := 135) dX11_doesTold_25 cs1 (by decide) (by decide) rfl (by decide) ?_
    refine go_aload_n (pc2 := 136) dX11_doesTold_135 rfl rfl rfl ?_
    refine go_iload_n (pc2 := 137) dX11_doesTold_136 rfl rfl rfl ?_
    refine go_iload_n (pc2 := 138) dX11_doesTold_137 rfl rfl rfl ?_
    refine go_iload_n (pc2 := 139) dX11_doesTold_138 rfl rfl rfl ?_
    refine go_aload_n (pc2 := 140) dX11_doesTold_139 rfl rfl rfl ?_
    refine gf_1086 (pc2 := 143) rfl dX11_doesTold_140 rfl c_113 (fvs r_113_30) ?_
    refine go_iconst (pc2 := 144) (v := (3 : Int32)) dX11_doesTold_143 rfl (by decide) ?_
    refine go_iaload (pc2 := 145) (j := 3) dX11_doesTold_144 rfl c_135 (vp_c rfl) rfl ?_
    obtain ⟨Q26, hC27, k⟩ := k
    refine gcV_I (pc2 := 148) (dC := 3) (As := [.int (h.1 135 0), .int (h.1 135 1), .int (h.1 135 2), .int (h.1 135 3)]) (st := []) rfl dX11_doesTold_145 rfl w_1627 ok_X11_costs vi_X11_costs c_113 (by decide) rfl rfl rfl (by decide) (Nat.le_of_ble_eq_true rfl) hC27 (fun v28 h29 hq30 => ?_)
    have k := k v28 h29 hq30
    exact go_iret dX11_doesTold_148 ⟨_, rfl, rfl⟩ ⟨rfl, _, rfl, k⟩
  have k := k.2 cs1
  by_cases cs2 : (h.1 113 28) = (100 : Int32)
  · have k := k.1 cs2
    refine go_tsEq (tgt := 169) dX11_doesTold_25 cs2 (by decide) (by decide) rfl (by decide) ?_
    refine go_aload_n (pc2 := 170) dX11_doesTold_169 rfl rfl rfl ?_
    refine go_iload_n (pc2 := 171) dX11_doesTold_170 rfl rfl rfl ?_
    refine go_iload_n (pc2 := 172) dX11_doesTold_171 rfl rfl rfl ?_
    refine go_iload_n (pc2 := 173) dX11_doesTold_172 rfl rfl rfl ?_
    obtain ⟨Q21, hC22, k⟩ := k
    refine gcV_I (pc2 := 176) (dC := 3) (As := [.int (h.1 135 0), .int (h.1 135 1), .int (h.1 135 2)]) (st := []) rfl dX11_doesTold_173 rfl w_1630 ok_X11_demand vi_X11_demand c_113 (by decide) rfl rfl rfl (by decide) (Nat.le_of_ble_eq_true rfl) hC22 (fun v23 h24 hq25 => ?_)
    have k := k v23 h24 hq25
    exact go_iret dX11_doesTold_176 ⟨_, rfl, rfl⟩ ⟨rfl, _, rfl, k⟩
  have k := k.2 cs2
  by_cases cs3 : (h.1 113 28) = (103 : Int32)
  · have k := k.1 cs3
    refine go_tsEq (tgt := 127) dX11_doesTold_25 cs3 (by decide) (by decide) rfl (by decide) ?_
    refine go_aload_n (pc2 := 128) dX11_doesTold_127 rfl rfl rfl ?_
    refine go_iload_n (pc2 := 129) dX11_doesTold_128 rfl rfl rfl ?_
    refine go_iload_n (pc2 := 130) dX11_doesTold_129 rfl rfl rfl ?_
    refine go_iload_n (pc2 := 131) dX11_doesTold_130 rfl rfl rfl ?_
    obtain ⟨Q16, hC17, k⟩ := k
    refine gcV_I (pc2 := 134) (dC := 3) (As := [.int (h.1 135 0), .int (h.1 135 1), .int (h.1 135 2)]) (st := []) rfl dX11_doesTold_131 rfl w_1626 ok_X11_gives vi_X11_gives c_113 (by decide) rfl rfl rfl (by decide) (Nat.le_of_ble_eq_true rfl) hC17 (fun v18 h19 hq20 => ?_)
    have k := k v18 h19 hq20
    exact go_iret dX11_doesTold_134 ⟨_, rfl, rfl⟩ ⟨rfl, _, rfl, k⟩
  have k := k.2 cs3
  by_cases cs4 : (h.1 113 28) = (112 : Int32)
  · have k := k.1 cs4
    refine go_tsEq (tgt := 120) dX11_doesTold_25 cs4 (by decide) (by decide) rfl (by decide) ?_
    refine go_aload_n (pc2 := 121) dX11_doesTold_120 rfl rfl rfl ?_
    refine go_iload_n (pc2 := 122) dX11_doesTold_121 rfl rfl rfl ?_
    refine go_iload_n (pc2 := 123) dX11_doesTold_122 rfl rfl rfl ?_
    obtain ⟨Q11, hC12, k⟩ := k
    refine gcV_I (pc2 := 126) (dC := 2) (As := [.int (h.1 135 0), .int (h.1 135 1)]) (st := []) rfl dX11_doesTold_123 rfl w_1625 ok_X11_plant vi_X11_plant c_113 (by decide) rfl rfl rfl (by decide) (Nat.le_of_ble_eq_true rfl) hC12 (fun v13 h14 hq15 => ?_)
    have k := k v13 h14 hq15
    exact go_iret dX11_doesTold_126 ⟨_, rfl, rfl⟩ ⟨rfl, _, rfl, k⟩
  have k := k.2 cs4
  by_cases cs5 : (h.1 113 28) = (116 : Int32)
  · have k := k.1 cs5
    refine go_tsEq (tgt := 149) dX11_doesTold_25 cs5 (by decide) (by decide) rfl (by decide) ?_
    refine go_aload_n (pc2 := 150) dX11_doesTold_149 rfl rfl rfl ?_
    refine go_iload_n (pc2 := 151) dX11_doesTold_150 rfl rfl rfl ?_
    refine go_iload_n (pc2 := 152) dX11_doesTold_151 rfl rfl rfl ?_
    refine go_iload_n (pc2 := 153) dX11_doesTold_152 rfl rfl rfl ?_
    obtain ⟨Q6, hC7, k⟩ := k
    refine gcV_I (pc2 := 156) (dC := 3) (As := [.int (h.1 135 0), .int (h.1 135 1), .int (h.1 135 2)]) (st := []) rfl dX11_doesTold_153 rfl w_1628 ok_X11_times vi_X11_times c_113 (by decide) rfl rfl rfl (by decide) (Nat.le_of_ble_eq_true rfl) hC7 (fun v8 h9 hq10 => ?_)
    have k := k v8 h9 hq10
    exact go_iret dX11_doesTold_156 ⟨_, rfl, rfl⟩ ⟨rfl, _, rfl, k⟩
  have k := k.2 cs5
  by_cases cb : (h.1 113 28).toInt < 97 ∨ 116 < (h.1 113 28).toInt
  · refine go_tsOut (tgt := 177) dX11_doesTold_25 cb (by decide) ?_
    refine go_aload_n (pc2 := 178) dX11_doesTold_177 rfl rfl rfl ?_
    refine go_iload_n (pc2 := 179) dX11_doesTold_178 rfl rfl rfl ?_
    obtain ⟨Q1, hC2, k⟩ := k
    refine gcV_I (pc2 := 182) (dC := 2) (As := [.int (h.1 135 0)]) (st := []) rfl dX11_doesTold_179 rfl w_1631 ok_X11_hours vi_X11_hours c_113 (by decide) rfl rfl rfl (by decide) (Nat.le_of_ble_eq_true rfl) hC2 (fun v3 h4 hq5 => ?_)
    have k := k v3 h4 hq5
    exact go_iret dX11_doesTold_182 ⟨_, rfl, rfl⟩ ⟨rfl, _, rfl, k⟩
  · have ch : (h.1 113 28) = (98 : Int32) ∨ (h.1 113 28) = (101 : Int32) ∨ (h.1 113 28) = (102 : Int32) ∨ (h.1 113 28) = (104 : Int32) ∨ (h.1 113 28) = (105 : Int32) ∨ (h.1 113 28) = (106 : Int32) ∨ (h.1 113 28) = (107 : Int32) ∨ (h.1 113 28) = (108 : Int32) ∨ (h.1 113 28) = (109 : Int32) ∨ (h.1 113 28) = (110 : Int32) ∨ (h.1 113 28) = (111 : Int32) ∨ (h.1 113 28) = (113 : Int32) ∨ (h.1 113 28) = (114 : Int32) ∨ (h.1 113 28) = (115 : Int32) := by
      have q1 := cb
      have e0 := i32_ne cs0 (by decide : ((97 : Int32)).toInt = 97)
      have e1 := i32_ne cs1 (by decide : ((99 : Int32)).toInt = 99)
      have e2 := i32_ne cs2 (by decide : ((100 : Int32)).toInt = 100)
      have e3 := i32_ne cs3 (by decide : ((103 : Int32)).toInt = 103)
      have e4 := i32_ne cs4 (by decide : ((112 : Int32)).toInt = 112)
      have e5 := i32_ne cs5 (by decide : ((116 : Int32)).toInt = 116)
      have q2 : (h.1 113 28).toInt = 98 ∨ (h.1 113 28).toInt = 101 ∨ (h.1 113 28).toInt = 102 ∨ (h.1 113 28).toInt = 104 ∨ (h.1 113 28).toInt = 105 ∨ (h.1 113 28).toInt = 106 ∨ (h.1 113 28).toInt = 107 ∨ (h.1 113 28).toInt = 108 ∨ (h.1 113 28).toInt = 109 ∨ (h.1 113 28).toInt = 110 ∨ (h.1 113 28).toInt = 111 ∨ (h.1 113 28).toInt = 113 ∨ (h.1 113 28).toInt = 114 ∨ (h.1 113 28).toInt = 115 := by omega
      rcases q2 with q | q | q | q | q | q | q | q | q | q | q | q | q | q
      · exact (Or.inl (i32_eq q (by decide)))
      · exact (Or.inr (Or.inl (i32_eq q (by decide))))
      · exact (Or.inr (Or.inr (Or.inl (i32_eq q (by decide)))))
      · exact (Or.inr (Or.inr (Or.inr (Or.inl (i32_eq q (by decide))))))
      · exact (Or.inr (Or.inr (Or.inr (Or.inr (Or.inl (i32_eq q (by decide)))))))
      · exact (Or.inr (Or.inr (Or.inr (Or.inr (Or.inr (Or.inl (i32_eq q (by decide))))))))
      · exact (Or.inr (Or.inr (Or.inr (Or.inr (Or.inr (Or.inr (Or.inl (i32_eq q (by decide)))))))))
      · exact (Or.inr (Or.inr (Or.inr (Or.inr (Or.inr (Or.inr (Or.inr (Or.inl (i32_eq q (by decide))))))))))
      · exact (Or.inr (Or.inr (Or.inr (Or.inr (Or.inr (Or.inr (Or.inr (Or.inr (Or.inl (i32_eq q (by decide)))))))))))
      · exact (Or.inr (Or.inr (Or.inr (Or.inr (Or.inr (Or.inr (Or.inr (Or.inr (Or.inr (Or.inl (i32_eq q (by decide))))))))))))
      · exact (Or.inr (Or.inr (Or.inr (Or.inr (Or.inr (Or.inr (Or.inr (Or.inr (Or.inr (Or.inr (Or.inl (i32_eq q (by decide)))))))))))))
      · exact (Or.inr (Or.inr (Or.inr (Or.inr (Or.inr (Or.inr (Or.inr (Or.inr (Or.inr (Or.inr (Or.inr (Or.inl (i32_eq q (by decide))))))))))))))
      · exact (Or.inr (Or.inr (Or.inr (Or.inr (Or.inr (Or.inr (Or.inr (Or.inr (Or.inr (Or.inr (Or.inr (Or.inr (Or.inl (i32_eq q (by decide)))))))))))))))
      · exact (Or.inr (Or.inr (Or.inr (Or.inr (Or.inr (Or.inr (Or.inr (Or.inr (Or.inr (Or.inr (Or.inr (Or.inr (Or.inr (i32_eq q (by decide)))))))))))))))
    rcases ch with ch | ch | ch | ch | ch | ch | ch | ch | ch | ch | ch | ch | ch | ch
    · refine go_tsEq (tgt := 177) dX11_doesTold_25 ch (by decide) (by decide) rfl (by decide) ?_
      refine go_aload_n (pc2 := 178) dX11_doesTold_177 rfl rfl rfl ?_
      refine go_iload_n (pc2 := 179) dX11_doesTold_178 rfl rfl rfl ?_
      obtain ⟨Q1, hC2, k⟩ := k
      refine gcV_I (pc2 := 182) (dC := 2) (As := [.int (h.1 135 0)]) (st := []) rfl dX11_doesTold_179 rfl w_1631 ok_X11_hours vi_X11_hours c_113 (by decide) rfl rfl rfl (by decide) (Nat.le_of_ble_eq_true rfl) hC2 (fun v3 h4 hq5 => ?_)
      have k := k v3 h4 hq5
      exact go_iret dX11_doesTold_182 ⟨_, rfl, rfl⟩ ⟨rfl, _, rfl, k⟩
    · refine go_tsEq (tgt := 177) dX11_doesTold_25 ch (by decide) (by decide) rfl (by decide) ?_
      refine go_aload_n (pc2 := 178) dX11_doesTold_177 rfl rfl rfl ?_
      refine go_iload_n (pc2 := 179) dX11_doesTold_178 rfl rfl rfl ?_
      obtain ⟨Q1, hC2, k⟩ := k
      refine gcV_I (pc2 := 182) (dC := 2) (As := [.int (h.1 135 0)]) (st := []) rfl dX11_doesTold_179 rfl w_1631 ok_X11_hours vi_X11_hours c_113 (by decide) rfl rfl rfl (by decide) (Nat.le_of_ble_eq_true rfl) hC2 (fun v3 h4 hq5 => ?_)
      have k := k v3 h4 hq5
      exact go_iret dX11_doesTold_182 ⟨_, rfl, rfl⟩ ⟨rfl, _, rfl, k⟩
    · refine go_tsEq (tgt := 177) dX11_doesTold_25 ch (by decide) (by decide) rfl (by decide) ?_
      refine go_aload_n (pc2 := 178) dX11_doesTold_177 rfl rfl rfl ?_
      refine go_iload_n (pc2 := 179) dX11_doesTold_178 rfl rfl rfl ?_
      obtain ⟨Q1, hC2, k⟩ := k
      refine gcV_I (pc2 := 182) (dC := 2) (As := [.int (h.1 135 0)]) (st := []) rfl dX11_doesTold_179 rfl w_1631 ok_X11_hours vi_X11_hours c_113 (by decide) rfl rfl rfl (by decide) (Nat.le_of_ble_eq_true rfl) hC2 (fun v3 h4 hq5 => ?_)
      have k := k v3 h4 hq5
      exact go_iret dX11_doesTold_182 ⟨_, rfl, rfl⟩ ⟨rfl, _, rfl, k⟩
    · refine go_tsEq (tgt := 177) dX11_doesTold_25 ch (by decide) (by decide) rfl (by decide) ?_
      refine go_aload_n (pc2 := 178) dX11_doesTold_177 rfl rfl rfl ?_
      refine go_iload_n (pc2 := 179) dX11_doesTold_178 rfl rfl rfl ?_
      obtain ⟨Q1, hC2, k⟩ := k
      refine gcV_I (pc2 := 182) (dC := 2) (As := [.int (h.1 135 0)]) (st := []) rfl dX11_doesTold_179 rfl w_1631 ok_X11_hours vi_X11_hours c_113 (by decide) rfl rfl rfl (by decide) (Nat.le_of_ble_eq_true rfl) hC2 (fun v3 h4 hq5 => ?_)
      have k := k v3 h4 hq5
      exact go_iret dX11_doesTold_182 ⟨_, rfl, rfl⟩ ⟨rfl, _, rfl, k⟩
    · refine go_tsEq (tgt := 177) dX11_doesTold_25 ch (by decide) (by decide) rfl (by decide) ?_
      refine go_aload_n (pc2 := 178) dX11_doesTold_177 rfl rfl rfl ?_
      refine go_iload_n (pc2 := 179) dX11_doesTold_178 rfl rfl rfl ?_
      obtain ⟨Q1, hC2, k⟩ := k
      refine gcV_I (pc2 := 182) (dC := 2) (As := [.int (h.1 135 0)]) (st := []) rfl dX11_doesTold_179 rfl w_1631 ok_X11_hours vi_X11_hours c_113 (by decide) rfl rfl rfl (by decide) (Nat.le_of_ble_eq_true rfl) hC2 (fun v3 h4 hq5 => ?_)
      have k := k v3 h4 hq5
      exact go_iret dX11_doesTold_182 ⟨_, rfl, rfl⟩ ⟨rfl, _, rfl, k⟩
    · refine go_tsEq (tgt := 177) dX11_doesTold_25 ch (by decide) (by decide) rfl (by decide) ?_
      refine go_aload_n (pc2 := 178) dX11_doesTold_177 rfl rfl rfl ?_
      refine go_iload_n (pc2 := 179) dX11_doesTold_178 rfl rfl rfl ?_
      obtain ⟨Q1, hC2, k⟩ := k
      refine gcV_I (pc2 := 182) (dC := 2) (As := [.int (h.1 135 0)]) (st := []) rfl dX11_doesTold_179 rfl w_1631 ok_X11_hours vi_X11_hours c_113 (by decide) rfl rfl rfl (by decide) (Nat.le_of_ble_eq_true rfl) hC2 (fun v3 h4 hq5 => ?_)
      have k := k v3 h4 hq5
      exact go_iret dX11_doesTold_182 ⟨_, rfl, rfl⟩ ⟨rfl, _, rfl, k⟩
    · refine go_tsEq (tgt := 177) dX11_doesTold_25 ch (by decide) (by decide) rfl (by decide) ?_
      refine go_aload_n (pc2 := 178) dX11_doesTold_177 rfl rfl rfl ?_
      refine go_iload_n (pc2 := 179) dX11_doesTold_178 rfl rfl rfl ?_
      obtain ⟨Q1, hC2, k⟩ := k
      refine gcV_I (pc2 := 182) (dC := 2) (As := [.int (h.1 135 0)]) (st := []) rfl dX11_doesTold_179 rfl w_1631 ok_X11_hours vi_X11_hours c_113 (by decide) rfl rfl rfl (by decide) (Nat.le_of_ble_eq_true rfl) hC2 (fun v3 h4 hq5 => ?_)
      have k := k v3 h4 hq5
      exact go_iret dX11_doesTold_182 ⟨_, rfl, rfl⟩ ⟨rfl, _, rfl, k⟩
    · refine go_tsEq (tgt := 177) dX11_doesTold_25 ch (by decide) (by decide) rfl (by decide) ?_
      refine go_aload_n (pc2 := 178) dX11_doesTold_177 rfl rfl rfl ?_
      refine go_iload_n (pc2 := 179) dX11_doesTold_178 rfl rfl rfl ?_
      obtain ⟨Q1, hC2, k⟩ := k
      refine gcV_I (pc2 := 182) (dC := 2) (As := [.int (h.1 135 0)]) (st := []) rfl dX11_doesTold_179 rfl w_1631 ok_X11_hours vi_X11_hours c_113 (by decide) rfl rfl rfl (by decide) (Nat.le_of_ble_eq_true rfl) hC2 (fun v3 h4 hq5 => ?_)
      have k := k v3 h4 hq5
      exact go_iret dX11_doesTold_182 ⟨_, rfl, rfl⟩ ⟨rfl, _, rfl, k⟩
    · refine go_tsEq (tgt := 177) dX11_doesTold_25 ch (by decide) (by decide) rfl (by decide) ?_
      refine go_aload_n (pc2 := 178) dX11_doesTold_177 rfl rfl rfl ?_
      refine go_iload_n (pc2 := 179) dX11_doesTold_178 rfl rfl rfl ?_
      obtain ⟨Q1, hC2, k⟩ := k
      refine gcV_I (pc2 := 182) (dC := 2) (As := [.int (h.1 135 0)]) (st := []) rfl dX11_doesTold_179 rfl w_1631 ok_X11_hours vi_X11_hours c_113 (by decide) rfl rfl rfl (by decide) (Nat.le_of_ble_eq_true rfl) hC2 (fun v3 h4 hq5 => ?_)
      have k := k v3 h4 hq5
      exact go_iret dX11_doesTold_182 ⟨_, rfl, rfl⟩ ⟨rfl, _, rfl, k⟩
    · refine go_tsEq (tgt := 177) dX11_doesTold_25 ch (by decide) (by decide) rfl (by decide) ?_
      refine go_aload_n (pc2 := 178) dX11_doesTold_177 rfl rfl rfl ?_
      refine go_iload_n (pc2 := 179) dX11_doesTold_178 rfl rfl rfl ?_
      obtain ⟨Q1, hC2, k⟩ := k
      refine gcV_I (pc2 := 182) (dC := 2) (As := [.int (h.1 135 0)]) (st := []) rfl dX11_doesTold_179 rfl w_1631 ok_X11_hours vi_X11_hours c_113 (by decide) rfl rfl rfl (by decide) (Nat.le_of_ble_eq_true rfl) hC2 (fun v3 h4 hq5 => ?_)
      have k := k v3 h4 hq5
      exact go_iret dX11_doesTold_182 ⟨_, rfl, rfl⟩ ⟨rfl, _, rfl, k⟩
    · refine go_tsEq (tgt := 177) dX11_doesTold_25 ch (by decide) (by decide) rfl (by decide) ?_
      refine go_aload_n (pc2 := 178) dX11_doesTold_177 rfl rfl rfl ?_
      refine go_iload_n (pc2 := 179) dX11_doesTold_178 rfl rfl rfl ?_
      obtain ⟨Q1, hC2, k⟩ := k
      refine gcV_I (pc2 := 182) (dC := 2) (As := [.int (h.1 135 0)]) (st := []) rfl dX11_doesTold_179 rfl w_1631 ok_X11_hours vi_X11_hours c_113 (by decide) rfl rfl rfl (by decide) (Nat.le_of_ble_eq_true rfl) hC2 (fun v3 h4 hq5 => ?_)
      have k := k v3 h4 hq5
      exact go_iret dX11_doesTold_182 ⟨_, rfl, rfl⟩ ⟨rfl, _, rfl, k⟩
    · refine go_tsEq (tgt := 177) dX11_doesTold_25 ch (by decide) (by decide) rfl (by decide) ?_
      refine go_aload_n (pc2 := 178) dX11_doesTold_177 rfl rfl rfl ?_
      refine go_iload_n (pc2 := 179) dX11_doesTold_178 rfl rfl rfl ?_
      obtain ⟨Q1, hC2, k⟩ := k
      refine gcV_I (pc2 := 182) (dC := 2) (As := [.int (h.1 135 0)]) (st := []) rfl dX11_doesTold_179 rfl w_1631 ok_X11_hours vi_X11_hours c_113 (by decide) rfl rfl rfl (by decide) (Nat.le_of_ble_eq_true rfl) hC2 (fun v3 h4 hq5 => ?_)
      have k := k v3 h4 hq5
      exact go_iret dX11_doesTold_182 ⟨_, rfl, rfl⟩ ⟨rfl, _, rfl, k⟩
    · refine go_tsEq (tgt := 177) dX11_doesTold_25 ch (by decide) (by decide) rfl (by decide) ?_
      refine go_aload_n (pc2 := 178) dX11_doesTold_177 rfl rfl rfl ?_
      refine go_iload_n (pc2 := 179) dX11_doesTold_178 rfl rfl rfl ?_
      obtain ⟨Q1, hC2, k⟩ := k
      refine gcV_I (pc2 := 182) (dC := 2) (As := [.int (h.1 135 0)]) (st := []) rfl dX11_doesTold_179 rfl w_1631 ok_X11_hours vi_X11_hours c_113 (by decide) rfl rfl rfl (by decide) (Nat.le_of_ble_eq_true rfl) hC2 (fun v3 h4 hq5 => ?_)
      have k := k v3 h4 hq5
      exact go_iret dX11_doesTold_182 ⟨_, rfl, rfl⟩ ⟨rfl, _, rfl, k⟩
    · refine go_tsEq (tgt := 177) dX11_doesTold_25 ch (by decide) (by decide) rfl (by decide) ?_
      refine go_aload_n (pc2 := 178) dX11_doesTold_177 rfl rfl rfl ?_
      refine go_iload_n (pc2 := 179) dX11_doesTold_178 rfl rfl rfl ?_
      obtain ⟨Q1, hC2, k⟩ := k
      refine gcV_I (pc2 := 182) (dC := 2) (As := [.int (h.1 135 0)]) (st := []) rfl dX11_doesTold_179 rfl w_1631 ok_X11_hours vi_X11_hours c_113 (by decide) rfl rfl rfl (by decide) (Nat.le_of_ble_eq_true rfl) hC2 (fun v3 h4 hq5 => ?_)
      have k := k v3 h4 hq5
      exact go_iret dX11_doesTold_182 ⟨_, rfl, rfl⟩ ⟨rfl, _, rfl, k⟩
theorem e_X11_tells  {h : Hp} {Q : Int32 → Hp → Prop}  (k : (∀ g1 : Hp, g1 = (ui h 113 27 (0 : Int32)) → GoI 5 mX11_tells 9 [(0, .ref 113), (1, .int (0 : Int32)), (2, .int (1 : Int32))] [] g1 Q)) : CtI 5 mX11_tells [.ref 113] h Q := by
  refine Ct.of (by decide +kernel) (Nat.le_of_ble_eq_true rfl) ?_
  show GoI 5 mX11_tells 0 [(0, .ref 113)] [] h Q
  refine go_aload_n (pc2 := 1) dX11_tells_0 rfl rfl rfl ?_
  refine go_iconst (pc2 := 2) (v := (0 : Int32)) dX11_tells_1 rfl (by decide) ?_
  refine pf_1083 (pc2 := 5) rfl dX11_tells_2 rfl c_113 ?_
  obtain ⟨g1, eg1⟩ : ∃ y : Hp, y = (ui h 113 27 (0 : Int32)) := ⟨_, rfl⟩
  rw [← eg1]
  have k := k g1 eg1
  refine go_iconst (pc2 := 6) (v := (0 : Int32)) dX11_tells_5 rfl (by decide) ?_
  refine go_istore_n (pc2 := 7) (ls2 := [(0, .ref 113), (1, .int (0 : Int32))]) dX11_tells_6 rfl rfl rfl rfl rfl rfl ?_
  refine go_iconst (pc2 := 8) (v := (1 : Int32)) dX11_tells_7 rfl (by decide) ?_
  refine go_istore_n (pc2 := 9) (ls2 := [(0, .ref 113), (1, .int (0 : Int32)), (2, .int (1 : Int32))]) dX11_tells_8 rfl rfl rfl rfl rfl rfl ?_
  exact k
theorem b_X11_tells_9 {x1 : Int32} {x2 : Int32} {h : Hp} {Q : Int32 → Hp → Prop}  (k : ((x2 = 0 → GoI 5 mX11_tells 39 [(0, .ref 113), (1, .int x1), (2, .int x2)] [] h Q) ∧ (¬ x2 = 0 → ((x1 = 0 → GoI 5 mX11_tells 28 [(0, .ref 113), (1, .int x1)] [] h Q) ∧ (¬ x1 = 0 → (((h.1 113 26) ≤ (h.1 113 27) → GoI 5 mX11_tells 39 [(0, .ref 113), (1, .int x1), (2, .int x2)] [] h Q) ∧ (¬ ((h.1 113 26) ≤ (h.1 113 27)) → GoI 5 mX11_tells 28 [(0, .ref 113), (1, .int x1)] [] h Q))))))) : GoI 5 mX11_tells 9 [(0, .ref 113), (1, .int x1), (2, .int x2)] [] h Q := by
  refine go_iload_n (pc2 := 10) dX11_tells_9 rfl rfl rfl ?_
  refine go_if_eq (pc2 := 13) (tgt := 39) dX11_tells_10 rfl (by decide) (fun c => ?_) (fun c => ?_)
  · have k := k.1 c
    exact k
  · have k := k.2 c
    refine go_iload_n (pc2 := 14) dX11_tells_13 rfl rfl rfl ?_
    refine go_if_eq (pc2 := 17) (tgt := 28) dX11_tells_14 rfl (by decide) (fun c => ?_) (fun c => ?_)
    · have k := k.1 c
      exact Go.pick [0, 1] rfl k
    · have k := k.2 c
      refine go_aload_n (pc2 := 18) dX11_tells_17 rfl rfl rfl ?_
      refine gf_1083 (pc2 := 21) rfl dX11_tells_18 rfl c_113 fvi ?_
      refine go_aload_n (pc2 := 22) dX11_tells_21 rfl rfl rfl ?_
      refine gf_1082 (pc2 := 25) rfl dX11_tells_22 rfl c_113 fvi ?_
      refine go_icmp_ge (pc2 := 28) (tgt := 39) dX11_tells_25 rfl (by decide) (fun c => ?_) (fun c => ?_)
      · have k := k.1 c
        exact k
      · have k := k.2 c
        exact Go.pick [0, 1] rfl k
theorem b_X11_tells_39 {x1 : Int32} {x2 : Int32} {h : Hp} {Q : Int32 → Hp → Prop}  (k : ((x2 = 0 → GoI 5 mX11_tells 55 [(0, .ref 113), (1, .int x1)] [.int ((-1000 : Int32) - (h.1 113 27))] h Q) ∧ (¬ x2 = 0 → GoI 5 mX11_tells 55 [(0, .ref 113), (1, .int x1)] [.int (0 : Int32)] h Q))) : GoI 5 mX11_tells 39 [(0, .ref 113), (1, .int x1), (2, .int x2)] [] h Q := by
  refine go_iload_n (pc2 := 40) dX11_tells_39 rfl rfl rfl ?_
  refine go_if_eq (pc2 := 43) (tgt := 47) dX11_tells_40 rfl (by decide) (fun c => ?_) (fun c => ?_)
  · have k := k.1 c
    refine go_sipush (pc2 := 50) (v := (-1000 : Int32)) dX11_tells_47 rfl (by decide) ?_
    refine go_aload_n (pc2 := 51) dX11_tells_50 rfl rfl rfl ?_
    refine gf_1083 (pc2 := 54) rfl dX11_tells_51 rfl c_113 fvi ?_
    refine go_isub (pc2 := 55) dX11_tells_54 rfl ?_
    exact Go.pick [0, 1] rfl k
  · have k := k.2 c
    refine go_iconst (pc2 := 44) (v := (0 : Int32)) dX11_tells_43 rfl (by decide) ?_
    refine go_goto (tgt := 55) dX11_tells_44 (by decide) ?_
    exact Go.pick [0, 1] rfl k
theorem b_X11_tells_28 {x1 : Int32} {h : Hp} {Q : Int32 → Hp → Prop}  (k : (∃ Q1, CtI 3 mX11_reads [.ref 113] h Q1 ∧ ∀ (v3 : Int32) (h4 : Hp), Q1 v3 h4 → GoI 5 mX11_tells 9 [(0, .ref 113), (1, .int (x1 + 1)), (2, .int v3)] [] h4 Q)) : GoI 5 mX11_tells 28 [(0, .ref 113), (1, .int x1)] [] h Q := by
  refine go_aload_n (pc2 := 29) dX11_tells_28 rfl rfl rfl ?_
  obtain ⟨Q1, hC2, k⟩ := k
  refine gcV_I (pc2 := 32) (dC := 3) (As := []) (st := []) rfl dX11_tells_29 rfl w_1592 ok_X11_reads vi_X11_reads c_113 (by decide) rfl rfl rfl (by decide) (Nat.le_of_ble_eq_true rfl) hC2 (fun v3 h4 hq5 => ?_)
  have k := k v3 h4 hq5
  refine go_istore_n (pc2 := 33) (ls2 := [(0, .ref 113), (1, .int x1), (2, .int v3)]) dX11_tells_32 rfl rfl rfl rfl rfl rfl ?_
  refine go_iinc (pc2 := 36) (ls2 := [(0, .ref 113), (1, .int (x1 + 1)), (2, .int v3)]) (v := (x1 + 1)) dX11_tells_33 rfl rfl rfl rfl rfl rfl rfl ?_
  refine go_goto (tgt := 9) dX11_tells_36 (by decide) ?_
  exact k
theorem b_X11_tells_55 {x1 : Int32} {s0 : Int32} {h : Hp} {Q : Int32 → Hp → Prop}  (k : (∃ Q1, CtV 1 mX11_keeps [.ref 113] h Q1 ∧ ∀ h4 : Hp, Q1 h4 → (∀ g6 : Hp, g6 = (ui h4 113 27 (0 : Int32)) → GoI 5 mX11_tells 65 [(0, .ref 113), (1, .int x1), (3, .int s0)] [] g6 Q))) : GoI 5 mX11_tells 55 [(0, .ref 113), (1, .int x1)] [.int s0] h Q := by
  refine go_istore_n (pc2 := 56) (ls2 := [(0, .ref 113), (1, .int x1), (3, .int s0)]) dX11_tells_55 rfl rfl rfl rfl rfl rfl ?_
  refine go_aload_n (pc2 := 57) dX11_tells_56 rfl rfl rfl ?_
  obtain ⟨Q1, hC2, k⟩ := k
  refine gcV_V (pc2 := 60) (dC := 1) (As := []) (st := []) rfl dX11_tells_57 rfl w_1445 ok_X11_keeps vi_X11_keeps c_113 (by decide) rfl rfl rfl (by decide) (Nat.le_of_ble_eq_true rfl) hC2 (fun h4 hq5 => ?_)
  have k := k h4 hq5
  refine go_aload_n (pc2 := 61) dX11_tells_60 rfl rfl rfl ?_
  refine go_iconst (pc2 := 62) (v := (0 : Int32)) dX11_tells_61 rfl (by decide) ?_
  refine pf_1083 (pc2 := 65) rfl dX11_tells_62 rfl c_113 ?_
  obtain ⟨g6, eg6⟩ : ∃ y : Hp, y = (ui h4 113 27 (0 : Int32)) := ⟨_, rfl⟩
  rw [← eg6]
  have k := k g6 eg6
  exact k
theorem b_X11_tells_65 {x1 : Int32} {x3 : Int32} {h : Hp} {Q : Int32 → Hp → Prop}  (k : ((¬ x3 = 0 → (∀ g1 : Hp, g1 = (ui h 113 26 (0 : Int32)) → ((¬ x3 = 0 → Q x3 g1) ∧ (x3 = 0 → Q x1 g1)))) ∧ (x3 = 0 → (((h.1 113 26) ≤ (h.1 113 27) → (∀ g2 : Hp, g2 = (ui h 113 26 (0 : Int32)) → ((¬ x3 = 0 → Q x3 g2) ∧ (x3 = 0 → Q x1 g2)))) ∧ (¬ ((h.1 113 26) ≤ (h.1 113 27)) → (∃ Q3, CtI 3 mX11_reads [.ref 113] h Q3 ∧ ∀ (v5 : Int32) (h6 : Hp), Q3 v5 h6 → (∃ Q8, CtI 3 mX11_wrongTold [.ref 113] h6 Q8 ∧ ∀ (v10 : Int32) (h11 : Hp), Q8 v10 h11 → ((¬ v10 = 0 → (∃ Q13, CtV 1 mX11_laysBack [.ref 113] h11 Q13 ∧ ∀ h16 : Hp, Q13 h16 → GoI 5 mX11_tells 119 [(0, .ref 113), (1, .int x1), (3, .int ((-2000 : Int32) - (h.1 113 27)))] [] h16 Q)) ∧ (v10 = 0 → (∃ Q18, CtI 4 mX11_doesTold [.ref 113] h11 Q18 ∧ ∀ (v20 : Int32) (h21 : Hp), Q18 v20 h21 → GoI 5 mX11_tells 119 [(0, .ref 113), (1, .int x1), (3, .int x3)] [] h21 Q)))))))))) : GoI 5 mX11_tells 65 [(0, .ref 113), (1, .int x1), (3, .int x3)] [] h Q := by
  refine go_iload_n (pc2 := 66) dX11_tells_65 rfl rfl rfl ?_
  refine go_if_ne (pc2 := 69) (tgt := 122) dX11_tells_66 rfl (by decide) (fun c => ?_) (fun c => ?_)
  · have k := k.1 c
    refine go_aload_n (pc2 := 123) dX11_tells_122 rfl rfl rfl ?_
    refine go_iconst (pc2 := 124) (v := (0 : Int32)) dX11_tells_123 rfl (by decide) ?_
    refine pf_1082 (pc2 := 127) rfl dX11_tells_124 rfl c_113 ?_
    obtain ⟨g1, eg1⟩ : ∃ y : Hp, y = (ui h 113 26 (0 : Int32)) := ⟨_, rfl⟩
    rw [← eg1]
    have k := k g1 eg1
    refine go_iload_n (pc2 := 128) dX11_tells_127 rfl rfl rfl ?_
    refine go_if_ne (pc2 := 131) (tgt := 135) dX11_tells_128 rfl (by decide) (fun c => ?_) (fun c => ?_)
    · have k := k.1 c
      refine go_iload_n (pc2 := 136) dX11_tells_135 rfl rfl rfl ?_
      exact go_iret dX11_tells_136 ⟨_, rfl, rfl⟩ ⟨rfl, _, rfl, k⟩
    · have k := k.2 c
      refine go_iload_n (pc2 := 132) dX11_tells_131 rfl rfl rfl ?_
      refine go_goto (tgt := 136) dX11_tells_132 (by decide) ?_
      exact go_iret dX11_tells_136 ⟨_, rfl, rfl⟩ ⟨rfl, _, rfl, k⟩
  · have k := k.2 c
    refine go_aload_n (pc2 := 70) dX11_tells_69 rfl rfl rfl ?_
    refine gf_1083 (pc2 := 73) rfl dX11_tells_70 rfl c_113 fvi ?_
    refine go_aload_n (pc2 := 74) dX11_tells_73 rfl rfl rfl ?_
    refine gf_1082 (pc2 := 77) rfl dX11_tells_74 rfl c_113 fvi ?_
    refine go_icmp_ge (pc2 := 80) (tgt := 122) dX11_tells_77 rfl (by decide) (fun c => ?_) (fun c => ?_)
    · have k := k.1 c
      refine go_aload_n (pc2 := 123) dX11_tells_122 rfl rfl rfl ?_
      refine go_iconst (pc2 := 124) (v := (0 : Int32)) dX11_tells_123 rfl (by decide) ?_
      refine pf_1082 (pc2 := 127) rfl dX11_tells_124 rfl c_113 ?_
      obtain ⟨g2, eg2⟩ : ∃ y : Hp, y = (ui h 113 26 (0 : Int32)) := ⟨_, rfl⟩
      rw [← eg2]
      have k := k g2 eg2
      refine go_iload_n (pc2 := 128) dX11_tells_127 rfl rfl rfl ?_
      refine go_if_ne (pc2 := 131) (tgt := 135) dX11_tells_128 rfl (by decide) (fun c => ?_) (fun c => ?_)
      · have k := k.1 c
        refine go_iload_n (pc2 := 136) dX11_tells_135 rfl rfl rfl ?_
        exact go_iret dX11_tells_136 ⟨_, rfl, rfl⟩ ⟨rfl, _, rfl, k⟩
      · have k := k.2 c
        refine go_iload_n (pc2 := 132) dX11_tells_131 rfl rfl rfl ?_
        refine go_goto (tgt := 136) dX11_tells_132 (by decide) ?_
        exact go_iret dX11_tells_136 ⟨_, rfl, rfl⟩ ⟨rfl, _, rfl, k⟩
    · have k := k.2 c
      refine go_aload_n (pc2 := 81) dX11_tells_80 rfl rfl rfl ?_
      refine gf_1083 (pc2 := 84) rfl dX11_tells_81 rfl c_113 fvi ?_
      refine go_istore (pc2 := 86) (ls2 := [(0, .ref 113), (1, .int x1), (3, .int x3), (4, .int (h.1 113 27))]) dX11_tells_84 rfl rfl rfl rfl rfl ?_
      refine go_aload_n (pc2 := 87) dX11_tells_86 rfl rfl rfl ?_
      obtain ⟨Q3, hC4, k⟩ := k
      refine gcV_I (pc2 := 90) (dC := 3) (As := []) (st := []) rfl dX11_tells_87 rfl w_1592 ok_X11_reads vi_X11_reads c_113 (by decide) rfl rfl rfl (by decide) (Nat.le_of_ble_eq_true rfl) hC4 (fun v5 h6 hq7 => ?_)
      have k := k v5 h6 hq7
      refine go_istore (pc2 := 92) (ls2 := [(0, .ref 113), (1, .int x1), (3, .int x3), (4, .int (h.1 113 27)), (5, .int v5)]) dX11_tells_90 rfl rfl rfl rfl rfl ?_
      refine go_aload_n (pc2 := 93) dX11_tells_92 rfl rfl rfl ?_
      obtain ⟨Q8, hC9, k⟩ := k
      refine gcV_I (pc2 := 96) (dC := 3) (As := []) (st := []) rfl dX11_tells_93 rfl w_1617 ok_X11_wrongTold vi_X11_wrongTold c_113 (by decide) rfl rfl rfl (by decide) (Nat.le_of_ble_eq_true rfl) hC9 (fun v10 h11 hq12 => ?_)
      have k := k v10 h11 hq12
      refine go_if_ne (pc2 := 99) (tgt := 108) dX11_tells_96 rfl (by decide) (fun c => ?_) (fun c => ?_)
      · have k := k.1 c
        refine go_sipush (pc2 := 111) (v := (-2000 : Int32)) dX11_tells_108 rfl (by decide) ?_
        refine go_iload (pc2 := 113) dX11_tells_111 rfl rfl ?_
        refine go_isub (pc2 := 114) dX11_tells_113 rfl ?_
        refine go_istore_n (pc2 := 115) (ls2 := [(0, .ref 113), (1, .int x1), (3, .int ((-2000 : Int32) - (h.1 113 27))), (4, .int (h.1 113 27)), (5, .int v5)]) dX11_tells_114 rfl rfl rfl rfl rfl rfl ?_
        refine go_aload_n (pc2 := 116) dX11_tells_115 rfl rfl rfl ?_
        obtain ⟨Q13, hC14, k⟩ := k
        refine gcV_V (pc2 := 119) (dC := 1) (As := []) (st := []) rfl dX11_tells_116 rfl w_1456 ok_X11_laysBack vi_X11_laysBack c_113 (by decide) rfl rfl rfl (by decide) (Nat.le_of_ble_eq_true rfl) hC14 (fun h16 hq17 => ?_)
        have k := k h16 hq17
        exact Go.pick [0, 1, 2] rfl k
      · have k := k.2 c
        refine go_aload_n (pc2 := 100) dX11_tells_99 rfl rfl rfl ?_
        obtain ⟨Q18, hC19, k⟩ := k
        refine gcV_I (pc2 := 103) (dC := 4) (As := []) (st := []) rfl dX11_tells_100 rfl w_1621 ok_X11_doesTold vi_X11_doesTold c_113 (by decide) rfl rfl rfl (by decide) (Nat.le_of_ble_eq_true rfl) hC19 (fun v20 h21 hq22 => ?_)
        have k := k v20 h21 hq22
        refine go_istore (pc2 := 105) (ls2 := [(0, .ref 113), (1, .int x1), (3, .int x3), (4, .int (h.1 113 27)), (5, .int v5), (6, .int v20)]) dX11_tells_103 rfl rfl rfl rfl rfl ?_
        refine go_goto (tgt := 119) dX11_tells_105 (by decide) ?_
        exact Go.pick [0, 1, 2] rfl k
theorem b_X11_tells_119 {x1 : Int32} {x3 : Int32} {h : Hp} {Q : Int32 → Hp → Prop}  (k : GoI 5 mX11_tells 65 [(0, .ref 113), (1, .int x1), (3, .int x3)] [] h Q) : GoI 5 mX11_tells 119 [(0, .ref 113), (1, .int x1), (3, .int x3)] [] h Q := by
  refine go_goto (tgt := 65) dX11_tells_119 (by decide) ?_
  exact k
theorem e_X11_image  {h : Hp} {Q : Int32 → Hp → Prop}  (k : (∀ g1 : Hp, g1 = (uc h 116 (va_cpy (h.1 114) (h.1 116) 0 0 49)) → (∀ g2 : Hp, g2 = (ul g1 113 5 (g1.2 113 4)) → (∀ g3 : Hp, g3 = (ui g2 113 3 (1 : Int32)) → Q (g3.1 114 3) g3)))) : CtI 1 mX11_image [.ref 113] h Q := by
  refine Ct.of (by decide +kernel) (Nat.le_of_ble_eq_true rfl) ?_
  show GoI 1 mX11_image 0 [(0, .ref 113)] [] h Q
  refine go_aload_n (pc2 := 1) dX11_image_0 rfl rfl rfl ?_
  refine gf_1056 (pc2 := 4) rfl dX11_image_1 rfl c_113 (fvs r_113_0) ?_
  refine go_iconst (pc2 := 5) (v := (0 : Int32)) dX11_image_4 rfl (by decide) ?_
  refine go_aload_n (pc2 := 6) dX11_image_5 rfl rfl rfl ?_
  refine gf_1058 (pc2 := 9) rfl dX11_image_6 rfl c_113 (fvs r_113_2) ?_
  refine go_iconst (pc2 := 10) (v := (0 : Int32)) dX11_image_9 rfl (by decide) ?_
  refine go_bipush (pc2 := 12) (v := (49 : Int32)) dX11_image_10 rfl (by decide) ?_
  refine go_copyi (pc2 := 15) rfl dX11_image_12 rfl fin_w0 w_1449 w_431 w_430 w_13 (by decide) (Nat.le_of_ble_eq_true rfl) c_114 c_116 (by decide) (by decide) (by decide) (by decide : _ = 0) (by decide : _ = 0) (by decide : _ = 49) (by decide) (by decide) ?_
  obtain ⟨g1, eg1⟩ : ∃ y : Hp, y = (uc h 116 (va_cpy (h.1 114) (h.1 116) 0 0 49)) := ⟨_, rfl⟩
  rw [← eg1]
  have k := k g1 eg1
  refine go_aload_n (pc2 := 16) dX11_image_15 rfl rfl rfl ?_
  refine go_aload_n (pc2 := 17) dX11_image_16 rfl rfl rfl ?_
  refine gf_1060 (pc2 := 20) rfl dX11_image_17 rfl c_113 fvl ?_
  refine pf_1061 (pc2 := 23) rfl dX11_image_20 rfl c_113 ?_
  obtain ⟨g2, eg2⟩ : ∃ y : Hp, y = (ul g1 113 5 (g1.2 113 4)) := ⟨_, rfl⟩
  rw [← eg2]
  have k := k g2 eg2
  refine go_aload_n (pc2 := 24) dX11_image_23 rfl rfl rfl ?_
  refine go_iconst (pc2 := 25) (v := (1 : Int32)) dX11_image_24 rfl (by decide) ?_
  refine pf_1059 (pc2 := 28) rfl dX11_image_25 rfl c_113 rfl rfl ?_
  obtain ⟨g3, eg3⟩ : ∃ y : Hp, y = (ui g2 113 3 (1 : Int32)) := ⟨_, rfl⟩
  rw [← eg3]
  have k := k g3 eg3
  refine go_aload_n (pc2 := 29) dX11_image_28 rfl rfl rfl ?_
  refine gf_1056 (pc2 := 32) rfl dX11_image_29 rfl c_113 (fvs r_113_0) ?_
  refine go_iconst (pc2 := 33) (v := (3 : Int32)) dX11_image_32 rfl (by decide) ?_
  refine go_iaload (pc2 := 34) (j := 3) dX11_image_33 rfl c_114 (vp_c rfl) rfl ?_
  exact go_iret dX11_image_34 ⟨_, rfl, rfl⟩ ⟨rfl, _, rfl, k⟩
theorem e_X11_on  {h : Hp} {Q : Int32 → Hp → Prop}  (k : ((¬ (h.1 113 3) = 0 → (∀ g1 : Hp, g1 = (uc h 114 (va_cpy (h.1 116) (h.1 114) 0 0 49)) → (∀ g2 : Hp, g2 = (ul g1 113 4 (g1.2 113 5)) → Q (g2.1 114 3) g2))) ∧ ((h.1 113 3) = 0 → (∃ Q3, CtI 0 mX11_no [.ref 113, .int (-3 : Int32)] h Q3 ∧ ∀ (v5 : Int32) (h6 : Hp), Q3 v5 h6 → Q v5 h6)))) : CtI 1 mX11_on [.ref 113] h Q := by
  refine Ct.of (by decide +kernel) (Nat.le_of_ble_eq_true rfl) ?_
  show GoI 1 mX11_on 0 [(0, .ref 113)] [] h Q
  refine go_aload_n (pc2 := 1) dX11_on_0 rfl rfl rfl ?_
  refine gf_1059 (pc2 := 4) rfl dX11_on_1 rfl c_113 fvi ?_
  refine go_if_ne (pc2 := 7) (tgt := 14) dX11_on_4 rfl (by decide) (fun c => ?_) (fun c => ?_)
  · have k := k.1 c
    refine go_aload_n (pc2 := 15) dX11_on_14 rfl rfl rfl ?_
    refine gf_1058 (pc2 := 18) rfl dX11_on_15 rfl c_113 (fvs r_113_2) ?_
    refine go_iconst (pc2 := 19) (v := (0 : Int32)) dX11_on_18 rfl (by decide) ?_
    refine go_aload_n (pc2 := 20) dX11_on_19 rfl rfl rfl ?_
    refine gf_1056 (pc2 := 23) rfl dX11_on_20 rfl c_113 (fvs r_113_0) ?_
    refine go_iconst (pc2 := 24) (v := (0 : Int32)) dX11_on_23 rfl (by decide) ?_
    refine go_bipush (pc2 := 26) (v := (49 : Int32)) dX11_on_24 rfl (by decide) ?_
    refine go_copyi (pc2 := 29) rfl dX11_on_26 rfl fin_w0 w_1449 w_431 w_430 w_13 (by decide) (Nat.le_of_ble_eq_true rfl) c_116 c_114 (by decide) (by decide) (by decide) (by decide : _ = 0) (by decide : _ = 0) (by decide : _ = 49) (by decide) (by decide) ?_
    obtain ⟨g1, eg1⟩ : ∃ y : Hp, y = (uc h 114 (va_cpy (h.1 116) (h.1 114) 0 0 49)) := ⟨_, rfl⟩
    rw [← eg1]
    have k := k g1 eg1
    refine go_aload_n (pc2 := 30) dX11_on_29 rfl rfl rfl ?_
    refine go_aload_n (pc2 := 31) dX11_on_30 rfl rfl rfl ?_
    refine gf_1061 (pc2 := 34) rfl dX11_on_31 rfl c_113 fvl ?_
    refine pf_1060 (pc2 := 37) rfl dX11_on_34 rfl c_113 ?_
    obtain ⟨g2, eg2⟩ : ∃ y : Hp, y = (ul g1 113 4 (g1.2 113 5)) := ⟨_, rfl⟩
    rw [← eg2]
    have k := k g2 eg2
    refine go_aload_n (pc2 := 38) dX11_on_37 rfl rfl rfl ?_
    refine gf_1056 (pc2 := 41) rfl dX11_on_38 rfl c_113 (fvs r_113_0) ?_
    refine go_iconst (pc2 := 42) (v := (3 : Int32)) dX11_on_41 rfl (by decide) ?_
    refine go_iaload (pc2 := 43) (j := 3) dX11_on_42 rfl c_114 (vp_c rfl) rfl ?_
    exact go_iret dX11_on_43 ⟨_, rfl, rfl⟩ ⟨rfl, _, rfl, k⟩
  · have k := k.2 c
    refine go_aload_n (pc2 := 8) dX11_on_7 rfl rfl rfl ?_
    refine go_bipush (pc2 := 10) (v := (-3 : Int32)) dX11_on_8 rfl (by decide) ?_
    obtain ⟨Q3, hC4, k⟩ := k
    refine gcV_I (pc2 := 13) (dC := 0) (As := [.int (-3 : Int32)]) (st := []) rfl dX11_on_10 rfl w_1161 ok_X11_no vi_X11_no c_113 (by decide) rfl rfl rfl (by decide) (Nat.le_of_ble_eq_true rfl) hC4 (fun v5 h6 hq7 => ?_)
    have k := k v5 h6 hq7
    exact go_iret dX11_on_13 ⟨_, rfl, rfl⟩ ⟨rfl, _, rfl, k⟩
theorem e_X11_count {x1 : Int32} {h : Hp} {Q : Int32 → Hp → Prop}  (k : (∃ Q1, CtI 0 mX11_isIn [.long (x1).toInt64, .long (11 : Int64), .long (16 : Int64)] h Q1 ∧ ∀ (v3 : Int32) (h4 : Hp), Q1 v3 h4 → ((v3 = 0 → ((x1 = (0 : Int32) → Q (h4.1 114 3) h4) ∧ (¬ x1 = (0 : Int32) → ((x1 = (1 : Int32) → (vp_in (x1 - (1 : Int32)) 49 ∧ Q (h4.1 114 ((x1 - (1 : Int32))).toNatClampNeg) h4)) ∧ (¬ x1 = (1 : Int32) → ((x1 = (2 : Int32) → (vp_in (x1 - (1 : Int32)) 49 ∧ Q (h4.1 114 ((x1 - (1 : Int32))).toNatClampNeg) h4)) ∧ (¬ x1 = (2 : Int32) → ((x1 = (3 : Int32) → (vp_in (x1 - (1 : Int32)) 49 ∧ Q (h4.1 114 ((x1 - (1 : Int32))).toNatClampNeg) h4)) ∧ (¬ x1 = (3 : Int32) → ((x1 = (4 : Int32) → Q (h4.1 113 26) h4) ∧ (¬ x1 = (4 : Int32) → ((x1 = (5 : Int32) → (∃ Q6, CtI 0 mX11_allDemand [.ref 113] h4 Q6 ∧ ∀ (v8 : Int32) (h9 : Hp), Q6 v8 h9 → Q v8 h9)) ∧ (¬ x1 = (5 : Int32) → Q (-9 : Int32) h4))))))))))))) ∧ (¬ v3 = 0 → (vp_in (x1 - (10 : Int32)) 7 ∧ Q (h4.1 117 ((x1 - (10 : Int32))).toNatClampNeg) h4))))) : CtI 1 mX11_count [.ref 113, .int x1] h Q := by
  refine Ct.of (by decide +kernel) (Nat.le_of_ble_eq_true rfl) ?_
  show GoI 1 mX11_count 0 [(0, .ref 113), (1, .int x1)] [] h Q
  refine go_iload_n (pc2 := 1) dX11_count_0 rfl rfl rfl ?_
  refine go_i2l (pc2 := 2) dX11_count_1 rfl ?_
  refine go_ldc2 (pc2 := 5) dX11_count_2 rfl rfl w_1249 ?_
  refine go_ldc2 (pc2 := 8) dX11_count_5 rfl rfl w_1644 ?_
  obtain ⟨Q1, hC2, k⟩ := k
  refine gcS_I (pc2 := 11) (dC := 0) (As := [.long (x1).toInt64, .long (11 : Int64), .long (16 : Int64)]) (st := []) rfl dX11_count_8 rfl w_1177 ok_X11_isIn w_1178 rfl (by decide) (Nat.le_of_ble_eq_true rfl) hC2 (fun v3 h4 hq5 => ?_)
  have k := k v3 h4 hq5
  refine go_if_eq (pc2 := 14) (tgt := 24) dX11_count_11 rfl (by decide) (fun c => ?_) (fun c => ?_)
  · have k := k.1 c
    refine go_iload_n (pc2 := 25) dX11_count_24 rfl rfl rfl ?_
    by_cases cs0 : x1 = (0 : Int32)
    · have k := k.1 cs0
      refine go_tsEq (tgt := 64) dX11_count_25 cs0 (by decide) (by decide) rfl (by decide) ?_
      refine go_aload_n (pc2 := 65) dX11_count_64 rfl rfl rfl ?_
      refine gf_1056 (pc2 := 68) rfl dX11_count_65 rfl c_113 (fvs r_113_0) ?_
      refine go_iconst (pc2 := 69) (v := (3 : Int32)) dX11_count_68 rfl (by decide) ?_
      refine go_iaload (pc2 := 70) (j := 3) dX11_count_69 rfl c_114 (vp_c rfl) rfl ?_
      exact go_iret dX11_count_70 ⟨_, rfl, rfl⟩ ⟨rfl, _, rfl, k⟩
    have k := k.2 cs0
    by_cases cs1 : x1 = (1 : Int32)
    · have k := k.1 cs1
      refine go_tsEq (tgt := 71) dX11_count_25 cs1 (by decide) (by decide) rfl (by decide) ?_
      refine go_aload_n (pc2 := 72) dX11_count_71 rfl rfl rfl ?_
      refine gf_1056 (pc2 := 75) rfl dX11_count_72 rfl c_113 (fvs r_113_0) ?_
      refine go_iload_n (pc2 := 76) dX11_count_75 rfl rfl rfl ?_
      refine go_iconst (pc2 := 77) (v := (1 : Int32)) dX11_count_76 rfl (by decide) ?_
      refine go_isub (pc2 := 78) dX11_count_77 rfl ?_
      obtain ⟨y13, k⟩ := k
      refine go_iaload (pc2 := 79) (j := ((x1 - (1 : Int32))).toNatClampNeg) dX11_count_78 rfl c_114 y13 rfl ?_
      exact go_iret dX11_count_79 ⟨_, rfl, rfl⟩ ⟨rfl, _, rfl, k⟩
    have k := k.2 cs1
    by_cases cs2 : x1 = (2 : Int32)
    · have k := k.1 cs2
      refine go_tsEq (tgt := 71) dX11_count_25 cs2 (by decide) (by decide) rfl (by decide) ?_
      refine go_aload_n (pc2 := 72) dX11_count_71 rfl rfl rfl ?_
      refine gf_1056 (pc2 := 75) rfl dX11_count_72 rfl c_113 (fvs r_113_0) ?_
      refine go_iload_n (pc2 := 76) dX11_count_75 rfl rfl rfl ?_
      refine go_iconst (pc2 := 77) (v := (1 : Int32)) dX11_count_76 rfl (by decide) ?_
      refine go_isub (pc2 := 78) dX11_count_77 rfl ?_
      obtain ⟨y12, k⟩ := k
      refine go_iaload (pc2 := 79) (j := ((x1 - (1 : Int32))).toNatClampNeg) dX11_count_78 rfl c_114 y12 rfl ?_
      exact go_iret dX11_count_79 ⟨_, rfl, rfl⟩ ⟨rfl, _, rfl, k⟩
    have k := k.2 cs2
    by_cases cs3 : x1 = (3 : Int32)
    · have k := k.1 cs3
      refine go_tsEq (tgt := 71) dX11_count_25 cs3 (by decide) (by decide) rfl (by decide) ?_
      refine go_aload_n (pc2 := 72) dX11_count_71 rfl rfl rfl ?_
      refine gf_1056 (pc2 := 75) rfl dX11_count_72 rfl c_113 (fvs r_113_0) ?_
      refine go_iload_n (pc2 := 76) dX11_count_75 rfl rfl rfl ?_
      refine go_iconst (pc2 := 77) (v := (1 : Int32)) dX11_count_76 rfl (by decide) ?_
      refine go_isub (pc2 := 78) dX11_count_77 rfl ?_
      obtain ⟨y11, k⟩ := k
      refine go_iaload (pc2 := 79) (j := ((x1 - (1 : Int32))).toNatClampNeg) dX11_count_78 rfl c_114 y11 rfl ?_
      exact go_iret dX11_count_79 ⟨_, rfl, rfl⟩ ⟨rfl, _, rfl, k⟩
    have k := k.2 cs3
    by_cases cs4 : x1 = (4 : Int32)
    · have k := k.1 cs4
      refine go_tsEq (tgt := 80) dX11_count_25 cs4 (by decide) (by decide) rfl (by decide) ?_
      refine go_aload_n (pc2 := 81) dX11_count_80 rfl rfl rfl ?_
      refine gf_1082 (pc2 := 84) rfl dX11_count_81 rfl c_113 fvi ?_
      exact go_iret dX11_count_84 ⟨_, rfl, rfl⟩ ⟨rfl, _, rfl, k⟩
    have k := k.2 cs4
    by_cases cs5 : x1 = (5 : Int32)
    · have k := k.1 cs5
      refine go_tsEq (tgt := 85) dX11_count_25 cs5 (by decide) (by decide) rfl (by decide) ?_
      refine go_aload_n (pc2 := 86) dX11_count_85 rfl rfl rfl ?_
      obtain ⟨Q6, hC7, k⟩ := k
      refine gcV_I (pc2 := 89) (dC := 0) (As := []) (st := []) rfl dX11_count_86 rfl w_1394 ok_X11_allDemand vi_X11_allDemand c_113 (by decide) rfl rfl rfl (by decide) (Nat.le_of_ble_eq_true rfl) hC7 (fun v8 h9 hq10 => ?_)
      have k := k v8 h9 hq10
      exact go_iret dX11_count_89 ⟨_, rfl, rfl⟩ ⟨rfl, _, rfl, k⟩
    have k := k.2 cs5
    by_cases cb : x1.toInt < 0 ∨ 5 < x1.toInt
    · refine go_tsOut (tgt := 90) dX11_count_25 cb (by decide) ?_
      refine go_bipush (pc2 := 92) (v := (-9 : Int32)) dX11_count_90 rfl (by decide) ?_
      exact go_iret dX11_count_92 ⟨_, rfl, rfl⟩ ⟨rfl, _, rfl, k⟩
    · exfalso
      have e0 := i32_ne cs0 (by decide : ((0 : Int32)).toInt = 0)
      have e1 := i32_ne cs1 (by decide : ((1 : Int32)).toInt = 1)
      have e2 := i32_ne cs2 (by decide : ((2 : Int32)).toInt = 2)
      have e3 := i32_ne cs3 (by decide : ((3 : Int32)).toInt = 3)
      have e4 := i32_ne cs4 (by decide : ((4 : Int32)).toInt = 4)
      have e5 := i32_ne cs5 (by decide : ((5 : Int32)).toInt = 5)
      omega
  · have k := k.2 c
    refine go_aload_n (pc2 := 15) dX11_count_14 rfl rfl rfl ?_
    refine gf_1062 (pc2 := 18) rfl dX11_count_15 rfl c_113 (fvs r_113_6) ?_
    refine go_iload_n (pc2 := 19) dX11_count_18 rfl rfl rfl ?_
    refine go_bipush (pc2 := 21) (v := (10 : Int32)) dX11_count_19 rfl (by decide) ?_
    refine go_isub (pc2 := 22) dX11_count_21 rfl ?_
    obtain ⟨y14, k⟩ := k
    refine go_iaload (pc2 := 23) (j := ((x1 - (10 : Int32))).toNatClampNeg) dX11_count_22 rfl c_117 y14 rfl ?_
    exact go_iret dX11_count_23 ⟨_, rfl, rfl⟩ ⟨rfl, _, rfl, k⟩
theorem e_X11_hour {x1 : Int32} {x2 : Int32} {h : Hp} {Q : Int32 → Hp → Prop}  (k : (∃ Q1, CtI 1 mX11_isHour [.ref 113, .int x1] h Q1 ∧ ∀ (v3 : Int32) (h4 : Hp), Q1 v3 h4 → ((¬ v3 = 0 → (∃ Q6, CtI 0 mX11_isIn [.long (x2).toInt64, .long (0 : Int64), .long (2 : Int64)] h4 Q6 ∧ ∀ (v8 : Int32) (h9 : Hp), Q6 v8 h9 → ((¬ v8 = 0 → (vp_in (((4 : Int32) + ((5 : Int32) * x2)) + x1) 49 ∧ Q (h9.1 114 ((((4 : Int32) + ((5 : Int32) * x2)) + x1)).toNatClampNeg) h9)) ∧ (v8 = 0 → (∃ Q12, CtI 0 mX11_no [.ref 113, .int (-2 : Int32)] h9 Q12 ∧ ∀ (v14 : Int32) (h15 : Hp), Q12 v14 h15 → Q v14 h15))))) ∧ (v3 = 0 → (∃ Q17, CtI 0 mX11_no [.ref 113, .int (-1 : Int32)] h4 Q17 ∧ ∀ (v19 : Int32) (h20 : Hp), Q17 v19 h20 → Q v19 h20))))) : CtI 2 mX11_hour [.ref 113, .int x1, .int x2] h Q := by
  refine Ct.of (by decide +kernel) (Nat.le_of_ble_eq_true rfl) ?_
  show GoI 2 mX11_hour 0 [(0, .ref 113), (1, .int x1), (2, .int x2)] [] h Q
  refine go_aload_n (pc2 := 1) dX11_hour_0 rfl rfl rfl ?_
  refine go_iload_n (pc2 := 2) dX11_hour_1 rfl rfl rfl ?_
  obtain ⟨Q1, hC2, k⟩ := k
  refine gcV_I (pc2 := 5) (dC := 1) (As := [.int x1]) (st := []) rfl dX11_hour_2 rfl w_1173 ok_X11_isHour vi_X11_isHour c_113 (by decide) rfl rfl rfl (by decide) (Nat.le_of_ble_eq_true rfl) hC2 (fun v3 h4 hq5 => ?_)
  have k := k v3 h4 hq5
  refine go_if_ne (pc2 := 8) (tgt := 14) dX11_hour_5 rfl (by decide) (fun c => ?_) (fun c => ?_)
  · have k := k.1 c
    refine go_iload_n (pc2 := 15) dX11_hour_14 rfl rfl rfl ?_
    refine go_i2l (pc2 := 16) dX11_hour_15 rfl ?_
    refine go_lconst (pc2 := 17) (v := (0 : Int64)) dX11_hour_16 rfl (by decide) ?_
    refine go_ldc2 (pc2 := 20) dX11_hour_17 rfl rfl w_1244 ?_
    obtain ⟨Q6, hC7, k⟩ := k
    refine gcS_I (pc2 := 23) (dC := 0) (As := [.long (x2).toInt64, .long (0 : Int64), .long (2 : Int64)]) (st := []) rfl dX11_hour_20 rfl w_1177 ok_X11_isIn w_1178 rfl (by decide) (Nat.le_of_ble_eq_true rfl) hC7 (fun v8 h9 hq10 => ?_)
    have k := k v8 h9 hq10
    refine go_if_ne (pc2 := 26) (tgt := 33) dX11_hour_23 rfl (by decide) (fun c => ?_) (fun c => ?_)
    · have k := k.1 c
      refine go_aload_n (pc2 := 34) dX11_hour_33 rfl rfl rfl ?_
      refine gf_1056 (pc2 := 37) rfl dX11_hour_34 rfl c_113 (fvs r_113_0) ?_
      refine go_iconst (pc2 := 38) (v := (4 : Int32)) dX11_hour_37 rfl (by decide) ?_
      refine go_iconst (pc2 := 39) (v := (5 : Int32)) dX11_hour_38 rfl (by decide) ?_
      refine go_iload_n (pc2 := 40) dX11_hour_39 rfl rfl rfl ?_
      refine go_imul (pc2 := 41) dX11_hour_40 rfl ?_
      refine go_iadd (pc2 := 42) dX11_hour_41 rfl ?_
      refine go_iload_n (pc2 := 43) dX11_hour_42 rfl rfl rfl ?_
      refine go_iadd (pc2 := 44) dX11_hour_43 rfl ?_
      obtain ⟨y11, k⟩ := k
      refine go_iaload (pc2 := 45) (j := ((((4 : Int32) + ((5 : Int32) * x2)) + x1)).toNatClampNeg) dX11_hour_44 rfl c_114 y11 rfl ?_
      exact go_iret dX11_hour_45 ⟨_, rfl, rfl⟩ ⟨rfl, _, rfl, k⟩
    · have k := k.2 c
      refine go_aload_n (pc2 := 27) dX11_hour_26 rfl rfl rfl ?_
      refine go_bipush (pc2 := 29) (v := (-2 : Int32)) dX11_hour_27 rfl (by decide) ?_
      obtain ⟨Q12, hC13, k⟩ := k
      refine gcV_I (pc2 := 32) (dC := 0) (As := [.int (-2 : Int32)]) (st := []) rfl dX11_hour_29 rfl w_1161 ok_X11_no vi_X11_no c_113 (by decide) rfl rfl rfl (by decide) (Nat.le_of_ble_eq_true rfl) hC13 (fun v14 h15 hq16 => ?_)
      have k := k v14 h15 hq16
      exact go_iret dX11_hour_32 ⟨_, rfl, rfl⟩ ⟨rfl, _, rfl, k⟩
  · have k := k.2 c
    refine go_aload_n (pc2 := 9) dX11_hour_8 rfl rfl rfl ?_
    refine go_iconst (pc2 := 10) (v := (-1 : Int32)) dX11_hour_9 rfl (by decide) ?_
    obtain ⟨Q17, hC18, k⟩ := k
    refine gcV_I (pc2 := 13) (dC := 0) (As := [.int (-1 : Int32)]) (st := []) rfl dX11_hour_10 rfl w_1161 ok_X11_no vi_X11_no c_113 (by decide) rfl rfl rfl (by decide) (Nat.le_of_ble_eq_true rfl) hC18 (fun v19 h20 hq21 => ?_)
    have k := k v19 h20 hq21
    exact go_iret dX11_hour_13 ⟨_, rfl, rfl⟩ ⟨rfl, _, rfl, k⟩
