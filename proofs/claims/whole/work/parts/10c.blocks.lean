theorem e_X10_letter {x1 : Int32} {h : Hp} {Q : Int32 → Hp → Prop}  (k : ((0 ≤ x1 → (((255 : Int32) < x1 → (∃ Q1, CtI 0 mX10_refuse [.ref 0, .int (-6 : Int32)] h Q1 ∧ ∀ (v3 : Int32) (h4 : Hp), Q1 v3 h4 → Q v3 h4)) ∧ (¬ ((255 : Int32) < x1) → (((h.1 25 1) < (120 : Int32) → (∃ Q6, CtI 0 mX8_take [.ref 25, .int x1] h Q6 ∧ ∀ (v8 : Int32) (h9 : Hp), Q6 v8 h9 → Q v8 h9)) ∧ (¬ ((h.1 25 1) < (120 : Int32)) → (∃ Q11, CtI 0 mX10_refuse [.ref 0, .int (-6 : Int32)] h Q11 ∧ ∀ (v13 : Int32) (h14 : Hp), Q11 v13 h14 → Q v13 h14)))))) ∧ (¬ (0 ≤ x1) → (∃ Q16, CtI 0 mX10_refuse [.ref 0, .int (-4 : Int32)] h Q16 ∧ ∀ (v18 : Int32) (h19 : Hp), Q16 v18 h19 → Q v18 h19)))) : CtI 1 mX10_letter [.ref 0, .int x1] h Q := by
  refine Ct.of (by decide +kernel) (Nat.le_of_ble_eq_true rfl) ?_
  show GoI 1 mX10_letter 0 [(0, .ref 0), (1, .int x1)] [] h Q
  refine go_iload_n (pc2 := 1) dX10_letter_0 rfl rfl rfl ?_
  refine go_if_ge (pc2 := 4) (tgt := 11) dX10_letter_1 rfl (by decide) (fun c => ?_) (fun c => ?_)
  · have k := k.1 c
    refine go_iload_n (pc2 := 12) dX10_letter_11 rfl rfl rfl ?_
    refine go_sipush (pc2 := 15) (v := (255 : Int32)) dX10_letter_12 rfl (by decide) ?_
    refine go_icmp_gt (pc2 := 18) (tgt := 30) dX10_letter_15 rfl (by decide) (fun c => ?_) (fun c => ?_)
    · have k := k.1 c
      refine go_aload_n (pc2 := 31) dX10_letter_30 rfl rfl rfl ?_
      refine go_bipush (pc2 := 33) (v := (-6 : Int32)) dX10_letter_31 rfl (by decide) ?_
      obtain ⟨Q1, hC2, k⟩ := k
      refine gcV_I (pc2 := 36) (dC := 0) (As := [.int (-6 : Int32)]) (st := []) rfl dX10_letter_33 rfl w_413 ok_X10_refuse vi_X10_refuse c_0 (by decide) rfl rfl rfl (by decide) (Nat.le_of_ble_eq_true rfl) hC2 (fun v3 h4 hq5 => ?_)
      have k := k v3 h4 hq5
      exact go_iret dX10_letter_36 ⟨_, rfl, rfl⟩ ⟨rfl, _, rfl, k⟩
    · have k := k.2 c
      refine go_aload_n (pc2 := 19) dX10_letter_18 rfl rfl rfl ?_
      refine gf_373 (pc2 := 22) rfl dX10_letter_19 rfl c_0 (fvs r_0_4) ?_
      refine gf_162 (pc2 := 25) rfl dX10_letter_22 rfl c_25 fvi ?_
      refine go_bipush (pc2 := 27) (v := (120 : Int32)) dX10_letter_25 rfl (by decide) ?_
      refine go_icmp_lt (pc2 := 30) (tgt := 37) dX10_letter_27 rfl (by decide) (fun c => ?_) (fun c => ?_)
      · have k := k.1 c
        refine go_aload_n (pc2 := 38) dX10_letter_37 rfl rfl rfl ?_
        refine gf_373 (pc2 := 41) rfl dX10_letter_38 rfl c_0 (fvs r_0_4) ?_
        refine go_iload_n (pc2 := 42) dX10_letter_41 rfl rfl rfl ?_
        obtain ⟨Q6, hC7, k⟩ := k
        refine gcVN_I (pc2 := 45) (dC := 0) (As := [.int x1]) (st := []) rfl dX10_letter_42 rfl w_417 ok_X8_take vi_X8_take c_25 (by decide) rfl rfl rfl (by decide) (Nat.le_of_ble_eq_true rfl) hC7 (fun v8 h9 hq10 => ?_)
        have k := k v8 h9 hq10
        exact go_iret dX10_letter_45 ⟨_, rfl, rfl⟩ ⟨rfl, _, rfl, k⟩
      · have k := k.2 c
        refine go_aload_n (pc2 := 31) dX10_letter_30 rfl rfl rfl ?_
        refine go_bipush (pc2 := 33) (v := (-6 : Int32)) dX10_letter_31 rfl (by decide) ?_
        obtain ⟨Q11, hC12, k⟩ := k
        refine gcV_I (pc2 := 36) (dC := 0) (As := [.int (-6 : Int32)]) (st := []) rfl dX10_letter_33 rfl w_413 ok_X10_refuse vi_X10_refuse c_0 (by decide) rfl rfl rfl (by decide) (Nat.le_of_ble_eq_true rfl) hC12 (fun v13 h14 hq15 => ?_)
        have k := k v13 h14 hq15
        exact go_iret dX10_letter_36 ⟨_, rfl, rfl⟩ ⟨rfl, _, rfl, k⟩
  · have k := k.2 c
    refine go_aload_n (pc2 := 5) dX10_letter_4 rfl rfl rfl ?_
    refine go_bipush (pc2 := 7) (v := (-4 : Int32)) dX10_letter_5 rfl (by decide) ?_
    obtain ⟨Q16, hC17, k⟩ := k
    refine gcV_I (pc2 := 10) (dC := 0) (As := [.int (-4 : Int32)]) (st := []) rfl dX10_letter_7 rfl w_413 ok_X10_refuse vi_X10_refuse c_0 (by decide) rfl rfl rfl (by decide) (Nat.le_of_ble_eq_true rfl) hC17 (fun v18 h19 hq20 => ?_)
    have k := k v18 h19 hq20
    exact go_iret dX10_letter_10 ⟨_, rfl, rfl⟩ ⟨rfl, _, rfl, k⟩
theorem e_X10_tells  {h : Hp} {Q : Int32 → Hp → Prop}  (k : (∃ Q1, CtV 1 mX5_copyFrom [.ref 9, .ref 1] h Q1 ∧ ∀ h4 : Hp, Q1 h4 → (∃ Q6, CtI 6 mX8_readAll [.ref 25] h4 Q6 ∧ ∀ (v8 : Int32) (h9 : Hp), Q6 v8 h9 → ((v8 < 0 → GoI 7 mX10_tells 35 [(0, .ref 0), (1, .int v8)] [] h9 Q) ∧ (¬ (v8 < 0) → (∃ Q11, CtI 6 mX8_applyAll [.ref 25, .ref 1] h9 Q11 ∧ ∀ (v13 : Int32) (h14 : Hp), Q11 v13 h14 → GoI 7 mX10_tells 35 [(0, .ref 0), (1, .int v13)] [] h14 Q)))))) : CtI 7 mX10_tells [.ref 0] h Q := by
  refine Ct.of (by decide +kernel) (Nat.le_of_ble_eq_true rfl) ?_
  show GoI 7 mX10_tells 0 [(0, .ref 0)] [] h Q
  refine go_aload_n (pc2 := 1) dX10_tells_0 rfl rfl rfl ?_
  refine gf_370 (pc2 := 4) rfl dX10_tells_1 rfl c_0 (fvs r_0_1) ?_
  refine go_aload_n (pc2 := 5) dX10_tells_4 rfl rfl rfl ?_
  refine gf_369 (pc2 := 8) rfl dX10_tells_5 rfl c_0 (fvs r_0_0) ?_
  obtain ⟨Q1, hC2, k⟩ := k
  refine gcVN_V (pc2 := 11) (dC := 1) (As := [.ref 1]) (st := []) rfl dX10_tells_8 rfl w_425 ok_X5_copyFrom vi_X5_copyFrom c_9 (by decide) rfl rfl rfl (by decide) (Nat.le_of_ble_eq_true rfl) hC2 (fun h4 hq5 => ?_)
  have k := k h4 hq5
  refine go_aload_n (pc2 := 12) dX10_tells_11 rfl rfl rfl ?_
  refine gf_373 (pc2 := 15) rfl dX10_tells_12 rfl c_0 (fvs r_0_4) ?_
  obtain ⟨Q6, hC7, k⟩ := k
  refine gcVN_I (pc2 := 18) (dC := 6) (As := []) (st := []) rfl dX10_tells_15 rfl w_436 ok_X8_readAll vi_X8_readAll c_25 (by decide) rfl rfl rfl (by decide) (Nat.le_of_ble_eq_true rfl) hC7 (fun v8 h9 hq10 => ?_)
  have k := k v8 h9 hq10
  refine go_istore_n (pc2 := 19) (ls2 := [(0, .ref 0), (1, .int v8)]) dX10_tells_18 rfl rfl rfl rfl rfl rfl ?_
  refine go_iload_n (pc2 := 20) dX10_tells_19 rfl rfl rfl ?_
  refine go_if_lt (pc2 := 23) (tgt := 35) dX10_tells_20 rfl (by decide) (fun c => ?_) (fun c => ?_)
  · have k := k.1 c
    exact k
  · have k := k.2 c
    refine go_aload_n (pc2 := 24) dX10_tells_23 rfl rfl rfl ?_
    refine gf_373 (pc2 := 27) rfl dX10_tells_24 rfl c_0 (fvs r_0_4) ?_
    refine go_aload_n (pc2 := 28) dX10_tells_27 rfl rfl rfl ?_
    refine gf_369 (pc2 := 31) rfl dX10_tells_28 rfl c_0 (fvs r_0_0) ?_
    obtain ⟨Q11, hC12, k⟩ := k
    refine gcVN_I (pc2 := 34) (dC := 6) (As := [.ref 1]) (st := []) rfl dX10_tells_31 rfl w_525 ok_X8_applyAll vi_X8_applyAll c_25 (by decide) rfl rfl rfl (by decide) (Nat.le_of_ble_eq_true rfl) hC12 (fun v13 h14 hq15 => ?_)
    have k := k v13 h14 hq15
    refine go_istore_n (pc2 := 35) (ls2 := [(0, .ref 0), (1, .int v13)]) dX10_tells_34 rfl rfl rfl rfl rfl rfl ?_
    exact k
theorem b_X10_tells_35 {x1 : Int32} {h : Hp} {Q : Int32 → Hp → Prop}  (k : ((0 ≤ x1 → (∀ g1 : Hp, g1 = (ui h 25 1 (0 : Int32)) → Q x1 g1)) ∧ (¬ (0 ≤ x1) → (∃ Q2, CtV 1 mX5_copyFrom [.ref 1, .ref 9] h Q2 ∧ ∀ h5 : Hp, Q2 h5 → (∀ g7 : Hp, g7 = (ui h5 25 1 (0 : Int32)) → Q x1 g7))))) : GoI 7 mX10_tells 35 [(0, .ref 0), (1, .int x1)] [] h Q := by
  refine go_iload_n (pc2 := 36) dX10_tells_35 rfl rfl rfl ?_
  refine go_if_ge (pc2 := 39) (tgt := 50) dX10_tells_36 rfl (by decide) (fun c => ?_) (fun c => ?_)
  · have k := k.1 c
    refine go_aload_n (pc2 := 51) dX10_tells_50 rfl rfl rfl ?_
    refine gf_373 (pc2 := 54) rfl dX10_tells_51 rfl c_0 (fvs r_0_4) ?_
    refine go_iconst (pc2 := 55) (v := (0 : Int32)) dX10_tells_54 rfl (by decide) ?_
    refine pf_162 (pc2 := 58) rfl dX10_tells_55 rfl c_25 ?_
    obtain ⟨g1, eg1⟩ : ∃ y : Hp, y = (ui h 25 1 (0 : Int32)) := ⟨_, rfl⟩
    rw [← eg1]
    have k := k g1 eg1
    refine go_iload_n (pc2 := 59) dX10_tells_58 rfl rfl rfl ?_
    exact go_iret dX10_tells_59 ⟨_, rfl, rfl⟩ ⟨rfl, _, rfl, k⟩
  · have k := k.2 c
    refine go_aload_n (pc2 := 40) dX10_tells_39 rfl rfl rfl ?_
    refine gf_369 (pc2 := 43) rfl dX10_tells_40 rfl c_0 (fvs r_0_0) ?_
    refine go_aload_n (pc2 := 44) dX10_tells_43 rfl rfl rfl ?_
    refine gf_370 (pc2 := 47) rfl dX10_tells_44 rfl c_0 (fvs r_0_1) ?_
    obtain ⟨Q2, hC3, k⟩ := k
    refine gcVN_V (pc2 := 50) (dC := 1) (As := [.ref 9]) (st := []) rfl dX10_tells_47 rfl w_425 ok_X5_copyFrom vi_X5_copyFrom c_1 (by decide) rfl rfl rfl (by decide) (Nat.le_of_ble_eq_true rfl) hC3 (fun h5 hq6 => ?_)
    have k := k h5 hq6
    refine go_aload_n (pc2 := 51) dX10_tells_50 rfl rfl rfl ?_
    refine gf_373 (pc2 := 54) rfl dX10_tells_51 rfl c_0 (fvs r_0_4) ?_
    refine go_iconst (pc2 := 55) (v := (0 : Int32)) dX10_tells_54 rfl (by decide) ?_
    refine pf_162 (pc2 := 58) rfl dX10_tells_55 rfl c_25 ?_
    obtain ⟨g7, eg7⟩ : ∃ y : Hp, y = (ui h5 25 1 (0 : Int32)) := ⟨_, rfl⟩
    rw [← eg7]
    have k := k g7 eg7
    refine go_iload_n (pc2 := 59) dX10_tells_58 rfl rfl rfl ?_
    exact go_iret dX10_tells_59 ⟨_, rfl, rfl⟩ ⟨rfl, _, rfl, k⟩
theorem e_X10_hours {x1 : Int32} {h : Hp} {Q : Int32 → Hp → Prop}  (k : (∃ Q1, CtI 0 mX5_setSpan [.ref 1, .int x1] h Q1 ∧ ∀ (v3 : Int32) (h4 : Hp), Q1 v3 h4 → (∃ Q6, CtI 1 mX10_counted [.ref 0, .int v3] h4 Q6 ∧ ∀ (v8 : Int32) (h9 : Hp), Q6 v8 h9 → Q v8 h9))) : CtI 2 mX10_hours [.ref 0, .int x1] h Q := by
  refine Ct.of (by decide +kernel) (Nat.le_of_ble_eq_true rfl) ?_
  show GoI 2 mX10_hours 0 [(0, .ref 0), (1, .int x1)] [] h Q
  refine go_aload_n (pc2 := 1) dX10_hours_0 rfl rfl rfl ?_
  refine go_aload_n (pc2 := 2) dX10_hours_1 rfl rfl rfl ?_
  refine gf_369 (pc2 := 5) rfl dX10_hours_2 rfl c_0 (fvs r_0_0) ?_
  refine go_iload_n (pc2 := 6) dX10_hours_5 rfl rfl rfl ?_
  obtain ⟨Q1, hC2, k⟩ := k
  refine gcVN_I (pc2 := 9) (dC := 0) (As := [.int x1]) (st := [.ref 0]) rfl dX10_hours_6 rfl w_578 ok_X5_setSpan vi_X5_setSpan c_1 (by decide) rfl rfl rfl (by decide) (Nat.le_of_ble_eq_true rfl) hC2 (fun v3 h4 hq5 => ?_)
  have k := k v3 h4 hq5
  obtain ⟨Q6, hC7, k⟩ := k
  refine gcV_I (pc2 := 12) (dC := 1) (As := [.int v3]) (st := []) rfl dX10_hours_9 rfl w_579 ok_X10_counted vi_X10_counted c_0 (by decide) rfl rfl rfl (by decide) (Nat.le_of_ble_eq_true rfl) hC7 (fun v8 h9 hq10 => ?_)
  have k := k v8 h9 hq10
  exact go_iret dX10_hours_12 ⟨_, rfl, rfl⟩ ⟨rfl, _, rfl, k⟩
theorem e_X10_demand {x1 : Int32} {x2 : Int32} {x3 : Int32} {h : Hp} {Q : Int32 → Hp → Prop}  (k : (∃ Q1, CtI 1 mX5_setDemand [.ref 1, .int x1, .int x2, .int x3] h Q1 ∧ ∀ (v3 : Int32) (h4 : Hp), Q1 v3 h4 → (∃ Q6, CtI 1 mX10_counted [.ref 0, .int v3] h4 Q6 ∧ ∀ (v8 : Int32) (h9 : Hp), Q6 v8 h9 → Q v8 h9))) : CtI 2 mX10_demand [.ref 0, .int x1, .int x2, .int x3] h Q := by
  refine Ct.of (by decide +kernel) (Nat.le_of_ble_eq_true rfl) ?_
  show GoI 2 mX10_demand 0 [(0, .ref 0), (1, .int x1), (2, .int x2), (3, .int x3)] [] h Q
  refine go_aload_n (pc2 := 1) dX10_demand_0 rfl rfl rfl ?_
  refine go_aload_n (pc2 := 2) dX10_demand_1 rfl rfl rfl ?_
  refine gf_369 (pc2 := 5) rfl dX10_demand_2 rfl c_0 (fvs r_0_0) ?_
  refine go_iload_n (pc2 := 6) dX10_demand_5 rfl rfl rfl ?_
  refine go_iload_n (pc2 := 7) dX10_demand_6 rfl rfl rfl ?_
  refine go_iload_n (pc2 := 8) dX10_demand_7 rfl rfl rfl ?_
  obtain ⟨Q1, hC2, k⟩ := k
  refine gcVN_I (pc2 := 11) (dC := 1) (As := [.int x1, .int x2, .int x3]) (st := [.ref 0]) rfl dX10_demand_8 rfl w_587 ok_X5_setDemand vi_X5_setDemand c_1 (by decide) rfl rfl rfl (by decide) (Nat.le_of_ble_eq_true rfl) hC2 (fun v3 h4 hq5 => ?_)
  have k := k v3 h4 hq5
  obtain ⟨Q6, hC7, k⟩ := k
  refine gcV_I (pc2 := 14) (dC := 1) (As := [.int v3]) (st := []) rfl dX10_demand_11 rfl w_579 ok_X10_counted vi_X10_counted c_0 (by decide) rfl rfl rfl (by decide) (Nat.le_of_ble_eq_true rfl) hC7 (fun v8 h9 hq10 => ?_)
  have k := k v8 h9 hq10
  exact go_iret dX10_demand_14 ⟨_, rfl, rfl⟩ ⟨rfl, _, rfl, k⟩
theorem e_X10_plant {x1 : Int32} {x2 : Int32} {h : Hp} {Q : Int32 → Hp → Prop}  (k : (∃ Q1, CtI 1 mX5_addPlant [.ref 1, .int x1, .int x2] h Q1 ∧ ∀ (v3 : Int32) (h4 : Hp), Q1 v3 h4 → (∃ Q6, CtI 1 mX10_counted [.ref 0, .int v3] h4 Q6 ∧ ∀ (v8 : Int32) (h9 : Hp), Q6 v8 h9 → Q v8 h9))) : CtI 2 mX10_plant [.ref 0, .int x1, .int x2] h Q := by
  refine Ct.of (by decide +kernel) (Nat.le_of_ble_eq_true rfl) ?_
  show GoI 2 mX10_plant 0 [(0, .ref 0), (1, .int x1), (2, .int x2)] [] h Q
  refine go_aload_n (pc2 := 1) dX10_plant_0 rfl rfl rfl ?_
  refine go_aload_n (pc2 := 2) dX10_plant_1 rfl rfl rfl ?_
  refine gf_369 (pc2 := 5) rfl dX10_plant_2 rfl c_0 (fvs r_0_0) ?_
  refine go_iload_n (pc2 := 6) dX10_plant_5 rfl rfl rfl ?_
  refine go_iload_n (pc2 := 7) dX10_plant_6 rfl rfl rfl ?_
  obtain ⟨Q1, hC2, k⟩ := k
  refine gcVN_I (pc2 := 10) (dC := 1) (As := [.int x1, .int x2]) (st := [.ref 0]) rfl dX10_plant_7 rfl w_592 ok_X5_addPlant vi_X5_addPlant c_1 (by decide) rfl rfl rfl (by decide) (Nat.le_of_ble_eq_true rfl) hC2 (fun v3 h4 hq5 => ?_)
  have k := k v3 h4 hq5
  obtain ⟨Q6, hC7, k⟩ := k
  refine gcV_I (pc2 := 13) (dC := 1) (As := [.int v3]) (st := []) rfl dX10_plant_10 rfl w_579 ok_X10_counted vi_X10_counted c_0 (by decide) rfl rfl rfl (by decide) (Nat.le_of_ble_eq_true rfl) hC7 (fun v8 h9 hq10 => ?_)
  have k := k v8 h9 hq10
  exact go_iret dX10_plant_13 ⟨_, rfl, rfl⟩ ⟨rfl, _, rfl, k⟩
theorem e_X10_gives {x1 : Int32} {x2 : Int32} {x3 : Int32} {h : Hp} {Q : Int32 → Hp → Prop}  (k : (∃ Q1, CtI 1 mX5_setRange [.ref 1, .int x1, .int x2, .int x3] h Q1 ∧ ∀ (v3 : Int32) (h4 : Hp), Q1 v3 h4 → (∃ Q6, CtI 1 mX10_counted [.ref 0, .int v3] h4 Q6 ∧ ∀ (v8 : Int32) (h9 : Hp), Q6 v8 h9 → Q v8 h9))) : CtI 2 mX10_gives [.ref 0, .int x1, .int x2, .int x3] h Q := by
  refine Ct.of (by decide +kernel) (Nat.le_of_ble_eq_true rfl) ?_
  show GoI 2 mX10_gives 0 [(0, .ref 0), (1, .int x1), (2, .int x2), (3, .int x3)] [] h Q
  refine go_aload_n (pc2 := 1) dX10_gives_0 rfl rfl rfl ?_
  refine go_aload_n (pc2 := 2) dX10_gives_1 rfl rfl rfl ?_
  refine gf_369 (pc2 := 5) rfl dX10_gives_2 rfl c_0 (fvs r_0_0) ?_
  refine go_iload_n (pc2 := 6) dX10_gives_5 rfl rfl rfl ?_
  refine go_iload_n (pc2 := 7) dX10_gives_6 rfl rfl rfl ?_
  refine go_iload_n (pc2 := 8) dX10_gives_7 rfl rfl rfl ?_
  obtain ⟨Q1, hC2, k⟩ := k
  refine gcVN_I (pc2 := 11) (dC := 1) (As := [.int x1, .int x2, .int x3]) (st := [.ref 0]) rfl dX10_gives_8 rfl w_597 ok_X5_setRange vi_X5_setRange c_1 (by decide) rfl rfl rfl (by decide) (Nat.le_of_ble_eq_true rfl) hC2 (fun v3 h4 hq5 => ?_)
  have k := k v3 h4 hq5
  obtain ⟨Q6, hC7, k⟩ := k
  refine gcV_I (pc2 := 14) (dC := 1) (As := [.int v3]) (st := []) rfl dX10_gives_11 rfl w_579 ok_X10_counted vi_X10_counted c_0 (by decide) rfl rfl rfl (by decide) (Nat.le_of_ble_eq_true rfl) hC7 (fun v8 h9 hq10 => ?_)
  have k := k v8 h9 hq10
  exact go_iret dX10_gives_14 ⟨_, rfl, rfl⟩ ⟨rfl, _, rfl, k⟩
theorem e_X10_costs {x1 : Int32} {x2 : Int32} {x3 : Int32} {x4 : Int32} {h : Hp} {Q : Int32 → Hp → Prop}  (k : (∃ Q1, CtI 1 mX5_setCosts [.ref 1, .int x1, .int x2, .int x3, .int x4] h Q1 ∧ ∀ (v3 : Int32) (h4 : Hp), Q1 v3 h4 → (∃ Q6, CtI 1 mX10_counted [.ref 0, .int v3] h4 Q6 ∧ ∀ (v8 : Int32) (h9 : Hp), Q6 v8 h9 → Q v8 h9))) : CtI 2 mX10_costs [.ref 0, .int x1, .int x2, .int x3, .int x4] h Q := by
  refine Ct.of (by decide +kernel) (Nat.le_of_ble_eq_true rfl) ?_
  show GoI 2 mX10_costs 0 [(0, .ref 0), (1, .int x1), (2, .int x2), (3, .int x3), (4, .int x4)] [] h Q
  refine go_aload_n (pc2 := 1) dX10_costs_0 rfl rfl rfl ?_
  refine go_aload_n (pc2 := 2) dX10_costs_1 rfl rfl rfl ?_
  refine gf_369 (pc2 := 5) rfl dX10_costs_2 rfl c_0 (fvs r_0_0) ?_
  refine go_iload_n (pc2 := 6) dX10_costs_5 rfl rfl rfl ?_
  refine go_iload_n (pc2 := 7) dX10_costs_6 rfl rfl rfl ?_
  refine go_iload_n (pc2 := 8) dX10_costs_7 rfl rfl rfl ?_
  refine go_iload (pc2 := 10) dX10_costs_8 rfl rfl ?_
  obtain ⟨Q1, hC2, k⟩ := k
  refine gcVN_I (pc2 := 13) (dC := 1) (As := [.int x1, .int x2, .int x3, .int x4]) (st := [.ref 0]) rfl dX10_costs_10 rfl w_602 ok_X5_setCosts vi_X5_setCosts c_1 (by decide) rfl rfl rfl (by decide) (Nat.le_of_ble_eq_true rfl) hC2 (fun v3 h4 hq5 => ?_)
  have k := k v3 h4 hq5
  obtain ⟨Q6, hC7, k⟩ := k
  refine gcV_I (pc2 := 16) (dC := 1) (As := [.int v3]) (st := []) rfl dX10_costs_13 rfl w_579 ok_X10_counted vi_X10_counted c_0 (by decide) rfl rfl rfl (by decide) (Nat.le_of_ble_eq_true rfl) hC7 (fun v8 h9 hq10 => ?_)
  have k := k v8 h9 hq10
  exact go_iret dX10_costs_16 ⟨_, rfl, rfl⟩ ⟨rfl, _, rfl, k⟩
theorem e_X10_times {x1 : Int32} {x2 : Int32} {x3 : Int32} {h : Hp} {Q : Int32 → Hp → Prop}  (k : (∃ Q1, CtI 1 mX5_setTimes [.ref 1, .int x1, .int x2, .int x3] h Q1 ∧ ∀ (v3 : Int32) (h4 : Hp), Q1 v3 h4 → (∃ Q6, CtI 1 mX10_counted [.ref 0, .int v3] h4 Q6 ∧ ∀ (v8 : Int32) (h9 : Hp), Q6 v8 h9 → Q v8 h9))) : CtI 2 mX10_times [.ref 0, .int x1, .int x2, .int x3] h Q := by
  refine Ct.of (by decide +kernel) (Nat.le_of_ble_eq_true rfl) ?_
  show GoI 2 mX10_times 0 [(0, .ref 0), (1, .int x1), (2, .int x2), (3, .int x3)] [] h Q
  refine go_aload_n (pc2 := 1) dX10_times_0 rfl rfl rfl ?_
  refine go_aload_n (pc2 := 2) dX10_times_1 rfl rfl rfl ?_
  refine gf_369 (pc2 := 5) rfl dX10_times_2 rfl c_0 (fvs r_0_0) ?_
  refine go_iload_n (pc2 := 6) dX10_times_5 rfl rfl rfl ?_
  refine go_iload_n (pc2 := 7) dX10_times_6 rfl rfl rfl ?_
  refine go_iload_n (pc2 := 8) dX10_times_7 rfl rfl rfl ?_
  obtain ⟨Q1, hC2, k⟩ := k
  refine gcVN_I (pc2 := 11) (dC := 1) (As := [.int x1, .int x2, .int x3]) (st := [.ref 0]) rfl dX10_times_8 rfl w_607 ok_X5_setTimes vi_X5_setTimes c_1 (by decide) rfl rfl rfl (by decide) (Nat.le_of_ble_eq_true rfl) hC2 (fun v3 h4 hq5 => ?_)
  have k := k v3 h4 hq5
  obtain ⟨Q6, hC7, k⟩ := k
  refine gcV_I (pc2 := 14) (dC := 1) (As := [.int v3]) (st := []) rfl dX10_times_11 rfl w_579 ok_X10_counted vi_X10_counted c_0 (by decide) rfl rfl rfl (by decide) (Nat.le_of_ble_eq_true rfl) hC7 (fun v8 h9 hq10 => ?_)
  have k := k v8 h9 hq10
  exact go_iret dX10_times_14 ⟨_, rfl, rfl⟩ ⟨rfl, _, rfl, k⟩
theorem e_X10_age {x1 : Int32} {x2 : Int32} {h : Hp} {Q : Int32 → Hp → Prop}  (k : (∃ Q1, CtI 1 mX5_setAge [.ref 1, .int x1, .int x2] h Q1 ∧ ∀ (v3 : Int32) (h4 : Hp), Q1 v3 h4 → (∃ Q6, CtI 1 mX10_counted [.ref 0, .int v3] h4 Q6 ∧ ∀ (v8 : Int32) (h9 : Hp), Q6 v8 h9 → Q v8 h9))) : CtI 2 mX10_age [.ref 0, .int x1, .int x2] h Q := by
  refine Ct.of (by decide +kernel) (Nat.le_of_ble_eq_true rfl) ?_
  show GoI 2 mX10_age 0 [(0, .ref 0), (1, .int x1), (2, .int x2)] [] h Q
  refine go_aload_n (pc2 := 1) dX10_age_0 rfl rfl rfl ?_
  refine go_aload_n (pc2 := 2) dX10_age_1 rfl rfl rfl ?_
  refine gf_369 (pc2 := 5) rfl dX10_age_2 rfl c_0 (fvs r_0_0) ?_
  refine go_iload_n (pc2 := 6) dX10_age_5 rfl rfl rfl ?_
  refine go_iload_n (pc2 := 7) dX10_age_6 rfl rfl rfl ?_
  obtain ⟨Q1, hC2, k⟩ := k
  refine gcVN_I (pc2 := 10) (dC := 1) (As := [.int x1, .int x2]) (st := [.ref 0]) rfl dX10_age_7 rfl w_612 ok_X5_setAge vi_X5_setAge c_1 (by decide) rfl rfl rfl (by decide) (Nat.le_of_ble_eq_true rfl) hC2 (fun v3 h4 hq5 => ?_)
  have k := k v3 h4 hq5
  obtain ⟨Q6, hC7, k⟩ := k
  refine gcV_I (pc2 := 13) (dC := 1) (As := [.int v3]) (st := []) rfl dX10_age_10 rfl w_579 ok_X10_counted vi_X10_counted c_0 (by decide) rfl rfl rfl (by decide) (Nat.le_of_ble_eq_true rfl) hC7 (fun v8 h9 hq10 => ?_)
  have k := k v8 h9 hq10
  exact go_iret dX10_age_13 ⟨_, rfl, rfl⟩ ⟨rfl, _, rfl, k⟩
theorem e_X10_merit {x1 : Int32} {h : Hp} {Q : Int32 → Hp → Prop}  (k : ((x1 < 0 → (∃ Q1, CtI 0 mX10_refuse [.ref 0, .int (-2 : Int32)] h Q1 ∧ ∀ (v3 : Int32) (h4 : Hp), Q1 v3 h4 → Q v3 h4)) ∧ (¬ (x1 < 0) → ((x1 ≤ (2 : Int32) → (∀ g6 : Hp, g6 = (ui h 1 6 x1) → Q (h.1 1 6) g6)) ∧ (¬ (x1 ≤ (2 : Int32)) → (∃ Q7, CtI 0 mX10_refuse [.ref 0, .int (-2 : Int32)] h Q7 ∧ ∀ (v9 : Int32) (h10 : Hp), Q7 v9 h10 → Q v9 h10)))))) : CtI 1 mX10_merit [.ref 0, .int x1] h Q := by
  refine Ct.of (by decide +kernel) (Nat.le_of_ble_eq_true rfl) ?_
  show GoI 1 mX10_merit 0 [(0, .ref 0), (1, .int x1)] [] h Q
  refine go_iload_n (pc2 := 1) dX10_merit_0 rfl rfl rfl ?_
  refine go_if_lt (pc2 := 4) (tgt := 9) dX10_merit_1 rfl (by decide) (fun c => ?_) (fun c => ?_)
  · have k := k.1 c
    refine go_aload_n (pc2 := 10) dX10_merit_9 rfl rfl rfl ?_
    refine go_bipush (pc2 := 12) (v := (-2 : Int32)) dX10_merit_10 rfl (by decide) ?_
    obtain ⟨Q1, hC2, k⟩ := k
    refine gcV_I (pc2 := 15) (dC := 0) (As := [.int (-2 : Int32)]) (st := []) rfl dX10_merit_12 rfl w_413 ok_X10_refuse vi_X10_refuse c_0 (by decide) rfl rfl rfl (by decide) (Nat.le_of_ble_eq_true rfl) hC2 (fun v3 h4 hq5 => ?_)
    have k := k v3 h4 hq5
    exact go_iret dX10_merit_15 ⟨_, rfl, rfl⟩ ⟨rfl, _, rfl, k⟩
  · have k := k.2 c
    refine go_iload_n (pc2 := 5) dX10_merit_4 rfl rfl rfl ?_
    refine go_iconst (pc2 := 6) (v := (2 : Int32)) dX10_merit_5 rfl (by decide) ?_
    refine go_icmp_le (pc2 := 9) (tgt := 16) dX10_merit_6 rfl (by decide) (fun c => ?_) (fun c => ?_)
    · have k := k.1 c
      refine go_aload_n (pc2 := 17) dX10_merit_16 rfl rfl rfl ?_
      refine gf_369 (pc2 := 20) rfl dX10_merit_17 rfl c_0 (fvs r_0_0) ?_
      refine gf_129 (pc2 := 23) rfl dX10_merit_20 rfl c_1 fvi ?_
      refine go_istore_n (pc2 := 24) (ls2 := [(0, .ref 0), (1, .int x1), (2, .int (h.1 1 6))]) dX10_merit_23 rfl rfl rfl rfl rfl rfl ?_
      refine go_aload_n (pc2 := 25) dX10_merit_24 rfl rfl rfl ?_
      refine gf_369 (pc2 := 28) rfl dX10_merit_25 rfl c_0 (fvs r_0_0) ?_
      refine go_iload_n (pc2 := 29) dX10_merit_28 rfl rfl rfl ?_
      refine pf_129 (pc2 := 32) rfl dX10_merit_29 rfl c_1 ?_
      obtain ⟨g6, eg6⟩ : ∃ y : Hp, y = (ui h 1 6 x1) := ⟨_, rfl⟩
      rw [← eg6]
      have k := k g6 eg6
      refine go_iload_n (pc2 := 33) dX10_merit_32 rfl rfl rfl ?_
      exact go_iret dX10_merit_33 ⟨_, rfl, rfl⟩ ⟨rfl, _, rfl, k⟩
    · have k := k.2 c
      refine go_aload_n (pc2 := 10) dX10_merit_9 rfl rfl rfl ?_
      refine go_bipush (pc2 := 12) (v := (-2 : Int32)) dX10_merit_10 rfl (by decide) ?_
      obtain ⟨Q7, hC8, k⟩ := k
      refine gcV_I (pc2 := 15) (dC := 0) (As := [.int (-2 : Int32)]) (st := []) rfl dX10_merit_12 rfl w_413 ok_X10_refuse vi_X10_refuse c_0 (by decide) rfl rfl rfl (by decide) (Nat.le_of_ble_eq_true rfl) hC8 (fun v9 h10 hq11 => ?_)
      have k := k v9 h10 hq11
      exact go_iret dX10_merit_15 ⟨_, rfl, rfl⟩ ⟨rfl, _, rfl, k⟩
theorem e_X10_of {x1 : Int32} {x2 : Int32} {h : Hp} {Q : Int32 → Hp → Prop}  (k : (∃ Q1, CtI 0 mX5_noPlant [.ref 1, .int x1] h Q1 ∧ ∀ (v3 : Int32) (h4 : Hp), Q1 v3 h4 → ((v3 = 0 → ((x2 < 0 → (∃ Q6, CtI 0 mX10_refuse [.ref 0, .int (-2 : Int32)] h4 Q6 ∧ ∀ (v8 : Int32) (h9 : Hp), Q6 v8 h9 → Q v8 h9)) ∧ (¬ (x2 < 0) → ((x2 ≤ (11 : Int32) → (vp_in x1 3 ∧ (∃ Q12, CtI 2 mX3_figureOf [.ref (6 + (x1).toNatClampNeg), .int x2] h4 Q12 ∧ ∀ (v14 : Int32) (h15 : Hp), Q12 v14 h15 → Q v14 h15))) ∧ (¬ (x2 ≤ (11 : Int32)) → (∃ Q17, CtI 0 mX10_refuse [.ref 0, .int (-2 : Int32)] h4 Q17 ∧ ∀ (v19 : Int32) (h20 : Hp), Q17 v19 h20 → Q v19 h20)))))) ∧ (¬ v3 = 0 → (∃ Q22, CtI 0 mX10_refuse [.ref 0, .int (-1 : Int32)] h4 Q22 ∧ ∀ (v24 : Int32) (h25 : Hp), Q22 v24 h25 → Q v24 h25))))) : CtI 3 mX10_of [.ref 0, .int x1, .int x2] h Q := by
  refine Ct.of (by decide +kernel) (Nat.le_of_ble_eq_true rfl) ?_
  show GoI 3 mX10_of 0 [(0, .ref 0), (1, .int x1), (2, .int x2)] [] h Q
  refine go_aload_n (pc2 := 1) dX10_of_0 rfl rfl rfl ?_
  refine gf_369 (pc2 := 4) rfl dX10_of_1 rfl c_0 (fvs r_0_0) ?_
  refine go_iload_n (pc2 := 5) dX10_of_4 rfl rfl rfl ?_
  obtain ⟨Q1, hC2, k⟩ := k
  refine gcVN_I (pc2 := 8) (dC := 0) (As := [.int x1]) (st := []) rfl dX10_of_5 rfl w_621 ok_X5_noPlant vi_X5_noPlant c_1 (by decide) rfl rfl rfl (by decide) (Nat.le_of_ble_eq_true rfl) hC2 (fun v3 h4 hq5 => ?_)
  have k := k v3 h4 hq5
  refine go_if_eq (pc2 := 11) (tgt := 17) dX10_of_8 rfl (by decide) (fun c => ?_) (fun c => ?_)
  · have k := k.1 c
    refine go_iload_n (pc2 := 18) dX10_of_17 rfl rfl rfl ?_
    refine go_if_lt (pc2 := 21) (tgt := 27) dX10_of_18 rfl (by decide) (fun c => ?_) (fun c => ?_)
    · have k := k.1 c
      refine go_aload_n (pc2 := 28) dX10_of_27 rfl rfl rfl ?_
      refine go_bipush (pc2 := 30) (v := (-2 : Int32)) dX10_of_28 rfl (by decide) ?_
      obtain ⟨Q6, hC7, k⟩ := k
      refine gcV_I (pc2 := 33) (dC := 0) (As := [.int (-2 : Int32)]) (st := []) rfl dX10_of_30 rfl w_413 ok_X10_refuse vi_X10_refuse c_0 (by decide) rfl rfl rfl (by decide) (Nat.le_of_ble_eq_true rfl) hC7 (fun v8 h9 hq10 => ?_)
      have k := k v8 h9 hq10
      exact go_iret dX10_of_33 ⟨_, rfl, rfl⟩ ⟨rfl, _, rfl, k⟩
    · have k := k.2 c
      refine go_iload_n (pc2 := 22) dX10_of_21 rfl rfl rfl ?_
      refine go_bipush (pc2 := 24) (v := (11 : Int32)) dX10_of_22 rfl (by decide) ?_
      refine go_icmp_le (pc2 := 27) (tgt := 34) dX10_of_24 rfl (by decide) (fun c => ?_) (fun c => ?_)
      · have k := k.1 c
        refine go_aload_n (pc2 := 35) dX10_of_34 rfl rfl rfl ?_
        refine gf_369 (pc2 := 38) rfl dX10_of_35 rfl c_0 (fvs r_0_0) ?_
        refine gf_119 (pc2 := 41) rfl dX10_of_38 rfl c_1 (fvs r_1_4) ?_
        refine go_iload_n (pc2 := 42) dX10_of_41 rfl rfl rfl ?_
        obtain ⟨y11, k⟩ := k
        refine go_aaload (pc2 := 43) (t := 0) dX10_of_42 rfl (by decide) c_5 y11 rfl (rfo_s (ra_5 _ (vp_lt y11))) ?_
        refine go_iload_n (pc2 := 44) dX10_of_43 rfl rfl rfl ?_
        obtain ⟨Q12, hC13, k⟩ := k
        refine gcVN_I (pc2 := 47) (dC := 2) (As := [.int x2]) (st := []) rfl dX10_of_44 rfl w_622 ok_X3_figureOf vi_X3_figureOf (isPl_6 _ (vp_lt y11)) (by decide) rfl rfl rfl (by decide) (Nat.le_of_ble_eq_true rfl) hC13 (fun v14 h15 hq16 => ?_)
        have k := k v14 h15 hq16
        exact go_iret dX10_of_47 ⟨_, rfl, rfl⟩ ⟨rfl, _, rfl, k⟩
      · have k := k.2 c
        refine go_aload_n (pc2 := 28) dX10_of_27 rfl rfl rfl ?_
        refine go_bipush (pc2 := 30) (v := (-2 : Int32)) dX10_of_28 rfl (by decide) ?_
        obtain ⟨Q17, hC18, k⟩ := k
        refine gcV_I (pc2 := 33) (dC := 0) (As := [.int (-2 : Int32)]) (st := []) rfl dX10_of_30 rfl w_413 ok_X10_refuse vi_X10_refuse c_0 (by decide) rfl rfl rfl (by decide) (Nat.le_of_ble_eq_true rfl) hC18 (fun v19 h20 hq21 => ?_)
        have k := k v19 h20 hq21
        exact go_iret dX10_of_33 ⟨_, rfl, rfl⟩ ⟨rfl, _, rfl, k⟩
  · have k := k.2 c
    refine go_aload_n (pc2 := 12) dX10_of_11 rfl rfl rfl ?_
    refine go_iconst (pc2 := 13) (v := (-1 : Int32)) dX10_of_12 rfl (by decide) ?_
    obtain ⟨Q22, hC23, k⟩ := k
    refine gcV_I (pc2 := 16) (dC := 0) (As := [.int (-1 : Int32)]) (st := []) rfl dX10_of_13 rfl w_413 ok_X10_refuse vi_X10_refuse c_0 (by decide) rfl rfl rfl (by decide) (Nat.le_of_ble_eq_true rfl) hC23 (fun v24 h25 hq26 => ?_)
    have k := k v24 h25 hq26
    exact go_iret dX10_of_16 ⟨_, rfl, rfl⟩ ⟨rfl, _, rfl, k⟩
theorem e_X10_starts {x1 : Int32} {x2 : Int32} {h : Hp} {Q : Int32 → Hp → Prop}  (k : (∃ Q1, CtI 0 mX5_noPlant [.ref 1, .int x1] h Q1 ∧ ∀ (v3 : Int32) (h4 : Hp), Q1 v3 h4 → ((v3 = 0 → (((1 : Int32) ≤ x2 → ((x2 ≤ (9 : Int32) → (vp_in x1 3 ∧ (∃ Q7, CtI 2 mX3_startBehind [.ref (6 + (x1).toNatClampNeg), .int x2] h4 Q7 ∧ ∀ (v9 : Int32) (h10 : Hp), Q7 v9 h10 → Q v9 h10))) ∧ (¬ (x2 ≤ (9 : Int32)) → (∃ Q12, CtI 0 mX10_refuse [.ref 0, .int (-6 : Int32)] h4 Q12 ∧ ∀ (v14 : Int32) (h15 : Hp), Q12 v14 h15 → Q v14 h15)))) ∧ (¬ ((1 : Int32) ≤ x2) → (∃ Q17, CtI 0 mX10_refuse [.ref 0, .int (-4 : Int32)] h4 Q17 ∧ ∀ (v19 : Int32) (h20 : Hp), Q17 v19 h20 → Q v19 h20)))) ∧ (¬ v3 = 0 → (∃ Q22, CtI 0 mX10_refuse [.ref 0, .int (-1 : Int32)] h4 Q22 ∧ ∀ (v24 : Int32) (h25 : Hp), Q22 v24 h25 → Q v24 h25))))) : CtI 3 mX10_starts [.ref 0, .int x1, .int x2] h Q := by
  refine Ct.of (by decide +kernel) (Nat.le_of_ble_eq_true rfl) ?_
  show GoI 3 mX10_starts 0 [(0, .ref 0), (1, .int x1), (2, .int x2)] [] h Q
  refine go_aload_n (pc2 := 1) dX10_starts_0 rfl rfl rfl ?_
  refine gf_369 (pc2 := 4) rfl dX10_starts_1 rfl c_0 (fvs r_0_0) ?_
  refine go_iload_n (pc2 := 5) dX10_starts_4 rfl rfl rfl ?_
  obtain ⟨Q1, hC2, k⟩ := k
  refine gcVN_I (pc2 := 8) (dC := 0) (As := [.int x1]) (st := []) rfl dX10_starts_5 rfl w_621 ok_X5_noPlant vi_X5_noPlant c_1 (by decide) rfl rfl rfl (by decide) (Nat.le_of_ble_eq_true rfl) hC2 (fun v3 h4 hq5 => ?_)
  have k := k v3 h4 hq5
  refine go_if_eq (pc2 := 11) (tgt := 17) dX10_starts_8 rfl (by decide) (fun c => ?_) (fun c => ?_)
  · have k := k.1 c
    refine go_iload_n (pc2 := 18) dX10_starts_17 rfl rfl rfl ?_
    refine go_iconst (pc2 := 19) (v := (1 : Int32)) dX10_starts_18 rfl (by decide) ?_
    refine go_icmp_ge (pc2 := 22) (tgt := 29) dX10_starts_19 rfl (by decide) (fun c => ?_) (fun c => ?_)
    · have k := k.1 c
      refine go_iload_n (pc2 := 30) dX10_starts_29 rfl rfl rfl ?_
      refine go_bipush (pc2 := 32) (v := (9 : Int32)) dX10_starts_30 rfl (by decide) ?_
      refine go_icmp_le (pc2 := 35) (tgt := 42) dX10_starts_32 rfl (by decide) (fun c => ?_) (fun c => ?_)
      · have k := k.1 c
        refine go_aload_n (pc2 := 43) dX10_starts_42 rfl rfl rfl ?_
        refine gf_369 (pc2 := 46) rfl dX10_starts_43 rfl c_0 (fvs r_0_0) ?_
        refine gf_119 (pc2 := 49) rfl dX10_starts_46 rfl c_1 (fvs r_1_4) ?_
        refine go_iload_n (pc2 := 50) dX10_starts_49 rfl rfl rfl ?_
        obtain ⟨y6, k⟩ := k
        refine go_aaload (pc2 := 51) (t := 0) dX10_starts_50 rfl (by decide) c_5 y6 rfl (rfo_s (ra_5 _ (vp_lt y6))) ?_
        refine go_iload_n (pc2 := 52) dX10_starts_51 rfl rfl rfl ?_
        obtain ⟨Q7, hC8, k⟩ := k
        refine gcVN_I (pc2 := 55) (dC := 2) (As := [.int x2]) (st := []) rfl dX10_starts_52 rfl w_646 ok_X3_startBehind vi_X3_startBehind (isPl_6 _ (vp_lt y6)) (by decide) rfl rfl rfl (by decide) (Nat.le_of_ble_eq_true rfl) hC8 (fun v9 h10 hq11 => ?_)
        have k := k v9 h10 hq11
        exact go_iret dX10_starts_55 ⟨_, rfl, rfl⟩ ⟨rfl, _, rfl, k⟩
      · have k := k.2 c
        refine go_aload_n (pc2 := 36) dX10_starts_35 rfl rfl rfl ?_
        refine go_bipush (pc2 := 38) (v := (-6 : Int32)) dX10_starts_36 rfl (by decide) ?_
        obtain ⟨Q12, hC13, k⟩ := k
        refine gcV_I (pc2 := 41) (dC := 0) (As := [.int (-6 : Int32)]) (st := []) rfl dX10_starts_38 rfl w_413 ok_X10_refuse vi_X10_refuse c_0 (by decide) rfl rfl rfl (by decide) (Nat.le_of_ble_eq_true rfl) hC13 (fun v14 h15 hq16 => ?_)
        have k := k v14 h15 hq16
        exact go_iret dX10_starts_41 ⟨_, rfl, rfl⟩ ⟨rfl, _, rfl, k⟩
    · have k := k.2 c
      refine go_aload_n (pc2 := 23) dX10_starts_22 rfl rfl rfl ?_
      refine go_bipush (pc2 := 25) (v := (-4 : Int32)) dX10_starts_23 rfl (by decide) ?_
      obtain ⟨Q17, hC18, k⟩ := k
      refine gcV_I (pc2 := 28) (dC := 0) (As := [.int (-4 : Int32)]) (st := []) rfl dX10_starts_25 rfl w_413 ok_X10_refuse vi_X10_refuse c_0 (by decide) rfl rfl rfl (by decide) (Nat.le_of_ble_eq_true rfl) hC18 (fun v19 h20 hq21 => ?_)
      have k := k v19 h20 hq21
      exact go_iret dX10_starts_28 ⟨_, rfl, rfl⟩ ⟨rfl, _, rfl, k⟩
  · have k := k.2 c
    refine go_aload_n (pc2 := 12) dX10_starts_11 rfl rfl rfl ?_
    refine go_iconst (pc2 := 13) (v := (-1 : Int32)) dX10_starts_12 rfl (by decide) ?_
    obtain ⟨Q22, hC23, k⟩ := k
    refine gcV_I (pc2 := 16) (dC := 0) (As := [.int (-1 : Int32)]) (st := []) rfl dX10_starts_13 rfl w_413 ok_X10_refuse vi_X10_refuse c_0 (by decide) rfl rfl rfl (by decide) (Nat.le_of_ble_eq_true rfl) hC23 (fun v24 h25 hq26 => ?_)
    have k := k v24 h25 hq26
    exact go_iret dX10_starts_16 ⟨_, rfl, rfl⟩ ⟨rfl, _, rfl, k⟩
theorem e_X10_lawful {x1 : Int32} {x2 : Int32} {h : Hp} {Q : Int32 → Hp → Prop}  (k : (∃ Q1, CtI 0 mX5_noPlant [.ref 1, .int x1] h Q1 ∧ ∀ (v3 : Int32) (h4 : Hp), Q1 v3 h4 → ((v3 = 0 → ((0 ≤ x2 → ((x2 < ((1 : Int32) <<< ((h4.1 1 0) &&& 31)) → (vp_in x1 3 ∧ (∃ Q7, CtI 2 mX3_mayRun [.ref (6 + (x1).toNatClampNeg), .int x2, .int (h4.1 1 0)] h4 Q7 ∧ ∀ (v9 : Int32) (h10 : Hp), Q7 v9 h10 → Q (if v9 = 0 then (0 : Int32) else (1 : Int32)) h10))) ∧ (¬ (x2 < ((1 : Int32) <<< ((h4.1 1 0) &&& 31))) → (∃ Q12, CtI 0 mX10_refuse [.ref 0, .int (-6 : Int32)] h4 Q12 ∧ ∀ (v14 : Int32) (h15 : Hp), Q12 v14 h15 → Q v14 h15)))) ∧ (¬ (0 ≤ x2) → (∃ Q17, CtI 0 mX10_refuse [.ref 0, .int (-4 : Int32)] h4 Q17 ∧ ∀ (v19 : Int32) (h20 : Hp), Q17 v19 h20 → Q v19 h20)))) ∧ (¬ v3 = 0 → (∃ Q22, CtI 0 mX10_refuse [.ref 0, .int (-1 : Int32)] h4 Q22 ∧ ∀ (v24 : Int32) (h25 : Hp), Q22 v24 h25 → Q v24 h25))))) : CtI 3 mX10_lawful [.ref 0, .int x1, .int x2] h Q := by
  refine Ct.of (by decide +kernel) (Nat.le_of_ble_eq_true rfl) ?_
  show GoI 3 mX10_lawful 0 [(0, .ref 0), (1, .int x1), (2, .int x2)] [] h Q
  refine go_aload_n (pc2 := 1) dX10_lawful_0 rfl rfl rfl ?_
  refine gf_369 (pc2 := 4) rfl dX10_lawful_1 rfl c_0 (fvs r_0_0) ?_
  refine go_iload_n (pc2 := 5) dX10_lawful_4 rfl rfl rfl ?_
  obtain ⟨Q1, hC2, k⟩ := k
  refine gcVN_I (pc2 := 8) (dC := 0) (As := [.int x1]) (st := []) rfl dX10_lawful_5 rfl w_621 ok_X5_noPlant vi_X5_noPlant c_1 (by decide) rfl rfl rfl (by decide) (Nat.le_of_ble_eq_true rfl) hC2 (fun v3 h4 hq5 => ?_)
  have k := k v3 h4 hq5
  refine go_if_eq (pc2 := 11) (tgt := 17) dX10_lawful_8 rfl (by decide) (fun c => ?_) (fun c => ?_)
  · have k := k.1 c
    refine go_iload_n (pc2 := 18) dX10_lawful_17 rfl rfl rfl ?_
    refine go_if_ge (pc2 := 21) (tgt := 28) dX10_lawful_18 rfl (by decide) (fun c => ?_) (fun c => ?_)
    · have k := k.1 c
      refine go_iload_n (pc2 := 29) dX10_lawful_28 rfl rfl rfl ?_
      refine go_iconst (pc2 := 30) (v := (1 : Int32)) dX10_lawful_29 rfl (by decide) ?_
      refine go_aload_n (pc2 := 31) dX10_lawful_30 rfl rfl rfl ?_
      refine gf_369 (pc2 := 34) rfl dX10_lawful_31 rfl c_0 (fvs r_0_0) ?_
      refine gf_101 (pc2 := 37) rfl dX10_lawful_34 rfl c_1 fvi ?_
      refine go_ishl (pc2 := 38) dX10_lawful_37 rfl ?_
      refine go_icmp_lt (pc2 := 41) (tgt := 48) dX10_lawful_38 rfl (by decide) (fun c => ?_) (fun c => ?_)
      · have k := k.1 c
        refine go_aload_n (pc2 := 49) dX10_lawful_48 rfl rfl rfl ?_
        refine gf_369 (pc2 := 52) rfl dX10_lawful_49 rfl c_0 (fvs r_0_0) ?_
        refine gf_119 (pc2 := 55) rfl dX10_lawful_52 rfl c_1 (fvs r_1_4) ?_
        refine go_iload_n (pc2 := 56) dX10_lawful_55 rfl rfl rfl ?_
        obtain ⟨y6, k⟩ := k
        refine go_aaload (pc2 := 57) (t := 0) dX10_lawful_56 rfl (by decide) c_5 y6 rfl (rfo_s (ra_5 _ (vp_lt y6))) ?_
        refine go_iload_n (pc2 := 58) dX10_lawful_57 rfl rfl rfl ?_
        refine go_aload_n (pc2 := 59) dX10_lawful_58 rfl rfl rfl ?_
        refine gf_369 (pc2 := 62) rfl dX10_lawful_59 rfl c_0 (fvs r_0_0) ?_
        refine gf_101 (pc2 := 65) rfl dX10_lawful_62 rfl c_1 fvi ?_
        obtain ⟨Q7, hC8, k⟩ := k
        refine gcVN_I (pc2 := 68) (dC := 2) (As := [.int x2, .int (h4.1 1 0)]) (st := []) rfl dX10_lawful_65 rfl w_657 ok_X3_mayRun vi_X3_mayRun (isPl_6 _ (vp_lt y6)) (by decide) rfl rfl rfl (by decide) (Nat.le_of_ble_eq_true rfl) hC8 (fun v9 h10 hq11 => ?_)
        have k := k v9 h10 hq11
        have J : GoI 3 mX10_lawful 76 [(0, .ref 0), (1, .int x1), (2, .int x2)] [.int (if v9 = 0 then (0 : Int32) else (1 : Int32))] h10 Q := by
          exact go_iret dX10_lawful_76 ⟨_, rfl, rfl⟩ ⟨rfl, _, rfl, k⟩
        refine go_if_eq (pc2 := 71) (tgt := 75) dX10_lawful_68 rfl (by decide) (fun c => ?_) (fun c => ?_)
        · rw [if_pos c] at J
          exact go_iconst (pc2 := 76) dX10_lawful_75 rfl (by decide) J
        · rw [if_neg c] at J
          exact go_iconst (pc2 := 72) dX10_lawful_71 rfl (by decide) (go_goto (tgt := 76) dX10_lawful_72 (by decide) J)
      · have k := k.2 c
        refine go_aload_n (pc2 := 42) dX10_lawful_41 rfl rfl rfl ?_
        refine go_bipush (pc2 := 44) (v := (-6 : Int32)) dX10_lawful_42 rfl (by decide) ?_
        obtain ⟨Q12, hC13, k⟩ := k
        refine gcV_I (pc2 := 47) (dC := 0) (As := [.int (-6 : Int32)]) (st := []) rfl dX10_lawful_44 rfl w_413 ok_X10_refuse vi_X10_refuse c_0 (by decide) rfl rfl rfl (by decide) (Nat.le_of_ble_eq_true rfl) hC13 (fun v14 h15 hq16 => ?_)
        have k := k v14 h15 hq16
        exact go_iret dX10_lawful_47 ⟨_, rfl, rfl⟩ ⟨rfl, _, rfl, k⟩
    · have k := k.2 c
      refine go_aload_n (pc2 := 22) dX10_lawful_21 rfl rfl rfl ?_
      refine go_bipush (pc2 := 24) (v := (-4 : Int32)) dX10_lawful_22 rfl (by decide) ?_
      obtain ⟨Q17, hC18, k⟩ := k
      refine gcV_I (pc2 := 27) (dC := 0) (As := [.int (-4 : Int32)]) (st := []) rfl dX10_lawful_24 rfl w_413 ok_X10_refuse vi_X10_refuse c_0 (by decide) rfl rfl rfl (by decide) (Nat.le_of_ble_eq_true rfl) hC18 (fun v19 h20 hq21 => ?_)
      have k := k v19 h20 hq21
      exact go_iret dX10_lawful_27 ⟨_, rfl, rfl⟩ ⟨rfl, _, rfl, k⟩
  · have k := k.2 c
    refine go_aload_n (pc2 := 12) dX10_lawful_11 rfl rfl rfl ?_
    refine go_iconst (pc2 := 13) (v := (-1 : Int32)) dX10_lawful_12 rfl (by decide) ?_
    obtain ⟨Q22, hC23, k⟩ := k
    refine gcV_I (pc2 := 16) (dC := 0) (As := [.int (-1 : Int32)]) (st := []) rfl dX10_lawful_13 rfl w_413 ok_X10_refuse vi_X10_refuse c_0 (by decide) rfl rfl rfl (by decide) (Nat.le_of_ble_eq_true rfl) hC23 (fun v24 h25 hq26 => ?_)
    have k := k v24 h25 hq26
    exact go_iret dX10_lawful_16 ⟨_, rfl, rfl⟩ ⟨rfl, _, rfl, k⟩
theorem e_X10_rows {x1 : Int32} {x2 : Int32} {h : Hp} {Q : Int32 → Hp → Prop}  (k : (∃ Q1, CtI 0 mX5_noPlant [.ref 1, .int x1] h Q1 ∧ ∀ (v3 : Int32) (h4 : Hp), Q1 v3 h4 → ((v3 = 0 → (((-1 : Int32) ≤ x2 → GoI 3 mX10_rows 34 [(0, .ref 0), (1, .int x1), (2, .int x2), (3, .int (0 : Int32)), (4, .int (0 : Int32))] [] h4 Q) ∧ (¬ ((-1 : Int32) ≤ x2) → (∃ Q6, CtI 0 mX10_refuse [.ref 0, .int (-3 : Int32)] h4 Q6 ∧ ∀ (v8 : Int32) (h9 : Hp), Q6 v8 h9 → Q v8 h9)))) ∧ (¬ v3 = 0 → (∃ Q11, CtI 0 mX10_refuse [.ref 0, .int (-1 : Int32)] h4 Q11 ∧ ∀ (v13 : Int32) (h14 : Hp), Q11 v13 h14 → Q v13 h14))))) : CtI 3 mX10_rows [.ref 0, .int x1, .int x2] h Q := by
  refine Ct.of (by decide +kernel) (Nat.le_of_ble_eq_true rfl) ?_
  show GoI 3 mX10_rows 0 [(0, .ref 0), (1, .int x1), (2, .int x2)] [] h Q
  refine go_aload_n (pc2 := 1) dX10_rows_0 rfl rfl rfl ?_
  refine gf_369 (pc2 := 4) rfl dX10_rows_1 rfl c_0 (fvs r_0_0) ?_
  refine go_iload_n (pc2 := 5) dX10_rows_4 rfl rfl rfl ?_
  obtain ⟨Q1, hC2, k⟩ := k
  refine gcVN_I (pc2 := 8) (dC := 0) (As := [.int x1]) (st := []) rfl dX10_rows_5 rfl w_621 ok_X5_noPlant vi_X5_noPlant c_1 (by decide) rfl rfl rfl (by decide) (Nat.le_of_ble_eq_true rfl) hC2 (fun v3 h4 hq5 => ?_)
  have k := k v3 h4 hq5
  refine go_if_eq (pc2 := 11) (tgt := 17) dX10_rows_8 rfl (by decide) (fun c => ?_) (fun c => ?_)
  · have k := k.1 c
    refine go_iload_n (pc2 := 18) dX10_rows_17 rfl rfl rfl ?_
    refine go_iconst (pc2 := 19) (v := (-1 : Int32)) dX10_rows_18 rfl (by decide) ?_
    refine go_icmp_ge (pc2 := 22) (tgt := 29) dX10_rows_19 rfl (by decide) (fun c => ?_) (fun c => ?_)
    · have k := k.1 c
      refine go_iconst (pc2 := 30) (v := (0 : Int32)) dX10_rows_29 rfl (by decide) ?_
      refine go_istore_n (pc2 := 31) (ls2 := [(0, .ref 0), (1, .int x1), (2, .int x2), (3, .int (0 : Int32))]) dX10_rows_30 rfl rfl rfl rfl rfl rfl ?_
      refine go_iconst (pc2 := 32) (v := (0 : Int32)) dX10_rows_31 rfl (by decide) ?_
      refine go_istore (pc2 := 34) (ls2 := [(0, .ref 0), (1, .int x1), (2, .int x2), (3, .int (0 : Int32)), (4, .int (0 : Int32))]) dX10_rows_32 rfl rfl rfl rfl rfl ?_
      exact k
    · have k := k.2 c
      refine go_aload_n (pc2 := 23) dX10_rows_22 rfl rfl rfl ?_
      refine go_bipush (pc2 := 25) (v := (-3 : Int32)) dX10_rows_23 rfl (by decide) ?_
      obtain ⟨Q6, hC7, k⟩ := k
      refine gcV_I (pc2 := 28) (dC := 0) (As := [.int (-3 : Int32)]) (st := []) rfl dX10_rows_25 rfl w_413 ok_X10_refuse vi_X10_refuse c_0 (by decide) rfl rfl rfl (by decide) (Nat.le_of_ble_eq_true rfl) hC7 (fun v8 h9 hq10 => ?_)
      have k := k v8 h9 hq10
      exact go_iret dX10_rows_28 ⟨_, rfl, rfl⟩ ⟨rfl, _, rfl, k⟩
  · have k := k.2 c
    refine go_aload_n (pc2 := 12) dX10_rows_11 rfl rfl rfl ?_
    refine go_iconst (pc2 := 13) (v := (-1 : Int32)) dX10_rows_12 rfl (by decide) ?_
    obtain ⟨Q11, hC12, k⟩ := k
    refine gcV_I (pc2 := 16) (dC := 0) (As := [.int (-1 : Int32)]) (st := []) rfl dX10_rows_13 rfl w_413 ok_X10_refuse vi_X10_refuse c_0 (by decide) rfl rfl rfl (by decide) (Nat.le_of_ble_eq_true rfl) hC12 (fun v13 h14 hq15 => ?_)
    have k := k v13 h14 hq15
    exact go_iret dX10_rows_16 ⟨_, rfl, rfl⟩ ⟨rfl, _, rfl, k⟩
theorem b_X10_rows_34 {x1 : Int32} {x2 : Int32} {x3 : Int32} {x4 : Int32} {h : Hp} {Q : Int32 → Hp → Prop}  (k : ((((1 : Int32) <<< ((h.1 1 0) &&& 31)) ≤ x4 → ((¬ x2 = (-1 : Int32) → (∃ Q1, CtI 0 mX10_refuse [.ref 0, .int (-3 : Int32)] h Q1 ∧ ∀ (v3 : Int32) (h4 : Hp), Q1 v3 h4 → Q v3 h4)) ∧ (x2 = (-1 : Int32) → Q x3 h))) ∧ (¬ (((1 : Int32) <<< ((h.1 1 0) &&& 31)) ≤ x4) → (vp_in x1 3 ∧ (∃ Q7, CtI 2 mX3_mayRun [.ref (6 + (x1).toNatClampNeg), .int x4, .int (h.1 1 0)] h Q7 ∧ ∀ (v9 : Int32) (h10 : Hp), Q7 v9 h10 → ((v9 = 0 → GoI 3 mX10_rows 83 [(0, .ref 0), (1, .int x1), (2, .int x2), (3, .int x3), (4, .int x4)] [] h10 Q) ∧ (¬ v9 = 0 → ((¬ x3 = x2 → GoI 3 mX10_rows 83 [(0, .ref 0), (1, .int x1), (2, .int x2), (3, .int (x3 + 1)), (4, .int x4)] [] h10 Q) ∧ (x3 = x2 → Q x4 h10))))))))) : GoI 3 mX10_rows 34 [(0, .ref 0), (1, .int x1), (2, .int x2), (3, .int x3), (4, .int x4)] [] h Q := by
  refine go_iload (pc2 := 36) dX10_rows_34 rfl rfl ?_
  refine go_iconst (pc2 := 37) (v := (1 : Int32)) dX10_rows_36 rfl (by decide) ?_
  refine go_aload_n (pc2 := 38) dX10_rows_37 rfl rfl rfl ?_
  refine gf_369 (pc2 := 41) rfl dX10_rows_38 rfl c_0 (fvs r_0_0) ?_
  refine gf_101 (pc2 := 44) rfl dX10_rows_41 rfl c_1 fvi ?_
  refine go_ishl (pc2 := 45) dX10_rows_44 rfl ?_
  refine go_icmp_ge (pc2 := 48) (tgt := 89) dX10_rows_45 rfl (by decide) (fun c => ?_) (fun c => ?_)
  · have k := k.1 c
    refine go_iload_n (pc2 := 90) dX10_rows_89 rfl rfl rfl ?_
    refine go_iconst (pc2 := 91) (v := (-1 : Int32)) dX10_rows_90 rfl (by decide) ?_
    refine go_icmp_ne (pc2 := 94) (tgt := 98) dX10_rows_91 rfl (by decide) (fun c => ?_) (fun c => ?_)
    · have k := k.1 c
      refine go_aload_n (pc2 := 99) dX10_rows_98 rfl rfl rfl ?_
      refine go_bipush (pc2 := 101) (v := (-3 : Int32)) dX10_rows_99 rfl (by decide) ?_
      obtain ⟨Q1, hC2, k⟩ := k
      refine gcV_I (pc2 := 104) (dC := 0) (As := [.int (-3 : Int32)]) (st := []) rfl dX10_rows_101 rfl w_413 ok_X10_refuse vi_X10_refuse c_0 (by decide) rfl rfl rfl (by decide) (Nat.le_of_ble_eq_true rfl) hC2 (fun v3 h4 hq5 => ?_)
      have k := k v3 h4 hq5
      exact go_iret dX10_rows_104 ⟨_, rfl, rfl⟩ ⟨rfl, _, rfl, k⟩
    · have k := k.2 c
      refine go_iload_n (pc2 := 95) dX10_rows_94 rfl rfl rfl ?_
      refine go_goto (tgt := 104) dX10_rows_95 (by decide) ?_
      exact go_iret dX10_rows_104 ⟨_, rfl, rfl⟩ ⟨rfl, _, rfl, k⟩
  · have k := k.2 c
    refine go_aload_n (pc2 := 49) dX10_rows_48 rfl rfl rfl ?_
    refine gf_369 (pc2 := 52) rfl dX10_rows_49 rfl c_0 (fvs r_0_0) ?_
    refine gf_119 (pc2 := 55) rfl dX10_rows_52 rfl c_1 (fvs r_1_4) ?_
    refine go_iload_n (pc2 := 56) dX10_rows_55 rfl rfl rfl ?_
    obtain ⟨y6, k⟩ := k
    refine go_aaload (pc2 := 57) (t := 0) dX10_rows_56 rfl (by decide) c_5 y6 rfl (rfo_s (ra_5 _ (vp_lt y6))) ?_
    refine go_iload (pc2 := 59) dX10_rows_57 rfl rfl ?_
    refine go_aload_n (pc2 := 60) dX10_rows_59 rfl rfl rfl ?_
    refine gf_369 (pc2 := 63) rfl dX10_rows_60 rfl c_0 (fvs r_0_0) ?_
    refine gf_101 (pc2 := 66) rfl dX10_rows_63 rfl c_1 fvi ?_
    obtain ⟨Q7, hC8, k⟩ := k
    refine gcVN_I (pc2 := 69) (dC := 2) (As := [.int x4, .int (h.1 1 0)]) (st := []) rfl dX10_rows_66 rfl w_657 ok_X3_mayRun vi_X3_mayRun (isPl_6 _ (vp_lt y6)) (by decide) rfl rfl rfl (by decide) (Nat.le_of_ble_eq_true rfl) hC8 (fun v9 h10 hq11 => ?_)
    have k := k v9 h10 hq11
    refine go_if_eq (pc2 := 72) (tgt := 83) dX10_rows_69 rfl (by decide) (fun c => ?_) (fun c => ?_)
    · have k := k.1 c
      exact k
    · have k := k.2 c
      refine go_iload_n (pc2 := 73) dX10_rows_72 rfl rfl rfl ?_
      refine go_iload_n (pc2 := 74) dX10_rows_73 rfl rfl rfl ?_
      refine go_icmp_ne (pc2 := 77) (tgt := 80) dX10_rows_74 rfl (by decide) (fun c => ?_) (fun c => ?_)
      · have k := k.1 c
        refine go_iinc (pc2 := 83) (ls2 := [(0, .ref 0), (1, .int x1), (2, .int x2), (3, .int (x3 + 1)), (4, .int x4)]) (v := (x3 + 1)) dX10_rows_80 rfl rfl rfl rfl rfl rfl rfl ?_
        exact k
      · have k := k.2 c
        refine go_iload (pc2 := 79) dX10_rows_77 rfl rfl ?_
        exact go_iret dX10_rows_79 ⟨_, rfl, rfl⟩ ⟨rfl, _, rfl, k⟩
theorem b_X10_rows_83 {x1 : Int32} {x2 : Int32} {x3 : Int32} {x4 : Int32} {h : Hp} {Q : Int32 → Hp → Prop}  (k : GoI 3 mX10_rows 34 [(0, .ref 0), (1, .int x1), (2, .int x2), (3, .int x3), (4, .int (x4 + 1))] [] h Q) : GoI 3 mX10_rows 83 [(0, .ref 0), (1, .int x1), (2, .int x2), (3, .int x3), (4, .int x4)] [] h Q := by
  refine go_iinc (pc2 := 86) (ls2 := [(0, .ref 0), (1, .int x1), (2, .int x2), (3, .int x3), (4, .int (x4 + 1))]) (v := (x4 + 1)) dX10_rows_83 rfl rfl rfl rfl rfl rfl rfl ?_
  refine go_goto (tgt := 34) dX10_rows_86 (by decide) ?_
  exact k
theorem e_X10_done {x1 : Int32} {x2 : Int32} {h : Hp} {Q : Int32 → Hp → Prop}  (k : (∃ Q1, CtI 0 mX5_noHour [.ref 1, .int x1] h Q1 ∧ ∀ (v3 : Int32) (h4 : Hp), Q1 v3 h4 → ((v3 = 0 → (∃ Q6, CtI 0 mX10_refusalOfSet [.ref 0, .int x2] h4 Q6 ∧ ∀ (v8 : Int32) (h9 : Hp), Q6 v8 h9 → ((0 ≤ v8 → (∃ Q11, CtV 2 mX0_ready [.ref 28, .ref 1] h9 Q11 ∧ ∀ h14 : Hp, Q11 h14 → (vp_in x1 5 ∧ (vp_in x1 5 ∧ (∃ Q18, CtI 1 mX0_share [.ref 28, .int (h14.1 2 (x1).toNatClampNeg), .int (h14.1 3 (x1).toNatClampNeg), .int x2, .int (0 : Int32)] h14 Q18 ∧ ∀ (v20 : Int32) (h21 : Hp), Q18 v20 h21 → Q v20 h21))))) ∧ (¬ (0 ≤ v8) → (∃ Q23, CtI 0 mX10_refuse [.ref 0, .int v8] h9 Q23 ∧ ∀ (v25 : Int32) (h26 : Hp), Q23 v25 h26 → Q v25 h26))))) ∧ (¬ v3 = 0 → (∃ Q28, CtI 0 mX10_refuse [.ref 0, .int (-1 : Int32)] h4 Q28 ∧ ∀ (v30 : Int32) (h31 : Hp), Q28 v30 h31 → Q v30 h31))))) : CtI 3 mX10_done [.ref 0, .int x1, .int x2] h Q := by
  refine Ct.of (by decide +kernel) (Nat.le_of_ble_eq_true rfl) ?_
  show GoI 3 mX10_done 0 [(0, .ref 0), (1, .int x1), (2, .int x2)] [] h Q
  refine go_aload_n (pc2 := 1) dX10_done_0 rfl rfl rfl ?_
  refine gf_369 (pc2 := 4) rfl dX10_done_1 rfl c_0 (fvs r_0_0) ?_
  refine go_iload_n (pc2 := 5) dX10_done_4 rfl rfl rfl ?_
  obtain ⟨Q1, hC2, k⟩ := k
  refine gcVN_I (pc2 := 8) (dC := 0) (As := [.int x1]) (st := []) rfl dX10_done_5 rfl w_676 ok_X5_noHour vi_X5_noHour c_1 (by decide) rfl rfl rfl (by decide) (Nat.le_of_ble_eq_true rfl) hC2 (fun v3 h4 hq5 => ?_)
  have k := k v3 h4 hq5
  refine go_if_eq (pc2 := 11) (tgt := 17) dX10_done_8 rfl (by decide) (fun c => ?_) (fun c => ?_)
  · have k := k.1 c
    refine go_aload_n (pc2 := 18) dX10_done_17 rfl rfl rfl ?_
    refine go_iload_n (pc2 := 19) dX10_done_18 rfl rfl rfl ?_
    obtain ⟨Q6, hC7, k⟩ := k
    refine gcV_I (pc2 := 22) (dC := 0) (As := [.int x2]) (st := []) rfl dX10_done_19 rfl w_677 ok_X10_refusalOfSet vi_X10_refusalOfSet c_0 (by decide) rfl rfl rfl (by decide) (Nat.le_of_ble_eq_true rfl) hC7 (fun v8 h9 hq10 => ?_)
    have k := k v8 h9 hq10
    refine go_istore_n (pc2 := 23) (ls2 := [(0, .ref 0), (1, .int x1), (2, .int x2), (3, .int v8)]) dX10_done_22 rfl rfl rfl rfl rfl rfl ?_
    refine go_iload_n (pc2 := 24) dX10_done_23 rfl rfl rfl ?_
    refine go_if_ge (pc2 := 27) (tgt := 33) dX10_done_24 rfl (by decide) (fun c => ?_) (fun c => ?_)
    · have k := k.1 c
      refine go_aload_n (pc2 := 34) dX10_done_33 rfl rfl rfl ?_
      refine gf_374 (pc2 := 37) rfl dX10_done_34 rfl c_0 (fvs r_0_5) ?_
      refine go_aload_n (pc2 := 38) dX10_done_37 rfl rfl rfl ?_
      refine gf_369 (pc2 := 41) rfl dX10_done_38 rfl c_0 (fvs r_0_0) ?_
      obtain ⟨Q11, hC12, k⟩ := k
      refine gcVN_V (pc2 := 44) (dC := 2) (As := [.ref 1]) (st := []) rfl dX10_done_41 rfl w_681 ok_X0_ready vi_X0_ready c_28 (by decide) rfl rfl rfl (by decide) (Nat.le_of_ble_eq_true rfl) hC12 (fun h14 hq15 => ?_)
      have k := k h14 hq15
      refine go_aload_n (pc2 := 45) dX10_done_44 rfl rfl rfl ?_
      refine gf_374 (pc2 := 48) rfl dX10_done_45 rfl c_0 (fvs r_0_5) ?_
      refine go_aload_n (pc2 := 49) dX10_done_48 rfl rfl rfl ?_
      refine gf_369 (pc2 := 52) rfl dX10_done_49 rfl c_0 (fvs r_0_0) ?_
      refine gf_106 (pc2 := 55) rfl dX10_done_52 rfl c_1 (fvs r_1_1) ?_
      refine go_iload_n (pc2 := 56) dX10_done_55 rfl rfl rfl ?_
      obtain ⟨y16, k⟩ := k
      refine go_iaload (pc2 := 57) (j := (x1).toNatClampNeg) dX10_done_56 rfl c_2 y16 rfl ?_
      refine go_aload_n (pc2 := 58) dX10_done_57 rfl rfl rfl ?_
      refine gf_369 (pc2 := 61) rfl dX10_done_58 rfl c_0 (fvs r_0_0) ?_
      refine gf_110 (pc2 := 64) rfl dX10_done_61 rfl c_1 (fvs r_1_2) ?_
      refine go_iload_n (pc2 := 65) dX10_done_64 rfl rfl rfl ?_
      obtain ⟨y17, k⟩ := k
      refine go_iaload (pc2 := 66) (j := (x1).toNatClampNeg) dX10_done_65 rfl c_3 y17 rfl ?_
      refine go_iload_n (pc2 := 67) dX10_done_66 rfl rfl rfl ?_
      refine go_iconst (pc2 := 68) (v := (0 : Int32)) dX10_done_67 rfl (by decide) ?_
      obtain ⟨Q18, hC19, k⟩ := k
      refine gcVN_I (pc2 := 71) (dC := 1) (As := [.int (h14.1 2 (x1).toNatClampNeg), .int (h14.1 3 (x1).toNatClampNeg), .int x2, .int (0 : Int32)]) (st := []) rfl dX10_done_68 rfl w_690 ok_X0_share vi_X0_share c_28 (by decide) rfl rfl rfl (by decide) (Nat.le_of_ble_eq_true rfl) hC19 (fun v20 h21 hq22 => ?_)
      have k := k v20 h21 hq22
      exact go_iret dX10_done_71 ⟨_, rfl, rfl⟩ ⟨rfl, _, rfl, k⟩
    · have k := k.2 c
      refine go_aload_n (pc2 := 28) dX10_done_27 rfl rfl rfl ?_
      refine go_iload_n (pc2 := 29) dX10_done_28 rfl rfl rfl ?_
      obtain ⟨Q23, hC24, k⟩ := k
      refine gcV_I (pc2 := 32) (dC := 0) (As := [.int v8]) (st := []) rfl dX10_done_29 rfl w_413 ok_X10_refuse vi_X10_refuse c_0 (by decide) rfl rfl rfl (by decide) (Nat.le_of_ble_eq_true rfl) hC24 (fun v25 h26 hq27 => ?_)
      have k := k v25 h26 hq27
      exact go_iret dX10_done_32 ⟨_, rfl, rfl⟩ ⟨rfl, _, rfl, k⟩
  · have k := k.2 c
    refine go_aload_n (pc2 := 12) dX10_done_11 rfl rfl rfl ?_
    refine go_iconst (pc2 := 13) (v := (-1 : Int32)) dX10_done_12 rfl (by decide) ?_
    obtain ⟨Q28, hC29, k⟩ := k
    refine gcV_I (pc2 := 16) (dC := 0) (As := [.int (-1 : Int32)]) (st := []) rfl dX10_done_13 rfl w_413 ok_X10_refuse vi_X10_refuse c_0 (by decide) rfl rfl rfl (by decide) (Nat.le_of_ble_eq_true rfl) hC29 (fun v30 h31 hq32 => ?_)
    have k := k v30 h31 hq32
    exact go_iret dX10_done_16 ⟨_, rfl, rfl⟩ ⟨rfl, _, rfl, k⟩
theorem e_X10_given {x1 : Int32} {x2 : Int32} {x3 : Int32} {h : Hp} {Q : Int32 → Hp → Prop}  (k : (∃ Q1, CtI 0 mX5_noHour [.ref 1, .int x1] h Q1 ∧ ∀ (v3 : Int32) (h4 : Hp), Q1 v3 h4 → ((¬ v3 = 0 → (∃ Q6, CtI 0 mX10_refuse [.ref 0, .int (-1 : Int32)] h4 Q6 ∧ ∀ (v8 : Int32) (h9 : Hp), Q6 v8 h9 → Q v8 h9)) ∧ (v3 = 0 → (∃ Q11, CtI 0 mX5_noPlant [.ref 1, .int x3] h4 Q11 ∧ ∀ (v13 : Int32) (h14 : Hp), Q11 v13 h14 → ((v13 = 0 → (∃ Q16, CtI 0 mX10_refusalOfSet [.ref 0, .int x2] h14 Q16 ∧ ∀ (v18 : Int32) (h19 : Hp), Q16 v18 h19 → ((0 ≤ v18 → ((¬ ((x2 >>> (x3 &&& 31)) &&& (1 : Int32)) = 0 → (∃ Q21, CtV 2 mX0_ready [.ref 28, .ref 1] h19 Q21 ∧ ∀ h24 : Hp, Q21 h24 → (vp_in x1 5 ∧ (vp_in x1 5 ∧ (∃ Q28, CtI 1 mX0_share [.ref 28, .int (h24.1 2 (x1).toNatClampNeg), .int (h24.1 3 (x1).toNatClampNeg), .int x2, .int (0 : Int32)] h24 Q28 ∧ ∀ (v30 : Int32) (h31 : Hp), Q28 v30 h31 → ((0 ≤ v30 → (vp_in x3 3 ∧ Q (h31.1 35 (x3).toNatClampNeg) h31)) ∧ (¬ (0 ≤ v30) → Q (-9 : Int32) h31))))))) ∧ (((x2 >>> (x3 &&& 31)) &&& (1 : Int32)) = 0 → Q (0 : Int32) h19))) ∧ (¬ (0 ≤ v18) → (∃ Q34, CtI 0 mX10_refuse [.ref 0, .int v18] h19 Q34 ∧ ∀ (v36 : Int32) (h37 : Hp), Q34 v36 h37 → Q v36 h37))))) ∧ (¬ v13 = 0 → (∃ Q39, CtI 0 mX10_refuse [.ref 0, .int (-1 : Int32)] h14 Q39 ∧ ∀ (v41 : Int32) (h42 : Hp), Q39 v41 h42 → Q v41 h42)))))))) : CtI 3 mX10_given [.ref 0, .int x1, .int x2, .int x3] h Q := by
  refine Ct.of (by decide +kernel) (Nat.le_of_ble_eq_true rfl) ?_
  show GoI 3 mX10_given 0 [(0, .ref 0), (1, .int x1), (2, .int x2), (3, .int x3)] [] h Q
  refine go_aload_n (pc2 := 1) dX10_given_0 rfl rfl rfl ?_
  refine gf_369 (pc2 := 4) rfl dX10_given_1 rfl c_0 (fvs r_0_0) ?_
  refine go_iload_n (pc2 := 5) dX10_given_4 rfl rfl rfl ?_
  obtain ⟨Q1, hC2, k⟩ := k
  refine gcVN_I (pc2 := 8) (dC := 0) (As := [.int x1]) (st := []) rfl dX10_given_5 rfl w_676 ok_X5_noHour vi_X5_noHour c_1 (by decide) rfl rfl rfl (by decide) (Nat.le_of_ble_eq_true rfl) hC2 (fun v3 h4 hq5 => ?_)
  have k := k v3 h4 hq5
  refine go_if_ne (pc2 := 11) (tgt := 22) dX10_given_8 rfl (by decide) (fun c => ?_) (fun c => ?_)
  · have k := k.1 c
    refine go_aload_n (pc2 := 23) dX10_given_22 rfl rfl rfl ?_
    refine go_iconst (pc2 := 24) (v := (-1 : Int32)) dX10_given_23 rfl (by decide) ?_
    obtain ⟨Q6, hC7, k⟩ := k
    refine gcV_I (pc2 := 27) (dC := 0) (As := [.int (-1 : Int32)]) (st := []) rfl dX10_given_24 rfl w_413 ok_X10_refuse vi_X10_refuse c_0 (by decide) rfl rfl rfl (by decide) (Nat.le_of_ble_eq_true rfl) hC7 (fun v8 h9 hq10 => ?_)
    have k := k v8 h9 hq10
    exact go_iret dX10_given_27 ⟨_, rfl, rfl⟩ ⟨rfl, _, rfl, k⟩
  · have k := k.2 c
    refine go_aload_n (pc2 := 12) dX10_given_11 rfl rfl rfl ?_
    refine gf_369 (pc2 := 15) rfl dX10_given_12 rfl c_0 (fvs r_0_0) ?_
    refine go_iload_n (pc2 := 16) dX10_given_15 rfl rfl rfl ?_
    obtain ⟨Q11, hC12, k⟩ := k
    refine gcVN_I (pc2 := 19) (dC := 0) (As := [.int x3]) (st := []) rfl dX10_given_16 rfl w_621 ok_X5_noPlant vi_X5_noPlant c_1 (by decide) rfl rfl rfl (by decide) (Nat.le_of_ble_eq_true rfl) hC12 (fun v13 h14 hq15 => ?_)
    have k := k v13 h14 hq15
    refine go_if_eq (pc2 := 22) (tgt := 28) dX10_given_19 rfl (by decide) (fun c => ?_) (fun c => ?_)
    · have k := k.1 c
      refine go_aload_n (pc2 := 29) dX10_given_28 rfl rfl rfl ?_
      refine go_iload_n (pc2 := 30) dX10_given_29 rfl rfl rfl ?_
      obtain ⟨Q16, hC17, k⟩ := k
      refine gcV_I (pc2 := 33) (dC := 0) (As := [.int x2]) (st := []) rfl dX10_given_30 rfl w_677 ok_X10_refusalOfSet vi_X10_refusalOfSet c_0 (by decide) rfl rfl rfl (by decide) (Nat.le_of_ble_eq_true rfl) hC17 (fun v18 h19 hq20 => ?_)
      have k := k v18 h19 hq20
      refine go_istore (pc2 := 35) (ls2 := [(0, .ref 0), (1, .int x1), (2, .int x2), (3, .int x3), (4, .int v18)]) dX10_given_33 rfl rfl rfl rfl rfl ?_
      refine go_iload (pc2 := 37) dX10_given_35 rfl rfl ?_
      refine go_if_ge (pc2 := 40) (tgt := 47) dX10_given_37 rfl (by decide) (fun c => ?_) (fun c => ?_)
      · have k := k.1 c
        refine go_iload_n (pc2 := 48) dX10_given_47 rfl rfl rfl ?_
        refine go_iload_n (pc2 := 49) dX10_given_48 rfl rfl rfl ?_
        refine go_ishr (pc2 := 50) dX10_given_49 rfl ?_
        refine go_iconst (pc2 := 51) (v := (1 : Int32)) dX10_given_50 rfl (by decide) ?_
        refine go_iand (pc2 := 52) dX10_given_51 rfl ?_
        refine go_if_ne (pc2 := 55) (tgt := 57) dX10_given_52 rfl (by decide) (fun c => ?_) (fun c => ?_)
        · have k := k.1 c
          refine go_aload_n (pc2 := 58) dX10_given_57 rfl rfl rfl ?_
          refine gf_374 (pc2 := 61) rfl dX10_given_58 rfl c_0 (fvs r_0_5) ?_
          refine go_aload_n (pc2 := 62) dX10_given_61 rfl rfl rfl ?_
          refine gf_369 (pc2 := 65) rfl dX10_given_62 rfl c_0 (fvs r_0_0) ?_
          obtain ⟨Q21, hC22, k⟩ := k
          refine gcVN_V (pc2 := 68) (dC := 2) (As := [.ref 1]) (st := []) rfl dX10_given_65 rfl w_681 ok_X0_ready vi_X0_ready c_28 (by decide) rfl rfl rfl (by decide) (Nat.le_of_ble_eq_true rfl) hC22 (fun h24 hq25 => ?_)
          have k := k h24 hq25
          refine go_aload_n (pc2 := 69) dX10_given_68 rfl rfl rfl ?_
          refine gf_374 (pc2 := 72) rfl dX10_given_69 rfl c_0 (fvs r_0_5) ?_
          refine go_aload_n (pc2 := 73) dX10_given_72 rfl rfl rfl ?_
          refine gf_369 (pc2 := 76) rfl dX10_given_73 rfl c_0 (fvs r_0_0) ?_
          refine gf_106 (pc2 := 79) rfl dX10_given_76 rfl c_1 (fvs r_1_1) ?_
          refine go_iload_n (pc2 := 80) dX10_given_79 rfl rfl rfl ?_
          obtain ⟨y26, k⟩ := k
          refine go_iaload (pc2 := 81) (j := (x1).toNatClampNeg) dX10_given_80 rfl c_2 y26 rfl ?_
          refine go_aload_n (pc2 := 82) dX10_given_81 rfl rfl rfl ?_
          refine gf_369 (pc2 := 85) rfl dX10_given_82 rfl c_0 (fvs r_0_0) ?_
          refine gf_110 (pc2 := 88) rfl dX10_given_85 rfl c_1 (fvs r_1_2) ?_
          refine go_iload_n (pc2 := 89) dX10_given_88 rfl rfl rfl ?_
          obtain ⟨y27, k⟩ := k
          refine go_iaload (pc2 := 90) (j := (x1).toNatClampNeg) dX10_given_89 rfl c_3 y27 rfl ?_
          refine go_iload_n (pc2 := 91) dX10_given_90 rfl rfl rfl ?_
          refine go_iconst (pc2 := 92) (v := (0 : Int32)) dX10_given_91 rfl (by decide) ?_
          obtain ⟨Q28, hC29, k⟩ := k
          refine gcVN_I (pc2 := 95) (dC := 1) (As := [.int (h24.1 2 (x1).toNatClampNeg), .int (h24.1 3 (x1).toNatClampNeg), .int x2, .int (0 : Int32)]) (st := []) rfl dX10_given_92 rfl w_690 ok_X0_share vi_X0_share c_28 (by decide) rfl rfl rfl (by decide) (Nat.le_of_ble_eq_true rfl) hC29 (fun v30 h31 hq32 => ?_)
          have k := k v30 h31 hq32
          refine go_istore (pc2 := 97) (ls2 := [(0, .ref 0), (1, .int x1), (2, .int x2), (3, .int x3), (4, .int v18), (5, .int v30)]) dX10_given_95 rfl rfl rfl rfl rfl ?_
          refine go_iload (pc2 := 99) dX10_given_97 rfl rfl ?_
          refine go_if_ge (pc2 := 102) (tgt := 107) dX10_given_99 rfl (by decide) (fun c => ?_) (fun c => ?_)
          · have k := k.1 c
            refine go_aload_n (pc2 := 108) dX10_given_107 rfl rfl rfl ?_
            refine gf_374 (pc2 := 111) rfl dX10_given_108 rfl c_0 (fvs r_0_5) ?_
            refine gf_190 (pc2 := 114) rfl dX10_given_111 rfl c_28 (fvs r_28_6) ?_
            refine go_iload_n (pc2 := 115) dX10_given_114 rfl rfl rfl ?_
            obtain ⟨y33, k⟩ := k
            refine go_iaload (pc2 := 116) (j := (x3).toNatClampNeg) dX10_given_115 rfl c_35 y33 rfl ?_
            exact go_iret dX10_given_116 ⟨_, rfl, rfl⟩ ⟨rfl, _, rfl, k⟩
          · have k := k.2 c
            refine go_bipush (pc2 := 104) (v := (-9 : Int32)) dX10_given_102 rfl (by decide) ?_
            refine go_goto (tgt := 116) dX10_given_104 (by decide) ?_
            exact go_iret dX10_given_116 ⟨_, rfl, rfl⟩ ⟨rfl, _, rfl, k⟩
        · have k := k.2 c
          refine go_iconst (pc2 := 56) (v := (0 : Int32)) dX10_given_55 rfl (by decide) ?_
          exact go_iret dX10_given_56 ⟨_, rfl, rfl⟩ ⟨rfl, _, rfl, k⟩
      · have k := k.2 c
        refine go_aload_n (pc2 := 41) dX10_given_40 rfl rfl rfl ?_
        refine go_iload (pc2 := 43) dX10_given_41 rfl rfl ?_
        obtain ⟨Q34, hC35, k⟩ := k
        refine gcV_I (pc2 := 46) (dC := 0) (As := [.int v18]) (st := []) rfl dX10_given_43 rfl w_413 ok_X10_refuse vi_X10_refuse c_0 (by decide) rfl rfl rfl (by decide) (Nat.le_of_ble_eq_true rfl) hC35 (fun v36 h37 hq38 => ?_)
        have k := k v36 h37 hq38
        exact go_iret dX10_given_46 ⟨_, rfl, rfl⟩ ⟨rfl, _, rfl, k⟩
    · have k := k.2 c
      refine go_aload_n (pc2 := 23) dX10_given_22 rfl rfl rfl ?_
      refine go_iconst (pc2 := 24) (v := (-1 : Int32)) dX10_given_23 rfl (by decide) ?_
      obtain ⟨Q39, hC40, k⟩ := k
      refine gcV_I (pc2 := 27) (dC := 0) (As := [.int (-1 : Int32)]) (st := []) rfl dX10_given_24 rfl w_413 ok_X10_refuse vi_X10_refuse c_0 (by decide) rfl rfl rfl (by decide) (Nat.le_of_ble_eq_true rfl) hC40 (fun v41 h42 hq43 => ?_)
      have k := k v41 h42 hq43
      exact go_iret dX10_given_27 ⟨_, rfl, rfl⟩ ⟨rfl, _, rfl, k⟩
theorem e_X10_best  {h : Hp} {Q : Int32 → Hp → Prop}  (k : (∃ Q1, CtI 5 mX10_solveAsIs [.ref 0] h Q1 ∧ ∀ (v3 : Int32) (h4 : Hp), Q1 v3 h4 → Q v3 h4)) : CtI 6 mX10_best [.ref 0] h Q := by
  refine Ct.of (by decide +kernel) (Nat.le_of_ble_eq_true rfl) ?_
  show GoI 6 mX10_best 0 [(0, .ref 0)] [] h Q
  refine go_aload_n (pc2 := 1) dX10_best_0 rfl rfl rfl ?_
  obtain ⟨Q1, hC2, k⟩ := k
  refine gcV_I (pc2 := 4) (dC := 5) (As := []) (st := []) rfl dX10_best_1 rfl w_707 ok_X10_solveAsIs vi_X10_solveAsIs c_0 (by decide) rfl rfl rfl (by decide) (Nat.le_of_ble_eq_true rfl) hC2 (fun v3 h4 hq5 => ?_)
  have k := k v3 h4 hq5
  exact go_iret dX10_best_4 ⟨_, rfl, rfl⟩ ⟨rfl, _, rfl, k⟩
theorem e_X10_row {x1 : Int32} {h : Hp} {Q : Int32 → Hp → Prop}  (k : (∃ Q1, CtI 0 mX5_noPlant [.ref 1, .int x1] h Q1 ∧ ∀ (v3 : Int32) (h4 : Hp), Q1 v3 h4 → ((v3 = 0 → (∃ Q6, CtI 5 mX10_solveAsIs [.ref 0] h4 Q6 ∧ ∀ (v8 : Int32) (h9 : Hp), Q6 v8 h9 → ((0 ≤ v8 → (vp_in x1 3 ∧ Q (h9.1 41 (x1).toNatClampNeg) h9)) ∧ (¬ (0 ≤ v8) → Q (-9 : Int32) h9)))) ∧ (¬ v3 = 0 → (∃ Q12, CtI 0 mX10_refuse [.ref 0, .int (-1 : Int32)] h4 Q12 ∧ ∀ (v14 : Int32) (h15 : Hp), Q12 v14 h15 → Q v14 h15))))) : CtI 6 mX10_row [.ref 0, .int x1] h Q := by
  refine Ct.of (by decide +kernel) (Nat.le_of_ble_eq_true rfl) ?_
  show GoI 6 mX10_row 0 [(0, .ref 0), (1, .int x1)] [] h Q
  refine go_aload_n (pc2 := 1) dX10_row_0 rfl rfl rfl ?_
  refine gf_369 (pc2 := 4) rfl dX10_row_1 rfl c_0 (fvs r_0_0) ?_
  refine go_iload_n (pc2 := 5) dX10_row_4 rfl rfl rfl ?_
  obtain ⟨Q1, hC2, k⟩ := k
  refine gcVN_I (pc2 := 8) (dC := 0) (As := [.int x1]) (st := []) rfl dX10_row_5 rfl w_621 ok_X5_noPlant vi_X5_noPlant c_1 (by decide) rfl rfl rfl (by decide) (Nat.le_of_ble_eq_true rfl) hC2 (fun v3 h4 hq5 => ?_)
  have k := k v3 h4 hq5
  refine go_if_eq (pc2 := 11) (tgt := 17) dX10_row_8 rfl (by decide) (fun c => ?_) (fun c => ?_)
  · have k := k.1 c
    refine go_aload_n (pc2 := 18) dX10_row_17 rfl rfl rfl ?_
    obtain ⟨Q6, hC7, k⟩ := k
    refine gcV_I (pc2 := 21) (dC := 5) (As := []) (st := []) rfl dX10_row_18 rfl w_707 ok_X10_solveAsIs vi_X10_solveAsIs c_0 (by decide) rfl rfl rfl (by decide) (Nat.le_of_ble_eq_true rfl) hC7 (fun v8 h9 hq10 => ?_)
    have k := k v8 h9 hq10
    refine go_if_ge (pc2 := 24) (tgt := 29) dX10_row_21 rfl (by decide) (fun c => ?_) (fun c => ?_)
    · have k := k.1 c
      refine go_aload_n (pc2 := 30) dX10_row_29 rfl rfl rfl ?_
      refine gf_376 (pc2 := 33) rfl dX10_row_30 rfl c_0 (fvs r_0_7) ?_
      refine gf_242 (pc2 := 36) rfl dX10_row_33 rfl c_38 (fvs r_38_5) ?_
      refine go_iload_n (pc2 := 37) dX10_row_36 rfl rfl rfl ?_
      obtain ⟨y11, k⟩ := k
      refine go_iaload (pc2 := 38) (j := (x1).toNatClampNeg) dX10_row_37 rfl c_41 y11 rfl ?_
      exact go_iret dX10_row_38 ⟨_, rfl, rfl⟩ ⟨rfl, _, rfl, k⟩
    · have k := k.2 c
      refine go_bipush (pc2 := 26) (v := (-9 : Int32)) dX10_row_24 rfl (by decide) ?_
      refine go_goto (tgt := 38) dX10_row_26 (by decide) ?_
      exact go_iret dX10_row_38 ⟨_, rfl, rfl⟩ ⟨rfl, _, rfl, k⟩
  · have k := k.2 c
    refine go_aload_n (pc2 := 12) dX10_row_11 rfl rfl rfl ?_
    refine go_iconst (pc2 := 13) (v := (-1 : Int32)) dX10_row_12 rfl (by decide) ?_
    obtain ⟨Q12, hC13, k⟩ := k
    refine gcV_I (pc2 := 16) (dC := 0) (As := [.int (-1 : Int32)]) (st := []) rfl dX10_row_13 rfl w_413 ok_X10_refuse vi_X10_refuse c_0 (by decide) rfl rfl rfl (by decide) (Nat.le_of_ble_eq_true rfl) hC13 (fun v14 h15 hq16 => ?_)
    have k := k v14 h15 hq16
    exact go_iret dX10_row_16 ⟨_, rfl, rfl⟩ ⟨rfl, _, rfl, k⟩
theorem e_X10_cost {x1 : Int32} {h : Hp} {Q : Int32 → Hp → Prop}  (k : (∃ Q1, CtI 0 mX5_noHour [.ref 1, .int x1] h Q1 ∧ ∀ (v3 : Int32) (h4 : Hp), Q1 v3 h4 → ((v3 = 0 → (∃ Q6, CtI 5 mX10_solveAsIs [.ref 0] h4 Q6 ∧ ∀ (v8 : Int32) (h9 : Hp), Q6 v8 h9 → ((0 ≤ v8 → (∃ Q11, CtV 3 mX9_begin [.ref 36] h9 Q11 ∧ ∀ h14 : Hp, Q11 h14 → GoI 6 mX10_cost 38 [(0, .ref 0), (1, .int x1), (2, .int (0 : Int32)), (3, .int (0 : Int32))] [] h14 Q)) ∧ (¬ (0 ≤ v8) → Q (-9 : Int32) h9)))) ∧ (¬ v3 = 0 → (∃ Q16, CtI 0 mX10_refuse [.ref 0, .int (-1 : Int32)] h4 Q16 ∧ ∀ (v18 : Int32) (h19 : Hp), Q16 v18 h19 → Q v18 h19))))) : CtI 6 mX10_cost [.ref 0, .int x1] h Q := by
  refine Ct.of (by decide +kernel) (Nat.le_of_ble_eq_true rfl) ?_
  show GoI 6 mX10_cost 0 [(0, .ref 0), (1, .int x1)] [] h Q
  refine go_aload_n (pc2 := 1) dX10_cost_0 rfl rfl rfl ?_
  refine gf_369 (pc2 := 4) rfl dX10_cost_1 rfl c_0 (fvs r_0_0) ?_
  refine go_iload_n (pc2 := 5) dX10_cost_4 rfl rfl rfl ?_
  obtain ⟨Q1, hC2, k⟩ := k
  refine gcVN_I (pc2 := 8) (dC := 0) (As := [.int x1]) (st := []) rfl dX10_cost_5 rfl w_676 ok_X5_noHour vi_X5_noHour c_1 (by decide) rfl rfl rfl (by decide) (Nat.le_of_ble_eq_true rfl) hC2 (fun v3 h4 hq5 => ?_)
  have k := k v3 h4 hq5
  refine go_if_eq (pc2 := 11) (tgt := 17) dX10_cost_8 rfl (by decide) (fun c => ?_) (fun c => ?_)
  · have k := k.1 c
    refine go_aload_n (pc2 := 18) dX10_cost_17 rfl rfl rfl ?_
    obtain ⟨Q6, hC7, k⟩ := k
    refine gcV_I (pc2 := 21) (dC := 5) (As := []) (st := []) rfl dX10_cost_18 rfl w_707 ok_X10_solveAsIs vi_X10_solveAsIs c_0 (by decide) rfl rfl rfl (by decide) (Nat.le_of_ble_eq_true rfl) hC7 (fun v8 h9 hq10 => ?_)
    have k := k v8 h9 hq10
    refine go_if_ge (pc2 := 24) (tgt := 27) dX10_cost_21 rfl (by decide) (fun c => ?_) (fun c => ?_)
    · have k := k.1 c
      refine go_aload_n (pc2 := 28) dX10_cost_27 rfl rfl rfl ?_
      refine gf_375 (pc2 := 31) rfl dX10_cost_28 rfl c_0 (fvs r_0_6) ?_
      obtain ⟨Q11, hC12, k⟩ := k
      refine gcVN_V (pc2 := 34) (dC := 3) (As := []) (st := []) rfl dX10_cost_31 rfl w_774 ok_X9_begin vi_X9_begin c_36 (by decide) rfl rfl rfl (by decide) (Nat.le_of_ble_eq_true rfl) hC12 (fun h14 hq15 => ?_)
      have k := k h14 hq15
      refine go_iconst (pc2 := 35) (v := (0 : Int32)) dX10_cost_34 rfl (by decide) ?_
      refine go_istore_n (pc2 := 36) (ls2 := [(0, .ref 0), (1, .int x1), (2, .int (0 : Int32))]) dX10_cost_35 rfl rfl rfl rfl rfl rfl ?_
      refine go_iconst (pc2 := 37) (v := (0 : Int32)) dX10_cost_36 rfl (by decide) ?_
      refine go_istore_n (pc2 := 38) (ls2 := [(0, .ref 0), (1, .int x1), (2, .int (0 : Int32)), (3, .int (0 : Int32))]) dX10_cost_37 rfl rfl rfl rfl rfl rfl ?_
      exact k
    · have k := k.2 c
      refine go_bipush (pc2 := 26) (v := (-9 : Int32)) dX10_cost_24 rfl (by decide) ?_
      exact go_iret dX10_cost_26 ⟨_, rfl, rfl⟩ ⟨rfl, _, rfl, k⟩
  · have k := k.2 c
    refine go_aload_n (pc2 := 12) dX10_cost_11 rfl rfl rfl ?_
    refine go_iconst (pc2 := 13) (v := (-1 : Int32)) dX10_cost_12 rfl (by decide) ?_
    obtain ⟨Q16, hC17, k⟩ := k
    refine gcV_I (pc2 := 16) (dC := 0) (As := [.int (-1 : Int32)]) (st := []) rfl dX10_cost_13 rfl w_413 ok_X10_refuse vi_X10_refuse c_0 (by decide) rfl rfl rfl (by decide) (Nat.le_of_ble_eq_true rfl) hC17 (fun v18 h19 hq20 => ?_)
    have k := k v18 h19 hq20
    exact go_iret dX10_cost_16 ⟨_, rfl, rfl⟩ ⟨rfl, _, rfl, k⟩
theorem b_X10_cost_38 {x1 : Int32} {x2 : Int32} {x3 : Int32} {h : Hp} {Q : Int32 → Hp → Prop}  (k : ((x1 < x3 → Q x2 h) ∧ (¬ (x1 < x3) → (∃ Q1, CtI 0 mX7_setAt [.ref 38, .int x3] h Q1 ∧ ∀ (v3 : Int32) (h4 : Hp), Q1 v3 h4 → (∃ Q6, CtI 4 mX9_pass [.ref 36, .int x3, .int v3] h4 Q6 ∧ ∀ (v8 : Int32) (h9 : Hp), Q6 v8 h9 → GoI 6 mX10_cost 38 [(0, .ref 0), (1, .int x1), (2, .int v8), (3, .int (x3 + 1))] [] h9 Q))))) : GoI 6 mX10_cost 38 [(0, .ref 0), (1, .int x1), (2, .int x2), (3, .int x3)] [] h Q := by
  refine go_iload_n (pc2 := 39) dX10_cost_38 rfl rfl rfl ?_
  refine go_iload_n (pc2 := 40) dX10_cost_39 rfl rfl rfl ?_
  refine go_icmp_gt (pc2 := 43) (tgt := 66) dX10_cost_40 rfl (by decide) (fun c => ?_) (fun c => ?_)
  · have k := k.1 c
    refine go_iload_n (pc2 := 67) dX10_cost_66 rfl rfl rfl ?_
    exact go_iret dX10_cost_67 ⟨_, rfl, rfl⟩ ⟨rfl, _, rfl, k⟩
  · have k := k.2 c
    refine go_aload_n (pc2 := 44) dX10_cost_43 rfl rfl rfl ?_
    refine gf_375 (pc2 := 47) rfl dX10_cost_44 rfl c_0 (fvs r_0_6) ?_
    refine go_iload_n (pc2 := 48) dX10_cost_47 rfl rfl rfl ?_
    refine go_aload_n (pc2 := 49) dX10_cost_48 rfl rfl rfl ?_
    refine gf_376 (pc2 := 52) rfl dX10_cost_49 rfl c_0 (fvs r_0_7) ?_
    refine go_iload_n (pc2 := 53) dX10_cost_52 rfl rfl rfl ?_
    obtain ⟨Q1, hC2, k⟩ := k
    refine gcVN_I (pc2 := 56) (dC := 0) (As := [.int x3]) (st := [.int x3, .ref 36]) rfl dX10_cost_53 rfl w_779 ok_X7_setAt vi_X7_setAt c_38 (by decide) rfl rfl rfl (by decide) (Nat.le_of_ble_eq_true rfl) hC2 (fun v3 h4 hq5 => ?_)
    have k := k v3 h4 hq5
    obtain ⟨Q6, hC7, k⟩ := k
    refine gcVN_I (pc2 := 59) (dC := 4) (As := [.int x3, .int v3]) (st := []) rfl dX10_cost_56 rfl w_783 ok_X9_pass vi_X9_pass c_36 (by decide) rfl rfl rfl (by decide) (Nat.le_of_ble_eq_true rfl) hC7 (fun v8 h9 hq10 => ?_)
    have k := k v8 h9 hq10
    refine go_istore_n (pc2 := 60) (ls2 := [(0, .ref 0), (1, .int x1), (2, .int v8), (3, .int x3)]) dX10_cost_59 rfl rfl rfl rfl rfl rfl ?_
    refine go_iinc (pc2 := 63) (ls2 := [(0, .ref 0), (1, .int x1), (2, .int v8), (3, .int (x3 + 1))]) (v := (x3 + 1)) dX10_cost_60 rfl rfl rfl rfl rfl rfl rfl ?_
    refine go_goto (tgt := 38) dX10_cost_63 (by decide) ?_
    exact k
theorem e_X10_margin {x1 : Int32} {h : Hp} {Q : Int32 → Hp → Prop}  (k : (∃ Q1, CtI 0 mX5_noHour [.ref 1, .int x1] h Q1 ∧ ∀ (v3 : Int32) (h4 : Hp), Q1 v3 h4 → ((v3 = 0 → (∃ Q6, CtI 5 mX10_solveAsIs [.ref 0] h4 Q6 ∧ ∀ (v8 : Int32) (h9 : Hp), Q6 v8 h9 → (∃ Q11, CtV 1 mX7_load [.ref 38] h9 Q11 ∧ ∀ h14 : Hp, Q11 h14 → (vp_in x1 5 ∧ (vp_in x1 5 ∧ (∀ g18 : Hp, g18 = (ui h14 39 (x1).toNatClampNeg ((h14.1 39 (x1).toNatClampNeg) + (1 : Int32))) → (∃ Q19, CtI 4 mX7_solve [.ref 38] g18 Q19 ∧ ∀ (v21 : Int32) (h22 : Hp), Q19 v21 h22 → (∃ Q24, CtI 0 mX10_difference [.int v21, .int v8] h22 Q24 ∧ ∀ (v26 : Int32) (h27 : Hp), Q24 v26 h27 → Q v26 h27)))))))) ∧ (¬ v3 = 0 → (∃ Q29, CtI 0 mX10_refuse [.ref 0, .int (-1 : Int32)] h4 Q29 ∧ ∀ (v31 : Int32) (h32 : Hp), Q29 v31 h32 → Q v31 h32))))) : CtI 6 mX10_margin [.ref 0, .int x1] h Q := by
  refine Ct.of (by decide +kernel) (Nat.le_of_ble_eq_true rfl) ?_
  show GoI 6 mX10_margin 0 [(0, .ref 0), (1, .int x1)] [] h Q
  refine go_aload_n (pc2 := 1) dX10_margin_0 rfl rfl rfl ?_
  refine gf_369 (pc2 := 4) rfl dX10_margin_1 rfl c_0 (fvs r_0_0) ?_
  refine go_iload_n (pc2 := 5) dX10_margin_4 rfl rfl rfl ?_
  obtain ⟨Q1, hC2, k⟩ := k
  refine gcVN_I (pc2 := 8) (dC := 0) (As := [.int x1]) (st := []) rfl dX10_margin_5 rfl w_676 ok_X5_noHour vi_X5_noHour c_1 (by decide) rfl rfl rfl (by decide) (Nat.le_of_ble_eq_true rfl) hC2 (fun v3 h4 hq5 => ?_)
  have k := k v3 h4 hq5
  refine go_if_eq (pc2 := 11) (tgt := 17) dX10_margin_8 rfl (by decide) (fun c => ?_) (fun c => ?_)
  · have k := k.1 c
    refine go_aload_n (pc2 := 18) dX10_margin_17 rfl rfl rfl ?_
    obtain ⟨Q6, hC7, k⟩ := k
    refine gcV_I (pc2 := 21) (dC := 5) (As := []) (st := []) rfl dX10_margin_18 rfl w_707 ok_X10_solveAsIs vi_X10_solveAsIs c_0 (by decide) rfl rfl rfl (by decide) (Nat.le_of_ble_eq_true rfl) hC7 (fun v8 h9 hq10 => ?_)
    have k := k v8 h9 hq10
    refine go_istore_n (pc2 := 22) (ls2 := [(0, .ref 0), (1, .int x1), (2, .int v8)]) dX10_margin_21 rfl rfl rfl rfl rfl rfl ?_
    refine go_aload_n (pc2 := 23) dX10_margin_22 rfl rfl rfl ?_
    refine gf_376 (pc2 := 26) rfl dX10_margin_23 rfl c_0 (fvs r_0_7) ?_
    obtain ⟨Q11, hC12, k⟩ := k
    refine gcVN_V (pc2 := 29) (dC := 1) (As := []) (st := []) rfl dX10_margin_26 rfl w_711 ok_X7_load vi_X7_load c_38 (by decide) rfl rfl rfl (by decide) (Nat.le_of_ble_eq_true rfl) hC12 (fun h14 hq15 => ?_)
    have k := k h14 hq15
    refine go_aload_n (pc2 := 30) dX10_margin_29 rfl rfl rfl ?_
    refine gf_376 (pc2 := 33) rfl dX10_margin_30 rfl c_0 (fvs r_0_7) ?_
    refine gf_236 (pc2 := 36) rfl dX10_margin_33 rfl c_38 (fvs r_38_2) ?_
    refine go_iload_n (pc2 := 37) dX10_margin_36 rfl rfl rfl ?_
    refine go_dup2 (pc2 := 38) dX10_margin_37 rfl rfl rfl ?_
    obtain ⟨y16, k⟩ := k
    refine go_iaload (pc2 := 39) (j := (x1).toNatClampNeg) dX10_margin_38 rfl c_39 y16 rfl ?_
    refine go_iconst (pc2 := 40) (v := (1 : Int32)) dX10_margin_39 rfl (by decide) ?_
    refine go_iadd (pc2 := 41) dX10_margin_40 rfl ?_
    obtain ⟨y17, k⟩ := k
    refine go_iastore (pc2 := 42) (j := (x1).toNatClampNeg) dX10_margin_41 rfl c_39 y17 rfl ?_
    obtain ⟨g18, eg18⟩ : ∃ y : Hp, y = (ui h14 39 (x1).toNatClampNeg ((h14.1 39 (x1).toNatClampNeg) + (1 : Int32))) := ⟨_, rfl⟩
    rw [← eg18]
    have k := k g18 eg18
    refine go_aload_n (pc2 := 43) dX10_margin_42 rfl rfl rfl ?_
    refine gf_376 (pc2 := 46) rfl dX10_margin_43 rfl c_0 (fvs r_0_7) ?_
    obtain ⟨Q19, hC20, k⟩ := k
    refine gcVN_I (pc2 := 49) (dC := 4) (As := []) (st := []) rfl dX10_margin_46 rfl w_716 ok_X7_solve vi_X7_solve c_38 (by decide) rfl rfl rfl (by decide) (Nat.le_of_ble_eq_true rfl) hC20 (fun v21 h22 hq23 => ?_)
    have k := k v21 h22 hq23
    refine go_iload_n (pc2 := 50) dX10_margin_49 rfl rfl rfl ?_
    obtain ⟨Q24, hC25, k⟩ := k
    refine gcS_I (pc2 := 53) (dC := 0) (As := [.int v21, .int v8]) (st := []) rfl dX10_margin_50 rfl w_798 ok_X10_difference w_799 rfl (by decide) (Nat.le_of_ble_eq_true rfl) hC25 (fun v26 h27 hq28 => ?_)
    have k := k v26 h27 hq28
    exact go_iret dX10_margin_53 ⟨_, rfl, rfl⟩ ⟨rfl, _, rfl, k⟩
  · have k := k.2 c
    refine go_aload_n (pc2 := 12) dX10_margin_11 rfl rfl rfl ?_
    refine go_iconst (pc2 := 13) (v := (-1 : Int32)) dX10_margin_12 rfl (by decide) ?_
    obtain ⟨Q29, hC30, k⟩ := k
    refine gcV_I (pc2 := 16) (dC := 0) (As := [.int (-1 : Int32)]) (st := []) rfl dX10_margin_13 rfl w_413 ok_X10_refuse vi_X10_refuse c_0 (by decide) rfl rfl rfl (by decide) (Nat.le_of_ble_eq_true rfl) hC30 (fun v31 h32 hq33 => ?_)
    have k := k v31 h32 hq33
    exact go_iret dX10_margin_16 ⟨_, rfl, rfl⟩ ⟨rfl, _, rfl, k⟩
theorem e_X10_worth {x1 : Int32} {h : Hp} {Q : Int32 → Hp → Prop}  (k : (∃ Q1, CtI 0 mX5_noPlant [.ref 1, .int x1] h Q1 ∧ ∀ (v3 : Int32) (h4 : Hp), Q1 v3 h4 → ((v3 = 0 → (∃ Q6, CtI 5 mX10_solveAsIs [.ref 0] h4 Q6 ∧ ∀ (v8 : Int32) (h9 : Hp), Q6 v8 h9 → (∃ Q11, CtV 1 mX7_load [.ref 38] h9 Q11 ∧ ∀ h14 : Hp, Q11 h14 → (∀ g16 : Hp, g16 = (ui h14 38 4 ((h14.1 38 4) &&& (((1 : Int32) <<< (x1 &&& 31)) ^^^ (-1 : Int32)))) → (∃ Q17, CtI 4 mX7_solve [.ref 38] g16 Q17 ∧ ∀ (v19 : Int32) (h20 : Hp), Q17 v19 h20 → (∃ Q22, CtI 0 mX10_difference [.int v19, .int v8] h20 Q22 ∧ ∀ (v24 : Int32) (h25 : Hp), Q22 v24 h25 → Q v24 h25)))))) ∧ (¬ v3 = 0 → (∃ Q27, CtI 0 mX10_refuse [.ref 0, .int (-1 : Int32)] h4 Q27 ∧ ∀ (v29 : Int32) (h30 : Hp), Q27 v29 h30 → Q v29 h30))))) : CtI 6 mX10_worth [.ref 0, .int x1] h Q := by
  refine Ct.of (by decide +kernel) (Nat.le_of_ble_eq_true rfl) ?_
  show GoI 6 mX10_worth 0 [(0, .ref 0), (1, .int x1)] [] h Q
  refine go_aload_n (pc2 := 1) dX10_worth_0 rfl rfl rfl ?_
  refine gf_369 (pc2 := 4) rfl dX10_worth_1 rfl c_0 (fvs r_0_0) ?_
  refine go_iload_n (pc2 := 5) dX10_worth_4 rfl rfl rfl ?_
  obtain ⟨Q1, hC2, k⟩ := k
  refine gcVN_I (pc2 := 8) (dC := 0) (As := [.int x1]) (st := []) rfl dX10_worth_5 rfl w_621 ok_X5_noPlant vi_X5_noPlant c_1 (by decide) rfl rfl rfl (by decide) (Nat.le_of_ble_eq_true rfl) hC2 (fun v3 h4 hq5 => ?_)
  have k := k v3 h4 hq5
  refine go_if_eq (pc2 := 11) (tgt := 17) dX10_worth_8 rfl (by decide) (fun c => ?_) (fun c => ?_)
  · have k := k.1 c
    refine go_aload_n (pc2 := 18) dX10_worth_17 rfl rfl rfl ?_
    obtain ⟨Q6, hC7, k⟩ := k
    refine gcV_I (pc2 := 21) (dC := 5) (As := []) (st := []) rfl dX10_worth_18 rfl w_707 ok_X10_solveAsIs vi_X10_solveAsIs c_0 (by decide) rfl rfl rfl (by decide) (Nat.le_of_ble_eq_true rfl) hC7 (fun v8 h9 hq10 => ?_)
    have k := k v8 h9 hq10
    refine go_istore_n (pc2 := 22) (ls2 := [(0, .ref 0), (1, .int x1), (2, .int v8)]) dX10_worth_21 rfl rfl rfl rfl rfl rfl ?_
    refine go_aload_n (pc2 := 23) dX10_worth_22 rfl rfl rfl ?_
    refine gf_376 (pc2 := 26) rfl dX10_worth_23 rfl c_0 (fvs r_0_7) ?_
    obtain ⟨Q11, hC12, k⟩ := k
    refine gcVN_V (pc2 := 29) (dC := 1) (As := []) (st := []) rfl dX10_worth_26 rfl w_711 ok_X7_load vi_X7_load c_38 (by decide) rfl rfl rfl (by decide) (Nat.le_of_ble_eq_true rfl) hC12 (fun h14 hq15 => ?_)
    have k := k h14 hq15
    refine go_aload_n (pc2 := 30) dX10_worth_29 rfl rfl rfl ?_
    refine gf_376 (pc2 := 33) rfl dX10_worth_30 rfl c_0 (fvs r_0_7) ?_
    refine go_dup (pc2 := 34) dX10_worth_33 rfl rfl ?_
    refine gf_240 (pc2 := 37) rfl dX10_worth_34 rfl c_38 fvi ?_
    refine go_iconst (pc2 := 38) (v := (1 : Int32)) dX10_worth_37 rfl (by decide) ?_
    refine go_iload_n (pc2 := 39) dX10_worth_38 rfl rfl rfl ?_
    refine go_ishl (pc2 := 40) dX10_worth_39 rfl ?_
    refine go_iconst (pc2 := 41) (v := (-1 : Int32)) dX10_worth_40 rfl (by decide) ?_
    refine go_ixor (pc2 := 42) dX10_worth_41 rfl ?_
    refine go_iand (pc2 := 43) dX10_worth_42 rfl ?_
    refine pf_240 (pc2 := 46) rfl dX10_worth_43 rfl c_38 ?_
    obtain ⟨g16, eg16⟩ : ∃ y : Hp, y = (ui h14 38 4 ((h14.1 38 4) &&& (((1 : Int32) <<< (x1 &&& 31)) ^^^ (-1 : Int32)))) := ⟨_, rfl⟩
    rw [← eg16]
    have k := k g16 eg16
    refine go_aload_n (pc2 := 47) dX10_worth_46 rfl rfl rfl ?_
    refine gf_376 (pc2 := 50) rfl dX10_worth_47 rfl c_0 (fvs r_0_7) ?_
    obtain ⟨Q17, hC18, k⟩ := k
    refine gcVN_I (pc2 := 53) (dC := 4) (As := []) (st := []) rfl dX10_worth_50 rfl w_716 ok_X7_solve vi_X7_solve c_38 (by decide) rfl rfl rfl (by decide) (Nat.le_of_ble_eq_true rfl) hC18 (fun v19 h20 hq21 => ?_)
    have k := k v19 h20 hq21
    refine go_iload_n (pc2 := 54) dX10_worth_53 rfl rfl rfl ?_
    obtain ⟨Q22, hC23, k⟩ := k
    refine gcS_I (pc2 := 57) (dC := 0) (As := [.int v19, .int v8]) (st := []) rfl dX10_worth_54 rfl w_798 ok_X10_difference w_799 rfl (by decide) (Nat.le_of_ble_eq_true rfl) hC23 (fun v24 h25 hq26 => ?_)
    have k := k v24 h25 hq26
    exact go_iret dX10_worth_57 ⟨_, rfl, rfl⟩ ⟨rfl, _, rfl, k⟩
  · have k := k.2 c
    refine go_aload_n (pc2 := 12) dX10_worth_11 rfl rfl rfl ?_
    refine go_iconst (pc2 := 13) (v := (-1 : Int32)) dX10_worth_12 rfl (by decide) ?_
    obtain ⟨Q27, hC28, k⟩ := k
    refine gcV_I (pc2 := 16) (dC := 0) (As := [.int (-1 : Int32)]) (st := []) rfl dX10_worth_13 rfl w_413 ok_X10_refuse vi_X10_refuse c_0 (by decide) rfl rfl rfl (by decide) (Nat.le_of_ble_eq_true rfl) hC28 (fun v29 h30 hq31 => ?_)
    have k := k v29 h30 hq31
    exact go_iret dX10_worth_16 ⟨_, rfl, rfl⟩ ⟨rfl, _, rfl, k⟩
theorem e_X10_hand  {h : Hp} {Q : Int32 → Hp → Prop}  (k : (∃ Q1, CtI 5 mX10_solveAsIs [.ref 0] h Q1 ∧ ∀ (v3 : Int32) (h4 : Hp), Q1 v3 h4 → ((0 ≤ v3 → GoI 6 mX10_hand 17 [(0, .ref 0), (1, .int (0 : Int32)), (2, .int (61 : Int32)), (3, .int (0 : Int32))] [] h4 Q) ∧ (¬ (0 ≤ v3) → Q (-9 : Int32) h4)))) : CtI 6 mX10_hand [.ref 0] h Q := by
  refine Ct.of (by decide +kernel) (Nat.le_of_ble_eq_true rfl) ?_
  show GoI 6 mX10_hand 0 [(0, .ref 0)] [] h Q
  refine go_aload_n (pc2 := 1) dX10_hand_0 rfl rfl rfl ?_
  obtain ⟨Q1, hC2, k⟩ := k
  refine gcV_I (pc2 := 4) (dC := 5) (As := []) (st := []) rfl dX10_hand_1 rfl w_707 ok_X10_solveAsIs vi_X10_solveAsIs c_0 (by decide) rfl rfl rfl (by decide) (Nat.le_of_ble_eq_true rfl) hC2 (fun v3 h4 hq5 => ?_)
  have k := k v3 h4 hq5
  refine go_if_ge (pc2 := 7) (tgt := 10) dX10_hand_4 rfl (by decide) (fun c => ?_) (fun c => ?_)
  · have k := k.1 c
    refine go_iconst (pc2 := 11) (v := (0 : Int32)) dX10_hand_10 rfl (by decide) ?_
    refine go_istore_n (pc2 := 12) (ls2 := [(0, .ref 0), (1, .int (0 : Int32))]) dX10_hand_11 rfl rfl rfl rfl rfl rfl ?_
    refine go_bipush (pc2 := 14) (v := (61 : Int32)) dX10_hand_12 rfl (by decide) ?_
    refine go_istore_n (pc2 := 15) (ls2 := [(0, .ref 0), (1, .int (0 : Int32)), (2, .int (61 : Int32))]) dX10_hand_14 rfl rfl rfl rfl rfl rfl ?_
    refine go_iconst (pc2 := 16) (v := (0 : Int32)) dX10_hand_15 rfl (by decide) ?_
    refine go_istore_n (pc2 := 17) (ls2 := [(0, .ref 0), (1, .int (0 : Int32)), (2, .int (61 : Int32)), (3, .int (0 : Int32))]) dX10_hand_16 rfl rfl rfl rfl rfl rfl ?_
    exact k
  · have k := k.2 c
    refine go_bipush (pc2 := 9) (v := (-9 : Int32)) dX10_hand_7 rfl (by decide) ?_
    exact go_iret dX10_hand_9 ⟨_, rfl, rfl⟩ ⟨rfl, _, rfl, k⟩
theorem b_X10_hand_17 {x1 : Int32} {x2 : Int32} {x3 : Int32} {h : Hp} {Q : Int32 → Hp → Prop}  (k : (((60 : Int32) ≤ x3 → Q x1 h) ∧ (¬ ((60 : Int32) ≤ x3) → (((x2 - x1) ≤ (1 : Int32) → Q x1 h) ∧ (¬ ((x2 - x1) ≤ (1 : Int32)) → (∃ Q1, CtI 5 mX10_canKeep [.ref 0, .int ((x1 + x2) / (2 : Int32))] h Q1 ∧ ∀ (v3 : Int32) (h4 : Hp), Q1 v3 h4 → ((v3 = 0 → GoI 6 mX10_hand 55 [(0, .ref 0), (1, .int x1), (2, .int ((x1 + x2) / (2 : Int32))), (3, .int x3)] [] h4 Q) ∧ (¬ v3 = 0 → GoI 6 mX10_hand 55 [(0, .ref 0), (1, .int ((x1 + x2) / (2 : Int32))), (2, .int x2), (3, .int x3)] [] h4 Q)))))))) : GoI 6 mX10_hand 17 [(0, .ref 0), (1, .int x1), (2, .int x2), (3, .int x3)] [] h Q := by
  refine go_iload_n (pc2 := 18) dX10_hand_17 rfl rfl rfl ?_
  refine go_bipush (pc2 := 20) (v := (60 : Int32)) dX10_hand_18 rfl (by decide) ?_
  refine go_icmp_ge (pc2 := 23) (tgt := 61) dX10_hand_20 rfl (by decide) (fun c => ?_) (fun c => ?_)
  · have k := k.1 c
    refine go_iload_n (pc2 := 62) dX10_hand_61 rfl rfl rfl ?_
    exact go_iret dX10_hand_62 ⟨_, rfl, rfl⟩ ⟨rfl, _, rfl, k⟩
  · have k := k.2 c
    refine go_iload_n (pc2 := 24) dX10_hand_23 rfl rfl rfl ?_
    refine go_iload_n (pc2 := 25) dX10_hand_24 rfl rfl rfl ?_
    refine go_isub (pc2 := 26) dX10_hand_25 rfl ?_
    refine go_iconst (pc2 := 27) (v := (1 : Int32)) dX10_hand_26 rfl (by decide) ?_
    refine go_icmp_le (pc2 := 30) (tgt := 61) dX10_hand_27 rfl (by decide) (fun c => ?_) (fun c => ?_)
    · have k := k.1 c
      refine go_iload_n (pc2 := 62) dX10_hand_61 rfl rfl rfl ?_
      exact go_iret dX10_hand_62 ⟨_, rfl, rfl⟩ ⟨rfl, _, rfl, k⟩
    · have k := k.2 c
      refine go_iload_n (pc2 := 31) dX10_hand_30 rfl rfl rfl ?_
      refine go_iload_n (pc2 := 32) dX10_hand_31 rfl rfl rfl ?_
      refine go_iadd (pc2 := 33) dX10_hand_32 rfl ?_
      refine go_iconst (pc2 := 34) (v := (2 : Int32)) dX10_hand_33 rfl (by decide) ?_
      refine go_idiv (pc2 := 35) dX10_hand_34 rfl (by decide) ?_
      refine go_istore (pc2 := 37) (ls2 := [(0, .ref 0), (1, .int x1), (2, .int x2), (3, .int x3), (4, .int ((x1 + x2) / (2 : Int32)))]) dX10_hand_35 rfl rfl rfl rfl rfl ?_
      refine go_aload_n (pc2 := 38) dX10_hand_37 rfl rfl rfl ?_
      refine go_iload (pc2 := 40) dX10_hand_38 rfl rfl ?_
      obtain ⟨Q1, hC2, k⟩ := k
      refine gcV_I (pc2 := 43) (dC := 5) (As := [.int ((x1 + x2) / (2 : Int32))]) (st := []) rfl dX10_hand_40 rfl w_810 ok_X10_canKeep vi_X10_canKeep c_0 (by decide) rfl rfl rfl (by decide) (Nat.le_of_ble_eq_true rfl) hC2 (fun v3 h4 hq5 => ?_)
      have k := k v3 h4 hq5
      refine go_if_eq (pc2 := 46) (tgt := 52) dX10_hand_43 rfl (by decide) (fun c => ?_) (fun c => ?_)
      · have k := k.1 c
        refine go_iload (pc2 := 54) dX10_hand_52 rfl rfl ?_
        refine go_istore_n (pc2 := 55) (ls2 := [(0, .ref 0), (1, .int x1), (2, .int ((x1 + x2) / (2 : Int32))), (3, .int x3), (4, .int ((x1 + x2) / (2 : Int32)))]) dX10_hand_54 rfl rfl rfl rfl rfl rfl ?_
        exact Go.pick [0, 1, 2, 3] rfl k
      · have k := k.2 c
        refine go_iload (pc2 := 48) dX10_hand_46 rfl rfl ?_
        refine go_istore_n (pc2 := 49) (ls2 := [(0, .ref 0), (1, .int ((x1 + x2) / (2 : Int32))), (2, .int x2), (3, .int x3), (4, .int ((x1 + x2) / (2 : Int32)))]) dX10_hand_48 rfl rfl rfl rfl rfl rfl ?_
        refine go_goto (tgt := 55) dX10_hand_49 (by decide) ?_
        exact Go.pick [0, 1, 2, 3] rfl k
theorem b_X10_hand_55 {x1 : Int32} {x2 : Int32} {x3 : Int32} {h : Hp} {Q : Int32 → Hp → Prop}  (k : GoI 6 mX10_hand 17 [(0, .ref 0), (1, .int x1), (2, .int x2), (3, .int (x3 + 1))] [] h Q) : GoI 6 mX10_hand 55 [(0, .ref 0), (1, .int x1), (2, .int x2), (3, .int x3)] [] h Q := by
  refine go_iinc (pc2 := 58) (ls2 := [(0, .ref 0), (1, .int x1), (2, .int x2), (3, .int (x3 + 1))]) (v := (x3 + 1)) dX10_hand_55 rfl rfl rfl rfl rfl rfl rfl ?_
  refine go_goto (tgt := 17) dX10_hand_58 (by decide) ?_
  exact k
theorem e_X10_likely {x1 : Int32} {x2 : Int32} {h : Hp} {Q : Int64 → Hp → Prop}  (k : (((2 : Int32) ≤ x1 → ((x1 ≤ (20 : Int32) → ((x2 < 0 → (∃ Q1, CtL 1 mX10_refuseLong [.ref 0, .int (-2 : Int32)] h Q1 ∧ ∀ (v3 : Int64) (h4 : Hp), Q1 v3 h4 → Q v3 h4)) ∧ (¬ (x2 < 0) → ((x2 ≤ (1 : Int32) → GoL 5 mX10_likely 46 [(0, .ref 0), (1, .int x1), (2, .int x2), (3, .int (0 : Int32)), (4, .int (0 : Int32))] [] h Q) ∧ (¬ (x2 ≤ (1 : Int32)) → (∃ Q6, CtL 1 mX10_refuseLong [.ref 0, .int (-2 : Int32)] h Q6 ∧ ∀ (v8 : Int64) (h9 : Hp), Q6 v8 h9 → Q v8 h9)))))) ∧ (¬ (x1 ≤ (20 : Int32)) → (∃ Q11, CtL 1 mX10_refuseLong [.ref 0, .int (-6 : Int32)] h Q11 ∧ ∀ (v13 : Int64) (h14 : Hp), Q11 v13 h14 → Q v13 h14)))) ∧ (¬ ((2 : Int32) ≤ x1) → (∃ Q16, CtL 1 mX10_refuseLong [.ref 0, .int (-4 : Int32)] h Q16 ∧ ∀ (v18 : Int64) (h19 : Hp), Q16 v18 h19 → Q v18 h19)))) : CtL 5 mX10_likely [.ref 0, .int x1, .int x2] h Q := by
  refine Ct.of (by decide +kernel) (Nat.le_of_ble_eq_true rfl) ?_
  show GoL 5 mX10_likely 0 [(0, .ref 0), (1, .int x1), (2, .int x2)] [] h Q
  refine go_iload_n (pc2 := 1) dX10_likely_0 rfl rfl rfl ?_
  refine go_iconst (pc2 := 2) (v := (2 : Int32)) dX10_likely_1 rfl (by decide) ?_
  refine go_icmp_ge (pc2 := 5) (tgt := 12) dX10_likely_2 rfl (by decide) (fun c => ?_) (fun c => ?_)
  · have k := k.1 c
    refine go_iload_n (pc2 := 13) dX10_likely_12 rfl rfl rfl ?_
    refine go_bipush (pc2 := 15) (v := (20 : Int32)) dX10_likely_13 rfl (by decide) ?_
    refine go_icmp_le (pc2 := 18) (tgt := 25) dX10_likely_15 rfl (by decide) (fun c => ?_) (fun c => ?_)
    · have k := k.1 c
      refine go_iload_n (pc2 := 26) dX10_likely_25 rfl rfl rfl ?_
      refine go_if_lt (pc2 := 29) (tgt := 34) dX10_likely_26 rfl (by decide) (fun c => ?_) (fun c => ?_)
      · have k := k.1 c
        refine go_aload_n (pc2 := 35) dX10_likely_34 rfl rfl rfl ?_
        refine go_bipush (pc2 := 37) (v := (-2 : Int32)) dX10_likely_35 rfl (by decide) ?_
        obtain ⟨Q1, hC2, k⟩ := k
        refine gcV_L (pc2 := 40) (dC := 1) (As := [.int (-2 : Int32)]) (st := []) rfl dX10_likely_37 rfl w_818 ok_X10_refuseLong vi_X10_refuseLong c_0 (by decide) rfl rfl rfl (by decide) (Nat.le_of_ble_eq_true rfl) hC2 (fun v3 h4 hq5 => ?_)
        have k := k v3 h4 hq5
        exact go_lret dX10_likely_40 rfl ⟨rfl, _, rfl, k⟩
      · have k := k.2 c
        refine go_iload_n (pc2 := 30) dX10_likely_29 rfl rfl rfl ?_
        refine go_iconst (pc2 := 31) (v := (1 : Int32)) dX10_likely_30 rfl (by decide) ?_
        refine go_icmp_le (pc2 := 34) (tgt := 41) dX10_likely_31 rfl (by decide) (fun c => ?_) (fun c => ?_)
        · have k := k.1 c
          refine go_iconst (pc2 := 42) (v := (0 : Int32)) dX10_likely_41 rfl (by decide) ?_
          refine go_istore_n (pc2 := 43) (ls2 := [(0, .ref 0), (1, .int x1), (2, .int x2), (3, .int (0 : Int32))]) dX10_likely_42 rfl rfl rfl rfl rfl rfl ?_
          refine go_iconst (pc2 := 44) (v := (0 : Int32)) dX10_likely_43 rfl (by decide) ?_
          refine go_istore (pc2 := 46) (ls2 := [(0, .ref 0), (1, .int x1), (2, .int x2), (3, .int (0 : Int32)), (4, .int (0 : Int32))]) dX10_likely_44 rfl rfl rfl rfl rfl ?_
          exact k
        · have k := k.2 c
          refine go_aload_n (pc2 := 35) dX10_likely_34 rfl rfl rfl ?_
          refine go_bipush (pc2 := 37) (v := (-2 : Int32)) dX10_likely_35 rfl (by decide) ?_
          obtain ⟨Q6, hC7, k⟩ := k
          refine gcV_L (pc2 := 40) (dC := 1) (As := [.int (-2 : Int32)]) (st := []) rfl dX10_likely_37 rfl w_818 ok_X10_refuseLong vi_X10_refuseLong c_0 (by decide) rfl rfl rfl (by decide) (Nat.le_of_ble_eq_true rfl) hC7 (fun v8 h9 hq10 => ?_)
          have k := k v8 h9 hq10
          exact go_lret dX10_likely_40 rfl ⟨rfl, _, rfl, k⟩
    · have k := k.2 c
      refine go_aload_n (pc2 := 19) dX10_likely_18 rfl rfl rfl ?_
      refine go_bipush (pc2 := 21) (v := (-6 : Int32)) dX10_likely_19 rfl (by decide) ?_
      obtain ⟨Q11, hC12, k⟩ := k
      refine gcV_L (pc2 := 24) (dC := 1) (As := [.int (-6 : Int32)]) (st := []) rfl dX10_likely_21 rfl w_818 ok_X10_refuseLong vi_X10_refuseLong c_0 (by decide) rfl rfl rfl (by decide) (Nat.le_of_ble_eq_true rfl) hC12 (fun v13 h14 hq15 => ?_)
      have k := k v13 h14 hq15
      exact go_lret dX10_likely_24 rfl ⟨rfl, _, rfl, k⟩
  · have k := k.2 c
    refine go_aload_n (pc2 := 6) dX10_likely_5 rfl rfl rfl ?_
    refine go_bipush (pc2 := 8) (v := (-4 : Int32)) dX10_likely_6 rfl (by decide) ?_
    obtain ⟨Q16, hC17, k⟩ := k
    refine gcV_L (pc2 := 11) (dC := 1) (As := [.int (-4 : Int32)]) (st := []) rfl dX10_likely_8 rfl w_818 ok_X10_refuseLong vi_X10_refuseLong c_0 (by decide) rfl rfl rfl (by decide) (Nat.le_of_ble_eq_true rfl) hC17 (fun v18 h19 hq20 => ?_)
    have k := k v18 h19 hq20
    exact go_lret dX10_likely_11 rfl ⟨rfl, _, rfl, k⟩
theorem b_X10_likely_46 {x1 : Int32} {x2 : Int32} {x3 : Int32} {x4 : Int32} {h : Hp} {Q : Int64 → Hp → Prop}  (k : ((((1 : Int32) <<< ((h.1 1 5) &&& 31)) ≤ x4 → (∃ Q1, CtI 0 mX10_power [.int x1, .int (h.1 1 5)] h Q1 ∧ ∀ (v3 : Int32) (h4 : Hp), Q1 v3 h4 → (∃ Q6, CtI 0 mX10_commonDivisor [.int x3, .int v3] h4 Q6 ∧ ∀ (v8 : Int32) (h9 : Hp), Q6 v8 h9 → ((¬ x2 = 0 → (¬ v8 = 0 ∧ Q ((v3 / v8)).toInt64 h9)) ∧ (x2 = 0 → (¬ v8 = 0 ∧ Q ((x3 / v8)).toInt64 h9)))))) ∧ (¬ (((1 : Int32) <<< ((h.1 1 5) &&& 31)) ≤ x4) → (∃ Q13, CtV 1 mX7_load [.ref 38] h Q13 ∧ ∀ h16 : Hp, Q13 h16 → (∀ g18 : Hp, g18 = (ui h16 38 4 x4) → (∃ Q19, CtI 4 mX7_solve [.ref 38] g18 Q19 ∧ ∀ (v21 : Int32) (h22 : Hp), Q19 v21 h22 → ((v21 < 0 → GoL 5 mX10_likely 100 [(0, .ref 0), (1, .int x1), (2, .int x2), (3, .int x3), (4, .int x4)] [] h22 Q) ∧ (¬ (v21 < 0) → (∃ Q24, CtI 0 mJ6_bitCount_0f7a4 [.int x4] h22 Q24 ∧ ∀ (v26 : Int32) (h27 : Hp), Q24 v26 h27 → (∃ Q29, CtI 0 mX10_power [.int (x1 - (1 : Int32)), .int v26] h27 Q29 ∧ ∀ (v31 : Int32) (h32 : Hp), Q29 v31 h32 → GoL 5 mX10_likely 100 [(0, .ref 0), (1, .int x1), (2, .int x2), (3, .int (x3 + v31)), (4, .int x4)] [] h32 Q)))))))))) : GoL 5 mX10_likely 46 [(0, .ref 0), (1, .int x1), (2, .int x2), (3, .int x3), (4, .int x4)] [] h Q := by
  refine go_iload (pc2 := 48) dX10_likely_46 rfl rfl ?_
  refine go_iconst (pc2 := 49) (v := (1 : Int32)) dX10_likely_48 rfl (by decide) ?_
  refine go_aload_n (pc2 := 50) dX10_likely_49 rfl rfl rfl ?_
  refine gf_369 (pc2 := 53) rfl dX10_likely_50 rfl c_0 (fvs r_0_0) ?_
  refine gf_126 (pc2 := 56) rfl dX10_likely_53 rfl c_1 fvi ?_
  refine go_ishl (pc2 := 57) dX10_likely_56 rfl ?_
  refine go_icmp_ge (pc2 := 60) (tgt := 106) dX10_likely_57 rfl (by decide) (fun c => ?_) (fun c => ?_)
  · have k := k.1 c
    refine go_iload_n (pc2 := 107) dX10_likely_106 rfl rfl rfl ?_
    refine go_aload_n (pc2 := 108) dX10_likely_107 rfl rfl rfl ?_
    refine gf_369 (pc2 := 111) rfl dX10_likely_108 rfl c_0 (fvs r_0_0) ?_
    refine gf_126 (pc2 := 114) rfl dX10_likely_111 rfl c_1 fvi ?_
    obtain ⟨Q1, hC2, k⟩ := k
    refine gcS_I (pc2 := 117) (dC := 0) (As := [.int x1, .int (h.1 1 5)]) (st := []) rfl dX10_likely_114 rfl w_829 ok_X10_power w_830 rfl (by decide) (Nat.le_of_ble_eq_true rfl) hC2 (fun v3 h4 hq5 => ?_)
    have k := k v3 h4 hq5
    refine go_istore (pc2 := 119) (ls2 := [(0, .ref 0), (1, .int x1), (2, .int x2), (3, .int x3), (4, .int v3)]) dX10_likely_117 rfl rfl rfl rfl rfl ?_
    refine go_iload_n (pc2 := 120) dX10_likely_119 rfl rfl rfl ?_
    refine go_iload (pc2 := 122) dX10_likely_120 rfl rfl ?_
    obtain ⟨Q6, hC7, k⟩ := k
    refine gcS_I (pc2 := 125) (dC := 0) (As := [.int x3, .int v3]) (st := []) rfl dX10_likely_122 rfl w_832 ok_X10_commonDivisor w_833 rfl (by decide) (Nat.le_of_ble_eq_true rfl) hC7 (fun v8 h9 hq10 => ?_)
    have k := k v8 h9 hq10
    refine go_istore (pc2 := 127) (ls2 := [(0, .ref 0), (1, .int x1), (2, .int x2), (3, .int x3), (4, .int v3), (5, .int v8)]) dX10_likely_125 rfl rfl rfl rfl rfl ?_
    refine go_iload_n (pc2 := 128) dX10_likely_127 rfl rfl rfl ?_
    refine go_if_ne (pc2 := 131) (tgt := 139) dX10_likely_128 rfl (by decide) (fun c => ?_) (fun c => ?_)
    · have k := k.1 c
      refine go_iload (pc2 := 141) dX10_likely_139 rfl rfl ?_
      refine go_iload (pc2 := 143) dX10_likely_141 rfl rfl ?_
      obtain ⟨y11, k⟩ := k
      refine go_idiv (pc2 := 144) dX10_likely_143 rfl y11 ?_
      refine go_i2l (pc2 := 145) dX10_likely_144 rfl ?_
      exact go_lret dX10_likely_145 rfl ⟨rfl, _, rfl, k⟩
    · have k := k.2 c
      refine go_iload_n (pc2 := 132) dX10_likely_131 rfl rfl rfl ?_
      refine go_iload (pc2 := 134) dX10_likely_132 rfl rfl ?_
      obtain ⟨y12, k⟩ := k
      refine go_idiv (pc2 := 135) dX10_likely_134 rfl y12 ?_
      refine go_i2l (pc2 := 136) dX10_likely_135 rfl ?_
      refine go_goto (tgt := 145) dX10_likely_136 (by decide) ?_
      exact go_lret dX10_likely_145 rfl ⟨rfl, _, rfl, k⟩
  · have k := k.2 c
    refine go_aload_n (pc2 := 61) dX10_likely_60 rfl rfl rfl ?_
    refine gf_376 (pc2 := 64) rfl dX10_likely_61 rfl c_0 (fvs r_0_7) ?_
    obtain ⟨Q13, hC14, k⟩ := k
    refine gcVN_V (pc2 := 67) (dC := 1) (As := []) (st := []) rfl dX10_likely_64 rfl w_711 ok_X7_load vi_X7_load c_38 (by decide) rfl rfl rfl (by decide) (Nat.le_of_ble_eq_true rfl) hC14 (fun h16 hq17 => ?_)
    have k := k h16 hq17
    refine go_aload_n (pc2 := 68) dX10_likely_67 rfl rfl rfl ?_
    refine gf_376 (pc2 := 71) rfl dX10_likely_68 rfl c_0 (fvs r_0_7) ?_
    refine go_iload (pc2 := 73) dX10_likely_71 rfl rfl ?_
    refine pf_240 (pc2 := 76) rfl dX10_likely_73 rfl c_38 ?_
    obtain ⟨g18, eg18⟩ : ∃ y : Hp, y = (ui h16 38 4 x4) := ⟨_, rfl⟩
    rw [← eg18]
    have k := k g18 eg18
    refine go_aload_n (pc2 := 77) dX10_likely_76 rfl rfl rfl ?_
    refine gf_376 (pc2 := 80) rfl dX10_likely_77 rfl c_0 (fvs r_0_7) ?_
    obtain ⟨Q19, hC20, k⟩ := k
    refine gcVN_I (pc2 := 83) (dC := 4) (As := []) (st := []) rfl dX10_likely_80 rfl w_716 ok_X7_solve vi_X7_solve c_38 (by decide) rfl rfl rfl (by decide) (Nat.le_of_ble_eq_true rfl) hC20 (fun v21 h22 hq23 => ?_)
    have k := k v21 h22 hq23
    refine go_if_lt (pc2 := 86) (tgt := 100) dX10_likely_83 rfl (by decide) (fun c => ?_) (fun c => ?_)
    · have k := k.1 c
      exact k
    · have k := k.2 c
      refine go_iload_n (pc2 := 87) dX10_likely_86 rfl rfl rfl ?_
      refine go_iload_n (pc2 := 88) dX10_likely_87 rfl rfl rfl ?_
      refine go_iconst (pc2 := 89) (v := (1 : Int32)) dX10_likely_88 rfl (by decide) ?_
      refine go_isub (pc2 := 90) dX10_likely_89 rfl ?_
      refine go_iload (pc2 := 92) dX10_likely_90 rfl rfl ?_
      obtain ⟨Q24, hC25, k⟩ := k
      refine gcS_I (pc2 := 95) (dC := 0) (As := [.int x4]) (st := [.int (x1 - (1 : Int32)), .int x3]) rfl dX10_likely_92 rfl w_823 ok_J6_bitCount_0f7a4 w_824 rfl (by decide) (Nat.le_of_ble_eq_true rfl) hC25 (fun v26 h27 hq28 => ?_)
      have k := k v26 h27 hq28
      obtain ⟨Q29, hC30, k⟩ := k
      refine gcS_I (pc2 := 98) (dC := 0) (As := [.int (x1 - (1 : Int32)), .int v26]) (st := [.int x3]) rfl dX10_likely_95 rfl w_829 ok_X10_power w_830 rfl (by decide) (Nat.le_of_ble_eq_true rfl) hC30 (fun v31 h32 hq33 => ?_)
      have k := k v31 h32 hq33
      refine go_iadd (pc2 := 99) dX10_likely_98 rfl ?_
      refine go_istore_n (pc2 := 100) (ls2 := [(0, .ref 0), (1, .int x1), (2, .int x2), (3, .int (x3 + v31)), (4, .int x4)]) dX10_likely_99 rfl rfl rfl rfl rfl rfl ?_
      exact k
theorem b_X10_likely_100 {x1 : Int32} {x2 : Int32} {x3 : Int32} {x4 : Int32} {h : Hp} {Q : Int64 → Hp → Prop}  (k : GoL 5 mX10_likely 46 [(0, .ref 0), (1, .int x1), (2, .int x2), (3, .int x3), (4, .int (x4 + 1))] [] h Q) : GoL 5 mX10_likely 100 [(0, .ref 0), (1, .int x1), (2, .int x2), (3, .int x3), (4, .int x4)] [] h Q := by
  refine go_iinc (pc2 := 103) (ls2 := [(0, .ref 0), (1, .int x1), (2, .int x2), (3, .int x3), (4, .int (x4 + 1))]) (v := (x4 + 1)) dX10_likely_100 rfl rfl rfl rfl rfl rfl rfl ?_
  refine go_goto (tgt := 46) dX10_likely_103 (by decide) ?_
  exact k
theorem e_X10_shown {x1 : Int32} {h : Hp} {Q : Int64 → Hp → Prop}  (k : ((x1 < 0 → (∃ Q1, CtL 1 mX10_refuseLong [.ref 0, .int (-2 : Int32)] h Q1 ∧ ∀ (v3 : Int64) (h4 : Hp), Q1 v3 h4 → Q v3 h4)) ∧ (¬ (x1 < 0) → ((x1 ≤ (2 : Int32) → (∃ Q6, CtI 5 mX10_solveAsIs [.ref 0] h Q6 ∧ ∀ (v8 : Int32) (h9 : Hp), Q6 v8 h9 → (∃ Q11, CtI 0 mX5_demandOfAll [.ref 1] h9 Q11 ∧ ∀ (v13 : Int32) (h14 : Hp), Q11 v13 h14 → ((v8 < 0 → (∃ Q16, CtL 1 mX10_refuseLong [.ref 0, .int (-3 : Int32)] h14 Q16 ∧ ∀ (v18 : Int64) (h19 : Hp), Q16 v18 h19 → Q v18 h19)) ∧ (¬ (v8 < 0) → ((¬ x1 = 0 → GoL 6 mX10_shown 48 [(0, .ref 0), (1, .int x1), (2, .int v8), (3, .int v13)] [] h14 Q) ∧ (x1 = 0 → ((¬ v13 = 0 → GoL 6 mX10_shown 48 [(0, .ref 0), (1, .int x1), (2, .int v8), (3, .int v13)] [] h14 Q) ∧ (v13 = 0 → (∃ Q21, CtL 1 mX10_refuseLong [.ref 0, .int (-3 : Int32)] h14 Q21 ∧ ∀ (v23 : Int64) (h24 : Hp), Q21 v23 h24 → Q v23 h24)))))))))) ∧ (¬ (x1 ≤ (2 : Int32)) → (∃ Q26, CtL 1 mX10_refuseLong [.ref 0, .int (-2 : Int32)] h Q26 ∧ ∀ (v28 : Int64) (h29 : Hp), Q26 v28 h29 → Q v28 h29)))))) : CtL 6 mX10_shown [.ref 0, .int x1] h Q := by
  refine Ct.of (by decide +kernel) (Nat.le_of_ble_eq_true rfl) ?_
  show GoL 6 mX10_shown 0 [(0, .ref 0), (1, .int x1)] [] h Q
  refine go_iload_n (pc2 := 1) dX10_shown_0 rfl rfl rfl ?_
  refine go_if_lt (pc2 := 4) (tgt := 9) dX10_shown_1 rfl (by decide) (fun c => ?_) (fun c => ?_)
  · have k := k.1 c
    refine go_aload_n (pc2 := 10) dX10_shown_9 rfl rfl rfl ?_
    refine go_bipush (pc2 := 12) (v := (-2 : Int32)) dX10_shown_10 rfl (by decide) ?_
    obtain ⟨Q1, hC2, k⟩ := k
    refine gcV_L (pc2 := 15) (dC := 1) (As := [.int (-2 : Int32)]) (st := []) rfl dX10_shown_12 rfl w_818 ok_X10_refuseLong vi_X10_refuseLong c_0 (by decide) rfl rfl rfl (by decide) (Nat.le_of_ble_eq_true rfl) hC2 (fun v3 h4 hq5 => ?_)
    have k := k v3 h4 hq5
    exact go_lret dX10_shown_15 rfl ⟨rfl, _, rfl, k⟩
  · have k := k.2 c
    refine go_iload_n (pc2 := 5) dX10_shown_4 rfl rfl rfl ?_
    refine go_iconst (pc2 := 6) (v := (2 : Int32)) dX10_shown_5 rfl (by decide) ?_
    refine go_icmp_le (pc2 := 9) (tgt := 16) dX10_shown_6 rfl (by decide) (fun c => ?_) (fun c => ?_)
    · have k := k.1 c
      refine go_aload_n (pc2 := 17) dX10_shown_16 rfl rfl rfl ?_
      obtain ⟨Q6, hC7, k⟩ := k
      refine gcV_I (pc2 := 20) (dC := 5) (As := []) (st := []) rfl dX10_shown_17 rfl w_707 ok_X10_solveAsIs vi_X10_solveAsIs c_0 (by decide) rfl rfl rfl (by decide) (Nat.le_of_ble_eq_true rfl) hC7 (fun v8 h9 hq10 => ?_)
      have k := k v8 h9 hq10
      refine go_istore_n (pc2 := 21) (ls2 := [(0, .ref 0), (1, .int x1), (2, .int v8)]) dX10_shown_20 rfl rfl rfl rfl rfl rfl ?_
      refine go_aload_n (pc2 := 22) dX10_shown_21 rfl rfl rfl ?_
      refine gf_369 (pc2 := 25) rfl dX10_shown_22 rfl c_0 (fvs r_0_0) ?_
      obtain ⟨Q11, hC12, k⟩ := k
      refine gcVN_I (pc2 := 28) (dC := 0) (As := []) (st := []) rfl dX10_shown_25 rfl w_839 ok_X5_demandOfAll vi_X5_demandOfAll c_1 (by decide) rfl rfl rfl (by decide) (Nat.le_of_ble_eq_true rfl) hC12 (fun v13 h14 hq15 => ?_)
      have k := k v13 h14 hq15
      refine go_istore_n (pc2 := 29) (ls2 := [(0, .ref 0), (1, .int x1), (2, .int v8), (3, .int v13)]) dX10_shown_28 rfl rfl rfl rfl rfl rfl ?_
      refine go_iload_n (pc2 := 30) dX10_shown_29 rfl rfl rfl ?_
      refine go_if_lt (pc2 := 33) (tgt := 41) dX10_shown_30 rfl (by decide) (fun c => ?_) (fun c => ?_)
      · have k := k.1 c
        refine go_aload_n (pc2 := 42) dX10_shown_41 rfl rfl rfl ?_
        refine go_bipush (pc2 := 44) (v := (-3 : Int32)) dX10_shown_42 rfl (by decide) ?_
        obtain ⟨Q16, hC17, k⟩ := k
        refine gcV_L (pc2 := 47) (dC := 1) (As := [.int (-3 : Int32)]) (st := []) rfl dX10_shown_44 rfl w_818 ok_X10_refuseLong vi_X10_refuseLong c_0 (by decide) rfl rfl rfl (by decide) (Nat.le_of_ble_eq_true rfl) hC17 (fun v18 h19 hq20 => ?_)
        have k := k v18 h19 hq20
        exact go_lret dX10_shown_47 rfl ⟨rfl, _, rfl, k⟩
      · have k := k.2 c
        refine go_iload_n (pc2 := 34) dX10_shown_33 rfl rfl rfl ?_
        refine go_if_ne (pc2 := 37) (tgt := 48) dX10_shown_34 rfl (by decide) (fun c => ?_) (fun c => ?_)
        · have k := k.1 c
          exact k
        · have k := k.2 c
          refine go_iload_n (pc2 := 38) dX10_shown_37 rfl rfl rfl ?_
          refine go_if_ne (pc2 := 41) (tgt := 48) dX10_shown_38 rfl (by decide) (fun c => ?_) (fun c => ?_)
          · have k := k.1 c
            exact k
          · have k := k.2 c
            refine go_aload_n (pc2 := 42) dX10_shown_41 rfl rfl rfl ?_
            refine go_bipush (pc2 := 44) (v := (-3 : Int32)) dX10_shown_42 rfl (by decide) ?_
            obtain ⟨Q21, hC22, k⟩ := k
            refine gcV_L (pc2 := 47) (dC := 1) (As := [.int (-3 : Int32)]) (st := []) rfl dX10_shown_44 rfl w_818 ok_X10_refuseLong vi_X10_refuseLong c_0 (by decide) rfl rfl rfl (by decide) (Nat.le_of_ble_eq_true rfl) hC22 (fun v23 h24 hq25 => ?_)
            have k := k v23 h24 hq25
            exact go_lret dX10_shown_47 rfl ⟨rfl, _, rfl, k⟩
    · have k := k.2 c
      refine go_aload_n (pc2 := 10) dX10_shown_9 rfl rfl rfl ?_
      refine go_bipush (pc2 := 12) (v := (-2 : Int32)) dX10_shown_10 rfl (by decide) ?_
      obtain ⟨Q26, hC27, k⟩ := k
      refine gcV_L (pc2 := 15) (dC := 1) (As := [.int (-2 : Int32)]) (st := []) rfl dX10_shown_12 rfl w_818 ok_X10_refuseLong vi_X10_refuseLong c_0 (by decide) rfl rfl rfl (by decide) (Nat.le_of_ble_eq_true rfl) hC27 (fun v28 h29 hq30 => ?_)
      have k := k v28 h29 hq30
      exact go_lret dX10_shown_15 rfl ⟨rfl, _, rfl, k⟩
theorem b_X10_shown_48 {x1 : Int32} {x2 : Int32} {x3 : Int32} {h : Hp} {Q : Int64 → Hp → Prop}  (k : ((¬ x1 = 0 → (∃ Q1, CtF 5 mX10_leansOfBest [.ref 0] h Q1 ∧ ∀ (v3 : UInt32) (h4 : Hp), Q1 v3 h4 → ((¬ x1 = (1 : Int32) → Q ((FP.f2i v3)).toInt64 h4) ∧ (x1 = (1 : Int32) → (∃ Q6, CtI 0 mX10_bitsOf [.float v3] h4 Q6 ∧ ∀ (v8 : Int32) (h9 : Hp), Q6 v8 h9 → Q (v8).toInt64 h9))))) ∧ (x1 = 0 → (vf_n32 (FP.fdiv (FP.i2f x2) (FP.i2f x3)) ∧ (∃ Q12, CtI 0 mX10_bitsOf [.float (FP.fdiv (FP.i2f x2) (FP.i2f x3))] h Q12 ∧ ∀ (v14 : Int32) (h15 : Hp), Q12 v14 h15 → Q (v14).toInt64 h15))))) : GoL 6 mX10_shown 48 [(0, .ref 0), (1, .int x1), (2, .int x2), (3, .int x3)] [] h Q := by
  refine go_iload_n (pc2 := 49) dX10_shown_48 rfl rfl rfl ?_
  refine go_if_ne (pc2 := 52) (tgt := 62) dX10_shown_49 rfl (by decide) (fun c => ?_) (fun c => ?_)
  · have k := k.1 c
    refine go_aload_n (pc2 := 63) dX10_shown_62 rfl rfl rfl ?_
    obtain ⟨Q1, hC2, k⟩ := k
    refine gcV_F (pc2 := 66) (dC := 5) (As := []) (st := []) rfl dX10_shown_63 rfl w_849 ok_X10_leansOfBest vi_X10_leansOfBest c_0 (by decide) rfl rfl rfl (by decide) (Nat.le_of_ble_eq_true rfl) hC2 (fun v3 h4 hq5 => ?_)
    have k := k v3 h4 hq5
    refine go_fstore (pc2 := 68) (ls2 := [(0, .ref 0), (1, .int x1), (2, .int x2), (3, .int x3), (4, .float v3)]) dX10_shown_66 rfl rfl rfl rfl rfl ?_
    refine go_iload_n (pc2 := 69) dX10_shown_68 rfl rfl rfl ?_
    refine go_iconst (pc2 := 70) (v := (1 : Int32)) dX10_shown_69 rfl (by decide) ?_
    refine go_icmp_ne (pc2 := 73) (tgt := 82) dX10_shown_70 rfl (by decide) (fun c => ?_) (fun c => ?_)
    · have k := k.1 c
      refine go_fload (pc2 := 84) dX10_shown_82 rfl rfl ?_
      refine go_f2i (pc2 := 85) dX10_shown_84 rfl ?_
      refine go_i2l (pc2 := 86) dX10_shown_85 rfl ?_
      exact go_lret dX10_shown_86 rfl ⟨rfl, _, rfl, k⟩
    · have k := k.2 c
      refine go_fload (pc2 := 75) dX10_shown_73 rfl rfl ?_
      obtain ⟨Q6, hC7, k⟩ := k
      refine gcS_I (pc2 := 78) (dC := 0) (As := [.float v3]) (st := []) rfl dX10_shown_75 rfl w_843 ok_X10_bitsOf w_844 rfl (by decide) (Nat.le_of_ble_eq_true rfl) hC7 (fun v8 h9 hq10 => ?_)
      have k := k v8 h9 hq10
      refine go_i2l (pc2 := 79) dX10_shown_78 rfl ?_
      refine go_goto (tgt := 86) dX10_shown_79 (by decide) ?_
      exact go_lret dX10_shown_86 rfl ⟨rfl, _, rfl, k⟩
  · have k := k.2 c
    refine go_iload_n (pc2 := 53) dX10_shown_52 rfl rfl rfl ?_
    refine go_i2f (pc2 := 54) dX10_shown_53 rfl ?_
    refine go_iload_n (pc2 := 55) dX10_shown_54 rfl rfl rfl ?_
    refine go_i2f (pc2 := 56) dX10_shown_55 rfl ?_
    obtain ⟨y11, k⟩ := k
    refine go_fdiv (pc2 := 57) dX10_shown_56 rfl y11 ?_
    obtain ⟨Q12, hC13, k⟩ := k
    refine gcS_I (pc2 := 60) (dC := 0) (As := [.float (FP.fdiv (FP.i2f x2) (FP.i2f x3))]) (st := []) rfl dX10_shown_57 rfl w_843 ok_X10_bitsOf w_844 rfl (by decide) (Nat.le_of_ble_eq_true rfl) hC13 (fun v14 h15 hq16 => ?_)
    have k := k v14 h15 hq16
    refine go_i2l (pc2 := 61) dX10_shown_60 rfl ?_
    exact go_lret dX10_shown_61 rfl ⟨rfl, _, rfl, k⟩
theorem e_X10_price {x1 : Int32} {x2 : Int32} {h : Hp} {Q : Int32 → Hp → Prop}  (k : (∃ Q1, CtI 0 mX5_noHour [.ref 1, .int x1] h Q1 ∧ ∀ (v3 : Int32) (h4 : Hp), Q1 v3 h4 → ((v3 = 0 → ((0 ≤ x2 → ((x2 ≤ (99 : Int32) → (vp_in x1 5 ∧ (vp_in x1 5 ∧ (∀ g8 : Hp, g8 = (ui h4 4 (x1).toNatClampNeg x2) → Q (h4.1 4 (x1).toNatClampNeg) g8)))) ∧ (¬ (x2 ≤ (99 : Int32)) → (∃ Q9, CtI 0 mX10_refuse [.ref 0, .int (-6 : Int32)] h4 Q9 ∧ ∀ (v11 : Int32) (h12 : Hp), Q9 v11 h12 → Q v11 h12)))) ∧ (¬ (0 ≤ x2) → (∃ Q14, CtI 0 mX10_refuse [.ref 0, .int (-4 : Int32)] h4 Q14 ∧ ∀ (v16 : Int32) (h17 : Hp), Q14 v16 h17 → Q v16 h17)))) ∧ (¬ v3 = 0 → (∃ Q19, CtI 0 mX10_refuse [.ref 0, .int (-1 : Int32)] h4 Q19 ∧ ∀ (v21 : Int32) (h22 : Hp), Q19 v21 h22 → Q v21 h22))))) : CtI 1 mX10_price [.ref 0, .int x1, .int x2] h Q := by
  refine Ct.of (by decide +kernel) (Nat.le_of_ble_eq_true rfl) ?_
  show GoI 1 mX10_price 0 [(0, .ref 0), (1, .int x1), (2, .int x2)] [] h Q
  refine go_aload_n (pc2 := 1) dX10_price_0 rfl rfl rfl ?_
  refine gf_369 (pc2 := 4) rfl dX10_price_1 rfl c_0 (fvs r_0_0) ?_
  refine go_iload_n (pc2 := 5) dX10_price_4 rfl rfl rfl ?_
  obtain ⟨Q1, hC2, k⟩ := k
  refine gcVN_I (pc2 := 8) (dC := 0) (As := [.int x1]) (st := []) rfl dX10_price_5 rfl w_676 ok_X5_noHour vi_X5_noHour c_1 (by decide) rfl rfl rfl (by decide) (Nat.le_of_ble_eq_true rfl) hC2 (fun v3 h4 hq5 => ?_)
  have k := k v3 h4 hq5
  refine go_if_eq (pc2 := 11) (tgt := 17) dX10_price_8 rfl (by decide) (fun c => ?_) (fun c => ?_)
  · have k := k.1 c
    refine go_iload_n (pc2 := 18) dX10_price_17 rfl rfl rfl ?_
    refine go_if_ge (pc2 := 21) (tgt := 28) dX10_price_18 rfl (by decide) (fun c => ?_) (fun c => ?_)
    · have k := k.1 c
      refine go_iload_n (pc2 := 29) dX10_price_28 rfl rfl rfl ?_
      refine go_bipush (pc2 := 31) (v := (99 : Int32)) dX10_price_29 rfl (by decide) ?_
      refine go_icmp_le (pc2 := 34) (tgt := 41) dX10_price_31 rfl (by decide) (fun c => ?_) (fun c => ?_)
      · have k := k.1 c
        refine go_aload_n (pc2 := 42) dX10_price_41 rfl rfl rfl ?_
        refine gf_369 (pc2 := 45) rfl dX10_price_42 rfl c_0 (fvs r_0_0) ?_
        refine gf_113 (pc2 := 48) rfl dX10_price_45 rfl c_1 (fvs r_1_3) ?_
        refine go_iload_n (pc2 := 49) dX10_price_48 rfl rfl rfl ?_
        obtain ⟨y6, k⟩ := k
        refine go_iaload (pc2 := 50) (j := (x1).toNatClampNeg) dX10_price_49 rfl c_4 y6 rfl ?_
        refine go_istore_n (pc2 := 51) (ls2 := [(0, .ref 0), (1, .int x1), (2, .int x2), (3, .int (h4.1 4 (x1).toNatClampNeg))]) dX10_price_50 rfl rfl rfl rfl rfl rfl ?_
        refine go_aload_n (pc2 := 52) dX10_price_51 rfl rfl rfl ?_
        refine gf_369 (pc2 := 55) rfl dX10_price_52 rfl c_0 (fvs r_0_0) ?_
        refine gf_113 (pc2 := 58) rfl dX10_price_55 rfl c_1 (fvs r_1_3) ?_
        refine go_iload_n (pc2 := 59) dX10_price_58 rfl rfl rfl ?_
        refine go_iload_n (pc2 := 60) dX10_price_59 rfl rfl rfl ?_
        obtain ⟨y7, k⟩ := k
        refine go_iastore (pc2 := 61) (j := (x1).toNatClampNeg) dX10_price_60 rfl c_4 y7 rfl ?_
        obtain ⟨g8, eg8⟩ : ∃ y : Hp, y = (ui h4 4 (x1).toNatClampNeg x2) := ⟨_, rfl⟩
        rw [← eg8]
        have k := k g8 eg8
        refine go_iload_n (pc2 := 62) dX10_price_61 rfl rfl rfl ?_
        exact go_iret dX10_price_62 ⟨_, rfl, rfl⟩ ⟨rfl, _, rfl, k⟩
      · have k := k.2 c
        refine go_aload_n (pc2 := 35) dX10_price_34 rfl rfl rfl ?_
        refine go_bipush (pc2 := 37) (v := (-6 : Int32)) dX10_price_35 rfl (by decide) ?_
        obtain ⟨Q9, hC10, k⟩ := k
        refine gcV_I (pc2 := 40) (dC := 0) (As := [.int (-6 : Int32)]) (st := []) rfl dX10_price_37 rfl w_413 ok_X10_refuse vi_X10_refuse c_0 (by decide) rfl rfl rfl (by decide) (Nat.le_of_ble_eq_true rfl) hC10 (fun v11 h12 hq13 => ?_)
        have k := k v11 h12 hq13
        exact go_iret dX10_price_40 ⟨_, rfl, rfl⟩ ⟨rfl, _, rfl, k⟩
    · have k := k.2 c
      refine go_aload_n (pc2 := 22) dX10_price_21 rfl rfl rfl ?_
      refine go_bipush (pc2 := 24) (v := (-4 : Int32)) dX10_price_22 rfl (by decide) ?_
      obtain ⟨Q14, hC15, k⟩ := k
      refine gcV_I (pc2 := 27) (dC := 0) (As := [.int (-4 : Int32)]) (st := []) rfl dX10_price_24 rfl w_413 ok_X10_refuse vi_X10_refuse c_0 (by decide) rfl rfl rfl (by decide) (Nat.le_of_ble_eq_true rfl) hC15 (fun v16 h17 hq18 => ?_)
      have k := k v16 h17 hq18
      exact go_iret dX10_price_27 ⟨_, rfl, rfl⟩ ⟨rfl, _, rfl, k⟩
  · have k := k.2 c
    refine go_aload_n (pc2 := 12) dX10_price_11 rfl rfl rfl ?_
    refine go_iconst (pc2 := 13) (v := (-1 : Int32)) dX10_price_12 rfl (by decide) ?_
    obtain ⟨Q19, hC20, k⟩ := k
    refine gcV_I (pc2 := 16) (dC := 0) (As := [.int (-1 : Int32)]) (st := []) rfl dX10_price_13 rfl w_413 ok_X10_refuse vi_X10_refuse c_0 (by decide) rfl rfl rfl (by decide) (Nat.le_of_ble_eq_true rfl) hC20 (fun v21 h22 hq23 => ?_)
    have k := k v21 h22 hq23
    exact go_iret dX10_price_16 ⟨_, rfl, rfl⟩ ⟨rfl, _, rfl, k⟩
theorem e_X10_step {x1 : Int32} {h : Hp} {Q : Int32 → Hp → Prop}  (k : ((0 ≤ x1 → ((x1 ≤ (9 : Int32) → (∀ g1 : Hp, g1 = (ui h 1 7 x1) → Q (h.1 1 7) g1)) ∧ (¬ (x1 ≤ (9 : Int32)) → (∃ Q2, CtI 0 mX10_refuse [.ref 0, .int (-6 : Int32)] h Q2 ∧ ∀ (v4 : Int32) (h5 : Hp), Q2 v4 h5 → Q v4 h5)))) ∧ (¬ (0 ≤ x1) → (∃ Q7, CtI 0 mX10_refuse [.ref 0, .int (-4 : Int32)] h Q7 ∧ ∀ (v9 : Int32) (h10 : Hp), Q7 v9 h10 → Q v9 h10)))) : CtI 1 mX10_step [.ref 0, .int x1] h Q := by
  refine Ct.of (by decide +kernel) (Nat.le_of_ble_eq_true rfl) ?_
  show GoI 1 mX10_step 0 [(0, .ref 0), (1, .int x1)] [] h Q
  refine go_iload_n (pc2 := 1) dX10_step_0 rfl rfl rfl ?_
  refine go_if_ge (pc2 := 4) (tgt := 11) dX10_step_1 rfl (by decide) (fun c => ?_) (fun c => ?_)
  · have k := k.1 c
    refine go_iload_n (pc2 := 12) dX10_step_11 rfl rfl rfl ?_
    refine go_bipush (pc2 := 14) (v := (9 : Int32)) dX10_step_12 rfl (by decide) ?_
    refine go_icmp_le (pc2 := 17) (tgt := 24) dX10_step_14 rfl (by decide) (fun c => ?_) (fun c => ?_)
    · have k := k.1 c
      refine go_aload_n (pc2 := 25) dX10_step_24 rfl rfl rfl ?_
      refine gf_369 (pc2 := 28) rfl dX10_step_25 rfl c_0 (fvs r_0_0) ?_
      refine gf_132 (pc2 := 31) rfl dX10_step_28 rfl c_1 fvi ?_
      refine go_istore_n (pc2 := 32) (ls2 := [(0, .ref 0), (1, .int x1), (2, .int (h.1 1 7))]) dX10_step_31 rfl rfl rfl rfl rfl rfl ?_
      refine go_aload_n (pc2 := 33) dX10_step_32 rfl rfl rfl ?_
      refine gf_369 (pc2 := 36) rfl dX10_step_33 rfl c_0 (fvs r_0_0) ?_
      refine go_iload_n (pc2 := 37) dX10_step_36 rfl rfl rfl ?_
      refine pf_132 (pc2 := 40) rfl dX10_step_37 rfl c_1 ?_
      obtain ⟨g1, eg1⟩ : ∃ y : Hp, y = (ui h 1 7 x1) := ⟨_, rfl⟩
      rw [← eg1]
      have k := k g1 eg1
      refine go_iload_n (pc2 := 41) dX10_step_40 rfl rfl rfl ?_
      exact go_iret dX10_step_41 ⟨_, rfl, rfl⟩ ⟨rfl, _, rfl, k⟩
    · have k := k.2 c
      refine go_aload_n (pc2 := 18) dX10_step_17 rfl rfl rfl ?_
      refine go_bipush (pc2 := 20) (v := (-6 : Int32)) dX10_step_18 rfl (by decide) ?_
      obtain ⟨Q2, hC3, k⟩ := k
      refine gcV_I (pc2 := 23) (dC := 0) (As := [.int (-6 : Int32)]) (st := []) rfl dX10_step_20 rfl w_413 ok_X10_refuse vi_X10_refuse c_0 (by decide) rfl rfl rfl (by decide) (Nat.le_of_ble_eq_true rfl) hC3 (fun v4 h5 hq6 => ?_)
      have k := k v4 h5 hq6
      exact go_iret dX10_step_23 ⟨_, rfl, rfl⟩ ⟨rfl, _, rfl, k⟩
  · have k := k.2 c
    refine go_aload_n (pc2 := 5) dX10_step_4 rfl rfl rfl ?_
    refine go_bipush (pc2 := 7) (v := (-4 : Int32)) dX10_step_5 rfl (by decide) ?_
    obtain ⟨Q7, hC8, k⟩ := k
    refine gcV_I (pc2 := 10) (dC := 0) (As := [.int (-4 : Int32)]) (st := []) rfl dX10_step_7 rfl w_413 ok_X10_refuse vi_X10_refuse c_0 (by decide) rfl rfl rfl (by decide) (Nat.le_of_ble_eq_true rfl) hC8 (fun v9 h10 hq11 => ?_)
    have k := k v9 h10 hq11
    exact go_iret dX10_step_10 ⟨_, rfl, rfl⟩ ⟨rfl, _, rfl, k⟩
theorem e_X10_answer {x1 : Int32} {x2 : Int32} {h : Hp} {Q : Int64 → Hp → Prop}  (k : (∃ Q1, CtI 0 mX5_noPlant [.ref 1, .int x1] h Q1 ∧ ∀ (v3 : Int32) (h4 : Hp), Q1 v3 h4 → ((v3 = 0 → ((x2 < 0 → (∃ Q6, CtL 1 mX10_refuseLong [.ref 0, .int (-2 : Int32)] h4 Q6 ∧ ∀ (v8 : Int64) (h9 : Hp), Q6 v8 h9 → Q v8 h9)) ∧ (¬ (x2 < 0) → ((x2 ≤ (2 : Int32) → (∃ Q11, CtV 1 mX2_begin [.ref 58] h4 Q11 ∧ ∀ h14 : Hp, Q11 h14 → (∃ Q16, CtV 4 mX2_ask [.ref 58] h14 Q16 ∧ ∀ h19 : Hp, Q16 h19 → ((¬ x2 = 0 → ((¬ x2 = (1 : Int32) → (vp_in x1 3 ∧ Q ((h19.1 63 (x1).toNatClampNeg)).toInt64 h19)) ∧ (x2 = (1 : Int32) → (vp_in x1 3 ∧ Q ((h19.1 62 (x1).toNatClampNeg)).toInt64 h19)))) ∧ (x2 = 0 → (vp_in x1 3 ∧ Q ((h19.1 61 (x1).toNatClampNeg)).toInt64 h19)))))) ∧ (¬ (x2 ≤ (2 : Int32)) → (∃ Q24, CtL 1 mX10_refuseLong [.ref 0, .int (-2 : Int32)] h4 Q24 ∧ ∀ (v26 : Int64) (h27 : Hp), Q24 v26 h27 → Q v26 h27)))))) ∧ (¬ v3 = 0 → (∃ Q29, CtL 1 mX10_refuseLong [.ref 0, .int (-1 : Int32)] h4 Q29 ∧ ∀ (v31 : Int64) (h32 : Hp), Q29 v31 h32 → Q v31 h32))))) : CtL 5 mX10_answer [.ref 0, .int x1, .int x2] h Q := by
  refine Ct.of (by decide +kernel) (Nat.le_of_ble_eq_true rfl) ?_
  show GoL 5 mX10_answer 0 [(0, .ref 0), (1, .int x1), (2, .int x2)] [] h Q
  refine go_aload_n (pc2 := 1) dX10_answer_0 rfl rfl rfl ?_
  refine gf_369 (pc2 := 4) rfl dX10_answer_1 rfl c_0 (fvs r_0_0) ?_
  refine go_iload_n (pc2 := 5) dX10_answer_4 rfl rfl rfl ?_
  obtain ⟨Q1, hC2, k⟩ := k
  refine gcVN_I (pc2 := 8) (dC := 0) (As := [.int x1]) (st := []) rfl dX10_answer_5 rfl w_621 ok_X5_noPlant vi_X5_noPlant c_1 (by decide) rfl rfl rfl (by decide) (Nat.le_of_ble_eq_true rfl) hC2 (fun v3 h4 hq5 => ?_)
  have k := k v3 h4 hq5
  refine go_if_eq (pc2 := 11) (tgt := 17) dX10_answer_8 rfl (by decide) (fun c => ?_) (fun c => ?_)
  · have k := k.1 c
    refine go_iload_n (pc2 := 18) dX10_answer_17 rfl rfl rfl ?_
    refine go_if_lt (pc2 := 21) (tgt := 26) dX10_answer_18 rfl (by decide) (fun c => ?_) (fun c => ?_)
    · have k := k.1 c
      refine go_aload_n (pc2 := 27) dX10_answer_26 rfl rfl rfl ?_
      refine go_bipush (pc2 := 29) (v := (-2 : Int32)) dX10_answer_27 rfl (by decide) ?_
      obtain ⟨Q6, hC7, k⟩ := k
      refine gcV_L (pc2 := 32) (dC := 1) (As := [.int (-2 : Int32)]) (st := []) rfl dX10_answer_29 rfl w_818 ok_X10_refuseLong vi_X10_refuseLong c_0 (by decide) rfl rfl rfl (by decide) (Nat.le_of_ble_eq_true rfl) hC7 (fun v8 h9 hq10 => ?_)
      have k := k v8 h9 hq10
      exact go_lret dX10_answer_32 rfl ⟨rfl, _, rfl, k⟩
    · have k := k.2 c
      refine go_iload_n (pc2 := 22) dX10_answer_21 rfl rfl rfl ?_
      refine go_iconst (pc2 := 23) (v := (2 : Int32)) dX10_answer_22 rfl (by decide) ?_
      refine go_icmp_le (pc2 := 26) (tgt := 33) dX10_answer_23 rfl (by decide) (fun c => ?_) (fun c => ?_)
      · have k := k.1 c
        refine go_aload_n (pc2 := 34) dX10_answer_33 rfl rfl rfl ?_
        refine gf_377 (pc2 := 37) rfl dX10_answer_34 rfl c_0 (fvs r_0_8) ?_
        obtain ⟨Q11, hC12, k⟩ := k
        refine gcVN_V (pc2 := 40) (dC := 1) (As := []) (st := []) rfl dX10_answer_37 rfl w_865 ok_X2_begin vi_X2_begin c_58 (by decide) rfl rfl rfl (by decide) (Nat.le_of_ble_eq_true rfl) hC12 (fun h14 hq15 => ?_)
        have k := k h14 hq15
        refine go_aload_n (pc2 := 41) dX10_answer_40 rfl rfl rfl ?_
        refine gf_377 (pc2 := 44) rfl dX10_answer_41 rfl c_0 (fvs r_0_8) ?_
        obtain ⟨Q16, hC17, k⟩ := k
        refine gcVN_V (pc2 := 47) (dC := 4) (As := []) (st := []) rfl dX10_answer_44 rfl w_870 ok_X2_ask vi_X2_ask c_58 (by decide) rfl rfl rfl (by decide) (Nat.le_of_ble_eq_true rfl) hC17 (fun h19 hq20 => ?_)
        have k := k h19 hq20
        refine go_iload_n (pc2 := 48) dX10_answer_47 rfl rfl rfl ?_
        refine go_if_ne (pc2 := 51) (tgt := 62) dX10_answer_48 rfl (by decide) (fun c => ?_) (fun c => ?_)
        · have k := k.1 c
          refine go_iload_n (pc2 := 63) dX10_answer_62 rfl rfl rfl ?_
          refine go_iconst (pc2 := 64) (v := (1 : Int32)) dX10_answer_63 rfl (by decide) ?_
          refine go_icmp_ne (pc2 := 67) (tgt := 80) dX10_answer_64 rfl (by decide) (fun c => ?_) (fun c => ?_)
          · have k := k.1 c
            refine go_aload_n (pc2 := 81) dX10_answer_80 rfl rfl rfl ?_
            refine gf_377 (pc2 := 84) rfl dX10_answer_81 rfl c_0 (fvs r_0_8) ?_
            refine gf_293 (pc2 := 87) rfl dX10_answer_84 rfl c_58 (fvs r_58_5) ?_
            refine go_iload_n (pc2 := 88) dX10_answer_87 rfl rfl rfl ?_
            obtain ⟨y21, k⟩ := k
            refine go_iaload (pc2 := 89) (j := (x1).toNatClampNeg) dX10_answer_88 rfl c_63 y21 rfl ?_
            refine go_i2l (pc2 := 90) dX10_answer_89 rfl ?_
            exact go_lret dX10_answer_90 rfl ⟨rfl, _, rfl, k⟩
          · have k := k.2 c
            refine go_aload_n (pc2 := 68) dX10_answer_67 rfl rfl rfl ?_
            refine gf_377 (pc2 := 71) rfl dX10_answer_68 rfl c_0 (fvs r_0_8) ?_
            refine gf_291 (pc2 := 74) rfl dX10_answer_71 rfl c_58 (fvs r_58_4) ?_
            refine go_iload_n (pc2 := 75) dX10_answer_74 rfl rfl rfl ?_
            obtain ⟨y22, k⟩ := k
            refine go_iaload (pc2 := 76) (j := (x1).toNatClampNeg) dX10_answer_75 rfl c_62 y22 rfl ?_
            refine go_i2l (pc2 := 77) dX10_answer_76 rfl ?_
            refine go_goto (tgt := 90) dX10_answer_77 (by decide) ?_
            exact go_lret dX10_answer_90 rfl ⟨rfl, _, rfl, k⟩
        · have k := k.2 c
          refine go_aload_n (pc2 := 52) dX10_answer_51 rfl rfl rfl ?_
          refine gf_377 (pc2 := 55) rfl dX10_answer_52 rfl c_0 (fvs r_0_8) ?_
          refine gf_289 (pc2 := 58) rfl dX10_answer_55 rfl c_58 (fvs r_58_3) ?_
          refine go_iload_n (pc2 := 59) dX10_answer_58 rfl rfl rfl ?_
          obtain ⟨y23, k⟩ := k
          refine go_iaload (pc2 := 60) (j := (x1).toNatClampNeg) dX10_answer_59 rfl c_61 y23 rfl ?_
          refine go_i2l (pc2 := 61) dX10_answer_60 rfl ?_
          exact go_lret dX10_answer_61 rfl ⟨rfl, _, rfl, k⟩
      · have k := k.2 c
        refine go_aload_n (pc2 := 27) dX10_answer_26 rfl rfl rfl ?_
        refine go_bipush (pc2 := 29) (v := (-2 : Int32)) dX10_answer_27 rfl (by decide) ?_
        obtain ⟨Q24, hC25, k⟩ := k
        refine gcV_L (pc2 := 32) (dC := 1) (As := [.int (-2 : Int32)]) (st := []) rfl dX10_answer_29 rfl w_818 ok_X10_refuseLong vi_X10_refuseLong c_0 (by decide) rfl rfl rfl (by decide) (Nat.le_of_ble_eq_true rfl) hC25 (fun v26 h27 hq28 => ?_)
        have k := k v26 h27 hq28
        exact go_lret dX10_answer_32 rfl ⟨rfl, _, rfl, k⟩
  · have k := k.2 c
    refine go_aload_n (pc2 := 12) dX10_answer_11 rfl rfl rfl ?_
    refine go_iconst (pc2 := 13) (v := (-1 : Int32)) dX10_answer_12 rfl (by decide) ?_
    obtain ⟨Q29, hC30, k⟩ := k
    refine gcV_L (pc2 := 16) (dC := 1) (As := [.int (-1 : Int32)]) (st := []) rfl dX10_answer_13 rfl w_818 ok_X10_refuseLong vi_X10_refuseLong c_0 (by decide) rfl rfl rfl (by decide) (Nat.le_of_ble_eq_true rfl) hC30 (fun v31 h32 hq33 => ?_)
    have k := k v31 h32 hq33
    exact go_lret dX10_answer_16 rfl ⟨rfl, _, rfl, k⟩
theorem e_X10_bound  {h : Hp} {Q : Int32 → Hp → Prop}  (k : (∃ Q1, CtI 5 mX2_run [.ref 58, .int (0 : Int32)] h Q1 ∧ ∀ (v3 : Int32) (h4 : Hp), Q1 v3 h4 → Q v3 h4)) : CtI 6 mX10_bound [.ref 0] h Q := by
  refine Ct.of (by decide +kernel) (Nat.le_of_ble_eq_true rfl) ?_
  show GoI 6 mX10_bound 0 [(0, .ref 0)] [] h Q
  refine go_aload_n (pc2 := 1) dX10_bound_0 rfl rfl rfl ?_
  refine gf_377 (pc2 := 4) rfl dX10_bound_1 rfl c_0 (fvs r_0_8) ?_
  refine go_iconst (pc2 := 5) (v := (0 : Int32)) dX10_bound_4 rfl (by decide) ?_
  obtain ⟨Q1, hC2, k⟩ := k
  refine gcVN_I (pc2 := 8) (dC := 5) (As := [.int (0 : Int32)]) (st := []) rfl dX10_bound_5 rfl w_898 ok_X2_run vi_X2_run c_58 (by decide) rfl rfl rfl (by decide) (Nat.le_of_ble_eq_true rfl) hC2 (fun v3 h4 hq5 => ?_)
  have k := k v3 h4 hq5
  exact go_iret dX10_bound_8 ⟨_, rfl, rfl⟩ ⟨rfl, _, rfl, k⟩
theorem e_X10_rounds {x1 : Int32} {x2 : Int32} {h : Hp} {Q : Int64 → Hp → Prop}  (k : ((0 ≤ x1 → ((x1 ≤ (20 : Int32) → ((x2 = (-1 : Int32) → GoL 6 mX10_rounds 46 [(0, .ref 0), (1, .int x1), (2, .int x2)] [] h Q) ∧ (¬ x2 = (-1 : Int32) → (∃ Q1, CtI 0 mX5_noHour [.ref 1, .int x2] h Q1 ∧ ∀ (v3 : Int32) (h4 : Hp), Q1 v3 h4 → ((v3 = 0 → GoL 6 mX10_rounds 46 [(0, .ref 0), (1, .int x1), (2, .int x2)] [] h4 Q) ∧ (¬ v3 = 0 → (∃ Q6, CtL 1 mX10_refuseLong [.ref 0, .int (-1 : Int32)] h4 Q6 ∧ ∀ (v8 : Int64) (h9 : Hp), Q6 v8 h9 → Q v8 h9))))))) ∧ (¬ (x1 ≤ (20 : Int32)) → (∃ Q11, CtL 1 mX10_refuseLong [.ref 0, .int (-6 : Int32)] h Q11 ∧ ∀ (v13 : Int64) (h14 : Hp), Q11 v13 h14 → Q v13 h14)))) ∧ (¬ (0 ≤ x1) → (∃ Q16, CtL 1 mX10_refuseLong [.ref 0, .int (-4 : Int32)] h Q16 ∧ ∀ (v18 : Int64) (h19 : Hp), Q16 v18 h19 → Q v18 h19)))) : CtL 6 mX10_rounds [.ref 0, .int x1, .int x2] h Q := by
  refine Ct.of (by decide +kernel) (Nat.le_of_ble_eq_true rfl) ?_
  show GoL 6 mX10_rounds 0 [(0, .ref 0), (1, .int x1), (2, .int x2)] [] h Q
  refine go_iload_n (pc2 := 1) dX10_rounds_0 rfl rfl rfl ?_
  refine go_if_ge (pc2 := 4) (tgt := 11) dX10_rounds_1 rfl (by decide) (fun c => ?_) (fun c => ?_)
  · have k := k.1 c
    refine go_iload_n (pc2 := 12) dX10_rounds_11 rfl rfl rfl ?_
    refine go_bipush (pc2 := 14) (v := (20 : Int32)) dX10_rounds_12 rfl (by decide) ?_
    refine go_icmp_le (pc2 := 17) (tgt := 24) dX10_rounds_14 rfl (by decide) (fun c => ?_) (fun c => ?_)
    · have k := k.1 c
      refine go_iload_n (pc2 := 25) dX10_rounds_24 rfl rfl rfl ?_
      refine go_iconst (pc2 := 26) (v := (-1 : Int32)) dX10_rounds_25 rfl (by decide) ?_
      refine go_icmp_eq (pc2 := 29) (tgt := 46) dX10_rounds_26 rfl (by decide) (fun c => ?_) (fun c => ?_)
      · have k := k.1 c
        exact k
      · have k := k.2 c
        refine go_aload_n (pc2 := 30) dX10_rounds_29 rfl rfl rfl ?_
        refine gf_369 (pc2 := 33) rfl dX10_rounds_30 rfl c_0 (fvs r_0_0) ?_
        refine go_iload_n (pc2 := 34) dX10_rounds_33 rfl rfl rfl ?_
        obtain ⟨Q1, hC2, k⟩ := k
        refine gcVN_I (pc2 := 37) (dC := 0) (As := [.int x2]) (st := []) rfl dX10_rounds_34 rfl w_676 ok_X5_noHour vi_X5_noHour c_1 (by decide) rfl rfl rfl (by decide) (Nat.le_of_ble_eq_true rfl) hC2 (fun v3 h4 hq5 => ?_)
        have k := k v3 h4 hq5
        refine go_if_eq (pc2 := 40) (tgt := 46) dX10_rounds_37 rfl (by decide) (fun c => ?_) (fun c => ?_)
        · have k := k.1 c
          exact k
        · have k := k.2 c
          refine go_aload_n (pc2 := 41) dX10_rounds_40 rfl rfl rfl ?_
          refine go_iconst (pc2 := 42) (v := (-1 : Int32)) dX10_rounds_41 rfl (by decide) ?_
          obtain ⟨Q6, hC7, k⟩ := k
          refine gcV_L (pc2 := 45) (dC := 1) (As := [.int (-1 : Int32)]) (st := []) rfl dX10_rounds_42 rfl w_818 ok_X10_refuseLong vi_X10_refuseLong c_0 (by decide) rfl rfl rfl (by decide) (Nat.le_of_ble_eq_true rfl) hC7 (fun v8 h9 hq10 => ?_)
          have k := k v8 h9 hq10
          exact go_lret dX10_rounds_45 rfl ⟨rfl, _, rfl, k⟩
    · have k := k.2 c
      refine go_aload_n (pc2 := 18) dX10_rounds_17 rfl rfl rfl ?_
      refine go_bipush (pc2 := 20) (v := (-6 : Int32)) dX10_rounds_18 rfl (by decide) ?_
      obtain ⟨Q11, hC12, k⟩ := k
      refine gcV_L (pc2 := 23) (dC := 1) (As := [.int (-6 : Int32)]) (st := []) rfl dX10_rounds_20 rfl w_818 ok_X10_refuseLong vi_X10_refuseLong c_0 (by decide) rfl rfl rfl (by decide) (Nat.le_of_ble_eq_true rfl) hC12 (fun v13 h14 hq15 => ?_)
      have k := k v13 h14 hq15
      exact go_lret dX10_rounds_23 rfl ⟨rfl, _, rfl, k⟩
  · have k := k.2 c
    refine go_aload_n (pc2 := 5) dX10_rounds_4 rfl rfl rfl ?_
    refine go_bipush (pc2 := 7) (v := (-4 : Int32)) dX10_rounds_5 rfl (by decide) ?_
    obtain ⟨Q16, hC17, k⟩ := k
    refine gcV_L (pc2 := 10) (dC := 1) (As := [.int (-4 : Int32)]) (st := []) rfl dX10_rounds_7 rfl w_818 ok_X10_refuseLong vi_X10_refuseLong c_0 (by decide) rfl rfl rfl (by decide) (Nat.le_of_ble_eq_true rfl) hC17 (fun v18 h19 hq20 => ?_)
    have k := k v18 h19 hq20
    exact go_lret dX10_rounds_10 rfl ⟨rfl, _, rfl, k⟩
theorem b_X10_rounds_46 {x1 : Int32} {x2 : Int32} {h : Hp} {Q : Int64 → Hp → Prop}  (k : (∃ Q1, CtI 5 mX2_run [.ref 58, .int x1] h Q1 ∧ ∀ (v3 : Int32) (h4 : Hp), Q1 v3 h4 → ((¬ x2 = (-1 : Int32) → (vp_in x2 5 ∧ Q ((h4.1 59 (x2).toNatClampNeg)).toInt64 h4)) ∧ (x2 = (-1 : Int32) → Q (v3).toInt64 h4)))) : GoL 6 mX10_rounds 46 [(0, .ref 0), (1, .int x1), (2, .int x2)] [] h Q := by
  refine go_aload_n (pc2 := 47) dX10_rounds_46 rfl rfl rfl ?_
  refine gf_377 (pc2 := 50) rfl dX10_rounds_47 rfl c_0 (fvs r_0_8) ?_
  refine go_iload_n (pc2 := 51) dX10_rounds_50 rfl rfl rfl ?_
  obtain ⟨Q1, hC2, k⟩ := k
  refine gcVN_I (pc2 := 54) (dC := 5) (As := [.int x1]) (st := []) rfl dX10_rounds_51 rfl w_898 ok_X2_run vi_X2_run c_58 (by decide) rfl rfl rfl (by decide) (Nat.le_of_ble_eq_true rfl) hC2 (fun v3 h4 hq5 => ?_)
  have k := k v3 h4 hq5
  refine go_istore_n (pc2 := 55) (ls2 := [(0, .ref 0), (1, .int x1), (2, .int x2), (3, .int v3)]) dX10_rounds_54 rfl rfl rfl rfl rfl rfl ?_
  refine go_iload_n (pc2 := 56) dX10_rounds_55 rfl rfl rfl ?_
  refine go_iconst (pc2 := 57) (v := (-1 : Int32)) dX10_rounds_56 rfl (by decide) ?_
  refine go_icmp_ne (pc2 := 60) (tgt := 65) dX10_rounds_57 rfl (by decide) (fun c => ?_) (fun c => ?_)
  · have k := k.1 c
    refine go_aload_n (pc2 := 66) dX10_rounds_65 rfl rfl rfl ?_
    refine gf_377 (pc2 := 69) rfl dX10_rounds_66 rfl c_0 (fvs r_0_8) ?_
    refine gf_285 (pc2 := 72) rfl dX10_rounds_69 rfl c_58 (fvs r_58_1) ?_
    refine go_iload_n (pc2 := 73) dX10_rounds_72 rfl rfl rfl ?_
    obtain ⟨y6, k⟩ := k
    refine go_iaload (pc2 := 74) (j := (x2).toNatClampNeg) dX10_rounds_73 rfl c_59 y6 rfl ?_
    refine go_i2l (pc2 := 75) dX10_rounds_74 rfl ?_
    exact go_lret dX10_rounds_75 rfl ⟨rfl, _, rfl, k⟩
  · have k := k.2 c
    refine go_iload_n (pc2 := 61) dX10_rounds_60 rfl rfl rfl ?_
    refine go_i2l (pc2 := 62) dX10_rounds_61 rfl ?_
    refine go_goto (tgt := 75) dX10_rounds_62 (by decide) ?_
    exact go_lret dX10_rounds_75 rfl ⟨rfl, _, rfl, k⟩
theorem e_X10_goes {x1 : Int32} {h : Hp} {Q : Int32 → Hp → Prop}  (k : ((0 ≤ x1 → ((x1 ≤ (20 : Int32) → (∃ Q1, CtI 5 mX2_run [.ref 58, .int x1] h Q1 ∧ ∀ (v3 : Int32) (h4 : Hp), Q1 v3 h4 → GoI 6 mX10_goes 37 [(0, .ref 0), (2, .int (0 : Int32)), (3, .int (0 : Int32))] [] h4 Q)) ∧ (¬ (x1 ≤ (20 : Int32)) → (∃ Q6, CtI 0 mX10_refuse [.ref 0, .int (-6 : Int32)] h Q6 ∧ ∀ (v8 : Int32) (h9 : Hp), Q6 v8 h9 → Q v8 h9)))) ∧ (¬ (0 ≤ x1) → (∃ Q11, CtI 0 mX10_refuse [.ref 0, .int (-4 : Int32)] h Q11 ∧ ∀ (v13 : Int32) (h14 : Hp), Q11 v13 h14 → Q v13 h14)))) : CtI 6 mX10_goes [.ref 0, .int x1] h Q := by
  refine Ct.of (by decide +kernel) (Nat.le_of_ble_eq_true rfl) ?_
  show GoI 6 mX10_goes 0 [(0, .ref 0), (1, .int x1)] [] h Q
  refine go_iload_n (pc2 := 1) dX10_goes_0 rfl rfl rfl ?_
  refine go_if_ge (pc2 := 4) (tgt := 11) dX10_goes_1 rfl (by decide) (fun c => ?_) (fun c => ?_)
  · have k := k.1 c
    refine go_iload_n (pc2 := 12) dX10_goes_11 rfl rfl rfl ?_
    refine go_bipush (pc2 := 14) (v := (20 : Int32)) dX10_goes_12 rfl (by decide) ?_
    refine go_icmp_le (pc2 := 17) (tgt := 24) dX10_goes_14 rfl (by decide) (fun c => ?_) (fun c => ?_)
    · have k := k.1 c
      refine go_aload_n (pc2 := 25) dX10_goes_24 rfl rfl rfl ?_
      refine gf_377 (pc2 := 28) rfl dX10_goes_25 rfl c_0 (fvs r_0_8) ?_
      refine go_iload_n (pc2 := 29) dX10_goes_28 rfl rfl rfl ?_
      obtain ⟨Q1, hC2, k⟩ := k
      refine gcVN_I (pc2 := 32) (dC := 5) (As := [.int x1]) (st := []) rfl dX10_goes_29 rfl w_898 ok_X2_run vi_X2_run c_58 (by decide) rfl rfl rfl (by decide) (Nat.le_of_ble_eq_true rfl) hC2 (fun v3 h4 hq5 => ?_)
      have k := k v3 h4 hq5
      refine go_pop (pc2 := 33) dX10_goes_32 rfl rfl ?_
      refine go_iconst (pc2 := 34) (v := (0 : Int32)) dX10_goes_33 rfl (by decide) ?_
      refine go_istore_n (pc2 := 35) (ls2 := [(0, .ref 0), (1, .int x1), (2, .int (0 : Int32))]) dX10_goes_34 rfl rfl rfl rfl rfl rfl ?_
      refine go_iconst (pc2 := 36) (v := (0 : Int32)) dX10_goes_35 rfl (by decide) ?_
      refine go_istore_n (pc2 := 37) (ls2 := [(0, .ref 0), (1, .int x1), (2, .int (0 : Int32)), (3, .int (0 : Int32))]) dX10_goes_36 rfl rfl rfl rfl rfl rfl ?_
      exact Go.pick [0, 2, 3] rfl k
    · have k := k.2 c
      refine go_aload_n (pc2 := 18) dX10_goes_17 rfl rfl rfl ?_
      refine go_bipush (pc2 := 20) (v := (-6 : Int32)) dX10_goes_18 rfl (by decide) ?_
      obtain ⟨Q6, hC7, k⟩ := k
      refine gcV_I (pc2 := 23) (dC := 0) (As := [.int (-6 : Int32)]) (st := []) rfl dX10_goes_20 rfl w_413 ok_X10_refuse vi_X10_refuse c_0 (by decide) rfl rfl rfl (by decide) (Nat.le_of_ble_eq_true rfl) hC7 (fun v8 h9 hq10 => ?_)
      have k := k v8 h9 hq10
      exact go_iret dX10_goes_23 ⟨_, rfl, rfl⟩ ⟨rfl, _, rfl, k⟩
  · have k := k.2 c
    refine go_aload_n (pc2 := 5) dX10_goes_4 rfl rfl rfl ?_
    refine go_bipush (pc2 := 7) (v := (-4 : Int32)) dX10_goes_5 rfl (by decide) ?_
    obtain ⟨Q11, hC12, k⟩ := k
    refine gcV_I (pc2 := 10) (dC := 0) (As := [.int (-4 : Int32)]) (st := []) rfl dX10_goes_7 rfl w_413 ok_X10_refuse vi_X10_refuse c_0 (by decide) rfl rfl rfl (by decide) (Nat.le_of_ble_eq_true rfl) hC12 (fun v13 h14 hq15 => ?_)
    have k := k v13 h14 hq15
    exact go_iret dX10_goes_10 ⟨_, rfl, rfl⟩ ⟨rfl, _, rfl, k⟩
theorem b_X10_goes_37 {x2 : Int32} {x3 : Int32} {h : Hp} {Q : Int32 → Hp → Prop}  (k : (((h.1 1 0) ≤ x3 → Q x2 h) ∧ (¬ ((h.1 1 0) ≤ x3) → (vp_in x3 5 ∧ (vp_in x3 5 ∧ (((h.1 4 (x3).toNatClampNeg) = (h.1 59 (x3).toNatClampNeg) → GoI 6 mX10_goes 90 [(0, .ref 0), (2, .int x2), (3, .int x3)] [] h Q) ∧ (¬ (h.1 4 (x3).toNatClampNeg) = (h.1 59 (x3).toNatClampNeg) → (vp_in x3 5 ∧ (vp_in x3 5 ∧ (∀ g5 : Hp, g5 = (ui h 4 (x3).toNatClampNeg (h.1 59 (x3).toNatClampNeg)) → GoI 6 mX10_goes 90 [(0, .ref 0), (2, .int (x2 + 1)), (3, .int x3)] [] g5 Q)))))))))) : GoI 6 mX10_goes 37 [(0, .ref 0), (2, .int x2), (3, .int x3)] [] h Q := by
  refine go_iload_n (pc2 := 38) dX10_goes_37 rfl rfl rfl ?_
  refine go_aload_n (pc2 := 39) dX10_goes_38 rfl rfl rfl ?_
  refine gf_369 (pc2 := 42) rfl dX10_goes_39 rfl c_0 (fvs r_0_0) ?_
  refine gf_101 (pc2 := 45) rfl dX10_goes_42 rfl c_1 fvi ?_
  refine go_icmp_ge (pc2 := 48) (tgt := 96) dX10_goes_45 rfl (by decide) (fun c => ?_) (fun c => ?_)
  · have k := k.1 c
    refine go_iload_n (pc2 := 97) dX10_goes_96 rfl rfl rfl ?_
    exact go_iret dX10_goes_97 ⟨_, rfl, rfl⟩ ⟨rfl, _, rfl, k⟩
  · have k := k.2 c
    refine go_aload_n (pc2 := 49) dX10_goes_48 rfl rfl rfl ?_
    refine gf_369 (pc2 := 52) rfl dX10_goes_49 rfl c_0 (fvs r_0_0) ?_
    refine gf_113 (pc2 := 55) rfl dX10_goes_52 rfl c_1 (fvs r_1_3) ?_
    refine go_iload_n (pc2 := 56) dX10_goes_55 rfl rfl rfl ?_
    obtain ⟨y1, k⟩ := k
    refine go_iaload (pc2 := 57) (j := (x3).toNatClampNeg) dX10_goes_56 rfl c_4 y1 rfl ?_
    refine go_aload_n (pc2 := 58) dX10_goes_57 rfl rfl rfl ?_
    refine gf_377 (pc2 := 61) rfl dX10_goes_58 rfl c_0 (fvs r_0_8) ?_
    refine gf_285 (pc2 := 64) rfl dX10_goes_61 rfl c_58 (fvs r_58_1) ?_
    refine go_iload_n (pc2 := 65) dX10_goes_64 rfl rfl rfl ?_
    obtain ⟨y2, k⟩ := k
    refine go_iaload (pc2 := 66) (j := (x3).toNatClampNeg) dX10_goes_65 rfl c_59 y2 rfl ?_
    refine go_icmp_eq (pc2 := 69) (tgt := 90) dX10_goes_66 rfl (by decide) (fun c => ?_) (fun c => ?_)
    · have k := k.1 c
      exact k
    · have k := k.2 c
      refine go_aload_n (pc2 := 70) dX10_goes_69 rfl rfl rfl ?_
      refine gf_369 (pc2 := 73) rfl dX10_goes_70 rfl c_0 (fvs r_0_0) ?_
      refine gf_113 (pc2 := 76) rfl dX10_goes_73 rfl c_1 (fvs r_1_3) ?_
      refine go_iload_n (pc2 := 77) dX10_goes_76 rfl rfl rfl ?_
      refine go_aload_n (pc2 := 78) dX10_goes_77 rfl rfl rfl ?_
      refine gf_377 (pc2 := 81) rfl dX10_goes_78 rfl c_0 (fvs r_0_8) ?_
      refine gf_285 (pc2 := 84) rfl dX10_goes_81 rfl c_58 (fvs r_58_1) ?_
      refine go_iload_n (pc2 := 85) dX10_goes_84 rfl rfl rfl ?_
      obtain ⟨y3, k⟩ := k
      refine go_iaload (pc2 := 86) (j := (x3).toNatClampNeg) dX10_goes_85 rfl c_59 y3 rfl ?_
      obtain ⟨y4, k⟩ := k
      refine go_iastore (pc2 := 87) (j := (x3).toNatClampNeg) dX10_goes_86 rfl c_4 y4 rfl ?_
      obtain ⟨g5, eg5⟩ : ∃ y : Hp, y = (ui h 4 (x3).toNatClampNeg (h.1 59 (x3).toNatClampNeg)) := ⟨_, rfl⟩
      rw [← eg5]
      have k := k g5 eg5
      refine go_iinc (pc2 := 90) (ls2 := [(0, .ref 0), (2, .int (x2 + 1)), (3, .int x3)]) (v := (x2 + 1)) dX10_goes_87 rfl rfl rfl rfl rfl rfl rfl ?_
      exact k
theorem b_X10_goes_90 {x2 : Int32} {x3 : Int32} {h : Hp} {Q : Int32 → Hp → Prop}  (k : GoI 6 mX10_goes 37 [(0, .ref 0), (2, .int x2), (3, .int (x3 + 1))] [] h Q) : GoI 6 mX10_goes 90 [(0, .ref 0), (2, .int x2), (3, .int x3)] [] h Q := by
  refine go_iinc (pc2 := 93) (ls2 := [(0, .ref 0), (2, .int x2), (3, .int (x3 + 1))]) (v := (x3 + 1)) dX10_goes_90 rfl rfl rfl rfl rfl rfl rfl ?_
  refine go_goto (tgt := 37) dX10_goes_93 (by decide) ?_
  exact k
theorem e_X10_repaired {x1 : Int32} {h : Hp} {Q : Int32 → Hp → Prop}  (k : ((x1 = (-1 : Int32) → GoI 6 mX10_repaired 22 [(0, .ref 0), (1, .int x1)] [] h Q) ∧ (¬ x1 = (-1 : Int32) → (∃ Q1, CtI 0 mX5_noPlant [.ref 1, .int x1] h Q1 ∧ ∀ (v3 : Int32) (h4 : Hp), Q1 v3 h4 → ((v3 = 0 → GoI 6 mX10_repaired 22 [(0, .ref 0), (1, .int x1)] [] h4 Q) ∧ (¬ v3 = 0 → (∃ Q6, CtI 0 mX10_refuse [.ref 0, .int (-1 : Int32)] h4 Q6 ∧ ∀ (v8 : Int32) (h9 : Hp), Q6 v8 h9 → Q v8 h9))))))) : CtI 6 mX10_repaired [.ref 0, .int x1] h Q := by
  refine Ct.of (by decide +kernel) (Nat.le_of_ble_eq_true rfl) ?_
  show GoI 6 mX10_repaired 0 [(0, .ref 0), (1, .int x1)] [] h Q
  refine go_iload_n (pc2 := 1) dX10_repaired_0 rfl rfl rfl ?_
  refine go_iconst (pc2 := 2) (v := (-1 : Int32)) dX10_repaired_1 rfl (by decide) ?_
  refine go_icmp_eq (pc2 := 5) (tgt := 22) dX10_repaired_2 rfl (by decide) (fun c => ?_) (fun c => ?_)
  · have k := k.1 c
    exact k
  · have k := k.2 c
    refine go_aload_n (pc2 := 6) dX10_repaired_5 rfl rfl rfl ?_
    refine gf_369 (pc2 := 9) rfl dX10_repaired_6 rfl c_0 (fvs r_0_0) ?_
    refine go_iload_n (pc2 := 10) dX10_repaired_9 rfl rfl rfl ?_
    obtain ⟨Q1, hC2, k⟩ := k
    refine gcVN_I (pc2 := 13) (dC := 0) (As := [.int x1]) (st := []) rfl dX10_repaired_10 rfl w_621 ok_X5_noPlant vi_X5_noPlant c_1 (by decide) rfl rfl rfl (by decide) (Nat.le_of_ble_eq_true rfl) hC2 (fun v3 h4 hq5 => ?_)
    have k := k v3 h4 hq5
    refine go_if_eq (pc2 := 16) (tgt := 22) dX10_repaired_13 rfl (by decide) (fun c => ?_) (fun c => ?_)
    · have k := k.1 c
      exact k
    · have k := k.2 c
      refine go_aload_n (pc2 := 17) dX10_repaired_16 rfl rfl rfl ?_
      refine go_iconst (pc2 := 18) (v := (-1 : Int32)) dX10_repaired_17 rfl (by decide) ?_
      obtain ⟨Q6, hC7, k⟩ := k
      refine gcV_I (pc2 := 21) (dC := 0) (As := [.int (-1 : Int32)]) (st := []) rfl dX10_repaired_18 rfl w_413 ok_X10_refuse vi_X10_refuse c_0 (by decide) rfl rfl rfl (by decide) (Nat.le_of_ble_eq_true rfl) hC7 (fun v8 h9 hq10 => ?_)
      have k := k v8 h9 hq10
      exact go_iret dX10_repaired_21 ⟨_, rfl, rfl⟩ ⟨rfl, _, rfl, k⟩
theorem b_X10_repaired_22 {x1 : Int32} {h : Hp} {Q : Int32 → Hp → Prop}  (k : (∃ Q1, CtV 1 mX2_begin [.ref 58] h Q1 ∧ ∀ h4 : Hp, Q1 h4 → (∃ Q6, CtV 4 mX2_ask [.ref 58] h4 Q6 ∧ ∀ h9 : Hp, Q6 h9 → (∃ Q11, CtI 5 mX4_run [.ref 64] h9 Q11 ∧ ∀ (v13 : Int32) (h14 : Hp), Q11 v13 h14 → ((v13 < 0 → Q v13 h14) ∧ (¬ (v13 < 0) → ((¬ x1 = (-1 : Int32) → (vp_in x1 3 ∧ Q (h14.1 65 (x1).toNatClampNeg) h14)) ∧ (x1 = (-1 : Int32) → Q v13 h14)))))))) : GoI 6 mX10_repaired 22 [(0, .ref 0), (1, .int x1)] [] h Q := by
  refine go_aload_n (pc2 := 23) dX10_repaired_22 rfl rfl rfl ?_
  refine gf_377 (pc2 := 26) rfl dX10_repaired_23 rfl c_0 (fvs r_0_8) ?_
  obtain ⟨Q1, hC2, k⟩ := k
  refine gcVN_V (pc2 := 29) (dC := 1) (As := []) (st := []) rfl dX10_repaired_26 rfl w_865 ok_X2_begin vi_X2_begin c_58 (by decide) rfl rfl rfl (by decide) (Nat.le_of_ble_eq_true rfl) hC2 (fun h4 hq5 => ?_)
  have k := k h4 hq5
  refine go_aload_n (pc2 := 30) dX10_repaired_29 rfl rfl rfl ?_
  refine gf_377 (pc2 := 33) rfl dX10_repaired_30 rfl c_0 (fvs r_0_8) ?_
  obtain ⟨Q6, hC7, k⟩ := k
  refine gcVN_V (pc2 := 36) (dC := 4) (As := []) (st := []) rfl dX10_repaired_33 rfl w_870 ok_X2_ask vi_X2_ask c_58 (by decide) rfl rfl rfl (by decide) (Nat.le_of_ble_eq_true rfl) hC7 (fun h9 hq10 => ?_)
  have k := k h9 hq10
  refine go_aload_n (pc2 := 37) dX10_repaired_36 rfl rfl rfl ?_
  refine gf_378 (pc2 := 40) rfl dX10_repaired_37 rfl c_0 (fvs r_0_9) ?_
  obtain ⟨Q11, hC12, k⟩ := k
  refine gcVN_I (pc2 := 43) (dC := 5) (As := []) (st := []) rfl dX10_repaired_40 rfl w_922 ok_X4_run vi_X4_run c_64 (by decide) rfl rfl rfl (by decide) (Nat.le_of_ble_eq_true rfl) hC12 (fun v13 h14 hq15 => ?_)
  have k := k v13 h14 hq15
  refine go_istore_n (pc2 := 44) (ls2 := [(0, .ref 0), (1, .int x1), (2, .int v13)]) dX10_repaired_43 rfl rfl rfl rfl rfl rfl ?_
  refine go_iload_n (pc2 := 45) dX10_repaired_44 rfl rfl rfl ?_
  refine go_if_lt (pc2 := 48) (tgt := 53) dX10_repaired_45 rfl (by decide) (fun c => ?_) (fun c => ?_)
  · have k := k.1 c
    refine go_iload_n (pc2 := 54) dX10_repaired_53 rfl rfl rfl ?_
    refine go_goto (tgt := 66) dX10_repaired_54 (by decide) ?_
    exact go_iret dX10_repaired_66 ⟨_, rfl, rfl⟩ ⟨rfl, _, rfl, k⟩
  · have k := k.2 c
    refine go_iload_n (pc2 := 49) dX10_repaired_48 rfl rfl rfl ?_
    refine go_iconst (pc2 := 50) (v := (-1 : Int32)) dX10_repaired_49 rfl (by decide) ?_
    refine go_icmp_ne (pc2 := 53) (tgt := 57) dX10_repaired_50 rfl (by decide) (fun c => ?_) (fun c => ?_)
    · have k := k.1 c
      refine go_aload_n (pc2 := 58) dX10_repaired_57 rfl rfl rfl ?_
      refine gf_378 (pc2 := 61) rfl dX10_repaired_58 rfl c_0 (fvs r_0_9) ?_
      refine gf_317 (pc2 := 64) rfl dX10_repaired_61 rfl c_64 (fvs r_64_3) ?_
      refine go_iload_n (pc2 := 65) dX10_repaired_64 rfl rfl rfl ?_
      obtain ⟨y16, k⟩ := k
      refine go_iaload (pc2 := 66) (j := (x1).toNatClampNeg) dX10_repaired_65 rfl c_65 y16 rfl ?_
      exact go_iret dX10_repaired_66 ⟨_, rfl, rfl⟩ ⟨rfl, _, rfl, k⟩
    · have k := k.2 c
      refine go_iload_n (pc2 := 54) dX10_repaired_53 rfl rfl rfl ?_
      refine go_goto (tgt := 66) dX10_repaired_54 (by decide) ?_
      exact go_iret dX10_repaired_66 ⟨_, rfl, rfl⟩ ⟨rfl, _, rfl, k⟩
theorem e_X10_judge {x1 : Int32} {h : Hp} {Q : Int32 → Hp → Prop}  (k : (∃ Q1, CtI 0 mX10_noList [.int x1] h Q1 ∧ ∀ (v3 : Int32) (h4 : Hp), Q1 v3 h4 → ((v3 = 0 → (vp_in x1 4 ∧ ((0 ≤ (h4.1 (69 + 2 * (x1).toNatClampNeg) 1) → (((h4.1 1 5) ≤ (h4.1 (69 + 2 * (x1).toNatClampNeg) 1) → (∃ Q7, CtV 3 mX9_begin [.ref 36] h4 Q7 ∧ ∀ h10 : Hp, Q7 h10 → GoI 5 mX10_judge 61 [(0, .ref 0), (2, .ref (69 + 2 * (x1).toNatClampNeg)), (3, .int (0 : Int32))] [] h10 Q)) ∧ (¬ ((h4.1 1 5) ≤ (h4.1 (69 + 2 * (x1).toNatClampNeg) 1)) → Q ((100 : Int32) + (h4.1 (69 + 2 * (x1).toNatClampNeg) 1)) h4))) ∧ (¬ (0 ≤ (h4.1 (69 + 2 * (x1).toNatClampNeg) 1)) → Q (-11 : Int32) h4)))) ∧ (¬ v3 = 0 → (∃ Q12, CtI 0 mX10_refuse [.ref 0, .int (-1 : Int32)] h4 Q12 ∧ ∀ (v14 : Int32) (h15 : Hp), Q12 v14 h15 → Q v14 h15))))) : CtI 5 mX10_judge [.ref 0, .int x1] h Q := by
  refine Ct.of (by decide +kernel) (Nat.le_of_ble_eq_true rfl) ?_
  show GoI 5 mX10_judge 0 [(0, .ref 0), (1, .int x1)] [] h Q
  refine go_iload_n (pc2 := 1) dX10_judge_0 rfl rfl rfl ?_
  obtain ⟨Q1, hC2, k⟩ := k
  refine gcS_I (pc2 := 4) (dC := 0) (As := [.int x1]) (st := []) rfl dX10_judge_1 rfl w_939 ok_X10_noList w_940 rfl (by decide) (Nat.le_of_ble_eq_true rfl) hC2 (fun v3 h4 hq5 => ?_)
  have k := k v3 h4 hq5
  refine go_if_eq (pc2 := 7) (tgt := 13) dX10_judge_4 rfl (by decide) (fun c => ?_) (fun c => ?_)
  · have k := k.1 c
    refine go_aload_n (pc2 := 14) dX10_judge_13 rfl rfl rfl ?_
    refine gf_379 (pc2 := 17) rfl dX10_judge_14 rfl c_0 (fvs r_0_10) ?_
    refine go_iload_n (pc2 := 18) dX10_judge_17 rfl rfl rfl ?_
    obtain ⟨y6, k⟩ := k
    refine go_aaload (pc2 := 19) (t := 1) dX10_judge_18 rfl (by decide) c_66 y6 rfl (rfo_s (ra_66 _ (vp_lt y6)).1) ?_
    refine go_astore_n (pc2 := 20) (ls2 := [(0, .ref 0), (1, .int x1), (2, .ref (69 + 2 * (x1).toNatClampNeg))]) dX10_judge_19 rfl rfl rfl rfl rfl rfl ?_
    refine go_aload_n (pc2 := 21) dX10_judge_20 rfl rfl rfl ?_
    refine gf_338 (pc2 := 24) rfl dX10_judge_21 rfl (ra_66 _ (vp_lt y6)).2.1 fvi ?_
    refine go_if_ge (pc2 := 27) (tgt := 30) dX10_judge_24 rfl (by decide) (fun c => ?_) (fun c => ?_)
    · have k := k.1 c
      refine go_aload_n (pc2 := 31) dX10_judge_30 rfl rfl rfl ?_
      refine gf_338 (pc2 := 34) rfl dX10_judge_31 rfl (ra_66 _ (vp_lt y6)).2.1 fvi ?_
      refine go_aload_n (pc2 := 35) dX10_judge_34 rfl rfl rfl ?_
      refine gf_369 (pc2 := 38) rfl dX10_judge_35 rfl c_0 (fvs r_0_0) ?_
      refine gf_126 (pc2 := 41) rfl dX10_judge_38 rfl c_1 fvi ?_
      refine go_icmp_ge (pc2 := 44) (tgt := 52) dX10_judge_41 rfl (by decide) (fun c => ?_) (fun c => ?_)
      · have k := k.1 c
        refine go_aload_n (pc2 := 53) dX10_judge_52 rfl rfl rfl ?_
        refine gf_375 (pc2 := 56) rfl dX10_judge_53 rfl c_0 (fvs r_0_6) ?_
        obtain ⟨Q7, hC8, k⟩ := k
        refine gcVN_V (pc2 := 59) (dC := 3) (As := []) (st := []) rfl dX10_judge_56 rfl w_774 ok_X9_begin vi_X9_begin c_36 (by decide) rfl rfl rfl (by decide) (Nat.le_of_ble_eq_true rfl) hC8 (fun h10 hq11 => ?_)
        have k := k h10 hq11
        refine go_iconst (pc2 := 60) (v := (0 : Int32)) dX10_judge_59 rfl (by decide) ?_
        refine go_istore_n (pc2 := 61) (ls2 := [(0, .ref 0), (1, .int x1), (2, .ref (69 + 2 * (x1).toNatClampNeg)), (3, .int (0 : Int32))]) dX10_judge_60 rfl rfl rfl rfl rfl rfl ?_
        exact Go.pick [0, 2, 3] rfl k
      · have k := k.2 c
        refine go_bipush (pc2 := 46) (v := (100 : Int32)) dX10_judge_44 rfl (by decide) ?_
        refine go_aload_n (pc2 := 47) dX10_judge_46 rfl rfl rfl ?_
        refine gf_338 (pc2 := 50) rfl dX10_judge_47 rfl (ra_66 _ (vp_lt y6)).2.1 fvi ?_
        refine go_iadd (pc2 := 51) dX10_judge_50 rfl ?_
        exact go_iret dX10_judge_51 ⟨_, rfl, rfl⟩ ⟨rfl, _, rfl, k⟩
    · have k := k.2 c
      refine go_bipush (pc2 := 29) (v := (-11 : Int32)) dX10_judge_27 rfl (by decide) ?_
      exact go_iret dX10_judge_29 ⟨_, rfl, rfl⟩ ⟨rfl, _, rfl, k⟩
  · have k := k.2 c
    refine go_aload_n (pc2 := 8) dX10_judge_7 rfl rfl rfl ?_
    refine go_iconst (pc2 := 9) (v := (-1 : Int32)) dX10_judge_8 rfl (by decide) ?_
    obtain ⟨Q12, hC13, k⟩ := k
    refine gcV_I (pc2 := 12) (dC := 0) (As := [.int (-1 : Int32)]) (st := []) rfl dX10_judge_9 rfl w_413 ok_X10_refuse vi_X10_refuse c_0 (by decide) rfl rfl rfl (by decide) (Nat.le_of_ble_eq_true rfl) hC13 (fun v14 h15 hq16 => ?_)
    have k := k v14 h15 hq16
    exact go_iret dX10_judge_12 ⟨_, rfl, rfl⟩ ⟨rfl, _, rfl, k⟩
theorem b_X10_judge_61 {x2 : Nat} {x3 : Int32} {h : Hp} {Q : Int32 → Hp → Prop} (hx2 : isLn x2) (k : (((h.1 1 0) ≤ x3 → Q (-9 : Int32) h) ∧ (¬ ((h.1 1 0) ≤ x3) → (∃ Q1, CtI 0 mX1_setAt [.ref x2, .int x3, .int (h.1 1 5)] h Q1 ∧ ∀ (v3 : Int32) (h4 : Hp), Q1 v3 h4 → (∃ Q6, CtI 4 mX9_pass [.ref 36, .int x3, .int v3] h4 Q6 ∧ ∀ (v8 : Int32) (h9 : Hp), Q6 v8 h9 → ((0 ≤ v8 → GoI 5 mX10_judge 61 [(0, .ref 0), (2, .ref x2), (3, .int (x3 + 1))] [] h9 Q) ∧ (¬ (0 ≤ v8) → Q x3 h9))))))) : GoI 5 mX10_judge 61 [(0, .ref 0), (2, .ref x2), (3, .int x3)] [] h Q := by
  refine go_iload_n (pc2 := 62) dX10_judge_61 rfl rfl rfl ?_
  refine go_aload_n (pc2 := 63) dX10_judge_62 rfl rfl rfl ?_
  refine gf_369 (pc2 := 66) rfl dX10_judge_63 rfl c_0 (fvs r_0_0) ?_
  refine gf_101 (pc2 := 69) rfl dX10_judge_66 rfl c_1 fvi ?_
  refine go_icmp_ge (pc2 := 72) (tgt := 103) dX10_judge_69 rfl (by decide) (fun c => ?_) (fun c => ?_)
  · have k := k.1 c
    refine go_bipush (pc2 := 105) (v := (-9 : Int32)) dX10_judge_103 rfl (by decide) ?_
    exact go_iret dX10_judge_105 ⟨_, rfl, rfl⟩ ⟨rfl, _, rfl, k⟩
  · have k := k.2 c
    refine go_aload_n (pc2 := 73) dX10_judge_72 rfl rfl rfl ?_
    refine gf_375 (pc2 := 76) rfl dX10_judge_73 rfl c_0 (fvs r_0_6) ?_
    refine go_iload_n (pc2 := 77) dX10_judge_76 rfl rfl rfl ?_
    refine go_aload_n (pc2 := 78) dX10_judge_77 rfl rfl rfl ?_
    refine go_iload_n (pc2 := 79) dX10_judge_78 rfl rfl rfl ?_
    refine go_aload_n (pc2 := 80) dX10_judge_79 rfl rfl rfl ?_
    refine gf_369 (pc2 := 83) rfl dX10_judge_80 rfl c_0 (fvs r_0_0) ?_
    refine gf_126 (pc2 := 86) rfl dX10_judge_83 rfl c_1 fvi ?_
    obtain ⟨Q1, hC2, k⟩ := k
    refine gcVN_I (pc2 := 89) (dC := 0) (As := [.int x3, .int (h.1 1 5)]) (st := [.int x3, .ref 36]) rfl dX10_judge_86 rfl w_942 ok_X1_setAt vi_X1_setAt hx2.1 (by decide) rfl rfl rfl (by decide) (Nat.le_of_ble_eq_true rfl) hC2 (fun v3 h4 hq5 => ?_)
    have k := k v3 h4 hq5
    obtain ⟨Q6, hC7, k⟩ := k
    refine gcVN_I (pc2 := 92) (dC := 4) (As := [.int x3, .int v3]) (st := []) rfl dX10_judge_89 rfl w_783 ok_X9_pass vi_X9_pass c_36 (by decide) rfl rfl rfl (by decide) (Nat.le_of_ble_eq_true rfl) hC7 (fun v8 h9 hq10 => ?_)
    have k := k v8 h9 hq10
    refine go_if_ge (pc2 := 95) (tgt := 97) dX10_judge_92 rfl (by decide) (fun c => ?_) (fun c => ?_)
    · have k := k.1 c
      refine go_iinc (pc2 := 100) (ls2 := [(0, .ref 0), (2, .ref x2), (3, .int (x3 + 1))]) (v := (x3 + 1)) dX10_judge_97 rfl rfl rfl rfl rfl rfl rfl ?_
      refine go_goto (tgt := 61) dX10_judge_100 (by decide) ?_
      exact k
    · have k := k.2 c
      refine go_iload_n (pc2 := 96) dX10_judge_95 rfl rfl rfl ?_
      exact go_iret dX10_judge_96 ⟨_, rfl, rfl⟩ ⟨rfl, _, rfl, k⟩
theorem e_X10_whatIs {x1 : Int32} {x2 : Int32} {x3 : Int32} {h : Hp} {Q : Int32 → Hp → Prop}  (k : (∃ Q1, CtI 0 mX10_noList [.int x1] h Q1 ∧ ∀ (v3 : Int32) (h4 : Hp), Q1 v3 h4 → ((¬ v3 = 0 → (∃ Q6, CtI 0 mX10_refuse [.ref 0, .int (-1 : Int32)] h4 Q6 ∧ ∀ (v8 : Int32) (h9 : Hp), Q6 v8 h9 → Q v8 h9)) ∧ (v3 = 0 → (∃ Q11, CtI 0 mX5_noPlant [.ref 1, .int x2] h4 Q11 ∧ ∀ (v13 : Int32) (h14 : Hp), Q11 v13 h14 → ((v13 = 0 → ((x3 < 0 → (∃ Q16, CtI 0 mX10_refuse [.ref 0, .int (-2 : Int32)] h14 Q16 ∧ ∀ (v18 : Int32) (h19 : Hp), Q16 v18 h19 → Q v18 h19)) ∧ (¬ (x3 < 0) → ((x3 ≤ (1 : Int32) → (vp_in x1 4 ∧ ((0 ≤ (h14.1 (69 + 2 * (x1).toNatClampNeg) 1) → (vp_in x2 3 ∧ GoI 3 mX10_whatIs 76 [(3, .int x3), (4, .ref (69 + 2 * (x1).toNatClampNeg)), (5, .ref (6 + (x2).toNatClampNeg)), (6, .int (0 : Int32)), (7, .int (0 : Int32))] [] h14 Q)) ∧ (¬ (0 ≤ (h14.1 (69 + 2 * (x1).toNatClampNeg) 1)) → Q (-11 : Int32) h14)))) ∧ (¬ (x3 ≤ (1 : Int32)) → (∃ Q23, CtI 0 mX10_refuse [.ref 0, .int (-2 : Int32)] h14 Q23 ∧ ∀ (v25 : Int32) (h26 : Hp), Q23 v25 h26 → Q v25 h26)))))) ∧ (¬ v13 = 0 → (∃ Q28, CtI 0 mX10_refuse [.ref 0, .int (-1 : Int32)] h14 Q28 ∧ ∀ (v30 : Int32) (h31 : Hp), Q28 v30 h31 → Q v30 h31)))))))) : CtI 3 mX10_whatIs [.ref 0, .int x1, .int x2, .int x3] h Q := by
  refine Ct.of (by decide +kernel) (Nat.le_of_ble_eq_true rfl) ?_
  show GoI 3 mX10_whatIs 0 [(0, .ref 0), (1, .int x1), (2, .int x2), (3, .int x3)] [] h Q
  refine go_iload_n (pc2 := 1) dX10_whatIs_0 rfl rfl rfl ?_
  obtain ⟨Q1, hC2, k⟩ := k
  refine gcS_I (pc2 := 4) (dC := 0) (As := [.int x1]) (st := []) rfl dX10_whatIs_1 rfl w_939 ok_X10_noList w_940 rfl (by decide) (Nat.le_of_ble_eq_true rfl) hC2 (fun v3 h4 hq5 => ?_)
  have k := k v3 h4 hq5
  refine go_if_ne (pc2 := 7) (tgt := 18) dX10_whatIs_4 rfl (by decide) (fun c => ?_) (fun c => ?_)
  · have k := k.1 c
    refine go_aload_n (pc2 := 19) dX10_whatIs_18 rfl rfl rfl ?_
    refine go_iconst (pc2 := 20) (v := (-1 : Int32)) dX10_whatIs_19 rfl (by decide) ?_
    obtain ⟨Q6, hC7, k⟩ := k
    refine gcV_I (pc2 := 23) (dC := 0) (As := [.int (-1 : Int32)]) (st := []) rfl dX10_whatIs_20 rfl w_413 ok_X10_refuse vi_X10_refuse c_0 (by decide) rfl rfl rfl (by decide) (Nat.le_of_ble_eq_true rfl) hC7 (fun v8 h9 hq10 => ?_)
    have k := k v8 h9 hq10
    exact go_iret dX10_whatIs_23 ⟨_, rfl, rfl⟩ ⟨rfl, _, rfl, k⟩
  · have k := k.2 c
    refine go_aload_n (pc2 := 8) dX10_whatIs_7 rfl rfl rfl ?_
    refine gf_369 (pc2 := 11) rfl dX10_whatIs_8 rfl c_0 (fvs r_0_0) ?_
    refine go_iload_n (pc2 := 12) dX10_whatIs_11 rfl rfl rfl ?_
    obtain ⟨Q11, hC12, k⟩ := k
    refine gcVN_I (pc2 := 15) (dC := 0) (As := [.int x2]) (st := []) rfl dX10_whatIs_12 rfl w_621 ok_X5_noPlant vi_X5_noPlant c_1 (by decide) rfl rfl rfl (by decide) (Nat.le_of_ble_eq_true rfl) hC12 (fun v13 h14 hq15 => ?_)
    have k := k v13 h14 hq15
    refine go_if_eq (pc2 := 18) (tgt := 24) dX10_whatIs_15 rfl (by decide) (fun c => ?_) (fun c => ?_)
    · have k := k.1 c
      refine go_iload_n (pc2 := 25) dX10_whatIs_24 rfl rfl rfl ?_
      refine go_if_lt (pc2 := 28) (tgt := 33) dX10_whatIs_25 rfl (by decide) (fun c => ?_) (fun c => ?_)
      · have k := k.1 c
        refine go_aload_n (pc2 := 34) dX10_whatIs_33 rfl rfl rfl ?_
        refine go_bipush (pc2 := 36) (v := (-2 : Int32)) dX10_whatIs_34 rfl (by decide) ?_
        obtain ⟨Q16, hC17, k⟩ := k
        refine gcV_I (pc2 := 39) (dC := 0) (As := [.int (-2 : Int32)]) (st := []) rfl dX10_whatIs_36 rfl w_413 ok_X10_refuse vi_X10_refuse c_0 (by decide) rfl rfl rfl (by decide) (Nat.le_of_ble_eq_true rfl) hC17 (fun v18 h19 hq20 => ?_)
        have k := k v18 h19 hq20
        exact go_iret dX10_whatIs_39 ⟨_, rfl, rfl⟩ ⟨rfl, _, rfl, k⟩
      · have k := k.2 c
        refine go_iload_n (pc2 := 29) dX10_whatIs_28 rfl rfl rfl ?_
        refine go_iconst (pc2 := 30) (v := (1 : Int32)) dX10_whatIs_29 rfl (by decide) ?_
        refine go_icmp_le (pc2 := 33) (tgt := 40) dX10_whatIs_30 rfl (by decide) (fun c => ?_) (fun c => ?_)
        · have k := k.1 c
          refine go_aload_n (pc2 := 41) dX10_whatIs_40 rfl rfl rfl ?_
          refine gf_379 (pc2 := 44) rfl dX10_whatIs_41 rfl c_0 (fvs r_0_10) ?_
          refine go_iload_n (pc2 := 45) dX10_whatIs_44 rfl rfl rfl ?_
          obtain ⟨y21, k⟩ := k
          refine go_aaload (pc2 := 46) (t := 1) dX10_whatIs_45 rfl (by decide) c_66 y21 rfl (rfo_s (ra_66 _ (vp_lt y21)).1) ?_
          refine go_astore (pc2 := 48) (ls2 := [(0, .ref 0), (1, .int x1), (2, .int x2), (3, .int x3), (4, .ref (69 + 2 * (x1).toNatClampNeg))]) dX10_whatIs_46 rfl rfl rfl rfl rfl ?_
          refine go_aload (pc2 := 50) dX10_whatIs_48 rfl rfl ?_
          refine gf_338 (pc2 := 53) rfl dX10_whatIs_50 rfl (ra_66 _ (vp_lt y21)).2.1 fvi ?_
          refine go_if_ge (pc2 := 56) (tgt := 59) dX10_whatIs_53 rfl (by decide) (fun c => ?_) (fun c => ?_)
          · have k := k.1 c
            refine go_aload_n (pc2 := 60) dX10_whatIs_59 rfl rfl rfl ?_
            refine gf_369 (pc2 := 63) rfl dX10_whatIs_60 rfl c_0 (fvs r_0_0) ?_
            refine gf_119 (pc2 := 66) rfl dX10_whatIs_63 rfl c_1 (fvs r_1_4) ?_
            refine go_iload_n (pc2 := 67) dX10_whatIs_66 rfl rfl rfl ?_
            obtain ⟨y22, k⟩ := k
            refine go_aaload (pc2 := 68) (t := 0) dX10_whatIs_67 rfl (by decide) c_5 y22 rfl (rfo_s (ra_5 _ (vp_lt y22))) ?_
            refine go_astore (pc2 := 70) (ls2 := [(0, .ref 0), (1, .int x1), (2, .int x2), (3, .int x3), (4, .ref (69 + 2 * (x1).toNatClampNeg)), (5, .ref (6 + (x2).toNatClampNeg))]) dX10_whatIs_68 rfl rfl rfl rfl rfl ?_
            refine go_iconst (pc2 := 71) (v := (0 : Int32)) dX10_whatIs_70 rfl (by decide) ?_
            refine go_istore (pc2 := 73) (ls2 := [(0, .ref 0), (1, .int x1), (2, .int x2), (3, .int x3), (4, .ref (69 + 2 * (x1).toNatClampNeg)), (5, .ref (6 + (x2).toNatClampNeg)), (6, .int (0 : Int32))]) dX10_whatIs_71 rfl rfl rfl rfl rfl ?_
            refine go_iconst (pc2 := 74) (v := (0 : Int32)) dX10_whatIs_73 rfl (by decide) ?_
            refine go_istore (pc2 := 76) (ls2 := [(0, .ref 0), (1, .int x1), (2, .int x2), (3, .int x3), (4, .ref (69 + 2 * (x1).toNatClampNeg)), (5, .ref (6 + (x2).toNatClampNeg)), (6, .int (0 : Int32)), (7, .int (0 : Int32))]) dX10_whatIs_74 rfl rfl rfl rfl rfl ?_
            exact Go.pick [3, 4, 5, 6, 7] rfl k
          · have k := k.2 c
            refine go_bipush (pc2 := 58) (v := (-11 : Int32)) dX10_whatIs_56 rfl (by decide) ?_
            exact go_iret dX10_whatIs_58 ⟨_, rfl, rfl⟩ ⟨rfl, _, rfl, k⟩
        · have k := k.2 c
          refine go_aload_n (pc2 := 34) dX10_whatIs_33 rfl rfl rfl ?_
          refine go_bipush (pc2 := 36) (v := (-2 : Int32)) dX10_whatIs_34 rfl (by decide) ?_
          obtain ⟨Q23, hC24, k⟩ := k
          refine gcV_I (pc2 := 39) (dC := 0) (As := [.int (-2 : Int32)]) (st := []) rfl dX10_whatIs_36 rfl w_413 ok_X10_refuse vi_X10_refuse c_0 (by decide) rfl rfl rfl (by decide) (Nat.le_of_ble_eq_true rfl) hC24 (fun v25 h26 hq27 => ?_)
          have k := k v25 h26 hq27
          exact go_iret dX10_whatIs_39 ⟨_, rfl, rfl⟩ ⟨rfl, _, rfl, k⟩
    · have k := k.2 c
      refine go_aload_n (pc2 := 19) dX10_whatIs_18 rfl rfl rfl ?_
      refine go_iconst (pc2 := 20) (v := (-1 : Int32)) dX10_whatIs_19 rfl (by decide) ?_
      obtain ⟨Q28, hC29, k⟩ := k
      refine gcV_I (pc2 := 23) (dC := 0) (As := [.int (-1 : Int32)]) (st := []) rfl dX10_whatIs_20 rfl w_413 ok_X10_refuse vi_X10_refuse c_0 (by decide) rfl rfl rfl (by decide) (Nat.le_of_ble_eq_true rfl) hC29 (fun v30 h31 hq32 => ?_)
      have k := k v30 h31 hq32
      exact go_iret dX10_whatIs_23 ⟨_, rfl, rfl⟩ ⟨rfl, _, rfl, k⟩
theorem b_X10_whatIs_76 {x3 : Int32} {x4 : Nat} {x5 : Nat} {x6 : Int32} {x7 : Int32} {h : Hp} {Q : Int32 → Hp → Prop} (hx4 : isLn x4) (hx5 : isPl x5) (k : (((if x3 = 0 then (6 : Int32) else (10 : Int32)) ≤ x7 → Q x6 h) ∧ (¬ ((if x3 = 0 then (6 : Int32) else (10 : Int32)) ≤ x7) → ((¬ x3 = 0 → GoI 3 mX10_whatIs 106 [(3, .int x3), (4, .ref x4), (5, .ref x5), (6, .int x6), (7, .int x7)] [.int (h.1 x5 0)] h Q) ∧ (x3 = 0 → GoI 3 mX10_whatIs 106 [(3, .int x3), (4, .ref x4), (5, .ref x5), (6, .int x6), (7, .int x7)] [.int x7] h Q))))) : GoI 3 mX10_whatIs 76 [(3, .int x3), (4, .ref x4), (5, .ref x5), (6, .int x6), (7, .int x7)] [] h Q := by
  refine go_iload (pc2 := 78) dX10_whatIs_76 rfl rfl ?_
  refine go_iload_n (pc2 := 79) dX10_whatIs_78 rfl rfl rfl ?_
  have J : GoI 3 mX10_whatIs 89 [(3, .int x3), (4, .ref x4), (5, .ref x5), (6, .int x6), (7, .int x7)] [.int (if x3 = 0 then (6 : Int32) else (10 : Int32)), .int x7] h Q := by
    refine go_icmp_ge (pc2 := 92) (tgt := 156) dX10_whatIs_89 rfl (by decide) (fun c => ?_) (fun c => ?_)
    · have k := k.1 c
      refine go_iload (pc2 := 158) dX10_whatIs_156 rfl rfl ?_
      exact go_iret dX10_whatIs_158 ⟨_, rfl, rfl⟩ ⟨rfl, _, rfl, k⟩
    · have k := k.2 c
      refine go_iload_n (pc2 := 93) dX10_whatIs_92 rfl rfl rfl ?_
      refine go_if_ne (pc2 := 96) (tgt := 101) dX10_whatIs_93 rfl (by decide) (fun c => ?_) (fun c => ?_)
      · have k := k.1 c
        refine go_aload (pc2 := 103) dX10_whatIs_101 rfl rfl ?_
        refine gf_45 (pc2 := 106) rfl dX10_whatIs_103 rfl hx5 fvi ?_
        exact k
      · have k := k.2 c
        refine go_iload (pc2 := 98) dX10_whatIs_96 rfl rfl ?_
        refine go_goto (tgt := 106) dX10_whatIs_98 (by decide) ?_
        exact k
  refine go_if_ne (pc2 := 82) (tgt := 87) dX10_whatIs_79 rfl (by decide) (fun c => ?_) (fun c => ?_)
  · rw [if_neg c] at J
    exact go_bipush (pc2 := 89) dX10_whatIs_87 rfl (by decide) J
  · rw [if_pos c] at J
    exact go_bipush (pc2 := 84) dX10_whatIs_82 rfl (by decide) (go_goto (tgt := 89) dX10_whatIs_84 (by decide) J)
theorem b_X10_whatIs_106 {x3 : Int32} {x4 : Nat} {x5 : Nat} {x6 : Int32} {x7 : Int32} {s0 : Int32} {h : Hp} {Q : Int32 → Hp → Prop} (hx4 : isLn x4) (hx5 : isPl x5) (k : ((¬ x3 = 0 → GoI 3 mX10_whatIs 122 [(3, .int x3), (4, .ref x4), (5, .ref x5), (6, .int x6), (7, .int x7), (8, .int s0)] [.int x7] h Q) ∧ (x3 = 0 → GoI 3 mX10_whatIs 122 [(3, .int x3), (4, .ref x4), (5, .ref x5), (6, .int x6), (7, .int x7), (8, .int s0)] [.int (h.1 x5 1)] h Q))) : GoI 3 mX10_whatIs 106 [(3, .int x3), (4, .ref x4), (5, .ref x5), (6, .int x6), (7, .int x7)] [.int s0] h Q := by
  refine go_istore (pc2 := 108) (ls2 := [(3, .int x3), (4, .ref x4), (5, .ref x5), (6, .int x6), (7, .int x7), (8, .int s0)]) dX10_whatIs_106 rfl rfl rfl rfl rfl ?_
  refine go_iload_n (pc2 := 109) dX10_whatIs_108 rfl rfl rfl ?_
  refine go_if_ne (pc2 := 112) (tgt := 120) dX10_whatIs_109 rfl (by decide) (fun c => ?_) (fun c => ?_)
  · have k := k.1 c
    refine go_iload (pc2 := 122) dX10_whatIs_120 rfl rfl ?_
    exact k
  · have k := k.2 c
    refine go_aload (pc2 := 114) dX10_whatIs_112 rfl rfl ?_
    refine gf_47 (pc2 := 117) rfl dX10_whatIs_114 rfl hx5 fvi ?_
    refine go_goto (tgt := 122) dX10_whatIs_117 (by decide) ?_
    exact k
theorem b_X10_whatIs_122 {x3 : Int32} {x4 : Nat} {x5 : Nat} {x6 : Int32} {x7 : Int32} {x8 : Int32} {s0 : Int32} {h : Hp} {Q : Int32 → Hp → Prop} (hx4 : isLn x4) (hx5 : isPl x5) (k : (∃ Q1, CtI 2 mX1_tellsStarts [.ref x4, .int x8, .int s0, .int (h.1 x5 6)] h Q1 ∧ ∀ (v3 : Int32) (h4 : Hp), Q1 v3 h4 → ((v3 = 0 → GoI 3 mX10_whatIs 150 [(3, .int x3), (4, .ref x4), (5, .ref x5), (6, .int x6), (7, .int x7)] [] h4 Q) ∧ (¬ v3 = 0 → GoI 3 mX10_whatIs 150 [(3, .int x3), (4, .ref x4), (5, .ref x5), (6, .int (x6 ||| ((1 : Int32) <<< (x7 &&& 31)))), (7, .int x7)] [] h4 Q)))) : GoI 3 mX10_whatIs 122 [(3, .int x3), (4, .ref x4), (5, .ref x5), (6, .int x6), (7, .int x7), (8, .int x8)] [.int s0] h Q := by
  refine go_istore (pc2 := 124) (ls2 := [(3, .int x3), (4, .ref x4), (5, .ref x5), (6, .int x6), (7, .int x7), (8, .int x8), (9, .int s0)]) dX10_whatIs_122 rfl rfl rfl rfl rfl ?_
  refine go_aload (pc2 := 126) dX10_whatIs_124 rfl rfl ?_
  refine go_iload (pc2 := 128) dX10_whatIs_126 rfl rfl ?_
  refine go_iload (pc2 := 130) dX10_whatIs_128 rfl rfl ?_
  refine go_aload (pc2 := 132) dX10_whatIs_130 rfl rfl ?_
  refine gf_63 (pc2 := 135) rfl dX10_whatIs_132 rfl hx5 fvi ?_
  obtain ⟨Q1, hC2, k⟩ := k
  refine gcVN_I (pc2 := 138) (dC := 2) (As := [.int x8, .int s0, .int (h.1 x5 6)]) (st := []) rfl dX10_whatIs_135 rfl w_950 ok_X1_tellsStarts vi_X1_tellsStarts hx4.1 (by decide) rfl rfl rfl (by decide) (Nat.le_of_ble_eq_true rfl) hC2 (fun v3 h4 hq5 => ?_)
  have k := k v3 h4 hq5
  refine go_if_eq (pc2 := 141) (tgt := 150) dX10_whatIs_138 rfl (by decide) (fun c => ?_) (fun c => ?_)
  · have k := k.1 c
    exact Go.pick [0, 1, 2, 3, 4] rfl k
  · have k := k.2 c
    refine go_iload (pc2 := 143) dX10_whatIs_141 rfl rfl ?_
    refine go_iconst (pc2 := 144) (v := (1 : Int32)) dX10_whatIs_143 rfl (by decide) ?_
    refine go_iload (pc2 := 146) dX10_whatIs_144 rfl rfl ?_
    refine go_ishl (pc2 := 147) dX10_whatIs_146 rfl ?_
    refine go_ior (pc2 := 148) dX10_whatIs_147 rfl ?_
    refine go_istore (pc2 := 150) (ls2 := [(3, .int x3), (4, .ref x4), (5, .ref x5), (6, .int (x6 ||| ((1 : Int32) <<< (x7 &&& 31)))), (7, .int x7), (8, .int x8), (9, .int s0)]) dX10_whatIs_148 rfl rfl rfl rfl rfl ?_
    exact Go.pick [0, 1, 2, 3, 4] rfl k
theorem b_X10_whatIs_150 {x3 : Int32} {x4 : Nat} {x5 : Nat} {x6 : Int32} {x7 : Int32} {h : Hp} {Q : Int32 → Hp → Prop} (hx4 : isLn x4) (hx5 : isPl x5) (k : GoI 3 mX10_whatIs 76 [(3, .int x3), (4, .ref x4), (5, .ref x5), (6, .int x6), (7, .int (x7 + 1))] [] h Q) : GoI 3 mX10_whatIs 150 [(3, .int x3), (4, .ref x4), (5, .ref x5), (6, .int x6), (7, .int x7)] [] h Q := by
  refine go_iinc (pc2 := 153) (ls2 := [(3, .int x3), (4, .ref x4), (5, .ref x5), (6, .int x6), (7, .int (x7 + 1))]) (v := (x7 + 1)) dX10_whatIs_150 rfl rfl rfl rfl rfl rfl rfl ?_
  refine go_goto (tgt := 76) dX10_whatIs_153 (by decide) ?_
  exact k
theorem e_X10_lots {x1 : Int32} {x2 : Int32} {x3 : Int32} {h : Hp} {Q : Int32 → Hp → Prop}  (k : (((1 : Int32) ≤ x1 → ((x1 ≤ (20 : Int32) → ((x3 < 0 → (∃ Q1, CtI 0 mX10_refuse [.ref 0, .int (-2 : Int32)] h Q1 ∧ ∀ (v3 : Int32) (h4 : Hp), Q1 v3 h4 → Q v3 h4)) ∧ (¬ (x3 < 0) → ((x3 ≤ (1 : Int32) → GoI 5 mX10_lots 53 [(0, .ref 0), (1, .int x1), (3, .int x3), (4, .int x2), (5, .int (0 : Int32)), (6, .int (0 : Int32)), (7, .int (0 : Int32))] [] h Q) ∧ (¬ (x3 ≤ (1 : Int32)) → (∃ Q6, CtI 0 mX10_refuse [.ref 0, .int (-2 : Int32)] h Q6 ∧ ∀ (v8 : Int32) (h9 : Hp), Q6 v8 h9 → Q v8 h9)))))) ∧ (¬ (x1 ≤ (20 : Int32)) → (∃ Q11, CtI 0 mX10_refuse [.ref 0, .int (-6 : Int32)] h Q11 ∧ ∀ (v13 : Int32) (h14 : Hp), Q11 v13 h14 → Q v13 h14)))) ∧ (¬ ((1 : Int32) ≤ x1) → (∃ Q16, CtI 0 mX10_refuse [.ref 0, .int (-4 : Int32)] h Q16 ∧ ∀ (v18 : Int32) (h19 : Hp), Q16 v18 h19 → Q v18 h19)))) : CtI 5 mX10_lots [.ref 0, .int x1, .int x2, .int x3] h Q := by
  refine Ct.of (by decide +kernel) (Nat.le_of_ble_eq_true rfl) ?_
  show GoI 5 mX10_lots 0 [(0, .ref 0), (1, .int x1), (2, .int x2), (3, .int x3)] [] h Q
  refine go_iload_n (pc2 := 1) dX10_lots_0 rfl rfl rfl ?_
  refine go_iconst (pc2 := 2) (v := (1 : Int32)) dX10_lots_1 rfl (by decide) ?_
  refine go_icmp_ge (pc2 := 5) (tgt := 12) dX10_lots_2 rfl (by decide) (fun c => ?_) (fun c => ?_)
  · have k := k.1 c
    refine go_iload_n (pc2 := 13) dX10_lots_12 rfl rfl rfl ?_
    refine go_bipush (pc2 := 15) (v := (20 : Int32)) dX10_lots_13 rfl (by decide) ?_
    refine go_icmp_le (pc2 := 18) (tgt := 25) dX10_lots_15 rfl (by decide) (fun c => ?_) (fun c => ?_)
    · have k := k.1 c
      refine go_iload_n (pc2 := 26) dX10_lots_25 rfl rfl rfl ?_
      refine go_if_lt (pc2 := 29) (tgt := 34) dX10_lots_26 rfl (by decide) (fun c => ?_) (fun c => ?_)
      · have k := k.1 c
        refine go_aload_n (pc2 := 35) dX10_lots_34 rfl rfl rfl ?_
        refine go_bipush (pc2 := 37) (v := (-2 : Int32)) dX10_lots_35 rfl (by decide) ?_
        obtain ⟨Q1, hC2, k⟩ := k
        refine gcV_I (pc2 := 40) (dC := 0) (As := [.int (-2 : Int32)]) (st := []) rfl dX10_lots_37 rfl w_413 ok_X10_refuse vi_X10_refuse c_0 (by decide) rfl rfl rfl (by decide) (Nat.le_of_ble_eq_true rfl) hC2 (fun v3 h4 hq5 => ?_)
        have k := k v3 h4 hq5
        exact go_iret dX10_lots_40 ⟨_, rfl, rfl⟩ ⟨rfl, _, rfl, k⟩
      · have k := k.2 c
        refine go_iload_n (pc2 := 30) dX10_lots_29 rfl rfl rfl ?_
        refine go_iconst (pc2 := 31) (v := (1 : Int32)) dX10_lots_30 rfl (by decide) ?_
        refine go_icmp_le (pc2 := 34) (tgt := 41) dX10_lots_31 rfl (by decide) (fun c => ?_) (fun c => ?_)
        · have k := k.1 c
          refine go_iload_n (pc2 := 42) dX10_lots_41 rfl rfl rfl ?_
          refine go_istore (pc2 := 44) (ls2 := [(0, .ref 0), (1, .int x1), (2, .int x2), (3, .int x3), (4, .int x2)]) dX10_lots_42 rfl rfl rfl rfl rfl ?_
          refine go_iconst (pc2 := 45) (v := (0 : Int32)) dX10_lots_44 rfl (by decide) ?_
          refine go_istore (pc2 := 47) (ls2 := [(0, .ref 0), (1, .int x1), (2, .int x2), (3, .int x3), (4, .int x2), (5, .int (0 : Int32))]) dX10_lots_45 rfl rfl rfl rfl rfl ?_
          refine go_iconst (pc2 := 48) (v := (0 : Int32)) dX10_lots_47 rfl (by decide) ?_
          refine go_istore (pc2 := 50) (ls2 := [(0, .ref 0), (1, .int x1), (2, .int x2), (3, .int x3), (4, .int x2), (5, .int (0 : Int32)), (6, .int (0 : Int32))]) dX10_lots_48 rfl rfl rfl rfl rfl ?_
          refine go_iconst (pc2 := 51) (v := (0 : Int32)) dX10_lots_50 rfl (by decide) ?_
          refine go_istore (pc2 := 53) (ls2 := [(0, .ref 0), (1, .int x1), (2, .int x2), (3, .int x3), (4, .int x2), (5, .int (0 : Int32)), (6, .int (0 : Int32)), (7, .int (0 : Int32))]) dX10_lots_51 rfl rfl rfl rfl rfl ?_
          exact Go.pick [0, 1, 3, 4, 5, 6, 7] rfl k
        · have k := k.2 c
          refine go_aload_n (pc2 := 35) dX10_lots_34 rfl rfl rfl ?_
          refine go_bipush (pc2 := 37) (v := (-2 : Int32)) dX10_lots_35 rfl (by decide) ?_
          obtain ⟨Q6, hC7, k⟩ := k
          refine gcV_I (pc2 := 40) (dC := 0) (As := [.int (-2 : Int32)]) (st := []) rfl dX10_lots_37 rfl w_413 ok_X10_refuse vi_X10_refuse c_0 (by decide) rfl rfl rfl (by decide) (Nat.le_of_ble_eq_true rfl) hC7 (fun v8 h9 hq10 => ?_)
          have k := k v8 h9 hq10
          exact go_iret dX10_lots_40 ⟨_, rfl, rfl⟩ ⟨rfl, _, rfl, k⟩
    · have k := k.2 c
      refine go_aload_n (pc2 := 19) dX10_lots_18 rfl rfl rfl ?_
      refine go_bipush (pc2 := 21) (v := (-6 : Int32)) dX10_lots_19 rfl (by decide) ?_
      obtain ⟨Q11, hC12, k⟩ := k
      refine gcV_I (pc2 := 24) (dC := 0) (As := [.int (-6 : Int32)]) (st := []) rfl dX10_lots_21 rfl w_413 ok_X10_refuse vi_X10_refuse c_0 (by decide) rfl rfl rfl (by decide) (Nat.le_of_ble_eq_true rfl) hC12 (fun v13 h14 hq15 => ?_)
      have k := k v13 h14 hq15
      exact go_iret dX10_lots_24 ⟨_, rfl, rfl⟩ ⟨rfl, _, rfl, k⟩
  · have k := k.2 c
    refine go_aload_n (pc2 := 6) dX10_lots_5 rfl rfl rfl ?_
    refine go_bipush (pc2 := 8) (v := (-4 : Int32)) dX10_lots_6 rfl (by decide) ?_
    obtain ⟨Q16, hC17, k⟩ := k
    refine gcV_I (pc2 := 11) (dC := 0) (As := [.int (-4 : Int32)]) (st := []) rfl dX10_lots_8 rfl w_413 ok_X10_refuse vi_X10_refuse c_0 (by decide) rfl rfl rfl (by decide) (Nat.le_of_ble_eq_true rfl) hC17 (fun v18 h19 hq20 => ?_)
    have k := k v18 h19 hq20
    exact go_iret dX10_lots_11 ⟨_, rfl, rfl⟩ ⟨rfl, _, rfl, k⟩
theorem b_X10_lots_53 {x1 : Int32} {x3 : Int32} {x4 : Int32} {x5 : Int32} {x6 : Int32} {x7 : Int32} {h : Hp} {Q : Int32 → Hp → Prop}  (k : ((x1 ≤ x7 → ((¬ x3 = 0 → Q x6 h) ∧ (x3 = 0 → Q x5 h))) ∧ (¬ (x1 ≤ x7) → (∃ Q1, CtV 1 mX7_load [.ref 38] h Q1 ∧ ∀ h4 : Hp, Q1 h4 → GoI 5 mX10_lots 69 [(0, .ref 0), (1, .int x1), (3, .int x3), (4, .int x4), (5, .int x5), (6, .int x6), (7, .int x7), (8, .int (0 : Int32))] [] h4 Q)))) : GoI 5 mX10_lots 53 [(0, .ref 0), (1, .int x1), (3, .int x3), (4, .int x4), (5, .int x5), (6, .int x6), (7, .int x7)] [] h Q := by
  refine go_iload (pc2 := 55) dX10_lots_53 rfl rfl ?_
  refine go_iload_n (pc2 := 56) dX10_lots_55 rfl rfl rfl ?_
  refine go_icmp_ge (pc2 := 59) (tgt := 152) dX10_lots_56 rfl (by decide) (fun c => ?_) (fun c => ?_)
  · have k := k.1 c
    refine go_iload_n (pc2 := 153) dX10_lots_152 rfl rfl rfl ?_
    refine go_if_ne (pc2 := 156) (tgt := 161) dX10_lots_153 rfl (by decide) (fun c => ?_) (fun c => ?_)
    · have k := k.1 c
      refine go_iload (pc2 := 163) dX10_lots_161 rfl rfl ?_
      exact go_iret dX10_lots_163 ⟨_, rfl, rfl⟩ ⟨rfl, _, rfl, k⟩
    · have k := k.2 c
      refine go_iload (pc2 := 158) dX10_lots_156 rfl rfl ?_
      refine go_goto (tgt := 163) dX10_lots_158 (by decide) ?_
      exact go_iret dX10_lots_163 ⟨_, rfl, rfl⟩ ⟨rfl, _, rfl, k⟩
  · have k := k.2 c
    refine go_aload_n (pc2 := 60) dX10_lots_59 rfl rfl rfl ?_
    refine gf_376 (pc2 := 63) rfl dX10_lots_60 rfl c_0 (fvs r_0_7) ?_
    obtain ⟨Q1, hC2, k⟩ := k
    refine gcVN_V (pc2 := 66) (dC := 1) (As := []) (st := []) rfl dX10_lots_63 rfl w_711 ok_X7_load vi_X7_load c_38 (by decide) rfl rfl rfl (by decide) (Nat.le_of_ble_eq_true rfl) hC2 (fun h4 hq5 => ?_)
    have k := k h4 hq5
    refine go_iconst (pc2 := 67) (v := (0 : Int32)) dX10_lots_66 rfl (by decide) ?_
    refine go_istore (pc2 := 69) (ls2 := [(0, .ref 0), (1, .int x1), (3, .int x3), (4, .int x4), (5, .int x5), (6, .int x6), (7, .int x7), (8, .int (0 : Int32))]) dX10_lots_67 rfl rfl rfl rfl rfl ?_
    exact k
theorem b_X10_lots_69 {x1 : Int32} {x3 : Int32} {x4 : Int32} {x5 : Int32} {x6 : Int32} {x7 : Int32} {x8 : Int32} {h : Hp} {Q : Int32 → Hp → Prop}  (k : (((h.1 1 0) ≤ x8 → (∃ Q1, CtI 4 mX7_solve [.ref 38] h Q1 ∧ ∀ (v3 : Int32) (h4 : Hp), Q1 v3 h4 → ((v3 < 0 → GoI 5 mX10_lots 146 [(0, .ref 0), (1, .int x1), (3, .int x3), (4, .int x4), (5, .int x5), (6, .int x6), (7, .int x7)] [] h4 Q) ∧ (¬ (v3 < 0) → GoI 5 mX10_lots 146 [(0, .ref 0), (1, .int x1), (3, .int x3), (4, .int x4), (5, .int (x5 + 1)), (6, .int (x6 + v3)), (7, .int x7)] [] h4 Q)))) ∧ (¬ ((h.1 1 0) ≤ x8) → (vp_in x8 5 ∧ (∀ g7 : Hp, g7 = (ui h 39 (x8).toNatClampNeg (((((x4 * (1664525 : Int32)) + (1013904223 : Int32)) &&& (2147483647 : Int32)) / (256 : Int32)) - ((((x4 * (1664525 : Int32)) + (1013904223 : Int32)) &&& (2147483647 : Int32)) / (256 : Int32)) / (100 : Int32) * (100 : Int32))) → GoI 5 mX10_lots 69 [(0, .ref 0), (1, .int x1), (3, .int x3), (4, .int ((x4 * (1664525 : Int32)) + (1013904223 : Int32))), (5, .int x5), (6, .int x6), (7, .int x7), (8, .int (x8 + 1))] [] g7 Q))))) : GoI 5 mX10_lots 69 [(0, .ref 0), (1, .int x1), (3, .int x3), (4, .int x4), (5, .int x5), (6, .int x6), (7, .int x7), (8, .int x8)] [] h Q := by
  refine go_iload (pc2 := 71) dX10_lots_69 rfl rfl ?_
  refine go_aload_n (pc2 := 72) dX10_lots_71 rfl rfl rfl ?_
  refine gf_369 (pc2 := 75) rfl dX10_lots_72 rfl c_0 (fvs r_0_0) ?_
  refine gf_101 (pc2 := 78) rfl dX10_lots_75 rfl c_1 fvi ?_
  refine go_icmp_ge (pc2 := 81) (tgt := 122) dX10_lots_78 rfl (by decide) (fun c => ?_) (fun c => ?_)
  · have k := k.1 c
    refine go_aload_n (pc2 := 123) dX10_lots_122 rfl rfl rfl ?_
    refine gf_376 (pc2 := 126) rfl dX10_lots_123 rfl c_0 (fvs r_0_7) ?_
    obtain ⟨Q1, hC2, k⟩ := k
    refine gcVN_I (pc2 := 129) (dC := 4) (As := []) (st := []) rfl dX10_lots_126 rfl w_716 ok_X7_solve vi_X7_solve c_38 (by decide) rfl rfl rfl (by decide) (Nat.le_of_ble_eq_true rfl) hC2 (fun v3 h4 hq5 => ?_)
    have k := k v3 h4 hq5
    refine go_istore (pc2 := 131) (ls2 := [(0, .ref 0), (1, .int x1), (3, .int x3), (4, .int x4), (5, .int x5), (6, .int x6), (7, .int x7), (8, .int v3)]) dX10_lots_129 rfl rfl rfl rfl rfl ?_
    refine go_iload (pc2 := 133) dX10_lots_131 rfl rfl ?_
    refine go_if_lt (pc2 := 136) (tgt := 146) dX10_lots_133 rfl (by decide) (fun c => ?_) (fun c => ?_)
    · have k := k.1 c
      exact Go.pick [0, 1, 2, 3, 4, 5, 6] rfl k
    · have k := k.2 c
      refine go_iinc (pc2 := 139) (ls2 := [(0, .ref 0), (1, .int x1), (3, .int x3), (4, .int x4), (5, .int (x5 + 1)), (6, .int x6), (7, .int x7), (8, .int v3)]) (v := (x5 + 1)) dX10_lots_136 rfl rfl rfl rfl rfl rfl rfl ?_
      refine go_iload (pc2 := 141) dX10_lots_139 rfl rfl ?_
      refine go_iload (pc2 := 143) dX10_lots_141 rfl rfl ?_
      refine go_iadd (pc2 := 144) dX10_lots_143 rfl ?_
      refine go_istore (pc2 := 146) (ls2 := [(0, .ref 0), (1, .int x1), (3, .int x3), (4, .int x4), (5, .int (x5 + 1)), (6, .int (x6 + v3)), (7, .int x7), (8, .int v3)]) dX10_lots_144 rfl rfl rfl rfl rfl ?_
      exact Go.pick [0, 1, 2, 3, 4, 5, 6] rfl k
  · have k := k.2 c
    refine go_iload (pc2 := 83) dX10_lots_81 rfl rfl ?_
    refine go_ldcw (pc2 := 86) dX10_lots_83 rfl rfl w_959 ?_
    refine go_imul (pc2 := 87) dX10_lots_86 rfl ?_
    refine go_ldcw (pc2 := 90) dX10_lots_87 rfl rfl w_960 ?_
    refine go_iadd (pc2 := 91) dX10_lots_90 rfl ?_
    refine go_istore (pc2 := 93) (ls2 := [(0, .ref 0), (1, .int x1), (3, .int x3), (4, .int ((x4 * (1664525 : Int32)) + (1013904223 : Int32))), (5, .int x5), (6, .int x6), (7, .int x7), (8, .int x8)]) dX10_lots_91 rfl rfl rfl rfl rfl ?_
    refine go_aload_n (pc2 := 94) dX10_lots_93 rfl rfl rfl ?_
    refine gf_376 (pc2 := 97) rfl dX10_lots_94 rfl c_0 (fvs r_0_7) ?_
    refine gf_236 (pc2 := 100) rfl dX10_lots_97 rfl c_38 (fvs r_38_2) ?_
    refine go_iload (pc2 := 102) dX10_lots_100 rfl rfl ?_
    refine go_iload (pc2 := 104) dX10_lots_102 rfl rfl ?_
    refine go_ldcw (pc2 := 107) dX10_lots_104 rfl rfl w_961 ?_
    refine go_iand (pc2 := 108) dX10_lots_107 rfl ?_
    refine go_sipush (pc2 := 111) (v := (256 : Int32)) dX10_lots_108 rfl (by decide) ?_
    refine go_idiv (pc2 := 112) dX10_lots_111 rfl (by decide) ?_
    refine go_bipush (pc2 := 114) (v := (100 : Int32)) dX10_lots_112 rfl (by decide) ?_
    refine go_irem (pc2 := 115) dX10_lots_114 rfl (by decide) ?_
    obtain ⟨y6, k⟩ := k
    refine go_iastore (pc2 := 116) (j := (x8).toNatClampNeg) dX10_lots_115 rfl c_39 y6 rfl ?_
    obtain ⟨g7, eg7⟩ : ∃ y : Hp, y = (ui h 39 (x8).toNatClampNeg (((((x4 * (1664525 : Int32)) + (1013904223 : Int32)) &&& (2147483647 : Int32)) / (256 : Int32)) - ((((x4 * (1664525 : Int32)) + (1013904223 : Int32)) &&& (2147483647 : Int32)) / (256 : Int32)) / (100 : Int32) * (100 : Int32))) := ⟨_, rfl⟩
    rw [← eg7]
    have k := k g7 eg7
    refine go_iinc (pc2 := 119) (ls2 := [(0, .ref 0), (1, .int x1), (3, .int x3), (4, .int ((x4 * (1664525 : Int32)) + (1013904223 : Int32))), (5, .int x5), (6, .int x6), (7, .int x7), (8, .int (x8 + 1))]) (v := (x8 + 1)) dX10_lots_116 rfl rfl rfl rfl rfl rfl rfl ?_
    refine go_goto (tgt := 69) dX10_lots_119 (by decide) ?_
    exact k
theorem b_X10_lots_146 {x1 : Int32} {x3 : Int32} {x4 : Int32} {x5 : Int32} {x6 : Int32} {x7 : Int32} {h : Hp} {Q : Int32 → Hp → Prop}  (k : GoI 5 mX10_lots 53 [(0, .ref 0), (1, .int x1), (3, .int x3), (4, .int x4), (5, .int x5), (6, .int x6), (7, .int (x7 + 1))] [] h Q) : GoI 5 mX10_lots 146 [(0, .ref 0), (1, .int x1), (3, .int x3), (4, .int x4), (5, .int x5), (6, .int x6), (7, .int x7)] [] h Q := by
  refine go_iinc (pc2 := 149) (ls2 := [(0, .ref 0), (1, .int x1), (3, .int x3), (4, .int x4), (5, .int x5), (6, .int x6), (7, .int (x7 + 1))]) (v := (x7 + 1)) dX10_lots_146 rfl rfl rfl rfl rfl rfl rfl ?_
  refine go_goto (tgt := 53) dX10_lots_149 (by decide) ?_
  exact k
theorem e_X10_list {x1 : Int32} {x2 : Int32} {h : Hp} {Q : Int32 → Hp → Prop}  (k : (∃ Q1, CtI 0 mX10_noList [.int x1] h Q1 ∧ ∀ (v3 : Int32) (h4 : Hp), Q1 v3 h4 → ((v3 = 0 → ((x2 ≤ (20 : Int32) → ((0 ≤ x2 → (vp_in x1 4 ∧ (∃ Q7, CtV 1 mX1_make [.ref (69 + 2 * (x1).toNatClampNeg), .int x2] h4 Q7 ∧ ∀ h10 : Hp, Q7 h10 → Q (1 : Int32) h10))) ∧ (¬ (0 ≤ x2) → Q (-14 : Int32) h4))) ∧ (¬ (x2 ≤ (20 : Int32)) → (∃ Q12, CtI 0 mX10_refuse [.ref 0, .int (-6 : Int32)] h4 Q12 ∧ ∀ (v14 : Int32) (h15 : Hp), Q12 v14 h15 → Q v14 h15)))) ∧ (¬ v3 = 0 → (∃ Q17, CtI 0 mX10_refuse [.ref 0, .int (-1 : Int32)] h4 Q17 ∧ ∀ (v19 : Int32) (h20 : Hp), Q17 v19 h20 → Q v19 h20))))) : CtI 2 mX10_list [.ref 0, .int x1, .int x2] h Q := by
  refine Ct.of (by decide +kernel) (Nat.le_of_ble_eq_true rfl) ?_
  show GoI 2 mX10_list 0 [(0, .ref 0), (1, .int x1), (2, .int x2)] [] h Q
  refine go_iload_n (pc2 := 1) dX10_list_0 rfl rfl rfl ?_
  obtain ⟨Q1, hC2, k⟩ := k
  refine gcS_I (pc2 := 4) (dC := 0) (As := [.int x1]) (st := []) rfl dX10_list_1 rfl w_939 ok_X10_noList w_940 rfl (by decide) (Nat.le_of_ble_eq_true rfl) hC2 (fun v3 h4 hq5 => ?_)
  have k := k v3 h4 hq5
  refine go_if_eq (pc2 := 7) (tgt := 13) dX10_list_4 rfl (by decide) (fun c => ?_) (fun c => ?_)
  · have k := k.1 c
    refine go_iload_n (pc2 := 14) dX10_list_13 rfl rfl rfl ?_
    refine go_bipush (pc2 := 16) (v := (20 : Int32)) dX10_list_14 rfl (by decide) ?_
    refine go_icmp_le (pc2 := 19) (tgt := 26) dX10_list_16 rfl (by decide) (fun c => ?_) (fun c => ?_)
    · have k := k.1 c
      refine go_iload_n (pc2 := 27) dX10_list_26 rfl rfl rfl ?_
      refine go_if_ge (pc2 := 30) (tgt := 33) dX10_list_27 rfl (by decide) (fun c => ?_) (fun c => ?_)
      · have k := k.1 c
        refine go_aload_n (pc2 := 34) dX10_list_33 rfl rfl rfl ?_
        refine gf_379 (pc2 := 37) rfl dX10_list_34 rfl c_0 (fvs r_0_10) ?_
        refine go_iload_n (pc2 := 38) dX10_list_37 rfl rfl rfl ?_
        obtain ⟨y6, k⟩ := k
        refine go_aaload (pc2 := 39) (t := 1) dX10_list_38 rfl (by decide) c_66 y6 rfl (rfo_s (ra_66 _ (vp_lt y6)).1) ?_
        refine go_iload_n (pc2 := 40) dX10_list_39 rfl rfl rfl ?_
        obtain ⟨Q7, hC8, k⟩ := k
        refine gcVN_V (pc2 := 43) (dC := 1) (As := [.int x2]) (st := []) rfl dX10_list_40 rfl w_966 ok_X1_make vi_X1_make (ra_66 _ (vp_lt y6)).2.1 (by decide) rfl rfl rfl (by decide) (Nat.le_of_ble_eq_true rfl) hC8 (fun h10 hq11 => ?_)
        have k := k h10 hq11
        refine go_iconst (pc2 := 44) (v := (1 : Int32)) dX10_list_43 rfl (by decide) ?_
        exact go_iret dX10_list_44 ⟨_, rfl, rfl⟩ ⟨rfl, _, rfl, k⟩
      · have k := k.2 c
        refine go_bipush (pc2 := 32) (v := (-14 : Int32)) dX10_list_30 rfl (by decide) ?_
        exact go_iret dX10_list_32 ⟨_, rfl, rfl⟩ ⟨rfl, _, rfl, k⟩
    · have k := k.2 c
      refine go_aload_n (pc2 := 20) dX10_list_19 rfl rfl rfl ?_
      refine go_bipush (pc2 := 22) (v := (-6 : Int32)) dX10_list_20 rfl (by decide) ?_
      obtain ⟨Q12, hC13, k⟩ := k
      refine gcV_I (pc2 := 25) (dC := 0) (As := [.int (-6 : Int32)]) (st := []) rfl dX10_list_22 rfl w_413 ok_X10_refuse vi_X10_refuse c_0 (by decide) rfl rfl rfl (by decide) (Nat.le_of_ble_eq_true rfl) hC13 (fun v14 h15 hq16 => ?_)
      have k := k v14 h15 hq16
      exact go_iret dX10_list_25 ⟨_, rfl, rfl⟩ ⟨rfl, _, rfl, k⟩
  · have k := k.2 c
    refine go_aload_n (pc2 := 8) dX10_list_7 rfl rfl rfl ?_
    refine go_iconst (pc2 := 9) (v := (-1 : Int32)) dX10_list_8 rfl (by decide) ?_
    obtain ⟨Q17, hC18, k⟩ := k
    refine gcV_I (pc2 := 12) (dC := 0) (As := [.int (-1 : Int32)]) (st := []) rfl dX10_list_9 rfl w_413 ok_X10_refuse vi_X10_refuse c_0 (by decide) rfl rfl rfl (by decide) (Nat.le_of_ble_eq_true rfl) hC18 (fun v19 h20 hq21 => ?_)
    have k := k v19 h20 hq21
    exact go_iret dX10_list_12 ⟨_, rfl, rfl⟩ ⟨rfl, _, rfl, k⟩
theorem e_X10_put {x1 : Int32} {x2 : Int32} {x3 : Int32} {h : Hp} {Q : Int32 → Hp → Prop}  (k : (∃ Q1, CtI 0 mX10_noList [.int x1] h Q1 ∧ ∀ (v3 : Int32) (h4 : Hp), Q1 v3 h4 → ((v3 = 0 → (vp_in x1 4 ∧ ((0 ≤ (h4.1 (69 + 2 * (x1).toNatClampNeg) 1) → (vp_in x1 4 ∧ (∃ Q8, CtI 0 mX1_set [.ref (69 + 2 * (x1).toNatClampNeg), .int x2, .int x3] h4 Q8 ∧ ∀ (v10 : Int32) (h11 : Hp), Q8 v10 h11 → Q (if v10 = 0 then (-13 : Int32) else (1 : Int32)) h11))) ∧ (¬ (0 ≤ (h4.1 (69 + 2 * (x1).toNatClampNeg) 1)) → Q (-11 : Int32) h4)))) ∧ (¬ v3 = 0 → (∃ Q13, CtI 0 mX10_refuse [.ref 0, .int (-1 : Int32)] h4 Q13 ∧ ∀ (v15 : Int32) (h16 : Hp), Q13 v15 h16 → Q v15 h16))))) : CtI 1 mX10_put [.ref 0, .int x1, .int x2, .int x3] h Q := by
  refine Ct.of (by decide +kernel) (Nat.le_of_ble_eq_true rfl) ?_
  show GoI 1 mX10_put 0 [(0, .ref 0), (1, .int x1), (2, .int x2), (3, .int x3)] [] h Q
  refine go_iload_n (pc2 := 1) dX10_put_0 rfl rfl rfl ?_
  obtain ⟨Q1, hC2, k⟩ := k
  refine gcS_I (pc2 := 4) (dC := 0) (As := [.int x1]) (st := []) rfl dX10_put_1 rfl w_939 ok_X10_noList w_940 rfl (by decide) (Nat.le_of_ble_eq_true rfl) hC2 (fun v3 h4 hq5 => ?_)
  have k := k v3 h4 hq5
  refine go_if_eq (pc2 := 7) (tgt := 13) dX10_put_4 rfl (by decide) (fun c => ?_) (fun c => ?_)
  · have k := k.1 c
    refine go_aload_n (pc2 := 14) dX10_put_13 rfl rfl rfl ?_
    refine gf_379 (pc2 := 17) rfl dX10_put_14 rfl c_0 (fvs r_0_10) ?_
    refine go_iload_n (pc2 := 18) dX10_put_17 rfl rfl rfl ?_
    obtain ⟨y6, k⟩ := k
    refine go_aaload (pc2 := 19) (t := 1) dX10_put_18 rfl (by decide) c_66 y6 rfl (rfo_s (ra_66 _ (vp_lt y6)).1) ?_
    refine gf_338 (pc2 := 22) rfl dX10_put_19 rfl (ra_66 _ (vp_lt y6)).2.1 fvi ?_
    refine go_if_ge (pc2 := 25) (tgt := 28) dX10_put_22 rfl (by decide) (fun c => ?_) (fun c => ?_)
    · have k := k.1 c
      refine go_aload_n (pc2 := 29) dX10_put_28 rfl rfl rfl ?_
      refine gf_379 (pc2 := 32) rfl dX10_put_29 rfl c_0 (fvs r_0_10) ?_
      refine go_iload_n (pc2 := 33) dX10_put_32 rfl rfl rfl ?_
      obtain ⟨y7, k⟩ := k
      refine go_aaload (pc2 := 34) (t := 1) dX10_put_33 rfl (by decide) c_66 y7 rfl (rfo_s (ra_66 _ (vp_lt y7)).1) ?_
      refine go_iload_n (pc2 := 35) dX10_put_34 rfl rfl rfl ?_
      refine go_iload_n (pc2 := 36) dX10_put_35 rfl rfl rfl ?_
      obtain ⟨Q8, hC9, k⟩ := k
      refine gcVN_I (pc2 := 39) (dC := 0) (As := [.int x2, .int x3]) (st := []) rfl dX10_put_36 rfl w_975 ok_X1_set vi_X1_set (ra_66 _ (vp_lt y7)).2.1 (by decide) rfl rfl rfl (by decide) (Nat.le_of_ble_eq_true rfl) hC9 (fun v10 h11 hq12 => ?_)
      have k := k v10 h11 hq12
      have J : GoI 1 mX10_put 48 [(0, .ref 0), (1, .int x1), (2, .int x2), (3, .int x3)] [.int (if v10 = 0 then (-13 : Int32) else (1 : Int32))] h11 Q := by
        exact go_iret dX10_put_48 ⟨_, rfl, rfl⟩ ⟨rfl, _, rfl, k⟩
      refine go_if_eq (pc2 := 42) (tgt := 46) dX10_put_39 rfl (by decide) (fun c => ?_) (fun c => ?_)
      · rw [if_pos c] at J
        exact go_bipush (pc2 := 48) dX10_put_46 rfl (by decide) J
      · rw [if_neg c] at J
        exact go_iconst (pc2 := 43) dX10_put_42 rfl (by decide) (go_goto (tgt := 48) dX10_put_43 (by decide) J)
    · have k := k.2 c
      refine go_bipush (pc2 := 27) (v := (-11 : Int32)) dX10_put_25 rfl (by decide) ?_
      exact go_iret dX10_put_27 ⟨_, rfl, rfl⟩ ⟨rfl, _, rfl, k⟩
  · have k := k.2 c
    refine go_aload_n (pc2 := 8) dX10_put_7 rfl rfl rfl ?_
    refine go_iconst (pc2 := 9) (v := (-1 : Int32)) dX10_put_8 rfl (by decide) ?_
    obtain ⟨Q13, hC14, k⟩ := k
    refine gcV_I (pc2 := 12) (dC := 0) (As := [.int (-1 : Int32)]) (st := []) rfl dX10_put_9 rfl w_413 ok_X10_refuse vi_X10_refuse c_0 (by decide) rfl rfl rfl (by decide) (Nat.le_of_ble_eq_true rfl) hC14 (fun v15 h16 hq17 => ?_)
    have k := k v15 h16 hq17
    exact go_iret dX10_put_12 ⟨_, rfl, rfl⟩ ⟨rfl, _, rfl, k⟩
theorem e_X10_lays {x1 : Int32} {x2 : Int32} {h : Hp} {Q : Int32 → Hp → Prop}  (k : (∃ Q1, CtI 0 mX10_noList [.int x1] h Q1 ∧ ∀ (v3 : Int32) (h4 : Hp), Q1 v3 h4 → ((v3 = 0 → (∃ Q6, CtI 5 mX10_solveAsIs [.ref 0] h4 Q6 ∧ ∀ (v8 : Int32) (h9 : Hp), Q6 v8 h9 → ((0 ≤ v8 → (vp_in x1 4 ∧ ((0 ≤ (h9.1 (69 + 2 * (x1).toNatClampNeg) 1) → GoI 6 mX10_lays 44 [(0, .ref 0), (1, .int x1), (2, .int x2), (3, .int (0 : Int32))] [] h9 Q) ∧ (¬ (0 ≤ (h9.1 (69 + 2 * (x1).toNatClampNeg) 1)) → Q (-11 : Int32) h9)))) ∧ (¬ (0 ≤ v8) → (∃ Q12, CtI 0 mX10_refuse [.ref 0, .int (-3 : Int32)] h9 Q12 ∧ ∀ (v14 : Int32) (h15 : Hp), Q12 v14 h15 → Q v14 h15))))) ∧ (¬ v3 = 0 → (∃ Q17, CtI 0 mX10_refuse [.ref 0, .int (-1 : Int32)] h4 Q17 ∧ ∀ (v19 : Int32) (h20 : Hp), Q17 v19 h20 → Q v19 h20))))) : CtI 6 mX10_lays [.ref 0, .int x1, .int x2] h Q := by
  refine Ct.of (by decide +kernel) (Nat.le_of_ble_eq_true rfl) ?_
  show GoI 6 mX10_lays 0 [(0, .ref 0), (1, .int x1), (2, .int x2)] [] h Q
  refine go_iload_n (pc2 := 1) dX10_lays_0 rfl rfl rfl ?_
  obtain ⟨Q1, hC2, k⟩ := k
  refine gcS_I (pc2 := 4) (dC := 0) (As := [.int x1]) (st := []) rfl dX10_lays_1 rfl w_939 ok_X10_noList w_940 rfl (by decide) (Nat.le_of_ble_eq_true rfl) hC2 (fun v3 h4 hq5 => ?_)
  have k := k v3 h4 hq5
  refine go_if_eq (pc2 := 7) (tgt := 13) dX10_lays_4 rfl (by decide) (fun c => ?_) (fun c => ?_)
  · have k := k.1 c
    refine go_aload_n (pc2 := 14) dX10_lays_13 rfl rfl rfl ?_
    obtain ⟨Q6, hC7, k⟩ := k
    refine gcV_I (pc2 := 17) (dC := 5) (As := []) (st := []) rfl dX10_lays_14 rfl w_707 ok_X10_solveAsIs vi_X10_solveAsIs c_0 (by decide) rfl rfl rfl (by decide) (Nat.le_of_ble_eq_true rfl) hC7 (fun v8 h9 hq10 => ?_)
    have k := k v8 h9 hq10
    refine go_if_ge (pc2 := 20) (tgt := 27) dX10_lays_17 rfl (by decide) (fun c => ?_) (fun c => ?_)
    · have k := k.1 c
      refine go_aload_n (pc2 := 28) dX10_lays_27 rfl rfl rfl ?_
      refine gf_379 (pc2 := 31) rfl dX10_lays_28 rfl c_0 (fvs r_0_10) ?_
      refine go_iload_n (pc2 := 32) dX10_lays_31 rfl rfl rfl ?_
      obtain ⟨y11, k⟩ := k
      refine go_aaload (pc2 := 33) (t := 1) dX10_lays_32 rfl (by decide) c_66 y11 rfl (rfo_s (ra_66 _ (vp_lt y11)).1) ?_
      refine gf_338 (pc2 := 36) rfl dX10_lays_33 rfl (ra_66 _ (vp_lt y11)).2.1 fvi ?_
      refine go_if_ge (pc2 := 39) (tgt := 42) dX10_lays_36 rfl (by decide) (fun c => ?_) (fun c => ?_)
      · have k := k.1 c
        refine go_iconst (pc2 := 43) (v := (0 : Int32)) dX10_lays_42 rfl (by decide) ?_
        refine go_istore_n (pc2 := 44) (ls2 := [(0, .ref 0), (1, .int x1), (2, .int x2), (3, .int (0 : Int32))]) dX10_lays_43 rfl rfl rfl rfl rfl rfl ?_
        exact k
      · have k := k.2 c
        refine go_bipush (pc2 := 41) (v := (-11 : Int32)) dX10_lays_39 rfl (by decide) ?_
        exact go_iret dX10_lays_41 ⟨_, rfl, rfl⟩ ⟨rfl, _, rfl, k⟩
    · have k := k.2 c
      refine go_aload_n (pc2 := 21) dX10_lays_20 rfl rfl rfl ?_
      refine go_bipush (pc2 := 23) (v := (-3 : Int32)) dX10_lays_21 rfl (by decide) ?_
      obtain ⟨Q12, hC13, k⟩ := k
      refine gcV_I (pc2 := 26) (dC := 0) (As := [.int (-3 : Int32)]) (st := []) rfl dX10_lays_23 rfl w_413 ok_X10_refuse vi_X10_refuse c_0 (by decide) rfl rfl rfl (by decide) (Nat.le_of_ble_eq_true rfl) hC13 (fun v14 h15 hq16 => ?_)
      have k := k v14 h15 hq16
      exact go_iret dX10_lays_26 ⟨_, rfl, rfl⟩ ⟨rfl, _, rfl, k⟩
  · have k := k.2 c
    refine go_aload_n (pc2 := 8) dX10_lays_7 rfl rfl rfl ?_
    refine go_iconst (pc2 := 9) (v := (-1 : Int32)) dX10_lays_8 rfl (by decide) ?_
    obtain ⟨Q17, hC18, k⟩ := k
    refine gcV_I (pc2 := 12) (dC := 0) (As := [.int (-1 : Int32)]) (st := []) rfl dX10_lays_9 rfl w_413 ok_X10_refuse vi_X10_refuse c_0 (by decide) rfl rfl rfl (by decide) (Nat.le_of_ble_eq_true rfl) hC18 (fun v19 h20 hq21 => ?_)
    have k := k v19 h20 hq21
    exact go_iret dX10_lays_12 ⟨_, rfl, rfl⟩ ⟨rfl, _, rfl, k⟩
theorem b_X10_lays_44 {x1 : Int32} {x2 : Int32} {x3 : Int32} {h : Hp} {Q : Int32 → Hp → Prop}  (k : (((h.1 1 5) ≤ x3 → Q (h.1 1 5) h) ∧ (¬ ((h.1 1 5) ≤ x3) → (vp_in x1 4 ∧ (vp_in x3 3 ∧ (∃ Q3, CtI 0 mX1_set [.ref (69 + 2 * (x1).toNatClampNeg), .int (x2 + x3), .int (h.1 41 (x3).toNatClampNeg)] h Q3 ∧ ∀ (v5 : Int32) (h6 : Hp), Q3 v5 h6 → ((¬ v5 = 0 → GoI 6 mX10_lays 44 [(0, .ref 0), (1, .int x1), (2, .int x2), (3, .int (x3 + 1))] [] h6 Q) ∧ (v5 = 0 → Q (-13 : Int32) h6)))))))) : GoI 6 mX10_lays 44 [(0, .ref 0), (1, .int x1), (2, .int x2), (3, .int x3)] [] h Q := by
  refine go_iload_n (pc2 := 45) dX10_lays_44 rfl rfl rfl ?_
  refine go_aload_n (pc2 := 46) dX10_lays_45 rfl rfl rfl ?_
  refine gf_369 (pc2 := 49) rfl dX10_lays_46 rfl c_0 (fvs r_0_0) ?_
  refine gf_126 (pc2 := 52) rfl dX10_lays_49 rfl c_1 fvi ?_
  refine go_icmp_ge (pc2 := 55) (tgt := 88) dX10_lays_52 rfl (by decide) (fun c => ?_) (fun c => ?_)
  · have k := k.1 c
    refine go_aload_n (pc2 := 89) dX10_lays_88 rfl rfl rfl ?_
    refine gf_369 (pc2 := 92) rfl dX10_lays_89 rfl c_0 (fvs r_0_0) ?_
    refine gf_126 (pc2 := 95) rfl dX10_lays_92 rfl c_1 fvi ?_
    exact go_iret dX10_lays_95 ⟨_, rfl, rfl⟩ ⟨rfl, _, rfl, k⟩
  · have k := k.2 c
    refine go_aload_n (pc2 := 56) dX10_lays_55 rfl rfl rfl ?_
    refine gf_379 (pc2 := 59) rfl dX10_lays_56 rfl c_0 (fvs r_0_10) ?_
    refine go_iload_n (pc2 := 60) dX10_lays_59 rfl rfl rfl ?_
    obtain ⟨y1, k⟩ := k
    refine go_aaload (pc2 := 61) (t := 1) dX10_lays_60 rfl (by decide) c_66 y1 rfl (rfo_s (ra_66 _ (vp_lt y1)).1) ?_
    refine go_iload_n (pc2 := 62) dX10_lays_61 rfl rfl rfl ?_
    refine go_iload_n (pc2 := 63) dX10_lays_62 rfl rfl rfl ?_
    refine go_iadd (pc2 := 64) dX10_lays_63 rfl ?_
    refine go_aload_n (pc2 := 65) dX10_lays_64 rfl rfl rfl ?_
    refine gf_376 (pc2 := 68) rfl dX10_lays_65 rfl c_0 (fvs r_0_7) ?_
    refine gf_242 (pc2 := 71) rfl dX10_lays_68 rfl c_38 (fvs r_38_5) ?_
    refine go_iload_n (pc2 := 72) dX10_lays_71 rfl rfl rfl ?_
    obtain ⟨y2, k⟩ := k
    refine go_iaload (pc2 := 73) (j := (x3).toNatClampNeg) dX10_lays_72 rfl c_41 y2 rfl ?_
    obtain ⟨Q3, hC4, k⟩ := k
    refine gcVN_I (pc2 := 76) (dC := 0) (As := [.int (x2 + x3), .int (h.1 41 (x3).toNatClampNeg)]) (st := []) rfl dX10_lays_73 rfl w_975 ok_X1_set vi_X1_set (ra_66 _ (vp_lt y1)).2.1 (by decide) rfl rfl rfl (by decide) (Nat.le_of_ble_eq_true rfl) hC4 (fun v5 h6 hq7 => ?_)
    have k := k v5 h6 hq7
    refine go_if_ne (pc2 := 79) (tgt := 82) dX10_lays_76 rfl (by decide) (fun c => ?_) (fun c => ?_)
    · have k := k.1 c
      refine go_iinc (pc2 := 85) (ls2 := [(0, .ref 0), (1, .int x1), (2, .int x2), (3, .int (x3 + 1))]) (v := (x3 + 1)) dX10_lays_82 rfl rfl rfl rfl rfl rfl rfl ?_
      refine go_goto (tgt := 44) dX10_lays_85 (by decide) ?_
      exact k
    · have k := k.2 c
      refine go_bipush (pc2 := 81) (v := (-13 : Int32)) dX10_lays_79 rfl (by decide) ?_
      exact go_iret dX10_lays_81 ⟨_, rfl, rfl⟩ ⟨rfl, _, rfl, k⟩
theorem e_X10_pays {x1 : Int64} {x3 : Int64} {h : Hp} {Q : Int32 → Hp → Prop}  (k : (∃ Q1, CtI 0 mX10_productIsOver [.long x1, .long x3] h Q1 ∧ ∀ (v3 : Int32) (h4 : Hp), Q1 v3 h4 → ((v3 = 0 → ((0 ≤ (lg_cmp (((h4.2 1 8) ^^^ ((h4.2 1 8) + (x1 * x3))) &&& ((x1 * x3) ^^^ ((h4.2 1 8) + (x1 * x3)))) (0 : Int64)) → (∀ g6 : Hp, g6 = (ul h4 1 8 ((h4.2 1 8) + (x1 * x3))) → Q (1 : Int32) g6)) ∧ (¬ (0 ≤ (lg_cmp (((h4.2 1 8) ^^^ ((h4.2 1 8) + (x1 * x3))) &&& ((x1 * x3) ^^^ ((h4.2 1 8) + (x1 * x3)))) (0 : Int64))) → Q (-7 : Int32) h4))) ∧ (¬ v3 = 0 → Q (-7 : Int32) h4)))) : CtI 1 mX10_pays [.ref 0, .long x1, .long x3] h Q := by
  refine Ct.of (by decide +kernel) (Nat.le_of_ble_eq_true rfl) ?_
  show GoI 1 mX10_pays 0 [(0, .ref 0), (1, .long x1), (3, .long x3)] [] h Q
  refine go_lload_n (pc2 := 1) dX10_pays_0 rfl rfl rfl ?_
  refine go_lload_n (pc2 := 2) dX10_pays_1 rfl rfl rfl ?_
  obtain ⟨Q1, hC2, k⟩ := k
  refine gcS_I (pc2 := 5) (dC := 0) (As := [.long x1, .long x3]) (st := []) rfl dX10_pays_2 rfl w_987 ok_X10_productIsOver w_988 rfl (by decide) (Nat.le_of_ble_eq_true rfl) hC2 (fun v3 h4 hq5 => ?_)
  have k := k v3 h4 hq5
  refine go_if_eq (pc2 := 8) (tgt := 11) dX10_pays_5 rfl (by decide) (fun c => ?_) (fun c => ?_)
  · have k := k.1 c
    refine go_lload_n (pc2 := 12) dX10_pays_11 rfl rfl rfl ?_
    refine go_lload_n (pc2 := 13) dX10_pays_12 rfl rfl rfl ?_
    refine go_lmul (pc2 := 14) dX10_pays_13 rfl ?_
    refine go_lstore (pc2 := 16) (ls2 := [(0, .ref 0), (1, .long x1), (3, .long x3), (5, .long (x1 * x3))]) dX10_pays_14 rfl rfl rfl rfl rfl ?_
    refine go_aload_n (pc2 := 17) dX10_pays_16 rfl rfl rfl ?_
    refine gf_369 (pc2 := 20) rfl dX10_pays_17 rfl c_0 (fvs r_0_0) ?_
    refine gf_134 (pc2 := 23) rfl dX10_pays_20 rfl c_1 fvl ?_
    refine go_lload (pc2 := 25) dX10_pays_23 rfl rfl ?_
    refine go_ladd (pc2 := 26) dX10_pays_25 rfl ?_
    refine go_lstore (pc2 := 28) (ls2 := [(0, .ref 0), (1, .long x1), (3, .long x3), (5, .long (x1 * x3)), (7, .long ((h4.2 1 8) + (x1 * x3)))]) dX10_pays_26 rfl rfl rfl rfl rfl ?_
    refine go_aload_n (pc2 := 29) dX10_pays_28 rfl rfl rfl ?_
    refine gf_369 (pc2 := 32) rfl dX10_pays_29 rfl c_0 (fvs r_0_0) ?_
    refine gf_134 (pc2 := 35) rfl dX10_pays_32 rfl c_1 fvl ?_
    refine go_lload (pc2 := 37) dX10_pays_35 rfl rfl ?_
    refine go_lxor (pc2 := 38) dX10_pays_37 rfl ?_
    refine go_lload (pc2 := 40) dX10_pays_38 rfl rfl ?_
    refine go_lload (pc2 := 42) dX10_pays_40 rfl rfl ?_
    refine go_lxor (pc2 := 43) dX10_pays_42 rfl ?_
    refine go_land (pc2 := 44) dX10_pays_43 rfl ?_
    refine go_lconst (pc2 := 45) (v := (0 : Int64)) dX10_pays_44 rfl (by decide) ?_
    refine go_lcmp (pc2 := 46) dX10_pays_45 rfl ?_
    refine go_if_ge (pc2 := 49) (tgt := 52) dX10_pays_46 rfl (by decide) (fun c => ?_) (fun c => ?_)
    · have k := k.1 c
      refine go_aload_n (pc2 := 53) dX10_pays_52 rfl rfl rfl ?_
      refine gf_369 (pc2 := 56) rfl dX10_pays_53 rfl c_0 (fvs r_0_0) ?_
      refine go_lload (pc2 := 58) dX10_pays_56 rfl rfl ?_
      refine pf_134 (pc2 := 61) rfl dX10_pays_58 rfl c_1 ?_
      obtain ⟨g6, eg6⟩ : ∃ y : Hp, y = (ul h4 1 8 ((h4.2 1 8) + (x1 * x3))) := ⟨_, rfl⟩
      rw [← eg6]
      have k := k g6 eg6
      refine go_iconst (pc2 := 62) (v := (1 : Int32)) dX10_pays_61 rfl (by decide) ?_
      exact go_iret dX10_pays_62 ⟨_, rfl, rfl⟩ ⟨rfl, _, rfl, k⟩
    · have k := k.2 c
      refine go_bipush (pc2 := 51) (v := (-7 : Int32)) dX10_pays_49 rfl (by decide) ?_
      exact go_iret dX10_pays_51 ⟨_, rfl, rfl⟩ ⟨rfl, _, rfl, k⟩
  · have k := k.2 c
    refine go_bipush (pc2 := 10) (v := (-7 : Int32)) dX10_pays_8 rfl (by decide) ?_
    exact go_iret dX10_pays_10 ⟨_, rfl, rfl⟩ ⟨rfl, _, rfl, k⟩
theorem e_X10_purse  {h : Hp} {Q : Int64 → Hp → Prop}  (k : Q (h.2 1 8) h) : CtL 0 mX10_purse [.ref 0] h Q := by
  refine Ct.of (by decide +kernel) (Nat.le_of_ble_eq_true rfl) ?_
  show GoL 0 mX10_purse 0 [(0, .ref 0)] [] h Q
  refine go_aload_n (pc2 := 1) dX10_purse_0 rfl rfl rfl ?_
  refine gf_369 (pc2 := 4) rfl dX10_purse_1 rfl c_0 (fvs r_0_0) ?_
  refine gf_134 (pc2 := 7) rfl dX10_purse_4 rfl c_1 fvl ?_
  exact go_lret dX10_purse_7 rfl ⟨rfl, _, rfl, k⟩
theorem e_X10_bills {x1 : Int32} {h : Hp} {Q : Int32 → Hp → Prop}  (k : (∃ Q1, CtI 5 mX10_solveAsIs [.ref 0] h Q1 ∧ ∀ (v3 : Int32) (h4 : Hp), Q1 v3 h4 → ((0 ≤ v3 → ((0 ≤ (lg_cmp (((h4.2 1 8) ^^^ ((x1).toInt64 * (v3).toInt64)) &&& ((h4.2 1 8) ^^^ ((h4.2 1 8) - ((x1).toInt64 * (v3).toInt64)))) (0 : Int64)) → (∀ g6 : Hp, g6 = (ul h4 1 8 ((h4.2 1 8) - ((x1).toInt64 * (v3).toInt64))) → Q (1 : Int32) g6)) ∧ (¬ (0 ≤ (lg_cmp (((h4.2 1 8) ^^^ ((x1).toInt64 * (v3).toInt64)) &&& ((h4.2 1 8) ^^^ ((h4.2 1 8) - ((x1).toInt64 * (v3).toInt64)))) (0 : Int64))) → Q (-7 : Int32) h4))) ∧ (¬ (0 ≤ v3) → (∃ Q7, CtI 0 mX10_refuse [.ref 0, .int (-3 : Int32)] h4 Q7 ∧ ∀ (v9 : Int32) (h10 : Hp), Q7 v9 h10 → Q v9 h10))))) : CtI 6 mX10_bills [.ref 0, .int x1] h Q := by
  refine Ct.of (by decide +kernel) (Nat.le_of_ble_eq_true rfl) ?_
  show GoI 6 mX10_bills 0 [(0, .ref 0), (1, .int x1)] [] h Q
  refine go_aload_n (pc2 := 1) dX10_bills_0 rfl rfl rfl ?_
  obtain ⟨Q1, hC2, k⟩ := k
  refine gcV_I (pc2 := 4) (dC := 5) (As := []) (st := []) rfl dX10_bills_1 rfl w_707 ok_X10_solveAsIs vi_X10_solveAsIs c_0 (by decide) rfl rfl rfl (by decide) (Nat.le_of_ble_eq_true rfl) hC2 (fun v3 h4 hq5 => ?_)
  have k := k v3 h4 hq5
  refine go_istore_n (pc2 := 5) (ls2 := [(0, .ref 0), (1, .int x1), (2, .int v3)]) dX10_bills_4 rfl rfl rfl rfl rfl rfl ?_
  refine go_iload_n (pc2 := 6) dX10_bills_5 rfl rfl rfl ?_
  refine go_if_ge (pc2 := 9) (tgt := 16) dX10_bills_6 rfl (by decide) (fun c => ?_) (fun c => ?_)
  · have k := k.1 c
    refine go_iload_n (pc2 := 17) dX10_bills_16 rfl rfl rfl ?_
    refine go_i2l (pc2 := 18) dX10_bills_17 rfl ?_
    refine go_iload_n (pc2 := 19) dX10_bills_18 rfl rfl rfl ?_
    refine go_i2l (pc2 := 20) dX10_bills_19 rfl ?_
    refine go_lmul (pc2 := 21) dX10_bills_20 rfl ?_
    refine go_lstore_n (pc2 := 22) (ls2 := [(0, .ref 0), (1, .int x1), (2, .int v3), (3, .long ((x1).toInt64 * (v3).toInt64))]) dX10_bills_21 rfl rfl rfl rfl rfl rfl ?_
    refine go_aload_n (pc2 := 23) dX10_bills_22 rfl rfl rfl ?_
    refine gf_369 (pc2 := 26) rfl dX10_bills_23 rfl c_0 (fvs r_0_0) ?_
    refine gf_134 (pc2 := 29) rfl dX10_bills_26 rfl c_1 fvl ?_
    refine go_lload_n (pc2 := 30) dX10_bills_29 rfl rfl rfl ?_
    refine go_lsub (pc2 := 31) dX10_bills_30 rfl ?_
    refine go_lstore (pc2 := 33) (ls2 := [(0, .ref 0), (1, .int x1), (2, .int v3), (3, .long ((x1).toInt64 * (v3).toInt64)), (5, .long ((h4.2 1 8) - ((x1).toInt64 * (v3).toInt64)))]) dX10_bills_31 rfl rfl rfl rfl rfl ?_
    refine go_aload_n (pc2 := 34) dX10_bills_33 rfl rfl rfl ?_
    refine gf_369 (pc2 := 37) rfl dX10_bills_34 rfl c_0 (fvs r_0_0) ?_
    refine gf_134 (pc2 := 40) rfl dX10_bills_37 rfl c_1 fvl ?_
    refine go_lload_n (pc2 := 41) dX10_bills_40 rfl rfl rfl ?_
    refine go_lxor (pc2 := 42) dX10_bills_41 rfl ?_
    refine go_aload_n (pc2 := 43) dX10_bills_42 rfl rfl rfl ?_
    refine gf_369 (pc2 := 46) rfl dX10_bills_43 rfl c_0 (fvs r_0_0) ?_
    refine gf_134 (pc2 := 49) rfl dX10_bills_46 rfl c_1 fvl ?_
    refine go_lload (pc2 := 51) dX10_bills_49 rfl rfl ?_
    refine go_lxor (pc2 := 52) dX10_bills_51 rfl ?_
    refine go_land (pc2 := 53) dX10_bills_52 rfl ?_
    refine go_lconst (pc2 := 54) (v := (0 : Int64)) dX10_bills_53 rfl (by decide) ?_
    refine go_lcmp (pc2 := 55) dX10_bills_54 rfl ?_
    refine go_if_ge (pc2 := 58) (tgt := 61) dX10_bills_55 rfl (by decide) (fun c => ?_) (fun c => ?_)
    · have k := k.1 c
      refine go_aload_n (pc2 := 62) dX10_bills_61 rfl rfl rfl ?_
      refine gf_369 (pc2 := 65) rfl dX10_bills_62 rfl c_0 (fvs r_0_0) ?_
      refine go_lload (pc2 := 67) dX10_bills_65 rfl rfl ?_
      refine pf_134 (pc2 := 70) rfl dX10_bills_67 rfl c_1 ?_
      obtain ⟨g6, eg6⟩ : ∃ y : Hp, y = (ul h4 1 8 ((h4.2 1 8) - ((x1).toInt64 * (v3).toInt64))) := ⟨_, rfl⟩
      rw [← eg6]
      have k := k g6 eg6
      refine go_iconst (pc2 := 71) (v := (1 : Int32)) dX10_bills_70 rfl (by decide) ?_
      exact go_iret dX10_bills_71 ⟨_, rfl, rfl⟩ ⟨rfl, _, rfl, k⟩
    · have k := k.2 c
      refine go_bipush (pc2 := 60) (v := (-7 : Int32)) dX10_bills_58 rfl (by decide) ?_
      exact go_iret dX10_bills_60 ⟨_, rfl, rfl⟩ ⟨rfl, _, rfl, k⟩
  · have k := k.2 c
    refine go_aload_n (pc2 := 10) dX10_bills_9 rfl rfl rfl ?_
    refine go_bipush (pc2 := 12) (v := (-3 : Int32)) dX10_bills_10 rfl (by decide) ?_
    obtain ⟨Q7, hC8, k⟩ := k
    refine gcV_I (pc2 := 15) (dC := 0) (As := [.int (-3 : Int32)]) (st := []) rfl dX10_bills_12 rfl w_413 ok_X10_refuse vi_X10_refuse c_0 (by decide) rfl rfl rfl (by decide) (Nat.le_of_ble_eq_true rfl) hC8 (fun v9 h10 hq11 => ?_)
    have k := k v9 h10 hq11
    exact go_iret dX10_bills_15 ⟨_, rfl, rfl⟩ ⟨rfl, _, rfl, k⟩
theorem e_X10_rack {x1 : Int32} {x2 : Int32} {x3 : Int32} {h : Hp} {Q : Int32 → Hp → Prop}  (k : (∃ Q1, CtI 0 mX10_noRack [.int x1] h Q1 ∧ ∀ (v3 : Int32) (h4 : Hp), Q1 v3 h4 → ((v3 = 0 → ((x2 < 0 → (∃ Q6, CtI 0 mX10_refuse [.ref 0, .int (-2 : Int32)] h4 Q6 ∧ ∀ (v8 : Int32) (h9 : Hp), Q6 v8 h9 → Q v8 h9)) ∧ (¬ (x2 < 0) → ((x2 < (6 : Int32) → ((x3 ≤ (9 : Int32) → ((0 ≤ x3 → (vp_in x1 3 ∧ (∃ Q12, CtV 0 mX6_make [.ref (77 + 12 * (x1).toNatClampNeg), .int x2, .int x3] h4 Q12 ∧ ∀ h15 : Hp, Q12 h15 → Q (1 : Int32) h15))) ∧ (¬ (0 ≤ x3) → Q (-14 : Int32) h4))) ∧ (¬ (x3 ≤ (9 : Int32)) → (∃ Q17, CtI 0 mX10_refuse [.ref 0, .int (-6 : Int32)] h4 Q17 ∧ ∀ (v19 : Int32) (h20 : Hp), Q17 v19 h20 → Q v19 h20)))) ∧ (¬ (x2 < (6 : Int32)) → (∃ Q22, CtI 0 mX10_refuse [.ref 0, .int (-2 : Int32)] h4 Q22 ∧ ∀ (v24 : Int32) (h25 : Hp), Q22 v24 h25 → Q v24 h25)))))) ∧ (¬ v3 = 0 → (∃ Q27, CtI 0 mX10_refuse [.ref 0, .int (-1 : Int32)] h4 Q27 ∧ ∀ (v29 : Int32) (h30 : Hp), Q27 v29 h30 → Q v29 h30))))) : CtI 1 mX10_rack [.ref 0, .int x1, .int x2, .int x3] h Q := by
  refine Ct.of (by decide +kernel) (Nat.le_of_ble_eq_true rfl) ?_
  show GoI 1 mX10_rack 0 [(0, .ref 0), (1, .int x1), (2, .int x2), (3, .int x3)] [] h Q
  refine go_iload_n (pc2 := 1) dX10_rack_0 rfl rfl rfl ?_
  obtain ⟨Q1, hC2, k⟩ := k
  refine gcS_I (pc2 := 4) (dC := 0) (As := [.int x1]) (st := []) rfl dX10_rack_1 rfl w_1004 ok_X10_noRack w_1005 rfl (by decide) (Nat.le_of_ble_eq_true rfl) hC2 (fun v3 h4 hq5 => ?_)
  have k := k v3 h4 hq5
  refine go_if_eq (pc2 := 7) (tgt := 13) dX10_rack_4 rfl (by decide) (fun c => ?_) (fun c => ?_)
  · have k := k.1 c
    refine go_iload_n (pc2 := 14) dX10_rack_13 rfl rfl rfl ?_
    refine go_if_lt (pc2 := 17) (tgt := 23) dX10_rack_14 rfl (by decide) (fun c => ?_) (fun c => ?_)
    · have k := k.1 c
      refine go_aload_n (pc2 := 24) dX10_rack_23 rfl rfl rfl ?_
      refine go_bipush (pc2 := 26) (v := (-2 : Int32)) dX10_rack_24 rfl (by decide) ?_
      obtain ⟨Q6, hC7, k⟩ := k
      refine gcV_I (pc2 := 29) (dC := 0) (As := [.int (-2 : Int32)]) (st := []) rfl dX10_rack_26 rfl w_413 ok_X10_refuse vi_X10_refuse c_0 (by decide) rfl rfl rfl (by decide) (Nat.le_of_ble_eq_true rfl) hC7 (fun v8 h9 hq10 => ?_)
      have k := k v8 h9 hq10
      exact go_iret dX10_rack_29 ⟨_, rfl, rfl⟩ ⟨rfl, _, rfl, k⟩
    · have k := k.2 c
      refine go_iload_n (pc2 := 18) dX10_rack_17 rfl rfl rfl ?_
      refine go_bipush (pc2 := 20) (v := (6 : Int32)) dX10_rack_18 rfl (by decide) ?_
      refine go_icmp_lt (pc2 := 23) (tgt := 30) dX10_rack_20 rfl (by decide) (fun c => ?_) (fun c => ?_)
      · have k := k.1 c
        refine go_iload_n (pc2 := 31) dX10_rack_30 rfl rfl rfl ?_
        refine go_bipush (pc2 := 33) (v := (9 : Int32)) dX10_rack_31 rfl (by decide) ?_
        refine go_icmp_le (pc2 := 36) (tgt := 43) dX10_rack_33 rfl (by decide) (fun c => ?_) (fun c => ?_)
        · have k := k.1 c
          refine go_iload_n (pc2 := 44) dX10_rack_43 rfl rfl rfl ?_
          refine go_if_ge (pc2 := 47) (tgt := 50) dX10_rack_44 rfl (by decide) (fun c => ?_) (fun c => ?_)
          · have k := k.1 c
            refine go_aload_n (pc2 := 51) dX10_rack_50 rfl rfl rfl ?_
            refine gf_380 (pc2 := 54) rfl dX10_rack_51 rfl c_0 (fvs r_0_11) ?_
            refine go_iload_n (pc2 := 55) dX10_rack_54 rfl rfl rfl ?_
            obtain ⟨y11, k⟩ := k
            refine go_aaload (pc2 := 56) (t := 2) dX10_rack_55 rfl (by decide) c_67 y11 rfl (rfo_s (ra_67 _ (vp_lt y11)).1) ?_
            refine go_iload_n (pc2 := 57) dX10_rack_56 rfl rfl rfl ?_
            refine go_iload_n (pc2 := 58) dX10_rack_57 rfl rfl rfl ?_
            obtain ⟨Q12, hC13, k⟩ := k
            refine gcVN_V (pc2 := 61) (dC := 0) (As := [.int x2, .int x3]) (st := []) rfl dX10_rack_58 rfl w_1007 ok_X6_make vi_X6_make (ra_67 _ (vp_lt y11)).2.1 (by decide) rfl rfl rfl (by decide) (Nat.le_of_ble_eq_true rfl) hC13 (fun h15 hq16 => ?_)
            have k := k h15 hq16
            refine go_iconst (pc2 := 62) (v := (1 : Int32)) dX10_rack_61 rfl (by decide) ?_
            exact go_iret dX10_rack_62 ⟨_, rfl, rfl⟩ ⟨rfl, _, rfl, k⟩
          · have k := k.2 c
            refine go_bipush (pc2 := 49) (v := (-14 : Int32)) dX10_rack_47 rfl (by decide) ?_
            exact go_iret dX10_rack_49 ⟨_, rfl, rfl⟩ ⟨rfl, _, rfl, k⟩
        · have k := k.2 c
          refine go_aload_n (pc2 := 37) dX10_rack_36 rfl rfl rfl ?_
          refine go_bipush (pc2 := 39) (v := (-6 : Int32)) dX10_rack_37 rfl (by decide) ?_
          obtain ⟨Q17, hC18, k⟩ := k
          refine gcV_I (pc2 := 42) (dC := 0) (As := [.int (-6 : Int32)]) (st := []) rfl dX10_rack_39 rfl w_413 ok_X10_refuse vi_X10_refuse c_0 (by decide) rfl rfl rfl (by decide) (Nat.le_of_ble_eq_true rfl) hC18 (fun v19 h20 hq21 => ?_)
          have k := k v19 h20 hq21
          exact go_iret dX10_rack_42 ⟨_, rfl, rfl⟩ ⟨rfl, _, rfl, k⟩
      · have k := k.2 c
        refine go_aload_n (pc2 := 24) dX10_rack_23 rfl rfl rfl ?_
        refine go_bipush (pc2 := 26) (v := (-2 : Int32)) dX10_rack_24 rfl (by decide) ?_
        obtain ⟨Q22, hC23, k⟩ := k
        refine gcV_I (pc2 := 29) (dC := 0) (As := [.int (-2 : Int32)]) (st := []) rfl dX10_rack_26 rfl w_413 ok_X10_refuse vi_X10_refuse c_0 (by decide) rfl rfl rfl (by decide) (Nat.le_of_ble_eq_true rfl) hC23 (fun v24 h25 hq26 => ?_)
        have k := k v24 h25 hq26
        exact go_iret dX10_rack_29 ⟨_, rfl, rfl⟩ ⟨rfl, _, rfl, k⟩
  · have k := k.2 c
    refine go_aload_n (pc2 := 8) dX10_rack_7 rfl rfl rfl ?_
    refine go_iconst (pc2 := 9) (v := (-1 : Int32)) dX10_rack_8 rfl (by decide) ?_
    obtain ⟨Q27, hC28, k⟩ := k
    refine gcV_I (pc2 := 12) (dC := 0) (As := [.int (-1 : Int32)]) (st := []) rfl dX10_rack_9 rfl w_413 ok_X10_refuse vi_X10_refuse c_0 (by decide) rfl rfl rfl (by decide) (Nat.le_of_ble_eq_true rfl) hC28 (fun v29 h30 hq31 => ?_)
    have k := k v29 h30 hq31
    exact go_iret dX10_rack_12 ⟨_, rfl, rfl⟩ ⟨rfl, _, rfl, k⟩
theorem e_X10_racks {x1 : Int32} {x2 : Int32} {x3 : Int32} {h : Hp} {Q : Int32 → Hp → Prop}  (k : (∃ Q1, CtI 0 mX10_noRack [.int x1] h Q1 ∧ ∀ (v3 : Int32) (h4 : Hp), Q1 v3 h4 → ((¬ v3 = 0 → (∃ Q6, CtI 0 mX10_refuse [.ref 0, .int (-1 : Int32)] h4 Q6 ∧ ∀ (v8 : Int32) (h9 : Hp), Q6 v8 h9 → Q v8 h9)) ∧ (v3 = 0 → ((x3 = (-1 : Int32) → GoI 2 mX10_racks 29 [(0, .ref 0), (1, .int x1), (2, .int x2), (3, .int x3)] [] h4 Q) ∧ (¬ x3 = (-1 : Int32) → (∃ Q11, CtI 0 mX5_noPlant [.ref 1, .int x3] h4 Q11 ∧ ∀ (v13 : Int32) (h14 : Hp), Q11 v13 h14 → ((v13 = 0 → GoI 2 mX10_racks 29 [(0, .ref 0), (1, .int x1), (2, .int x2), (3, .int x3)] [] h14 Q) ∧ (¬ v13 = 0 → (∃ Q16, CtI 0 mX10_refuse [.ref 0, .int (-1 : Int32)] h14 Q16 ∧ ∀ (v18 : Int32) (h19 : Hp), Q16 v18 h19 → Q v18 h19)))))))))) : CtI 2 mX10_racks [.ref 0, .int x1, .int x2, .int x3] h Q := by
  refine Ct.of (by decide +kernel) (Nat.le_of_ble_eq_true rfl) ?_
  show GoI 2 mX10_racks 0 [(0, .ref 0), (1, .int x1), (2, .int x2), (3, .int x3)] [] h Q
  refine go_iload_n (pc2 := 1) dX10_racks_0 rfl rfl rfl ?_
  obtain ⟨Q1, hC2, k⟩ := k
  refine gcS_I (pc2 := 4) (dC := 0) (As := [.int x1]) (st := []) rfl dX10_racks_1 rfl w_1004 ok_X10_noRack w_1005 rfl (by decide) (Nat.le_of_ble_eq_true rfl) hC2 (fun v3 h4 hq5 => ?_)
  have k := k v3 h4 hq5
  refine go_if_ne (pc2 := 7) (tgt := 23) dX10_racks_4 rfl (by decide) (fun c => ?_) (fun c => ?_)
  · have k := k.1 c
    refine go_aload_n (pc2 := 24) dX10_racks_23 rfl rfl rfl ?_
    refine go_iconst (pc2 := 25) (v := (-1 : Int32)) dX10_racks_24 rfl (by decide) ?_
    obtain ⟨Q6, hC7, k⟩ := k
    refine gcV_I (pc2 := 28) (dC := 0) (As := [.int (-1 : Int32)]) (st := []) rfl dX10_racks_25 rfl w_413 ok_X10_refuse vi_X10_refuse c_0 (by decide) rfl rfl rfl (by decide) (Nat.le_of_ble_eq_true rfl) hC7 (fun v8 h9 hq10 => ?_)
    have k := k v8 h9 hq10
    exact go_iret dX10_racks_28 ⟨_, rfl, rfl⟩ ⟨rfl, _, rfl, k⟩
  · have k := k.2 c
    refine go_iload_n (pc2 := 8) dX10_racks_7 rfl rfl rfl ?_
    refine go_iconst (pc2 := 9) (v := (-1 : Int32)) dX10_racks_8 rfl (by decide) ?_
    refine go_icmp_eq (pc2 := 12) (tgt := 29) dX10_racks_9 rfl (by decide) (fun c => ?_) (fun c => ?_)
    · have k := k.1 c
      exact k
    · have k := k.2 c
      refine go_aload_n (pc2 := 13) dX10_racks_12 rfl rfl rfl ?_
      refine gf_369 (pc2 := 16) rfl dX10_racks_13 rfl c_0 (fvs r_0_0) ?_
      refine go_iload_n (pc2 := 17) dX10_racks_16 rfl rfl rfl ?_
      obtain ⟨Q11, hC12, k⟩ := k
      refine gcVN_I (pc2 := 20) (dC := 0) (As := [.int x3]) (st := []) rfl dX10_racks_17 rfl w_621 ok_X5_noPlant vi_X5_noPlant c_1 (by decide) rfl rfl rfl (by decide) (Nat.le_of_ble_eq_true rfl) hC12 (fun v13 h14 hq15 => ?_)
      have k := k v13 h14 hq15
      refine go_if_eq (pc2 := 23) (tgt := 29) dX10_racks_20 rfl (by decide) (fun c => ?_) (fun c => ?_)
      · have k := k.1 c
        exact k
      · have k := k.2 c
        refine go_aload_n (pc2 := 24) dX10_racks_23 rfl rfl rfl ?_
        refine go_iconst (pc2 := 25) (v := (-1 : Int32)) dX10_racks_24 rfl (by decide) ?_
        obtain ⟨Q16, hC17, k⟩ := k
        refine gcV_I (pc2 := 28) (dC := 0) (As := [.int (-1 : Int32)]) (st := []) rfl dX10_racks_25 rfl w_413 ok_X10_refuse vi_X10_refuse c_0 (by decide) rfl rfl rfl (by decide) (Nat.le_of_ble_eq_true rfl) hC17 (fun v18 h19 hq20 => ?_)
        have k := k v18 h19 hq20
        exact go_iret dX10_racks_28 ⟨_, rfl, rfl⟩ ⟨rfl, _, rfl, k⟩
theorem b_X10_racks_29 {x1 : Int32} {x2 : Int32} {x3 : Int32} {h : Hp} {Q : Int32 → Hp → Prop}  (k : (vp_in x1 3 ∧ ((0 ≤ (h.1 (77 + 12 * (x1).toNatClampNeg) 3) → (∃ Q2, CtI 0 mX6_noPlace [.ref (77 + 12 * (x1).toNatClampNeg), .int x2] h Q2 ∧ ∀ (v4 : Int32) (h5 : Hp), Q2 v4 h5 → ((v4 = 0 → ((¬ x3 = (-1 : Int32) → (vp_in x3 3 ∧ (∃ Q8, CtI 1 mX3_isUnder [.ref (6 + (x3).toNatClampNeg), .int (h5.1 (77 + 12 * (x1).toNatClampNeg) 2)] h5 Q8 ∧ ∀ (v10 : Int32) (h11 : Hp), Q8 v10 h11 → ((¬ v10 = 0 → (vp_in x2 9 ∧ (vp_in x3 3 ∧ (∃ Q15, CtV 0 mX3_copyFrom [.ref ((77 + 12 * (x1).toNatClampNeg) + 3 + (x2).toNatClampNeg), .ref (6 + (x3).toNatClampNeg)] h11 Q15 ∧ ∀ h18 : Hp, Q15 h18 → (vp_in x2 9 ∧ (∀ g21 : Hp, g21 = (ui h18 ((77 + 12 * (x1).toNatClampNeg) + 2) (x2).toNatClampNeg (1 : Int32)) → Q (1 : Int32) g21)))))) ∧ (v10 = 0 → Q (-16 : Int32) h11))))) ∧ (x3 = (-1 : Int32) → (vp_in x2 9 ∧ (∀ g23 : Hp, g23 = (ui h5 ((77 + 12 * (x1).toNatClampNeg) + 2) (x2).toNatClampNeg (0 : Int32)) → Q (1 : Int32) g23))))) ∧ (¬ v4 = 0 → Q (-13 : Int32) h5)))) ∧ (¬ (0 ≤ (h.1 (77 + 12 * (x1).toNatClampNeg) 3)) → Q (-11 : Int32) h)))) : GoI 2 mX10_racks 29 [(0, .ref 0), (1, .int x1), (2, .int x2), (3, .int x3)] [] h Q := by
  refine go_aload_n (pc2 := 30) dX10_racks_29 rfl rfl rfl ?_
  refine gf_380 (pc2 := 33) rfl dX10_racks_30 rfl c_0 (fvs r_0_11) ?_
  refine go_iload_n (pc2 := 34) dX10_racks_33 rfl rfl rfl ?_
  obtain ⟨y1, k⟩ := k
  refine go_aaload (pc2 := 35) (t := 2) dX10_racks_34 rfl (by decide) c_67 y1 rfl (rfo_s (ra_67 _ (vp_lt y1)).1) ?_
  refine go_astore (pc2 := 37) (ls2 := [(0, .ref 0), (1, .int x1), (2, .int x2), (3, .int x3), (4, .ref (77 + 12 * (x1).toNatClampNeg))]) dX10_racks_35 rfl rfl rfl rfl rfl ?_
  refine go_aload (pc2 := 39) dX10_racks_37 rfl rfl ?_
  refine gf_358 (pc2 := 42) rfl dX10_racks_39 rfl (ra_67 _ (vp_lt y1)).2.1 fvi ?_
  refine go_if_ge (pc2 := 45) (tgt := 48) dX10_racks_42 rfl (by decide) (fun c => ?_) (fun c => ?_)
  · have k := k.1 c
    refine go_aload (pc2 := 50) dX10_racks_48 rfl rfl ?_
    refine go_iload_n (pc2 := 51) dX10_racks_50 rfl rfl rfl ?_
    obtain ⟨Q2, hC3, k⟩ := k
    refine gcVN_I (pc2 := 54) (dC := 0) (As := [.int x2]) (st := []) rfl dX10_racks_51 rfl w_1015 ok_X6_noPlace vi_X6_noPlace (ra_67 _ (vp_lt y1)).2.1 (by decide) rfl rfl rfl (by decide) (Nat.le_of_ble_eq_true rfl) hC3 (fun v4 h5 hq6 => ?_)
    have k := k v4 h5 hq6
    refine go_if_eq (pc2 := 57) (tgt := 60) dX10_racks_54 rfl (by decide) (fun c => ?_) (fun c => ?_)
    · have k := k.1 c
      refine go_iload_n (pc2 := 61) dX10_racks_60 rfl rfl rfl ?_
      refine go_iconst (pc2 := 62) (v := (-1 : Int32)) dX10_racks_61 rfl (by decide) ?_
      refine go_icmp_ne (pc2 := 65) (tgt := 75) dX10_racks_62 rfl (by decide) (fun c => ?_) (fun c => ?_)
      · have k := k.1 c
        refine go_aload_n (pc2 := 76) dX10_racks_75 rfl rfl rfl ?_
        refine gf_369 (pc2 := 79) rfl dX10_racks_76 rfl c_0 (fvs r_0_0) ?_
        refine gf_119 (pc2 := 82) rfl dX10_racks_79 rfl c_1 (fvs r_1_4) ?_
        refine go_iload_n (pc2 := 83) dX10_racks_82 rfl rfl rfl ?_
        obtain ⟨y7, k⟩ := k
        refine go_aaload (pc2 := 84) (t := 0) dX10_racks_83 rfl (by decide) c_5 y7 rfl (rfo_s (ra_5 _ (vp_lt y7))) ?_
        refine go_aload (pc2 := 86) dX10_racks_84 rfl rfl ?_
        refine gf_356 (pc2 := 89) rfl dX10_racks_86 rfl (ra_67 _ (vp_lt y1)).2.1 fvi ?_
        obtain ⟨Q8, hC9, k⟩ := k
        refine gcVN_I (pc2 := 92) (dC := 1) (As := [.int (h5.1 (77 + 12 * (x1).toNatClampNeg) 2)]) (st := []) rfl dX10_racks_89 rfl w_1019 ok_X3_isUnder vi_X3_isUnder (isPl_6 _ (vp_lt y7)) (by decide) rfl rfl rfl (by decide) (Nat.le_of_ble_eq_true rfl) hC9 (fun v10 h11 hq12 => ?_)
        have k := k v10 h11 hq12
        refine go_if_ne (pc2 := 95) (tgt := 98) dX10_racks_92 rfl (by decide) (fun c => ?_) (fun c => ?_)
        · have k := k.1 c
          refine go_aload (pc2 := 100) dX10_racks_98 rfl rfl ?_
          refine gf_352 (pc2 := 103) rfl dX10_racks_100 rfl (ra_67 _ (vp_lt y1)).2.1 (fvs (ra_67 _ (vp_lt y1)).2.2.1) ?_
          refine go_iload_n (pc2 := 104) dX10_racks_103 rfl rfl rfl ?_
          obtain ⟨y13, k⟩ := k
          refine go_aaload (pc2 := 105) (t := 0) dX10_racks_104 rfl (by decide) (ra_67 _ (vp_lt y1)).2.2.2.2.1 y13 rfl (rfo_s ((ra_67 _ (vp_lt y1)).2.2.2.2.2.2 _ (vp_lt y13)).1) ?_
          refine go_aload_n (pc2 := 106) dX10_racks_105 rfl rfl rfl ?_
          refine gf_369 (pc2 := 109) rfl dX10_racks_106 rfl c_0 (fvs r_0_0) ?_
          refine gf_119 (pc2 := 112) rfl dX10_racks_109 rfl c_1 (fvs r_1_4) ?_
          refine go_iload_n (pc2 := 113) dX10_racks_112 rfl rfl rfl ?_
          obtain ⟨y14, k⟩ := k
          refine go_aaload (pc2 := 114) (t := 0) dX10_racks_113 rfl (by decide) c_5 y14 rfl (rfo_s (ra_5 _ (vp_lt y14))) ?_
          obtain ⟨Q15, hC16, k⟩ := k
          refine gcVN_V (pc2 := 117) (dC := 0) (As := [.ref (6 + (x3).toNatClampNeg)]) (st := []) rfl dX10_racks_114 rfl w_1020 ok_X3_copyFrom vi_X3_copyFrom ((ra_67 _ (vp_lt y1)).2.2.2.2.2.2 _ (vp_lt y13)).2 (by decide) rfl rfl rfl (by decide) (Nat.le_of_ble_eq_true rfl) hC16 (fun h18 hq19 => ?_)
          have k := k h18 hq19
          refine go_aload (pc2 := 119) dX10_racks_117 rfl rfl ?_
          refine gf_354 (pc2 := 122) rfl dX10_racks_119 rfl (ra_67 _ (vp_lt y1)).2.1 (fvs (ra_67 _ (vp_lt y1)).2.2.2.1) ?_
          refine go_iload_n (pc2 := 123) dX10_racks_122 rfl rfl rfl ?_
          refine go_iconst (pc2 := 124) (v := (1 : Int32)) dX10_racks_123 rfl (by decide) ?_
          obtain ⟨y20, k⟩ := k
          refine go_bastore (pc2 := 125) (j := (x2).toNatClampNeg) dX10_racks_124 rfl (ra_67 _ (vp_lt y1)).2.2.2.2.2.1 y20 rfl rfl ?_
          obtain ⟨g21, eg21⟩ : ∃ y : Hp, y = (ui h18 ((77 + 12 * (x1).toNatClampNeg) + 2) (x2).toNatClampNeg (1 : Int32)) := ⟨_, rfl⟩
          rw [← eg21]
          have k := k g21 eg21
          refine go_iconst (pc2 := 126) (v := (1 : Int32)) dX10_racks_125 rfl (by decide) ?_
          exact go_iret dX10_racks_126 ⟨_, rfl, rfl⟩ ⟨rfl, _, rfl, k⟩
        · have k := k.2 c
          refine go_bipush (pc2 := 97) (v := (-16 : Int32)) dX10_racks_95 rfl (by decide) ?_
          exact go_iret dX10_racks_97 ⟨_, rfl, rfl⟩ ⟨rfl, _, rfl, k⟩
      · have k := k.2 c
        refine go_aload (pc2 := 67) dX10_racks_65 rfl rfl ?_
        refine gf_354 (pc2 := 70) rfl dX10_racks_67 rfl (ra_67 _ (vp_lt y1)).2.1 (fvs (ra_67 _ (vp_lt y1)).2.2.2.1) ?_
        refine go_iload_n (pc2 := 71) dX10_racks_70 rfl rfl rfl ?_
        refine go_iconst (pc2 := 72) (v := (0 : Int32)) dX10_racks_71 rfl (by decide) ?_
        obtain ⟨y22, k⟩ := k
        refine go_bastore (pc2 := 73) (j := (x2).toNatClampNeg) dX10_racks_72 rfl (ra_67 _ (vp_lt y1)).2.2.2.2.2.1 y22 rfl rfl ?_
        obtain ⟨g23, eg23⟩ : ∃ y : Hp, y = (ui h5 ((77 + 12 * (x1).toNatClampNeg) + 2) (x2).toNatClampNeg (0 : Int32)) := ⟨_, rfl⟩
        rw [← eg23]
        have k := k g23 eg23
        refine go_iconst (pc2 := 74) (v := (1 : Int32)) dX10_racks_73 rfl (by decide) ?_
        exact go_iret dX10_racks_74 ⟨_, rfl, rfl⟩ ⟨rfl, _, rfl, k⟩
    · have k := k.2 c
      refine go_bipush (pc2 := 59) (v := (-13 : Int32)) dX10_racks_57 rfl (by decide) ?_
      exact go_iret dX10_racks_59 ⟨_, rfl, rfl⟩ ⟨rfl, _, rfl, k⟩
  · have k := k.2 c
    refine go_bipush (pc2 := 47) (v := (-11 : Int32)) dX10_racks_45 rfl (by decide) ?_
    exact go_iret dX10_racks_47 ⟨_, rfl, rfl⟩ ⟨rfl, _, rfl, k⟩
theorem e_X10_racked {x1 : Int32} {x2 : Int32} {x3 : Int32} {h : Hp} {Q : Int32 → Hp → Prop}  (k : (∃ Q1, CtI 0 mX10_noRack [.int x1] h Q1 ∧ ∀ (v3 : Int32) (h4 : Hp), Q1 v3 h4 → ((v3 = 0 → (((1 : Int32) ≤ x3 → ((x3 ≤ (9 : Int32) → (vp_in x1 3 ∧ ((0 ≤ (h4.1 (77 + 12 * (x1).toNatClampNeg) 3) → (∃ Q7, CtI 0 mX6_noPlace [.ref (77 + 12 * (x1).toNatClampNeg), .int x2] h4 Q7 ∧ ∀ (v9 : Int32) (h10 : Hp), Q7 v9 h10 → ((v9 = 0 → (vp_in x2 9 ∧ (((h10.1 ((77 + 12 * (x1).toNatClampNeg) + 2) (x2).toNatClampNeg) = 0 → Q (-9 : Int32) h10) ∧ (¬ (h10.1 ((77 + 12 * (x1).toNatClampNeg) + 2) (x2).toNatClampNeg) = 0 → (vp_in x2 9 ∧ (∃ Q14, CtI 2 mX3_startBehind [.ref ((77 + 12 * (x1).toNatClampNeg) + 3 + (x2).toNatClampNeg), .int x3] h10 Q14 ∧ ∀ (v16 : Int32) (h17 : Hp), Q14 v16 h17 → Q v16 h17)))))) ∧ (¬ v9 = 0 → Q (-13 : Int32) h10)))) ∧ (¬ (0 ≤ (h4.1 (77 + 12 * (x1).toNatClampNeg) 3)) → Q (-11 : Int32) h4)))) ∧ (¬ (x3 ≤ (9 : Int32)) → (∃ Q19, CtI 0 mX10_refuse [.ref 0, .int (-6 : Int32)] h4 Q19 ∧ ∀ (v21 : Int32) (h22 : Hp), Q19 v21 h22 → Q v21 h22)))) ∧ (¬ ((1 : Int32) ≤ x3) → (∃ Q24, CtI 0 mX10_refuse [.ref 0, .int (-4 : Int32)] h4 Q24 ∧ ∀ (v26 : Int32) (h27 : Hp), Q24 v26 h27 → Q v26 h27)))) ∧ (¬ v3 = 0 → (∃ Q29, CtI 0 mX10_refuse [.ref 0, .int (-1 : Int32)] h4 Q29 ∧ ∀ (v31 : Int32) (h32 : Hp), Q29 v31 h32 → Q v31 h32))))) : CtI 3 mX10_racked [.ref 0, .int x1, .int x2, .int x3] h Q := by
  refine Ct.of (by decide +kernel) (Nat.le_of_ble_eq_true rfl) ?_
  show GoI 3 mX10_racked 0 [(0, .ref 0), (1, .int x1), (2, .int x2), (3, .int x3)] [] h Q
  refine go_iload_n (pc2 := 1) dX10_racked_0 rfl rfl rfl ?_
  obtain ⟨Q1, hC2, k⟩ := k
  refine gcS_I (pc2 := 4) (dC := 0) (As := [.int x1]) (st := []) rfl dX10_racked_1 rfl w_1004 ok_X10_noRack w_1005 rfl (by decide) (Nat.le_of_ble_eq_true rfl) hC2 (fun v3 h4 hq5 => ?_)
  have k := k v3 h4 hq5
  refine go_if_eq (pc2 := 7) (tgt := 13) dX10_racked_4 rfl (by decide) (fun c => ?_) (fun c => ?_)
  · have k := k.1 c
    refine go_iload_n (pc2 := 14) dX10_racked_13 rfl rfl rfl ?_
    refine go_iconst (pc2 := 15) (v := (1 : Int32)) dX10_racked_14 rfl (by decide) ?_
    refine go_icmp_ge (pc2 := 18) (tgt := 25) dX10_racked_15 rfl (by decide) (fun c => ?_) (fun c => ?_)
    · have k := k.1 c
      refine go_iload_n (pc2 := 26) dX10_racked_25 rfl rfl rfl ?_
      refine go_bipush (pc2 := 28) (v := (9 : Int32)) dX10_racked_26 rfl (by decide) ?_
      refine go_icmp_le (pc2 := 31) (tgt := 38) dX10_racked_28 rfl (by decide) (fun c => ?_) (fun c => ?_)
      · have k := k.1 c
        refine go_aload_n (pc2 := 39) dX10_racked_38 rfl rfl rfl ?_
        refine gf_380 (pc2 := 42) rfl dX10_racked_39 rfl c_0 (fvs r_0_11) ?_
        refine go_iload_n (pc2 := 43) dX10_racked_42 rfl rfl rfl ?_
        obtain ⟨y6, k⟩ := k
        refine go_aaload (pc2 := 44) (t := 2) dX10_racked_43 rfl (by decide) c_67 y6 rfl (rfo_s (ra_67 _ (vp_lt y6)).1) ?_
        refine go_astore (pc2 := 46) (ls2 := [(0, .ref 0), (1, .int x1), (2, .int x2), (3, .int x3), (4, .ref (77 + 12 * (x1).toNatClampNeg))]) dX10_racked_44 rfl rfl rfl rfl rfl ?_
        refine go_aload (pc2 := 48) dX10_racked_46 rfl rfl ?_
        refine gf_358 (pc2 := 51) rfl dX10_racked_48 rfl (ra_67 _ (vp_lt y6)).2.1 fvi ?_
        refine go_if_ge (pc2 := 54) (tgt := 57) dX10_racked_51 rfl (by decide) (fun c => ?_) (fun c => ?_)
        · have k := k.1 c
          refine go_aload (pc2 := 59) dX10_racked_57 rfl rfl ?_
          refine go_iload_n (pc2 := 60) dX10_racked_59 rfl rfl rfl ?_
          obtain ⟨Q7, hC8, k⟩ := k
          refine gcVN_I (pc2 := 63) (dC := 0) (As := [.int x2]) (st := []) rfl dX10_racked_60 rfl w_1015 ok_X6_noPlace vi_X6_noPlace (ra_67 _ (vp_lt y6)).2.1 (by decide) rfl rfl rfl (by decide) (Nat.le_of_ble_eq_true rfl) hC8 (fun v9 h10 hq11 => ?_)
          have k := k v9 h10 hq11
          refine go_if_eq (pc2 := 66) (tgt := 69) dX10_racked_63 rfl (by decide) (fun c => ?_) (fun c => ?_)
          · have k := k.1 c
            refine go_aload (pc2 := 71) dX10_racked_69 rfl rfl ?_
            refine gf_354 (pc2 := 74) rfl dX10_racked_71 rfl (ra_67 _ (vp_lt y6)).2.1 (fvs (ra_67 _ (vp_lt y6)).2.2.2.1) ?_
            refine go_iload_n (pc2 := 75) dX10_racked_74 rfl rfl rfl ?_
            obtain ⟨y12, k⟩ := k
            refine go_baload (pc2 := 76) (j := (x2).toNatClampNeg) dX10_racked_75 rfl (ra_67 _ (vp_lt y6)).2.2.2.2.2.1 y12 rfl ?_
            refine go_if_eq (pc2 := 79) (tgt := 93) dX10_racked_76 rfl (by decide) (fun c => ?_) (fun c => ?_)
            · have k := k.1 c
              refine go_bipush (pc2 := 95) (v := (-9 : Int32)) dX10_racked_93 rfl (by decide) ?_
              exact go_iret dX10_racked_95 ⟨_, rfl, rfl⟩ ⟨rfl, _, rfl, k⟩
            · have k := k.2 c
              refine go_aload (pc2 := 81) dX10_racked_79 rfl rfl ?_
              refine gf_352 (pc2 := 84) rfl dX10_racked_81 rfl (ra_67 _ (vp_lt y6)).2.1 (fvs (ra_67 _ (vp_lt y6)).2.2.1) ?_
              refine go_iload_n (pc2 := 85) dX10_racked_84 rfl rfl rfl ?_
              obtain ⟨y13, k⟩ := k
              refine go_aaload (pc2 := 86) (t := 0) dX10_racked_85 rfl (by decide) (ra_67 _ (vp_lt y6)).2.2.2.2.1 y13 rfl (rfo_s ((ra_67 _ (vp_lt y6)).2.2.2.2.2.2 _ (vp_lt y13)).1) ?_
              refine go_iload_n (pc2 := 87) dX10_racked_86 rfl rfl rfl ?_
              obtain ⟨Q14, hC15, k⟩ := k
              refine gcVN_I (pc2 := 90) (dC := 2) (As := [.int x3]) (st := []) rfl dX10_racked_87 rfl w_646 ok_X3_startBehind vi_X3_startBehind ((ra_67 _ (vp_lt y6)).2.2.2.2.2.2 _ (vp_lt y13)).2 (by decide) rfl rfl rfl (by decide) (Nat.le_of_ble_eq_true rfl) hC15 (fun v16 h17 hq18 => ?_)
              have k := k v16 h17 hq18
              refine go_goto (tgt := 95) dX10_racked_90 (by decide) ?_
              exact go_iret dX10_racked_95 ⟨_, rfl, rfl⟩ ⟨rfl, _, rfl, k⟩
          · have k := k.2 c
            refine go_bipush (pc2 := 68) (v := (-13 : Int32)) dX10_racked_66 rfl (by decide) ?_
            exact go_iret dX10_racked_68 ⟨_, rfl, rfl⟩ ⟨rfl, _, rfl, k⟩
        · have k := k.2 c
          refine go_bipush (pc2 := 56) (v := (-11 : Int32)) dX10_racked_54 rfl (by decide) ?_
          exact go_iret dX10_racked_56 ⟨_, rfl, rfl⟩ ⟨rfl, _, rfl, k⟩
      · have k := k.2 c
        refine go_aload_n (pc2 := 32) dX10_racked_31 rfl rfl rfl ?_
        refine go_bipush (pc2 := 34) (v := (-6 : Int32)) dX10_racked_32 rfl (by decide) ?_
        obtain ⟨Q19, hC20, k⟩ := k
        refine gcV_I (pc2 := 37) (dC := 0) (As := [.int (-6 : Int32)]) (st := []) rfl dX10_racked_34 rfl w_413 ok_X10_refuse vi_X10_refuse c_0 (by decide) rfl rfl rfl (by decide) (Nat.le_of_ble_eq_true rfl) hC20 (fun v21 h22 hq23 => ?_)
        have k := k v21 h22 hq23
        exact go_iret dX10_racked_37 ⟨_, rfl, rfl⟩ ⟨rfl, _, rfl, k⟩
    · have k := k.2 c
      refine go_aload_n (pc2 := 19) dX10_racked_18 rfl rfl rfl ?_
      refine go_bipush (pc2 := 21) (v := (-4 : Int32)) dX10_racked_19 rfl (by decide) ?_
      obtain ⟨Q24, hC25, k⟩ := k
      refine gcV_I (pc2 := 24) (dC := 0) (As := [.int (-4 : Int32)]) (st := []) rfl dX10_racked_21 rfl w_413 ok_X10_refuse vi_X10_refuse c_0 (by decide) rfl rfl rfl (by decide) (Nat.le_of_ble_eq_true rfl) hC25 (fun v26 h27 hq28 => ?_)
      have k := k v26 h27 hq28
      exact go_iret dX10_racked_24 ⟨_, rfl, rfl⟩ ⟨rfl, _, rfl, k⟩
  · have k := k.2 c
    refine go_aload_n (pc2 := 8) dX10_racked_7 rfl rfl rfl ?_
    refine go_iconst (pc2 := 9) (v := (-1 : Int32)) dX10_racked_8 rfl (by decide) ?_
    obtain ⟨Q29, hC30, k⟩ := k
    refine gcV_I (pc2 := 12) (dC := 0) (As := [.int (-1 : Int32)]) (st := []) rfl dX10_racked_9 rfl w_413 ok_X10_refuse vi_X10_refuse c_0 (by decide) rfl rfl rfl (by decide) (Nat.le_of_ble_eq_true rfl) hC30 (fun v31 h32 hq33 => ?_)
    have k := k v31 h32 hq33
    exact go_iret dX10_racked_12 ⟨_, rfl, rfl⟩ ⟨rfl, _, rfl, k⟩
theorem e_X10_like {x1 : Int32} {x2 : Int32} {h : Hp} {Q : Int32 → Hp → Prop}  (k : (∃ Q1, CtI 0 mX10_noRack [.int x1] h Q1 ∧ ∀ (v3 : Int32) (h4 : Hp), Q1 v3 h4 → ((¬ v3 = 0 → (∃ Q6, CtI 0 mX10_refuse [.ref 0, .int (-1 : Int32)] h4 Q6 ∧ ∀ (v8 : Int32) (h9 : Hp), Q6 v8 h9 → Q v8 h9)) ∧ (v3 = 0 → (∃ Q11, CtI 0 mX10_noRack [.int x2] h4 Q11 ∧ ∀ (v13 : Int32) (h14 : Hp), Q11 v13 h14 → ((v13 = 0 → (vp_in x2 3 ∧ ((0 ≤ (h14.1 (77 + 12 * (x2).toNatClampNeg) 3) → (vp_in x1 3 ∧ (vp_in x2 3 ∧ (∃ Q19, CtV 1 mX6_copyFrom [.ref (77 + 12 * (x1).toNatClampNeg), .ref (77 + 12 * (x2).toNatClampNeg)] h14 Q19 ∧ ∀ h22 : Hp, Q19 h22 → (vp_in x1 3 ∧ Q (h22.1 (77 + 12 * (x1).toNatClampNeg) 3) h22))))) ∧ (¬ (0 ≤ (h14.1 (77 + 12 * (x2).toNatClampNeg) 3)) → Q (-11 : Int32) h14)))) ∧ (¬ v13 = 0 → (∃ Q25, CtI 0 mX10_refuse [.ref 0, .int (-1 : Int32)] h14 Q25 ∧ ∀ (v27 : Int32) (h28 : Hp), Q25 v27 h28 → Q v27 h28)))))))) : CtI 2 mX10_like [.ref 0, .int x1, .int x2] h Q := by
  refine Ct.of (by decide +kernel) (Nat.le_of_ble_eq_true rfl) ?_
  show GoI 2 mX10_like 0 [(0, .ref 0), (1, .int x1), (2, .int x2)] [] h Q
  refine go_iload_n (pc2 := 1) dX10_like_0 rfl rfl rfl ?_
  obtain ⟨Q1, hC2, k⟩ := k
  refine gcS_I (pc2 := 4) (dC := 0) (As := [.int x1]) (st := []) rfl dX10_like_1 rfl w_1004 ok_X10_noRack w_1005 rfl (by decide) (Nat.le_of_ble_eq_true rfl) hC2 (fun v3 h4 hq5 => ?_)
  have k := k v3 h4 hq5
  refine go_if_ne (pc2 := 7) (tgt := 14) dX10_like_4 rfl (by decide) (fun c => ?_) (fun c => ?_)
  · have k := k.1 c
    refine go_aload_n (pc2 := 15) dX10_like_14 rfl rfl rfl ?_
    refine go_iconst (pc2 := 16) (v := (-1 : Int32)) dX10_like_15 rfl (by decide) ?_
    obtain ⟨Q6, hC7, k⟩ := k
    refine gcV_I (pc2 := 19) (dC := 0) (As := [.int (-1 : Int32)]) (st := []) rfl dX10_like_16 rfl w_413 ok_X10_refuse vi_X10_refuse c_0 (by decide) rfl rfl rfl (by decide) (Nat.le_of_ble_eq_true rfl) hC7 (fun v8 h9 hq10 => ?_)
    have k := k v8 h9 hq10
    exact go_iret dX10_like_19 ⟨_, rfl, rfl⟩ ⟨rfl, _, rfl, k⟩
  · have k := k.2 c
    refine go_iload_n (pc2 := 8) dX10_like_7 rfl rfl rfl ?_
    obtain ⟨Q11, hC12, k⟩ := k
    refine gcS_I (pc2 := 11) (dC := 0) (As := [.int x2]) (st := []) rfl dX10_like_8 rfl w_1004 ok_X10_noRack w_1005 rfl (by decide) (Nat.le_of_ble_eq_true rfl) hC12 (fun v13 h14 hq15 => ?_)
    have k := k v13 h14 hq15
    refine go_if_eq (pc2 := 14) (tgt := 20) dX10_like_11 rfl (by decide) (fun c => ?_) (fun c => ?_)
    · have k := k.1 c
      refine go_aload_n (pc2 := 21) dX10_like_20 rfl rfl rfl ?_
      refine gf_380 (pc2 := 24) rfl dX10_like_21 rfl c_0 (fvs r_0_11) ?_
      refine go_iload_n (pc2 := 25) dX10_like_24 rfl rfl rfl ?_
      obtain ⟨y16, k⟩ := k
      refine go_aaload (pc2 := 26) (t := 2) dX10_like_25 rfl (by decide) c_67 y16 rfl (rfo_s (ra_67 _ (vp_lt y16)).1) ?_
      refine gf_358 (pc2 := 29) rfl dX10_like_26 rfl (ra_67 _ (vp_lt y16)).2.1 fvi ?_
      refine go_if_ge (pc2 := 32) (tgt := 35) dX10_like_29 rfl (by decide) (fun c => ?_) (fun c => ?_)
      · have k := k.1 c
        refine go_aload_n (pc2 := 36) dX10_like_35 rfl rfl rfl ?_
        refine gf_380 (pc2 := 39) rfl dX10_like_36 rfl c_0 (fvs r_0_11) ?_
        refine go_iload_n (pc2 := 40) dX10_like_39 rfl rfl rfl ?_
        obtain ⟨y17, k⟩ := k
        refine go_aaload (pc2 := 41) (t := 2) dX10_like_40 rfl (by decide) c_67 y17 rfl (rfo_s (ra_67 _ (vp_lt y17)).1) ?_
        refine go_aload_n (pc2 := 42) dX10_like_41 rfl rfl rfl ?_
        refine gf_380 (pc2 := 45) rfl dX10_like_42 rfl c_0 (fvs r_0_11) ?_
        refine go_iload_n (pc2 := 46) dX10_like_45 rfl rfl rfl ?_
        obtain ⟨y18, k⟩ := k
        refine go_aaload (pc2 := 47) (t := 2) dX10_like_46 rfl (by decide) c_67 y18 rfl (rfo_s (ra_67 _ (vp_lt y18)).1) ?_
        obtain ⟨Q19, hC20, k⟩ := k
        refine gcVN_V (pc2 := 50) (dC := 1) (As := [.ref (77 + 12 * (x2).toNatClampNeg)]) (st := []) rfl dX10_like_47 rfl w_1029 ok_X6_copyFrom vi_X6_copyFrom (ra_67 _ (vp_lt y17)).2.1 (by decide) rfl rfl rfl (by decide) (Nat.le_of_ble_eq_true rfl) hC20 (fun h22 hq23 => ?_)
        have k := k h22 hq23
        refine go_aload_n (pc2 := 51) dX10_like_50 rfl rfl rfl ?_
        refine gf_380 (pc2 := 54) rfl dX10_like_51 rfl c_0 (fvs r_0_11) ?_
        refine go_iload_n (pc2 := 55) dX10_like_54 rfl rfl rfl ?_
        obtain ⟨y24, k⟩ := k
        refine go_aaload (pc2 := 56) (t := 2) dX10_like_55 rfl (by decide) c_67 y24 rfl (rfo_s (ra_67 _ (vp_lt y24)).1) ?_
        refine gf_358 (pc2 := 59) rfl dX10_like_56 rfl (ra_67 _ (vp_lt y24)).2.1 fvi ?_
        exact go_iret dX10_like_59 ⟨_, rfl, rfl⟩ ⟨rfl, _, rfl, k⟩
      · have k := k.2 c
        refine go_bipush (pc2 := 34) (v := (-11 : Int32)) dX10_like_32 rfl (by decide) ?_
        exact go_iret dX10_like_34 ⟨_, rfl, rfl⟩ ⟨rfl, _, rfl, k⟩
    · have k := k.2 c
      refine go_aload_n (pc2 := 15) dX10_like_14 rfl rfl rfl ?_
      refine go_iconst (pc2 := 16) (v := (-1 : Int32)) dX10_like_15 rfl (by decide) ?_
      obtain ⟨Q25, hC26, k⟩ := k
      refine gcV_I (pc2 := 19) (dC := 0) (As := [.int (-1 : Int32)]) (st := []) rfl dX10_like_16 rfl w_413 ok_X10_refuse vi_X10_refuse c_0 (by decide) rfl rfl rfl (by decide) (Nat.le_of_ble_eq_true rfl) hC26 (fun v27 h28 hq29 => ?_)
      have k := k v27 h28 hq29
      exact go_iret dX10_like_19 ⟨_, rfl, rfl⟩ ⟨rfl, _, rfl, k⟩
theorem e_X10_image  {h : Hp} {Q : Int32 → Hp → Prop}  (k : (∃ Q1, CtV 1 mX5_copyFrom [.ref 17, .ref 1] h Q1 ∧ ∀ h4 : Hp, Q1 h4 → (∀ g6 : Hp, g6 = (ui h4 0 3 (1 : Int32)) → Q (g6.1 1 5) g6))) : CtI 2 mX10_image [.ref 0] h Q := by
  refine Ct.of (by decide +kernel) (Nat.le_of_ble_eq_true rfl) ?_
  show GoI 2 mX10_image 0 [(0, .ref 0)] [] h Q
  refine go_aload_n (pc2 := 1) dX10_image_0 rfl rfl rfl ?_
  refine gf_371 (pc2 := 4) rfl dX10_image_1 rfl c_0 (fvs r_0_2) ?_
  refine go_aload_n (pc2 := 5) dX10_image_4 rfl rfl rfl ?_
  refine gf_369 (pc2 := 8) rfl dX10_image_5 rfl c_0 (fvs r_0_0) ?_
  obtain ⟨Q1, hC2, k⟩ := k
  refine gcVN_V (pc2 := 11) (dC := 1) (As := [.ref 1]) (st := []) rfl dX10_image_8 rfl w_425 ok_X5_copyFrom vi_X5_copyFrom c_17 (by decide) rfl rfl rfl (by decide) (Nat.le_of_ble_eq_true rfl) hC2 (fun h4 hq5 => ?_)
  have k := k h4 hq5
  refine go_aload_n (pc2 := 12) dX10_image_11 rfl rfl rfl ?_
  refine go_iconst (pc2 := 13) (v := (1 : Int32)) dX10_image_12 rfl (by decide) ?_
  refine pf_372 (pc2 := 16) rfl dX10_image_13 rfl c_0 rfl rfl ?_
  obtain ⟨g6, eg6⟩ : ∃ y : Hp, y = (ui h4 0 3 (1 : Int32)) := ⟨_, rfl⟩
  rw [← eg6]
  have k := k g6 eg6
  refine go_aload_n (pc2 := 17) dX10_image_16 rfl rfl rfl ?_
  refine gf_369 (pc2 := 20) rfl dX10_image_17 rfl c_0 (fvs r_0_0) ?_
  refine gf_126 (pc2 := 23) rfl dX10_image_20 rfl c_1 fvi ?_
  exact go_iret dX10_image_23 ⟨_, rfl, rfl⟩ ⟨rfl, _, rfl, k⟩
theorem e_X10_on  {h : Hp} {Q : Int32 → Hp → Prop}  (k : ((¬ (h.1 0 3) = 0 → (∃ Q1, CtV 1 mX5_copyFrom [.ref 1, .ref 17] h Q1 ∧ ∀ h4 : Hp, Q1 h4 → Q (h4.1 1 5) h4)) ∧ ((h.1 0 3) = 0 → (∃ Q6, CtI 0 mX10_refuse [.ref 0, .int (-3 : Int32)] h Q6 ∧ ∀ (v8 : Int32) (h9 : Hp), Q6 v8 h9 → Q v8 h9)))) : CtI 2 mX10_on [.ref 0] h Q := by
  refine Ct.of (by decide +kernel) (Nat.le_of_ble_eq_true rfl) ?_
  show GoI 2 mX10_on 0 [(0, .ref 0)] [] h Q
  refine go_aload_n (pc2 := 1) dX10_on_0 rfl rfl rfl ?_
  refine gf_372 (pc2 := 4) rfl dX10_on_1 rfl c_0 fvi ?_
  refine go_if_ne (pc2 := 7) (tgt := 14) dX10_on_4 rfl (by decide) (fun c => ?_) (fun c => ?_)
  · have k := k.1 c
    refine go_aload_n (pc2 := 15) dX10_on_14 rfl rfl rfl ?_
    refine gf_369 (pc2 := 18) rfl dX10_on_15 rfl c_0 (fvs r_0_0) ?_
    refine go_aload_n (pc2 := 19) dX10_on_18 rfl rfl rfl ?_
    refine gf_371 (pc2 := 22) rfl dX10_on_19 rfl c_0 (fvs r_0_2) ?_
    obtain ⟨Q1, hC2, k⟩ := k
    refine gcVN_V (pc2 := 25) (dC := 1) (As := [.ref 17]) (st := []) rfl dX10_on_22 rfl w_425 ok_X5_copyFrom vi_X5_copyFrom c_1 (by decide) rfl rfl rfl (by decide) (Nat.le_of_ble_eq_true rfl) hC2 (fun h4 hq5 => ?_)
    have k := k h4 hq5
    refine go_aload_n (pc2 := 26) dX10_on_25 rfl rfl rfl ?_
    refine gf_369 (pc2 := 29) rfl dX10_on_26 rfl c_0 (fvs r_0_0) ?_
    refine gf_126 (pc2 := 32) rfl dX10_on_29 rfl c_1 fvi ?_
    exact go_iret dX10_on_32 ⟨_, rfl, rfl⟩ ⟨rfl, _, rfl, k⟩
  · have k := k.2 c
    refine go_aload_n (pc2 := 8) dX10_on_7 rfl rfl rfl ?_
    refine go_bipush (pc2 := 10) (v := (-3 : Int32)) dX10_on_8 rfl (by decide) ?_
    obtain ⟨Q6, hC7, k⟩ := k
    refine gcV_I (pc2 := 13) (dC := 0) (As := [.int (-3 : Int32)]) (st := []) rfl dX10_on_10 rfl w_413 ok_X10_refuse vi_X10_refuse c_0 (by decide) rfl rfl rfl (by decide) (Nat.le_of_ble_eq_true rfl) hC7 (fun v8 h9 hq10 => ?_)
    have k := k v8 h9 hq10
    exact go_iret dX10_on_13 ⟨_, rfl, rfl⟩ ⟨rfl, _, rfl, k⟩
theorem e_X10_count {x1 : Int32} {h : Hp} {Q : Int32 → Hp → Prop}  (k : ((x1 < (11 : Int32) → GoI 1 mX10_count 22 [(0, .ref 0), (1, .int x1)] [] h Q) ∧ (¬ (x1 < (11 : Int32)) → (((16 : Int32) < x1 → GoI 1 mX10_count 22 [(0, .ref 0), (1, .int x1)] [] h Q) ∧ (¬ ((16 : Int32) < x1) → (vp_in (x1 - (10 : Int32)) 7 ∧ Q (h.1 68 ((x1 - (10 : Int32))).toNatClampNeg) h)))))) : CtI 1 mX10_count [.ref 0, .int x1] h Q := by
  refine Ct.of (by decide +kernel) (Nat.le_of_ble_eq_true rfl) ?_
  show GoI 1 mX10_count 0 [(0, .ref 0), (1, .int x1)] [] h Q
  refine go_iload_n (pc2 := 1) dX10_count_0 rfl rfl rfl ?_
  refine go_bipush (pc2 := 3) (v := (11 : Int32)) dX10_count_1 rfl (by decide) ?_
  refine go_icmp_lt (pc2 := 6) (tgt := 22) dX10_count_3 rfl (by decide) (fun c => ?_) (fun c => ?_)
  · have k := k.1 c
    exact k
  · have k := k.2 c
    refine go_iload_n (pc2 := 7) dX10_count_6 rfl rfl rfl ?_
    refine go_bipush (pc2 := 9) (v := (16 : Int32)) dX10_count_7 rfl (by decide) ?_
    refine go_icmp_gt (pc2 := 12) (tgt := 22) dX10_count_9 rfl (by decide) (fun c => ?_) (fun c => ?_)
    · have k := k.1 c
      exact k
    · have k := k.2 c
      refine go_aload_n (pc2 := 13) dX10_count_12 rfl rfl rfl ?_
      refine gf_381 (pc2 := 16) rfl dX10_count_13 rfl c_0 (fvs r_0_12) ?_
      refine go_iload_n (pc2 := 17) dX10_count_16 rfl rfl rfl ?_
      refine go_bipush (pc2 := 19) (v := (10 : Int32)) dX10_count_17 rfl (by decide) ?_
      refine go_isub (pc2 := 20) dX10_count_19 rfl ?_
      obtain ⟨y1, k⟩ := k
      refine go_iaload (pc2 := 21) (j := ((x1 - (10 : Int32))).toNatClampNeg) dX10_count_20 rfl c_68 y1 rfl ?_
      exact go_iret dX10_count_21 ⟨_, rfl, rfl⟩ ⟨rfl, _, rfl, k⟩
theorem b_X10_count_22 {x1 : Int32} {h : Hp} {Q : Int32 → Hp → Prop}  (k : ((x1 = (0 : Int32) → Q (h.1 1 5) h) ∧ (¬ x1 = (0 : Int32) → ((x1 = (1 : Int32) → Q (h.1 1 0) h) ∧ (¬ x1 = (1 : Int32) → ((x1 = (2 : Int32) → Q (h.1 1 6) h) ∧ (¬ x1 = (2 : Int32) → ((x1 = (3 : Int32) → Q (h.1 1 7) h) ∧ (¬ x1 = (3 : Int32) → ((x1 = (4 : Int32) → Q (h.1 25 1) h) ∧ (¬ x1 = (4 : Int32) → ((x1 = (5 : Int32) → (∃ Q1, CtI 0 mX5_demandOfAll [.ref 1] h Q1 ∧ ∀ (v3 : Int32) (h4 : Hp), Q1 v3 h4 → Q v3 h4)) ∧ (¬ x1 = (5 : Int32) → Q (-9 : Int32) h))))))))))))) : GoI 1 mX10_count 22 [(0, .ref 0), (1, .int x1)] [] h Q := by
  refine go_iload_n (pc2 := 23) dX10_count_22 rfl rfl rfl ?_
  by_cases cs0 : x1 = (0 : Int32)
  · have k := k.1 cs0
    refine go_tsEq (tgt := 60) dX10_count_23 cs0 (by decide) (by decide) rfl (by decide) ?_
    refine go_aload_n (pc2 := 61) dX10_count_60 rfl rfl rfl ?_
    refine gf_369 (pc2 := 64) rfl dX10_count_61 rfl c_0 (fvs r_0_0) ?_
    refine gf_126 (pc2 := 67) rfl dX10_count_64 rfl c_1 fvi ?_
    exact go_iret dX10_count_67 ⟨_, rfl, rfl⟩ ⟨rfl, _, rfl, k⟩
  have k := k.2 cs0
  by_cases cs1 : x1 = (1 : Int32)
  · have k := k.1 cs1
    refine go_tsEq (tgt := 68) dX10_count_23 cs1 (by decide) (by decide) rfl (by decide) ?_
    refine go_aload_n (pc2 := 69) dX10_count_68 rfl rfl rfl ?_
    refine gf_369 (pc2 := 72) rfl dX10_count_69 rfl c_0 (fvs r_0_0) ?_
    refine gf_101 (pc2 := 75) rfl dX10_count_72 rfl c_1 fvi ?_
    exact go_iret dX10_count_75 ⟨_, rfl, rfl⟩ ⟨rfl, _, rfl, k⟩
  have k := k.2 cs1
  by_cases cs2 : x1 = (2 : Int32)
  · have k := k.1 cs2
    refine go_tsEq (tgt := 76) dX10_count_23 cs2 (by decide) (by decide) rfl (by decide) ?_
    refine go_aload_n (pc2 := 77) dX10_count_76 rfl rfl rfl ?_
    refine gf_369 (pc2 := 80) rfl dX10_count_77 rfl c_0 (fvs r_0_0) ?_
    refine gf_129 (pc2 := 83) rfl dX10_count_80 rfl c_1 fvi ?_
    exact go_iret dX10_count_83 ⟨_, rfl, rfl⟩ ⟨rfl, _, rfl, k⟩
  have k := k.2 cs2
  by_cases cs3 : x1 = (3 : Int32)
  · have k := k.1 cs3
    refine go_tsEq (tgt := 84) dX10_count_23 cs3 (by decide) (by decide) rfl (by decide) ?_
    refine go_aload_n (pc2 := 85) dX10_count_84 rfl rfl rfl ?_
    refine gf_369 (pc2 := 88) rfl dX10_count_85 rfl c_0 (fvs r_0_0) ?_
    refine gf_132 (pc2 := 91) rfl dX10_count_88 rfl c_1 fvi ?_
    exact go_iret dX10_count_91 ⟨_, rfl, rfl⟩ ⟨rfl, _, rfl, k⟩
  have k := k.2 cs3
  by_cases cs4 : x1 = (4 : Int32)
  · have k := k.1 cs4
    refine go_tsEq (tgt := 92) dX10_count_23 cs4 (by decide) (by decide) rfl (by decide) ?_
    refine go_aload_n (pc2 := 93) dX10_count_92 rfl rfl rfl ?_
    refine gf_373 (pc2 := 96) rfl dX10_count_93 rfl c_0 (fvs r_0_4) ?_
    refine gf_162 (pc2 := 99) rfl dX10_count_96 rfl c_25 fvi ?_
    exact go_iret dX10_count_99 ⟨_, rfl, rfl⟩ ⟨rfl, _, rfl, k⟩
  have k := k.2 cs4
  by_cases cs5 : x1 = (5 : Int32)
  · have k := k.1 cs5
    refine go_tsEq (tgt := 100) dX10_count_23 cs5 (by decide) (by decide) rfl (by decide) ?_
    refine go_aload_n (pc2 := 101) dX10_count_100 rfl rfl rfl ?_
    refine gf_369 (pc2 := 104) rfl dX10_count_101 rfl c_0 (fvs r_0_0) ?_
    obtain ⟨Q1, hC2, k⟩ := k
    refine gcVN_I (pc2 := 107) (dC := 0) (As := []) (st := []) rfl dX10_count_104 rfl w_839 ok_X5_demandOfAll vi_X5_demandOfAll c_1 (by decide) rfl rfl rfl (by decide) (Nat.le_of_ble_eq_true rfl) hC2 (fun v3 h4 hq5 => ?_)
    have k := k v3 h4 hq5
    exact go_iret dX10_count_107 ⟨_, rfl, rfl⟩ ⟨rfl, _, rfl, k⟩
  have k := k.2 cs5
  by_cases cb : x1.toInt < 0 ∨ 5 < x1.toInt
  · refine go_tsOut (tgt := 108) dX10_count_23 cb (by decide) ?_
    refine go_bipush (pc2 := 110) (v := (-9 : Int32)) dX10_count_108 rfl (by decide) ?_
    exact go_iret dX10_count_110 ⟨_, rfl, rfl⟩ ⟨rfl, _, rfl, k⟩
  · exfalso
    have e0 := i32_ne cs0 (by decide : ((0 : Int32)).toInt = 0)
    have e1 := i32_ne cs1 (by decide : ((1 : Int32)).toInt = 1)
    have e2 := i32_ne cs2 (by decide : ((2 : Int32)).toInt = 2)
    have e3 := i32_ne cs3 (by decide : ((3 : Int32)).toInt = 3)
    have e4 := i32_ne cs4 (by decide : ((4 : Int32)).toInt = 4)
    have e5 := i32_ne cs5 (by decide : ((5 : Int32)).toInt = 5)
    omega
theorem e_X10_hour {x1 : Int32} {x2 : Int32} {h : Hp} {Q : Int32 → Hp → Prop}  (k : (∃ Q1, CtI 0 mX5_noHour [.ref 1, .int x1] h Q1 ∧ ∀ (v3 : Int32) (h4 : Hp), Q1 v3 h4 → ((v3 = 0 → ((x2 = (0 : Int32) → (vp_in x1 5 ∧ Q (h4.1 2 (x1).toNatClampNeg) h4)) ∧ (¬ x2 = (0 : Int32) → ((x2 = (1 : Int32) → (vp_in x1 5 ∧ Q (h4.1 3 (x1).toNatClampNeg) h4)) ∧ (¬ x2 = (1 : Int32) → ((x2 = (2 : Int32) → (vp_in x1 5 ∧ Q (h4.1 4 (x1).toNatClampNeg) h4)) ∧ (¬ x2 = (2 : Int32) → (∃ Q6, CtI 0 mX10_refuse [.ref 0, .int (-2 : Int32)] h4 Q6 ∧ ∀ (v8 : Int32) (h9 : Hp), Q6 v8 h9 → Q v8 h9)))))))) ∧ (¬ v3 = 0 → (∃ Q14, CtI 0 mX10_refuse [.ref 0, .int (-1 : Int32)] h4 Q14 ∧ ∀ (v16 : Int32) (h17 : Hp), Q14 v16 h17 → Q v16 h17))))) : CtI 1 mX10_hour [.ref 0, .int x1, .int x2] h Q := by
  refine Ct.of (by decide +kernel) (Nat.le_of_ble_eq_true rfl) ?_
  show GoI 1 mX10_hour 0 [(0, .ref 0), (1, .int x1), (2, .int x2)] [] h Q
  refine go_aload_n (pc2 := 1) dX10_hour_0 rfl rfl rfl ?_
  refine gf_369 (pc2 := 4) rfl dX10_hour_1 rfl c_0 (fvs r_0_0) ?_
  refine go_iload_n (pc2 := 5) dX10_hour_4 rfl rfl rfl ?_
  obtain ⟨Q1, hC2, k⟩ := k
  refine gcVN_I (pc2 := 8) (dC := 0) (As := [.int x1]) (st := []) rfl dX10_hour_5 rfl w_676 ok_X5_noHour vi_X5_noHour c_1 (by decide) rfl rfl rfl (by decide) (Nat.le_of_ble_eq_true rfl) hC2 (fun v3 h4 hq5 => ?_)
  have k := k v3 h4 hq5
  refine go_if_eq (pc2 := 11) (tgt := 17) dX10_hour_8 rfl (by decide) (fun c => ?_) (fun c => ?_)
  · have k := k.1 c
    refine go_iload_n (pc2 := 18) dX10_hour_17 rfl rfl rfl ?_
    by_cases cs0 : x2 = (0 : Int32)
    · have k := k.1 cs0
      refine go_tsEq (tgt := 44) dX10_hour_18 cs0 (by decide) (by decide) rfl (by decide) ?_
      refine go_aload_n (pc2 := 45) dX10_hour_44 rfl rfl rfl ?_
      refine gf_369 (pc2 := 48) rfl dX10_hour_45 rfl c_0 (fvs r_0_0) ?_
      refine gf_106 (pc2 := 51) rfl dX10_hour_48 rfl c_1 (fvs r_1_1) ?_
      refine go_iload_n (pc2 := 52) dX10_hour_51 rfl rfl rfl ?_
      obtain ⟨y13, k⟩ := k
      refine go_iaload (pc2 := 53) (j := (x1).toNatClampNeg) dX10_hour_52 rfl c_2 y13 rfl ?_
      exact go_iret dX10_hour_53 ⟨_, rfl, rfl⟩ ⟨rfl, _, rfl, k⟩
    have k := k.2 cs0
    by_cases cs1 : x2 = (1 : Int32)
    · have k := k.1 cs1
      refine go_tsEq (tgt := 54) dX10_hour_18 cs1 (by decide) (by decide) rfl (by decide) ?_
      refine go_aload_n (pc2 := 55) dX10_hour_54 rfl rfl rfl ?_
      refine gf_369 (pc2 := 58) rfl dX10_hour_55 rfl c_0 (fvs r_0_0) ?_
      refine gf_110 (pc2 := 61) rfl dX10_hour_58 rfl c_1 (fvs r_1_2) ?_
      refine go_iload_n (pc2 := 62) dX10_hour_61 rfl rfl rfl ?_
      obtain ⟨y12, k⟩ := k
      refine go_iaload (pc2 := 63) (j := (x1).toNatClampNeg) dX10_hour_62 rfl c_3 y12 rfl ?_
      exact go_iret dX10_hour_63 ⟨_, rfl, rfl⟩ ⟨rfl, _, rfl, k⟩
    have k := k.2 cs1
    by_cases cs2 : x2 = (2 : Int32)
    · have k := k.1 cs2
      refine go_tsEq (tgt := 64) dX10_hour_18 cs2 (by decide) (by decide) rfl (by decide) ?_
      refine go_aload_n (pc2 := 65) dX10_hour_64 rfl rfl rfl ?_
      refine gf_369 (pc2 := 68) rfl dX10_hour_65 rfl c_0 (fvs r_0_0) ?_
      refine gf_113 (pc2 := 71) rfl dX10_hour_68 rfl c_1 (fvs r_1_3) ?_
      refine go_iload_n (pc2 := 72) dX10_hour_71 rfl rfl rfl ?_
      obtain ⟨y11, k⟩ := k
      refine go_iaload (pc2 := 73) (j := (x1).toNatClampNeg) dX10_hour_72 rfl c_4 y11 rfl ?_
      exact go_iret dX10_hour_73 ⟨_, rfl, rfl⟩ ⟨rfl, _, rfl, k⟩
    have k := k.2 cs2
    by_cases cb : x2.toInt < 0 ∨ 2 < x2.toInt
    · refine go_tsOut (tgt := 74) dX10_hour_18 cb (by decide) ?_
      refine go_aload_n (pc2 := 75) dX10_hour_74 rfl rfl rfl ?_
      refine go_bipush (pc2 := 77) (v := (-2 : Int32)) dX10_hour_75 rfl (by decide) ?_
      obtain ⟨Q6, hC7, k⟩ := k
      refine gcV_I (pc2 := 80) (dC := 0) (As := [.int (-2 : Int32)]) (st := []) rfl dX10_hour_77 rfl w_413 ok_X10_refuse vi_X10_refuse c_0 (by decide) rfl rfl rfl (by decide) (Nat.le_of_ble_eq_true rfl) hC7 (fun v8 h9 hq10 => ?_)
      have k := k v8 h9 hq10
      exact go_iret dX10_hour_80 ⟨_, rfl, rfl⟩ ⟨rfl, _, rfl, k⟩
    · exfalso
      have e0 := i32_ne cs0 (by decide : ((0 : Int32)).toInt = 0)
      have e1 := i32_ne cs1 (by decide : ((1 : Int32)).toInt = 1)
      have e2 := i32_ne cs2 (by decide : ((2 : Int32)).toInt = 2)
      omega
  · have k := k.2 c
    refine go_aload_n (pc2 := 12) dX10_hour_11 rfl rfl rfl ?_
    refine go_iconst (pc2 := 13) (v := (-1 : Int32)) dX10_hour_12 rfl (by decide) ?_
    obtain ⟨Q14, hC15, k⟩ := k
    refine gcV_I (pc2 := 16) (dC := 0) (As := [.int (-1 : Int32)]) (st := []) rfl dX10_hour_13 rfl w_413 ok_X10_refuse vi_X10_refuse c_0 (by decide) rfl rfl rfl (by decide) (Nat.le_of_ble_eq_true rfl) hC15 (fun v16 h17 hq18 => ?_)
    have k := k v16 h17 hq18
    exact go_iret dX10_hour_16 ⟨_, rfl, rfl⟩ ⟨rfl, _, rfl, k⟩
theorem e_X10_refuse {x1 : Int32} {h : Hp} {Q : Int32 → Hp → Prop}  (k : ((0 ≤ x1 → Q x1 h) ∧ (¬ (0 ≤ x1) → ((x1 < (-6 : Int32) → Q x1 h) ∧ (¬ (x1 < (-6 : Int32)) → (vp_in (-x1) 7 ∧ (vp_in (-x1) 7 ∧ (∀ g3 : Hp, g3 = (ui h 68 ((-x1)).toNatClampNeg ((h.1 68 ((-x1)).toNatClampNeg) + (1 : Int32))) → Q x1 g3)))))))) : CtI 0 mX10_refuse [.ref 0, .int x1] h Q := by
  refine Ct.of (by decide +kernel) (Nat.le_of_ble_eq_true rfl) ?_
  show GoI 0 mX10_refuse 0 [(0, .ref 0), (1, .int x1)] [] h Q
  refine go_iload_n (pc2 := 1) dX10_refuse_0 rfl rfl rfl ?_
  refine go_if_ge (pc2 := 4) (tgt := 21) dX10_refuse_1 rfl (by decide) (fun c => ?_) (fun c => ?_)
  · have k := k.1 c
    refine go_iload_n (pc2 := 22) dX10_refuse_21 rfl rfl rfl ?_
    exact go_iret dX10_refuse_22 ⟨_, rfl, rfl⟩ ⟨rfl, _, rfl, k⟩
  · have k := k.2 c
    refine go_iload_n (pc2 := 5) dX10_refuse_4 rfl rfl rfl ?_
    refine go_bipush (pc2 := 7) (v := (-6 : Int32)) dX10_refuse_5 rfl (by decide) ?_
    refine go_icmp_lt (pc2 := 10) (tgt := 21) dX10_refuse_7 rfl (by decide) (fun c => ?_) (fun c => ?_)
    · have k := k.1 c
      refine go_iload_n (pc2 := 22) dX10_refuse_21 rfl rfl rfl ?_
      exact go_iret dX10_refuse_22 ⟨_, rfl, rfl⟩ ⟨rfl, _, rfl, k⟩
    · have k := k.2 c
      refine go_aload_n (pc2 := 11) dX10_refuse_10 rfl rfl rfl ?_
      refine gf_381 (pc2 := 14) rfl dX10_refuse_11 rfl c_0 (fvs r_0_12) ?_
      refine go_iload_n (pc2 := 15) dX10_refuse_14 rfl rfl rfl ?_
      refine go_ineg (pc2 := 16) dX10_refuse_15 rfl ?_
      refine go_dup2 (pc2 := 17) dX10_refuse_16 rfl rfl rfl ?_
      obtain ⟨y1, k⟩ := k
      refine go_iaload (pc2 := 18) (j := ((-x1)).toNatClampNeg) dX10_refuse_17 rfl c_68 y1 rfl ?_
      refine go_iconst (pc2 := 19) (v := (1 : Int32)) dX10_refuse_18 rfl (by decide) ?_
      refine go_iadd (pc2 := 20) dX10_refuse_19 rfl ?_
      obtain ⟨y2, k⟩ := k
      refine go_iastore (pc2 := 21) (j := ((-x1)).toNatClampNeg) dX10_refuse_20 rfl c_68 y2 rfl ?_
      obtain ⟨g3, eg3⟩ : ∃ y : Hp, y = (ui h 68 ((-x1)).toNatClampNeg ((h.1 68 ((-x1)).toNatClampNeg) + (1 : Int32))) := ⟨_, rfl⟩
      rw [← eg3]
      have k := k g3 eg3
      refine go_iload_n (pc2 := 22) dX10_refuse_21 rfl rfl rfl ?_
      exact go_iret dX10_refuse_22 ⟨_, rfl, rfl⟩ ⟨rfl, _, rfl, k⟩
theorem e_X10_refuseLong {x1 : Int32} {h : Hp} {Q : Int64 → Hp → Prop}  (k : (∃ Q1, CtI 0 mX10_refuse [.ref 0, .int x1] h Q1 ∧ ∀ (v3 : Int32) (h4 : Hp), Q1 v3 h4 → Q ((4000000000000000000 : Int64) - (v3).toInt64) h4)) : CtL 1 mX10_refuseLong [.ref 0, .int x1] h Q := by
  refine Ct.of (by decide +kernel) (Nat.le_of_ble_eq_true rfl) ?_
  show GoL 1 mX10_refuseLong 0 [(0, .ref 0), (1, .int x1)] [] h Q
  refine go_ldc2 (pc2 := 3) dX10_refuseLong_0 rfl rfl w_822 ?_
  refine go_aload_n (pc2 := 4) dX10_refuseLong_3 rfl rfl rfl ?_
  refine go_iload_n (pc2 := 5) dX10_refuseLong_4 rfl rfl rfl ?_
  obtain ⟨Q1, hC2, k⟩ := k
  refine gcV_I (pc2 := 8) (dC := 0) (As := [.int x1]) (st := [.long (4000000000000000000 : Int64)]) rfl dX10_refuseLong_5 rfl w_413 ok_X10_refuse vi_X10_refuse c_0 (by decide) rfl rfl rfl (by decide) (Nat.le_of_ble_eq_true rfl) hC2 (fun v3 h4 hq5 => ?_)
  have k := k v3 h4 hq5
  refine go_i2l (pc2 := 9) dX10_refuseLong_8 rfl ?_
  refine go_lsub (pc2 := 10) dX10_refuseLong_9 rfl ?_
  exact go_lret dX10_refuseLong_10 rfl ⟨rfl, _, rfl, k⟩
theorem e_X10_counted {x1 : Int32} {h : Hp} {Q : Int32 → Hp → Prop}  (k : ((0 ≤ x1 → Q x1 h) ∧ (¬ (0 ≤ x1) → (∃ Q1, CtI 0 mX10_refuse [.ref 0, .int x1] h Q1 ∧ ∀ (v3 : Int32) (h4 : Hp), Q1 v3 h4 → Q v3 h4)))) : CtI 1 mX10_counted [.ref 0, .int x1] h Q := by
  refine Ct.of (by decide +kernel) (Nat.le_of_ble_eq_true rfl) ?_
  show GoI 1 mX10_counted 0 [(0, .ref 0), (1, .int x1)] [] h Q
  refine go_iload_n (pc2 := 1) dX10_counted_0 rfl rfl rfl ?_
  refine go_if_ge (pc2 := 4) (tgt := 12) dX10_counted_1 rfl (by decide) (fun c => ?_) (fun c => ?_)
  · have k := k.1 c
    refine go_iload_n (pc2 := 13) dX10_counted_12 rfl rfl rfl ?_
    exact go_iret dX10_counted_13 ⟨_, rfl, rfl⟩ ⟨rfl, _, rfl, k⟩
  · have k := k.2 c
    refine go_aload_n (pc2 := 5) dX10_counted_4 rfl rfl rfl ?_
    refine go_iload_n (pc2 := 6) dX10_counted_5 rfl rfl rfl ?_
    obtain ⟨Q1, hC2, k⟩ := k
    refine gcV_I (pc2 := 9) (dC := 0) (As := [.int x1]) (st := []) rfl dX10_counted_6 rfl w_413 ok_X10_refuse vi_X10_refuse c_0 (by decide) rfl rfl rfl (by decide) (Nat.le_of_ble_eq_true rfl) hC2 (fun v3 h4 hq5 => ?_)
    have k := k v3 h4 hq5
    refine go_goto (tgt := 13) dX10_counted_9 (by decide) ?_
    exact go_iret dX10_counted_13 ⟨_, rfl, rfl⟩ ⟨rfl, _, rfl, k⟩
theorem e_X10_noList {x0 : Int32} {h : Hp} {Q : Int32 → Hp → Prop}  (k : ((x0 < 0 → Q (1 : Int32) h) ∧ (¬ (x0 < 0) → ((x0 < (4 : Int32) → Q (0 : Int32) h) ∧ (¬ (x0 < (4 : Int32)) → Q (1 : Int32) h))))) : CtI 0 mX10_noList [.int x0] h Q := by
  refine Ct.of (by decide +kernel) (Nat.le_of_ble_eq_true rfl) ?_
  show GoI 0 mX10_noList 0 [(0, .int x0)] [] h Q
  refine go_iload_n (pc2 := 1) dX10_noList_0 rfl rfl rfl ?_
  refine go_if_lt (pc2 := 4) (tgt := 9) dX10_noList_1 rfl (by decide) (fun c => ?_) (fun c => ?_)
  · have k := k.1 c
    refine go_iconst (pc2 := 10) (v := (1 : Int32)) dX10_noList_9 rfl (by decide) ?_
    refine go_goto (tgt := 14) dX10_noList_10 (by decide) ?_
    exact go_iret dX10_noList_14 ⟨_, rfl, rfl⟩ ⟨rfl, _, rfl, k⟩
  · have k := k.2 c
    refine go_iload_n (pc2 := 5) dX10_noList_4 rfl rfl rfl ?_
    refine go_iconst (pc2 := 6) (v := (4 : Int32)) dX10_noList_5 rfl (by decide) ?_
    refine go_icmp_lt (pc2 := 9) (tgt := 13) dX10_noList_6 rfl (by decide) (fun c => ?_) (fun c => ?_)
    · have k := k.1 c
      refine go_iconst (pc2 := 14) (v := (0 : Int32)) dX10_noList_13 rfl (by decide) ?_
      exact go_iret dX10_noList_14 ⟨_, rfl, rfl⟩ ⟨rfl, _, rfl, k⟩
    · have k := k.2 c
      refine go_iconst (pc2 := 10) (v := (1 : Int32)) dX10_noList_9 rfl (by decide) ?_
      refine go_goto (tgt := 14) dX10_noList_10 (by decide) ?_
      exact go_iret dX10_noList_14 ⟨_, rfl, rfl⟩ ⟨rfl, _, rfl, k⟩
theorem e_X10_noRack {x0 : Int32} {h : Hp} {Q : Int32 → Hp → Prop}  (k : ((x0 < 0 → Q (1 : Int32) h) ∧ (¬ (x0 < 0) → ((x0 < (3 : Int32) → Q (0 : Int32) h) ∧ (¬ (x0 < (3 : Int32)) → Q (1 : Int32) h))))) : CtI 0 mX10_noRack [.int x0] h Q := by
  refine Ct.of (by decide +kernel) (Nat.le_of_ble_eq_true rfl) ?_
  show GoI 0 mX10_noRack 0 [(0, .int x0)] [] h Q
  refine go_iload_n (pc2 := 1) dX10_noRack_0 rfl rfl rfl ?_
  refine go_if_lt (pc2 := 4) (tgt := 9) dX10_noRack_1 rfl (by decide) (fun c => ?_) (fun c => ?_)
  · have k := k.1 c
    refine go_iconst (pc2 := 10) (v := (1 : Int32)) dX10_noRack_9 rfl (by decide) ?_
    refine go_goto (tgt := 14) dX10_noRack_10 (by decide) ?_
    exact go_iret dX10_noRack_14 ⟨_, rfl, rfl⟩ ⟨rfl, _, rfl, k⟩
  · have k := k.2 c
    refine go_iload_n (pc2 := 5) dX10_noRack_4 rfl rfl rfl ?_
    refine go_iconst (pc2 := 6) (v := (3 : Int32)) dX10_noRack_5 rfl (by decide) ?_
    refine go_icmp_lt (pc2 := 9) (tgt := 13) dX10_noRack_6 rfl (by decide) (fun c => ?_) (fun c => ?_)
    · have k := k.1 c
      refine go_iconst (pc2 := 14) (v := (0 : Int32)) dX10_noRack_13 rfl (by decide) ?_
      exact go_iret dX10_noRack_14 ⟨_, rfl, rfl⟩ ⟨rfl, _, rfl, k⟩
    · have k := k.2 c
      refine go_iconst (pc2 := 10) (v := (1 : Int32)) dX10_noRack_9 rfl (by decide) ?_
      refine go_goto (tgt := 14) dX10_noRack_10 (by decide) ?_
      exact go_iret dX10_noRack_14 ⟨_, rfl, rfl⟩ ⟨rfl, _, rfl, k⟩
theorem e_X10_refusalOfSet {x1 : Int32} {h : Hp} {Q : Int32 → Hp → Prop}  (k : ((0 ≤ x1 → Q (if x1 < ((1 : Int32) <<< ((h.1 1 5) &&& 31)) then (0 : Int32) else (-6 : Int32)) h) ∧ (¬ (0 ≤ x1) → Q (-4 : Int32) h))) : CtI 0 mX10_refusalOfSet [.ref 0, .int x1] h Q := by
  refine Ct.of (by decide +kernel) (Nat.le_of_ble_eq_true rfl) ?_
  show GoI 0 mX10_refusalOfSet 0 [(0, .ref 0), (1, .int x1)] [] h Q
  refine go_iload_n (pc2 := 1) dX10_refusalOfSet_0 rfl rfl rfl ?_
  refine go_if_ge (pc2 := 4) (tgt := 7) dX10_refusalOfSet_1 rfl (by decide) (fun c => ?_) (fun c => ?_)
  · have k := k.1 c
    refine go_iload_n (pc2 := 8) dX10_refusalOfSet_7 rfl rfl rfl ?_
    refine go_iconst (pc2 := 9) (v := (1 : Int32)) dX10_refusalOfSet_8 rfl (by decide) ?_
    refine go_aload_n (pc2 := 10) dX10_refusalOfSet_9 rfl rfl rfl ?_
    refine gf_369 (pc2 := 13) rfl dX10_refusalOfSet_10 rfl c_0 (fvs r_0_0) ?_
    refine gf_126 (pc2 := 16) rfl dX10_refusalOfSet_13 rfl c_1 fvi ?_
    refine go_ishl (pc2 := 17) dX10_refusalOfSet_16 rfl ?_
    have J : GoI 0 mX10_refusalOfSet 26 [(0, .ref 0), (1, .int x1)] [.int (if x1 < ((1 : Int32) <<< ((h.1 1 5) &&& 31)) then (0 : Int32) else (-6 : Int32))] h Q := by
      exact go_iret dX10_refusalOfSet_26 ⟨_, rfl, rfl⟩ ⟨rfl, _, rfl, k⟩
    refine go_icmp_lt (pc2 := 20) (tgt := 25) dX10_refusalOfSet_17 rfl (by decide) (fun c => ?_) (fun c => ?_)
    · rw [if_pos c] at J
      exact go_iconst (pc2 := 26) dX10_refusalOfSet_25 rfl (by decide) J
    · rw [if_neg c] at J
      exact go_bipush (pc2 := 22) dX10_refusalOfSet_20 rfl (by decide) (go_goto (tgt := 26) dX10_refusalOfSet_22 (by decide) J)
  · have k := k.2 c
    refine go_bipush (pc2 := 6) (v := (-4 : Int32)) dX10_refusalOfSet_4 rfl (by decide) ?_
    exact go_iret dX10_refusalOfSet_6 ⟨_, rfl, rfl⟩ ⟨rfl, _, rfl, k⟩
theorem e_X10_solveAsIs  {h : Hp} {Q : Int32 → Hp → Prop}  (k : (∃ Q1, CtV 1 mX7_load [.ref 38] h Q1 ∧ ∀ h4 : Hp, Q1 h4 → (∃ Q6, CtI 4 mX7_solve [.ref 38] h4 Q6 ∧ ∀ (v8 : Int32) (h9 : Hp), Q6 v8 h9 → Q v8 h9))) : CtI 5 mX10_solveAsIs [.ref 0] h Q := by
  refine Ct.of (by decide +kernel) (Nat.le_of_ble_eq_true rfl) ?_
  show GoI 5 mX10_solveAsIs 0 [(0, .ref 0)] [] h Q
  refine go_aload_n (pc2 := 1) dX10_solveAsIs_0 rfl rfl rfl ?_
  refine gf_376 (pc2 := 4) rfl dX10_solveAsIs_1 rfl c_0 (fvs r_0_7) ?_
  obtain ⟨Q1, hC2, k⟩ := k
  refine gcVN_V (pc2 := 7) (dC := 1) (As := []) (st := []) rfl dX10_solveAsIs_4 rfl w_711 ok_X7_load vi_X7_load c_38 (by decide) rfl rfl rfl (by decide) (Nat.le_of_ble_eq_true rfl) hC2 (fun h4 hq5 => ?_)
  have k := k h4 hq5
  refine go_aload_n (pc2 := 8) dX10_solveAsIs_7 rfl rfl rfl ?_
  refine gf_376 (pc2 := 11) rfl dX10_solveAsIs_8 rfl c_0 (fvs r_0_7) ?_
  obtain ⟨Q6, hC7, k⟩ := k
  refine gcVN_I (pc2 := 14) (dC := 4) (As := []) (st := []) rfl dX10_solveAsIs_11 rfl w_716 ok_X7_solve vi_X7_solve c_38 (by decide) rfl rfl rfl (by decide) (Nat.le_of_ble_eq_true rfl) hC7 (fun v8 h9 hq10 => ?_)
  have k := k v8 h9 hq10
  exact go_iret dX10_solveAsIs_14 ⟨_, rfl, rfl⟩ ⟨rfl, _, rfl, k⟩
theorem e_X10_difference {x0 : Int32} {x1 : Int32} {h : Hp} {Q : Int32 → Hp → Prop}  (k : ((x0 < 0 → Q (-99999 : Int32) h) ∧ (¬ (x0 < 0) → ((0 ≤ x1 → Q (x0 - x1) h) ∧ (¬ (0 ≤ x1) → Q (-99999 : Int32) h))))) : CtI 0 mX10_difference [.int x0, .int x1] h Q := by
  refine Ct.of (by decide +kernel) (Nat.le_of_ble_eq_true rfl) ?_
  show GoI 0 mX10_difference 0 [(0, .int x0), (1, .int x1)] [] h Q
  refine go_iload_n (pc2 := 1) dX10_difference_0 rfl rfl rfl ?_
  refine go_if_lt (pc2 := 4) (tgt := 8) dX10_difference_1 rfl (by decide) (fun c => ?_) (fun c => ?_)
  · have k := k.1 c
    refine go_ldcw (pc2 := 11) dX10_difference_8 rfl rfl w_801 ?_
    refine go_goto (tgt := 17) dX10_difference_11 (by decide) ?_
    exact go_iret dX10_difference_17 ⟨_, rfl, rfl⟩ ⟨rfl, _, rfl, k⟩
  · have k := k.2 c
    refine go_iload_n (pc2 := 5) dX10_difference_4 rfl rfl rfl ?_
    refine go_if_ge (pc2 := 8) (tgt := 14) dX10_difference_5 rfl (by decide) (fun c => ?_) (fun c => ?_)
    · have k := k.1 c
      refine go_iload_n (pc2 := 15) dX10_difference_14 rfl rfl rfl ?_
      refine go_iload_n (pc2 := 16) dX10_difference_15 rfl rfl rfl ?_
      refine go_isub (pc2 := 17) dX10_difference_16 rfl ?_
      exact go_iret dX10_difference_17 ⟨_, rfl, rfl⟩ ⟨rfl, _, rfl, k⟩
    · have k := k.2 c
      refine go_ldcw (pc2 := 11) dX10_difference_8 rfl rfl w_801 ?_
      refine go_goto (tgt := 17) dX10_difference_11 (by decide) ?_
      exact go_iret dX10_difference_17 ⟨_, rfl, rfl⟩ ⟨rfl, _, rfl, k⟩
theorem e_X10_canKeep {x1 : Int32} {h : Hp} {Q : Int32 → Hp → Prop}  (k : (∃ Q1, CtV 1 mX7_load [.ref 38] h Q1 ∧ ∀ h4 : Hp, Q1 h4 → GoI 5 mX10_canKeep 9 [(0, .ref 0), (1, .int x1), (2, .int (0 : Int32))] [] h4 Q)) : CtI 5 mX10_canKeep [.ref 0, .int x1] h Q := by
  refine Ct.of (by decide +kernel) (Nat.le_of_ble_eq_true rfl) ?_
  show GoI 5 mX10_canKeep 0 [(0, .ref 0), (1, .int x1)] [] h Q
  refine go_aload_n (pc2 := 1) dX10_canKeep_0 rfl rfl rfl ?_
  refine gf_376 (pc2 := 4) rfl dX10_canKeep_1 rfl c_0 (fvs r_0_7) ?_
  obtain ⟨Q1, hC2, k⟩ := k
  refine gcVN_V (pc2 := 7) (dC := 1) (As := []) (st := []) rfl dX10_canKeep_4 rfl w_711 ok_X7_load vi_X7_load c_38 (by decide) rfl rfl rfl (by decide) (Nat.le_of_ble_eq_true rfl) hC2 (fun h4 hq5 => ?_)
  have k := k h4 hq5
  refine go_iconst (pc2 := 8) (v := (0 : Int32)) dX10_canKeep_7 rfl (by decide) ?_
  refine go_istore_n (pc2 := 9) (ls2 := [(0, .ref 0), (1, .int x1), (2, .int (0 : Int32))]) dX10_canKeep_8 rfl rfl rfl rfl rfl rfl ?_
  exact k
theorem b_X10_canKeep_9 {x1 : Int32} {x2 : Int32} {h : Hp} {Q : Int32 → Hp → Prop}  (k : (((h.1 1 0) ≤ x2 → (∃ Q1, CtI 4 mX7_solve [.ref 38] h Q1 ∧ ∀ (v3 : Int32) (h4 : Hp), Q1 v3 h4 → Q (if v3 < 0 then (0 : Int32) else (1 : Int32)) h4)) ∧ (¬ ((h.1 1 0) ≤ x2) → (vp_in x2 5 ∧ (vp_in x2 5 ∧ (∀ g8 : Hp, g8 = (ui h 40 (x2).toNatClampNeg ((h.1 40 (x2).toNatClampNeg) + x1)) → GoI 5 mX10_canKeep 9 [(0, .ref 0), (1, .int x1), (2, .int (x2 + 1))] [] g8 Q)))))) : GoI 5 mX10_canKeep 9 [(0, .ref 0), (1, .int x1), (2, .int x2)] [] h Q := by
  refine go_iload_n (pc2 := 10) dX10_canKeep_9 rfl rfl rfl ?_
  refine go_aload_n (pc2 := 11) dX10_canKeep_10 rfl rfl rfl ?_
  refine gf_369 (pc2 := 14) rfl dX10_canKeep_11 rfl c_0 (fvs r_0_0) ?_
  refine gf_101 (pc2 := 17) rfl dX10_canKeep_14 rfl c_1 fvi ?_
  refine go_icmp_ge (pc2 := 20) (tgt := 39) dX10_canKeep_17 rfl (by decide) (fun c => ?_) (fun c => ?_)
  · have k := k.1 c
    refine go_aload_n (pc2 := 40) dX10_canKeep_39 rfl rfl rfl ?_
    refine gf_376 (pc2 := 43) rfl dX10_canKeep_40 rfl c_0 (fvs r_0_7) ?_
    obtain ⟨Q1, hC2, k⟩ := k
    refine gcVN_I (pc2 := 46) (dC := 4) (As := []) (st := []) rfl dX10_canKeep_43 rfl w_716 ok_X7_solve vi_X7_solve c_38 (by decide) rfl rfl rfl (by decide) (Nat.le_of_ble_eq_true rfl) hC2 (fun v3 h4 hq5 => ?_)
    have k := k v3 h4 hq5
    have J : GoI 5 mX10_canKeep 54 [(0, .ref 0), (1, .int x1), (2, .int x2)] [.int (if v3 < 0 then (0 : Int32) else (1 : Int32))] h4 Q := by
      exact go_iret dX10_canKeep_54 ⟨_, rfl, congrArg Value.int ite_b⟩ ⟨rfl, _, rfl, k⟩
    refine go_if_lt (pc2 := 49) (tgt := 53) dX10_canKeep_46 rfl (by decide) (fun c => ?_) (fun c => ?_)
    · rw [if_pos c] at J
      exact go_iconst (pc2 := 54) dX10_canKeep_53 rfl (by decide) J
    · rw [if_neg c] at J
      exact go_iconst (pc2 := 50) dX10_canKeep_49 rfl (by decide) (go_goto (tgt := 54) dX10_canKeep_50 (by decide) J)
  · have k := k.2 c
    refine go_aload_n (pc2 := 21) dX10_canKeep_20 rfl rfl rfl ?_
    refine gf_376 (pc2 := 24) rfl dX10_canKeep_21 rfl c_0 (fvs r_0_7) ?_
    refine gf_238 (pc2 := 27) rfl dX10_canKeep_24 rfl c_38 (fvs r_38_3) ?_
    refine go_iload_n (pc2 := 28) dX10_canKeep_27 rfl rfl rfl ?_
    refine go_dup2 (pc2 := 29) dX10_canKeep_28 rfl rfl rfl ?_
    obtain ⟨y6, k⟩ := k
    refine go_iaload (pc2 := 30) (j := (x2).toNatClampNeg) dX10_canKeep_29 rfl c_40 y6 rfl ?_
    refine go_iload_n (pc2 := 31) dX10_canKeep_30 rfl rfl rfl ?_
    refine go_iadd (pc2 := 32) dX10_canKeep_31 rfl ?_
    obtain ⟨y7, k⟩ := k
    refine go_iastore (pc2 := 33) (j := (x2).toNatClampNeg) dX10_canKeep_32 rfl c_40 y7 rfl ?_
    obtain ⟨g8, eg8⟩ : ∃ y : Hp, y = (ui h 40 (x2).toNatClampNeg ((h.1 40 (x2).toNatClampNeg) + x1)) := ⟨_, rfl⟩
    rw [← eg8]
    have k := k g8 eg8
    refine go_iinc (pc2 := 36) (ls2 := [(0, .ref 0), (1, .int x1), (2, .int (x2 + 1))]) (v := (x2 + 1)) dX10_canKeep_33 rfl rfl rfl rfl rfl rfl rfl ?_
    refine go_goto (tgt := 9) dX10_canKeep_36 (by decide) ?_
    exact k
theorem e_X10_leansOfBest  {h : Hp} {Q : UInt32 → Hp → Prop}  (k : (∃ Q1, CtV 3 mX9_begin [.ref 36] h Q1 ∧ ∀ h4 : Hp, Q1 h4 → GoF 5 mX10_leansOfBest 11 [(0, .ref 0), (1, .float FP.fconst0), (2, .int (0 : Int32))] [] h4 Q)) : CtF 5 mX10_leansOfBest [.ref 0] h Q := by
  refine Ct.of (by decide +kernel) (Nat.le_of_ble_eq_true rfl) ?_
  show GoF 5 mX10_leansOfBest 0 [(0, .ref 0)] [] h Q
  refine go_aload_n (pc2 := 1) dX10_leansOfBest_0 rfl rfl rfl ?_
  refine gf_375 (pc2 := 4) rfl dX10_leansOfBest_1 rfl c_0 (fvs r_0_6) ?_
  obtain ⟨Q1, hC2, k⟩ := k
  refine gcVN_V (pc2 := 7) (dC := 3) (As := []) (st := []) rfl dX10_leansOfBest_4 rfl w_774 ok_X9_begin vi_X9_begin c_36 (by decide) rfl rfl rfl (by decide) (Nat.le_of_ble_eq_true rfl) hC2 (fun h4 hq5 => ?_)
  have k := k h4 hq5
  refine go_fconst0 (pc2 := 8) dX10_leansOfBest_7 rfl ?_
  refine go_fstore_n (pc2 := 9) (ls2 := [(0, .ref 0), (1, .float FP.fconst0)]) dX10_leansOfBest_8 rfl rfl rfl rfl rfl rfl ?_
  refine go_iconst (pc2 := 10) (v := (0 : Int32)) dX10_leansOfBest_9 rfl (by decide) ?_
  refine go_istore_n (pc2 := 11) (ls2 := [(0, .ref 0), (1, .float FP.fconst0), (2, .int (0 : Int32))]) dX10_leansOfBest_10 rfl rfl rfl rfl rfl rfl ?_
  exact k
theorem b_X10_leansOfBest_11 {x1 : UInt32} {x2 : Int32} {h : Hp} {Q : UInt32 → Hp → Prop}  (k : (((h.1 1 0) ≤ x2 → Q x1 h) ∧ (¬ ((h.1 1 0) ≤ x2) → (∃ Q1, CtI 0 mX7_setAt [.ref 38, .int x2] h Q1 ∧ ∀ (v3 : Int32) (h4 : Hp), Q1 v3 h4 → (∃ Q6, CtI 4 mX9_pass [.ref 36, .int x2, .int v3] h4 Q6 ∧ ∀ (v8 : Int32) (h9 : Hp), Q6 v8 h9 → (vf_n32 (FP.fadd x1 (FP.i2f v8)) ∧ (vf_n32 (FP.fmul (FP.fadd x1 (FP.i2f v8)) (1056964608 : UInt32)) ∧ GoF 5 mX10_leansOfBest 11 [(0, .ref 0), (1, .float (FP.fmul (FP.fadd x1 (FP.i2f v8)) (1056964608 : UInt32))), (2, .int (x2 + 1))] [] h9 Q))))))) : GoF 5 mX10_leansOfBest 11 [(0, .ref 0), (1, .float x1), (2, .int x2)] [] h Q := by
  refine go_iload_n (pc2 := 12) dX10_leansOfBest_11 rfl rfl rfl ?_
  refine go_aload_n (pc2 := 13) dX10_leansOfBest_12 rfl rfl rfl ?_
  refine gf_369 (pc2 := 16) rfl dX10_leansOfBest_13 rfl c_0 (fvs r_0_0) ?_
  refine gf_101 (pc2 := 19) rfl dX10_leansOfBest_16 rfl c_1 fvi ?_
  refine go_icmp_ge (pc2 := 22) (tgt := 52) dX10_leansOfBest_19 rfl (by decide) (fun c => ?_) (fun c => ?_)
  · have k := k.1 c
    refine go_fload_n (pc2 := 53) dX10_leansOfBest_52 rfl rfl rfl ?_
    exact go_fret dX10_leansOfBest_53 rfl ⟨rfl, _, rfl, k⟩
  · have k := k.2 c
    refine go_fload_n (pc2 := 23) dX10_leansOfBest_22 rfl rfl rfl ?_
    refine go_aload_n (pc2 := 24) dX10_leansOfBest_23 rfl rfl rfl ?_
    refine gf_375 (pc2 := 27) rfl dX10_leansOfBest_24 rfl c_0 (fvs r_0_6) ?_
    refine go_iload_n (pc2 := 28) dX10_leansOfBest_27 rfl rfl rfl ?_
    refine go_aload_n (pc2 := 29) dX10_leansOfBest_28 rfl rfl rfl ?_
    refine gf_376 (pc2 := 32) rfl dX10_leansOfBest_29 rfl c_0 (fvs r_0_7) ?_
    refine go_iload_n (pc2 := 33) dX10_leansOfBest_32 rfl rfl rfl ?_
    obtain ⟨Q1, hC2, k⟩ := k
    refine gcVN_I (pc2 := 36) (dC := 0) (As := [.int x2]) (st := [.int x2, .ref 36, .float x1]) rfl dX10_leansOfBest_33 rfl w_779 ok_X7_setAt vi_X7_setAt c_38 (by decide) rfl rfl rfl (by decide) (Nat.le_of_ble_eq_true rfl) hC2 (fun v3 h4 hq5 => ?_)
    have k := k v3 h4 hq5
    obtain ⟨Q6, hC7, k⟩ := k
    refine gcVN_I (pc2 := 39) (dC := 4) (As := [.int x2, .int v3]) (st := [.float x1]) rfl dX10_leansOfBest_36 rfl w_783 ok_X9_pass vi_X9_pass c_36 (by decide) rfl rfl rfl (by decide) (Nat.le_of_ble_eq_true rfl) hC7 (fun v8 h9 hq10 => ?_)
    have k := k v8 h9 hq10
    refine go_i2f (pc2 := 40) dX10_leansOfBest_39 rfl ?_
    obtain ⟨y11, k⟩ := k
    refine go_fadd (pc2 := 41) dX10_leansOfBest_40 rfl y11 ?_
    refine go_ldcwf (pc2 := 44) dX10_leansOfBest_41 rfl rfl w_846 ?_
    obtain ⟨y12, k⟩ := k
    refine go_fmul (pc2 := 45) dX10_leansOfBest_44 rfl y12 ?_
    refine go_fstore_n (pc2 := 46) (ls2 := [(0, .ref 0), (1, .float (FP.fmul (FP.fadd x1 (FP.i2f v8)) (1056964608 : UInt32))), (2, .int x2)]) dX10_leansOfBest_45 rfl rfl rfl rfl rfl rfl ?_
    refine go_iinc (pc2 := 49) (ls2 := [(0, .ref 0), (1, .float (FP.fmul (FP.fadd x1 (FP.i2f v8)) (1056964608 : UInt32))), (2, .int (x2 + 1))]) (v := (x2 + 1)) dX10_leansOfBest_46 rfl rfl rfl rfl rfl rfl rfl ?_
    refine go_goto (tgt := 11) dX10_leansOfBest_49 (by decide) ?_
    exact k
theorem e_X10_power {x0 : Int32} {x1 : Int32} {h : Hp} {Q : Int32 → Hp → Prop}  (k : GoI 0 mX10_power 4 [(0, .int x0), (1, .int x1), (2, .int (1 : Int32)), (3, .int (0 : Int32))] [] h Q) : CtI 0 mX10_power [.int x0, .int x1] h Q := by
  refine Ct.of (by decide +kernel) (Nat.le_of_ble_eq_true rfl) ?_
  show GoI 0 mX10_power 0 [(0, .int x0), (1, .int x1)] [] h Q
  refine go_iconst (pc2 := 1) (v := (1 : Int32)) dX10_power_0 rfl (by decide) ?_
  refine go_istore_n (pc2 := 2) (ls2 := [(0, .int x0), (1, .int x1), (2, .int (1 : Int32))]) dX10_power_1 rfl rfl rfl rfl rfl rfl ?_
  refine go_iconst (pc2 := 3) (v := (0 : Int32)) dX10_power_2 rfl (by decide) ?_
  refine go_istore_n (pc2 := 4) (ls2 := [(0, .int x0), (1, .int x1), (2, .int (1 : Int32)), (3, .int (0 : Int32))]) dX10_power_3 rfl rfl rfl rfl rfl rfl ?_
  exact k
theorem b_X10_power_4 {x0 : Int32} {x1 : Int32} {x2 : Int32} {x3 : Int32} {h : Hp} {Q : Int32 → Hp → Prop}  (k : ((x1 ≤ x3 → Q x2 h) ∧ (¬ (x1 ≤ x3) → GoI 0 mX10_power 4 [(0, .int x0), (1, .int x1), (2, .int (x2 * x0)), (3, .int (x3 + 1))] [] h Q))) : GoI 0 mX10_power 4 [(0, .int x0), (1, .int x1), (2, .int x2), (3, .int x3)] [] h Q := by
  refine go_iload_n (pc2 := 5) dX10_power_4 rfl rfl rfl ?_
  refine go_iload_n (pc2 := 6) dX10_power_5 rfl rfl rfl ?_
  refine go_icmp_ge (pc2 := 9) (tgt := 19) dX10_power_6 rfl (by decide) (fun c => ?_) (fun c => ?_)
  · have k := k.1 c
    refine go_iload_n (pc2 := 20) dX10_power_19 rfl rfl rfl ?_
    exact go_iret dX10_power_20 ⟨_, rfl, rfl⟩ ⟨rfl, _, rfl, k⟩
  · have k := k.2 c
    refine go_iload_n (pc2 := 10) dX10_power_9 rfl rfl rfl ?_
    refine go_iload_n (pc2 := 11) dX10_power_10 rfl rfl rfl ?_
    refine go_imul (pc2 := 12) dX10_power_11 rfl ?_
    refine go_istore_n (pc2 := 13) (ls2 := [(0, .int x0), (1, .int x1), (2, .int (x2 * x0)), (3, .int x3)]) dX10_power_12 rfl rfl rfl rfl rfl rfl ?_
    refine go_iinc (pc2 := 16) (ls2 := [(0, .int x0), (1, .int x1), (2, .int (x2 * x0)), (3, .int (x3 + 1))]) (v := (x3 + 1)) dX10_power_13 rfl rfl rfl rfl rfl rfl rfl ?_
    refine go_goto (tgt := 4) dX10_power_16 (by decide) ?_
    exact k
theorem e_X10_commonDivisor {x0 : Int32} {x1 : Int32} {h : Hp} {Q : Int32 → Hp → Prop}  (k : GoI 0 mX10_commonDivisor 7 [(2, .int x0), (3, .int x1), (4, .int (0 : Int32))] [] h Q) : CtI 0 mX10_commonDivisor [.int x0, .int x1] h Q := by
  refine Ct.of (by decide +kernel) (Nat.le_of_ble_eq_true rfl) ?_
  show GoI 0 mX10_commonDivisor 0 [(0, .int x0), (1, .int x1)] [] h Q
  refine go_iload_n (pc2 := 1) dX10_commonDivisor_0 rfl rfl rfl ?_
  refine go_istore_n (pc2 := 2) (ls2 := [(0, .int x0), (1, .int x1), (2, .int x0)]) dX10_commonDivisor_1 rfl rfl rfl rfl rfl rfl ?_
  refine go_iload_n (pc2 := 3) dX10_commonDivisor_2 rfl rfl rfl ?_
  refine go_istore_n (pc2 := 4) (ls2 := [(0, .int x0), (1, .int x1), (2, .int x0), (3, .int x1)]) dX10_commonDivisor_3 rfl rfl rfl rfl rfl rfl ?_
  refine go_iconst (pc2 := 5) (v := (0 : Int32)) dX10_commonDivisor_4 rfl (by decide) ?_
  refine go_istore (pc2 := 7) (ls2 := [(0, .int x0), (1, .int x1), (2, .int x0), (3, .int x1), (4, .int (0 : Int32))]) dX10_commonDivisor_5 rfl rfl rfl rfl rfl ?_
  exact Go.pick [2, 3, 4] rfl k
theorem b_X10_commonDivisor_7 {x2 : Int32} {x3 : Int32} {x4 : Int32} {h : Hp} {Q : Int32 → Hp → Prop}  (k : (((64 : Int32) ≤ x4 → (((1 : Int32) ≤ x3 → Q x3 h) ∧ (¬ ((1 : Int32) ≤ x3) → Q (1 : Int32) h))) ∧ (¬ ((64 : Int32) ≤ x4) → ((x2 = 0 → (((1 : Int32) ≤ x3 → Q x3 h) ∧ (¬ ((1 : Int32) ≤ x3) → Q (1 : Int32) h))) ∧ (¬ x2 = 0 → (¬ x2 = 0 ∧ GoI 0 mX10_commonDivisor 7 [(2, .int (x3 - x3 / x2 * x2)), (3, .int x2), (4, .int (x4 + 1))] [] h Q)))))) : GoI 0 mX10_commonDivisor 7 [(2, .int x2), (3, .int x3), (4, .int x4)] [] h Q := by
  refine go_iload (pc2 := 9) dX10_commonDivisor_7 rfl rfl ?_
  refine go_bipush (pc2 := 11) (v := (64 : Int32)) dX10_commonDivisor_9 rfl (by decide) ?_
  refine go_icmp_ge (pc2 := 14) (tgt := 34) dX10_commonDivisor_11 rfl (by decide) (fun c => ?_) (fun c => ?_)
  · have k := k.1 c
    refine go_iload_n (pc2 := 35) dX10_commonDivisor_34 rfl rfl rfl ?_
    refine go_iconst (pc2 := 36) (v := (1 : Int32)) dX10_commonDivisor_35 rfl (by decide) ?_
    refine go_icmp_ge (pc2 := 39) (tgt := 43) dX10_commonDivisor_36 rfl (by decide) (fun c => ?_) (fun c => ?_)
    · have k := k.1 c
      refine go_iload_n (pc2 := 44) dX10_commonDivisor_43 rfl rfl rfl ?_
      exact go_iret dX10_commonDivisor_44 ⟨_, rfl, rfl⟩ ⟨rfl, _, rfl, k⟩
    · have k := k.2 c
      refine go_iconst (pc2 := 40) (v := (1 : Int32)) dX10_commonDivisor_39 rfl (by decide) ?_
      refine go_goto (tgt := 44) dX10_commonDivisor_40 (by decide) ?_
      exact go_iret dX10_commonDivisor_44 ⟨_, rfl, rfl⟩ ⟨rfl, _, rfl, k⟩
  · have k := k.2 c
    refine go_iload_n (pc2 := 15) dX10_commonDivisor_14 rfl rfl rfl ?_
    refine go_if_eq (pc2 := 18) (tgt := 34) dX10_commonDivisor_15 rfl (by decide) (fun c => ?_) (fun c => ?_)
    · have k := k.1 c
      refine go_iload_n (pc2 := 35) dX10_commonDivisor_34 rfl rfl rfl ?_
      refine go_iconst (pc2 := 36) (v := (1 : Int32)) dX10_commonDivisor_35 rfl (by decide) ?_
      refine go_icmp_ge (pc2 := 39) (tgt := 43) dX10_commonDivisor_36 rfl (by decide) (fun c => ?_) (fun c => ?_)
      · have k := k.1 c
        refine go_iload_n (pc2 := 44) dX10_commonDivisor_43 rfl rfl rfl ?_
        exact go_iret dX10_commonDivisor_44 ⟨_, rfl, rfl⟩ ⟨rfl, _, rfl, k⟩
      · have k := k.2 c
        refine go_iconst (pc2 := 40) (v := (1 : Int32)) dX10_commonDivisor_39 rfl (by decide) ?_
        refine go_goto (tgt := 44) dX10_commonDivisor_40 (by decide) ?_
        exact go_iret dX10_commonDivisor_44 ⟨_, rfl, rfl⟩ ⟨rfl, _, rfl, k⟩
    · have k := k.2 c
      refine go_iload_n (pc2 := 19) dX10_commonDivisor_18 rfl rfl rfl ?_
      refine go_iload_n (pc2 := 20) dX10_commonDivisor_19 rfl rfl rfl ?_
      obtain ⟨y1, k⟩ := k
      refine go_irem (pc2 := 21) dX10_commonDivisor_20 rfl y1 ?_
      refine go_istore (pc2 := 23) (ls2 := [(2, .int x2), (3, .int x3), (4, .int x4), (5, .int (x3 - x3 / x2 * x2))]) dX10_commonDivisor_21 rfl rfl rfl rfl rfl ?_
      refine go_iload_n (pc2 := 24) dX10_commonDivisor_23 rfl rfl rfl ?_
      refine go_istore_n (pc2 := 25) (ls2 := [(2, .int x2), (3, .int x2), (4, .int x4), (5, .int (x3 - x3 / x2 * x2))]) dX10_commonDivisor_24 rfl rfl rfl rfl rfl rfl ?_
      refine go_iload (pc2 := 27) dX10_commonDivisor_25 rfl rfl ?_
      refine go_istore_n (pc2 := 28) (ls2 := [(2, .int (x3 - x3 / x2 * x2)), (3, .int x2), (4, .int x4), (5, .int (x3 - x3 / x2 * x2))]) dX10_commonDivisor_27 rfl rfl rfl rfl rfl rfl ?_
      refine go_iinc (pc2 := 31) (ls2 := [(2, .int (x3 - x3 / x2 * x2)), (3, .int x2), (4, .int (x4 + 1)), (5, .int (x3 - x3 / x2 * x2))]) (v := (x4 + 1)) dX10_commonDivisor_28 rfl rfl rfl rfl rfl rfl rfl ?_
      refine go_goto (tgt := 7) dX10_commonDivisor_31 (by decide) ?_
      exact Go.pick [0, 1, 2] rfl k
theorem e_X10_productIsOver {x0 : Int64} {x2 : Int64} {h : Hp} {Q : Int32 → Hp → Prop}  (k : ((¬ (lg_cmp x2 (0 : Int64)) = 0 → ((¬ (lg_cmp x2 (-1 : Int64)) = 0 → (¬ x2 = 0 ∧ Q (if (lg_cmp ((x0 * x2) / x2) x0) = 0 then (0 : Int32) else (1 : Int32)) h)) ∧ ((lg_cmp x2 (-1 : Int64)) = 0 → Q (if (lg_cmp x0 (-9223372036854775808 : Int64)) = 0 then (1 : Int32) else (0 : Int32)) h))) ∧ ((lg_cmp x2 (0 : Int64)) = 0 → Q (0 : Int32) h))) : CtI 0 mX10_productIsOver [.long x0, .long x2] h Q := by
  refine Ct.of (by decide +kernel) (Nat.le_of_ble_eq_true rfl) ?_
  show GoI 0 mX10_productIsOver 0 [(0, .long x0), (2, .long x2)] [] h Q
  refine go_lload_n (pc2 := 1) dX10_productIsOver_0 rfl rfl rfl ?_
  refine go_lconst (pc2 := 2) (v := (0 : Int64)) dX10_productIsOver_1 rfl (by decide) ?_
  refine go_lcmp (pc2 := 3) dX10_productIsOver_2 rfl ?_
  refine go_if_ne (pc2 := 6) (tgt := 8) dX10_productIsOver_3 rfl (by decide) (fun c => ?_) (fun c => ?_)
  · have k := k.1 c
    refine go_lload_n (pc2 := 9) dX10_productIsOver_8 rfl rfl rfl ?_
    refine go_ldc2 (pc2 := 12) dX10_productIsOver_9 rfl rfl w_990 ?_
    refine go_lcmp (pc2 := 13) dX10_productIsOver_12 rfl ?_
    refine go_if_ne (pc2 := 16) (tgt := 30) dX10_productIsOver_13 rfl (by decide) (fun c => ?_) (fun c => ?_)
    · have k := k.1 c
      refine go_lload_n (pc2 := 31) dX10_productIsOver_30 rfl rfl rfl ?_
      refine go_lload_n (pc2 := 32) dX10_productIsOver_31 rfl rfl rfl ?_
      refine go_lmul (pc2 := 33) dX10_productIsOver_32 rfl ?_
      refine go_lload_n (pc2 := 34) dX10_productIsOver_33 rfl rfl rfl ?_
      obtain ⟨y1, k⟩ := k
      refine go_ldiv (pc2 := 35) dX10_productIsOver_34 rfl y1 ?_
      refine go_lload_n (pc2 := 36) dX10_productIsOver_35 rfl rfl rfl ?_
      refine go_lcmp (pc2 := 37) dX10_productIsOver_36 rfl ?_
      have J : GoI 0 mX10_productIsOver 45 [(0, .long x0), (2, .long x2)] [.int (if (lg_cmp ((x0 * x2) / x2) x0) = 0 then (0 : Int32) else (1 : Int32))] h Q := by
        exact go_iret dX10_productIsOver_45 ⟨_, rfl, congrArg Value.int ite_b⟩ ⟨rfl, _, rfl, k⟩
      refine go_if_eq (pc2 := 40) (tgt := 44) dX10_productIsOver_37 rfl (by decide) (fun c => ?_) (fun c => ?_)
      · rw [if_pos c] at J
        exact go_iconst (pc2 := 45) dX10_productIsOver_44 rfl (by decide) J
      · rw [if_neg c] at J
        exact go_iconst (pc2 := 41) dX10_productIsOver_40 rfl (by decide) (go_goto (tgt := 45) dX10_productIsOver_41 (by decide) J)
    · have k := k.2 c
      refine go_lload_n (pc2 := 17) dX10_productIsOver_16 rfl rfl rfl ?_
      refine go_ldc2 (pc2 := 20) dX10_productIsOver_17 rfl rfl w_991 ?_
      refine go_lcmp (pc2 := 21) dX10_productIsOver_20 rfl ?_
      have J : GoI 0 mX10_productIsOver 29 [(0, .long x0), (2, .long x2)] [.int (if (lg_cmp x0 (-9223372036854775808 : Int64)) = 0 then (1 : Int32) else (0 : Int32))] h Q := by
        exact go_iret dX10_productIsOver_29 ⟨_, rfl, congrArg Value.int ite_b⟩ ⟨rfl, _, rfl, k⟩
      refine go_if_ne (pc2 := 24) (tgt := 28) dX10_productIsOver_21 rfl (by decide) (fun c => ?_) (fun c => ?_)
      · rw [if_neg c] at J
        exact go_iconst (pc2 := 29) dX10_productIsOver_28 rfl (by decide) J
      · rw [if_pos c] at J
        exact go_iconst (pc2 := 25) dX10_productIsOver_24 rfl (by decide) (go_goto (tgt := 29) dX10_productIsOver_25 (by decide) J)
  · have k := k.2 c
    refine go_iconst (pc2 := 7) (v := (0 : Int32)) dX10_productIsOver_6 rfl (by decide) ?_
    exact go_iret dX10_productIsOver_7 ⟨_, rfl, rfl⟩ ⟨rfl, _, rfl, k⟩
theorem e_X10_bitsOf {x0 : UInt32} {h : Hp} {Q : Int32 → Hp → Prop}  (k : ((0 < (Op.cmpValue (FP.fcmp x0 FP.fconst0) .l) → GoI 0 mX10_bitsOf 15 [(1, .int (127 : Int32)), (2, .float x0), (3, .int (0 : Int32))] [] h Q) ∧ (¬ (0 < (Op.cmpValue (FP.fcmp x0 FP.fconst0) .l)) → Q (0 : Int32) h))) : CtI 0 mX10_bitsOf [.float x0] h Q := by
  refine Ct.of (by decide +kernel) (Nat.le_of_ble_eq_true rfl) ?_
  show GoI 0 mX10_bitsOf 0 [(0, .float x0)] [] h Q
  refine go_fload_n (pc2 := 1) dX10_bitsOf_0 rfl rfl rfl ?_
  refine go_fconst0 (pc2 := 2) dX10_bitsOf_1 rfl ?_
  refine go_fcmp (pc2 := 3) dX10_bitsOf_2 rfl ?_
  refine go_if_gt (pc2 := 6) (tgt := 8) dX10_bitsOf_3 rfl (by decide) (fun c => ?_) (fun c => ?_)
  · have k := k.1 c
    refine go_bipush (pc2 := 10) (v := (127 : Int32)) dX10_bitsOf_8 rfl (by decide) ?_
    refine go_istore_n (pc2 := 11) (ls2 := [(0, .float x0), (1, .int (127 : Int32))]) dX10_bitsOf_10 rfl rfl rfl rfl rfl rfl ?_
    refine go_fload_n (pc2 := 12) dX10_bitsOf_11 rfl rfl rfl ?_
    refine go_fstore_n (pc2 := 13) (ls2 := [(0, .float x0), (1, .int (127 : Int32)), (2, .float x0)]) dX10_bitsOf_12 rfl rfl rfl rfl rfl rfl ?_
    refine go_iconst (pc2 := 14) (v := (0 : Int32)) dX10_bitsOf_13 rfl (by decide) ?_
    refine go_istore_n (pc2 := 15) (ls2 := [(0, .float x0), (1, .int (127 : Int32)), (2, .float x0), (3, .int (0 : Int32))]) dX10_bitsOf_14 rfl rfl rfl rfl rfl rfl ?_
    exact Go.pick [1, 2, 3] rfl k
  · have k := k.2 c
    refine go_iconst (pc2 := 7) (v := (0 : Int32)) dX10_bitsOf_6 rfl (by decide) ?_
    exact go_iret dX10_bitsOf_7 ⟨_, rfl, rfl⟩ ⟨rfl, _, rfl, k⟩
theorem b_X10_bitsOf_15 {x1 : Int32} {x2 : UInt32} {x3 : Int32} {h : Hp} {Q : Int32 → Hp → Prop}  (k : (((127 : Int32) ≤ x3 → GoI 0 mX10_bitsOf 42 [(1, .int x1), (2, .float x2)] [] h Q) ∧ (¬ ((127 : Int32) ≤ x3) → (((Op.cmpValue (FP.fcmp x2 FP.fconst2) .l) < 0 → GoI 0 mX10_bitsOf 42 [(1, .int x1), (2, .float x2)] [] h Q) ∧ (¬ ((Op.cmpValue (FP.fcmp x2 FP.fconst2) .l) < 0) → (vf_n32 (FP.fmul x2 (1056964608 : UInt32)) ∧ GoI 0 mX10_bitsOf 15 [(1, .int (x1 + 1)), (2, .float (FP.fmul x2 (1056964608 : UInt32))), (3, .int (x3 + 1))] [] h Q)))))) : GoI 0 mX10_bitsOf 15 [(1, .int x1), (2, .float x2), (3, .int x3)] [] h Q := by
  refine go_iload_n (pc2 := 16) dX10_bitsOf_15 rfl rfl rfl ?_
  refine go_bipush (pc2 := 18) (v := (127 : Int32)) dX10_bitsOf_16 rfl (by decide) ?_
  refine go_icmp_ge (pc2 := 21) (tgt := 42) dX10_bitsOf_18 rfl (by decide) (fun c => ?_) (fun c => ?_)
  · have k := k.1 c
    exact Go.pick [0, 1] rfl k
  · have k := k.2 c
    refine go_fload_n (pc2 := 22) dX10_bitsOf_21 rfl rfl rfl ?_
    refine go_fconst2 (pc2 := 23) dX10_bitsOf_22 rfl ?_
    refine go_fcmp (pc2 := 24) dX10_bitsOf_23 rfl ?_
    refine go_if_lt (pc2 := 27) (tgt := 42) dX10_bitsOf_24 rfl (by decide) (fun c => ?_) (fun c => ?_)
    · have k := k.1 c
      exact Go.pick [0, 1] rfl k
    · have k := k.2 c
      refine go_fload_n (pc2 := 28) dX10_bitsOf_27 rfl rfl rfl ?_
      refine go_ldcwf (pc2 := 31) dX10_bitsOf_28 rfl rfl w_846 ?_
      obtain ⟨y1, k⟩ := k
      refine go_fmul (pc2 := 32) dX10_bitsOf_31 rfl y1 ?_
      refine go_fstore_n (pc2 := 33) (ls2 := [(1, .int x1), (2, .float (FP.fmul x2 (1056964608 : UInt32))), (3, .int x3)]) dX10_bitsOf_32 rfl rfl rfl rfl rfl rfl ?_
      refine go_iinc (pc2 := 36) (ls2 := [(1, .int (x1 + 1)), (2, .float (FP.fmul x2 (1056964608 : UInt32))), (3, .int x3)]) (v := (x1 + 1)) dX10_bitsOf_33 rfl rfl rfl rfl rfl rfl rfl ?_
      refine go_iinc (pc2 := 39) (ls2 := [(1, .int (x1 + 1)), (2, .float (FP.fmul x2 (1056964608 : UInt32))), (3, .int (x3 + 1))]) (v := (x3 + 1)) dX10_bitsOf_36 rfl rfl rfl rfl rfl rfl rfl ?_
      refine go_goto (tgt := 15) dX10_bitsOf_39 (by decide) ?_
      exact k
theorem b_X10_bitsOf_42 {x1 : Int32} {x2 : UInt32} {h : Hp} {Q : Int32 → Hp → Prop}  (k : GoI 0 mX10_bitsOf 44 [(1, .int x1), (2, .float x2), (3, .int (0 : Int32))] [] h Q) : GoI 0 mX10_bitsOf 42 [(1, .int x1), (2, .float x2)] [] h Q := by
  refine go_iconst (pc2 := 43) (v := (0 : Int32)) dX10_bitsOf_42 rfl (by decide) ?_
  refine go_istore_n (pc2 := 44) (ls2 := [(1, .int x1), (2, .float x2), (3, .int (0 : Int32))]) dX10_bitsOf_43 rfl rfl rfl rfl rfl rfl ?_
  exact k
theorem b_X10_bitsOf_44 {x1 : Int32} {x2 : UInt32} {x3 : Int32} {h : Hp} {Q : Int32 → Hp → Prop}  (k : (((126 : Int32) ≤ x3 → (vf_n32 (FP.fmul x2 (1258291200 : UInt32)) ∧ Q ((x1 <<< ((23 : Int32) &&& 31)) + ((FP.f2i (FP.fmul x2 (1258291200 : UInt32))) - (8388608 : Int32))) h)) ∧ (¬ ((126 : Int32) ≤ x3) → ((0 ≤ (Op.cmpValue (FP.fcmp x2 FP.fconst1) .g) → (vf_n32 (FP.fmul x2 (1258291200 : UInt32)) ∧ Q ((x1 <<< ((23 : Int32) &&& 31)) + ((FP.f2i (FP.fmul x2 (1258291200 : UInt32))) - (8388608 : Int32))) h)) ∧ (¬ (0 ≤ (Op.cmpValue (FP.fcmp x2 FP.fconst1) .g)) → (vf_n32 (FP.fmul x2 FP.fconst2) ∧ GoI 0 mX10_bitsOf 44 [(1, .int (x1 + (-1))), (2, .float (FP.fmul x2 FP.fconst2)), (3, .int (x3 + 1))] [] h Q)))))) : GoI 0 mX10_bitsOf 44 [(1, .int x1), (2, .float x2), (3, .int x3)] [] h Q := by
  refine go_iload_n (pc2 := 45) dX10_bitsOf_44 rfl rfl rfl ?_
  refine go_bipush (pc2 := 47) (v := (126 : Int32)) dX10_bitsOf_45 rfl (by decide) ?_
  refine go_icmp_ge (pc2 := 50) (tgt := 69) dX10_bitsOf_47 rfl (by decide) (fun c => ?_) (fun c => ?_)
  · have k := k.1 c
    refine go_iload_n (pc2 := 70) dX10_bitsOf_69 rfl rfl rfl ?_
    refine go_bipush (pc2 := 72) (v := (23 : Int32)) dX10_bitsOf_70 rfl (by decide) ?_
    refine go_ishl (pc2 := 73) dX10_bitsOf_72 rfl ?_
    refine go_fload_n (pc2 := 74) dX10_bitsOf_73 rfl rfl rfl ?_
    refine go_ldcwf (pc2 := 77) dX10_bitsOf_74 rfl rfl w_847 ?_
    obtain ⟨y1, k⟩ := k
    refine go_fmul (pc2 := 78) dX10_bitsOf_77 rfl y1 ?_
    refine go_f2i (pc2 := 79) dX10_bitsOf_78 rfl ?_
    refine go_ldcw (pc2 := 82) dX10_bitsOf_79 rfl rfl w_848 ?_
    refine go_isub (pc2 := 83) dX10_bitsOf_82 rfl ?_
    refine go_iadd (pc2 := 84) dX10_bitsOf_83 rfl ?_
    exact go_iret dX10_bitsOf_84 ⟨_, rfl, rfl⟩ ⟨rfl, _, rfl, k⟩
  · have k := k.2 c
    refine go_fload_n (pc2 := 51) dX10_bitsOf_50 rfl rfl rfl ?_
    refine go_fconst1 (pc2 := 52) dX10_bitsOf_51 rfl ?_
    refine go_fcmp (pc2 := 53) dX10_bitsOf_52 rfl ?_
    refine go_if_ge (pc2 := 56) (tgt := 69) dX10_bitsOf_53 rfl (by decide) (fun c => ?_) (fun c => ?_)
    · have k := k.1 c
      refine go_iload_n (pc2 := 70) dX10_bitsOf_69 rfl rfl rfl ?_
      refine go_bipush (pc2 := 72) (v := (23 : Int32)) dX10_bitsOf_70 rfl (by decide) ?_
      refine go_ishl (pc2 := 73) dX10_bitsOf_72 rfl ?_
      refine go_fload_n (pc2 := 74) dX10_bitsOf_73 rfl rfl rfl ?_
      refine go_ldcwf (pc2 := 77) dX10_bitsOf_74 rfl rfl w_847 ?_
      obtain ⟨y2, k⟩ := k
      refine go_fmul (pc2 := 78) dX10_bitsOf_77 rfl y2 ?_
      refine go_f2i (pc2 := 79) dX10_bitsOf_78 rfl ?_
      refine go_ldcw (pc2 := 82) dX10_bitsOf_79 rfl rfl w_848 ?_
      refine go_isub (pc2 := 83) dX10_bitsOf_82 rfl ?_
      refine go_iadd (pc2 := 84) dX10_bitsOf_83 rfl ?_
      exact go_iret dX10_bitsOf_84 ⟨_, rfl, rfl⟩ ⟨rfl, _, rfl, k⟩
    · have k := k.2 c
      refine go_fload_n (pc2 := 57) dX10_bitsOf_56 rfl rfl rfl ?_
      refine go_fconst2 (pc2 := 58) dX10_bitsOf_57 rfl ?_
      obtain ⟨y3, k⟩ := k
      refine go_fmul (pc2 := 59) dX10_bitsOf_58 rfl y3 ?_
      refine go_fstore_n (pc2 := 60) (ls2 := [(1, .int x1), (2, .float (FP.fmul x2 FP.fconst2)), (3, .int x3)]) dX10_bitsOf_59 rfl rfl rfl rfl rfl rfl ?_
      refine go_iinc (pc2 := 63) (ls2 := [(1, .int (x1 + (-1))), (2, .float (FP.fmul x2 FP.fconst2)), (3, .int x3)]) (v := (x1 + (-1))) dX10_bitsOf_60 rfl rfl rfl rfl rfl rfl rfl ?_
      refine go_iinc (pc2 := 66) (ls2 := [(1, .int (x1 + (-1))), (2, .float (FP.fmul x2 FP.fconst2)), (3, .int (x3 + 1))]) (v := (x3 + 1)) dX10_bitsOf_63 rfl rfl rfl rfl rfl rfl rfl ?_
      refine go_goto (tgt := 44) dX10_bitsOf_66 (by decide) ?_
      exact k
