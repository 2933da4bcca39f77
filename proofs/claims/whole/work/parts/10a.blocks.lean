theorem e_X0_ready  {h : Hp} {Q : Hp → Prop}  (k : (∀ g1 : Hp, g1 = (ui h 28 7 (h.1 1 5)) → GoV 2 mX0_ready 10 [(0, .ref 28), (1, .ref 1), (2, .int (0 : Int32))] [] g1 Q)) : CtV 2 mX0_ready [.ref 28, .ref 1] h Q := by
  refine Ct.of (by decide +kernel) (Nat.le_of_ble_eq_true rfl) ?_
  show GoV 2 mX0_ready 0 [(0, .ref 28), (1, .ref 1)] [] h Q
  refine go_aload_n (pc2 := 1) dX0_ready_0 rfl rfl rfl ?_
  refine go_aload_n (pc2 := 2) dX0_ready_1 rfl rfl rfl ?_
  refine gf_121 (pc2 := 5) rfl dX0_ready_2 rfl c_1 fvi ?_
  refine pf_191 (pc2 := 8) rfl dX0_ready_5 rfl c_28 ?_
  obtain ⟨g1, eg1⟩ : ∃ y : Hp, y = (ui h 28 7 (h.1 1 5)) := ⟨_, rfl⟩
  rw [← eg1]
  have k := k g1 eg1
  refine go_iconst (pc2 := 9) (v := (0 : Int32)) dX0_ready_8 rfl (by decide) ?_
  refine go_istore_n (pc2 := 10) (ls2 := [(0, .ref 28), (1, .ref 1), (2, .int (0 : Int32))]) dX0_ready_9 rfl rfl rfl rfl rfl rfl ?_
  exact k
theorem b_X0_ready_10 {x2 : Int32} {h : Hp} {Q : Hp → Prop}  (k : (((h.1 28 7) ≤ x2 → Q h) ∧ (¬ ((h.1 28 7) ≤ x2) → (vp_in x2 3 ∧ (∃ Q2, CtI 0 mX3_least [.ref (6 + (x2).toNatClampNeg)] h Q2 ∧ ∀ (v4 : Int32) (h5 : Hp), Q2 v4 h5 → (vp_in x2 3 ∧ (∀ g8 : Hp, g8 = (ui h5 30 (x2).toNatClampNeg v4) → (∃ Q9, CtI 1 mX3_most [.ref (6 + (x2).toNatClampNeg), .int (0 : Int32)] g8 Q9 ∧ ∀ (v11 : Int32) (h12 : Hp), Q9 v11 h12 → (vp_in x2 3 ∧ (∀ g15 : Hp, g15 = (ui h12 31 (x2).toNatClampNeg v11) → (∃ Q16, CtI 1 mX3_most [.ref (6 + (x2).toNatClampNeg), .int (1 : Int32)] g15 Q16 ∧ ∀ (v18 : Int32) (h19 : Hp), Q16 v18 h19 → (vp_in x2 3 ∧ (∀ g22 : Hp, g22 = (ui h19 32 (x2).toNatClampNeg v18) → (vp_in x2 3 ∧ (∀ g24 : Hp, g24 = (ui g22 33 (x2).toNatClampNeg (g22.1 (6 + (x2).toNatClampNeg) 4)) → (vp_in x2 3 ∧ (∀ g26 : Hp, g26 = (ui g24 34 (x2).toNatClampNeg (g24.1 (6 + (x2).toNatClampNeg) 5)) → GoV 2 mX0_ready 80 [(0, .ref 28), (1, .ref 1), (2, .int x2), (3, .ref (6 + (x2).toNatClampNeg)), (4, .int x2)] [] g26 Q))))))))))))))))) : GoV 2 mX0_ready 10 [(0, .ref 28), (1, .ref 1), (2, .int x2)] [] h Q := by
  refine go_iload_n (pc2 := 11) dX0_ready_10 rfl rfl rfl ?_
  refine go_aload_n (pc2 := 12) dX0_ready_11 rfl rfl rfl ?_
  refine gf_191 (pc2 := 15) rfl dX0_ready_12 rfl c_28 fvi ?_
  refine go_icmp_ge (pc2 := 18) (tgt := 146) dX0_ready_15 rfl (by decide) (fun c => ?_) (fun c => ?_)
  · have k := k.1 c
    exact go_ret dX0_ready_146 rfl ⟨rfl, rfl, k⟩
  · have k := k.2 c
    refine go_aload_n (pc2 := 19) dX0_ready_18 rfl rfl rfl ?_
    refine gf_115 (pc2 := 22) rfl dX0_ready_19 rfl c_1 (fvs r_1_4) ?_
    refine go_iload_n (pc2 := 23) dX0_ready_22 rfl rfl rfl ?_
    obtain ⟨y1, k⟩ := k
    refine go_aaload (pc2 := 24) (t := 0) dX0_ready_23 rfl (by decide) c_5 y1 rfl (rfo_s (ra_5 _ (vp_lt y1))) ?_
    refine go_astore_n (pc2 := 25) (ls2 := [(0, .ref 28), (1, .ref 1), (2, .int x2), (3, .ref (6 + (x2).toNatClampNeg))]) dX0_ready_24 rfl rfl rfl rfl rfl rfl ?_
    refine go_aload_n (pc2 := 26) dX0_ready_25 rfl rfl rfl ?_
    refine gf_184 (pc2 := 29) rfl dX0_ready_26 rfl c_28 (fvs r_28_1) ?_
    refine go_iload_n (pc2 := 30) dX0_ready_29 rfl rfl rfl ?_
    refine go_aload_n (pc2 := 31) dX0_ready_30 rfl rfl rfl ?_
    obtain ⟨Q2, hC3, k⟩ := k
    refine gcVN_I (pc2 := 34) (dC := 0) (As := []) (st := [.int x2, .ref 30]) rfl dX0_ready_31 rfl w_685 ok_X3_least vi_X3_least (isPl_6 _ (vp_lt y1)) (by decide) rfl rfl rfl (by decide) (Nat.le_of_ble_eq_true rfl) hC3 (fun v4 h5 hq6 => ?_)
    have k := k v4 h5 hq6
    obtain ⟨y7, k⟩ := k
    refine go_iastore (pc2 := 35) (j := (x2).toNatClampNeg) dX0_ready_34 rfl c_30 y7 rfl ?_
    obtain ⟨g8, eg8⟩ : ∃ y : Hp, y = (ui h5 30 (x2).toNatClampNeg v4) := ⟨_, rfl⟩
    rw [← eg8]
    have k := k g8 eg8
    refine go_aload_n (pc2 := 36) dX0_ready_35 rfl rfl rfl ?_
    refine gf_185 (pc2 := 39) rfl dX0_ready_36 rfl c_28 (fvs r_28_2) ?_
    refine go_iload_n (pc2 := 40) dX0_ready_39 rfl rfl rfl ?_
    refine go_aload_n (pc2 := 41) dX0_ready_40 rfl rfl rfl ?_
    refine go_iconst (pc2 := 42) (v := (0 : Int32)) dX0_ready_41 rfl (by decide) ?_
    obtain ⟨Q9, hC10, k⟩ := k
    refine gcVN_I (pc2 := 45) (dC := 1) (As := [.int (0 : Int32)]) (st := [.int x2, .ref 31]) rfl dX0_ready_42 rfl w_686 ok_X3_most vi_X3_most (isPl_6 _ (vp_lt y1)) (by decide) rfl rfl rfl (by decide) (Nat.le_of_ble_eq_true rfl) hC10 (fun v11 h12 hq13 => ?_)
    have k := k v11 h12 hq13
    obtain ⟨y14, k⟩ := k
    refine go_iastore (pc2 := 46) (j := (x2).toNatClampNeg) dX0_ready_45 rfl c_31 y14 rfl ?_
    obtain ⟨g15, eg15⟩ : ∃ y : Hp, y = (ui h12 31 (x2).toNatClampNeg v11) := ⟨_, rfl⟩
    rw [← eg15]
    have k := k g15 eg15
    refine go_aload_n (pc2 := 47) dX0_ready_46 rfl rfl rfl ?_
    refine gf_186 (pc2 := 50) rfl dX0_ready_47 rfl c_28 (fvs r_28_3) ?_
    refine go_iload_n (pc2 := 51) dX0_ready_50 rfl rfl rfl ?_
    refine go_aload_n (pc2 := 52) dX0_ready_51 rfl rfl rfl ?_
    refine go_iconst (pc2 := 53) (v := (1 : Int32)) dX0_ready_52 rfl (by decide) ?_
    obtain ⟨Q16, hC17, k⟩ := k
    refine gcVN_I (pc2 := 56) (dC := 1) (As := [.int (1 : Int32)]) (st := [.int x2, .ref 32]) rfl dX0_ready_53 rfl w_686 ok_X3_most vi_X3_most (isPl_6 _ (vp_lt y1)) (by decide) rfl rfl rfl (by decide) (Nat.le_of_ble_eq_true rfl) hC17 (fun v18 h19 hq20 => ?_)
    have k := k v18 h19 hq20
    obtain ⟨y21, k⟩ := k
    refine go_iastore (pc2 := 57) (j := (x2).toNatClampNeg) dX0_ready_56 rfl c_32 y21 rfl ?_
    obtain ⟨g22, eg22⟩ : ∃ y : Hp, y = (ui h19 32 (x2).toNatClampNeg v18) := ⟨_, rfl⟩
    rw [← eg22]
    have k := k g22 eg22
    refine go_aload_n (pc2 := 58) dX0_ready_57 rfl rfl rfl ?_
    refine gf_187 (pc2 := 61) rfl dX0_ready_58 rfl c_28 (fvs r_28_4) ?_
    refine go_iload_n (pc2 := 62) dX0_ready_61 rfl rfl rfl ?_
    refine go_aload_n (pc2 := 63) dX0_ready_62 rfl rfl rfl ?_
    refine gf_54 (pc2 := 66) rfl dX0_ready_63 rfl (isPl_6 _ (vp_lt y1)) fvi ?_
    obtain ⟨y23, k⟩ := k
    refine go_iastore (pc2 := 67) (j := (x2).toNatClampNeg) dX0_ready_66 rfl c_33 y23 rfl ?_
    obtain ⟨g24, eg24⟩ : ∃ y : Hp, y = (ui g22 33 (x2).toNatClampNeg (g22.1 (6 + (x2).toNatClampNeg) 4)) := ⟨_, rfl⟩
    rw [← eg24]
    have k := k g24 eg24
    refine go_aload_n (pc2 := 68) dX0_ready_67 rfl rfl rfl ?_
    refine gf_188 (pc2 := 71) rfl dX0_ready_68 rfl c_28 (fvs r_28_5) ?_
    refine go_iload_n (pc2 := 72) dX0_ready_71 rfl rfl rfl ?_
    refine go_aload_n (pc2 := 73) dX0_ready_72 rfl rfl rfl ?_
    refine gf_58 (pc2 := 76) rfl dX0_ready_73 rfl (isPl_6 _ (vp_lt y1)) fvi ?_
    obtain ⟨y25, k⟩ := k
    refine go_iastore (pc2 := 77) (j := (x2).toNatClampNeg) dX0_ready_76 rfl c_34 y25 rfl ?_
    obtain ⟨g26, eg26⟩ : ∃ y : Hp, y = (ui g24 34 (x2).toNatClampNeg (g24.1 (6 + (x2).toNatClampNeg) 5)) := ⟨_, rfl⟩
    rw [← eg26]
    have k := k g26 eg26
    refine go_iload_n (pc2 := 78) dX0_ready_77 rfl rfl rfl ?_
    refine go_istore (pc2 := 80) (ls2 := [(0, .ref 28), (1, .ref 1), (2, .int x2), (3, .ref (6 + (x2).toNatClampNeg)), (4, .int x2)]) dX0_ready_78 rfl rfl rfl rfl rfl ?_
    exact k
theorem b_X0_ready_80 {x2 : Int32} {x3 : Nat} {x4 : Int32} {h : Hp} {Q : Hp → Prop} (hx3 : isPl x3) (k : ((x4 ≤ 0 → GoV 2 mX0_ready 132 [(0, .ref 28), (1, .ref 1), (2, .int x2), (4, .int x4)] [] h Q) ∧ (¬ (x4 ≤ 0) → (vp_in (x4 - (1 : Int32)) 3 ∧ (vp_in (h.1 29 ((x4 - (1 : Int32))).toNatClampNeg) 3 ∧ (∃ Q3, CtI 0 mX0_comesAhead [.ref x3, .ref (6 + ((h.1 29 ((x4 - (1 : Int32))).toNatClampNeg)).toNatClampNeg), .int (h.1 1 6)] h Q3 ∧ ∀ (v5 : Int32) (h6 : Hp), Q3 v5 h6 → ((v5 = 0 → GoV 2 mX0_ready 132 [(0, .ref 28), (1, .ref 1), (2, .int x2), (4, .int x4)] [] h6 Q) ∧ (¬ v5 = 0 → (vp_in (x4 - (1 : Int32)) 3 ∧ (vp_in x4 3 ∧ (∀ g10 : Hp, g10 = (ui h6 29 (x4).toNatClampNeg (h6.1 29 ((x4 - (1 : Int32))).toNatClampNeg)) → GoV 2 mX0_ready 80 [(0, .ref 28), (1, .ref 1), (2, .int x2), (3, .ref x3), (4, .int (x4 + (-1)))] [] g10 Q))))))))))) : GoV 2 mX0_ready 80 [(0, .ref 28), (1, .ref 1), (2, .int x2), (3, .ref x3), (4, .int x4)] [] h Q := by
  refine go_iload (pc2 := 82) dX0_ready_80 rfl rfl ?_
  refine go_if_le (pc2 := 85) (tgt := 132) dX0_ready_82 rfl (by decide) (fun c => ?_) (fun c => ?_)
  · have k := k.1 c
    exact Go.pick [0, 1, 2, 4] rfl k
  · have k := k.2 c
    refine go_aload_n (pc2 := 86) dX0_ready_85 rfl rfl rfl ?_
    refine go_aload_n (pc2 := 87) dX0_ready_86 rfl rfl rfl ?_
    refine gf_115 (pc2 := 90) rfl dX0_ready_87 rfl c_1 (fvs r_1_4) ?_
    refine go_aload_n (pc2 := 91) dX0_ready_90 rfl rfl rfl ?_
    refine gf_183 (pc2 := 94) rfl dX0_ready_91 rfl c_28 (fvs r_28_0) ?_
    refine go_iload (pc2 := 96) dX0_ready_94 rfl rfl ?_
    refine go_iconst (pc2 := 97) (v := (1 : Int32)) dX0_ready_96 rfl (by decide) ?_
    refine go_isub (pc2 := 98) dX0_ready_97 rfl ?_
    obtain ⟨y1, k⟩ := k
    refine go_iaload (pc2 := 99) (j := ((x4 - (1 : Int32))).toNatClampNeg) dX0_ready_98 rfl c_29 y1 rfl ?_
    obtain ⟨y2, k⟩ := k
    refine go_aaload (pc2 := 100) (t := 0) dX0_ready_99 rfl (by decide) c_5 y2 rfl (rfo_s (ra_5 _ (vp_lt y2))) ?_
    refine go_aload_n (pc2 := 101) dX0_ready_100 rfl rfl rfl ?_
    refine gf_128 (pc2 := 104) rfl dX0_ready_101 rfl c_1 fvi ?_
    obtain ⟨Q3, hC4, k⟩ := k
    refine gcS_I (pc2 := 107) (dC := 0) (As := [.ref x3, .ref (6 + ((h.1 29 ((x4 - (1 : Int32))).toNatClampNeg)).toNatClampNeg), .int (h.1 1 6)]) (st := []) rfl dX0_ready_104 rfl w_687 ok_X0_comesAhead w_688 rfl (by decide) (Nat.le_of_ble_eq_true rfl) hC4 (fun v5 h6 hq7 => ?_)
    have k := k v5 h6 hq7
    refine go_if_eq (pc2 := 110) (tgt := 132) dX0_ready_107 rfl (by decide) (fun c => ?_) (fun c => ?_)
    · have k := k.1 c
      exact Go.pick [0, 1, 2, 4] rfl k
    · have k := k.2 c
      refine go_aload_n (pc2 := 111) dX0_ready_110 rfl rfl rfl ?_
      refine gf_183 (pc2 := 114) rfl dX0_ready_111 rfl c_28 (fvs r_28_0) ?_
      refine go_iload (pc2 := 116) dX0_ready_114 rfl rfl ?_
      refine go_aload_n (pc2 := 117) dX0_ready_116 rfl rfl rfl ?_
      refine gf_183 (pc2 := 120) rfl dX0_ready_117 rfl c_28 (fvs r_28_0) ?_
      refine go_iload (pc2 := 122) dX0_ready_120 rfl rfl ?_
      refine go_iconst (pc2 := 123) (v := (1 : Int32)) dX0_ready_122 rfl (by decide) ?_
      refine go_isub (pc2 := 124) dX0_ready_123 rfl ?_
      obtain ⟨y8, k⟩ := k
      refine go_iaload (pc2 := 125) (j := ((x4 - (1 : Int32))).toNatClampNeg) dX0_ready_124 rfl c_29 y8 rfl ?_
      obtain ⟨y9, k⟩ := k
      refine go_iastore (pc2 := 126) (j := (x4).toNatClampNeg) dX0_ready_125 rfl c_29 y9 rfl ?_
      obtain ⟨g10, eg10⟩ : ∃ y : Hp, y = (ui h6 29 (x4).toNatClampNeg (h6.1 29 ((x4 - (1 : Int32))).toNatClampNeg)) := ⟨_, rfl⟩
      rw [← eg10]
      have k := k g10 eg10
      refine go_iinc (pc2 := 129) (ls2 := [(0, .ref 28), (1, .ref 1), (2, .int x2), (3, .ref x3), (4, .int (x4 + (-1)))]) (v := (x4 + (-1))) dX0_ready_126 rfl rfl rfl rfl rfl rfl rfl ?_
      refine go_goto (tgt := 80) dX0_ready_129 (by decide) ?_
      exact k
theorem b_X0_ready_132 {x2 : Int32} {x4 : Int32} {h : Hp} {Q : Hp → Prop}  (k : (vp_in x4 3 ∧ (∀ g2 : Hp, g2 = (ui h 29 (x4).toNatClampNeg x2) → GoV 2 mX0_ready 10 [(0, .ref 28), (1, .ref 1), (2, .int (x2 + 1))] [] g2 Q))) : GoV 2 mX0_ready 132 [(0, .ref 28), (1, .ref 1), (2, .int x2), (4, .int x4)] [] h Q := by
  refine go_aload_n (pc2 := 133) dX0_ready_132 rfl rfl rfl ?_
  refine gf_183 (pc2 := 136) rfl dX0_ready_133 rfl c_28 (fvs r_28_0) ?_
  refine go_iload (pc2 := 138) dX0_ready_136 rfl rfl ?_
  refine go_iload_n (pc2 := 139) dX0_ready_138 rfl rfl rfl ?_
  obtain ⟨y1, k⟩ := k
  refine go_iastore (pc2 := 140) (j := (x4).toNatClampNeg) dX0_ready_139 rfl c_29 y1 rfl ?_
  obtain ⟨g2, eg2⟩ : ∃ y : Hp, y = (ui h 29 (x4).toNatClampNeg x2) := ⟨_, rfl⟩
  rw [← eg2]
  have k := k g2 eg2
  refine go_iinc (pc2 := 143) (ls2 := [(0, .ref 28), (1, .ref 1), (2, .int (x2 + 1)), (4, .int x4)]) (v := (x2 + 1)) dX0_ready_140 rfl rfl rfl rfl rfl rfl rfl ?_
  refine go_goto (tgt := 10) dX0_ready_143 (by decide) ?_
  exact Go.pick [0, 1, 2] rfl k
theorem e_X0_comesAhead {x0 : Nat} {x1 : Nat} {x2 : Int32} {h : Hp} {Q : Int32 → Hp → Prop} (hx0 : isPl x0) (hx1 : isPl x1) (k : ((¬ x2 = 0 → ((¬ x2 = (1 : Int32) → Q (0 : Int32) h) ∧ (x2 = (1 : Int32) → (((h.1 x0 3) ≤ (h.1 x1 3) → Q (0 : Int32) h) ∧ (¬ ((h.1 x0 3) ≤ (h.1 x1 3)) → Q (1 : Int32) h))))) ∧ (x2 = 0 → Q (if (h.1 x1 4) ≤ (h.1 x0 4) then (0 : Int32) else (1 : Int32)) h))) : CtI 0 mX0_comesAhead [.ref x0, .ref x1, .int x2] h Q := by
  refine Ct.of (by decide +kernel) (Nat.le_of_ble_eq_true rfl) ?_
  show GoI 0 mX0_comesAhead 0 [(0, .ref x0), (1, .ref x1), (2, .int x2)] [] h Q
  refine go_iload_n (pc2 := 1) dX0_comesAhead_0 rfl rfl rfl ?_
  refine go_if_ne (pc2 := 4) (tgt := 21) dX0_comesAhead_1 rfl (by decide) (fun c => ?_) (fun c => ?_)
  · have k := k.1 c
    refine go_iload_n (pc2 := 22) dX0_comesAhead_21 rfl rfl rfl ?_
    refine go_iconst (pc2 := 23) (v := (1 : Int32)) dX0_comesAhead_22 rfl (by decide) ?_
    refine go_icmp_ne (pc2 := 26) (tgt := 41) dX0_comesAhead_23 rfl (by decide) (fun c => ?_) (fun c => ?_)
    · have k := k.1 c
      refine go_iconst (pc2 := 42) (v := (0 : Int32)) dX0_comesAhead_41 rfl (by decide) ?_
      exact go_iret dX0_comesAhead_42 ⟨_, rfl, rfl⟩ ⟨rfl, _, rfl, k⟩
    · have k := k.2 c
      refine go_aload_n (pc2 := 27) dX0_comesAhead_26 rfl rfl rfl ?_
      refine gf_51 (pc2 := 30) rfl dX0_comesAhead_27 rfl hx0 fvi ?_
      refine go_aload_n (pc2 := 31) dX0_comesAhead_30 rfl rfl rfl ?_
      refine gf_51 (pc2 := 34) rfl dX0_comesAhead_31 rfl hx1 fvi ?_
      refine go_icmp_le (pc2 := 37) (tgt := 41) dX0_comesAhead_34 rfl (by decide) (fun c => ?_) (fun c => ?_)
      · have k := k.1 c
        refine go_iconst (pc2 := 42) (v := (0 : Int32)) dX0_comesAhead_41 rfl (by decide) ?_
        exact go_iret dX0_comesAhead_42 ⟨_, rfl, rfl⟩ ⟨rfl, _, rfl, k⟩
      · have k := k.2 c
        refine go_iconst (pc2 := 38) (v := (1 : Int32)) dX0_comesAhead_37 rfl (by decide) ?_
        refine go_goto (tgt := 42) dX0_comesAhead_38 (by decide) ?_
        exact go_iret dX0_comesAhead_42 ⟨_, rfl, rfl⟩ ⟨rfl, _, rfl, k⟩
  · have k := k.2 c
    refine go_aload_n (pc2 := 5) dX0_comesAhead_4 rfl rfl rfl ?_
    refine gf_54 (pc2 := 8) rfl dX0_comesAhead_5 rfl hx0 fvi ?_
    refine go_aload_n (pc2 := 9) dX0_comesAhead_8 rfl rfl rfl ?_
    refine gf_54 (pc2 := 12) rfl dX0_comesAhead_9 rfl hx1 fvi ?_
    have J : GoI 0 mX0_comesAhead 20 [(0, .ref x0), (1, .ref x1), (2, .int x2)] [.int (if (h.1 x1 4) ≤ (h.1 x0 4) then (0 : Int32) else (1 : Int32))] h Q := by
      exact go_iret dX0_comesAhead_20 ⟨_, rfl, congrArg Value.int ite_b⟩ ⟨rfl, _, rfl, k⟩
    refine go_icmp_ge (pc2 := 15) (tgt := 19) dX0_comesAhead_12 rfl (by decide) (fun c => ?_) (fun c => ?_)
    · rw [if_pos c] at J
      exact go_iconst (pc2 := 20) dX0_comesAhead_19 rfl (by decide) J
    · rw [if_neg c] at J
      exact go_iconst (pc2 := 16) dX0_comesAhead_15 rfl (by decide) (go_goto (tgt := 20) dX0_comesAhead_16 (by decide) J)
theorem e_X0_share {x1 : Int32} {x2 : Int32} {x3 : Int32} {x4 : Int32} {h : Hp} {Q : Int32 → Hp → Prop}  (k : GoI 1 mX0_share 12 [(0, .ref 28), (1, .int x1), (2, .int x2), (3, .int x3), (4, .int x4), (5, .int (0 : Int32)), (6, .int (0 : Int32)), (7, .int (0 : Int32)), (8, .int (0 : Int32))] [] h Q) : CtI 1 mX0_share [.ref 28, .int x1, .int x2, .int x3, .int x4] h Q := by
  refine Ct.of (by decide +kernel) (Nat.le_of_ble_eq_true rfl) ?_
  show GoI 1 mX0_share 0 [(0, .ref 28), (1, .int x1), (2, .int x2), (3, .int x3), (4, .int x4)] [] h Q
  refine go_iconst (pc2 := 1) (v := (0 : Int32)) dX0_share_0 rfl (by decide) ?_
  refine go_istore (pc2 := 3) (ls2 := [(0, .ref 28), (1, .int x1), (2, .int x2), (3, .int x3), (4, .int x4), (5, .int (0 : Int32))]) dX0_share_1 rfl rfl rfl rfl rfl ?_
  refine go_iconst (pc2 := 4) (v := (0 : Int32)) dX0_share_3 rfl (by decide) ?_
  refine go_istore (pc2 := 6) (ls2 := [(0, .ref 28), (1, .int x1), (2, .int x2), (3, .int x3), (4, .int x4), (5, .int (0 : Int32)), (6, .int (0 : Int32))]) dX0_share_4 rfl rfl rfl rfl rfl ?_
  refine go_iconst (pc2 := 7) (v := (0 : Int32)) dX0_share_6 rfl (by decide) ?_
  refine go_istore (pc2 := 9) (ls2 := [(0, .ref 28), (1, .int x1), (2, .int x2), (3, .int x3), (4, .int x4), (5, .int (0 : Int32)), (6, .int (0 : Int32)), (7, .int (0 : Int32))]) dX0_share_7 rfl rfl rfl rfl rfl ?_
  refine go_iconst (pc2 := 10) (v := (0 : Int32)) dX0_share_9 rfl (by decide) ?_
  refine go_istore (pc2 := 12) (ls2 := [(0, .ref 28), (1, .int x1), (2, .int x2), (3, .int x3), (4, .int x4), (5, .int (0 : Int32)), (6, .int (0 : Int32)), (7, .int (0 : Int32)), (8, .int (0 : Int32))]) dX0_share_10 rfl rfl rfl rfl rfl ?_
  exact k
theorem b_X0_share_12 {x1 : Int32} {x2 : Int32} {x3 : Int32} {x4 : Int32} {x5 : Int32} {x6 : Int32} {x7 : Int32} {x8 : Int32} {h : Hp} {Q : Int32 → Hp → Prop}  (k : (((h.1 28 7) ≤ x8 → ((x1 < x5 → Q (-9 : Int32) h) ∧ (¬ (x1 < x5) → (((x1 + x2) ≤ x6 → GoI 1 mX0_share 116 [(0, .ref 28), (3, .int x3), (4, .int x4), (7, .int x7), (8, .int (x1 - x5)), (9, .int (0 : Int32))] [] h Q) ∧ (¬ ((x1 + x2) ≤ x6) → Q (-9 : Int32) h))))) ∧ (¬ ((h.1 28 7) ≤ x8) → ((¬ ((x3 >>> (x8 &&& 31)) &&& (1 : Int32)) = (1 : Int32) → GoI 1 mX0_share 84 [(0, .ref 28), (1, .int x1), (2, .int x2), (3, .int x3), (4, .int x4), (5, .int x5), (6, .int x6), (7, .int x7), (8, .int x8)] [] h Q) ∧ (((x3 >>> (x8 &&& 31)) &&& (1 : Int32)) = (1 : Int32) → (vp_in x8 3 ∧ (∃ Q2, CtI 0 mX0_mostOf [.ref 28, .int x8, .int x4] h Q2 ∧ ∀ (v4 : Int32) (h5 : Hp), Q2 v4 h5 → (vp_in x8 3 ∧ (vp_in x8 3 ∧ (vp_in x8 3 ∧ GoI 1 mX0_share 84 [(0, .ref 28), (1, .int x1), (2, .int x2), (3, .int x3), (4, .int x4), (5, .int (x5 + (h.1 30 (x8).toNatClampNeg))), (6, .int (x6 + v4)), (7, .int (x7 + ((h5.1 34 (x8).toNatClampNeg) + ((h5.1 33 (x8).toNatClampNeg) * (h5.1 30 (x8).toNatClampNeg))))), (8, .int x8)] [] h5 Q)))))))))) : GoI 1 mX0_share 12 [(0, .ref 28), (1, .int x1), (2, .int x2), (3, .int x3), (4, .int x4), (5, .int x5), (6, .int x6), (7, .int x7), (8, .int x8)] [] h Q := by
  refine go_iload (pc2 := 14) dX0_share_12 rfl rfl ?_
  refine go_aload_n (pc2 := 15) dX0_share_14 rfl rfl rfl ?_
  refine gf_191 (pc2 := 18) rfl dX0_share_15 rfl c_28 fvi ?_
  refine go_icmp_ge (pc2 := 21) (tgt := 90) dX0_share_18 rfl (by decide) (fun c => ?_) (fun c => ?_)
  · have k := k.1 c
    refine go_iload (pc2 := 92) dX0_share_90 rfl rfl ?_
    refine go_iload_n (pc2 := 93) dX0_share_92 rfl rfl rfl ?_
    refine go_icmp_gt (pc2 := 96) (tgt := 104) dX0_share_93 rfl (by decide) (fun c => ?_) (fun c => ?_)
    · have k := k.1 c
      refine go_bipush (pc2 := 106) (v := (-9 : Int32)) dX0_share_104 rfl (by decide) ?_
      exact go_iret dX0_share_106 ⟨_, rfl, rfl⟩ ⟨rfl, _, rfl, k⟩
    · have k := k.2 c
      refine go_iload (pc2 := 98) dX0_share_96 rfl rfl ?_
      refine go_iload_n (pc2 := 99) dX0_share_98 rfl rfl rfl ?_
      refine go_iload_n (pc2 := 100) dX0_share_99 rfl rfl rfl ?_
      refine go_iadd (pc2 := 101) dX0_share_100 rfl ?_
      refine go_icmp_ge (pc2 := 104) (tgt := 107) dX0_share_101 rfl (by decide) (fun c => ?_) (fun c => ?_)
      · have k := k.1 c
        refine go_iload_n (pc2 := 108) dX0_share_107 rfl rfl rfl ?_
        refine go_iload (pc2 := 110) dX0_share_108 rfl rfl ?_
        refine go_isub (pc2 := 111) dX0_share_110 rfl ?_
        refine go_istore (pc2 := 113) (ls2 := [(0, .ref 28), (1, .int x1), (2, .int x2), (3, .int x3), (4, .int x4), (5, .int x5), (6, .int x6), (7, .int x7), (8, .int (x1 - x5))]) dX0_share_111 rfl rfl rfl rfl rfl ?_
        refine go_iconst (pc2 := 114) (v := (0 : Int32)) dX0_share_113 rfl (by decide) ?_
        refine go_istore (pc2 := 116) (ls2 := [(0, .ref 28), (1, .int x1), (2, .int x2), (3, .int x3), (4, .int x4), (5, .int x5), (6, .int x6), (7, .int x7), (8, .int (x1 - x5)), (9, .int (0 : Int32))]) dX0_share_114 rfl rfl rfl rfl rfl ?_
        exact Go.pick [0, 3, 4, 7, 8, 9] rfl k
      · have k := k.2 c
        refine go_bipush (pc2 := 106) (v := (-9 : Int32)) dX0_share_104 rfl (by decide) ?_
        exact go_iret dX0_share_106 ⟨_, rfl, rfl⟩ ⟨rfl, _, rfl, k⟩
  · have k := k.2 c
    refine go_iload_n (pc2 := 22) dX0_share_21 rfl rfl rfl ?_
    refine go_iload (pc2 := 24) dX0_share_22 rfl rfl ?_
    refine go_ishr (pc2 := 25) dX0_share_24 rfl ?_
    refine go_iconst (pc2 := 26) (v := (1 : Int32)) dX0_share_25 rfl (by decide) ?_
    refine go_iand (pc2 := 27) dX0_share_26 rfl ?_
    refine go_iconst (pc2 := 28) (v := (1 : Int32)) dX0_share_27 rfl (by decide) ?_
    refine go_icmp_ne (pc2 := 31) (tgt := 84) dX0_share_28 rfl (by decide) (fun c => ?_) (fun c => ?_)
    · have k := k.1 c
      exact k
    · have k := k.2 c
      refine go_iload (pc2 := 33) dX0_share_31 rfl rfl ?_
      refine go_aload_n (pc2 := 34) dX0_share_33 rfl rfl rfl ?_
      refine gf_184 (pc2 := 37) rfl dX0_share_34 rfl c_28 (fvs r_28_1) ?_
      refine go_iload (pc2 := 39) dX0_share_37 rfl rfl ?_
      obtain ⟨y1, k⟩ := k
      refine go_iaload (pc2 := 40) (j := (x8).toNatClampNeg) dX0_share_39 rfl c_30 y1 rfl ?_
      refine go_iadd (pc2 := 41) dX0_share_40 rfl ?_
      refine go_istore (pc2 := 43) (ls2 := [(0, .ref 28), (1, .int x1), (2, .int x2), (3, .int x3), (4, .int x4), (5, .int (x5 + (h.1 30 (x8).toNatClampNeg))), (6, .int x6), (7, .int x7), (8, .int x8)]) dX0_share_41 rfl rfl rfl rfl rfl ?_
      refine go_iload (pc2 := 45) dX0_share_43 rfl rfl ?_
      refine go_aload_n (pc2 := 46) dX0_share_45 rfl rfl rfl ?_
      refine go_iload (pc2 := 48) dX0_share_46 rfl rfl ?_
      refine go_iload (pc2 := 50) dX0_share_48 rfl rfl ?_
      obtain ⟨Q2, hC3, k⟩ := k
      refine gcV_I (pc2 := 53) (dC := 0) (As := [.int x8, .int x4]) (st := [.int x6]) rfl dX0_share_50 rfl w_694 ok_X0_mostOf vi_X0_mostOf c_28 (by decide) rfl rfl rfl (by decide) (Nat.le_of_ble_eq_true rfl) hC3 (fun v4 h5 hq6 => ?_)
      have k := k v4 h5 hq6
      refine go_iadd (pc2 := 54) dX0_share_53 rfl ?_
      refine go_istore (pc2 := 56) (ls2 := [(0, .ref 28), (1, .int x1), (2, .int x2), (3, .int x3), (4, .int x4), (5, .int (x5 + (h.1 30 (x8).toNatClampNeg))), (6, .int (x6 + v4)), (7, .int x7), (8, .int x8)]) dX0_share_54 rfl rfl rfl rfl rfl ?_
      refine go_iload (pc2 := 58) dX0_share_56 rfl rfl ?_
      refine go_aload_n (pc2 := 59) dX0_share_58 rfl rfl rfl ?_
      refine gf_188 (pc2 := 62) rfl dX0_share_59 rfl c_28 (fvs r_28_5) ?_
      refine go_iload (pc2 := 64) dX0_share_62 rfl rfl ?_
      obtain ⟨y7, k⟩ := k
      refine go_iaload (pc2 := 65) (j := (x8).toNatClampNeg) dX0_share_64 rfl c_34 y7 rfl ?_
      refine go_aload_n (pc2 := 66) dX0_share_65 rfl rfl rfl ?_
      refine gf_187 (pc2 := 69) rfl dX0_share_66 rfl c_28 (fvs r_28_4) ?_
      refine go_iload (pc2 := 71) dX0_share_69 rfl rfl ?_
      obtain ⟨y8, k⟩ := k
      refine go_iaload (pc2 := 72) (j := (x8).toNatClampNeg) dX0_share_71 rfl c_33 y8 rfl ?_
      refine go_aload_n (pc2 := 73) dX0_share_72 rfl rfl rfl ?_
      refine gf_184 (pc2 := 76) rfl dX0_share_73 rfl c_28 (fvs r_28_1) ?_
      refine go_iload (pc2 := 78) dX0_share_76 rfl rfl ?_
      obtain ⟨y9, k⟩ := k
      refine go_iaload (pc2 := 79) (j := (x8).toNatClampNeg) dX0_share_78 rfl c_30 y9 rfl ?_
      refine go_imul (pc2 := 80) dX0_share_79 rfl ?_
      refine go_iadd (pc2 := 81) dX0_share_80 rfl ?_
      refine go_iadd (pc2 := 82) dX0_share_81 rfl ?_
      refine go_istore (pc2 := 84) (ls2 := [(0, .ref 28), (1, .int x1), (2, .int x2), (3, .int x3), (4, .int x4), (5, .int (x5 + (h.1 30 (x8).toNatClampNeg))), (6, .int (x6 + v4)), (7, .int (x7 + ((h5.1 34 (x8).toNatClampNeg) + ((h5.1 33 (x8).toNatClampNeg) * (h5.1 30 (x8).toNatClampNeg))))), (8, .int x8)]) dX0_share_82 rfl rfl rfl rfl rfl ?_
      exact k
theorem b_X0_share_116 {x3 : Int32} {x4 : Int32} {x7 : Int32} {x8 : Int32} {x9 : Int32} {h : Hp} {Q : Int32 → Hp → Prop}  (k : (((h.1 28 7) ≤ x9 → Q x7 h) ∧ (¬ ((h.1 28 7) ≤ x9) → (vp_in x9 3 ∧ ((¬ ((x3 >>> ((h.1 29 (x9).toNatClampNeg) &&& 31)) &&& (1 : Int32)) = (1 : Int32) → GoI 1 mX0_share 206 [(0, .ref 28), (3, .int x3), (4, .int x4), (7, .int x7), (8, .int x8), (9, .int x9)] [] h Q) ∧ (((x3 >>> ((h.1 29 (x9).toNatClampNeg) &&& 31)) &&& (1 : Int32)) = (1 : Int32) → (∃ Q2, CtI 0 mX0_mostOf [.ref 28, .int (h.1 29 (x9).toNatClampNeg), .int x4] h Q2 ∧ ∀ (v4 : Int32) (h5 : Hp), Q2 v4 h5 → (vp_in (h.1 29 (x9).toNatClampNeg) 3 ∧ (∃ Q8, CtI 0 mJ9_min_7cf53 [.int x8, .int (v4 - (h5.1 30 ((h.1 29 (x9).toNatClampNeg)).toNatClampNeg))] h5 Q8 ∧ ∀ (v10 : Int32) (h11 : Hp), Q8 v10 h11 → (vp_in (h.1 29 (x9).toNatClampNeg) 3 ∧ (vp_in (h.1 29 (x9).toNatClampNeg) 3 ∧ (∀ g15 : Hp, g15 = (ui h11 35 ((h.1 29 (x9).toNatClampNeg)).toNatClampNeg ((h11.1 30 ((h.1 29 (x9).toNatClampNeg)).toNatClampNeg) + v10)) → (vp_in (h.1 29 (x9).toNatClampNeg) 3 ∧ GoI 1 mX0_share 206 [(0, .ref 28), (3, .int x3), (4, .int x4), (7, .int (x7 + ((g15.1 33 ((h.1 29 (x9).toNatClampNeg)).toNatClampNeg) * v10))), (8, .int (x8 - v10)), (9, .int x9)] [] g15 Q))))))))))))) : GoI 1 mX0_share 116 [(0, .ref 28), (3, .int x3), (4, .int x4), (7, .int x7), (8, .int x8), (9, .int x9)] [] h Q := by
  refine go_iload (pc2 := 118) dX0_share_116 rfl rfl ?_
  refine go_aload_n (pc2 := 119) dX0_share_118 rfl rfl rfl ?_
  refine gf_191 (pc2 := 122) rfl dX0_share_119 rfl c_28 fvi ?_
  refine go_icmp_ge (pc2 := 125) (tgt := 212) dX0_share_122 rfl (by decide) (fun c => ?_) (fun c => ?_)
  · have k := k.1 c
    refine go_iload (pc2 := 214) dX0_share_212 rfl rfl ?_
    exact go_iret dX0_share_214 ⟨_, rfl, rfl⟩ ⟨rfl, _, rfl, k⟩
  · have k := k.2 c
    refine go_aload_n (pc2 := 126) dX0_share_125 rfl rfl rfl ?_
    refine gf_183 (pc2 := 129) rfl dX0_share_126 rfl c_28 (fvs r_28_0) ?_
    refine go_iload (pc2 := 131) dX0_share_129 rfl rfl ?_
    obtain ⟨y1, k⟩ := k
    refine go_iaload (pc2 := 132) (j := (x9).toNatClampNeg) dX0_share_131 rfl c_29 y1 rfl ?_
    refine go_istore (pc2 := 134) (ls2 := [(0, .ref 28), (3, .int x3), (4, .int x4), (7, .int x7), (8, .int x8), (9, .int x9), (10, .int (h.1 29 (x9).toNatClampNeg))]) dX0_share_132 rfl rfl rfl rfl rfl ?_
    refine go_iload_n (pc2 := 135) dX0_share_134 rfl rfl rfl ?_
    refine go_iload (pc2 := 137) dX0_share_135 rfl rfl ?_
    refine go_ishr (pc2 := 138) dX0_share_137 rfl ?_
    refine go_iconst (pc2 := 139) (v := (1 : Int32)) dX0_share_138 rfl (by decide) ?_
    refine go_iand (pc2 := 140) dX0_share_139 rfl ?_
    refine go_iconst (pc2 := 141) (v := (1 : Int32)) dX0_share_140 rfl (by decide) ?_
    refine go_icmp_ne (pc2 := 144) (tgt := 206) dX0_share_141 rfl (by decide) (fun c => ?_) (fun c => ?_)
    · have k := k.1 c
      exact Go.pick [0, 1, 2, 3, 4, 5] rfl k
    · have k := k.2 c
      refine go_iload (pc2 := 146) dX0_share_144 rfl rfl ?_
      refine go_aload_n (pc2 := 147) dX0_share_146 rfl rfl rfl ?_
      refine go_iload (pc2 := 149) dX0_share_147 rfl rfl ?_
      refine go_iload (pc2 := 151) dX0_share_149 rfl rfl ?_
      obtain ⟨Q2, hC3, k⟩ := k
      refine gcV_I (pc2 := 154) (dC := 0) (As := [.int (h.1 29 (x9).toNatClampNeg), .int x4]) (st := [.int x8]) rfl dX0_share_151 rfl w_694 ok_X0_mostOf vi_X0_mostOf c_28 (by decide) rfl rfl rfl (by decide) (Nat.le_of_ble_eq_true rfl) hC3 (fun v4 h5 hq6 => ?_)
      have k := k v4 h5 hq6
      refine go_aload_n (pc2 := 155) dX0_share_154 rfl rfl rfl ?_
      refine gf_184 (pc2 := 158) rfl dX0_share_155 rfl c_28 (fvs r_28_1) ?_
      refine go_iload (pc2 := 160) dX0_share_158 rfl rfl ?_
      obtain ⟨y7, k⟩ := k
      refine go_iaload (pc2 := 161) (j := ((h.1 29 (x9).toNatClampNeg)).toNatClampNeg) dX0_share_160 rfl c_30 y7 rfl ?_
      refine go_isub (pc2 := 162) dX0_share_161 rfl ?_
      obtain ⟨Q8, hC9, k⟩ := k
      refine gcS_I (pc2 := 165) (dC := 0) (As := [.int x8, .int (v4 - (h5.1 30 ((h.1 29 (x9).toNatClampNeg)).toNatClampNeg))]) (st := []) rfl dX0_share_162 rfl w_698 ok_J9_min_7cf53 w_640 rfl (by decide) (Nat.le_of_ble_eq_true rfl) hC9 (fun v10 h11 hq12 => ?_)
      have k := k v10 h11 hq12
      refine go_istore (pc2 := 167) (ls2 := [(0, .ref 28), (3, .int x3), (4, .int x4), (7, .int x7), (8, .int x8), (9, .int x9), (10, .int (h.1 29 (x9).toNatClampNeg)), (11, .int v10)]) dX0_share_165 rfl rfl rfl rfl rfl ?_
      refine go_aload_n (pc2 := 168) dX0_share_167 rfl rfl rfl ?_
      refine gf_189 (pc2 := 171) rfl dX0_share_168 rfl c_28 (fvs r_28_6) ?_
      refine go_iload (pc2 := 173) dX0_share_171 rfl rfl ?_
      refine go_aload_n (pc2 := 174) dX0_share_173 rfl rfl rfl ?_
      refine gf_184 (pc2 := 177) rfl dX0_share_174 rfl c_28 (fvs r_28_1) ?_
      refine go_iload (pc2 := 179) dX0_share_177 rfl rfl ?_
      obtain ⟨y13, k⟩ := k
      refine go_iaload (pc2 := 180) (j := ((h.1 29 (x9).toNatClampNeg)).toNatClampNeg) dX0_share_179 rfl c_30 y13 rfl ?_
      refine go_iload (pc2 := 182) dX0_share_180 rfl rfl ?_
      refine go_iadd (pc2 := 183) dX0_share_182 rfl ?_
      obtain ⟨y14, k⟩ := k
      refine go_iastore (pc2 := 184) (j := ((h.1 29 (x9).toNatClampNeg)).toNatClampNeg) dX0_share_183 rfl c_35 y14 rfl ?_
      obtain ⟨g15, eg15⟩ : ∃ y : Hp, y = (ui h11 35 ((h.1 29 (x9).toNatClampNeg)).toNatClampNeg ((h11.1 30 ((h.1 29 (x9).toNatClampNeg)).toNatClampNeg) + v10)) := ⟨_, rfl⟩
      rw [← eg15]
      have k := k g15 eg15
      refine go_iload (pc2 := 186) dX0_share_184 rfl rfl ?_
      refine go_aload_n (pc2 := 187) dX0_share_186 rfl rfl rfl ?_
      refine gf_187 (pc2 := 190) rfl dX0_share_187 rfl c_28 (fvs r_28_4) ?_
      refine go_iload (pc2 := 192) dX0_share_190 rfl rfl ?_
      obtain ⟨y16, k⟩ := k
      refine go_iaload (pc2 := 193) (j := ((h.1 29 (x9).toNatClampNeg)).toNatClampNeg) dX0_share_192 rfl c_33 y16 rfl ?_
      refine go_iload (pc2 := 195) dX0_share_193 rfl rfl ?_
      refine go_imul (pc2 := 196) dX0_share_195 rfl ?_
      refine go_iadd (pc2 := 197) dX0_share_196 rfl ?_
      refine go_istore (pc2 := 199) (ls2 := [(0, .ref 28), (3, .int x3), (4, .int x4), (7, .int (x7 + ((g15.1 33 ((h.1 29 (x9).toNatClampNeg)).toNatClampNeg) * v10))), (8, .int x8), (9, .int x9), (10, .int (h.1 29 (x9).toNatClampNeg)), (11, .int v10)]) dX0_share_197 rfl rfl rfl rfl rfl ?_
      refine go_iload (pc2 := 201) dX0_share_199 rfl rfl ?_
      refine go_iload (pc2 := 203) dX0_share_201 rfl rfl ?_
      refine go_isub (pc2 := 204) dX0_share_203 rfl ?_
      refine go_istore (pc2 := 206) (ls2 := [(0, .ref 28), (3, .int x3), (4, .int x4), (7, .int (x7 + ((g15.1 33 ((h.1 29 (x9).toNatClampNeg)).toNatClampNeg) * v10))), (8, .int (x8 - v10)), (9, .int x9), (10, .int (h.1 29 (x9).toNatClampNeg)), (11, .int v10)]) dX0_share_204 rfl rfl rfl rfl rfl ?_
      exact Go.pick [0, 1, 2, 3, 4, 5] rfl k
theorem b_X0_share_84 {x1 : Int32} {x2 : Int32} {x3 : Int32} {x4 : Int32} {x5 : Int32} {x6 : Int32} {x7 : Int32} {x8 : Int32} {h : Hp} {Q : Int32 → Hp → Prop}  (k : GoI 1 mX0_share 12 [(0, .ref 28), (1, .int x1), (2, .int x2), (3, .int x3), (4, .int x4), (5, .int x5), (6, .int x6), (7, .int x7), (8, .int (x8 + 1))] [] h Q) : GoI 1 mX0_share 84 [(0, .ref 28), (1, .int x1), (2, .int x2), (3, .int x3), (4, .int x4), (5, .int x5), (6, .int x6), (7, .int x7), (8, .int x8)] [] h Q := by
  refine go_iinc (pc2 := 87) (ls2 := [(0, .ref 28), (1, .int x1), (2, .int x2), (3, .int x3), (4, .int x4), (5, .int x5), (6, .int x6), (7, .int x7), (8, .int (x8 + 1))]) (v := (x8 + 1)) dX0_share_84 rfl rfl rfl rfl rfl rfl rfl ?_
  refine go_goto (tgt := 12) dX0_share_87 (by decide) ?_
  exact k
theorem b_X0_share_206 {x3 : Int32} {x4 : Int32} {x7 : Int32} {x8 : Int32} {x9 : Int32} {h : Hp} {Q : Int32 → Hp → Prop}  (k : GoI 1 mX0_share 116 [(0, .ref 28), (3, .int x3), (4, .int x4), (7, .int x7), (8, .int x8), (9, .int (x9 + 1))] [] h Q) : GoI 1 mX0_share 206 [(0, .ref 28), (3, .int x3), (4, .int x4), (7, .int x7), (8, .int x8), (9, .int x9)] [] h Q := by
  refine go_iinc (pc2 := 209) (ls2 := [(0, .ref 28), (3, .int x3), (4, .int x4), (7, .int x7), (8, .int x8), (9, .int (x9 + 1))]) (v := (x9 + 1)) dX0_share_206 rfl rfl rfl rfl rfl rfl rfl ?_
  refine go_goto (tgt := 116) dX0_share_209 (by decide) ?_
  exact k
theorem e_X0_mostOf {x1 : Int32} {x2 : Int32} {h : Hp} {Q : Int32 → Hp → Prop}  (k : ((¬ ((x2 >>> (x1 &&& 31)) &&& (1 : Int32)) = (1 : Int32) → (vp_in x1 3 ∧ Q (h.1 31 (x1).toNatClampNeg) h)) ∧ (((x2 >>> (x1 &&& 31)) &&& (1 : Int32)) = (1 : Int32) → (vp_in x1 3 ∧ Q (h.1 32 (x1).toNatClampNeg) h)))) : CtI 0 mX0_mostOf [.ref 28, .int x1, .int x2] h Q := by
  refine Ct.of (by decide +kernel) (Nat.le_of_ble_eq_true rfl) ?_
  show GoI 0 mX0_mostOf 0 [(0, .ref 28), (1, .int x1), (2, .int x2)] [] h Q
  refine go_iload_n (pc2 := 1) dX0_mostOf_0 rfl rfl rfl ?_
  refine go_iload_n (pc2 := 2) dX0_mostOf_1 rfl rfl rfl ?_
  refine go_ishr (pc2 := 3) dX0_mostOf_2 rfl ?_
  refine go_iconst (pc2 := 4) (v := (1 : Int32)) dX0_mostOf_3 rfl (by decide) ?_
  refine go_iand (pc2 := 5) dX0_mostOf_4 rfl ?_
  refine go_iconst (pc2 := 6) (v := (1 : Int32)) dX0_mostOf_5 rfl (by decide) ?_
  refine go_icmp_ne (pc2 := 9) (tgt := 18) dX0_mostOf_6 rfl (by decide) (fun c => ?_) (fun c => ?_)
  · have k := k.1 c
    refine go_aload_n (pc2 := 19) dX0_mostOf_18 rfl rfl rfl ?_
    refine gf_185 (pc2 := 22) rfl dX0_mostOf_19 rfl c_28 (fvs r_28_2) ?_
    refine go_iload_n (pc2 := 23) dX0_mostOf_22 rfl rfl rfl ?_
    obtain ⟨y1, k⟩ := k
    refine go_iaload (pc2 := 24) (j := (x1).toNatClampNeg) dX0_mostOf_23 rfl c_31 y1 rfl ?_
    exact go_iret dX0_mostOf_24 ⟨_, rfl, rfl⟩ ⟨rfl, _, rfl, k⟩
  · have k := k.2 c
    refine go_aload_n (pc2 := 10) dX0_mostOf_9 rfl rfl rfl ?_
    refine gf_186 (pc2 := 13) rfl dX0_mostOf_10 rfl c_28 (fvs r_28_3) ?_
    refine go_iload_n (pc2 := 14) dX0_mostOf_13 rfl rfl rfl ?_
    obtain ⟨y2, k⟩ := k
    refine go_iaload (pc2 := 15) (j := (x1).toNatClampNeg) dX0_mostOf_14 rfl c_32 y2 rfl ?_
    refine go_goto (tgt := 24) dX0_mostOf_15 (by decide) ?_
    exact go_iret dX0_mostOf_24 ⟨_, rfl, rfl⟩ ⟨rfl, _, rfl, k⟩
theorem e_X1_make {x0 : Nat} {x1 : Int32} {h : Hp} {Q : Hp → Prop} (hx0 : isLn x0) (k : (∃ Q1, CtV 0 mJ7_fill_53178 [.ref (x0 + 1), .int (0 : Int32)] h Q1 ∧ ∀ h4 : Hp, Q1 h4 → (∀ g6 : Hp, g6 = (ui h4 x0 1 x1) → Q g6))) : CtV 1 mX1_make [.ref x0, .int x1] h Q := by
  refine Ct.of (by decide +kernel) (Nat.le_of_ble_eq_true rfl) ?_
  show GoV 1 mX1_make 0 [(0, .ref x0), (1, .int x1)] [] h Q
  refine go_aload_n (pc2 := 1) dX1_make_0 rfl rfl rfl ?_
  refine gf_336 (pc2 := 4) rfl dX1_make_1 rfl hx0.1 (fvs hx0.2.1) ?_
  refine go_iconst (pc2 := 5) (v := (0 : Int32)) dX1_make_4 rfl (by decide) ?_
  obtain ⟨Q1, hC2, k⟩ := k
  refine gcS_V (pc2 := 8) (dC := 0) (As := [.ref (x0 + 1), .int (0 : Int32)]) (st := []) rfl dX1_make_5 rfl w_970 ok_J7_fill_53178 w_875 rfl (by decide) (Nat.le_of_ble_eq_true rfl) hC2 (fun h4 hq5 => ?_)
  have k := k h4 hq5
  refine go_aload_n (pc2 := 9) dX1_make_8 rfl rfl rfl ?_
  refine go_iload_n (pc2 := 10) dX1_make_9 rfl rfl rfl ?_
  refine pf_337 (pc2 := 13) rfl dX1_make_10 rfl hx0.1 ?_
  obtain ⟨g6, eg6⟩ : ∃ y : Hp, y = (ui h4 x0 1 x1) := ⟨_, rfl⟩
  rw [← eg6]
  have k := k g6 eg6
  exact go_ret dX1_make_13 rfl ⟨rfl, rfl, k⟩
theorem e_X1_set {x0 : Nat} {x1 : Int32} {x2 : Int32} {h : Hp} {Q : Int32 → Hp → Prop} (hx0 : isLn x0) (k : ((x1 < 0 → Q (0 : Int32) h) ∧ (¬ (x1 < 0) → (((h.1 x0 1) ≤ x1 → Q (0 : Int32) h) ∧ (¬ ((h.1 x0 1) ≤ x1) → ((x1 < (20 : Int32) → (vp_in x1 20 ∧ (∀ g2 : Hp, g2 = (ui h (x0 + 1) (x1).toNatClampNeg x2) → Q (1 : Int32) g2))) ∧ (¬ (x1 < (20 : Int32)) → Q (0 : Int32) h))))))) : CtI 0 mX1_set [.ref x0, .int x1, .int x2] h Q := by
  refine Ct.of (by decide +kernel) (Nat.le_of_ble_eq_true rfl) ?_
  show GoI 0 mX1_set 0 [(0, .ref x0), (1, .int x1), (2, .int x2)] [] h Q
  refine go_iload_n (pc2 := 1) dX1_set_0 rfl rfl rfl ?_
  refine go_if_lt (pc2 := 4) (tgt := 18) dX1_set_1 rfl (by decide) (fun c => ?_) (fun c => ?_)
  · have k := k.1 c
    refine go_iconst (pc2 := 19) (v := (0 : Int32)) dX1_set_18 rfl (by decide) ?_
    exact go_iret dX1_set_19 ⟨_, rfl, rfl⟩ ⟨rfl, _, rfl, k⟩
  · have k := k.2 c
    refine go_iload_n (pc2 := 5) dX1_set_4 rfl rfl rfl ?_
    refine go_aload_n (pc2 := 6) dX1_set_5 rfl rfl rfl ?_
    refine gf_337 (pc2 := 9) rfl dX1_set_6 rfl hx0.1 fvi ?_
    refine go_icmp_ge (pc2 := 12) (tgt := 18) dX1_set_9 rfl (by decide) (fun c => ?_) (fun c => ?_)
    · have k := k.1 c
      refine go_iconst (pc2 := 19) (v := (0 : Int32)) dX1_set_18 rfl (by decide) ?_
      exact go_iret dX1_set_19 ⟨_, rfl, rfl⟩ ⟨rfl, _, rfl, k⟩
    · have k := k.2 c
      refine go_iload_n (pc2 := 13) dX1_set_12 rfl rfl rfl ?_
      refine go_bipush (pc2 := 15) (v := (20 : Int32)) dX1_set_13 rfl (by decide) ?_
      refine go_icmp_lt (pc2 := 18) (tgt := 20) dX1_set_15 rfl (by decide) (fun c => ?_) (fun c => ?_)
      · have k := k.1 c
        refine go_aload_n (pc2 := 21) dX1_set_20 rfl rfl rfl ?_
        refine gf_336 (pc2 := 24) rfl dX1_set_21 rfl hx0.1 (fvs hx0.2.1) ?_
        refine go_iload_n (pc2 := 25) dX1_set_24 rfl rfl rfl ?_
        refine go_iload_n (pc2 := 26) dX1_set_25 rfl rfl rfl ?_
        obtain ⟨y1, k⟩ := k
        refine go_iastore (pc2 := 27) (j := (x1).toNatClampNeg) dX1_set_26 rfl hx0.2.2 y1 rfl ?_
        obtain ⟨g2, eg2⟩ : ∃ y : Hp, y = (ui h (x0 + 1) (x1).toNatClampNeg x2) := ⟨_, rfl⟩
        rw [← eg2]
        have k := k g2 eg2
        refine go_iconst (pc2 := 28) (v := (1 : Int32)) dX1_set_27 rfl (by decide) ?_
        exact go_iret dX1_set_28 ⟨_, rfl, rfl⟩ ⟨rfl, _, rfl, k⟩
      · have k := k.2 c
        refine go_iconst (pc2 := 19) (v := (0 : Int32)) dX1_set_18 rfl (by decide) ?_
        exact go_iret dX1_set_19 ⟨_, rfl, rfl⟩ ⟨rfl, _, rfl, k⟩
theorem e_X1_setAt {x0 : Nat} {x1 : Int32} {x2 : Int32} {h : Hp} {Q : Int32 → Hp → Prop} (hx0 : isLn x0) (k : GoI 0 mX1_setAt 5 [(0, .ref x0), (1, .int x1), (2, .int x2), (3, .int (0 : Int32)), (4, .int (0 : Int32))] [] h Q) : CtI 0 mX1_setAt [.ref x0, .int x1, .int x2] h Q := by
  refine Ct.of (by decide +kernel) (Nat.le_of_ble_eq_true rfl) ?_
  show GoI 0 mX1_setAt 0 [(0, .ref x0), (1, .int x1), (2, .int x2)] [] h Q
  refine go_iconst (pc2 := 1) (v := (0 : Int32)) dX1_setAt_0 rfl (by decide) ?_
  refine go_istore_n (pc2 := 2) (ls2 := [(0, .ref x0), (1, .int x1), (2, .int x2), (3, .int (0 : Int32))]) dX1_setAt_1 rfl rfl rfl rfl rfl rfl ?_
  refine go_iconst (pc2 := 3) (v := (0 : Int32)) dX1_setAt_2 rfl (by decide) ?_
  refine go_istore (pc2 := 5) (ls2 := [(0, .ref x0), (1, .int x1), (2, .int x2), (3, .int (0 : Int32)), (4, .int (0 : Int32))]) dX1_setAt_3 rfl rfl rfl rfl rfl ?_
  exact k
theorem b_X1_setAt_5 {x0 : Nat} {x1 : Int32} {x2 : Int32} {x3 : Int32} {x4 : Int32} {h : Hp} {Q : Int32 → Hp → Prop} (hx0 : isLn x0) (k : ((x2 ≤ x4 → Q x3 h) ∧ (¬ (x2 ≤ x4) → (((h.1 x0 1) ≤ x4 → Q x3 h) ∧ (¬ ((h.1 x0 1) ≤ x4) → (vp_in x4 20 ∧ GoI 0 mX1_setAt 5 [(0, .ref x0), (1, .int x1), (2, .int x2), (3, .int (x3 ||| ((((h.1 (x0 + 1) (x4).toNatClampNeg) >>> (x1 &&& 31)) &&& (1 : Int32)) <<< (x4 &&& 31)))), (4, .int (x4 + 1))] [] h Q)))))) : GoI 0 mX1_setAt 5 [(0, .ref x0), (1, .int x1), (2, .int x2), (3, .int x3), (4, .int x4)] [] h Q := by
  refine go_iload (pc2 := 7) dX1_setAt_5 rfl rfl ?_
  refine go_iload_n (pc2 := 8) dX1_setAt_7 rfl rfl rfl ?_
  refine go_icmp_ge (pc2 := 11) (tgt := 43) dX1_setAt_8 rfl (by decide) (fun c => ?_) (fun c => ?_)
  · have k := k.1 c
    refine go_iload_n (pc2 := 44) dX1_setAt_43 rfl rfl rfl ?_
    exact go_iret dX1_setAt_44 ⟨_, rfl, rfl⟩ ⟨rfl, _, rfl, k⟩
  · have k := k.2 c
    refine go_iload (pc2 := 13) dX1_setAt_11 rfl rfl ?_
    refine go_aload_n (pc2 := 14) dX1_setAt_13 rfl rfl rfl ?_
    refine gf_337 (pc2 := 17) rfl dX1_setAt_14 rfl hx0.1 fvi ?_
    refine go_icmp_ge (pc2 := 20) (tgt := 43) dX1_setAt_17 rfl (by decide) (fun c => ?_) (fun c => ?_)
    · have k := k.1 c
      refine go_iload_n (pc2 := 44) dX1_setAt_43 rfl rfl rfl ?_
      exact go_iret dX1_setAt_44 ⟨_, rfl, rfl⟩ ⟨rfl, _, rfl, k⟩
    · have k := k.2 c
      refine go_iload_n (pc2 := 21) dX1_setAt_20 rfl rfl rfl ?_
      refine go_aload_n (pc2 := 22) dX1_setAt_21 rfl rfl rfl ?_
      refine gf_336 (pc2 := 25) rfl dX1_setAt_22 rfl hx0.1 (fvs hx0.2.1) ?_
      refine go_iload (pc2 := 27) dX1_setAt_25 rfl rfl ?_
      obtain ⟨y1, k⟩ := k
      refine go_iaload (pc2 := 28) (j := (x4).toNatClampNeg) dX1_setAt_27 rfl hx0.2.2 y1 rfl ?_
      refine go_iload_n (pc2 := 29) dX1_setAt_28 rfl rfl rfl ?_
      refine go_ishr (pc2 := 30) dX1_setAt_29 rfl ?_
      refine go_iconst (pc2 := 31) (v := (1 : Int32)) dX1_setAt_30 rfl (by decide) ?_
      refine go_iand (pc2 := 32) dX1_setAt_31 rfl ?_
      refine go_iload (pc2 := 34) dX1_setAt_32 rfl rfl ?_
      refine go_ishl (pc2 := 35) dX1_setAt_34 rfl ?_
      refine go_ior (pc2 := 36) dX1_setAt_35 rfl ?_
      refine go_istore_n (pc2 := 37) (ls2 := [(0, .ref x0), (1, .int x1), (2, .int x2), (3, .int (x3 ||| ((((h.1 (x0 + 1) (x4).toNatClampNeg) >>> (x1 &&& 31)) &&& (1 : Int32)) <<< (x4 &&& 31)))), (4, .int x4)]) dX1_setAt_36 rfl rfl rfl rfl rfl rfl ?_
      refine go_iinc (pc2 := 40) (ls2 := [(0, .ref x0), (1, .int x1), (2, .int x2), (3, .int (x3 ||| ((((h.1 (x0 + 1) (x4).toNatClampNeg) >>> (x1 &&& 31)) &&& (1 : Int32)) <<< (x4 &&& 31)))), (4, .int (x4 + 1))]) (v := (x4 + 1)) dX1_setAt_37 rfl rfl rfl rfl rfl rfl rfl ?_
      refine go_goto (tgt := 5) dX1_setAt_40 (by decide) ?_
      exact k
theorem e_X1_tellsStarts {x0 : Nat} {x1 : Int32} {x2 : Int32} {x3 : Int32} {h : Hp} {Q : Int32 → Hp → Prop} (hx0 : isLn x0) (k : GoI 2 mX1_tellsStarts 3 [(0, .ref x0), (1, .int x1), (2, .int x2), (3, .int x3), (4, .int (0 : Int32))] [] h Q) : CtI 2 mX1_tellsStarts [.ref x0, .int x1, .int x2, .int x3] h Q := by
  refine Ct.of (by decide +kernel) (Nat.le_of_ble_eq_true rfl) ?_
  show GoI 2 mX1_tellsStarts 0 [(0, .ref x0), (1, .int x1), (2, .int x2), (3, .int x3)] [] h Q
  refine go_iconst (pc2 := 1) (v := (0 : Int32)) dX1_tellsStarts_0 rfl (by decide) ?_
  refine go_istore (pc2 := 3) (ls2 := [(0, .ref x0), (1, .int x1), (2, .int x2), (3, .int x3), (4, .int (0 : Int32))]) dX1_tellsStarts_1 rfl rfl rfl rfl rfl ?_
  exact k
theorem b_X1_tellsStarts_3 {x0 : Nat} {x1 : Int32} {x2 : Int32} {x3 : Int32} {x4 : Int32} {h : Hp} {Q : Int32 → Hp → Prop} (hx0 : isLn x0) (k : (((h.1 x0 1) ≤ x4 → Q (1 : Int32) h) ∧ (¬ ((h.1 x0 1) ≤ x4) → (vp_in x4 20 ∧ (∃ Q2, CtI 1 mX3_startOf [.int x1, .int x2, .int x3, .int (x4 + (1 : Int32))] h Q2 ∧ ∀ (v4 : Int32) (h5 : Hp), Q2 v4 h5 → (((h.1 (x0 + 1) (x4).toNatClampNeg) = v4 → GoI 2 mX1_tellsStarts 3 [(0, .ref x0), (1, .int x1), (2, .int x2), (3, .int x3), (4, .int (x4 + 1))] [] h5 Q) ∧ (¬ (h.1 (x0 + 1) (x4).toNatClampNeg) = v4 → Q (0 : Int32) h5))))))) : GoI 2 mX1_tellsStarts 3 [(0, .ref x0), (1, .int x1), (2, .int x2), (3, .int x3), (4, .int x4)] [] h Q := by
  refine go_iload (pc2 := 5) dX1_tellsStarts_3 rfl rfl ?_
  refine go_aload_n (pc2 := 6) dX1_tellsStarts_5 rfl rfl rfl ?_
  refine gf_337 (pc2 := 9) rfl dX1_tellsStarts_6 rfl hx0.1 fvi ?_
  refine go_icmp_ge (pc2 := 12) (tgt := 40) dX1_tellsStarts_9 rfl (by decide) (fun c => ?_) (fun c => ?_)
  · have k := k.1 c
    refine go_iconst (pc2 := 41) (v := (1 : Int32)) dX1_tellsStarts_40 rfl (by decide) ?_
    exact go_iret dX1_tellsStarts_41 ⟨_, rfl, rfl⟩ ⟨rfl, _, rfl, k⟩
  · have k := k.2 c
    refine go_aload_n (pc2 := 13) dX1_tellsStarts_12 rfl rfl rfl ?_
    refine gf_336 (pc2 := 16) rfl dX1_tellsStarts_13 rfl hx0.1 (fvs hx0.2.1) ?_
    refine go_iload (pc2 := 18) dX1_tellsStarts_16 rfl rfl ?_
    obtain ⟨y1, k⟩ := k
    refine go_iaload (pc2 := 19) (j := (x4).toNatClampNeg) dX1_tellsStarts_18 rfl hx0.2.2 y1 rfl ?_
    refine go_iload_n (pc2 := 20) dX1_tellsStarts_19 rfl rfl rfl ?_
    refine go_iload_n (pc2 := 21) dX1_tellsStarts_20 rfl rfl rfl ?_
    refine go_iload_n (pc2 := 22) dX1_tellsStarts_21 rfl rfl rfl ?_
    refine go_iload (pc2 := 24) dX1_tellsStarts_22 rfl rfl ?_
    refine go_iconst (pc2 := 25) (v := (1 : Int32)) dX1_tellsStarts_24 rfl (by decide) ?_
    refine go_iadd (pc2 := 26) dX1_tellsStarts_25 rfl ?_
    obtain ⟨Q2, hC3, k⟩ := k
    refine gcSN_I (pc2 := 29) (dC := 1) (As := [.int x1, .int x2, .int x3, .int (x4 + (1 : Int32))]) (st := [.int (h.1 (x0 + 1) (x4).toNatClampNeg)]) rfl dX1_tellsStarts_26 rfl w_954 ok_X3_startOf w_651 rfl (by decide) (Nat.le_of_ble_eq_true rfl) hC3 (fun v4 h5 hq6 => ?_)
    have k := k v4 h5 hq6
    refine go_icmp_eq (pc2 := 32) (tgt := 34) dX1_tellsStarts_29 rfl (by decide) (fun c => ?_) (fun c => ?_)
    · have k := k.1 c
      refine go_iinc (pc2 := 37) (ls2 := [(0, .ref x0), (1, .int x1), (2, .int x2), (3, .int x3), (4, .int (x4 + 1))]) (v := (x4 + 1)) dX1_tellsStarts_34 rfl rfl rfl rfl rfl rfl rfl ?_
      refine go_goto (tgt := 3) dX1_tellsStarts_37 (by decide) ?_
      exact k
    · have k := k.2 c
      refine go_iconst (pc2 := 33) (v := (0 : Int32)) dX1_tellsStarts_32 rfl (by decide) ?_
      exact go_iret dX1_tellsStarts_33 ⟨_, rfl, rfl⟩ ⟨rfl, _, rfl, k⟩
theorem e_X2_begin  {h : Hp} {Q : Hp → Prop}  (k : (∀ g1 : Hp, g1 = (uc h 59 (va_cpy (h.1 4) (h.1 59) 0 0 5)) → Q g1)) : CtV 1 mX2_begin [.ref 58] h Q := by
  refine Ct.of (by decide +kernel) (Nat.le_of_ble_eq_true rfl) ?_
  show GoV 1 mX2_begin 0 [(0, .ref 58)] [] h Q
  refine go_aload_n (pc2 := 1) dX2_begin_0 rfl rfl rfl ?_
  refine gf_283 (pc2 := 4) rfl dX2_begin_1 rfl c_58 (fvs r_58_0) ?_
  refine gf_112 (pc2 := 7) rfl dX2_begin_4 rfl c_1 (fvs r_1_3) ?_
  refine go_iconst (pc2 := 8) (v := (0 : Int32)) dX2_begin_7 rfl (by decide) ?_
  refine go_aload_n (pc2 := 9) dX2_begin_8 rfl rfl rfl ?_
  refine gf_284 (pc2 := 12) rfl dX2_begin_9 rfl c_58 (fvs r_58_1) ?_
  refine go_iconst (pc2 := 13) (v := (0 : Int32)) dX2_begin_12 rfl (by decide) ?_
  refine go_iconst (pc2 := 14) (v := (5 : Int32)) dX2_begin_13 rfl (by decide) ?_
  refine go_copyi (pc2 := 17) rfl dX2_begin_14 rfl fin_w0 w_869 w_431 w_430 w_13 (by decide) (Nat.le_of_ble_eq_true rfl) c_4 c_59 (by decide) (by decide) (by decide) (by decide : _ = 0) (by decide : _ = 0) (by decide : _ = 5) (by decide) (by decide) ?_
  obtain ⟨g1, eg1⟩ : ∃ y : Hp, y = (uc h 59 (va_cpy (h.1 4) (h.1 59) 0 0 5)) := ⟨_, rfl⟩
  rw [← eg1]
  have k := k g1 eg1
  exact go_ret dX2_begin_17 rfl ⟨rfl, rfl, k⟩
theorem e_X2_ask  {h : Hp} {Q : Hp → Prop}  (k : (∃ Q1, CtV 0 mJ7_fill_53178 [.ref 60, .int (0 : Int32)] h Q1 ∧ ∀ h4 : Hp, Q1 h4 → GoV 4 mX2_ask 10 [(0, .ref 58), (1, .int (0 : Int32))] [] h4 Q)) : CtV 4 mX2_ask [.ref 58] h Q := by
  refine Ct.of (by decide +kernel) (Nat.le_of_ble_eq_true rfl) ?_
  show GoV 4 mX2_ask 0 [(0, .ref 58)] [] h Q
  refine go_aload_n (pc2 := 1) dX2_ask_0 rfl rfl rfl ?_
  refine gf_286 (pc2 := 4) rfl dX2_ask_1 rfl c_58 (fvs r_58_2) ?_
  refine go_iconst (pc2 := 5) (v := (0 : Int32)) dX2_ask_4 rfl (by decide) ?_
  obtain ⟨Q1, hC2, k⟩ := k
  refine gcS_V (pc2 := 8) (dC := 0) (As := [.ref 60, .int (0 : Int32)]) (st := []) rfl dX2_ask_5 rfl w_874 ok_J7_fill_53178 w_875 rfl (by decide) (Nat.le_of_ble_eq_true rfl) hC2 (fun h4 hq5 => ?_)
  have k := k h4 hq5
  refine go_iconst (pc2 := 9) (v := (0 : Int32)) dX2_ask_8 rfl (by decide) ?_
  refine go_istore_n (pc2 := 10) (ls2 := [(0, .ref 58), (1, .int (0 : Int32))]) dX2_ask_9 rfl rfl rfl rfl rfl rfl ?_
  exact k
theorem b_X2_ask_10 {x1 : Int32} {h : Hp} {Q : Hp → Prop}  (k : (((h.1 1 5) ≤ x1 → Q h) ∧ (¬ ((h.1 1 5) ≤ x1) → (vp_in x1 3 ∧ (vp_in x1 3 ∧ (∀ g3 : Hp, g3 = (ui h 61 (x1).toNatClampNeg (0 : Int32)) → (vp_in x1 3 ∧ (∀ g5 : Hp, g5 = (ui g3 62 (x1).toNatClampNeg (2147483647 : Int32)) → GoV 4 mX2_ask 48 [(0, .ref 58), (1, .int x1), (2, .ref (6 + (x1).toNatClampNeg)), (3, .int (0 : Int32))] [] g5 Q)))))))) : GoV 4 mX2_ask 10 [(0, .ref 58), (1, .int x1)] [] h Q := by
  refine go_iload_n (pc2 := 11) dX2_ask_10 rfl rfl rfl ?_
  refine go_aload_n (pc2 := 12) dX2_ask_11 rfl rfl rfl ?_
  refine gf_283 (pc2 := 15) rfl dX2_ask_12 rfl c_58 (fvs r_58_0) ?_
  refine gf_125 (pc2 := 18) rfl dX2_ask_15 rfl c_1 fvi ?_
  refine go_icmp_ge (pc2 := 21) (tgt := 113) dX2_ask_18 rfl (by decide) (fun c => ?_) (fun c => ?_)
  · have k := k.1 c
    exact go_ret dX2_ask_113 rfl ⟨rfl, rfl, k⟩
  · have k := k.2 c
    refine go_aload_n (pc2 := 22) dX2_ask_21 rfl rfl rfl ?_
    refine gf_283 (pc2 := 25) rfl dX2_ask_22 rfl c_58 (fvs r_58_0) ?_
    refine gf_117 (pc2 := 28) rfl dX2_ask_25 rfl c_1 (fvs r_1_4) ?_
    refine go_iload_n (pc2 := 29) dX2_ask_28 rfl rfl rfl ?_
    obtain ⟨y1, k⟩ := k
    refine go_aaload (pc2 := 30) (t := 0) dX2_ask_29 rfl (by decide) c_5 y1 rfl (rfo_s (ra_5 _ (vp_lt y1))) ?_
    refine go_astore_n (pc2 := 31) (ls2 := [(0, .ref 58), (1, .int x1), (2, .ref (6 + (x1).toNatClampNeg))]) dX2_ask_30 rfl rfl rfl rfl rfl rfl ?_
    refine go_aload_n (pc2 := 32) dX2_ask_31 rfl rfl rfl ?_
    refine gf_287 (pc2 := 35) rfl dX2_ask_32 rfl c_58 (fvs r_58_3) ?_
    refine go_iload_n (pc2 := 36) dX2_ask_35 rfl rfl rfl ?_
    refine go_iconst (pc2 := 37) (v := (0 : Int32)) dX2_ask_36 rfl (by decide) ?_
    obtain ⟨y2, k⟩ := k
    refine go_iastore (pc2 := 38) (j := (x1).toNatClampNeg) dX2_ask_37 rfl c_61 y2 rfl ?_
    obtain ⟨g3, eg3⟩ : ∃ y : Hp, y = (ui h 61 (x1).toNatClampNeg (0 : Int32)) := ⟨_, rfl⟩
    rw [← eg3]
    have k := k g3 eg3
    refine go_aload_n (pc2 := 39) dX2_ask_38 rfl rfl rfl ?_
    refine gf_290 (pc2 := 42) rfl dX2_ask_39 rfl c_58 (fvs r_58_4) ?_
    refine go_iload_n (pc2 := 43) dX2_ask_42 rfl rfl rfl ?_
    refine go_ldc (pc2 := 45) dX2_ask_43 rfl rfl w_877 ?_
    obtain ⟨y4, k⟩ := k
    refine go_iastore (pc2 := 46) (j := (x1).toNatClampNeg) dX2_ask_45 rfl c_62 y4 rfl ?_
    obtain ⟨g5, eg5⟩ : ∃ y : Hp, y = (ui g3 62 (x1).toNatClampNeg (2147483647 : Int32)) := ⟨_, rfl⟩
    rw [← eg5]
    have k := k g5 eg5
    refine go_iconst (pc2 := 47) (v := (0 : Int32)) dX2_ask_46 rfl (by decide) ?_
    refine go_istore_n (pc2 := 48) (ls2 := [(0, .ref 58), (1, .int x1), (2, .ref (6 + (x1).toNatClampNeg)), (3, .int (0 : Int32))]) dX2_ask_47 rfl rfl rfl rfl rfl rfl ?_
    exact k
theorem b_X2_ask_48 {x1 : Int32} {x2 : Nat} {x3 : Int32} {h : Hp} {Q : Hp → Prop} (hx2 : isPl x2) (k : ((((1 : Int32) <<< ((h.1 1 0) &&& 31)) ≤ x3 → (∃ Q1, CtV 3 mX2_addAmounts [.ref 58, .ref x2, .int x1] h Q1 ∧ ∀ h4 : Hp, Q1 h4 → GoV 4 mX2_ask 10 [(0, .ref 58), (1, .int (x1 + 1))] [] h4 Q)) ∧ (¬ (((1 : Int32) <<< ((h.1 1 0) &&& 31)) ≤ x3) → (∃ Q6, CtI 3 mX2_netOf [.ref 58, .ref x2, .int x3] h Q6 ∧ ∀ (v8 : Int32) (h9 : Hp), Q6 v8 h9 → (vp_in x1 3 ∧ (((h9.1 62 (x1).toNatClampNeg) ≤ v8 → GoV 4 mX2_ask 95 [(0, .ref 58), (1, .int x1), (2, .ref x2), (3, .int x3)] [] h9 Q) ∧ (¬ ((h9.1 62 (x1).toNatClampNeg) ≤ v8) → (vp_in x1 3 ∧ (∀ g13 : Hp, g13 = (ui h9 62 (x1).toNatClampNeg v8) → (vp_in x1 3 ∧ (∀ g15 : Hp, g15 = (ui g13 61 (x1).toNatClampNeg x3) → GoV 4 mX2_ask 95 [(0, .ref 58), (1, .int x1), (2, .ref x2), (3, .int x3)] [] g15 Q))))))))))) : GoV 4 mX2_ask 48 [(0, .ref 58), (1, .int x1), (2, .ref x2), (3, .int x3)] [] h Q := by
  refine go_iload_n (pc2 := 49) dX2_ask_48 rfl rfl rfl ?_
  refine go_iconst (pc2 := 50) (v := (1 : Int32)) dX2_ask_49 rfl (by decide) ?_
  refine go_aload_n (pc2 := 51) dX2_ask_50 rfl rfl rfl ?_
  refine gf_283 (pc2 := 54) rfl dX2_ask_51 rfl c_58 (fvs r_58_0) ?_
  refine gf_99 (pc2 := 57) rfl dX2_ask_54 rfl c_1 fvi ?_
  refine go_ishl (pc2 := 58) dX2_ask_57 rfl ?_
  refine go_icmp_ge (pc2 := 61) (tgt := 101) dX2_ask_58 rfl (by decide) (fun c => ?_) (fun c => ?_)
  · have k := k.1 c
    refine go_aload_n (pc2 := 102) dX2_ask_101 rfl rfl rfl ?_
    refine go_aload_n (pc2 := 103) dX2_ask_102 rfl rfl rfl ?_
    refine go_iload_n (pc2 := 104) dX2_ask_103 rfl rfl rfl ?_
    obtain ⟨Q1, hC2, k⟩ := k
    refine gcV_V (pc2 := 107) (dC := 3) (As := [.ref x2, .int x1]) (st := []) rfl dX2_ask_104 rfl w_890 ok_X2_addAmounts vi_X2_addAmounts c_58 (by decide) rfl rfl rfl (by decide) (Nat.le_of_ble_eq_true rfl) hC2 (fun h4 hq5 => ?_)
    have k := k h4 hq5
    refine go_iinc (pc2 := 110) (ls2 := [(0, .ref 58), (1, .int (x1 + 1)), (2, .ref x2), (3, .int x3)]) (v := (x1 + 1)) dX2_ask_107 rfl rfl rfl rfl rfl rfl rfl ?_
    refine go_goto (tgt := 10) dX2_ask_110 (by decide) ?_
    exact Go.pick [0, 1] rfl k
  · have k := k.2 c
    refine go_aload_n (pc2 := 62) dX2_ask_61 rfl rfl rfl ?_
    refine go_aload_n (pc2 := 63) dX2_ask_62 rfl rfl rfl ?_
    refine go_iload_n (pc2 := 64) dX2_ask_63 rfl rfl rfl ?_
    obtain ⟨Q6, hC7, k⟩ := k
    refine gcV_I (pc2 := 67) (dC := 3) (As := [.ref x2, .int x3]) (st := []) rfl dX2_ask_64 rfl w_878 ok_X2_netOf vi_X2_netOf c_58 (by decide) rfl rfl rfl (by decide) (Nat.le_of_ble_eq_true rfl) hC7 (fun v8 h9 hq10 => ?_)
    have k := k v8 h9 hq10
    refine go_istore (pc2 := 69) (ls2 := [(0, .ref 58), (1, .int x1), (2, .ref x2), (3, .int x3), (4, .int v8)]) dX2_ask_67 rfl rfl rfl rfl rfl ?_
    refine go_iload (pc2 := 71) dX2_ask_69 rfl rfl ?_
    refine go_aload_n (pc2 := 72) dX2_ask_71 rfl rfl rfl ?_
    refine gf_290 (pc2 := 75) rfl dX2_ask_72 rfl c_58 (fvs r_58_4) ?_
    refine go_iload_n (pc2 := 76) dX2_ask_75 rfl rfl rfl ?_
    obtain ⟨y11, k⟩ := k
    refine go_iaload (pc2 := 77) (j := (x1).toNatClampNeg) dX2_ask_76 rfl c_62 y11 rfl ?_
    refine go_icmp_ge (pc2 := 80) (tgt := 95) dX2_ask_77 rfl (by decide) (fun c => ?_) (fun c => ?_)
    · have k := k.1 c
      exact Go.pick [0, 1, 2, 3] rfl k
    · have k := k.2 c
      refine go_aload_n (pc2 := 81) dX2_ask_80 rfl rfl rfl ?_
      refine gf_290 (pc2 := 84) rfl dX2_ask_81 rfl c_58 (fvs r_58_4) ?_
      refine go_iload_n (pc2 := 85) dX2_ask_84 rfl rfl rfl ?_
      refine go_iload (pc2 := 87) dX2_ask_85 rfl rfl ?_
      obtain ⟨y12, k⟩ := k
      refine go_iastore (pc2 := 88) (j := (x1).toNatClampNeg) dX2_ask_87 rfl c_62 y12 rfl ?_
      obtain ⟨g13, eg13⟩ : ∃ y : Hp, y = (ui h9 62 (x1).toNatClampNeg v8) := ⟨_, rfl⟩
      rw [← eg13]
      have k := k g13 eg13
      refine go_aload_n (pc2 := 89) dX2_ask_88 rfl rfl rfl ?_
      refine gf_287 (pc2 := 92) rfl dX2_ask_89 rfl c_58 (fvs r_58_3) ?_
      refine go_iload_n (pc2 := 93) dX2_ask_92 rfl rfl rfl ?_
      refine go_iload_n (pc2 := 94) dX2_ask_93 rfl rfl rfl ?_
      obtain ⟨y14, k⟩ := k
      refine go_iastore (pc2 := 95) (j := (x1).toNatClampNeg) dX2_ask_94 rfl c_61 y14 rfl ?_
      obtain ⟨g15, eg15⟩ : ∃ y : Hp, y = (ui g13 61 (x1).toNatClampNeg x3) := ⟨_, rfl⟩
      rw [← eg15]
      have k := k g15 eg15
      exact Go.pick [0, 1, 2, 3] rfl k
theorem b_X2_ask_95 {x1 : Int32} {x2 : Nat} {x3 : Int32} {h : Hp} {Q : Hp → Prop} (hx2 : isPl x2) (k : GoV 4 mX2_ask 48 [(0, .ref 58), (1, .int x1), (2, .ref x2), (3, .int (x3 + 1))] [] h Q) : GoV 4 mX2_ask 95 [(0, .ref 58), (1, .int x1), (2, .ref x2), (3, .int x3)] [] h Q := by
  refine go_iinc (pc2 := 98) (ls2 := [(0, .ref 58), (1, .int x1), (2, .ref x2), (3, .int (x3 + 1))]) (v := (x3 + 1)) dX2_ask_95 rfl rfl rfl rfl rfl rfl rfl ?_
  refine go_goto (tgt := 48) dX2_ask_98 (by decide) ?_
  exact k
theorem e_X2_netOf {x1 : Nat} {x2 : Int32} {h : Hp} {Q : Int32 → Hp → Prop} (hx1 : isPl x1) (k : GoI 3 mX2_netOf 11 [(0, .ref 58), (1, .ref x1), (2, .int x2), (3, .int (0 : Int32)), (4, .int (h.1 x1 9)), (5, .int (0 : Int32))] [] h Q) : CtI 3 mX2_netOf [.ref 58, .ref x1, .int x2] h Q := by
  refine Ct.of (by decide +kernel) (Nat.le_of_ble_eq_true rfl) ?_
  show GoI 3 mX2_netOf 0 [(0, .ref 58), (1, .ref x1), (2, .int x2)] [] h Q
  refine go_iconst (pc2 := 1) (v := (0 : Int32)) dX2_netOf_0 rfl (by decide) ?_
  refine go_istore_n (pc2 := 2) (ls2 := [(0, .ref 58), (1, .ref x1), (2, .int x2), (3, .int (0 : Int32))]) dX2_netOf_1 rfl rfl rfl rfl rfl rfl ?_
  refine go_aload_n (pc2 := 3) dX2_netOf_2 rfl rfl rfl ?_
  refine gf_72 (pc2 := 6) rfl dX2_netOf_3 rfl hx1 fvi ?_
  refine go_istore (pc2 := 8) (ls2 := [(0, .ref 58), (1, .ref x1), (2, .int x2), (3, .int (0 : Int32)), (4, .int (h.1 x1 9))]) dX2_netOf_6 rfl rfl rfl rfl rfl ?_
  refine go_iconst (pc2 := 9) (v := (0 : Int32)) dX2_netOf_8 rfl (by decide) ?_
  refine go_istore (pc2 := 11) (ls2 := [(0, .ref 58), (1, .ref x1), (2, .int x2), (3, .int (0 : Int32)), (4, .int (h.1 x1 9)), (5, .int (0 : Int32))]) dX2_netOf_9 rfl rfl rfl rfl rfl ?_
  exact k
theorem b_X2_netOf_11 {x1 : Nat} {x2 : Int32} {x3 : Int32} {x4 : Int32} {x5 : Int32} {h : Hp} {Q : Int32 → Hp → Prop} (hx1 : isPl x1) (k : (((h.1 1 0) ≤ x5 → Q x3 h) ∧ (¬ ((h.1 1 0) ≤ x5) → (∃ Q1, CtI 1 mX3_moved [.ref x1, .int x4, .int (if ((x2 >>> (x5 &&& 31)) &&& (1 : Int32)) = (1 : Int32) then (1 : Int32) else (0 : Int32))] h Q1 ∧ ∀ (v3 : Int32) (h4 : Hp), Q1 v3 h4 → ((¬ v3 = 0 → (((if ((x2 >>> (x5 &&& 31)) &&& (1 : Int32)) = (1 : Int32) then (1 : Int32) else (0 : Int32)) = 0 → GoI 3 mX2_netOf 120 [(0, .ref 58), (1, .ref x1), (2, .int x2), (3, .int x3), (5, .int x5), (7, .int v3)] [] h4 Q) ∧ (¬ (if ((x2 >>> (x5 &&& 31)) &&& (1 : Int32)) = (1 : Int32) then (1 : Int32) else (0 : Int32)) = 0 → (∃ Q6, CtI 2 mX2_amountAt [.ref 58, .ref x1, .int x5, .int (if 0 ≤ x4 then (0 : Int32) else (1 : Int32))] h4 Q6 ∧ ∀ (v8 : Int32) (h9 : Hp), Q6 v8 h9 → (vp_in x5 5 ∧ ((0 ≤ x4 → GoI 3 mX2_netOf 118 [(0, .ref 58), (1, .ref x1), (2, .int x2), (5, .int x5), (7, .int v3)] [.int (0 : Int32), .int (x3 + ((h4.1 x1 5) + (v8 * ((h9.1 x1 4) - (h9.1 59 (x5).toNatClampNeg)))))] h9 Q) ∧ (¬ (0 ≤ x4) → (∃ Q12, CtI 2 mX3_startBehind [.ref x1, .int (-x4)] h9 Q12 ∧ ∀ (v14 : Int32) (h15 : Hp), Q12 v14 h15 → GoI 3 mX2_netOf 118 [(0, .ref 58), (1, .ref x1), (2, .int x2), (5, .int x5), (7, .int v3)] [.int v14, .int (x3 + ((h4.1 x1 5) + (v8 * ((h9.1 x1 4) - (h9.1 59 (x5).toNatClampNeg)))))] h15 Q)))))))) ∧ (v3 = 0 → Q (2147483647 : Int32) h4)))))) : GoI 3 mX2_netOf 11 [(0, .ref 58), (1, .ref x1), (2, .int x2), (3, .int x3), (4, .int x4), (5, .int x5)] [] h Q := by
  refine go_iload (pc2 := 13) dX2_netOf_11 rfl rfl ?_
  refine go_aload_n (pc2 := 14) dX2_netOf_13 rfl rfl rfl ?_
  refine gf_283 (pc2 := 17) rfl dX2_netOf_14 rfl c_58 (fvs r_58_0) ?_
  refine gf_99 (pc2 := 20) rfl dX2_netOf_17 rfl c_1 fvi ?_
  refine go_icmp_ge (pc2 := 23) (tgt := 130) dX2_netOf_20 rfl (by decide) (fun c => ?_) (fun c => ?_)
  · have k := k.1 c
    refine go_iload_n (pc2 := 131) dX2_netOf_130 rfl rfl rfl ?_
    exact go_iret dX2_netOf_131 ⟨_, rfl, rfl⟩ ⟨rfl, _, rfl, k⟩
  · have k := k.2 c
    refine go_iload_n (pc2 := 24) dX2_netOf_23 rfl rfl rfl ?_
    refine go_iload (pc2 := 26) dX2_netOf_24 rfl rfl ?_
    refine go_ishr (pc2 := 27) dX2_netOf_26 rfl ?_
    refine go_iconst (pc2 := 28) (v := (1 : Int32)) dX2_netOf_27 rfl (by decide) ?_
    refine go_iand (pc2 := 29) dX2_netOf_28 rfl ?_
    refine go_iconst (pc2 := 30) (v := (1 : Int32)) dX2_netOf_29 rfl (by decide) ?_
    have J : GoI 3 mX2_netOf 38 [(0, .ref 58), (1, .ref x1), (2, .int x2), (3, .int x3), (4, .int x4), (5, .int x5)] [.int (if ((x2 >>> (x5 &&& 31)) &&& (1 : Int32)) = (1 : Int32) then (1 : Int32) else (0 : Int32))] h Q := by
      refine go_istore (pc2 := 40) (ls2 := [(0, .ref 58), (1, .ref x1), (2, .int x2), (3, .int x3), (4, .int x4), (5, .int x5), (6, .int (if ((x2 >>> (x5 &&& 31)) &&& (1 : Int32)) = (1 : Int32) then (1 : Int32) else (0 : Int32)))]) dX2_netOf_38 rfl rfl rfl rfl rfl ?_
      refine go_aload_n (pc2 := 41) dX2_netOf_40 rfl rfl rfl ?_
      refine go_iload (pc2 := 43) dX2_netOf_41 rfl rfl ?_
      refine go_iload (pc2 := 45) dX2_netOf_43 rfl rfl ?_
      obtain ⟨Q1, hC2, k⟩ := k
      refine gcVN_I (pc2 := 48) (dC := 1) (As := [.int x4, .int (if ((x2 >>> (x5 &&& 31)) &&& (1 : Int32)) = (1 : Int32) then (1 : Int32) else (0 : Int32))]) (st := []) rfl dX2_netOf_45 rfl w_882 ok_X3_moved vi_X3_moved hx1 (by decide) rfl rfl rfl (by decide) (Nat.le_of_ble_eq_true rfl) hC2 (fun v3 h4 hq5 => ?_)
      have k := k v3 h4 hq5
      refine go_istore (pc2 := 50) (ls2 := [(0, .ref 58), (1, .ref x1), (2, .int x2), (3, .int x3), (4, .int x4), (5, .int x5), (6, .int (if ((x2 >>> (x5 &&& 31)) &&& (1 : Int32)) = (1 : Int32) then (1 : Int32) else (0 : Int32))), (7, .int v3)]) dX2_netOf_48 rfl rfl rfl rfl rfl ?_
      refine go_iload (pc2 := 52) dX2_netOf_50 rfl rfl ?_
      refine go_if_ne (pc2 := 55) (tgt := 58) dX2_netOf_52 rfl (by decide) (fun c => ?_) (fun c => ?_)
      · have k := k.1 c
        refine go_iload (pc2 := 60) dX2_netOf_58 rfl rfl ?_
        refine go_if_eq (pc2 := 63) (tgt := 120) dX2_netOf_60 rfl (by decide) (fun c => ?_) (fun c => ?_)
        · have k := k.1 c
          exact Go.pick [0, 1, 2, 3, 5, 7] rfl k
        · have k := k.2 c
          refine go_iload_n (pc2 := 64) dX2_netOf_63 rfl rfl rfl ?_
          refine go_aload_n (pc2 := 65) dX2_netOf_64 rfl rfl rfl ?_
          refine gf_59 (pc2 := 68) rfl dX2_netOf_65 rfl hx1 fvi ?_
          refine go_aload_n (pc2 := 69) dX2_netOf_68 rfl rfl rfl ?_
          refine go_aload_n (pc2 := 70) dX2_netOf_69 rfl rfl rfl ?_
          refine go_iload (pc2 := 72) dX2_netOf_70 rfl rfl ?_
          refine go_iload (pc2 := 74) dX2_netOf_72 rfl rfl ?_
          have J : GoI 3 mX2_netOf 82 [(0, .ref 58), (1, .ref x1), (2, .int x2), (3, .int x3), (4, .int x4), (5, .int x5), (6, .int (if ((x2 >>> (x5 &&& 31)) &&& (1 : Int32)) = (1 : Int32) then (1 : Int32) else (0 : Int32))), (7, .int v3)] [.int (if 0 ≤ x4 then (0 : Int32) else (1 : Int32)), .int x5, .ref x1, .ref 58, .int (h4.1 x1 5), .int x3] h4 Q := by
            obtain ⟨Q6, hC7, k⟩ := k
            refine gcV_I (pc2 := 85) (dC := 2) (As := [.ref x1, .int x5, .int (if 0 ≤ x4 then (0 : Int32) else (1 : Int32))]) (st := [.int (h4.1 x1 5), .int x3]) rfl dX2_netOf_82 rfl w_883 ok_X2_amountAt vi_X2_amountAt c_58 (by decide) rfl rfl rfl (by decide) (Nat.le_of_ble_eq_true rfl) hC7 (fun v8 h9 hq10 => ?_)
            have k := k v8 h9 hq10
            refine go_aload_n (pc2 := 86) dX2_netOf_85 rfl rfl rfl ?_
            refine gf_55 (pc2 := 89) rfl dX2_netOf_86 rfl hx1 fvi ?_
            refine go_aload_n (pc2 := 90) dX2_netOf_89 rfl rfl rfl ?_
            refine gf_284 (pc2 := 93) rfl dX2_netOf_90 rfl c_58 (fvs r_58_1) ?_
            refine go_iload (pc2 := 95) dX2_netOf_93 rfl rfl ?_
            obtain ⟨y11, k⟩ := k
            refine go_iaload (pc2 := 96) (j := (x5).toNatClampNeg) dX2_netOf_95 rfl c_59 y11 rfl ?_
            refine go_isub (pc2 := 97) dX2_netOf_96 rfl ?_
            refine go_imul (pc2 := 98) dX2_netOf_97 rfl ?_
            refine go_iadd (pc2 := 99) dX2_netOf_98 rfl ?_
            refine go_iadd (pc2 := 100) dX2_netOf_99 rfl ?_
            refine go_istore_n (pc2 := 101) (ls2 := [(0, .ref 58), (1, .ref x1), (2, .int x2), (3, .int (x3 + ((h4.1 x1 5) + (v8 * ((h9.1 x1 4) - (h9.1 59 (x5).toNatClampNeg)))))), (4, .int x4), (5, .int x5), (6, .int (if ((x2 >>> (x5 &&& 31)) &&& (1 : Int32)) = (1 : Int32) then (1 : Int32) else (0 : Int32))), (7, .int v3)]) dX2_netOf_100 rfl rfl rfl rfl rfl rfl ?_
            refine go_iload_n (pc2 := 102) dX2_netOf_101 rfl rfl rfl ?_
            refine go_iload (pc2 := 104) dX2_netOf_102 rfl rfl ?_
            refine go_if_ge (pc2 := 107) (tgt := 117) dX2_netOf_104 rfl (by decide) (fun c => ?_) (fun c => ?_)
            · have k := k.1 c
              refine go_iconst (pc2 := 118) (v := (0 : Int32)) dX2_netOf_117 rfl (by decide) ?_
              exact Go.pick [0, 1, 2, 5, 7] rfl k
            · have k := k.2 c
              refine go_aload_n (pc2 := 108) dX2_netOf_107 rfl rfl rfl ?_
              refine go_iload (pc2 := 110) dX2_netOf_108 rfl rfl ?_
              refine go_ineg (pc2 := 111) dX2_netOf_110 rfl ?_
              obtain ⟨Q12, hC13, k⟩ := k
              refine gcVN_I (pc2 := 114) (dC := 2) (As := [.int (-x4)]) (st := [.int (x3 + ((h4.1 x1 5) + (v8 * ((h9.1 x1 4) - (h9.1 59 (x5).toNatClampNeg)))))]) rfl dX2_netOf_111 rfl w_889 ok_X3_startBehind vi_X3_startBehind hx1 (by decide) rfl rfl rfl (by decide) (Nat.le_of_ble_eq_true rfl) hC13 (fun v14 h15 hq16 => ?_)
              have k := k v14 h15 hq16
              refine go_goto (tgt := 118) dX2_netOf_114 (by decide) ?_
              exact Go.pick [0, 1, 2, 5, 7] rfl k
          refine go_if_ge (pc2 := 77) (tgt := 81) dX2_netOf_74 rfl (by decide) (fun c => ?_) (fun c => ?_)
          · rw [if_pos c] at J
            exact go_iconst (pc2 := 82) dX2_netOf_81 rfl (by decide) J
          · rw [if_neg c] at J
            exact go_iconst (pc2 := 78) dX2_netOf_77 rfl (by decide) (go_goto (tgt := 82) dX2_netOf_78 (by decide) J)
      · have k := k.2 c
        refine go_ldc (pc2 := 57) dX2_netOf_55 rfl rfl w_877 ?_
        exact go_iret dX2_netOf_57 ⟨_, rfl, rfl⟩ ⟨rfl, _, rfl, k⟩
    refine go_icmp_ne (pc2 := 33) (tgt := 37) dX2_netOf_30 rfl (by decide) (fun c => ?_) (fun c => ?_)
    · rw [if_neg c] at J
      exact go_iconst (pc2 := 38) dX2_netOf_37 rfl (by decide) J
    · rw [if_pos c] at J
      exact go_iconst (pc2 := 34) dX2_netOf_33 rfl (by decide) (go_goto (tgt := 38) dX2_netOf_34 (by decide) J)
theorem b_X2_netOf_120 {x1 : Nat} {x2 : Int32} {x3 : Int32} {x5 : Int32} {x7 : Int32} {h : Hp} {Q : Int32 → Hp → Prop} (hx1 : isPl x1) (k : GoI 3 mX2_netOf 11 [(0, .ref 58), (1, .ref x1), (2, .int x2), (3, .int x3), (4, .int x7), (5, .int (x5 + 1))] [] h Q) : GoI 3 mX2_netOf 120 [(0, .ref 58), (1, .ref x1), (2, .int x2), (3, .int x3), (5, .int x5), (7, .int x7)] [] h Q := by
  refine go_iload (pc2 := 122) dX2_netOf_120 rfl rfl ?_
  refine go_istore (pc2 := 124) (ls2 := [(0, .ref 58), (1, .ref x1), (2, .int x2), (3, .int x3), (4, .int x7), (5, .int x5), (7, .int x7)]) dX2_netOf_122 rfl rfl rfl rfl rfl ?_
  refine go_iinc (pc2 := 127) (ls2 := [(0, .ref 58), (1, .ref x1), (2, .int x2), (3, .int x3), (4, .int x7), (5, .int (x5 + 1)), (7, .int x7)]) (v := (x5 + 1)) dX2_netOf_124 rfl rfl rfl rfl rfl rfl rfl ?_
  refine go_goto (tgt := 11) dX2_netOf_127 (by decide) ?_
  exact Go.pick [0, 1, 2, 3, 4, 5] rfl k
theorem b_X2_netOf_118 {x1 : Nat} {x2 : Int32} {x5 : Int32} {x7 : Int32} {s0 : Int32} {s1 : Int32} {h : Hp} {Q : Int32 → Hp → Prop} (hx1 : isPl x1) (k : GoI 3 mX2_netOf 120 [(0, .ref 58), (1, .ref x1), (2, .int x2), (3, .int (s0 + s1)), (5, .int x5), (7, .int x7)] [] h Q) : GoI 3 mX2_netOf 118 [(0, .ref 58), (1, .ref x1), (2, .int x2), (5, .int x5), (7, .int x7)] [.int s1, .int s0] h Q := by
  refine go_iadd (pc2 := 119) dX2_netOf_118 rfl ?_
  refine go_istore_n (pc2 := 120) (ls2 := [(0, .ref 58), (1, .ref x1), (2, .int x2), (3, .int (s0 + s1)), (5, .int x5), (7, .int x7)]) dX2_netOf_119 rfl rfl rfl rfl rfl rfl ?_
  exact k
theorem e_X2_amountAt {x1 : Nat} {x2 : Int32} {x3 : Int32} {h : Hp} {Q : Int32 → Hp → Prop} (hx1 : isPl x1) (k : (vp_in x2 5 ∧ (((h.1 59 (x2).toNatClampNeg) ≤ (h.1 x1 4) → (∃ Q2, CtI 0 mX3_least [.ref x1] h Q2 ∧ ∀ (v4 : Int32) (h5 : Hp), Q2 v4 h5 → Q v4 h5)) ∧ (¬ ((h.1 59 (x2).toNatClampNeg) ≤ (h.1 x1 4)) → (∃ Q7, CtI 1 mX3_most [.ref x1, .int x3] h Q7 ∧ ∀ (v9 : Int32) (h10 : Hp), Q7 v9 h10 → Q v9 h10))))) : CtI 2 mX2_amountAt [.ref 58, .ref x1, .int x2, .int x3] h Q := by
  refine Ct.of (by decide +kernel) (Nat.le_of_ble_eq_true rfl) ?_
  show GoI 2 mX2_amountAt 0 [(0, .ref 58), (1, .ref x1), (2, .int x2), (3, .int x3)] [] h Q
  refine go_aload_n (pc2 := 1) dX2_amountAt_0 rfl rfl rfl ?_
  refine gf_284 (pc2 := 4) rfl dX2_amountAt_1 rfl c_58 (fvs r_58_1) ?_
  refine go_iload_n (pc2 := 5) dX2_amountAt_4 rfl rfl rfl ?_
  obtain ⟨y1, k⟩ := k
  refine go_iaload (pc2 := 6) (j := (x2).toNatClampNeg) dX2_amountAt_5 rfl c_59 y1 rfl ?_
  refine go_aload_n (pc2 := 7) dX2_amountAt_6 rfl rfl rfl ?_
  refine gf_55 (pc2 := 10) rfl dX2_amountAt_7 rfl hx1 fvi ?_
  refine go_icmp_le (pc2 := 13) (tgt := 21) dX2_amountAt_10 rfl (by decide) (fun c => ?_) (fun c => ?_)
  · have k := k.1 c
    refine go_aload_n (pc2 := 22) dX2_amountAt_21 rfl rfl rfl ?_
    obtain ⟨Q2, hC3, k⟩ := k
    refine gcVN_I (pc2 := 25) (dC := 0) (As := []) (st := []) rfl dX2_amountAt_22 rfl w_888 ok_X3_least vi_X3_least hx1 (by decide) rfl rfl rfl (by decide) (Nat.le_of_ble_eq_true rfl) hC3 (fun v4 h5 hq6 => ?_)
    have k := k v4 h5 hq6
    exact go_iret dX2_amountAt_25 ⟨_, rfl, rfl⟩ ⟨rfl, _, rfl, k⟩
  · have k := k.2 c
    refine go_aload_n (pc2 := 14) dX2_amountAt_13 rfl rfl rfl ?_
    refine go_iload_n (pc2 := 15) dX2_amountAt_14 rfl rfl rfl ?_
    obtain ⟨Q7, hC8, k⟩ := k
    refine gcVN_I (pc2 := 18) (dC := 1) (As := [.int x3]) (st := []) rfl dX2_amountAt_15 rfl w_887 ok_X3_most vi_X3_most hx1 (by decide) rfl rfl rfl (by decide) (Nat.le_of_ble_eq_true rfl) hC8 (fun v9 h10 hq11 => ?_)
    have k := k v9 h10 hq11
    refine go_goto (tgt := 25) dX2_amountAt_18 (by decide) ?_
    exact go_iret dX2_amountAt_25 ⟨_, rfl, rfl⟩ ⟨rfl, _, rfl, k⟩
theorem e_X2_addAmounts {x1 : Nat} {x2 : Int32} {h : Hp} {Q : Hp → Prop} (hx1 : isPl x1) (k : (vp_in x2 3 ∧ (∀ g2 : Hp, g2 = (ui h 63 (x2).toNatClampNeg (0 : Int32)) → GoV 3 mX2_addAmounts 23 [(0, .ref 58), (1, .ref x1), (2, .int x2), (3, .int (if (g2.1 x1 9) ≤ 0 then (0 : Int32) else (1 : Int32))), (4, .int (0 : Int32))] [] g2 Q))) : CtV 3 mX2_addAmounts [.ref 58, .ref x1, .int x2] h Q := by
  refine Ct.of (by decide +kernel) (Nat.le_of_ble_eq_true rfl) ?_
  show GoV 3 mX2_addAmounts 0 [(0, .ref 58), (1, .ref x1), (2, .int x2)] [] h Q
  refine go_aload_n (pc2 := 1) dX2_addAmounts_0 rfl rfl rfl ?_
  refine gf_292 (pc2 := 4) rfl dX2_addAmounts_1 rfl c_58 (fvs r_58_5) ?_
  refine go_iload_n (pc2 := 5) dX2_addAmounts_4 rfl rfl rfl ?_
  refine go_iconst (pc2 := 6) (v := (0 : Int32)) dX2_addAmounts_5 rfl (by decide) ?_
  obtain ⟨y1, k⟩ := k
  refine go_iastore (pc2 := 7) (j := (x2).toNatClampNeg) dX2_addAmounts_6 rfl c_63 y1 rfl ?_
  obtain ⟨g2, eg2⟩ : ∃ y : Hp, y = (ui h 63 (x2).toNatClampNeg (0 : Int32)) := ⟨_, rfl⟩
  rw [← eg2]
  have k := k g2 eg2
  refine go_aload_n (pc2 := 8) dX2_addAmounts_7 rfl rfl rfl ?_
  refine gf_72 (pc2 := 11) rfl dX2_addAmounts_8 rfl hx1 fvi ?_
  have J : GoV 3 mX2_addAmounts 19 [(0, .ref 58), (1, .ref x1), (2, .int x2)] [.int (if (g2.1 x1 9) ≤ 0 then (0 : Int32) else (1 : Int32))] g2 Q := by
    refine go_istore_n (pc2 := 20) (ls2 := [(0, .ref 58), (1, .ref x1), (2, .int x2), (3, .int (if (g2.1 x1 9) ≤ 0 then (0 : Int32) else (1 : Int32)))]) dX2_addAmounts_19 rfl rfl rfl rfl rfl rfl ?_
    refine go_iconst (pc2 := 21) (v := (0 : Int32)) dX2_addAmounts_20 rfl (by decide) ?_
    refine go_istore (pc2 := 23) (ls2 := [(0, .ref 58), (1, .ref x1), (2, .int x2), (3, .int (if (g2.1 x1 9) ≤ 0 then (0 : Int32) else (1 : Int32))), (4, .int (0 : Int32))]) dX2_addAmounts_21 rfl rfl rfl rfl rfl ?_
    exact k
  refine go_if_le (pc2 := 14) (tgt := 18) dX2_addAmounts_11 rfl (by decide) (fun c => ?_) (fun c => ?_)
  · rw [if_pos c] at J
    exact go_iconst (pc2 := 19) dX2_addAmounts_18 rfl (by decide) J
  · rw [if_neg c] at J
    exact go_iconst (pc2 := 15) dX2_addAmounts_14 rfl (by decide) (go_goto (tgt := 19) dX2_addAmounts_15 (by decide) J)
theorem b_X2_addAmounts_23 {x1 : Nat} {x2 : Int32} {x3 : Int32} {x4 : Int32} {h : Hp} {Q : Hp → Prop} (hx1 : isPl x1) (k : (((h.1 1 0) ≤ x4 → Q h) ∧ (¬ ((h.1 1 0) ≤ x4) → (vp_in x2 3 ∧ (((if (((h.1 61 (x2).toNatClampNeg) >>> (x4 &&& 31)) &&& (1 : Int32)) = (1 : Int32) then (1 : Int32) else (0 : Int32)) = 0 → GoV 3 mX2_addAmounts 103 [(0, .ref 58), (1, .ref x1), (2, .int x2), (4, .int x4), (5, .int (if (((h.1 61 (x2).toNatClampNeg) >>> (x4 &&& 31)) &&& (1 : Int32)) = (1 : Int32) then (1 : Int32) else (0 : Int32)))] [] h Q) ∧ (¬ (if (((h.1 61 (x2).toNatClampNeg) >>> (x4 &&& 31)) &&& (1 : Int32)) = (1 : Int32) then (1 : Int32) else (0 : Int32)) = 0 → (∃ Q2, CtI 2 mX2_amountAt [.ref 58, .ref x1, .int x4, .int (if x3 = 0 then (1 : Int32) else (0 : Int32))] h Q2 ∧ ∀ (v4 : Int32) (h5 : Hp), Q2 v4 h5 → (vp_in x2 3 ∧ (vp_in x2 3 ∧ (∀ g9 : Hp, g9 = (ui h5 63 (x2).toNatClampNeg ((h5.1 63 (x2).toNatClampNeg) + v4)) → (vp_in x4 5 ∧ (vp_in x4 5 ∧ (∀ g12 : Hp, g12 = (ui g9 60 (x4).toNatClampNeg ((g9.1 60 (x4).toNatClampNeg) + v4)) → GoV 3 mX2_addAmounts 103 [(0, .ref 58), (1, .ref x1), (2, .int x2), (4, .int x4), (5, .int (if (((h.1 61 (x2).toNatClampNeg) >>> (x4 &&& 31)) &&& (1 : Int32)) = (1 : Int32) then (1 : Int32) else (0 : Int32)))] [] g12 Q))))))))))))) : GoV 3 mX2_addAmounts 23 [(0, .ref 58), (1, .ref x1), (2, .int x2), (3, .int x3), (4, .int x4)] [] h Q := by
  refine go_iload (pc2 := 25) dX2_addAmounts_23 rfl rfl ?_
  refine go_aload_n (pc2 := 26) dX2_addAmounts_25 rfl rfl rfl ?_
  refine gf_283 (pc2 := 29) rfl dX2_addAmounts_26 rfl c_58 (fvs r_58_0) ?_
  refine gf_99 (pc2 := 32) rfl dX2_addAmounts_29 rfl c_1 fvi ?_
  refine go_icmp_ge (pc2 := 35) (tgt := 112) dX2_addAmounts_32 rfl (by decide) (fun c => ?_) (fun c => ?_)
  · have k := k.1 c
    exact go_ret dX2_addAmounts_112 rfl ⟨rfl, rfl, k⟩
  · have k := k.2 c
    refine go_aload_n (pc2 := 36) dX2_addAmounts_35 rfl rfl rfl ?_
    refine gf_287 (pc2 := 39) rfl dX2_addAmounts_36 rfl c_58 (fvs r_58_3) ?_
    refine go_iload_n (pc2 := 40) dX2_addAmounts_39 rfl rfl rfl ?_
    obtain ⟨y1, k⟩ := k
    refine go_iaload (pc2 := 41) (j := (x2).toNatClampNeg) dX2_addAmounts_40 rfl c_61 y1 rfl ?_
    refine go_iload (pc2 := 43) dX2_addAmounts_41 rfl rfl ?_
    refine go_ishr (pc2 := 44) dX2_addAmounts_43 rfl ?_
    refine go_iconst (pc2 := 45) (v := (1 : Int32)) dX2_addAmounts_44 rfl (by decide) ?_
    refine go_iand (pc2 := 46) dX2_addAmounts_45 rfl ?_
    refine go_iconst (pc2 := 47) (v := (1 : Int32)) dX2_addAmounts_46 rfl (by decide) ?_
    have J : GoV 3 mX2_addAmounts 55 [(0, .ref 58), (1, .ref x1), (2, .int x2), (3, .int x3), (4, .int x4)] [.int (if (((h.1 61 (x2).toNatClampNeg) >>> (x4 &&& 31)) &&& (1 : Int32)) = (1 : Int32) then (1 : Int32) else (0 : Int32))] h Q := by
      refine go_istore (pc2 := 57) (ls2 := [(0, .ref 58), (1, .ref x1), (2, .int x2), (3, .int x3), (4, .int x4), (5, .int (if (((h.1 61 (x2).toNatClampNeg) >>> (x4 &&& 31)) &&& (1 : Int32)) = (1 : Int32) then (1 : Int32) else (0 : Int32)))]) dX2_addAmounts_55 rfl rfl rfl rfl rfl ?_
      refine go_iload (pc2 := 59) dX2_addAmounts_57 rfl rfl ?_
      refine go_if_eq (pc2 := 62) (tgt := 103) dX2_addAmounts_59 rfl (by decide) (fun c => ?_) (fun c => ?_)
      · have k := k.1 c
        exact Go.pick [0, 1, 2, 4, 5] rfl k
      · have k := k.2 c
        refine go_aload_n (pc2 := 63) dX2_addAmounts_62 rfl rfl rfl ?_
        refine go_aload_n (pc2 := 64) dX2_addAmounts_63 rfl rfl rfl ?_
        refine go_iload (pc2 := 66) dX2_addAmounts_64 rfl rfl ?_
        refine go_iload_n (pc2 := 67) dX2_addAmounts_66 rfl rfl rfl ?_
        have J : GoV 3 mX2_addAmounts 75 [(0, .ref 58), (1, .ref x1), (2, .int x2), (3, .int x3), (4, .int x4), (5, .int (if (((h.1 61 (x2).toNatClampNeg) >>> (x4 &&& 31)) &&& (1 : Int32)) = (1 : Int32) then (1 : Int32) else (0 : Int32)))] [.int (if x3 = 0 then (1 : Int32) else (0 : Int32)), .int x4, .ref x1, .ref 58] h Q := by
          obtain ⟨Q2, hC3, k⟩ := k
          refine gcV_I (pc2 := 78) (dC := 2) (As := [.ref x1, .int x4, .int (if x3 = 0 then (1 : Int32) else (0 : Int32))]) (st := []) rfl dX2_addAmounts_75 rfl w_883 ok_X2_amountAt vi_X2_amountAt c_58 (by decide) rfl rfl rfl (by decide) (Nat.le_of_ble_eq_true rfl) hC3 (fun v4 h5 hq6 => ?_)
          have k := k v4 h5 hq6
          refine go_istore (pc2 := 80) (ls2 := [(0, .ref 58), (1, .ref x1), (2, .int x2), (3, .int x3), (4, .int x4), (5, .int (if (((h.1 61 (x2).toNatClampNeg) >>> (x4 &&& 31)) &&& (1 : Int32)) = (1 : Int32) then (1 : Int32) else (0 : Int32))), (6, .int v4)]) dX2_addAmounts_78 rfl rfl rfl rfl rfl ?_
          refine go_aload_n (pc2 := 81) dX2_addAmounts_80 rfl rfl rfl ?_
          refine gf_292 (pc2 := 84) rfl dX2_addAmounts_81 rfl c_58 (fvs r_58_5) ?_
          refine go_iload_n (pc2 := 85) dX2_addAmounts_84 rfl rfl rfl ?_
          refine go_dup2 (pc2 := 86) dX2_addAmounts_85 rfl rfl rfl ?_
          obtain ⟨y7, k⟩ := k
          refine go_iaload (pc2 := 87) (j := (x2).toNatClampNeg) dX2_addAmounts_86 rfl c_63 y7 rfl ?_
          refine go_iload (pc2 := 89) dX2_addAmounts_87 rfl rfl ?_
          refine go_iadd (pc2 := 90) dX2_addAmounts_89 rfl ?_
          obtain ⟨y8, k⟩ := k
          refine go_iastore (pc2 := 91) (j := (x2).toNatClampNeg) dX2_addAmounts_90 rfl c_63 y8 rfl ?_
          obtain ⟨g9, eg9⟩ : ∃ y : Hp, y = (ui h5 63 (x2).toNatClampNeg ((h5.1 63 (x2).toNatClampNeg) + v4)) := ⟨_, rfl⟩
          rw [← eg9]
          have k := k g9 eg9
          refine go_aload_n (pc2 := 92) dX2_addAmounts_91 rfl rfl rfl ?_
          refine gf_286 (pc2 := 95) rfl dX2_addAmounts_92 rfl c_58 (fvs r_58_2) ?_
          refine go_iload (pc2 := 97) dX2_addAmounts_95 rfl rfl ?_
          refine go_dup2 (pc2 := 98) dX2_addAmounts_97 rfl rfl rfl ?_
          obtain ⟨y10, k⟩ := k
          refine go_iaload (pc2 := 99) (j := (x4).toNatClampNeg) dX2_addAmounts_98 rfl c_60 y10 rfl ?_
          refine go_iload (pc2 := 101) dX2_addAmounts_99 rfl rfl ?_
          refine go_iadd (pc2 := 102) dX2_addAmounts_101 rfl ?_
          obtain ⟨y11, k⟩ := k
          refine go_iastore (pc2 := 103) (j := (x4).toNatClampNeg) dX2_addAmounts_102 rfl c_60 y11 rfl ?_
          obtain ⟨g12, eg12⟩ : ∃ y : Hp, y = (ui g9 60 (x4).toNatClampNeg ((g9.1 60 (x4).toNatClampNeg) + v4)) := ⟨_, rfl⟩
          rw [← eg12]
          have k := k g12 eg12
          exact Go.pick [0, 1, 2, 4, 5] rfl k
        refine go_if_ne (pc2 := 70) (tgt := 74) dX2_addAmounts_67 rfl (by decide) (fun c => ?_) (fun c => ?_)
        · rw [if_neg c] at J
          exact go_iconst (pc2 := 75) dX2_addAmounts_74 rfl (by decide) J
        · rw [if_pos c] at J
          exact go_iconst (pc2 := 71) dX2_addAmounts_70 rfl (by decide) (go_goto (tgt := 75) dX2_addAmounts_71 (by decide) J)
    refine go_icmp_ne (pc2 := 50) (tgt := 54) dX2_addAmounts_47 rfl (by decide) (fun c => ?_) (fun c => ?_)
    · rw [if_neg c] at J
      exact go_iconst (pc2 := 55) dX2_addAmounts_54 rfl (by decide) J
    · rw [if_pos c] at J
      exact go_iconst (pc2 := 51) dX2_addAmounts_50 rfl (by decide) (go_goto (tgt := 55) dX2_addAmounts_51 (by decide) J)
theorem b_X2_addAmounts_103 {x1 : Nat} {x2 : Int32} {x4 : Int32} {x5 : Int32} {h : Hp} {Q : Hp → Prop} (hx1 : isPl x1) (k : GoV 3 mX2_addAmounts 23 [(0, .ref 58), (1, .ref x1), (2, .int x2), (3, .int x5), (4, .int (x4 + 1))] [] h Q) : GoV 3 mX2_addAmounts 103 [(0, .ref 58), (1, .ref x1), (2, .int x2), (4, .int x4), (5, .int x5)] [] h Q := by
  refine go_iload (pc2 := 105) dX2_addAmounts_103 rfl rfl ?_
  refine go_istore_n (pc2 := 106) (ls2 := [(0, .ref 58), (1, .ref x1), (2, .int x2), (3, .int x5), (4, .int x4), (5, .int x5)]) dX2_addAmounts_105 rfl rfl rfl rfl rfl rfl ?_
  refine go_iinc (pc2 := 109) (ls2 := [(0, .ref 58), (1, .ref x1), (2, .int x2), (3, .int x5), (4, .int (x4 + 1)), (5, .int x5)]) (v := (x4 + 1)) dX2_addAmounts_106 rfl rfl rfl rfl rfl rfl rfl ?_
  refine go_goto (tgt := 23) dX2_addAmounts_109 (by decide) ?_
  exact Go.pick [0, 1, 2, 3, 4] rfl k
theorem e_X2_boundNow  {h : Hp} {Q : Int32 → Hp → Prop}  (k : GoI 0 mX2_boundNow 4 [(0, .ref 58), (1, .int (0 : Int32)), (2, .int (0 : Int32))] [] h Q) : CtI 0 mX2_boundNow [.ref 58] h Q := by
  refine Ct.of (by decide +kernel) (Nat.le_of_ble_eq_true rfl) ?_
  show GoI 0 mX2_boundNow 0 [(0, .ref 58)] [] h Q
  refine go_iconst (pc2 := 1) (v := (0 : Int32)) dX2_boundNow_0 rfl (by decide) ?_
  refine go_istore_n (pc2 := 2) (ls2 := [(0, .ref 58), (1, .int (0 : Int32))]) dX2_boundNow_1 rfl rfl rfl rfl rfl rfl ?_
  refine go_iconst (pc2 := 3) (v := (0 : Int32)) dX2_boundNow_2 rfl (by decide) ?_
  refine go_istore_n (pc2 := 4) (ls2 := [(0, .ref 58), (1, .int (0 : Int32)), (2, .int (0 : Int32))]) dX2_boundNow_3 rfl rfl rfl rfl rfl rfl ?_
  exact k
theorem b_X2_boundNow_4 {x1 : Int32} {x2 : Int32} {h : Hp} {Q : Int32 → Hp → Prop}  (k : (((h.1 1 0) ≤ x2 → GoI 0 mX2_boundNow 42 [(0, .ref 58), (1, .int x1), (2, .int (0 : Int32))] [] h Q) ∧ (¬ ((h.1 1 0) ≤ x2) → (vp_in x2 5 ∧ (vp_in x2 5 ∧ GoI 0 mX2_boundNow 4 [(0, .ref 58), (1, .int (x1 + ((h.1 59 (x2).toNatClampNeg) * (h.1 2 (x2).toNatClampNeg)))), (2, .int (x2 + 1))] [] h Q))))) : GoI 0 mX2_boundNow 4 [(0, .ref 58), (1, .int x1), (2, .int x2)] [] h Q := by
  refine go_iload_n (pc2 := 5) dX2_boundNow_4 rfl rfl rfl ?_
  refine go_aload_n (pc2 := 6) dX2_boundNow_5 rfl rfl rfl ?_
  refine gf_283 (pc2 := 9) rfl dX2_boundNow_6 rfl c_58 (fvs r_58_0) ?_
  refine gf_99 (pc2 := 12) rfl dX2_boundNow_9 rfl c_1 fvi ?_
  refine go_icmp_ge (pc2 := 15) (tgt := 40) dX2_boundNow_12 rfl (by decide) (fun c => ?_) (fun c => ?_)
  · have k := k.1 c
    refine go_iconst (pc2 := 41) (v := (0 : Int32)) dX2_boundNow_40 rfl (by decide) ?_
    refine go_istore_n (pc2 := 42) (ls2 := [(0, .ref 58), (1, .int x1), (2, .int (0 : Int32))]) dX2_boundNow_41 rfl rfl rfl rfl rfl rfl ?_
    exact k
  · have k := k.2 c
    refine go_iload_n (pc2 := 16) dX2_boundNow_15 rfl rfl rfl ?_
    refine go_aload_n (pc2 := 17) dX2_boundNow_16 rfl rfl rfl ?_
    refine gf_284 (pc2 := 20) rfl dX2_boundNow_17 rfl c_58 (fvs r_58_1) ?_
    refine go_iload_n (pc2 := 21) dX2_boundNow_20 rfl rfl rfl ?_
    obtain ⟨y1, k⟩ := k
    refine go_iaload (pc2 := 22) (j := (x2).toNatClampNeg) dX2_boundNow_21 rfl c_59 y1 rfl ?_
    refine go_aload_n (pc2 := 23) dX2_boundNow_22 rfl rfl rfl ?_
    refine gf_283 (pc2 := 26) rfl dX2_boundNow_23 rfl c_58 (fvs r_58_0) ?_
    refine gf_105 (pc2 := 29) rfl dX2_boundNow_26 rfl c_1 (fvs r_1_1) ?_
    refine go_iload_n (pc2 := 30) dX2_boundNow_29 rfl rfl rfl ?_
    obtain ⟨y2, k⟩ := k
    refine go_iaload (pc2 := 31) (j := (x2).toNatClampNeg) dX2_boundNow_30 rfl c_2 y2 rfl ?_
    refine go_imul (pc2 := 32) dX2_boundNow_31 rfl ?_
    refine go_iadd (pc2 := 33) dX2_boundNow_32 rfl ?_
    refine go_istore_n (pc2 := 34) (ls2 := [(0, .ref 58), (1, .int (x1 + ((h.1 59 (x2).toNatClampNeg) * (h.1 2 (x2).toNatClampNeg)))), (2, .int x2)]) dX2_boundNow_33 rfl rfl rfl rfl rfl rfl ?_
    refine go_iinc (pc2 := 37) (ls2 := [(0, .ref 58), (1, .int (x1 + ((h.1 59 (x2).toNatClampNeg) * (h.1 2 (x2).toNatClampNeg)))), (2, .int (x2 + 1))]) (v := (x2 + 1)) dX2_boundNow_34 rfl rfl rfl rfl rfl rfl rfl ?_
    refine go_goto (tgt := 4) dX2_boundNow_37 (by decide) ?_
    exact k
theorem b_X2_boundNow_42 {x1 : Int32} {x2 : Int32} {h : Hp} {Q : Int32 → Hp → Prop}  (k : (((h.1 1 5) ≤ x2 → Q x1 h) ∧ (¬ ((h.1 1 5) ≤ x2) → (vp_in x2 3 ∧ GoI 0 mX2_boundNow 42 [(0, .ref 58), (1, .int (x1 + (h.1 62 (x2).toNatClampNeg))), (2, .int (x2 + 1))] [] h Q)))) : GoI 0 mX2_boundNow 42 [(0, .ref 58), (1, .int x1), (2, .int x2)] [] h Q := by
  refine go_iload_n (pc2 := 43) dX2_boundNow_42 rfl rfl rfl ?_
  refine go_aload_n (pc2 := 44) dX2_boundNow_43 rfl rfl rfl ?_
  refine gf_283 (pc2 := 47) rfl dX2_boundNow_44 rfl c_58 (fvs r_58_0) ?_
  refine gf_125 (pc2 := 50) rfl dX2_boundNow_47 rfl c_1 fvi ?_
  refine go_icmp_ge (pc2 := 53) (tgt := 68) dX2_boundNow_50 rfl (by decide) (fun c => ?_) (fun c => ?_)
  · have k := k.1 c
    refine go_iload_n (pc2 := 69) dX2_boundNow_68 rfl rfl rfl ?_
    exact go_iret dX2_boundNow_69 ⟨_, rfl, rfl⟩ ⟨rfl, _, rfl, k⟩
  · have k := k.2 c
    refine go_iload_n (pc2 := 54) dX2_boundNow_53 rfl rfl rfl ?_
    refine go_aload_n (pc2 := 55) dX2_boundNow_54 rfl rfl rfl ?_
    refine gf_290 (pc2 := 58) rfl dX2_boundNow_55 rfl c_58 (fvs r_58_4) ?_
    refine go_iload_n (pc2 := 59) dX2_boundNow_58 rfl rfl rfl ?_
    obtain ⟨y1, k⟩ := k
    refine go_iaload (pc2 := 60) (j := (x2).toNatClampNeg) dX2_boundNow_59 rfl c_62 y1 rfl ?_
    refine go_iadd (pc2 := 61) dX2_boundNow_60 rfl ?_
    refine go_istore_n (pc2 := 62) (ls2 := [(0, .ref 58), (1, .int (x1 + (h.1 62 (x2).toNatClampNeg))), (2, .int x2)]) dX2_boundNow_61 rfl rfl rfl rfl rfl rfl ?_
    refine go_iinc (pc2 := 65) (ls2 := [(0, .ref 58), (1, .int (x1 + (h.1 62 (x2).toNatClampNeg))), (2, .int (x2 + 1))]) (v := (x2 + 1)) dX2_boundNow_62 rfl rfl rfl rfl rfl rfl rfl ?_
    refine go_goto (tgt := 42) dX2_boundNow_65 (by decide) ?_
    exact k
theorem e_X2_run {x1 : Int32} {h : Hp} {Q : Int32 → Hp → Prop}  (k : (∃ Q1, CtV 1 mX2_begin [.ref 58] h Q1 ∧ ∀ h4 : Hp, Q1 h4 → (∃ Q6, CtV 4 mX2_ask [.ref 58] h4 Q6 ∧ ∀ h9 : Hp, Q6 h9 → (∃ Q11, CtI 0 mX2_boundNow [.ref 58] h9 Q11 ∧ ∀ (v13 : Int32) (h14 : Hp), Q11 v13 h14 → GoI 5 mX2_run 15 [(0, .ref 58), (1, .int x1), (2, .int v13), (3, .int (1 : Int32))] [] h14 Q)))) : CtI 5 mX2_run [.ref 58, .int x1] h Q := by
  refine Ct.of (by decide +kernel) (Nat.le_of_ble_eq_true rfl) ?_
  show GoI 5 mX2_run 0 [(0, .ref 58), (1, .int x1)] [] h Q
  refine go_aload_n (pc2 := 1) dX2_run_0 rfl rfl rfl ?_
  obtain ⟨Q1, hC2, k⟩ := k
  refine gcV_V (pc2 := 4) (dC := 1) (As := []) (st := []) rfl dX2_run_1 rfl w_902 ok_X2_begin vi_X2_begin c_58 (by decide) rfl rfl rfl (by decide) (Nat.le_of_ble_eq_true rfl) hC2 (fun h4 hq5 => ?_)
  have k := k h4 hq5
  refine go_aload_n (pc2 := 5) dX2_run_4 rfl rfl rfl ?_
  obtain ⟨Q6, hC7, k⟩ := k
  refine gcV_V (pc2 := 8) (dC := 4) (As := []) (st := []) rfl dX2_run_5 rfl w_903 ok_X2_ask vi_X2_ask c_58 (by decide) rfl rfl rfl (by decide) (Nat.le_of_ble_eq_true rfl) hC7 (fun h9 hq10 => ?_)
  have k := k h9 hq10
  refine go_aload_n (pc2 := 9) dX2_run_8 rfl rfl rfl ?_
  obtain ⟨Q11, hC12, k⟩ := k
  refine gcV_I (pc2 := 12) (dC := 0) (As := []) (st := []) rfl dX2_run_9 rfl w_904 ok_X2_boundNow vi_X2_boundNow c_58 (by decide) rfl rfl rfl (by decide) (Nat.le_of_ble_eq_true rfl) hC12 (fun v13 h14 hq15 => ?_)
  have k := k v13 h14 hq15
  refine go_istore_n (pc2 := 13) (ls2 := [(0, .ref 58), (1, .int x1), (2, .int v13)]) dX2_run_12 rfl rfl rfl rfl rfl rfl ?_
  refine go_iconst (pc2 := 14) (v := (1 : Int32)) dX2_run_13 rfl (by decide) ?_
  refine go_istore_n (pc2 := 15) (ls2 := [(0, .ref 58), (1, .int x1), (2, .int v13), (3, .int (1 : Int32))]) dX2_run_14 rfl rfl rfl rfl rfl rfl ?_
  exact k
theorem b_X2_run_15 {x1 : Int32} {x2 : Int32} {x3 : Int32} {h : Hp} {Q : Int32 → Hp → Prop}  (k : ((x1 < x3 → Q x2 h) ∧ (¬ (x1 < x3) → GoI 5 mX2_run 23 [(0, .ref 58), (1, .int x1), (2, .int x2), (3, .int x3), (4, .int (0 : Int32))] [] h Q))) : GoI 5 mX2_run 15 [(0, .ref 58), (1, .int x1), (2, .int x2), (3, .int x3)] [] h Q := by
  refine go_iload_n (pc2 := 16) dX2_run_15 rfl rfl rfl ?_
  refine go_iload_n (pc2 := 17) dX2_run_16 rfl rfl rfl ?_
  refine go_icmp_gt (pc2 := 20) (tgt := 116) dX2_run_17 rfl (by decide) (fun c => ?_) (fun c => ?_)
  · have k := k.1 c
    refine go_iload_n (pc2 := 117) dX2_run_116 rfl rfl rfl ?_
    exact go_iret dX2_run_117 ⟨_, rfl, rfl⟩ ⟨rfl, _, rfl, k⟩
  · have k := k.2 c
    refine go_iconst (pc2 := 21) (v := (0 : Int32)) dX2_run_20 rfl (by decide) ?_
    refine go_istore (pc2 := 23) (ls2 := [(0, .ref 58), (1, .int x1), (2, .int x2), (3, .int x3), (4, .int (0 : Int32))]) dX2_run_21 rfl rfl rfl rfl rfl ?_
    exact k
theorem b_X2_run_23 {x1 : Int32} {x2 : Int32} {x3 : Int32} {x4 : Int32} {h : Hp} {Q : Int32 → Hp → Prop}  (k : (((h.1 1 0) ≤ x4 → (∃ Q1, CtV 4 mX2_ask [.ref 58] h Q1 ∧ ∀ h4 : Hp, Q1 h4 → (∃ Q6, CtI 0 mX2_boundNow [.ref 58] h4 Q6 ∧ ∀ (v8 : Int32) (h9 : Hp), Q6 v8 h9 → (∃ Q11, CtI 0 mJ9_max_7cf53 [.int x2, .int v8] h9 Q11 ∧ ∀ (v13 : Int32) (h14 : Hp), Q11 v13 h14 → GoI 5 mX2_run 15 [(0, .ref 58), (1, .int x1), (2, .int v13), (3, .int (x3 + 1))] [] h14 Q)))) ∧ (¬ ((h.1 1 0) ≤ x4) → (vp_in x4 5 ∧ (vp_in x4 5 ∧ (¬ x3 = 0 ∧ (vp_in x4 5 ∧ (∃ Q20, CtI 0 mJ9_min_7cf53 [.int (99 : Int32), .int ((h.1 59 (x4).toNatClampNeg) + ((((h.1 2 (x4).toNatClampNeg) - (h.1 60 (x4).toNatClampNeg)) * (h.1 1 7)) / x3))] h Q20 ∧ ∀ (v22 : Int32) (h23 : Hp), Q20 v22 h23 → (∃ Q25, CtI 0 mJ9_max_7cf53 [.int (0 : Int32), .int v22] h23 Q25 ∧ ∀ (v27 : Int32) (h28 : Hp), Q25 v27 h28 → (vp_in x4 5 ∧ (∀ g31 : Hp, g31 = (ui h28 59 (x4).toNatClampNeg v27) → GoI 5 mX2_run 23 [(0, .ref 58), (1, .int x1), (2, .int x2), (3, .int x3), (4, .int (x4 + 1))] [] g31 Q))))))))))) : GoI 5 mX2_run 23 [(0, .ref 58), (1, .int x1), (2, .int x2), (3, .int x3), (4, .int x4)] [] h Q := by
  refine go_iload (pc2 := 25) dX2_run_23 rfl rfl ?_
  refine go_aload_n (pc2 := 26) dX2_run_25 rfl rfl rfl ?_
  refine gf_283 (pc2 := 29) rfl dX2_run_26 rfl c_58 (fvs r_58_0) ?_
  refine gf_99 (pc2 := 32) rfl dX2_run_29 rfl c_1 fvi ?_
  refine go_icmp_ge (pc2 := 35) (tgt := 97) dX2_run_32 rfl (by decide) (fun c => ?_) (fun c => ?_)
  · have k := k.1 c
    refine go_aload_n (pc2 := 98) dX2_run_97 rfl rfl rfl ?_
    obtain ⟨Q1, hC2, k⟩ := k
    refine gcV_V (pc2 := 101) (dC := 4) (As := []) (st := []) rfl dX2_run_98 rfl w_903 ok_X2_ask vi_X2_ask c_58 (by decide) rfl rfl rfl (by decide) (Nat.le_of_ble_eq_true rfl) hC2 (fun h4 hq5 => ?_)
    have k := k h4 hq5
    refine go_iload_n (pc2 := 102) dX2_run_101 rfl rfl rfl ?_
    refine go_aload_n (pc2 := 103) dX2_run_102 rfl rfl rfl ?_
    obtain ⟨Q6, hC7, k⟩ := k
    refine gcV_I (pc2 := 106) (dC := 0) (As := []) (st := [.int x2]) rfl dX2_run_103 rfl w_904 ok_X2_boundNow vi_X2_boundNow c_58 (by decide) rfl rfl rfl (by decide) (Nat.le_of_ble_eq_true rfl) hC7 (fun v8 h9 hq10 => ?_)
    have k := k v8 h9 hq10
    obtain ⟨Q11, hC12, k⟩ := k
    refine gcS_I (pc2 := 109) (dC := 0) (As := [.int x2, .int v8]) (st := []) rfl dX2_run_106 rfl w_909 ok_J9_max_7cf53 w_666 rfl (by decide) (Nat.le_of_ble_eq_true rfl) hC12 (fun v13 h14 hq15 => ?_)
    have k := k v13 h14 hq15
    refine go_istore_n (pc2 := 110) (ls2 := [(0, .ref 58), (1, .int x1), (2, .int v13), (3, .int x3), (4, .int x4)]) dX2_run_109 rfl rfl rfl rfl rfl rfl ?_
    refine go_iinc (pc2 := 113) (ls2 := [(0, .ref 58), (1, .int x1), (2, .int v13), (3, .int (x3 + 1)), (4, .int x4)]) (v := (x3 + 1)) dX2_run_110 rfl rfl rfl rfl rfl rfl rfl ?_
    refine go_goto (tgt := 15) dX2_run_113 (by decide) ?_
    exact Go.pick [0, 1, 2, 3] rfl k
  · have k := k.2 c
    refine go_aload_n (pc2 := 36) dX2_run_35 rfl rfl rfl ?_
    refine gf_283 (pc2 := 39) rfl dX2_run_36 rfl c_58 (fvs r_58_0) ?_
    refine gf_105 (pc2 := 42) rfl dX2_run_39 rfl c_1 (fvs r_1_1) ?_
    refine go_iload (pc2 := 44) dX2_run_42 rfl rfl ?_
    obtain ⟨y16, k⟩ := k
    refine go_iaload (pc2 := 45) (j := (x4).toNatClampNeg) dX2_run_44 rfl c_2 y16 rfl ?_
    refine go_aload_n (pc2 := 46) dX2_run_45 rfl rfl rfl ?_
    refine gf_286 (pc2 := 49) rfl dX2_run_46 rfl c_58 (fvs r_58_2) ?_
    refine go_iload (pc2 := 51) dX2_run_49 rfl rfl ?_
    obtain ⟨y17, k⟩ := k
    refine go_iaload (pc2 := 52) (j := (x4).toNatClampNeg) dX2_run_51 rfl c_60 y17 rfl ?_
    refine go_isub (pc2 := 53) dX2_run_52 rfl ?_
    refine go_aload_n (pc2 := 54) dX2_run_53 rfl rfl rfl ?_
    refine gf_283 (pc2 := 57) rfl dX2_run_54 rfl c_58 (fvs r_58_0) ?_
    refine gf_131 (pc2 := 60) rfl dX2_run_57 rfl c_1 fvi ?_
    refine go_imul (pc2 := 61) dX2_run_60 rfl ?_
    refine go_iload_n (pc2 := 62) dX2_run_61 rfl rfl rfl ?_
    obtain ⟨y18, k⟩ := k
    refine go_idiv (pc2 := 63) dX2_run_62 rfl y18 ?_
    refine go_istore (pc2 := 65) (ls2 := [(0, .ref 58), (1, .int x1), (2, .int x2), (3, .int x3), (4, .int x4), (5, .int ((((h.1 2 (x4).toNatClampNeg) - (h.1 60 (x4).toNatClampNeg)) * (h.1 1 7)) / x3))]) dX2_run_63 rfl rfl rfl rfl rfl ?_
    refine go_aload_n (pc2 := 66) dX2_run_65 rfl rfl rfl ?_
    refine gf_284 (pc2 := 69) rfl dX2_run_66 rfl c_58 (fvs r_58_1) ?_
    refine go_iload (pc2 := 71) dX2_run_69 rfl rfl ?_
    refine go_iconst (pc2 := 72) (v := (0 : Int32)) dX2_run_71 rfl (by decide) ?_
    refine go_bipush (pc2 := 74) (v := (99 : Int32)) dX2_run_72 rfl (by decide) ?_
    refine go_aload_n (pc2 := 75) dX2_run_74 rfl rfl rfl ?_
    refine gf_284 (pc2 := 78) rfl dX2_run_75 rfl c_58 (fvs r_58_1) ?_
    refine go_iload (pc2 := 80) dX2_run_78 rfl rfl ?_
    obtain ⟨y19, k⟩ := k
    refine go_iaload (pc2 := 81) (j := (x4).toNatClampNeg) dX2_run_80 rfl c_59 y19 rfl ?_
    refine go_iload (pc2 := 83) dX2_run_81 rfl rfl ?_
    refine go_iadd (pc2 := 84) dX2_run_83 rfl ?_
    obtain ⟨Q20, hC21, k⟩ := k
    refine gcS_I (pc2 := 87) (dC := 0) (As := [.int (99 : Int32), .int ((h.1 59 (x4).toNatClampNeg) + ((((h.1 2 (x4).toNatClampNeg) - (h.1 60 (x4).toNatClampNeg)) * (h.1 1 7)) / x3))]) (st := [.int (0 : Int32), .int x4, .ref 59]) rfl dX2_run_84 rfl w_908 ok_J9_min_7cf53 w_640 rfl (by decide) (Nat.le_of_ble_eq_true rfl) hC21 (fun v22 h23 hq24 => ?_)
    have k := k v22 h23 hq24
    obtain ⟨Q25, hC26, k⟩ := k
    refine gcS_I (pc2 := 90) (dC := 0) (As := [.int (0 : Int32), .int v22]) (st := [.int x4, .ref 59]) rfl dX2_run_87 rfl w_909 ok_J9_max_7cf53 w_666 rfl (by decide) (Nat.le_of_ble_eq_true rfl) hC26 (fun v27 h28 hq29 => ?_)
    have k := k v27 h28 hq29
    obtain ⟨y30, k⟩ := k
    refine go_iastore (pc2 := 91) (j := (x4).toNatClampNeg) dX2_run_90 rfl c_59 y30 rfl ?_
    obtain ⟨g31, eg31⟩ : ∃ y : Hp, y = (ui h28 59 (x4).toNatClampNeg v27) := ⟨_, rfl⟩
    rw [← eg31]
    have k := k g31 eg31
    refine go_iinc (pc2 := 94) (ls2 := [(0, .ref 58), (1, .int x1), (2, .int x2), (3, .int x3), (4, .int (x4 + 1)), (5, .int ((((h.1 2 (x4).toNatClampNeg) - (h.1 60 (x4).toNatClampNeg)) * (h.1 1 7)) / x3))]) (v := (x4 + 1)) dX2_run_91 rfl rfl rfl rfl rfl rfl rfl ?_
    refine go_goto (tgt := 23) dX2_run_94 (by decide) ?_
    exact Go.pick [0, 1, 2, 3, 4] rfl k
theorem e_X3_begin {x0 : Nat} {x1 : Int32} {x2 : Int32} {h : Hp} {Q : Hp → Prop} (hx0 : isPl x0) (k : (∀ g1 : Hp, g1 = (ui h x0 0 x1) → (∀ g2 : Hp, g2 = (ui g1 x0 1 x2) → (∀ g3 : Hp, g3 = (ui g2 x0 2 (0 : Int32)) → (∀ g4 : Hp, g4 = (ui g3 x0 3 (10 : Int32)) → (∀ g5 : Hp, g5 = (ui g4 x0 4 (1 : Int32)) → (∀ g6 : Hp, g6 = (ui g5 x0 5 (0 : Int32)) → (∀ g7 : Hp, g7 = (ui g6 x0 6 (0 : Int32)) → (∀ g8 : Hp, g8 = (ui g7 x0 7 (1 : Int32)) → (∀ g9 : Hp, g9 = (ui g8 x0 8 (1 : Int32)) → (∀ g10 : Hp, g10 = (ui g9 x0 9 (-1 : Int32)) → Q g10))))))))))) : CtV 0 mX3_begin [.ref x0, .int x1, .int x2] h Q := by
  refine Ct.of (by decide +kernel) (Nat.le_of_ble_eq_true rfl) ?_
  show GoV 0 mX3_begin 0 [(0, .ref x0), (1, .int x1), (2, .int x2)] [] h Q
  refine go_aload_n (pc2 := 1) dX3_begin_0 rfl rfl rfl ?_
  refine go_iload_n (pc2 := 2) dX3_begin_1 rfl rfl rfl ?_
  refine pf_44 (pc2 := 5) rfl dX3_begin_2 rfl hx0 ?_
  obtain ⟨g1, eg1⟩ : ∃ y : Hp, y = (ui h x0 0 x1) := ⟨_, rfl⟩
  rw [← eg1]
  have k := k g1 eg1
  refine go_aload_n (pc2 := 6) dX3_begin_5 rfl rfl rfl ?_
  refine go_iload_n (pc2 := 7) dX3_begin_6 rfl rfl rfl ?_
  refine pf_46 (pc2 := 10) rfl dX3_begin_7 rfl hx0 ?_
  obtain ⟨g2, eg2⟩ : ∃ y : Hp, y = (ui g1 x0 1 x2) := ⟨_, rfl⟩
  rw [← eg2]
  have k := k g2 eg2
  refine go_aload_n (pc2 := 11) dX3_begin_10 rfl rfl rfl ?_
  refine go_iconst (pc2 := 12) (v := (0 : Int32)) dX3_begin_11 rfl (by decide) ?_
  refine pf_48 (pc2 := 15) rfl dX3_begin_12 rfl hx0 ?_
  obtain ⟨g3, eg3⟩ : ∃ y : Hp, y = (ui g2 x0 2 (0 : Int32)) := ⟨_, rfl⟩
  rw [← eg3]
  have k := k g3 eg3
  refine go_aload_n (pc2 := 16) dX3_begin_15 rfl rfl rfl ?_
  refine go_bipush (pc2 := 18) (v := (10 : Int32)) dX3_begin_16 rfl (by decide) ?_
  refine pf_50 (pc2 := 21) rfl dX3_begin_18 rfl hx0 ?_
  obtain ⟨g4, eg4⟩ : ∃ y : Hp, y = (ui g3 x0 3 (10 : Int32)) := ⟨_, rfl⟩
  rw [← eg4]
  have k := k g4 eg4
  refine go_aload_n (pc2 := 22) dX3_begin_21 rfl rfl rfl ?_
  refine go_iconst (pc2 := 23) (v := (1 : Int32)) dX3_begin_22 rfl (by decide) ?_
  refine pf_53 (pc2 := 26) rfl dX3_begin_23 rfl hx0 ?_
  obtain ⟨g5, eg5⟩ : ∃ y : Hp, y = (ui g4 x0 4 (1 : Int32)) := ⟨_, rfl⟩
  rw [← eg5]
  have k := k g5 eg5
  refine go_aload_n (pc2 := 27) dX3_begin_26 rfl rfl rfl ?_
  refine go_iconst (pc2 := 28) (v := (0 : Int32)) dX3_begin_27 rfl (by decide) ?_
  refine pf_57 (pc2 := 31) rfl dX3_begin_28 rfl hx0 ?_
  obtain ⟨g6, eg6⟩ : ∃ y : Hp, y = (ui g5 x0 5 (0 : Int32)) := ⟨_, rfl⟩
  rw [← eg6]
  have k := k g6 eg6
  refine go_aload_n (pc2 := 32) dX3_begin_31 rfl rfl rfl ?_
  refine go_iconst (pc2 := 33) (v := (0 : Int32)) dX3_begin_32 rfl (by decide) ?_
  refine pf_61 (pc2 := 36) rfl dX3_begin_33 rfl hx0 ?_
  obtain ⟨g7, eg7⟩ : ∃ y : Hp, y = (ui g6 x0 6 (0 : Int32)) := ⟨_, rfl⟩
  rw [← eg7]
  have k := k g7 eg7
  refine go_aload_n (pc2 := 37) dX3_begin_36 rfl rfl rfl ?_
  refine go_iconst (pc2 := 38) (v := (1 : Int32)) dX3_begin_37 rfl (by decide) ?_
  refine pf_64 (pc2 := 41) rfl dX3_begin_38 rfl hx0 ?_
  obtain ⟨g8, eg8⟩ : ∃ y : Hp, y = (ui g7 x0 7 (1 : Int32)) := ⟨_, rfl⟩
  rw [← eg8]
  have k := k g8 eg8
  refine go_aload_n (pc2 := 42) dX3_begin_41 rfl rfl rfl ?_
  refine go_iconst (pc2 := 43) (v := (1 : Int32)) dX3_begin_42 rfl (by decide) ?_
  refine pf_67 (pc2 := 46) rfl dX3_begin_43 rfl hx0 ?_
  obtain ⟨g9, eg9⟩ : ∃ y : Hp, y = (ui g8 x0 8 (1 : Int32)) := ⟨_, rfl⟩
  rw [← eg9]
  have k := k g9 eg9
  refine go_aload_n (pc2 := 47) dX3_begin_46 rfl rfl rfl ?_
  refine go_iconst (pc2 := 48) (v := (-1 : Int32)) dX3_begin_47 rfl (by decide) ?_
  refine pf_71 (pc2 := 51) rfl dX3_begin_48 rfl hx0 ?_
  obtain ⟨g10, eg10⟩ : ∃ y : Hp, y = (ui g9 x0 9 (-1 : Int32)) := ⟨_, rfl⟩
  rw [← eg10]
  have k := k g10 eg10
  exact go_ret dX3_begin_51 rfl ⟨rfl, rfl, k⟩
theorem e_X3_copyFrom {x0 : Nat} {x1 : Nat} {h : Hp} {Q : Hp → Prop} (hx0 : isPl x0) (hx1 : isPl x1) (k : (∀ g1 : Hp, g1 = (ui h x0 0 (h.1 x1 0)) → (∀ g2 : Hp, g2 = (ui g1 x0 1 (g1.1 x1 1)) → (∀ g3 : Hp, g3 = (ui g2 x0 2 (g2.1 x1 2)) → (∀ g4 : Hp, g4 = (ui g3 x0 3 (g3.1 x1 3)) → (∀ g5 : Hp, g5 = (ui g4 x0 4 (g4.1 x1 4)) → (∀ g6 : Hp, g6 = (ui g5 x0 5 (g5.1 x1 5)) → (∀ g7 : Hp, g7 = (ui g6 x0 6 (g6.1 x1 6)) → (∀ g8 : Hp, g8 = (ui g7 x0 7 (g7.1 x1 7)) → (∀ g9 : Hp, g9 = (ui g8 x0 8 (g8.1 x1 8)) → (∀ g10 : Hp, g10 = (ui g9 x0 9 (g9.1 x1 9)) → Q g10))))))))))) : CtV 0 mX3_copyFrom [.ref x0, .ref x1] h Q := by
  refine Ct.of (by decide +kernel) (Nat.le_of_ble_eq_true rfl) ?_
  show GoV 0 mX3_copyFrom 0 [(0, .ref x0), (1, .ref x1)] [] h Q
  refine go_aload_n (pc2 := 1) dX3_copyFrom_0 rfl rfl rfl ?_
  refine go_aload_n (pc2 := 2) dX3_copyFrom_1 rfl rfl rfl ?_
  refine gf_44 (pc2 := 5) rfl dX3_copyFrom_2 rfl hx1 fvi ?_
  refine pf_44 (pc2 := 8) rfl dX3_copyFrom_5 rfl hx0 ?_
  obtain ⟨g1, eg1⟩ : ∃ y : Hp, y = (ui h x0 0 (h.1 x1 0)) := ⟨_, rfl⟩
  rw [← eg1]
  have k := k g1 eg1
  refine go_aload_n (pc2 := 9) dX3_copyFrom_8 rfl rfl rfl ?_
  refine go_aload_n (pc2 := 10) dX3_copyFrom_9 rfl rfl rfl ?_
  refine gf_46 (pc2 := 13) rfl dX3_copyFrom_10 rfl hx1 fvi ?_
  refine pf_46 (pc2 := 16) rfl dX3_copyFrom_13 rfl hx0 ?_
  obtain ⟨g2, eg2⟩ : ∃ y : Hp, y = (ui g1 x0 1 (g1.1 x1 1)) := ⟨_, rfl⟩
  rw [← eg2]
  have k := k g2 eg2
  refine go_aload_n (pc2 := 17) dX3_copyFrom_16 rfl rfl rfl ?_
  refine go_aload_n (pc2 := 18) dX3_copyFrom_17 rfl rfl rfl ?_
  refine gf_48 (pc2 := 21) rfl dX3_copyFrom_18 rfl hx1 fvi ?_
  refine pf_48 (pc2 := 24) rfl dX3_copyFrom_21 rfl hx0 ?_
  obtain ⟨g3, eg3⟩ : ∃ y : Hp, y = (ui g2 x0 2 (g2.1 x1 2)) := ⟨_, rfl⟩
  rw [← eg3]
  have k := k g3 eg3
  refine go_aload_n (pc2 := 25) dX3_copyFrom_24 rfl rfl rfl ?_
  refine go_aload_n (pc2 := 26) dX3_copyFrom_25 rfl rfl rfl ?_
  refine gf_50 (pc2 := 29) rfl dX3_copyFrom_26 rfl hx1 fvi ?_
  refine pf_50 (pc2 := 32) rfl dX3_copyFrom_29 rfl hx0 ?_
  obtain ⟨g4, eg4⟩ : ∃ y : Hp, y = (ui g3 x0 3 (g3.1 x1 3)) := ⟨_, rfl⟩
  rw [← eg4]
  have k := k g4 eg4
  refine go_aload_n (pc2 := 33) dX3_copyFrom_32 rfl rfl rfl ?_
  refine go_aload_n (pc2 := 34) dX3_copyFrom_33 rfl rfl rfl ?_
  refine gf_53 (pc2 := 37) rfl dX3_copyFrom_34 rfl hx1 fvi ?_
  refine pf_53 (pc2 := 40) rfl dX3_copyFrom_37 rfl hx0 ?_
  obtain ⟨g5, eg5⟩ : ∃ y : Hp, y = (ui g4 x0 4 (g4.1 x1 4)) := ⟨_, rfl⟩
  rw [← eg5]
  have k := k g5 eg5
  refine go_aload_n (pc2 := 41) dX3_copyFrom_40 rfl rfl rfl ?_
  refine go_aload_n (pc2 := 42) dX3_copyFrom_41 rfl rfl rfl ?_
  refine gf_57 (pc2 := 45) rfl dX3_copyFrom_42 rfl hx1 fvi ?_
  refine pf_57 (pc2 := 48) rfl dX3_copyFrom_45 rfl hx0 ?_
  obtain ⟨g6, eg6⟩ : ∃ y : Hp, y = (ui g5 x0 5 (g5.1 x1 5)) := ⟨_, rfl⟩
  rw [← eg6]
  have k := k g6 eg6
  refine go_aload_n (pc2 := 49) dX3_copyFrom_48 rfl rfl rfl ?_
  refine go_aload_n (pc2 := 50) dX3_copyFrom_49 rfl rfl rfl ?_
  refine gf_61 (pc2 := 53) rfl dX3_copyFrom_50 rfl hx1 fvi ?_
  refine pf_61 (pc2 := 56) rfl dX3_copyFrom_53 rfl hx0 ?_
  obtain ⟨g7, eg7⟩ : ∃ y : Hp, y = (ui g6 x0 6 (g6.1 x1 6)) := ⟨_, rfl⟩
  rw [← eg7]
  have k := k g7 eg7
  refine go_aload_n (pc2 := 57) dX3_copyFrom_56 rfl rfl rfl ?_
  refine go_aload_n (pc2 := 58) dX3_copyFrom_57 rfl rfl rfl ?_
  refine gf_64 (pc2 := 61) rfl dX3_copyFrom_58 rfl hx1 fvi ?_
  refine pf_64 (pc2 := 64) rfl dX3_copyFrom_61 rfl hx0 ?_
  obtain ⟨g8, eg8⟩ : ∃ y : Hp, y = (ui g7 x0 7 (g7.1 x1 7)) := ⟨_, rfl⟩
  rw [← eg8]
  have k := k g8 eg8
  refine go_aload_n (pc2 := 65) dX3_copyFrom_64 rfl rfl rfl ?_
  refine go_aload_n (pc2 := 66) dX3_copyFrom_65 rfl rfl rfl ?_
  refine gf_67 (pc2 := 69) rfl dX3_copyFrom_66 rfl hx1 fvi ?_
  refine pf_67 (pc2 := 72) rfl dX3_copyFrom_69 rfl hx0 ?_
  obtain ⟨g9, eg9⟩ : ∃ y : Hp, y = (ui g8 x0 8 (g8.1 x1 8)) := ⟨_, rfl⟩
  rw [← eg9]
  have k := k g9 eg9
  refine go_aload_n (pc2 := 73) dX3_copyFrom_72 rfl rfl rfl ?_
  refine go_aload_n (pc2 := 74) dX3_copyFrom_73 rfl rfl rfl ?_
  refine gf_71 (pc2 := 77) rfl dX3_copyFrom_74 rfl hx1 fvi ?_
  refine pf_71 (pc2 := 80) rfl dX3_copyFrom_77 rfl hx0 ?_
  obtain ⟨g10, eg10⟩ : ∃ y : Hp, y = (ui g9 x0 9 (g9.1 x1 9)) := ⟨_, rfl⟩
  rw [← eg10]
  have k := k g10 eg10
  exact go_ret dX3_copyFrom_80 rfl ⟨rfl, rfl, k⟩
theorem e_X3_figureOf {x0 : Nat} {x1 : Int32} {h : Hp} {Q : Int32 → Hp → Prop} (hx0 : isPl x0) (k : ((x1 = (0 : Int32) → Q (h.1 x0 0) h) ∧ (¬ x1 = (0 : Int32) → ((x1 = (1 : Int32) → Q (h.1 x0 1) h) ∧ (¬ x1 = (1 : Int32) → ((x1 = (2 : Int32) → Q (h.1 x0 2) h) ∧ (¬ x1 = (2 : Int32) → ((x1 = (3 : Int32) → Q (h.1 x0 3) h) ∧ (¬ x1 = (3 : Int32) → ((x1 = (4 : Int32) → Q (h.1 x0 4) h) ∧ (¬ x1 = (4 : Int32) → ((x1 = (5 : Int32) → Q (h.1 x0 5) h) ∧ (¬ x1 = (5 : Int32) → ((x1 = (6 : Int32) → Q (h.1 x0 6) h) ∧ (¬ x1 = (6 : Int32) → ((x1 = (7 : Int32) → Q (h.1 x0 7) h) ∧ (¬ x1 = (7 : Int32) → ((x1 = (8 : Int32) → Q (h.1 x0 8) h) ∧ (¬ x1 = (8 : Int32) → ((x1 = (9 : Int32) → Q ((h.1 x0 9) + (10 : Int32)) h) ∧ (¬ x1 = (9 : Int32) → ((x1 = (10 : Int32) → (∃ Q6, CtI 0 mX3_least [.ref x0] h Q6 ∧ ∀ (v8 : Int32) (h9 : Hp), Q6 v8 h9 → Q v8 h9)) ∧ (¬ x1 = (10 : Int32) → (∃ Q1, CtI 1 mX3_most [.ref x0, .int (1 : Int32)] h Q1 ∧ ∀ (v3 : Int32) (h4 : Hp), Q1 v3 h4 → Q v3 h4)))))))))))))))))))))))) : CtI 2 mX3_figureOf [.ref x0, .int x1] h Q := by
  refine Ct.of (by decide +kernel) (Nat.le_of_ble_eq_true rfl) ?_
  show GoI 2 mX3_figureOf 0 [(0, .ref x0), (1, .int x1)] [] h Q
  refine go_iload_n (pc2 := 1) dX3_figureOf_0 rfl rfl rfl ?_
  by_cases cs0 : x1 = (0 : Int32)
  · have k := k.1 cs0
    refine go_tsEq (tgt := 60) dX3_figureOf_1 cs0 (by decide) (by decide) rfl (by decide) ?_
    refine go_aload_n (pc2 := 61) dX3_figureOf_60 rfl rfl rfl ?_
    refine gf_44 (pc2 := 64) rfl dX3_figureOf_61 rfl hx0 fvi ?_
    exact go_iret dX3_figureOf_64 ⟨_, rfl, rfl⟩ ⟨rfl, _, rfl, k⟩
  have k := k.2 cs0
  by_cases cs1 : x1 = (1 : Int32)
  · have k := k.1 cs1
    refine go_tsEq (tgt := 65) dX3_figureOf_1 cs1 (by decide) (by decide) rfl (by decide) ?_
    refine go_aload_n (pc2 := 66) dX3_figureOf_65 rfl rfl rfl ?_
    refine gf_46 (pc2 := 69) rfl dX3_figureOf_66 rfl hx0 fvi ?_
    exact go_iret dX3_figureOf_69 ⟨_, rfl, rfl⟩ ⟨rfl, _, rfl, k⟩
  have k := k.2 cs1
  by_cases cs2 : x1 = (2 : Int32)
  · have k := k.1 cs2
    refine go_tsEq (tgt := 70) dX3_figureOf_1 cs2 (by decide) (by decide) rfl (by decide) ?_
    refine go_aload_n (pc2 := 71) dX3_figureOf_70 rfl rfl rfl ?_
    refine gf_48 (pc2 := 74) rfl dX3_figureOf_71 rfl hx0 fvi ?_
    exact go_iret dX3_figureOf_74 ⟨_, rfl, rfl⟩ ⟨rfl, _, rfl, k⟩
  have k := k.2 cs2
  by_cases cs3 : x1 = (3 : Int32)
  · have k := k.1 cs3
    refine go_tsEq (tgt := 75) dX3_figureOf_1 cs3 (by decide) (by decide) rfl (by decide) ?_
    refine go_aload_n (pc2 := 76) dX3_figureOf_75 rfl rfl rfl ?_
    refine gf_50 (pc2 := 79) rfl dX3_figureOf_76 rfl hx0 fvi ?_
    exact go_iret dX3_figureOf_79 ⟨_, rfl, rfl⟩ ⟨rfl, _, rfl, k⟩
  have k := k.2 cs3
  by_cases cs4 : x1 = (4 : Int32)
  · have k := k.1 cs4
    refine go_tsEq (tgt := 80) dX3_figureOf_1 cs4 (by decide) (by decide) rfl (by decide) ?_
    refine go_aload_n (pc2 := 81) dX3_figureOf_80 rfl rfl rfl ?_
    refine gf_53 (pc2 := 84) rfl dX3_figureOf_81 rfl hx0 fvi ?_
    exact go_iret dX3_figureOf_84 ⟨_, rfl, rfl⟩ ⟨rfl, _, rfl, k⟩
  have k := k.2 cs4
  by_cases cs5 : x1 = (5 : Int32)
  · have k := k.1 cs5
    refine go_tsEq (tgt := 85) dX3_figureOf_1 cs5 (by decide) (by decide) rfl (by decide) ?_
    refine go_aload_n (pc2 := 86) dX3_figureOf_85 rfl rfl rfl ?_
    refine gf_57 (pc2 := 89) rfl dX3_figureOf_86 rfl hx0 fvi ?_
    exact go_iret dX3_figureOf_89 ⟨_, rfl, rfl⟩ ⟨rfl, _, rfl, k⟩
  have k := k.2 cs5
  by_cases cs6 : x1 = (6 : Int32)
  · have k := k.1 cs6
    refine go_tsEq (tgt := 90) dX3_figureOf_1 cs6 (by decide) (by decide) rfl (by decide) ?_
    refine go_aload_n (pc2 := 91) dX3_figureOf_90 rfl rfl rfl ?_
    refine gf_61 (pc2 := 94) rfl dX3_figureOf_91 rfl hx0 fvi ?_
    exact go_iret dX3_figureOf_94 ⟨_, rfl, rfl⟩ ⟨rfl, _, rfl, k⟩
  have k := k.2 cs6
  by_cases cs7 : x1 = (7 : Int32)
  · have k := k.1 cs7
    refine go_tsEq (tgt := 95) dX3_figureOf_1 cs7 (by decide) (by decide) rfl (by decide) ?_
    refine go_aload_n (pc2 := 96) dX3_figureOf_95 rfl rfl rfl ?_
    refine gf_64 (pc2 := 99) rfl dX3_figureOf_96 rfl hx0 fvi ?_
    exact go_iret dX3_figureOf_99 ⟨_, rfl, rfl⟩ ⟨rfl, _, rfl, k⟩
  have k := k.2 cs7
  by_cases cs8 : x1 = (8 : Int32)
  · have k := k.1 cs8
    refine go_tsEq (tgt := 100) dX3_figureOf_1 cs8 (by decide) (by decide) rfl (by decide) ?_
    refine go_aload_n (pc2 := 101) dX3_figureOf_100 rfl rfl rfl ?_
    refine gf_67 (pc2 := 104) rfl dX3_figureOf_101 rfl hx0 fvi ?_
    exact go_iret dX3_figureOf_104 ⟨_, rfl, rfl⟩ ⟨rfl, _, rfl, k⟩
  have k := k.2 cs8
  by_cases cs9 : x1 = (9 : Int32)
  · have k := k.1 cs9
    refine go_tsEq (tgt := 105) dX3_figureOf_1 cs9 (by decide) (by decide) rfl (by decide) ?_
    refine go_aload_n (pc2 := 106) dX3_figureOf_105 rfl rfl rfl ?_
    refine gf_71 (pc2 := 109) rfl dX3_figureOf_106 rfl hx0 fvi ?_
    refine go_bipush (pc2 := 111) (v := (10 : Int32)) dX3_figureOf_109 rfl (by decide) ?_
    refine go_iadd (pc2 := 112) dX3_figureOf_111 rfl ?_
    exact go_iret dX3_figureOf_112 ⟨_, rfl, rfl⟩ ⟨rfl, _, rfl, k⟩
  have k := k.2 cs9
  by_cases cs10 : x1 = (10 : Int32)
  · have k := k.1 cs10
    refine go_tsEq (tgt := 113) dX3_figureOf_1 cs10 (by decide) (by decide) rfl (by decide) ?_
    refine go_aload_n (pc2 := 114) dX3_figureOf_113 rfl rfl rfl ?_
    obtain ⟨Q6, hC7, k⟩ := k
    refine gcV_I (pc2 := 117) (dC := 0) (As := []) (st := []) rfl dX3_figureOf_114 rfl w_626 ok_X3_least vi_X3_least hx0 (by decide) rfl rfl rfl (by decide) (Nat.le_of_ble_eq_true rfl) hC7 (fun v8 h9 hq10 => ?_)
    have k := k v8 h9 hq10
    exact go_iret dX3_figureOf_117 ⟨_, rfl, rfl⟩ ⟨rfl, _, rfl, k⟩
  have k := k.2 cs10
  by_cases cb : x1.toInt < 0 ∨ 10 < x1.toInt
  · refine go_tsOut (tgt := 118) dX3_figureOf_1 cb (by decide) ?_
    refine go_aload_n (pc2 := 119) dX3_figureOf_118 rfl rfl rfl ?_
    refine go_iconst (pc2 := 120) (v := (1 : Int32)) dX3_figureOf_119 rfl (by decide) ?_
    obtain ⟨Q1, hC2, k⟩ := k
    refine gcV_I (pc2 := 123) (dC := 1) (As := [.int (1 : Int32)]) (st := []) rfl dX3_figureOf_120 rfl w_630 ok_X3_most vi_X3_most hx0 (by decide) rfl rfl rfl (by decide) (Nat.le_of_ble_eq_true rfl) hC2 (fun v3 h4 hq5 => ?_)
    have k := k v3 h4 hq5
    exact go_iret dX3_figureOf_123 ⟨_, rfl, rfl⟩ ⟨rfl, _, rfl, k⟩
  · exfalso
    have e0 := i32_ne cs0 (by decide : ((0 : Int32)).toInt = 0)
    have e1 := i32_ne cs1 (by decide : ((1 : Int32)).toInt = 1)
    have e2 := i32_ne cs2 (by decide : ((2 : Int32)).toInt = 2)
    have e3 := i32_ne cs3 (by decide : ((3 : Int32)).toInt = 3)
    have e4 := i32_ne cs4 (by decide : ((4 : Int32)).toInt = 4)
    have e5 := i32_ne cs5 (by decide : ((5 : Int32)).toInt = 5)
    have e6 := i32_ne cs6 (by decide : ((6 : Int32)).toInt = 6)
    have e7 := i32_ne cs7 (by decide : ((7 : Int32)).toInt = 7)
    have e8 := i32_ne cs8 (by decide : ((8 : Int32)).toInt = 8)
    have e9 := i32_ne cs9 (by decide : ((9 : Int32)).toInt = 9)
    have e10 := i32_ne cs10 (by decide : ((10 : Int32)).toInt = 10)
    omega
theorem e_X3_kindIsUnder {x0 : Int32} {x1 : Int32} {h : Hp} {Q : Int32 → Hp → Prop}  (k : GoI 0 mX3_kindIsUnder 4 [(1, .int x1), (2, .int x0), (3, .int (0 : Int32))] [] h Q) : CtI 0 mX3_kindIsUnder [.int x0, .int x1] h Q := by
  refine Ct.of (by decide +kernel) (Nat.le_of_ble_eq_true rfl) ?_
  show GoI 0 mX3_kindIsUnder 0 [(0, .int x0), (1, .int x1)] [] h Q
  refine go_iload_n (pc2 := 1) dX3_kindIsUnder_0 rfl rfl rfl ?_
  refine go_istore_n (pc2 := 2) (ls2 := [(0, .int x0), (1, .int x1), (2, .int x0)]) dX3_kindIsUnder_1 rfl rfl rfl rfl rfl rfl ?_
  refine go_iconst (pc2 := 3) (v := (0 : Int32)) dX3_kindIsUnder_2 rfl (by decide) ?_
  refine go_istore_n (pc2 := 4) (ls2 := [(0, .int x0), (1, .int x1), (2, .int x0), (3, .int (0 : Int32))]) dX3_kindIsUnder_3 rfl rfl rfl rfl rfl rfl ?_
  exact Go.pick [1, 2, 3] rfl k
theorem b_X3_kindIsUnder_4 {x1 : Int32} {x2 : Int32} {x3 : Int32} {h : Hp} {Q : Int32 → Hp → Prop}  (k : (((6 : Int32) ≤ x3 → Q (0 : Int32) h) ∧ (¬ ((6 : Int32) ≤ x3) → ((x2 < 0 → Q (0 : Int32) h) ∧ (¬ (x2 < 0) → (((6 : Int32) ≤ x2 → Q (0 : Int32) h) ∧ (¬ ((6 : Int32) ≤ x2) → ((¬ x2 = x1 → (vp_in x2 6 ∧ GoI 0 mX3_kindIsUnder 4 [(1, .int x1), (2, .int (kaf (x2).toNatClampNeg)), (3, .int (x3 + 1))] [] h Q)) ∧ (x2 = x1 → Q (1 : Int32) h))))))))) : GoI 0 mX3_kindIsUnder 4 [(1, .int x1), (2, .int x2), (3, .int x3)] [] h Q := by
  refine go_iload_n (pc2 := 5) dX3_kindIsUnder_4 rfl rfl rfl ?_
  refine go_bipush (pc2 := 7) (v := (6 : Int32)) dX3_kindIsUnder_5 rfl (by decide) ?_
  refine go_icmp_ge (pc2 := 10) (tgt := 39) dX3_kindIsUnder_7 rfl (by decide) (fun c => ?_) (fun c => ?_)
  · have k := k.1 c
    refine go_iconst (pc2 := 40) (v := (0 : Int32)) dX3_kindIsUnder_39 rfl (by decide) ?_
    exact go_iret dX3_kindIsUnder_40 ⟨_, rfl, rfl⟩ ⟨rfl, _, rfl, k⟩
  · have k := k.2 c
    refine go_iload_n (pc2 := 11) dX3_kindIsUnder_10 rfl rfl rfl ?_
    refine go_if_lt (pc2 := 14) (tgt := 39) dX3_kindIsUnder_11 rfl (by decide) (fun c => ?_) (fun c => ?_)
    · have k := k.1 c
      refine go_iconst (pc2 := 40) (v := (0 : Int32)) dX3_kindIsUnder_39 rfl (by decide) ?_
      exact go_iret dX3_kindIsUnder_40 ⟨_, rfl, rfl⟩ ⟨rfl, _, rfl, k⟩
    · have k := k.2 c
      refine go_iload_n (pc2 := 15) dX3_kindIsUnder_14 rfl rfl rfl ?_
      refine go_bipush (pc2 := 17) (v := (6 : Int32)) dX3_kindIsUnder_15 rfl (by decide) ?_
      refine go_icmp_ge (pc2 := 20) (tgt := 39) dX3_kindIsUnder_17 rfl (by decide) (fun c => ?_) (fun c => ?_)
      · have k := k.1 c
        refine go_iconst (pc2 := 40) (v := (0 : Int32)) dX3_kindIsUnder_39 rfl (by decide) ?_
        exact go_iret dX3_kindIsUnder_40 ⟨_, rfl, rfl⟩ ⟨rfl, _, rfl, k⟩
      · have k := k.2 c
        refine go_iload_n (pc2 := 21) dX3_kindIsUnder_20 rfl rfl rfl ?_
        refine go_iload_n (pc2 := 22) dX3_kindIsUnder_21 rfl rfl rfl ?_
        refine go_icmp_ne (pc2 := 25) (tgt := 27) dX3_kindIsUnder_22 rfl (by decide) (fun c => ?_) (fun c => ?_)
        · have k := k.1 c
          refine go_ka (pc2 := 30)  rfl dX3_kindIsUnder_27 rfl w_637 ?_
          refine go_iload_n (pc2 := 31) dX3_kindIsUnder_30 rfl rfl rfl ?_
          obtain ⟨y1, k⟩ := k
          refine go_kald (pc2 := 32) (j := (x2).toNatClampNeg) dX3_kindIsUnder_31 rfl y1 rfl ?_
          refine go_istore_n (pc2 := 33) (ls2 := [(1, .int x1), (2, .int (kaf (x2).toNatClampNeg)), (3, .int x3)]) dX3_kindIsUnder_32 rfl rfl rfl rfl rfl rfl ?_
          refine go_iinc (pc2 := 36) (ls2 := [(1, .int x1), (2, .int (kaf (x2).toNatClampNeg)), (3, .int (x3 + 1))]) (v := (x3 + 1)) dX3_kindIsUnder_33 rfl rfl rfl rfl rfl rfl rfl ?_
          refine go_goto (tgt := 4) dX3_kindIsUnder_36 (by decide) ?_
          exact k
        · have k := k.2 c
          refine go_iconst (pc2 := 26) (v := (1 : Int32)) dX3_kindIsUnder_25 rfl (by decide) ?_
          exact go_iret dX3_kindIsUnder_26 ⟨_, rfl, rfl⟩ ⟨rfl, _, rfl, k⟩
theorem e_X3_isUnder {x0 : Nat} {x1 : Int32} {h : Hp} {Q : Int32 → Hp → Prop} (hx0 : isPl x0) (k : (∃ Q1, CtI 0 mX3_kindIsUnder [.int (h.1 x0 0), .int x1] h Q1 ∧ ∀ (v3 : Int32) (h4 : Hp), Q1 v3 h4 → (v3 &&& 1 = v3 ∧ Q v3 h4))) : CtI 1 mX3_isUnder [.ref x0, .int x1] h Q := by
  refine Ct.of (by decide +kernel) (Nat.le_of_ble_eq_true rfl) ?_
  show GoI 1 mX3_isUnder 0 [(0, .ref x0), (1, .int x1)] [] h Q
  refine go_aload_n (pc2 := 1) dX3_isUnder_0 rfl rfl rfl ?_
  refine gf_44 (pc2 := 4) rfl dX3_isUnder_1 rfl hx0 fvi ?_
  refine go_iload_n (pc2 := 5) dX3_isUnder_4 rfl rfl rfl ?_
  obtain ⟨Q1, hC2, k⟩ := k
  refine gcS_I (pc2 := 8) (dC := 0) (As := [.int (h.1 x0 0), .int x1]) (st := []) rfl dX3_isUnder_5 rfl w_634 ok_X3_kindIsUnder w_635 rfl (by decide) (Nat.le_of_ble_eq_true rfl) hC2 (fun v3 h4 hq5 => ?_)
  have k := k v3 h4 hq5
  obtain ⟨y6, k⟩ := k
  exact go_iret dX3_isUnder_8 ⟨_, rfl, congrArg Value.int y6⟩ ⟨rfl, _, rfl, k⟩
theorem e_X3_startOf {x0 : Int32} {x1 : Int32} {x2 : Int32} {x3 : Int32} {h : Hp} {Q : Int32 → Hp → Prop}  (k : (∃ Q1, CtI 0 mX3_kindIsUnder [.int x0, .int (3 : Int32)] h Q1 ∧ ∀ (v3 : Int32) (h4 : Hp), Q1 v3 h4 → ((v3 = 0 → (∃ Q6, CtI 0 mX3_kindIsUnder [.int x0, .int (1 : Int32)] h4 Q6 ∧ ∀ (v8 : Int32) (h9 : Hp), Q6 v8 h9 → ((¬ v8 = 0 → (∃ Q11, CtI 0 mJ9_min_7cf53 [.int x3, .int (4 : Int32)] h9 Q11 ∧ ∀ (v13 : Int32) (h14 : Hp), Q11 v13 h14 → ((¬ x0 = (4 : Int32) → Q (x2 + (x1 * v13)) h14) ∧ (x0 = (4 : Int32) → ((¬ x3 = (1 : Int32) → Q (x2 + (x1 * v13)) h14) ∧ (x3 = (1 : Int32) → Q ((x2 + (x1 * v13)) / (2 : Int32)) h14)))))) ∧ (v8 = 0 → Q x2 h9)))) ∧ (¬ v3 = 0 → Q ((2 : Int32) * x2) h4)))) : CtI 1 mX3_startOf [.int x0, .int x1, .int x2, .int x3] h Q := by
  refine Ct.of (by decide +kernel) (Nat.le_of_ble_eq_true rfl) ?_
  show GoI 1 mX3_startOf 0 [(0, .int x0), (1, .int x1), (2, .int x2), (3, .int x3)] [] h Q
  refine go_iload_n (pc2 := 1) dX3_startOf_0 rfl rfl rfl ?_
  refine go_iconst (pc2 := 2) (v := (3 : Int32)) dX3_startOf_1 rfl (by decide) ?_
  obtain ⟨Q1, hC2, k⟩ := k
  refine gcS_I (pc2 := 5) (dC := 0) (As := [.int x0, .int (3 : Int32)]) (st := []) rfl dX3_startOf_2 rfl w_634 ok_X3_kindIsUnder w_635 rfl (by decide) (Nat.le_of_ble_eq_true rfl) hC2 (fun v3 h4 hq5 => ?_)
  have k := k v3 h4 hq5
  refine go_if_eq (pc2 := 8) (tgt := 12) dX3_startOf_5 rfl (by decide) (fun c => ?_) (fun c => ?_)
  · have k := k.1 c
    refine go_iload_n (pc2 := 13) dX3_startOf_12 rfl rfl rfl ?_
    refine go_iconst (pc2 := 14) (v := (1 : Int32)) dX3_startOf_13 rfl (by decide) ?_
    obtain ⟨Q6, hC7, k⟩ := k
    refine gcS_I (pc2 := 17) (dC := 0) (As := [.int x0, .int (1 : Int32)]) (st := []) rfl dX3_startOf_14 rfl w_634 ok_X3_kindIsUnder w_635 rfl (by decide) (Nat.le_of_ble_eq_true rfl) hC7 (fun v8 h9 hq10 => ?_)
    have k := k v8 h9 hq10
    refine go_if_ne (pc2 := 20) (tgt := 22) dX3_startOf_17 rfl (by decide) (fun c => ?_) (fun c => ?_)
    · have k := k.1 c
      refine go_iload_n (pc2 := 23) dX3_startOf_22 rfl rfl rfl ?_
      refine go_iload_n (pc2 := 24) dX3_startOf_23 rfl rfl rfl ?_
      refine go_iload_n (pc2 := 25) dX3_startOf_24 rfl rfl rfl ?_
      refine go_iconst (pc2 := 26) (v := (4 : Int32)) dX3_startOf_25 rfl (by decide) ?_
      obtain ⟨Q11, hC12, k⟩ := k
      refine gcS_I (pc2 := 29) (dC := 0) (As := [.int x3, .int (4 : Int32)]) (st := [.int x1, .int x2]) rfl dX3_startOf_26 rfl w_639 ok_J9_min_7cf53 w_640 rfl (by decide) (Nat.le_of_ble_eq_true rfl) hC12 (fun v13 h14 hq15 => ?_)
      have k := k v13 h14 hq15
      refine go_imul (pc2 := 30) dX3_startOf_29 rfl ?_
      refine go_iadd (pc2 := 31) dX3_startOf_30 rfl ?_
      refine go_istore (pc2 := 33) (ls2 := [(0, .int x0), (1, .int x1), (2, .int x2), (3, .int x3), (4, .int (x2 + (x1 * v13)))]) dX3_startOf_31 rfl rfl rfl rfl rfl ?_
      refine go_iload_n (pc2 := 34) dX3_startOf_33 rfl rfl rfl ?_
      refine go_iconst (pc2 := 35) (v := (4 : Int32)) dX3_startOf_34 rfl (by decide) ?_
      refine go_icmp_ne (pc2 := 38) (tgt := 50) dX3_startOf_35 rfl (by decide) (fun c => ?_) (fun c => ?_)
      · have k := k.1 c
        refine go_iload (pc2 := 52) dX3_startOf_50 rfl rfl ?_
        exact go_iret dX3_startOf_52 ⟨_, rfl, rfl⟩ ⟨rfl, _, rfl, k⟩
      · have k := k.2 c
        refine go_iload_n (pc2 := 39) dX3_startOf_38 rfl rfl rfl ?_
        refine go_iconst (pc2 := 40) (v := (1 : Int32)) dX3_startOf_39 rfl (by decide) ?_
        refine go_icmp_ne (pc2 := 43) (tgt := 50) dX3_startOf_40 rfl (by decide) (fun c => ?_) (fun c => ?_)
        · have k := k.1 c
          refine go_iload (pc2 := 52) dX3_startOf_50 rfl rfl ?_
          exact go_iret dX3_startOf_52 ⟨_, rfl, rfl⟩ ⟨rfl, _, rfl, k⟩
        · have k := k.2 c
          refine go_iload (pc2 := 45) dX3_startOf_43 rfl rfl ?_
          refine go_iconst (pc2 := 46) (v := (2 : Int32)) dX3_startOf_45 rfl (by decide) ?_
          refine go_idiv (pc2 := 47) dX3_startOf_46 rfl (by decide) ?_
          refine go_goto (tgt := 52) dX3_startOf_47 (by decide) ?_
          exact go_iret dX3_startOf_52 ⟨_, rfl, rfl⟩ ⟨rfl, _, rfl, k⟩
    · have k := k.2 c
      refine go_iload_n (pc2 := 21) dX3_startOf_20 rfl rfl rfl ?_
      exact go_iret dX3_startOf_21 ⟨_, rfl, rfl⟩ ⟨rfl, _, rfl, k⟩
  · have k := k.2 c
    refine go_iconst (pc2 := 9) (v := (2 : Int32)) dX3_startOf_8 rfl (by decide) ?_
    refine go_iload_n (pc2 := 10) dX3_startOf_9 rfl rfl rfl ?_
    refine go_imul (pc2 := 11) dX3_startOf_10 rfl ?_
    exact go_iret dX3_startOf_11 ⟨_, rfl, rfl⟩ ⟨rfl, _, rfl, k⟩
theorem e_X3_startBehind {x0 : Nat} {x1 : Int32} {h : Hp} {Q : Int32 → Hp → Prop} (hx0 : isPl x0) (k : (∃ Q1, CtI 1 mX3_startOf [.int (h.1 x0 0), .int (h.1 x0 1), .int (h.1 x0 6), .int x1] h Q1 ∧ ∀ (v3 : Int32) (h4 : Hp), Q1 v3 h4 → Q v3 h4)) : CtI 2 mX3_startBehind [.ref x0, .int x1] h Q := by
  refine Ct.of (by decide +kernel) (Nat.le_of_ble_eq_true rfl) ?_
  show GoI 2 mX3_startBehind 0 [(0, .ref x0), (1, .int x1)] [] h Q
  refine go_aload_n (pc2 := 1) dX3_startBehind_0 rfl rfl rfl ?_
  refine gf_44 (pc2 := 4) rfl dX3_startBehind_1 rfl hx0 fvi ?_
  refine go_aload_n (pc2 := 5) dX3_startBehind_4 rfl rfl rfl ?_
  refine gf_46 (pc2 := 8) rfl dX3_startBehind_5 rfl hx0 fvi ?_
  refine go_aload_n (pc2 := 9) dX3_startBehind_8 rfl rfl rfl ?_
  refine gf_61 (pc2 := 12) rfl dX3_startBehind_9 rfl hx0 fvi ?_
  refine go_iload_n (pc2 := 13) dX3_startBehind_12 rfl rfl rfl ?_
  obtain ⟨Q1, hC2, k⟩ := k
  refine gcS_I (pc2 := 16) (dC := 1) (As := [.int (h.1 x0 0), .int (h.1 x0 1), .int (h.1 x0 6), .int x1]) (st := []) rfl dX3_startBehind_13 rfl w_650 ok_X3_startOf w_651 rfl (by decide) (Nat.le_of_ble_eq_true rfl) hC2 (fun v3 h4 hq5 => ?_)
  have k := k v3 h4 hq5
  exact go_iret dX3_startBehind_16 ⟨_, rfl, rfl⟩ ⟨rfl, _, rfl, k⟩
theorem e_X3_least {x0 : Nat} {h : Hp} {Q : Int32 → Hp → Prop} (hx0 : isPl x0) (k : ((¬ (h.1 x0 0) = (5 : Int32) → Q (h.1 x0 2) h) ∧ ((h.1 x0 0) = (5 : Int32) → Q (h.1 x0 3) h))) : CtI 0 mX3_least [.ref x0] h Q := by
  refine Ct.of (by decide +kernel) (Nat.le_of_ble_eq_true rfl) ?_
  show GoI 0 mX3_least 0 [(0, .ref x0)] [] h Q
  refine go_aload_n (pc2 := 1) dX3_least_0 rfl rfl rfl ?_
  refine gf_44 (pc2 := 4) rfl dX3_least_1 rfl hx0 fvi ?_
  refine go_iconst (pc2 := 5) (v := (5 : Int32)) dX3_least_4 rfl (by decide) ?_
  refine go_icmp_ne (pc2 := 8) (tgt := 15) dX3_least_5 rfl (by decide) (fun c => ?_) (fun c => ?_)
  · have k := k.1 c
    refine go_aload_n (pc2 := 16) dX3_least_15 rfl rfl rfl ?_
    refine gf_48 (pc2 := 19) rfl dX3_least_16 rfl hx0 fvi ?_
    exact go_iret dX3_least_19 ⟨_, rfl, rfl⟩ ⟨rfl, _, rfl, k⟩
  · have k := k.2 c
    refine go_aload_n (pc2 := 9) dX3_least_8 rfl rfl rfl ?_
    refine gf_50 (pc2 := 12) rfl dX3_least_9 rfl hx0 fvi ?_
    refine go_goto (tgt := 19) dX3_least_12 (by decide) ?_
    exact go_iret dX3_least_19 ⟨_, rfl, rfl⟩ ⟨rfl, _, rfl, k⟩
theorem e_X3_most {x0 : Nat} {x1 : Int32} {h : Hp} {Q : Int32 → Hp → Prop} (hx0 : isPl x0) (k : ((x1 = 0 → Q (h.1 x0 3) h) ∧ (¬ x1 = 0 → (((h.1 x0 0) = (5 : Int32) → Q (h.1 x0 3) h) ∧ (¬ (h.1 x0 0) = (5 : Int32) → (∃ Q1, CtI 0 mX3_kindIsUnder [.int (h.1 x0 0), .int (2 : Int32)] h Q1 ∧ ∀ (v3 : Int32) (h4 : Hp), Q1 v3 h4 → ((v3 = 0 → Q (h4.1 x0 3) h4) ∧ (¬ v3 = 0 → (∃ Q6, CtI 0 mJ9_min_7cf53 [.int ((h4.1 x0 2) + (h4.1 x0 1)), .int (h4.1 x0 3)] h4 Q6 ∧ ∀ (v8 : Int32) (h9 : Hp), Q6 v8 h9 → Q v8 h9))))))))) : CtI 1 mX3_most [.ref x0, .int x1] h Q := by
  refine Ct.of (by decide +kernel) (Nat.le_of_ble_eq_true rfl) ?_
  show GoI 1 mX3_most 0 [(0, .ref x0), (1, .int x1)] [] h Q
  refine go_iload_n (pc2 := 1) dX3_most_0 rfl rfl rfl ?_
  refine go_if_eq (pc2 := 4) (tgt := 40) dX3_most_1 rfl (by decide) (fun c => ?_) (fun c => ?_)
  · have k := k.1 c
    refine go_aload_n (pc2 := 41) dX3_most_40 rfl rfl rfl ?_
    refine gf_50 (pc2 := 44) rfl dX3_most_41 rfl hx0 fvi ?_
    exact go_iret dX3_most_44 ⟨_, rfl, rfl⟩ ⟨rfl, _, rfl, k⟩
  · have k := k.2 c
    refine go_aload_n (pc2 := 5) dX3_most_4 rfl rfl rfl ?_
    refine gf_44 (pc2 := 8) rfl dX3_most_5 rfl hx0 fvi ?_
    refine go_iconst (pc2 := 9) (v := (5 : Int32)) dX3_most_8 rfl (by decide) ?_
    refine go_icmp_eq (pc2 := 12) (tgt := 40) dX3_most_9 rfl (by decide) (fun c => ?_) (fun c => ?_)
    · have k := k.1 c
      refine go_aload_n (pc2 := 41) dX3_most_40 rfl rfl rfl ?_
      refine gf_50 (pc2 := 44) rfl dX3_most_41 rfl hx0 fvi ?_
      exact go_iret dX3_most_44 ⟨_, rfl, rfl⟩ ⟨rfl, _, rfl, k⟩
    · have k := k.2 c
      refine go_aload_n (pc2 := 13) dX3_most_12 rfl rfl rfl ?_
      refine gf_44 (pc2 := 16) rfl dX3_most_13 rfl hx0 fvi ?_
      refine go_iconst (pc2 := 17) (v := (2 : Int32)) dX3_most_16 rfl (by decide) ?_
      obtain ⟨Q1, hC2, k⟩ := k
      refine gcS_I (pc2 := 20) (dC := 0) (As := [.int (h.1 x0 0), .int (2 : Int32)]) (st := []) rfl dX3_most_17 rfl w_634 ok_X3_kindIsUnder w_635 rfl (by decide) (Nat.le_of_ble_eq_true rfl) hC2 (fun v3 h4 hq5 => ?_)
      have k := k v3 h4 hq5
      refine go_if_eq (pc2 := 23) (tgt := 40) dX3_most_20 rfl (by decide) (fun c => ?_) (fun c => ?_)
      · have k := k.1 c
        refine go_aload_n (pc2 := 41) dX3_most_40 rfl rfl rfl ?_
        refine gf_50 (pc2 := 44) rfl dX3_most_41 rfl hx0 fvi ?_
        exact go_iret dX3_most_44 ⟨_, rfl, rfl⟩ ⟨rfl, _, rfl, k⟩
      · have k := k.2 c
        refine go_aload_n (pc2 := 24) dX3_most_23 rfl rfl rfl ?_
        refine gf_48 (pc2 := 27) rfl dX3_most_24 rfl hx0 fvi ?_
        refine go_aload_n (pc2 := 28) dX3_most_27 rfl rfl rfl ?_
        refine gf_46 (pc2 := 31) rfl dX3_most_28 rfl hx0 fvi ?_
        refine go_iadd (pc2 := 32) dX3_most_31 rfl ?_
        refine go_aload_n (pc2 := 33) dX3_most_32 rfl rfl rfl ?_
        refine gf_50 (pc2 := 36) rfl dX3_most_33 rfl hx0 fvi ?_
        obtain ⟨Q6, hC7, k⟩ := k
        refine gcS_I (pc2 := 39) (dC := 0) (As := [.int ((h4.1 x0 2) + (h4.1 x0 1)), .int (h4.1 x0 3)]) (st := []) rfl dX3_most_36 rfl w_639 ok_J9_min_7cf53 w_640 rfl (by decide) (Nat.le_of_ble_eq_true rfl) hC7 (fun v8 h9 hq10 => ?_)
        have k := k v8 h9 hq10
        exact go_iret dX3_most_39 ⟨_, rfl, rfl⟩ ⟨rfl, _, rfl, k⟩
theorem e_X3_moved {x0 : Nat} {x1 : Int32} {x2 : Int32} {h : Hp} {Q : Int32 → Hp → Prop} (hx0 : isPl x0) (k : ((x1 ≤ 0 → ((x2 = 0 → (∃ Q1, CtI 0 mJ9_max_7cf53 [.int (x1 - (1 : Int32)), .int (-4 : Int32)] h Q1 ∧ ∀ (v3 : Int32) (h4 : Hp), Q1 v3 h4 → Q v3 h4)) ∧ (¬ x2 = 0 → Q (if (h.1 x0 8) ≤ (-x1) then (1 : Int32) else (0 : Int32)) h))) ∧ (¬ (x1 ≤ 0) → ((x2 = 0 → ((x1 < (h.1 x0 7) → Q (0 : Int32) h) ∧ (¬ (x1 < (h.1 x0 7)) → (∃ Q6, CtI 0 mX3_kindIsUnder [.int (h.1 x0 0), .int (3 : Int32)] h Q6 ∧ ∀ (v8 : Int32) (h9 : Hp), Q6 v8 h9 → ((v8 = 0 → Q (-1 : Int32) h9) ∧ (¬ v8 = 0 → Q (0 : Int32) h9)))))) ∧ (¬ x2 = 0 → (∃ Q11, CtI 0 mJ9_min_7cf53 [.int (x1 + (1 : Int32)), .int (4 : Int32)] h Q11 ∧ ∀ (v13 : Int32) (h14 : Hp), Q11 v13 h14 → Q v13 h14)))))) : CtI 1 mX3_moved [.ref x0, .int x1, .int x2] h Q := by
  refine Ct.of (by decide +kernel) (Nat.le_of_ble_eq_true rfl) ?_
  show GoI 1 mX3_moved 0 [(0, .ref x0), (1, .int x1), (2, .int x2)] [] h Q
  refine go_iload_n (pc2 := 1) dX3_moved_0 rfl rfl rfl ?_
  refine go_if_le (pc2 := 4) (tgt := 41) dX3_moved_1 rfl (by decide) (fun c => ?_) (fun c => ?_)
  · have k := k.1 c
    refine go_iload_n (pc2 := 42) dX3_moved_41 rfl rfl rfl ?_
    refine go_if_eq (pc2 := 45) (tgt := 60) dX3_moved_42 rfl (by decide) (fun c => ?_) (fun c => ?_)
    · have k := k.1 c
      refine go_iload_n (pc2 := 61) dX3_moved_60 rfl rfl rfl ?_
      refine go_iconst (pc2 := 62) (v := (1 : Int32)) dX3_moved_61 rfl (by decide) ?_
      refine go_isub (pc2 := 63) dX3_moved_62 rfl ?_
      refine go_bipush (pc2 := 65) (v := (-4 : Int32)) dX3_moved_63 rfl (by decide) ?_
      obtain ⟨Q1, hC2, k⟩ := k
      refine gcS_I (pc2 := 68) (dC := 0) (As := [.int (x1 - (1 : Int32)), .int (-4 : Int32)]) (st := []) rfl dX3_moved_65 rfl w_665 ok_J9_max_7cf53 w_666 rfl (by decide) (Nat.le_of_ble_eq_true rfl) hC2 (fun v3 h4 hq5 => ?_)
      have k := k v3 h4 hq5
      exact go_iret dX3_moved_68 ⟨_, rfl, rfl⟩ ⟨rfl, _, rfl, k⟩
    · have k := k.2 c
      refine go_iload_n (pc2 := 46) dX3_moved_45 rfl rfl rfl ?_
      refine go_ineg (pc2 := 47) dX3_moved_46 rfl ?_
      refine go_aload_n (pc2 := 48) dX3_moved_47 rfl rfl rfl ?_
      refine gf_67 (pc2 := 51) rfl dX3_moved_48 rfl hx0 fvi ?_
      have J : GoI 1 mX3_moved 59 [(0, .ref x0), (1, .int x1), (2, .int x2)] [.int (if (h.1 x0 8) ≤ (-x1) then (1 : Int32) else (0 : Int32))] h Q := by
        exact go_iret dX3_moved_59 ⟨_, rfl, rfl⟩ ⟨rfl, _, rfl, k⟩
      refine go_icmp_ge (pc2 := 54) (tgt := 58) dX3_moved_51 rfl (by decide) (fun c => ?_) (fun c => ?_)
      · rw [if_pos c] at J
        exact go_iconst (pc2 := 59) dX3_moved_58 rfl (by decide) J
      · rw [if_neg c] at J
        exact go_iconst (pc2 := 55) dX3_moved_54 rfl (by decide) (go_goto (tgt := 59) dX3_moved_55 (by decide) J)
  · have k := k.2 c
    refine go_iload_n (pc2 := 5) dX3_moved_4 rfl rfl rfl ?_
    refine go_if_eq (pc2 := 8) (tgt := 16) dX3_moved_5 rfl (by decide) (fun c => ?_) (fun c => ?_)
    · have k := k.1 c
      refine go_iload_n (pc2 := 17) dX3_moved_16 rfl rfl rfl ?_
      refine go_aload_n (pc2 := 18) dX3_moved_17 rfl rfl rfl ?_
      refine gf_64 (pc2 := 21) rfl dX3_moved_18 rfl hx0 fvi ?_
      refine go_icmp_lt (pc2 := 24) (tgt := 35) dX3_moved_21 rfl (by decide) (fun c => ?_) (fun c => ?_)
      · have k := k.1 c
        refine go_iconst (pc2 := 36) (v := (0 : Int32)) dX3_moved_35 rfl (by decide) ?_
        refine go_goto (tgt := 40) dX3_moved_36 (by decide) ?_
        exact go_iret dX3_moved_40 ⟨_, rfl, rfl⟩ ⟨rfl, _, rfl, k⟩
      · have k := k.2 c
        refine go_aload_n (pc2 := 25) dX3_moved_24 rfl rfl rfl ?_
        refine gf_44 (pc2 := 28) rfl dX3_moved_25 rfl hx0 fvi ?_
        refine go_iconst (pc2 := 29) (v := (3 : Int32)) dX3_moved_28 rfl (by decide) ?_
        obtain ⟨Q6, hC7, k⟩ := k
        refine gcS_I (pc2 := 32) (dC := 0) (As := [.int (h.1 x0 0), .int (3 : Int32)]) (st := []) rfl dX3_moved_29 rfl w_634 ok_X3_kindIsUnder w_635 rfl (by decide) (Nat.le_of_ble_eq_true rfl) hC7 (fun v8 h9 hq10 => ?_)
        have k := k v8 h9 hq10
        refine go_if_eq (pc2 := 35) (tgt := 39) dX3_moved_32 rfl (by decide) (fun c => ?_) (fun c => ?_)
        · have k := k.1 c
          refine go_iconst (pc2 := 40) (v := (-1 : Int32)) dX3_moved_39 rfl (by decide) ?_
          exact go_iret dX3_moved_40 ⟨_, rfl, rfl⟩ ⟨rfl, _, rfl, k⟩
        · have k := k.2 c
          refine go_iconst (pc2 := 36) (v := (0 : Int32)) dX3_moved_35 rfl (by decide) ?_
          refine go_goto (tgt := 40) dX3_moved_36 (by decide) ?_
          exact go_iret dX3_moved_40 ⟨_, rfl, rfl⟩ ⟨rfl, _, rfl, k⟩
    · have k := k.2 c
      refine go_iload_n (pc2 := 9) dX3_moved_8 rfl rfl rfl ?_
      refine go_iconst (pc2 := 10) (v := (1 : Int32)) dX3_moved_9 rfl (by decide) ?_
      refine go_iadd (pc2 := 11) dX3_moved_10 rfl ?_
      refine go_iconst (pc2 := 12) (v := (4 : Int32)) dX3_moved_11 rfl (by decide) ?_
      obtain ⟨Q11, hC12, k⟩ := k
      refine gcS_I (pc2 := 15) (dC := 0) (As := [.int (x1 + (1 : Int32)), .int (4 : Int32)]) (st := []) rfl dX3_moved_12 rfl w_639 ok_J9_min_7cf53 w_640 rfl (by decide) (Nat.le_of_ble_eq_true rfl) hC12 (fun v13 h14 hq15 => ?_)
      have k := k v13 h14 hq15
      exact go_iret dX3_moved_15 ⟨_, rfl, rfl⟩ ⟨rfl, _, rfl, k⟩
theorem e_X3_mayRun {x0 : Nat} {x1 : Int32} {x2 : Int32} {h : Hp} {Q : Int32 → Hp → Prop} (hx0 : isPl x0) (k : GoI 2 mX3_mayRun 8 [(0, .ref x0), (1, .int x1), (2, .int x2), (3, .int (h.1 x0 9)), (4, .int (0 : Int32))] [] h Q) : CtI 2 mX3_mayRun [.ref x0, .int x1, .int x2] h Q := by
  refine Ct.of (by decide +kernel) (Nat.le_of_ble_eq_true rfl) ?_
  show GoI 2 mX3_mayRun 0 [(0, .ref x0), (1, .int x1), (2, .int x2)] [] h Q
  refine go_aload_n (pc2 := 1) dX3_mayRun_0 rfl rfl rfl ?_
  refine gf_71 (pc2 := 4) rfl dX3_mayRun_1 rfl hx0 fvi ?_
  refine go_istore_n (pc2 := 5) (ls2 := [(0, .ref x0), (1, .int x1), (2, .int x2), (3, .int (h.1 x0 9))]) dX3_mayRun_4 rfl rfl rfl rfl rfl rfl ?_
  refine go_iconst (pc2 := 6) (v := (0 : Int32)) dX3_mayRun_5 rfl (by decide) ?_
  refine go_istore (pc2 := 8) (ls2 := [(0, .ref x0), (1, .int x1), (2, .int x2), (3, .int (h.1 x0 9)), (4, .int (0 : Int32))]) dX3_mayRun_6 rfl rfl rfl rfl rfl ?_
  exact k
theorem b_X3_mayRun_8 {x0 : Nat} {x1 : Int32} {x2 : Int32} {x3 : Int32} {x4 : Int32} {h : Hp} {Q : Int32 → Hp → Prop} (hx0 : isPl x0) (k : ((x2 ≤ x4 → Q (if x3 = 0 then (0 : Int32) else (1 : Int32)) h) ∧ (¬ (x2 ≤ x4) → ((x3 = 0 → Q (if x3 = 0 then (0 : Int32) else (1 : Int32)) h) ∧ (¬ x3 = 0 → (∃ Q1, CtI 1 mX3_moved [.ref x0, .int x3, .int (if ((x1 >>> (x4 &&& 31)) &&& (1 : Int32)) = (1 : Int32) then (1 : Int32) else (0 : Int32))] h Q1 ∧ ∀ (v3 : Int32) (h4 : Hp), Q1 v3 h4 → GoI 2 mX3_mayRun 8 [(0, .ref x0), (1, .int x1), (2, .int x2), (3, .int v3), (4, .int (x4 + 1))] [] h4 Q)))))) : GoI 2 mX3_mayRun 8 [(0, .ref x0), (1, .int x1), (2, .int x2), (3, .int x3), (4, .int x4)] [] h Q := by
  refine go_iload (pc2 := 10) dX3_mayRun_8 rfl rfl ?_
  refine go_iload_n (pc2 := 11) dX3_mayRun_10 rfl rfl rfl ?_
  refine go_icmp_ge (pc2 := 14) (tgt := 45) dX3_mayRun_11 rfl (by decide) (fun c => ?_) (fun c => ?_)
  · have k := k.1 c
    refine go_iload_n (pc2 := 46) dX3_mayRun_45 rfl rfl rfl ?_
    have J : GoI 2 mX3_mayRun 54 [(0, .ref x0), (1, .int x1), (2, .int x2), (3, .int x3), (4, .int x4)] [.int (if x3 = 0 then (0 : Int32) else (1 : Int32))] h Q := by
      exact go_iret dX3_mayRun_54 ⟨_, rfl, congrArg Value.int ite_b⟩ ⟨rfl, _, rfl, k⟩
    refine go_if_eq (pc2 := 49) (tgt := 53) dX3_mayRun_46 rfl (by decide) (fun c => ?_) (fun c => ?_)
    · rw [if_pos c] at J
      exact go_iconst (pc2 := 54) dX3_mayRun_53 rfl (by decide) J
    · rw [if_neg c] at J
      exact go_iconst (pc2 := 50) dX3_mayRun_49 rfl (by decide) (go_goto (tgt := 54) dX3_mayRun_50 (by decide) J)
  · have k := k.2 c
    refine go_iload_n (pc2 := 15) dX3_mayRun_14 rfl rfl rfl ?_
    refine go_if_eq (pc2 := 18) (tgt := 45) dX3_mayRun_15 rfl (by decide) (fun c => ?_) (fun c => ?_)
    · have k := k.1 c
      refine go_iload_n (pc2 := 46) dX3_mayRun_45 rfl rfl rfl ?_
      have J : GoI 2 mX3_mayRun 54 [(0, .ref x0), (1, .int x1), (2, .int x2), (3, .int x3), (4, .int x4)] [.int (if x3 = 0 then (0 : Int32) else (1 : Int32))] h Q := by
        exact go_iret dX3_mayRun_54 ⟨_, rfl, congrArg Value.int ite_b⟩ ⟨rfl, _, rfl, k⟩
      refine go_if_eq (pc2 := 49) (tgt := 53) dX3_mayRun_46 rfl (by decide) (fun c => ?_) (fun c => ?_)
      · rw [if_pos c] at J
        exact go_iconst (pc2 := 54) dX3_mayRun_53 rfl (by decide) J
      · rw [if_neg c] at J
        exact go_iconst (pc2 := 50) dX3_mayRun_49 rfl (by decide) (go_goto (tgt := 54) dX3_mayRun_50 (by decide) J)
    · have k := k.2 c
      refine go_aload_n (pc2 := 19) dX3_mayRun_18 rfl rfl rfl ?_
      refine go_iload_n (pc2 := 20) dX3_mayRun_19 rfl rfl rfl ?_
      refine go_iload_n (pc2 := 21) dX3_mayRun_20 rfl rfl rfl ?_
      refine go_iload (pc2 := 23) dX3_mayRun_21 rfl rfl ?_
      refine go_ishr (pc2 := 24) dX3_mayRun_23 rfl ?_
      refine go_iconst (pc2 := 25) (v := (1 : Int32)) dX3_mayRun_24 rfl (by decide) ?_
      refine go_iand (pc2 := 26) dX3_mayRun_25 rfl ?_
      refine go_iconst (pc2 := 27) (v := (1 : Int32)) dX3_mayRun_26 rfl (by decide) ?_
      have J : GoI 2 mX3_mayRun 35 [(0, .ref x0), (1, .int x1), (2, .int x2), (3, .int x3), (4, .int x4)] [.int (if ((x1 >>> (x4 &&& 31)) &&& (1 : Int32)) = (1 : Int32) then (1 : Int32) else (0 : Int32)), .int x3, .ref x0] h Q := by
        obtain ⟨Q1, hC2, k⟩ := k
        refine gcV_I (pc2 := 38) (dC := 1) (As := [.int x3, .int (if ((x1 >>> (x4 &&& 31)) &&& (1 : Int32)) = (1 : Int32) then (1 : Int32) else (0 : Int32))]) (st := []) rfl dX3_mayRun_35 rfl w_661 ok_X3_moved vi_X3_moved hx0 (by decide) rfl rfl rfl (by decide) (Nat.le_of_ble_eq_true rfl) hC2 (fun v3 h4 hq5 => ?_)
        have k := k v3 h4 hq5
        refine go_istore_n (pc2 := 39) (ls2 := [(0, .ref x0), (1, .int x1), (2, .int x2), (3, .int v3), (4, .int x4)]) dX3_mayRun_38 rfl rfl rfl rfl rfl rfl ?_
        refine go_iinc (pc2 := 42) (ls2 := [(0, .ref x0), (1, .int x1), (2, .int x2), (3, .int v3), (4, .int (x4 + 1))]) (v := (x4 + 1)) dX3_mayRun_39 rfl rfl rfl rfl rfl rfl rfl ?_
        refine go_goto (tgt := 8) dX3_mayRun_42 (by decide) ?_
        exact k
      refine go_icmp_ne (pc2 := 30) (tgt := 34) dX3_mayRun_27 rfl (by decide) (fun c => ?_) (fun c => ?_)
      · rw [if_neg c] at J
        exact go_iconst (pc2 := 35) dX3_mayRun_34 rfl (by decide) J
      · rw [if_pos c] at J
        exact go_iconst (pc2 := 31) dX3_mayRun_30 rfl (by decide) (go_goto (tgt := 35) dX3_mayRun_31 (by decide) J)
theorem e_X4_run  {h : Hp} {Q : Int32 → Hp → Prop}  (k : (∃ Q1, CtV 0 mJ7_fill_53178 [.ref 65, .int (0 : Int32)] h Q1 ∧ ∀ h4 : Hp, Q1 h4 → (∃ Q6, CtV 3 mX9_begin [.ref 36] h4 Q6 ∧ ∀ h9 : Hp, Q6 h9 → GoI 5 mX4_run 19 [(0, .ref 64), (1, .int (0 : Int32)), (2, .int (0 : Int32))] [] h9 Q))) : CtI 5 mX4_run [.ref 64] h Q := by
  refine Ct.of (by decide +kernel) (Nat.le_of_ble_eq_true rfl) ?_
  show GoI 5 mX4_run 0 [(0, .ref 64)] [] h Q
  refine go_aload_n (pc2 := 1) dX4_run_0 rfl rfl rfl ?_
  refine gf_316 (pc2 := 4) rfl dX4_run_1 rfl c_64 (fvs r_64_3) ?_
  refine go_iconst (pc2 := 5) (v := (0 : Int32)) dX4_run_4 rfl (by decide) ?_
  obtain ⟨Q1, hC2, k⟩ := k
  refine gcS_V (pc2 := 8) (dC := 0) (As := [.ref 65, .int (0 : Int32)]) (st := []) rfl dX4_run_5 rfl w_926 ok_J7_fill_53178 w_875 rfl (by decide) (Nat.le_of_ble_eq_true rfl) hC2 (fun h4 hq5 => ?_)
  have k := k h4 hq5
  refine go_aload_n (pc2 := 9) dX4_run_8 rfl rfl rfl ?_
  refine gf_315 (pc2 := 12) rfl dX4_run_9 rfl c_64 (fvs r_64_2) ?_
  obtain ⟨Q6, hC7, k⟩ := k
  refine gcVN_V (pc2 := 15) (dC := 3) (As := []) (st := []) rfl dX4_run_12 rfl w_927 ok_X9_begin vi_X9_begin c_36 (by decide) rfl rfl rfl (by decide) (Nat.le_of_ble_eq_true rfl) hC7 (fun h9 hq10 => ?_)
  have k := k h9 hq10
  refine go_iconst (pc2 := 16) (v := (0 : Int32)) dX4_run_15 rfl (by decide) ?_
  refine go_istore_n (pc2 := 17) (ls2 := [(0, .ref 64), (1, .int (0 : Int32))]) dX4_run_16 rfl rfl rfl rfl rfl rfl ?_
  refine go_iconst (pc2 := 18) (v := (0 : Int32)) dX4_run_17 rfl (by decide) ?_
  refine go_istore_n (pc2 := 19) (ls2 := [(0, .ref 64), (1, .int (0 : Int32)), (2, .int (0 : Int32))]) dX4_run_18 rfl rfl rfl rfl rfl rfl ?_
  exact k
theorem b_X4_run_19 {x1 : Int32} {x2 : Int32} {h : Hp} {Q : Int32 → Hp → Prop}  (k : (((h.1 1 0) ≤ x2 → Q x1 h) ∧ (¬ ((h.1 1 0) ≤ x2) → GoI 5 mX4_run 35 [(0, .ref 64), (1, .int x1), (2, .int x2), (3, .int (0 : Int32)), (4, .int (0 : Int32))] [] h Q))) : GoI 5 mX4_run 19 [(0, .ref 64), (1, .int x1), (2, .int x2)] [] h Q := by
  refine go_iload_n (pc2 := 20) dX4_run_19 rfl rfl rfl ?_
  refine go_aload_n (pc2 := 21) dX4_run_20 rfl rfl rfl ?_
  refine gf_313 (pc2 := 24) rfl dX4_run_21 rfl c_64 (fvs r_64_0) ?_
  refine gf_98 (pc2 := 27) rfl dX4_run_24 rfl c_1 fvi ?_
  refine go_icmp_ge (pc2 := 30) (tgt := 148) dX4_run_27 rfl (by decide) (fun c => ?_) (fun c => ?_)
  · have k := k.1 c
    refine go_iload_n (pc2 := 149) dX4_run_148 rfl rfl rfl ?_
    exact go_iret dX4_run_149 ⟨_, rfl, rfl⟩ ⟨rfl, _, rfl, k⟩
  · have k := k.2 c
    refine go_iconst (pc2 := 31) (v := (0 : Int32)) dX4_run_30 rfl (by decide) ?_
    refine go_istore_n (pc2 := 32) (ls2 := [(0, .ref 64), (1, .int x1), (2, .int x2), (3, .int (0 : Int32))]) dX4_run_31 rfl rfl rfl rfl rfl rfl ?_
    refine go_iconst (pc2 := 33) (v := (0 : Int32)) dX4_run_32 rfl (by decide) ?_
    refine go_istore (pc2 := 35) (ls2 := [(0, .ref 64), (1, .int x1), (2, .int x2), (3, .int (0 : Int32)), (4, .int (0 : Int32))]) dX4_run_33 rfl rfl rfl rfl rfl ?_
    exact k
theorem b_X4_run_35 {x1 : Int32} {x2 : Int32} {x3 : Int32} {x4 : Int32} {h : Hp} {Q : Int32 → Hp → Prop}  (k : (((h.1 1 5) ≤ x4 → (∃ Q1, CtI 4 mX4_nearest [.ref 64, .int x2, .int x3] h Q1 ∧ ∀ (v3 : Int32) (h4 : Hp), Q1 v3 h4 → ((0 ≤ v3 → (∃ Q6, CtI 4 mX9_pass [.ref 36, .int x2, .int v3] h4 Q6 ∧ ∀ (v8 : Int32) (h9 : Hp), Q6 v8 h9 → GoI 5 mX4_run 105 [(0, .ref 64), (1, .int (x1 + v8)), (2, .int x2), (4, .int v3), (5, .int (0 : Int32))] [] h9 Q)) ∧ (¬ (0 ≤ v3) → Q (-9 : Int32) h4)))) ∧ (¬ ((h.1 1 5) ≤ x4) → (vp_in x4 3 ∧ GoI 5 mX4_run 35 [(0, .ref 64), (1, .int x1), (2, .int x2), (3, .int (x3 ||| ((((h.1 61 (x4).toNatClampNeg) >>> (x2 &&& 31)) &&& (1 : Int32)) <<< (x4 &&& 31)))), (4, .int (x4 + 1))] [] h Q)))) : GoI 5 mX4_run 35 [(0, .ref 64), (1, .int x1), (2, .int x2), (3, .int x3), (4, .int x4)] [] h Q := by
  refine go_iload (pc2 := 37) dX4_run_35 rfl rfl ?_
  refine go_aload_n (pc2 := 38) dX4_run_37 rfl rfl rfl ?_
  refine gf_313 (pc2 := 41) rfl dX4_run_38 rfl c_64 (fvs r_64_0) ?_
  refine gf_124 (pc2 := 44) rfl dX4_run_41 rfl c_1 fvi ?_
  refine go_icmp_ge (pc2 := 47) (tgt := 73) dX4_run_44 rfl (by decide) (fun c => ?_) (fun c => ?_)
  · have k := k.1 c
    refine go_aload_n (pc2 := 74) dX4_run_73 rfl rfl rfl ?_
    refine go_iload_n (pc2 := 75) dX4_run_74 rfl rfl rfl ?_
    refine go_iload_n (pc2 := 76) dX4_run_75 rfl rfl rfl ?_
    obtain ⟨Q1, hC2, k⟩ := k
    refine gcV_I (pc2 := 79) (dC := 4) (As := [.int x2, .int x3]) (st := []) rfl dX4_run_76 rfl w_928 ok_X4_nearest vi_X4_nearest c_64 (by decide) rfl rfl rfl (by decide) (Nat.le_of_ble_eq_true rfl) hC2 (fun v3 h4 hq5 => ?_)
    have k := k v3 h4 hq5
    refine go_istore (pc2 := 81) (ls2 := [(0, .ref 64), (1, .int x1), (2, .int x2), (3, .int x3), (4, .int v3)]) dX4_run_79 rfl rfl rfl rfl rfl ?_
    refine go_iload (pc2 := 83) dX4_run_81 rfl rfl ?_
    refine go_if_ge (pc2 := 86) (tgt := 89) dX4_run_83 rfl (by decide) (fun c => ?_) (fun c => ?_)
    · have k := k.1 c
      refine go_iload_n (pc2 := 90) dX4_run_89 rfl rfl rfl ?_
      refine go_aload_n (pc2 := 91) dX4_run_90 rfl rfl rfl ?_
      refine gf_315 (pc2 := 94) rfl dX4_run_91 rfl c_64 (fvs r_64_2) ?_
      refine go_iload_n (pc2 := 95) dX4_run_94 rfl rfl rfl ?_
      refine go_iload (pc2 := 97) dX4_run_95 rfl rfl ?_
      obtain ⟨Q6, hC7, k⟩ := k
      refine gcVN_I (pc2 := 100) (dC := 4) (As := [.int x2, .int v3]) (st := [.int x1]) rfl dX4_run_97 rfl w_934 ok_X9_pass vi_X9_pass c_36 (by decide) rfl rfl rfl (by decide) (Nat.le_of_ble_eq_true rfl) hC7 (fun v8 h9 hq10 => ?_)
      have k := k v8 h9 hq10
      refine go_iadd (pc2 := 101) dX4_run_100 rfl ?_
      refine go_istore_n (pc2 := 102) (ls2 := [(0, .ref 64), (1, .int (x1 + v8)), (2, .int x2), (3, .int x3), (4, .int v3)]) dX4_run_101 rfl rfl rfl rfl rfl rfl ?_
      refine go_iconst (pc2 := 103) (v := (0 : Int32)) dX4_run_102 rfl (by decide) ?_
      refine go_istore (pc2 := 105) (ls2 := [(0, .ref 64), (1, .int (x1 + v8)), (2, .int x2), (3, .int x3), (4, .int v3), (5, .int (0 : Int32))]) dX4_run_103 rfl rfl rfl rfl rfl ?_
      exact Go.pick [0, 1, 2, 4, 5] rfl k
    · have k := k.2 c
      refine go_bipush (pc2 := 88) (v := (-9 : Int32)) dX4_run_86 rfl (by decide) ?_
      exact go_iret dX4_run_88 ⟨_, rfl, rfl⟩ ⟨rfl, _, rfl, k⟩
  · have k := k.2 c
    refine go_iload_n (pc2 := 48) dX4_run_47 rfl rfl rfl ?_
    refine go_aload_n (pc2 := 49) dX4_run_48 rfl rfl rfl ?_
    refine gf_314 (pc2 := 52) rfl dX4_run_49 rfl c_64 (fvs r_64_1) ?_
    refine gf_288 (pc2 := 55) rfl dX4_run_52 rfl c_58 (fvs r_58_3) ?_
    refine go_iload (pc2 := 57) dX4_run_55 rfl rfl ?_
    obtain ⟨y11, k⟩ := k
    refine go_iaload (pc2 := 58) (j := (x4).toNatClampNeg) dX4_run_57 rfl c_61 y11 rfl ?_
    refine go_iload_n (pc2 := 59) dX4_run_58 rfl rfl rfl ?_
    refine go_ishr (pc2 := 60) dX4_run_59 rfl ?_
    refine go_iconst (pc2 := 61) (v := (1 : Int32)) dX4_run_60 rfl (by decide) ?_
    refine go_iand (pc2 := 62) dX4_run_61 rfl ?_
    refine go_iload (pc2 := 64) dX4_run_62 rfl rfl ?_
    refine go_ishl (pc2 := 65) dX4_run_64 rfl ?_
    refine go_ior (pc2 := 66) dX4_run_65 rfl ?_
    refine go_istore_n (pc2 := 67) (ls2 := [(0, .ref 64), (1, .int x1), (2, .int x2), (3, .int (x3 ||| ((((h.1 61 (x4).toNatClampNeg) >>> (x2 &&& 31)) &&& (1 : Int32)) <<< (x4 &&& 31)))), (4, .int x4)]) dX4_run_66 rfl rfl rfl rfl rfl rfl ?_
    refine go_iinc (pc2 := 70) (ls2 := [(0, .ref 64), (1, .int x1), (2, .int x2), (3, .int (x3 ||| ((((h.1 61 (x4).toNatClampNeg) >>> (x2 &&& 31)) &&& (1 : Int32)) <<< (x4 &&& 31)))), (4, .int (x4 + 1))]) (v := (x4 + 1)) dX4_run_67 rfl rfl rfl rfl rfl rfl rfl ?_
    refine go_goto (tgt := 35) dX4_run_70 (by decide) ?_
    exact k
theorem b_X4_run_105 {x1 : Int32} {x2 : Int32} {x4 : Int32} {x5 : Int32} {h : Hp} {Q : Int32 → Hp → Prop}  (k : (((h.1 1 5) ≤ x5 → GoI 5 mX4_run 19 [(0, .ref 64), (1, .int x1), (2, .int (x2 + 1))] [] h Q) ∧ (¬ ((h.1 1 5) ≤ x5) → (vp_in x5 3 ∧ (vp_in x5 3 ∧ (∀ g3 : Hp, g3 = (ui h 65 (x5).toNatClampNeg ((h.1 65 (x5).toNatClampNeg) ||| (((x4 >>> (x5 &&& 31)) &&& (1 : Int32)) <<< (x2 &&& 31)))) → GoI 5 mX4_run 105 [(0, .ref 64), (1, .int x1), (2, .int x2), (4, .int x4), (5, .int (x5 + 1))] [] g3 Q)))))) : GoI 5 mX4_run 105 [(0, .ref 64), (1, .int x1), (2, .int x2), (4, .int x4), (5, .int x5)] [] h Q := by
  refine go_iload (pc2 := 107) dX4_run_105 rfl rfl ?_
  refine go_aload_n (pc2 := 108) dX4_run_107 rfl rfl rfl ?_
  refine gf_313 (pc2 := 111) rfl dX4_run_108 rfl c_64 (fvs r_64_0) ?_
  refine gf_124 (pc2 := 114) rfl dX4_run_111 rfl c_1 fvi ?_
  refine go_icmp_ge (pc2 := 117) (tgt := 142) dX4_run_114 rfl (by decide) (fun c => ?_) (fun c => ?_)
  · have k := k.1 c
    refine go_iinc (pc2 := 145) (ls2 := [(0, .ref 64), (1, .int x1), (2, .int (x2 + 1)), (4, .int x4), (5, .int x5)]) (v := (x2 + 1)) dX4_run_142 rfl rfl rfl rfl rfl rfl rfl ?_
    refine go_goto (tgt := 19) dX4_run_145 (by decide) ?_
    exact Go.pick [0, 1, 2] rfl k
  · have k := k.2 c
    refine go_aload_n (pc2 := 118) dX4_run_117 rfl rfl rfl ?_
    refine gf_316 (pc2 := 121) rfl dX4_run_118 rfl c_64 (fvs r_64_3) ?_
    refine go_iload (pc2 := 123) dX4_run_121 rfl rfl ?_
    refine go_dup2 (pc2 := 124) dX4_run_123 rfl rfl rfl ?_
    obtain ⟨y1, k⟩ := k
    refine go_iaload (pc2 := 125) (j := (x5).toNatClampNeg) dX4_run_124 rfl c_65 y1 rfl ?_
    refine go_iload (pc2 := 127) dX4_run_125 rfl rfl ?_
    refine go_iload (pc2 := 129) dX4_run_127 rfl rfl ?_
    refine go_ishr (pc2 := 130) dX4_run_129 rfl ?_
    refine go_iconst (pc2 := 131) (v := (1 : Int32)) dX4_run_130 rfl (by decide) ?_
    refine go_iand (pc2 := 132) dX4_run_131 rfl ?_
    refine go_iload_n (pc2 := 133) dX4_run_132 rfl rfl rfl ?_
    refine go_ishl (pc2 := 134) dX4_run_133 rfl ?_
    refine go_ior (pc2 := 135) dX4_run_134 rfl ?_
    obtain ⟨y2, k⟩ := k
    refine go_iastore (pc2 := 136) (j := (x5).toNatClampNeg) dX4_run_135 rfl c_65 y2 rfl ?_
    obtain ⟨g3, eg3⟩ : ∃ y : Hp, y = (ui h 65 (x5).toNatClampNeg ((h.1 65 (x5).toNatClampNeg) ||| (((x4 >>> (x5 &&& 31)) &&& (1 : Int32)) <<< (x2 &&& 31)))) := ⟨_, rfl⟩
    rw [← eg3]
    have k := k g3 eg3
    refine go_iinc (pc2 := 139) (ls2 := [(0, .ref 64), (1, .int x1), (2, .int x2), (4, .int x4), (5, .int (x5 + 1))]) (v := (x5 + 1)) dX4_run_136 rfl rfl rfl rfl rfl rfl rfl ?_
    refine go_goto (tgt := 105) dX4_run_139 (by decide) ?_
    exact k
theorem e_X4_nearest {x1 : Int32} {x2 : Int32} {h : Hp} {Q : Int32 → Hp → Prop}  (k : GoI 4 mX4_nearest 12 [(0, .ref 64), (1, .int x1), (2, .int x2), (3, .int (-9 : Int32)), (4, .int (0 : Int32)), (5, .int (0 : Int32)), (6, .int (0 : Int32))] [] h Q) : CtI 4 mX4_nearest [.ref 64, .int x1, .int x2] h Q := by
  refine Ct.of (by decide +kernel) (Nat.le_of_ble_eq_true rfl) ?_
  show GoI 4 mX4_nearest 0 [(0, .ref 64), (1, .int x1), (2, .int x2)] [] h Q
  refine go_bipush (pc2 := 2) (v := (-9 : Int32)) dX4_nearest_0 rfl (by decide) ?_
  refine go_istore_n (pc2 := 3) (ls2 := [(0, .ref 64), (1, .int x1), (2, .int x2), (3, .int (-9 : Int32))]) dX4_nearest_2 rfl rfl rfl rfl rfl rfl ?_
  refine go_iconst (pc2 := 4) (v := (0 : Int32)) dX4_nearest_3 rfl (by decide) ?_
  refine go_istore (pc2 := 6) (ls2 := [(0, .ref 64), (1, .int x1), (2, .int x2), (3, .int (-9 : Int32)), (4, .int (0 : Int32))]) dX4_nearest_4 rfl rfl rfl rfl rfl ?_
  refine go_iconst (pc2 := 7) (v := (0 : Int32)) dX4_nearest_6 rfl (by decide) ?_
  refine go_istore (pc2 := 9) (ls2 := [(0, .ref 64), (1, .int x1), (2, .int x2), (3, .int (-9 : Int32)), (4, .int (0 : Int32)), (5, .int (0 : Int32))]) dX4_nearest_7 rfl rfl rfl rfl rfl ?_
  refine go_iconst (pc2 := 10) (v := (0 : Int32)) dX4_nearest_9 rfl (by decide) ?_
  refine go_istore (pc2 := 12) (ls2 := [(0, .ref 64), (1, .int x1), (2, .int x2), (3, .int (-9 : Int32)), (4, .int (0 : Int32)), (5, .int (0 : Int32)), (6, .int (0 : Int32))]) dX4_nearest_10 rfl rfl rfl rfl rfl ?_
  exact k
theorem b_X4_nearest_12 {x1 : Int32} {x2 : Int32} {x3 : Int32} {x4 : Int32} {x5 : Int32} {x6 : Int32} {h : Hp} {Q : Int32 → Hp → Prop}  (k : ((((1 : Int32) <<< ((h.1 1 5) &&& 31)) ≤ x6 → Q x3 h) ∧ (¬ (((1 : Int32) <<< ((h.1 1 5) &&& 31)) ≤ x6) → (∃ Q1, CtI 3 mX9_tried [.ref 36, .int x1, .int x6] h Q1 ∧ ∀ (v3 : Int32) (h4 : Hp), Q1 v3 h4 → (∃ Q6, CtI 0 mJ6_bitCount_0f7a4 [.int (x6 ^^^ x2)] h4 Q6 ∧ ∀ (v8 : Int32) (h9 : Hp), Q6 v8 h9 → ((v8 < x4 → GoI 4 mX4_nearest 68 [(0, .ref 64), (1, .int x1), (2, .int x2), (3, .int x3), (4, .int x4), (5, .int x5), (6, .int x6), (7, .int v3), (8, .int v8)] [] h9 Q) ∧ (¬ (v8 < x4) → ((¬ v8 = x4 → GoI 4 mX4_nearest 72 [(0, .ref 64), (1, .int x1), (2, .int x2), (3, .int x3), (4, .int x4), (5, .int x5), (6, .int x6), (7, .int v3), (8, .int v8)] [] h9 Q) ∧ (v8 = x4 → ((x5 ≤ v3 → GoI 4 mX4_nearest 72 [(0, .ref 64), (1, .int x1), (2, .int x2), (3, .int x3), (4, .int x4), (5, .int x5), (6, .int x6), (7, .int v3), (8, .int v8)] [] h9 Q) ∧ (¬ (x5 ≤ v3) → GoI 4 mX4_nearest 68 [(0, .ref 64), (1, .int x1), (2, .int x2), (3, .int x3), (4, .int x4), (5, .int x5), (6, .int x6), (7, .int v3), (8, .int v8)] [] h9 Q))))))))))) : GoI 4 mX4_nearest 12 [(0, .ref 64), (1, .int x1), (2, .int x2), (3, .int x3), (4, .int x4), (5, .int x5), (6, .int x6)] [] h Q := by
  refine go_iload (pc2 := 14) dX4_nearest_12 rfl rfl ?_
  refine go_iconst (pc2 := 15) (v := (1 : Int32)) dX4_nearest_14 rfl (by decide) ?_
  refine go_aload_n (pc2 := 16) dX4_nearest_15 rfl rfl rfl ?_
  refine gf_313 (pc2 := 19) rfl dX4_nearest_16 rfl c_64 (fvs r_64_0) ?_
  refine gf_124 (pc2 := 22) rfl dX4_nearest_19 rfl c_1 fvi ?_
  refine go_ishl (pc2 := 23) dX4_nearest_22 rfl ?_
  refine go_icmp_ge (pc2 := 26) (tgt := 106) dX4_nearest_23 rfl (by decide) (fun c => ?_) (fun c => ?_)
  · have k := k.1 c
    refine go_iload_n (pc2 := 107) dX4_nearest_106 rfl rfl rfl ?_
    exact go_iret dX4_nearest_107 ⟨_, rfl, rfl⟩ ⟨rfl, _, rfl, k⟩
  · have k := k.2 c
    refine go_aload_n (pc2 := 27) dX4_nearest_26 rfl rfl rfl ?_
    refine gf_315 (pc2 := 30) rfl dX4_nearest_27 rfl c_64 (fvs r_64_2) ?_
    refine go_iload_n (pc2 := 31) dX4_nearest_30 rfl rfl rfl ?_
    refine go_iload (pc2 := 33) dX4_nearest_31 rfl rfl ?_
    obtain ⟨Q1, hC2, k⟩ := k
    refine gcVN_I (pc2 := 36) (dC := 3) (As := [.int x1, .int x6]) (st := []) rfl dX4_nearest_33 rfl w_932 ok_X9_tried vi_X9_tried c_36 (by decide) rfl rfl rfl (by decide) (Nat.le_of_ble_eq_true rfl) hC2 (fun v3 h4 hq5 => ?_)
    have k := k v3 h4 hq5
    refine go_istore (pc2 := 38) (ls2 := [(0, .ref 64), (1, .int x1), (2, .int x2), (3, .int x3), (4, .int x4), (5, .int x5), (6, .int x6), (7, .int v3)]) dX4_nearest_36 rfl rfl rfl rfl rfl ?_
    refine go_iload (pc2 := 40) dX4_nearest_38 rfl rfl ?_
    refine go_iload_n (pc2 := 41) dX4_nearest_40 rfl rfl rfl ?_
    refine go_ixor (pc2 := 42) dX4_nearest_41 rfl ?_
    obtain ⟨Q6, hC7, k⟩ := k
    refine gcS_I (pc2 := 45) (dC := 0) (As := [.int (x6 ^^^ x2)]) (st := []) rfl dX4_nearest_42 rfl w_933 ok_J6_bitCount_0f7a4 w_824 rfl (by decide) (Nat.le_of_ble_eq_true rfl) hC7 (fun v8 h9 hq10 => ?_)
    have k := k v8 h9 hq10
    refine go_istore (pc2 := 47) (ls2 := [(0, .ref 64), (1, .int x1), (2, .int x2), (3, .int x3), (4, .int x4), (5, .int x5), (6, .int x6), (7, .int v3), (8, .int v8)]) dX4_nearest_45 rfl rfl rfl rfl rfl ?_
    refine go_iload (pc2 := 49) dX4_nearest_47 rfl rfl ?_
    refine go_iload (pc2 := 51) dX4_nearest_49 rfl rfl ?_
    refine go_icmp_lt (pc2 := 54) (tgt := 68) dX4_nearest_51 rfl (by decide) (fun c => ?_) (fun c => ?_)
    · have k := k.1 c
      exact k
    · have k := k.2 c
      refine go_iload (pc2 := 56) dX4_nearest_54 rfl rfl ?_
      refine go_iload (pc2 := 58) dX4_nearest_56 rfl rfl ?_
      refine go_icmp_ne (pc2 := 61) (tgt := 72) dX4_nearest_58 rfl (by decide) (fun c => ?_) (fun c => ?_)
      · have k := k.1 c
        exact k
      · have k := k.2 c
        refine go_iload (pc2 := 63) dX4_nearest_61 rfl rfl ?_
        refine go_iload (pc2 := 65) dX4_nearest_63 rfl rfl ?_
        refine go_icmp_ge (pc2 := 68) (tgt := 72) dX4_nearest_65 rfl (by decide) (fun c => ?_) (fun c => ?_)
        · have k := k.1 c
          exact k
        · have k := k.2 c
          exact k
theorem b_X4_nearest_68 {x1 : Int32} {x2 : Int32} {x3 : Int32} {x4 : Int32} {x5 : Int32} {x6 : Int32} {x7 : Int32} {x8 : Int32} {h : Hp} {Q : Int32 → Hp → Prop}  (k : GoI 4 mX4_nearest 73 [(0, .ref 64), (1, .int x1), (2, .int x2), (3, .int x3), (4, .int x4), (5, .int x5), (6, .int x6), (7, .int x7), (8, .int x8)] [.int (1 : Int32)] h Q) : GoI 4 mX4_nearest 68 [(0, .ref 64), (1, .int x1), (2, .int x2), (3, .int x3), (4, .int x4), (5, .int x5), (6, .int x6), (7, .int x7), (8, .int x8)] [] h Q := by
  refine go_iconst (pc2 := 69) (v := (1 : Int32)) dX4_nearest_68 rfl (by decide) ?_
  refine go_goto (tgt := 73) dX4_nearest_69 (by decide) ?_
  exact k
theorem b_X4_nearest_72 {x1 : Int32} {x2 : Int32} {x3 : Int32} {x4 : Int32} {x5 : Int32} {x6 : Int32} {x7 : Int32} {x8 : Int32} {h : Hp} {Q : Int32 → Hp → Prop}  (k : GoI 4 mX4_nearest 73 [(0, .ref 64), (1, .int x1), (2, .int x2), (3, .int x3), (4, .int x4), (5, .int x5), (6, .int x6), (7, .int x7), (8, .int x8)] [.int (0 : Int32)] h Q) : GoI 4 mX4_nearest 72 [(0, .ref 64), (1, .int x1), (2, .int x2), (3, .int x3), (4, .int x4), (5, .int x5), (6, .int x6), (7, .int x7), (8, .int x8)] [] h Q := by
  refine go_iconst (pc2 := 73) (v := (0 : Int32)) dX4_nearest_72 rfl (by decide) ?_
  exact k
theorem b_X4_nearest_73 {x1 : Int32} {x2 : Int32} {x3 : Int32} {x4 : Int32} {x5 : Int32} {x6 : Int32} {x7 : Int32} {x8 : Int32} {s0 : Int32} {h : Hp} {Q : Int32 → Hp → Prop}  (k : ((x7 < 0 → GoI 4 mX4_nearest 100 [(0, .ref 64), (1, .int x1), (2, .int x2), (3, .int x3), (4, .int x4), (5, .int x5), (6, .int x6)] [] h Q) ∧ (¬ (x7 < 0) → ((x3 < 0 → GoI 4 mX4_nearest 89 [(0, .ref 64), (1, .int x1), (2, .int x2), (6, .int x6), (7, .int x7), (8, .int x8)] [] h Q) ∧ (¬ (x3 < 0) → ((s0 = 0 → GoI 4 mX4_nearest 100 [(0, .ref 64), (1, .int x1), (2, .int x2), (3, .int x3), (4, .int x4), (5, .int x5), (6, .int x6)] [] h Q) ∧ (¬ s0 = 0 → GoI 4 mX4_nearest 89 [(0, .ref 64), (1, .int x1), (2, .int x2), (6, .int x6), (7, .int x7), (8, .int x8)] [] h Q))))))) : GoI 4 mX4_nearest 73 [(0, .ref 64), (1, .int x1), (2, .int x2), (3, .int x3), (4, .int x4), (5, .int x5), (6, .int x6), (7, .int x7), (8, .int x8)] [.int s0] h Q := by
  refine go_istore (pc2 := 75) (ls2 := [(0, .ref 64), (1, .int x1), (2, .int x2), (3, .int x3), (4, .int x4), (5, .int x5), (6, .int x6), (7, .int x7), (8, .int x8), (9, .int s0)]) dX4_nearest_73 rfl rfl rfl rfl rfl ?_
  refine go_iload (pc2 := 77) dX4_nearest_75 rfl rfl ?_
  refine go_if_lt (pc2 := 80) (tgt := 100) dX4_nearest_77 rfl (by decide) (fun c => ?_) (fun c => ?_)
  · have k := k.1 c
    exact Go.pick [0, 1, 2, 3, 4, 5, 6] rfl k
  · have k := k.2 c
    refine go_iload_n (pc2 := 81) dX4_nearest_80 rfl rfl rfl ?_
    refine go_if_lt (pc2 := 84) (tgt := 89) dX4_nearest_81 rfl (by decide) (fun c => ?_) (fun c => ?_)
    · have k := k.1 c
      exact Go.pick [0, 1, 2, 6, 7, 8] rfl k
    · have k := k.2 c
      refine go_iload (pc2 := 86) dX4_nearest_84 rfl rfl ?_
      refine go_if_eq (pc2 := 89) (tgt := 100) dX4_nearest_86 rfl (by decide) (fun c => ?_) (fun c => ?_)
      · have k := k.1 c
        exact Go.pick [0, 1, 2, 3, 4, 5, 6] rfl k
      · have k := k.2 c
        exact Go.pick [0, 1, 2, 6, 7, 8] rfl k
theorem b_X4_nearest_100 {x1 : Int32} {x2 : Int32} {x3 : Int32} {x4 : Int32} {x5 : Int32} {x6 : Int32} {h : Hp} {Q : Int32 → Hp → Prop}  (k : GoI 4 mX4_nearest 12 [(0, .ref 64), (1, .int x1), (2, .int x2), (3, .int x3), (4, .int x4), (5, .int x5), (6, .int (x6 + 1))] [] h Q) : GoI 4 mX4_nearest 100 [(0, .ref 64), (1, .int x1), (2, .int x2), (3, .int x3), (4, .int x4), (5, .int x5), (6, .int x6)] [] h Q := by
  refine go_iinc (pc2 := 103) (ls2 := [(0, .ref 64), (1, .int x1), (2, .int x2), (3, .int x3), (4, .int x4), (5, .int x5), (6, .int (x6 + 1))]) (v := (x6 + 1)) dX4_nearest_100 rfl rfl rfl rfl rfl rfl rfl ?_
  refine go_goto (tgt := 12) dX4_nearest_103 (by decide) ?_
  exact k
theorem b_X4_nearest_89 {x1 : Int32} {x2 : Int32} {x6 : Int32} {x7 : Int32} {x8 : Int32} {h : Hp} {Q : Int32 → Hp → Prop}  (k : GoI 4 mX4_nearest 100 [(0, .ref 64), (1, .int x1), (2, .int x2), (3, .int x6), (4, .int x8), (5, .int x7), (6, .int x6)] [] h Q) : GoI 4 mX4_nearest 89 [(0, .ref 64), (1, .int x1), (2, .int x2), (6, .int x6), (7, .int x7), (8, .int x8)] [] h Q := by
  refine go_iload (pc2 := 91) dX4_nearest_89 rfl rfl ?_
  refine go_istore_n (pc2 := 92) (ls2 := [(0, .ref 64), (1, .int x1), (2, .int x2), (3, .int x6), (6, .int x6), (7, .int x7), (8, .int x8)]) dX4_nearest_91 rfl rfl rfl rfl rfl rfl ?_
  refine go_iload (pc2 := 94) dX4_nearest_92 rfl rfl ?_
  refine go_istore (pc2 := 96) (ls2 := [(0, .ref 64), (1, .int x1), (2, .int x2), (3, .int x6), (4, .int x8), (6, .int x6), (7, .int x7), (8, .int x8)]) dX4_nearest_94 rfl rfl rfl rfl rfl ?_
  refine go_iload (pc2 := 98) dX4_nearest_96 rfl rfl ?_
  refine go_istore (pc2 := 100) (ls2 := [(0, .ref 64), (1, .int x1), (2, .int x2), (3, .int x6), (4, .int x8), (5, .int x7), (6, .int x6), (7, .int x7), (8, .int x8)]) dX4_nearest_98 rfl rfl rfl rfl rfl ?_
  exact Go.pick [0, 1, 2, 3, 4, 5, 6] rfl k
theorem e_X5_copyFrom {x0 : Nat} {x1 : Nat} {h : Hp} {Q : Hp → Prop} (hx0 : isSc x0) (hx1 : isSc x1) (k : (∀ g1 : Hp, g1 = (ui h x0 0 (h.1 x1 0)) → (∀ g2 : Hp, g2 = (uc g1 (x0 + 1) (va_cpy (g1.1 (x1 + 1)) (g1.1 (x0 + 1)) 0 0 5)) → (∀ g3 : Hp, g3 = (uc g2 (x0 + 2) (va_cpy (g2.1 (x1 + 2)) (g2.1 (x0 + 2)) 0 0 5)) → (∀ g4 : Hp, g4 = (uc g3 (x0 + 3) (va_cpy (g3.1 (x1 + 3)) (g3.1 (x0 + 3)) 0 0 5)) → GoV 1 mX5_copyFrom 52 [(0, .ref x0), (1, .ref x1), (2, .int (0 : Int32))] [] g4 Q))))) : CtV 1 mX5_copyFrom [.ref x0, .ref x1] h Q := by
  refine Ct.of (by decide +kernel) (Nat.le_of_ble_eq_true rfl) ?_
  show GoV 1 mX5_copyFrom 0 [(0, .ref x0), (1, .ref x1)] [] h Q
  refine go_aload_n (pc2 := 1) dX5_copyFrom_0 rfl rfl rfl ?_
  refine go_aload_n (pc2 := 2) dX5_copyFrom_1 rfl rfl rfl ?_
  refine gf_97 (pc2 := 5) rfl dX5_copyFrom_2 rfl hx1.1 fvi ?_
  refine pf_97 (pc2 := 8) rfl dX5_copyFrom_5 rfl hx0.1 ?_
  obtain ⟨g1, eg1⟩ : ∃ y : Hp, y = (ui h x0 0 (h.1 x1 0)) := ⟨_, rfl⟩
  rw [← eg1]
  have k := k g1 eg1
  refine go_aload_n (pc2 := 9) dX5_copyFrom_8 rfl rfl rfl ?_
  refine gf_102 (pc2 := 12) rfl dX5_copyFrom_9 rfl hx1.1 (fvs hx1.2.1) ?_
  refine go_iconst (pc2 := 13) (v := (0 : Int32)) dX5_copyFrom_12 rfl (by decide) ?_
  refine go_aload_n (pc2 := 14) dX5_copyFrom_13 rfl rfl rfl ?_
  refine gf_102 (pc2 := 17) rfl dX5_copyFrom_14 rfl hx0.1 (fvs hx0.2.1) ?_
  refine go_iconst (pc2 := 18) (v := (0 : Int32)) dX5_copyFrom_17 rfl (by decide) ?_
  refine go_iconst (pc2 := 19) (v := (5 : Int32)) dX5_copyFrom_18 rfl (by decide) ?_
  refine go_copyi (pc2 := 22) rfl dX5_copyFrom_19 rfl fin_w0 w_429 w_431 w_430 w_13 (by decide) (Nat.le_of_ble_eq_true rfl) hx1.2.2.2.2.2.1 hx0.2.2.2.2.2.1 (by decide) (by decide) (by decide) (by decide : _ = 0) (by decide : _ = 0) (by decide : _ = 5) (by decide) (by decide) ?_
  obtain ⟨g2, eg2⟩ : ∃ y : Hp, y = (uc g1 (x0 + 1) (va_cpy (g1.1 (x1 + 1)) (g1.1 (x0 + 1)) 0 0 5)) := ⟨_, rfl⟩
  rw [← eg2]
  have k := k g2 eg2
  refine go_aload_n (pc2 := 23) dX5_copyFrom_22 rfl rfl rfl ?_
  refine gf_107 (pc2 := 26) rfl dX5_copyFrom_23 rfl hx1.1 (fvs hx1.2.2.1) ?_
  refine go_iconst (pc2 := 27) (v := (0 : Int32)) dX5_copyFrom_26 rfl (by decide) ?_
  refine go_aload_n (pc2 := 28) dX5_copyFrom_27 rfl rfl rfl ?_
  refine gf_107 (pc2 := 31) rfl dX5_copyFrom_28 rfl hx0.1 (fvs hx0.2.2.1) ?_
  refine go_iconst (pc2 := 32) (v := (0 : Int32)) dX5_copyFrom_31 rfl (by decide) ?_
  refine go_iconst (pc2 := 33) (v := (5 : Int32)) dX5_copyFrom_32 rfl (by decide) ?_
  refine go_copyi (pc2 := 36) rfl dX5_copyFrom_33 rfl fin_w0 w_429 w_431 w_430 w_13 (by decide) (Nat.le_of_ble_eq_true rfl) hx1.2.2.2.2.2.2.1 hx0.2.2.2.2.2.2.1 (by decide) (by decide) (by decide) (by decide : _ = 0) (by decide : _ = 0) (by decide : _ = 5) (by decide) (by decide) ?_
  obtain ⟨g3, eg3⟩ : ∃ y : Hp, y = (uc g2 (x0 + 2) (va_cpy (g2.1 (x1 + 2)) (g2.1 (x0 + 2)) 0 0 5)) := ⟨_, rfl⟩
  rw [← eg3]
  have k := k g3 eg3
  refine go_aload_n (pc2 := 37) dX5_copyFrom_36 rfl rfl rfl ?_
  refine gf_111 (pc2 := 40) rfl dX5_copyFrom_37 rfl hx1.1 (fvs hx1.2.2.2.1) ?_
  refine go_iconst (pc2 := 41) (v := (0 : Int32)) dX5_copyFrom_40 rfl (by decide) ?_
  refine go_aload_n (pc2 := 42) dX5_copyFrom_41 rfl rfl rfl ?_
  refine gf_111 (pc2 := 45) rfl dX5_copyFrom_42 rfl hx0.1 (fvs hx0.2.2.2.1) ?_
  refine go_iconst (pc2 := 46) (v := (0 : Int32)) dX5_copyFrom_45 rfl (by decide) ?_
  refine go_iconst (pc2 := 47) (v := (5 : Int32)) dX5_copyFrom_46 rfl (by decide) ?_
  refine go_copyi (pc2 := 50) rfl dX5_copyFrom_47 rfl fin_w0 w_429 w_431 w_430 w_13 (by decide) (Nat.le_of_ble_eq_true rfl) hx1.2.2.2.2.2.2.2.1 hx0.2.2.2.2.2.2.2.1 (by decide) (by decide) (by decide) (by decide : _ = 0) (by decide : _ = 0) (by decide : _ = 5) (by decide) (by decide) ?_
  obtain ⟨g4, eg4⟩ : ∃ y : Hp, y = (uc g3 (x0 + 3) (va_cpy (g3.1 (x1 + 3)) (g3.1 (x0 + 3)) 0 0 5)) := ⟨_, rfl⟩
  rw [← eg4]
  have k := k g4 eg4
  refine go_iconst (pc2 := 51) (v := (0 : Int32)) dX5_copyFrom_50 rfl (by decide) ?_
  refine go_istore_n (pc2 := 52) (ls2 := [(0, .ref x0), (1, .ref x1), (2, .int (0 : Int32))]) dX5_copyFrom_51 rfl rfl rfl rfl rfl rfl ?_
  exact k
theorem b_X5_copyFrom_52 {x0 : Nat} {x1 : Nat} {x2 : Int32} {h : Hp} {Q : Hp → Prop} (hx0 : isSc x0) (hx1 : isSc x1) (k : (((3 : Int32) ≤ x2 → (∀ g1 : Hp, g1 = (ui h x0 5 (h.1 x1 5)) → (∀ g2 : Hp, g2 = (ui g1 x0 6 (g1.1 x1 6)) → (∀ g3 : Hp, g3 = (ui g2 x0 7 (g2.1 x1 7)) → (∀ g4 : Hp, g4 = (ul g3 x0 8 (g3.2 x1 8)) → Q g4))))) ∧ (¬ ((3 : Int32) ≤ x2) → (vp_in x2 3 ∧ (vp_in x2 3 ∧ (∃ Q7, CtV 0 mX3_copyFrom [.ref (x0 + 5 + (x2).toNatClampNeg), .ref (x1 + 5 + (x2).toNatClampNeg)] h Q7 ∧ ∀ h10 : Hp, Q7 h10 → GoV 1 mX5_copyFrom 52 [(0, .ref x0), (1, .ref x1), (2, .int (x2 + 1))] [] h10 Q)))))) : GoV 1 mX5_copyFrom 52 [(0, .ref x0), (1, .ref x1), (2, .int x2)] [] h Q := by
  refine go_iload_n (pc2 := 53) dX5_copyFrom_52 rfl rfl rfl ?_
  refine go_iconst (pc2 := 54) (v := (3 : Int32)) dX5_copyFrom_53 rfl (by decide) ?_
  refine go_icmp_ge (pc2 := 57) (tgt := 78) dX5_copyFrom_54 rfl (by decide) (fun c => ?_) (fun c => ?_)
  · have k := k.1 c
    refine go_aload_n (pc2 := 79) dX5_copyFrom_78 rfl rfl rfl ?_
    refine go_aload_n (pc2 := 80) dX5_copyFrom_79 rfl rfl rfl ?_
    refine gf_120 (pc2 := 83) rfl dX5_copyFrom_80 rfl hx1.1 fvi ?_
    refine pf_120 (pc2 := 86) rfl dX5_copyFrom_83 rfl hx0.1 ?_
    obtain ⟨g1, eg1⟩ : ∃ y : Hp, y = (ui h x0 5 (h.1 x1 5)) := ⟨_, rfl⟩
    rw [← eg1]
    have k := k g1 eg1
    refine go_aload_n (pc2 := 87) dX5_copyFrom_86 rfl rfl rfl ?_
    refine go_aload_n (pc2 := 88) dX5_copyFrom_87 rfl rfl rfl ?_
    refine gf_127 (pc2 := 91) rfl dX5_copyFrom_88 rfl hx1.1 fvi ?_
    refine pf_127 (pc2 := 94) rfl dX5_copyFrom_91 rfl hx0.1 ?_
    obtain ⟨g2, eg2⟩ : ∃ y : Hp, y = (ui g1 x0 6 (g1.1 x1 6)) := ⟨_, rfl⟩
    rw [← eg2]
    have k := k g2 eg2
    refine go_aload_n (pc2 := 95) dX5_copyFrom_94 rfl rfl rfl ?_
    refine go_aload_n (pc2 := 96) dX5_copyFrom_95 rfl rfl rfl ?_
    refine gf_130 (pc2 := 99) rfl dX5_copyFrom_96 rfl hx1.1 fvi ?_
    refine pf_130 (pc2 := 102) rfl dX5_copyFrom_99 rfl hx0.1 ?_
    obtain ⟨g3, eg3⟩ : ∃ y : Hp, y = (ui g2 x0 7 (g2.1 x1 7)) := ⟨_, rfl⟩
    rw [← eg3]
    have k := k g3 eg3
    refine go_aload_n (pc2 := 103) dX5_copyFrom_102 rfl rfl rfl ?_
    refine go_aload_n (pc2 := 104) dX5_copyFrom_103 rfl rfl rfl ?_
    refine gf_133 (pc2 := 107) rfl dX5_copyFrom_104 rfl hx1.1 fvl ?_
    refine pf_133 (pc2 := 110) rfl dX5_copyFrom_107 rfl hx0.1 ?_
    obtain ⟨g4, eg4⟩ : ∃ y : Hp, y = (ul g3 x0 8 (g3.2 x1 8)) := ⟨_, rfl⟩
    rw [← eg4]
    have k := k g4 eg4
    exact go_ret dX5_copyFrom_110 rfl ⟨rfl, rfl, k⟩
  · have k := k.2 c
    refine go_aload_n (pc2 := 58) dX5_copyFrom_57 rfl rfl rfl ?_
    refine gf_114 (pc2 := 61) rfl dX5_copyFrom_58 rfl hx0.1 (fvs hx0.2.2.2.2.1) ?_
    refine go_iload_n (pc2 := 62) dX5_copyFrom_61 rfl rfl rfl ?_
    obtain ⟨y5, k⟩ := k
    refine go_aaload (pc2 := 63) (t := 0) dX5_copyFrom_62 rfl (by decide) hx0.2.2.2.2.2.2.2.2.1 y5 rfl (rfo_s (hx0.2.2.2.2.2.2.2.2.2 _ (vp_lt y5)).1) ?_
    refine go_aload_n (pc2 := 64) dX5_copyFrom_63 rfl rfl rfl ?_
    refine gf_114 (pc2 := 67) rfl dX5_copyFrom_64 rfl hx1.1 (fvs hx1.2.2.2.2.1) ?_
    refine go_iload_n (pc2 := 68) dX5_copyFrom_67 rfl rfl rfl ?_
    obtain ⟨y6, k⟩ := k
    refine go_aaload (pc2 := 69) (t := 0) dX5_copyFrom_68 rfl (by decide) hx1.2.2.2.2.2.2.2.2.1 y6 rfl (rfo_s (hx1.2.2.2.2.2.2.2.2.2 _ (vp_lt y6)).1) ?_
    obtain ⟨Q7, hC8, k⟩ := k
    refine gcVN_V (pc2 := 72) (dC := 0) (As := [.ref (x1 + 5 + (x2).toNatClampNeg)]) (st := []) rfl dX5_copyFrom_69 rfl w_432 ok_X3_copyFrom vi_X3_copyFrom (hx0.2.2.2.2.2.2.2.2.2 _ (vp_lt y5)).2 (by decide) rfl rfl rfl (by decide) (Nat.le_of_ble_eq_true rfl) hC8 (fun h10 hq11 => ?_)
    have k := k h10 hq11
    refine go_iinc (pc2 := 75) (ls2 := [(0, .ref x0), (1, .ref x1), (2, .int (x2 + 1))]) (v := (x2 + 1)) dX5_copyFrom_72 rfl rfl rfl rfl rfl rfl rfl ?_
    refine go_goto (tgt := 52) dX5_copyFrom_75 (by decide) ?_
    exact k
theorem e_X5_noHour {x1 : Int32} {h : Hp} {Q : Int32 → Hp → Prop}  (k : ((x1 < 0 → Q (1 : Int32) h) ∧ (¬ (x1 < 0) → ((x1 < (h.1 1 0) → Q (0 : Int32) h) ∧ (¬ (x1 < (h.1 1 0)) → Q (1 : Int32) h))))) : CtI 0 mX5_noHour [.ref 1, .int x1] h Q := by
  refine Ct.of (by decide +kernel) (Nat.le_of_ble_eq_true rfl) ?_
  show GoI 0 mX5_noHour 0 [(0, .ref 1), (1, .int x1)] [] h Q
  refine go_iload_n (pc2 := 1) dX5_noHour_0 rfl rfl rfl ?_
  refine go_if_lt (pc2 := 4) (tgt := 12) dX5_noHour_1 rfl (by decide) (fun c => ?_) (fun c => ?_)
  · have k := k.1 c
    refine go_iconst (pc2 := 13) (v := (1 : Int32)) dX5_noHour_12 rfl (by decide) ?_
    refine go_goto (tgt := 17) dX5_noHour_13 (by decide) ?_
    exact go_iret dX5_noHour_17 ⟨_, rfl, rfl⟩ ⟨rfl, _, rfl, k⟩
  · have k := k.2 c
    refine go_iload_n (pc2 := 5) dX5_noHour_4 rfl rfl rfl ?_
    refine go_aload_n (pc2 := 6) dX5_noHour_5 rfl rfl rfl ?_
    refine gf_97 (pc2 := 9) rfl dX5_noHour_6 rfl c_1 fvi ?_
    refine go_icmp_lt (pc2 := 12) (tgt := 16) dX5_noHour_9 rfl (by decide) (fun c => ?_) (fun c => ?_)
    · have k := k.1 c
      refine go_iconst (pc2 := 17) (v := (0 : Int32)) dX5_noHour_16 rfl (by decide) ?_
      exact go_iret dX5_noHour_17 ⟨_, rfl, rfl⟩ ⟨rfl, _, rfl, k⟩
    · have k := k.2 c
      refine go_iconst (pc2 := 13) (v := (1 : Int32)) dX5_noHour_12 rfl (by decide) ?_
      refine go_goto (tgt := 17) dX5_noHour_13 (by decide) ?_
      exact go_iret dX5_noHour_17 ⟨_, rfl, rfl⟩ ⟨rfl, _, rfl, k⟩
theorem e_X5_noPlant {x1 : Int32} {h : Hp} {Q : Int32 → Hp → Prop}  (k : ((x1 < 0 → Q (1 : Int32) h) ∧ (¬ (x1 < 0) → ((x1 < (h.1 1 5) → Q (0 : Int32) h) ∧ (¬ (x1 < (h.1 1 5)) → Q (1 : Int32) h))))) : CtI 0 mX5_noPlant [.ref 1, .int x1] h Q := by
  refine Ct.of (by decide +kernel) (Nat.le_of_ble_eq_true rfl) ?_
  show GoI 0 mX5_noPlant 0 [(0, .ref 1), (1, .int x1)] [] h Q
  refine go_iload_n (pc2 := 1) dX5_noPlant_0 rfl rfl rfl ?_
  refine go_if_lt (pc2 := 4) (tgt := 12) dX5_noPlant_1 rfl (by decide) (fun c => ?_) (fun c => ?_)
  · have k := k.1 c
    refine go_iconst (pc2 := 13) (v := (1 : Int32)) dX5_noPlant_12 rfl (by decide) ?_
    refine go_goto (tgt := 17) dX5_noPlant_13 (by decide) ?_
    exact go_iret dX5_noPlant_17 ⟨_, rfl, rfl⟩ ⟨rfl, _, rfl, k⟩
  · have k := k.2 c
    refine go_iload_n (pc2 := 5) dX5_noPlant_4 rfl rfl rfl ?_
    refine go_aload_n (pc2 := 6) dX5_noPlant_5 rfl rfl rfl ?_
    refine gf_120 (pc2 := 9) rfl dX5_noPlant_6 rfl c_1 fvi ?_
    refine go_icmp_lt (pc2 := 12) (tgt := 16) dX5_noPlant_9 rfl (by decide) (fun c => ?_) (fun c => ?_)
    · have k := k.1 c
      refine go_iconst (pc2 := 17) (v := (0 : Int32)) dX5_noPlant_16 rfl (by decide) ?_
      exact go_iret dX5_noPlant_17 ⟨_, rfl, rfl⟩ ⟨rfl, _, rfl, k⟩
    · have k := k.2 c
      refine go_iconst (pc2 := 13) (v := (1 : Int32)) dX5_noPlant_12 rfl (by decide) ?_
      refine go_goto (tgt := 17) dX5_noPlant_13 (by decide) ?_
      exact go_iret dX5_noPlant_17 ⟨_, rfl, rfl⟩ ⟨rfl, _, rfl, k⟩
theorem e_X5_demandOfAll  {h : Hp} {Q : Int32 → Hp → Prop}  (k : GoI 0 mX5_demandOfAll 4 [(0, .ref 1), (1, .int (0 : Int32)), (2, .int (0 : Int32))] [] h Q) : CtI 0 mX5_demandOfAll [.ref 1] h Q := by
  refine Ct.of (by decide +kernel) (Nat.le_of_ble_eq_true rfl) ?_
  show GoI 0 mX5_demandOfAll 0 [(0, .ref 1)] [] h Q
  refine go_iconst (pc2 := 1) (v := (0 : Int32)) dX5_demandOfAll_0 rfl (by decide) ?_
  refine go_istore_n (pc2 := 2) (ls2 := [(0, .ref 1), (1, .int (0 : Int32))]) dX5_demandOfAll_1 rfl rfl rfl rfl rfl rfl ?_
  refine go_iconst (pc2 := 3) (v := (0 : Int32)) dX5_demandOfAll_2 rfl (by decide) ?_
  refine go_istore_n (pc2 := 4) (ls2 := [(0, .ref 1), (1, .int (0 : Int32)), (2, .int (0 : Int32))]) dX5_demandOfAll_3 rfl rfl rfl rfl rfl rfl ?_
  exact k
theorem b_X5_demandOfAll_4 {x1 : Int32} {x2 : Int32} {h : Hp} {Q : Int32 → Hp → Prop}  (k : (((h.1 1 0) ≤ x2 → Q x1 h) ∧ (¬ ((h.1 1 0) ≤ x2) → (vp_in x2 5 ∧ GoI 0 mX5_demandOfAll 4 [(0, .ref 1), (1, .int (x1 + (h.1 2 (x2).toNatClampNeg))), (2, .int (x2 + 1))] [] h Q)))) : GoI 0 mX5_demandOfAll 4 [(0, .ref 1), (1, .int x1), (2, .int x2)] [] h Q := by
  refine go_iload_n (pc2 := 5) dX5_demandOfAll_4 rfl rfl rfl ?_
  refine go_aload_n (pc2 := 6) dX5_demandOfAll_5 rfl rfl rfl ?_
  refine gf_97 (pc2 := 9) rfl dX5_demandOfAll_6 rfl c_1 fvi ?_
  refine go_icmp_ge (pc2 := 12) (tgt := 27) dX5_demandOfAll_9 rfl (by decide) (fun c => ?_) (fun c => ?_)
  · have k := k.1 c
    refine go_iload_n (pc2 := 28) dX5_demandOfAll_27 rfl rfl rfl ?_
    exact go_iret dX5_demandOfAll_28 ⟨_, rfl, rfl⟩ ⟨rfl, _, rfl, k⟩
  · have k := k.2 c
    refine go_iload_n (pc2 := 13) dX5_demandOfAll_12 rfl rfl rfl ?_
    refine go_aload_n (pc2 := 14) dX5_demandOfAll_13 rfl rfl rfl ?_
    refine gf_102 (pc2 := 17) rfl dX5_demandOfAll_14 rfl c_1 (fvs r_1_1) ?_
    refine go_iload_n (pc2 := 18) dX5_demandOfAll_17 rfl rfl rfl ?_
    obtain ⟨y1, k⟩ := k
    refine go_iaload (pc2 := 19) (j := (x2).toNatClampNeg) dX5_demandOfAll_18 rfl c_2 y1 rfl ?_
    refine go_iadd (pc2 := 20) dX5_demandOfAll_19 rfl ?_
    refine go_istore_n (pc2 := 21) (ls2 := [(0, .ref 1), (1, .int (x1 + (h.1 2 (x2).toNatClampNeg))), (2, .int x2)]) dX5_demandOfAll_20 rfl rfl rfl rfl rfl rfl ?_
    refine go_iinc (pc2 := 24) (ls2 := [(0, .ref 1), (1, .int (x1 + (h.1 2 (x2).toNatClampNeg))), (2, .int (x2 + 1))]) (v := (x2 + 1)) dX5_demandOfAll_21 rfl rfl rfl rfl rfl rfl rfl ?_
    refine go_goto (tgt := 4) dX5_demandOfAll_24 (by decide) ?_
    exact k
theorem e_X5_setSpan {x1 : Int32} {h : Hp} {Q : Int32 → Hp → Prop}  (k : (((1 : Int32) ≤ x1 → ((x1 ≤ (5 : Int32) → (∀ g1 : Hp, g1 = (ui h 1 0 x1) → Q (h.1 1 0) g1)) ∧ (¬ (x1 ≤ (5 : Int32)) → Q (-6 : Int32) h))) ∧ (¬ ((1 : Int32) ≤ x1) → Q (-4 : Int32) h))) : CtI 0 mX5_setSpan [.ref 1, .int x1] h Q := by
  refine Ct.of (by decide +kernel) (Nat.le_of_ble_eq_true rfl) ?_
  show GoI 0 mX5_setSpan 0 [(0, .ref 1), (1, .int x1)] [] h Q
  refine go_iload_n (pc2 := 1) dX5_setSpan_0 rfl rfl rfl ?_
  refine go_iconst (pc2 := 2) (v := (1 : Int32)) dX5_setSpan_1 rfl (by decide) ?_
  refine go_icmp_ge (pc2 := 5) (tgt := 8) dX5_setSpan_2 rfl (by decide) (fun c => ?_) (fun c => ?_)
  · have k := k.1 c
    refine go_iload_n (pc2 := 9) dX5_setSpan_8 rfl rfl rfl ?_
    refine go_iconst (pc2 := 10) (v := (5 : Int32)) dX5_setSpan_9 rfl (by decide) ?_
    refine go_icmp_le (pc2 := 13) (tgt := 16) dX5_setSpan_10 rfl (by decide) (fun c => ?_) (fun c => ?_)
    · have k := k.1 c
      refine go_aload_n (pc2 := 17) dX5_setSpan_16 rfl rfl rfl ?_
      refine gf_97 (pc2 := 20) rfl dX5_setSpan_17 rfl c_1 fvi ?_
      refine go_istore_n (pc2 := 21) (ls2 := [(0, .ref 1), (1, .int x1), (2, .int (h.1 1 0))]) dX5_setSpan_20 rfl rfl rfl rfl rfl rfl ?_
      refine go_aload_n (pc2 := 22) dX5_setSpan_21 rfl rfl rfl ?_
      refine go_iload_n (pc2 := 23) dX5_setSpan_22 rfl rfl rfl ?_
      refine pf_97 (pc2 := 26) rfl dX5_setSpan_23 rfl c_1 ?_
      obtain ⟨g1, eg1⟩ : ∃ y : Hp, y = (ui h 1 0 x1) := ⟨_, rfl⟩
      rw [← eg1]
      have k := k g1 eg1
      refine go_iload_n (pc2 := 27) dX5_setSpan_26 rfl rfl rfl ?_
      exact go_iret dX5_setSpan_27 ⟨_, rfl, rfl⟩ ⟨rfl, _, rfl, k⟩
    · have k := k.2 c
      refine go_bipush (pc2 := 15) (v := (-6 : Int32)) dX5_setSpan_13 rfl (by decide) ?_
      exact go_iret dX5_setSpan_15 ⟨_, rfl, rfl⟩ ⟨rfl, _, rfl, k⟩
  · have k := k.2 c
    refine go_bipush (pc2 := 7) (v := (-4 : Int32)) dX5_setSpan_5 rfl (by decide) ?_
    exact go_iret dX5_setSpan_7 ⟨_, rfl, rfl⟩ ⟨rfl, _, rfl, k⟩
theorem e_X5_setDemand {x1 : Int32} {x2 : Int32} {x3 : Int32} {h : Hp} {Q : Int32 → Hp → Prop}  (k : (∃ Q1, CtI 0 mX5_noHour [.ref 1, .int x1] h Q1 ∧ ∀ (v3 : Int32) (h4 : Hp), Q1 v3 h4 → ((v3 = 0 → ((x2 < 0 → Q (-4 : Int32) h4) ∧ (¬ (x2 < 0) → ((0 ≤ x3 → (((99 : Int32) < x2 → Q (-6 : Int32) h4) ∧ (¬ ((99 : Int32) < x2) → ((x3 ≤ (20 : Int32) → (vp_in x1 5 ∧ (vp_in x1 5 ∧ (vp_in x1 5 ∧ (∀ g9 : Hp, g9 = (ui h4 2 (x1).toNatClampNeg x2) → (vp_in x1 5 ∧ (∀ g11 : Hp, g11 = (ui g9 3 (x1).toNatClampNeg x3) → Q (((100 : Int32) * (h4.1 2 (x1).toNatClampNeg)) + (h4.1 3 (x1).toNatClampNeg)) g11))))))) ∧ (¬ (x3 ≤ (20 : Int32)) → Q (-6 : Int32) h4))))) ∧ (¬ (0 ≤ x3) → Q (-4 : Int32) h4))))) ∧ (¬ v3 = 0 → Q (-1 : Int32) h4)))) : CtI 1 mX5_setDemand [.ref 1, .int x1, .int x2, .int x3] h Q := by
  refine Ct.of (by decide +kernel) (Nat.le_of_ble_eq_true rfl) ?_
  show GoI 1 mX5_setDemand 0 [(0, .ref 1), (1, .int x1), (2, .int x2), (3, .int x3)] [] h Q
  refine go_aload_n (pc2 := 1) dX5_setDemand_0 rfl rfl rfl ?_
  refine go_iload_n (pc2 := 2) dX5_setDemand_1 rfl rfl rfl ?_
  obtain ⟨Q1, hC2, k⟩ := k
  refine gcV_I (pc2 := 5) (dC := 0) (As := [.int x1]) (st := []) rfl dX5_setDemand_2 rfl w_565 ok_X5_noHour vi_X5_noHour c_1 (by decide) rfl rfl rfl (by decide) (Nat.le_of_ble_eq_true rfl) hC2 (fun v3 h4 hq5 => ?_)
  have k := k v3 h4 hq5
  refine go_if_eq (pc2 := 8) (tgt := 10) dX5_setDemand_5 rfl (by decide) (fun c => ?_) (fun c => ?_)
  · have k := k.1 c
    refine go_iload_n (pc2 := 11) dX5_setDemand_10 rfl rfl rfl ?_
    refine go_if_lt (pc2 := 14) (tgt := 18) dX5_setDemand_11 rfl (by decide) (fun c => ?_) (fun c => ?_)
    · have k := k.1 c
      refine go_bipush (pc2 := 20) (v := (-4 : Int32)) dX5_setDemand_18 rfl (by decide) ?_
      exact go_iret dX5_setDemand_20 ⟨_, rfl, rfl⟩ ⟨rfl, _, rfl, k⟩
    · have k := k.2 c
      refine go_iload_n (pc2 := 15) dX5_setDemand_14 rfl rfl rfl ?_
      refine go_if_ge (pc2 := 18) (tgt := 21) dX5_setDemand_15 rfl (by decide) (fun c => ?_) (fun c => ?_)
      · have k := k.1 c
        refine go_iload_n (pc2 := 22) dX5_setDemand_21 rfl rfl rfl ?_
        refine go_bipush (pc2 := 24) (v := (99 : Int32)) dX5_setDemand_22 rfl (by decide) ?_
        refine go_icmp_gt (pc2 := 27) (tgt := 33) dX5_setDemand_24 rfl (by decide) (fun c => ?_) (fun c => ?_)
        · have k := k.1 c
          refine go_bipush (pc2 := 35) (v := (-6 : Int32)) dX5_setDemand_33 rfl (by decide) ?_
          exact go_iret dX5_setDemand_35 ⟨_, rfl, rfl⟩ ⟨rfl, _, rfl, k⟩
        · have k := k.2 c
          refine go_iload_n (pc2 := 28) dX5_setDemand_27 rfl rfl rfl ?_
          refine go_bipush (pc2 := 30) (v := (20 : Int32)) dX5_setDemand_28 rfl (by decide) ?_
          refine go_icmp_le (pc2 := 33) (tgt := 36) dX5_setDemand_30 rfl (by decide) (fun c => ?_) (fun c => ?_)
          · have k := k.1 c
            refine go_bipush (pc2 := 38) (v := (100 : Int32)) dX5_setDemand_36 rfl (by decide) ?_
            refine go_aload_n (pc2 := 39) dX5_setDemand_38 rfl rfl rfl ?_
            refine gf_102 (pc2 := 42) rfl dX5_setDemand_39 rfl c_1 (fvs r_1_1) ?_
            refine go_iload_n (pc2 := 43) dX5_setDemand_42 rfl rfl rfl ?_
            obtain ⟨y6, k⟩ := k
            refine go_iaload (pc2 := 44) (j := (x1).toNatClampNeg) dX5_setDemand_43 rfl c_2 y6 rfl ?_
            refine go_imul (pc2 := 45) dX5_setDemand_44 rfl ?_
            refine go_aload_n (pc2 := 46) dX5_setDemand_45 rfl rfl rfl ?_
            refine gf_107 (pc2 := 49) rfl dX5_setDemand_46 rfl c_1 (fvs r_1_2) ?_
            refine go_iload_n (pc2 := 50) dX5_setDemand_49 rfl rfl rfl ?_
            obtain ⟨y7, k⟩ := k
            refine go_iaload (pc2 := 51) (j := (x1).toNatClampNeg) dX5_setDemand_50 rfl c_3 y7 rfl ?_
            refine go_iadd (pc2 := 52) dX5_setDemand_51 rfl ?_
            refine go_istore (pc2 := 54) (ls2 := [(0, .ref 1), (1, .int x1), (2, .int x2), (3, .int x3), (4, .int (((100 : Int32) * (h4.1 2 (x1).toNatClampNeg)) + (h4.1 3 (x1).toNatClampNeg)))]) dX5_setDemand_52 rfl rfl rfl rfl rfl ?_
            refine go_aload_n (pc2 := 55) dX5_setDemand_54 rfl rfl rfl ?_
            refine gf_102 (pc2 := 58) rfl dX5_setDemand_55 rfl c_1 (fvs r_1_1) ?_
            refine go_iload_n (pc2 := 59) dX5_setDemand_58 rfl rfl rfl ?_
            refine go_iload_n (pc2 := 60) dX5_setDemand_59 rfl rfl rfl ?_
            obtain ⟨y8, k⟩ := k
            refine go_iastore (pc2 := 61) (j := (x1).toNatClampNeg) dX5_setDemand_60 rfl c_2 y8 rfl ?_
            obtain ⟨g9, eg9⟩ : ∃ y : Hp, y = (ui h4 2 (x1).toNatClampNeg x2) := ⟨_, rfl⟩
            rw [← eg9]
            have k := k g9 eg9
            refine go_aload_n (pc2 := 62) dX5_setDemand_61 rfl rfl rfl ?_
            refine gf_107 (pc2 := 65) rfl dX5_setDemand_62 rfl c_1 (fvs r_1_2) ?_
            refine go_iload_n (pc2 := 66) dX5_setDemand_65 rfl rfl rfl ?_
            refine go_iload_n (pc2 := 67) dX5_setDemand_66 rfl rfl rfl ?_
            obtain ⟨y10, k⟩ := k
            refine go_iastore (pc2 := 68) (j := (x1).toNatClampNeg) dX5_setDemand_67 rfl c_3 y10 rfl ?_
            obtain ⟨g11, eg11⟩ : ∃ y : Hp, y = (ui g9 3 (x1).toNatClampNeg x3) := ⟨_, rfl⟩
            rw [← eg11]
            have k := k g11 eg11
            refine go_iload (pc2 := 70) dX5_setDemand_68 rfl rfl ?_
            exact go_iret dX5_setDemand_70 ⟨_, rfl, rfl⟩ ⟨rfl, _, rfl, k⟩
          · have k := k.2 c
            refine go_bipush (pc2 := 35) (v := (-6 : Int32)) dX5_setDemand_33 rfl (by decide) ?_
            exact go_iret dX5_setDemand_35 ⟨_, rfl, rfl⟩ ⟨rfl, _, rfl, k⟩
      · have k := k.2 c
        refine go_bipush (pc2 := 20) (v := (-4 : Int32)) dX5_setDemand_18 rfl (by decide) ?_
        exact go_iret dX5_setDemand_20 ⟨_, rfl, rfl⟩ ⟨rfl, _, rfl, k⟩
  · have k := k.2 c
    refine go_iconst (pc2 := 9) (v := (-1 : Int32)) dX5_setDemand_8 rfl (by decide) ?_
    exact go_iret dX5_setDemand_9 ⟨_, rfl, rfl⟩ ⟨rfl, _, rfl, k⟩
theorem e_X5_addPlant {x1 : Int32} {x2 : Int32} {h : Hp} {Q : Int32 → Hp → Prop}  (k : ((x1 < 0 → Q (-2 : Int32) h) ∧ (¬ (x1 < 0) → ((x1 < (6 : Int32) → ((0 ≤ x2 → (((10 : Int32) ≤ x2 → Q (-6 : Int32) h) ∧ (¬ ((10 : Int32) ≤ x2) → (((h.1 1 5) < (3 : Int32) → (vp_in (h.1 1 5) 3 ∧ (∃ Q2, CtV 0 mX3_begin [.ref (6 + ((h.1 1 5)).toNatClampNeg), .int x1, .int x2] h Q2 ∧ ∀ h5 : Hp, Q2 h5 → (∀ g7 : Hp, g7 = (ui h5 1 5 ((h5.1 1 5) + (1 : Int32))) → Q ((g7.1 1 5) - (1 : Int32)) g7)))) ∧ (¬ ((h.1 1 5) < (3 : Int32)) → Q (-6 : Int32) h))))) ∧ (¬ (0 ≤ x2) → Q (-4 : Int32) h))) ∧ (¬ (x1 < (6 : Int32)) → Q (-2 : Int32) h))))) : CtI 1 mX5_addPlant [.ref 1, .int x1, .int x2] h Q := by
  refine Ct.of (by decide +kernel) (Nat.le_of_ble_eq_true rfl) ?_
  show GoI 1 mX5_addPlant 0 [(0, .ref 1), (1, .int x1), (2, .int x2)] [] h Q
  refine go_iload_n (pc2 := 1) dX5_addPlant_0 rfl rfl rfl ?_
  refine go_if_lt (pc2 := 4) (tgt := 10) dX5_addPlant_1 rfl (by decide) (fun c => ?_) (fun c => ?_)
  · have k := k.1 c
    refine go_bipush (pc2 := 12) (v := (-2 : Int32)) dX5_addPlant_10 rfl (by decide) ?_
    exact go_iret dX5_addPlant_12 ⟨_, rfl, rfl⟩ ⟨rfl, _, rfl, k⟩
  · have k := k.2 c
    refine go_iload_n (pc2 := 5) dX5_addPlant_4 rfl rfl rfl ?_
    refine go_bipush (pc2 := 7) (v := (6 : Int32)) dX5_addPlant_5 rfl (by decide) ?_
    refine go_icmp_lt (pc2 := 10) (tgt := 13) dX5_addPlant_7 rfl (by decide) (fun c => ?_) (fun c => ?_)
    · have k := k.1 c
      refine go_iload_n (pc2 := 14) dX5_addPlant_13 rfl rfl rfl ?_
      refine go_if_ge (pc2 := 17) (tgt := 20) dX5_addPlant_14 rfl (by decide) (fun c => ?_) (fun c => ?_)
      · have k := k.1 c
        refine go_iload_n (pc2 := 21) dX5_addPlant_20 rfl rfl rfl ?_
        refine go_bipush (pc2 := 23) (v := (10 : Int32)) dX5_addPlant_21 rfl (by decide) ?_
        refine go_icmp_ge (pc2 := 26) (tgt := 34) dX5_addPlant_23 rfl (by decide) (fun c => ?_) (fun c => ?_)
        · have k := k.1 c
          refine go_bipush (pc2 := 36) (v := (-6 : Int32)) dX5_addPlant_34 rfl (by decide) ?_
          exact go_iret dX5_addPlant_36 ⟨_, rfl, rfl⟩ ⟨rfl, _, rfl, k⟩
        · have k := k.2 c
          refine go_aload_n (pc2 := 27) dX5_addPlant_26 rfl rfl rfl ?_
          refine gf_120 (pc2 := 30) rfl dX5_addPlant_27 rfl c_1 fvi ?_
          refine go_iconst (pc2 := 31) (v := (3 : Int32)) dX5_addPlant_30 rfl (by decide) ?_
          refine go_icmp_lt (pc2 := 34) (tgt := 37) dX5_addPlant_31 rfl (by decide) (fun c => ?_) (fun c => ?_)
          · have k := k.1 c
            refine go_aload_n (pc2 := 38) dX5_addPlant_37 rfl rfl rfl ?_
            refine gf_114 (pc2 := 41) rfl dX5_addPlant_38 rfl c_1 (fvs r_1_4) ?_
            refine go_aload_n (pc2 := 42) dX5_addPlant_41 rfl rfl rfl ?_
            refine gf_120 (pc2 := 45) rfl dX5_addPlant_42 rfl c_1 fvi ?_
            obtain ⟨y1, k⟩ := k
            refine go_aaload (pc2 := 46) (t := 0) dX5_addPlant_45 rfl (by decide) c_5 y1 rfl (rfo_s (ra_5 _ (vp_lt y1))) ?_
            refine go_iload_n (pc2 := 47) dX5_addPlant_46 rfl rfl rfl ?_
            refine go_iload_n (pc2 := 48) dX5_addPlant_47 rfl rfl rfl ?_
            obtain ⟨Q2, hC3, k⟩ := k
            refine gcVN_V (pc2 := 51) (dC := 0) (As := [.int x1, .int x2]) (st := []) rfl dX5_addPlant_48 rfl w_537 ok_X3_begin vi_X3_begin (isPl_6 _ (vp_lt y1)) (by decide) rfl rfl rfl (by decide) (Nat.le_of_ble_eq_true rfl) hC3 (fun h5 hq6 => ?_)
            have k := k h5 hq6
            refine go_aload_n (pc2 := 52) dX5_addPlant_51 rfl rfl rfl ?_
            refine go_dup (pc2 := 53) dX5_addPlant_52 rfl rfl ?_
            refine gf_120 (pc2 := 56) rfl dX5_addPlant_53 rfl c_1 fvi ?_
            refine go_iconst (pc2 := 57) (v := (1 : Int32)) dX5_addPlant_56 rfl (by decide) ?_
            refine go_iadd (pc2 := 58) dX5_addPlant_57 rfl ?_
            refine pf_120 (pc2 := 61) rfl dX5_addPlant_58 rfl c_1 ?_
            obtain ⟨g7, eg7⟩ : ∃ y : Hp, y = (ui h5 1 5 ((h5.1 1 5) + (1 : Int32))) := ⟨_, rfl⟩
            rw [← eg7]
            have k := k g7 eg7
            refine go_aload_n (pc2 := 62) dX5_addPlant_61 rfl rfl rfl ?_
            refine gf_120 (pc2 := 65) rfl dX5_addPlant_62 rfl c_1 fvi ?_
            refine go_iconst (pc2 := 66) (v := (1 : Int32)) dX5_addPlant_65 rfl (by decide) ?_
            refine go_isub (pc2 := 67) dX5_addPlant_66 rfl ?_
            exact go_iret dX5_addPlant_67 ⟨_, rfl, rfl⟩ ⟨rfl, _, rfl, k⟩
          · have k := k.2 c
            refine go_bipush (pc2 := 36) (v := (-6 : Int32)) dX5_addPlant_34 rfl (by decide) ?_
            exact go_iret dX5_addPlant_36 ⟨_, rfl, rfl⟩ ⟨rfl, _, rfl, k⟩
      · have k := k.2 c
        refine go_bipush (pc2 := 19) (v := (-4 : Int32)) dX5_addPlant_17 rfl (by decide) ?_
        exact go_iret dX5_addPlant_19 ⟨_, rfl, rfl⟩ ⟨rfl, _, rfl, k⟩
    · have k := k.2 c
      refine go_bipush (pc2 := 12) (v := (-2 : Int32)) dX5_addPlant_10 rfl (by decide) ?_
      exact go_iret dX5_addPlant_12 ⟨_, rfl, rfl⟩ ⟨rfl, _, rfl, k⟩
theorem e_X5_setRange {x1 : Int32} {x2 : Int32} {x3 : Int32} {h : Hp} {Q : Int32 → Hp → Prop}  (k : (∃ Q1, CtI 0 mX5_noPlant [.ref 1, .int x1] h Q1 ∧ ∀ (v3 : Int32) (h4 : Hp), Q1 v3 h4 → ((v3 = 0 → ((x2 < 0 → Q (-4 : Int32) h4) ∧ (¬ (x2 < 0) → ((0 ≤ x3 → (((30 : Int32) < x2 → Q (-6 : Int32) h4) ∧ (¬ ((30 : Int32) < x2) → ((x3 ≤ (60 : Int32) → ((x2 ≤ x3 → (vp_in x1 3 ∧ (vp_in x1 3 ∧ (vp_in x1 3 ∧ (∀ g9 : Hp, g9 = (ui h4 (6 + (x1).toNatClampNeg) 2 x2) → (vp_in x1 3 ∧ (∀ g11 : Hp, g11 = (ui g9 (6 + (x1).toNatClampNeg) 3 x3) → Q (((100 : Int32) * (h4.1 (6 + (x1).toNatClampNeg) 2)) + (h4.1 (6 + (x1).toNatClampNeg) 3)) g11))))))) ∧ (¬ (x2 ≤ x3) → Q (-3 : Int32) h4))) ∧ (¬ (x3 ≤ (60 : Int32)) → Q (-6 : Int32) h4))))) ∧ (¬ (0 ≤ x3) → Q (-4 : Int32) h4))))) ∧ (¬ v3 = 0 → Q (-1 : Int32) h4)))) : CtI 1 mX5_setRange [.ref 1, .int x1, .int x2, .int x3] h Q := by
  refine Ct.of (by decide +kernel) (Nat.le_of_ble_eq_true rfl) ?_
  show GoI 1 mX5_setRange 0 [(0, .ref 1), (1, .int x1), (2, .int x2), (3, .int x3)] [] h Q
  refine go_aload_n (pc2 := 1) dX5_setRange_0 rfl rfl rfl ?_
  refine go_iload_n (pc2 := 2) dX5_setRange_1 rfl rfl rfl ?_
  obtain ⟨Q1, hC2, k⟩ := k
  refine gcV_I (pc2 := 5) (dC := 0) (As := [.int x1]) (st := []) rfl dX5_setRange_2 rfl w_545 ok_X5_noPlant vi_X5_noPlant c_1 (by decide) rfl rfl rfl (by decide) (Nat.le_of_ble_eq_true rfl) hC2 (fun v3 h4 hq5 => ?_)
  have k := k v3 h4 hq5
  refine go_if_eq (pc2 := 8) (tgt := 10) dX5_setRange_5 rfl (by decide) (fun c => ?_) (fun c => ?_)
  · have k := k.1 c
    refine go_iload_n (pc2 := 11) dX5_setRange_10 rfl rfl rfl ?_
    refine go_if_lt (pc2 := 14) (tgt := 18) dX5_setRange_11 rfl (by decide) (fun c => ?_) (fun c => ?_)
    · have k := k.1 c
      refine go_bipush (pc2 := 20) (v := (-4 : Int32)) dX5_setRange_18 rfl (by decide) ?_
      exact go_iret dX5_setRange_20 ⟨_, rfl, rfl⟩ ⟨rfl, _, rfl, k⟩
    · have k := k.2 c
      refine go_iload_n (pc2 := 15) dX5_setRange_14 rfl rfl rfl ?_
      refine go_if_ge (pc2 := 18) (tgt := 21) dX5_setRange_15 rfl (by decide) (fun c => ?_) (fun c => ?_)
      · have k := k.1 c
        refine go_iload_n (pc2 := 22) dX5_setRange_21 rfl rfl rfl ?_
        refine go_bipush (pc2 := 24) (v := (30 : Int32)) dX5_setRange_22 rfl (by decide) ?_
        refine go_icmp_gt (pc2 := 27) (tgt := 33) dX5_setRange_24 rfl (by decide) (fun c => ?_) (fun c => ?_)
        · have k := k.1 c
          refine go_bipush (pc2 := 35) (v := (-6 : Int32)) dX5_setRange_33 rfl (by decide) ?_
          exact go_iret dX5_setRange_35 ⟨_, rfl, rfl⟩ ⟨rfl, _, rfl, k⟩
        · have k := k.2 c
          refine go_iload_n (pc2 := 28) dX5_setRange_27 rfl rfl rfl ?_
          refine go_bipush (pc2 := 30) (v := (60 : Int32)) dX5_setRange_28 rfl (by decide) ?_
          refine go_icmp_le (pc2 := 33) (tgt := 36) dX5_setRange_30 rfl (by decide) (fun c => ?_) (fun c => ?_)
          · have k := k.1 c
            refine go_iload_n (pc2 := 37) dX5_setRange_36 rfl rfl rfl ?_
            refine go_iload_n (pc2 := 38) dX5_setRange_37 rfl rfl rfl ?_
            refine go_icmp_le (pc2 := 41) (tgt := 44) dX5_setRange_38 rfl (by decide) (fun c => ?_) (fun c => ?_)
            · have k := k.1 c
              refine go_bipush (pc2 := 46) (v := (100 : Int32)) dX5_setRange_44 rfl (by decide) ?_
              refine go_aload_n (pc2 := 47) dX5_setRange_46 rfl rfl rfl ?_
              refine gf_114 (pc2 := 50) rfl dX5_setRange_47 rfl c_1 (fvs r_1_4) ?_
              refine go_iload_n (pc2 := 51) dX5_setRange_50 rfl rfl rfl ?_
              obtain ⟨y6, k⟩ := k
              refine go_aaload (pc2 := 52) (t := 0) dX5_setRange_51 rfl (by decide) c_5 y6 rfl (rfo_s (ra_5 _ (vp_lt y6))) ?_
              refine gf_49 (pc2 := 55) rfl dX5_setRange_52 rfl (isPl_6 _ (vp_lt y6)) fvi ?_
              refine go_imul (pc2 := 56) dX5_setRange_55 rfl ?_
              refine go_aload_n (pc2 := 57) dX5_setRange_56 rfl rfl rfl ?_
              refine gf_114 (pc2 := 60) rfl dX5_setRange_57 rfl c_1 (fvs r_1_4) ?_
              refine go_iload_n (pc2 := 61) dX5_setRange_60 rfl rfl rfl ?_
              obtain ⟨y7, k⟩ := k
              refine go_aaload (pc2 := 62) (t := 0) dX5_setRange_61 rfl (by decide) c_5 y7 rfl (rfo_s (ra_5 _ (vp_lt y7))) ?_
              refine gf_52 (pc2 := 65) rfl dX5_setRange_62 rfl (isPl_6 _ (vp_lt y7)) fvi ?_
              refine go_iadd (pc2 := 66) dX5_setRange_65 rfl ?_
              refine go_istore (pc2 := 68) (ls2 := [(0, .ref 1), (1, .int x1), (2, .int x2), (3, .int x3), (4, .int (((100 : Int32) * (h4.1 (6 + (x1).toNatClampNeg) 2)) + (h4.1 (6 + (x1).toNatClampNeg) 3)))]) dX5_setRange_66 rfl rfl rfl rfl rfl ?_
              refine go_aload_n (pc2 := 69) dX5_setRange_68 rfl rfl rfl ?_
              refine gf_114 (pc2 := 72) rfl dX5_setRange_69 rfl c_1 (fvs r_1_4) ?_
              refine go_iload_n (pc2 := 73) dX5_setRange_72 rfl rfl rfl ?_
              obtain ⟨y8, k⟩ := k
              refine go_aaload (pc2 := 74) (t := 0) dX5_setRange_73 rfl (by decide) c_5 y8 rfl (rfo_s (ra_5 _ (vp_lt y8))) ?_
              refine go_iload_n (pc2 := 75) dX5_setRange_74 rfl rfl rfl ?_
              refine pf_49 (pc2 := 78) rfl dX5_setRange_75 rfl (isPl_6 _ (vp_lt y8)) ?_
              obtain ⟨g9, eg9⟩ : ∃ y : Hp, y = (ui h4 (6 + (x1).toNatClampNeg) 2 x2) := ⟨_, rfl⟩
              rw [← eg9]
              have k := k g9 eg9
              refine go_aload_n (pc2 := 79) dX5_setRange_78 rfl rfl rfl ?_
              refine gf_114 (pc2 := 82) rfl dX5_setRange_79 rfl c_1 (fvs r_1_4) ?_
              refine go_iload_n (pc2 := 83) dX5_setRange_82 rfl rfl rfl ?_
              obtain ⟨y10, k⟩ := k
              refine go_aaload (pc2 := 84) (t := 0) dX5_setRange_83 rfl (by decide) c_5 y10 rfl (rfo_s (ra_5 _ (vp_lt y10))) ?_
              refine go_iload_n (pc2 := 85) dX5_setRange_84 rfl rfl rfl ?_
              refine pf_52 (pc2 := 88) rfl dX5_setRange_85 rfl (isPl_6 _ (vp_lt y10)) ?_
              obtain ⟨g11, eg11⟩ : ∃ y : Hp, y = (ui g9 (6 + (x1).toNatClampNeg) 3 x3) := ⟨_, rfl⟩
              rw [← eg11]
              have k := k g11 eg11
              refine go_iload (pc2 := 90) dX5_setRange_88 rfl rfl ?_
              exact go_iret dX5_setRange_90 ⟨_, rfl, rfl⟩ ⟨rfl, _, rfl, k⟩
            · have k := k.2 c
              refine go_bipush (pc2 := 43) (v := (-3 : Int32)) dX5_setRange_41 rfl (by decide) ?_
              exact go_iret dX5_setRange_43 ⟨_, rfl, rfl⟩ ⟨rfl, _, rfl, k⟩
          · have k := k.2 c
            refine go_bipush (pc2 := 35) (v := (-6 : Int32)) dX5_setRange_33 rfl (by decide) ?_
            exact go_iret dX5_setRange_35 ⟨_, rfl, rfl⟩ ⟨rfl, _, rfl, k⟩
      · have k := k.2 c
        refine go_bipush (pc2 := 20) (v := (-4 : Int32)) dX5_setRange_18 rfl (by decide) ?_
        exact go_iret dX5_setRange_20 ⟨_, rfl, rfl⟩ ⟨rfl, _, rfl, k⟩
  · have k := k.2 c
    refine go_iconst (pc2 := 9) (v := (-1 : Int32)) dX5_setRange_8 rfl (by decide) ?_
    exact go_iret dX5_setRange_9 ⟨_, rfl, rfl⟩ ⟨rfl, _, rfl, k⟩
theorem e_X5_setCosts {x1 : Int32} {x2 : Int32} {x3 : Int32} {x4 : Int32} {h : Hp} {Q : Int32 → Hp → Prop}  (k : (∃ Q1, CtI 0 mX5_noPlant [.ref 1, .int x1] h Q1 ∧ ∀ (v3 : Int32) (h4 : Hp), Q1 v3 h4 → ((v3 = 0 → ((x2 < 0 → Q (-4 : Int32) h4) ∧ (¬ (x2 < 0) → ((x3 < 0 → Q (-4 : Int32) h4) ∧ (¬ (x3 < 0) → ((0 ≤ x4 → (((9 : Int32) < x2 → Q (-6 : Int32) h4) ∧ (¬ ((9 : Int32) < x2) → (((30 : Int32) < x3 → Q (-6 : Int32) h4) ∧ (¬ ((30 : Int32) < x3) → ((x4 ≤ (50 : Int32) → (vp_in x1 3 ∧ (vp_in x1 3 ∧ (vp_in x1 3 ∧ (vp_in x1 3 ∧ (∀ g10 : Hp, g10 = (ui h4 (6 + (x1).toNatClampNeg) 4 x2) → (vp_in x1 3 ∧ (∀ g12 : Hp, g12 = (ui g10 (6 + (x1).toNatClampNeg) 5 x3) → (vp_in x1 3 ∧ (∀ g14 : Hp, g14 = (ui g12 (6 + (x1).toNatClampNeg) 6 x4) → Q ((((10000 : Int32) * (h4.1 (6 + (x1).toNatClampNeg) 4)) + ((100 : Int32) * (h4.1 (6 + (x1).toNatClampNeg) 5))) + (h4.1 (6 + (x1).toNatClampNeg) 6)) g14)))))))))) ∧ (¬ (x4 ≤ (50 : Int32)) → Q (-6 : Int32) h4))))))) ∧ (¬ (0 ≤ x4) → Q (-4 : Int32) h4))))))) ∧ (¬ v3 = 0 → Q (-1 : Int32) h4)))) : CtI 1 mX5_setCosts [.ref 1, .int x1, .int x2, .int x3, .int x4] h Q := by
  refine Ct.of (by decide +kernel) (Nat.le_of_ble_eq_true rfl) ?_
  show GoI 1 mX5_setCosts 0 [(0, .ref 1), (1, .int x1), (2, .int x2), (3, .int x3), (4, .int x4)] [] h Q
  refine go_aload_n (pc2 := 1) dX5_setCosts_0 rfl rfl rfl ?_
  refine go_iload_n (pc2 := 2) dX5_setCosts_1 rfl rfl rfl ?_
  obtain ⟨Q1, hC2, k⟩ := k
  refine gcV_I (pc2 := 5) (dC := 0) (As := [.int x1]) (st := []) rfl dX5_setCosts_2 rfl w_545 ok_X5_noPlant vi_X5_noPlant c_1 (by decide) rfl rfl rfl (by decide) (Nat.le_of_ble_eq_true rfl) hC2 (fun v3 h4 hq5 => ?_)
  have k := k v3 h4 hq5
  refine go_if_eq (pc2 := 8) (tgt := 10) dX5_setCosts_5 rfl (by decide) (fun c => ?_) (fun c => ?_)
  · have k := k.1 c
    refine go_iload_n (pc2 := 11) dX5_setCosts_10 rfl rfl rfl ?_
    refine go_if_lt (pc2 := 14) (tgt := 23) dX5_setCosts_11 rfl (by decide) (fun c => ?_) (fun c => ?_)
    · have k := k.1 c
      refine go_bipush (pc2 := 25) (v := (-4 : Int32)) dX5_setCosts_23 rfl (by decide) ?_
      exact go_iret dX5_setCosts_25 ⟨_, rfl, rfl⟩ ⟨rfl, _, rfl, k⟩
    · have k := k.2 c
      refine go_iload_n (pc2 := 15) dX5_setCosts_14 rfl rfl rfl ?_
      refine go_if_lt (pc2 := 18) (tgt := 23) dX5_setCosts_15 rfl (by decide) (fun c => ?_) (fun c => ?_)
      · have k := k.1 c
        refine go_bipush (pc2 := 25) (v := (-4 : Int32)) dX5_setCosts_23 rfl (by decide) ?_
        exact go_iret dX5_setCosts_25 ⟨_, rfl, rfl⟩ ⟨rfl, _, rfl, k⟩
      · have k := k.2 c
        refine go_iload (pc2 := 20) dX5_setCosts_18 rfl rfl ?_
        refine go_if_ge (pc2 := 23) (tgt := 26) dX5_setCosts_20 rfl (by decide) (fun c => ?_) (fun c => ?_)
        · have k := k.1 c
          refine go_iload_n (pc2 := 27) dX5_setCosts_26 rfl rfl rfl ?_
          refine go_bipush (pc2 := 29) (v := (9 : Int32)) dX5_setCosts_27 rfl (by decide) ?_
          refine go_icmp_gt (pc2 := 32) (tgt := 45) dX5_setCosts_29 rfl (by decide) (fun c => ?_) (fun c => ?_)
          · have k := k.1 c
            refine go_bipush (pc2 := 47) (v := (-6 : Int32)) dX5_setCosts_45 rfl (by decide) ?_
            exact go_iret dX5_setCosts_47 ⟨_, rfl, rfl⟩ ⟨rfl, _, rfl, k⟩
          · have k := k.2 c
            refine go_iload_n (pc2 := 33) dX5_setCosts_32 rfl rfl rfl ?_
            refine go_bipush (pc2 := 35) (v := (30 : Int32)) dX5_setCosts_33 rfl (by decide) ?_
            refine go_icmp_gt (pc2 := 38) (tgt := 45) dX5_setCosts_35 rfl (by decide) (fun c => ?_) (fun c => ?_)
            · have k := k.1 c
              refine go_bipush (pc2 := 47) (v := (-6 : Int32)) dX5_setCosts_45 rfl (by decide) ?_
              exact go_iret dX5_setCosts_47 ⟨_, rfl, rfl⟩ ⟨rfl, _, rfl, k⟩
            · have k := k.2 c
              refine go_iload (pc2 := 40) dX5_setCosts_38 rfl rfl ?_
              refine go_bipush (pc2 := 42) (v := (50 : Int32)) dX5_setCosts_40 rfl (by decide) ?_
              refine go_icmp_le (pc2 := 45) (tgt := 48) dX5_setCosts_42 rfl (by decide) (fun c => ?_) (fun c => ?_)
              · have k := k.1 c
                refine go_sipush (pc2 := 51) (v := (10000 : Int32)) dX5_setCosts_48 rfl (by decide) ?_
                refine go_aload_n (pc2 := 52) dX5_setCosts_51 rfl rfl rfl ?_
                refine gf_114 (pc2 := 55) rfl dX5_setCosts_52 rfl c_1 (fvs r_1_4) ?_
                refine go_iload_n (pc2 := 56) dX5_setCosts_55 rfl rfl rfl ?_
                obtain ⟨y6, k⟩ := k
                refine go_aaload (pc2 := 57) (t := 0) dX5_setCosts_56 rfl (by decide) c_5 y6 rfl (rfo_s (ra_5 _ (vp_lt y6))) ?_
                refine gf_56 (pc2 := 60) rfl dX5_setCosts_57 rfl (isPl_6 _ (vp_lt y6)) fvi ?_
                refine go_imul (pc2 := 61) dX5_setCosts_60 rfl ?_
                refine go_bipush (pc2 := 63) (v := (100 : Int32)) dX5_setCosts_61 rfl (by decide) ?_
                refine go_aload_n (pc2 := 64) dX5_setCosts_63 rfl rfl rfl ?_
                refine gf_114 (pc2 := 67) rfl dX5_setCosts_64 rfl c_1 (fvs r_1_4) ?_
                refine go_iload_n (pc2 := 68) dX5_setCosts_67 rfl rfl rfl ?_
                obtain ⟨y7, k⟩ := k
                refine go_aaload (pc2 := 69) (t := 0) dX5_setCosts_68 rfl (by decide) c_5 y7 rfl (rfo_s (ra_5 _ (vp_lt y7))) ?_
                refine gf_60 (pc2 := 72) rfl dX5_setCosts_69 rfl (isPl_6 _ (vp_lt y7)) fvi ?_
                refine go_imul (pc2 := 73) dX5_setCosts_72 rfl ?_
                refine go_iadd (pc2 := 74) dX5_setCosts_73 rfl ?_
                refine go_aload_n (pc2 := 75) dX5_setCosts_74 rfl rfl rfl ?_
                refine gf_114 (pc2 := 78) rfl dX5_setCosts_75 rfl c_1 (fvs r_1_4) ?_
                refine go_iload_n (pc2 := 79) dX5_setCosts_78 rfl rfl rfl ?_
                obtain ⟨y8, k⟩ := k
                refine go_aaload (pc2 := 80) (t := 0) dX5_setCosts_79 rfl (by decide) c_5 y8 rfl (rfo_s (ra_5 _ (vp_lt y8))) ?_
                refine gf_62 (pc2 := 83) rfl dX5_setCosts_80 rfl (isPl_6 _ (vp_lt y8)) fvi ?_
                refine go_iadd (pc2 := 84) dX5_setCosts_83 rfl ?_
                refine go_istore (pc2 := 86) (ls2 := [(0, .ref 1), (1, .int x1), (2, .int x2), (3, .int x3), (4, .int x4), (5, .int ((((10000 : Int32) * (h4.1 (6 + (x1).toNatClampNeg) 4)) + ((100 : Int32) * (h4.1 (6 + (x1).toNatClampNeg) 5))) + (h4.1 (6 + (x1).toNatClampNeg) 6)))]) dX5_setCosts_84 rfl rfl rfl rfl rfl ?_
                refine go_aload_n (pc2 := 87) dX5_setCosts_86 rfl rfl rfl ?_
                refine gf_114 (pc2 := 90) rfl dX5_setCosts_87 rfl c_1 (fvs r_1_4) ?_
                refine go_iload_n (pc2 := 91) dX5_setCosts_90 rfl rfl rfl ?_
                obtain ⟨y9, k⟩ := k
                refine go_aaload (pc2 := 92) (t := 0) dX5_setCosts_91 rfl (by decide) c_5 y9 rfl (rfo_s (ra_5 _ (vp_lt y9))) ?_
                refine go_iload_n (pc2 := 93) dX5_setCosts_92 rfl rfl rfl ?_
                refine pf_56 (pc2 := 96) rfl dX5_setCosts_93 rfl (isPl_6 _ (vp_lt y9)) ?_
                obtain ⟨g10, eg10⟩ : ∃ y : Hp, y = (ui h4 (6 + (x1).toNatClampNeg) 4 x2) := ⟨_, rfl⟩
                rw [← eg10]
                have k := k g10 eg10
                refine go_aload_n (pc2 := 97) dX5_setCosts_96 rfl rfl rfl ?_
                refine gf_114 (pc2 := 100) rfl dX5_setCosts_97 rfl c_1 (fvs r_1_4) ?_
                refine go_iload_n (pc2 := 101) dX5_setCosts_100 rfl rfl rfl ?_
                obtain ⟨y11, k⟩ := k
                refine go_aaload (pc2 := 102) (t := 0) dX5_setCosts_101 rfl (by decide) c_5 y11 rfl (rfo_s (ra_5 _ (vp_lt y11))) ?_
                refine go_iload_n (pc2 := 103) dX5_setCosts_102 rfl rfl rfl ?_
                refine pf_60 (pc2 := 106) rfl dX5_setCosts_103 rfl (isPl_6 _ (vp_lt y11)) ?_
                obtain ⟨g12, eg12⟩ : ∃ y : Hp, y = (ui g10 (6 + (x1).toNatClampNeg) 5 x3) := ⟨_, rfl⟩
                rw [← eg12]
                have k := k g12 eg12
                refine go_aload_n (pc2 := 107) dX5_setCosts_106 rfl rfl rfl ?_
                refine gf_114 (pc2 := 110) rfl dX5_setCosts_107 rfl c_1 (fvs r_1_4) ?_
                refine go_iload_n (pc2 := 111) dX5_setCosts_110 rfl rfl rfl ?_
                obtain ⟨y13, k⟩ := k
                refine go_aaload (pc2 := 112) (t := 0) dX5_setCosts_111 rfl (by decide) c_5 y13 rfl (rfo_s (ra_5 _ (vp_lt y13))) ?_
                refine go_iload (pc2 := 114) dX5_setCosts_112 rfl rfl ?_
                refine pf_62 (pc2 := 117) rfl dX5_setCosts_114 rfl (isPl_6 _ (vp_lt y13)) ?_
                obtain ⟨g14, eg14⟩ : ∃ y : Hp, y = (ui g12 (6 + (x1).toNatClampNeg) 6 x4) := ⟨_, rfl⟩
                rw [← eg14]
                have k := k g14 eg14
                refine go_iload (pc2 := 119) dX5_setCosts_117 rfl rfl ?_
                exact go_iret dX5_setCosts_119 ⟨_, rfl, rfl⟩ ⟨rfl, _, rfl, k⟩
              · have k := k.2 c
                refine go_bipush (pc2 := 47) (v := (-6 : Int32)) dX5_setCosts_45 rfl (by decide) ?_
                exact go_iret dX5_setCosts_47 ⟨_, rfl, rfl⟩ ⟨rfl, _, rfl, k⟩
        · have k := k.2 c
          refine go_bipush (pc2 := 25) (v := (-4 : Int32)) dX5_setCosts_23 rfl (by decide) ?_
          exact go_iret dX5_setCosts_25 ⟨_, rfl, rfl⟩ ⟨rfl, _, rfl, k⟩
  · have k := k.2 c
    refine go_iconst (pc2 := 9) (v := (-1 : Int32)) dX5_setCosts_8 rfl (by decide) ?_
    exact go_iret dX5_setCosts_9 ⟨_, rfl, rfl⟩ ⟨rfl, _, rfl, k⟩
theorem e_X5_setTimes {x1 : Int32} {x2 : Int32} {x3 : Int32} {h : Hp} {Q : Int32 → Hp → Prop}  (k : (∃ Q1, CtI 0 mX5_noPlant [.ref 1, .int x1] h Q1 ∧ ∀ (v3 : Int32) (h4 : Hp), Q1 v3 h4 → ((v3 = 0 → ((x2 < (1 : Int32) → Q (-4 : Int32) h4) ∧ (¬ (x2 < (1 : Int32)) → (((1 : Int32) ≤ x3 → (((3 : Int32) < x2 → Q (-6 : Int32) h4) ∧ (¬ ((3 : Int32) < x2) → ((x3 ≤ (3 : Int32) → (vp_in x1 3 ∧ (vp_in x1 3 ∧ (vp_in x1 3 ∧ (∀ g9 : Hp, g9 = (ui h4 (6 + (x1).toNatClampNeg) 7 x2) → (vp_in x1 3 ∧ (∀ g11 : Hp, g11 = (ui g9 (6 + (x1).toNatClampNeg) 8 x3) → Q (((10 : Int32) * (h4.1 (6 + (x1).toNatClampNeg) 7)) + (h4.1 (6 + (x1).toNatClampNeg) 8)) g11))))))) ∧ (¬ (x3 ≤ (3 : Int32)) → Q (-6 : Int32) h4))))) ∧ (¬ ((1 : Int32) ≤ x3) → Q (-4 : Int32) h4))))) ∧ (¬ v3 = 0 → Q (-1 : Int32) h4)))) : CtI 1 mX5_setTimes [.ref 1, .int x1, .int x2, .int x3] h Q := by
  refine Ct.of (by decide +kernel) (Nat.le_of_ble_eq_true rfl) ?_
  show GoI 1 mX5_setTimes 0 [(0, .ref 1), (1, .int x1), (2, .int x2), (3, .int x3)] [] h Q
  refine go_aload_n (pc2 := 1) dX5_setTimes_0 rfl rfl rfl ?_
  refine go_iload_n (pc2 := 2) dX5_setTimes_1 rfl rfl rfl ?_
  obtain ⟨Q1, hC2, k⟩ := k
  refine gcV_I (pc2 := 5) (dC := 0) (As := [.int x1]) (st := []) rfl dX5_setTimes_2 rfl w_545 ok_X5_noPlant vi_X5_noPlant c_1 (by decide) rfl rfl rfl (by decide) (Nat.le_of_ble_eq_true rfl) hC2 (fun v3 h4 hq5 => ?_)
  have k := k v3 h4 hq5
  refine go_if_eq (pc2 := 8) (tgt := 10) dX5_setTimes_5 rfl (by decide) (fun c => ?_) (fun c => ?_)
  · have k := k.1 c
    refine go_iload_n (pc2 := 11) dX5_setTimes_10 rfl rfl rfl ?_
    refine go_iconst (pc2 := 12) (v := (1 : Int32)) dX5_setTimes_11 rfl (by decide) ?_
    refine go_icmp_lt (pc2 := 15) (tgt := 20) dX5_setTimes_12 rfl (by decide) (fun c => ?_) (fun c => ?_)
    · have k := k.1 c
      refine go_bipush (pc2 := 22) (v := (-4 : Int32)) dX5_setTimes_20 rfl (by decide) ?_
      exact go_iret dX5_setTimes_22 ⟨_, rfl, rfl⟩ ⟨rfl, _, rfl, k⟩
    · have k := k.2 c
      refine go_iload_n (pc2 := 16) dX5_setTimes_15 rfl rfl rfl ?_
      refine go_iconst (pc2 := 17) (v := (1 : Int32)) dX5_setTimes_16 rfl (by decide) ?_
      refine go_icmp_ge (pc2 := 20) (tgt := 23) dX5_setTimes_17 rfl (by decide) (fun c => ?_) (fun c => ?_)
      · have k := k.1 c
        refine go_iload_n (pc2 := 24) dX5_setTimes_23 rfl rfl rfl ?_
        refine go_iconst (pc2 := 25) (v := (3 : Int32)) dX5_setTimes_24 rfl (by decide) ?_
        refine go_icmp_gt (pc2 := 28) (tgt := 33) dX5_setTimes_25 rfl (by decide) (fun c => ?_) (fun c => ?_)
        · have k := k.1 c
          refine go_bipush (pc2 := 35) (v := (-6 : Int32)) dX5_setTimes_33 rfl (by decide) ?_
          exact go_iret dX5_setTimes_35 ⟨_, rfl, rfl⟩ ⟨rfl, _, rfl, k⟩
        · have k := k.2 c
          refine go_iload_n (pc2 := 29) dX5_setTimes_28 rfl rfl rfl ?_
          refine go_iconst (pc2 := 30) (v := (3 : Int32)) dX5_setTimes_29 rfl (by decide) ?_
          refine go_icmp_le (pc2 := 33) (tgt := 36) dX5_setTimes_30 rfl (by decide) (fun c => ?_) (fun c => ?_)
          · have k := k.1 c
            refine go_bipush (pc2 := 38) (v := (10 : Int32)) dX5_setTimes_36 rfl (by decide) ?_
            refine go_aload_n (pc2 := 39) dX5_setTimes_38 rfl rfl rfl ?_
            refine gf_114 (pc2 := 42) rfl dX5_setTimes_39 rfl c_1 (fvs r_1_4) ?_
            refine go_iload_n (pc2 := 43) dX5_setTimes_42 rfl rfl rfl ?_
            obtain ⟨y6, k⟩ := k
            refine go_aaload (pc2 := 44) (t := 0) dX5_setTimes_43 rfl (by decide) c_5 y6 rfl (rfo_s (ra_5 _ (vp_lt y6))) ?_
            refine gf_66 (pc2 := 47) rfl dX5_setTimes_44 rfl (isPl_6 _ (vp_lt y6)) fvi ?_
            refine go_imul (pc2 := 48) dX5_setTimes_47 rfl ?_
            refine go_aload_n (pc2 := 49) dX5_setTimes_48 rfl rfl rfl ?_
            refine gf_114 (pc2 := 52) rfl dX5_setTimes_49 rfl c_1 (fvs r_1_4) ?_
            refine go_iload_n (pc2 := 53) dX5_setTimes_52 rfl rfl rfl ?_
            obtain ⟨y7, k⟩ := k
            refine go_aaload (pc2 := 54) (t := 0) dX5_setTimes_53 rfl (by decide) c_5 y7 rfl (rfo_s (ra_5 _ (vp_lt y7))) ?_
            refine gf_69 (pc2 := 57) rfl dX5_setTimes_54 rfl (isPl_6 _ (vp_lt y7)) fvi ?_
            refine go_iadd (pc2 := 58) dX5_setTimes_57 rfl ?_
            refine go_istore (pc2 := 60) (ls2 := [(0, .ref 1), (1, .int x1), (2, .int x2), (3, .int x3), (4, .int (((10 : Int32) * (h4.1 (6 + (x1).toNatClampNeg) 7)) + (h4.1 (6 + (x1).toNatClampNeg) 8)))]) dX5_setTimes_58 rfl rfl rfl rfl rfl ?_
            refine go_aload_n (pc2 := 61) dX5_setTimes_60 rfl rfl rfl ?_
            refine gf_114 (pc2 := 64) rfl dX5_setTimes_61 rfl c_1 (fvs r_1_4) ?_
            refine go_iload_n (pc2 := 65) dX5_setTimes_64 rfl rfl rfl ?_
            obtain ⟨y8, k⟩ := k
            refine go_aaload (pc2 := 66) (t := 0) dX5_setTimes_65 rfl (by decide) c_5 y8 rfl (rfo_s (ra_5 _ (vp_lt y8))) ?_
            refine go_iload_n (pc2 := 67) dX5_setTimes_66 rfl rfl rfl ?_
            refine pf_66 (pc2 := 70) rfl dX5_setTimes_67 rfl (isPl_6 _ (vp_lt y8)) ?_
            obtain ⟨g9, eg9⟩ : ∃ y : Hp, y = (ui h4 (6 + (x1).toNatClampNeg) 7 x2) := ⟨_, rfl⟩
            rw [← eg9]
            have k := k g9 eg9
            refine go_aload_n (pc2 := 71) dX5_setTimes_70 rfl rfl rfl ?_
            refine gf_114 (pc2 := 74) rfl dX5_setTimes_71 rfl c_1 (fvs r_1_4) ?_
            refine go_iload_n (pc2 := 75) dX5_setTimes_74 rfl rfl rfl ?_
            obtain ⟨y10, k⟩ := k
            refine go_aaload (pc2 := 76) (t := 0) dX5_setTimes_75 rfl (by decide) c_5 y10 rfl (rfo_s (ra_5 _ (vp_lt y10))) ?_
            refine go_iload_n (pc2 := 77) dX5_setTimes_76 rfl rfl rfl ?_
            refine pf_69 (pc2 := 80) rfl dX5_setTimes_77 rfl (isPl_6 _ (vp_lt y10)) ?_
            obtain ⟨g11, eg11⟩ : ∃ y : Hp, y = (ui g9 (6 + (x1).toNatClampNeg) 8 x3) := ⟨_, rfl⟩
            rw [← eg11]
            have k := k g11 eg11
            refine go_iload (pc2 := 82) dX5_setTimes_80 rfl rfl ?_
            exact go_iret dX5_setTimes_82 ⟨_, rfl, rfl⟩ ⟨rfl, _, rfl, k⟩
          · have k := k.2 c
            refine go_bipush (pc2 := 35) (v := (-6 : Int32)) dX5_setTimes_33 rfl (by decide) ?_
            exact go_iret dX5_setTimes_35 ⟨_, rfl, rfl⟩ ⟨rfl, _, rfl, k⟩
      · have k := k.2 c
        refine go_bipush (pc2 := 22) (v := (-4 : Int32)) dX5_setTimes_20 rfl (by decide) ?_
        exact go_iret dX5_setTimes_22 ⟨_, rfl, rfl⟩ ⟨rfl, _, rfl, k⟩
  · have k := k.2 c
    refine go_iconst (pc2 := 9) (v := (-1 : Int32)) dX5_setTimes_8 rfl (by decide) ?_
    exact go_iret dX5_setTimes_9 ⟨_, rfl, rfl⟩ ⟨rfl, _, rfl, k⟩
theorem e_X5_setAge {x1 : Int32} {x2 : Int32} {h : Hp} {Q : Int32 → Hp → Prop}  (k : (∃ Q1, CtI 0 mX5_noPlant [.ref 1, .int x1] h Q1 ∧ ∀ (v3 : Int32) (h4 : Hp), Q1 v3 h4 → ((v3 = 0 → (((-4 : Int32) ≤ x2 → ((x2 ≤ (4 : Int32) → ((¬ x2 = 0 → (vp_in x1 3 ∧ (vp_in x1 3 ∧ (∀ g8 : Hp, g8 = (ui h4 (6 + (x1).toNatClampNeg) 9 x2) → Q ((h4.1 (6 + (x1).toNatClampNeg) 9) + (10 : Int32)) g8)))) ∧ (x2 = 0 → Q (-3 : Int32) h4))) ∧ (¬ (x2 ≤ (4 : Int32)) → Q (-6 : Int32) h4))) ∧ (¬ ((-4 : Int32) ≤ x2) → Q (-4 : Int32) h4))) ∧ (¬ v3 = 0 → Q (-1 : Int32) h4)))) : CtI 1 mX5_setAge [.ref 1, .int x1, .int x2] h Q := by
  refine Ct.of (by decide +kernel) (Nat.le_of_ble_eq_true rfl) ?_
  show GoI 1 mX5_setAge 0 [(0, .ref 1), (1, .int x1), (2, .int x2)] [] h Q
  refine go_aload_n (pc2 := 1) dX5_setAge_0 rfl rfl rfl ?_
  refine go_iload_n (pc2 := 2) dX5_setAge_1 rfl rfl rfl ?_
  obtain ⟨Q1, hC2, k⟩ := k
  refine gcV_I (pc2 := 5) (dC := 0) (As := [.int x1]) (st := []) rfl dX5_setAge_2 rfl w_545 ok_X5_noPlant vi_X5_noPlant c_1 (by decide) rfl rfl rfl (by decide) (Nat.le_of_ble_eq_true rfl) hC2 (fun v3 h4 hq5 => ?_)
  have k := k v3 h4 hq5
  refine go_if_eq (pc2 := 8) (tgt := 10) dX5_setAge_5 rfl (by decide) (fun c => ?_) (fun c => ?_)
  · have k := k.1 c
    refine go_iload_n (pc2 := 11) dX5_setAge_10 rfl rfl rfl ?_
    refine go_bipush (pc2 := 13) (v := (-4 : Int32)) dX5_setAge_11 rfl (by decide) ?_
    refine go_icmp_ge (pc2 := 16) (tgt := 19) dX5_setAge_13 rfl (by decide) (fun c => ?_) (fun c => ?_)
    · have k := k.1 c
      refine go_iload_n (pc2 := 20) dX5_setAge_19 rfl rfl rfl ?_
      refine go_iconst (pc2 := 21) (v := (4 : Int32)) dX5_setAge_20 rfl (by decide) ?_
      refine go_icmp_le (pc2 := 24) (tgt := 27) dX5_setAge_21 rfl (by decide) (fun c => ?_) (fun c => ?_)
      · have k := k.1 c
        refine go_iload_n (pc2 := 28) dX5_setAge_27 rfl rfl rfl ?_
        refine go_if_ne (pc2 := 31) (tgt := 34) dX5_setAge_28 rfl (by decide) (fun c => ?_) (fun c => ?_)
        · have k := k.1 c
          refine go_aload_n (pc2 := 35) dX5_setAge_34 rfl rfl rfl ?_
          refine gf_114 (pc2 := 38) rfl dX5_setAge_35 rfl c_1 (fvs r_1_4) ?_
          refine go_iload_n (pc2 := 39) dX5_setAge_38 rfl rfl rfl ?_
          obtain ⟨y6, k⟩ := k
          refine go_aaload (pc2 := 40) (t := 0) dX5_setAge_39 rfl (by decide) c_5 y6 rfl (rfo_s (ra_5 _ (vp_lt y6))) ?_
          refine gf_74 (pc2 := 43) rfl dX5_setAge_40 rfl (isPl_6 _ (vp_lt y6)) fvi ?_
          refine go_bipush (pc2 := 45) (v := (10 : Int32)) dX5_setAge_43 rfl (by decide) ?_
          refine go_iadd (pc2 := 46) dX5_setAge_45 rfl ?_
          refine go_istore_n (pc2 := 47) (ls2 := [(0, .ref 1), (1, .int x1), (2, .int x2), (3, .int ((h4.1 (6 + (x1).toNatClampNeg) 9) + (10 : Int32)))]) dX5_setAge_46 rfl rfl rfl rfl rfl rfl ?_
          refine go_aload_n (pc2 := 48) dX5_setAge_47 rfl rfl rfl ?_
          refine gf_114 (pc2 := 51) rfl dX5_setAge_48 rfl c_1 (fvs r_1_4) ?_
          refine go_iload_n (pc2 := 52) dX5_setAge_51 rfl rfl rfl ?_
          obtain ⟨y7, k⟩ := k
          refine go_aaload (pc2 := 53) (t := 0) dX5_setAge_52 rfl (by decide) c_5 y7 rfl (rfo_s (ra_5 _ (vp_lt y7))) ?_
          refine go_iload_n (pc2 := 54) dX5_setAge_53 rfl rfl rfl ?_
          refine pf_74 (pc2 := 57) rfl dX5_setAge_54 rfl (isPl_6 _ (vp_lt y7)) ?_
          obtain ⟨g8, eg8⟩ : ∃ y : Hp, y = (ui h4 (6 + (x1).toNatClampNeg) 9 x2) := ⟨_, rfl⟩
          rw [← eg8]
          have k := k g8 eg8
          refine go_iload_n (pc2 := 58) dX5_setAge_57 rfl rfl rfl ?_
          exact go_iret dX5_setAge_58 ⟨_, rfl, rfl⟩ ⟨rfl, _, rfl, k⟩
        · have k := k.2 c
          refine go_bipush (pc2 := 33) (v := (-3 : Int32)) dX5_setAge_31 rfl (by decide) ?_
          exact go_iret dX5_setAge_33 ⟨_, rfl, rfl⟩ ⟨rfl, _, rfl, k⟩
      · have k := k.2 c
        refine go_bipush (pc2 := 26) (v := (-6 : Int32)) dX5_setAge_24 rfl (by decide) ?_
        exact go_iret dX5_setAge_26 ⟨_, rfl, rfl⟩ ⟨rfl, _, rfl, k⟩
    · have k := k.2 c
      refine go_bipush (pc2 := 18) (v := (-4 : Int32)) dX5_setAge_16 rfl (by decide) ?_
      exact go_iret dX5_setAge_18 ⟨_, rfl, rfl⟩ ⟨rfl, _, rfl, k⟩
  · have k := k.2 c
    refine go_iconst (pc2 := 9) (v := (-1 : Int32)) dX5_setAge_8 rfl (by decide) ?_
    exact go_iret dX5_setAge_9 ⟨_, rfl, rfl⟩ ⟨rfl, _, rfl, k⟩
theorem e_X6_make {x0 : Nat} {x1 : Int32} {x2 : Int32} {h : Hp} {Q : Hp → Prop} (hx0 : isSh x0) (k : (∀ g1 : Hp, g1 = (ui h x0 2 x1) → (∀ g2 : Hp, g2 = (ui g1 x0 3 x2) → GoV 0 mX6_make 12 [(0, .ref x0), (3, .int (0 : Int32))] [] g2 Q))) : CtV 0 mX6_make [.ref x0, .int x1, .int x2] h Q := by
  refine Ct.of (by decide +kernel) (Nat.le_of_ble_eq_true rfl) ?_
  show GoV 0 mX6_make 0 [(0, .ref x0), (1, .int x1), (2, .int x2)] [] h Q
  refine go_aload_n (pc2 := 1) dX6_make_0 rfl rfl rfl ?_
  refine go_iload_n (pc2 := 2) dX6_make_1 rfl rfl rfl ?_
  refine pf_355 (pc2 := 5) rfl dX6_make_2 rfl hx0.1 ?_
  obtain ⟨g1, eg1⟩ : ∃ y : Hp, y = (ui h x0 2 x1) := ⟨_, rfl⟩
  rw [← eg1]
  have k := k g1 eg1
  refine go_aload_n (pc2 := 6) dX6_make_5 rfl rfl rfl ?_
  refine go_iload_n (pc2 := 7) dX6_make_6 rfl rfl rfl ?_
  refine pf_357 (pc2 := 10) rfl dX6_make_7 rfl hx0.1 ?_
  obtain ⟨g2, eg2⟩ : ∃ y : Hp, y = (ui g1 x0 3 x2) := ⟨_, rfl⟩
  rw [← eg2]
  have k := k g2 eg2
  refine go_iconst (pc2 := 11) (v := (0 : Int32)) dX6_make_10 rfl (by decide) ?_
  refine go_istore_n (pc2 := 12) (ls2 := [(0, .ref x0), (1, .int x1), (2, .int x2), (3, .int (0 : Int32))]) dX6_make_11 rfl rfl rfl rfl rfl rfl ?_
  exact Go.pick [0, 3] rfl k
theorem b_X6_make_12 {x0 : Nat} {x3 : Int32} {h : Hp} {Q : Hp → Prop} (hx0 : isSh x0) (k : (((9 : Int32) ≤ x3 → Q h) ∧ (¬ ((9 : Int32) ≤ x3) → (vp_in x3 9 ∧ (∀ g2 : Hp, g2 = (ui h (x0 + 2) (x3).toNatClampNeg (0 : Int32)) → GoV 0 mX6_make 12 [(0, .ref x0), (3, .int (x3 + 1))] [] g2 Q))))) : GoV 0 mX6_make 12 [(0, .ref x0), (3, .int x3)] [] h Q := by
  refine go_iload_n (pc2 := 13) dX6_make_12 rfl rfl rfl ?_
  refine go_bipush (pc2 := 15) (v := (9 : Int32)) dX6_make_13 rfl (by decide) ?_
  refine go_icmp_ge (pc2 := 18) (tgt := 31) dX6_make_15 rfl (by decide) (fun c => ?_) (fun c => ?_)
  · have k := k.1 c
    exact go_ret dX6_make_31 rfl ⟨rfl, rfl, k⟩
  · have k := k.2 c
    refine go_aload_n (pc2 := 19) dX6_make_18 rfl rfl rfl ?_
    refine gf_353 (pc2 := 22) rfl dX6_make_19 rfl hx0.1 (fvs hx0.2.2.1) ?_
    refine go_iload_n (pc2 := 23) dX6_make_22 rfl rfl rfl ?_
    refine go_iconst (pc2 := 24) (v := (0 : Int32)) dX6_make_23 rfl (by decide) ?_
    obtain ⟨y1, k⟩ := k
    refine go_bastore (pc2 := 25) (j := (x3).toNatClampNeg) dX6_make_24 rfl hx0.2.2.2.2.1 y1 rfl rfl ?_
    obtain ⟨g2, eg2⟩ : ∃ y : Hp, y = (ui h (x0 + 2) (x3).toNatClampNeg (0 : Int32)) := ⟨_, rfl⟩
    rw [← eg2]
    have k := k g2 eg2
    refine go_iinc (pc2 := 28) (ls2 := [(0, .ref x0), (3, .int (x3 + 1))]) (v := (x3 + 1)) dX6_make_25 rfl rfl rfl rfl rfl rfl rfl ?_
    refine go_goto (tgt := 12) dX6_make_28 (by decide) ?_
    exact k
theorem e_X6_noPlace {x0 : Nat} {x1 : Int32} {h : Hp} {Q : Int32 → Hp → Prop} (hx0 : isSh x0) (k : ((x1 < 0 → Q (1 : Int32) h) ∧ (¬ (x1 < 0) → (((h.1 x0 3) ≤ x1 → Q (1 : Int32) h) ∧ (¬ ((h.1 x0 3) ≤ x1) → ((x1 < (9 : Int32) → Q (0 : Int32) h) ∧ (¬ (x1 < (9 : Int32)) → Q (1 : Int32) h))))))) : CtI 0 mX6_noPlace [.ref x0, .int x1] h Q := by
  refine Ct.of (by decide +kernel) (Nat.le_of_ble_eq_true rfl) ?_
  show GoI 0 mX6_noPlace 0 [(0, .ref x0), (1, .int x1)] [] h Q
  refine go_iload_n (pc2 := 1) dX6_noPlace_0 rfl rfl rfl ?_
  refine go_if_lt (pc2 := 4) (tgt := 18) dX6_noPlace_1 rfl (by decide) (fun c => ?_) (fun c => ?_)
  · have k := k.1 c
    refine go_iconst (pc2 := 19) (v := (1 : Int32)) dX6_noPlace_18 rfl (by decide) ?_
    refine go_goto (tgt := 23) dX6_noPlace_19 (by decide) ?_
    exact go_iret dX6_noPlace_23 ⟨_, rfl, rfl⟩ ⟨rfl, _, rfl, k⟩
  · have k := k.2 c
    refine go_iload_n (pc2 := 5) dX6_noPlace_4 rfl rfl rfl ?_
    refine go_aload_n (pc2 := 6) dX6_noPlace_5 rfl rfl rfl ?_
    refine gf_357 (pc2 := 9) rfl dX6_noPlace_6 rfl hx0.1 fvi ?_
    refine go_icmp_ge (pc2 := 12) (tgt := 18) dX6_noPlace_9 rfl (by decide) (fun c => ?_) (fun c => ?_)
    · have k := k.1 c
      refine go_iconst (pc2 := 19) (v := (1 : Int32)) dX6_noPlace_18 rfl (by decide) ?_
      refine go_goto (tgt := 23) dX6_noPlace_19 (by decide) ?_
      exact go_iret dX6_noPlace_23 ⟨_, rfl, rfl⟩ ⟨rfl, _, rfl, k⟩
    · have k := k.2 c
      refine go_iload_n (pc2 := 13) dX6_noPlace_12 rfl rfl rfl ?_
      refine go_bipush (pc2 := 15) (v := (9 : Int32)) dX6_noPlace_13 rfl (by decide) ?_
      refine go_icmp_lt (pc2 := 18) (tgt := 22) dX6_noPlace_15 rfl (by decide) (fun c => ?_) (fun c => ?_)
      · have k := k.1 c
        refine go_iconst (pc2 := 23) (v := (0 : Int32)) dX6_noPlace_22 rfl (by decide) ?_
        exact go_iret dX6_noPlace_23 ⟨_, rfl, rfl⟩ ⟨rfl, _, rfl, k⟩
      · have k := k.2 c
        refine go_iconst (pc2 := 19) (v := (1 : Int32)) dX6_noPlace_18 rfl (by decide) ?_
        refine go_goto (tgt := 23) dX6_noPlace_19 (by decide) ?_
        exact go_iret dX6_noPlace_23 ⟨_, rfl, rfl⟩ ⟨rfl, _, rfl, k⟩
theorem e_X6_copyFrom {x0 : Nat} {x1 : Nat} {h : Hp} {Q : Hp → Prop} (hx0 : isSh x0) (hx1 : isSh x1) (k : (∀ g1 : Hp, g1 = (ui h x0 2 (h.1 x1 2)) → (∀ g2 : Hp, g2 = (ui g1 x0 3 (g1.1 x1 3)) → GoV 1 mX6_copyFrom 18 [(0, .ref x0), (1, .ref x1), (2, .int (0 : Int32))] [] g2 Q))) : CtV 1 mX6_copyFrom [.ref x0, .ref x1] h Q := by
  refine Ct.of (by decide +kernel) (Nat.le_of_ble_eq_true rfl) ?_
  show GoV 1 mX6_copyFrom 0 [(0, .ref x0), (1, .ref x1)] [] h Q
  refine go_aload_n (pc2 := 1) dX6_copyFrom_0 rfl rfl rfl ?_
  refine go_aload_n (pc2 := 2) dX6_copyFrom_1 rfl rfl rfl ?_
  refine gf_355 (pc2 := 5) rfl dX6_copyFrom_2 rfl hx1.1 fvi ?_
  refine pf_355 (pc2 := 8) rfl dX6_copyFrom_5 rfl hx0.1 ?_
  obtain ⟨g1, eg1⟩ : ∃ y : Hp, y = (ui h x0 2 (h.1 x1 2)) := ⟨_, rfl⟩
  rw [← eg1]
  have k := k g1 eg1
  refine go_aload_n (pc2 := 9) dX6_copyFrom_8 rfl rfl rfl ?_
  refine go_aload_n (pc2 := 10) dX6_copyFrom_9 rfl rfl rfl ?_
  refine gf_357 (pc2 := 13) rfl dX6_copyFrom_10 rfl hx1.1 fvi ?_
  refine pf_357 (pc2 := 16) rfl dX6_copyFrom_13 rfl hx0.1 ?_
  obtain ⟨g2, eg2⟩ : ∃ y : Hp, y = (ui g1 x0 3 (g1.1 x1 3)) := ⟨_, rfl⟩
  rw [← eg2]
  have k := k g2 eg2
  refine go_iconst (pc2 := 17) (v := (0 : Int32)) dX6_copyFrom_16 rfl (by decide) ?_
  refine go_istore_n (pc2 := 18) (ls2 := [(0, .ref x0), (1, .ref x1), (2, .int (0 : Int32))]) dX6_copyFrom_17 rfl rfl rfl rfl rfl rfl ?_
  exact k
theorem b_X6_copyFrom_18 {x0 : Nat} {x1 : Nat} {x2 : Int32} {h : Hp} {Q : Hp → Prop} (hx0 : isSh x0) (hx1 : isSh x1) (k : (((9 : Int32) ≤ x2 → Q h) ∧ (¬ ((9 : Int32) ≤ x2) → (vp_in x2 9 ∧ (vp_in x2 9 ∧ ((h.1 (x1 + 2) (x2).toNatClampNeg) &&& 1 = (h.1 (x1 + 2) (x2).toNatClampNeg) ∧ (∀ g4 : Hp, g4 = (ui h (x0 + 2) (x2).toNatClampNeg (h.1 (x1 + 2) (x2).toNatClampNeg)) → (vp_in x2 9 ∧ (vp_in x2 9 ∧ (∃ Q7, CtV 0 mX3_copyFrom [.ref (x0 + 3 + (x2).toNatClampNeg), .ref (x1 + 3 + (x2).toNatClampNeg)] g4 Q7 ∧ ∀ h10 : Hp, Q7 h10 → GoV 1 mX6_copyFrom 18 [(0, .ref x0), (1, .ref x1), (2, .int (x2 + 1))] [] h10 Q)))))))))) : GoV 1 mX6_copyFrom 18 [(0, .ref x0), (1, .ref x1), (2, .int x2)] [] h Q := by
  refine go_iload_n (pc2 := 19) dX6_copyFrom_18 rfl rfl rfl ?_
  refine go_bipush (pc2 := 21) (v := (9 : Int32)) dX6_copyFrom_19 rfl (by decide) ?_
  refine go_icmp_ge (pc2 := 24) (tgt := 57) dX6_copyFrom_21 rfl (by decide) (fun c => ?_) (fun c => ?_)
  · have k := k.1 c
    exact go_ret dX6_copyFrom_57 rfl ⟨rfl, rfl, k⟩
  · have k := k.2 c
    refine go_aload_n (pc2 := 25) dX6_copyFrom_24 rfl rfl rfl ?_
    refine gf_353 (pc2 := 28) rfl dX6_copyFrom_25 rfl hx0.1 (fvs hx0.2.2.1) ?_
    refine go_iload_n (pc2 := 29) dX6_copyFrom_28 rfl rfl rfl ?_
    refine go_aload_n (pc2 := 30) dX6_copyFrom_29 rfl rfl rfl ?_
    refine gf_353 (pc2 := 33) rfl dX6_copyFrom_30 rfl hx1.1 (fvs hx1.2.2.1) ?_
    refine go_iload_n (pc2 := 34) dX6_copyFrom_33 rfl rfl rfl ?_
    obtain ⟨y1, k⟩ := k
    refine go_baload (pc2 := 35) (j := (x2).toNatClampNeg) dX6_copyFrom_34 rfl hx1.2.2.2.2.1 y1 rfl ?_
    obtain ⟨y2, k⟩ := k
    obtain ⟨y3, k⟩ := k
    refine go_bastore (pc2 := 36) (j := (x2).toNatClampNeg) dX6_copyFrom_35 rfl hx0.2.2.2.2.1 y2 rfl y3 ?_
    obtain ⟨g4, eg4⟩ : ∃ y : Hp, y = (ui h (x0 + 2) (x2).toNatClampNeg (h.1 (x1 + 2) (x2).toNatClampNeg)) := ⟨_, rfl⟩
    rw [← eg4]
    have k := k g4 eg4
    refine go_aload_n (pc2 := 37) dX6_copyFrom_36 rfl rfl rfl ?_
    refine gf_351 (pc2 := 40) rfl dX6_copyFrom_37 rfl hx0.1 (fvs hx0.2.1) ?_
    refine go_iload_n (pc2 := 41) dX6_copyFrom_40 rfl rfl rfl ?_
    obtain ⟨y5, k⟩ := k
    refine go_aaload (pc2 := 42) (t := 0) dX6_copyFrom_41 rfl (by decide) hx0.2.2.2.1 y5 rfl (rfo_s (hx0.2.2.2.2.2 _ (vp_lt y5)).1) ?_
    refine go_aload_n (pc2 := 43) dX6_copyFrom_42 rfl rfl rfl ?_
    refine gf_351 (pc2 := 46) rfl dX6_copyFrom_43 rfl hx1.1 (fvs hx1.2.1) ?_
    refine go_iload_n (pc2 := 47) dX6_copyFrom_46 rfl rfl rfl ?_
    obtain ⟨y6, k⟩ := k
    refine go_aaload (pc2 := 48) (t := 0) dX6_copyFrom_47 rfl (by decide) hx1.2.2.2.1 y6 rfl (rfo_s (hx1.2.2.2.2.2 _ (vp_lt y6)).1) ?_
    obtain ⟨Q7, hC8, k⟩ := k
    refine gcVN_V (pc2 := 51) (dC := 0) (As := [.ref (x1 + 3 + (x2).toNatClampNeg)]) (st := []) rfl dX6_copyFrom_48 rfl w_1033 ok_X3_copyFrom vi_X3_copyFrom (hx0.2.2.2.2.2 _ (vp_lt y5)).2 (by decide) rfl rfl rfl (by decide) (Nat.le_of_ble_eq_true rfl) hC8 (fun h10 hq11 => ?_)
    have k := k h10 hq11
    refine go_iinc (pc2 := 54) (ls2 := [(0, .ref x0), (1, .ref x1), (2, .int (x2 + 1))]) (v := (x2 + 1)) dX6_copyFrom_51 rfl rfl rfl rfl rfl rfl rfl ?_
    refine go_goto (tgt := 18) dX6_copyFrom_54 (by decide) ?_
    exact k
theorem e_X8_take {x1 : Int32} {h : Hp} {Q : Int32 → Hp → Prop}  (k : (((120 : Int32) ≤ (h.1 25 1) → Q (h.1 25 1) h) ∧ (¬ ((120 : Int32) ≤ (h.1 25 1)) → (vp_in (h.1 25 1) 120 ∧ (∀ g2 : Hp, g2 = (ui h 26 ((h.1 25 1)).toNatClampNeg x1) → (∀ g3 : Hp, g3 = (ui g2 25 1 ((g2.1 25 1) + (1 : Int32))) → Q (g3.1 25 1) g3)))))) : CtI 0 mX8_take [.ref 25, .int x1] h Q := by
  refine Ct.of (by decide +kernel) (Nat.le_of_ble_eq_true rfl) ?_
  show GoI 0 mX8_take 0 [(0, .ref 25), (1, .int x1)] [] h Q
  refine go_aload_n (pc2 := 1) dX8_take_0 rfl rfl rfl ?_
  refine gf_161 (pc2 := 4) rfl dX8_take_1 rfl c_25 fvi ?_
  refine go_bipush (pc2 := 6) (v := (120 : Int32)) dX8_take_4 rfl (by decide) ?_
  refine go_icmp_ge (pc2 := 9) (tgt := 29) dX8_take_6 rfl (by decide) (fun c => ?_) (fun c => ?_)
  · have k := k.1 c
    refine go_aload_n (pc2 := 30) dX8_take_29 rfl rfl rfl ?_
    refine gf_161 (pc2 := 33) rfl dX8_take_30 rfl c_25 fvi ?_
    exact go_iret dX8_take_33 ⟨_, rfl, rfl⟩ ⟨rfl, _, rfl, k⟩
  · have k := k.2 c
    refine go_aload_n (pc2 := 10) dX8_take_9 rfl rfl rfl ?_
    refine gf_160 (pc2 := 13) rfl dX8_take_10 rfl c_25 (fvs r_25_0) ?_
    refine go_aload_n (pc2 := 14) dX8_take_13 rfl rfl rfl ?_
    refine gf_161 (pc2 := 17) rfl dX8_take_14 rfl c_25 fvi ?_
    refine go_iload_n (pc2 := 18) dX8_take_17 rfl rfl rfl ?_
    obtain ⟨y1, k⟩ := k
    refine go_iastore (pc2 := 19) (j := ((h.1 25 1)).toNatClampNeg) dX8_take_18 rfl c_26 y1 rfl ?_
    obtain ⟨g2, eg2⟩ : ∃ y : Hp, y = (ui h 26 ((h.1 25 1)).toNatClampNeg x1) := ⟨_, rfl⟩
    rw [← eg2]
    have k := k g2 eg2
    refine go_aload_n (pc2 := 20) dX8_take_19 rfl rfl rfl ?_
    refine go_dup (pc2 := 21) dX8_take_20 rfl rfl ?_
    refine gf_161 (pc2 := 24) rfl dX8_take_21 rfl c_25 fvi ?_
    refine go_iconst (pc2 := 25) (v := (1 : Int32)) dX8_take_24 rfl (by decide) ?_
    refine go_iadd (pc2 := 26) dX8_take_25 rfl ?_
    refine pf_161 (pc2 := 29) rfl dX8_take_26 rfl c_25 ?_
    obtain ⟨g3, eg3⟩ : ∃ y : Hp, y = (ui g2 25 1 ((g2.1 25 1) + (1 : Int32))) := ⟨_, rfl⟩
    rw [← eg3]
    have k := k g3 eg3
    refine go_aload_n (pc2 := 30) dX8_take_29 rfl rfl rfl ?_
    refine gf_161 (pc2 := 33) rfl dX8_take_30 rfl c_25 fvi ?_
    exact go_iret dX8_take_33 ⟨_, rfl, rfl⟩ ⟨rfl, _, rfl, k⟩
theorem e_X8_readAll  {h : Hp} {Q : Int32 → Hp → Prop}  (k : (∀ g1 : Hp, g1 = (ui h 25 2 (0 : Int32)) → GoI 6 mX8_readAll 7 [(0, .ref 25), (1, .int (0 : Int32))] [] g1 Q)) : CtI 6 mX8_readAll [.ref 25] h Q := by
  refine Ct.of (by decide +kernel) (Nat.le_of_ble_eq_true rfl) ?_
  show GoI 6 mX8_readAll 0 [(0, .ref 25)] [] h Q
  refine go_aload_n (pc2 := 1) dX8_readAll_0 rfl rfl rfl ?_
  refine go_iconst (pc2 := 2) (v := (0 : Int32)) dX8_readAll_1 rfl (by decide) ?_
  refine pf_163 (pc2 := 5) rfl dX8_readAll_2 rfl c_25 ?_
  obtain ⟨g1, eg1⟩ : ∃ y : Hp, y = (ui h 25 2 (0 : Int32)) := ⟨_, rfl⟩
  rw [← eg1]
  have k := k g1 eg1
  refine go_iconst (pc2 := 6) (v := (0 : Int32)) dX8_readAll_5 rfl (by decide) ?_
  refine go_istore_n (pc2 := 7) (ls2 := [(0, .ref 25), (1, .int (0 : Int32))]) dX8_readAll_6 rfl rfl rfl rfl rfl rfl ?_
  exact k
theorem b_X8_readAll_7 {x1 : Int32} {h : Hp} {Q : Int32 → Hp → Prop}  (k : (((120 : Int32) < x1 → Q x1 h) ∧ (¬ ((120 : Int32) < x1) → ((x1 = 0 → GoI 6 mX8_readAll 28 [(0, .ref 25), (1, .int x1)] [] h Q) ∧ (¬ x1 = 0 → (((h.1 25 1) ≤ (h.1 25 2) → Q x1 h) ∧ (¬ ((h.1 25 1) ≤ (h.1 25 2)) → GoI 6 mX8_readAll 28 [(0, .ref 25), (1, .int x1)] [] h Q))))))) : GoI 6 mX8_readAll 7 [(0, .ref 25), (1, .int x1)] [] h Q := by
  refine go_iload_n (pc2 := 8) dX8_readAll_7 rfl rfl rfl ?_
  refine go_bipush (pc2 := 10) (v := (120 : Int32)) dX8_readAll_8 rfl (by decide) ?_
  refine go_icmp_gt (pc2 := 13) (tgt := 50) dX8_readAll_10 rfl (by decide) (fun c => ?_) (fun c => ?_)
  · have k := k.1 c
    refine go_iload_n (pc2 := 51) dX8_readAll_50 rfl rfl rfl ?_
    exact go_iret dX8_readAll_51 ⟨_, rfl, rfl⟩ ⟨rfl, _, rfl, k⟩
  · have k := k.2 c
    refine go_iload_n (pc2 := 14) dX8_readAll_13 rfl rfl rfl ?_
    refine go_if_eq (pc2 := 17) (tgt := 28) dX8_readAll_14 rfl (by decide) (fun c => ?_) (fun c => ?_)
    · have k := k.1 c
      exact k
    · have k := k.2 c
      refine go_aload_n (pc2 := 18) dX8_readAll_17 rfl rfl rfl ?_
      refine gf_163 (pc2 := 21) rfl dX8_readAll_18 rfl c_25 fvi ?_
      refine go_aload_n (pc2 := 22) dX8_readAll_21 rfl rfl rfl ?_
      refine gf_161 (pc2 := 25) rfl dX8_readAll_22 rfl c_25 fvi ?_
      refine go_icmp_ge (pc2 := 28) (tgt := 50) dX8_readAll_25 rfl (by decide) (fun c => ?_) (fun c => ?_)
      · have k := k.1 c
        refine go_iload_n (pc2 := 51) dX8_readAll_50 rfl rfl rfl ?_
        exact go_iret dX8_readAll_51 ⟨_, rfl, rfl⟩ ⟨rfl, _, rfl, k⟩
      · have k := k.2 c
        exact k
theorem b_X8_readAll_28 {x1 : Int32} {h : Hp} {Q : Int32 → Hp → Prop}  (k : (∃ Q1, CtI 5 mX8_readOne [.ref 25] h Q1 ∧ ∀ (v3 : Int32) (h4 : Hp), Q1 v3 h4 → ((¬ v3 = 0 → GoI 6 mX8_readAll 7 [(0, .ref 25), (1, .int (x1 + 1))] [] h4 Q) ∧ (v3 = 0 → Q ((-1000 : Int32) - (h4.1 25 2)) h4)))) : GoI 6 mX8_readAll 28 [(0, .ref 25), (1, .int x1)] [] h Q := by
  refine go_aload_n (pc2 := 29) dX8_readAll_28 rfl rfl rfl ?_
  obtain ⟨Q1, hC2, k⟩ := k
  refine gcV_I (pc2 := 32) (dC := 5) (As := []) (st := []) rfl dX8_readAll_29 rfl w_440 ok_X8_readOne vi_X8_readOne c_25 (by decide) rfl rfl rfl (by decide) (Nat.le_of_ble_eq_true rfl) hC2 (fun v3 h4 hq5 => ?_)
  have k := k v3 h4 hq5
  refine go_if_ne (pc2 := 35) (tgt := 44) dX8_readAll_32 rfl (by decide) (fun c => ?_) (fun c => ?_)
  · have k := k.1 c
    refine go_iinc (pc2 := 47) (ls2 := [(0, .ref 25), (1, .int (x1 + 1))]) (v := (x1 + 1)) dX8_readAll_44 rfl rfl rfl rfl rfl rfl rfl ?_
    refine go_goto (tgt := 7) dX8_readAll_47 (by decide) ?_
    exact k
  · have k := k.2 c
    refine go_sipush (pc2 := 38) (v := (-1000 : Int32)) dX8_readAll_35 rfl (by decide) ?_
    refine go_aload_n (pc2 := 39) dX8_readAll_38 rfl rfl rfl ?_
    refine gf_163 (pc2 := 42) rfl dX8_readAll_39 rfl c_25 fvi ?_
    refine go_isub (pc2 := 43) dX8_readAll_42 rfl ?_
    exact go_iret dX8_readAll_43 ⟨_, rfl, rfl⟩ ⟨rfl, _, rfl, k⟩
theorem e_X8_applyAll  {h : Hp} {Q : Int32 → Hp → Prop}  (k : (∀ g1 : Hp, g1 = (ui h 25 2 (0 : Int32)) → GoI 6 mX8_applyAll 7 [(0, .ref 25), (1, .ref 1), (2, .int (0 : Int32))] [] g1 Q)) : CtI 6 mX8_applyAll [.ref 25, .ref 1] h Q := by
  refine Ct.of (by decide +kernel) (Nat.le_of_ble_eq_true rfl) ?_
  show GoI 6 mX8_applyAll 0 [(0, .ref 25), (1, .ref 1)] [] h Q
  refine go_aload_n (pc2 := 1) dX8_applyAll_0 rfl rfl rfl ?_
  refine go_iconst (pc2 := 2) (v := (0 : Int32)) dX8_applyAll_1 rfl (by decide) ?_
  refine pf_163 (pc2 := 5) rfl dX8_applyAll_2 rfl c_25 ?_
  obtain ⟨g1, eg1⟩ : ∃ y : Hp, y = (ui h 25 2 (0 : Int32)) := ⟨_, rfl⟩
  rw [← eg1]
  have k := k g1 eg1
  refine go_iconst (pc2 := 6) (v := (0 : Int32)) dX8_applyAll_5 rfl (by decide) ?_
  refine go_istore_n (pc2 := 7) (ls2 := [(0, .ref 25), (1, .ref 1), (2, .int (0 : Int32))]) dX8_applyAll_6 rfl rfl rfl rfl rfl rfl ?_
  exact k
theorem b_X8_applyAll_7 {x2 : Int32} {h : Hp} {Q : Int32 → Hp → Prop}  (k : (((120 : Int32) < x2 → Q x2 h) ∧ (¬ ((120 : Int32) < x2) → (((h.1 25 1) ≤ (h.1 25 2) → Q x2 h) ∧ (¬ ((h.1 25 1) ≤ (h.1 25 2)) → (vp_in (h.1 25 2) 120 ∧ (∃ Q2, CtI 5 mX8_readOne [.ref 25] h Q2 ∧ ∀ (v4 : Int32) (h5 : Hp), Q2 v4 h5 → ((v4 = 0 → Q ((-2000 : Int32) - (h.1 25 2)) h5) ∧ (¬ v4 = 0 → (∃ Q7, CtI 2 mX8_applyOne [.ref 25, .ref 1, .int (h.1 26 ((h.1 25 2)).toNatClampNeg)] h5 Q7 ∧ ∀ (v9 : Int32) (h10 : Hp), Q7 v9 h10 → ((0 ≤ v9 → GoI 6 mX8_applyAll 7 [(0, .ref 25), (1, .ref 1), (2, .int (x2 + 1))] [] h10 Q) ∧ (¬ (0 ≤ v9) → Q ((-2000 : Int32) - (h.1 25 2)) h10)))))))))))) : GoI 6 mX8_applyAll 7 [(0, .ref 25), (1, .ref 1), (2, .int x2)] [] h Q := by
  refine go_iload_n (pc2 := 8) dX8_applyAll_7 rfl rfl rfl ?_
  refine go_bipush (pc2 := 10) (v := (120 : Int32)) dX8_applyAll_8 rfl (by decide) ?_
  refine go_icmp_gt (pc2 := 13) (tgt := 66) dX8_applyAll_10 rfl (by decide) (fun c => ?_) (fun c => ?_)
  · have k := k.1 c
    refine go_iload_n (pc2 := 67) dX8_applyAll_66 rfl rfl rfl ?_
    exact go_iret dX8_applyAll_67 ⟨_, rfl, rfl⟩ ⟨rfl, _, rfl, k⟩
  · have k := k.2 c
    refine go_aload_n (pc2 := 14) dX8_applyAll_13 rfl rfl rfl ?_
    refine gf_163 (pc2 := 17) rfl dX8_applyAll_14 rfl c_25 fvi ?_
    refine go_aload_n (pc2 := 18) dX8_applyAll_17 rfl rfl rfl ?_
    refine gf_161 (pc2 := 21) rfl dX8_applyAll_18 rfl c_25 fvi ?_
    refine go_icmp_ge (pc2 := 24) (tgt := 66) dX8_applyAll_21 rfl (by decide) (fun c => ?_) (fun c => ?_)
    · have k := k.1 c
      refine go_iload_n (pc2 := 67) dX8_applyAll_66 rfl rfl rfl ?_
      exact go_iret dX8_applyAll_67 ⟨_, rfl, rfl⟩ ⟨rfl, _, rfl, k⟩
    · have k := k.2 c
      refine go_aload_n (pc2 := 25) dX8_applyAll_24 rfl rfl rfl ?_
      refine gf_163 (pc2 := 28) rfl dX8_applyAll_25 rfl c_25 fvi ?_
      refine go_istore_n (pc2 := 29) (ls2 := [(0, .ref 25), (1, .ref 1), (2, .int x2), (3, .int (h.1 25 2))]) dX8_applyAll_28 rfl rfl rfl rfl rfl rfl ?_
      refine go_aload_n (pc2 := 30) dX8_applyAll_29 rfl rfl rfl ?_
      refine gf_160 (pc2 := 33) rfl dX8_applyAll_30 rfl c_25 (fvs r_25_0) ?_
      refine go_iload_n (pc2 := 34) dX8_applyAll_33 rfl rfl rfl ?_
      obtain ⟨y1, k⟩ := k
      refine go_iaload (pc2 := 35) (j := ((h.1 25 2)).toNatClampNeg) dX8_applyAll_34 rfl c_26 y1 rfl ?_
      refine go_istore (pc2 := 37) (ls2 := [(0, .ref 25), (1, .ref 1), (2, .int x2), (3, .int (h.1 25 2)), (4, .int (h.1 26 ((h.1 25 2)).toNatClampNeg))]) dX8_applyAll_35 rfl rfl rfl rfl rfl ?_
      refine go_aload_n (pc2 := 38) dX8_applyAll_37 rfl rfl rfl ?_
      obtain ⟨Q2, hC3, k⟩ := k
      refine gcV_I (pc2 := 41) (dC := 5) (As := []) (st := []) rfl dX8_applyAll_38 rfl w_440 ok_X8_readOne vi_X8_readOne c_25 (by decide) rfl rfl rfl (by decide) (Nat.le_of_ble_eq_true rfl) hC3 (fun v4 h5 hq6 => ?_)
      have k := k v4 h5 hq6
      refine go_if_eq (pc2 := 44) (tgt := 54) dX8_applyAll_41 rfl (by decide) (fun c => ?_) (fun c => ?_)
      · have k := k.1 c
        refine go_sipush (pc2 := 57) (v := (-2000 : Int32)) dX8_applyAll_54 rfl (by decide) ?_
        refine go_iload_n (pc2 := 58) dX8_applyAll_57 rfl rfl rfl ?_
        refine go_isub (pc2 := 59) dX8_applyAll_58 rfl ?_
        exact go_iret dX8_applyAll_59 ⟨_, rfl, rfl⟩ ⟨rfl, _, rfl, k⟩
      · have k := k.2 c
        refine go_aload_n (pc2 := 45) dX8_applyAll_44 rfl rfl rfl ?_
        refine go_aload_n (pc2 := 46) dX8_applyAll_45 rfl rfl rfl ?_
        refine go_iload (pc2 := 48) dX8_applyAll_46 rfl rfl ?_
        obtain ⟨Q7, hC8, k⟩ := k
        refine gcV_I (pc2 := 51) (dC := 2) (As := [.ref 1, .int (h.1 26 ((h.1 25 2)).toNatClampNeg)]) (st := []) rfl dX8_applyAll_48 rfl w_529 ok_X8_applyOne vi_X8_applyOne c_25 (by decide) rfl rfl rfl (by decide) (Nat.le_of_ble_eq_true rfl) hC8 (fun v9 h10 hq11 => ?_)
        have k := k v9 h10 hq11
        refine go_if_ge (pc2 := 54) (tgt := 60) dX8_applyAll_51 rfl (by decide) (fun c => ?_) (fun c => ?_)
        · have k := k.1 c
          refine go_iinc (pc2 := 63) (ls2 := [(0, .ref 25), (1, .ref 1), (2, .int (x2 + 1)), (3, .int (h.1 25 2)), (4, .int (h.1 26 ((h.1 25 2)).toNatClampNeg))]) (v := (x2 + 1)) dX8_applyAll_60 rfl rfl rfl rfl rfl rfl rfl ?_
          refine go_goto (tgt := 7) dX8_applyAll_63 (by decide) ?_
          exact Go.pick [0, 1, 2] rfl k
        · have k := k.2 c
          refine go_sipush (pc2 := 57) (v := (-2000 : Int32)) dX8_applyAll_54 rfl (by decide) ?_
          refine go_iload_n (pc2 := 58) dX8_applyAll_57 rfl rfl rfl ?_
          refine go_isub (pc2 := 59) dX8_applyAll_58 rfl ?_
          exact go_iret dX8_applyAll_59 ⟨_, rfl, rfl⟩ ⟨rfl, _, rfl, k⟩
theorem e_X8_shapeOf {x0 : Int32} {h : Hp} {Q : Nat → Hp → Prop}  (k : ((x0 = (97 : Int32) → Q 1003 h) ∧ (¬ x0 = (97 : Int32) → ((x0 = (99 : Int32) → Q 1002 h) ∧ (¬ x0 = (99 : Int32) → ((x0 = (100 : Int32) → Q 1001 h) ∧ (¬ x0 = (100 : Int32) → ((x0 = (103 : Int32) → Q 1001 h) ∧ (¬ x0 = (103 : Int32) → ((x0 = (104 : Int32) → Q 1004 h) ∧ (¬ x0 = (104 : Int32) → ((x0 = (112 : Int32) → Q 1000 h) ∧ (¬ x0 = (112 : Int32) → ((x0 = (116 : Int32) → Q 1001 h) ∧ (¬ x0 = (116 : Int32) → Q 1005 h))))))))))))))) : CtR 0 mX8_shapeOf [.int x0] h Q := by
  refine Ct.of (by decide +kernel) (Nat.le_of_ble_eq_true rfl) ?_
  show GoR 0 mX8_shapeOf 0 [(0, .int x0)] [] h Q
  refine go_iload_n (pc2 := 1) dX8_shapeOf_0 rfl rfl rfl ?_
  by_cases cs0 : x0 = (97 : Int32)
  · have k := k.1 cs0
    refine go_tsEq (tgt := 105) dX8_shapeOf_1 cs0 (by decide) (by decide) rfl (by decide) ?_
    refine go_ldcS (pc2 := 107) (i := 3) (by decide) rfl rfl dX8_shapeOf_105 rfl ?_
    exact go_aret dX8_shapeOf_107 ⟨_, rfl⟩ ⟨rfl, _, rfl, k⟩
  have k := k.2 cs0
  by_cases cs1 : x0 = (99 : Int32)
  · have k := k.1 cs1
    refine go_tsEq (tgt := 102) dX8_shapeOf_1 cs1 (by decide) (by decide) rfl (by decide) ?_
    refine go_ldcS (pc2 := 104) (i := 2) (by decide) rfl rfl dX8_shapeOf_102 rfl ?_
    exact go_aret dX8_shapeOf_104 ⟨_, rfl⟩ ⟨rfl, _, rfl, k⟩
  have k := k.2 cs1
  by_cases cs2 : x0 = (100 : Int32)
  · have k := k.1 cs2
    refine go_tsEq (tgt := 99) dX8_shapeOf_1 cs2 (by decide) (by decide) rfl (by decide) ?_
    refine go_ldcS (pc2 := 101) (i := 1) (by decide) rfl rfl dX8_shapeOf_99 rfl ?_
    exact go_aret dX8_shapeOf_101 ⟨_, rfl⟩ ⟨rfl, _, rfl, k⟩
  have k := k.2 cs2
  by_cases cs3 : x0 = (103 : Int32)
  · have k := k.1 cs3
    refine go_tsEq (tgt := 99) dX8_shapeOf_1 cs3 (by decide) (by decide) rfl (by decide) ?_
    refine go_ldcS (pc2 := 101) (i := 1) (by decide) rfl rfl dX8_shapeOf_99 rfl ?_
    exact go_aret dX8_shapeOf_101 ⟨_, rfl⟩ ⟨rfl, _, rfl, k⟩
  have k := k.2 cs3
  by_cases cs4 : x0 = (104 : Int32)
  · have k := k.1 cs4
    refine go_tsEq (tgt := 108) dX8_shapeOf_1 cs4 (by decide) (by decide) rfl (by decide) ?_
    refine go_ldcS (pc2 := 110) (i := 4) (by decide) rfl rfl dX8_shapeOf_108 rfl ?_
    exact go_aret dX8_shapeOf_110 ⟨_, rfl⟩ ⟨rfl, _, rfl, k⟩
  have k := k.2 cs4
  by_cases cs5 : x0 = (112 : Int32)
  · have k := k.1 cs5
    refine go_tsEq (tgt := 96) dX8_shapeOf_1 cs5 (by decide) (by decide) rfl (by decide) ?_
    refine go_ldcS (pc2 := 98) (i := 0) (by decide) rfl rfl dX8_shapeOf_96 rfl ?_
    exact go_aret dX8_shapeOf_98 ⟨_, rfl⟩ ⟨rfl, _, rfl, k⟩
  have k := k.2 cs5
  by_cases cs6 : x0 = (116 : Int32)
  · have k := k.1 cs6
    refine go_tsEq (tgt := 99) dX8_shapeOf_1 cs6 (by decide) (by decide) rfl (by decide) ?_
    refine go_ldcS (pc2 := 101) (i := 1) (by decide) rfl rfl dX8_shapeOf_99 rfl ?_
    exact go_aret dX8_shapeOf_101 ⟨_, rfl⟩ ⟨rfl, _, rfl, k⟩
  have k := k.2 cs6
  by_cases cb : x0.toInt < 97 ∨ 116 < x0.toInt
  · refine go_tsOut (tgt := 111) dX8_shapeOf_1 cb (by decide) ?_
    refine go_ldcS (pc2 := 113) (i := 5) (by decide) rfl rfl dX8_shapeOf_111 rfl ?_
    exact go_aret dX8_shapeOf_113 ⟨_, rfl⟩ ⟨rfl, _, rfl, k⟩
  · have ch : x0 = (98 : Int32) ∨ x0 = (101 : Int32) ∨ x0 = (102 : Int32) ∨ x0 = (105 : Int32) ∨ x0 = (106 : Int32) ∨ x0 = (107 : Int32) ∨ x0 = (108 : Int32) ∨ x0 = (109 : Int32) ∨ x0 = (110 : Int32) ∨ x0 = (111 : Int32) ∨ x0 = (113 : Int32) ∨ x0 = (114 : Int32) ∨ x0 = (115 : Int32) := by
      have q1 := cb
      have e0 := i32_ne cs0 (by decide : ((97 : Int32)).toInt = 97)
      have e1 := i32_ne cs1 (by decide : ((99 : Int32)).toInt = 99)
      have e2 := i32_ne cs2 (by decide : ((100 : Int32)).toInt = 100)
      have e3 := i32_ne cs3 (by decide : ((103 : Int32)).toInt = 103)
      have e4 := i32_ne cs4 (by decide : ((104 : Int32)).toInt = 104)
      have e5 := i32_ne cs5 (by decide : ((112 : Int32)).toInt = 112)
      have e6 := i32_ne cs6 (by decide : ((116 : Int32)).toInt = 116)
      have q2 : x0.toInt = 98 ∨ x0.toInt = 101 ∨ x0.toInt = 102 ∨ x0.toInt = 105 ∨ x0.toInt = 106 ∨ x0.toInt = 107 ∨ x0.toInt = 108 ∨ x0.toInt = 109 ∨ x0.toInt = 110 ∨ x0.toInt = 111 ∨ x0.toInt = 113 ∨ x0.toInt = 114 ∨ x0.toInt = 115 := by omega
      rcases q2 with q | q | q | q | q | q | q | q | q | q | q | q | q
      · exact (Or.inl (i32_eq q (by decide)))
      · exact (Or.inr (Or.inl (i32_eq q (by decide))))
      · exact (Or.inr (Or.inr (Or.inl (i32_eq q (by decide)))))
      · exact (Or.inr (Or.inr (Or.inr (Or.inl (i32_eq q (by decide))))))
      · exact (Or.inr (Or.inr (Or.inr (Or.inr (Or.inl (i32_eq q (by decide)))))))
      · exact (Or.inr (Or.inr (Or.inr (Or.inr (Or.inr (Or.inl (i32_eq q (by decide))))))))
      · exact (Or.inr (Or.inr (Or.inr (Or.inr (Or.inr (Or.inr (Or.inl (i32_eq q (by decide)))))))))
      · exact (Or.inr (Or.inr (Or.inr (Or.inr (Or.inr (Or.inr (Or.inr (Or.inl (i32_eq q (by decide))))))))))
      · exact (Or.inr (Or.inr (Or.inr (Or.inr (Or.inr (Or.inr (Or.inr (Or.inr (Or.inl (i32_eq q (by decide)))))))))))
      · exact (Or.inr (Or.inr (Or.inr (Or.inr (Or.inr (Or.inr (Or.inr (Or.inr (Or.inr (Or.inl (i32_eq q (by decide))))))))))))
      · exact (Or.inr (Or.inr (Or.inr (Or.inr (Or.inr (Or.inr (Or.inr (Or.inr (Or.inr (Or.inr (Or.inl (i32_eq q (by decide)))))))))))))
      · exact (Or.inr (Or.inr (Or.inr (Or.inr (Or.inr (Or.inr (Or.inr (Or.inr (Or.inr (Or.inr (Or.inr (Or.inl (i32_eq q (by decide))))))))))))))
      · exact (Or.inr (Or.inr (Or.inr (Or.inr (Or.inr (Or.inr (Or.inr (Or.inr (Or.inr (Or.inr (Or.inr (Or.inr (i32_eq q (by decide))))))))))))))
    rcases ch with ch | ch | ch | ch | ch | ch | ch | ch | ch | ch | ch | ch | ch
    · refine go_tsEq (tgt := 111) dX8_shapeOf_1 ch (by decide) (by decide) rfl (by decide) ?_
      refine go_ldcS (pc2 := 113) (i := 5) (by decide) rfl rfl dX8_shapeOf_111 rfl ?_
      exact go_aret dX8_shapeOf_113 ⟨_, rfl⟩ ⟨rfl, _, rfl, k⟩
    · refine go_tsEq (tgt := 111) dX8_shapeOf_1 ch (by decide) (by decide) rfl (by decide) ?_
      refine go_ldcS (pc2 := 113) (i := 5) (by decide) rfl rfl dX8_shapeOf_111 rfl ?_
      exact go_aret dX8_shapeOf_113 ⟨_, rfl⟩ ⟨rfl, _, rfl, k⟩
    · refine go_tsEq (tgt := 111) dX8_shapeOf_1 ch (by decide) (by decide) rfl (by decide) ?_
      refine go_ldcS (pc2 := 113) (i := 5) (by decide) rfl rfl dX8_shapeOf_111 rfl ?_
      exact go_aret dX8_shapeOf_113 ⟨_, rfl⟩ ⟨rfl, _, rfl, k⟩
    · refine go_tsEq (tgt := 111) dX8_shapeOf_1 ch (by decide) (by decide) rfl (by decide) ?_
      refine go_ldcS (pc2 := 113) (i := 5) (by decide) rfl rfl dX8_shapeOf_111 rfl ?_
      exact go_aret dX8_shapeOf_113 ⟨_, rfl⟩ ⟨rfl, _, rfl, k⟩
    · refine go_tsEq (tgt := 111) dX8_shapeOf_1 ch (by decide) (by decide) rfl (by decide) ?_
      refine go_ldcS (pc2 := 113) (i := 5) (by decide) rfl rfl dX8_shapeOf_111 rfl ?_
      exact go_aret dX8_shapeOf_113 ⟨_, rfl⟩ ⟨rfl, _, rfl, k⟩
    · refine go_tsEq (tgt := 111) dX8_shapeOf_1 ch (by decide) (by decide) rfl (by decide) ?_
      refine go_ldcS (pc2 := 113) (i := 5) (by decide) rfl rfl dX8_shapeOf_111 rfl ?_
      exact go_aret dX8_shapeOf_113 ⟨_, rfl⟩ ⟨rfl, _, rfl, k⟩
    · refine go_tsEq (tgt := 111) dX8_shapeOf_1 ch (by decide) (by decide) rfl (by decide) ?_
      refine go_ldcS (pc2 := 113) (i := 5) (by decide) rfl rfl dX8_shapeOf_111 rfl ?_
      exact go_aret dX8_shapeOf_113 ⟨_, rfl⟩ ⟨rfl, _, rfl, k⟩
    · refine go_tsEq (tgt := 111) dX8_shapeOf_1 ch (by decide) (by decide) rfl (by decide) ?_
      refine go_ldcS (pc2 := 113) (i := 5) (by decide) rfl rfl dX8_shapeOf_111 rfl ?_
      exact go_aret dX8_shapeOf_113 ⟨_, rfl⟩ ⟨rfl, _, rfl, k⟩
    · refine go_tsEq (tgt := 111) dX8_shapeOf_1 ch (by decide) (by decide) rfl (by decide) ?_
      refine go_ldcS (pc2 := 113) (i := 5) (by decide) rfl rfl dX8_shapeOf_111 rfl ?_
      exact go_aret dX8_shapeOf_113 ⟨_, rfl⟩ ⟨rfl, _, rfl, k⟩
    · refine go_tsEq (tgt := 111) dX8_shapeOf_1 ch (by decide) (by decide) rfl (by decide) ?_
      refine go_ldcS (pc2 := 113) (i := 5) (by decide) rfl rfl dX8_shapeOf_111 rfl ?_
      exact go_aret dX8_shapeOf_113 ⟨_, rfl⟩ ⟨rfl, _, rfl, k⟩
    · refine go_tsEq (tgt := 111) dX8_shapeOf_1 ch (by decide) (by decide) rfl (by decide) ?_
      refine go_ldcS (pc2 := 113) (i := 5) (by decide) rfl rfl dX8_shapeOf_111 rfl ?_
      exact go_aret dX8_shapeOf_113 ⟨_, rfl⟩ ⟨rfl, _, rfl, k⟩
    · refine go_tsEq (tgt := 111) dX8_shapeOf_1 ch (by decide) (by decide) rfl (by decide) ?_
      refine go_ldcS (pc2 := 113) (i := 5) (by decide) rfl rfl dX8_shapeOf_111 rfl ?_
      exact go_aret dX8_shapeOf_113 ⟨_, rfl⟩ ⟨rfl, _, rfl, k⟩
    · refine go_tsEq (tgt := 111) dX8_shapeOf_1 ch (by decide) (by decide) rfl (by decide) ?_
      refine go_ldcS (pc2 := 113) (i := 5) (by decide) rfl rfl dX8_shapeOf_111 rfl ?_
      exact go_aret dX8_shapeOf_113 ⟨_, rfl⟩ ⟨rfl, _, rfl, k⟩
theorem e_X8_readOne  {h : Hp} {Q : Int32 → Hp → Prop}  (k : (∃ Q1, CtI 0 mX8_here [.ref 25] h Q1 ∧ ∀ (v3 : Int32) (h4 : Hp), Q1 v3 h4 → (∃ Q6, CtR 0 mX8_shapeOf [.int v3] h4 Q6 ∧ ∀ (v8 : Nat) (h9 : Hp), Q6 v8 h9 → ∃ i11, (i11 < 6 ∧ v8 = 1000 + i11) ∧ (∃ Q13, CtI 0 mJ0_isEmpty_aae02 [.ref (1000 + i11)] h9 Q13 ∧ ∀ (v15 : Int32) (h16 : Hp), Q13 v15 h16 → ((v15 = 0 → (∀ g18 : Hp, g18 = (ui h16 25 2 ((h16.1 25 2) + (1 : Int32))) → GoI 5 mX8_readOne 31 [(0, .ref 25), (1, .ref (1000 + i11)), (2, .int (0 : Int32)), (3, .int (0 : Int32))] [] g18 Q)) ∧ (¬ v15 = 0 → Q (0 : Int32) h16)))))) : CtI 5 mX8_readOne [.ref 25] h Q := by
  refine Ct.of (by decide +kernel) (Nat.le_of_ble_eq_true rfl) ?_
  show GoI 5 mX8_readOne 0 [(0, .ref 25)] [] h Q
  refine go_aload_n (pc2 := 1) dX8_readOne_0 rfl rfl rfl ?_
  obtain ⟨Q1, hC2, k⟩ := k
  refine gcV_I (pc2 := 4) (dC := 0) (As := []) (st := []) rfl dX8_readOne_1 rfl w_444 ok_X8_here vi_X8_here c_25 (by decide) rfl rfl rfl (by decide) (Nat.le_of_ble_eq_true rfl) hC2 (fun v3 h4 hq5 => ?_)
  have k := k v3 h4 hq5
  obtain ⟨Q6, hC7, k⟩ := k
  refine gcS_R (pc2 := 7) (dC := 0) (As := [.int v3]) (st := []) rfl dX8_readOne_4 rfl w_448 ok_X8_shapeOf w_449 rfl (by decide) (Nat.le_of_ble_eq_true rfl) hC7 (fun v8 h9 hq10 => ?_)
  obtain ⟨i11, ⟨hi12, rfl⟩, k⟩ := k v8 h9 hq10
  refine go_astore_n (pc2 := 8) (ls2 := [(0, .ref 25), (1, .ref (1000 + i11))]) dX8_readOne_7 rfl rfl rfl rfl rfl rfl ?_
  refine go_aload_n (pc2 := 9) dX8_readOne_8 rfl rfl rfl ?_
  obtain ⟨Q13, hC14, k⟩ := k
  refine gcVS_I (pc2 := 12) (dC := 0) (i := i11) (As := []) (st := []) hi12 rfl dX8_readOne_9 rfl w_457 ok_J0_isEmpty_aae02 vi_J0_isEmpty_aae02 rfl rfl (by decide) (Nat.le_of_ble_eq_true rfl) hC14 (fun v15 h16 hq17 => ?_)
  have k := k v15 h16 hq17
  refine go_if_eq (pc2 := 15) (tgt := 17) dX8_readOne_12 rfl (by decide) (fun c => ?_) (fun c => ?_)
  · have k := k.1 c
    refine go_aload_n (pc2 := 18) dX8_readOne_17 rfl rfl rfl ?_
    refine go_dup (pc2 := 19) dX8_readOne_18 rfl rfl ?_
    refine gf_163 (pc2 := 22) rfl dX8_readOne_19 rfl c_25 fvi ?_
    refine go_iconst (pc2 := 23) (v := (1 : Int32)) dX8_readOne_22 rfl (by decide) ?_
    refine go_iadd (pc2 := 24) dX8_readOne_23 rfl ?_
    refine pf_163 (pc2 := 27) rfl dX8_readOne_24 rfl c_25 ?_
    obtain ⟨g18, eg18⟩ : ∃ y : Hp, y = (ui h16 25 2 ((h16.1 25 2) + (1 : Int32))) := ⟨_, rfl⟩
    rw [← eg18]
    have k := k g18 eg18
    refine go_iconst (pc2 := 28) (v := (0 : Int32)) dX8_readOne_27 rfl (by decide) ?_
    refine go_istore_n (pc2 := 29) (ls2 := [(0, .ref 25), (1, .ref (1000 + i11)), (2, .int (0 : Int32))]) dX8_readOne_28 rfl rfl rfl rfl rfl rfl ?_
    refine go_iconst (pc2 := 30) (v := (0 : Int32)) dX8_readOne_29 rfl (by decide) ?_
    refine go_istore_n (pc2 := 31) (ls2 := [(0, .ref 25), (1, .ref (1000 + i11)), (2, .int (0 : Int32)), (3, .int (0 : Int32))]) dX8_readOne_30 rfl rfl rfl rfl rfl rfl ?_
    exact k
  · have k := k.2 c
    refine go_iconst (pc2 := 16) (v := (0 : Int32)) dX8_readOne_15 rfl (by decide) ?_
    exact go_iret dX8_readOne_16 ⟨_, rfl, rfl⟩ ⟨rfl, _, rfl, k⟩
theorem b_X8_readOne_31 {ix1 : Nat} {x2 : Int32} {x3 : Int32} {h : Hp} {Q : Int32 → Hp → Prop} (hix1 : ix1 < 6) (k : (∃ Q1, CtI 1 mJ0_length_8abf5 [.ref (1000 + ix1)] h Q1 ∧ ∀ (v3 : Int32) (h4 : Hp), Q1 v3 h4 → ((v3 ≤ x3 → Q (1 : Int32) h4) ∧ (¬ (v3 ≤ x3) → (∃ Q6, CtI 4 mJ0_charAt_5068e [.ref (1000 + ix1), .int x3] h4 Q6 ∧ ∀ (v8 : Int32) (h9 : Hp), Q6 v8 h9 → ((¬ v8 = (110 : Int32) → GoI 5 mX8_readOne 75 [(0, .ref 25), (1, .ref (1000 + ix1)), (2, .int x2), (3, .int x3), (4, .int v8)] [] h9 Q) ∧ (v8 = (110 : Int32) → (((nI 4) ≤ x2 → GoI 5 mX8_readOne 75 [(0, .ref 25), (1, .ref (1000 + ix1)), (2, .int x2), (3, .int x3), (4, .int v8)] [] h9 Q) ∧ (¬ ((nI 4) ≤ x2) → (∃ Q11, CtI 2 mX8_readNumber [.ref 25, .int x2] h9 Q11 ∧ ∀ (v13 : Int32) (h14 : Hp), Q11 v13 h14 → GoI 5 mX8_readOne 99 [(0, .ref 25), (1, .ref (1000 + ix1)), (2, .int (x2 + 1)), (3, .int x3), (5, .int v13)] [] h14 Q)))))))))) : GoI 5 mX8_readOne 31 [(0, .ref 25), (1, .ref (1000 + ix1)), (2, .int x2), (3, .int x3)] [] h Q := by
  refine go_iload_n (pc2 := 32) dX8_readOne_31 rfl rfl rfl ?_
  refine go_aload_n (pc2 := 33) dX8_readOne_32 rfl rfl rfl ?_
  obtain ⟨Q1, hC2, k⟩ := k
  refine gcVS_I (pc2 := 36) (dC := 1) (i := ix1) (As := []) (st := [.int x3]) hix1 rfl dX8_readOne_33 rfl w_461 ok_J0_length_8abf5 vi_J0_length_8abf5 rfl rfl (by decide) (Nat.le_of_ble_eq_true rfl) hC2 (fun v3 h4 hq5 => ?_)
  have k := k v3 h4 hq5
  refine go_icmp_ge (pc2 := 39) (tgt := 112) dX8_readOne_36 rfl (by decide) (fun c => ?_) (fun c => ?_)
  · have k := k.1 c
    refine go_iconst (pc2 := 113) (v := (1 : Int32)) dX8_readOne_112 rfl (by decide) ?_
    exact go_iret dX8_readOne_113 ⟨_, rfl, rfl⟩ ⟨rfl, _, rfl, k⟩
  · have k := k.2 c
    refine go_aload_n (pc2 := 40) dX8_readOne_39 rfl rfl rfl ?_
    refine go_iload_n (pc2 := 41) dX8_readOne_40 rfl rfl rfl ?_
    obtain ⟨Q6, hC7, k⟩ := k
    refine gcVS_I (pc2 := 44) (dC := 4) (i := ix1) (As := [.int x3]) (st := []) hix1 rfl dX8_readOne_41 rfl w_471 ok_J0_charAt_5068e vi_J0_charAt_5068e rfl rfl (by decide) (Nat.le_of_ble_eq_true rfl) hC7 (fun v8 h9 hq10 => ?_)
    have k := k v8 h9 hq10
    refine go_istore (pc2 := 46) (ls2 := [(0, .ref 25), (1, .ref (1000 + ix1)), (2, .int x2), (3, .int x3), (4, .int v8)]) dX8_readOne_44 rfl rfl rfl rfl rfl ?_
    refine go_iload (pc2 := 48) dX8_readOne_46 rfl rfl ?_
    refine go_bipush (pc2 := 50) (v := (110 : Int32)) dX8_readOne_48 rfl (by decide) ?_
    refine go_icmp_ne (pc2 := 53) (tgt := 75) dX8_readOne_50 rfl (by decide) (fun c => ?_) (fun c => ?_)
    · have k := k.1 c
      exact k
    · have k := k.2 c
      refine go_iload_n (pc2 := 54) dX8_readOne_53 rfl rfl rfl ?_
      refine go_aload_n (pc2 := 55) dX8_readOne_54 rfl rfl rfl ?_
      refine gf_165 (pc2 := 58) rfl dX8_readOne_55 rfl c_25 (fvs r_25_4) ?_
      refine go_alen (pc2 := 59) (c0 := 0) dX8_readOne_58 rfl c_27 ?_
      refine go_icmp_ge (pc2 := 62) (tgt := 75) dX8_readOne_59 rfl (by decide) (fun c => ?_) (fun c => ?_)
      · have k := k.1 c
        exact k
      · have k := k.2 c
        refine go_aload_n (pc2 := 63) dX8_readOne_62 rfl rfl rfl ?_
        refine go_iload_n (pc2 := 64) dX8_readOne_63 rfl rfl rfl ?_
        obtain ⟨Q11, hC12, k⟩ := k
        refine gcV_I (pc2 := 67) (dC := 2) (As := [.int x2]) (st := []) rfl dX8_readOne_64 rfl w_509 ok_X8_readNumber vi_X8_readNumber c_25 (by decide) rfl rfl rfl (by decide) (Nat.le_of_ble_eq_true rfl) hC12 (fun v13 h14 hq15 => ?_)
        have k := k v13 h14 hq15
        refine go_istore (pc2 := 69) (ls2 := [(0, .ref 25), (1, .ref (1000 + ix1)), (2, .int x2), (3, .int x3), (4, .int v8), (5, .int v13)]) dX8_readOne_67 rfl rfl rfl rfl rfl ?_
        refine go_iinc (pc2 := 72) (ls2 := [(0, .ref 25), (1, .ref (1000 + ix1)), (2, .int (x2 + 1)), (3, .int x3), (4, .int v8), (5, .int v13)]) (v := (x2 + 1)) dX8_readOne_69 rfl rfl rfl rfl rfl rfl rfl ?_
        refine go_goto (tgt := 99) dX8_readOne_72 (by decide) ?_
        exact Go.pick [0, 1, 2, 3, 5] rfl k
theorem b_X8_readOne_75 {ix1 : Nat} {x2 : Int32} {x3 : Int32} {x4 : Int32} {h : Hp} {Q : Int32 → Hp → Prop} (hix1 : ix1 < 6) (k : ((¬ x4 = (63 : Int32) → (∃ Q1, CtI 1 mX8_readLetter [.ref 25, .int x4] h Q1 ∧ ∀ (v3 : Int32) (h4 : Hp), Q1 v3 h4 → GoI 5 mX8_readOne 99 [(0, .ref 25), (1, .ref (1000 + ix1)), (2, .int x2), (3, .int x3), (5, .int v3)] [] h4 Q)) ∧ (x4 = (63 : Int32) → (∃ Q6, CtI 1 mX8_readSign [.ref 25] h Q6 ∧ ∀ (v8 : Int32) (h9 : Hp), Q6 v8 h9 → GoI 5 mX8_readOne 99 [(0, .ref 25), (1, .ref (1000 + ix1)), (2, .int x2), (3, .int x3), (5, .int v8)] [] h9 Q)))) : GoI 5 mX8_readOne 75 [(0, .ref 25), (1, .ref (1000 + ix1)), (2, .int x2), (3, .int x3), (4, .int x4)] [] h Q := by
  refine go_iload (pc2 := 77) dX8_readOne_75 rfl rfl ?_
  refine go_bipush (pc2 := 79) (v := (63 : Int32)) dX8_readOne_77 rfl (by decide) ?_
  refine go_icmp_ne (pc2 := 82) (tgt := 91) dX8_readOne_79 rfl (by decide) (fun c => ?_) (fun c => ?_)
  · have k := k.1 c
    refine go_aload_n (pc2 := 92) dX8_readOne_91 rfl rfl rfl ?_
    refine go_iload (pc2 := 94) dX8_readOne_92 rfl rfl ?_
    obtain ⟨Q1, hC2, k⟩ := k
    refine gcV_I (pc2 := 97) (dC := 1) (As := [.int x4]) (st := []) rfl dX8_readOne_94 rfl w_521 ok_X8_readLetter vi_X8_readLetter c_25 (by decide) rfl rfl rfl (by decide) (Nat.le_of_ble_eq_true rfl) hC2 (fun v3 h4 hq5 => ?_)
    have k := k v3 h4 hq5
    refine go_istore (pc2 := 99) (ls2 := [(0, .ref 25), (1, .ref (1000 + ix1)), (2, .int x2), (3, .int x3), (4, .int x4), (5, .int v3)]) dX8_readOne_97 rfl rfl rfl rfl rfl ?_
    exact Go.pick [0, 1, 2, 3, 5] rfl k
  · have k := k.2 c
    refine go_aload_n (pc2 := 83) dX8_readOne_82 rfl rfl rfl ?_
    obtain ⟨Q6, hC7, k⟩ := k
    refine gcV_I (pc2 := 86) (dC := 1) (As := []) (st := []) rfl dX8_readOne_83 rfl w_517 ok_X8_readSign vi_X8_readSign c_25 (by decide) rfl rfl rfl (by decide) (Nat.le_of_ble_eq_true rfl) hC7 (fun v8 h9 hq10 => ?_)
    have k := k v8 h9 hq10
    refine go_istore (pc2 := 88) (ls2 := [(0, .ref 25), (1, .ref (1000 + ix1)), (2, .int x2), (3, .int x3), (4, .int x4), (5, .int v8)]) dX8_readOne_86 rfl rfl rfl rfl rfl ?_
    refine go_goto (tgt := 99) dX8_readOne_88 (by decide) ?_
    exact Go.pick [0, 1, 2, 3, 5] rfl k
theorem b_X8_readOne_99 {ix1 : Nat} {x2 : Int32} {x3 : Int32} {x5 : Int32} {h : Hp} {Q : Int32 → Hp → Prop} (hix1 : ix1 < 6) (k : ((¬ x5 = 0 → GoI 5 mX8_readOne 31 [(0, .ref 25), (1, .ref (1000 + ix1)), (2, .int x2), (3, .int (x3 + 1))] [] h Q) ∧ (x5 = 0 → Q (0 : Int32) h))) : GoI 5 mX8_readOne 99 [(0, .ref 25), (1, .ref (1000 + ix1)), (2, .int x2), (3, .int x3), (5, .int x5)] [] h Q := by
  refine go_iload (pc2 := 101) dX8_readOne_99 rfl rfl ?_
  refine go_if_ne (pc2 := 104) (tgt := 106) dX8_readOne_101 rfl (by decide) (fun c => ?_) (fun c => ?_)
  · have k := k.1 c
    refine go_iinc (pc2 := 109) (ls2 := [(0, .ref 25), (1, .ref (1000 + ix1)), (2, .int x2), (3, .int (x3 + 1)), (5, .int x5)]) (v := (x3 + 1)) dX8_readOne_106 rfl rfl rfl rfl rfl rfl rfl ?_
    refine go_goto (tgt := 31) dX8_readOne_109 (by decide) ?_
    exact Go.pick [0, 1, 2, 3] rfl k
  · have k := k.2 c
    refine go_iconst (pc2 := 105) (v := (0 : Int32)) dX8_readOne_104 rfl (by decide) ?_
    exact go_iret dX8_readOne_105 ⟨_, rfl, rfl⟩ ⟨rfl, _, rfl, k⟩
theorem e_X8_here  {h : Hp} {Q : Int32 → Hp → Prop}  (k : (((h.1 25 2) < 0 → Q (-1 : Int32) h) ∧ (¬ ((h.1 25 2) < 0) → (((h.1 25 1) ≤ (h.1 25 2) → Q (-1 : Int32) h) ∧ (¬ ((h.1 25 1) ≤ (h.1 25 2)) → (((120 : Int32) ≤ (h.1 25 2) → Q (-1 : Int32) h) ∧ (¬ ((120 : Int32) ≤ (h.1 25 2)) → (vp_in (h.1 25 2) 120 ∧ Q (h.1 26 ((h.1 25 2)).toNatClampNeg) h)))))))) : CtI 0 mX8_here [.ref 25] h Q := by
  refine Ct.of (by decide +kernel) (Nat.le_of_ble_eq_true rfl) ?_
  show GoI 0 mX8_here 0 [(0, .ref 25)] [] h Q
  refine go_aload_n (pc2 := 1) dX8_here_0 rfl rfl rfl ?_
  refine gf_163 (pc2 := 4) rfl dX8_here_1 rfl c_25 fvi ?_
  refine go_if_lt (pc2 := 7) (tgt := 39) dX8_here_4 rfl (by decide) (fun c => ?_) (fun c => ?_)
  · have k := k.1 c
    refine go_iconst (pc2 := 40) (v := (-1 : Int32)) dX8_here_39 rfl (by decide) ?_
    exact go_iret dX8_here_40 ⟨_, rfl, rfl⟩ ⟨rfl, _, rfl, k⟩
  · have k := k.2 c
    refine go_aload_n (pc2 := 8) dX8_here_7 rfl rfl rfl ?_
    refine gf_163 (pc2 := 11) rfl dX8_here_8 rfl c_25 fvi ?_
    refine go_aload_n (pc2 := 12) dX8_here_11 rfl rfl rfl ?_
    refine gf_161 (pc2 := 15) rfl dX8_here_12 rfl c_25 fvi ?_
    refine go_icmp_ge (pc2 := 18) (tgt := 39) dX8_here_15 rfl (by decide) (fun c => ?_) (fun c => ?_)
    · have k := k.1 c
      refine go_iconst (pc2 := 40) (v := (-1 : Int32)) dX8_here_39 rfl (by decide) ?_
      exact go_iret dX8_here_40 ⟨_, rfl, rfl⟩ ⟨rfl, _, rfl, k⟩
    · have k := k.2 c
      refine go_aload_n (pc2 := 19) dX8_here_18 rfl rfl rfl ?_
      refine gf_163 (pc2 := 22) rfl dX8_here_19 rfl c_25 fvi ?_
      refine go_bipush (pc2 := 24) (v := (120 : Int32)) dX8_here_22 rfl (by decide) ?_
      refine go_icmp_ge (pc2 := 27) (tgt := 39) dX8_here_24 rfl (by decide) (fun c => ?_) (fun c => ?_)
      · have k := k.1 c
        refine go_iconst (pc2 := 40) (v := (-1 : Int32)) dX8_here_39 rfl (by decide) ?_
        exact go_iret dX8_here_40 ⟨_, rfl, rfl⟩ ⟨rfl, _, rfl, k⟩
      · have k := k.2 c
        refine go_aload_n (pc2 := 28) dX8_here_27 rfl rfl rfl ?_
        refine gf_160 (pc2 := 31) rfl dX8_here_28 rfl c_25 (fvs r_25_0) ?_
        refine go_aload_n (pc2 := 32) dX8_here_31 rfl rfl rfl ?_
        refine gf_163 (pc2 := 35) rfl dX8_here_32 rfl c_25 fvi ?_
        obtain ⟨y1, k⟩ := k
        refine go_iaload (pc2 := 36) (j := ((h.1 25 2)).toNatClampNeg) dX8_here_35 rfl c_26 y1 rfl ?_
        refine go_goto (tgt := 40) dX8_here_36 (by decide) ?_
        exact go_iret dX8_here_40 ⟨_, rfl, rfl⟩ ⟨rfl, _, rfl, k⟩
theorem e_X8_isDigit  {h : Hp} {Q : Int32 → Hp → Prop}  (k : (∃ Q1, CtI 0 mX8_here [.ref 25] h Q1 ∧ ∀ (v3 : Int32) (h4 : Hp), Q1 v3 h4 → ((v3 < (48 : Int32) → Q (0 : Int32) h4) ∧ (¬ (v3 < (48 : Int32)) → (∃ Q6, CtI 0 mX8_here [.ref 25] h4 Q6 ∧ ∀ (v8 : Int32) (h9 : Hp), Q6 v8 h9 → (((57 : Int32) < v8 → Q (0 : Int32) h9) ∧ (¬ ((57 : Int32) < v8) → Q (1 : Int32) h9))))))) : CtI 1 mX8_isDigit [.ref 25] h Q := by
  refine Ct.of (by decide +kernel) (Nat.le_of_ble_eq_true rfl) ?_
  show GoI 1 mX8_isDigit 0 [(0, .ref 25)] [] h Q
  refine go_aload_n (pc2 := 1) dX8_isDigit_0 rfl rfl rfl ?_
  obtain ⟨Q1, hC2, k⟩ := k
  refine gcV_I (pc2 := 4) (dC := 0) (As := []) (st := []) rfl dX8_isDigit_1 rfl w_444 ok_X8_here vi_X8_here c_25 (by decide) rfl rfl rfl (by decide) (Nat.le_of_ble_eq_true rfl) hC2 (fun v3 h4 hq5 => ?_)
  have k := k v3 h4 hq5
  refine go_bipush (pc2 := 6) (v := (48 : Int32)) dX8_isDigit_4 rfl (by decide) ?_
  refine go_icmp_lt (pc2 := 9) (tgt := 22) dX8_isDigit_6 rfl (by decide) (fun c => ?_) (fun c => ?_)
  · have k := k.1 c
    refine go_iconst (pc2 := 23) (v := (0 : Int32)) dX8_isDigit_22 rfl (by decide) ?_
    exact go_iret dX8_isDigit_23 ⟨_, rfl, rfl⟩ ⟨rfl, _, rfl, k⟩
  · have k := k.2 c
    refine go_aload_n (pc2 := 10) dX8_isDigit_9 rfl rfl rfl ?_
    obtain ⟨Q6, hC7, k⟩ := k
    refine gcV_I (pc2 := 13) (dC := 0) (As := []) (st := []) rfl dX8_isDigit_10 rfl w_444 ok_X8_here vi_X8_here c_25 (by decide) rfl rfl rfl (by decide) (Nat.le_of_ble_eq_true rfl) hC7 (fun v8 h9 hq10 => ?_)
    have k := k v8 h9 hq10
    refine go_bipush (pc2 := 15) (v := (57 : Int32)) dX8_isDigit_13 rfl (by decide) ?_
    refine go_icmp_gt (pc2 := 18) (tgt := 22) dX8_isDigit_15 rfl (by decide) (fun c => ?_) (fun c => ?_)
    · have k := k.1 c
      refine go_iconst (pc2 := 23) (v := (0 : Int32)) dX8_isDigit_22 rfl (by decide) ?_
      exact go_iret dX8_isDigit_23 ⟨_, rfl, rfl⟩ ⟨rfl, _, rfl, k⟩
    · have k := k.2 c
      refine go_iconst (pc2 := 19) (v := (1 : Int32)) dX8_isDigit_18 rfl (by decide) ?_
      refine go_goto (tgt := 23) dX8_isDigit_19 (by decide) ?_
      exact go_iret dX8_isDigit_23 ⟨_, rfl, rfl⟩ ⟨rfl, _, rfl, k⟩
theorem e_X8_readNumber {x1 : Int32} {h : Hp} {Q : Int32 → Hp → Prop}  (k : (∃ Q1, CtI 1 mX8_isDigit [.ref 25] h Q1 ∧ ∀ (v3 : Int32) (h4 : Hp), Q1 v3 h4 → ((¬ v3 = 0 → (∃ Q6, CtI 0 mX8_here [.ref 25] h4 Q6 ∧ ∀ (v8 : Int32) (h9 : Hp), Q6 v8 h9 → (∀ g11 : Hp, g11 = (ui h9 25 2 ((h9.1 25 2) + (1 : Int32))) → (∃ Q12, CtI 1 mX8_isDigit [.ref 25] g11 Q12 ∧ ∀ (v14 : Int32) (h15 : Hp), Q12 v14 h15 → ((v14 = 0 → (vp_in x1 4 ∧ (∀ g18 : Hp, g18 = (ui h15 27 (x1).toNatClampNeg (v8 - (48 : Int32))) → Q (1 : Int32) g18))) ∧ (¬ v14 = 0 → (∃ Q19, CtI 0 mX8_here [.ref 25] h15 Q19 ∧ ∀ (v21 : Int32) (h22 : Hp), Q19 v21 h22 → (∀ g24 : Hp, g24 = (ui h22 25 2 ((h22.1 25 2) + (1 : Int32))) → (vp_in x1 4 ∧ (∀ g26 : Hp, g26 = (ui g24 27 (x1).toNatClampNeg ((((10 : Int32) * (v8 - (48 : Int32))) + v21) - (48 : Int32))) → Q (1 : Int32) g26)))))))))) ∧ (v3 = 0 → Q (0 : Int32) h4)))) : CtI 2 mX8_readNumber [.ref 25, .int x1] h Q := by
  refine Ct.of (by decide +kernel) (Nat.le_of_ble_eq_true rfl) ?_
  show GoI 2 mX8_readNumber 0 [(0, .ref 25), (1, .int x1)] [] h Q
  refine go_aload_n (pc2 := 1) dX8_readNumber_0 rfl rfl rfl ?_
  obtain ⟨Q1, hC2, k⟩ := k
  refine gcV_I (pc2 := 4) (dC := 1) (As := []) (st := []) rfl dX8_readNumber_1 rfl w_513 ok_X8_isDigit vi_X8_isDigit c_25 (by decide) rfl rfl rfl (by decide) (Nat.le_of_ble_eq_true rfl) hC2 (fun v3 h4 hq5 => ?_)
  have k := k v3 h4 hq5
  refine go_if_ne (pc2 := 7) (tgt := 9) dX8_readNumber_4 rfl (by decide) (fun c => ?_) (fun c => ?_)
  · have k := k.1 c
    refine go_aload_n (pc2 := 10) dX8_readNumber_9 rfl rfl rfl ?_
    obtain ⟨Q6, hC7, k⟩ := k
    refine gcV_I (pc2 := 13) (dC := 0) (As := []) (st := []) rfl dX8_readNumber_10 rfl w_444 ok_X8_here vi_X8_here c_25 (by decide) rfl rfl rfl (by decide) (Nat.le_of_ble_eq_true rfl) hC7 (fun v8 h9 hq10 => ?_)
    have k := k v8 h9 hq10
    refine go_bipush (pc2 := 15) (v := (48 : Int32)) dX8_readNumber_13 rfl (by decide) ?_
    refine go_isub (pc2 := 16) dX8_readNumber_15 rfl ?_
    refine go_istore_n (pc2 := 17) (ls2 := [(0, .ref 25), (1, .int x1), (2, .int (v8 - (48 : Int32)))]) dX8_readNumber_16 rfl rfl rfl rfl rfl rfl ?_
    refine go_aload_n (pc2 := 18) dX8_readNumber_17 rfl rfl rfl ?_
    refine go_dup (pc2 := 19) dX8_readNumber_18 rfl rfl ?_
    refine gf_163 (pc2 := 22) rfl dX8_readNumber_19 rfl c_25 fvi ?_
    refine go_iconst (pc2 := 23) (v := (1 : Int32)) dX8_readNumber_22 rfl (by decide) ?_
    refine go_iadd (pc2 := 24) dX8_readNumber_23 rfl ?_
    refine pf_163 (pc2 := 27) rfl dX8_readNumber_24 rfl c_25 ?_
    obtain ⟨g11, eg11⟩ : ∃ y : Hp, y = (ui h9 25 2 ((h9.1 25 2) + (1 : Int32))) := ⟨_, rfl⟩
    rw [← eg11]
    have k := k g11 eg11
    refine go_aload_n (pc2 := 28) dX8_readNumber_27 rfl rfl rfl ?_
    obtain ⟨Q12, hC13, k⟩ := k
    refine gcV_I (pc2 := 31) (dC := 1) (As := []) (st := []) rfl dX8_readNumber_28 rfl w_513 ok_X8_isDigit vi_X8_isDigit c_25 (by decide) rfl rfl rfl (by decide) (Nat.le_of_ble_eq_true rfl) hC13 (fun v14 h15 hq16 => ?_)
    have k := k v14 h15 hq16
    refine go_if_eq (pc2 := 34) (tgt := 57) dX8_readNumber_31 rfl (by decide) (fun c => ?_) (fun c => ?_)
    · have k := k.1 c
      refine go_aload_n (pc2 := 58) dX8_readNumber_57 rfl rfl rfl ?_
      refine gf_165 (pc2 := 61) rfl dX8_readNumber_58 rfl c_25 (fvs r_25_4) ?_
      refine go_iload_n (pc2 := 62) dX8_readNumber_61 rfl rfl rfl ?_
      refine go_iload_n (pc2 := 63) dX8_readNumber_62 rfl rfl rfl ?_
      obtain ⟨y17, k⟩ := k
      refine go_iastore (pc2 := 64) (j := (x1).toNatClampNeg) dX8_readNumber_63 rfl c_27 y17 rfl ?_
      obtain ⟨g18, eg18⟩ : ∃ y : Hp, y = (ui h15 27 (x1).toNatClampNeg (v8 - (48 : Int32))) := ⟨_, rfl⟩
      rw [← eg18]
      have k := k g18 eg18
      refine go_iconst (pc2 := 65) (v := (1 : Int32)) dX8_readNumber_64 rfl (by decide) ?_
      exact go_iret dX8_readNumber_65 ⟨_, rfl, rfl⟩ ⟨rfl, _, rfl, k⟩
    · have k := k.2 c
      refine go_bipush (pc2 := 36) (v := (10 : Int32)) dX8_readNumber_34 rfl (by decide) ?_
      refine go_iload_n (pc2 := 37) dX8_readNumber_36 rfl rfl rfl ?_
      refine go_imul (pc2 := 38) dX8_readNumber_37 rfl ?_
      refine go_aload_n (pc2 := 39) dX8_readNumber_38 rfl rfl rfl ?_
      obtain ⟨Q19, hC20, k⟩ := k
      refine gcV_I (pc2 := 42) (dC := 0) (As := []) (st := [.int ((10 : Int32) * (v8 - (48 : Int32)))]) rfl dX8_readNumber_39 rfl w_444 ok_X8_here vi_X8_here c_25 (by decide) rfl rfl rfl (by decide) (Nat.le_of_ble_eq_true rfl) hC20 (fun v21 h22 hq23 => ?_)
      have k := k v21 h22 hq23
      refine go_iadd (pc2 := 43) dX8_readNumber_42 rfl ?_
      refine go_bipush (pc2 := 45) (v := (48 : Int32)) dX8_readNumber_43 rfl (by decide) ?_
      refine go_isub (pc2 := 46) dX8_readNumber_45 rfl ?_
      refine go_istore_n (pc2 := 47) (ls2 := [(0, .ref 25), (1, .int x1), (2, .int ((((10 : Int32) * (v8 - (48 : Int32))) + v21) - (48 : Int32)))]) dX8_readNumber_46 rfl rfl rfl rfl rfl rfl ?_
      refine go_aload_n (pc2 := 48) dX8_readNumber_47 rfl rfl rfl ?_
      refine go_dup (pc2 := 49) dX8_readNumber_48 rfl rfl ?_
      refine gf_163 (pc2 := 52) rfl dX8_readNumber_49 rfl c_25 fvi ?_
      refine go_iconst (pc2 := 53) (v := (1 : Int32)) dX8_readNumber_52 rfl (by decide) ?_
      refine go_iadd (pc2 := 54) dX8_readNumber_53 rfl ?_
      refine pf_163 (pc2 := 57) rfl dX8_readNumber_54 rfl c_25 ?_
      obtain ⟨g24, eg24⟩ : ∃ y : Hp, y = (ui h22 25 2 ((h22.1 25 2) + (1 : Int32))) := ⟨_, rfl⟩
      rw [← eg24]
      have k := k g24 eg24
      refine go_aload_n (pc2 := 58) dX8_readNumber_57 rfl rfl rfl ?_
      refine gf_165 (pc2 := 61) rfl dX8_readNumber_58 rfl c_25 (fvs r_25_4) ?_
      refine go_iload_n (pc2 := 62) dX8_readNumber_61 rfl rfl rfl ?_
      refine go_iload_n (pc2 := 63) dX8_readNumber_62 rfl rfl rfl ?_
      obtain ⟨y25, k⟩ := k
      refine go_iastore (pc2 := 64) (j := (x1).toNatClampNeg) dX8_readNumber_63 rfl c_27 y25 rfl ?_
      obtain ⟨g26, eg26⟩ : ∃ y : Hp, y = (ui g24 27 (x1).toNatClampNeg ((((10 : Int32) * (v8 - (48 : Int32))) + v21) - (48 : Int32))) := ⟨_, rfl⟩
      rw [← eg26]
      have k := k g26 eg26
      refine go_iconst (pc2 := 65) (v := (1 : Int32)) dX8_readNumber_64 rfl (by decide) ?_
      exact go_iret dX8_readNumber_65 ⟨_, rfl, rfl⟩ ⟨rfl, _, rfl, k⟩
  · have k := k.2 c
    refine go_iconst (pc2 := 8) (v := (0 : Int32)) dX8_readNumber_7 rfl (by decide) ?_
    exact go_iret dX8_readNumber_8 ⟨_, rfl, rfl⟩ ⟨rfl, _, rfl, k⟩
theorem e_X8_readSign  {h : Hp} {Q : Int32 → Hp → Prop}  (k : (∃ Q1, CtI 0 mX8_here [.ref 25] h Q1 ∧ ∀ (v3 : Int32) (h4 : Hp), Q1 v3 h4 → ((v3 = (43 : Int32) → (∃ Q6, CtI 0 mX8_here [.ref 25] h4 Q6 ∧ ∀ (v8 : Int32) (h9 : Hp), Q6 v8 h9 → (∀ g11 : Hp, g11 = (ui h9 25 3 (if v8 = (43 : Int32) then (1 : Int32) else (-1 : Int32))) → (∀ g12 : Hp, g12 = (ui g11 25 2 ((g11.1 25 2) + (1 : Int32))) → Q (1 : Int32) g12)))) ∧ (¬ v3 = (43 : Int32) → (∃ Q13, CtI 0 mX8_here [.ref 25] h4 Q13 ∧ ∀ (v15 : Int32) (h16 : Hp), Q13 v15 h16 → ((v15 = (45 : Int32) → (∃ Q18, CtI 0 mX8_here [.ref 25] h16 Q18 ∧ ∀ (v20 : Int32) (h21 : Hp), Q18 v20 h21 → (∀ g23 : Hp, g23 = (ui h21 25 3 (if v20 = (43 : Int32) then (1 : Int32) else (-1 : Int32))) → (∀ g24 : Hp, g24 = (ui g23 25 2 ((g23.1 25 2) + (1 : Int32))) → Q (1 : Int32) g24)))) ∧ (¬ v15 = (45 : Int32) → Q (0 : Int32) h16))))))) : CtI 1 mX8_readSign [.ref 25] h Q := by
  refine Ct.of (by decide +kernel) (Nat.le_of_ble_eq_true rfl) ?_
  show GoI 1 mX8_readSign 0 [(0, .ref 25)] [] h Q
  refine go_aload_n (pc2 := 1) dX8_readSign_0 rfl rfl rfl ?_
  obtain ⟨Q1, hC2, k⟩ := k
  refine gcV_I (pc2 := 4) (dC := 0) (As := []) (st := []) rfl dX8_readSign_1 rfl w_444 ok_X8_here vi_X8_here c_25 (by decide) rfl rfl rfl (by decide) (Nat.le_of_ble_eq_true rfl) hC2 (fun v3 h4 hq5 => ?_)
  have k := k v3 h4 hq5
  refine go_bipush (pc2 := 6) (v := (43 : Int32)) dX8_readSign_4 rfl (by decide) ?_
  refine go_icmp_eq (pc2 := 9) (tgt := 20) dX8_readSign_6 rfl (by decide) (fun c => ?_) (fun c => ?_)
  · have k := k.1 c
    refine go_aload_n (pc2 := 21) dX8_readSign_20 rfl rfl rfl ?_
    refine go_aload_n (pc2 := 22) dX8_readSign_21 rfl rfl rfl ?_
    obtain ⟨Q6, hC7, k⟩ := k
    refine gcV_I (pc2 := 25) (dC := 0) (As := []) (st := [.ref 25]) rfl dX8_readSign_22 rfl w_444 ok_X8_here vi_X8_here c_25 (by decide) rfl rfl rfl (by decide) (Nat.le_of_ble_eq_true rfl) hC7 (fun v8 h9 hq10 => ?_)
    have k := k v8 h9 hq10
    refine go_bipush (pc2 := 27) (v := (43 : Int32)) dX8_readSign_25 rfl (by decide) ?_
    have J : GoI 1 mX8_readSign 35 [(0, .ref 25)] [.int (if v8 = (43 : Int32) then (1 : Int32) else (-1 : Int32)), .ref 25] h9 Q := by
      refine pf_164 (pc2 := 38) rfl dX8_readSign_35 rfl c_25 ?_
      obtain ⟨g11, eg11⟩ : ∃ y : Hp, y = (ui h9 25 3 (if v8 = (43 : Int32) then (1 : Int32) else (-1 : Int32))) := ⟨_, rfl⟩
      rw [← eg11]
      have k := k g11 eg11
      refine go_aload_n (pc2 := 39) dX8_readSign_38 rfl rfl rfl ?_
      refine go_dup (pc2 := 40) dX8_readSign_39 rfl rfl ?_
      refine gf_163 (pc2 := 43) rfl dX8_readSign_40 rfl c_25 fvi ?_
      refine go_iconst (pc2 := 44) (v := (1 : Int32)) dX8_readSign_43 rfl (by decide) ?_
      refine go_iadd (pc2 := 45) dX8_readSign_44 rfl ?_
      refine pf_163 (pc2 := 48) rfl dX8_readSign_45 rfl c_25 ?_
      obtain ⟨g12, eg12⟩ : ∃ y : Hp, y = (ui g11 25 2 ((g11.1 25 2) + (1 : Int32))) := ⟨_, rfl⟩
      rw [← eg12]
      have k := k g12 eg12
      refine go_iconst (pc2 := 49) (v := (1 : Int32)) dX8_readSign_48 rfl (by decide) ?_
      exact go_iret dX8_readSign_49 ⟨_, rfl, rfl⟩ ⟨rfl, _, rfl, k⟩
    refine go_icmp_ne (pc2 := 30) (tgt := 34) dX8_readSign_27 rfl (by decide) (fun c => ?_) (fun c => ?_)
    · rw [if_neg c] at J
      exact go_iconst (pc2 := 35) dX8_readSign_34 rfl (by decide) J
    · rw [if_pos c] at J
      exact go_iconst (pc2 := 31) dX8_readSign_30 rfl (by decide) (go_goto (tgt := 35) dX8_readSign_31 (by decide) J)
  · have k := k.2 c
    refine go_aload_n (pc2 := 10) dX8_readSign_9 rfl rfl rfl ?_
    obtain ⟨Q13, hC14, k⟩ := k
    refine gcV_I (pc2 := 13) (dC := 0) (As := []) (st := []) rfl dX8_readSign_10 rfl w_444 ok_X8_here vi_X8_here c_25 (by decide) rfl rfl rfl (by decide) (Nat.le_of_ble_eq_true rfl) hC14 (fun v15 h16 hq17 => ?_)
    have k := k v15 h16 hq17
    refine go_bipush (pc2 := 15) (v := (45 : Int32)) dX8_readSign_13 rfl (by decide) ?_
    refine go_icmp_eq (pc2 := 18) (tgt := 20) dX8_readSign_15 rfl (by decide) (fun c => ?_) (fun c => ?_)
    · have k := k.1 c
      refine go_aload_n (pc2 := 21) dX8_readSign_20 rfl rfl rfl ?_
      refine go_aload_n (pc2 := 22) dX8_readSign_21 rfl rfl rfl ?_
      obtain ⟨Q18, hC19, k⟩ := k
      refine gcV_I (pc2 := 25) (dC := 0) (As := []) (st := [.ref 25]) rfl dX8_readSign_22 rfl w_444 ok_X8_here vi_X8_here c_25 (by decide) rfl rfl rfl (by decide) (Nat.le_of_ble_eq_true rfl) hC19 (fun v20 h21 hq22 => ?_)
      have k := k v20 h21 hq22
      refine go_bipush (pc2 := 27) (v := (43 : Int32)) dX8_readSign_25 rfl (by decide) ?_
      have J : GoI 1 mX8_readSign 35 [(0, .ref 25)] [.int (if v20 = (43 : Int32) then (1 : Int32) else (-1 : Int32)), .ref 25] h21 Q := by
        refine pf_164 (pc2 := 38) rfl dX8_readSign_35 rfl c_25 ?_
        obtain ⟨g23, eg23⟩ : ∃ y : Hp, y = (ui h21 25 3 (if v20 = (43 : Int32) then (1 : Int32) else (-1 : Int32))) := ⟨_, rfl⟩
        rw [← eg23]
        have k := k g23 eg23
        refine go_aload_n (pc2 := 39) dX8_readSign_38 rfl rfl rfl ?_
        refine go_dup (pc2 := 40) dX8_readSign_39 rfl rfl ?_
        refine gf_163 (pc2 := 43) rfl dX8_readSign_40 rfl c_25 fvi ?_
        refine go_iconst (pc2 := 44) (v := (1 : Int32)) dX8_readSign_43 rfl (by decide) ?_
        refine go_iadd (pc2 := 45) dX8_readSign_44 rfl ?_
        refine pf_163 (pc2 := 48) rfl dX8_readSign_45 rfl c_25 ?_
        obtain ⟨g24, eg24⟩ : ∃ y : Hp, y = (ui g23 25 2 ((g23.1 25 2) + (1 : Int32))) := ⟨_, rfl⟩
        rw [← eg24]
        have k := k g24 eg24
        refine go_iconst (pc2 := 49) (v := (1 : Int32)) dX8_readSign_48 rfl (by decide) ?_
        exact go_iret dX8_readSign_49 ⟨_, rfl, rfl⟩ ⟨rfl, _, rfl, k⟩
      refine go_icmp_ne (pc2 := 30) (tgt := 34) dX8_readSign_27 rfl (by decide) (fun c => ?_) (fun c => ?_)
      · rw [if_neg c] at J
        exact go_iconst (pc2 := 35) dX8_readSign_34 rfl (by decide) J
      · rw [if_pos c] at J
        exact go_iconst (pc2 := 31) dX8_readSign_30 rfl (by decide) (go_goto (tgt := 35) dX8_readSign_31 (by decide) J)
    · have k := k.2 c
      refine go_iconst (pc2 := 19) (v := (0 : Int32)) dX8_readSign_18 rfl (by decide) ?_
      exact go_iret dX8_readSign_19 ⟨_, rfl, rfl⟩ ⟨rfl, _, rfl, k⟩
theorem e_X8_readLetter {x1 : Int32} {h : Hp} {Q : Int32 → Hp → Prop}  (k : (∃ Q1, CtI 0 mX8_here [.ref 25] h Q1 ∧ ∀ (v3 : Int32) (h4 : Hp), Q1 v3 h4 → ((v3 = x1 → (∀ g6 : Hp, g6 = (ui h4 25 2 ((h4.1 25 2) + (1 : Int32))) → Q (1 : Int32) g6)) ∧ (¬ v3 = x1 → Q (0 : Int32) h4)))) : CtI 1 mX8_readLetter [.ref 25, .int x1] h Q := by
  refine Ct.of (by decide +kernel) (Nat.le_of_ble_eq_true rfl) ?_
  show GoI 1 mX8_readLetter 0 [(0, .ref 25), (1, .int x1)] [] h Q
  refine go_aload_n (pc2 := 1) dX8_readLetter_0 rfl rfl rfl ?_
  obtain ⟨Q1, hC2, k⟩ := k
  refine gcV_I (pc2 := 4) (dC := 0) (As := []) (st := []) rfl dX8_readLetter_1 rfl w_444 ok_X8_here vi_X8_here c_25 (by decide) rfl rfl rfl (by decide) (Nat.le_of_ble_eq_true rfl) hC2 (fun v3 h4 hq5 => ?_)
  have k := k v3 h4 hq5
  refine go_iload_n (pc2 := 5) dX8_readLetter_4 rfl rfl rfl ?_
  refine go_icmp_eq (pc2 := 8) (tgt := 10) dX8_readLetter_5 rfl (by decide) (fun c => ?_) (fun c => ?_)
  · have k := k.1 c
    refine go_aload_n (pc2 := 11) dX8_readLetter_10 rfl rfl rfl ?_
    refine go_dup (pc2 := 12) dX8_readLetter_11 rfl rfl ?_
    refine gf_163 (pc2 := 15) rfl dX8_readLetter_12 rfl c_25 fvi ?_
    refine go_iconst (pc2 := 16) (v := (1 : Int32)) dX8_readLetter_15 rfl (by decide) ?_
    refine go_iadd (pc2 := 17) dX8_readLetter_16 rfl ?_
    refine pf_163 (pc2 := 20) rfl dX8_readLetter_17 rfl c_25 ?_
    obtain ⟨g6, eg6⟩ : ∃ y : Hp, y = (ui h4 25 2 ((h4.1 25 2) + (1 : Int32))) := ⟨_, rfl⟩
    rw [← eg6]
    have k := k g6 eg6
    refine go_iconst (pc2 := 21) (v := (1 : Int32)) dX8_readLetter_20 rfl (by decide) ?_
    exact go_iret dX8_readLetter_21 ⟨_, rfl, rfl⟩ ⟨rfl, _, rfl, k⟩
  · have k := k.2 c
    refine go_iconst (pc2 := 9) (v := (0 : Int32)) dX8_readLetter_8 rfl (by decide) ?_
    exact go_iret dX8_readLetter_9 ⟨_, rfl, rfl⟩ ⟨rfl, _, rfl, k⟩
theorem e_X8_applyOne {x2 : Int32} {h : Hp} {Q : Int32 → Hp → Prop}  (k : ((x2 = (97 : Int32) → (∃ Q31, CtI 1 mX5_setAge [.ref 1, .int (h.1 27 0), .int ((h.1 25 3) * (h.1 27 1))] h Q31 ∧ ∀ (v33 : Int32) (h34 : Hp), Q31 v33 h34 → Q v33 h34)) ∧ (¬ x2 = (97 : Int32) → ((x2 = (99 : Int32) → (∃ Q26, CtI 1 mX5_setCosts [.ref 1, .int (h.1 27 0), .int (h.1 27 1), .int (h.1 27 2), .int (h.1 27 3)] h Q26 ∧ ∀ (v28 : Int32) (h29 : Hp), Q26 v28 h29 → Q v28 h29)) ∧ (¬ x2 = (99 : Int32) → ((x2 = (100 : Int32) → (∃ Q21, CtI 1 mX5_setDemand [.ref 1, .int (h.1 27 0), .int (h.1 27 1), .int (h.1 27 2)] h Q21 ∧ ∀ (v23 : Int32) (h24 : Hp), Q21 v23 h24 → Q v23 h24)) ∧ (¬ x2 = (100 : Int32) → ((x2 = (103 : Int32) → (∃ Q16, CtI 1 mX5_setRange [.ref 1, .int (h.1 27 0), .int (h.1 27 1), .int (h.1 27 2)] h Q16 ∧ ∀ (v18 : Int32) (h19 : Hp), Q16 v18 h19 → Q v18 h19)) ∧ (¬ x2 = (103 : Int32) → ((x2 = (112 : Int32) → (∃ Q11, CtI 1 mX5_addPlant [.ref 1, .int (h.1 27 0), .int (h.1 27 1)] h Q11 ∧ ∀ (v13 : Int32) (h14 : Hp), Q11 v13 h14 → Q v13 h14)) ∧ (¬ x2 = (112 : Int32) → ((x2 = (116 : Int32) → (∃ Q6, CtI 1 mX5_setTimes [.ref 1, .int (h.1 27 0), .int (h.1 27 1), .int (h.1 27 2)] h Q6 ∧ ∀ (v8 : Int32) (h9 : Hp), Q6 v8 h9 → Q v8 h9)) ∧ (¬ x2 = (116 : Int32) → (∃ Q1, CtI 0 mX5_setSpan [.ref 1, .int (h.1 27 0)] h Q1 ∧ ∀ (v3 : Int32) (h4 : Hp), Q1 v3 h4 → Q v3 h4)))))))))))))) : CtI 2 mX8_applyOne [.ref 25, .ref 1, .int x2] h Q := by
  refine Ct.of (by decide +kernel) (Nat.le_of_ble_eq_true rfl) ?_
  show GoI 2 mX8_applyOne 0 [(0, .ref 25), (1, .ref 1), (2, .int x2)] [] h Q
  refine go_iload_n (pc2 := 1) dX8_applyOne_0 rfl rfl rfl ?_
  by_cases cs0 : x2 = (97 : Int32)
  · have k := k.1 cs0
    refine go_tsEq (tgt := 188) dX8_applyOne_1 cs0 (by decide) (by decide) rfl (by decide) ?_
    refine go_aload_n (pc2 := 189) dX8_applyOne_188 rfl rfl rfl ?_
    refine go_aload_n (pc2 := 190) dX8_applyOne_189 rfl rfl rfl ?_
    refine gf_165 (pc2 := 193) rfl dX8_applyOne_190 rfl c_25 (fvs r_25_4) ?_
    refine go_iconst (pc2 := 194) (v := (0 : Int32)) dX8_applyOne_193 rfl (by decide) ?_
    refine go_iaload (pc2 := 195) (j := 0) dX8_applyOne_194 rfl c_27 (vp_c rfl) rfl ?_
    refine go_aload_n (pc2 := 196) dX8_applyOne_195 rfl rfl rfl ?_
    refine gf_164 (pc2 := 199) rfl dX8_applyOne_196 rfl c_25 fvi ?_
    refine go_aload_n (pc2 := 200) dX8_applyOne_199 rfl rfl rfl ?_
    refine gf_165 (pc2 := 203) rfl dX8_applyOne_200 rfl c_25 (fvs r_25_4) ?_
    refine go_iconst (pc2 := 204) (v := (1 : Int32)) dX8_applyOne_203 rfl (by decide) ?_
    refine go_iaload (pc2 := 205) (j := 1) dX8_applyOne_204 rfl c_27 (vp_c rfl) rfl ?_
    refine go_imul (pc2 := 206) dX8_applyOne_205 rfl ?_
    obtain ⟨Q31, hC32, k⟩ := k
    refine gcVN_I (pc2 := 209) (dC := 1) (As := [.int (h.1 27 0), .int ((h.1 25 3) * (h.1 27 1))]) (st := []) rfl dX8_applyOne_206 rfl w_557 ok_X5_setAge vi_X5_setAge c_1 (by decide) rfl rfl rfl (by decide) (Nat.le_of_ble_eq_true rfl) hC32 (fun v33 h34 hq35 => ?_)
    have k := k v33 h34 hq35
    exact go_iret dX8_applyOne_209 ⟨_, rfl, rfl⟩ ⟨rfl, _, rfl, k⟩
  have k := k.2 cs0
  by_cases cs1 : x2 = (99 : Int32)
  · have k := k.1 cs1
    refine go_tsEq (tgt := 136) dX8_applyOne_1 cs1 (by decide) (by decide) rfl (by decide) ?_
    refine go_aload_n (pc2 := 137) dX8_applyOne_136 rfl rfl rfl ?_
    refine go_aload_n (pc2 := 138) dX8_applyOne_137 rfl rfl rfl ?_
    refine gf_165 (pc2 := 141) rfl dX8_applyOne_138 rfl c_25 (fvs r_25_4) ?_
    refine go_iconst (pc2 := 142) (v := (0 : Int32)) dX8_applyOne_141 rfl (by decide) ?_
    refine go_iaload (pc2 := 143) (j := 0) dX8_applyOne_142 rfl c_27 (vp_c rfl) rfl ?_
    refine go_aload_n (pc2 := 144) dX8_applyOne_143 rfl rfl rfl ?_
    refine gf_165 (pc2 := 147) rfl dX8_applyOne_144 rfl c_25 (fvs r_25_4) ?_
    refine go_iconst (pc2 := 148) (v := (1 : Int32)) dX8_applyOne_147 rfl (by decide) ?_
    refine go_iaload (pc2 := 149) (j := 1) dX8_applyOne_148 rfl c_27 (vp_c rfl) rfl ?_
    refine go_aload_n (pc2 := 150) dX8_applyOne_149 rfl rfl rfl ?_
    refine gf_165 (pc2 := 153) rfl dX8_applyOne_150 rfl c_25 (fvs r_25_4) ?_
    refine go_iconst (pc2 := 154) (v := (2 : Int32)) dX8_applyOne_153 rfl (by decide) ?_
    refine go_iaload (pc2 := 155) (j := 2) dX8_applyOne_154 rfl c_27 (vp_c rfl) rfl ?_
    refine go_aload_n (pc2 := 156) dX8_applyOne_155 rfl rfl rfl ?_
    refine gf_165 (pc2 := 159) rfl dX8_applyOne_156 rfl c_25 (fvs r_25_4) ?_
    refine go_iconst (pc2 := 160) (v := (3 : Int32)) dX8_applyOne_159 rfl (by decide) ?_
    refine go_iaload (pc2 := 161) (j := 3) dX8_applyOne_160 rfl c_27 (vp_c rfl) rfl ?_
    obtain ⟨Q26, hC27, k⟩ := k
    refine gcVN_I (pc2 := 164) (dC := 1) (As := [.int (h.1 27 0), .int (h.1 27 1), .int (h.1 27 2), .int (h.1 27 3)]) (st := []) rfl dX8_applyOne_161 rfl w_549 ok_X5_setCosts vi_X5_setCosts c_1 (by decide) rfl rfl rfl (by decide) (Nat.le_of_ble_eq_true rfl) hC27 (fun v28 h29 hq30 => ?_)
    have k := k v28 h29 hq30
    exact go_iret dX8_applyOne_164 ⟨_, rfl, rfl⟩ ⟨rfl, _, rfl, k⟩
  have k := k.2 cs1
  by_cases cs2 : x2 = (100 : Int32)
  · have k := k.1 cs2
    refine go_tsEq (tgt := 210) dX8_applyOne_1 cs2 (by decide) (by decide) rfl (by decide) ?_
    refine go_aload_n (pc2 := 211) dX8_applyOne_210 rfl rfl rfl ?_
    refine go_aload_n (pc2 := 212) dX8_applyOne_211 rfl rfl rfl ?_
    refine gf_165 (pc2 := 215) rfl dX8_applyOne_212 rfl c_25 (fvs r_25_4) ?_
    refine go_iconst (pc2 := 216) (v := (0 : Int32)) dX8_applyOne_215 rfl (by decide) ?_
    refine go_iaload (pc2 := 217) (j := 0) dX8_applyOne_216 rfl c_27 (vp_c rfl) rfl ?_
    refine go_aload_n (pc2 := 218) dX8_applyOne_217 rfl rfl rfl ?_
    refine gf_165 (pc2 := 221) rfl dX8_applyOne_218 rfl c_25 (fvs r_25_4) ?_
    refine go_iconst (pc2 := 222) (v := (1 : Int32)) dX8_applyOne_221 rfl (by decide) ?_
    refine go_iaload (pc2 := 223) (j := 1) dX8_applyOne_222 rfl c_27 (vp_c rfl) rfl ?_
    refine go_aload_n (pc2 := 224) dX8_applyOne_223 rfl rfl rfl ?_
    refine gf_165 (pc2 := 227) rfl dX8_applyOne_224 rfl c_25 (fvs r_25_4) ?_
    refine go_iconst (pc2 := 228) (v := (2 : Int32)) dX8_applyOne_227 rfl (by decide) ?_
    refine go_iaload (pc2 := 229) (j := 2) dX8_applyOne_228 rfl c_27 (vp_c rfl) rfl ?_
    obtain ⟨Q21, hC22, k⟩ := k
    refine gcVN_I (pc2 := 232) (dC := 1) (As := [.int (h.1 27 0), .int (h.1 27 1), .int (h.1 27 2)]) (st := []) rfl dX8_applyOne_229 rfl w_561 ok_X5_setDemand vi_X5_setDemand c_1 (by decide) rfl rfl rfl (by decide) (Nat.le_of_ble_eq_true rfl) hC22 (fun v23 h24 hq25 => ?_)
    have k := k v23 h24 hq25
    exact go_iret dX8_applyOne_232 ⟨_, rfl, rfl⟩ ⟨rfl, _, rfl, k⟩
  have k := k.2 cs2
  by_cases cs3 : x2 = (103 : Int32)
  · have k := k.1 cs3
    refine go_tsEq (tgt := 113) dX8_applyOne_1 cs3 (by decide) (by decide) rfl (by decide) ?_
    refine go_aload_n (pc2 := 114) dX8_applyOne_113 rfl rfl rfl ?_
    refine go_aload_n (pc2 := 115) dX8_applyOne_114 rfl rfl rfl ?_
    refine gf_165 (pc2 := 118) rfl dX8_applyOne_115 rfl c_25 (fvs r_25_4) ?_
    refine go_iconst (pc2 := 119) (v := (0 : Int32)) dX8_applyOne_118 rfl (by decide) ?_
    refine go_iaload (pc2 := 120) (j := 0) dX8_applyOne_119 rfl c_27 (vp_c rfl) rfl ?_
    refine go_aload_n (pc2 := 121) dX8_applyOne_120 rfl rfl rfl ?_
    refine gf_165 (pc2 := 124) rfl dX8_applyOne_121 rfl c_25 (fvs r_25_4) ?_
    refine go_iconst (pc2 := 125) (v := (1 : Int32)) dX8_applyOne_124 rfl (by decide) ?_
    refine go_iaload (pc2 := 126) (j := 1) dX8_applyOne_125 rfl c_27 (vp_c rfl) rfl ?_
    refine go_aload_n (pc2 := 127) dX8_applyOne_126 rfl rfl rfl ?_
    refine gf_165 (pc2 := 130) rfl dX8_applyOne_127 rfl c_25 (fvs r_25_4) ?_
    refine go_iconst (pc2 := 131) (v := (2 : Int32)) dX8_applyOne_130 rfl (by decide) ?_
    refine go_iaload (pc2 := 132) (j := 2) dX8_applyOne_131 rfl c_27 (vp_c rfl) rfl ?_
    obtain ⟨Q16, hC17, k⟩ := k
    refine gcVN_I (pc2 := 135) (dC := 1) (As := [.int (h.1 27 0), .int (h.1 27 1), .int (h.1 27 2)]) (st := []) rfl dX8_applyOne_132 rfl w_541 ok_X5_setRange vi_X5_setRange c_1 (by decide) rfl rfl rfl (by decide) (Nat.le_of_ble_eq_true rfl) hC17 (fun v18 h19 hq20 => ?_)
    have k := k v18 h19 hq20
    exact go_iret dX8_applyOne_135 ⟨_, rfl, rfl⟩ ⟨rfl, _, rfl, k⟩
  have k := k.2 cs3
  by_cases cs4 : x2 = (112 : Int32)
  · have k := k.1 cs4
    refine go_tsEq (tgt := 96) dX8_applyOne_1 cs4 (by decide) (by decide) rfl (by decide) ?_
    refine go_aload_n (pc2 := 97) dX8_applyOne_96 rfl rfl rfl ?_
    refine go_aload_n (pc2 := 98) dX8_applyOne_97 rfl rfl rfl ?_
    refine gf_165 (pc2 := 101) rfl dX8_applyOne_98 rfl c_25 (fvs r_25_4) ?_
    refine go_iconst (pc2 := 102) (v := (0 : Int32)) dX8_applyOne_101 rfl (by decide) ?_
    refine go_iaload (pc2 := 103) (j := 0) dX8_applyOne_102 rfl c_27 (vp_c rfl) rfl ?_
    refine go_aload_n (pc2 := 104) dX8_applyOne_103 rfl rfl rfl ?_
    refine gf_165 (pc2 := 107) rfl dX8_applyOne_104 rfl c_25 (fvs r_25_4) ?_
    refine go_iconst (pc2 := 108) (v := (1 : Int32)) dX8_applyOne_107 rfl (by decide) ?_
    refine go_iaload (pc2 := 109) (j := 1) dX8_applyOne_108 rfl c_27 (vp_c rfl) rfl ?_
    obtain ⟨Q11, hC12, k⟩ := k
    refine gcVN_I (pc2 := 112) (dC := 1) (As := [.int (h.1 27 0), .int (h.1 27 1)]) (st := []) rfl dX8_applyOne_109 rfl w_533 ok_X5_addPlant vi_X5_addPlant c_1 (by decide) rfl rfl rfl (by decide) (Nat.le_of_ble_eq_true rfl) hC12 (fun v13 h14 hq15 => ?_)
    have k := k v13 h14 hq15
    exact go_iret dX8_applyOne_112 ⟨_, rfl, rfl⟩ ⟨rfl, _, rfl, k⟩
  have k := k.2 cs4
  by_cases cs5 : x2 = (116 : Int32)
  · have k := k.1 cs5
    refine go_tsEq (tgt := 165) dX8_applyOne_1 cs5 (by decide) (by decide) rfl (by decide) ?_
    refine go_aload_n (pc2 := 166) dX8_applyOne_165 rfl rfl rfl ?_
    refine go_aload_n (pc2 := 167) dX8_applyOne_166 rfl rfl rfl ?_
    refine gf_165 (pc2 := 170) rfl dX8_applyOne_167 rfl c_25 (fvs r_25_4) ?_
    refine go_iconst (pc2 := 171) (v := (0 : Int32)) dX8_applyOne_170 rfl (by decide) ?_
    refine go_iaload (pc2 := 172) (j := 0) dX8_applyOne_171 rfl c_27 (vp_c rfl) rfl ?_
    refine go_aload_n (pc2 := 173) dX8_applyOne_172 rfl rfl rfl ?_
    refine gf_165 (pc2 := 176) rfl dX8_applyOne_173 rfl c_25 (fvs r_25_4) ?_
    refine go_iconst (pc2 := 177) (v := (1 : Int32)) dX8_applyOne_176 rfl (by decide) ?_
    refine go_iaload (pc2 := 178) (j := 1) dX8_applyOne_177 rfl c_27 (vp_c rfl) rfl ?_
    refine go_aload_n (pc2 := 179) dX8_applyOne_178 rfl rfl rfl ?_
    refine gf_165 (pc2 := 182) rfl dX8_applyOne_179 rfl c_25 (fvs r_25_4) ?_
    refine go_iconst (pc2 := 183) (v := (2 : Int32)) dX8_applyOne_182 rfl (by decide) ?_
    refine go_iaload (pc2 := 184) (j := 2) dX8_applyOne_183 rfl c_27 (vp_c rfl) rfl ?_
    obtain ⟨Q6, hC7, k⟩ := k
    refine gcVN_I (pc2 := 187) (dC := 1) (As := [.int (h.1 27 0), .int (h.1 27 1), .int (h.1 27 2)]) (st := []) rfl dX8_applyOne_184 rfl w_553 ok_X5_setTimes vi_X5_setTimes c_1 (by decide) rfl rfl rfl (by decide) (Nat.le_of_ble_eq_true rfl) hC7 (fun v8 h9 hq10 => ?_)
    have k := k v8 h9 hq10
    exact go_iret dX8_applyOne_187 ⟨_, rfl, rfl⟩ ⟨rfl, _, rfl, k⟩
  have k := k.2 cs5
  by_cases cb : x2.toInt < 97 ∨ 116 < x2.toInt
  · refine go_tsOut (tgt := 233) dX8_applyOne_1 cb (by decide) ?_
    refine go_aload_n (pc2 := 234) dX8_applyOne_233 rfl rfl rfl ?_
    refine go_aload_n (pc2 := 235) dX8_applyOne_234 rfl rfl rfl ?_
    refine gf_165 (pc2 := 238) rfl dX8_applyOne_235 rfl c_25 (fvs r_25_4) ?_
    refine go_iconst (pc2 := 239) (v := (0 : Int32)) dX8_applyOne_238 rfl (by decide) ?_
    refine go_iaload (pc2 := 240) (j := 0) dX8_applyOne_239 rfl c_27 (vp_c rfl) rfl ?_
    obtain ⟨Q1, hC2, k⟩ := k
    refine gcVN_I (pc2 := 243) (dC := 0) (As := [.int (h.1 27 0)]) (st := []) rfl dX8_applyOne_240 rfl w_569 ok_X5_setSpan vi_X5_setSpan c_1 (by decide) rfl rfl rfl (by decide) (Nat.le_of_ble_eq_true rfl) hC2 (fun v3 h4 hq5 => ?_)
    have k := k v3 h4 hq5
    exact go_iret dX8_applyOne_243 ⟨_, rfl, rfl⟩ ⟨rfl, _, rfl, k⟩
  · have ch : x2 = (98 : Int32) ∨ x2 = (101 : Int32) ∨ x2 = (102 : Int32) ∨ x2 = (104 : Int32) ∨ x2 = (105 : Int32) ∨ x2 = (106 : Int32) ∨ x2 = (107 : Int32) ∨ x2 = (108 : Int32) ∨ x2 = (109 : Int32) ∨ x2 = (110 : Int32) ∨ x2 = (111 : Int32) ∨ x2 = (113 : Int32) ∨ x2 = (114 : Int32) ∨ x2 = (115 : Int32) := by
      have q1 := cb
      have e0 := i32_ne cs0 (by decide : ((97 : Int32)).toInt = 97)
      have e1 := i32_ne cs1 (by decide : ((99 : Int32)).toInt = 99)
      have e2 := i32_ne cs2 (by decide : ((100 : Int32)).toInt = 100)
      have e3 := i32_ne cs3 (by decide : ((103 : Int32)).toInt = 103)
      have e4 := i32_ne cs4 (by decide : ((112 : Int32)).toInt = 112)
      have e5 := i32_ne cs5 (by decide : ((116 : Int32)).toInt = 116)
      have q2 : x2.toInt = 98 ∨ x2.toInt = 101 ∨ x2.toInt = 102 ∨ x2.toInt = 104 ∨ x2.toInt = 105 ∨ x2.toInt = 106 ∨ x2.toInt = 107 ∨ x2.toInt = 108 ∨ x2.toInt = 109 ∨ x2.toInt = 110 ∨ x2.toInt = 111 ∨ x2.toInt = 113 ∨ x2.toInt = 114 ∨ x2.toInt = 115 := by omega
      rcases q2 with q | q | q | q | q | q | q | q | q | q | q | q | q | q
      · exact (Or.inl (i32_eq q (by decide)))
      · exact (Or.inr (Or.inl (i32_eq q (by decide))))
      · exact (Or.inr (Or.inr (Or.inl (i32_eq q (by decide)))))
      · exact (Or.inr (Or.inr (Or.inr (Or.inl (i32_eq q (by decide))))))
      · exact (Or.inr (Or.inr (Or.inr (Or.inr (Or.inl (i32_eq q (by decide)))))))
      · exact (Or.inr (Or.inr (Or.inr (Or.inr (Or.inr (Or.inl (i32_eq q (by decide))))))))
      · exact (Or.inr (Or.inr (Or.inr (Or.inr (Or.inr (Or.inr (Or.inl (i32_eq q (by decide)))))))))
      · exact (Or.inr (Or.inr (Or.inr (Or.inr (Or.inr (Or.inr (Or.inr (Or.inl (i32_eq q (by decide))))))))))
      · exact (Or.inr (Or.inr (Or.inr (Or.inr (Or.inr (Or.inr (Or.inr (Or.inr (Or.inl (i32_eq q (by decide)))))))))))
      · exact (Or.inr (Or.inr (Or.inr (Or.inr (Or.inr (Or.inr (Or.inr (Or.inr (Or.inr (Or.inl (i32_eq q (by decide))))))))))))
      · exact (Or.inr (Or.inr (Or.inr (Or.inr (Or.inr (Or.inr (Or.inr (Or.inr (Or.inr (Or.inr (Or.inl (i32_eq q (by decide)))))))))))))
      · exact (Or.inr (Or.inr (Or.inr (Or.inr (Or.inr (Or.inr (Or.inr (Or.inr (Or.inr (Or.inr (Or.inr (Or.inl (i32_eq q (by decide))))))))))))))
      · exact (Or.inr (Or.inr (Or.inr (Or.inr (Or.inr (Or.inr (Or.inr (Or.inr (Or.inr (Or.inr (Or.inr (Or.inr (Or.inl (i32_eq q (by decide)))))))))))))))
      · exact (Or.inr (Or.inr (Or.inr (Or.inr (Or.inr (Or.inr (Or.inr (Or.inr (Or.inr (Or.inr (Or.inr (Or.inr (Or.inr (i32_eq q (by decide)))))))))))))))
    rcases ch with ch | ch | ch | ch | ch | ch | ch | ch | ch | ch | ch | ch | ch | ch
    · refine go_tsEq (tgt := 233) dX8_applyOne_1 ch (by decide) (by decide) rfl (by decide) ?_
      refine go_aload_n (pc2 := 234) dX8_applyOne_233 rfl rfl rfl ?_
      refine go_aload_n (pc2 := 235) dX8_applyOne_234 rfl rfl rfl ?_
      refine gf_165 (pc2 := 238) rfl dX8_applyOne_235 rfl c_25 (fvs r_25_4) ?_
      refine go_iconst (pc2 := 239) (v := (0 : Int32)) dX8_applyOne_238 rfl (by decide) ?_
      refine go_iaload (pc2 := 240) (j := 0) dX8_applyOne_239 rfl c_27 (vp_c rfl) rfl ?_
      obtain ⟨Q1, hC2, k⟩ := k
      refine gcVN_I (pc2 := 243) (dC := 0) (As := [.int (h.1 27 0)]) (st := []) rfl dX8_applyOne_240 rfl w_569 ok_X5_setSpan vi_X5_setSpan c_1 (by decide) rfl rfl rfl (by decide) (Nat.le_of_ble_eq_true rfl) hC2 (fun v3 h4 hq5 => ?_)
      have k := k v3 h4 hq5
      exact go_iret dX8_applyOne_243 ⟨_, rfl, rfl⟩ ⟨rfl, _, rfl, k⟩
    · refine go_tsEq (tgt := 233) dX8_applyOne_1 ch (by decide) (by decide) rfl (by decide) ?_
      refine go_aload_n (pc2 := 234) dX8_applyOne_233 rfl rfl rfl ?_
      refine go_aload_n (pc2 := 235) dX8_applyOne_234 rfl rfl rfl ?_
      refine gf_165 (pc2 := 238) rfl dX8_applyOne_235 rfl c_25 (fvs r_25_4) ?_
      refine go_iconst (pc2 := 239) (v := (0 : Int32)) dX8_applyOne_238 rfl (by decide) ?_
      refine go_iaload (pc2 := 240) (j := 0) dX8_applyOne_239 rfl c_27 (vp_c rfl) rfl ?_
      obtain ⟨Q1, hC2, k⟩ := k
      refine gcVN_I (pc2 := 243) (dC := 0) (As := [.int (h.1 27 0)]) (st := []) rfl dX8_applyOne_240 rfl w_569 ok_X5_setSpan vi_X5_setSpan c_1 (by decide) rfl rfl rfl (by decide) (Nat.le_of_ble_eq_true rfl) hC2 (fun v3 h4 hq5 => ?_)
      have k := k v3 h4 hq5
      exact go_iret dX8_applyOne_243 ⟨_, rfl, rfl⟩ ⟨rfl, _, rfl, k⟩
    · refine go_tsEq (tgt := 233) dX8_applyOne_1 ch (by decide) (by decide) rfl (by decide) ?_
      refine go_aload_n (pc2 := 234) dX8_applyOne_233 rfl rfl rfl ?_
      refine go_aload_n (pc2 := 235) dX8_applyOne_234 rfl rfl rfl ?_
      refine gf_165 (pc2 := 238) rfl dX8_applyOne_235 rfl c_25 (fvs r_25_4) ?_
      refine go_iconst (pc2 := 239) (v := (0 : Int32)) dX8_applyOne_238 rfl (by decide) ?_
      refine go_iaload (pc2 := 240) (j := 0) dX8_applyOne_239 rfl c_27 (vp_c rfl) rfl ?_
      obtain ⟨Q1, hC2, k⟩ := k
      refine gcVN_I (pc2 := 243) (dC := 0) (As := [.int (h.1 27 0)]) (st := []) rfl dX8_applyOne_240 rfl w_569 ok_X5_setSpan vi_X5_setSpan c_1 (by decide) rfl rfl rfl (by decide) (Nat.le_of_ble_eq_true rfl) hC2 (fun v3 h4 hq5 => ?_)
      have k := k v3 h4 hq5
      exact go_iret dX8_applyOne_243 ⟨_, rfl, rfl⟩ ⟨rfl, _, rfl, k⟩
    · refine go_tsEq (tgt := 233) dX8_applyOne_1 ch (by decide) (by decide) rfl (by decide) ?_
      refine go_aload_n (pc2 := 234) dX8_applyOne_233 rfl rfl rfl ?_
      refine go_aload_n (pc2 := 235) dX8_applyOne_234 rfl rfl rfl ?_
      refine gf_165 (pc2 := 238) rfl dX8_applyOne_235 rfl c_25 (fvs r_25_4) ?_
      refine go_iconst (pc2 := 239) (v := (0 : Int32)) dX8_applyOne_238 rfl (by decide) ?_
      refine go_iaload (pc2 := 240) (j := 0) dX8_applyOne_239 rfl c_27 (vp_c rfl) rfl ?_
      obtain ⟨Q1, hC2, k⟩ := k
      refine gcVN_I (pc2 := 243) (dC := 0) (As := [.int (h.1 27 0)]) (st := []) rfl dX8_applyOne_240 rfl w_569 ok_X5_setSpan vi_X5_setSpan c_1 (by decide) rfl rfl rfl (by decide) (Nat.le_of_ble_eq_true rfl) hC2 (fun v3 h4 hq5 => ?_)
      have k := k v3 h4 hq5
      exact go_iret dX8_applyOne_243 ⟨_, rfl, rfl⟩ ⟨rfl, _, rfl, k⟩
    · refine go_tsEq (tgt := 233) dX8_applyOne_1 ch (by decide) (by decide) rfl (by decide) ?_
      refine go_aload_n (pc2 := 234) dX8_applyOne_233 rfl rfl rfl ?_
      refine go_aload_n (pc2 := 235) dX8_applyOne_234 rfl rfl rfl ?_
      refine gf_165 (pc2 := 238) rfl dX8_applyOne_235 rfl c_25 (fvs r_25_4) ?_
      refine go_iconst (pc2 := 239) (v := (0 : Int32)) dX8_applyOne_238 rfl (by decide) ?_
      refine go_iaload (pc2 := 240) (j := 0) dX8_applyOne_239 rfl c_27 (vp_c rfl) rfl ?_
      obtain ⟨Q1, hC2, k⟩ := k
      refine gcVN_I (pc2 := 243) (dC := 0) (As := [.int (h.1 27 0)]) (st := []) rfl dX8_applyOne_240 rfl w_569 ok_X5_setSpan vi_X5_setSpan c_1 (by decide) rfl rfl rfl (by decide) (Nat.le_of_ble_eq_true rfl) hC2 (fun v3 h4 hq5 => ?_)
      have k := k v3 h4 hq5
      exact go_iret dX8_applyOne_243 ⟨_, rfl, rfl⟩ ⟨rfl, _, rfl, k⟩
    · refine go_tsEq (tgt := 233) dX8_applyOne_1 ch (by decide) (by decide) rfl (by decide) ?_
      refine go_aload_n (pc2 := 234) dX8_applyOne_233 rfl rfl rfl ?_
      refine go_aload_n (pc2 := 235) dX8_applyOne_234 rfl rfl rfl ?_
      refine gf_165 (pc2 := 238) rfl dX8_applyOne_235 rfl c_25 (fvs r_25_4) ?_
      refine go_iconst (pc2 := 239) (v := (0 : Int32)) dX8_applyOne_238 rfl (by decide) ?_
      refine go_iaload (pc2 := 240) (j := 0) dX8_applyOne_239 rfl c_27 (vp_c rfl) rfl ?_
      obtain ⟨Q1, hC2, k⟩ := k
      refine gcVN_I (pc2 := 243) (dC := 0) (As := [.int (h.1 27 0)]) (st := []) rfl dX8_applyOne_240 rfl w_569 ok_X5_setSpan vi_X5_setSpan c_1 (by decide) rfl rfl rfl (by decide) (Nat.le_of_ble_eq_true rfl) hC2 (fun v3 h4 hq5 => ?_)
      have k := k v3 h4 hq5
      exact go_iret dX8_applyOne_243 ⟨_, rfl, rfl⟩ ⟨rfl, _, rfl, k⟩
    · refine go_tsEq (tgt := 233) dX8_applyOne_1 ch (by decide) (by decide) rfl (by decide) ?_
      refine go_aload_n (pc2 := 234) dX8_applyOne_233 rfl rfl rfl ?_
      refine go_aload_n (pc2 := 235) dX8_applyOne_234 rfl rfl rfl ?_
      refine gf_165 (pc2 := 238) rfl dX8_applyOne_235 rfl c_25 (fvs r_25_4) ?_
      refine go_iconst (pc2 := 239) (v := (0 : Int32)) dX8_applyOne_238 rfl (by decide) ?_
      refine go_iaload (pc2 := 240) (j := 0) dX8_applyOne_239 rfl c_27 (vp_c rfl) rfl ?_
      obtain ⟨Q1, hC2, k⟩ := k
      refine gcVN_I (pc2 := 243) (dC := 0) (As := [.int (h.1 27 0)]) (st := []) rfl dX8_applyOne_240 rfl w_569 ok_X5_setSpan vi_X5_setSpan c_1 (by decide) rfl rfl rfl (by decide) (Nat.le_of_ble_eq_true rfl) hC2 (fun v3 h4 hq5 => ?_)
      have k := k v3 h4 hq5
      exact go_iret dX8_applyOne_243 ⟨_, rfl, rfl⟩ ⟨rfl, _, rfl, k⟩
    · refine go_tsEq (tgt := 233) dX8_applyOne_1 ch (by decide) (by decide) rfl (by decide) ?_
      refine go_aload_n (pc2 := 234) dX8_applyOne_233 rfl rfl rfl ?_
      refine go_aload_n (pc2 := 235) dX8_applyOne_234 rfl rfl rfl ?_
      refine gf_165 (pc2 := 238) rfl dX8_applyOne_235 rfl c_25 (fvs r_25_4) ?_
      refine go_iconst (pc2 := 239) (v := (0 : Int32)) dX8_applyOne_238 rfl (by decide) ?_
      refine go_iaload (pc2 := 240) (j := 0) dX8_applyOne_239 rfl c_27 (vp_c rfl) rfl ?_
      obtain ⟨Q1, hC2, k⟩ := k
      refine gcVN_I (pc2 := 243) (dC := 0) (As := [.int (h.1 27 0)]) (st := []) rfl dX8_applyOne_240 rfl w_569 ok_X5_setSpan vi_X5_setSpan c_1 (by decide) rfl rfl rfl (by decide) (Nat.le_of_ble_eq_true rfl) hC2 (fun v3 h4 hq5 => ?_)
      have k := k v3 h4 hq5
      exact go_iret dX8_applyOne_243 ⟨_, rfl, rfl⟩ ⟨rfl, _, rfl, k⟩
    · refine go_tsEq (tgt := 233) dX8_applyOne_1 ch (by decide) (by decide) rfl (by decide) ?_
      refine go_aload_n (pc2 := 234) dX8_applyOne_233 rfl rfl rfl ?_
      refine go_aload_n (pc2 := 235) dX8_applyOne_234 rfl rfl rfl ?_
      refine gf_165 (pc2 := 238) rfl dX8_applyOne_235 rfl c_25 (fvs r_25_4) ?_
      refine go_iconst (pc2 := 239) (v := (0 : Int32)) dX8_applyOne_238 rfl (by decide) ?_
      refine go_iaload (pc2 := 240) (j := 0) dX8_applyOne_239 rfl c_27 (vp_c rfl) rfl ?_
      obtain ⟨Q1, hC2, k⟩ := k
      refine gcVN_I (pc2 := 243) (dC := 0) (As := [.int (h.1 27 0)]) (st := []) rfl dX8_applyOne_240 rfl w_569 ok_X5_setSpan vi_X5_setSpan c_1 (by decide) rfl rfl rfl (by decide) (Nat.le_of_ble_eq_true rfl) hC2 (fun v3 h4 hq5 => ?_)
      have k := k v3 h4 hq5
      exact go_iret dX8_applyOne_243 ⟨_, rfl, rfl⟩ ⟨rfl, _, rfl, k⟩
    · refine go_tsEq (tgt := 233) dX8_applyOne_1 ch (by decide) (by decide) rfl (by decide) ?_
      refine go_aload_n (pc2 := 234) dX8_applyOne_233 rfl rfl rfl ?_
      refine go_aload_n (pc2 := 235) dX8_applyOne_234 rfl rfl rfl ?_
      refine gf_165 (pc2 := 238) rfl dX8_applyOne_235 rfl c_25 (fvs r_25_4) ?_
      refine go_iconst (pc2 := 239) (v := (0 : Int32)) dX8_applyOne_238 rfl (by decide) ?_
      refine go_iaload (pc2 := 240) (j := 0) dX8_applyOne_239 rfl c_27 (vp_c rfl) rfl ?_
      obtain ⟨Q1, hC2, k⟩ := k
      refine gcVN_I (pc2 := 243) (dC := 0) (As := [.int (h.1 27 0)]) (st := []) rfl dX8_applyOne_240 rfl w_569 ok_X5_setSpan vi_X5_setSpan c_1 (by decide) rfl rfl rfl (by decide) (Nat.le_of_ble_eq_true rfl) hC2 (fun v3 h4 hq5 => ?_)
      have k := k v3 h4 hq5
      exact go_iret dX8_applyOne_243 ⟨_, rfl, rfl⟩ ⟨rfl, _, rfl, k⟩
    · refine go_tsEq (tgt := 233) dX8_applyOne_1 ch (by decide) (by decide) rfl (by decide) ?_
      refine go_aload_n (pc2 := 234) dX8_applyOne_233 rfl rfl rfl ?_
      refine go_aload_n (pc2 := 235) dX8_applyOne_234 rfl rfl rfl ?_
      refine gf_165 (pc2 := 238) rfl dX8_applyOne_235 rfl c_25 (fvs r_25_4) ?_
      refine go_iconst (pc2 := 239) (v := (0 : Int32)) dX8_applyOne_238 rfl (by decide) ?_
      refine go_iaload (pc2 := 240) (j := 0) dX8_applyOne_239 rfl c_27 (vp_c rfl) rfl ?_
      obtain ⟨Q1, hC2, k⟩ := k
      refine gcVN_I (pc2 := 243) (dC := 0) (As := [.int (h.1 27 0)]) (st := []) rfl dX8_applyOne_240 rfl w_569 ok_X5_setSpan vi_X5_setSpan c_1 (by decide) rfl rfl rfl (by decide) (Nat.le_of_ble_eq_true rfl) hC2 (fun v3 h4 hq5 => ?_)
      have k := k v3 h4 hq5
      exact go_iret dX8_applyOne_243 ⟨_, rfl, rfl⟩ ⟨rfl, _, rfl, k⟩
    · refine go_tsEq (tgt := 233) dX8_applyOne_1 ch (by decide) (by decide) rfl (by decide) ?_
      refine go_aload_n (pc2 := 234) dX8_applyOne_233 rfl rfl rfl ?_
      refine go_aload_n (pc2 := 235) dX8_applyOne_234 rfl rfl rfl ?_
      refine gf_165 (pc2 := 238) rfl dX8_applyOne_235 rfl c_25 (fvs r_25_4) ?_
      refine go_iconst (pc2 := 239) (v := (0 : Int32)) dX8_applyOne_238 rfl (by decide) ?_
      refine go_iaload (pc2 := 240) (j := 0) dX8_applyOne_239 rfl c_27 (vp_c rfl) rfl ?_
      obtain ⟨Q1, hC2, k⟩ := k
      refine gcVN_I (pc2 := 243) (dC := 0) (As := [.int (h.1 27 0)]) (st := []) rfl dX8_applyOne_240 rfl w_569 ok_X5_setSpan vi_X5_setSpan c_1 (by decide) rfl rfl rfl (by decide) (Nat.le_of_ble_eq_true rfl) hC2 (fun v3 h4 hq5 => ?_)
      have k := k v3 h4 hq5
      exact go_iret dX8_applyOne_243 ⟨_, rfl, rfl⟩ ⟨rfl, _, rfl, k⟩
    · refine go_tsEq (tgt := 233) dX8_applyOne_1 ch (by decide) (by decide) rfl (by decide) ?_
      refine go_aload_n (pc2 := 234) dX8_applyOne_233 rfl rfl rfl ?_
      refine go_aload_n (pc2 := 235) dX8_applyOne_234 rfl rfl rfl ?_
      refine gf_165 (pc2 := 238) rfl dX8_applyOne_235 rfl c_25 (fvs r_25_4) ?_
      refine go_iconst (pc2 := 239) (v := (0 : Int32)) dX8_applyOne_238 rfl (by decide) ?_
      refine go_iaload (pc2 := 240) (j := 0) dX8_applyOne_239 rfl c_27 (vp_c rfl) rfl ?_
      obtain ⟨Q1, hC2, k⟩ := k
      refine gcVN_I (pc2 := 243) (dC := 0) (As := [.int (h.1 27 0)]) (st := []) rfl dX8_applyOne_240 rfl w_569 ok_X5_setSpan vi_X5_setSpan c_1 (by decide) rfl rfl rfl (by decide) (Nat.le_of_ble_eq_true rfl) hC2 (fun v3 h4 hq5 => ?_)
      have k := k v3 h4 hq5
      exact go_iret dX8_applyOne_243 ⟨_, rfl, rfl⟩ ⟨rfl, _, rfl, k⟩
    · refine go_tsEq (tgt := 233) dX8_applyOne_1 ch (by decide) (by decide) rfl (by decide) ?_
      refine go_aload_n (pc2 := 234) dX8_applyOne_233 rfl rfl rfl ?_
      refine go_aload_n (pc2 := 235) dX8_applyOne_234 rfl rfl rfl ?_
      refine gf_165 (pc2 := 238) rfl dX8_applyOne_235 rfl c_25 (fvs r_25_4) ?_
      refine go_iconst (pc2 := 239) (v := (0 : Int32)) dX8_applyOne_238 rfl (by decide) ?_
      refine go_iaload (pc2 := 240) (j := 0) dX8_applyOne_239 rfl c_27 (vp_c rfl) rfl ?_
      obtain ⟨Q1, hC2, k⟩ := k
      refine gcVN_I (pc2 := 243) (dC := 0) (As := [.int (h.1 27 0)]) (st := []) rfl dX8_applyOne_240 rfl w_569 ok_X5_setSpan vi_X5_setSpan c_1 (by decide) rfl rfl rfl (by decide) (Nat.le_of_ble_eq_true rfl) hC2 (fun v3 h4 hq5 => ?_)
      have k := k v3 h4 hq5
      exact go_iret dX8_applyOne_243 ⟨_, rfl, rfl⟩ ⟨rfl, _, rfl, k⟩
theorem e_X9_begin  {h : Hp} {Q : Hp → Prop}  (k : (∃ Q1, CtV 2 mX0_ready [.ref 28, .ref 1] h Q1 ∧ ∀ h4 : Hp, Q1 h4 → GoV 3 mX9_begin 13 [(0, .ref 36), (1, .int (0 : Int32))] [] h4 Q)) : CtV 3 mX9_begin [.ref 36] h Q := by
  refine Ct.of (by decide +kernel) (Nat.le_of_ble_eq_true rfl) ?_
  show GoV 3 mX9_begin 0 [(0, .ref 36)] [] h Q
  refine go_aload_n (pc2 := 1) dX9_begin_0 rfl rfl rfl ?_
  refine gf_215 (pc2 := 4) rfl dX9_begin_1 rfl c_36 (fvs r_36_0) ?_
  refine go_aload_n (pc2 := 5) dX9_begin_4 rfl rfl rfl ?_
  refine gf_216 (pc2 := 8) rfl dX9_begin_5 rfl c_36 (fvs r_36_1) ?_
  obtain ⟨Q1, hC2, k⟩ := k
  refine gcVN_V (pc2 := 11) (dC := 2) (As := [.ref 1]) (st := []) rfl dX9_begin_8 rfl w_778 ok_X0_ready vi_X0_ready c_28 (by decide) rfl rfl rfl (by decide) (Nat.le_of_ble_eq_true rfl) hC2 (fun h4 hq5 => ?_)
  have k := k h4 hq5
  refine go_iconst (pc2 := 12) (v := (0 : Int32)) dX9_begin_11 rfl (by decide) ?_
  refine go_istore_n (pc2 := 13) (ls2 := [(0, .ref 36), (1, .int (0 : Int32))]) dX9_begin_12 rfl rfl rfl rfl rfl rfl ?_
  exact k
theorem b_X9_begin_13 {x1 : Int32} {h : Hp} {Q : Hp → Prop}  (k : (((h.1 1 5) ≤ x1 → Q h) ∧ (¬ ((h.1 1 5) ≤ x1) → (vp_in x1 3 ∧ (vp_in x1 3 ∧ (∀ g3 : Hp, g3 = (ui h 37 (x1).toNatClampNeg (h.1 (6 + (x1).toNatClampNeg) 9)) → GoV 3 mX9_begin 13 [(0, .ref 36), (1, .int (x1 + 1))] [] g3 Q)))))) : GoV 3 mX9_begin 13 [(0, .ref 36), (1, .int x1)] [] h Q := by
  refine go_iload_n (pc2 := 14) dX9_begin_13 rfl rfl rfl ?_
  refine go_aload_n (pc2 := 15) dX9_begin_14 rfl rfl rfl ?_
  refine gf_216 (pc2 := 18) rfl dX9_begin_15 rfl c_36 (fvs r_36_1) ?_
  refine gf_122 (pc2 := 21) rfl dX9_begin_18 rfl c_1 fvi ?_
  refine go_icmp_ge (pc2 := 24) (tgt := 48) dX9_begin_21 rfl (by decide) (fun c => ?_) (fun c => ?_)
  · have k := k.1 c
    exact go_ret dX9_begin_48 rfl ⟨rfl, rfl, k⟩
  · have k := k.2 c
    refine go_aload_n (pc2 := 25) dX9_begin_24 rfl rfl rfl ?_
    refine gf_217 (pc2 := 28) rfl dX9_begin_25 rfl c_36 (fvs r_36_2) ?_
    refine go_iload_n (pc2 := 29) dX9_begin_28 rfl rfl rfl ?_
    refine go_aload_n (pc2 := 30) dX9_begin_29 rfl rfl rfl ?_
    refine gf_216 (pc2 := 33) rfl dX9_begin_30 rfl c_36 (fvs r_36_1) ?_
    refine gf_116 (pc2 := 36) rfl dX9_begin_33 rfl c_1 (fvs r_1_4) ?_
    refine go_iload_n (pc2 := 37) dX9_begin_36 rfl rfl rfl ?_
    obtain ⟨y1, k⟩ := k
    refine go_aaload (pc2 := 38) (t := 0) dX9_begin_37 rfl (by decide) c_5 y1 rfl (rfo_s (ra_5 _ (vp_lt y1))) ?_
    refine gf_70 (pc2 := 41) rfl dX9_begin_38 rfl (isPl_6 _ (vp_lt y1)) fvi ?_
    obtain ⟨y2, k⟩ := k
    refine go_iastore (pc2 := 42) (j := (x1).toNatClampNeg) dX9_begin_41 rfl c_37 y2 rfl ?_
    obtain ⟨g3, eg3⟩ : ∃ y : Hp, y = (ui h 37 (x1).toNatClampNeg (h.1 (6 + (x1).toNatClampNeg) 9)) := ⟨_, rfl⟩
    rw [← eg3]
    have k := k g3 eg3
    refine go_iinc (pc2 := 45) (ls2 := [(0, .ref 36), (1, .int (x1 + 1))]) (v := (x1 + 1)) dX9_begin_42 rfl rfl rfl rfl rfl rfl rfl ?_
    refine go_goto (tgt := 13) dX9_begin_45 (by decide) ?_
    exact k
theorem e_X9_tried {x1 : Int32} {x2 : Int32} {h : Hp} {Q : Int32 → Hp → Prop}  (k : GoI 3 mX9_tried 8 [(0, .ref 36), (1, .int x1), (2, .int x2), (3, .int (0 : Int32)), (4, .int (0 : Int32)), (5, .int (0 : Int32))] [] h Q) : CtI 3 mX9_tried [.ref 36, .int x1, .int x2] h Q := by
  refine Ct.of (by decide +kernel) (Nat.le_of_ble_eq_true rfl) ?_
  show GoI 3 mX9_tried 0 [(0, .ref 36), (1, .int x1), (2, .int x2)] [] h Q
  refine go_iconst (pc2 := 1) (v := (0 : Int32)) dX9_tried_0 rfl (by decide) ?_
  refine go_istore_n (pc2 := 2) (ls2 := [(0, .ref 36), (1, .int x1), (2, .int x2), (3, .int (0 : Int32))]) dX9_tried_1 rfl rfl rfl rfl rfl rfl ?_
  refine go_iconst (pc2 := 3) (v := (0 : Int32)) dX9_tried_2 rfl (by decide) ?_
  refine go_istore (pc2 := 5) (ls2 := [(0, .ref 36), (1, .int x1), (2, .int x2), (3, .int (0 : Int32)), (4, .int (0 : Int32))]) dX9_tried_3 rfl rfl rfl rfl rfl ?_
  refine go_iconst (pc2 := 6) (v := (0 : Int32)) dX9_tried_5 rfl (by decide) ?_
  refine go_istore (pc2 := 8) (ls2 := [(0, .ref 36), (1, .int x1), (2, .int x2), (3, .int (0 : Int32)), (4, .int (0 : Int32)), (5, .int (0 : Int32))]) dX9_tried_6 rfl rfl rfl rfl rfl ?_
  exact k
theorem b_X9_tried_8 {x1 : Int32} {x2 : Int32} {x3 : Int32} {x4 : Int32} {x5 : Int32} {h : Hp} {Q : Int32 → Hp → Prop}  (k : (((h.1 1 5) ≤ x5 → (vp_in x1 5 ∧ (vp_in x1 5 ∧ (∃ Q3, CtI 1 mX0_share [.ref 28, .int (h.1 2 (x1).toNatClampNeg), .int (h.1 3 (x1).toNatClampNeg), .int x2, .int x3] h Q3 ∧ ∀ (v5 : Int32) (h6 : Hp), Q3 v5 h6 → ((0 ≤ v5 → Q (v5 + x4) h6) ∧ (¬ (0 ≤ v5) → Q (-9 : Int32) h6)))))) ∧ (¬ ((h.1 1 5) ≤ x5) → (vp_in x5 3 ∧ (vp_in x5 3 ∧ (∃ Q10, CtI 1 mX3_moved [.ref (6 + (x5).toNatClampNeg), .int (h.1 37 (x5).toNatClampNeg), .int (if ((x2 >>> (x5 &&& 31)) &&& (1 : Int32)) = (1 : Int32) then (1 : Int32) else (0 : Int32))] h Q10 ∧ ∀ (v12 : Int32) (h13 : Hp), Q10 v12 h13 → ((¬ v12 = 0 → (((if ((x2 >>> (x5 &&& 31)) &&& (1 : Int32)) = (1 : Int32) then (1 : Int32) else (0 : Int32)) = 0 → GoI 3 mX9_tried 113 [(0, .ref 36), (1, .int x1), (2, .int x2), (3, .int x3), (4, .int x4), (5, .int x5)] [] h13 Q) ∧ (¬ (if ((x2 >>> (x5 &&& 31)) &&& (1 : Int32)) = (1 : Int32) then (1 : Int32) else (0 : Int32)) = 0 → (vp_in x5 3 ∧ ((0 ≤ (h13.1 37 (x5).toNatClampNeg) → GoI 3 mX9_tried 113 [(0, .ref 36), (1, .int x1), (2, .int x2), (3, .int x3), (4, .int x4), (5, .int x5)] [] h13 Q) ∧ (¬ (0 ≤ (h13.1 37 (x5).toNatClampNeg)) → (vp_in x5 3 ∧ (vp_in x5 3 ∧ (∃ Q18, CtI 2 mX3_startBehind [.ref (6 + (x5).toNatClampNeg), .int (-(h13.1 37 (x5).toNatClampNeg))] h13 Q18 ∧ ∀ (v20 : Int32) (h21 : Hp), Q18 v20 h21 → GoI 3 mX9_tried 113 [(0, .ref 36), (1, .int x1), (2, .int x2), (3, .int (x3 ||| ((1 : Int32) <<< (x5 &&& 31)))), (4, .int (x4 + v20)), (5, .int x5)] [] h21 Q))))))))) ∧ (v12 = 0 → Q (-9 : Int32) h13)))))))) : GoI 3 mX9_tried 8 [(0, .ref 36), (1, .int x1), (2, .int x2), (3, .int x3), (4, .int x4), (5, .int x5)] [] h Q := by
  refine go_iload (pc2 := 10) dX9_tried_8 rfl rfl ?_
  refine go_aload_n (pc2 := 11) dX9_tried_10 rfl rfl rfl ?_
  refine gf_216 (pc2 := 14) rfl dX9_tried_11 rfl c_36 (fvs r_36_1) ?_
  refine gf_122 (pc2 := 17) rfl dX9_tried_14 rfl c_1 fvi ?_
  refine go_icmp_ge (pc2 := 20) (tgt := 119) dX9_tried_17 rfl (by decide) (fun c => ?_) (fun c => ?_)
  · have k := k.1 c
    refine go_aload_n (pc2 := 120) dX9_tried_119 rfl rfl rfl ?_
    refine gf_215 (pc2 := 123) rfl dX9_tried_120 rfl c_36 (fvs r_36_0) ?_
    refine go_aload_n (pc2 := 124) dX9_tried_123 rfl rfl rfl ?_
    refine gf_216 (pc2 := 127) rfl dX9_tried_124 rfl c_36 (fvs r_36_1) ?_
    refine gf_104 (pc2 := 130) rfl dX9_tried_127 rfl c_1 (fvs r_1_1) ?_
    refine go_iload_n (pc2 := 131) dX9_tried_130 rfl rfl rfl ?_
    obtain ⟨y1, k⟩ := k
    refine go_iaload (pc2 := 132) (j := (x1).toNatClampNeg) dX9_tried_131 rfl c_2 y1 rfl ?_
    refine go_aload_n (pc2 := 133) dX9_tried_132 rfl rfl rfl ?_
    refine gf_216 (pc2 := 136) rfl dX9_tried_133 rfl c_36 (fvs r_36_1) ?_
    refine gf_109 (pc2 := 139) rfl dX9_tried_136 rfl c_1 (fvs r_1_2) ?_
    refine go_iload_n (pc2 := 140) dX9_tried_139 rfl rfl rfl ?_
    obtain ⟨y2, k⟩ := k
    refine go_iaload (pc2 := 141) (j := (x1).toNatClampNeg) dX9_tried_140 rfl c_3 y2 rfl ?_
    refine go_iload_n (pc2 := 142) dX9_tried_141 rfl rfl rfl ?_
    refine go_iload_n (pc2 := 143) dX9_tried_142 rfl rfl rfl ?_
    obtain ⟨Q3, hC4, k⟩ := k
    refine gcVN_I (pc2 := 146) (dC := 1) (As := [.int (h.1 2 (x1).toNatClampNeg), .int (h.1 3 (x1).toNatClampNeg), .int x2, .int x3]) (st := []) rfl dX9_tried_143 rfl w_793 ok_X0_share vi_X0_share c_28 (by decide) rfl rfl rfl (by decide) (Nat.le_of_ble_eq_true rfl) hC4 (fun v5 h6 hq7 => ?_)
    have k := k v5 h6 hq7
    refine go_istore (pc2 := 148) (ls2 := [(0, .ref 36), (1, .int x1), (2, .int x2), (3, .int x3), (4, .int x4), (5, .int v5)]) dX9_tried_146 rfl rfl rfl rfl rfl ?_
    refine go_iload (pc2 := 150) dX9_tried_148 rfl rfl ?_
    refine go_if_ge (pc2 := 153) (tgt := 158) dX9_tried_150 rfl (by decide) (fun c => ?_) (fun c => ?_)
    · have k := k.1 c
      refine go_iload (pc2 := 160) dX9_tried_158 rfl rfl ?_
      refine go_iload (pc2 := 162) dX9_tried_160 rfl rfl ?_
      refine go_iadd (pc2 := 163) dX9_tried_162 rfl ?_
      exact go_iret dX9_tried_163 ⟨_, rfl, rfl⟩ ⟨rfl, _, rfl, k⟩
    · have k := k.2 c
      refine go_bipush (pc2 := 155) (v := (-9 : Int32)) dX9_tried_153 rfl (by decide) ?_
      refine go_goto (tgt := 163) dX9_tried_155 (by decide) ?_
      exact go_iret dX9_tried_163 ⟨_, rfl, rfl⟩ ⟨rfl, _, rfl, k⟩
  · have k := k.2 c
    refine go_iload_n (pc2 := 21) dX9_tried_20 rfl rfl rfl ?_
    refine go_iload (pc2 := 23) dX9_tried_21 rfl rfl ?_
    refine go_ishr (pc2 := 24) dX9_tried_23 rfl ?_
    refine go_iconst (pc2 := 25) (v := (1 : Int32)) dX9_tried_24 rfl (by decide) ?_
    refine go_iand (pc2 := 26) dX9_tried_25 rfl ?_
    refine go_iconst (pc2 := 27) (v := (1 : Int32)) dX9_tried_26 rfl (by decide) ?_
    have J : GoI 3 mX9_tried 35 [(0, .ref 36), (1, .int x1), (2, .int x2), (3, .int x3), (4, .int x4), (5, .int x5)] [.int (if ((x2 >>> (x5 &&& 31)) &&& (1 : Int32)) = (1 : Int32) then (1 : Int32) else (0 : Int32))] h Q := by
      refine go_istore (pc2 := 37) (ls2 := [(0, .ref 36), (1, .int x1), (2, .int x2), (3, .int x3), (4, .int x4), (5, .int x5), (6, .int (if ((x2 >>> (x5 &&& 31)) &&& (1 : Int32)) = (1 : Int32) then (1 : Int32) else (0 : Int32)))]) dX9_tried_35 rfl rfl rfl rfl rfl ?_
      refine go_aload_n (pc2 := 38) dX9_tried_37 rfl rfl rfl ?_
      refine gf_216 (pc2 := 41) rfl dX9_tried_38 rfl c_36 (fvs r_36_1) ?_
      refine gf_116 (pc2 := 44) rfl dX9_tried_41 rfl c_1 (fvs r_1_4) ?_
      refine go_iload (pc2 := 46) dX9_tried_44 rfl rfl ?_
      obtain ⟨y8, k⟩ := k
      refine go_aaload (pc2 := 47) (t := 0) dX9_tried_46 rfl (by decide) c_5 y8 rfl (rfo_s (ra_5 _ (vp_lt y8))) ?_
      refine go_aload_n (pc2 := 48) dX9_tried_47 rfl rfl rfl ?_
      refine gf_217 (pc2 := 51) rfl dX9_tried_48 rfl c_36 (fvs r_36_2) ?_
      refine go_iload (pc2 := 53) dX9_tried_51 rfl rfl ?_
      obtain ⟨y9, k⟩ := k
      refine go_iaload (pc2 := 54) (j := (x5).toNatClampNeg) dX9_tried_53 rfl c_37 y9 rfl ?_
      refine go_iload (pc2 := 56) dX9_tried_54 rfl rfl ?_
      obtain ⟨Q10, hC11, k⟩ := k
      refine gcVN_I (pc2 := 59) (dC := 1) (As := [.int (h.1 37 (x5).toNatClampNeg), .int (if ((x2 >>> (x5 &&& 31)) &&& (1 : Int32)) = (1 : Int32) then (1 : Int32) else (0 : Int32))]) (st := []) rfl dX9_tried_56 rfl w_791 ok_X3_moved vi_X3_moved (isPl_6 _ (vp_lt y8)) (by decide) rfl rfl rfl (by decide) (Nat.le_of_ble_eq_true rfl) hC11 (fun v12 h13 hq14 => ?_)
      have k := k v12 h13 hq14
      refine go_if_ne (pc2 := 62) (tgt := 65) dX9_tried_59 rfl (by decide) (fun c => ?_) (fun c => ?_)
      · have k := k.1 c
        refine go_iload (pc2 := 67) dX9_tried_65 rfl rfl ?_
        refine go_if_eq (pc2 := 70) (tgt := 113) dX9_tried_67 rfl (by decide) (fun c => ?_) (fun c => ?_)
        · have k := k.1 c
          exact Go.pick [0, 1, 2, 3, 4, 5] rfl k
        · have k := k.2 c
          refine go_aload_n (pc2 := 71) dX9_tried_70 rfl rfl rfl ?_
          refine gf_217 (pc2 := 74) rfl dX9_tried_71 rfl c_36 (fvs r_36_2) ?_
          refine go_iload (pc2 := 76) dX9_tried_74 rfl rfl ?_
          obtain ⟨y15, k⟩ := k
          refine go_iaload (pc2 := 77) (j := (x5).toNatClampNeg) dX9_tried_76 rfl c_37 y15 rfl ?_
          refine go_if_ge (pc2 := 80) (tgt := 113) dX9_tried_77 rfl (by decide) (fun c => ?_) (fun c => ?_)
          · have k := k.1 c
            exact Go.pick [0, 1, 2, 3, 4, 5] rfl k
          · have k := k.2 c
            refine go_iload_n (pc2 := 81) dX9_tried_80 rfl rfl rfl ?_
            refine go_iconst (pc2 := 82) (v := (1 : Int32)) dX9_tried_81 rfl (by decide) ?_
            refine go_iload (pc2 := 84) dX9_tried_82 rfl rfl ?_
            refine go_ishl (pc2 := 85) dX9_tried_84 rfl ?_
            refine go_ior (pc2 := 86) dX9_tried_85 rfl ?_
            refine go_istore_n (pc2 := 87) (ls2 := [(0, .ref 36), (1, .int x1), (2, .int x2), (3, .int (x3 ||| ((1 : Int32) <<< (x5 &&& 31)))), (4, .int x4), (5, .int x5), (6, .int (if ((x2 >>> (x5 &&& 31)) &&& (1 : Int32)) = (1 : Int32) then (1 : Int32) else (0 : Int32)))]) dX9_tried_86 rfl rfl rfl rfl rfl rfl ?_
            refine go_iload (pc2 := 89) dX9_tried_87 rfl rfl ?_
            refine go_aload_n (pc2 := 90) dX9_tried_89 rfl rfl rfl ?_
            refine gf_216 (pc2 := 93) rfl dX9_tried_90 rfl c_36 (fvs r_36_1) ?_
            refine gf_116 (pc2 := 96) rfl dX9_tried_93 rfl c_1 (fvs r_1_4) ?_
            refine go_iload (pc2 := 98) dX9_tried_96 rfl rfl ?_
            obtain ⟨y16, k⟩ := k
            refine go_aaload (pc2 := 99) (t := 0) dX9_tried_98 rfl (by decide) c_5 y16 rfl (rfo_s (ra_5 _ (vp_lt y16))) ?_
            refine go_aload_n (pc2 := 100) dX9_tried_99 rfl rfl rfl ?_
            refine gf_217 (pc2 := 103) rfl dX9_tried_100 rfl c_36 (fvs r_36_2) ?_
            refine go_iload (pc2 := 105) dX9_tried_103 rfl rfl ?_
            obtain ⟨y17, k⟩ := k
            refine go_iaload (pc2 := 106) (j := (x5).toNatClampNeg) dX9_tried_105 rfl c_37 y17 rfl ?_
            refine go_ineg (pc2 := 107) dX9_tried_106 rfl ?_
            obtain ⟨Q18, hC19, k⟩ := k
            refine gcVN_I (pc2 := 110) (dC := 2) (As := [.int (-(h13.1 37 (x5).toNatClampNeg))]) (st := [.int x4]) rfl dX9_tried_107 rfl w_792 ok_X3_startBehind vi_X3_startBehind (isPl_6 _ (vp_lt y16)) (by decide) rfl rfl rfl (by decide) (Nat.le_of_ble_eq_true rfl) hC19 (fun v20 h21 hq22 => ?_)
            have k := k v20 h21 hq22
            refine go_iadd (pc2 := 111) dX9_tried_110 rfl ?_
            refine go_istore (pc2 := 113) (ls2 := [(0, .ref 36), (1, .int x1), (2, .int x2), (3, .int (x3 ||| ((1 : Int32) <<< (x5 &&& 31)))), (4, .int (x4 + v20)), (5, .int x5), (6, .int (if ((x2 >>> (x5 &&& 31)) &&& (1 : Int32)) = (1 : Int32) then (1 : Int32) else (0 : Int32)))]) dX9_tried_111 rfl rfl rfl rfl rfl ?_
            exact Go.pick [0, 1, 2, 3, 4, 5] rfl k
      · have k := k.2 c
        refine go_bipush (pc2 := 64) (v := (-9 : Int32)) dX9_tried_62 rfl (by decide) ?_
        exact go_iret dX9_tried_64 ⟨_, rfl, rfl⟩ ⟨rfl, _, rfl, k⟩
    refine go_icmp_ne (pc2 := 30) (tgt := 34) dX9_tried_27 rfl (by decide) (fun c => ?_) (fun c => ?_)
    · rw [if_neg c] at J
      exact go_iconst (pc2 := 35) dX9_tried_34 rfl (by decide) J
    · rw [if_pos c] at J
      exact go_iconst (pc2 := 31) dX9_tried_30 rfl (by decide) (go_goto (tgt := 35) dX9_tried_31 (by decide) J)
theorem b_X9_tried_113 {x1 : Int32} {x2 : Int32} {x3 : Int32} {x4 : Int32} {x5 : Int32} {h : Hp} {Q : Int32 → Hp → Prop}  (k : GoI 3 mX9_tried 8 [(0, .ref 36), (1, .int x1), (2, .int x2), (3, .int x3), (4, .int x4), (5, .int (x5 + 1))] [] h Q) : GoI 3 mX9_tried 113 [(0, .ref 36), (1, .int x1), (2, .int x2), (3, .int x3), (4, .int x4), (5, .int x5)] [] h Q := by
  refine go_iinc (pc2 := 116) (ls2 := [(0, .ref 36), (1, .int x1), (2, .int x2), (3, .int x3), (4, .int x4), (5, .int (x5 + 1))]) (v := (x5 + 1)) dX9_tried_113 rfl rfl rfl rfl rfl rfl rfl ?_
  refine go_goto (tgt := 8) dX9_tried_116 (by decide) ?_
  exact k
theorem e_X9_pass {x1 : Int32} {x2 : Int32} {h : Hp} {Q : Int32 → Hp → Prop}  (k : (∃ Q1, CtI 3 mX9_tried [.ref 36, .int x1, .int x2] h Q1 ∧ ∀ (v3 : Int32) (h4 : Hp), Q1 v3 h4 → ((v3 < 0 → Q v3 h4) ∧ (¬ (v3 < 0) → GoI 4 mX9_pass 14 [(0, .ref 36), (2, .int x2), (3, .int v3), (4, .int (0 : Int32))] [] h4 Q)))) : CtI 4 mX9_pass [.ref 36, .int x1, .int x2] h Q := by
  refine Ct.of (by decide +kernel) (Nat.le_of_ble_eq_true rfl) ?_
  show GoI 4 mX9_pass 0 [(0, .ref 36), (1, .int x1), (2, .int x2)] [] h Q
  refine go_aload_n (pc2 := 1) dX9_pass_0 rfl rfl rfl ?_
  refine go_iload_n (pc2 := 2) dX9_pass_1 rfl rfl rfl ?_
  refine go_iload_n (pc2 := 3) dX9_pass_2 rfl rfl rfl ?_
  obtain ⟨Q1, hC2, k⟩ := k
  refine gcV_I (pc2 := 6) (dC := 3) (As := [.int x1, .int x2]) (st := []) rfl dX9_pass_3 rfl w_787 ok_X9_tried vi_X9_tried c_36 (by decide) rfl rfl rfl (by decide) (Nat.le_of_ble_eq_true rfl) hC2 (fun v3 h4 hq5 => ?_)
  have k := k v3 h4 hq5
  refine go_istore_n (pc2 := 7) (ls2 := [(0, .ref 36), (1, .int x1), (2, .int x2), (3, .int v3)]) dX9_pass_6 rfl rfl rfl rfl rfl rfl ?_
  refine go_iload_n (pc2 := 8) dX9_pass_7 rfl rfl rfl ?_
  refine go_if_lt (pc2 := 11) (tgt := 74) dX9_pass_8 rfl (by decide) (fun c => ?_) (fun c => ?_)
  · have k := k.1 c
    refine go_iload_n (pc2 := 75) dX9_pass_74 rfl rfl rfl ?_
    exact go_iret dX9_pass_75 ⟨_, rfl, rfl⟩ ⟨rfl, _, rfl, k⟩
  · have k := k.2 c
    refine go_iconst (pc2 := 12) (v := (0 : Int32)) dX9_pass_11 rfl (by decide) ?_
    refine go_istore (pc2 := 14) (ls2 := [(0, .ref 36), (1, .int x1), (2, .int x2), (3, .int v3), (4, .int (0 : Int32))]) dX9_pass_12 rfl rfl rfl rfl rfl ?_
    exact Go.pick [0, 2, 3, 4] rfl k
theorem b_X9_pass_14 {x2 : Int32} {x3 : Int32} {x4 : Int32} {h : Hp} {Q : Int32 → Hp → Prop}  (k : (((h.1 1 5) ≤ x4 → Q x3 h) ∧ (¬ ((h.1 1 5) ≤ x4) → (vp_in x4 3 ∧ (vp_in x4 3 ∧ (∃ Q3, CtI 1 mX3_moved [.ref (6 + (x4).toNatClampNeg), .int (h.1 37 (x4).toNatClampNeg), .int (if ((x2 >>> (x4 &&& 31)) &&& (1 : Int32)) = (1 : Int32) then (1 : Int32) else (0 : Int32))] h Q3 ∧ ∀ (v5 : Int32) (h6 : Hp), Q3 v5 h6 → (vp_in x4 3 ∧ (∀ g9 : Hp, g9 = (ui h6 37 (x4).toNatClampNeg v5) → GoI 4 mX9_pass 14 [(0, .ref 36), (2, .int x2), (3, .int x3), (4, .int (x4 + 1))] [] g9 Q)))))))) : GoI 4 mX9_pass 14 [(0, .ref 36), (2, .int x2), (3, .int x3), (4, .int x4)] [] h Q := by
  refine go_iload (pc2 := 16) dX9_pass_14 rfl rfl ?_
  refine go_aload_n (pc2 := 17) dX9_pass_16 rfl rfl rfl ?_
  refine gf_216 (pc2 := 20) rfl dX9_pass_17 rfl c_36 (fvs r_36_1) ?_
  refine gf_122 (pc2 := 23) rfl dX9_pass_20 rfl c_1 fvi ?_
  refine go_icmp_ge (pc2 := 26) (tgt := 74) dX9_pass_23 rfl (by decide) (fun c => ?_) (fun c => ?_)
  · have k := k.1 c
    refine go_iload_n (pc2 := 75) dX9_pass_74 rfl rfl rfl ?_
    exact go_iret dX9_pass_75 ⟨_, rfl, rfl⟩ ⟨rfl, _, rfl, k⟩
  · have k := k.2 c
    refine go_aload_n (pc2 := 27) dX9_pass_26 rfl rfl rfl ?_
    refine gf_217 (pc2 := 30) rfl dX9_pass_27 rfl c_36 (fvs r_36_2) ?_
    refine go_iload (pc2 := 32) dX9_pass_30 rfl rfl ?_
    refine go_aload_n (pc2 := 33) dX9_pass_32 rfl rfl rfl ?_
    refine gf_216 (pc2 := 36) rfl dX9_pass_33 rfl c_36 (fvs r_36_1) ?_
    refine gf_116 (pc2 := 39) rfl dX9_pass_36 rfl c_1 (fvs r_1_4) ?_
    refine go_iload (pc2 := 41) dX9_pass_39 rfl rfl ?_
    obtain ⟨y1, k⟩ := k
    refine go_aaload (pc2 := 42) (t := 0) dX9_pass_41 rfl (by decide) c_5 y1 rfl (rfo_s (ra_5 _ (vp_lt y1))) ?_
    refine go_aload_n (pc2 := 43) dX9_pass_42 rfl rfl rfl ?_
    refine gf_217 (pc2 := 46) rfl dX9_pass_43 rfl c_36 (fvs r_36_2) ?_
    refine go_iload (pc2 := 48) dX9_pass_46 rfl rfl ?_
    obtain ⟨y2, k⟩ := k
    refine go_iaload (pc2 := 49) (j := (x4).toNatClampNeg) dX9_pass_48 rfl c_37 y2 rfl ?_
    refine go_iload_n (pc2 := 50) dX9_pass_49 rfl rfl rfl ?_
    refine go_iload (pc2 := 52) dX9_pass_50 rfl rfl ?_
    refine go_ishr (pc2 := 53) dX9_pass_52 rfl ?_
    refine go_iconst (pc2 := 54) (v := (1 : Int32)) dX9_pass_53 rfl (by decide) ?_
    refine go_iand (pc2 := 55) dX9_pass_54 rfl ?_
    refine go_iconst (pc2 := 56) (v := (1 : Int32)) dX9_pass_55 rfl (by decide) ?_
    have J : GoI 4 mX9_pass 64 [(0, .ref 36), (2, .int x2), (3, .int x3), (4, .int x4)] [.int (if ((x2 >>> (x4 &&& 31)) &&& (1 : Int32)) = (1 : Int32) then (1 : Int32) else (0 : Int32)), .int (h.1 37 (x4).toNatClampNeg), .ref (6 + (x4).toNatClampNeg), .int x4, .ref 37] h Q := by
      obtain ⟨Q3, hC4, k⟩ := k
      refine gcVN_I (pc2 := 67) (dC := 1) (As := [.int (h.1 37 (x4).toNatClampNeg), .int (if ((x2 >>> (x4 &&& 31)) &&& (1 : Int32)) = (1 : Int32) then (1 : Int32) else (0 : Int32))]) (st := [.int x4, .ref 37]) rfl dX9_pass_64 rfl w_791 ok_X3_moved vi_X3_moved (isPl_6 _ (vp_lt y1)) (by decide) rfl rfl rfl (by decide) (Nat.le_of_ble_eq_true rfl) hC4 (fun v5 h6 hq7 => ?_)
      have k := k v5 h6 hq7
      obtain ⟨y8, k⟩ := k
      refine go_iastore (pc2 := 68) (j := (x4).toNatClampNeg) dX9_pass_67 rfl c_37 y8 rfl ?_
      obtain ⟨g9, eg9⟩ : ∃ y : Hp, y = (ui h6 37 (x4).toNatClampNeg v5) := ⟨_, rfl⟩
      rw [← eg9]
      have k := k g9 eg9
      refine go_iinc (pc2 := 71) (ls2 := [(0, .ref 36), (2, .int x2), (3, .int x3), (4, .int (x4 + 1))]) (v := (x4 + 1)) dX9_pass_68 rfl rfl rfl rfl rfl rfl rfl ?_
      refine go_goto (tgt := 14) dX9_pass_71 (by decide) ?_
      exact k
    refine go_icmp_ne (pc2 := 59) (tgt := 63) dX9_pass_56 rfl (by decide) (fun c => ?_) (fun c => ?_)
    · rw [if_neg c] at J
      exact go_iconst (pc2 := 64) dX9_pass_63 rfl (by decide) J
    · rw [if_pos c] at J
      exact go_iconst (pc2 := 60) dX9_pass_59 rfl (by decide) (go_goto (tgt := 64) dX9_pass_60 (by decide) J)
theorem e_Jxf58ca_isNaN_12338 {x0 : UInt32} {h : Hp} {Q : Int32 → Hp → Prop}  (k : Q (if (Op.cmpValue (FP.fcmp x0 x0) .l) = 0 then (0 : Int32) else (1 : Int32)) h) : CtI 0 mJxf58ca_isNaN_12338 [.float x0] h Q := by
  refine Ct.ofF pf_nan (Nat.le_of_ble_eq_true rfl) ?_
  show GoI 0 mJxf58ca_isNaN_12338 0 [(0, .float x0)] [] h Q
  refine go_fload_n (pc2 := 1) dJxf58ca_isNaN_12338_0 rfl rfl rfl ?_
  refine go_fload_n (pc2 := 2) dJxf58ca_isNaN_12338_1 rfl rfl rfl ?_
  refine go_fcmp (pc2 := 3) dJxf58ca_isNaN_12338_2 rfl ?_
  have J : GoI 0 mJxf58ca_isNaN_12338 11 [(0, .float x0)] [.int (if (Op.cmpValue (FP.fcmp x0 x0) .l) = 0 then (0 : Int32) else (1 : Int32))] h Q := by
    exact go_iret dJxf58ca_isNaN_12338_11 ⟨_, rfl, congrArg Value.int ite_b⟩ ⟨rfl, _, rfl, k⟩
  refine go_if_eq (pc2 := 6) (tgt := 10) dJxf58ca_isNaN_12338_3 rfl (by decide) (fun c => ?_) (fun c => ?_)
  · rw [if_pos c] at J
    exact go_iconst (pc2 := 11) dJxf58ca_isNaN_12338_10 rfl (by decide) J
  · rw [if_neg c] at J
    exact go_iconst (pc2 := 7) dJxf58ca_isNaN_12338_6 rfl (by decide) (go_goto (tgt := 11) dJxf58ca_isNaN_12338_7 (by decide) J)
theorem e_Jxf58ca_floatToIntBits_5c35a {x0 : UInt32} {h : Hp} {Q : Int32 → Hp → Prop}  (k : (∃ Q1, CtI 0 mJxf58ca_isNaN_12338 [.float x0] h Q1 ∧ ∀ (v3 : Int32) (h4 : Hp), Q1 v3 h4 → ((¬ v3 = 0 → Q (2143289344 : Int32) h4) ∧ (v3 = 0 → Q (x0).toInt32 h4)))) : CtI 1 mJxf58ca_floatToIntBits_5c35a [.float x0] h Q := by
  refine Ct.ofF pf_f2i (Nat.le_of_ble_eq_true rfl) ?_
  show GoI 1 mJxf58ca_floatToIntBits_5c35a 0 [(0, .float x0)] [] h Q
  refine go_fload_n (pc2 := 1) dJxf58ca_floatToIntBits_5c35a_0 rfl rfl rfl ?_
  obtain ⟨Q1, hC2, k⟩ := k
  refine gcS_I (pc2 := 4) (dC := 0) (As := [.float x0]) (st := []) rfl dJxf58ca_floatToIntBits_5c35a_1 rfl w_1401 ok_Jxf58ca_isNaN_12338 w_1402 rfl (by decide) (Nat.le_of_ble_eq_true rfl) hC2 (fun v3 h4 hq5 => ?_)
  have k := k v3 h4 hq5
  refine go_if_ne (pc2 := 7) (tgt := 12) dJxf58ca_floatToIntBits_5c35a_4 rfl (by decide) (fun c => ?_) (fun c => ?_)
  · have k := k.1 c
    refine go_ldc (pc2 := 14) dJxf58ca_floatToIntBits_5c35a_12 rfl rfl w_1407 ?_
    exact go_iret dJxf58ca_floatToIntBits_5c35a_14 ⟨_, rfl, rfl⟩ ⟨rfl, _, rfl, k⟩
  · have k := k.2 c
    refine go_fload_n (pc2 := 8) dJxf58ca_floatToIntBits_5c35a_7 rfl rfl rfl ?_
    refine go_f2raw (pc2 := 11) rfl dJxf58ca_floatToIntBits_5c35a_8 rfl w_1404 w_1406 w_1405 w_22 (by decide) (Nat.le_of_ble_eq_true rfl) ?_
    exact go_iret dJxf58ca_floatToIntBits_5c35a_11 ⟨_, rfl, rfl⟩ ⟨rfl, _, rfl, k⟩
theorem e_J6_bitCount_0f7a4 {x0 : Int32} {h : Hp} {Q : Int32 → Hp → Prop}  (k : Q ((((((((x0 - ((((x0).toUInt32 >>> (((1 : Int32)).toUInt32 &&& Int32.toUInt32 31)).toInt32) &&& (1431655765 : Int32))) &&& (858993459 : Int32)) + (((((x0 - ((((x0).toUInt32 >>> (((1 : Int32)).toUInt32 &&& Int32.toUInt32 31)).toInt32) &&& (1431655765 : Int32)))).toUInt32 >>> (((2 : Int32)).toUInt32 &&& Int32.toUInt32 31)).toInt32) &&& (858993459 : Int32))) + ((((((x0 - ((((x0).toUInt32 >>> (((1 : Int32)).toUInt32 &&& Int32.toUInt32 31)).toInt32) &&& (1431655765 : Int32))) &&& (858993459 : Int32)) + (((((x0 - ((((x0).toUInt32 >>> (((1 : Int32)).toUInt32 &&& Int32.toUInt32 31)).toInt32) &&& (1431655765 : Int32)))).toUInt32 >>> (((2 : Int32)).toUInt32 &&& Int32.toUInt32 31)).toInt32) &&& (858993459 : Int32)))).toUInt32 >>> (((4 : Int32)).toUInt32 &&& Int32.toUInt32 31)).toInt32)) &&& (252645135 : Int32)) + ((((((((x0 - ((((x0).toUInt32 >>> (((1 : Int32)).toUInt32 &&& Int32.toUInt32 31)).toInt32) &&& (1431655765 : Int32))) &&& (858993459 : Int32)) + (((((x0 - ((((x0).toUInt32 >>> (((1 : Int32)).toUInt32 &&& Int32.toUInt32 31)).toInt32) &&& (1431655765 : Int32)))).toUInt32 >>> (((2 : Int32)).toUInt32 &&& Int32.toUInt32 31)).toInt32) &&& (858993459 : Int32))) + ((((((x0 - ((((x0).toUInt32 >>> (((1 : Int32)).toUInt32 &&& Int32.toUInt32 31)).toInt32) &&& (1431655765 : Int32))) &&& (858993459 : Int32)) + (((((x0 - ((((x0).toUInt32 >>> (((1 : Int32)).toUInt32 &&& Int32.toUInt32 31)).toInt32) &&& (1431655765 : Int32)))).toUInt32 >>> (((2 : Int32)).toUInt32 &&& Int32.toUInt32 31)).toInt32) &&& (858993459 : Int32)))).toUInt32 >>> (((4 : Int32)).toUInt32 &&& Int32.toUInt32 31)).toInt32)) &&& (252645135 : Int32))).toUInt32 >>> (((8 : Int32)).toUInt32 &&& Int32.toUInt32 31)).toInt32)) + (((((((((x0 - ((((x0).toUInt32 >>> (((1 : Int32)).toUInt32 &&& Int32.toUInt32 31)).toInt32) &&& (1431655765 : Int32))) &&& (858993459 : Int32)) + (((((x0 - ((((x0).toUInt32 >>> (((1 : Int32)).toUInt32 &&& Int32.toUInt32 31)).toInt32) &&& (1431655765 : Int32)))).toUInt32 >>> (((2 : Int32)).toUInt32 &&& Int32.toUInt32 31)).toInt32) &&& (858993459 : Int32))) + ((((((x0 - ((((x0).toUInt32 >>> (((1 : Int32)).toUInt32 &&& Int32.toUInt32 31)).toInt32) &&& (1431655765 : Int32))) &&& (858993459 : Int32)) + (((((x0 - ((((x0).toUInt32 >>> (((1 : Int32)).toUInt32 &&& Int32.toUInt32 31)).toInt32) &&& (1431655765 : Int32)))).toUInt32 >>> (((2 : Int32)).toUInt32 &&& Int32.toUInt32 31)).toInt32) &&& (858993459 : Int32)))).toUInt32 >>> (((4 : Int32)).toUInt32 &&& Int32.toUInt32 31)).toInt32)) &&& (252645135 : Int32)) + ((((((((x0 - ((((x0).toUInt32 >>> (((1 : Int32)).toUInt32 &&& Int32.toUInt32 31)).toInt32) &&& (1431655765 : Int32))) &&& (858993459 : Int32)) + (((((x0 - ((((x0).toUInt32 >>> (((1 : Int32)).toUInt32 &&& Int32.toUInt32 31)).toInt32) &&& (1431655765 : Int32)))).toUInt32 >>> (((2 : Int32)).toUInt32 &&& Int32.toUInt32 31)).toInt32) &&& (858993459 : Int32))) + ((((((x0 - ((((x0).toUInt32 >>> (((1 : Int32)).toUInt32 &&& Int32.toUInt32 31)).toInt32) &&& (1431655765 : Int32))) &&& (858993459 : Int32)) + (((((x0 - ((((x0).toUInt32 >>> (((1 : Int32)).toUInt32 &&& Int32.toUInt32 31)).toInt32) &&& (1431655765 : Int32)))).toUInt32 >>> (((2 : Int32)).toUInt32 &&& Int32.toUInt32 31)).toInt32) &&& (858993459 : Int32)))).toUInt32 >>> (((4 : Int32)).toUInt32 &&& Int32.toUInt32 31)).toInt32)) &&& (252645135 : Int32))).toUInt32 >>> (((8 : Int32)).toUInt32 &&& Int32.toUInt32 31)).toInt32))).toUInt32 >>> (((16 : Int32)).toUInt32 &&& Int32.toUInt32 31)).toInt32)) &&& (63 : Int32)) h) : CtI 0 mJ6_bitCount_0f7a4 [.int x0] h Q := by
  refine Ct.of (by decide +kernel) (Nat.le_of_ble_eq_true rfl) ?_
  show GoI 0 mJ6_bitCount_0f7a4 0 [(0, .int x0)] [] h Q
  refine go_iload_n (pc2 := 1) dJ6_bitCount_0f7a4_0 rfl rfl rfl ?_
  refine go_iload_n (pc2 := 2) dJ6_bitCount_0f7a4_1 rfl rfl rfl ?_
  refine go_iconst (pc2 := 3) (v := (1 : Int32)) dJ6_bitCount_0f7a4_2 rfl (by decide) ?_
  refine go_iushr (pc2 := 4) (v := (((x0).toUInt32 >>> (((1 : Int32)).toUInt32 &&& Int32.toUInt32 31)).toInt32)) dJ6_bitCount_0f7a4_3 rfl rfl ?_
  refine go_ldcw (pc2 := 7) dJ6_bitCount_0f7a4_4 rfl rfl w_826 ?_
  refine go_iand (pc2 := 8) dJ6_bitCount_0f7a4_7 rfl ?_
  refine go_isub (pc2 := 9) dJ6_bitCount_0f7a4_8 rfl ?_
  refine go_istore_n (pc2 := 10) (ls2 := [(0, .int (x0 - ((((x0).toUInt32 >>> (((1 : Int32)).toUInt32 &&& Int32.toUInt32 31)).toInt32) &&& (1431655765 : Int32))))]) dJ6_bitCount_0f7a4_9 rfl rfl rfl rfl rfl rfl ?_
  refine go_iload_n (pc2 := 11) dJ6_bitCount_0f7a4_10 rfl rfl rfl ?_
  refine go_ldcw (pc2 := 14) dJ6_bitCount_0f7a4_11 rfl rfl w_827 ?_
  refine go_iand (pc2 := 15) dJ6_bitCount_0f7a4_14 rfl ?_
  refine go_iload_n (pc2 := 16) dJ6_bitCount_0f7a4_15 rfl rfl rfl ?_
  refine go_iconst (pc2 := 17) (v := (2 : Int32)) dJ6_bitCount_0f7a4_16 rfl (by decide) ?_
  refine go_iushr (pc2 := 18) (v := ((((x0 - ((((x0).toUInt32 >>> (((1 : Int32)).toUInt32 &&& Int32.toUInt32 31)).toInt32) &&& (1431655765 : Int32)))).toUInt32 >>> (((2 : Int32)).toUInt32 &&& Int32.toUInt32 31)).toInt32)) dJ6_bitCount_0f7a4_17 rfl rfl ?_
  refine go_ldcw (pc2 := 21) dJ6_bitCount_0f7a4_18 rfl rfl w_827 ?_
  refine go_iand (pc2 := 22) dJ6_bitCount_0f7a4_21 rfl ?_
  refine go_iadd (pc2 := 23) dJ6_bitCount_0f7a4_22 rfl ?_
  refine go_istore_n (pc2 := 24) (ls2 := [(0, .int (((x0 - ((((x0).toUInt32 >>> (((1 : Int32)).toUInt32 &&& Int32.toUInt32 31)).toInt32) &&& (1431655765 : Int32))) &&& (858993459 : Int32)) + (((((x0 - ((((x0).toUInt32 >>> (((1 : Int32)).toUInt32 &&& Int32.toUInt32 31)).toInt32) &&& (1431655765 : Int32)))).toUInt32 >>> (((2 : Int32)).toUInt32 &&& Int32.toUInt32 31)).toInt32) &&& (858993459 : Int32))))]) dJ6_bitCount_0f7a4_23 rfl rfl rfl rfl rfl rfl ?_
  refine go_iload_n (pc2 := 25) dJ6_bitCount_0f7a4_24 rfl rfl rfl ?_
  refine go_iload_n (pc2 := 26) dJ6_bitCount_0f7a4_25 rfl rfl rfl ?_
  refine go_iconst (pc2 := 27) (v := (4 : Int32)) dJ6_bitCount_0f7a4_26 rfl (by decide) ?_
  refine go_iushr (pc2 := 28) (v := ((((((x0 - ((((x0).toUInt32 >>> (((1 : Int32)).toUInt32 &&& Int32.toUInt32 31)).toInt32) &&& (1431655765 : Int32))) &&& (858993459 : Int32)) + (((((x0 - ((((x0).toUInt32 >>> (((1 : Int32)).toUInt32 &&& Int32.toUInt32 31)).toInt32) &&& (1431655765 : Int32)))).toUInt32 >>> (((2 : Int32)).toUInt32 &&& Int32.toUInt32 31)).toInt32) &&& (858993459 : Int32)))).toUInt32 >>> (((4 : Int32)).toUInt32 &&& Int32.toUInt32 31)).toInt32)) dJ6_bitCount_0f7a4_27 rfl rfl ?_
  refine go_iadd (pc2 := 29) dJ6_bitCount_0f7a4_28 rfl ?_
  refine go_ldcw (pc2 := 32) dJ6_bitCount_0f7a4_29 rfl rfl w_828 ?_
  refine go_iand (pc2 := 33) dJ6_bitCount_0f7a4_32 rfl ?_
  refine go_istore_n (pc2 := 34) (ls2 := [(0, .int (((((x0 - ((((x0).toUInt32 >>> (((1 : Int32)).toUInt32 &&& Int32.toUInt32 31)).toInt32) &&& (1431655765 : Int32))) &&& (858993459 : Int32)) + (((((x0 - ((((x0).toUInt32 >>> (((1 : Int32)).toUInt32 &&& Int32.toUInt32 31)).toInt32) &&& (1431655765 : Int32)))).toUInt32 >>> (((2 : Int32)).toUInt32 &&& Int32.toUInt32 31)).toInt32) &&& (858993459 : Int32))) + ((((((x0 - ((((x0).toUInt32 >>> (((1 : Int32)).toUInt32 &&& Int32.toUInt32 31)).toInt32) &&& (1431655765 : Int32))) &&& (858993459 : Int32)) + (((((x0 - ((((x0).toUInt32 >>> (((1 : Int32)).toUInt32 &&& Int32.toUInt32 31)).toInt32) &&& (1431655765 : Int32)))).toUInt32 >>> (((2 : Int32)).toUInt32 &&& Int32.toUInt32 31)).toInt32) &&& (858993459 : Int32)))).toUInt32 >>> (((4 : Int32)).toUInt32 &&& Int32.toUInt32 31)).toInt32)) &&& (252645135 : Int32)))]) dJ6_bitCount_0f7a4_33 rfl rfl rfl rfl rfl rfl ?_
  refine go_iload_n (pc2 := 35) dJ6_bitCount_0f7a4_34 rfl rfl rfl ?_
  refine go_iload_n (pc2 := 36) dJ6_bitCount_0f7a4_35 rfl rfl rfl ?_
  refine go_bipush (pc2 := 38) (v := (8 : Int32)) dJ6_bitCount_0f7a4_36 rfl (by decide) ?_
  refine go_iushr (pc2 := 39) (v := ((((((((x0 - ((((x0).toUInt32 >>> (((1 : Int32)).toUInt32 &&& Int32.toUInt32 31)).toInt32) &&& (1431655765 : Int32))) &&& (858993459 : Int32)) + (((((x0 - ((((x0).toUInt32 >>> (((1 : Int32)).toUInt32 &&& Int32.toUInt32 31)).toInt32) &&& (1431655765 : Int32)))).toUInt32 >>> (((2 : Int32)).toUInt32 &&& Int32.toUInt32 31)).toInt32) &&& (858993459 : Int32))) + ((((((x0 - ((((x0).toUInt32 >>> (((1 : Int32)).toUInt32 &&& Int32.toUInt32 31)).toInt32) &&& (1431655765 : Int32))) &&& (858993459 : Int32)) + (((((x0 - ((((x0).toUInt32 >>> (((1 : Int32)).toUInt32 &&& Int32.toUInt32 31)).toInt32) &&& (1431655765 : Int32)))).toUInt32 >>> (((2 : Int32)).toUInt32 &&& Int32.toUInt32 31)).toInt32) &&& (858993459 : Int32)))).toUInt32 >>> (((4 : Int32)).toUInt32 &&& Int32.toUInt32 31)).toInt32)) &&& (252645135 : Int32))).toUInt32 >>> (((8 : Int32)).toUInt32 &&& Int32.toUInt32 31)).toInt32)) dJ6_bitCount_0f7a4_38 rfl rfl ?_
  refine go_iadd (pc2 := 40) dJ6_bitCount_0f7a4_39 rfl ?_
  refine go_istore_n (pc2 := 41) (ls2 := [(0, .int ((((((x0 - ((((x0).toUInt32 >>> (((1 : Int32)).toUInt32 &&& Int32.toUInt32 31)).toInt32) &&& (1431655765 : Int32))) &&& (858993459 : Int32)) + (((((x0 - ((((x0).toUInt32 >>> (((1 : Int32)).toUInt32 &&& Int32.toUInt32 31)).toInt32) &&& (1431655765 : Int32)))).toUInt32 >>> (((2 : Int32)).toUInt32 &&& Int32.toUInt32 31)).toInt32) &&& (858993459 : Int32))) + ((((((x0 - ((((x0).toUInt32 >>> (((1 : Int32)).toUInt32 &&& Int32.toUInt32 31)).toInt32) &&& (1431655765 : Int32))) &&& (858993459 : Int32)) + (((((x0 - ((((x0).toUInt32 >>> (((1 : Int32)).toUInt32 &&& Int32.toUInt32 31)).toInt32) &&& (1431655765 : Int32)))).toUInt32 >>> (((2 : Int32)).toUInt32 &&& Int32.toUInt32 31)).toInt32) &&& (858993459 : Int32)))).toUInt32 >>> (((4 : Int32)).toUInt32 &&& Int32.toUInt32 31)).toInt32)) &&& (252645135 : Int32)) + ((((((((x0 - ((((x0).toUInt32 >>> (((1 : Int32)).toUInt32 &&& Int32.toUInt32 31)).toInt32) &&& (1431655765 : Int32))) &&& (858993459 : Int32)) + (((((x0 - ((((x0).toUInt32 >>> (((1 : Int32)).toUInt32 &&& Int32.toUInt32 31)).toInt32) &&& (1431655765 : Int32)))).toUInt32 >>> (((2 : Int32)).toUInt32 &&& Int32.toUInt32 31)).toInt32) &&& (858993459 : Int32))) + ((((((x0 - ((((x0).toUInt32 >>> (((1 : Int32)).toUInt32 &&& Int32.toUInt32 31)).toInt32) &&& (1431655765 : Int32))) &&& (858993459 : Int32)) + (((((x0 - ((((x0).toUInt32 >>> (((1 : Int32)).toUInt32 &&& Int32.toUInt32 31)).toInt32) &&& (1431655765 : Int32)))).toUInt32 >>> (((2 : Int32)).toUInt32 &&& Int32.toUInt32 31)).toInt32) &&& (858993459 : Int32)))).toUInt32 >>> (((4 : Int32)).toUInt32 &&& Int32.toUInt32 31)).toInt32)) &&& (252645135 : Int32))).toUInt32 >>> (((8 : Int32)).toUInt32 &&& Int32.toUInt32 31)).toInt32)))]) dJ6_bitCount_0f7a4_40 rfl rfl rfl rfl rfl rfl ?_
  refine go_iload_n (pc2 := 42) dJ6_bitCount_0f7a4_41 rfl rfl rfl ?_
  refine go_iload_n (pc2 := 43) dJ6_bitCount_0f7a4_42 rfl rfl rfl ?_
  refine go_bipush (pc2 := 45) (v := (16 : Int32)) dJ6_bitCount_0f7a4_43 rfl (by decide) ?_
  refine go_iushr (pc2 := 46) (v := (((((((((x0 - ((((x0).toUInt32 >>> (((1 : Int32)).toUInt32 &&& Int32.toUInt32 31)).toInt32) &&& (1431655765 : Int32))) &&& (858993459 : Int32)) + (((((x0 - ((((x0).toUInt32 >>> (((1 : Int32)).toUInt32 &&& Int32.toUInt32 31)).toInt32) &&& (1431655765 : Int32)))).toUInt32 >>> (((2 : Int32)).toUInt32 &&& Int32.toUInt32 31)).toInt32) &&& (858993459 : Int32))) + ((((((x0 - ((((x0).toUInt32 >>> (((1 : Int32)).toUInt32 &&& Int32.toUInt32 31)).toInt32) &&& (1431655765 : Int32))) &&& (858993459 : Int32)) + (((((x0 - ((((x0).toUInt32 >>> (((1 : Int32)).toUInt32 &&& Int32.toUInt32 31)).toInt32) &&& (1431655765 : Int32)))).toUInt32 >>> (((2 : Int32)).toUInt32 &&& Int32.toUInt32 31)).toInt32) &&& (858993459 : Int32)))).toUInt32 >>> (((4 : Int32)).toUInt32 &&& Int32.toUInt32 31)).toInt32)) &&& (252645135 : Int32)) + ((((((((x0 - ((((x0).toUInt32 >>> (((1 : Int32)).toUInt32 &&& Int32.toUInt32 31)).toInt32) &&& (1431655765 : Int32))) &&& (858993459 : Int32)) + (((((x0 - ((((x0).toUInt32 >>> (((1 : Int32)).toUInt32 &&& Int32.toUInt32 31)).toInt32) &&& (1431655765 : Int32)))).toUInt32 >>> (((2 : Int32)).toUInt32 &&& Int32.toUInt32 31)).toInt32) &&& (858993459 : Int32))) + ((((((x0 - ((((x0).toUInt32 >>> (((1 : Int32)).toUInt32 &&& Int32.toUInt32 31)).toInt32) &&& (1431655765 : Int32))) &&& (858993459 : Int32)) + (((((x0 - ((((x0).toUInt32 >>> (((1 : Int32)).toUInt32 &&& Int32.toUInt32 31)).toInt32) &&& (1431655765 : Int32)))).toUInt32 >>> (((2 : Int32)).toUInt32 &&& Int32.toUInt32 31)).toInt32) &&& (858993459 : Int32)))).toUInt32 >>> (((4 : Int32)).toUInt32 &&& Int32.toUInt32 31)).toInt32)) &&& (252645135 : Int32))).toUInt32 >>> (((8 : Int32)).toUInt32 &&& Int32.toUInt32 31)).toInt32))).toUInt32 >>> (((16 : Int32)).toUInt32 &&& Int32.toUInt32 31)).toInt32)) dJ6_bitCount_0f7a4_45 rfl rfl ?_
  refine go_iadd (pc2 := 47) dJ6_bitCount_0f7a4_46 rfl ?_
  refine go_istore_n (pc2 := 48) (ls2 := [(0, .int (((((((x0 - ((((x0).toUInt32 >>> (((1 : Int32)).toUInt32 &&& Int32.toUInt32 31)).toInt32) &&& (1431655765 : Int32))) &&& (858993459 : Int32)) + (((((x0 - ((((x0).toUInt32 >>> (((1 : Int32)).toUInt32 &&& Int32.toUInt32 31)).toInt32) &&& (1431655765 : Int32)))).toUInt32 >>> (((2 : Int32)).toUInt32 &&& Int32.toUInt32 31)).toInt32) &&& (858993459 : Int32))) + ((((((x0 - ((((x0).toUInt32 >>> (((1 : Int32)).toUInt32 &&& Int32.toUInt32 31)).toInt32) &&& (1431655765 : Int32))) &&& (858993459 : Int32)) + (((((x0 - ((((x0).toUInt32 >>> (((1 : Int32)).toUInt32 &&& Int32.toUInt32 31)).toInt32) &&& (1431655765 : Int32)))).toUInt32 >>> (((2 : Int32)).toUInt32 &&& Int32.toUInt32 31)).toInt32) &&& (858993459 : Int32)))).toUInt32 >>> (((4 : Int32)).toUInt32 &&& Int32.toUInt32 31)).toInt32)) &&& (252645135 : Int32)) + ((((((((x0 - ((((x0).toUInt32 >>> (((1 : Int32)).toUInt32 &&& Int32.toUInt32 31)).toInt32) &&& (1431655765 : Int32))) &&& (858993459 : Int32)) + (((((x0 - ((((x0).toUInt32 >>> (((1 : Int32)).toUInt32 &&& Int32.toUInt32 31)).toInt32) &&& (1431655765 : Int32)))).toUInt32 >>> (((2 : Int32)).toUInt32 &&& Int32.toUInt32 31)).toInt32) &&& (858993459 : Int32))) + ((((((x0 - ((((x0).toUInt32 >>> (((1 : Int32)).toUInt32 &&& Int32.toUInt32 31)).toInt32) &&& (1431655765 : Int32))) &&& (858993459 : Int32)) + (((((x0 - ((((x0).toUInt32 >>> (((1 : Int32)).toUInt32 &&& Int32.toUInt32 31)).toInt32) &&& (1431655765 : Int32)))).toUInt32 >>> (((2 : Int32)).toUInt32 &&& Int32.toUInt32 31)).toInt32) &&& (858993459 : Int32)))).toUInt32 >>> (((4 : Int32)).toUInt32 &&& Int32.toUInt32 31)).toInt32)) &&& (252645135 : Int32))).toUInt32 >>> (((8 : Int32)).toUInt32 &&& Int32.toUInt32 31)).toInt32)) + (((((((((x0 - ((((x0).toUInt32 >>> (((1 : Int32)).toUInt32 &&& Int32.toUInt32 31)).toInt32) &&& (1431655765 : Int32))) &&& (858993459 : Int32)) + (((((x0 - ((((x0).toUInt32 >>> (((1 : Int32)).toUInt32 &&& Int32.toUInt32 31)).toInt32) &&& (1431655765 : Int32)))).toUInt32 >>> (((2 : Int32)).toUInt32 &&& Int32.toUInt32 31)).toInt32) &&& (858993459 : Int32))) + ((((((x0 - ((((x0).toUInt32 >>> (((1 : Int32)).toUInt32 &&& Int32.toUInt32 31)).toInt32) &&& (1431655765 : Int32))) &&& (858993459 : Int32)) + (((((x0 - ((((x0).toUInt32 >>> (((1 : Int32)).toUInt32 &&& Int32.toUInt32 31)).toInt32) &&& (1431655765 : Int32)))).toUInt32 >>> (((2 : Int32)).toUInt32 &&& Int32.toUInt32 31)).toInt32) &&& (858993459 : Int32)))).toUInt32 >>> (((4 : Int32)).toUInt32 &&& Int32.toUInt32 31)).toInt32)) &&& (252645135 : Int32)) + ((((((((x0 - ((((x0).toUInt32 >>> (((1 : Int32)).toUInt32 &&& Int32.toUInt32 31)).toInt32) &&& (1431655765 : Int32))) &&& (858993459 : Int32)) + (((((x0 - ((((x0).toUInt32 >>> (((1 : Int32)).toUInt32 &&& Int32.toUInt32 31)).toInt32) &&& (1431655765 : Int32)))).toUInt32 >>> (((2 : Int32)).toUInt32 &&& Int32.toUInt32 31)).toInt32) &&& (858993459 : Int32))) + ((((((x0 - ((((x0).toUInt32 >>> (((1 : Int32)).toUInt32 &&& Int32.toUInt32 31)).toInt32) &&& (1431655765 : Int32))) &&& (858993459 : Int32)) + (((((x0 - ((((x0).toUInt32 >>> (((1 : Int32)).toUInt32 &&& Int32.toUInt32 31)).toInt32) &&& (1431655765 : Int32)))).toUInt32 >>> (((2 : Int32)).toUInt32 &&& Int32.toUInt32 31)).toInt32) &&& (858993459 : Int32)))).toUInt32 >>> (((4 : Int32)).toUInt32 &&& Int32.toUInt32 31)).toInt32)) &&& (252645135 : Int32))).toUInt32 >>> (((8 : Int32)).toUInt32 &&& Int32.toUInt32 31)).toInt32))).toUInt32 >>> (((16 : Int32)).toUInt32 &&& Int32.toUInt32 31)).toInt32)))]) dJ6_bitCount_0f7a4_47 rfl rfl rfl rfl rfl rfl ?_
  refine go_iload_n (pc2 := 49) dJ6_bitCount_0f7a4_48 rfl rfl rfl ?_
  refine go_bipush (pc2 := 51) (v := (63 : Int32)) dJ6_bitCount_0f7a4_49 rfl (by decide) ?_
  refine go_iand (pc2 := 52) dJ6_bitCount_0f7a4_51 rfl ?_
  exact go_iret dJ6_bitCount_0f7a4_52 ⟨_, rfl, rfl⟩ ⟨rfl, _, rfl, k⟩
theorem e_J9_max_7cf53 {x0 : Int32} {x1 : Int32} {h : Hp} {Q : Int32 → Hp → Prop}  (k : ((x0 < x1 → Q x1 h) ∧ (¬ (x0 < x1) → Q x0 h))) : CtI 0 mJ9_max_7cf53 [.int x0, .int x1] h Q := by
  refine Ct.ofF pf_max (Nat.le_of_ble_eq_true rfl) ?_
  show GoI 0 mJ9_max_7cf53 0 [(0, .int x0), (1, .int x1)] [] h Q
  refine go_iload_n (pc2 := 1) dJ9_max_7cf53_0 rfl rfl rfl ?_
  refine go_iload_n (pc2 := 2) dJ9_max_7cf53_1 rfl rfl rfl ?_
  refine go_icmp_lt (pc2 := 5) (tgt := 9) dJ9_max_7cf53_2 rfl (by decide) (fun c => ?_) (fun c => ?_)
  · have k := k.1 c
    refine go_iload_n (pc2 := 10) dJ9_max_7cf53_9 rfl rfl rfl ?_
    exact go_iret dJ9_max_7cf53_10 ⟨_, rfl, rfl⟩ ⟨rfl, _, rfl, k⟩
  · have k := k.2 c
    refine go_iload_n (pc2 := 6) dJ9_max_7cf53_5 rfl rfl rfl ?_
    refine go_goto (tgt := 10) dJ9_max_7cf53_6 (by decide) ?_
    exact go_iret dJ9_max_7cf53_10 ⟨_, rfl, rfl⟩ ⟨rfl, _, rfl, k⟩
theorem e_J9_min_7cf53 {x0 : Int32} {x1 : Int32} {h : Hp} {Q : Int32 → Hp → Prop}  (k : ((x1 < x0 → Q x1 h) ∧ (¬ (x1 < x0) → Q x0 h))) : CtI 0 mJ9_min_7cf53 [.int x0, .int x1] h Q := by
  refine Ct.ofF pf_min (Nat.le_of_ble_eq_true rfl) ?_
  show GoI 0 mJ9_min_7cf53 0 [(0, .int x0), (1, .int x1)] [] h Q
  refine go_iload_n (pc2 := 1) dJ9_min_7cf53_0 rfl rfl rfl ?_
  refine go_iload_n (pc2 := 2) dJ9_min_7cf53_1 rfl rfl rfl ?_
  refine go_icmp_gt (pc2 := 5) (tgt := 9) dJ9_min_7cf53_2 rfl (by decide) (fun c => ?_) (fun c => ?_)
  · have k := k.1 c
    refine go_iload_n (pc2 := 10) dJ9_min_7cf53_9 rfl rfl rfl ?_
    exact go_iret dJ9_min_7cf53_10 ⟨_, rfl, rfl⟩ ⟨rfl, _, rfl, k⟩
  · have k := k.2 c
    refine go_iload_n (pc2 := 6) dJ9_min_7cf53_5 rfl rfl rfl ?_
    refine go_goto (tgt := 10) dJ9_min_7cf53_6 (by decide) ?_
    exact go_iret dJ9_min_7cf53_10 ⟨_, rfl, rfl⟩ ⟨rfl, _, rfl, k⟩
theorem e_J0_length_8abf5 {i0 : Nat} {h : Hp} {Q : Int32 → Hp → Prop} (hi0 : i0 < 6) (k : (∃ Q1, CtI 0 mJ0_coder_7d493 [.ref (1000 + i0)] h Q1 ∧ ∀ (v3 : Int32) (h4 : Hp), Q1 v3 h4 → Q ((nI (st_len.getD i0 0)) >>> (v3 &&& 31)) h4)) : CtI 1 mJ0_length_8abf5 [.ref (1000 + i0)] h Q := by
  refine Ct.of (by decide +kernel) (Nat.le_of_ble_eq_true rfl) ?_
  show GoI 1 mJ0_length_8abf5 0 [(0, .ref (1000 + i0))] [] h Q
  refine go_aload_n (pc2 := 1) dJ0_length_8abf5_0 rfl rfl rfl ?_
  refine go_sval (pc2 := 4) (i := i0) hi0 rfl dJ0_length_8abf5_1 rfl w_1650 ?_
  refine go_slen (pc2 := 5) (i := i0) hi0 dJ0_length_8abf5_4 rfl ?_
  refine go_aload_n (pc2 := 6) dJ0_length_8abf5_5 rfl rfl rfl ?_
  obtain ⟨Q1, hC2, k⟩ := k
  refine gcVS_I (pc2 := 9) (dC := 0) (i := i0) (As := []) (st := [.int (nI (st_len.getD i0 0))]) hi0 rfl dJ0_length_8abf5_6 rfl w_465 ok_J0_coder_7d493 vi_J0_coder_7d493 rfl rfl (by decide) (Nat.le_of_ble_eq_true rfl) hC2 (fun v3 h4 hq5 => ?_)
  have k := k v3 h4 hq5
  refine go_ishr (pc2 := 10) dJ0_length_8abf5_9 rfl ?_
  exact go_iret dJ0_length_8abf5_10 ⟨_, rfl, rfl⟩ ⟨rfl, _, rfl, k⟩
theorem e_J0_isEmpty_aae02 {i0 : Nat} {h : Hp} {Q : Int32 → Hp → Prop} (hi0 : i0 < 6) (k : Q (if (nI (st_len.getD i0 0)) = 0 then (1 : Int32) else (0 : Int32)) h) : CtI 0 mJ0_isEmpty_aae02 [.ref (1000 + i0)] h Q := by
  refine Ct.of (by decide +kernel) (Nat.le_of_ble_eq_true rfl) ?_
  show GoI 0 mJ0_isEmpty_aae02 0 [(0, .ref (1000 + i0))] [] h Q
  refine go_aload_n (pc2 := 1) dJ0_isEmpty_aae02_0 rfl rfl rfl ?_
  refine go_sval (pc2 := 4) (i := i0) hi0 rfl dJ0_isEmpty_aae02_1 rfl w_1650 ?_
  refine go_slen (pc2 := 5) (i := i0) hi0 dJ0_isEmpty_aae02_4 rfl ?_
  have J : GoI 0 mJ0_isEmpty_aae02 13 [(0, .ref (1000 + i0))] [.int (if (nI (st_len.getD i0 0)) = 0 then (1 : Int32) else (0 : Int32))] h Q := by
    exact go_iret dJ0_isEmpty_aae02_13 ⟨_, rfl, congrArg Value.int ite_b⟩ ⟨rfl, _, rfl, k⟩
  refine go_if_ne (pc2 := 8) (tgt := 12) dJ0_isEmpty_aae02_5 rfl (by decide) (fun c => ?_) (fun c => ?_)
  · rw [if_neg c] at J
    exact go_iconst (pc2 := 13) dJ0_isEmpty_aae02_12 rfl (by decide) J
  · rw [if_pos c] at J
    exact go_iconst (pc2 := 9) dJ0_isEmpty_aae02_8 rfl (by decide) (go_goto (tgt := 13) dJ0_isEmpty_aae02_9 (by decide) J)
theorem e_J0_charAt_5068e {i0 : Nat} {x1 : Int32} {h : Hp} {Q : Int32 → Hp → Prop} (hi0 : i0 < 6) (k : (∃ Q1, CtI 0 mJ0_isLatin1_aae02 [.ref (1000 + i0)] h Q1 ∧ ∀ (v3 : Int32) (h4 : Hp), Q1 v3 h4 → ((v3 = 0 → (∃ Q6, CtI 3 mJ2_charAt_3b067 [.ref (1100 + i0), .int x1] h4 Q6 ∧ ∀ (v8 : Int32) (h9 : Hp), Q6 v8 h9 → ((v8).toUInt32.toUInt16.toUInt32.toInt32 = v8 ∧ Q v8 h9))) ∧ (¬ v3 = 0 → (∃ Q12, CtI 2 mJ1_charAt_3b067 [.ref (1100 + i0), .int x1] h4 Q12 ∧ ∀ (v14 : Int32) (h15 : Hp), Q12 v14 h15 → ((v14).toUInt32.toUInt16.toUInt32.toInt32 = v14 ∧ Q v14 h15)))))) : CtI 4 mJ0_charAt_5068e [.ref (1000 + i0), .int x1] h Q := by
  refine Ct.of (by decide +kernel) (Nat.le_of_ble_eq_true rfl) ?_
  show GoI 4 mJ0_charAt_5068e 0 [(0, .ref (1000 + i0)), (1, .int x1)] [] h Q
  refine go_aload_n (pc2 := 1) dJ0_charAt_5068e_0 rfl rfl rfl ?_
  obtain ⟨Q1, hC2, k⟩ := k
  refine gcVS_I (pc2 := 4) (dC := 0) (i := i0) (As := []) (st := []) hi0 rfl dJ0_charAt_5068e_1 rfl w_475 ok_J0_isLatin1_aae02 vi_J0_isLatin1_aae02 rfl rfl (by decide) (Nat.le_of_ble_eq_true rfl) hC2 (fun v3 h4 hq5 => ?_)
  have k := k v3 h4 hq5
  refine go_if_eq (pc2 := 7) (tgt := 16) dJ0_charAt_5068e_4 rfl (by decide) (fun c => ?_) (fun c => ?_)
  · have k := k.1 c
    refine go_aload_n (pc2 := 17) dJ0_charAt_5068e_16 rfl rfl rfl ?_
    refine go_sval (pc2 := 20) (i := i0) hi0 rfl dJ0_charAt_5068e_17 rfl w_1650 ?_
    refine go_iload_n (pc2 := 21) dJ0_charAt_5068e_20 rfl rfl rfl ?_
    obtain ⟨Q6, hC7, k⟩ := k
    refine gcS_I (pc2 := 24) (dC := 3) (As := [.ref (1100 + i0), .int x1]) (st := []) rfl dJ0_charAt_5068e_21 rfl w_490 ok_J2_charAt_3b067 w_491 rfl (by decide) (Nat.le_of_ble_eq_true rfl) hC7 (fun v8 h9 hq10 => ?_)
    have k := k v8 h9 hq10
    obtain ⟨y11, k⟩ := k
    exact go_iret dJ0_charAt_5068e_24 ⟨_, rfl, congrArg Value.int y11⟩ ⟨rfl, _, rfl, k⟩
  · have k := k.2 c
    refine go_aload_n (pc2 := 8) dJ0_charAt_5068e_7 rfl rfl rfl ?_
    refine go_sval (pc2 := 11) (i := i0) hi0 rfl dJ0_charAt_5068e_8 rfl w_1650 ?_
    refine go_iload_n (pc2 := 12) dJ0_charAt_5068e_11 rfl rfl rfl ?_
    obtain ⟨Q12, hC13, k⟩ := k
    refine gcS_I (pc2 := 15) (dC := 2) (As := [.ref (1100 + i0), .int x1]) (st := []) rfl dJ0_charAt_5068e_12 rfl w_479 ok_J1_charAt_3b067 w_480 rfl (by decide) (Nat.le_of_ble_eq_true rfl) hC13 (fun v14 h15 hq16 => ?_)
    have k := k v14 h15 hq16
    obtain ⟨y17, k⟩ := k
    exact go_iret dJ0_charAt_5068e_15 ⟨_, rfl, congrArg Value.int y17⟩ ⟨rfl, _, rfl, k⟩
theorem e_J0_coder_7d493 {i0 : Nat} {h : Hp} {Q : Int32 → Hp → Prop} (hi0 : i0 < 6) (k : (((1 : Int32) = 0 → (((1 : Int32)).toInt8.toInt32 = (1 : Int32) ∧ Q (1 : Int32) h)) ∧ (¬ (1 : Int32) = 0 → (((0 : Int32)).toInt8.toInt32 = (0 : Int32) ∧ Q (0 : Int32) h)))) : CtI 0 mJ0_coder_7d493 [.ref (1000 + i0)] h Q := by
  refine Ct.of (by decide +kernel) (Nat.le_of_ble_eq_true rfl) ?_
  show GoI 0 mJ0_coder_7d493 0 [(0, .ref (1000 + i0))] [] h Q
  refine go_compact (pc2 := 3) rfl dJ0_coder_7d493_0 rfl w_469 ?_
  refine go_if_eq (pc2 := 6) (tgt := 13) dJ0_coder_7d493_3 rfl (by decide) (fun c => ?_) (fun c => ?_)
  · have k := k.1 c
    refine go_iconst (pc2 := 14) (v := (1 : Int32)) dJ0_coder_7d493_13 rfl (by decide) ?_
    obtain ⟨y1, k⟩ := k
    exact go_iret dJ0_coder_7d493_14 ⟨_, rfl, congrArg Value.int y1⟩ ⟨rfl, _, rfl, k⟩
  · have k := k.2 c
    refine go_aload_n (pc2 := 7) dJ0_coder_7d493_6 rfl rfl rfl ?_
    refine go_scod (pc2 := 10) (i := i0) hi0 rfl dJ0_coder_7d493_7 rfl w_1651 ?_
    refine go_goto (tgt := 14) dJ0_coder_7d493_10 (by decide) ?_
    obtain ⟨y2, k⟩ := k
    exact go_iret dJ0_coder_7d493_14 ⟨_, rfl, congrArg Value.int y2⟩ ⟨rfl, _, rfl, k⟩
theorem e_J0_isLatin1_aae02 {i0 : Nat} {h : Hp} {Q : Int32 → Hp → Prop} (hi0 : i0 < 6) (k : (((1 : Int32) = 0 → Q (0 : Int32) h) ∧ (¬ (1 : Int32) = 0 → ((¬ (0 : Int32) = 0 → Q (0 : Int32) h) ∧ ((0 : Int32) = 0 → Q (1 : Int32) h))))) : CtI 0 mJ0_isLatin1_aae02 [.ref (1000 + i0)] h Q := by
  refine Ct.of (by decide +kernel) (Nat.le_of_ble_eq_true rfl) ?_
  show GoI 0 mJ0_isLatin1_aae02 0 [(0, .ref (1000 + i0))] [] h Q
  refine go_compact (pc2 := 3) rfl dJ0_isLatin1_aae02_0 rfl w_469 ?_
  refine go_if_eq (pc2 := 6) (tgt := 17) dJ0_isLatin1_aae02_3 rfl (by decide) (fun c => ?_) (fun c => ?_)
  · have k := k.1 c
    refine go_iconst (pc2 := 18) (v := (0 : Int32)) dJ0_isLatin1_aae02_17 rfl (by decide) ?_
    exact go_iret dJ0_isLatin1_aae02_18 ⟨_, rfl, rfl⟩ ⟨rfl, _, rfl, k⟩
  · have k := k.2 c
    refine go_aload_n (pc2 := 7) dJ0_isLatin1_aae02_6 rfl rfl rfl ?_
    refine go_scod (pc2 := 10) (i := i0) hi0 rfl dJ0_isLatin1_aae02_7 rfl w_1651 ?_
    refine go_if_ne (pc2 := 13) (tgt := 17) dJ0_isLatin1_aae02_10 rfl (by decide) (fun c => ?_) (fun c => ?_)
    · have k := k.1 c
      refine go_iconst (pc2 := 18) (v := (0 : Int32)) dJ0_isLatin1_aae02_17 rfl (by decide) ?_
      exact go_iret dJ0_isLatin1_aae02_18 ⟨_, rfl, rfl⟩ ⟨rfl, _, rfl, k⟩
    · have k := k.2 c
      refine go_iconst (pc2 := 14) (v := (1 : Int32)) dJ0_isLatin1_aae02_13 rfl (by decide) ?_
      refine go_goto (tgt := 18) dJ0_isLatin1_aae02_14 (by decide) ?_
      exact go_iret dJ0_isLatin1_aae02_18 ⟨_, rfl, rfl⟩ ⟨rfl, _, rfl, k⟩
theorem e_J0_checkIndex_df160 {x0 : Int32} {x1 : Int32} {h : Hp} {Q : Hp → Prop}  (k : (∃ Q1, CtI 0 mJ3_checkIndex_8e157 [.int x0, .int x1, .ref 901] h Q1 ∧ CtI 0 mJ3_checkIndex_8e157 [.int x0, .int x1, .null] h Q1 ∧ ∀ (v3 : Int32) (h4 : Hp), Q1 v3 h4 → Q h4)) : CtV 1 mJ0_checkIndex_df160 [.int x0, .int x1] h Q := by
  refine Ct.of (by decide +kernel) (Nat.le_of_ble_eq_true rfl) ?_
  show GoV 1 mJ0_checkIndex_df160 0 [(0, .int x0), (1, .int x1)] [] h Q
  refine go_iload_n (pc2 := 1) dJ0_checkIndex_df160_0 rfl rfl rfl ?_
  refine go_iload_n (pc2 := 2) dJ0_checkIndex_df160_1 rfl rfl rfl ?_
  obtain ⟨Q1, hC2, hC3, k⟩ := k
  refine go_sioobe (pc2 := 5) rfl dJ0_checkIndex_df160_2 rfl w_485 ?_ ?_
  · refine gcS_I (pc2 := 8) (dC := 0) (As := [.int x0, .int x1, .ref 901]) (st := []) rfl dJ0_checkIndex_df160_5 rfl w_487 ok_J3_checkIndex_8e157 w_488 rfl (by decide) (Nat.le_of_ble_eq_true rfl) hC2 (fun v3 h4 hq5 => ?_)
    have k := k v3 h4 hq5
    refine go_pop (pc2 := 9) dJ0_checkIndex_df160_8 rfl rfl ?_
    exact go_ret dJ0_checkIndex_df160_9 rfl ⟨rfl, rfl, k⟩
  · refine gcS_I (pc2 := 8) (dC := 0) (As := [.int x0, .int x1, .null]) (st := []) rfl dJ0_checkIndex_df160_5 rfl w_487 ok_J3_checkIndex_8e157 w_488 rfl (by decide) (Nat.le_of_ble_eq_true rfl) hC3 (fun v3 h4 hq5 => ?_)
    have k := k v3 h4 hq5
    refine go_pop (pc2 := 9) dJ0_checkIndex_df160_8 rfl rfl ?_
    exact go_ret dJ0_checkIndex_df160_9 rfl ⟨rfl, rfl, k⟩
theorem e_J1_charAt_3b067 {i0 : Nat} {x1 : Int32} {h : Hp} {Q : Int32 → Hp → Prop} (hi0 : i0 < 6) (k : (∃ Q1, CtV 1 mJ0_checkIndex_df160 [.int x1, .int (nI (st_len.getD i0 0))] h Q1 ∧ ∀ h4 : Hp, Q1 h4 → (vp_in x1 (st_len.getD i0 0) ∧ ((((((((st_byt.getD i0 []).getD (x1).toNatClampNeg 0) &&& (255 : Int32))).toUInt32 % 65536).toInt32)).toUInt32.toUInt16.toUInt32.toInt32 = ((((((st_byt.getD i0 []).getD (x1).toNatClampNeg 0) &&& (255 : Int32))).toUInt32 % 65536).toInt32) ∧ Q ((((((st_byt.getD i0 []).getD (x1).toNatClampNeg 0) &&& (255 : Int32))).toUInt32 % 65536).toInt32) h4)))) : CtI 2 mJ1_charAt_3b067 [.ref (1100 + i0), .int x1] h Q := by
  refine Ct.of (by decide +kernel) (Nat.le_of_ble_eq_true rfl) ?_
  show GoI 2 mJ1_charAt_3b067 0 [(0, .ref (1100 + i0)), (1, .int x1)] [] h Q
  refine go_iload_n (pc2 := 1) dJ1_charAt_3b067_0 rfl rfl rfl ?_
  refine go_aload_n (pc2 := 2) dJ1_charAt_3b067_1 rfl rfl rfl ?_
  refine go_slen (pc2 := 3) (i := i0) hi0 dJ1_charAt_3b067_2 rfl ?_
  obtain ⟨Q1, hC2, k⟩ := k
  refine gcS_V (pc2 := 6) (dC := 1) (As := [.int x1, .int (nI (st_len.getD i0 0))]) (st := []) rfl dJ1_charAt_3b067_3 rfl w_482 ok_J0_checkIndex_df160 w_483 rfl (by decide) (Nat.le_of_ble_eq_true rfl) hC2 (fun h4 hq5 => ?_)
  have k := k h4 hq5
  refine go_aload_n (pc2 := 7) dJ1_charAt_3b067_6 rfl rfl rfl ?_
  refine go_iload_n (pc2 := 8) dJ1_charAt_3b067_7 rfl rfl rfl ?_
  obtain ⟨y6, k⟩ := k
  refine go_sbld (pc2 := 9) (i := i0) hi0 dJ1_charAt_3b067_8 rfl y6 rfl ?_
  refine go_sipush (pc2 := 12) (v := (255 : Int32)) dJ1_charAt_3b067_9 rfl (by decide) ?_
  refine go_iand (pc2 := 13) dJ1_charAt_3b067_12 rfl ?_
  refine go_i2c (pc2 := 14) (v := ((((((st_byt.getD i0 []).getD (x1).toNatClampNeg 0) &&& (255 : Int32))).toUInt32 % 65536).toInt32)) dJ1_charAt_3b067_13 rfl rfl ?_
  obtain ⟨y7, k⟩ := k
  exact go_iret dJ1_charAt_3b067_14 ⟨_, rfl, congrArg Value.int y7⟩ ⟨rfl, _, rfl, k⟩
theorem e_J2_getChar_3b067 {i0 : Nat} {x1 : Int32} {h : Hp} {Q : Int32 → Hp → Prop} (hi0 : i0 < 6) (k : False) : CtI 1 mJ2_getChar_3b067 [.ref (1100 + i0), .int x1] h Q := by
  refine Ct.of (by decide +kernel) (Nat.le_of_ble_eq_true rfl) ?_
  show GoI 1 mJ2_getChar_3b067 0 [(0, .ref (1100 + i0)), (1, .int x1)] [] h Q
  exact k.elim
theorem e_J2_length_9d52b {i0 : Nat} {h : Hp} {Q : Int32 → Hp → Prop} (hi0 : i0 < 6) (k : Q ((nI (st_len.getD i0 0)) >>> ((1 : Int32) &&& 31)) h) : CtI 0 mJ2_length_9d52b [.ref (1100 + i0)] h Q := by
  refine Ct.of (by decide +kernel) (Nat.le_of_ble_eq_true rfl) ?_
  show GoI 0 mJ2_length_9d52b 0 [(0, .ref (1100 + i0))] [] h Q
  refine go_aload_n (pc2 := 1) dJ2_length_9d52b_0 rfl rfl rfl ?_
  refine go_slen (pc2 := 2) (i := i0) hi0 dJ2_length_9d52b_1 rfl ?_
  refine go_iconst (pc2 := 3) (v := (1 : Int32)) dJ2_length_9d52b_2 rfl (by decide) ?_
  refine go_ishr (pc2 := 4) dJ2_length_9d52b_3 rfl ?_
  exact go_iret dJ2_length_9d52b_4 ⟨_, rfl, rfl⟩ ⟨rfl, _, rfl, k⟩
theorem e_J2_charAt_3b067 {i0 : Nat} {x1 : Int32} {h : Hp} {Q : Int32 → Hp → Prop} (hi0 : i0 < 6) (k : (∃ Q1, CtV 2 mJ2_checkIndex_2214a [.int x1, .ref (1100 + i0)] h Q1 ∧ ∀ h4 : Hp, Q1 h4 → (∃ Q6, CtI 1 mJ2_getChar_3b067 [.ref (1100 + i0), .int x1] h4 Q6 ∧ ∀ (v8 : Int32) (h9 : Hp), Q6 v8 h9 → ((v8).toUInt32.toUInt16.toUInt32.toInt32 = v8 ∧ Q v8 h9)))) : CtI 3 mJ2_charAt_3b067 [.ref (1100 + i0), .int x1] h Q := by
  refine Ct.of (by decide +kernel) (Nat.le_of_ble_eq_true rfl) ?_
  show GoI 3 mJ2_charAt_3b067 0 [(0, .ref (1100 + i0)), (1, .int x1)] [] h Q
  refine go_iload_n (pc2 := 1) dJ2_charAt_3b067_0 rfl rfl rfl ?_
  refine go_aload_n (pc2 := 2) dJ2_charAt_3b067_1 rfl rfl rfl ?_
  obtain ⟨Q1, hC2, k⟩ := k
  refine gcS_V (pc2 := 5) (dC := 2) (As := [.int x1, .ref (1100 + i0)]) (st := []) rfl dJ2_charAt_3b067_2 rfl w_493 ok_J2_checkIndex_2214a w_494 rfl (by decide) (Nat.le_of_ble_eq_true rfl) hC2 (fun h4 hq5 => ?_)
  have k := k h4 hq5
  refine go_aload_n (pc2 := 6) dJ2_charAt_3b067_5 rfl rfl rfl ?_
  refine go_iload_n (pc2 := 7) dJ2_charAt_3b067_6 rfl rfl rfl ?_
  obtain ⟨Q6, hC7, k⟩ := k
  refine gcS_I (pc2 := 10) (dC := 1) (As := [.ref (1100 + i0), .int x1]) (st := []) rfl dJ2_charAt_3b067_7 rfl w_500 ok_J2_getChar_3b067 w_501 rfl (by decide) (Nat.le_of_ble_eq_true rfl) hC7 (fun v8 h9 hq10 => ?_)
  have k := k v8 h9 hq10
  obtain ⟨y11, k⟩ := k
  exact go_iret dJ2_charAt_3b067_10 ⟨_, rfl, congrArg Value.int y11⟩ ⟨rfl, _, rfl, k⟩
theorem e_J2_checkIndex_2214a {x0 : Int32} {i1 : Nat} {h : Hp} {Q : Hp → Prop} (hi1 : i1 < 6) (k : (∃ Q1, CtI 0 mJ2_length_9d52b [.ref (1100 + i1)] h Q1 ∧ ∀ (v3 : Int32) (h4 : Hp), Q1 v3 h4 → (∃ Q6, CtV 1 mJ0_checkIndex_df160 [.int x0, .int v3] h4 Q6 ∧ ∀ h9 : Hp, Q6 h9 → Q h9))) : CtV 2 mJ2_checkIndex_2214a [.int x0, .ref (1100 + i1)] h Q := by
  refine Ct.of (by decide +kernel) (Nat.le_of_ble_eq_true rfl) ?_
  show GoV 2 mJ2_checkIndex_2214a 0 [(0, .int x0), (1, .ref (1100 + i1))] [] h Q
  refine go_iload_n (pc2 := 1) dJ2_checkIndex_2214a_0 rfl rfl rfl ?_
  refine go_aload_n (pc2 := 2) dJ2_checkIndex_2214a_1 rfl rfl rfl ?_
  obtain ⟨Q1, hC2, k⟩ := k
  refine gcS_I (pc2 := 5) (dC := 0) (As := [.ref (1100 + i1)]) (st := [.int x0]) rfl dJ2_checkIndex_2214a_2 rfl w_496 ok_J2_length_9d52b w_497 rfl (by decide) (Nat.le_of_ble_eq_true rfl) hC2 (fun v3 h4 hq5 => ?_)
  have k := k v3 h4 hq5
  obtain ⟨Q6, hC7, k⟩ := k
  refine gcS_V (pc2 := 8) (dC := 1) (As := [.int x0, .int v3]) (st := []) rfl dJ2_checkIndex_2214a_5 rfl w_499 ok_J0_checkIndex_df160 w_483 rfl (by decide) (Nat.le_of_ble_eq_true rfl) hC7 (fun h9 hq10 => ?_)
  have k := k h9 hq10
  exact go_ret dJ2_checkIndex_2214a_8 rfl ⟨rfl, rfl, k⟩
theorem e_J7_rangeCheck_23922 {x0 : Int32} {x1 : Int32} {x2 : Int32} {h : Hp} {Q : Hp → Prop}  (k : ((x1 ≤ x2 → ((0 ≤ x1 → ((x2 ≤ x0 → Q h) ∧ (¬ (x2 ≤ x0) → False))) ∧ (¬ (0 ≤ x1) → False))) ∧ (¬ (x1 ≤ x2) → False))) : CtV 0 mJ7_rangeCheck_23922 [.int x0, .int x1, .int x2] h Q := by
  refine Ct.of (by decide +kernel) (Nat.le_of_ble_eq_true rfl) ?_
  show GoV 0 mJ7_rangeCheck_23922 0 [(0, .int x0), (1, .int x1), (2, .int x2)] [] h Q
  refine go_iload_n (pc2 := 1) dJ7_rangeCheck_23922_0 rfl rfl rfl ?_
  refine go_iload_n (pc2 := 2) dJ7_rangeCheck_23922_1 rfl rfl rfl ?_
  refine go_icmp_le (pc2 := 5) (tgt := 46) dJ7_rangeCheck_23922_2 rfl (by decide) (fun c => ?_) (fun c => ?_)
  · have k := k.1 c
    refine go_iload_n (pc2 := 47) dJ7_rangeCheck_23922_46 rfl rfl rfl ?_
    refine go_if_ge (pc2 := 50) (tgt := 59) dJ7_rangeCheck_23922_47 rfl (by decide) (fun c => ?_) (fun c => ?_)
    · have k := k.1 c
      refine go_iload_n (pc2 := 60) dJ7_rangeCheck_23922_59 rfl rfl rfl ?_
      refine go_iload_n (pc2 := 61) dJ7_rangeCheck_23922_60 rfl rfl rfl ?_
      refine go_icmp_le (pc2 := 64) (tgt := 73) dJ7_rangeCheck_23922_61 rfl (by decide) (fun c => ?_) (fun c => ?_)
      · have k := k.1 c
        exact go_ret dJ7_rangeCheck_23922_73 rfl ⟨rfl, rfl, k⟩
      · have k := k.2 c
        exact k.elim
    · have k := k.2 c
      exact k.elim
  · have k := k.2 c
    exact k.elim
theorem e_J7_fill_53178 {x0 : Nat} {n0 : Nat} {x1 : Int32} {h : Hp} {Q : Hp → Prop} (hx0 : w0.2[x0]? = some (100, n0)) (k : GoV 0 mJ7_fill_53178 5 [(0, .ref x0), (1, .int x1), (2, .int (0 : Int32)), (3, .int (nI n0))] [] h Q) : CtV 0 mJ7_fill_53178 [.ref x0, .int x1] h Q := by
  refine Ct.of (by decide +kernel) (Nat.le_of_ble_eq_true rfl) ?_
  show GoV 0 mJ7_fill_53178 0 [(0, .ref x0), (1, .int x1)] [] h Q
  refine go_iconst (pc2 := 1) (v := (0 : Int32)) dJ7_fill_53178_0 rfl (by decide) ?_
  refine go_istore_n (pc2 := 2) (ls2 := [(0, .ref x0), (1, .int x1), (2, .int (0 : Int32))]) dJ7_fill_53178_1 rfl rfl rfl rfl rfl rfl ?_
  refine go_aload_n (pc2 := 3) dJ7_fill_53178_2 rfl rfl rfl ?_
  refine go_alen (pc2 := 4) (c0 := 0) dJ7_fill_53178_3 rfl hx0 ?_
  refine go_istore_n (pc2 := 5) (ls2 := [(0, .ref x0), (1, .int x1), (2, .int (0 : Int32)), (3, .int (nI n0))]) dJ7_fill_53178_4 rfl rfl rfl rfl rfl rfl ?_
  exact k
theorem b_J7_fill_53178_5 {n0 : Nat} {x0 : Nat} {x1 : Int32} {x2 : Int32} {x3 : Int32} {h : Hp} {Q : Hp → Prop} (hx0 : w0.2[x0]? = some (100, n0)) (k : ((x3 ≤ x2 → Q h) ∧ (¬ (x3 ≤ x2) → (vp_in x2 n0 ∧ (∀ g2 : Hp, g2 = (ui h x0 (x2).toNatClampNeg x1) → GoV 0 mJ7_fill_53178 5 [(0, .ref x0), (1, .int x1), (2, .int (x2 + 1)), (3, .int x3)] [] g2 Q))))) : GoV 0 mJ7_fill_53178 5 [(0, .ref x0), (1, .int x1), (2, .int x2), (3, .int x3)] [] h Q := by
  refine go_iload_n (pc2 := 6) dJ7_fill_53178_5 rfl rfl rfl ?_
  refine go_iload_n (pc2 := 7) dJ7_fill_53178_6 rfl rfl rfl ?_
  refine go_icmp_ge (pc2 := 10) (tgt := 20) dJ7_fill_53178_7 rfl (by decide) (fun c => ?_) (fun c => ?_)
  · have k := k.1 c
    exact go_ret dJ7_fill_53178_20 rfl ⟨rfl, rfl, k⟩
  · have k := k.2 c
    refine go_aload_n (pc2 := 11) dJ7_fill_53178_10 rfl rfl rfl ?_
    refine go_iload_n (pc2 := 12) dJ7_fill_53178_11 rfl rfl rfl ?_
    refine go_iload_n (pc2 := 13) dJ7_fill_53178_12 rfl rfl rfl ?_
    obtain ⟨y1, k⟩ := k
    refine go_iastore (pc2 := 14) (j := (x2).toNatClampNeg) dJ7_fill_53178_13 rfl hx0 y1 rfl ?_
    obtain ⟨g2, eg2⟩ : ∃ y : Hp, y = (ui h x0 (x2).toNatClampNeg x1) := ⟨_, rfl⟩
    rw [← eg2]
    have k := k g2 eg2
    refine go_iinc (pc2 := 17) (ls2 := [(0, .ref x0), (1, .int x1), (2, .int (x2 + 1)), (3, .int x3)]) (v := (x2 + 1)) dJ7_fill_53178_14 rfl rfl rfl rfl rfl rfl rfl ?_
    refine go_goto (tgt := 5) dJ7_fill_53178_17 (by decide) ?_
    exact k
theorem e_J7_fill_fda19 {x0 : Nat} {n0 : Nat} {x1 : Int32} {x2 : Int32} {x3 : Int32} {h : Hp} {Q : Hp → Prop} (hx0 : w0.2[x0]? = some (100, n0)) (k : (∃ Q1, CtV 0 mJ7_rangeCheck_23922 [.int (nI n0), .int x1, .int x2] h Q1 ∧ ∀ h4 : Hp, Q1 h4 → GoV 1 mJ7_fill_fda19 10 [(0, .ref x0), (2, .int x2), (3, .int x3), (4, .int x1)] [] h4 Q)) : CtV 1 mJ7_fill_fda19 [.ref x0, .int x1, .int x2, .int x3] h Q := by
  refine Ct.of (by decide +kernel) (Nat.le_of_ble_eq_true rfl) ?_
  show GoV 1 mJ7_fill_fda19 0 [(0, .ref x0), (1, .int x1), (2, .int x2), (3, .int x3)] [] h Q
  refine go_aload_n (pc2 := 1) dJ7_fill_fda19_0 rfl rfl rfl ?_
  refine go_alen (pc2 := 2) (c0 := 0) dJ7_fill_fda19_1 rfl hx0 ?_
  refine go_iload_n (pc2 := 3) dJ7_fill_fda19_2 rfl rfl rfl ?_
  refine go_iload_n (pc2 := 4) dJ7_fill_fda19_3 rfl rfl rfl ?_
  obtain ⟨Q1, hC2, k⟩ := k
  refine gcS_V (pc2 := 7) (dC := 0) (As := [.int (nI n0), .int x1, .int x2]) (st := []) rfl dJ7_fill_fda19_4 rfl w_743 ok_J7_rangeCheck_23922 w_744 rfl (by decide) (Nat.le_of_ble_eq_true rfl) hC2 (fun h4 hq5 => ?_)
  have k := k h4 hq5
  refine go_iload_n (pc2 := 8) dJ7_fill_fda19_7 rfl rfl rfl ?_
  refine go_istore (pc2 := 10) (ls2 := [(0, .ref x0), (1, .int x1), (2, .int x2), (3, .int x3), (4, .int x1)]) dJ7_fill_fda19_8 rfl rfl rfl rfl rfl ?_
  exact Go.pick [0, 2, 3, 4] rfl k
theorem b_J7_fill_fda19_10 {n0 : Nat} {x0 : Nat} {x2 : Int32} {x3 : Int32} {x4 : Int32} {h : Hp} {Q : Hp → Prop} (hx0 : w0.2[x0]? = some (100, n0)) (k : ((x2 ≤ x4 → Q h) ∧ (¬ (x2 ≤ x4) → (vp_in x4 n0 ∧ (∀ g2 : Hp, g2 = (ui h x0 (x4).toNatClampNeg x3) → GoV 1 mJ7_fill_fda19 10 [(0, .ref x0), (2, .int x2), (3, .int x3), (4, .int (x4 + 1))] [] g2 Q))))) : GoV 1 mJ7_fill_fda19 10 [(0, .ref x0), (2, .int x2), (3, .int x3), (4, .int x4)] [] h Q := by
  refine go_iload (pc2 := 12) dJ7_fill_fda19_10 rfl rfl ?_
  refine go_iload_n (pc2 := 13) dJ7_fill_fda19_12 rfl rfl rfl ?_
  refine go_icmp_ge (pc2 := 16) (tgt := 27) dJ7_fill_fda19_13 rfl (by decide) (fun c => ?_) (fun c => ?_)
  · have k := k.1 c
    exact go_ret dJ7_fill_fda19_27 rfl ⟨rfl, rfl, k⟩
  · have k := k.2 c
    refine go_aload_n (pc2 := 17) dJ7_fill_fda19_16 rfl rfl rfl ?_
    refine go_iload (pc2 := 19) dJ7_fill_fda19_17 rfl rfl ?_
    refine go_iload_n (pc2 := 20) dJ7_fill_fda19_19 rfl rfl rfl ?_
    obtain ⟨y1, k⟩ := k
    refine go_iastore (pc2 := 21) (j := (x4).toNatClampNeg) dJ7_fill_fda19_20 rfl hx0 y1 rfl ?_
    obtain ⟨g2, eg2⟩ : ∃ y : Hp, y = (ui h x0 (x4).toNatClampNeg x3) := ⟨_, rfl⟩
    rw [← eg2]
    have k := k g2 eg2
    refine go_iinc (pc2 := 24) (ls2 := [(0, .ref x0), (2, .int x2), (3, .int x3), (4, .int (x4 + 1))]) (v := (x4 + 1)) dJ7_fill_fda19_21 rfl rfl rfl rfl rfl rfl rfl ?_
    refine go_goto (tgt := 10) dJ7_fill_fda19_24 (by decide) ?_
    exact k
theorem e_J3_checkIndex_8e157 {x0 : Int32} {x1 : Int32} {x2 : Nat} {h : Hp} {Q : Int32 → Hp → Prop}  (k : ((x0 < 0 → False) ∧ (¬ (x0 < 0) → ((x0 < x1 → Q x0 h) ∧ (¬ (x0 < x1) → False))))) : CtI 0 mJ3_checkIndex_8e157 [.int x0, .int x1, .ref x2] h Q := by
  refine Ct.of (by decide +kernel) (Nat.le_of_ble_eq_true rfl) ?_
  show GoI 0 mJ3_checkIndex_8e157 0 [(0, .int x0), (1, .int x1), (2, .ref x2)] [] h Q
  refine go_iload_n (pc2 := 1) dJ3_checkIndex_8e157_0 rfl rfl rfl ?_
  refine go_if_lt (pc2 := 4) (tgt := 9) dJ3_checkIndex_8e157_1 rfl (by decide) (fun c => ?_) (fun c => ?_)
  · have k := k.1 c
    refine go_aload_n (pc2 := 10) dJ3_checkIndex_8e157_9 rfl rfl rfl ?_
    refine go_iload_n (pc2 := 11) dJ3_checkIndex_8e157_10 rfl rfl rfl ?_
    refine go_iload_n (pc2 := 12) dJ3_checkIndex_8e157_11 rfl rfl rfl ?_
    exact k.elim
  · have k := k.2 c
    refine go_iload_n (pc2 := 5) dJ3_checkIndex_8e157_4 rfl rfl rfl ?_
    refine go_iload_n (pc2 := 6) dJ3_checkIndex_8e157_5 rfl rfl rfl ?_
    refine go_icmp_lt (pc2 := 9) (tgt := 16) dJ3_checkIndex_8e157_6 rfl (by decide) (fun c => ?_) (fun c => ?_)
    · have k := k.1 c
      refine go_iload_n (pc2 := 17) dJ3_checkIndex_8e157_16 rfl rfl rfl ?_
      exact go_iret dJ3_checkIndex_8e157_17 ⟨_, rfl, rfl⟩ ⟨rfl, _, rfl, k⟩
    · have k := k.2 c
      refine go_aload_n (pc2 := 10) dJ3_checkIndex_8e157_9 rfl rfl rfl ?_
      refine go_iload_n (pc2 := 11) dJ3_checkIndex_8e157_10 rfl rfl rfl ?_
      refine go_iload_n (pc2 := 12) dJ3_checkIndex_8e157_11 rfl rfl rfl ?_
      exact k.elim
theorem e_J3_checkIndex_null {x0 : Int32} {x1 : Int32} {h : Hp} {Q : Int32 → Hp → Prop}  (k : ((x0 < 0 → False) ∧ (¬ (x0 < 0) → ((x0 < x1 → Q x0 h) ∧ (¬ (x0 < x1) → False))))) : CtI 0 mJ3_checkIndex_8e157 [.int x0, .int x1, .null] h Q := by
  refine Ct.of (by decide +kernel) (Nat.le_of_ble_eq_true rfl) ?_
  show GoI 0 mJ3_checkIndex_8e157 0 [(0, .int x0), (1, .int x1), (2, .null)] [] h Q
  refine go_iload_n (pc2 := 1) dJ3_checkIndex_8e157_0 rfl rfl rfl ?_
  refine go_if_lt (pc2 := 4) (tgt := 9) dJ3_checkIndex_8e157_1 rfl (by decide) (fun c => ?_) (fun c => ?_)
  · have k := k.1 c
    exact k.elim
  · have k := k.2 c
    refine go_iload_n (pc2 := 5) dJ3_checkIndex_8e157_4 rfl rfl rfl ?_
    refine go_iload_n (pc2 := 6) dJ3_checkIndex_8e157_5 rfl rfl rfl ?_
    refine go_icmp_lt (pc2 := 9) (tgt := 16) dJ3_checkIndex_8e157_6 rfl (by decide) (fun c => ?_) (fun c => ?_)
    · have k := k.1 c
      refine go_iload_n (pc2 := 17) dJ3_checkIndex_8e157_16 rfl rfl rfl ?_
      exact go_iret dJ3_checkIndex_8e157_17 ⟨_, rfl, rfl⟩ ⟨rfl, _, rfl, k⟩
    · have k := k.2 c
      exact k.elim
