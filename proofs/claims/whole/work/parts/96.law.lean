theorem b_L_law_18 {x3 : Int32} {h : Hp} {Q : Int32 → Hp → Prop}  (k : ((((h.1 2001 0) - (5 : Int32)) < x3 → Q (1 : Int32) h) ∧ (¬ (((h.1 2001 0) - (5 : Int32)) < x3) → (vp_in x3 (h.1 2001 0).toNatClampNeg ∧ ((((h.1 2000 (x3).toNatClampNeg) &&& (63 : Int32)) = (0 : Int32) → GoI 10 mL_law 240 [(0, .ref 2000), (1, .ref 0), (2, .ref 113), (3, .int x3)] [] h Q) ∧ (¬ ((h.1 2000 (x3).toNatClampNeg) &&& (63 : Int32)) = (0 : Int32) → ((((h.1 2000 (x3).toNatClampNeg) &&& (63 : Int32)) = (1 : Int32) → GoI 10 mL_law 263 [(0, .ref 2000), (1, .ref 0), (2, .ref 113), (3, .int x3)] [] h Q) ∧ (¬ ((h.1 2000 (x3).toNatClampNeg) &&& (63 : Int32)) = (1 : Int32) → ((((h.1 2000 (x3).toNatClampNeg) &&& (63 : Int32)) = (2 : Int32) → GoI 10 mL_law 276 [(0, .ref 2000), (1, .ref 0), (2, .ref 113), (3, .int x3)] [] h Q) ∧ (¬ ((h.1 2000 (x3).toNatClampNeg) &&& (63 : Int32)) = (2 : Int32) → ((((h.1 2000 (x3).toNatClampNeg) &&& (63 : Int32)) = (3 : Int32) → GoI 10 mL_law 299 [(0, .ref 2000), (1, .ref 0), (2, .ref 113), (3, .int x3)] [] h Q) ∧ (¬ ((h.1 2000 (x3).toNatClampNeg) &&& (63 : Int32)) = (3 : Int32) → ((((h.1 2000 (x3).toNatClampNeg) &&& (63 : Int32)) = (4 : Int32) → GoI 10 mL_law 342 [(0, .ref 2000), (1, .ref 0), (2, .ref 113), (3, .int x3)] [] h Q) ∧ (¬ ((h.1 2000 (x3).toNatClampNeg) &&& (63 : Int32)) = (4 : Int32) → ((((h.1 2000 (x3).toNatClampNeg) &&& (63 : Int32)) = (5 : Int32) → GoI 10 mL_law 375 [(0, .ref 2000), (1, .ref 0), (2, .ref 113), (3, .int x3)] [] h Q) ∧ (¬ ((h.1 2000 (x3).toNatClampNeg) &&& (63 : Int32)) = (5 : Int32) → ((((h.1 2000 (x3).toNatClampNeg) &&& (63 : Int32)) = (6 : Int32) → GoI 10 mL_law 418 [(0, .ref 2000), (1, .ref 0), (2, .ref 113), (3, .int x3)] [] h Q) ∧ (¬ ((h.1 2000 (x3).toNatClampNeg) &&& (63 : Int32)) = (6 : Int32) → ((((h.1 2000 (x3).toNatClampNeg) &&& (63 : Int32)) = (7 : Int32) → GoI 10 mL_law 471 [(0, .ref 2000), (1, .ref 0), (2, .ref 113), (3, .int x3)] [] h Q) ∧ (¬ ((h.1 2000 (x3).toNatClampNeg) &&& (63 : Int32)) = (7 : Int32) → ((((h.1 2000 (x3).toNatClampNeg) &&& (63 : Int32)) = (8 : Int32) → GoI 10 mL_law 514 [(0, .ref 2000), (1, .ref 0), (2, .ref 113), (3, .int x3)] [] h Q) ∧ (¬ ((h.1 2000 (x3).toNatClampNeg) &&& (63 : Int32)) = (8 : Int32) → ((((h.1 2000 (x3).toNatClampNeg) &&& (63 : Int32)) = (9 : Int32) → GoI 10 mL_law 547 [(0, .ref 2000), (1, .ref 0), (2, .ref 113), (3, .int x3)] [] h Q) ∧ (¬ ((h.1 2000 (x3).toNatClampNeg) &&& (63 : Int32)) = (9 : Int32) → ((((h.1 2000 (x3).toNatClampNeg) &&& (63 : Int32)) = (10 : Int32) → GoI 10 mL_law 570 [(0, .ref 2000), (1, .ref 0), (2, .ref 113), (3, .int x3)] [] h Q) ∧ (¬ ((h.1 2000 (x3).toNatClampNeg) &&& (63 : Int32)) = (10 : Int32) → ((((h.1 2000 (x3).toNatClampNeg) &&& (63 : Int32)) = (11 : Int32) → GoI 10 mL_law 603 [(0, .ref 2000), (1, .ref 0), (2, .ref 113), (3, .int x3)] [] h Q) ∧ (¬ ((h.1 2000 (x3).toNatClampNeg) &&& (63 : Int32)) = (11 : Int32) → ((((h.1 2000 (x3).toNatClampNeg) &&& (63 : Int32)) = (12 : Int32) → GoI 10 mL_law 636 [(0, .ref 2000), (1, .ref 0), (2, .ref 113), (3, .int x3)] [] h Q) ∧ (¬ ((h.1 2000 (x3).toNatClampNeg) &&& (63 : Int32)) = (12 : Int32) → ((((h.1 2000 (x3).toNatClampNeg) &&& (63 : Int32)) = (13 : Int32) → GoI 10 mL_law 669 [(0, .ref 2000), (1, .ref 0), (2, .ref 113), (3, .int x3)] [] h Q) ∧ (¬ ((h.1 2000 (x3).toNatClampNeg) &&& (63 : Int32)) = (13 : Int32) → ((((h.1 2000 (x3).toNatClampNeg) &&& (63 : Int32)) = (14 : Int32) → GoI 10 mL_law 702 [(0, .ref 2000), (1, .ref 0), (2, .ref 113), (3, .int x3)] [] h Q) ∧ (¬ ((h.1 2000 (x3).toNatClampNeg) &&& (63 : Int32)) = (14 : Int32) → ((((h.1 2000 (x3).toNatClampNeg) &&& (63 : Int32)) = (15 : Int32) → GoI 10 mL_law 735 [(0, .ref 2000), (1, .ref 0), (2, .ref 113), (3, .int x3)] [] h Q) ∧ (¬ ((h.1 2000 (x3).toNatClampNeg) &&& (63 : Int32)) = (15 : Int32) → ((((h.1 2000 (x3).toNatClampNeg) &&& (63 : Int32)) = (16 : Int32) → GoI 10 mL_law 778 [(0, .ref 2000), (1, .ref 0), (2, .ref 113), (3, .int x3)] [] h Q) ∧ (¬ ((h.1 2000 (x3).toNatClampNeg) &&& (63 : Int32)) = (16 : Int32) → ((((h.1 2000 (x3).toNatClampNeg) &&& (63 : Int32)) = (17 : Int32) → GoI 10 mL_law 791 [(0, .ref 2000), (1, .ref 0), (2, .ref 113), (3, .int x3)] [] h Q) ∧ (¬ ((h.1 2000 (x3).toNatClampNeg) &&& (63 : Int32)) = (17 : Int32) → ((((h.1 2000 (x3).toNatClampNeg) &&& (63 : Int32)) = (18 : Int32) → GoI 10 mL_law 814 [(0, .ref 2000), (1, .ref 0), (2, .ref 113), (3, .int x3)] [] h Q) ∧ (¬ ((h.1 2000 (x3).toNatClampNeg) &&& (63 : Int32)) = (18 : Int32) → ((((h.1 2000 (x3).toNatClampNeg) &&& (63 : Int32)) = (19 : Int32) → GoI 10 mL_law 837 [(0, .ref 2000), (1, .ref 0), (2, .ref 113), (3, .int x3)] [] h Q) ∧ (¬ ((h.1 2000 (x3).toNatClampNeg) &&& (63 : Int32)) = (19 : Int32) → ((((h.1 2000 (x3).toNatClampNeg) &&& (63 : Int32)) = (20 : Int32) → GoI 10 mL_law 860 [(0, .ref 2000), (1, .ref 0), (2, .ref 113), (3, .int x3)] [] h Q) ∧ (¬ ((h.1 2000 (x3).toNatClampNeg) &&& (63 : Int32)) = (20 : Int32) → ((((h.1 2000 (x3).toNatClampNeg) &&& (63 : Int32)) = (21 : Int32) → GoI 10 mL_law 883 [(0, .ref 2000), (1, .ref 0), (2, .ref 113), (3, .int x3)] [] h Q) ∧ (¬ ((h.1 2000 (x3).toNatClampNeg) &&& (63 : Int32)) = (21 : Int32) → ((((h.1 2000 (x3).toNatClampNeg) &&& (63 : Int32)) = (22 : Int32) → GoI 10 mL_law 896 [(0, .ref 2000), (1, .ref 0), (2, .ref 113), (3, .int x3)] [] h Q) ∧ (¬ ((h.1 2000 (x3).toNatClampNeg) &&& (63 : Int32)) = (22 : Int32) → ((((h.1 2000 (x3).toNatClampNeg) &&& (63 : Int32)) = (23 : Int32) → GoI 10 mL_law 930 [(0, .ref 2000), (1, .ref 0), (2, .ref 113), (3, .int x3)] [] h Q) ∧ (¬ ((h.1 2000 (x3).toNatClampNeg) &&& (63 : Int32)) = (23 : Int32) → ((((h.1 2000 (x3).toNatClampNeg) &&& (63 : Int32)) = (24 : Int32) → GoI 10 mL_law 954 [(0, .ref 2000), (1, .ref 0), (2, .ref 113), (3, .int x3)] [] h Q) ∧ (¬ ((h.1 2000 (x3).toNatClampNeg) &&& (63 : Int32)) = (24 : Int32) → ((((h.1 2000 (x3).toNatClampNeg) &&& (63 : Int32)) = (25 : Int32) → GoI 10 mL_law 987 [(0, .ref 2000), (1, .ref 0), (2, .ref 113), (3, .int x3)] [] h Q) ∧ (¬ ((h.1 2000 (x3).toNatClampNeg) &&& (63 : Int32)) = (25 : Int32) → ((((h.1 2000 (x3).toNatClampNeg) &&& (63 : Int32)) = (26 : Int32) → GoI 10 mL_law 1010 [(0, .ref 2000), (1, .ref 0), (2, .ref 113), (3, .int x3)] [] h Q) ∧ (¬ ((h.1 2000 (x3).toNatClampNeg) &&& (63 : Int32)) = (26 : Int32) → ((((h.1 2000 (x3).toNatClampNeg) &&& (63 : Int32)) = (27 : Int32) → GoI 10 mL_law 1044 [(0, .ref 2000), (1, .ref 0), (2, .ref 113), (3, .int x3)] [] h Q) ∧ (¬ ((h.1 2000 (x3).toNatClampNeg) &&& (63 : Int32)) = (27 : Int32) → ((((h.1 2000 (x3).toNatClampNeg) &&& (63 : Int32)) = (28 : Int32) → GoI 10 mL_law 1057 [(0, .ref 2000), (1, .ref 0), (2, .ref 113), (3, .int x3)] [] h Q) ∧ (¬ ((h.1 2000 (x3).toNatClampNeg) &&& (63 : Int32)) = (28 : Int32) → ((((h.1 2000 (x3).toNatClampNeg) &&& (63 : Int32)) = (29 : Int32) → GoI 10 mL_law 1091 [(0, .ref 2000), (1, .ref 0), (2, .ref 113), (3, .int x3)] [] h Q) ∧ (¬ ((h.1 2000 (x3).toNatClampNeg) &&& (63 : Int32)) = (29 : Int32) → ((((h.1 2000 (x3).toNatClampNeg) &&& (63 : Int32)) = (30 : Int32) → GoI 10 mL_law 1114 [(0, .ref 2000), (1, .ref 0), (2, .ref 113), (3, .int x3)] [] h Q) ∧ (¬ ((h.1 2000 (x3).toNatClampNeg) &&& (63 : Int32)) = (30 : Int32) → ((((h.1 2000 (x3).toNatClampNeg) &&& (63 : Int32)) = (31 : Int32) → GoI 10 mL_law 1137 [(0, .ref 2000), (1, .ref 0), (2, .ref 113), (3, .int x3)] [] h Q) ∧ (¬ ((h.1 2000 (x3).toNatClampNeg) &&& (63 : Int32)) = (31 : Int32) → ((((h.1 2000 (x3).toNatClampNeg) &&& (63 : Int32)) = (32 : Int32) → GoI 10 mL_law 1160 [(0, .ref 2000), (1, .ref 0), (2, .ref 113), (3, .int x3)] [] h Q) ∧ (¬ ((h.1 2000 (x3).toNatClampNeg) &&& (63 : Int32)) = (32 : Int32) → ((((h.1 2000 (x3).toNatClampNeg) &&& (63 : Int32)) = (33 : Int32) → GoI 10 mL_law 1203 [(0, .ref 2000), (1, .ref 0), (2, .ref 113), (3, .int x3)] [] h Q) ∧ (¬ ((h.1 2000 (x3).toNatClampNeg) &&& (63 : Int32)) = (33 : Int32) → ((((h.1 2000 (x3).toNatClampNeg) &&& (63 : Int32)) = (34 : Int32) → GoI 10 mL_law 1246 [(0, .ref 2000), (1, .ref 0), (2, .ref 113), (3, .int x3)] [] h Q) ∧ (¬ ((h.1 2000 (x3).toNatClampNeg) &&& (63 : Int32)) = (34 : Int32) → ((((h.1 2000 (x3).toNatClampNeg) &&& (63 : Int32)) = (35 : Int32) → GoI 10 mL_law 1279 [(0, .ref 2000), (1, .ref 0), (2, .ref 113), (3, .int x3)] [] h Q) ∧ (¬ ((h.1 2000 (x3).toNatClampNeg) &&& (63 : Int32)) = (35 : Int32) → ((((h.1 2000 (x3).toNatClampNeg) &&& (63 : Int32)) = (36 : Int32) → GoI 10 mL_law 1322 [(0, .ref 2000), (1, .ref 0), (2, .ref 113), (3, .int x3)] [] h Q) ∧ (¬ ((h.1 2000 (x3).toNatClampNeg) &&& (63 : Int32)) = (36 : Int32) → ((((h.1 2000 (x3).toNatClampNeg) &&& (63 : Int32)) = (37 : Int32) → GoI 10 mL_law 1355 [(0, .ref 2000), (1, .ref 0), (2, .ref 113), (3, .int x3)] [] h Q) ∧ (¬ ((h.1 2000 (x3).toNatClampNeg) &&& (63 : Int32)) = (37 : Int32) → ((((h.1 2000 (x3).toNatClampNeg) &&& (63 : Int32)) = (38 : Int32) → GoI 10 mL_law 1448 [(0, .ref 2000), (1, .ref 0), (2, .ref 113), (3, .int x3)] [] h Q) ∧ (¬ ((h.1 2000 (x3).toNatClampNeg) &&& (63 : Int32)) = (38 : Int32) → ((((h.1 2000 (x3).toNatClampNeg) &&& (63 : Int32)) = (39 : Int32) → GoI 10 mL_law 1462 [(0, .ref 2000), (1, .ref 0), (2, .ref 113), (3, .int x3)] [] h Q) ∧ (¬ ((h.1 2000 (x3).toNatClampNeg) &&& (63 : Int32)) = (39 : Int32) → ((((h.1 2000 (x3).toNatClampNeg) &&& (63 : Int32)) = (40 : Int32) → GoI 10 mL_law 1485 [(0, .ref 2000), (1, .ref 0), (2, .ref 113), (3, .int x3)] [] h Q) ∧ (¬ ((h.1 2000 (x3).toNatClampNeg) &&& (63 : Int32)) = (40 : Int32) → ((((h.1 2000 (x3).toNatClampNeg) &&& (63 : Int32)) = (41 : Int32) → GoI 10 mL_law 1528 [(0, .ref 2000), (1, .ref 0), (2, .ref 113), (3, .int x3)] [] h Q) ∧ (¬ ((h.1 2000 (x3).toNatClampNeg) &&& (63 : Int32)) = (41 : Int32) → ((((h.1 2000 (x3).toNatClampNeg) &&& (63 : Int32)) = (42 : Int32) → GoI 10 mL_law 1571 [(0, .ref 2000), (1, .ref 0), (2, .ref 113), (3, .int x3)] [] h Q) ∧ (¬ ((h.1 2000 (x3).toNatClampNeg) &&& (63 : Int32)) = (42 : Int32) → ((((h.1 2000 (x3).toNatClampNeg) &&& (63 : Int32)) = (43 : Int32) → GoI 10 mL_law 1614 [(0, .ref 2000), (1, .ref 0), (2, .ref 113), (3, .int x3)] [] h Q) ∧ (¬ ((h.1 2000 (x3).toNatClampNeg) &&& (63 : Int32)) = (43 : Int32) → ((((h.1 2000 (x3).toNatClampNeg) &&& (63 : Int32)) = (44 : Int32) → GoI 10 mL_law 1647 [(0, .ref 2000), (1, .ref 0), (2, .ref 113), (3, .int x3)] [] h Q) ∧ (¬ ((h.1 2000 (x3).toNatClampNeg) &&& (63 : Int32)) = (44 : Int32) → ((((h.1 2000 (x3).toNatClampNeg) &&& (63 : Int32)) = (45 : Int32) → GoI 10 mL_law 1660 [(0, .ref 2000), (1, .ref 0), (2, .ref 113), (3, .int x3)] [] h Q) ∧ (¬ ((h.1 2000 (x3).toNatClampNeg) &&& (63 : Int32)) = (45 : Int32) → ((((h.1 2000 (x3).toNatClampNeg) &&& (63 : Int32)) = (46 : Int32) → GoI 10 mL_law 1673 [(0, .ref 2000), (1, .ref 0), (2, .ref 113), (3, .int x3)] [] h Q) ∧ (¬ ((h.1 2000 (x3).toNatClampNeg) &&& (63 : Int32)) = (46 : Int32) → ((((h.1 2000 (x3).toNatClampNeg) &&& (63 : Int32)) = (47 : Int32) → GoI 10 mL_law 1696 [(0, .ref 2000), (1, .ref 0), (2, .ref 113), (3, .int x3)] [] h Q) ∧ (¬ ((h.1 2000 (x3).toNatClampNeg) &&& (63 : Int32)) = (47 : Int32) → GoI 10 mL_law 1729 [(0, .ref 2000), (1, .ref 0), (2, .ref 113), (3, .int x3)] [] h Q)))))))))))))))))))))))))))))))))))))))))))))))))))))))))))))))))))))))))))))))))))))))))))))))))))) : GoI 10 mL_law 18 [(0, .ref 2000), (1, .ref 0), (2, .ref 113), (3, .int x3)] [] h Q := by
  refine go_iload_n (pc2 := 19) dL_law_18 rfl rfl rfl ?_
  refine go_aload_n (pc2 := 20) dL_law_19 rfl rfl rfl ?_
  refine go_salen (pc2 := 21) dL_law_20 rfl ?_
  refine go_iconst (pc2 := 22) (v := (5 : Int32)) dL_law_21 rfl (by decide) ?_
  refine go_isub (pc2 := 23) dL_law_22 rfl ?_
  refine go_icmp_gt (pc2 := 26) (tgt := 1735) dL_law_23 rfl (by decide) (fun c => ?_) (fun c => ?_)
  · have k := k.1 c
    refine go_iconst (pc2 := 1736) (v := (1 : Int32)) dL_law_1735 rfl (by decide) ?_
    exact go_iret dL_law_1736 ⟨_, rfl, rfl⟩ ⟨rfl, _, rfl, k⟩
  · have k := k.2 c
    refine go_aload_n (pc2 := 27) dL_law_26 rfl rfl rfl ?_
    refine go_iload_n (pc2 := 28) dL_law_27 rfl rfl rfl ?_
    obtain ⟨y1, k⟩ := k
    refine go_sld (pc2 := 29) dL_law_28 rfl y1 rfl ?_
    refine go_bipush (pc2 := 31) (v := (63 : Int32)) dL_law_29 rfl (by decide) ?_
    refine go_iand (pc2 := 32) dL_law_31 rfl ?_
    by_cases cs0 : ((h.1 2000 (x3).toNatClampNeg) &&& (63 : Int32)) = (0 : Int32)
    · have k := k.1 cs0
      refine go_tsEq (tgt := 240) dL_law_32 cs0 (by decide) (by decide) rfl (by decide) ?_
      exact k
    have k := k.2 cs0
    by_cases cs1 : ((h.1 2000 (x3).toNatClampNeg) &&& (63 : Int32)) = (1 : Int32)
    · have k := k.1 cs1
      refine go_tsEq (tgt := 263) dL_law_32 cs1 (by decide) (by decide) rfl (by decide) ?_
      exact k
    have k := k.2 cs1
    by_cases cs2 : ((h.1 2000 (x3).toNatClampNeg) &&& (63 : Int32)) = (2 : Int32)
    · have k := k.1 cs2
      refine go_tsEq (tgt := 276) dL_law_32 cs2 (by decide) (by decide) rfl (by decide) ?_
      exact k
    have k := k.2 cs2
    by_cases cs3 : ((h.1 2000 (x3).toNatClampNeg) &&& (63 : Int32)) = (3 : Int32)
    · have k := k.1 cs3
      refine go_tsEq (tgt := 299) dL_law_32 cs3 (by decide) (by decide) rfl (by decide) ?_
      exact k
    have k := k.2 cs3
    by_cases cs4 : ((h.1 2000 (x3).toNatClampNeg) &&& (63 : Int32)) = (4 : Int32)
    · have k := k.1 cs4
      refine go_tsEq (tgt := 342) dL_law_32 cs4 (by decide) (by decide) rfl (by decide) ?_
      exact k
    have k := k.2 cs4
    by_cases cs5 : ((h.1 2000 (x3).toNatClampNeg) &&& (63 : Int32)) = (5 : Int32)
    · have k := k.1 cs5
      refine go_tsEq (tgt := 375) dL_law_32 cs5 (by decide) (by decide) rfl (by decide) ?_
      exact k
    have k := k.2 cs5
    by_cases cs6 : ((h.1 2000 (x3).toNatClampNeg) &&& (63 : Int32)) = (6 : Int32)
    · have k := k.1 cs6
      refine go_tsEq (tgt := 418) dL_law_32 cs6 (by decide) (by decide) rfl (by decide) ?_
      exact k
    have k := k.2 cs6
    by_cases cs7 : ((h.1 2000 (x3).toNatClampNeg) &&& (63 : Int32)) = (7 : Int32)
    · have k := k.1 cs7
      refine go_tsEq (tgt := 471) dL_law_32 cs7 (by decide) (by decide) rfl (by decide) ?_
      exact k
    have k := k.2 cs7
    by_cases cs8 : ((h.1 2000 (x3).toNatClampNeg) &&& (63 : Int32)) = (8 : Int32)
    · have k := k.1 cs8
      refine go_tsEq (tgt := 514) dL_law_32 cs8 (by decide) (by decide) rfl (by decide) ?_
      exact k
    have k := k.2 cs8
    by_cases cs9 : ((h.1 2000 (x3).toNatClampNeg) &&& (63 : Int32)) = (9 : Int32)
    · have k := k.1 cs9
      refine go_tsEq (tgt := 547) dL_law_32 cs9 (by decide) (by decide) rfl (by decide) ?_
      exact k
    have k := k.2 cs9
    by_cases cs10 : ((h.1 2000 (x3).toNatClampNeg) &&& (63 : Int32)) = (10 : Int32)
    · have k := k.1 cs10
      refine go_tsEq (tgt := 570) dL_law_32 cs10 (by decide) (by decide) rfl (by decide) ?_
      exact k
    have k := k.2 cs10
    by_cases cs11 : ((h.1 2000 (x3).toNatClampNeg) &&& (63 : Int32)) = (11 : Int32)
    · have k := k.1 cs11
      refine go_tsEq (tgt := 603) dL_law_32 cs11 (by decide) (by decide) rfl (by decide) ?_
      exact k
    have k := k.2 cs11
    by_cases cs12 : ((h.1 2000 (x3).toNatClampNeg) &&& (63 : Int32)) = (12 : Int32)
    · have k := k.1 cs12
      refine go_tsEq (tgt := 636) dL_law_32 cs12 (by decide) (by decide) rfl (by decide) ?_
      exact k
    have k := k.2 cs12
    by_cases cs13 : ((h.1 2000 (x3).toNatClampNeg) &&& (63 : Int32)) = (13 : Int32)
    · have k := k.1 cs13
      refine go_tsEq (tgt := 669) dL_law_32 cs13 (by decide) (by decide) rfl (by decide) ?_
      exact k
    have k := k.2 cs13
    by_cases cs14 : ((h.1 2000 (x3).toNatClampNeg) &&& (63 : Int32)) = (14 : Int32)
    · have k := k.1 cs14
      refine go_tsEq (tgt := 702) dL_law_32 cs14 (by decide) (by decide) rfl (by decide) ?_
      exact k
    have k := k.2 cs14
    by_cases cs15 : ((h.1 2000 (x3).toNatClampNeg) &&& (63 : Int32)) = (15 : Int32)
    · have k := k.1 cs15
      refine go_tsEq (tgt := 735) dL_law_32 cs15 (by decide) (by decide) rfl (by decide) ?_
      exact k
    have k := k.2 cs15
    by_cases cs16 : ((h.1 2000 (x3).toNatClampNeg) &&& (63 : Int32)) = (16 : Int32)
    · have k := k.1 cs16
      refine go_tsEq (tgt := 778) dL_law_32 cs16 (by decide) (by decide) rfl (by decide) ?_
      exact k
    have k := k.2 cs16
    by_cases cs17 : ((h.1 2000 (x3).toNatClampNeg) &&& (63 : Int32)) = (17 : Int32)
    · have k := k.1 cs17
      refine go_tsEq (tgt := 791) dL_law_32 cs17 (by decide) (by decide) rfl (by decide) ?_
      exact k
    have k := k.2 cs17
    by_cases cs18 : ((h.1 2000 (x3).toNatClampNeg) &&& (63 : Int32)) = (18 : Int32)
    · have k := k.1 cs18
      refine go_tsEq (tgt := 814) dL_law_32 cs18 (by decide) (by decide) rfl (by decide) ?_
      exact k
    have k := k.2 cs18
    by_cases cs19 : ((h.1 2000 (x3).toNatClampNeg) &&& (63 : Int32)) = (19 : Int32)
    · have k := k.1 cs19
      refine go_tsEq (tgt := 837) dL_law_32 cs19 (by decide) (by decide) rfl (by decide) ?_
      exact k
    have k := k.2 cs19
    by_cases cs20 : ((h.1 2000 (x3).toNatClampNeg) &&& (63 : Int32)) = (20 : Int32)
    · have k := k.1 cs20
      refine go_tsEq (tgt := 860) dL_law_32 cs20 (by decide) (by decide) rfl (by decide) ?_
      exact k
    have k := k.2 cs20
    by_cases cs21 : ((h.1 2000 (x3).toNatClampNeg) &&& (63 : Int32)) = (21 : Int32)
    · have k := k.1 cs21
      refine go_tsEq (tgt := 883) dL_law_32 cs21 (by decide) (by decide) rfl (by decide) ?_
      exact k
    have k := k.2 cs21
    by_cases cs22 : ((h.1 2000 (x3).toNatClampNeg) &&& (63 : Int32)) = (22 : Int32)
    · have k := k.1 cs22
      refine go_tsEq (tgt := 896) dL_law_32 cs22 (by decide) (by decide) rfl (by decide) ?_
      exact k
    have k := k.2 cs22
    by_cases cs23 : ((h.1 2000 (x3).toNatClampNeg) &&& (63 : Int32)) = (23 : Int32)
    · have k := k.1 cs23
      refine go_tsEq (tgt := 930) dL_law_32 cs23 (by decide) (by decide) rfl (by decide) ?_
      exact k
    have k := k.2 cs23
    by_cases cs24 : ((h.1 2000 (x3).toNatClampNeg) &&& (63 : Int32)) = (24 : Int32)
    · have k := k.1 cs24
      refine go_tsEq (tgt := 954) dL_law_32 cs24 (by decide) (by decide) rfl (by decide) ?_
      exact k
    have k := k.2 cs24
    by_cases cs25 : ((h.1 2000 (x3).toNatClampNeg) &&& (63 : Int32)) = (25 : Int32)
    · have k := k.1 cs25
      refine go_tsEq (tgt := 987) dL_law_32 cs25 (by decide) (by decide) rfl (by decide) ?_
      exact k
    have k := k.2 cs25
    by_cases cs26 : ((h.1 2000 (x3).toNatClampNeg) &&& (63 : Int32)) = (26 : Int32)
    · have k := k.1 cs26
      refine go_tsEq (tgt := 1010) dL_law_32 cs26 (by decide) (by decide) rfl (by decide) ?_
      exact k
    have k := k.2 cs26
    by_cases cs27 : ((h.1 2000 (x3).toNatClampNeg) &&& (63 : Int32)) = (27 : Int32)
    · have k := k.1 cs27
      refine go_tsEq (tgt := 1044) dL_law_32 cs27 (by decide) (by decide) rfl (by decide) ?_
      exact k
    have k := k.2 cs27
    by_cases cs28 : ((h.1 2000 (x3).toNatClampNeg) &&& (63 : Int32)) = (28 : Int32)
    · have k := k.1 cs28
      refine go_tsEq (tgt := 1057) dL_law_32 cs28 (by decide) (by decide) rfl (by decide) ?_
      exact k
    have k := k.2 cs28
    by_cases cs29 : ((h.1 2000 (x3).toNatClampNeg) &&& (63 : Int32)) = (29 : Int32)
    · have k := k.1 cs29
      refine go_tsEq (tgt := 1091) dL_law_32 cs29 (by decide) (by decide) rfl (by decide) ?_
      exact k
    have k := k.2 cs29
    by_cases cs30 : ((h.1 2000 (x3).toNatClampNeg) &&& (63 : Int32)) = (30 : Int32)
    · have k := k.1 cs30
      refine go_tsEq (tgt := 1114) dL_law_32 cs30 (by decide) (by decide) rfl (by decide) ?_
      exact k
    have k := k.2 cs30
    by_cases cs31 : ((h.1 2000 (x3).toNatClampNeg) &&& (63 : Int32)) = (31 : Int32)
    · have k := k.1 cs31
      refine go_tsEq (tgt := 1137) dL_law_32 cs31 (by decide) (by decide) rfl (by decide) ?_
      exact k
    have k := k.2 cs31
    by_cases cs32 : ((h.1 2000 (x3).toNatClampNeg) &&& (63 : Int32)) = (32 : Int32)
    · have k := k.1 cs32
      refine go_tsEq (tgt := 1160) dL_law_32 cs32 (by decide) (by decide) rfl (by decide) ?_
      exact k
    have k := k.2 cs32
    by_cases cs33 : ((h.1 2000 (x3).toNatClampNeg) &&& (63 : Int32)) = (33 : Int32)
    · have k := k.1 cs33
      refine go_tsEq (tgt := 1203) dL_law_32 cs33 (by decide) (by decide) rfl (by decide) ?_
      exact k
    have k := k.2 cs33
    by_cases cs34 : ((h.1 2000 (x3).toNatClampNeg) &&& (63 : Int32)) = (34 : Int32)
    · have k := k.1 cs34
      refine go_tsEq (tgt := 1246) dL_law_32 cs34 (by decide) (by decide) rfl (by decide) ?_
      exact k
    have k := k.2 cs34
    by_cases cs35 : ((h.1 2000 (x3).toNatClampNeg) &&& (63 : Int32)) = (35 : Int32)
    · have k := k.1 cs35
      refine go_tsEq (tgt := 1279) dL_law_32 cs35 (by decide) (by decide) rfl (by decide) ?_
      exact k
    have k := k.2 cs35
    by_cases cs36 : ((h.1 2000 (x3).toNatClampNeg) &&& (63 : Int32)) = (36 : Int32)
    · have k := k.1 cs36
      refine go_tsEq (tgt := 1322) dL_law_32 cs36 (by decide) (by decide) rfl (by decide) ?_
      exact k
    have k := k.2 cs36
    by_cases cs37 : ((h.1 2000 (x3).toNatClampNeg) &&& (63 : Int32)) = (37 : Int32)
    · have k := k.1 cs37
      refine go_tsEq (tgt := 1355) dL_law_32 cs37 (by decide) (by decide) rfl (by decide) ?_
      exact k
    have k := k.2 cs37
    by_cases cs38 : ((h.1 2000 (x3).toNatClampNeg) &&& (63 : Int32)) = (38 : Int32)
    · have k := k.1 cs38
      refine go_tsEq (tgt := 1448) dL_law_32 cs38 (by decide) (by decide) rfl (by decide) ?_
      exact k
    have k := k.2 cs38
    by_cases cs39 : ((h.1 2000 (x3).toNatClampNeg) &&& (63 : Int32)) = (39 : Int32)
    · have k := k.1 cs39
      refine go_tsEq (tgt := 1462) dL_law_32 cs39 (by decide) (by decide) rfl (by decide) ?_
      exact k
    have k := k.2 cs39
    by_cases cs40 : ((h.1 2000 (x3).toNatClampNeg) &&& (63 : Int32)) = (40 : Int32)
    · have k := k.1 cs40
      refine go_tsEq (tgt := 1485) dL_law_32 cs40 (by decide) (by decide) rfl (by decide) ?_
      exact k
    have k := k.2 cs40
    by_cases cs41 : ((h.1 2000 (x3).toNatClampNeg) &&& (63 : Int32)) = (41 : Int32)
    · have k := k.1 cs41
      refine go_tsEq (tgt := 1528) dL_law_32 cs41 (by decide) (by decide) rfl (by decide) ?_
      exact k
    have k := k.2 cs41
    by_cases cs42 : ((h.1 2000 (x3).toNatClampNeg) &&& (63 : Int32)) = (42 : Int32)
    · have k := k.1 cs42
      refine go_tsEq (tgt := 1571) dL_law_32 cs42 (by decide) (by decide) rfl (by decide) ?_
      exact k
    have k := k.2 cs42
    by_cases cs43 : ((h.1 2000 (x3).toNatClampNeg) &&& (63 : Int32)) = (43 : Int32)
    · have k := k.1 cs43
      refine go_tsEq (tgt := 1614) dL_law_32 cs43 (by decide) (by decide) rfl (by decide) ?_
      exact k
    have k := k.2 cs43
    by_cases cs44 : ((h.1 2000 (x3).toNatClampNeg) &&& (63 : Int32)) = (44 : Int32)
    · have k := k.1 cs44
      refine go_tsEq (tgt := 1647) dL_law_32 cs44 (by decide) (by decide) rfl (by decide) ?_
      exact k
    have k := k.2 cs44
    by_cases cs45 : ((h.1 2000 (x3).toNatClampNeg) &&& (63 : Int32)) = (45 : Int32)
    · have k := k.1 cs45
      refine go_tsEq (tgt := 1660) dL_law_32 cs45 (by decide) (by decide) rfl (by decide) ?_
      exact k
    have k := k.2 cs45
    by_cases cs46 : ((h.1 2000 (x3).toNatClampNeg) &&& (63 : Int32)) = (46 : Int32)
    · have k := k.1 cs46
      refine go_tsEq (tgt := 1673) dL_law_32 cs46 (by decide) (by decide) rfl (by decide) ?_
      exact k
    have k := k.2 cs46
    by_cases cs47 : ((h.1 2000 (x3).toNatClampNeg) &&& (63 : Int32)) = (47 : Int32)
    · have k := k.1 cs47
      refine go_tsEq (tgt := 1696) dL_law_32 cs47 (by decide) (by decide) rfl (by decide) ?_
      exact k
    have k := k.2 cs47
    by_cases cb : ((h.1 2000 (x3).toNatClampNeg) &&& (63 : Int32)).toInt < 0 ∨ 47 < ((h.1 2000 (x3).toNatClampNeg) &&& (63 : Int32)).toInt
    · refine go_tsOut (tgt := 1729) dL_law_32 cb (by decide) ?_
      exact k
    · exfalso
      have e0 := i32_ne cs0 (by decide : ((0 : Int32)).toInt = 0)
      have e1 := i32_ne cs1 (by decide : ((1 : Int32)).toInt = 1)
      have e2 := i32_ne cs2 (by decide : ((2 : Int32)).toInt = 2)
      have e3 := i32_ne cs3 (by decide : ((3 : Int32)).toInt = 3)
      have e4 := i32_ne cs4 (by decide : ((4 : Int32)).toInt = 4)
      have e5 := i32_ne cs5 (by decide : ((5 : Int32)).toInt = 5)
      have e6 := i32_ne cs6 (by decide : ((6 : Int32)).toInt = 6)
      have e7 := i32_ne cs7 (by decide : ((7 : Int32)).toInt = 7)
      have e8 := i32_ne cs8 (by decide : ((8 : Int32)).toInt = 8)
      have e9 := i32_ne cs9 (by decide : ((9 : Int32)).toInt = 9)
      have e10 := i32_ne cs10 (by decide : ((10 : Int32)).toInt = 10)
      have e11 := i32_ne cs11 (by decide : ((11 : Int32)).toInt = 11)
      have e12 := i32_ne cs12 (by decide : ((12 : Int32)).toInt = 12)
      have e13 := i32_ne cs13 (by decide : ((13 : Int32)).toInt = 13)
      have e14 := i32_ne cs14 (by decide : ((14 : Int32)).toInt = 14)
      have e15 := i32_ne cs15 (by decide : ((15 : Int32)).toInt = 15)
      have e16 := i32_ne cs16 (by decide : ((16 : Int32)).toInt = 16)
      have e17 := i32_ne cs17 (by decide : ((17 : Int32)).toInt = 17)
      have e18 := i32_ne cs18 (by decide : ((18 : Int32)).toInt = 18)
      have e19 := i32_ne cs19 (by decide : ((19 : Int32)).toInt = 19)
      have e20 := i32_ne cs20 (by decide : ((20 : Int32)).toInt = 20)
      have e21 := i32_ne cs21 (by decide : ((21 : Int32)).toInt = 21)
      have e22 := i32_ne cs22 (by decide : ((22 : Int32)).toInt = 22)
      have e23 := i32_ne cs23 (by decide : ((23 : Int32)).toInt = 23)
      have e24 := i32_ne cs24 (by decide : ((24 : Int32)).toInt = 24)
      have e25 := i32_ne cs25 (by decide : ((25 : Int32)).toInt = 25)
      have e26 := i32_ne cs26 (by decide : ((26 : Int32)).toInt = 26)
      have e27 := i32_ne cs27 (by decide : ((27 : Int32)).toInt = 27)
      have e28 := i32_ne cs28 (by decide : ((28 : Int32)).toInt = 28)
      have e29 := i32_ne cs29 (by decide : ((29 : Int32)).toInt = 29)
      have e30 := i32_ne cs30 (by decide : ((30 : Int32)).toInt = 30)
      have e31 := i32_ne cs31 (by decide : ((31 : Int32)).toInt = 31)
      have e32 := i32_ne cs32 (by decide : ((32 : Int32)).toInt = 32)
      have e33 := i32_ne cs33 (by decide : ((33 : Int32)).toInt = 33)
      have e34 := i32_ne cs34 (by decide : ((34 : Int32)).toInt = 34)
      have e35 := i32_ne cs35 (by decide : ((35 : Int32)).toInt = 35)
      have e36 := i32_ne cs36 (by decide : ((36 : Int32)).toInt = 36)
      have e37 := i32_ne cs37 (by decide : ((37 : Int32)).toInt = 37)
      have e38 := i32_ne cs38 (by decide : ((38 : Int32)).toInt = 38)
      have e39 := i32_ne cs39 (by decide : ((39 : Int32)).toInt = 39)
      have e40 := i32_ne cs40 (by decide : ((40 : Int32)).toInt = 40)
      have e41 := i32_ne cs41 (by decide : ((41 : Int32)).toInt = 41)
      have e42 := i32_ne cs42 (by decide : ((42 : Int32)).toInt = 42)
      have e43 := i32_ne cs43 (by decide : ((43 : Int32)).toInt = 43)
      have e44 := i32_ne cs44 (by decide : ((44 : Int32)).toInt = 44)
      have e45 := i32_ne cs45 (by decide : ((45 : Int32)).toInt = 45)
      have e46 := i32_ne cs46 (by decide : ((46 : Int32)).toInt = 46)
      have e47 := i32_ne cs47 (by decide : ((47 : Int32)).toInt = 47)
      omega
theorem b_L_law_1729 {x3 : Int32} {h : Hp} {Q : Int32 → Hp → Prop}  (k : GoI 10 mL_law 18 [(0, .ref 2000), (1, .ref 0), (2, .ref 113), (3, .int (x3 + 5))] [] h Q) : GoI 10 mL_law 1729 [(0, .ref 2000), (1, .ref 0), (2, .ref 113), (3, .int x3)] [] h Q := by
  refine go_iinc (pc2 := 1732) (ls2 := [(0, .ref 2000), (1, .ref 0), (2, .ref 113), (3, .int (x3 + 5))]) (v := (x3 + 5)) dL_law_1729 rfl rfl rfl rfl rfl rfl rfl ?_
  refine go_goto (tgt := 18) dL_law_1732 (by decide) ?_
  exact k
theorem b_L_law_1696 {x3 : Int32} {h : Hp} {Q : Int32 → Hp → Prop}  (k : (vp_in (x3 + (1 : Int32)) (h.1 2001 0).toNatClampNeg ∧ (vp_in (x3 + (2 : Int32)) (h.1 2001 0).toNatClampNeg ∧ (∃ Q3, CtI 1 mX10_hour [.ref 0, .int (h.1 2000 ((x3 + (1 : Int32))).toNatClampNeg), .int (h.1 2000 ((x3 + (2 : Int32))).toNatClampNeg)] h Q3 ∧ ∀ (v5 : Int32) (h6 : Hp), Q3 v5 h6 → (vp_in (x3 + (1 : Int32)) (h6.1 2001 0).toNatClampNeg ∧ (vp_in (x3 + (2 : Int32)) (h6.1 2001 0).toNatClampNeg ∧ (∃ Q10, CtI 2 mX11_hour [.ref 113, .int (h6.1 2000 ((x3 + (1 : Int32))).toNatClampNeg), .int (h6.1 2000 ((x3 + (2 : Int32))).toNatClampNeg)] h6 Q10 ∧ ∀ (v12 : Int32) (h13 : Hp), Q10 v12 h13 → ((v5 = v12 → GoI 10 mL_law 1729 [(0, .ref 2000), (1, .ref 0), (2, .ref 113), (3, .int x3)] [] h13 Q) ∧ (¬ v5 = v12 → Q (0 : Int32) h13))))))))) : GoI 10 mL_law 1696 [(0, .ref 2000), (1, .ref 0), (2, .ref 113), (3, .int x3)] [] h Q := by
  refine go_aload_n (pc2 := 1697) dL_law_1696 rfl rfl rfl ?_
  refine go_aload_n (pc2 := 1698) dL_law_1697 rfl rfl rfl ?_
  refine go_iload_n (pc2 := 1699) dL_law_1698 rfl rfl rfl ?_
  refine go_iconst (pc2 := 1700) (v := (1 : Int32)) dL_law_1699 rfl (by decide) ?_
  refine go_iadd (pc2 := 1701) dL_law_1700 rfl ?_
  obtain ⟨y1, k⟩ := k
  refine go_sld (pc2 := 1702) dL_law_1701 rfl y1 rfl ?_
  refine go_aload_n (pc2 := 1703) dL_law_1702 rfl rfl rfl ?_
  refine go_iload_n (pc2 := 1704) dL_law_1703 rfl rfl rfl ?_
  refine go_iconst (pc2 := 1705) (v := (2 : Int32)) dL_law_1704 rfl (by decide) ?_
  refine go_iadd (pc2 := 1706) dL_law_1705 rfl ?_
  obtain ⟨y2, k⟩ := k
  refine go_sld (pc2 := 1707) dL_law_1706 rfl y2 rfl ?_
  obtain ⟨Q3, hC4, k⟩ := k
  refine gcV_I (pc2 := 1710) (dC := 1) (As := [.int (h.1 2000 ((x3 + (1 : Int32))).toNatClampNeg), .int (h.1 2000 ((x3 + (2 : Int32))).toNatClampNeg)]) (st := []) rfl dL_law_1707 rfl w_1046 ok_X10_hour vi_X10_hour c_0 (by decide) rfl rfl rfl (by decide) (Nat.le_of_ble_eq_true rfl) hC4 (fun v5 h6 hq7 => ?_)
  have k := k v5 h6 hq7
  refine go_aload_n (pc2 := 1711) dL_law_1710 rfl rfl rfl ?_
  refine go_aload_n (pc2 := 1712) dL_law_1711 rfl rfl rfl ?_
  refine go_iload_n (pc2 := 1713) dL_law_1712 rfl rfl rfl ?_
  refine go_iconst (pc2 := 1714) (v := (1 : Int32)) dL_law_1713 rfl (by decide) ?_
  refine go_iadd (pc2 := 1715) dL_law_1714 rfl ?_
  obtain ⟨y8, k⟩ := k
  refine go_sld (pc2 := 1716) dL_law_1715 rfl y8 rfl ?_
  refine go_aload_n (pc2 := 1717) dL_law_1716 rfl rfl rfl ?_
  refine go_iload_n (pc2 := 1718) dL_law_1717 rfl rfl rfl ?_
  refine go_iconst (pc2 := 1719) (v := (2 : Int32)) dL_law_1718 rfl (by decide) ?_
  refine go_iadd (pc2 := 1720) dL_law_1719 rfl ?_
  obtain ⟨y9, k⟩ := k
  refine go_sld (pc2 := 1721) dL_law_1720 rfl y9 rfl ?_
  obtain ⟨Q10, hC11, k⟩ := k
  refine gcV_I (pc2 := 1724) (dC := 2) (As := [.int (h6.1 2000 ((x3 + (1 : Int32))).toNatClampNeg), .int (h6.1 2000 ((x3 + (2 : Int32))).toNatClampNeg)]) (st := [.int v5]) rfl dL_law_1721 rfl w_1645 ok_X11_hour vi_X11_hour c_113 (by decide) rfl rfl rfl (by decide) (Nat.le_of_ble_eq_true rfl) hC11 (fun v12 h13 hq14 => ?_)
  have k := k v12 h13 hq14
  refine go_icmp_eq (pc2 := 1727) (tgt := 1729) dL_law_1724 rfl (by decide) (fun c => ?_) (fun c => ?_)
  · have k := k.1 c
    exact k
  · have k := k.2 c
    refine go_iconst (pc2 := 1728) (v := (0 : Int32)) dL_law_1727 rfl (by decide) ?_
    exact go_iret dL_law_1728 ⟨_, rfl, rfl⟩ ⟨rfl, _, rfl, k⟩
theorem b_L_law_1673 {x3 : Int32} {h : Hp} {Q : Int32 → Hp → Prop}  (k : (vp_in (x3 + (1 : Int32)) (h.1 2001 0).toNatClampNeg ∧ (∃ Q2, CtI 1 mX10_count [.ref 0, .int (h.1 2000 ((x3 + (1 : Int32))).toNatClampNeg)] h Q2 ∧ ∀ (v4 : Int32) (h5 : Hp), Q2 v4 h5 → (vp_in (x3 + (1 : Int32)) (h5.1 2001 0).toNatClampNeg ∧ (∃ Q8, CtI 1 mX11_count [.ref 113, .int (h5.1 2000 ((x3 + (1 : Int32))).toNatClampNeg)] h5 Q8 ∧ ∀ (v10 : Int32) (h11 : Hp), Q8 v10 h11 → ((v4 = v10 → GoI 10 mL_law 1729 [(0, .ref 2000), (1, .ref 0), (2, .ref 113), (3, .int x3)] [] h11 Q) ∧ (¬ v4 = v10 → Q (0 : Int32) h11))))))) : GoI 10 mL_law 1673 [(0, .ref 2000), (1, .ref 0), (2, .ref 113), (3, .int x3)] [] h Q := by
  refine go_aload_n (pc2 := 1674) dL_law_1673 rfl rfl rfl ?_
  refine go_aload_n (pc2 := 1675) dL_law_1674 rfl rfl rfl ?_
  refine go_iload_n (pc2 := 1676) dL_law_1675 rfl rfl rfl ?_
  refine go_iconst (pc2 := 1677) (v := (1 : Int32)) dL_law_1676 rfl (by decide) ?_
  refine go_iadd (pc2 := 1678) dL_law_1677 rfl ?_
  obtain ⟨y1, k⟩ := k
  refine go_sld (pc2 := 1679) dL_law_1678 rfl y1 rfl ?_
  obtain ⟨Q2, hC3, k⟩ := k
  refine gcV_I (pc2 := 1682) (dC := 1) (As := [.int (h.1 2000 ((x3 + (1 : Int32))).toNatClampNeg)]) (st := []) rfl dL_law_1679 rfl w_1042 ok_X10_count vi_X10_count c_0 (by decide) rfl rfl rfl (by decide) (Nat.le_of_ble_eq_true rfl) hC3 (fun v4 h5 hq6 => ?_)
  have k := k v4 h5 hq6
  refine go_aload_n (pc2 := 1683) dL_law_1682 rfl rfl rfl ?_
  refine go_aload_n (pc2 := 1684) dL_law_1683 rfl rfl rfl ?_
  refine go_iload_n (pc2 := 1685) dL_law_1684 rfl rfl rfl ?_
  refine go_iconst (pc2 := 1686) (v := (1 : Int32)) dL_law_1685 rfl (by decide) ?_
  refine go_iadd (pc2 := 1687) dL_law_1686 rfl ?_
  obtain ⟨y7, k⟩ := k
  refine go_sld (pc2 := 1688) dL_law_1687 rfl y7 rfl ?_
  obtain ⟨Q8, hC9, k⟩ := k
  refine gcV_I (pc2 := 1691) (dC := 1) (As := [.int (h5.1 2000 ((x3 + (1 : Int32))).toNatClampNeg)]) (st := [.int v4]) rfl dL_law_1688 rfl w_1640 ok_X11_count vi_X11_count c_113 (by decide) rfl rfl rfl (by decide) (Nat.le_of_ble_eq_true rfl) hC9 (fun v10 h11 hq12 => ?_)
  have k := k v10 h11 hq12
  refine go_icmp_eq (pc2 := 1694) (tgt := 1729) dL_law_1691 rfl (by decide) (fun c => ?_) (fun c => ?_)
  · have k := k.1 c
    exact k
  · have k := k.2 c
    refine go_iconst (pc2 := 1695) (v := (0 : Int32)) dL_law_1694 rfl (by decide) ?_
    exact go_iret dL_law_1695 ⟨_, rfl, rfl⟩ ⟨rfl, _, rfl, k⟩
theorem b_L_law_1660 {x3 : Int32} {h : Hp} {Q : Int32 → Hp → Prop}  (k : (∃ Q1, CtI 2 mX10_on [.ref 0] h Q1 ∧ ∀ (v3 : Int32) (h4 : Hp), Q1 v3 h4 → (∃ Q6, CtI 1 mX11_on [.ref 113] h4 Q6 ∧ ∀ (v8 : Int32) (h9 : Hp), Q6 v8 h9 → ((v3 = v8 → GoI 10 mL_law 1729 [(0, .ref 2000), (1, .ref 0), (2, .ref 113), (3, .int x3)] [] h9 Q) ∧ (¬ v3 = v8 → Q (0 : Int32) h9))))) : GoI 10 mL_law 1660 [(0, .ref 2000), (1, .ref 0), (2, .ref 113), (3, .int x3)] [] h Q := by
  refine go_aload_n (pc2 := 1661) dL_law_1660 rfl rfl rfl ?_
  obtain ⟨Q1, hC2, k⟩ := k
  refine gcV_I (pc2 := 1664) (dC := 2) (As := []) (st := []) rfl dL_law_1661 rfl w_1038 ok_X10_on vi_X10_on c_0 (by decide) rfl rfl rfl (by decide) (Nat.le_of_ble_eq_true rfl) hC2 (fun v3 h4 hq5 => ?_)
  have k := k v3 h4 hq5
  refine go_aload_n (pc2 := 1665) dL_law_1664 rfl rfl rfl ?_
  obtain ⟨Q6, hC7, k⟩ := k
  refine gcV_I (pc2 := 1668) (dC := 1) (As := []) (st := [.int v3]) rfl dL_law_1665 rfl w_1636 ok_X11_on vi_X11_on c_113 (by decide) rfl rfl rfl (by decide) (Nat.le_of_ble_eq_true rfl) hC7 (fun v8 h9 hq10 => ?_)
  have k := k v8 h9 hq10
  refine go_icmp_eq (pc2 := 1671) (tgt := 1729) dL_law_1668 rfl (by decide) (fun c => ?_) (fun c => ?_)
  · have k := k.1 c
    exact k
  · have k := k.2 c
    refine go_iconst (pc2 := 1672) (v := (0 : Int32)) dL_law_1671 rfl (by decide) ?_
    exact go_iret dL_law_1672 ⟨_, rfl, rfl⟩ ⟨rfl, _, rfl, k⟩
theorem b_L_law_1647 {x3 : Int32} {h : Hp} {Q : Int32 → Hp → Prop}  (k : (∃ Q1, CtI 2 mX10_image [.ref 0] h Q1 ∧ ∀ (v3 : Int32) (h4 : Hp), Q1 v3 h4 → (∃ Q6, CtI 1 mX11_image [.ref 113] h4 Q6 ∧ ∀ (v8 : Int32) (h9 : Hp), Q6 v8 h9 → ((v3 = v8 → GoI 10 mL_law 1729 [(0, .ref 2000), (1, .ref 0), (2, .ref 113), (3, .int x3)] [] h9 Q) ∧ (¬ v3 = v8 → Q (0 : Int32) h9))))) : GoI 10 mL_law 1647 [(0, .ref 2000), (1, .ref 0), (2, .ref 113), (3, .int x3)] [] h Q := by
  refine go_aload_n (pc2 := 1648) dL_law_1647 rfl rfl rfl ?_
  obtain ⟨Q1, hC2, k⟩ := k
  refine gcV_I (pc2 := 1651) (dC := 2) (As := []) (st := []) rfl dL_law_1648 rfl w_1034 ok_X10_image vi_X10_image c_0 (by decide) rfl rfl rfl (by decide) (Nat.le_of_ble_eq_true rfl) hC2 (fun v3 h4 hq5 => ?_)
  have k := k v3 h4 hq5
  refine go_aload_n (pc2 := 1652) dL_law_1651 rfl rfl rfl ?_
  obtain ⟨Q6, hC7, k⟩ := k
  refine gcV_I (pc2 := 1655) (dC := 1) (As := []) (st := [.int v3]) rfl dL_law_1652 rfl w_1632 ok_X11_image vi_X11_image c_113 (by decide) rfl rfl rfl (by decide) (Nat.le_of_ble_eq_true rfl) hC7 (fun v8 h9 hq10 => ?_)
  have k := k v8 h9 hq10
  refine go_icmp_eq (pc2 := 1658) (tgt := 1729) dL_law_1655 rfl (by decide) (fun c => ?_) (fun c => ?_)
  · have k := k.1 c
    exact k
  · have k := k.2 c
    refine go_iconst (pc2 := 1659) (v := (0 : Int32)) dL_law_1658 rfl (by decide) ?_
    exact go_iret dL_law_1659 ⟨_, rfl, rfl⟩ ⟨rfl, _, rfl, k⟩
theorem b_L_law_1614 {x3 : Int32} {h : Hp} {Q : Int32 → Hp → Prop}  (k : (vp_in (x3 + (1 : Int32)) (h.1 2001 0).toNatClampNeg ∧ (vp_in (x3 + (2 : Int32)) (h.1 2001 0).toNatClampNeg ∧ (∃ Q3, CtI 2 mX10_like [.ref 0, .int (h.1 2000 ((x3 + (1 : Int32))).toNatClampNeg), .int (h.1 2000 ((x3 + (2 : Int32))).toNatClampNeg)] h Q3 ∧ ∀ (v5 : Int32) (h6 : Hp), Q3 v5 h6 → (vp_in (x3 + (1 : Int32)) (h6.1 2001 0).toNatClampNeg ∧ (vp_in (x3 + (2 : Int32)) (h6.1 2001 0).toNatClampNeg ∧ (∃ Q10, CtI 2 mX11_like [.ref 113, .int (h6.1 2000 ((x3 + (1 : Int32))).toNatClampNeg), .int (h6.1 2000 ((x3 + (2 : Int32))).toNatClampNeg)] h6 Q10 ∧ ∀ (v12 : Int32) (h13 : Hp), Q10 v12 h13 → ((v5 = v12 → GoI 10 mL_law 1729 [(0, .ref 2000), (1, .ref 0), (2, .ref 113), (3, .int x3)] [] h13 Q) ∧ (¬ v5 = v12 → Q (0 : Int32) h13))))))))) : GoI 10 mL_law 1614 [(0, .ref 2000), (1, .ref 0), (2, .ref 113), (3, .int x3)] [] h Q := by
  refine go_aload_n (pc2 := 1615) dL_law_1614 rfl rfl rfl ?_
  refine go_aload_n (pc2 := 1616) dL_law_1615 rfl rfl rfl ?_
  refine go_iload_n (pc2 := 1617) dL_law_1616 rfl rfl rfl ?_
  refine go_iconst (pc2 := 1618) (v := (1 : Int32)) dL_law_1617 rfl (by decide) ?_
  refine go_iadd (pc2 := 1619) dL_law_1618 rfl ?_
  obtain ⟨y1, k⟩ := k
  refine go_sld (pc2 := 1620) dL_law_1619 rfl y1 rfl ?_
  refine go_aload_n (pc2 := 1621) dL_law_1620 rfl rfl rfl ?_
  refine go_iload_n (pc2 := 1622) dL_law_1621 rfl rfl rfl ?_
  refine go_iconst (pc2 := 1623) (v := (2 : Int32)) dL_law_1622 rfl (by decide) ?_
  refine go_iadd (pc2 := 1624) dL_law_1623 rfl ?_
  obtain ⟨y2, k⟩ := k
  refine go_sld (pc2 := 1625) dL_law_1624 rfl y2 rfl ?_
  obtain ⟨Q3, hC4, k⟩ := k
  refine gcV_I (pc2 := 1628) (dC := 2) (As := [.int (h.1 2000 ((x3 + (1 : Int32))).toNatClampNeg), .int (h.1 2000 ((x3 + (2 : Int32))).toNatClampNeg)]) (st := []) rfl dL_law_1625 rfl w_1025 ok_X10_like vi_X10_like c_0 (by decide) rfl rfl rfl (by decide) (Nat.le_of_ble_eq_true rfl) hC4 (fun v5 h6 hq7 => ?_)
  have k := k v5 h6 hq7
  refine go_aload_n (pc2 := 1629) dL_law_1628 rfl rfl rfl ?_
  refine go_aload_n (pc2 := 1630) dL_law_1629 rfl rfl rfl ?_
  refine go_iload_n (pc2 := 1631) dL_law_1630 rfl rfl rfl ?_
  refine go_iconst (pc2 := 1632) (v := (1 : Int32)) dL_law_1631 rfl (by decide) ?_
  refine go_iadd (pc2 := 1633) dL_law_1632 rfl ?_
  obtain ⟨y8, k⟩ := k
  refine go_sld (pc2 := 1634) dL_law_1633 rfl y8 rfl ?_
  refine go_aload_n (pc2 := 1635) dL_law_1634 rfl rfl rfl ?_
  refine go_iload_n (pc2 := 1636) dL_law_1635 rfl rfl rfl ?_
  refine go_iconst (pc2 := 1637) (v := (2 : Int32)) dL_law_1636 rfl (by decide) ?_
  refine go_iadd (pc2 := 1638) dL_law_1637 rfl ?_
  obtain ⟨y9, k⟩ := k
  refine go_sld (pc2 := 1639) dL_law_1638 rfl y9 rfl ?_
  obtain ⟨Q10, hC11, k⟩ := k
  refine gcV_I (pc2 := 1642) (dC := 2) (As := [.int (h6.1 2000 ((x3 + (1 : Int32))).toNatClampNeg), .int (h6.1 2000 ((x3 + (2 : Int32))).toNatClampNeg)]) (st := [.int v5]) rfl dL_law_1639 rfl w_1580 ok_X11_like vi_X11_like c_113 (by decide) rfl rfl rfl (by decide) (Nat.le_of_ble_eq_true rfl) hC11 (fun v12 h13 hq14 => ?_)
  have k := k v12 h13 hq14
  refine go_icmp_eq (pc2 := 1645) (tgt := 1729) dL_law_1642 rfl (by decide) (fun c => ?_) (fun c => ?_)
  · have k := k.1 c
    exact k
  · have k := k.2 c
    refine go_iconst (pc2 := 1646) (v := (0 : Int32)) dL_law_1645 rfl (by decide) ?_
    exact go_iret dL_law_1646 ⟨_, rfl, rfl⟩ ⟨rfl, _, rfl, k⟩
theorem b_L_law_1571 {x3 : Int32} {h : Hp} {Q : Int32 → Hp → Prop}  (k : (vp_in (x3 + (1 : Int32)) (h.1 2001 0).toNatClampNeg ∧ (vp_in (x3 + (2 : Int32)) (h.1 2001 0).toNatClampNeg ∧ (vp_in (x3 + (3 : Int32)) (h.1 2001 0).toNatClampNeg ∧ (∃ Q4, CtI 3 mX10_racked [.ref 0, .int (h.1 2000 ((x3 + (1 : Int32))).toNatClampNeg), .int (h.1 2000 ((x3 + (2 : Int32))).toNatClampNeg), .int (h.1 2000 ((x3 + (3 : Int32))).toNatClampNeg)] h Q4 ∧ ∀ (v6 : Int32) (h7 : Hp), Q4 v6 h7 → (vp_in (x3 + (1 : Int32)) (h7.1 2001 0).toNatClampNeg ∧ (vp_in (x3 + (2 : Int32)) (h7.1 2001 0).toNatClampNeg ∧ (vp_in (x3 + (3 : Int32)) (h7.1 2001 0).toNatClampNeg ∧ (∃ Q12, CtI 2 mX11_racked [.ref 113, .int (h7.1 2000 ((x3 + (1 : Int32))).toNatClampNeg), .int (h7.1 2000 ((x3 + (2 : Int32))).toNatClampNeg), .int (h7.1 2000 ((x3 + (3 : Int32))).toNatClampNeg)] h7 Q12 ∧ ∀ (v14 : Int32) (h15 : Hp), Q12 v14 h15 → ((v6 = v14 → GoI 10 mL_law 1729 [(0, .ref 2000), (1, .ref 0), (2, .ref 113), (3, .int x3)] [] h15 Q) ∧ (¬ v6 = v14 → Q (0 : Int32) h15))))))))))) : GoI 10 mL_law 1571 [(0, .ref 2000), (1, .ref 0), (2, .ref 113), (3, .int x3)] [] h Q := by
  refine go_aload_n (pc2 := 1572) dL_law_1571 rfl rfl rfl ?_
  refine go_aload_n (pc2 := 1573) dL_law_1572 rfl rfl rfl ?_
  refine go_iload_n (pc2 := 1574) dL_law_1573 rfl rfl rfl ?_
  refine go_iconst (pc2 := 1575) (v := (1 : Int32)) dL_law_1574 rfl (by decide) ?_
  refine go_iadd (pc2 := 1576) dL_law_1575 rfl ?_
  obtain ⟨y1, k⟩ := k
  refine go_sld (pc2 := 1577) dL_law_1576 rfl y1 rfl ?_
  refine go_aload_n (pc2 := 1578) dL_law_1577 rfl rfl rfl ?_
  refine go_iload_n (pc2 := 1579) dL_law_1578 rfl rfl rfl ?_
  refine go_iconst (pc2 := 1580) (v := (2 : Int32)) dL_law_1579 rfl (by decide) ?_
  refine go_iadd (pc2 := 1581) dL_law_1580 rfl ?_
  obtain ⟨y2, k⟩ := k
  refine go_sld (pc2 := 1582) dL_law_1581 rfl y2 rfl ?_
  refine go_aload_n (pc2 := 1583) dL_law_1582 rfl rfl rfl ?_
  refine go_iload_n (pc2 := 1584) dL_law_1583 rfl rfl rfl ?_
  refine go_iconst (pc2 := 1585) (v := (3 : Int32)) dL_law_1584 rfl (by decide) ?_
  refine go_iadd (pc2 := 1586) dL_law_1585 rfl ?_
  obtain ⟨y3, k⟩ := k
  refine go_sld (pc2 := 1587) dL_law_1586 rfl y3 rfl ?_
  obtain ⟨Q4, hC5, k⟩ := k
  refine gcV_I (pc2 := 1590) (dC := 3) (As := [.int (h.1 2000 ((x3 + (1 : Int32))).toNatClampNeg), .int (h.1 2000 ((x3 + (2 : Int32))).toNatClampNeg), .int (h.1 2000 ((x3 + (3 : Int32))).toNatClampNeg)]) (st := []) rfl dL_law_1587 rfl w_1021 ok_X10_racked vi_X10_racked c_0 (by decide) rfl rfl rfl (by decide) (Nat.le_of_ble_eq_true rfl) hC5 (fun v6 h7 hq8 => ?_)
  have k := k v6 h7 hq8
  refine go_aload_n (pc2 := 1591) dL_law_1590 rfl rfl rfl ?_
  refine go_aload_n (pc2 := 1592) dL_law_1591 rfl rfl rfl ?_
  refine go_iload_n (pc2 := 1593) dL_law_1592 rfl rfl rfl ?_
  refine go_iconst (pc2 := 1594) (v := (1 : Int32)) dL_law_1593 rfl (by decide) ?_
  refine go_iadd (pc2 := 1595) dL_law_1594 rfl ?_
  obtain ⟨y9, k⟩ := k
  refine go_sld (pc2 := 1596) dL_law_1595 rfl y9 rfl ?_
  refine go_aload_n (pc2 := 1597) dL_law_1596 rfl rfl rfl ?_
  refine go_iload_n (pc2 := 1598) dL_law_1597 rfl rfl rfl ?_
  refine go_iconst (pc2 := 1599) (v := (2 : Int32)) dL_law_1598 rfl (by decide) ?_
  refine go_iadd (pc2 := 1600) dL_law_1599 rfl ?_
  obtain ⟨y10, k⟩ := k
  refine go_sld (pc2 := 1601) dL_law_1600 rfl y10 rfl ?_
  refine go_aload_n (pc2 := 1602) dL_law_1601 rfl rfl rfl ?_
  refine go_iload_n (pc2 := 1603) dL_law_1602 rfl rfl rfl ?_
  refine go_iconst (pc2 := 1604) (v := (3 : Int32)) dL_law_1603 rfl (by decide) ?_
  refine go_iadd (pc2 := 1605) dL_law_1604 rfl ?_
  obtain ⟨y11, k⟩ := k
  refine go_sld (pc2 := 1606) dL_law_1605 rfl y11 rfl ?_
  obtain ⟨Q12, hC13, k⟩ := k
  refine gcV_I (pc2 := 1609) (dC := 2) (As := [.int (h7.1 2000 ((x3 + (1 : Int32))).toNatClampNeg), .int (h7.1 2000 ((x3 + (2 : Int32))).toNatClampNeg), .int (h7.1 2000 ((x3 + (3 : Int32))).toNatClampNeg)]) (st := [.int v6]) rfl dL_law_1606 rfl w_1576 ok_X11_racked vi_X11_racked c_113 (by decide) rfl rfl rfl (by decide) (Nat.le_of_ble_eq_true rfl) hC13 (fun v14 h15 hq16 => ?_)
  have k := k v14 h15 hq16
  refine go_icmp_eq (pc2 := 1612) (tgt := 1729) dL_law_1609 rfl (by decide) (fun c => ?_) (fun c => ?_)
  · have k := k.1 c
    exact k
  · have k := k.2 c
    refine go_iconst (pc2 := 1613) (v := (0 : Int32)) dL_law_1612 rfl (by decide) ?_
    exact go_iret dL_law_1613 ⟨_, rfl, rfl⟩ ⟨rfl, _, rfl, k⟩
theorem b_L_law_1528 {x3 : Int32} {h : Hp} {Q : Int32 → Hp → Prop}  (k : (vp_in (x3 + (1 : Int32)) (h.1 2001 0).toNatClampNeg ∧ (vp_in (x3 + (2 : Int32)) (h.1 2001 0).toNatClampNeg ∧ (vp_in (x3 + (3 : Int32)) (h.1 2001 0).toNatClampNeg ∧ (∃ Q4, CtI 2 mX10_racks [.ref 0, .int (h.1 2000 ((x3 + (1 : Int32))).toNatClampNeg), .int (h.1 2000 ((x3 + (2 : Int32))).toNatClampNeg), .int (h.1 2000 ((x3 + (3 : Int32))).toNatClampNeg)] h Q4 ∧ ∀ (v6 : Int32) (h7 : Hp), Q4 v6 h7 → (vp_in (x3 + (1 : Int32)) (h7.1 2001 0).toNatClampNeg ∧ (vp_in (x3 + (2 : Int32)) (h7.1 2001 0).toNatClampNeg ∧ (vp_in (x3 + (3 : Int32)) (h7.1 2001 0).toNatClampNeg ∧ (∃ Q12, CtI 2 mX11_racks [.ref 113, .int (h7.1 2000 ((x3 + (1 : Int32))).toNatClampNeg), .int (h7.1 2000 ((x3 + (2 : Int32))).toNatClampNeg), .int (h7.1 2000 ((x3 + (3 : Int32))).toNatClampNeg)] h7 Q12 ∧ ∀ (v14 : Int32) (h15 : Hp), Q12 v14 h15 → ((v6 = v14 → GoI 10 mL_law 1729 [(0, .ref 2000), (1, .ref 0), (2, .ref 113), (3, .int x3)] [] h15 Q) ∧ (¬ v6 = v14 → Q (0 : Int32) h15))))))))))) : GoI 10 mL_law 1528 [(0, .ref 2000), (1, .ref 0), (2, .ref 113), (3, .int x3)] [] h Q := by
  refine go_aload_n (pc2 := 1529) dL_law_1528 rfl rfl rfl ?_
  refine go_aload_n (pc2 := 1530) dL_law_1529 rfl rfl rfl ?_
  refine go_iload_n (pc2 := 1531) dL_law_1530 rfl rfl rfl ?_
  refine go_iconst (pc2 := 1532) (v := (1 : Int32)) dL_law_1531 rfl (by decide) ?_
  refine go_iadd (pc2 := 1533) dL_law_1532 rfl ?_
  obtain ⟨y1, k⟩ := k
  refine go_sld (pc2 := 1534) dL_law_1533 rfl y1 rfl ?_
  refine go_aload_n (pc2 := 1535) dL_law_1534 rfl rfl rfl ?_
  refine go_iload_n (pc2 := 1536) dL_law_1535 rfl rfl rfl ?_
  refine go_iconst (pc2 := 1537) (v := (2 : Int32)) dL_law_1536 rfl (by decide) ?_
  refine go_iadd (pc2 := 1538) dL_law_1537 rfl ?_
  obtain ⟨y2, k⟩ := k
  refine go_sld (pc2 := 1539) dL_law_1538 rfl y2 rfl ?_
  refine go_aload_n (pc2 := 1540) dL_law_1539 rfl rfl rfl ?_
  refine go_iload_n (pc2 := 1541) dL_law_1540 rfl rfl rfl ?_
  refine go_iconst (pc2 := 1542) (v := (3 : Int32)) dL_law_1541 rfl (by decide) ?_
  refine go_iadd (pc2 := 1543) dL_law_1542 rfl ?_
  obtain ⟨y3, k⟩ := k
  refine go_sld (pc2 := 1544) dL_law_1543 rfl y3 rfl ?_
  obtain ⟨Q4, hC5, k⟩ := k
  refine gcV_I (pc2 := 1547) (dC := 2) (As := [.int (h.1 2000 ((x3 + (1 : Int32))).toNatClampNeg), .int (h.1 2000 ((x3 + (2 : Int32))).toNatClampNeg), .int (h.1 2000 ((x3 + (3 : Int32))).toNatClampNeg)]) (st := []) rfl dL_law_1544 rfl w_1011 ok_X10_racks vi_X10_racks c_0 (by decide) rfl rfl rfl (by decide) (Nat.le_of_ble_eq_true rfl) hC5 (fun v6 h7 hq8 => ?_)
  have k := k v6 h7 hq8
  refine go_aload_n (pc2 := 1548) dL_law_1547 rfl rfl rfl ?_
  refine go_aload_n (pc2 := 1549) dL_law_1548 rfl rfl rfl ?_
  refine go_iload_n (pc2 := 1550) dL_law_1549 rfl rfl rfl ?_
  refine go_iconst (pc2 := 1551) (v := (1 : Int32)) dL_law_1550 rfl (by decide) ?_
  refine go_iadd (pc2 := 1552) dL_law_1551 rfl ?_
  obtain ⟨y9, k⟩ := k
  refine go_sld (pc2 := 1553) dL_law_1552 rfl y9 rfl ?_
  refine go_aload_n (pc2 := 1554) dL_law_1553 rfl rfl rfl ?_
  refine go_iload_n (pc2 := 1555) dL_law_1554 rfl rfl rfl ?_
  refine go_iconst (pc2 := 1556) (v := (2 : Int32)) dL_law_1555 rfl (by decide) ?_
  refine go_iadd (pc2 := 1557) dL_law_1556 rfl ?_
  obtain ⟨y10, k⟩ := k
  refine go_sld (pc2 := 1558) dL_law_1557 rfl y10 rfl ?_
  refine go_aload_n (pc2 := 1559) dL_law_1558 rfl rfl rfl ?_
  refine go_iload_n (pc2 := 1560) dL_law_1559 rfl rfl rfl ?_
  refine go_iconst (pc2 := 1561) (v := (3 : Int32)) dL_law_1560 rfl (by decide) ?_
  refine go_iadd (pc2 := 1562) dL_law_1561 rfl ?_
  obtain ⟨y11, k⟩ := k
  refine go_sld (pc2 := 1563) dL_law_1562 rfl y11 rfl ?_
  obtain ⟨Q12, hC13, k⟩ := k
  refine gcV_I (pc2 := 1566) (dC := 2) (As := [.int (h7.1 2000 ((x3 + (1 : Int32))).toNatClampNeg), .int (h7.1 2000 ((x3 + (2 : Int32))).toNatClampNeg), .int (h7.1 2000 ((x3 + (3 : Int32))).toNatClampNeg)]) (st := [.int v6]) rfl dL_law_1563 rfl w_1562 ok_X11_racks vi_X11_racks c_113 (by decide) rfl rfl rfl (by decide) (Nat.le_of_ble_eq_true rfl) hC13 (fun v14 h15 hq16 => ?_)
  have k := k v14 h15 hq16
  refine go_icmp_eq (pc2 := 1569) (tgt := 1729) dL_law_1566 rfl (by decide) (fun c => ?_) (fun c => ?_)
  · have k := k.1 c
    exact k
  · have k := k.2 c
    refine go_iconst (pc2 := 1570) (v := (0 : Int32)) dL_law_1569 rfl (by decide) ?_
    exact go_iret dL_law_1570 ⟨_, rfl, rfl⟩ ⟨rfl, _, rfl, k⟩
theorem b_L_law_1485 {x3 : Int32} {h : Hp} {Q : Int32 → Hp → Prop}  (k : (vp_in (x3 + (1 : Int32)) (h.1 2001 0).toNatClampNeg ∧ (vp_in (x3 + (2 : Int32)) (h.1 2001 0).toNatClampNeg ∧ (vp_in (x3 + (3 : Int32)) (h.1 2001 0).toNatClampNeg ∧ (∃ Q4, CtI 1 mX10_rack [.ref 0, .int (h.1 2000 ((x3 + (1 : Int32))).toNatClampNeg), .int (h.1 2000 ((x3 + (2 : Int32))).toNatClampNeg), .int (h.1 2000 ((x3 + (3 : Int32))).toNatClampNeg)] h Q4 ∧ ∀ (v6 : Int32) (h7 : Hp), Q4 v6 h7 → (vp_in (x3 + (1 : Int32)) (h7.1 2001 0).toNatClampNeg ∧ (vp_in (x3 + (2 : Int32)) (h7.1 2001 0).toNatClampNeg ∧ (vp_in (x3 + (3 : Int32)) (h7.1 2001 0).toNatClampNeg ∧ (∃ Q12, CtI 2 mX11_rack [.ref 113, .int (h7.1 2000 ((x3 + (1 : Int32))).toNatClampNeg), .int (h7.1 2000 ((x3 + (2 : Int32))).toNatClampNeg), .int (h7.1 2000 ((x3 + (3 : Int32))).toNatClampNeg)] h7 Q12 ∧ ∀ (v14 : Int32) (h15 : Hp), Q12 v14 h15 → ((v6 = v14 → GoI 10 mL_law 1729 [(0, .ref 2000), (1, .ref 0), (2, .ref 113), (3, .int x3)] [] h15 Q) ∧ (¬ v6 = v14 → Q (0 : Int32) h15))))))))))) : GoI 10 mL_law 1485 [(0, .ref 2000), (1, .ref 0), (2, .ref 113), (3, .int x3)] [] h Q := by
  refine go_aload_n (pc2 := 1486) dL_law_1485 rfl rfl rfl ?_
  refine go_aload_n (pc2 := 1487) dL_law_1486 rfl rfl rfl ?_
  refine go_iload_n (pc2 := 1488) dL_law_1487 rfl rfl rfl ?_
  refine go_iconst (pc2 := 1489) (v := (1 : Int32)) dL_law_1488 rfl (by decide) ?_
  refine go_iadd (pc2 := 1490) dL_law_1489 rfl ?_
  obtain ⟨y1, k⟩ := k
  refine go_sld (pc2 := 1491) dL_law_1490 rfl y1 rfl ?_
  refine go_aload_n (pc2 := 1492) dL_law_1491 rfl rfl rfl ?_
  refine go_iload_n (pc2 := 1493) dL_law_1492 rfl rfl rfl ?_
  refine go_iconst (pc2 := 1494) (v := (2 : Int32)) dL_law_1493 rfl (by decide) ?_
  refine go_iadd (pc2 := 1495) dL_law_1494 rfl ?_
  obtain ⟨y2, k⟩ := k
  refine go_sld (pc2 := 1496) dL_law_1495 rfl y2 rfl ?_
  refine go_aload_n (pc2 := 1497) dL_law_1496 rfl rfl rfl ?_
  refine go_iload_n (pc2 := 1498) dL_law_1497 rfl rfl rfl ?_
  refine go_iconst (pc2 := 1499) (v := (3 : Int32)) dL_law_1498 rfl (by decide) ?_
  refine go_iadd (pc2 := 1500) dL_law_1499 rfl ?_
  obtain ⟨y3, k⟩ := k
  refine go_sld (pc2 := 1501) dL_law_1500 rfl y3 rfl ?_
  obtain ⟨Q4, hC5, k⟩ := k
  refine gcV_I (pc2 := 1504) (dC := 1) (As := [.int (h.1 2000 ((x3 + (1 : Int32))).toNatClampNeg), .int (h.1 2000 ((x3 + (2 : Int32))).toNatClampNeg), .int (h.1 2000 ((x3 + (3 : Int32))).toNatClampNeg)]) (st := []) rfl dL_law_1501 rfl w_1000 ok_X10_rack vi_X10_rack c_0 (by decide) rfl rfl rfl (by decide) (Nat.le_of_ble_eq_true rfl) hC5 (fun v6 h7 hq8 => ?_)
  have k := k v6 h7 hq8
  refine go_aload_n (pc2 := 1505) dL_law_1504 rfl rfl rfl ?_
  refine go_aload_n (pc2 := 1506) dL_law_1505 rfl rfl rfl ?_
  refine go_iload_n (pc2 := 1507) dL_law_1506 rfl rfl rfl ?_
  refine go_iconst (pc2 := 1508) (v := (1 : Int32)) dL_law_1507 rfl (by decide) ?_
  refine go_iadd (pc2 := 1509) dL_law_1508 rfl ?_
  obtain ⟨y9, k⟩ := k
  refine go_sld (pc2 := 1510) dL_law_1509 rfl y9 rfl ?_
  refine go_aload_n (pc2 := 1511) dL_law_1510 rfl rfl rfl ?_
  refine go_iload_n (pc2 := 1512) dL_law_1511 rfl rfl rfl ?_
  refine go_iconst (pc2 := 1513) (v := (2 : Int32)) dL_law_1512 rfl (by decide) ?_
  refine go_iadd (pc2 := 1514) dL_law_1513 rfl ?_
  obtain ⟨y10, k⟩ := k
  refine go_sld (pc2 := 1515) dL_law_1514 rfl y10 rfl ?_
  refine go_aload_n (pc2 := 1516) dL_law_1515 rfl rfl rfl ?_
  refine go_iload_n (pc2 := 1517) dL_law_1516 rfl rfl rfl ?_
  refine go_iconst (pc2 := 1518) (v := (3 : Int32)) dL_law_1517 rfl (by decide) ?_
  refine go_iadd (pc2 := 1519) dL_law_1518 rfl ?_
  obtain ⟨y11, k⟩ := k
  refine go_sld (pc2 := 1520) dL_law_1519 rfl y11 rfl ?_
  obtain ⟨Q12, hC13, k⟩ := k
  refine gcV_I (pc2 := 1523) (dC := 2) (As := [.int (h7.1 2000 ((x3 + (1 : Int32))).toNatClampNeg), .int (h7.1 2000 ((x3 + (2 : Int32))).toNatClampNeg), .int (h7.1 2000 ((x3 + (3 : Int32))).toNatClampNeg)]) (st := [.int v6]) rfl dL_law_1520 rfl w_1552 ok_X11_rack vi_X11_rack c_113 (by decide) rfl rfl rfl (by decide) (Nat.le_of_ble_eq_true rfl) hC13 (fun v14 h15 hq16 => ?_)
  have k := k v14 h15 hq16
  refine go_icmp_eq (pc2 := 1526) (tgt := 1729) dL_law_1523 rfl (by decide) (fun c => ?_) (fun c => ?_)
  · have k := k.1 c
    exact k
  · have k := k.2 c
    refine go_iconst (pc2 := 1527) (v := (0 : Int32)) dL_law_1526 rfl (by decide) ?_
    exact go_iret dL_law_1527 ⟨_, rfl, rfl⟩ ⟨rfl, _, rfl, k⟩
theorem b_L_law_1462 {x3 : Int32} {h : Hp} {Q : Int32 → Hp → Prop}  (k : (vp_in (x3 + (1 : Int32)) (h.1 2001 0).toNatClampNeg ∧ (∃ Q2, CtI 6 mX10_bills [.ref 0, .int (h.1 2000 ((x3 + (1 : Int32))).toNatClampNeg)] h Q2 ∧ ∀ (v4 : Int32) (h5 : Hp), Q2 v4 h5 → (vp_in (x3 + (1 : Int32)) (h5.1 2001 0).toNatClampNeg ∧ (∃ Q8, CtI 8 mX11_bills [.ref 113, .int (h5.1 2000 ((x3 + (1 : Int32))).toNatClampNeg)] h5 Q8 ∧ ∀ (v10 : Int32) (h11 : Hp), Q8 v10 h11 → ((v4 = v10 → GoI 10 mL_law 1729 [(0, .ref 2000), (1, .ref 0), (2, .ref 113), (3, .int x3)] [] h11 Q) ∧ (¬ v4 = v10 → Q (0 : Int32) h11))))))) : GoI 10 mL_law 1462 [(0, .ref 2000), (1, .ref 0), (2, .ref 113), (3, .int x3)] [] h Q := by
  refine go_aload_n (pc2 := 1463) dL_law_1462 rfl rfl rfl ?_
  refine go_aload_n (pc2 := 1464) dL_law_1463 rfl rfl rfl ?_
  refine go_iload_n (pc2 := 1465) dL_law_1464 rfl rfl rfl ?_
  refine go_iconst (pc2 := 1466) (v := (1 : Int32)) dL_law_1465 rfl (by decide) ?_
  refine go_iadd (pc2 := 1467) dL_law_1466 rfl ?_
  obtain ⟨y1, k⟩ := k
  refine go_sld (pc2 := 1468) dL_law_1467 rfl y1 rfl ?_
  obtain ⟨Q2, hC3, k⟩ := k
  refine gcV_I (pc2 := 1471) (dC := 6) (As := [.int (h.1 2000 ((x3 + (1 : Int32))).toNatClampNeg)]) (st := []) rfl dL_law_1468 rfl w_996 ok_X10_bills vi_X10_bills c_0 (by decide) rfl rfl rfl (by decide) (Nat.le_of_ble_eq_true rfl) hC3 (fun v4 h5 hq6 => ?_)
  have k := k v4 h5 hq6
  refine go_aload_n (pc2 := 1472) dL_law_1471 rfl rfl rfl ?_
  refine go_aload_n (pc2 := 1473) dL_law_1472 rfl rfl rfl ?_
  refine go_iload_n (pc2 := 1474) dL_law_1473 rfl rfl rfl ?_
  refine go_iconst (pc2 := 1475) (v := (1 : Int32)) dL_law_1474 rfl (by decide) ?_
  refine go_iadd (pc2 := 1476) dL_law_1475 rfl ?_
  obtain ⟨y7, k⟩ := k
  refine go_sld (pc2 := 1477) dL_law_1476 rfl y7 rfl ?_
  obtain ⟨Q8, hC9, k⟩ := k
  refine gcV_I (pc2 := 1480) (dC := 8) (As := [.int (h5.1 2000 ((x3 + (1 : Int32))).toNatClampNeg)]) (st := [.int v4]) rfl dL_law_1477 rfl w_1548 ok_X11_bills vi_X11_bills c_113 (by decide) rfl rfl rfl (by decide) (Nat.le_of_ble_eq_true rfl) hC9 (fun v10 h11 hq12 => ?_)
  have k := k v10 h11 hq12
  refine go_icmp_eq (pc2 := 1483) (tgt := 1729) dL_law_1480 rfl (by decide) (fun c => ?_) (fun c => ?_)
  · have k := k.1 c
    exact k
  · have k := k.2 c
    refine go_iconst (pc2 := 1484) (v := (0 : Int32)) dL_law_1483 rfl (by decide) ?_
    exact go_iret dL_law_1484 ⟨_, rfl, rfl⟩ ⟨rfl, _, rfl, k⟩
theorem b_L_law_1448 {x3 : Int32} {h : Hp} {Q : Int32 → Hp → Prop}  (k : (∃ Q1, CtL 0 mX10_purse [.ref 0] h Q1 ∧ ∀ (v3 : Int64) (h4 : Hp), Q1 v3 h4 → (∃ Q6, CtL 0 mX11_purse [.ref 113] h4 Q6 ∧ ∀ (v8 : Int64) (h9 : Hp), Q6 v8 h9 → (((lg_cmp v3 v8) = 0 → GoI 10 mL_law 1729 [(0, .ref 2000), (1, .ref 0), (2, .ref 113), (3, .int x3)] [] h9 Q) ∧ (¬ (lg_cmp v3 v8) = 0 → Q (0 : Int32) h9))))) : GoI 10 mL_law 1448 [(0, .ref 2000), (1, .ref 0), (2, .ref 113), (3, .int x3)] [] h Q := by
  refine go_aload_n (pc2 := 1449) dL_law_1448 rfl rfl rfl ?_
  obtain ⟨Q1, hC2, k⟩ := k
  refine gcV_L (pc2 := 1452) (dC := 0) (As := []) (st := []) rfl dL_law_1449 rfl w_992 ok_X10_purse vi_X10_purse c_0 (by decide) rfl rfl rfl (by decide) (Nat.le_of_ble_eq_true rfl) hC2 (fun v3 h4 hq5 => ?_)
  have k := k v3 h4 hq5
  refine go_aload_n (pc2 := 1453) dL_law_1452 rfl rfl rfl ?_
  obtain ⟨Q6, hC7, k⟩ := k
  refine gcV_L (pc2 := 1456) (dC := 0) (As := []) (st := [.long v3]) rfl dL_law_1453 rfl w_1544 ok_X11_purse vi_X11_purse c_113 (by decide) rfl rfl rfl (by decide) (Nat.le_of_ble_eq_true rfl) hC7 (fun v8 h9 hq10 => ?_)
  have k := k v8 h9 hq10
  refine go_lcmp (pc2 := 1457) dL_law_1456 rfl ?_
  refine go_if_eq (pc2 := 1460) (tgt := 1729) dL_law_1457 rfl (by decide) (fun c => ?_) (fun c => ?_)
  · have k := k.1 c
    exact k
  · have k := k.2 c
    refine go_iconst (pc2 := 1461) (v := (0 : Int32)) dL_law_1460 rfl (by decide) ?_
    exact go_iret dL_law_1461 ⟨_, rfl, rfl⟩ ⟨rfl, _, rfl, k⟩
theorem b_L_law_1355 {x3 : Int32} {h : Hp} {Q : Int32 → Hp → Prop}  (k : (vp_in (x3 + (1 : Int32)) (h.1 2001 0).toNatClampNeg ∧ (vp_in (x3 + (2 : Int32)) (h.1 2001 0).toNatClampNeg ∧ (vp_in (x3 + (3 : Int32)) (h.1 2001 0).toNatClampNeg ∧ (vp_in (x3 + (4 : Int32)) (h.1 2001 0).toNatClampNeg ∧ (∃ Q5, CtI 1 mX10_pays [.ref 0, .long ((((h.1 2000 ((x3 + (1 : Int32))).toNatClampNeg)).toInt64 <<< (((32 : Int32)).toInt64 &&& 63)) ||| (((h.1 2000 ((x3 + (2 : Int32))).toNatClampNeg)).toInt64 &&& (4294967295 : Int64))), .long ((((h.1 2000 ((x3 + (3 : Int32))).toNatClampNeg)).toInt64 <<< (((32 : Int32)).toInt64 &&& 63)) ||| (((h.1 2000 ((x3 + (4 : Int32))).toNatClampNeg)).toInt64 &&& (4294967295 : Int64)))] h Q5 ∧ ∀ (v7 : Int32) (h8 : Hp), Q5 v7 h8 → (vp_in (x3 + (1 : Int32)) (h8.1 2001 0).toNatClampNeg ∧ (vp_in (x3 + (2 : Int32)) (h8.1 2001 0).toNatClampNeg ∧ (vp_in (x3 + (3 : Int32)) (h8.1 2001 0).toNatClampNeg ∧ (vp_in (x3 + (4 : Int32)) (h8.1 2001 0).toNatClampNeg ∧ (∃ Q14, CtI 1 mX11_pays [.ref 113, .long ((((h8.1 2000 ((x3 + (1 : Int32))).toNatClampNeg)).toInt64 <<< (((32 : Int32)).toInt64 &&& 63)) ||| (((h8.1 2000 ((x3 + (2 : Int32))).toNatClampNeg)).toInt64 &&& (4294967295 : Int64))), .long ((((h8.1 2000 ((x3 + (3 : Int32))).toNatClampNeg)).toInt64 <<< (((32 : Int32)).toInt64 &&& 63)) ||| (((h8.1 2000 ((x3 + (4 : Int32))).toNatClampNeg)).toInt64 &&& (4294967295 : Int64)))] h8 Q14 ∧ ∀ (v16 : Int32) (h17 : Hp), Q14 v16 h17 → ((v7 = v16 → GoI 10 mL_law 1729 [(0, .ref 2000), (1, .ref 0), (2, .ref 113), (3, .int x3)] [] h17 Q) ∧ (¬ v7 = v16 → Q (0 : Int32) h17))))))))))))) : GoI 10 mL_law 1355 [(0, .ref 2000), (1, .ref 0), (2, .ref 113), (3, .int x3)] [] h Q := by
  refine go_aload_n (pc2 := 1356) dL_law_1355 rfl rfl rfl ?_
  refine go_aload_n (pc2 := 1357) dL_law_1356 rfl rfl rfl ?_
  refine go_iload_n (pc2 := 1358) dL_law_1357 rfl rfl rfl ?_
  refine go_iconst (pc2 := 1359) (v := (1 : Int32)) dL_law_1358 rfl (by decide) ?_
  refine go_iadd (pc2 := 1360) dL_law_1359 rfl ?_
  obtain ⟨y1, k⟩ := k
  refine go_sld (pc2 := 1361) dL_law_1360 rfl y1 rfl ?_
  refine go_i2l (pc2 := 1362) dL_law_1361 rfl ?_
  refine go_bipush (pc2 := 1364) (v := (32 : Int32)) dL_law_1362 rfl (by decide) ?_
  refine go_lshl (pc2 := 1365) (v := (((h.1 2000 ((x3 + (1 : Int32))).toNatClampNeg)).toInt64 <<< (((32 : Int32)).toInt64 &&& 63))) dL_law_1364 rfl rfl ?_
  refine go_aload_n (pc2 := 1366) dL_law_1365 rfl rfl rfl ?_
  refine go_iload_n (pc2 := 1367) dL_law_1366 rfl rfl rfl ?_
  refine go_iconst (pc2 := 1368) (v := (2 : Int32)) dL_law_1367 rfl (by decide) ?_
  refine go_iadd (pc2 := 1369) dL_law_1368 rfl ?_
  obtain ⟨y2, k⟩ := k
  refine go_sld (pc2 := 1370) dL_law_1369 rfl y2 rfl ?_
  refine go_i2l (pc2 := 1371) dL_law_1370 rfl ?_
  refine go_ldc2 (pc2 := 1374) dL_law_1371 rfl rfl w_1649 ?_
  refine go_land (pc2 := 1375) dL_law_1374 rfl ?_
  refine go_lor (pc2 := 1376) dL_law_1375 rfl ?_
  refine go_aload_n (pc2 := 1377) dL_law_1376 rfl rfl rfl ?_
  refine go_iload_n (pc2 := 1378) dL_law_1377 rfl rfl rfl ?_
  refine go_iconst (pc2 := 1379) (v := (3 : Int32)) dL_law_1378 rfl (by decide) ?_
  refine go_iadd (pc2 := 1380) dL_law_1379 rfl ?_
  obtain ⟨y3, k⟩ := k
  refine go_sld (pc2 := 1381) dL_law_1380 rfl y3 rfl ?_
  refine go_i2l (pc2 := 1382) dL_law_1381 rfl ?_
  refine go_bipush (pc2 := 1384) (v := (32 : Int32)) dL_law_1382 rfl (by decide) ?_
  refine go_lshl (pc2 := 1385) (v := (((h.1 2000 ((x3 + (3 : Int32))).toNatClampNeg)).toInt64 <<< (((32 : Int32)).toInt64 &&& 63))) dL_law_1384 rfl rfl ?_
  refine go_aload_n (pc2 := 1386) dL_law_1385 rfl rfl rfl ?_
  refine go_iload_n (pc2 := 1387) dL_law_1386 rfl rfl rfl ?_
  refine go_iconst (pc2 := 1388) (v := (4 : Int32)) dL_law_1387 rfl (by decide) ?_
  refine go_iadd (pc2 := 1389) dL_law_1388 rfl ?_
  obtain ⟨y4, k⟩ := k
  refine go_sld (pc2 := 1390) dL_law_1389 rfl y4 rfl ?_
  refine go_i2l (pc2 := 1391) dL_law_1390 rfl ?_
  refine go_ldc2 (pc2 := 1394) dL_law_1391 rfl rfl w_1649 ?_
  refine go_land (pc2 := 1395) dL_law_1394 rfl ?_
  refine go_lor (pc2 := 1396) dL_law_1395 rfl ?_
  obtain ⟨Q5, hC6, k⟩ := k
  refine gcV_I (pc2 := 1399) (dC := 1) (As := [.long ((((h.1 2000 ((x3 + (1 : Int32))).toNatClampNeg)).toInt64 <<< (((32 : Int32)).toInt64 &&& 63)) ||| (((h.1 2000 ((x3 + (2 : Int32))).toNatClampNeg)).toInt64 &&& (4294967295 : Int64))), .long ((((h.1 2000 ((x3 + (3 : Int32))).toNatClampNeg)).toInt64 <<< (((32 : Int32)).toInt64 &&& 63)) ||| (((h.1 2000 ((x3 + (4 : Int32))).toNatClampNeg)).toInt64 &&& (4294967295 : Int64)))]) (st := []) rfl dL_law_1396 rfl w_983 ok_X10_pays vi_X10_pays c_0 (by decide) rfl rfl rfl (by decide) (Nat.le_of_ble_eq_true rfl) hC6 (fun v7 h8 hq9 => ?_)
  have k := k v7 h8 hq9
  refine go_aload_n (pc2 := 1400) dL_law_1399 rfl rfl rfl ?_
  refine go_aload_n (pc2 := 1401) dL_law_1400 rfl rfl rfl ?_
  refine go_iload_n (pc2 := 1402) dL_law_1401 rfl rfl rfl ?_
  refine go_iconst (pc2 := 1403) (v := (1 : Int32)) dL_law_1402 rfl (by decide) ?_
  refine go_iadd (pc2 := 1404) dL_law_1403 rfl ?_
  obtain ⟨y10, k⟩ := k
  refine go_sld (pc2 := 1405) dL_law_1404 rfl y10 rfl ?_
  refine go_i2l (pc2 := 1406) dL_law_1405 rfl ?_
  refine go_bipush (pc2 := 1408) (v := (32 : Int32)) dL_law_1406 rfl (by decide) ?_
  refine go_lshl (pc2 := 1409) (v := (((h8.1 2000 ((x3 + (1 : Int32))).toNatClampNeg)).toInt64 <<< (((32 : Int32)).toInt64 &&& 63))) dL_law_1408 rfl rfl ?_
  refine go_aload_n (pc2 := 1410) dL_law_1409 rfl rfl rfl ?_
  refine go_iload_n (pc2 := 1411) dL_law_1410 rfl rfl rfl ?_
  refine go_iconst (pc2 := 1412) (v := (2 : Int32)) dL_law_1411 rfl (by decide) ?_
  refine go_iadd (pc2 := 1413) dL_law_1412 rfl ?_
  obtain ⟨y11, k⟩ := k
  refine go_sld (pc2 := 1414) dL_law_1413 rfl y11 rfl ?_
  refine go_i2l (pc2 := 1415) dL_law_1414 rfl ?_
  refine go_ldc2 (pc2 := 1418) dL_law_1415 rfl rfl w_1649 ?_
  refine go_land (pc2 := 1419) dL_law_1418 rfl ?_
  refine go_lor (pc2 := 1420) dL_law_1419 rfl ?_
  refine go_aload_n (pc2 := 1421) dL_law_1420 rfl rfl rfl ?_
  refine go_iload_n (pc2 := 1422) dL_law_1421 rfl rfl rfl ?_
  refine go_iconst (pc2 := 1423) (v := (3 : Int32)) dL_law_1422 rfl (by decide) ?_
  refine go_iadd (pc2 := 1424) dL_law_1423 rfl ?_
  obtain ⟨y12, k⟩ := k
  refine go_sld (pc2 := 1425) dL_law_1424 rfl y12 rfl ?_
  refine go_i2l (pc2 := 1426) dL_law_1425 rfl ?_
  refine go_bipush (pc2 := 1428) (v := (32 : Int32)) dL_law_1426 rfl (by decide) ?_
  refine go_lshl (pc2 := 1429) (v := (((h8.1 2000 ((x3 + (3 : Int32))).toNatClampNeg)).toInt64 <<< (((32 : Int32)).toInt64 &&& 63))) dL_law_1428 rfl rfl ?_
  refine go_aload_n (pc2 := 1430) dL_law_1429 rfl rfl rfl ?_
  refine go_iload_n (pc2 := 1431) dL_law_1430 rfl rfl rfl ?_
  refine go_iconst (pc2 := 1432) (v := (4 : Int32)) dL_law_1431 rfl (by decide) ?_
  refine go_iadd (pc2 := 1433) dL_law_1432 rfl ?_
  obtain ⟨y13, k⟩ := k
  refine go_sld (pc2 := 1434) dL_law_1433 rfl y13 rfl ?_
  refine go_i2l (pc2 := 1435) dL_law_1434 rfl ?_
  refine go_ldc2 (pc2 := 1438) dL_law_1435 rfl rfl w_1649 ?_
  refine go_land (pc2 := 1439) dL_law_1438 rfl ?_
  refine go_lor (pc2 := 1440) dL_law_1439 rfl ?_
  obtain ⟨Q14, hC15, k⟩ := k
  refine gcV_I (pc2 := 1443) (dC := 1) (As := [.long ((((h8.1 2000 ((x3 + (1 : Int32))).toNatClampNeg)).toInt64 <<< (((32 : Int32)).toInt64 &&& 63)) ||| (((h8.1 2000 ((x3 + (2 : Int32))).toNatClampNeg)).toInt64 &&& (4294967295 : Int64))), .long ((((h8.1 2000 ((x3 + (3 : Int32))).toNatClampNeg)).toInt64 <<< (((32 : Int32)).toInt64 &&& 63)) ||| (((h8.1 2000 ((x3 + (4 : Int32))).toNatClampNeg)).toInt64 &&& (4294967295 : Int64)))]) (st := [.int v7]) rfl dL_law_1440 rfl w_1531 ok_X11_pays vi_X11_pays c_113 (by decide) rfl rfl rfl (by decide) (Nat.le_of_ble_eq_true rfl) hC15 (fun v16 h17 hq18 => ?_)
  have k := k v16 h17 hq18
  refine go_icmp_eq (pc2 := 1446) (tgt := 1729) dL_law_1443 rfl (by decide) (fun c => ?_) (fun c => ?_)
  · have k := k.1 c
    exact k
  · have k := k.2 c
    refine go_iconst (pc2 := 1447) (v := (0 : Int32)) dL_law_1446 rfl (by decide) ?_
    exact go_iret dL_law_1447 ⟨_, rfl, rfl⟩ ⟨rfl, _, rfl, k⟩
theorem b_L_law_1322 {x3 : Int32} {h : Hp} {Q : Int32 → Hp → Prop}  (k : (vp_in (x3 + (1 : Int32)) (h.1 2001 0).toNatClampNeg ∧ (vp_in (x3 + (2 : Int32)) (h.1 2001 0).toNatClampNeg ∧ (∃ Q3, CtI 6 mX10_lays [.ref 0, .int (h.1 2000 ((x3 + (1 : Int32))).toNatClampNeg), .int (h.1 2000 ((x3 + (2 : Int32))).toNatClampNeg)] h Q3 ∧ ∀ (v5 : Int32) (h6 : Hp), Q3 v5 h6 → (vp_in (x3 + (1 : Int32)) (h6.1 2001 0).toNatClampNeg ∧ (vp_in (x3 + (2 : Int32)) (h6.1 2001 0).toNatClampNeg ∧ (∃ Q10, CtI 8 mX11_lays [.ref 113, .int (h6.1 2000 ((x3 + (1 : Int32))).toNatClampNeg), .int (h6.1 2000 ((x3 + (2 : Int32))).toNatClampNeg)] h6 Q10 ∧ ∀ (v12 : Int32) (h13 : Hp), Q10 v12 h13 → ((v5 = v12 → GoI 10 mL_law 1729 [(0, .ref 2000), (1, .ref 0), (2, .ref 113), (3, .int x3)] [] h13 Q) ∧ (¬ v5 = v12 → Q (0 : Int32) h13))))))))) : GoI 10 mL_law 1322 [(0, .ref 2000), (1, .ref 0), (2, .ref 113), (3, .int x3)] [] h Q := by
  refine go_aload_n (pc2 := 1323) dL_law_1322 rfl rfl rfl ?_
  refine go_aload_n (pc2 := 1324) dL_law_1323 rfl rfl rfl ?_
  refine go_iload_n (pc2 := 1325) dL_law_1324 rfl rfl rfl ?_
  refine go_iconst (pc2 := 1326) (v := (1 : Int32)) dL_law_1325 rfl (by decide) ?_
  refine go_iadd (pc2 := 1327) dL_law_1326 rfl ?_
  obtain ⟨y1, k⟩ := k
  refine go_sld (pc2 := 1328) dL_law_1327 rfl y1 rfl ?_
  refine go_aload_n (pc2 := 1329) dL_law_1328 rfl rfl rfl ?_
  refine go_iload_n (pc2 := 1330) dL_law_1329 rfl rfl rfl ?_
  refine go_iconst (pc2 := 1331) (v := (2 : Int32)) dL_law_1330 rfl (by decide) ?_
  refine go_iadd (pc2 := 1332) dL_law_1331 rfl ?_
  obtain ⟨y2, k⟩ := k
  refine go_sld (pc2 := 1333) dL_law_1332 rfl y2 rfl ?_
  obtain ⟨Q3, hC4, k⟩ := k
  refine gcV_I (pc2 := 1336) (dC := 6) (As := [.int (h.1 2000 ((x3 + (1 : Int32))).toNatClampNeg), .int (h.1 2000 ((x3 + (2 : Int32))).toNatClampNeg)]) (st := []) rfl dL_law_1333 rfl w_979 ok_X10_lays vi_X10_lays c_0 (by decide) rfl rfl rfl (by decide) (Nat.le_of_ble_eq_true rfl) hC4 (fun v5 h6 hq7 => ?_)
  have k := k v5 h6 hq7
  refine go_aload_n (pc2 := 1337) dL_law_1336 rfl rfl rfl ?_
  refine go_aload_n (pc2 := 1338) dL_law_1337 rfl rfl rfl ?_
  refine go_iload_n (pc2 := 1339) dL_law_1338 rfl rfl rfl ?_
  refine go_iconst (pc2 := 1340) (v := (1 : Int32)) dL_law_1339 rfl (by decide) ?_
  refine go_iadd (pc2 := 1341) dL_law_1340 rfl ?_
  obtain ⟨y8, k⟩ := k
  refine go_sld (pc2 := 1342) dL_law_1341 rfl y8 rfl ?_
  refine go_aload_n (pc2 := 1343) dL_law_1342 rfl rfl rfl ?_
  refine go_iload_n (pc2 := 1344) dL_law_1343 rfl rfl rfl ?_
  refine go_iconst (pc2 := 1345) (v := (2 : Int32)) dL_law_1344 rfl (by decide) ?_
  refine go_iadd (pc2 := 1346) dL_law_1345 rfl ?_
  obtain ⟨y9, k⟩ := k
  refine go_sld (pc2 := 1347) dL_law_1346 rfl y9 rfl ?_
  obtain ⟨Q10, hC11, k⟩ := k
  refine gcV_I (pc2 := 1350) (dC := 8) (As := [.int (h6.1 2000 ((x3 + (1 : Int32))).toNatClampNeg), .int (h6.1 2000 ((x3 + (2 : Int32))).toNatClampNeg)]) (st := [.int v5]) rfl dL_law_1347 rfl w_1504 ok_X11_lays vi_X11_lays c_113 (by decide) rfl rfl rfl (by decide) (Nat.le_of_ble_eq_true rfl) hC11 (fun v12 h13 hq14 => ?_)
  have k := k v12 h13 hq14
  refine go_icmp_eq (pc2 := 1353) (tgt := 1729) dL_law_1350 rfl (by decide) (fun c => ?_) (fun c => ?_)
  · have k := k.1 c
    exact k
  · have k := k.2 c
    refine go_iconst (pc2 := 1354) (v := (0 : Int32)) dL_law_1353 rfl (by decide) ?_
    exact go_iret dL_law_1354 ⟨_, rfl, rfl⟩ ⟨rfl, _, rfl, k⟩
theorem b_L_law_1279 {x3 : Int32} {h : Hp} {Q : Int32 → Hp → Prop}  (k : (vp_in (x3 + (1 : Int32)) (h.1 2001 0).toNatClampNeg ∧ (vp_in (x3 + (2 : Int32)) (h.1 2001 0).toNatClampNeg ∧ (vp_in (x3 + (3 : Int32)) (h.1 2001 0).toNatClampNeg ∧ (∃ Q4, CtI 1 mX10_put [.ref 0, .int (h.1 2000 ((x3 + (1 : Int32))).toNatClampNeg), .int (h.1 2000 ((x3 + (2 : Int32))).toNatClampNeg), .int (h.1 2000 ((x3 + (3 : Int32))).toNatClampNeg)] h Q4 ∧ ∀ (v6 : Int32) (h7 : Hp), Q4 v6 h7 → (vp_in (x3 + (1 : Int32)) (h7.1 2001 0).toNatClampNeg ∧ (vp_in (x3 + (2 : Int32)) (h7.1 2001 0).toNatClampNeg ∧ (vp_in (x3 + (3 : Int32)) (h7.1 2001 0).toNatClampNeg ∧ (∃ Q12, CtI 2 mX11_put [.ref 113, .int (h7.1 2000 ((x3 + (1 : Int32))).toNatClampNeg), .int (h7.1 2000 ((x3 + (2 : Int32))).toNatClampNeg), .int (h7.1 2000 ((x3 + (3 : Int32))).toNatClampNeg)] h7 Q12 ∧ ∀ (v14 : Int32) (h15 : Hp), Q12 v14 h15 → ((v6 = v14 → GoI 10 mL_law 1729 [(0, .ref 2000), (1, .ref 0), (2, .ref 113), (3, .int x3)] [] h15 Q) ∧ (¬ v6 = v14 → Q (0 : Int32) h15))))))))))) : GoI 10 mL_law 1279 [(0, .ref 2000), (1, .ref 0), (2, .ref 113), (3, .int x3)] [] h Q := by
  refine go_aload_n (pc2 := 1280) dL_law_1279 rfl rfl rfl ?_
  refine go_aload_n (pc2 := 1281) dL_law_1280 rfl rfl rfl ?_
  refine go_iload_n (pc2 := 1282) dL_law_1281 rfl rfl rfl ?_
  refine go_iconst (pc2 := 1283) (v := (1 : Int32)) dL_law_1282 rfl (by decide) ?_
  refine go_iadd (pc2 := 1284) dL_law_1283 rfl ?_
  obtain ⟨y1, k⟩ := k
  refine go_sld (pc2 := 1285) dL_law_1284 rfl y1 rfl ?_
  refine go_aload_n (pc2 := 1286) dL_law_1285 rfl rfl rfl ?_
  refine go_iload_n (pc2 := 1287) dL_law_1286 rfl rfl rfl ?_
  refine go_iconst (pc2 := 1288) (v := (2 : Int32)) dL_law_1287 rfl (by decide) ?_
  refine go_iadd (pc2 := 1289) dL_law_1288 rfl ?_
  obtain ⟨y2, k⟩ := k
  refine go_sld (pc2 := 1290) dL_law_1289 rfl y2 rfl ?_
  refine go_aload_n (pc2 := 1291) dL_law_1290 rfl rfl rfl ?_
  refine go_iload_n (pc2 := 1292) dL_law_1291 rfl rfl rfl ?_
  refine go_iconst (pc2 := 1293) (v := (3 : Int32)) dL_law_1292 rfl (by decide) ?_
  refine go_iadd (pc2 := 1294) dL_law_1293 rfl ?_
  obtain ⟨y3, k⟩ := k
  refine go_sld (pc2 := 1295) dL_law_1294 rfl y3 rfl ?_
  obtain ⟨Q4, hC5, k⟩ := k
  refine gcV_I (pc2 := 1298) (dC := 1) (As := [.int (h.1 2000 ((x3 + (1 : Int32))).toNatClampNeg), .int (h.1 2000 ((x3 + (2 : Int32))).toNatClampNeg), .int (h.1 2000 ((x3 + (3 : Int32))).toNatClampNeg)]) (st := []) rfl dL_law_1295 rfl w_971 ok_X10_put vi_X10_put c_0 (by decide) rfl rfl rfl (by decide) (Nat.le_of_ble_eq_true rfl) hC5 (fun v6 h7 hq8 => ?_)
  have k := k v6 h7 hq8
  refine go_aload_n (pc2 := 1299) dL_law_1298 rfl rfl rfl ?_
  refine go_aload_n (pc2 := 1300) dL_law_1299 rfl rfl rfl ?_
  refine go_iload_n (pc2 := 1301) dL_law_1300 rfl rfl rfl ?_
  refine go_iconst (pc2 := 1302) (v := (1 : Int32)) dL_law_1301 rfl (by decide) ?_
  refine go_iadd (pc2 := 1303) dL_law_1302 rfl ?_
  obtain ⟨y9, k⟩ := k
  refine go_sld (pc2 := 1304) dL_law_1303 rfl y9 rfl ?_
  refine go_aload_n (pc2 := 1305) dL_law_1304 rfl rfl rfl ?_
  refine go_iload_n (pc2 := 1306) dL_law_1305 rfl rfl rfl ?_
  refine go_iconst (pc2 := 1307) (v := (2 : Int32)) dL_law_1306 rfl (by decide) ?_
  refine go_iadd (pc2 := 1308) dL_law_1307 rfl ?_
  obtain ⟨y10, k⟩ := k
  refine go_sld (pc2 := 1309) dL_law_1308 rfl y10 rfl ?_
  refine go_aload_n (pc2 := 1310) dL_law_1309 rfl rfl rfl ?_
  refine go_iload_n (pc2 := 1311) dL_law_1310 rfl rfl rfl ?_
  refine go_iconst (pc2 := 1312) (v := (3 : Int32)) dL_law_1311 rfl (by decide) ?_
  refine go_iadd (pc2 := 1313) dL_law_1312 rfl ?_
  obtain ⟨y11, k⟩ := k
  refine go_sld (pc2 := 1314) dL_law_1313 rfl y11 rfl ?_
  obtain ⟨Q12, hC13, k⟩ := k
  refine gcV_I (pc2 := 1317) (dC := 2) (As := [.int (h7.1 2000 ((x3 + (1 : Int32))).toNatClampNeg), .int (h7.1 2000 ((x3 + (2 : Int32))).toNatClampNeg), .int (h7.1 2000 ((x3 + (3 : Int32))).toNatClampNeg)]) (st := [.int v6]) rfl dL_law_1314 rfl w_1500 ok_X11_put vi_X11_put c_113 (by decide) rfl rfl rfl (by decide) (Nat.le_of_ble_eq_true rfl) hC13 (fun v14 h15 hq16 => ?_)
  have k := k v14 h15 hq16
  refine go_icmp_eq (pc2 := 1320) (tgt := 1729) dL_law_1317 rfl (by decide) (fun c => ?_) (fun c => ?_)
  · have k := k.1 c
    exact k
  · have k := k.2 c
    refine go_iconst (pc2 := 1321) (v := (0 : Int32)) dL_law_1320 rfl (by decide) ?_
    exact go_iret dL_law_1321 ⟨_, rfl, rfl⟩ ⟨rfl, _, rfl, k⟩
theorem b_L_law_1246 {x3 : Int32} {h : Hp} {Q : Int32 → Hp → Prop}  (k : (vp_in (x3 + (1 : Int32)) (h.1 2001 0).toNatClampNeg ∧ (vp_in (x3 + (2 : Int32)) (h.1 2001 0).toNatClampNeg ∧ (∃ Q3, CtI 2 mX10_list [.ref 0, .int (h.1 2000 ((x3 + (1 : Int32))).toNatClampNeg), .int (h.1 2000 ((x3 + (2 : Int32))).toNatClampNeg)] h Q3 ∧ ∀ (v5 : Int32) (h6 : Hp), Q3 v5 h6 → (vp_in (x3 + (1 : Int32)) (h6.1 2001 0).toNatClampNeg ∧ (vp_in (x3 + (2 : Int32)) (h6.1 2001 0).toNatClampNeg ∧ (∃ Q10, CtI 2 mX11_list [.ref 113, .int (h6.1 2000 ((x3 + (1 : Int32))).toNatClampNeg), .int (h6.1 2000 ((x3 + (2 : Int32))).toNatClampNeg)] h6 Q10 ∧ ∀ (v12 : Int32) (h13 : Hp), Q10 v12 h13 → ((v5 = v12 → GoI 10 mL_law 1729 [(0, .ref 2000), (1, .ref 0), (2, .ref 113), (3, .int x3)] [] h13 Q) ∧ (¬ v5 = v12 → Q (0 : Int32) h13))))))))) : GoI 10 mL_law 1246 [(0, .ref 2000), (1, .ref 0), (2, .ref 113), (3, .int x3)] [] h Q := by
  refine go_aload_n (pc2 := 1247) dL_law_1246 rfl rfl rfl ?_
  refine go_aload_n (pc2 := 1248) dL_law_1247 rfl rfl rfl ?_
  refine go_iload_n (pc2 := 1249) dL_law_1248 rfl rfl rfl ?_
  refine go_iconst (pc2 := 1250) (v := (1 : Int32)) dL_law_1249 rfl (by decide) ?_
  refine go_iadd (pc2 := 1251) dL_law_1250 rfl ?_
  obtain ⟨y1, k⟩ := k
  refine go_sld (pc2 := 1252) dL_law_1251 rfl y1 rfl ?_
  refine go_aload_n (pc2 := 1253) dL_law_1252 rfl rfl rfl ?_
  refine go_iload_n (pc2 := 1254) dL_law_1253 rfl rfl rfl ?_
  refine go_iconst (pc2 := 1255) (v := (2 : Int32)) dL_law_1254 rfl (by decide) ?_
  refine go_iadd (pc2 := 1256) dL_law_1255 rfl ?_
  obtain ⟨y2, k⟩ := k
  refine go_sld (pc2 := 1257) dL_law_1256 rfl y2 rfl ?_
  obtain ⟨Q3, hC4, k⟩ := k
  refine gcV_I (pc2 := 1260) (dC := 2) (As := [.int (h.1 2000 ((x3 + (1 : Int32))).toNatClampNeg), .int (h.1 2000 ((x3 + (2 : Int32))).toNatClampNeg)]) (st := []) rfl dL_law_1257 rfl w_962 ok_X10_list vi_X10_list c_0 (by decide) rfl rfl rfl (by decide) (Nat.le_of_ble_eq_true rfl) hC4 (fun v5 h6 hq7 => ?_)
  have k := k v5 h6 hq7
  refine go_aload_n (pc2 := 1261) dL_law_1260 rfl rfl rfl ?_
  refine go_aload_n (pc2 := 1262) dL_law_1261 rfl rfl rfl ?_
  refine go_iload_n (pc2 := 1263) dL_law_1262 rfl rfl rfl ?_
  refine go_iconst (pc2 := 1264) (v := (1 : Int32)) dL_law_1263 rfl (by decide) ?_
  refine go_iadd (pc2 := 1265) dL_law_1264 rfl ?_
  obtain ⟨y8, k⟩ := k
  refine go_sld (pc2 := 1266) dL_law_1265 rfl y8 rfl ?_
  refine go_aload_n (pc2 := 1267) dL_law_1266 rfl rfl rfl ?_
  refine go_iload_n (pc2 := 1268) dL_law_1267 rfl rfl rfl ?_
  refine go_iconst (pc2 := 1269) (v := (2 : Int32)) dL_law_1268 rfl (by decide) ?_
  refine go_iadd (pc2 := 1270) dL_law_1269 rfl ?_
  obtain ⟨y9, k⟩ := k
  refine go_sld (pc2 := 1271) dL_law_1270 rfl y9 rfl ?_
  obtain ⟨Q10, hC11, k⟩ := k
  refine gcV_I (pc2 := 1274) (dC := 2) (As := [.int (h6.1 2000 ((x3 + (1 : Int32))).toNatClampNeg), .int (h6.1 2000 ((x3 + (2 : Int32))).toNatClampNeg)]) (st := [.int v5]) rfl dL_law_1271 rfl w_1492 ok_X11_list vi_X11_list c_113 (by decide) rfl rfl rfl (by decide) (Nat.le_of_ble_eq_true rfl) hC11 (fun v12 h13 hq14 => ?_)
  have k := k v12 h13 hq14
  refine go_icmp_eq (pc2 := 1277) (tgt := 1729) dL_law_1274 rfl (by decide) (fun c => ?_) (fun c => ?_)
  · have k := k.1 c
    exact k
  · have k := k.2 c
    refine go_iconst (pc2 := 1278) (v := (0 : Int32)) dL_law_1277 rfl (by decide) ?_
    exact go_iret dL_law_1278 ⟨_, rfl, rfl⟩ ⟨rfl, _, rfl, k⟩
theorem b_L_law_1203 {x3 : Int32} {h : Hp} {Q : Int32 → Hp → Prop}  (k : (vp_in (x3 + (1 : Int32)) (h.1 2001 0).toNatClampNeg ∧ (vp_in (x3 + (2 : Int32)) (h.1 2001 0).toNatClampNeg ∧ (vp_in (x3 + (3 : Int32)) (h.1 2001 0).toNatClampNeg ∧ (∃ Q4, CtI 5 mX10_lots [.ref 0, .int (h.1 2000 ((x3 + (1 : Int32))).toNatClampNeg), .int (h.1 2000 ((x3 + (2 : Int32))).toNatClampNeg), .int (h.1 2000 ((x3 + (3 : Int32))).toNatClampNeg)] h Q4 ∧ ∀ (v6 : Int32) (h7 : Hp), Q4 v6 h7 → (vp_in (x3 + (1 : Int32)) (h7.1 2001 0).toNatClampNeg ∧ (vp_in (x3 + (2 : Int32)) (h7.1 2001 0).toNatClampNeg ∧ (vp_in (x3 + (3 : Int32)) (h7.1 2001 0).toNatClampNeg ∧ (∃ Q12, CtI 8 mX11_lots [.ref 113, .int (h7.1 2000 ((x3 + (1 : Int32))).toNatClampNeg), .int (h7.1 2000 ((x3 + (2 : Int32))).toNatClampNeg), .int (h7.1 2000 ((x3 + (3 : Int32))).toNatClampNeg)] h7 Q12 ∧ ∀ (v14 : Int32) (h15 : Hp), Q12 v14 h15 → ((v6 = v14 → GoI 10 mL_law 1729 [(0, .ref 2000), (1, .ref 0), (2, .ref 113), (3, .int x3)] [] h15 Q) ∧ (¬ v6 = v14 → Q (0 : Int32) h15))))))))))) : GoI 10 mL_law 1203 [(0, .ref 2000), (1, .ref 0), (2, .ref 113), (3, .int x3)] [] h Q := by
  refine go_aload_n (pc2 := 1204) dL_law_1203 rfl rfl rfl ?_
  refine go_aload_n (pc2 := 1205) dL_law_1204 rfl rfl rfl ?_
  refine go_iload_n (pc2 := 1206) dL_law_1205 rfl rfl rfl ?_
  refine go_iconst (pc2 := 1207) (v := (1 : Int32)) dL_law_1206 rfl (by decide) ?_
  refine go_iadd (pc2 := 1208) dL_law_1207 rfl ?_
  obtain ⟨y1, k⟩ := k
  refine go_sld (pc2 := 1209) dL_law_1208 rfl y1 rfl ?_
  refine go_aload_n (pc2 := 1210) dL_law_1209 rfl rfl rfl ?_
  refine go_iload_n (pc2 := 1211) dL_law_1210 rfl rfl rfl ?_
  refine go_iconst (pc2 := 1212) (v := (2 : Int32)) dL_law_1211 rfl (by decide) ?_
  refine go_iadd (pc2 := 1213) dL_law_1212 rfl ?_
  obtain ⟨y2, k⟩ := k
  refine go_sld (pc2 := 1214) dL_law_1213 rfl y2 rfl ?_
  refine go_aload_n (pc2 := 1215) dL_law_1214 rfl rfl rfl ?_
  refine go_iload_n (pc2 := 1216) dL_law_1215 rfl rfl rfl ?_
  refine go_iconst (pc2 := 1217) (v := (3 : Int32)) dL_law_1216 rfl (by decide) ?_
  refine go_iadd (pc2 := 1218) dL_law_1217 rfl ?_
  obtain ⟨y3, k⟩ := k
  refine go_sld (pc2 := 1219) dL_law_1218 rfl y3 rfl ?_
  obtain ⟨Q4, hC5, k⟩ := k
  refine gcV_I (pc2 := 1222) (dC := 5) (As := [.int (h.1 2000 ((x3 + (1 : Int32))).toNatClampNeg), .int (h.1 2000 ((x3 + (2 : Int32))).toNatClampNeg), .int (h.1 2000 ((x3 + (3 : Int32))).toNatClampNeg)]) (st := []) rfl dL_law_1219 rfl w_955 ok_X10_lots vi_X10_lots c_0 (by decide) rfl rfl rfl (by decide) (Nat.le_of_ble_eq_true rfl) hC5 (fun v6 h7 hq8 => ?_)
  have k := k v6 h7 hq8
  refine go_aload_n (pc2 := 1223) dL_law_1222 rfl rfl rfl ?_
  refine go_aload_n (pc2 := 1224) dL_law_1223 rfl rfl rfl ?_
  refine go_iload_n (pc2 := 1225) dL_law_1224 rfl rfl rfl ?_
  refine go_iconst (pc2 := 1226) (v := (1 : Int32)) dL_law_1225 rfl (by decide) ?_
  refine go_iadd (pc2 := 1227) dL_law_1226 rfl ?_
  obtain ⟨y9, k⟩ := k
  refine go_sld (pc2 := 1228) dL_law_1227 rfl y9 rfl ?_
  refine go_aload_n (pc2 := 1229) dL_law_1228 rfl rfl rfl ?_
  refine go_iload_n (pc2 := 1230) dL_law_1229 rfl rfl rfl ?_
  refine go_iconst (pc2 := 1231) (v := (2 : Int32)) dL_law_1230 rfl (by decide) ?_
  refine go_iadd (pc2 := 1232) dL_law_1231 rfl ?_
  obtain ⟨y10, k⟩ := k
  refine go_sld (pc2 := 1233) dL_law_1232 rfl y10 rfl ?_
  refine go_aload_n (pc2 := 1234) dL_law_1233 rfl rfl rfl ?_
  refine go_iload_n (pc2 := 1235) dL_law_1234 rfl rfl rfl ?_
  refine go_iconst (pc2 := 1236) (v := (3 : Int32)) dL_law_1235 rfl (by decide) ?_
  refine go_iadd (pc2 := 1237) dL_law_1236 rfl ?_
  obtain ⟨y11, k⟩ := k
  refine go_sld (pc2 := 1238) dL_law_1237 rfl y11 rfl ?_
  obtain ⟨Q12, hC13, k⟩ := k
  refine gcV_I (pc2 := 1241) (dC := 8) (As := [.int (h7.1 2000 ((x3 + (1 : Int32))).toNatClampNeg), .int (h7.1 2000 ((x3 + (2 : Int32))).toNatClampNeg), .int (h7.1 2000 ((x3 + (3 : Int32))).toNatClampNeg)]) (st := [.int v6]) rfl dL_law_1238 rfl w_1524 ok_X11_lots vi_X11_lots c_113 (by decide) rfl rfl rfl (by decide) (Nat.le_of_ble_eq_true rfl) hC13 (fun v14 h15 hq16 => ?_)
  have k := k v14 h15 hq16
  refine go_icmp_eq (pc2 := 1244) (tgt := 1729) dL_law_1241 rfl (by decide) (fun c => ?_) (fun c => ?_)
  · have k := k.1 c
    exact k
  · have k := k.2 c
    refine go_iconst (pc2 := 1245) (v := (0 : Int32)) dL_law_1244 rfl (by decide) ?_
    exact go_iret dL_law_1245 ⟨_, rfl, rfl⟩ ⟨rfl, _, rfl, k⟩
theorem b_L_law_1160 {x3 : Int32} {h : Hp} {Q : Int32 → Hp → Prop}  (k : (vp_in (x3 + (1 : Int32)) (h.1 2001 0).toNatClampNeg ∧ (vp_in (x3 + (2 : Int32)) (h.1 2001 0).toNatClampNeg ∧ (vp_in (x3 + (3 : Int32)) (h.1 2001 0).toNatClampNeg ∧ (∃ Q4, CtI 3 mX10_whatIs [.ref 0, .int (h.1 2000 ((x3 + (1 : Int32))).toNatClampNeg), .int (h.1 2000 ((x3 + (2 : Int32))).toNatClampNeg), .int (h.1 2000 ((x3 + (3 : Int32))).toNatClampNeg)] h Q4 ∧ ∀ (v6 : Int32) (h7 : Hp), Q4 v6 h7 → (vp_in (x3 + (1 : Int32)) (h7.1 2001 0).toNatClampNeg ∧ (vp_in (x3 + (2 : Int32)) (h7.1 2001 0).toNatClampNeg ∧ (vp_in (x3 + (3 : Int32)) (h7.1 2001 0).toNatClampNeg ∧ (∃ Q12, CtI 2 mX11_whatIs [.ref 113, .int (h7.1 2000 ((x3 + (1 : Int32))).toNatClampNeg), .int (h7.1 2000 ((x3 + (2 : Int32))).toNatClampNeg), .int (h7.1 2000 ((x3 + (3 : Int32))).toNatClampNeg)] h7 Q12 ∧ ∀ (v14 : Int32) (h15 : Hp), Q12 v14 h15 → ((v6 = v14 → GoI 10 mL_law 1729 [(0, .ref 2000), (1, .ref 0), (2, .ref 113), (3, .int x3)] [] h15 Q) ∧ (¬ v6 = v14 → Q (0 : Int32) h15))))))))))) : GoI 10 mL_law 1160 [(0, .ref 2000), (1, .ref 0), (2, .ref 113), (3, .int x3)] [] h Q := by
  refine go_aload_n (pc2 := 1161) dL_law_1160 rfl rfl rfl ?_
  refine go_aload_n (pc2 := 1162) dL_law_1161 rfl rfl rfl ?_
  refine go_iload_n (pc2 := 1163) dL_law_1162 rfl rfl rfl ?_
  refine go_iconst (pc2 := 1164) (v := (1 : Int32)) dL_law_1163 rfl (by decide) ?_
  refine go_iadd (pc2 := 1165) dL_law_1164 rfl ?_
  obtain ⟨y1, k⟩ := k
  refine go_sld (pc2 := 1166) dL_law_1165 rfl y1 rfl ?_
  refine go_aload_n (pc2 := 1167) dL_law_1166 rfl rfl rfl ?_
  refine go_iload_n (pc2 := 1168) dL_law_1167 rfl rfl rfl ?_
  refine go_iconst (pc2 := 1169) (v := (2 : Int32)) dL_law_1168 rfl (by decide) ?_
  refine go_iadd (pc2 := 1170) dL_law_1169 rfl ?_
  obtain ⟨y2, k⟩ := k
  refine go_sld (pc2 := 1171) dL_law_1170 rfl y2 rfl ?_
  refine go_aload_n (pc2 := 1172) dL_law_1171 rfl rfl rfl ?_
  refine go_iload_n (pc2 := 1173) dL_law_1172 rfl rfl rfl ?_
  refine go_iconst (pc2 := 1174) (v := (3 : Int32)) dL_law_1173 rfl (by decide) ?_
  refine go_iadd (pc2 := 1175) dL_law_1174 rfl ?_
  obtain ⟨y3, k⟩ := k
  refine go_sld (pc2 := 1176) dL_law_1175 rfl y3 rfl ?_
  obtain ⟨Q4, hC5, k⟩ := k
  refine gcV_I (pc2 := 1179) (dC := 3) (As := [.int (h.1 2000 ((x3 + (1 : Int32))).toNatClampNeg), .int (h.1 2000 ((x3 + (2 : Int32))).toNatClampNeg), .int (h.1 2000 ((x3 + (3 : Int32))).toNatClampNeg)]) (st := []) rfl dL_law_1176 rfl w_946 ok_X10_whatIs vi_X10_whatIs c_0 (by decide) rfl rfl rfl (by decide) (Nat.le_of_ble_eq_true rfl) hC5 (fun v6 h7 hq8 => ?_)
  have k := k v6 h7 hq8
  refine go_aload_n (pc2 := 1180) dL_law_1179 rfl rfl rfl ?_
  refine go_aload_n (pc2 := 1181) dL_law_1180 rfl rfl rfl ?_
  refine go_iload_n (pc2 := 1182) dL_law_1181 rfl rfl rfl ?_
  refine go_iconst (pc2 := 1183) (v := (1 : Int32)) dL_law_1182 rfl (by decide) ?_
  refine go_iadd (pc2 := 1184) dL_law_1183 rfl ?_
  obtain ⟨y9, k⟩ := k
  refine go_sld (pc2 := 1185) dL_law_1184 rfl y9 rfl ?_
  refine go_aload_n (pc2 := 1186) dL_law_1185 rfl rfl rfl ?_
  refine go_iload_n (pc2 := 1187) dL_law_1186 rfl rfl rfl ?_
  refine go_iconst (pc2 := 1188) (v := (2 : Int32)) dL_law_1187 rfl (by decide) ?_
  refine go_iadd (pc2 := 1189) dL_law_1188 rfl ?_
  obtain ⟨y10, k⟩ := k
  refine go_sld (pc2 := 1190) dL_law_1189 rfl y10 rfl ?_
  refine go_aload_n (pc2 := 1191) dL_law_1190 rfl rfl rfl ?_
  refine go_iload_n (pc2 := 1192) dL_law_1191 rfl rfl rfl ?_
  refine go_iconst (pc2 := 1193) (v := (3 : Int32)) dL_law_1192 rfl (by decide) ?_
  refine go_iadd (pc2 := 1194) dL_law_1193 rfl ?_
  obtain ⟨y11, k⟩ := k
  refine go_sld (pc2 := 1195) dL_law_1194 rfl y11 rfl ?_
  obtain ⟨Q12, hC13, k⟩ := k
  refine gcV_I (pc2 := 1198) (dC := 2) (As := [.int (h7.1 2000 ((x3 + (1 : Int32))).toNatClampNeg), .int (h7.1 2000 ((x3 + (2 : Int32))).toNatClampNeg), .int (h7.1 2000 ((x3 + (3 : Int32))).toNatClampNeg)]) (st := [.int v6]) rfl dL_law_1195 rfl w_1516 ok_X11_whatIs vi_X11_whatIs c_113 (by decide) rfl rfl rfl (by decide) (Nat.le_of_ble_eq_true rfl) hC13 (fun v14 h15 hq16 => ?_)
  have k := k v14 h15 hq16
  refine go_icmp_eq (pc2 := 1201) (tgt := 1729) dL_law_1198 rfl (by decide) (fun c => ?_) (fun c => ?_)
  · have k := k.1 c
    exact k
  · have k := k.2 c
    refine go_iconst (pc2 := 1202) (v := (0 : Int32)) dL_law_1201 rfl (by decide) ?_
    exact go_iret dL_law_1202 ⟨_, rfl, rfl⟩ ⟨rfl, _, rfl, k⟩
theorem b_L_law_1137 {x3 : Int32} {h : Hp} {Q : Int32 → Hp → Prop}  (k : (vp_in (x3 + (1 : Int32)) (h.1 2001 0).toNatClampNeg ∧ (∃ Q2, CtI 5 mX10_judge [.ref 0, .int (h.1 2000 ((x3 + (1 : Int32))).toNatClampNeg)] h Q2 ∧ ∀ (v4 : Int32) (h5 : Hp), Q2 v4 h5 → (vp_in (x3 + (1 : Int32)) (h5.1 2001 0).toNatClampNeg ∧ (∃ Q8, CtI 4 mX11_judge [.ref 113, .int (h5.1 2000 ((x3 + (1 : Int32))).toNatClampNeg)] h5 Q8 ∧ ∀ (v10 : Int32) (h11 : Hp), Q8 v10 h11 → ((v4 = v10 → GoI 10 mL_law 1729 [(0, .ref 2000), (1, .ref 0), (2, .ref 113), (3, .int x3)] [] h11 Q) ∧ (¬ v4 = v10 → Q (0 : Int32) h11))))))) : GoI 10 mL_law 1137 [(0, .ref 2000), (1, .ref 0), (2, .ref 113), (3, .int x3)] [] h Q := by
  refine go_aload_n (pc2 := 1138) dL_law_1137 rfl rfl rfl ?_
  refine go_aload_n (pc2 := 1139) dL_law_1138 rfl rfl rfl ?_
  refine go_iload_n (pc2 := 1140) dL_law_1139 rfl rfl rfl ?_
  refine go_iconst (pc2 := 1141) (v := (1 : Int32)) dL_law_1140 rfl (by decide) ?_
  refine go_iadd (pc2 := 1142) dL_law_1141 rfl ?_
  obtain ⟨y1, k⟩ := k
  refine go_sld (pc2 := 1143) dL_law_1142 rfl y1 rfl ?_
  obtain ⟨Q2, hC3, k⟩ := k
  refine gcV_I (pc2 := 1146) (dC := 5) (As := [.int (h.1 2000 ((x3 + (1 : Int32))).toNatClampNeg)]) (st := []) rfl dL_law_1143 rfl w_935 ok_X10_judge vi_X10_judge c_0 (by decide) rfl rfl rfl (by decide) (Nat.le_of_ble_eq_true rfl) hC3 (fun v4 h5 hq6 => ?_)
  have k := k v4 h5 hq6
  refine go_aload_n (pc2 := 1147) dL_law_1146 rfl rfl rfl ?_
  refine go_aload_n (pc2 := 1148) dL_law_1147 rfl rfl rfl ?_
  refine go_iload_n (pc2 := 1149) dL_law_1148 rfl rfl rfl ?_
  refine go_iconst (pc2 := 1150) (v := (1 : Int32)) dL_law_1149 rfl (by decide) ?_
  refine go_iadd (pc2 := 1151) dL_law_1150 rfl ?_
  obtain ⟨y7, k⟩ := k
  refine go_sld (pc2 := 1152) dL_law_1151 rfl y7 rfl ?_
  obtain ⟨Q8, hC9, k⟩ := k
  refine gcV_I (pc2 := 1155) (dC := 4) (As := [.int (h5.1 2000 ((x3 + (1 : Int32))).toNatClampNeg)]) (st := [.int v4]) rfl dL_law_1152 rfl w_1508 ok_X11_judge vi_X11_judge c_113 (by decide) rfl rfl rfl (by decide) (Nat.le_of_ble_eq_true rfl) hC9 (fun v10 h11 hq12 => ?_)
  have k := k v10 h11 hq12
  refine go_icmp_eq (pc2 := 1158) (tgt := 1729) dL_law_1155 rfl (by decide) (fun c => ?_) (fun c => ?_)
  · have k := k.1 c
    exact k
  · have k := k.2 c
    refine go_iconst (pc2 := 1159) (v := (0 : Int32)) dL_law_1158 rfl (by decide) ?_
    exact go_iret dL_law_1159 ⟨_, rfl, rfl⟩ ⟨rfl, _, rfl, k⟩
theorem b_L_law_1114 {x3 : Int32} {h : Hp} {Q : Int32 → Hp → Prop}  (k : (vp_in (x3 + (1 : Int32)) (h.1 2001 0).toNatClampNeg ∧ (∃ Q2, CtI 6 mX10_repaired [.ref 0, .int (h.1 2000 ((x3 + (1 : Int32))).toNatClampNeg)] h Q2 ∧ ∀ (v4 : Int32) (h5 : Hp), Q2 v4 h5 → (vp_in (x3 + (1 : Int32)) (h5.1 2001 0).toNatClampNeg ∧ (∃ Q8, CtI 8 mX11_repaired [.ref 113, .int (h5.1 2000 ((x3 + (1 : Int32))).toNatClampNeg)] h5 Q8 ∧ ∀ (v10 : Int32) (h11 : Hp), Q8 v10 h11 → ((v4 = v10 → GoI 10 mL_law 1729 [(0, .ref 2000), (1, .ref 0), (2, .ref 113), (3, .int x3)] [] h11 Q) ∧ (¬ v4 = v10 → Q (0 : Int32) h11))))))) : GoI 10 mL_law 1114 [(0, .ref 2000), (1, .ref 0), (2, .ref 113), (3, .int x3)] [] h Q := by
  refine go_aload_n (pc2 := 1115) dL_law_1114 rfl rfl rfl ?_
  refine go_aload_n (pc2 := 1116) dL_law_1115 rfl rfl rfl ?_
  refine go_iload_n (pc2 := 1117) dL_law_1116 rfl rfl rfl ?_
  refine go_iconst (pc2 := 1118) (v := (1 : Int32)) dL_law_1117 rfl (by decide) ?_
  refine go_iadd (pc2 := 1119) dL_law_1118 rfl ?_
  obtain ⟨y1, k⟩ := k
  refine go_sld (pc2 := 1120) dL_law_1119 rfl y1 rfl ?_
  obtain ⟨Q2, hC3, k⟩ := k
  refine gcV_I (pc2 := 1123) (dC := 6) (As := [.int (h.1 2000 ((x3 + (1 : Int32))).toNatClampNeg)]) (st := []) rfl dL_law_1120 rfl w_918 ok_X10_repaired vi_X10_repaired c_0 (by decide) rfl rfl rfl (by decide) (Nat.le_of_ble_eq_true rfl) hC3 (fun v4 h5 hq6 => ?_)
  have k := k v4 h5 hq6
  refine go_aload_n (pc2 := 1124) dL_law_1123 rfl rfl rfl ?_
  refine go_aload_n (pc2 := 1125) dL_law_1124 rfl rfl rfl ?_
  refine go_iload_n (pc2 := 1126) dL_law_1125 rfl rfl rfl ?_
  refine go_iconst (pc2 := 1127) (v := (1 : Int32)) dL_law_1126 rfl (by decide) ?_
  refine go_iadd (pc2 := 1128) dL_law_1127 rfl ?_
  obtain ⟨y7, k⟩ := k
  refine go_sld (pc2 := 1129) dL_law_1128 rfl y7 rfl ?_
  obtain ⟨Q8, hC9, k⟩ := k
  refine gcV_I (pc2 := 1132) (dC := 8) (As := [.int (h5.1 2000 ((x3 + (1 : Int32))).toNatClampNeg)]) (st := [.int v4]) rfl dL_law_1129 rfl w_1464 ok_X11_repaired vi_X11_repaired c_113 (by decide) rfl rfl rfl (by decide) (Nat.le_of_ble_eq_true rfl) hC9 (fun v10 h11 hq12 => ?_)
  have k := k v10 h11 hq12
  refine go_icmp_eq (pc2 := 1135) (tgt := 1729) dL_law_1132 rfl (by decide) (fun c => ?_) (fun c => ?_)
  · have k := k.1 c
    exact k
  · have k := k.2 c
    refine go_iconst (pc2 := 1136) (v := (0 : Int32)) dL_law_1135 rfl (by decide) ?_
    exact go_iret dL_law_1136 ⟨_, rfl, rfl⟩ ⟨rfl, _, rfl, k⟩
theorem b_L_law_1091 {x3 : Int32} {h : Hp} {Q : Int32 → Hp → Prop}  (k : (vp_in (x3 + (1 : Int32)) (h.1 2001 0).toNatClampNeg ∧ (∃ Q2, CtI 6 mX10_goes [.ref 0, .int (h.1 2000 ((x3 + (1 : Int32))).toNatClampNeg)] h Q2 ∧ ∀ (v4 : Int32) (h5 : Hp), Q2 v4 h5 → (vp_in (x3 + (1 : Int32)) (h5.1 2001 0).toNatClampNeg ∧ (∃ Q8, CtI 6 mX11_goes [.ref 113, .int (h5.1 2000 ((x3 + (1 : Int32))).toNatClampNeg)] h5 Q8 ∧ ∀ (v10 : Int32) (h11 : Hp), Q8 v10 h11 → ((v4 = v10 → GoI 10 mL_law 1729 [(0, .ref 2000), (1, .ref 0), (2, .ref 113), (3, .int x3)] [] h11 Q) ∧ (¬ v4 = v10 → Q (0 : Int32) h11))))))) : GoI 10 mL_law 1091 [(0, .ref 2000), (1, .ref 0), (2, .ref 113), (3, .int x3)] [] h Q := by
  refine go_aload_n (pc2 := 1092) dL_law_1091 rfl rfl rfl ?_
  refine go_aload_n (pc2 := 1093) dL_law_1092 rfl rfl rfl ?_
  refine go_iload_n (pc2 := 1094) dL_law_1093 rfl rfl rfl ?_
  refine go_iconst (pc2 := 1095) (v := (1 : Int32)) dL_law_1094 rfl (by decide) ?_
  refine go_iadd (pc2 := 1096) dL_law_1095 rfl ?_
  obtain ⟨y1, k⟩ := k
  refine go_sld (pc2 := 1097) dL_law_1096 rfl y1 rfl ?_
  obtain ⟨Q2, hC3, k⟩ := k
  refine gcV_I (pc2 := 1100) (dC := 6) (As := [.int (h.1 2000 ((x3 + (1 : Int32))).toNatClampNeg)]) (st := []) rfl dL_law_1097 rfl w_914 ok_X10_goes vi_X10_goes c_0 (by decide) rfl rfl rfl (by decide) (Nat.le_of_ble_eq_true rfl) hC3 (fun v4 h5 hq6 => ?_)
  have k := k v4 h5 hq6
  refine go_aload_n (pc2 := 1101) dL_law_1100 rfl rfl rfl ?_
  refine go_aload_n (pc2 := 1102) dL_law_1101 rfl rfl rfl ?_
  refine go_iload_n (pc2 := 1103) dL_law_1102 rfl rfl rfl ?_
  refine go_iconst (pc2 := 1104) (v := (1 : Int32)) dL_law_1103 rfl (by decide) ?_
  refine go_iadd (pc2 := 1105) dL_law_1104 rfl ?_
  obtain ⟨y7, k⟩ := k
  refine go_sld (pc2 := 1106) dL_law_1105 rfl y7 rfl ?_
  obtain ⟨Q8, hC9, k⟩ := k
  refine gcV_I (pc2 := 1109) (dC := 6) (As := [.int (h5.1 2000 ((x3 + (1 : Int32))).toNatClampNeg)]) (st := [.int v4]) rfl dL_law_1106 rfl w_1460 ok_X11_goes vi_X11_goes c_113 (by decide) rfl rfl rfl (by decide) (Nat.le_of_ble_eq_true rfl) hC9 (fun v10 h11 hq12 => ?_)
  have k := k v10 h11 hq12
  refine go_icmp_eq (pc2 := 1112) (tgt := 1729) dL_law_1109 rfl (by decide) (fun c => ?_) (fun c => ?_)
  · have k := k.1 c
    exact k
  · have k := k.2 c
    refine go_iconst (pc2 := 1113) (v := (0 : Int32)) dL_law_1112 rfl (by decide) ?_
    exact go_iret dL_law_1113 ⟨_, rfl, rfl⟩ ⟨rfl, _, rfl, k⟩
theorem b_L_law_1057 {x3 : Int32} {h : Hp} {Q : Int32 → Hp → Prop}  (k : (vp_in (x3 + (1 : Int32)) (h.1 2001 0).toNatClampNeg ∧ (vp_in (x3 + (2 : Int32)) (h.1 2001 0).toNatClampNeg ∧ (∃ Q3, CtL 6 mX10_rounds [.ref 0, .int (h.1 2000 ((x3 + (1 : Int32))).toNatClampNeg), .int (h.1 2000 ((x3 + (2 : Int32))).toNatClampNeg)] h Q3 ∧ ∀ (v5 : Int64) (h6 : Hp), Q3 v5 h6 → (vp_in (x3 + (1 : Int32)) (h6.1 2001 0).toNatClampNeg ∧ (vp_in (x3 + (2 : Int32)) (h6.1 2001 0).toNatClampNeg ∧ (∃ Q10, CtL 6 mX11_rounds [.ref 113, .int (h6.1 2000 ((x3 + (1 : Int32))).toNatClampNeg), .int (h6.1 2000 ((x3 + (2 : Int32))).toNatClampNeg)] h6 Q10 ∧ ∀ (v12 : Int64) (h13 : Hp), Q10 v12 h13 → (((lg_cmp v5 v12) = 0 → GoI 10 mL_law 1729 [(0, .ref 2000), (1, .ref 0), (2, .ref 113), (3, .int x3)] [] h13 Q) ∧ (¬ (lg_cmp v5 v12) = 0 → Q (0 : Int32) h13))))))))) : GoI 10 mL_law 1057 [(0, .ref 2000), (1, .ref 0), (2, .ref 113), (3, .int x3)] [] h Q := by
  refine go_aload_n (pc2 := 1058) dL_law_1057 rfl rfl rfl ?_
  refine go_aload_n (pc2 := 1059) dL_law_1058 rfl rfl rfl ?_
  refine go_iload_n (pc2 := 1060) dL_law_1059 rfl rfl rfl ?_
  refine go_iconst (pc2 := 1061) (v := (1 : Int32)) dL_law_1060 rfl (by decide) ?_
  refine go_iadd (pc2 := 1062) dL_law_1061 rfl ?_
  obtain ⟨y1, k⟩ := k
  refine go_sld (pc2 := 1063) dL_law_1062 rfl y1 rfl ?_
  refine go_aload_n (pc2 := 1064) dL_law_1063 rfl rfl rfl ?_
  refine go_iload_n (pc2 := 1065) dL_law_1064 rfl rfl rfl ?_
  refine go_iconst (pc2 := 1066) (v := (2 : Int32)) dL_law_1065 rfl (by decide) ?_
  refine go_iadd (pc2 := 1067) dL_law_1066 rfl ?_
  obtain ⟨y2, k⟩ := k
  refine go_sld (pc2 := 1068) dL_law_1067 rfl y2 rfl ?_
  obtain ⟨Q3, hC4, k⟩ := k
  refine gcV_L (pc2 := 1071) (dC := 6) (As := [.int (h.1 2000 ((x3 + (1 : Int32))).toNatClampNeg), .int (h.1 2000 ((x3 + (2 : Int32))).toNatClampNeg)]) (st := []) rfl dL_law_1068 rfl w_910 ok_X10_rounds vi_X10_rounds c_0 (by decide) rfl rfl rfl (by decide) (Nat.le_of_ble_eq_true rfl) hC4 (fun v5 h6 hq7 => ?_)
  have k := k v5 h6 hq7
  refine go_aload_n (pc2 := 1072) dL_law_1071 rfl rfl rfl ?_
  refine go_aload_n (pc2 := 1073) dL_law_1072 rfl rfl rfl ?_
  refine go_iload_n (pc2 := 1074) dL_law_1073 rfl rfl rfl ?_
  refine go_iconst (pc2 := 1075) (v := (1 : Int32)) dL_law_1074 rfl (by decide) ?_
  refine go_iadd (pc2 := 1076) dL_law_1075 rfl ?_
  obtain ⟨y8, k⟩ := k
  refine go_sld (pc2 := 1077) dL_law_1076 rfl y8 rfl ?_
  refine go_aload_n (pc2 := 1078) dL_law_1077 rfl rfl rfl ?_
  refine go_iload_n (pc2 := 1079) dL_law_1078 rfl rfl rfl ?_
  refine go_iconst (pc2 := 1080) (v := (2 : Int32)) dL_law_1079 rfl (by decide) ?_
  refine go_iadd (pc2 := 1081) dL_law_1080 rfl ?_
  obtain ⟨y9, k⟩ := k
  refine go_sld (pc2 := 1082) dL_law_1081 rfl y9 rfl ?_
  obtain ⟨Q10, hC11, k⟩ := k
  refine gcV_L (pc2 := 1085) (dC := 6) (As := [.int (h6.1 2000 ((x3 + (1 : Int32))).toNatClampNeg), .int (h6.1 2000 ((x3 + (2 : Int32))).toNatClampNeg)]) (st := [.long v5]) rfl dL_law_1082 rfl w_1441 ok_X11_rounds vi_X11_rounds c_113 (by decide) rfl rfl rfl (by decide) (Nat.le_of_ble_eq_true rfl) hC11 (fun v12 h13 hq14 => ?_)
  have k := k v12 h13 hq14
  refine go_lcmp (pc2 := 1086) dL_law_1085 rfl ?_
  refine go_if_eq (pc2 := 1089) (tgt := 1729) dL_law_1086 rfl (by decide) (fun c => ?_) (fun c => ?_)
  · have k := k.1 c
    exact k
  · have k := k.2 c
    refine go_iconst (pc2 := 1090) (v := (0 : Int32)) dL_law_1089 rfl (by decide) ?_
    exact go_iret dL_law_1090 ⟨_, rfl, rfl⟩ ⟨rfl, _, rfl, k⟩
theorem b_L_law_1044 {x3 : Int32} {h : Hp} {Q : Int32 → Hp → Prop}  (k : (∃ Q1, CtI 6 mX10_bound [.ref 0] h Q1 ∧ ∀ (v3 : Int32) (h4 : Hp), Q1 v3 h4 → (∃ Q6, CtI 5 mX11_bound [.ref 113] h4 Q6 ∧ ∀ (v8 : Int32) (h9 : Hp), Q6 v8 h9 → ((v3 = v8 → GoI 10 mL_law 1729 [(0, .ref 2000), (1, .ref 0), (2, .ref 113), (3, .int x3)] [] h9 Q) ∧ (¬ v3 = v8 → Q (0 : Int32) h9))))) : GoI 10 mL_law 1044 [(0, .ref 2000), (1, .ref 0), (2, .ref 113), (3, .int x3)] [] h Q := by
  refine go_aload_n (pc2 := 1045) dL_law_1044 rfl rfl rfl ?_
  obtain ⟨Q1, hC2, k⟩ := k
  refine gcV_I (pc2 := 1048) (dC := 6) (As := []) (st := []) rfl dL_law_1045 rfl w_894 ok_X10_bound vi_X10_bound c_0 (by decide) rfl rfl rfl (by decide) (Nat.le_of_ble_eq_true rfl) hC2 (fun v3 h4 hq5 => ?_)
  have k := k v3 h4 hq5
  refine go_aload_n (pc2 := 1049) dL_law_1048 rfl rfl rfl ?_
  obtain ⟨Q6, hC7, k⟩ := k
  refine gcV_I (pc2 := 1052) (dC := 5) (As := []) (st := [.int v3]) rfl dL_law_1049 rfl w_1437 ok_X11_bound vi_X11_bound c_113 (by decide) rfl rfl rfl (by decide) (Nat.le_of_ble_eq_true rfl) hC7 (fun v8 h9 hq10 => ?_)
  have k := k v8 h9 hq10
  refine go_icmp_eq (pc2 := 1055) (tgt := 1729) dL_law_1052 rfl (by decide) (fun c => ?_) (fun c => ?_)
  · have k := k.1 c
    exact k
  · have k := k.2 c
    refine go_iconst (pc2 := 1056) (v := (0 : Int32)) dL_law_1055 rfl (by decide) ?_
    exact go_iret dL_law_1056 ⟨_, rfl, rfl⟩ ⟨rfl, _, rfl, k⟩
theorem b_L_law_1010 {x3 : Int32} {h : Hp} {Q : Int32 → Hp → Prop}  (k : (vp_in (x3 + (1 : Int32)) (h.1 2001 0).toNatClampNeg ∧ (vp_in (x3 + (2 : Int32)) (h.1 2001 0).toNatClampNeg ∧ (∃ Q3, CtL 5 mX10_answer [.ref 0, .int (h.1 2000 ((x3 + (1 : Int32))).toNatClampNeg), .int (h.1 2000 ((x3 + (2 : Int32))).toNatClampNeg)] h Q3 ∧ ∀ (v5 : Int64) (h6 : Hp), Q3 v5 h6 → (vp_in (x3 + (1 : Int32)) (h6.1 2001 0).toNatClampNeg ∧ (vp_in (x3 + (2 : Int32)) (h6.1 2001 0).toNatClampNeg ∧ (∃ Q10, CtL 5 mX11_answer [.ref 113, .int (h6.1 2000 ((x3 + (1 : Int32))).toNatClampNeg), .int (h6.1 2000 ((x3 + (2 : Int32))).toNatClampNeg)] h6 Q10 ∧ ∀ (v12 : Int64) (h13 : Hp), Q10 v12 h13 → (((lg_cmp v5 v12) = 0 → GoI 10 mL_law 1729 [(0, .ref 2000), (1, .ref 0), (2, .ref 113), (3, .int x3)] [] h13 Q) ∧ (¬ (lg_cmp v5 v12) = 0 → Q (0 : Int32) h13))))))))) : GoI 10 mL_law 1010 [(0, .ref 2000), (1, .ref 0), (2, .ref 113), (3, .int x3)] [] h Q := by
  refine go_aload_n (pc2 := 1011) dL_law_1010 rfl rfl rfl ?_
  refine go_aload_n (pc2 := 1012) dL_law_1011 rfl rfl rfl ?_
  refine go_iload_n (pc2 := 1013) dL_law_1012 rfl rfl rfl ?_
  refine go_iconst (pc2 := 1014) (v := (1 : Int32)) dL_law_1013 rfl (by decide) ?_
  refine go_iadd (pc2 := 1015) dL_law_1014 rfl ?_
  obtain ⟨y1, k⟩ := k
  refine go_sld (pc2 := 1016) dL_law_1015 rfl y1 rfl ?_
  refine go_aload_n (pc2 := 1017) dL_law_1016 rfl rfl rfl ?_
  refine go_iload_n (pc2 := 1018) dL_law_1017 rfl rfl rfl ?_
  refine go_iconst (pc2 := 1019) (v := (2 : Int32)) dL_law_1018 rfl (by decide) ?_
  refine go_iadd (pc2 := 1020) dL_law_1019 rfl ?_
  obtain ⟨y2, k⟩ := k
  refine go_sld (pc2 := 1021) dL_law_1020 rfl y2 rfl ?_
  obtain ⟨Q3, hC4, k⟩ := k
  refine gcV_L (pc2 := 1024) (dC := 5) (As := [.int (h.1 2000 ((x3 + (1 : Int32))).toNatClampNeg), .int (h.1 2000 ((x3 + (2 : Int32))).toNatClampNeg)]) (st := []) rfl dL_law_1021 rfl w_861 ok_X10_answer vi_X10_answer c_0 (by decide) rfl rfl rfl (by decide) (Nat.le_of_ble_eq_true rfl) hC4 (fun v5 h6 hq7 => ?_)
  have k := k v5 h6 hq7
  refine go_aload_n (pc2 := 1025) dL_law_1024 rfl rfl rfl ?_
  refine go_aload_n (pc2 := 1026) dL_law_1025 rfl rfl rfl ?_
  refine go_iload_n (pc2 := 1027) dL_law_1026 rfl rfl rfl ?_
  refine go_iconst (pc2 := 1028) (v := (1 : Int32)) dL_law_1027 rfl (by decide) ?_
  refine go_iadd (pc2 := 1029) dL_law_1028 rfl ?_
  obtain ⟨y8, k⟩ := k
  refine go_sld (pc2 := 1030) dL_law_1029 rfl y8 rfl ?_
  refine go_aload_n (pc2 := 1031) dL_law_1030 rfl rfl rfl ?_
  refine go_iload_n (pc2 := 1032) dL_law_1031 rfl rfl rfl ?_
  refine go_iconst (pc2 := 1033) (v := (2 : Int32)) dL_law_1032 rfl (by decide) ?_
  refine go_iadd (pc2 := 1034) dL_law_1033 rfl ?_
  obtain ⟨y9, k⟩ := k
  refine go_sld (pc2 := 1035) dL_law_1034 rfl y9 rfl ?_
  obtain ⟨Q10, hC11, k⟩ := k
  refine gcV_L (pc2 := 1038) (dC := 5) (As := [.int (h6.1 2000 ((x3 + (1 : Int32))).toNatClampNeg), .int (h6.1 2000 ((x3 + (2 : Int32))).toNatClampNeg)]) (st := [.long v5]) rfl dL_law_1035 rfl w_1417 ok_X11_answer vi_X11_answer c_113 (by decide) rfl rfl rfl (by decide) (Nat.le_of_ble_eq_true rfl) hC11 (fun v12 h13 hq14 => ?_)
  have k := k v12 h13 hq14
  refine go_lcmp (pc2 := 1039) dL_law_1038 rfl ?_
  refine go_if_eq (pc2 := 1042) (tgt := 1729) dL_law_1039 rfl (by decide) (fun c => ?_) (fun c => ?_)
  · have k := k.1 c
    exact k
  · have k := k.2 c
    refine go_iconst (pc2 := 1043) (v := (0 : Int32)) dL_law_1042 rfl (by decide) ?_
    exact go_iret dL_law_1043 ⟨_, rfl, rfl⟩ ⟨rfl, _, rfl, k⟩
theorem b_L_law_987 {x3 : Int32} {h : Hp} {Q : Int32 → Hp → Prop}  (k : (vp_in (x3 + (1 : Int32)) (h.1 2001 0).toNatClampNeg ∧ (∃ Q2, CtI 1 mX10_step [.ref 0, .int (h.1 2000 ((x3 + (1 : Int32))).toNatClampNeg)] h Q2 ∧ ∀ (v4 : Int32) (h5 : Hp), Q2 v4 h5 → (vp_in (x3 + (1 : Int32)) (h5.1 2001 0).toNatClampNeg ∧ (∃ Q8, CtI 1 mX11_step [.ref 113, .int (h5.1 2000 ((x3 + (1 : Int32))).toNatClampNeg)] h5 Q8 ∧ ∀ (v10 : Int32) (h11 : Hp), Q8 v10 h11 → ((v4 = v10 → GoI 10 mL_law 1729 [(0, .ref 2000), (1, .ref 0), (2, .ref 113), (3, .int x3)] [] h11 Q) ∧ (¬ v4 = v10 → Q (0 : Int32) h11))))))) : GoI 10 mL_law 987 [(0, .ref 2000), (1, .ref 0), (2, .ref 113), (3, .int x3)] [] h Q := by
  refine go_aload_n (pc2 := 988) dL_law_987 rfl rfl rfl ?_
  refine go_aload_n (pc2 := 989) dL_law_988 rfl rfl rfl ?_
  refine go_iload_n (pc2 := 990) dL_law_989 rfl rfl rfl ?_
  refine go_iconst (pc2 := 991) (v := (1 : Int32)) dL_law_990 rfl (by decide) ?_
  refine go_iadd (pc2 := 992) dL_law_991 rfl ?_
  obtain ⟨y1, k⟩ := k
  refine go_sld (pc2 := 993) dL_law_992 rfl y1 rfl ?_
  obtain ⟨Q2, hC3, k⟩ := k
  refine gcV_I (pc2 := 996) (dC := 1) (As := [.int (h.1 2000 ((x3 + (1 : Int32))).toNatClampNeg)]) (st := []) rfl dL_law_993 rfl w_857 ok_X10_step vi_X10_step c_0 (by decide) rfl rfl rfl (by decide) (Nat.le_of_ble_eq_true rfl) hC3 (fun v4 h5 hq6 => ?_)
  have k := k v4 h5 hq6
  refine go_aload_n (pc2 := 997) dL_law_996 rfl rfl rfl ?_
  refine go_aload_n (pc2 := 998) dL_law_997 rfl rfl rfl ?_
  refine go_iload_n (pc2 := 999) dL_law_998 rfl rfl rfl ?_
  refine go_iconst (pc2 := 1000) (v := (1 : Int32)) dL_law_999 rfl (by decide) ?_
  refine go_iadd (pc2 := 1001) dL_law_1000 rfl ?_
  obtain ⟨y7, k⟩ := k
  refine go_sld (pc2 := 1002) dL_law_1001 rfl y7 rfl ?_
  obtain ⟨Q8, hC9, k⟩ := k
  refine gcV_I (pc2 := 1005) (dC := 1) (As := [.int (h5.1 2000 ((x3 + (1 : Int32))).toNatClampNeg)]) (st := [.int v4]) rfl dL_law_1002 rfl w_1413 ok_X11_step vi_X11_step c_113 (by decide) rfl rfl rfl (by decide) (Nat.le_of_ble_eq_true rfl) hC9 (fun v10 h11 hq12 => ?_)
  have k := k v10 h11 hq12
  refine go_icmp_eq (pc2 := 1008) (tgt := 1729) dL_law_1005 rfl (by decide) (fun c => ?_) (fun c => ?_)
  · have k := k.1 c
    exact k
  · have k := k.2 c
    refine go_iconst (pc2 := 1009) (v := (0 : Int32)) dL_law_1008 rfl (by decide) ?_
    exact go_iret dL_law_1009 ⟨_, rfl, rfl⟩ ⟨rfl, _, rfl, k⟩
theorem b_L_law_954 {x3 : Int32} {h : Hp} {Q : Int32 → Hp → Prop}  (k : (vp_in (x3 + (1 : Int32)) (h.1 2001 0).toNatClampNeg ∧ (vp_in (x3 + (2 : Int32)) (h.1 2001 0).toNatClampNeg ∧ (∃ Q3, CtI 1 mX10_price [.ref 0, .int (h.1 2000 ((x3 + (1 : Int32))).toNatClampNeg), .int (h.1 2000 ((x3 + (2 : Int32))).toNatClampNeg)] h Q3 ∧ ∀ (v5 : Int32) (h6 : Hp), Q3 v5 h6 → (vp_in (x3 + (1 : Int32)) (h6.1 2001 0).toNatClampNeg ∧ (vp_in (x3 + (2 : Int32)) (h6.1 2001 0).toNatClampNeg ∧ (∃ Q10, CtI 2 mX11_price [.ref 113, .int (h6.1 2000 ((x3 + (1 : Int32))).toNatClampNeg), .int (h6.1 2000 ((x3 + (2 : Int32))).toNatClampNeg)] h6 Q10 ∧ ∀ (v12 : Int32) (h13 : Hp), Q10 v12 h13 → ((v5 = v12 → GoI 10 mL_law 1729 [(0, .ref 2000), (1, .ref 0), (2, .ref 113), (3, .int x3)] [] h13 Q) ∧ (¬ v5 = v12 → Q (0 : Int32) h13))))))))) : GoI 10 mL_law 954 [(0, .ref 2000), (1, .ref 0), (2, .ref 113), (3, .int x3)] [] h Q := by
  refine go_aload_n (pc2 := 955) dL_law_954 rfl rfl rfl ?_
  refine go_aload_n (pc2 := 956) dL_law_955 rfl rfl rfl ?_
  refine go_iload_n (pc2 := 957) dL_law_956 rfl rfl rfl ?_
  refine go_iconst (pc2 := 958) (v := (1 : Int32)) dL_law_957 rfl (by decide) ?_
  refine go_iadd (pc2 := 959) dL_law_958 rfl ?_
  obtain ⟨y1, k⟩ := k
  refine go_sld (pc2 := 960) dL_law_959 rfl y1 rfl ?_
  refine go_aload_n (pc2 := 961) dL_law_960 rfl rfl rfl ?_
  refine go_iload_n (pc2 := 962) dL_law_961 rfl rfl rfl ?_
  refine go_iconst (pc2 := 963) (v := (2 : Int32)) dL_law_962 rfl (by decide) ?_
  refine go_iadd (pc2 := 964) dL_law_963 rfl ?_
  obtain ⟨y2, k⟩ := k
  refine go_sld (pc2 := 965) dL_law_964 rfl y2 rfl ?_
  obtain ⟨Q3, hC4, k⟩ := k
  refine gcV_I (pc2 := 968) (dC := 1) (As := [.int (h.1 2000 ((x3 + (1 : Int32))).toNatClampNeg), .int (h.1 2000 ((x3 + (2 : Int32))).toNatClampNeg)]) (st := []) rfl dL_law_965 rfl w_853 ok_X10_price vi_X10_price c_0 (by decide) rfl rfl rfl (by decide) (Nat.le_of_ble_eq_true rfl) hC4 (fun v5 h6 hq7 => ?_)
  have k := k v5 h6 hq7
  refine go_aload_n (pc2 := 969) dL_law_968 rfl rfl rfl ?_
  refine go_aload_n (pc2 := 970) dL_law_969 rfl rfl rfl ?_
  refine go_iload_n (pc2 := 971) dL_law_970 rfl rfl rfl ?_
  refine go_iconst (pc2 := 972) (v := (1 : Int32)) dL_law_971 rfl (by decide) ?_
  refine go_iadd (pc2 := 973) dL_law_972 rfl ?_
  obtain ⟨y8, k⟩ := k
  refine go_sld (pc2 := 974) dL_law_973 rfl y8 rfl ?_
  refine go_aload_n (pc2 := 975) dL_law_974 rfl rfl rfl ?_
  refine go_iload_n (pc2 := 976) dL_law_975 rfl rfl rfl ?_
  refine go_iconst (pc2 := 977) (v := (2 : Int32)) dL_law_976 rfl (by decide) ?_
  refine go_iadd (pc2 := 978) dL_law_977 rfl ?_
  obtain ⟨y9, k⟩ := k
  refine go_sld (pc2 := 979) dL_law_978 rfl y9 rfl ?_
  obtain ⟨Q10, hC11, k⟩ := k
  refine gcV_I (pc2 := 982) (dC := 2) (As := [.int (h6.1 2000 ((x3 + (1 : Int32))).toNatClampNeg), .int (h6.1 2000 ((x3 + (2 : Int32))).toNatClampNeg)]) (st := [.int v5]) rfl dL_law_979 rfl w_1409 ok_X11_price vi_X11_price c_113 (by decide) rfl rfl rfl (by decide) (Nat.le_of_ble_eq_true rfl) hC11 (fun v12 h13 hq14 => ?_)
  have k := k v12 h13 hq14
  refine go_icmp_eq (pc2 := 985) (tgt := 1729) dL_law_982 rfl (by decide) (fun c => ?_) (fun c => ?_)
  · have k := k.1 c
    exact k
  · have k := k.2 c
    refine go_iconst (pc2 := 986) (v := (0 : Int32)) dL_law_985 rfl (by decide) ?_
    exact go_iret dL_law_986 ⟨_, rfl, rfl⟩ ⟨rfl, _, rfl, k⟩
theorem b_L_law_930 {x3 : Int32} {h : Hp} {Q : Int32 → Hp → Prop}  (k : (vp_in (x3 + (1 : Int32)) (h.1 2001 0).toNatClampNeg ∧ (∃ Q2, CtL 6 mX10_shown [.ref 0, .int (h.1 2000 ((x3 + (1 : Int32))).toNatClampNeg)] h Q2 ∧ ∀ (v4 : Int64) (h5 : Hp), Q2 v4 h5 → (vp_in (x3 + (1 : Int32)) (h5.1 2001 0).toNatClampNeg ∧ (∃ Q8, CtL 8 mX11_shown [.ref 113, .int (h5.1 2000 ((x3 + (1 : Int32))).toNatClampNeg)] h5 Q8 ∧ ∀ (v10 : Int64) (h11 : Hp), Q8 v10 h11 → (((lg_cmp v4 v10) = 0 → GoI 10 mL_law 1729 [(0, .ref 2000), (1, .ref 0), (2, .ref 113), (3, .int x3)] [] h11 Q) ∧ (¬ (lg_cmp v4 v10) = 0 → Q (0 : Int32) h11))))))) : GoI 10 mL_law 930 [(0, .ref 2000), (1, .ref 0), (2, .ref 113), (3, .int x3)] [] h Q := by
  refine go_aload_n (pc2 := 931) dL_law_930 rfl rfl rfl ?_
  refine go_aload_n (pc2 := 932) dL_law_931 rfl rfl rfl ?_
  refine go_iload_n (pc2 := 933) dL_law_932 rfl rfl rfl ?_
  refine go_iconst (pc2 := 934) (v := (1 : Int32)) dL_law_933 rfl (by decide) ?_
  refine go_iadd (pc2 := 935) dL_law_934 rfl ?_
  obtain ⟨y1, k⟩ := k
  refine go_sld (pc2 := 936) dL_law_935 rfl y1 rfl ?_
  obtain ⟨Q2, hC3, k⟩ := k
  refine gcV_L (pc2 := 939) (dC := 6) (As := [.int (h.1 2000 ((x3 + (1 : Int32))).toNatClampNeg)]) (st := []) rfl dL_law_936 rfl w_835 ok_X10_shown vi_X10_shown c_0 (by decide) rfl rfl rfl (by decide) (Nat.le_of_ble_eq_true rfl) hC3 (fun v4 h5 hq6 => ?_)
  have k := k v4 h5 hq6
  refine go_aload_n (pc2 := 940) dL_law_939 rfl rfl rfl ?_
  refine go_aload_n (pc2 := 941) dL_law_940 rfl rfl rfl ?_
  refine go_iload_n (pc2 := 942) dL_law_941 rfl rfl rfl ?_
  refine go_iconst (pc2 := 943) (v := (1 : Int32)) dL_law_942 rfl (by decide) ?_
  refine go_iadd (pc2 := 944) dL_law_943 rfl ?_
  obtain ⟨y7, k⟩ := k
  refine go_sld (pc2 := 945) dL_law_944 rfl y7 rfl ?_
  obtain ⟨Q8, hC9, k⟩ := k
  refine gcV_L (pc2 := 948) (dC := 8) (As := [.int (h5.1 2000 ((x3 + (1 : Int32))).toNatClampNeg)]) (st := [.long v4]) rfl dL_law_945 rfl w_1390 ok_X11_shown vi_X11_shown c_113 (by decide) rfl rfl rfl (by decide) (Nat.le_of_ble_eq_true rfl) hC9 (fun v10 h11 hq12 => ?_)
  have k := k v10 h11 hq12
  refine go_lcmp (pc2 := 949) dL_law_948 rfl ?_
  refine go_if_eq (pc2 := 952) (tgt := 1729) dL_law_949 rfl (by decide) (fun c => ?_) (fun c => ?_)
  · have k := k.1 c
    exact k
  · have k := k.2 c
    refine go_iconst (pc2 := 953) (v := (0 : Int32)) dL_law_952 rfl (by decide) ?_
    exact go_iret dL_law_953 ⟨_, rfl, rfl⟩ ⟨rfl, _, rfl, k⟩
theorem b_L_law_896 {x3 : Int32} {h : Hp} {Q : Int32 → Hp → Prop}  (k : (vp_in (x3 + (1 : Int32)) (h.1 2001 0).toNatClampNeg ∧ (vp_in (x3 + (2 : Int32)) (h.1 2001 0).toNatClampNeg ∧ (∃ Q3, CtL 5 mX10_likely [.ref 0, .int (h.1 2000 ((x3 + (1 : Int32))).toNatClampNeg), .int (h.1 2000 ((x3 + (2 : Int32))).toNatClampNeg)] h Q3 ∧ ∀ (v5 : Int64) (h6 : Hp), Q3 v5 h6 → (vp_in (x3 + (1 : Int32)) (h6.1 2001 0).toNatClampNeg ∧ (vp_in (x3 + (2 : Int32)) (h6.1 2001 0).toNatClampNeg ∧ (∃ Q10, CtL 8 mX11_likely [.ref 113, .int (h6.1 2000 ((x3 + (1 : Int32))).toNatClampNeg), .int (h6.1 2000 ((x3 + (2 : Int32))).toNatClampNeg)] h6 Q10 ∧ ∀ (v12 : Int64) (h13 : Hp), Q10 v12 h13 → (((lg_cmp v5 v12) = 0 → GoI 10 mL_law 1729 [(0, .ref 2000), (1, .ref 0), (2, .ref 113), (3, .int x3)] [] h13 Q) ∧ (¬ (lg_cmp v5 v12) = 0 → Q (0 : Int32) h13))))))))) : GoI 10 mL_law 896 [(0, .ref 2000), (1, .ref 0), (2, .ref 113), (3, .int x3)] [] h Q := by
  refine go_aload_n (pc2 := 897) dL_law_896 rfl rfl rfl ?_
  refine go_aload_n (pc2 := 898) dL_law_897 rfl rfl rfl ?_
  refine go_iload_n (pc2 := 899) dL_law_898 rfl rfl rfl ?_
  refine go_iconst (pc2 := 900) (v := (1 : Int32)) dL_law_899 rfl (by decide) ?_
  refine go_iadd (pc2 := 901) dL_law_900 rfl ?_
  obtain ⟨y1, k⟩ := k
  refine go_sld (pc2 := 902) dL_law_901 rfl y1 rfl ?_
  refine go_aload_n (pc2 := 903) dL_law_902 rfl rfl rfl ?_
  refine go_iload_n (pc2 := 904) dL_law_903 rfl rfl rfl ?_
  refine go_iconst (pc2 := 905) (v := (2 : Int32)) dL_law_904 rfl (by decide) ?_
  refine go_iadd (pc2 := 906) dL_law_905 rfl ?_
  obtain ⟨y2, k⟩ := k
  refine go_sld (pc2 := 907) dL_law_906 rfl y2 rfl ?_
  obtain ⟨Q3, hC4, k⟩ := k
  refine gcV_L (pc2 := 910) (dC := 5) (As := [.int (h.1 2000 ((x3 + (1 : Int32))).toNatClampNeg), .int (h.1 2000 ((x3 + (2 : Int32))).toNatClampNeg)]) (st := []) rfl dL_law_907 rfl w_814 ok_X10_likely vi_X10_likely c_0 (by decide) rfl rfl rfl (by decide) (Nat.le_of_ble_eq_true rfl) hC4 (fun v5 h6 hq7 => ?_)
  have k := k v5 h6 hq7
  refine go_aload_n (pc2 := 911) dL_law_910 rfl rfl rfl ?_
  refine go_aload_n (pc2 := 912) dL_law_911 rfl rfl rfl ?_
  refine go_iload_n (pc2 := 913) dL_law_912 rfl rfl rfl ?_
  refine go_iconst (pc2 := 914) (v := (1 : Int32)) dL_law_913 rfl (by decide) ?_
  refine go_iadd (pc2 := 915) dL_law_914 rfl ?_
  obtain ⟨y8, k⟩ := k
  refine go_sld (pc2 := 916) dL_law_915 rfl y8 rfl ?_
  refine go_aload_n (pc2 := 917) dL_law_916 rfl rfl rfl ?_
  refine go_iload_n (pc2 := 918) dL_law_917 rfl rfl rfl ?_
  refine go_iconst (pc2 := 919) (v := (2 : Int32)) dL_law_918 rfl (by decide) ?_
  refine go_iadd (pc2 := 920) dL_law_919 rfl ?_
  obtain ⟨y9, k⟩ := k
  refine go_sld (pc2 := 921) dL_law_920 rfl y9 rfl ?_
  obtain ⟨Q10, hC11, k⟩ := k
  refine gcV_L (pc2 := 924) (dC := 8) (As := [.int (h6.1 2000 ((x3 + (1 : Int32))).toNatClampNeg), .int (h6.1 2000 ((x3 + (2 : Int32))).toNatClampNeg)]) (st := [.long v5]) rfl dL_law_921 rfl w_1378 ok_X11_likely vi_X11_likely c_113 (by decide) rfl rfl rfl (by decide) (Nat.le_of_ble_eq_true rfl) hC11 (fun v12 h13 hq14 => ?_)
  have k := k v12 h13 hq14
  refine go_lcmp (pc2 := 925) dL_law_924 rfl ?_
  refine go_if_eq (pc2 := 928) (tgt := 1729) dL_law_925 rfl (by decide) (fun c => ?_) (fun c => ?_)
  · have k := k.1 c
    exact k
  · have k := k.2 c
    refine go_iconst (pc2 := 929) (v := (0 : Int32)) dL_law_928 rfl (by decide) ?_
    exact go_iret dL_law_929 ⟨_, rfl, rfl⟩ ⟨rfl, _, rfl, k⟩
theorem b_L_law_883 {x3 : Int32} {h : Hp} {Q : Int32 → Hp → Prop}  (k : (∃ Q1, CtI 6 mX10_hand [.ref 0] h Q1 ∧ ∀ (v3 : Int32) (h4 : Hp), Q1 v3 h4 → (∃ Q6, CtI 9 mX11_hand [.ref 113] h4 Q6 ∧ ∀ (v8 : Int32) (h9 : Hp), Q6 v8 h9 → ((v3 = v8 → GoI 10 mL_law 1729 [(0, .ref 2000), (1, .ref 0), (2, .ref 113), (3, .int x3)] [] h9 Q) ∧ (¬ v3 = v8 → Q (0 : Int32) h9))))) : GoI 10 mL_law 883 [(0, .ref 2000), (1, .ref 0), (2, .ref 113), (3, .int x3)] [] h Q := by
  refine go_aload_n (pc2 := 884) dL_law_883 rfl rfl rfl ?_
  obtain ⟨Q1, hC2, k⟩ := k
  refine gcV_I (pc2 := 887) (dC := 6) (As := []) (st := []) rfl dL_law_884 rfl w_806 ok_X10_hand vi_X10_hand c_0 (by decide) rfl rfl rfl (by decide) (Nat.le_of_ble_eq_true rfl) hC2 (fun v3 h4 hq5 => ?_)
  have k := k v3 h4 hq5
  refine go_aload_n (pc2 := 888) dL_law_887 rfl rfl rfl ?_
  obtain ⟨Q6, hC7, k⟩ := k
  refine gcV_I (pc2 := 891) (dC := 9) (As := []) (st := [.int v3]) rfl dL_law_888 rfl w_1370 ok_X11_hand vi_X11_hand c_113 (by decide) rfl rfl rfl (by decide) (Nat.le_of_ble_eq_true rfl) hC7 (fun v8 h9 hq10 => ?_)
  have k := k v8 h9 hq10
  refine go_icmp_eq (pc2 := 894) (tgt := 1729) dL_law_891 rfl (by decide) (fun c => ?_) (fun c => ?_)
  · have k := k.1 c
    exact k
  · have k := k.2 c
    refine go_iconst (pc2 := 895) (v := (0 : Int32)) dL_law_894 rfl (by decide) ?_
    exact go_iret dL_law_895 ⟨_, rfl, rfl⟩ ⟨rfl, _, rfl, k⟩
theorem b_L_law_860 {x3 : Int32} {h : Hp} {Q : Int32 → Hp → Prop}  (k : (vp_in (x3 + (1 : Int32)) (h.1 2001 0).toNatClampNeg ∧ (∃ Q2, CtI 6 mX10_worth [.ref 0, .int (h.1 2000 ((x3 + (1 : Int32))).toNatClampNeg)] h Q2 ∧ ∀ (v4 : Int32) (h5 : Hp), Q2 v4 h5 → (vp_in (x3 + (1 : Int32)) (h5.1 2001 0).toNatClampNeg ∧ (∃ Q8, CtI 8 mX11_worth [.ref 113, .int (h5.1 2000 ((x3 + (1 : Int32))).toNatClampNeg)] h5 Q8 ∧ ∀ (v10 : Int32) (h11 : Hp), Q8 v10 h11 → ((v4 = v10 → GoI 10 mL_law 1729 [(0, .ref 2000), (1, .ref 0), (2, .ref 113), (3, .int x3)] [] h11 Q) ∧ (¬ v4 = v10 → Q (0 : Int32) h11))))))) : GoI 10 mL_law 860 [(0, .ref 2000), (1, .ref 0), (2, .ref 113), (3, .int x3)] [] h Q := by
  refine go_aload_n (pc2 := 861) dL_law_860 rfl rfl rfl ?_
  refine go_aload_n (pc2 := 862) dL_law_861 rfl rfl rfl ?_
  refine go_iload_n (pc2 := 863) dL_law_862 rfl rfl rfl ?_
  refine go_iconst (pc2 := 864) (v := (1 : Int32)) dL_law_863 rfl (by decide) ?_
  refine go_iadd (pc2 := 865) dL_law_864 rfl ?_
  obtain ⟨y1, k⟩ := k
  refine go_sld (pc2 := 866) dL_law_865 rfl y1 rfl ?_
  obtain ⟨Q2, hC3, k⟩ := k
  refine gcV_I (pc2 := 869) (dC := 6) (As := [.int (h.1 2000 ((x3 + (1 : Int32))).toNatClampNeg)]) (st := []) rfl dL_law_866 rfl w_802 ok_X10_worth vi_X10_worth c_0 (by decide) rfl rfl rfl (by decide) (Nat.le_of_ble_eq_true rfl) hC3 (fun v4 h5 hq6 => ?_)
  have k := k v4 h5 hq6
  refine go_aload_n (pc2 := 870) dL_law_869 rfl rfl rfl ?_
  refine go_aload_n (pc2 := 871) dL_law_870 rfl rfl rfl ?_
  refine go_iload_n (pc2 := 872) dL_law_871 rfl rfl rfl ?_
  refine go_iconst (pc2 := 873) (v := (1 : Int32)) dL_law_872 rfl (by decide) ?_
  refine go_iadd (pc2 := 874) dL_law_873 rfl ?_
  obtain ⟨y7, k⟩ := k
  refine go_sld (pc2 := 875) dL_law_874 rfl y7 rfl ?_
  obtain ⟨Q8, hC9, k⟩ := k
  refine gcV_I (pc2 := 878) (dC := 8) (As := [.int (h5.1 2000 ((x3 + (1 : Int32))).toNatClampNeg)]) (st := [.int v4]) rfl dL_law_875 rfl w_1366 ok_X11_worth vi_X11_worth c_113 (by decide) rfl rfl rfl (by decide) (Nat.le_of_ble_eq_true rfl) hC9 (fun v10 h11 hq12 => ?_)
  have k := k v10 h11 hq12
  refine go_icmp_eq (pc2 := 881) (tgt := 1729) dL_law_878 rfl (by decide) (fun c => ?_) (fun c => ?_)
  · have k := k.1 c
    exact k
  · have k := k.2 c
    refine go_iconst (pc2 := 882) (v := (0 : Int32)) dL_law_881 rfl (by decide) ?_
    exact go_iret dL_law_882 ⟨_, rfl, rfl⟩ ⟨rfl, _, rfl, k⟩
theorem b_L_law_837 {x3 : Int32} {h : Hp} {Q : Int32 → Hp → Prop}  (k : (vp_in (x3 + (1 : Int32)) (h.1 2001 0).toNatClampNeg ∧ (∃ Q2, CtI 6 mX10_margin [.ref 0, .int (h.1 2000 ((x3 + (1 : Int32))).toNatClampNeg)] h Q2 ∧ ∀ (v4 : Int32) (h5 : Hp), Q2 v4 h5 → (vp_in (x3 + (1 : Int32)) (h5.1 2001 0).toNatClampNeg ∧ (∃ Q8, CtI 8 mX11_margin [.ref 113, .int (h5.1 2000 ((x3 + (1 : Int32))).toNatClampNeg)] h5 Q8 ∧ ∀ (v10 : Int32) (h11 : Hp), Q8 v10 h11 → ((v4 = v10 → GoI 10 mL_law 1729 [(0, .ref 2000), (1, .ref 0), (2, .ref 113), (3, .int x3)] [] h11 Q) ∧ (¬ v4 = v10 → Q (0 : Int32) h11))))))) : GoI 10 mL_law 837 [(0, .ref 2000), (1, .ref 0), (2, .ref 113), (3, .int x3)] [] h Q := by
  refine go_aload_n (pc2 := 838) dL_law_837 rfl rfl rfl ?_
  refine go_aload_n (pc2 := 839) dL_law_838 rfl rfl rfl ?_
  refine go_iload_n (pc2 := 840) dL_law_839 rfl rfl rfl ?_
  refine go_iconst (pc2 := 841) (v := (1 : Int32)) dL_law_840 rfl (by decide) ?_
  refine go_iadd (pc2 := 842) dL_law_841 rfl ?_
  obtain ⟨y1, k⟩ := k
  refine go_sld (pc2 := 843) dL_law_842 rfl y1 rfl ?_
  obtain ⟨Q2, hC3, k⟩ := k
  refine gcV_I (pc2 := 846) (dC := 6) (As := [.int (h.1 2000 ((x3 + (1 : Int32))).toNatClampNeg)]) (st := []) rfl dL_law_843 rfl w_794 ok_X10_margin vi_X10_margin c_0 (by decide) rfl rfl rfl (by decide) (Nat.le_of_ble_eq_true rfl) hC3 (fun v4 h5 hq6 => ?_)
  have k := k v4 h5 hq6
  refine go_aload_n (pc2 := 847) dL_law_846 rfl rfl rfl ?_
  refine go_aload_n (pc2 := 848) dL_law_847 rfl rfl rfl ?_
  refine go_iload_n (pc2 := 849) dL_law_848 rfl rfl rfl ?_
  refine go_iconst (pc2 := 850) (v := (1 : Int32)) dL_law_849 rfl (by decide) ?_
  refine go_iadd (pc2 := 851) dL_law_850 rfl ?_
  obtain ⟨y7, k⟩ := k
  refine go_sld (pc2 := 852) dL_law_851 rfl y7 rfl ?_
  obtain ⟨Q8, hC9, k⟩ := k
  refine gcV_I (pc2 := 855) (dC := 8) (As := [.int (h5.1 2000 ((x3 + (1 : Int32))).toNatClampNeg)]) (st := [.int v4]) rfl dL_law_852 rfl w_1361 ok_X11_margin vi_X11_margin c_113 (by decide) rfl rfl rfl (by decide) (Nat.le_of_ble_eq_true rfl) hC9 (fun v10 h11 hq12 => ?_)
  have k := k v10 h11 hq12
  refine go_icmp_eq (pc2 := 858) (tgt := 1729) dL_law_855 rfl (by decide) (fun c => ?_) (fun c => ?_)
  · have k := k.1 c
    exact k
  · have k := k.2 c
    refine go_iconst (pc2 := 859) (v := (0 : Int32)) dL_law_858 rfl (by decide) ?_
    exact go_iret dL_law_859 ⟨_, rfl, rfl⟩ ⟨rfl, _, rfl, k⟩
theorem b_L_law_814 {x3 : Int32} {h : Hp} {Q : Int32 → Hp → Prop}  (k : (vp_in (x3 + (1 : Int32)) (h.1 2001 0).toNatClampNeg ∧ (∃ Q2, CtI 6 mX10_cost [.ref 0, .int (h.1 2000 ((x3 + (1 : Int32))).toNatClampNeg)] h Q2 ∧ ∀ (v4 : Int32) (h5 : Hp), Q2 v4 h5 → (vp_in (x3 + (1 : Int32)) (h5.1 2001 0).toNatClampNeg ∧ (∃ Q8, CtI 8 mX11_cost [.ref 113, .int (h5.1 2000 ((x3 + (1 : Int32))).toNatClampNeg)] h5 Q8 ∧ ∀ (v10 : Int32) (h11 : Hp), Q8 v10 h11 → ((v4 = v10 → GoI 10 mL_law 1729 [(0, .ref 2000), (1, .ref 0), (2, .ref 113), (3, .int x3)] [] h11 Q) ∧ (¬ v4 = v10 → Q (0 : Int32) h11))))))) : GoI 10 mL_law 814 [(0, .ref 2000), (1, .ref 0), (2, .ref 113), (3, .int x3)] [] h Q := by
  refine go_aload_n (pc2 := 815) dL_law_814 rfl rfl rfl ?_
  refine go_aload_n (pc2 := 816) dL_law_815 rfl rfl rfl ?_
  refine go_iload_n (pc2 := 817) dL_law_816 rfl rfl rfl ?_
  refine go_iconst (pc2 := 818) (v := (1 : Int32)) dL_law_817 rfl (by decide) ?_
  refine go_iadd (pc2 := 819) dL_law_818 rfl ?_
  obtain ⟨y1, k⟩ := k
  refine go_sld (pc2 := 820) dL_law_819 rfl y1 rfl ?_
  obtain ⟨Q2, hC3, k⟩ := k
  refine gcV_I (pc2 := 823) (dC := 6) (As := [.int (h.1 2000 ((x3 + (1 : Int32))).toNatClampNeg)]) (st := []) rfl dL_law_820 rfl w_770 ok_X10_cost vi_X10_cost c_0 (by decide) rfl rfl rfl (by decide) (Nat.le_of_ble_eq_true rfl) hC3 (fun v4 h5 hq6 => ?_)
  have k := k v4 h5 hq6
  refine go_aload_n (pc2 := 824) dL_law_823 rfl rfl rfl ?_
  refine go_aload_n (pc2 := 825) dL_law_824 rfl rfl rfl ?_
  refine go_iload_n (pc2 := 826) dL_law_825 rfl rfl rfl ?_
  refine go_iconst (pc2 := 827) (v := (1 : Int32)) dL_law_826 rfl (by decide) ?_
  refine go_iadd (pc2 := 828) dL_law_827 rfl ?_
  obtain ⟨y7, k⟩ := k
  refine go_sld (pc2 := 829) dL_law_828 rfl y7 rfl ?_
  obtain ⟨Q8, hC9, k⟩ := k
  refine gcV_I (pc2 := 832) (dC := 8) (As := [.int (h5.1 2000 ((x3 + (1 : Int32))).toNatClampNeg)]) (st := [.int v4]) rfl dL_law_829 rfl w_1353 ok_X11_cost vi_X11_cost c_113 (by decide) rfl rfl rfl (by decide) (Nat.le_of_ble_eq_true rfl) hC9 (fun v10 h11 hq12 => ?_)
  have k := k v10 h11 hq12
  refine go_icmp_eq (pc2 := 835) (tgt := 1729) dL_law_832 rfl (by decide) (fun c => ?_) (fun c => ?_)
  · have k := k.1 c
    exact k
  · have k := k.2 c
    refine go_iconst (pc2 := 836) (v := (0 : Int32)) dL_law_835 rfl (by decide) ?_
    exact go_iret dL_law_836 ⟨_, rfl, rfl⟩ ⟨rfl, _, rfl, k⟩
theorem b_L_law_791 {x3 : Int32} {h : Hp} {Q : Int32 → Hp → Prop}  (k : (vp_in (x3 + (1 : Int32)) (h.1 2001 0).toNatClampNeg ∧ (∃ Q2, CtI 6 mX10_row [.ref 0, .int (h.1 2000 ((x3 + (1 : Int32))).toNatClampNeg)] h Q2 ∧ ∀ (v4 : Int32) (h5 : Hp), Q2 v4 h5 → (vp_in (x3 + (1 : Int32)) (h5.1 2001 0).toNatClampNeg ∧ (∃ Q8, CtI 8 mX11_row [.ref 113, .int (h5.1 2000 ((x3 + (1 : Int32))).toNatClampNeg)] h5 Q8 ∧ ∀ (v10 : Int32) (h11 : Hp), Q8 v10 h11 → ((v4 = v10 → GoI 10 mL_law 1729 [(0, .ref 2000), (1, .ref 0), (2, .ref 113), (3, .int x3)] [] h11 Q) ∧ (¬ v4 = v10 → Q (0 : Int32) h11))))))) : GoI 10 mL_law 791 [(0, .ref 2000), (1, .ref 0), (2, .ref 113), (3, .int x3)] [] h Q := by
  refine go_aload_n (pc2 := 792) dL_law_791 rfl rfl rfl ?_
  refine go_aload_n (pc2 := 793) dL_law_792 rfl rfl rfl ?_
  refine go_iload_n (pc2 := 794) dL_law_793 rfl rfl rfl ?_
  refine go_iconst (pc2 := 795) (v := (1 : Int32)) dL_law_794 rfl (by decide) ?_
  refine go_iadd (pc2 := 796) dL_law_795 rfl ?_
  obtain ⟨y1, k⟩ := k
  refine go_sld (pc2 := 797) dL_law_796 rfl y1 rfl ?_
  obtain ⟨Q2, hC3, k⟩ := k
  refine gcV_I (pc2 := 800) (dC := 6) (As := [.int (h.1 2000 ((x3 + (1 : Int32))).toNatClampNeg)]) (st := []) rfl dL_law_797 rfl w_766 ok_X10_row vi_X10_row c_0 (by decide) rfl rfl rfl (by decide) (Nat.le_of_ble_eq_true rfl) hC3 (fun v4 h5 hq6 => ?_)
  have k := k v4 h5 hq6
  refine go_aload_n (pc2 := 801) dL_law_800 rfl rfl rfl ?_
  refine go_aload_n (pc2 := 802) dL_law_801 rfl rfl rfl ?_
  refine go_iload_n (pc2 := 803) dL_law_802 rfl rfl rfl ?_
  refine go_iconst (pc2 := 804) (v := (1 : Int32)) dL_law_803 rfl (by decide) ?_
  refine go_iadd (pc2 := 805) dL_law_804 rfl ?_
  obtain ⟨y7, k⟩ := k
  refine go_sld (pc2 := 806) dL_law_805 rfl y7 rfl ?_
  obtain ⟨Q8, hC9, k⟩ := k
  refine gcV_I (pc2 := 809) (dC := 8) (As := [.int (h5.1 2000 ((x3 + (1 : Int32))).toNatClampNeg)]) (st := [.int v4]) rfl dL_law_806 rfl w_1349 ok_X11_row vi_X11_row c_113 (by decide) rfl rfl rfl (by decide) (Nat.le_of_ble_eq_true rfl) hC9 (fun v10 h11 hq12 => ?_)
  have k := k v10 h11 hq12
  refine go_icmp_eq (pc2 := 812) (tgt := 1729) dL_law_809 rfl (by decide) (fun c => ?_) (fun c => ?_)
  · have k := k.1 c
    exact k
  · have k := k.2 c
    refine go_iconst (pc2 := 813) (v := (0 : Int32)) dL_law_812 rfl (by decide) ?_
    exact go_iret dL_law_813 ⟨_, rfl, rfl⟩ ⟨rfl, _, rfl, k⟩
theorem b_L_law_778 {x3 : Int32} {h : Hp} {Q : Int32 → Hp → Prop}  (k : (∃ Q1, CtI 6 mX10_best [.ref 0] h Q1 ∧ ∀ (v3 : Int32) (h4 : Hp), Q1 v3 h4 → (∃ Q6, CtI 8 mX11_best [.ref 113] h4 Q6 ∧ ∀ (v8 : Int32) (h9 : Hp), Q6 v8 h9 → ((v3 = v8 → GoI 10 mL_law 1729 [(0, .ref 2000), (1, .ref 0), (2, .ref 113), (3, .int x3)] [] h9 Q) ∧ (¬ v3 = v8 → Q (0 : Int32) h9))))) : GoI 10 mL_law 778 [(0, .ref 2000), (1, .ref 0), (2, .ref 113), (3, .int x3)] [] h Q := by
  refine go_aload_n (pc2 := 779) dL_law_778 rfl rfl rfl ?_
  obtain ⟨Q1, hC2, k⟩ := k
  refine gcV_I (pc2 := 782) (dC := 6) (As := []) (st := []) rfl dL_law_779 rfl w_703 ok_X10_best vi_X10_best c_0 (by decide) rfl rfl rfl (by decide) (Nat.le_of_ble_eq_true rfl) hC2 (fun v3 h4 hq5 => ?_)
  have k := k v3 h4 hq5
  refine go_aload_n (pc2 := 783) dL_law_782 rfl rfl rfl ?_
  obtain ⟨Q6, hC7, k⟩ := k
  refine gcV_I (pc2 := 786) (dC := 8) (As := []) (st := [.int v3]) rfl dL_law_783 rfl w_1325 ok_X11_best vi_X11_best c_113 (by decide) rfl rfl rfl (by decide) (Nat.le_of_ble_eq_true rfl) hC7 (fun v8 h9 hq10 => ?_)
  have k := k v8 h9 hq10
  refine go_icmp_eq (pc2 := 789) (tgt := 1729) dL_law_786 rfl (by decide) (fun c => ?_) (fun c => ?_)
  · have k := k.1 c
    exact k
  · have k := k.2 c
    refine go_iconst (pc2 := 790) (v := (0 : Int32)) dL_law_789 rfl (by decide) ?_
    exact go_iret dL_law_790 ⟨_, rfl, rfl⟩ ⟨rfl, _, rfl, k⟩
theorem b_L_law_735 {x3 : Int32} {h : Hp} {Q : Int32 → Hp → Prop}  (k : (vp_in (x3 + (1 : Int32)) (h.1 2001 0).toNatClampNeg ∧ (vp_in (x3 + (2 : Int32)) (h.1 2001 0).toNatClampNeg ∧ (vp_in (x3 + (3 : Int32)) (h.1 2001 0).toNatClampNeg ∧ (∃ Q4, CtI 3 mX10_given [.ref 0, .int (h.1 2000 ((x3 + (1 : Int32))).toNatClampNeg), .int (h.1 2000 ((x3 + (2 : Int32))).toNatClampNeg), .int (h.1 2000 ((x3 + (3 : Int32))).toNatClampNeg)] h Q4 ∧ ∀ (v6 : Int32) (h7 : Hp), Q4 v6 h7 → (vp_in (x3 + (1 : Int32)) (h7.1 2001 0).toNatClampNeg ∧ (vp_in (x3 + (2 : Int32)) (h7.1 2001 0).toNatClampNeg ∧ (vp_in (x3 + (3 : Int32)) (h7.1 2001 0).toNatClampNeg ∧ (∃ Q12, CtI 5 mX11_given [.ref 113, .int (h7.1 2000 ((x3 + (1 : Int32))).toNatClampNeg), .int (h7.1 2000 ((x3 + (2 : Int32))).toNatClampNeg), .int (h7.1 2000 ((x3 + (3 : Int32))).toNatClampNeg)] h7 Q12 ∧ ∀ (v14 : Int32) (h15 : Hp), Q12 v14 h15 → ((v6 = v14 → GoI 10 mL_law 1729 [(0, .ref 2000), (1, .ref 0), (2, .ref 113), (3, .int x3)] [] h15 Q) ∧ (¬ v6 = v14 → Q (0 : Int32) h15))))))))))) : GoI 10 mL_law 735 [(0, .ref 2000), (1, .ref 0), (2, .ref 113), (3, .int x3)] [] h Q := by
  refine go_aload_n (pc2 := 736) dL_law_735 rfl rfl rfl ?_
  refine go_aload_n (pc2 := 737) dL_law_736 rfl rfl rfl ?_
  refine go_iload_n (pc2 := 738) dL_law_737 rfl rfl rfl ?_
  refine go_iconst (pc2 := 739) (v := (1 : Int32)) dL_law_738 rfl (by decide) ?_
  refine go_iadd (pc2 := 740) dL_law_739 rfl ?_
  obtain ⟨y1, k⟩ := k
  refine go_sld (pc2 := 741) dL_law_740 rfl y1 rfl ?_
  refine go_aload_n (pc2 := 742) dL_law_741 rfl rfl rfl ?_
  refine go_iload_n (pc2 := 743) dL_law_742 rfl rfl rfl ?_
  refine go_iconst (pc2 := 744) (v := (2 : Int32)) dL_law_743 rfl (by decide) ?_
  refine go_iadd (pc2 := 745) dL_law_744 rfl ?_
  obtain ⟨y2, k⟩ := k
  refine go_sld (pc2 := 746) dL_law_745 rfl y2 rfl ?_
  refine go_aload_n (pc2 := 747) dL_law_746 rfl rfl rfl ?_
  refine go_iload_n (pc2 := 748) dL_law_747 rfl rfl rfl ?_
  refine go_iconst (pc2 := 749) (v := (3 : Int32)) dL_law_748 rfl (by decide) ?_
  refine go_iadd (pc2 := 750) dL_law_749 rfl ?_
  obtain ⟨y3, k⟩ := k
  refine go_sld (pc2 := 751) dL_law_750 rfl y3 rfl ?_
  obtain ⟨Q4, hC5, k⟩ := k
  refine gcV_I (pc2 := 754) (dC := 3) (As := [.int (h.1 2000 ((x3 + (1 : Int32))).toNatClampNeg), .int (h.1 2000 ((x3 + (2 : Int32))).toNatClampNeg), .int (h.1 2000 ((x3 + (3 : Int32))).toNatClampNeg)]) (st := []) rfl dL_law_751 rfl w_699 ok_X10_given vi_X10_given c_0 (by decide) rfl rfl rfl (by decide) (Nat.le_of_ble_eq_true rfl) hC5 (fun v6 h7 hq8 => ?_)
  have k := k v6 h7 hq8
  refine go_aload_n (pc2 := 755) dL_law_754 rfl rfl rfl ?_
  refine go_aload_n (pc2 := 756) dL_law_755 rfl rfl rfl ?_
  refine go_iload_n (pc2 := 757) dL_law_756 rfl rfl rfl ?_
  refine go_iconst (pc2 := 758) (v := (1 : Int32)) dL_law_757 rfl (by decide) ?_
  refine go_iadd (pc2 := 759) dL_law_758 rfl ?_
  obtain ⟨y9, k⟩ := k
  refine go_sld (pc2 := 760) dL_law_759 rfl y9 rfl ?_
  refine go_aload_n (pc2 := 761) dL_law_760 rfl rfl rfl ?_
  refine go_iload_n (pc2 := 762) dL_law_761 rfl rfl rfl ?_
  refine go_iconst (pc2 := 763) (v := (2 : Int32)) dL_law_762 rfl (by decide) ?_
  refine go_iadd (pc2 := 764) dL_law_763 rfl ?_
  obtain ⟨y10, k⟩ := k
  refine go_sld (pc2 := 765) dL_law_764 rfl y10 rfl ?_
  refine go_aload_n (pc2 := 766) dL_law_765 rfl rfl rfl ?_
  refine go_iload_n (pc2 := 767) dL_law_766 rfl rfl rfl ?_
  refine go_iconst (pc2 := 768) (v := (3 : Int32)) dL_law_767 rfl (by decide) ?_
  refine go_iadd (pc2 := 769) dL_law_768 rfl ?_
  obtain ⟨y11, k⟩ := k
  refine go_sld (pc2 := 770) dL_law_769 rfl y11 rfl ?_
  obtain ⟨Q12, hC13, k⟩ := k
  refine gcV_I (pc2 := 773) (dC := 5) (As := [.int (h7.1 2000 ((x3 + (1 : Int32))).toNatClampNeg), .int (h7.1 2000 ((x3 + (2 : Int32))).toNatClampNeg), .int (h7.1 2000 ((x3 + (3 : Int32))).toNatClampNeg)]) (st := [.int v6]) rfl dL_law_770 rfl w_1321 ok_X11_given vi_X11_given c_113 (by decide) rfl rfl rfl (by decide) (Nat.le_of_ble_eq_true rfl) hC13 (fun v14 h15 hq16 => ?_)
  have k := k v14 h15 hq16
  refine go_icmp_eq (pc2 := 776) (tgt := 1729) dL_law_773 rfl (by decide) (fun c => ?_) (fun c => ?_)
  · have k := k.1 c
    exact k
  · have k := k.2 c
    refine go_iconst (pc2 := 777) (v := (0 : Int32)) dL_law_776 rfl (by decide) ?_
    exact go_iret dL_law_777 ⟨_, rfl, rfl⟩ ⟨rfl, _, rfl, k⟩
theorem b_L_law_702 {x3 : Int32} {h : Hp} {Q : Int32 → Hp → Prop}  (k : (vp_in (x3 + (1 : Int32)) (h.1 2001 0).toNatClampNeg ∧ (vp_in (x3 + (2 : Int32)) (h.1 2001 0).toNatClampNeg ∧ (∃ Q3, CtI 3 mX10_done [.ref 0, .int (h.1 2000 ((x3 + (1 : Int32))).toNatClampNeg), .int (h.1 2000 ((x3 + (2 : Int32))).toNatClampNeg)] h Q3 ∧ ∀ (v5 : Int32) (h6 : Hp), Q3 v5 h6 → (vp_in (x3 + (1 : Int32)) (h6.1 2001 0).toNatClampNeg ∧ (vp_in (x3 + (2 : Int32)) (h6.1 2001 0).toNatClampNeg ∧ (∃ Q10, CtI 5 mX11_done [.ref 113, .int (h6.1 2000 ((x3 + (1 : Int32))).toNatClampNeg), .int (h6.1 2000 ((x3 + (2 : Int32))).toNatClampNeg)] h6 Q10 ∧ ∀ (v12 : Int32) (h13 : Hp), Q10 v12 h13 → ((v5 = v12 → GoI 10 mL_law 1729 [(0, .ref 2000), (1, .ref 0), (2, .ref 113), (3, .int x3)] [] h13 Q) ∧ (¬ v5 = v12 → Q (0 : Int32) h13))))))))) : GoI 10 mL_law 702 [(0, .ref 2000), (1, .ref 0), (2, .ref 113), (3, .int x3)] [] h Q := by
  refine go_aload_n (pc2 := 703) dL_law_702 rfl rfl rfl ?_
  refine go_aload_n (pc2 := 704) dL_law_703 rfl rfl rfl ?_
  refine go_iload_n (pc2 := 705) dL_law_704 rfl rfl rfl ?_
  refine go_iconst (pc2 := 706) (v := (1 : Int32)) dL_law_705 rfl (by decide) ?_
  refine go_iadd (pc2 := 707) dL_law_706 rfl ?_
  obtain ⟨y1, k⟩ := k
  refine go_sld (pc2 := 708) dL_law_707 rfl y1 rfl ?_
  refine go_aload_n (pc2 := 709) dL_law_708 rfl rfl rfl ?_
  refine go_iload_n (pc2 := 710) dL_law_709 rfl rfl rfl ?_
  refine go_iconst (pc2 := 711) (v := (2 : Int32)) dL_law_710 rfl (by decide) ?_
  refine go_iadd (pc2 := 712) dL_law_711 rfl ?_
  obtain ⟨y2, k⟩ := k
  refine go_sld (pc2 := 713) dL_law_712 rfl y2 rfl ?_
  obtain ⟨Q3, hC4, k⟩ := k
  refine gcV_I (pc2 := 716) (dC := 3) (As := [.int (h.1 2000 ((x3 + (1 : Int32))).toNatClampNeg), .int (h.1 2000 ((x3 + (2 : Int32))).toNatClampNeg)]) (st := []) rfl dL_law_713 rfl w_672 ok_X10_done vi_X10_done c_0 (by decide) rfl rfl rfl (by decide) (Nat.le_of_ble_eq_true rfl) hC4 (fun v5 h6 hq7 => ?_)
  have k := k v5 h6 hq7
  refine go_aload_n (pc2 := 717) dL_law_716 rfl rfl rfl ?_
  refine go_aload_n (pc2 := 718) dL_law_717 rfl rfl rfl ?_
  refine go_iload_n (pc2 := 719) dL_law_718 rfl rfl rfl ?_
  refine go_iconst (pc2 := 720) (v := (1 : Int32)) dL_law_719 rfl (by decide) ?_
  refine go_iadd (pc2 := 721) dL_law_720 rfl ?_
  obtain ⟨y8, k⟩ := k
  refine go_sld (pc2 := 722) dL_law_721 rfl y8 rfl ?_
  refine go_aload_n (pc2 := 723) dL_law_722 rfl rfl rfl ?_
  refine go_iload_n (pc2 := 724) dL_law_723 rfl rfl rfl ?_
  refine go_iconst (pc2 := 725) (v := (2 : Int32)) dL_law_724 rfl (by decide) ?_
  refine go_iadd (pc2 := 726) dL_law_725 rfl ?_
  obtain ⟨y9, k⟩ := k
  refine go_sld (pc2 := 727) dL_law_726 rfl y9 rfl ?_
  obtain ⟨Q10, hC11, k⟩ := k
  refine gcV_I (pc2 := 730) (dC := 5) (As := [.int (h6.1 2000 ((x3 + (1 : Int32))).toNatClampNeg), .int (h6.1 2000 ((x3 + (2 : Int32))).toNatClampNeg)]) (st := [.int v5]) rfl dL_law_727 rfl w_1292 ok_X11_done vi_X11_done c_113 (by decide) rfl rfl rfl (by decide) (Nat.le_of_ble_eq_true rfl) hC11 (fun v12 h13 hq14 => ?_)
  have k := k v12 h13 hq14
  refine go_icmp_eq (pc2 := 733) (tgt := 1729) dL_law_730 rfl (by decide) (fun c => ?_) (fun c => ?_)
  · have k := k.1 c
    exact k
  · have k := k.2 c
    refine go_iconst (pc2 := 734) (v := (0 : Int32)) dL_law_733 rfl (by decide) ?_
    exact go_iret dL_law_734 ⟨_, rfl, rfl⟩ ⟨rfl, _, rfl, k⟩
theorem b_L_law_669 {x3 : Int32} {h : Hp} {Q : Int32 → Hp → Prop}  (k : (vp_in (x3 + (1 : Int32)) (h.1 2001 0).toNatClampNeg ∧ (vp_in (x3 + (2 : Int32)) (h.1 2001 0).toNatClampNeg ∧ (∃ Q3, CtI 3 mX10_rows [.ref 0, .int (h.1 2000 ((x3 + (1 : Int32))).toNatClampNeg), .int (h.1 2000 ((x3 + (2 : Int32))).toNatClampNeg)] h Q3 ∧ ∀ (v5 : Int32) (h6 : Hp), Q3 v5 h6 → (vp_in (x3 + (1 : Int32)) (h6.1 2001 0).toNatClampNeg ∧ (vp_in (x3 + (2 : Int32)) (h6.1 2001 0).toNatClampNeg ∧ (∃ Q10, CtI 3 mX11_rows [.ref 113, .int (h6.1 2000 ((x3 + (1 : Int32))).toNatClampNeg), .int (h6.1 2000 ((x3 + (2 : Int32))).toNatClampNeg)] h6 Q10 ∧ ∀ (v12 : Int32) (h13 : Hp), Q10 v12 h13 → ((v5 = v12 → GoI 10 mL_law 1729 [(0, .ref 2000), (1, .ref 0), (2, .ref 113), (3, .int x3)] [] h13 Q) ∧ (¬ v5 = v12 → Q (0 : Int32) h13))))))))) : GoI 10 mL_law 669 [(0, .ref 2000), (1, .ref 0), (2, .ref 113), (3, .int x3)] [] h Q := by
  refine go_aload_n (pc2 := 670) dL_law_669 rfl rfl rfl ?_
  refine go_aload_n (pc2 := 671) dL_law_670 rfl rfl rfl ?_
  refine go_iload_n (pc2 := 672) dL_law_671 rfl rfl rfl ?_
  refine go_iconst (pc2 := 673) (v := (1 : Int32)) dL_law_672 rfl (by decide) ?_
  refine go_iadd (pc2 := 674) dL_law_673 rfl ?_
  obtain ⟨y1, k⟩ := k
  refine go_sld (pc2 := 675) dL_law_674 rfl y1 rfl ?_
  refine go_aload_n (pc2 := 676) dL_law_675 rfl rfl rfl ?_
  refine go_iload_n (pc2 := 677) dL_law_676 rfl rfl rfl ?_
  refine go_iconst (pc2 := 678) (v := (2 : Int32)) dL_law_677 rfl (by decide) ?_
  refine go_iadd (pc2 := 679) dL_law_678 rfl ?_
  obtain ⟨y2, k⟩ := k
  refine go_sld (pc2 := 680) dL_law_679 rfl y2 rfl ?_
  obtain ⟨Q3, hC4, k⟩ := k
  refine gcV_I (pc2 := 683) (dC := 3) (As := [.int (h.1 2000 ((x3 + (1 : Int32))).toNatClampNeg), .int (h.1 2000 ((x3 + (2 : Int32))).toNatClampNeg)]) (st := []) rfl dL_law_680 rfl w_668 ok_X10_rows vi_X10_rows c_0 (by decide) rfl rfl rfl (by decide) (Nat.le_of_ble_eq_true rfl) hC4 (fun v5 h6 hq7 => ?_)
  have k := k v5 h6 hq7
  refine go_aload_n (pc2 := 684) dL_law_683 rfl rfl rfl ?_
  refine go_aload_n (pc2 := 685) dL_law_684 rfl rfl rfl ?_
  refine go_iload_n (pc2 := 686) dL_law_685 rfl rfl rfl ?_
  refine go_iconst (pc2 := 687) (v := (1 : Int32)) dL_law_686 rfl (by decide) ?_
  refine go_iadd (pc2 := 688) dL_law_687 rfl ?_
  obtain ⟨y8, k⟩ := k
  refine go_sld (pc2 := 689) dL_law_688 rfl y8 rfl ?_
  refine go_aload_n (pc2 := 690) dL_law_689 rfl rfl rfl ?_
  refine go_iload_n (pc2 := 691) dL_law_690 rfl rfl rfl ?_
  refine go_iconst (pc2 := 692) (v := (2 : Int32)) dL_law_691 rfl (by decide) ?_
  refine go_iadd (pc2 := 693) dL_law_692 rfl ?_
  obtain ⟨y9, k⟩ := k
  refine go_sld (pc2 := 694) dL_law_693 rfl y9 rfl ?_
  obtain ⟨Q10, hC11, k⟩ := k
  refine gcV_I (pc2 := 697) (dC := 3) (As := [.int (h6.1 2000 ((x3 + (1 : Int32))).toNatClampNeg), .int (h6.1 2000 ((x3 + (2 : Int32))).toNatClampNeg)]) (st := [.int v5]) rfl dL_law_694 rfl w_1288 ok_X11_rows vi_X11_rows c_113 (by decide) rfl rfl rfl (by decide) (Nat.le_of_ble_eq_true rfl) hC11 (fun v12 h13 hq14 => ?_)
  have k := k v12 h13 hq14
  refine go_icmp_eq (pc2 := 700) (tgt := 1729) dL_law_697 rfl (by decide) (fun c => ?_) (fun c => ?_)
  · have k := k.1 c
    exact k
  · have k := k.2 c
    refine go_iconst (pc2 := 701) (v := (0 : Int32)) dL_law_700 rfl (by decide) ?_
    exact go_iret dL_law_701 ⟨_, rfl, rfl⟩ ⟨rfl, _, rfl, k⟩
theorem b_L_law_636 {x3 : Int32} {h : Hp} {Q : Int32 → Hp → Prop}  (k : (vp_in (x3 + (1 : Int32)) (h.1 2001 0).toNatClampNeg ∧ (vp_in (x3 + (2 : Int32)) (h.1 2001 0).toNatClampNeg ∧ (∃ Q3, CtI 3 mX10_lawful [.ref 0, .int (h.1 2000 ((x3 + (1 : Int32))).toNatClampNeg), .int (h.1 2000 ((x3 + (2 : Int32))).toNatClampNeg)] h Q3 ∧ ∀ (v5 : Int32) (h6 : Hp), Q3 v5 h6 → (vp_in (x3 + (1 : Int32)) (h6.1 2001 0).toNatClampNeg ∧ (vp_in (x3 + (2 : Int32)) (h6.1 2001 0).toNatClampNeg ∧ (∃ Q10, CtI 3 mX11_lawful [.ref 113, .int (h6.1 2000 ((x3 + (1 : Int32))).toNatClampNeg), .int (h6.1 2000 ((x3 + (2 : Int32))).toNatClampNeg)] h6 Q10 ∧ ∀ (v12 : Int32) (h13 : Hp), Q10 v12 h13 → ((v5 = v12 → GoI 10 mL_law 1729 [(0, .ref 2000), (1, .ref 0), (2, .ref 113), (3, .int x3)] [] h13 Q) ∧ (¬ v5 = v12 → Q (0 : Int32) h13))))))))) : GoI 10 mL_law 636 [(0, .ref 2000), (1, .ref 0), (2, .ref 113), (3, .int x3)] [] h Q := by
  refine go_aload_n (pc2 := 637) dL_law_636 rfl rfl rfl ?_
  refine go_aload_n (pc2 := 638) dL_law_637 rfl rfl rfl ?_
  refine go_iload_n (pc2 := 639) dL_law_638 rfl rfl rfl ?_
  refine go_iconst (pc2 := 640) (v := (1 : Int32)) dL_law_639 rfl (by decide) ?_
  refine go_iadd (pc2 := 641) dL_law_640 rfl ?_
  obtain ⟨y1, k⟩ := k
  refine go_sld (pc2 := 642) dL_law_641 rfl y1 rfl ?_
  refine go_aload_n (pc2 := 643) dL_law_642 rfl rfl rfl ?_
  refine go_iload_n (pc2 := 644) dL_law_643 rfl rfl rfl ?_
  refine go_iconst (pc2 := 645) (v := (2 : Int32)) dL_law_644 rfl (by decide) ?_
  refine go_iadd (pc2 := 646) dL_law_645 rfl ?_
  obtain ⟨y2, k⟩ := k
  refine go_sld (pc2 := 647) dL_law_646 rfl y2 rfl ?_
  obtain ⟨Q3, hC4, k⟩ := k
  refine gcV_I (pc2 := 650) (dC := 3) (As := [.int (h.1 2000 ((x3 + (1 : Int32))).toNatClampNeg), .int (h.1 2000 ((x3 + (2 : Int32))).toNatClampNeg)]) (st := []) rfl dL_law_647 rfl w_653 ok_X10_lawful vi_X10_lawful c_0 (by decide) rfl rfl rfl (by decide) (Nat.le_of_ble_eq_true rfl) hC4 (fun v5 h6 hq7 => ?_)
  have k := k v5 h6 hq7
  refine go_aload_n (pc2 := 651) dL_law_650 rfl rfl rfl ?_
  refine go_aload_n (pc2 := 652) dL_law_651 rfl rfl rfl ?_
  refine go_iload_n (pc2 := 653) dL_law_652 rfl rfl rfl ?_
  refine go_iconst (pc2 := 654) (v := (1 : Int32)) dL_law_653 rfl (by decide) ?_
  refine go_iadd (pc2 := 655) dL_law_654 rfl ?_
  obtain ⟨y8, k⟩ := k
  refine go_sld (pc2 := 656) dL_law_655 rfl y8 rfl ?_
  refine go_aload_n (pc2 := 657) dL_law_656 rfl rfl rfl ?_
  refine go_iload_n (pc2 := 658) dL_law_657 rfl rfl rfl ?_
  refine go_iconst (pc2 := 659) (v := (2 : Int32)) dL_law_658 rfl (by decide) ?_
  refine go_iadd (pc2 := 660) dL_law_659 rfl ?_
  obtain ⟨y9, k⟩ := k
  refine go_sld (pc2 := 661) dL_law_660 rfl y9 rfl ?_
  obtain ⟨Q10, hC11, k⟩ := k
  refine gcV_I (pc2 := 664) (dC := 3) (As := [.int (h6.1 2000 ((x3 + (1 : Int32))).toNatClampNeg), .int (h6.1 2000 ((x3 + (2 : Int32))).toNatClampNeg)]) (st := [.int v5]) rfl dL_law_661 rfl w_1270 ok_X11_lawful vi_X11_lawful c_113 (by decide) rfl rfl rfl (by decide) (Nat.le_of_ble_eq_true rfl) hC11 (fun v12 h13 hq14 => ?_)
  have k := k v12 h13 hq14
  refine go_icmp_eq (pc2 := 667) (tgt := 1729) dL_law_664 rfl (by decide) (fun c => ?_) (fun c => ?_)
  · have k := k.1 c
    exact k
  · have k := k.2 c
    refine go_iconst (pc2 := 668) (v := (0 : Int32)) dL_law_667 rfl (by decide) ?_
    exact go_iret dL_law_668 ⟨_, rfl, rfl⟩ ⟨rfl, _, rfl, k⟩
theorem b_L_law_603 {x3 : Int32} {h : Hp} {Q : Int32 → Hp → Prop}  (k : (vp_in (x3 + (1 : Int32)) (h.1 2001 0).toNatClampNeg ∧ (vp_in (x3 + (2 : Int32)) (h.1 2001 0).toNatClampNeg ∧ (∃ Q3, CtI 3 mX10_starts [.ref 0, .int (h.1 2000 ((x3 + (1 : Int32))).toNatClampNeg), .int (h.1 2000 ((x3 + (2 : Int32))).toNatClampNeg)] h Q3 ∧ ∀ (v5 : Int32) (h6 : Hp), Q3 v5 h6 → (vp_in (x3 + (1 : Int32)) (h6.1 2001 0).toNatClampNeg ∧ (vp_in (x3 + (2 : Int32)) (h6.1 2001 0).toNatClampNeg ∧ (∃ Q10, CtI 2 mX11_starts [.ref 113, .int (h6.1 2000 ((x3 + (1 : Int32))).toNatClampNeg), .int (h6.1 2000 ((x3 + (2 : Int32))).toNatClampNeg)] h6 Q10 ∧ ∀ (v12 : Int32) (h13 : Hp), Q10 v12 h13 → ((v5 = v12 → GoI 10 mL_law 1729 [(0, .ref 2000), (1, .ref 0), (2, .ref 113), (3, .int x3)] [] h13 Q) ∧ (¬ v5 = v12 → Q (0 : Int32) h13))))))))) : GoI 10 mL_law 603 [(0, .ref 2000), (1, .ref 0), (2, .ref 113), (3, .int x3)] [] h Q := by
  refine go_aload_n (pc2 := 604) dL_law_603 rfl rfl rfl ?_
  refine go_aload_n (pc2 := 605) dL_law_604 rfl rfl rfl ?_
  refine go_iload_n (pc2 := 606) dL_law_605 rfl rfl rfl ?_
  refine go_iconst (pc2 := 607) (v := (1 : Int32)) dL_law_606 rfl (by decide) ?_
  refine go_iadd (pc2 := 608) dL_law_607 rfl ?_
  obtain ⟨y1, k⟩ := k
  refine go_sld (pc2 := 609) dL_law_608 rfl y1 rfl ?_
  refine go_aload_n (pc2 := 610) dL_law_609 rfl rfl rfl ?_
  refine go_iload_n (pc2 := 611) dL_law_610 rfl rfl rfl ?_
  refine go_iconst (pc2 := 612) (v := (2 : Int32)) dL_law_611 rfl (by decide) ?_
  refine go_iadd (pc2 := 613) dL_law_612 rfl ?_
  obtain ⟨y2, k⟩ := k
  refine go_sld (pc2 := 614) dL_law_613 rfl y2 rfl ?_
  obtain ⟨Q3, hC4, k⟩ := k
  refine gcV_I (pc2 := 617) (dC := 3) (As := [.int (h.1 2000 ((x3 + (1 : Int32))).toNatClampNeg), .int (h.1 2000 ((x3 + (2 : Int32))).toNatClampNeg)]) (st := []) rfl dL_law_614 rfl w_642 ok_X10_starts vi_X10_starts c_0 (by decide) rfl rfl rfl (by decide) (Nat.le_of_ble_eq_true rfl) hC4 (fun v5 h6 hq7 => ?_)
  have k := k v5 h6 hq7
  refine go_aload_n (pc2 := 618) dL_law_617 rfl rfl rfl ?_
  refine go_aload_n (pc2 := 619) dL_law_618 rfl rfl rfl ?_
  refine go_iload_n (pc2 := 620) dL_law_619 rfl rfl rfl ?_
  refine go_iconst (pc2 := 621) (v := (1 : Int32)) dL_law_620 rfl (by decide) ?_
  refine go_iadd (pc2 := 622) dL_law_621 rfl ?_
  obtain ⟨y8, k⟩ := k
  refine go_sld (pc2 := 623) dL_law_622 rfl y8 rfl ?_
  refine go_aload_n (pc2 := 624) dL_law_623 rfl rfl rfl ?_
  refine go_iload_n (pc2 := 625) dL_law_624 rfl rfl rfl ?_
  refine go_iconst (pc2 := 626) (v := (2 : Int32)) dL_law_625 rfl (by decide) ?_
  refine go_iadd (pc2 := 627) dL_law_626 rfl ?_
  obtain ⟨y9, k⟩ := k
  refine go_sld (pc2 := 628) dL_law_627 rfl y9 rfl ?_
  obtain ⟨Q10, hC11, k⟩ := k
  refine gcV_I (pc2 := 631) (dC := 2) (As := [.int (h6.1 2000 ((x3 + (1 : Int32))).toNatClampNeg), .int (h6.1 2000 ((x3 + (2 : Int32))).toNatClampNeg)]) (st := [.int v5]) rfl dL_law_628 rfl w_1259 ok_X11_starts vi_X11_starts c_113 (by decide) rfl rfl rfl (by decide) (Nat.le_of_ble_eq_true rfl) hC11 (fun v12 h13 hq14 => ?_)
  have k := k v12 h13 hq14
  refine go_icmp_eq (pc2 := 634) (tgt := 1729) dL_law_631 rfl (by decide) (fun c => ?_) (fun c => ?_)
  · have k := k.1 c
    exact k
  · have k := k.2 c
    refine go_iconst (pc2 := 635) (v := (0 : Int32)) dL_law_634 rfl (by decide) ?_
    exact go_iret dL_law_635 ⟨_, rfl, rfl⟩ ⟨rfl, _, rfl, k⟩
theorem b_L_law_570 {x3 : Int32} {h : Hp} {Q : Int32 → Hp → Prop}  (k : (vp_in (x3 + (1 : Int32)) (h.1 2001 0).toNatClampNeg ∧ (vp_in (x3 + (2 : Int32)) (h.1 2001 0).toNatClampNeg ∧ (∃ Q3, CtI 3 mX10_of [.ref 0, .int (h.1 2000 ((x3 + (1 : Int32))).toNatClampNeg), .int (h.1 2000 ((x3 + (2 : Int32))).toNatClampNeg)] h Q3 ∧ ∀ (v5 : Int32) (h6 : Hp), Q3 v5 h6 → (vp_in (x3 + (1 : Int32)) (h6.1 2001 0).toNatClampNeg ∧ (vp_in (x3 + (2 : Int32)) (h6.1 2001 0).toNatClampNeg ∧ (∃ Q10, CtI 2 mX11_of [.ref 113, .int (h6.1 2000 ((x3 + (1 : Int32))).toNatClampNeg), .int (h6.1 2000 ((x3 + (2 : Int32))).toNatClampNeg)] h6 Q10 ∧ ∀ (v12 : Int32) (h13 : Hp), Q10 v12 h13 → ((v5 = v12 → GoI 10 mL_law 1729 [(0, .ref 2000), (1, .ref 0), (2, .ref 113), (3, .int x3)] [] h13 Q) ∧ (¬ v5 = v12 → Q (0 : Int32) h13))))))))) : GoI 10 mL_law 570 [(0, .ref 2000), (1, .ref 0), (2, .ref 113), (3, .int x3)] [] h Q := by
  refine go_aload_n (pc2 := 571) dL_law_570 rfl rfl rfl ?_
  refine go_aload_n (pc2 := 572) dL_law_571 rfl rfl rfl ?_
  refine go_iload_n (pc2 := 573) dL_law_572 rfl rfl rfl ?_
  refine go_iconst (pc2 := 574) (v := (1 : Int32)) dL_law_573 rfl (by decide) ?_
  refine go_iadd (pc2 := 575) dL_law_574 rfl ?_
  obtain ⟨y1, k⟩ := k
  refine go_sld (pc2 := 576) dL_law_575 rfl y1 rfl ?_
  refine go_aload_n (pc2 := 577) dL_law_576 rfl rfl rfl ?_
  refine go_iload_n (pc2 := 578) dL_law_577 rfl rfl rfl ?_
  refine go_iconst (pc2 := 579) (v := (2 : Int32)) dL_law_578 rfl (by decide) ?_
  refine go_iadd (pc2 := 580) dL_law_579 rfl ?_
  obtain ⟨y2, k⟩ := k
  refine go_sld (pc2 := 581) dL_law_580 rfl y2 rfl ?_
  obtain ⟨Q3, hC4, k⟩ := k
  refine gcV_I (pc2 := 584) (dC := 3) (As := [.int (h.1 2000 ((x3 + (1 : Int32))).toNatClampNeg), .int (h.1 2000 ((x3 + (2 : Int32))).toNatClampNeg)]) (st := []) rfl dL_law_581 rfl w_617 ok_X10_of vi_X10_of c_0 (by decide) rfl rfl rfl (by decide) (Nat.le_of_ble_eq_true rfl) hC4 (fun v5 h6 hq7 => ?_)
  have k := k v5 h6 hq7
  refine go_aload_n (pc2 := 585) dL_law_584 rfl rfl rfl ?_
  refine go_aload_n (pc2 := 586) dL_law_585 rfl rfl rfl ?_
  refine go_iload_n (pc2 := 587) dL_law_586 rfl rfl rfl ?_
  refine go_iconst (pc2 := 588) (v := (1 : Int32)) dL_law_587 rfl (by decide) ?_
  refine go_iadd (pc2 := 589) dL_law_588 rfl ?_
  obtain ⟨y8, k⟩ := k
  refine go_sld (pc2 := 590) dL_law_589 rfl y8 rfl ?_
  refine go_aload_n (pc2 := 591) dL_law_590 rfl rfl rfl ?_
  refine go_iload_n (pc2 := 592) dL_law_591 rfl rfl rfl ?_
  refine go_iconst (pc2 := 593) (v := (2 : Int32)) dL_law_592 rfl (by decide) ?_
  refine go_iadd (pc2 := 594) dL_law_593 rfl ?_
  obtain ⟨y9, k⟩ := k
  refine go_sld (pc2 := 595) dL_law_594 rfl y9 rfl ?_
  obtain ⟨Q10, hC11, k⟩ := k
  refine gcV_I (pc2 := 598) (dC := 2) (As := [.int (h6.1 2000 ((x3 + (1 : Int32))).toNatClampNeg), .int (h6.1 2000 ((x3 + (2 : Int32))).toNatClampNeg)]) (st := [.int v5]) rfl dL_law_595 rfl w_1245 ok_X11_of vi_X11_of c_113 (by decide) rfl rfl rfl (by decide) (Nat.le_of_ble_eq_true rfl) hC11 (fun v12 h13 hq14 => ?_)
  have k := k v12 h13 hq14
  refine go_icmp_eq (pc2 := 601) (tgt := 1729) dL_law_598 rfl (by decide) (fun c => ?_) (fun c => ?_)
  · have k := k.1 c
    exact k
  · have k := k.2 c
    refine go_iconst (pc2 := 602) (v := (0 : Int32)) dL_law_601 rfl (by decide) ?_
    exact go_iret dL_law_602 ⟨_, rfl, rfl⟩ ⟨rfl, _, rfl, k⟩
theorem b_L_law_547 {x3 : Int32} {h : Hp} {Q : Int32 → Hp → Prop}  (k : (vp_in (x3 + (1 : Int32)) (h.1 2001 0).toNatClampNeg ∧ (∃ Q2, CtI 1 mX10_merit [.ref 0, .int (h.1 2000 ((x3 + (1 : Int32))).toNatClampNeg)] h Q2 ∧ ∀ (v4 : Int32) (h5 : Hp), Q2 v4 h5 → (vp_in (x3 + (1 : Int32)) (h5.1 2001 0).toNatClampNeg ∧ (∃ Q8, CtI 1 mX11_merit [.ref 113, .int (h5.1 2000 ((x3 + (1 : Int32))).toNatClampNeg)] h5 Q8 ∧ ∀ (v10 : Int32) (h11 : Hp), Q8 v10 h11 → ((v4 = v10 → GoI 10 mL_law 1729 [(0, .ref 2000), (1, .ref 0), (2, .ref 113), (3, .int x3)] [] h11 Q) ∧ (¬ v4 = v10 → Q (0 : Int32) h11))))))) : GoI 10 mL_law 547 [(0, .ref 2000), (1, .ref 0), (2, .ref 113), (3, .int x3)] [] h Q := by
  refine go_aload_n (pc2 := 548) dL_law_547 rfl rfl rfl ?_
  refine go_aload_n (pc2 := 549) dL_law_548 rfl rfl rfl ?_
  refine go_iload_n (pc2 := 550) dL_law_549 rfl rfl rfl ?_
  refine go_iconst (pc2 := 551) (v := (1 : Int32)) dL_law_550 rfl (by decide) ?_
  refine go_iadd (pc2 := 552) dL_law_551 rfl ?_
  obtain ⟨y1, k⟩ := k
  refine go_sld (pc2 := 553) dL_law_552 rfl y1 rfl ?_
  obtain ⟨Q2, hC3, k⟩ := k
  refine gcV_I (pc2 := 556) (dC := 1) (As := [.int (h.1 2000 ((x3 + (1 : Int32))).toNatClampNeg)]) (st := []) rfl dL_law_553 rfl w_613 ok_X10_merit vi_X10_merit c_0 (by decide) rfl rfl rfl (by decide) (Nat.le_of_ble_eq_true rfl) hC3 (fun v4 h5 hq6 => ?_)
  have k := k v4 h5 hq6
  refine go_aload_n (pc2 := 557) dL_law_556 rfl rfl rfl ?_
  refine go_aload_n (pc2 := 558) dL_law_557 rfl rfl rfl ?_
  refine go_iload_n (pc2 := 559) dL_law_558 rfl rfl rfl ?_
  refine go_iconst (pc2 := 560) (v := (1 : Int32)) dL_law_559 rfl (by decide) ?_
  refine go_iadd (pc2 := 561) dL_law_560 rfl ?_
  obtain ⟨y7, k⟩ := k
  refine go_sld (pc2 := 562) dL_law_561 rfl y7 rfl ?_
  obtain ⟨Q8, hC9, k⟩ := k
  refine gcV_I (pc2 := 565) (dC := 1) (As := [.int (h5.1 2000 ((x3 + (1 : Int32))).toNatClampNeg)]) (st := [.int v4]) rfl dL_law_562 rfl w_1240 ok_X11_merit vi_X11_merit c_113 (by decide) rfl rfl rfl (by decide) (Nat.le_of_ble_eq_true rfl) hC9 (fun v10 h11 hq12 => ?_)
  have k := k v10 h11 hq12
  refine go_icmp_eq (pc2 := 568) (tgt := 1729) dL_law_565 rfl (by decide) (fun c => ?_) (fun c => ?_)
  · have k := k.1 c
    exact k
  · have k := k.2 c
    refine go_iconst (pc2 := 569) (v := (0 : Int32)) dL_law_568 rfl (by decide) ?_
    exact go_iret dL_law_569 ⟨_, rfl, rfl⟩ ⟨rfl, _, rfl, k⟩
theorem b_L_law_514 {x3 : Int32} {h : Hp} {Q : Int32 → Hp → Prop}  (k : (vp_in (x3 + (1 : Int32)) (h.1 2001 0).toNatClampNeg ∧ (vp_in (x3 + (2 : Int32)) (h.1 2001 0).toNatClampNeg ∧ (∃ Q3, CtI 2 mX10_age [.ref 0, .int (h.1 2000 ((x3 + (1 : Int32))).toNatClampNeg), .int (h.1 2000 ((x3 + (2 : Int32))).toNatClampNeg)] h Q3 ∧ ∀ (v5 : Int32) (h6 : Hp), Q3 v5 h6 → (vp_in (x3 + (1 : Int32)) (h6.1 2001 0).toNatClampNeg ∧ (vp_in (x3 + (2 : Int32)) (h6.1 2001 0).toNatClampNeg ∧ (∃ Q10, CtI 3 mX11_age [.ref 113, .int (h6.1 2000 ((x3 + (1 : Int32))).toNatClampNeg), .int (h6.1 2000 ((x3 + (2 : Int32))).toNatClampNeg)] h6 Q10 ∧ ∀ (v12 : Int32) (h13 : Hp), Q10 v12 h13 → ((v5 = v12 → GoI 10 mL_law 1729 [(0, .ref 2000), (1, .ref 0), (2, .ref 113), (3, .int x3)] [] h13 Q) ∧ (¬ v5 = v12 → Q (0 : Int32) h13))))))))) : GoI 10 mL_law 514 [(0, .ref 2000), (1, .ref 0), (2, .ref 113), (3, .int x3)] [] h Q := by
  refine go_aload_n (pc2 := 515) dL_law_514 rfl rfl rfl ?_
  refine go_aload_n (pc2 := 516) dL_law_515 rfl rfl rfl ?_
  refine go_iload_n (pc2 := 517) dL_law_516 rfl rfl rfl ?_
  refine go_iconst (pc2 := 518) (v := (1 : Int32)) dL_law_517 rfl (by decide) ?_
  refine go_iadd (pc2 := 519) dL_law_518 rfl ?_
  obtain ⟨y1, k⟩ := k
  refine go_sld (pc2 := 520) dL_law_519 rfl y1 rfl ?_
  refine go_aload_n (pc2 := 521) dL_law_520 rfl rfl rfl ?_
  refine go_iload_n (pc2 := 522) dL_law_521 rfl rfl rfl ?_
  refine go_iconst (pc2 := 523) (v := (2 : Int32)) dL_law_522 rfl (by decide) ?_
  refine go_iadd (pc2 := 524) dL_law_523 rfl ?_
  obtain ⟨y2, k⟩ := k
  refine go_sld (pc2 := 525) dL_law_524 rfl y2 rfl ?_
  obtain ⟨Q3, hC4, k⟩ := k
  refine gcV_I (pc2 := 528) (dC := 2) (As := [.int (h.1 2000 ((x3 + (1 : Int32))).toNatClampNeg), .int (h.1 2000 ((x3 + (2 : Int32))).toNatClampNeg)]) (st := []) rfl dL_law_525 rfl w_608 ok_X10_age vi_X10_age c_0 (by decide) rfl rfl rfl (by decide) (Nat.le_of_ble_eq_true rfl) hC4 (fun v5 h6 hq7 => ?_)
  have k := k v5 h6 hq7
  refine go_aload_n (pc2 := 529) dL_law_528 rfl rfl rfl ?_
  refine go_aload_n (pc2 := 530) dL_law_529 rfl rfl rfl ?_
  refine go_iload_n (pc2 := 531) dL_law_530 rfl rfl rfl ?_
  refine go_iconst (pc2 := 532) (v := (1 : Int32)) dL_law_531 rfl (by decide) ?_
  refine go_iadd (pc2 := 533) dL_law_532 rfl ?_
  obtain ⟨y8, k⟩ := k
  refine go_sld (pc2 := 534) dL_law_533 rfl y8 rfl ?_
  refine go_aload_n (pc2 := 535) dL_law_534 rfl rfl rfl ?_
  refine go_iload_n (pc2 := 536) dL_law_535 rfl rfl rfl ?_
  refine go_iconst (pc2 := 537) (v := (2 : Int32)) dL_law_536 rfl (by decide) ?_
  refine go_iadd (pc2 := 538) dL_law_537 rfl ?_
  obtain ⟨y9, k⟩ := k
  refine go_sld (pc2 := 539) dL_law_538 rfl y9 rfl ?_
  obtain ⟨Q10, hC11, k⟩ := k
  refine gcV_I (pc2 := 542) (dC := 3) (As := [.int (h6.1 2000 ((x3 + (1 : Int32))).toNatClampNeg), .int (h6.1 2000 ((x3 + (2 : Int32))).toNatClampNeg)]) (st := [.int v5]) rfl dL_law_539 rfl w_1232 ok_X11_age vi_X11_age c_113 (by decide) rfl rfl rfl (by decide) (Nat.le_of_ble_eq_true rfl) hC11 (fun v12 h13 hq14 => ?_)
  have k := k v12 h13 hq14
  refine go_icmp_eq (pc2 := 545) (tgt := 1729) dL_law_542 rfl (by decide) (fun c => ?_) (fun c => ?_)
  · have k := k.1 c
    exact k
  · have k := k.2 c
    refine go_iconst (pc2 := 546) (v := (0 : Int32)) dL_law_545 rfl (by decide) ?_
    exact go_iret dL_law_546 ⟨_, rfl, rfl⟩ ⟨rfl, _, rfl, k⟩
theorem b_L_law_471 {x3 : Int32} {h : Hp} {Q : Int32 → Hp → Prop}  (k : (vp_in (x3 + (1 : Int32)) (h.1 2001 0).toNatClampNeg ∧ (vp_in (x3 + (2 : Int32)) (h.1 2001 0).toNatClampNeg ∧ (vp_in (x3 + (3 : Int32)) (h.1 2001 0).toNatClampNeg ∧ (∃ Q4, CtI 2 mX10_times [.ref 0, .int (h.1 2000 ((x3 + (1 : Int32))).toNatClampNeg), .int (h.1 2000 ((x3 + (2 : Int32))).toNatClampNeg), .int (h.1 2000 ((x3 + (3 : Int32))).toNatClampNeg)] h Q4 ∧ ∀ (v6 : Int32) (h7 : Hp), Q4 v6 h7 → (vp_in (x3 + (1 : Int32)) (h7.1 2001 0).toNatClampNeg ∧ (vp_in (x3 + (2 : Int32)) (h7.1 2001 0).toNatClampNeg ∧ (vp_in (x3 + (3 : Int32)) (h7.1 2001 0).toNatClampNeg ∧ (∃ Q12, CtI 3 mX11_times [.ref 113, .int (h7.1 2000 ((x3 + (1 : Int32))).toNatClampNeg), .int (h7.1 2000 ((x3 + (2 : Int32))).toNatClampNeg), .int (h7.1 2000 ((x3 + (3 : Int32))).toNatClampNeg)] h7 Q12 ∧ ∀ (v14 : Int32) (h15 : Hp), Q12 v14 h15 → ((v6 = v14 → GoI 10 mL_law 1729 [(0, .ref 2000), (1, .ref 0), (2, .ref 113), (3, .int x3)] [] h15 Q) ∧ (¬ v6 = v14 → Q (0 : Int32) h15))))))))))) : GoI 10 mL_law 471 [(0, .ref 2000), (1, .ref 0), (2, .ref 113), (3, .int x3)] [] h Q := by
  refine go_aload_n (pc2 := 472) dL_law_471 rfl rfl rfl ?_
  refine go_aload_n (pc2 := 473) dL_law_472 rfl rfl rfl ?_
  refine go_iload_n (pc2 := 474) dL_law_473 rfl rfl rfl ?_
  refine go_iconst (pc2 := 475) (v := (1 : Int32)) dL_law_474 rfl (by decide) ?_
  refine go_iadd (pc2 := 476) dL_law_475 rfl ?_
  obtain ⟨y1, k⟩ := k
  refine go_sld (pc2 := 477) dL_law_476 rfl y1 rfl ?_
  refine go_aload_n (pc2 := 478) dL_law_477 rfl rfl rfl ?_
  refine go_iload_n (pc2 := 479) dL_law_478 rfl rfl rfl ?_
  refine go_iconst (pc2 := 480) (v := (2 : Int32)) dL_law_479 rfl (by decide) ?_
  refine go_iadd (pc2 := 481) dL_law_480 rfl ?_
  obtain ⟨y2, k⟩ := k
  refine go_sld (pc2 := 482) dL_law_481 rfl y2 rfl ?_
  refine go_aload_n (pc2 := 483) dL_law_482 rfl rfl rfl ?_
  refine go_iload_n (pc2 := 484) dL_law_483 rfl rfl rfl ?_
  refine go_iconst (pc2 := 485) (v := (3 : Int32)) dL_law_484 rfl (by decide) ?_
  refine go_iadd (pc2 := 486) dL_law_485 rfl ?_
  obtain ⟨y3, k⟩ := k
  refine go_sld (pc2 := 487) dL_law_486 rfl y3 rfl ?_
  obtain ⟨Q4, hC5, k⟩ := k
  refine gcV_I (pc2 := 490) (dC := 2) (As := [.int (h.1 2000 ((x3 + (1 : Int32))).toNatClampNeg), .int (h.1 2000 ((x3 + (2 : Int32))).toNatClampNeg), .int (h.1 2000 ((x3 + (3 : Int32))).toNatClampNeg)]) (st := []) rfl dL_law_487 rfl w_603 ok_X10_times vi_X10_times c_0 (by decide) rfl rfl rfl (by decide) (Nat.le_of_ble_eq_true rfl) hC5 (fun v6 h7 hq8 => ?_)
  have k := k v6 h7 hq8
  refine go_aload_n (pc2 := 491) dL_law_490 rfl rfl rfl ?_
  refine go_aload_n (pc2 := 492) dL_law_491 rfl rfl rfl ?_
  refine go_iload_n (pc2 := 493) dL_law_492 rfl rfl rfl ?_
  refine go_iconst (pc2 := 494) (v := (1 : Int32)) dL_law_493 rfl (by decide) ?_
  refine go_iadd (pc2 := 495) dL_law_494 rfl ?_
  obtain ⟨y9, k⟩ := k
  refine go_sld (pc2 := 496) dL_law_495 rfl y9 rfl ?_
  refine go_aload_n (pc2 := 497) dL_law_496 rfl rfl rfl ?_
  refine go_iload_n (pc2 := 498) dL_law_497 rfl rfl rfl ?_
  refine go_iconst (pc2 := 499) (v := (2 : Int32)) dL_law_498 rfl (by decide) ?_
  refine go_iadd (pc2 := 500) dL_law_499 rfl ?_
  obtain ⟨y10, k⟩ := k
  refine go_sld (pc2 := 501) dL_law_500 rfl y10 rfl ?_
  refine go_aload_n (pc2 := 502) dL_law_501 rfl rfl rfl ?_
  refine go_iload_n (pc2 := 503) dL_law_502 rfl rfl rfl ?_
  refine go_iconst (pc2 := 504) (v := (3 : Int32)) dL_law_503 rfl (by decide) ?_
  refine go_iadd (pc2 := 505) dL_law_504 rfl ?_
  obtain ⟨y11, k⟩ := k
  refine go_sld (pc2 := 506) dL_law_505 rfl y11 rfl ?_
  obtain ⟨Q12, hC13, k⟩ := k
  refine gcV_I (pc2 := 509) (dC := 3) (As := [.int (h7.1 2000 ((x3 + (1 : Int32))).toNatClampNeg), .int (h7.1 2000 ((x3 + (2 : Int32))).toNatClampNeg), .int (h7.1 2000 ((x3 + (3 : Int32))).toNatClampNeg)]) (st := [.int v6]) rfl dL_law_506 rfl w_1224 ok_X11_times vi_X11_times c_113 (by decide) rfl rfl rfl (by decide) (Nat.le_of_ble_eq_true rfl) hC13 (fun v14 h15 hq16 => ?_)
  have k := k v14 h15 hq16
  refine go_icmp_eq (pc2 := 512) (tgt := 1729) dL_law_509 rfl (by decide) (fun c => ?_) (fun c => ?_)
  · have k := k.1 c
    exact k
  · have k := k.2 c
    refine go_iconst (pc2 := 513) (v := (0 : Int32)) dL_law_512 rfl (by decide) ?_
    exact go_iret dL_law_513 ⟨_, rfl, rfl⟩ ⟨rfl, _, rfl, k⟩
theorem b_L_law_418 {x3 : Int32} {h : Hp} {Q : Int32 → Hp → Prop}  (k : (vp_in (x3 + (1 : Int32)) (h.1 2001 0).toNatClampNeg ∧ (vp_in (x3 + (2 : Int32)) (h.1 2001 0).toNatClampNeg ∧ (vp_in (x3 + (3 : Int32)) (h.1 2001 0).toNatClampNeg ∧ (vp_in (x3 + (4 : Int32)) (h.1 2001 0).toNatClampNeg ∧ (∃ Q5, CtI 2 mX10_costs [.ref 0, .int (h.1 2000 ((x3 + (1 : Int32))).toNatClampNeg), .int (h.1 2000 ((x3 + (2 : Int32))).toNatClampNeg), .int (h.1 2000 ((x3 + (3 : Int32))).toNatClampNeg), .int (h.1 2000 ((x3 + (4 : Int32))).toNatClampNeg)] h Q5 ∧ ∀ (v7 : Int32) (h8 : Hp), Q5 v7 h8 → (vp_in (x3 + (1 : Int32)) (h8.1 2001 0).toNatClampNeg ∧ (vp_in (x3 + (2 : Int32)) (h8.1 2001 0).toNatClampNeg ∧ (vp_in (x3 + (3 : Int32)) (h8.1 2001 0).toNatClampNeg ∧ (vp_in (x3 + (4 : Int32)) (h8.1 2001 0).toNatClampNeg ∧ (∃ Q14, CtI 3 mX11_costs [.ref 113, .int (h8.1 2000 ((x3 + (1 : Int32))).toNatClampNeg), .int (h8.1 2000 ((x3 + (2 : Int32))).toNatClampNeg), .int (h8.1 2000 ((x3 + (3 : Int32))).toNatClampNeg), .int (h8.1 2000 ((x3 + (4 : Int32))).toNatClampNeg)] h8 Q14 ∧ ∀ (v16 : Int32) (h17 : Hp), Q14 v16 h17 → ((v7 = v16 → GoI 10 mL_law 1729 [(0, .ref 2000), (1, .ref 0), (2, .ref 113), (3, .int x3)] [] h17 Q) ∧ (¬ v7 = v16 → Q (0 : Int32) h17))))))))))))) : GoI 10 mL_law 418 [(0, .ref 2000), (1, .ref 0), (2, .ref 113), (3, .int x3)] [] h Q := by
  refine go_aload_n (pc2 := 419) dL_law_418 rfl rfl rfl ?_
  refine go_aload_n (pc2 := 420) dL_law_419 rfl rfl rfl ?_
  refine go_iload_n (pc2 := 421) dL_law_420 rfl rfl rfl ?_
  refine go_iconst (pc2 := 422) (v := (1 : Int32)) dL_law_421 rfl (by decide) ?_
  refine go_iadd (pc2 := 423) dL_law_422 rfl ?_
  obtain ⟨y1, k⟩ := k
  refine go_sld (pc2 := 424) dL_law_423 rfl y1 rfl ?_
  refine go_aload_n (pc2 := 425) dL_law_424 rfl rfl rfl ?_
  refine go_iload_n (pc2 := 426) dL_law_425 rfl rfl rfl ?_
  refine go_iconst (pc2 := 427) (v := (2 : Int32)) dL_law_426 rfl (by decide) ?_
  refine go_iadd (pc2 := 428) dL_law_427 rfl ?_
  obtain ⟨y2, k⟩ := k
  refine go_sld (pc2 := 429) dL_law_428 rfl y2 rfl ?_
  refine go_aload_n (pc2 := 430) dL_law_429 rfl rfl rfl ?_
  refine go_iload_n (pc2 := 431) dL_law_430 rfl rfl rfl ?_
  refine go_iconst (pc2 := 432) (v := (3 : Int32)) dL_law_431 rfl (by decide) ?_
  refine go_iadd (pc2 := 433) dL_law_432 rfl ?_
  obtain ⟨y3, k⟩ := k
  refine go_sld (pc2 := 434) dL_law_433 rfl y3 rfl ?_
  refine go_aload_n (pc2 := 435) dL_law_434 rfl rfl rfl ?_
  refine go_iload_n (pc2 := 436) dL_law_435 rfl rfl rfl ?_
  refine go_iconst (pc2 := 437) (v := (4 : Int32)) dL_law_436 rfl (by decide) ?_
  refine go_iadd (pc2 := 438) dL_law_437 rfl ?_
  obtain ⟨y4, k⟩ := k
  refine go_sld (pc2 := 439) dL_law_438 rfl y4 rfl ?_
  obtain ⟨Q5, hC6, k⟩ := k
  refine gcV_I (pc2 := 442) (dC := 2) (As := [.int (h.1 2000 ((x3 + (1 : Int32))).toNatClampNeg), .int (h.1 2000 ((x3 + (2 : Int32))).toNatClampNeg), .int (h.1 2000 ((x3 + (3 : Int32))).toNatClampNeg), .int (h.1 2000 ((x3 + (4 : Int32))).toNatClampNeg)]) (st := []) rfl dL_law_439 rfl w_598 ok_X10_costs vi_X10_costs c_0 (by decide) rfl rfl rfl (by decide) (Nat.le_of_ble_eq_true rfl) hC6 (fun v7 h8 hq9 => ?_)
  have k := k v7 h8 hq9
  refine go_aload_n (pc2 := 443) dL_law_442 rfl rfl rfl ?_
  refine go_aload_n (pc2 := 444) dL_law_443 rfl rfl rfl ?_
  refine go_iload_n (pc2 := 445) dL_law_444 rfl rfl rfl ?_
  refine go_iconst (pc2 := 446) (v := (1 : Int32)) dL_law_445 rfl (by decide) ?_
  refine go_iadd (pc2 := 447) dL_law_446 rfl ?_
  obtain ⟨y10, k⟩ := k
  refine go_sld (pc2 := 448) dL_law_447 rfl y10 rfl ?_
  refine go_aload_n (pc2 := 449) dL_law_448 rfl rfl rfl ?_
  refine go_iload_n (pc2 := 450) dL_law_449 rfl rfl rfl ?_
  refine go_iconst (pc2 := 451) (v := (2 : Int32)) dL_law_450 rfl (by decide) ?_
  refine go_iadd (pc2 := 452) dL_law_451 rfl ?_
  obtain ⟨y11, k⟩ := k
  refine go_sld (pc2 := 453) dL_law_452 rfl y11 rfl ?_
  refine go_aload_n (pc2 := 454) dL_law_453 rfl rfl rfl ?_
  refine go_iload_n (pc2 := 455) dL_law_454 rfl rfl rfl ?_
  refine go_iconst (pc2 := 456) (v := (3 : Int32)) dL_law_455 rfl (by decide) ?_
  refine go_iadd (pc2 := 457) dL_law_456 rfl ?_
  obtain ⟨y12, k⟩ := k
  refine go_sld (pc2 := 458) dL_law_457 rfl y12 rfl ?_
  refine go_aload_n (pc2 := 459) dL_law_458 rfl rfl rfl ?_
  refine go_iload_n (pc2 := 460) dL_law_459 rfl rfl rfl ?_
  refine go_iconst (pc2 := 461) (v := (4 : Int32)) dL_law_460 rfl (by decide) ?_
  refine go_iadd (pc2 := 462) dL_law_461 rfl ?_
  obtain ⟨y13, k⟩ := k
  refine go_sld (pc2 := 463) dL_law_462 rfl y13 rfl ?_
  obtain ⟨Q14, hC15, k⟩ := k
  refine gcV_I (pc2 := 466) (dC := 3) (As := [.int (h8.1 2000 ((x3 + (1 : Int32))).toNatClampNeg), .int (h8.1 2000 ((x3 + (2 : Int32))).toNatClampNeg), .int (h8.1 2000 ((x3 + (3 : Int32))).toNatClampNeg), .int (h8.1 2000 ((x3 + (4 : Int32))).toNatClampNeg)]) (st := [.int v7]) rfl dL_law_463 rfl w_1216 ok_X11_costs vi_X11_costs c_113 (by decide) rfl rfl rfl (by decide) (Nat.le_of_ble_eq_true rfl) hC15 (fun v16 h17 hq18 => ?_)
  have k := k v16 h17 hq18
  refine go_icmp_eq (pc2 := 469) (tgt := 1729) dL_law_466 rfl (by decide) (fun c => ?_) (fun c => ?_)
  · have k := k.1 c
    exact k
  · have k := k.2 c
    refine go_iconst (pc2 := 470) (v := (0 : Int32)) dL_law_469 rfl (by decide) ?_
    exact go_iret dL_law_470 ⟨_, rfl, rfl⟩ ⟨rfl, _, rfl, k⟩
theorem b_L_law_375 {x3 : Int32} {h : Hp} {Q : Int32 → Hp → Prop}  (k : (vp_in (x3 + (1 : Int32)) (h.1 2001 0).toNatClampNeg ∧ (vp_in (x3 + (2 : Int32)) (h.1 2001 0).toNatClampNeg ∧ (vp_in (x3 + (3 : Int32)) (h.1 2001 0).toNatClampNeg ∧ (∃ Q4, CtI 2 mX10_gives [.ref 0, .int (h.1 2000 ((x3 + (1 : Int32))).toNatClampNeg), .int (h.1 2000 ((x3 + (2 : Int32))).toNatClampNeg), .int (h.1 2000 ((x3 + (3 : Int32))).toNatClampNeg)] h Q4 ∧ ∀ (v6 : Int32) (h7 : Hp), Q4 v6 h7 → (vp_in (x3 + (1 : Int32)) (h7.1 2001 0).toNatClampNeg ∧ (vp_in (x3 + (2 : Int32)) (h7.1 2001 0).toNatClampNeg ∧ (vp_in (x3 + (3 : Int32)) (h7.1 2001 0).toNatClampNeg ∧ (∃ Q12, CtI 3 mX11_gives [.ref 113, .int (h7.1 2000 ((x3 + (1 : Int32))).toNatClampNeg), .int (h7.1 2000 ((x3 + (2 : Int32))).toNatClampNeg), .int (h7.1 2000 ((x3 + (3 : Int32))).toNatClampNeg)] h7 Q12 ∧ ∀ (v14 : Int32) (h15 : Hp), Q12 v14 h15 → ((v6 = v14 → GoI 10 mL_law 1729 [(0, .ref 2000), (1, .ref 0), (2, .ref 113), (3, .int x3)] [] h15 Q) ∧ (¬ v6 = v14 → Q (0 : Int32) h15))))))))))) : GoI 10 mL_law 375 [(0, .ref 2000), (1, .ref 0), (2, .ref 113), (3, .int x3)] [] h Q := by
  refine go_aload_n (pc2 := 376) dL_law_375 rfl rfl rfl ?_
  refine go_aload_n (pc2 := 377) dL_law_376 rfl rfl rfl ?_
  refine go_iload_n (pc2 := 378) dL_law_377 rfl rfl rfl ?_
  refine go_iconst (pc2 := 379) (v := (1 : Int32)) dL_law_378 rfl (by decide) ?_
  refine go_iadd (pc2 := 380) dL_law_379 rfl ?_
  obtain ⟨y1, k⟩ := k
  refine go_sld (pc2 := 381) dL_law_380 rfl y1 rfl ?_
  refine go_aload_n (pc2 := 382) dL_law_381 rfl rfl rfl ?_
  refine go_iload_n (pc2 := 383) dL_law_382 rfl rfl rfl ?_
  refine go_iconst (pc2 := 384) (v := (2 : Int32)) dL_law_383 rfl (by decide) ?_
  refine go_iadd (pc2 := 385) dL_law_384 rfl ?_
  obtain ⟨y2, k⟩ := k
  refine go_sld (pc2 := 386) dL_law_385 rfl y2 rfl ?_
  refine go_aload_n (pc2 := 387) dL_law_386 rfl rfl rfl ?_
  refine go_iload_n (pc2 := 388) dL_law_387 rfl rfl rfl ?_
  refine go_iconst (pc2 := 389) (v := (3 : Int32)) dL_law_388 rfl (by decide) ?_
  refine go_iadd (pc2 := 390) dL_law_389 rfl ?_
  obtain ⟨y3, k⟩ := k
  refine go_sld (pc2 := 391) dL_law_390 rfl y3 rfl ?_
  obtain ⟨Q4, hC5, k⟩ := k
  refine gcV_I (pc2 := 394) (dC := 2) (As := [.int (h.1 2000 ((x3 + (1 : Int32))).toNatClampNeg), .int (h.1 2000 ((x3 + (2 : Int32))).toNatClampNeg), .int (h.1 2000 ((x3 + (3 : Int32))).toNatClampNeg)]) (st := []) rfl dL_law_391 rfl w_593 ok_X10_gives vi_X10_gives c_0 (by decide) rfl rfl rfl (by decide) (Nat.le_of_ble_eq_true rfl) hC5 (fun v6 h7 hq8 => ?_)
  have k := k v6 h7 hq8
  refine go_aload_n (pc2 := 395) dL_law_394 rfl rfl rfl ?_
  refine go_aload_n (pc2 := 396) dL_law_395 rfl rfl rfl ?_
  refine go_iload_n (pc2 := 397) dL_law_396 rfl rfl rfl ?_
  refine go_iconst (pc2 := 398) (v := (1 : Int32)) dL_law_397 rfl (by decide) ?_
  refine go_iadd (pc2 := 399) dL_law_398 rfl ?_
  obtain ⟨y9, k⟩ := k
  refine go_sld (pc2 := 400) dL_law_399 rfl y9 rfl ?_
  refine go_aload_n (pc2 := 401) dL_law_400 rfl rfl rfl ?_
  refine go_iload_n (pc2 := 402) dL_law_401 rfl rfl rfl ?_
  refine go_iconst (pc2 := 403) (v := (2 : Int32)) dL_law_402 rfl (by decide) ?_
  refine go_iadd (pc2 := 404) dL_law_403 rfl ?_
  obtain ⟨y10, k⟩ := k
  refine go_sld (pc2 := 405) dL_law_404 rfl y10 rfl ?_
  refine go_aload_n (pc2 := 406) dL_law_405 rfl rfl rfl ?_
  refine go_iload_n (pc2 := 407) dL_law_406 rfl rfl rfl ?_
  refine go_iconst (pc2 := 408) (v := (3 : Int32)) dL_law_407 rfl (by decide) ?_
  refine go_iadd (pc2 := 409) dL_law_408 rfl ?_
  obtain ⟨y11, k⟩ := k
  refine go_sld (pc2 := 410) dL_law_409 rfl y11 rfl ?_
  obtain ⟨Q12, hC13, k⟩ := k
  refine gcV_I (pc2 := 413) (dC := 3) (As := [.int (h7.1 2000 ((x3 + (1 : Int32))).toNatClampNeg), .int (h7.1 2000 ((x3 + (2 : Int32))).toNatClampNeg), .int (h7.1 2000 ((x3 + (3 : Int32))).toNatClampNeg)]) (st := [.int v6]) rfl dL_law_410 rfl w_1200 ok_X11_gives vi_X11_gives c_113 (by decide) rfl rfl rfl (by decide) (Nat.le_of_ble_eq_true rfl) hC13 (fun v14 h15 hq16 => ?_)
  have k := k v14 h15 hq16
  refine go_icmp_eq (pc2 := 416) (tgt := 1729) dL_law_413 rfl (by decide) (fun c => ?_) (fun c => ?_)
  · have k := k.1 c
    exact k
  · have k := k.2 c
    refine go_iconst (pc2 := 417) (v := (0 : Int32)) dL_law_416 rfl (by decide) ?_
    exact go_iret dL_law_417 ⟨_, rfl, rfl⟩ ⟨rfl, _, rfl, k⟩
theorem b_L_law_342 {x3 : Int32} {h : Hp} {Q : Int32 → Hp → Prop}  (k : (vp_in (x3 + (1 : Int32)) (h.1 2001 0).toNatClampNeg ∧ (vp_in (x3 + (2 : Int32)) (h.1 2001 0).toNatClampNeg ∧ (∃ Q3, CtI 2 mX10_plant [.ref 0, .int (h.1 2000 ((x3 + (1 : Int32))).toNatClampNeg), .int (h.1 2000 ((x3 + (2 : Int32))).toNatClampNeg)] h Q3 ∧ ∀ (v5 : Int32) (h6 : Hp), Q3 v5 h6 → (vp_in (x3 + (1 : Int32)) (h6.1 2001 0).toNatClampNeg ∧ (vp_in (x3 + (2 : Int32)) (h6.1 2001 0).toNatClampNeg ∧ (∃ Q10, CtI 2 mX11_plant [.ref 113, .int (h6.1 2000 ((x3 + (1 : Int32))).toNatClampNeg), .int (h6.1 2000 ((x3 + (2 : Int32))).toNatClampNeg)] h6 Q10 ∧ ∀ (v12 : Int32) (h13 : Hp), Q10 v12 h13 → ((v5 = v12 → GoI 10 mL_law 1729 [(0, .ref 2000), (1, .ref 0), (2, .ref 113), (3, .int x3)] [] h13 Q) ∧ (¬ v5 = v12 → Q (0 : Int32) h13))))))))) : GoI 10 mL_law 342 [(0, .ref 2000), (1, .ref 0), (2, .ref 113), (3, .int x3)] [] h Q := by
  refine go_aload_n (pc2 := 343) dL_law_342 rfl rfl rfl ?_
  refine go_aload_n (pc2 := 344) dL_law_343 rfl rfl rfl ?_
  refine go_iload_n (pc2 := 345) dL_law_344 rfl rfl rfl ?_
  refine go_iconst (pc2 := 346) (v := (1 : Int32)) dL_law_345 rfl (by decide) ?_
  refine go_iadd (pc2 := 347) dL_law_346 rfl ?_
  obtain ⟨y1, k⟩ := k
  refine go_sld (pc2 := 348) dL_law_347 rfl y1 rfl ?_
  refine go_aload_n (pc2 := 349) dL_law_348 rfl rfl rfl ?_
  refine go_iload_n (pc2 := 350) dL_law_349 rfl rfl rfl ?_
  refine go_iconst (pc2 := 351) (v := (2 : Int32)) dL_law_350 rfl (by decide) ?_
  refine go_iadd (pc2 := 352) dL_law_351 rfl ?_
  obtain ⟨y2, k⟩ := k
  refine go_sld (pc2 := 353) dL_law_352 rfl y2 rfl ?_
  obtain ⟨Q3, hC4, k⟩ := k
  refine gcV_I (pc2 := 356) (dC := 2) (As := [.int (h.1 2000 ((x3 + (1 : Int32))).toNatClampNeg), .int (h.1 2000 ((x3 + (2 : Int32))).toNatClampNeg)]) (st := []) rfl dL_law_353 rfl w_588 ok_X10_plant vi_X10_plant c_0 (by decide) rfl rfl rfl (by decide) (Nat.le_of_ble_eq_true rfl) hC4 (fun v5 h6 hq7 => ?_)
  have k := k v5 h6 hq7
  refine go_aload_n (pc2 := 357) dL_law_356 rfl rfl rfl ?_
  refine go_aload_n (pc2 := 358) dL_law_357 rfl rfl rfl ?_
  refine go_iload_n (pc2 := 359) dL_law_358 rfl rfl rfl ?_
  refine go_iconst (pc2 := 360) (v := (1 : Int32)) dL_law_359 rfl (by decide) ?_
  refine go_iadd (pc2 := 361) dL_law_360 rfl ?_
  obtain ⟨y8, k⟩ := k
  refine go_sld (pc2 := 362) dL_law_361 rfl y8 rfl ?_
  refine go_aload_n (pc2 := 363) dL_law_362 rfl rfl rfl ?_
  refine go_iload_n (pc2 := 364) dL_law_363 rfl rfl rfl ?_
  refine go_iconst (pc2 := 365) (v := (2 : Int32)) dL_law_364 rfl (by decide) ?_
  refine go_iadd (pc2 := 366) dL_law_365 rfl ?_
  obtain ⟨y9, k⟩ := k
  refine go_sld (pc2 := 367) dL_law_366 rfl y9 rfl ?_
  obtain ⟨Q10, hC11, k⟩ := k
  refine gcV_I (pc2 := 370) (dC := 2) (As := [.int (h6.1 2000 ((x3 + (1 : Int32))).toNatClampNeg), .int (h6.1 2000 ((x3 + (2 : Int32))).toNatClampNeg)]) (st := [.int v5]) rfl dL_law_367 rfl w_1183 ok_X11_plant vi_X11_plant c_113 (by decide) rfl rfl rfl (by decide) (Nat.le_of_ble_eq_true rfl) hC11 (fun v12 h13 hq14 => ?_)
  have k := k v12 h13 hq14
  refine go_icmp_eq (pc2 := 373) (tgt := 1729) dL_law_370 rfl (by decide) (fun c => ?_) (fun c => ?_)
  · have k := k.1 c
    exact k
  · have k := k.2 c
    refine go_iconst (pc2 := 374) (v := (0 : Int32)) dL_law_373 rfl (by decide) ?_
    exact go_iret dL_law_374 ⟨_, rfl, rfl⟩ ⟨rfl, _, rfl, k⟩
theorem b_L_law_299 {x3 : Int32} {h : Hp} {Q : Int32 → Hp → Prop}  (k : (vp_in (x3 + (1 : Int32)) (h.1 2001 0).toNatClampNeg ∧ (vp_in (x3 + (2 : Int32)) (h.1 2001 0).toNatClampNeg ∧ (vp_in (x3 + (3 : Int32)) (h.1 2001 0).toNatClampNeg ∧ (∃ Q4, CtI 2 mX10_demand [.ref 0, .int (h.1 2000 ((x3 + (1 : Int32))).toNatClampNeg), .int (h.1 2000 ((x3 + (2 : Int32))).toNatClampNeg), .int (h.1 2000 ((x3 + (3 : Int32))).toNatClampNeg)] h Q4 ∧ ∀ (v6 : Int32) (h7 : Hp), Q4 v6 h7 → (vp_in (x3 + (1 : Int32)) (h7.1 2001 0).toNatClampNeg ∧ (vp_in (x3 + (2 : Int32)) (h7.1 2001 0).toNatClampNeg ∧ (vp_in (x3 + (3 : Int32)) (h7.1 2001 0).toNatClampNeg ∧ (∃ Q12, CtI 3 mX11_demand [.ref 113, .int (h7.1 2000 ((x3 + (1 : Int32))).toNatClampNeg), .int (h7.1 2000 ((x3 + (2 : Int32))).toNatClampNeg), .int (h7.1 2000 ((x3 + (3 : Int32))).toNatClampNeg)] h7 Q12 ∧ ∀ (v14 : Int32) (h15 : Hp), Q12 v14 h15 → ((v6 = v14 → GoI 10 mL_law 1729 [(0, .ref 2000), (1, .ref 0), (2, .ref 113), (3, .int x3)] [] h15 Q) ∧ (¬ v6 = v14 → Q (0 : Int32) h15))))))))))) : GoI 10 mL_law 299 [(0, .ref 2000), (1, .ref 0), (2, .ref 113), (3, .int x3)] [] h Q := by
  refine go_aload_n (pc2 := 300) dL_law_299 rfl rfl rfl ?_
  refine go_aload_n (pc2 := 301) dL_law_300 rfl rfl rfl ?_
  refine go_iload_n (pc2 := 302) dL_law_301 rfl rfl rfl ?_
  refine go_iconst (pc2 := 303) (v := (1 : Int32)) dL_law_302 rfl (by decide) ?_
  refine go_iadd (pc2 := 304) dL_law_303 rfl ?_
  obtain ⟨y1, k⟩ := k
  refine go_sld (pc2 := 305) dL_law_304 rfl y1 rfl ?_
  refine go_aload_n (pc2 := 306) dL_law_305 rfl rfl rfl ?_
  refine go_iload_n (pc2 := 307) dL_law_306 rfl rfl rfl ?_
  refine go_iconst (pc2 := 308) (v := (2 : Int32)) dL_law_307 rfl (by decide) ?_
  refine go_iadd (pc2 := 309) dL_law_308 rfl ?_
  obtain ⟨y2, k⟩ := k
  refine go_sld (pc2 := 310) dL_law_309 rfl y2 rfl ?_
  refine go_aload_n (pc2 := 311) dL_law_310 rfl rfl rfl ?_
  refine go_iload_n (pc2 := 312) dL_law_311 rfl rfl rfl ?_
  refine go_iconst (pc2 := 313) (v := (3 : Int32)) dL_law_312 rfl (by decide) ?_
  refine go_iadd (pc2 := 314) dL_law_313 rfl ?_
  obtain ⟨y3, k⟩ := k
  refine go_sld (pc2 := 315) dL_law_314 rfl y3 rfl ?_
  obtain ⟨Q4, hC5, k⟩ := k
  refine gcV_I (pc2 := 318) (dC := 2) (As := [.int (h.1 2000 ((x3 + (1 : Int32))).toNatClampNeg), .int (h.1 2000 ((x3 + (2 : Int32))).toNatClampNeg), .int (h.1 2000 ((x3 + (3 : Int32))).toNatClampNeg)]) (st := []) rfl dL_law_315 rfl w_583 ok_X10_demand vi_X10_demand c_0 (by decide) rfl rfl rfl (by decide) (Nat.le_of_ble_eq_true rfl) hC5 (fun v6 h7 hq8 => ?_)
  have k := k v6 h7 hq8
  refine go_aload_n (pc2 := 319) dL_law_318 rfl rfl rfl ?_
  refine go_aload_n (pc2 := 320) dL_law_319 rfl rfl rfl ?_
  refine go_iload_n (pc2 := 321) dL_law_320 rfl rfl rfl ?_
  refine go_iconst (pc2 := 322) (v := (1 : Int32)) dL_law_321 rfl (by decide) ?_
  refine go_iadd (pc2 := 323) dL_law_322 rfl ?_
  obtain ⟨y9, k⟩ := k
  refine go_sld (pc2 := 324) dL_law_323 rfl y9 rfl ?_
  refine go_aload_n (pc2 := 325) dL_law_324 rfl rfl rfl ?_
  refine go_iload_n (pc2 := 326) dL_law_325 rfl rfl rfl ?_
  refine go_iconst (pc2 := 327) (v := (2 : Int32)) dL_law_326 rfl (by decide) ?_
  refine go_iadd (pc2 := 328) dL_law_327 rfl ?_
  obtain ⟨y10, k⟩ := k
  refine go_sld (pc2 := 329) dL_law_328 rfl y10 rfl ?_
  refine go_aload_n (pc2 := 330) dL_law_329 rfl rfl rfl ?_
  refine go_iload_n (pc2 := 331) dL_law_330 rfl rfl rfl ?_
  refine go_iconst (pc2 := 332) (v := (3 : Int32)) dL_law_331 rfl (by decide) ?_
  refine go_iadd (pc2 := 333) dL_law_332 rfl ?_
  obtain ⟨y11, k⟩ := k
  refine go_sld (pc2 := 334) dL_law_333 rfl y11 rfl ?_
  obtain ⟨Q12, hC13, k⟩ := k
  refine gcV_I (pc2 := 337) (dC := 3) (As := [.int (h7.1 2000 ((x3 + (1 : Int32))).toNatClampNeg), .int (h7.1 2000 ((x3 + (2 : Int32))).toNatClampNeg), .int (h7.1 2000 ((x3 + (3 : Int32))).toNatClampNeg)]) (st := [.int v6]) rfl dL_law_334 rfl w_1165 ok_X11_demand vi_X11_demand c_113 (by decide) rfl rfl rfl (by decide) (Nat.le_of_ble_eq_true rfl) hC13 (fun v14 h15 hq16 => ?_)
  have k := k v14 h15 hq16
  refine go_icmp_eq (pc2 := 340) (tgt := 1729) dL_law_337 rfl (by decide) (fun c => ?_) (fun c => ?_)
  · have k := k.1 c
    exact k
  · have k := k.2 c
    refine go_iconst (pc2 := 341) (v := (0 : Int32)) dL_law_340 rfl (by decide) ?_
    exact go_iret dL_law_341 ⟨_, rfl, rfl⟩ ⟨rfl, _, rfl, k⟩
theorem b_L_law_276 {x3 : Int32} {h : Hp} {Q : Int32 → Hp → Prop}  (k : (vp_in (x3 + (1 : Int32)) (h.1 2001 0).toNatClampNeg ∧ (∃ Q2, CtI 2 mX10_hours [.ref 0, .int (h.1 2000 ((x3 + (1 : Int32))).toNatClampNeg)] h Q2 ∧ ∀ (v4 : Int32) (h5 : Hp), Q2 v4 h5 → (vp_in (x3 + (1 : Int32)) (h5.1 2001 0).toNatClampNeg ∧ (∃ Q8, CtI 2 mX11_hours [.ref 113, .int (h5.1 2000 ((x3 + (1 : Int32))).toNatClampNeg)] h5 Q8 ∧ ∀ (v10 : Int32) (h11 : Hp), Q8 v10 h11 → ((v4 = v10 → GoI 10 mL_law 1729 [(0, .ref 2000), (1, .ref 0), (2, .ref 113), (3, .int x3)] [] h11 Q) ∧ (¬ v4 = v10 → Q (0 : Int32) h11))))))) : GoI 10 mL_law 276 [(0, .ref 2000), (1, .ref 0), (2, .ref 113), (3, .int x3)] [] h Q := by
  refine go_aload_n (pc2 := 277) dL_law_276 rfl rfl rfl ?_
  refine go_aload_n (pc2 := 278) dL_law_277 rfl rfl rfl ?_
  refine go_iload_n (pc2 := 279) dL_law_278 rfl rfl rfl ?_
  refine go_iconst (pc2 := 280) (v := (1 : Int32)) dL_law_279 rfl (by decide) ?_
  refine go_iadd (pc2 := 281) dL_law_280 rfl ?_
  obtain ⟨y1, k⟩ := k
  refine go_sld (pc2 := 282) dL_law_281 rfl y1 rfl ?_
  obtain ⟨Q2, hC3, k⟩ := k
  refine gcV_I (pc2 := 285) (dC := 2) (As := [.int (h.1 2000 ((x3 + (1 : Int32))).toNatClampNeg)]) (st := []) rfl dL_law_282 rfl w_574 ok_X10_hours vi_X10_hours c_0 (by decide) rfl rfl rfl (by decide) (Nat.le_of_ble_eq_true rfl) hC3 (fun v4 h5 hq6 => ?_)
  have k := k v4 h5 hq6
  refine go_aload_n (pc2 := 286) dL_law_285 rfl rfl rfl ?_
  refine go_aload_n (pc2 := 287) dL_law_286 rfl rfl rfl ?_
  refine go_iload_n (pc2 := 288) dL_law_287 rfl rfl rfl ?_
  refine go_iconst (pc2 := 289) (v := (1 : Int32)) dL_law_288 rfl (by decide) ?_
  refine go_iadd (pc2 := 290) dL_law_289 rfl ?_
  obtain ⟨y7, k⟩ := k
  refine go_sld (pc2 := 291) dL_law_290 rfl y7 rfl ?_
  obtain ⟨Q8, hC9, k⟩ := k
  refine gcV_I (pc2 := 294) (dC := 2) (As := [.int (h5.1 2000 ((x3 + (1 : Int32))).toNatClampNeg)]) (st := [.int v4]) rfl dL_law_291 rfl w_1150 ok_X11_hours vi_X11_hours c_113 (by decide) rfl rfl rfl (by decide) (Nat.le_of_ble_eq_true rfl) hC9 (fun v10 h11 hq12 => ?_)
  have k := k v10 h11 hq12
  refine go_icmp_eq (pc2 := 297) (tgt := 1729) dL_law_294 rfl (by decide) (fun c => ?_) (fun c => ?_)
  · have k := k.1 c
    exact k
  · have k := k.2 c
    refine go_iconst (pc2 := 298) (v := (0 : Int32)) dL_law_297 rfl (by decide) ?_
    exact go_iret dL_law_298 ⟨_, rfl, rfl⟩ ⟨rfl, _, rfl, k⟩
theorem b_L_law_263 {x3 : Int32} {h : Hp} {Q : Int32 → Hp → Prop}  (k : (∃ Q1, CtI 7 mX10_tells [.ref 0] h Q1 ∧ ∀ (v3 : Int32) (h4 : Hp), Q1 v3 h4 → (∃ Q6, CtI 5 mX11_tells [.ref 113] h4 Q6 ∧ ∀ (v8 : Int32) (h9 : Hp), Q6 v8 h9 → ((v3 = v8 → GoI 10 mL_law 1729 [(0, .ref 2000), (1, .ref 0), (2, .ref 113), (3, .int x3)] [] h9 Q) ∧ (¬ v3 = v8 → Q (0 : Int32) h9))))) : GoI 10 mL_law 263 [(0, .ref 2000), (1, .ref 0), (2, .ref 113), (3, .int x3)] [] h Q := by
  refine go_aload_n (pc2 := 264) dL_law_263 rfl rfl rfl ?_
  obtain ⟨Q1, hC2, k⟩ := k
  refine gcV_I (pc2 := 267) (dC := 7) (As := []) (st := []) rfl dL_law_264 rfl w_421 ok_X10_tells vi_X10_tells c_0 (by decide) rfl rfl rfl (by decide) (Nat.le_of_ble_eq_true rfl) hC2 (fun v3 h4 hq5 => ?_)
  have k := k v3 h4 hq5
  refine go_aload_n (pc2 := 268) dL_law_267 rfl rfl rfl ?_
  obtain ⟨Q6, hC7, k⟩ := k
  refine gcV_I (pc2 := 271) (dC := 5) (As := []) (st := [.int v3]) rfl dL_law_268 rfl w_1588 ok_X11_tells vi_X11_tells c_113 (by decide) rfl rfl rfl (by decide) (Nat.le_of_ble_eq_true rfl) hC7 (fun v8 h9 hq10 => ?_)
  have k := k v8 h9 hq10
  refine go_icmp_eq (pc2 := 274) (tgt := 1729) dL_law_271 rfl (by decide) (fun c => ?_) (fun c => ?_)
  · have k := k.1 c
    exact k
  · have k := k.2 c
    refine go_iconst (pc2 := 275) (v := (0 : Int32)) dL_law_274 rfl (by decide) ?_
    exact go_iret dL_law_275 ⟨_, rfl, rfl⟩ ⟨rfl, _, rfl, k⟩
theorem b_L_law_240 {x3 : Int32} {h : Hp} {Q : Int32 → Hp → Prop}  (k : (vp_in (x3 + (1 : Int32)) (h.1 2001 0).toNatClampNeg ∧ (∃ Q2, CtI 1 mX10_letter [.ref 0, .int (h.1 2000 ((x3 + (1 : Int32))).toNatClampNeg)] h Q2 ∧ ∀ (v4 : Int32) (h5 : Hp), Q2 v4 h5 → (vp_in (x3 + (1 : Int32)) (h5.1 2001 0).toNatClampNeg ∧ (∃ Q8, CtI 1 mX11_letter [.ref 113, .int (h5.1 2000 ((x3 + (1 : Int32))).toNatClampNeg)] h5 Q8 ∧ ∀ (v10 : Int32) (h11 : Hp), Q8 v10 h11 → ((v4 = v10 → GoI 10 mL_law 1729 [(0, .ref 2000), (1, .ref 0), (2, .ref 113), (3, .int x3)] [] h11 Q) ∧ (¬ v4 = v10 → Q (0 : Int32) h11))))))) : GoI 10 mL_law 240 [(0, .ref 2000), (1, .ref 0), (2, .ref 113), (3, .int x3)] [] h Q := by
  refine go_aload_n (pc2 := 241) dL_law_240 rfl rfl rfl ?_
  refine go_aload_n (pc2 := 242) dL_law_241 rfl rfl rfl ?_
  refine go_iload_n (pc2 := 243) dL_law_242 rfl rfl rfl ?_
  refine go_iconst (pc2 := 244) (v := (1 : Int32)) dL_law_243 rfl (by decide) ?_
  refine go_iadd (pc2 := 245) dL_law_244 rfl ?_
  obtain ⟨y1, k⟩ := k
  refine go_sld (pc2 := 246) dL_law_245 rfl y1 rfl ?_
  obtain ⟨Q2, hC3, k⟩ := k
  refine gcV_I (pc2 := 249) (dC := 1) (As := [.int (h.1 2000 ((x3 + (1 : Int32))).toNatClampNeg)]) (st := []) rfl dL_law_246 rfl w_409 ok_X10_letter vi_X10_letter c_0 (by decide) rfl rfl rfl (by decide) (Nat.le_of_ble_eq_true rfl) hC3 (fun v4 h5 hq6 => ?_)
  have k := k v4 h5 hq6
  refine go_aload_n (pc2 := 250) dL_law_249 rfl rfl rfl ?_
  refine go_aload_n (pc2 := 251) dL_law_250 rfl rfl rfl ?_
  refine go_iload_n (pc2 := 252) dL_law_251 rfl rfl rfl ?_
  refine go_iconst (pc2 := 253) (v := (1 : Int32)) dL_law_252 rfl (by decide) ?_
  refine go_iadd (pc2 := 254) dL_law_253 rfl ?_
  obtain ⟨y7, k⟩ := k
  refine go_sld (pc2 := 255) dL_law_254 rfl y7 rfl ?_
  obtain ⟨Q8, hC9, k⟩ := k
  refine gcV_I (pc2 := 258) (dC := 1) (As := [.int (h5.1 2000 ((x3 + (1 : Int32))).toNatClampNeg)]) (st := [.int v4]) rfl dL_law_255 rfl w_1584 ok_X11_letter vi_X11_letter c_113 (by decide) rfl rfl rfl (by decide) (Nat.le_of_ble_eq_true rfl) hC9 (fun v10 h11 hq12 => ?_)
  have k := k v10 h11 hq12
  refine go_icmp_eq (pc2 := 261) (tgt := 1729) dL_law_258 rfl (by decide) (fun c => ?_) (fun c => ?_)
  · have k := k.1 c
    exact k
  · have k := k.2 c
    refine go_iconst (pc2 := 262) (v := (0 : Int32)) dL_law_261 rfl (by decide) ?_
    exact go_iret dL_law_262 ⟨_, rfl, rfl⟩ ⟨rfl, _, rfl, k⟩
