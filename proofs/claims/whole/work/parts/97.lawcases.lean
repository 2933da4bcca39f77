/-! ===== the law: each case goes on ===== -/
def lwL (x : Int32) : List (Nat × Value) := [(0, .ref 2000), (1, .ref 0), (2, .ref 113), (3, .int x)]
/-- there are five numbers from place x on -/
def scN (x : Int32) (h : Hp) : Prop := ∀ k : Nat, k < 5 → vp_in (x + nI k) (h.1 2001 0).toNatClampNeg
theorem lw_1696 {x3 : Int32} {h : Hp} {Q : Int32 → Hp → Prop} (j : Jn h) (n : scN x3 h) (k : ∀ g, Jn g → Sk h g → GoI 10 mL_law 1729 (lwL x3) [] g Q) : GoI 10 mL_law 1696 (lwL x3) [] h Q := by
  obtain ⟨γ, hc, hr, hv⟩ := j
  obtain ⟨Q1, C1, K1⟩ := tw_hour ((h.1 2000 ((x3 + (1 : Int32))).toNatClampNeg)) ((h.1 2000 ((x3 + (2 : Int32))).toNatClampNeg)) hc hr hv
  refine b_L_law_1696 ⟨n 1 (by decide), n 2 (by decide), Q1, C1, fun v h1 q => ?_⟩
  obtain ⟨s1, Q2, C2, K2⟩ := K1 v h1 q
  have n1 : scN x3 h1 := by
    unfold scN
    rw [s1.2]
    exact n
  rw [s1.1]
  refine ⟨n1 1 (by decide), n1 2 (by decide), Q2, C2, fun v2 h2 q2 => ?_⟩
  obtain ⟨e, j2, s2⟩ := K2 v2 h2 q2
  exact ⟨fun _ => k h2 j2 s2, fun c => absurd e.symm c⟩
theorem lw_1673 {x3 : Int32} {h : Hp} {Q : Int32 → Hp → Prop} (j : Jn h) (n : scN x3 h) (k : ∀ g, Jn g → Sk h g → GoI 10 mL_law 1729 (lwL x3) [] g Q) : GoI 10 mL_law 1673 (lwL x3) [] h Q := by
  obtain ⟨γ, hc, hr, hv⟩ := j
  obtain ⟨Q1, C1, K1⟩ := tw_count ((h.1 2000 ((x3 + (1 : Int32))).toNatClampNeg)) hc hr hv
  refine b_L_law_1673 ⟨n 1 (by decide), Q1, C1, fun v h1 q => ?_⟩
  obtain ⟨s1, Q2, C2, K2⟩ := K1 v h1 q
  have n1 : scN x3 h1 := by
    unfold scN
    rw [s1.2]
    exact n
  rw [s1.1]
  refine ⟨n1 1 (by decide), Q2, C2, fun v2 h2 q2 => ?_⟩
  obtain ⟨e, j2, s2⟩ := K2 v2 h2 q2
  exact ⟨fun _ => k h2 j2 s2, fun c => absurd e.symm c⟩
theorem lw_1660 {x3 : Int32} {h : Hp} {Q : Int32 → Hp → Prop} (j : Jn h) (n : scN x3 h) (k : ∀ g, Jn g → Sk h g → GoI 10 mL_law 1729 (lwL x3) [] g Q) : GoI 10 mL_law 1660 (lwL x3) [] h Q := by
  obtain ⟨γ, hc, hr, hv⟩ := j
  obtain ⟨Q1, C1, K1⟩ := tw_on  hc hr hv
  refine b_L_law_1660 ⟨Q1, C1, fun v h1 q => ?_⟩
  obtain ⟨s1, Q2, C2, K2⟩ := K1 v h1 q
  have n1 : scN x3 h1 := by
    unfold scN
    rw [s1.2]
    exact n
  refine ⟨Q2, C2, fun v2 h2 q2 => ?_⟩
  obtain ⟨e, j2, s2⟩ := K2 v2 h2 q2
  exact ⟨fun _ => k h2 j2 s2, fun c => absurd e.symm c⟩
theorem lw_1647 {x3 : Int32} {h : Hp} {Q : Int32 → Hp → Prop} (j : Jn h) (n : scN x3 h) (k : ∀ g, Jn g → Sk h g → GoI 10 mL_law 1729 (lwL x3) [] g Q) : GoI 10 mL_law 1647 (lwL x3) [] h Q := by
  obtain ⟨γ, hc, hr, hv⟩ := j
  obtain ⟨Q1, C1, K1⟩ := tw_image  hc hr hv
  refine b_L_law_1647 ⟨Q1, C1, fun v h1 q => ?_⟩
  obtain ⟨s1, Q2, C2, K2⟩ := K1 v h1 q
  have n1 : scN x3 h1 := by
    unfold scN
    rw [s1.2]
    exact n
  refine ⟨Q2, C2, fun v2 h2 q2 => ?_⟩
  obtain ⟨e, j2, s2⟩ := K2 v2 h2 q2
  exact ⟨fun _ => k h2 j2 s2, fun c => absurd e.symm c⟩
theorem lw_1614 {x3 : Int32} {h : Hp} {Q : Int32 → Hp → Prop} (j : Jn h) (n : scN x3 h) (k : ∀ g, Jn g → Sk h g → GoI 10 mL_law 1729 (lwL x3) [] g Q) : GoI 10 mL_law 1614 (lwL x3) [] h Q := by
  obtain ⟨γ, hc, hr, hv⟩ := j
  obtain ⟨Q1, C1, K1⟩ := tw_like ((h.1 2000 ((x3 + (1 : Int32))).toNatClampNeg)) ((h.1 2000 ((x3 + (2 : Int32))).toNatClampNeg)) hc hr hv
  refine b_L_law_1614 ⟨n 1 (by decide), n 2 (by decide), Q1, C1, fun v h1 q => ?_⟩
  obtain ⟨s1, Q2, C2, K2⟩ := K1 v h1 q
  have n1 : scN x3 h1 := by
    unfold scN
    rw [s1.2]
    exact n
  rw [s1.1]
  refine ⟨n1 1 (by decide), n1 2 (by decide), Q2, C2, fun v2 h2 q2 => ?_⟩
  obtain ⟨e, j2, s2⟩ := K2 v2 h2 q2
  exact ⟨fun _ => k h2 j2 s2, fun c => absurd e.symm c⟩
theorem lw_1571 {x3 : Int32} {h : Hp} {Q : Int32 → Hp → Prop} (j : Jn h) (n : scN x3 h) (k : ∀ g, Jn g → Sk h g → GoI 10 mL_law 1729 (lwL x3) [] g Q) : GoI 10 mL_law 1571 (lwL x3) [] h Q := by
  obtain ⟨γ, hc, hr, hv⟩ := j
  obtain ⟨Q1, C1, K1⟩ := tw_racked ((h.1 2000 ((x3 + (1 : Int32))).toNatClampNeg)) ((h.1 2000 ((x3 + (2 : Int32))).toNatClampNeg)) ((h.1 2000 ((x3 + (3 : Int32))).toNatClampNeg)) hc hr hv
  refine b_L_law_1571 ⟨n 1 (by decide), n 2 (by decide), n 3 (by decide), Q1, C1, fun v h1 q => ?_⟩
  obtain ⟨s1, Q2, C2, K2⟩ := K1 v h1 q
  have n1 : scN x3 h1 := by
    unfold scN
    rw [s1.2]
    exact n
  rw [s1.1]
  refine ⟨n1 1 (by decide), n1 2 (by decide), n1 3 (by decide), Q2, C2, fun v2 h2 q2 => ?_⟩
  obtain ⟨e, j2, s2⟩ := K2 v2 h2 q2
  exact ⟨fun _ => k h2 j2 s2, fun c => absurd e.symm c⟩
theorem lw_1528 {x3 : Int32} {h : Hp} {Q : Int32 → Hp → Prop} (j : Jn h) (n : scN x3 h) (k : ∀ g, Jn g → Sk h g → GoI 10 mL_law 1729 (lwL x3) [] g Q) : GoI 10 mL_law 1528 (lwL x3) [] h Q := by
  obtain ⟨γ, hc, hr, hv⟩ := j
  obtain ⟨Q1, C1, K1⟩ := tw_racks ((h.1 2000 ((x3 + (1 : Int32))).toNatClampNeg)) ((h.1 2000 ((x3 + (2 : Int32))).toNatClampNeg)) ((h.1 2000 ((x3 + (3 : Int32))).toNatClampNeg)) hc hr hv
  refine b_L_law_1528 ⟨n 1 (by decide), n 2 (by decide), n 3 (by decide), Q1, C1, fun v h1 q => ?_⟩
  obtain ⟨s1, Q2, C2, K2⟩ := K1 v h1 q
  have n1 : scN x3 h1 := by
    unfold scN
    rw [s1.2]
    exact n
  rw [s1.1]
  refine ⟨n1 1 (by decide), n1 2 (by decide), n1 3 (by decide), Q2, C2, fun v2 h2 q2 => ?_⟩
  obtain ⟨e, j2, s2⟩ := K2 v2 h2 q2
  exact ⟨fun _ => k h2 j2 s2, fun c => absurd e.symm c⟩
theorem lw_1485 {x3 : Int32} {h : Hp} {Q : Int32 → Hp → Prop} (j : Jn h) (n : scN x3 h) (k : ∀ g, Jn g → Sk h g → GoI 10 mL_law 1729 (lwL x3) [] g Q) : GoI 10 mL_law 1485 (lwL x3) [] h Q := by
  obtain ⟨γ, hc, hr, hv⟩ := j
  obtain ⟨Q1, C1, K1⟩ := tw_rack ((h.1 2000 ((x3 + (1 : Int32))).toNatClampNeg)) ((h.1 2000 ((x3 + (2 : Int32))).toNatClampNeg)) ((h.1 2000 ((x3 + (3 : Int32))).toNatClampNeg)) hc hr hv
  refine b_L_law_1485 ⟨n 1 (by decide), n 2 (by decide), n 3 (by decide), Q1, C1, fun v h1 q => ?_⟩
  obtain ⟨s1, Q2, C2, K2⟩ := K1 v h1 q
  have n1 : scN x3 h1 := by
    unfold scN
    rw [s1.2]
    exact n
  rw [s1.1]
  refine ⟨n1 1 (by decide), n1 2 (by decide), n1 3 (by decide), Q2, C2, fun v2 h2 q2 => ?_⟩
  obtain ⟨e, j2, s2⟩ := K2 v2 h2 q2
  exact ⟨fun _ => k h2 j2 s2, fun c => absurd e.symm c⟩
theorem lw_1462 {x3 : Int32} {h : Hp} {Q : Int32 → Hp → Prop} (j : Jn h) (n : scN x3 h) (k : ∀ g, Jn g → Sk h g → GoI 10 mL_law 1729 (lwL x3) [] g Q) : GoI 10 mL_law 1462 (lwL x3) [] h Q := by
  obtain ⟨γ, hc, hr, hv⟩ := j
  obtain ⟨Q1, C1, K1⟩ := tw_bills ((h.1 2000 ((x3 + (1 : Int32))).toNatClampNeg)) hc hr hv
  refine b_L_law_1462 ⟨n 1 (by decide), Q1, C1, fun v h1 q => ?_⟩
  obtain ⟨s1, Q2, C2, K2⟩ := K1 v h1 q
  have n1 : scN x3 h1 := by
    unfold scN
    rw [s1.2]
    exact n
  rw [s1.1]
  refine ⟨n1 1 (by decide), Q2, C2, fun v2 h2 q2 => ?_⟩
  obtain ⟨e, j2, s2⟩ := K2 v2 h2 q2
  exact ⟨fun _ => k h2 j2 s2, fun c => absurd e.symm c⟩
theorem lw_1448 {x3 : Int32} {h : Hp} {Q : Int32 → Hp → Prop} (j : Jn h) (n : scN x3 h) (k : ∀ g, Jn g → Sk h g → GoI 10 mL_law 1729 (lwL x3) [] g Q) : GoI 10 mL_law 1448 (lwL x3) [] h Q := by
  obtain ⟨γ, hc, hr, hv⟩ := j
  obtain ⟨Q1, C1, K1⟩ := tw_purse  hc hr hv
  refine b_L_law_1448 ⟨Q1, C1, fun v h1 q => ?_⟩
  obtain ⟨s1, Q2, C2, K2⟩ := K1 v h1 q
  have n1 : scN x3 h1 := by
    unfold scN
    rw [s1.2]
    exact n
  refine ⟨Q2, C2, fun v2 h2 q2 => ?_⟩
  obtain ⟨e, j2, s2⟩ := K2 v2 h2 q2
  rw [lg_cmp_eq]
  exact ⟨fun _ => k h2 j2 s2, fun c => absurd e.symm c⟩
theorem lw_1355 {x3 : Int32} {h : Hp} {Q : Int32 → Hp → Prop} (j : Jn h) (n : scN x3 h) (k : ∀ g, Jn g → Sk h g → GoI 10 mL_law 1729 (lwL x3) [] g Q) : GoI 10 mL_law 1355 (lwL x3) [] h Q := by
  obtain ⟨γ, hc, hr, hv⟩ := j
  obtain ⟨Q1, C1, K1⟩ := tw_pays (((((h.1 2000 ((x3 + (1 : Int32))).toNatClampNeg)).toInt64 <<< (((32 : Int32)).toInt64 &&& 63)) ||| (((h.1 2000 ((x3 + (2 : Int32))).toNatClampNeg)).toInt64 &&& (4294967295 : Int64)))) (((((h.1 2000 ((x3 + (3 : Int32))).toNatClampNeg)).toInt64 <<< (((32 : Int32)).toInt64 &&& 63)) ||| (((h.1 2000 ((x3 + (4 : Int32))).toNatClampNeg)).toInt64 &&& (4294967295 : Int64)))) hc hr hv
  refine b_L_law_1355 ⟨n 1 (by decide), n 2 (by decide), n 3 (by decide), n 4 (by decide), Q1, C1, fun v h1 q => ?_⟩
  obtain ⟨s1, Q2, C2, K2⟩ := K1 v h1 q
  have n1 : scN x3 h1 := by
    unfold scN
    rw [s1.2]
    exact n
  rw [s1.1]
  refine ⟨n1 1 (by decide), n1 2 (by decide), n1 3 (by decide), n1 4 (by decide), Q2, C2, fun v2 h2 q2 => ?_⟩
  obtain ⟨e, j2, s2⟩ := K2 v2 h2 q2
  exact ⟨fun _ => k h2 j2 s2, fun c => absurd e.symm c⟩
theorem lw_1322 {x3 : Int32} {h : Hp} {Q : Int32 → Hp → Prop} (j : Jn h) (n : scN x3 h) (k : ∀ g, Jn g → Sk h g → GoI 10 mL_law 1729 (lwL x3) [] g Q) : GoI 10 mL_law 1322 (lwL x3) [] h Q := by
  obtain ⟨γ, hc, hr, hv⟩ := j
  obtain ⟨Q1, C1, K1⟩ := tw_lays ((h.1 2000 ((x3 + (1 : Int32))).toNatClampNeg)) ((h.1 2000 ((x3 + (2 : Int32))).toNatClampNeg)) hc hr hv
  refine b_L_law_1322 ⟨n 1 (by decide), n 2 (by decide), Q1, C1, fun v h1 q => ?_⟩
  obtain ⟨s1, Q2, C2, K2⟩ := K1 v h1 q
  have n1 : scN x3 h1 := by
    unfold scN
    rw [s1.2]
    exact n
  rw [s1.1]
  refine ⟨n1 1 (by decide), n1 2 (by decide), Q2, C2, fun v2 h2 q2 => ?_⟩
  obtain ⟨e, j2, s2⟩ := K2 v2 h2 q2
  exact ⟨fun _ => k h2 j2 s2, fun c => absurd e.symm c⟩
theorem lw_1279 {x3 : Int32} {h : Hp} {Q : Int32 → Hp → Prop} (j : Jn h) (n : scN x3 h) (k : ∀ g, Jn g → Sk h g → GoI 10 mL_law 1729 (lwL x3) [] g Q) : GoI 10 mL_law 1279 (lwL x3) [] h Q := by
  obtain ⟨γ, hc, hr, hv⟩ := j
  obtain ⟨Q1, C1, K1⟩ := tw_put ((h.1 2000 ((x3 + (1 : Int32))).toNatClampNeg)) ((h.1 2000 ((x3 + (2 : Int32))).toNatClampNeg)) ((h.1 2000 ((x3 + (3 : Int32))).toNatClampNeg)) hc hr hv
  refine b_L_law_1279 ⟨n 1 (by decide), n 2 (by decide), n 3 (by decide), Q1, C1, fun v h1 q => ?_⟩
  obtain ⟨s1, Q2, C2, K2⟩ := K1 v h1 q
  have n1 : scN x3 h1 := by
    unfold scN
    rw [s1.2]
    exact n
  rw [s1.1]
  refine ⟨n1 1 (by decide), n1 2 (by decide), n1 3 (by decide), Q2, C2, fun v2 h2 q2 => ?_⟩
  obtain ⟨e, j2, s2⟩ := K2 v2 h2 q2
  exact ⟨fun _ => k h2 j2 s2, fun c => absurd e.symm c⟩
theorem lw_1246 {x3 : Int32} {h : Hp} {Q : Int32 → Hp → Prop} (j : Jn h) (n : scN x3 h) (k : ∀ g, Jn g → Sk h g → GoI 10 mL_law 1729 (lwL x3) [] g Q) : GoI 10 mL_law 1246 (lwL x3) [] h Q := by
  obtain ⟨γ, hc, hr, hv⟩ := j
  obtain ⟨Q1, C1, K1⟩ := tw_list ((h.1 2000 ((x3 + (1 : Int32))).toNatClampNeg)) ((h.1 2000 ((x3 + (2 : Int32))).toNatClampNeg)) hc hr hv
  refine b_L_law_1246 ⟨n 1 (by decide), n 2 (by decide), Q1, C1, fun v h1 q => ?_⟩
  obtain ⟨s1, Q2, C2, K2⟩ := K1 v h1 q
  have n1 : scN x3 h1 := by
    unfold scN
    rw [s1.2]
    exact n
  rw [s1.1]
  refine ⟨n1 1 (by decide), n1 2 (by decide), Q2, C2, fun v2 h2 q2 => ?_⟩
  obtain ⟨e, j2, s2⟩ := K2 v2 h2 q2
  exact ⟨fun _ => k h2 j2 s2, fun c => absurd e.symm c⟩
theorem lw_1203 {x3 : Int32} {h : Hp} {Q : Int32 → Hp → Prop} (j : Jn h) (n : scN x3 h) (k : ∀ g, Jn g → Sk h g → GoI 10 mL_law 1729 (lwL x3) [] g Q) : GoI 10 mL_law 1203 (lwL x3) [] h Q := by
  obtain ⟨γ, hc, hr, hv⟩ := j
  obtain ⟨Q1, C1, K1⟩ := tw_lots ((h.1 2000 ((x3 + (1 : Int32))).toNatClampNeg)) ((h.1 2000 ((x3 + (2 : Int32))).toNatClampNeg)) ((h.1 2000 ((x3 + (3 : Int32))).toNatClampNeg)) hc hr hv
  refine b_L_law_1203 ⟨n 1 (by decide), n 2 (by decide), n 3 (by decide), Q1, C1, fun v h1 q => ?_⟩
  obtain ⟨s1, Q2, C2, K2⟩ := K1 v h1 q
  have n1 : scN x3 h1 := by
    unfold scN
    rw [s1.2]
    exact n
  rw [s1.1]
  refine ⟨n1 1 (by decide), n1 2 (by decide), n1 3 (by decide), Q2, C2, fun v2 h2 q2 => ?_⟩
  obtain ⟨e, j2, s2⟩ := K2 v2 h2 q2
  exact ⟨fun _ => k h2 j2 s2, fun c => absurd e.symm c⟩
theorem lw_1160 {x3 : Int32} {h : Hp} {Q : Int32 → Hp → Prop} (j : Jn h) (n : scN x3 h) (k : ∀ g, Jn g → Sk h g → GoI 10 mL_law 1729 (lwL x3) [] g Q) : GoI 10 mL_law 1160 (lwL x3) [] h Q := by
  obtain ⟨γ, hc, hr, hv⟩ := j
  obtain ⟨Q1, C1, K1⟩ := tw_whatIs ((h.1 2000 ((x3 + (1 : Int32))).toNatClampNeg)) ((h.1 2000 ((x3 + (2 : Int32))).toNatClampNeg)) ((h.1 2000 ((x3 + (3 : Int32))).toNatClampNeg)) hc hr hv
  refine b_L_law_1160 ⟨n 1 (by decide), n 2 (by decide), n 3 (by decide), Q1, C1, fun v h1 q => ?_⟩
  obtain ⟨s1, Q2, C2, K2⟩ := K1 v h1 q
  have n1 : scN x3 h1 := by
    unfold scN
    rw [s1.2]
    exact n
  rw [s1.1]
  refine ⟨n1 1 (by decide), n1 2 (by decide), n1 3 (by decide), Q2, C2, fun v2 h2 q2 => ?_⟩
  obtain ⟨e, j2, s2⟩ := K2 v2 h2 q2
  exact ⟨fun _ => k h2 j2 s2, fun c => absurd e.symm c⟩
theorem lw_1137 {x3 : Int32} {h : Hp} {Q : Int32 → Hp → Prop} (j : Jn h) (n : scN x3 h) (k : ∀ g, Jn g → Sk h g → GoI 10 mL_law 1729 (lwL x3) [] g Q) : GoI 10 mL_law 1137 (lwL x3) [] h Q := by
  obtain ⟨γ, hc, hr, hv⟩ := j
  obtain ⟨Q1, C1, K1⟩ := tw_judge ((h.1 2000 ((x3 + (1 : Int32))).toNatClampNeg)) hc hr hv
  refine b_L_law_1137 ⟨n 1 (by decide), Q1, C1, fun v h1 q => ?_⟩
  obtain ⟨s1, Q2, C2, K2⟩ := K1 v h1 q
  have n1 : scN x3 h1 := by
    unfold scN
    rw [s1.2]
    exact n
  rw [s1.1]
  refine ⟨n1 1 (by decide), Q2, C2, fun v2 h2 q2 => ?_⟩
  obtain ⟨e, j2, s2⟩ := K2 v2 h2 q2
  exact ⟨fun _ => k h2 j2 s2, fun c => absurd e.symm c⟩
theorem lw_1114 {x3 : Int32} {h : Hp} {Q : Int32 → Hp → Prop} (j : Jn h) (n : scN x3 h) (k : ∀ g, Jn g → Sk h g → GoI 10 mL_law 1729 (lwL x3) [] g Q) : GoI 10 mL_law 1114 (lwL x3) [] h Q := by
  obtain ⟨γ, hc, hr, hv⟩ := j
  obtain ⟨Q1, C1, K1⟩ := tw_repaired ((h.1 2000 ((x3 + (1 : Int32))).toNatClampNeg)) hc hr hv
  refine b_L_law_1114 ⟨n 1 (by decide), Q1, C1, fun v h1 q => ?_⟩
  obtain ⟨s1, Q2, C2, K2⟩ := K1 v h1 q
  have n1 : scN x3 h1 := by
    unfold scN
    rw [s1.2]
    exact n
  rw [s1.1]
  refine ⟨n1 1 (by decide), Q2, C2, fun v2 h2 q2 => ?_⟩
  obtain ⟨e, j2, s2⟩ := K2 v2 h2 q2
  exact ⟨fun _ => k h2 j2 s2, fun c => absurd e.symm c⟩
theorem lw_1091 {x3 : Int32} {h : Hp} {Q : Int32 → Hp → Prop} (j : Jn h) (n : scN x3 h) (k : ∀ g, Jn g → Sk h g → GoI 10 mL_law 1729 (lwL x3) [] g Q) : GoI 10 mL_law 1091 (lwL x3) [] h Q := by
  obtain ⟨γ, hc, hr, hv⟩ := j
  obtain ⟨Q1, C1, K1⟩ := tw_goes ((h.1 2000 ((x3 + (1 : Int32))).toNatClampNeg)) hc hr hv
  refine b_L_law_1091 ⟨n 1 (by decide), Q1, C1, fun v h1 q => ?_⟩
  obtain ⟨s1, Q2, C2, K2⟩ := K1 v h1 q
  have n1 : scN x3 h1 := by
    unfold scN
    rw [s1.2]
    exact n
  rw [s1.1]
  refine ⟨n1 1 (by decide), Q2, C2, fun v2 h2 q2 => ?_⟩
  obtain ⟨e, j2, s2⟩ := K2 v2 h2 q2
  exact ⟨fun _ => k h2 j2 s2, fun c => absurd e.symm c⟩
theorem lw_1057 {x3 : Int32} {h : Hp} {Q : Int32 → Hp → Prop} (j : Jn h) (n : scN x3 h) (k : ∀ g, Jn g → Sk h g → GoI 10 mL_law 1729 (lwL x3) [] g Q) : GoI 10 mL_law 1057 (lwL x3) [] h Q := by
  obtain ⟨γ, hc, hr, hv⟩ := j
  obtain ⟨Q1, C1, K1⟩ := tw_rounds ((h.1 2000 ((x3 + (1 : Int32))).toNatClampNeg)) ((h.1 2000 ((x3 + (2 : Int32))).toNatClampNeg)) hc hr hv
  refine b_L_law_1057 ⟨n 1 (by decide), n 2 (by decide), Q1, C1, fun v h1 q => ?_⟩
  obtain ⟨s1, Q2, C2, K2⟩ := K1 v h1 q
  have n1 : scN x3 h1 := by
    unfold scN
    rw [s1.2]
    exact n
  rw [s1.1]
  refine ⟨n1 1 (by decide), n1 2 (by decide), Q2, C2, fun v2 h2 q2 => ?_⟩
  obtain ⟨e, j2, s2⟩ := K2 v2 h2 q2
  rw [lg_cmp_eq]
  exact ⟨fun _ => k h2 j2 s2, fun c => absurd e.symm c⟩
theorem lw_1044 {x3 : Int32} {h : Hp} {Q : Int32 → Hp → Prop} (j : Jn h) (n : scN x3 h) (k : ∀ g, Jn g → Sk h g → GoI 10 mL_law 1729 (lwL x3) [] g Q) : GoI 10 mL_law 1044 (lwL x3) [] h Q := by
  obtain ⟨γ, hc, hr, hv⟩ := j
  obtain ⟨Q1, C1, K1⟩ := tw_bound  hc hr hv
  refine b_L_law_1044 ⟨Q1, C1, fun v h1 q => ?_⟩
  obtain ⟨s1, Q2, C2, K2⟩ := K1 v h1 q
  have n1 : scN x3 h1 := by
    unfold scN
    rw [s1.2]
    exact n
  refine ⟨Q2, C2, fun v2 h2 q2 => ?_⟩
  obtain ⟨e, j2, s2⟩ := K2 v2 h2 q2
  exact ⟨fun _ => k h2 j2 s2, fun c => absurd e.symm c⟩
theorem lw_1010 {x3 : Int32} {h : Hp} {Q : Int32 → Hp → Prop} (j : Jn h) (n : scN x3 h) (k : ∀ g, Jn g → Sk h g → GoI 10 mL_law 1729 (lwL x3) [] g Q) : GoI 10 mL_law 1010 (lwL x3) [] h Q := by
  obtain ⟨γ, hc, hr, hv⟩ := j
  obtain ⟨Q1, C1, K1⟩ := tw_answer ((h.1 2000 ((x3 + (1 : Int32))).toNatClampNeg)) ((h.1 2000 ((x3 + (2 : Int32))).toNatClampNeg)) hc hr hv
  refine b_L_law_1010 ⟨n 1 (by decide), n 2 (by decide), Q1, C1, fun v h1 q => ?_⟩
  obtain ⟨s1, Q2, C2, K2⟩ := K1 v h1 q
  have n1 : scN x3 h1 := by
    unfold scN
    rw [s1.2]
    exact n
  rw [s1.1]
  refine ⟨n1 1 (by decide), n1 2 (by decide), Q2, C2, fun v2 h2 q2 => ?_⟩
  obtain ⟨e, j2, s2⟩ := K2 v2 h2 q2
  rw [lg_cmp_eq]
  exact ⟨fun _ => k h2 j2 s2, fun c => absurd e.symm c⟩
theorem lw_987 {x3 : Int32} {h : Hp} {Q : Int32 → Hp → Prop} (j : Jn h) (n : scN x3 h) (k : ∀ g, Jn g → Sk h g → GoI 10 mL_law 1729 (lwL x3) [] g Q) : GoI 10 mL_law 987 (lwL x3) [] h Q := by
  obtain ⟨γ, hc, hr, hv⟩ := j
  obtain ⟨Q1, C1, K1⟩ := tw_step ((h.1 2000 ((x3 + (1 : Int32))).toNatClampNeg)) hc hr hv
  refine b_L_law_987 ⟨n 1 (by decide), Q1, C1, fun v h1 q => ?_⟩
  obtain ⟨s1, Q2, C2, K2⟩ := K1 v h1 q
  have n1 : scN x3 h1 := by
    unfold scN
    rw [s1.2]
    exact n
  rw [s1.1]
  refine ⟨n1 1 (by decide), Q2, C2, fun v2 h2 q2 => ?_⟩
  obtain ⟨e, j2, s2⟩ := K2 v2 h2 q2
  exact ⟨fun _ => k h2 j2 s2, fun c => absurd e.symm c⟩
theorem lw_954 {x3 : Int32} {h : Hp} {Q : Int32 → Hp → Prop} (j : Jn h) (n : scN x3 h) (k : ∀ g, Jn g → Sk h g → GoI 10 mL_law 1729 (lwL x3) [] g Q) : GoI 10 mL_law 954 (lwL x3) [] h Q := by
  obtain ⟨γ, hc, hr, hv⟩ := j
  obtain ⟨Q1, C1, K1⟩ := tw_price ((h.1 2000 ((x3 + (1 : Int32))).toNatClampNeg)) ((h.1 2000 ((x3 + (2 : Int32))).toNatClampNeg)) hc hr hv
  refine b_L_law_954 ⟨n 1 (by decide), n 2 (by decide), Q1, C1, fun v h1 q => ?_⟩
  obtain ⟨s1, Q2, C2, K2⟩ := K1 v h1 q
  have n1 : scN x3 h1 := by
    unfold scN
    rw [s1.2]
    exact n
  rw [s1.1]
  refine ⟨n1 1 (by decide), n1 2 (by decide), Q2, C2, fun v2 h2 q2 => ?_⟩
  obtain ⟨e, j2, s2⟩ := K2 v2 h2 q2
  exact ⟨fun _ => k h2 j2 s2, fun c => absurd e.symm c⟩
theorem lw_930 {x3 : Int32} {h : Hp} {Q : Int32 → Hp → Prop} (j : Jn h) (n : scN x3 h) (k : ∀ g, Jn g → Sk h g → GoI 10 mL_law 1729 (lwL x3) [] g Q) : GoI 10 mL_law 930 (lwL x3) [] h Q := by
  obtain ⟨γ, hc, hr, hv⟩ := j
  obtain ⟨Q1, C1, K1⟩ := tw_shown ((h.1 2000 ((x3 + (1 : Int32))).toNatClampNeg)) hc hr hv
  refine b_L_law_930 ⟨n 1 (by decide), Q1, C1, fun v h1 q => ?_⟩
  obtain ⟨s1, Q2, C2, K2⟩ := K1 v h1 q
  have n1 : scN x3 h1 := by
    unfold scN
    rw [s1.2]
    exact n
  rw [s1.1]
  refine ⟨n1 1 (by decide), Q2, C2, fun v2 h2 q2 => ?_⟩
  obtain ⟨e, j2, s2⟩ := K2 v2 h2 q2
  rw [lg_cmp_eq]
  exact ⟨fun _ => k h2 j2 s2, fun c => absurd e.symm c⟩
theorem lw_896 {x3 : Int32} {h : Hp} {Q : Int32 → Hp → Prop} (j : Jn h) (n : scN x3 h) (k : ∀ g, Jn g → Sk h g → GoI 10 mL_law 1729 (lwL x3) [] g Q) : GoI 10 mL_law 896 (lwL x3) [] h Q := by
  obtain ⟨γ, hc, hr, hv⟩ := j
  obtain ⟨Q1, C1, K1⟩ := tw_likely ((h.1 2000 ((x3 + (1 : Int32))).toNatClampNeg)) ((h.1 2000 ((x3 + (2 : Int32))).toNatClampNeg)) hc hr hv
  refine b_L_law_896 ⟨n 1 (by decide), n 2 (by decide), Q1, C1, fun v h1 q => ?_⟩
  obtain ⟨s1, Q2, C2, K2⟩ := K1 v h1 q
  have n1 : scN x3 h1 := by
    unfold scN
    rw [s1.2]
    exact n
  rw [s1.1]
  refine ⟨n1 1 (by decide), n1 2 (by decide), Q2, C2, fun v2 h2 q2 => ?_⟩
  obtain ⟨e, j2, s2⟩ := K2 v2 h2 q2
  rw [lg_cmp_eq]
  exact ⟨fun _ => k h2 j2 s2, fun c => absurd e.symm c⟩
theorem lw_883 {x3 : Int32} {h : Hp} {Q : Int32 → Hp → Prop} (j : Jn h) (n : scN x3 h) (k : ∀ g, Jn g → Sk h g → GoI 10 mL_law 1729 (lwL x3) [] g Q) : GoI 10 mL_law 883 (lwL x3) [] h Q := by
  obtain ⟨γ, hc, hr, hv⟩ := j
  obtain ⟨Q1, C1, K1⟩ := tw_hand  hc hr hv
  refine b_L_law_883 ⟨Q1, C1, fun v h1 q => ?_⟩
  obtain ⟨s1, Q2, C2, K2⟩ := K1 v h1 q
  have n1 : scN x3 h1 := by
    unfold scN
    rw [s1.2]
    exact n
  refine ⟨Q2, C2, fun v2 h2 q2 => ?_⟩
  obtain ⟨e, j2, s2⟩ := K2 v2 h2 q2
  exact ⟨fun _ => k h2 j2 s2, fun c => absurd e.symm c⟩
theorem lw_860 {x3 : Int32} {h : Hp} {Q : Int32 → Hp → Prop} (j : Jn h) (n : scN x3 h) (k : ∀ g, Jn g → Sk h g → GoI 10 mL_law 1729 (lwL x3) [] g Q) : GoI 10 mL_law 860 (lwL x3) [] h Q := by
  obtain ⟨γ, hc, hr, hv⟩ := j
  obtain ⟨Q1, C1, K1⟩ := tw_worth ((h.1 2000 ((x3 + (1 : Int32))).toNatClampNeg)) hc hr hv
  refine b_L_law_860 ⟨n 1 (by decide), Q1, C1, fun v h1 q => ?_⟩
  obtain ⟨s1, Q2, C2, K2⟩ := K1 v h1 q
  have n1 : scN x3 h1 := by
    unfold scN
    rw [s1.2]
    exact n
  rw [s1.1]
  refine ⟨n1 1 (by decide), Q2, C2, fun v2 h2 q2 => ?_⟩
  obtain ⟨e, j2, s2⟩ := K2 v2 h2 q2
  exact ⟨fun _ => k h2 j2 s2, fun c => absurd e.symm c⟩
theorem lw_837 {x3 : Int32} {h : Hp} {Q : Int32 → Hp → Prop} (j : Jn h) (n : scN x3 h) (k : ∀ g, Jn g → Sk h g → GoI 10 mL_law 1729 (lwL x3) [] g Q) : GoI 10 mL_law 837 (lwL x3) [] h Q := by
  obtain ⟨γ, hc, hr, hv⟩ := j
  obtain ⟨Q1, C1, K1⟩ := tw_margin ((h.1 2000 ((x3 + (1 : Int32))).toNatClampNeg)) hc hr hv
  refine b_L_law_837 ⟨n 1 (by decide), Q1, C1, fun v h1 q => ?_⟩
  obtain ⟨s1, Q2, C2, K2⟩ := K1 v h1 q
  have n1 : scN x3 h1 := by
    unfold scN
    rw [s1.2]
    exact n
  rw [s1.1]
  refine ⟨n1 1 (by decide), Q2, C2, fun v2 h2 q2 => ?_⟩
  obtain ⟨e, j2, s2⟩ := K2 v2 h2 q2
  exact ⟨fun _ => k h2 j2 s2, fun c => absurd e.symm c⟩
theorem lw_814 {x3 : Int32} {h : Hp} {Q : Int32 → Hp → Prop} (j : Jn h) (n : scN x3 h) (k : ∀ g, Jn g → Sk h g → GoI 10 mL_law 1729 (lwL x3) [] g Q) : GoI 10 mL_law 814 (lwL x3) [] h Q := by
  obtain ⟨γ, hc, hr, hv⟩ := j
  obtain ⟨Q1, C1, K1⟩ := tw_cost ((h.1 2000 ((x3 + (1 : Int32))).toNatClampNeg)) hc hr hv
  refine b_L_law_814 ⟨n 1 (by decide), Q1, C1, fun v h1 q => ?_⟩
  obtain ⟨s1, Q2, C2, K2⟩ := K1 v h1 q
  have n1 : scN x3 h1 := by
    unfold scN
    rw [s1.2]
    exact n
  rw [s1.1]
  refine ⟨n1 1 (by decide), Q2, C2, fun v2 h2 q2 => ?_⟩
  obtain ⟨e, j2, s2⟩ := K2 v2 h2 q2
  exact ⟨fun _ => k h2 j2 s2, fun c => absurd e.symm c⟩
theorem lw_791 {x3 : Int32} {h : Hp} {Q : Int32 → Hp → Prop} (j : Jn h) (n : scN x3 h) (k : ∀ g, Jn g → Sk h g → GoI 10 mL_law 1729 (lwL x3) [] g Q) : GoI 10 mL_law 791 (lwL x3) [] h Q := by
  obtain ⟨γ, hc, hr, hv⟩ := j
  obtain ⟨Q1, C1, K1⟩ := tw_row ((h.1 2000 ((x3 + (1 : Int32))).toNatClampNeg)) hc hr hv
  refine b_L_law_791 ⟨n 1 (by decide), Q1, C1, fun v h1 q => ?_⟩
  obtain ⟨s1, Q2, C2, K2⟩ := K1 v h1 q
  have n1 : scN x3 h1 := by
    unfold scN
    rw [s1.2]
    exact n
  rw [s1.1]
  refine ⟨n1 1 (by decide), Q2, C2, fun v2 h2 q2 => ?_⟩
  obtain ⟨e, j2, s2⟩ := K2 v2 h2 q2
  exact ⟨fun _ => k h2 j2 s2, fun c => absurd e.symm c⟩
theorem lw_778 {x3 : Int32} {h : Hp} {Q : Int32 → Hp → Prop} (j : Jn h) (n : scN x3 h) (k : ∀ g, Jn g → Sk h g → GoI 10 mL_law 1729 (lwL x3) [] g Q) : GoI 10 mL_law 778 (lwL x3) [] h Q := by
  obtain ⟨γ, hc, hr, hv⟩ := j
  obtain ⟨Q1, C1, K1⟩ := tw_best  hc hr hv
  refine b_L_law_778 ⟨Q1, C1, fun v h1 q => ?_⟩
  obtain ⟨s1, Q2, C2, K2⟩ := K1 v h1 q
  have n1 : scN x3 h1 := by
    unfold scN
    rw [s1.2]
    exact n
  refine ⟨Q2, C2, fun v2 h2 q2 => ?_⟩
  obtain ⟨e, j2, s2⟩ := K2 v2 h2 q2
  exact ⟨fun _ => k h2 j2 s2, fun c => absurd e.symm c⟩
theorem lw_735 {x3 : Int32} {h : Hp} {Q : Int32 → Hp → Prop} (j : Jn h) (n : scN x3 h) (k : ∀ g, Jn g → Sk h g → GoI 10 mL_law 1729 (lwL x3) [] g Q) : GoI 10 mL_law 735 (lwL x3) [] h Q := by
  obtain ⟨γ, hc, hr, hv⟩ := j
  obtain ⟨Q1, C1, K1⟩ := tw_given ((h.1 2000 ((x3 + (1 : Int32))).toNatClampNeg)) ((h.1 2000 ((x3 + (2 : Int32))).toNatClampNeg)) ((h.1 2000 ((x3 + (3 : Int32))).toNatClampNeg)) hc hr hv
  refine b_L_law_735 ⟨n 1 (by decide), n 2 (by decide), n 3 (by decide), Q1, C1, fun v h1 q => ?_⟩
  obtain ⟨s1, Q2, C2, K2⟩ := K1 v h1 q
  have n1 : scN x3 h1 := by
    unfold scN
    rw [s1.2]
    exact n
  rw [s1.1]
  refine ⟨n1 1 (by decide), n1 2 (by decide), n1 3 (by decide), Q2, C2, fun v2 h2 q2 => ?_⟩
  obtain ⟨e, j2, s2⟩ := K2 v2 h2 q2
  exact ⟨fun _ => k h2 j2 s2, fun c => absurd e.symm c⟩
theorem lw_702 {x3 : Int32} {h : Hp} {Q : Int32 → Hp → Prop} (j : Jn h) (n : scN x3 h) (k : ∀ g, Jn g → Sk h g → GoI 10 mL_law 1729 (lwL x3) [] g Q) : GoI 10 mL_law 702 (lwL x3) [] h Q := by
  obtain ⟨γ, hc, hr, hv⟩ := j
  obtain ⟨Q1, C1, K1⟩ := tw_done ((h.1 2000 ((x3 + (1 : Int32))).toNatClampNeg)) ((h.1 2000 ((x3 + (2 : Int32))).toNatClampNeg)) hc hr hv
  refine b_L_law_702 ⟨n 1 (by decide), n 2 (by decide), Q1, C1, fun v h1 q => ?_⟩
  obtain ⟨s1, Q2, C2, K2⟩ := K1 v h1 q
  have n1 : scN x3 h1 := by
    unfold scN
    rw [s1.2]
    exact n
  rw [s1.1]
  refine ⟨n1 1 (by decide), n1 2 (by decide), Q2, C2, fun v2 h2 q2 => ?_⟩
  obtain ⟨e, j2, s2⟩ := K2 v2 h2 q2
  exact ⟨fun _ => k h2 j2 s2, fun c => absurd e.symm c⟩
theorem lw_669 {x3 : Int32} {h : Hp} {Q : Int32 → Hp → Prop} (j : Jn h) (n : scN x3 h) (k : ∀ g, Jn g → Sk h g → GoI 10 mL_law 1729 (lwL x3) [] g Q) : GoI 10 mL_law 669 (lwL x3) [] h Q := by
  obtain ⟨γ, hc, hr, hv⟩ := j
  obtain ⟨Q1, C1, K1⟩ := tw_rows ((h.1 2000 ((x3 + (1 : Int32))).toNatClampNeg)) ((h.1 2000 ((x3 + (2 : Int32))).toNatClampNeg)) hc hr hv
  refine b_L_law_669 ⟨n 1 (by decide), n 2 (by decide), Q1, C1, fun v h1 q => ?_⟩
  obtain ⟨s1, Q2, C2, K2⟩ := K1 v h1 q
  have n1 : scN x3 h1 := by
    unfold scN
    rw [s1.2]
    exact n
  rw [s1.1]
  refine ⟨n1 1 (by decide), n1 2 (by decide), Q2, C2, fun v2 h2 q2 => ?_⟩
  obtain ⟨e, j2, s2⟩ := K2 v2 h2 q2
  exact ⟨fun _ => k h2 j2 s2, fun c => absurd e.symm c⟩
theorem lw_636 {x3 : Int32} {h : Hp} {Q : Int32 → Hp → Prop} (j : Jn h) (n : scN x3 h) (k : ∀ g, Jn g → Sk h g → GoI 10 mL_law 1729 (lwL x3) [] g Q) : GoI 10 mL_law 636 (lwL x3) [] h Q := by
  obtain ⟨γ, hc, hr, hv⟩ := j
  obtain ⟨Q1, C1, K1⟩ := tw_lawful ((h.1 2000 ((x3 + (1 : Int32))).toNatClampNeg)) ((h.1 2000 ((x3 + (2 : Int32))).toNatClampNeg)) hc hr hv
  refine b_L_law_636 ⟨n 1 (by decide), n 2 (by decide), Q1, C1, fun v h1 q => ?_⟩
  obtain ⟨s1, Q2, C2, K2⟩ := K1 v h1 q
  have n1 : scN x3 h1 := by
    unfold scN
    rw [s1.2]
    exact n
  rw [s1.1]
  refine ⟨n1 1 (by decide), n1 2 (by decide), Q2, C2, fun v2 h2 q2 => ?_⟩
  obtain ⟨e, j2, s2⟩ := K2 v2 h2 q2
  exact ⟨fun _ => k h2 j2 s2, fun c => absurd e.symm c⟩
theorem lw_603 {x3 : Int32} {h : Hp} {Q : Int32 → Hp → Prop} (j : Jn h) (n : scN x3 h) (k : ∀ g, Jn g → Sk h g → GoI 10 mL_law 1729 (lwL x3) [] g Q) : GoI 10 mL_law 603 (lwL x3) [] h Q := by
  obtain ⟨γ, hc, hr, hv⟩ := j
  obtain ⟨Q1, C1, K1⟩ := tw_starts ((h.1 2000 ((x3 + (1 : Int32))).toNatClampNeg)) ((h.1 2000 ((x3 + (2 : Int32))).toNatClampNeg)) hc hr hv
  refine b_L_law_603 ⟨n 1 (by decide), n 2 (by decide), Q1, C1, fun v h1 q => ?_⟩
  obtain ⟨s1, Q2, C2, K2⟩ := K1 v h1 q
  have n1 : scN x3 h1 := by
    unfold scN
    rw [s1.2]
    exact n
  rw [s1.1]
  refine ⟨n1 1 (by decide), n1 2 (by decide), Q2, C2, fun v2 h2 q2 => ?_⟩
  obtain ⟨e, j2, s2⟩ := K2 v2 h2 q2
  exact ⟨fun _ => k h2 j2 s2, fun c => absurd e.symm c⟩
theorem lw_570 {x3 : Int32} {h : Hp} {Q : Int32 → Hp → Prop} (j : Jn h) (n : scN x3 h) (k : ∀ g, Jn g → Sk h g → GoI 10 mL_law 1729 (lwL x3) [] g Q) : GoI 10 mL_law 570 (lwL x3) [] h Q := by
  obtain ⟨γ, hc, hr, hv⟩ := j
  obtain ⟨Q1, C1, K1⟩ := tw_of ((h.1 2000 ((x3 + (1 : Int32))).toNatClampNeg)) ((h.1 2000 ((x3 + (2 : Int32))).toNatClampNeg)) hc hr hv
  refine b_L_law_570 ⟨n 1 (by decide), n 2 (by decide), Q1, C1, fun v h1 q => ?_⟩
  obtain ⟨s1, Q2, C2, K2⟩ := K1 v h1 q
  have n1 : scN x3 h1 := by
    unfold scN
    rw [s1.2]
    exact n
  rw [s1.1]
  refine ⟨n1 1 (by decide), n1 2 (by decide), Q2, C2, fun v2 h2 q2 => ?_⟩
  obtain ⟨e, j2, s2⟩ := K2 v2 h2 q2
  exact ⟨fun _ => k h2 j2 s2, fun c => absurd e.symm c⟩
theorem lw_547 {x3 : Int32} {h : Hp} {Q : Int32 → Hp → Prop} (j : Jn h) (n : scN x3 h) (k : ∀ g, Jn g → Sk h g → GoI 10 mL_law 1729 (lwL x3) [] g Q) : GoI 10 mL_law 547 (lwL x3) [] h Q := by
  obtain ⟨γ, hc, hr, hv⟩ := j
  obtain ⟨Q1, C1, K1⟩ := tw_merit ((h.1 2000 ((x3 + (1 : Int32))).toNatClampNeg)) hc hr hv
  refine b_L_law_547 ⟨n 1 (by decide), Q1, C1, fun v h1 q => ?_⟩
  obtain ⟨s1, Q2, C2, K2⟩ := K1 v h1 q
  have n1 : scN x3 h1 := by
    unfold scN
    rw [s1.2]
    exact n
  rw [s1.1]
  refine ⟨n1 1 (by decide), Q2, C2, fun v2 h2 q2 => ?_⟩
  obtain ⟨e, j2, s2⟩ := K2 v2 h2 q2
  exact ⟨fun _ => k h2 j2 s2, fun c => absurd e.symm c⟩
theorem lw_514 {x3 : Int32} {h : Hp} {Q : Int32 → Hp → Prop} (j : Jn h) (n : scN x3 h) (k : ∀ g, Jn g → Sk h g → GoI 10 mL_law 1729 (lwL x3) [] g Q) : GoI 10 mL_law 514 (lwL x3) [] h Q := by
  obtain ⟨γ, hc, hr, hv⟩ := j
  obtain ⟨Q1, C1, K1⟩ := tw_age ((h.1 2000 ((x3 + (1 : Int32))).toNatClampNeg)) ((h.1 2000 ((x3 + (2 : Int32))).toNatClampNeg)) hc hr hv
  refine b_L_law_514 ⟨n 1 (by decide), n 2 (by decide), Q1, C1, fun v h1 q => ?_⟩
  obtain ⟨s1, Q2, C2, K2⟩ := K1 v h1 q
  have n1 : scN x3 h1 := by
    unfold scN
    rw [s1.2]
    exact n
  rw [s1.1]
  refine ⟨n1 1 (by decide), n1 2 (by decide), Q2, C2, fun v2 h2 q2 => ?_⟩
  obtain ⟨e, j2, s2⟩ := K2 v2 h2 q2
  exact ⟨fun _ => k h2 j2 s2, fun c => absurd e.symm c⟩
theorem lw_471 {x3 : Int32} {h : Hp} {Q : Int32 → Hp → Prop} (j : Jn h) (n : scN x3 h) (k : ∀ g, Jn g → Sk h g → GoI 10 mL_law 1729 (lwL x3) [] g Q) : GoI 10 mL_law 471 (lwL x3) [] h Q := by
  obtain ⟨γ, hc, hr, hv⟩ := j
  obtain ⟨Q1, C1, K1⟩ := tw_times ((h.1 2000 ((x3 + (1 : Int32))).toNatClampNeg)) ((h.1 2000 ((x3 + (2 : Int32))).toNatClampNeg)) ((h.1 2000 ((x3 + (3 : Int32))).toNatClampNeg)) hc hr hv
  refine b_L_law_471 ⟨n 1 (by decide), n 2 (by decide), n 3 (by decide), Q1, C1, fun v h1 q => ?_⟩
  obtain ⟨s1, Q2, C2, K2⟩ := K1 v h1 q
  have n1 : scN x3 h1 := by
    unfold scN
    rw [s1.2]
    exact n
  rw [s1.1]
  refine ⟨n1 1 (by decide), n1 2 (by decide), n1 3 (by decide), Q2, C2, fun v2 h2 q2 => ?_⟩
  obtain ⟨e, j2, s2⟩ := K2 v2 h2 q2
  exact ⟨fun _ => k h2 j2 s2, fun c => absurd e.symm c⟩
theorem lw_418 {x3 : Int32} {h : Hp} {Q : Int32 → Hp → Prop} (j : Jn h) (n : scN x3 h) (k : ∀ g, Jn g → Sk h g → GoI 10 mL_law 1729 (lwL x3) [] g Q) : GoI 10 mL_law 418 (lwL x3) [] h Q := by
  obtain ⟨γ, hc, hr, hv⟩ := j
  obtain ⟨Q1, C1, K1⟩ := tw_costs ((h.1 2000 ((x3 + (1 : Int32))).toNatClampNeg)) ((h.1 2000 ((x3 + (2 : Int32))).toNatClampNeg)) ((h.1 2000 ((x3 + (3 : Int32))).toNatClampNeg)) ((h.1 2000 ((x3 + (4 : Int32))).toNatClampNeg)) hc hr hv
  refine b_L_law_418 ⟨n 1 (by decide), n 2 (by decide), n 3 (by decide), n 4 (by decide), Q1, C1, fun v h1 q => ?_⟩
  obtain ⟨s1, Q2, C2, K2⟩ := K1 v h1 q
  have n1 : scN x3 h1 := by
    unfold scN
    rw [s1.2]
    exact n
  rw [s1.1]
  refine ⟨n1 1 (by decide), n1 2 (by decide), n1 3 (by decide), n1 4 (by decide), Q2, C2, fun v2 h2 q2 => ?_⟩
  obtain ⟨e, j2, s2⟩ := K2 v2 h2 q2
  exact ⟨fun _ => k h2 j2 s2, fun c => absurd e.symm c⟩
theorem lw_375 {x3 : Int32} {h : Hp} {Q : Int32 → Hp → Prop} (j : Jn h) (n : scN x3 h) (k : ∀ g, Jn g → Sk h g → GoI 10 mL_law 1729 (lwL x3) [] g Q) : GoI 10 mL_law 375 (lwL x3) [] h Q := by
  obtain ⟨γ, hc, hr, hv⟩ := j
  obtain ⟨Q1, C1, K1⟩ := tw_gives ((h.1 2000 ((x3 + (1 : Int32))).toNatClampNeg)) ((h.1 2000 ((x3 + (2 : Int32))).toNatClampNeg)) ((h.1 2000 ((x3 + (3 : Int32))).toNatClampNeg)) hc hr hv
  refine b_L_law_375 ⟨n 1 (by decide), n 2 (by decide), n 3 (by decide), Q1, C1, fun v h1 q => ?_⟩
  obtain ⟨s1, Q2, C2, K2⟩ := K1 v h1 q
  have n1 : scN x3 h1 := by
    unfold scN
    rw [s1.2]
    exact n
  rw [s1.1]
  refine ⟨n1 1 (by decide), n1 2 (by decide), n1 3 (by decide), Q2, C2, fun v2 h2 q2 => ?_⟩
  obtain ⟨e, j2, s2⟩ := K2 v2 h2 q2
  exact ⟨fun _ => k h2 j2 s2, fun c => absurd e.symm c⟩
theorem lw_342 {x3 : Int32} {h : Hp} {Q : Int32 → Hp → Prop} (j : Jn h) (n : scN x3 h) (k : ∀ g, Jn g → Sk h g → GoI 10 mL_law 1729 (lwL x3) [] g Q) : GoI 10 mL_law 342 (lwL x3) [] h Q := by
  obtain ⟨γ, hc, hr, hv⟩ := j
  obtain ⟨Q1, C1, K1⟩ := tw_plant ((h.1 2000 ((x3 + (1 : Int32))).toNatClampNeg)) ((h.1 2000 ((x3 + (2 : Int32))).toNatClampNeg)) hc hr hv
  refine b_L_law_342 ⟨n 1 (by decide), n 2 (by decide), Q1, C1, fun v h1 q => ?_⟩
  obtain ⟨s1, Q2, C2, K2⟩ := K1 v h1 q
  have n1 : scN x3 h1 := by
    unfold scN
    rw [s1.2]
    exact n
  rw [s1.1]
  refine ⟨n1 1 (by decide), n1 2 (by decide), Q2, C2, fun v2 h2 q2 => ?_⟩
  obtain ⟨e, j2, s2⟩ := K2 v2 h2 q2
  exact ⟨fun _ => k h2 j2 s2, fun c => absurd e.symm c⟩
theorem lw_299 {x3 : Int32} {h : Hp} {Q : Int32 → Hp → Prop} (j : Jn h) (n : scN x3 h) (k : ∀ g, Jn g → Sk h g → GoI 10 mL_law 1729 (lwL x3) [] g Q) : GoI 10 mL_law 299 (lwL x3) [] h Q := by
  obtain ⟨γ, hc, hr, hv⟩ := j
  obtain ⟨Q1, C1, K1⟩ := tw_demand ((h.1 2000 ((x3 + (1 : Int32))).toNatClampNeg)) ((h.1 2000 ((x3 + (2 : Int32))).toNatClampNeg)) ((h.1 2000 ((x3 + (3 : Int32))).toNatClampNeg)) hc hr hv
  refine b_L_law_299 ⟨n 1 (by decide), n 2 (by decide), n 3 (by decide), Q1, C1, fun v h1 q => ?_⟩
  obtain ⟨s1, Q2, C2, K2⟩ := K1 v h1 q
  have n1 : scN x3 h1 := by
    unfold scN
    rw [s1.2]
    exact n
  rw [s1.1]
  refine ⟨n1 1 (by decide), n1 2 (by decide), n1 3 (by decide), Q2, C2, fun v2 h2 q2 => ?_⟩
  obtain ⟨e, j2, s2⟩ := K2 v2 h2 q2
  exact ⟨fun _ => k h2 j2 s2, fun c => absurd e.symm c⟩
theorem lw_276 {x3 : Int32} {h : Hp} {Q : Int32 → Hp → Prop} (j : Jn h) (n : scN x3 h) (k : ∀ g, Jn g → Sk h g → GoI 10 mL_law 1729 (lwL x3) [] g Q) : GoI 10 mL_law 276 (lwL x3) [] h Q := by
  obtain ⟨γ, hc, hr, hv⟩ := j
  obtain ⟨Q1, C1, K1⟩ := tw_hours ((h.1 2000 ((x3 + (1 : Int32))).toNatClampNeg)) hc hr hv
  refine b_L_law_276 ⟨n 1 (by decide), Q1, C1, fun v h1 q => ?_⟩
  obtain ⟨s1, Q2, C2, K2⟩ := K1 v h1 q
  have n1 : scN x3 h1 := by
    unfold scN
    rw [s1.2]
    exact n
  rw [s1.1]
  refine ⟨n1 1 (by decide), Q2, C2, fun v2 h2 q2 => ?_⟩
  obtain ⟨e, j2, s2⟩ := K2 v2 h2 q2
  exact ⟨fun _ => k h2 j2 s2, fun c => absurd e.symm c⟩
theorem lw_263 {x3 : Int32} {h : Hp} {Q : Int32 → Hp → Prop} (j : Jn h) (n : scN x3 h) (k : ∀ g, Jn g → Sk h g → GoI 10 mL_law 1729 (lwL x3) [] g Q) : GoI 10 mL_law 263 (lwL x3) [] h Q := by
  obtain ⟨γ, hc, hr, hv⟩ := j
  obtain ⟨Q1, C1, K1⟩ := tw_tells  hc hr hv
  refine b_L_law_263 ⟨Q1, C1, fun v h1 q => ?_⟩
  obtain ⟨s1, Q2, C2, K2⟩ := K1 v h1 q
  have n1 : scN x3 h1 := by
    unfold scN
    rw [s1.2]
    exact n
  refine ⟨Q2, C2, fun v2 h2 q2 => ?_⟩
  obtain ⟨e, j2, s2⟩ := K2 v2 h2 q2
  exact ⟨fun _ => k h2 j2 s2, fun c => absurd e.symm c⟩
theorem lw_240 {x3 : Int32} {h : Hp} {Q : Int32 → Hp → Prop} (j : Jn h) (n : scN x3 h) (k : ∀ g, Jn g → Sk h g → GoI 10 mL_law 1729 (lwL x3) [] g Q) : GoI 10 mL_law 240 (lwL x3) [] h Q := by
  obtain ⟨γ, hc, hr, hv⟩ := j
  obtain ⟨Q1, C1, K1⟩ := tw_letter ((h.1 2000 ((x3 + (1 : Int32))).toNatClampNeg)) hc hr hv
  refine b_L_law_240 ⟨n 1 (by decide), Q1, C1, fun v h1 q => ?_⟩
  obtain ⟨s1, Q2, C2, K2⟩ := K1 v h1 q
  have n1 : scN x3 h1 := by
    unfold scN
    rw [s1.2]
    exact n
  rw [s1.1]
  refine ⟨n1 1 (by decide), Q2, C2, fun v2 h2 q2 => ?_⟩
  obtain ⟨e, j2, s2⟩ := K2 v2 h2 q2
  exact ⟨fun _ => k h2 j2 s2, fun c => absurd e.symm c⟩
