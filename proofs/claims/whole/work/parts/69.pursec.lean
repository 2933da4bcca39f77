/-! ===== the class: the purse ===== -/
theorem l_neg {x : Int64} : x < 0 ↔ x.toInt < 0 := by
  rw [Int64.lt_iff_toInt_lt]
  exact Iff.rfl
theorem l_msb (x : Int64) : x.toBitVec.msb = decide (x < 0) := by
  rw [BitVec.msb_eq_toInt, Int64.toInt_toBitVec]
  exact decide_eq_decide.mpr l_neg.symm
theorem l_xor {a b : Int64} : a ^^^ b < 0 ↔ ¬ (a < 0 ↔ b < 0) := by
  have h := l_msb (a ^^^ b)
  rw [Int64.toBitVec_xor, BitVec.msb_xor, l_msb, l_msb] at h
  by_cases ha : a < 0 <;> by_cases hb : b < 0 <;> simp [ha, hb] at h ⊢ <;> exact h
theorem l_and {a b : Int64} : a &&& b < 0 ↔ (a < 0 ∧ b < 0) := by
  have h := l_msb (a &&& b)
  rw [Int64.toBitVec_and, BitVec.msb_and, l_msb, l_msb] at h
  by_cases ha : a < 0 <;> by_cases hb : b < 0 <;> simp [ha, hb] at h ⊢ <;> exact h
theorem l_add (a b : Int64) : (a + b).toInt = a.toInt + b.toInt ∨ (a + b).toInt = a.toInt + b.toInt - 2 ^ 64 ∧ 2 ^ 63 ≤ a.toInt + b.toInt ∨ (a + b).toInt = a.toInt + b.toInt + 2 ^ 64 ∧ a.toInt + b.toInt < - 2 ^ 63 := by
  have a1 := Int64.le_toInt a
  have a2 := Int64.toInt_lt a
  have b1 := Int64.le_toInt b
  have b2 := Int64.toInt_lt b
  rw [Int64.toInt_add, Int.bmod_def]
  split <;> omega
theorem coB_d (p v : Int64) : coB p v = decide ((0 < v.toInt ∧ (p + v).toInt < p.toInt) ∨ (v.toInt < 0 ∧ p.toInt < (p + v).toInt)) := by
  have z : (0 : Int64).toInt = 0 := by decide
  have c1 : (¬ lg_cmp v 0 ≤ 0 ∧ lg_cmp (p + v) p < 0) ↔ (0 < v.toInt ∧ (p + v).toInt < p.toInt) := by
    rw [lg_cmp_le, lg_cmp_lt, Int64.le_iff_toInt_le, Int64.lt_iff_toInt_lt, z]
    omega
  have c2 : (¬ 0 ≤ lg_cmp v 0 ∧ ¬ lg_cmp (p + v) p ≤ 0) ↔ (v.toInt < 0 ∧ p.toInt < (p + v).toInt) := by
    rw [lg_cmp_ge, lg_cmp_le, Int64.le_iff_toInt_le, Int64.le_iff_toInt_le, z]
    omega
  unfold coB
  by_cases y1 : 0 < v.toInt ∧ (p + v).toInt < p.toInt
  · rw [if_pos (c1.mpr y1)]
    exact (decide_eq_true (Or.inl y1)).symm
  · rw [if_neg (fun w => y1 (c1.mp w))]
    by_cases y2 : v.toInt < 0 ∧ p.toInt < (p + v).toInt
    · rw [if_pos (c2.mpr y2)]
      exact (decide_eq_true (Or.inr y2)).symm
    · rw [if_neg (fun w => y2 (c2.mp w))]
      exact (decide_eq_false (fun w => w.elim y1 y2)).symm
/-- signs that turn -/
theorem tu_pay (p m : Int64) : (0 ≤ lg_cmp ((p ^^^ (p + m)) &&& (m ^^^ (p + m))) 0) ↔ coB p m = false := by
  have a1 := Int64.le_toInt p
  have a2 := Int64.toInt_lt p
  have b1 := Int64.le_toInt m
  have b2 := Int64.toInt_lt m
  have c := l_add p m
  rw [lg_cmp_ge, coB_d, decide_eq_false_iff_not]
  have e : ((p ^^^ (p + m)) &&& (m ^^^ (p + m)) < 0) ↔ (0 < m.toInt ∧ (p + m).toInt < p.toInt ∨ m.toInt < 0 ∧ p.toInt < (p + m).toInt) := by
    rw [l_and, l_xor, l_xor, l_neg, l_neg, l_neg]
    omega
  rw [← e]
  exact ⟨fun w => Int64.not_lt.mpr w, fun w => Int64.not_lt.mp w⟩
theorem lN_b {n c : Int32} : (n.toInt64 * c.toInt64).toInt = n.toInt * c.toInt := by
  have a1 := Int32.le_toInt n
  have a2 := Int32.toInt_lt n
  have b1 := Int32.le_toInt c
  have b2 := Int32.toInt_lt c
  rw [Int64.toInt_mul, Int32.toInt_toInt64, Int32.toInt_toInt64]
  have h : n.toInt * c.toInt ≤ 2 ^ 31 * 2 ^ 31 ∧ -(2 ^ 31 * 2 ^ 31) ≤ n.toInt * c.toInt := by
    have h1 : (n.toInt * c.toInt).natAbs ≤ 2 ^ 31 * 2 ^ 31 := by
      rw [Int.natAbs_mul]
      exact Nat.mul_le_mul (by omega) (by omega)
    omega
  rw [Int.bmod_def]
  split <;> omega
theorem l_sub (a b : Int64) : a - b = a + -b := Int64.sub_eq_add_neg a b
theorem l_ngs {d : Int64} (h : ¬ d.toInt = -2 ^ 63) : (-d).toInt = -d.toInt := by
  have b1 := Int64.le_toInt d
  have b2 := Int64.toInt_lt d
  rw [Int64.toInt_neg, Int.bmod_def]
  split <;> omega
theorem tu_bill (p : Int64) (n c : Int32) : (0 ≤ lg_cmp ((p ^^^ (n.toInt64 * c.toInt64)) &&& (p ^^^ (p - n.toInt64 * c.toInt64))) 0) ↔ coB p (-(c.toInt64 * n.toInt64)) = false := by
  have a1 := Int64.le_toInt p
  have a2 := Int64.toInt_lt p
  have n1 := Int32.le_toInt n
  have n2 := Int32.toInt_lt n
  have c1 := Int32.le_toInt c
  have c2 := Int32.toInt_lt c
  have hb : n.toInt * c.toInt ≤ 2 ^ 31 * 2 ^ 31 ∧ -(2 ^ 31 * 2 ^ 31) ≤ n.toInt * c.toInt := by
    have h1 : (n.toInt * c.toInt).natAbs ≤ 2 ^ 31 * 2 ^ 31 := by
      rw [Int.natAbs_mul]
      exact Nat.mul_le_mul (by omega) (by omega)
    omega
  have ed : (n.toInt64 * c.toInt64).toInt = n.toInt * c.toInt := lN_b
  rw [Int64.mul_comm c.toInt64 n.toInt64, l_sub]
  generalize n.toInt64 * c.toInt64 = d at *
  rw [← ed] at hb
  have nd : (-d).toInt = -d.toInt := l_ngs (by omega)
  have ca := l_add p (-d)
  rw [lg_cmp_ge, coB_d, decide_eq_false_iff_not]
  have e : ((p ^^^ d) &&& (p ^^^ (p + -d)) < 0) ↔ (0 < (-d).toInt ∧ (p + -d).toInt < p.toInt ∨ (-d).toInt < 0 ∧ p.toInt < (p + -d).toInt) := by
    rw [l_and, l_xor, l_xor, l_neg, l_neg, l_neg]
    omega
  rw [← e]
  exact ⟨fun w => Int64.not_lt.mpr w, fun w => Int64.not_lt.mp w⟩
theorem l_m1 (n : Int64) : n * (-1) / (-1) = n := by
  have b1 := Int64.le_toInt n
  have b2 := Int64.toInt_lt n
  have e1 : (-1 : Int64).toInt = -1 := by decide
  apply Int64.toInt_inj.mp
  rw [Int64.toInt_div, Int64.toInt_mul, e1, Int.tdiv_neg, Int.tdiv_one, Int.mul_neg_one, Int.bmod_def, Int.bmod_def]
  split <;> split <;> omega
/-- whether a product is over -/
theorem pr_over (n v : Int64) : ovB n v = (if v = 0 then false else if v = -1 then decide (n = -9223372036854775808) else decide (¬ n * v / v = n)) := by
  unfold ovB
  simp only [lg_cmp_eq]
  by_cases v0 : v = 0
  · rw [if_pos v0, if_pos v0]
    split <;> rfl
  · rw [if_neg v0, if_neg v0]
    by_cases v1 : v = -1
    · rw [if_pos v1]
      have nm : ¬ v = -9223372036854775808 := by rw [v1]; decide
      by_cases n0 : n = 0
      · rw [if_pos n0, n0]
        decide
      · rw [if_neg n0, if_neg (fun w => nm w.2)]
        by_cases nmn : n = -9223372036854775808
        · rw [if_pos ⟨v1, nmn⟩, decide_eq_true nmn]
        · rw [if_neg (fun w => nmn w.2), decide_eq_false nmn, v1, l_m1, decide_eq_true rfl]
          rfl
    · rw [if_neg v1]
      by_cases n0 : n = 0
      · rw [if_pos n0, n0, Int64.zero_mul, Int64.zero_div, decide_eq_false (fun w => w rfl)]
      · rw [if_neg n0]
        by_cases n1 : n = -1 ∧ v = -9223372036854775808
        · rw [if_pos n1, n1.1, n1.2]
          decide +kernel
        · rw [if_neg n1, if_neg (fun w => v1 w.1)]
          by_cases e : n * v / v = n
          · rw [decide_eq_true e, decide_eq_false (fun w => w e)]
            rfl
          · rw [decide_eq_false e, decide_eq_true e]
            rfl
theorem ct_productIsOver (n v : Int64) (h : Hp) : CtI 0 mX10_productIsOver [.long n, .long v] h (pq (bI (ovB n v)) h) := by
  refine e_X10_productIsOver ?_
  rw [pr_over]
  simp only [lg_cmp_eq]
  refine ⟨fun c => ⟨fun c2 => ⟨c, ?_, rfl⟩, fun c2 => ⟨?_, rfl⟩⟩, fun c => ⟨?_, rfl⟩⟩
  · rw [if_neg c, if_neg c2]
    by_cases e : n * v / v = n
    · rw [if_pos e, decide_eq_false (fun w => w e)]
      rfl
    · rw [if_neg e, decide_eq_true e]
      rfl
  · rw [if_neg c, if_pos c2]
    by_cases e : n = -9223372036854775808
    · rw [if_pos e, decide_eq_true e]
      rfl
    · rw [if_neg e, decide_eq_false e]
      rfl
  · rw [if_pos c]
    rfl
theorem ct_paysC (n v : Int64) (h : Hp) : CtI 1 mX10_pays [.ref 0, .long n, .long v] h (fun x g => x = (if paB (h.2 1 8) n v then -7 else 1) ∧ g = if paB (h.2 1 8) n v then h else ul h 1 8 (h.2 1 8 + n * v)) := by
  refine e_X10_pays (pc (ct_productIsOver n v h) ⟨fun c => ?_, fun c => ?_⟩)
  · have e : paB (h.2 1 8) n v = coB (h.2 1 8) (n * v) := by rw [paB, bI_0.mp c, Bool.false_or]
    rw [e, tu_pay]
    refine ⟨fun c2 g6 e6 => ?_, fun c2 => ?_⟩
    · rw [c2]
      exact ⟨rfl, e6⟩
    · have c3 : coB (h.2 1 8) (n * v) = true := by
        cases y : coB (h.2 1 8) (n * v)
        · exact absurd y c2
        · rfl
      rw [c3]
      exact ⟨rfl, rfl⟩
  · have e : paB (h.2 1 8) n v = true := by rw [paB, bI_t c, Bool.true_or]
    rw [e]
    exact ⟨rfl, rfl⟩
theorem ct_purseC (h : Hp) : CtL 0 mX10_purse [.ref 0] h (fun v g => v = h.2 1 8 ∧ g = h) := e_X10_purse ⟨rfl, rfl⟩
theorem ct_billsC (n : Int32) (h : Hp) (s : Nat → Int32) (k : kI s h) : CtI 6 mX10_bills [.ref 0, .int n] h (fun x g => ∃ h4 : Hp, frC h h4 ∧ (beV s 0 = -9 → x = -3 ∧ g = noC h4 3) ∧ (¬ beV s 0 = -9 → x = (if coB (h.2 1 8) (biV s n) then -7 else 1) ∧ g = if coB (h.2 1 8) (biV s n) then h4 else ul h4 1 8 (h.2 1 8 + biV s n))) := by
  refine e_X10_bills ⟨_, ct_solveAsIs h s k, fun v h4 q => ?_⟩
  obtain ⟨q1, q2, q3, -⟩ := q
  have sg := sgn q3
  have e2 : h4.2 1 8 = h.2 1 8 := by rw [q2.1.2]
  refine ⟨fun c => ?_, fun c => ⟨_, ct_refuse isW_3 (by decide) h4, fun x g r => ⟨h4, q2, fun _ => r, fun c2 => ?_⟩⟩⟩
  · have n9 := sg.1.mp c
    rw [e2, q1, tu_bill]
    rw [q1] at n9
    have es : h.2 1 8 - n.toInt64 * (beV s 0).toInt64 = h.2 1 8 + biV s n := by
      rw [biV, l_sub, Int64.mul_comm]
    refine ⟨fun c2 g6 e6 => ⟨h4, q2, fun y => absurd y n9, fun _ => ?_⟩, fun c2 => ⟨h4, q2, fun y => absurd y n9, fun _ => ?_⟩⟩
    · rw [show coB (h.2 1 8) (biV s n) = false from c2]
      rw [es] at e6
      exact ⟨rfl, e6⟩
    · have c3 : coB (h.2 1 8) (biV s n) = true := by
        cases y : coB (h.2 1 8) (biV s n)
        · exact absurd y c2
        · rfl
      rw [c3]
      exact ⟨rfl, rfl⟩
  · rw [← q1] at c2
    exact absurd (Classical.byContradiction fun y => c (sg.1.mpr y)) c2
