/-! ===== floats of 32 bits: exact steps ===== -/
theorem f_b32 : FP.Core.b32.tails = 8388608 ∧ FP.Core.b32.exps = 256 ∧ FP.Core.b32.qmin = -149 ∧ FP.Core.b32.qmax = 104 ∧ 2 ^ FP.Core.b32.p = 16777216 ∧ (FP.Core.b32.p : Int) - 1 = 23 := by decide
/-- the bits of a number of exponent E, digits T -/
def mkN (E T : Nat) : Nat := E * 8388608 + T
theorem f_dec {E T : Nat} (h1 : 1 ≤ E) (h2 : E ≤ 254) (hT : T < 8388608) : FP.Core.decode FP.Core.b32 (mkN E T) = .fin false (8388608 + T) ((E : Int) - 150) := by
  obtain ⟨t1, t2, t3, -⟩ := f_b32
  have e1 : mkN E T / 8388608 = E := by unfold mkN; omega
  have e2 : mkN E T % 8388608 = T := by unfold mkN; omega
  have e3 : E % 256 = E := by omega
  have e4 : E / 256 = 0 := by omega
  unfold FP.Core.decode FP.Core.fieldT FP.Core.fieldE FP.Core.fieldS
  rw [t1, t2, t3, e1, e2, e3, e4, if_neg (by omega), if_neg (by omega)]
  congr 1
  omega
theorem f_dec0 : FP.Core.decode FP.Core.b32 0 = .fin false 0 (-149) := by decide
theorem f_enc {c T : Nat} {q : Int} {E : Nat} (hT : T < 8388608) (hc : c = 8388608 + T) (h1 : 1 ≤ E) (hq : q = (E : Int) - 150) : FP.Core.encode FP.Core.b32 (.fin false c q) = mkN E T := by
  obtain ⟨t1, t2, t3, -⟩ := f_b32
  subst hc
  subst hq
  unfold FP.Core.encode
  simp only
  rw [t1, t3, if_neg (by omega)]
  unfold FP.Core.assemble mkN
  rw [t1, t2]
  have e1 : ((E : Int) - 150 - -149).toNat + 1 = E := by omega
  have e2 : 8388608 + T - 8388608 = T := by omega
  rw [e1, e2]
  simp
theorem f_enc0 : FP.Core.encode FP.Core.b32 (.fin false 0 (-149)) = 0 := by decide
/-- where the first digit stands -/
theorem lg_sp {n k : Nat} (h1 : 2 ^ k ≤ n) (h2 : n < 2 ^ (k + 1)) : n.log2 = k := by
  have n0 : n ≠ 0 := by
    have := Nat.two_pow_pos k
    omega
  have a := (Nat.le_log2 n0).mpr h1
  have b := (Nat.log2_lt n0).mpr h2
  omega
theorem lg_ex {n : Nat} (h : 0 < n) : 2 ^ n.log2 ≤ n ∧ n < 2 ^ (n.log2 + 1) := by
  have n0 : n ≠ 0 := by omega
  exact ⟨(Nat.le_log2 n0).mp (Nat.le_refl _), (Nat.log2_lt n0).mp (by omega)⟩
theorem f_lead {n k : Nat} (h1 : 2 ^ k ≤ n) (h2 : n < 2 ^ (k + 1)) : FP.Core.leading n 1 = k := by
  have l1 : Nat.log2 1 = 0 := by decide
  unfold FP.Core.leading
  rw [lg_sp h1 h2, l1]
  have e0 : (k : Int) - ((0 : Nat) : Int) = (k : Int) := by omega
  have e2 : (-(k : Int)).toNat = 0 := by omega
  simp only [e0, e2, Int.toNat_natCast]
  rw [if_pos (by omega)]
theorem f_lead2 {c d : Nat} (c1 : 8388608 ≤ c) (c2 : c < 16777216) (d1 : 8388608 ≤ d) (d2 : d < 16777216) : FP.Core.leading c d = if d ≤ c then 0 else -1 := by
  have l1 : c.log2 = 23 := lg_sp (k := 23) (by omega) (by omega)
  have l2 : d.log2 = 23 := lg_sp (k := 23) (by omega) (by omega)
  unfold FP.Core.leading
  rw [l1, l2]
  have e0 : ((23 : Nat) : Int) - ((23 : Nat) : Int) = 0 := by omega
  have e1 : (0 : Int).toNat = 0 := by decide
  have e2 : (-(0 : Int)).toNat = 0 := by decide
  simp only [e0, e1, e2, Nat.pow_zero, Nat.mul_one]
  rfl
theorem f_near_b {N D M M' : Nat} (hD : 0 < D) (h1 : M * D ≤ N) (h2 : N < M' * D) : M ≤ FP.Core.nearest N D ∧ FP.Core.nearest N D ≤ M' := by
  have a := (Nat.le_div_iff_mul_le hD).mpr h1
  have b := (Nat.div_lt_iff_lt_mul hD).mpr h2
  unfold FP.Core.nearest
  split
  · omega
  · split
    · omega
    · omega
theorem f_near_e {c D : Nat} (hD : 0 < D) : FP.Core.nearest (c * D) D = c := by
  unfold FP.Core.nearest
  rw [Nat.mul_mod_left, Nat.mul_div_cancel _ hD, if_pos (by omega)]
/-- rounded with 24 digits -/
theorem f_settle {c : Nat} {q : Int} (c1 : 8388608 ≤ c) (c2 : c ≤ 16777216) (q1 : -149 ≤ q) (q2 : q ≤ 103) : ∃ E T : Nat, T < 8388608 ∧ ((E : Int) = q + 150 ∨ (E : Int) = q + 151) ∧ FP.Core.encode FP.Core.b32 (FP.Core.settle FP.Core.b32 false c q) = mkN E T ∧ (c < 16777216 → (E : Int) = q + 150 ∧ T = c - 8388608) := by
  obtain ⟨t1, t2, t3, t4, t5, -⟩ := f_b32
  unfold FP.Core.settle FP.Core.bound
  rw [t5, t4, t1]
  by_cases y : c < 16777216
  · rw [if_pos y, if_pos (by omega)]
    refine ⟨(q + 150).toNat, c - 8388608, by omega, Or.inl (by omega), ?_, fun _ => ⟨by omega, rfl⟩⟩
    exact f_enc (by omega) (by omega) (by omega) (by omega)
  · rw [if_neg y, if_pos (by omega)]
    refine ⟨(q + 151).toNat, 0, by omega, Or.inr (by omega), ?_, fun z => absurd z y⟩
    exact f_enc (by omega) (by omega) (by omega) (by omega)
theorem f_quant {num den : Nat} {e : Int} (h : -126 ≤ FP.Core.leading num den + e) : FP.Core.quantum FP.Core.b32 num den e = FP.Core.leading num den + e - 23 := by
  obtain ⟨-, -, t3, -, -, t6⟩ := f_b32
  unfold FP.Core.quantum
  rw [t3, t6]
  omega
/-- a whole number at an exponent, rounded -/
theorem f_rr1 {n k : Nat} {e : Int} (h1 : 2 ^ k ≤ n) (h2 : n < 2 ^ (k + 1)) (l1 : -126 ≤ (k : Int) + e) (l2 : (k : Int) + e ≤ 126) : ∃ E T : Nat, T < 8388608 ∧ ((E : Int) = k + e + 127 ∨ (E : Int) = k + e + 128) ∧ FP.Core.encode FP.Core.b32 (FP.Core.roundRatio FP.Core.b32 false n 1 e) = mkN E T := by
  have n0 : n ≠ 0 := by
    have := Nat.two_pow_pos k
    omega
  have ld := f_lead h1 h2
  have qq := f_quant (num := n) (den := 1) (e := e) (by rw [ld]; exact l1)
  unfold FP.Core.roundRatio FP.Core.roundAt
  rw [if_neg n0, qq, ld]
  unfold FP.Core.unitsNum FP.Core.unitsDen
  by_cases y : k ≤ 23
  · have e1 : (e - ((k : Int) + e - 23)).toNat = 23 - k := by omega
    have e2 : ((k : Int) + e - 23 - e).toNat = 0 := by omega
    rw [e1, e2]
    have p1 : 2 ^ k * 2 ^ (23 - k) = 8388608 := by
      rw [← Nat.pow_add, show k + (23 - k) = 23 by omega]
    have p2 : 2 ^ (k + 1) * 2 ^ (23 - k) = 16777216 := by
      rw [← Nat.pow_add, show k + 1 + (23 - k) = 24 by omega]
    have pp := Nat.two_pow_pos (23 - k)
    have b1 : 8388608 ≤ n * 2 ^ (23 - k) := by
      rw [← p1]
      exact Nat.mul_le_mul_right _ h1
    have b2 : n * 2 ^ (23 - k) < 16777216 := by
      rw [← p2]
      exact Nat.mul_lt_mul_of_pos_right h2 pp
    obtain ⟨a1, a2⟩ := f_near_b (N := n * 2 ^ (23 - k)) (D := 1 * 2 ^ 0) (M := 8388608) (M' := 16777216) (by decide) (by omega) (by omega)
    obtain ⟨E, T, s1, s2, s3, -⟩ := f_settle (q := (k : Int) + e - 23) a1 a2 (by omega) (by omega)
    exact ⟨E, T, s1, by omega, s3⟩
  · have e1 : (e - ((k : Int) + e - 23)).toNat = 0 := by omega
    have e2 : ((k : Int) + e - 23 - e).toNat = k - 23 := by omega
    rw [e1, e2]
    have p1 : 8388608 * 2 ^ (k - 23) = 2 ^ k := by
      rw [show (8388608 : Nat) = 2 ^ 23 from rfl, ← Nat.pow_add, show 23 + (k - 23) = k by omega]
    have p2 : 16777216 * 2 ^ (k - 23) = 2 ^ (k + 1) := by
      rw [show (16777216 : Nat) = 2 ^ 24 from rfl, ← Nat.pow_add, show 24 + (k - 23) = k + 1 by omega]
    have pp := Nat.two_pow_pos (k - 23)
    obtain ⟨a1, a2⟩ := f_near_b (N := n * 2 ^ 0) (D := 1 * 2 ^ (k - 23)) (M := 8388608) (M' := 16777216) (by omega) (by omega) (by omega)
    obtain ⟨E, T, s1, s2, s3, -⟩ := f_settle (q := (k : Int) + e - 23) a1 a2 (by omega) (by omega)
    exact ⟨E, T, s1, by omega, s3⟩
/-- a ratio of two of 24 digits, rounded -/
theorem f_rr2 {c d : Nat} {e : Int} (c1 : 8388608 ≤ c) (c2 : c < 16777216) (d1 : 8388608 ≤ d) (d2 : d < 16777216) (l1 : -125 ≤ e) (l2 : e ≤ 126) : ∃ E T : Nat, T < 8388608 ∧ (e + 126 ≤ (E : Int) ∧ (E : Int) ≤ e + 128) ∧ FP.Core.encode FP.Core.b32 (FP.Core.roundRatio FP.Core.b32 false c d e) = mkN E T := by
  have ld := f_lead2 c1 c2 d1 d2
  unfold FP.Core.roundRatio FP.Core.roundAt
  by_cases y : d ≤ c
  · rw [if_pos y] at ld
    have qq := f_quant (num := c) (den := d) (e := e) (by rw [ld]; omega)
    rw [if_neg (by omega), qq, ld]
    unfold FP.Core.unitsNum FP.Core.unitsDen
    have e1 : (e - ((0 : Int) + e - 23)).toNat = 23 := by omega
    have e2 : ((0 : Int) + e - 23 - e).toNat = 0 := by omega
    rw [e1, e2]
    obtain ⟨a1, a2⟩ := f_near_b (N := c * 2 ^ 23) (D := d * 2 ^ 0) (M := 8388608) (M' := 16777216) (by omega) (by omega) (by omega)
    obtain ⟨E, T, s1, s2, s3, -⟩ := f_settle (q := (0 : Int) + e - 23) a1 a2 (by omega) (by omega)
    exact ⟨E, T, s1, by omega, s3⟩
  · rw [if_neg y] at ld
    have qq := f_quant (num := c) (den := d) (e := e) (by rw [ld]; omega)
    rw [if_neg (by omega), qq, ld]
    unfold FP.Core.unitsNum FP.Core.unitsDen
    have e1 : (e - ((-1 : Int) + e - 23)).toNat = 24 := by omega
    have e2 : ((-1 : Int) + e - 23 - e).toNat = 0 := by omega
    rw [e1, e2]
    obtain ⟨a1, a2⟩ := f_near_b (N := c * 2 ^ 24) (D := d * 2 ^ 0) (M := 8388608) (M' := 16777216) (by omega) (by omega) (by omega)
    obtain ⟨E, T, s1, s2, s3, -⟩ := f_settle (q := (-1 : Int) + e - 23) a1 a2 (by omega) (by omega)
    exact ⟨E, T, s1, by omega, s3⟩
/-! on bits -/
def mkF (E T : Nat) : UInt32 := UInt32.ofNat (mkN E T)
theorem mkF_n {E T : Nat} (h2 : E ≤ 255) (hT : T < 8388608) : (mkF E T).toNat = mkN E T := by
  unfold mkF
  rw [UInt32.toNat_ofNat']
  unfold mkN
  omega
/-- 0 or a number of exponent from a to b -/
def isF (a b : Nat) (x : UInt32) : Prop := x = 0 ∨ ∃ E T : Nat, a ≤ E ∧ E ≤ b ∧ T < 8388608 ∧ x = mkF E T
theorem f_half {E T F : Nat} (hF1 : 1 ≤ F) (hF2 : F ≤ 254) (h1 : 1 ≤ E) (h2 : E ≤ 254) (hT : T < 8388608) (l1 : 128 ≤ E + F) (l2 : E + F ≤ 380) : FP.fmul (mkF E T) (mkF F 0) = mkF (E + F - 127) T := by
  show UInt32.ofNat (FP.Core.mul FP.Core.b32 (mkF E T).toNat (mkF F 0).toNat) = UInt32.ofNat (mkN (E + F - 127) T)
  congr 1
  rw [mkF_n (by omega) hT, mkF_n (by omega) (by decide)]
  unfold FP.Core.mul
  rw [f_dec h1 h2 hT, f_dec hF1 hF2 (by decide)]
  unfold FP.Core.exactProduct FP.Core.round
  simp only [bne_self_eq_false, Nat.add_zero]
  have b1 : 2 ^ 46 ≤ (8388608 + T) * 8388608 := by omega
  have b2 : (8388608 + T) * 8388608 < 2 ^ (46 + 1) := by omega
  have ld := f_lead b1 b2
  have qq := f_quant (num := (8388608 + T) * 8388608) (den := 1) (e := (E : Int) - 150 + ((F : Int) - 150)) (by rw [ld]; omega)
  unfold FP.Core.roundRatio FP.Core.roundAt
  rw [if_neg (by omega), qq, ld]
  unfold FP.Core.unitsNum FP.Core.unitsDen
  have e1 : ((E : Int) - 150 + ((F : Int) - 150) - (((46 : Nat) : Int) + ((E : Int) - 150 + ((F : Int) - 150)) - 23)).toNat = 0 := by omega
  have e2 : (((46 : Nat) : Int) + ((E : Int) - 150 + ((F : Int) - 150)) - 23 - ((E : Int) - 150 + ((F : Int) - 150))).toNat = 23 := by omega
  rw [e1, e2]
  have e3 : FP.Core.nearest ((8388608 + T) * 8388608 * 2 ^ 0) (1 * 2 ^ 23) = 8388608 + T := by
    rw [Nat.pow_zero, Nat.mul_one, Nat.one_mul, show (2 : Nat) ^ 23 = 8388608 from rfl]
    exact f_near_e (by decide)
  rw [e3]
  obtain ⟨E', T', s1, s2, s3, s4⟩ := f_settle (c := 8388608 + T) (q := ((46 : Nat) : Int) + ((E : Int) - 150 + ((F : Int) - 150)) - 23) (by omega) (by omega) (by omega) (by omega)
  obtain ⟨s5, s6⟩ := s4 (by omega)
  rw [s3]
  have : E' = E + F - 127 := by omega
  rw [this, s6, Nat.add_sub_cancel_left]
theorem f_mul0 {F : Nat} (hF1 : 1 ≤ F) (hF2 : F ≤ 254) : FP.fmul 0 (mkF F 0) = 0 := by
  show UInt32.ofNat (FP.Core.mul FP.Core.b32 (0 : UInt32).toNat (mkF F 0).toNat) = 0
  rw [mkF_n (by omega) (by decide), show (0 : UInt32).toNat = 0 from rfl]
  unfold FP.Core.mul
  rw [f_dec0, f_dec hF1 hF2 (by decide)]
  unfold FP.Core.exactProduct FP.Core.round
  simp only [bne_self_eq_false, Nat.zero_mul]
  unfold FP.Core.roundRatio
  rw [if_pos rfl, f_b32.2.2.1, f_enc0]
  rfl
theorem f_div {E T F S : Nat} (h1 : 1 ≤ E) (h2 : E ≤ 254) (hT : T < 8388608) (hF1 : 1 ≤ F) (hF2 : F ≤ 254) (hS : S < 8388608) (l1 : F ≤ E + 125) (l2 : E ≤ F + 126) : isF (E + 126 - F) (E + 128 - F) (FP.fdiv (mkF E T) (mkF F S)) := by
  right
  have e0 : FP.fdiv (mkF E T) (mkF F S) = UInt32.ofNat (FP.Core.div FP.Core.b32 (mkF E T).toNat (mkF F S).toNat) := rfl
  rw [mkF_n (by omega) hT, mkF_n (by omega) hS] at e0
  unfold FP.Core.div at e0
  rw [f_dec h1 h2 hT, f_dec hF1 hF2 hS] at e0
  unfold FP.Core.quotient at e0
  simp only [bne_self_eq_false] at e0
  rw [if_neg (by omega)] at e0
  obtain ⟨E', T', s1, s2, s3⟩ := f_rr2 (c := 8388608 + T) (d := 8388608 + S) (e := (E : Int) - 150 - ((F : Int) - 150)) (by omega) (by omega) (by omega) (by omega) (by omega) (by omega)
  rw [s3] at e0
  exact ⟨E', T', by omega, by omega, s1, e0⟩
theorem f_i2f {n : Nat} (hn : n < 1048576) : (n = 0 → FP.i2f (nI n) = 0) ∧ (0 < n → isF 127 148 (FP.i2f (nI n))) := by
  have e0 : FP.i2f (nI n) = UInt32.ofNat (FP.Core.fromInt FP.Core.b32 (nI n).toInt) := rfl
  rw [nI_toInt (by omega)] at e0
  unfold FP.Core.fromInt FP.Core.ofInt FP.Core.round at e0
  simp only [Int.natAbs_natCast] at e0
  have s0 : decide ((n : Int) < 0) = false := decide_eq_false (by omega)
  rw [s0] at e0
  refine ⟨fun z => ?_, fun z => ?_⟩
  · subst z
    rw [e0]
    unfold FP.Core.roundRatio
    rw [if_pos rfl, f_b32.2.2.1, f_enc0]
    rfl
  · obtain ⟨a1, a2⟩ := lg_ex z
    have kl : n.log2 < 20 := (Nat.log2_lt (by omega)).mpr (by omega)
    obtain ⟨E, T, s1, s2, s3⟩ := f_rr1 (e := 0) a1 a2 (by omega) (by omega)
    rw [s3] at e0
    exact Or.inr ⟨E, T, by omega, by omega, s1, e0⟩
