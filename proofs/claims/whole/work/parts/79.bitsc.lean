/-! ===== floats: sums, order, whole numbers; their bits ===== -/
theorem f_sum {c d : Nat} {q r m : Int} {k : Nat} (hm : m = min q r) (h1 : 2 ^ k ≤ c * 2 ^ (q - m).toNat + d * 2 ^ (r - m).toNat) (h2 : c * 2 ^ (q - m).toNat + d * 2 ^ (r - m).toNat < 2 ^ (k + 1)) (l1 : -126 ≤ (k : Int) + m) (l2 : (k : Int) + m ≤ 126) : ∃ E T : Nat, T < 8388608 ∧ ((E : Int) = k + m + 127 ∨ (E : Int) = k + m + 128) ∧ FP.Core.encode FP.Core.b32 (FP.Core.round FP.Core.b32 (FP.Core.exactSum (.fin false c q) (.fin false d r))) = mkN E T := by
  have pp := Nat.two_pow_pos k
  have e1 : FP.Core.sumUnits false c q false d r (min q r) = ((c * 2 ^ (q - m).toNat + d * 2 ^ (r - m).toNat : Nat) : Int) := by
    unfold FP.Core.sumUnits FP.Core.signed FP.Core.inUnits
    rw [← hm]
    simp
  have e2 : FP.Core.sumSign false false ((c * 2 ^ (q - m).toNat + d * 2 ^ (r - m).toNat : Nat) : Int) = false := by
    unfold FP.Core.sumSign
    rw [if_neg (by omega)]
    exact decide_eq_false (by omega)
  unfold FP.Core.exactSum FP.Core.round
  simp only
  rw [e1, e2, Int.natAbs_natCast, ← hm]
  exact f_rr1 h1 h2 l1 l2
theorem f_pw {n k a b : Nat} (h1 : 2 ^ a ≤ n) (h2 : n < 2 ^ b) (k1 : 2 ^ k ≤ n) (k2 : n < 2 ^ (k + 1)) : a ≤ k ∧ k < b := by
  have x1 : 2 ^ a < 2 ^ (k + 1) := Nat.lt_of_le_of_lt h1 k2
  have x2 : 2 ^ k < 2 ^ b := Nat.lt_of_le_of_lt k1 h2
  have y1 := (Nat.pow_lt_pow_iff_right (by decide : 1 < 2)).mp x1
  have y2 := (Nat.pow_lt_pow_iff_right (by decide : 1 < 2)).mp x2
  omega
theorem f_units {c D : Nat} (c1 : 8388608 ≤ c) (c2 : c < 16777216) : 2 ^ (23 + D) ≤ c * 2 ^ D ∧ c * 2 ^ D < 2 ^ (24 + D) := by
  have pp := Nat.two_pow_pos D
  rw [Nat.pow_add, Nat.pow_add]
  exact ⟨Nat.mul_le_mul_right _ c1, Nat.mul_lt_mul_of_pos_right c2 pp⟩
theorem f_addn {E T F S : Nat} (h1 : 1 ≤ E) (h2 : E ≤ 240) (hT : T < 8388608) (hF1 : 1 ≤ F) (hF2 : F ≤ 240) (hS : S < 8388608) : ∃ E' T' : Nat, T' < 8388608 ∧ max E F ≤ E' ∧ E' ≤ max E F + 2 ∧ FP.fadd (mkF E T) (mkF F S) = mkF E' T' := by
  have e0 : FP.fadd (mkF E T) (mkF F S) = UInt32.ofNat (FP.Core.add FP.Core.b32 (mkF E T).toNat (mkF F S).toNat) := rfl
  rw [mkF_n (by omega) hT, mkF_n (by omega) hS] at e0
  unfold FP.Core.add at e0
  rw [f_dec h1 (by omega) hT, f_dec hF1 (by omega) hS] at e0
  have u1 := f_units (c := 8388608 + T) (D := (((E : Int) - 150) - min ((E : Int) - 150) ((F : Int) - 150)).toNat) (by omega) (by omega)
  have u2 := f_units (c := 8388608 + S) (D := (((F : Int) - 150) - min ((E : Int) - 150) ((F : Int) - 150)).toNat) (by omega) (by omega)
  have n0 : 0 < (8388608 + T) * 2 ^ (((E : Int) - 150) - min ((E : Int) - 150) ((F : Int) - 150)).toNat + (8388608 + S) * 2 ^ (((F : Int) - 150) - min ((E : Int) - 150) ((F : Int) - 150)).toNat := by
    have := Nat.two_pow_pos (23 + (((E : Int) - 150) - min ((E : Int) - 150) ((F : Int) - 150)).toNat)
    omega
  obtain ⟨a1, a2⟩ := lg_ex n0
  have rng : 23 + (max E F - min E F) ≤ Nat.log2 ((8388608 + T) * 2 ^ (((E : Int) - 150) - min ((E : Int) - 150) ((F : Int) - 150)).toNat + (8388608 + S) * 2 ^ (((F : Int) - 150) - min ((E : Int) - 150) ((F : Int) - 150)).toNat) ∧ Nat.log2 ((8388608 + T) * 2 ^ (((E : Int) - 150) - min ((E : Int) - 150) ((F : Int) - 150)).toNat + (8388608 + S) * 2 ^ (((F : Int) - 150) - min ((E : Int) - 150) ((F : Int) - 150)).toNat) < 25 + (max E F - min E F) := by
    refine f_pw ?_ ?_ a1 a2
    · by_cases y : F ≤ E
      · have : (((E : Int) - 150) - min ((E : Int) - 150) ((F : Int) - 150)).toNat = max E F - min E F := by omega
        rw [this] at u1 ⊢
        omega
      · have : (((F : Int) - 150) - min ((E : Int) - 150) ((F : Int) - 150)).toNat = max E F - min E F := by omega
        rw [this] at u2 ⊢
        omega
    · have p1 : 2 ^ (24 + (((E : Int) - 150) - min ((E : Int) - 150) ((F : Int) - 150)).toNat) ≤ 2 ^ (24 + (max E F - min E F)) := Nat.pow_le_pow_right (by decide) (by omega)
      have p2 : 2 ^ (24 + (((F : Int) - 150) - min ((E : Int) - 150) ((F : Int) - 150)).toNat) ≤ 2 ^ (24 + (max E F - min E F)) := Nat.pow_le_pow_right (by decide) (by omega)
      have p3 : 2 ^ (25 + (max E F - min E F)) = 2 ^ (24 + (max E F - min E F)) * 2 := by
        rw [← Nat.pow_succ]
        congr 1
        omega
      omega
  obtain ⟨E', T', s1, s2, s3⟩ := f_sum (m := min ((E : Int) - 150) ((F : Int) - 150)) rfl a1 a2 (by omega) (by omega)
  rw [s3] at e0
  exact ⟨E', T', s1, by omega, by omega, e0⟩
theorem f_add0 {E T : Nat} (h1 : 1 ≤ E) (h2 : E ≤ 240) (hT : T < 8388608) : (∃ E' T' : Nat, T' < 8388608 ∧ E ≤ E' ∧ E' ≤ E + 2 ∧ FP.fadd (mkF E T) 0 = mkF E' T') ∧ ∃ E' T' : Nat, T' < 8388608 ∧ E ≤ E' ∧ E' ≤ E + 2 ∧ FP.fadd 0 (mkF E T) = mkF E' T' := by
  have u1 := f_units (c := 8388608 + T) (D := E - 1) (by omega) (by omega)
  have eD : (((E : Int) - 150) - (-149)).toNat = E - 1 := by omega
  have k1 : 2 ^ (22 + E) ≤ (8388608 + T) * 2 ^ (E - 1) := by
    have := u1.1
    rw [show 23 + (E - 1) = 22 + E by omega] at this
    exact this
  have k2 : (8388608 + T) * 2 ^ (E - 1) < 2 ^ (22 + E + 1) := by
    have := u1.2
    rw [show 24 + (E - 1) = 22 + E + 1 by omega] at this
    exact this
  constructor
  · have e0 : FP.fadd (mkF E T) 0 = UInt32.ofNat (FP.Core.add FP.Core.b32 (mkF E T).toNat (0 : UInt32).toNat) := rfl
    rw [mkF_n (by omega) hT, show (0 : UInt32).toNat = 0 from rfl] at e0
    unfold FP.Core.add at e0
    rw [f_dec h1 (by omega) hT, f_dec0] at e0
    obtain ⟨E', T', s1, s2, s3⟩ := f_sum (c := 8388608 + T) (d := 0) (q := (E : Int) - 150) (r := -149) (m := -149) (k := 22 + E) (by omega) (by rw [eD]; omega) (by rw [eD]; omega) (by omega) (by omega)
    rw [s3] at e0
    exact ⟨E', T', s1, by omega, by omega, e0⟩
  · have e0 : FP.fadd 0 (mkF E T) = UInt32.ofNat (FP.Core.add FP.Core.b32 (0 : UInt32).toNat (mkF E T).toNat) := rfl
    rw [mkF_n (by omega) hT, show (0 : UInt32).toNat = 0 from rfl] at e0
    unfold FP.Core.add at e0
    rw [f_dec h1 (by omega) hT, f_dec0] at e0
    obtain ⟨E', T', s1, s2, s3⟩ := f_sum (c := 0) (d := 8388608 + T) (q := -149) (r := (E : Int) - 150) (m := -149) (k := 22 + E) (by omega) (by rw [eD]; omega) (by rw [eD]; omega) (by omega) (by omega)
    rw [s3] at e0
    exact ⟨E', T', s1, by omega, by omega, e0⟩
theorem f_add00 : FP.fadd 0 0 = 0 := by decide
theorem f_add {a b : Nat} {x y : UInt32} (ha : 1 ≤ a) (hb : b ≤ 240) (hx : isF a b x) (hy : isF a b y) : isF a (b + 2) (FP.fadd x y) := by
  rcases hx with hx | ⟨E, T, x1, x2, x3, x4⟩
  · rcases hy with hy | ⟨F, S, y1, y2, y3, y4⟩
    · rw [hx, hy]
      exact Or.inl f_add00
    · obtain ⟨E', T', s1, s2, s3, s4⟩ := (f_add0 (E := F) (T := S) (by omega) (by omega) y3).2
      rw [hx, y4]
      exact Or.inr ⟨E', T', by omega, by omega, s1, s4⟩
  · rcases hy with hy | ⟨F, S, y1, y2, y3, y4⟩
    · obtain ⟨E', T', s1, s2, s3, s4⟩ := (f_add0 (E := E) (T := T) (by omega) (by omega) x3).1
      rw [hy, x4]
      exact Or.inr ⟨E', T', by omega, by omega, s1, s4⟩
    · obtain ⟨E', T', s1, s2, s3, s4⟩ := f_addn (E := E) (T := T) (F := F) (S := S) (by omega) (by omega) x3 (by omega) (by omega) y3
      rw [x4, y4]
      exact Or.inr ⟨E', T', by omega, by omega, s1, s4⟩
theorem f_hf : (1056964608 : UInt32) = mkF 126 0 := by decide
theorem f_c2 : FP.fconst2 = mkF 128 0 := by decide
theorem f_c1 : FP.fconst1 = mkF 127 0 := by decide
theorem f_c23 : (1258291200 : UInt32) = mkF 150 0 := by decide
theorem f_hlf {a b : Nat} {x : UInt32} (ha : 2 ≤ a) (hb : b ≤ 254) (hx : isF a b x) : isF (a - 1) (b - 1) (FP.fmul x 1056964608) := by
  rw [f_hf]
  rcases hx with hx | ⟨E, T, x1, x2, x3, x4⟩
  · rw [hx]
    exact Or.inl (f_mul0 (by decide) (by decide))
  · rw [x4, f_half (by decide) (by decide) (by omega) (by omega) x3 (by omega) (by omega)]
    exact Or.inr ⟨E + 126 - 127, T, by omega, by omega, x3, rfl⟩
theorem f_vf {E T : Nat} (h2 : E ≤ 254) (hT : T < 8388608) : vf_n32 (mkF E T) := by
  unfold vf_n32
  rw [UInt32.le_iff_toNat_le, UInt32.toNat_and, mkF_n (by omega) hT]
  have e1 : (2147483647 : UInt32).toNat = 2 ^ 31 - 1 := by decide
  have e2 : (2139095040 : UInt32).toNat = 2139095040 := by decide
  rw [e1, e2, Nat.and_two_pow_sub_one_eq_mod]
  unfold mkN
  omega
theorem f_vf0 : vf_n32 0 := by
  unfold vf_n32
  decide
theorem isF.vf {a b : Nat} {x : UInt32} (h : isF a b x) (hb : b ≤ 254) : vf_n32 x := by
  rcases h with h | ⟨E, T, x1, x2, x3, x4⟩
  · rw [h]
    exact f_vf0
  · rw [x4]
    exact f_vf (by omega) x3
theorem f_cmp {E T F : Nat} (h1 : 1 ≤ E) (h2 : E ≤ 254) (hT : T < 8388608) (hF1 : 1 ≤ F) (hF2 : F ≤ 254) : (E < F → FP.fcmp (mkF E T) (mkF F 0) = some .lt) ∧ (F ≤ E → FP.fcmp (mkF E T) (mkF F 0) = some .eq ∨ FP.fcmp (mkF E T) (mkF F 0) = some .gt) := by
  have e0 : FP.fcmp (mkF E T) (mkF F 0) = FP.Core.cmp FP.Core.b32 (mkF E T).toNat (mkF F 0).toNat := rfl
  rw [mkF_n (by omega) hT, mkF_n (by omega) (by decide)] at e0
  unfold FP.Core.cmp at e0
  rw [f_dec h1 h2 hT, f_dec hF1 hF2 (by decide)] at e0
  unfold FP.Core.order FP.Core.signed FP.Core.inUnits at e0
  simp only [Bool.false_eq_true, if_false] at e0
  have cm : ∀ a b : Int, compare a b = if a < b then .lt else if a = b then .eq else .gt := fun a b => rfl
  rw [cm] at e0
  rw [e0]
  refine ⟨fun y => ?_, fun y => ?_⟩
  · have m1 : (((E : Int) - 150) - min ((E : Int) - 150) ((F : Int) - 150)).toNat = 0 := by omega
    have m2 : (((F : Int) - 150) - min ((E : Int) - 150) ((F : Int) - 150)).toNat = (F - E - 1) + 1 := by omega
    have pp := Nat.two_pow_pos (F - E - 1)
    rw [m1, m2, Nat.pow_succ]
    have : 16777216 * 1 ≤ 16777216 * 2 ^ (F - E - 1) := Nat.mul_le_mul_left _ pp
    have e3 : (8388608 + 0) * (2 ^ (F - E - 1) * 2) = 16777216 * 2 ^ (F - E - 1) := by omega
    rw [e3, if_pos (by omega)]
  · have m1 : (((F : Int) - 150) - min ((E : Int) - 150) ((F : Int) - 150)).toNat = 0 := by omega
    have pp := Nat.two_pow_pos (((E : Int) - 150) - min ((E : Int) - 150) ((F : Int) - 150)).toNat
    rw [m1]
    have : 8388608 * 1 ≤ (8388608 + T) * 2 ^ (((E : Int) - 150) - min ((E : Int) - 150) ((F : Int) - 150)).toNat := Nat.mul_le_mul (by omega) pp
    rw [if_neg (by omega)]
    split
    · exact Or.inl rfl
    · exact Or.inr rfl
theorem f_cmp0 {E T : Nat} (h1 : 1 ≤ E) (h2 : E ≤ 254) (hT : T < 8388608) : FP.fcmp (mkF E T) FP.fconst0 = some .gt := by
  have e0 : FP.fcmp (mkF E T) FP.fconst0 = FP.Core.cmp FP.Core.b32 (mkF E T).toNat (0 : UInt32).toNat := rfl
  rw [mkF_n (by omega) hT, show (0 : UInt32).toNat = 0 from rfl] at e0
  unfold FP.Core.cmp at e0
  rw [f_dec h1 h2 hT, f_dec0] at e0
  unfold FP.Core.order FP.Core.signed FP.Core.inUnits at e0
  simp only [Bool.false_eq_true, if_false] at e0
  have cm : ∀ a b : Int, compare a b = if a < b then .lt else if a = b then .eq else .gt := fun a b => rfl
  rw [cm] at e0
  rw [e0]
  have pp := Nat.two_pow_pos (((E : Int) - 150) - min ((E : Int) - 150) (-149)).toNat
  have : 8388608 * 1 ≤ (8388608 + T) * 2 ^ (((E : Int) - 150) - min ((E : Int) - 150) (-149)).toNat := Nat.mul_le_mul (by omega) pp
  rw [Nat.zero_mul, if_neg (by omega), if_neg (by omega)]
theorem f_f2i {T : Nat} (hT : T < 8388608) : FP.f2i (mkF 150 T) = nI (8388608 + T) := by
  have e0 : FP.f2i (mkF 150 T) = FP.Core.toI (FP.Core.decode FP.Core.b32 (mkF 150 T).toNat) := rfl
  rw [mkF_n (by omega) hT, f_dec (by decide) (by decide) hT] at e0
  unfold FP.Core.toI FP.Core.toInt FP.Core.truncate FP.Core.signed at e0
  simp only [Bool.false_eq_true, if_false] at e0
  have q1 : (((150 : Nat) : Int) - 150).toNat = 0 := by omega
  have q2 : (-(((150 : Nat) : Int) - 150)).toNat = 0 := by omega
  rw [q1, q2, Nat.pow_zero, Nat.mul_one, Nat.div_one] at e0
  have mm : max (-2 ^ 31 : Int) (min (2 ^ 31 - 1) ((8388608 + T : Nat) : Int)) = ((8388608 + T : Nat) : Int) := by omega
  rw [mm] at e0
  rw [e0]
  apply Int32.toInt_inj.mp
  rw [nI_toInt (by omega), Int32.toInt_ofInt, show Int32.size = 4294967296 from rfl, Int.bmod_def]
  split <;> omega
theorem f_end {E T : Nat} (h2 : E ≤ 254) (hT : T < 8388608) : (nI E <<< ((23 : Int32) &&& 31)) + (FP.f2i (mkF 150 T) - 8388608) = (mkF E T).toInt32 := by
  rw [f_f2i hT, show (8388608 : Int32) = nI 8388608 from rfl, pk_sub (by omega), pk_shlN _ 23 (by decide) (by omega), nI_add]
  have : E * 2 ^ 23 + (8388608 + T - 8388608) = mkN E T := by
    unfold mkN
    omega
  rw [this]
  rfl
theorem cv_l : Op.cmpValue (some .lt) .l < 0 ∧ ¬ Op.cmpValue (some .eq) .l < 0 ∧ ¬ Op.cmpValue (some .gt) .l < 0 ∧ 0 < Op.cmpValue (some .gt) .l ∧ ¬ 0 < Op.cmpValue (some .eq) .l ∧ ¬ 0 ≤ Op.cmpValue (some .lt) .g ∧ 0 ≤ Op.cmpValue (some .eq) .g ∧ 0 ≤ Op.cmpValue (some .gt) .g := by decide
theorem ct_bitsOf {a b : Nat} {x : UInt32} (ha : 1 ≤ a) (hb : b ≤ 254) (hx : isF a b x) (h : Hp) : CtI 0 mX10_bitsOf [.float x] h (pq x.toInt32 h) := by
  obtain ⟨v1, v2, v3, v4, v5, v6, v7, v8⟩ := cv_l
  rcases hx with hx | ⟨E, T, x1, x2, x3, x4⟩
  · subst hx
    have e : FP.fcmp 0 FP.fconst0 = some .eq := by decide
    refine e_X10_bitsOf ⟨fun c => absurd (by rw [e] at c; exact c) v5, fun _ => ⟨rfl, rfl⟩⟩
  · subst x4
    have fin : GoI 0 mX10_bitsOf 44 [(1, .int (nI E)), (2, .float (mkF 127 T)), (3, .int 0)] [] h (pq (mkF E T).toInt32 h) ∧ ∀ j : Nat, GoI 0 mX10_bitsOf 44 [(1, .int (nI E)), (2, .float (mkF 127 T)), (3, .int (nI j))] [] h (pq (mkF E T).toInt32 h) := by
      have g : ∀ j : Nat, GoI 0 mX10_bitsOf 44 [(1, .int (nI E)), (2, .float (mkF 127 T)), (3, .int (nI j))] [] h (pq (mkF E T).toInt32 h) := by
        intro j
        have hm : FP.fmul (mkF 127 T) 1258291200 = mkF 150 T := by
          rw [f_c23, f_half (by decide) (by decide) (by decide) (by decide) x3 (by decide) (by decide)]
        refine b_X10_bitsOf_44 ?_
        rw [hm, f_end (by omega) x3]
        refine ⟨fun _ => ⟨f_vf (by decide) x3, rfl, rfl⟩, fun _ => ⟨fun _ => ⟨f_vf (by decide) x3, rfl, rfl⟩, fun c => absurd ?_ c⟩⟩
        rw [f_c1]
        rcases (f_cmp (E := 127) (T := T) (F := 127) (by decide) (by decide) x3 (by decide) (by decide)).2 (by decide) with e | e
        · rw [e]
          exact v7
        · rw [e]
          exact v8
      exact ⟨g 0, g⟩
    refine e_X10_bitsOf ⟨fun _ => ?_, fun c => absurd (by rw [f_cmp0 (by omega) (by omega) x3]; exact v4) c⟩
    by_cases y : 127 ≤ E
    · have lp : ∀ n j : Nat, n + j = E - 127 → GoI 0 mX10_bitsOf 15 [(1, .int (nI (127 + j))), (2, .float (mkF (E - j) T)), (3, .int (nI j))] [] h (pq (mkF E T).toInt32 h) := by
        intro n
        induction n with
        | zero =>
          intro j hj
          have e1 : 127 + j = E := by omega
          have e2 : E - j = 127 := by omega
          have k42 : GoI 0 mX10_bitsOf 42 [(1, .int (nI (127 + j))), (2, .float (mkF (E - j) T))] [] h (pq (mkF E T).toInt32 h) := by
            refine b_X10_bitsOf_42 ?_
            rw [e1, e2]
            exact fin.1
          refine b_X10_bitsOf_15 ⟨fun _ => k42, fun _ => ⟨fun _ => k42, fun c => absurd ?_ c⟩⟩
          rw [e2, f_c2, (f_cmp (E := 127) (T := T) (F := 128) (by decide) (by decide) x3 (by decide) (by decide)).1 (by decide)]
          exact v1
        | succ n ih =>
          intro j hj
          have hm : FP.fmul (mkF (E - j) T) 1056964608 = mkF (E - (j + 1)) T := by
            rw [f_hf, f_half (by decide) (by decide) (by omega) (by omega) x3 (by omega) (by omega), show E - j + 126 - 127 = E - (j + 1) by omega]
          refine b_X10_bitsOf_15 ⟨fun c => absurd c (nI_ge (b := 127) (by omega) (by omega)), fun _ => ⟨fun c => absurd c ?_, fun _ => ?_⟩⟩
          · rw [f_c2]
            rcases (f_cmp (E := E - j) (T := T) (F := 128) (by omega) (by omega) x3 (by decide) (by decide)).2 (by omega) with e | e
            · rw [e]
              exact v2
            · rw [e]
              exact v3
          · rw [hm, nI_1, nI_1]
            exact ⟨f_vf (by omega) x3, ih (j + 1) (by omega)⟩
      exact lp (E - 127) 0 (by omega)
    · have lp : ∀ n j : Nat, n + j = 127 - E → GoI 0 mX10_bitsOf 44 [(1, .int (nI (127 - j))), (2, .float (mkF (E + j) T)), (3, .int (nI j))] [] h (pq (mkF E T).toInt32 h) := by
        intro n
        induction n with
        | zero =>
          intro j hj
          have e1 : 127 - j = E := by omega
          have e2 : E + j = 127 := by omega
          rw [e1, e2]
          exact fin.2 j
        | succ n ih =>
          intro j hj
          have hm : FP.fmul (mkF (E + j) T) FP.fconst2 = mkF (E + (j + 1)) T := by
            rw [f_c2, f_half (by decide) (by decide) (by omega) (by omega) x3 (by omega) (by omega), show E + j + 128 - 127 = E + (j + 1) by omega]
          refine b_X10_bitsOf_44 ⟨fun c => absurd c (nI_ge (b := 126) (by omega) (by omega)), fun _ => ⟨fun c => absurd c ?_, fun _ => ?_⟩⟩
          · rw [f_c1, (f_cmp (E := E + j) (T := T) (F := 127) (by omega) (by omega) x3 (by decide) (by decide)).1 (by omega)]
            exact v6
          · have e3 : nI (127 - j) + -1 = nI (127 - (j + 1)) := by
              rw [show 127 - j = (127 - (j + 1)) + 1 by omega]
              exact pk_m1 _
            rw [hm, e3, nI_1]
            exact ⟨f_vf (by omega) x3, ih (j + 1) (by omega)⟩
      refine b_X10_bitsOf_15 ⟨fun c => absurd c (by decide), fun _ => ⟨fun _ => b_X10_bitsOf_42 (lp (127 - E) 0 (by omega)), fun c => absurd ?_ c⟩⟩
      rw [f_c2, (f_cmp (E := E) (T := T) (F := 128) (by omega) (by omega) x3 (by decide) (by decide)).1 (by omega)]
      exact v1
