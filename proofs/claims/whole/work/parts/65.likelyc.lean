/-! ===== the class: how likely there is a best plan ===== -/
theorem cd_step {x y n : Nat} (h0 : 0 < x) (hxy : x ≤ y) (hp : x * y < 2 ^ (n + 1)) : (y % x) * x < 2 ^ n := by
  have h1 := Nat.mod_lt y h0
  have h2 := Nat.div_add_mod y x
  have h3 : 1 ≤ y / x := (Nat.le_div_iff_mul_le h0).mpr (by omega)
  have h4 : x * 1 ≤ x * (y / x) := Nat.mul_le_mul_left x h3
  have h5 : 2 * (y % x) ≤ y := by omega
  have h6 : (2 * (y % x)) * x ≤ y * x := Nat.mul_le_mul_right x h5
  rw [Nat.mul_assoc, Nat.mul_comm y x] at h6
  rw [Nat.pow_succ] at hp
  omega
theorem ct_commonDivisor {A B : Nat} (hA : A < 2 ^ 31) (h0 : 0 < B) (hB : B < 2 ^ 31) (hAB : A * B < 2 ^ 60) (h : Hp) : CtI 0 mX10_commonDivisor [.int (nI A), .int (nI B)] h (pq (nI (Nat.gcd B A)) h) := by
  have fin : ∀ x y : Nat, x = 0 → y < 2 ^ 31 → Nat.gcd x y = Nat.gcd A B → (1 ≤ nI y → pq (nI (Nat.gcd B A)) h (nI y) h) ∧ (¬ 1 ≤ nI y → pq (nI (Nat.gcd B A)) h 1 h) := by
    intro x y x0 hy hg
    rw [x0, Nat.gcd_zero_left, Nat.gcd_comm] at hg
    have gp : 0 < Nat.gcd B A := Nat.gcd_pos_of_pos_left A h0
    exact ⟨fun _ => ⟨by rw [hg], rfl⟩, fun c => absurd (nI_le (a := 1) (by omega) hy) c⟩
  have lp : ∀ n x y i : Nat, i + n ≤ 63 → x < 2 ^ 31 → y < 2 ^ 31 → (x = 0 ∨ x ≤ y) → x * y < 2 ^ n → Nat.gcd x y = Nat.gcd A B → GoI 0 mX10_commonDivisor 7 [(2, .int (nI x)), (3, .int (nI y)), (4, .int (nI i))] [] h (pq (nI (Nat.gcd B A)) h) := by
    intro n
    induction n with
    | zero =>
      intro x y i hi hx hy c hp hg
      have x0 : x = 0 := by
        rcases c with c | c
        · exact c
        · refine Classical.byContradiction fun z => ?_
          have : 0 < x * y := Nat.mul_pos (by omega) (by omega)
          omega
      subst x0
      refine b_X10_commonDivisor_7 ⟨fun _ => fin 0 y rfl hy hg, fun _ => ⟨fun _ => fin 0 y rfl hy hg, fun z => absurd nI_0 z⟩⟩
    | succ n ih =>
      intro x y i hi hx hy c hp hg
      refine b_X10_commonDivisor_7 ⟨fun z => absurd z (nI_ge (b := 64) (by omega) (by omega)), fun _ => ⟨fun z => ?_, fun z => ⟨z, ?_⟩⟩⟩
      · have x0 : x = 0 := (nI_eq hx (show 0 < 2 ^ 31 by omega)).mp z
        exact fin x y x0 hy hg
      · have x0 : 0 < x := Nat.pos_of_ne_zero (fun e => z (by rw [e]; rfl))
        have xy : x ≤ y := by
          rcases c with c | c
          · omega
          · exact c
        have hm := Nat.mod_lt y x0
        rw [pk_rem hy x0 hx, nI_1]
        exact ih (y % x) x (i + 1) (by omega) (by omega) hx (Or.inr (by omega)) (cd_step x0 xy hp) ((Nat.gcd_rec x y).symm.trans hg)
  refine e_X10_commonDivisor ?_
  have bs := b_X10_commonDivisor_7 (x2 := nI A) (x3 := nI B) (x4 := 0) (h := h) (Q := pq (nI (Nat.gcd B A)) h)
  refine bs ⟨fun z => absurd z (by decide), fun _ => ⟨fun z => ?_, fun z => ⟨z, ?_⟩⟩⟩
  · have x0 : A = 0 := (nI_eq hA (show 0 < 2 ^ 31 by omega)).mp z
    exact fin A B x0 hB rfl
  · have x0 : 0 < A := Nat.pos_of_ne_zero (fun e => z (by rw [e]; rfl))
    have hm := Nat.mod_lt B x0
    have hle := Nat.mod_le B A
    rw [pk_rem hB x0 hA]
    refine lp 60 (B % A) A 1 (by omega) (by omega) hA (Or.inr (by omega)) (Nat.lt_of_le_of_lt ?_ hAB) ((Nat.gcd_rec A B).symm)
    rw [Nat.mul_comm A B]
    exact Nat.mul_le_mul_right A hle
theorem ct_power (a k : Nat) (hk : k < 2 ^ 31) (h : Hp) : CtI 0 mX10_power [.int (nI a), .int (nI k)] h (pq (nI (a ^ k)) h) := by
  have lp : ∀ n i : Nat, n + i = k → GoI 0 mX10_power 4 [(0, .int (nI a)), (1, .int (nI k)), (2, .int (nI (a ^ i))), (3, .int (nI i))] [] h (pq (nI (a ^ k)) h) := by
    intro n
    induction n with
    | zero =>
      intro i hi
      have hi : i = k := by omega
      subst hi
      exact b_X10_power_4 ⟨fun _ => ⟨rfl, rfl⟩, fun c => absurd (nI_le (by omega) (by omega)) c⟩
    | succ n ih =>
      intro i hi
      have ih2 := ih (i + 1) (by omega)
      refine b_X10_power_4 ⟨fun c => absurd c (nI_ge (by omega) (by omega)), fun _ => ?_⟩
      rw [pk_mul, nI_1, ← Nat.pow_succ]
      exact ih2
  exact e_X10_power (lp k 0 rfl)
/-- the bits set below p -/
def pcN (x : Nat) : Nat → Nat
  | 0 => 0
  | p + 1 => pcN x p + (if x.testBit p then 1 else 0)
theorem ct_bitCount8 {x : Nat} (hx : x < 8) (h : Hp) : CtI 0 mJ6_bitCount_0f7a4 [.int (nI x)] h (pq (nI (pcN x 3)) h) := by
  refine e_J6_bitCount_0f7a4 ⟨?_, rfl⟩
  revert x
  decide +kernel
theorem li_fin : ∀ P, P < 4 → ∀ x, x < 2 ^ P → (∀ p, p < P → hasB (nI (2 ^ P - 1 - x)) p = !x.testBit p) ∧ (∀ p, p < 3 → hasB (nI x) p = (decide (p < P) && !hasB (nI (2 ^ P - 1 - x)) p)) ∧ x < 8 ∧ pcN x P = pcN x 3 ∧ pcN x 3 ≤ 3 := by decide +kernel
theorem odR_pc {P x : Nat} (hP : P < 4) (hx : x < 2 ^ P) (t : Nat) : ∀ p, p ≤ P → odR t (2 ^ P - 1 - x) p = (t - 1) ^ pcN x p := by
  have f := (li_fin P hP x hx).1
  intro p
  induction p with
  | zero => exact fun _ => rfl
  | succ p ih =>
    intro hp
    rw [odR, pcN, ih (by omega), f p (by omega)]
    cases x.testBit p
    · simp
    · simp [Nat.pow_succ]
/-- the sum over the first n sets that are there -/
def thR (s : Nat → Int32) (t : Nat) : Nat → Nat
  | 0 => 0
  | x + 1 => thR s t x + (if beV s (2 ^ nP s - 1 - x) = -9 then 0 else odR t (2 ^ nP s - 1 - x) (nP s))
theorem thR_ab (s : Nat → Int32) (t : Nat) : ∀ n, n ≤ 2 ^ nP s → thR s t n + abR s t (2 ^ nP s - n) = abR s t (2 ^ nP s) := by
  intro n
  induction n with
  | zero =>
    intro _
    rw [thR, Nat.zero_add]
    rfl
  | succ n ih =>
    intro hn
    rw [← ih (by omega), show 2 ^ nP s - n = (2 ^ nP s - (n + 1)) + 1 by omega, thR, abR, show 2 ^ nP s - 1 - n = 2 ^ nP s - (n + 1) by omega]
    omega
theorem thR_all (s : Nat → Int32) (t : Nat) : thR s t (2 ^ nP s) = abR s t (2 ^ nP s) := by
  have := thR_ab s t (2 ^ nP s) (Nat.le_refl _)
  rw [Nat.sub_self] at this
  exact this
theorem ct_likelyC (t part : Int32) (h : Hp) (s : Nat → Int32) (k : kI s h) : CtL 5 mX10_likely [.ref 0, .int t, .int part] h (okxL (lyW t part) h (fun v g => v = lyV s t.toNatClampNeg part ∧ frC h g)) := by
  have hP := k.i.o.hP
  have hpow : 2 ^ nP s ≤ 8 := Nat.pow_le_pow_right (n := 2) (by decide) hP
  refine e_X10_likely ⟨fun c1 => ⟨fun c2 => ⟨fun c3 => ?_, fun c3 => ⟨fun c4 => ?_, fun c4 => ?_⟩⟩, fun c2 => ?_⟩, fun c1 => ?_⟩
  · refine rfxL (x := -2) ?_ isW_2 (by decide)
    unfold lyW wbS inR
    rw [if_neg (Int32.not_lt.mpr c1), if_neg (Int32.not_lt.mpr c2), if_pos rfl, if_neg]
    intro z
    exact absurd c3 (Int32.not_lt.mpr (of_decide_eq_true z).1)
  · have w0 : wbS t 2 20 = 0 := by
      unfold wbS
      rw [if_neg (Int32.not_lt.mpr c1), if_neg (Int32.not_lt.mpr c2)]
    have c0 : lyW t part = 0 := by
      unfold lyW inR
      rw [if_pos w0, if_pos (decide_eq_true ⟨Int32.not_lt.mp c3, c4⟩)]
    obtain ⟨T, eT, T2, T20⟩ := wb_2 w0
    subst eT
    have cT : (nI T).toNatClampNeg = T := nI_clamp (by omega)
    have tm : nI T - 1 = nI (T - 1) := by
      have := nI_pred (T - 1)
      rwa [show T - 1 + 1 = T by omega] at this
    have bl := tp_le T20 hP
    have bp : 0 < T ^ nP s := Nat.pow_pos (by omega)
    have al := abR_le k.i.o T20 (2 ^ nP s)
    have lp : ∀ n x : Nat, n + x = 2 ^ nP s → ∀ g : Hp, frC h g → GoL 5 mX10_likely 46 [(0, .ref 0), (1, .int (nI T)), (2, .int part), (3, .int (nI (thR s T x))), (4, .int (nI x))] [] g (okxL (lyW (nI T) part) h (fun v g => v = lyV s (nI T).toNatClampNeg part ∧ frC h g)) := by
      intro n
      induction n with
      | zero =>
        intro x hx g f
        have hx : x = 2 ^ nP s := by omega
        subst hx
        have kg := k.fr f
        rw [thR_all]
        have hM : g.1 1 5 = nI (nP s) := kg.c.M.trans k.i.o.eP
        refine b_X10_likely_46 ⟨fun _ => ?_, fun c => absurd ?_ c⟩
        · rw [hM]
          refine pc (ct_power T (nP s) (by omega) g) (pc (ct_commonDivisor (by omega) bp (by omega) ?_ g) ?_)
          · have : abR s T (2 ^ nP s) * T ^ nP s ≤ 64000 * 8000 := Nat.mul_le_mul (by omega) bl
            omega
          · have gp : 0 < Nat.gcd (T ^ nP s) (abR s T (2 ^ nP s)) := Nat.gcd_pos_of_pos_left _ bp
            have gl : Nat.gcd (T ^ nP s) (abR s T (2 ^ nP s)) ≤ T ^ nP s := Nat.gcd_le_left _ bp
            have g0 : ¬ nI (Nat.gcd (T ^ nP s) (abR s T (2 ^ nP s))) = 0 := nI_ne0 gp (by omega)
            have dl : ∀ m d : Nat, m < 2 ^ 31 → 0 < d → d < 2 ^ 31 → (nI m / nI d).toInt64 = lN (m / d) := fun m d h1 h2 h3 => by
              have := Nat.div_le_self m d
              rw [pk_div h1 h2 h3, nI_l (by omega)]
            refine ⟨fun y => ⟨g0, okxL_t c0 ⟨?_, f⟩⟩, fun y => ⟨g0, okxL_t c0 ⟨?_, f⟩⟩⟩
            · rw [dl _ _ (by omega) gp (by omega), cT]
              unfold lyV
              rw [if_neg y]
            · rw [dl _ _ (by omega) gp (by omega), cT]
              unfold lyV
              rw [if_pos y]
        · rw [hM, shl1 (nP s) (by omega)]
          exact nI_le (by omega) (by omega)
      | succ n ih =>
        intro x hx g f
        have kg := k.fr f
        have hM : g.1 1 5 = nI (nP s) := kg.c.M.trans k.i.o.eP
        obtain ⟨-, f2, f3, f4, f5⟩ := li_fin (nP s) (by omega) x (by omega)
        refine b_X10_likely_46 ⟨fun c => absurd c ?_, fun _ => ⟨_, ct_loadK g s kg, fun h16 l g18 e18 => ?_⟩⟩
        · rw [hM, shl1 (nP s) (by omega)]
          exact nI_ge (by omega) (by omega)
        · obtain ⟨l1, l2, -⟩ := l
          have fu : Fr [38] h16 g18 := by
            rw [e18]
            exact Fr.ui (by decide)
          have f' : frC h g18 := by
            have fl := f.tr l1
            obtain ⟨r1, r2, d⟩ := fl.2
            refine ⟨fl.1.tr (fu.mono (by decide)), r1, r2, d.1, ?_, ?_⟩
            · rw [e18, ui_nj (by decide)]
              exact d.2.1
            · rw [e18, ui_nj (by decide)]
              exact d.2.2
          have th : thI s (2 ^ nP s - 1 - x) g18 := ⟨x, f3, by rw [e18, ui_aa], fun p hp => f2 p hp⟩
          refine ⟨_, ct_solveK g18 s s (k.fr f') k.i.lim svE.rf ?_ th, fun v h22 q => ?_⟩
          · rw [e18, ui_ne (by decide), ui_ne (by decide)]
            exact l2
          · obtain ⟨q1, q2, q3, -⟩ := q
            have f22 := f'.tr q2
            have sg := sgn q3
            have ih2 := ih (x + 1) (by omega) h22 f22
            refine ⟨fun z => b_X10_likely_100 ?_, fun z => pc (ct_bitCount8 f3 h22) ?_⟩
            · have z9 := sg.2.mp z
              rw [q1] at z9
              rw [thR, if_pos z9, Nat.add_zero] at ih2
              rw [nI_1]
              exact ih2
            · have z9 : ¬ v = -9 := fun y => z (sg.2.mpr y)
              rw [q1] at z9
              rw [tm]
              refine pc (ct_power (T - 1) (pcN x 3) (by omega) h22) (b_X10_likely_100 ?_)
              rw [thR, if_neg z9, odR_pc (by omega) (by omega) T (nP s) (Nat.le_refl _), f4] at ih2
              rw [nI_1, nI_add]
              exact ih2
    exact lp (2 ^ nP s) 0 rfl h (frC.rf k)
  · refine rfxL (x := -2) ?_ isW_2 (by decide)
    unfold lyW wbS inR
    rw [if_neg (Int32.not_lt.mpr c1), if_neg (Int32.not_lt.mpr c2), if_pos rfl, if_neg]
    intro z
    exact absurd (of_decide_eq_true z).2 c4
  · refine rfxL (x := -6) ?_ isW_6 (by decide)
    unfold lyW wbS
    rw [if_neg (Int32.not_lt.mpr c1), if_pos (Int32.not_le.mp c2), if_neg (by decide)]
  · refine rfxL (x := -4) ?_ isW_4 (by decide)
    unfold lyW wbS
    rw [if_pos (Int32.not_le.mp c1), if_neg (by decide)]
