/-! ===== the class: prices asked ===== -/
/-- the row σ is the scene's row s but for its prices -/
def pvE (σ s : Nat → Int32) : Prop := ∀ i, (i < 14 ∨ 19 ≤ i) → σ i = s i
theorem pvE.f {σ s : Nat → Int32} (e : pvE σ s) : pfS σ = pfS s := funext fun p => funext fun j => e _ (Or.inr (by omega))
theorem pvE.P {σ s : Nat → Int32} (e : pvE σ s) : nP σ = nP s := by
  unfold nP
  rw [e 3 (Or.inl (by omega))]
theorem pvE.H {σ s : Nat → Int32} (e : pvE σ s) : nH σ = nH s := by
  unfold nH
  rw [e 0 (Or.inl (by omega))]
/-- scene s, prices of σ -/
def pvI (s σ : Nat → Int32) (h : Hp) : Prop := sC 1 s h ∧ InS s ∧ InS σ ∧ pvE σ s ∧ ∀ t, t < 5 → h.1 59 t = σ (14 + t)
theorem pvI.fr {s σ : Nat → Int32} {X : List Nat} {h g : Hp} (a : pvI s σ h) (f : Fr X h g) (h1 : ∀ k, k ∈ cS 1 → k ∉ X) (h2 : 59 ∉ X) : pvI s σ g := ⟨a.1.fr f h1, a.2.1, a.2.2.1, a.2.2.2.1, fun t ht => by
  rw [f.1 59 h2]
  exact a.2.2.2.2 t ht⟩
theorem ct_amountAt {p t : Nat} (ht : t < 5) (b : Bool) (h : Hp) (s σ : Nat → Int32) (a : pvI s σ h) (hp : p < nP σ) : CtI 2 mX2_amountAt [.ref 58, .ref (6 + p), .int (nI t), .int (bI b)] h (pq (anS σ p t b) h) := by
  obtain ⟨a1, a2, a3, a4, a5⟩ := a
  have hP := a3.o.hP
  have hp' : p < nP s := by rw [← a4.P]; exact hp
  refine e_X2_amountAt (isPl_6 p (by omega)) ⟨vp_in_nI (by omega) (by omega), ?_⟩
  rw [nI_clamp (show t < 2 ^ 31 by omega), a5 t ht, (a1.e (p := p) (by omega)) 4 (by decide), ← a4.f]
  have l := ct_leastC h s a1 a2 hp'
  have m := ct_mostC b h s a1 a2 hp'
  rw [← a4.f] at l m
  refine ⟨fun c => pc l ⟨?_, rfl⟩, fun c => pc m ⟨?_, rfl⟩⟩
  · rw [anS, if_pos c]
  · rw [anS, if_neg c]
theorem hb_ite (x : Int32) (t : Nat) : (if (x >>> (nI t &&& 31)) &&& 1 = 1 then (1 : Int32) else 0) = bI (hasB x t) := ite_bI _
theorem law_pre {f : Nat → Int32} {b : Nat → Bool} {n k : Nat} (h : lawS f b n = true) (hk : k ≤ n) : lawS f b k = true := by
  cases y : lawS f b k
  · rw [lawS_le k n hk y] at h
    exact absurd h (by decide)
  · rfl
/-- what a row comes to in the class's eyes -/
def ntV (σ : Nat → Int32) (p : Nat) (x : Int32) : Int32 := if lawS (pfS σ p) (hasB x) (nH σ) then neV σ p x else 2147483647
set_option maxHeartbeats 1000000 in
theorem ct_netOfC {p : Nat} (x : Int32) (h : Hp) (s σ : Nat → Int32) (a : pvI s σ h) (hp : p < nP σ) : CtI 3 mX2_netOf [.ref 58, .ref (6 + p), .int x] h (pq (ntV σ p x) h) := by
  obtain ⟨a1, a2, a3, a4, a5⟩ := a
  have hP := a3.o.hP
  have hH := a3.o.hH
  have hp' : p < nP s := by rw [← a4.P]; exact hp
  have pk := isPl_6 p (by omega)
  have ae := a1.e (p := p) (by omega)
  rw [← a4.f] at ae
  have ag : ∀ t, t ≤ 5 → aR 9 (agS (pfS σ p 9) (hasB x) t) := fun t ht => (aR_ag (plI_age (a3.f hp)) _ t (by omega)).mono (by omega)
  have eH : h.1 1 0 = nI (nH σ) := by rw [a1.H, ← a4 0 (by omega), a3.o.eH]
  have lp : ∀ n t : Nat, n + t = nH σ → lawS (pfS σ p) (hasB x) t = true → GoI 3 mX2_netOf 11 [(0, .ref 58), (1, .ref (6 + p)), (2, .int x), (3, .int (sumI (neT σ p x) t)), (4, .int (clA (agS (pfS σ p 9) (hasB x) t))), (5, .int (nI t))] [] h (pq (ntV σ p x) h) := by
    intro n
    induction n with
    | zero =>
      intro t ht lw
      have ht : t = nH σ := by omega
      subst ht
      refine b_X2_netOf_11 pk ⟨fun _ => ⟨?_, rfl⟩, fun c => absurd ?_ c⟩
      · rw [ntV, if_pos lw]
        rfl
      · rw [eH]
        exact nI_le (by omega) (by omega)
    | succ n ih =>
      intro t ht lw
      have ih2 := ih (t + 1) (by omega)
      have mv := ct_movedC (ag t (by omega)) (hasB x t) h s a1 a2 hp'
      rw [← a4.f] at mv
      refine b_X2_netOf_11 pk ⟨fun c => absurd c ?_, fun _ => ?_⟩
      · rw [eH]
        exact nI_ge (by omega) (by omega)
      · rw [hb_ite]
        refine pc mv ?_
        have up := lawS_up (pfS σ p) (hasB x) t
        rw [lw, Bool.true_and] at up
        cases mg : mgS (pfS σ p) (agS (pfS σ p 9) (hasB x) t) (hasB x t)
        · rw [mg] at up
          have lwf := lawS_le (t + 1) (nH σ) (by omega) up
          refine ⟨fun c => absurd rfl c, fun _ => ⟨?_, rfl⟩⟩
          rw [ntV, if_neg (noF lwf)]
        · rw [mg] at up
          rw [if_pos rfl]
          have n0 := cl_n0 (by decide) (ag (t + 1) (by omega))
          have ih3 := ih2 up
          have ngc := cl_neg (by decide) (ag t (by omega))
          refine ⟨fun _ => ?_, fun c => absurd c n0⟩
          have s120 : ∀ y : Int32, y = sumI (neT σ p x) (t + 1) → GoI 3 mX2_netOf 120 [(0, .ref 58), (1, .ref (6 + p)), (2, .int x), (3, .int y), (5, .int (nI t)), (7, .int (clA (goS (agS (pfS σ p 9) (hasB x) t) (hasB x t))))] [] h (pq (ntV σ p x) h) := by
            intro y ey
            refine b_X2_netOf_120 pk ?_
            rw [ey, nI_1]
            exact ih3
          refine ⟨fun c => s120 _ ?_, fun c => ?_⟩
          · have hb := bI_0.mp c
            rw [sumI, neT, if_neg (noF hb), Int32.add_zero]
          · have hb := bI_t c
            rw [fr_bI]
            refine pc (ct_amountAt (by omega) _ h s σ ⟨a1, a2, a3, a4, a5⟩ hp) ⟨vp_in_nI (by omega) (by omega), ?_⟩
            rw [nI_clamp (show t < 2 ^ 31 by omega), a5 t (by omega), ae 5 (by decide), ae 4 (by decide)]
            have en : sumI (neT σ p x) (t + 1) = sumI (neT σ p x) t + ((pfS σ p 5 + anS σ p t (decide (agS (pfS σ p 9) (hasB x) t < 0)) * (pfS σ p 4 - σ (14 + t))) + ssT (pfS σ p) (hasB x) t) := by
              rw [sumI, neT, if_pos hb]
            have edc : decide (clA (agS (pfS σ p 9) (hasB x) t) < 0) = decide (agS (pfS σ p 9) (hasB x) t < 0) := decide_eq_decide.mpr ngc
            rw [edc]
            refine ⟨fun c2 => b_X2_netOf_118 pk (s120 _ ?_), fun c2 => ?_⟩
            · have ng : ¬ agS (pfS σ p 9) (hasB x) t < 0 := fun w => absurd (ngc.mpr w) (Int32.not_lt.mpr c2)
              have es : ssT (pfS σ p) (hasB x) t = 0 := by
                unfold ssT frS
                rw [decide_eq_false ng, Bool.and_false]
                rfl
              rw [en, es, Int32.add_zero, Int32.add_zero]
            · have ng : agS (pfS σ p 9) (hasB x) t < 0 := ngc.mp (Int32.not_le.mp c2)
              have st := ct_startC (-(clA (agS (pfS σ p 9) (hasB x) t))) h s a1 a2 hp'
              rw [← a4.f, st_cl (by decide) (ag t (by omega)) ng] at st
              refine pc st (b_X2_netOf_118 pk (s120 _ ?_))
              have es : ssT (pfS σ p) (hasB x) t = stS (pfS σ p 0) (pfS σ p 1) (pfS σ p 6) (-(agS (pfS σ p 9) (hasB x) t)) := by
                unfold ssT frS
                rw [decide_eq_true ng, hb]
                rfl
              rw [en, es, Int32.add_assoc]
  refine e_X2_netOf pk ?_
  rw [ae 9 (by decide), ← cl_4 (plI_age (a3.f hp))]
  exact lp (nH σ) 0 rfl rfl
/-! bounds -/
theorem ib_add {x y : Int32} {A B : Nat} (hx : -(A : Int) ≤ x.toInt ∧ x.toInt ≤ A) (hy : -(B : Int) ≤ y.toInt ∧ y.toInt ≤ B) (h : A + B < 2 ^ 31) : (x + y).toInt = x.toInt + y.toInt ∧ -((A + B : Nat) : Int) ≤ (x + y).toInt ∧ (x + y).toInt ≤ (A + B : Nat) := by
  have e : (x + y).toInt = x.toInt + y.toInt := by
    rw [Int32.toInt_add, Int.bmod_def]
    split <;> omega
  rw [e]
  omega
theorem ib_n {n A : Nat} (h : n ≤ A) (hA : A < 2 ^ 31) : -(A : Int) ≤ (nI n).toInt ∧ (nI n).toInt ≤ A := by
  rw [nI_toInt (by omega)]
  omega
theorem ib_sub {a b A : Nat} (ha : a ≤ A) (hb : b ≤ A) (hA : A < 2 ^ 30) : -(A : Int) ≤ (nI a - nI b).toInt ∧ (nI a - nI b).toInt ≤ A := by
  rw [pk_sub_toInt (by omega) (by omega)]
  omega
theorem ib_mul {x y : Int32} {A B : Nat} (hx : -(A : Int) ≤ x.toInt ∧ x.toInt ≤ A) (hy : -(B : Int) ≤ y.toInt ∧ y.toInt ≤ B) (h : A * B < 2 ^ 31) : -((A * B : Nat) : Int) ≤ (x * y).toInt ∧ (x * y).toInt ≤ (A * B : Nat) := by
  have hb : (x.toInt * y.toInt).natAbs ≤ A * B := by
    rw [Int.natAbs_mul]
    exact Nat.mul_le_mul (by omega) (by omega)
  generalize A * B = C at *
  have e : (x * y).toInt = x.toInt * y.toInt := by
    rw [Int32.toInt_mul]
    generalize x.toInt * y.toInt = z at *
    rw [Int.bmod_def]
    split <;> omega
  rw [e]
  generalize x.toInt * y.toInt = z at *
  omega
theorem ib_sum {g : Nat → Int32} {B : Nat} : ∀ n, B * n < 2 ^ 31 → (∀ t, t < n → -(B : Int) ≤ (g t).toInt ∧ (g t).toInt ≤ B) → -((B * n : Nat) : Int) ≤ (sumI g n).toInt ∧ (sumI g n).toInt ≤ (B * n : Nat)
  | 0, _, _ => by
    show _ ≤ (0 : Int32).toInt ∧ (0 : Int32).toInt ≤ _
    have e : (0 : Int32).toInt = 0 := by decide
    rw [e]
    omega
  | n + 1, hn, hg => by
    rw [Nat.mul_succ] at hn ⊢
    exact (ib_add (ib_sum n (by omega) (fun t ht => hg t (by omega))) (hg n (by omega)) hn).2
theorem InS.pr {σ : Nat → Int32} (i : InS σ) {t : Nat} (ht : t < 5) : ∃ k : Nat, k ≤ 99 ∧ σ (14 + t) = nI k := (i.2.1 t ht).2.2
theorem anS_b {σ : Nat → Int32} (i : InS σ) {p : Nat} (hp : p < nP σ) (t : Nat) (b : Bool) : ∃ m : Nat, m ≤ 60 ∧ anS σ p t b = nI m := by
  obtain ⟨l, hl, hm⟩ := plI_lm (i.f hp)
  obtain ⟨m, em, m1, m2⟩ := hm b
  unfold anS
  by_cases c : σ (14 + t) ≤ pfS σ p 4
  · rw [if_pos c]
    exact ⟨l, by omega, hl⟩
  · rw [if_neg c]
    exact ⟨m, m2, em⟩
theorem neT_b {σ : Nat → Int32} (i : InS σ) {p : Nat} (hp : p < nP σ) (x : Int32) {t : Nat} (ht : t < 5) : -((6070 : Nat) : Int) ≤ (neT σ p x t).toInt ∧ (neT σ p x t).toInt ≤ (6070 : Nat) := by
  unfold neT
  by_cases c : hasB x t = true
  · rw [if_pos c]
    have f := i.f hp
    obtain ⟨-, -, -, ⟨k4, h4, e4⟩, ⟨k5, h5, e5⟩, -⟩ := f
    obtain ⟨m, hm, em⟩ := anS_b i hp t (decide (agS (pfS σ p 9) (hasB x) t < 0))
    obtain ⟨k, hk, ek⟩ := i.pr ht
    have b1 := ib_mul (ib_n hm (by decide)) (ib_sub (show k4 ≤ 99 by omega) hk (by decide)) (by decide)
    have b2 := (ib_add (ib_n h5 (by decide)) b1 (by decide)).2
    have b3 : -((100 : Nat) : Int) ≤ (ssT (pfS σ p) (hasB x) t).toInt ∧ (ssT (pfS σ p) (hasB x) t).toInt ≤ (100 : Nat) := by
      unfold ssT frS
      rw [c, Bool.true_and]
      by_cases d : agS (pfS σ p 9) (hasB x) t < 0
      · rw [decide_eq_true d, if_pos rfl]
        obtain ⟨v, hv, ev⟩ := st_b (i.f hp) (m := 9) (by decide) ((aR_ag (plI_age (i.f hp)) (hasB x) t (by omega)).mono (by omega)) d
        rw [ev]
        exact ib_n hv (by decide)
      · rw [decide_eq_false d, if_neg (by decide)]
        exact ib_n (n := 0) (by decide) (by decide)
    rw [e5, em, e4, ek]
    exact (ib_add b2 b3 (by decide)).2
  · rw [if_neg c]
    exact ib_n (n := 0) (by decide) (by decide)
theorem neV_b {σ : Nat → Int32} (i : InS σ) {p : Nat} (hp : p < nP σ) (x : Int32) : -(40000 : Int) ≤ (neV σ p x).toInt ∧ (neV σ p x).toInt ≤ 40000 := by
  have hH := i.o.hH
  have := ib_sum (g := neT σ p x) (B := 6070) (nH σ) (by omega) (fun t ht => neT_b i hp x (by omega))
  unfold neV
  omega
theorem neV_lt {σ : Nat → Int32} (i : InS σ) {p : Nat} (hp : p < nP σ) (x : Int32) : ¬ 2147483647 ≤ neV σ p x := by
  have h := neV_b i hp x
  rw [Int32.le_iff_toInt_le]
  have e : (2147483647 : Int32).toInt = 2147483647 := by decide
  rw [e]
  omega
/-! a row that goes on as one is may be run -/
theorem go_f : ∀ j, j < 11 → 1 ≤ j → posB (goS (nI j) true) = true ∧ posB (goS (-nI j) false) = false ∧ (goS (nI j) true < 0 ↔ False) ∧ (goS (nI j) false < 0 ↔ True) ∧ (goS (-nI j) true < 0 ↔ False) ∧ (goS (-nI j) false < 0 ↔ True) := by decide
theorem go_pos {m : Nat} (hm : m < 11) {a : Int32} (h : aR m a) : posB (goS a (posB a)) = posB a := by
  obtain ⟨j, h1, h2, h3⟩ := h
  obtain ⟨f1, f2, -⟩ := go_f j (by omega) h1
  obtain ⟨g1, g2, -⟩ := age_f1 j (by omega) h1
  rcases h3 with e | e
  · rw [e, g1, f1]
  · rw [e, g2, f2]
theorem go_neg {m : Nat} (hm : m < 11) {a : Int32} (h : aR m a) (on : Bool) : goS a on < 0 ↔ on = false := by
  obtain ⟨j, h1, h2, h3⟩ := h
  obtain ⟨-, -, f3, f4, f5, f6⟩ := go_f j (by omega) h1
  rcases h3 with e | e <;> cases on <;> rw [e]
  · simp [f4]
  · simp [f3]
  · simp [f6]
  · simp [f5]
theorem law_stay {f : Nat → Int32} (hf : plI f) : ∀ n, n ≤ 5 → lawS f (fun _ => posB (f 9)) n = true ∧ posB (agS (f 9) (fun _ => posB (f 9)) n) = posB (f 9) := by
  intro n
  induction n with
  | zero => exact fun _ => ⟨rfl, rfl⟩
  | succ n ih =>
    intro hn
    obtain ⟨i1, i2⟩ := ih (by omega)
    refine ⟨?_, ?_⟩
    · rw [lawS_up, i1, Bool.true_and]
      unfold mgS
      rw [if_pos i2]
    · have g := go_pos (by decide) ((aR_ag (plI_age hf) (fun _ => posB (f 9)) n (by omega)).mono (show 4 + n ≤ 10 by omega))
      rw [i2] at g
      exact g
theorem law_ext {f : Nat → Int32} {b b' : Nat → Bool} : ∀ n, (∀ j, j < n → b j = b' j) → lawS f b n = lawS f b' n := by
  intro n
  induction n with
  | zero =>
    intro _
    unfold lawS
    rw [List.range_zero, List.all_nil, List.all_nil]
  | succ n ih =>
    intro h
    rw [lawS_up, lawS_up, ih (fun j hj => h j (by omega)), agS_ext n (fun j hj => h j (by omega)), h n (by omega)]
theorem st_row : ∀ H, H < 6 → ∀ k, k < H → hasB (nI (2 ^ H - 1)) k = true ∧ hasB (nI 0) k = false := by decide +kernel
theorem law_some {σ : Nat → Int32} (i : InS σ) {p : Nat} (hp : p < nP σ) : ∃ x : Nat, x < 2 ^ nH σ ∧ lawS (pfS σ p) (hasB (nI x)) (nH σ) = true := by
  have hH := i.o.hH
  have h0 : 0 < 2 ^ nH σ := Nat.pow_pos (by decide)
  have st := (law_stay (i.f hp) (nH σ) hH).1
  cases c : posB (pfS σ p 9)
  · refine ⟨0, h0, ?_⟩
    rw [c] at st
    rw [← st]
    exact law_ext _ (fun j hj => (st_row (nH σ) (by omega) j hj).2)
  · refine ⟨2 ^ nH σ - 1, by omega, ?_⟩
    rw [c] at st
    rw [← st]
    exact law_ext _ (fun j hj => (st_row (nH σ) (by omega) j hj).1)
/-! the answer -/
/-- the class's best so far beside the reference's -/
def bqI (σ : Nat → Int32) (p : Nat) (b : Int32 × Int32) (r n : Int32) : Prop := (b.1 = -9 ∧ r = 0 ∧ n = 2147483647) ∨ (¬ b.1 = -9 ∧ r = b.1 ∧ n = b.2)
theorem bs_step {σ : Nat → Int32} (i : InS σ) {p : Nat} (hp : p < nP σ) {x : Nat} (hx : x < 32) {b : Int32 × Int32} {r n : Int32} (I : bqI σ p b r n) : (n ≤ ntV σ p (nI x) → bqI σ p (awT σ p x b) r n) ∧ (¬ n ≤ ntV σ p (nI x) → bqI σ p (awT σ p x b) (nI x) (ntV σ p (nI x))) := by
  have n9 : ¬ nI x = -9 := m9_pos (by omega)
  have lt := neV_lt i hp (nI x)
  have big : ∀ y : Int32, y ≤ 2147483647 := fun y => by
    rw [Int32.le_iff_toInt_le]
    have e : (2147483647 : Int32).toInt = 2147483647 := by decide
    have := Int32.toInt_lt y
    rw [e]
    omega
  unfold ntV awT
  cases c : lawS (pfS σ p) (hasB (nI x)) (nH σ)
  · rw [if_neg (by decide), if_neg (by decide)]
    refine ⟨fun _ => I, fun y => absurd ?_ y⟩
    exact big n
  · rw [if_pos rfl, if_pos rfl]
    rcases I with ⟨b9, er, en⟩ | ⟨b9, er, en⟩
    · rw [if_pos b9, en]
      exact ⟨fun y => absurd y lt, fun _ => Or.inr ⟨n9, rfl, rfl⟩⟩
    · rw [if_neg b9, en]
      refine ⟨fun y => ?_, fun y => ?_⟩
      · rw [if_pos y]
        exact Or.inr ⟨b9, er, rfl⟩
      · rw [if_neg y]
        exact Or.inr ⟨n9, rfl, rfl⟩
/-- a reference's best is one of the rows looked at, with what it comes to -/
theorem aw_ok {σ : Nat → Int32} {p : Nat} : ∀ n j (b : Int32 × Int32), (b.1 = -9 ∨ b.2 = neV σ p b.1) → ((itN (awT σ p) n j b).1 = -9 ∨ (itN (awT σ p) n j b).2 = neV σ p (itN (awT σ p) n j b).1)
  | 0, _, _, h => h
  | n + 1, j, b, h => by
    refine aw_ok n (j + 1) _ ?_
    unfold awT
    cases lawS (pfS σ p) (hasB (nI j)) (nH σ)
    · rw [if_neg (by decide)]
      exact h
    · rw [if_pos rfl]
      by_cases c : b.1 = -9
      · rw [if_pos c]
        exact Or.inr rfl
      · rw [if_neg c]
        by_cases d : b.2 ≤ neV σ p (nI j)
        · rw [if_pos d]
          exact h
        · rw [if_neg d]
          exact Or.inr rfl
theorem aw_n9 {σ : Nat → Int32} {p : Nat} : ∀ n j (b : Int32 × Int32), j + n ≤ 32 → (¬ b.1 = -9 ∨ ∃ x, j ≤ x ∧ x < j + n ∧ lawS (pfS σ p) (hasB (nI x)) (nH σ) = true) → ¬ (itN (awT σ p) n j b).1 = -9
  | 0, _, b, _, h => by
    rcases h with h | ⟨x, h1, h2, -⟩
    · exact h
    · omega
  | n + 1, j, b, hj, h => by
    refine aw_n9 n (j + 1) _ (by omega) ?_
    have n9 : ¬ nI j = -9 := m9_pos (by omega)
    by_cases b9 : b.1 = -9
    · rcases h with h | ⟨x, h1, h2, h3⟩
      · exact absurd b9 h
      · by_cases e : x = j
        · left
          subst e
          unfold awT
          rw [h3, if_pos rfl, if_pos b9]
          exact n9
        · exact Or.inr ⟨x, by omega, by omega, h3⟩
    · left
      unfold awT
      cases lawS (pfS σ p) (hasB (nI j)) (nH σ)
      · rw [if_neg (by decide)]
        exact b9
      · rw [if_pos rfl, if_neg b9]
        by_cases d : b.2 ≤ neV σ p (nI j)
        · rw [if_pos d]
          exact b9
        · rw [if_neg d]
          exact n9
theorem aw_fin {σ : Nat → Int32} (i : InS σ) {p : Nat} (hp : p < nP σ) {r n : Int32} (I : bqI σ p (itN (awT σ p) (2 ^ nH σ) 0 (-9, 0)) r n) : r = awV σ p ∧ n = neV σ p (awV σ p) := by
  have hH := i.o.hH
  have hpow := pow_le hH
  obtain ⟨x, x1, x2⟩ := law_some i hp
  have n9 := aw_n9 (σ := σ) (p := p) (2 ^ nH σ) 0 (-9, 0) (by omega) (Or.inr ⟨x, by omega, by omega, x2⟩)
  have ok := aw_ok (σ := σ) (p := p) (2 ^ nH σ) 0 (-9, 0) (Or.inl rfl)
  rcases I with ⟨b9, -, -⟩ | ⟨-, er, en⟩
  · exact absurd b9 n9
  · rcases ok with z | z
    · exact absurd z n9
    · refine ⟨er, ?_⟩
      rw [en, z]
      rfl
