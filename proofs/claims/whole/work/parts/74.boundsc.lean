/-! ===== rows keep their bounds ===== -/
theorem rg {x : Int32} {n : Nat} (hn : n ≤ 1000) {M : Int32} (hM : M.toInt = n) (h0 : ¬ x < 0) (h1 : ¬ M < x) : ∃ k : Nat, k ≤ n ∧ x = nI k := nI_of2 hM h0 (Int32.not_lt.mp h1)
theorem rg1 {x : Int32} {n : Nat} (hn : n ≤ 1000) {M : Int32} (hM : M.toInt = n) (h0 : ¬ x < 1) (h1 : ¬ M < x) : ∃ k : Nat, 1 ≤ k ∧ k ≤ n ∧ x = nI k := by
  have a := Int32.le_iff_toInt_le.mp (Int32.not_lt.mp h0)
  have e1 : (1 : Int32).toInt = 1 := by decide
  have e0 : (0 : Int32).toInt = 0 := by decide
  have x0 : ¬ x < 0 := fun z => by
    have := Int32.lt_iff_toInt_lt.mp z
    omega
  obtain ⟨k, hk, ek⟩ := rg hn hM x0 h1
  refine ⟨k, ?_, hk, ek⟩
  rw [ek, nI_toInt (by omega)] at a
  omega
theorem wbS_0 {v a b : Int32} (h : wbS v a b = 0) : ¬ v < a ∧ ¬ b < v := by
  unfold wbS at h
  by_cases c : v < a
  · rw [if_pos c] at h
    exact absurd h (by decide)
  · rw [if_neg c] at h
    by_cases d : b < v
    · rw [if_pos d] at h
      exact absurd h (by decide)
    · exact ⟨c, d⟩
theorem woS_0 {v a b w a2 b2 : Int32} (h : woS v a b w a2 b2 = 0) : ¬ v < a ∧ ¬ b < v ∧ ¬ w < a2 ∧ ¬ b2 < w := by
  unfold woS at h
  by_cases c : v < a ∨ w < a2
  · rw [if_pos c] at h
    exact absurd h (by decide)
  · rw [if_neg c] at h
    by_cases d : b < v ∨ b2 < w
    · rw [if_pos d] at h
      exact absurd h (by decide)
    · exact ⟨fun z => c (Or.inl z), fun z => d (Or.inl z), fun z => c (Or.inr z), fun z => d (Or.inr z)⟩
/-- one plant of the row otherwise -/
theorem InS_pl {s s' : Nat → Int32} (i : InS s) {p : Nat} (hp : p < 3) (hf : p < nP s → plI (pfS s' p)) (e : ∀ j, (j < 19 + 10 * p ∨ 29 + 10 * p ≤ j) → s' j = s j) : InS s' := by
  obtain ⟨o, a, b, c, d, f⟩ := i
  have eP : nP s' = nP s := by
    unfold nP
    rw [e 3 (by omega)]
  have eH : nH s' = nH s := by
    unfold nH
    rw [e 0 (by omega)]
  refine ⟨(o.of (e 0 (by omega)) (e 3 (by omega))).1, fun t ht => ?_, ?_, ?_, fun q hq => ?_, ?_⟩
  · rw [e (4 + t) (by omega), e (9 + t) (by omega), e (14 + t) (by omega)]
    exact a t ht
  · rw [e 1 (by omega)]
    exact b
  · rw [e 2 (by omega)]
    exact c
  · rw [eP] at hq
    by_cases y : q = p
    · rw [y]
      rw [y] at hq
      exact hf hq
    · have hq3 : q < 3 := by
        have := o.hP
        omega
      have ex : plE (pfS s' q) (pfS s q) := fun w hw => e (19 + 10 * q + w) (by omega)
      exact ex.I (d q hq)
  · rw [eH]
    exact f
/-- hours, prices, steps otherwise -/
theorem InS_lo {s s' : Nat → Int32} (i : InS s) (e : ∀ j, (j = 0 ∨ j = 3 ∨ 19 ≤ j) → s' j = s j) (h1 : ∀ t, t < 5 → (∃ k : Nat, k ≤ 99 ∧ s' (4 + t) = nI k) ∧ (∃ k : Nat, k ≤ 20 ∧ s' (9 + t) = nI k) ∧ ∃ k : Nat, k ≤ 99 ∧ s' (14 + t) = nI k) (h2 : ∃ k : Nat, k ≤ 2 ∧ s' 1 = nI k) (h3 : ∃ k : Nat, k ≤ 9 ∧ s' 2 = nI k) : InS s' := by
  obtain ⟨o, a, b, c, d, f⟩ := i
  have eP : nP s' = nP s := by
    unfold nP
    rw [e 3 (by omega)]
  have eH : nH s' = nH s := by
    unfold nH
    rw [e 0 (by omega)]
  refine ⟨(o.of (e 0 (by omega)) (e 3 (by omega))).1, h1, h2, h3, fun q hq => ?_, ?_⟩
  · rw [eP] at hq
    have ex : plE (pfS s' q) (pfS s q) := fun w hw => e (19 + 10 * q + w) (by omega)
    exact ex.I (d q hq)
  · rw [eH]
    exact f
theorem inR_f {b : Bool} {x y : Int32} (h : (if b then x else y) = 0) (hy : ¬ y = 0) : b = true := by
  cases b
  · rw [if_neg Bool.false_ne_true] at h
    exact absurd h hy
  · rfl
theorem InS_merit {s : Nat → Int32} (i : InS s) {x : Int32} (w : inR x 0 2 = true) : InS (upd s 1 x) := by
  have z := of_decide_eq_true w
  refine InS_lo i (fun j hj => upd_ne _ _ (by omega)) (fun t ht => ?_) ?_ ?_
  · rw [upd_ne _ _ (by omega), upd_ne _ _ (by omega), upd_ne _ _ (by omega)]
    exact i.2.1 t ht
  · rw [upd_at]
    exact nI_of2 (M := 2) (by decide) (Int32.not_lt.mpr z.1) z.2
  · rw [upd_ne _ _ (by omega)]
    exact i.2.2.2.1
theorem InS_step {s : Nat → Int32} (i : InS s) {x : Int32} (w : wbS x 0 9 = 0) : InS (upd s 2 x) := by
  obtain ⟨z1, z2⟩ := wbS_0 w
  refine InS_lo i (fun j hj => upd_ne _ _ (by omega)) (fun t ht => ?_) ?_ ?_
  · rw [upd_ne _ _ (by omega), upd_ne _ _ (by omega), upd_ne _ _ (by omega)]
    exact i.2.1 t ht
  · rw [upd_ne _ _ (by omega)]
    exact i.2.2.1
  · rw [upd_at]
    exact rg (by decide) (by decide) z1 z2
theorem InS_price {s : Nat → Int32} (i : InS s) {u : Nat} (hu : u < 5) {x : Int32} (w : wbS x 0 99 = 0) : InS (upd s (14 + u) x) := by
  obtain ⟨z1, z2⟩ := wbS_0 w
  refine InS_lo i (fun j hj => upd_ne _ _ (by omega)) (fun t ht => ?_) ?_ ?_
  · rw [upd_ne _ _ (by omega), upd_ne _ _ (by omega)]
    refine ⟨(i.2.1 t ht).1, (i.2.1 t ht).2.1, ?_⟩
    by_cases y : t = u
    · rw [y, upd_at]
      exact rg (by decide) (by decide) z1 z2
    · rw [upd_ne _ _ (by omega)]
      exact (i.2.1 t ht).2.2
  · rw [upd_ne _ _ (by omega)]
    exact i.2.2.1
  · rw [upd_ne _ _ (by omega)]
    exact i.2.2.2.1
theorem InS_hours {s : Nat → Int32} (i : InS s) {x : Int32} (w : wbS x 1 5 = 0) : InS (upd s 0 x) := by
  obtain ⟨z1, z2⟩ := wbS_0 w
  obtain ⟨n, n1, n5, en⟩ := rg1 (n := 5) (by decide) (by decide) z1 z2
  have eP : nP (upd s 0 x) = nP s := by
    unfold nP
    rw [upd_ne _ _ (by decide)]
  have eH : nH (upd s 0 x) = n := by
    unfold nH
    rw [upd_at, en, nI_clamp (by omega)]
  obtain ⟨o, a, b, c, d, f⟩ := i
  refine ⟨oks_hour o w, fun t ht => ?_, ?_, ?_, fun q hq => ?_, by omega⟩
  · rw [upd_ne _ _ (by omega), upd_ne _ _ (by omega), upd_ne _ _ (by omega)]
    exact a t ht
  · rw [upd_ne _ _ (by omega)]
    exact b
  · rw [upd_ne _ _ (by omega)]
    exact c
  · rw [eP] at hq
    have ex : plE (pfS (upd s 0 x) q) (pfS s q) := fun w hw => upd_ne _ _ (by omega)
    exact ex.I (d q hq)
theorem InS_demand {s : Nat → Int32} (i : InS s) {hour x y : Int32} (w : deW s hour x y = 0) : hour.toNatClampNeg < nH s ∧ InS (upd (upd s (4 + hour.toNatClampNeg) x) (9 + hour.toNatClampNeg) y) := by
  have c := inR_f w (by decide)
  unfold deW at w
  rw [if_pos c] at w
  obtain ⟨z1, z2, z3, z4⟩ := woS_0 w
  obtain ⟨u, eu, hu⟩ := isH_nI i.o c
  have hH := i.o.hH
  rw [eu, nI_clamp (show u < 2 ^ 31 by omega)]
  refine ⟨hu, InS_lo i (fun j hj => by rw [upd_ne _ _ (by omega), upd_ne _ _ (by omega)]) (fun t ht => ?_) ?_ ?_⟩
  · rw [upd_ne (upd s (4 + u) x) _ (show 14 + t ≠ 9 + u by omega), upd_ne s _ (show 14 + t ≠ 4 + u by omega)]
    refine ⟨?_, ?_, (i.2.1 t ht).2.2⟩
    · rw [upd_ne _ _ (by omega)]
      by_cases q : t = u
      · rw [q, upd_at]
        exact rg (by decide) (by decide) z1 z2
      · rw [upd_ne _ _ (by omega)]
        exact (i.2.1 t ht).1
    · by_cases q : t = u
      · rw [q, upd_at]
        exact rg (by decide) (by decide) z3 z4
      · rw [upd_ne _ _ (by omega), upd_ne _ _ (by omega)]
        exact (i.2.1 t ht).2.1
  · rw [upd_ne _ _ (by omega), upd_ne _ _ (by omega)]
    exact i.2.2.1
  · rw [upd_ne _ _ (by omega), upd_ne _ _ (by omega)]
    exact i.2.2.2.1
theorem pf_at {s : Nat → Int32} (p j : Nat) (x : Int32) : pfS (upd s (19 + 10 * p + j) x) p j = x := upd_at ..
theorem pf_ne {s : Nat → Int32} {p j w : Nat} (x : Int32) (h : w ≠ j) : pfS (upd s (19 + 10 * p + j) x) p w = pfS s p w := upd_ne _ _ (by omega)
theorem InS_gives {s : Nat → Int32} (i : InS s) {p x y : Int32} (w : giW s p x y = 0) : p.toNatClampNeg < nP s ∧ InS (upd (upd s (19 + 10 * p.toNatClampNeg + 2) x) (19 + 10 * p.toNatClampNeg + 3) y) := by
  have c := inR_f w (by decide)
  unfold giW at w
  rw [if_pos c] at w
  have w2 : woS x 0 30 y 0 60 = 0 := by
    by_cases d : woS x 0 30 y 0 60 = 0
    · exact d
    · rw [if_neg d] at w
      exact w
  rw [if_pos w2] at w
  have le : x ≤ y := by
    by_cases d : x ≤ y
    · exact d
    · rw [if_neg d] at w
      exact absurd w (by decide)
  obtain ⟨z1, z2, z3, z4⟩ := woS_0 w2
  obtain ⟨q, eq, hq⟩ := isP_nI i.o c
  have hP := i.o.hP
  rw [eq, nI_clamp (show q < 2 ^ 31 by omega)]
  obtain ⟨k1, h1, e1⟩ := rg (n := 30) (by decide) (by decide) z1 z2
  obtain ⟨k2, h2, e2⟩ := rg (n := 60) (by decide) (by decide) z3 z4
  have le2 : k1 ≤ k2 := by
    rw [e1, e2] at le
    exact (nI_leI (by omega) (by omega)).mp le
  refine ⟨hq, InS_pl i (p := q) (by omega) (fun _ => ?_) (fun j hj => by rw [upd_ne _ _ (by omega), upd_ne _ _ (by omega)])⟩
  obtain ⟨f0, f1, -, f4, f5, f6, f7, f8, f9⟩ := i.f hq
  unfold plI
  rw [pf_at, pf_ne (w := 2) y (by decide), pf_at, pf_ne (w := 0) y (by decide), pf_ne (w := 0) x (by decide), pf_ne (w := 1) y (by decide), pf_ne (w := 1) x (by decide), pf_ne (w := 4) y (by decide), pf_ne (w := 4) x (by decide), pf_ne (w := 5) y (by decide), pf_ne (w := 5) x (by decide), pf_ne (w := 6) y (by decide), pf_ne (w := 6) x (by decide), pf_ne (w := 7) y (by decide), pf_ne (w := 7) x (by decide), pf_ne (w := 8) y (by decide), pf_ne (w := 8) x (by decide), pf_ne (w := 9) y (by decide), pf_ne (w := 9) x (by decide)]
  exact ⟨f0, f1, ⟨k1, k2, le2, h1, h2, e1, e2⟩, f4, f5, f6, f7, f8, f9⟩
theorem InS_costs {s : Nat → Int32} (i : InS s) {p x y z : Int32} (w : coW s p x y z = 0) : p.toNatClampNeg < nP s ∧ InS (upd (upd (upd s (19 + 10 * p.toNatClampNeg + 4) x) (19 + 10 * p.toNatClampNeg + 5) y) (19 + 10 * p.toNatClampNeg + 6) z) := by
  have c := inR_f w (by decide)
  unfold coW at w
  rw [if_pos c] at w
  have n1 : ¬ (x < 0 ∨ y < 0 ∨ z < 0) := fun d => by
    rw [if_pos d] at w
    exact absurd w (by decide)
  rw [if_neg n1] at w
  have n2 : ¬ (9 < x ∨ 30 < y ∨ 50 < z) := fun d => by
    rw [if_pos d] at w
    exact absurd w (by decide)
  obtain ⟨q, eq, hq⟩ := isP_nI i.o c
  have hP := i.o.hP
  rw [eq, nI_clamp (show q < 2 ^ 31 by omega)]
  have b1 := rg (n := 9) (by decide) (by decide) (fun d => n1 (Or.inl d)) (fun d => n2 (Or.inl d))
  have b2 := rg (n := 30) (by decide) (by decide) (fun d => n1 (Or.inr (Or.inl d))) (fun d => n2 (Or.inr (Or.inl d)))
  have b3 := rg (n := 50) (by decide) (by decide) (fun d => n1 (Or.inr (Or.inr d))) (fun d => n2 (Or.inr (Or.inr d)))
  refine ⟨hq, InS_pl i (p := q) (by omega) (fun _ => ?_) (fun j hj => by rw [upd_ne _ _ (by omega), upd_ne _ _ (by omega), upd_ne _ _ (by omega)])⟩
  obtain ⟨f0, f1, f23, -, -, -, f7, f8, f9⟩ := i.f hq
  unfold plI
  rw [pf_at, pf_ne (w := 5) z (by decide), pf_at, pf_ne (w := 4) z (by decide), pf_ne (w := 4) y (by decide), pf_at]
  rw [pf_ne (w := 0) z (by decide), pf_ne (w := 0) y (by decide), pf_ne (w := 0) x (by decide), pf_ne (w := 1) z (by decide), pf_ne (w := 1) y (by decide), pf_ne (w := 1) x (by decide), pf_ne (w := 2) z (by decide), pf_ne (w := 2) y (by decide), pf_ne (w := 2) x (by decide), pf_ne (w := 3) z (by decide), pf_ne (w := 3) y (by decide), pf_ne (w := 3) x (by decide), pf_ne (w := 7) z (by decide), pf_ne (w := 7) y (by decide), pf_ne (w := 7) x (by decide), pf_ne (w := 8) z (by decide), pf_ne (w := 8) y (by decide), pf_ne (w := 8) x (by decide), pf_ne (w := 9) z (by decide), pf_ne (w := 9) y (by decide), pf_ne (w := 9) x (by decide)]
  exact ⟨f0, f1, f23, b1, b2, b3, f7, f8, f9⟩
theorem InS_times {s : Nat → Int32} (i : InS s) {p x y : Int32} (w : tiW s p x y = 0) : p.toNatClampNeg < nP s ∧ InS (upd (upd s (19 + 10 * p.toNatClampNeg + 7) x) (19 + 10 * p.toNatClampNeg + 8) y) := by
  have c := inR_f w (by decide)
  unfold tiW at w
  rw [if_pos c] at w
  obtain ⟨z1, z2, z3, z4⟩ := woS_0 w
  obtain ⟨q, eq, hq⟩ := isP_nI i.o c
  have hP := i.o.hP
  rw [eq, nI_clamp (show q < 2 ^ 31 by omega)]
  have b1 := rg1 (n := 3) (by decide) (by decide) z1 z2
  have b2 := rg1 (n := 3) (by decide) (by decide) z3 z4
  refine ⟨hq, InS_pl i (p := q) (by omega) (fun _ => ?_) (fun j hj => by rw [upd_ne _ _ (by omega), upd_ne _ _ (by omega)])⟩
  obtain ⟨f0, f1, f23, f4, f5, f6, -, -, f9⟩ := i.f hq
  unfold plI
  rw [pf_at, pf_ne (w := 7) y (by decide), pf_at]
  rw [pf_ne (w := 0) y (by decide), pf_ne (w := 0) x (by decide), pf_ne (w := 1) y (by decide), pf_ne (w := 1) x (by decide), pf_ne (w := 2) y (by decide), pf_ne (w := 2) x (by decide), pf_ne (w := 3) y (by decide), pf_ne (w := 3) x (by decide), pf_ne (w := 4) y (by decide), pf_ne (w := 4) x (by decide), pf_ne (w := 5) y (by decide), pf_ne (w := 5) x (by decide), pf_ne (w := 6) y (by decide), pf_ne (w := 6) x (by decide), pf_ne (w := 9) y (by decide), pf_ne (w := 9) x (by decide)]
  exact ⟨f0, f1, f23, f4, f5, f6, b1, b2, f9⟩
theorem InS_age {s : Nat → Int32} (i : InS s) {p x : Int32} (w : agW s p x = 0) : p.toNatClampNeg < nP s ∧ InS (upd s (19 + 10 * p.toNatClampNeg + 9) x) := by
  have c := inR_f w (by decide)
  unfold agW at w
  rw [if_pos c] at w
  have w2 : wbS x (-4) 4 = 0 := by
    by_cases d : wbS x (-4) 4 = 0
    · exact d
    · rw [if_neg d] at w
      exact w
  rw [if_pos w2] at w
  have x0 : ¬ x = 0 := fun d => by
    rw [if_pos d] at w
    exact absurd w (by decide)
  obtain ⟨z1, z2⟩ := wbS_0 w2
  have a1 := Int32.le_iff_toInt_le.mp (Int32.not_lt.mp z1)
  have a2 := Int32.le_iff_toInt_le.mp (Int32.not_lt.mp z2)
  have e4 : (-4 : Int32).toInt = -4 := by decide
  have e5 : (4 : Int32).toInt = 4 := by decide
  rw [e4] at a1
  rw [e5] at a2
  obtain ⟨q, eq, hq⟩ := isP_nI i.o c
  have hP := i.o.hP
  rw [eq, nI_clamp (show q < 2 ^ 31 by omega)]
  refine ⟨hq, InS_pl i (p := q) (by omega) (fun _ => ?_) (fun j hj => by rw [upd_ne _ _ (by omega)])⟩
  obtain ⟨f0, f1, f23, f4, f5, f6, f7, f8, -⟩ := i.f hq
  unfold plI
  rw [pf_at, pf_ne (w := 0) x (by decide), pf_ne (w := 1) x (by decide), pf_ne (w := 2) x (by decide), pf_ne (w := 3) x (by decide), pf_ne (w := 4) x (by decide), pf_ne (w := 5) x (by decide), pf_ne (w := 6) x (by decide), pf_ne (w := 7) x (by decide), pf_ne (w := 8) x (by decide)]
  exact ⟨f0, f1, f23, f4, f5, f6, f7, f8, a1, a2, x0⟩
theorem adS_pl (s : Nat → Int32) {p : Nat} (hp : p < 3) (kd fg : Int32) : ∀ w, w < 10 → pfS (adS s p kd fg) p w = bgF kd fg w := by
  intro w hw
  unfold adS
  show upd _ 3 _ (19 + 10 * p + w) = _
  rw [upd_ne _ _ (by omega)]
  match w, hw with
  | 0, _ => rw [upd_ne _ _ (by omega), upd_ne _ _ (by omega), upd_ne _ _ (by omega), upd_ne _ _ (by omega), upd_ne _ _ (by omega), upd_ne _ _ (by omega), upd_ne _ _ (by omega), upd_ne _ _ (by omega), upd_ne _ _ (by omega), upd_at]; rfl
  | 1, _ => rw [upd_ne _ _ (by omega), upd_ne _ _ (by omega), upd_ne _ _ (by omega), upd_ne _ _ (by omega), upd_ne _ _ (by omega), upd_ne _ _ (by omega), upd_ne _ _ (by omega), upd_ne _ _ (by omega), upd_at]; rfl
  | 2, _ => rw [upd_ne _ _ (by omega), upd_ne _ _ (by omega), upd_ne _ _ (by omega), upd_ne _ _ (by omega), upd_ne _ _ (by omega), upd_ne _ _ (by omega), upd_ne _ _ (by omega), upd_at]; rfl
  | 3, _ => rw [upd_ne _ _ (by omega), upd_ne _ _ (by omega), upd_ne _ _ (by omega), upd_ne _ _ (by omega), upd_ne _ _ (by omega), upd_ne _ _ (by omega), upd_at]; rfl
  | 4, _ => rw [upd_ne _ _ (by omega), upd_ne _ _ (by omega), upd_ne _ _ (by omega), upd_ne _ _ (by omega), upd_ne _ _ (by omega), upd_at]; rfl
  | 5, _ => rw [upd_ne _ _ (by omega), upd_ne _ _ (by omega), upd_ne _ _ (by omega), upd_ne _ _ (by omega), upd_at]; rfl
  | 6, _ => rw [upd_ne _ _ (by omega), upd_ne _ _ (by omega), upd_ne _ _ (by omega), upd_at]; rfl
  | 7, _ => rw [upd_ne _ _ (by omega), upd_ne _ _ (by omega), upd_at]; rfl
  | 8, _ => rw [upd_ne _ _ (by omega), upd_at]; rfl
  | 9, _ => rw [upd_at]; rfl
theorem InS_plant {s : Nat → Int32} (i : InS s) {kd fg : Int32} (w : plW s kd fg = 0) : nP s < 3 ∧ InS (adS s (nP s) kd fg) := by
  have p3 := plW_3 i.o w
  have c := inR_f w (by decide)
  unfold plW at w
  rw [if_pos c] at w
  have w2 : wbS fg 0 9 = 0 := by
    by_cases d : wbS fg 0 9 = 0
    · exact d
    · rw [if_neg d] at w
      exact w
  obtain ⟨z1, z2⟩ := wbS_0 w2
  obtain ⟨k1, h1, e1⟩ := in05 c
  obtain ⟨k2, h2, e2⟩ := rg (n := 9) (by decide) (by decide) z1 z2
  obtain ⟨o', eH, eP⟩ := oks_add i.o p3 kd fg
  have ne : ∀ j, j ≠ 3 → (j < 19 + 10 * nP s ∨ 29 + 10 * nP s ≤ j) → adS s (nP s) kd fg j = s j := fun j j3 hj => by
    unfold adS
    rw [upd_ne _ _ j3, upd_ne _ _ (by omega), upd_ne _ _ (by omega), upd_ne _ _ (by omega), upd_ne _ _ (by omega), upd_ne _ _ (by omega), upd_ne _ _ (by omega), upd_ne _ _ (by omega), upd_ne _ _ (by omega), upd_ne _ _ (by omega), upd_ne _ _ (by omega)]
  obtain ⟨o, a, b, c', d, f⟩ := i
  refine ⟨p3, o', fun t ht => ?_, ?_, ?_, fun q hq => ?_, ?_⟩
  · rw [ne (4 + t) (by omega) (by omega), ne (9 + t) (by omega) (by omega), ne (14 + t) (by omega) (by omega)]
    exact a t ht
  · rw [ne 1 (by omega) (by omega)]
    exact b
  · rw [ne 2 (by omega) (by omega)]
    exact c'
  · rw [eP] at hq
    by_cases y : q = nP s
    · rw [y]
      have g := adS_pl s p3 kd fg
      have ex : plE (pfS (adS s (nP s) kd fg) (nP s)) (bgF kd fg) := g
      refine ex.I ?_
      unfold plI
      refine ⟨⟨k1, h1, e1⟩, ⟨k2, by omega, e2⟩, ⟨0, 10, by decide, by decide, by decide, rfl, rfl⟩, ⟨1, by decide, rfl⟩, ⟨0, by decide, rfl⟩, ⟨0, by decide, rfl⟩, ⟨1, by decide, by decide, rfl⟩, ⟨1, by decide, by decide, rfl⟩, ?_, ?_, ?_⟩
      · show -4 ≤ (-1 : Int32).toInt
        decide
      · show (-1 : Int32).toInt ≤ 4
        decide
      · show ¬ (-1 : Int32) = 0
        decide
    · have ex : plE (pfS (adS s (nP s) kd fg) q) (pfS s q) := fun w hw => ne (19 + 10 * q + w) (by omega) (by omega)
      exact ex.I (d q (by omega))
  · rw [eH]
    exact f
/-- a statement done keeps the bounds -/
theorem InS_do {s : Nat → Int32} (i : InS s) {c : Int32} {nu : Nat → Int32} {sg : Int32} (w : wtS s c nu sg = 0) : InS (doS s c nu sg) := by
  unfold wtS at w
  unfold doS
  by_cases c1 : c = 97
  · rw [if_pos c1] at w ⊢
    exact (InS_age i w).2
  · rw [if_neg c1] at w ⊢
    by_cases c2 : c = 99
    · rw [if_pos c2] at w ⊢
      exact (InS_costs i w).2
    · rw [if_neg c2] at w ⊢
      by_cases c3 : c = 100
      · rw [if_pos c3] at w ⊢
        exact (InS_demand i w).2
      · rw [if_neg c3] at w ⊢
        by_cases c4 : c = 103
        · rw [if_pos c4] at w ⊢
          exact (InS_gives i w).2
        · rw [if_neg c4] at w ⊢
          by_cases c5 : c = 112
          · rw [if_pos c5] at w ⊢
            exact (InS_plant i w).2
          · rw [if_neg c5] at w ⊢
            by_cases c6 : c = 116
            · rw [if_pos c6] at w ⊢
              exact (InS_times i w).2
            · rw [if_neg c6] at w ⊢
              exact InS_hours i w
