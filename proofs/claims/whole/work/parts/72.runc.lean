/-! ===== the class: rounds of prices ===== -/
theorem ct_addAmounts {p : Nat} (x : Int32) (h : Hp) (s σ : Nat → Int32) (a : pvI s σ h) (hp : p < nP σ) (ex : h.1 61 p = x) : CtV 3 mX2_addAmounts [.ref 58, .ref (6 + p), .int (nI p)] h (fun g => Fr [60, 63] h g ∧ g.1 63 p = sumI (gvV σ p x) (nH σ) ∧ (∀ q, q ≠ p → g.1 63 q = h.1 63 q) ∧ ∀ t, t < nH σ → g.1 60 t = h.1 60 t + gvV σ p x t) := by
  have i := a.2.2.1
  have hP := i.o.hP
  have hH := i.o.hH
  have pk := isPl_6 p (by omega)
  have ag : ∀ t, t ≤ 5 → aR 9 (agS (pfS σ p 9) (hasB x) t) := fun t ht => (aR_ag (plI_age (i.f hp)) _ t (by omega)).mono (by omega)
  have lp : ∀ n t : Nat, n + t = nH σ → ∀ (w : Bool) (g : Hp), Fr [60, 63] h g → w = !decide (agS (pfS σ p 9) (hasB x) t < 0) → g.1 63 p = sumI (gvV σ p x) t → (∀ q, q ≠ p → g.1 63 q = h.1 63 q) → (∀ u, u < nH σ → g.1 60 u = if u < t then h.1 60 u + gvV σ p x u else h.1 60 u) → GoV 3 mX2_addAmounts 23 [(0, .ref 58), (1, .ref (6 + p)), (2, .int (nI p)), (3, .int (bI w)), (4, .int (nI t))] [] g (fun g => Fr [60, 63] h g ∧ g.1 63 p = sumI (gvV σ p x) (nH σ) ∧ (∀ q, q ≠ p → g.1 63 q = h.1 63 q) ∧ ∀ t, t < nH σ → g.1 60 t = h.1 60 t + gvV σ p x t) := by
    intro n
    induction n with
    | zero =>
      intro t ht w g f ew e63 eq e60
      have ht : t = nH σ := by omega
      subst ht
      have ag := a.fr f (by decide) (by decide)
      refine b_X2_addAmounts_23 pk ⟨fun _ => ⟨f, e63, eq, fun t ht => ?_⟩, fun c => absurd ?_ c⟩
      · rw [e60 t ht, if_pos ht]
      · rw [ag.1.H, ← a.2.2.2.1 0 (by omega), i.o.eH]
        exact nI_le (by omega) (by omega)
    | succ n ih =>
      intro t ht w g f ew e63 eq e60
      have ag2 := a.fr f (by decide) (by decide)
      have e61 : g.1 61 p = x := by rw [f.1 61 (by decide)]; exact ex
      have v3 : vp_in (nI p) 3 := vp_in_nI (by omega) (by omega)
      have v5 : vp_in (nI t) 5 := vp_in_nI (by omega) (by omega)
      have cp : (nI p).toNatClampNeg = p := nI_clamp (by omega)
      have ct : (nI t).toNatClampNeg = t := nI_clamp (by omega)
      have ew2 : hasB x t = !decide (agS (pfS σ p 9) (hasB x) (t + 1) < 0) := by
        have gn := go_neg (by decide) ((aR_ag (plI_age (i.f hp)) (hasB x) t (by omega)).mono (show 4 + t ≤ 10 by omega)) (hasB x t)
        have : decide (agS (pfS σ p 9) (hasB x) (t + 1) < 0) = decide (hasB x t = false) := decide_eq_decide.mpr gn
        rw [this]
        cases hasB x t <;> rfl
      refine b_X2_addAmounts_23 pk ⟨fun c => absurd c ?_, fun _ => ⟨v3, ?_⟩⟩
      · rw [ag2.1.H, ← a.2.2.2.1 0 (by omega), i.o.eH]
        exact nI_ge (by omega) (by omega)
      · rw [cp, e61, hb_ite]
        have s103 : ∀ g2 : Hp, Fr [60, 63] h g2 → g2.1 63 p = sumI (gvV σ p x) (t + 1) → (∀ q, q ≠ p → g2.1 63 q = h.1 63 q) → (∀ u, u < nH σ → g2.1 60 u = if u < t + 1 then h.1 60 u + gvV σ p x u else h.1 60 u) → GoV 3 mX2_addAmounts 103 [(0, .ref 58), (1, .ref (6 + p)), (2, .int (nI p)), (4, .int (nI t)), (5, .int (bI (hasB x t)))] [] g2 (fun g => Fr [60, 63] h g ∧ g.1 63 p = sumI (gvV σ p x) (nH σ) ∧ (∀ q, q ≠ p → g.1 63 q = h.1 63 q) ∧ ∀ t, t < nH σ → g.1 60 t = h.1 60 t + gvV σ p x t) := by
          intro g2 f2 a1 a2 a3
          refine b_X2_addAmounts_103 pk ?_
          rw [nI_1]
          exact ih (t + 1) (by omega) _ g2 f2 ew2 a1 a2 a3
        refine ⟨fun c => s103 g f ?_ eq (fun u hu => ?_), fun c => ?_⟩
        · have hb := bI_0.mp c
          rw [e63, sumI, gvV, if_neg (noF hb), Int32.add_zero]
        · have hb := bI_0.mp c
          rw [e60 u hu]
          by_cases y : u = t
          · rw [y, if_neg (by omega), if_pos (by omega), gvV, if_neg (noF hb), Int32.add_zero]
          · by_cases y2 : u < t
            · rw [if_pos y2, if_pos (by omega)]
            · rw [if_neg y2, if_neg (by omega)]
        · have hb := bI_t c
          have eb : (if bI w = 0 then (1 : Int32) else 0) = bI (decide (agS (pfS σ p 9) (hasB x) t < 0)) := by
            rw [ew]
            cases decide (agS (pfS σ p 9) (hasB x) t < 0) <;> rfl
          rw [eb]
          refine pc (ct_amountAt (by omega) _ g s σ ag2 hp) ⟨v3, v3, fun g9 e9 => ⟨v5, v5, fun g12 e12 => ?_⟩⟩
          have eg : gvV σ p x t = anS σ p t (decide (agS (pfS σ p 9) (hasB x) t < 0)) := by rw [gvV, if_pos hb]
          rw [← eg] at e9
          rw [← eg, ct] at e12
          have f9 : Fr [60, 63] h g9 := by
            rw [e9]
            exact f.tr (Fr.ui (by decide))
          refine s103 g12 ?_ ?_ (fun q hq => ?_) (fun u hu => ?_)
          · rw [e12]
            exact f9.tr (Fr.ui (by decide))
          · rw [e12, ui_ne (by decide), e9, ui_aa, e63]
            rfl
          · rw [e12, ui_ne (by decide), e9, ui_nj hq]
            exact eq q hq
          · rw [e12, ui_get]
            have e6 : g9.1 60 = g.1 60 := by rw [e9, ui_ne (by decide)]
            by_cases y : u = t
            · rw [if_pos ⟨rfl, y⟩, e6, e60 t (by omega), if_neg (by omega), if_pos (by omega), y]
            · rw [if_neg (fun w => y w.2), e6, e60 u hu]
              by_cases y2 : u < t
              · rw [if_pos y2, if_pos (by omega)]
              · rw [if_neg y2, if_neg (by omega)]
  refine e_X2_addAmounts pk ⟨vp_in_nI (by omega) (by omega), fun g2 e2 => ?_⟩
  rw [nI_clamp (show p < 2 ^ 31 by omega)] at e2
  have f2 : Fr [60, 63] h g2 := by
    rw [e2]
    exact Fr.ui (by decide)
  have a2 := a.fr f2 (by decide) (by decide)
  have ae := a2.1.e (p := p) (by omega)
  rw [← a.2.2.2.1.f] at ae
  have eb : (if g2.1 (6 + p) 9 ≤ 0 then (0 : Int32) else 1) = bI (!decide (agS (pfS σ p 9) (hasB x) 0 < 0)) := by
    rw [ae 9 (by decide), ite_bI']
    have : decide (¬ pfS σ p 9 ≤ 0) = !decide (pfS σ p 9 < 0) := by
      have := go_neg (m := 4) (by decide) (plI_age (i.f hp)) true
      obtain ⟨j, h1, h2, h3⟩ := plI_age (i.f hp)
      have fin : ∀ j, j < 5 → 1 ≤ j → decide (¬ nI j ≤ 0) = !decide (nI j < 0) ∧ decide (¬ -nI j ≤ 0) = !decide (-nI j < 0) := by decide
      obtain ⟨q1, q2⟩ := fin j (by omega) h1
      rcases h3 with e | e
      · rw [e]
        exact q1
      · rw [e]
        exact q2
    rw [this]
    rfl
  rw [eb]
  refine lp (nH σ) 0 rfl _ g2 f2 rfl ?_ (fun q hq => ?_) (fun u hu => ?_)
  · rw [e2, ui_aa]
    rfl
  · rw [e2, ui_nj hq]
  · rw [if_neg (by omega), e2, ui_ne (by decide)]
def akC : List Nat := [60, 61, 62, 63]
/-- asked: rows, nets, amounts, together -/
def akI (σ : Nat → Int32) (n : Nat) (g : Hp) : Prop := (∀ p, p < n → g.1 61 p = awV σ p ∧ g.1 62 p = neV σ p (awV σ p) ∧ g.1 63 p = sumI (gvV σ p (awV σ p)) (nH σ)) ∧ ∀ t, t < nH σ → g.1 60 t = sumI (fun p => gvV σ p (awV σ p) t) n
set_option maxHeartbeats 1000000 in
theorem ct_ask (h : Hp) (s σ : Nat → Int32) (a : pvI s σ h) : CtV 4 mX2_ask [.ref 58] h (fun g => Fr akC h g ∧ akI σ (nP σ) g) := by
  have i := a.2.2.1
  have hP := i.o.hP
  have hH := i.o.hH
  have hpow := pow_le hH
  have lp : ∀ n p : Nat, n + p = nP σ → ∀ g : Hp, Fr akC h g → akI σ p g → GoV 4 mX2_ask 10 [(0, .ref 58), (1, .int (nI p))] [] g (fun g => Fr akC h g ∧ akI σ (nP σ) g) := by
    intro n
    induction n with
    | zero =>
      intro p hp g f k
      have hp : p = nP σ := by omega
      subst hp
      have ag := a.fr f (by decide) (by decide)
      refine b_X2_ask_10 ⟨fun _ => ⟨f, k⟩, fun c => absurd ?_ c⟩
      rw [ag.1.M, ← a.2.2.2.1 3 (by omega), i.o.eP]
      exact nI_le (by omega) (by omega)
    | succ n ih =>
      intro p hp g f k
      have hp2 : p < nP σ := by omega
      have ag := a.fr f (by decide) (by decide)
      have v3 : vp_in (nI p) 3 := vp_in_nI (by omega) (by omega)
      have cp : (nI p).toNatClampNeg = p := nI_clamp (by omega)
      have pk := isPl_6 p (by omega)
      refine b_X2_ask_10 ⟨fun c => absurd c ?_, fun _ => ⟨v3, v3, fun g3 e3 => ⟨v3, fun g5 e5 => ?_⟩⟩⟩
      · rw [ag.1.M, ← a.2.2.2.1 3 (by omega), i.o.eP]
        exact nI_ge (by omega) (by omega)
      · rw [cp] at e3 e5 ⊢
        have kk : ∀ g2 : Hp, (∀ q, q ≠ p → g2.1 61 q = g.1 61 q ∧ g2.1 62 q = g.1 62 q) → g2.1 63 = g.1 63 → g2.1 60 = g.1 60 → akI σ p g2 := fun g2 e1 e63 e60 => ⟨fun q hq => by
            rw [(e1 q (by omega)).1, (e1 q (by omega)).2, e63]
            exact k.1 q hq, fun t ht => by
            rw [e60]
            exact k.2 t ht⟩
        have inn : ∀ m x : Nat, m + x = 2 ^ nH σ → ∀ (b : Int32 × Int32) (g2 : Hp), Fr akC h g2 → (∀ q, q ≠ p → g2.1 61 q = g.1 61 q ∧ g2.1 62 q = g.1 62 q) → g2.1 63 = g.1 63 → g2.1 60 = g.1 60 → bqI σ p b (g2.1 61 p) (g2.1 62 p) → itN (awT σ p) m x b = itN (awT σ p) (2 ^ nH σ) 0 (-9, 0) → GoV 4 mX2_ask 48 [(0, .ref 58), (1, .int (nI p)), (2, .ref (6 + p)), (3, .int (nI x))] [] g2 (fun g => Fr akC h g ∧ akI σ (nP σ) g) := by
          intro m
          induction m with
          | zero =>
            intro x hx b g2 f2 eq e63 e60 I er
            have hx : x = 2 ^ nH σ := by omega
            subst hx
            have ag2 := a.fr f2 (by decide) (by decide)
            have eb : b = itN (awT σ p) (2 ^ nH σ) 0 (-9, 0) := er
            rw [eb] at I
            obtain ⟨fr, fn⟩ := aw_fin i hp2 I
            refine b_X2_ask_48 pk ⟨fun _ => ⟨_, ct_addAmounts (awV σ p) g2 s σ ag2 hp2 fr, fun h4 q => ?_⟩, fun c => absurd ?_ c⟩
            · obtain ⟨q1, q2, q3, q4⟩ := q
              rw [nI_1]
              refine ih (p + 1) (by omega) h4 (f2.tr (q1.mono (by decide))) ⟨fun q hq => ?_, fun t ht => ?_⟩
              · rw [q1.1 61 (by decide), q1.1 62 (by decide)]
                by_cases y : q = p
                · rw [y]
                  exact ⟨fr, fn, q2⟩
                · rw [q3 q y, e63, (eq q y).1, (eq q y).2]
                  exact k.1 q (by omega)
              · rw [q4 t ht, e60, k.2 t ht]
                rfl
            · rw [ag2.1.H, ← a.2.2.2.1 0 (by omega), i.o.eH, shl1 (nH σ) (by omega)]
              exact nI_le (by omega) (by omega)
          | succ m ihm =>
            intro x hx b g2 f2 eq e63 e60 I er
            have ag2 := a.fr f2 (by decide) (by decide)
            rw [itN] at er
            have stp := bs_step i hp2 (x := x) (by omega) I
            refine b_X2_ask_48 pk ⟨fun c => absurd c ?_, fun _ => pc (ct_netOfC (nI x) g2 s σ ag2 hp2) ⟨v3, ?_⟩⟩
            · rw [ag2.1.H, ← a.2.2.2.1 0 (by omega), i.o.eH, shl1 (nH σ) (by omega)]
              exact nI_ge (by omega) (by omega)
            · rw [cp]
              refine ⟨fun c => b_X2_ask_95 pk ?_, fun c => ⟨v3, fun g13 e13 => ⟨v3, fun g15 e15 => b_X2_ask_95 pk ?_⟩⟩⟩
              · rw [nI_1]
                exact ihm (x + 1) (by omega) _ g2 f2 eq e63 e60 (stp.1 c) er
              · rw [nI_1]
                have I2 := stp.2 c
                refine ihm (x + 1) (by omega) _ g15 ?_ (fun q hq => ⟨?_, ?_⟩) ?_ ?_ ?_ er
                · rw [e15, e13]
                  exact (f2.tr (Fr.ui (by decide))).tr (Fr.ui (by decide))
                · rw [e15, ui_nj hq, e13, ui_ne (by decide)]
                  exact (eq q hq).1
                · rw [e15, ui_ne (by decide), e13, ui_nj hq]
                  exact (eq q hq).2
                · rw [e15, ui_ne (by decide), e13, ui_ne (by decide)]
                  exact e63
                · rw [e15, ui_ne (by decide), e13, ui_ne (by decide)]
                  exact e60
                · rw [e15, ui_aa, ui_ne (by decide), e13, ui_aa]
                  exact I2
        refine inn (2 ^ nH σ) 0 rfl (-9, 0) g5 ?_ (fun q hq => ⟨?_, ?_⟩) ?_ ?_ (Or.inl ⟨rfl, ?_, ?_⟩) rfl
        · rw [e5, e3]
          exact (f.tr (Fr.ui (by decide))).tr (Fr.ui (by decide))
        · rw [e5, ui_ne (by decide), e3, ui_nj hq]
        · rw [e5, ui_nj hq, e3, ui_ne (by decide)]
        · rw [e5, ui_ne (by decide), e3, ui_ne (by decide)]
        · rw [e5, ui_ne (by decide), e3, ui_ne (by decide)]
        · rw [e5, ui_ne (by decide), e3, ui_aa]
        · rw [e5, ui_aa]
  refine e_X2_ask ⟨_, ct_fillA (r := 60) (n := 5) c_60 (by decide) 0 h, fun h4 q => ?_⟩
  refine lp (nP σ) 0 rfl h4 (q.1.mono (by decide)) ⟨fun p hp => by omega, fun t ht => ?_⟩
  rw [q.2 t (by omega)]
  rfl
theorem ct_boundNow (h : Hp) (s σ : Nat → Int32) (a : pvI s σ h) (k : akI σ (nP σ) h) : CtI 0 mX2_boundNow [.ref 58] h (pq (bdV σ) h) := by
  have i := a.2.2.1
  have hP := i.o.hP
  have hH := i.o.hH
  have eM : h.1 1 5 = nI (nP σ) := by rw [a.1.M, ← a.2.2.2.1 3 (by omega), i.o.eP]
  have eH : h.1 1 0 = nI (nH σ) := by rw [a.1.H, ← a.2.2.2.1 0 (by omega), i.o.eH]
  have l2 : ∀ n p : Nat, n + p = nP σ → GoI 0 mX2_boundNow 42 [(0, .ref 58), (1, .int (sumO (fun p => neV σ p (awV σ p)) (sumI (fun t => σ (14 + t) * σ (4 + t)) (nH σ)) p)), (2, .int (nI p))] [] h (pq (bdV σ) h) := by
    intro n
    induction n with
    | zero =>
      intro p hp
      have hp : p = nP σ := by omega
      subst hp
      refine b_X2_boundNow_42 ⟨fun _ => ⟨rfl, rfl⟩, fun c => absurd ?_ c⟩
      rw [eM]
      exact nI_le (by omega) (by omega)
    | succ n ih =>
      intro p hp
      have ih2 := ih (p + 1) (by omega)
      refine b_X2_boundNow_42 ⟨fun c => absurd c ?_, fun _ => ⟨vp_in_nI (by omega) (by omega), ?_⟩⟩
      · rw [eM]
        exact nI_ge (by omega) (by omega)
      · rw [nI_clamp (show p < 2 ^ 31 by omega), nI_1, (k.1 p (by omega)).2.1]
        exact ih2
  have l1 : ∀ n t : Nat, n + t = nH σ → GoI 0 mX2_boundNow 4 [(0, .ref 58), (1, .int (sumI (fun t => σ (14 + t) * σ (4 + t)) t)), (2, .int (nI t))] [] h (pq (bdV σ) h) := by
    intro n
    induction n with
    | zero =>
      intro t ht
      have ht : t = nH σ := by omega
      subst ht
      refine b_X2_boundNow_4 ⟨fun _ => l2 (nP σ) 0 rfl, fun c => absurd ?_ c⟩
      rw [eH]
      exact nI_le (by omega) (by omega)
    | succ n ih =>
      intro t ht
      have ih2 := ih (t + 1) (by omega)
      have v5 : vp_in (nI t) 5 := vp_in_nI (by omega) (by omega)
      refine b_X2_boundNow_4 ⟨fun c => absurd c ?_, fun _ => ⟨v5, v5, ?_⟩⟩
      · rw [eH]
        exact nI_ge (by omega) (by omega)
      · rw [nI_clamp (show t < 2 ^ 31 by omega), nI_1, a.2.2.2.2 t (by omega), a.1.d1 (by omega), ← a.2.2.2.1 (4 + t) (by omega)]
        exact ih2
  exact e_X2_boundNow (l1 (nH σ) 0 rfl)
theorem cl9_b (v : Int32) : ∃ k : Nat, k ≤ 99 ∧ cl9 v = nI k := by
  unfold cl9
  by_cases c : 0 ≤ v
  · rw [if_pos c]
    by_cases d : v ≤ 99
    · rw [if_pos d]
      exact nI_of2 (M := 99) (n := 99) (by decide) (Int32.not_lt.mpr c) d
    · rw [if_neg d]
      exact ⟨99, by decide, rfl⟩
  · rw [if_neg c]
    exact ⟨0, by decide, rfl⟩
theorem cl9_m (v : Int32) : imax 0 (imin 99 v) = cl9 v := by
  unfold cl9 imax imin
  by_cases c : 0 ≤ v
  · rw [if_pos c]
    by_cases d : v ≤ 99
    · rw [if_pos d]
      by_cases e : v < 99
      · rw [if_pos e]
        by_cases z : (0 : Int32) < v
        · rw [if_pos z]
        · rw [if_neg z]
          exact Int32.le_antisymm c (Int32.not_lt.mp z)
      · rw [if_neg e]
        have : v = 99 := Int32.le_antisymm d (Int32.not_lt.mp e)
        rw [this]
        decide
    · rw [if_neg d, if_neg (fun z => d (Int32.le_of_lt z))]
      decide
  · rw [if_neg c]
    have e : v < 99 := Int32.lt_of_lt_of_le (Int32.not_le.mp c) (by decide)
    rw [if_pos e, if_neg (fun z => c (Int32.le_of_lt z))]
theorem sub_sum (g : Nat → Int32) (a : Int32) : ∀ n, subO g a n = a - sumI g n
  | 0 => by
    rw [subO, sumI, Int32.sub_zero]
  | n + 1 => by
    rw [subO, sumI, sub_sum g a n, Int32.sub_sub]
theorem InS_rd {σ : Nat → Int32} (i : InS σ) {k j : Nat} (hj : j ≤ 5) : InS (rdP σ k j) := by
  have e : ∀ n, (n < 14 ∨ 19 ≤ n) → rdP σ k j n = σ n := fun n hn => rdP_lo σ k j n (by omega)
  have pe : pvE (rdP σ k j) σ := e
  obtain ⟨o, a, b, c, d, f⟩ := i
  refine ⟨(o.of (e 0 (by omega)) (e 3 (by omega))).1, fun t ht => ?_, ?_, ?_, ?_, ?_⟩
  · rw [e (4 + t) (by omega), e (9 + t) (by omega)]
    refine ⟨(a t ht).1, (a t ht).2.1, ?_⟩
    unfold rdP
    by_cases y : 14 ≤ 14 + t ∧ 14 + t < 14 + j
    · rw [if_pos y]
      exact cl9_b _
    · rw [if_neg y]
      exact (a t ht).2.2
  · rw [e 1 (by omega)]
    exact b
  · rw [e 2 (by omega)]
    exact c
  · rw [pe.P, pe.f]
    exact d
  · rw [pe.H]
    exact f
theorem rdN_in {s : Nat → Int32} (i : InS s) : ∀ n, InS (rdN s n)
  | 0 => i
  | n + 1 => InS_rd (rdN_in i n) (rdN_in i n).o.hH
theorem rdN_e {s : Nat → Int32} (i : InS s) (n : Nat) : pvE (rdN s n) s := (rdN_ok i.o n).2.2.2
def mkC : List Nat := [59, 60, 61, 62, 63]
theorem ct_mBegin (h : Hp) (s : Nat → Int32) (a : sC 1 s h) (i : InS s) : CtV 1 mX2_begin [.ref 58] h (fun g => Fr mkC h g ∧ pvI s s g) := by
  refine e_X2_begin (fun g1 e1 => ?_)
  have f : Fr [59] h g1 := by
    rw [e1]
    exact Fr.uc (by decide)
  refine ⟨f.mono (by decide), a.fr f (by decide), i, i, fun _ _ => rfl, fun t ht => ?_⟩
  rw [e1, uc_at]
  unfold va_cpy
  rw [if_pos (by omega), show 0 + (t - 0) = t by omega]
  exact a.p1 ht
set_option maxHeartbeats 1000000 in
theorem ct_run {n : Nat} (hn : n ≤ 20) (h : Hp) (s : Nat → Int32) (a : sC 1 s h) (i : InS s) : CtI 5 mX2_run [.ref 58, .int (nI n)] h (fun v g => v = mxN s n ∧ Fr mkC h g ∧ pvI s (rdN s n) g) := by
  have lp : ∀ m j : Nat, m + j = n → ∀ g : Hp, Fr mkC h g → pvI s (rdN s j) g → akI (rdN s j) (nP (rdN s j)) g → GoI 5 mX2_run 15 [(0, .ref 58), (1, .int (nI n)), (2, .int (mxN s j)), (3, .int (nI (j + 1)))] [] g (fun v g => v = mxN s n ∧ Fr mkC h g ∧ pvI s (rdN s n) g) := by
    intro m
    induction m with
    | zero =>
      intro j hj g f p k
      have hj : j = n := by omega
      subst hj
      exact b_X2_run_15 ⟨fun _ => ⟨rfl, f, p⟩, fun c => absurd (nI_lt (by omega) (by omega)) c⟩
    | succ m ih =>
      intro j hj g f p k
      have hH := p.2.2.1.o.hH
      have inn : ∀ q t : Nat, q + t = nH (rdN s j) → ∀ g2 : Hp, Fr mkC h g2 → (∀ u, u < 5 → g2.1 59 u = rdP (rdN s j) (j + 1) t (14 + u)) → g2.1 60 = g.1 60 → GoI 5 mX2_run 23 [(0, .ref 58), (1, .int (nI n)), (2, .int (mxN s j)), (3, .int (nI (j + 1))), (4, .int (nI t))] [] g2 (fun v g => v = mxN s n ∧ Fr mkC h g ∧ pvI s (rdN s n) g) := by
        intro q
        induction q with
        | zero =>
          intro t ht g2 f2 e59 e60
          have ht : t = nH (rdN s j) := by omega
          subst ht
          have a2 := a.fr f2 (by decide)
          have p2 : pvI s (rdN s (j + 1)) g2 := ⟨a2, i, rdN_in i _, rdN_e i _, e59⟩
          refine b_X2_run_23 ⟨fun _ => ⟨_, ct_ask g2 s (rdN s (j + 1)) p2, fun h4 q => ?_⟩, fun c => absurd ?_ c⟩
          · obtain ⟨q1, q2⟩ := q
            have f4 := f2.tr (q1.mono (show ∀ k, k ∈ akC → k ∈ mkC by decide))
            have p4 := p2.fr q1 (by decide) (by decide)
            refine pc (ct_boundNow h4 s _ p4 q2) (pc (ct_max _ _ h4) ?_)
            rw [nI_1]
            exact ih (j + 1) (by omega) h4 f4 p4 q2
          · rw [a2.H, ← rdN_e i j 0 (by omega), p.2.2.1.o.eH]
            exact nI_le (by omega) (by omega)
        | succ q ihq =>
          intro t ht g2 f2 e59 e60
          have a2 := a.fr f2 (by decide)
          have v5 : vp_in (nI t) 5 := vp_in_nI (by omega) (by omega)
          have ct : (nI t).toNatClampNeg = t := nI_clamp (by omega)
          refine b_X2_run_23 ⟨fun c => absurd c ?_, fun _ => ⟨v5, v5, nI_ne0 (by omega) (by omega), v5, ?_⟩⟩
          · rw [a2.H, ← rdN_e i j 0 (by omega), p.2.2.1.o.eH]
            exact nI_ge (by omega) (by omega)
          · rw [ct]
            refine pc (ct_min _ _ g2) (pc (ct_max _ _ g2) ⟨v5, fun g31 e31 => ?_⟩)
            rw [cl9_m, e59 t (by omega), e60, k.2 t (by omega), a2.d1 (by omega), a2.st, rdP_lo _ _ _ _ (by omega)] at e31
            rw [← rdN_e i j (4 + t) (by omega), ← rdN_e i j 2 (by omega), ← sub_sum] at e31
            rw [nI_1]
            refine ihq (t + 1) (by omega) g31 ?_ (fun u hu => ?_) ?_
            · rw [e31]
              exact f2.tr (Fr.ui (by decide))
            · rw [← rdP_up, e31, ui_get]
              by_cases y : u = t
              · rw [if_pos ⟨rfl, y⟩, y, upd_at]
                rfl
              · rw [if_neg (fun w => y w.2), upd_ne _ _ (by omega)]
                exact e59 u hu
            · rw [e31, ui_ne (by decide)]
              exact e60
      refine b_X2_run_15 ⟨fun c => absurd c (nI_nlt (by omega) (by omega)), fun _ => inn (nH (rdN s j)) 0 rfl g f (fun u hu => ?_) rfl⟩
      rw [rdP_lo _ _ _ _ (by omega)]
      exact p.2.2.2.2 u hu
  refine e_X2_run ⟨_, ct_mBegin h s a i, fun h4 q => ⟨_, ct_ask h4 s s q.2, fun h9 q2 => ?_⟩⟩
  have p9 := q.2.fr q2.1 (by decide) (by decide)
  exact pc (ct_boundNow h9 s s p9 q2.2) (lp n 0 rfl h9 (q.1.tr (q2.1.mono (by decide))) p9 q2.2)
theorem ct_boundC (h : Hp) (s : Nat → Int32) (a : sC 1 s h) (i : InS s) : CtI 6 mX10_bound [.ref 0] h (fun v g => v = bdV s ∧ Fr mkC h g) := e_X10_bound ⟨_, ct_run (n := 0) (by decide) h s a i, fun v g q => ⟨q.1, q.2.1⟩⟩
theorem ct_roundsC (n hour : Int32) (h : Hp) (s : Nat → Int32) (a : sC 1 s h) (i : InS s) : CtL 6 mX10_rounds [.ref 0, .int n, .int hour] h (okxL (rsW s n hour) h (fun v g => v = (rsV s n.toNatClampNeg hour).toInt64 ∧ Fr mkC h g)) := by
  have hH := i.o.hH
  have s46 : rsW s n hour = 0 → wbS n 0 20 = 0 → (¬ hour = -1 → inR hour 0 (s 0 - 1) = true) → GoL 6 mX10_rounds 46 [(0, .ref 0), (1, .int n), (2, .int hour)] [] h (okxL (rsW s n hour) h (fun v g => v = (rsV s n.toNatClampNeg hour).toInt64 ∧ Fr mkC h g)) := by
    intro ew w0 ch
    obtain ⟨N, eN, lN⟩ := wb_nI (m := 20) (by decide) w0
    subst eN
    rw [nI_clamp (show N < 2 ^ 31 by omega)]
    refine b_X10_rounds_46 ⟨_, ct_run lN h s a i, fun v g q => ?_⟩
    obtain ⟨q1, q2, q3⟩ := q
    refine ⟨fun c => ?_, fun c => okxL_t ew ⟨?_, q2⟩⟩
    · obtain ⟨t, et, ht⟩ := isH_nI i.o (ch c)
      subst et
      rw [nI_clamp (show t < 2 ^ 31 by omega), q3.2.2.2.2 t (by omega)]
      refine ⟨vp_in_nI (by omega) (by omega), okxL_t ew ⟨?_, q2⟩⟩
      rw [rsV, if_neg c, nI_clamp (show t < 2 ^ 31 by omega)]
    · rw [rsV, if_pos c, q1]
  refine e_X10_rounds ⟨fun c1 => ⟨fun c2 => ?_, fun c2 => ?_⟩, fun c1 => ?_⟩
  · have w0 := wb_i c1 c2
    have ew : rsW s n hour = if hour = -1 then 0 else if inR hour 0 (s 0 - 1) then 0 else -1 := if_pos w0
    refine ⟨fun c => s46 (ew.trans (if_pos c)) w0 (fun y => absurd c y), fun c => pc (ct_noHour hour h s a i.o) ⟨fun c3 => s46 ?_ w0 (fun _ => nb_0.mp c3), fun c3 => rfxL ?_ isW_1 (by decide)⟩⟩
    · rw [ew, if_neg c, if_pos (nb_0.mp c3)]
    · rw [ew, if_neg c]
      exact ite_f (nb_1.mp c3)
  · refine rfxL (x := -6) ?_ isW_6 (by decide)
    rw [rsW, wb_h c1 c2, if_neg (by decide)]
  · refine rfxL (x := -4) ?_ isW_4 (by decide)
    rw [rsW, wb_l c1, if_neg (by decide)]
theorem ct_answerC (p what : Int32) (h : Hp) (s : Nat → Int32) (a : sC 1 s h) (i : InS s) : CtL 5 mX10_answer [.ref 0, .int p, .int what] h (okxL (awW s p what) h (fun v g => v = (awsV s p.toNatClampNeg what).toInt64 ∧ Fr mkC h g)) := by
  have hP := i.o.hP
  refine e_X10_answer (pc (ct_noPlant p h s a i.o) ⟨fun c => ?_, fun c => rfxL (ite_f (nb_1.mp c)) isW_1 (by decide)⟩)
  have c := nb_0.mp c
  obtain ⟨q, eq, hq⟩ := isP_nI i.o c
  have ew : awW s p what = if inR what 0 2 then 0 else -2 := if_pos c
  subst eq
  rw [nI_clamp (show q < 2 ^ 31 by omega)]
  have v3 : vp_in (nI q) 3 := vp_in_nI (by omega) (by omega)
  refine ⟨fun c1 => rfxL (ew.trans (ite_f (in_l (lt0 c1)))) isW_2 (by decide), fun c1 => ⟨fun c2 => ⟨_, ct_mBegin h s a i, fun h14 b => ⟨_, ct_ask h14 s s b.2, fun h19 k => ?_⟩⟩, fun c2 => rfxL (ew.trans (ite_f (in_h c2))) isW_2 (by decide)⟩⟩
  have ew0 := ew.trans (if_pos (in_i (nlt0 c1) c2))
  have f : Fr mkC h h19 := b.1.tr (k.1.mono (by decide))
  obtain ⟨k1, k2, k3⟩ := k.2.1 q hq
  rw [k1, k2, k3]
  refine ⟨fun w => ⟨fun w1 => ⟨v3, okxL_t ew0 ⟨?_, f⟩⟩, fun w1 => ⟨v3, okxL_t ew0 ⟨?_, f⟩⟩⟩, fun w => ⟨v3, okxL_t ew0 ⟨?_, f⟩⟩⟩
  · rw [awsV, if_neg w, if_neg w1]
  · rw [awsV, if_neg w, if_pos w1]
  · rw [awsV, if_pos w]
theorem ct_goesC (n : Int32) (h : Hp) (s : Nat → Int32) (a : sC 1 s h) (i : InS s) : CtI 6 mX10_goes [.ref 0, .int n] h (okx (wbS n 0 20) h (fun v g => v = goV s n.toNatClampNeg ∧ sC 1 (rdN s n.toNatClampNeg) g ∧ Fr (4 :: mkC) h g)) := by
  have hH := i.o.hH
  refine e_X10_goes ⟨fun c1 => ⟨fun c2 => ?_, fun c2 => rfx (wb_h c1 c2) isW_6 (by decide)⟩, fun c1 => rfx (wb_l c1) isW_4 (by decide)⟩
  have w0 := wb_i c1 c2
  obtain ⟨N, eN, lN⟩ := wb_nI (m := 20) (by decide) w0
  subst eN
  rw [nI_clamp (show N < 2 ^ 31 by omega)]
  refine ⟨_, ct_run lN h s a i, fun v h4 q => ?_⟩
  obtain ⟨-, q2, q3⟩ := q
  have e59 := q3.2.2.2.2
  have lp : ∀ m t : Nat, m + t = nH s → ∀ g : Hp, sC 1 (fun j => if 14 ≤ j ∧ j < 14 + t then rdN s N j else s j) g → Fr (4 :: mkC) h g → (∀ t, t < 5 → g.1 59 t = rdN s N (14 + t)) → GoI 6 mX10_goes 37 [(0, .ref 0), (2, .int (sumI (fun t => if rdN s N (14 + t) = s (14 + t) then 0 else 1) t)), (3, .int (nI t))] [] g (okx (wbS (nI N) 0 20) h (fun v g => v = goV s N ∧ sC 1 (rdN s N) g ∧ Fr (4 :: mkC) h g)) := by
    intro m
    induction m with
    | zero =>
      intro t ht g sg f _
      have ht : t = nH s := by omega
      subst ht
      refine b_X10_goes_37 ⟨fun _ => okx_t w0 ⟨rfl, ?_, f⟩, fun c => absurd ?_ c⟩
      · have e : (fun j => if 14 ≤ j ∧ j < 14 + nH s then rdN s N j else s j) = rdN s N := funext fun j => by
          by_cases y : 14 ≤ j ∧ j < 14 + nH s
          · rw [if_pos y]
          · rw [if_neg y]
            cases N with
            | zero => rfl
            | succ N =>
              have : ∀ n, (∀ j, ¬ (14 ≤ j ∧ j < 14 + nH s) → rdN s n j = s j) := by
                intro n
                induction n with
                | zero => exact fun _ _ => rfl
                | succ n ihn =>
                  intro j hj
                  show rdP (rdN s n) (n + 1) (nH (rdN s n)) j = s j
                  rw [rdP_lo _ _ _ _ (by rw [(rdN_e i n).H]; omega)]
                  exact ihn j hj
              exact (this (N + 1) j y).symm
        rw [e] at sg
        exact sg
      · rw [sg.H]
        show s 0 ≤ nI (nH s)
        rw [i.o.eH]
        exact nI_le (by omega) (by omega)
    | succ m ih =>
      intro t ht g sg f e5
      have v5 : vp_in (nI t) 5 := vp_in_nI (by omega) (by omega)
      have ct : (nI t).toNatClampNeg = t := nI_clamp (by omega)
      have e4 : g.1 4 t = s (14 + t) := by
        rw [sg.p1 (by omega)]
        exact if_neg (by omega)
      have rw1 : ∀ g2 : Hp, sC 1 (upd (fun j => if 14 ≤ j ∧ j < 14 + t then rdN s N j else s j) (14 + t) (rdN s N (14 + t))) g2 → sC 1 (fun j => if 14 ≤ j ∧ j < 14 + (t + 1) then rdN s N j else s j) g2 := fun g2 k => by
        have e : upd (fun j => if 14 ≤ j ∧ j < 14 + t then rdN s N j else s j) (14 + t) (rdN s N (14 + t)) = (fun j => if 14 ≤ j ∧ j < 14 + (t + 1) then rdN s N j else s j) := funext fun j => by
          by_cases y : j = 14 + t
          · rw [y, upd_at, if_pos (by omega)]
          · rw [upd_ne _ _ y]
            by_cases y2 : 14 ≤ j ∧ j < 14 + t
            · rw [if_pos y2, if_pos (by omega)]
            · rw [if_neg y2, if_neg (by omega)]
        rw [e] at k
        exact k
      refine b_X10_goes_37 ⟨fun c => absurd c ?_, fun _ => ⟨v5, v5, ?_⟩⟩
      · rw [sg.H]
        show ¬ s 0 ≤ nI t
        rw [i.o.eH]
        exact nI_ge (by omega) (by omega)
      · rw [ct, e4, e5 t (by omega)]
        refine ⟨fun c => b_X10_goes_90 ?_, fun c => ⟨v5, v5, fun g5 e5' => b_X10_goes_90 ?_⟩⟩
        · rw [nI_1]
          have ih2 := ih (t + 1) (by omega) g (rw1 g ?_) f e5
          · rw [sumI, if_pos c.symm, Int32.add_zero] at ih2
            exact ih2
          · rw [← c]
            have e : upd (fun j => if 14 ≤ j ∧ j < 14 + t then rdN s N j else s j) (14 + t) (s (14 + t)) = (fun j => if 14 ≤ j ∧ j < 14 + t then rdN s N j else s j) := funext fun j => by
              by_cases y : j = 14 + t
              · rw [y, upd_at, if_neg (by omega)]
              · rw [upd_ne _ _ y]
            rw [e]
            exact sg
        · rw [nI_1]
          have ih2 := ih (t + 1) (by omega) g5 (rw1 g5 ?_) ?_ ?_
          · rw [sumI, if_neg (fun z => c z.symm)] at ih2
            exact ih2
          · rw [e5']
            exact sg.upr (by omega) _
          · rw [e5']
            exact f.tr (Fr.ui (by decide))
          · intro u hu
            rw [e5', ui_ne (by decide)]
            exact e5 u hu
  refine lp (nH s) 0 rfl h4 ?_ (q2.mono (fun k hk => List.mem_cons_of_mem _ hk)) e59
  have e : (fun j => if 14 ≤ j ∧ j < 14 + 0 then rdN s N j else s j) = s := funext fun j => if_neg (by omega)
  rw [e]
  exact q3.1
