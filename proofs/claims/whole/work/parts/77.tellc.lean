/-! ===== the class: what is told becomes true ===== -/
theorem ct_letterC {m : Nat} (hm : m ≤ 120) (x : Int32) (h : Hp) (h1 : h.1 25 1 = nI m) : CtI 1 mX10_letter [.ref 0, .int x] h (okx (leW (nI m) x) h (fun v g => v = nI (m + 1) ∧ g = ui (ui h 26 m x) 25 1 (nI (m + 1)) ∧ m < 120)) := by
  have e120 : nI m = 120 ↔ m = 120 := nI_eq (b := 120) (by omega) (by omega)
  refine e_X10_letter ⟨fun c => ⟨fun c2 => rfx ?_ isW_6 (by decide), fun c2 => ⟨fun c3 => ?_, fun c3 => rfx ?_ isW_6 (by decide)⟩⟩, fun c => rfx ?_ isW_4 (by decide)⟩
  · rw [leW, wb_h c (Int32.not_le.mpr c2), if_neg (by decide)]
  · rw [h1] at c3
    have m120 : m < 120 := (nI_ltI (b := 120) (by omega) (by omega)).mp c3
    have ew : leW (nI m) x = 0 := by
      rw [leW, if_pos (wb_i c (Int32.not_lt.mp c2)), if_neg]
      intro z
      have := e120.mp z
      omega
    refine ⟨_, e_X8_take (Q := fun v g => v = nI (m + 1) ∧ g = ui (ui h 26 m x) 25 1 (nI (m + 1))) ?_, fun v g q => okx_t ew ⟨q.1, q.2, m120⟩⟩
    rw [h1]
    refine ⟨fun d => absurd d (nI_ge (b := 120) (by omega) (by omega)), fun _ => ⟨vp_in_nI (by omega) (by omega), fun g2 e2 g3 e3 => ?_⟩⟩
    rw [nI_clamp (show m < 2 ^ 31 by omega)] at e2
    have e21 : g2.1 25 1 = nI m := by rw [e2, ui_ne (by decide), h1]
    rw [e21, nI_1] at e3
    refine ⟨?_, ?_⟩
    · rw [e3, ui_aa]
    · rw [e3, e2]
  · rw [h1] at c3
    rw [leW, if_pos (wb_i c (Int32.not_lt.mp c2)), if_pos]
    refine e120.mpr ?_
    have : ¬ m < 120 := fun y => c3 (nI_lt (b := 120) y (by omega))
    omega
  · rw [leW, wb_l c, if_neg (by decide)]
theorem ul_ne {h : Hp} {k i a : Nat} {v : Int64} (ha : a ≠ k) : (ul h k i v).2 a = h.2 a := u2_ne ha
theorem ul_at (h : Hp) (k i : Nat) (v : Int64) : (ul h k i v).2 k i = v := u2_at ..
/-! from whatever stood there -/
theorem ruL_ind {f : Nat → Int32} {m : Nat} : ∀ (l : List Nat) (k a : Nat) (nu nu' : Nat → Int32) (sg sg' : Int32), (∀ i, i < k → nu i = nu' i) → (ruL f m l k (a, nu, sg)).1 = (ruL f m l k (a, nu', sg')).1 ∧ (ruL f m l k (a, nu, sg)).2.1 = (ruL f m l k (a, nu', sg')).2.1 ∧ ((ruL f m l k (a, nu, sg)).1 = true → (∀ i, i < k + nuC l → (ruL f m l k (a, nu, sg)).2.2.1 i = (ruL f m l k (a, nu', sg')).2.2.1 i) ∧ ((sg = sg' ∨ 1 ∈ l) → (ruL f m l k (a, nu, sg)).2.2.2 = (ruL f m l k (a, nu', sg')).2.2.2))
  | [], k, a, nu, nu', sg, sg', hn => ⟨rfl, rfl, fun _ => ⟨fun i hi => hn i (by rw [nuC] at hi; omega), fun hs => by
    rcases hs with e | e
    · exact e
    · cases e⟩⟩
  | c :: l, k, a, nu, nu', sg, sg', hn => by
    cases sb : stB f m c a with
    | false =>
      rw [ruL_f (p := (a, nu, sg)) sb, ruL_f (p := (a, nu', sg')) sb]
      exact ⟨rfl, rfl, fun z => by cases z⟩
    | true =>
      rw [ruL_t (p := (a, nu, sg)) sb, ruL_t (p := (a, nu', sg')) sb]
      unfold stP
      by_cases c0 : c = 0
      · rw [if_pos c0, if_pos c0, if_pos c0]
        obtain ⟨i1, i2, i3⟩ := ruL_ind l (k + 1) (nuA f m a) (upd nu k (nuX f m a)) (upd nu' k (nuX f m a)) sg sg' (fun i hi => by
          by_cases y : i = k
          · rw [y, upd_at, upd_at]
          · rw [upd_ne _ _ y, upd_ne _ _ y]
            exact hn i (by omega))
        refine ⟨i1, i2, fun z => ⟨fun i hi => (i3 z).1 i ?_, fun hs => (i3 z).2 ?_⟩⟩
        · rw [nuC, if_pos c0] at hi
          omega
        · rcases hs with e | e
          · exact Or.inl e
          · rcases List.mem_cons.mp e with e | e
            · omega
            · exact Or.inr e
      · rw [if_neg c0, if_neg c0, if_neg c0]
        by_cases c1 : c = 1
        · rw [if_pos c1, if_pos c1]
          obtain ⟨i1, i2, i3⟩ := ruL_ind l k (a + 1) nu nu' (if heL f m a = 45 then -1 else 1) (if heL f m a = 45 then -1 else 1) hn
          refine ⟨i1, i2, fun z => ⟨fun i hi => (i3 z).1 i ?_, fun _ => (i3 z).2 (Or.inl rfl)⟩⟩
          rw [nuC, if_neg c0] at hi
          omega
        · rw [if_neg c1, if_neg c1]
          obtain ⟨i1, i2, i3⟩ := ruL_ind l k (a + 1) nu nu' sg sg' hn
          refine ⟨i1, i2, fun z => ⟨fun i hi => (i3 z).1 i ?_, fun hs => (i3 z).2 ?_⟩⟩
          · rw [nuC, if_neg c0] at hi
            omega
          · rcases hs with e | e
            · exact Or.inl e
            · rcases List.mem_cons.mp e with e | e
              · exact absurd e.symm c1
              · exact Or.inr e
theorem isSt_7 {c : Int32} (h : isSt c = true) : c = 112 ∨ c = 103 ∨ c = 99 ∨ c = 116 ∨ c = 97 ∨ c = 100 ∨ c = 104 := of_decide_eq_true h
theorem nu_mo {c : Int32} (h : isSt c = true) : nuC (0 :: tlL c (moL c) 1) = moL c + 1 ∧ (c = 97 → 1 ∈ (0 :: tlL c (moL c) 1)) := by
  rcases isSt_7 h with e | e | e | e | e | e | e <;> subst e <;> decide
theorem rdC_e {f : Nat → Int32} {m a : Nat} (nu : Nat → Int32) (sg : Int32) : (rdC f m a nu sg).1 = (rdL f m a).1 ∧ (rdC f m a nu sg).2.1 = (rdL f m a).2.1 ∧ ((rdL f m a).1 = true → isSt (heL f m a) = true ∧ (∀ i, i ≤ moL (heL f m a) → (rdC f m a nu sg).2.2.1 i = (rdL f m a).2.2.1 i) ∧ (heL f m a = 97 → (rdC f m a nu sg).2.2.2 = (rdL f m a).2.2.2)) := by
  unfold rdC rdL
  cases st : isSt (heL f m a)
  · rw [if_neg Bool.false_ne_true, if_neg Bool.false_ne_true]
    exact ⟨rfl, rfl, fun z => by cases z⟩
  · rw [if_pos rfl, if_pos rfl]
    obtain ⟨i1, i2, i3⟩ := ruL_ind (f := f) (m := m) (0 :: tlL (heL f m a) (moL (heL f m a)) 1) 0 (a + 1) nu (fun _ => 0) sg 1 (fun i hi => by omega)
    obtain ⟨n1, n2⟩ := nu_mo st
    refine ⟨i1, i2, fun z => ⟨rfl, fun i hi => ?_, fun e => ?_⟩⟩
    · rw [← i1] at z
      exact (i3 z).1 i (by omega)
    · rw [← i1] at z
      exact (i3 z).2 (Or.inr (n2 e))
theorem wt_c {s : Nat → Int32} {c : Int32} {nu nu' : Nat → Int32} {sg sg' : Int32} (st : isSt c = true) (hn : ∀ i, i ≤ moL c → nu i = nu' i) (hs : c = 97 → sg = sg') : wtS s c nu sg = wtS s c nu' sg' ∧ doS s c nu sg = doS s c nu' sg' := by
  have n0 := hn 0 (by omega)
  unfold wtS doS
  by_cases c1 : c = 97
  · have n1 := hn 1 (by rw [c1]; decide)
    rw [if_pos c1, if_pos c1, if_pos c1, if_pos c1, n0, n1, hs c1]
    exact ⟨rfl, rfl⟩
  · rw [if_neg c1, if_neg c1, if_neg c1, if_neg c1]
    by_cases c2 : c = 99
    · have n1 := hn 1 (by rw [c2]; decide)
      have n2 := hn 2 (by rw [c2]; decide)
      have n3 := hn 3 (by rw [c2]; decide)
      rw [if_pos c2, if_pos c2, if_pos c2, if_pos c2, n0, n1, n2, n3]
      exact ⟨rfl, rfl⟩
    · rw [if_neg c2, if_neg c2, if_neg c2, if_neg c2]
      by_cases c3 : c = 100
      · have n1 := hn 1 (by rw [c3]; decide)
        have n2 := hn 2 (by rw [c3]; decide)
        rw [if_pos c3, if_pos c3, if_pos c3, if_pos c3, n0, n1, n2]
        exact ⟨rfl, rfl⟩
      · rw [if_neg c3, if_neg c3, if_neg c3, if_neg c3]
        by_cases c4 : c = 103
        · have n1 := hn 1 (by rw [c4]; decide)
          have n2 := hn 2 (by rw [c4]; decide)
          rw [if_pos c4, if_pos c4, if_pos c4, if_pos c4, n0, n1, n2]
          exact ⟨rfl, rfl⟩
        · rw [if_neg c4, if_neg c4, if_neg c4, if_neg c4]
          by_cases c5 : c = 112
          · have n1 := hn 1 (by rw [c5]; decide)
            rw [if_pos c5, if_pos c5, if_pos c5, if_pos c5, n0, n1]
            exact ⟨rfl, rfl⟩
          · rw [if_neg c5, if_neg c5, if_neg c5, if_neg c5]
            by_cases c6 : c = 116
            · have n1 := hn 1 (by rw [c6]; decide)
              have n2 := hn 2 (by rw [c6]; decide)
              rw [if_pos c6, if_pos c6, if_pos c6, if_pos c6, n0, n1, n2]
              exact ⟨rfl, rfl⟩
            · rw [if_neg c6, if_neg c6, if_neg c6, if_neg c6, n0]
              exact ⟨rfl, rfl⟩
/-- what reading through answers -/
def raV (f : Nat → Int32) (m u n a : Nat) : Int32 := if (fpL f m u n a).1 then nI (fpL f m u n a).2.1 else -1000 - nI (fpL f m u n a).2.2
theorem ct_readAll {f : Nat → Int32} {m : Nat} (h : Hp) (hm : m ≤ 120) (h1 : h.1 25 1 = nI m) (hf : ∀ k, k < m → h.1 26 k = f k) : CtI 6 mX8_readAll [.ref 25] h (fun v g => v = raV f m 121 0 0 ∧ tcF h g) := by
  have lp : ∀ u n a : Nat, u + n = 121 → ∀ g : Hp, tcF h g → tcI f m a g → raV f m u n a = raV f m 121 0 0 → GoI 6 mX8_readAll 7 [(0, .ref 25), (1, .int (nI n))] [] g (fun v g => v = raV f m 121 0 0 ∧ tcF h g) := by
    intro u
    induction u with
    | zero =>
      intro n a hn g F I er
      refine b_X8_readAll_7 ⟨fun _ => ⟨er, F⟩, fun c => absurd (nI_lt (a := 120) (by omega) (by omega)) c⟩
    | succ u ih =>
      intro n a hn g F I er
      have s28 : (n = 0 ∨ a < m) → GoI 6 mX8_readAll 28 [(0, .ref 25), (1, .int (nI n))] [] g (fun v g => v = raV f m 121 0 0 ∧ tcF h g) := by
        intro cn
        obtain ⟨r1, r2, -⟩ := rdC_e (f := f) (m := m) (a := a) (g.1 27) (g.1 25 3)
        unfold raV at er
        rw [fpL, if_pos cn] at er
        refine b_X8_readAll_28 ⟨_, ct_readOne g _ _ I rfl rfl, fun v h4 q => ?_⟩
        obtain ⟨q1, q2, q3⟩ := q
        rw [r1] at q1
        have J := q3.1
        rw [r2] at J
        refine ⟨fun c => ?_, fun c => ?_⟩
        · rw [q1] at c
          rw [if_pos (bI_t c)] at er
          rw [nI_1]
          exact ih (n + 1) _ (by omega) h4 (F.tr q2) J er
        · rw [q1] at c
          rw [if_neg (noF (bI_0.mp c))] at er
          rw [J.2.1]
          exact ⟨er, F.tr q2⟩
      refine b_X8_readAll_7 ⟨fun c => absurd c (nI_nlt (b := n) (a := 120) (by omega) (by omega)), fun _ => ⟨fun c => s28 (Or.inl ?_), fun c => ⟨fun c2 => ?_, fun c2 => s28 (Or.inr ?_)⟩⟩⟩
      · exact (nI_eq (b := 0) (by omega) (by omega)).mp c
      · rw [I.1, I.2.1, nI_leI (by have := I.2.2.2; omega) (by have := I.2.2.2; omega)] at c2
        have n0 : ¬ n = 0 := fun y => c (by rw [y]; rfl)
        have ef : fpL f m (u + 1) n a = (true, n, a) := by
          rw [fpL, if_neg]
          intro y
          rcases y with y | y
          · exact n0 y
          · omega
        have e3 : raV f m (u + 1) n a = nI n := by
          unfold raV
          rw [ef]
          rfl
        exact ⟨e3.symm.trans er, F⟩
      · rw [I.1, I.2.1, nI_leI (by have := I.2.2.2; omega) (by have := I.2.2.2; omega)] at c2
        omega
  refine e_X8_readAll (fun g1 e1 => ?_)
  have I : tcI f m 0 g1 := by
    rw [e1]
    refine ⟨?_, ui_aa _ _ _ _, fun k hk => ?_, Nat.zero_le _, hm⟩
    · rw [ui_nj (by decide)]
      exact h1
    · rw [ui_ne (by decide)]
      exact hf k hk
  exact lp 121 0 0 rfl g1 (by rw [e1]; exact tcF.u2 _) I rfl
/-- how many statements there are from a on -/
def apN (f : Nat → Int32) (m : Nat) : Nat → Nat → Nat → Nat
  | 0, n, _ => n
  | u + 1, n, a => if a < m then apN f m u (n + 1) (rdL f m a).2.1 else n
theorem fp_ap (f : Nat → Int32) (m : Nat) : ∀ u n a, (fpL f m u n a).1 = true → (fpL f m u n a).2.1 = apN f m u n a
  | 0, _, _, _ => rfl
  | u + 1, n, a, h => by
    rw [fpL] at h ⊢
    rw [apN]
    by_cases c : n = 0 ∨ a < m
    · rw [if_pos c] at h ⊢
      cases rb : (rdL f m a).1
      · rw [rb, if_neg Bool.false_ne_true] at h
        cases h
      · rw [rb, if_pos rfl] at h
        rw [if_pos rfl]
        have lt : a < m := by
          have := (rdC_e (f := f) (m := m) (a := a) (fun _ => 0) 1).2.2 rb
          exact isSt_lt this.1
        rw [if_pos lt]
        exact fp_ap f m u (n + 1) _ h
    · rw [if_neg c]
      rw [if_neg (fun y => c (Or.inr y))]
def tlF (h g : Hp) : Prop := Fr (25 :: 27 :: cS 1) h g ∧ ∀ j, j ≠ 2 → j ≠ 3 → g.1 25 j = h.1 25 j
theorem tlF.tr {h h1 h2 : Hp} (a : tlF h h1) (b : tlF h1 h2) : tlF h h2 := ⟨a.1.tr b.1, fun j x y => (b.2 j x y).trans (a.2 j x y)⟩
theorem tcF.tl {h g : Hp} (a : tcF h g) : tlF h g := ⟨a.1.mono (by decide), a.2⟩
theorem tlF.sc {h g : Hp} (a : Fr (cS 1) h g) : tlF h g := ⟨a.mono (fun k hk => List.mem_cons_of_mem _ (List.mem_cons_of_mem _ hk)), fun j _ _ => by rw [a.1 25 (by decide)]⟩
theorem tcI.fr {f : Nat → Int32} {m a : Nat} {h g : Hp} (I : tcI f m a h) (F : Fr (cS 1) h g) : tcI f m a g := by
  obtain ⟨h1, h2, hf, ha, hm⟩ := I
  refine ⟨?_, ?_, fun k hk => ?_, ha, hm⟩
  · rw [F.1 25 (by decide)]
    exact h1
  · rw [F.1 25 (by decide)]
    exact h2
  · rw [F.1 26 (by decide)]
    exact hf k hk
theorem ap_neg : ∀ a, a < 121 → ((-2000 : Int32) - nI a < 0 ∧ ¬ (-2000 : Int32) - nI a = 0 ∧ (-1000 : Int32) - nI a < 0) := by decide +kernel
/-- what applying answers -/
def aaP (f : Nat → Int32) (m : Nat) (s0 : Nat → Int32) (u n : Nat) (s : Nat → Int32) (a : Nat) : Int32 × (Nat → Int32) → Int32 → Hp → Prop := fun r v g => (r.1 = 0 → v = nI (apN f m u n a) ∧ sC 1 r.2 g ∧ InS r.2) ∧ (¬ r.1 = 0 → v = r.1 ∧ v < 0)
theorem apN_le (f : Nat → Int32) (m : Nat) : ∀ u n a, apN f m u n a ≤ n + u
  | 0, n, _ => Nat.le_refl n
  | u + 1, n, a => by
    rw [apN]
    by_cases c : a < m
    · rw [if_pos c]
      have := apN_le f m u (n + 1) (rdL f m a).2.1
      omega
    · rw [if_neg c]
      omega
set_option maxHeartbeats 1000000 in
theorem ct_applyAll {f : Nat → Int32} {m : Nat} (hm : m ≤ 120) (h : Hp) (s : Nat → Int32) (a0 : sC 1 s h) (i0 : InS s) (s0 : Nat → Int32) (h1 : h.1 25 1 = nI m) (hf : ∀ k, k < m → h.1 26 k = f k) (ok : okL f m 121 0) : CtI 6 mX8_applyAll [.ref 25, .ref 1] h (fun v g => ((apL f m s0 121 s 0).1 = 0 → v = nI (apN f m 121 0 0) ∧ sC 1 (apL f m s0 121 s 0).2 g ∧ InS (apL f m s0 121 s 0).2) ∧ (¬ (apL f m s0 121 s 0).1 = 0 → v = (apL f m s0 121 s 0).1 ∧ v < 0) ∧ tlF h g) := by
  have lp : ∀ u n a : Nat, u + n = 121 → ∀ (s2 : Nat → Int32) (g : Hp), tlF h g → tcI f m a g → sC 1 s2 g → InS s2 → okL f m u a → apL f m s0 u s2 a = apL f m s0 121 s 0 → apN f m u n a = apN f m 121 0 0 → GoI 6 mX8_applyAll 7 [(0, .ref 25), (1, .ref 1), (2, .int (nI n))] [] g (fun v g => ((apL f m s0 121 s 0).1 = 0 → v = nI (apN f m 121 0 0) ∧ sC 1 (apL f m s0 121 s 0).2 g ∧ InS (apL f m s0 121 s 0).2) ∧ (¬ (apL f m s0 121 s 0).1 = 0 → v = (apL f m s0 121 s 0).1 ∧ v < 0) ∧ tlF h g) := by
    intro u
    induction u with
    | zero =>
      intro n a hn s2 g F I sc ii ok er en
      rw [apL] at er
      rw [apN] at en
      refine b_X8_applyAll_7 ⟨fun _ => ?_, fun c => absurd (nI_lt (a := 120) (by omega) (by omega)) c⟩
      rw [← er, ← en]
      exact ⟨fun _ => ⟨rfl, sc, ii⟩, fun z => absurd rfl z, F⟩
    | succ u ih =>
      intro n a hn s2 g F I sc ii ok er en
      have ha := I.2.2.2.1
      rw [apL] at er
      rw [apN] at en
      refine b_X8_applyAll_7 ⟨fun c => absurd c (nI_nlt (b := n) (a := 120) (by omega) (by omega)), fun _ => ?_⟩
      rw [I.1, I.2.1, nI_leI (by omega) (by omega)]
      refine ⟨fun c => ?_, fun c => ⟨vp_in_nI (by omega) (by omega), ?_⟩⟩
      · rw [if_neg (by omega)] at er en
        rw [← er, ← en]
        exact ⟨fun _ => ⟨rfl, sc, ii⟩, fun z => absurd rfl z, F⟩
      · have lt : a < m := by omega
        rw [if_pos lt] at er en
        obtain ⟨k1, k2⟩ := ok lt
        obtain ⟨r1, r2, r3⟩ := rdC_e (f := f) (m := m) (a := a) (g.1 27) (g.1 25 3)
        obtain ⟨st, t1, t2⟩ := r3 k1
        have eh : g.1 26 a = heL f m a := by
          rw [heL, if_pos lt]
          exact I.2.2.1 a lt
        rw [nI_clamp (show a < 2 ^ 31 by omega), eh]
        obtain ⟨w1, w2⟩ := wt_c (s := s2) st t1 t2
        have neg := ap_neg a (by omega)
        refine ⟨_, ct_readOne g _ _ I rfl rfl, fun v h5 q => ?_⟩
        obtain ⟨q1, q2, q3, q4, q5⟩ := q
        rw [r1, k1] at q1
        rw [r2] at q3
        refine ⟨fun c2 => absurd (q1.symm.trans c2) (by decide), fun _ => ⟨_, ct_applyOne (heL f m a) h5 s2 (sc.fr q2.1 (by decide)) ii _ _ q4 q5, fun v9 h10 q => ?_⟩⟩
        rw [w1, w2] at q
        have iw : isW (wtS s2 (heL f m a) (rdL f m a).2.2.1 (rdL f m a).2.2.2) := by
          unfold wtS
          split
          · exact agW_isW _ _ _
          · split
            · exact coW_isW _ _ _ _ _
            · split
              · exact deW_isW _ _ _ _
              · split
                · exact giW_isW _ _ _ _
                · split
                  · exact plW_isW _ _ _
                  · split
                    · exact tiW_isW _ _ _ _
                    · exact isW_wb _ _ _
        by_cases w0 : wtS s2 (heL f m a) (rdL f m a).2.2.1 (rdL f m a).2.2.2 = 0
        · rw [if_pos w0] at er
          obtain ⟨p1, p2, p3⟩ := q.1 w0
          refine ⟨fun _ => ?_, fun c2 => absurd (Int32.not_lt.mp p1) c2⟩
          rw [nI_1]
          exact ih (n + 1) _ (by omega) _ h10 ((F.tr q2.tl).tr (tlF.sc p3)) (q3.fr p3) p2 (InS_do ii w0) k2 er en
        · rw [if_neg w0] at er
          obtain ⟨p1, p2⟩ := q.2 w0
          have ng := isW_neg iw w0
          rw [← p1] at ng
          refine ⟨fun c2 => absurd ng (Int32.not_lt.mpr c2), fun _ => ?_⟩
          rw [← er, p2]
          exact ⟨fun z => absurd z neg.2.1, fun _ => ⟨rfl, neg.1⟩, F.tr q2.tl⟩
  refine e_X8_applyAll (fun g1 e1 => ?_)
  have I : tcI f m 0 g1 := by
    rw [e1]
    refine ⟨?_, ui_aa _ _ _ _, fun k hk => ?_, Nat.zero_le _, hm⟩
    · rw [ui_nj (by decide)]
      exact h1
    · rw [ui_ne (by decide)]
      exact hf k hk
  have F : tcF h g1 := by rw [e1]; exact tcF.u2 _
  exact lp 121 0 0 rfl s g1 F.tl I (a0.fr F.1 (by decide)) i0 ok rfl rfl
def teC : List Nat := 25 :: 27 :: (cS 1 ++ cS 9)
theorem raV_t {f : Nat → Int32} {m : Nat} (h : (fpL f m 121 0 0).1 = true) : raV f m 121 0 0 = nI (apN f m 121 0 0) := by
  rw [raV, if_pos h, fp_ap f m 121 0 0 h]
theorem fp_pl (f : Nat → Int32) (m : Nat) : ∀ u n a, a ≤ m → (fpL f m u n a).2.2 ≤ m
  | 0, _, a, h => h
  | u + 1, n, a, h => by
    have r := (rdL_up (f := f) h).2.1
    rw [fpL]
    split
    · split
      · exact fp_pl f m u (n + 1) _ r
      · exact r
    · exact h
set_option maxHeartbeats 1000000 in
theorem ct_tellsC {f : Nat → Int32} {m : Nat} (hm : m ≤ 120) (h : Hp) (s : Nat → Int32) (a : sC 1 s h) (i : InS s) (h1 : h.1 25 1 = nI m) (hf : ∀ k, k < m → h.1 26 k = f k) : CtI 7 mX10_tells [.ref 0] h (fun v g => v = (teV s f m).1 ∧ sC 1 (teV s f m).2 g ∧ InS (teV s f m).2 ∧ g.1 25 1 = 0 ∧ (∀ k, k ∉ teC → g.1 k = h.1 k) ∧ g.2 1 8 = h.2 1 8 ∧ g.2 17 8 = h.2 17 8 ∧ ∀ k, 113 ≤ k → g.2 k = h.2 k) := by
  refine e_X10_tells ⟨_, ct_copySc (a := 9) (b := 1) isSc_9 isSc_1 (by decide) h s a, fun h4 c => ?_⟩
  obtain ⟨c1, c2, c3⟩ := c
  have a4 : sC 1 s h4 := fun j hj => by
    rw [c2 _ (by
      have : ∀ k, k ∈ cS 1 → k ∉ cS 9 := by decide
      exact this _ (cS_in 1 hj))]
    exact a j hj
  have h14 : h4.1 25 1 = nI m := by rw [c2 25 (by decide), h1]
  have hf4 : ∀ k, k < m → h4.1 26 k = f k := fun k hk => by rw [c2 26 (by decide), hf k hk]
  have l1 : h4.2 1 8 = h.2 1 8 := by
    rw [c3, ul_ne (show (1 : Nat) ≠ 9 by decide)]
  have l17 : h4.2 17 8 = h.2 17 8 := by
    rw [c3, ul_ne (show (17 : Nat) ≠ 9 by decide)]
  have l9 : h4.2 9 8 = h.2 1 8 := by
    rw [c3, ul_at]
  have fin : ∀ (g : Hp) (x : Int32), tlF h4 g → (x < 0 → x = (teV s f m).1 ∧ (teV s f m).2 = s) → (¬ x < 0 → x = (teV s f m).1 ∧ sC 1 (teV s f m).2 g ∧ InS (teV s f m).2) → GoI 7 mX10_tells 35 [(0, .ref 0), (1, .int x)] [] g (fun v g => v = (teV s f m).1 ∧ sC 1 (teV s f m).2 g ∧ InS (teV s f m).2 ∧ g.1 25 1 = 0 ∧ (∀ k, k ∉ teC → g.1 k = h.1 k) ∧ g.2 1 8 = h.2 1 8 ∧ g.2 17 8 = h.2 17 8 ∧ ∀ k, 113 ≤ k → g.2 k = h.2 k) := by
    intro g x F k1 k2
    have far : ∀ k, k ∉ teC → g.1 k = h.1 k := fun k hk => by
      have s1 : ∀ x, x ∈ 25 :: 27 :: cS 1 → x ∈ teC := by decide
      have s2 : ∀ x, x ∈ cS 9 → x ∈ teC := by decide
      rw [F.1.1 k (fun y => hk (s1 k y)), c2 k (fun y => hk (s2 k y))]
    refine b_X10_tells_35 ⟨fun c g1 e1 => ?_, fun c => ⟨_, ct_copySc (a := 1) (b := 9) isSc_1 isSc_9 (by decide) g s ?_, fun h5 d g7 e7 => ?_⟩⟩
    · obtain ⟨v1, v2, v3⟩ := k2 (Int32.not_lt.mpr c)
      have f1 : Fr [25] g g1 := by
        rw [e1]
        exact Fr.ui (by decide)
      refine ⟨v1, v2.fr f1 (by decide), v3, ?_, fun k hk => ?_, ?_, ?_, fun k hk => ?_⟩
      · rw [e1, ui_aa]
      · have s3 : ∀ x, x ∈ [25] → x ∈ teC := by decide
        rw [f1.1 k (fun y => hk (s3 k y)), far k hk]
      · rw [f1.2, F.1.2, l1]
      · rw [f1.2, F.1.2, l17]
      · rw [f1.2, F.1.2, c3, ul_ne (show k ≠ 9 by omega)]
    · have f9 : ∀ k, k ∈ cS 9 → k ∉ 25 :: 27 :: cS 1 := by decide
      exact c1.fr F.1 f9
    · obtain ⟨v1, v2⟩ := k1 (Int32.not_le.mp c)
      obtain ⟨d1, d2, d3⟩ := d
      have f7 : Fr [25] h5 g7 := by
        rw [e7]
        exact Fr.ui (by decide)
      refine ⟨v1, ?_, ?_, ?_, fun k hk => ?_, ?_, ?_, fun k hk => ?_⟩
      · rw [v2]
        exact d1.fr f7 (by decide)
      · rw [v2]
        exact i
      · rw [e7, ui_aa]
      · have s3 : ∀ x, x ∈ [25] → x ∈ teC := by decide
        have s4 : ∀ x, x ∈ cS 1 → x ∈ teC := by decide
        rw [f7.1 k (fun y => hk (s3 k y)), d2 k (fun y => hk (s4 k y)), far k hk]
      · rw [f7.2, d3]
        rw [ul_at, F.1.2, l9]
      · rw [f7.2, d3]
        rw [ul_ne (show (17 : Nat) ≠ 1 by decide), F.1.2, l17]
      · rw [f7.2, d3, ul_ne (show k ≠ 1 by omega), F.1.2, c3, ul_ne (show k ≠ 9 by omega)]
  refine ⟨_, ct_readAll h4 hm h14 hf4, fun v8 h9 q => ?_⟩
  obtain ⟨q1, q2⟩ := q
  cases fp : (fpL f m 121 0 0).1
  · have e : v8 = -1000 - nI (fpL f m 121 0 0).2.2 := by
      rw [q1, raV, fp]
      rfl
    have pl := fp_pl f m 121 0 0 (Nat.zero_le _)
    have ng := (ap_neg (fpL f m 121 0 0).2.2 (by omega)).2.2
    have et : teV s f m = (-1000 - nI (fpL f m 121 0 0).2.2, s) := by
      unfold teV
      rw [fp]
      rfl
    rw [← e] at ng
    refine ⟨fun _ => fin h9 v8 q2.tl (fun _ => ?_) (fun y => absurd ng y), fun c => absurd ng c⟩
    rw [et]
    exact ⟨e, rfl⟩
  · have e : v8 = nI (apN f m 121 0 0) := by rw [q1, raV_t fp]
    have nl := apN_le f m 121 0 0
    have et : teV s f m = (if (apL f m s 121 s 0).1 = 0 then nI (apN f m 121 0 0) else (apL f m s 121 s 0).1, (apL f m s 121 s 0).2) := by
      unfold teV
      rw [if_pos fp, fp_ap f m 121 0 0 fp]
    refine ⟨fun c => absurd (by rw [e] at c; exact c) (nI_pos (by omega)), fun _ => ⟨_, ct_applyAll hm h9 s (a4.fr q2.1 (by decide)) i s ?_ (fun k hk => ?_) (fpL_ok f m 121 0 0 fp), fun v13 h14' r => ?_⟩⟩
    · rw [q2.2 1 (by decide) (by decide), h14]
    · rw [q2.1.1 26 (by decide)]
      exact hf4 k hk
    · obtain ⟨r1, r2, r3⟩ := r
      refine fin h14' v13 (q2.tl.tr r3) (fun y => ?_) (fun y => ?_)
      · have n0 : ¬ (apL f m s 121 s 0).1 = 0 := fun z => by
          rw [(r1 z).1] at y
          exact absurd y (nI_pos (by omega))
        rw [et, if_neg n0]
        refine ⟨(r2 n0).1, ?_⟩
        have back : ∀ u s2 a, ¬ (apL f m s u s2 a).1 = 0 → (apL f m s u s2 a).2 = s := by
          intro u
          induction u with
          | zero => exact fun s2 a z => absurd rfl z
          | succ u ihu =>
            intro s2 a z
            rw [apL] at z ⊢
            by_cases lt : a < m
            · rw [if_pos lt] at z ⊢
              by_cases w0 : wtS s2 (heL f m a) (rdL f m a).2.2.1 (rdL f m a).2.2.2 = 0
              · rw [if_pos w0] at z ⊢
                exact ihu _ _ z
              · rw [if_neg w0]
            · rw [if_neg lt] at z
              exact absurd rfl z
        exact back 121 s 0 n0
      · have z0 : (apL f m s 121 s 0).1 = 0 := Classical.byContradiction fun z => y (r2 z).2
        obtain ⟨t1, t2, t3⟩ := r1 z0
        rw [et, if_pos z0]
        exact ⟨t1, t2, t3⟩
