/-! ===== the class: the solver solves ===== -/
/-- keys that reach place q in t hours -/
def rqA (s : Nat → Int32) (ab t q k : Nat) : Prop := ∃ a b c : Nat, a < nsP s ab 0 ∧ b < nsP s ab 1 ∧ c < nsP s ab 2 ∧ q = plA s ab a b c ∧ rcA s ab t a b c k
theorem rq_step {dm rm : Nat} {s : Nat → Int32} (i : InL dm rm s) {ab t : Nat} {nw : Nat → Int32} (m : ∀ q, q < totA s ab → mnS (rqA s ab t q) (nw q)) {q : Nat} {v : Int32} (h : mnS (tsS s ab t nw (fun _ _ _ => True) q) v) : mnS (rqA s ab (t + 1) q) v := by
  have fwd : ∀ k, rqA s ab (t + 1) q k → ∃ j, j ≤ k ∧ tsS s ab t nw (fun _ _ _ => True) q j := by
    rintro k ⟨a2, b2, c2, -, -, -, eq, a, b, c, K, x, y, z, ha, hb, hc, hr, hl, e1, e2, e3, ek⟩
    have pl := plA_lt (s := s) (ab := ab) ha hb hc
    have hq : rqA s ab t (plA s ab a b c) K := ⟨a, b, c, ha, hb, hc, rfl, hr⟩
    rcases m _ pl with ⟨-, no⟩ | ⟨K0, k0, e0, -, le⟩
    · exact absurd hq (no K)
    · have := le K hq
      subst e1
      subst e2
      subst e3
      exact ⟨K0 + dlA s ab t a b c x y z, by omega, a, b, c, K0, x, y, z, trivial, ha, hb, hc, e0, k0, hl, eq, rfl⟩
  have bwd : ∀ k, tsS s ab t nw (fun _ _ _ => True) q k → rqA s ab (t + 1) q k := by
    rintro k ⟨a, b, c, K, x, y, z, -, ha, hb, hc, e0, hK, hl, eq, ek⟩
    have pl := plA_lt (s := s) (ab := ab) ha hb hc
    rcases m _ pl with ⟨e1, -⟩ | ⟨K1, k1, e1, hr, -⟩
    · rw [e1] at e0
      have := (nI_eq (a := 2147483647) (b := K) (by omega) (by omega)).mp e0
      omega
    · rw [e1] at e0
      have ek1 := (nI_eq (a := K1) (b := K) (by omega) (by omega)).mp e0
      subst ek1
      obtain ⟨a', b', c', ha', hb', hc', ep, hr'⟩ := hr
      obtain ⟨p1, p2, p3⟩ := plA_inj hb hc hb' hc' ep
      subst p1
      subst p2
      subst p3
      exact ⟨_, _, _, nxP_lt i ha, nxP_lt i hb, nxP_lt i hc, eq, a, b, c, K1, x, y, z, ha, hb, hc, hr', hl, rfl, rfl, rfl, ek⟩
  rcases h with ⟨e, no⟩ | ⟨k, hk, e, m1, m2⟩
  · refine Or.inl ⟨e, fun k hk => ?_⟩
    obtain ⟨j, -, hj⟩ := fwd k hk
    exact no j hj
  · refine Or.inr ⟨k, hk, e, bwd k m1, fun j hj => ?_⟩
    obtain ⟨j2, l, hj2⟩ := fwd j hj
    have := m2 j2 hj2
    omega
/-- rows alike but for demands and reserves -/
def svE (s s0 : Nat → Int32) : Prop := ∀ j, (j < 4 ∨ 14 ≤ j) → s j = s0 j
theorem svE.f {s s0 : Nat → Int32} (e : svE s s0) : pfS s = pfS s0 := funext fun p => funext fun j => e _ (Or.inr (by omega))
theorem svE.P {s s0 : Nat → Int32} (e : svE s s0) : nP s = nP s0 := by
  unfold nP
  rw [e 3 (by omega)]
theorem svE.H {s s0 : Nat → Int32} (e : svE s s0) : nH s = nH s0 := by
  unfold nH
  rw [e 0 (by omega)]
theorem svE.pr {s s0 : Nat → Int32} (e : svE s s0) (ab p : Nat) : prs s ab p = prs s0 ab p := by
  unfold prs
  rw [e.P]
theorem svE.ns {s s0 : Nat → Int32} (e : svE s s0) (ab p : Nat) : nsP s ab p = nsP s0 ab p := by
  unfold nsP
  rw [e.pr, e.f]
theorem svE.lg {s s0 : Nat → Int32} (e : svE s s0) (ab p st : Nat) (b : Bool) : lgP s ab p st b = lgP s0 ab p st b := by
  unfold lgP
  rw [e.pr, e.f]
theorem svE.nx {s s0 : Nat → Int32} (e : svE s s0) (ab p st : Nat) (b : Bool) : nxP s ab p st b = nxP s0 ab p st b := by
  unfold nxP
  rw [e.pr, e.f]
theorem svE.md {s s0 : Nat → Int32} (e : svE s s0) (ab p st : Nat) (b : Bool) : mdP s ab p st b = mdP s0 ab p st b := by
  unfold mdP
  rw [e.pr, e.f]
theorem svE.tl {s s0 : Nat → Int32} (e : svE s s0) (ab p st : Nat) (b : Bool) : tlP s ab p st b = tlP s0 ab p st b := by
  unfold tlP
  rw [e.pr, e.f]
theorem svE.tb {s s0 : Nat → Int32} (e : svE s s0) {ab p σ : Nat} {h : Hp} (t : tbP s0 ab p σ h) : tbP s ab p σ h := by
  obtain ⟨t1, t2⟩ := t
  refine ⟨by rw [e.ns]; exact t1, fun st hs b => ?_⟩
  rw [e.lg, e.nx, e.md, e.tl]
  exact t2 st (by rw [← e.ns]; exact hs) b
theorem svE.sx {s s0 : Nat → Int32} (e : svE s s0) (ab p : Nat) : sxP s ab p = sxP s0 ab p := by
  unfold sxP
  rw [e.pr, e.f]
theorem svE.dp {s s0 : Nat → Int32} (e : svE s s0) {h : Hp} (d : dpI s0 h) : dpI s h := by
  unfold dpI at *
  rw [e.P, e.f, e 1 (by omega)]
  exact d
theorem svE.th {s s0 : Nat → Int32} (e : svE s s0) {ab : Nat} {h : Hp} (t : thI s ab h) : thI s0 ab h := by
  obtain ⟨th, h1, h2, h3⟩ := t
  exact ⟨th, h1, h2, fun p hp => (h3 p hp).trans (e.pr ab p)⟩
theorem tbP_frT {s : Nat → Int32} {ab p q σ : Nat} {h g : Hp} (hp : p < 3) (hq : q < 3) (n : q ≠ p) (a : tbP s ab q σ h) (f : frT p h g) : tbP s ab q σ g := by
  obtain ⟨a1, a2⟩ := a
  refine ⟨?_, fun st hs b => ?_⟩
  · rw [f.2.2 q n]
    exact a1
  · rw [f.2.1 _ (by omega) (by omega) (by omega) (by omega), f.2.1 _ (by omega) (by omega) (by omega) (by omega), f.2.1 _ (by omega) (by omega) (by omega) (by omega)]
    exact a2 st hs b
/-- the class's scratch -/
def scC : List Nat := [28, 29, 30, 31, 32, 33, 34, 35, 36, 37, 38, 39, 40, 41, 42, 43, 44, 45, 46, 47, 48, 49, 50, 51, 52, 53, 54, 55, 56, 57]
theorem thI.fr {s : Nat → Int32} {ab : Nat} {X : List Nat} {h g : Hp} (a : thI s ab h) (f : Fr X h g) (hx : 38 ∉ X) : thI s ab g := by
  obtain ⟨th, h1, h2, h3⟩ := a
  exact ⟨th, h1, by rw [f.1 38 hx]; exact h2, h3⟩
theorem thI.ui {s : Nat → Int32} {ab j : Nat} {x : Int32} {h : Hp} (a : thI s ab h) (hj : j ≠ 4) : thI s ab (ui h 38 j x) := by
  obtain ⟨th, h1, h2, h3⟩ := a
  exact ⟨th, h1, by rw [ui_nj (Ne.symm hj)]; exact h2, h3⟩
/-- keys of whole plans -/
def fiA (s : Nat → Int32) (ab k : Nat) : Prop := ∃ a b c : Nat, a < nsP s ab 0 ∧ b < nsP s ab 1 ∧ c < nsP s ab 2 ∧ rcA s ab (nH s) a b c k
def slP (s : Nat → Int32) (ab : Nat) (h : Hp) : Int32 → Hp → Prop := fun v g => (∃ x : Int32, mnS (fiA s ab) x ∧ ((x = 2147483647 ∧ v = -9) ∨ ∃ k : Nat, k < 2147483647 ∧ x = nI k ∧ v = nI (k / 32768) ∧ ∀ p, p < 3 → g.1 41 p = nI (k / 2 ^ (5 * (2 - p)) % 32))) ∧ Fr scC h g ∧ ∃ r1 r2, dyI r1 r2 g
theorem ct_keepRows0 (h : Hp) : CtI 1 mX7_keepRows [.ref 38, .int 2147483647] h (pq (-9) h) := e_X7_keepRows ⟨fun z => absurd rfl z, fun _ => ⟨rfl, rfl⟩⟩
set_option maxHeartbeats 2000000 in
theorem ct_solve0 {ab r1 r2 : Nat} (h : Hp) (s0 s : Nat → Int32) (c : sC 1 s0 h) (i0 : InS s0) (i : InL 100 80 s) (e : svE s s0) (hd : ∀ t, t < 5 → h.1 39 t = s (4 + t) ∧ h.1 40 t = s (9 + t)) (th : thI s ab h) (dy : dyI r1 r2 h) : CtI 4 mX7_solve [.ref 38] h (slP s ab h) := by
  have hH := i.o.hH
  obtain ⟨a1, a7⟩ := nsP_b i ab 0
  obtain ⟨b1, b7⟩ := nsP_b i ab 1
  obtain ⟨c1, c7⟩ := nsP_b i ab 2
  obtain ⟨tot1, tot⟩ := totA_b i ab
  have djc : ∀ k, k ∈ cS 1 → k ∉ scC := by decide
  have r12 : ∀ r r', dyR r r' → r ∈ scC ∧ r' ∈ scC ∧ r ≠ 38 ∧ r' ≠ 38 ∧ (∀ k, k ∈ tcs → k ∉ [r]) ∧ (∀ k, k ∈ tcs → k ∉ [r']) ∧ (∀ k, k ∈ dcs → k ∉ [r]) ∧ (∀ k, k ∈ dcs → k ∉ [r']) ∧ (r ≠ 39 ∧ r ≠ 40 ∧ r ≠ 55) ∧ (r' ≠ 39 ∧ r' ≠ 40 ∧ r' ≠ 55) := by
    rintro r r' (⟨x, y⟩ | ⟨x, y⟩) <;> subst x <;> subst y <;> decide
  -- the least of all
  have l3 : ∀ (r1 r2 : Nat) (g0 : Hp), Fr scC h g0 → dyI r1 r2 g0 → (∀ q, q < totA s ab → mnS (rqA s ab (nH s) q) (g0.1 r1 q)) → ∀ n q : Nat, n + q = totA s ab → ∀ x : Int32, mnS (fun k => ∃ q2, q2 < q ∧ rqA s ab (nH s) q2 k) x → GoI 4 mX7_solve 138 [(0, .ref 38), (1, .int (nI (totA s ab))), (3, .int x), (4, .int (nI q))] [] g0 (slP s ab h) := by
    intro r1 r2 g0 f0 d0 m0 n
    induction n with
    | zero =>
      intro q hq x mx
      have hq : q = totA s ab := by omega
      subst hq
      have mf : mnS (fiA s ab) x := mnS_congr (fun k => ⟨fun ⟨q2, _, a, b, c, ha, hb, hc, _, hr⟩ => ⟨a, b, c, ha, hb, hc, hr⟩, fun ⟨a, b, c, ha, hb, hc, hr⟩ => ⟨_, plA_lt ha hb hc, a, b, c, ha, hb, hc, rfl, hr⟩⟩) mx
      refine b_X7_solve_138 ⟨fun _ => ?_, fun z => absurd (nI_le (Nat.le_refl _) (by omega)) z⟩
      have mf0 := mf
      rcases mf with ⟨ex, -⟩ | ⟨k, hk, ex, -, -⟩
      · subst ex
        exact pc (ct_keepRows0 g0) ⟨⟨_, mf0, Or.inl ⟨rfl, rfl⟩⟩, f0, r1, r2, d0⟩
      · subst ex
        exact ⟨_, ct_keepRows hk g0, fun v g q => ⟨⟨_, mf0, Or.inr ⟨k, hk, rfl, q.1, q.2.2⟩⟩, f0.tr (q.2.1.mono (by decide)), r1, r2, d0.fr q.2.1 (by decide)⟩⟩
    | succ n ih =>
      intro q hq x mx
      refine b_X7_solve_138 ⟨fun z => absurd z (nI_ge (by omega) (by omega)), fun _ => ⟨r1, d0.n, d0.1.c.1, vp_in_nI (by omega) (by omega), pc (ct_min _ _ g0) ?_⟩⟩
      rw [nI_clamp (show q < 2 ^ 31 by omega), nI_1]
      refine ih (q + 1) (by omega) _ (mnS_congr (fun k => ?_) (mnS_or mx (m0 q (by omega))))
      constructor
      · rintro (⟨q2, h1, h2⟩ | h2)
        · exact ⟨q2, by omega, h2⟩
        · exact ⟨q, by omega, h2⟩
      · rintro ⟨q2, h1, h2⟩
        by_cases y : q2 = q
        · subst y
          exact Or.inr h2
        · exact Or.inl ⟨q2, by omega, h2⟩
  -- the hours
  have l2 : ∀ n t : Nat, n + t = nH s → ∀ (r1 r2 : Nat) (g : Hp), Fr scC h g → dyI r1 r2 g → tbP s ab 0 (nsP s ab 2 * nsP s ab 1) g → tbP s ab 1 (nsP s ab 2) g → tbP s ab 2 1 g → dpI s g → thI s ab g → (∀ t, t < 5 → g.1 39 t = s (4 + t) ∧ g.1 40 t = s (9 + t)) → (∀ q, q < totA s ab → mnS (rqA s ab t q) (g.1 r1 q)) → GoI 4 mX7_solve 74 [(0, .ref 38), (1, .int (nI (totA s ab))), (3, .int (nI t))] [] g (slP s ab h) := by
    intro n
    induction n with
    | zero =>
      intro t ht r1 r2 g f d t0 t1 t2 dp th hd m
      have ht : t = nH s := by omega
      subst ht
      have cg := c.fr f djc
      refine b_X7_solve_74 ⟨fun _ => l3 r1 r2 g f d m (totA s ab) 0 rfl _ (Or.inl ⟨rfl, fun k ⟨q2, hq2, _⟩ => by omega⟩), fun z => absurd ?_ z⟩
      rw [cg.H, ← e 0 (by omega), i.o.eH]
      exact nI_le (by omega) (by omega)
    | succ n ih =>
      intro t ht r1 r2 g f d t0 t1 t2 dp th hd m
      have cg := c.fr f djc
      obtain ⟨x1, x2, x3, x4, x5, x6, x7, x8, x9, x10⟩ := r12 r1 r2 d.1
      have cc := d.1.c
      have t5 : t < 5 := by omega
      refine b_X7_solve_74 ⟨fun z => absurd z ?_, fun _ => ⟨_, ct_layHourCosts t5 g s dp i th (hd t t5).1 (hd t t5).2, fun h4 q4 => ?_⟩⟩
      · rw [cg.H, ← e 0 (by omega), i.o.eH]
        exact nI_ge (by omega) (by omega)
      · have d4 := d.fr q4.2 (by decide)
        refine ⟨r2, d4.t, cc.2.1, _, ct_fillTo cc.2.1 (N := totA s ab) tot _ h4, fun h12 q12 => ?_⟩
        have d12 := d4.fr q12.1 (fun z => x4 (List.mem_singleton.mp z).symm)
        have n12 : h12.1 r1 = g.1 r1 := by
          have nr : r1 ∉ [35, 55] := by
            rcases d.1 with ⟨y, -⟩ | ⟨y, -⟩ <;> subst y <;> decide
          rw [q12.1.1 r1 (fun z => cc.2.2.2.2 (List.mem_singleton.mp z)), q4.2.1 r1 nr]
        have J : spH s ab t r1 r2 h12 := ⟨(t0.fr (by decide) q4.2 (by decide)).fr (by decide) q12.1 x6, (t1.fr (by decide) q4.2 (by decide)).fr (by decide) q12.1 x6, (t2.fr (by decide) q4.2 (by decide)).fr (by decide) q12.1 x6, q4.1.fr q12.1 (fun z => x10.2.2 (List.mem_singleton.mp z).symm), d12⟩
        refine ⟨_, ct_spread (by decide) t5 h12 s i J (g.1 r1) n12 (fun q hq => ?_) q12.2, fun h17 q17 => ?_⟩
        · rcases m q hq with ⟨ex, -⟩ | ⟨k, hk, ex, ⟨a, b, c, ha, hb, hc, -, hr⟩, -⟩
          · exact Or.inl ex
          · have := rcA_b (by decide) i ab t (by omega) a b c k hr
            exact Or.inr ⟨k, by omega, ex⟩
        · have J17 := J.fr q17.1
          have d17 := J17.2.2.2.2
          have f17 : Fr scC h h17 := ((f.tr (q4.2.mono (by decide))).tr (q12.1.mono (fun k hk => by rw [List.mem_singleton.mp hk]; exact x2))).tr (q17.1.mono (fun k hk => by rw [List.mem_singleton.mp hk]; exact x2))
          have th17 : thI s ab h17 := ((th.fr q4.2 (by decide)).fr q12.1 (fun z => x4 (List.mem_singleton.mp z).symm)).fr q17.1 (fun z => x4 (List.mem_singleton.mp z).symm)
          have dp17 : dpI s h17 := ((dp.fr q4.2 (by decide)).fr q12.1 x8).fr q17.1 x8
          have hd17 : ∀ t, t < 5 → h17.1 39 t = s (4 + t) ∧ h17.1 40 t = s (9 + t) := fun t ht => by
            rw [q17.1.1 39 (fun z => x10.1 (List.mem_singleton.mp z).symm), q17.1.1 40 (fun z => x10.2.1 (List.mem_singleton.mp z).symm), q12.1.1 39 (fun z => x10.1 (List.mem_singleton.mp z).symm), q12.1.1 40 (fun z => x10.2.1 (List.mem_singleton.mp z).symm), q4.2.1 39 (by decide), q4.2.1 40 (by decide)]
            exact hd t ht
          refine ⟨r1, d17.n, cc.1, r2, d17.t, cc.2.1, cc.2.2.2.1, fun g26 e26 => ⟨cc.2.2.1, fun g28 e28 => ?_⟩⟩
          have fu : Fr [38] h17 g28 := by
            rw [e28, e26]
            exact (Fr.ui (by decide)).tr (Fr.ui (by decide))
          have d28 : dyI r2 r1 g28 := by
            refine ⟨d.1.elim (fun z => Or.inr ⟨z.2, z.1⟩) (fun z => Or.inl ⟨z.2, z.1⟩), ?_, ?_⟩
            · rw [e28, ui_nj (by decide), e26, ui_aa]
            · rw [e28, ui_aa]
          rw [nI_1]
          refine ih (t + 1) (by omega) r2 r1 g28 (f17.tr (fu.mono (by decide))) d28 (J17.1.fr (by decide) fu (by decide)) (J17.2.1.fr (by decide) fu (by decide)) (J17.2.2.1.fr (by decide) fu (by decide)) (dp17.fr fu (by decide)) ?_ (fun t ht => ?_) (fun q hq => ?_)
          · rw [e28, e26]
            exact (th17.ui (by decide)).ui (by decide)
          · rw [fu.1 39 (by decide), fu.1 40 (by decide)]
            exact hd17 t ht
          · rw [fu.1 r2 (fun z => x4 (List.mem_singleton.mp z))]
            exact rq_step i m (q17.2 q hq)
  -- the tables
  refine e_X7_solve ⟨_, ct_ready h s0 c i0, fun h4 q4 => ?_⟩
  have st : ∀ (p σ F : Nat) (g : Hp), p < 3 → Fr scC h g → thI s ab g → (∀ g' : Hp, tbP s ab p σ g' → frT p g g' → GoI 4 mX7_solve 17 [(0, .ref 38), (1, .int (nI (σ * nsP s ab p))), (2, .int (nI (F + sxP s ab p * σ))), (3, .int (nI p + (-1)))] [] g' (slP s ab h)) → GoI 4 mX7_solve 17 [(0, .ref 38), (1, .int (nI σ)), (2, .int (nI F)), (3, .int (nI p))] [] g (slP s ab h) := by
    intro p σ F g hp f tg k
    have vi : vp_in (nI p) 3 := vp_in_nI hp (by omega)
    refine b_X7_solve_17 ⟨fun z => absurd z (nI_pos (by omega)), fun _ => ⟨vi, ?_⟩⟩
    rw [nI_clamp (show p < 2 ^ 31 by omega)]
    refine ⟨_, ct_layTables hp g s0 (c.fr f djc) i0 (e.th tg), fun v h18 q => ⟨vi, ?_⟩⟩
    obtain ⟨q1, q2, q3⟩ := q
    have t2 := e.tb q2
    rw [q1, t2.1, pk_mul, nI_add, ← e.sx]
    exact k h18 t2 q3
  have f4 : Fr scC h h4 := q4.2.mono (by decide)
  have th4 := th.fr q4.2 (by decide)
  have start : GoI 4 mX7_solve 17 [(0, .ref 38), (1, .int (nI 1)), (2, .int (nI 0)), (3, .int (nI 2))] [] h4 (slP s ab h) := by
    refine st 2 1 0 h4 (by decide) f4 th4 (fun ga ta fa => ?_)
    have fga : Fr scC h ga := f4.tr (fa.1.mono (by decide))
    have tha := th4.fr fa.1 (by decide)
    rw [Nat.one_mul]
    refine st 1 _ _ ga (by decide) fga tha (fun gb tb fb => ?_)
    have fgb : Fr scC h gb := fga.tr (fb.1.mono (by decide))
    have thb := tha.fr fb.1 (by decide)
    refine st 0 _ _ gb (by decide) fgb thb (fun gc tc fc => ?_)
    have fgc : Fr scC h gc := fgb.tr (fc.1.mono (by decide))
    have thc := thb.fr fc.1 (by decide)
    have ta2 := tbP_frT (by decide) (by decide) (by decide) (tbP_frT (by decide) (by decide) (by decide) ta fb) fc
    have tb2 := tbP_frT (by decide) (by decide) (by decide) tb fc
    have dyc : dyI r1 r2 gc := (((dy.fr q4.2 (by decide)).fr fa.1 (by decide)).fr fb.1 (by decide)).fr fc.1 (by decide)
    have dpc : dpI s gc := (((e.dp q4.1).fr fa.1 (by decide)).fr fb.1 (by decide)).fr fc.1 (by decide)
    have hdc : ∀ t, t < 5 → gc.1 39 t = s (4 + t) ∧ gc.1 40 t = s (9 + t) := fun t ht => by
      rw [fc.1.1 39 (by decide), fc.1.1 40 (by decide), fb.1.1 39 (by decide), fb.1.1 40 (by decide), fa.1.1 39 (by decide), fa.1.1 40 (by decide), q4.2.1 39 (by decide), q4.2.1 40 (by decide)]
      exact hd t ht
    have etot : nsP s ab 2 * nsP s ab 1 * nsP s ab 0 = totA s ab := by
      unfold totA
      rw [Nat.mul_comm (nsP s ab 2 * nsP s ab 1), Nat.mul_comm (nsP s ab 2), ← Nat.mul_assoc]
    have efst : 0 + sxP s ab 2 * 1 + sxP s ab 1 * nsP s ab 2 + sxP s ab 0 * (nsP s ab 2 * nsP s ab 1) = plA s ab (sxP s ab 0) (sxP s ab 1) (sxP s ab 2) := by
      rw [← plA_sum]
      omega
    have l0 := sxP_lt i ab 0
    have l1 := sxP_lt i ab 1
    have l2' := sxP_lt i ab 2
    have pl := plA_lt l0 l1 l2'
    obtain ⟨x1, x2, x3, x4, x5, x6, x7, x8, x9, x10⟩ := r12 r1 r2 dy.1
    have cc := dy.1.c
    rw [etot, efst]
    refine b_X7_solve_17 ⟨fun _ => ⟨r1, dyc.n, cc.1, _, ct_fillTo cc.1 (N := totA s ab) tot _ gc, fun h7 q7 => ?_⟩, fun z => absurd (show nI 0 + (-1) < 0 by decide) z⟩
    have d7 := dyc.fr q7.1 (fun z => x3 (List.mem_singleton.mp z).symm)
    refine ⟨r1, d7.n, cc.1, vp_in_nI (by omega) (by omega), fun g13 e13 => ?_⟩
    rw [nI_clamp (show plA s ab (sxP s ab 0) (sxP s ab 1) (sxP s ab 2) < 2 ^ 31 by omega)] at e13
    have f13 : Fr [r1] gc g13 := by
      rw [e13]
      exact q7.1.tr (Fr.ui (List.mem_cons_self ..))
    refine l2 (nH s) 0 rfl r1 r2 g13 (fgc.tr (f13.mono (fun k hk => by rw [List.mem_singleton.mp hk]; exact x1))) (dyc.fr f13 (fun z => x3 (List.mem_singleton.mp z).symm)) (tc.fr (by decide) f13 x5) (tb2.fr (by decide) f13 x5) (ta2.fr (by decide) f13 x5) (dpc.fr f13 x7) (thc.fr f13 (fun z => x3 (List.mem_singleton.mp z).symm)) (fun t ht => ?_) (fun q hq => ?_)
    · rw [f13.1 39 (fun z => x9.1 (List.mem_singleton.mp z).symm), f13.1 40 (fun z => x9.2.1 (List.mem_singleton.mp z).symm)]
      exact hdc t ht
    · rw [e13, ui_get]
      by_cases y : q = plA s ab (sxP s ab 0) (sxP s ab 1) (sxP s ab 2)
      · rw [if_pos ⟨rfl, y⟩]
        exact Or.inr ⟨0, by omega, rfl, ⟨_, _, _, l0, l1, l2', y, rfl, rfl, rfl, rfl⟩, fun j _ => Nat.zero_le j⟩
      · rw [if_neg (fun z => y z.2), q7.2 q hq]
        refine Or.inl ⟨rfl, fun k hk => ?_⟩
        obtain ⟨a, b, c, -, -, -, eq, ea, eb, ec, -⟩ := hk
        rw [ea, eb, ec] at eq
        exact y eq
  exact start
