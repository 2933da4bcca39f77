/-! ===== the class: a row filled; all states spread ===== -/
theorem ct_fillTo {r N : Nat} (hr : w0.2[r]? = some (100, 343)) (hN : N ≤ 343) (v : Int32) (h : Hp) : CtV 1 mJ7_fill_fda19 [.ref r, .int 0, .int (nI N), .int v] h (fun g => Fr [r] h g ∧ ∀ q, q < N → g.1 r q = v) := by
  have rc : CtV 0 mJ7_rangeCheck_23922 [.int (nI 343), .int 0, .int (nI N)] h (fun g => g = h) := e_J7_rangeCheck_23922 ⟨fun _ => ⟨fun _ => ⟨fun _ => rfl, fun z => absurd (nI_le hN (by omega)) z⟩, fun z => absurd (show (0 : Int32) ≤ 0 by decide) z⟩, fun z => absurd (nI_le (a := 0) (b := N) (by omega) (by omega)) z⟩
  refine e_J7_fill_fda19 hr (vc rc ?_)
  have lp : ∀ n k : Nat, n + k = N → ∀ g : Hp, Fr [r] h g → (∀ q, q < k → g.1 r q = v) → GoV 1 mJ7_fill_fda19 10 [(0, .ref r), (2, .int (nI N)), (3, .int v), (4, .int (nI k))] [] g (fun g => Fr [r] h g ∧ ∀ q, q < N → g.1 r q = v) := by
    intro n
    induction n with
    | zero =>
      intro k hk g f e
      have hk : k = N := by omega
      subst hk
      exact b_J7_fill_fda19_10 hr ⟨fun _ => ⟨f, e⟩, fun z => absurd (nI_le (Nat.le_refl _) (by omega)) z⟩
    | succ n ih =>
      intro k hk g f e
      refine b_J7_fill_fda19_10 hr ⟨fun z => absurd z (nI_ge (by omega) (by omega)), fun _ => ⟨vp_in_nI (by omega) (by omega), fun g2 e2 => ?_⟩⟩
      rw [nI_clamp (show k < 2 ^ 31 by omega)] at e2
      rw [nI_1]
      refine ih (k + 1) (by omega) g2 ?_ (fun q hq => ?_)
      · rw [e2]
        exact f.tr (Fr.ui (List.mem_cons_self ..))
      · rw [e2, ui_get]
        by_cases y : q = k
        · rw [if_pos ⟨rfl, y⟩]
        · rw [if_neg (fun z => y z.2)]
          exact e q (by omega)
  exact lp N 0 rfl h Fr.rf (fun q hq => by omega)
/-- keys at place q by moves from the states of D, as the row nw has them -/
def tsS (s : Nat → Int32) (ab t : Nat) (nw : Nat → Int32) (D : Nat → Nat → Nat → Prop) (q k : Nat) : Prop := ∃ (a b c K : Nat) (x y z : Bool), D a b c ∧ a < nsP s ab 0 ∧ b < nsP s ab 1 ∧ c < nsP s ab 2 ∧ nw (plA s ab a b c) = nI K ∧ K < 2147483647 ∧ lgA s ab t a b c x y z = true ∧ q = plA s ab (nxP s ab 0 a x) (nxP s ab 1 b y) (nxP s ab 2 c z) ∧ k = K + dlA s ab t a b c x y z
def loD (a b c : Nat) (a2 b2 c2 : Nat) : Prop := a2 < a ∨ (a2 = a ∧ (b2 < b ∨ (b2 = b ∧ c2 < c)))
theorem tsS_mono {s : Nat → Int32} {ab t : Nat} {nw : Nat → Int32} {D E : Nat → Nat → Nat → Prop} {q : Nat} {v : Int32} (m : mnS (tsS s ab t nw D q) v) (h : ∀ a b c K, a < nsP s ab 0 → b < nsP s ab 1 → c < nsP s ab 2 → K < 2147483647 → nw (plA s ab a b c) = nI K → (D a b c ↔ E a b c)) : mnS (tsS s ab t nw E q) v := by
  refine mnS_congr (fun k => ?_) m
  constructor
  · rintro ⟨a, b, c, K, x, y, z, d, h1, h2, h3, h4, h5, h6⟩
    exact ⟨a, b, c, K, x, y, z, (h a b c K h1 h2 h3 h5 h4).mp d, h1, h2, h3, h4, h5, h6⟩
  · rintro ⟨a, b, c, K, x, y, z, d, h1, h2, h3, h4, h5, h6⟩
    exact ⟨a, b, c, K, x, y, z, (h a b c K h1 h2 h3 h5 h4).mpr d, h1, h2, h3, h4, h5, h6⟩
theorem plA_c (s : Nat → Int32) (ab a b c : Nat) : plA s ab a b c + 1 = plA s ab a b (c + 1) := rfl
theorem plA_b (s : Nat → Int32) (ab a b : Nat) : plA s ab a b (nsP s ab 2) = plA s ab a (b + 1) 0 := by
  unfold plA
  have e : (a * nsP s ab 1 + (b + 1)) * nsP s ab 2 = (a * nsP s ab 1 + b) * nsP s ab 2 + nsP s ab 2 := by rw [← Nat.add_assoc, Nat.add_mul _ 1, Nat.one_mul]
  omega
theorem plA_a (s : Nat → Int32) (ab a : Nat) : plA s ab a (nsP s ab 1) 0 = plA s ab (a + 1) 0 0 := by
  unfold plA
  rw [Nat.add_mul a 1, Nat.one_mul]
  rfl
set_option maxHeartbeats 2000000 in
theorem ct_spread {dm rm ab t r1 r2 : Nat} (hdm : dm ≤ 500) (ht : t < 5) (h : Hp) (s : Nat → Int32) (i : InL dm rm s) (I : spH s ab t r1 r2 h) (nw : Nat → Int32) (hnw : h.1 r1 = nw) (hk : ∀ q, q < totA s ab → nw q = 2147483647 ∨ ∃ K : Nat, K ≤ 350000000 ∧ nw q = nI K) (hf : ∀ q, q < totA s ab → h.1 r2 q = 2147483647) : CtV 2 mX7_spread [.ref 38, .int (nI t)] h (fun g => Fr [r2] h g ∧ ∀ q, q < totA s ab → mnS (tsS s ab t nw (fun _ _ _ => True) q) (g.1 r2 q)) := by
  obtain ⟨a1, a7⟩ := nsP_b i ab 0
  obtain ⟨b1, b7⟩ := nsP_b i ab 1
  obtain ⟨c1, c7⟩ := nsP_b i ab 2
  obtain ⟨-, tot⟩ := totA_b i ab
  have nr : r1 ≠ r2 := I.2.2.2.2.1.c.2.2.2.2
  have base : ∀ g : Hp, Fr [r2] h g → spH s ab t r1 r2 g ∧ g.1 r1 = nw ∧ g.1 42 0 = nI (nsP s ab 0) ∧ g.1 42 1 = nI (nsP s ab 1) ∧ g.1 42 2 = nI (nsP s ab 2) := fun g f => by
    have J := I.fr f
    refine ⟨J, ?_, J.1.1, J.2.1.1, J.2.2.1.1⟩
    rw [f.1 r1 (fun z => nr (List.mem_singleton.mp z))]
    exact hnw
  have l3 : ∀ (a b : Nat), a < nsP s ab 0 → b < nsP s ab 1 → ∀ n c : Nat, n + c = nsP s ab 2 → ∀ g : Hp, Fr [r2] h g → (∀ q, q < totA s ab → mnS (tsS s ab t nw (loD a b c) q) (g.1 r2 q)) →
      (∀ g' : Hp, Fr [r2] h g' → (∀ q, q < totA s ab → mnS (tsS s ab t nw (loD a (b + 1) 0) q) (g'.1 r2 q)) → GoV 2 mX7_spread 17 [(0, .ref 38), (1, .int (nI t)), (2, .int (nI (plA s ab a (b + 1) 0))), (3, .int (nI a)), (4, .int (nI (b + 1)))] [] g' (fun g => Fr [r2] h g ∧ ∀ q, q < totA s ab → mnS (tsS s ab t nw (fun _ _ _ => True) q) (g.1 r2 q))) →
      GoV 2 mX7_spread 31 [(0, .ref 38), (1, .int (nI t)), (2, .int (nI (plA s ab a b c))), (3, .int (nI a)), (4, .int (nI b)), (5, .int (nI c))] [] g (fun g => Fr [r2] h g ∧ ∀ q, q < totA s ab → mnS (tsS s ab t nw (fun _ _ _ => True) q) (g.1 r2 q)) := by
    intro a b ha hb n
    induction n with
    | zero =>
      intro c hc g f m k
      have hc : c = nsP s ab 2 := by omega
      subst hc
      obtain ⟨J, -, -, -, e2⟩ := base g f
      refine b_X7_spread_31 ⟨fun _ => ?_, fun z => absurd ?_ z⟩
      · rw [nI_1, plA_b]
        refine k g f (fun q hq => tsS_mono (m q hq) (fun a2 b2 c2 K h1 h2 h3 _ _ => ?_))
        unfold loD
        omega
      · rw [e2]
        exact nI_le (by omega) (by omega)
    | succ n ih =>
      intro c hc g f m k
      obtain ⟨J, e1, -, -, e2⟩ := base g f
      have dd := J.2.2.2.2
      have pl := plA_lt (s := s) (ab := ab) ha hb (show c < nsP s ab 2 by omega)
      have cp : (nI (plA s ab a b c)).toNatClampNeg = plA s ab a b c := nI_clamp (by omega)
      have vi : vp_in (nI (plA s ab a b c)) 343 := vp_in_nI (by omega) (by omega)
      have t2 : ∀ x : Nat, (2 : Int32) * nI x = nI (2 * x) := fun x => pk_mul 2 x
      refine b_X7_spread_31 ⟨fun z => absurd z ?_, fun _ => ⟨r1, dd.n, dd.1.c.1, vi, ?_⟩⟩
      · rw [e2]
        exact nI_ge (by omega) (by omega)
      · rw [cp, e1]
        have grow : ∀ q v, (∀ K, K < 2147483647 → nw (plA s ab a b c) = nI K → False) → mnS (tsS s ab t nw (loD a b c) q) v → mnS (tsS s ab t nw (loD a b (c + 1)) q) v := fun q v hno hm => by
          refine tsS_mono hm (fun a2 b2 c2 K h1 h2 h3 hK e => ⟨fun d => ?_, fun d => ?_⟩)
          · unfold loD at d ⊢
            omega
          · unfold loD at d ⊢
            by_cases y : a2 = a ∧ b2 = b ∧ c2 = c
            · rw [y.1, y.2.1, y.2.2] at e
              exact (hno K hK e).elim
            · omega
        refine ⟨fun fz => b_X7_spread_75 ?_, fun fz => ⟨r1, dd.n, dd.1.c.1, vi, ?_⟩⟩
        · rw [nI_1, nI_1, plA_c]
          refine ih (c + 1) (by omega) g f (fun q hq => grow q _ (fun K hK e => ?_) (m q hq)) k
          rw [e] at fz
          have := (nI_eq (a := K) (b := 2147483647) (by omega) (by omega)).mp fz
          omega
        · rcases hk _ pl with w | ⟨K, hK, w⟩
          · exact absurd w fz
          · rw [e1, w, t2, t2, t2]
            refine ⟨_, ct_spreadFrom hdm ht hK g s i J ha hb (show c < nsP s ab 2 by omega) (tsS s ab t nw (loD a b c)) m, fun g12 q12 => b_X7_spread_75 ?_⟩
            rw [nI_1, nI_1, plA_c]
            refine ih (c + 1) (by omega) g12 (f.tr q12.1) (fun q hq => mnS_congr (fun k => ?_) (q12.2 q hq)) k
            unfold spS
            constructor
            · rintro (⟨a2, b2, c2, K2, x, y, z, d, h1, h2, h3, h4, h5, h6⟩ | ⟨x, y, z, -, h2, h3, h4⟩)
              · exact ⟨a2, b2, c2, K2, x, y, z, by unfold loD at d ⊢; omega, h1, h2, h3, h4, h5, h6⟩
              · exact ⟨a, b, c, K, x, y, z, by unfold loD; omega, ha, hb, by omega, w, by omega, h2, h3, h4⟩
            · clear fz
              rintro ⟨a2, b2, c2, K2, x, y, z, d, h1, h2, h3, h4, h5, h6, h7, h8⟩
              by_cases y0 : a2 = a ∧ b2 = b ∧ c2 = c
              · obtain ⟨y1, y2, y3⟩ := y0
                subst y1
                subst y2
                subst y3
                rw [w] at h4
                have ek := (nI_eq (by omega) (by omega)).mp h4
                subst ek
                exact Or.inr ⟨x, y, z, trivial, h6, h7, h8⟩
              · exact Or.inl ⟨a2, b2, c2, K2, x, y, z, by unfold loD at d ⊢; omega, h1, h2, h3, h4, h5, h6, h7, h8⟩
  have l2 : ∀ a : Nat, a < nsP s ab 0 → ∀ n b : Nat, n + b = nsP s ab 1 → ∀ g : Hp, Fr [r2] h g → (∀ q, q < totA s ab → mnS (tsS s ab t nw (loD a b 0) q) (g.1 r2 q)) →
      (∀ g' : Hp, Fr [r2] h g' → (∀ q, q < totA s ab → mnS (tsS s ab t nw (loD (a + 1) 0 0) q) (g'.1 r2 q)) → GoV 2 mX7_spread 4 [(0, .ref 38), (1, .int (nI t)), (2, .int (nI (plA s ab (a + 1) 0 0))), (3, .int (nI (a + 1)))] [] g' (fun g => Fr [r2] h g ∧ ∀ q, q < totA s ab → mnS (tsS s ab t nw (fun _ _ _ => True) q) (g.1 r2 q))) →
      GoV 2 mX7_spread 17 [(0, .ref 38), (1, .int (nI t)), (2, .int (nI (plA s ab a b 0))), (3, .int (nI a)), (4, .int (nI b))] [] g (fun g => Fr [r2] h g ∧ ∀ q, q < totA s ab → mnS (tsS s ab t nw (fun _ _ _ => True) q) (g.1 r2 q)) := by
    intro a ha n
    induction n with
    | zero =>
      intro b hb g f m k
      have hb : b = nsP s ab 1 := by omega
      subst hb
      obtain ⟨J, -, -, e2, -⟩ := base g f
      refine b_X7_spread_17 ⟨fun _ => ?_, fun z => absurd ?_ z⟩
      · rw [nI_1, plA_a]
        refine k g f (fun q hq => tsS_mono (m q hq) (fun a2 b2 c2 K h1 h2 h3 _ _ => ?_))
        unfold loD
        omega
      · rw [e2]
        exact nI_le (by omega) (by omega)
    | succ n ih =>
      intro b hb g f m k
      obtain ⟨J, -, -, e2, -⟩ := base g f
      refine b_X7_spread_17 ⟨fun z => absurd z ?_, fun _ => l3 a b ha (by omega) (nsP s ab 2) 0 rfl g f m (fun g' f' m' => ih (b + 1) (by omega) g' f' m' k)⟩
      rw [e2]
      exact nI_ge (by omega) (by omega)
  have l1 : ∀ n a : Nat, n + a = nsP s ab 0 → ∀ g : Hp, Fr [r2] h g → (∀ q, q < totA s ab → mnS (tsS s ab t nw (loD a 0 0) q) (g.1 r2 q)) → GoV 2 mX7_spread 4 [(0, .ref 38), (1, .int (nI t)), (2, .int (nI (plA s ab a 0 0))), (3, .int (nI a))] [] g (fun g => Fr [r2] h g ∧ ∀ q, q < totA s ab → mnS (tsS s ab t nw (fun _ _ _ => True) q) (g.1 r2 q)) := by
    intro n
    induction n with
    | zero =>
      intro a ha g f m
      have ha : a = nsP s ab 0 := by omega
      subst ha
      obtain ⟨J, -, e2, -, -⟩ := base g f
      refine b_X7_spread_4 ⟨fun _ => ⟨f, fun q hq => tsS_mono (m q hq) (fun a2 b2 c2 K h1 h2 h3 _ _ => ⟨fun _ => trivial, fun _ => Or.inl h1⟩)⟩, fun z => absurd ?_ z⟩
      rw [e2]
      exact nI_le (by omega) (by omega)
    | succ n ih =>
      intro a ha g f m
      obtain ⟨J, -, e2, -, -⟩ := base g f
      refine b_X7_spread_4 ⟨fun z => absurd z ?_, fun _ => l2 a (by omega) (nsP s ab 1) 0 rfl g f m (fun g' f' m' => ih (a + 1) (by omega) g' f' m')⟩
      rw [e2]
      exact nI_ge (by omega) (by omega)
  have z0 : plA s ab 0 0 0 = 0 := by
    unfold plA
    rw [Nat.zero_mul, Nat.zero_mul]
  have := l1 (nsP s ab 0) 0 rfl h Fr.rf (fun q hq => Or.inl ⟨hf q hq, fun k hk => ?_⟩)
  · rw [z0] at this
    exact e_X7_spread this
  · obtain ⟨a, b, c, K, x, y, z, d, -⟩ := hk
    unfold loD at d
    omega
/-! ===== the class: rows kept ===== -/
theorem mnS_or {S T : Nat → Prop} {v w : Int32} (a : mnS S v) (b : mnS T w) : mnS (fun k => S k ∨ T k) (imin v w) := by
  rcases b with ⟨e, n⟩ | ⟨k, hk, e, m1, m2⟩
  · have ew : imin v w = v := by
      rw [e]
      rcases a with ⟨e2, -⟩ | ⟨k, hk, e2, -⟩
      · rw [e2]
        rfl
      · rw [e2, free_nI, imin_nI (by omega) (by omega), Nat.min_eq_left (by omega)]
    rw [ew]
    exact mnS_congr (fun k => ⟨Or.inl, fun z => z.elim id (fun y => absurd y (n k))⟩) a
  · have h := mnS_add a hk
    rw [← e] at h
    rcases h with ⟨e2, n⟩ | ⟨j, hj, e2, j1, j2⟩
    · exact absurd (Or.inr rfl) (n k)
    · refine Or.inr ⟨j, hj, e2, ?_, fun x hx => ?_⟩
      · rcases j1 with z | z
        · exact Or.inl z
        · rw [z]
          exact Or.inr m1
      · rcases hx with z | z
        · exact j2 x (Or.inl z)
        · have := j2 k (Or.inr rfl)
          have := m2 x z
          omega
theorem ct_keepRows {k : Nat} (hk : k < 2147483647) (h : Hp) : CtI 1 mX7_keepRows [.ref 38, .int (nI k)] h (fun v g => v = nI (k / 32768) ∧ Fr [41] h g ∧ ∀ p, p < 3 → g.1 41 p = nI (k / 2 ^ (5 * (2 - p)) % 32)) := by
  have sh : ∀ p, p < 3 → (nI k >>> (nI (5 * (2 - p)) &&& 31)) &&& 31 = nI (k / 2 ^ (5 * (2 - p)) % 32) := fun p hp => by
    have hq : ∀ p, p < 3 → ((nI (5 * (2 - p)) &&& 31).toBitVec.smod 32).toNat = 5 * (2 - p) := by decide
    rw [pk_shrN (by omega) _ _ (hq p hp), pk_andN (Nat.lt_of_le_of_lt (Nat.div_le_self _ _) (by omega)) 5 (by decide)]
  have s15 : nI k >>> ((15 : Int32) &&& 31) = nI (k / 32768) := pk_shrN (by omega) _ 15 (by decide)
  refine e_X7_keepRows ⟨fun _ => ?_, fun z => ?_⟩
  · have lp : ∀ n p : Nat, n + p = 3 → ∀ g : Hp, Fr [41] h g → (∀ q, q < p → g.1 41 q = nI (k / 2 ^ (5 * (2 - q)) % 32)) → GoI 1 mX7_keepRows 11 [(0, .ref 38), (1, .int (nI k)), (2, .int (nI p))] [] g (fun v g => v = nI (k / 32768) ∧ Fr [41] h g ∧ ∀ p, p < 3 → g.1 41 p = nI (k / 2 ^ (5 * (2 - p)) % 32)) := by
      intro n
      induction n with
      | zero =>
        intro p hp g f e
        have hp : p = 3 := by omega
        subst hp
        refine b_X7_keepRows_11 ⟨fun _ => ⟨s15, f, e⟩, fun z => absurd (nI_le (a := 3) (by omega) (by omega)) z⟩
      | succ n ih =>
        intro p hp g f e
        refine b_X7_keepRows_11 ⟨fun z => absurd z (nI_ge (b := 3) (by omega) (by omega)), fun _ => pc (ct_rowShift (by omega) g) ⟨vp_in_nI (by omega) (by omega), fun g7 e7 => ?_⟩⟩
        rw [sh p (by omega), nI_clamp (show p < 2 ^ 31 by omega)] at e7
        rw [nI_1]
        refine ih (p + 1) (by omega) g7 ?_ (fun q hq => ?_)
        · rw [e7]
          exact f.tr (Fr.ui (by decide))
        · rw [e7, ui_get]
          by_cases y : q = p
          · rw [if_pos ⟨rfl, y⟩, y]
          · rw [if_neg (fun z => y z.2)]
            exact e q (by omega)
    exact lp 3 0 rfl h Fr.rf (fun q hq => by omega)
  · have := (nI_eq (a := k) (b := 2147483647) (by omega) (by omega)).mp z
    omega
