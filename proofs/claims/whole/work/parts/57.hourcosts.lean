/-! ===== the class: the solver loaded; costs of an hour by modes ===== -/
theorem ct_load (h : Hp) (s : Nat → Int32) (c : sC 1 s h) (o : OKs s) : CtV 1 mX7_load [.ref 38] h (fun g => Fr [38, 39, 40] h g ∧ (∀ i, i ≠ 4 → g.1 38 i = h.1 38 i) ∧ (∀ t, t < 5 → g.1 39 t = s (4 + t) ∧ g.1 40 t = s (9 + t)) ∧ g.1 38 4 = nI (2 ^ nP s - 1)) := by
  have hP := o.hP
  refine e_X7_load (fun g1 e1 g2 e2 g3 e3 => ?_)
  have c1 : sC 1 s g1 := by
    rw [e1]
    exact c.fr (X := [39]) (Fr.uc (by decide)) (by decide)
  have c2 : sC 1 s g2 := by
    rw [e2]
    exact c1.fr (X := [40]) (Fr.uc (by decide)) (by decide)
  rw [c2.M, o.eP, shl1 (nP s) (by omega), pow1 (nP s) (by omega)] at e3
  refine ⟨?_, fun i hi => ?_, fun t ht => ⟨?_, ?_⟩, ?_⟩
  · rw [e3, e2, e1]
    exact ((Fr.uc (by decide)).tr (Fr.uc (by decide))).tr (Fr.ui (by decide))
  · rw [e3, ui_nj hi, e2, uc_ne _ _ (by decide), e1, uc_ne _ _ (by decide)]
  · rw [e3, ui_ne (by decide), e2, uc_ne _ _ (by decide), e1, uc_at, sb_cpy0 ht]
    exact c.d1 ht
  · rw [e3, ui_ne (by decide), e2, uc_at, sb_cpy0 ht]
    exact c1.r1 ht
  · rw [e3, ui_aa]
/-- the set of modes, who goes on -/
def sM (m : Nat) : Nat := (if m / 9 % 3 = 0 then 0 else 1) + (if m / 3 % 3 = 0 then 0 else 2) + (if m % 3 = 0 then 0 else 4)
def gM (m : Nat) : Nat := (if m / 9 % 3 = 2 then 1 else 0) + (if m / 3 % 3 = 2 then 2 else 0) + (if m % 3 = 2 then 4 else 0)
def hS1 (x3 x5 p : Int32) : Int32 := x3 ||| ((if (x5 - x5 / 3 * 3) = 0 then (0 : Int32) else 1) <<< (p &&& 31))
def hG1 (x4 x5 p : Int32) : Int32 := x4 ||| ((if (x5 - x5 / 3 * 3) = 2 then (1 : Int32) else 0) <<< (p &&& 31))
theorem hSM : ∀ m, m < 27 → hS1 (hS1 (hS1 0 (nI m) 2) (nI m / 3) 1) (nI m / 3 / 3) 0 = nI (sM m) ∧ hG1 (hG1 (hG1 0 (nI m) 2) (nI m / 3) 1) (nI m / 3 / 3) 0 = nI (gM m) ∧ sM m < 8 ∧ gM m < 8 := by decide +kernel
/-- digit p of the modes -/
def dgM (m p : Nat) : Nat := if p = 0 then m / 9 % 3 else if p = 1 then m / 3 % 3 else m % 3
theorem sM_b : ∀ m, m < 27 → ∀ p, p < 3 → hasB (nI (sM m)) p = decide (dgM m p ≠ 0) ∧ hasB (nI (gM m)) p = decide (dgM m p = 2) := by decide +kernel
theorem sub8 : ∀ a, a < 8 → ∀ b, b < 8 → (nI a &&& (nI b ^^^ (-1)) = 0 ∨ (hasB (nI a) 0 = true ∧ hasB (nI b) 0 = false) ∨ (hasB (nI a) 1 = true ∧ hasB (nI b) 1 = false) ∨ (hasB (nI a) 2 = true ∧ hasB (nI b) 2 = false)) := by decide +kernel
/-- an hour's cost by modes -/
def hcM (s : Nat → Int32) (t m : Nat) : Int32 := if cnP s (s (4 + t)) (s (9 + t)) (nI (sM m)) (nI (gM m)) then coE (nP s) (s 1) (pfS s) (s (4 + t)) (s (9 + t)) (hasB (nI (sM m))) (hasB (nI (gM m))) else -9
def hcI (s : Nat → Int32) (ab t n : Nat) (h : Hp) : Prop := ∀ m, m < n → (∀ p, p < 3 → dgM m p ≠ 0 → prs s ab p = true) → h.1 55 m = hcM s t m
set_option maxHeartbeats 4000000 in
theorem ct_layHourCosts {dm rm ab t : Nat} (ht : t < 5) (h : Hp) (s : Nat → Int32) (I : dpI s h) (i : InL dm rm s) (th : thI s ab h) (h39 : h.1 39 t = s (4 + t)) (h40 : h.1 40 t = s (9 + t)) : CtV 2 mX7_layHourCosts [.ref 38, .int (nI t)] h (fun g => hcI s ab t 27 g ∧ Fr [35, 55] h g) := by
  have vt : vp_in (nI t) 5 := vp_in_nI ht (by omega)
  have ct : (nI t).toNatClampNeg = t := nI_clamp (by omega)
  have lp : ∀ n m : Nat, n + m = 27 → ∀ g : Hp, Fr [35, 55] h g → hcI s ab t m g → GoV 2 mX7_layHourCosts 2 [(0, .ref 38), (1, .int (nI t)), (2, .int (nI m))] [] g (fun g => hcI s ab t 27 g ∧ Fr [35, 55] h g) := by
    intro n
    induction n with
    | zero =>
      intro m hm g f k
      have hm : m = 27 := by omega
      subst hm
      exact b_X7_layHourCosts_2 ⟨fun _ => ⟨k, f⟩, fun z => absurd (nI_le (a := 27) (by omega) (by omega)) z⟩
    | succ n ih =>
      intro m hm g f k
      obtain ⟨e1, e2, b1, b2⟩ := hSM m (by omega)
      have s132 : ∀ (v : Int32) (g2 : Hp), Fr [35] g g2 → ((∀ p, p < 3 → dgM m p ≠ 0 → prs s ab p = true) → v = hcM s t m) → GoV 2 mX7_layHourCosts 132 [(0, .ref 38), (1, .int (nI t)), (2, .int (nI m))] [.int v, .int (nI m), .ref 55] g2 (fun g => hcI s ab t 27 g ∧ Fr [35, 55] h g) := by
        intro v g2 f2 hv
        refine b_X7_layHourCosts_132 ⟨vp_in_nI (by omega) (by omega), fun g3 e3 => ?_⟩
        rw [nI_clamp (show m < 2 ^ 31 by omega)] at e3
        rw [nI_1]
        refine ih (m + 1) (by omega) g3 ?_ (fun m2 hm2 hp => ?_)
        · rw [e3]
          exact (f.tr (f2.mono (by decide))).tr (Fr.ui (by decide))
        · rw [e3, ui_get]
          by_cases y : m2 = m
          · subst y
            rw [if_pos ⟨rfl, rfl⟩]
            exact hv hp
          · rw [if_neg (fun z => y z.2), f2.1 55 (by decide)]
            exact k m2 (by omega) hp
      have fin : GoV 2 mX7_layHourCosts 19 [(0, .ref 38), (1, .int (nI t)), (2, .int (nI m)), (3, .int (nI (sM m))), (4, .int (nI (gM m))), (5, .int (nI m / 3 / 3 / 3)), (6, .int (-1))] [] g (fun g => hcI s ab t 27 g ∧ Fr [35, 55] h g) := by
        obtain ⟨tt, htt, ett, ptt⟩ := th
        refine b_X7_layHourCosts_19 ⟨fun _ => ?_, fun z => absurd (show (-1 : Int32) < 0 by decide) z⟩
        rw [f.1 38 (by decide), ett, ite_bI, f.1 39 (by decide), f.1 40 (by decide), ct, h39, h40]
        refine ⟨fun z => s132 _ g Fr.rf (fun hp => ?_), fun z => ⟨vt, vt, _, ct_share _ _ _ _ g s (I.fr f (by decide)) i, fun v g6 q => s132 v g6 q.2.1 (fun _ => q.1)⟩⟩
        have ne := of_decide_eq_false (bI_0.mp z)
        have no : ∀ p, p < 3 → hasB (nI (sM m)) p = true → hasB (nI tt) p = false → False := fun p h3 x y => by
          rw [(sM_b m (by omega) p h3).1] at x
          have := hp p h3 (of_decide_eq_true x)
          rw [ptt p h3, this] at y
          cases y
        rcases sub8 (sM m) b1 tt htt with w | w | w | w
        · exact absurd w ne
        · exact (no 0 (by decide) w.1 w.2).elim
        · exact (no 1 (by decide) w.1 w.2).elim
        · exact (no 2 (by decide) w.1 w.2).elim
      have st : ∀ (x3 x4 x5 p q : Int32), ¬ p < 0 → p + (-1) = q → GoV 2 mX7_layHourCosts 19 [(0, .ref 38), (1, .int (nI t)), (2, .int (nI m)), (3, .int (hS1 x3 x5 p)), (4, .int (hG1 x4 x5 p)), (5, .int (x5 / 3)), (6, .int q)] [] g (fun g => hcI s ab t 27 g ∧ Fr [35, 55] h g) → GoV 2 mX7_layHourCosts 19 [(0, .ref 38), (1, .int (nI t)), (2, .int (nI m)), (3, .int x3), (4, .int x4), (5, .int x5), (6, .int p)] [] g (fun g => hcI s ab t 27 g ∧ Fr [35, 55] h g) := by
        intro x3 x4 x5 p q hp hq k
        subst hq
        exact b_X7_layHourCosts_19 ⟨fun z => absurd z hp, fun _ => k⟩
      rw [← e1, ← e2] at fin
      exact b_X7_layHourCosts_2 ⟨fun z => absurd z (nI_ge (b := 27) (by omega) (by omega)), fun _ => st 0 0 (nI m) 2 1 (by decide) (by decide) (st _ _ _ 1 0 (by decide) (by decide) (st _ _ _ 0 (-1) (by decide) (by decide) fin))⟩
  exact e_X7_layHourCosts (lp 27 0 rfl h Fr.rf (fun m hm => by omega))
/-! ===== the plan's machine: places, moves ===== -/
/-- the place of three states -/
def plA (s : Nat → Int32) (ab a b c : Nat) : Nat := (a * nsP s ab 1 + b) * nsP s ab 2 + c
def totA (s : Nat → Int32) (ab : Nat) : Nat := nsP s ab 0 * nsP s ab 1 * nsP s ab 2
theorem hor_inj {u v n c d : Nat} (hc : c < n) (hd : d < n) (h : u * n + c = v * n + d) : u = v ∧ c = d := by
  rcases Nat.lt_trichotomy u v with q | q | q
  · have : (u + 1) * n ≤ v * n := Nat.mul_le_mul_right n q
    rw [Nat.add_mul] at this
    omega
  · subst q
    exact ⟨rfl, by omega⟩
  · have : (v + 1) * n ≤ u * n := Nat.mul_le_mul_right n q
    rw [Nat.add_mul] at this
    omega
theorem hor_lt {u n c m : Nat} (hc : c < n) (hu : u < m) : u * n + c < m * n := by
  have : (u + 1) * n ≤ m * n := Nat.mul_le_mul_right n hu
  rw [Nat.add_mul] at this
  omega
theorem plA_inj {s : Nat → Int32} {ab a b c a2 b2 c2 : Nat} (hb : b < nsP s ab 1) (hc : c < nsP s ab 2) (hb2 : b2 < nsP s ab 1) (hc2 : c2 < nsP s ab 2) (h : plA s ab a b c = plA s ab a2 b2 c2) : a = a2 ∧ b = b2 ∧ c = c2 := by
  obtain ⟨h1, h2⟩ := hor_inj hc hc2 h
  obtain ⟨h3, h4⟩ := hor_inj hb hb2 h1
  exact ⟨h3, h4, h2⟩
theorem plA_lt {s : Nat → Int32} {ab a b c : Nat} (ha : a < nsP s ab 0) (hb : b < nsP s ab 1) (hc : c < nsP s ab 2) : plA s ab a b c < totA s ab := hor_lt hc (hor_lt hb ha)
theorem plA_sum (s : Nat → Int32) (ab a b c : Nat) : a * (nsP s ab 2 * nsP s ab 1) + b * nsP s ab 2 + c * 1 = plA s ab a b c := by
  unfold plA
  rw [Nat.add_mul, Nat.mul_one, Nat.mul_assoc, Nat.mul_comm (nsP s ab 2) (nsP s ab 1)]
theorem nsP_b {dm rm : Nat} {s : Nat → Int32} (i : InL dm rm s) (ab p : Nat) : 1 ≤ nsP s ab p ∧ nsP s ab p ≤ 7 := by
  unfold nsP
  cases h : prs s ab p with
  | true =>
    obtain ⟨o1, o2, n1, n2⟩ := plI_on (i.f (prs_lt h))
    rw [if_pos rfl]
    omega
  | false =>
    rw [if_neg Bool.false_ne_true]
    omega
theorem totA_b {dm rm : Nat} {s : Nat → Int32} (i : InL dm rm s) (ab : Nat) : 1 ≤ totA s ab ∧ totA s ab ≤ 343 := by
  obtain ⟨a1, a2⟩ := nsP_b i ab 0
  obtain ⟨b1, b2⟩ := nsP_b i ab 1
  obtain ⟨c1, c2⟩ := nsP_b i ab 2
  have u1 : nsP s ab 0 * nsP s ab 1 ≤ 7 * 7 := Nat.mul_le_mul a2 b2
  have u2 : nsP s ab 0 * nsP s ab 1 * nsP s ab 2 ≤ 7 * 7 * 7 := Nat.mul_le_mul u1 c2
  have l1 : 1 * 1 ≤ nsP s ab 0 * nsP s ab 1 := Nat.mul_le_mul a1 b1
  have l2 : 1 * 1 * 1 ≤ nsP s ab 0 * nsP s ab 1 * nsP s ab 2 := Nat.mul_le_mul l1 c1
  exact ⟨l2, u2⟩
theorem nxP_lt {dm rm : Nat} {s : Nat → Int32} (i : InL dm rm s) {ab p st : Nat} {b : Bool} (hs : st < nsP s ab p) : nxP s ab p st b < nsP s ab p := by
  unfold nxP nsP at *
  cases h : prs s ab p with
  | true =>
    rw [h, if_pos rfl] at hs
    have hf := i.f (prs_lt h)
    obtain ⟨o1, o2, n1, n2⟩ := plI_on hf
    rw [if_pos rfl, if_pos rfl]
    have ra : aR 4 (rep (oN (pfS s p)) st) := rep_aR (by omega) o2
    obtain ⟨j, j1, j2, j3⟩ := aR_go (by decide) ra b
    have : ∀ j, j < 6 → 1 ≤ j → clA (nI j) = nI (min j 4) ∧ clA (-nI j) = -nI (min j 4) := by decide
    obtain ⟨f1, f2⟩ := this j (by omega) j1
    have ca : aR 9 (clA (goS (rep (oN (pfS s p)) st) b)) := by
      rcases j3 with z | z
      · exact ⟨min j 4, by omega, by omega, Or.inl (by rw [z, f1])⟩
      · exact ⟨min j 4, by omega, by omega, Or.inr (by rw [z, f2])⟩
    exact (ag_all hf ca).1
  | false =>
    rw [if_neg Bool.false_ne_true, if_neg Bool.false_ne_true]
    decide
theorem sxP_lt {dm rm : Nat} {s : Nat → Int32} (i : InL dm rm s) (ab p : Nat) : sxP s ab p < nsP s ab p := by
  unfold sxP nsP
  cases h : prs s ab p with
  | true =>
    have hf := i.f (prs_lt h)
    rw [if_pos rfl, if_pos rfl]
    exact (ag_all hf ((plI_age hf).mono (by decide))).1
  | false =>
    rw [if_neg Bool.false_ne_true, if_neg Bool.false_ne_true]
    decide
/-- the modes of a move -/
def mdA (s : Nat → Int32) (ab a b c : Nat) (x y z : Bool) : Nat := 9 * mdP s ab 0 a x + 3 * mdP s ab 1 b y + mdP s ab 2 c z
/-- a move is lawful and the hour can be done so -/
def lgA (s : Nat → Int32) (ab t a b c : Nat) (x y z : Bool) : Bool := lgP s ab 0 a x && lgP s ab 1 b y && lgP s ab 2 c z && cnP s (s (4 + t)) (s (9 + t)) (nI (sM (mdA s ab a b c x y z))) (nI (gM (mdA s ab a b c x y z)))
/-- what a move adds to the cost, to the key -/
def coA (s : Nat → Int32) (ab t a b c : Nat) (x y z : Bool) : Nat := (hcM s t (mdA s ab a b c x y z)).toNatClampNeg + tlP s ab 0 a x + tlP s ab 1 b y + tlP s ab 2 c z
def biA (x y z : Bool) : Nat := x.toNat * 1024 + y.toNat * 32 + z.toNat
def dlA (s : Nat → Int32) (ab t a b c : Nat) (x y z : Bool) : Nat := coA s ab t a b c x y z * 32768 + biA x y z * 2 ^ t
theorem mdP_b (s : Nat → Int32) (ab p st : Nat) (b : Bool) : mdP s ab p st b ≤ 2 ∧ (mdP s ab p st b ≠ 0 → prs s ab p = true) := by
  unfold mdP
  cases prs s ab p with
  | true =>
    rw [if_pos rfl]
    refine ⟨?_, fun _ => rfl⟩
    split
    · split <;> omega
    · omega
  | false =>
    rw [if_neg Bool.false_ne_true]
    exact ⟨by omega, fun z => absurd rfl z⟩
theorem mdA_d (s : Nat → Int32) (ab a b c : Nat) (x y z : Bool) : mdA s ab a b c x y z < 27 ∧ dgM (mdA s ab a b c x y z) 0 = mdP s ab 0 a x ∧ dgM (mdA s ab a b c x y z) 1 = mdP s ab 1 b y ∧ dgM (mdA s ab a b c x y z) 2 = mdP s ab 2 c z := by
  have h0 := (mdP_b s ab 0 a x).1
  have h1 := (mdP_b s ab 1 b y).1
  have h2 := (mdP_b s ab 2 c z).1
  unfold mdA
  generalize mdP s ab 0 a x = u at *
  generalize mdP s ab 1 b y = v at *
  generalize mdP s ab 2 c z = w at *
  refine ⟨by omega, ?_, ?_, ?_⟩
  · show (9 * u + 3 * v + w) / 9 % 3 = u
    omega
  · show (9 * u + 3 * v + w) / 3 % 3 = v
    omega
  · show (9 * u + 3 * v + w) % 3 = w
    omega
theorem mdA_p (s : Nat → Int32) (ab a b c : Nat) (x y z : Bool) : ∀ p, p < 3 → dgM (mdA s ab a b c x y z) p ≠ 0 → prs s ab p = true := by
  obtain ⟨-, d0, d1, d2⟩ := mdA_d s ab a b c x y z
  intro p hp
  match p, hp with
  | 0, _ =>
    rw [d0]
    exact (mdP_b s ab 0 a x).2
  | 1, _ =>
    rw [d1]
    exact (mdP_b s ab 1 b y).2
  | 2, _ =>
    rw [d2]
    exact (mdP_b s ab 2 c z).2
theorem tlP_b {dm rm : Nat} {s : Nat → Int32} (i : InL dm rm s) {ab p st : Nat} (b : Bool) (hs : st < nsP s ab p) : tlP s ab p st b ≤ 100 := by
  unfold tlP
  unfold nsP at hs
  cases h : prs s ab p with
  | true =>
    rw [h, if_pos rfl] at hs
    have hf := i.f (prs_lt h)
    obtain ⟨o1, o2, n1, n2⟩ := plI_on hf
    rw [if_pos rfl]
    by_cases c : b = true ∧ st < oN (pfS s p)
    · have ra : aR 4 (rep (oN (pfS s p)) st) := rep_aR (by omega) o2
      obtain ⟨v, hv, ev⟩ := st_b hf (m := 4) (by decide) ra ((rep_neg (by omega) o2).mpr c.2)
      rw [if_pos c, ev, nI_clamp (by omega)]
      exact hv
    · rw [if_neg c]
      omega
  | false =>
    rw [if_neg Bool.false_ne_true]
    omega
theorem hcM_b {dm rm : Nat} (hdm : dm ≤ 500) {s : Nat → Int32} (i : InL dm rm s) {t : Nat} (ht : t < 5) {m : Nat} (h : cnP s (s (4 + t)) (s (9 + t)) (nI (sM m)) (nI (gM m)) = true) : ∃ v : Nat, v ≤ 1710 ∧ hcM s t m = nI v := by
  unfold hcM
  rw [if_pos h]
  obtain ⟨D, hD, eD⟩ := i.dn ht
  unfold cnP at h
  rw [eD] at h ⊢
  exact coE_b hdm i hD h
theorem coA_b {dm rm : Nat} (hdm : dm ≤ 500) {s : Nat → Int32} (i : InL dm rm s) {ab t a b c : Nat} (ht : t < 5) {x y z : Bool} (ha : a < nsP s ab 0) (hb : b < nsP s ab 1) (hc : c < nsP s ab 2) (h : lgA s ab t a b c x y z = true) : coA s ab t a b c x y z ≤ 2010 := by
  unfold lgA at h
  rw [Bool.and_eq_true] at h
  obtain ⟨v, hv, ev⟩ := hcM_b hdm i ht h.2
  have h0 := tlP_b i x ha
  have h1 := tlP_b i y hb
  have h2 := tlP_b i z hc
  unfold coA
  rw [ev, nI_clamp (by omega)]
  omega
/-- keys that reach states in t hours -/
def rcA (s : Nat → Int32) (ab : Nat) : Nat → Nat → Nat → Nat → Nat → Prop
  | 0, a, b, c, K => a = sxP s ab 0 ∧ b = sxP s ab 1 ∧ c = sxP s ab 2 ∧ K = 0
  | t + 1, a2, b2, c2, K2 => ∃ (a b c K : Nat) (x y z : Bool), a < nsP s ab 0 ∧ b < nsP s ab 1 ∧ c < nsP s ab 2 ∧ rcA s ab t a b c K ∧ lgA s ab t a b c x y z = true ∧ a2 = nxP s ab 0 a x ∧ b2 = nxP s ab 1 b y ∧ c2 = nxP s ab 2 c z ∧ K2 = K + dlA s ab t a b c x y z
theorem biA_b (x y z : Bool) : biA x y z ≤ 1057 := by cases x <;> cases y <;> cases z <;> decide
theorem rcA_b {dm rm : Nat} (hdm : dm ≤ 500) {s : Nat → Int32} (i : InL dm rm s) (ab : Nat) : ∀ t, t ≤ 5 → ∀ a b c K, rcA s ab t a b c K → K ≤ t * 70000000
  | 0, _, a, b, c, K, h => by
    obtain ⟨-, -, -, e⟩ := h
    omega
  | t + 1, ht, a2, b2, c2, K2, h => by
    obtain ⟨a, b, c, K, x, y, z, ha, hb, hc, hr, hl, -, -, -, e⟩ := h
    have ih := rcA_b hdm i ab t (by omega) a b c K hr
    have h1 := coA_b hdm i (by omega) ha hb hc hl
    have h2 := biA_b x y z
    have h3 : 2 ^ t ≤ 2 ^ 4 := Nat.pow_le_pow_right (by decide) (by omega)
    have h4 : biA x y z * 2 ^ t ≤ 1057 * 16 := Nat.mul_le_mul h2 h3
    unfold dlA at e
    omega
