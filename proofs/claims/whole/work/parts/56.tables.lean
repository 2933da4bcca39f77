/-! ===== the class: the solver's states of one plant ===== -/
/-- how many states off, on -/
def oN (f : Nat → Int32) : Nat := if f 0 = 1 ∨ f 0 = 4 then 4 else (f 8).toNatClampNeg
def nN (f : Nat → Int32) : Nat := if f 0 = 3 ∨ f 0 = 5 then 1 else (f 7).toNatClampNeg
/-- the state of an age -/
def stn (off on : Nat) (a : Int32) : Nat := if a < 0 then min (-a).toNatClampNeg off - 1 else off + min a.toNatClampNeg on - 1
/-- the age that stands for a state -/
def rep (off st : Nat) : Int32 := if st < off then -nI (st + 1) else nI (st - off + 1)
theorem oN_c {f g : Nat → Int32} (h0 : f 0 = g 0) (h8 : f 8 = g 8) : oN f = oN g := by
  unfold oN
  rw [h0, h8]
theorem nN_c {f g : Nat → Int32} (h0 : f 0 = g 0) (h7 : f 7 = g 7) : nN f = nN g := by
  unfold nN
  rw [h0, h7]
theorem on_b : ∀ n, n < 486 → 1 ≤ oN (fK (n / 9 % 6) (n / 3 % 3 + 1) (n % 3 + 1)) ∧ oN (fK (n / 9 % 6) (n / 3 % 3 + 1) (n % 3 + 1)) ≤ 4 ∧ 1 ≤ nN (fK (n / 9 % 6) (n / 3 % 3 + 1) (n % 3 + 1)) ∧ nN (fK (n / 9 % 6) (n / 3 % 3 + 1) (n % 3 + 1)) ≤ 3 := by decide +kernel
theorem plI_on {f : Nat → Int32} (h : plI f) : 1 ≤ oN f ∧ oN f ≤ 4 ∧ 1 ≤ nN f ∧ nN f ≤ 3 := by
  obtain ⟨k, u, d, hk, u1, u2, d1, d2, e0, e7, e8⟩ := plI_k h
  obtain ⟨n, hn, -, n2, n3, n4⟩ := mv_ix (j := 1) (by decide) (by decide) hk u1 u2 d1 d2
  have := on_b n hn
  rw [n2, n3, n4] at this
  rw [oN_c e0 e8, nN_c e0 e7]
  exact this
/-- what is to be known of an age and its state: for one kind, least times and age -/
def agQ (f : Nat → Int32) (a : Int32) : Bool :=
  decide (stn (oN f) (nN f) a < oN f + nN f) &&
  (mgS f (rep (oN f) (stn (oN f) (nN f) a)) true == mgS f a true) && (mgS f (rep (oN f) (stn (oN f) (nN f) a)) false == mgS f a false) &&
  (!(mgS f a true) || (stn (oN f) (nN f) (clA (goS (rep (oN f) (stn (oN f) (nN f) a)) true)) == stn (oN f) (nN f) (goS a true))) &&
  (!(mgS f a false) || (stn (oN f) (nN f) (clA (goS (rep (oN f) (stn (oN f) (nN f) a)) false)) == stn (oN f) (nN f) (goS a false))) &&
  (decide (stn (oN f) (nN f) a < oN f) == decide (a < 0)) &&
  (!(decide (a < 0)) || !(decide (f 0 = 1 ∨ f 0 = 4)) || decide (imin (-(rep (oN f) (stn (oN f) (nN f) a))) 4 = imin (-a) 4))
theorem ag_p : ∀ n, n < 486 → agQ (fK (n / 9 % 6) (n / 3 % 3 + 1) (n % 3 + 1)) (nI (n / 54 + 1)) = true ∧ agQ (fK (n / 9 % 6) (n / 3 % 3 + 1) (n % 3 + 1)) (-nI (n / 54 + 1)) = true := by decide +kernel
theorem agQ_c {f g : Nat → Int32} (h0 : f 0 = g 0) (h7 : f 7 = g 7) (h8 : f 8 = g 8) (a : Int32) : agQ f a = agQ g a := by
  unfold agQ
  rw [oN_c h0 h8, nN_c h0 h7, h0]
  simp only [mgS_c h0 h7 h8]
theorem agQ_t {f : Nat → Int32} (hf : plI f) {a : Int32} (ha : aR 9 a) : agQ f a = true := by
  obtain ⟨k, u, d, hk, u1, u2, d1, d2, e0, e7, e8⟩ := plI_k hf
  obtain ⟨j, h1, h2, h3⟩ := ha
  obtain ⟨n, hn, n1, n2, n3, n4⟩ := mv_ix h1 h2 hk u1 u2 d1 d2
  have m := ag_p n hn
  rw [n1, n2, n3, n4] at m
  rw [agQ_c e0 e7 e8]
  rcases h3 with e | e
  · rw [e]
    exact m.1
  · rw [e]
    exact m.2
theorem stS_k {k fg st r r2 : Int32} (h : ¬ (k = 1 ∨ k = 4)) : stS k fg st r = stS k fg st r2 := by
  unfold stS
  rw [if_neg (fun z => h (Or.inl z)), if_neg (fun z => h (Or.inl z))]
  by_cases c : k = 3
  · rw [if_pos c, if_pos c]
  · rw [if_neg c, if_neg c, if_neg (fun z => h (Or.inr z)), if_neg (fun z => h (Or.inr z))]
/-- the state of an age says all that the age says -/
theorem ag_all {f : Nat → Int32} (hf : plI f) {a : Int32} (ha : aR 9 a) : stn (oN f) (nN f) a < oN f + nN f ∧ (∀ b, mgS f (rep (oN f) (stn (oN f) (nN f) a)) b = mgS f a b) ∧ (∀ b, mgS f a b = true → stn (oN f) (nN f) (clA (goS (rep (oN f) (stn (oN f) (nN f) a)) b)) = stn (oN f) (nN f) (goS a b)) ∧ (stn (oN f) (nN f) a < oN f ↔ a < 0) ∧ (a < 0 → stS (f 0) (f 1) (f 6) (-(rep (oN f) (stn (oN f) (nN f) a))) = stS (f 0) (f 1) (f 6) (-a)) := by
  have q := agQ_t hf ha
  unfold agQ at q
  simp only [Bool.and_eq_true, Bool.or_eq_true, Bool.not_eq_true', beq_iff_eq, decide_eq_true_iff, decide_eq_decide, decide_eq_false_iff_not] at q
  obtain ⟨⟨⟨⟨⟨⟨q1, q2⟩, q3⟩, q4⟩, q5⟩, q6⟩, q7⟩ := q
  refine ⟨q1, fun b => ?_, fun b hb => ?_, q6, fun hn => ?_⟩
  · cases b with
    | true => exact q2
    | false => exact q3
  · cases b with
    | true =>
      rcases q4 with z | z
      · rw [hb] at z
        cases z
      · exact z
    | false =>
      rcases q5 with z | z
      · rw [hb] at z
        cases z
      · exact z
  · rcases q7 with (z | z) | z
    · exact absurd hn z
    · exact stS_k z
    · exact stS_4 _ _ _ _ _ z
theorem rep_aR {off st : Nat} (h : st < off + 3) (ho : off ≤ 4) : aR 4 (rep off st) := by
  unfold rep
  by_cases c : st < off
  · rw [if_pos c]
    exact ⟨st + 1, by omega, by omega, Or.inr rfl⟩
  · rw [if_neg c]
    exact ⟨st - off + 1, by omega, by omega, Or.inl rfl⟩
theorem rep_neg {off st : Nat} (h : st < off + 3) (ho : off ≤ 4) : rep off st < 0 ↔ st < off := by
  unfold rep
  by_cases c : st < off
  · rw [if_pos c]
    obtain ⟨-, -, -, -, -, -, g7⟩ := age_f1 (st + 1) (by omega) (by omega)
    exact ⟨fun _ => c, fun _ => g7⟩
  · rw [if_neg c]
    obtain ⟨-, -, -, -, -, g6, -⟩ := age_f1 (st - off + 1) (by omega) (by omega)
    exact ⟨fun z => absurd z g6, fun z => absurd z c⟩
/-! ===== the tables ===== -/
/-- a plant that may run -/
def prs (s : Nat → Int32) (ab p : Nat) : Bool := decide (p < nP s) && !hasB (nI ab) p
def nsP (s : Nat → Int32) (ab p : Nat) : Nat := if prs s ab p then oN (pfS s p) + nN (pfS s p) else 1
def lgP (s : Nat → Int32) (ab p st : Nat) (b : Bool) : Bool := if prs s ab p then mgS (pfS s p) (rep (oN (pfS s p)) st) b else !b
def nxP (s : Nat → Int32) (ab p st : Nat) (b : Bool) : Nat := if prs s ab p then stn (oN (pfS s p)) (nN (pfS s p)) (clA (goS (rep (oN (pfS s p)) st) b)) else 0
def mdP (s : Nat → Int32) (ab p st : Nat) (b : Bool) : Nat := if prs s ab p then (if b then (if st < oN (pfS s p) then 2 else 1) else 0) else 0
def tlP (s : Nat → Int32) (ab p st : Nat) (b : Bool) : Nat := if prs s ab p then (if b = true ∧ st < oN (pfS s p) then (stS (pfS s p 0) (pfS s p 1) (pfS s p 6) (-(rep (oN (pfS s p)) st))).toNatClampNeg else 0) else 0
def enP (s : Nat → Int32) (ab p σ st : Nat) (h : Hp) : Prop := ∀ b : Bool, h.1 (44 + p) (2 * st + b.toNat) = (if lgP s ab p st b then nI (nxP s ab p st b * σ) else -1) ∧ h.1 (48 + p) (2 * st + b.toNat) = nI (mdP s ab p st b) ∧ h.1 (52 + p) (2 * st + b.toNat) = nI (tlP s ab p st b * 32768)
/-- the tables of plant p -/
def tbP (s : Nat → Int32) (ab p σ : Nat) (h : Hp) : Prop := h.1 42 p = nI (nsP s ab p) ∧ ∀ st, st < nsP s ab p → enP s ab p σ st h
def tcs : List Nat := [42, 44, 45, 46, 48, 49, 50, 52, 53, 54]
/-- the start state -/
def sxP (s : Nat → Int32) (ab p : Nat) : Nat := if prs s ab p then stn (oN (pfS s p)) (nN (pfS s p)) (pfS s p 9) else 0
theorem shl15 : ∀ v, v < 2048 → nI v <<< ((15 : Int32) &&& 31) = nI (v * 32768) := by decide +kernel
theorem ct_rowShift {p : Nat} (hp : p < 3) (h : Hp) : CtI 0 mX7_rowShift [.int (nI p)] h (pq (nI (5 * (2 - p))) h) := by
  refine e_X7_rowShift ⟨?_, rfl⟩
  have : ∀ p, p < 3 → (5 : Int32) * (2 - nI p) = nI (5 * (2 - p)) := by decide
  exact this p hp
theorem ct_layMove {p m : Nat} (hp : p < 3) (hm : m < 14) (a b c : Int32) (h : Hp) : CtV 0 mX7_layMove [.ref 38, .int (nI p), .int (nI m), .int a, .int b, .int c] h (fun g => g = ui (ui (ui h (44 + p) m a) (48 + p) m b) (52 + p) m c) := by
  have v1 : vp_in (nI p) 3 := vp_in_nI hp (by omega)
  have v2 : vp_in (nI m) 14 := vp_in_nI hm (by omega)
  refine e_X7_layMove ?_
  rw [nI_clamp (show p < 2 ^ 31 by omega), nI_clamp (show m < 2 ^ 31 by omega)]
  exact ⟨v1, v2, fun g3 e3 => ⟨v1, v2, fun g6 e6 => ⟨v1, v2, fun g9 e9 => by rw [e9, e6, e3]⟩⟩⟩
theorem ct_plOf {off on σ : Nat} (ho : off ≤ 4) (hn : on ≤ 4) (ho1 : 1 ≤ off) (hn1 : 1 ≤ on) {x : Int32} (hx : x = 0 ∨ aR 9 x) (h : Hp) : CtI 1 mX7_placeOf [.int x, .int (nI off), .int (nI on), .int (nI σ)] h (pq (if x = 0 then -1 else nI (stn off on x * σ)) h) := by
  refine e_X7_placeOf ⟨fun c => ⟨fun c2 => ?_, fun c2 => ?_⟩, fun c => ⟨(if_pos c).symm, rfl⟩⟩
  · rcases hx with z | ⟨j, h1, h2, h3⟩
    · exact absurd z c
    · rcases h3 with e | e
      · refine pc (ct_min x (nI on) h) ⟨?_, rfl⟩
        have nn : ¬ x < 0 := Int32.not_lt.mpr c2
        rw [if_neg c, stn, if_neg nn, e, imin_nI (by omega) (by omega), nI_add, nI_clamp (by omega)]
        have : nI (off + min j on) - 1 = nI (off + min j on - 1) := pk_sub (a := off + min j on) (b := 1) (by omega)
        rw [this, pk_mul]
      · obtain ⟨-, -, -, -, -, -, g7⟩ := age_f1 j (by omega) h1
        rw [e] at c2
        exact absurd c2 (Int32.not_le.mpr g7)
  · rcases hx with z | ⟨j, h1, h2, h3⟩
    · exact absurd z c
    · rcases h3 with e | e
      · rw [e] at c2
        exact absurd (Int32.not_lt.mp (nI_pos (show j < 2 ^ 31 by omega))) c2
      · refine pc (ct_min (-x) (nI off) h) ⟨?_, rfl⟩
        rw [if_neg c, stn, if_pos (Int32.not_le.mp c2), e, Int32.neg_neg, imin_nI (by omega) (by omega), nI_clamp (by omega)]
        have : nI (min j off) - 1 = nI (min j off - 1) := pk_sub (a := min j off) (b := 1) (by omega)
        rw [this, pk_mul]
theorem lm_ne {h : Hp} {p m : Nat} {a b c : Int32} {k j : Nat} (hj : j ≠ m) : (ui (ui (ui h (44 + p) m a) (48 + p) m b) (52 + p) m c).1 k j = h.1 k j := by rw [ui_nj hj, ui_nj hj, ui_nj hj]
theorem lm_at {h : Hp} {p m : Nat} {a b c : Int32} (hp : p < 3) : (ui (ui (ui h (44 + p) m a) (48 + p) m b) (52 + p) m c).1 (44 + p) m = a ∧ (ui (ui (ui h (44 + p) m a) (48 + p) m b) (52 + p) m c).1 (48 + p) m = b ∧ (ui (ui (ui h (44 + p) m a) (48 + p) m b) (52 + p) m c).1 (52 + p) m = c := by
  refine ⟨?_, ?_, ?_⟩
  · rw [ui_ne (by omega), ui_ne (by omega), ui_aa]
  · rw [ui_ne (by omega), ui_aa]
  · rw [ui_aa]
theorem lm_fr {h : Hp} {p m : Nat} {a b c : Int32} (hp : p < 3) : Fr tcs h (ui (ui (ui h (44 + p) m a) (48 + p) m b) (52 + p) m c) ∧ ∀ k, (k ≠ 44 + p ∧ k ≠ 48 + p ∧ k ≠ 52 + p) → (ui (ui (ui h (44 + p) m a) (48 + p) m b) (52 + p) m c).1 k = h.1 k := by
  have m1 : ∀ p, p < 3 → 44 + p ∈ tcs ∧ 48 + p ∈ tcs ∧ 52 + p ∈ tcs := by decide
  obtain ⟨x, y, z⟩ := m1 p hp
  exact ⟨((Fr.ui x).tr (Fr.ui y)).tr (Fr.ui z), fun k hk => by rw [ui_ne hk.2.2, ui_ne hk.2.1, ui_ne hk.1]⟩
/-- what else belongs to plant p's tables only -/
def frT (p : Nat) (h g : Hp) : Prop := Fr tcs h g ∧ (∀ k, k ≠ 42 → k ≠ 44 + p → k ≠ 48 + p → k ≠ 52 + p → g.1 k = h.1 k) ∧ ∀ j, j ≠ p → g.1 42 j = h.1 42 j
theorem frT.tr {p : Nat} {h h1 h2 : Hp} (a : frT p h h1) (b : frT p h1 h2) : frT p h h2 := ⟨a.1.tr b.1, fun k x y z w => (b.2.1 k x y z w).trans (a.2.1 k x y z w), fun j hj => (b.2.2 j hj).trans (a.2.2 j hj)⟩
theorem frT.lm {h : Hp} {p m : Nat} {a b c : Int32} (hp : p < 3) : frT p h (ui (ui (ui h (44 + p) m a) (48 + p) m b) (52 + p) m c) := ⟨(lm_fr hp).1, fun k _ x y z => (lm_fr hp).2 k ⟨x, y, z⟩, fun j _ => by rw [(lm_fr hp).2 42 ⟨by omega, by omega, by omega⟩]⟩
theorem frT.n {h : Hp} {p : Nat} {a : Int32} : frT p h (ui h 42 p a) := ⟨Fr.ui (by decide), fun k x _ _ _ => ui_ne x, fun j hj => ui_nj hj⟩
/-- there: the plants that may run, as bits -/
def thI (s : Nat → Int32) (ab : Nat) (h : Hp) : Prop := ∃ th : Nat, th < 8 ∧ h.1 38 4 = nI th ∧ ∀ p, p < 3 → hasB (nI th) p = prs s ab p
theorem prs_lt {s : Nat → Int32} {ab p : Nat} (h : prs s ab p = true) : p < nP s := by
  unfold prs at h
  rw [Bool.and_eq_true] at h
  exact of_decide_eq_true h.1
theorem bit01 (x : Int32) (k : Int32) : (¬ (x >>> (k &&& 31)) &&& 1 = 0) ↔ (x >>> (k &&& 31)) &&& 1 = 1 := by
  generalize x >>> (k &&& 31) = y
  obtain ⟨j, hj, e⟩ := pk_andE y (m := 1) 1 (by decide)
  rw [e]
  match j, hj with
  | 0, _ => decide
  | 1, _ => decide
set_option maxHeartbeats 4000000 in
theorem ct_layTables {dm rm p σ ab : Nat} (hp : p < 3) (h : Hp) (s : Nat → Int32) (c : sC 1 s h) (i : InL dm rm s) (ht : thI s ab h) : CtI 3 mX7_layTables [.ref 38, .ref (6 + p), .int (nI p), .int (nI σ)] h (fun v g => v = nI (sxP s ab p * σ) ∧ tbP s ab p σ g ∧ frT p h g) := by
  have hP := i.o.hP
  have vi : vp_in (nI p) 3 := vp_in_nI hp (by omega)
  have cp : (nI p).toNatClampNeg = p := nI_clamp (by omega)
  obtain ⟨th, hth, eth, pth⟩ := ht
  have djc : ∀ k, k ∈ cS 1 → k ∉ tcs := by decide
  refine e_X7_layTables (isPl_6 p hp) ?_
  rw [eth, bit01]
  refine ⟨fun cb => ?_, fun cb => ?_⟩
  · have pr : prs s ab p = true := (pth p hp).symm.trans (decide_eq_true cb)
    have hpP := prs_lt pr
    have hf := i.f hpP
    have e := c.e hp
    obtain ⟨o1, o2, n1, n2⟩ := plI_on hf
    obtain ⟨k, hk, e0⟩ := hf.1
    have e0' : h.1 (6 + p) 0 = nI k := (e 0 (by decide)).trans e0
    have hns : nsP s ab p = oN (pfS s p) + nN (pfS s p) := if_pos pr
    have hsx : sxP s ab p = stn (oN (pfS s p)) (nN (pfS s p)) (pfS s p 9) := if_pos pr
    -- the loop
    have lp : ∀ n st : Nat, n + st = oN (pfS s p) + nN (pfS s p) → ∀ g : Hp, frT p h g → g.1 42 p = nI (nsP s ab p) → (∀ st', st' < st → enP s ab p σ st' g) → GoI 3 mX7_layTables 88 [(0, .ref 38), (1, .ref (6 + p)), (2, .int (nI p)), (3, .int (nI σ)), (4, .int (nI (oN (pfS s p)))), (5, .int (nI (nN (pfS s p)))), (6, .int (nI st))] [] g (fun v g => v = nI (sxP s ab p * σ) ∧ tbP s ab p σ g ∧ frT p h g) := by
      intro n
      induction n with
      | zero =>
        intro st hst g f m k
        have hst : st = oN (pfS s p) + nN (pfS s p) := by omega
        subst hst
        have cg : sC 1 s g := c.fr f.1 djc
        have a0 := plI_age hf
        refine b_X7_layTables_88 (isPl_6 p hp) ?_
        rw [nI_add, cg.f1 hp (by decide)]
        refine ⟨fun _ => pc (ct_plOf o2 (by omega) o1 n1 (Or.inr (a0.mono (by decide))) g) ⟨?_, ⟨m, fun st hs => k st (by omega)⟩, f⟩, fun z => absurd (nI_le (by omega) (by omega)) z⟩
        rw [if_neg (aR_n0 (by decide) a0), hsx]
      | succ n ih =>
        intro st hst g f m k
        have cg : sC 1 s g := c.fr f.1 djc
        have s119 : GoI 3 mX7_layTables 119 [(0, .ref 38), (1, .ref (6 + p)), (2, .int (nI p)), (3, .int (nI σ)), (4, .int (nI (oN (pfS s p)))), (5, .int (nI (nN (pfS s p)))), (6, .int (nI st))] [.int (rep (oN (pfS s p)) st)] g (fun v g => v = nI (sxP s ab p * σ) ∧ tbP s ab p σ g ∧ frT p h g) := by
          have ra : aR 4 (rep (oN (pfS s p)) st) := rep_aR (by omega) o2
          have rn := rep_neg (off := oN (pfS s p)) (st := st) (by omega) o2
          have mv : ∀ (b : Bool) (g2 : Hp), sC 1 s g2 → CtI 1 mX3_moved [.ref (6 + p), .int (rep (oN (pfS s p)) st), .int (bI b)] g2 (pq (if mgS (pfS s p) (rep (oN (pfS s p)) st) b then clA (goS (rep (oN (pfS s p)) st) b) else 0) g2) := fun b g2 c2 => by
            have := ct_movedC (ra.mono (by decide)) b g2 s c2 i hpP
            rw [cl_4 ra] at this
            exact this
          have po : ∀ (b : Bool) (g2 : Hp), CtI 1 mX7_placeOf [.int (if mgS (pfS s p) (rep (oN (pfS s p)) st) b then clA (goS (rep (oN (pfS s p)) st) b) else 0), .int (nI (oN (pfS s p))), .int (nI (nN (pfS s p))), .int (nI σ)] g2 (pq (if lgP s ab p st b then nI (nxP s ab p st b * σ) else -1) g2) := fun b g2 => by
            have ag : aR 5 (goS (rep (oN (pfS s p)) st) b) := aR_go (by decide) ra b
            have cn := cl_n0 (by decide) ag
            have lg : lgP s ab p st b = mgS (pfS s p) (rep (oN (pfS s p)) st) b := if_pos pr
            have nx : nxP s ab p st b = stn (oN (pfS s p)) (nN (pfS s p)) (clA (goS (rep (oN (pfS s p)) st) b)) := if_pos pr
            rw [lg, nx]
            cases hm : mgS (pfS s p) (rep (oN (pfS s p)) st) b with
            | true =>
              rw [if_pos rfl, if_pos rfl]
              have ca : aR 9 (clA (goS (rep (oN (pfS s p)) st) b)) := by
                obtain ⟨j, j1, j2, j3⟩ := ag
                have : ∀ j, j < 6 → 1 ≤ j → clA (nI j) = nI (min j 4) ∧ clA (-nI j) = -nI (min j 4) := by decide
                obtain ⟨f1, f2⟩ := this j (by omega) j1
                rcases j3 with z | z
                · exact ⟨min j 4, by omega, by omega, Or.inl (by rw [z, f1])⟩
                · exact ⟨min j 4, by omega, by omega, Or.inr (by rw [z, f2])⟩
              have := ct_plOf (σ := σ) o2 (show nN (pfS s p) ≤ 4 by omega) o1 n1 (Or.inr ca) g2
              rw [if_neg cn] at this
              exact this
            | false =>
              rw [if_neg Bool.false_ne_true, if_neg Bool.false_ne_true]
              exact ct_plOf o2 (show nN (pfS s p) ≤ 4 by omega) o1 n1 (Or.inl rfl) g2
          have i2 : (2 : Int32) * nI st = nI (2 * st) := pk_mul 2 st
          refine b_X7_layTables_119 (isPl_6 p hp) (pc (mv false g cg) (pc (mv true g cg) (pc (po false g) ?_)))
          rw [i2, nI_1]
          refine vc (ct_layMove hp (by omega) _ _ _ g) ?_
          have f19 : frT p h (ui (ui (ui g (44 + p) (2 * st) (if lgP s ab p st false then nI (nxP s ab p st false * σ) else -1)) (48 + p) (2 * st) 0) (52 + p) (2 * st) 0) := f.tr (frT.lm hp)
          have w19 : ∀ kk j, j ≠ 2 * st → (ui (ui (ui g (44 + p) (2 * st) (if lgP s ab p st false then nI (nxP s ab p st false * σ) else -1)) (48 + p) (2 * st) 0) (52 + p) (2 * st) 0).1 kk j = g.1 kk j := fun kk j hj => lm_ne hj
          have v19 := lm_at (h := g) (p := p) (m := 2 * st) (a := if lgP s ab p st false then nI (nxP s ab p st false * σ) else -1) (b := 0) (c := 0) hp
          have m19 : (ui (ui (ui g (44 + p) (2 * st) (if lgP s ab p st false then nI (nxP s ab p st false * σ) else -1)) (48 + p) (2 * st) 0) (52 + p) (2 * st) 0).1 42 = g.1 42 := (lm_fr hp).2 42 ⟨by omega, by omega, by omega⟩
          generalize ui (ui (ui g (44 + p) (2 * st) (if lgP s ab p st false then nI (nxP s ab p st false * σ) else -1)) (48 + p) (2 * st) 0) (52 + p) (2 * st) 0 = h19 at f19 w19 v19 m19 ⊢
          have c19 : sC 1 s h19 := c.fr f19.1 djc
          refine pc (po true h19) ?_
          have fin : ∀ (md : Nat) (tl : Nat), md = mdP s ab p st true → tl = tlP s ab p st true → GoI 3 mX7_layTables 219 [(0, .ref 38), (1, .ref (6 + p)), (2, .int (nI p)), (3, .int (nI σ)), (4, .int (nI (oN (pfS s p)))), (5, .int (nI (nN (pfS s p)))), (6, .int (nI st))] [.int (nI (tl * 32768)), .int (nI md), .int (if lgP s ab p st true then nI (nxP s ab p st true * σ) else -1), .int (nI (2 * st + 1)), .int (nI p), .ref 38] h19 (fun v g => v = nI (sxP s ab p * σ) ∧ tbP s ab p σ g ∧ frT p h g) := by
            intro md tl emd etl
            refine b_X7_layTables_219 (isPl_6 p hp) (vc (ct_layMove hp (by omega) _ _ _ h19) ?_)
            rw [nI_1]
            refine ih (st + 1) (by omega) _ (f19.tr (frT.lm hp)) ?_ (fun st' hs' b => ?_)
            · rw [(lm_fr hp).2 42 ⟨by omega, by omega, by omega⟩, m19]
              exact m
            · have bl : b.toNat ≤ 1 := by cases b <;> decide
              by_cases y : st' = st
              · subst y
                cases b with
                | true =>
                  obtain ⟨x1, x2, x3⟩ := lm_at (h := h19) (p := p) (m := 2 * st' + 1) (a := if lgP s ab p st' true then nI (nxP s ab p st' true * σ) else -1) (b := nI md) (c := nI (tl * 32768)) hp
                  exact ⟨x1, by rw [← emd]; exact x2, by rw [← etl]; exact x3⟩
                | false =>
                  have n1 : 2 * st' + false.toNat ≠ 2 * st' + 1 := by
                    show 2 * st' + 0 ≠ _
                    omega
                  rw [lm_ne n1, lm_ne n1, lm_ne n1]
                  obtain ⟨x1, x2, x3⟩ := v19
                  refine ⟨x1, ?_, ?_⟩
                  · rw [mdP, if_pos pr]
                    exact x2
                  · have : tlP s ab p st' false = 0 := by
                      rw [tlP, if_pos pr, if_neg (fun z => by cases z.1)]
                    rw [this]
                    exact x3
              · rw [lm_ne (by omega), lm_ne (by omega), lm_ne (by omega), w19 _ _ (by omega), w19 _ _ (by omega), w19 _ _ (by omega)]
                exact k st' (by omega) b
          rw [fr_bI]
          have md1 : mdP s ab p st true = if st < oN (pfS s p) then 2 else 1 := by
            rw [mdP, if_pos pr, if_pos rfl]
          refine ⟨fun cb => ?_, fun cb => pc (ct_startC _ h19 s c19 i hpP) ?_⟩
          · have nn : ¬ st < oN (pfS s p) := fun z => (of_decide_eq_false (bI_0.mp cb)) (rn.mpr z)
            rw [if_pos cb]
            exact fin 1 0 (by rw [md1, if_neg nn]) (by rw [tlP, if_pos pr, if_neg (fun z => nn z.2)])
          · have nn : st < oN (pfS s p) := rn.mp (of_decide_eq_true (bI_t cb))
            rw [if_neg cb]
            obtain ⟨v, hv, ev⟩ := st_b hf (m := 4) (by decide) ra (rn.mpr nn)
            have etl : tlP s ab p st true = v := by
              rw [tlP, if_pos pr, if_pos ⟨rfl, nn⟩, ev, nI_clamp (by omega)]
            rw [ev, shl15 v (by omega)]
            exact fin 2 v (by rw [md1, if_pos nn]) etl.symm
        refine b_X7_layTables_88 (isPl_6 p hp) ?_
        rw [nI_add]
        refine ⟨fun z => absurd z (nI_ge (by omega) (by omega)), fun _ => ⟨fun z => ?_, fun z => ?_⟩⟩
        · have hs : oN (pfS s p) ≤ st := (nI_leI (by omega) (by omega)).mp z
          have er : (nI st - nI (oN (pfS s p))) + 1 = rep (oN (pfS s p)) st := by
            rw [rep, if_neg (by omega), pk_sub hs, nI_1]
          rw [er]
          exact s119
        · have hs : ¬ oN (pfS s p) ≤ st := fun y => z ((nI_leI (by omega) (by omega)).mpr y)
          have er : (-1 : Int32) - nI st = rep (oN (pfS s p)) st := by
            have : ∀ st, st < 4 → (-1 : Int32) - nI st = -nI (st + 1) := by decide
            rw [rep, if_pos (by omega)]
            exact this st (by omega)
          rw [er]
          exact s119
    -- how many states
    have s72 : GoI 3 mX7_layTables 72 [(0, .ref 38), (1, .ref (6 + p)), (2, .int (nI p)), (3, .int (nI σ)), (4, .int (nI (oN (pfS s p))))] [.int (nI (nN (pfS s p)))] h (fun v g => v = nI (sxP s ab p * σ) ∧ tbP s ab p σ g ∧ frT p h g) := by
      refine b_X7_layTables_72 (isPl_6 p hp) ?_
      rw [cp, nI_add]
      refine ⟨vi, fun g2 e2 => lp _ 0 rfl g2 ?_ ?_ (fun st' hs => by omega)⟩
      · rw [e2]
        exact frT.n
      · rw [e2, ui_aa, hns]
    have s54 : GoI 3 mX7_layTables 54 [(0, .ref 38), (1, .ref (6 + p)), (2, .int (nI p)), (3, .int (nI σ))] [.int (nI (oN (pfS s p)))] h (fun v g => v = nI (sxP s ab p * σ) ∧ tbP s ab p σ g ∧ frT p h g) := by
      have eN : nN (pfS s p) = if kun 6 (h.1 (6 + p) 0) 3 then 1 else (h.1 (6 + p) 7).toNatClampNeg := by
        rw [e0', kun3 k hk, e 7 (by decide), nN, e0]
        have : ∀ k, k < 6 → ((nI k = 3 ∨ nI k = 5) ↔ (decide (k = 3 ∨ k = 5) = true)) := by decide
        by_cases z : nI k = 3 ∨ nI k = 5
        · rw [if_pos z, if_pos ((this k hk).mp z)]
        · rw [if_neg z, if_neg (fun y => z ((this k hk).mpr y))]
      obtain ⟨-, -, -, -, -, -, ⟨u, u1, u2, eu⟩, -⟩ := hf
      refine b_X7_layTables_54 (isPl_6 p hp) (pc (ct_isUnder (isPl_6 p hp) 3 h) ⟨fun z => ?_, fun z => ?_⟩)
      · rw [if_neg (noF (bI_0.mp z)), e 7 (by decide), eu, nI_clamp (by omega)] at eN
        rw [e 7 (by decide), eu]
        rw [eN] at s72
        exact s72
      · rw [if_pos (bI_t z)] at eN
        rw [eN] at s72
        exact s72
    have eO : oN (pfS s p) = if kun 6 (h.1 (6 + p) 0) 1 then 4 else (h.1 (6 + p) 8).toNatClampNeg := by
      rw [e0', kun1 k hk, e 8 (by decide), oN, e0]
      have : ∀ k, k < 6 → ((nI k = 1 ∨ nI k = 4) ↔ (decide (k = 1 ∨ k = 4) = true)) := by decide
      by_cases z : nI k = 1 ∨ nI k = 4
      · rw [if_pos z, if_pos ((this k hk).mp z)]
      · rw [if_neg z, if_neg (fun y => z ((this k hk).mpr y))]
    obtain ⟨-, -, -, -, -, -, -, ⟨u, u1, u2, eu⟩, -⟩ := hf
    refine pc (ct_isUnder (isPl_6 p hp) 1 h) ⟨fun z => ?_, fun z => ?_⟩
    · rw [if_neg (noF (bI_0.mp z)), e 8 (by decide), eu, nI_clamp (by omega)] at eO
      rw [e 8 (by decide), eu]
      rw [eO] at s54
      exact s54
    · rw [if_pos (bI_t z)] at eO
      rw [eO] at s54
      exact s54
  · have cb2 : ¬ (nI th >>> (nI p &&& 31)) &&& 1 = 1 := fun z => ((bit01 _ _).mpr z) cb
    have pr : prs s ab p = false := (pth p hp).symm.trans (decide_eq_false cb2)
    have hns : nsP s ab p = 1 := if_neg (noF pr)
    have hsx : sxP s ab p = 0 := if_neg (noF pr)
    rw [cp]
    refine ⟨vi, fun g7 e7 => vc (ct_layMove (m := 0) hp (by decide) _ _ _ g7) (vc (ct_layMove (m := 1) hp (by decide) _ _ _ _) ⟨?_, ⟨?_, fun st hs b => ?_⟩, ?_⟩)⟩
    · rw [hsx, Nat.zero_mul]
      rfl
    · rw [(lm_fr hp).2 42 ⟨by omega, by omega, by omega⟩, (lm_fr hp).2 42 ⟨by omega, by omega, by omega⟩, e7, ui_aa, hns]
      rfl
    · have s0 : st = 0 := by omega
      subst s0
      have lg : lgP s ab p 0 b = !b := if_neg (noF pr)
      have nx : nxP s ab p 0 b = 0 := if_neg (noF pr)
      have md : mdP s ab p 0 b = 0 := if_neg (noF pr)
      have tl : tlP s ab p 0 b = 0 := if_neg (noF pr)
      rw [lg, nx, md, tl]
      cases b with
      | true =>
        obtain ⟨x1, x2, x3⟩ := lm_at (h := ui (ui (ui g7 (44 + p) 0 0) (48 + p) 0 0) (52 + p) 0 0) (p := p) (m := 1) (a := -1) (b := 0) (c := 0) hp
        exact ⟨x1, x2, x3⟩
      | false =>
        have n1 : 2 * 0 + false.toNat ≠ 1 := by decide
        rw [lm_ne n1, lm_ne n1, lm_ne n1]
        obtain ⟨x1, x2, x3⟩ := lm_at (h := g7) (p := p) (m := 0) (a := 0) (b := 0) (c := 0) hp
        refine ⟨?_, x2, x3⟩
        rw [Nat.zero_mul]
        exact x1
    · rw [e7]
      exact (frT.n.tr (frT.lm hp)).tr (frT.lm hp)
