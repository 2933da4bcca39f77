/-! ===== the class: the best plan's calls ===== -/
/-- what the scene's calls rest on -/
def kI (s : Nat → Int32) (h : Hp) : Prop := sC 1 s h ∧ InS s ∧ ∃ r1 r2, dyI r1 r2 h
/-- nothing but scratch changed -/
def frC (h g : Hp) : Prop := Fr scC h g ∧ ∃ r1 r2, dyI r1 r2 g
theorem kI.c {s : Nat → Int32} {h : Hp} (k : kI s h) : sC 1 s h := k.1
theorem kI.i {s : Nat → Int32} {h : Hp} (k : kI s h) : InS s := k.2.1
theorem kI.fr {s : Nat → Int32} {h g : Hp} (k : kI s h) (f : frC h g) : kI s g := ⟨k.1.fr f.1 (by decide), k.2.1, f.2⟩
theorem frC.rf {s : Nat → Int32} {h : Hp} (k : kI s h) : frC h h := ⟨Fr.rf, k.2.2⟩
theorem frC.tr {h h1 h2 : Hp} (a : frC h h1) (b : frC h1 h2) : frC h h2 := ⟨a.1.tr b.1, b.2⟩
theorem frC.add {X : List Nat} {h h1 h2 : Hp} (a : frC h h1) (b : Fr X h1 h2) (hx : ∀ k, k ∈ X → k ∈ scC) (h38 : 38 ∉ X) : frC h h2 := by
  obtain ⟨r1, r2, d⟩ := a.2
  exact ⟨a.1.tr (b.mono hx), r1, r2, d.fr b h38⟩
/-- a row of demands and reserves otherwise -/
theorem InL_sv {s s0 : Nat → Int32} (e : svE s s0) (i : InS s0) (hb : ∀ t, t < 5 → (∃ k : Nat, k ≤ 100 ∧ s (4 + t) = nI k) ∧ ∃ k : Nat, k ≤ 80 ∧ s (9 + t) = nI k) : InL 100 80 s := by
  obtain ⟨o, i1, i2, i3, i4, i5⟩ := i
  refine ⟨(o.of (e 0 (by omega)) (e 3 (by omega))).1, fun t ht => ⟨(hb t ht).1, (hb t ht).2, ?_⟩, ?_, ?_, fun p hp => ?_, ?_⟩
  · rw [e (14 + t) (by omega)]
    exact (i1 t ht).2.2
  · rw [e 1 (by omega)]
    exact i2
  · rw [e 2 (by omega)]
    exact i3
  · rw [e.f]
    exact i4 p (by rw [← e.P]; exact hp)
  · rw [e.H]
    exact i5
theorem svE.rf {s : Nat → Int32} : svE s s := fun _ _ => rfl
theorem InS.lim {s : Nat → Int32} (i : InS s) : InL 100 80 s := InL_sv svE.rf i (fun t ht => by
  obtain ⟨⟨k, h1, h2⟩, ⟨j, h3, h4⟩, -⟩ := i.2.1 t ht
  exact ⟨⟨k, by omega, h2⟩, ⟨j, by omega, h4⟩⟩)
theorem th_all : ∀ P, P < 4 → ∀ p, p < 3 → hasB (nI (2 ^ P - 1)) p = (decide (p < P) && !hasB (nI 0) p) ∧ 2 ^ P - 1 < 8 := by decide
theorem thI_0 {s : Nat → Int32} {h : Hp} (hP : nP s ≤ 3) (e : h.1 38 4 = nI (2 ^ nP s - 1)) : thI s 0 h := ⟨2 ^ nP s - 1, (th_all (nP s) (by omega) 0 (by decide)).2, e, fun p hp => (th_all (nP s) (by omega) p hp).1⟩
/-- the solver loaded with the scene -/
theorem ct_loadK (h : Hp) (s : Nat → Int32) (k : kI s h) : CtV 1 mX7_load [.ref 38] h (fun g => frC h g ∧ (∀ t, t < 5 → g.1 39 t = s (4 + t) ∧ g.1 40 t = s (9 + t)) ∧ g.1 38 4 = nI (2 ^ nP s - 1)) := by
  refine (ct_load h s k.c k.i.o).mono (fun g q => ?_)
  obtain ⟨q1, q2, q3, q4⟩ := q
  obtain ⟨r1, r2, d⟩ := k.2.2
  exact ⟨⟨q1.mono (by decide), r1, r2, d.1, by rw [q2 11 (by decide)]; exact d.2.1, by rw [q2 12 (by decide)]; exact d.2.2⟩, q3, q4⟩
def slQ (s : Nat → Int32) (ab : Nat) (h : Hp) : Int32 → Hp → Prop := fun v g => v = beV s ab ∧ frC h g ∧ (v = -9 ∨ ∃ n : Nat, n ≤ 11000 ∧ v = nI n) ∧ (¬ v = -9 → (beX s ab).1 ≠ FAR ∧ rwA s ab (beX s ab).2 ∧ ∀ p, p < 3 → g.1 41 p = nI ((beX s ab).2 p))
theorem ct_solveK {ab : Nat} (h : Hp) (s0 s : Nat → Int32) (k : kI s0 h) (i : InL 100 80 s) (e : svE s s0) (hd : ∀ t, t < 5 → h.1 39 t = s (4 + t) ∧ h.1 40 t = s (9 + t)) (th : thI s ab h) : CtI 4 mX7_solve [.ref 38] h (slQ s ab h) := by
  obtain ⟨r1, r2, d⟩ := k.2.2
  exact (ct_solve h s0 s k.c k.i i e hd th d).mono (fun v g q => ⟨q.1, ⟨q.2.1, q.2.2.1⟩, q.2.2.2.1, q.2.2.2.2⟩)
theorem slQ.pre {s : Nat → Int32} {ab : Nat} {h h1 g : Hp} {v : Int32} (a : frC h h1) (q : slQ s ab h1 v g) : slQ s ab h v g := ⟨q.1, a.tr q.2.1, q.2.2⟩
theorem ct_solveAsIs (h : Hp) (s : Nat → Int32) (k : kI s h) : CtI 5 mX10_solveAsIs [.ref 0] h (slQ s 0 h) := by
  refine e_X10_solveAsIs ⟨_, ct_loadK h s k, fun h4 q4 => ⟨_, ct_solveK h4 s s (k.fr q4.1) k.i.lim svE.rf q4.2.1 (thI_0 k.i.o.hP q4.2.2), fun v g q => q.pre q4.1⟩⟩
theorem sgn {v : Int32} (h : v = -9 ∨ ∃ n : Nat, n ≤ 11000 ∧ v = nI n) : (0 ≤ v ↔ ¬ v = -9) ∧ (v < 0 ↔ v = -9) := by
  rcases h with e | ⟨n, hn, e⟩
  · subst e
    exact ⟨by decide, by decide⟩
  · subst e
    have a : ¬ nI n < 0 := nI_pos (by omega)
    have b : ¬ nI n = -9 := fun z => a (by rw [z]; decide)
    exact ⟨⟨fun _ => b, fun _ => Int32.not_lt.mp a⟩, ⟨fun z => absurd z a, fun z => absurd z b⟩⟩
theorem ct_bestC (h : Hp) (s : Nat → Int32) (k : kI s h) : CtI 6 mX10_best [.ref 0] h (fun v g => v = beV s 0 ∧ frC h g) := e_X10_best ⟨_, ct_solveAsIs h s k, fun _ _ q => ⟨q.1, q.2.1⟩⟩
/-- 0 where the plant is there, else -1 -/
def inW (b : Bool) : Int32 := if b then 0 else -1
theorem inW_t {b : Bool} (h : b = true) : inW b = 0 := if_pos h
theorem inW_f {b : Bool} (h : b = false) : inW b = -1 := if_neg (noF h)
theorem ct_rowC (x : Int32) (h : Hp) (s : Nat → Int32) (k : kI s h) : CtI 6 mX10_row [.ref 0, .int x] h (okx (inW (inR x 0 (s 3 - 1))) h (fun v g => v = roV s x.toNatClampNeg ∧ frC h g)) := by
  have hP := k.i.o.hP
  refine e_X10_row (pc (ct_noPlant x h s k.c k.i.o) ⟨fun c => ⟨_, ct_solveAsIs h s k, fun v h9 q => ?_⟩, fun c => rfx (inW_f (nb_1.mp c)) isW_1 (by decide)⟩)
  have c := nb_0.mp c
  obtain ⟨t, et, ht⟩ := isP_nI k.i.o c
  subst et
  obtain ⟨q1, q2, q3, q4⟩ := q
  have sg := sgn q3
  rw [nI_clamp (show t < 2 ^ 31 by omega)]
  refine ⟨fun z => ⟨vp_in_nI (by omega) (by omega), okx_t (inW_t c) ⟨?_, q2⟩⟩, fun z => okx_t (inW_t c) ⟨?_, q2⟩⟩
  · have n9 := sg.1.mp z
    rw [(q4 n9).2.2 t (by omega), roV, if_neg (by rw [← q1]; exact n9)]
  · have n9 : v = -9 := Classical.byContradiction fun y => z (sg.1.mpr y)
    rw [roV, if_pos (by rw [← q1]; exact n9)]
/-! ===== the class: cost of an hour by the best plan ===== -/
theorem bit_bI (x k : Int32) : (x >>> (k &&& 31)) &&& 1 = bI (decide ((x >>> (k &&& 31)) &&& 1 = 1)) := by
  by_cases c : (x >>> (k &&& 31)) &&& 1 = 1
  · rw [decide_eq_true c]
    exact c
  · rw [decide_eq_false c]
    apply Classical.byContradiction
    intro z
    exact c ((bit01 x k).mp z)
theorem bI_shl (b : Bool) (p : Nat) (hp : p < 5) : bI b <<< (nI p &&& 31) = if b then (1 : Int32) <<< (nI p &&& 31) else 0 := by
  cases b with
  | true => rfl
  | false =>
    have : ∀ p, p < 5 → (0 : Int32) <<< (nI p &&& 31) = 0 := by decide
    exact this p hp
theorem ct_setAt7 {t : Nat} (h : Hp) (r : Nat → Nat) (hr : ∀ p, p < 3 → h.1 41 p = nI (r p)) : CtI 0 mX7_setAt [.ref 38, .int (nI t)] h (pq (nI (bitsN (onR r t) 3)) h) := by
  have lp : ∀ n p : Nat, n + p = 3 → GoI 0 mX7_setAt 4 [(0, .ref 38), (1, .int (nI t)), (2, .int (nI (bitsN (onR r t) p))), (3, .int (nI p))] [] h (pq (nI (bitsN (onR r t) 3)) h) := by
    intro n
    induction n with
    | zero =>
      intro p hp
      have hp : p = 3 := by omega
      subst hp
      exact b_X7_setAt_4 ⟨fun _ => ⟨rfl, rfl⟩, fun z => absurd (nI_le (a := 3) (by omega) (by omega)) z⟩
    | succ n ih =>
      intro p hp
      refine b_X7_setAt_4 ⟨fun z => absurd z (nI_ge (b := 3) (by omega) (by omega)), fun _ => ⟨vp_in_nI (by omega) (by omega), ?_⟩⟩
      rw [nI_clamp (show p < 2 ^ 31 by omega), hr p (by omega), bit_bI, bI_shl _ p (by omega), nI_1]
      have := bitsN_or2 (g := onR r t) (t := p) (by omega) _ rfl
      rw [onR] at this
      rw [show (if decide ((nI (r p) >>> (nI t &&& 31)) &&& 1 = 1) = true then (1 : Int32) <<< (nI p &&& 31) else 0) = (if hasB (nI (r p)) t = true then (1 : Int32) <<< (nI p &&& 31) else 0) from rfl, this]
      exact ih (p + 1) (by omega)
  exact e_X7_setAt (lp 3 0 rfl)
/-- the best plan can be done -/
theorem be_fe {dm rm : Nat} (hdm : dm ≤ 500) {s : Nat → Int32} (i : InL dm rm s) {ab : Nat} (h : (beX s ab).1 ≠ FAR) : rwA s ab (beX s ab).2 ∧ feA s (beX s ab).2 := by
  have hP := i.o.hP
  have hpow := pow_le i.o.hH
  have sp : fsP (plC s (nH s) (nP s)) (rwA s ab) (FAR, fun _ => 0) (beX s ab) := foT_spec (okS s ab (nH s)) (plC s (nH s) (nP s)) hpow (nP s) 0 (by omega) (fun _ => 0) (FAR, fun _ => 0) (fun _ => by omega)
  obtain ⟨-, -, s3⟩ := sp
  rcases s3 with z | ⟨c1, c2, c3, -⟩
  · exact absurd (congrArg Prod.fst z) h
  · refine ⟨c1, Classical.byContradiction fun f => ?_⟩
    rw [plC_no hdm i f] at c2
    exact h c2.symm
/-- ages on the way by rows -/
def agW2 (s : Nat → Int32) (r : Nat → Nat) (t : Nat) : Nat → Int32 := fun p => agS (pfS s p 9) (hasB (nI (r p))) t
theorem agW2_aR {dm rm : Nat} {s : Nat → Int32} (i : InL dm rm s) (r : Nat → Nat) {t : Nat} (ht : t ≤ 5) : ∀ p, p < nP s → aR 9 (agW2 s r t p) := fun p hp => (aR_ag (plI_age (i.f hp)) _ t (by omega)).mono (by omega)
/-- the walk by the rows of a plan that can be done -/
theorem walk_by {dm rm : Nat} {s : Nat → Int32} (i : InL dm rm s) {r : Nat → Nat} (hr : rwA s 0 r) (hf : feA s r) {t : Nat} (ht : t < nH s) : okT s (agW2 s r t) t (nI (bitsN (onR r t) 3)) = true ∧ tdC s (agW2 s r t) t (nI (bitsN (onR r t) 3)) = hbF s (nP s) r t ∧ ∀ p, p < nP s → goX (agW2 s r t) (nI (bitsN (onR r t) 3)) p = agW2 s r (t + 1) p := by
  have hP := i.o.hP
  have hH := i.o.hH
  have on : ∀ p, p < nP s → hasB (nI (bitsN (onR r t) 3)) p = hasB (nI (r p)) t := fun p hp => hasB_bits (by omega) (by omega)
  have fr : ∀ p, p < nP s → frA (agW2 s r t) (nI (bitsN (onR r t) 3)) p = frS (pfS s p) (hasB (nI (r p))) t := fun p hp => by
    unfold frA frS
    rw [on p hp]
    rfl
  have fn : ∀ p, p < nP s → hasB (frN s (agW2 s r t) (nI (bitsN (onR r t) 3))) p = frS (pfS s p) (hasB (nI (r p))) t := fun p hp => by
    rw [hasB_bits (by omega) hp]
    exact fr p hp
  have ma : ∀ n, n ≤ nP s → maR s (agW2 s r t) (nI (bitsN (onR r t) 3)) n = true := by
    intro n
    induction n with
    | zero => exact fun _ => rfl
    | succ n ih =>
      intro hn
      have pl := rw_pl hH hr n t ht
      unfold plL prs at pl
      rw [decide_eq_true (show n < nP s by omega), has0 n (by omega), Bool.not_false, Bool.true_and, if_pos rfl] at pl
      rw [maR, ih (by omega), on n (by omega)]
      exact pl
  have cn : cnP s (s (4 + t)) (s (9 + t)) (nI (bitsN (onR r t) 3)) (frN s (agW2 s r t) (nI (bitsN (onR r t) 3))) = okH s (bR r) t := canF_on (fun p hp => ⟨on p hp, fn p hp⟩)
  refine ⟨?_, ?_, fun p hp => ?_⟩
  · unfold okT maV
    rw [ma (nP s) (Nat.le_refl _), cn, hf t ht]
    rfl
  · unfold tdC hbF
    have e1 : coE (nP s) (s 1) (pfS s) (s (4 + t)) (s (9 + t)) (hasB (nI (bitsN (onR r t) 3))) (hasB (frN s (agW2 s r t) (nI (bitsN (onR r t) 3)))) = hcR s (nP s) r t := by
      rw [hcR_hv hP]
      exact coE_on (fun p hp => ⟨on p hp, fn p hp⟩)
    rw [e1, Int32.add_comm]
    congr 1
    refine sumI_congr _ (fun p hp => ?_)
    unfold stA ssT
    rw [fr p hp]
    rfl
  · unfold goX
    rw [on p hp]
    rfl
theorem ct_costC (x : Int32) (h : Hp) (s : Nat → Int32) (k : kI s h) : CtI 6 mX10_cost [.ref 0, .int x] h (okx (inW (inR x 0 (s 0 - 1))) h (fun v g => v = csV s x.toNatClampNeg ∧ frC h g)) := by
  have hP := k.i.o.hP
  have hH := k.i.o.hH
  refine e_X10_cost (pc (ct_noHour x h s k.c k.i.o) ⟨fun c => ⟨_, ct_solveAsIs h s k, fun v h9 q => ?_⟩, fun c => rfx (inW_f (nb_1.mp c)) isW_1 (by decide)⟩)
  have c := nb_0.mp c
  obtain ⟨H, et, ht⟩ := isH_nI k.i.o c
  subst et
  obtain ⟨q1, q2, q3, q4⟩ := q
  have sg := sgn q3
  rw [nI_clamp (show H < 2 ^ 31 by omega)]
  refine ⟨fun z => ?_, fun z => okx_t (inW_t c) ⟨?_, q2⟩⟩
  · have n9 := sg.1.mp z
    obtain ⟨nF, hr, hrows⟩ := q4 n9
    obtain ⟨-, hf⟩ := be_fe (by decide) k.i nF
    have k9 := k.fr q2
    refine ⟨_, ct_walkBegin h9 s k9.c k9.i, fun h14 w => ?_⟩
    have lp : ∀ n t : Nat, n + t = H + 1 → ∀ (cost : Int32) (g : Hp), frC h g → (∀ p, p < 3 → g.1 41 p = nI ((beX s 0).2 p)) → wkI s (agW2 s (beX s 0).2 t) g → (t = H + 1 → cost = csV s H) → GoI 6 mX10_cost 38 [(0, .ref 0), (1, .int (nI H)), (2, .int cost), (3, .int (nI t))] [] g (okx (inW (inR (nI H) 0 (s 0 - 1))) h (fun v g => v = csV s H ∧ frC h g)) := by
      intro n
      induction n with
      | zero =>
        intro t htn cost g f rr wk ec
        exact b_X10_cost_38 ⟨fun _ => okx_t (inW_t c) ⟨ec (by omega), f⟩, fun z => absurd (nI_lt (by omega) (by omega)) z⟩
      | succ n ih =>
        intro t htn cost g f rr wk ec
        have kg := k.fr f
        obtain ⟨w1, w2, w3⟩ := walk_by k.i hr hf (t := t) (by omega)
        refine b_X10_cost_38 ⟨fun z => absurd z (nI_nlt (by omega) (by omega)), fun _ => pc (ct_setAt7 g (beX s 0).2 rr) ⟨_, ct_pass (by decide) (by omega) _ g s kg.c kg.i (agW2 s (beX s 0).2 t) (agW2_aR k.i _ (by omega)) wk, fun v g9 q => ?_⟩⟩
        obtain ⟨p1, p2, p3, -⟩ := q
        obtain ⟨p4, p5⟩ := p3 w1
        rw [nI_1]
        refine ih (t + 1) (by omega) v g9 (f.add p2 (by decide) (by decide)) (fun p hp => ?_) ⟨p4, fun p hp => ?_⟩ (fun e => ?_)
        · rw [p2.1 41 (by decide)]
          exact rr p hp
        · rw [p5 p hp, w3 p hp]
        · have : t = H := by omega
          subst this
          rw [p1, tdV, if_pos w1, w2, csV, if_neg (by rw [← q1]; exact n9)]
    refine lp (H + 1) 0 rfl 0 h14 (q2.add w.2 (by decide) (by decide)) (fun p hp => ?_) w.1 (fun e => by omega)
    rw [w.2.1 41 (by decide)]
    exact hrows p hp
  · have n9 : v = -9 := Classical.byContradiction fun y => z (sg.1.mpr y)
    rw [csV, if_pos (by rw [← q1]; exact n9)]
theorem ic_e {d : Nat} {M : Mth} {args : List Value} {h : Hp} {A R : Int32 → Hp → Prop} (hC : CtI d M args h A) (k : ∀ v g, A v g → R v g) : ∃ Q, CtI d M args h Q ∧ ∀ v g, Q v g → R v g := ⟨_, hC, k⟩
/-! ===== the class: margin, worth, hand ===== -/
theorem ct_diff {a b : Int32} (ha : a = -9 ∨ ∃ n : Nat, n ≤ 11000 ∧ a = nI n) (hb : b = -9 ∨ ∃ n : Nat, n ≤ 11000 ∧ b = nI n) (h : Hp) : CtI 0 mX10_difference [.int a, .int b] h (pq (if b = -9 then -99999 else if a = -9 then -99999 else a - b) h) := by
  have sa := sgn ha
  have sb := sgn hb
  refine e_X10_difference ⟨fun z => ⟨?_, rfl⟩, fun z => ⟨fun y => ⟨?_, rfl⟩, fun y => ⟨?_, rfl⟩⟩⟩
  · rw [if_pos (sa.2.mp z)]
    split <;> rfl
  · rw [if_neg (sb.1.mp y), if_neg (fun w => z (sa.2.mpr w))]
  · have : b = -9 := Classical.byContradiction fun w => y (sb.1.mpr w)
    rw [if_pos this]
theorem up_hd {s : Nat → Int32} {h : Hp} {t : Nat} {x : Int32} (ht : t < 5) (hd : ∀ t, t < 5 → h.1 39 t = s (4 + t) ∧ h.1 40 t = s (9 + t)) : ∀ u, u < 5 → (ui h 39 t x).1 39 u = upd s (4 + t) x (4 + u) ∧ (ui h 39 t x).1 40 u = upd s (4 + t) x (9 + u) := fun u hu => by
  obtain ⟨a, b⟩ := hd u hu
  refine ⟨?_, ?_⟩
  · rw [ui_get]
    unfold upd
    by_cases y : u = t
    · rw [if_pos ⟨rfl, y⟩, if_pos (by omega)]
    · rw [if_neg (fun z => y z.2), if_neg (by omega)]
      exact a
  · rw [ui_ne (by decide), upd_ne _ _ (by omega)]
    exact b
theorem svE_up {s : Nat → Int32} {j : Nat} {x : Int32} (h1 : 4 ≤ j) (h2 : j < 14) : svE (upd s j x) s := fun k hk => upd_ne _ _ (by omega)
theorem ct_marginC (x : Int32) (h : Hp) (s : Nat → Int32) (k : kI s h) : CtI 6 mX10_margin [.ref 0, .int x] h (okx (inW (inR x 0 (s 0 - 1))) h (fun v g => v = mgV s x.toNatClampNeg ∧ frC h g)) := by
  have hP := k.i.o.hP
  have hH := k.i.o.hH
  refine e_X10_margin (pc (ct_noHour x h s k.c k.i.o) ⟨fun c => ⟨_, ct_solveAsIs h s k, fun v h9 q => ?_⟩, fun c => rfx (inW_f (nb_1.mp c)) isW_1 (by decide)⟩)
  have c := nb_0.mp c
  obtain ⟨t, et, ht⟩ := isH_nI k.i.o c
  subst et
  obtain ⟨q1, q2, q3, -⟩ := q
  have vi : vp_in (nI t) 5 := vp_in_nI (by omega) (by omega)
  rw [nI_clamp (show t < 2 ^ 31 by omega)]
  refine ⟨_, ct_loadK h9 s (k.fr q2), fun h14 l => ⟨vi, vi, fun g18 e18 => ?_⟩⟩
  obtain ⟨l1, l2, l3⟩ := l
  rw [(l2 t (by omega)).1] at e18
  have f18 : frC h14 g18 := by
    rw [e18]
    exact (frC.rf ((k.fr q2).fr l1)).add (X := [39]) (Fr.ui (by decide)) (by decide) (by decide)
  have f : frC h g18 := (q2.tr l1).tr f18
  have i2 : InL 100 80 (upd s (4 + t) (s (4 + t) + 1)) := InL_sv (svE_up (by omega) (by omega)) k.i (fun u hu => by
    obtain ⟨⟨a, a1, a2⟩, ⟨b, b1, b2⟩, -⟩ := k.i.2.1 u hu
    refine ⟨?_, b, by omega, by rw [upd_ne _ _ (by omega)]; exact b2⟩
    unfold upd
    by_cases y : 4 + u = 4 + t
    · rw [if_pos y]
      obtain ⟨a', a1', a2'⟩ := k.i.dn (t := t) (by omega)
      exact ⟨a' + 1, by omega, by rw [a2', nI_1]⟩
    · rw [if_neg y]
      exact ⟨a, by omega, a2⟩)
  have th : thI (upd s (4 + t) (s (4 + t) + 1)) 0 g18 := by
    have := thI_0 (s := s) hP l3
    obtain ⟨th, h1, h2, h3⟩ := this
    refine ⟨th, h1, ?_, fun p hp => (h3 p hp).trans ((svE_up (by omega) (by omega)).pr 0 p).symm⟩
    rw [e18, ui_ne (by decide)]
    exact h2
  refine ⟨_, ct_solveK g18 s _ (k.fr f) i2 (svE_up (by omega) (by omega)) (by rw [e18]; exact up_hd (by omega) l2) th, fun v21 h22 p => pc (ct_diff p.2.2.1 q3 h22) (okx_t (inW_t c) ⟨?_, f.tr p.2.1⟩)⟩
  rw [p.1, q1]
  rfl
theorem th_wo : ∀ P, P < 4 → ∀ p, p < P → 2 ^ P - 1 - 2 ^ p < 8 ∧ nI (2 ^ P - 1) &&& (((1 : Int32) <<< (nI p &&& 31)) ^^^ (-1)) = nI (2 ^ P - 1 - 2 ^ p) ∧ ∀ q, q < 3 → hasB (nI (2 ^ P - 1 - 2 ^ p)) q = (decide (q < P) && !hasB (nI (2 ^ p)) q) := by decide
theorem ct_worthC (x : Int32) (h : Hp) (s : Nat → Int32) (k : kI s h) : CtI 6 mX10_worth [.ref 0, .int x] h (okx (inW (inR x 0 (s 3 - 1))) h (fun v g => v = wrV s x.toNatClampNeg ∧ frC h g)) := by
  have hP := k.i.o.hP
  refine e_X10_worth (pc (ct_noPlant x h s k.c k.i.o) ⟨fun c => ⟨_, ct_solveAsIs h s k, fun v h9 q => ?_⟩, fun c => rfx (inW_f (nb_1.mp c)) isW_1 (by decide)⟩)
  have c := nb_0.mp c
  obtain ⟨p, et, ht⟩ := isP_nI k.i.o c
  subst et
  obtain ⟨q1, q2, q3, -⟩ := q
  rw [nI_clamp (show p < 2 ^ 31 by omega)]
  refine ⟨_, ct_loadK h9 s (k.fr q2), fun h14 l g16 e16 => ?_⟩
  obtain ⟨l1, l2, l3⟩ := l
  obtain ⟨w1, w2, w3⟩ := th_wo (nP s) (by omega) p ht
  rw [l3, w2] at e16
  have fu : Fr [38] h14 g16 := by
    rw [e16]
    exact Fr.ui (by decide)
  have f : frC h g16 := by
    have := q2.tr l1
    obtain ⟨r1, r2, d⟩ := this.2
    refine ⟨this.1.tr (fu.mono (by decide)), r1, r2, d.1, ?_, ?_⟩
    · rw [e16, ui_nj (by decide)]
      exact d.2.1
    · rw [e16, ui_nj (by decide)]
      exact d.2.2
  refine ⟨_, ct_solveK (ab := 2 ^ p) g16 s s (k.fr f) k.i.lim svE.rf (fun t ht => ?_) ⟨_, w1, ?_, w3⟩, fun v19 h20 pq2 => pc (ct_diff pq2.2.2.1 q3 h20) (okx_t (inW_t c) ⟨?_, f.tr pq2.2.1⟩)⟩
  · rw [fu.1 39 (by decide), fu.1 40 (by decide)]
    exact l2 t ht
  · rw [e16, ui_aa]
  · rw [pq2.1, q1]
    rfl
theorem moR_z (s : Nat → Int32) (a b : Nat) : moR s 0 a b = s := by
  funext i
  unfold moR
  split
  · exact i32_add0 _
  · rfl
theorem ct_canKeep {m : Nat} (hm : m ≤ 60) (h : Hp) (s : Nat → Int32) (k : kI s h) : CtI 5 mX10_canKeep [.ref 0, .int (nI m)] h (fun v g => v = bI (ibB s (nI m)) ∧ frC h g) := by
  have hP := k.i.o.hP
  have hH := k.i.o.hH
  refine e_X10_canKeep ⟨_, ct_loadK h s k, fun h4 l => ?_⟩
  obtain ⟨l1, l2, l3⟩ := l
  have lp : ∀ n j : Nat, n + j = nH s → ∀ g : Hp, frC h g → (∀ t, t < 5 → g.1 39 t = moR s (nI m) 0 j (4 + t) ∧ g.1 40 t = moR s (nI m) 0 j (9 + t)) → g.1 38 4 = nI (2 ^ nP s - 1) → GoI 5 mX10_canKeep 9 [(0, .ref 0), (1, .int (nI m)), (2, .int (nI j))] [] g (fun v g => v = bI (ibB s (nI m)) ∧ frC h g) := by
    intro n
    induction n with
    | zero =>
      intro j hj g f hd t4
      have hj : j = nH s := by omega
      subst hj
      have kg := k.fr f
      have e : svE (moR s (nI m) 0 (nH s)) s := fun i hi => by
        unfold moR
        rw [if_neg (by omega)]
      have i2 : InL 100 80 (moR s (nI m) 0 (nH s)) := InL_sv e k.i (fun u hu => by
        obtain ⟨⟨a, a1, a2⟩, ⟨b, b1, b2⟩, -⟩ := k.i.2.1 u hu
        refine ⟨⟨a, by omega, ?_⟩, ?_⟩
        · unfold moR
          rw [if_neg (by omega)]
          exact a2
        · unfold moR
          by_cases y : 9 + 0 ≤ 9 + u ∧ 9 + u < 9 + nH s
          · rw [if_pos y, b2, nI_add]
            exact ⟨b + m, by omega, rfl⟩
          · rw [if_neg y]
            exact ⟨b, by omega, b2⟩)
      have th : thI (moR s (nI m) 0 (nH s)) 0 g := by
        obtain ⟨th, h1, h2, h3⟩ := thI_0 (s := s) hP t4
        exact ⟨th, h1, h2, fun p hp => (h3 p hp).trans (e.pr 0 p).symm⟩
      refine b_X10_canKeep_9 ⟨fun _ => ⟨_, ct_solveK g s _ kg i2 e hd th, fun v h4 q => ⟨?_, f.tr q.2.1⟩⟩, fun z => absurd ?_ z⟩
      · have sg := sgn q.2.2.1
        rw [ite_bI']
        unfold ibB
        rw [← q.1, ← decide_not, decide_eq_decide.mpr (not_congr sg.2)]
      · rw [kg.c.H, k.i.o.eH]
        exact nI_le (by omega) (by omega)
    | succ n ih =>
      intro j hj g f hd t4
      have kg := k.fr f
      have vi : vp_in (nI j) 5 := vp_in_nI (by omega) (by omega)
      refine b_X10_canKeep_9 ⟨fun z => absurd z ?_, fun _ => ⟨vi, vi, fun g8 e8 => ?_⟩⟩
      · rw [kg.c.H, k.i.o.eH]
        exact nI_ge (by omega) (by omega)
      · rw [nI_clamp (show j < 2 ^ 31 by omega), (hd j (by omega)).2] at e8
        rw [nI_1]
        have f8 : Fr [40] g g8 := by
          rw [e8]
          exact Fr.ui (by decide)
        refine ih (j + 1) (by omega) g8 (f.add f8 (by decide) (by decide)) (fun t ht => ?_) ?_
        · obtain ⟨d1, d2⟩ := hd t ht
          have up := moR_up s (nI m) j
          refine ⟨?_, ?_⟩
          · rw [f8.1 39 (by decide), d1]
            unfold moR
            rw [if_neg (by omega), if_neg (by omega)]
          · rw [← up, e8, ui_get]
            unfold upd
            by_cases y : t = j
            · rw [if_pos ⟨rfl, y⟩, if_pos (by omega)]
            · rw [if_neg (fun z => y z.2), if_neg (by omega)]
              exact d2
        · rw [f8.1 38 (by decide)]
          exact t4
  refine lp (nH s) 0 rfl h4 l1 (fun t ht => ?_) l3
  rw [moR_0]
  exact l2 t ht
theorem ct_handC (h : Hp) (s : Nat → Int32) (k : kI s h) : CtI 6 mX10_hand [.ref 0] h (fun v g => v = haV s ∧ frC h g) := by
  refine e_X10_hand ⟨_, ct_solveAsIs h s k, fun v h4 q => ?_⟩
  obtain ⟨q1, q2, q3, -⟩ := q
  have sg := sgn q3
  have ib : ibB s 0 = true ↔ ¬ v = -9 := by
    unfold ibB
    rw [moR_z, q1]
    simp
  have lp : ∀ n i lo hi : Nat, n + i = 60 → hi ≤ 60 → lo ≤ 60 → hi - lo ≤ n → ∀ m : Nat, hi - lo < m → ∀ g : Hp, frC h g → GoI 6 mX10_hand 17 [(0, .ref 0), (1, .int (nI lo)), (2, .int (nI (hi + 1))), (3, .int (nI i))] [] g (fun v g => v = nI (haR (fun x => ibB s (nI x)) m lo hi) ∧ frC h g) := by
    intro n
    induction n with
    | zero =>
      intro i lo hi hi2 b1 b2 b3 m hm g f
      refine b_X10_hand_17 ⟨fun _ => ⟨?_, f⟩, fun z => absurd (nI_le (a := 60) (by omega) (by omega)) z⟩
      obtain ⟨m, rfl⟩ : ∃ m', m = m' + 1 := ⟨m - 1, by omega⟩
      rw [haR, if_pos (by omega)]
    | succ n ih =>
      intro i lo hi hi2 b1 b2 b3 m hm g f
      obtain ⟨m, rfl⟩ : ∃ m', m = m' + 1 := ⟨m - 1, by omega⟩
      refine b_X10_hand_17 ⟨fun z => absurd z (nI_ge (b := 60) (by omega) (by omega)), fun _ => ?_⟩
      by_cases lt : hi ≤ lo
      · have le : nI (hi + 1) - nI lo ≤ 1 := by
          have z1 : (1 : Int32).toInt = 1 := by decide
          rw [Int32.le_iff_toInt_le, pk_sub_toInt (by omega) (by omega), z1]
          omega
        refine ⟨fun _ => ⟨?_, f⟩, fun z => absurd le z⟩
        rw [haR, if_pos lt]
      · have nle : ¬ nI (hi + 1) - nI lo ≤ 1 := by
          have z1 : (1 : Int32).toInt = 1 := by decide
          rw [Int32.le_iff_toInt_le, pk_sub_toInt (by omega) (by omega), z1]
          omega
        have em : (nI lo + nI (hi + 1)) / 2 = nI ((lo + hi + 1) / 2) := by rw [nI_add, half _ (by omega), Nat.add_assoc]
        rw [em]
        refine ⟨fun z => absurd z nle, fun _ => ic_e (ct_canKeep (m := (lo + hi + 1) / 2) (by omega) g s (k.fr f)) (fun v3 g2 q => ?_)⟩
        rw [q.1, haR, if_neg lt]
        refine ⟨fun z => b_X10_hand_55 ?_, fun z => b_X10_hand_55 ?_⟩
        · rw [nI_1, if_neg (noF (bI_0.mp z))]
          have := ih (i + 1) lo ((lo + hi + 1) / 2 - 1) (by omega) (by omega) b2 (by omega) m (by omega) g2 (f.tr q.2)
          rw [show (lo + hi + 1) / 2 - 1 + 1 = (lo + hi + 1) / 2 by omega] at this
          exact this
        · rw [nI_1, if_pos (bI_t z)]
          exact ih (i + 1) ((lo + hi + 1) / 2) hi (by omega) b1 (by omega) (by omega) m (by omega) g2 (f.tr q.2)
  unfold haV
  refine ⟨fun z => ?_, fun z => ⟨?_, q2⟩⟩
  · rw [if_pos (ib.mpr (sg.1.mp z))]
    exact lp 60 0 0 60 rfl (by omega) (by omega) (by omega) 61 (by omega) h4 q2
  · rw [if_neg (fun y => z (sg.1.mpr (ib.mp y)))]
