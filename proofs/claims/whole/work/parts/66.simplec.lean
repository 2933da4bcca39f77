/-! ===== the class: simple calls ===== -/
theorem wb_l {x a b : Int32} (h : ¬ a ≤ x) : wbS x a b = -4 := if_pos (Int32.not_le.mp h)
theorem wb_h {x a b : Int32} (h : a ≤ x) (h2 : ¬ x ≤ b) : wbS x a b = -6 := by
  unfold wbS
  rw [if_neg (Int32.not_lt.mpr h), if_pos (Int32.not_le.mp h2)]
theorem wb_i {x a b : Int32} (h : a ≤ x) (h2 : x ≤ b) : wbS x a b = 0 := by
  unfold wbS
  rw [if_neg (Int32.not_lt.mpr h), if_neg (Int32.not_lt.mpr h2)]
theorem in_i {x a b : Int32} (h : a ≤ x) (h2 : x ≤ b) : inR x a b = true := decide_eq_true ⟨h, h2⟩
theorem in_l {x a b : Int32} (h : ¬ a ≤ x) : inR x a b = false := decide_eq_false (fun z => h z.1)
theorem in_h {x a b : Int32} (h : ¬ x ≤ b) : inR x a b = false := decide_eq_false (fun z => h z.2)
theorem nlt0 {x a : Int32} (h : ¬ x < a) : a ≤ x := Int32.not_lt.mp h
theorem lt0 {x a : Int32} (h : x < a) : ¬ a ≤ x := Int32.not_le.mpr h
theorem pw_in {n : Nat} (hn : n ≤ 5) (x : Int32) : x < nI (2 ^ n) ↔ x ≤ nI (2 ^ n - 1) := by
  have hp := pow_le hn
  have h0 : 0 < 2 ^ n := Nat.pow_pos (by decide)
  rw [Int32.lt_iff_toInt_lt, Int32.le_iff_toInt_le, nI_toInt (by omega), nI_toInt (by omega)]
  omega
theorem ite_f {b : Bool} {x y : Int32} (h : b = false) : (if b then x else y) = y := if_neg (noF h)
theorem ct_meritC (x : Int32) (h : Hp) (s : Nat → Int32) (a : sC 1 s h) : CtI 1 mX10_merit [.ref 0, .int x] h (okx (if inR x 0 2 then 0 else -2) h (fun v g => v = s 1 ∧ sC 1 (upd s 1 x) g ∧ Fr (cS 1) h g)) := by
  refine e_X10_merit ⟨fun c => rfx (ite_f (in_l (lt0 c))) isW_2 (by decide), fun c => ⟨fun c2 g6 e6 => okx_t (if_pos (in_i (nlt0 c) c2)) ⟨a.mr, ?_, ?_⟩, fun c2 => rfx (ite_f (in_h c2)) isW_2 (by decide)⟩⟩
  · rw [e6]
    exact a.umr x
  · rw [e6]
    exact Fr.ui (by decide)
theorem ct_stepC (x : Int32) (h : Hp) (s : Nat → Int32) (a : sC 1 s h) : CtI 1 mX10_step [.ref 0, .int x] h (okx (wbS x 0 9) h (fun v g => v = s 2 ∧ sC 1 (upd s 2 x) g ∧ Fr (cS 1) h g)) := by
  refine e_X10_step ⟨fun c => ⟨fun c2 g1 e1 => okx_t (wb_i c c2) ⟨a.st, ?_, ?_⟩, fun c2 => rfx (wb_h c c2) isW_6 (by decide)⟩, fun c => rfx (wb_l c) isW_4 (by decide)⟩
  · rw [e1]
    exact a.ust x
  · rw [e1]
    exact Fr.ui (by decide)
theorem ct_ofC (p w : Int32) (h : Hp) (s : Nat → Int32) (a : sC 1 s h) (i : InS s) : CtI 3 mX10_of [.ref 0, .int p, .int w] h (okx (ofW s p w) h (fun v g => v = ofV s p.toNatClampNeg w ∧ g = h)) := by
  have hP := i.o.hP
  refine e_X10_of (pc (ct_noPlant p h s a i.o) ⟨fun c => ?_, fun c => rfx (ite_f (nb_1.mp c)) isW_1 (by decide)⟩)
  have c := nb_0.mp c
  obtain ⟨q, eq, hq⟩ := isP_nI i.o c
  have ew : ofW s p w = if inR w 0 11 then 0 else -2 := if_pos c
  subst eq
  rw [nI_clamp (show q < 2 ^ 31 by omega)]
  refine ⟨fun c1 => rfx (ew.trans (ite_f (in_l (lt0 c1)))) isW_2 (by decide), fun c1 => ⟨fun c2 => ⟨vp_in_nI (by omega) (by omega), ?_⟩, fun c2 => rfx (ew.trans (ite_f (in_h c2))) isW_2 (by decide)⟩⟩
  obtain ⟨k, hk, ek⟩ := nI_of2 (M := 11) (n := 11) (by decide) c1 c2
  subst ek
  exact pc (ct_figureOf (by omega) h s a i hq) (okx_t (ew.trans (if_pos (in_i (nlt0 c1) c2))) ⟨rfl, rfl⟩)
theorem ct_startsC (p r : Int32) (h : Hp) (s : Nat → Int32) (a : sC 1 s h) (i : InS s) : CtI 3 mX10_starts [.ref 0, .int p, .int r] h (okx (sxW s p r) h (fun v g => v = stS (pfS s p.toNatClampNeg 0) (pfS s p.toNatClampNeg 1) (pfS s p.toNatClampNeg 6) r ∧ g = h)) := by
  have hP := i.o.hP
  refine e_X10_starts (pc (ct_noPlant p h s a i.o) ⟨fun c => ?_, fun c => rfx (ite_f (nb_1.mp c)) isW_1 (by decide)⟩)
  have c := nb_0.mp c
  obtain ⟨q, eq, hq⟩ := isP_nI i.o c
  have ew : sxW s p r = wbS r 1 9 := if_pos c
  subst eq
  rw [nI_clamp (show q < 2 ^ 31 by omega)]
  exact ⟨fun c1 => ⟨fun c2 => ⟨vp_in_nI (by omega) (by omega), pc (ct_startC r h s a i hq) (okx_t (ew.trans (wb_i c1 c2)) ⟨rfl, rfl⟩)⟩, fun c2 => rfx (ew.trans (wb_h c1 c2)) isW_6 (by decide)⟩, fun c1 => rfx (ew.trans (wb_l c1)) isW_4 (by decide)⟩
theorem ct_lawfulC (p row : Int32) (h : Hp) (s : Nat → Int32) (a : sC 1 s h) (i : InS s) : CtI 3 mX10_lawful [.ref 0, .int p, .int row] h (okx (lwW s p row) h (fun v g => v = bI (lawS (pfS s p.toNatClampNeg) (hasB row) (nH s)) ∧ g = h)) := by
  have hP := i.o.hP
  have hH := i.o.hH
  refine e_X10_lawful (pc (ct_noPlant p h s a i.o) ⟨fun c => ?_, fun c => rfx (ite_f (nb_1.mp c)) isW_1 (by decide)⟩)
  have c := nb_0.mp c
  obtain ⟨q, eq, hq⟩ := isP_nI i.o c
  have ew : lwW s p row = wbS row 0 (nI (2 ^ nH s - 1)) := if_pos c
  subst eq
  rw [nI_clamp (show q < 2 ^ 31 by omega), a.H, i.o.eH, shl1 (nH s) (by omega)]
  refine ⟨fun c1 => ⟨fun c2 => ⟨vp_in_nI (by omega) (by omega), pc (ct_mayRunC row h s a i hq) (okx_t (ew.trans (wb_i c1 ((pw_in hH _).mp c2))) ⟨?_, rfl⟩)⟩, fun c2 => rfx (ew.trans (wb_h c1 (fun z => c2 ((pw_in hH _).mpr z)))) isW_6 (by decide)⟩, fun c1 => rfx (ew.trans (wb_l c1)) isW_4 (by decide)⟩
  cases lawS (pfS s q) (hasB row) (nH s) <;> rfl
theorem m1_in {x : Int32} (c : -1 ≤ x) : x = -1 ∨ ∃ n : Nat, n < 2 ^ 31 ∧ x = nI n := by
  by_cases z : x < 0
  · left
    have h1 := Int32.le_iff_toInt_le.mp c
    have h2 := Int32.lt_iff_toInt_lt.mp z
    have e1 : (-1 : Int32).toInt = -1 := by decide
    have e0 : (0 : Int32).toInt = 0 := by decide
    apply Int32.toInt_inj.mp
    rw [e1] at h1 ⊢
    rw [e0] at h2
    omega
  · exact Or.inr (nI_of z)
/-- below -1 there's none -/
theorem roR_lo (ok : Nat → Bool) {i : Int32} (hi : ¬ -1 ≤ i) : ∀ n x k : Nat, n + k < 2 ^ 31 → (roR ok i n x (nI k)).2 = false := by
  intro n
  induction n with
  | zero =>
    intro x k _
    rw [roR]
    exact decide_eq_false (fun z => hi (by rw [z]; decide))
  | succ n ih =>
    intro x k hk
    rw [roR]
    by_cases c : ok x = true
    · rw [if_pos c, if_neg, nI_1]
      · exact ih (x + 1) (k + 1) (by omega)
      · intro z
        rw [← z] at hi
        exact hi (Int32.le_trans (by decide) (nI_pos' (show k < 2 ^ 31 by omega)))
    · rw [if_neg c]
      exact ih (x + 1) k (by omega)
theorem ct_rowsC (p i : Int32) (h : Hp) (s : Nat → Int32) (a : sC 1 s h) (I : InS s) : CtI 3 mX10_rows [.ref 0, .int p, .int i] h (okx (roW s p i) h (fun v g => v = (roR (fun x => lawS (pfS s p.toNatClampNeg) (hasB (nI x)) (nH s)) i (2 ^ nH s) 0 0).1 ∧ g = h)) := by
  have hP := I.o.hP
  have hH := I.o.hH
  have hpow := pow_le hH
  refine e_X10_rows (pc (ct_noPlant p h s a I.o) ⟨fun c => ?_, fun c => rfx (ite_f (nb_1.mp c)) isW_1 (by decide)⟩)
  have cp := nb_0.mp c
  obtain ⟨t, et, ht⟩ := isP_nI I.o cp
  subst et
  have ct : (nI t).toNatClampNeg = t := nI_clamp (show t < 2 ^ 31 by omega)
  refine ⟨fun ci => ?_, fun ci => ?_⟩
  · have lp : ∀ n x : Nat, n + x = 2 ^ nH s → ∀ f : Int32, roR (fun x => lawS (pfS s (nI t).toNatClampNeg) (hasB (nI x)) (nH s)) i n x f = roR (fun x => lawS (pfS s (nI t).toNatClampNeg) (hasB (nI x)) (nH s)) i (2 ^ nH s) 0 0 → GoI 3 mX10_rows 34 [(0, .ref 0), (1, .int (nI t)), (2, .int i), (3, .int f), (4, .int (nI x))] [] h (okx (roW s (nI t) i) h (fun v g => v = (roR (fun x => lawS (pfS s (nI t).toNatClampNeg) (hasB (nI x)) (nH s)) i (2 ^ nH s) 0 0).1 ∧ g = h)) := by
      intro n
      induction n with
      | zero =>
        intro x hx f er
        rw [roR] at er
        refine b_X10_rows_34 ⟨fun _ => ⟨fun c2 => rfx ?_ isW_3 (by decide), fun c2 => okx_t ?_ ⟨?_, rfl⟩⟩, fun c2 => absurd ?_ c2⟩
        · rw [roW, if_pos cp, ← er]
          exact if_neg (fun z => c2 (of_decide_eq_true z))
        · rw [roW, if_pos cp, ← er]
          exact if_pos (decide_eq_true c2)
        · rw [← er]
        · rw [a.H, I.o.eH, shl1 (nH s) (by omega)]
          exact nI_le (by omega) (by omega)
      | succ n ih =>
        intro x hx f er
        rw [roR] at er
        refine b_X10_rows_34 ⟨fun c2 => absurd c2 ?_, fun _ => ⟨vp_in_nI (by omega) (by omega), ?_⟩⟩
        · rw [a.H, I.o.eH, shl1 (nH s) (by omega)]
          exact nI_ge (by omega) (by omega)
        · rw [a.H, I.o.eH, ct]
          refine pc (ct_mayRunC (nI x) h s a I ht) ?_
          rw [ct] at er
          refine ⟨fun c2 => b_X10_rows_83 ?_, fun c2 => ⟨fun c3 => b_X10_rows_83 ?_, fun c3 => okx_t ?_ ⟨?_, rfl⟩⟩⟩
          · rw [bI_0.mp c2] at er
            rw [nI_1]
            have ih2 := ih (x + 1) (by omega) f
            rw [ct] at ih2
            exact ih2 er
          · rw [bI_t c2, if_pos rfl, if_neg c3] at er
            rw [nI_1]
            have ih2 := ih (x + 1) (by omega) (f + 1)
            rw [ct] at ih2
            exact ih2 er
          · rw [bI_t c2, if_pos rfl, if_pos c3] at er
            rw [roW, if_pos cp, ct, ← er]
            rfl
          · rw [bI_t c2, if_pos rfl, if_pos c3] at er
            rw [← er]
    exact lp (2 ^ nH s) 0 rfl 0 rfl
  · refine rfx ?_ isW_3 (by decide)
    rw [roW, if_pos cp]
    exact ite_f (roR_lo _ ci (2 ^ nH s) 0 0 (by omega))
theorem ct_refusalOfSet (x : Int32) (h : Hp) (s : Nat → Int32) (a : sC 1 s h) (i : InS s) : CtI 0 mX10_refusalOfSet [.ref 0, .int x] h (pq (seW s x) h) := by
  have hP := i.o.hP
  refine e_X10_refusalOfSet ⟨fun c => ⟨?_, rfl⟩, fun c => ⟨(wb_l c).symm, rfl⟩⟩
  rw [a.M, i.o.eP, shl1 (nP s) (by omega)]
  by_cases c2 : x < nI (2 ^ nP s)
  · rw [if_pos c2]
    exact (wb_i c ((pw_in (by omega) _).mp c2)).symm
  · rw [if_neg c2]
    exact (wb_h c (fun z => c2 ((pw_in (by omega) _).mpr z))).symm
theorem dn_sh {s : Nat → Int32} (i : InS s) {t : Nat} (ht : t < 5) (x : Int32) : (cnP s (s (4 + t)) (s (9 + t)) x 0 = true → (if cnP s (s (4 + t)) (s (9 + t)) x 0 then coE (nP s) (s 1) (pfS s) (s (4 + t)) (s (9 + t)) (hasB x) (hasB 0) else -9) = dnV s t x ∧ ¬ dnV s t x = FAR ∧ 0 ≤ dnV s t x) ∧ (cnP s (s (4 + t)) (s (9 + t)) x 0 = false → (if cnP s (s (4 + t)) (s (9 + t)) x 0 then coE (nP s) (s 1) (pfS s) (s (4 + t)) (s (9 + t)) (hasB x) (hasB 0) else -9) = -9 ∧ dnV s t x = FAR) := by
  obtain ⟨D, hD, eD⟩ := i.dn ht
  refine ⟨fun c => ⟨if_pos c, ?_⟩, fun c => ⟨if_neg (noF c), coE_no c⟩⟩
  have c' : canF (nP s) (pfS s) (nI D) (s (9 + t)) (hasB x) (hasB 0) = true := by
    rw [← eD]
    exact c
  obtain ⟨v, hv, ev⟩ := coE_b (by decide) i hD c'
  have e : dnV s t x = nI v := by
    rw [← ev, ← eD]
    rfl
  rw [e]
  refine ⟨fun z => ?_, nI_pos' (by omega)⟩
  rw [FAR_nI] at z
  have := (nI_eq (by omega) (by omega)).mp z
  omega
theorem dcs_sub : ∀ k, k ∈ dcs → k ∈ scC := by decide
theorem dcs35_sub : ∀ k, k ∈ [35] → k ∈ scC := by decide
theorem frC.dcs {h h1 h2 : Hp} (s : Nat → Int32) (k : kI s h) (a : Fr dcs h h1) (b : Fr [35] h1 h2) : frC h h2 := ((frC.rf k).add a dcs_sub (by decide)).add b dcs35_sub (by decide)
theorem ct_doneC (hour x : Int32) (h : Hp) (s : Nat → Int32) (k : kI s h) : CtI 3 mX10_done [.ref 0, .int hour, .int x] h (okx (dnW s hour x) h (fun v g => v = (if dnV s hour.toNatClampNeg x = FAR then -9 else dnV s hour.toNatClampNeg x) ∧ frC h g)) := by
  have hH := k.i.o.hH
  refine e_X10_done (pc (ct_noHour hour h s k.c k.i.o) ⟨fun c => ?_, fun c => rfx (ite_f (nb_1.mp c)) isW_1 (by decide)⟩)
  have c := nb_0.mp c
  obtain ⟨t, et, ht⟩ := isH_nI k.i.o c
  have ew : dnW s hour x = seW s x := if_pos c
  subst et
  rw [nI_clamp (show t < 2 ^ 31 by omega), ew]
  have iw : isW (seW s x) := isW_wb _ _ _
  refine pc (ct_refusalOfSet x h s k.c k.i) ⟨fun c1 => ⟨_, ct_ready h s k.c k.i, fun h14 q => ⟨vp_in_nI (by omega) (by omega), vp_in_nI (by omega) (by omega), ?_⟩⟩, fun c1 => rfx rfl iw (fun z => c1 (by rw [z]; decide))⟩
  have c0 : seW s x = 0 := Classical.byContradiction fun z => absurd (isW_neg iw z) (Int32.not_lt.mpr c1)
  obtain ⟨q1, q2⟩ := q
  have a14 : sC 1 s h14 := k.c.fr q2 (by decide)
  rw [a14.d1 (by omega), a14.r1 (by omega)]
  refine ⟨_, ct_share (s (4 + t)) (s (9 + t)) x 0 h14 s q1 k.i, fun v g sh => ?_⟩
  obtain ⟨s1, s2, -⟩ := sh
  refine okx_t c0 ⟨?_, frC.dcs s k q2 s2⟩
  have d := dn_sh k.i (t := t) (by omega) x
  rw [s1]
  cases cc : cnP s (s (4 + t)) (s (9 + t)) x 0
  · obtain ⟨d1, d2⟩ := d.2 cc
    rw [cc] at d1
    rw [if_pos d2]
    exact d1
  · obtain ⟨d1, d2, -⟩ := d.1 cc
    rw [cc] at d1
    rw [if_neg d2]
    exact d1
theorem bit_z {x : Int32} {p : Nat} : ((x >>> (nI p &&& 31)) &&& 1) = 0 ↔ hasB x p = false := by
  have e := bit_bI x (nI p)
  rw [e]
  exact bI_0
theorem ct_givenC (hour x p : Int32) (h : Hp) (s : Nat → Int32) (k : kI s h) : CtI 3 mX10_given [.ref 0, .int hour, .int x, .int p] h (okx (gnW s hour x p) h (fun v g => v = gnV s hour.toNatClampNeg x p.toNatClampNeg ∧ frC h g)) := by
  have hH := k.i.o.hH
  have hP := k.i.o.hP
  refine e_X10_given (pc (ct_noHour hour h s k.c k.i.o) ⟨fun c => rfx (ite_f (nb_1.mp c)) isW_1 (by decide), fun c => pc (ct_noPlant p h s k.c k.i.o) ⟨fun cp => ?_, fun cp => rfx ?_ isW_1 (by decide)⟩⟩)
  · have c := nb_0.mp c
    have cp := nb_0.mp cp
    obtain ⟨t, et, ht⟩ := isH_nI k.i.o c
    obtain ⟨q, eq, hq⟩ := isP_nI k.i.o cp
    have ew : gnW s hour x p = seW s x := by rw [gnW, if_pos c, if_pos cp]
    subst et
    subst eq
    rw [nI_clamp (show t < 2 ^ 31 by omega), nI_clamp (show q < 2 ^ 31 by omega), ew]
    have iw : isW (seW s x) := isW_wb _ _ _
    refine pc (ct_refusalOfSet x h s k.c k.i) ⟨fun c1 => ?_, fun c1 => rfx rfl iw (fun z => c1 (by rw [z]; decide))⟩
    have c0 : seW s x = 0 := Classical.byContradiction fun z => absurd (isW_neg iw z) (Int32.not_lt.mpr c1)
    refine ⟨fun b => ⟨_, ct_ready h s k.c k.i, fun h14 r => ⟨vp_in_nI (by omega) (by omega), vp_in_nI (by omega) (by omega), ?_⟩⟩, fun b => okx_t c0 ⟨?_, frC.rf k⟩⟩
    · have bt : hasB x q = true := by
        cases y : hasB x q
        · exact absurd (bit_z.mpr y) b
        · rfl
      obtain ⟨q1, q2⟩ := r
      have a14 : sC 1 s h14 := k.c.fr q2 (by decide)
      rw [a14.d1 (by omega), a14.r1 (by omega)]
      refine ⟨_, ct_share (s (4 + t)) (s (9 + t)) x 0 h14 s q1 k.i, fun v g sh => ?_⟩
      obtain ⟨s1, s2, s3⟩ := sh
      have fr := frC.dcs s k q2 s2
      have d := dn_sh k.i (t := t) (by omega) x
      have eg : gnV s t x q = if dnV s t x = FAR then -9 else shF (nP s) (s 1) (pfS s) (s (4 + t)) (hasB x) (hasB 0) (fun _ => 0) q := if_pos bt
      rw [eg]
      cases cc : cnP s (s (4 + t)) (s (9 + t)) x 0
      · obtain ⟨d1, d2⟩ := d.2 cc
        rw [← s1] at d1
        rw [if_pos d2, d1]
        exact ⟨fun z => absurd z (by decide), fun _ => okx_t c0 ⟨rfl, fr⟩⟩
      · obtain ⟨d1, d2, d3⟩ := d.1 cc
        rw [← s1] at d1
        rw [if_neg d2]
        refine ⟨fun _ => ⟨vp_in_nI (by omega) (by omega), okx_t c0 ⟨?_, fr⟩⟩, fun z => absurd (by rw [d1]; exact d3) z⟩
        exact s3 cc q hq bt
    · rw [gnV, if_neg (noF (bit_z.mp b))]
  · rw [gnW, if_pos (nb_0.mp c)]
    exact ite_f (nb_1.mp cp)
theorem ct_priceC (hour x : Int32) (h : Hp) (s : Nat → Int32) (a : sC 1 s h) (i : InS s) : CtI 1 mX10_price [.ref 0, .int hour, .int x] h (okx (prW s hour x) h (fun v g => v = s (14 + hour.toNatClampNeg) ∧ sC 1 (upd s (14 + hour.toNatClampNeg) x) g ∧ Fr (cS 1) h g)) := by
  have hH := i.o.hH
  refine e_X10_price (pc (ct_noHour hour h s a i.o) ⟨fun c => ?_, fun c => rfx (ite_f (nb_1.mp c)) isW_1 (by decide)⟩)
  have c := nb_0.mp c
  obtain ⟨t, et, ht⟩ := isH_nI i.o c
  have ew : prW s hour x = wbS x 0 99 := if_pos c
  subst et
  rw [nI_clamp (show t < 2 ^ 31 by omega), ew]
  have vi : vp_in (nI t) 5 := vp_in_nI (by omega) (by omega)
  refine ⟨fun c1 => ⟨fun c2 => ⟨vi, vi, fun g8 e8 => okx_t (wb_i c1 c2) ⟨a.p1 (by omega), ?_, ?_⟩⟩, fun c2 => rfx (wb_h c1 c2) isW_6 (by decide)⟩, fun c1 => rfx (wb_l c1) isW_4 (by decide)⟩
  · rw [e8]
    exact a.upr (by omega) x
  · rw [e8]
    exact Fr.ui (by decide)
theorem ct_hourC (hour w : Int32) (h : Hp) (s : Nat → Int32) (a : sC 1 s h) (i : InS s) : CtI 1 mX10_hour [.ref 0, .int hour, .int w] h (okx (hoW s hour w) h (fun v g => v = s (4 + 5 * w.toNatClampNeg + hour.toNatClampNeg) ∧ g = h)) := by
  have hH := i.o.hH
  refine e_X10_hour (pc (ct_noHour hour h s a i.o) ⟨fun c => ?_, fun c => rfx (ite_f (nb_1.mp c)) isW_1 (by decide)⟩)
  have c := nb_0.mp c
  obtain ⟨t, et, ht⟩ := isH_nI i.o c
  have ew : hoW s hour w = if inR w 0 2 then 0 else -2 := if_pos c
  subst et
  rw [nI_clamp (show t < 2 ^ 31 by omega), ew]
  have vi : vp_in (nI t) 5 := vp_in_nI (by omega) (by omega)
  refine ⟨fun c1 => ⟨vi, okx_t (by rw [c1]; decide) ⟨?_, rfl⟩⟩, fun n0 => ⟨fun c1 => ⟨vi, okx_t (by rw [c1]; decide) ⟨?_, rfl⟩⟩, fun n1 => ⟨fun c1 => ⟨vi, okx_t (by rw [c1]; decide) ⟨?_, rfl⟩⟩, fun n2 => rfx (ite_f ?_) isW_2 (by decide)⟩⟩⟩
  · rw [c1]
    exact a.d1 (by omega)
  · rw [c1]
    exact a.r1 (by omega)
  · rw [c1]
    exact a.p1 (by omega)
  · cases y : inR w 0 2
    · rfl
    · have z := of_decide_eq_true y
      obtain ⟨k, hk, ek⟩ := nI_of2 (M := 2) (n := 2) (by decide) (Int32.not_lt.mpr z.1) z.2
      subst ek
      have : k = 0 ∨ k = 1 ∨ k = 2 := by omega
      rcases this with e | e | e
      · exact absurd (by rw [e]; rfl) n0
      · exact absurd (by rw [e]; rfl) n1
      · exact absurd (by rw [e]; rfl) n2
theorem ct_countC (x : Int32) (h : Hp) (s : Nat → Int32) (a : sC 1 s h) (i : InS s) : CtI 1 mX10_count [.ref 0, .int x] h (pq (cnV s (h.1 25 1) (h.1 68) x) h) := by
  have s22 : inR x 11 16 = false → GoI 1 mX10_count 22 [(0, .ref 0), (1, .int x)] [] h (pq (cnV s (h.1 25 1) (h.1 68) x) h) := by
    intro cf
    have e : cnV s (h.1 25 1) (h.1 68) x = if x = 0 then s 3 else if x = 1 then s 0 else if x = 2 then s 1 else if x = 3 then s 2 else if x = 4 then h.1 25 1 else if x = 5 then sumI (fun t => s (4 + t)) (nH s) else -9 := if_neg (noF cf)
    rw [e]
    refine b_X10_count_22 ⟨fun c0 => ⟨?_, rfl⟩, fun c0 => ⟨fun c1 => ⟨?_, rfl⟩, fun c1 => ⟨fun c2 => ⟨?_, rfl⟩, fun c2 => ⟨fun c3 => ⟨?_, rfl⟩, fun c3 => ⟨fun c4 => ⟨?_, rfl⟩, fun c4 => ⟨fun c5 => pc (ct_demandOfAll h s a i.o) ⟨?_, rfl⟩, fun c5 => ⟨?_, rfl⟩⟩⟩⟩⟩⟩⟩
    · rw [if_pos c0]
      exact a.M
    · rw [if_neg c0, if_pos c1]
      exact a.H
    · rw [if_neg c0, if_neg c1, if_pos c2]
      exact a.mr
    · rw [if_neg c0, if_neg c1, if_neg c2, if_pos c3]
      exact a.st
    · rw [if_neg c0, if_neg c1, if_neg c2, if_neg c3, if_pos c4]
    · rw [if_neg c0, if_neg c1, if_neg c2, if_neg c3, if_neg c4, if_pos c5]
    · rw [if_neg c0, if_neg c1, if_neg c2, if_neg c3, if_neg c4, if_neg c5]
  refine e_X10_count ⟨fun c => s22 (in_l (lt0 c)), fun c => ⟨fun c2 => s22 (in_h (Int32.not_le.mpr c2)), fun c2 => ?_⟩⟩
  have ci : inR x 11 16 = true := in_i (nlt0 c) (Int32.not_lt.mp c2)
  obtain ⟨n, en, hn, -⟩ := in1116 ci
  rw [cnV, if_pos ci, en]
  exact ⟨vp_in_nI (by omega) (by omega), rfl, rfl⟩
theorem ct_imageC (h : Hp) (s : Nat → Int32) (a : sC 1 s h) : CtI 2 mX10_image [.ref 0] h (fun v g => v = s 3 ∧ sC 17 s g ∧ g.1 0 3 = 1 ∧ (∀ k, k ∉ 0 :: cS 17 → g.1 k = h.1 k) ∧ (∀ j, j ≠ 3 → g.1 0 j = h.1 0 j) ∧ g.2 = (ul h 17 8 (h.2 1 8)).2) := by
  refine e_X10_image ⟨_, ct_copySc (a := 17) (b := 1) isSc_17 isSc_1 (by decide) h s a, fun h4 q g6 e6 => ?_⟩
  obtain ⟨q1, q2, q3⟩ := q
  have k6 : ∀ k, k ≠ 0 → g6.1 k = h4.1 k := fun k hk => by rw [e6, ui_ne hk]
  have c17 : 0 ∉ cS 17 := by decide
  refine ⟨?_, fun i hi => ?_, ?_, fun k hk => ?_, fun j hj => ?_, ?_⟩
  · rw [k6 1 (by decide), q2 1 (by decide)]
    exact a.M
  · rw [k6 _ (by omega)]
    exact q1 i hi
  · rw [e6, ui_aa]
  · rw [k6 k (fun z => hk (by rw [z]; exact List.mem_cons_self ..)), q2 k (fun z => hk (List.mem_cons_of_mem _ z))]
  · rw [e6, ui_nj hj, q2 0 c17]
  · rw [e6]
    exact q3
theorem ct_onC (h : Hp) (im : Nat → Int32) (a : sC 17 im h) : CtI 2 mX10_on [.ref 0] h (fun v g => (¬ h.1 0 3 = 0 → v = im 3 ∧ sC 1 im g ∧ (∀ k, k ∉ cS 1 → g.1 k = h.1 k) ∧ g.2 = (ul h 1 8 (h.2 17 8)).2) ∧ (h.1 0 3 = 0 → v = -3 ∧ g = noC h 3)) := by
  refine e_X10_on ⟨fun c => ⟨_, ct_copySc (a := 1) (b := 17) isSc_1 isSc_17 (by decide) h im a, fun h4 q => ⟨fun _ => ⟨q.1.M, q.1, q.2.1, q.2.2⟩, fun z => absurd z c⟩⟩, fun c => ⟨_, ct_refuse isW_3 (by decide) h, fun v g q => ⟨fun z => absurd c z, fun _ => ⟨q.1, q.2⟩⟩⟩⟩
