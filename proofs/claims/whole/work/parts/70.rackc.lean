/-! ===== the class: racks ===== -/
def rkC : List Nat := [77, 78, 79, 80, 81, 82, 83, 84, 85, 86, 87, 88, 89, 90, 91, 92, 93, 94, 95, 96, 97, 98, 99, 100, 101, 102, 103, 104, 105, 106, 107, 108, 109, 110, 111, 112]
theorem rkC_in {k : Nat} (h1 : 77 ≤ k) (h2 : k ≤ 112) : k ∈ rkC := by
  have : ∀ k, k < 113 → 77 ≤ k → k ∈ rkC := by decide
  exact this k (by omega) h1
/-- what lies at a place of a rack -/
def pcI (la : Nat → Int32) (r j : Nat) (h : Hp) : Prop := (la (3 * (9 * r + j)) = -9 ∧ h.1 (79 + 12 * r) j = 0) ∨ ((∃ k : Nat, k < 6 ∧ la (3 * (9 * r + j)) = nI k) ∧ h.1 (79 + 12 * r) j = 1 ∧ h.1 (80 + 12 * r + j) 0 = la (3 * (9 * r + j)) ∧ h.1 (80 + 12 * r + j) 1 = la (3 * (9 * r + j) + 1) ∧ h.1 (80 + 12 * r + j) 6 = la (3 * (9 * r + j) + 2))
/-- one rack -/
def r1I (kd sz la : Nat → Int32) (r : Nat) (h : Hp) : Prop := (kd r = -9 ∧ h.1 (77 + 12 * r) 3 = -1) ∨ ((∃ k : Nat, k < 6 ∧ kd r = nI k) ∧ (∃ k : Nat, k ≤ 9 ∧ sz r = nI k) ∧ h.1 (77 + 12 * r) 2 = kd r ∧ h.1 (77 + 12 * r) 3 = sz r ∧ ∀ j, j < 9 → pcI la r j h)
def rkI (kd sz la : Nat → Int32) (h : Hp) : Prop := ∀ r, r < 3 → r1I kd sz la r h
theorem pcI.c {la lb : Nat → Int32} {r q j : Nat} {h g : Hp} (a : pcI la r j h) (e : ∀ w, w < 3 → lb (3 * (9 * q + j) + w) = la (3 * (9 * r + j) + w)) (e1 : g.1 (79 + 12 * q) j = h.1 (79 + 12 * r) j) (e2 : ∀ w, w < 10 → g.1 (80 + 12 * q + j) w = h.1 (80 + 12 * r + j) w) : pcI lb q j g := by
  unfold pcI at a ⊢
  have w0 := e 0 (by decide)
  rw [Nat.add_zero, Nat.add_zero] at w0
  rw [w0, e 1 (by decide), e 2 (by decide), e1, e2 0 (by decide), e2 1 (by decide), e2 6 (by decide)]
  exact a
theorem r1I.c {kd sz la kd' sz' lb : Nat → Int32} {r q : Nat} {h g : Hp} (a : r1I kd sz la r h) (ek : kd' q = kd r) (es : sz' q = sz r) (e : ∀ j w, j < 9 → w < 3 → lb (3 * (9 * q + j) + w) = la (3 * (9 * r + j) + w)) (e0 : g.1 (77 + 12 * q) 2 = h.1 (77 + 12 * r) 2 ∧ g.1 (77 + 12 * q) 3 = h.1 (77 + 12 * r) 3) (e1 : ∀ j, j < 9 → g.1 (79 + 12 * q) j = h.1 (79 + 12 * r) j ∧ ∀ w, w < 10 → g.1 (80 + 12 * q + j) w = h.1 (80 + 12 * r + j) w) : r1I kd' sz' lb q g := by
  unfold r1I at a ⊢
  rw [ek, es, e0.1, e0.2]
  rcases a with a | ⟨a1, a2, a3, a4, a5⟩
  · exact Or.inl a
  · exact Or.inr ⟨a1, a2, a3, a4, fun j hj => (a5 j hj).c (fun w hw => e j w hj hw) (e1 j hj).1 (e1 j hj).2⟩
theorem r1I.fr {kd sz la kd' sz' lb : Nat → Int32} {r : Nat} {X : List Nat} {h g : Hp} (a : r1I kd sz la r h) (ek : kd' r = kd r) (es : sz' r = sz r) (e : ∀ i, 27 * r ≤ i → i < 27 * r + 27 → lb i = la i) (f : Fr X h g) (hx : ∀ k, 77 + 12 * r ≤ k → k < 89 + 12 * r → k ∉ X) : r1I kd' sz' lb r g := by
  refine a.c ek es (fun j w hj hw => e _ (by omega) (by omega)) ?_ (fun j hj => ?_)
  · rw [f.1 _ (hx _ (by omega) (by omega))]
    exact ⟨rfl, rfl⟩
  · rw [f.1 _ (hx _ (by omega) (by omega)), f.1 _ (hx _ (by omega) (by omega))]
    exact ⟨rfl, fun _ _ => rfl⟩
theorem rkI.fr {kd sz la : Nat → Int32} {X : List Nat} {h g : Hp} (a : rkI kd sz la h) (f : Fr X h g) (hx : ∀ k, k ∈ rkC → k ∉ X) : rkI kd sz la g := fun r hr => (a r hr).fr rfl rfl (fun _ _ _ => rfl) f (fun k h1 h2 => hx k (rkC_in (by omega) (by omega)))
theorem isSh_r : ∀ r, r < 3 → isSh (77 + 12 * r)
  | 0, _ => isSh_77
  | 1, _ => isSh_89
  | 2, _ => isSh_101
theorem rkI.ok {kd sz la : Nat → Int32} {h : Hp} (a : rkI kd sz la h) : okR kd sz := fun r hr => by
  rcases a r hr with a | ⟨-, a2, -⟩
  · exact Or.inl a.1
  · exact Or.inr a2
/-- its size tells whether it's there -/
theorem rkI.sz {kd sz la : Nat → Int32} {h : Hp} (a : rkI kd sz la h) {r : Nat} (hr : r < 3) : (0 ≤ h.1 (77 + 12 * r) 3 → ¬ kd r = -9 ∧ (∃ k : Nat, k < 6 ∧ kd r = nI k) ∧ (∃ k : Nat, k ≤ 9 ∧ sz r = nI k) ∧ h.1 (77 + 12 * r) 2 = kd r ∧ h.1 (77 + 12 * r) 3 = sz r ∧ ∀ j, j < 9 → pcI la r j h) ∧ (¬ 0 ≤ h.1 (77 + 12 * r) 3 → kd r = -9) := by
  rcases a r hr with ⟨a1, a2⟩ | ⟨⟨k, hk, ek⟩, ⟨n, hn, en⟩, a3, a4, a5⟩
  · rw [a2]
    exact ⟨fun y => absurd y (by decide), fun _ => a1⟩
  · rw [a4, en, ek]
    exact ⟨fun _ => ⟨m9_pos (by omega), ⟨k, hk, rfl⟩, ⟨n, hn, rfl⟩, by rw [a3, ek], rfl, a5⟩, fun y => absurd (nI_pos' (by omega)) y⟩
theorem ct_noRack (x : Int32) (h : Hp) : CtI 0 mX10_noRack [.int x] h (pq (bI (!inR x 0 2)) h) := by
  have e := inR_lt (n := 3) (by decide) x
  rw [show nI 3 - 1 = 2 by decide] at e
  rw [e]
  refine e_X10_noRack ⟨fun c => ⟨?_, rfl⟩, fun c => ⟨fun c2 => ⟨?_, rfl⟩, fun c2 => ⟨?_, rfl⟩⟩⟩
  · rw [decide_eq_false (fun y => y.1 c)]
    rfl
  · rw [decide_eq_true ⟨c, c2⟩]
    rfl
  · rw [decide_eq_false (fun y => c2 y.2)]
    rfl
theorem ct_makeR {r : Nat} (hr : r < 3) (k n : Int32) (h : Hp) : CtV 0 mX6_make [.ref (77 + 12 * r), .int k, .int n] h (fun g => g.1 (77 + 12 * r) 2 = k ∧ g.1 (77 + 12 * r) 3 = n ∧ (∀ j, j < 9 → g.1 (79 + 12 * r) j = 0) ∧ Fr [77 + 12 * r, 79 + 12 * r] h g) := by
  have sh := isSh_r r hr
  refine e_X6_make sh (fun g1 e1 g2 e2 => ?_)
  have lp : ∀ m j : Nat, m + j = 9 → ∀ g : Hp, g.1 (77 + 12 * r) 2 = k → g.1 (77 + 12 * r) 3 = n → (∀ q, q < j → g.1 (79 + 12 * r) q = 0) → Fr [77 + 12 * r, 79 + 12 * r] h g → GoV 0 mX6_make 12 [(0, .ref (77 + 12 * r)), (3, .int (nI j))] [] g (fun g => g.1 (77 + 12 * r) 2 = k ∧ g.1 (77 + 12 * r) 3 = n ∧ (∀ j, j < 9 → g.1 (79 + 12 * r) j = 0) ∧ Fr [77 + 12 * r, 79 + 12 * r] h g) := by
    intro m
    induction m with
    | zero =>
      intro j hj g a1 a2 a3 f
      have hj : j = 9 := by omega
      subst hj
      exact b_X6_make_12 sh ⟨fun _ => ⟨a1, a2, a3, f⟩, fun c => absurd (nI_le (a := 9) (by omega) (by omega)) c⟩
    | succ m ih =>
      intro j hj g a1 a2 a3 f
      refine b_X6_make_12 sh ⟨fun c => absurd c (nI_ge (b := 9) (by omega) (by omega)), fun _ => ⟨vp_in_nI (by omega) (by omega), fun g2 e2 => ?_⟩⟩
      rw [nI_clamp (show j < 2 ^ 31 by omega), show 77 + 12 * r + 2 = 79 + 12 * r by omega] at e2
      rw [nI_1]
      refine ih (j + 1) (by omega) g2 ?_ ?_ (fun q hq => ?_) ?_
      · rw [e2, ui_ne (by omega)]
        exact a1
      · rw [e2, ui_ne (by omega)]
        exact a2
      · rw [e2]
        by_cases y : q = j
        · rw [y, ui_aa]
        · rw [ui_nj y]
          exact a3 q (by omega)
      · rw [e2]
        exact f.tr (Fr.ui (List.mem_cons_of_mem _ (List.mem_cons_self ..)))
  refine lp 9 0 rfl g2 ?_ ?_ (fun q hq => by omega) ?_
  · rw [e2, ui_nj (by decide), e1, ui_aa]
  · rw [e2, ui_aa]
  · rw [e2, e1]
    exact (Fr.ui (List.mem_cons_self ..)).tr (Fr.ui (List.mem_cons_self ..))
theorem in05 {x : Int32} (h : inR x 0 5 = true) : ∃ k : Nat, k < 6 ∧ x = nI k := by
  obtain ⟨t, e, ht⟩ := inR_nIw (n := 6) (by decide) (x := x) (by rw [show nI 6 - 1 = 5 by decide]; exact h)
  exact ⟨t, ht, e⟩
theorem ct_rackC (r kd n : Int32) (h : Hp) (ks sz la : Nat → Int32) (R : rkI ks sz la h) : CtI 1 mX10_rack [.ref 0, .int r, .int kd, .int n] h (okx (raW r kd n) h (fun v g => (0 ≤ n → v = 1 ∧ rkI (upd ks r.toNatClampNeg kd) (upd sz r.toNatClampNeg n) (raZ la r.toNatClampNeg 9) g ∧ Fr rkC h g) ∧ (¬ 0 ≤ n → v = -14 ∧ g = h))) := by
  refine e_X10_rack (pc (ct_noRack r h) ⟨fun c => ?_, fun c => rfx (ite_f (nb_1.mp c)) isW_1 (by decide)⟩)
  have c := nb_0.mp c
  have ew : raW r kd n = if inR kd 0 5 then (if n ≤ 9 then 0 else -6) else -2 := if_pos c
  obtain ⟨t, et, ht⟩ := isR_nI c
  subst et
  have e6 := inR_lt (n := 6) (by decide) kd
  rw [show nI 6 - 1 = 5 by decide] at e6
  refine ⟨fun c1 => rfx (ew.trans (ite_f (in_l (lt0 c1)))) isW_2 (by decide), fun c1 => ⟨fun c2 => ?_, fun c2 => rfx (ew.trans (ite_f ?_)) isW_2 (by decide)⟩⟩
  · have ck : inR kd 0 5 = true := by
      rw [e6]
      exact decide_eq_true ⟨c1, c2⟩
    rw [if_pos ck] at ew
    refine ⟨fun c3 => ⟨fun c4 => ⟨vp_in_nI (by omega) (by omega), ?_⟩, fun c4 => okx_t (ew.trans (if_pos c3)) ⟨fun y => absurd y c4, fun _ => ⟨rfl, rfl⟩⟩⟩, fun c3 => rfx (ew.trans (if_neg c3)) isW_6 (by decide)⟩
    rw [nI_clamp (show t < 2 ^ 31 by omega)]
    refine ⟨_, ct_makeR ht kd n h, fun h15 q => okx_t (ew.trans (if_pos c3)) ⟨fun _ => ⟨rfl, fun r hr => ?_, ?_⟩, fun y => absurd c4 y⟩⟩
    · obtain ⟨q1, q2, q3, q4⟩ := q
      by_cases y : r = t
      · subst y
        refine Or.inr ⟨?_, ?_, ?_, ?_, fun j hj => Or.inl ⟨?_, q3 j hj⟩⟩
        · rw [upd_at]
          exact in05 ck
        · rw [upd_at]
          obtain ⟨m, hm, em⟩ := nI_of2 (M := 9) (n := 9) (by decide) (Int32.not_lt.mpr c4) c3
          exact ⟨m, hm, em⟩
        · rw [upd_at]
          exact q1
        · rw [upd_at]
          exact q2
        · unfold raZ
          rw [if_pos (by omega)]
      · refine (R r hr).fr (upd_ne _ _ y) (upd_ne _ _ y) (fun i h1 h2 => ?_) q4 (fun k h1 h2 hk => ?_)
        · unfold raZ
          rw [if_neg (by omega)]
        · simp only [List.mem_cons, List.not_mem_nil, or_false] at hk
          omega
    · refine q.2.2.2.mono (fun k hk => rkC_in ?_ ?_)
      · simp only [List.mem_cons, List.not_mem_nil, or_false] at hk
        omega
      · simp only [List.mem_cons, List.not_mem_nil, or_false] at hk
        omega
  · rw [e6]
    exact decide_eq_false (fun y => c2 y.2)
theorem ct_noPlace {r k : Nat} (hr : r < 3) (hk : k ≤ 9) (i : Int32) (h : Hp) (hs : h.1 (77 + 12 * r) 3 = nI k) : CtI 0 mX6_noPlace [.ref (77 + 12 * r), .int i] h (pq (bI (!inR i 0 (nI k - 1))) h) := by
  have e := inR_lt (n := k) (by omega) i
  rw [e]
  refine e_X6_noPlace (isSh_r r hr) ?_
  rw [hs]
  refine ⟨fun c => ⟨?_, rfl⟩, fun c => ⟨fun c2 => ⟨?_, rfl⟩, fun c2 => ⟨fun c3 => ⟨?_, rfl⟩, fun c3 => absurd ?_ c3⟩⟩⟩
  · rw [decide_eq_false (fun y => y.1 c)]
    rfl
  · rw [decide_eq_false (fun y => absurd y.2 (Int32.not_lt.mpr c2))]
    rfl
  · rw [decide_eq_true ⟨c, Int32.not_le.mp c2⟩]
    rfl
  · obtain ⟨j, hj, ej⟩ := nI_of c
    subst ej
    have := (nI_ltI (by omega) (by omega)).mp (Int32.not_le.mp c2)
    exact nI_lt (b := 9) (by omega) (by omega)
theorem kun_un : ∀ a, a < 6 → ∀ b, b < 6 → kun 6 (nI a) (nI b) = unB (nI b) 3 (nI a) := by decide +kernel
/-- the places with one laid -/
def rcL (la s : Nat → Int32) (r : Nat) (i p : Int32) : Nat → Int32 := upd (upd (upd la (3 * (9 * r + i.toNatClampNeg)) (rcX s p 0 (-9))) (3 * (9 * r + i.toNatClampNeg) + 1) (rcX s p 1 0)) (3 * (9 * r + i.toNatClampNeg) + 2) (rcX s p 6 0)
theorem rcL_ne {la s : Nat → Int32} {r : Nat} {i p : Int32} {n : Nat} (h : n < 3 * (9 * r + i.toNatClampNeg) ∨ 3 * (9 * r + i.toNatClampNeg) + 3 ≤ n) : rcL la s r i p n = la n := by
  unfold rcL
  rw [upd_ne _ _ (by omega), upd_ne _ _ (by omega), upd_ne _ _ (by omega)]
theorem rcL_at (la s : Nat → Int32) (r : Nat) (i p : Int32) : rcL la s r i p (3 * (9 * r + i.toNatClampNeg)) = rcX s p 0 (-9) ∧ rcL la s r i p (3 * (9 * r + i.toNatClampNeg) + 1) = rcX s p 1 0 ∧ rcL la s r i p (3 * (9 * r + i.toNatClampNeg) + 2) = rcX s p 6 0 := by
  unfold rcL
  refine ⟨?_, ?_, upd_at ..⟩
  · rw [upd_ne _ _ (by omega), upd_ne _ _ (by omega), upd_at]
  · rw [upd_ne _ _ (by omega), upd_at]
/-- one place laid anew -/
theorem rk_lay {ks sz la s : Nat → Int32} {h g : Hp} (R : rkI ks sz la h) {t j : Nat} (ht : t < 3) (hj : j < 9) (hk : ¬ ks t = -9) (p : Int32) (f : Fr [79 + 12 * t, 80 + 12 * t + j] h g) (fj : ∀ q, q ≠ j → g.1 (79 + 12 * t) q = h.1 (79 + 12 * t) q) (n : pcI (rcL la s t (nI j) p) t j g) : rkI ks sz (rcL la s t (nI j) p) g := fun r hr => by
  have cj : (nI j).toNatClampNeg = j := nI_clamp (by omega)
  by_cases y : r = t
  · subst y
    rcases R r hr with a | ⟨a1, a2, a3, a4, a5⟩
    · exact absurd a.1 hk
    · have fm : ∀ k, k ≠ 79 + 12 * r → k ≠ 80 + 12 * r + j → g.1 k = h.1 k := fun k h1 h2 => f.1 k (fun hx => by
        simp only [List.mem_cons, List.not_mem_nil, or_false] at hx
        omega)
      refine Or.inr ⟨a1, a2, ?_, ?_, fun q hq => ?_⟩
      · rw [fm _ (by omega) (by omega)]
        exact a3
      · rw [fm _ (by omega) (by omega)]
        exact a4
      · by_cases z : q = j
        · rw [z]
          exact n
        · refine (a5 q hq).c (fun w hw => rcL_ne ?_) (fj q z) (fun w _ => ?_)
          · rw [cj]
            omega
          · rw [fm _ (by omega) (by omega)]
  · refine (R r hr).fr rfl rfl (fun i h1 h2 => rcL_ne ?_) f (fun k h1 h2 hx => ?_)
    · rw [cj]
      omega
    · simp only [List.mem_cons, List.not_mem_nil, or_false] at hx
      omega
set_option maxHeartbeats 1000000 in
theorem ct_racksC (r i p : Int32) (h : Hp) (s : Nat → Int32) (a : sC 1 s h) (I : InS s) (ks sz la : Nat → Int32) (R : rkI ks sz la h) : CtI 2 mX10_racks [.ref 0, .int r, .int i, .int p] h (okx (rcW s r p) h (fun v g => v = rcV s ks sz r.toNatClampNeg i p ∧ Fr rkC h g ∧ rkI ks sz (if rcV s ks sz r.toNatClampNeg i p = 1 then rcL la s r.toNatClampNeg i p else la) g)) := by
  have hP := I.o.hP
  have s29 : rcW s r p = 0 → inR r 0 2 = true → (¬ p = -1 → inR p 0 (s 3 - 1) = true) → GoI 2 mX10_racks 29 [(0, .ref 0), (1, .int r), (2, .int i), (3, .int p)] [] h (okx (rcW s r p) h (fun v g => v = rcV s ks sz r.toNatClampNeg i p ∧ Fr rkC h g ∧ rkI ks sz (if rcV s ks sz r.toNatClampNeg i p = 1 then rcL la s r.toNatClampNeg i p else la) g)) := by
    intro ew cr cp
    obtain ⟨t, et, ht⟩ := isR_nI cr
    subst et
    rw [nI_clamp (show t < 2 ^ 31 by omega)]
    have sz' := R.sz ht
    refine b_X10_racks_29 ⟨vp_in_nI (by omega) (by omega), ?_⟩
    rw [nI_clamp (show t < 2 ^ 31 by omega)]
    refine ⟨fun c1 => ?_, fun c1 => okx_t ew ?_⟩
    · obtain ⟨n9, ⟨kk, hkk, ekk⟩, ⟨N, hN, eN⟩, e2, e3, pl⟩ := sz'.1 c1
      refine pc (ct_noPlace ht hN i h (e3.trans eN)) ⟨fun c2 => ?_, fun c2 => okx_t ew ?_⟩
      · have ci := nb_0.mp c2
        have rw0 : rwV ks sz t i = 0 := by
          unfold rwV
          rw [if_neg n9, eN, if_pos ci]
        obtain ⟨j, ej, hj⟩ := inR_nIw (show N ≤ 20 by omega) ci
        subst ej
        have cj : (nI j).toNatClampNeg = j := nI_clamp (by omega)
        rw [cj]
        have v9 : vp_in (nI j) 9 := vp_in_nI (by omega) (by omega)
        obtain ⟨l0, l1, l2⟩ := rcL_at la s t (nI j) p
        rw [cj] at l0 l1 l2
        refine ⟨fun c3 => ?_, fun c3 => ⟨v9, fun g23 e23 => okx_t ew ?_⟩⟩
        · obtain ⟨q, eq, hq⟩ := isP_nI I.o (cp c3)
          subst eq
          have cq : (nI q).toNatClampNeg = q := nI_clamp (by omega)
          rw [cq]
          refine ⟨vp_in_nI (by omega) (by omega), pc (ct_isUnder (isPl_6 q (by omega)) _ h) ?_⟩
          obtain ⟨pkk, hpk, epk⟩ := (I.f hq).1
          have e0 := (a.e (p := q) (by omega)) 0 (by decide)
          rw [e0, e2, epk, ekk, kun_un pkk hpk kk hkk]
          refine ⟨fun c4 => ⟨v9, vp_in_nI (by omega) (by omega), ?_⟩, fun c4 => okx_t ew ?_⟩
          · have rv : rcV s ks sz t (nI j) (nI q) = 1 := by
              rw [rcV, if_pos rw0, if_neg c3, cq, epk, ekk, if_pos (bI_t c4)]
            rw [rv, if_pos rfl]
            have pk := (isSh_r t ht).2.2.2.2.2 j (by omega)
            rw [show 77 + 12 * t + 3 + j = 80 + 12 * t + j by omega] at pk ⊢
            refine ⟨_, ct_copyPl pk.2 (isPl_6 q (by omega)) (by omega) h, fun h18 c => ⟨v9, fun g21 e21 => okx_t ew ⟨rfl, ?_, ?_⟩⟩⟩
            · obtain ⟨f18, -⟩ := c
              rw [show 77 + 12 * t + 2 = 79 + 12 * t by omega] at e21
              rw [e21]
              exact (f18.mono (fun k hk => rkC_in (by rw [List.mem_singleton.mp hk]; omega) (by rw [List.mem_singleton.mp hk]; omega))).tr (Fr.ui (rkC_in (by omega) (by omega)))
            · obtain ⟨f18, c18⟩ := c
              rw [show 77 + 12 * t + 2 = 79 + 12 * t by omega] at e21
              have f21 : Fr [79 + 12 * t, 80 + 12 * t + j] h g21 := by
                rw [e21]
                exact (f18.mono (fun k hk => List.mem_cons_of_mem _ hk)).tr (Fr.ui (List.mem_cons_self ..))
              have x0 : ∀ w x, rcX s (nI q) w x = pfS s q w := fun w x => by rw [rcX, if_neg c3, cq]
              rw [x0] at l0 l1 l2
              refine rk_lay R ht (by omega) n9 (nI q) f21 (fun q hq => ?_) (Or.inr ⟨⟨pkk, ?_, ?_⟩, ?_, ?_, ?_, ?_⟩)
              · rw [e21, ui_nj hq, f18.1 _ (by rw [List.mem_singleton]; omega)]
              · exact hpk
              · rw [l0]
                exact epk
              · rw [e21, ui_aa]
              · rw [l0, e21, ui_ne (by omega), c18 0 (by decide)]
                exact a.f1 (by omega) (by decide)
              · rw [l1, e21, ui_ne (by omega), c18 1 (by decide)]
                exact a.f1 (by omega) (by decide)
              · rw [l2, e21, ui_ne (by omega), c18 6 (by decide)]
                exact a.f1 (by omega) (by decide)
          · have rv : rcV s ks sz t (nI j) (nI q) = -16 := by
              rw [rcV, if_pos rw0, if_neg c3, cq, epk, ekk, if_neg (noF (bI_0.mp c4))]
            rw [rv]
            exact ⟨rfl, Fr.rf, R⟩
        · have rv : rcV s ks sz t (nI j) p = 1 := by rw [rcV, if_pos rw0, if_pos c3]
          rw [rv, if_pos rfl]
          rw [show 77 + 12 * t + 2 = 79 + 12 * t by omega] at e23
          have f23 : Fr [79 + 12 * t] h g23 := by
            rw [e23]
            exact Fr.ui (List.mem_cons_self ..)
          have x0 : ∀ w x, rcX s p w x = x := fun w x => by rw [rcX, if_pos c3]
          rw [x0] at l0
          refine ⟨rfl, f23.mono (fun k hk => rkC_in (by rw [List.mem_singleton.mp hk]; omega) (by rw [List.mem_singleton.mp hk]; omega)), rk_lay R ht (by omega) n9 p (f23.mono (fun k hk => List.mem_cons.mpr (Or.inl (List.mem_singleton.mp hk)))) (fun q hq => ?_) (Or.inl ⟨l0, ?_⟩)⟩
          · rw [e23, ui_nj hq]
          · rw [e23, ui_aa]
      · have rw13 : rwV ks sz t i = -13 := by
          unfold rwV
          rw [if_neg n9, eN, if_neg (noF (nb_1.mp c2))]
        have rv : rcV s ks sz t i p = -13 := by rw [rcV, rw13, if_neg (by decide)]
        rw [rv]
        exact ⟨rfl, Fr.rf, R⟩
    · have rw11 : rwV ks sz t i = -11 := by
        unfold rwV
        rw [if_pos (sz'.2 c1)]
      have rv : rcV s ks sz t i p = -11 := by rw [rcV, rw11, if_neg (by decide)]
      rw [rv]
      exact ⟨rfl, Fr.rf, R⟩
  refine e_X10_racks (pc (ct_noRack r h) ⟨fun c => rfx (ite_f (nb_1.mp c)) isW_1 (by decide), fun c => ⟨fun c2 => s29 ?_ (nb_0.mp c) (fun y => absurd c2 y), fun c2 => pc (ct_noPlant p h s a I.o) ⟨fun c3 => s29 ?_ (nb_0.mp c) (fun _ => nb_0.mp c3), fun c3 => rfx ?_ isW_1 (by decide)⟩⟩⟩)
  · rw [rcW, if_pos (nb_0.mp c), if_pos c2]
  · rw [rcW, if_pos (nb_0.mp c), if_neg c2, if_pos (nb_0.mp c3)]
  · rw [rcW, if_pos (nb_0.mp c), if_neg c2]
    exact ite_f (nb_1.mp c3)
theorem ct_rackedC (r i x : Int32) (h : Hp) (ks sz la : Nat → Int32) (R : rkI ks sz la h) : CtI 3 mX10_racked [.ref 0, .int r, .int i, .int x] h (okx (rkW r x) h (fun v g => v = rkV ks sz la r.toNatClampNeg i x ∧ g = h)) := by
  refine e_X10_racked (pc (ct_noRack r h) ⟨fun c => ?_, fun c => rfx (ite_f (nb_1.mp c)) isW_1 (by decide)⟩)
  have c := nb_0.mp c
  have ew : rkW r x = wbS x 1 9 := if_pos c
  obtain ⟨t, et, ht⟩ := isR_nI c
  subst et
  rw [nI_clamp (show t < 2 ^ 31 by omega), ew]
  have sz' := R.sz ht
  refine ⟨fun d1 => ⟨fun d2 => ⟨vp_in_nI (by omega) (by omega), fun c1 => ?_, fun c1 => okx_t (wb_i d1 d2) ⟨?_, rfl⟩⟩, fun d2 => rfx (wb_h d1 d2) isW_6 (by decide)⟩, fun d1 => rfx (wb_l d1) isW_4 (by decide)⟩
  · have w0 := wb_i d1 d2
    obtain ⟨n9, -, ⟨N, hN, eN⟩, -, e3, pl⟩ := sz'.1 c1
    refine pc (ct_noPlace ht hN i h (e3.trans eN)) ⟨fun c2 => ?_, fun c2 => okx_t w0 ⟨?_, rfl⟩⟩
    · have ci := nb_0.mp c2
      have rw0 : rwV ks sz t i = 0 := by
        unfold rwV
        rw [if_neg n9, eN, if_pos ci]
      obtain ⟨j, ej, hj⟩ := inR_nIw (show N ≤ 20 by omega) ci
      subst ej
      have cj : (nI j).toNatClampNeg = j := nI_clamp (by omega)
      have v9 : vp_in (nI j) 9 := vp_in_nI (by omega) (by omega)
      have rv : rkV ks sz la t (nI j) x = if la (3 * (9 * t + j)) = -9 then -9 else stS (la (3 * (9 * t + j))) (la (3 * (9 * t + j) + 1)) (la (3 * (9 * t + j) + 2)) x := by rw [rkV, if_pos rw0, cj]
      rw [rv, cj, show 77 + 12 * t + 2 = 79 + 12 * t by omega, show 77 + 12 * t + 3 + j = 80 + 12 * t + j by omega]
      have pk := (isSh_r t ht).2.2.2.2.2 j (by omega)
      rw [show 77 + 12 * t + 3 + j = 80 + 12 * t + j by omega] at pk
      rcases pl j (by omega) with ⟨a1, a2⟩ | ⟨⟨k, hk, ek⟩, a2, a3, a4, a5⟩
      · rw [a2, if_pos a1]
        exact ⟨v9, fun _ => okx_t w0 ⟨rfl, rfl⟩, fun y => absurd rfl y⟩
      · rw [a2]
        refine ⟨v9, fun y => absurd y (by decide), fun _ => ⟨v9, pc (ct_startBehind pk.2 x h) (okx_t w0 ⟨?_, rfl⟩)⟩⟩
        rw [a3, a4, a5, ek, stC_eq _ _ _ k hk, if_neg (m9_pos (by omega))]
    · have rw13 : rwV ks sz t i = -13 := by
        unfold rwV
        rw [if_neg n9, eN, if_neg (noF (nb_1.mp c2))]
      rw [rkV, rw13, if_neg (by decide)]
  · have rw11 : rwV ks sz t i = -11 := by
      unfold rwV
      rw [if_pos (sz'.2 c1)]
    rw [rkV, rw11, if_neg (by decide)]
/-! one rack like another -/
theorem ui_self (h : Hp) (k i : Nat) : ui h k i (h.1 k i) = h := by
  refine Prod.ext ?_ rfl
  funext a
  funext j
  rw [ui_get]
  by_cases y : a = k ∧ j = i
  · rw [if_pos y, y.1, y.2]
  · rw [if_neg y]
theorem ct_copySelf {a : Nat} (ha : isPl a) (h : Hp) : CtV 0 mX3_copyFrom [.ref a, .ref a] h (fun h' => h' = h) := by
  refine e_X3_copyFrom ha ha (fun g1 e1 g2 e2 g3 e3 g4 e4 g5 e5 g6 e6 g7 e7 g8 e8 g9 e9 g10 e10 => ?_)
  rw [ui_self] at e1 e2 e3 e4 e5 e6 e7 e8 e9 e10
  rw [e10, e9, e8, e7, e6, e5, e4, e3, e2, e1]
theorem ct_copyR {r x : Nat} (hr : r < 3) (hx : x < 3) (h : Hp) (fl : ∀ j, j < 9 → h.1 (79 + 12 * x) j &&& 1 = h.1 (79 + 12 * x) j) : CtV 1 mX6_copyFrom [.ref (77 + 12 * r), .ref (77 + 12 * x)] h (fun g => g.1 (77 + 12 * r) 2 = h.1 (77 + 12 * x) 2 ∧ g.1 (77 + 12 * r) 3 = h.1 (77 + 12 * x) 3 ∧ (∀ j, j < 9 → g.1 (79 + 12 * r) j = h.1 (79 + 12 * x) j ∧ ∀ w, w < 10 → g.1 (80 + 12 * r + j) w = h.1 (80 + 12 * x + j) w) ∧ (∀ k, (k < 77 + 12 * r ∨ 89 + 12 * r ≤ k) → g.1 k = h.1 k) ∧ g.2 = h.2) := by
  have s1 := isSh_r r hr
  have s2 := isSh_r x hx
  refine e_X6_copyFrom s1 s2 (fun g1 e1 g2 e2 => ?_)
  by_cases y : r = x
  · subst y
    rw [ui_self] at e1
    subst e1
    rw [ui_self] at e2
    subst e2
    have lp : ∀ m j : Nat, m + j = 9 → GoV 1 mX6_copyFrom 18 [(0, .ref (77 + 12 * r)), (1, .ref (77 + 12 * r)), (2, .int (nI j))] [] g2 (fun g => g.1 (77 + 12 * r) 2 = g2.1 (77 + 12 * r) 2 ∧ g.1 (77 + 12 * r) 3 = g2.1 (77 + 12 * r) 3 ∧ (∀ j, j < 9 → g.1 (79 + 12 * r) j = g2.1 (79 + 12 * r) j ∧ ∀ w, w < 10 → g.1 (80 + 12 * r + j) w = g2.1 (80 + 12 * r + j) w) ∧ (∀ k, (k < 77 + 12 * r ∨ 89 + 12 * r ≤ k) → g.1 k = g2.1 k) ∧ g.2 = g2.2) := by
      intro m
      induction m with
      | zero =>
        intro j hj
        have hj : j = 9 := by omega
        subst hj
        exact b_X6_copyFrom_18 s1 s1 ⟨fun _ => ⟨rfl, rfl, fun j _ => ⟨rfl, fun _ _ => rfl⟩, fun _ _ => rfl, rfl⟩, fun c => absurd (nI_le (a := 9) (by omega) (by omega)) c⟩
      | succ m ih =>
        intro j hj
        have v9 : vp_in (nI j) 9 := vp_in_nI (by omega) (by omega)
        refine b_X6_copyFrom_18 s1 s1 ⟨fun c => absurd c (nI_ge (b := 9) (by omega) (by omega)), fun _ => ⟨v9, v9, ?_, fun g4 e4 => ⟨v9, v9, ?_⟩⟩⟩
        · rw [nI_clamp (show j < 2 ^ 31 by omega), show 77 + 12 * r + 2 = 79 + 12 * r by omega]
          exact fl j (by omega)
        · rw [ui_self] at e4
          subst e4
          rw [nI_clamp (show j < 2 ^ 31 by omega), nI_1]
          refine ⟨_, ct_copySelf (s1.2.2.2.2.2 j (by omega)).2 g4, fun h10 q => ?_⟩
          subst q
          exact ih (j + 1) (by omega)
    exact lp 9 0 rfl
  · have far : ∀ k, (k < 77 + 12 * r ∨ 89 + 12 * r ≤ k) → g2.1 k = h.1 k := fun k hk => by
      rw [e2, ui_ne (by omega), e1, ui_ne (by omega)]
    have lp : ∀ m j : Nat, m + j = 9 → ∀ g : Hp, g.1 (77 + 12 * r) 2 = h.1 (77 + 12 * x) 2 → g.1 (77 + 12 * r) 3 = h.1 (77 + 12 * x) 3 → (∀ q, q < j → g.1 (79 + 12 * r) q = h.1 (79 + 12 * x) q ∧ ∀ w, w < 10 → g.1 (80 + 12 * r + q) w = h.1 (80 + 12 * x + q) w) → (∀ k, (k < 77 + 12 * r ∨ 89 + 12 * r ≤ k) → g.1 k = h.1 k) → g.2 = h.2 → GoV 1 mX6_copyFrom 18 [(0, .ref (77 + 12 * r)), (1, .ref (77 + 12 * x)), (2, .int (nI j))] [] g (fun g => g.1 (77 + 12 * r) 2 = h.1 (77 + 12 * x) 2 ∧ g.1 (77 + 12 * r) 3 = h.1 (77 + 12 * x) 3 ∧ (∀ j, j < 9 → g.1 (79 + 12 * r) j = h.1 (79 + 12 * x) j ∧ ∀ w, w < 10 → g.1 (80 + 12 * r + j) w = h.1 (80 + 12 * x + j) w) ∧ (∀ k, (k < 77 + 12 * r ∨ 89 + 12 * r ≤ k) → g.1 k = h.1 k) ∧ g.2 = h.2) := by
      intro m
      induction m with
      | zero =>
        intro j hj g a1 a2 a3 a4 a5
        have hj : j = 9 := by omega
        subst hj
        exact b_X6_copyFrom_18 s1 s2 ⟨fun _ => ⟨a1, a2, a3, a4, a5⟩, fun c => absurd (nI_le (a := 9) (by omega) (by omega)) c⟩
      | succ m ih =>
        intro j hj g a1 a2 a3 a4 a5
        have v9 : vp_in (nI j) 9 := vp_in_nI (by omega) (by omega)
        have k79 : g.1 (79 + 12 * x) = h.1 (79 + 12 * x) := a4 _ (by omega)
        have k80 : g.1 (80 + 12 * x + j) = h.1 (80 + 12 * x + j) := a4 _ (by omega)
        refine b_X6_copyFrom_18 s1 s2 ⟨fun c => absurd c (nI_ge (b := 9) (by omega) (by omega)), fun _ => ⟨v9, v9, ?_, fun g4 e4 => ⟨v9, v9, ?_⟩⟩⟩
        · rw [nI_clamp (show j < 2 ^ 31 by omega), show 77 + 12 * x + 2 = 79 + 12 * x by omega, k79]
          exact fl j (by omega)
        · rw [nI_clamp (show j < 2 ^ 31 by omega), show 77 + 12 * x + 2 = 79 + 12 * x by omega, show 77 + 12 * r + 2 = 79 + 12 * r by omega, k79] at e4
          rw [nI_clamp (show j < 2 ^ 31 by omega), nI_1, show 77 + 12 * r + 3 + j = 80 + 12 * r + j by omega, show 77 + 12 * x + 3 + j = 80 + 12 * x + j by omega]
          have p1 := (s1.2.2.2.2.2 j (by omega)).2
          have p2 := (s2.2.2.2.2.2 j (by omega)).2
          rw [show 77 + 12 * r + 3 + j = 80 + 12 * r + j by omega] at p1
          rw [show 77 + 12 * x + 3 + j = 80 + 12 * x + j by omega] at p2
          refine ⟨_, ct_copyPl p1 p2 (by omega) g4, fun h10 q => ?_⟩
          obtain ⟨f10, q10⟩ := q
          have n10 : ∀ k, k ≠ 80 + 12 * r + j → k ≠ 79 + 12 * r → h10.1 k = g.1 k := fun k k1 k2 => by
            rw [f10.1 k (fun hk => k1 (List.mem_singleton.mp hk)), e4, ui_ne k2]
          refine ih (j + 1) (by omega) h10 ?_ ?_ (fun q hq => ?_) (fun k hk => ?_) ?_
          · rw [n10 _ (by omega) (by omega)]
            exact a1
          · rw [n10 _ (by omega) (by omega)]
            exact a2
          · refine ⟨?_, fun w hw => ?_⟩
            · rw [f10.1 _ (fun hk => absurd (List.mem_singleton.mp hk) (by omega)), e4, ui_get]
              by_cases z : q = j
              · rw [if_pos ⟨rfl, z⟩, z]
              · rw [if_neg (fun w => z w.2)]
                exact (a3 q (by omega)).1
            · by_cases z : q = j
              · rw [z, q10 w hw, e4, ui_ne (by omega), k80]
              · rw [n10 _ (by omega) (by omega)]
                exact (a3 q (by omega)).2 w hw
          · rw [n10 k (by omega) (by omega)]
            exact a4 k hk
          · rw [f10.2, e4]
            exact a5
    refine lp 9 0 rfl g2 ?_ ?_ (fun q hq => by omega) far ?_
    · rw [e2, ui_nj (by decide), e1, ui_aa]
    · rw [e2, ui_aa, e1, ui_ne (by omega)]
    · rw [e2, e1]
      rfl
theorem ct_likeC (r x : Int32) (h : Hp) (ks sz la : Nat → Int32) (R : rkI ks sz la h) : CtI 2 mX10_like [.ref 0, .int r, .int x] h (okx (lkW r x) h (fun v g => (ks x.toNatClampNeg = -9 → v = -11 ∧ g = h) ∧ (¬ ks x.toNatClampNeg = -9 → v = sz x.toNatClampNeg ∧ Fr rkC h g ∧ rkI (upd ks r.toNatClampNeg (ks x.toNatClampNeg)) (upd sz r.toNatClampNeg (sz x.toNatClampNeg)) (va_cpy la la (27 * x.toNatClampNeg) (27 * r.toNatClampNeg) 27) g))) := by
  refine e_X10_like (pc (ct_noRack r h) ⟨fun c => rfx (ite_f (nb_1.mp c)) isW_1 (by decide), fun c => pc (ct_noRack x h) ⟨fun c2 => ?_, fun c2 => rfx ?_ isW_1 (by decide)⟩⟩)
  · have c := nb_0.mp c
    have c2 := nb_0.mp c2
    have ew : lkW r x = 0 := by rw [lkW, if_pos c, if_pos c2]
    obtain ⟨t, et, ht⟩ := isR_nI c
    obtain ⟨q, eq, hq⟩ := isR_nI c2
    subst et
    subst eq
    rw [nI_clamp (show t < 2 ^ 31 by omega), nI_clamp (show q < 2 ^ 31 by omega)]
    have v1 : vp_in (nI t) 3 := vp_in_nI (by omega) (by omega)
    have v2 : vp_in (nI q) 3 := vp_in_nI (by omega) (by omega)
    have sz' := R.sz hq
    refine ⟨v2, fun c3 => ⟨v1, v2, ?_⟩, fun c3 => okx_t ew ⟨fun _ => ⟨rfl, rfl⟩, fun y => absurd (sz'.2 c3) y⟩⟩
    obtain ⟨n9, -, -, -, e3, pl⟩ := sz'.1 c3
    refine ⟨_, ct_copyR ht hq h (fun j hj => ?_), fun h22 g => ⟨v1, okx_t ew ⟨fun y => absurd y n9, fun _ => ?_⟩⟩⟩
    · rcases pl j hj with ⟨-, a2⟩ | ⟨-, a2, -⟩
      · rw [a2]
        decide
      · rw [a2]
        decide
    · obtain ⟨g1, g2, g3, g4, g5⟩ := g
      refine ⟨g2.trans e3, ⟨fun k hk => g4 k ?_, g5⟩, fun w hw => ?_⟩
      · by_cases y : k < 77 + 12 * t ∨ 89 + 12 * t ≤ k
        · exact y
        · exact absurd (rkC_in (k := k) (by omega) (by omega)) hk
      · by_cases y : w = t
        · subst y
          refine (R q hq).c (upd_at ..) (upd_at ..) (fun j v hj hv => ?_) ⟨g1, g2⟩ g3
          unfold va_cpy
          rw [if_pos (by omega)]
          congr 1
          omega
        · refine (R w hw).c (upd_ne _ _ y) (upd_ne _ _ y) (fun j v hj hv => ?_) ?_ (fun j hj => ?_)
          · unfold va_cpy
            rw [if_neg (by omega)]
          · rw [g4 _ (by omega)]
            exact ⟨rfl, rfl⟩
          · rw [g4 _ (by omega), g4 _ (by omega)]
            exact ⟨rfl, fun _ _ => rfl⟩
  · rw [lkW, if_pos (nb_0.mp c)]
    exact ite_f (nb_1.mp c2)
