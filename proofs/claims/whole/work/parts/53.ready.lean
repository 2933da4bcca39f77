/-! ===== the class: plants by merit ===== -/
/-- the later one comes ahead -/
def caB (mr : Int32) (f g : Nat → Int32) : Bool := if mr = 0 then decide (f 4 < g 4) else if mr = 1 then decide (g 3 < f 3) else false
theorem ct_comesAhead {a b : Nat} (ha : isPl a) (hb : isPl b) (mr : Int32) (h : Hp) : CtI 0 mX0_comesAhead [.ref a, .ref b, .int mr] h (pq (bI (caB mr (h.1 a) (h.1 b))) h) := by
  refine e_X0_comesAhead ha hb ⟨fun c => ⟨fun c2 => ⟨?_, rfl⟩, fun c2 => ⟨fun c3 => ⟨?_, rfl⟩, fun c3 => ⟨?_, rfl⟩⟩⟩, fun c => ⟨?_, rfl⟩⟩
  · rw [caB, if_neg c, if_neg c2]
    rfl
  · rw [caB, if_neg c, if_pos c2, decide_eq_false (Int32.not_lt.mpr c3)]
    rfl
  · rw [caB, if_neg c, if_pos c2, decide_eq_true (Int32.not_le.mp c3)]
    rfl
  · rw [caB, if_pos c, ite_bI', decide_eq_decide.mpr Int32.not_le]
theorem caB_c {mr : Int32} {f f' g g' : Nat → Int32} (e : plE f f') (e2 : plE g g') : caB mr f g = caB mr f' g' := by
  unfold caB
  rw [e 4 (by decide), e 3 (by decide), e2 4 (by decide), e2 3 (by decide)]
theorem caB_asym {mr : Int32} {f g : Nat → Int32} (h : caB mr f g = true) : caB mr g f = false := by
  unfold caB at h ⊢
  by_cases c : mr = 0
  · rw [if_pos c] at h ⊢
    exact decide_eq_false (fun z => Int32.lt_irrefl (Int32.lt_trans z (of_decide_eq_true h)))
  · rw [if_neg c] at h ⊢
    by_cases d : mr = 1
    · rw [if_pos d] at h ⊢
      exact decide_eq_false (fun z => Int32.lt_irrefl (Int32.lt_trans z (of_decide_eq_true h)))
    · rw [if_neg d]
theorem caB_tr {mr : Int32} {f g k : Nat → Int32} (h : caB mr f g = true) (h2 : caB mr g k = true) : caB mr f k = true := by
  unfold caB at h h2 ⊢
  by_cases c : mr = 0
  · rw [if_pos c] at h h2 ⊢
    exact decide_eq_true (Int32.lt_trans (of_decide_eq_true h) (of_decide_eq_true h2))
  · rw [if_neg c] at h h2 ⊢
    by_cases d : mr = 1
    · rw [if_pos d] at h h2 ⊢
      exact decide_eq_true (Int32.lt_trans (of_decide_eq_true h2) (of_decide_eq_true h))
    · rw [if_neg d] at h
      cases h
theorem caB_ntr {mr : Int32} {f g k : Nat → Int32} (h : caB mr f g = false) (h2 : caB mr g k = false) : caB mr f k = false := by
  unfold caB at h h2 ⊢
  by_cases c : mr = 0
  · rw [if_pos c] at h h2 ⊢
    have a := Int32.not_lt.mp (of_decide_eq_false h)
    have b := Int32.not_lt.mp (of_decide_eq_false h2)
    exact decide_eq_false (Int32.not_lt.mpr (Int32.le_trans b a))
  · rw [if_neg c] at h h2 ⊢
    by_cases d : mr = 1
    · rw [if_pos d] at h h2 ⊢
      have a := Int32.not_lt.mp (of_decide_eq_false h)
      have b := Int32.not_lt.mp (of_decide_eq_false h2)
      exact decide_eq_false (Int32.not_lt.mpr (Int32.le_trans a b))
    · rw [if_neg d]
/-- prices and highs of the first P are small -/
def plB (fs : Nat → Nat → Int32) (P : Nat) : Prop := ∀ p, p < P → (∃ a : Nat, a ≤ 60 ∧ fs p 4 = nI a) ∧ (∃ a : Nat, a ≤ 60 ∧ fs p 3 = nI a)
theorem sb_lt {a b : Nat} (ha : a ≤ 60) (hb : b ≤ 60) : (nI a - nI b < 0 ↔ nI a < nI b) ∧ (nI a - nI b = 0 ↔ (¬ nI a < nI b ∧ ¬ nI b < nI a)) := by
  have e := pk_sub_toInt (a := a) (b := b) (by omega) (by omega)
  have z : (0 : Int32).toInt = 0 := by decide
  refine ⟨?_, ?_⟩
  · rw [Int32.lt_iff_toInt_lt, e, z, nI_ltI (by omega) (by omega)]
    omega
  · rw [← Int32.toInt_inj, e, z, nI_ltI (by omega) (by omega), nI_ltI (by omega) (by omega)]
    omega
theorem by_ca {mr : Int32} {f g : Nat → Int32} (hf : (∃ a : Nat, a ≤ 60 ∧ f 4 = nI a) ∧ (∃ a : Nat, a ≤ 60 ∧ f 3 = nI a)) (hg : (∃ a : Nat, a ≤ 60 ∧ g 4 = nI a) ∧ (∃ a : Nat, a ≤ 60 ∧ g 3 = nI a)) : decide (byI mr f g < 0) = caB mr f g ∧ decide (byI mr f g = 0) = (!caB mr f g && !caB mr g f) := by
  obtain ⟨⟨a, a1, a2⟩, ⟨b, b1, b2⟩⟩ := hf
  obtain ⟨⟨c, c1, c2⟩, ⟨d, d1, d2⟩⟩ := hg
  unfold byI caB
  by_cases m : mr = 0
  · rw [if_pos m, if_pos m, if_pos m, a2, c2]
    obtain ⟨x, y⟩ := sb_lt a1 c1
    refine ⟨decide_eq_decide.mpr x, ?_⟩
    rw [decide_eq_decide.mpr y, ← decide_not, ← decide_not, ← Bool.decide_and]
  · rw [if_neg m, if_neg m, if_neg m]
    by_cases n : mr = 1
    · rw [if_pos n, if_pos n, if_pos n, b2, d2]
      obtain ⟨x, y⟩ := sb_lt d1 b1
      refine ⟨decide_eq_decide.mpr x, ?_⟩
      rw [decide_eq_decide.mpr y, ← decide_not, ← decide_not, ← Bool.decide_and]
    · rw [if_neg n, if_neg n, if_neg n]
      exact ⟨by decide, by decide⟩
theorem ah_lt {mr : Int32} {fs : Nat → Nat → Int32} {P p q : Nat} (hb : plB fs P) (hp : p < P) (hq : q < P) (h : p < q) : ahB mr fs p q = !caB mr (fs q) (fs p) := by
  obtain ⟨x, y⟩ := by_ca (mr := mr) (hb p hp) (hb q hq)
  unfold ahB
  rw [x, y, decide_eq_true h, Bool.and_true]
  cases hc : caB mr (fs q) (fs p) with
  | true =>
    rw [caB_asym hc]
    rfl
  | false => cases caB mr (fs p) (fs q) <;> rfl
theorem ah_gt {mr : Int32} {fs : Nat → Nat → Int32} {P p q : Nat} (hb : plB fs P) (hp : p < P) (hq : q < P) (h : q ≤ p) : ahB mr fs p q = (caB mr (fs p) (fs q)) := by
  obtain ⟨x, y⟩ := by_ca (mr := mr) (hb p hp) (hb q hq)
  unfold ahB
  rw [x, decide_eq_false (show ¬ p < q by omega), Bool.and_false, Bool.or_false]
theorem caB_self (mr : Int32) (f : Nat → Int32) : caB mr f f = false := by
  cases h : caB mr f f with
  | false => rfl
  | true =>
    have := caB_asym h
    rw [h] at this
    cases this
/-- put p in its place, from place j on -/
def insO (ah : Nat → Nat → Bool) (p : Nat) : Nat → (Nat → Nat) → (Nat → Nat)
  | 0, o => updN o 0 p
  | j + 1, o => if ah p (o j) then insO ah p j (updN o (j + 1) (o j)) else updN o (j + 1) p
def srO (ah : Nat → Nat → Bool) : Nat → (Nat → Nat)
  | 0 => fun _ => 0
  | p + 1 => insO ah p p (srO ah p)
/-- plants in their order, as the class lays them -/
abbrev orC (mr : Int32) (fs : Nat → Nat → Int32) (P : Nat) : Nat → Nat := srO (fun p q => caB mr (fs p) (fs q)) P
def permB (P : Nat) (o : Nat → Nat) : Prop := (∀ i, i < P → o i < P) ∧ (∀ i j, i < P → j < P → o i = o j → i = j) ∧ ∀ p, p < P → ∃ k, k < P ∧ o k = p
theorem ord3 {mr : Int32} {fs : Nat → Nat → Int32} (hb : plB fs 3) : ∃ x y z : Nat, (orC mr fs 3 0 = x ∧ orC mr fs 3 1 = y ∧ orC mr fs 3 2 = z) ∧ (bmF mr fs 3 0 = x ∧ bmF mr fs 3 1 = y ∧ bmF mr fs 3 2 = z) ∧ x < 3 ∧ y < 3 ∧ z < 3 ∧ x ≠ y ∧ x ≠ z ∧ y ≠ z := by
  have a01 := ah_lt (mr := mr) hb (p := 0) (q := 1) (by decide) (by decide) (by decide)
  have a02 := ah_lt (mr := mr) hb (p := 0) (q := 2) (by decide) (by decide) (by decide)
  have a12 := ah_lt (mr := mr) hb (p := 1) (q := 2) (by decide) (by decide) (by decide)
  have a10 := ah_gt (mr := mr) hb (p := 1) (q := 0) (by decide) (by decide) (by decide)
  have a20 := ah_gt (mr := mr) hb (p := 2) (q := 0) (by decide) (by decide) (by decide)
  have a21 := ah_gt (mr := mr) hb (p := 2) (q := 1) (by decide) (by decide) (by decide)
  have a00 : ahB mr fs 0 0 = false := (ah_gt hb (by decide) (by decide) (by decide)).trans (caB_self _ _)
  have a11 : ahB mr fs 1 1 = false := (ah_gt hb (by decide) (by decide) (by decide)).trans (caB_self _ _)
  have a22 : ahB mr fs 2 2 = false := (ah_gt hb (by decide) (by decide) (by decide)).trans (caB_self _ _)
  have t1 : caB mr (fs 2) (fs 1) = true → caB mr (fs 1) (fs 0) = true → caB mr (fs 2) (fs 0) = true := caB_tr
  have t2 : caB mr (fs 2) (fs 1) = false → caB mr (fs 1) (fs 0) = false → caB mr (fs 2) (fs 0) = false := caB_ntr
  cases h10 : caB mr (fs 1) (fs 0) <;> cases h20 : caB mr (fs 2) (fs 0) <;> cases h21 : caB mr (fs 2) (fs 1) <;> rw [h10] at a01 a10 t1 t2 <;> rw [h20] at a02 a20 t1 t2 <;> rw [h21] at a12 a21 t1 t2
  · refine ⟨0, 1, 2, ⟨?_, ?_, ?_⟩, ⟨?_, ?_, ?_⟩, by decide, by decide, by decide, by decide, by decide, by decide⟩ <;> simp [orC, srO, insO, updN, bmF, bmR, cntA, *]
  · refine ⟨0, 2, 1, ⟨?_, ?_, ?_⟩, ⟨?_, ?_, ?_⟩, by decide, by decide, by decide, by decide, by decide, by decide⟩ <;> simp [orC, srO, insO, updN, bmF, bmR, cntA, *]
  · exact absurd (t2 rfl rfl) (by decide)
  · refine ⟨2, 0, 1, ⟨?_, ?_, ?_⟩, ⟨?_, ?_, ?_⟩, by decide, by decide, by decide, by decide, by decide, by decide⟩ <;> simp [orC, srO, insO, updN, bmF, bmR, cntA, *]
  · refine ⟨1, 0, 2, ⟨?_, ?_, ?_⟩, ⟨?_, ?_, ?_⟩, by decide, by decide, by decide, by decide, by decide, by decide⟩ <;> simp [orC, srO, insO, updN, bmF, bmR, cntA, *]
  · exact absurd (t1 rfl rfl) (by decide)
  · refine ⟨1, 2, 0, ⟨?_, ?_, ?_⟩, ⟨?_, ?_, ?_⟩, by decide, by decide, by decide, by decide, by decide, by decide⟩ <;> simp [orC, srO, insO, updN, bmF, bmR, cntA, *]
  · refine ⟨2, 1, 0, ⟨?_, ?_, ?_⟩, ⟨?_, ?_, ?_⟩, by decide, by decide, by decide, by decide, by decide, by decide⟩ <;> simp [orC, srO, insO, updN, bmF, bmR, cntA, *]
theorem ord2 {mr : Int32} {fs : Nat → Nat → Int32} (hb : plB fs 2) : ∃ x y : Nat, (orC mr fs 2 0 = x ∧ orC mr fs 2 1 = y) ∧ (bmF mr fs 2 0 = x ∧ bmF mr fs 2 1 = y) ∧ x < 2 ∧ y < 2 ∧ x ≠ y := by
  have a01 := ah_lt (mr := mr) hb (p := 0) (q := 1) (by decide) (by decide) (by decide)
  have a10 := ah_gt (mr := mr) hb (p := 1) (q := 0) (by decide) (by decide) (by decide)
  have a00 : ahB mr fs 0 0 = false := (ah_gt hb (by decide) (by decide) (by decide)).trans (caB_self _ _)
  have a11 : ahB mr fs 1 1 = false := (ah_gt hb (by decide) (by decide) (by decide)).trans (caB_self _ _)
  cases h10 : caB mr (fs 1) (fs 0) <;> rw [h10] at a01 a10
  · refine ⟨0, 1, ⟨?_, ?_⟩, ⟨?_, ?_⟩, by decide, by decide, by decide⟩ <;> simp [orC, srO, insO, updN, bmF, bmR, cntA, *]
  · refine ⟨1, 0, ⟨?_, ?_⟩, ⟨?_, ?_⟩, by decide, by decide, by decide⟩ <;> simp [orC, srO, insO, updN, bmF, bmR, cntA, *]
theorem ord1 {mr : Int32} {fs : Nat → Nat → Int32} (hb : plB fs 1) : orC mr fs 1 0 = 0 ∧ bmF mr fs 1 0 = 0 := by
  have a00 : ahB mr fs 0 0 = false := (ah_gt hb (by decide) (by decide) (by decide)).trans (caB_self _ _)
  constructor <;> simp [orC, srO, insO, updN, bmF, bmR, cntA, *]
theorem bm_ord {mr : Int32} {fs : Nat → Nat → Int32} : ∀ {P : Nat}, P ≤ 3 → plB fs P → (∀ i, i < P → orC mr fs P i = bmF mr fs P i) ∧ permB P (bmF mr fs P)
  | 0, _, _ => ⟨fun i hi => by omega, fun i hi => by omega, fun i j hi => by omega, fun p hp => by omega⟩
  | 1, _, hb => by
    obtain ⟨e1, e2⟩ := ord1 (mr := mr) hb
    refine ⟨fun i hi => ?_, fun i hi => ?_, fun i j hi hj _ => by omega, fun p hp => ⟨0, by decide, by omega⟩⟩
    · rw [show i = 0 by omega, e1, e2]
    · rw [show i = 0 by omega, e2]
      decide
  | 2, _, hb => by
    obtain ⟨x, y, ⟨e1, e2⟩, ⟨f1, f2⟩, hx, hy, n⟩ := ord2 (mr := mr) hb
    have two : ∀ i, i < 2 → i = 0 ∨ i = 1 := fun i hi => by omega
    refine ⟨fun i hi => ?_, fun i hi => ?_, fun i j hi hj e => ?_, fun p hp => ?_⟩
    · rcases two i hi with r | r <;> subst r
      · rw [e1, f1]
      · rw [e2, f2]
    · rcases two i hi with r | r <;> subst r
      · rw [f1]
        exact hx
      · rw [f2]
        exact hy
    · rcases two i hi with r | r <;> subst r <;> rcases two j hj with r | r <;> subst r
      · rfl
      · rw [f1, f2] at e
        exact absurd e n
      · rw [f1, f2] at e
        exact absurd e.symm n
      · rfl
    · by_cases c : p = x
      · exact ⟨0, by decide, by rw [f1, c]⟩
      · exact ⟨1, by decide, by rw [f2]; omega⟩
  | 3, _, hb => by
    obtain ⟨x, y, z, ⟨e1, e2, e3⟩, ⟨f1, f2, f3⟩, hx, hy, hz, n1, n2, n3⟩ := ord3 (mr := mr) hb
    have tri : ∀ i, i < 3 → i = 0 ∨ i = 1 ∨ i = 2 := fun i hi => by omega
    refine ⟨fun i hi => ?_, fun i hi => ?_, fun i j hi hj e => ?_, fun p hp => ?_⟩
    · rcases tri i hi with r | r | r <;> subst r
      · rw [e1, f1]
      · rw [e2, f2]
      · rw [e3, f3]
    · rcases tri i hi with r | r | r <;> subst r
      · rw [f1]
        exact hx
      · rw [f2]
        exact hy
      · rw [f3]
        exact hz
    · rcases tri i hi with r | r | r <;> subst r <;> rcases tri j hj with r | r | r <;> subst r <;> first | rfl | (simp only [f1, f2, f3] at e; omega)
    · by_cases c : p = x
      · exact ⟨0, by decide, by rw [f1, c]⟩
      · by_cases c2 : p = y
        · exact ⟨1, by decide, by rw [f2, c2]⟩
        · exact ⟨2, by decide, by rw [f3]; omega⟩
  | n + 4, h, _ => by omega
theorem InL.b {dm rm : Nat} {s : Nat → Int32} (i : InL dm rm s) {P : Nat} (hP : P ≤ nP s) : plB (pfS s) P := fun p hp => by
  obtain ⟨-, -, ⟨a, b, h1, h2, h3, h4, h5⟩, ⟨k, k1, k2⟩, -⟩ := i.f (p := p) (by omega)
  exact ⟨⟨k, by omega, k2⟩, ⟨b, by omega, h5⟩⟩
/-! ===== the class: the dispatch made ready ===== -/
def dcs : List Nat := [28, 29, 30, 31, 32, 33, 34]
/-- the dispatch holds the plants of row s -/
def dpI (s : Nat → Int32) (h : Hp) : Prop := h.1 28 7 = nI (nP s) ∧ (∀ q, q < nP s → h.1 30 q = lsS (pfS s q) ∧ h.1 31 q = msS (pfS s q) false ∧ h.1 32 q = msS (pfS s q) true ∧ h.1 33 q = pfS s q 4 ∧ h.1 34 q = pfS s q 5) ∧ ∀ i, i < nP s → h.1 29 i = nI (bmF (s 1) (pfS s) (nP s) i)
theorem dpI.fr {s : Nat → Int32} {X : List Nat} {h g : Hp} (a : dpI s h) (f : Fr X h g) (hx : ∀ k, k ∈ dcs → k ∉ X) : dpI s g := by
  obtain ⟨a1, a2, a3⟩ := a
  refine ⟨?_, fun q hq => ?_, fun i hi => ?_⟩
  · rw [f.1 28 (hx _ (by decide))]
    exact a1
  · rw [f.1 30 (hx _ (by decide)), f.1 31 (hx _ (by decide)), f.1 32 (hx _ (by decide)), f.1 33 (hx _ (by decide)), f.1 34 (hx _ (by decide))]
    exact a2 q hq
  · rw [f.1 29 (hx _ (by decide))]
    exact a3 i hi
set_option maxHeartbeats 4000000 in
theorem ct_ready {dm rm : Nat} (h : Hp) (s : Nat → Int32) (a : sC 1 s h) (i : InL dm rm s) : CtV 2 mX0_ready [.ref 28, .ref 1] h (fun g => dpI s g ∧ Fr dcs h g) := by
  have hP := i.o.hP
  have dj : ∀ k, k ∈ cS 1 → k ∉ dcs := by decide
  obtain ⟨ho, hperm⟩ := bm_ord (mr := s 1) hP (i.b (Nat.le_refl _))
  have lp : ∀ n p : Nat, n + p = nP s → ∀ g : Hp, Fr dcs h g → g.1 28 7 = nI (nP s) → (∀ q, q < p → g.1 30 q = lsS (pfS s q) ∧ g.1 31 q = msS (pfS s q) false ∧ g.1 32 q = msS (pfS s q) true ∧ g.1 33 q = pfS s q 4 ∧ g.1 34 q = pfS s q 5) → (∀ j, j < p → g.1 29 j = nI (orC (s 1) (pfS s) p j) ∧ orC (s 1) (pfS s) p j < p) → GoV 2 mX0_ready 10 [(0, .ref 28), (1, .ref 1), (2, .int (nI p))] [] g (fun g => dpI s g ∧ Fr dcs h g) := by
    intro n
    induction n with
    | zero =>
      intro p hp g f m q5 od
      have hp : p = nP s := by omega
      subst hp
      refine b_X0_ready_10 ⟨fun _ => ⟨⟨m, q5, fun j hj => ?_⟩, f⟩, fun c => absurd ?_ c⟩
      · rw [(od j hj).1, ho j hj]
      · rw [m]
        exact nI_le (by omega) (by omega)
    | succ n ih =>
      intro p hp g f m q5 od
      have vi : vp_in (nI p) 3 := vp_in_nI (by omega) (by omega)
      have cp : (nI p).toNatClampNeg = p := nI_clamp (by omega)
      refine b_X0_ready_10 ⟨fun c => absurd c ?_, fun _ => ?_⟩
      · rw [m]
        exact nI_ge (by omega) (by omega)
      · rw [cp]
        refine ⟨vi, pc (ct_leastC g s (a.fr f dj) i (by omega)) ⟨vi, fun g8 e8 => ?_⟩⟩
        have f8 : Fr dcs h g8 := by
          rw [e8]
          exact f.tr (Fr.ui (by decide))
        refine pc (ct_mostC false g8 s (a.fr f8 dj) i (by omega)) ⟨vi, fun g15 e15 => ?_⟩
        have f15 : Fr dcs h g15 := by
          rw [e15]
          exact f8.tr (Fr.ui (by decide))
        refine pc (ct_mostC true g15 s (a.fr f15 dj) i (by omega)) ⟨vi, fun g22 e22 => ⟨vi, fun g24 e24 => ⟨vi, fun g26 e26 => ?_⟩⟩⟩
        have f22 : Fr dcs h g22 := by
          rw [e22]
          exact f15.tr (Fr.ui (by decide))
        have f24 : Fr dcs h g24 := by
          rw [e24]
          exact f22.tr (Fr.ui (by decide))
        have f26 : Fr dcs h g26 := by
          rw [e26]
          exact f24.tr (Fr.ui (by decide))
        rw [(a.fr f22 dj).f1 (by omega) (by decide)] at e24
        rw [(a.fr f24 dj).f1 (by omega) (by decide)] at e26
        have m26 : g26.1 28 7 = nI (nP s) := by
          rw [e26, ui_ne (by decide), e24, ui_ne (by decide), e22, ui_ne (by decide), e15, ui_ne (by decide), e8, ui_ne (by decide)]
          exact m
        have o26 : ∀ j, j < p → g26.1 29 j = nI (orC (s 1) (pfS s) p j) ∧ orC (s 1) (pfS s) p j < p := fun j hj => by
          rw [e26, ui_ne (by decide), e24, ui_ne (by decide), e22, ui_ne (by decide), e15, ui_ne (by decide), e8, ui_ne (by decide)]
          exact od j hj
        have q26 : ∀ q, q < p + 1 → g26.1 30 q = lsS (pfS s q) ∧ g26.1 31 q = msS (pfS s q) false ∧ g26.1 32 q = msS (pfS s q) true ∧ g26.1 33 q = pfS s q 4 ∧ g26.1 34 q = pfS s q 5 := fun q hq => by
          by_cases y : q = p
          · subst y
            refine ⟨?_, ?_, ?_, ?_, ?_⟩
            · rw [e26, ui_ne (by decide), e24, ui_ne (by decide), e22, ui_ne (by decide), e15, ui_ne (by decide), e8, ui_aa]
            · rw [e26, ui_ne (by decide), e24, ui_ne (by decide), e22, ui_ne (by decide), e15, ui_aa]
            · rw [e26, ui_ne (by decide), e24, ui_ne (by decide), e22, ui_aa]
            · rw [e26, ui_ne (by decide), e24, ui_aa]
            · rw [e26, ui_aa]
          · have k := q5 q (by omega)
            have w : ∀ x, g26.1 x q = g.1 x q := fun x => by rw [e26, ui_nj y, e24, ui_nj y, e22, ui_nj y, e15, ui_nj y, e8, ui_nj y]
            rw [w 30, w 31, w 32, w 33, w 34]
            exact k
        have s132 : ∀ (j : Nat) (o : Nat → Nat) (g2 : Hp), j ≤ p → Fr dcs h g2 → g2.1 28 7 = nI (nP s) → (∀ q, q < p + 1 → g2.1 30 q = lsS (pfS s q) ∧ g2.1 31 q = msS (pfS s q) false ∧ g2.1 32 q = msS (pfS s q) true ∧ g2.1 33 q = pfS s q 4 ∧ g2.1 34 q = pfS s q 5) → (∀ k, k ≤ p → k ≠ j → g2.1 29 k = nI (o k) ∧ o k < p) → orC (s 1) (pfS s) (p + 1) = updN o j p → GoV 2 mX0_ready 132 [(0, .ref 28), (1, .ref 1), (2, .int (nI p)), (4, .int (nI j))] [] g2 (fun g => dpI s g ∧ Fr dcs h g) := by
          intro j o g2 hj f2 m2 q2 o2 eo
          refine b_X0_ready_132 ⟨vp_in_nI (by omega) (by omega), fun g3 e3 => ?_⟩
          rw [nI_clamp (show j < 2 ^ 31 by omega)] at e3
          rw [nI_1]
          refine ih (p + 1) (by omega) g3 ?_ ?_ (fun q hq => ?_) (fun k hk => ?_)
          · rw [e3]
            exact f2.tr (Fr.ui (by decide))
          · rw [e3, ui_ne (by decide)]
            exact m2
          · rw [e3, ui_ne (by decide), ui_ne (by decide), ui_ne (by decide), ui_ne (by decide), ui_ne (by decide)]
            exact q2 q hq
          · rw [eo, e3, ui_get]
            unfold updN
            by_cases y : k = j
            · rw [if_pos ⟨rfl, y⟩, if_pos y]
              exact ⟨rfl, by omega⟩
            · rw [if_neg (fun z => y z.2), if_neg y]
              obtain ⟨b1, b2⟩ := o2 k (by omega) y
              exact ⟨b1, by omega⟩
        have inn : ∀ (j : Nat) (o : Nat → Nat) (g2 : Hp), j ≤ p → Fr dcs h g2 → g2.1 28 7 = nI (nP s) → (∀ q, q < p + 1 → g2.1 30 q = lsS (pfS s q) ∧ g2.1 31 q = msS (pfS s q) false ∧ g2.1 32 q = msS (pfS s q) true ∧ g2.1 33 q = pfS s q 4 ∧ g2.1 34 q = pfS s q 5) → (∀ k, k ≤ p → k ≠ j → g2.1 29 k = nI (o k) ∧ o k < p) → orC (s 1) (pfS s) (p + 1) = insO (fun p q => caB (s 1) (pfS s p) (pfS s q)) p j o → GoV 2 mX0_ready 80 [(0, .ref 28), (1, .ref 1), (2, .int (nI p)), (3, .ref (6 + p)), (4, .int (nI j))] [] g2 (fun g => dpI s g ∧ Fr dcs h g) := by
          intro j
          induction j with
          | zero =>
            intro o g2 hj f2 m2 q2 o2 eo
            exact b_X0_ready_80 (isPl_6 p (by omega)) ⟨fun _ => s132 0 o g2 (by omega) f2 m2 q2 o2 eo, fun c => absurd (show nI 0 ≤ 0 by decide) c⟩
          | succ j ihj =>
            intro o g2 hj f2 m2 q2 o2 eo
            obtain ⟨b1, b2⟩ := o2 j (by omega) (by omega)
            have cj : (nI (j + 1) - 1).toNatClampNeg = j := by rw [nI_pred, nI_clamp (by omega)]
            have vj : vp_in (nI (j + 1) - 1) 3 := by rw [nI_pred]; exact vp_in_nI (by omega) (by omega)
            have a2 := a.fr f2 dj
            rw [insO] at eo
            refine b_X0_ready_80 (isPl_6 p (by omega)) ⟨fun c => absurd c (nI_nle (by omega) (by omega)), fun _ => ?_⟩
            rw [cj, b1, nI_clamp (show o j < 2 ^ 31 by omega), nI_clamp (show j + 1 < 2 ^ 31 by omega), pk_m1, a2.mr]
            refine ⟨vj, vp_in_nI (by omega) (by omega), pc (ct_comesAhead (isPl_6 p (by omega)) (isPl_6 (o j) (by omega)) _ g2) ?_⟩
            rw [caB_c (a2.e (by omega)) (a2.e (by omega))]
            refine ⟨fun c => ?_, fun c => ⟨vj, vp_in_nI (by omega) (by omega), fun g10 e10 => ?_⟩⟩
            · rw [bI_0.mp c] at eo
              exact s132 (j + 1) o g2 hj f2 m2 q2 o2 eo
            · rw [bI_t c] at eo
              rw [b1] at e10
              refine ihj (updN o (j + 1) (o j)) g10 (by omega) ?_ ?_ (fun q hq => ?_) (fun k hk nk => ?_) eo
              · rw [e10]
                exact f2.tr (Fr.ui (by decide))
              · rw [e10, ui_ne (by decide)]
                exact m2
              · rw [e10, ui_ne (by decide), ui_ne (by decide), ui_ne (by decide), ui_ne (by decide), ui_ne (by decide)]
                exact q2 q hq
              · rw [e10, ui_get]
                unfold updN
                by_cases y : k = j + 1
                · rw [if_pos ⟨rfl, y⟩, if_pos y]
                  exact ⟨rfl, b2⟩
                · rw [if_neg (fun z => y z.2), if_neg y]
                  exact o2 k hk y
        exact inn p (orC (s 1) (pfS s) p) g26 (Nat.le_refl _) f26 m26 q26 (fun k hk nk => o26 k (by omega)) rfl
  refine e_X0_ready (fun g1 e1 => lp (nP s) 0 rfl g1 ?_ ?_ (fun q hq => by omega) (fun j hj => by omega))
  · rw [e1]
    exact Fr.ui (by decide)
  · rw [e1, ui_aa, a.M, i.o.eP]
