/-! ===== the class: an hour shared; what it costs at most ===== -/
theorem ct_mostOfC {p : Nat} (y : Int32) (h : Hp) (s : Nat → Int32) (I : dpI s h) (hp : p < nP s) (hP : nP s ≤ 3) : CtI 0 mX0_mostOf [.ref 28, .int (nI p), .int y] h (pq (msS (pfS s p) (hasB y p)) h) := by
  obtain ⟨-, k, -⟩ := I
  obtain ⟨-, k2, k3, -⟩ := k p hp
  refine e_X0_mostOf ?_
  rw [nI_clamp (show p < 2 ^ 31 by omega)]
  refine ⟨fun c => ⟨vp_in_nI (by omega) (by omega), ?_, rfl⟩, fun c => ⟨vp_in_nI (by omega) (by omega), ?_, rfl⟩⟩
  · rw [k2, show hasB y p = false from decide_eq_false c]
  · rw [k3, show hasB y p = true from decide_eq_true c]
theorem i32_rc (a b c : Int32) : a + b + c = a + c + b := by rw [Int32.add_assoc, Int32.add_comm b c, ← Int32.add_assoc]
theorem coT_upd {fs : Nat → Nat → Int32} {on : Nat → Bool} {g : Nat → Int32} {p : Nat} (m : Int32) (hon : on p = true) : ∀ P, p < P → sumI (coT fs on (upd g p (g p + m))) P = sumI (coT fs on g) P + fs p 4 * m
  | 0, h => by omega
  | P + 1, h => by
    unfold sumI
    by_cases c : p = P
    · subst c
      rw [sumI_congr (f := coT fs on (upd g p (g p + m))) (g := coT fs on g) p (fun k hk => by unfold coT; rw [upd_ne _ _ (by omega)])]
      have e : coT fs on (upd g p (g p + m)) p = coT fs on g p + fs p 4 * m := by
        unfold coT
        rw [if_pos hon, if_pos hon, upd_at, Int32.mul_add, i32_rc]
      rw [e, Int32.add_assoc]
    · rw [coT_upd m hon P (by omega)]
      have e : coT fs on (upd g p (g p + m)) P = coT fs on g P := by
        unfold coT
        rw [upd_ne _ _ (Ne.symm c)]
      rw [e, i32_rc]
theorem lf0_eq (fs : Nat → Nat → Int32) (on : Nat → Bool) (dem : Int32) : ∀ k, lf0 fs on dem k = dem - sumI (lsT fs on) k
  | 0 => (Int32.sub_eq_iff_eq_add.mpr (i32_add0 dem).symm).symm
  | k + 1 => by rw [lf0, lf0_eq fs on dem k, sumI, Int32.sub_sub]
def coL (fs : Nat → Nat → Int32) (on : Nat → Bool) (p : Nat) : Int32 := if on p then fs p 5 + fs p 4 * lsS (fs p) else 0
theorem coL_eq (fs : Nat → Nat → Int32) (on : Nat → Bool) (g : Nat → Int32) (P : Nat) : sumI (coL fs on) P = sumI (coT fs on (ou0 fs on g P)) P := sumI_congr P fun k hk => by
  unfold coL coT
  by_cases c : on k = true
  · rw [if_pos c, if_pos c, ou0_at fs on g P k hk, lsT, if_pos c, Int32.add_comm]
  · rw [if_neg c, if_neg c]
/-- the sharing, k plants done -/
abbrev shK (s : Nat → Int32) (dem : Int32) (on fr : Nat → Bool) (k : Nat) : Int32 × (Nat → Int32) := shR (pfS s) on fr (bmF (s 1) (pfS s) (nP s)) (lf0 (pfS s) on dem (nP s), ou0 (pfS s) on (fun _ => 0) (nP s)) k
theorem shK_un {s : Nat → Int32} {dem : Int32} {on fr : Nat → Bool} {q : Nat} (hq : q < nP s) : ∀ k, (∀ j, j < k → bmF (s 1) (pfS s) (nP s) j ≠ q) → (shK s dem on fr k).2 q = lsT (pfS s) on q
  | 0, _ => ou0_at _ _ _ _ _ hq
  | k + 1, h => by
    have ih := shK_un (dem := dem) (on := on) (fr := fr) hq k (fun j hj => h j (by omega))
    show (shT _ _ _ (shK s dem on fr k) _).2 q = _
    unfold shT
    split
    · rw [← ih]
      exact upd_ne _ _ (Ne.symm (h k (by omega)))
    · exact ih
def cnP (s : Nat → Int32) (dem res x y : Int32) : Bool := canF (nP s) (pfS s) dem res (hasB x) (hasB y)
def shP (s : Nat → Int32) (dem res x y : Int32) (h : Hp) : Int32 → Hp → Prop := fun v g => v = (if cnP s dem res x y then coE (nP s) (s 1) (pfS s) dem res (hasB x) (hasB y) else -9) ∧ Fr [35] h g ∧ (cnP s dem res x y = true → ∀ p, p < nP s → hasB x p = true → g.1 35 p = shF (nP s) (s 1) (pfS s) dem (hasB x) (hasB y) (fun _ => 0) p)
set_option maxHeartbeats 4000000 in
theorem ct_share {dm rm : Nat} (dem res x y : Int32) (h : Hp) (s : Nat → Int32) (I : dpI s h) (i : InL dm rm s) : CtI 1 mX0_share [.ref 28, .int dem, .int res, .int x, .int y] h (shP s dem res x y h) := by
  have hP := i.o.hP
  obtain ⟨hm, hk, hor⟩ := I
  have I0 : dpI s h := ⟨hm, hk, hor⟩
  obtain ⟨-, p1, p2, p3⟩ := bm_ord (mr := s 1) hP (i.b (Nat.le_refl _))
  -- the second loop
  have l2 : canF (nP s) (pfS s) dem res (hasB x) (hasB y) = true → ∀ n k : Nat, n + k = nP s → ∀ g : Hp, Fr [35] h g → (∀ j, j < k → hasB x (bmF (s 1) (pfS s) (nP s) j) = true → g.1 35 (bmF (s 1) (pfS s) (nP s) j) = (shK s dem (hasB x) (hasB y) k).2 (bmF (s 1) (pfS s) (nP s) j)) → GoI 1 mX0_share 116 [(0, .ref 28), (3, .int x), (4, .int y), (7, .int (sumI (coT (pfS s) (hasB x) (shK s dem (hasB x) (hasB y) k).2) (nP s))), (8, .int (shK s dem (hasB x) (hasB y) k).1), (9, .int (nI k))] [] g (shP s dem res x y h) := by
    intro can n
    induction n with
    | zero =>
      intro k hk2 g f sh
      have hk2 : k = nP s := by omega
      subst hk2
      refine b_X0_share_116 ⟨fun _ => ⟨?_, f, fun _ p hp hon => ?_⟩, fun c => absurd ?_ c⟩
      · rw [cnP, if_pos can, coE, coF, if_pos can]
        rfl
      · obtain ⟨k, hk3, ek⟩ := p3 p hp
        have := sh k hk3 (by rw [ek]; exact hon)
        rw [ek] at this
        exact this
      · rw [f.1 28 (by decide), hm]
        exact nI_le (by omega) (by omega)
    | succ n ih =>
      intro k hk2 g f sh
      have bl := p1 k (by omega)
      have un := shK_un (s := s) (dem := dem) (on := hasB x) (fr := hasB y) bl k (fun j hj e => by have := p2 j k (by omega) (by omega) e; omega)
      have ih2 := ih (k + 1) (by omega)
      have es : shK s dem (hasB x) (hasB y) (k + 1) = shT (pfS s) (hasB x) (hasB y) (shK s dem (hasB x) (hasB y) k) (bmF (s 1) (pfS s) (nP s) k) := rfl
      rw [es] at ih2
      have sh2 : ∀ j, j < k → bmF (s 1) (pfS s) (nP s) j ≠ bmF (s 1) (pfS s) (nP s) k := fun j hj e => by have := p2 j k (by omega) (by omega) e; omega
      have Ig : dpI s g := I0.fr f (by decide)
      have eo : g.1 29 k = nI (bmF (s 1) (pfS s) (nP s) k) := Ig.2.2 k (by omega)
      obtain ⟨d1, -, -, d4, d5⟩ := Ig.2.1 _ bl
      generalize bmF (s 1) (pfS s) (nP s) k = p at bl un ih2 sh2 eo d1 d4 d5 es
      generalize shK s dem (hasB x) (hasB y) k = st at un ih2 sh es ⊢
      obtain ⟨lf, ou⟩ := st
      have cp : (nI p).toNatClampNeg = p := nI_clamp (by omega)
      have vi : vp_in (nI p) 3 := vp_in_nI (by omega) (by omega)
      refine b_X0_share_116 ⟨fun c => absurd c ?_, fun _ => ⟨vp_in_nI (by omega) (by omega), ?_⟩⟩
      · rw [f.1 28 (by decide), hm]
        exact nI_ge (by omega) (by omega)
      · rw [nI_clamp (show k < 2 ^ 31 by omega), eo, cp]
        refine ⟨fun c => b_X0_share_206 ?_, fun c => pc (ct_mostOfC y g s Ig bl hP) ⟨vi, ?_⟩⟩
        · have hon : hasB x p = false := decide_eq_false c
          rw [shT, if_neg (noF hon)] at ih2
          rw [nI_1]
          refine ih2 g f (fun j hj ho => ?_)
          by_cases z : j < k
          · exact sh j z ho
          · have ej : j = k := by omega
            have ep : bmF (s 1) (pfS s) (nP s) j = p := by
              have := Ig.2.2 j (by omega)
              rw [ej, eo] at this
              have hb := p1 k (by omega)
              rw [ej]
              exact ((nI_eq (by omega) (by omega)).mp this).symm
            rw [ep, hon] at ho
            cases ho
        · have hon : hasB x p = true := decide_eq_true c
          have un2 : ou p = lsS (pfS s p) := by
            rw [lsT, if_pos hon] at un
            exact un
          rw [shT, if_pos hon] at ih2
          rw [d1, ← un2]
          refine pc (ct_min _ _ g) ⟨vi, vi, fun g15 e15 => ⟨vi, b_X0_share_206 ?_⟩⟩
          rw [nI_1]
          have e33 : g15.1 33 p = pfS s p 4 := by rw [e15, ui_ne (by decide), d4]
          rw [d1, ← un2] at e15
          rw [e33, ← coT_upd _ hon _ bl]
          refine ih2 g15 ?_ (fun j hj ho => ?_)
          · rw [e15]
            exact f.tr (Fr.ui (by decide))
          · rw [e15]
            by_cases z : j < k
            · have nj := sh2 j z
              rw [ui_nj nj]
              show _ = upd ou p _ _
              rw [upd_ne _ _ nj]
              exact sh j z ho
            · have ej : j = k := by omega
              have ep : bmF (s 1) (pfS s) (nP s) j = p := by
                have := Ig.2.2 j (by omega)
                rw [ej, eo] at this
                have hb := p1 k (by omega)
                rw [ej]
                exact ((nI_eq (by omega) (by omega)).mp this).symm
              rw [ep, ui_aa]
              show _ = upd ou p _ p
              rw [upd_at]
  -- the first loop
  have l1 : ∀ n p : Nat, n + p = nP s → GoI 1 mX0_share 12 [(0, .ref 28), (1, .int dem), (2, .int res), (3, .int x), (4, .int y), (5, .int (sumI (lsT (pfS s) (hasB x)) p)), (6, .int (sumI (msT (pfS s) (hasB x) (hasB y)) p)), (7, .int (sumI (coL (pfS s) (hasB x)) p)), (8, .int (nI p))] [] h (shP s dem res x y h) := by
    intro n
    induction n with
    | zero =>
      intro p hp
      have hp : p = nP s := by omega
      subst hp
      refine b_X0_share_12 ⟨fun _ => ⟨fun c => ?_, fun c => ⟨fun c2 => ?_, fun c2 => ?_⟩⟩, fun c => absurd ?_ c⟩
      · have e : cnP s dem res x y = false := by rw [cnP, canF, decide_eq_true c]; rfl
        refine ⟨?_, Fr.rf, fun z => ?_⟩
        · rw [e]
          rfl
        · rw [e] at z
          cases z
      · have can : canF (nP s) (pfS s) dem res (hasB x) (hasB y) = true := by rw [canF, decide_eq_false c, decide_eq_false (Int32.not_lt.mpr c2)]; rfl
        have := l2 can (nP s) 0 rfl h Fr.rf (fun j hj => by omega)
        rw [coL_eq (pfS s) (hasB x) (fun _ => 0), ← lf0_eq]
        exact this
      · have e : cnP s dem res x y = false := by rw [cnP, canF, decide_eq_true (Int32.not_le.mp c2), Bool.not_true, Bool.and_false]
        refine ⟨?_, Fr.rf, fun z => ?_⟩
        · rw [e]
          rfl
        · rw [e] at z
          cases z
      · rw [hm]
        exact nI_le (by omega) (by omega)
    | succ n ih =>
      intro p hp
      have ih2 := ih (p + 1) (by omega)
      rw [sumI, sumI, sumI] at ih2
      obtain ⟨d1, -, -, d4, d5⟩ := hk p (by omega)
      have vi : vp_in (nI p) 3 := vp_in_nI (by omega) (by omega)
      refine b_X0_share_12 ⟨fun c => absurd c ?_, fun _ => ⟨fun c => b_X0_share_84 ?_, fun c => ⟨vi, pc (ct_mostOfC y h s I0 (by omega) hP) ⟨vi, vi, vi, b_X0_share_84 ?_⟩⟩⟩⟩
      · rw [hm]
        exact nI_ge (by omega) (by omega)
      · have hon : hasB x p = false := decide_eq_false c
        rw [lsT, msT, coL, if_neg (noF hon), if_neg (noF hon), if_neg (noF hon), i32_add0, i32_add0, i32_add0] at ih2
        rw [nI_1]
        exact ih2
      · have hon : hasB x p = true := decide_eq_true c
        rw [lsT, msT, coL, if_pos hon, if_pos hon, if_pos hon] at ih2
        rw [nI_1, nI_clamp (show p < 2 ^ 31 by omega), d1, d4, d5]
        exact ih2
  exact e_X0_share (l1 (nP s) 0 rfl)
/-! ===== bounds of costs ===== -/
theorem imin_nI {a b : Nat} (ha : a < 2 ^ 31) (hb : b < 2 ^ 31) : imin (nI a) (nI b) = nI (min a b) := by
  unfold imin
  by_cases c : nI b < nI a
  · have := (nI_ltI hb ha).mp c
    rw [if_pos c, Nat.min_eq_right (by omega)]
  · have : ¬ b < a := fun z => c ((nI_ltI hb ha).mpr z)
    rw [if_neg c, Nat.min_eq_left (by omega)]
theorem plI_lm {f : Nat → Int32} (h : plI f) : ∃ l : Nat, lsS f = nI l ∧ ∀ b : Bool, ∃ m : Nat, msS f b = nI m ∧ l ≤ m ∧ m ≤ 60 := by
  obtain ⟨⟨k, hk, e0⟩, ⟨fg, hf, e1⟩, ⟨a, b, h1, h2, h3, e2, e3⟩, -⟩ := h
  have k5 : ∀ k, k < 6 → (nI k = 5 ↔ k = 5) ∧ (nI k = 2 ↔ k = 2) ∧ (nI k = 3 ↔ k = 3) := by decide
  obtain ⟨i5, i2, i3⟩ := k5 k hk
  have ms : ∀ t : Bool, ∃ m : Nat, msS f t = nI m ∧ a ≤ m ∧ m ≤ b ∧ (k = 5 → m = b) := fun t => by
    unfold msS
    rw [e0, e1, e2, e3]
    by_cases c : t = true ∧ (nI k = 2 ∨ nI k = 3)
    · have n5 : k ≠ 5 := fun z => by
        rcases c.2 with w | w
        · have := i2.mp w
          omega
        · have := i3.mp w
          omega
      rw [if_pos c, nI_add, imin_nI (by omega) (by omega)]
      exact ⟨_, rfl, by omega, by omega, fun z => absurd z n5⟩
    · rw [if_neg c]
      exact ⟨b, rfl, by omega, by omega, fun _ => rfl⟩
  unfold lsS
  rw [e0, e2, e3]
  by_cases c : nI k = 5
  · rw [if_pos c]
    refine ⟨b, rfl, fun t => ?_⟩
    obtain ⟨m, m1, m2, m3, m4⟩ := ms t
    exact ⟨m, m1, by have := m4 (i5.mp c); omega, by omega⟩
  · rw [if_neg c]
    refine ⟨a, rfl, fun t => ?_⟩
    obtain ⟨m, m1, m2, m3, m4⟩ := ms t
    exact ⟨m, m1, m2, by omega⟩
theorem sum_b {g : Nat → Int32} {B : Nat} : ∀ n, (∀ p, p < n → ∃ v : Nat, v ≤ B ∧ g p = nI v) → ∃ v : Nat, v ≤ B * n ∧ sumI g n = nI v
  | 0, _ => ⟨0, Nat.zero_le _, rfl⟩
  | n + 1, h => by
    obtain ⟨v, h1, h2⟩ := sum_b (g := g) (B := B) n (fun p hp => h p (by omega))
    obtain ⟨w, h3, h4⟩ := h n (by omega)
    exact ⟨v + w, by rw [Nat.mul_succ]; omega, by rw [sumI, h2, h4, nI_add]⟩
/-- what each gives so far is between nothing and the most -/
theorem shK_b {dm rm : Nat} {s : Nat → Int32} (i : InL dm rm s) {dem : Int32} {on fr : Nat → Bool} (hor : ∀ k, k < nP s → bmF (s 1) (pfS s) (nP s) k < nP s) {L : Nat} (hL : L ≤ 1000) (hl : lf0 (pfS s) on dem (nP s) = nI L) : ∀ k, k ≤ nP s → (∃ v : Nat, v ≤ L ∧ (shK s dem on fr k).1 = nI v) ∧ ∀ p, p < nP s → on p = true → ∃ o m : Nat, (shK s dem on fr k).2 p = nI o ∧ msS (pfS s p) (fr p) = nI m ∧ o ≤ m ∧ m ≤ 60
  | 0, _ => by
    refine ⟨⟨L, Nat.le_refl _, hl⟩, fun p hp hon => ?_⟩
    obtain ⟨l, e1, e2⟩ := plI_lm (i.f hp)
    obtain ⟨m, e3, e4, e5⟩ := e2 (fr p)
    exact ⟨l, m, by show ou0 _ _ _ _ p = _; rw [ou0_at _ _ _ _ _ hp, lsT, if_pos hon, e1], e3, e4, e5⟩
  | k + 1, hk => by
    obtain ⟨⟨v, hv, ev⟩, ih⟩ := shK_b i hor hL hl k (by omega)
    have hb := hor k (by omega)
    show (∃ w : Nat, w ≤ L ∧ (shT _ _ _ (shK s dem on fr k) _).1 = nI w) ∧ ∀ p, p < nP s → on p = true → ∃ o m : Nat, (shT _ _ _ (shK s dem on fr k) _).2 p = nI o ∧ _
    unfold shT
    by_cases c : on (bmF (s 1) (pfS s) (nP s) k) = true
    · rw [if_pos c]
      obtain ⟨o, m, e1, e2, e3, e4⟩ := ih _ hb c
      have em : imin (shK s dem on fr k).1 (msS (pfS s (bmF (s 1) (pfS s) (nP s) k)) (fr (bmF (s 1) (pfS s) (nP s) k)) - (shK s dem on fr k).2 (bmF (s 1) (pfS s) (nP s) k)) = nI (min v (m - o)) := by
        rw [ev, e1, e2, pk_sub e3, imin_nI (by omega) (by omega)]
      refine ⟨⟨v - min v (m - o), by omega, ?_⟩, fun p hp hon => ?_⟩
      · show _ - _ = _
        rw [em, ev, pk_sub (by omega)]
      · show ∃ o2 m2 : Nat, upd _ _ _ p = nI o2 ∧ _
        by_cases y : p = bmF (s 1) (pfS s) (nP s) k
        · subst y
          rw [upd_at, em, e1, nI_add]
          exact ⟨o + min v (m - o), m, rfl, e2, by omega, e4⟩
        · rw [upd_ne _ _ y]
          exact ih p hp hon
    · rw [if_neg c]
      exact ⟨⟨v, hv, ev⟩, ih⟩
theorem coE_b {dm rm : Nat} (hdm : dm ≤ 500) {s : Nat → Int32} (i : InL dm rm s) {D : Nat} (hD : D ≤ dm) {res : Int32} {on fr : Nat → Bool} (hc : canF (nP s) (pfS s) (nI D) res on fr = true) : ∃ v : Nat, v ≤ 1710 ∧ coE (nP s) (s 1) (pfS s) (nI D) res on fr = nI v := by
  have hP := i.o.hP
  obtain ⟨-, p1, -, -⟩ := bm_ord (mr := s 1) hP (i.b (Nat.le_refl _))
  obtain ⟨S, hS, eS⟩ := sum_b (g := lsT (pfS s) on) (B := 60) (nP s) (fun p hp => by
    obtain ⟨l, e1, e2⟩ := plI_lm (i.f hp)
    obtain ⟨m, e3, e4, e5⟩ := e2 true
    unfold lsT
    by_cases c : on p = true
    · rw [if_pos c]
      exact ⟨l, by omega, e1⟩
    · rw [if_neg c]
      exact ⟨0, by omega, rfl⟩)
  have hSD : S ≤ D := by
    rw [canF, eS] at hc
    have := (Bool.and_eq_true _ _ ▸ hc).1
    have h2 : ¬ nI D < nI S := by
      intro z
      rw [decide_eq_true z] at this
      cases this
    have h3 : ¬ D < S := fun z => h2 ((nI_ltI (a := D) (b := S) (by omega) (by omega)).mpr z)
    omega
  have hl : lf0 (pfS s) on (nI D) (nP s) = nI (D - S) := by rw [lf0_eq, eS, pk_sub hSD]
  obtain ⟨-, ob⟩ := shK_b i (fr := fr) p1 (L := D - S) (by omega) hl (nP s) (Nat.le_refl _)
  unfold coE coF
  rw [if_pos hc]
  obtain ⟨v, hv, ev⟩ := sum_b (g := coT (pfS s) on (shF (nP s) (s 1) (pfS s) (nI D) on fr (fun _ => 0))) (B := 570) (nP s) (fun p hp => by
    unfold coT
    by_cases c : on p = true
    · rw [if_pos c]
      obtain ⟨o, m, e1, e2, e3, e4⟩ := ob p hp c
      obtain ⟨-, -, -, ⟨a, a1, a2⟩, ⟨b, b1, b2⟩, -⟩ := i.f hp
      have e5 : shF (nP s) (s 1) (pfS s) (nI D) on fr (fun _ => 0) p = nI o := e1
      rw [e5, a2, b2, pk_mul, nI_add]
      refine ⟨a * o + b, ?_, rfl⟩
      have : a * o ≤ 9 * 60 := Nat.mul_le_mul a1 (by omega)
      omega
    · rw [if_neg c]
      exact ⟨0, by omega, rfl⟩)
  exact ⟨v, by omega, ev⟩
theorem stS_b {k fg st j : Nat} (hk : k < 6) (hf : fg < 10) (hs : st ≤ 50) (hj : j < 2 ^ 31) : ∃ v : Nat, v ≤ 100 ∧ stS (nI k) (nI fg) (nI st) (nI j) = nI v := by
  have e4 : imin (nI j) 4 = nI (min j 4) := imin_nI (b := 4) hj (by omega)
  have m : fg * min j 4 ≤ 9 * 4 := Nat.mul_le_mul (by omega) (by omega)
  unfold stS
  rw [e4, pk_mul, nI_add]
  have d2 : nI (st + fg * min j 4) / 2 = nI ((st + fg * min j 4) / 2) := half _ (by omega)
  have t2 : (2 : Int32) * nI st = nI (2 * st) := pk_mul 2 st
  rw [d2, t2]
  by_cases c1 : nI k = 1
  · rw [if_pos c1]
    exact ⟨_, by omega, rfl⟩
  · rw [if_neg c1]
    by_cases c2 : nI k = 3
    · rw [if_pos c2]
      exact ⟨_, by omega, rfl⟩
    · rw [if_neg c2]
      by_cases c3 : nI k = 4
      · rw [if_pos c3]
        by_cases c4 : nI (min j 4) = 1
        · rw [if_pos c4]
          exact ⟨_, by omega, rfl⟩
        · rw [if_neg c4]
          exact ⟨_, by omega, rfl⟩
      · rw [if_neg c3]
        by_cases c5 : nI k = 5
        · rw [if_pos c5]
          exact ⟨_, by omega, rfl⟩
        · rw [if_neg c5]
          exact ⟨_, by omega, rfl⟩
/-- starts of a plant behind an age below 0 -/
theorem st_b {f : Nat → Int32} (hf : plI f) {m : Nat} (hm : m < 12) {a : Int32} (ha : aR m a) (hn : a < 0) : ∃ v : Nat, v ≤ 100 ∧ stS (f 0) (f 1) (f 6) (-a) = nI v := by
  obtain ⟨⟨k, hk, e0⟩, ⟨fg, hfg, e1⟩, -, -, -, ⟨st, hst, e6⟩, -⟩ := hf
  obtain ⟨j, h1, h2, h3⟩ := ha
  obtain ⟨-, -, -, -, -, g6, -⟩ := age_f1 j (by omega) h1
  rw [e0, e1, e6]
  rcases h3 with e | e
  · rw [e] at hn
    exact absurd hn g6
  · rw [e, Int32.neg_neg]
    exact stS_b hk hfg hst (by omega)
