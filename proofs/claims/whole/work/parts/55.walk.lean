/-! ===== the class: the walk through the hours ===== -/
theorem sC.d1 {s : Nat → Int32} {h : Hp} (a : sC 1 s h) {t : Nat} (ht : t < 5) : h.1 2 t = s (4 + t) := a.d ht
theorem sC.r1 {s : Nat → Int32} {h : Hp} (a : sC 1 s h) {t : Nat} (ht : t < 5) : h.1 3 t = s (9 + t) := a.r ht
theorem sC.p1 {s : Nat → Int32} {h : Hp} (a : sC 1 s h) {t : Nat} (ht : t < 5) : h.1 4 t = s (14 + t) := a.p ht
/-- the walk stands at ages a, the dispatch is ready -/
def wkI (s : Nat → Int32) (a : Nat → Int32) (h : Hp) : Prop := dpI s h ∧ ∀ p, p < nP s → h.1 37 p = clA (a p)
theorem ct_walkBegin {dm rm : Nat} (h : Hp) (s : Nat → Int32) (c : sC 1 s h) (i : InL dm rm s) : CtV 3 mX9_begin [.ref 36] h (fun g => wkI s (fun p => pfS s p 9) g ∧ Fr (37 :: dcs) h g) := by
  have hP := i.o.hP
  refine e_X9_begin ⟨_, ct_ready h s c i, fun h4 q => ?_⟩
  obtain ⟨q1, q2⟩ := q
  have lp : ∀ n p : Nat, n + p = nP s → ∀ g : Hp, Fr (37 :: dcs) h g → dpI s g → (∀ q, q < p → g.1 37 q = clA (pfS s q 9)) → GoV 3 mX9_begin 13 [(0, .ref 36), (1, .int (nI p))] [] g (fun g => wkI s (fun p => pfS s p 9) g ∧ Fr (37 :: dcs) h g) := by
    intro n
    induction n with
    | zero =>
      intro p hp g f d k
      have hp : p = nP s := by omega
      subst hp
      have cg : sC 1 s g := c.fr f (by decide)
      refine b_X9_begin_13 ⟨fun _ => ⟨⟨d, k⟩, f⟩, fun z => absurd ?_ z⟩
      rw [cg.M, i.o.eP]
      exact nI_le (by omega) (by omega)
    | succ n ih =>
      intro p hp g f d k
      have cg : sC 1 s g := c.fr f (by decide)
      refine b_X9_begin_13 ⟨fun z => absurd z ?_, fun _ => ?_⟩
      · rw [cg.M, i.o.eP]
        exact nI_ge (by omega) (by omega)
      · rw [nI_clamp (show p < 2 ^ 31 by omega), nI_1, cg.f1 (by omega) (by decide)]
        refine ⟨vp_in_nI (by omega) (by omega), vp_in_nI (by omega) (by omega), fun g3 e3 => ih (p + 1) (by omega) g3 ?_ ?_ (fun q hq => ?_)⟩
        · rw [e3]
          exact f.tr (Fr.ui (by decide))
        · rw [e3]
          exact d.fr (X := [37]) (Fr.ui (by decide)) (by decide)
        · rw [e3, ui_get]
          by_cases y : q = p
          · rw [if_pos ⟨rfl, y⟩, y, cl_4 (plI_age (i.f (by omega)))]
          · rw [if_neg (fun z => y z.2)]
            exact k q (by omega)
  exact lp (nP s) 0 rfl h4 (q2.mono (by decide)) q1 (fun q hq => by omega)
theorem maR_le {s a : Nat → Int32} {x : Int32} : ∀ n m, n ≤ m → maR s a x n = false → maR s a x m = false := by
  intro n m
  induction m with
  | zero =>
    intro h e
    rw [show n = 0 by omega] at e
    exact e
  | succ m ih =>
    intro h e
    by_cases c : n = m + 1
    · rw [← c]
      exact e
    · rw [maR, ih (by omega) e]
      rfl
theorem maR_at {s a : Nat → Int32} {x : Int32} : ∀ n p, p < n → maR s a x n = true → mgS (pfS s p) (a p) (hasB x p) = true
  | 0, p, h, _ => by omega
  | n + 1, p, h, e => by
    rw [maR, Bool.and_eq_true] at e
    by_cases c : p = n
    · rw [c]
      exact e.2
    · exact maR_at n p (by omega) e.1
/-- who goes on, as a number -/
abbrev frN (s a : Nat → Int32) (x : Int32) : Int32 := nI (bitsN (frA a x) (nP s))
/-- the hour can be gone through so -/
def okT (s a : Nat → Int32) (t : Nat) (x : Int32) : Bool := maV s a x && cnP s (s (4 + t)) (s (9 + t)) x (frN s a x)
/-- what it costs with starts, if it can -/
def tdC (s a : Nat → Int32) (t : Nat) (x : Int32) : Int32 := coE (nP s) (s 1) (pfS s) (s (4 + t)) (s (9 + t)) (hasB x) (hasB (frN s a x)) + sumI (stA s a x) (nP s)
def tdV (s a : Nat → Int32) (t : Nat) (x : Int32) : Int32 := if okT s a t x then tdC s a t x else -9
theorem stA_b {dm rm : Nat} {s : Nat → Int32} (i : InL dm rm s) {a : Nat → Int32} (ha : ∀ p, p < nP s → aR 9 (a p)) (x : Int32) {p : Nat} (hp : p < nP s) : ∃ v : Nat, v ≤ 100 ∧ stA s a x p = nI v := by
  unfold stA
  by_cases c : frA a x p = true
  · rw [if_pos c]
    have hn : a p < 0 := by
      unfold frA at c
      rw [Bool.and_eq_true] at c
      exact of_decide_eq_true c.2
    exact st_b (i.f hp) (by decide) (ha p hp) hn
  · rw [if_neg c]
    exact ⟨0, by omega, rfl⟩
theorem InL.dn {dm rm : Nat} {s : Nat → Int32} (i : InL dm rm s) {t : Nat} (ht : t < 5) : ∃ D : Nat, D ≤ dm ∧ s (4 + t) = nI D := (i.2.1 t ht).1
theorem tdC_b {dm rm : Nat} (hdm : dm ≤ 500) {s : Nat → Int32} (i : InL dm rm s) {a : Nat → Int32} (ha : ∀ p, p < nP s → aR 9 (a p)) {t : Nat} (ht : t < 5) {x : Int32} (h : cnP s (s (4 + t)) (s (9 + t)) x (frN s a x) = true) : ∃ v w : Nat, v ≤ 1710 ∧ w ≤ 300 ∧ coE (nP s) (s 1) (pfS s) (s (4 + t)) (s (9 + t)) (hasB x) (hasB (frN s a x)) = nI v ∧ sumI (stA s a x) (nP s) = nI w ∧ tdC s a t x = nI (v + w) := by
  have hP := i.o.hP
  obtain ⟨D, hD, eD⟩ := i.dn ht
  unfold cnP at h
  unfold tdC
  rw [eD] at h ⊢
  obtain ⟨v, hv, ev⟩ := coE_b hdm i hD h
  obtain ⟨w, hw, ew⟩ := sum_b (g := stA s a x) (B := 100) (nP s) (fun p hp => stA_b i ha x hp)
  exact ⟨v, w, hv, by omega, ev, ew, by rw [ev, ew, nI_add]⟩
set_option maxHeartbeats 4000000 in
theorem ct_tried {dm rm t : Nat} (hdm : dm ≤ 500) (ht : t < 5) (x : Int32) (h : Hp) (s : Nat → Int32) (c : sC 1 s h) (i : InL dm rm s) (a : Nat → Int32) (ha : ∀ p, p < nP s → aR 9 (a p)) (I : wkI s a h) : CtI 3 mX9_tried [.ref 36, .int (nI t), .int x] h (fun v g => v = tdV s a t x ∧ Fr [35] h g) := by
  have hP := i.o.hP
  obtain ⟨d, ag⟩ := I
  have lp : ∀ n p : Nat, n + p = nP s → maR s a x p = true → GoI 3 mX9_tried 8 [(0, .ref 36), (1, .int (nI t)), (2, .int x), (3, .int (nI (bitsN (frA a x) p))), (4, .int (sumI (stA s a x) p)), (5, .int (nI p))] [] h (fun v g => v = tdV s a t x ∧ Fr [35] h g) := by
    intro n
    induction n with
    | zero =>
      intro p hp ma
      have hp : p = nP s := by omega
      subst hp
      have vt : vp_in (nI t) 5 := vp_in_nI (by omega) (by omega)
      refine b_X9_tried_8 ⟨fun _ => ?_, fun z => absurd ?_ z⟩
      · rw [nI_clamp (show t < 2 ^ 31 by omega), c.d1 ht, c.r1 ht]
        refine ⟨vt, vt, _, ct_share _ _ _ _ h s d i, fun v h6 q => ?_⟩
        obtain ⟨q1, q2, -⟩ := q
        rw [q1]
        cases hc : cnP s (s (4 + t)) (s (9 + t)) x (frN s a x) with
        | true =>
          obtain ⟨v, w, hv, hw, e1, e2, e3⟩ := tdC_b hdm i ha ht hc
          have ok : okT s a t x = true := by
            unfold okT maV
            rw [ma, hc]
            rfl
          rw [if_pos rfl]
          refine ⟨fun _ => ⟨?_, q2⟩, fun z => absurd ?_ z⟩
          · rw [tdV, if_pos ok]
            rfl
          · rw [e1]
            exact Int32.not_lt.mp (nI_pos (by omega))
        | false =>
          have ok : okT s a t x = false := by
            unfold okT
            rw [hc, Bool.and_false]
          rw [if_neg Bool.false_ne_true]
          refine ⟨fun z => absurd z (by decide), fun _ => ⟨?_, q2⟩⟩
          rw [tdV, if_neg (noF ok)]
      · rw [c.M, i.o.eP]
        exact nI_le (by omega) (by omega)
    | succ n ih =>
      intro p hp ma
      have vi : vp_in (nI p) 3 := vp_in_nI (by omega) (by omega)
      have ap := ha p (by omega)
      have mv := ct_movedC (p := p) ap (hasB x p) h s c i (by omega)
      refine b_X9_tried_8 ⟨fun z => absurd z ?_, fun _ => ?_⟩
      · rw [c.M, i.o.eP]
        exact nI_ge (by omega) (by omega)
      · rw [nI_clamp (show p < 2 ^ 31 by omega), ag p (by omega), ite_bI]
        refine ⟨vi, vi, pc mv ?_⟩
        rw [ag p (by omega)]
        cases hg : mgS (pfS s p) (a p) (hasB x p) with
        | true =>
          have ih2 := ih (p + 1) (by omega) (by rw [maR, ma, hg]; rfl)
          rw [if_pos rfl]
          have same : frA a x p = false → GoI 3 mX9_tried 113 [(0, .ref 36), (1, .int (nI t)), (2, .int x), (3, .int (nI (bitsN (frA a x) p))), (4, .int (sumI (stA s a x) p)), (5, .int (nI p))] [] h (fun v g => v = tdV s a t x ∧ Fr [35] h g) := by
            intro hf
            refine b_X9_tried_113 ?_
            rw [nI_1]
            have e1 : bitsN (frA a x) (p + 1) = bitsN (frA a x) p := by
              rw [bitsN, if_neg (noF hf)]
              rfl
            have e2 : sumI (stA s a x) (p + 1) = sumI (stA s a x) p := by
              rw [sumI, stA, if_neg (noF hf), i32_add0]
            rw [e1, e2] at ih2
            exact ih2
          refine ⟨fun _ => ⟨fun cb => same ?_, fun cb => ⟨vi, fun c0 => same ?_, fun c0 => ⟨vi, vi, pc (ct_startC _ h s c i (by omega)) (b_X9_tried_113 ?_)⟩⟩⟩, fun z => absurd z (cl_n0 (by decide) (aR_go (by decide) ap _))⟩
          · rw [frA, show hasB x p = false from bI_0.mp cb]
            rfl
          · rw [frA, decide_eq_false (fun z => Int32.not_lt.mpr c0 ((cl_neg (by decide) ap).mpr z)), Bool.and_false]
          · have hn : a p < 0 := (cl_neg (by decide) ap).mp (Int32.not_le.mp c0)
            have hf : frA a x p = true := by
              rw [frA, show hasB x p = true from bI_t cb, decide_eq_true hn]
              rfl
            have e2 : sumI (stA s a x) (p + 1) = sumI (stA s a x) p + stS (pfS s p 0) (pfS s p 1) (pfS s p 6) (-(clA (a p))) := by
              rw [sumI, stA, if_pos hf, st_cl (by decide) ap hn]
            rw [bitsN_or2 (by omega) _ (if_pos hf).symm, nI_1, ← e2]
            exact ih2
        | false =>
          rw [if_neg Bool.false_ne_true]
          refine ⟨fun z => absurd rfl z, fun _ => ⟨?_, Fr.rf⟩⟩
          have ok : okT s a t x = false := by
            unfold okT maV
            rw [maR_le (p + 1) (nP s) (by omega) (by rw [maR, hg, Bool.and_false])]
            rfl
          rw [tdV, if_neg (noF ok)]
  exact e_X9_tried (lp (nP s) 0 rfl rfl)
theorem tdV_neg {dm rm t : Nat} (hdm : dm ≤ 500) {s : Nat → Int32} (i : InL dm rm s) {a : Nat → Int32} (ha : ∀ p, p < nP s → aR 9 (a p)) (ht : t < 5) {x : Int32} : (tdV s a t x < 0 ↔ okT s a t x = false) := by
  unfold tdV
  cases hc : okT s a t x with
  | false =>
    rw [if_neg Bool.false_ne_true]
    exact ⟨fun _ => rfl, fun _ => by decide⟩
  | true =>
    have h2 := hc
    unfold okT at h2
    rw [Bool.and_eq_true] at h2
    obtain ⟨v, w, hv, hw, e1, e2, e3⟩ := tdC_b hdm i ha ht h2.2
    rw [if_pos rfl, e3]
    exact ⟨fun z => absurd z (nI_pos (by omega)), fun z => by cases z⟩
set_option maxHeartbeats 4000000 in
theorem ct_pass {dm rm t : Nat} (hdm : dm ≤ 500) (ht : t < 5) (x : Int32) (h : Hp) (s : Nat → Int32) (c : sC 1 s h) (i : InL dm rm s) (a : Nat → Int32) (ha : ∀ p, p < nP s → aR 9 (a p)) (I : wkI s a h) : CtI 4 mX9_pass [.ref 36, .int (nI t), .int x] h (fun v g => v = tdV s a t x ∧ Fr [35, 37] h g ∧ (okT s a t x = true → wkI s (goX a x) g) ∧ (okT s a t x = false → wkI s a g)) := by
  have hP := i.o.hP
  refine e_X9_pass ⟨_, ct_tried hdm ht x h s c i a ha I, fun v h4 q => ?_⟩
  obtain ⟨q1, q2⟩ := q
  rw [q1]
  have neg := tdV_neg hdm i ha ht (x := x)
  have d4 : dpI s h4 := I.1.fr q2 (by decide)
  have a4 : ∀ p, p < nP s → h4.1 37 p = clA (a p) := fun p hp => by
    rw [q2.1 37 (by decide)]
    exact I.2 p hp
  refine ⟨fun z => ⟨rfl, q2.mono (by decide), fun e => ?_, fun _ => ⟨d4, a4⟩⟩, fun z => ?_⟩
  · rw [neg.mp z] at e
    cases e
  · have ok : okT s a t x = true := by
      cases hc : okT s a t x with
      | true => rfl
      | false => exact absurd (neg.mpr hc) z
    have ma : maR s a x (nP s) = true := by
      have h2 := ok
      unfold okT at h2
      rw [Bool.and_eq_true] at h2
      exact h2.1
    have lp : ∀ n p : Nat, n + p = nP s → ∀ g : Hp, Fr [35, 37] h g → dpI s g → (∀ q, q < nP s → g.1 37 q = if q < p then clA (goX a x q) else clA (a q)) → GoI 4 mX9_pass 14 [(0, .ref 36), (2, .int x), (3, .int (tdV s a t x)), (4, .int (nI p))] [] g (fun v g => v = tdV s a t x ∧ Fr [35, 37] h g ∧ (okT s a t x = true → wkI s (goX a x) g) ∧ (okT s a t x = false → wkI s a g)) := by
      intro n
      induction n with
      | zero =>
        intro p hp g f d k
        have hp : p = nP s := by omega
        subst hp
        have cg : sC 1 s g := c.fr f (by decide)
        refine b_X9_pass_14 ⟨fun _ => ⟨rfl, f, fun _ => ⟨d, fun q hq => (k q hq).trans (if_pos hq)⟩, fun e => ?_⟩, fun z => absurd ?_ z⟩
        · rw [ok] at e
          cases e
        · rw [cg.M, i.o.eP]
          exact nI_le (by omega) (by omega)
      | succ n ih =>
        intro p hp g f d k
        have cg : sC 1 s g := c.fr f (by decide)
        have vi : vp_in (nI p) 3 := vp_in_nI (by omega) (by omega)
        have mv := ct_movedC (p := p) (ha p (by omega)) (hasB x p) g s cg i (by omega)
        rw [if_pos (maR_at (nP s) p (by omega) ma)] at mv
        refine b_X9_pass_14 ⟨fun z => absurd z ?_, fun _ => ?_⟩
        · rw [cg.M, i.o.eP]
          exact nI_ge (by omega) (by omega)
        · rw [nI_clamp (show p < 2 ^ 31 by omega), k p (by omega), if_neg (Nat.lt_irrefl p), ite_bI, nI_1]
          refine ⟨vi, vi, pc mv ⟨vi, fun g9 e9 => ih (p + 1) (by omega) g9 ?_ ?_ (fun q hq => ?_)⟩⟩
          · rw [e9]
            exact f.tr (Fr.ui (by decide))
          · rw [e9]
            exact d.fr (X := [37]) (Fr.ui (by decide)) (by decide)
          · rw [e9, ui_get]
            by_cases y : q = p
            · rw [if_pos ⟨rfl, y⟩, if_pos (by omega), y]
              rfl
            · rw [if_neg (fun z => y z.2), k q hq]
              by_cases y2 : q < p
              · rw [if_pos y2, if_pos (by omega)]
              · rw [if_neg y2, if_neg (by omega)]
    exact lp (nP s) 0 rfl h4 (q2.mono (by decide)) d4 (fun q hq => (a4 q hq).trans (if_neg (by omega)).symm)
/-! ===== the reference's words for the same ===== -/
theorem FAR_nI : FAR = nI 1000000000 := rfl
theorem wmR_sum {s a : Nat → Int32} {x : Int32} : ∀ n p c, (∀ q, q < p + n → ∃ v : Nat, v ≤ 100 ∧ stA s a x q = nI v) → p + n ≤ 3 → c ≤ 5000 → wmR s a x n p (nI c + sumI (stA s a x) p) = nI c + sumI (stA s a x) (p + n)
  | 0, p, c, _, _, _ => rfl
  | n + 1, p, c, h, h3, hc => by
    obtain ⟨w, hw, ew⟩ := sum_b (g := stA s a x) (B := 100) p (fun q hq => h q (by omega))
    have lt : ¬ FAR ≤ nI c + sumI (stA s a x) p := by
      rw [ew, nI_add, FAR_nI, nI_leI (by omega) (by omega)]
      omega
    have ih := wmR_sum n (p + 1) c (fun q hq => h q (by omega)) (by omega) hc
    rw [wmR, if_neg lt, Int32.add_assoc]
    rw [sumI] at ih
    rw [ih]
    congr 2
    omega
theorem coE_no {P : Nat} {mr : Int32} {fs : Nat → Nat → Int32} {dem res : Int32} {on fr : Nat → Bool} (h : canF P fs dem res on fr = false) : coE P mr fs dem res on fr = FAR := by
  unfold coE coF
  exact if_neg (noF h)
theorem wmV_eq {dm rm t : Nat} (hdm : dm ≤ 500) {s : Nat → Int32} (i : InL dm rm s) {a : Nat → Int32} (ha : ∀ p, p < nP s → aR 9 (a p)) (ht : t < 5) (x : Int32) : wmV s a t x = if cnP s (s (4 + t)) (s (9 + t)) x (frN s a x) then tdC s a t x else FAR := by
  have hP := i.o.hP
  unfold wmV
  cases hc : cnP s (s (4 + t)) (s (9 + t)) x (frN s a x) with
  | true =>
    obtain ⟨v, w, hv, hw, e1, e2, e3⟩ := tdC_b hdm i ha ht hc
    rw [if_pos rfl, tdC, e1]
    have := wmR_sum (s := s) (a := a) (x := x) (nP s) 0 v (fun q hq => stA_b i ha x (by omega)) (by omega) (by omega)
    rw [show sumI (stA s a x) 0 = 0 from rfl, i32_add0, Nat.zero_add] at this
    exact this
  | false =>
    rw [if_neg Bool.false_ne_true, coE_no hc]
    cases hn : nP s with
    | zero => rfl
    | succ n => rw [wmR, if_pos (Int32.le_refl _)]
theorem mcV_eq {dm rm t : Nat} (hdm : dm ≤ 500) {s : Nat → Int32} (i : InL dm rm s) {a : Nat → Int32} (ha : ∀ p, p < nP s → aR 9 (a p)) (ht : t < 5) (x : Int32) : mcV s a t x = if okT s a t x then tdC s a t x else FAR := by
  unfold mcV okT
  rw [wmV_eq hdm i ha ht x]
  cases maV s a x <;> cases cnP s (s (4 + t)) (s (9 + t)) x (frN s a x) <;> rfl
