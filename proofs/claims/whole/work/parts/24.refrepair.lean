/-! ===== the reference: repairs ===== -/
def moX (m : Nat → Int32) (x : Int32) (t : Nat) : Nat → Int32 := fun p => m p ||| (if hasB x p then (1 : Int32) <<< (nI t &&& 31) else 0)
def goX (a : Nat → Int32) (x : Int32) : Nat → Int32 := fun p => goS (a p) (hasB x p)
/-- n hours more from t on: what it costs, the rows -/
def rpR (s : Nat → Int32) (w : Nat → Int32) : Nat → Nat → Int32 → (Nat → Int32) → (Nat → Int32) → Int32 × (Nat → Int32)
  | 0, _, c, _, m => (c, m)
  | n + 1, t, c, a, m => if meV s a w t = -9 then (-9, m) else rpR s w n (t + 1) (c + wmV s a t (meV s a w t)) (goX a (meV s a w t)) (moX m (meV s a w t) t)
def rpV (s : Nat → Int32) : Int32 × (Nat → Int32) := rpR s (awV s) (nH s) 0 0 (fun p => pfS s p 9) (fun _ => 0)
/-- how ages, answers and mended rows stand -/
def rpI (s : Nat → Int32) (a m : Nat → Int32) (h : Hp) : Prop := (∀ p, p < nP s → h.1 125 p = awV s p) ∧ (∀ p, p < nP s → h.1 127 p = a p) ∧ ∀ p, p < nP s → h.1 128 p = m p
def rpP (s : Nat → Int32) (h : Hp) : Int32 → Hp → Prop := fun v h' => v = (rpV s).1 ∧ Fr [118, 125, 127, 128] h h' ∧ (¬ v = -9 → ∀ p, p < nP s → h'.1 128 p = (rpV s).2 p)
set_option maxHeartbeats 4000000 in
theorem rp_plants {t : Nat} (ht : t < 5) (h : Hp) (s : Nat → Int32) (hs : h.1 114 = s) (o : OKs s) (c x : Int32) (a m : Nat → Int32) {Q : Int32 → Hp → Prop} (k : ∀ g : Hp, Fr [118, 125, 127, 128] h g → rpI s (goX a x) (moX m x t) g → GoI 7 mX11_repairs 53 [(0, .ref 113), (1, .int c), (2, .int (nI (t + 1)))] [] g Q) : ∀ n p : Nat, n + p = nP s → ∀ g : Hp, Fr [118, 125, 127, 128] h g → rpI s (fun q => if q < p then goX a x q else a q) (fun q => if q < p then moX m x t q else m q) g → GoI 7 mX11_repairs 90 [(0, .ref 113), (1, .int c), (2, .int (nI t)), (3, .int x), (4, .int (nI p))] [] g Q := by
  have hP := o.hP
  intro n
  induction n with
  | zero =>
    intro p hp g f i
    have e := (f.1 114 (by decide)).trans hs
    refine b_X11_repairs_90 ⟨fun _ => ?_, fun c => absurd ?_ c⟩
    · rw [nI_1]
      refine k g f ⟨i.1, fun q hq => ?_, fun q hq => ?_⟩
      · exact (i.2.1 q hq).trans (if_pos (by omega))
      · exact (i.2.2 q hq).trans (if_pos (by omega))
    · rw [e, o.eP]
      exact nI_le (by omega) (by omega)
  | succ n ih =>
    intro p hp g f i
    have e := (f.1 114 (by decide)).trans hs
    have ip : g.1 127 p = a p := (i.2.1 p (by omega)).trans (if_neg (by omega))
    have mp : g.1 128 p = m p := (i.2.2 p (by omega)).trans (if_neg (by omega))
    have s125 : ∀ z : Int32, m p ||| z = moX m x t p → GoI 7 mX11_repairs 125 [(0, .ref 113), (1, .int c), (2, .int (nI t)), (3, .int x), (4, .int (nI p))] [.int z, .int (m p), .int (nI p), .ref 128] g Q := by
      intro z hz
      refine b_X11_repairs_125 ?_
      rw [nI_clamp (show p < 2 ^ 31 by omega), hz]
      refine ⟨vp_in_nI (by omega) (by omega), fun g2 e2 => ⟨vp_in_nI (by omega) (by omega), pc (ct_has x p g2) ?_⟩⟩
      have i2 : g2.1 127 p = a p := by
        rw [e2, ui_ne (by decide)]
        exact ip
      rw [i2]
      refine pc (ct_goesOn _ _ g2) ⟨vp_in_nI (by omega) (by omega), fun g15 e15 => ?_⟩
      rw [nI_1]
      refine ih (p + 1) (by omega) g15 ?_ ⟨fun q hq => ?_, fun q hq => ?_, fun q hq => ?_⟩
      · rw [e15, e2]
        exact (f.tr (Fr.ui (by decide))).tr (Fr.ui (by decide))
      · rw [e15, ui_ne (by decide), e2, ui_ne (by decide)]
        exact i.1 q hq
      · rw [e15, ui_get]
        dsimp only
        by_cases y : q = p
        · rw [if_pos ⟨rfl, y⟩, if_pos (by omega), y]
          rfl
        · rw [if_neg (fun z => y z.2), e2, ui_ne (by decide), i.2.1 q hq]
          dsimp only
          by_cases y2 : q < p
          · rw [if_pos y2, if_pos (by omega)]
          · rw [if_neg y2, if_neg (by omega)]
      · rw [e15, ui_ne (by decide), e2, ui_get]
        dsimp only
        by_cases y : q = p
        · rw [if_pos ⟨rfl, y⟩, if_pos (by omega), y]
        · rw [if_neg (fun z => y z.2), i.2.2 q hq]
          dsimp only
          by_cases y2 : q < p
          · rw [if_pos y2, if_pos (by omega)]
          · rw [if_neg y2, if_neg (by omega)]
    refine b_X11_repairs_90 ⟨fun c => absurd c ?_, fun _ => ⟨vp_in_nI (by omega) (by omega), pc (ct_has x p g) ?_⟩⟩
    · rw [e, o.eP]
      exact nI_ge (by omega) (by omega)
    · rw [nI_clamp (show p < 2 ^ 31 by omega), mp]
      refine ⟨fun c => s125 0 ?_, fun c => s125 _ ?_⟩
      · rw [moX, bI_0.mp c]
        rfl
      · rw [moX, if_pos (bI_t c)]
set_option maxHeartbeats 4000000 in
theorem ct_repairs (h : Hp) (s : Nat → Int32) (hs : h.1 114 = s) (o : OKs s) : CtI 7 mX11_repairs [.ref 113] h (rpP s h) := by
  have hP := o.hP
  have hH := o.hH
  have l2 : ∀ n t : Nat, n + t = nH s → ∀ (c : Int32) (a m : Nat → Int32) (g : Hp), Fr [118, 125, 127, 128] h g → rpI s a m g → rpR s (awV s) n t c a m = rpV s → GoI 7 mX11_repairs 53 [(0, .ref 113), (1, .int c), (2, .int (nI t))] [] g (rpP s h) := by
    intro n
    induction n with
    | zero =>
      intro t ht c a m g f i er
      have e := (f.1 114 (by decide)).trans hs
      refine b_X11_repairs_53 ⟨fun _ => ?_, fun c => absurd ?_ c⟩
      · refine ⟨?_, f, fun _ p hp => ?_⟩
        · rw [← er]
          rfl
        · rw [← er]
          exact i.2.2 p hp
      · rw [e, o.eH]
        exact nI_le (by omega) (by omega)
    | succ n ih =>
      intro t ht c a m g f i er
      have e := (f.1 114 (by decide)).trans hs
      refine b_X11_repairs_53 ⟨fun c => absurd c ?_, fun _ => ⟨_, ct_mends (by omega) g s e o a (awV s) i.2.1 i.1, fun v h4 q => ?_⟩⟩
      · rw [e, o.eH]
        exact nI_ge (by omega) (by omega)
      · obtain ⟨q1, q2⟩ := q
        have f4 : Fr [118, 125, 127, 128] h h4 := f.tr (q2.mono (by decide))
        have e4 := (f4.1 114 (by decide)).trans hs
        have a4 : ∀ p, p < nP s → h4.1 127 p = a p := fun p hp => by
          rw [q2.1 127 (by decide)]
          exact i.2.1 p hp
        subst q1
        refine ⟨fun c2 => ⟨_, ct_withStarts (by omega) _ h4 s e4 o a a4, fun v8 h9 q => ?_⟩, fun c2 => ?_⟩
        · obtain ⟨r1, r2⟩ := q
          have f9 : Fr [118, 125, 127, 128] h h9 := f4.tr (r2.mono (by decide))
          rw [rpR, if_neg c2] at er
          rw [r1]
          refine rp_plants (by omega) h s hs o _ _ a m (fun g10 f10 i10 => ih (t + 1) (by omega) _ _ _ g10 f10 i10 er) (nP s) 0 rfl h9 f9 ⟨fun q hq => ?_, fun q hq => ?_, fun q hq => ?_⟩
          · rw [r2.1 125 (by decide), q2.1 125 (by decide)]
            exact i.1 q hq
          · rw [r2.1 127 (by decide), q2.1 127 (by decide)]
            exact (i.2.1 q hq).trans (if_neg (by omega)).symm
          · rw [r2.1 128 (by decide), q2.1 128 (by decide)]
            exact (i.2.2 q hq).trans (if_neg (by omega)).symm
        · rw [rpR, if_pos c2] at er
          refine ⟨?_, f4, fun c3 => absurd rfl c3⟩
          rw [← er]
  have l1 : ∀ n p : Nat, n + p = nP s → ∀ g : Hp, Fr [118, 125, 127, 128] h g → (∀ q, q < p → g.1 125 q = awV s q ∧ g.1 127 q = pfS s q 9 ∧ g.1 128 q = 0) → GoI 7 mX11_repairs 2 [(0, .ref 113), (1, .int (nI p))] [] g (rpP s h) := by
    intro n
    induction n with
    | zero =>
      intro p hp g f i
      have hp : p = nP s := by omega
      subst hp
      have e := (f.1 114 (by decide)).trans hs
      refine b_X11_repairs_2 ⟨fun _ => l2 (nH s) 0 rfl 0 (fun p => pfS s p 9) (fun _ => 0) g f ⟨fun q hq => (i q hq).1, fun q hq => (i q hq).2.1, fun q hq => (i q hq).2.2⟩ rfl, fun c => absurd ?_ c⟩
      rw [e, o.eP]
      exact nI_le (by omega) (by omega)
    | succ n ih =>
      intro p hp g f i
      have e := (f.1 114 (by decide)).trans hs
      refine b_X11_repairs_2 ⟨fun c => absurd c ?_, fun _ => pc (ct_answerOf (by omega) g s e o) ⟨vp_in_nI (by omega) (by omega), fun g7 e7 => pc (ct_of1 (w := 9) (by omega) (by decide) g7) ⟨vp_in_nI (by omega) (by omega), fun g14 e14 => ⟨vp_in_nI (by omega) (by omega), fun g16 e16 => ?_⟩⟩⟩⟩
      · rw [e, o.eP]
        exact nI_ge (by omega) (by omega)
      · rw [nI_clamp (show p < 2 ^ 31 by omega)] at e7 e14 e16
        have s7 : g7.1 114 = s := by
          rw [e7, ui_ne (by decide)]
          exact e
        rw [s7] at e14
        rw [nI_1]
        refine ih (p + 1) (by omega) g16 ?_ (fun q hq => ?_)
        · rw [e16, e14, e7]
          exact ((f.tr (Fr.ui (by decide))).tr (Fr.ui (by decide))).tr (Fr.ui (by decide))
        · by_cases y : q = p
          · subst y
            refine ⟨?_, ?_, ?_⟩
            · rw [e16, ui_ne (by decide), e14, ui_ne (by decide), e7, ui_aa]
            · rw [e16, ui_ne (by decide), e14, ui_aa]
            · rw [e16, ui_aa]
          · obtain ⟨j1, j2, j3⟩ := i q (by omega)
            refine ⟨?_, ?_, ?_⟩
            · rw [e16, ui_ne (by decide), e14, ui_ne (by decide), e7, ui_nj y]
              exact j1
            · rw [e16, ui_ne (by decide), e14, ui_nj y, e7, ui_ne (by decide)]
              exact j2
            · rw [e16, ui_nj y, e14, ui_ne (by decide), e7, ui_ne (by decide)]
              exact j3
  exact e_X11_repairs (l1 (nP s) 0 rfl h Fr.rf (fun q hq => by omega))
/-- what repaired answers -/
def rprV (s : Nat → Int32) (p : Int32) : Int32 := if (rpV s).1 = -9 then -9 else if p = -1 then (rpV s).1 else (rpV s).2 p.toNatClampNeg
def rpW (s : Nat → Int32) (p : Int32) : Int32 := if p = -1 then 0 else if inR p 0 (s 3 - 1) then 0 else -1
theorem ct_repaired (p : Int32) (h : Hp) (s : Nat → Int32) (hs : h.1 114 = s) (o : OKs s) : CtI 8 mX11_repaired [.ref 113, .int p] h (okw (rpW s p) h (fun v h' => v = rprV s p ∧ Fr [118, 125, 127, 128] h h')) := by
  have hP := o.hP
  have s19 : rpW s p = 0 → (¬ p = -1 → ∃ t, p = nI t ∧ t < nP s) → GoI 8 mX11_repaired 19 [(0, .ref 113), (1, .int p)] [] h (okw (rpW s p) h (fun v h' => v = rprV s p ∧ Fr [118, 125, 127, 128] h h')) := by
    intro ew ep
    refine b_X11_repaired_19 ⟨_, ct_repairs h s hs o, fun v h4 q => ?_⟩
    obtain ⟨q1, q2, q3⟩ := q
    refine ⟨fun c => okw_t ew ⟨?_, q2⟩, fun c => ⟨fun c2 => ?_, fun c2 => okw_t ew ⟨?_, q2⟩⟩⟩
    · rw [q1] at c
      unfold rprV
      rw [if_pos c, q1, c]
    · obtain ⟨t, et, ht⟩ := ep c2
      refine ⟨by rw [et]; exact vp_in_nI (by omega) (by omega), okw_t ew ⟨?_, q2⟩⟩
      have c3 := c
      rw [q1] at c3
      unfold rprV
      rw [if_neg c3, if_neg c2, et, nI_clamp (show t < 2 ^ 31 by omega)]
      exact q3 c t ht
    · rw [q1] at c
      unfold rprV
      rw [if_neg c, if_pos c2, q1]
  refine e_X11_repaired ⟨fun c => s19 ?_ (fun c2 => absurd c c2), fun c => pc (ct_isPlant p h) ⟨fun c2 => s19 ?_ (fun _ => ?_), fun c2 => ⟨_, ct_noW isW_1 h, fun v h' q => ?_⟩⟩⟩
  · unfold rpW
    rw [if_pos c]
  · rw [hs] at c2
    unfold rpW
    rw [if_neg c, if_pos (bI_t c2)]
  · rw [hs] at c2
    exact isP_nI o (bI_t c2)
  · rw [hs] at c2
    have ew : rpW s p = -1 := by
      unfold rpW
      rw [if_neg c, if_neg (by rw [bI_0.mp c2]; decide)]
    rw [ew]
    exact okw_f (by decide) q
