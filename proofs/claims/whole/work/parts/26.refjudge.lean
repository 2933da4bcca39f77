/-! ===== the reference: judge, what a list is ===== -/
/-- the set that a list tells for an hour -/
def seL (it : Nat → Int32) (l t p : Nat) : Bool := hasB (it (20 * l + p)) t
/-- hours n from t on: the first wrong -/
def fwR (s : Nat → Int32) (it : Nat → Int32) (l : Nat) : Nat → Nat → (Nat → Int32) → Int32
  | 0, _, _ => -9
  | n + 1, t, a => if maV s a (nI (bitsN (seL it l t) (nP s))) && canF (nP s) (pfS s) (s (4 + t)) (s (9 + t)) (hasB (nI (bitsN (seL it l t) (nP s)))) (hasB (nI (bitsN (frA a (nI (bitsN (seL it l t) (nP s)))) (nP s)))) then fwR s it l n (t + 1) (goX a (nI (bitsN (seL it l t) (nP s)))) else nI t
def fwV (s : Nat → Int32) (it : Nat → Int32) (l : Nat) : Int32 := fwR s it l (nH s) 0 (fun p => pfS s p 9)
def fwP (s : Nat → Int32) (it : Nat → Int32) (l : Nat) (h : Hp) : Int32 → Hp → Prop := fun v h' => v = fwV s it l ∧ Fr [127] h h'
theorem fw_ages {t l : Nat} (h : Hp) (s it : Nat → Int32) (hs : h.1 114 = s) (o : OKs s) (x : Int32) (a : Nat → Int32) (k : ∀ g : Hp, Fr [127] h g → (∀ p, p < nP s → g.1 127 p = goX a x p) → GoI 3 mX11_firstWrong 33 [(0, .ref 113), (1, .int (nI l)), (2, .int (nI (t + 1)))] [] g (fwP s it l h)) : ∀ n p : Nat, n + p = nP s → ∀ g : Hp, Fr [127] h g → (∀ q, q < nP s → g.1 127 q = if q < p then goX a x q else a q) → GoI 3 mX11_firstWrong 122 [(0, .ref 113), (1, .int (nI l)), (2, .int (nI t)), (3, .int x), (4, .int (nI p))] [] g (fwP s it l h) := by
  have hP := o.hP
  intro n
  induction n with
  | zero =>
    intro p hp g f i
    have e := (f.1 114 (by decide)).trans hs
    refine b_X11_firstWrong_122 ⟨fun _ => ?_, fun c => absurd ?_ c⟩
    · rw [nI_1]
      exact k g f (fun q hq => (i q hq).trans (if_pos (by omega)))
    · rw [e, o.eP]
      exact nI_le (by omega) (by omega)
  | succ n ih =>
    intro p hp g f i
    have e := (f.1 114 (by decide)).trans hs
    have ip : g.1 127 p = a p := (i p (by omega)).trans (if_neg (by omega))
    refine b_X11_firstWrong_122 ⟨fun c => absurd c ?_, fun _ => ⟨vp_in_nI (by omega) (by omega), pc (ct_has x p g) ?_⟩⟩
    · rw [e, o.eP]
      exact nI_ge (by omega) (by omega)
    · rw [nI_clamp (show p < 2 ^ 31 by omega), ip]
      refine pc (ct_goesOn _ _ g) ⟨vp_in_nI (by omega) (by omega), fun g13 e13 => ?_⟩
      rw [nI_1]
      refine ih (p + 1) (by omega) g13 ?_ (fun q hq => ?_)
      · rw [e13]
        exact f.tr (Fr.ui (by decide))
      · rw [e13, ui_get]
        by_cases y : q = p
        · rw [if_pos ⟨rfl, y⟩, if_pos (by omega), y]
          rfl
        · rw [if_neg (fun z => y z.2), i q hq]
          by_cases y2 : q < p
          · rw [if_pos y2, if_pos (by omega)]
          · rw [if_neg y2, if_neg (by omega)]
set_option maxHeartbeats 4000000 in
theorem ct_firstWrong {l : Nat} (hl : l < 4) (h : Hp) (s : Nat → Int32) (hs : h.1 114 = s) (o : OKs s) (it : Nat → Int32) (hi : h.1 130 = it) : CtI 3 mX11_firstWrong [.ref 113, .int (nI l)] h (fwP s it l h) := by
  have hP := o.hP
  have hH := o.hH
  have l2 : ∀ n t : Nat, n + t = nH s → ∀ (a : Nat → Int32) (g : Hp), Fr [127] h g → (∀ q, q < nP s → g.1 127 q = a q) → fwR s it l n t a = fwV s it l → GoI 3 mX11_firstWrong 33 [(0, .ref 113), (1, .int (nI l)), (2, .int (nI t))] [] g (fwP s it l h) := by
    intro n
    induction n with
    | zero =>
      intro t ht a g f i er
      have e := (f.1 114 (by decide)).trans hs
      refine b_X11_firstWrong_33 ⟨fun _ => ⟨er, f⟩, fun c => absurd ?_ c⟩
      rw [e, o.eH]
      exact nI_le (by omega) (by omega)
    | succ n ih =>
      intro t ht a g f i er
      have e := (f.1 114 (by decide)).trans hs
      have ei := (f.1 130 (by decide)).trans hi
      have inn : ∀ m p : Nat, m + p = nP s → GoI 3 mX11_firstWrong 48 [(0, .ref 113), (1, .int (nI l)), (2, .int (nI t)), (3, .int (nI (bitsN (seL it l t) p))), (4, .int (nI p))] [] g (fwP s it l h) := by
        intro m
        induction m with
        | zero =>
          intro p hp
          have hp : p = nP s := by omega
          subst hp
          rw [fwR] at er
          refine b_X11_firstWrong_48 ⟨fun _ => pc (ct_mayAll _ g s e o a i) ⟨fun c => ⟨?_, f⟩, fun c => pc (ct_freshIn _ g s e o a i) (pc (ct_canDo hP (by omega) _ _ g (by rw [e]; exact o.eP)) ⟨fun c2 => ?_, fun c2 => ⟨?_, f⟩⟩)⟩, fun c => absurd ?_ c⟩
          · rw [← er, bI_0.mp c]
            rfl
          · have c3 := bI_t c2
            rw [e] at c3
            rw [bI_t c, c3] at er
            exact fw_ages h s it hs o _ a (fun g2 f2 i2 => ih (t + 1) (by omega) _ g2 f2 i2 er) (nP s) 0 rfl g f (fun q hq => (i q hq).trans (if_neg (by omega)).symm)
          · have c3 := bI_0.mp c2
            rw [e] at c3
            rw [← er, c3, Bool.and_false]
            rfl
          · rw [e, o.eP]
            exact nI_le (by omega) (by omega)
        | succ m ihm =>
          intro p hp
          have ih2 := ihm (p + 1) (by omega)
          have s87 : ∀ z : Int32, (z = if seL it l t p then (1 : Int32) <<< (nI p &&& 31) else 0) → GoI 3 mX11_firstWrong 87 [(0, .ref 113), (1, .int (nI l)), (2, .int (nI t)), (4, .int (nI p))] [.int z, .int (nI (bitsN (seL it l t) p))] g (fwP s it l h) := by
            intro z hz
            refine b_X11_firstWrong_87 ?_
            rw [bitsN_or2 (by omega) z hz, nI_1]
            exact ih2
          refine b_X11_firstWrong_48 ⟨fun c => absurd c ?_, fun _ => ?_⟩
          · rw [e, o.eP]
            exact nI_ge (by omega) (by omega)
          · rw [ix20, nI_clamp (show 20 * l + p < 2 ^ 31 by omega), ei]
            refine ⟨vp_in_nI (by omega) (by omega), pc (ct_has _ t g) ⟨fun c => s87 0 ?_, fun c => s87 _ ?_⟩⟩
            · rw [seL, bI_0.mp c]
              rfl
            · rw [seL, if_pos (bI_t c)]
      refine b_X11_firstWrong_33 ⟨fun c => absurd c ?_, fun _ => inn (nP s) 0 rfl⟩
      rw [e, o.eH]
      exact nI_ge (by omega) (by omega)
  have l1 : ∀ n p : Nat, n + p = nP s → ∀ g : Hp, Fr [127] h g → (∀ q, q < p → g.1 127 q = pfS s q 9) → GoI 3 mX11_firstWrong 2 [(0, .ref 113), (1, .int (nI l)), (2, .int (nI p))] [] g (fwP s it l h) := by
    intro n
    induction n with
    | zero =>
      intro p hp g f i
      have hp : p = nP s := by omega
      subst hp
      have e := (f.1 114 (by decide)).trans hs
      refine b_X11_firstWrong_2 ⟨fun _ => l2 (nH s) 0 rfl _ g f i rfl, fun c => absurd ?_ c⟩
      rw [e, o.eP]
      exact nI_le (by omega) (by omega)
    | succ n ih =>
      intro p hp g f i
      have e := (f.1 114 (by decide)).trans hs
      refine b_X11_firstWrong_2 ⟨fun c => absurd c ?_, fun _ => pc (ct_of1 (w := 9) (by omega) (by decide) g) ⟨vp_in_nI (by omega) (by omega), fun g7 e7 => ?_⟩⟩
      · rw [e, o.eP]
        exact nI_ge (by omega) (by omega)
      · rw [nI_clamp (show p < 2 ^ 31 by omega), e] at e7
        rw [nI_1]
        refine ih (p + 1) (by omega) g7 ?_ (fun q hq => ?_)
        · rw [e7]
          exact f.tr (Fr.ui (by decide))
        · rw [e7, ui_get]
          by_cases y : q = p
          · rw [if_pos ⟨rfl, y⟩, y]
          · rw [if_neg (fun z => y z.2)]
            exact i q (by omega)
  exact e_X11_firstWrong (l1 (nP s) 0 rfl h Fr.rf (fun q hq => by omega))
/-- what judge answers -/
def juV (s z it : Nat → Int32) (l : Nat) : Int32 := if z l = -9 then -11 else if s 3 ≤ z l then fwV s it l else 100 + z l
theorem ct_judge (l : Int32) (h : Hp) (s : Nat → Int32) (hs : h.1 114 = s) (o : OKs s) : CtI 4 mX11_judge [.ref 113, .int l] h (okw (if inR l 0 3 then 0 else -1) h (fun v h' => v = juV s (h.1 129) (h.1 130) l.toNatClampNeg ∧ Fr [127] h h')) := by
  refine e_X11_judge (pc (ct_isList l h) ⟨fun c => ?_, fun c => ⟨_, ct_noW isW_1 h, fun w h' q => ?_⟩⟩)
  · obtain ⟨t, et, ht⟩ := isL_nI (bI_t c)
    subst et
    rw [nI_clamp (show t < 2 ^ 31 by omega), hs]
    refine ⟨vp_in_nI (by omega) (by omega), fun c2 => ⟨vp_in_nI (by omega) (by omega), fun c3 => ⟨_, ct_firstWrong ht h s hs o _ rfl, fun v h' q => okw_t (if_pos (bI_t c)) ⟨?_, q.2⟩⟩, fun c3 => ⟨vp_in_nI (by omega) (by omega), okw_t (if_pos (bI_t c)) ⟨?_, Fr.rf⟩⟩⟩, fun c2 => okw_t (if_pos (bI_t c)) ⟨?_, Fr.rf⟩⟩
    · rw [q.1, juV, if_neg c2, if_pos c3]
    · rw [juV, if_neg c2, if_neg c3]
    · rw [juV, if_pos c2]
  · rw [if_neg (by rw [bI_0.mp c]; decide)]
    exact okw_f (by decide) q
/-- the first n items are starts of that kind -/
def soR (it : Nat → Int32) (l : Nat) (kd fg st : Int32) : Nat → Bool
  | 0 => true
  | n + 1 => soR it l kd fg st n && decide (it (20 * l + n) = stS kd fg st (nI (n + 1)))
theorem ct_isSo {l k : Nat} (hl : l < 4) (hk : k ≤ 20) (kd fg st : Int32) (h : Hp) (it : Nat → Int32) (hi : h.1 130 = it) (hz : h.1 129 l = nI k) : CtI 1 mX11_isSo [.ref 113, .int (nI l), .int kd, .int fg, .int st] h (pq (bI (soR it l kd fg st k)) h) := by
  have lp : ∀ n j : Nat, n + j = k → GoI 1 mX11_isSo 6 [(0, .ref 113), (1, .int (nI l)), (2, .int kd), (3, .int fg), (4, .int st), (5, .int (bI (soR it l kd fg st j))), (6, .int (nI j))] [] h (pq (bI (soR it l kd fg st k)) h) := by
    intro n
    induction n with
    | zero =>
      intro j hj
      have hj : j = k := by omega
      subst hj
      refine b_X11_isSo_6 ⟨vp_in_nI (by omega) (by omega), fun _ => ⟨bI_and _, rfl, rfl⟩, fun c => absurd ?_ c⟩
      rw [nI_clamp (show l < 2 ^ 31 by omega), hz]
      exact nI_le (by omega) (by omega)
    | succ n ih =>
      intro j hj
      have ih2 := ih (j + 1) (by omega)
      have no : soR it l kd fg st (j + 1) = false → GoI 1 mX11_isSo 52 [(0, .ref 113), (1, .int (nI l)), (2, .int kd), (3, .int fg), (4, .int st), (6, .int (nI j))] [] h (pq (bI (soR it l kd fg st k)) h) := by
        intro e
        rw [e] at ih2
        refine b_X11_isSo_52 (b_X11_isSo_53 ?_)
        rw [nI_1]
        exact ih2
      refine b_X11_isSo_6 ⟨vp_in_nI (by omega) (by omega), fun c => absurd c ?_, fun _ => ⟨fun c => no ?_, fun c => ?_⟩⟩
      · rw [nI_clamp (show l < 2 ^ 31 by omega), hz]
        exact nI_ge (by omega) (by omega)
      · rw [soR, bI_0.mp c]
        rfl
      · rw [ix20, nI_clamp (show 20 * l + j < 2 ^ 31 by omega), hi]
        refine ⟨vp_in_nI (by omega) (by omega), pc (ct_startsBy _ _ _ _ h) ?_⟩
        rw [nI_1]
        refine ⟨fun c2 => no ?_, fun c2 => b_X11_isSo_53 ?_⟩
        · rw [soR, decide_eq_false c2, Bool.and_false]
        · have e : soR it l kd fg st (j + 1) = true := by
            rw [soR, decide_eq_true c2, bI_t c]
            rfl
          rw [e] at ih2
          rw [nI_1]
          exact ih2
  exact e_X11_isSo (lp k 0 rfl)
