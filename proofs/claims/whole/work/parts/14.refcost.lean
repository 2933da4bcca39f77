/-! ===== the reference: merit, shares, cost of an hour ===== -/
def byI (mr : Int32) (f g : Nat → Int32) : Int32 := if mr = 0 then f 4 - g 4 else if mr = 1 then g 3 - f 3 else 0
/-- p comes ahead of q -/
def ahB (mr : Int32) (fs : Nat → Nat → Int32) (p q : Nat) : Bool := decide (byI mr (fs p) (fs q) < 0) || (decide (byI mr (fs p) (fs q) = 0) && decide (p < q))
theorem ct_isAhead {p q : Nat} (hp : p < 3) (hq : q < 3) (h : Hp) : CtI 1 mX11_isAhead [.ref 113, .int (nI p), .int (nI q)] h (pq (bI (ahB (h.1 114 1) (pfS (h.1 114)) p q)) h) := by
  have key : ∀ x : Int32, byI (h.1 114 1) (pfS (h.1 114) p) (pfS (h.1 114) q) = x → GoI 1 mX11_isAhead 52 [(1, .int (nI p)), (2, .int (nI q))] [.int x] h (pq (bI (ahB (h.1 114 1) (pfS (h.1 114)) p q)) h) := by
    intro x hx
    have e : ahB (h.1 114 1) (pfS (h.1 114)) p q = (decide (x < 0) || (decide (x = 0) && decide (p < q))) := by rw [ahB, hx]
    rw [e]
    refine b_X11_isAhead_52 ⟨fun c => ⟨?_, rfl⟩, fun c => ⟨fun c2 => ⟨?_, rfl⟩, fun c2 => ⟨fun c3 => ⟨?_, rfl⟩, fun c3 => ⟨?_, rfl⟩⟩⟩⟩
    · rw [decide_eq_true c]
      rfl
    · rw [decide_eq_false c, decide_eq_false c2]
      rfl
    · rw [nI_leI (by omega) (by omega)] at c3
      rw [decide_eq_false c, decide_eq_false (show ¬ p < q by omega), Bool.and_false]
      rfl
    · rw [nI_leI (by omega) (by omega)] at c3
      rw [decide_eq_true c2, decide_eq_true (show p < q by omega), decide_eq_false c]
      rfl
  refine e_X11_isAhead ⟨fun c => ⟨fun c2 => key _ ?_, fun c2 => pc (ct_of1 (w := 3) hq (by omega) h) (pc (ct_of1 (w := 3) hp (by omega) h) (key _ ?_))⟩, fun c => pc (ct_of1 (w := 4) hp (by omega) h) (pc (ct_of1 (w := 4) hq (by omega) h) (key _ ?_))⟩
  · rw [byI, if_neg c, if_neg c2]
  · rw [byI, if_neg c, if_pos c2]
  · rw [byI, if_pos c]
/-- how many of the first n come ahead of p -/
def cntA (mr : Int32) (fs : Nat → Nat → Int32) (p : Nat) : Nat → Nat
  | 0 => 0
  | n + 1 => cntA mr fs p n + (if ahB mr fs n p then 1 else 0)
theorem cntA_le (mr : Int32) (fs : Nat → Nat → Int32) (p : Nat) : ∀ n, cntA mr fs p n ≤ n
  | 0 => Nat.le_refl 0
  | n + 1 => by
    have := cntA_le mr fs p n
    unfold cntA
    split <;> omega
/-- from p on, n more: the first with just k ahead of it -/
def bmR (mr : Int32) (fs : Nat → Nat → Int32) (P k : Nat) : Nat → Nat → Nat
  | 0, _ => 0
  | n + 1, p => if cntA mr fs p P = k then p else bmR mr fs P k n (p + 1)
def bmF (mr : Int32) (fs : Nat → Nat → Int32) (P k : Nat) : Nat := bmR mr fs P k P 0
theorem lp_byMerit {P k : Nat} (hP : P ≤ 3) (hk : k < 3) (h : Hp) (hs : h.1 114 3 = nI P) : ∀ n p : Nat, n + p = P → GoI 2 mX11_byMerit 2 [(0, .ref 113), (1, .int (nI k)), (2, .int (nI p))] [] h (pq (nI (bmR (h.1 114 1) (pfS (h.1 114)) P k n p)) h)
  | 0, p, hp => by
    refine b_X11_byMerit_2 ⟨fun _ => ⟨rfl, rfl⟩, fun c => absurd ?_ c⟩
    rw [hs]
    exact nI_le (by omega) (by omega)
  | n + 1, p, hp => by
    have inner : ∀ i q : Nat, i + q = P → GoI 2 mX11_byMerit 17 [(0, .ref 113), (1, .int (nI k)), (2, .int (nI p)), (3, .int (nI (cntA (h.1 114 1) (pfS (h.1 114)) p q))), (4, .int (nI q))] [] h (pq (nI (bmR (h.1 114 1) (pfS (h.1 114)) P k (n + 1) p)) h) := by
      intro i
      induction i with
      | zero =>
        intro q hq
        have hq : q = P := by omega
        subst hq
        have hl := cntA_le (h.1 114 1) (pfS (h.1 114)) p q
        refine b_X11_byMerit_17 ⟨fun _ => ⟨fun c => ?_, fun c => ?_⟩, fun c => absurd ?_ c⟩
        · rw [nI_eq (by omega) (by omega)] at c
          rw [bmR, if_neg c, nI_1]
          exact lp_byMerit hP hk h hs n (p + 1) (by omega)
        · rw [nI_eq (by omega) (by omega)] at c
          rw [bmR, if_pos c]
          exact ⟨rfl, rfl⟩
        · rw [hs]
          exact nI_le (by omega) (by omega)
      | succ i ih =>
        intro q hq
        refine b_X11_byMerit_17 ⟨fun c => absurd c ?_, fun _ => pc (ct_isAhead (by omega) (by omega) h) ?_⟩
        · rw [hs]
          exact nI_ge (by omega) (by omega)
        · have := ih (q + 1) (by omega)
          rw [nI_1]
          rw [cntA] at this
          cases ha : ahB (h.1 114 1) (pfS (h.1 114)) q p with
          | false =>
            rw [ha] at this
            have e : nI (cntA (h.1 114 1) (pfS (h.1 114)) p q) + (if bI false = 0 then (0 : Int32) else 1) = nI (cntA (h.1 114 1) (pfS (h.1 114)) p q) := i32_add0 _
            rw [e]
            exact this
          | true =>
            rw [ha] at this
            have e : nI (cntA (h.1 114 1) (pfS (h.1 114)) p q) + (if bI true = 0 then (0 : Int32) else 1) = nI (cntA (h.1 114 1) (pfS (h.1 114)) p q + 1) := nI_1 _
            rw [e]
            exact this
    refine b_X11_byMerit_2 ⟨fun c => absurd c ?_, fun _ => inner P 0 rfl⟩
    rw [hs]
    exact nI_ge (by omega) (by omega)
theorem ct_byMerit {P k : Nat} (hP : P ≤ 3) (hk : k < 3) (h : Hp) (hs : h.1 114 3 = nI P) : CtI 2 mX11_byMerit [.ref 113, .int (nI k)] h (pq (nI (bmF (h.1 114 1) (pfS (h.1 114)) P k)) h) :=
  e_X11_byMerit (lp_byMerit hP hk h hs P 0 rfl)
theorem bmR_lt (mr : Int32) (fs : Nat → Nat → Int32) (P k : Nat) : ∀ n p, n + p ≤ 3 → bmR mr fs P k n p < 3
  | 0, p, _ => by unfold bmR; omega
  | n + 1, p, h => by
    unfold bmR
    split
    · omega
    · exact bmR_lt mr fs P k n (p + 1) (by omega)
theorem bmF_lt (mr : Int32) (fs : Nat → Nat → Int32) {P : Nat} (k : Nat) (hP : P ≤ 3) : bmF mr fs P k < 3 := bmR_lt mr fs P k P 0 (by omega)
theorem uc_ui (h : Hp) (a : Nat) (g : Nat → Int32) (j : Nat) (x : Int32) : ui (uc h a g) a j x = uc h a (upd g j x) := by
  refine Prod.ext (funext fun q => ?_) rfl
  by_cases hq : q = a
  · subst hq
    funext i
    simp [ui, uc, u2, upd]
  · simp [ui, uc, u2, hq]
theorem uc_self (h : Hp) (a : Nat) : uc h a (h.1 a) = h := by
  refine Prod.ext (funext fun q => ?_) rfl
  by_cases hq : q = a
  · subst hq; simp [uc]
  · simp [uc, hq]
theorem uc_uc (h : Hp) (a : Nat) (f g : Nat → Int32) : uc (uc h a f) a g = uc h a g := by
  refine Prod.ext (funext fun q => ?_) rfl
  by_cases hq : q = a <;> simp [uc, hq]
/-- the shares at first, among the first k, over what stood there -/
def ou0 (fs : Nat → Nat → Int32) (on : Nat → Bool) (g : Nat → Int32) : Nat → (Nat → Int32)
  | 0 => g
  | k + 1 => upd (ou0 fs on g k) k (lsT fs on k)
def lf0 (fs : Nat → Nat → Int32) (on : Nat → Bool) (dem : Int32) : Nat → Int32
  | 0 => dem
  | k + 1 => lf0 fs on dem k - lsT fs on k
/-- one in its turn by merit: what is left, the shares -/
def shT (fs : Nat → Nat → Int32) (on fr : Nat → Bool) (st : Int32 × (Nat → Int32)) (p : Nat) : Int32 × (Nat → Int32) :=
  if on p then (st.1 - imin st.1 (msS (fs p) (fr p) - st.2 p), upd st.2 p (st.2 p + imin st.1 (msS (fs p) (fr p) - st.2 p))) else st
def shR (fs : Nat → Nat → Int32) (on fr : Nat → Bool) (or : Nat → Nat) (st : Int32 × (Nat → Int32)) : Nat → Int32 × (Nat → Int32)
  | 0 => st
  | k + 1 => shT fs on fr (shR fs on fr or st k) (or k)
/-- the shares of an hour -/
def shF (P : Nat) (mr : Int32) (fs : Nat → Nat → Int32) (dem : Int32) (on fr : Nat → Bool) (g : Nat → Int32) : Nat → Int32 := (shR fs on fr (bmF mr fs P) (lf0 fs on dem P, ou0 fs on g P) P).2
theorem upd_at (f : Nat → Int32) (k : Nat) (x : Int32) : upd f k x k = x := by simp [upd]
theorem ct_shares {P t : Nat} (hP : P ≤ 3) (ht : t < 5) (x y : Int32) (h : Hp) (s : Nat → Int32) (hs0 : h.1 114 = s) (hs : s 3 = nI P) : CtV 3 mX11_shares [.ref 113, .int (nI t), .int x, .int y] h (fun h' => h' = uc h 118 (shF P (s 1) (pfS s) (s (4 + t)) (hasB x) (hasB y) (h.1 118))) := by
  have u114 : ∀ g, (uc h 118 g).1 114 = s := fun g => (uc_ne h g (by decide)).trans hs0
  have second : ∀ n k : Nat, n + k = P → GoV 3 mX11_shares 71 [(0, .ref 113), (2, .int x), (3, .int y), (4, .int (shR (pfS s) (hasB x) (hasB y) (bmF (s 1) (pfS s) P) (lf0 (pfS s) (hasB x) (s (4 + t)) P, ou0 (pfS s) (hasB x) (h.1 118) P) k).1), (5, .int (nI k))] [] (uc h 118 (shR (pfS s) (hasB x) (hasB y) (bmF (s 1) (pfS s) P) (lf0 (pfS s) (hasB x) (s (4 + t)) P, ou0 (pfS s) (hasB x) (h.1 118) P) k).2) (fun h' => h' = uc h 118 (shF P (s 1) (pfS s) (s (4 + t)) (hasB x) (hasB y) (h.1 118))) := by
    intro n
    induction n with
    | zero =>
      intro k hk
      have hk : k = P := by omega
      subst hk
      refine b_X11_shares_71 ⟨fun _ => rfl, fun c => absurd ?_ c⟩
      rw [u114, hs]
      exact nI_le (by omega) (by omega)
    | succ n ih =>
      intro k hk
      have hb := bmF_lt (s 1) (pfS s) k hP
      have ih2 := ih (k + 1) (by omega)
      rw [shR] at ih2
      generalize shR (pfS s) (hasB x) (hasB y) (bmF (s 1) (pfS s) P) (lf0 (pfS s) (hasB x) (s (4 + t)) P, ou0 (pfS s) (hasB x) (h.1 118) P) k = st at ih2 ⊢
      obtain ⟨lf, g⟩ := st
      have bm := ct_byMerit (k := k) hP (by omega) (uc h 118 g) (by rw [u114]; exact hs)
      rw [u114] at bm
      generalize bmF (s 1) (pfS s) P k = p at bm hb ih2
      refine b_X11_shares_71 ⟨fun c => absurd c ?_, fun _ => pc bm (pc (ct_has x p _) ⟨fun c => b_X11_shares_145 ?_, fun c => pc (ct_has y p _) (pc (ct_mostOf hb _ _) ⟨vp_in_nI hb (by omega), pc (ct_min _ _ _) ⟨vp_in_nI hb (by omega), vp_in_nI hb (by omega), fun g2 e2 => b_X11_shares_145 ?_⟩⟩)⟩)⟩
      · rw [u114, hs]
        exact nI_ge (by omega) (by omega)
      · rw [bI_0] at c
        rw [nI_1]
        rwa [shT, if_neg (by rw [c]; decide)] at ih2
      · rw [bI_0, Bool.not_eq_false] at c
        rw [nI_1]
        rw [shT, if_pos c] at ih2
        rw [u114, uc_at, nI_clamp (show p < 2 ^ 31 by omega), uc_ui] at e2
        rw [e2, u114, uc_at, nI_clamp (show p < 2 ^ 31 by omega)]
        exact ih2
  have first : ∀ n k : Nat, n + k = P → GoV 3 mX11_shares 13 [(0, .ref 113), (2, .int x), (3, .int y), (4, .int (lf0 (pfS s) (hasB x) (s (4 + t)) k)), (5, .int (nI k))] [] (uc h 118 (ou0 (pfS s) (hasB x) (h.1 118) k)) (fun h' => h' = uc h 118 (shF P (s 1) (pfS s) (s (4 + t)) (hasB x) (hasB y) (h.1 118))) := by
    intro n
    induction n with
    | zero =>
      intro k hk
      have hk : k = P := by omega
      subst hk
      refine b_X11_shares_13 ⟨fun _ => second k 0 rfl, fun c => absurd ?_ c⟩
      rw [u114, hs]
      exact nI_le (by omega) (by omega)
    | succ n ih =>
      intro k hk
      have ih2 := ih (k + 1) (by omega)
      rw [lf0, ou0] at ih2
      have tl : ∀ z : Int32, z = lsT (pfS s) (hasB x) k → GoV 3 mX11_shares 49 [(0, .ref 113), (2, .int x), (3, .int y), (4, .int (lf0 (pfS s) (hasB x) (s (4 + t)) k)), (5, .int (nI k))] [.int z, .int (nI k), .ref 118] (uc h 118 (ou0 (pfS s) (hasB x) (h.1 118) k)) (fun h' => h' = uc h 118 (shF P (s 1) (pfS s) (s (4 + t)) (hasB x) (hasB y) (h.1 118))) := by
        intro z hz
        refine b_X11_shares_49 ⟨vp_in_nI (by omega) (by omega), fun g2 e2 => ⟨vp_in_nI (by omega) (by omega), ?_⟩⟩
        rw [nI_clamp (show k < 2 ^ 31 by omega), uc_ui, hz] at e2
        rw [e2, nI_1, uc_at, nI_clamp (show k < 2 ^ 31 by omega), upd_at]
        exact ih2
      refine b_X11_shares_13 ⟨fun c => absurd c ?_, fun _ => pc (ct_has x k _) ⟨fun c => tl 0 ?_, fun c => pc (ct_leastOf (by omega) _) (tl _ ?_)⟩⟩
      · rw [u114, hs]
        exact nI_ge (by omega) (by omega)
      · rw [bI_0] at c
        rw [lsT, if_neg (by rw [c]; decide)]
      · rw [bI_0, Bool.not_eq_false] at c
        rw [lsT, if_pos c, u114]
  refine e_X11_shares ?_
  rw [hs0, ix4, nI_clamp (show 4 + t < 2 ^ 31 by omega)]
  refine ⟨vp_in_nI (by omega) (by omega), ?_⟩
  have := first P 0 rfl
  rw [show uc h 118 (ou0 (pfS s) (hasB x) (h.1 118) 0) = h from uc_self h 118] at this
  exact this
/-- cost of an hour without starts, by shares g -/
def coT (fs : Nat → Nat → Int32) (on : Nat → Bool) (g : Nat → Int32) : Nat → Int32 := fun p => if on p then fs p 4 * g p + fs p 5 else 0
/-- far: it can't be done -/
def FAR : Int32 := 1000000000
def coF (P : Nat) (mr : Int32) (fs : Nat → Nat → Int32) (dem res : Int32) (on fr : Nat → Bool) (g : Nat → Int32) : Int32 :=
  if canF P fs dem res on fr then sumI (coT fs on (shF P mr fs dem on fr g)) P else FAR
def ouF (P : Nat) (mr : Int32) (fs : Nat → Nat → Int32) (dem res : Int32) (on fr : Nat → Bool) (g : Nat → Int32) : Nat → Int32 :=
  if canF P fs dem res on fr then shF P mr fs dem on fr g else g
theorem ct_costBy {P t : Nat} (hP : P ≤ 3) (ht : t < 5) (x y : Int32) (h : Hp) (s : Nat → Int32) (hs0 : h.1 114 = s) (hs : s 3 = nI P) : CtI 4 mX11_costBy [.ref 113, .int (nI t), .int x, .int y] h (fun v h' => v = coF P (s 1) (pfS s) (s (4 + t)) (s (9 + t)) (hasB x) (hasB y) (h.1 118) ∧ h' = uc h 118 (ouF P (s 1) (pfS s) (s (4 + t)) (s (9 + t)) (hasB x) (hasB y) (h.1 118))) := by
  have hcan := ct_canDo hP ht x y h (by rw [hs0]; exact hs)
  rw [hs0] at hcan
  refine e_X11_costBy (pc hcan ⟨fun c => vc (ct_shares hP ht x y h s hs0 hs) ?_, fun c => ?_⟩)
  · rw [bI_0, Bool.not_eq_false] at c
    rw [coF, ouF, if_pos c, if_pos c]
    generalize shF P (s 1) (pfS s) (s (4 + t)) (hasB x) (hasB y) (h.1 118) = g
    have u114 : (uc h 118 g).1 114 = s := (uc_ne h g (by decide)).trans hs0
    have lp : ∀ n k : Nat, n + k = P → GoI 4 mX11_costBy 26 [(0, .ref 113), (2, .int x), (4, .int (sumI (coT (pfS s) (hasB x) g) k)), (5, .int (nI k))] [] (uc h 118 g) (fun v h' => v = sumI (coT (pfS s) (hasB x) g) P ∧ h' = uc h 118 g) := by
      intro n
      induction n with
      | zero =>
        intro k hk
        have hk : k = P := by omega
        subst hk
        refine b_X11_costBy_26 ⟨fun _ => ⟨rfl, rfl⟩, fun c => absurd ?_ c⟩
        rw [u114, hs]
        exact nI_le (by omega) (by omega)
      | succ n ih =>
        intro k hk
        have ih2 := ih (k + 1) (by omega)
        rw [sumI, coT] at ih2
        refine b_X11_costBy_26 ⟨fun c => absurd c ?_, fun _ => pc (ct_has x k _) ⟨fun c => b_X11_costBy_75 ?_, fun c => pc (ct_of1 (w := 4) (by omega) (by omega) _) ⟨vp_in_nI (by omega) (by omega), pc (ct_of1 (w := 5) (by omega) (by omega) _) (b_X11_costBy_75 ?_)⟩⟩⟩
        · rw [u114, hs]
          exact nI_ge (by omega) (by omega)
        · rw [bI_0] at c
          rw [if_neg (by rw [c]; decide)] at ih2
          rw [nI_1]
          exact ih2
        · rw [bI_0, Bool.not_eq_false] at c
          rw [if_pos c] at ih2
          rw [nI_1, u114, uc_at, nI_clamp (show k < 2 ^ 31 by omega)]
          exact ih2
    exact lp P 0 rfl
  · rw [bI_0] at c
    rw [coF, ouF, if_neg (by rw [c]; decide), if_neg (by rw [c]; decide), uc_self]
    exact ⟨rfl, rfl⟩
