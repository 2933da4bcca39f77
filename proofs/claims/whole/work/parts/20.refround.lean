/-! ===== the reference: rounds of prices ===== -/
theorem wb_nI {x : Int32} {m : Nat} (hm : m < 2 ^ 31) (c : wbS x 0 (nI m) = 0) : ∃ n, x = nI n ∧ n ≤ m := by
  unfold wbS at c
  by_cases c1 : x < 0
  · rw [if_pos c1] at c
    exact absurd c (by decide)
  · rw [if_neg c1] at c
    by_cases c2 : nI m < x
    · rw [if_pos c2] at c
      exact absurd c (by decide)
    · have h0 : 0 ≤ x.toInt := by have := Int32.le_iff_toInt_le.mp (Int32.not_lt.mp c1); simpa using this
      have h1 := Int32.le_iff_toInt_le.mp (Int32.not_lt.mp c2)
      rw [nI_toInt hm] at h1
      refine ⟨x.toInt.toNat, ?_, by omega⟩
      apply Int32.toInt_inj.mp
      rw [nI_toInt (by omega)]
      omega
/-- less one after another -/
def subO (g : Nat → Int32) (a : Int32) : Nat → Int32
  | 0 => a
  | n + 1 => subO g a n - g n
/-- what lacks in an hour -/
def lkV (s : Nat → Int32) (t : Nat) : Int32 := subO (fun p => gvV s p (awV s p) t) (s (4 + t)) (nP s)
def cl9 (v : Int32) : Int32 := if 0 ≤ v then (if v ≤ 99 then v else 99) else 0
/-- the row s behind round k, up to hour j -/
def rdP (s : Nat → Int32) (k j : Nat) : Nat → Int32 := fun i => if 14 ≤ i ∧ i < 14 + j then cl9 (s i + lkV s (i - 14) * s 2 / nI k) else s i
def rdV (s : Nat → Int32) (k : Nat) : Nat → Int32 := rdP s k (nH s)
theorem rdP_lo (s : Nat → Int32) (k j i : Nat) (h : i < 14 ∨ 14 + j ≤ i) : rdP s k j i = s i := by
  unfold rdP
  rw [if_neg (by omega)]
theorem rdP_up (s : Nat → Int32) (k j : Nat) : upd (rdP s k j) (14 + j) (cl9 (s (14 + j) + lkV s j * s 2 / nI k)) = rdP s k (j + 1) := by
  funext i
  by_cases e : i = 14 + j
  · subst e
    rw [upd_at]
    unfold rdP
    rw [if_pos (by omega), show 14 + j - 14 = j by omega]
  · rw [upd_ne _ _ e]
    unfold rdP
    by_cases e2 : 14 ≤ i ∧ i < 14 + j
    · rw [if_pos e2, if_pos (by omega)]
    · rw [if_neg e2, if_neg (by omega)]
set_option maxHeartbeats 4000000 in
theorem ct_round {k : Nat} (hk : 0 < k) (hk2 : k < 100) (h : Hp) (s : Nat → Int32) (hs : h.1 114 = s) (o : OKs s) : CtV 5 mX11_round [.ref 113, .int (nI k)] h (fun h' => Fr [114, 125, 126] h h' ∧ h'.1 114 = rdV s k) := by
  have hH := o.hH
  have hP := o.hP
  have hk0 : ¬ nI k = nI 0 := by
    rw [nI_eq (by omega) (by omega)]
    omega
  have l3 : ∀ n t : Nat, n + t = nH s → ∀ g : Hp, Fr [114, 125, 126] h g → g.1 114 = rdP s k t → (∀ j, j < nH s → g.1 126 j = lkV s j) → GoV 5 mX11_round 102 [(0, .ref 113), (1, .int (nI k)), (2, .int (nI t))] [] g (fun h' => Fr [114, 125, 126] h h' ∧ h'.1 114 = rdV s k) := by
    intro n
    induction n with
    | zero =>
      intro t ht g f e l
      have ht : t = nH s := by omega
      subst ht
      refine b_X11_round_102 ⟨fun _ => ⟨f, e⟩, fun c => absurd ?_ c⟩
      rw [e, rdP_lo _ _ _ _ (by omega), o.eH]
      exact nI_le (by omega) (by omega)
    | succ n ih =>
      intro t ht g f e l
      have v166 : ∀ v : Int32, v = cl9 (s (14 + t) + lkV s t * s 2 / nI k) → GoV 5 mX11_round 166 [(0, .ref 113), (1, .int (nI k)), (2, .int (nI t))] [.int v, .int (nI (14 + t)), .ref 114] g (fun h' => Fr [114, 125, 126] h h' ∧ h'.1 114 = rdV s k) := by
        intro v hv
        refine b_X11_round_166 ?_
        rw [nI_clamp (show 14 + t < 2 ^ 31 by omega), nI_1]
        refine ⟨vp_in_nI (by omega) (by omega), fun g2 e2 => ih (t + 1) (by omega) g2 ?_ ?_ ?_⟩
        · rw [e2]
          exact f.tr (Fr.ui (by decide))
        · rw [e2, ui_up, e, hv]
          exact rdP_up s k t
        · intro j hj
          rw [e2, ui_ne (by decide)]
          exact l j hj
      refine b_X11_round_102 ⟨fun c => absurd c ?_, fun _ => ?_⟩
      · rw [e, rdP_lo _ _ _ _ (by omega), o.eH]
        exact nI_ge (by omega) (by omega)
      · rw [ix14, nI_clamp (show 14 + t < 2 ^ 31 by omega), nI_clamp (show t < 2 ^ 31 by omega), l t (by omega), e, rdP_lo s k t (14 + t) (by omega), rdP_lo s k t 2 (by omega)]
        refine ⟨vp_in_nI (by omega) (by omega), vp_in_nI (by omega) (by omega), hk0, fun c => ⟨fun c2 => v166 _ ?_, fun c2 => v166 _ ?_⟩, fun c => v166 _ ?_⟩
        · unfold cl9
          rw [if_pos c, if_pos c2]
        · unfold cl9
          rw [if_pos c, if_neg c2]
        · unfold cl9
          rw [if_neg c]
  have l2 : ∀ n t : Nat, n + t = nH s → ∀ g : Hp, Fr [125, 126] h g → (∀ p, p < nP s → g.1 125 p = awV s p) → (∀ j, j < t → g.1 126 j = lkV s j) → GoV 5 mX11_round 31 [(0, .ref 113), (1, .int (nI k)), (2, .int (nI t))] [] g (fun h' => Fr [114, 125, 126] h h' ∧ h'.1 114 = rdV s k) := by
    intro n
    induction n with
    | zero =>
      intro t ht g f a l
      have ht : t = nH s := by omega
      subst ht
      have e := (f.1 114 (by decide)).trans hs
      refine b_X11_round_31 ⟨fun _ => l3 (nH s) 0 rfl g (f.mono (by decide)) ?_ l, fun c => absurd ?_ c⟩
      · rw [e]
        funext i
        rw [rdP_lo _ _ _ _ (by omega)]
      · rw [e, o.eH]
        exact nI_le (by omega) (by omega)
    | succ n ih =>
      intro t ht g f a l
      have e := (f.1 114 (by decide)).trans hs
      have inn : ∀ m q : Nat, m + q = nP s → ∀ g : Hp, Fr [125, 126] h g → (∀ p, p < nP s → g.1 125 p = awV s p) → (∀ j, j < t → g.1 126 j = lkV s j) → g.1 126 t = subO (fun p => gvV s p (awV s p) t) (s (4 + t)) q → GoV 5 mX11_round 57 [(0, .ref 113), (1, .int (nI k)), (2, .int (nI t)), (3, .int (nI q))] [] g (fun h' => Fr [114, 125, 126] h h' ∧ h'.1 114 = rdV s k) := by
        intro m
        induction m with
        | zero =>
          intro q hq g f a l lt
          have hq : q = nP s := by omega
          subst hq
          have e := (f.1 114 (by decide)).trans hs
          refine b_X11_round_57 ⟨fun _ => ?_, fun c => absurd ?_ c⟩
          · rw [nI_1]
            refine ih (t + 1) (by omega) g f a (fun j hj => ?_)
            rcases Nat.lt_or_ge j t with z | z
            · exact l j z
            · rw [show j = t by omega]
              exact lt
          · rw [e, o.eP]
            exact nI_le (by omega) (by omega)
        | succ m ihm =>
          intro q hq g f a l lt
          have e := (f.1 114 (by decide)).trans hs
          refine b_X11_round_57 ⟨fun c => absurd c ?_, fun _ => ?_⟩
          · rw [e, o.eP]
            exact nI_ge (by omega) (by omega)
          · rw [nI_clamp (show q < 2 ^ 31 by omega), nI_clamp (show t < 2 ^ 31 by omega), a q (by omega), nI_1, lt]
            refine ⟨vp_in_nI (by omega) (by omega), vp_in_nI (by omega) (by omega), pc (ct_givesBy (by omega) (by omega) _ g s e) ⟨vp_in_nI (by omega) (by omega), fun g9 e9 => ihm (q + 1) (by omega) g9 ?_ ?_ ?_ ?_⟩⟩
            · rw [e9]
              exact f.tr (Fr.ui (by decide))
            · intro p hp
              rw [e9, ui_ne (by decide)]
              exact a p hp
            · intro j hj
              rw [e9, ui_nj (by omega)]
              exact l j hj
            · rw [e9, ui_aa]
              rfl
      refine b_X11_round_31 ⟨fun c => absurd c ?_, fun _ => ?_⟩
      · rw [e, o.eH]
        exact nI_ge (by omega) (by omega)
      · rw [ix4, nI_clamp (show 4 + t < 2 ^ 31 by omega), nI_clamp (show t < 2 ^ 31 by omega), e]
        refine ⟨vp_in_nI (by omega) (by omega), vp_in_nI (by omega) (by omega), fun g3 e3 => inn (nP s) 0 rfl g3 ?_ ?_ ?_ ?_⟩
        · rw [e3]
          exact f.tr (Fr.ui (by decide))
        · intro p hp
          rw [e3, ui_ne (by decide)]
          exact a p hp
        · intro j hj
          rw [e3, ui_nj (by omega)]
          exact l j hj
        · rw [e3, ui_aa]
          rfl
  have l1 : ∀ n q : Nat, n + q = nP s → ∀ g : Hp, Fr [125, 126] h g → (∀ p, p < q → g.1 125 p = awV s p) → GoV 5 mX11_round 2 [(0, .ref 113), (1, .int (nI k)), (2, .int (nI q))] [] g (fun h' => Fr [114, 125, 126] h h' ∧ h'.1 114 = rdV s k) := by
    intro n
    induction n with
    | zero =>
      intro q hq g f a
      have hq : q = nP s := by omega
      subst hq
      have e := (f.1 114 (by decide)).trans hs
      refine b_X11_round_2 ⟨fun _ => l2 (nH s) 0 rfl g f a (fun j hj => by omega), fun c => absurd ?_ c⟩
      rw [e, o.eP]
      exact nI_le (by omega) (by omega)
    | succ n ih =>
      intro q hq g f a
      have e := (f.1 114 (by decide)).trans hs
      refine b_X11_round_2 ⟨fun c => absurd c ?_, fun _ => pc (ct_answerOf (by omega) g s e o) ⟨vp_in_nI (by omega) (by omega), fun g7 e7 => ?_⟩⟩
      · rw [e, o.eP]
        exact nI_ge (by omega) (by omega)
      · rw [nI_clamp (show q < 2 ^ 31 by omega)] at e7
        rw [nI_1]
        refine ih (q + 1) (by omega) g7 ?_ (fun p hp => ?_)
        · rw [e7]
          exact f.tr (Fr.ui (by decide))
        · rw [e7, ui_get]
          by_cases z : p = q
          · rw [if_pos ⟨rfl, z⟩, z]
          · rw [if_neg (fun y => z y.2)]
            exact a p (by omega)
  exact e_X11_round (l1 (nP s) 0 rfl h Fr.rf (fun p hp => by omega))
