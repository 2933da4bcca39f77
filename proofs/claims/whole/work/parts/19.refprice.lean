/-! ===== the reference: prices and answers ===== -/
/-- what one gives in an hour in which it is on, by prices -/
def anS (s : Nat → Int32) (p t : Nat) (b : Bool) : Int32 := if s (14 + t) ≤ pfS s p 4 then lsS (pfS s p) else msS (pfS s p) b
theorem fr_bI (a : Int32) : (if 0 ≤ a then (0 : Int32) else 1) = bI (decide (a < 0)) := by
  rw [ite_bI', decide_eq_decide.mpr i32_lt0]
theorem ct_answersIn {p t : Nat} (hp : p < 3) (ht : t < 5) (b : Bool) (h : Hp) (s : Nat → Int32) (hs : h.1 114 = s) : CtI 2 mX11_answersIn [.ref 113, .int (nI p), .int (nI t), .int (bI b)] h (pq (anS s p t b) h) := by
  refine e_X11_answersIn ⟨by rw [ix14]; exact vp_in_nI (by omega) (by omega), pc (ct_of1 (w := 4) hp (by decide) h) ?_⟩
  rw [ix14, nI_clamp (show 14 + t < 2 ^ 31 by omega), hs]
  refine ⟨fun c => pc (ct_leastOf hp h) ?_, fun c => pc (ct_mostOf hp b h) ?_⟩
  · unfold anS
    rw [if_pos c, hs]
    exact ⟨rfl, rfl⟩
  · unfold anS
    rw [if_neg c, hs]
    exact ⟨rfl, rfl⟩
/-- what an hour of a row comes to -/
def neT (s : Nat → Int32) (p : Nat) (x : Int32) (t : Nat) : Int32 := if hasB x t then (pfS s p 5 + anS s p t (decide (agS (pfS s p 9) (hasB x) t < 0)) * (pfS s p 4 - s (14 + t))) + ssT (pfS s p) (hasB x) t else 0
def neV (s : Nat → Int32) (p : Nat) (x : Int32) : Int32 := sumI (neT s p x) (nH s)
set_option maxHeartbeats 4000000 in
theorem ct_netOf {p : Nat} (hp : p < 3) (x : Int32) (h : Hp) (s : Nat → Int32) (hs : h.1 114 = s) (o : OKs s) : CtI 3 mX11_netOf [.ref 113, .int (nI p), .int x] h (pq (neV s p x) h) := by
  have hH := o.hH
  have lp : ∀ n t : Nat, n + t = nH s → GoI 3 mX11_netOf 14 [(0, .ref 113), (1, .int (nI p)), (2, .int x), (3, .int (agS (pfS s p 9) (hasB x) t)), (4, .int (sumI (neT s p x) t)), (5, .int (nI t))] [] h (pq (neV s p x) h) := by
    intro n
    induction n with
    | zero =>
      intro t ht
      have ht : t = nH s := by omega
      subst ht
      refine b_X11_netOf_14 ⟨fun _ => ⟨rfl, rfl⟩, fun c => absurd ?_ c⟩
      rw [hs, o.eH]
      exact nI_le (by omega) (by omega)
    | succ n ih =>
      intro t ht
      have ih2 := ih (t + 1) (by omega)
      have s100 : ∀ z : Int32, z = sumI (neT s p x) (t + 1) → GoI 3 mX11_netOf 100 [(0, .ref 113), (1, .int (nI p)), (2, .int x), (3, .int (agS (pfS s p 9) (hasB x) t)), (4, .int z), (5, .int (nI t))] [] h (pq (neV s p x) h) := by
        intro z hz
        refine b_X11_netOf_100 (pc (ct_has x t h) (pc (ct_goesOn _ _ h) ?_))
        rw [nI_1, hz]
        exact ih2
      refine b_X11_netOf_14 ⟨fun c => absurd c ?_, fun _ => pc (ct_has x t h) ⟨fun c => s100 _ ?_, fun c => ?_⟩⟩
      · rw [hs, o.eH]
        exact nI_ge (by omega) (by omega)
      · rw [sumI, neT, bI_0.mp c]
        exact (i32_add0 _).symm
      · have on := bI_t c
        rw [fr_bI]
        refine pc (ct_of1 (w := 5) hp (by decide) h) (pc (ct_answersIn hp (by omega) _ h s hs) (pc (ct_of1 (w := 4) hp (by decide) h) ?_))
        rw [ix14, nI_clamp (show 14 + t < 2 ^ 31 by omega), hs]
        refine ⟨vp_in_nI (by omega) (by omega), fun c2 => b_X11_netOf_97 (s100 _ ?_), fun c2 => pc (ct_startsOf hp _ h) (b_X11_netOf_97 (s100 _ ?_))⟩
        · have e : ssT (pfS s p) (hasB x) t = 0 := by
            unfold ssT frS
            rw [on, decide_eq_false (Int32.not_lt.mpr c2)]
            rfl
          rw [sumI, neT, if_pos on, e, Int32.add_assoc]
        · have e : ssT (pfS s p) (hasB x) t = stS (pfS s p 0) (pfS s p 1) (pfS s p 6) (-(agS (pfS s p 9) (hasB x) t)) := by
            unfold ssT frS
            rw [on, decide_eq_true (i32_lt0.mp c2)]
            rfl
          rw [sumI, neT, if_pos on, e, Int32.add_assoc, hs]
  refine e_X11_netOf (pc (ct_of1 (w := 9) hp (by decide) h) ?_)
  rw [hs]
  exact lp (nH s) 0 rfl
/-- one row more is looked at: the best so far, what it comes to -/
def awT (s : Nat → Int32) (p : Nat) (x : Nat) (b : Int32 × Int32) : Int32 × Int32 := if lawS (pfS s p) (hasB (nI x)) (nH s) then (if b.1 = -9 then (nI x, neV s p (nI x)) else if b.2 ≤ neV s p (nI x) then b else (nI x, neV s p (nI x))) else b
/-- its answer -/
def awV (s : Nat → Int32) (p : Nat) : Int32 := (itN (awT s p) (2 ^ nH s) 0 (-9, 0)).1
set_option maxHeartbeats 4000000 in
theorem ct_answerOf {p : Nat} (hp : p < 3) (h : Hp) (s : Nat → Int32) (hs : h.1 114 = s) (o : OKs s) : CtI 4 mX11_answerOf [.ref 113, .int (nI p)] h (pq (awV s p) h) := by
  have hH := o.hH
  have hpow := pow_le hH
  have lp : ∀ n x : Nat, n + x = 2 ^ nH s → ∀ b : Int32 × Int32, GoI 4 mX11_answerOf 8 [(0, .ref 113), (1, .int (nI p)), (2, .int b.1), (3, .int b.2), (4, .int (nI x))] [] h (pq (itN (awT s p) n x b).1 h) := by
    intro n
    induction n with
    | zero =>
      intro x hx b
      refine b_X11_answerOf_8 ⟨fun _ => ⟨rfl, rfl⟩, fun c => absurd ?_ c⟩
      rw [hs, o.eH, shl1 (nH s) (by omega)]
      exact nI_le (by omega) (by omega)
    | succ n ih =>
      intro x hx b
      have s58 : ∀ c : Int32 × Int32, c = awT s p x b → GoI 4 mX11_answerOf 58 [(0, .ref 113), (1, .int (nI p)), (2, .int c.1), (3, .int c.2), (4, .int (nI x))] [] h (pq (itN (awT s p) (n + 1) x b).1 h) := by
        intro c hc
        refine b_X11_answerOf_58 ?_
        rw [nI_1, itN, ← hc]
        exact ih (x + 1) (by omega) c
      refine b_X11_answerOf_8 ⟨fun c => absurd c ?_, fun _ => pc (ct_isLawful (H := nH s) hp hH (nI x) h (by rw [hs]; exact o.eH)) ⟨fun c => s58 b ?_, fun c => pc (ct_netOf hp (nI x) h s hs o) ⟨fun c2 => b_X11_answerOf_52 (s58 (nI x, neV s p (nI x)) ?_), fun c2 => ⟨fun c3 => s58 b ?_, fun c3 => b_X11_answerOf_52 (s58 (nI x, neV s p (nI x)) ?_)⟩⟩⟩⟩
      · rw [hs, o.eH, shl1 (nH s) (by omega)]
        exact nI_ge (by omega) (by omega)
      · rw [hs] at c
        rw [awT, bI_0.mp c]
        rfl
      · have c := bI_t c
        rw [hs] at c
        rw [awT, if_pos c, if_pos c2]
      · have c := bI_t c
        rw [hs] at c
        rw [awT, if_pos c, if_neg c2, if_pos c3]
      · have c := bI_t c
        rw [hs] at c
        rw [awT, if_pos c, if_neg c2, if_neg c3]
  exact e_X11_answerOf (lp (2 ^ nH s) 0 rfl (-9, 0))
/-- what one gives in an hour by a row -/
def gvV (s : Nat → Int32) (p : Nat) (x : Int32) (t : Nat) : Int32 := if hasB x t then anS s p t (decide (agS (pfS s p 9) (hasB x) t < 0)) else 0
theorem ct_givesBy {p t : Nat} (hp : p < 3) (ht : t < 5) (x : Int32) (h : Hp) (s : Nat → Int32) (hs : h.1 114 = s) : CtI 3 mX11_givesBy [.ref 113, .int (nI p), .int x, .int (nI t)] h (pq (gvV s p x t) h) := by
  have lp : ∀ n j : Nat, n + j = t → GoI 3 mX11_givesBy 12 [(0, .ref 113), (1, .int (nI p)), (2, .int x), (3, .int (nI t)), (4, .int (agS (pfS s p 9) (hasB x) j)), (5, .int (nI j))] [] h (pq (gvV s p x t) h) := by
    intro n
    induction n with
    | zero =>
      intro j hj
      have hj : j = t := by omega
      subst hj
      refine b_X11_givesBy_12 ⟨fun _ => pc (ct_has x j h) ⟨fun c => ⟨?_, rfl⟩, fun c => ?_⟩, fun c => absurd (nI_le (by omega) (by omega)) c⟩
      · rw [gvV, bI_0.mp c]
        rfl
      · rw [fr_bI]
        refine pc (ct_answersIn hp ht _ h s hs) ⟨?_, rfl⟩
        rw [gvV, if_pos (bI_t c)]
    | succ n ih =>
      intro j hj
      refine b_X11_givesBy_12 ⟨fun c => absurd c (nI_ge (by omega) (by omega)), fun _ => pc (ct_has x j h) (pc (ct_goesOn _ _ h) ?_)⟩
      rw [nI_1]
      exact ih (j + 1) (by omega)
  refine e_X11_givesBy (pc (ct_of1 (w := 9) hp (by decide) h) ?_)
  rw [hs]
  exact lp t 0 rfl
/-- a sum onto a sum -/
def sumO (g : Nat → Int32) (a : Int32) : Nat → Int32
  | 0 => a
  | n + 1 => sumO g a n + g n
/-- the bound by prices -/
def bdV (s : Nat → Int32) : Int32 := sumO (fun p => neV s p (awV s p)) (sumI (fun t => s (14 + t) * s (4 + t)) (nH s)) (nP s)
theorem ct_bound (h : Hp) (s : Nat → Int32) (hs : h.1 114 = s) (o : OKs s) : CtI 5 mX11_bound [.ref 113] h (pq (bdV s) h) := by
  have hH := o.hH
  have hP := o.hP
  have l2 : ∀ n p : Nat, n + p = nP s → GoI 5 mX11_bound 43 [(0, .ref 113), (1, .int (sumO (fun p => neV s p (awV s p)) (sumI (fun t => s (14 + t) * s (4 + t)) (nH s)) p)), (2, .int (nI p))] [] h (pq (bdV s) h) := by
    intro n
    induction n with
    | zero =>
      intro p hp
      have hp : p = nP s := by omega
      subst hp
      refine b_X11_bound_43 ⟨fun _ => ⟨rfl, rfl⟩, fun c => absurd ?_ c⟩
      rw [hs, o.eP]
      exact nI_le (by omega) (by omega)
    | succ n ih =>
      intro p hp
      refine b_X11_bound_43 ⟨fun c => absurd c ?_, fun _ => pc (ct_answerOf (by omega) h s hs o) (pc (ct_netOf (by omega) _ h s hs o) ?_)⟩
      · rw [hs, o.eP]
        exact nI_ge (by omega) (by omega)
      · rw [nI_1]
        exact ih (p + 1) (by omega)
  have l1 : ∀ n t : Nat, n + t = nH s → GoI 5 mX11_bound 4 [(0, .ref 113), (1, .int (sumI (fun t => s (14 + t) * s (4 + t)) t)), (2, .int (nI t))] [] h (pq (bdV s) h) := by
    intro n
    induction n with
    | zero =>
      intro t ht
      have ht : t = nH s := by omega
      subst ht
      refine b_X11_bound_4 ⟨fun _ => l2 (nP s) 0 rfl, fun c => absurd ?_ c⟩
      rw [hs, o.eH]
      exact nI_le (by omega) (by omega)
    | succ n ih =>
      intro t ht
      refine b_X11_bound_4 ⟨fun c => absurd c ?_, fun _ => ?_⟩
      · rw [hs, o.eH]
        exact nI_ge (by omega) (by omega)
      · rw [ix14, ix4, nI_clamp (show 14 + t < 2 ^ 31 by omega), nI_clamp (show 4 + t < 2 ^ 31 by omega), hs, nI_1]
        exact ⟨vp_in_nI (by omega) (by omega), vp_in_nI (by omega) (by omega), ih (t + 1) (by omega)⟩
  exact e_X11_bound (l1 (nH s) 0 rfl)
