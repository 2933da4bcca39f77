/-! ===== the reference: plans mended ===== -/
def maR (s : Nat → Int32) (a : Nat → Int32) (x : Int32) : Nat → Bool
  | 0 => true
  | n + 1 => maR s a x n && mgS (pfS s n) (a n) (hasB x n)
def maV (s : Nat → Int32) (a : Nat → Int32) (x : Int32) : Bool := maR s a x (nP s)
theorem ct_mayAll (x : Int32) (h : Hp) (s : Nat → Int32) (hs : h.1 114 = s) (o : OKs s) (a : Nat → Int32) (ha : ∀ p, p < nP s → h.1 127 p = a p) : CtI 2 mX11_mayAll [.ref 113, .int x] h (pq (bI (maV s a x)) h) := by
  have hP := o.hP
  have lp : ∀ n p : Nat, n + p = nP s → GoI 2 mX11_mayAll 4 [(0, .ref 113), (1, .int x), (2, .int (bI (maR s a x p))), (3, .int (nI p))] [] h (pq (bI (maV s a x)) h) := by
    intro n
    induction n with
    | zero =>
      intro p hp
      have hp : p = nP s := by omega
      subst hp
      refine b_X11_mayAll_4 ⟨fun _ => ⟨bI_and _, rfl, rfl⟩, fun c => absurd ?_ c⟩
      rw [hs, o.eP]
      exact nI_le (by omega) (by omega)
    | succ n ih =>
      intro p hp
      have ih2 := ih (p + 1) (by omega)
      have f42 : maR s a x (p + 1) = false → GoI 2 mX11_mayAll 41 [(0, .ref 113), (1, .int x), (3, .int (nI p))] [] h (pq (bI (maV s a x)) h) := by
        intro e
        refine b_X11_mayAll_41 (b_X11_mayAll_42 ?_)
        rw [e] at ih2
        rw [nI_1]
        exact ih2
      refine b_X11_mayAll_4 ⟨fun c => absurd c ?_, fun _ => ⟨fun c => f42 ?_, fun c => ⟨vp_in_nI (by omega) (by omega), pc (ct_has x p h) ?_⟩⟩⟩
      · rw [hs, o.eP]
        exact nI_ge (by omega) (by omega)
      · rw [maR, bI_0.mp c]
        rfl
      · rw [nI_clamp (show p < 2 ^ 31 by omega), ha p (by omega)]
        refine pc (ct_mayGo (by omega) _ _ h) ?_
        rw [hs]
        refine ⟨fun c2 => f42 ?_, fun c2 => b_X11_mayAll_42 ?_⟩
        · rw [maR, bI_0.mp c2, Bool.and_false]
        · have e : maR s a x (p + 1) = true := by
            rw [maR, bI_t c, bI_t c2]
            rfl
          rw [e] at ih2
          rw [nI_1]
          exact ih2
  exact e_X11_mayAll (lp (nP s) 0 rfl)
/-- one starts afresh, by ages -/
def frA (a : Nat → Int32) (x : Int32) (p : Nat) : Bool := hasB x p && decide (a p < 0)
theorem ct_freshIn (x : Int32) (h : Hp) (s : Nat → Int32) (hs : h.1 114 = s) (o : OKs s) (a : Nat → Int32) (ha : ∀ p, p < nP s → h.1 127 p = a p) : CtI 1 mX11_freshIn [.ref 113, .int x] h (pq (nI (bitsN (frA a x) (nP s))) h) := by
  have hP := o.hP
  have lp : ∀ n p : Nat, n + p = nP s → GoI 1 mX11_freshIn 4 [(0, .ref 113), (1, .int x), (2, .int (nI (bitsN (frA a x) p))), (3, .int (nI p))] [] h (pq (nI (bitsN (frA a x) (nP s))) h) := by
    intro n
    induction n with
    | zero =>
      intro p hp
      have hp : p = nP s := by omega
      subst hp
      refine b_X11_freshIn_4 ⟨fun _ => ⟨rfl, rfl⟩, fun c => absurd ?_ c⟩
      rw [hs, o.eP]
      exact nI_le (by omega) (by omega)
    | succ n ih =>
      intro p hp
      have ih2 := ih (p + 1) (by omega)
      have f39 : ∀ z : Int32, (z = if frA a x p then (1 : Int32) <<< (nI p &&& 31) else 0) → GoI 1 mX11_freshIn 39 [(0, .ref 113), (1, .int x), (3, .int (nI p))] [.int z, .int (nI (bitsN (frA a x) p))] h (pq (nI (bitsN (frA a x) (nP s))) h) := by
        intro z hz
        refine b_X11_freshIn_39 ?_
        rw [bitsN_or2 (by omega) z hz, nI_1]
        exact ih2
      refine b_X11_freshIn_4 ⟨fun c => absurd c ?_, fun _ => pc (ct_has x p h) ⟨fun c => b_X11_freshIn_38 (f39 0 ?_), fun c => ?_⟩⟩
      · rw [hs, o.eP]
        exact nI_ge (by omega) (by omega)
      · rw [frA, bI_0.mp c]
        rfl
      · rw [nI_clamp (show p < 2 ^ 31 by omega), ha p (by omega)]
        refine ⟨vp_in_nI (by omega) (by omega), fun c2 => b_X11_freshIn_38 (f39 0 ?_), fun c2 => f39 _ ?_⟩
        · rw [frA, decide_eq_false (Int32.not_lt.mpr c2), Bool.and_false]
          rfl
        · have e : frA a x p = true := by
            rw [frA, bI_t c, decide_eq_true (i32_lt0.mp c2)]
            rfl
          rw [if_pos e]
  exact e_X11_freshIn (lp (nP s) 0 rfl)
/-- what its start costs, by ages -/
def stA (s : Nat → Int32) (a : Nat → Int32) (x : Int32) (p : Nat) : Int32 := if frA a x p then stS (pfS s p 0) (pfS s p 1) (pfS s p 6) (-(a p)) else 0
def wmR (s : Nat → Int32) (a : Nat → Int32) (x : Int32) : Nat → Nat → Int32 → Int32
  | 0, _, c => c
  | n + 1, p, c => if FAR ≤ c then c else wmR s a x n (p + 1) (c + stA s a x p)
/-- what an hour costs with starts -/
def wmV (s : Nat → Int32) (a : Nat → Int32) (t : Nat) (x : Int32) : Int32 := wmR s a x (nP s) 0 (coE (nP s) (s 1) (pfS s) (s (4 + t)) (s (9 + t)) (hasB x) (hasB (nI (bitsN (frA a x) (nP s)))))
set_option maxHeartbeats 4000000 in
theorem ct_withStarts {t : Nat} (ht : t < 5) (x : Int32) (h : Hp) (s : Nat → Int32) (hs : h.1 114 = s) (o : OKs s) (a : Nat → Int32) (ha : ∀ p, p < nP s → h.1 127 p = a p) : CtI 5 mX11_withStarts [.ref 113, .int (nI t), .int x] h (fun v h' => v = wmV s a t x ∧ Fr [118] h h') := by
  have hP := o.hP
  refine e_X11_withStarts (pc (ct_freshIn x h s hs o a ha) ⟨_, ct_costBy' hP ht _ _ h s hs o.eP, fun v h9 q => ?_⟩)
  obtain ⟨q1, q2⟩ := q
  have e9 := (q2.1 114 (by decide)).trans hs
  have e7 := q2.1 127 (by decide)
  have lp : ∀ n p : Nat, n + p = nP s → ∀ c : Int32, wmR s a x n p c = wmV s a t x → GoI 5 mX11_withStarts 15 [(0, .ref 113), (2, .int x), (3, .int c), (4, .int (nI p))] [] h9 (fun v h' => v = wmV s a t x ∧ Fr [118] h h') := by
    intro n
    induction n with
    | zero =>
      intro p hp c hc
      have hp : p = nP s := by omega
      subst hp
      refine b_X11_withStarts_15 ⟨fun _ => ⟨hc, q2⟩, fun c => absurd ?_ c⟩
      rw [e9, o.eP]
      exact nI_le (by omega) (by omega)
    | succ n ih =>
      intro p hp c hc
      have f70 : ¬ FAR ≤ c → ∀ z : Int32, z = stA s a x p → GoI 5 mX11_withStarts 70 [(0, .ref 113), (2, .int x), (4, .int (nI p))] [.int z, .int c] h9 (fun v h' => v = wmV s a t x ∧ Fr [118] h h') := by
        intro hf z hz
        rw [wmR, if_neg hf] at hc
        refine b_X11_withStarts_70 ?_
        rw [nI_1, hz]
        exact ih (p + 1) (by omega) _ hc
      refine b_X11_withStarts_15 ⟨fun c2 => absurd c2 ?_, fun _ => ⟨fun c2 => ⟨?_, q2⟩, fun c2 => pc (ct_has x p h9) ⟨fun c3 => b_X11_withStarts_69 (f70 c2 0 ?_), fun c3 => ?_⟩⟩⟩
      · rw [e9, o.eP]
        exact nI_ge (by omega) (by omega)
      · rw [← hc, wmR]
        exact (if_pos c2).symm
      · rw [stA, frA, bI_0.mp c3]
        rfl
      · rw [nI_clamp (show p < 2 ^ 31 by omega), e7, ha p (by omega)]
        refine ⟨vp_in_nI (by omega) (by omega), fun c4 => b_X11_withStarts_69 (f70 c2 0 ?_), fun c4 => ⟨vp_in_nI (by omega) (by omega), pc (ct_startsOf (by omega) _ h9) (f70 c2 _ ?_)⟩⟩
        · rw [stA, frA, decide_eq_false (Int32.not_lt.mpr c4), Bool.and_false]
          rfl
        · have e : frA a x p = true := by
            rw [frA, bI_t c3, decide_eq_true (i32_lt0.mp c4)]
            rfl
          rw [stA, if_pos e, e9]
  rw [q1]
  exact lp (nP s) 0 rfl _ rfl
/-- in how many it is unlike the answers -/
def unV (s : Nat → Int32) (w : Nat → Int32) (t : Nat) (x : Int32) : Int32 := sumI (fun p => if hasB x p = hasB (w p) t then 0 else 1) (nP s)
theorem ct_unlikeIn {t : Nat} (x : Int32) (h : Hp) (s : Nat → Int32) (hs : h.1 114 = s) (o : OKs s) (w : Nat → Int32) (hw : ∀ p, p < nP s → h.1 125 p = w p) : CtI 1 mX11_unlikeIn [.ref 113, .int (nI t), .int x] h (pq (unV s w t x) h) := by
  have hP := o.hP
  have lp : ∀ n p : Nat, n + p = nP s → GoI 1 mX11_unlikeIn 5 [(0, .ref 113), (1, .int (nI t)), (2, .int x), (3, .int (sumI (fun p => if hasB x p = hasB (w p) t then 0 else 1) p)), (4, .int (nI p))] [] h (pq (unV s w t x) h) := by
    intro n
    induction n with
    | zero =>
      intro p hp
      have hp : p = nP s := by omega
      subst hp
      refine b_X11_unlikeIn_5 ⟨fun _ => ⟨rfl, rfl⟩, fun c => absurd ?_ c⟩
      rw [hs, o.eP]
      exact nI_le (by omega) (by omega)
    | succ n ih =>
      intro p hp
      have ih2 := ih (p + 1) (by omega)
      refine b_X11_unlikeIn_5 ⟨fun c => absurd c ?_, fun _ => pc (ct_has x p h) ⟨vp_in_nI (by omega) (by omega), ?_⟩⟩
      · rw [hs, o.eP]
        exact nI_ge (by omega) (by omega)
      · rw [nI_clamp (show p < 2 ^ 31 by omega), hw p (by omega)]
        refine pc (ct_has _ t h) ?_
        rw [nI_1]
        simp only [bI_inj]
        exact ih2
  exact e_X11_unlikeIn (lp (nP s) 0 rfl)
/-- what a set costs that may be, else far -/
def mcV (s : Nat → Int32) (a : Nat → Int32) (t : Nat) (x : Int32) : Int32 := if maV s a x then wmV s a t x else FAR
def meT (s : Nat → Int32) (a w : Nat → Int32) (t : Nat) (x : Nat) (b : Int32 × Int32 × Int32) : Int32 × Int32 × Int32 :=
  if FAR ≤ mcV s a t (nI x) then b else if b.1 = -9 ∨ unV s w t (nI x) < b.2.1 ∨ (unV s w t (nI x) = b.2.1 ∧ ¬ b.2.2 ≤ mcV s a t (nI x)) then (nI x, unV s w t (nI x), mcV s a t (nI x)) else b
/-- the set that mends an hour -/
def meV (s : Nat → Int32) (a w : Nat → Int32) (t : Nat) : Int32 := (itN (meT s a w t) (2 ^ nP s) 0 (-9, 0, 0)).1
set_option maxHeartbeats 4000000 in
theorem ct_mends {t : Nat} (ht : t < 5) (h : Hp) (s : Nat → Int32) (hs : h.1 114 = s) (o : OKs s) (a w : Nat → Int32) (ha : ∀ p, p < nP s → h.1 127 p = a p) (hw : ∀ p, p < nP s → h.1 125 p = w p) : CtI 6 mX11_mends [.ref 113, .int (nI t)] h (fun v h' => v = meV s a w t ∧ Fr [118] h h') := by
  have hP := o.hP
  have hpow : 2 ^ nP s ≤ 2 ^ 3 := Nat.pow_le_pow_right (by decide) hP
  have lp : ∀ n x : Nat, n + x = 2 ^ nP s → ∀ (b : Int32 × Int32 × Int32) (g : Hp), Fr [118] h g → GoI 6 mX11_mends 11 [(0, .ref 113), (1, .int (nI t)), (2, .int b.1), (3, .int b.2.1), (4, .int b.2.2), (5, .int (nI x))] [] g (fun v h' => v = (itN (meT s a w t) n x b).1 ∧ Fr [118] h h') := by
    intro n
    induction n with
    | zero =>
      intro x hx b g f
      have e := (f.1 114 (by decide)).trans hs
      refine b_X11_mends_11 ⟨fun _ => ⟨rfl, f⟩, fun c => absurd ?_ c⟩
      rw [e, o.eP, shl1 (nP s) (by omega)]
      exact nI_le (by omega) (by omega)
    | succ n ih =>
      intro x hx b g f
      have e := (f.1 114 (by decide)).trans hs
      have ga : ∀ p, p < nP s → g.1 127 p = a p := fun p hp => by
        rw [f.1 127 (by decide)]
        exact ha p hp
      have f98 : ∀ (c : Int32 × Int32 × Int32) (g2 : Hp), Fr [118] h g2 → c = meT s a w t x b → GoI 6 mX11_mends 98 [(0, .ref 113), (1, .int (nI t)), (2, .int c.1), (3, .int c.2.1), (4, .int c.2.2), (5, .int (nI x))] [] g2 (fun v h' => v = (itN (meT s a w t) (n + 1) x b).1 ∧ Fr [118] h h') := by
        intro c g2 f2 hc
        refine b_X11_mends_98 ?_
        rw [nI_1, itN, ← hc]
        exact ih (x + 1) (by omega) c g2 f2
      have f45 : ∀ (z : Int32) (g2 : Hp), Fr [118] h g2 → z = mcV s a t (nI x) → GoI 6 mX11_mends 45 [(0, .ref 113), (1, .int (nI t)), (2, .int b.1), (3, .int b.2.1), (4, .int b.2.2), (5, .int (nI x))] [.int z] g2 (fun v h' => v = (itN (meT s a w t) (n + 1) x b).1 ∧ Fr [118] h h') := by
        intro z g2 f2 hz
        have e2 := (f2.1 114 (by decide)).trans hs
        subst hz
        refine b_X11_mends_45 (pc (ct_unlikeIn (nI x) g2 s e2 o w (fun p hp => by rw [f2.1 125 (by decide)]; exact hw p hp)) ⟨fun c => f98 b g2 f2 ?_, fun c => ⟨fun c2 => b_X11_mends_88 (f98 (nI x, unV s w t (nI x), mcV s a t (nI x)) g2 f2 ?_), fun c2 => ⟨fun c3 => b_X11_mends_88 (f98 (nI x, unV s w t (nI x), mcV s a t (nI x)) g2 f2 ?_), fun c3 => ⟨fun c4 => f98 b g2 f2 ?_, fun c4 => ⟨fun c5 => f98 b g2 f2 ?_, fun c5 => b_X11_mends_88 (f98 (nI x, unV s w t (nI x), mcV s a t (nI x)) g2 f2 ?_)⟩⟩⟩⟩⟩)
        · rw [meT]
          exact (if_pos c).symm
        · rw [meT]
          exact ((if_neg c).trans (if_pos (Or.inl c2))).symm
        · rw [meT]
          exact ((if_neg c).trans (if_pos (Or.inr (Or.inl c3)))).symm
        · rw [meT]
          exact ((if_neg c).trans (if_neg (fun z => z.elim c2 (fun z => z.elim c3 (fun z => c4 z.1))))).symm
        · rw [meT]
          exact ((if_neg c).trans (if_neg (fun z => z.elim c2 (fun z => z.elim c3 (fun z => z.2 c5))))).symm
        · rw [meT]
          exact ((if_neg c).trans (if_pos (Or.inr (Or.inr ⟨c4, c5⟩)))).symm
      refine b_X11_mends_11 ⟨fun c => absurd c ?_, fun _ => pc (ct_mayAll (nI x) g s e o a ga) ⟨fun c => f45 _ g f ?_, fun c => ⟨_, ct_withStarts ht (nI x) g s e o a ga, fun v h' q => f45 v h' (f.tr q.2) ?_⟩⟩⟩
      · rw [e, o.eP, shl1 (nP s) (by omega)]
        exact nI_ge (by omega) (by omega)
      · rw [mcV, bI_0.mp c]
        rfl
      · rw [mcV, if_pos (bI_t c)]
        exact q.1
  exact e_X11_mends (lp (2 ^ nP s) 0 rfl (-9, 0, 0) h Fr.rf)
