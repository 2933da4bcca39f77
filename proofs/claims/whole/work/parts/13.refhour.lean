/-! ===== the reference: an hour done by a set ===== -/
theorem pc {d : Nat} {M : Mth} {args : List Value} {h : Hp} {x : Int32} {R : Int32 → Hp → Prop} (hC : CtI d M args h (pq x h)) (k : R x h) : ∃ Q, CtI d M args h Q ∧ ∀ v h', Q v h' → R v h' := ⟨_, hC, fun v h' q => by obtain ⟨rfl, rfl⟩ := q; exact k⟩
theorem vc {d : Nat} {M : Mth} {args : List Value} {h g : Hp} {R : Hp → Prop} (hC : CtV d M args h (fun h' => h' = g)) (k : R g) : ∃ Q, CtV d M args h Q ∧ ∀ h', Q h' → R h' := ⟨_, hC, fun h' q => by subst q; exact k⟩
theorem ic {d : Nat} {M : Mth} {args : List Value} {h g : Hp} {x : Int32} {R : Int32 → Hp → Prop} (hC : CtI d M args h (fun v h' => v = x ∧ h' = g)) (k : R x g) : ∃ Q, CtI d M args h Q ∧ ∀ v h', Q v h' → R v h' := ⟨_, hC, fun v h' q => by obtain ⟨rfl, rfl⟩ := q; exact k⟩
theorem bI_inj {a b : Bool} : bI a = bI b ↔ a = b := by cases a <;> cases b <;> decide
theorem ct_mostOf {p : Nat} (hp : p < 3) (b : Bool) (h : Hp) : CtI 1 mX11_mostOf [.ref 113, .int (nI p), .int (bI b)] h (pq (msS (pfS (h.1 114) p) b) h) := by
  have k21 : pfS (h.1 114) p 0 = 2 ∨ pfS (h.1 114) p 0 = 3 → b = true → GoI 1 mX11_mostOf 21 [(0, .ref 113), (1, .int (nI p))] [] h (pq (msS (pfS (h.1 114) p) b) h) := fun c hb =>
    b_X11_mostOf_21 (pc (ct_of1 (w := 3) hp (by omega) h) (pc (ct_of1 (w := 2) hp (by omega) h) (pc (ct_of1 (w := 1) hp (by omega) h) (pc (ct_min _ _ h) ⟨(if_pos ⟨hb, c⟩).symm, rfl⟩))))
  refine e_X11_mostOf (pc (ct_of1 (w := 0) hp (by omega) h) ⟨fun c => pc (ct_of1 (w := 3) hp (by omega) h) ⟨?_, rfl⟩, fun c => ⟨fun c2 => k21 (Or.inl c2) ?_, fun c2 => ⟨fun c3 => pc (ct_of1 (w := 3) hp (by omega) h) ⟨?_, rfl⟩, fun c3 => k21 (Or.inr c3) ?_⟩⟩⟩)
  · rw [bI_0] at c
    simp [msS, c]
  · rw [bI_0] at c
    simpa using c
  · simp [msS, c2, c3]
  · rw [bI_0] at c
    simpa using c
def posB (a : Int32) : Bool := decide (¬ a ≤ 0)
/-- whether one may go there -/
def mgS (f : Nat → Int32) (a : Int32) (on : Bool) : Bool := if posB a = on then true else if on then decide (¬ -a < f 8) else if a < f 7 then false else if f 0 = 3 then false else decide (¬ f 0 = 5)
theorem ct_mayGo {p : Nat} (hp : p < 3) (a : Int32) (on : Bool) (h : Hp) : CtI 1 mX11_mayGo [.ref 113, .int (nI p), .int a, .int (bI on)] h (pq (bI (mgS (pfS (h.1 114) p) a on)) h) := by
  have hc : ((if a ≤ 0 then (0 : Int32) else 1) = bI on) ↔ posB a = on := by rw [ite_bI', bI_inj]; rfl
  refine e_X11_mayGo ⟨fun c => ⟨fun c2 => pc (ct_of1 (w := 7) hp (by omega) h) ⟨fun c3 => ⟨?_, rfl⟩, fun c3 => pc (ct_of1 (w := 0) hp (by omega) h) ⟨fun c4 => ⟨?_, rfl⟩, fun c4 => pc (ct_of1 (w := 0) hp (by omega) h) ⟨fun c5 => ⟨?_, rfl⟩, fun c5 => ⟨?_, rfl⟩⟩⟩⟩, fun c2 => pc (ct_of1 (w := 8) hp (by omega) h) ⟨?_, rfl⟩⟩, fun c => ⟨?_, rfl⟩⟩ <;> rw [hc] at c
  · rw [bI_0] at c2
    rw [mgS, if_neg c, c2, if_neg (by decide), if_pos c3]
    rfl
  · rw [bI_0] at c2
    rw [mgS, if_neg c, c2, if_neg (by decide), if_neg c3, if_pos c4]
    rfl
  · rw [bI_0] at c2
    rw [mgS, if_neg c, c2, if_neg (by decide), if_neg c3, if_neg c4, decide_eq_false (not_not_intro c5)]
    rfl
  · rw [bI_0] at c2
    rw [mgS, if_neg c, c2, if_neg (by decide), if_neg c3, if_neg c4, decide_eq_true c5]
    rfl
  · rw [bI_0, Bool.not_eq_false] at c2
    rw [mgS, if_neg c, c2, if_pos rfl, ite_bI']
  · rw [mgS, if_pos c]
    rfl
/-- the age behind one hour more -/
def goS (a : Int32) (on : Bool) : Int32 := if posB a = on then (if on then a + 1 else a + -1) else if on then 1 else -1
theorem ct_goesOn (a : Int32) (on : Bool) (h : Hp) : CtI 0 mX11_goesOn [.int a, .int (bI on)] h (pq (goS a on) h) := by
  have hc : ((if a ≤ 0 then (0 : Int32) else 1) = bI on) ↔ posB a = on := by rw [ite_bI', bI_inj]; rfl
  refine e_X11_goesOn ⟨fun c => ⟨fun c2 => ⟨?_, rfl⟩, fun c2 => ⟨?_, rfl⟩⟩, fun c => ⟨?_, rfl⟩⟩ <;> rw [hc] at c
  · rw [bI_0] at c2
    rw [goS, if_neg c, c2]
    rfl
  · rw [bI_0, Bool.not_eq_false] at c2
    rw [goS, if_neg c, c2]
    rfl
  · rw [goS, if_pos c]
    cases on <;> rfl
/-- the ages hour by hour of one that goes by b -/
def agS (a0 : Int32) (b : Nat → Bool) : Nat → Int32
  | 0 => a0
  | k + 1 => goS (agS a0 b k) (b k)
def lawS (f : Nat → Int32) (b : Nat → Bool) (H : Nat) : Bool := (List.range H).all fun k => mgS f (agS (f 9) b k) (b k)
theorem lawS_no {f : Nat → Int32} {b : Nat → Bool} {H k : Nat} (hk : k < H) (h : mgS f (agS (f 9) b k) (b k) = false) : lawS f b H = false := by
  cases hl : lawS f b H with
  | false => rfl
  | true =>
    have := List.all_eq_true.mp hl k (List.mem_range.mpr hk)
    rw [h] at this
    cases this
theorem lp_isLawful {p H : Nat} (hp : p < 3) (hH : H ≤ 5) (x : Int32) (h : Hp) (hs : h.1 114 0 = nI H) : ∀ n j : Nat, n + j = H → (∀ k, k < j → mgS (pfS (h.1 114) p) (agS (pfS (h.1 114) p 9) (hasB x) k) (hasB x k) = true) → GoI 2 mX11_isLawful 11 [(0, .ref 113), (1, .int (nI p)), (2, .int x), (3, .int (agS (pfS (h.1 114) p 9) (hasB x) j)), (4, .int (nI j))] [] h (pq (bI (lawS (pfS (h.1 114) p) (hasB x) H)) h)
  | 0, j, hj, hall => by
    refine b_X11_isLawful_11 ⟨fun _ => ⟨?_, rfl⟩, fun c => absurd ?_ c⟩
    · rw [show lawS (pfS (h.1 114) p) (hasB x) H = true from List.all_eq_true.mpr fun k hk => hall k (by have := List.mem_range.mp hk; omega)]
      rfl
    · rw [hs]
      exact nI_le (by omega) (by omega)
  | n + 1, j, hj, hall => by
    refine b_X11_isLawful_11 ⟨fun c => absurd c ?_, fun _ => pc (ct_has x j h) (pc (ct_mayGo hp _ _ h) ⟨fun c => pc (ct_has x j h) (pc (ct_goesOn _ _ h) ?_), fun c => ⟨?_, rfl⟩⟩)⟩
    · rw [hs]
      exact nI_ge (by omega) (by omega)
    · rw [bI_0, Bool.not_eq_false] at c
      rw [nI_1]
      refine lp_isLawful hp hH x h hs n (j + 1) (by omega) (fun k hk => ?_)
      rcases Nat.lt_or_ge k j with q | q
      · exact hall k q
      · rw [show k = j by omega]
        exact c
    · rw [bI_0] at c
      rw [lawS_no (by omega) c]
      rfl
theorem ct_isLawful {p H : Nat} (hp : p < 3) (hH : H ≤ 5) (x : Int32) (h : Hp) (hs : h.1 114 0 = nI H) : CtI 2 mX11_isLawful [.ref 113, .int (nI p), .int x] h (pq (bI (lawS (pfS (h.1 114) p) (hasB x) H)) h) :=
  e_X11_isLawful (pc (ct_of1 (w := 9) hp (by omega) h) (lp_isLawful hp hH x h hs H 0 rfl (fun k hk => by omega)))
/-- a sum over the first n -/
def sumI (g : Nat → Int32) : Nat → Int32
  | 0 => 0
  | n + 1 => sumI g n + g n
def lsT (fs : Nat → Nat → Int32) (on : Nat → Bool) : Nat → Int32 := fun p => if on p then lsS (fs p) else 0
def msT (fs : Nat → Nat → Int32) (on fr : Nat → Bool) : Nat → Int32 := fun p => if on p then msS (fs p) (fr p) else 0
/-- whether a set can do an hour -/
def canF (P : Nat) (fs : Nat → Nat → Int32) (dem res : Int32) (on fr : Nat → Bool) : Bool := !decide (dem < sumI (lsT fs on) P) && !decide (sumI (msT fs on fr) P < dem + res)
theorem i32_add0 (x : Int32) : x + 0 = x := Int32.add_zero x
theorem ix4 (t : Nat) : (4 : Int32) + nI t = nI (4 + t) := nI_add 4 t
theorem ix9 (t : Nat) : (9 : Int32) + nI t = nI (9 + t) := nI_add 9 t
theorem ix14 (t : Nat) : (14 : Int32) + nI t = nI (14 + t) := nI_add 14 t
theorem lp_canDo {P t : Nat} (hP : P ≤ 3) (ht : t < 5) (x y : Int32) (h : Hp) (hs : h.1 114 3 = nI P) : ∀ n j : Nat, n + j = P → GoI 2 mX11_canDo 9 [(0, .ref 113), (1, .int (nI t)), (2, .int x), (3, .int y), (4, .int (sumI (lsT (pfS (h.1 114)) (hasB x)) j)), (5, .int (sumI (msT (pfS (h.1 114)) (hasB x) (hasB y)) j)), (6, .int (nI j))] [] h (pq (bI (canF P (pfS (h.1 114)) (h.1 114 (4 + t)) (h.1 114 (9 + t)) (hasB x) (hasB y))) h)
  | 0, j, hj => by
    have hj : j = P := by omega
    subst hj
    have i4 : vp_in (nI (4 + t)) 49 := vp_in_nI (by omega) (by omega)
    have i9 : vp_in (nI (9 + t)) 49 := vp_in_nI (by omega) (by omega)
    refine b_X11_canDo_9 ⟨fun _ => ?_, fun c => absurd ?_ c⟩
    · rw [ix4, ix9, nI_clamp (show 4 + t < 2 ^ 31 by omega), nI_clamp (show 9 + t < 2 ^ 31 by omega)]
      refine ⟨i4, fun c => ⟨?_, rfl⟩, fun c => ⟨i4, i9, fun c2 => ⟨?_, rfl⟩, fun c2 => ⟨?_, rfl⟩⟩⟩
      · rw [canF, decide_eq_true c]
        rfl
      · rw [canF, decide_eq_true c2, Bool.not_true, Bool.and_false]
        rfl
      · rw [canF, decide_eq_false c, decide_eq_false c2]
        rfl
    · rw [hs]
      exact nI_le (by omega) (by omega)
  | n + 1, j, hj => by
    refine b_X11_canDo_9 ⟨fun c => absurd c ?_, fun _ => pc (ct_has x j h) ⟨fun c => ?_, fun c => pc (ct_leastOf (by omega) h) (pc (ct_has y j h) (pc (ct_mostOf (by omega) _ h) ?_))⟩⟩
    · rw [hs]
      exact nI_ge (by omega) (by omega)
    · rw [bI_0] at c
      refine b_X11_canDo_57 ?_
      rw [nI_1]
      have := lp_canDo hP ht x y h hs n (j + 1) (by omega)
      rwa [sumI, sumI, lsT, msT, if_neg (by rw [c]; decide), if_neg (by rw [c]; decide), i32_add0, i32_add0] at this
    · rw [bI_0, Bool.not_eq_false] at c
      refine b_X11_canDo_57 ?_
      rw [nI_1]
      have := lp_canDo hP ht x y h hs n (j + 1) (by omega)
      rwa [sumI, sumI, lsT, msT, if_pos c, if_pos c] at this
theorem ct_canDo {P t : Nat} (hP : P ≤ 3) (ht : t < 5) (x y : Int32) (h : Hp) (hs : h.1 114 3 = nI P) : CtI 2 mX11_canDo [.ref 113, .int (nI t), .int x, .int y] h (pq (bI (canF P (pfS (h.1 114)) (h.1 114 (4 + t)) (h.1 114 (9 + t)) (hasB x) (hasB y))) h) :=
  e_X11_canDo (lp_canDo hP ht x y h hs P 0 rfl)
