/-! ===== the reference: racks, the small ones ===== -/
theorem ct_isRack (x : Int32) (h : Hp) : CtI 1 mX11_isRack [.int x] h (pq (bI (inR x 0 2)) h) := e_X11_isRack (pc (ct_isInI x 0 2 h) ⟨bI_and _, rfl, rfl⟩)
theorem ct_placeOf (a b : Nat) (h : Hp) : CtI 0 mX11_placeOf [.int (nI a), .int (nI b)] h (pq (nI (3 * (9 * a + b))) h) := by
  refine e_X11_placeOf ⟨?_, rfl⟩
  rw [show (9 : Int32) = nI 9 from rfl, show (3 : Int32) = nI 3 from rfl, pk_mul, nI_add, pk_mul]
def abV (x : Int32) : Int32 := if x = 3 then 2 else if x = 4 then 1 else if x = 5 then 3 else 0
theorem ct_above (x : Int32) (h : Hp) : CtI 0 mX11_above [.int x] h (pq (abV x) h) := by
  refine e_X11_above ⟨fun c => ⟨fun c2 => ⟨fun c3 => ⟨?_, rfl⟩, fun c3 => ⟨?_, rfl⟩⟩, fun c2 => ⟨?_, rfl⟩⟩, fun c => ⟨?_, rfl⟩⟩
  · rw [abV, if_neg c, if_neg c2, if_neg c3]
  · rw [abV, if_neg c, if_neg c2, if_pos c3]
  · rw [abV, if_neg c, if_pos c2]
  · rw [abV, if_pos c]
/-- kind x is k or under it -/
def unB (k : Int32) : Nat → Int32 → Bool
  | 0, x => decide (x = k)
  | n + 1, x => if x = k then true else if x = 0 then false else unB k n (abV x)
theorem ab3 (x : Int32) : abV (abV (abV x)) = 0 := by
  by_cases c : x = 3
  · rw [c]
    decide
  · by_cases c2 : x = 4
    · rw [c2]
      decide
    · by_cases c3 : x = 5
      · rw [c3]
        decide
      · rw [show abV x = 0 by rw [abV, if_neg c, if_neg c2, if_neg c3]]
        decide
theorem ct_isUnderR (x k : Int32) (h : Hp) : CtI 1 mX11_isUnder [.int x, .int k] h (pq (bI (unB k 3 x)) h) := by
  have z : ∀ y : Int32, y = 0 → GoI 1 mX11_isUnder 2 [(1, .int k), (2, .int y)] [] h (pq (bI (unB k 0 y)) h) := by
    intro y hy
    refine b_X11_isUnder_2 ⟨fun c => ⟨?_, rfl⟩, fun c => ⟨fun c2 => ⟨?_, rfl⟩, fun c2 => absurd hy c2⟩⟩
    · rw [unB, if_pos c, decide_eq_true c]
      rfl
    · rw [unB, if_neg c, decide_eq_false c]
      rfl
  have st : ∀ (n : Nat) (y : Int32), GoI 1 mX11_isUnder 2 [(1, .int k), (2, .int (abV y))] [] h (pq (bI (unB k n (abV y))) h) → GoI 1 mX11_isUnder 2 [(1, .int k), (2, .int y)] [] h (pq (bI (unB k (n + 1) y)) h) := by
    intro n y g
    refine b_X11_isUnder_2 ⟨fun c => ⟨?_, rfl⟩, fun c => ⟨fun c2 => ⟨?_, rfl⟩, fun c2 => pc (ct_above y h) ?_⟩⟩
    · rw [unB, if_pos c, if_pos c]
      rfl
    · rw [unB, if_neg c, if_neg c, if_pos c2]
      rfl
    · rw [unB, if_neg c, if_neg c2]
      exact g
  exact e_X11_isUnder (st 2 x (st 1 _ (st 0 _ (z _ (ab3 x)))))
