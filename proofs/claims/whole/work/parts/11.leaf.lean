/-! ===== plain functions of a plant's row f (0 kind, 1 figure, 2 low, 3 high, 4 price, 5 keep, 6 start, 7 up, 8 down, 9 age), and the leaves' contracts ===== -/
/-- an answer alone, nothing changed -/
def pq (x : Int32) (h : Hp) : Int32 → Hp → Prop := fun v h' => v = x ∧ h' = h
def imin (a b : Int32) : Int32 := if b < a then b else a
def imax (a b : Int32) : Int32 := if a < b then b else a
def bI (b : Bool) : Int32 := if b then 1 else 0
theorem bI_and (b : Bool) : bI b &&& 1 = bI b := by cases b <;> decide
theorem bI_0 {b : Bool} : bI b = 0 ↔ b = false := by cases b <;> decide
theorem ite_bI (c : Prop) {_ : Decidable c} : (if c then (1 : Int32) else 0) = bI (decide c) := by by_cases h : c <;> simp [bI, h]
theorem ite_bI' (c : Prop) {_ : Decidable c} : (if c then (0 : Int32) else 1) = bI (decide (¬ c)) := by by_cases h : c <;> simp [bI, h]
theorem ct_min (a b : Int32) (h : Hp) : CtI 0 mJ9_min_7cf53 [.int a, .int b] h (pq (imin a b) h) :=
  e_J9_min_7cf53 ⟨fun c => ⟨(if_pos c).symm, rfl⟩, fun c => ⟨(if_neg c).symm, rfl⟩⟩
theorem ct_max (a b : Int32) (h : Hp) : CtI 0 mJ9_max_7cf53 [.int a, .int b] h (pq (imax a b) h) :=
  e_J9_max_7cf53 ⟨fun c => ⟨(if_pos c).symm, rfl⟩, fun c => ⟨(if_neg c).symm, rfl⟩⟩
/-- whether kind k is t or under it, by the class's table -/
def kun : Nat → Int32 → Int32 → Bool
  | 0, _, _ => false
  | n + 1, k, t => if k < 0 then false else if 6 ≤ k then false else if k = t then true else kun n (kaf k.toNatClampNeg) t
theorem in6 {x : Int32} (h1 : ¬ x < 0) (h2 : ¬ 6 ≤ x) : vp_in x 6 := by
  rw [vp_in_iff]
  have a := Int32.not_lt.mp h1
  have b := Int32.not_le.mp h2
  have a2 := Int32.le_iff_toInt_le.mp a
  have b2 := Int32.lt_iff_toInt_lt.mp b
  have e6 : (6 : Int32).toInt = 6 := by decide
  have e0 : (0 : Int32).toInt = 0 := by decide
  omega
theorem lp_kun (x1 : Int32) (h : Hp) (Q : Int32 → Hp → Prop) : ∀ (n j : Nat) (x2 : Int32), n + j = 6 → Q (bI (kun n x2 x1)) h → GoI 0 mX3_kindIsUnder 4 [(1, .int x1), (2, .int x2), (3, .int (nI j))] [] h Q
  | 0, j, x2, hj, hq => by
    refine b_X3_kindIsUnder_4 ⟨fun _ => hq, fun c => absurd ?_ c⟩
    exact nI_le (a := 6) (by omega) (by omega)
  | n + 1, j, x2, hj, hq => by
    refine b_X3_kindIsUnder_4 ⟨fun c => ?_, fun _ => ⟨fun c => ?_, fun c => ⟨fun c2 => ?_, fun c2 => ⟨fun c3 => ⟨in6 c c2, ?_⟩, fun c3 => ?_⟩⟩⟩⟩
    · exact absurd c (nI_ge (b := 6) (by omega) (by omega))
    · simpa [kun, c, bI] using hq
    · simpa [kun, c, c2, bI] using hq
    · rw [nI_1]
      exact lp_kun x1 h Q n (j + 1) _ (by omega) (by simpa [kun, c, c2, c3] using hq)
    · have hk : kun (n + 1) x2 x1 = true := by rw [kun, if_neg c, if_neg c2, if_pos c3]
      rw [hk] at hq
      exact hq
theorem ct_kun (k t : Int32) (h : Hp) : CtI 0 mX3_kindIsUnder [.int k, .int t] h (pq (bI (kun 6 k t)) h) :=
  e_X3_kindIsUnder (lp_kun t h _ 6 0 k rfl ⟨rfl, rfl⟩)
theorem ct_isUnder {k : Nat} (hk : isPl k) (t : Int32) (h : Hp) : CtI 1 mX3_isUnder [.ref k, .int t] h (pq (bI (kun 6 (h.1 k 0) t)) h) :=
  e_X3_isUnder hk ⟨_, ct_kun _ _ _, fun v h' q => by obtain ⟨rfl, rfl⟩ := q; exact ⟨bI_and _, rfl, rfl⟩⟩
def stC (k fg st r : Int32) : Int32 := if kun 6 k 3 then 2 * st else if kun 6 k 1 then (if k = 4 ∧ r = 1 then (st + fg * imin r 4) / 2 else st + fg * imin r 4) else st
theorem ct_startOf (k fg st r : Int32) (h : Hp) : CtI 1 mX3_startOf [.int k, .int fg, .int st, .int r] h (pq (stC k fg st r) h) := by
  refine e_X3_startOf ⟨_, ct_kun _ _ _, fun v h' q => ?_⟩
  obtain ⟨rfl, rfl⟩ := q
  refine ⟨fun c => ⟨_, ct_kun _ _ _, fun v h' q => ?_⟩, fun c => ⟨?_, rfl⟩⟩
  · obtain ⟨rfl, rfl⟩ := q
    rw [bI_0] at c
    refine ⟨fun c2 => ⟨_, ct_min _ _ _, fun v h' q => ?_⟩, fun c2 => ⟨?_, rfl⟩⟩
    · obtain ⟨rfl, rfl⟩ := q
      rw [bI_0] at c2
      refine ⟨fun c3 => ⟨?_, rfl⟩, fun c3 => ⟨fun c4 => ⟨?_, rfl⟩, fun c4 => ⟨?_, rfl⟩⟩⟩ <;> simp [stC, c, c2, c3] <;> simp_all
    · rw [bI_0] at c2
      simp [stC, c, c2]
  · rw [bI_0] at c
    simp [stC, c]
theorem ct_startBehind {k : Nat} (hk : isPl k) (r : Int32) (h : Hp) : CtI 2 mX3_startBehind [.ref k, .int r] h (pq (stC (h.1 k 0) (h.1 k 1) (h.1 k 6) r) h) :=
  e_X3_startBehind hk ⟨_, ct_startOf _ _ _ _ _, fun v h' q => q⟩
def lsS (f : Nat → Int32) : Int32 := if f 0 = 5 then f 3 else f 2
theorem ct_least {k : Nat} (hk : isPl k) (h : Hp) : CtI 0 mX3_least [.ref k] h (pq (lsS (h.1 k)) h) :=
  e_X3_least hk ⟨fun c => ⟨(if_neg c).symm, rfl⟩, fun c => ⟨(if_pos c).symm, rfl⟩⟩
def msC (f : Nat → Int32) (b : Bool) : Int32 := if b ∧ ¬ f 0 = 5 ∧ kun 6 (f 0) 2 then imin (f 2 + f 1) (f 3) else f 3
theorem ct_most {k : Nat} (hk : isPl k) (b : Bool) (h : Hp) : CtI 1 mX3_most [.ref k, .int (bI b)] h (pq (msC (h.1 k) b) h) := by
  refine e_X3_most hk ⟨fun c => ⟨?_, rfl⟩, fun c => ⟨fun c2 => ⟨?_, rfl⟩, fun c2 => ⟨_, ct_kun _ _ _, fun v h' q => ?_⟩⟩⟩
  · rw [bI_0] at c
    simp [msC, c]
  · simp [msC, c2]
  · obtain ⟨rfl, rfl⟩ := q
    rw [bI_0] at c
    refine ⟨fun c3 => ⟨?_, rfl⟩, fun c3 => ⟨_, ct_min _ _ _, fun v h' q => ?_⟩⟩
    · rw [bI_0] at c3
      simp [msC, c3]
    · obtain ⟨rfl, rfl⟩ := q
      rw [bI_0] at c3
      refine ⟨?_, rfl⟩
      simp at c c3
      simp [msC, c, c2, c3]
/-- the age behind an hour more; 0: it may not -/
def mvC (f : Nat → Int32) (a : Int32) (on : Bool) : Int32 :=
  if a ≤ 0 then (if on then (if f 8 ≤ -a then 1 else 0) else imax (a - 1) (-4))
  else if on then imin (a + 1) 4 else if a < f 7 then 0 else if kun 6 (f 0) 3 then 0 else -1
theorem ct_moved {k : Nat} (hk : isPl k) (a : Int32) (on : Bool) (h : Hp) : CtI 1 mX3_moved [.ref k, .int a, .int (bI on)] h (pq (mvC (h.1 k) a on) h) := by
  refine e_X3_moved hk ⟨fun c => ⟨fun c2 => ⟨_, ct_max _ _ _, fun v h' q => ?_⟩, fun c2 => ⟨?_, rfl⟩⟩, fun c => ⟨fun c2 => ⟨fun c3 => ⟨?_, rfl⟩, fun c3 => ⟨_, ct_kun _ _ _, fun v h' q => ?_⟩⟩, fun c2 => ⟨_, ct_min _ _ _, fun v h' q => ?_⟩⟩⟩
  · obtain ⟨rfl, rfl⟩ := q
    rw [bI_0] at c2
    exact ⟨by simp [mvC, c, c2], rfl⟩
  · rw [bI_0] at c2
    simp at c2
    simp [mvC, c, c2]
  · rw [bI_0] at c2
    simp [mvC, c, c2, c3]
  · obtain ⟨rfl, rfl⟩ := q
    rw [bI_0] at c2
    refine ⟨fun c4 => ⟨?_, rfl⟩, fun c4 => ⟨?_, rfl⟩⟩ <;> rw [bI_0] at c4 <;> simp [mvC, c, c2, c3, c4]
  · obtain ⟨rfl, rfl⟩ := q
    rw [bI_0] at c2
    simp at c2
    exact ⟨by simp [mvC, c, c2], rfl⟩
