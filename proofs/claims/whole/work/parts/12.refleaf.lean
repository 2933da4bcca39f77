/-! ===== the reference's leaves ===== -/
theorem nI_lit (n : Nat) : (OfNat.ofNat n : Int32) = nI n := rfl
/-- bit k of a number -/
def hasB (x : Int32) (k : Nat) : Bool := decide ((x >>> (nI k &&& 31)) &&& 1 = 1)
theorem hasB_tb : ∀ r, r < 32 → ∀ k, k < 5 → hasB (nI r) k = r.testBit k := by decide +kernel
abbrev pfS (s : Nat → Int32) (p : Nat) : Nat → Int32 := fun j => s (19 + 10 * p + j)
theorem ix_pf (p w : Nat) : ((19 : Int32) + (10 * nI p)) + nI w = nI (19 + 10 * p + w) := by
  rw [show (19 : Int32) = nI 19 from rfl, show (10 : Int32) = nI 10 from rfl, pk_mul, nI_add, nI_add]
theorem ct_of1 {p w : Nat} (hp : p < 3) (hw : w < 10) (h : Hp) : CtI 0 mX11_of1 [.ref 113, .int (nI p), .int (nI w)] h (pq (pfS (h.1 114) p w) h) := by
  refine e_X11_of1 ?_
  rw [ix_pf]
  exact ⟨vp_in_nI (by omega) (by omega), by rw [nI_clamp (by omega)], rfl⟩
/-- place (p, w) of the row s gets x -/
theorem ct_sets {p w : Nat} (hp : p < 3) (hw : w < 10) (x : Int32) (h : Hp) : CtV 0 mX11_sets [.ref 113, .int (nI p), .int (nI w), .int x] h (fun h' => h' = ui h 114 (19 + 10 * p + w) x) := by
  refine e_X11_sets ?_
  rw [ix_pf]
  exact ⟨vp_in_nI (by omega) (by omega), fun g e => by rw [e, nI_clamp (by omega)]⟩
theorem ct_has (x : Int32) (k : Nat) (h : Hp) : CtI 0 mX11_has [.int x, .int (nI k)] h (pq (bI (hasB x k)) h) :=
  e_X11_has ⟨ite_bI _, rfl⟩
theorem i64_lt {a b : Int32} : a.toInt64 < b.toInt64 ↔ a < b := by
  rw [Int64.lt_iff_toInt_lt, Int32.lt_iff_toInt_lt, Int32.toInt_toInt64, Int32.toInt_toInt64]
theorem i64_le {a b : Int32} : a.toInt64 ≤ b.toInt64 ↔ a ≤ b := by
  rw [Int64.le_iff_toInt_le, Int32.le_iff_toInt_le, Int32.toInt_toInt64, Int32.toInt_toInt64]
theorem ct_isIn (a b c : Int64) (h : Hp) : CtI 0 mX11_isIn [.long a, .long b, .long c] h (pq (bI (decide (b ≤ a ∧ a ≤ c))) h) := by
  refine e_X11_isIn ⟨fun q => ⟨?_, rfl⟩, fun q => ⟨fun r => ⟨?_, rfl⟩, fun r => ⟨?_, rfl⟩⟩⟩
  · rw [lg_cmp_lt] at q
    rw [decide_eq_false (fun z => Int64.not_le.mpr q z.1)]
    rfl
  · rw [lg_cmp_gt] at r
    rw [decide_eq_false (fun z => Int64.not_le.mpr r z.2)]
    rfl
  · rw [lg_cmp_lt] at q
    rw [lg_cmp_gt] at r
    rw [decide_eq_true ⟨Int64.not_lt.mp q, Int64.not_lt.mp r⟩]
    rfl
/-- between two ints -/
def inR (a b c : Int32) : Bool := decide (b ≤ a ∧ a ≤ c)
theorem ct_isInI (a b c : Int32) (h : Hp) : CtI 0 mX11_isIn [.long a.toInt64, .long b.toInt64, .long c.toInt64] h (pq (bI (inR a b c)) h) := by
  have := ct_isIn a.toInt64 b.toInt64 c.toInt64 h
  simp only [i64_le] at this
  exact this
theorem ct_isHour (x : Int32) (h : Hp) : CtI 1 mX11_isHour [.ref 113, .int x] h (pq (bI (inR x 0 (h.1 114 0 - 1))) h) :=
  e_X11_isHour ⟨_, ct_isInI x 0 _ h, fun v h' q => by obtain ⟨rfl, rfl⟩ := q; exact ⟨bI_and _, rfl, rfl⟩⟩
theorem ct_isPlant (x : Int32) (h : Hp) : CtI 1 mX11_isPlant [.ref 113, .int x] h (pq (bI (inR x 0 (h.1 114 3 - 1))) h) :=
  e_X11_isPlant ⟨_, ct_isInI x 0 _ h, fun v h' q => by obtain ⟨rfl, rfl⟩ := q; exact ⟨bI_and _, rfl, rfl⟩⟩
/-- a refusal counted by the reference -/
def noS (h : Hp) (n : Nat) : Hp := ui h 117 n (h.1 117 n + 1)
theorem neg_lit (n : Nat) (hn : n < 7) : vp_in (-(-nI n)) 7 ∧ (-(-nI n)).toNatClampNeg = n := by
  rw [Int32.neg_neg]
  exact ⟨vp_in_nI hn (by omega), nI_clamp (by omega)⟩
theorem ct_no {n : Nat} (hn : n < 7) (h : Hp) : CtI 0 mX11_no [.ref 113, .int (-nI n)] h (fun v h' => v = -nI n ∧ h' = noS h n) := by
  obtain ⟨a, b⟩ := neg_lit n hn
  exact e_X11_no ⟨a, a, fun g e => ⟨rfl, by rw [e, b]; rfl⟩⟩
theorem ct_noWide {n : Nat} (hn : n < 7) (h : Hp) : CtL 1 mX11_noWide [.ref 113, .int (-nI n)] h (fun v h' => v = 4000000000000000000 - (-nI n).toInt64 ∧ h' = noS h n) :=
  e_X11_noWide ⟨_, ct_no hn h, fun v h' q => by obtain ⟨rfl, rfl⟩ := q; exact ⟨rfl, rfl⟩⟩
def wbS (v a b : Int32) : Int32 := if v < a then -4 else if b < v then -6 else 0
theorem i32_nle {a b : Int32} : ¬ a ≤ b ↔ b < a := Int32.not_le
theorem i32_nlt {a b : Int32} : ¬ a < b ↔ b ≤ a := Int32.not_lt
theorem ct_wrongBy (v a b : Int32) (h : Hp) : CtI 0 mX11_wrongBy [.int v, .int a, .int b] h (pq (wbS v a b) h) := by
  refine e_X11_wrongBy ⟨fun c => ⟨fun c2 => ⟨?_, rfl⟩, fun c2 => ⟨?_, rfl⟩⟩, fun c => ⟨?_, rfl⟩⟩
  · rw [wbS, if_neg (i32_nlt.mpr c), if_neg (i32_nlt.mpr c2)]
  · rw [wbS, if_neg (i32_nlt.mpr c), if_pos (i32_nle.mp c2)]
  · rw [wbS, if_pos (i32_nle.mp c)]
def woS (v a b w a2 b2 : Int32) : Int32 := if v < a ∨ w < a2 then -4 else if b < v ∨ b2 < w then -6 else 0
theorem ct_wrongOf (v a b w a2 b2 : Int32) (h : Hp) : CtI 0 mX11_wrongOf [.int v, .int a, .int b, .int w, .int a2, .int b2] h (pq (woS v a b w a2 b2) h) := by
  refine e_X11_wrongOf ⟨fun c => ⟨?_, rfl⟩, fun c => ⟨fun c2 => ⟨fun c3 => ⟨?_, rfl⟩, fun c3 => ⟨fun c4 => ⟨?_, rfl⟩, fun c4 => ⟨?_, rfl⟩⟩⟩, fun c2 => ⟨?_, rfl⟩⟩⟩
  · rw [woS, if_pos (Or.inl c)]
  · rw [woS, if_neg (by rintro (q | q); exact c q; exact i32_nlt.mpr c2 q), if_pos (Or.inl c3)]
  · rw [woS, if_neg (by rintro (q | q); exact c q; exact i32_nlt.mpr c2 q), if_neg (by rintro (q | q); exact c3 q; exact i32_nlt.mpr c4 q)]
  · rw [woS, if_neg (by rintro (q | q); exact c q; exact i32_nlt.mpr c2 q), if_pos (Or.inr (i32_nle.mp c4))]
  · rw [woS, if_pos (Or.inr (i32_nle.mp c2))]
/-- what starts cost behind r hours off -/
def stS (k fg st off : Int32) : Int32 :=
  if k = 1 then st + fg * imin off 4 else if k = 3 then 2 * st else if k = 4 then (if imin off 4 = 1 then (st + fg * imin off 4) / 2 else st + fg * imin off 4) else if k = 5 then 2 * st else st
theorem ct_startsBy (k fg st off : Int32) (h : Hp) : CtI 0 mX11_startsBy [.int k, .int fg, .int st, .int off] h (pq (stS k fg st off) h) := by
  have key : ∀ r : Int32, imin off 4 = r → GoI 0 mX11_startsBy 10 [(0, .int k), (1, .int fg), (2, .int st)] [.int r] h (pq (stS k fg st off) h) := by
    intro r hr
    refine b_X11_startsBy_10 ⟨fun c => ⟨?_, rfl⟩, fun c => ⟨fun c2 => ⟨?_, rfl⟩, fun c2 => ⟨fun c3 => ⟨fun c4 => ⟨?_, rfl⟩, fun c4 => ⟨?_, rfl⟩⟩, fun c3 => ⟨fun c4 => ⟨?_, rfl⟩, fun c4 => ⟨?_, rfl⟩⟩⟩⟩⟩ <;> simp [stS, hr, *]
  exact e_X11_startsBy ⟨fun c => key off (if_neg (i32_nlt.mpr c)), fun c => key 4 (if_pos (i32_nle.mp c))⟩
theorem ct_startsOf {p : Nat} (hp : p < 3) (off : Int32) (h : Hp) : CtI 1 mX11_startsOf [.ref 113, .int (nI p), .int off] h (pq (stS (pfS (h.1 114) p 0) (pfS (h.1 114) p 1) (pfS (h.1 114) p 6) off) h) := by
  refine e_X11_startsOf ⟨_, ct_of1 (w := 0) hp (by omega) h, fun v h' q => ?_⟩
  obtain ⟨rfl, rfl⟩ := q
  refine ⟨_, ct_of1 (w := 1) hp (by omega) _, fun v h' q => ?_⟩
  obtain ⟨rfl, rfl⟩ := q
  refine ⟨_, ct_of1 (w := 6) hp (by omega) _, fun v h' q => ?_⟩
  obtain ⟨rfl, rfl⟩ := q
  exact ⟨_, ct_startsBy _ _ _ _ _, fun v h' q => q⟩
theorem ct_leastOf {p : Nat} (hp : p < 3) (h : Hp) : CtI 1 mX11_leastOf [.ref 113, .int (nI p)] h (pq (lsS (pfS (h.1 114) p)) h) := by
  refine e_X11_leastOf ⟨_, ct_of1 (w := 0) hp (by omega) h, fun v h' q => ?_⟩
  obtain ⟨rfl, rfl⟩ := q
  refine ⟨fun c => ⟨_, ct_of1 (w := 2) hp (by omega) _, fun v h' q => ?_⟩, fun c => ⟨_, ct_of1 (w := 3) hp (by omega) _, fun v h' q => ?_⟩⟩ <;> obtain ⟨rfl, rfl⟩ := q
  · exact ⟨(if_neg c).symm, rfl⟩
  · exact ⟨(if_pos c).symm, rfl⟩
/-- the most, in an hour in which it goes on or not -/
def msS (f : Nat → Int32) (b : Bool) : Int32 := if b = true ∧ (f 0 = 2 ∨ f 0 = 3) then imin (f 3) (f 2 + f 1) else f 3
