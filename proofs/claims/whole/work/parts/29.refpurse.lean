/-! ===== the reference: purse, hours, demand ===== -/
def ovB (a b : Int64) : Bool := if lg_cmp a 0 = 0 then false else if lg_cmp b 0 = 0 then false else if lg_cmp a (-1) = 0 ∧ lg_cmp b (-9223372036854775808) = 0 then true else if lg_cmp b (-1) = 0 ∧ lg_cmp a (-9223372036854775808) = 0 then true else !decide (lg_cmp (a * b / b) a = 0)
theorem lg0 {b : Int64} (h : ¬ lg_cmp b 0 = 0) : ¬ b = 0 := fun e => h (by rw [e]; rfl)
theorem ct_isOver (a b : Int64) (h : Hp) : CtI 0 mX11_isOver [.long a, .long b] h (pq (bI (ovB a b)) h) := by
  have s30 : ¬ lg_cmp a 0 = 0 → ¬ lg_cmp b 0 = 0 → ¬ (lg_cmp a (-1) = 0 ∧ lg_cmp b (-9223372036854775808) = 0) → GoI 0 mX11_isOver 30 [(0, .long a), (2, .long b)] [] h (pq (bI (ovB a b)) h) := by
    intro c1 c2 c3
    have b0 := lg0 c2
    refine b_X11_isOver_30 ⟨fun c4 => ⟨b0, fun c5 => ⟨?_, rfl⟩, fun c5 => ⟨?_, rfl⟩⟩, fun c4 => ⟨fun c5 => ⟨?_, rfl⟩, fun c5 => ⟨b0, fun c6 => ⟨?_, rfl⟩, fun c6 => ⟨?_, rfl⟩⟩⟩⟩
    · rw [ovB, if_neg c1, if_neg c2, if_neg c3, if_neg (fun z => c4 z.1), decide_eq_true c5]
      rfl
    · rw [ovB, if_neg c1, if_neg c2, if_neg c3, if_neg (fun z => c4 z.1), decide_eq_false c5]
      rfl
    · rw [ovB, if_neg c1, if_neg c2, if_neg c3, if_pos ⟨c4, c5⟩]
      rfl
    · rw [ovB, if_neg c1, if_neg c2, if_neg c3, if_neg (fun z => c5 z.2), decide_eq_true c6]
      rfl
    · rw [ovB, if_neg c1, if_neg c2, if_neg c3, if_neg (fun z => c5 z.2), decide_eq_false c6]
      rfl
  refine e_X11_isOver ⟨fun c1 => ⟨?_, rfl⟩, fun c1 => ⟨fun c2 => ⟨fun c3 => s30 c1 c2 (fun z => c3 z.1), fun c3 => ⟨fun c4 => ⟨?_, rfl⟩, fun c4 => s30 c1 c2 (fun z => c4 z.2)⟩⟩, fun c2 => ⟨?_, rfl⟩⟩⟩
  · rw [ovB, if_pos c1]
    rfl
  · rw [ovB, if_neg c1, if_neg c2, if_pos ⟨c3, c4⟩]
    rfl
  · rw [ovB, if_neg c1, if_pos c2]
    rfl
/-- whether the purse p may not take v -/
def coB (p v : Int64) : Bool := if ¬ lg_cmp v 0 ≤ 0 ∧ lg_cmp (p + v) p < 0 then true else if ¬ 0 ≤ lg_cmp v 0 ∧ ¬ lg_cmp (p + v) p ≤ 0 then true else false
theorem ct_comes (v : Int64) (h : Hp) : CtI 0 mX11_comes [.ref 113, .long v] h (fun x h' => x = bI (coB (h.2 113 4) v) ∧ h' = if coB (h.2 113 4) v then h else ul h 113 4 (h.2 113 4 + v)) := by
  have s22 : ¬ (¬ lg_cmp v 0 ≤ 0 ∧ lg_cmp (h.2 113 4 + v) (h.2 113 4) < 0) → GoI 0 mX11_comes 22 [(0, .ref 113), (1, .long v), (3, .long (h.2 113 4 + v))] [] h (fun x h' => x = bI (coB (h.2 113 4) v) ∧ h' = if coB (h.2 113 4) v then h else ul h 113 4 (h.2 113 4 + v)) := by
    intro c
    refine b_X11_comes_22 ⟨fun c2 g1 e1 => ?_, fun c2 => ⟨fun c3 g2 e2 => ?_, fun c3 => ?_⟩⟩
    · have e : coB (h.2 113 4) v = false := by rw [coB, if_neg c, if_neg (fun z => z.1 c2)]
      rw [e]
      exact ⟨rfl, e1⟩
    · have e : coB (h.2 113 4) v = false := by rw [coB, if_neg c, if_neg (fun z => z.2 c3)]
      rw [e]
      exact ⟨rfl, e2⟩
    · have e : coB (h.2 113 4) v = true := by rw [coB, if_neg c, if_pos ⟨c2, c3⟩]
      rw [e]
      exact ⟨rfl, rfl⟩
  refine e_X11_comes ⟨fun c => s22 (fun z => z.1 c), fun c => ⟨fun c2 => ?_, fun c2 => s22 (fun z => c2 z.2)⟩⟩
  have e : coB (h.2 113 4) v = true := by rw [coB, if_pos ⟨c, c2⟩]
  rw [e]
  exact ⟨rfl, rfl⟩
def paB (p n v : Int64) : Bool := ovB n v || coB p (n * v)
theorem ct_pays (n v : Int64) (h : Hp) : CtI 1 mX11_pays [.ref 113, .long n, .long v] h (fun x h' => x = (if paB (h.2 113 4) n v then -7 else 1) ∧ h' = if paB (h.2 113 4) n v then h else ul h 113 4 (h.2 113 4 + n * v)) := by
  refine e_X11_pays (pc (ct_isOver n v h) ⟨fun c => ?_, fun c => ⟨_, ct_comes (n * v) h, fun x h9 q => ?_⟩⟩)
  · have e : paB (h.2 113 4) n v = true := by rw [paB, bI_t c, Bool.true_or]
    rw [e]
    exact ⟨rfl, rfl⟩
  · obtain ⟨q1, q2⟩ := q
    rw [q1]
    have e : paB (h.2 113 4) n v = coB (h.2 113 4) (n * v) := by rw [paB, bI_0.mp c, Bool.false_or]
    rw [e]
    refine ⟨fun c2 => ⟨?_, q2⟩, fun c2 => ⟨?_, q2⟩⟩
    · rw [bI_0.mp c2]
      rfl
    · rw [bI_t c2]
      rfl
theorem ct_purse (h : Hp) : CtL 0 mX11_purse [.ref 113] h (fun v h' => v = h.2 113 4 ∧ h' = h) := e_X11_purse ⟨rfl, rfl⟩
/-- what a bill for n best plans takes -/
def biV (s : Nat → Int32) (n : Int32) : Int64 := -((beV s 0).toInt64 * n.toInt64)
theorem ct_bills (n : Int32) (h : Hp) (s : Nat → Int32) (hs : h.1 114 = s) (o : OKs s) (hab : h.1 113 8 = 0) : CtI 8 mX11_bills [.ref 113, .int n] h (fun x h' => ∃ h4 : Hp, triI scr h h4 ∧ (beV s 0 = -9 → x = -3 ∧ h' = noS h4 3) ∧ (¬ beV s 0 = -9 → x = (if coB (h.2 113 4) (biV s n) then -7 else 1) ∧ h' = if coB (h.2 113 4) (biV s n) then h4 else ul h4 113 4 (h.2 113 4 + biV s n))) := by
  refine e_X11_bills ⟨_, ct_bestsX (ab := 0) h s hs o hab, fun v h4 q => ?_⟩
  obtain ⟨q1, q2, -⟩ := q
  have e2 : h4.2 113 4 = h.2 113 4 := by rw [q2.1.2]
  rw [q1]
  refine ⟨fun c => ⟨_, ct_comes _ h4, fun x h9 r => ⟨h4, q2, fun c2 => absurd c2 c, fun _ => ?_⟩⟩, fun c => ⟨_, ct_no (n := 3) (by decide) h4, fun x h14 r => ⟨h4, q2, fun _ => r, fun c2 => absurd c c2⟩⟩⟩
  rw [e2] at r
  refine ⟨?_, r.2⟩
  rw [r.1]
  show (if bI (coB (h.2 113 4) (biV s n)) = 0 then (1 : Int32) else -7) = _
  cases coB (h.2 113 4) (biV s n) <;> rfl
theorem ct_hours (x : Int32) (h : Hp) (s : Nat → Int32) (hs : h.1 114 = s) : CtI 2 mX11_hours [.ref 113, .int x] h (okw (wbS x 1 5) h (fun v h' => v = s 0 ∧ h' = ui h 114 0 x)) := by
  refine e_X11_hours ⟨_, e_X11_hoursWrong (pc (ct_wrongBy x 1 5 h) (R := pq (wbS x 1 5) h) ⟨rfl, rfl⟩), fun w h4 q => ?_⟩
  obtain ⟨q1, q2⟩ := q
  subst q1
  subst q2
  refine ⟨fun c g6 e6 => okw_t c ⟨?_, e6⟩, fun c => ⟨_, ct_noW (isW_wb _ _ _) _, fun v h' q => okw_f c q⟩⟩
  rw [hs]
