/-! ===== the reference: rows, done, given ===== -/
/-- the found row, or how many there are: n rows from x on, c found -/
def roR (ok : Nat → Bool) (i : Int32) : Nat → Nat → Int32 → Int32 × Bool
  | 0, _, c => (c, decide (i = -1))
  | n + 1, x, c => if ok x then (if c = i then (nI x, true) else roR ok i n (x + 1) (c + 1)) else roR ok i n (x + 1) c
def roW (s : Nat → Int32) (p i : Int32) : Int32 := if inR p 0 (s 3 - 1) then (if (roR (fun x => lawS (pfS s p.toNatClampNeg) (hasB (nI x)) (nH s)) i (2 ^ nH s) 0 0).2 then 0 else -3) else -1
theorem ct_rows (p i : Int32) (h : Hp) (s : Nat → Int32) (hs : h.1 114 = s) (o : OKs s) : CtI 3 mX11_rows [.ref 113, .int p, .int i] h (okw (roW s p i) h (fun v h' => v = (roR (fun x => lawS (pfS s p.toNatClampNeg) (hasB (nI x)) (nH s)) i (2 ^ nH s) 0 0).1 ∧ h' = h)) := by
  have hP := o.hP
  have hH := o.hH
  have hpow := pow_le hH
  refine e_X11_rows (pc (ct_isPlant p h) ⟨fun c => ?_, fun c => ⟨_, ct_noW isW_1 h, fun v h' q => ?_⟩⟩)
  · rw [hs] at c
    have cp := bI_t c
    obtain ⟨t, et, ht⟩ := isP_nI o cp
    subst et
    have ct : (nI t).toNatClampNeg = t := nI_clamp (show t < 2 ^ 31 by omega)
    have lp : ∀ n x : Nat, n + x = 2 ^ nH s → ∀ f : Int32, roR (fun x => lawS (pfS s (nI t).toNatClampNeg) (hasB (nI x)) (nH s)) i n x f = roR (fun x => lawS (pfS s (nI t).toNatClampNeg) (hasB (nI x)) (nH s)) i (2 ^ nH s) 0 0 → GoI 3 mX11_rows 19 [(0, .ref 113), (1, .int (nI t)), (2, .int i), (3, .int f), (4, .int (nI x))] [] h (okw (roW s (nI t) i) h (fun v h' => v = (roR (fun x => lawS (pfS s (nI t).toNatClampNeg) (hasB (nI x)) (nH s)) i (2 ^ nH s) 0 0).1 ∧ h' = h)) := by
      intro n
      induction n with
      | zero =>
        intro x hx f er
        rw [roR] at er
        refine b_X11_rows_19 ⟨fun _ => ⟨fun c2 => ⟨_, ct_noW isW_3 h, fun v h' q => ?_⟩, fun c2 => okw_t ?_ ⟨?_, rfl⟩⟩, fun c2 => absurd ?_ c2⟩
        · have ew : roW s (nI t) i = -3 := by
            rw [roW, if_pos cp, ← er]
            exact if_neg (fun z => c2 (of_decide_eq_true z))
          rw [ew]
          exact okw_f (by decide) q
        · rw [roW, if_pos cp, ← er]
          exact if_pos (decide_eq_true c2)
        · rw [← er]
        · rw [hs, o.eH, shl1 (nH s) (by omega)]
          exact nI_le (by omega) (by omega)
      | succ n ih =>
        intro x hx f er
        rw [roR] at er
        refine b_X11_rows_19 ⟨fun c2 => absurd c2 ?_, fun _ => pc (ct_isLawful (H := nH s) (by omega) hH (nI x) h (by rw [hs]; exact o.eH)) ?_⟩
        · rw [hs, o.eH, shl1 (nH s) (by omega)]
          exact nI_ge (by omega) (by omega)
        · rw [hs]
          rw [ct] at er
          refine ⟨fun c2 => b_X11_rows_53 ?_, fun c2 => ⟨fun c3 => b_X11_rows_53 ?_, fun c3 => okw_t ?_ ⟨?_, rfl⟩⟩⟩
          · rw [bI_0.mp c2] at er
            rw [nI_1]
            refine ih (x + 1) (by omega) f ?_
            rw [ct]
            exact er
          · rw [bI_t c2, if_pos rfl, if_neg c3] at er
            rw [nI_1]
            refine ih (x + 1) (by omega) (f + 1) ?_
            rw [ct]
            exact er
          · rw [bI_t c2, if_pos rfl, if_pos c3] at er
            rw [roW, if_pos cp, ct, ← er]
            rfl
          · rw [bI_t c2, if_pos rfl, if_pos c3] at er
            rw [ct, ← er]
    exact lp (2 ^ nH s) 0 rfl 0 rfl
  · rw [hs] at c
    have ew : roW s p i = -1 := by rw [roW, if_neg (by rw [bI_0.mp c]; decide)]
    rw [ew]
    exact okw_f (by decide) q
def seW (s : Nat → Int32) (x : Int32) : Int32 := wbS x 0 (nI (2 ^ nP s - 1))
theorem ct_setWrong (x : Int32) (h : Hp) (s : Nat → Int32) (hs : h.1 114 = s) (o : OKs s) : CtI 1 mX11_setWrong [.ref 113, .int x] h (pq (seW s x) h) := by
  have hP := o.hP
  refine e_X11_setWrong ?_
  rw [hs, o.eP, shl1 (nP s) (by omega), pow1 (nP s) (by omega)]
  exact pc (ct_wrongBy _ _ _ h) ⟨rfl, rfl⟩
/-- what an hour costs by a set, without starts -/
def dnV (s : Nat → Int32) (t : Nat) (x : Int32) : Int32 := coE (nP s) (s 1) (pfS s) (s (4 + t)) (s (9 + t)) (hasB x) (hasB 0)
def dnW (s : Nat → Int32) (hour x : Int32) : Int32 := if inR hour 0 (s 0 - 1) then seW s x else -1
theorem dnW_isW (s : Nat → Int32) (hour x : Int32) : isW (dnW s hour x) := by
  unfold dnW
  by_cases c : inR hour 0 (s 0 - 1) = true
  · rw [if_pos c]
    exact isW_wb _ _ _
  · rw [if_neg c]
    exact isW_1
theorem ct_done (hour x : Int32) (h : Hp) (s : Nat → Int32) (hs : h.1 114 = s) (o : OKs s) : CtI 5 mX11_done [.ref 113, .int hour, .int x] h (okw (dnW s hour x) h (fun v h' => v = (if dnV s hour.toNatClampNeg x = FAR then -9 else dnV s hour.toNatClampNeg x) ∧ Fr [118] h h')) := by
  have hP := o.hP
  have hH := o.hH
  have s17 : GoI 5 mX11_done 17 [(0, .ref 113), (1, .int hour), (2, .int x)] [.int (dnW s hour x)] h (okw (dnW s hour x) h (fun v h' => v = (if dnV s hour.toNatClampNeg x = FAR then -9 else dnV s hour.toNatClampNeg x) ∧ Fr [118] h h')) := by
    refine b_X11_done_17 ⟨fun c => ?_, fun c => ⟨_, ct_noW (dnW_isW _ _ _) h, fun v h' q => okw_f c q⟩⟩
    have cp : inR hour 0 (s 0 - 1) = true := by
      by_cases y : inR hour 0 (s 0 - 1) = true
      · exact y
      · unfold dnW at c
        rw [if_neg y] at c
        exact absurd c (by decide)
    obtain ⟨t, et, ht⟩ := isH_nI o cp
    subst et
    rw [nI_clamp (show t < 2 ^ 31 by omega)]
    refine ⟨_, ct_costBy' hP (by omega) x 0 h s hs o.eP, fun v h4 q => ?_⟩
    obtain ⟨q1, q2⟩ := q
    rw [q1]
    refine ⟨fun c2 => okw_t c ⟨?_, q2⟩, fun c2 => okw_t c ⟨?_, q2⟩⟩
    · exact (if_neg c2).symm
    · exact (if_pos c2).symm
  refine e_X11_done (pc (ct_isHour hour h) ⟨fun c => ?_, fun c => ?_⟩)
  · rw [hs] at c
    have ew : dnW s hour x = -1 := by rw [dnW, if_neg (by rw [bI_0.mp c]; decide)]
    rw [ew] at s17 ⊢
    exact s17
  · rw [hs] at c
    refine pc (ct_setWrong x h s hs o) ?_
    have ew : dnW s hour x = seW s x := by rw [dnW, if_pos (bI_t c)]
    rw [ew] at s17 ⊢
    exact s17
