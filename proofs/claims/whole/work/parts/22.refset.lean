/-! ===== the reference: price, step, answer ===== -/
def prW (s : Nat → Int32) (hour v : Int32) : Int32 := if inR hour 0 (s 0 - 1) then wbS v 0 99 else -1
theorem ct_price (hour x : Int32) (h : Hp) (s : Nat → Int32) (hs : h.1 114 = s) (o : OKs s) : CtI 2 mX11_price [.ref 113, .int hour, .int x] h (okw (prW s hour x) h (fun v h' => v = s (14 + hour.toNatClampNeg) ∧ h' = ui h 114 (14 + hour.toNatClampNeg) x)) := by
  have hH := o.hH
  have s19 : ∀ w : Int32, w = prW s hour x → isW w → GoI 2 mX11_price 19 [(0, .ref 113), (1, .int hour), (2, .int x)] [.int w] h (okw (prW s hour x) h (fun v h' => v = s (14 + hour.toNatClampNeg) ∧ h' = ui h 114 (14 + hour.toNatClampNeg) x)) := by
    intro w ew iw
    subst ew
    refine b_X11_price_19 ⟨fun c => ?_, fun c => ⟨_, ct_noW iw h, fun v h' q => okw_f c q⟩⟩
    have ci : inR hour 0 (s 0 - 1) = true := by
      by_cases y : inR hour 0 (s 0 - 1) = true
      · exact y
      · unfold prW at c
        rw [if_neg y] at c
        exact absurd c (by decide)
    obtain ⟨t, et, ht⟩ := isH_nI o ci
    subst et
    rw [ix14, nI_clamp (show 14 + t < 2 ^ 31 by omega), nI_clamp (show t < 2 ^ 31 by omega), hs]
    exact ⟨vp_in_nI (by omega) (by omega), vp_in_nI (by omega) (by omega), fun g3 e3 => okw_t c ⟨rfl, e3⟩⟩
  refine e_X11_price (pc (ct_isHour hour h) ⟨fun c => s19 _ ?_ isW_1, fun c => pc (ct_wrongBy x 0 99 h) (s19 _ ?_ (isW_wb _ _ _))⟩)
  · rw [hs] at c
    unfold prW
    rw [if_neg (by rw [bI_0.mp c]; decide)]
  · rw [hs] at c
    unfold prW
    rw [if_pos (bI_t c)]
theorem ct_step (x : Int32) (h : Hp) (s : Nat → Int32) (hs : h.1 114 = s) : CtI 1 mX11_step [.ref 113, .int x] h (okw (wbS x 0 9) h (fun v h' => v = s 2 ∧ h' = ui h 114 2 x)) := by
  refine e_X11_step (pc (ct_wrongBy x 0 9 h) ⟨fun c g6 e6 => okw_t c ⟨?_, e6⟩, fun c => ⟨_, ct_noW (isW_wb _ _ _) h, fun v h' q => okw_f c q⟩⟩)
  rw [hs]
/-- what answer answers -/
def awsV (s : Nat → Int32) (p : Nat) (what : Int32) : Int32 := if what = 0 then awV s p else if what = 1 then neV s p (awV s p) else sumI (gvV s p (awV s p)) (nH s)
def awW (s : Nat → Int32) (p what : Int32) : Int32 := if inR p 0 (s 3 - 1) then (if inR what 0 2 then 0 else -2) else -1
theorem in02 {x : Int32} (h : inR x 0 2 = true) : x = 0 ∨ x = 1 ∨ x = 2 := by
  obtain ⟨t, e, ht⟩ := inR_nI 3 (by decide) x h
  match t, ht with
  | 0, _ => exact Or.inl e
  | 1, _ => exact Or.inr (Or.inl e)
  | 2, _ => exact Or.inr (Or.inr e)
set_option maxHeartbeats 4000000 in
theorem ct_answer (p what : Int32) (h : Hp) (s : Nat → Int32) (hs : h.1 114 = s) (o : OKs s) : CtL 5 mX11_answer [.ref 113, .int p, .int what] h (okwL (awW s p what) h (fun v h' => v = (awsV s p.toNatClampNeg what).toInt64 ∧ h' = h)) := by
  have hH := o.hH
  have hP := o.hP
  refine e_X11_answer (pc (ct_isPlant p h) ⟨fun c => pc (ct_isInI what 0 2 h) ⟨fun c2 => ?_, fun c2 => ⟨_, ct_noWideW isW_2 h, fun v h' q => ?_⟩⟩, fun c => ⟨_, ct_noWideW isW_1 h, fun v h' q => ?_⟩⟩)
  · rw [hs] at c
    have ew : awW s p what = 0 := by
      unfold awW
      rw [if_pos (bI_t c), if_pos (bI_t c2)]
    obtain ⟨t, et, ht⟩ := isP_nI o (bI_t c)
    subst et
    refine pc (ct_answerOf (by omega) h s hs o) ?_
    rw [nI_clamp (show t < 2 ^ 31 by omega)]
    have lp : what = 2 → ∀ n j : Nat, n + j = nH s → GoL 5 mX11_answer 67 [(0, .ref 113), (1, .int (nI t)), (3, .int (awV s t)), (4, .int (sumI (gvV s t (awV s t)) j)), (5, .int (nI j))] [] h (okwL (awW s (nI t) what) h (fun v h' => v = (awsV s t what).toInt64 ∧ h' = h)) := by
      intro w2 n
      induction n with
      | zero =>
        intro j hj
        have hj : j = nH s := by omega
        subst hj
        refine b_X11_answer_67 ⟨fun _ => okwL_t ew ⟨?_, rfl⟩, fun c3 => absurd ?_ c3⟩
        · unfold awsV
          rw [w2, if_neg (by decide), if_neg (by decide)]
        · rw [hs, o.eH]
          exact nI_le (by omega) (by omega)
      | succ n ih =>
        intro j hj
        refine b_X11_answer_67 ⟨fun c3 => absurd c3 ?_, fun _ => pc (ct_givesBy (by omega) (by omega) _ h s hs) ?_⟩
        · rw [hs, o.eH]
          exact nI_ge (by omega) (by omega)
        · rw [nI_1]
          exact ih (j + 1) (by omega)
    refine ⟨fun c3 => lp ?_ (nH s) 0 rfl, fun c3 => ⟨fun c4 => pc (ct_netOf (by omega) _ h s hs o) (okwL_t ew ⟨?_, rfl⟩), fun c4 => okwL_t ew ⟨?_, rfl⟩⟩⟩
    · rcases in02 (bI_t c2) with e | e | e
      · rw [e] at c3
        exact absurd c3 (by decide)
      · rw [e] at c3
        exact absurd c3 (by decide)
      · exact e
    · rcases in02 (bI_t c2) with e | e | e
      · exact absurd e c4
      · unfold awsV
        rw [if_neg c4, if_pos e]
      · rw [e] at c3
        exact absurd (by decide) c3
    · unfold awsV
      rw [if_pos c4]
  · rw [hs] at c
    have ew : awW s p what = -2 := by
      unfold awW
      rw [if_pos (bI_t c), if_neg (by rw [bI_0.mp c2]; decide)]
    rw [ew]
    exact okwL_f (by decide) q
  · rw [hs] at c
    have ew : awW s p what = -1 := by
      unfold awW
      rw [if_neg (by rw [bI_0.mp c]; decide)]
    rw [ew]
    exact okwL_f (by decide) q
theorem ct_allDemand (h : Hp) (s : Nat → Int32) (hs : h.1 114 = s) (o : OKs s) : CtI 0 mX11_allDemand [.ref 113] h (pq (sumI (fun t => s (4 + t)) (nH s)) h) := by
  have hH := o.hH
  have lp : ∀ n t : Nat, n + t = nH s → GoI 0 mX11_allDemand 4 [(0, .ref 113), (1, .int (sumI (fun t => s (4 + t)) t)), (2, .int (nI t))] [] h (pq (sumI (fun t => s (4 + t)) (nH s)) h) := by
    intro n
    induction n with
    | zero =>
      intro t ht
      have ht : t = nH s := by omega
      subst ht
      refine b_X11_allDemand_4 ⟨fun _ => ⟨rfl, rfl⟩, fun c => absurd ?_ c⟩
      rw [hs, o.eH]
      exact nI_le (by omega) (by omega)
    | succ n ih =>
      intro t ht
      have ih2 := ih (t + 1) (by omega)
      refine b_X11_allDemand_4 ⟨fun c => absurd c ?_, fun _ => ?_⟩
      · rw [hs, o.eH]
        exact nI_ge (by omega) (by omega)
      · rw [ix4, nI_clamp (show 4 + t < 2 ^ 31 by omega), nI_1, hs]
        exact ⟨vp_in_nI (by omega) (by omega), ih2⟩
  exact e_X11_allDemand (lp (nH s) 0 rfl)
