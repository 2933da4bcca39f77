/-! ===== the reference: given, a plant more ===== -/
/-- what one gives in an hour by a set; none -/
def gnV (s : Nat → Int32) (t : Nat) (x : Int32) (p : Nat) : Int32 := if hasB x p then (if dnV s t x = FAR then -9 else shF (nP s) (s 1) (pfS s) (s (4 + t)) (hasB x) (hasB 0) (fun _ => 0) p) else 0
def gnW (s : Nat → Int32) (hour x p : Int32) : Int32 := if inR hour 0 (s 0 - 1) then (if inR p 0 (s 3 - 1) then seW s x else -1) else -1
theorem gnW_isW (s : Nat → Int32) (hour x p : Int32) : isW (gnW s hour x p) := by
  unfold gnW
  by_cases c : inR hour 0 (s 0 - 1) = true
  · rw [if_pos c]
    by_cases d : inR p 0 (s 3 - 1) = true
    · rw [if_pos d]
      exact isW_wb _ _ _
    · rw [if_neg d]
      exact isW_1
  · rw [if_neg c]
    exact isW_1
set_option maxHeartbeats 4000000 in
theorem ct_given (hour x p : Int32) (h : Hp) (s : Nat → Int32) (hs : h.1 114 = s) (o : OKs s) : CtI 5 mX11_given [.ref 113, .int hour, .int x, .int p] h (okw (gnW s hour x p) h (fun v h' => v = gnV s hour.toNatClampNeg x p.toNatClampNeg ∧ Fr [118] h h')) := by
  have hP := o.hP
  have hH := o.hH
  have s25 : GoI 5 mX11_given 25 [(0, .ref 113), (1, .int hour), (2, .int x), (3, .int p)] [.int (gnW s hour x p)] h (okw (gnW s hour x p) h (fun v h' => v = gnV s hour.toNatClampNeg x p.toNatClampNeg ∧ Fr [118] h h')) := by
    refine b_X11_given_25 ⟨fun c => ?_, fun c => ⟨_, ct_noW (gnW_isW _ _ _ _) h, fun v h' q => okw_f c q⟩⟩
    have cp : inR hour 0 (s 0 - 1) = true := by
      by_cases y : inR hour 0 (s 0 - 1) = true
      · exact y
      · unfold gnW at c
        rw [if_neg y] at c
        exact absurd c (by decide)
    have cq : inR p 0 (s 3 - 1) = true := by
      by_cases y : inR p 0 (s 3 - 1) = true
      · exact y
      · unfold gnW at c
        rw [if_pos cp, if_neg y] at c
        exact absurd c (by decide)
    obtain ⟨t, et, ht⟩ := isH_nI o cp
    obtain ⟨k, ek, hk⟩ := isP_nI o cq
    subst et
    subst ek
    rw [nI_clamp (show t < 2 ^ 31 by omega), nI_clamp (show k < 2 ^ 31 by omega)]
    refine pc (ct_has x k h) ⟨fun c2 => ⟨_, ct_costBy hP (by omega) x 0 h s hs o.eP, fun v h9 q => ?_⟩, fun c2 => okw_t c ⟨?_, Fr.rf⟩⟩
    · obtain ⟨q1, q2⟩ := q
      have e1 : v = dnV s t x := by rw [q1, coF_g]; rfl
      have f9 : Fr [118] h h9 := by
        rw [q2]
        exact Fr.uc (by decide)
      rw [e1]
      refine ⟨fun c3 => ⟨vp_in_nI (by omega) (by omega), okw_t c ⟨?_, f9⟩⟩, fun c3 => okw_t c ⟨?_, f9⟩⟩
      · have e2 : gnV s t x k = shF (nP s) (s 1) (pfS s) (s (4 + t)) (hasB x) (hasB 0) (fun _ => 0) k := by
          unfold gnV
          rw [if_pos (bI_t c2)]
          exact if_neg c3
        have c4 : canF (nP s) (pfS s) (s (4 + t)) (s (9 + t)) (hasB x) (hasB 0) = true := by
          by_cases y : canF (nP s) (pfS s) (s (4 + t)) (s (9 + t)) (hasB x) (hasB 0) = true
          · exact y
          · refine absurd ?_ c3
            unfold dnV coE coF
            rw [if_neg y]
            rfl
        rw [e2, q2, uc_at]
        unfold ouF
        rw [if_pos c4]
        exact shF_g _ _ _ _ _ _ _ _ k hk
      · unfold gnV
        rw [if_pos (bI_t c2)]
        exact (if_pos c3).symm
    · unfold gnV
      rw [if_neg (by rw [bI_0.mp c2]; decide)]
  refine e_X11_given (pc (ct_isHour hour h) ⟨fun c => b_X11_given_24 ?_, fun c => pc (ct_isPlant p h) ⟨fun c2 => b_X11_given_24 ?_, fun c2 => pc (ct_setWrong x h s hs o) ?_⟩⟩)
  · rw [hs] at c
    have ew : gnW s hour x p = -1 := by rw [gnW, if_neg (by rw [bI_0.mp c]; decide)]
    rw [ew] at s25 ⊢
    exact s25
  · rw [hs] at c c2
    have ew : gnW s hour x p = -1 := by rw [gnW, if_pos (bI_t c), if_neg (by rw [bI_0.mp c2]; decide)]
    rw [ew] at s25 ⊢
    exact s25
  · rw [hs] at c c2
    have ew : gnW s hour x p = seW s x := by rw [gnW, if_pos (bI_t c), if_pos (bI_t c2)]
    rw [ew] at s25 ⊢
    exact s25
def plW (s : Nat → Int32) (kd fg : Int32) : Int32 := if inR kd 0 5 then (if wbS fg 0 9 = 0 then (if s 3 = 3 then -6 else 0) else wbS fg 0 9) else -2
theorem plW_isW (s : Nat → Int32) (kd fg : Int32) : isW (plW s kd fg) := by
  unfold plW
  by_cases c : inR kd 0 5 = true
  · rw [if_pos c]
    by_cases d : wbS fg 0 9 = 0
    · rw [if_pos d]
      by_cases e : s 3 = 3
      · rw [if_pos e]
        exact isW_6
      · rw [if_neg e]
        exact isW_0
    · rw [if_neg d]
      exact isW_wb _ _ _
  · rw [if_neg c]
    exact isW_2
/-- the row with a plant more -/
def adV (h : Hp) (p : Nat) (kd fg : Int32) : Hp := ui (ui (ui (ui (ui (ui (ui (ui (ui (ui (ui h 114 (19 + 10 * p + 0) kd) 114 (19 + 10 * p + 1) fg) 114 (19 + 10 * p + 2) 0) 114 (19 + 10 * p + 3) 10) 114 (19 + 10 * p + 4) 1) 114 (19 + 10 * p + 5) 0) 114 (19 + 10 * p + 6) 0) 114 (19 + 10 * p + 7) 1) 114 (19 + 10 * p + 8) 1) 114 (19 + 10 * p + 9) (-1)) 114 3 (nI (p + 1))
theorem ct_adds {p : Nat} (hp : p < 3) (kd fg : Int32) (h : Hp) (hs : h.1 114 3 = nI p) : CtI 1 mX11_adds [.ref 113, .int kd, .int fg] h (fun v h' => v = nI p ∧ h' = adV h p kd fg) := by
  refine e_X11_adds ?_
  rw [hs]
  refine vc (ct_sets (w := 0) hp (by decide) kd h) (vc (ct_sets (w := 1) hp (by decide) fg _) (vc (ct_sets (w := 2) hp (by decide) 0 _) (vc (ct_sets (w := 3) hp (by decide) 10 _) (vc (ct_sets (w := 4) hp (by decide) 1 _) (vc (ct_sets (w := 5) hp (by decide) 0 _) (vc (ct_sets (w := 6) hp (by decide) 0 _) (vc (ct_sets (w := 7) hp (by decide) 1 _) (vc (ct_sets (w := 8) hp (by decide) 1 _) (vc (ct_sets (w := 9) hp (by decide) (-1) _) (fun g51 e51 => ⟨rfl, ?_⟩))))))))))
  rw [e51]
  unfold adV
  rw [ui_nj (show 3 ≠ 19 + 10 * p + 9 by omega), ui_nj (show 3 ≠ 19 + 10 * p + 8 by omega), ui_nj (show 3 ≠ 19 + 10 * p + 7 by omega), ui_nj (show 3 ≠ 19 + 10 * p + 6 by omega), ui_nj (show 3 ≠ 19 + 10 * p + 5 by omega), ui_nj (show 3 ≠ 19 + 10 * p + 4 by omega), ui_nj (show 3 ≠ 19 + 10 * p + 3 by omega), ui_nj (show 3 ≠ 19 + 10 * p + 2 by omega), ui_nj (show 3 ≠ 19 + 10 * p + 1 by omega), ui_nj (show 3 ≠ 19 + 10 * p + 0 by omega), hs, nI_1]
theorem ct_plant (kd fg : Int32) (h : Hp) (s : Nat → Int32) (hs : h.1 114 = s) (o : OKs s) : CtI 2 mX11_plant [.ref 113, .int kd, .int fg] h (okw (plW s kd fg) h (fun v h' => v = s 3 ∧ h' = adV h (nP s) kd fg)) := by
  have hP := o.hP
  have w : CtI 1 mX11_plantWrong [.ref 113, .int kd, .int fg] h (pq (plW s kd fg) h) := by
    refine e_X11_plantWrong (pc (ct_isInI kd 0 5 h) ⟨fun c => pc (ct_wrongBy _ _ _ h) ⟨fun c2 => ⟨?_, rfl⟩, fun c2 => ⟨fun c3 => ⟨?_, rfl⟩, fun c3 => ⟨?_, rfl⟩⟩⟩, fun c => ⟨?_, rfl⟩⟩)
    · rw [plW, if_pos (bI_t c), if_neg c2]
    · rw [hs] at c3
      rw [plW, if_pos (bI_t c), if_pos c2, if_neg c3, c2]
    · rw [hs] at c3
      rw [plW, if_pos (bI_t c), if_pos c2, if_pos c3]
    · rw [plW, if_neg (by rw [bI_0.mp c]; decide)]
  refine e_X11_plant (pc w ⟨fun c => ?_, fun c => ⟨_, ct_noW (plW_isW _ _ _) h, fun v h' q => okw_f c q⟩⟩)
  have p3 : nP s < 3 := by
    by_cases y : nP s = 3
    · have e3 : s 3 = 3 := by
        rw [o.eP, y]
        rfl
      unfold plW at c
      by_cases c1 : inR kd 0 5 = true
      · rw [if_pos c1] at c
        by_cases c2 : wbS fg 0 9 = 0
        · rw [if_pos c2, if_pos e3] at c
          exact absurd c (by decide)
        · rw [if_neg c2] at c
          exact absurd c c2
      · rw [if_neg c1] at c
        exact absurd c (by decide)
    · omega
  exact ic (ct_adds p3 kd fg h (by rw [hs]; exact o.eP)) (okw_t c ⟨o.eP.symm, rfl⟩)
