/-! ===== the reference: demand and what plants have ===== -/
theorem isW_wo (v a b w a2 b2 : Int32) : isW (woS v a b w a2 b2) := by
  unfold woS
  by_cases c : v < a ∨ w < a2
  · rw [if_pos c]
    exact ⟨4, by decide, by decide⟩
  · rw [if_neg c]
    by_cases c2 : b < v ∨ b2 < w
    · rw [if_pos c2]
      exact ⟨6, by decide, by decide⟩
    · rw [if_neg c2]
      exact ⟨0, by decide, by decide⟩
theorem isW_4 : isW (-4) := ⟨4, by decide, by decide⟩
theorem isW_6 : isW (-6) := ⟨6, by decide, by decide⟩
def deW (s : Nat → Int32) (hour d r : Int32) : Int32 := if inR hour 0 (s 0 - 1) then woS d 0 99 r 0 20 else -1
theorem deW_isW (s : Nat → Int32) (hour d r : Int32) : isW (deW s hour d r) := by
  unfold deW
  by_cases c : inR hour 0 (s 0 - 1) = true
  · rw [if_pos c]
    exact isW_wo _ _ _ _ _ _
  · rw [if_neg c]
    exact isW_1
theorem ct_demandWrong (hour d r : Int32) (h : Hp) (s : Nat → Int32) (hs : h.1 114 = s) : CtI 2 mX11_demandWrong [.ref 113, .int hour, .int d, .int r] h (pq (deW s hour d r) h) := by
  refine e_X11_demandWrong (pc (ct_isHour hour h) ⟨fun c => ⟨?_, rfl⟩, fun c => pc (ct_wrongOf _ _ _ _ _ _ h) ⟨?_, rfl⟩⟩)
  · rw [hs] at c
    unfold deW
    rw [if_neg (by rw [bI_0.mp c]; decide)]
  · rw [hs] at c
    unfold deW
    rw [if_pos (bI_t c)]
theorem ct_demand (hour d r : Int32) (h : Hp) (s : Nat → Int32) (hs : h.1 114 = s) (o : OKs s) : CtI 3 mX11_demand [.ref 113, .int hour, .int d, .int r] h (okw (deW s hour d r) h (fun v h' => v = 100 * s (4 + hour.toNatClampNeg) + s (9 + hour.toNatClampNeg) ∧ h' = ui (ui h 114 (4 + hour.toNatClampNeg) d) 114 (9 + hour.toNatClampNeg) r)) := by
  have hH := o.hH
  refine e_X11_demand (pc (ct_demandWrong hour d r h s hs) ⟨fun c => ?_, fun c => ⟨_, ct_noW (deW_isW _ _ _ _) h, fun v h' q => okw_f c q⟩⟩)
  have ci : inR hour 0 (s 0 - 1) = true := by
    by_cases y : inR hour 0 (s 0 - 1) = true
    · exact y
    · unfold deW at c
      rw [if_neg y] at c
      exact absurd c (by decide)
  obtain ⟨t, et, ht⟩ := isH_nI o ci
  subst et
  rw [ix4, ix9, nI_clamp (show 4 + t < 2 ^ 31 by omega), nI_clamp (show 9 + t < 2 ^ 31 by omega), nI_clamp (show t < 2 ^ 31 by omega), hs]
  refine ⟨vp_in_nI (by omega) (by omega), vp_in_nI (by omega) (by omega), vp_in_nI (by omega) (by omega), fun g9 e9 => ⟨vp_in_nI (by omega) (by omega), fun g11 e11 => okw_t c ⟨rfl, ?_⟩⟩⟩
  rw [e11, e9]
def giW (s : Nat → Int32) (p lo hi : Int32) : Int32 := if inR p 0 (s 3 - 1) then (if woS lo 0 30 hi 0 60 = 0 then (if lo ≤ hi then 0 else -3) else woS lo 0 30 hi 0 60) else -1
theorem giW_isW (s : Nat → Int32) (p lo hi : Int32) : isW (giW s p lo hi) := by
  unfold giW
  by_cases c : inR p 0 (s 3 - 1) = true
  · rw [if_pos c]
    by_cases c2 : woS lo 0 30 hi 0 60 = 0
    · rw [if_pos c2]
      by_cases c3 : lo ≤ hi
      · rw [if_pos c3]
        exact isW_0
      · rw [if_neg c3]
        exact isW_3
    · rw [if_neg c2]
      exact isW_wo _ _ _ _ _ _
  · rw [if_neg c]
    exact isW_1
theorem ct_givesWrong (p lo hi : Int32) (h : Hp) (s : Nat → Int32) (hs : h.1 114 = s) : CtI 2 mX11_givesWrong [.ref 113, .int p, .int lo, .int hi] h (pq (giW s p lo hi) h) := by
  refine e_X11_givesWrong (pc (ct_isPlant p h) ⟨fun c => pc (ct_wrongOf _ _ _ _ _ _ h) ⟨fun c2 => ⟨?_, rfl⟩, fun c2 => ⟨fun c3 => ⟨?_, rfl⟩, fun c3 => ⟨?_, rfl⟩⟩⟩, fun c => ⟨?_, rfl⟩⟩)
  · rw [hs] at c
    unfold giW
    rw [if_pos (bI_t c), if_neg c2]
  · rw [hs] at c
    unfold giW
    rw [if_pos (bI_t c), if_pos c2, if_pos c3, c2]
  · rw [hs] at c
    unfold giW
    rw [if_pos (bI_t c), if_pos c2, if_neg c3]
  · rw [hs] at c
    unfold giW
    rw [if_neg (by rw [bI_0.mp c]; decide)]
theorem giW_p {s : Nat → Int32} {p lo hi : Int32} (c : giW s p lo hi = 0) : inR p 0 (s 3 - 1) = true := by
  by_cases y : inR p 0 (s 3 - 1) = true
  · exact y
  · unfold giW at c
    rw [if_neg y] at c
    exact absurd c (by decide)
theorem ct_gives (p lo hi : Int32) (h : Hp) (s : Nat → Int32) (hs : h.1 114 = s) (o : OKs s) : CtI 3 mX11_gives [.ref 113, .int p, .int lo, .int hi] h (okw (giW s p lo hi) h (fun v h' => v = 100 * pfS s p.toNatClampNeg 2 + pfS s p.toNatClampNeg 3 ∧ h' = ui (ui h 114 (19 + 10 * p.toNatClampNeg + 2) lo) 114 (19 + 10 * p.toNatClampNeg + 3) hi)) := by
  have hP := o.hP
  refine e_X11_gives (pc (ct_givesWrong p lo hi h s hs) ⟨fun c => ?_, fun c => ⟨_, ct_noW (giW_isW _ _ _ _) h, fun v h' q => okw_f c q⟩⟩)
  obtain ⟨t, et, ht⟩ := isP_nI o (giW_p c)
  subst et
  rw [nI_clamp (show t < 2 ^ 31 by omega)]
  refine pc (ct_of1 (w := 2) (by omega) (by decide) h) (pc (ct_of1 (w := 3) (by omega) (by decide) h) (vc (ct_sets (w := 2) (by omega) (by decide) lo h) (vc (ct_sets (w := 3) (by omega) (by decide) hi _) (okw_t c ⟨?_, rfl⟩))))
  rw [hs]
def tiW (s : Nat → Int32) (p a b : Int32) : Int32 := if inR p 0 (s 3 - 1) then woS a 1 3 b 1 3 else -1
theorem tiW_isW (s : Nat → Int32) (p a b : Int32) : isW (tiW s p a b) := by
  unfold tiW
  by_cases c : inR p 0 (s 3 - 1) = true
  · rw [if_pos c]
    exact isW_wo _ _ _ _ _ _
  · rw [if_neg c]
    exact isW_1
theorem ct_times (p a b : Int32) (h : Hp) (s : Nat → Int32) (hs : h.1 114 = s) (o : OKs s) : CtI 3 mX11_times [.ref 113, .int p, .int a, .int b] h (okw (tiW s p a b) h (fun v h' => v = 10 * pfS s p.toNatClampNeg 7 + pfS s p.toNatClampNeg 8 ∧ h' = ui (ui h 114 (19 + 10 * p.toNatClampNeg + 7) a) 114 (19 + 10 * p.toNatClampNeg + 8) b)) := by
  have hP := o.hP
  have w : CtI 2 mX11_timesWrong [.ref 113, .int p, .int a, .int b] h (pq (tiW s p a b) h) := by
    refine e_X11_timesWrong (pc (ct_isPlant p h) ⟨fun c => ⟨?_, rfl⟩, fun c => pc (ct_wrongOf _ _ _ _ _ _ h) ⟨?_, rfl⟩⟩)
    · rw [hs] at c
      unfold tiW
      rw [if_neg (by rw [bI_0.mp c]; decide)]
    · rw [hs] at c
      unfold tiW
      rw [if_pos (bI_t c)]
  refine e_X11_times (pc w ⟨fun c => ?_, fun c => ⟨_, ct_noW (tiW_isW _ _ _ _) h, fun v h' q => okw_f c q⟩⟩)
  have cp : inR p 0 (s 3 - 1) = true := by
    by_cases y : inR p 0 (s 3 - 1) = true
    · exact y
    · unfold tiW at c
      rw [if_neg y] at c
      exact absurd c (by decide)
  obtain ⟨t, et, ht⟩ := isP_nI o cp
  subst et
  rw [nI_clamp (show t < 2 ^ 31 by omega)]
  refine pc (ct_of1 (w := 7) (by omega) (by decide) h) (pc (ct_of1 (w := 8) (by omega) (by decide) h) (vc (ct_sets (w := 7) (by omega) (by decide) a h) (vc (ct_sets (w := 8) (by omega) (by decide) b _) (okw_t c ⟨?_, rfl⟩))))
  rw [hs]
theorem ct_merit (x : Int32) (h : Hp) (s : Nat → Int32) (hs : h.1 114 = s) : CtI 1 mX11_merit [.ref 113, .int x] h (okw (if inR x 0 2 then 0 else -2) h (fun v h' => v = s 1 ∧ h' = ui h 114 1 x)) := by
  refine e_X11_merit (pc (ct_isInI x 0 2 h) ⟨fun c g6 e6 => okw_t (if_pos (bI_t c)) ⟨?_, e6⟩, fun c => ⟨_, ct_noW isW_2 h, fun v h' q => ?_⟩⟩)
  · rw [hs]
  · rw [if_neg (by rw [bI_0.mp c]; decide)]
    exact okw_f (by decide) q
