/-! ===== the reference: costs, age, starts, lawful, rows, done, given ===== -/
def coW (s : Nat → Int32) (p a b c : Int32) : Int32 := if inR p 0 (s 3 - 1) then (if a < 0 ∨ b < 0 ∨ c < 0 then -4 else if 9 < a ∨ 30 < b ∨ 50 < c then -6 else 0) else -1
theorem coW_isW (s : Nat → Int32) (p a b c : Int32) : isW (coW s p a b c) := by
  unfold coW
  by_cases d : inR p 0 (s 3 - 1) = true
  · rw [if_pos d]
    by_cases e : a < 0 ∨ b < 0 ∨ c < 0
    · rw [if_pos e]
      exact isW_4
    · rw [if_neg e]
      by_cases f : 9 < a ∨ 30 < b ∨ 50 < c
      · rw [if_pos f]
        exact isW_6
      · rw [if_neg f]
        exact isW_0
  · rw [if_neg d]
    exact isW_1
theorem ct_costsWrong (p a b c : Int32) (h : Hp) (s : Nat → Int32) (hs : h.1 114 = s) : CtI 2 mX11_costsWrong [.ref 113, .int p, .int a, .int b, .int c] h (pq (coW s p a b c) h) := by
  refine e_X11_costsWrong (pc (ct_isPlant p h) ⟨fun d => ?_, fun d => ⟨?_, rfl⟩⟩)
  · rw [hs] at d
    have dt := bI_t d
    refine ⟨fun e => ⟨?_, rfl⟩, fun e => ⟨fun f => ⟨?_, rfl⟩, fun f => ⟨fun g => ⟨fun i => ⟨?_, rfl⟩, fun i => ⟨fun j => ⟨?_, rfl⟩, fun j => ⟨fun k => ⟨?_, rfl⟩, fun k => ⟨?_, rfl⟩⟩⟩⟩, fun g => ⟨?_, rfl⟩⟩⟩⟩
    · rw [coW, if_pos dt, if_pos (Or.inl e)]
    · rw [coW, if_pos dt, if_pos (Or.inr (Or.inl f))]
    · rw [coW, if_pos dt, if_neg (fun z => z.elim e (fun z => z.elim f (fun z => Int32.not_lt.mpr g z))), if_pos (Or.inl i)]
    · rw [coW, if_pos dt, if_neg (fun z => z.elim e (fun z => z.elim f (fun z => Int32.not_lt.mpr g z))), if_pos (Or.inr (Or.inl j))]
    · rw [coW, if_pos dt, if_neg (fun z => z.elim e (fun z => z.elim f (fun z => Int32.not_lt.mpr g z))), if_neg (fun z => z.elim i (fun z => z.elim j (fun z => Int32.not_lt.mpr k z)))]
    · rw [coW, if_pos dt, if_neg (fun z => z.elim e (fun z => z.elim f (fun z => Int32.not_lt.mpr g z))), if_pos (Or.inr (Or.inr (Int32.not_le.mp k)))]
    · rw [coW, if_pos dt, if_pos (Or.inr (Or.inr (Int32.not_le.mp g)))]
  · rw [hs] at d
    rw [coW, if_neg (by rw [bI_0.mp d]; decide)]
theorem ct_costs (p a b c : Int32) (h : Hp) (s : Nat → Int32) (hs : h.1 114 = s) (o : OKs s) : CtI 3 mX11_costs [.ref 113, .int p, .int a, .int b, .int c] h (okw (coW s p a b c) h (fun v h' => v = 10000 * pfS s p.toNatClampNeg 4 + 100 * pfS s p.toNatClampNeg 5 + pfS s p.toNatClampNeg 6 ∧ h' = ui (ui (ui h 114 (19 + 10 * p.toNatClampNeg + 4) a) 114 (19 + 10 * p.toNatClampNeg + 5) b) 114 (19 + 10 * p.toNatClampNeg + 6) c)) := by
  have hP := o.hP
  refine e_X11_costs (pc (ct_costsWrong p a b c h s hs) ⟨fun d => ?_, fun d => ⟨_, ct_noW (coW_isW _ _ _ _ _) h, fun v h' q => okw_f d q⟩⟩)
  have cp : inR p 0 (s 3 - 1) = true := by
    by_cases y : inR p 0 (s 3 - 1) = true
    · exact y
    · unfold coW at d
      rw [if_neg y] at d
      exact absurd d (by decide)
  obtain ⟨t, et, ht⟩ := isP_nI o cp
  subst et
  rw [nI_clamp (show t < 2 ^ 31 by omega)]
  refine pc (ct_of1 (w := 4) (by omega) (by decide) h) (pc (ct_of1 (w := 5) (by omega) (by decide) h) (pc (ct_of1 (w := 6) (by omega) (by decide) h) (vc (ct_sets (w := 4) (by omega) (by decide) a h) (vc (ct_sets (w := 5) (by omega) (by decide) b _) (vc (ct_sets (w := 6) (by omega) (by decide) c _) (okw_t d ⟨?_, rfl⟩))))))
  rw [hs]
def agW (s : Nat → Int32) (p v : Int32) : Int32 := if inR p 0 (s 3 - 1) then (if wbS v (-4) 4 = 0 then (if v = 0 then -3 else 0) else wbS v (-4) 4) else -1
theorem agW_isW (s : Nat → Int32) (p v : Int32) : isW (agW s p v) := by
  unfold agW
  by_cases d : inR p 0 (s 3 - 1) = true
  · rw [if_pos d]
    by_cases e : wbS v (-4) 4 = 0
    · rw [if_pos e]
      by_cases f : v = 0
      · rw [if_pos f]
        exact isW_3
      · rw [if_neg f]
        exact isW_0
    · rw [if_neg e]
      exact isW_wb _ _ _
  · rw [if_neg d]
    exact isW_1
theorem ct_age (p x : Int32) (h : Hp) (s : Nat → Int32) (hs : h.1 114 = s) (o : OKs s) : CtI 3 mX11_age [.ref 113, .int p, .int x] h (okw (agW s p x) h (fun v h' => v = pfS s p.toNatClampNeg 9 + 10 ∧ h' = ui h 114 (19 + 10 * p.toNatClampNeg + 9) x)) := by
  have hP := o.hP
  have w : CtI 2 mX11_ageWrong [.ref 113, .int p, .int x] h (pq (agW s p x) h) := by
    refine e_X11_ageWrong (pc (ct_isPlant p h) ⟨fun c => pc (ct_wrongBy _ _ _ h) ⟨fun c2 => ⟨?_, rfl⟩, fun c2 => ⟨fun c3 => ⟨?_, rfl⟩, fun c3 => ⟨?_, rfl⟩⟩⟩, fun c => ⟨?_, rfl⟩⟩)
    · rw [hs] at c
      rw [agW, if_pos (bI_t c), if_neg c2]
    · rw [hs] at c
      rw [agW, if_pos (bI_t c), if_pos c2, if_neg c3, c2]
    · rw [hs] at c
      rw [agW, if_pos (bI_t c), if_pos c2, if_pos c3]
    · rw [hs] at c
      rw [agW, if_neg (by rw [bI_0.mp c]; decide)]
  refine e_X11_age (pc w ⟨fun c => ?_, fun c => ⟨_, ct_noW (agW_isW _ _ _) h, fun v h' q => okw_f c q⟩⟩)
  have cp : inR p 0 (s 3 - 1) = true := by
    by_cases y : inR p 0 (s 3 - 1) = true
    · exact y
    · unfold agW at c
      rw [if_neg y] at c
      exact absurd c (by decide)
  obtain ⟨t, et, ht⟩ := isP_nI o cp
  subst et
  rw [nI_clamp (show t < 2 ^ 31 by omega)]
  refine pc (ct_of1 (w := 9) (by omega) (by decide) h) (vc (ct_sets (w := 9) (by omega) (by decide) x h) (okw_t c ⟨?_, rfl⟩))
  rw [hs]
def sxW (s : Nat → Int32) (p r : Int32) : Int32 := if inR p 0 (s 3 - 1) then wbS r 1 9 else -1
theorem ct_starts (p r : Int32) (h : Hp) (s : Nat → Int32) (hs : h.1 114 = s) (o : OKs s) : CtI 2 mX11_starts [.ref 113, .int p, .int r] h (okw (sxW s p r) h (fun v h' => v = stS (pfS s p.toNatClampNeg 0) (pfS s p.toNatClampNeg 1) (pfS s p.toNatClampNeg 6) r ∧ h' = h)) := by
  have hP := o.hP
  refine e_X11_starts (pc (ct_isPlant p h) ⟨fun c => ⟨fun z => absurd z (by decide), fun _ => ⟨_, ct_noW isW_1 h, fun v h' q => ?_⟩⟩, fun c => pc (ct_wrongBy _ _ _ h) ⟨fun c2 => ?_, fun c2 => ⟨_, ct_noW (isW_wb _ _ _) h, fun v h' q => ?_⟩⟩⟩)
  · rw [hs] at c
    have ew : sxW s p r = -1 := by rw [sxW, if_neg (by rw [bI_0.mp c]; decide)]
    rw [ew]
    exact okw_f (by decide) q
  · rw [hs] at c
    have ew : sxW s p r = 0 := by rw [sxW, if_pos (bI_t c), c2]
    obtain ⟨t, et, ht⟩ := isP_nI o (bI_t c)
    subst et
    rw [nI_clamp (show t < 2 ^ 31 by omega)]
    refine pc (ct_startsOf (by omega) r h) (okw_t ew ⟨?_, rfl⟩)
    rw [hs]
  · rw [hs] at c
    have ew : sxW s p r = wbS r 1 9 := by rw [sxW, if_pos (bI_t c)]
    rw [ew]
    exact okw_f c2 q
theorem pow1 : ∀ k, k < 8 → nI (2 ^ k) - 1 = nI (2 ^ k - 1) := by decide +kernel
def lwW (s : Nat → Int32) (p row : Int32) : Int32 := if inR p 0 (s 3 - 1) then wbS row 0 (nI (2 ^ nH s - 1)) else -1
theorem lwW_isW (s : Nat → Int32) (p row : Int32) : isW (lwW s p row) := by
  unfold lwW
  by_cases c : inR p 0 (s 3 - 1) = true
  · rw [if_pos c]
    exact isW_wb _ _ _
  · rw [if_neg c]
    exact isW_1
theorem ct_lawful (p row : Int32) (h : Hp) (s : Nat → Int32) (hs : h.1 114 = s) (o : OKs s) : CtI 3 mX11_lawful [.ref 113, .int p, .int row] h (okw (lwW s p row) h (fun v h' => v = bI (lawS (pfS s p.toNatClampNeg) (hasB row) (nH s)) ∧ h' = h)) := by
  have hP := o.hP
  have hH := o.hH
  have s27 : GoI 3 mX11_lawful 27 [(0, .ref 113), (1, .int p), (2, .int row)] [.int (lwW s p row)] h (okw (lwW s p row) h (fun v h' => v = bI (lawS (pfS s p.toNatClampNeg) (hasB row) (nH s)) ∧ h' = h)) := by
    refine b_X11_lawful_27 ⟨fun c => ?_, fun c => ⟨_, ct_noW (lwW_isW _ _ _) h, fun v h' q => okw_f c q⟩⟩
    have cp : inR p 0 (s 3 - 1) = true := by
      by_cases y : inR p 0 (s 3 - 1) = true
      · exact y
      · unfold lwW at c
        rw [if_neg y] at c
        exact absurd c (by decide)
    obtain ⟨t, et, ht⟩ := isP_nI o cp
    subst et
    rw [nI_clamp (show t < 2 ^ 31 by omega)]
    refine pc (ct_isLawful (H := nH s) (by omega) hH row h (by rw [hs]; exact o.eH)) ?_
    rw [hs]
    refine ⟨fun c2 => okw_t c ⟨?_, rfl⟩, fun c2 => okw_t c ⟨?_, rfl⟩⟩
    · rw [bI_0.mp c2]
      rfl
    · rw [bI_t c2]
      rfl
  refine e_X11_lawful (pc (ct_isPlant p h) ⟨fun c => ?_, fun c => ?_⟩)
  · rw [hs] at c
    have ew : lwW s p row = -1 := by rw [lwW, if_neg (by rw [bI_0.mp c]; decide)]
    rw [ew] at s27 ⊢
    exact s27
  · rw [hs] at c
    rw [hs, o.eH, shl1 (nH s) (by omega), pow1 (nH s) (by omega)]
    refine pc (ct_wrongBy _ _ _ h) ?_
    have ew : lwW s p row = wbS row 0 (nI (2 ^ nH s - 1)) := by rw [lwW, if_pos (bI_t c)]
    rw [ew] at s27 ⊢
    exact s27
