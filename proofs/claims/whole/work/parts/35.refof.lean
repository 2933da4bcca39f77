/-! ===== the reference: of ===== -/
def ofV (s : Nat → Int32) (p : Nat) (w : Int32) : Int32 := if w = 10 then lsS (pfS s p) else if w = 11 then msS (pfS s p) true else pfS s p w.toNatClampNeg + (if w = 9 then 10 else 0)
def ofW (s : Nat → Int32) (p w : Int32) : Int32 := if inR p 0 (s 3 - 1) then (if inR w 0 11 then 0 else -2) else -1
theorem ct_of (p w : Int32) (h : Hp) (s : Nat → Int32) (hs : h.1 114 = s) (o : OKs s) : CtI 2 mX11_of [.ref 113, .int p, .int w] h (okw (ofW s p w) h (fun v h' => v = ofV s p.toNatClampNeg w ∧ h' = h)) := by
  have hP := o.hP
  refine e_X11_of (pc (ct_isPlant p h) ⟨fun c => pc (ct_isInI w 0 11 h) ⟨fun c2 => ?_, fun c2 => ⟨_, ct_noW isW_2 h, fun v h' q => ?_⟩⟩, fun c => ⟨_, ct_noW isW_1 h, fun v h' q => ?_⟩⟩)
  · rw [hs] at c
    have ew : ofW s p w = 0 := by rw [ofW, if_pos (bI_t c), if_pos (bI_t c2)]
    obtain ⟨t, et, ht⟩ := isP_nI o (bI_t c)
    obtain ⟨k, ek, hk⟩ := inR_nIw (n := 12) (by decide) (x := w) (bI_t c2)
    subst et
    subst ek
    rw [nI_clamp (show t < 2 ^ 31 by omega)]
    refine ⟨fun c3 => ⟨fun c4 => ?_, fun c4 => ?_⟩, fun c3 => ?_⟩
    · have k10 : k ≠ 10 := fun z => c3 (by rw [z]; rfl)
      have k11 : k ≠ 11 := fun z => c4 (by rw [z]; rfl)
      refine pc (ct_of1 (by omega) (by omega) h) (okw_t ew ⟨?_, rfl⟩)
      rw [ofV, if_neg c3, if_neg c4, nI_clamp (show k < 2 ^ 31 by omega), hs]
    · refine pc (ct_mostOf (by omega) true h) (okw_t ew ⟨?_, rfl⟩)
      rw [ofV, if_neg c3, if_pos c4, hs]
    · refine pc (ct_leastOf (by omega) h) (okw_t ew ⟨?_, rfl⟩)
      rw [ofV, if_pos c3, hs]
  · rw [hs] at c
    have ew : ofW s p w = -2 := by rw [ofW, if_pos (bI_t c), if_neg (by rw [bI_0.mp c2]; decide)]
    rw [ew]
    exact okw_f (by decide) q
  · rw [hs] at c
    have ew : ofW s p w = -1 := by rw [ofW, if_neg (by rw [bI_0.mp c]; decide)]
    rw [ew]
    exact okw_f (by decide) q
