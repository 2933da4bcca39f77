/-! ===== the reference: image, on, hour ===== -/
theorem ct_image (h : Hp) : CtI 1 mX11_image [.ref 113] h (fun v h' => v = h.1 114 3 ∧ h' = ui (ul (uc h 116 (va_cpy (h.1 114) (h.1 116) 0 0 49)) 113 5 (h.2 113 4)) 113 3 1) := by
  refine e_X11_image (fun g1 e1 g2 e2 g3 e3 => ⟨?_, ?_⟩)
  · rw [e3, ui_ne (by decide), e2]
    show g1.1 114 3 = h.1 114 3
    rw [e1, uc_ne _ _ (by decide)]
  · rw [e3, e2, e1]
    rfl
theorem ct_on (h : Hp) : CtI 1 mX11_on [.ref 113] h (fun v h' => (¬ h.1 113 3 = 0 → v = h.1 116 3 ∧ h' = ul (uc h 114 (va_cpy (h.1 116) (h.1 114) 0 0 49)) 113 4 (h.2 113 5)) ∧ (h.1 113 3 = 0 → v = -3 ∧ h' = noS h 3)) := by
  refine e_X11_on ⟨fun c g1 e1 g2 e2 => ⟨fun _ => ⟨?_, ?_⟩, fun z => absurd z c⟩, fun c => ⟨_, ct_no (n := 3) (by decide) h, fun v h' q => ⟨fun z => absurd c z, fun _ => q⟩⟩⟩
  · rw [e2]
    show g1.1 114 3 = h.1 116 3
    rw [e1, uc_at]
    exact cpy_lt _ _ (by decide)
  · rw [e2, e1]
    rfl
def hoW (s : Nat → Int32) (hour w : Int32) : Int32 := if inR hour 0 (s 0 - 1) then (if inR w 0 2 then 0 else -2) else -1
theorem ct_hour (hour w : Int32) (h : Hp) (s : Nat → Int32) (hs : h.1 114 = s) (o : OKs s) : CtI 2 mX11_hour [.ref 113, .int hour, .int w] h (okw (hoW s hour w) h (fun v h' => v = s (4 + 5 * w.toNatClampNeg + hour.toNatClampNeg) ∧ h' = h)) := by
  have hH := o.hH
  refine e_X11_hour (pc (ct_isHour hour h) ⟨fun c => pc (ct_isInI w 0 2 h) ⟨fun c2 => ?_, fun c2 => ⟨_, ct_noW isW_2 h, fun v h' q => ?_⟩⟩, fun c => ⟨_, ct_noW isW_1 h, fun v h' q => ?_⟩⟩)
  · rw [hs] at c
    have ew : hoW s hour w = 0 := by rw [hoW, if_pos (bI_t c), if_pos (bI_t c2)]
    obtain ⟨t, et, ht⟩ := isH_nI o (bI_t c)
    obtain ⟨k, ek, hk⟩ := inR_nIw (n := 3) (by decide) (x := w) (bI_t c2)
    subst et
    subst ek
    have ix : ((4 : Int32) + (5 * nI k)) + nI t = nI (4 + 5 * k + t) := by rw [show (5 : Int32) = nI 5 from rfl, show (4 : Int32) = nI 4 from rfl, pk_mul, nI_add, nI_add]
    rw [ix, nI_clamp (show 4 + 5 * k + t < 2 ^ 31 by omega), nI_clamp (show t < 2 ^ 31 by omega), nI_clamp (show k < 2 ^ 31 by omega), hs]
    exact ⟨vp_in_nI (by omega) (by omega), okw_t ew ⟨rfl, rfl⟩⟩
  · rw [hs] at c
    have ew : hoW s hour w = -2 := by rw [hoW, if_pos (bI_t c), if_neg (by rw [bI_0.mp c2]; decide)]
    rw [ew]
    exact okw_f (by decide) q
  · rw [hs] at c
    have ew : hoW s hour w = -1 := by rw [hoW, if_neg (by rw [bI_0.mp c]; decide)]
    rw [ew]
    exact okw_f (by decide) q
