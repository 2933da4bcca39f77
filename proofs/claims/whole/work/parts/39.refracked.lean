/-! ===== the reference: racked, a rack ===== -/
def rkW (r x : Int32) : Int32 := if inR r 0 2 then wbS x 1 9 else -1
theorem rkW_isW (r x : Int32) : isW (rkW r x) := by
  unfold rkW
  by_cases c : inR r 0 2 = true
  · rw [if_pos c]
    exact isW_wb _ _ _
  · rw [if_neg c]
    exact isW_1
def rkV (kd sz la : Nat → Int32) (r : Nat) (i : Int32) (x : Int32) : Int32 := if rwV kd sz r i = 0 then (if la (3 * (9 * r + i.toNatClampNeg)) = -9 then -9 else stS (la (3 * (9 * r + i.toNatClampNeg))) (la (3 * (9 * r + i.toNatClampNeg) + 1)) (la (3 * (9 * r + i.toNatClampNeg) + 2)) x) else rwV kd sz r i
theorem ct_racked (r i x : Int32) (h : Hp) (ok : okR (h.1 131) (h.1 132)) : CtI 2 mX11_racked [.ref 113, .int r, .int i, .int x] h (okw (rkW r x) h (fun v h' => v = rkV (h.1 131) (h.1 132) (h.1 133) r.toNatClampNeg i x ∧ h' = h)) := by
  have s18 : GoI 2 mX11_racked 18 [(0, .ref 113), (1, .int r), (2, .int i), (3, .int x)] [.int (rkW r x)] h (okw (rkW r x) h (fun v h' => v = rkV (h.1 131) (h.1 132) (h.1 133) r.toNatClampNeg i x ∧ h' = h)) := by
    refine b_X11_racked_18 ⟨fun c => ?_, fun c => ⟨_, ct_noW (rkW_isW _ _) h, fun v h' q => okw_f c q⟩⟩
    have cr : inR r 0 2 = true := by
      by_cases y : inR r 0 2 = true
      · exact y
      · unfold rkW at c
        rw [if_neg y] at c
        exact absurd c (by decide)
    obtain ⟨R, eR, hR⟩ := inR_nIw (n := 3) (by decide) (x := r) cr
    subst eR
    rw [nI_clamp (show R < 2 ^ 31 by omega)]
    refine pc (ct_rackWrong hR i h) ⟨fun c2 => ?_, fun c2 => okw_t c ⟨?_, rfl⟩⟩
    · obtain ⟨j, ej, hj⟩ := rwV_0 ok hR c2
      subst ej
      refine pc (ct_placeOf R j h) ?_
      rw [nI_1, show (nI (3 * (9 * R + j)) + 2) = nI (3 * (9 * R + j) + 2) from nI_add _ 2, nI_clamp (show 3 * (9 * R + j) < 2 ^ 31 by omega), nI_clamp (show 3 * (9 * R + j) + 1 < 2 ^ 31 by omega), nI_clamp (show 3 * (9 * R + j) + 2 < 2 ^ 31 by omega)]
      have cj : (nI j).toNatClampNeg = j := nI_clamp (show j < 2 ^ 31 by omega)
      refine ⟨vp_in_nI (by omega) (by omega), fun c3 => ⟨vp_in_nI (by omega) (by omega), vp_in_nI (by omega) (by omega), vp_in_nI (by omega) (by omega), pc (ct_startsBy _ _ _ _ h) (okw_t c ⟨?_, rfl⟩)⟩, fun c3 => okw_t c ⟨?_, rfl⟩⟩
      · rw [rkV, if_pos c2, cj, if_neg c3]
      · rw [rkV, if_pos c2, cj, if_pos c3]
    · rw [rkV, if_neg c2]
  refine e_X11_racked (pc (ct_isRack r h) ⟨fun c => ?_, fun c => pc (ct_wrongBy _ _ _ h) ?_⟩)
  · have ew : rkW r x = -1 := by rw [rkW, if_neg (by rw [bI_0.mp c]; decide)]
    rw [ew] at s18 ⊢
    exact s18
  · have ew : rkW r x = wbS x 1 9 := by rw [rkW, if_pos (bI_t c)]
    rw [ew] at s18 ⊢
    exact s18
