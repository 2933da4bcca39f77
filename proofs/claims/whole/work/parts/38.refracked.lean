/-! ===== the reference: racked ===== -/
def rwV (kd sz : Nat → Int32) (r : Nat) (i : Int32) : Int32 := if kd r = -9 then -11 else if inR i 0 (sz r - 1) then 0 else -13
theorem ct_rackWrong {r : Nat} (hr : r < 3) (i : Int32) (h : Hp) : CtI 1 mX11_rackWrong [.ref 113, .int (nI r), .int i] h (pq (rwV (h.1 131) (h.1 132) r i) h) := by
  refine e_X11_rackWrong ⟨vp_in_nI (by omega) (by omega), ?_⟩
  rw [nI_clamp (show r < 2 ^ 31 by omega)]
  refine ⟨fun c => ⟨vp_in_nI (by omega) (by omega), pc (ct_isInI i 0 (h.1 132 r - 1) h) ⟨fun c2 => ⟨?_, rfl⟩, fun c2 => ⟨?_, rfl⟩⟩⟩, fun c => ⟨?_, rfl⟩⟩
  · rw [rwV, if_neg c, if_neg (by rw [bI_0.mp c2]; decide)]
  · rw [rwV, if_neg c, if_pos (bI_t c2)]
  · rw [rwV, if_pos c]
/-- racks as they may be -/
def okR (kd sz : Nat → Int32) : Prop := ∀ r, r < 3 → kd r = -9 ∨ ∃ k, k ≤ 9 ∧ sz r = nI k
theorem rwV_0 {kd sz : Nat → Int32} (ok : okR kd sz) {r : Nat} (hr : r < 3) {i : Int32} (c : rwV kd sz r i = 0) : ∃ j : Nat, i = nI j ∧ j < 9 := by
  unfold rwV at c
  by_cases c1 : kd r = -9
  · rw [if_pos c1] at c
    exact absurd c (by decide)
  · rw [if_neg c1] at c
    by_cases c2 : inR i 0 (sz r - 1) = true
    · rcases ok r hr with z | ⟨k, hk, z⟩
      · exact absurd z c1
      · obtain ⟨j, e, hj⟩ := inR_nIw (show k ≤ 20 by omega) (by rw [← z]; exact c2)
        exact ⟨j, e, by omega⟩
    · rw [if_neg c2] at c
      exact absurd c (by decide)
