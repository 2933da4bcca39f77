/-! ===== both objects new ===== -/
/-- the row of a new object -/
def s00 (i : Nat) : Int32 := if i = 0 then 4 else if i = 2 then 1 else 0
/-- what the heap is once both objects are made -/
def in0 (h : Hp) : Prop := (∀ i, i < 49 → h.1 (1 + (po0 i).1) (po0 i).2 = s00 i) ∧ h.1 0 3 = 0 ∧ h.2 1 8 = 0 ∧ h.2 17 8 = 0 ∧ (∀ n, n < 7 → h.1 68 n = 0) ∧ h.1 25 1 = 0 ∧ (∀ l, l < 4 → h.1 (69 + 2 * l) 1 = -1 ∧ ∀ k, k < 20 → h.1 (70 + 2 * l) k = 0) ∧ (∀ r, r < 3 → h.1 (77 + 12 * r) 3 = -1) ∧ h.1 38 11 = nI 57 ∧ h.1 38 12 = nI 58 ∧ (∀ i, i < 49 → h.1 114 i = s00 i) ∧ h.1 113 3 = 0 ∧ h.2 113 4 = 0 ∧ h.2 113 5 = 0 ∧ (∀ n, n < 7 → h.1 117 n = 0) ∧ h.1 113 26 = 0 ∧ (∀ l, l < 4 → h.1 129 l = -9) ∧ (∀ i, i < 80 → h.1 130 i = 0) ∧ (∀ r, r < 3 → h.1 131 r = -9) ∧ h.1 113 8 = 0
theorem InS_00 : InS s00 := by
  have eH : nH s00 = 4 := by decide
  have eP : nP s00 = 0 := by decide
  refine ⟨⟨by omega, by omega, by rw [eH]; decide, by rw [eP]; decide⟩, fun t ht => ?_, ⟨0, by decide, by decide⟩, ⟨1, by decide, by decide⟩, fun p hp => by omega, by omega⟩
  have z : ∀ j, j < 30 → 4 ≤ j → s00 j = nI 0 := by decide
  exact ⟨⟨0, by decide, z _ (by omega) (by omega)⟩, ⟨0, by decide, z _ (by omega) (by omega)⟩, 0, by decide, z _ (by omega) (by omega)⟩
theorem jn0 {h : Hp} (a : in0 h) : Jn h := by
  obtain ⟨a1, a2, a3, a4, a5, a6, a7, a8, a9, a10, b1, b2, b3, b4, b5, b6, b7, b8, b9, b10⟩ := a
  refine ⟨mkG (h.1 114) (h.1 116) (h.1 129) (h.1 130) (h.1 131) (h.1 132) (h.1 133) (h.1 134) (h.1 117) 0 0 0 0, ⟨⟨fun i hi => ?_, a2, fun y => absurd rfl y, a3, a4, fun n hn => ?_, a6, fun k hk => absurd hk (Nat.not_lt_zero k), fun l hl => ⟨?_, fun k hk => ?_⟩, fun r hr => Or.inl ⟨b9 r hr, a8 r hr⟩⟩, 56, 57, Or.inl ⟨rfl, rfl⟩, a9, a10⟩, ⟨rfl, fun _ _ => rfl, b2, b3, b4, fun _ _ => rfl, b6, rfl, rfl, rfl, rfl, rfl, rfl, b10⟩, InS_ext InS_00 b1, fun y => absurd rfl y, fun l hl => Or.inl (b7 l hl), Nat.zero_le _⟩
  · show _ = h.1 114 i
    rw [a1 i hi, b1 i hi]
  · show _ = h.1 117 n
    rw [a5 n hn, b5 n hn]
  · show _ = if h.1 129 l = -9 then (-1 : Int32) else h.1 129 l
    rw [if_pos (b7 l hl)]
    exact (a7 l hl).1
  · show _ = h.1 130 (20 * l + k)
    rw [(a7 l hl).2 k hk, b8 _ (by omega)]
/-- the law answers 1 from there -/
theorem lw_first {N : Nat} (hN : N < 2 ^ 31) {h : Hp} (a : in0 h) (e : h.1 2001 0 = nI N) : GoI 10 mL_law 18 (lwL (nI 0)) [] h (fun v _ => v = 1) := lw_loop hN (N + 1) 0 (by omega) (by omega) h (jn0 a) e
