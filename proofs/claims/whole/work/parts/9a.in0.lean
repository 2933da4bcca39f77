/-! ===== the heap behind the two constructors is that of new objects ===== -/
theorem in0_congr {h h' : Hp} (e1 : ∀ k, k < 2000 → h'.1 k = h.1 k) (e2 : ∀ k i, h'.2 k i = h.2 k i) (a : in0 h) : in0 h' := by
  obtain ⟨a1, a2, a3, a4, a5, a6, a7, a8, a9, a10, b1, b2, b3, b4, b5, b6, b7, b8, b9, b10⟩ := a
  have hp : ∀ i, i < 49 → 1 + (po0 i).1 < 2000 := by decide +kernel
  refine ⟨fun i hi => ?_, ?_, ?_, ?_, fun n hn => ?_, ?_, fun l hl => ⟨?_, fun k hk => ?_⟩, fun r hr => ?_, ?_, ?_, fun i hi => ?_, ?_, ?_, ?_, fun n hn => ?_, ?_, fun l hl => ?_, fun i hi => ?_, fun r hr => ?_, ?_⟩
  · rw [e1 _ (hp i hi)]; exact a1 i hi
  · rw [e1 _ (by decide)]; exact a2
  · rw [e2]; exact a3
  · rw [e2]; exact a4
  · rw [e1 _ (by decide)]; exact a5 n hn
  · rw [e1 _ (by decide)]; exact a6
  · rw [e1 _ (by omega)]; exact (a7 l hl).1
  · rw [e1 _ (by omega)]; exact (a7 l hl).2 k hk
  · rw [e1 _ (by omega)]; exact a8 r hr
  · rw [e1 _ (by decide)]; exact a9
  · rw [e1 _ (by decide)]; exact a10
  · rw [e1 _ (by decide)]; exact b1 i hi
  · rw [e1 _ (by decide)]; exact b2
  · rw [e2]; exact b3
  · rw [e2]; exact b4
  · rw [e1 _ (by decide)]; exact b5 n hn
  · rw [e1 _ (by decide)]; exact b6
  · rw [e1 _ (by decide)]; exact b7 l hl
  · rw [e1 _ (by decide)]; exact b8 i hi
  · rw [e1 _ (by decide)]; exact b9 r hr
  · rw [e1 _ (by decide)]; exact b10
/-- the heap behind the two constructors, but for the script -/
theorem in0_z : in0 (hI hz (IV.drop 0)) := ⟨by decide +kernel, by decide +kernel, by decide +kernel, by decide +kernel, by decide +kernel, by decide +kernel, by decide +kernel, by decide +kernel, by decide +kernel, by decide +kernel, by decide +kernel, by decide +kernel, by decide +kernel, by decide +kernel, by decide +kernel, by decide +kernel, by decide +kernel, by decide +kernel, by decide +kernel, by decide +kernel⟩
theorem in0_S (X : Nat → Int32) (L : Nat) : in0 (hS X L 0) := in0_congr (fun _ hk => hS_lo hk) (fun k i => by rw [hS_2, hI_2]; rfl) in0_z
