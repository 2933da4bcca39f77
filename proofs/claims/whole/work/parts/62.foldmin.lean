/-! ===== the reference's search is the first least ===== -/
def rKey (r : Nat → Nat) : Nat := r 0 * 1024 + r 1 * 32 + r 2
/-- B2 is B or better, the first least of S -/
def fsP (pl : (Nat → Nat) → Int32) (S : (Nat → Nat) → Prop) (B B2 : Bst) : Prop := B2.1 ≤ B.1 ∧ (∀ r, S r → B2.1 ≤ pl r) ∧ (B2 = B ∨ (S B2.2 ∧ pl B2.2 = B2.1 ∧ B2.1 < B.1 ∧ ∀ r, S r → pl r = B2.1 → rKey B2.2 ≤ rKey r))
theorem fsP_nil {pl : (Nat → Nat) → Int32} {S : (Nat → Nat) → Prop} {B : Bst} (h : ∀ r, ¬ S r) : fsP pl S B B := ⟨Int32.le_refl _, fun r hr => absurd hr (h r), Or.inl rfl⟩
theorem fsP_congr {pl : (Nat → Nat) → Int32} {S T : (Nat → Nat) → Prop} {B B2 : Bst} (h : ∀ r, S r ↔ T r) (a : fsP pl S B B2) : fsP pl T B B2 := by
  obtain ⟨a1, a2, a3⟩ := a
  refine ⟨a1, fun r hr => a2 r ((h r).mpr hr), ?_⟩
  rcases a3 with z | ⟨b1, b2, b3, b4⟩
  · exact Or.inl z
  · exact Or.inr ⟨(h _).mp b1, b2, b3, fun r hr => b4 r ((h r).mpr hr)⟩
theorem fsP_join {pl : (Nat → Nat) → Int32} {S T : (Nat → Nat) → Prop} {B B1 B2 : Bst} (a : fsP pl S B B1) (b : fsP pl T B1 B2) (h : ∀ r1 r2, S r1 → T r2 → rKey r1 ≤ rKey r2) : fsP pl (fun r => S r ∨ T r) B B2 := by
  obtain ⟨a1, a2, a3⟩ := a
  obtain ⟨b1, b2, b3⟩ := b
  refine ⟨Int32.le_trans b1 a1, fun r hr => hr.elim (fun z => Int32.le_trans b1 (a2 r z)) (b2 r), ?_⟩
  rcases b3 with z | ⟨c1, c2, c3, c4⟩
  · subst z
    rcases a3 with z | ⟨c1, c2, c3, c4⟩
    · exact Or.inl z
    · exact Or.inr ⟨Or.inl c1, c2, c3, fun r hr e => hr.elim (fun z => c4 r z e) (fun z => h _ _ c1 z)⟩
  · refine Or.inr ⟨Or.inr c1, c2, Int32.lt_of_lt_of_le c3 a1, fun r hr e => hr.elim (fun z => ?_) (fun z => c4 r z e)⟩
    have := Int32.lt_of_lt_of_le c3 (a2 r z)
    rw [e] at this
    exact absurd this Int32.lt_irrefl
theorem rKey_le {p : Nat} (hp : p < 3) {r1 r2 : Nat → Nat} (h1 : ∀ q, r1 q < 32) (h2 : ∀ q, r2 q < 32) (he : ∀ q, q < p → r1 q = r2 q) (hl : r1 p < r2 p) : rKey r1 ≤ rKey r2 := by
  unfold rKey
  have a0 := h1 0
  have a1 := h1 1
  have a2 := h1 2
  have b0 := h2 0
  have b1 := h2 1
  have b2 := h2 2
  match p, hp with
  | 0, _ => omega
  | 1, _ =>
    have := he 0 (by decide)
    omega
  | 2, _ =>
    have := he 0 (by decide)
    have := he 1 (by decide)
    omega
/-- rows of plants p to p + n, the others as in r -/
def rwS (ok : Nat → Nat → Bool) (R n p : Nat) (r r' : Nat → Nat) : Prop := (∀ q, (q < p ∨ p + n ≤ q) → r' q = r q) ∧ ∀ q, p ≤ q → q < p + n → r' q < R ∧ ok q (r' q) = true
theorem rwS_lt {ok : Nat → Nat → Bool} {R n p : Nat} {r r' : Nat → Nat} (hR : R ≤ 32) (hr : ∀ q, r q < 32) (h : rwS ok R n p r r') : ∀ q, r' q < 32 := fun q => by
  by_cases c : q < p ∨ p + n ≤ q
  · rw [h.1 q c]
    exact hr q
  · have := (h.2 q (by omega) (by omega)).1
    omega
theorem foT_spec (ok : Nat → Nat → Bool) (pl : (Nat → Nat) → Int32) {R : Nat} (hR : R ≤ 32) : ∀ n p, n + p ≤ 3 → ∀ r B, (∀ q, r q < 32) → fsP pl (rwS ok R n p r) B (foT ok pl R n p r B)
  | 0, p, _, r, B, hr => by
    have eq : ∀ r', rwS ok R 0 p r r' ↔ r' = r := fun r' => ⟨fun h => funext fun q => h.1 q (by omega), fun h => by subst h; exact ⟨fun _ _ => rfl, fun q a b => by omega⟩⟩
    rw [foT, upB]
    by_cases c : B.1 ≤ pl r
    · rw [if_pos c]
      refine ⟨Int32.le_refl _, fun r' hr' => ?_, Or.inl rfl⟩
      rw [(eq r').mp hr']
      exact c
    · rw [if_neg c]
      have lt := Int32.not_le.mp c
      refine ⟨Int32.le_of_lt lt, fun r' hr' => ?_, Or.inr ⟨(eq r).mpr rfl, rfl, lt, fun r' hr' _ => ?_⟩⟩
      · rw [(eq r').mp hr']
        exact Int32.le_refl _
      · rw [(eq r').mp hr']
        exact Nat.le_refl _
  | n + 1, p, hn, r, B, hr => by
    have inner : ∀ m j B, m + j = R → fsP pl (fun r' => rwS ok R (n + 1) p r r' ∧ j ≤ r' p) B (itN (fun x B => if ok p x then foT ok pl R n (p + 1) (updN r p x) B else B) m j B) := by
      intro m
      induction m with
      | zero =>
        intro j B hj
        refine fsP_nil (fun r' hr' => ?_)
        have := (hr'.1.2 p (Nat.le_refl _) (by omega)).1
        omega
      | succ m ih =>
        intro j B hj
        rw [itN]
        have one : fsP pl (fun r' => rwS ok R (n + 1) p r r' ∧ r' p = j) B (if ok p j then foT ok pl R n (p + 1) (updN r p j) B else B) := by
          cases ho : ok p j with
          | false =>
            rw [if_neg Bool.false_ne_true]
            refine fsP_nil (fun r' hr' => ?_)
            have := (hr'.1.2 p (Nat.le_refl _) (by omega)).2
            rw [hr'.2, ho] at this
            cases this
          | true =>
            rw [if_pos rfl]
            refine fsP_congr (fun r' => ?_) (foT_spec ok pl hR n (p + 1) (by omega) (updN r p j) B (fun q => ?_))
            · constructor
              · intro h
                have hp : r' p = j := by
                  rw [h.1 p (Or.inl (by omega))]
                  exact if_pos rfl
                refine ⟨⟨fun q hq => ?_, fun q h1 h2 => ?_⟩, hp⟩
                · rw [h.1 q (by omega)]
                  exact if_neg (by omega)
                · by_cases c : q = p
                  · rw [c, hp]
                    exact ⟨by omega, ho⟩
                  · exact h.2 q (by omega) (by omega)
              · rintro ⟨h, hp⟩
                refine ⟨fun q hq => ?_, fun q h1 h2 => h.2 q (by omega) (by omega)⟩
                unfold updN
                by_cases c : q = p
                · rw [if_pos c, c, hp]
                · rw [if_neg c]
                  exact h.1 q (by omega)
            · unfold updN
              split
              · omega
              · exact hr q
        refine fsP_congr (fun r' => ?_) (fsP_join one (ih (j + 1) _ (by omega)) (fun r1 r2 h1 h2 => ?_))
        · constructor
          · rintro (⟨h, e⟩ | ⟨h, e⟩)
            · exact ⟨h, by omega⟩
            · exact ⟨h, by omega⟩
          · rintro ⟨h, e⟩
            by_cases c : r' p = j
            · exact Or.inl ⟨h, c⟩
            · exact Or.inr ⟨h, by omega⟩
        · refine rKey_le (p := p) (by omega) (rwS_lt hR hr h1.1) (rwS_lt hR hr h2.1) (fun q hq => ?_) ?_
          · rw [h1.1.1 q (Or.inl hq), h2.1.1 q (Or.inl hq)]
          · have := h1.2
            have := h2.2
            omega
    rw [foT]
    exact fsP_congr (fun r' => ⟨fun h => h.1, fun h => ⟨h, Nat.zero_le _⟩⟩) (inner R 0 B rfl)
