/-! ===== the reference: rows of a plant laid ===== -/
/-- what isn't in X stays -/
def Fr (X : List Nat) (h h' : Hp) : Prop := (∀ k, k ∉ X → h'.1 k = h.1 k) ∧ h'.2 = h.2
theorem Fr.rf {X : List Nat} {h : Hp} : Fr X h h := ⟨fun _ _ => rfl, rfl⟩
theorem Fr.tr {X : List Nat} {h h1 h2 : Hp} (a : Fr X h h1) (b : Fr X h1 h2) : Fr X h h2 := ⟨fun k hk => (b.1 k hk).trans (a.1 k hk), b.2.trans a.2⟩
theorem Fr.ui {X : List Nat} {h : Hp} {k j : Nat} {v : Int32} (hk : k ∈ X) : Fr X h (ui h k j v) := ⟨fun a ha => u2_ne (fun e => ha (e ▸ hk)), rfl⟩
theorem Fr.uc {X : List Nat} {h : Hp} {k : Nat} {f : Nat → Int32} (hk : k ∈ X) : Fr X h (uc h k f) := ⟨fun a ha => uc_ne h f (fun e => ha (e ▸ hk)), rfl⟩
theorem Fr.mono {X Y : List Nat} {h h1 : Hp} (a : Fr X h h1) (hxy : ∀ k, k ∈ X → k ∈ Y) : Fr Y h h1 := ⟨fun k hk => a.1 k (fun q => hk (hxy k q)), a.2⟩
theorem ui_get (h : Hp) (k i : Nat) (v : Int32) (a j : Nat) : (ui h k i v).1 a j = if a = k ∧ j = i then v else h.1 a j := by
  by_cases ha : a = k
  · subst ha
    by_cases hj : j = i <;> simp [ui, u2, hj]
  · simp [ui, u2, ha]
theorem ui_ne {h : Hp} {k i : Nat} {v : Int32} {a : Nat} (ha : a ≠ k) : (ui h k i v).1 a = h.1 a := u2_ne ha
theorem ui_nj {h : Hp} {k i : Nat} {v : Int32} {a j : Nat} (hj : j ≠ i) : (ui h k i v).1 a j = h.1 a j := by rw [ui_get, if_neg (fun q => hj q.2)]
theorem ui_aa (h : Hp) (k i : Nat) (v : Int32) : (ui h k i v).1 k i = v := by rw [ui_get, if_pos ⟨rfl, rfl⟩]
theorem shl1 : ∀ k, k < 8 → (1 : Int32) <<< (nI k &&& 31) = nI (2 ^ k) := by decide +kernel
theorem pow_le {H : Nat} (hH : H ≤ 5) : 2 ^ H ≤ 32 := by
  have : 2 ^ H ≤ 2 ^ 5 := Nat.pow_le_pow_right (by decide) hH
  omega
/-- the number whose bits below n are g's -/
def bitsN (g : Nat → Bool) : Nat → Nat
  | 0 => 0
  | t + 1 => bitsN g t + (if g t then 2 ^ t else 0)
theorem bitsN_lt (g : Nat → Bool) : ∀ t, bitsN g t < 2 ^ t
  | 0 => by show 0 < 1; decide
  | t + 1 => by
    have := bitsN_lt g t
    unfold bitsN
    rw [Nat.pow_succ]
    split <;> omega
theorem or_bit : ∀ t, t < 5 → ∀ a, a < 2 ^ t → nI a ||| nI (2 ^ t) = nI (a + 2 ^ t) := by decide +kernel
theorem bitsN_or {g : Nat → Bool} {t : Nat} (ht : t < 5) : (if g t then nI (bitsN g t) ||| ((1 : Int32) <<< (nI t &&& 31)) else nI (bitsN g t)) = nI (bitsN g (t + 1)) := by
  rw [shl1 t (by omega), or_bit t ht _ (bitsN_lt g t), bitsN]
  split <;> rfl
theorem bitsN_tb : ∀ (g : Nat → Bool) (n t : Nat), t < n → (bitsN g n).testBit t = g t
  | g, 0, t, h => by omega
  | g, n + 1, t, h => by
    have hl := bitsN_lt g n
    unfold bitsN
    cases hg : g n with
    | false =>
      rw [if_neg (by decide), Nat.add_zero]
      rcases Nat.lt_or_ge t n with q | q
      · exact bitsN_tb g n t q
      · rw [show t = n by omega, Nat.testBit_lt_two_pow hl, hg]
    | true =>
      rw [if_pos rfl, Nat.add_comm]
      rcases Nat.lt_or_ge t n with q | q
      · rw [Nat.testBit_two_pow_add_gt q]
        exact bitsN_tb g n t q
      · rw [show t = n by omega, Nat.testBit_two_pow_add_eq, Nat.testBit_lt_two_pow hl, hg]
        rfl
theorem hasB_bits {g : Nat → Bool} {n t : Nat} (hn : n ≤ 5) (ht : t < n) : hasB (nI (bitsN g n)) t = g t := by
  have h1 := bitsN_lt g n
  have h2 := pow_le hn
  rw [hasB_tb _ (by omega) t (by omega), bitsN_tb g n t ht]
/-- it goes on in hour t -/
def frS (f : Nat → Int32) (b : Nat → Bool) (t : Nat) : Bool := b t && decide (agS (f 9) b t < 0)
/-- what its starts cost, hour by hour -/
def ssT (f : Nat → Int32) (b : Nat → Bool) (t : Nat) : Int32 := if frS f b t then stS (f 0) (f 1) (f 6) (-(agS (f 9) b t)) else 0
def okS (s : Nat → Int32) (ab H p r : Nat) : Bool := if hasB (nI ab) p then decide (r = 0) else lawS (pfS s p) (hasB (nI r)) H
def rowOK (s : Nat → Int32) (ab H p r : Nat) (h : Hp) : Prop := h.1 120 (32 * p + r) = bI (okS s ab H p r) ∧ h.1 121 (32 * p + r) = nI (bitsN (frS (pfS s p) (hasB (nI r))) H) ∧ h.1 122 (32 * p + r) = sumI (ssT (pfS s p) (hasB (nI r))) H
/-- the rows of p below r are laid, nothing else -/
def rowsI (s : Nat → Int32) (ab H p : Nat) (h0 : Hp) (r : Nat) (h : Hp) : Prop := Fr [120, 121, 122] h0 h ∧ (∀ a j, (j < 32 * p ∨ 32 * p + 32 ≤ j) → h.1 a j = h0.1 a j) ∧ ∀ r', r' < r → rowOK s ab H p r' h
theorem ix_row (p r : Nat) : ((32 : Int32) * nI p) + nI r = nI (32 * p + r) := by
  rw [show (32 : Int32) = nI 32 from rfl, pk_mul, nI_add]
theorem rowsI.step {s : Nat → Int32} {ab H p : Nat} {h0 h g : Hp} {r : Nat} (hr : r < 32) (hI : rowsI s ab H p h0 r h) (hF : Fr [120, 121, 122] h g) (ho : ∀ a j, j ≠ 32 * p + r → g.1 a j = h.1 a j) (hk : rowOK s ab H p r g) : rowsI s ab H p h0 (r + 1) g := by
  refine ⟨hI.1.tr hF, fun a j hj => (ho a j (by omega)).trans (hI.2.1 a j hj), fun r' hr' => ?_⟩
  rcases Nat.lt_or_ge r' r with q | q
  · obtain ⟨k1, k2, k3⟩ := hI.2.2 r' q
    exact ⟨by rw [ho _ _ (by omega)]; exact k1, by rw [ho _ _ (by omega)]; exact k2, by rw [ho _ _ (by omega)]; exact k3⟩
  · rw [show r' = r by omega]
    exact hk
/-- inside row r, ahead of hour t -/
def rowIn (s : Nat → Int32) (ab H p : Nat) (h0 : Hp) (r t : Nat) (h : Hp) : Prop := Fr [120, 121, 122] h0 h ∧ (∀ a j, j ≠ 32 * p + r → h.1 a j = h0.1 a j) ∧ h.1 120 (32 * p + r) = bI (okS s ab H p r) ∧ h.1 121 (32 * p + r) = nI (bitsN (frS (pfS s p) (hasB (nI r))) t) ∧ h.1 122 (32 * p + r) = sumI (ssT (pfS s p) (hasB (nI r))) t
theorem i32_lt0 {a : Int32} : ¬ 0 ≤ a ↔ a < 0 := Int32.not_le
theorem ct_laysRows {p H ab : Nat} (hp : p < 3) (hH : H ≤ 5) (h : Hp) (s : Nat → Int32) (hs0 : h.1 114 = s) (hs : s 0 = nI H) (hab : h.1 113 8 = nI ab) : CtV 3 mX11_laysRows [.ref 113, .int (nI p)] h (fun h' => rowsI s ab H p h (2 ^ H) h') := by
  have hpow := pow_le hH
  -- the rows, from r on
  have outer : ∀ n r : Nat, n + r = 2 ^ H → ∀ g : Hp, rowsI s ab H p h r g → GoV 3 mX11_laysRows 2 [(0, .ref 113), (1, .int (nI p)), (2, .int (nI r))] [] g (fun h' => rowsI s ab H p h (2 ^ H) h') := by
    intro n
    induction n with
    | zero =>
      intro r hr g hI
      have hr : r = 2 ^ H := by omega
      subst hr
      have e114 : g.1 114 = s := (hI.1.1 114 (by decide)).trans hs0
      refine b_X11_laysRows_2 ⟨fun _ => hI, fun c => absurd ?_ c⟩
      rw [e114, hs, shl1 H (by omega)]
      exact nI_le (Nat.le_refl _) (by omega)
    | succ n ih =>
      intro r hr g hI
      have e114 : g.1 114 = s := (hI.1.1 114 (by decide)).trans hs0
      have e113 : g.1 113 = h.1 113 := hI.1.1 113 (by decide)
      have vin : vp_in (nI (32 * p + r)) 96 := vp_in_nI (by omega) (by omega)
      have cl : (nI (32 * p + r)).toNatClampNeg = 32 * p + r := nI_clamp (by omega)
      -- the hours, from t on
      have hours : ∀ m t : Nat, m + t = H → ∀ g2 : Hp, rowIn s ab H p g r t g2 → GoV 3 mX11_laysRows 82 [(0, .ref 113), (1, .int (nI p)), (2, .int (nI r)), (3, .int (nI (32 * p + r))), (4, .int (agS (pfS s p 9) (hasB (nI r)) t)), (5, .int (nI t))] [] g2 (fun h' => rowsI s ab H p h (2 ^ H) h') := by
        intro m
        induction m with
        | zero =>
          intro t ht g2 hJ
          have ht : t = H := by omega
          subst ht
          have f114 : g2.1 114 = s := (hJ.1.1 114 (by decide)).trans e114
          refine b_X11_laysRows_82 ⟨fun _ => ?_, fun c => absurd ?_ c⟩
          · rw [nI_1]
            exact ih (r + 1) (by omega) g2 (hI.step (by omega) hJ.1 hJ.2.1 hJ.2.2)
          · rw [f114, hs]
            exact nI_le (by omega) (by omega)
        | succ m ihm =>
          intro t ht g2 hJ
          have f114 : g2.1 114 = s := (hJ.1.1 114 (by decide)).trans e114
          have tail : ∀ g3 : Hp, rowIn s ab H p g r (t + 1) g3 → GoV 3 mX11_laysRows 137 [(0, .ref 113), (1, .int (nI p)), (2, .int (nI r)), (3, .int (nI (32 * p + r))), (4, .int (agS (pfS s p 9) (hasB (nI r)) t)), (5, .int (nI t))] [] g3 (fun h' => rowsI s ab H p h (2 ^ H) h') := fun g3 hJ3 =>
            b_X11_laysRows_137 (pc (ct_has _ t _) (pc (ct_goesOn _ _ _) (by rw [nI_1]; exact ihm (t + 1) (by omega) g3 hJ3)))
          have keep : frS (pfS s p) (hasB (nI r)) t = false → rowIn s ab H p g r (t + 1) g2 := fun hf => by
            refine ⟨hJ.1, hJ.2.1, hJ.2.2.1, ?_, ?_⟩
            · rw [hJ.2.2.2.1, bitsN, hf]
              rfl
            · rw [hJ.2.2.2.2, sumI, ssT, hf]
              exact (i32_add0 _).symm
          refine b_X11_laysRows_82 ⟨fun c => absurd c ?_, fun _ => ⟨fun c => tail g2 (keep ?_), fun c => pc (ct_has _ t _) ⟨fun c2 => tail g2 (keep ?_), fun c2 => ⟨vin, vin, fun g3 e3 => ⟨vin, pc (ct_startsOf hp _ g3) ⟨vin, fun g4 e4 => tail g4 ?_⟩⟩⟩⟩⟩⟩
          · rw [f114, hs]
            exact nI_ge (by omega) (by omega)
          · rw [frS, decide_eq_false (i32_nlt.mpr c), Bool.and_false]
          · rw [bI_0] at c2
            rw [frS, c2, Bool.false_and]
          · rw [bI_0, Bool.not_eq_false] at c2
            have hf : frS (pfS s p) (hasB (nI r)) t = true := by rw [frS, c2, decide_eq_true (i32_lt0.mp c)]; rfl
            rw [cl] at e3 e4
            have g114 : g3.1 114 = s := by rw [e3, ui_ne (by decide)]; exact f114
            rw [g114] at e4
            subst e3
            subst e4
            refine ⟨(hJ.1.tr (Fr.ui (by decide))).tr (Fr.ui (by decide)), fun a j hj => ?_, ?_, ?_, ?_⟩
            · rw [ui_nj hj, ui_nj hj]
              exact hJ.2.1 a j hj
            · rw [ui_ne (by decide), ui_ne (by decide)]
              exact hJ.2.2.1
            · rw [ui_ne (by decide), ui_aa, hJ.2.2.2.1]
              have := bitsN_or (g := frS (pfS s p) (hasB (nI r))) (t := t) (by omega)
              rw [if_pos hf] at this
              exact this
            · rw [ui_aa, ui_ne (by decide), hJ.2.2.2.2, sumI, ssT, if_pos hf]
      have begin : ∀ z : Bool, z = okS s ab H p r → GoV 3 mX11_laysRows 55 [(0, .ref 113), (1, .int (nI p)), (2, .int (nI r)), (3, .int (nI (32 * p + r)))] [.int (bI z), .int (nI (32 * p + r)), .ref 120] g (fun h' => rowsI s ab H p h (2 ^ H) h') := by
        intro z hz
        refine b_X11_laysRows_55 ⟨vin, bI_and z, fun g3 e3 => ⟨vin, fun g5 e5 => ⟨vin, fun g7 e7 => ?_⟩⟩⟩
        rw [cl] at e3 e5 e7
        have hFr : Fr [120, 121, 122] g g7 := by
          rw [e7, e5, e3]
          exact ((Fr.ui (by decide)).tr (Fr.ui (by decide))).tr (Fr.ui (by decide))
        have f114 : g7.1 114 = s := (hFr.1 114 (by decide)).trans e114
        have hof := ct_of1 (p := p) (w := 9) hp (by omega) g7
        rw [f114] at hof
        refine pc hof (hours H 0 rfl g7 ⟨hFr, fun a j hj => ?_, ?_, ?_, ?_⟩)
        · rw [e7, e5, e3, ui_nj hj, ui_nj hj, ui_nj hj]
        · rw [e7, e5, e3, ui_ne (by decide), ui_ne (by decide), ui_aa, hz]
        · rw [e7, e5, ui_ne (by decide), ui_aa]
          rfl
        · rw [e7, ui_aa]
          rfl
      have hlaw := ct_isLawful hp hH (nI r) g (by rw [e114]; exact hs)
      rw [e114] at hlaw
      refine b_X11_laysRows_2 ⟨fun c => absurd c ?_, fun _ => pc (by rw [e113, hab]; exact ct_has _ p _) ⟨fun c => pc hlaw ?_, fun c => ⟨fun c2 => ?_, fun c2 => ?_⟩⟩⟩
      · rw [e114, hs, shl1 H (by omega)]
        exact nI_ge (by omega) (by omega)
      · rw [bI_0] at c
        rw [ix_row]
        exact begin _ (by rw [okS, c]; rfl)
      · rw [bI_0, Bool.not_eq_false] at c
        rw [ix_row]
        have hr0 : ¬ r = 0 := fun e => c2 (by rw [e]; rfl)
        exact begin false (by rw [okS, c, if_pos rfl, decide_eq_false hr0])
      · rw [bI_0, Bool.not_eq_false] at c
        rw [ix_row]
        have hr0 : r = 0 := (nI_eq (b := 0) (by omega) (by omega)).mp c2
        exact begin true (by rw [okS, c, if_pos rfl, decide_eq_true hr0])
  exact e_X11_laysRows (outer (2 ^ H) 0 rfl h ⟨Fr.rf, fun _ _ _ => rfl, fun r' hr' => by omega⟩)
