/-! ===== the reference: the table of hours' costs, the cost of a plan ===== -/
theorem bmR_ltP (mr : Int32) (fs : Nat → Nat → Int32) (P k : Nat) (h0 : 0 < P) : ∀ n p, n + p ≤ P → bmR mr fs P k n p < P
  | 0, p, _ => by unfold bmR; omega
  | n + 1, p, h => by
    unfold bmR
    split
    · omega
    · exact bmR_ltP mr fs P k h0 n (p + 1) (by omega)
theorem ou0_at (fs : Nat → Nat → Int32) (on : Nat → Bool) (g : Nat → Int32) : ∀ k p, p < k → ou0 fs on g k p = lsT fs on p
  | 0, p, h => by omega
  | k + 1, p, h => by
    unfold ou0 upd
    split
    · next e => rw [e]
    · exact ou0_at fs on g k p (by omega)
theorem shR_g (fs : Nat → Nat → Int32) (on fr : Nat → Bool) (or : Nat → Nat) (P : Nat) (lf : Int32) (g g' : Nat → Int32) (hg : ∀ p, p < P → g p = g' p) : ∀ k, (∀ j, j < k → or j < P) → (shR fs on fr or (lf, g) k).1 = (shR fs on fr or (lf, g') k).1 ∧ ∀ p, p < P → (shR fs on fr or (lf, g) k).2 p = (shR fs on fr or (lf, g') k).2 p
  | 0, _ => ⟨rfl, hg⟩
  | k + 1, ho => by
    obtain ⟨h1, h2⟩ := shR_g fs on fr or P lf g g' hg k (fun j hj => ho j (by omega))
    have hk := ho k (by omega)
    unfold shR shT
    cases on (or k) with
    | false => exact ⟨h1, h2⟩
    | true =>
      refine ⟨?_, fun p hp => ?_⟩
      · show _ - imin _ _ = _ - imin _ _
        rw [h1, h2 _ hk]
      · show upd _ _ _ p = upd _ _ _ p
        unfold upd
        rw [h1, h2 _ hk]
        split
        · rfl
        · exact h2 p hp
theorem shF_g (P : Nat) (mr : Int32) (fs : Nat → Nat → Int32) (dem : Int32) (on fr : Nat → Bool) (g g' : Nat → Int32) (p : Nat) (hp : p < P) : shF P mr fs dem on fr g p = shF P mr fs dem on fr g' p :=
  (shR_g fs on fr (bmF mr fs P) P _ _ _ (fun q hq => by rw [ou0_at fs on g P q hq, ou0_at fs on g' P q hq]) P (fun j _ => bmR_ltP mr fs P j (by omega) P 0 (by omega))).2 p hp
theorem sumI_congr {f g : Nat → Int32} : ∀ n, (∀ k, k < n → f k = g k) → sumI f n = sumI g n
  | 0, _ => rfl
  | n + 1, h => by
    unfold sumI
    rw [sumI_congr n (fun k hk => h k (by omega)), h n (by omega)]
/-- the cost of an hour, whatever stood in the shares -/
def coE (P : Nat) (mr : Int32) (fs : Nat → Nat → Int32) (dem res : Int32) (on fr : Nat → Bool) : Int32 := coF P mr fs dem res on fr (fun _ => 0)
theorem coF_g (P : Nat) (mr : Int32) (fs : Nat → Nat → Int32) (dem res : Int32) (on fr : Nat → Bool) (g : Nat → Int32) : coF P mr fs dem res on fr g = coE P mr fs dem res on fr := by
  unfold coE coF
  split
  · refine sumI_congr P fun k hk => ?_
    unfold coT
    rw [shF_g P mr fs dem on fr g (fun _ => 0) k hk]
  · rfl
theorem ct_costBy' {P t : Nat} (hP : P ≤ 3) (ht : t < 5) (x y : Int32) (h : Hp) (s : Nat → Int32) (hs0 : h.1 114 = s) (hs : s 3 = nI P) : CtI 4 mX11_costBy [.ref 113, .int (nI t), .int x, .int y] h (fun v h' => v = coE P (s 1) (pfS s) (s (4 + t)) (s (9 + t)) (hasB x) (hasB y) ∧ Fr [118] h h') :=
  (ct_costBy hP ht x y h s hs0 hs).mono fun v h' q => ⟨q.1.trans (coF_g _ _ _ _ _ _ _ _), by rw [q.2]; exact Fr.uc (by decide)⟩
/-- a fresh set within a set -/
def subB (st fr : Nat) : Prop := nI fr &&& (nI st ^^^ (-1)) = 0
/-- the entry of the table -/
def enT (s : Nat → Int32) (P t st fr : Nat) : Int32 := coE P (s 1) (pfS s) (s (4 + t)) (s (9 + t)) (hasB (nI st)) (hasB (nI fr))
def tabI (s : Nat → Int32) (P : Nat) (D : Nat → Nat → Nat → Prop) (h : Hp) : Prop := ∀ t st fr, t < 5 → st < 8 → fr < 8 → D t st fr → subB st fr → fr ≤ st → h.1 119 (8 * (8 * t + st) + fr) = enT s P t st fr
theorem ct_laysTable {P H : Nat} (hP : P ≤ 3) (hH : H ≤ 5) (h : Hp) (s : Nat → Int32) (hs0 : h.1 114 = s) (hs : s 3 = nI P) (hs2 : s 0 = nI H) : CtV 5 mX11_laysTable [.ref 113] h (fun h' => Fr [118, 119] h h' ∧ tabI s P (fun t st _ => t < H ∧ st < 2 ^ P) h') := by
  have hpow : 2 ^ P ≤ 8 := by
    have : 2 ^ P ≤ 2 ^ 3 := Nat.pow_le_pow_right (by decide) hP
    omega
  have lh : ∀ n t : Nat, n + t = H → ∀ g : Hp, Fr [118, 119] h g → tabI s P (fun t' st _ => t' < t ∧ st < 2 ^ P) g → GoV 5 mX11_laysTable 2 [(0, .ref 113), (1, .int (nI t))] [] g (fun h' => Fr [118, 119] h h' ∧ tabI s P (fun t st _ => t < H ∧ st < 2 ^ P) h') := by
    intro n
    induction n with
    | zero =>
      intro t ht g hF hT
      have ht : t = H := by omega
      subst ht
      have e114 : g.1 114 = s := (hF.1 114 (by decide)).trans hs0
      refine b_X11_laysTable_2 ⟨fun _ => ⟨hF, hT⟩, fun c => absurd ?_ c⟩
      rw [e114, hs2]
      exact nI_le (by omega) (by omega)
    | succ n ih =>
      intro t ht g hF hT
      have e114 : g.1 114 = s := (hF.1 114 (by decide)).trans hs0
      have ls : ∀ n2 st : Nat, n2 + st = 2 ^ P → ∀ g2 : Hp, Fr [118, 119] h g2 → tabI s P (fun t' st' _ => (t' < t ∧ st' < 2 ^ P) ∨ (t' = t ∧ st' < st)) g2 → GoV 5 mX11_laysTable 14 [(0, .ref 113), (1, .int (nI t)), (2, .int (nI st))] [] g2 (fun h' => Fr [118, 119] h h' ∧ tabI s P (fun t st _ => t < H ∧ st < 2 ^ P) h') := by
        intro n2
        induction n2 with
        | zero =>
          intro st hst g2 hF2 hT2
          have f114 : g2.1 114 = s := (hF2.1 114 (by decide)).trans hs0
          refine b_X11_laysTable_14 ⟨fun _ => ?_, fun c => absurd ?_ c⟩
          · rw [nI_1]
            exact ih (t + 1) (by omega) g2 hF2 (fun t' st' fr a1 a2 a3 a4 a5 a6 => hT2 t' st' fr a1 a2 a3 (by rcases Nat.lt_or_ge t' t with q | q; exact Or.inl ⟨q, a4.2⟩; exact Or.inr ⟨by omega, by omega⟩) a5 a6)
          · rw [f114, hs, shl1 P (by omega)]
            exact nI_le (by omega) (by omega)
        | succ n2 ih2 =>
          intro st hst g2 hF2 hT2
          have f114 : g2.1 114 = s := (hF2.1 114 (by decide)).trans hs0
          have lf : ∀ n3 fr : Nat, n3 + fr = st + 1 → ∀ g3 : Hp, Fr [118, 119] h g3 → tabI s P (fun t' st' fr' => (t' < t ∧ st' < 2 ^ P) ∨ (t' = t ∧ st' < st) ∨ (t' = t ∧ st' = st ∧ fr' < fr)) g3 → GoV 5 mX11_laysTable 28 [(0, .ref 113), (1, .int (nI t)), (2, .int (nI st)), (3, .int (nI fr))] [] g3 (fun h' => Fr [118, 119] h h' ∧ tabI s P (fun t st _ => t < H ∧ st < 2 ^ P) h') := by
            intro n3
            induction n3 with
            | zero =>
              intro fr hfr g3 hF3 hT3
              refine b_X11_laysTable_28 ⟨fun _ => ?_, fun c => absurd ?_ c⟩
              · rw [nI_1]
                exact ih2 (st + 1) (by omega) g3 hF3 (fun t' st' fr' a1 a2 a3 a4 a5 a6 => hT3 t' st' fr' a1 a2 a3 (by rcases a4 with q | q; exact Or.inl q; rcases Nat.lt_or_ge st' st with q2 | q2; exact Or.inr (Or.inl ⟨q.1, q2⟩); exact Or.inr (Or.inr ⟨q.1, by omega, by omega⟩)) a5 a6)
              · exact nI_lt (by omega) (by omega)
            | succ n3 ih3 =>
              intro fr hfr g3 hF3 hT3
              have k114 : g3.1 114 = s := (hF3.1 114 (by decide)).trans hs0
              refine b_X11_laysTable_28 ⟨fun c => absurd c (nI_nlt (by omega) (by omega)), fun _ => ⟨fun c => b_X11_laysTable_64 ?_, fun c => ⟨_, ct_costBy' hP (by omega) _ _ g3 s k114 hs, fun v h4 q => ?_⟩⟩⟩
              · rw [nI_1]
                refine ih3 (fr + 1) (by omega) g3 hF3 (fun t' st' fr' a1 a2 a3 a4 a5 a6 => ?_)
                rcases a4 with q | q | ⟨q1, q2, q3⟩
                · exact hT3 t' st' fr' a1 a2 a3 (Or.inl q) a5 a6
                · exact hT3 t' st' fr' a1 a2 a3 (Or.inr (Or.inl q)) a5 a6
                · rcases Nat.lt_or_ge fr' fr with q4 | q4
                  · exact hT3 t' st' fr' a1 a2 a3 (Or.inr (Or.inr ⟨q1, q2, q4⟩)) a5 a6
                  · have e : fr' = fr := by omega
                    rw [q2, e] at a5
                    exact absurd a5 c
              · obtain ⟨rfl, hF4⟩ := q
                have ex : ((8 : Int32) * ((8 * nI t) + nI st)) + nI fr = nI (8 * (8 * t + st) + fr) := by rw [show (8 : Int32) = nI 8 from rfl, pk_mul, nI_add, pk_mul, nI_add]
                rw [ex]
                refine ⟨vp_in_nI (by omega) (by omega), fun g7 e7 => b_X11_laysTable_64 ?_⟩
                rw [nI_clamp (show 8 * (8 * t + st) + fr < 2 ^ 31 by omega)] at e7
                rw [nI_1]
                refine ih3 (fr + 1) (by omega) g7 ?_ (fun t' st' fr' a1 a2 a3 a4 a5 a6 => ?_)
                · rw [e7]
                  exact (hF3.tr (hF4.mono (by decide))).tr (Fr.ui (by decide))
                · rw [e7, ui_get]
                  by_cases hx : 8 * (8 * t' + st') + fr' = 8 * (8 * t + st) + fr
                  · rw [if_pos ⟨rfl, hx⟩]
                    have h1 : fr' = fr := by omega
                    have h2 : st' = st := by omega
                    have h3 : t' = t := by omega
                    subst h1; subst h2; subst h3
                    rfl
                  · rw [if_neg (fun z => hx z.2), hF4.1 119 (by decide)]
                    refine hT3 t' st' fr' a1 a2 a3 ?_ a5 a6
                    rcases a4 with q | q | ⟨q1, q2, q3⟩
                    · exact Or.inl q
                    · exact Or.inr (Or.inl q)
                    · refine Or.inr (Or.inr ⟨q1, q2, ?_⟩)
                      subst q1; subst q2
                      omega
          refine b_X11_laysTable_14 ⟨fun c => absurd c ?_, fun _ => lf (st + 1) 0 rfl g2 hF2 (fun t' st' fr' a1 a2 a3 a4 a5 a6 => hT2 t' st' fr' a1 a2 a3 (by rcases a4 with q | q | q; exact Or.inl q; exact Or.inr q; omega) a5 a6)⟩
          rw [f114, hs, shl1 P (by omega)]
          exact nI_ge (by omega) (by omega)
      refine b_X11_laysTable_2 ⟨fun c => absurd c ?_, fun _ => ls (2 ^ P) 0 rfl g hF (fun t' st' fr' a1 a2 a3 a4 a5 a6 => hT t' st' fr' a1 a2 a3 (by rcases a4 with q | q; exact q; omega) a5 a6)⟩
      rw [e114, hs2]
      exact nI_ge (by omega) (by omega)
  exact e_X11_laysTable (lh H 0 rfl h Fr.rf (fun t' st fr _ _ _ a4 => by omega))
