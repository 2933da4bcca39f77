/-! ===== the class: plans mended ===== -/
theorem xo_8 : ∀ x, x < 8 → ∀ y, y < 8 → nI x ^^^ nI y = nI (x ^^^ y) ∧ x ^^^ y < 8 := by decide +kernel
theorem un_fin : ∀ P, P < 4 → ∀ x, x < 2 ^ P → ∀ y, y < 2 ^ P → nI (pcN (x ^^^ y) 3) = sumI (fun p => if hasB (nI x) p = hasB (nI y) p then 0 else 1) P := by decide +kernel
theorem sumI_c {g g' : Nat → Int32} : ∀ n, (∀ p, p < n → g p = g' p) → sumI g n = sumI g' n
  | 0, _ => rfl
  | n + 1, h => by
    rw [sumI, sumI, sumI_c n (fun p hp => h p (by omega)), h n (by omega)]
theorem un_pc {s w : Nat → Int32} {t x : Nat} (hP : nP s ≤ 3) (hx : x < 2 ^ nP s) : nI (pcN (x ^^^ bitsN (fun p => hasB (w p) t) (nP s)) 3) = unV s w t (nI x) := by
  rw [un_fin (nP s) (by omega) x hx _ (bitsN_lt _ _)]
  refine sumI_c _ (fun p hp => ?_)
  rw [hasB_bits (by omega) hp]
/-- a set chosen may be gone through -/
def meI (s a : Nat → Int32) (t : Nat) (b : Int32 × Int32 × Int32) : Prop := b.1 = -9 ∨ ∃ x : Nat, x < 2 ^ nP s ∧ b.1 = nI x ∧ okT s a t (nI x) = true
theorem td_far {s : Nat → Int32} (i : InS s) {a : Nat → Int32} (ha : ∀ p, p < nP s → aR 9 (a p)) {t : Nat} (ht : t < 5) {x : Int32} (h : okT s a t x = true) : ∃ v : Nat, v ≤ 2010 ∧ tdC s a t x = nI v := by
  have hc : cnP s (s (4 + t)) (s (9 + t)) x (frN s a x) = true := by
    unfold okT at h
    cases y : cnP s (s (4 + t)) (s (9 + t)) x (frN s a x)
    · rw [y, Bool.and_false] at h
      exact absurd h (by decide)
    · rfl
  obtain ⟨v, w, hv, hw, -, -, e⟩ := tdC_b (by decide) i ha ht hc
  exact ⟨v + w, by omega, e⟩
theorem me_step {s : Nat → Int32} (i : InS s) {a w : Nat → Int32} (ha : ∀ p, p < nP s → aR 9 (a p)) {t : Nat} (ht : t < 5) {x : Nat} (hx : x < 2 ^ nP s) {b : Int32 × Int32 × Int32} (I : meI s a t b) : meI s a t (meT s a w t x b) := by
  unfold meT
  rw [mcV_eq (by decide) i ha ht]
  by_cases c : okT s a t (nI x) = true
  · rw [if_pos c]
    split
    · exact I
    · split
      · exact Or.inr ⟨x, hx, rfl, c⟩
      · exact I
  · rw [if_neg c, if_pos (Int32.le_refl _)]
    exact I
theorem me_it {s : Nat → Int32} (i : InS s) {a w : Nat → Int32} (ha : ∀ p, p < nP s → aR 9 (a p)) {t : Nat} (ht : t < 5) : ∀ n j (b : Int32 × Int32 × Int32), j + n ≤ 2 ^ nP s → meI s a t b → meI s a t (itN (meT s a w t) n j b)
  | 0, _, _, _, I => I
  | n + 1, j, b, hj, I => me_it i ha ht n (j + 1) _ (by omega) (me_step i ha ht (by omega) I)
theorem me_ok {s : Nat → Int32} (i : InS s) {a w : Nat → Int32} (ha : ∀ p, p < nP s → aR 9 (a p)) {t : Nat} (ht : t < 5) : meV s a w t = -9 ∨ ∃ x : Nat, x < 2 ^ nP s ∧ meV s a w t = nI x ∧ okT s a t (nI x) = true := me_it i ha ht (2 ^ nP s) 0 (-9, 0, 0) (by omega) (Or.inl rfl)
theorem wk_fr {s a : Nat → Int32} {X : List Nat} {h g : Hp} (k : wkI s a h) (f : Fr X h g) (hx : ∀ k, k ∈ 37 :: dcs → k ∉ X) : wkI s a g := by
  have m : ∀ k, k ∈ 37 :: dcs → g.1 k = h.1 k := fun k hk => f.1 k (hx k hk)
  unfold wkI dpI at k ⊢
  rw [m 37 (by decide), m 28 (by decide), m 29 (by decide), m 30 (by decide), m 31 (by decide), m 32 (by decide), m 33 (by decide), m 34 (by decide)]
  exact k
set_option maxHeartbeats 1000000 in
theorem ct_nearest {t : Nat} (ht : t < 5) (h : Hp) (s a w : Nat → Int32) (sc : sC 1 s h) (i : InS s) (ha : ∀ p, p < nP s → aR 9 (a p)) (wk : wkI s a h) : CtI 4 mX4_nearest [.ref 64, .int (nI t), .int (nI (bitsN (fun p => hasB (w p) t) (nP s)))] h (fun v g => v = meV s a w t ∧ Fr [35] h g) := by
  have hP := i.o.hP
  have hpow : 2 ^ nP s ≤ 8 := Nat.pow_le_pow_right (n := 2) (by decide) hP
  have lp : ∀ n x : Nat, n + x = 2 ^ nP s → ∀ (b : Int32 × Int32 × Int32) (g : Hp), Fr [35] h g → meI s a t b → itN (meT s a w t) n x b = itN (meT s a w t) (2 ^ nP s) 0 (-9, 0, 0) → GoI 4 mX4_nearest 12 [(0, .ref 64), (1, .int (nI t)), (2, .int (nI (bitsN (fun p => hasB (w p) t) (nP s)))), (3, .int b.1), (4, .int b.2.1), (5, .int b.2.2), (6, .int (nI x))] [] g (fun v g => v = meV s a w t ∧ Fr [35] h g) := by
    intro n
    induction n with
    | zero =>
      intro x hx b g f I er
      have hx : x = 2 ^ nP s := by omega
      subst hx
      have eb : b = itN (meT s a w t) (2 ^ nP s) 0 (-9, 0, 0) := er
      refine b_X4_nearest_12 ⟨fun _ => ⟨?_, f⟩, fun c => absurd ?_ c⟩
      · rw [eb]
        rfl
      · rw [(sc.fr f (by decide)).M, i.o.eP, shl1 (nP s) (by omega)]
        exact nI_le (by omega) (by omega)
    | succ n ih =>
      intro x hx b g f I er
      rw [itN] at er
      have I2 := me_step i ha ht (w := w) (x := x) (by omega) I
      have s12 : ∀ (c : Int32 × Int32 × Int32) (g2 : Hp), Fr [35] h g2 → c = meT s a w t x b → GoI 4 mX4_nearest 100 [(0, .ref 64), (1, .int (nI t)), (2, .int (nI (bitsN (fun p => hasB (w p) t) (nP s)))), (3, .int c.1), (4, .int c.2.1), (5, .int c.2.2), (6, .int (nI x))] [] g2 (fun v g => v = meV s a w t ∧ Fr [35] h g) := by
        intro c g2 f2 ec
        refine b_X4_nearest_100 ?_
        rw [nI_1]
        rw [← ec] at er I2
        exact ih (x + 1) (by omega) c g2 f2 I2 er
      refine b_X4_nearest_12 ⟨fun c => absurd c ?_, fun _ => ⟨_, ct_tried (by decide) ht (nI x) g s (sc.fr f (by decide)) i a ha (wk_fr wk f (by decide)), fun v g4 q => ?_⟩⟩
      · rw [(sc.fr f (by decide)).M, i.o.eP, shl1 (nP s) (by omega)]
        exact nI_ge (by omega) (by omega)
      · obtain ⟨q1, q2⟩ := q
        have f4 := f.tr q2
        have yl := bitsN_lt (fun p => hasB (w p) t) (nP s)
        obtain ⟨x1, x2⟩ := xo_8 x (by omega) (bitsN (fun p => hasB (w p) t) (nP s)) (by omega)
        rw [x1]
        refine pc (ct_bitCount8 x2 g4) ?_
        rw [un_pc hP (by omega)]
        have ng := tdV_neg (dm := 99) (rm := 20) (by decide) i ha ht (x := nI x)
        have em : meT s a w t x b = if okT s a t (nI x) then (if b.1 = -9 ∨ unV s w t (nI x) < b.2.1 ∨ (unV s w t (nI x) = b.2.1 ∧ ¬ b.2.2 ≤ v) then (nI x, unV s w t (nI x), v) else b) else b := by
          unfold meT
          rw [mcV_eq (by decide) i ha ht, q1, tdV]
          cases c : okT s a t (nI x)
          · rw [if_neg Bool.false_ne_true, if_neg Bool.false_ne_true, if_pos (Int32.le_refl _)]
          · obtain ⟨k, hk, ek⟩ := td_far i ha ht c
            simp only [if_true]
            rw [if_neg]
            rw [ek, FAR_nI]
            exact nI_ge (by omega) (by omega)
        have bs : b.1 < 0 ↔ b.1 = -9 := by
          rcases I with e | ⟨y, hy, e, -⟩
          · rw [e]
            decide
          · rw [e]
            exact ⟨fun z => absurd z (nI_pos (by omega)), fun z => absurd z (m9_pos (by omega))⟩
        -- the choice
        have s73 : ∀ z : Bool, (z = true ↔ (unV s w t (nI x) < b.2.1 ∨ (unV s w t (nI x) = b.2.1 ∧ ¬ b.2.2 ≤ v))) → GoI 4 mX4_nearest 73 [(0, .ref 64), (1, .int (nI t)), (2, .int (nI (bitsN (fun p => hasB (w p) t) (nP s)))), (3, .int b.1), (4, .int b.2.1), (5, .int b.2.2), (6, .int (nI x)), (7, .int v), (8, .int (unV s w t (nI x)))] [.int (bI z)] g4 (fun v g => v = meV s a w t ∧ Fr [35] h g) := by
          intro z hz
          have no : ∀ e : meT s a w t x b = b, GoI 4 mX4_nearest 100 [(0, .ref 64), (1, .int (nI t)), (2, .int (nI (bitsN (fun p => hasB (w p) t) (nP s)))), (3, .int b.1), (4, .int b.2.1), (5, .int b.2.2), (6, .int (nI x))] [] g4 (fun v g => v = meV s a w t ∧ Fr [35] h g) := fun e => s12 b g4 f4 e.symm
          have yes : ∀ e : meT s a w t x b = (nI x, unV s w t (nI x), v), GoI 4 mX4_nearest 89 [(0, .ref 64), (1, .int (nI t)), (2, .int (nI (bitsN (fun p => hasB (w p) t) (nP s)))), (6, .int (nI x)), (7, .int v), (8, .int (unV s w t (nI x)))] [] g4 (fun v g => v = meV s a w t ∧ Fr [35] h g) := fun e => b_X4_nearest_89 (s12 (nI x, unV s w t (nI x), v) g4 f4 e.symm)
          refine b_X4_nearest_73 ⟨fun c => no ?_, fun c => ⟨fun c2 => yes ?_, fun c2 => ⟨fun c3 => no ?_, fun c3 => yes ?_⟩⟩⟩
          · rw [q1] at c
            rw [em, if_neg (noF (ng.mp c))]
          · have ok : okT s a t (nI x) = true := by
              cases y : okT s a t (nI x)
              · rw [q1] at c
                exact absurd (ng.mpr y) c
              · rfl
            rw [em, if_pos ok, if_pos (Or.inl (bs.mp c2))]
          · have ok : okT s a t (nI x) = true := by
              cases y : okT s a t (nI x)
              · rw [q1] at c
                exact absurd (ng.mpr y) c
              · rfl
            rw [em, if_pos ok, if_neg]
            intro y
            rcases y with y | y
            · exact c2 (bs.mpr y)
            · have := hz.mpr y
              rw [bI_0.mp c3] at this
              exact absurd this (by decide)
          · have ok : okT s a t (nI x) = true := by
              cases y : okT s a t (nI x)
              · rw [q1] at c
                exact absurd (ng.mpr y) c
              · rfl
            rw [em, if_pos ok, if_pos (Or.inr (hz.mp (bI_t c3)))]
        refine ⟨fun c => b_X4_nearest_68 (s73 true ⟨fun _ => Or.inl c, fun _ => rfl⟩), fun c => ⟨fun c2 => b_X4_nearest_72 (s73 false ⟨fun y => absurd y (by decide), fun y => ?_⟩), fun c2 => ⟨fun c3 => b_X4_nearest_72 (s73 false ⟨fun y => absurd y (by decide), fun y => ?_⟩), fun c3 => b_X4_nearest_68 (s73 true ⟨fun _ => Or.inr ⟨c2, c3⟩, fun _ => rfl⟩)⟩⟩⟩
        · rcases y with y | y
          · exact absurd y c
          · exact absurd y.1 c2
        · rcases y with y | y
          · exact absurd y c
          · exact absurd c3 y.2
  exact e_X4_nearest (lp (2 ^ nP s) 0 rfl (-9, 0, 0) h Fr.rf (Or.inl rfl) rfl)
def rpF : List Nat := [28, 29, 30, 31, 32, 33, 34, 35, 37, 65]
set_option maxHeartbeats 1000000 in
theorem ct_repairRun (h : Hp) (s : Nat → Int32) (sc : sC 1 s h) (i : InS s) (e61 : ∀ p, p < nP s → h.1 61 p = awV s p) : CtI 5 mX4_run [.ref 64] h (fun v g => v = (rpV s).1 ∧ Fr rpF h g ∧ (v = -9 ∨ 0 ≤ v) ∧ (¬ v = -9 → ∀ p, p < nP s → g.1 65 p = (rpV s).2 p)) := by
  have hP := i.o.hP
  have hH := i.o.hH
  have l2 : ∀ n t : Nat, n + t = nH s → ∀ (c : Nat) (a m : Nat → Int32) (g : Hp), c ≤ 2010 * t → Fr rpF h g → wkI s a g → (∀ p, p < nP s → aR (4 + t) (a p)) → (∀ p, p < nP s → g.1 65 p = m p) → rpR s (awV s) n t (nI c) a m = rpV s → GoI 5 mX4_run 19 [(0, .ref 64), (1, .int (nI c)), (2, .int (nI t))] [] g (fun v g => v = (rpV s).1 ∧ Fr rpF h g ∧ (v = -9 ∨ 0 ≤ v) ∧ (¬ v = -9 → ∀ p, p < nP s → g.1 65 p = (rpV s).2 p)) := by
    intro n
    induction n with
    | zero =>
      intro t ht c a m g hc f wk ar e65 er
      have sg := sc.fr f (by decide)
      rw [rpR] at er
      refine b_X4_run_19 ⟨fun _ => ?_, fun y => absurd ?_ y⟩
      · rw [← er]
        exact ⟨rfl, f, Or.inr (nI_pos' (by omega)), fun _ => e65⟩
      · rw [sg.H, i.o.eH]
        exact nI_le (by omega) (by omega)
    | succ n ih =>
      intro t ht c a m g hc f wk ar e65 er
      have sg := sc.fr f (by decide)
      have a9 : ∀ p, p < nP s → aR 9 (a p) := fun p hp => (ar p hp).mono (by omega)
      rw [rpR] at er
      refine b_X4_run_19 ⟨fun y => absurd y ?_, fun _ => ?_⟩
      · rw [sg.H, i.o.eH]
        exact nI_ge (by omega) (by omega)
      · have inn : ∀ q p : Nat, q + p = nP s → GoI 5 mX4_run 35 [(0, .ref 64), (1, .int (nI c)), (2, .int (nI t)), (3, .int (nI (bitsN (fun p => hasB (awV s p) t) p))), (4, .int (nI p))] [] g (fun v g => v = (rpV s).1 ∧ Fr rpF h g ∧ (v = -9 ∨ 0 ≤ v) ∧ (¬ v = -9 → ∀ p, p < nP s → g.1 65 p = (rpV s).2 p)) := by
          intro q
          induction q with
          | zero =>
            intro p hp
            have hp : p = nP s := by omega
            subst hp
            refine b_X4_run_35 ⟨fun _ => ⟨_, ct_nearest (by omega) g s a (awV s) sg i a9 wk, fun v h4 r => ?_⟩, fun y => absurd ?_ y⟩
            · obtain ⟨r1, r2⟩ := r
              have f4 : Fr rpF h h4 := f.tr (r2.mono (by decide))
              rcases me_ok i (w := awV s) a9 (show t < 5 by omega) with z | ⟨x, hx, ex, ok⟩
              · rw [if_pos z] at er
                rw [r1, z]
                refine ⟨fun y => absurd y (by decide), fun _ => ⟨?_, f4, Or.inl rfl, fun y => absurd rfl y⟩⟩
                rw [← er]
              · have n9 : ¬ meV s a (awV s) t = -9 := by
                  rw [ex]
                  have : 2 ^ nP s ≤ 8 := Nat.pow_le_pow_right (n := 2) (by decide) hP
                  exact m9_pos (by omega)
                have x31 : x < 2 ^ 31 := by
                  have : 2 ^ nP s ≤ 8 := Nat.pow_le_pow_right (n := 2) (by decide) hP
                  omega
                rw [if_neg n9, ex] at er
                rw [r1, ex]
                refine ⟨fun _ => ⟨_, ct_pass (by decide) (by omega) (nI x) h4 s (sc.fr f4 (by decide)) i a a9 (wk_fr wk r2 (by decide)), fun v8 h9 pq9 => ?_⟩, fun y => absurd (nI_pos' x31) y⟩
                obtain ⟨p1, p2, p3, -⟩ := pq9
                have f9 : Fr rpF h h9 := f4.tr (p2.mono (by decide))
                obtain ⟨k, hk, ek⟩ := td_far i a9 (show t < 5 by omega) ok
                have ev : v8 = nI k := by rw [p1, tdV, if_pos ok, ek]
                have ew : wmV s a t (nI x) = nI k := by
                  rw [wmV_eq (by decide) i a9 (by omega), if_pos, ek]
                  unfold okT at ok
                  cases y : cnP s (s (4 + t)) (s (9 + t)) (nI x) (frN s a (nI x))
                  · rw [y, Bool.and_false] at ok
                    exact absurd ok (by decide)
                  · rfl
                rw [ew, nI_add] at er
                rw [ev, nI_add]
                have l3 : ∀ q p : Nat, q + p = nP s → ∀ g2 : Hp, Fr rpF h g2 → wkI s (goX a (nI x)) g2 → (∀ j, j < nP s → g2.1 65 j = if j < p then moX m (nI x) t j else m j) → GoI 5 mX4_run 105 [(0, .ref 64), (1, .int (nI (c + k))), (2, .int (nI t)), (4, .int (nI x)), (5, .int (nI p))] [] g2 (fun v g => v = (rpV s).1 ∧ Fr rpF h g ∧ (v = -9 ∨ 0 ≤ v) ∧ (¬ v = -9 → ∀ p, p < nP s → g.1 65 p = (rpV s).2 p)) := by
                  intro q
                  induction q with
                  | zero =>
                    intro p hp g2 f2 wk2 e2
                    have hp : p = nP s := by omega
                    subst hp
                    refine b_X4_run_105 ⟨fun _ => ?_, fun y => absurd ?_ y⟩
                    · rw [nI_1]
                      exact ih (t + 1) (by omega) (c + k) _ _ g2 (by omega) f2 wk2 (fun p hp => aR_go (by omega) (ar p hp) _) (fun j hj => by rw [e2 j hj, if_pos hj]) er
                    · rw [(sc.fr f2 (by decide)).M, i.o.eP]
                      exact nI_le (by omega) (by omega)
                  | succ q ihq =>
                    intro p hp g2 f2 wk2 e2
                    have v3 : vp_in (nI p) 3 := vp_in_nI (by omega) (by omega)
                    refine b_X4_run_105 ⟨fun y => absurd y ?_, fun _ => ⟨v3, v3, fun g3 e3 => ?_⟩⟩
                    · rw [(sc.fr f2 (by decide)).M, i.o.eP]
                      exact nI_ge (by omega) (by omega)
                    · rw [nI_clamp (show p < 2 ^ 31 by omega), e2 p (by omega), if_neg (by omega), bit_bI, bI_shl _ t (by omega)] at e3
                      have em : (m p ||| (if decide ((nI x >>> (nI p &&& 31)) &&& 1 = 1) = true then (1 : Int32) <<< (nI t &&& 31) else 0)) = moX m (nI x) t p := rfl
                      rw [em] at e3
                      rw [nI_1]
                      have f3 : Fr [65] g2 g3 := by
                        rw [e3]
                        exact Fr.ui (by decide)
                      refine ihq (p + 1) (by omega) g3 (f2.tr (f3.mono (by decide))) (wk_fr wk2 f3 (by decide)) (fun j hj => ?_)
                      rw [e3, ui_get]
                      by_cases y : j = p
                      · rw [if_pos ⟨rfl, y⟩, if_pos (by omega), y]
                      · rw [if_neg (fun w => y w.2), e2 j hj]
                        by_cases y2 : j < p
                        · rw [if_pos y2, if_pos (by omega)]
                        · rw [if_neg y2, if_neg (by omega)]
                refine l3 (nP s) 0 rfl h9 f9 (p3 ok) (fun j hj => ?_)
                rw [if_neg (by omega), p2.1 65 (by decide), r2.1 65 (by decide)]
                exact e65 j hj
            · rw [sg.M, i.o.eP]
              exact nI_le (by omega) (by omega)
          | succ q ihq =>
            intro p hp
            refine b_X4_run_35 ⟨fun y => absurd y ?_, fun _ => ⟨vp_in_nI (by omega) (by omega), ?_⟩⟩
            · rw [sg.M, i.o.eP]
              exact nI_ge (by omega) (by omega)
            · rw [nI_clamp (show p < 2 ^ 31 by omega), f.1 61 (by decide), e61 p (by omega), bit_bI, bI_shl _ p (by omega), nI_1]
              have := bitsN_or2 (g := fun p => hasB (awV s p) t) (t := p) (by omega) _ rfl
              rw [show (if decide ((awV s p >>> (nI t &&& 31)) &&& 1 = 1) = true then (1 : Int32) <<< (nI p &&& 31) else 0) = (if (fun p => hasB (awV s p) t) p = true then (1 : Int32) <<< (nI p &&& 31) else 0) from rfl, this]
              exact ihq (p + 1) (by omega)
        exact inn (nP s) 0 rfl
  refine e_X4_run ⟨_, ct_fillA (r := 65) (n := 3) c_65 (by decide) 0 h, fun h4 q => ⟨_, ct_walkBegin h4 s (sc.fr q.1 (by decide)) i, fun h9 w => ?_⟩⟩
  refine l2 (nH s) 0 rfl 0 (fun p => pfS s p 9) (fun _ => 0) h9 (by omega) ((q.1.mono (by decide)).tr (w.2.mono (by decide))) w.1 (fun p hp => plI_age (i.f hp)) (fun p hp => ?_) rfl
  rw [w.2.1 65 (by decide)]
  exact q.2 p (by omega)
theorem ct_repairedC (p : Int32) (h : Hp) (s : Nat → Int32) (a : sC 1 s h) (i : InS s) : CtI 6 mX10_repaired [.ref 0, .int p] h (okx (rpW s p) h (fun v g => v = rprV s p ∧ Fr (mkC ++ rpF) h g)) := by
  have hP := i.o.hP
  have s22 : rpW s p = 0 → (¬ p = -1 → ∃ t, p = nI t ∧ t < nP s) → GoI 6 mX10_repaired 22 [(0, .ref 0), (1, .int p)] [] h (okx (rpW s p) h (fun v g => v = rprV s p ∧ Fr (mkC ++ rpF) h g)) := by
    intro ew ep
    refine b_X10_repaired_22 ⟨_, ct_mBegin h s a i, fun h4 b => ⟨_, ct_ask h4 s s b.2, fun h9 k => ?_⟩⟩
    have f9 : Fr mkC h h9 := b.1.tr (k.1.mono (by decide))
    refine ⟨_, ct_repairRun h9 s (a.fr f9 (by decide)) i (fun p hp => (k.2.1 p hp).1), fun v h14 q => ?_⟩
    obtain ⟨q1, q2, q3, q4⟩ := q
    have f : Fr (mkC ++ rpF) h h14 := (f9.mono (fun k hk => List.mem_append_left _ hk)).tr (q2.mono (fun k hk => List.mem_append_right _ hk))
    refine ⟨fun c => okx_t ew ⟨?_, f⟩, fun c => ⟨fun c2 => ?_, fun c2 => okx_t ew ⟨?_, f⟩⟩⟩
    · have z : v = -9 := q3.resolve_right (fun y => absurd c (Int32.not_lt.mpr y))
      rw [q1] at z
      unfold rprV
      rw [if_pos z, q1, z]
    · obtain ⟨t, et, ht⟩ := ep c2
      have n9 : ¬ v = -9 := fun y => c (by rw [y]; decide)
      refine ⟨by rw [et]; exact vp_in_nI (by omega) (by omega), okx_t ew ⟨?_, f⟩⟩
      have n9' := n9
      rw [q1] at n9'
      unfold rprV
      rw [if_neg n9', if_neg c2, et, nI_clamp (show t < 2 ^ 31 by omega)]
      exact q4 n9 t ht
    · have n9 : ¬ v = -9 := fun y => c (by rw [y]; decide)
      rw [q1] at n9
      unfold rprV
      rw [if_neg n9, if_pos c2, q1]
  refine e_X10_repaired ⟨fun c => s22 (if_pos c) (fun y => absurd c y), fun c => pc (ct_noPlant p h s a i.o) ⟨fun c2 => s22 ?_ (fun _ => isP_nI i.o (nb_0.mp c2)), fun c2 => rfx ?_ isW_1 (by decide)⟩⟩
  · rw [rpW, if_neg c, if_pos (nb_0.mp c2)]
  · rw [rpW, if_neg c]
    exact ite_f (nb_1.mp c2)
