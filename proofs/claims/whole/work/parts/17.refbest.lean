/-! ===== the reference: the cost of a plan, the best of all ===== -/
/-- who is on in an hour by rows r; who goes on -/
def onR (r : Nat → Nat) (t p : Nat) : Bool := hasB (nI (r p)) t
def frR (s : Nat → Int32) (r : Nat → Nat) (t p : Nat) : Bool := frS (pfS s p) (hasB (nI (r p))) t
/-- what an hour costs by rows, without starts -/
def hcR (s : Nat → Int32) (P : Nat) (r : Nat → Nat) (t : Nat) : Int32 := enT s P t (bitsN (onR r t) P) (bitsN (frR s r t) P)
def plR (hc : Nat → Int32) : Nat → Nat → Int32 → Int32
  | 0, _, acc => acc
  | n + 1, t, acc => if hc t = FAR then FAR else plR hc n (t + 1) (acc + hc t)
def stR (s : Nat → Int32) (H : Nat) (r : Nat → Nat) (p : Nat) : Int32 := sumI (ssT (pfS s p) (hasB (nI (r p)))) H
/-- what a plan costs; far -/
def plC (s : Nat → Int32) (H P : Nat) (r : Nat → Nat) : Int32 := plR (hcR s P r) H 0 (sumI (stR s H r) P)
theorem frS_sub {f : Nat → Int32} {b : Nat → Bool} {t : Nat} (h : frS f b t = true) : b t = true := by
  unfold frS at h
  rw [Bool.and_eq_true] at h
  exact h.1
theorem sub_bits : ∀ a0 a1 a2 c0 c1 c2 : Bool, (c0 = true → a0 = true) → (c1 = true → a1 = true) → (c2 = true → a2 = true) → ∀ n, n < 4 → subB (bitsN (fun p => if p = 0 then a0 else if p = 1 then a1 else a2) n) (bitsN (fun p => if p = 0 then c0 else if p = 1 then c1 else c2) n) ∧ bitsN (fun p => if p = 0 then c0 else if p = 1 then c1 else c2) n ≤ bitsN (fun p => if p = 0 then a0 else if p = 1 then a1 else a2) n := by
  unfold subB
  decide +kernel
theorem bitsN_congr {f g : Nat → Bool} : ∀ n, (∀ k, k < n → f k = g k) → bitsN f n = bitsN g n
  | 0, _ => rfl
  | n + 1, h => by
    unfold bitsN
    rw [bitsN_congr n (fun k hk => h k (by omega)), h n (by omega)]
theorem bits3 (f : Nat → Bool) {n : Nat} (hn : n ≤ 3) : bitsN f n = bitsN (fun p => if p = 0 then f 0 else if p = 1 then f 1 else f 2) n := bitsN_congr n (fun k hk => by
  match k, (show k < 3 by omega) with
  | 0, _ => rfl
  | 1, _ => rfl
  | 2, _ => rfl)
theorem sub_ok {a c : Nat → Bool} {n : Nat} (hn : n ≤ 3) (h : ∀ p, c p = true → a p = true) : subB (bitsN a n) (bitsN c n) ∧ bitsN c n ≤ bitsN a n := by
  rw [bits3 a hn, bits3 c hn]
  exact sub_bits _ _ _ _ _ _ (h 0) (h 1) (h 2) n (by omega)
theorem bits8 (g : Nat → Bool) {P : Nat} (hP : P ≤ 3) : bitsN g P < 8 := by
  have h1 := bitsN_lt g P
  have h2 : 2 ^ P ≤ 2 ^ 3 := Nat.pow_le_pow_right (by decide) hP
  omega
/-- what stands in the rows of plants' rows, and the tried rows -/
def laidI (s : Nat → Int32) (ab H P : Nat) (h : Hp) : Prop := (∀ p, p < P → ∀ r, r < 2 ^ H → rowOK s ab H p r h) ∧ tabI s P (fun t st _ => t < H ∧ st < 2 ^ P) h
theorem frR_sub (s : Nat → Int32) (r : Nat → Nat) (t q : Nat) (h : frR s r t q = true) : onR r t q = true := by
  unfold frR at h
  unfold onR
  exact frS_sub h
theorem bitsN_or2 {g : Nat → Bool} {t : Nat} (ht : t < 5) (z : Int32) (hz : z = if g t then (1 : Int32) <<< (nI t &&& 31) else 0) : nI (bitsN g t) ||| z = nI (bitsN g (t + 1)) := by
  rw [hz, ← bitsN_or ht]
  split
  · rfl
  · exact Int32.or_zero
theorem hcR_at {P H ab : Nat} (hP : P ≤ 3) (hH : H ≤ 5) (h : Hp) (s : Nat → Int32) (r : Nat → Nat) (hL : laidI s ab H P h) {t : Nat} (ht : t < H) : h.1 119 (8 * (8 * t + bitsN (onR r t) P) + bitsN (frR s r t) P) = hcR s P r t := by
  obtain ⟨c1, c2⟩ := sub_ok (a := onR r t) (c := frR s r t) hP (frR_sub s r t)
  exact hL.2 t _ _ (by omega) (bits8 _ hP) (bits8 _ hP) ⟨ht, bitsN_lt _ _⟩ c1 c2
set_option maxHeartbeats 4000000 in
theorem cot_plants {P H ab : Nat} (hP : P ≤ 3) (hH : H ≤ 5) (h : Hp) (s : Nat → Int32) (r : Nat → Nat) (hs0 : h.1 114 = s) (hs : s 3 = nI P) (hs2 : s 0 = nI H) (hL : laidI s ab H P h) (hr : ∀ p, p < P → h.1 124 p = nI (r p) ∧ r p < 2 ^ H) {t : Nat} (ht : t < H) (acc : Int32) {Q : Int32 → Hp → Prop}
    (far : hcR s P r t = FAR → Q FAR h) (nxt : hcR s P r t ≠ FAR → GoI 1 mX11_costOfTried 41 [(0, .ref 113), (1, .int (acc + hcR s P r t)), (2, .int (nI (t + 1)))] [] h Q) : ∀ m p : Nat, m + p = P → GoI 1 mX11_costOfTried 59 [(0, .ref 113), (1, .int acc), (2, .int (nI t)), (3, .int (nI (bitsN (onR r t) p))), (4, .int (nI (bitsN (frR s r t) p))), (5, .int (nI p))] [] h Q := by
  have hpow := pow_le hH
  intro m
  induction m with
  | zero =>
    intro p hp
    have hp : p = P := by omega
    subst hp
    have b1 := bits8 (onR r t) hP
    have b2 := bits8 (frR s r t) hP
    have ex : ((8 : Int32) * ((8 * nI t) + nI (bitsN (onR r t) p))) + nI (bitsN (frR s r t) p) = nI (8 * (8 * t + bitsN (onR r t) p) + bitsN (frR s r t) p) := by rw [show (8 : Int32) = nI 8 from rfl, pk_mul, nI_add, pk_mul, nI_add]
    have en := hcR_at hP hH h s r hL ht
    refine b_X11_costOfTried_59 ⟨fun _ => ?_, fun c => absurd ?_ c⟩
    · rw [ex, nI_clamp (show 8 * (8 * t + bitsN (onR r t) p) + bitsN (frR s r t) p < 2 ^ 31 by omega), en]
      refine ⟨vp_in_nI (by omega) (by omega), fun c => ?_, fun c => ?_⟩
      · rw [nI_1]
        exact nxt c
      · exact far c
    · rw [hs0, hs]
      exact nI_le (by omega) (by omega)
  | succ m ihm =>
    intro p hp
    obtain ⟨r1, r2⟩ := hr p (by omega)
    obtain ⟨k1, k2, k3⟩ := hL.1 p (by omega) (r p) r2
    have ih2 := ihm (p + 1) (by omega)
    have ix : (32 * nI p) + h.1 124 p = nI (32 * p + r p) := by rw [r1, ix_row]
    have cl : (nI (32 * p + r p)).toNatClampNeg = 32 * p + r p := nI_clamp (by omega)
    have s130 : ∀ z : Int32, (z = if frR s r t p then (1 : Int32) <<< (nI p &&& 31) else 0) → GoI 1 mX11_costOfTried 130 [(0, .ref 113), (1, .int acc), (2, .int (nI t)), (3, .int (nI (bitsN (onR r t) (p + 1)))), (5, .int (nI p))] [.int z, .int (nI (bitsN (frR s r t) p))] h Q := by
      intro z hz
      refine b_X11_costOfTried_130 ?_
      rw [bitsN_or2 (by omega) z hz, nI_1]
      exact ih2
    have s93 : ∀ z : Int32, (z = if onR r t p then (1 : Int32) <<< (nI p &&& 31) else 0) → GoI 1 mX11_costOfTried 93 [(0, .ref 113), (1, .int acc), (2, .int (nI t)), (4, .int (nI (bitsN (frR s r t) p))), (5, .int (nI p))] [.int z, .int (nI (bitsN (onR r t) p))] h Q := by
      intro z hz
      refine b_X11_costOfTried_93 ⟨vp_in_nI (by omega) (by omega), ?_⟩
      rw [nI_clamp (show p < 2 ^ 31 by omega), ix, cl, k2, bitsN_or2 (by omega) z hz]
      refine ⟨vp_in_nI (by omega) (by omega), pc (ct_has _ t h) ⟨fun c => s130 0 ?_, fun c => s130 _ ?_⟩⟩
      · rw [hasB_bits hH (by omega), bI_0] at c
        rw [frR, c]
        rfl
      · rw [hasB_bits hH (by omega), bI_0, Bool.not_eq_false] at c
        rw [frR, if_pos c]
    refine b_X11_costOfTried_59 ⟨fun c => absurd c ?_, fun _ => ⟨vp_in_nI (by omega) (by omega), ?_⟩⟩
    · rw [hs0, hs]
      exact nI_ge (by omega) (by omega)
    · rw [nI_clamp (show p < 2 ^ 31 by omega), r1]
      refine pc (ct_has _ t h) ⟨fun c => s93 0 ?_, fun c => s93 _ ?_⟩
      · rw [bI_0] at c
        rw [onR, c]
        rfl
      · rw [bI_0, Bool.not_eq_false] at c
        rw [onR, if_pos c]
theorem ct_costOfTried {P H ab : Nat} (hP : P ≤ 3) (hH : H ≤ 5) (h : Hp) (s : Nat → Int32) (r : Nat → Nat) (hs0 : h.1 114 = s) (hs : s 3 = nI P) (hs2 : s 0 = nI H) (hL : laidI s ab H P h) (hr : ∀ p, p < P → h.1 124 p = nI (r p) ∧ r p < 2 ^ H) : CtI 1 mX11_costOfTried [.ref 113] h (pq (plC s H P r) h) := by
  have hpow := pow_le hH
  have hours : ∀ n t : Nat, n + t = H → ∀ acc : Int32, GoI 1 mX11_costOfTried 41 [(0, .ref 113), (1, .int acc), (2, .int (nI t))] [] h (pq (plR (hcR s P r) n t acc) h) := by
    intro n
    induction n with
    | zero =>
      intro t ht acc
      refine b_X11_costOfTried_41 ⟨fun _ => ⟨rfl, rfl⟩, fun c => absurd ?_ c⟩
      rw [hs0, hs2]
      exact nI_le (by omega) (by omega)
    | succ n ih =>
      intro t ht acc
      refine b_X11_costOfTried_41 ⟨fun c => absurd c ?_, fun _ => cot_plants hP hH h s r hs0 hs hs2 hL hr (by omega) acc (fun c => ?_) (fun c => ?_) P 0 rfl⟩
      · rw [hs0, hs2]
        exact nI_ge (by omega) (by omega)
      · rw [plR, if_pos c]
        exact ⟨rfl, rfl⟩
      · rw [plR, if_neg c]
        exact ih (t + 1) (by omega) _
  have starts : ∀ m p : Nat, m + p = P → GoI 1 mX11_costOfTried 4 [(0, .ref 113), (1, .int (sumI (stR s H r) p)), (2, .int (nI p))] [] h (pq (plC s H P r) h) := by
    intro m
    induction m with
    | zero =>
      intro p hp
      have hp : p = P := by omega
      subst hp
      refine b_X11_costOfTried_4 ⟨fun _ => hours H 0 rfl _, fun c => absurd ?_ c⟩
      rw [hs0, hs]
      exact nI_le (by omega) (by omega)
    | succ m ihm =>
      intro p hp
      obtain ⟨r1, r2⟩ := hr p (by omega)
      obtain ⟨k1, k2, k3⟩ := hL.1 p (by omega) (r p) r2
      have ix : (32 * nI p) + h.1 124 p = nI (32 * p + r p) := by rw [r1, ix_row]
      refine b_X11_costOfTried_4 ⟨fun c => absurd c ?_, fun _ => ⟨vp_in_nI (by omega) (by omega), ?_⟩⟩
      · rw [hs0, hs]
        exact nI_ge (by omega) (by omega)
      · rw [nI_clamp (show p < 2 ^ 31 by omega), ix, nI_clamp (show 32 * p + r p < 2 ^ 31 by omega), k3, nI_1]
        exact ⟨vp_in_nI (by omega) (by omega), ihm (p + 1) (by omega)⟩
  exact e_X11_costOfTried (starts P 0 rfl)
/-- the best so far: what it costs, its rows -/
abbrev Bst : Type := Int32 × (Nat → Nat)
def upB (pl : (Nat → Nat) → Int32) (r : Nat → Nat) (B : Bst) : Bst := if B.1 ≤ pl r then B else (pl r, r)
def itN {β : Type} (F : Nat → β → β) : Nat → Nat → β → β
  | 0, _, B => B
  | m + 1, j, B => itN F m (j + 1) (F j B)
def updN (r : Nat → Nat) (p x : Nat) : Nat → Nat := fun q => if q = p then x else r q
/-- n plants from p on are still to be given rows; R rows each -/
def foT (ok : Nat → Nat → Bool) (pl : (Nat → Nat) → Int32) (R : Nat) : Nat → Nat → (Nat → Nat) → Bst → Bst
  | 0, _, r, B => upB pl r B
  | n + 1, p, r, B => itN (fun x B => if ok p x then foT ok pl R n (p + 1) (updN r p x) B else B) R 0 B
/-- how the best so far stands in the heap -/
def bsI (P : Nat) (B : Bst) (h : Hp) : Prop := h.1 113 15 = B.1 ∧ (B.1 ≠ FAR → ∀ q, q < P → h.1 123 q = nI (B.2 q))
def triI (X : List Nat) (h0 h : Hp) : Prop := Fr (113 :: X) h0 h ∧ ∀ i, i ≠ 15 → h.1 113 i = h0.1 113 i
theorem triI.rf {X : List Nat} {h : Hp} : triI X h h := ⟨Fr.rf, fun _ _ => rfl⟩
theorem triI.tr {X : List Nat} {h h1 h2 : Hp} (a : triI X h h1) (b : triI X h1 h2) : triI X h h2 := ⟨a.1.tr b.1, fun i hi => (b.2 i hi).trans (a.2 i hi)⟩
theorem triI.ui {X : List Nat} {h : Hp} {k j : Nat} {v : Int32} (hk : k ∈ X) (h3 : k ≠ 113) : triI X h (ui h k j v) := ⟨Fr.ui (List.mem_cons_of_mem _ hk), fun i _ => by rw [ui_ne (Ne.symm h3)]⟩
theorem laidI.keep {s : Nat → Int32} {ab H P : Nat} {h g : Hp} (hL : laidI s ab H P h) (hF : triI [123, 124] h g) : laidI s ab H P g := by
  have e : ∀ a, a = 119 ∨ a = 120 ∨ a = 121 ∨ a = 122 → g.1 a = h.1 a := fun a ha => hF.1.1 a (by rcases ha with rfl | rfl | rfl | rfl <;> decide)
  refine ⟨fun p hp r hr => ?_, fun t st fr a1 a2 a3 a4 a5 a6 => ?_⟩
  · obtain ⟨k1, k2, k3⟩ := hL.1 p hp r hr
    exact ⟨by rw [e 120 (by decide)]; exact k1, by rw [e 121 (by decide)]; exact k2, by rw [e 122 (by decide)]; exact k3⟩
  · rw [e 119 (by decide)]
    exact hL.2 t st fr a1 a2 a3 a4 a5 a6
theorem plC_congr {s : Nat → Int32} {H P : Nat} {r r' : Nat → Nat} (h : ∀ p, p < P → r p = r' p) : plC s H P r = plC s H P r' := by
  have h1 : sumI (stR s H r) P = sumI (stR s H r') P := sumI_congr P fun k hk => by unfold stR; rw [h k hk]
  have h2 : ∀ t, hcR s P r t = hcR s P r' t := fun t => by
    unfold hcR
    rw [bitsN_congr (f := onR r t) (g := onR r' t) P (fun k hk => by unfold onR; rw [h k hk]), bitsN_congr (f := frR s r t) (g := frR s r' t) P (fun k hk => by unfold frR; rw [h k hk])]
  unfold plC
  rw [h1, show hcR s P r = hcR s P r' from funext h2]
set_option maxHeartbeats 4000000 in
theorem ct_tries {P H ab : Nat} (hP : P ≤ 3) (hH : H ≤ 5) (s : Nat → Int32) (hs : s 3 = nI P) (hs2 : s 0 = nI H) : ∀ n p d : Nat, n + p = P → 3 + n ≤ d → ∀ (h : Hp) (r : Nat → Nat) (B : Bst), h.1 114 = s → laidI s ab H P h → (∀ q, q < p → h.1 124 q = nI (r q) ∧ r q < 2 ^ H) → bsI P B h →
    CtV d mX11_tries [.ref 113, .int (nI p)] h (fun h' => triI [123, 124] h h' ∧ (∀ q, q < p → h'.1 124 q = h.1 124 q) ∧ bsI P (foT (okS s ab H) (plC s H P) (2 ^ H) n p r B) h')
  | 0, p, d, hn, hd, h, r, B, h114, hL, hr, hB => by
    have hp : p = P := by omega
    subst hp
    have hpow := pow_le hH
    refine e_X11_tries (dC := 2) (by omega) (by omega) ⟨fun c => absurd ?_ c, fun _ => pc (ct_costOfTried hP hH h s r h114 hs hs2 hL hr) ⟨fun c => ?_, fun c g e => ?_⟩⟩
    · rw [h114, hs]
    · rw [hB.1] at c
      refine ⟨triI.rf, fun _ _ => rfl, ?_⟩
      rw [foT, upB, if_pos c]
      exact hB
    · rw [hB.1] at c
      have key : ∀ m k : Nat, m + k = 3 → ∀ g2 : Hp, triI [123, 124] h g2 → g2.1 124 = h.1 124 → g2.1 113 15 = plC s H p r → (∀ q, q < k → g2.1 123 q = h.1 124 q) → GoV d mX11_tries 30 [(0, .ref 113), (3, .int (nI k))] [] g2 (fun h' => triI [123, 124] h h' ∧ (∀ q, q < p → h'.1 124 q = h.1 124 q) ∧ bsI p (foT (okS s ab H) (plC s H p) (2 ^ H) 0 p r B) h') := by
        intro m
        induction m with
        | zero =>
          intro k hk g2 t1 t2 t3 t4
          refine b_X11_tries_30 (dC := 2) (by omega) (by omega) ⟨fun _ => ⟨t1, fun q _ => by rw [t2], ?_⟩, fun c => absurd ?_ c⟩
          · rw [foT, upB, if_neg c]
            exact ⟨t3, fun _ q hq => by rw [t4 q (by omega)]; exact (hr q hq).1⟩
          · exact nI_le (a := 3) (by omega) (by omega)
        | succ m ih =>
          intro k hk g2 t1 t2 t3 t4
          refine b_X11_tries_30 (dC := 2) (by omega) (by omega) ⟨fun c => absurd c ?_, fun _ => ⟨vp_in_nI (by omega) (by omega), vp_in_nI (by omega) (by omega), fun g3 e3 => ?_⟩⟩
          · exact nI_ge (b := 3) (by omega) (by omega)
          · rw [nI_clamp (show k < 2 ^ 31 by omega)] at e3
            rw [nI_1]
            subst e3
            refine ih (k + 1) (by omega) _ (t1.tr (triI.ui (by decide) (by decide))) (by rw [ui_ne (by decide)]; exact t2) (by rw [ui_ne (by decide)]; exact t3) (fun q hq => ?_)
            rw [ui_get]
            by_cases hqk : q = k
            · rw [if_pos ⟨rfl, hqk⟩, t2, hqk]
            · rw [if_neg (fun z => hqk z.2)]
              exact t4 q (by omega)
      subst e
      exact key 3 0 rfl _ ⟨Fr.ui (by decide), fun i hi => ui_nj hi⟩ (ui_ne (by decide)) (ui_aa _ _ _ _) (fun q hq => by omega)
  | n + 1, p, d, hn, hd, h, r, B, h114, hL, hr, hB => by
    have hpow := pow_le hH
    have lp : ∀ m x : Nat, m + x = 2 ^ H → ∀ (g : Hp) (B2 : Bst), triI [123, 124] h g → (∀ q, q < p → g.1 124 q = h.1 124 q) → bsI P B2 g →
        GoV d mX11_tries 56 [(0, .ref 113), (1, .int (nI p)), (2, .int (nI x))] [] g (fun h' => triI [123, 124] h h' ∧ (∀ q, q < p → h'.1 124 q = h.1 124 q) ∧ bsI P (itN (fun x B => if okS s ab H p x then foT (okS s ab H) (plC s H P) (2 ^ H) n (p + 1) (updN r p x) B else B) m x B2) h') := by
      intro m
      induction m with
      | zero =>
        intro x hx g B2 t1 t2 t3
        have g114 : g.1 114 = s := (t1.1.1 114 (by decide)).trans h114
        refine b_X11_tries_56 (dC := d - 1) (by omega) (by omega) ⟨fun _ => ⟨t1, t2, t3⟩, fun c => absurd ?_ c⟩
        rw [g114, hs2, shl1 H (by omega)]
        exact nI_le (by omega) (by omega)
      | succ m ih =>
        intro x hx g B2 t1 t2 t3
        have g114 : g.1 114 = s := (t1.1.1 114 (by decide)).trans h114
        have gL := hL.keep t1
        obtain ⟨k1, -, -⟩ := gL.1 p (by omega) x (by omega)
        refine b_X11_tries_56 (dC := d - 1) (by omega) (by omega) ⟨fun c => absurd c ?_, fun _ => ?_⟩
        · rw [g114, hs2, shl1 H (by omega)]
          exact nI_ge (by omega) (by omega)
        · rw [ix_row, nI_clamp (show 32 * p + x < 2 ^ 31 by omega), k1]
          refine ⟨vp_in_nI (by omega) (by omega), fun c => b_X11_tries_96 (dC := d - 1) (by omega) (by omega) ?_, fun c => ⟨vp_in_nI (by omega) (by omega), fun g3 e3 => ?_⟩⟩
          · rw [bI_0] at c
            rw [nI_1, itN, c]
            exact ih (x + 1) (by omega) g B2 t1 t2 t3
          · rw [bI_0, Bool.not_eq_false] at c
            rw [nI_clamp (show p < 2 ^ 31 by omega)] at e3
            have u1 : triI [123, 124] h g3 := by rw [e3]; exact t1.tr (triI.ui (by decide) (by decide))
            have u2 : ∀ q, q < p → g3.1 124 q = h.1 124 q := fun q hq => by rw [e3, ui_nj (by omega)]; exact t2 q hq
            have u3 : g3.1 124 p = nI x := by rw [e3, ui_aa]
            have u4 : bsI P B2 g3 := by
              rw [e3]
              exact ⟨by rw [ui_ne (by decide)]; exact t3.1, fun z q hq => by rw [ui_ne (by decide)]; exact t3.2 z q hq⟩
            rw [nI_1]
            refine ⟨_, ct_tries hP hH s hs hs2 n (p + 1) (d - 1) (by omega) (by omega) g3 (updN r p x) B2 ((u1.1.1 114 (by decide)).trans h114) (hL.keep u1) (fun q hq => ?_) u4, fun h7 q => b_X11_tries_96 (dC := d - 1) (by omega) (by omega) ?_⟩
            · unfold updN
              split
              · next e => rw [e]; exact ⟨u3, by omega⟩
              · rw [u2 q (by omega)]; exact hr q (by omega)
            · obtain ⟨v1, v2, v3⟩ := q
              rw [nI_1, itN, if_pos c]
              clear hB
              exact ih (x + 1) (by omega) h7 _ (u1.tr v1) (fun q hq => (v2 q (by omega)).trans (u2 q hq)) v3
    refine e_X11_tries (dC := d - 1) (by omega) (by omega) ⟨fun _ => lp (2 ^ H) 0 rfl h B triI.rf (fun _ _ => rfl) hB, fun c => absurd c ?_⟩
    rw [h114, hs, nI_eq (by omega) (by omega)]
    omega
/-- the best of all: what it costs or far, its rows -/
def beS (s : Nat → Int32) (ab H P : Nat) : Bst := foT (okS s ab H) (plC s H P) (2 ^ H) P 0 (fun _ => 0) (FAR, fun _ => 0)
/-- what may change while the best is sought -/
def scr : List Nat := [118, 119, 120, 121, 122, 123, 124]
/-- what it answers -/
def beA (B : Bst) : Int32 := if B.1 = FAR then -9 else B.1
theorem ct_bests {P H ab : Nat} (hP : P ≤ 3) (hH : H ≤ 5) (h : Hp) (s : Nat → Int32) (hs0 : h.1 114 = s) (hs : s 3 = nI P) (hs2 : s 0 = nI H) (hab : h.1 113 8 = nI ab) : CtI 7 mX11_bests [.ref 113] h (fun v h' => v = beA (beS s ab H P) ∧ triI scr h h' ∧ ((beS s ab H P).1 ≠ FAR → ∀ q, q < P → h'.1 123 q = nI ((beS s ab H P).2 q))) := by
  have hpow := pow_le hH
  have lp : ∀ m p : Nat, m + p = P → ∀ g : Hp, Fr [120, 121, 122] h g → (∀ q, q < p → ∀ r, r < 2 ^ H → rowOK s ab H q r g) → GoI 7 mX11_bests 2 [(0, .ref 113), (1, .int (nI p))] [] g (fun v h' => v = beA (beS s ab H P) ∧ triI scr h h' ∧ ((beS s ab H P).1 ≠ FAR → ∀ q, q < P → h'.1 123 q = nI ((beS s ab H P).2 q))) := by
    intro m
    induction m with
    | zero =>
      intro p hp g t1 t2
      have hp : p = P := by omega
      subst hp
      have g114 : g.1 114 = s := (t1.1 114 (by decide)).trans hs0
      refine b_X11_bests_2 ⟨fun _ => ⟨_, ct_laysTable hP hH g s g114 hs hs2, fun h4 q g6 e6 => ?_⟩, fun c => absurd ?_ c⟩
      · obtain ⟨f1, f2⟩ := q
        have l4 : laidI s ab H p h4 := ⟨fun q hq r hr => by
          obtain ⟨k1, k2, k3⟩ := t2 q hq r hr
          exact ⟨by rw [f1.1 120 (by decide)]; exact k1, by rw [f1.1 121 (by decide)]; exact k2, by rw [f1.1 122 (by decide)]; exact k3⟩, f2⟩
        have t46 : triI [123, 124] h4 g6 := by rw [e6]; exact ⟨Fr.ui (by decide), fun i hi => ui_nj hi⟩
        have h4114 : h4.1 114 = s := (f1.1 114 (by decide)).trans g114
        have w1 : triI scr h h4 := ⟨(t1.mono (by decide)).tr (f1.mono (by decide)), fun i _ => by rw [f1.1 113 (by decide), t1.1 113 (by decide)]⟩
        have w6 : triI scr h g6 := w1.tr ⟨t46.1.mono (by decide), t46.2⟩
        have g15 : g6.1 113 15 = FAR := by rw [e6]; exact ui_aa _ _ _ _
        refine ⟨_, ct_tries hP hH s hs hs2 p 0 6 (by omega) (by omega) g6 (fun _ => 0) (FAR, fun _ => 0) ((t46.1.1 114 (by decide)).trans h4114) (l4.keep t46) (fun q hq => by omega) ⟨g15, fun c => absurd rfl c⟩, fun h10 q => ?_⟩
        obtain ⟨v1, -, v3⟩ := q
        have w10 : triI scr h h10 := w6.tr ⟨v1.1.mono (by decide), v1.2⟩
        have b15 : h10.1 113 15 = (beS s ab H p).1 := v3.1
        refine ⟨fun c => ⟨?_, w10, v3.2⟩, fun c => ⟨?_, w10, v3.2⟩⟩
        · rw [b15] at c
          unfold beA
          rw [b15]
          exact (if_neg c).symm
        · rw [b15] at c
          unfold beA
          exact (if_pos c).symm
      · rw [g114, hs]
        exact nI_le (by omega) (by omega)
    | succ m ihm =>
      intro p hp g t1 t2
      have g114 : g.1 114 = s := (t1.1 114 (by decide)).trans hs0
      have g113 : g.1 113 = h.1 113 := t1.1 113 (by decide)
      refine b_X11_bests_2 ⟨fun c => absurd c ?_, fun _ => ⟨_, ct_laysRows (by omega) hH g s g114 hs2 (by rw [g113]; exact hab), fun h15 q => ?_⟩⟩
      · rw [g114, hs]
        exact nI_ge (by omega) (by omega)
      · rw [nI_1]
        refine ihm (p + 1) (by omega) h15 (t1.tr q.1) (fun q2 hq2 r hr => ?_)
        rcases Nat.lt_or_ge q2 p with z | z
        · obtain ⟨k1, k2, k3⟩ := t2 q2 z r hr
          exact ⟨by rw [q.2.1 120 _ (by omega)]; exact k1, by rw [q.2.1 121 _ (by omega)]; exact k2, by rw [q.2.1 122 _ (by omega)]; exact k3⟩
        · rw [show q2 = p by omega]
          exact q.2.2 r hr
  exact e_X11_bests (lp P 0 rfl h Fr.rf (fun q hq => by omega))
