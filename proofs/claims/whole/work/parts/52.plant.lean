/-! ===== the class: one plant, and the reference's words for it ===== -/
theorem imin4 (r : Int32) : imin r 4 = 1 ↔ r = 1 := by
  unfold imin
  by_cases c : 4 < r
  · rw [if_pos c]
    constructor
    · intro e
      exact absurd e (by decide)
    · intro e
      rw [e] at c
      exact absurd c (by decide)
  · rw [if_neg c]
theorem lt6c {P : Nat → Prop} (h0 : P 0) (h1 : P 1) (h2 : P 2) (h3 : P 3) (h4 : P 4) (h5 : P 5) : ∀ k, k < 6 → P k
  | 0, _ => h0
  | 1, _ => h1
  | 2, _ => h2
  | 3, _ => h3
  | 4, _ => h4
  | 5, _ => h5
  | n + 6, h => by omega
theorem kun3 : ∀ k, k < 6 → kun 6 (nI k) 3 = decide (k = 3 ∨ k = 5) := by decide
theorem kun1 : ∀ k, k < 6 → kun 6 (nI k) 1 = decide (k = 1 ∨ k = 4) := by decide
theorem kun2 : ∀ k, k < 6 → kun 6 (nI k) 2 = decide (k = 2 ∨ k = 3 ∨ k = 5) := by decide
theorem stC_eq (fg st r : Int32) : ∀ k, k < 6 → stC (nI k) fg st r = stS (nI k) fg st r := by
  refine lt6c ?_ ?_ ?_ ?_ ?_ ?_
  · rw [stC, kun3 0 (by decide), kun1 0 (by decide)]
    rfl
  · rw [stC, kun3 1 (by decide), kun1 1 (by decide), if_neg (by decide), if_pos (by decide), if_neg (fun z => absurd z.1 (by decide))]
    rfl
  · rw [stC, kun3 2 (by decide), kun1 2 (by decide)]
    rfl
  · rw [stC, kun3 3 (by decide)]
    rfl
  · rw [stC, kun3 4 (by decide), kun1 4 (by decide), if_neg (by decide), if_pos (by decide)]
    have e : stS (nI 4) fg st r = if imin r 4 = 1 then (st + fg * imin r 4) / 2 else st + fg * imin r 4 := rfl
    rw [e]
    by_cases c : r = 1
    · rw [if_pos ⟨by decide, c⟩, if_pos ((imin4 r).mpr c)]
    · rw [if_neg (fun z => c z.2), if_neg (fun z => c ((imin4 r).mp z))]
  · rw [stC, kun3 5 (by decide)]
    rfl
theorem imin_com (a b : Int32) : imin a b = imin b a := by
  unfold imin
  by_cases c : b < a
  · rw [if_pos c, if_neg (Int32.not_lt.mpr (Int32.le_of_lt c))]
  · rw [if_neg c]
    by_cases d : a < b
    · rw [if_pos d]
    · rw [if_neg d]
      exact Int32.le_antisymm (Int32.not_lt.mp c) (Int32.not_lt.mp d)
theorem msC_eq {f : Nat → Int32} {k : Nat} (hk : k < 6) (hf : f 0 = nI k) (b : Bool) : msC f b = msS f b := by
  unfold msC msS
  rw [hf, kun2 k hk]
  revert k
  refine fun {k} hk hf => ?_
  have key : (b = true ∧ ¬ nI k = 5 ∧ decide (k = 2 ∨ k = 3 ∨ k = 5) = true) ↔ (b = true ∧ (nI k = 2 ∨ nI k = 3)) := by
    have : ∀ k, k < 6 → ((¬ nI k = 5 ∧ decide (k = 2 ∨ k = 3 ∨ k = 5) = true) ↔ (nI k = 2 ∨ nI k = 3)) := by decide
    rw [this k hk]
  by_cases c : b = true ∧ (nI k = 2 ∨ nI k = 3)
  · rw [if_pos (key.mpr c), if_pos c]
    exact imin_com _ _
  · rw [if_neg (fun z => c (key.mp z)), if_neg c]
/-! ===== ages, held between -4 and 4 by the class ===== -/
def clA (a : Int32) : Int32 := if 4 < a then 4 else if a < -4 then -4 else a
/-- so long on or off, m at most -/
def aR (m : Nat) (a : Int32) : Prop := ∃ j : Nat, 1 ≤ j ∧ j ≤ m ∧ (a = nI j ∨ a = -nI j)
theorem aR.mono {m n : Nat} {a : Int32} (h : aR m a) (hmn : m ≤ n) : aR n a := by
  obtain ⟨j, h1, h2, h3⟩ := h
  exact ⟨j, h1, by omega, h3⟩
theorem age_f1 : ∀ j, j < 12 → 1 ≤ j → posB (nI j) = true ∧ posB (-nI j) = false ∧ -nI j + -1 = -nI (j + 1) ∧ ¬ nI j = 0 ∧ ¬ -nI j = 0 ∧ ¬ nI j < 0 ∧ -nI j < 0 := by decide
theorem aR_go {m : Nat} (hm : m < 11) {a : Int32} (h : aR m a) (on : Bool) : aR (m + 1) (goS a on) := by
  obtain ⟨j, h1, h2, h3⟩ := h
  obtain ⟨f1, f2, f3, -⟩ := age_f1 j (by omega) h1
  unfold goS
  rcases h3 with e | e
  · subst e
    rw [f1]
    cases on with
    | true => exact ⟨j + 1, by omega, by omega, Or.inl (nI_1 j)⟩
    | false => exact ⟨1, by omega, by omega, Or.inr rfl⟩
  · subst e
    rw [f2]
    cases on with
    | true => exact ⟨1, by omega, by omega, Or.inl rfl⟩
    | false => exact ⟨j + 1, by omega, by omega, Or.inr f3⟩
theorem aR_ag {a0 : Int32} (h : aR 4 a0) (b : Nat → Bool) : ∀ k, k ≤ 6 → aR (4 + k) (agS a0 b k)
  | 0, _ => h
  | k + 1, hk => aR_go (by omega) (aR_ag h b k (by omega)) (b k)
theorem aR_n0 {m : Nat} (hm : m < 12) {a : Int32} (h : aR m a) : ¬ a = 0 := by
  obtain ⟨j, h1, h2, h3⟩ := h
  obtain ⟨-, -, -, f4, f5, -⟩ := age_f1 j (by omega) h1
  rcases h3 with e | e
  · rw [e]
    exact f4
  · rw [e]
    exact f5
theorem aR_4 {a : Int32} (h1 : -4 ≤ a.toInt) (h2 : a.toInt ≤ 4) (h3 : ¬ a = 0) : aR 4 a := by
  have n0 : a.toInt ≠ 0 := fun e => h3 (Int32.toInt_inj.mp e)
  by_cases c : 0 ≤ a.toInt
  · refine ⟨a.toInt.toNat, by omega, by omega, Or.inl ?_⟩
    apply Int32.toInt_inj.mp
    rw [nI_toInt (by omega)]
    omega
  · refine ⟨(-a.toInt).toNat, by omega, by omega, Or.inr ?_⟩
    have tn : ∀ j : Nat, j < 5 → 1 ≤ j → (-nI j).toInt = -(j : Int) := by decide
    apply Int32.toInt_inj.mp
    rw [tn _ (by omega) (by omega)]
    omega
theorem plI_age {f : Nat → Int32} (h : plI f) : aR 4 (f 9) := aR_4 h.2.2.2.2.2.2.2.2.1 h.2.2.2.2.2.2.2.2.2.1 h.2.2.2.2.2.2.2.2.2.2
/-- kind, least on, least off alone -/
def fK (k u d : Nat) : Nat → Int32 := fun j => if j = 0 then nI k else if j = 7 then nI u else nI d
theorem mvC_c {f g : Nat → Int32} (h0 : f 0 = g 0) (h7 : f 7 = g 7) (h8 : f 8 = g 8) (a : Int32) (on : Bool) : mvC f a on = mvC g a on := by
  unfold mvC
  rw [h0, h7, h8]
theorem mgS_c {f g : Nat → Int32} (h0 : f 0 = g 0) (h7 : f 7 = g 7) (h8 : f 8 = g 8) (a : Int32) (on : Bool) : mgS f a on = mgS g a on := by
  unfold mgS
  rw [h0, h7, h8]
theorem mv_p : ∀ n, n < 486 → (mvC (fK (n / 9 % 6) (n / 3 % 3 + 1) (n % 3 + 1)) (clA (nI (n / 54 + 1))) true = (if mgS (fK (n / 9 % 6) (n / 3 % 3 + 1) (n % 3 + 1)) (nI (n / 54 + 1)) true then clA (goS (nI (n / 54 + 1)) true) else 0)) ∧ (mvC (fK (n / 9 % 6) (n / 3 % 3 + 1) (n % 3 + 1)) (clA (nI (n / 54 + 1))) false = (if mgS (fK (n / 9 % 6) (n / 3 % 3 + 1) (n % 3 + 1)) (nI (n / 54 + 1)) false then clA (goS (nI (n / 54 + 1)) false) else 0)) := by decide +kernel
theorem mv_m : ∀ n, n < 486 → (mvC (fK (n / 9 % 6) (n / 3 % 3 + 1) (n % 3 + 1)) (clA (-nI (n / 54 + 1))) true = (if mgS (fK (n / 9 % 6) (n / 3 % 3 + 1) (n % 3 + 1)) (-nI (n / 54 + 1)) true then clA (goS (-nI (n / 54 + 1)) true) else 0)) ∧ (mvC (fK (n / 9 % 6) (n / 3 % 3 + 1) (n % 3 + 1)) (clA (-nI (n / 54 + 1))) false = (if mgS (fK (n / 9 % 6) (n / 3 % 3 + 1) (n % 3 + 1)) (-nI (n / 54 + 1)) false then clA (goS (-nI (n / 54 + 1)) false) else 0)) := by decide +kernel
theorem mv_ix {j k u d : Nat} (h1 : 1 ≤ j) (h2 : j ≤ 9) (hk : k < 6) (u1 : 1 ≤ u) (u2 : u ≤ 3) (d1 : 1 ≤ d) (d2 : d ≤ 3) : ∃ n, n < 486 ∧ n / 54 + 1 = j ∧ n / 9 % 6 = k ∧ n / 3 % 3 + 1 = u ∧ n % 3 + 1 = d := ⟨(j - 1) * 54 + k * 9 + (u - 1) * 3 + (d - 1), by omega, by omega, by omega, by omega, by omega⟩
theorem plI_k {f : Nat → Int32} (h : plI f) : ∃ k u d : Nat, k < 6 ∧ 1 ≤ u ∧ u ≤ 3 ∧ 1 ≤ d ∧ d ≤ 3 ∧ f 0 = fK k u d 0 ∧ f 7 = fK k u d 7 ∧ f 8 = fK k u d 8 := by
  obtain ⟨⟨k, hk, e0⟩, -, -, -, -, -, ⟨u, u1, u2, e7⟩, ⟨d, d1, d2, e8⟩, -⟩ := h
  exact ⟨k, u, d, hk, u1, u2, d1, d2, e0, e7, e8⟩
theorem mv_cl {f : Nat → Int32} (hf : plI f) {a : Int32} (ha : aR 9 a) (on : Bool) : mvC f (clA a) on = if mgS f a on then clA (goS a on) else 0 := by
  obtain ⟨k, u, d, hk, u1, u2, d1, d2, e0, e7, e8⟩ := plI_k hf
  obtain ⟨j, h1, h2, h3⟩ := ha
  rw [mvC_c e0 e7 e8, mgS_c e0 e7 e8]
  rcases h3 with e | e
  · rw [e]
    obtain ⟨n, hn, n1, n2, n3, n4⟩ := mv_ix h1 h2 hk u1 u2 d1 d2
    have m := mv_p n hn
    rw [n1, n2, n3, n4] at m
    cases on with
    | true => exact m.1
    | false => exact m.2
  · rw [e]
    obtain ⟨n, hn, n1, n2, n3, n4⟩ := mv_ix h1 h2 hk u1 u2 d1 d2
    have m := mv_m n hn
    rw [n1, n2, n3, n4] at m
    cases on with
    | true => exact m.1
    | false => exact m.2
theorem cl_f : ∀ j, j < 12 → 1 ≤ j → ¬ clA (nI j) = 0 ∧ ¬ clA (-nI j) = 0 ∧ ¬ clA (nI j) < 0 ∧ clA (-nI j) < 0 ∧ imin (-(clA (-nI j))) 4 = imin (nI j) 4 := by decide
theorem cl_n0 {m : Nat} (hm : m < 12) {a : Int32} (h : aR m a) : ¬ clA a = 0 := by
  obtain ⟨j, h1, h2, h3⟩ := h
  obtain ⟨f1, f2, -⟩ := cl_f j (by omega) h1
  rcases h3 with e | e
  · rw [e]
    exact f1
  · rw [e]
    exact f2
theorem cl_neg {m : Nat} (hm : m < 12) {a : Int32} (h : aR m a) : clA a < 0 ↔ a < 0 := by
  obtain ⟨j, h1, h2, h3⟩ := h
  obtain ⟨-, -, f3, f4, -⟩ := cl_f j (by omega) h1
  obtain ⟨-, -, -, -, -, g6, g7⟩ := age_f1 j (by omega) h1
  rcases h3 with e | e
  · rw [e]
    exact ⟨fun z => absurd z f3, fun z => absurd z g6⟩
  · rw [e]
    exact ⟨fun _ => g7, fun _ => f4⟩
theorem stS_4 (k fg st r r2 : Int32) (h : imin r 4 = imin r2 4) : stS k fg st r = stS k fg st r2 := by
  unfold stS
  rw [h]
/-- what starts cost by the held age -/
theorem st_cl {m : Nat} (hm : m < 12) {a : Int32} (h : aR m a) (hn : a < 0) (k fg st : Int32) : stS k fg st (-(clA a)) = stS k fg st (-a) := by
  obtain ⟨j, h1, h2, h3⟩ := h
  obtain ⟨-, -, -, -, f5⟩ := cl_f j (by omega) h1
  obtain ⟨-, -, -, -, -, g6, -⟩ := age_f1 j (by omega) h1
  rcases h3 with e | e
  · rw [e] at hn
    exact absurd hn g6
  · refine stS_4 _ _ _ _ _ ?_
    rw [e, f5, Int32.neg_neg]
theorem cl_4 {a : Int32} (h : aR 4 a) : clA a = a := by
  have : ∀ j, j < 5 → 1 ≤ j → clA (nI j) = nI j ∧ clA (-nI j) = -nI j := by decide
  obtain ⟨j, h1, h2, h3⟩ := h
  obtain ⟨f1, f2⟩ := this j (by omega) h1
  rcases h3 with e | e
  · rw [e]
    exact f1
  · rw [e]
    exact f2
theorem lawS_up (f : Nat → Int32) (b : Nat → Bool) (n : Nat) : lawS f b (n + 1) = (lawS f b n && mgS f (agS (f 9) b n) (b n)) := by
  unfold lawS
  rw [List.range_succ, List.all_append]
  simp
theorem lawS_le {f : Nat → Int32} {b : Nat → Bool} : ∀ n m, n ≤ m → lawS f b n = false → lawS f b m = false := by
  intro n m
  induction m with
  | zero =>
    intro h e
    rw [show n = 0 by omega] at e
    exact e
  | succ m ih =>
    intro h e
    by_cases c : n = m + 1
    · rw [← c]
      exact e
    · rw [lawS_up, ih (by omega) e]
      rfl
theorem ct_mayRun {k H : Nat} (hk : isPl k) (hH : H ≤ 5) (row : Int32) (h : Hp) (hf : plI (h.1 k)) : CtI 2 mX3_mayRun [.ref k, .int row, .int (nI H)] h (pq (bI (lawS (h.1 k) (hasB row) H)) h) := by
  have a0 := plI_age hf
  have lp : ∀ n j : Nat, n + j = H → GoI 2 mX3_mayRun 8 [(0, .ref k), (1, .int row), (2, .int (nI H)), (3, .int (if lawS (h.1 k) (hasB row) j then clA (agS (h.1 k 9) (hasB row) j) else 0)), (4, .int (nI j))] [] h (pq (bI (lawS (h.1 k) (hasB row) H)) h) := by
    intro n
    induction n with
    | zero =>
      intro j hj
      have hj : j = H := by omega
      subst hj
      have ar := aR_ag a0 (hasB row) j (by omega)
      refine b_X3_mayRun_8 hk ⟨fun _ => ⟨?_, rfl⟩, fun c => absurd (nI_le (by omega) (by omega)) c⟩
      cases hl : lawS (h.1 k) (hasB row) j with
      | true =>
        rw [if_pos rfl, if_neg (cl_n0 (by omega) ar)]
        rfl
      | false =>
        rw [if_neg Bool.false_ne_true, if_pos rfl]
        rfl
    | succ n ih =>
      intro j hj
      have ar := aR_ag a0 (hasB row) j (by omega)
      have ih2 := ih (j + 1) (by omega)
      refine b_X3_mayRun_8 hk ⟨fun c => absurd c (nI_ge (by omega) (by omega)), fun _ => ?_⟩
      cases hl : lawS (h.1 k) (hasB row) j with
      | true =>
        rw [if_pos rfl]
        refine ⟨fun c => absurd c (cl_n0 (by omega) ar), fun _ => ?_⟩
        rw [ite_bI]
        refine pc (ct_moved hk _ (hasB row j) h) ?_
        rw [mv_cl hf (ar.mono (by omega)), nI_1]
        rw [lawS_up, hl, Bool.true_and] at ih2
        exact ih2
      | false =>
        rw [if_neg Bool.false_ne_true]
        refine ⟨fun _ => ⟨?_, rfl⟩, fun c => absurd rfl c⟩
        rw [lawS_le j H (by omega) hl]
        rfl
  have := lp H 0 rfl
  rw [show lawS (h.1 k) (hasB row) 0 = true from rfl, if_pos rfl, show agS (h.1 k 9) (hasB row) 0 = h.1 k 9 from rfl, cl_4 a0] at this
  exact e_X3_mayRun hk this
/-! ===== a plant's cell and the row ===== -/
def plE (f g : Nat → Int32) : Prop := ∀ j, j < 10 → f j = g j
theorem plE.I {f g : Nat → Int32} (e : plE f g) (h : plI g) : plI f := by
  unfold plI
  rw [e 0 (by decide), e 1 (by decide), e 2 (by decide), e 3 (by decide), e 4 (by decide), e 5 (by decide), e 6 (by decide), e 7 (by decide), e 8 (by decide), e 9 (by decide)]
  exact h
theorem lsS_c {f g : Nat → Int32} (e : plE f g) : lsS f = lsS g := by
  unfold lsS
  rw [e 0 (by decide), e 2 (by decide), e 3 (by decide)]
theorem msS_c {f g : Nat → Int32} (e : plE f g) (b : Bool) : msS f b = msS g b := by
  unfold msS
  rw [e 0 (by decide), e 1 (by decide), e 2 (by decide), e 3 (by decide)]
theorem agS_c {a b : Int32} {x : Nat → Bool} (e : a = b) : ∀ k, agS a x k = agS b x k := fun k => by rw [e]
theorem lawS_c {f g : Nat → Int32} (e : plE f g) (b : Nat → Bool) (n : Nat) : lawS f b n = lawS g b n := by
  unfold lawS
  rw [e 9 (by decide)]
  congr 1
  funext k
  exact mgS_c (e 0 (by decide)) (e 7 (by decide)) (e 8 (by decide)) _ _
theorem sC.e {s : Nat → Int32} {h : Hp} (a : sC 1 s h) {p : Nat} (hp : p < 3) : plE (h.1 (6 + p)) (pfS s p) := fun j hj => a.f1 hp hj
theorem InL.f {dm rm : Nat} {s : Nat → Int32} (a : InL dm rm s) {p : Nat} (hp : p < nP s) : plI (pfS s p) := a.2.2.2.2.1 p hp
theorem ct_leastC {p dm rm : Nat} (h : Hp) (s : Nat → Int32) (a : sC 1 s h) (i : InL dm rm s) (hp : p < nP s) : CtI 0 mX3_least [.ref (6 + p)] h (pq (lsS (pfS s p)) h) := by
  have hP := i.o.hP
  rw [← lsS_c (a.e (by omega))]
  exact ct_least (isPl_6 p (by omega)) h
theorem ct_mostC {p dm rm : Nat} (b : Bool) (h : Hp) (s : Nat → Int32) (a : sC 1 s h) (i : InL dm rm s) (hp : p < nP s) : CtI 1 mX3_most [.ref (6 + p), .int (bI b)] h (pq (msS (pfS s p) b) h) := by
  have hP := i.o.hP
  have e := a.e (p := p) (by omega)
  obtain ⟨k, hk, e0⟩ := (i.f hp).1
  rw [← msS_c e, ← msC_eq hk ((e 0 (by decide)).trans e0)]
  exact ct_most (isPl_6 p (by omega)) b h
theorem ct_startC {p dm rm : Nat} (r : Int32) (h : Hp) (s : Nat → Int32) (a : sC 1 s h) (i : InL dm rm s) (hp : p < nP s) : CtI 2 mX3_startBehind [.ref (6 + p), .int r] h (pq (stS (pfS s p 0) (pfS s p 1) (pfS s p 6) r) h) := by
  have hP := i.o.hP
  have e := a.e (p := p) (by omega)
  obtain ⟨k, hk, e0⟩ := (i.f hp).1
  have := ct_startBehind (isPl_6 p (by omega)) r h
  rw [e 0 (by decide), e 1 (by decide), e 6 (by decide), e0, stC_eq _ _ _ k hk, ← e0] at this
  exact this
theorem ct_movedC {p dm rm : Nat} {x : Int32} (ha : aR 9 x) (on : Bool) (h : Hp) (s : Nat → Int32) (a : sC 1 s h) (i : InL dm rm s) (hp : p < nP s) : CtI 1 mX3_moved [.ref (6 + p), .int (clA x), .int (bI on)] h (pq (if mgS (pfS s p) x on then clA (goS x on) else 0) h) := by
  have hP := i.o.hP
  have e := a.e (p := p) (by omega)
  have := ct_moved (isPl_6 p (by omega)) (clA x) on h
  rw [mvC_c (e 0 (by decide)) (e 7 (by decide)) (e 8 (by decide)), mv_cl (i.f hp) ha] at this
  exact this
theorem ct_mayRunC {p dm rm : Nat} (row : Int32) (h : Hp) (s : Nat → Int32) (a : sC 1 s h) (i : InL dm rm s) (hp : p < nP s) : CtI 2 mX3_mayRun [.ref (6 + p), .int row, .int (nI (nH s))] h (pq (bI (lawS (pfS s p) (hasB row) (nH s))) h) := by
  have hP := i.o.hP
  have e := a.e (p := p) (by omega)
  rw [← lawS_c e]
  exact ct_mayRun (isPl_6 p (by omega)) i.o.hH row h (e.I (i.f hp))
theorem ct_figureOf {p k dm rm : Nat} (hk : k < 12) (h : Hp) (s : Nat → Int32) (a : sC 1 s h) (i : InL dm rm s) (hp : p < nP s) : CtI 2 mX3_figureOf [.ref (6 + p), .int (nI k)] h (pq (ofV s p (nI k)) h) := by
  have hP := i.o.hP
  have e := a.e (p := p) (by omega)
  have v : ∀ j, j < 10 → nI k = nI j → k ≠ 9 → h.1 (6 + p) j = ofV s p (nI k) := fun j hj ej n9 => by
    have ek : k = j := (nI_eq (by omega) (by omega)).mp ej
    subst ek
    have : ∀ k, k < 10 → k ≠ 9 → ¬ nI k = 10 ∧ ¬ nI k = 11 ∧ ¬ nI k = 9 := by decide
    obtain ⟨n1, n2, n3⟩ := this k hj n9
    rw [ofV, if_neg n1, if_neg n2, if_neg n3, nI_clamp (by omega), i32_add0]
    exact e k hj
  have nk : ∀ j, nI k = nI j → j < 12 → k = j := fun j ej hj => (nI_eq (by omega) (by omega)).mp ej
  refine e_X3_figureOf (isPl_6 p (by omega)) ⟨fun c => ⟨v 0 (by decide) c (fun z => ?_), rfl⟩, fun c0 => ⟨fun c => ⟨v 1 (by decide) c (fun z => ?_), rfl⟩, fun c1 => ⟨fun c => ⟨v 2 (by decide) c (fun z => ?_), rfl⟩, fun c2 => ⟨fun c => ⟨v 3 (by decide) c (fun z => ?_), rfl⟩, fun c3 => ⟨fun c => ⟨v 4 (by decide) c (fun z => ?_), rfl⟩, fun c4 => ⟨fun c => ⟨v 5 (by decide) c (fun z => ?_), rfl⟩, fun c5 => ⟨fun c => ⟨v 6 (by decide) c (fun z => ?_), rfl⟩, fun c6 => ⟨fun c => ⟨v 7 (by decide) c (fun z => ?_), rfl⟩, fun c7 => ⟨fun c => ⟨v 8 (by decide) c (fun z => ?_), rfl⟩, fun c8 => ⟨fun c => ⟨?_, rfl⟩, fun c9 => ⟨fun c => pc (ct_leastC h s a i hp) ⟨?_, rfl⟩, fun c10 => pc (ct_mostC true h s a i hp) ⟨?_, rfl⟩⟩⟩⟩⟩⟩⟩⟩⟩⟩⟩⟩
  · have := nk 0 c (by decide)
    omega
  · have := nk 1 c (by decide)
    omega
  · have := nk 2 c (by decide)
    omega
  · have := nk 3 c (by decide)
    omega
  · have := nk 4 c (by decide)
    omega
  · have := nk 5 c (by decide)
    omega
  · have := nk 6 c (by decide)
    omega
  · have := nk 7 c (by decide)
    omega
  · have := nk 8 c (by decide)
    omega
  · have ek := nk 9 c (by decide)
    subst ek
    rw [ofV, if_neg (by decide), if_neg (by decide), if_pos (by decide), e 9 (by decide)]
    rfl
  · rw [ofV, if_pos c]
  · have n0 : ∀ j, j < 11 → k = j → False := fun j hj ej => by
      subst ej
      match k, hj with
      | 0, _ => exact c0 rfl
      | 1, _ => exact c1 rfl
      | 2, _ => exact c2 rfl
      | 3, _ => exact c3 rfl
      | 4, _ => exact c4 rfl
      | 5, _ => exact c5 rfl
      | 6, _ => exact c6 rfl
      | 7, _ => exact c7 rfl
      | 8, _ => exact c8 rfl
      | 9, _ => exact c9 rfl
      | 10, _ => exact c10 rfl
    have ek : k = 11 := by
      by_cases z : k < 11
      · exact (n0 k z rfl).elim
      · omega
    subst ek
    rw [ofV, if_neg (by decide), if_pos (by decide)]
