/-! ===== letters read as statements: plain functions; the reference's reading ===== -/
/-- the letter at a place; -1 behind the end -/
def heL (f : Nat → Int32) (m a : Nat) : Int32 := if a < m then f a else -1
/-- place, numbers, sign -/
abbrev Pst : Type := Nat × (Nat → Int32) × Int32
/-- a number stands there; the place behind it; which -/
def nuB (f : Nat → Int32) (m a : Nat) : Bool := inR (heL f m a) 48 57
def nuA (f : Nat → Int32) (m a : Nat) : Nat := if nuB f m (a + 1) then a + 2 else a + 1
def nuX (f : Nat → Int32) (m a : Nat) : Int32 := if nuB f m (a + 1) then 10 * (heL f m a - 48) + heL f m (a + 1) - 48 else heL f m a - 48
/-- a piece: 0 a number, 1 a sign, else that letter -/
def stB (f : Nat → Int32) (m c a : Nat) : Bool := if c = 0 then nuB f m a else if c = 1 then decide (heL f m a = 43 ∨ heL f m a = 45) else decide (heL f m a = nI c)
def stP (f : Nat → Int32) (m c k : Nat) (p : Pst) : Pst := if c = 0 then (nuA f m p.1, upd p.2.1 k (nuX f m p.1), p.2.2) else if c = 1 then (p.1 + 1, p.2.1, if heL f m p.1 = 45 then -1 else 1) else (p.1 + 1, p.2)
def ruL (f : Nat → Int32) (m : Nat) : List Nat → Nat → Pst → Bool × Pst
  | [], _, p => (true, p)
  | c :: l, k, p => if stB f m c p.1 then ruL f m l (if c = 0 then k + 1 else k) (stP f m c k p) else (false, p)
theorem ruL_n (f : Nat → Int32) (m : Nat) (k : Nat) (p : Pst) : ruL f m [] k p = (true, p) := rfl
theorem ruL_t {f : Nat → Int32} {m c k : Nat} {l : List Nat} {p : Pst} (h : stB f m c p.1 = true) : ruL f m (c :: l) k p = ruL f m l (if c = 0 then k + 1 else k) (stP f m c k p) := if_pos h
theorem ruL_f {f : Nat → Int32} {m c k : Nat} {l : List Nat} {p : Pst} (h : stB f m c p.1 = false) : ruL f m (c :: l) k p = (false, p) := if_neg (by rw [h]; decide)
theorem heL_lt {f : Nat → Int32} {m a : Nat} (h : ¬ heL f m a = -1) : a < m := by
  unfold heL at h
  by_cases c : a < m
  · exact c
  · rw [if_neg c] at h
    exact absurd rfl h
theorem nuB_lt {f : Nat → Int32} {m a : Nat} (h : nuB f m a = true) : a < m := heL_lt (fun e => by
  unfold nuB at h
  rw [e] at h
  exact absurd h (by decide))
theorem m1_nI {c : Nat} (hc : c < 2 ^ 31) : ¬ (-1 : Int32) = nI c := fun e => nI_pos hc (by rw [← e]; decide)
theorem stB_lt {f : Nat → Int32} {m c a : Nat} (hc : c < 256) (h : stB f m c a = true) : a < m := by
  unfold stB at h
  by_cases c0 : c = 0
  · rw [if_pos c0] at h
    exact nuB_lt h
  · rw [if_neg c0] at h
    by_cases c1 : c = 1
    · rw [if_pos c1] at h
      refine heL_lt (f := f) (fun e => ?_)
      rw [e] at h
      exact absurd h (by decide)
    · rw [if_neg c1] at h
      refine heL_lt (f := f) (fun e => ?_)
      rw [e] at h
      exact m1_nI (by omega) (of_decide_eq_true h)
theorem stP_up {f : Nat → Int32} {m c k : Nat} {p : Pst} (hc : c < 256) (h : stB f m c p.1 = true) : p.1 < (stP f m c k p).1 ∧ (stP f m c k p).1 ≤ m := by
  have l := stB_lt hc h
  unfold stP
  by_cases c0 : c = 0
  · rw [if_pos c0]
    show p.1 < nuA f m p.1 ∧ nuA f m p.1 ≤ m
    unfold nuA
    by_cases d : nuB f m (p.1 + 1) = true
    · have := nuB_lt d
      rw [if_pos d]
      omega
    · rw [if_neg d]
      omega
  · rw [if_neg c0]
    by_cases c1 : c = 1
    · rw [if_pos c1]
      show p.1 < p.1 + 1 ∧ p.1 + 1 ≤ m
      omega
    · rw [if_neg c1]
      show p.1 < p.1 + 1 ∧ p.1 + 1 ≤ m
      omega
theorem ruL_up {f : Nat → Int32} {m : Nat} : ∀ (l : List Nat) (k : Nat) (p : Pst), (∀ c, c ∈ l → c < 256) → p.1 ≤ m → p.1 ≤ (ruL f m l k p).2.1 ∧ (ruL f m l k p).2.1 ≤ m
  | [], _, p, _, h => ⟨Nat.le_refl _, h⟩
  | c :: l, k, p, hl, h => by
    cases hb : stB f m c p.1 with
    | false =>
      rw [ruL_f hb]
      exact ⟨Nat.le_refl _, h⟩
    | true =>
      obtain ⟨u1, u2⟩ := stP_up (k := k) (hl c (List.mem_cons_self ..)) hb
      obtain ⟨v1, v2⟩ := ruL_up (f := f) l (if c = 0 then k + 1 else k) (stP f m c k p) (fun x hx => hl x (List.mem_cons_of_mem _ hx)) u2
      rw [ruL_t hb]
      exact ⟨by omega, v2⟩
/-- how many numbers come behind the first; what stands ahead of number k -/
def moL (c : Int32) : Nat := if c = 104 then 0 else if c = 112 then 1 else if c = 97 then 1 else if c = 99 then 3 else 2
def sqL (c : Int32) (k : Nat) : Nat := if k = 1 then (if c = 97 then 1 else if c = 112 then 44 else 61) else 44
def tlL (c : Int32) : Nat → Nat → List Nat
  | 0, _ => [59]
  | n + 1, k => sqL c k :: 0 :: tlL c n (k + 1)
theorem sqL_lt (c : Int32) (k : Nat) : sqL c k < 256 := by
  unfold sqL
  split
  · split
    · decide
    · split <;> decide
  · decide
theorem tlL_lt (c : Int32) : ∀ n k x, x ∈ tlL c n k → x < 256
  | 0, k, x, h => by
    rcases List.mem_cons.mp h with e | e
    · omega
    · cases e
  | n + 1, k, x, h => by
    rcases List.mem_cons.mp h with e | e
    · rw [e]
      exact sqL_lt c k
    · rcases List.mem_cons.mp e with e | e
      · omega
      · exact tlL_lt c n (k + 1) x e
/-- a statement begins with that letter -/
def isSt (c : Int32) : Bool := decide (c = 112 ∨ c = 103 ∨ c = 99 ∨ c = 116 ∨ c = 97 ∨ c = 100 ∨ c = 104)
/-- a statement read at a place -/
def rdL (f : Nat → Int32) (m a : Nat) : Bool × Pst := if isSt (heL f m a) then ruL f m (0 :: tlL (heL f m a) (moL (heL f m a)) 1) 0 (a + 1, fun _ => 0, 1) else (false, (a, fun _ => 0, 1))
theorem isSt_lt {f : Nat → Int32} {m a : Nat} (h : isSt (heL f m a) = true) : a < m := heL_lt (fun e => by
  rw [e] at h
  exact absurd h (by decide))
theorem rdL_up {f : Nat → Int32} {m a : Nat} (h : a ≤ m) : a ≤ (rdL f m a).2.1 ∧ (rdL f m a).2.1 ≤ m ∧ ((rdL f m a).1 = true → a < (rdL f m a).2.1) := by
  cases hb : isSt (heL f m a) with
  | false =>
    have e : rdL f m a = (false, (a, fun _ => 0, 1)) := by
      unfold rdL
      rw [hb]
      rfl
    rw [e]
    exact ⟨Nat.le_refl _, h, fun z => by cases z⟩
  | true =>
    have l := isSt_lt hb
    have e : rdL f m a = ruL f m (0 :: tlL (heL f m a) (moL (heL f m a)) 1) 0 (a + 1, fun _ => 0, 1) := by
      unfold rdL
      exact if_pos hb
    rw [e]
    obtain ⟨v1, v2⟩ := ruL_up (f := f) (m := m) (0 :: tlL (heL f m a) (moL (heL f m a)) 1) 0 (a + 1, fun _ => 0, 1) (fun x hx => by
      rcases List.mem_cons.mp hx with z | z
      · omega
      · exact tlL_lt _ _ _ x z) (show a + 1 ≤ m by omega)
    exact ⟨by have : a + 1 ≤ _ := v1; omega, v2, fun _ => v1⟩
theorem ui_ui (h : Hp) (k i : Nat) (v x : Int32) : ui (ui h k i v) k i x = ui h k i x := by
  refine Prod.ext (funext fun a => funext fun j => ?_) rfl
  rw [ui_get, ui_get, ui_get]
  by_cases c : a = k ∧ j = i
  · rw [if_pos c, if_pos c]
  · rw [if_neg c, if_neg c, if_neg c]
theorem ui_com (h : Hp) {k k2 : Nat} (hk : k ≠ k2) (i j : Nat) (v x : Int32) : ui (ui h k i v) k2 j x = ui (ui h k2 j x) k i v := by
  refine Prod.ext (funext fun a => funext fun b => ?_) rfl
  rw [ui_get, ui_get, ui_get, ui_get]
  by_cases c : a = k2 ∧ b = j
  · rw [if_pos c, if_neg (fun z => hk (z.1.symm.trans c.1)), if_pos c]
  · rw [if_neg c, if_neg c]
/-- how the reference's reading stands: place a among m letters f -/
def teI (f : Nat → Int32) (m a : Nat) (h : Hp) : Prop := h.1 113 26 = nI m ∧ h.1 113 27 = nI a ∧ h.1 134 = f ∧ a ≤ m ∧ m ≤ 120
theorem ct_here {f : Nat → Int32} {m a : Nat} (h : Hp) (I : teI f m a h) : CtI 0 mX11_here [.ref 113] h (pq (heL f m a) h) := by
  obtain ⟨h26, h27, hf, ha, hm⟩ := I
  refine e_X11_here ?_
  rw [h26, h27, hf, nI_leI (by omega) (by omega), nI_clamp (show a < 2 ^ 31 by omega)]
  refine ⟨fun c => ⟨?_, rfl⟩, fun c => ⟨vp_in_nI (by omega) (by omega), ?_, rfl⟩⟩
  · rw [heL, if_neg (by omega)]
  · rw [heL, if_pos (by omega)]
theorem teI.mv {f : Nat → Int32} {m a b : Nat} {h : Hp} (I : teI f m a h) (hb : b ≤ m) : teI f m b (ui h 113 27 (nI b)) := by
  obtain ⟨h26, h27, hf, ha, hm⟩ := I
  refine ⟨?_, ui_aa _ _ _ _, ?_, hb, hm⟩
  · rw [ui_nj (by decide)]
    exact h26
  · rw [ui_ne (by decide)]
    exact hf
theorem teI.ne {f : Nat → Int32} {m a k j : Nat} {x : Int32} {h : Hp} (I : teI f m a h) (h1 : k ≠ 113) (h2 : k ≠ 134) : teI f m a (ui h k j x) := by
  obtain ⟨h26, h27, hf, ha, hm⟩ := I
  refine ⟨?_, ?_, ?_, ha, hm⟩
  · rw [ui_ne (Ne.symm h1)]
    exact h26
  · rw [ui_ne (Ne.symm h1)]
    exact h27
  · rw [ui_ne (Ne.symm h2)]
    exact hf
theorem teI.nj {f : Nat → Int32} {m a j : Nat} {x : Int32} {h : Hp} (I : teI f m a h) (h1 : j ≠ 26) (h2 : j ≠ 27) : teI f m a (ui h 113 j x) := by
  obtain ⟨h26, h27, hf, ha, hm⟩ := I
  refine ⟨?_, ?_, ?_, ha, hm⟩
  · rw [ui_nj (Ne.symm h1)]
    exact h26
  · rw [ui_nj (Ne.symm h2)]
    exact h27
  · rw [ui_ne (by decide)]
    exact hf
theorem ct_takes {f : Nat → Int32} {m a : Nat} (x : Int32) (h : Hp) (I : teI f m a h) : CtI 1 mX11_takes [.ref 113, .int x] h (fun v h' => v = bI (decide (heL f m a = x)) ∧ h' = if heL f m a = x then ui h 113 27 (nI (a + 1)) else h) := by
  refine e_X11_takes (pc (ct_here h I) ⟨fun c g e => ⟨?_, ?_⟩, fun c => ⟨?_, ?_⟩⟩)
  · rw [decide_eq_true c]
    rfl
  · rw [if_pos c, e, I.2.1, nI_1]
  · rw [decide_eq_false c]
    rfl
  · rw [if_neg c]
theorem ct_takesNumber {f : Nat → Int32} {m a k : Nat} (hk : k < 4) (h : Hp) (I : teI f m a h) : CtI 1 mX11_takesNumber [.ref 113, .int (nI k)] h (fun v h' => v = bI (nuB f m a) ∧ h' = if nuB f m a then ui (ui h 135 k (nuX f m a)) 113 27 (nI (nuA f m a)) else h) := by
  have vi : vp_in (nI k) 4 := vp_in_nI hk (by omega)
  refine e_X11_takesNumber (pc (ct_here h I) (pc (ct_isInI _ 48 57 h) ⟨fun c => pc (ct_here h I) ⟨vi, fun g17 e17 g18 e18 => ?_⟩, fun c => ?_⟩))
  · have b1 : nuB f m a = true := bI_t c
    have lt := nuB_lt b1
    have cl : (nI k).toNatClampNeg = k := nI_clamp (by omega)
    rw [cl] at e17
    rw [e17, ui_ne (by decide), I.2.1, nI_1, ← e17] at e18
    have I18 : teI f m (a + 1) g18 := by
      rw [e18, e17]
      exact (I.ne (by decide) (by decide)).mv (by omega)
    rw [if_pos b1]
    refine pc (ct_here g18 I18) (pc (ct_isInI _ 48 57 g18) ⟨fun c2 => ⟨?_, ?_⟩, fun c2 => ⟨vi, pc (ct_here g18 I18) ⟨vi, fun g36 e36 g37 e37 => ⟨?_, ?_⟩⟩⟩⟩)
    · rw [b1]
      rfl
    · have b2 : ¬ nuB f m (a + 1) = true := by
        unfold nuB
        rw [bI_0.mp c2]
        decide
      rw [nuX, nuA, if_neg b2, if_neg b2, e18, e17]
    · rw [b1]
      rfl
    · have b2 : nuB f m (a + 1) = true := bI_t c2
      rw [nuX, nuA, if_pos b2, if_pos b2]
      rw [cl] at e36
      have e2 : g18.1 135 k = heL f m a - 48 := by rw [e18, ui_ne (by decide), e17, ui_aa]
      rw [e2] at e36
      have e3 : g36.1 113 27 = nI (a + 1) := by rw [e36, ui_ne (by decide)]; exact I18.2.1
      rw [e3, nI_1] at e37
      rw [e37, e36, e18, e17, ui_com _ (show 113 ≠ 135 by decide), ui_ui, ui_ui]
  · have b1 : nuB f m a = false := bI_0.mp c
    refine ⟨?_, ?_⟩
    · rw [b1]
      rfl
    · rw [if_neg (by rw [b1]; decide)]
theorem ct_moreOf (c : Int32) (h : Hp) : CtI 0 mX11_moreOf [.int c] h (pq (nI (moL c)) h) := by
  refine e_X11_moreOf ⟨fun c1 => ⟨fun c2 => ⟨?_, rfl⟩, fun c2 => ⟨fun c3 => ⟨fun c4 => ⟨?_, rfl⟩, fun c4 => ⟨?_, rfl⟩⟩, fun c3 => ⟨?_, rfl⟩⟩⟩, fun c1 => ⟨?_, rfl⟩⟩
  · rw [moL, if_neg c1, if_pos c2]
    rfl
  · rw [moL, if_neg c1, if_neg c2, if_neg c3, if_neg c4]
    rfl
  · rw [moL, if_neg c1, if_neg c2, if_neg c3, if_pos c4]
    rfl
  · rw [moL, if_neg c1, if_neg c2, if_pos c3]
    rfl
  · rw [moL, if_pos c1]
    rfl
/-- nothing but the reading's place, its letter, its sign and its numbers changed -/
def teF (h g : Hp) : Prop := Fr [113, 135] h g ∧ ∀ i, i ≠ 27 → i ≠ 28 → i ≠ 29 → g.1 113 i = h.1 113 i
theorem teF.rf {h : Hp} : teF h h := ⟨Fr.rf, fun _ _ _ _ => rfl⟩
theorem teF.tr {h h1 h2 : Hp} (a : teF h h1) (b : teF h1 h2) : teF h h2 := ⟨a.1.tr b.1, fun i x y z => (b.2 i x y z).trans (a.2 i x y z)⟩
theorem teF.u {h : Hp} {j : Nat} {x : Int32} (hj : j = 27 ∨ j = 28 ∨ j = 29) : teF h (ui h 113 j x) := ⟨Fr.ui (by decide), fun i a b c => ui_nj (by omega)⟩
theorem teF.n {h : Hp} {j : Nat} {x : Int32} : teF h (ui h 135 j x) := ⟨Fr.ui (by decide), fun i _ _ _ => by rw [ui_ne (by decide)]⟩
/-- the sign, or what else stands ahead of the second number -/
theorem ct_takesSign {f : Nat → Int32} {m a : Nat} {c : Int32} (h : Hp) (I : teI f m a h) (h28 : h.1 113 28 = c) : CtI 2 mX11_takesSign [.ref 113] h (fun v g => v = bI (stB f m (sqL c 1) a) ∧ teF h g ∧ g.1 135 = h.1 135 ∧ g.1 113 28 = c ∧ teI f m (if stB f m (sqL c 1) a then a + 1 else a) g ∧ (c = 97 → stB f m (sqL c 1) a = true → g.1 113 29 = if heL f m a = 45 then -1 else 1)) := by
  refine e_X11_takesSign ?_
  rw [h28]
  refine ⟨fun c1 => ?_, fun c1 => ?_⟩
  · have eq : sqL c 1 = if c = 112 then 44 else 61 := by
      unfold sqL
      rw [if_pos rfl, if_neg c1]
    have ex : (if c = 112 then (44 : Int32) else 61) = nI (sqL c 1) := by
      rw [eq]
      split <;> rfl
    have n0 : sqL c 1 ≠ 0 ∧ sqL c 1 ≠ 1 := by
      rw [eq]
      split <;> decide
    have eb : stB f m (sqL c 1) a = decide (heL f m a = nI (sqL c 1)) := by
      unfold stB
      rw [if_neg n0.1, if_neg n0.2]
    rw [ex]
    refine ic (ct_takes (nI (sqL c 1)) h I) ⟨bI_and _, ?_⟩
    rw [eb]
    by_cases d : heL f m a = nI (sqL c 1)
    · have lt : a < m := heL_lt (fun e => m1_nI (show sqL c 1 < 2 ^ 31 by have := sqL_lt c 1; omega) (by rw [← e]; exact d))
      rw [decide_eq_true d, if_pos d, if_pos rfl]
      refine ⟨rfl, teF.u (Or.inl rfl), by rw [ui_ne (by decide)], by rw [ui_nj (by decide)]; exact h28, I.mv (by omega), fun z => absurd z c1⟩
    · rw [decide_eq_false d, if_neg d, if_neg (by decide)]
      exact ⟨rfl, teF.rf, rfl, h28, I, fun z => absurd z c1⟩
  · have eq : sqL c 1 = 1 := by
      unfold sqL
      rw [if_pos rfl, if_pos c1]
    have eb : stB f m (sqL c 1) a = decide (heL f m a = 43 ∨ heL f m a = 45) := by
      rw [eq]
      rfl
    rw [eb]
    refine pc (ct_here h I) (fun g e => ?_)
    have I12 : teI f m a g := by
      rw [e]
      exact I.nj (by decide) (by decide)
    have f12 : teF h g := by
      rw [e]
      exact teF.u (Or.inr (Or.inr rfl))
    have a28 : g.1 113 28 = c := by
      rw [e, ui_nj (by decide)]
      exact h28
    have a29 : g.1 113 29 = if heL f m a = 45 then -1 else 1 := by rw [e, ui_aa]
    have a135 : g.1 135 = h.1 135 := by rw [e, ui_ne (by decide)]
    have mv : ∀ x : Int32, heL f m a = x → ¬ x = -1 → teF h (ui g 113 27 (nI (a + 1))) ∧ (ui g 113 27 (nI (a + 1))).1 135 = h.1 135 ∧ (ui g 113 27 (nI (a + 1))).1 113 28 = c ∧ teI f m (a + 1) (ui g 113 27 (nI (a + 1))) ∧ (ui g 113 27 (nI (a + 1))).1 113 29 = if heL f m a = 45 then -1 else 1 := by
      intro x hx nx
      have lt : a < m := heL_lt (by rw [hx]; exact nx)
      exact ⟨f12.tr (teF.u (Or.inl rfl)), by rw [ui_ne (by decide)]; exact a135, by rw [ui_nj (by decide)]; exact a28, I12.mv (by omega), by rw [ui_nj (by decide)]; exact a29⟩
    refine ic (ct_takes 43 g I12) ⟨fun c2 => ?_, fun c2 => ic (ct_takes 45 _ (a := a) (f := f) (m := m) ?_) ⟨fun c3 => ?_, fun c3 => ?_⟩⟩
    · have d := of_decide_eq_true (bI_t c2)
      obtain ⟨b1, b2, b3, b4, b5⟩ := mv 43 d (by decide)
      rw [if_pos d, decide_eq_true (Or.inl d), if_pos rfl]
      exact ⟨rfl, b1, b2, b3, b4, fun _ _ => b5⟩
    · have d := of_decide_eq_false (bI_0.mp c2)
      rw [if_neg d]
      exact I12
    · have d := of_decide_eq_false (bI_0.mp c2)
      have d2 := of_decide_eq_false (bI_0.mp c3)
      rw [if_neg d2, if_neg d, decide_eq_false (fun z => z.elim d d2), if_neg (by decide)]
      exact ⟨rfl, f12, a135, a28, I12, fun _ z => by cases z⟩
    · have d := of_decide_eq_false (bI_0.mp c2)
      have d2 := of_decide_eq_true (bI_t c3)
      obtain ⟨b1, b2, b3, b4, b5⟩ := mv 45 d2 (by decide)
      rw [if_pos d2, if_neg d, decide_eq_true (Or.inr d2), if_pos rfl]
      exact ⟨rfl, b1, b2, b3, b4, fun _ _ => b5⟩
/-- k numbers are read -/
def rtI (f : Nat → Int32) (m : Nat) (c : Int32) (k : Nat) (p : Pst) (h g : Hp) : Prop := teF h g ∧ teI f m p.1 g ∧ g.1 113 28 = c ∧ (∀ j, j < k → g.1 135 j = p.2.1 j)
/-- what reading gives -/
def rtQ (f : Nat → Int32) (m : Nat) (c : Int32) (r : Bool × Pst) (h : Hp) : Int32 → Hp → Prop := fun v g => v = bI r.1 ∧ teF h g ∧ teI f m r.2.1 g ∧ (r.1 = true → g.1 113 28 = c ∧ (∀ j, j ≤ moL c → g.1 135 j = r.2.2.1 j) ∧ (c = 97 → g.1 113 29 = r.2.2.2))
theorem rtQ_f {f : Nat → Int32} {m : Nat} {c : Int32} {p : Pst} {h g : Hp} (t : teF h g) (I : teI f m p.1 g) : rtQ f m c (false, p) h 0 g := ⟨rfl, t, I, fun z => by cases z⟩
set_option maxHeartbeats 4000000 in
theorem ct_reads {f : Nat → Int32} {m a : Nat} (h : Hp) (I : teI f m a h) : CtI 3 mX11_reads [.ref 113] h (rtQ f m (heL f m a) (rdL f m a) h) := by
  have hm := I.2.2.2.2
  refine e_X11_reads (pc (ct_here h I) (fun g6 e6 => ?_))
  have I6 : teI f m a g6 := by
    rw [e6]
    exact I.nj (by decide) (by decide)
  have f6 : teF h g6 := by
    rw [e6]
    exact teF.u (Or.inr (Or.inl rfl))
  have a28 : g6.1 113 28 = heL f m a := by rw [e6, ui_aa]
  rw [a28]
  have s73 : isSt (heL f m a) = true → GoI 3 mX11_reads 73 [(0, .ref 113)] [] g6 (rtQ f m (heL f m a) (rdL f m a) h) := by
    intro is
    have lt := isSt_lt is
    have er : rdL f m a = ruL f m (0 :: tlL (heL f m a) (moL (heL f m a)) 1) 0 (a + 1, fun _ => 0, 1) := if_pos is
    rw [er]
    have hmo : moL (heL f m a) ≤ 3 := by
      unfold moL
      split
      · decide
      · split
        · decide
        · split
          · decide
          · split <;> decide
    generalize heL f m a = c at *
    refine b_X11_reads_73 (fun g1 e1 => ?_)
    rw [I6.2.1, nI_1] at e1
    have I1 : teI f m (a + 1) g1 := by
      rw [e1]
      exact I6.mv (by omega)
    have f1 : teF h g1 := by
      rw [e1]
      exact f6.tr (teF.u (Or.inl rfl))
    have b28 : g1.1 113 28 = c := by
      rw [e1, ui_nj (by decide)]
      exact a28
    -- the numbers behind the first
    have lp : ∀ n k : Nat, n + k = moL c + 1 → 1 ≤ k → ∀ (p : Pst) (g : Hp), rtI f m c k p h g → (c = 97 → 2 ≤ k → g.1 113 29 = p.2.2) → ruL f m (tlL c n k) k p = ruL f m (0 :: tlL c (moL c) 1) 0 (a + 1, fun _ => 0, 1) → GoI 3 mX11_reads 95 [(0, .ref 113), (1, .int (nI k))] [] g (rtQ f m c (ruL f m (0 :: tlL c (moL c) 1) 0 (a + 1, fun _ => 0, 1)) h) := by
      intro n
      induction n with
      | zero =>
        intro k hk k1 p g R sg er
        obtain ⟨r1, r2, r3, r4⟩ := R
        rw [← er, tlL]
        have eb : stB f m 59 p.1 = decide (heL f m p.1 = 59) := rfl
        refine b_X11_reads_95 (pc (ct_moreOf _ g) ⟨fun _ => ic (ct_takes 59 g r2) ⟨bI_and _, ?_⟩, fun c2 => absurd ?_ c2⟩)
        · by_cases d : heL f m p.1 = 59
          · have lt2 : p.1 < m := heL_lt (by rw [d]; decide)
            have bt : stB f m 59 p.1 = true := by rw [eb, decide_eq_true d]
            rw [ruL_t bt, ruL_n, if_pos d, decide_eq_true d]
            refine ⟨rfl, r1.tr (teF.u (Or.inl rfl)), r2.mv (show p.1 + 1 ≤ m by omega), fun _ => ⟨?_, fun j hj => ?_, fun c97 => ?_⟩⟩
            · rw [ui_nj (by decide)]
              exact r3
            · rw [ui_ne (by decide)]
              exact r4 j (by omega)
            · rw [ui_nj (by decide)]
              refine sg c97 ?_
              have : moL c = 1 := by rw [c97]; decide
              omega
          · have bf : stB f m 59 p.1 = false := by rw [eb, decide_eq_false d]
            rw [ruL_f bf, if_neg d, decide_eq_false d]
            exact rtQ_f r1 r2
        · rw [r3]
          exact nI_lt (by omega) (by omega)
      | succ n ih =>
        intro k hk k1 p g R sg er
        obtain ⟨r1, r2, r3, r4⟩ := R
        rw [tlL] at er
        have s124 : ∀ (g2 : Hp) (p2 : Pst), stB f m (sqL c k) p.1 = true → rtI f m c k p2 h g2 → (c = 97 → g2.1 113 29 = p2.2.2) → ruL f m (0 :: tlL c n (k + 1)) k p2 = ruL f m (0 :: tlL c (moL c) 1) 0 (a + 1, fun _ => 0, 1) → GoI 3 mX11_reads 124 [(0, .ref 113), (1, .int (nI k))] [.int 1] g2 (rtQ f m c (ruL f m (0 :: tlL c (moL c) 1) 0 (a + 1, fun _ => 0, 1)) h) := by
          intro g2 p2 bt R2 sg2 er2
          obtain ⟨r1, r2, r3, r4⟩ := R2
          refine b_X11_reads_124 ⟨fun z => absurd z (by decide), fun _ => ic (ct_takesNumber (k := k) (by omega) g2 r2) ⟨fun c2 => ?_, fun c2 => ?_⟩⟩
          · have nb : nuB f m p2.1 = true := bI_t c2
            have bt : stB f m 0 p2.1 = true := nb
            have up := stP_up (k := k) (p := p2) (by decide) bt
            rw [ruL_t bt, if_pos rfl] at er2
            rw [if_pos nb, nI_1]
            refine ih (k + 1) (by omega) (by omega) (stP f m 0 k p2) _ ⟨r1.tr (teF.n.tr (teF.u (Or.inl rfl))), (r2.ne (by decide) (by decide)).mv up.2, ?_, fun j hj => ?_⟩ (fun c97 _ => ?_) er2
            · rw [ui_nj (by decide), ui_ne (by decide)]
              exact r3
            · rw [ui_ne (by decide), ui_get]
              show _ = upd p2.2.1 k (nuX f m p2.1) j
              by_cases y : j = k
              · rw [if_pos ⟨rfl, y⟩, y, upd_at]
              · rw [if_neg (fun z => y z.2), upd_ne _ _ y]
                exact r4 j (by omega)
            · rw [ui_nj (by decide), ui_ne (by decide)]
              exact sg2 c97
          · have nb : nuB f m p2.1 = false := bI_0.mp c2
            have bf : stB f m 0 p2.1 = false := nb
            rw [ruL_f bf] at er2
            rw [← er2, nb]
            exact rtQ_f r1 r2
        have f124 : ∀ (g2 : Hp), stB f m (sqL c k) p.1 = false → teF h g2 → teI f m p.1 g2 → GoI 3 mX11_reads 124 [(0, .ref 113), (1, .int (nI k))] [.int 0] g2 (rtQ f m c (ruL f m (0 :: tlL c (moL c) 1) 0 (a + 1, fun _ => 0, 1)) h) := by
          intro g2 bf t2 i2
          rw [ruL_f bf] at er
          rw [← er]
          exact b_X11_reads_124 ⟨fun _ => rtQ_f t2 i2, fun z => absurd rfl z⟩
        refine b_X11_reads_95 (pc (ct_moreOf _ g) ⟨fun c2 => absurd c2 ?_, fun _ => ⟨fun c2 => ?_, fun c2 => ?_⟩⟩)
        · rw [r3]
          exact nI_nlt (by omega) (by omega)
        · have k2 : k ≠ 1 := fun e => c2 (by rw [e]; rfl)
          have eq : sqL c k = 44 := by
            unfold sqL
            rw [if_neg k2]
          have eb : stB f m (sqL c k) p.1 = decide (heL f m p.1 = 44) := by
            rw [eq]
            rfl
          refine ic (ct_takes 44 g r2) ?_
          by_cases d : heL f m p.1 = 44
          · have lt2 : p.1 < m := heL_lt (by rw [d]; decide)
            have bt : stB f m (sqL c k) p.1 = true := by rw [eb, decide_eq_true d]
            rw [ruL_t bt] at er
            rw [if_pos d, decide_eq_true d]
            have eP : stP f m (sqL c k) k p = (p.1 + 1, p.2) := by
              rw [eq]
              rfl
            rw [eP, if_neg (by rw [eq]; decide)] at er
            refine s124 _ (p.1 + 1, p.2) bt ⟨r1.tr (teF.u (Or.inl rfl)), r2.mv (by omega), ?_, fun j hj => ?_⟩ (fun c97 => ?_) er
            · rw [ui_nj (by decide)]
              exact r3
            · rw [ui_ne (by decide)]
              exact r4 j hj
            · rw [ui_nj (by decide)]
              exact sg c97 (by omega)
          · have bf : stB f m (sqL c k) p.1 = false := by rw [eb, decide_eq_false d]
            rw [if_neg d, decide_eq_false d]
            exact f124 _ bf r1 r2
        · have k2 : k = 1 := (nI_eq (b := 1) (by omega) (by omega)).mp c2
          subst k2
          refine ⟨_, ct_takesSign g r2 r3, fun v g2 q => ?_⟩
          obtain ⟨q1, q2, q3, q4, q5, q6⟩ := q
          rw [q1]
          cases hb : stB f m (sqL c 1) p.1 with
          | false =>
            rw [hb, if_neg (by decide)] at q5
            exact f124 g2 hb (r1.tr q2) q5
          | true =>
            rw [hb, if_pos rfl] at q5
            rw [ruL_t hb] at er
            have n0 : sqL c 1 ≠ 0 := by
              unfold sqL
              rw [if_pos rfl]
              split
              · decide
              · split <;> decide
            rw [if_neg n0] at er
            have eP : (stP f m (sqL c 1) 1 p).1 = p.1 + 1 ∧ (stP f m (sqL c 1) 1 p).2.1 = p.2.1 := by
              unfold stP
              rw [if_neg n0]
              split <;> exact ⟨rfl, rfl⟩
            refine s124 g2 (stP f m (sqL c 1) 1 p) hb ⟨r1.tr q2, by rw [eP.1]; exact q5, q4, fun j hj => ?_⟩ (fun c97 => ?_) er
            · rw [q3, eP.2]
              exact r4 j hj
            · rw [q6 c97 hb]
              have : sqL c 1 = 1 := by rw [c97]; rfl
              rw [this]
              rfl
    refine ic (ct_takesNumber (k := 0) (by decide) g1 I1) ⟨fun c2 => ?_, fun c2 => ?_⟩
    · have nb : nuB f m (a + 1) = true := bI_t c2
      have bt : stB f m 0 (a + 1) = true := nb
      have up := stP_up (f := f) (m := m) (c := 0) (k := 0) (p := (a + 1, fun _ => 0, 1)) (by decide) bt
      rw [if_pos nb]
      refine lp (moL c) 1 rfl (by decide) (stP f m 0 0 (a + 1, fun _ => 0, 1)) _ ⟨f1.tr (teF.n.tr (teF.u (Or.inl rfl))), (I1.ne (by decide) (by decide)).mv up.2, ?_, fun j hj => ?_⟩ (fun _ z => by omega) ?_
      · rw [ui_nj (by decide), ui_ne (by decide)]
        exact b28
      · have j0 : j = 0 := by omega
        subst j0
        rw [ui_ne (by decide), ui_aa]
        rfl
      · exact (ruL_t (f := f) (m := m) (c := 0) (k := 0) (p := (a + 1, fun _ => 0, 1)) bt).symm
    · have nb : nuB f m (a + 1) = false := bI_0.mp c2
      have bf : stB f m 0 (a + 1) = false := nb
      rw [ruL_f (p := (a + 1, fun _ => 0, 1)) bf, nb]
      exact rtQ_f f1 I1
  refine ⟨fun c => s73 ?_, fun c1 => ⟨fun c => s73 ?_, fun c2 => ⟨fun c => s73 ?_, fun c3 => ⟨fun c => s73 ?_, fun c4 => ⟨fun c => s73 ?_, fun c5 => ⟨fun c => s73 ?_, fun c6 => ⟨fun c => s73 ?_, fun c7 => ?_⟩⟩⟩⟩⟩⟩⟩
  · exact decide_eq_true (Or.inl c)
  · exact decide_eq_true (Or.inr (Or.inl c))
  · exact decide_eq_true (Or.inr (Or.inr (Or.inl c)))
  · exact decide_eq_true (Or.inr (Or.inr (Or.inr (Or.inl c))))
  · exact decide_eq_true (Or.inr (Or.inr (Or.inr (Or.inr (Or.inl c)))))
  · exact decide_eq_true (Or.inr (Or.inr (Or.inr (Or.inr (Or.inr (Or.inl c))))))
  · exact decide_eq_true (Or.inr (Or.inr (Or.inr (Or.inr (Or.inr (Or.inr c))))))
  · have is : isSt (heL f m a) = false := decide_eq_false (fun z => z.elim c1 (fun z => z.elim c2 (fun z => z.elim c3 (fun z => z.elim c4 (fun z => z.elim c5 (fun z => z.elim c6 c7))))))
    have er : rdL f m a = (false, (a, fun _ => 0, 1)) := if_neg (by rw [is]; decide)
    rw [er]
    exact rtQ_f f6 I6
