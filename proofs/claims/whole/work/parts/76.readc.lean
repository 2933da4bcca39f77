/-! ===== the class: letters read ===== -/
/-- how the class's reading stands: place a among m letters f -/
def tcI (f : Nat → Int32) (m a : Nat) (h : Hp) : Prop := h.1 25 1 = nI m ∧ h.1 25 2 = nI a ∧ (∀ k, k < m → h.1 26 k = f k) ∧ a ≤ m ∧ m ≤ 120
theorem tcI.mv {f : Nat → Int32} {m a b : Nat} {h : Hp} (I : tcI f m a h) (hb : b ≤ m) : tcI f m b (ui h 25 2 (nI b)) := by
  obtain ⟨h1, h2, hf, ha, hm⟩ := I
  refine ⟨?_, ui_aa _ _ _ _, fun k hk => ?_, hb, hm⟩
  · rw [ui_nj (by decide)]
    exact h1
  · rw [ui_ne (by decide)]
    exact hf k hk
theorem tcI.n {f : Nat → Int32} {m a : Nat} {h : Hp} (I : tcI f m a h) (j : Nat) (x : Int32) : tcI f m a (ui h 27 j x) := by
  obtain ⟨h1, h2, hf, ha, hm⟩ := I
  refine ⟨?_, ?_, fun k hk => ?_, ha, hm⟩
  · rw [ui_ne (by decide)]
    exact h1
  · rw [ui_ne (by decide)]
    exact h2
  · rw [ui_ne (by decide)]
    exact hf k hk
theorem tcI.s {f : Nat → Int32} {m a : Nat} {h : Hp} (I : tcI f m a h) (x : Int32) : tcI f m a (ui h 25 3 x) := by
  obtain ⟨h1, h2, hf, ha, hm⟩ := I
  refine ⟨?_, ?_, fun k hk => ?_, ha, hm⟩
  · rw [ui_nj (by decide)]
    exact h1
  · rw [ui_nj (by decide)]
    exact h2
  · rw [ui_ne (by decide)]
    exact hf k hk
/-- what reading leaves as it is -/
def tcF (h g : Hp) : Prop := Fr [25, 27] h g ∧ ∀ j, j ≠ 2 → j ≠ 3 → g.1 25 j = h.1 25 j
theorem tcF.rf {h : Hp} : tcF h h := ⟨Fr.rf, fun _ _ _ => rfl⟩
theorem tcF.tr {h h1 h2 : Hp} (a : tcF h h1) (b : tcF h1 h2) : tcF h h2 := ⟨a.1.tr b.1, fun j x y => (b.2 j x y).trans (a.2 j x y)⟩
theorem tcF.u2 {h : Hp} (x : Int32) : tcF h (ui h 25 2 x) := ⟨Fr.ui (by decide), fun j a _ => ui_nj a⟩
theorem tcF.u3 {h : Hp} (x : Int32) : tcF h (ui h 25 3 x) := ⟨Fr.ui (by decide), fun j _ b => ui_nj b⟩
theorem tcF.u7 {h : Hp} (j : Nat) (x : Int32) : tcF h (ui h 27 j x) := ⟨Fr.ui (by decide), fun j _ _ => by rw [ui_ne (by decide)]⟩
theorem ct_hereC {f : Nat → Int32} {m a : Nat} (h : Hp) (I : tcI f m a h) : CtI 0 mX8_here [.ref 25] h (pq (heL f m a) h) := by
  obtain ⟨h1, h2, hf, ha, hm⟩ := I
  refine e_X8_here ?_
  rw [h1, h2, nI_leI (by omega) (by omega), nI_clamp (show a < 2 ^ 31 by omega)]
  refine ⟨fun c => absurd c (nI_pos (by omega)), fun _ => ⟨fun c => ⟨?_, rfl⟩, fun c => ⟨fun c2 => absurd c2 (nI_ge (b := 120) (by omega) (by omega)), fun _ => ⟨vp_in_nI (by omega) (by omega), ?_, rfl⟩⟩⟩⟩
  · rw [heL, if_neg (by omega)]
  · rw [heL, if_pos (by omega)]
    exact hf a (by omega)
theorem ct_isDigit {f : Nat → Int32} {m a : Nat} (h : Hp) (I : tcI f m a h) : CtI 1 mX8_isDigit [.ref 25] h (pq (bI (nuB f m a)) h) := by
  refine e_X8_isDigit (pc (ct_hereC h I) ⟨fun c => ⟨?_, rfl⟩, fun c => pc (ct_hereC h I) ⟨fun c2 => ⟨?_, rfl⟩, fun c2 => ⟨?_, rfl⟩⟩⟩)
  · rw [nuB, in_l (lt0 c)]
    rfl
  · rw [nuB, in_h (Int32.not_le.mpr c2)]
    rfl
  · rw [nuB, in_i (nlt0 c) (Int32.not_lt.mp c2)]
    rfl
/-- the class's state is the pure one -/
def tsI (f : Nat → Int32) (m : Nat) (p : Pst) (h : Hp) : Prop := tcI f m p.1 h ∧ h.1 27 = p.2.1 ∧ h.1 25 3 = p.2.2
theorem ct_readNumber {f : Nat → Int32} {m k : Nat} {p : Pst} (hk : k < 4) (h : Hp) (I : tsI f m p h) : CtI 2 mX8_readNumber [.ref 25, .int (nI k)] h (fun v g => v = bI (stB f m 0 p.1) ∧ tcF h g ∧ (stB f m 0 p.1 = true → tsI f m (stP f m 0 k p) g) ∧ (stB f m 0 p.1 = false → g = h)) := by
  obtain ⟨I1, I2, I3⟩ := I
  have e0 : stB f m 0 p.1 = nuB f m p.1 := rfl
  have v4 : vp_in (nI k) 4 := vp_in_nI (by omega) (by omega)
  have ck : (nI k).toNatClampNeg = k := nI_clamp (by omega)
  rw [e0]
  refine e_X8_readNumber (pc (ct_isDigit h I1) ⟨fun c => ?_, fun c => ?_⟩)
  · have nb := bI_t c
    have lt := nuB_lt nb
    refine pc (ct_hereC h I1) (fun g11 e11 => ?_)
    rw [I1.2.1, nI_1] at e11
    have J1 : tcI f m (p.1 + 1) g11 := by
      rw [e11]
      exact I1.mv (by omega)
    have F1 : tcF h g11 := by
      rw [e11]
      exact tcF.u2 _
    have n11 : g11.1 27 = p.2.1 := by rw [e11, ui_ne (by decide), I2]
    have s11 : g11.1 25 3 = p.2.2 := by rw [e11, ui_nj (by decide), I3]
    refine pc (ct_isDigit g11 J1) ⟨fun c2 => ⟨v4, fun g18 e18 => ?_⟩, fun c2 => pc (ct_hereC g11 J1) (fun g24 e24 => ⟨v4, fun g26 e26 => ?_⟩)⟩
    · have nb2 := bI_0.mp c2
      rw [ck] at e18
      refine ⟨by rw [nb]; rfl, ?_, fun _ => ⟨?_, ?_, ?_⟩, fun z => absurd z (by rw [nb]; decide)⟩
      · rw [e18]
        exact F1.tr (tcF.u7 _ _)
      · show tcI f m (nuA f m p.1) g18
        rw [nuA, if_neg (noF nb2), e18]
        exact J1.n _ _
      · show g18.1 27 = upd p.2.1 k (nuX f m p.1)
        rw [nuX, if_neg (noF nb2), e18, ui_up, n11]
      · rw [e18, ui_ne (by decide)]
        exact s11
    · have nb2 := bI_t c2
      have lt2 := nuB_lt nb2
      rw [J1.2.1, nI_1] at e24
      rw [ck] at e26
      have J2 : tcI f m (p.1 + 2) g24 := by
        rw [e24]
        exact J1.mv (by omega)
      refine ⟨by rw [nb]; rfl, ?_, fun _ => ⟨?_, ?_, ?_⟩, fun z => absurd z (by rw [nb]; decide)⟩
      · rw [e26, e24]
        exact (F1.tr (tcF.u2 _)).tr (tcF.u7 _ _)
      · show tcI f m (nuA f m p.1) g26
        rw [nuA, if_pos nb2, e26]
        exact J2.n _ _
      · show g26.1 27 = upd p.2.1 k (nuX f m p.1)
        rw [nuX, if_pos nb2, e26, ui_up, e24, ui_ne (by decide), n11]
      · rw [e26, ui_ne (by decide), e24, ui_nj (by decide)]
        exact s11
  · have nb := bI_0.mp c
    rw [nb]
    exact ⟨rfl, tcF.rf, fun z => absurd z (by decide), fun _ => rfl⟩
theorem ct_readSign {f : Nat → Int32} {m k : Nat} {p : Pst} (h : Hp) (I : tsI f m p h) : CtI 1 mX8_readSign [.ref 25] h (fun v g => v = bI (stB f m 1 p.1) ∧ tcF h g ∧ (stB f m 1 p.1 = true → tsI f m (stP f m 1 k p) g) ∧ (stB f m 1 p.1 = false → g = h)) := by
  obtain ⟨I1, I2, I3⟩ := I
  have e1 : stB f m 1 p.1 = decide (heL f m p.1 = 43 ∨ heL f m p.1 = 45) := rfl
  have fin : ∀ (x : Int32) (g23 g24 : Hp), stB f m 1 p.1 = true → x = (if heL f m p.1 = 45 then -1 else 1) → g23 = ui h 25 3 x → g24 = ui g23 25 2 ((g23.1 25 2) + 1) → (fun v g => v = bI (stB f m 1 p.1) ∧ tcF h g ∧ (stB f m 1 p.1 = true → tsI f m (stP f m 1 k p) g) ∧ (stB f m 1 p.1 = false → g = h)) (1 : Int32) g24 := by
    intro x g23 g24 sb ex e23 e24
    have lt := stB_lt (by decide) sb
    have J : tcI f m p.1 g23 := by
      rw [e23]
      exact I1.s _
    rw [J.2.1, nI_1] at e24
    refine ⟨by rw [sb]; rfl, ?_, fun _ => ⟨?_, ?_, ?_⟩, fun z => absurd z (by rw [sb]; decide)⟩
    · rw [e24, e23]
      exact (tcF.u3 _).tr (tcF.u2 _)
    · show tcI f m (p.1 + 1) g24
      rw [e24]
      exact J.mv (by omega)
    · show g24.1 27 = p.2.1
      rw [e24, ui_ne (by decide), e23, ui_ne (by decide), I2]
    · show g24.1 25 3 = if heL f m p.1 = 45 then -1 else 1
      rw [e24, ui_nj (by decide), e23, ui_aa, ex]
  refine e_X8_readSign (pc (ct_hereC h I1) ⟨fun c => pc (ct_hereC h I1) (fun g11 e11 g12 e12 => fin _ g11 g12 ?_ ?_ e11 e12), fun c => pc (ct_hereC h I1) ⟨fun c2 => pc (ct_hereC h I1) (fun g23 e23 g24 e24 => fin _ g23 g24 ?_ ?_ e23 e24), fun c2 => ?_⟩⟩)
  · rw [e1]
    exact decide_eq_true (Or.inl c)
  · rw [if_pos c, c, if_neg (by decide)]
  · rw [e1]
    exact decide_eq_true (Or.inr c2)
  · rw [if_neg c, if_pos c2]
  · have sb : stB f m 1 p.1 = false := by
      rw [e1]
      exact decide_eq_false (fun z => z.elim c c2)
    rw [sb]
    exact ⟨rfl, tcF.rf, fun z => absurd z (by decide), fun _ => rfl⟩
theorem ct_readLetter {f : Nat → Int32} {m k c : Nat} {p : Pst} (c0 : c ≠ 0) (c1 : c ≠ 1) (hc : c < 256) (h : Hp) (I : tsI f m p h) : CtI 1 mX8_readLetter [.ref 25, .int (nI c)] h (fun v g => v = bI (stB f m c p.1) ∧ tcF h g ∧ (stB f m c p.1 = true → tsI f m (stP f m c k p) g) ∧ (stB f m c p.1 = false → g = h)) := by
  obtain ⟨I1, I2, I3⟩ := I
  have e1 : stB f m c p.1 = decide (heL f m p.1 = nI c) := by
    unfold stB
    rw [if_neg c0, if_neg c1]
  have ep : stP f m c k p = (p.1 + 1, p.2) := by
    unfold stP
    rw [if_neg c0, if_neg c1]
  refine e_X8_readLetter (pc (ct_hereC h I1) ⟨fun d g6 e6 => ?_, fun d => ?_⟩)
  · have sb : stB f m c p.1 = true := by
      rw [e1]
      exact decide_eq_true d
    have lt := stB_lt hc sb
    rw [I1.2.1, nI_1] at e6
    rw [ep]
    refine ⟨by rw [sb]; rfl, ?_, fun _ => ⟨?_, ?_, ?_⟩, fun z => absurd z (by rw [sb]; decide)⟩
    · rw [e6]
      exact tcF.u2 _
    · show tcI f m (p.1 + 1) g6
      rw [e6]
      exact I1.mv (by omega)
    · rw [e6, ui_ne (by decide)]
      exact I2
    · rw [e6, ui_nj (by decide)]
      exact I3
  · have sb : stB f m c p.1 = false := by
      rw [e1]
      exact decide_eq_false d
    rw [sb]
    exact ⟨rfl, tcF.rf, fun z => absurd z (by decide), fun _ => rfl⟩
/-! shapes -/
def shL : Nat → List Nat
  | 0 => [0, 44, 0, 59]
  | 1 => [0, 61, 0, 44, 0, 59]
  | 2 => [0, 61, 0, 44, 0, 44, 0, 59]
  | 3 => [0, 1, 0, 59]
  | 4 => [0, 59]
  | _ => []
def toC (c : Nat) : Int32 := if c = 0 then 110 else if c = 1 then 63 else nI c
/-- how many numbers stand there -/
def nuC : List Nat → Nat
  | [] => 0
  | c :: l => (if c = 0 then 1 else 0) + nuC l
theorem sh_len : ∀ i, i < 6 → st_len.getD i 0 = (shL i).length ∧ (shL i).length ≤ 8 := by decide
theorem sh_at : ∀ i, i < 6 → ∀ k, k < 8 → k < (shL i).length → (st_byt.getD i []).getD k 0 = toC ((shL i).getD k 0) := by decide
theorem toC_f : ∀ c, c < 256 → ((((toC c) &&& 255).toUInt32 % 65536).toInt32 = toC c) ∧ (toC c).toUInt32.toUInt16.toUInt32.toInt32 = toC c ∧ (toC c = 110 ↔ c = 0 ∨ c = 110) ∧ (toC c = 63 ↔ c = 1 ∨ c = 63) := by decide +kernel
theorem sh_lt : ∀ i, i < 6 → ∀ c, c ∈ shL i → c = 0 ∨ c = 1 ∨ (c < 256 ∧ c ≠ 0 ∧ c ≠ 1 ∧ c ≠ 63 ∧ c ≠ 110) := by decide
theorem sh_nu : ∀ i, i < 6 → nuC (shL i) ≤ 4 := by decide
theorem ct_isLatin1 {i : Nat} (hi : i < 6) (h : Hp) : CtI 0 mJ0_isLatin1_aae02 [.ref (1000 + i)] h (pq 1 h) := e_J0_isLatin1_aae02 hi ⟨fun z => absurd z (by decide), fun _ => ⟨fun z => absurd rfl z, fun _ => ⟨rfl, rfl⟩⟩⟩
theorem ct_coder {i : Nat} (hi : i < 6) (h : Hp) : CtI 0 mJ0_coder_7d493 [.ref (1000 + i)] h (pq 0 h) := e_J0_coder_7d493 hi ⟨fun z => absurd z (by decide), fun _ => ⟨by decide, rfl, rfl⟩⟩
theorem ct_lengthS {i : Nat} (hi : i < 6) (h : Hp) : CtI 1 mJ0_length_8abf5 [.ref (1000 + i)] h (pq (nI (shL i).length) h) := by
  refine e_J0_length_8abf5 hi (pc (ct_coder hi h) ⟨?_, rfl⟩)
  rw [(sh_len i hi).1]
  exact sc_shr0 (by have := (sh_len i hi).2; omega)
theorem ct_isEmptyS {i : Nat} (hi : i < 6) (h : Hp) : CtI 0 mJ0_isEmpty_aae02 [.ref (1000 + i)] h (pq (bI (decide ((shL i).length = 0))) h) := by
  refine e_J0_isEmpty_aae02 hi ⟨?_, rfl⟩
  rw [(sh_len i hi).1]
  have := (sh_len i hi).2
  by_cases c : (shL i).length = 0
  · rw [decide_eq_true c, c]
    rfl
  · rw [decide_eq_false c, if_neg (nI_ne0 (by omega) (by omega))]
    rfl
theorem ct_checkIndex {k n : Nat} (hk : k < n) (hn : n < 2 ^ 31) (h : Hp) : CtV 1 mJ0_checkIndex_df160 [.int (nI k), .int (nI n)] h (fun g => g = h) := by
  refine e_J0_checkIndex_df160 ⟨_, e_J3_checkIndex_8e157 (Q := pq (nI k) h) ⟨fun c => absurd c (nI_pos (by omega)), fun _ => ⟨fun _ => ⟨rfl, rfl⟩, fun c => absurd (nI_lt hk hn) c⟩⟩, e_J3_checkIndex_null (Q := pq (nI k) h) ⟨fun c => absurd c (nI_pos (by omega)), fun _ => ⟨fun _ => ⟨rfl, rfl⟩, fun c => absurd (nI_lt hk hn) c⟩⟩, fun _ _ q => q.2⟩
theorem ct_charAtS {i k : Nat} (hi : i < 6) (hk : k < (shL i).length) (h : Hp) : CtI 4 mJ0_charAt_5068e [.ref (1000 + i), .int (nI k)] h (pq (toC ((shL i).getD k 0)) h) := by
  obtain ⟨l1, l2⟩ := sh_len i hi
  have cm : (shL i).getD k 0 ∈ shL i := by
    rw [List.getD_eq_getElem?_getD, List.getElem?_eq_getElem hk]
    exact List.getElem_mem hk
  have c256 : (shL i).getD k 0 < 256 := by
    rcases sh_lt i hi _ cm with e | e | e
    · omega
    · omega
    · exact e.1
  obtain ⟨t1, t2, -⟩ := toC_f _ c256
  have ea := sh_at i hi k (by omega) hk
  refine e_J0_charAt_5068e hi (pc (ct_isLatin1 hi h) ⟨fun z => absurd z (by decide), fun _ => ?_⟩)
  refine pc (e_J1_charAt_3b067 hi ?_) ⟨t2, rfl, rfl⟩
  rw [l1]
  refine ⟨_, ct_checkIndex hk (by omega) h, fun h4 q => ?_⟩
  subst q
  rw [nI_clamp (show k < 2 ^ 31 by omega), ea, t1]
  exact ⟨vp_in_nI (by omega) (by omega), t2, rfl, rfl⟩
/-! one statement -/
theorem ct_pieces {f : Nat → Int32} {m i : Nat} (hi : i < 6) (h0 : Hp) : ∀ (l : List Nat) (k j : Nat) (p : Pst) (h : Hp), (shL i).drop k = l → k ≤ (shL i).length → j + nuC l ≤ 4 → tsI f m p h → tcF h0 h → GoI 5 mX8_readOne 31 [(0, .ref 25), (1, .ref (1000 + i)), (2, .int (nI j)), (3, .int (nI k))] [] h (fun v g => v = bI (ruL f m l j p).1 ∧ tcF h0 g ∧ tsI f m (ruL f m l j p).2 g) := by
  intro l
  induction l with
  | nil =>
    intro k j p h el kl jn I F
    have hl := (sh_len i hi).2
    have ek : (shL i).length ≤ k := by
      have := congrArg List.length el
      rw [List.length_drop] at this
      simp at this
      omega
    refine b_X8_readOne_31 hi (pc (ct_lengthS hi h) ⟨fun _ => ⟨rfl, F, I⟩, fun c => absurd (nI_le ek (by omega)) c⟩)
  | cons c l ih =>
    intro k j p h el kl jn I F
    have hl := (sh_len i hi).2
    have ek : k < (shL i).length := by
      have := congrArg List.length el
      rw [List.length_drop] at this
      simp at this
      omega
    have e2 := List.drop_eq_getElem_cons ek
    rw [el] at e2
    injection e2 with e3 e4
    have cg : (shL i).getD k 0 = c := by
      rw [List.getD_eq_getElem?_getD, List.getElem?_eq_getElem ek, e3]
      rfl
    have cm : c ∈ shL i := by
      rw [e3]
      exact List.getElem_mem ek
    have c256 : c < 256 := by
      rcases sh_lt i hi _ cm with e | e | e
      · omega
      · omega
      · exact e.1
    obtain ⟨-, -, t3, t4⟩ := toC_f c c256
    have s99 : ∀ (j2 : Nat) (v : Int32) (g : Hp), j2 = (if c = 0 then j + 1 else j) → (v = bI (stB f m c p.1) ∧ tcF h g ∧ (stB f m c p.1 = true → tsI f m (stP f m c j p) g) ∧ (stB f m c p.1 = false → g = h)) → GoI 5 mX8_readOne 99 [(0, .ref 25), (1, .ref (1000 + i)), (2, .int (nI j2)), (3, .int (nI k)), (5, .int v)] [] g (fun v g => v = bI (ruL f m (c :: l) j p).1 ∧ tcF h0 g ∧ tsI f m (ruL f m (c :: l) j p).2 g) := by
      intro j2 v g ej q
      obtain ⟨q1, q2, q3, q4⟩ := q
      subst ej
      refine b_X8_readOne_99 hi ⟨fun d => ?_, fun d => ?_⟩
      · rw [q1] at d
        have sb := bI_t d
        rw [ruL_t sb, nI_1]
        refine ih (k + 1) _ _ g e4.symm (by omega) ?_ (q3 sb) (F.tr q2)
        rw [nuC] at jn
        by_cases y : c = 0
        · rw [if_pos y] at jn ⊢
          omega
        · rw [if_neg y] at jn ⊢
          omega
      · rw [q1] at d
        have sb := bI_0.mp d
        rw [ruL_f sb, q4 sb]
        exact ⟨rfl, F, I⟩
    refine b_X8_readOne_31 hi (pc (ct_lengthS hi h) ⟨fun d => absurd d (nI_ge ek (by omega)), fun _ => pc (ct_charAtS hi ek h) ?_⟩)
    rw [cg]
    refine ⟨fun d => ?_, fun d => ?_⟩
    · have n0 : c ≠ 0 := fun y => d (t3.mpr (Or.inl y))
      refine b_X8_readOne_75 hi ⟨fun d2 => ?_, fun d2 => ?_⟩
      · have n1 : c ≠ 1 := fun y => d2 (t4.mpr (Or.inl y))
        have et : toC c = nI c := by
          unfold toC
          rw [if_neg n0, if_neg n1]
        rw [et]
        exact ⟨_, ct_readLetter (k := j) n0 n1 c256 h I, fun v g q => s99 j v g (by rw [if_neg n0]) q⟩
      · have e1 : c = 1 := by
          rcases t4.mp d2 with y | y
          · exact y
          · rcases sh_lt i hi _ cm with e | e | e
            · omega
            · exact e
            · exact absurd y e.2.2.2.1
        subst e1
        exact ⟨_, ct_readSign (k := j) h I, fun v g q => s99 j v g rfl q⟩
    · have e0 : c = 0 := by
        rcases t3.mp d with y | y
        · exact y
        · rcases sh_lt i hi _ cm with e | e | e
          · exact e
          · omega
          · exact absurd y e.2.2.2.2
      subst e0
      rw [nuC, if_pos rfl] at jn
      refine ⟨fun d2 => absurd d2 (nI_ge (by omega) (by omega)), fun _ => ⟨_, ct_readNumber (k := j) (by omega) h I, fun v g q => ?_⟩⟩
      rw [nI_1]
      exact s99 (j + 1) v g (by rw [if_pos rfl]) q
/-- the shape of a letter's statement -/
def shI (c : Int32) : Nat := if c = 97 then 3 else if c = 99 then 2 else if c = 100 then 1 else if c = 103 then 1 else if c = 104 then 4 else if c = 112 then 0 else if c = 116 then 1 else 5
theorem ct_shapeOf (c : Int32) (h : Hp) : CtR 0 mX8_shapeOf [.int c] h (fun r g => r = 1000 + shI c ∧ g = h) := by
  refine e_X8_shapeOf ?_
  unfold shI
  refine ⟨fun c1 => ⟨by rw [if_pos c1], rfl⟩, fun c1 => ⟨fun c2 => ⟨by rw [if_neg c1, if_pos c2], rfl⟩, fun c2 => ⟨fun c3 => ⟨by rw [if_neg c1, if_neg c2, if_pos c3], rfl⟩, fun c3 => ⟨fun c4 => ⟨by rw [if_neg c1, if_neg c2, if_neg c3, if_pos c4], rfl⟩, fun c4 => ⟨fun c5 => ⟨by rw [if_neg c1, if_neg c2, if_neg c3, if_neg c4, if_pos c5], rfl⟩, fun c5 => ⟨fun c6 => ⟨by rw [if_neg c1, if_neg c2, if_neg c3, if_neg c4, if_neg c5, if_pos c6], rfl⟩, fun c6 => ⟨fun c7 => ⟨by rw [if_neg c1, if_neg c2, if_neg c3, if_neg c4, if_neg c5, if_neg c6, if_pos c7], rfl⟩, fun c7 => ⟨by rw [if_neg c1, if_neg c2, if_neg c3, if_neg c4, if_neg c5, if_neg c6, if_neg c7], rfl⟩⟩⟩⟩⟩⟩⟩⟩
theorem shI_f (c : Int32) : shI c < 6 ∧ (isSt c = true → shL (shI c) = 0 :: tlL c (moL c) 1 ∧ shI c < 5) ∧ (isSt c = false → shI c = 5) := by
  unfold isSt shI
  by_cases c1 : c = 97
  · subst c1
    decide
  · by_cases c2 : c = 99
    · subst c2
      decide
    · by_cases c3 : c = 100
      · subst c3
        decide
      · by_cases c4 : c = 103
        · subst c4
          decide
        · by_cases c5 : c = 104
          · subst c5
            decide
          · by_cases c6 : c = 112
            · subst c6
              decide
            · by_cases c7 : c = 116
              · subst c7
                decide
              · rw [if_neg c1, if_neg c2, if_neg c3, if_neg c4, if_neg c5, if_neg c6, if_neg c7]
                refine ⟨by decide, fun h => ?_, fun _ => rfl⟩
                rcases of_decide_eq_true h with e | e | e | e | e | e | e
                · exact absurd e c6
                · exact absurd e c4
                · exact absurd e c2
                · exact absurd e c7
                · exact absurd e c1
                · exact absurd e c3
                · exact absurd e c5
/-- a statement read, from whatever numbers stood there -/
def rdC (f : Nat → Int32) (m a : Nat) (nu : Nat → Int32) (sg : Int32) : Bool × Pst := if isSt (heL f m a) then ruL f m (0 :: tlL (heL f m a) (moL (heL f m a)) 1) 0 (a + 1, nu, sg) else (false, (a, nu, sg))
theorem ct_readOne {f : Nat → Int32} {m a : Nat} (h : Hp) (nu : Nat → Int32) (sg : Int32) (I : tcI f m a h) (en : h.1 27 = nu) (es : h.1 25 3 = sg) : CtI 5 mX8_readOne [.ref 25] h (fun v g => v = bI (rdC f m a nu sg).1 ∧ tcF h g ∧ tsI f m (rdC f m a nu sg).2 g) := by
  obtain ⟨s1, s2, s3⟩ := shI_f (heL f m a)
  refine e_X8_readOne (pc (ct_hereC h I) ⟨_, ct_shapeOf _ h, fun v8 h9 q => ?_⟩)
  obtain ⟨q1, q2⟩ := q
  subst q2
  refine ⟨shI (heL f m a), ⟨s1, q1⟩, pc (ct_isEmptyS s1 h9) ⟨fun c => ?_, fun c => ?_⟩⟩
  · have ne := of_decide_eq_false (bI_0.mp c)
    have st : isSt (heL f m a) = true := by
      cases y : isSt (heL f m a)
      · exact absurd (by rw [s3 y]; rfl) ne
      · rfl
    have lt := isSt_lt st
    obtain ⟨s4, s5⟩ := s2 st
    intro g18 e18
    rw [I.2.1, nI_1] at e18
    have J : tcI f m (a + 1) g18 := by
      rw [e18]
      exact I.mv (by omega)
    have er : rdC f m a nu sg = ruL f m (shL (shI (heL f m a))) 0 (a + 1, nu, sg) := by
      rw [s4]
      exact if_pos st
    rw [er]
    have nn := sh_nu _ s1
    refine ct_pieces s1 h9 (shL (shI (heL f m a))) 0 0 (a + 1, nu, sg) g18 rfl (by omega) (by omega) ⟨J, ?_, ?_⟩ ?_
    · rw [e18, ui_ne (by decide)]
      exact en
    · rw [e18, ui_nj (by decide)]
      exact es
    · rw [e18]
      exact tcF.u2 _
  · have em := of_decide_eq_true (bI_t c)
    have st : isSt (heL f m a) = false := by
      cases y : isSt (heL f m a)
      · rfl
      · rw [(s2 y).1] at em
        exact absurd em (by simp)
    have er : rdC f m a nu sg = (false, (a, nu, sg)) := by
      unfold rdC
      rw [st]
      rfl
    rw [er]
    exact ⟨rfl, tcF.rf, I, en, es⟩
