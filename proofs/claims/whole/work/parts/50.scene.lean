/-! ===== the class: a scene's row; refusals; what is there ===== -/
/-- where number i of the row lies in a scene -/
def po0 (i : Nat) : Nat × Nat := if i = 0 then (0, 0) else if i = 1 then (0, 6) else if i = 2 then (0, 7) else if i = 3 then (0, 5) else if i < 9 then (1, i - 4) else if i < 14 then (2, i - 9) else if i < 19 then (3, i - 14) else (5 + (i - 19) / 10, (i - 19) % 10)
/-- the scene at cell b holds the row s -/
def sC (b : Nat) (s : Nat → Int32) (h : Hp) : Prop := ∀ i, i < 49 → h.1 (b + (po0 i).1) (po0 i).2 = s i
theorem po0_inj : ∀ i, i < 49 → ∀ j, j < 49 → (po0 i).1 = (po0 j).1 → (po0 i).2 = (po0 j).2 → i = j := by decide +kernel
theorem po0_c : ∀ i, i < 49 → (po0 i).1 ∈ [0, 1, 2, 3, 5, 6, 7] := by decide +kernel
theorem po0_d : ∀ t, t < 5 → po0 (4 + t) = (1, t) ∧ po0 (9 + t) = (2, t) ∧ po0 (14 + t) = (3, t) := by decide +kernel
theorem po0_f : ∀ p, p < 3 → ∀ j, j < 10 → po0 (19 + 10 * p + j) = (5 + p, j) := by decide +kernel
/-- a scene's cells -/
def cS (b : Nat) : List Nat := [b, b + 1, b + 2, b + 3, b + 5, b + 6, b + 7]
theorem cS_in (b : Nat) {i : Nat} (hi : i < 49) : b + (po0 i).1 ∈ cS b := by
  have := po0_c i hi
  generalize (po0 i).1 = x at this
  simp only [cS, List.mem_cons, List.not_mem_nil, or_false] at this ⊢
  omega
theorem sC.fr {b : Nat} {s : Nat → Int32} {X : List Nat} {h g : Hp} (a : sC b s h) (f : Fr X h g) (hx : ∀ k, k ∈ cS b → k ∉ X) : sC b s g := fun i hi => by
  rw [f.1 _ (hx _ (cS_in b hi))]
  exact a i hi
theorem sC.up {b : Nat} {s : Nat → Int32} {h : Hp} (a : sC b s h) {i : Nat} (hi : i < 49) (x : Int32) : sC b (upd s i x) (ui h (b + (po0 i).1) (po0 i).2 x) := fun j hj => by
  rw [ui_get]
  by_cases e : j = i
  · subst e
    rw [if_pos ⟨rfl, rfl⟩, upd_at]
  · rw [if_neg (fun z => e (po0_inj j hj i hi (by omega) z.2)), upd_ne _ _ e]
    exact a j hj
theorem sC.H {b : Nat} {s : Nat → Int32} {h : Hp} (a : sC b s h) : h.1 b 0 = s 0 := (a 0 (by decide) : h.1 (b + 0) 0 = s 0)
theorem sC.M {b : Nat} {s : Nat → Int32} {h : Hp} (a : sC b s h) : h.1 b 5 = s 3 := (a 3 (by decide) : h.1 (b + 0) 5 = s 3)
theorem sC.mr {b : Nat} {s : Nat → Int32} {h : Hp} (a : sC b s h) : h.1 b 6 = s 1 := (a 1 (by decide) : h.1 (b + 0) 6 = s 1)
theorem sC.st {b : Nat} {s : Nat → Int32} {h : Hp} (a : sC b s h) : h.1 b 7 = s 2 := (a 2 (by decide) : h.1 (b + 0) 7 = s 2)
theorem sC.d {b : Nat} {s : Nat → Int32} {h : Hp} (a : sC b s h) {t : Nat} (ht : t < 5) : h.1 (b + 1) t = s (4 + t) := by
  have := a (4 + t) (by omega)
  rw [(po0_d t ht).1] at this
  exact this
theorem sC.r {b : Nat} {s : Nat → Int32} {h : Hp} (a : sC b s h) {t : Nat} (ht : t < 5) : h.1 (b + 2) t = s (9 + t) := by
  have := a (9 + t) (by omega)
  rw [(po0_d t ht).2.1] at this
  exact this
theorem sC.p {b : Nat} {s : Nat → Int32} {h : Hp} (a : sC b s h) {t : Nat} (ht : t < 5) : h.1 (b + 3) t = s (14 + t) := by
  have := a (14 + t) (by omega)
  rw [(po0_d t ht).2.2] at this
  exact this
theorem sC.f {b : Nat} {s : Nat → Int32} {h : Hp} (a : sC b s h) {p : Nat} (hp : p < 3) {j : Nat} (hj : j < 10) : h.1 (b + 5 + p) j = pfS s p j := by
  have := a (19 + 10 * p + j) (by omega)
  rw [po0_f p hp j hj] at this
  rw [show b + 5 + p = b + (5 + p) by omega]
  exact this
theorem sC.f1 {s : Nat → Int32} {h : Hp} (a : sC 1 s h) {p : Nat} (hp : p < 3) {j : Nat} (hj : j < 10) : h.1 (6 + p) j = pfS s p j := a.f hp hj
theorem sC.uH {b : Nat} {s : Nat → Int32} {h : Hp} (a : sC b s h) (x : Int32) : sC b (upd s 0 x) (ui h b 0 x) := a.up (i := 0) (by decide) x
theorem sC.uM {b : Nat} {s : Nat → Int32} {h : Hp} (a : sC b s h) (x : Int32) : sC b (upd s 3 x) (ui h b 5 x) := a.up (i := 3) (by decide) x
theorem sC.umr {b : Nat} {s : Nat → Int32} {h : Hp} (a : sC b s h) (x : Int32) : sC b (upd s 1 x) (ui h b 6 x) := a.up (i := 1) (by decide) x
theorem sC.ust {b : Nat} {s : Nat → Int32} {h : Hp} (a : sC b s h) (x : Int32) : sC b (upd s 2 x) (ui h b 7 x) := a.up (i := 2) (by decide) x
theorem sC.ud {b : Nat} {s : Nat → Int32} {h : Hp} (a : sC b s h) {t : Nat} (ht : t < 5) (x : Int32) : sC b (upd s (4 + t) x) (ui h (b + 1) t x) := by
  have := a.up (i := 4 + t) (by omega) x
  rw [(po0_d t ht).1] at this
  exact this
theorem sC.ur {b : Nat} {s : Nat → Int32} {h : Hp} (a : sC b s h) {t : Nat} (ht : t < 5) (x : Int32) : sC b (upd s (9 + t) x) (ui h (b + 2) t x) := by
  have := a.up (i := 9 + t) (by omega) x
  rw [(po0_d t ht).2.1] at this
  exact this
theorem sC.upr {b : Nat} {s : Nat → Int32} {h : Hp} (a : sC b s h) {t : Nat} (ht : t < 5) (x : Int32) : sC b (upd s (14 + t) x) (ui h (b + 3) t x) := by
  have := a.up (i := 14 + t) (by omega) x
  rw [(po0_d t ht).2.2] at this
  exact this
theorem sC.uf {s : Nat → Int32} {h : Hp} (a : sC 1 s h) {p : Nat} (hp : p < 3) {j : Nat} (hj : j < 10) (x : Int32) : sC 1 (upd s (19 + 10 * p + j) x) (ui h (6 + p) j x) := by
  have := a.up (i := 19 + 10 * p + j) (by omega) x
  rw [po0_f p hp j hj] at this
  rw [show 6 + p = 1 + (5 + p) by omega]
  exact this
/-! ===== bounds of a row ===== -/
def plI (f : Nat → Int32) : Prop := (∃ k : Nat, k < 6 ∧ f 0 = nI k) ∧ (∃ k : Nat, k < 10 ∧ f 1 = nI k) ∧ (∃ a b : Nat, a ≤ b ∧ a ≤ 30 ∧ b ≤ 60 ∧ f 2 = nI a ∧ f 3 = nI b) ∧ (∃ k : Nat, k ≤ 9 ∧ f 4 = nI k) ∧ (∃ k : Nat, k ≤ 30 ∧ f 5 = nI k) ∧ (∃ k : Nat, k ≤ 50 ∧ f 6 = nI k) ∧ (∃ k : Nat, 1 ≤ k ∧ k ≤ 3 ∧ f 7 = nI k) ∧ (∃ k : Nat, 1 ≤ k ∧ k ≤ 3 ∧ f 8 = nI k) ∧ (-4 ≤ (f 9).toInt ∧ (f 9).toInt ≤ 4 ∧ ¬ f 9 = 0)
/-- demands up to dm, reserves up to rm -/
def InL (dm rm : Nat) (s : Nat → Int32) : Prop := OKs s ∧ (∀ t, t < 5 → (∃ k : Nat, k ≤ dm ∧ s (4 + t) = nI k) ∧ (∃ k : Nat, k ≤ rm ∧ s (9 + t) = nI k) ∧ (∃ k : Nat, k ≤ 99 ∧ s (14 + t) = nI k)) ∧ (∃ k : Nat, k ≤ 2 ∧ s 1 = nI k) ∧ (∃ k : Nat, k ≤ 9 ∧ s 2 = nI k) ∧ (∀ p, p < nP s → plI (pfS s p)) ∧ 1 ≤ nH s
abbrev InS (s : Nat → Int32) : Prop := InL 99 20 s
theorem InL.o {dm rm : Nat} {s : Nat → Int32} (a : InL dm rm s) : OKs s := a.1
/-! ===== refusals ===== -/
def noC (h : Hp) (n : Nat) : Hp := ui h 68 n (h.1 68 n + 1)
theorem rf_neg : ∀ n, n < 7 → n ≠ 0 → ¬ (0 ≤ -nI n) ∧ ¬ (-nI n < -6) ∧ -nI n < 0 := by decide
theorem isW_neg {w : Int32} (hw : isW w) (h0 : ¬ w = 0) : w < 0 := by
  obtain ⟨n, hn, e⟩ := hw
  subst e
  exact (rf_neg n hn (fun z => h0 (by rw [z]; rfl))).2.2
theorem ct_refuse {w : Int32} (hw : isW w) (h0 : ¬ w = 0) (h : Hp) : CtI 0 mX10_refuse [.ref 0, .int w] h (fun v h' => v = w ∧ h' = noC h (-w).toNatClampNeg) := by
  obtain ⟨n, hn, e⟩ := hw
  subst e
  have n0 : n ≠ 0 := fun z => h0 (by rw [z]; rfl)
  obtain ⟨a, b, -⟩ := rf_neg n hn n0
  obtain ⟨c, d⟩ := neg_lit n hn
  exact e_X10_refuse ⟨fun z => absurd z a, fun _ => ⟨fun z => absurd z b, fun _ => ⟨c, c, fun g3 e3 => ⟨rfl, e3⟩⟩⟩⟩
theorem ct_refuseL {w : Int32} (hw : isW w) (h0 : ¬ w = 0) (h : Hp) : CtL 1 mX10_refuseLong [.ref 0, .int w] h (fun v h' => v = 4000000000000000000 - w.toInt64 ∧ h' = noC h (-w).toNatClampNeg) :=
  e_X10_refuseLong ⟨_, ct_refuse hw h0 h, fun v h4 q => ⟨by rw [q.1], q.2⟩⟩
/-- taken where w is 0, else told with nothing changed -/
def okc (w : Int32) (h : Hp) (A : Int32 → Hp → Prop) : Int32 → Hp → Prop := fun v h' => (w = 0 → A v h') ∧ (¬ w = 0 → v = w ∧ h' = h)
theorem okc_t {w : Int32} {h : Hp} {A : Int32 → Hp → Prop} {v : Int32} {h' : Hp} (hw : w = 0) (k : A v h') : okc w h A v h' := ⟨fun _ => k, fun e => absurd hw e⟩
theorem okc_f {w : Int32} {h : Hp} {A : Int32 → Hp → Prop} {x : Int32} (hw : w = x) (hx : ¬ x = 0) : okc w h A x h := ⟨fun e => absurd (hw.symm.trans e) hx, fun _ => ⟨hw.symm, rfl⟩⟩
/-- taken where w is 0, else refused -/
def okx (w : Int32) (h : Hp) (A : Int32 → Hp → Prop) : Int32 → Hp → Prop := fun v h' => (w = 0 → A v h') ∧ (¬ w = 0 → v = w ∧ h' = noC h (-w).toNatClampNeg)
theorem okx_t {w : Int32} {h : Hp} {A : Int32 → Hp → Prop} {v : Int32} {h' : Hp} (hw : w = 0) (k : A v h') : okx w h A v h' := ⟨fun _ => k, fun e => absurd hw e⟩
theorem okx_f {w : Int32} {h : Hp} {A : Int32 → Hp → Prop} {x v : Int32} {h' : Hp} (hw : w = x) (hx : ¬ x = 0) (q : v = x ∧ h' = noC h (-x).toNatClampNeg) : okx w h A v h' := by
  subst hw
  exact ⟨fun e => absurd e hx, fun _ => q⟩
def okxL (w : Int32) (h : Hp) (A : Int64 → Hp → Prop) : Int64 → Hp → Prop := fun v h' => (w = 0 → A v h') ∧ (¬ w = 0 → v = 4000000000000000000 - w.toInt64 ∧ h' = noC h (-w).toNatClampNeg)
theorem okxL_t {w : Int32} {h : Hp} {A : Int64 → Hp → Prop} {v : Int64} {h' : Hp} (hw : w = 0) (k : A v h') : okxL w h A v h' := ⟨fun _ => k, fun e => absurd hw e⟩
theorem okxL_f {w : Int32} {h : Hp} {A : Int64 → Hp → Prop} {x : Int32} {v : Int64} {h' : Hp} (hw : w = x) (hx : ¬ x = 0) (q : v = 4000000000000000000 - x.toInt64 ∧ h' = noC h (-x).toNatClampNeg) : okxL w h A v h' := by
  subst hw
  exact ⟨fun e => absurd e hx, fun _ => q⟩
/-- a refusal out of hand -/
theorem rfx {w x : Int32} {h : Hp} {A : Int32 → Hp → Prop} (ew : w = x) (hw : isW x) (h0 : ¬ x = 0) : ∃ Q, CtI 0 mX10_refuse [.ref 0, .int x] h Q ∧ ∀ v h', Q v h' → okx w h A v h' := ⟨_, ct_refuse hw h0 h, fun v h' q => okx_f ew h0 q⟩
theorem rfxL {w x : Int32} {h : Hp} {A : Int64 → Hp → Prop} (ew : w = x) (hw : isW x) (h0 : ¬ x = 0) : ∃ Q, CtL 1 mX10_refuseLong [.ref 0, .int x] h Q ∧ ∀ v h', Q v h' → okxL w h A v h' := ⟨_, ct_refuseL hw h0 h, fun v h' q => okxL_f ew h0 q⟩
theorem ct_counted {w v : Int32} {h h4 : Hp} {A : Int32 → Hp → Prop} (hw : isW w) (hA : ∀ v g, A v g → ¬ v < 0) (q : okc w h A v h4) : CtI 1 mX10_counted [.ref 0, .int v] h4 (okx w h A) := by
  by_cases c : w = 0
  · have k := q.1 c
    have nn := hA _ _ k
    exact e_X10_counted ⟨fun _ => okx_t c k, fun z => absurd (Int32.not_lt.mp nn) z⟩
  · obtain ⟨e1, e2⟩ := q.2 c
    subst e1
    subst e2
    have ng := isW_neg hw c
    exact e_X10_counted ⟨fun z => absurd ng (Int32.not_lt.mpr z), fun _ => ⟨_, ct_refuse hw c _, fun v h' q => okx_f rfl c q⟩⟩
/-! ===== hours, plants ===== -/
theorem inR_lt {n : Nat} (hn : n ≤ 20) (x : Int32) : inR x 0 (nI n - 1) = decide (¬ x < 0 ∧ x < nI n) := by
  unfold inR
  refine decide_eq_decide.mpr ?_
  have e := nIm1 n (by omega)
  have z : (0 : Int32).toInt = 0 := by decide
  rw [Int32.le_iff_toInt_le, Int32.le_iff_toInt_le, Int32.lt_iff_toInt_lt, Int32.lt_iff_toInt_lt, e, nI_toInt (by omega), z]
  omega
theorem bI_not (b : Bool) : bI (!b) = if b then 0 else 1 := by cases b <;> rfl
theorem ct_noHour (x : Int32) (h : Hp) (s : Nat → Int32) (a : sC 1 s h) (o : OKs s) : CtI 0 mX5_noHour [.ref 1, .int x] h (pq (bI (!inR x 0 (s 0 - 1))) h) := by
  have hH := o.hH
  have e : inR x 0 (s 0 - 1) = decide (¬ x < 0 ∧ x < s 0) := by rw [o.eH]; exact inR_lt (by omega) x
  refine e_X5_noHour ?_
  rw [a.H, e]
  refine ⟨fun c => ⟨?_, rfl⟩, fun c => ⟨fun c2 => ⟨?_, rfl⟩, fun c2 => ⟨?_, rfl⟩⟩⟩
  · rw [decide_eq_false (fun z => z.1 c)]
    rfl
  · rw [decide_eq_true ⟨c, c2⟩]
    rfl
  · rw [decide_eq_false (fun z => c2 z.2)]
    rfl
theorem ct_noPlant (x : Int32) (h : Hp) (s : Nat → Int32) (a : sC 1 s h) (o : OKs s) : CtI 0 mX5_noPlant [.ref 1, .int x] h (pq (bI (!inR x 0 (s 3 - 1))) h) := by
  have hP := o.hP
  have e : inR x 0 (s 3 - 1) = decide (¬ x < 0 ∧ x < s 3) := by rw [o.eP]; exact inR_lt (by omega) x
  refine e_X5_noPlant ?_
  rw [a.M, e]
  refine ⟨fun c => ⟨?_, rfl⟩, fun c => ⟨fun c2 => ⟨?_, rfl⟩, fun c2 => ⟨?_, rfl⟩⟩⟩
  · rw [decide_eq_false (fun z => z.1 c)]
    rfl
  · rw [decide_eq_true ⟨c, c2⟩]
    rfl
  · rw [decide_eq_false (fun z => c2 z.2)]
    rfl
/-- not there: the answer 1; there: 0 -/
theorem nb_0 {b : Bool} : bI (!b) = 0 ↔ b = true := by cases b <;> decide
theorem nb_1 {b : Bool} : ¬ bI (!b) = 0 ↔ b = false := by cases b <;> decide
theorem noF {b : Bool} (h : b = false) : ¬ b = true := by rw [h]; decide
theorem ct_demandOfAll (h : Hp) (s : Nat → Int32) (a : sC 1 s h) (o : OKs s) : CtI 0 mX5_demandOfAll [.ref 1] h (pq (sumI (fun t => s (4 + t)) (nH s)) h) := by
  have hH := o.hH
  have lp : ∀ n t : Nat, n + t = nH s → GoI 0 mX5_demandOfAll 4 [(0, .ref 1), (1, .int (sumI (fun t => s (4 + t)) t)), (2, .int (nI t))] [] h (pq (sumI (fun t => s (4 + t)) (nH s)) h) := by
    intro n
    induction n with
    | zero =>
      intro t ht
      have ht : t = nH s := by omega
      subst ht
      refine b_X5_demandOfAll_4 ⟨fun _ => ⟨rfl, rfl⟩, fun c => absurd ?_ c⟩
      rw [a.H, o.eH]
      exact nI_le (by omega) (by omega)
    | succ n ih =>
      intro t ht
      have ih2 := ih (t + 1) (by omega)
      refine b_X5_demandOfAll_4 ⟨fun c => absurd c ?_, fun _ => ?_⟩
      · rw [a.H, o.eH]
        exact nI_ge (by omega) (by omega)
      · rw [nI_clamp (show t < 2 ^ 31 by omega), nI_1, a.d (by omega)]
        exact ⟨vp_in_nI (by omega) (by omega), ih2⟩
  exact e_X5_demandOfAll (lp (nH s) 0 rfl)
/-! ===== copies ===== -/
/-- the first n of g over f -/
def cpF (f g : Nat → Int32) (n : Nat) : Nat → Int32 := fun j => if j < n then g j else f j
theorem cpF_0 (f g : Nat → Int32) : cpF f g 0 = f := funext fun j => if_neg (by omega)
theorem cpF_up (f g : Nat → Int32) (n : Nat) : upd (cpF f g n) n (g n) = cpF f g (n + 1) := by
  funext j
  by_cases e : j = n
  · subst e
    rw [upd_at]
    exact (if_pos (by omega)).symm
  · rw [upd_ne _ _ e]
    unfold cpF
    by_cases e2 : j < n
    · rw [if_pos e2, if_pos (by omega)]
    · rw [if_neg e2, if_neg (by omega)]
theorem cp_st {a b n : Nat} (hab : a ≠ b) {f gg : Nat → Int32} {g g1 : Hp} (e : g1 = ui g a n (g.1 b n)) (ea : g.1 a = cpF f gg n) (eb : g.1 b = gg) : g1.1 a = cpF f gg (n + 1) ∧ g1.1 b = gg := by
  subst e
  refine ⟨?_, ?_⟩
  · rw [ui_up, ea, eb]
    exact cpF_up f gg n
  · rw [ui_ne (Ne.symm hab)]
    exact eb
theorem ct_copyPl {a b : Nat} (ha : isPl a) (hb : isPl b) (hab : a ≠ b) (h : Hp) : CtV 0 mX3_copyFrom [.ref a, .ref b] h (fun h' => Fr [a] h h' ∧ ∀ j, j < 10 → h'.1 a j = h.1 b j) := by
  refine e_X3_copyFrom ha hb (fun g1 e1 g2 e2 g3 e3 g4 e4 g5 e5 g6 e6 g7 e7 g8 e8 g9 e9 g10 e10 => ?_)
  have s1 := cp_st hab e1 (cpF_0 _ _).symm rfl
  have s2 := cp_st hab e2 s1.1 s1.2
  have s3 := cp_st hab e3 s2.1 s2.2
  have s4 := cp_st hab e4 s3.1 s3.2
  have s5 := cp_st hab e5 s4.1 s4.2
  have s6 := cp_st hab e6 s5.1 s5.2
  have s7 := cp_st hab e7 s6.1 s6.2
  have s8 := cp_st hab e8 s7.1 s7.2
  have s9 := cp_st hab e9 s8.1 s8.2
  have s10 := cp_st hab e10 s9.1 s9.2
  have m : a ∈ [a] := List.mem_cons_self ..
  refine ⟨?_, fun j hj => ?_⟩
  · rw [e10, e9, e8, e7, e6, e5, e4, e3, e2, e1]
    exact ((((((((((Fr.ui m).tr (Fr.ui m)).tr (Fr.ui m)).tr (Fr.ui m)).tr (Fr.ui m)).tr (Fr.ui m)).tr (Fr.ui m)).tr (Fr.ui m)).tr (Fr.ui m)).tr (Fr.ui m))
  · rw [s10.1]
    exact if_pos hj
/-- a plant begun -/
def bgF (kd fg : Int32) (j : Nat) : Int32 := match j with
  | 0 => kd
  | 1 => fg
  | 2 => 0
  | 3 => 10
  | 4 => 1
  | 5 => 0
  | 6 => 0
  | 7 => 1
  | 8 => 1
  | _ => -1
theorem bg_st {a n : Nat} {f gg : Nat → Int32} {g g1 : Hp} {x : Int32} (e : g1 = ui g a n x) (ea : g.1 a = cpF f gg n) (ex : x = gg n) : g1.1 a = cpF f gg (n + 1) := by
  subst e
  rw [ui_up, ea, ex]
  exact cpF_up f gg n
theorem ct_begin {a : Nat} (ha : isPl a) (kd fg : Int32) (h : Hp) : CtV 0 mX3_begin [.ref a, .int kd, .int fg] h (fun h' => Fr [a] h h' ∧ ∀ j, j < 10 → h'.1 a j = bgF kd fg j) := by
  refine e_X3_begin ha (fun g1 e1 g2 e2 g3 e3 g4 e4 g5 e5 g6 e6 g7 e7 g8 e8 g9 e9 g10 e10 => ?_)
  have s1 := bg_st (gg := bgF kd fg) e1 (cpF_0 _ _).symm rfl
  have s2 := bg_st e2 s1 rfl
  have s3 := bg_st e3 s2 rfl
  have s4 := bg_st e4 s3 rfl
  have s5 := bg_st e5 s4 rfl
  have s6 := bg_st e6 s5 rfl
  have s7 := bg_st e7 s6 rfl
  have s8 := bg_st e8 s7 rfl
  have s9 := bg_st e9 s8 rfl
  have s10 := bg_st e10 s9 rfl
  have m : a ∈ [a] := List.mem_cons_self ..
  refine ⟨?_, fun j hj => ?_⟩
  · rw [e10, e9, e8, e7, e6, e5, e4, e3, e2, e1]
    exact ((((((((((Fr.ui m).tr (Fr.ui m)).tr (Fr.ui m)).tr (Fr.ui m)).tr (Fr.ui m)).tr (Fr.ui m)).tr (Fr.ui m)).tr (Fr.ui m)).tr (Fr.ui m)).tr (Fr.ui m))
  · rw [s10]
    exact if_pos hj
