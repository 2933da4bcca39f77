/-! ===== the class: setters ===== -/
theorem okc_m {w : Int32} {h : Hp} {A B : Int32 → Hp → Prop} {v : Int32} {g : Hp} (q : okc w h A v g) (k : w = 0 → A v g → B v g) : okc w h B v g := ⟨fun e => k e (q.1 e), q.2⟩
/-- taken: the answer, the row behind it -/
def suB (h : Hp) (V : Int32) (s' : Nat → Int32) : Int32 → Hp → Prop := fun v g => v = V ∧ ¬ v < 0 ∧ sC 1 s' g ∧ Fr (cS 1) h g
theorem su_top {d : Nat} {M : Mth} {args : List Value} {h : Hp} {w V : Int32} {s' : Nat → Int32} (hw : isW w) (hC : CtI d M args h (okc w h (suB h V s'))) : ∃ Q, CtI d M args h Q ∧ ∀ v3 h4, Q v3 h4 → (∃ Q6, CtI 1 mX10_counted [.ref 0, .int v3] h4 Q6 ∧ ∀ v8 h9, Q6 v8 h9 → okx w h (suB h V s') v8 h9) := ⟨_, hC, fun v3 h4 q => ⟨_, ct_counted hw (fun _ _ k => k.2.1) q, fun _ _ k => k⟩⟩
theorem ctm {d : Nat} {M : Mth} {args : List Value} {h : Hp} {w : Int32} {A B : Int32 → Hp → Prop} (hC : CtI d M args h (okc w h A)) (k : ∀ v g, w = 0 → A v g → B v g) {R : Int32 → Hp → Prop} (e : ∀ v g, okc w h B v g → R v g) : ∃ Q, CtI d M args h Q ∧ ∀ v g, Q v g → R v g := ⟨_, hC, fun v g q => e v g (okc_m q (fun hw a => k v g hw a))⟩
theorem cS1 : cS 1 = [1, 2, 3, 4, 6, 7, 8] := rfl
theorem c6_in {p : Nat} (hp : p < 3) : 6 + p ∈ cS 1 := by
  have : ∀ p, p < 3 → 6 + p ∈ cS 1 := by decide
  exact this p hp
theorem nn1 {k : Nat} (hk : k < 2 ^ 31) {v V : Int32} (e : v = V) (eV : V = nI k) : ¬ v < 0 := by
  rw [e, eV]
  exact nI_pos hk
def spV (s : Nat → Int32) (x : Int32) (h : Hp) : Int32 → Hp → Prop := suB h (s 0) (upd s 0 x)
theorem su_span (x : Int32) (h : Hp) (s : Nat → Int32) (a : sC 1 s h) (i : InS s) {R : Int32 → Hp → Prop} (e : ∀ v g, okc (wbS x 1 5) h (suB h (s 0) (upd s 0 x)) v g → R v g) : ∃ Q, CtI 0 mX5_setSpan [.ref 1, .int x] h Q ∧ ∀ v g, Q v g → R v g := by
  refine ctm (ct_setSpan x h s a) (fun v g w q => ?_) e
  have hH := i.o.hH
  refine ⟨q.1, nn1 (by omega) q.1 i.o.eH, ?_, ?_⟩
  · rw [q.2]
    exact a.uH x
  · rw [q.2]
    exact Fr.ui (by decide)
theorem su_demand (hour x y : Int32) (h : Hp) (s : Nat → Int32) (a : sC 1 s h) (i : InS s) {R : Int32 → Hp → Prop} (e : ∀ v g, okc (deW s hour x y) h (suB h (100 * s (4 + hour.toNatClampNeg) + s (9 + hour.toNatClampNeg)) (upd (upd s (4 + hour.toNatClampNeg) x) (9 + hour.toNatClampNeg) y)) v g → R v g) : ∃ Q, CtI 1 mX5_setDemand [.ref 1, .int hour, .int x, .int y] h Q ∧ ∀ v g, Q v g → R v g := by
  refine ctm (ct_setDemand hour x y h s a i.o) (fun v g w q => ?_) e
  obtain ⟨q1, q2, q3⟩ := q
  obtain ⟨⟨k1, h1, e1⟩, ⟨k2, h2, e2⟩, -⟩ := i.2.1 _ q3
  refine ⟨q1, nn1 (k := 100 * k1 + k2) (by omega) q1 (by rw [e1, e2, show (100 : Int32) = nI 100 from rfl, pk_mul, nI_add]), ?_, ?_⟩
  · rw [q2]
    exact (a.ud q3 x).ur q3 y
  · rw [q2]
    exact (Fr.ui (by decide)).tr (Fr.ui (by decide))
theorem su_add (kd fg : Int32) (h : Hp) (s : Nat → Int32) (a : sC 1 s h) (i : InS s) {R : Int32 → Hp → Prop} (e : ∀ v g, okc (plW s kd fg) h (suB h (s 3) (adS s (nP s) kd fg)) v g → R v g) : ∃ Q, CtI 1 mX5_addPlant [.ref 1, .int kd, .int fg] h Q ∧ ∀ v g, Q v g → R v g := by
  refine ctm (ct_addPlant kd fg h s a i.o) (fun v g w q => ?_) e
  have hP := i.o.hP
  exact ⟨q.1, nn1 (by omega) q.1 i.o.eP, q.2.1, q.2.2⟩
theorem su_range (p x y : Int32) (h : Hp) (s : Nat → Int32) (a : sC 1 s h) (i : InS s) {R : Int32 → Hp → Prop} (e : ∀ v g, okc (giW s p x y) h (suB h (100 * pfS s p.toNatClampNeg 2 + pfS s p.toNatClampNeg 3) (upd (upd s (19 + 10 * p.toNatClampNeg + 2) x) (19 + 10 * p.toNatClampNeg + 3) y)) v g → R v g) : ∃ Q, CtI 1 mX5_setRange [.ref 1, .int p, .int x, .int y] h Q ∧ ∀ v g, Q v g → R v g := by
  refine ctm (ct_setRange p x y h s a i.o) (fun v g w q => ?_) e
  obtain ⟨q1, q2, q3⟩ := q
  obtain ⟨-, -, ⟨k1, k2, -, h1, h2, e1, e2⟩, -⟩ := i.f (InS_gives i w).1
  refine ⟨q1, nn1 (k := 100 * k1 + k2) (by omega) q1 (by rw [e1, e2, show (100 : Int32) = nI 100 from rfl, pk_mul, nI_add]), ?_, ?_⟩
  · rw [q2]
    exact (a.uf q3 (by decide) x).uf q3 (by decide) y
  · rw [q2]
    exact (Fr.ui (c6_in q3)).tr (Fr.ui (c6_in q3))
theorem su_costs (p x y z : Int32) (h : Hp) (s : Nat → Int32) (a : sC 1 s h) (i : InS s) {R : Int32 → Hp → Prop} (e : ∀ v g, okc (coW s p x y z) h (suB h (10000 * pfS s p.toNatClampNeg 4 + 100 * pfS s p.toNatClampNeg 5 + pfS s p.toNatClampNeg 6) (upd (upd (upd s (19 + 10 * p.toNatClampNeg + 4) x) (19 + 10 * p.toNatClampNeg + 5) y) (19 + 10 * p.toNatClampNeg + 6) z)) v g → R v g) : ∃ Q, CtI 1 mX5_setCosts [.ref 1, .int p, .int x, .int y, .int z] h Q ∧ ∀ v g, Q v g → R v g := by
  refine ctm (ct_setCosts p x y z h s a i.o) (fun v g w q => ?_) e
  obtain ⟨q1, q2, q3⟩ := q
  obtain ⟨-, -, -, ⟨k4, h4, e4⟩, ⟨k5, h5, e5⟩, ⟨k6, h6, e6⟩, -⟩ := i.f (InS_costs i w).1
  refine ⟨q1, nn1 (k := 10000 * k4 + 100 * k5 + k6) (by omega) q1 (by rw [e4, e5, e6, show (100 : Int32) = nI 100 from rfl, show (10000 : Int32) = nI 10000 from rfl, pk_mul, pk_mul, nI_add, nI_add]), ?_, ?_⟩
  · rw [q2]
    exact ((a.uf q3 (by decide) x).uf q3 (by decide) y).uf q3 (by decide) z
  · rw [q2]
    exact ((Fr.ui (c6_in q3)).tr (Fr.ui (c6_in q3))).tr (Fr.ui (c6_in q3))
theorem su_times (p x y : Int32) (h : Hp) (s : Nat → Int32) (a : sC 1 s h) (i : InS s) {R : Int32 → Hp → Prop} (e : ∀ v g, okc (tiW s p x y) h (suB h (10 * pfS s p.toNatClampNeg 7 + pfS s p.toNatClampNeg 8) (upd (upd s (19 + 10 * p.toNatClampNeg + 7) x) (19 + 10 * p.toNatClampNeg + 8) y)) v g → R v g) : ∃ Q, CtI 1 mX5_setTimes [.ref 1, .int p, .int x, .int y] h Q ∧ ∀ v g, Q v g → R v g := by
  refine ctm (ct_setTimes p x y h s a i.o) (fun v g w q => ?_) e
  obtain ⟨q1, q2, q3⟩ := q
  obtain ⟨-, -, -, -, -, -, ⟨k1, -, h1, e1⟩, ⟨k2, -, h2, e2⟩, -⟩ := i.f (InS_times i w).1
  refine ⟨q1, nn1 (k := 10 * k1 + k2) (by omega) q1 (by rw [e1, e2, show (10 : Int32) = nI 10 from rfl, pk_mul, nI_add]), ?_, ?_⟩
  · rw [q2]
    exact (a.uf q3 (by decide) x).uf q3 (by decide) y
  · rw [q2]
    exact (Fr.ui (c6_in q3)).tr (Fr.ui (c6_in q3))
theorem su_age (p x : Int32) (h : Hp) (s : Nat → Int32) (a : sC 1 s h) (i : InS s) {R : Int32 → Hp → Prop} (e : ∀ v g, okc (agW s p x) h (suB h (pfS s p.toNatClampNeg 9 + 10) (upd s (19 + 10 * p.toNatClampNeg + 9) x)) v g → R v g) : ∃ Q, CtI 1 mX5_setAge [.ref 1, .int p, .int x] h Q ∧ ∀ v g, Q v g → R v g := by
  refine ctm (ct_setAge p x h s a i.o) (fun v g w q => ?_) e
  obtain ⟨q1, q2, q3⟩ := q
  obtain ⟨j, h1, h2, h3⟩ := plI_age (i.f (InS_age i w).1)
  have fin : ∀ j, j < 5 → 1 ≤ j → ¬ nI j + 10 < 0 ∧ ¬ -nI j + 10 < 0 := by decide
  obtain ⟨f1, f2⟩ := fin j (by omega) h1
  refine ⟨q1, ?_, ?_, ?_⟩
  · rw [q1]
    rcases h3 with z | z
    · rw [z]
      exact f1
    · rw [z]
      exact f2
  · rw [q2]
    exact a.uf q3 (by decide) x
  · rw [q2]
    exact Fr.ui (c6_in q3)
theorem ct_hoursC (x : Int32) (h : Hp) (s : Nat → Int32) (a : sC 1 s h) (i : InS s) : CtI 2 mX10_hours [.ref 0, .int x] h (okx (wbS x 1 5) h (suB h (s 0) (upd s 0 x))) := e_X10_hours (su_span x h s a i (fun _ _ q => ⟨_, ct_counted (isW_wb _ _ _) (fun _ _ k => k.2.1) q, fun _ _ k => k⟩))
theorem ct_demandC (hour x y : Int32) (h : Hp) (s : Nat → Int32) (a : sC 1 s h) (i : InS s) : CtI 2 mX10_demand [.ref 0, .int hour, .int x, .int y] h (okx (deW s hour x y) h (suB h (100 * s (4 + hour.toNatClampNeg) + s (9 + hour.toNatClampNeg)) (upd (upd s (4 + hour.toNatClampNeg) x) (9 + hour.toNatClampNeg) y))) := e_X10_demand (su_demand hour x y h s a i (fun _ _ q => ⟨_, ct_counted (deW_isW _ _ _ _) (fun _ _ k => k.2.1) q, fun _ _ k => k⟩))
theorem ct_plantC (kd fg : Int32) (h : Hp) (s : Nat → Int32) (a : sC 1 s h) (i : InS s) : CtI 2 mX10_plant [.ref 0, .int kd, .int fg] h (okx (plW s kd fg) h (suB h (s 3) (adS s (nP s) kd fg))) := e_X10_plant (su_add kd fg h s a i (fun _ _ q => ⟨_, ct_counted (plW_isW _ _ _) (fun _ _ k => k.2.1) q, fun _ _ k => k⟩))
theorem ct_givesC (p x y : Int32) (h : Hp) (s : Nat → Int32) (a : sC 1 s h) (i : InS s) : CtI 2 mX10_gives [.ref 0, .int p, .int x, .int y] h (okx (giW s p x y) h (suB h (100 * pfS s p.toNatClampNeg 2 + pfS s p.toNatClampNeg 3) (upd (upd s (19 + 10 * p.toNatClampNeg + 2) x) (19 + 10 * p.toNatClampNeg + 3) y))) := e_X10_gives (su_range p x y h s a i (fun _ _ q => ⟨_, ct_counted (giW_isW _ _ _ _) (fun _ _ k => k.2.1) q, fun _ _ k => k⟩))
theorem ct_costsC (p x y z : Int32) (h : Hp) (s : Nat → Int32) (a : sC 1 s h) (i : InS s) : CtI 2 mX10_costs [.ref 0, .int p, .int x, .int y, .int z] h (okx (coW s p x y z) h (suB h (10000 * pfS s p.toNatClampNeg 4 + 100 * pfS s p.toNatClampNeg 5 + pfS s p.toNatClampNeg 6) (upd (upd (upd s (19 + 10 * p.toNatClampNeg + 4) x) (19 + 10 * p.toNatClampNeg + 5) y) (19 + 10 * p.toNatClampNeg + 6) z))) := e_X10_costs (su_costs p x y z h s a i (fun _ _ q => ⟨_, ct_counted (coW_isW _ _ _ _ _) (fun _ _ k => k.2.1) q, fun _ _ k => k⟩))
theorem ct_timesC (p x y : Int32) (h : Hp) (s : Nat → Int32) (a : sC 1 s h) (i : InS s) : CtI 2 mX10_times [.ref 0, .int p, .int x, .int y] h (okx (tiW s p x y) h (suB h (10 * pfS s p.toNatClampNeg 7 + pfS s p.toNatClampNeg 8) (upd (upd s (19 + 10 * p.toNatClampNeg + 7) x) (19 + 10 * p.toNatClampNeg + 8) y))) := e_X10_times (su_times p x y h s a i (fun _ _ q => ⟨_, ct_counted (tiW_isW _ _ _ _) (fun _ _ k => k.2.1) q, fun _ _ k => k⟩))
theorem ct_ageC (p x : Int32) (h : Hp) (s : Nat → Int32) (a : sC 1 s h) (i : InS s) : CtI 2 mX10_age [.ref 0, .int p, .int x] h (okx (agW s p x) h (suB h (pfS s p.toNatClampNeg 9 + 10) (upd s (19 + 10 * p.toNatClampNeg + 9) x))) := e_X10_age (su_age p x h s a i (fun _ _ q => ⟨_, ct_counted (agW_isW _ _ _) (fun _ _ k => k.2.1) q, fun _ _ k => k⟩))
/-- a statement is done -/
def apB (h : Hp) (s' : Nat → Int32) : Int32 → Hp → Prop := fun v g => ¬ v < 0 ∧ sC 1 s' g ∧ Fr (cS 1) h g
theorem suB.ap {h : Hp} {w V : Int32} {s' : Nat → Int32} {v : Int32} {g : Hp} (q : okc w h (suB h V s') v g) : okc w h (apB h s') v g := okc_m q (fun _ k => k.2)
theorem ct_applyOne (c : Int32) (h : Hp) (s : Nat → Int32) (a : sC 1 s h) (i : InS s) (nu : Nat → Int32) (sg : Int32) (en : h.1 27 = nu) (es : h.1 25 3 = sg) : CtI 2 mX8_applyOne [.ref 25, .ref 1, .int c] h (okc (wtS s c nu sg) h (apB h (doS s c nu sg))) := by
  refine e_X8_applyOne ?_
  rw [en, es]
  unfold wtS doS
  refine ⟨fun c1 => ?_, fun c1 => ⟨fun c2 => ?_, fun c2 => ⟨fun c3 => ?_, fun c3 => ⟨fun c4 => ?_, fun c4 => ⟨fun c5 => ?_, fun c5 => ⟨fun c6 => ?_, fun c6 => ?_⟩⟩⟩⟩⟩⟩
  · rw [if_pos c1, if_pos c1]
    exact su_age _ _ h s a i (fun _ _ q => suB.ap q)
  · rw [if_neg c1, if_neg c1, if_pos c2, if_pos c2]
    exact su_costs _ _ _ _ h s a i (fun _ _ q => suB.ap q)
  · rw [if_neg c1, if_neg c1, if_neg c2, if_neg c2, if_pos c3, if_pos c3]
    exact su_demand _ _ _ h s a i (fun _ _ q => suB.ap q)
  · rw [if_neg c1, if_neg c1, if_neg c2, if_neg c2, if_neg c3, if_neg c3, if_pos c4, if_pos c4]
    exact su_range _ _ _ h s a i (fun _ _ q => suB.ap q)
  · rw [if_neg c1, if_neg c1, if_neg c2, if_neg c2, if_neg c3, if_neg c3, if_neg c4, if_neg c4, if_pos c5, if_pos c5]
    exact su_add _ _ h s a i (fun _ _ q => suB.ap q)
  · rw [if_neg c1, if_neg c1, if_neg c2, if_neg c2, if_neg c3, if_neg c3, if_neg c4, if_neg c4, if_neg c5, if_neg c5, if_pos c6, if_pos c6]
    exact su_times _ _ _ h s a i (fun _ _ q => suB.ap q)
  · rw [if_neg c1, if_neg c1, if_neg c2, if_neg c2, if_neg c3, if_neg c3, if_neg c4, if_neg c4, if_neg c5, if_neg c5, if_neg c6, if_neg c6]
    exact su_span _ h s a i (fun _ _ q => suB.ap q)
