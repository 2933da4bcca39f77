/-! ===== both heaps hold the same ===== -/
abbrev Gh : Type := ((Nat → Int32) × (Nat → Int32) × (Nat → Int32) × (Nat → Int32)) × ((Nat → Int32) × (Nat → Int32) × (Nat → Int32) × (Nat → Int32)) × (Nat → Int32) × Nat × Int32 × Int64 × Int64
abbrev Gh.s (γ : Gh) : Nat → Int32 := γ.1.1
abbrev Gh.im (γ : Gh) : Nat → Int32 := γ.1.2.1
abbrev Gh.z (γ : Gh) : Nat → Int32 := γ.1.2.2.1
abbrev Gh.it (γ : Gh) : Nat → Int32 := γ.1.2.2.2
abbrev Gh.ks (γ : Gh) : Nat → Int32 := γ.2.1.1
abbrev Gh.sz (γ : Gh) : Nat → Int32 := γ.2.1.2.1
abbrev Gh.la (γ : Gh) : Nat → Int32 := γ.2.1.2.2.1
abbrev Gh.f (γ : Gh) : Nat → Int32 := γ.2.1.2.2.2
abbrev Gh.rf (γ : Gh) : Nat → Int32 := γ.2.2.1
abbrev Gh.m (γ : Gh) : Nat := γ.2.2.2.1
abbrev Gh.tk (γ : Gh) : Int32 := γ.2.2.2.2.1
abbrev Gh.pu (γ : Gh) : Int64 := γ.2.2.2.2.2.1
abbrev Gh.pt (γ : Gh) : Int64 := γ.2.2.2.2.2.2
abbrev mkG (s im z it ks sz la f rf : Nat → Int32) (m : Nat) (tk : Int32) (pu pt : Int64) : Gh := ((s, im, z, it), (ks, sz, la, f), rf, m, tk, pu, pt)
abbrev Gh.sS (γ : Gh) (x : Nat → Int32) : Gh := mkG x γ.im γ.z γ.it γ.ks γ.sz γ.la γ.f γ.rf γ.m γ.tk γ.pu γ.pt
abbrev Gh.sPu (γ : Gh) (x : Int64) : Gh := mkG γ.s γ.im γ.z γ.it γ.ks γ.sz γ.la γ.f γ.rf γ.m γ.tk x γ.pt
abbrev Gh.sLs (γ : Gh) (x y : Nat → Int32) : Gh := mkG γ.s γ.im x y γ.ks γ.sz γ.la γ.f γ.rf γ.m γ.tk γ.pu γ.pt
abbrev Gh.sRk (γ : Gh) (x y w : Nat → Int32) : Gh := mkG γ.s γ.im γ.z γ.it x y w γ.f γ.rf γ.m γ.tk γ.pu γ.pt
abbrev Gh.sLt (γ : Gh) (x : Nat → Int32) (n : Nat) : Gh := mkG γ.s γ.im γ.z γ.it γ.ks γ.sz γ.la x γ.rf n γ.tk γ.pu γ.pt
abbrev Gh.sIm (γ : Gh) (x : Nat → Int32) (y : Int32) (w : Int64) : Gh := mkG γ.s x γ.z γ.it γ.ks γ.sz γ.la γ.f γ.rf γ.m y γ.pu w
abbrev Gh.sRf (γ : Gh) (x : Nat → Int32) : Gh := mkG γ.s γ.im γ.z γ.it γ.ks γ.sz γ.la γ.f x γ.m γ.tk γ.pu γ.pt
/-- the class's cells, but for the solver's -/
def JK (γ : Gh) (h : Hp) : Prop := sC 1 γ.s h ∧ h.1 0 3 = γ.tk ∧ (¬ γ.tk = 0 → sC 17 γ.im h) ∧ h.2 1 8 = γ.pu ∧ h.2 17 8 = γ.pt ∧ (∀ n, n < 7 → h.1 68 n = γ.rf n) ∧ h.1 25 1 = nI γ.m ∧ (∀ k, k < γ.m → h.1 26 k = γ.f k) ∧ lsI γ.z γ.it h ∧ rkI γ.ks γ.sz γ.la h
def JC (γ : Gh) (h : Hp) : Prop := JK γ h ∧ ∃ r1 r2, dyI r1 r2 h
/-- the reference's -/
def JR (γ : Gh) (h : Hp) : Prop := h.1 114 = γ.s ∧ (∀ i, i < 49 → h.1 116 i = γ.im i) ∧ h.1 113 3 = γ.tk ∧ h.2 113 4 = γ.pu ∧ h.2 113 5 = γ.pt ∧ (∀ n, n < 7 → h.1 117 n = γ.rf n) ∧ h.1 113 26 = nI γ.m ∧ h.1 134 = γ.f ∧ h.1 129 = γ.z ∧ h.1 130 = γ.it ∧ h.1 131 = γ.ks ∧ h.1 132 = γ.sz ∧ h.1 133 = γ.la ∧ h.1 113 8 = 0
def JV (γ : Gh) : Prop := InS γ.s ∧ (¬ γ.tk = 0 → InS γ.im) ∧ okZ γ.z ∧ γ.m ≤ 120
def Jn (h : Hp) : Prop := ∃ γ, JC γ h ∧ JR γ h ∧ JV γ
def jK : List Nat := cS 1 ++ cS 17 ++ [0, 25, 26, 68] ++ lsC ++ rkC
theorem jK_1 : ∀ k, k ∈ cS 1 → k ∈ jK := by decide
theorem jK_17 : ∀ k, k ∈ cS 17 → k ∈ jK := by decide
theorem jK_l : ∀ k, k ∈ lsC → k ∈ jK := by decide
theorem jK_r : ∀ k, k ∈ rkC → k ∈ jK := by decide
theorem jK_o : 0 ∈ jK ∧ 25 ∈ jK ∧ 26 ∈ jK ∧ 68 ∈ jK := by decide
theorem JK.fr {γ : Gh} {X : List Nat} {h g : Hp} (a : JK γ h) (f : Fr X h g) (hx : ∀ k, k ∈ jK → k ∉ X) : JK γ g := by
  obtain ⟨a1, a2, a3, a4, a5, a6, a7, a8, a9, a10⟩ := a
  have e : ∀ k, k ∈ jK → g.1 k = h.1 k := fun k hk => f.1 k (hx k hk)
  refine ⟨a1.fr f (fun k hk => hx k (jK_1 k hk)), ?_, fun y => (a3 y).fr f (fun k hk => hx k (jK_17 k hk)), ?_, ?_, fun n hn => ?_, ?_, fun k hk => ?_, a9.fr f (fun k hk => hx k (jK_l k hk)), a10.fr f (fun k hk => hx k (jK_r k hk))⟩
  · rw [e 0 jK_o.1]
    exact a2
  · rw [f.2]
    exact a4
  · rw [f.2]
    exact a5
  · rw [e 68 jK_o.2.2.2]
    exact a6 n hn
  · rw [e 25 jK_o.2.1]
    exact a7
  · rw [e 26 jK_o.2.2.1]
    exact a8 k hk
theorem JC.byf {γ : Gh} {h g : Hp} (a : JC γ h) (f : frC h g) : JC γ g := ⟨a.1.fr f.1 (by decide), f.2⟩
theorem JC.fr {γ : Gh} {X : List Nat} {h g : Hp} (a : JC γ h) (f : Fr X h g) (hx : ∀ k, k ∈ jK → k ∉ X) (h38 : 38 ∉ X) : JC γ g := by
  obtain ⟨r1, r2, d⟩ := a.2
  exact ⟨a.1.fr f hx, r1, r2, d.fr f h38⟩
theorem JC.k {γ : Gh} {h : Hp} (a : JC γ h) (v : JV γ) : kI γ.s h := ⟨a.1.1, v.1, a.2⟩
theorem JC.c {γ : Gh} {h : Hp} (a : JC γ h) : sC 1 γ.s h := a.1.1
/-- the class leaves the reference's cells, and the other way round -/
def CF (h g : Hp) : Prop := (∀ k, 113 ≤ k → g.1 k = h.1 k) ∧ ∀ k, 113 ≤ k → g.2 k = h.2 k
def RF (h g : Hp) : Prop := (∀ k, k < 113 → g.1 k = h.1 k) ∧ (∀ k, k < 113 → g.2 k = h.2 k) ∧ g.1 2000 = h.1 2000 ∧ g.1 2001 = h.1 2001
/-- the script is what it was -/
def Sk (h g : Hp) : Prop := g.1 2000 = h.1 2000 ∧ g.1 2001 = h.1 2001
theorem CF.s {h g : Hp} (a : CF h g) : Sk h g := ⟨a.1 2000 (by omega), a.1 2001 (by omega)⟩
theorem CF.sk {h g k : Hp} (a : CF h g) (b : RF g k) : Sk h k := ⟨b.2.2.1.trans (a.1 2000 (by omega)), b.2.2.2.trans (a.1 2001 (by omega))⟩
theorem CF.of {X : List Nat} {h g : Hp} (f : Fr X h g) (hx : ∀ k, k ∈ X → k < 113) : CF h g := ⟨fun k hk => f.1 k (fun y => by have := hx k y; omega), fun k _ => by rw [f.2]⟩
theorem RF.of {X : List Nat} {h g : Hp} (f : Fr X h g) (hx : ∀ k, k ∈ X → 113 ≤ k ∧ k < 2000) : RF h g := ⟨fun k hk => f.1 k (fun y => by have := hx k y; omega), fun k _ => by rw [f.2], f.1 2000 (fun y => by have := hx 2000 y; omega), f.1 2001 (fun y => by have := hx 2001 y; omega)⟩
theorem JR.cf {γ : Gh} {h g : Hp} (a : JR γ h) (f : CF h g) : JR γ g := by
  unfold JR at a ⊢
  rw [f.1 113 (by omega), f.1 114 (by omega), f.1 116 (by omega), f.1 117 (by omega), f.1 134 (by omega), f.1 129 (by omega), f.1 130 (by omega), f.1 131 (by omega), f.1 132 (by omega), f.1 133 (by omega), f.2 113 (by omega)]
  exact a
theorem r1I.rf {ks sz la : Nat → Int32} {r : Nat} (hr : r < 3) {h g : Hp} (a : r1I ks sz la r h) (f : RF h g) : r1I ks sz la r g := by
  refine a.c rfl rfl (fun _ _ _ _ => rfl) ?_ (fun j hj => ?_)
  · rw [f.1 _ (by omega)]
    exact ⟨rfl, rfl⟩
  · rw [f.1 _ (by omega), f.1 _ (by omega)]
    exact ⟨rfl, fun _ _ => rfl⟩
theorem sC.rf {b : Nat} (hb : b < 100) {s : Nat → Int32} {h g : Hp} (a : sC b s h) (f : RF h g) : sC b s g := fun i hi => by
  have c := po0_c i hi
  rw [f.1 _ (by
    generalize (po0 i).1 = x at c
    simp only [List.mem_cons, List.not_mem_nil, or_false] at c
    omega)]
  exact a i hi
theorem JC.rf {γ : Gh} {h g : Hp} (a : JC γ h) (f : RF h g) : JC γ g := by
  obtain ⟨⟨a1, a2, a3, a4, a5, a6, a7, a8, a9, a10⟩, r1, r2, d1, d2, d3⟩ := a
  refine ⟨⟨a1.rf (by decide) f, ?_, fun y => (a3 y).rf (by decide) f, ?_, ?_, fun n hn => ?_, ?_, fun k hk => ?_, fun l hl => ?_, fun r hr => (a10 r hr).rf hr f⟩, r1, r2, d1, ?_, ?_⟩
  · rw [f.1 0 (by omega)]
    exact a2
  · rw [f.2.1 1 (by omega)]
    exact a4
  · rw [f.2.1 17 (by omega)]
    exact a5
  · rw [f.1 68 (by omega)]
    exact a6 n hn
  · rw [f.1 25 (by omega)]
    exact a7
  · rw [f.1 26 (by omega)]
    exact a8 k hk
  · rw [f.1 _ (show 69 + 2 * l < 113 by omega), f.1 _ (show 70 + 2 * l < 113 by omega)]
    exact a9 l hl
  · rw [f.1 38 (by omega)]
    exact d2
  · rw [f.1 38 (by omega)]
    exact d3
/-- a refusal counted -/
def Gh.no (γ : Gh) (n : Nat) : Gh := γ.sRf (upd γ.rf n (γ.rf n + 1))
theorem JC.no {γ : Gh} {h : Hp} (a : JC γ h) {n : Nat} (hn : n < 7) : JC (γ.no n) (noC h n) := by
  have f : Fr [68] h (noC h n) := Fr.ui (List.mem_cons_self ..)
  obtain ⟨⟨a1, a2, a3, a4, a5, a6, a7, a8, a9, a10⟩, r1, r2, d⟩ := a
  have x1 : ∀ k, k ∈ cS 1 → k ∉ [68] := by decide
  have x2 : ∀ k, k ∈ cS 17 → k ∉ [68] := by decide
  have x3 : ∀ k, k ∈ lsC → k ∉ [68] := by decide
  have x4 : ∀ k, k ∈ rkC → k ∉ [68] := by decide
  refine ⟨⟨a1.fr f x1, ?_, fun y => (a3 y).fr f x2, ?_, ?_, fun j hj => ?_, ?_, fun k hk => ?_, a9.fr f x3, a10.fr f x4⟩, r1, r2, d.fr f (by decide)⟩
  · rw [f.1 0 (by decide)]
    exact a2
  · exact a4
  · exact a5
  · show (noC h n).1 68 j = upd γ.rf n (γ.rf n + 1) j
    unfold noC
    rw [ui_up, a6 n hn]
    unfold upd
    by_cases y : j = n
    · rw [if_pos y, if_pos y]
    · rw [if_neg y, if_neg y]
      exact a6 j hj
  · rw [f.1 25 (by decide)]
    exact a7
  · rw [f.1 26 (by decide)]
    exact a8 k hk
theorem JR.no {γ : Gh} {h : Hp} (a : JR γ h) {n : Nat} (hn : n < 7) : JR (γ.no n) (noS h n) := by
  have f : Fr [117] h (noS h n) := Fr.ui (List.mem_cons_self ..)
  obtain ⟨a1, a2, a3, a4, a5, a6, a7, a8, a9, a10, a11, a12, a13, a14⟩ := a
  unfold JR
  rw [f.1 113 (by decide), f.1 114 (by decide), f.1 116 (by decide), f.1 134 (by decide), f.1 129 (by decide), f.1 130 (by decide), f.1 131 (by decide), f.1 132 (by decide), f.1 133 (by decide), f.2]
  refine ⟨a1, a2, a3, a4, a5, fun j hj => ?_, a7, a8, a9, a10, a11, a12, a13, a14⟩
  show (noS h n).1 117 j = upd γ.rf n (γ.rf n + 1) j
  unfold noS
  rw [ui_up, a6 n hn]
  unfold upd
  by_cases y : j = n
  · rw [if_pos y, if_pos y]
  · rw [if_neg y, if_neg y]
    exact a6 j hj
theorem cf_no (h : Hp) (n : Nat) : CF h (noC h n) := CF.of (X := [68]) (Fr.ui (List.mem_cons_self ..)) (by decide)
theorem rf_no (h : Hp) (n : Nat) : RF h (noS h n) := RF.of (X := [117]) (Fr.ui (List.mem_cons_self ..)) (by decide)
theorem CF.rf' {h : Hp} : CF h h := ⟨fun _ _ => rfl, fun _ _ => rfl⟩
theorem RF.rf' {h : Hp} : RF h h := ⟨fun _ _ => rfl, fun _ _ => rfl, rfl, rfl⟩
theorem CF.tr {a b c : Hp} (x : CF a b) (y : CF b c) : CF a c := ⟨fun k hk => (y.1 k hk).trans (x.1 k hk), fun k hk => (y.2 k hk).trans (x.2 k hk)⟩
theorem RF.tr {a b c : Hp} (x : RF a b) (y : RF b c) : RF a c := ⟨fun k hk => (y.1 k hk).trans (x.1 k hk), fun k hk => (y.2.1 k hk).trans (x.2.1 k hk), y.2.2.1.trans x.2.2.1, y.2.2.2.trans x.2.2.2⟩
theorem isW_n {w : Int32} (hw : isW w) : (-w).toNatClampNeg < 7 := by
  obtain ⟨n, hn, e⟩ := hw
  subst e
  have : ∀ n, n < 7 → (- -nI n).toNatClampNeg < 7 := by decide
  exact this n hn
/-- both called one behind the other: the same answer, and both hold the same again -/
def Two (d1 d2 : Nat) (M1 M2 : Mth) (as : List Value) (h : Hp) : Prop := ∃ Q1, CtI d1 M1 (.ref 0 :: as) h Q1 ∧ ∀ v h1, Q1 v h1 → Sk h h1 ∧ ∃ Q2, CtI d2 M2 (.ref 113 :: as) h1 Q2 ∧ ∀ v' h2, Q2 v' h2 → v' = v ∧ Jn h2 ∧ Sk h h2
def TwoL (d1 d2 : Nat) (M1 M2 : Mth) (as : List Value) (h : Hp) : Prop := ∃ Q1, CtL d1 M1 (.ref 0 :: as) h Q1 ∧ ∀ (v : Int64) h1, Q1 v h1 → Sk h h1 ∧ ∃ Q2, CtL d2 M2 (.ref 113 :: as) h1 Q2 ∧ ∀ (v' : Int64) h2, Q2 v' h2 → v' = v ∧ Jn h2 ∧ Sk h h2
theorem two_ok {d1 d2 : Nat} {M1 M2 : Mth} {as : List Value} {h : Hp} {w x : Int32} {γ γ1 : Gh} {A : Int32 → Hp → Prop} {B : Hp → Int32 → Hp → Prop} (hc : JC γ h) (hr : JR γ h) (hv : JV γ) (hw : isW w) (hC : CtI d1 M1 (.ref 0 :: as) h (okx w h A)) (hA : ∀ v g, w = 0 → A v g → v = x ∧ JC γ1 g ∧ CF h g) (hR : ∀ h1, JR γ h1 → CtI d2 M2 (.ref 113 :: as) h1 (okw w h1 (B h1))) (hB : ∀ h1 v g, w = 0 → JR γ h1 → B h1 v g → v = x ∧ JR γ1 g ∧ RF h1 g) (hV : w = 0 → JV γ1) : Two d1 d2 M1 M2 as h := by
  refine ⟨_, hC, fun v h1 q => ?_⟩
  by_cases c : w = 0
  · obtain ⟨a1, a2, a3⟩ := hA v h1 c (q.1 c)
    have r1 := hr.cf a3
    refine ⟨a3.s, _, hR h1 r1, fun v' h2 p => ?_⟩
    obtain ⟨b1, b2, b3⟩ := hB h1 v' h2 c r1 (p.1 c)
    exact ⟨b1.trans a1.symm, ⟨γ1, a2.rf b3, b2, hV c⟩, a3.sk b3⟩
  · obtain ⟨a1, a2⟩ := q.2 c
    subst a2
    have n7 := isW_n hw
    have r1 := hr.cf (cf_no h (-w).toNatClampNeg)
    refine ⟨(cf_no _ _).s, _, hR _ r1, fun v' h2 p => ?_⟩
    obtain ⟨b1, b2⟩ := p.2 c
    subst b2
    exact ⟨b1.trans a1.symm, ⟨γ.no _, (hc.no n7).rf (rf_no _ _), r1.no n7, hv⟩, (cf_no _ _).sk (rf_no _ _)⟩
theorem two_okL {d1 d2 : Nat} {M1 M2 : Mth} {as : List Value} {h : Hp} {w : Int32} {x : Int64} {γ γ1 : Gh} {A : Int64 → Hp → Prop} {B : Hp → Int64 → Hp → Prop} (hc : JC γ h) (hr : JR γ h) (hv : JV γ) (hw : isW w) (hC : CtL d1 M1 (.ref 0 :: as) h (okxL w h A)) (hA : ∀ v g, w = 0 → A v g → v = x ∧ JC γ1 g ∧ CF h g) (hR : ∀ h1, JR γ h1 → CtL d2 M2 (.ref 113 :: as) h1 (okwL w h1 (B h1))) (hB : ∀ h1 v g, w = 0 → JR γ h1 → B h1 v g → v = x ∧ JR γ1 g ∧ RF h1 g) (hV : w = 0 → JV γ1) : TwoL d1 d2 M1 M2 as h := by
  refine ⟨_, hC, fun v h1 q => ?_⟩
  by_cases c : w = 0
  · obtain ⟨a1, a2, a3⟩ := hA v h1 c (q.1 c)
    have r1 := hr.cf a3
    refine ⟨a3.s, _, hR h1 r1, fun v' h2 p => ?_⟩
    obtain ⟨b1, b2, b3⟩ := hB h1 v' h2 c r1 (p.1 c)
    exact ⟨b1.trans a1.symm, ⟨γ1, a2.rf b3, b2, hV c⟩, a3.sk b3⟩
  · obtain ⟨a1, a2⟩ := q.2 c
    subst a2
    have n7 := isW_n hw
    have r1 := hr.cf (cf_no h (-w).toNatClampNeg)
    refine ⟨(cf_no _ _).s, _, hR _ r1, fun v' h2 p => ?_⟩
    obtain ⟨b1, b2⟩ := p.2 c
    subst b2
    exact ⟨b1.trans a1.symm, ⟨γ.no _, (hc.no n7).rf (rf_no _ _), r1.no n7, hv⟩, (cf_no _ _).sk (rf_no _ _)⟩
