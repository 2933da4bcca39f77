/-! ===== both: the best, prices ===== -/
theorem two_p {d1 d2 : Nat} {M1 M2 : Mth} {as : List Value} {h : Hp} {x : Int32} {γ γ1 : Gh} {A : Int32 → Hp → Prop} {B : Hp → Int32 → Hp → Prop} (hr : JR γ h) (hC : CtI d1 M1 (.ref 0 :: as) h A) (hA : ∀ v g, A v g → v = x ∧ JC γ1 g ∧ CF h g) (hR : ∀ h1, JR γ h1 → CtI d2 M2 (.ref 113 :: as) h1 (B h1)) (hB : ∀ h1 v g, JR γ h1 → B h1 v g → v = x ∧ JR γ1 g ∧ RF h1 g) (hV : JV γ1) : Two d1 d2 M1 M2 as h := by
  refine ⟨_, hC, fun v h1 q => ?_⟩
  obtain ⟨a1, a2, a3⟩ := hA v h1 q
  have r1 := hr.cf a3
  refine ⟨a3.s, _, hR h1 r1, fun v' h2 p => ?_⟩
  obtain ⟨b1, b2, b3⟩ := hB h1 v' h2 r1 p
  exact ⟨b1.trans a1.symm, ⟨γ1, a2.rf b3, b2, hV⟩, a3.sk b3⟩
theorem two_or {d1 d2 : Nat} {M1 M2 : Mth} {as : List Value} {h : Hp} {c : Bool} {x : Int32} {γ : Gh} {A : Int32 → Hp → Prop} {B : Hp → Int32 → Hp → Prop} (hc : JC γ h) (hr : JR γ h) (hv : JV γ) (hC : CtI d1 M1 (.ref 0 :: as) h (okx (inW c) h A)) (hA : ∀ v g, A v g → v = x ∧ frC h g) (hR : ∀ h1, JR γ h1 → CtI d2 M2 (.ref 113 :: as) h1 (okor c 1 h1 (B h1))) (hB : ∀ h1 v g, JR γ h1 → B h1 v g → v = x ∧ triI scr h1 g) : Two d1 d2 M1 M2 as h := by
  refine ⟨_, hC, fun v h1 q => ?_⟩
  cases c with
  | true =>
    obtain ⟨a1, a2⟩ := hA v h1 (q.1 rfl)
    obtain ⟨a3, a4⟩ := hc.q a2
    have r1 := hr.cf a4
    refine ⟨a4.s, _, hR h1 r1, fun v' h2 p => ?_⟩
    obtain ⟨b1, b2⟩ := hB h1 v' h2 r1 (p.1 rfl)
    obtain ⟨b3, b4⟩ := r1.scr b2
    exact ⟨b1.trans a1.symm, ⟨γ, a3.rf b4, b3, hv⟩, a4.sk b4⟩
  | false =>
    have n0 : ¬ inW false = 0 := by decide
    obtain ⟨a1, a2⟩ := q.2 n0
    have en : (-(inW false)).toNatClampNeg = 1 := by decide
    rw [en] at a2
    subst a2
    have r1 := hr.cf (cf_no h 1)
    refine ⟨(cf_no _ _).s, _, hR _ r1, fun v' h2 p => ?_⟩
    obtain ⟨b1, b2⟩ := p.2 rfl
    subst b2
    exact ⟨b1.trans (by rw [a1]; decide), ⟨γ.no 1, (hc.no (by decide)).rf (rf_no _ _), r1.no (by decide), hv⟩, (cf_no _ _).sk (rf_no _ _)⟩
theorem tw_best {γ : Gh} {h : Hp} (hc : JC γ h) (hr : JR γ h) (hv : JV γ) : Two 6 8 mX10_best mX11_best [] h :=
  two_p hr (ct_bestC h _ (hc.k hv)) (fun v g q => ⟨q.1, hc.q q.2⟩) (fun h1 r => ct_best (ab := 0) h1 γ.s r.1 hv.1.o r.ab) (fun h1 v g r q => ⟨q.1, r.scr q.2⟩) hv
theorem tw_row (x : Int32) {γ : Gh} {h : Hp} (hc : JC γ h) (hr : JR γ h) (hv : JV γ) : Two 6 8 mX10_row mX11_row [.int x] h :=
  two_or hc hr hv (ct_rowC x h _ (hc.k hv)) (fun v g q => q) (fun h1 r => ct_row x h1 γ.s r.1 hv.1.o r.ab) (fun h1 v g r q => q)
theorem tw_cost (x : Int32) {γ : Gh} {h : Hp} (hc : JC γ h) (hr : JR γ h) (hv : JV γ) : Two 6 8 mX10_cost mX11_cost [.int x] h :=
  two_or hc hr hv (ct_costC x h _ (hc.k hv)) (fun v g q => q) (fun h1 r => ct_cost x h1 γ.s r.1 hv.1.o r.ab) (fun h1 v g r q => q)
theorem tw_margin (x : Int32) {γ : Gh} {h : Hp} (hc : JC γ h) (hr : JR γ h) (hv : JV γ) : Two 6 8 mX10_margin mX11_margin [.int x] h :=
  two_or hc hr hv (ct_marginC x h _ (hc.k hv)) (fun v g q => q) (fun h1 r => ct_margin x h1 γ.s r.1 hv.1.o r.ab) (fun h1 v g r q => q)
theorem tw_worth (x : Int32) {γ : Gh} {h : Hp} (hc : JC γ h) (hr : JR γ h) (hv : JV γ) : Two 6 8 mX10_worth mX11_worth [.int x] h :=
  two_or hc hr hv (ct_worthC x h _ (hc.k hv)) (fun v g q => q) (fun h1 r => ct_worth x h1 γ.s r.1 hv.1.o r.ab) (fun h1 v g r q => q)
theorem tw_hand {γ : Gh} {h : Hp} (hc : JC γ h) (hr : JR γ h) (hv : JV γ) : Two 6 9 mX10_hand mX11_hand [] h :=
  two_p hr (ct_handC h _ (hc.k hv)) (fun v g q => ⟨q.1, hc.q q.2⟩) (fun h1 r => ct_hand h1 γ.s r.1 hv.1.o r.ab) (fun h1 v g r q => ⟨q.1, r.scr q.2⟩) hv
theorem lyW_isW (t part : Int32) : isW (lyW t part) := by
  unfold lyW
  split
  · split
    · exact isW_0
    · exact isW_2
  · exact isW_wb _ _ _
theorem tw_likely (t part : Int32) {γ : Gh} {h : Hp} (hc : JC γ h) (hr : JR γ h) (hv : JV γ) : TwoL 5 8 mX10_likely mX11_likely [.int t, .int part] h :=
  two_qL hc hr hv (lyW_isW _ _) (ct_likelyC t part h _ (hc.k hv)) (fun v g _ q => ⟨q.1, hc.q q.2⟩) (fun h1 r => ct_likely t part h1 γ.s r.1 hv.1.o r.ab) (fun h1 v g _ r q => ⟨q.1, r.scr q.2⟩)
theorem tw_shown (what : Int32) {γ : Gh} {h : Hp} (hc : JC γ h) (hr : JR γ h) (hv : JV γ) : TwoL 6 8 mX10_shown mX11_shown [.int what] h := by
  refine ⟨_, ct_shownC what h _ (hc.k hv), fun v h1 q => ?_⟩
  by_cases c : snW γ.s what = 0
  · obtain ⟨a1, a2⟩ := q.1 c
    obtain ⟨a3, a4⟩ := hc.q a2
    have r1 := hr.cf a4
    refine ⟨a4.s, _, ct_shown what h1 γ.s r1.1 hv.1 r1.ab, fun v' h2 p => ?_⟩
    obtain ⟨b1, b2⟩ := p.1 c
    obtain ⟨b3, b4⟩ := r1.scr b2
    exact ⟨b1.trans a1.symm, ⟨γ, a3.rf b4, b3, hv⟩, a4.sk b4⟩
  · obtain ⟨a1, g1, a2, a3⟩ := q.2 c
    obtain ⟨a4, a5⟩ := hc.q a2
    subst a3
    have n7 := isW_n (snW_isW γ.s what)
    have r1 := (hr.cf a5).cf (cf_no g1 (-(snW γ.s what)).toNatClampNeg)
    refine ⟨(a5.tr (cf_no _ _)).s, _, ct_shown what _ γ.s r1.1 hv.1 r1.ab, fun v' h2 p => ?_⟩
    obtain ⟨b1, g2, b2, b3⟩ := p.2 c
    obtain ⟨b4, b5⟩ := r1.scr b2
    subst b3
    exact ⟨b1.trans a1.symm, ⟨γ.no _, (a4.no n7).rf (b5.tr (rf_no _ _)), b4.no n7, hv⟩, (a5.tr (cf_no _ _)).sk (b5.tr (rf_no _ _))⟩
theorem JC.mk {γ : Gh} {h g : Hp} (a : JC γ h) (f : Fr mkC h g) : JC γ g ∧ CF h g := a.qf f (by decide) (by decide) (by decide)
theorem awW_isW (s : Nat → Int32) (p w : Int32) : isW (awW s p w) := by
  unfold awW
  split
  · split
    · exact isW_0
    · exact isW_2
  · exact isW_1
theorem tw_answer (p w : Int32) {γ : Gh} {h : Hp} (hc : JC γ h) (hr : JR γ h) (hv : JV γ) : TwoL 5 5 mX10_answer mX11_answer [.int p, .int w] h :=
  two_qL hc hr hv (awW_isW _ _ _) (ct_answerC p w h _ hc.c hv.1) (fun v g _ q => ⟨q.1, hc.mk q.2⟩) (fun h1 r => ct_answer p w h1 γ.s r.1 hv.1.o) (fun h1 v g _ r q => ⟨q.1, r.qe q.2⟩)
theorem tw_bound {γ : Gh} {h : Hp} (hc : JC γ h) (hr : JR γ h) (hv : JV γ) : Two 6 5 mX10_bound mX11_bound [] h :=
  two_p hr (ct_boundC h _ hc.c hv.1) (fun v g q => ⟨q.1, hc.mk q.2⟩) (fun h1 r => ct_bound h1 γ.s r.1 hv.1.o) (fun h1 v g r q => ⟨q.1, r.qe q.2⟩) hv
theorem rsW_isW (s : Nat → Int32) (n t : Int32) : isW (rsW s n t) := by
  unfold rsW
  split
  · split
    · exact isW_0
    · split
      · exact isW_0
      · exact isW_1
  · exact isW_wb _ _ _
theorem tw_rounds (n t : Int32) {γ : Gh} {h : Hp} (hc : JC γ h) (hr : JR γ h) (hv : JV γ) : TwoL 6 6 mX10_rounds mX11_rounds [.int n, .int t] h :=
  two_qL hc hr hv (rsW_isW _ _ _) (ct_roundsC n t h _ hc.c hv.1) (fun v g _ q => ⟨q.1, hc.mk q.2⟩) (fun h1 r => ct_rounds n t h1 γ.s r.1 hv.1.o) (fun h1 v g _ r q => ⟨q.1, r.qf q.2 (by decide) (by decide)⟩)
theorem JC.setX {γ : Gh} {X : List Nat} {h g : Hp} (a : JC γ h) {s' : Nat → Int32} (c : sC 1 s' g) (f : Fr X h g) (hx : ∀ k, k ∈ cS 17 ++ [0, 25, 26, 38, 68] ++ lsC ++ rkC → k ∉ X) (hl : ∀ k, k ∈ X → k < 113) : JC (γ.sS s') g ∧ CF h g := by
  obtain ⟨⟨a1, a2, a3, a4, a5, a6, a7, a8, a9, a10⟩, r1, r2, d⟩ := a
  have m1 : ∀ k, k ∈ cS 17 → k ∈ cS 17 ++ [0, 25, 26, 38, 68] ++ lsC ++ rkC := by decide
  have m2 : ∀ k, k ∈ lsC → k ∈ cS 17 ++ [0, 25, 26, 38, 68] ++ lsC ++ rkC := by decide
  have m3 : ∀ k, k ∈ rkC → k ∈ cS 17 ++ [0, 25, 26, 38, 68] ++ lsC ++ rkC := by decide
  refine ⟨⟨⟨c, ?_, fun y => (a3 y).fr f (fun k hk => hx k (m1 k hk)), ?_, ?_, fun n hn => ?_, ?_, fun k hk => ?_, a9.fr f (fun k hk => hx k (m2 k hk)), a10.fr f (fun k hk => hx k (m3 k hk))⟩, r1, r2, d.fr f (hx 38 (by decide))⟩, CF.of f hl⟩
  · rw [f.1 0 (hx 0 (by decide))]
    exact a2
  · rw [f.2]
    exact a4
  · rw [f.2]
    exact a5
  · rw [f.1 68 (hx 68 (by decide))]
    exact a6 n hn
  · rw [f.1 25 (hx 25 (by decide))]
    exact a7
  · rw [f.1 26 (hx 26 (by decide))]
    exact a8 k hk
theorem JR.setX {γ : Gh} {X : List Nat} {h g : Hp} (a : JR γ h) {s' : Nat → Int32} (f : Fr X h g) (e : g.1 114 = s') (hx : ∀ k, k ∈ [113, 116, 117, 129, 130, 131, 132, 133, 134] → k ∉ X) (hl : ∀ k, k ∈ X → 113 ≤ k ∧ k < 2000) : JR (γ.sS s') g ∧ RF h g := by
  refine ⟨?_, RF.of f hl⟩
  have ee : ∀ k, k ∈ [113, 116, 117, 129, 130, 131, 132, 133, 134] → g.1 k = h.1 k := fun k hk => f.1 k (hx k hk)
  obtain ⟨a1, a2, a3, a4, a5, a6, a7, a8, a9, a10, a11, a12, a13, a14⟩ := a
  unfold JR
  rw [ee 113 (by decide), ee 116 (by decide), ee 117 (by decide), ee 134 (by decide), ee 129 (by decide), ee 130 (by decide), ee 131 (by decide), ee 132 (by decide), ee 133 (by decide), f.2]
  exact ⟨e, a2, a3, a4, a5, a6, a7, a8, a9, a10, a11, a12, a13, a14⟩
theorem tw_goes (n : Int32) {γ : Gh} {h : Hp} (hc : JC γ h) (hr : JR γ h) (hv : JV γ) : Two 6 6 mX10_goes mX11_goes [.int n] h :=
  two_ok (γ1 := γ.sS (rdN γ.s n.toNatClampNeg)) hc hr hv (isW_wb _ _ _) (ct_goesC n h _ hc.c hv.1) (fun v g _ q => ⟨q.1, hc.setX q.2.1 q.2.2 (by decide) (by decide)⟩) (fun h1 r => ct_goes n h1 γ.s r.1 hv.1.o) (fun h1 v g _ r q => ⟨q.1, r.setX q.2.1 q.2.2 (by decide) (by decide)⟩) (fun _ => ⟨rdN_in hv.1 _, hv.2⟩)
theorem rpW_isW (s : Nat → Int32) (p : Int32) : isW (rpW s p) := by
  unfold rpW
  split
  · exact isW_0
  · split
    · exact isW_0
    · exact isW_1
theorem tw_repaired (p : Int32) {γ : Gh} {h : Hp} (hc : JC γ h) (hr : JR γ h) (hv : JV γ) : Two 6 8 mX10_repaired mX11_repaired [.int p] h :=
  two_q hc hr hv (rpW_isW _ _) (ct_repairedC p h _ hc.c hv.1) (fun v g _ q => ⟨q.1, hc.qf q.2 (by decide) (by decide) (by decide)⟩) (fun h1 r => ct_repaired p h1 γ.s r.1 hv.1.o) (fun h1 v g _ r q => ⟨q.1, r.qf q.2 (by decide) (by decide)⟩)
theorem loW_isW (n w : Int32) : isW (loW n w) := by
  unfold loW
  split
  · split
    · exact isW_0
    · exact isW_2
  · exact isW_wb _ _ _
theorem tw_lots (n z w : Int32) {γ : Gh} {h : Hp} (hc : JC γ h) (hr : JR γ h) (hv : JV γ) : Two 5 8 mX10_lots mX11_lots [.int n, .int z, .int w] h :=
  two_q hc hr hv (loW_isW _ _) (ct_lotsC n z w h _ (hc.k hv)) (fun v g _ q => ⟨q.1, hc.q q.2⟩) (fun h1 r => ct_lots n z w h1 γ.s r.1 hv.1.o r.ab) (fun h1 v g _ r q => ⟨q.1, r.qt q.2 (by decide) (by decide)⟩)
