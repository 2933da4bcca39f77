/-! ===== both: lists, racks, purse, image, letters ===== -/
theorem JC.setL {γ : Gh} {X : List Nat} {h g : Hp} (a : JC γ h) {z' it' : Nat → Int32} (c : lsI z' it' g) (f : Fr X h g) (d : ∃ r1 r2, dyI r1 r2 g) (hx : ∀ k, k ∈ cS 1 ++ cS 17 ++ [0, 25, 26, 68] ++ rkC → k ∉ X) (hl : ∀ k, k ∈ X → k < 113) : JC (γ.sLs z' it') g ∧ CF h g := by
  obtain ⟨⟨a1, a2, a3, a4, a5, a6, a7, a8, a9, a10⟩, -⟩ := a
  have m0 : ∀ k, k ∈ cS 1 → k ∈ cS 1 ++ cS 17 ++ [0, 25, 26, 68] ++ rkC := by decide
  have m1 : ∀ k, k ∈ cS 17 → k ∈ cS 1 ++ cS 17 ++ [0, 25, 26, 68] ++ rkC := by decide
  have m3 : ∀ k, k ∈ rkC → k ∈ cS 1 ++ cS 17 ++ [0, 25, 26, 68] ++ rkC := by decide
  refine ⟨⟨⟨a1.fr f (fun k hk => hx k (m0 k hk)), ?_, fun y => (a3 y).fr f (fun k hk => hx k (m1 k hk)), ?_, ?_, fun n hn => ?_, ?_, fun k hk => ?_, c, a10.fr f (fun k hk => hx k (m3 k hk))⟩, d⟩, CF.of f hl⟩
  · rw [f.1 0 (hx 0 (by decide))]
    exact a2
  · rw [f.2]
    exact a4
  · rw [f.2]
    exact a5
  · rw [f.1 68 (hx 68 (by decide))]
    exact a6 n hn
  · rw [f.1 25 (hx 25 (by decide))]
    exact a7
  · rw [f.1 26 (hx 26 (by decide))]
    exact a8 k hk
theorem JC.dy {γ : Gh} {X : List Nat} {h g : Hp} (a : JC γ h) (f : Fr X h g) (h38 : 38 ∉ X) : ∃ r1 r2, dyI r1 r2 g := by
  obtain ⟨r1, r2, d⟩ := a.2
  exact ⟨r1, r2, d.fr f h38⟩
theorem JR.setL {γ : Gh} {X : List Nat} {h g : Hp} (a : JR γ h) {z' it' : Nat → Int32} (f : Fr X h g) (f3 : ∀ i, i ≠ 15 → g.1 113 i = h.1 113 i) (e1 : g.1 129 = z') (e2 : g.1 130 = it') (hx : ∀ k, k ∈ [114, 116, 117, 131, 132, 133, 134] → k ∉ X) (hl : ∀ k, k ∈ X → 113 ≤ k ∧ k < 2000) : JR (γ.sLs z' it') g ∧ RF h g := by
  refine ⟨?_, RF.of f hl⟩
  have ee : ∀ k, k ∈ [114, 116, 117, 131, 132, 133, 134] → g.1 k = h.1 k := fun k hk => f.1 k (hx k hk)
  obtain ⟨a1, a2, a3, a4, a5, a6, a7, a8, a9, a10, a11, a12, a13, a14⟩ := a
  unfold JR
  rw [f3 3 (by decide), f3 26 (by decide), f3 8 (by decide), ee 114 (by decide), ee 116 (by decide), ee 117 (by decide), ee 134 (by decide), ee 131 (by decide), ee 132 (by decide), ee 133 (by decide), f.2]
  exact ⟨a1, a2, a3, a4, a5, a6, a7, a8, e1, e2, a11, a12, a13, a14⟩
theorem JR.z {γ : Gh} {h : Hp} (a : JR γ h) : h.1 129 = γ.z ∧ h.1 130 = γ.it := ⟨a.2.2.2.2.2.2.2.2.1, a.2.2.2.2.2.2.2.2.2.1⟩
theorem JC.l {γ : Gh} {h : Hp} (a : JC γ h) : lsI γ.z γ.it h := a.1.2.2.2.2.2.2.2.2.1
theorem JC.r {γ : Gh} {h : Hp} (a : JC γ h) : rkI γ.ks γ.sz γ.la h := a.1.2.2.2.2.2.2.2.2.2
theorem JR.r {γ : Gh} {h : Hp} (a : JR γ h) : h.1 131 = γ.ks ∧ h.1 132 = γ.sz ∧ h.1 133 = γ.la := ⟨a.2.2.2.2.2.2.2.2.2.2.1, a.2.2.2.2.2.2.2.2.2.2.2.1, a.2.2.2.2.2.2.2.2.2.2.2.2.1⟩
theorem liW_isW (l n : Int32) : isW (liW l n) := by
  unfold liW
  split
  · split
    · exact isW_0
    · exact isW_6
  · exact isW_1
theorem isW_01 (b : Bool) : isW (if b then 0 else -1) := by
  split
  · exact isW_0
  · exact isW_1
theorem okZ_up {z : Nat → Int32} (hz : okZ z) {l n : Int32} (w : liW l n = 0) (h0 : 0 ≤ n) : okZ (upd z l.toNatClampNeg n) := fun k hk => by
  by_cases y : k = l.toNatClampNeg
  · rw [y, upd_at]
    right
    have c := inR_f w (by decide)
    unfold liW at w
    rw [if_pos c] at w
    have n20 : n ≤ 20 := by
      by_cases d : n ≤ 20
      · exact d
      · rw [if_neg d] at w
        exact absurd w (by decide)
    exact nI_of2 (M := 20) (by decide) (Int32.not_lt.mpr h0) n20
  · rw [upd_ne _ _ y]
    exact hz k hk
theorem tw_list (l n : Int32) {γ : Gh} {h : Hp} (hc : JC γ h) (hr : JR γ h) (hv : JV γ) : Two 2 2 mX10_list mX11_list [.int l, .int n] h := by
  by_cases h0 : 0 ≤ n
  · exact two_ok (x := 1) (γ1 := γ.sLs (upd γ.z l.toNatClampNeg n) (itZ γ.it l.toNatClampNeg 20)) hc hr hv (liW_isW _ _) (ct_listC l n h _ _ hc.l) (fun v g _ q => by
      obtain ⟨q1, q2, q3⟩ := q.1 h0
      exact ⟨q1, hc.setL q2 q3 (hc.dy q3 (by decide)) (by decide) (by decide)⟩) (fun h1 r => ct_list l n h1) (fun h1 v g _ r q => by
      obtain ⟨q1, q2, q3, q4⟩ := q.1 h0
      rw [r.z.1] at q3
      rw [r.z.2] at q4
      exact ⟨q1, r.setL q2 (fun i _ => by rw [q2.1 113 (by decide)]) q3 q4 (by decide) (by decide)⟩) (fun w => ⟨hv.1, hv.2.1, okZ_up hv.2.2.1 w h0, hv.2.2.2⟩)
  · exact two_q (x := -14) hc hr hv (liW_isW _ _) (ct_listC l n h _ _ hc.l) (fun v g _ q => ⟨(q.2 h0).1, hc.qe (q.2 h0).2⟩) (fun h1 r => ct_list l n h1) (fun h1 v g _ r q => ⟨(q.2 h0).1, r.qe (q.2 h0).2⟩)
theorem tw_put (l i x : Int32) {γ : Gh} {h : Hp} (hc : JC γ h) (hr : JR γ h) (hv : JV γ) : Two 1 2 mX10_put mX11_put [.int l, .int i, .int x] h :=
  two_ok (x := puV γ.z l.toNatClampNeg i) (γ1 := γ.sLs γ.z (if puV γ.z l.toNatClampNeg i = 1 then upd γ.it (20 * l.toNatClampNeg + i.toNatClampNeg) x else γ.it)) hc hr hv (isW_01 _) (ct_putC l i x h _ _ hc.l hv.2.2.1) (fun v g _ q => ⟨q.1, hc.setL q.2.2 q.2.1 (hc.dy q.2.1 (by decide)) (by decide) (by decide)⟩) (fun h1 r => ct_put l i x h1 (by rw [r.z.1]; exact hv.2.2.1)) (fun h1 v g _ r q => by
    obtain ⟨q1, q2⟩ := q
    rw [r.z.1] at q1 q2
    refine ⟨q1, ?_⟩
    by_cases c : puV γ.z l.toNatClampNeg i = 1
    · rw [if_pos c] at q2 ⊢
      have f : Fr [130] h1 g := by
        rw [q2]
        exact Fr.ui (List.mem_cons_self ..)
      refine r.setL f (fun i _ => by rw [f.1 113 (by decide)]) ?_ ?_ (by decide) (by decide)
      · rw [f.1 129 (by decide)]
        exact r.z.1
      · rw [q2, ui_up, r.z.2]
    · rw [if_neg c] at q2 ⊢
      subst q2
      exact r.setL (X := []) Fr.rf (fun _ _ => rfl) r.z.1 r.z.2 (by decide) (by decide)) (fun _ => hv)
theorem tw_judge (l : Int32) {γ : Gh} {h : Hp} (hc : JC γ h) (hr : JR γ h) (hv : JV γ) : Two 5 4 mX10_judge mX11_judge [.int l] h :=
  two_q (x := juV γ.s γ.z γ.it l.toNatClampNeg) hc hr hv (isW_01 _) (ct_judgeC l h _ (hc.k hv) _ _ hc.l hv.2.2.1) (fun v g _ q => ⟨q.1, hc.q q.2⟩) (fun h1 r => ct_judge l h1 γ.s r.1 hv.1.o) (fun h1 v g _ r q => by
    obtain ⟨q1, q2⟩ := q
    rw [r.z.1, r.z.2] at q1
    exact ⟨q1, r.qf q2 (by decide) (by decide)⟩)
theorem wiW_isW (s : Nat → Int32) (l p w : Int32) : isW (wiW s l p w) := by
  unfold wiW
  split
  · split
    · split
      · exact isW_0
      · exact isW_2
    · exact isW_1
  · exact isW_1
theorem tw_whatIs (l p w : Int32) {γ : Gh} {h : Hp} (hc : JC γ h) (hr : JR γ h) (hv : JV γ) : Two 3 2 mX10_whatIs mX11_whatIs [.int l, .int p, .int w] h :=
  two_q (x := wiV γ.s γ.z γ.it l.toNatClampNeg p.toNatClampNeg w) hc hr hv (wiW_isW _ _ _ _) (ct_whatIsC l p w h _ hc.c hv.1 _ _ hc.l hv.2.2.1) (fun v g _ q => ⟨q.1, hc.qe q.2⟩) (fun h1 r => ct_whatIs l p w h1 γ.s r.1 hv.1.o (by rw [r.z.1]; exact hv.2.2.1)) (fun h1 v g _ r q => by
    obtain ⟨q1, q2⟩ := q
    rw [r.z.1, r.z.2] at q1
    exact ⟨q1, r.qe q2⟩)
theorem laW_isW (s : Nat → Int32) (l : Int32) : isW (laW s l) := by
  unfold laW
  split
  · split
    · exact isW_3
    · exact isW_0
  · exact isW_1
theorem tw_lays (l x : Int32) {γ : Gh} {h : Hp} (hc : JC γ h) (hr : JR γ h) (hv : JV γ) : Two 6 8 mX10_lays mX11_lays [.int l, .int x] h := by
  refine ⟨_, ct_laysC l x h _ (hc.k hv) _ _ hc.l hv.2.2.1, fun v h1 q => ?_⟩
  by_cases c : laW γ.s l = 0
  · obtain ⟨a1, a2, a3, a4⟩ := q.1 c
    obtain ⟨a5, a6⟩ := hc.setL a4 a2 a3 (by decide) (by decide)
    have r1 := hr.cf a6
    refine ⟨a6.s, _, ct_lays l x h1 γ.s r1.1 hv.1.o r1.ab (by rw [r1.z.1]; exact hv.2.2.1), fun v' h2 p => ?_⟩
    obtain ⟨b1, b2, b3⟩ := p.1 c
    rw [r1.z.1, r1.z.2] at b1 b3
    obtain ⟨b4, b5⟩ := r1.setL (z' := γ.z) b2.1 b2.2 (by rw [b2.1.1 129 (by decide)]; exact r1.z.1) b3 (by decide) (by decide)
    exact ⟨b1.trans a1.symm, ⟨_, a5.rf b5, b4, hv⟩, a6.sk b5⟩
  · obtain ⟨a1, g1, a2, a3⟩ := q.2 c
    obtain ⟨a4, a5⟩ := hc.q a2
    subst a3
    have n7 := isW_n (laW_isW γ.s l)
    have r1 := (hr.cf a5).cf (cf_no g1 (-(laW γ.s l)).toNatClampNeg)
    refine ⟨(a5.tr (cf_no _ _)).s, _, ct_lays l x _ γ.s r1.1 hv.1.o r1.ab (by rw [r1.z.1]; exact hv.2.2.1), fun v' h2 p => ?_⟩
    obtain ⟨b1, g2, b2, b3⟩ := p.2 c
    obtain ⟨b4, b5⟩ := r1.scr b2
    subst b3
    exact ⟨b1.trans a1.symm, ⟨γ.no _, (a4.no n7).rf (b5.tr (rf_no _ _)), b4.no n7, hv⟩, (a5.tr (cf_no _ _)).sk (b5.tr (rf_no _ _))⟩
/-! racks -/
theorem JC.setR {γ : Gh} {h g : Hp} (a : JC γ h) {ks sz la : Nat → Int32} (c : rkI ks sz la g) (f : Fr rkC h g) : JC (γ.sRk ks sz la) g ∧ CF h g := by
  have dd := a.dy f (by decide)
  obtain ⟨⟨a1, a2, a3, a4, a5, a6, a7, a8, a9, a10⟩, -⟩ := a
  have m0 : ∀ k, k ∈ cS 1 → k ∉ rkC := by decide
  have m1 : ∀ k, k ∈ cS 17 → k ∉ rkC := by decide
  have m3 : ∀ k, k ∈ lsC → k ∉ rkC := by decide
  refine ⟨⟨⟨a1.fr f m0, ?_, fun y => (a3 y).fr f m1, ?_, ?_, fun n hn => ?_, ?_, fun k hk => ?_, a9.fr f m3, c⟩, dd⟩, CF.of f (by decide)⟩
  · rw [f.1 0 (by decide)]
    exact a2
  · rw [f.2]
    exact a4
  · rw [f.2]
    exact a5
  · rw [f.1 68 (by decide)]
    exact a6 n hn
  · rw [f.1 25 (by decide)]
    exact a7
  · rw [f.1 26 (by decide)]
    exact a8 k hk
theorem JR.setR {γ : Gh} {h g : Hp} (a : JR γ h) {ks sz la : Nat → Int32} (f : Fr [131, 132, 133] h g) (e1 : g.1 131 = ks) (e2 : g.1 132 = sz) (e3 : g.1 133 = la) : JR (γ.sRk ks sz la) g ∧ RF h g := by
  refine ⟨?_, RF.of f (by decide)⟩
  obtain ⟨a1, a2, a3, a4, a5, a6, a7, a8, a9, a10, a11, a12, a13, a14⟩ := a
  unfold JR
  rw [f.1 113 (by decide), f.1 114 (by decide), f.1 116 (by decide), f.1 117 (by decide), f.1 134 (by decide), f.1 129 (by decide), f.1 130 (by decide), f.2]
  exact ⟨a1, a2, a3, a4, a5, a6, a7, a8, a9, a10, e1, e2, e3, a14⟩
theorem raW_isW (r k n : Int32) : isW (raW r k n) := by
  unfold raW
  split
  · split
    · split
      · exact isW_0
      · exact isW_6
    · exact isW_2
  · exact isW_1
theorem tw_rack (r k n : Int32) {γ : Gh} {h : Hp} (hc : JC γ h) (hr : JR γ h) (hv : JV γ) : Two 1 2 mX10_rack mX11_rack [.int r, .int k, .int n] h := by
  by_cases h0 : 0 ≤ n
  · exact two_ok (x := 1) (γ1 := γ.sRk (upd γ.ks r.toNatClampNeg k) (upd γ.sz r.toNatClampNeg n) (raZ γ.la r.toNatClampNeg 9)) hc hr hv (raW_isW _ _ _) (ct_rackC r k n h _ _ _ hc.r) (fun v g _ q => by
      obtain ⟨q1, q2, q3⟩ := q.1 h0
      exact ⟨q1, hc.setR q2 q3⟩) (fun h1 _ => ct_rack r k n h1) (fun h1 v g _ e q => by
      obtain ⟨q1, q2, q3, q4, q5⟩ := q.1 h0
      rw [e.r.1] at q3
      rw [e.r.2.1] at q4
      rw [e.r.2.2] at q5
      exact ⟨q1, e.setR q2 q3 q4 q5⟩) (fun _ => hv)
  · exact two_q (x := -14) hc hr hv (raW_isW _ _ _) (ct_rackC r k n h _ _ _ hc.r) (fun v g _ q => ⟨(q.2 h0).1, hc.qe (q.2 h0).2⟩) (fun h1 _ => ct_rack r k n h1) (fun h1 v g _ e q => ⟨(q.2 h0).1, e.qe (q.2 h0).2⟩)
theorem rcW_isW (s : Nat → Int32) (r p : Int32) : isW (rcW s r p) := by
  unfold rcW
  split
  · split
    · exact isW_0
    · split
      · exact isW_0
      · exact isW_1
  · exact isW_1
theorem tw_racks (r i p : Int32) {γ : Gh} {h : Hp} (hc : JC γ h) (hr : JR γ h) (hv : JV γ) : Two 2 2 mX10_racks mX11_racks [.int r, .int i, .int p] h :=
  two_ok (x := rcV γ.s γ.ks γ.sz r.toNatClampNeg i p) (γ1 := γ.sRk γ.ks γ.sz (if rcV γ.s γ.ks γ.sz r.toNatClampNeg i p = 1 then rcL γ.la γ.s r.toNatClampNeg i p else γ.la)) hc hr hv (rcW_isW _ _ _) (ct_racksC r i p h _ hc.c hv.1 _ _ _ hc.r) (fun v g _ q => ⟨q.1, hc.setR q.2.2 q.2.1⟩) (fun h1 e => ct_racks r i p h1 γ.s e.1 hv.1.o (by rw [e.r.1, e.r.2.1]; exact hc.r.ok)) (fun h1 v g _ e q => by
    obtain ⟨q1, q2⟩ := q
    rw [e.r.1, e.r.2.1] at q1 q2
    refine ⟨q1, ?_⟩
    by_cases c : rcV γ.s γ.ks γ.sz r.toNatClampNeg i p = 1
    · rw [if_pos c] at q2 ⊢
      have f : Fr [133] h1 g := by
        rw [q2]
        unfold rcH
        exact ((Fr.ui (List.mem_cons_self ..)).tr (Fr.ui (List.mem_cons_self ..))).tr (Fr.ui (List.mem_cons_self ..))
      refine e.setR (f.mono (by decide)) ?_ ?_ ?_
      · rw [f.1 131 (by decide)]
        exact e.r.1
      · rw [f.1 132 (by decide)]
        exact e.r.2.1
      · rw [q2]
        unfold rcH rcL
        rw [ui_up, ui_up, ui_up, e.r.2.2]
    · rw [if_neg c] at q2 ⊢
      subst q2
      exact e.setR Fr.rf e.r.1 e.r.2.1 e.r.2.2) (fun _ => hv)
theorem tw_racked (r i x : Int32) {γ : Gh} {h : Hp} (hc : JC γ h) (hr : JR γ h) (hv : JV γ) : Two 3 2 mX10_racked mX11_racked [.int r, .int i, .int x] h :=
  two_q (x := rkV γ.ks γ.sz γ.la r.toNatClampNeg i x) hc hr hv (rkW_isW _ _) (ct_rackedC r i x h _ _ _ hc.r) (fun v g _ q => ⟨q.1, hc.qe q.2⟩) (fun h1 e => ct_racked r i x h1 (by rw [e.r.1, e.r.2.1]; exact hc.r.ok)) (fun h1 v g _ e q => by
    obtain ⟨q1, q2⟩ := q
    rw [e.r.1, e.r.2.1, e.r.2.2] at q1
    exact ⟨q1, e.qe q2⟩)
theorem lkW_isW (r x : Int32) : isW (lkW r x) := by
  unfold lkW
  split
  · split
    · exact isW_0
    · exact isW_1
  · exact isW_1
theorem tw_like (r x : Int32) {γ : Gh} {h : Hp} (hc : JC γ h) (hr : JR γ h) (hv : JV γ) : Two 2 2 mX10_like mX11_like [.int r, .int x] h := by
  by_cases k9 : γ.ks x.toNatClampNeg = -9
  · exact two_q (x := -11) hc hr hv (lkW_isW _ _) (ct_likeC r x h _ _ _ hc.r) (fun v g _ q => ⟨(q.1 k9).1, hc.qe (q.1 k9).2⟩) (fun h1 _ => ct_like r x h1) (fun h1 v g _ e q => by
      have k9' := k9
      rw [← e.r.1] at k9'
      exact ⟨(q.1 k9').1, e.qe (q.1 k9').2⟩)
  · exact two_ok (x := γ.sz x.toNatClampNeg) (γ1 := γ.sRk (upd γ.ks r.toNatClampNeg (γ.ks x.toNatClampNeg)) (upd γ.sz r.toNatClampNeg (γ.sz x.toNatClampNeg)) (va_cpy γ.la γ.la (27 * x.toNatClampNeg) (27 * r.toNatClampNeg) 27)) hc hr hv (lkW_isW _ _) (ct_likeC r x h _ _ _ hc.r) (fun v g _ q => ⟨(q.2 k9).1, hc.setR (q.2 k9).2.2 (q.2 k9).2.1⟩) (fun h1 _ => ct_like r x h1) (fun h1 v g _ e q => by
      have k9' := k9
      rw [← e.r.1] at k9'
      obtain ⟨q1, q2⟩ := q.2 k9'
      rw [e.r.2.1] at q1
      refine ⟨q1, e.setR ?_ ?_ ?_ ?_⟩
      · rw [q2]
        unfold liH
        exact ((Fr.ui (by decide)).tr (Fr.ui (by decide))).tr (Fr.uc (by decide))
      · rw [q2]
        unfold liH
        rw [uc_ne _ _ (by decide), ui_ne (by decide), ui_up, e.r.1]
      · rw [q2]
        unfold liH
        rw [uc_ne _ _ (by decide), ui_up, ui_ne (by decide), e.r.2.1]
      · rw [q2]
        unfold liH
        rw [uc_at, e.r.2.2]) (fun _ => hv)
