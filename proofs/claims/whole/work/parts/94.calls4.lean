/-! ===== both: purse, image, letters ===== -/
theorem JC.setPu {γ : Gh} {h : Hp} (a : JC γ h) (x : Int64) : JC (γ.sPu x) (ul h 1 8 x) ∧ CF h (ul h 1 8 x) := by
  obtain ⟨⟨a1, a2, a3, a4, a5, a6, a7, a8, a9, a10⟩, d⟩ := a
  refine ⟨⟨⟨a1, a2, a3, ul_at _ _ _ _, ?_, a6, a7, a8, a9, a10⟩, d⟩, fun _ _ => rfl, fun k hk => by rw [ul_ne (by omega)]⟩
  rw [ul_ne (by decide)]
  exact a5
theorem JR.setPu {γ : Gh} {h : Hp} (a : JR γ h) (x : Int64) : JR (γ.sPu x) (ul h 113 4 x) ∧ RF h (ul h 113 4 x) := by
  obtain ⟨a1, a2, a3, a4, a5, a6, a7, a8, a9, a10, a11, a12, a13, a14⟩ := a
  refine ⟨⟨a1, a2, a3, ul_at _ _ _ _, ?_, a6, a7, a8, a9, a10, a11, a12, a13, a14⟩, fun _ _ => rfl, fun k hk => by rw [ul_ne (by omega)], rfl, rfl⟩
  have : (ul h 113 4 x).2 113 5 = h.2 113 5 := by
    show (u2 h.2 113 4 x) 113 5 = _
    unfold u2
    rw [if_pos rfl, if_neg (by decide)]
  rw [this]
  exact a5
theorem JC.pu {γ : Gh} {h : Hp} (a : JC γ h) : h.2 1 8 = γ.pu := a.1.2.2.2.1
theorem JR.pu {γ : Gh} {h : Hp} (a : JR γ h) : h.2 113 4 = γ.pu := a.2.2.2.1
theorem tw_pays (n v : Int64) {γ : Gh} {h : Hp} (hc : JC γ h) (hr : JR γ h) (hv : JV γ) : Two 1 1 mX10_pays mX11_pays [.long n, .long v] h := by
  cases c : paB γ.pu n v
  · exact two_p (x := 1) (γ1 := γ.sPu (γ.pu + n * v)) hr (ct_paysC n v h) (fun x g q => by
      obtain ⟨q1, q2⟩ := q
      rw [hc.pu, c] at q1 q2
      rw [show g = ul h 1 8 (γ.pu + n * v) from q2]
      exact ⟨q1, hc.setPu _⟩) (fun h1 _ => ct_pays n v h1) (fun h1 x g r q => by
      obtain ⟨q1, q2⟩ := q
      rw [r.pu, c] at q1 q2
      rw [show g = ul h1 113 4 (γ.pu + n * v) from q2]
      exact ⟨q1, r.setPu _⟩) hv
  · exact two_p (x := -7) (γ1 := γ) hr (ct_paysC n v h) (fun x g q => by
      obtain ⟨q1, q2⟩ := q
      rw [hc.pu, c] at q1 q2
      exact ⟨q1, hc.qe q2⟩) (fun h1 _ => ct_pays n v h1) (fun h1 x g r q => by
      obtain ⟨q1, q2⟩ := q
      rw [r.pu, c] at q1 q2
      exact ⟨q1, r.qe q2⟩) hv
theorem tw_purse {γ : Gh} {h : Hp} (hc : JC γ h) (hr : JR γ h) (hv : JV γ) : TwoL 0 0 mX10_purse mX11_purse [] h := by
  refine ⟨_, ct_purseC h, fun v h1 q => ?_⟩
  obtain ⟨q1, q2⟩ := q
  subst q2
  refine ⟨⟨rfl, rfl⟩, _, ct_purse h1, fun v' h2 p => ?_⟩
  obtain ⟨p1, p2⟩ := p
  subst p2
  exact ⟨by rw [p1, q1, hr.pu, hc.pu], ⟨γ, hc, hr, hv⟩, rfl, rfl⟩
theorem tw_bills (n : Int32) {γ : Gh} {h : Hp} (hc : JC γ h) (hr : JR γ h) (hv : JV γ) : Two 6 8 mX10_bills mX11_bills [.int n] h := by
  refine ⟨_, ct_billsC n h _ (hc.k hv), fun v h1 q => ?_⟩
  obtain ⟨g1, f1, q1, q2⟩ := q
  obtain ⟨a1, a2⟩ := hc.q f1
  by_cases c : beV γ.s 0 = -9
  · obtain ⟨b1, b2⟩ := q1 c
    subst b2
    have r1 := (hr.cf a2).cf (cf_no g1 3)
    refine ⟨(a2.tr (cf_no _ _)).s, _, ct_bills n _ γ.s r1.1 hv.1.o r1.ab, fun v' h2 p => ?_⟩
    obtain ⟨g2, f2, p1, -⟩ := p
    obtain ⟨d1, d2⟩ := r1.scr f2
    obtain ⟨e1, e2⟩ := p1 c
    subst e2
    exact ⟨e1.trans b1.symm, ⟨γ.no 3, (a1.no (by decide)).rf (d2.tr (rf_no _ _)), d1.no (by decide), hv⟩, (a2.tr (cf_no _ _)).sk (d2.tr (rf_no _ _))⟩
  · obtain ⟨b1, b2⟩ := q2 c
    rw [hc.pu] at b1 b2
    cases cb : coB γ.pu (biV γ.s n)
    · rw [cb] at b1 b2
      have b2' : h1 = ul g1 1 8 (γ.pu + biV γ.s n) := b2
      subst b2'
      obtain ⟨s1, s2⟩ := a1.setPu (γ.pu + biV γ.s n)
      have r1 := (hr.cf a2).cf s2
      refine ⟨(a2.tr s2).s, _, ct_bills n _ γ.s r1.1 hv.1.o r1.ab, fun v' h2 p => ?_⟩
      obtain ⟨g2, f2, -, p2⟩ := p
      obtain ⟨d1, d2⟩ := r1.scr f2
      obtain ⟨e1, e2⟩ := p2 c
      rw [r1.pu, cb] at e1 e2
      have e2' : h2 = ul g2 113 4 (γ.pu + biV γ.s n) := e2
      subst e2'
      obtain ⟨t1, t2⟩ := d1.setPu (γ.pu + biV γ.s n)
      exact ⟨e1.trans b1.symm, ⟨_, s1.rf (d2.tr t2), t1, hv⟩, (a2.tr s2).sk (d2.tr t2)⟩
    · rw [cb] at b1 b2
      have b2' : h1 = g1 := b2
      subst b2'
      have r1 := hr.cf a2
      refine ⟨a2.s, _, ct_bills n _ γ.s r1.1 hv.1.o r1.ab, fun v' h2 p => ?_⟩
      obtain ⟨g2, f2, -, p2⟩ := p
      obtain ⟨d1, d2⟩ := r1.scr f2
      obtain ⟨e1, e2⟩ := p2 c
      rw [r1.pu, cb] at e1 e2
      have e2' : h2 = g2 := e2
      subst e2'
      exact ⟨e1.trans b1.symm, ⟨γ, a1.rf d2, d1, hv⟩, a2.sk d2⟩
/-! count -/
theorem cnV_c {s rf rf' : Nat → Int32} {m x : Int32} (h : ∀ n, n < 7 → rf n = rf' n) : cnV s m rf x = cnV s m rf' x := by
  unfold cnV
  by_cases c : inR x 11 16 = true
  · obtain ⟨n, en, hn, -⟩ := in1116 c
    rw [if_pos c, if_pos c, en, nI_clamp (by omega)]
    exact h n hn
  · rw [if_neg c, if_neg c]
theorem tw_count (x : Int32) {γ : Gh} {h : Hp} (hc : JC γ h) (hr : JR γ h) (hv : JV γ) : Two 1 1 mX10_count mX11_count [.int x] h :=
  two_p (x := cnV γ.s (nI γ.m) γ.rf x) hr (ct_countC x h _ hc.c hv.1) (fun v g q => by
    obtain ⟨q1, q2⟩ := q
    rw [hc.1.2.2.2.2.2.2.1, cnV_c hc.1.2.2.2.2.2.1] at q1
    exact ⟨q1, hc.qe q2⟩) (fun h1 r => ct_count x h1 γ.s r.1 hv.1.o) (fun h1 v g r q => by
    obtain ⟨q1, q2⟩ := q
    rw [r.2.2.2.2.2.2.1, cnV_c r.2.2.2.2.2.1] at q1
    exact ⟨q1, r.qe q2⟩) hv
/-! letters -/
theorem JC.m {γ : Gh} {h : Hp} (a : JC γ h) : h.1 25 1 = nI γ.m ∧ ∀ k, k < γ.m → h.1 26 k = γ.f k := ⟨a.1.2.2.2.2.2.2.1, a.1.2.2.2.2.2.2.2.1⟩
theorem JR.m {γ : Gh} {h : Hp} (a : JR γ h) : h.1 113 26 = nI γ.m ∧ h.1 134 = γ.f := ⟨a.2.2.2.2.2.2.1, a.2.2.2.2.2.2.2.1⟩
theorem JC.setLt {γ : Gh} {h g : Hp} (a : JC γ h) {f' : Nat → Int32} {m' : Nat} (f : Fr [25, 26] h g) (e1 : g.1 25 1 = nI m') (e2 : ∀ k, k < m' → g.1 26 k = f' k) : JC (γ.sLt f' m') g ∧ CF h g := by
  have dd := a.dy f (by decide)
  obtain ⟨⟨a1, a2, a3, a4, a5, a6, a7, a8, a9, a10⟩, -⟩ := a
  have m0 : ∀ k, k ∈ cS 1 → k ∉ [25, 26] := by decide
  have m1 : ∀ k, k ∈ cS 17 → k ∉ [25, 26] := by decide
  have m3 : ∀ k, k ∈ lsC → k ∉ [25, 26] := by decide
  have m4 : ∀ k, k ∈ rkC → k ∉ [25, 26] := by decide
  refine ⟨⟨⟨a1.fr f m0, ?_, fun y => (a3 y).fr f m1, ?_, ?_, fun n hn => ?_, e1, e2, a9.fr f m3, a10.fr f m4⟩, dd⟩, CF.of f (by decide)⟩
  · rw [f.1 0 (by decide)]
    exact a2
  · rw [f.2]
    exact a4
  · rw [f.2]
    exact a5
  · rw [f.1 68 (by decide)]
    exact a6 n hn
theorem tw_letter (x : Int32) {γ : Gh} {h : Hp} (hc : JC γ h) (hr : JR γ h) (hv : JV γ) : Two 1 1 mX10_letter mX11_letter [.int x] h :=
  two_ok (x := nI (γ.m + 1)) (γ1 := γ.sLt (upd γ.f γ.m x) (if γ.m < 120 then γ.m + 1 else γ.m)) hc hr hv (leW_isW _ _) (ct_letterC hv.2.2.2 x h hc.m.1) (fun v g _ q => by
    obtain ⟨q1, q2, q3⟩ := q
    rw [if_pos q3]
    refine ⟨q1, hc.setLt ?_ ?_ (fun k hk => ?_)⟩
    · rw [q2]
      exact (Fr.ui (by decide)).tr (Fr.ui (by decide))
    · rw [q2, ui_aa]
    · rw [q2, ui_ne (by decide), ui_up]
      unfold upd
      by_cases y : k = γ.m
      · rw [if_pos y, if_pos y]
      · rw [if_neg y, if_neg y]
        exact hc.m.2 k (by omega)) (fun h1 r => ct_letter hv.2.2.2 x h1 r.m.1) (fun h1 v g _ r q => by
    obtain ⟨q1, q2, q3⟩ := q
    rw [if_pos q3]
    refine ⟨q1, ?_, ?_⟩
    · obtain ⟨a1, a2, a3, a4, a5, a6, a7, a8, a9, a10, a11, a12, a13, a14⟩ := r
      have f : Fr [113, 134] h1 g := by
        rw [q2]
        exact (Fr.ui (by decide)).tr (Fr.ui (by decide))
      have f3 : ∀ i, i ≠ 26 → g.1 113 i = h1.1 113 i := fun i hi => by rw [q2, ui_nj hi, ui_ne (by decide)]
      unfold JR
      rw [f3 3 (by decide), f3 8 (by decide), f.1 114 (by decide), f.1 116 (by decide), f.1 117 (by decide), f.1 129 (by decide), f.1 130 (by decide), f.1 131 (by decide), f.1 132 (by decide), f.1 133 (by decide), f.2]
      refine ⟨a1, a2, a3, a4, a5, a6, ?_, ?_, a9, a10, a11, a12, a13, a14⟩
      · rw [q2, ui_aa]
      · rw [q2, ui_ne (by decide), ui_up, a8]
    · rw [q2]
      exact RF.of (X := [113, 134]) ((Fr.ui (by decide)).tr (Fr.ui (by decide))) (by decide)) (fun _ => ⟨hv.1, hv.2.1, hv.2.2.1, by
    show (if γ.m < 120 then γ.m + 1 else γ.m) ≤ 120
    have : γ.m ≤ 120 := hv.2.2.2
    split <;> omega⟩)
theorem teC_x : ∀ k, k ∈ cS 17 ++ [0, 26, 38, 68] ++ lsC ++ rkC → k ∉ teC := by decide
theorem InS_ap {f s0 : Nat → Int32} {m : Nat} (i0 : InS s0) : ∀ u s a, InS s → InS (apL f m s0 u s a).2
  | 0, s, _, i => i
  | u + 1, s, a, i => by
    rw [apL]
    by_cases c : a < m
    · rw [if_pos c]
      by_cases w : wtS s (heL f m a) (rdL f m a).2.2.1 (rdL f m a).2.2.2 = 0
      · rw [if_pos w]
        exact InS_ap i0 u _ _ (InS_do i w)
      · rw [if_neg w]
        exact i0
    · rw [if_neg c]
      exact i
theorem InS_te {s f : Nat → Int32} {m : Nat} (i : InS s) : InS (teV s f m).2 := by
  unfold teV
  by_cases c : (fpL f m 121 0 0).1 = true
  · rw [if_pos c]
    exact InS_ap i 121 s 0 i
  · rw [if_neg c]
    exact i
theorem tw_tells {γ : Gh} {h : Hp} (hc : JC γ h) (hr : JR γ h) (hv : JV γ) : Two 7 5 mX10_tells mX11_tells [] h :=
  two_p (x := (teV γ.s γ.f γ.m).1) (γ1 := (γ.sS (teV γ.s γ.f γ.m).2).sLt γ.f 0) hr (ct_tellsC hv.2.2.2 h _ hc.c hv.1 hc.m.1 hc.m.2) (fun v g q => by
    obtain ⟨q1, q2, q3, q4, q5, q6, q7, q8⟩ := q
    have ee : ∀ k, k ∈ cS 17 ++ [0, 26, 38, 68] ++ lsC ++ rkC → g.1 k = h.1 k := fun k hk => q5 k (teC_x k hk)
    obtain ⟨⟨a1, a2, a3, a4, a5, a6, a7, a8, a9, a10⟩, r1, r2, d1, d2, d3⟩ := hc
    have m1 : ∀ k, k ∈ cS 17 → k ∈ cS 17 ++ [0, 26, 38, 68] ++ lsC ++ rkC := by decide
    have m2 : ∀ k, k ∈ lsC → k ∈ cS 17 ++ [0, 26, 38, 68] ++ lsC ++ rkC := by decide
    have m3 : ∀ k, k ∈ rkC → k ∈ cS 17 ++ [0, 26, 38, 68] ++ lsC ++ rkC := by decide
    refine ⟨q1, ⟨⟨q2, ?_, fun y i hi => ?_, q6.trans a4, q7.trans a5, fun n hn => ?_, q4, fun k hk => absurd hk (Nat.not_lt_zero k), fun l hl => ?_, fun r hr => ?_⟩, r1, r2, d1, ?_, ?_⟩, ?_, ?_⟩
    · rw [ee 0 (by decide)]
      exact a2
    · rw [ee _ (m1 _ (cS_in 17 hi))]
      exact a3 y i hi
    · rw [ee 68 (by decide)]
      exact a6 n hn
    · rw [ee _ (m2 _ (ls_c l hl).1), ee _ (m2 _ (ls_c l hl).2)]
      exact a9 l hl
    · refine (a10 r hr).c rfl rfl (fun _ _ _ _ => rfl) ?_ (fun j hj => ?_)
      · rw [ee _ (m3 _ (rkC_in (by omega) (by omega)))]
        exact ⟨rfl, rfl⟩
      · rw [ee _ (m3 _ (rkC_in (by omega) (by omega))), ee _ (m3 _ (rkC_in (by omega) (by omega)))]
        exact ⟨rfl, fun _ _ => rfl⟩
    · rw [ee 38 (by decide)]
      exact d2
    · rw [ee 38 (by decide)]
      exact d3
    · intro k hk
      refine q5 k (fun y => ?_)
      have : ∀ x, x ∈ teC → x < 113 := by decide
      have := this k y
      omega
    · exact q8) (fun h1 r => ct_tells hv.2.2.2 h1 γ.s r.1 hv.1.o r.m.1 r.m.2) (fun h1 v g r q => by
    obtain ⟨q1, q2, q3, q4⟩ := q
    obtain ⟨a1, a2, a3, a4, a5, a6, a7, a8, a9, a10, a11, a12, a13, a14⟩ := r
    obtain ⟨f1, f2⟩ := q2
    refine ⟨q1, ?_, RF.of f1 (by decide)⟩
    unfold JR
    rw [f2 3 (by decide) (by decide) (by decide) (by decide), f2 8 (by decide) (by decide) (by decide) (by decide), f1.1 116 (by decide), f1.1 117 (by decide), f1.1 129 (by decide), f1.1 130 (by decide), f1.1 131 (by decide), f1.1 132 (by decide), f1.1 133 (by decide), f1.1 134 (by decide), f1.2]
    exact ⟨q3, a2, a3, a4, a5, a6, q4, a8, a9, a10, a11, a12, a13, a14⟩) ⟨InS_te hv.1, hv.2.1, hv.2.2.1, Nat.zero_le _⟩
