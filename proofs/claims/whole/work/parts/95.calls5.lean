/-! ===== both: the image ===== -/
theorem InS_ext {s s' : Nat → Int32} (i : InS s) (e : ∀ j, j < 49 → s' j = s j) : InS s' := by
  obtain ⟨o, a, b, c, d, f⟩ := i
  have hP := o.hP
  have eP : nP s' = nP s := by
    unfold nP
    rw [e 3 (by omega)]
  have eH : nH s' = nH s := by
    unfold nH
    rw [e 0 (by omega)]
  refine ⟨(o.of (e 0 (by omega)) (e 3 (by omega))).1, fun t ht => ?_, ?_, ?_, fun q hq => ?_, ?_⟩
  · rw [e (4 + t) (by omega), e (9 + t) (by omega), e (14 + t) (by omega)]
    exact a t ht
  · rw [e 1 (by omega)]
    exact b
  · rw [e 2 (by omega)]
    exact c
  · rw [eP] at hq
    have ex : plE (pfS s' q) (pfS s q) := fun w hw => e (19 + 10 * q + w) (by omega)
    exact ex.I (d q hq)
  · rw [eH]
    exact f
theorem tw_image {γ : Gh} {h : Hp} (hc : JC γ h) (hr : JR γ h) (hv : JV γ) : Two 2 1 mX10_image mX11_image [] h :=
  two_p (x := γ.s 3) (γ1 := γ.sIm γ.s 1 γ.pu) hr (ct_imageC h _ hc.c) (fun v g q => by
    obtain ⟨q1, q2, q3, q4, q5, q6⟩ := q
    have pu := hc.pu
    obtain ⟨⟨a1, a2, a3, a4, a5, a6, a7, a8, a9, a10⟩, r1, r2, d1, d2, d3⟩ := hc
    have ee : ∀ k, k ∈ cS 1 ++ [25, 26, 38, 68] ++ lsC ++ rkC → g.1 k = h.1 k := fun k hk => q4 k (by
      have : ∀ k, k ∈ cS 1 ++ [25, 26, 38, 68] ++ lsC ++ rkC → k ∉ 0 :: cS 17 := by decide
      exact this k hk)
    have m1 : ∀ k, k ∈ cS 1 → k ∈ cS 1 ++ [25, 26, 38, 68] ++ lsC ++ rkC := by decide
    have m2 : ∀ k, k ∈ lsC → k ∈ cS 1 ++ [25, 26, 38, 68] ++ lsC ++ rkC := by decide
    have m3 : ∀ k, k ∈ rkC → k ∈ cS 1 ++ [25, 26, 38, 68] ++ lsC ++ rkC := by decide
    refine ⟨q1, ⟨⟨fun i hi => ?_, q3, fun _ => q2, ?_, ?_, fun n hn => ?_, ?_, fun k hk => ?_, fun l hl => ?_, fun r hr => ?_⟩, r1, r2, d1, ?_, ?_⟩, ?_, ?_⟩
    · rw [ee _ (m1 _ (cS_in 1 hi))]
      exact a1 i hi
    · rw [q6, ul_ne (show (1 : Nat) ≠ 17 by decide)]
      exact a4
    · rw [q6, ul_at]
      exact pu
    · rw [ee 68 (by decide)]
      exact a6 n hn
    · rw [ee 25 (by decide)]
      exact a7
    · rw [ee 26 (by decide)]
      exact a8 k hk
    · rw [ee _ (m2 _ (ls_c l hl).1), ee _ (m2 _ (ls_c l hl).2)]
      exact a9 l hl
    · refine (a10 r hr).c rfl rfl (fun _ _ _ _ => rfl) ?_ (fun j hj => ?_)
      · rw [ee _ (m3 _ (rkC_in (by omega) (by omega)))]
        exact ⟨rfl, rfl⟩
      · rw [ee _ (m3 _ (rkC_in (by omega) (by omega))), ee _ (m3 _ (rkC_in (by omega) (by omega)))]
        exact ⟨rfl, fun _ _ => rfl⟩
    · rw [ee 38 (by decide)]
      exact d2
    · rw [ee 38 (by decide)]
      exact d3
    · intro k hk
      refine q4 k (fun y => ?_)
      have : ∀ x, x ∈ 0 :: cS 17 → x < 113 := by decide
      have := this k y
      omega
    · intro k hk
      rw [q6, ul_ne (show k ≠ 17 by omega)]) (fun h1 _ => ct_image h1) (fun h1 v g r q => by
    obtain ⟨q1, q2⟩ := q
    have pu := r.pu
    obtain ⟨a1, a2, a3, a4, a5, a6, a7, a8, a9, a10, a11, a12, a13, a14⟩ := r
    have f1 : ∀ k, k ≠ 113 → k ≠ 116 → g.1 k = h1.1 k := fun k k1 k2 => by
      rw [q2, ui_ne k1]
      exact uc_ne h1 _ k2
    have f3 : ∀ i, i ≠ 3 → g.1 113 i = h1.1 113 i := fun i hi => by
      rw [q2, ui_nj hi]
      show (uc h1 116 (va_cpy (h1.1 114) (h1.1 116) 0 0 49)).1 113 i = _
      rw [uc_ne _ _ (show (113 : Nat) ≠ 116 by decide)]
    have e16 : ∀ i, i < 49 → g.1 116 i = γ.s i := fun i hi => by
      rw [q2, ui_ne (by decide)]
      show (uc h1 116 (va_cpy (h1.1 114) (h1.1 116) 0 0 49)).1 116 i = _
      rw [uc_at, cpy_lt _ _ hi, a1]
    have g2 : ∀ k, k ≠ 113 → g.2 k = h1.2 k := fun k hk => by
      rw [q2]
      exact ul_ne hk
    have g5 : g.2 113 5 = h1.2 113 4 := by
      rw [q2]
      show (u2 h1.2 113 5 (h1.2 113 4)) 113 5 = _
      exact u2_at ..
    have g4 : g.2 113 4 = h1.2 113 4 := by
      rw [q2]
      show (u2 h1.2 113 5 (h1.2 113 4)) 113 4 = _
      unfold u2
      rw [if_pos rfl, if_neg (by decide)]
    refine ⟨by rw [q1, a1], ?_, fun k hk => f1 k (by omega) (by omega), fun k hk => g2 k (by omega), f1 2000 (by omega) (by omega), f1 2001 (by omega) (by omega)⟩
    unfold JR
    rw [f3 26 (by decide), f3 8 (by decide), f1 114 (by decide) (by decide), f1 117 (by decide) (by decide), f1 129 (by decide) (by decide), f1 130 (by decide) (by decide), f1 131 (by decide) (by decide), f1 132 (by decide) (by decide), f1 133 (by decide) (by decide), f1 134 (by decide) (by decide), g4, g5]
    exact ⟨a1, e16, by rw [q2, ui_aa], a4, a4, a6, a7, a8, a9, a10, a11, a12, a13, a14⟩) ⟨hv.1, fun _ => hv.1, hv.2.2⟩
/-- there is always some row that a scene holds -/
theorem sC_ex (b : Nat) (h : Hp) : sC b (fun i => h.1 (b + (po0 i).1) (po0 i).2) h := fun _ _ => rfl
theorem tw_on {γ : Gh} {h : Hp} (hc : JC γ h) (hr : JR γ h) (hv : JV γ) : Two 2 1 mX10_on mX11_on [] h := by
  by_cases t0 : γ.tk = 0
  · refine ⟨_, ct_onC h _ (sC_ex 17 h), fun v h1 q => ?_⟩
    obtain ⟨a1, a2⟩ := q.2 (by rw [hc.1.2.1]; exact t0)
    subst a2
    have r1 := hr.cf (cf_no h 3)
    refine ⟨(cf_no _ _).s, _, ct_on _, fun v' h2 p => ?_⟩
    obtain ⟨b1, b2⟩ := p.2 (by rw [r1.2.2.1]; exact t0)
    subst b2
    exact ⟨b1.trans a1.symm, ⟨γ.no 3, (hc.no (by decide)).rf (rf_no _ _), r1.no (by decide), hv⟩, (cf_no _ _).sk (rf_no _ _)⟩
  · have sc := hc.1.2.2.1 t0
    refine ⟨_, ct_onC h _ sc, fun v h1 q => ?_⟩
    obtain ⟨a1, a2, a3, a4⟩ := q.1 (by rw [hc.1.2.1]; exact t0)
    have cf : CF h h1 := by
      refine ⟨fun k hk => a3 k (fun y => ?_), fun k hk => by rw [a4, ul_ne (show k ≠ 1 by omega)]⟩
      have : ∀ x, x ∈ cS 1 → x < 113 := by decide
      have := this k y
      omega
    have r1 := hr.cf cf
    refine ⟨cf.s, _, ct_on _, fun v' h2 p => ?_⟩
    obtain ⟨b1, b2⟩ := p.1 (by rw [r1.2.2.1]; exact t0)
    have es : ∀ j, j < 49 → va_cpy (h1.1 116) γ.s 0 0 49 j = γ.im j := fun j hj => by
      rw [cpy_lt _ _ hj]
      exact r1.2.1 j hj
    have pt := r1.2.2.2.2.1
    have f1 : ∀ k, k ≠ 114 → h2.1 k = h1.1 k := fun k hk => by
      rw [b2]
      exact uc_ne h1 _ hk
    have g14 : h2.1 114 = va_cpy (h1.1 116) γ.s 0 0 49 := by
      rw [b2]
      show (uc h1 114 (va_cpy (h1.1 116) (h1.1 114) 0 0 49)).1 114 = _
      rw [uc_at, r1.1]
    have g2 : ∀ k, k ≠ 113 → h2.2 k = h1.2 k := fun k hk => by
      rw [b2]
      exact ul_ne hk
    have g4 : h2.2 113 4 = h1.2 113 5 := by
      rw [b2]
      show (u2 h1.2 113 4 (h1.2 113 5)) 113 4 = _
      exact u2_at ..
    have g5 : h2.2 113 5 = h1.2 113 5 := by
      rw [b2]
      show (u2 h1.2 113 4 (h1.2 113 5)) 113 5 = _
      unfold u2
      rw [if_pos rfl, if_neg (by decide)]
    have rf : RF h1 h2 := ⟨fun k hk => f1 k (by omega), fun k hk => g2 k (by omega), f1 2000 (by omega), f1 2001 (by omega)⟩
    refine ⟨?_, ⟨(γ.sS (va_cpy (h1.1 116) γ.s 0 0 49)).sPu γ.pt, ?_, ?_, ?_⟩, cf.sk rf⟩
    · rw [b1, a1]
      exact r1.2.1 3 (by decide)
    · refine JC.rf ?_ rf
      obtain ⟨⟨c1, c2, c3, c4, c5, c6, c7, c8, c9, c10⟩, x1, x2, d1, d2, d3⟩ := hc
      have ee : ∀ k, k ∈ cS 17 ++ [0, 25, 26, 38, 68] ++ lsC ++ rkC → h1.1 k = h.1 k := fun k hk => a3 k (by
        have : ∀ k, k ∈ cS 17 ++ [0, 25, 26, 38, 68] ++ lsC ++ rkC → k ∉ cS 1 := by decide
        exact this k hk)
      have m1 : ∀ k, k ∈ cS 17 → k ∈ cS 17 ++ [0, 25, 26, 38, 68] ++ lsC ++ rkC := by decide
      have m2 : ∀ k, k ∈ lsC → k ∈ cS 17 ++ [0, 25, 26, 38, 68] ++ lsC ++ rkC := by decide
      have m3 : ∀ k, k ∈ rkC → k ∈ cS 17 ++ [0, 25, 26, 38, 68] ++ lsC ++ rkC := by decide
      refine ⟨⟨fun i hi => ?_, ?_, fun y i hi => ?_, ?_, ?_, fun n hn => ?_, ?_, fun k hk => ?_, fun l hl => ?_, fun r hr => ?_⟩, x1, x2, d1, ?_, ?_⟩
      · exact (a2 i hi).trans (es i hi).symm
      · rw [ee 0 (by decide)]
        exact c2
      · rw [ee _ (m1 _ (cS_in 17 hi))]
        exact c3 y i hi
      · rw [a4, ul_at]
        exact c5
      · rw [a4, ul_ne (show (17 : Nat) ≠ 1 by decide)]
        exact c5
      · rw [ee 68 (by decide)]
        exact c6 n hn
      · rw [ee 25 (by decide)]
        exact c7
      · rw [ee 26 (by decide)]
        exact c8 k hk
      · rw [ee _ (m2 _ (ls_c l hl).1), ee _ (m2 _ (ls_c l hl).2)]
        exact c9 l hl
      · refine (c10 r hr).c rfl rfl (fun _ _ _ _ => rfl) ?_ (fun j hj => ?_)
        · rw [ee _ (m3 _ (rkC_in (by omega) (by omega)))]
          exact ⟨rfl, rfl⟩
        · rw [ee _ (m3 _ (rkC_in (by omega) (by omega))), ee _ (m3 _ (rkC_in (by omega) (by omega)))]
          exact ⟨rfl, fun _ _ => rfl⟩
      · rw [ee 38 (by decide)]
        exact d2
      · rw [ee 38 (by decide)]
        exact d3
    · obtain ⟨y1, y2, y3, y4, y5, y6, y7, y8, y9, y10, y11, y12, y13, y14⟩ := r1
      unfold JR
      rw [f1 113 (by decide), f1 116 (by decide), f1 117 (by decide), f1 129 (by decide), f1 130 (by decide), f1 131 (by decide), f1 132 (by decide), f1 133 (by decide), f1 134 (by decide), g4, g5]
      exact ⟨g14, y2, y3, pt, pt, y6, y7, y8, y9, y10, y11, y12, y13, y14⟩
    · exact ⟨InS_ext (hv.2.1 t0) es, hv.2⟩
