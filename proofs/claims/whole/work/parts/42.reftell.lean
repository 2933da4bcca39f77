/-! ===== the reference: what is told becomes true ===== -/
theorem ct_plantWrong (kd fg : Int32) (h : Hp) (s : Nat → Int32) (hs : h.1 114 = s) : CtI 1 mX11_plantWrong [.ref 113, .int kd, .int fg] h (pq (plW s kd fg) h) := by
  refine e_X11_plantWrong (pc (ct_isInI kd 0 5 h) ⟨fun c => pc (ct_wrongBy _ _ _ h) ⟨fun c2 => ⟨?_, rfl⟩, fun c2 => ⟨fun c3 => ⟨?_, rfl⟩, fun c3 => ⟨?_, rfl⟩⟩⟩, fun c => ⟨?_, rfl⟩⟩)
  · rw [plW, if_pos (bI_t c), if_neg c2]
  · rw [hs] at c3
    rw [plW, if_pos (bI_t c), if_pos c2, if_neg c3, c2]
  · rw [hs] at c3
    rw [plW, if_pos (bI_t c), if_pos c2, if_pos c3]
  · rw [plW, if_neg (by rw [bI_0.mp c]; decide)]
theorem ct_timesWrong (p a b : Int32) (h : Hp) (s : Nat → Int32) (hs : h.1 114 = s) : CtI 2 mX11_timesWrong [.ref 113, .int p, .int a, .int b] h (pq (tiW s p a b) h) := by
  refine e_X11_timesWrong (pc (ct_isPlant p h) ⟨fun c => ⟨?_, rfl⟩, fun c => pc (ct_wrongOf _ _ _ _ _ _ h) ⟨?_, rfl⟩⟩)
  · rw [hs] at c
    unfold tiW
    rw [if_neg (by rw [bI_0.mp c]; decide)]
  · rw [hs] at c
    unfold tiW
    rw [if_pos (bI_t c)]
theorem ct_ageWrong (p x : Int32) (h : Hp) (s : Nat → Int32) (hs : h.1 114 = s) : CtI 2 mX11_ageWrong [.ref 113, .int p, .int x] h (pq (agW s p x) h) := by
  refine e_X11_ageWrong (pc (ct_isPlant p h) ⟨fun c => pc (ct_wrongBy _ _ _ h) ⟨fun c2 => ⟨?_, rfl⟩, fun c2 => ⟨fun c3 => ⟨?_, rfl⟩, fun c3 => ⟨?_, rfl⟩⟩⟩, fun c => ⟨?_, rfl⟩⟩)
  · rw [hs] at c
    rw [agW, if_pos (bI_t c), if_neg c2]
  · rw [hs] at c
    rw [agW, if_pos (bI_t c), if_pos c2, if_neg c3, c2]
  · rw [hs] at c
    rw [agW, if_pos (bI_t c), if_pos c2, if_pos c3]
  · rw [hs] at c
    rw [agW, if_neg (by rw [bI_0.mp c]; decide)]
theorem ct_hoursWrong (x : Int32) (h : Hp) : CtI 1 mX11_hoursWrong [.ref 113, .int x] h (pq (wbS x 1 5) h) := e_X11_hoursWrong (pc (ct_wrongBy x 1 5 h) ⟨rfl, rfl⟩)
/-- the row with a plant more -/
def adS (s : Nat → Int32) (p : Nat) (kd fg : Int32) : Nat → Int32 := upd (upd (upd (upd (upd (upd (upd (upd (upd (upd (upd s (19 + 10 * p + 0) kd) (19 + 10 * p + 1) fg) (19 + 10 * p + 2) 0) (19 + 10 * p + 3) 10) (19 + 10 * p + 4) 1) (19 + 10 * p + 5) 0) (19 + 10 * p + 6) 0) (19 + 10 * p + 7) 1) (19 + 10 * p + 8) 1) (19 + 10 * p + 9) (-1)) 3 (nI (p + 1))
theorem adV_at (h : Hp) (p : Nat) (kd fg : Int32) : (adV h p kd fg).1 114 = adS (h.1 114) p kd fg := by
  unfold adV adS
  simp only [ui_up]
theorem adV_fr (h : Hp) (p : Nat) (kd fg : Int32) : Fr [114] h (adV h p kd fg) := by
  unfold adV
  exact (((((((((((Fr.ui (by decide)).tr (Fr.ui (by decide))).tr (Fr.ui (by decide))).tr (Fr.ui (by decide))).tr (Fr.ui (by decide))).tr (Fr.ui (by decide))).tr (Fr.ui (by decide))).tr (Fr.ui (by decide))).tr (Fr.ui (by decide))).tr (Fr.ui (by decide))).tr (Fr.ui (by decide)))
/-- what is wrong with a statement -/
def wtS (s : Nat → Int32) (c : Int32) (nu : Nat → Int32) (sg : Int32) : Int32 :=
  if c = 97 then agW s (nu 0) (sg * nu 1) else if c = 99 then coW s (nu 0) (nu 1) (nu 2) (nu 3) else if c = 100 then deW s (nu 0) (nu 1) (nu 2) else if c = 103 then giW s (nu 0) (nu 1) (nu 2) else if c = 112 then plW s (nu 0) (nu 1) else if c = 116 then tiW s (nu 0) (nu 1) (nu 2) else wbS (nu 0) 1 5
/-- the row in which it is so -/
def doS (s : Nat → Int32) (c : Int32) (nu : Nat → Int32) (sg : Int32) : Nat → Int32 :=
  if c = 97 then upd s (19 + 10 * (nu 0).toNatClampNeg + 9) (sg * nu 1)
  else if c = 99 then upd (upd (upd s (19 + 10 * (nu 0).toNatClampNeg + 4) (nu 1)) (19 + 10 * (nu 0).toNatClampNeg + 5) (nu 2)) (19 + 10 * (nu 0).toNatClampNeg + 6) (nu 3)
  else if c = 100 then upd (upd s (4 + (nu 0).toNatClampNeg) (nu 1)) (9 + (nu 0).toNatClampNeg) (nu 2)
  else if c = 103 then upd (upd s (19 + 10 * (nu 0).toNatClampNeg + 2) (nu 1)) (19 + 10 * (nu 0).toNatClampNeg + 3) (nu 2)
  else if c = 112 then adS s (nP s) (nu 0) (nu 1)
  else if c = 116 then upd (upd s (19 + 10 * (nu 0).toNatClampNeg + 7) (nu 1)) (19 + 10 * (nu 0).toNatClampNeg + 8) (nu 2)
  else upd s 0 (nu 0)
theorem plW_3 {s : Nat → Int32} (o : OKs s) {kd fg : Int32} (c : plW s kd fg = 0) : nP s < 3 := by
  have hP := o.hP
  by_cases y : nP s = 3
  · have e3 : s 3 = 3 := by
      rw [o.eP, y]
      rfl
    unfold plW at c
    by_cases c1 : inR kd 0 5 = true
    · rw [if_pos c1] at c
      by_cases c2 : wbS fg 0 9 = 0
      · rw [if_pos c2, if_pos e3] at c
        exact absurd c (by decide)
      · rw [if_neg c2] at c
        exact absurd c c2
    · rw [if_neg c1] at c
      exact absurd c (by decide)
  · omega
theorem oks_add {s : Nat → Int32} (o : OKs s) (h3 : nP s < 3) (kd fg : Int32) : OKs (adS s (nP s) kd fg) ∧ nH (adS s (nP s) kd fg) = nH s ∧ nP (adS s (nP s) kd fg) = nP s + 1 := by
  have e0 : adS s (nP s) kd fg 0 = s 0 := by
    unfold adS
    rw [upd_ne _ _ (by omega), upd_ne _ _ (by omega), upd_ne _ _ (by omega), upd_ne _ _ (by omega), upd_ne _ _ (by omega), upd_ne _ _ (by omega), upd_ne _ _ (by omega), upd_ne _ _ (by omega), upd_ne _ _ (by omega), upd_ne _ _ (by omega), upd_ne _ _ (by omega)]
  have e3 : adS s (nP s) kd fg 3 = nI (nP s + 1) := by
    unfold adS
    rw [upd_at]
  have a : nH (adS s (nP s) kd fg) = nH s := by unfold nH; rw [e0]
  have b : nP (adS s (nP s) kd fg) = nP s + 1 := by
    show (adS s (nP s) kd fg 3).toNatClampNeg = _
    rw [e3, nI_clamp (by omega)]
  exact ⟨⟨by omega, by rw [a]; exact o.hH, by rw [a, e0]; exact o.eH, by rw [b, e3]⟩, a, b⟩
theorem oks_hour {s : Nat → Int32} (o : OKs s) {x : Int32} (c : wbS x 1 5 = 0) : OKs (upd s 0 x) := by
  obtain ⟨n, e, hn⟩ := wb_nI1 (m := 5) (by decide) c
  subst e
  have e3 : upd s 0 (nI n) 3 = s 3 := upd_ne _ _ (by decide)
  have a : nH (upd s 0 (nI n)) = n := by
    unfold nH
    rw [upd_at, nI_clamp (by omega)]
  have b : nP (upd s 0 (nI n)) = nP s := by unfold nP; rw [e3]
  exact ⟨by rw [b]; exact o.hP, by rw [a]; exact hn, by rw [a, upd_at], by rw [b, e3]; exact o.eP⟩
theorem doS_ok {s : Nat → Int32} (o : OKs s) {c : Int32} {nu : Nat → Int32} {sg : Int32} (w : wtS s c nu sg = 0) : OKs (doS s c nu sg) ∧ ∀ i, 49 ≤ i → doS s c nu sg i = s i := by
  have hP := o.hP
  have hH := o.hH
  have pl : ∀ x : Int32, inR x 0 (s 3 - 1) = true → x.toNatClampNeg < 3 := fun x hx => by
    obtain ⟨t, e, ht⟩ := isP_nI o hx
    rw [e, nI_clamp (by omega)]
    omega
  have hl : ∀ x : Int32, inR x 0 (s 0 - 1) = true → x.toNatClampNeg < 5 := fun x hx => by
    obtain ⟨t, e, ht⟩ := isH_nI o hx
    rw [e, nI_clamp (by omega)]
    omega
  unfold doS
  unfold wtS at w
  by_cases c1 : c = 97
  · rw [if_pos c1] at w ⊢
    have h1 : inR (nu 0) 0 (s 3 - 1) = true := by
      by_cases y : inR (nu 0) 0 (s 3 - 1) = true
      · exact y
      · rw [agW, if_neg y] at w
        exact absurd w (by decide)
    have := pl _ h1
    exact ⟨(o.upd (by omega) _).1, fun i hi => upd_ne _ _ (by omega)⟩
  · rw [if_neg c1] at w ⊢
    by_cases c2 : c = 99
    · rw [if_pos c2] at w ⊢
      have h1 : inR (nu 0) 0 (s 3 - 1) = true := by
        by_cases y : inR (nu 0) 0 (s 3 - 1) = true
        · exact y
        · rw [coW, if_neg y] at w
          exact absurd w (by decide)
      have := pl _ h1
      exact ⟨(((o.upd (by omega) _).1.upd (by omega) _).1.upd (by omega) _).1, fun i hi => by rw [upd_ne _ _ (by omega), upd_ne _ _ (by omega), upd_ne _ _ (by omega)]⟩
    · rw [if_neg c2] at w ⊢
      by_cases c3 : c = 100
      · rw [if_pos c3] at w ⊢
        have h1 : inR (nu 0) 0 (s 0 - 1) = true := by
          by_cases y : inR (nu 0) 0 (s 0 - 1) = true
          · exact y
          · rw [deW, if_neg y] at w
            exact absurd w (by decide)
        have := hl _ h1
        exact ⟨((o.upd (by omega) _).1.upd (by omega) _).1, fun i hi => by rw [upd_ne _ _ (by omega), upd_ne _ _ (by omega)]⟩
      · rw [if_neg c3] at w ⊢
        by_cases c4 : c = 103
        · rw [if_pos c4] at w ⊢
          have := pl _ (giW_p w)
          exact ⟨((o.upd (by omega) _).1.upd (by omega) _).1, fun i hi => by rw [upd_ne _ _ (by omega), upd_ne _ _ (by omega)]⟩
        · rw [if_neg c4] at w ⊢
          by_cases c5 : c = 112
          · rw [if_pos c5] at w ⊢
            have h3 := plW_3 o w
            refine ⟨(oks_add o h3 _ _).1, fun i hi => ?_⟩
            unfold adS
            rw [upd_ne _ _ (by omega), upd_ne _ _ (by omega), upd_ne _ _ (by omega), upd_ne _ _ (by omega), upd_ne _ _ (by omega), upd_ne _ _ (by omega), upd_ne _ _ (by omega), upd_ne _ _ (by omega), upd_ne _ _ (by omega), upd_ne _ _ (by omega), upd_ne _ _ (by omega)]
          · rw [if_neg c5] at w ⊢
            by_cases c6 : c = 116
            · rw [if_pos c6] at w ⊢
              have h1 : inR (nu 0) 0 (s 3 - 1) = true := by
                by_cases y : inR (nu 0) 0 (s 3 - 1) = true
                · exact y
                · rw [tiW, if_neg y] at w
                  exact absurd w (by decide)
              have := pl _ h1
              exact ⟨((o.upd (by omega) _).1.upd (by omega) _).1, fun i hi => by rw [upd_ne _ _ (by omega), upd_ne _ _ (by omega)]⟩
            · rw [if_neg c6] at w ⊢
              exact ⟨oks_hour o w, fun i hi => upd_ne _ _ (by omega)⟩
/-- the numbers told stand in the heap -/
def nuI (c : Int32) (nu : Nat → Int32) (sg : Int32) (h : Hp) : Prop := h.1 113 28 = c ∧ (∀ j, j ≤ moL c → h.1 135 j = nu j) ∧ (c = 97 → h.1 113 29 = sg)
theorem ct_wrongTold {c : Int32} {nu : Nat → Int32} {sg : Int32} (h : Hp) (s : Nat → Int32) (hs : h.1 114 = s) (is : isSt c = true) (I : nuI c nu sg h) : CtI 3 mX11_wrongTold [.ref 113] h (pq (wtS s c nu sg) h) := by
  obtain ⟨h28, hn, hg⟩ := I
  have st := of_decide_eq_true is
  refine e_X11_wrongTold ?_
  rw [h28]
  refine ⟨fun c1 => ?_, fun c1 => ⟨fun c2 => ?_, fun c2 => ⟨fun c3 => ?_, fun c3 => ⟨fun c4 => ?_, fun c4 => ⟨fun c5 => ?_, fun c5 => ⟨fun c6 => ?_, fun c6 => ?_⟩⟩⟩⟩⟩⟩
  · have mo : moL c = 1 := by rw [c1]; decide
    rw [hn 0 (by omega), hn 1 (by omega), hg c1]
    refine pc (ct_ageWrong _ _ h s hs) ⟨?_, rfl⟩
    rw [wtS, if_pos c1]
  · have mo : moL c = 3 := by rw [c2]; decide
    rw [hn 0 (by omega), hn 1 (by omega), hn 2 (by omega), hn 3 (by omega)]
    refine pc (ct_costsWrong _ _ _ _ h s hs) ⟨?_, rfl⟩
    rw [wtS, if_neg c1, if_pos c2]
  · have mo : moL c = 2 := by rw [c3]; decide
    rw [hn 0 (by omega), hn 1 (by omega), hn 2 (by omega)]
    refine pc (ct_demandWrong _ _ _ h s hs) ⟨?_, rfl⟩
    rw [wtS, if_neg c1, if_neg c2, if_pos c3]
  · have mo : moL c = 2 := by rw [c4]; decide
    rw [hn 0 (by omega), hn 1 (by omega), hn 2 (by omega)]
    refine pc (ct_givesWrong _ _ _ h s hs) ⟨?_, rfl⟩
    rw [wtS, if_neg c1, if_neg c2, if_neg c3, if_pos c4]
  · have mo : moL c = 1 := by rw [c5]; decide
    rw [hn 0 (by omega), hn 1 (by omega)]
    refine pc (ct_plantWrong _ _ h s hs) ⟨?_, rfl⟩
    rw [wtS, if_neg c1, if_neg c2, if_neg c3, if_neg c4, if_pos c5]
  · have mo : moL c = 2 := by rw [c6]; decide
    rw [hn 0 (by omega), hn 1 (by omega), hn 2 (by omega)]
    refine pc (ct_timesWrong _ _ _ h s hs) ⟨?_, rfl⟩
    rw [wtS, if_neg c1, if_neg c2, if_neg c3, if_neg c4, if_neg c5, if_pos c6]
  · rw [hn 0 (by omega)]
    refine pc (ct_hoursWrong _ h) ⟨?_, rfl⟩
    rw [wtS, if_neg c1, if_neg c2, if_neg c3, if_neg c4, if_neg c5, if_neg c6]
theorem wo {d : Nat} {M : Mth} {args : List Value} {h : Hp} {w : Int32} {A : Int32 → Hp → Prop} {R : Int32 → Hp → Prop} (hC : CtI d M args h (okw w h A)) (hw : w = 0) (k : ∀ v h', A v h' → R v h') : ∃ Q, CtI d M args h Q ∧ ∀ v h', Q v h' → R v h' := ⟨_, hC, fun v h' q => k v h' (q.1 hw)⟩
set_option maxHeartbeats 4000000 in
theorem ct_doesTold {c : Int32} {nu : Nat → Int32} {sg : Int32} (h : Hp) (s : Nat → Int32) (hs : h.1 114 = s) (o : OKs s) (is : isSt c = true) (I : nuI c nu sg h) (w : wtS s c nu sg = 0) : CtI 4 mX11_doesTold [.ref 113] h (fun _ g => Fr [114] h g ∧ g.1 114 = doS s c nu sg) := by
  obtain ⟨h28, hn, hg⟩ := I
  unfold wtS at w
  refine e_X11_doesTold ?_
  rw [h28]
  refine ⟨fun c1 => ?_, fun c1 => ⟨fun c2 => ?_, fun c2 => ⟨fun c3 => ?_, fun c3 => ⟨fun c4 => ?_, fun c4 => ⟨fun c5 => ?_, fun c5 => ⟨fun c6 => ?_, fun c6 => ?_⟩⟩⟩⟩⟩⟩
  · have mo : moL c = 1 := by rw [c1]; decide
    rw [if_pos c1] at w
    rw [hn 0 (by omega), hn 1 (by omega), hg c1]
    refine wo (ct_age _ _ h s hs o) w (fun v g q => ?_)
    rw [q.2, doS, if_pos c1, ui_up, hs]
    exact ⟨Fr.ui (by decide), rfl⟩
  · have mo : moL c = 3 := by rw [c2]; decide
    rw [if_neg c1, if_pos c2] at w
    rw [hn 0 (by omega), hn 1 (by omega), hn 2 (by omega), hn 3 (by omega)]
    refine wo (ct_costs _ _ _ _ h s hs o) w (fun v g q => ?_)
    rw [q.2, doS, if_neg c1, if_pos c2, ui_up, ui_up, ui_up, hs]
    exact ⟨((Fr.ui (by decide)).tr (Fr.ui (by decide))).tr (Fr.ui (by decide)), rfl⟩
  · have mo : moL c = 2 := by rw [c3]; decide
    rw [if_neg c1, if_neg c2, if_pos c3] at w
    rw [hn 0 (by omega), hn 1 (by omega), hn 2 (by omega)]
    refine wo (ct_demand _ _ _ h s hs o) w (fun v g q => ?_)
    rw [q.2, doS, if_neg c1, if_neg c2, if_pos c3, ui_up, ui_up, hs]
    exact ⟨(Fr.ui (by decide)).tr (Fr.ui (by decide)), rfl⟩
  · have mo : moL c = 2 := by rw [c4]; decide
    rw [if_neg c1, if_neg c2, if_neg c3, if_pos c4] at w
    rw [hn 0 (by omega), hn 1 (by omega), hn 2 (by omega)]
    refine wo (ct_gives _ _ _ h s hs o) w (fun v g q => ?_)
    rw [q.2, doS, if_neg c1, if_neg c2, if_neg c3, if_pos c4, ui_up, ui_up, hs]
    exact ⟨(Fr.ui (by decide)).tr (Fr.ui (by decide)), rfl⟩
  · have mo : moL c = 1 := by rw [c5]; decide
    rw [if_neg c1, if_neg c2, if_neg c3, if_neg c4, if_pos c5] at w
    rw [hn 0 (by omega), hn 1 (by omega)]
    refine wo (ct_plant _ _ h s hs o) w (fun v g q => ?_)
    rw [q.2, doS, if_neg c1, if_neg c2, if_neg c3, if_neg c4, if_pos c5, adV_at, hs]
    exact ⟨adV_fr _ _ _ _, rfl⟩
  · have mo : moL c = 2 := by rw [c6]; decide
    rw [if_neg c1, if_neg c2, if_neg c3, if_neg c4, if_neg c5, if_pos c6] at w
    rw [hn 0 (by omega), hn 1 (by omega), hn 2 (by omega)]
    refine wo (ct_times _ _ _ h s hs o) w (fun v g q => ?_)
    rw [q.2, doS, if_neg c1, if_neg c2, if_neg c3, if_neg c4, if_neg c5, if_pos c6, ui_up, ui_up, hs]
    exact ⟨(Fr.ui (by decide)).tr (Fr.ui (by decide)), rfl⟩
  · rw [if_neg c1, if_neg c2, if_neg c3, if_neg c4, if_neg c5, if_neg c6] at w
    rw [hn 0 (by omega)]
    refine wo (ct_hours _ h s hs) w (fun v g q => ?_)
    rw [q.2, doS, if_neg c1, if_neg c2, if_neg c3, if_neg c4, if_neg c5, if_neg c6, ui_up, hs]
    exact ⟨Fr.ui (by decide), rfl⟩
/-- the text read through: whether, how many statements, where it stands -/
def fpL (f : Nat → Int32) (m : Nat) : Nat → Nat → Nat → Bool × Nat × Nat
  | 0, n, a => (true, n, a)
  | u + 1, n, a => if n = 0 ∨ a < m then (if (rdL f m a).1 then fpL f m u (n + 1) (rdL f m a).2.1 else (false, n + 1, (rdL f m a).2.1)) else (true, n, a)
/-- the statements done one behind the other from place a on: the fault or 0, the row -/
def apL (f : Nat → Int32) (m : Nat) (s0 : Nat → Int32) : Nat → (Nat → Int32) → Nat → Int32 × (Nat → Int32)
  | 0, s, _ => (0, s)
  | u + 1, s, a => if a < m then (if wtS s (heL f m a) (rdL f m a).2.2.1 (rdL f m a).2.2.2 = 0 then apL f m s0 u (doS s (heL f m a) (rdL f m a).2.2.1 (rdL f m a).2.2.2) (rdL f m a).2.1 else (-2000 - nI a, s0)) else (0, s)
/-- every statement from place a on can be read -/
def okL (f : Nat → Int32) (m : Nat) : Nat → Nat → Prop
  | 0, _ => True
  | u + 1, a => a < m → (rdL f m a).1 = true ∧ okL f m u (rdL f m a).2.1
theorem fpL_ok (f : Nat → Int32) (m : Nat) : ∀ u n a, (fpL f m u n a).1 = true → okL f m u a
  | 0, _, _, _ => trivial
  | u + 1, n, a, h => by
    intro lt
    rw [fpL, if_pos (Or.inr lt)] at h
    cases hb : (rdL f m a).1 with
    | false =>
      rw [hb, if_neg (by decide)] at h
      cases h
    | true =>
      rw [hb, if_pos rfl] at h
      exact ⟨rfl, fpL_ok f m u (n + 1) _ h⟩
/-- what tells answers; the row behind it -/
def teV (s f : Nat → Int32) (m : Nat) : Int32 × (Nat → Int32) :=
  if (fpL f m 121 0 0).1 then (if (apL f m s 121 s 0).1 = 0 then nI (fpL f m 121 0 0).2.1 else (apL f m s 121 s 0).1, (apL f m s 121 s 0).2) else (-1000 - nI (fpL f m 121 0 0).2.2, s)
def te6 (h g : Hp) : Prop := Fr [113, 114, 115, 135] h g ∧ ∀ i, i ≠ 26 → i ≠ 27 → i ≠ 28 → i ≠ 29 → g.1 113 i = h.1 113 i
theorem te6.tr {h h1 h2 : Hp} (a : te6 h h1) (b : te6 h1 h2) : te6 h h2 := ⟨a.1.tr b.1, fun i x y z w => (b.2 i x y z w).trans (a.2 i x y z w)⟩
theorem teF.t6 {h g : Hp} (a : teF h g) : te6 h g := ⟨a.1.mono (by decide), fun i _ x y z => a.2 i x y z⟩
theorem te6.u {h : Hp} {j : Nat} {x : Int32} (hj : j = 26 ∨ j = 27 ∨ j = 28 ∨ j = 29) : te6 h (ui h 113 j x) := ⟨Fr.ui (by decide), fun i a b c d => ui_nj (by omega)⟩
theorem te6.f {X : List Nat} {h g : Hp} (a : Fr X h g) (hx : ∀ k, k ∈ X → k ∈ [113, 114, 115, 135]) (h3 : 113 ∉ X) : te6 h g := ⟨a.mono hx, fun i _ _ _ _ => by rw [a.1 113 h3]⟩
def teP (s f : Nat → Int32) (m : Nat) (h : Hp) : Int32 → Hp → Prop := fun v g => v = (teV s f m).1 ∧ te6 h g ∧ g.1 114 = (teV s f m).2 ∧ g.1 113 26 = 0
theorem apL_n0 (f : Nat → Int32) (m : Nat) (hm : m ≤ 120) (s0 : Nat → Int32) : ∀ a, a < m → ¬ (-2000 : Int32) - nI a = 0 := by
  have : ∀ a, a < 120 → ¬ (-2000 : Int32) - nI a = 0 := by decide +kernel
  intro a ha
  exact this a (by omega)
theorem fp1000 : ∀ a, a < 121 → ¬ (-1000 : Int32) - nI a = 0 := by decide +kernel
set_option maxHeartbeats 4000000 in
theorem ct_tells {f : Nat → Int32} {m : Nat} (hm : m ≤ 120) (h : Hp) (s : Nat → Int32) (hs : h.1 114 = s) (o : OKs s) (h26 : h.1 113 26 = nI m) (hf : h.1 134 = f) : CtI 5 mX11_tells [.ref 113] h (teP s f m h) := by
  -- the end
  have fin : ∀ (x1 x3 : Int32) (s2 : Nat → Int32) (g : Hp), te6 h g → g.1 114 = s2 → teV s f m = (if x3 = 0 then x1 else x3, s2) → ∀ g1 : Hp, g1 = ui g 113 26 0 → ((¬ x3 = 0 → teP s f m h x3 g1) ∧ (x3 = 0 → teP s f m h x1 g1)) := by
    intro x1 x3 s2 g t e er g1 e1
    have w : ∀ v : Int32, v = (if x3 = 0 then x1 else x3) → teP s f m h v g1 := by
      intro v hv
      refine ⟨?_, ?_, ?_, ?_⟩
      · rw [er]
        exact hv
      · rw [e1]
        exact t.tr (te6.u (Or.inl rfl))
      · rw [e1, ui_ne (by decide), er]
        exact e
      · rw [e1, ui_aa]
    exact ⟨fun c => w _ (if_neg c).symm, fun c => w _ (if_pos c).symm⟩
  -- the statements done
  have l2 : ∀ (u N : Nat) (s2 : Nat → Int32) (a : Nat) (g : Hp), m - a < u → te6 h g → g.1 114 = s2 → OKs s2 → (∀ i, 49 ≤ i → s2 i = s i) → (∀ i, i < 49 → g.1 115 i = s i) → teI f m a g → okL f m u a → teV s f m = (if (apL f m s u s2 a).1 = 0 then nI N else (apL f m s u s2 a).1, (apL f m s u s2 a).2) → GoI 5 mX11_tells 65 [(0, .ref 113), (1, .int (nI N)), (3, .int 0)] [] g (teP s f m h) := by
    intro u
    induction u with
    | zero => intro N s2 a g hu; omega
    | succ u ih =>
      intro N s2 a g hu t e o2 hi back I ok er
      obtain ⟨i26, i27, i134, ia, -⟩ := I
      rw [apL] at er
      refine b_X11_tells_65 ⟨fun z => absurd rfl z, fun _ => ?_⟩
      rw [i26, i27, nI_leI (by omega) (by omega)]
      refine ⟨fun c => ?_, fun c => ?_⟩
      · rw [if_neg (show ¬ a < m by omega)] at er
        exact fin (nI N) 0 s2 g t e er
      · have lt : a < m := by omega
        obtain ⟨ok1, ok2⟩ := ok lt
        rw [if_pos lt] at er
        have is : isSt (heL f m a) = true := by
          cases hb : isSt (heL f m a) with
          | true => rfl
          | false =>
            rw [rdL, hb, if_neg (by decide)] at ok1
            cases ok1
        have up := rdL_up (f := f) (m := m) (a := a) ia
        refine ⟨_, ct_reads g ⟨i26, i27, i134, ia, hm⟩, fun v h6 q => ?_⟩
        obtain ⟨q1, q2, q3, q4⟩ := q
        have nu6 : nuI (heL f m a) (rdL f m a).2.2.1 (rdL f m a).2.2.2 h6 := q4 ok1
        have e6 : h6.1 114 = s2 := (q2.1.1 114 (by decide)).trans e
        have t6 : te6 h h6 := t.tr q2.t6
        have back6 : ∀ i, i < 49 → h6.1 115 i = s i := fun i hi => by
          rw [q2.1.1 115 (by decide)]
          exact back i hi
        refine pc (ct_wrongTold h6 s2 e6 is nu6) ⟨fun c2 => ⟨_, ct_laysBack h6, fun h16 q => b_X11_tells_119 ?_⟩, fun c2 => ⟨_, ct_doesTold h6 s2 e6 o2 is nu6 c2, fun v20 h21 q => b_X11_tells_119 ?_⟩⟩
        · rw [if_neg c2] at er
          have n0 := apL_n0 f m hm s a lt
          rw [if_neg n0] at er
          have e16 : h16.1 114 = s := by
            rw [q, uc_at, e6]
            funext i
            by_cases z : i < 49
            · rw [cpy_lt _ _ z]
              exact back6 i z
            · rw [cpy_ge _ _ (by omega)]
              exact hi i (by omega)
          have t16 : te6 h h16 := t6.tr (by rw [q]; exact te6.f (X := [114]) (Fr.uc (by decide)) (by decide) (by decide))
          exact b_X11_tells_65 ⟨fun _ => fin (nI N) _ s h16 t16 e16 (by rw [er, if_neg n0]), fun z => absurd z n0⟩
        · rw [if_pos c2] at er
          obtain ⟨o3, hi3⟩ := doS_ok o2 c2
          refine ih N (doS s2 (heL f m a) (rdL f m a).2.2.1 (rdL f m a).2.2.2) (rdL f m a).2.1 h21 (by have := up.2.2 ok1; omega) (t6.tr (te6.f q.1 (by decide) (by decide))) q.2 o3 (fun i hx => (hi3 i hx).trans (hi i hx)) (fun i hx => ?_) ?_ ok2 er
          · rw [q.1.1 115 (by decide)]
            exact back6 i hx
          · obtain ⟨j26, j27, j134, ja, jm⟩ := q3
            refine ⟨?_, ?_, ?_, ja, jm⟩
            · rw [q.1.1 113 (by decide)]
              exact j26
            · rw [q.1.1 113 (by decide)]
              exact j27
            · rw [q.1.1 134 (by decide)]
              exact j134
  have s55 : ∀ (N : Nat) (x3 : Int32) (g : Hp) (a : Nat), teF h g → teI f m a g → (x3 = 0 → okL f m 121 0 ∧ teV s f m = (if (apL f m s 121 s 0).1 = 0 then nI N else (apL f m s 121 s 0).1, (apL f m s 121 s 0).2)) → (¬ x3 = 0 → teV s f m = (x3, s)) → GoI 5 mX11_tells 55 [(0, .ref 113), (1, .int (nI N))] [.int x3] g (teP s f m h) := by
    intro N x3 g a t I k0 k1
    have e : g.1 114 = s := (t.1.1 114 (by decide)).trans hs
    refine b_X11_tells_55 (vc (ct_keeps g) (fun g6 e6 => ?_))
    have t6 : te6 h g6 := by
      rw [e6]
      exact (t.t6.tr (te6.f (X := [115]) (Fr.uc (by decide)) (by decide) (by decide))).tr (te6.u (Or.inr (Or.inl rfl)))
    have s6 : g6.1 114 = s := by rw [e6, ui_ne (by decide), uc_ne _ _ (by decide)]; exact e
    have I6 : teI f m 0 g6 := by
      obtain ⟨i26, i27, i134, ia, -⟩ := I
      rw [e6]
      refine ⟨?_, ui_aa _ _ _ _, ?_, by omega, hm⟩
      · rw [ui_nj (by decide), uc_ne _ _ (by decide)]
        exact i26
      · rw [ui_ne (by decide), uc_ne _ _ (by decide)]
        exact i134
    by_cases c : x3 = 0
    · subst c
      obtain ⟨k2, k3⟩ := k0 rfl
      refine l2 121 N s 0 g6 (by omega) t6 s6 o (fun _ _ => rfl) (fun i hi => ?_) I6 k2 k3
      rw [e6, ui_ne (by decide), uc_at, cpy_lt _ _ hi, e]
    · exact b_X11_tells_65 ⟨fun _ => fin (nI N) x3 s g6 t6 s6 (by rw [k1 c, if_neg c]), fun z => absurd z c⟩
  -- the text read through
  have l1 : ∀ (u n a : Nat) (g : Hp), m - a < u → n ≤ a → teF h g → teI f m a g → fpL f m u n a = fpL f m 121 0 0 → GoI 5 mX11_tells 9 [(0, .ref 113), (1, .int (nI n)), (2, .int 1)] [] g (teP s f m h) := by
    intro u
    induction u with
    | zero => intro n a g hu; omega
    | succ u ih =>
      intro n a g hu hn t I er
      have I0 := I
      obtain ⟨i26, i27, i134, ia, -⟩ := I
      rw [fpL] at er
      have rd : (n = 0 ∨ a < m) → GoI 5 mX11_tells 28 [(0, .ref 113), (1, .int (nI n))] [] g (teP s f m h) := by
        intro c
        rw [if_pos c] at er
        have up := rdL_up (f := f) (m := m) (a := a) ia
        refine b_X11_tells_28 ⟨_, ct_reads g I0, fun v h4 q => ?_⟩
        obtain ⟨q1, q2, q3, q4⟩ := q
        rw [nI_1, q1]
        cases hb : (rdL f m a).1 with
        | true =>
          rw [hb, if_pos rfl] at er
          have := up.2.2 hb
          exact ih (n + 1) _ h4 (by omega) (by omega) (t.tr q2) q3 er
        | false =>
          rw [hb, if_neg (by decide)] at er
          refine b_X11_tells_9 ⟨fun _ => b_X11_tells_39 ⟨fun _ => ?_, fun z => absurd rfl z⟩, fun z => absurd rfl z⟩
          have n0 := fp1000 (rdL f m a).2.1 (by omega)
          rw [q3.2.1]
          refine s55 (n + 1) _ h4 _ (t.tr q2) q3 (fun z => absurd z n0) (fun _ => ?_)
          rw [teV, ← er, if_neg Bool.false_ne_true]
      refine b_X11_tells_9 ⟨fun z => absurd z (by decide), fun _ => ⟨fun c => rd (Or.inl ((nI_eq (b := 0) (by omega) (by omega)).mp c)), fun c => ?_⟩⟩
      rw [i26, i27, nI_leI (by omega) (by omega)]
      refine ⟨fun c2 => b_X11_tells_39 ⟨fun z => absurd z (by decide), fun _ => ?_⟩, fun c2 => rd (Or.inr (by omega))⟩
      have n0 : n ≠ 0 := fun z => c (by rw [z]; rfl)
      rw [if_neg (by omega)] at er
      refine s55 n 0 g a t I0 (fun _ => ⟨fpL_ok f m 121 0 0 (by rw [← er]), ?_⟩) (fun z => absurd rfl z)
      rw [teV, ← er, if_pos rfl]
  refine e_X11_tells (fun g1 e1 => ?_)
  refine l1 121 0 0 g1 (by omega) (Nat.le_refl _) (by rw [e1]; exact teF.u (Or.inl rfl)) ?_ rfl
  rw [e1]
  refine ⟨?_, ui_aa _ _ _ _, ?_, by omega, hm⟩
  · rw [ui_nj (by decide)]
    exact h26
  · rw [ui_ne (by decide)]
    exact hf
