/-! ===== the reference: rounds, goes, answer, price, step ===== -/
/-- taken where w is 0, else refused by w with nothing else changed -/
def okw (w : Int32) (h : Hp) (A : Int32 → Hp → Prop) : Int32 → Hp → Prop := fun v h' => (w = 0 → A v h') ∧ (¬ w = 0 → v = w ∧ h' = noS h (-w).toNatClampNeg)
def okwL (w : Int32) (h : Hp) (A : Int64 → Hp → Prop) : Int64 → Hp → Prop := fun v h' => (w = 0 → A v h') ∧ (¬ w = 0 → v = 4000000000000000000 - w.toInt64 ∧ h' = noS h (-w).toNatClampNeg)
/-- a refusal's number -/
def isW (w : Int32) : Prop := ∃ n : Nat, n < 7 ∧ w = -nI n
theorem isW_wb (v a b : Int32) : isW (wbS v a b) := by
  unfold wbS
  by_cases c : v < a
  · rw [if_pos c]
    exact ⟨4, by decide, by decide⟩
  · rw [if_neg c]
    by_cases c2 : b < v
    · rw [if_pos c2]
      exact ⟨6, by decide, by decide⟩
    · rw [if_neg c2]
      exact ⟨0, by decide, by decide⟩
theorem isW_1 : isW (-1) := ⟨1, by decide, by decide⟩
theorem isW_2 : isW (-2) := ⟨2, by decide, by decide⟩
theorem isW_3 : isW (-3) := ⟨3, by decide, by decide⟩
theorem isW_0 : isW 0 := ⟨0, by decide, by decide⟩
theorem ct_noW {w : Int32} (hw : isW w) (h : Hp) : CtI 0 mX11_no [.ref 113, .int w] h (fun v h' => v = w ∧ h' = noS h (-w).toNatClampNeg) := by
  obtain ⟨n, hn, e⟩ := hw
  subst e
  rw [(neg_lit n hn).2]
  exact ct_no hn h
theorem ct_noWideW {w : Int32} (hw : isW w) (h : Hp) : CtL 1 mX11_noWide [.ref 113, .int w] h (fun v h' => v = 4000000000000000000 - w.toInt64 ∧ h' = noS h (-w).toNatClampNeg) := by
  obtain ⟨n, hn, e⟩ := hw
  subst e
  rw [(neg_lit n hn).2]
  exact ct_noWide hn h
theorem okw_t {w : Int32} {h : Hp} {A : Int32 → Hp → Prop} {v : Int32} {h' : Hp} (hw : w = 0) (k : A v h') : okw w h A v h' := ⟨fun _ => k, fun e => absurd hw e⟩
theorem okw_f {w : Int32} {h : Hp} {A : Int32 → Hp → Prop} {v : Int32} {h' : Hp} (hw : ¬ w = 0) (q : v = w ∧ h' = noS h (-w).toNatClampNeg) : okw w h A v h' := ⟨fun e => absurd e hw, fun _ => q⟩
theorem okwL_t {w : Int32} {h : Hp} {A : Int64 → Hp → Prop} {v : Int64} {h' : Hp} (hw : w = 0) (k : A v h') : okwL w h A v h' := ⟨fun _ => k, fun e => absurd hw e⟩
theorem okwL_f {w : Int32} {h : Hp} {A : Int64 → Hp → Prop} {v : Int64} {h' : Hp} (hw : ¬ w = 0) (q : v = 4000000000000000000 - w.toInt64 ∧ h' = noS h (-w).toNatClampNeg) : okwL w h A v h' := ⟨fun e => absurd e hw, fun _ => q⟩
theorem ct_keeps (h : Hp) : CtV 1 mX11_keeps [.ref 113] h (fun h' => h' = uc h 115 (va_cpy (h.1 114) (h.1 115) 0 0 49)) := e_X11_keeps (fun _ e => e)
theorem ct_laysBack (h : Hp) : CtV 1 mX11_laysBack [.ref 113] h (fun h' => h' = uc h 114 (va_cpy (h.1 115) (h.1 114) 0 0 49)) := e_X11_laysBack (fun _ e => e)
theorem cpy_lt (f g : Nat → Int32) {i : Nat} (hi : i < 49) : va_cpy f g 0 0 49 i = f i := by
  unfold va_cpy
  rw [if_pos (by omega), show 0 + (i - 0) = i by omega]
theorem cpy_ge (f g : Nat → Int32) {i : Nat} (hi : 49 ≤ i) : va_cpy f g 0 0 49 i = g i := by
  unfold va_cpy
  rw [if_neg (by omega)]
/-- the row behind n rounds -/
def rdN (s : Nat → Int32) : Nat → (Nat → Int32)
  | 0 => s
  | n + 1 => rdV (rdN s n) (n + 1)
/-- the greatest bound of n rounds -/
def mxN (s : Nat → Int32) : Nat → Int32
  | 0 => bdV s
  | n + 1 => imax (mxN s n) (bdV (rdN s (n + 1)))
theorem rdN_ok {s : Nat → Int32} (o : OKs s) : ∀ n, OKs (rdN s n) ∧ nH (rdN s n) = nH s ∧ nP (rdN s n) = nP s ∧ ∀ i, (i < 14 ∨ 19 ≤ i) → rdN s n i = s i
  | 0 => ⟨o, rfl, rfl, fun _ _ => rfl⟩
  | n + 1 => by
    obtain ⟨a, b, c, d⟩ := rdN_ok o n
    have hH := a.hH
    have e : ∀ i, (i < 14 ∨ 19 ≤ i) → rdN s (n + 1) i = s i := fun i hi => by
      show rdP (rdN s n) (n + 1) (nH (rdN s n)) i = s i
      rw [rdP_lo _ _ _ _ (by omega)]
      exact d i hi
    obtain ⟨x, y, z⟩ := o.of (e 0 (by omega)) (e 3 (by omega))
    exact ⟨x, y, z, e⟩
/-- what rounds answers -/
def rsV (s : Nat → Int32) (n : Nat) (hour : Int32) : Int32 := if hour = -1 then mxN s n else rdN s n (14 + hour.toNatClampNeg)
/-- what is wrong with rounds -/
def rsW (s : Nat → Int32) (n hour : Int32) : Int32 := if wbS n 0 20 = 0 then (if hour = -1 then 0 else if inR hour 0 (s 0 - 1) then 0 else -1) else wbS n 0 20
def scr2 : List Nat := [115, 125, 126]
set_option maxHeartbeats 4000000 in
theorem ct_rounds (n hour : Int32) (h : Hp) (s : Nat → Int32) (hs : h.1 114 = s) (o : OKs s) : CtL 6 mX11_rounds [.ref 113, .int n, .int hour] h (okwL (rsW s n hour) h (fun v h' => v = (rsV s n.toNatClampNeg hour).toInt64 ∧ Fr scr2 h h')) := by
  have hH := o.hH
  have s27 : ∀ w : Int32, w = rsW s n hour → isW w → GoL 6 mX11_rounds 27 [(0, .ref 113), (1, .int n), (2, .int hour), (3, .int w)] [] h (okwL (rsW s n hour) h (fun v h' => v = (rsV s n.toNatClampNeg hour).toInt64 ∧ Fr scr2 h h')) := by
    intro w ew iw
    refine b_X11_rounds_27 ⟨fun c => ?_, fun c => ⟨_, ct_noWideW iw h, fun v h' q => ?_⟩⟩
    · rw [ew] at c
      have c0 : wbS n 0 20 = 0 := by
        by_cases z : wbS n 0 20 = 0
        · exact z
        · unfold rsW at c
          rw [if_neg z] at c
          exact c
      have ch : ¬ hour = -1 → inR hour 0 (s 0 - 1) = true := by
        intro z
        unfold rsW at c
        rw [if_pos c0, if_neg z] at c
        by_cases y : inR hour 0 (s 0 - 1) = true
        · exact y
        · rw [if_neg y] at c
          exact absurd c (by decide)
      obtain ⟨N, eN, lN⟩ := wb_nI (m := 20) (by decide) c0
      refine vc (ct_keeps h) ?_
      have k114 : (uc h 115 (va_cpy (h.1 114) (h.1 115) 0 0 49)).1 114 = s := (uc_ne h _ (by decide)).trans hs
      have k115 : ∀ i, i < 49 → (uc h 115 (va_cpy (h.1 114) (h.1 115) 0 0 49)).1 115 i = s i := fun i hi => by rw [uc_at, cpy_lt _ _ hi, hs]
      have kf : Fr [114, 115, 125, 126] h (uc h 115 (va_cpy (h.1 114) (h.1 115) 0 0 49)) := Fr.uc (by decide)
      refine pc (ct_bound _ s k114 o) ?_
      have lp : ∀ m j : Nat, m + j = N → ∀ g : Hp, Fr [114, 115, 125, 126] h g → g.1 114 = rdN s j → (∀ i, i < 49 → g.1 115 i = s i) → GoL 6 mX11_rounds 50 [(0, .ref 113), (1, .int n), (2, .int hour), (4, .int (mxN s j)), (5, .int (nI (j + 1)))] [] g (okwL (rsW s n hour) h (fun v h' => v = (rsV s n.toNatClampNeg hour).toInt64 ∧ Fr scr2 h h')) := by
        intro m
        induction m with
        | zero =>
          intro j hj g f e1 e2
          have hj : j = N := by omega
          subst hj
          obtain ⟨a1, a2, a3, a4⟩ := rdN_ok o j
          have fin : ∀ h5 : Hp, h5 = uc g 114 (va_cpy (g.1 115) (g.1 114) 0 0 49) → Fr scr2 h h5 := by
            intro h5 e5
            have e6 : h5.1 114 = h.1 114 := by
              rw [e5, uc_at, hs]
              funext i
              by_cases z : i < 49
              · rw [cpy_lt _ _ z]
                exact e2 i z
              · rw [cpy_ge _ _ (by omega), e1]
                exact a4 i (by omega)
            have f5 : Fr [114, 115, 125, 126] h h5 := by
              rw [e5]
              exact f.tr (Fr.uc (by decide))
            refine ⟨fun k hk => ?_, f5.2⟩
            by_cases z : k = 114
            · rw [z]
              exact e6
            · refine f5.1 k (fun q => ?_)
              rcases List.mem_cons.mp q with q | q
              · exact z q
              · exact hk q
          refine b_X11_rounds_50 ⟨fun _ => ⟨fun c2 => ?_, fun c2 => ⟨_, ct_laysBack g, fun h10 q => okwL_t c ⟨?_, fin h10 q⟩⟩⟩, fun c2 => absurd ?_ c2⟩
          · obtain ⟨t, et, ht⟩ := isH_nI o (ch c2)
            refine ⟨by rw [et, ix14]; exact vp_in_nI (by omega) (by omega), _, ct_laysBack g, fun h5 q => okwL_t c ⟨?_, fin h5 q⟩⟩
            unfold rsV
            rw [if_neg c2, et, ix14, nI_clamp (show 14 + t < 2 ^ 31 by omega), nI_clamp (show t < 2 ^ 31 by omega), e1, eN, nI_clamp (show j < 2 ^ 31 by omega)]
          · unfold rsV
            rw [if_pos c2, eN, nI_clamp (show j < 2 ^ 31 by omega)]
          · rw [eN]
            exact (nI_ltI (by omega) (by omega)).mpr (by omega)
        | succ m ih =>
          intro j hj g f e1 e2
          obtain ⟨a1, a2, a3, a4⟩ := rdN_ok o j
          obtain ⟨b1, b2, b3, b4⟩ := rdN_ok o (j + 1)
          refine b_X11_rounds_50 ⟨fun c2 => absurd c2 ?_, fun _ => ⟨_, ct_round (by omega) (by omega) g _ e1 a1, fun h15 q => pc (ct_bound h15 _ q.2 b1) (pc (ct_max _ _ h15) ?_)⟩⟩
          · rw [eN]
            exact fun z => absurd ((nI_ltI (by omega) (by omega)).mp z) (by omega)
          · rw [nI_1]
            refine ih (j + 1) (by omega) h15 (f.tr (q.1.mono (by decide))) q.2 (fun i hi => ?_)
            rw [q.1.1 115 (by decide)]
            exact e2 i hi
      exact lp N 0 rfl _ kf k114 k115
    · rw [ew] at c q
      exact okwL_f c q
  refine e_X11_rounds (pc (ct_wrongBy n 0 20 h) ⟨fun c => s27 _ ?_ (isW_wb _ _ _), fun c => ⟨fun c2 => s27 _ ?_ (isW_wb _ _ _), fun c2 => pc (ct_isHour hour h) ⟨fun c3 => s27 _ ?_ (isW_wb _ _ _), fun c3 => s27 _ ?_ isW_1⟩⟩⟩)
  · unfold rsW
    rw [if_neg c]
  · unfold rsW
    rw [if_pos c, if_pos c2, c]
  · rw [hs] at c3
    unfold rsW
    rw [if_pos c, if_neg c2, if_pos (bI_t c3), c]
  · rw [hs] at c3
    unfold rsW
    rw [if_pos c, if_neg c2, if_neg (by rw [bI_0.mp c3]; decide)]
/-- how many prices are others behind n rounds -/
def goV (s : Nat → Int32) (n : Nat) : Int32 := sumI (fun t => if rdN s n (14 + t) = s (14 + t) then 0 else 1) (nH s)
theorem ct_goes (n : Int32) (h : Hp) (s : Nat → Int32) (hs : h.1 114 = s) (o : OKs s) : CtI 6 mX11_goes [.ref 113, .int n] h (okw (wbS n 0 20) h (fun v h' => v = goV s n.toNatClampNeg ∧ Fr [114, 115, 125, 126] h h' ∧ h'.1 114 = rdN s n.toNatClampNeg)) := by
  have hH := o.hH
  refine e_X11_goes (pc (ct_wrongBy n 0 20 h) ⟨fun c => vc (ct_keeps h) ?_, fun c => ⟨_, ct_noW (isW_wb _ _ _) h, fun v h' q => okw_f c q⟩⟩)
  obtain ⟨N, eN, lN⟩ := wb_nI (m := 20) (by decide) c
  have cN : n.toNatClampNeg = N := by rw [eN, nI_clamp (show N < 2 ^ 31 by omega)]
  have k114 : (uc h 115 (va_cpy (h.1 114) (h.1 115) 0 0 49)).1 114 = s := (uc_ne h _ (by decide)).trans hs
  have k115 : ∀ i, i < 49 → (uc h 115 (va_cpy (h.1 114) (h.1 115) 0 0 49)).1 115 i = s i := fun i hi => by rw [uc_at, cpy_lt _ _ hi, hs]
  have kf : Fr [114, 115, 125, 126] h (uc h 115 (va_cpy (h.1 114) (h.1 115) 0 0 49)) := Fr.uc (by decide)
  have l2 : ∀ m t : Nat, m + t = nH s → ∀ g : Hp, Fr [114, 115, 125, 126] h g → g.1 114 = rdN s N → (∀ i, i < 49 → g.1 115 i = s i) → GoI 6 mX11_goes 45 [(0, .ref 113), (3, .int (sumI (fun t => if rdN s N (14 + t) = s (14 + t) then 0 else 1) t)), (4, .int (nI t))] [] g (okw (wbS n 0 20) h (fun v h' => v = goV s n.toNatClampNeg ∧ Fr [114, 115, 125, 126] h h' ∧ h'.1 114 = rdN s n.toNatClampNeg)) := by
    intro m
    induction m with
    | zero =>
      intro t ht g f e1 e2
      have ht : t = nH s := by omega
      subst ht
      obtain ⟨a1, a2, a3, a4⟩ := rdN_ok o N
      refine b_X11_goes_45 ⟨fun _ => okw_t c ⟨?_, f, ?_⟩, fun c2 => absurd ?_ c2⟩
      · rw [cN]
        rfl
      · rw [cN]
        exact e1
      · rw [e1, a4 0 (by omega), o.eH]
        exact nI_le (by omega) (by omega)
    | succ m ih =>
      intro t ht g f e1 e2
      obtain ⟨a1, a2, a3, a4⟩ := rdN_ok o N
      have ih2 := ih (t + 1) (by omega) g f e1 e2
      refine b_X11_goes_45 ⟨fun c2 => absurd c2 ?_, fun _ => ?_⟩
      · rw [e1, a4 0 (by omega), o.eH]
        exact nI_ge (by omega) (by omega)
      · rw [ix14, nI_clamp (show 14 + t < 2 ^ 31 by omega), e1, e2 _ (by omega), nI_1]
        exact ⟨vp_in_nI (by omega) (by omega), vp_in_nI (by omega) (by omega), ih2⟩
  have lp : ∀ m j : Nat, m + j = N → ∀ g : Hp, Fr [114, 115, 125, 126] h g → g.1 114 = rdN s j → (∀ i, i < 49 → g.1 115 i = s i) → GoI 6 mX11_goes 24 [(0, .ref 113), (1, .int n), (3, .int (nI (j + 1)))] [] g (okw (wbS n 0 20) h (fun v h' => v = goV s n.toNatClampNeg ∧ Fr [114, 115, 125, 126] h h' ∧ h'.1 114 = rdN s n.toNatClampNeg)) := by
    intro m
    induction m with
    | zero =>
      intro j hj g f e1 e2
      have hj : j = N := by omega
      subst hj
      refine b_X11_goes_24 ⟨fun _ => l2 (nH s) 0 rfl g f e1 e2, fun c2 => absurd ?_ c2⟩
      rw [eN]
      exact (nI_ltI (by omega) (by omega)).mpr (by omega)
    | succ m ih =>
      intro j hj g f e1 e2
      obtain ⟨a1, a2, a3, a4⟩ := rdN_ok o j
      refine b_X11_goes_24 ⟨fun c2 => absurd c2 ?_, fun _ => ⟨_, ct_round (by omega) (by omega) g _ e1 a1, fun h15 q => ?_⟩⟩
      · rw [eN]
        exact fun z => absurd ((nI_ltI (by omega) (by omega)).mp z) (by omega)
      · rw [nI_1]
        refine ih (j + 1) (by omega) h15 (f.tr (q.1.mono (by decide))) q.2 (fun i hi => ?_)
        rw [q.1.1 115 (by decide)]
        exact e2 i hi
  exact lp N 0 rfl _ kf k114 k115
