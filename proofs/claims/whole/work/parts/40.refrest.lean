/-! ===== the reference: rack, racks, like, count, letter ===== -/
def raZ (f : Nat → Int32) (r k : Nat) : Nat → Int32 := fun i => if 27 * r ≤ i ∧ i < 27 * r + 3 * k ∧ i % 3 = 0 then -9 else f i
theorem raZ_up (f : Nat → Int32) (r k : Nat) : upd (raZ f r k) (3 * (9 * r + k)) (-9) = raZ f r (k + 1) := by
  funext i
  by_cases e : i = 3 * (9 * r + k)
  · subst e
    rw [upd_at]
    unfold raZ
    rw [if_pos (by omega)]
  · rw [upd_ne _ _ e]
    unfold raZ
    by_cases e2 : 27 * r ≤ i ∧ i < 27 * r + 3 * k ∧ i % 3 = 0
    · rw [if_pos e2, if_pos (by omega)]
    · rw [if_neg e2, if_neg (by omega)]
def raW (r kd n : Int32) : Int32 := if inR r 0 2 then (if inR kd 0 5 then (if n ≤ 9 then 0 else -6) else -2) else -1
def raP (r kd n : Int32) (h : Hp) : Int32 → Hp → Prop := okw (raW r kd n) h (fun v h' => (0 ≤ n → v = 1 ∧ Fr [131, 132, 133] h h' ∧ h'.1 131 = upd (h.1 131) r.toNatClampNeg kd ∧ h'.1 132 = upd (h.1 132) r.toNatClampNeg n ∧ h'.1 133 = raZ (h.1 133) r.toNatClampNeg 9) ∧ (¬ 0 ≤ n → v = -14 ∧ h' = h))
theorem isR_nI {x : Int32} (hx : inR x 0 2 = true) : ∃ t, x = nI t ∧ t < 3 := inR_nIw (n := 3) (by decide) hx
theorem ct_rack (r kd n : Int32) (h : Hp) : CtI 2 mX11_rack [.ref 113, .int r, .int kd, .int n] h (raP r kd n h) := by
  refine e_X11_rack (pc (ct_isRack r h) ⟨fun c => pc (ct_isInI kd 0 5 h) ⟨fun c1 => ⟨fun c2 => ⟨fun c3 => ?_, fun c3 => ?_⟩, fun c2 => ⟨_, ct_noW isW_6 h, fun v h' q => ?_⟩⟩, fun c1 => ⟨_, ct_noW isW_2 h, fun v h' q => ?_⟩⟩, fun c => ⟨_, ct_noW isW_1 h, fun v h' q => ?_⟩⟩)
  · have ew : raW r kd n = 0 := by rw [raW, if_pos (bI_t c), if_pos (bI_t c1), if_pos c2]
    obtain ⟨t, et, ht⟩ := isR_nI (bI_t c)
    subst et
    have ct : (nI t).toNatClampNeg = t := nI_clamp (show t < 2 ^ 31 by omega)
    rw [ct]
    refine ⟨vp_in_nI (by omega) (by omega), fun g12 e12 => ⟨vp_in_nI (by omega) (by omega), fun g14 e14 => ?_⟩⟩
    have lp : ∀ m k : Nat, m + k = 9 → ∀ g : Hp, Fr [131, 132, 133] h g → g.1 131 = upd (h.1 131) t kd → g.1 132 = upd (h.1 132) t n → g.1 133 = raZ (h.1 133) t k → GoI 2 mX11_rack 69 [(0, .ref 113), (1, .int (nI t)), (4, .int (nI k))] [] g (raP (nI t) kd n h) := by
      intro m
      induction m with
      | zero =>
        intro k hk g f e1 e2 e3
        have hk : k = 9 := by omega
        subst hk
        refine b_X11_rack_69 ⟨fun _ => okw_t ew ⟨fun _ => ?_, fun c4 => absurd c3 c4⟩, fun c4 => absurd ?_ c4⟩
        · rw [ct]
          exact ⟨rfl, f, e1, e2, e3⟩
        · exact nI_le (a := 9) (by omega) (by omega)
      | succ m ih =>
        intro k hk g f e1 e2 e3
        refine b_X11_rack_69 ⟨fun c4 => absurd c4 (nI_ge (b := 9) (by omega) (by omega)), fun _ => pc (ct_placeOf t k g) ?_⟩
        rw [nI_clamp (show 3 * (9 * t + k) < 2 ^ 31 by omega), nI_1]
        refine ⟨vp_in_nI (by omega) (by omega), fun g7 e7 => ih (k + 1) (by omega) g7 ?_ ?_ ?_ ?_⟩
        · rw [e7]
          exact f.tr (Fr.ui (by decide))
        · rw [e7, ui_ne (by decide)]
          exact e1
        · rw [e7, ui_ne (by decide)]
          exact e2
        · rw [e7, ui_up, e3]
          exact raZ_up _ t k
    refine lp 9 0 rfl g14 ?_ ?_ ?_ ?_
    · rw [e14, e12]
      exact (Fr.ui (by decide)).tr (Fr.ui (by decide))
    · rw [e14, ui_ne (by decide), e12, ui_up]
    · rw [e14, ui_up, e12, ui_ne (by decide)]
    · rw [e14, ui_ne (by decide), e12, ui_ne (by decide)]
      funext i
      unfold raZ
      rw [if_neg (by omega)]
  · have ew : raW r kd n = 0 := by rw [raW, if_pos (bI_t c), if_pos (bI_t c1), if_pos c2]
    exact okw_t ew ⟨fun z => absurd z c3, fun _ => ⟨rfl, rfl⟩⟩
  · have ew : raW r kd n = -6 := by rw [raW, if_pos (bI_t c), if_pos (bI_t c1), if_neg c2]
    rw [raP, ew]
    exact okw_f (by decide) q
  · have ew : raW r kd n = -2 := by rw [raW, if_pos (bI_t c), if_neg (by rw [bI_0.mp c1]; decide)]
    rw [raP, ew]
    exact okw_f (by decide) q
  · have ew : raW r kd n = -1 := by rw [raW, if_neg (by rw [bI_0.mp c]; decide)]
    rw [raP, ew]
    exact okw_f (by decide) q
def rcW (s : Nat → Int32) (r p : Int32) : Int32 := if inR r 0 2 then (if p = -1 then 0 else if inR p 0 (s 3 - 1) then 0 else -1) else -1
/-- what racks answers: rack r, place i, plant p -/
def rcV (s kd sz : Nat → Int32) (r : Nat) (i p : Int32) : Int32 := if rwV kd sz r i = 0 then (if p = -1 then 1 else if unB (kd r) 3 (pfS s p.toNatClampNeg 0) then 1 else -16) else rwV kd sz r i
def rcX (s : Nat → Int32) (p : Int32) (w : Nat) (x : Int32) : Int32 := if p = -1 then x else pfS s p.toNatClampNeg w
def rcH (h : Hp) (s : Nat → Int32) (r : Nat) (i p : Int32) : Hp := ui (ui (ui h 133 (3 * (9 * r + i.toNatClampNeg)) (rcX s p 0 (-9))) 133 (3 * (9 * r + i.toNatClampNeg) + 1) (rcX s p 1 0)) 133 (3 * (9 * r + i.toNatClampNeg) + 2) (rcX s p 6 0)
def rcP (s : Nat → Int32) (r i p : Int32) (h : Hp) : Int32 → Hp → Prop := okw (rcW s r p) h (fun v h' => v = rcV s (h.1 131) (h.1 132) r.toNatClampNeg i p ∧ h' = if rcV s (h.1 131) (h.1 132) r.toNatClampNeg i p = 1 then rcH h s r.toNatClampNeg i p else h)
theorem imax0 : ∀ t, t < 3 → imax 0 (nI t) = nI t := by decide
theorem rwV_n1 (kd sz : Nat → Int32) (r : Nat) (i : Int32) : ¬ rwV kd sz r i = 1 := by
  unfold rwV
  by_cases c : kd r = -9
  · rw [if_pos c]
    decide
  · rw [if_neg c]
    by_cases c2 : inR i 0 (sz r - 1) = true
    · rw [if_pos c2]
      decide
    · rw [if_neg c2]
      decide
set_option maxHeartbeats 4000000 in
theorem ct_racks (r i p : Int32) (h : Hp) (s : Nat → Int32) (hs : h.1 114 = s) (o : OKs s) (ok : okR (h.1 131) (h.1 132)) : CtI 2 mX11_racks [.ref 113, .int r, .int i, .int p] h (rcP s r i p h) := by
  have hP := o.hP
  have s26 : rcW s r p = 0 → inR r 0 2 = true → (¬ p = -1 → inR p 0 (s 3 - 1) = true) → GoI 2 mX11_racks 26 [(0, .ref 113), (1, .int r), (2, .int i), (3, .int p)] [] h (rcP s r i p h) := by
    intro ew cr cp
    obtain ⟨R, eR, hR⟩ := isR_nI cr
    subst eR
    have cR : (nI R).toNatClampNeg = R := nI_clamp (show R < 2 ^ 31 by omega)
    refine b_X11_racks_26 (pc (ct_rackWrong hR i h) ⟨fun c => ?_, fun c => ?_⟩)
    · obtain ⟨j, ej, hj⟩ := rwV_0 ok hR c
      subst ej
      have cj : (nI j).toNatClampNeg = j := nI_clamp (show j < 2 ^ 31 by omega)
      have ix1 : nI (3 * (9 * R + j)) + 1 = nI (3 * (9 * R + j) + 1) := nI_1 _
      have ix2 : nI (3 * (9 * R + j)) + 2 = nI (3 * (9 * R + j) + 2) := nI_add _ 2
      have k0 : (nI (3 * (9 * R + j))).toNatClampNeg = 3 * (9 * R + j) := nI_clamp (by omega)
      have k1 : (nI (3 * (9 * R + j) + 1)).toNatClampNeg = 3 * (9 * R + j) + 1 := nI_clamp (by omega)
      have k2 : (nI (3 * (9 * R + j) + 2)).toNatClampNeg = 3 * (9 * R + j) + 2 := nI_clamp (by omega)
      have s72 : rcV s (h.1 131) (h.1 132) R (nI j) p = 1 → GoI 2 mX11_racks 72 [(0, .ref 113), (1, .int (nI R)), (2, .int (nI j)), (3, .int p)] [] h (rcP s (nI R) (nI j) p h) := by
        intro e1
        have fin : ∀ g : Hp, g = rcH h s R (nI j) p → rcP s (nI R) (nI j) p h 1 g := by
          intro g eg
          refine okw_t ew ?_
          rw [cR]
          refine ⟨e1.symm, ?_⟩
          rw [if_pos e1]
          exact eg
        refine b_X11_racks_72 (pc (ct_placeOf R j h) ⟨fun c2 => ?_, fun c2 => ?_⟩)
        · obtain ⟨P, eP, hPP⟩ := isP_nI o (cp c2)
          subst eP
          have cP : (nI P).toNatClampNeg = P := nI_clamp (show P < 2 ^ 31 by omega)
          have x0 : ∀ w x, rcX s (nI P) w x = pfS s P w := fun w x => by rw [rcX, if_neg c2, cP]
          refine pc (ct_of1 (w := 0) (by omega) (by decide) h) (b_X11_racks_101 ?_)
          rw [ix1, k0]
          refine ⟨vp_in_nI (by omega) (by omega), fun g2 e2 => ⟨fun _ => pc (ct_of1 (w := 1) (by omega) (by decide) g2) (b_X11_racks_125 ?_), fun c3 => absurd c3 c2⟩⟩
          rw [ix2, k1, k2]
          refine ⟨vp_in_nI (by omega) (by omega), fun g3 e3 => ⟨fun _ => pc (ct_of1 (w := 6) (by omega) (by decide) g3) ⟨vp_in_nI (by omega) (by omega), fun g9 e9 => fin g9 ?_⟩, fun c3 => absurd c3 c2⟩⟩
          have a2 : g2.1 114 = s := by rw [e2, ui_ne (by decide), hs]
          have a3 : g3.1 114 = s := by rw [e3, ui_ne (by decide), a2]
          rw [hs] at e2
          rw [a2] at e3
          rw [a3] at e9
          rw [e9, e3, e2, rcH, cj, x0, x0, x0]
        · have x0 : ∀ w x, rcX s p w x = x := fun w x => by rw [rcX, if_pos c2]
          refine b_X11_racks_101 ?_
          rw [ix1, k0]
          refine ⟨vp_in_nI (by omega) (by omega), fun g2 e2 => ⟨fun c3 => absurd c2 c3, fun _ => b_X11_racks_125 ?_⟩⟩
          rw [ix2, k1, k2]
          refine ⟨vp_in_nI (by omega) (by omega), fun g3 e3 => ⟨fun c3 => absurd c2 c3, fun _ => ⟨vp_in_nI (by omega) (by omega), fun g9 e9 => fin g9 ?_⟩⟩⟩
          rw [e9, e3, e2, rcH, cj, x0, x0, x0]
      refine ⟨fun c2 => s72 ?_, fun c2 => ?_⟩
      · rw [rcV, if_pos c, if_pos c2]
      · obtain ⟨P, eP, hPP⟩ := isP_nI o (cp c2)
        subst eP
        have cP : (nI P).toNatClampNeg = P := nI_clamp (show P < 2 ^ 31 by omega)
        refine pc (ct_max 0 (nI P) h) ?_
        rw [imax0 P (by omega)]
        refine pc (ct_of1 (w := 0) (by omega) (by decide) h) ?_
        rw [cR]
        refine ⟨vp_in_nI (by omega) (by omega), pc (ct_isUnderR _ _ h) ⟨fun c3 => s72 ?_, fun c3 => okw_t ew ?_⟩⟩
        · rw [hs] at c3
          rw [rcV, if_pos c, if_neg c2, cP, if_pos (bI_t c3)]
        · rw [hs] at c3
          have e1 : rcV s (h.1 131) (h.1 132) R (nI j) (nI P) = -16 := by rw [rcV, if_pos c, if_neg c2, cP, if_neg (by rw [bI_0.mp c3]; decide)]
          rw [cR, e1]
          exact ⟨rfl, (if_neg (by decide)).symm⟩
    · have e1 : rcV s (h.1 131) (h.1 132) R i p = rwV (h.1 131) (h.1 132) R i := by rw [rcV, if_neg c]
      refine okw_t ew ?_
      rw [cR, e1]
      exact ⟨rfl, (if_neg (rwV_n1 _ _ _ _)).symm⟩
  refine e_X11_racks (pc (ct_isRack r h) ⟨fun c => ⟨_, ct_noW isW_1 h, fun v h' q => ?_⟩, fun c => ⟨fun c2 => s26 ?_ (bI_t c) (fun z => absurd c2 z), fun c2 => pc (ct_isPlant p h) ⟨fun c3 => s26 ?_ (bI_t c) (fun _ => ?_), fun c3 => ⟨_, ct_noW isW_1 h, fun v h' q => ?_⟩⟩⟩⟩)
  · have ew : rcW s r p = -1 := by rw [rcW, if_neg (by rw [bI_0.mp c]; decide)]
    rw [rcP, ew]
    exact okw_f (by decide) q
  · rw [rcW, if_pos (bI_t c), if_pos c2]
  · rw [hs] at c3
    rw [rcW, if_pos (bI_t c), if_neg c2, if_pos (bI_t c3)]
  · rw [hs] at c3
    exact bI_t c3
  · rw [hs] at c3
    have ew : rcW s r p = -1 := by rw [rcW, if_pos (bI_t c), if_neg c2, if_neg (by rw [bI_0.mp c3]; decide)]
    rw [rcP, ew]
    exact okw_f (by decide) q
def liH (h : Hp) (r x : Nat) : Hp := uc (ui (ui h 131 r (h.1 131 x)) 132 r (h.1 132 x)) 133 (va_cpy (h.1 133) (h.1 133) (27 * x) (27 * r) 27)
def lkW (r x : Int32) : Int32 := if inR r 0 2 then (if inR x 0 2 then 0 else -1) else -1
def lkP (r x : Int32) (h : Hp) : Int32 → Hp → Prop := okw (lkW r x) h (fun v h' => (h.1 131 x.toNatClampNeg = -9 → v = -11 ∧ h' = h) ∧ (¬ h.1 131 x.toNatClampNeg = -9 → v = h.1 132 x.toNatClampNeg ∧ h' = liH h r.toNatClampNeg x.toNatClampNeg))
theorem ct_like (r x : Int32) (h : Hp) : CtI 2 mX11_like [.ref 113, .int r, .int x] h (lkP r x h) := by
  refine e_X11_like (pc (ct_isRack r h) ⟨fun c => ⟨_, ct_noW isW_1 h, fun v h' q => ?_⟩, fun c => pc (ct_isRack x h) ⟨fun c2 => ?_, fun c2 => ⟨_, ct_noW isW_1 h, fun v h' q => ?_⟩⟩⟩)
  · have ew : lkW r x = -1 := by rw [lkW, if_neg (by rw [bI_0.mp c]; decide)]
    rw [lkP, ew]
    exact okw_f (by decide) q
  · have ew : lkW r x = 0 := by rw [lkW, if_pos (bI_t c), if_pos (bI_t c2)]
    obtain ⟨R, eR, hR⟩ := isR_nI (bI_t c)
    obtain ⟨X, eX, hX⟩ := isR_nI (bI_t c2)
    subst eR
    subst eX
    have cR : (nI R).toNatClampNeg = R := nI_clamp (show R < 2 ^ 31 by omega)
    have cX : (nI X).toNatClampNeg = X := nI_clamp (show X < 2 ^ 31 by omega)
    rw [cR, cX]
    refine ⟨vp_in_nI (by omega) (by omega), fun c3 => ⟨vp_in_nI (by omega) (by omega), vp_in_nI (by omega) (by omega), fun g19 e19 => ⟨vp_in_nI (by omega) (by omega), vp_in_nI (by omega) (by omega), fun g22 e22 => pc (ct_placeOf X 0 g22) (pc (ct_placeOf R 0 g22) ?_)⟩⟩, fun c3 => okw_t ew ⟨fun _ => ⟨rfl, rfl⟩, fun z => absurd ?_ z⟩⟩
    · rw [nI_clamp (show 3 * (9 * X + 0) < 2 ^ 31 by omega), nI_clamp (show 3 * (9 * R + 0) < 2 ^ 31 by omega)]
      refine ⟨⟨nI_pos (by omega), nI_pos (by omega), by omega, by omega⟩, fun g34 e34 => ⟨vp_in_nI (by omega) (by omega), okw_t ew ⟨fun z => absurd z (by rw [cX]; exact c3), fun _ => ?_⟩⟩⟩
      rw [cR, cX]
      have a1 : g22.1 133 = h.1 133 := by rw [e22, ui_ne (by decide), e19, ui_ne (by decide)]
      have a2 : g19.1 132 = h.1 132 := by rw [e19, ui_ne (by decide)]
      refine ⟨?_, ?_⟩
      · rw [e34, uc_ne _ _ (by decide), e22, ui_aa, a2]
      · rw [e34, a1, e22, a2, e19, liH, show 3 * (9 * X + 0) = 27 * X by omega, show 3 * (9 * R + 0) = 27 * R by omega]
    · rw [cX]
      exact c3
  · have ew : lkW r x = -1 := by rw [lkW, if_pos (bI_t c), if_neg (by rw [bI_0.mp c2]; decide)]
    rw [lkP, ew]
    exact okw_f (by decide) q
/-- what count answers -/
def cnV (s : Nat → Int32) (m : Int32) (rf : Nat → Int32) (x : Int32) : Int32 :=
  if inR x 11 16 then rf (x - 10).toNatClampNeg else if x = 0 then s 3 else if x = 1 then s 0 else if x = 2 then s 1 else if x = 3 then s 2 else if x = 4 then m else if x = 5 then sumI (fun t => s (4 + t)) (nH s) else -9
theorem in1116 {x : Int32} (h : inR x 11 16 = true) : ∃ n : Nat, x - 10 = nI n ∧ n < 7 ∧ 1 ≤ n := by
  unfold inR at h
  have h := of_decide_eq_true h
  have a := Int32.le_iff_toInt_le.mp h.1
  have b := Int32.le_iff_toInt_le.mp h.2
  have e11 : (11 : Int32).toInt = 11 := by decide
  have e16 : (16 : Int32).toInt = 16 := by decide
  rw [e11] at a
  rw [e16] at b
  have e : ∃ k : Nat, x.toInt = (k : Int) ∧ 11 ≤ k ∧ k ≤ 16 := ⟨x.toInt.toNat, by omega, by omega, by omega⟩
  obtain ⟨k, ek, k1, k2⟩ := e
  have ex : x = nI k := by
    apply Int32.toInt_inj.mp
    rw [nI_toInt (by omega), ek]
  subst ex
  refine ⟨k - 10, ?_, by omega, by omega⟩
  have : ∀ k, k < 17 → 11 ≤ k → nI k - 10 = nI (k - 10) := by decide
  exact this k (by omega) k1
theorem ct_count (x : Int32) (h : Hp) (s : Nat → Int32) (hs : h.1 114 = s) (o : OKs s) : CtI 1 mX11_count [.ref 113, .int x] h (pq (cnV s (h.1 113 26) (h.1 117) x) h) := by
  refine e_X11_count (pc (ct_isInI x 11 16 h) ⟨fun c => ?_, fun c => ?_⟩)
  · have cf : ¬ inR x 11 16 = true := by rw [bI_0.mp c]; decide
    rw [hs]
    refine ⟨fun c0 => ⟨?_, rfl⟩, fun c0 => ⟨fun c1 => ⟨by rw [c1]; exact vp_c rfl, ?_, rfl⟩, fun c1 => ⟨fun c2 => ⟨by rw [c2]; exact vp_c rfl, ?_, rfl⟩, fun c2 => ⟨fun c3 => ⟨by rw [c3]; exact vp_c rfl, ?_, rfl⟩, fun c3 => ⟨fun c4 => ⟨?_, rfl⟩, fun c4 => ⟨fun c5 => pc (ct_allDemand h s hs o) ⟨?_, rfl⟩, fun c5 => ⟨?_, rfl⟩⟩⟩⟩⟩⟩⟩
    · rw [cnV, if_neg cf, if_pos c0]
    · rw [cnV, if_neg cf, if_neg c0, if_pos c1, c1]
      rfl
    · rw [cnV, if_neg cf, if_neg c0, if_neg c1, if_pos c2, c2]
      rfl
    · rw [cnV, if_neg cf, if_neg c0, if_neg c1, if_neg c2, if_pos c3, c3]
      rfl
    · rw [cnV, if_neg cf, if_neg c0, if_neg c1, if_neg c2, if_neg c3, if_pos c4]
    · rw [cnV, if_neg cf, if_neg c0, if_neg c1, if_neg c2, if_neg c3, if_neg c4, if_pos c5]
    · rw [cnV, if_neg cf, if_neg c0, if_neg c1, if_neg c2, if_neg c3, if_neg c4, if_neg c5]
  · obtain ⟨n, en, hn, -⟩ := in1116 (bI_t c)
    refine ⟨by rw [en]; exact vp_in_nI hn (by omega), ?_, rfl⟩
    rw [cnV, if_pos (bI_t c)]
def leW (m x : Int32) : Int32 := if wbS x 0 255 = 0 then (if m = 120 then -6 else 0) else wbS x 0 255
theorem leW_isW (m x : Int32) : isW (leW m x) := by
  unfold leW
  by_cases d : wbS x 0 255 = 0
  · rw [if_pos d]
    by_cases e : m = 120
    · rw [if_pos e]
      exact isW_6
    · rw [if_neg e]
      exact isW_0
  · rw [if_neg d]
    exact isW_wb _ _ _
theorem ct_letter {m : Nat} (hm : m ≤ 120) (x : Int32) (h : Hp) (hs : h.1 113 26 = nI m) : CtI 1 mX11_letter [.ref 113, .int x] h (okw (leW (nI m) x) h (fun v h' => v = nI (m + 1) ∧ h' = ui (ui h 134 m x) 113 26 (nI (m + 1)) ∧ m < 120)) := by
  have s25 : GoI 1 mX11_letter 25 [(0, .ref 113), (1, .int x), (2, .int (leW (nI m) x))] [] h (okw (leW (nI m) x) h (fun v h' => v = nI (m + 1) ∧ h' = ui (ui h 134 m x) 113 26 (nI (m + 1)) ∧ m < 120)) := by
    refine b_X11_letter_25 ⟨fun c => ?_, fun c => ⟨_, ct_noW (leW_isW _ _) h, fun v h' q => okw_f c q⟩⟩
    have m120 : m ≠ 120 := by
      intro e
      unfold leW at c
      by_cases d : wbS x 0 255 = 0
      · rw [if_pos d, if_pos (by rw [e]; rfl)] at c
        exact absurd c (by decide)
      · rw [if_neg d] at c
        exact d c
    rw [hs, nI_clamp (show m < 2 ^ 31 by omega)]
    refine ⟨vp_in_nI (by omega) (by omega), fun g2 e2 g3 e3 => okw_t c ?_⟩
    have a2 : g2.1 113 26 = nI m := by rw [e2, ui_ne (by decide), hs]
    rw [a2, nI_1] at e3
    refine ⟨?_, ?_, by omega⟩
    · rw [e3, ui_aa]
    · rw [e3, e2]
  refine e_X11_letter (pc (ct_wrongBy x 0 255 h) ⟨fun c => ?_, fun c => ⟨fun c2 => ?_, fun c2 => ?_⟩⟩)
  · have e : leW (nI m) x = wbS x 0 255 := by rw [leW, if_neg c]
    rw [e] at s25 ⊢
    exact s25
  · rw [hs] at c2
    have e : leW (nI m) x = 0 := by rw [leW, if_pos c, if_neg c2]
    rw [e] at s25 ⊢
    rw [c]
    exact s25
  · rw [hs] at c2
    have e : leW (nI m) x = -6 := by rw [leW, if_pos c, if_pos c2]
    rw [e] at s25 ⊢
    exact s25
