/-! ===== the reference: lots, lays ===== -/
theorem wb_nI1 {x : Int32} {m : Nat} (hm : m < 2 ^ 31) (c : wbS x 1 (nI m) = 0) : ∃ n, x = nI n ∧ n ≤ m := by
  refine wb_nI hm ?_
  unfold wbS at c
  unfold wbS
  by_cases c1 : x < 1
  · rw [if_pos c1] at c
    exact absurd c (by decide)
  · rw [if_neg c1] at c
    have c2 : ¬ x < 0 := fun z => c1 (Int32.lt_iff_toInt_lt.mpr (by
      have := Int32.lt_iff_toInt_lt.mp z
      have e0 : (0 : Int32).toInt = 0 := by decide
      have e1 : (1 : Int32).toInt = 1 := by decide
      rw [e0] at this
      rw [e1]
      omega))
    rw [if_neg c2]
    exact c
def lsD (z : Int32) : Int32 := z * 1664525 + 1013904223
/-- what is drawn -/
def drD (z : Int32) : Int32 := (z &&& 2147483647) / 256 - (z &&& 2147483647) / 256 / 100 * 100
/-- the row with demands drawn for the first t hours, the seed behind -/
def loS (s : Nat → Int32) (z : Int32) : Nat → (Nat → Int32) × Int32
  | 0 => (s, z)
  | t + 1 => (upd (loS s z t).1 (4 + t) (drD (lsD (loS s z t).2)), lsD (loS s z t).2)
theorem loS_ne (s : Nat → Int32) (z : Int32) : ∀ t i, (i < 4 ∨ 4 + t ≤ i) → (loS s z t).1 i = s i
  | 0, _, _ => rfl
  | t + 1, i, h => by
    show upd _ (4 + t) _ i = s i
    rw [upd_ne _ _ (by omega)]
    exact loS_ne s z t i (by omega)
def loT (s : Nat → Int32) (what : Int32) : Int32 := if beV s 0 = -9 then 0 else if what = 0 then 1 else beV s 0
def loR (H : Nat) (what : Int32) : Nat → (Nat → Int32) → Int32 → Int32 → Int32
  | 0, _, _, c => c
  | n + 1, s, z, c => loR H what n (loS s z H).1 (loS s z H).2 (c + loT (loS s z H).1 what)
def loW (n what : Int32) : Int32 := if wbS n 1 20 = 0 then (if inR what 0 1 then 0 else -2) else wbS n 1 20
def loV (s : Nat → Int32) (n z what : Int32) : Int32 := loR (nH s) what n.toNatClampNeg s z 0
def loP (s : Nat → Int32) (n z what : Int32) (h : Hp) : Int32 → Hp → Prop := okw (loW n what) h (fun v h' => v = loV s n z what ∧ triI (115 :: scr) h h')
theorem Fr.ti {X : List Nat} {h g : Hp} (f : Fr X h g) (hx : 113 ∉ X) : triI X h g := ⟨f.mono (fun _ hk => List.mem_cons_of_mem _ hk), fun i _ => by rw [f.1 113 hx]⟩
set_option maxHeartbeats 4000000 in
theorem ct_lots (n z what : Int32) (h : Hp) (s : Nat → Int32) (hs : h.1 114 = s) (o : OKs s) (hab : h.1 113 8 = 0) : CtI 8 mX11_lots [.ref 113, .int n, .int z, .int what] h (loP s n z what h) := by
  have hH := o.hH
  have s28 : ∀ w : Int32, w = loW n what → isW w → GoI 8 mX11_lots 28 [(0, .ref 113), (1, .int n), (2, .int z), (3, .int what), (4, .int w)] [] h (loP s n z what h) := by
    intro w ew iw
    subst ew
    refine b_X11_lots_28 ⟨fun c => vc (ct_keeps h) ?_, fun c => ⟨_, ct_noW iw h, fun v h' q => okw_f c q⟩⟩
    have c0 : wbS n 1 20 = 0 := by
      by_cases y : wbS n 1 20 = 0
      · exact y
      · unfold loW at c
        rw [if_neg y] at c
        exact c
    obtain ⟨N, eN, lN⟩ := wb_nI1 (m := 20) (by decide) c0
    have k114 : (uc h 115 (va_cpy (h.1 114) (h.1 115) 0 0 49)).1 114 = s := (uc_ne h _ (by decide)).trans hs
    have k115 : ∀ i, i < 49 → (uc h 115 (va_cpy (h.1 114) (h.1 115) 0 0 49)).1 115 i = s i := fun i hi => by rw [uc_at, cpy_lt _ _ hi, hs]
    have kf : triI (114 :: 115 :: scr) h (uc h 115 (va_cpy (h.1 114) (h.1 115) 0 0 49)) := ⟨Fr.uc (by decide), fun i _ => by rw [uc_ne _ _ (by decide)]⟩
    have lp : ∀ m j : Nat, m + j = N → ∀ (x c6 : Int32) (s2 : Nat → Int32) (g : Hp), triI (114 :: 115 :: scr) h g → g.1 114 = s2 → (∀ i, (i < 4 ∨ 9 ≤ i) → s2 i = s i) → (∀ i, i < 49 → g.1 115 i = s i) → loR (nH s) what m s2 x c6 = loV s n z what → GoI 8 mX11_lots 53 [(0, .ref 113), (1, .int n), (3, .int what), (5, .int x), (6, .int c6), (7, .int (nI j))] [] g (loP s n z what h) := by
      intro m
      induction m with
      | zero =>
        intro j hj x c6 s2 g f e1 e2 e3 er
        have hj : j = N := by omega
        subst hj
        refine b_X11_lots_53 ⟨fun _ => vc (ct_laysBack g) (okw_t c ⟨er, ?_⟩), fun c2 => absurd ?_ c2⟩
        · refine triI.back (X := 115 :: scr) (f.tr ⟨Fr.uc (by decide), fun i _ => by rw [uc_ne _ _ (by decide)]⟩) ?_
          rw [uc_at, hs]
          funext i
          by_cases y : i < 49
          · rw [cpy_lt _ _ y]
            exact e3 i y
          · rw [cpy_ge _ _ (by omega), e1]
            exact e2 i (by omega)
        · rw [eN]
          exact nI_le (by omega) (by omega)
      | succ m ih =>
        intro j hj x c6 s2 g f e1 e2 e3 er
        obtain ⟨o2, H2, P2⟩ := o.of (e2 0 (by omega)) (e2 3 (by omega))
        have inn : ∀ k t : Nat, k + t = nH s → ∀ g : Hp, triI (114 :: 115 :: scr) h g → g.1 114 = (loS s2 x t).1 → (∀ i, i < 49 → g.1 115 i = s i) → GoI 8 mX11_lots 62 [(0, .ref 113), (1, .int n), (3, .int what), (5, .int (loS s2 x t).2), (6, .int c6), (7, .int (nI j)), (8, .int (nI t))] [] g (loP s n z what h) := by
          intro k
          induction k with
          | zero =>
            intro t ht g f e1 e3
            have ht : t = nH s := by omega
            subst ht
            have e4 : ∀ i, (i < 4 ∨ 9 ≤ i) → (loS s2 x (nH s)).1 i = s i := fun i hi => (loS_ne s2 x (nH s) i (by omega)).trans (e2 i hi)
            obtain ⟨o4, H4, P4⟩ := o.of (e4 0 (by omega)) (e4 3 (by omega))
            have f142 : ∀ (v : Int32) (h4 : Hp), triI scr g h4 → v = loT (loS s2 x (nH s)).1 what → GoI 8 mX11_lots 142 [(0, .ref 113), (1, .int n), (3, .int what), (5, .int (loS s2 x (nH s)).2), (7, .int (nI j))] [.int v, .int c6] h4 (loP s n z what h) := by
              intro v h4 f4 ev
              refine b_X11_lots_142 ?_
              rw [nI_1, ev]
              refine ih (j + 1) (by omega) _ _ (loS s2 x (nH s)).1 h4 (f.tr (f4.mono (by decide))) ((f4.1.1 114 (by decide)).trans e1) e4 (fun i hi => ?_) er
              rw [f4.1.1 115 (by decide)]
              exact e3 i hi
            refine b_X11_lots_62 ⟨fun _ => ⟨_, ct_bestsX (ab := 0) g _ e1 o4 ((f.2 8 (by decide)).trans hab), fun v h4 q => ?_⟩, fun c2 => absurd ?_ c2⟩
            · obtain ⟨q1, q2, -⟩ := q
              refine ⟨fun c2 => ⟨fun c3 => f142 v h4 q2 ?_, fun c3 => f142 1 h4 q2 ?_⟩, fun c2 => f142 0 h4 q2 ?_⟩
              · rw [q1] at c2
                rw [loT, if_neg c2, if_neg c3, q1]
              · rw [q1] at c2
                rw [loT, if_neg c2, if_pos c3]
              · rw [q1] at c2
                rw [loT, if_pos c2]
            · rw [e1, e4 0 (by omega), o.eH]
              exact nI_le (by omega) (by omega)
          | succ k ihk =>
            intro t ht g f e1 e3
            have e4 : (loS s2 x t).1 0 = s 0 := (loS_ne s2 x t 0 (by omega)).trans (e2 0 (by omega))
            refine b_X11_lots_62 ⟨fun c2 => absurd c2 ?_, fun _ => ?_⟩
            · rw [e1, e4, o.eH]
              exact nI_ge (by omega) (by omega)
            · rw [ix4, nI_clamp (show 4 + t < 2 ^ 31 by omega), nI_1]
              refine ⟨vp_in_nI (by omega) (by omega), fun g7 e7 => ihk (t + 1) (by omega) g7 ?_ ?_ (fun i hi => ?_)⟩
              · rw [e7]
                exact f.tr (triI.ui (by decide) (by decide))
              · rw [e7, ui_up, e1]
                rfl
              · rw [e7, ui_ne (by decide)]
                exact e3 i hi
        refine b_X11_lots_53 ⟨fun c2 => absurd c2 ?_, fun _ => inn (nH s) 0 rfl g f e1 e3⟩
        rw [eN]
        exact nI_ge (by omega) (by omega)
    refine lp N 0 rfl z 0 s _ kf k114 (fun _ _ => rfl) k115 ?_
    unfold loV
    rw [eN, nI_clamp (show N < 2 ^ 31 by omega)]
  refine e_X11_lots (pc (ct_wrongBy n 1 20 h) ⟨fun c => s28 _ ?_ (isW_wb _ _ _), fun c => pc (ct_isInI what 0 1 h) ⟨fun c2 => s28 _ ?_ (isW_wb _ _ _), fun c2 => s28 _ ?_ isW_2⟩⟩)
  · unfold loW
    rw [if_neg c]
  · unfold loW
    rw [if_pos c, if_pos (bI_t c2), c]
  · unfold loW
    rw [if_pos c, if_neg (by rw [bI_0.mp c2]; decide)]
