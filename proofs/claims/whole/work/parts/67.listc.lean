/-! ===== the class: told lists ===== -/
def lsC : List Nat := [69, 70, 71, 72, 73, 74, 75, 76]
/-- the lists of sizes z hold the items it -/
def lsI (z it : Nat → Int32) (h : Hp) : Prop := ∀ l, l < 4 → h.1 (69 + 2 * l) 1 = (if z l = -9 then -1 else z l) ∧ ∀ k, k < 20 → h.1 (70 + 2 * l) k = it (20 * l + k)
theorem ls_c : ∀ l, l < 4 → 69 + 2 * l ∈ lsC ∧ 70 + 2 * l ∈ lsC := by decide
theorem isLn_l : ∀ l, l < 4 → isLn (69 + 2 * l) ∧ w0.2[70 + 2 * l]? = some (100, 20)
  | 0, _ => ⟨isLn_69, isLn_69.2.2⟩
  | 1, _ => ⟨isLn_71, isLn_71.2.2⟩
  | 2, _ => ⟨isLn_73, isLn_73.2.2⟩
  | 3, _ => ⟨isLn_75, isLn_75.2.2⟩
theorem lsI.fr {z it : Nat → Int32} {X : List Nat} {h g : Hp} (a : lsI z it h) (f : Fr X h g) (hx : ∀ k, k ∈ lsC → k ∉ X) : lsI z it g := fun l hl => by
  rw [f.1 _ (hx _ (ls_c l hl).1), f.1 _ (hx _ (ls_c l hl).2)]
  exact a l hl
theorem ct_noList (x : Int32) (h : Hp) : CtI 0 mX10_noList [.int x] h (pq (bI (!inR x 0 3)) h) := by
  refine e_X10_noList ⟨fun c => ⟨?_, rfl⟩, fun c => ⟨fun c2 => ⟨?_, rfl⟩, fun c2 => ⟨?_, rfl⟩⟩⟩
  · rw [in_l (lt0 c)]
    rfl
  · rw [(in_i (nlt0 c) ((pw_in (n := 2) (by decide) x).mp c2) : inR x 0 3 = true)]
    rfl
  · rw [(in_h (fun z => c2 ((pw_in (n := 2) (by decide) x).mpr z)) : inR x 0 3 = false)]
    rfl
theorem ct_fillA {r n : Nat} (hr : w0.2[r]? = some (100, n)) (hn : n < 2 ^ 31) (x : Int32) (h : Hp) : CtV 0 mJ7_fill_53178 [.ref r, .int x] h (fun g => Fr [r] h g ∧ ∀ q, q < n → g.1 r q = x) := by
  have lp : ∀ m q : Nat, m + q = n → ∀ g : Hp, Fr [r] h g → (∀ j, j < q → g.1 r j = x) → GoV 0 mJ7_fill_53178 5 [(0, .ref r), (1, .int x), (2, .int (nI q)), (3, .int (nI n))] [] g (fun g => Fr [r] h g ∧ ∀ q, q < n → g.1 r q = x) := by
    intro m
    induction m with
    | zero =>
      intro q hq g f i
      have hq : q = n := by omega
      subst hq
      exact b_J7_fill_53178_5 hr ⟨fun _ => ⟨f, i⟩, fun c => absurd (nI_le (by omega) (by omega)) c⟩
    | succ m ih =>
      intro q hq g f i
      refine b_J7_fill_53178_5 hr ⟨fun c => absurd c (nI_ge (by omega) (by omega)), fun _ => ⟨vp_in_nI (by omega) (by omega), fun g2 e2 => ?_⟩⟩
      rw [nI_clamp (show q < 2 ^ 31 by omega)] at e2
      rw [nI_1]
      refine ih (q + 1) (by omega) g2 ?_ (fun j hj => ?_)
      · rw [e2]
        exact f.tr (Fr.ui (List.mem_cons_self ..))
      · rw [e2]
        by_cases y : j = q
        · rw [y, ui_aa]
        · rw [ui_nj y]
          exact i j (by omega)
  exact e_J7_fill_53178 hr (lp n 0 (by omega) h Fr.rf (fun j hj => by omega))
theorem ct_listC (l n : Int32) (h : Hp) (z it : Nat → Int32) (L : lsI z it h) : CtI 2 mX10_list [.ref 0, .int l, .int n] h (okx (liW l n) h (fun v g => (0 ≤ n → v = 1 ∧ lsI (upd z l.toNatClampNeg n) (itZ it l.toNatClampNeg 20) g ∧ Fr lsC h g) ∧ (¬ 0 ≤ n → v = -14 ∧ g = h))) := by
  refine e_X10_list (pc (ct_noList l h) ⟨fun c => ?_, fun c => rfx (ite_f (nb_1.mp c)) isW_1 (by decide)⟩)
  have c := nb_0.mp c
  have ew : liW l n = if n ≤ 20 then 0 else -6 := if_pos c
  obtain ⟨t, et, ht⟩ := isL_nI c
  subst et
  rw [nI_clamp (show t < 2 ^ 31 by omega)]
  refine ⟨fun c2 => ⟨fun c3 => ⟨vp_in_nI (by omega) (by omega), ?_⟩, fun c3 => okx_t (ew.trans (if_pos c2)) ⟨fun y => absurd y c3, fun _ => ⟨rfl, rfl⟩⟩⟩, fun c2 => rfx (ew.trans (if_neg c2)) isW_6 (by decide)⟩
  obtain ⟨k1, k2⟩ := isLn_l t ht
  have F := ct_fillA (r := 69 + 2 * t + 1) (n := 20) k1.2.2 (by decide) 0 h
  refine ⟨_, e_X1_make (Q := fun g => Fr lsC h g ∧ lsI (upd z t n) (itZ it t 20) g) k1 ⟨_, F, fun h4 q g6 e6 => ?_⟩, fun h10 q => okx_t (ew.trans (if_pos c2)) ⟨fun _ => ⟨rfl, q.2, q.1⟩, fun y => absurd c3 y⟩⟩
  obtain ⟨q1, q2⟩ := q
  have f6 : Fr [69 + 2 * t + 1, 69 + 2 * t] h g6 := by
    rw [e6]
    exact (q1.mono (fun k hk => List.mem_append_left _ hk)).tr (Fr.ui (List.mem_cons_of_mem _ (List.mem_cons_self ..)))
  have m1 := ls_c t ht
  refine ⟨f6.mono (fun k hk => ?_), fun l hl => ?_⟩
  · rcases List.mem_cons.mp hk with e | hk
    · rw [e, show 69 + 2 * t + 1 = 70 + 2 * t by omega]
      exact m1.2
    · rw [List.mem_singleton.mp hk]
      exact m1.1
  · by_cases y : l = t
    · subst y
      refine ⟨?_, fun k hk => ?_⟩
      · rw [e6, ui_aa, upd_at, if_neg]
        intro z9
        rw [z9] at c3
        exact absurd c3 (by decide)
      · rw [e6, ui_ne (by omega), show 70 + 2 * l = 69 + 2 * l + 1 by omega, q2 k hk]
        unfold itZ
        rw [if_pos (by omega)]
    · have n1 : ∀ x, x ∈ [69 + 2 * t + 1, 69 + 2 * t] → 69 + 2 * l ≠ x ∧ 70 + 2 * l ≠ x := fun x hx => by
        simp only [List.mem_cons, List.not_mem_nil, or_false] at hx
        omega
      rw [f6.1 _ (fun hx => (n1 _ hx).1 rfl), f6.1 _ (fun hx => (n1 _ hx).2 rfl), upd_ne _ _ y]
      refine ⟨(L l hl).1, fun k hk => ?_⟩
      rw [(L l hl).2 k hk]
      unfold itZ
      rw [if_neg (by omega)]
theorem ls_up {z it : Nat → Int32} {h : Hp} (L : lsI z it h) {l j : Nat} (hj : j < 20) (x : Int32) : lsI z (upd it (20 * l + j) x) (ui h (70 + 2 * l) j x) := fun k hk => by
  refine ⟨?_, fun q hq => ?_⟩
  · rw [ui_ne (by omega)]
    exact (L k hk).1
  · rw [ui_get]
    by_cases y : k = l ∧ q = j
    · obtain ⟨y1, y2⟩ := y
      subst y1
      subst y2
      rw [if_pos ⟨rfl, rfl⟩, upd_at]
    · rw [if_neg (fun w => y ⟨by omega, w.2⟩), upd_ne _ _ (fun w => y (by omega))]
      exact (L k hk).2 q hq
theorem m9_pos {k : Nat} (hk : k < 2 ^ 31) : ¬ nI k = -9 := fun z => absurd (show (0 : Int32) ≤ -9 by rw [← z]; exact nI_pos' hk) (by decide)
theorem ct_setC {l k : Nat} (hl : l < 4) (hk : k ≤ 20) (i x : Int32) (h : Hp) (z it : Nat → Int32) (L : lsI z it h) (hz : z l = nI k) : CtI 0 mX1_set [.ref (69 + 2 * l), .int i, .int x] h (fun v g => v = bI (inR i 0 (z l - 1)) ∧ (inR i 0 (z l - 1) = true → g = ui h (70 + 2 * l) i.toNatClampNeg x ∧ i.toNatClampNeg < 20 ∧ lsI z (upd it (20 * l + i.toNatClampNeg) x) g ∧ Fr lsC h g) ∧ (inR i 0 (z l - 1) = false → g = h)) := by
  obtain ⟨k1, -⟩ := isLn_l l hl
  have e1 : h.1 (69 + 2 * l) 1 = nI k := by rw [(L l hl).1, hz, if_neg (m9_pos (by omega))]
  have ir := inR_lt (n := k) (by omega) i
  rw [hz, ir]
  refine e_X1_set k1 ?_
  rw [e1]
  refine ⟨fun c => ⟨?_, fun y => ?_, fun _ => rfl⟩, fun c => ⟨fun c2 => ⟨?_, fun y => ?_, fun _ => rfl⟩, fun c2 => ?_⟩⟩
  · rw [decide_eq_false (fun y => y.1 c)]
    rfl
  · exact absurd c (of_decide_eq_true y).1
  · rw [decide_eq_false (fun y => absurd y.2 (Int32.not_lt.mpr c2))]
    rfl
  · exact absurd (of_decide_eq_true y).2 (Int32.not_lt.mpr c2)
  · have c3 := Int32.not_le.mp c2
    obtain ⟨j, hj, ej⟩ := nI_of c
    subst ej
    have jk : j < k := (nI_ltI (by omega) (by omega)).mp c3
    rw [nI_clamp (show j < 2 ^ 31 by omega), decide_eq_true ⟨c, c3⟩]
    refine ⟨fun c4 => ⟨vp_in_nI (by omega) (by omega), fun g2 e2 => ⟨rfl, fun _ => ?_, fun y => absurd y (by decide)⟩⟩, fun c4 => absurd (nI_lt (b := 20) (by omega) (by omega)) c4⟩
    rw [show 69 + 2 * l + 1 = 70 + 2 * l by omega] at e2
    refine ⟨e2, by omega, ?_, ?_⟩
    · rw [e2]
      exact ls_up L (by omega) x
    · rw [e2]
      exact Fr.ui (ls_c l hl).2
theorem ls_sz {z it : Nat → Int32} {h : Hp} (L : lsI z it h) (hz : okZ z) {l : Nat} (hl : l < 4) : (0 ≤ h.1 (69 + 2 * l) 1 → ¬ z l = -9 ∧ ∃ k : Nat, k ≤ 20 ∧ z l = nI k ∧ h.1 (69 + 2 * l) 1 = nI k) ∧ (¬ 0 ≤ h.1 (69 + 2 * l) 1 → z l = -9) := by
  rw [(L l hl).1]
  rcases hz l hl with e | ⟨k, hk, e⟩
  · rw [if_pos e]
    exact ⟨fun y => absurd y (by decide), fun _ => e⟩
  · have n9 : ¬ z l = -9 := by
      rw [e]
      exact m9_pos (by omega)
    rw [if_neg n9]
    exact ⟨fun _ => ⟨n9, k, hk, e, e⟩, fun y => absurd (by rw [e]; exact nI_pos' (by omega)) y⟩
theorem ct_putC (l i v : Int32) (h : Hp) (z it : Nat → Int32) (L : lsI z it h) (hz : okZ z) : CtI 1 mX10_put [.ref 0, .int l, .int i, .int v] h (okx (if inR l 0 3 then 0 else -1) h (fun w g => w = puV z l.toNatClampNeg i ∧ Fr lsC h g ∧ lsI z (if puV z l.toNatClampNeg i = 1 then upd it (20 * l.toNatClampNeg + i.toNatClampNeg) v else it) g)) := by
  refine e_X10_put (pc (ct_noList l h) ⟨fun c => ?_, fun c => rfx (ite_f (nb_1.mp c)) isW_1 (by decide)⟩)
  have c := nb_0.mp c
  obtain ⟨t, et, ht⟩ := isL_nI c
  subst et
  rw [nI_clamp (show t < 2 ^ 31 by omega)]
  have vi : vp_in (nI t) 4 := vp_in_nI (by omega) (by omega)
  have sz := ls_sz L hz ht
  refine ⟨vi, fun c2 => ⟨vi, ?_⟩, fun c2 => okx_t (if_pos c) ?_⟩
  · obtain ⟨n9, k, hk, ek, -⟩ := sz.1 c2
    refine ⟨_, ct_setC ht hk i v h z it L ek, fun v10 h11 q => okx_t (if_pos c) ?_⟩
    obtain ⟨q1, q2, q3⟩ := q
    have ep : puV z t i = if inR i 0 (z t - 1) then 1 else -13 := if_neg n9
    rw [ep, q1]
    cases y : inR i 0 (z t - 1)
    · rw [q3 y]
      exact ⟨rfl, Fr.rf, L⟩
    · obtain ⟨-, -, p3, p4⟩ := q2 y
      exact ⟨rfl, p4, p3⟩
  · have ep : puV z t i = -11 := if_pos (sz.2 c2)
    rw [ep]
    exact ⟨rfl, Fr.rf, L⟩
theorem la_wr : ∀ d, d < 3 → ∀ p, p < 3 → ∀ k, k < 21 → (inR (nI (2147483645 + d) + nI p) 0 (nI k - 1) = false) := by decide +kernel
theorem la_in {j p k : Nat} (hj : j < 2 ^ 31) (hp : p < 3) (hk : k ≤ 20) : inR (nI j + nI p) 0 (nI k - 1) = decide (j + p < k) := by
  by_cases c : j < 2147483645
  · rw [nI_add, inR_lt hk]
    refine decide_eq_decide.mpr ⟨fun y => (nI_ltI (by omega) (by omega)).mp y.2, fun y => ⟨nI_pos (by omega), nI_lt y (by omega)⟩⟩
  · have := la_wr (j - 2147483645) (by omega) p hp k (by omega)
    rw [show 2147483645 + (j - 2147483645) = j by omega] at this
    rw [this, decide_eq_false (by omega)]
theorem la_rf {j p k : Nat} (hj : j < 2 ^ 31) (hp : p < 3) (hk : k ≤ 20) : (¬ nI j < 0 ∧ nI j < nI k - nI p) ↔ j + p < k := by
  rw [Int32.lt_iff_toInt_lt (x := nI j) (y := nI k - nI p), nIsub k (by omega) p hp, nI_toInt hj]
  exact ⟨fun y => by have := y.2; omega, fun y => ⟨nI_pos hj, by omega⟩⟩
set_option maxHeartbeats 1000000 in
theorem ct_laysC (l x : Int32) (h : Hp) (s : Nat → Int32) (k : kI s h) (z it : Nat → Int32) (L : lsI z it h) (hz : okZ z) : CtI 6 mX10_lays [.ref 0, .int l, .int x] h (fun v g => (laW s l = 0 → v = (laV s z it l.toNatClampNeg x).1 ∧ Fr (lsC ++ scC) h g ∧ (∃ r1 r2, dyI r1 r2 g) ∧ lsI z (laV s z it l.toNatClampNeg x).2 g) ∧ (¬ laW s l = 0 → v = laW s l ∧ ∃ h1 : Hp, frC h h1 ∧ g = noC h1 (-(laW s l)).toNatClampNeg)) := by
  have hP := k.i.o.hP
  refine e_X10_lays (pc (ct_noList l h) ⟨fun c => ?_, fun c => ⟨_, ct_refuse isW_1 (by decide) h, fun v g q => ?_⟩⟩)
  · have c := nb_0.mp c
    obtain ⟨t, et, ht⟩ := isL_nI c
    subst et
    rw [nI_clamp (show t < 2 ^ 31 by omega)]
    refine ⟨_, ct_solveAsIs h s k, fun v8 h9 q => ?_⟩
    obtain ⟨q1, q2, q3, q4⟩ := q
    have sg := sgn q3
    have ew : laW s (nI t) = if beV s 0 = -9 then -3 else 0 := if_pos c
    have vi : vp_in (nI t) 4 := vp_in_nI (by omega) (by omega)
    have L9 := L.fr q2.1 (by decide)
    have sz := ls_sz L9 hz ht
    refine ⟨fun c2 => ⟨vi, ?_⟩, fun c2 => ⟨_, ct_refuse isW_3 (by decide) h9, fun v g q => ?_⟩⟩
    · have n9 := sg.1.mp c2
      have ew0 : laW s (nI t) = 0 := by
        rw [ew, if_neg]
        rw [← q1]
        exact n9
      obtain ⟨-, -, q5⟩ := q4 n9
      refine ⟨fun c3 => ?_, fun c3 => ⟨fun _ => ?_, fun y => absurd ew0 y⟩⟩
      · obtain ⟨n9z, K, hK, eK, -⟩ := sz.1 c3
        have eV : laV s z it t x = laR (nP s) (nI K) x (fun p => nI ((beX s 0).2 p)) it t (nP s) 0 := by
          unfold laV
          rw [if_neg n9z, eK]
        rw [eV]
        -- one step
        have stp : ∀ p : Nat, p < nP s → ∀ (f : Nat → Int32) (g : Hp), Fr lsC h9 g → lsI z f g → (∀ b : Bool, b = inR (x + nI p) 0 (nI K - 1) → ∀ g2 : Hp, Fr lsC h9 g2 → (b = true → lsI z (upd f (20 * t + (x + nI p).toNatClampNeg) (nI ((beX s 0).2 p))) g2) → (b = false → lsI z f g2) → ((¬ bI b = 0 → GoI 6 mX10_lays 44 [(0, .ref 0), (1, .int (nI t)), (2, .int x), (3, .int (nI p + 1))] [] g2 (fun v g => (laW s (nI t) = 0 → v = (laR (nP s) (nI K) x (fun p => nI ((beX s 0).2 p)) it t (nP s) 0).1 ∧ Fr (lsC ++ scC) h g ∧ (∃ r1 r2, dyI r1 r2 g) ∧ lsI z (laR (nP s) (nI K) x (fun p => nI ((beX s 0).2 p)) it t (nP s) 0).2 g) ∧ (¬ laW s (nI t) = 0 → v = laW s (nI t) ∧ ∃ h1 : Hp, frC h h1 ∧ g = noC h1 (-(laW s (nI t))).toNatClampNeg))) ∧ (bI b = 0 → (fun v g => (laW s (nI t) = 0 → v = (laR (nP s) (nI K) x (fun p => nI ((beX s 0).2 p)) it t (nP s) 0).1 ∧ Fr (lsC ++ scC) h g ∧ (∃ r1 r2, dyI r1 r2 g) ∧ lsI z (laR (nP s) (nI K) x (fun p => nI ((beX s 0).2 p)) it t (nP s) 0).2 g) ∧ (¬ laW s (nI t) = 0 → v = laW s (nI t) ∧ ∃ h1 : Hp, frC h h1 ∧ g = noC h1 (-(laW s (nI t))).toNatClampNeg)) (-13 : Int32) g2))) → GoI 6 mX10_lays 44 [(0, .ref 0), (1, .int (nI t)), (2, .int x), (3, .int (nI p))] [] g (fun v g => (laW s (nI t) = 0 → v = (laR (nP s) (nI K) x (fun p => nI ((beX s 0).2 p)) it t (nP s) 0).1 ∧ Fr (lsC ++ scC) h g ∧ (∃ r1 r2, dyI r1 r2 g) ∧ lsI z (laR (nP s) (nI K) x (fun p => nI ((beX s 0).2 p)) it t (nP s) 0).2 g) ∧ (¬ laW s (nI t) = 0 → v = laW s (nI t) ∧ ∃ h1 : Hp, frC h h1 ∧ g = noC h1 (-(laW s (nI t))).toNatClampNeg)) := by
          intro p hp f g fg Lg kk
          have kg := (k.fr q2).c.fr fg (by decide)
          refine b_X10_lays_44 ⟨fun c4 => absurd c4 ?_, fun _ => ⟨vi, vp_in_nI (by omega) (by omega), ?_⟩⟩
          · rw [kg.M, k.i.o.eP]
            exact nI_ge (by omega) (by omega)
          · rw [nI_clamp (show t < 2 ^ 31 by omega), nI_clamp (show p < 2 ^ 31 by omega), fg.1 41 (by decide), q5 p (by omega)]
            refine ⟨_, ct_setC ht hK (x + nI p) (nI ((beX s 0).2 p)) g z f Lg eK, fun v5 h6 q => ?_⟩
            obtain ⟨p1, p2, p3⟩ := q
            rw [eK] at p1 p2 p3
            rw [p1]
            refine kk _ rfl h6 ?_ (fun y => (p2 y).2.2.1) (fun y => ?_)
            · cases y : inR (x + nI p) 0 (nI K - 1)
              · rw [p3 y]
                exact fg
              · exact fg.tr (p2 y).2.2.2
            · rw [p3 y]
              exact Lg
        have fin : ∀ g : Hp, Fr lsC h9 g → Fr (lsC ++ scC) h g ∧ ∃ r1 r2, dyI r1 r2 g := fun g fg => by
          obtain ⟨r1, r2, d⟩ := q2.2
          exact ⟨(q2.1.mono (fun k hk => List.mem_append_right _ hk)).tr (fg.mono (fun k hk => List.mem_append_left _ hk)), r1, r2, d.fr fg (by decide)⟩
        by_cases x0 : x < 0
        · cases eP : nP s with
          | zero =>
            refine b_X10_lays_44 ⟨fun _ => ⟨fun _ => ?_, fun y => absurd ew0 y⟩, fun y => absurd ?_ y⟩
            · rw [(k.fr q2).c.M, k.i.o.eP, eP]
              exact ⟨rfl, (fin h9 Fr.rf).1, (fin h9 Fr.rf).2, L9⟩
            · rw [(k.fr q2).c.M, k.i.o.eP, eP]
              exact nI_le (a := 0) (b := 0) (by decide) (by decide)
          | succ P =>
            have st0 := stp 0 (by omega) it h9 Fr.rf L9 (fun b hb g2 fg2 _ l2 => ?_)
            · rw [eP] at st0
              exact st0
            · rw [show x + nI 0 = x from Int32.add_zero x, inR_lt hK, decide_eq_false (fun y => y.1 x0)] at hb
              subst hb
              refine ⟨fun y => absurd rfl y, fun _ => ⟨fun _ => ?_, fun y => absurd ew0 y⟩⟩
              rw [eP, laR, if_neg (fun y => y.1 x0)]
              exact ⟨rfl, (fin g2 fg2).1, (fin g2 fg2).2, l2 rfl⟩
        · obtain ⟨j, hj, ej⟩ := nI_of x0
          subst ej
          have lp : ∀ n p : Nat, n + p = nP s → ∀ g : Hp, Fr lsC h9 g → lsI z (laI (fun p => nI ((beX s 0).2 p)) it (20 * t + (nI j).toNatClampNeg) p) g → laR (nP s) (nI K) (nI j) (fun p => nI ((beX s 0).2 p)) it t n p = laR (nP s) (nI K) (nI j) (fun p => nI ((beX s 0).2 p)) it t (nP s) 0 → GoI 6 mX10_lays 44 [(0, .ref 0), (1, .int (nI t)), (2, .int (nI j)), (3, .int (nI p))] [] g (fun v g => (laW s (nI t) = 0 → v = (laR (nP s) (nI K) (nI j) (fun p => nI ((beX s 0).2 p)) it t (nP s) 0).1 ∧ Fr (lsC ++ scC) h g ∧ (∃ r1 r2, dyI r1 r2 g) ∧ lsI z (laR (nP s) (nI K) (nI j) (fun p => nI ((beX s 0).2 p)) it t (nP s) 0).2 g) ∧ (¬ laW s (nI t) = 0 → v = laW s (nI t) ∧ ∃ h1 : Hp, frC h h1 ∧ g = noC h1 (-(laW s (nI t))).toNatClampNeg)) := by
            intro n
            induction n with
            | zero =>
              intro p hp g fg Lg er
              have kg := (k.fr q2).c.fr fg (by decide)
              rw [laR] at er
              refine b_X10_lays_44 ⟨fun _ => ⟨fun _ => ?_, fun y => absurd ew0 y⟩, fun y => absurd ?_ y⟩
              · rw [← er, kg.M, k.i.o.eP]
                exact ⟨rfl, (fin g fg).1, (fin g fg).2, Lg⟩
              · rw [kg.M, k.i.o.eP]
                exact nI_le (by omega) (by omega)
            | succ n ih =>
              intro p hp g fg Lg er
              rw [laR] at er
              refine stp p (by omega) _ g fg Lg (fun b hb g2 fg2 l1 l2 => ?_)
              rw [la_in hj (by omega) hK] at hb
              by_cases y : j + p < K
              · rw [decide_eq_true y] at hb
                subst hb
                rw [if_pos ((la_rf hj (by omega) hK).mpr y)] at er
                refine ⟨fun _ => ?_, fun w => absurd w (by decide)⟩
                rw [nI_1]
                refine ih (p + 1) (by omega) g2 fg2 ?_ er
                have l3 := l1 rfl
                rw [nI_add, nI_clamp (show j + p < 2 ^ 31 by omega)] at l3
                rw [laI, nI_clamp hj, Nat.add_assoc]
                rw [nI_clamp hj] at l3
                exact l3
              · rw [decide_eq_false y] at hb
                subst hb
                rw [if_neg (fun w => y ((la_rf hj (by omega) hK).mp w))] at er
                refine ⟨fun w => absurd rfl w, fun _ => ⟨fun _ => ?_, fun w => absurd ew0 w⟩⟩
                rw [← er]
                exact ⟨rfl, (fin g2 fg2).1, (fin g2 fg2).2, l2 rfl⟩
          exact lp (nP s) 0 rfl h9 Fr.rf L9 rfl
      · have eV : laV s z it t x = (-11, it) := if_pos (sz.2 c3)
        rw [eV]
        exact ⟨rfl, q2.1.mono (fun k hk => List.mem_append_right _ hk), q2.2, L9⟩
    · have z9 : v8 = -9 := Classical.byContradiction fun y => c2 (sg.1.mpr y)
      have ew3 : laW s (nI t) = -3 := by rw [ew, ← q1, if_pos z9]
      rw [ew3]
      exact ⟨fun y => absurd y (by decide), fun _ => ⟨q.1, h9, q2, q.2⟩⟩
  · have ew : laW s l = -1 := ite_f (nb_1.mp c)
    rw [ew]
    exact ⟨fun y => absurd y (by decide), fun _ => ⟨q.1, h, frC.rf k, q.2⟩⟩
