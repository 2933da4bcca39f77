/-! ===== the reference: what it answers about the best plan ===== -/
def nH (s : Nat → Int32) : Nat := (s 0).toNatClampNeg
def nP (s : Nat → Int32) : Nat := (s 3).toNatClampNeg
/-- how many hours and plants there may be -/
def OKs (s : Nat → Int32) : Prop := nP s ≤ 3 ∧ nH s ≤ 5 ∧ s 0 = nI (nH s) ∧ s 3 = nI (nP s)
theorem OKs.hP {s : Nat → Int32} (o : OKs s) : nP s ≤ 3 := o.1
theorem OKs.hH {s : Nat → Int32} (o : OKs s) : nH s ≤ 5 := o.2.1
theorem OKs.eH {s : Nat → Int32} (o : OKs s) : s 0 = nI (nH s) := o.2.2.1
theorem OKs.eP {s : Nat → Int32} (o : OKs s) : s 3 = nI (nP s) := o.2.2.2
theorem OKs.of {s s' : Nat → Int32} (o : OKs s) (h0 : s' 0 = s 0) (h3 : s' 3 = s 3) : OKs s' ∧ nH s' = nH s ∧ nP s' = nP s := by
  have a : nH s' = nH s := by unfold nH; rw [h0]
  have b : nP s' = nP s := by unfold nP; rw [h3]
  exact ⟨⟨by rw [b]; exact o.hP, by rw [a]; exact o.hH, by rw [a, h0]; exact o.eH, by rw [b, h3]; exact o.eP⟩, a, b⟩
def beX (s : Nat → Int32) (ab : Nat) : Bst := beS s ab (nH s) (nP s)
/-- what bests answers -/
def beV (s : Nat → Int32) (ab : Nat) : Int32 := beA (beX s ab)
/-- the best rows stand in the heap -/
def roI (s : Nat → Int32) (ab : Nat) (h : Hp) : Prop := (beX s ab).1 ≠ FAR → ∀ q, q < nP s → h.1 123 q = nI ((beX s ab).2 q)
theorem ct_bestsX {ab : Nat} (h : Hp) (s : Nat → Int32) (hs : h.1 114 = s) (o : OKs s) (hab : h.1 113 8 = nI ab) : CtI 7 mX11_bests [.ref 113] h (fun v h' => v = beV s ab ∧ triI scr h h' ∧ roI s ab h') :=
  ct_bests o.hP o.hH h s hs o.eP o.eH hab
theorem beV_far {s : Nat → Int32} {ab : Nat} (h : ¬ beV s ab = -9) : (beX s ab).1 ≠ FAR := fun c => h (by unfold beV beA; exact if_pos c)
theorem ct_best {ab : Nat} (h : Hp) (s : Nat → Int32) (hs : h.1 114 = s) (o : OKs s) (hab : h.1 113 8 = nI ab) : CtI 8 mX11_best [.ref 113] h (fun v h' => v = beV s ab ∧ triI scr h h') :=
  e_X11_best ⟨_, ct_bestsX h s hs o hab, fun _ _ q => ⟨q.1, q.2.1⟩⟩
/-- either it is taken, or refused with nothing else changed -/
def okor (c : Bool) (n : Nat) (h : Hp) (A : Int32 → Hp → Prop) : Int32 → Hp → Prop := fun v h' => (c = true → A v h') ∧ (c = false → v = -nI n ∧ h' = noS h n)
theorem okor_t {c : Bool} {n : Nat} {h : Hp} {A : Int32 → Hp → Prop} {v : Int32} {h' : Hp} (hc : c = true) (k : A v h') : okor c n h A v h' := ⟨fun _ => k, fun e => by rw [hc] at e; cases e⟩
theorem okor_f {c : Bool} {n : Nat} {h : Hp} {A : Int32 → Hp → Prop} (hc : c = false) : okor c n h A (-nI n) (noS h n) := ⟨fun e => absurd (hc.symm.trans e) (by decide), fun _ => ⟨rfl, rfl⟩⟩
theorem inR_nI : ∀ n, n ≤ 5 → ∀ x : Int32, inR x 0 (nI n - 1) = true → ∃ t, x = nI t ∧ t < n := by
  intro n hn x hx
  unfold inR at hx
  have h := of_decide_eq_true hx
  have h0 : 0 ≤ x.toInt := by have := Int32.le_iff_toInt_le.mp h.1; simpa using this
  have e : (nI n - 1).toInt = (n : Int) - 1 := by
    match n, hn with
    | 0, _ => decide
    | 1, _ => decide
    | 2, _ => decide
    | 3, _ => decide
    | 4, _ => decide
    | 5, _ => decide
  have h1 : x.toInt ≤ (n : Int) - 1 := by have := Int32.le_iff_toInt_le.mp h.2; rw [e] at this; exact this
  refine ⟨x.toInt.toNat, ?_, by omega⟩
  apply Int32.toInt_inj.mp
  rw [nI_toInt (by omega)]
  omega
theorem isH_nI {s : Nat → Int32} (o : OKs s) {x : Int32} (c : inR x 0 (s 0 - 1) = true) : ∃ t, x = nI t ∧ t < nH s := inR_nI (nH s) o.hH x (by rw [← o.eH]; exact c)
theorem isP_nI {s : Nat → Int32} (o : OKs s) {x : Int32} (c : inR x 0 (s 3 - 1) = true) : ∃ t, x = nI t ∧ t < nP s := inR_nI (nP s) (Nat.le_trans o.hP (by decide)) x (by rw [← o.eP]; exact c)
theorem bI_t {b : Bool} : ¬ bI b = 0 → b = true := by cases b <;> decide
/-- the row of a plant in the best plan -/
def roV (s : Nat → Int32) (p : Nat) : Int32 := if beV s 0 = -9 then -9 else nI ((beX s 0).2 p)
theorem ct_row (x : Int32) (h : Hp) (s : Nat → Int32) (hs : h.1 114 = s) (o : OKs s) (hab : h.1 113 8 = 0) : CtI 8 mX11_row [.ref 113, .int x] h (okor (inR x 0 (s 3 - 1)) 1 h (fun v h' => v = roV s x.toNatClampNeg ∧ triI scr h h')) := by
  refine e_X11_row (pc (ct_isPlant x h) ⟨fun c => ⟨_, ct_bestsX (ab := 0) h s hs o hab, fun v h9 q => ?_⟩, fun c => ic (ct_no (n := 1) (by decide) h) ?_⟩)
  · rw [hs] at c
    obtain ⟨t, e, ht⟩ := isP_nI o (bI_t c)
    have hP := o.hP
    obtain ⟨q1, q2, q3⟩ := q
    refine ⟨fun c2 => ⟨by rw [e]; exact vp_in_nI (by omega) (by omega), okor_t (bI_t c) ⟨?_, q2⟩⟩, fun c2 => okor_t (bI_t c) ⟨?_, q2⟩⟩
    · rw [q1] at c2
      unfold roV
      rw [if_neg c2, e, nI_clamp (show t < 2 ^ 31 by omega)]
      exact q3 (beV_far c2) t ht
    · rw [q1] at c2
      unfold roV
      rw [if_pos c2]
  · rw [hs] at c
    exact okor_f (bI_0.mp c)
/-- what an hour costs in a plan -/
def hbF (s : Nat → Int32) (P : Nat) (r : Nat → Nat) (t : Nat) : Int32 := sumI (fun p => ssT (pfS s p) (hasB (nI (r p))) t) P + hcR s P r t
set_option maxHeartbeats 4000000 in
theorem ct_hourBest {t P : Nat} (hP : P ≤ 3) (ht : t < 5) (h : Hp) (s : Nat → Int32) (hs : h.1 114 = s) (hs3 : s 3 = nI P) (r : Nat → Nat) (hr : ∀ q, q < P → h.1 123 q = nI (r q)) : CtI 5 mX11_hourBest [.ref 113, .int (nI t)] h (fun v h' => v = hbF s P r t ∧ Fr [118] h h') := by
  have lp : ∀ n p : Nat, n + p = P → GoI 5 mX11_hourBest 10 [(0, .ref 113), (1, .int (nI t)), (2, .int (nI (bitsN (onR r t) p))), (3, .int (nI (bitsN (frR s r t) p))), (4, .int (sumI (fun p => ssT (pfS s p) (hasB (nI (r p))) t) p)), (5, .int (nI p))] [] h (fun v h' => v = hbF s P r t ∧ Fr [118] h h') := by
    intro n
    induction n with
    | zero =>
      intro p hp
      have hp : p = P := by omega
      subst hp
      refine b_X11_hourBest_10 ⟨fun _ => ⟨_, ct_costBy' hP ht _ _ h s hs hs3, fun v h4 q => ⟨?_, q.2⟩⟩, fun c => absurd ?_ c⟩
      · rw [q.1]
        rfl
      · rw [hs, hs3]
        exact nI_le (by omega) (by omega)
    | succ n ih =>
      intro p hp
      have ih2 := ih (p + 1) (by omega)
      have hrp := hr p (by omega)
      have s122 : ∀ z : Int32, z = ssT (pfS s p) (hasB (nI (r p))) t → GoI 5 mX11_hourBest 122 [(0, .ref 113), (1, .int (nI t)), (2, .int (nI (bitsN (onR r t) (p + 1)))), (3, .int (nI (bitsN (frR s r t) (p + 1)))), (5, .int (nI p))] [.int z, .int (sumI (fun p => ssT (pfS s p) (hasB (nI (r p))) t) p)] h (fun v h' => v = hbF s P r t ∧ Fr [118] h h') := by
        intro z hz
        refine b_X11_hourBest_122 (b_X11_hourBest_125 ?_)
        rw [hz, nI_1]
        exact ih2
      have s100 : onR r t p = true → ∀ z : Int32, (z = if frR s r t p then (1 : Int32) <<< (nI p &&& 31) else 0) → GoI 5 mX11_hourBest 100 [(0, .ref 113), (1, .int (nI t)), (2, .int (nI (bitsN (onR r t) (p + 1)))), (4, .int (sumI (fun p => ssT (pfS s p) (hasB (nI (r p))) t) p)), (5, .int (nI p)), (6, .int (agS (pfS s p 9) (hasB (nI (r p))) t))] [.int z, .int (nI (bitsN (frR s r t) p))] h (fun v h' => v = hbF s P r t ∧ Fr [118] h h') := by
        intro on z hz
        unfold onR at on
        refine b_X11_hourBest_100 ⟨fun c => ?_, fun c => pc (ct_startsOf (by omega) _ h) ?_⟩
        · rw [bitsN_or2 (by omega) z hz]
          refine s122 0 ?_
          unfold ssT frS
          rw [on, decide_eq_false (Int32.not_lt.mpr c)]
          rfl
        · rw [bitsN_or2 (by omega) z hz]
          refine s122 _ ?_
          unfold ssT frS
          rw [on, decide_eq_true (i32_lt0.mp c), hs]
          rfl
      have inn : ∀ m j : Nat, m + j = t → GoI 5 mX11_hourBest 34 [(0, .ref 113), (1, .int (nI t)), (2, .int (nI (bitsN (onR r t) p))), (3, .int (nI (bitsN (frR s r t) p))), (4, .int (sumI (fun p => ssT (pfS s p) (hasB (nI (r p))) t) p)), (5, .int (nI p)), (6, .int (agS (pfS s p 9) (hasB (nI (r p))) j)), (7, .int (nI j))] [] h (fun v h' => v = hbF s P r t ∧ Fr [118] h h') := by
        intro m
        induction m with
        | zero =>
          intro j hj
          have hj : j = t := by omega
          subst hj
          refine b_X11_hourBest_34 ⟨fun _ => ⟨vp_in_nI (by omega) (by omega), ?_⟩, fun c => absurd (nI_le (by omega) (by omega)) c⟩
          rw [nI_clamp (show p < 2 ^ 31 by omega), hrp]
          refine pc (ct_has _ j h) ⟨fun c => b_X11_hourBest_125 ?_, fun c => ?_⟩
          · rw [bI_0] at c
            have e1 : onR r j p = false := c
            have e2 : frR s r j p = false := by unfold frR frS; rw [c]; rfl
            have e3 : ssT (pfS s p) (hasB (nI (r p))) j = 0 := by unfold ssT frS; rw [c]; rfl
            have f1 : bitsN (onR r j) (p + 1) = bitsN (onR r j) p := by
              have := bitsN_or2 (g := onR r j) (t := p) (by omega) 0 (by rw [e1]; rfl)
              rw [bitsN, e1]
              simp
            have f2 : bitsN (frR s r j) (p + 1) = bitsN (frR s r j) p := by
              rw [bitsN, e2]
              simp
            have f3 : sumI (fun p => ssT (pfS s p) (hasB (nI (r p))) j) (p + 1) = sumI (fun p => ssT (pfS s p) (hasB (nI (r p))) j) p := by
              rw [sumI, e3]
              exact i32_add0 _
            rw [nI_1]
            rw [f1, f2, f3] at ih2
            exact ih2
          · have on := bI_t c
            have o1 : nI (bitsN (onR r j) p) ||| (1 <<< (nI p &&& 31)) = nI (bitsN (onR r j) (p + 1)) := bitsN_or2 (by omega) _ (by rw [onR, if_pos on])
            rw [o1]
            refine ⟨fun c2 => s100 on 0 ?_, fun c2 => s100 on _ ?_⟩
            · have : frR s r j p = false := by unfold frR frS; rw [decide_eq_false (Int32.not_lt.mpr c2), Bool.and_false]
              rw [this]
              rfl
            · have : frR s r j p = true := by unfold frR frS; rw [on, decide_eq_true (i32_lt0.mp c2)]; rfl
              rw [if_pos this]
        | succ m ihm =>
          intro j hj
          refine b_X11_hourBest_34 ⟨fun c => absurd c (nI_ge (by omega) (by omega)), fun _ => ⟨vp_in_nI (by omega) (by omega), ?_⟩⟩
          rw [nI_clamp (show p < 2 ^ 31 by omega), hrp, nI_1]
          exact pc (ct_has _ j h) (pc (ct_goesOn _ _ h) (ihm (j + 1) (by omega)))
      refine b_X11_hourBest_10 ⟨fun c => absurd c ?_, fun _ => pc (ct_of1 (w := 9) (by omega) (by decide) h) ?_⟩
      · rw [hs, hs3]
        exact nI_ge (by omega) (by omega)
      · rw [hs]
        exact inn t 0 rfl
  exact e_X11_hourBest (lp P 0 rfl)
/-- what an hour costs by the best plan -/
def csV (s : Nat → Int32) (t : Nat) : Int32 := if beV s 0 = -9 then -9 else hbF s (nP s) (beX s 0).2 t
theorem triI.fr {X : List Nat} {h h1 h2 : Hp} (a : triI X h h1) (b : Fr [118] h1 h2) (hx : 118 ∈ X) : triI X h h2 := a.tr ⟨b.mono (fun k hk => by simp at hk; rw [hk]; exact List.mem_cons_of_mem _ hx), fun i _ => by rw [b.1 113 (by decide)]⟩
theorem ct_cost (x : Int32) (h : Hp) (s : Nat → Int32) (hs : h.1 114 = s) (o : OKs s) (hab : h.1 113 8 = 0) : CtI 8 mX11_cost [.ref 113, .int x] h (okor (inR x 0 (s 0 - 1)) 1 h (fun v h' => v = csV s x.toNatClampNeg ∧ triI scr h h')) := by
  refine e_X11_cost (pc (ct_isHour x h) ⟨fun c => ⟨_, ct_bestsX (ab := 0) h s hs o hab, fun v h9 q => ?_⟩, fun c => ic (ct_no (n := 1) (by decide) h) ?_⟩)
  · rw [hs] at c
    obtain ⟨t, e, ht⟩ := isH_nI o (bI_t c)
    have hH := o.hH
    obtain ⟨q1, q2, q3⟩ := q
    rw [q1]
    refine ⟨fun c2 => ?_, fun c2 => okor_t (bI_t c) ⟨?_, q2⟩⟩
    · subst e
      refine ⟨_, ct_hourBest o.hP (by omega) h9 s ((q2.1.1 114 (by decide)).trans hs) o.eP _ (q3 (beV_far c2)), fun v h14 q => okor_t (bI_t c) ⟨?_, q2.fr q.2 (by decide)⟩⟩
      unfold csV
      rw [if_neg c2, nI_clamp (show t < 2 ^ 31 by omega)]
      exact q.1
    · unfold csV
      rw [if_pos c2]
  · rw [hs] at c
    exact okor_f (bI_0.mp c)

theorem ui_up (h : Hp) (k j : Nat) (v : Int32) : (ui h k j v).1 k = upd (h.1 k) j v := by
  funext i
  rw [ui_get]
  unfold upd
  by_cases e : i = j <;> simp [e]
theorem upd_upd (f : Nat → Int32) (k : Nat) (x y : Int32) : upd (upd f k x) k y = upd f k y := by
  funext i
  unfold upd
  by_cases e : i = k <;> simp [e]
theorem upd_id (f : Nat → Int32) (k : Nat) (x : Int32) (hx : x = f k) : upd f k x = f := by
  funext i
  unfold upd
  by_cases e : i = k
  · simp [e, hx]
  · simp [e]
theorem upd_ne (f : Nat → Int32) {k i : Nat} (x : Int32) (h : i ≠ k) : upd f k x i = f i := by
  unfold upd
  simp [h]
theorem i32_addsub (a b : Int32) : a + b - b = a := Int32.add_sub_cancel a b
theorem OKs.upd {s : Nat → Int32} (o : OKs s) {k : Nat} (hk : 4 ≤ k) (x : Int32) : OKs (upd s k x) ∧ nH (upd s k x) = nH s ∧ nP (upd s k x) = nP s := o.of (upd_ne s x (by omega)) (upd_ne s x (by omega))
/-- back again: cell 114 stands as it stood -/
theorem triI.back {X : List Nat} {h g : Hp} (a : triI (114 :: X) h g) (e : g.1 114 = h.1 114) : triI X h g := by
  refine ⟨⟨fun k hk => ?_, a.1.2⟩, a.2⟩
  by_cases z : k = 114
  · rw [z]
    exact e
  · refine a.1.1 k (fun q => ?_)
    rcases List.mem_cons.mp q with q | q
    · exact hk (by rw [q]; exact List.mem_cons_self ..)
    · rcases List.mem_cons.mp q with q | q
      · exact z q
      · exact hk (List.mem_cons_of_mem _ q)
theorem triI.mono {X Y : List Nat} {h g : Hp} (a : triI X h g) (hxy : ∀ k, k ∈ X → k ∈ Y) : triI Y h g := by
  refine ⟨a.1.mono (fun k hk => ?_), a.2⟩
  rcases List.mem_cons.mp hk with q | q
  · rw [q]
    exact List.mem_cons_self ..
  · exact List.mem_cons_of_mem _ (hxy k q)
/-- one more of it: what it costs more -/
def mgV (s : Nat → Int32) (t : Nat) : Int32 := if beV s 0 = -9 then -99999 else if beV (upd s (4 + t) (s (4 + t) + 1)) 0 = -9 then -99999 else beV (upd s (4 + t) (s (4 + t) + 1)) 0 - beV s 0
theorem ct_margin (x : Int32) (h : Hp) (s : Nat → Int32) (hs : h.1 114 = s) (o : OKs s) (hab : h.1 113 8 = 0) : CtI 8 mX11_margin [.ref 113, .int x] h (okor (inR x 0 (s 0 - 1)) 1 h (fun v h' => v = mgV s x.toNatClampNeg ∧ triI scr h h')) := by
  refine e_X11_margin (pc (ct_isHour x h) ⟨fun c => ⟨_, ct_bestsX (ab := 0) h s hs o hab, fun v h9 q => ?_⟩, fun c => ic (ct_no (n := 1) (by decide) h) ?_⟩)
  · rw [hs] at c
    obtain ⟨t, e, ht⟩ := isH_nI o (bI_t c)
    have hH := o.hH
    obtain ⟨q1, q2, -⟩ := q
    have e9 : h9.1 114 = s := (q2.1.1 114 (by decide)).trans hs
    have ix : (4 + x).toNatClampNeg = 4 + t := by rw [e, ix4, nI_clamp (show 4 + t < 2 ^ 31 by omega)]
    have iv : vp_in (4 + x) 49 := by rw [e, ix4]; exact vp_in_nI (by omega) (by omega)
    rw [ix]
    refine ⟨iv, iv, fun g13 e13 => ?_⟩
    have s13 : g13.1 114 = upd s (4 + t) (s (4 + t) + 1) := by rw [e13, ui_up, e9]
    obtain ⟨o2, -, -⟩ := o.upd (k := 4 + t) (by omega) (s (4 + t) + 1)
    have t13 : triI (114 :: scr) h g13 := by
      rw [e13]
      exact (q2.mono (by decide)).tr (triI.ui (by decide) (by decide))
    refine ⟨_, ct_bestsX (ab := 0) g13 _ s13 o2 ((t13.2 8 (by decide)).trans hab), fun v16 h17 q => ⟨iv, iv, fun g21 e21 => ?_⟩⟩
    obtain ⟨r1, r2, -⟩ := q
    have e17 : h17.1 114 = upd s (4 + t) (s (4 + t) + 1) := (r2.1.1 114 (by decide)).trans s13
    have e21s : g21.1 114 = s := by
      rw [e21, ui_up, e17, upd_upd, upd_at]
      exact upd_id _ _ _ (i32_addsub _ _)
    have t21 : triI scr h g21 := by
      refine triI.back ?_ (e21s.trans hs.symm)
      rw [e21]
      exact (t13.tr (r2.mono (by decide))).tr (triI.ui (by decide) (by decide))
    have ex : x.toNatClampNeg = t := by rw [e, nI_clamp (show t < 2 ^ 31 by omega)]
    rw [q1, r1, ex]
    refine ⟨fun c1 => okor_t (bI_t c) ⟨?_, t21⟩, fun c1 => ⟨fun c2 => okor_t (bI_t c) ⟨?_, t21⟩, fun c2 => okor_t (bI_t c) ⟨?_, t21⟩⟩⟩
    · unfold mgV; rw [if_pos c1]
    · unfold mgV; rw [if_neg c1, if_neg c2]
    · unfold mgV; rw [if_neg c1, if_pos c2]
  · rw [hs] at c
    exact okor_f (bI_0.mp c)
/-- nothing but scratch changed, field 8 aside -/
def tr8 (X : List Nat) (h0 h : Hp) : Prop := Fr (113 :: X) h0 h ∧ ∀ i, i ≠ 15 → i ≠ 8 → h.1 113 i = h0.1 113 i
theorem triI.t8 {X : List Nat} {h g : Hp} (a : triI X h g) : tr8 X h g := ⟨a.1, fun i hi _ => a.2 i hi⟩
theorem tr8.tr {X : List Nat} {h h1 h2 : Hp} (a : tr8 X h h1) (b : tr8 X h1 h2) : tr8 X h h2 := ⟨a.1.tr b.1, fun i hi hj => (b.2 i hi hj).trans (a.2 i hi hj)⟩
theorem tr8.u8 {X : List Nat} {h : Hp} {v : Int32} : tr8 X h (ui h 113 8 v) := ⟨Fr.ui (List.mem_cons_self ..), fun i _ hj => ui_nj hj⟩
theorem tr8.back {X : List Nat} {h g : Hp} (a : tr8 X h g) (e : g.1 113 8 = h.1 113 8) : triI X h g := ⟨a.1, fun i hi => by
  by_cases z : i = 8
  · rw [z]; exact e
  · exact a.2 i hi z⟩
/-- without a plant: what it costs more -/
def wrV (s : Nat → Int32) (p : Nat) : Int32 := if beV s 0 = -9 then -99999 else if beV s (2 ^ p) = -9 then -99999 else beV s (2 ^ p) - beV s 0
theorem ct_worth (x : Int32) (h : Hp) (s : Nat → Int32) (hs : h.1 114 = s) (o : OKs s) (hab : h.1 113 8 = 0) : CtI 8 mX11_worth [.ref 113, .int x] h (okor (inR x 0 (s 3 - 1)) 1 h (fun v h' => v = wrV s x.toNatClampNeg ∧ triI scr h h')) := by
  refine e_X11_worth (pc (ct_isPlant x h) ⟨fun c => ⟨_, ct_bestsX (ab := 0) h s hs o hab, fun v h9 q g11 e11 => ?_⟩, fun c => ic (ct_no (n := 1) (by decide) h) ?_⟩)
  · rw [hs] at c
    obtain ⟨t, e, ht⟩ := isP_nI o (bI_t c)
    have hP := o.hP
    obtain ⟨q1, q2, -⟩ := q
    have t11 : tr8 scr h g11 := by rw [e11]; exact q2.t8.tr tr8.u8
    have a11 : g11.1 113 8 = nI (2 ^ t) := by rw [e11, ui_aa, e, shl1 t (by omega)]
    refine ⟨_, ct_bestsX (ab := 2 ^ t) g11 s ((t11.1.1 114 (by decide)).trans hs) o a11, fun v14 h15 q g17 e17 => ?_⟩
    obtain ⟨r1, r2, -⟩ := q
    have t17 : triI scr h g17 := by
      refine tr8.back ?_ ?_
      · rw [e17]; exact (t11.tr r2.t8).tr tr8.u8
      · rw [e17, ui_aa, hab]
    have ex : x.toNatClampNeg = t := by rw [e, nI_clamp (show t < 2 ^ 31 by omega)]
    rw [q1, r1, ex]
    refine ⟨fun c1 => okor_t (bI_t c) ⟨?_, t17⟩, fun c1 => ⟨fun c2 => okor_t (bI_t c) ⟨?_, t17⟩, fun c2 => okor_t (bI_t c) ⟨?_, t17⟩⟩⟩
    · unfold wrV; rw [if_pos c1]
    · unfold wrV; rw [if_neg c1, if_neg c2]
    · unfold wrV; rw [if_neg c1, if_pos c2]
  · rw [hs] at c
    exact okor_f (bI_0.mp c)
/-- reserves x more in the hours from a to b -/
def moR (s : Nat → Int32) (x : Int32) (a b : Nat) : Nat → Int32 := fun i => if 9 + a ≤ i ∧ i < 9 + b then s i + x else s i
theorem moR_up (s : Nat → Int32) (x : Int32) (b : Nat) : upd (moR s x 0 b) (9 + b) (moR s x 0 b (9 + b) + x) = moR s x 0 (b + 1) := by
  funext i
  unfold upd moR
  by_cases e : i = 9 + b
  · subst e
    simp
  · by_cases e2 : 9 + 0 ≤ i ∧ i < 9 + b
    · rw [if_pos e2, if_pos (show 9 + 0 ≤ i ∧ i < 9 + (b + 1) by omega)]
      simp [e]
    · rw [if_neg e2, if_neg (show ¬ (9 + 0 ≤ i ∧ i < 9 + (b + 1)) by omega)]
      simp [e]
theorem moR_dn (s : Nat → Int32) (x : Int32) (a b : Nat) (hab : a < b) : upd (moR s x a b) (9 + a) (moR s x a b (9 + a) - x) = moR s x (a + 1) b := by
  funext i
  unfold upd moR
  by_cases e : i = 9 + a
  · subst e
    rw [if_pos (show 9 + a ≤ 9 + a ∧ 9 + a < 9 + b by omega), if_neg (show ¬ (9 + (a + 1) ≤ 9 + a ∧ 9 + a < 9 + b) by omega), if_pos rfl]
    exact i32_addsub _ _
  · by_cases e2 : 9 + a ≤ i ∧ i < 9 + b
    · rw [if_pos e2, if_pos (show 9 + (a + 1) ≤ i ∧ i < 9 + b by omega)]
      simp [e]
    · rw [if_neg e2, if_neg (show ¬ (9 + (a + 1) ≤ i ∧ i < 9 + b) by omega)]
      simp [e]
theorem moR_0 (s : Nat → Int32) (x : Int32) (a : Nat) : moR s x a a = s := by
  funext i
  unfold moR
  rw [if_neg (by omega)]
/-- whether there is a plan with x more in hand -/
def ibB (s : Nat → Int32) (x : Int32) : Bool := !decide (beV (moR s x 0 (nH s)) 0 = -9)
theorem ct_isBestBy (x : Int32) (h : Hp) (s : Nat → Int32) (hs : h.1 114 = s) (o : OKs s) (hab : h.1 113 8 = 0) : CtI 8 mX11_isBestBy [.ref 113, .int x] h (fun v h' => v = bI (ibB s x) ∧ triI scr h h') := by
  have hH := o.hH
  have m0 : ∀ a b, moR s x a b 0 = s 0 := fun a b => by unfold moR; rw [if_neg (by omega)]
  have m3 : ∀ a b, moR s x a b 3 = s 3 := fun a b => by unfold moR; rw [if_neg (by omega)]
  have dn : ∀ n j : Nat, n + j = nH s → ∀ g : Hp, triI (114 :: scr) h g → g.1 114 = moR s x j (nH s) → GoI 8 mX11_isBestBy 48 [(0, .ref 113), (1, .int x), (2, .int (bI (ibB s x))), (3, .int (nI j))] [] g (fun v h' => v = bI (ibB s x) ∧ triI scr h h') := by
    intro n
    induction n with
    | zero =>
      intro j hj g t e
      have hj : j = nH s := by omega
      subst hj
      refine b_X11_isBestBy_48 ⟨fun _ => ⟨bI_and _, rfl, t.back (by rw [e, moR_0, hs])⟩, fun c => absurd ?_ c⟩
      rw [e, m0, o.eH]
      exact nI_le (by omega) (by omega)
    | succ n ih =>
      intro j hj g t e
      refine b_X11_isBestBy_48 ⟨fun c => absurd c ?_, fun _ => ?_⟩
      · rw [e, m0, o.eH]
        exact nI_ge (by omega) (by omega)
      · rw [ix9, nI_clamp (show 9 + j < 2 ^ 31 by omega), nI_1]
        refine ⟨vp_in_nI (by omega) (by omega), vp_in_nI (by omega) (by omega), fun g4 e4 => ih (j + 1) (by omega) g4 ?_ ?_⟩
        · rw [e4]
          exact t.tr (triI.ui (by decide) (by decide))
        · rw [e4, ui_up, e]
          exact moR_dn s x j (nH s) (by omega)
  have up : ∀ n j : Nat, n + j = nH s → ∀ g : Hp, triI (114 :: scr) h g → g.1 114 = moR s x 0 j → GoI 8 mX11_isBestBy 2 [(0, .ref 113), (1, .int x), (2, .int (nI j))] [] g (fun v h' => v = bI (ibB s x) ∧ triI scr h h') := by
    intro n
    induction n with
    | zero =>
      intro j hj g t e
      have hj : j = nH s := by omega
      subst hj
      obtain ⟨o2, -, -⟩ := o.of (m0 0 (nH s)) (m3 0 (nH s))
      refine b_X11_isBestBy_2 ⟨fun _ => ⟨_, ct_bestsX (ab := 0) g _ e o2 ((t.2 8 (by decide)).trans hab), fun v h4 q => ?_⟩, fun c => absurd ?_ c⟩
      · have ev : (if v = -9 then (0 : Int32) else 1) = bI (ibB s x) := by
          rw [q.1, ite_bI']
          unfold ibB
          rw [decide_not]
        rw [ev]
        exact dn (nH s) 0 rfl h4 (t.tr (q.2.1.mono (by decide))) ((q.2.1.1.1 114 (by decide)).trans e)
      · rw [e, m0, o.eH]
        exact nI_le (by omega) (by omega)
    | succ n ih =>
      intro j hj g t e
      refine b_X11_isBestBy_2 ⟨fun c => absurd c ?_, fun _ => ?_⟩
      · rw [e, m0, o.eH]
        exact nI_ge (by omega) (by omega)
      · rw [ix9, nI_clamp (show 9 + j < 2 ^ 31 by omega), nI_1]
        refine ⟨vp_in_nI (by omega) (by omega), vp_in_nI (by omega) (by omega), fun g8 e8 => ih (j + 1) (by omega) g8 ?_ ?_⟩
        · rw [e8]
          exact t.tr (triI.ui (by decide) (by decide))
        · rw [e8, ui_up, e]
          exact moR_up s x j
  exact e_X11_isBestBy (up (nH s) 0 rfl h triI.rf (by rw [moR_0]; exact hs))
/-- halving: the greatest one can keep -/
def haR (ok : Nat → Bool) : Nat → Nat → Nat → Nat
  | 0, lo, _ => lo
  | n + 1, lo, hi => if hi ≤ lo then lo else if ok ((lo + hi + 1) / 2) then haR ok n ((lo + hi + 1) / 2) hi else haR ok n lo ((lo + hi + 1) / 2 - 1)
def haV (s : Nat → Int32) : Int32 := if ibB s 0 then nI (haR (fun x => ibB s (nI x)) 61 0 60) else -9
theorem half : ∀ k, k < 128 → nI k / 2 = nI (k / 2) := by decide +kernel
theorem dec1 : ∀ k, k < 64 → nI (k + 1) - 1 = nI k := by decide +kernel
theorem ct_hand (h : Hp) (s : Nat → Int32) (hs : h.1 114 = s) (o : OKs s) (hab : h.1 113 8 = 0) : CtI 9 mX11_hand [.ref 113] h (fun v h' => v = haV s ∧ triI scr h h') := by
  have lp : ∀ n lo hi : Nat, hi ≤ 60 → lo ≤ 60 → hi - lo < n → ∀ g : Hp, triI scr h g → GoI 9 mX11_hand 16 [(0, .ref 113), (1, .int (nI lo)), (2, .int (nI hi))] [] g (fun v h' => v = nI (haR (fun x => ibB s (nI x)) n lo hi) ∧ triI scr h h') := by
    intro n
    induction n with
    | zero => intro lo hi _ _ c; omega
    | succ n ih =>
      intro lo hi b1 b2 b3 g t
      refine b_X11_hand_16 ⟨fun c => ⟨?_, t⟩, fun c => ?_⟩
      · rw [haR, if_pos ((nI_leI (by omega) (by omega)).mp c)]
      · have lt : ¬ hi ≤ lo := fun z => c ((nI_leI (by omega) (by omega)).mpr z)
        have em : ((nI lo + nI hi) + 1) / 2 = nI ((lo + hi + 1) / 2) := by rw [nI_add, nI_1, half _ (by omega)]
        rw [em]
        refine ⟨_, ct_isBestBy _ g s ((t.1.1 114 (by decide)).trans hs) o ((t.2 8 (by decide)).trans hab), fun v h4 q => ?_⟩
        rw [q.1]
        have e1 : nI ((lo + hi + 1) / 2) - 1 = nI ((lo + hi + 1) / 2 - 1) := by
          have := dec1 ((lo + hi + 1) / 2 - 1) (by omega)
          rw [show (lo + hi + 1) / 2 - 1 + 1 = (lo + hi + 1) / 2 by omega] at this
          exact this
        rw [haR, if_neg lt]
        refine ⟨fun c2 => b_X11_hand_46 ⟨fun _ => b_X11_hand_59 ?_, fun c3 => absurd c2 c3⟩, fun c2 => b_X11_hand_46 ⟨fun c3 => absurd c3 c2, fun _ => b_X11_hand_59 ?_⟩⟩
        · rw [e1, if_neg (by rw [bI_0.mp c2]; decide)]
          exact ih lo _ (by omega) b2 (by omega) h4 (t.tr q.2)
        · rw [if_pos (bI_t c2)]
          exact ih _ hi b1 (by omega) (by omega) h4 (t.tr q.2)
  refine e_X11_hand ⟨_, ct_isBestBy 0 h s hs o hab, fun v h4 q => ?_⟩
  rw [q.1]
  unfold haV
  refine ⟨fun c => ?_, fun c => ⟨?_, q.2⟩⟩
  · rw [if_pos (bI_t c)]
    exact lp 61 0 60 (by omega) (by omega) (by omega) h4 q.2
  · rw [if_neg (by rw [bI_0.mp c]; decide)]
