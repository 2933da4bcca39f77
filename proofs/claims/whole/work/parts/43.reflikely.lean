/-! ===== the reference: how likely there is a best plan ===== -/
theorem lN_div {a b : Nat} (ha : a < 2 ^ 31) (h0 : 0 < b) (hb : b < 2 ^ 31) : lN a / lN b = lN (a / b) := by
  have hq : a / b < 2 ^ 31 := Nat.lt_of_le_of_lt (Nat.div_le_self a b) ha
  apply Int64.toInt_inj.mp
  rw [lg_ldiv_nonneg (by rw [lN_toInt ha]; omega) (by rw [lN_toInt hb]; omega), lN_toInt ha, lN_toInt hb, lN_toInt hq]
  exact (Int.natCast_ediv a b).symm
theorem lN_rem {a b : Nat} (ha : a < 2 ^ 31) (h0 : 0 < b) (hb : b < 2 ^ 31) : lN a - lN a / lN b * lN b = lN (a % b) := by
  have e := Nat.div_add_mod a b
  rw [Nat.mul_comm] at e
  rw [lN_div ha h0 hb, lN_mul, lN_sub (by omega)]
  congr 1
  omega
theorem lN_n0 {a : Nat} (h0 : 0 < a) (ha : a < 2 ^ 31) : ¬ lN a = 0 := fun e => by
  have := (lN_eq ha (show 0 < 2 ^ 31 by omega)).mp e
  omega
theorem ct_lowest {A B : Nat} (hA : A < 2 ^ 31) (h0 : 0 < B) (hB : B < 2 ^ 31) (part : Int32) (h : Hp) : CtL 0 mX11_lowest [.long (lN A), .long (lN B), .int part] h (fun v h' => v = lN ((if part = 0 then A else B) / Nat.gcd B A) ∧ h' = h) := by
  have lp : ∀ n x y : Nat, y < n → x < 2 ^ 31 → y < 2 ^ 31 → Nat.gcd y x = Nat.gcd B A → GoL 0 mX11_lowest 6 [(0, .long (lN A)), (2, .long (lN B)), (4, .int part), (5, .long (lN x)), (7, .long (lN y))] [] h (fun v h' => v = lN ((if part = 0 then A else B) / Nat.gcd B A) ∧ h' = h) := by
    intro n
    induction n with
    | zero => intro x y c; omega
    | succ n ih =>
      intro x y c hx hy hg
      refine b_X11_lowest_6 ?_
      rw [lg_cmp_eq]
      refine ⟨fun c2 => ?_, fun c2 => ?_⟩
      · have y0 : y = 0 := (lN_eq hy (show 0 < 2 ^ 31 by omega)).mp c2
        subst y0
        have xg : x = Nat.gcd B A := by rw [← hg]; exact (Nat.gcd_zero_left x).symm
        have gp : 0 < Nat.gcd B A := Nat.gcd_pos_of_pos_left A h0
        rw [← xg] at gp ⊢
        refine ⟨fun c3 => ⟨lN_n0 gp hx, ?_, rfl⟩, fun c3 => ⟨lN_n0 gp hx, ?_, rfl⟩⟩
        · rw [lN_div hB gp hx, if_neg c3]
        · rw [lN_div hA gp hx, if_pos c3]
      · have y0 : 0 < y := Nat.pos_of_ne_zero (fun z => c2 (by rw [z]; rfl))
        have hm := Nat.mod_lt x y0
        rw [lN_rem hx y0 hy]
        exact ⟨c2, ih y (x % y) (by omega) hy (by omega) ((Nat.gcd_rec y x).symm.trans hg)⟩
  exact e_X11_lowest (lp (B + 1) A B (by omega) hA hB rfl)
/-- the odds that just these aren't there, times t for each -/
def odR (t x : Nat) : Nat → Nat
  | 0 => 1
  | p + 1 => odR t x p * (if hasB (nI x) p then 1 else t - 1)
/-- the sets below n, by which there is a best plan -/
def abR (s : Nat → Int32) (t : Nat) : Nat → Nat
  | 0 => 0
  | x + 1 => abR s t x + (if beV s x = -9 then 0 else odR t x (nP s))
theorem odR_le {t : Nat} (ht : t ≤ 20) (x : Nat) : ∀ p, odR t x p ≤ 20 ^ p
  | 0 => Nat.le_refl 1
  | p + 1 => by
    rw [odR, Nat.pow_succ]
    refine Nat.mul_le_mul (odR_le ht x p) ?_
    split <;> omega
theorem p20 {p : Nat} (hp : p ≤ 3) : 20 ^ p ≤ 8000 := Nat.pow_le_pow_right (n := 20) (by decide) hp
theorem abR_le {s : Nat → Int32} (o : OKs s) {t : Nat} (ht : t ≤ 20) : ∀ n, abR s t n ≤ 8000 * n
  | 0 => Nat.le_refl 0
  | n + 1 => by
    have h1 := abR_le o ht n
    have h2 := odR_le ht n (nP s)
    have h3 := p20 o.hP
    rw [abR]
    split <;> omega
theorem tp_le {t p : Nat} (ht : t ≤ 20) (hp : p ≤ 3) : t ^ p ≤ 8000 := Nat.le_trans (Nat.pow_le_pow_left ht p) (p20 hp)
def lyW (t part : Int32) : Int32 := if wbS t 2 20 = 0 then (if inR part 0 1 then 0 else -2) else wbS t 2 20
/-- what likely answers -/
def lyV (s : Nat → Int32) (t : Nat) (part : Int32) : Int64 := lN ((if part = 0 then abR s t (2 ^ nP s) else t ^ nP s) / Nat.gcd (t ^ nP s) (abR s t (2 ^ nP s)))
def lyP (s : Nat → Int32) (t part : Int32) (h : Hp) : Int64 → Hp → Prop := okwL (lyW t part) h (fun v h' => v = lyV s t.toNatClampNeg part ∧ triI scr h h')
theorem wb_2 {x : Int32} (c : wbS x 2 20 = 0) : ∃ n : Nat, x = nI n ∧ 2 ≤ n ∧ n ≤ 20 := by
  unfold wbS at c
  by_cases c1 : x < 2
  · rw [if_pos c1] at c
    exact absurd c (by decide)
  · rw [if_neg c1] at c
    by_cases c2 : 20 < x
    · rw [if_pos c2] at c
      exact absurd c (by decide)
    · have h0 := Int32.le_iff_toInt_le.mp (Int32.not_lt.mp c1)
      have h1 := Int32.le_iff_toInt_le.mp (Int32.not_lt.mp c2)
      have e2 : (2 : Int32).toInt = 2 := by decide
      have e20 : (20 : Int32).toInt = 20 := by decide
      rw [e2] at h0
      rw [e20] at h1
      refine ⟨x.toInt.toNat, ?_, by omega, by omega⟩
      apply Int32.toInt_inj.mp
      rw [nI_toInt (by omega)]
      omega
set_option maxHeartbeats 4000000 in
theorem ct_likely (t part : Int32) (h : Hp) (s : Nat → Int32) (hs : h.1 114 = s) (o : OKs s) (hab : h.1 113 8 = 0) : CtL 8 mX11_likely [.ref 113, .int t, .int part] h (lyP s t part h) := by
  have hP := o.hP
  have hpow : 2 ^ nP s ≤ 8 := Nat.pow_le_pow_right (n := 2) (by decide) hP
  have s25 : ∀ w : Int32, w = lyW t part → isW w → GoL 8 mX11_likely 25 [(0, .ref 113), (1, .int t), (2, .int part), (3, .int w)] [] h (lyP s t part h) := by
    intro w ew iw
    subst ew
    refine b_X11_likely_25 ⟨fun c => ?_, fun c => ⟨_, ct_noWideW iw h, fun v h' q => okwL_f c q⟩⟩
    have c0 : wbS t 2 20 = 0 := by
      by_cases y : wbS t 2 20 = 0
      · exact y
      · unfold lyW at c
        rw [if_neg y] at c
        exact c
    obtain ⟨T, eT, T2, T20⟩ := wb_2 c0
    subst eT
    have cT : (nI T).toNatClampNeg = T := nI_clamp (by omega)
    have tT : (nI T).toInt64 = lN T := nI_l (by omega)
    have tm : nI T - 1 = nI (T - 1) := by
      have := nI_pred (T - 1)
      rwa [show T - 1 + 1 = T by omega] at this
    have tT1 : (nI T - 1).toInt64 = lN (T - 1) := by rw [tm]; exact nI_l (by omega)
    have bl := tp_le T20 hP
    have bp : 0 < T ^ nP s := Nat.pow_pos (by omega)
    -- the sets
    have l2 : ∀ n x : Nat, n + x = 2 ^ nP s → ∀ g : Hp, tr8 scr h g → GoL 8 mX11_likely 71 [(0, .ref 113), (1, .int (nI T)), (2, .int part), (4, .long (lN (abR s T x))), (6, .long (lN (T ^ nP s))), (8, .int (nI x))] [] g (lyP s (nI T) part h) := by
      intro n
      induction n with
      | zero =>
        intro x hx g t8
        have hx : x = 2 ^ nP s := by omega
        subst hx
        have e : g.1 114 = s := (t8.1.1 114 (by decide)).trans hs
        have al := abR_le o T20 (2 ^ nP s)
        refine b_X11_likely_71 ⟨fun _ g1 e1 => ⟨_, ct_lowest (A := abR s T (2 ^ nP s)) (B := T ^ nP s) (by omega) bp (by omega) part g1, fun v h5 q => okwL_t c ⟨?_, ?_⟩⟩, fun c2 => absurd ?_ c2⟩
        · rw [q.1, cT]
          rfl
        · rw [q.2]
          refine tr8.back ?_ ?_
          · rw [e1]
            exact t8.tr tr8.u8
          · rw [e1, ui_aa, hab]
        · rw [e, o.eP, shl1 (nP s) (by omega)]
          exact nI_le (by omega) (by omega)
      | succ n ih =>
        intro x hx g t8
        have e : g.1 114 = s := (t8.1.1 114 (by decide)).trans hs
        have inn : ∀ k p : Nat, k + p = nP s → GoL 8 mX11_likely 90 [(0, .ref 113), (1, .int (nI T)), (2, .int part), (4, .long (lN (abR s T x))), (6, .long (lN (T ^ nP s))), (8, .int (nI x)), (9, .long (lN (odR T x p))), (11, .int (nI p))] [] g (lyP s (nI T) part h) := by
          intro k
          induction k with
          | zero =>
            intro p hp
            have hp : p = nP s := by omega
            subst hp
            refine b_X11_likely_90 ⟨fun _ g1 e1 => ?_, fun c2 => absurd ?_ c2⟩
            · have t1 : tr8 scr h g1 := by
                rw [e1]
                exact t8.tr tr8.u8
              have a1 : g1.1 113 8 = nI x := by rw [e1, ui_aa]
              refine ⟨_, ct_bestsX (ab := x) g1 s ((t1.1.1 114 (by decide)).trans hs) o a1, fun v h5 q => ?_⟩
              obtain ⟨q1, q2, -⟩ := q
              have t5 : tr8 scr h h5 := t1.tr q2.t8
              have f153 : ∀ z : Nat, z = (if beV s x = -9 then 0 else odR T x (nP s)) → GoL 8 mX11_likely 153 [(0, .ref 113), (1, .int (nI T)), (2, .int part), (6, .long (lN (T ^ nP s))), (8, .int (nI x))] [.long (lN z), .long (lN (abR s T x))] h5 (lyP s (nI T) part h) := by
                intro z hz
                refine b_X11_likely_153 ?_
                rw [lN_add, nI_1, hz]
                exact ih (x + 1) (by omega) h5 t5
              refine ⟨fun c2 => f153 _ ?_, fun c2 => f153 0 ?_⟩
              · rw [q1] at c2
                rw [if_neg c2]
              · rw [q1] at c2
                rw [if_pos c2]
            · rw [e, o.eP]
              exact nI_le (by omega) (by omega)
          | succ k ihk =>
            intro p hp
            have ih2 := ihk (p + 1) (by omega)
            have f121 : ∀ z : Nat, z = (if hasB (nI x) p then 1 else T - 1) → GoL 8 mX11_likely 121 [(0, .ref 113), (1, .int (nI T)), (2, .int part), (4, .long (lN (abR s T x))), (6, .long (lN (T ^ nP s))), (8, .int (nI x)), (11, .int (nI p))] [.long (lN z), .long (lN (odR T x p))] g (lyP s (nI T) part h) := by
              intro z hz
              refine b_X11_likely_121 ?_
              rw [lN_mul, nI_1, hz]
              exact ih2
            refine b_X11_likely_90 ⟨fun c2 => absurd c2 ?_, fun _ => pc (ct_has (nI x) p g) ⟨fun c2 => ?_, fun c2 => f121 1 ?_⟩⟩
            · rw [e, o.eP]
              exact nI_ge (by omega) (by omega)
            · rw [tT1]
              exact f121 _ (by rw [bI_0.mp c2]; rfl)
            · rw [if_pos (bI_t c2)]
        refine b_X11_likely_71 ⟨fun c2 => absurd c2 ?_, fun _ => inn (nP s) 0 rfl⟩
        rw [e, o.eP, shl1 (nP s) (by omega)]
        exact nI_ge (by omega) (by omega)
    have l1 : ∀ n p : Nat, n + p = nP s → GoL 8 mX11_likely 44 [(0, .ref 113), (1, .int (nI T)), (2, .int part), (4, .long 0), (6, .long (lN (T ^ p))), (8, .int (nI p))] [] h (lyP s (nI T) part h) := by
      intro n
      induction n with
      | zero =>
        intro p hp
        have hp : p = nP s := by omega
        subst hp
        refine b_X11_likely_44 ⟨fun _ => l2 (2 ^ nP s) 0 rfl h triI.rf.t8, fun c2 => absurd ?_ c2⟩
        rw [hs, o.eP]
        exact nI_le (by omega) (by omega)
      | succ n ih =>
        intro p hp
        have ih2 := ih (p + 1) (by omega)
        refine b_X11_likely_44 ⟨fun c2 => absurd c2 ?_, fun _ => ?_⟩
        · rw [hs, o.eP]
          exact nI_ge (by omega) (by omega)
        · rw [tT, lN_mul, nI_1]
          rw [Nat.pow_succ] at ih2
          exact ih2
    exact l1 (nP s) 0 rfl
  refine e_X11_likely (pc (ct_wrongBy t 2 20 h) ⟨fun c => s25 _ ?_ (isW_wb _ _ _), fun c => pc (ct_isInI part 0 1 h) ⟨fun c2 => s25 _ ?_ (isW_wb _ _ _), fun c2 => s25 _ ?_ isW_2⟩⟩)
  · unfold lyW
    rw [if_neg c]
  · unfold lyW
    rw [if_pos c, if_pos (bI_t c2), c]
  · unfold lyW
    rw [if_pos c, if_neg (by rw [bI_0.mp c2]; decide)]
