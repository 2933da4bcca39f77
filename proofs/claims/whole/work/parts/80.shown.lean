/-! ===== what is shown ===== -/
theorem f_same {a b : Nat} {x : UInt32} (ha : 1 ≤ a) (hb : b ≤ 254) (hx : isF a b x) : FP.fcmp x x = some .eq := by
  rcases hx with hx | ⟨E, T, x1, x2, x3, x4⟩
  · rw [hx]
    decide
  · have e0 : FP.fcmp (mkF E T) (mkF E T) = FP.Core.cmp FP.Core.b32 (mkF E T).toNat (mkF E T).toNat := rfl
    rw [mkF_n (by omega) x3] at e0
    unfold FP.Core.cmp at e0
    rw [f_dec (by omega) (by omega) x3] at e0
    unfold FP.Core.order at e0
    simp only at e0
    have cm : ∀ a b : Int, compare a b = if a < b then .lt else if a = b then .eq else .gt := fun a b => rfl
    rw [cm, if_neg (by omega), if_pos rfl] at e0
    rw [x4]
    exact e0
theorem ct_f2ib {a b : Nat} {x : UInt32} (ha : 1 ≤ a) (hb : b ≤ 254) (hx : isF a b x) (h : Hp) : CtI 1 mJxf58ca_floatToIntBits_5c35a [.float x] h (pq x.toInt32 h) := by
  refine e_Jxf58ca_floatToIntBits_5c35a ⟨_, e_Jxf58ca_isNaN_12338 (Q := pq 0 h) ⟨?_, rfl⟩, fun v3 h4 q => ?_⟩
  · rw [f_same ha hb hx]
    decide
  · obtain ⟨q1, q2⟩ := q
    subst q1
    subst q2
    exact ⟨fun c => absurd rfl c, fun _ => ⟨rfl, rfl⟩⟩
theorem f_div0 {F S : Nat} (hF1 : 1 ≤ F) (hF2 : F ≤ 254) (hS : S < 8388608) : FP.fdiv 0 (mkF F S) = 0 := by
  have e0 : FP.fdiv 0 (mkF F S) = UInt32.ofNat (FP.Core.div FP.Core.b32 (0 : UInt32).toNat (mkF F S).toNat) := rfl
  rw [mkF_n (by omega) hS, show (0 : UInt32).toNat = 0 from rfl] at e0
  unfold FP.Core.div at e0
  rw [f_dec0, f_dec hF1 hF2 hS] at e0
  unfold FP.Core.quotient at e0
  simp only [bne_self_eq_false] at e0
  rw [if_neg (by omega)] at e0
  rw [e0]
  unfold FP.Core.roundRatio
  rw [if_pos rfl, f_b32.2.2.1, f_enc0]
  rfl
theorem isF.mono {a b a' b' : Nat} {x : UInt32} (h : isF a b x) (h1 : a' ≤ a) (h2 : b ≤ b') : isF a' b' x := by
  rcases h with h | ⟨E, T, x1, x2, x3, x4⟩
  · exact Or.inl h
  · exact Or.inr ⟨E, T, by omega, by omega, x3, x4⟩
theorem f_i2f2 {n : Nat} (hn : n < 1048576) : isF 127 148 (FP.i2f (nI n)) := by
  obtain ⟨a, b⟩ := f_i2f hn
  by_cases y : n = 0
  · exact Or.inl (a y)
  · exact b (by omega)
theorem mkF_0 {E T : Nat} (h1 : 1 ≤ E) (h2 : E ≤ 255) (hT : T < 8388608) : ¬ mkF E T = 0 := fun z => by
  have e := congrArg UInt32.toNat z
  rw [mkF_n h2 hT, show (0 : UInt32).toNat = 0 from rfl] at e
  unfold mkN at e
  omega
/-- the leaned costs -/
def lnS (s : Nat → Int32) : Nat → UInt32
  | 0 => FP.fconst0
  | t + 1 => FP.fmul (FP.fadd (lnS s t) (FP.i2f (hbF s (nP s) (beX s 0).2 t))) 1056964608
theorem be_rw {s : Nat → Int32} (i : InS s) (h : ¬ beV s 0 = -9) : rwA s 0 (beX s 0).2 ∧ feA s (beX s 0).2 := be_fe (by decide) i (beV_far h)
theorem be_n {s : Nat → Int32} (i : InS s) : beV s 0 = -9 ∨ ∃ n : Nat, n ≤ 11000 ∧ beV s 0 = nI n := by
  by_cases h : beV s 0 = -9
  · exact Or.inl h
  · right
    have hP := i.o.hP
    have hpow := pow_le i.o.hH
    obtain ⟨hr, hf⟩ := be_rw i h
    have sp : fsP (plC s (nH s) (nP s)) (rwA s 0) (FAR, fun _ => 0) (beX s 0) := foT_spec (okS s 0 (nH s)) (plC s (nH s) (nP s)) hpow (nP s) 0 (by omega) (fun _ => 0) (FAR, fun _ => 0) (fun _ => by omega)
    obtain ⟨-, -, s3⟩ := sp
    have fr := beV_far h
    have e1 : beV s 0 = (beX s 0).1 := if_neg fr
    obtain ⟨p1, p2⟩ := plC_ok (by decide) i hr hf
    rcases s3 with z | ⟨-, c2, -, -⟩
    · exact absurd (congrArg Prod.fst z) fr
    · exact ⟨_, p2, by rw [e1, ← c2, p1]⟩
theorem hb_n {s : Nat → Int32} (i : InS s) (h : ¬ beV s 0 = -9) {t : Nat} (ht : t < nH s) : ∃ v : Nat, v ≤ 2010 ∧ hbF s (nP s) (beX s 0).2 t = nI v := by
  have hH := i.o.hH
  obtain ⟨hr, hf⟩ := be_rw i h
  obtain ⟨w1, w2, -⟩ := walk_by i hr hf ht
  rw [← w2]
  exact td_far i (agW2_aR i _ (by omega)) (by omega) w1
theorem ln_b {s : Nat → Int32} (i : InS s) (h : ¬ beV s 0 = -9) : ∀ t, t ≤ nH s → isF (127 - t) (148 + t) (lnS s t) ∧ (t < nH s → isF (127 - t) (148 + t + 2) (FP.fadd (lnS s t) (FP.i2f (hbF s (nP s) (beX s 0).2 t)))) := by
  have hH := i.o.hH
  have st : ∀ t, t < nH s → isF (127 - t) (148 + t) (lnS s t) → isF (127 - t) (148 + t + 2) (FP.fadd (lnS s t) (FP.i2f (hbF s (nP s) (beX s 0).2 t))) := fun t ht I => by
    obtain ⟨v, hv, ev⟩ := hb_n i h ht
    rw [ev]
    exact f_add (by omega) (by omega) I ((f_i2f2 (by omega)).mono (by omega) (by omega))
  intro t
  induction t with
  | zero => exact fun _ => ⟨Or.inl rfl, fun ht => st 0 ht (Or.inl rfl)⟩
  | succ t ih =>
    intro ht
    have I := (ih (by omega)).2 (by omega)
    have I2 : isF (127 - (t + 1)) (148 + (t + 1)) (lnS s (t + 1)) := (f_hlf (by omega) (by omega) I).mono (by omega) (by omega)
    exact ⟨I2, fun ht => st (t + 1) ht I2⟩
def akD (s : Nat → Int32) : Int32 := sumI (fun t => s (4 + t)) (nH s)
theorem ak_n {s : Nat → Int32} (i : InS s) : ∃ n : Nat, n ≤ 495 ∧ akD s = nI n := by
  have hH := i.o.hH
  obtain ⟨v, hv, ev⟩ := sum_b (g := fun t => s (4 + t)) (B := 99) (nH s) (fun t ht => (i.2.1 t (by omega)).1)
  exact ⟨v, by omega, ev⟩
theorem qu_b {s : Nat → Int32} (i : InS s) (h : ¬ beV s 0 = -9) (h0 : ¬ akD s = 0) : isF 100 200 (FP.fdiv (FP.i2f (beV s 0)) (FP.i2f (akD s))) := by
  obtain ⟨n, hn, en⟩ := (be_n i).resolve_left h
  obtain ⟨d, hd, ed⟩ := ak_n i
  rw [en, ed]
  have d0 : 0 < d := Nat.pos_of_ne_zero (fun z => h0 (by rw [ed, z]; rfl))
  rcases (f_i2f (n := d) (by omega)).2 d0 with z | ⟨F, S, y1, y2, y3, y4⟩
  · -- a whole number above 0 isn't 0
    exfalso
    have e0 : FP.i2f (nI d) = UInt32.ofNat (FP.Core.fromInt FP.Core.b32 (nI d).toInt) := rfl
    rw [nI_toInt (by omega)] at e0
    unfold FP.Core.fromInt FP.Core.ofInt FP.Core.round at e0
    simp only [Int.natAbs_natCast] at e0
    have s0 : decide ((d : Int) < 0) = false := decide_eq_false (by omega)
    rw [s0] at e0
    obtain ⟨a1, a2⟩ := lg_ex d0
    have kl : d.log2 < 20 := (Nat.log2_lt (by omega)).mpr (by omega)
    obtain ⟨E, T, s1, s2, s3⟩ := f_rr1 (e := 0) a1 a2 (by omega) (by omega)
    rw [s3] at e0
    have e1 : mkF E T = 0 := e0.symm.trans z
    exact mkF_0 (by omega) (by omega) s1 e1
  · rw [y4]
    rcases f_i2f2 (n := n) (by omega) with z | ⟨E, T, x1, x2, x3, x4⟩
    · rw [z]
      exact Or.inl (f_div0 (by omega) (by omega) y3)
    · rw [x4]
      exact (f_div (by omega) (by omega) x3 (by omega) (by omega) y3 (by omega) (by omega)).mono (by omega) (by omega)
/-- what is wrong with it; what is shown -/
def snW (s : Nat → Int32) (what : Int32) : Int32 := if inR what 0 2 then (if beV s 0 = -9 then -3 else if what = 0 then (if akD s = 0 then -3 else 0) else 0) else -2
def snV (s : Nat → Int32) (what : Int32) : Int64 := if what = 0 then (FP.fdiv (FP.i2f (beV s 0)) (FP.i2f (akD s))).toInt32.toInt64 else if what = 1 then (lnS s (nH s)).toInt32.toInt64 else (FP.f2i (lnS s (nH s))).toInt64
theorem snW_isW (s : Nat → Int32) (what : Int32) : isW (snW s what) := by
  unfold snW
  split
  · split
    · exact isW_3
    · split
      · split
        · exact isW_3
        · exact isW_0
      · exact isW_0
  · exact isW_2
set_option maxHeartbeats 1000000 in
theorem ct_shownC (what : Int32) (h : Hp) (s : Nat → Int32) (k : kI s h) : CtL 6 mX10_shown [.ref 0, .int what] h (fun v g => (snW s what = 0 → v = snV s what ∧ frC h g) ∧ (¬ snW s what = 0 → v = 4000000000000000000 - (snW s what).toInt64 ∧ ∃ h1 : Hp, frC h h1 ∧ g = noC h1 (-(snW s what)).toNatClampNeg)) := by
  have hP := k.i.o.hP
  have hH := k.i.o.hH
  have rf : ∀ (x : Int32) (h1 : Hp), isW x → ¬ x = 0 → snW s what = x → frC h h1 → ∃ Q, CtL 1 mX10_refuseLong [.ref 0, .int x] h1 Q ∧ ∀ v g, Q v g → (fun v g => (snW s what = 0 → v = snV s what ∧ frC h g) ∧ (¬ snW s what = 0 → v = 4000000000000000000 - (snW s what).toInt64 ∧ ∃ h1 : Hp, frC h h1 ∧ g = noC h1 (-(snW s what)).toNatClampNeg)) v g := by
    intro x h1 wx x0 ew f
    refine ⟨_, ct_refuseL wx x0 h1, fun v g q => ?_⟩
    simp only
    rw [ew]
    exact ⟨fun z => absurd z x0, fun _ => ⟨q.1, h1, f, q.2⟩⟩
  refine e_X10_shown ⟨fun c => rf (-2) h isW_2 (by decide) (ite_f (in_l (lt0 c))) (frC.rf k), fun c => ⟨fun c2 => ⟨_, ct_solveAsIs h s k, fun v8 h9 q => ?_⟩, fun c2 => rf (-2) h isW_2 (by decide) (ite_f (in_h c2)) (frC.rf k)⟩⟩
  have ci : inR what 0 2 = true := in_i (nlt0 c) c2
  have ew : snW s what = if beV s 0 = -9 then -3 else if what = 0 then (if akD s = 0 then -3 else 0) else 0 := if_pos ci
  obtain ⟨q1, q2, q3, q4⟩ := q
  have k9 := k.fr q2
  have sg := sgn q3
  refine pc (ct_demandOfAll h9 s k9.c k9.i.o) ⟨fun c3 => ?_, fun c3 => ?_⟩
  · have z := sg.2.mp c3
    rw [q1] at z
    exact rf (-3) h9 isW_3 (by decide) (by rw [ew, if_pos z]) q2
  · have n9' : ¬ v8 = -9 := fun y => c3 (sg.2.mpr y)
    have n9 := n9'
    rw [q1] at n9
    have ew2 : snW s what = if what = 0 then (if akD s = 0 then -3 else 0) else 0 := by rw [ew, if_neg n9]
    obtain ⟨-, -, hrows⟩ := q4 n9'
    obtain ⟨hr, hf⟩ := be_rw k.i n9
    have s48 : snW s what = 0 → (what = 0 → ¬ akD s = 0) → GoL 6 mX10_shown 48 [(0, .ref 0), (1, .int what), (2, .int v8), (3, .int (akD s))] [] h9 (fun v g => (snW s what = 0 → v = snV s what ∧ frC h g) ∧ (¬ snW s what = 0 → v = 4000000000000000000 - (snW s what).toInt64 ∧ ∃ h1 : Hp, frC h h1 ∧ g = noC h1 (-(snW s what)).toNatClampNeg)) := by
      intro w0 hk
      have L : CtF 5 mX10_leansOfBest [.ref 0] h9 (fun v g => v = lnS s (nH s) ∧ frC h g) := by
        refine e_X10_leansOfBest ⟨_, ct_walkBegin h9 s k9.c k9.i, fun h14 w => ?_⟩
        have lp : ∀ n t : Nat, n + t = nH s → ∀ g : Hp, frC h g → (∀ p, p < 3 → g.1 41 p = nI ((beX s 0).2 p)) → wkI s (agW2 s (beX s 0).2 t) g → GoF 5 mX10_leansOfBest 11 [(0, .ref 0), (1, .float (lnS s t)), (2, .int (nI t))] [] g (fun v g => v = lnS s (nH s) ∧ frC h g) := by
          intro n
          induction n with
          | zero =>
            intro t ht g f rr wk
            have ht : t = nH s := by omega
            subst ht
            refine b_X10_leansOfBest_11 ⟨fun _ => ⟨rfl, f⟩, fun y => absurd ?_ y⟩
            rw [(k.fr f).c.H, k.i.o.eH]
            exact nI_le (by omega) (by omega)
          | succ n ih =>
            intro t ht g f rr wk
            have kg := k.fr f
            obtain ⟨w1, w2, w3⟩ := walk_by k.i hr hf (t := t) (by omega)
            obtain ⟨I1, I2⟩ := ln_b k.i n9 t (by omega)
            have J := (ln_b k.i n9 (t + 1) (by omega)).1
            refine b_X10_leansOfBest_11 ⟨fun y => absurd y ?_, fun _ => pc (ct_setAt7 g (beX s 0).2 rr) ⟨_, ct_pass (by decide) (by omega) _ g s kg.c kg.i (agW2 s (beX s 0).2 t) (agW2_aR k.i _ (by omega)) wk, fun v g9 q => ?_⟩⟩
            · rw [kg.c.H, k.i.o.eH]
              exact nI_ge (by omega) (by omega)
            · obtain ⟨p1, p2, p3, -⟩ := q
              obtain ⟨p4, p5⟩ := p3 w1
              rw [p1, tdV, if_pos w1, w2]
              refine ⟨(I2 (by omega)).vf (by omega), J.vf (by omega), ?_⟩
              rw [nI_1]
              refine ih (t + 1) (by omega) g9 (f.add p2 ps_sub (by decide)) (fun p hp => ?_) ⟨p4, fun p hp => ?_⟩
              · rw [p2.1 41 (by decide)]
                exact rr p hp
              · rw [p5 p hp, w3 p hp]
        refine lp (nH s) 0 rfl h14 (q2.add w.2 wk_sub (by decide)) (fun p hp => ?_) w.1
        rw [w.2.1 41 (by decide)]
        exact hrows p hp
      have I := (ln_b k.i n9 (nH s) (Nat.le_refl _)).1
      refine b_X10_shown_48 ⟨fun d => ⟨_, L, fun v3 h4 r => ?_⟩, fun d => ?_⟩
      · obtain ⟨r1, r2⟩ := r
        subst r1
        refine ⟨fun d1 => ⟨fun _ => ⟨?_, r2⟩, fun z => absurd w0 z⟩, fun d1 => pc (ct_bitsOf (by omega) (by omega) I h4) ⟨fun _ => ⟨?_, r2⟩, fun z => absurd w0 z⟩⟩
        · rw [snV, if_neg d, if_neg d1]
        · rw [snV, if_neg d, if_pos d1]
      · have Q := qu_b k.i n9 (hk d)
        rw [q1]
        refine ⟨Q.vf (by decide), pc (ct_bitsOf (by decide) (by decide) Q h9) ⟨fun _ => ⟨?_, q2⟩, fun z => absurd w0 z⟩⟩
        rw [snV, if_pos d]
    refine ⟨fun d => s48 (by rw [ew2, if_neg d]) (fun z => absurd z d), fun d => ⟨fun d2 => s48 ?_ (fun _ => d2), fun d2 => rf (-3) h9 isW_3 (by decide) ?_ q2⟩⟩
    · rw [ew2, if_pos d]
      exact if_neg d2
    · rw [ew2, if_pos d]
      exact if_pos d2
