/-! ===== the class: a scene copied; its setters ===== -/
/-- those numbers of D stand so in the scene at b -/
def dnC (b : Nat) (s : Nat → Int32) (D : Nat → Prop) (h : Hp) : Prop := ∀ i, i < 49 → D i → h.1 (b + (po0 i).1) (po0 i).2 = s i
theorem dnC_ui {b : Nat} {s : Nat → Int32} {D E : Nat → Prop} {h : Hp} (a : dnC b s D h) {k : Nat} (hk : k < 49) {x : Int32} (hx : x = s k) (hE : ∀ i, i < 49 → E i → D i ∨ i = k) : dnC b s E (ui h (b + (po0 k).1) (po0 k).2 x) := fun j hj e => by
  rw [ui_get]
  by_cases c : j = k
  · subst c
    rw [if_pos ⟨rfl, rfl⟩, hx]
  · rw [if_neg (fun z => c (po0_inj j hj k hk (by omega) z.2))]
    exact a j hj ((hE j hj e).resolve_right c)
theorem dnC_uc {b : Nat} {s : Nat → Int32} {D E : Nat → Prop} {h : Hp} (a : dnC b s D h) {k : Nat} {f g : Nat → Int32} (lo : Nat) (hf : ∀ t, t < 5 → f t = s (lo + t) ∧ po0 (lo + t) = (k, t)) (hE : ∀ i, i < 49 → E i → (∃ t, t < 5 ∧ i = lo + t) ∨ (D i ∧ (po0 i).1 ≠ k)) : dnC b s E (uc h (b + k) (va_cpy f g 0 0 5)) := fun j hj e => by
  rcases hE j hj e with ⟨t, ht, ej⟩ | ⟨d, n⟩
  · subst ej
    obtain ⟨h1, h2⟩ := hf t ht
    rw [h2]
    show (uc h (b + k) (va_cpy f g 0 0 5)).1 (b + k) t = s (lo + t)
    rw [uc_at, ← h1]
    unfold va_cpy
    rw [if_pos (by omega), show 0 + (t - 0) = t by omega]
  · rw [uc_ne _ _ (by omega)]
    exact a j hj d
theorem po0_k : ∀ i, i < 49 → (i < 4 → (po0 i).1 = 0) ∧ (4 ≤ i → i < 9 → (po0 i).1 = 1) ∧ (9 ≤ i → i < 14 → (po0 i).1 = 2) ∧ (14 ≤ i → i < 19 → (po0 i).1 = 3) ∧ (19 ≤ i → (po0 i).1 = 5 + (i - 19) / 10) := by decide +kernel
theorem ct_copySc {a b : Nat} (ha : isSc a) (hb : isSc b) (hab : a + 8 ≤ b ∨ b + 8 ≤ a) (h : Hp) (s : Nat → Int32) (hs : sC b s h) : CtV 1 mX5_copyFrom [.ref a, .ref b] h (fun h' => sC a s h' ∧ (∀ k, k ∉ cS a → h'.1 k = h.1 k) ∧ h'.2 = (ul h a 8 (h.2 b 8)).2) := by
  have dj : ∀ k, k ∈ cS b → k ∉ cS a := fun k hk hk2 => by
    simp only [cS, List.mem_cons, List.not_mem_nil, or_false] at hk hk2
    omega
  have m0 : a ∈ cS a := List.mem_cons_self ..
  have m1 : a + 1 ∈ cS a := List.mem_cons_of_mem _ (List.mem_cons_self ..)
  have m2 : a + 2 ∈ cS a := List.mem_cons_of_mem _ (List.mem_cons_of_mem _ (List.mem_cons_self ..))
  have m3 : a + 3 ∈ cS a := List.mem_cons_of_mem _ (List.mem_cons_of_mem _ (List.mem_cons_of_mem _ (List.mem_cons_self ..)))
  have mp : ∀ p, p < 3 → a + 5 + p ∈ cS a := fun p hp => by
    simp only [cS, List.mem_cons, List.not_mem_nil, or_false]
    omega
  refine e_X5_copyFrom ha hb (fun g1 e1 g2 e2 g3 e3 g4 e4 => ?_)
  have f1 : Fr (cS a) h g1 := by
    rw [e1]
    exact Fr.ui m0
  have s1 : sC b s g1 := hs.fr f1 dj
  have f2 : Fr (cS a) h g2 := by
    rw [e2]
    exact f1.tr (Fr.uc m1)
  have s2 : sC b s g2 := hs.fr f2 dj
  have f3 : Fr (cS a) h g3 := by
    rw [e3]
    exact f2.tr (Fr.uc m2)
  have s3 : sC b s g3 := hs.fr f3 dj
  have f4 : Fr (cS a) h g4 := by
    rw [e4]
    exact f3.tr (Fr.uc m3)
  have d1 : dnC a s (fun i => i < 1) g1 := by
    rw [e1]
    exact dnC_ui (D := fun _ => False) (k := 0) (fun i _ z => z.elim) (by decide) hs.H (fun i _ e => Or.inr (by omega))
  have d2 : dnC a s (fun i => i < 1 ∨ (4 ≤ i ∧ i < 9)) g2 := by
    rw [e2]
    refine dnC_uc d1 4 (fun t ht => ⟨s1.d ht, (po0_d t ht).1⟩) (fun i hi e => ?_)
    obtain ⟨p0, p1, p2, p3, p4⟩ := po0_k i hi
    rcases e with e | e
    · exact Or.inr ⟨e, by rw [p0 (by omega)]; decide⟩
    · exact Or.inl ⟨i - 4, by omega, by omega⟩
  have d3 : dnC a s (fun i => i < 1 ∨ (4 ≤ i ∧ i < 14)) g3 := by
    rw [e3]
    refine dnC_uc d2 9 (fun t ht => ⟨s2.r ht, (po0_d t ht).2.1⟩) (fun i hi e => ?_)
    obtain ⟨p0, p1, p2, p3, p4⟩ := po0_k i hi
    by_cases c : 9 ≤ i
    · exact Or.inl ⟨i - 9, by omega, by omega⟩
    · refine Or.inr ⟨by omega, ?_⟩
      by_cases c2 : i < 4
      · rw [p0 c2]
        decide
      · rw [p1 (by omega) (by omega)]
        decide
  have d4 : dnC a s (fun i => i < 1 ∨ (4 ≤ i ∧ i < 19)) g4 := by
    rw [e4]
    refine dnC_uc d3 14 (fun t ht => ⟨s3.p ht, (po0_d t ht).2.2⟩) (fun i hi e => ?_)
    obtain ⟨p0, p1, p2, p3, p4⟩ := po0_k i hi
    by_cases c : 14 ≤ i
    · exact Or.inl ⟨i - 14, by omega, by omega⟩
    · refine Or.inr ⟨by omega, ?_⟩
      by_cases c2 : i < 4
      · rw [p0 c2]
        decide
      · by_cases c3 : i < 9
        · rw [p1 (by omega) c3]
          decide
        · rw [p2 (by omega) (by omega)]
          decide
  have lp : ∀ n p : Nat, n + p = 3 → ∀ g : Hp, Fr (cS a) h g → dnC a s (fun i => i < 1 ∨ (4 ≤ i ∧ i < 19 + 10 * p)) g → GoV 1 mX5_copyFrom 52 [(0, .ref a), (1, .ref b), (2, .int (nI p))] [] g (fun h' => sC a s h' ∧ (∀ k, k ∉ cS a → h'.1 k = h.1 k) ∧ h'.2 = (ul h a 8 (h.2 b 8)).2) := by
    intro n
    induction n with
    | zero =>
      intro p hp g f d
      have hp : p = 3 := by omega
      subst hp
      refine b_X5_copyFrom_52 ha hb ⟨fun _ k1 w1 k2 w2 k3 w3 k4 w4 => ?_, fun c => absurd (nI_le (a := 3) (by omega) (by omega)) c⟩
      have q1 : Fr (cS a) h k1 := by
        rw [w1]
        exact f.tr (Fr.ui m0)
      have q2 : Fr (cS a) h k2 := by
        rw [w2]
        exact q1.tr (Fr.ui m0)
      have q3 : Fr (cS a) h k3 := by
        rw [w3]
        exact q2.tr (Fr.ui m0)
      have r1 : dnC a s (fun i => i < 1 ∨ i = 3 ∨ 4 ≤ i) k1 := by
        rw [w1]
        exact dnC_ui d (k := 3) (by decide) (hs.fr f dj).M (fun i hi e => by omega)
      have r2 : dnC a s (fun i => i < 2 ∨ i = 3 ∨ 4 ≤ i) k2 := by
        rw [w2]
        exact dnC_ui r1 (k := 1) (by decide) (hs.fr q1 dj).mr (fun i hi e => by omega)
      have r3 : dnC a s (fun _ => True) k3 := by
        rw [w3]
        exact dnC_ui r2 (k := 2) (by decide) (hs.fr q2 dj).st (fun i hi e => by omega)
      refine ⟨fun i hi => ?_, fun k hk => ?_, ?_⟩
      · rw [w4]
        exact r3 i hi trivial
      · rw [w4]
        exact q3.1 k hk
      · rw [w4]
        show u2 k3.2 a 8 (k3.2 b 8) = u2 h.2 a 8 (h.2 b 8)
        rw [q3.2]
    | succ n ih =>
      intro p hp g f d
      have pa := ha.2.2.2.2.2.2.2.2.2
      have pb := hb.2.2.2.2.2.2.2.2.2
      have cp : (nI p).toNatClampNeg = p := nI_clamp (by omega)
      refine b_X5_copyFrom_52 ha hb ⟨fun c => absurd c (nI_ge (b := 3) (by omega) (by omega)), fun _ => ?_⟩
      rw [cp, nI_1]
      refine ⟨vp_in_nI (by omega) (by omega), vp_in_nI (by omega) (by omega), _, ct_copyPl (pa p (by omega)).2 (pb p (by omega)).2 (by omega) g, fun h10 q => ih (p + 1) (by omega) h10 (f.tr (q.1.mono (fun k hk => by rw [List.mem_singleton.mp hk]; exact mp p (by omega)))) (fun i hi e => ?_)⟩
      obtain ⟨p0, p1, p2, p3, p4⟩ := po0_k i hi
      by_cases c : 19 + 10 * p ≤ i
      · have e1 : i = 19 + 10 * p + (i - 19 - 10 * p) := by omega
        have e2 := po0_f p (by omega) (i - 19 - 10 * p) (by omega)
        rw [← e1] at e2
        rw [e2]
        show h10.1 (a + (5 + p)) (i - 19 - 10 * p) = s i
        rw [show a + (5 + p) = a + 5 + p by omega, q.2 _ (by omega), (hs.fr f dj).f (by omega) (by omega), pfS, ← e1]
      · rw [q.1.1 _ (fun z => ?_)]
        · exact d i hi (by omega)
        · have z := List.mem_singleton.mp z
          by_cases c2 : i < 4
          · rw [p0 c2] at z
            omega
          · by_cases c3 : i < 9
            · rw [p1 (by omega) c3] at z
              omega
            · by_cases c4 : i < 14
              · rw [p2 (by omega) c4] at z
                omega
              · by_cases c5 : i < 19
                · rw [p3 (by omega) c5] at z
                  omega
                · rw [p4 (by omega)] at z
                  omega
  exact lp 3 0 rfl g4 f4 d4
/-! ===== the class: setters of the scene ===== -/
theorem woS_eq {v a b w a2 b2 x : Int32} (hx : x = (if v < a ∨ w < a2 then -4 else if b < v ∨ b2 < w then -6 else 0)) : woS v a b w a2 b2 = x := by rw [hx]; rfl
theorem ct_setSpan (x : Int32) (h : Hp) (s : Nat → Int32) (a : sC 1 s h) : CtI 0 mX5_setSpan [.ref 1, .int x] h (okc (wbS x 1 5) h (fun v h' => v = s 0 ∧ h' = ui h 1 0 x)) := by
  refine e_X5_setSpan ⟨fun c => ⟨fun c2 g1 e1 => okc_t ?_ ⟨a.H, e1⟩, fun c2 => okc_f ?_ (by decide)⟩, fun c => okc_f ?_ (by decide)⟩
  · rw [wbS, if_neg (Int32.not_lt.mpr c), if_neg (Int32.not_lt.mpr c2)]
  · rw [wbS, if_neg (Int32.not_lt.mpr c), if_pos (Int32.not_le.mp c2)]
  · rw [wbS, if_pos (Int32.not_le.mp c)]
theorem ct_setDemand (hour d r : Int32) (h : Hp) (s : Nat → Int32) (a : sC 1 s h) (o : OKs s) : CtI 1 mX5_setDemand [.ref 1, .int hour, .int d, .int r] h (okc (deW s hour d r) h (fun v h' => v = 100 * s (4 + hour.toNatClampNeg) + s (9 + hour.toNatClampNeg) ∧ h' = ui (ui h 2 hour.toNatClampNeg d) 3 hour.toNatClampNeg r ∧ hour.toNatClampNeg < 5)) := by
  have hH := o.hH
  refine e_X5_setDemand (pc (ct_noHour hour h s a o) ⟨fun c => ?_, fun c => ?_⟩)
  · have c := nb_0.mp c
    obtain ⟨t, et, ht⟩ := isH_nI o c
    subst et
    have ct : (nI t).toNatClampNeg = t := nI_clamp (by omega)
    have vi : vp_in (nI t) 5 := vp_in_nI (by omega) (by omega)
    have dw : deW s (nI t) d r = woS d 0 99 r 0 20 := if_pos c
    rw [ct]
    refine ⟨fun c1 => okc_f ?_ (by decide), fun c1 => ⟨fun c2 => ⟨fun c3 => okc_f ?_ (by decide), fun c3 => ⟨fun c4 => ⟨vi, vi, vi, fun g9 e9 => ⟨vi, fun g11 e11 => okc_t ?_ ⟨?_, ?_, by omega⟩⟩⟩, fun c4 => okc_f ?_ (by decide)⟩⟩, fun c2 => okc_f ?_ (by decide)⟩⟩
    · rw [dw, woS, if_pos (Or.inl c1)]
    · rw [dw, woS, if_neg (fun z => z.elim c1 (Int32.not_lt.mpr c2)), if_pos (Or.inl c3)]
    · rw [dw, woS, if_neg (fun z => z.elim c1 (Int32.not_lt.mpr c2)), if_neg (fun z => z.elim c3 (Int32.not_lt.mpr c4))]
    · have a1 := a.d (t := t) (by omega)
      have a2 := a.r (t := t) (by omega)
      rw [show (2 : Nat) = 1 + 1 from rfl, show (3 : Nat) = 1 + 2 from rfl, a1, a2]
    · rw [e11, e9]
    · rw [dw, woS, if_neg (fun z => z.elim c1 (Int32.not_lt.mpr c2)), if_pos (Or.inr (Int32.not_le.mp c4))]
    · rw [dw, woS, if_pos (Or.inr (Int32.not_le.mp c2))]
  · exact okc_f (if_neg (noF (nb_1.mp c))) (by decide)
theorem lt6 (x : Int32) : x < 6 ↔ x ≤ 5 := by
  have a : (6 : Int32).toInt = 6 := by decide
  have b : (5 : Int32).toInt = 5 := by decide
  rw [Int32.lt_iff_toInt_lt, Int32.le_iff_toInt_le, a, b]
  omega
theorem le10 (x : Int32) : 10 ≤ x ↔ 9 < x := by
  have a : (10 : Int32).toInt = 10 := by decide
  have b : (9 : Int32).toInt = 9 := by decide
  rw [Int32.lt_iff_toInt_lt, Int32.le_iff_toInt_le, a, b]
  omega
theorem ct_addPlant (kd fg : Int32) (h : Hp) (s : Nat → Int32) (a : sC 1 s h) (o : OKs s) : CtI 1 mX5_addPlant [.ref 1, .int kd, .int fg] h (okc (plW s kd fg) h (fun v h' => v = s 3 ∧ sC 1 (adS s (nP s) kd fg) h' ∧ Fr (cS 1) h h')) := by
  have hP := o.hP
  have hM := a.M
  refine e_X5_addPlant ?_
  rw [hM, o.eP, lt6, le10]
  have n2 : ¬ (0 ≤ kd ∧ kd ≤ 5) → plW s kd fg = -2 := fun z => by
    unfold plW inR
    rw [if_neg (by rw [decide_eq_true_iff]; exact z)]
  have y : (0 ≤ kd ∧ kd ≤ 5) → plW s kd fg = if wbS fg 0 9 = 0 then (if s 3 = 3 then -6 else 0) else wbS fg 0 9 := fun z => by
    unfold plW inR
    rw [if_pos (by rw [decide_eq_true_iff]; exact z)]
  refine ⟨fun c => okc_f (n2 (fun z => Int32.not_lt.mpr z.1 c)) (by decide), fun c => ⟨fun c2 => ⟨fun c3 => ⟨fun c4 => okc_f ?_ (by decide), fun c4 => ⟨fun c5 => ?_, fun c5 => okc_f ?_ (by decide)⟩⟩, fun c3 => okc_f ?_ (by decide)⟩, fun c2 => okc_f (n2 (fun z => c2 z.2)) (by decide)⟩⟩
  · rw [y ⟨Int32.not_lt.mp c, c2⟩, wbS, if_neg (Int32.not_lt.mpr c3), if_pos c4]
    rfl
  · have p3 : nP s < 3 := by
      have := (nI_ltI (a := nP s) (b := 3) (by omega) (by omega)).mp c5
      omega
    have ew : plW s kd fg = 0 := by
      rw [y ⟨Int32.not_lt.mp c, c2⟩, wbS, if_neg (Int32.not_lt.mpr c3), if_neg c4, if_pos rfl, if_neg]
      rw [o.eP]
      intro z
      have := (nI_eq (a := nP s) (b := 3) (by omega) (by omega)).mp z
      omega
    have cp : (nI (nP s)).toNatClampNeg = nP s := nI_clamp (by omega)
    obtain ⟨_, _, _, _, _, _, _, _, _, pa⟩ := isSc_1
    rw [cp]
    refine ⟨vp_in_nI (by omega) (by omega), _, ct_begin (pa (nP s) p3).2 kd fg h, fun h5 q g7 e7 => okc_t ew ?_⟩
    have f5 : Fr (cS 1) h h5 := q.1.mono (fun k hk => by
      rw [List.mem_singleton.mp hk]
      simp only [cS, List.mem_cons, List.not_mem_nil, or_false]
      omega)
    have m5 : h5.1 1 5 = nI (nP s) := by
      rw [q.1.1 1 (fun z => by have := List.mem_singleton.mp z; omega), hM, o.eP]
    rw [m5, nI_1] at e7
    refine ⟨?_, fun i hi => ?_, ?_⟩
    · rw [e7, ui_aa, nI_pred]
    · rw [e7]
      have key : sC 1 (fun j => if 19 + 10 * nP s ≤ j ∧ j < 29 + 10 * nP s then bgF kd fg (j - 19 - 10 * nP s) else s j) h5 := fun j hj => by
        show h5.1 (1 + (po0 j).1) (po0 j).2 = if 19 + 10 * nP s ≤ j ∧ j < 29 + 10 * nP s then bgF kd fg (j - 19 - 10 * nP s) else s j
        by_cases c6 : 19 + 10 * nP s ≤ j ∧ j < 29 + 10 * nP s
        · have e1 : j = 19 + 10 * nP s + (j - 19 - 10 * nP s) := by omega
          have e2 := po0_f (nP s) p3 (j - 19 - 10 * nP s) (by omega)
          rw [← e1] at e2
          rw [if_pos c6, e2]
          show h5.1 (1 + (5 + nP s)) (j - 19 - 10 * nP s) = _
          rw [show 1 + (5 + nP s) = 6 + nP s by omega]
          exact q.2 _ (by omega)
        · rw [if_neg c6, q.1.1 _ (fun z => ?_)]
          · exact a j hj
          · have z := List.mem_singleton.mp z
            obtain ⟨p0, p1, p2, p3, p4⟩ := po0_k j hj
            by_cases c7 : 19 ≤ j
            · rw [p4 c7] at z
              omega
            · by_cases c8 : j < 4
              · rw [p0 c8] at z
                omega
              · by_cases c9 : j < 9
                · rw [p1 (by omega) c9] at z
                  omega
                · by_cases c10 : j < 14
                  · rw [p2 (by omega) c10] at z
                    omega
                  · rw [p3 (by omega) (by omega)] at z
                    omega
      have up := key.uM (nI (nP s + 1)) i hi
      rw [up]
      show upd _ 3 _ i = upd _ 3 _ i
      unfold upd
      by_cases c6 : i = 3
      · rw [if_pos c6, if_pos c6]
      · rw [if_neg c6, if_neg c6]
        dsimp only
        by_cases c7 : 19 + 10 * nP s ≤ i ∧ i < 29 + 10 * nP s
        · rw [if_pos c7]
          have : ∃ w, w < 10 ∧ i = 19 + 10 * nP s + w := ⟨i - 19 - 10 * nP s, by omega, by omega⟩
          obtain ⟨w, hw, ei⟩ := this
          subst ei
          rw [show 19 + 10 * nP s + w - 19 - 10 * nP s = w by omega]
          match w, hw with
          | 0, _ => simp [bgF]
          | 1, _ => simp [bgF]
          | 2, _ => simp [bgF]
          | 3, _ => simp [bgF]
          | 4, _ => simp [bgF]
          | 5, _ => simp [bgF]
          | 6, _ => simp [bgF]
          | 7, _ => simp [bgF]
          | 8, _ => simp [bgF]
          | 9, _ => simp [bgF]
        · rw [if_neg c7, if_neg (by omega), if_neg (by omega), if_neg (by omega), if_neg (by omega), if_neg (by omega), if_neg (by omega), if_neg (by omega), if_neg (by omega), if_neg (by omega), if_neg (by omega)]
    · rw [e7]
      exact f5.tr (Fr.ui (List.mem_cons_self ..))
  · have e3 : s 3 = 3 := by
      rw [o.eP]
      have : ¬ nP s < 3 := fun z => c5 ((nI_ltI (a := nP s) (b := 3) (by omega) (by omega)).mpr z)
      have : nP s = 3 := by omega
      rw [this]
      rfl
    rw [y ⟨Int32.not_lt.mp c, c2⟩, wbS, if_neg (Int32.not_lt.mpr c3), if_neg c4, if_pos rfl, if_pos e3]
  · rw [y ⟨Int32.not_lt.mp c, c2⟩, wbS, if_pos (Int32.not_le.mp c3)]
    rfl
theorem ct_setRange (p lo hi : Int32) (h : Hp) (s : Nat → Int32) (a : sC 1 s h) (o : OKs s) : CtI 1 mX5_setRange [.ref 1, .int p, .int lo, .int hi] h (okc (giW s p lo hi) h (fun v h' => v = 100 * pfS s p.toNatClampNeg 2 + pfS s p.toNatClampNeg 3 ∧ h' = ui (ui h (6 + p.toNatClampNeg) 2 lo) (6 + p.toNatClampNeg) 3 hi ∧ p.toNatClampNeg < 3)) := by
  have hP := o.hP
  refine e_X5_setRange (pc (ct_noPlant p h s a o) ⟨fun c => ?_, fun c => ?_⟩)
  · have c := nb_0.mp c
    obtain ⟨t, et, ht⟩ := isP_nI o c
    subst et
    have ct : (nI t).toNatClampNeg = t := nI_clamp (by omega)
    have vi : vp_in (nI t) 3 := vp_in_nI (by omega) (by omega)
    have dw : giW s (nI t) lo hi = if woS lo 0 30 hi 0 60 = 0 then (if lo ≤ hi then 0 else -3) else woS lo 0 30 hi 0 60 := if_pos c
    rw [ct]
    refine ⟨fun c1 => okc_f ?_ (by decide), fun c1 => ⟨fun c2 => ⟨fun c3 => okc_f ?_ (by decide), fun c3 => ⟨fun c4 => ⟨fun c5 => ⟨vi, vi, vi, fun g9 e9 => ⟨vi, fun g11 e11 => okc_t ?_ ⟨?_, ?_, by omega⟩⟩⟩, fun c5 => okc_f ?_ (by decide)⟩, fun c4 => okc_f ?_ (by decide)⟩⟩, fun c2 => okc_f ?_ (by decide)⟩⟩
    · have e : woS lo 0 30 hi 0 60 = -4 := by rw [woS, if_pos (Or.inl c1)]
      rw [dw, e]
      rfl
    · have e : woS lo 0 30 hi 0 60 = -6 := by rw [woS, if_neg (fun z => z.elim c1 (Int32.not_lt.mpr c2)), if_pos (Or.inl c3)]
      rw [dw, e]
      rfl
    · have e : woS lo 0 30 hi 0 60 = 0 := by rw [woS, if_neg (fun z => z.elim c1 (Int32.not_lt.mpr c2)), if_neg (fun z => z.elim c3 (Int32.not_lt.mpr c4))]
      rw [dw, e, if_pos rfl, if_pos c5]
    · rw [a.f1 (by omega) (by decide), a.f1 (by omega) (by decide)]
    · rw [e11, e9]
    · have e : woS lo 0 30 hi 0 60 = 0 := by rw [woS, if_neg (fun z => z.elim c1 (Int32.not_lt.mpr c2)), if_neg (fun z => z.elim c3 (Int32.not_lt.mpr c4))]
      rw [dw, e, if_pos rfl, if_neg c5]
    · have e : woS lo 0 30 hi 0 60 = -6 := by rw [woS, if_neg (fun z => z.elim c1 (Int32.not_lt.mpr c2)), if_pos (Or.inr (Int32.not_le.mp c4))]
      rw [dw, e]
      rfl
    · have e : woS lo 0 30 hi 0 60 = -4 := by rw [woS, if_pos (Or.inr (Int32.not_le.mp c2))]
      rw [dw, e]
      rfl
  · exact okc_f (if_neg (noF (nb_1.mp c))) (by decide)
theorem ct_setCosts (p x y z : Int32) (h : Hp) (s : Nat → Int32) (a : sC 1 s h) (o : OKs s) : CtI 1 mX5_setCosts [.ref 1, .int p, .int x, .int y, .int z] h (okc (coW s p x y z) h (fun v h' => v = 10000 * pfS s p.toNatClampNeg 4 + 100 * pfS s p.toNatClampNeg 5 + pfS s p.toNatClampNeg 6 ∧ h' = ui (ui (ui h (6 + p.toNatClampNeg) 4 x) (6 + p.toNatClampNeg) 5 y) (6 + p.toNatClampNeg) 6 z ∧ p.toNatClampNeg < 3)) := by
  have hP := o.hP
  refine e_X5_setCosts (pc (ct_noPlant p h s a o) ⟨fun c => ?_, fun c => ?_⟩)
  · have c := nb_0.mp c
    obtain ⟨t, et, ht⟩ := isP_nI o c
    subst et
    have ct : (nI t).toNatClampNeg = t := nI_clamp (by omega)
    have vi : vp_in (nI t) 3 := vp_in_nI (by omega) (by omega)
    have dw : coW s (nI t) x y z = if x < 0 ∨ y < 0 ∨ z < 0 then -4 else if 9 < x ∨ 30 < y ∨ 50 < z then -6 else 0 := if_pos c
    rw [ct]
    refine ⟨fun c1 => okc_f ?_ (by decide), fun c1 => ⟨fun c2 => okc_f ?_ (by decide), fun c2 => ⟨fun c3 => ⟨fun c4 => okc_f ?_ (by decide), fun c4 => ⟨fun c5 => okc_f ?_ (by decide), fun c5 => ⟨fun c6 => ⟨vi, vi, vi, vi, fun g10 e10 => ⟨vi, fun g12 e12 => ⟨vi, fun g14 e14 => okc_t ?_ ⟨?_, ?_, by omega⟩⟩⟩⟩, fun c6 => okc_f ?_ (by decide)⟩⟩⟩, fun c3 => okc_f ?_ (by decide)⟩⟩⟩
    · rw [dw, if_pos (Or.inl c1)]
    · rw [dw, if_pos (Or.inr (Or.inl c2))]
    · rw [dw, if_neg (fun w => w.elim c1 (fun w => w.elim c2 (Int32.not_lt.mpr c3))), if_pos (Or.inl c4)]
    · rw [dw, if_neg (fun w => w.elim c1 (fun w => w.elim c2 (Int32.not_lt.mpr c3))), if_pos (Or.inr (Or.inl c5))]
    · rw [dw, if_neg (fun w => w.elim c1 (fun w => w.elim c2 (Int32.not_lt.mpr c3))), if_neg (fun w => w.elim c4 (fun w => w.elim c5 (Int32.not_lt.mpr c6)))]
    · rw [a.f1 (by omega) (by decide), a.f1 (by omega) (by decide), a.f1 (by omega) (by decide)]
    · rw [e14, e12, e10]
    · rw [dw, if_neg (fun w => w.elim c1 (fun w => w.elim c2 (Int32.not_lt.mpr c3))), if_pos (Or.inr (Or.inr (Int32.not_le.mp c6)))]
    · rw [dw, if_pos (Or.inr (Or.inr (Int32.not_le.mp c3)))]
  · exact okc_f (if_neg (noF (nb_1.mp c))) (by decide)
theorem ct_setTimes (p x y : Int32) (h : Hp) (s : Nat → Int32) (a : sC 1 s h) (o : OKs s) : CtI 1 mX5_setTimes [.ref 1, .int p, .int x, .int y] h (okc (tiW s p x y) h (fun v h' => v = 10 * pfS s p.toNatClampNeg 7 + pfS s p.toNatClampNeg 8 ∧ h' = ui (ui h (6 + p.toNatClampNeg) 7 x) (6 + p.toNatClampNeg) 8 y ∧ p.toNatClampNeg < 3)) := by
  have hP := o.hP
  refine e_X5_setTimes (pc (ct_noPlant p h s a o) ⟨fun c => ?_, fun c => ?_⟩)
  · have c := nb_0.mp c
    obtain ⟨t, et, ht⟩ := isP_nI o c
    subst et
    have ct : (nI t).toNatClampNeg = t := nI_clamp (by omega)
    have vi : vp_in (nI t) 3 := vp_in_nI (by omega) (by omega)
    have dw : tiW s (nI t) x y = woS x 1 3 y 1 3 := if_pos c
    rw [ct]
    refine ⟨fun c1 => okc_f ?_ (by decide), fun c1 => ⟨fun c2 => ⟨fun c3 => okc_f ?_ (by decide), fun c3 => ⟨fun c4 => ⟨vi, vi, vi, fun g9 e9 => ⟨vi, fun g11 e11 => okc_t ?_ ⟨?_, ?_, by omega⟩⟩⟩, fun c4 => okc_f ?_ (by decide)⟩⟩, fun c2 => okc_f ?_ (by decide)⟩⟩
    · rw [dw, woS, if_pos (Or.inl c1)]
    · rw [dw, woS, if_neg (fun w => w.elim c1 (Int32.not_lt.mpr c2)), if_pos (Or.inl c3)]
    · rw [dw, woS, if_neg (fun w => w.elim c1 (Int32.not_lt.mpr c2)), if_neg (fun w => w.elim c3 (Int32.not_lt.mpr c4))]
    · rw [a.f1 (by omega) (by decide), a.f1 (by omega) (by decide)]
    · rw [e11, e9]
    · rw [dw, woS, if_neg (fun w => w.elim c1 (Int32.not_lt.mpr c2)), if_pos (Or.inr (Int32.not_le.mp c4))]
    · rw [dw, woS, if_pos (Or.inr (Int32.not_le.mp c2))]
  · exact okc_f (if_neg (noF (nb_1.mp c))) (by decide)
theorem ct_setAge (p x : Int32) (h : Hp) (s : Nat → Int32) (a : sC 1 s h) (o : OKs s) : CtI 1 mX5_setAge [.ref 1, .int p, .int x] h (okc (agW s p x) h (fun v h' => v = pfS s p.toNatClampNeg 9 + 10 ∧ h' = ui h (6 + p.toNatClampNeg) 9 x ∧ p.toNatClampNeg < 3)) := by
  have hP := o.hP
  refine e_X5_setAge (pc (ct_noPlant p h s a o) ⟨fun c => ?_, fun c => ?_⟩)
  · have c := nb_0.mp c
    obtain ⟨t, et, ht⟩ := isP_nI o c
    subst et
    have ct : (nI t).toNatClampNeg = t := nI_clamp (by omega)
    have vi : vp_in (nI t) 3 := vp_in_nI (by omega) (by omega)
    have dw : agW s (nI t) x = if wbS x (-4) 4 = 0 then (if x = 0 then -3 else 0) else wbS x (-4) 4 := if_pos c
    rw [ct]
    refine ⟨fun c1 => ⟨fun c2 => ⟨fun c3 => ⟨vi, vi, fun g8 e8 => okc_t ?_ ⟨?_, e8, by omega⟩⟩, fun c3 => okc_f ?_ (by decide)⟩, fun c2 => okc_f ?_ (by decide)⟩, fun c1 => okc_f ?_ (by decide)⟩
    · rw [dw, wbS, if_neg (Int32.not_lt.mpr c1), if_neg (Int32.not_lt.mpr c2), if_pos rfl, if_neg c3]
    · rw [a.f1 (by omega) (by decide)]
    · rw [dw, wbS, if_neg (Int32.not_lt.mpr c1), if_neg (Int32.not_lt.mpr c2), if_pos rfl, if_pos c3]
    · rw [dw, wbS, if_neg (Int32.not_lt.mpr c1), if_pos (Int32.not_le.mp c2)]
      rfl
    · rw [dw, wbS, if_pos (Int32.not_le.mp c1)]
      rfl
  · exact okc_f (if_neg (noF (nb_1.mp c))) (by decide)
