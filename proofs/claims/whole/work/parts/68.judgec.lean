/-! ===== the class: judge, what a list is, lots ===== -/
theorem ct_setAtL {l t k P : Nat} (hl : l < 4) (hk : k ≤ 20) (hP : P ≤ 3) (hPk : P ≤ k) (h : Hp) (z it : Nat → Int32) (L : lsI z it h) (hz : z l = nI k) : CtI 0 mX1_setAt [.ref (69 + 2 * l), .int (nI t), .int (nI P)] h (pq (nI (bitsN (seL it l t) P)) h) := by
  obtain ⟨k1, -⟩ := isLn_l l hl
  have e1 : h.1 (69 + 2 * l) 1 = nI k := by rw [(L l hl).1, hz, if_neg (m9_pos (by omega))]
  have lp : ∀ n p : Nat, n + p = P → GoI 0 mX1_setAt 5 [(0, .ref (69 + 2 * l)), (1, .int (nI t)), (2, .int (nI P)), (3, .int (nI (bitsN (seL it l t) p))), (4, .int (nI p))] [] h (pq (nI (bitsN (seL it l t) P)) h) := by
    intro n
    induction n with
    | zero =>
      intro p hp
      have hp : p = P := by omega
      subst hp
      exact b_X1_setAt_5 k1 ⟨fun _ => ⟨rfl, rfl⟩, fun c => absurd (nI_le (by omega) (by omega)) c⟩
    | succ n ih =>
      intro p hp
      refine b_X1_setAt_5 k1 ⟨fun c => absurd c (nI_ge (by omega) (by omega)), fun _ => ⟨fun c => absurd c (by rw [e1]; exact nI_ge (by omega) (by omega)), fun _ => ⟨vp_in_nI (by omega) (by omega), ?_⟩⟩⟩
      rw [nI_clamp (show p < 2 ^ 31 by omega), show 69 + 2 * l + 1 = 70 + 2 * l by omega, (L l hl).2 p (by omega), bit_bI, bI_shl _ p (by omega), nI_1]
      have := bitsN_or2 (g := seL it l t) (t := p) (by omega) _ rfl
      rw [show (if decide ((it (20 * l + p) >>> (nI t &&& 31)) &&& 1 = 1) = true then (1 : Int32) <<< (nI p &&& 31) else 0) = (if seL it l t p = true then (1 : Int32) <<< (nI p &&& 31) else 0) from rfl, this]
      exact ih (p + 1) (by omega)
  exact e_X1_setAt k1 (lp P 0 rfl)
theorem wk_sub : ∀ k, k ∈ 37 :: dcs → k ∈ scC := by decide
theorem ps_sub : ∀ k, k ∈ [35, 37] → k ∈ scC := by decide
set_option maxHeartbeats 1000000 in
theorem ct_judgeC (l : Int32) (h : Hp) (s : Nat → Int32) (k : kI s h) (z it : Nat → Int32) (L : lsI z it h) (hz : okZ z) : CtI 5 mX10_judge [.ref 0, .int l] h (okx (if inR l 0 3 then 0 else -1) h (fun v g => v = juV s z it l.toNatClampNeg ∧ frC h g)) := by
  have hP := k.i.o.hP
  have hH := k.i.o.hH
  refine e_X10_judge (pc (ct_noList l h) ⟨fun c => ?_, fun c => rfx (ite_f (nb_1.mp c)) isW_1 (by decide)⟩)
  have c := nb_0.mp c
  obtain ⟨l', et, ht⟩ := isL_nI c
  subst et
  rw [nI_clamp (show l' < 2 ^ 31 by omega)]
  have sz := ls_sz L hz ht
  refine ⟨vp_in_nI (by omega) (by omega), fun c2 => ?_, fun c2 => okx_t (if_pos c) ⟨?_, frC.rf k⟩⟩
  · obtain ⟨n9, K, hK, eK, e1⟩ := sz.1 c2
    rw [e1, k.c.M, k.i.o.eP]
    have ej : juV s z it l' = if nI (nP s) ≤ nI K then fwV s it l' else 100 + nI K := by
      unfold juV
      rw [if_neg n9, eK, k.i.o.eP]
    rw [ej]
    refine ⟨fun c3 => ⟨_, ct_walkBegin h s k.c k.i, fun h10 w => ?_⟩, fun c3 => okx_t (if_pos c) ⟨by rw [if_neg c3], frC.rf k⟩⟩
    have hPK : nP s ≤ K := (nI_leI (by omega) (by omega)).mp c3
    rw [if_pos c3]
    have lp : ∀ n t : Nat, n + t = nH s → ∀ (a : Nat → Int32) (g : Hp), frC h g → wkI s a g → (∀ p, p < nP s → aR (4 + t) (a p)) → fwR s it l' n t a = fwV s it l' → GoI 5 mX10_judge 61 [(0, .ref 0), (2, .ref (69 + 2 * l')), (3, .int (nI t))] [] g (okx (if inR (nI l') 0 3 then 0 else -1) h (fun v g => v = fwV s it l' ∧ frC h g)) := by
      intro n
      induction n with
      | zero =>
        intro t htn a g f wk ar er
        have kg := k.fr f
        refine b_X10_judge_61 (isLn_l l' ht).1 ⟨fun _ => okx_t (if_pos c) ⟨er, f⟩, fun y => absurd ?_ y⟩
        rw [kg.c.H, k.i.o.eH]
        exact nI_le (by omega) (by omega)
      | succ n ih =>
        intro t htn a g f wk ar er
        have kg := k.fr f
        refine b_X10_judge_61 (isLn_l l' ht).1 ⟨fun y => absurd y ?_, fun _ => ?_⟩
        · rw [kg.c.H, k.i.o.eH]
          exact nI_ge (by omega) (by omega)
        · rw [kg.c.M, k.i.o.eP]
          refine pc (ct_setAtL (t := t) ht hK hP hPK g z it (L.fr f.1 (by decide)) eK) ?_
          have a9 : ∀ p, p < nP s → aR 9 (a p) := fun p hp => (ar p hp).mono (by omega)
          refine ⟨_, ct_pass (by decide) (by omega) _ g s kg.c kg.i a a9 wk, fun v h9 q => ?_⟩
          obtain ⟨p1, p2, p3, -⟩ := q
          have f9 : frC h h9 := f.add p2 ps_sub (by decide)
          have ng := tdV_neg (dm := 99) (rm := 20) (by decide) k.i a9 (show t < 5 by omega) (x := nI (bitsN (seL it l' t) (nP s)))
          have er2 : (if okT s a t (nI (bitsN (seL it l' t) (nP s))) then fwR s it l' n (t + 1) (goX a (nI (bitsN (seL it l' t) (nP s)))) else nI t) = fwV s it l' := er
          rw [p1]
          cases y : okT s a t (nI (bitsN (seL it l' t) (nP s)))
          · rw [y] at er2
            exact ⟨fun w => absurd (ng.mpr y) (Int32.not_lt.mpr w), fun _ => okx_t (if_pos c) ⟨er2, f9⟩⟩
          · rw [y, if_pos rfl] at er2
            refine ⟨fun _ => ?_, fun w => absurd (Int32.not_lt.mp (fun w2 => noF (ng.mp w2) y)) w⟩
            rw [nI_1]
            exact ih (t + 1) (by omega) _ h9 f9 (p3 y) (fun p hp => aR_go (by omega) (ar p hp) _) er2
    exact lp (nH s) 0 rfl _ h10 ((frC.rf k).add w.2 wk_sub (by decide)) w.1 (fun p hp => plI_age (k.i.f hp)) rfl
  · rw [juV, if_pos (sz.2 c2)]
theorem soR_f {it : Nat → Int32} {l : Nat} {kd fg st : Int32} {n : Nat} (h : soR it l kd fg st n = false) : ∀ m, soR it l kd fg st (n + m) = false
  | 0 => h
  | m + 1 => by
    rw [← Nat.add_assoc, soR, soR_f h m]
    rfl
theorem ct_tellsStarts {l k kd : Nat} (hl : l < 4) (hk : k ≤ 20) (hkd : kd < 6) (fg st : Int32) (h : Hp) (z it : Nat → Int32) (L : lsI z it h) (hz : z l = nI k) : CtI 2 mX1_tellsStarts [.ref (69 + 2 * l), .int (nI kd), .int fg, .int st] h (pq (bI (soR it l (nI kd) fg st k)) h) := by
  obtain ⟨k1, -⟩ := isLn_l l hl
  have e1 : h.1 (69 + 2 * l) 1 = nI k := by rw [(L l hl).1, hz, if_neg (m9_pos (by omega))]
  have lp : ∀ n j : Nat, n + j = k → soR it l (nI kd) fg st j = true → GoI 2 mX1_tellsStarts 3 [(0, .ref (69 + 2 * l)), (1, .int (nI kd)), (2, .int fg), (3, .int st), (4, .int (nI j))] [] h (pq (bI (soR it l (nI kd) fg st k)) h) := by
    intro n
    induction n with
    | zero =>
      intro j hj sj
      have hj : j = k := by omega
      subst hj
      refine b_X1_tellsStarts_3 k1 ⟨fun _ => ⟨by rw [sj]; rfl, rfl⟩, fun c => absurd ?_ c⟩
      rw [e1]
      exact nI_le (by omega) (by omega)
    | succ n ih =>
      intro j hj sj
      refine b_X1_tellsStarts_3 k1 ⟨fun c => absurd c ?_, fun _ => ⟨vp_in_nI (by omega) (by omega), ?_⟩⟩
      · rw [e1]
        exact nI_ge (by omega) (by omega)
      · rw [nI_1]
        refine pc (ct_startOf (nI kd) fg st (nI (j + 1)) h) ?_
        rw [nI_clamp (show j < 2 ^ 31 by omega), show 69 + 2 * l + 1 = 70 + 2 * l by omega, (L l hl).2 j (by omega), stC_eq _ _ _ kd hkd]
        refine ⟨fun c => ih (j + 1) (by omega) ?_, fun c => ?_⟩
        · rw [soR, sj, decide_eq_true c]
          rfl
        · have f1 : soR it l (nI kd) fg st (j + 1) = false := by
            rw [soR, decide_eq_false c, Bool.and_false]
          have f2 := soR_f f1 (k - (j + 1))
          rw [show j + 1 + (k - (j + 1)) = k by omega] at f2
          rw [f2]
          exact ⟨rfl, rfl⟩
  exact e_X1_tellsStarts k1 (lp k 0 rfl rfl)
set_option maxHeartbeats 1000000 in
theorem ct_whatIsC (l p what : Int32) (h : Hp) (s : Nat → Int32) (a : sC 1 s h) (i : InS s) (z it : Nat → Int32) (L : lsI z it h) (hz : okZ z) : CtI 3 mX10_whatIs [.ref 0, .int l, .int p, .int what] h (okx (wiW s l p what) h (fun v g => v = wiV s z it l.toNatClampNeg p.toNatClampNeg what ∧ g = h)) := by
  have hP := i.o.hP
  refine e_X10_whatIs (pc (ct_noList l h) ⟨fun c => rfx (ite_f (nb_1.mp c)) isW_1 (by decide), fun c => pc (ct_noPlant p h s a i.o) ⟨fun cp => ?_, fun cp => rfx ?_ isW_1 (by decide)⟩⟩)
  · have c := nb_0.mp c
    have cp := nb_0.mp cp
    obtain ⟨l', et, ht⟩ := isL_nI c
    obtain ⟨q, eq, hq⟩ := isP_nI i.o cp
    have ew : wiW s l p what = if inR what 0 1 then 0 else -2 := by rw [wiW, if_pos c, if_pos cp]
    subst et
    subst eq
    rw [nI_clamp (show l' < 2 ^ 31 by omega), nI_clamp (show q < 2 ^ 31 by omega)]
    have sz := ls_sz L hz ht
    refine ⟨fun c1 => rfx (ew.trans (ite_f (in_l (lt0 c1)))) isW_2 (by decide), fun c1 => ⟨fun c2 => ⟨vp_in_nI (by omega) (by omega), fun c3 => ⟨vp_in_nI (by omega) (by omega), ?_⟩, fun c3 => ?_⟩, fun c2 => rfx (ew.trans (ite_f (in_h c2))) isW_2 (by decide)⟩⟩
    · have ci : inR what 0 1 = true := in_i (nlt0 c1) c2
      have ew0 : wiW s (nI l') (nI q) what = 0 := ew.trans (if_pos ci)
      obtain ⟨n9, K, hK, eK, e1⟩ := sz.1 c3
      have eV : wiV s z it l' q what = nI (bitsN (wiG s it l' q what K) (wiK what)) := by
        unfold wiV
        rw [if_neg n9, eK, nI_clamp (show K < 2 ^ 31 by omega)]
      rw [eV]
      have eKK : (if what = 0 then (6 : Int32) else 10) = nI (wiK what) := by
        unfold wiK
        by_cases y : what = 0
        · rw [if_pos y, if_pos y]
          rfl
        · rw [if_neg y, if_neg y]
          rfl
      have hKK : wiK what ≤ 10 := by
        unfold wiK
        by_cases y : what = 0
        · rw [if_pos y]
          decide
        · rw [if_neg y]
          decide
      have k1 := (isLn_l l' ht).1
      have k2 := isPl_6 q (by omega)
      have ae := a.e (p := q) (by omega)
      obtain ⟨kk, hkk, ekk⟩ := (i.f hq).1
      have lp : ∀ n j : Nat, n + j = wiK what → GoI 3 mX10_whatIs 76 [(3, .int what), (4, .ref (69 + 2 * l')), (5, .ref (6 + q)), (6, .int (nI (bitsN (wiG s it l' q what K) j))), (7, .int (nI j))] [] h (okx (wiW s (nI l') (nI q) what) h (fun v g => v = nI (bitsN (wiG s it l' q what K) (wiK what)) ∧ g = h)) := by
        intro n
        induction n with
        | zero =>
          intro j hj
          have hj : j = wiK what := by omega
          subst hj
          refine b_X10_whatIs_76 k1 k2 ⟨fun _ => okx_t ew0 ⟨rfl, rfl⟩, fun c5 => absurd ?_ c5⟩
          rw [eKK]
          exact nI_le (by omega) (by omega)
        | succ n ih =>
          intro j hj
          have ih2 := ih (j + 1) (by omega)
          have s122 : ∀ (kd : Nat) (fg : Int32), kd < 6 → soR it l' (nI kd) fg (pfS s q 6) K = wiG s it l' q what K j → GoI 3 mX10_whatIs 122 [(3, .int what), (4, .ref (69 + 2 * l')), (5, .ref (6 + q)), (6, .int (nI (bitsN (wiG s it l' q what K) j))), (7, .int (nI j)), (8, .int (nI kd))] [.int fg] h (okx (wiW s (nI l') (nI q) what) h (fun v g => v = nI (bitsN (wiG s it l' q what K) (wiK what)) ∧ g = h)) := by
            intro kd fg hkd eg
            refine b_X10_whatIs_122 k1 k2 ?_
            rw [ae 6 (by decide)]
            refine pc (ct_tellsStarts ht hK hkd fg (pfS s q 6) h z it L eK) ?_
            rw [eg]
            have o3 := bitsN_or3 (g := wiG s it l' q what K) (t := j) (by omega)
            refine ⟨fun c5 => b_X10_whatIs_150 k1 k2 ?_, fun c5 => b_X10_whatIs_150 k1 k2 ?_⟩
            · have e0 := o3 0 (by rw [if_neg (noF (bI_0.mp c5))])
              rw [Int32.or_zero] at e0
              rw [e0, nI_1]
              exact ih2
            · rw [o3 _ (by rw [if_pos (bI_t c5)]), nI_1]
              exact ih2
          refine b_X10_whatIs_76 k1 k2 ⟨fun c5 => absurd c5 ?_, fun _ => ⟨fun w => b_X10_whatIs_106 k1 k2 ⟨fun _ => ?_, fun w2 => absurd w2 w⟩, fun w => b_X10_whatIs_106 k1 k2 ⟨fun w2 => absurd w w2, fun _ => ?_⟩⟩⟩
          · rw [eKK]
            exact nI_ge (by omega) (by omega)
          · rw [ae 0 (by decide), ekk]
            refine s122 kk (nI j) hkk ?_
            rw [wiG, if_neg w, ekk]
          · rw [ae 1 (by decide)]
            have : wiK what = 6 := if_pos w
            refine s122 j _ (by omega) ?_
            rw [wiG, if_pos w]
      exact lp (wiK what) 0 rfl
    · refine okx_t (ew.trans (if_pos (in_i (nlt0 c1) c2))) ⟨?_, rfl⟩
      rw [wiV, if_pos (sz.2 c3)]
  · rw [wiW, if_pos (nb_0.mp c)]
    exact ite_f (nb_1.mp cp)
/-! lots -/
theorem drD_b (z : Int32) : ∃ k : Nat, k ≤ 99 ∧ drD z = nI k := by
  obtain ⟨j, hj, ej⟩ := pk_andE z (m := 2147483647) 31 (by decide)
  unfold drD
  rw [ej, show (256 : Int32) = nI 256 from rfl, pk_div (by omega) (by omega) (by omega), show (100 : Int32) = nI 100 from rfl, pk_rem (by omega) (by omega) (by omega)]
  have := Nat.mod_lt (j / 256) (show 0 < 100 by omega)
  exact ⟨j / 256 % 100, by omega, rfl⟩
/-- drawn over a row that may hold other demands within the span -/
theorem loS_c {s s2 : Nat → Int32} (z : Int32) : ∀ t, (loS s2 z t).2 = (loS s z t).2 ∧ ∀ i, (s2 i = s i ∨ (4 ≤ i ∧ i < 4 + t)) → (loS s2 z t).1 i = (loS s z t).1 i
  | 0 => ⟨rfl, fun i hi => by
    rcases hi with e | e
    · exact e
    · omega⟩
  | t + 1 => by
    obtain ⟨h1, h2⟩ := loS_c (s := s) (s2 := s2) z t
    refine ⟨?_, fun i hi => ?_⟩
    · show lsD (loS s2 z t).2 = lsD (loS s z t).2
      rw [h1]
    · show upd (loS s2 z t).1 (4 + t) (drD (lsD (loS s2 z t).2)) i = upd (loS s z t).1 (4 + t) (drD (lsD (loS s z t).2)) i
      rw [h1]
      by_cases e : i = 4 + t
      · rw [e, upd_at, upd_at]
      · rw [upd_ne _ _ e, upd_ne _ _ e]
        refine h2 i ?_
        rcases hi with y | y
        · exact Or.inl y
        · exact Or.inr (by omega)
theorem loS_b (s : Nat → Int32) (z : Int32) : ∀ t, t ≤ 5 → ∀ u, u < t → ∃ k : Nat, k ≤ 99 ∧ (loS s z t).1 (4 + u) = nI k
  | 0, _, u, hu => by omega
  | t + 1, ht, u, hu => by
    show ∃ k : Nat, k ≤ 99 ∧ upd (loS s z t).1 (4 + t) (drD (lsD (loS s z t).2)) (4 + u) = nI k
    by_cases e : u = t
    · rw [e, upd_at]
      exact drD_b _
    · rw [upd_ne _ _ (by omega)]
      exact loS_b s z t (by omega) u (by omega)
theorem svE_lo {s : Nat → Int32} (z : Int32) {t : Nat} (ht : t ≤ 5) : svE (loS s z t).1 s := fun j hj => loS_ne s z t j (by omega)
set_option maxHeartbeats 1000000 in
theorem ct_lotsC (n z what : Int32) (h : Hp) (s : Nat → Int32) (k : kI s h) : CtI 5 mX10_lots [.ref 0, .int n, .int z, .int what] h (okx (loW n what) h (fun v g => v = loV s n z what ∧ frC h g)) := by
  have hP := k.i.o.hP
  have hH := k.i.o.hH
  refine e_X10_lots ⟨fun c1 => ⟨fun c2 => ⟨fun c3 => ?_, fun c3 => ⟨fun c4 => ?_, fun c4 => ?_⟩⟩, fun c2 => rfx ?_ isW_6 (by decide)⟩, fun c1 => rfx ?_ isW_4 (by decide)⟩
  · refine rfx (x := -2) ?_ isW_2 (by decide)
    rw [loW, if_pos (wb_i c1 c2)]
    exact ite_f (in_l (lt0 c3))
  · have w0 := wb_i c1 c2
    have c0 : loW n what = 0 := by
      rw [loW, if_pos w0]
      exact if_pos (in_i (nlt0 c3) c4)
    obtain ⟨N, eN, lN⟩ := wb_nI1 (m := 20) (by decide) w0
    subst eN
    have cl : (nI N).toNatClampNeg = N := nI_clamp (by omega)
    have lp : ∀ m j : Nat, m + j = N → ∀ (x c5 c6 : Int32) (s2 : Nat → Int32) (g : Hp), frC h g → (∀ i, (i < 4 ∨ 4 + nH s ≤ i) → s2 i = s i) → loR (nH s) what m s2 x (if what = 0 then c5 else c6) = loV s (nI N) z what → GoI 5 mX10_lots 53 [(0, .ref 0), (1, .int (nI N)), (3, .int what), (4, .int x), (5, .int c5), (6, .int c6), (7, .int (nI j))] [] g (okx (loW (nI N) what) h (fun v g => v = loV s (nI N) z what ∧ frC h g)) := by
      intro m
      induction m with
      | zero =>
        intro j hj x c5 c6 s2 g f _ er
        rw [loR] at er
        refine b_X10_lots_53 ⟨fun _ => ⟨fun w => okx_t c0 ⟨?_, f⟩, fun w => okx_t c0 ⟨?_, f⟩⟩, fun w => absurd (nI_le (by omega) (by omega)) w⟩
        · rw [← er, if_neg w]
        · rw [← er, if_pos w]
      | succ m ih =>
        intro j hj x c5 c6 s2 g f eo er
        rw [loR] at er
        obtain ⟨y1, y2⟩ := loS_c (s := s) (s2 := s2) x (nH s)
        have eS : (loS s2 x (nH s)).1 = (loS s x (nH s)).1 := funext fun i => y2 i (by
          by_cases w : i < 4 ∨ 4 + nH s ≤ i
          · exact Or.inl (eo i w)
          · exact Or.inr (by omega))
        rw [y1, eS] at er
        have eo' : ∀ i, (i < 4 ∨ 4 + nH s ≤ i) → (loS s x (nH s)).1 i = s i := fun i hi => loS_ne s x (nH s) i hi
        have sv : svE (loS s x (nH s)).1 s := svE_lo x hH
        have i2 : InL 100 80 (loS s x (nH s)).1 := InL_sv sv k.i (fun t ht => by
          obtain ⟨⟨a, a1, a2⟩, ⟨b, b1, b2⟩, -⟩ := k.i.2.1 t ht
          refine ⟨?_, b, by omega, (loS_ne s x (nH s) _ (by omega)).trans b2⟩
          by_cases w : t < nH s
          · obtain ⟨q, q1, q2⟩ := loS_b s x (nH s) hH t w
            exact ⟨q, by omega, q2⟩
          · exact ⟨a, by omega, (loS_ne s x (nH s) _ (by omega)).trans a2⟩)
        have kg := k.fr f
        refine b_X10_lots_53 ⟨fun w => absurd w (nI_ge (by omega) (by omega)), fun _ => ⟨_, ct_loadK g s kg, fun h4 l => ?_⟩⟩
        obtain ⟨l1, l2, l3⟩ := l
        have inn : ∀ q t : Nat, q + t = nH s → ∀ g2 : Hp, frC h g2 → (∀ u, u < 5 → g2.1 39 u = (loS s x t).1 (4 + u) ∧ g2.1 40 u = s (9 + u)) → g2.1 38 4 = nI (2 ^ nP s - 1) → GoI 5 mX10_lots 69 [(0, .ref 0), (1, .int (nI N)), (3, .int what), (4, .int (loS s x t).2), (5, .int c5), (6, .int c6), (7, .int (nI j)), (8, .int (nI t))] [] g2 (okx (loW (nI N) what) h (fun v g => v = loV s (nI N) z what ∧ frC h g)) := by
          intro q
          induction q with
          | zero =>
            intro t ht g2 f2 hd h38
            have ht : t = nH s := by omega
            subst ht
            have kg2 := k.fr f2
            have th : thI (loS s x (nH s)).1 0 g2 := by
              obtain ⟨th, h1, h2, h3⟩ := thI_0 (s := s) hP h38
              exact ⟨th, h1, h2, fun p hp => (h3 p hp).trans (sv.pr 0 p).symm⟩
            refine b_X10_lots_69 ⟨fun _ => ⟨_, ct_solveK g2 s _ kg2 i2 sv (fun u hu => ⟨(hd u hu).1, (hd u hu).2.trans (loS_ne s x (nH s) _ (by omega)).symm⟩) th, fun v h22 p => ?_⟩, fun w => absurd ?_ w⟩
            · obtain ⟨p1, p2, p3, -⟩ := p
              have f22 := f2.tr p2
              have sg := sgn p3
              refine ⟨fun w => b_X10_lots_146 ?_, fun w => b_X10_lots_146 ?_⟩
              · have n9 := sg.2.mp w
                rw [p1] at n9
                rw [nI_1]
                refine ih (j + 1) (by omega) _ c5 c6 _ h22 f22 eo' ?_
                rw [loT, if_pos n9, Int32.add_zero] at er
                exact er
              · have n9 : ¬ v = -9 := fun y => w (sg.2.mpr y)
                rw [p1] at n9
                rw [nI_1]
                refine ih (j + 1) (by omega) _ (c5 + 1) (c6 + v) _ h22 f22 eo' ?_
                rw [loT, if_neg n9] at er
                rw [← er, p1]
                by_cases w0 : what = 0
                · rw [if_pos w0, if_pos w0, if_pos w0]
                · rw [if_neg w0, if_neg w0, if_neg w0]
            · rw [kg2.c.H, k.i.o.eH]
              exact nI_le (by omega) (by omega)
          | succ q ihq =>
            intro t ht g2 f2 hd h38
            have kg2 := k.fr f2
            refine b_X10_lots_69 ⟨fun w => absurd w ?_, fun _ => ⟨vp_in_nI (by omega) (by omega), fun g7 e7 => ?_⟩⟩
            · rw [kg2.c.H, k.i.o.eH]
              exact nI_ge (by omega) (by omega)
            · rw [nI_clamp (show t < 2 ^ 31 by omega)] at e7
              rw [nI_1]
              refine ihq (t + 1) (by omega) g7 ?_ (fun u hu => ⟨?_, ?_⟩) ?_
              · rw [e7]
                exact f2.add (X := [39]) (Fr.ui (by decide)) (by decide) (by decide)
              · rw [e7, ui_get]
                show _ = upd (loS s x t).1 (4 + t) (drD (lsD (loS s x t).2)) (4 + u)
                by_cases w : u = t
                · rw [if_pos ⟨rfl, w⟩, w, upd_at]
                  rfl
                · rw [if_neg (fun y => w y.2), upd_ne _ _ (by omega)]
                  exact (hd u hu).1
              · rw [e7, ui_ne (by decide)]
                exact (hd u hu).2
              · rw [e7, ui_ne (by decide)]
                exact h38
        exact inn (nH s) 0 rfl h4 (f.tr l1) (fun u hu => l2 u hu) l3
    refine lp N 0 rfl z 0 0 s h (frC.rf k) (fun i _ => rfl) ?_
    rw [loV, cl]
    congr 1
    by_cases w : what = 0
    · rw [if_pos w]
    · rw [if_neg w]
  · refine rfx (x := -2) ?_ isW_2 (by decide)
    rw [loW, if_pos (wb_i c1 c2)]
    exact ite_f (in_h c4)
  · rw [loW, wb_h c1 c2, if_neg (by decide)]
  · rw [loW, wb_l c1, if_neg (by decide)]
