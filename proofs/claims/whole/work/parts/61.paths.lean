/-! ===== paths of the plan's machine are plans ===== -/
theorem agS_ext {a : Int32} {b b' : Nat → Bool} : ∀ k, (∀ j, j < k → b j = b' j) → agS a b k = agS a b' k
  | 0, _ => rfl
  | k + 1, h => by
    unfold agS
    rw [agS_ext k (fun j hj => h j (by omega)), h k (by omega)]
/-- the costs of an hour look at plants there are alone -/
theorem canF_on {P : Nat} {fs : Nat → Nat → Int32} {dem res : Int32} {on on' fr fr' : Nat → Bool} (h : ∀ p, p < P → on p = on' p ∧ fr p = fr' p) : canF P fs dem res on fr = canF P fs dem res on' fr' := by
  unfold canF
  rw [sumI_congr (f := lsT fs on) (g := lsT fs on') P (fun k hk => by unfold lsT; rw [(h k hk).1]), sumI_congr (f := msT fs on fr) (g := msT fs on' fr') P (fun k hk => by unfold msT; rw [(h k hk).1, (h k hk).2])]
theorem lf0_on {fs : Nat → Nat → Int32} {dem : Int32} {on on' : Nat → Bool} : ∀ P, (∀ p, p < P → on p = on' p) → lf0 fs on dem P = lf0 fs on' dem P
  | 0, _ => rfl
  | P + 1, h => by
    unfold lf0
    rw [lf0_on P (fun p hp => h p (by omega)), lsT, lsT, h P (by omega)]
theorem ou0_on {fs : Nat → Nat → Int32} {on on' : Nat → Bool} {g : Nat → Int32} : ∀ P, (∀ p, p < P → on p = on' p) → ou0 fs on g P = ou0 fs on' g P
  | 0, _ => rfl
  | P + 1, h => by
    unfold ou0
    rw [ou0_on P (fun p hp => h p (by omega)), lsT, lsT, h P (by omega)]
theorem shR_on {P : Nat} {fs : Nat → Nat → Int32} {on on' fr fr' : Nat → Bool} {or : Nat → Nat} {st : Int32 × (Nat → Int32)} (h : ∀ p, p < P → on p = on' p ∧ fr p = fr' p) : ∀ k, (∀ j, j < k → or j < P) → shR fs on fr or st k = shR fs on' fr' or st k
  | 0, _ => rfl
  | k + 1, ho => by
    unfold shR
    rw [shR_on h k (fun j hj => ho j (by omega))]
    unfold shT
    rw [(h _ (ho k (by omega))).1, (h _ (ho k (by omega))).2]
theorem coE_on {P : Nat} {mr : Int32} {fs : Nat → Nat → Int32} {dem res : Int32} {on on' fr fr' : Nat → Bool} (h : ∀ p, p < P → on p = on' p ∧ fr p = fr' p) : coE P mr fs dem res on fr = coE P mr fs dem res on' fr' := by
  unfold coE coF
  rw [canF_on h]
  have e : shF P mr fs dem on fr (fun _ => 0) = shF P mr fs dem on' fr' (fun _ => 0) := by
    unfold shF
    rw [lf0_on P (fun p hp => (h p hp).1), ou0_on P (fun p hp => (h p hp).1)]
    rw [shR_on (or := bmF mr fs P) h P (fun j hj => bmR_ltP mr fs P j (by omega) P 0 (by omega))]
  rw [e]
  split
  · exact sumI_congr P (fun k hk => by unfold coT; rw [(h k hk).1])
  · rfl
/-- the state of plant p behind t hours by bits β -/
def saB (s : Nat → Int32) (ab : Nat) (β : Nat → Nat → Bool) (p t : Nat) : Nat := if prs s ab p then stn (oN (pfS s p)) (nN (pfS s p)) (agS (pfS s p 9) (β p) t) else 0
def okH (s : Nat → Int32) (β : Nat → Nat → Bool) (t : Nat) : Bool := canF (nP s) (pfS s) (s (4 + t)) (s (9 + t)) (fun p => β p t) (fun p => frS (pfS s p) (β p) t)
def hvE (s : Nat → Int32) (β : Nat → Nat → Bool) (t : Nat) : Int32 := coE (nP s) (s 1) (pfS s) (s (4 + t)) (s (9 + t)) (fun p => β p t) (fun p => frS (pfS s p) (β p) t)
def tvB (s : Nat → Int32) (ab : Nat) (β : Nat → Nat → Bool) (p t : Nat) : Nat := if prs s ab p then (ssT (pfS s p) (β p) t).toNatClampNeg else 0
def plL (s : Nat → Int32) (ab : Nat) (β : Nat → Nat → Bool) (p t : Nat) : Bool := if prs s ab p then mgS (pfS s p) (agS (pfS s p 9) (β p) t) (β p t) else !(β p t)
def lgB (s : Nat → Int32) (ab t : Nat) (β : Nat → Nat → Bool) : Prop := ∀ k, k < t → plL s ab β 0 k = true ∧ plL s ab β 1 k = true ∧ plL s ab β 2 k = true ∧ okH s β k = true
def ccB (s : Nat → Int32) (ab : Nat) (β : Nat → Nat → Bool) (t : Nat) : Nat := (hvE s β t).toNatClampNeg + tvB s ab β 0 t + tvB s ab β 1 t + tvB s ab β 2 t
def kyB (s : Nat → Int32) (ab : Nat) (β : Nat → Nat → Bool) : Nat → Nat
  | 0 => 0
  | t + 1 => kyB s ab β t + (ccB s ab β t * 32768 + biA (β 0 t) (β 1 t) (β 2 t) * 2 ^ t)
theorem saB_f {dm rm : Nat} {s : Nat → Int32} (i : InL dm rm s) {ab p t : Nat} {β : Nat → Nat → Bool} (ht : t ≤ 5) (b : Bool) : saB s ab β p t < nsP s ab p ∧ lgP s ab p (saB s ab β p t) b = (if prs s ab p then mgS (pfS s p) (agS (pfS s p 9) (β p) t) b else !b) ∧ (lgP s ab p (saB s ab β p t) b = true → nxP s ab p (saB s ab β p t) b = if prs s ab p then stn (oN (pfS s p)) (nN (pfS s p)) (goS (agS (pfS s p 9) (β p) t) b) else 0) ∧ mdP s ab p (saB s ab β p t) b = (if prs s ab p then (if b then (if agS (pfS s p 9) (β p) t < 0 then 2 else 1) else 0) else 0) ∧ tlP s ab p (saB s ab β p t) b = (if prs s ab p then (if b && decide (agS (pfS s p 9) (β p) t < 0) then stS (pfS s p 0) (pfS s p 1) (pfS s p 6) (-(agS (pfS s p 9) (β p) t)) else 0).toNatClampNeg else 0) := by
  unfold saB nsP lgP nxP mdP tlP
  cases h : prs s ab p with
  | false =>
    simp only [Bool.false_eq_true, if_false]
    exact ⟨by decide, trivial, fun _ => trivial, trivial, trivial⟩
  | true =>
    have hf := i.f (prs_lt h)
    have ag : aR 9 (agS (pfS s p 9) (β p) t) := (aR_ag (plI_age hf) (β p) t (by omega)).mono (by omega)
    obtain ⟨q1, q2, q3, q4, q5⟩ := ag_all hf ag
    simp only [if_true]
    refine ⟨q1, q2 b, fun z => q3 b ((q2 b).symm.trans z), ?_, ?_⟩
    · cases b with
      | false => rfl
      | true =>
        simp only [if_true]
        by_cases c : agS (pfS s p 9) (β p) t < 0
        · rw [if_pos c, if_pos (q4.mpr c)]
        · rw [if_neg c, if_neg (fun z => c (q4.mp z))]
    · cases b with
      | false => rfl
      | true =>
        by_cases c : agS (pfS s p 9) (β p) t < 0
        · rw [if_pos ⟨rfl, q4.mpr c⟩, decide_eq_true c, q5 c]
          rfl
        · rw [if_neg (fun z => c (q4.mp z.2)), decide_eq_false c]
          rfl
/-- the modes tell who is on, who goes on -/
theorem md_on {dm rm : Nat} {s : Nat → Int32} (i : InL dm rm s) {ab t : Nat} {β : Nat → Nat → Bool} (ht : t ≤ 5) (hoff : ∀ p, p < 3 → prs s ab p = false → β p t = false) : ∀ p, p < nP s → hasB (nI (sM (mdA s ab (saB s ab β 0 t) (saB s ab β 1 t) (saB s ab β 2 t) (β 0 t) (β 1 t) (β 2 t)))) p = β p t ∧ hasB (nI (gM (mdA s ab (saB s ab β 0 t) (saB s ab β 1 t) (saB s ab β 2 t) (β 0 t) (β 1 t) (β 2 t)))) p = frS (pfS s p) (β p) t := by
  have hP := i.o.hP
  intro p hp
  obtain ⟨m27, d0, d1, d2⟩ := mdA_d s ab (saB s ab β 0 t) (saB s ab β 1 t) (saB s ab β 2 t) (β 0 t) (β 1 t) (β 2 t)
  obtain ⟨x1, x2⟩ := sM_b _ m27 p (by omega)
  have key : dgM (mdA s ab (saB s ab β 0 t) (saB s ab β 1 t) (saB s ab β 2 t) (β 0 t) (β 1 t) (β 2 t)) p = mdP s ab p (saB s ab β p t) (β p t) := by
    match p, (show p < 3 by omega) with
    | 0, _ => exact d0
    | 1, _ => exact d1
    | 2, _ => exact d2
  rw [x1, x2, key, (saB_f i ht (β p t)).2.2.2.1]
  unfold frS
  cases h : prs s ab p with
  | false =>
    rw [hoff p (by omega) h]
    exact ⟨rfl, rfl⟩
  | true =>
    simp only [if_true]
    cases β p t with
    | false => exact ⟨rfl, rfl⟩
    | true =>
      simp only [if_true, Bool.true_and]
      by_cases c : agS (pfS s p 9) (β p) t < 0
      · rw [if_pos c, decide_eq_true c]
        exact ⟨rfl, rfl⟩
      · rw [if_neg c, decide_eq_false c]
        exact ⟨rfl, rfl⟩
theorem lg_step {dm rm : Nat} {s : Nat → Int32} (i : InL dm rm s) {ab t : Nat} {β : Nat → Nat → Bool} (ht : t ≤ 5) : (lgA s ab t (saB s ab β 0 t) (saB s ab β 1 t) (saB s ab β 2 t) (β 0 t) (β 1 t) (β 2 t) = true ↔ (plL s ab β 0 t = true ∧ plL s ab β 1 t = true ∧ plL s ab β 2 t = true ∧ okH s β t = true)) ∧ ((plL s ab β 0 t = true ∧ plL s ab β 1 t = true ∧ plL s ab β 2 t = true ∧ okH s β t = true) → dlA s ab t (saB s ab β 0 t) (saB s ab β 1 t) (saB s ab β 2 t) (β 0 t) (β 1 t) (β 2 t) = ccB s ab β t * 32768 + biA (β 0 t) (β 1 t) (β 2 t) * 2 ^ t) := by
  have f0 := saB_f i (ab := ab) (p := 0) (β := β) ht (β 0 t)
  have f1 := saB_f i (ab := ab) (p := 1) (β := β) ht (β 1 t)
  have f2 := saB_f i (ab := ab) (p := 2) (β := β) ht (β 2 t)
  have off : (plL s ab β 0 t = true ∧ plL s ab β 1 t = true ∧ plL s ab β 2 t = true) → ∀ p, p < 3 → prs s ab p = false → β p t = false := by
    rintro ⟨h0, h1, h2⟩ p hp hn
    have hh : plL s ab β p t = true := by
      match p, hp with
      | 0, _ => exact h0
      | 1, _ => exact h1
      | 2, _ => exact h2
    unfold plL at hh
    rw [hn, if_neg Bool.false_ne_true] at hh
    cases hb : β p t with
    | false => rfl
    | true =>
      rw [hb] at hh
      cases hh
  have cn : (plL s ab β 0 t = true ∧ plL s ab β 1 t = true ∧ plL s ab β 2 t = true) → cnP s (s (4 + t)) (s (9 + t)) (nI (sM (mdA s ab (saB s ab β 0 t) (saB s ab β 1 t) (saB s ab β 2 t) (β 0 t) (β 1 t) (β 2 t)))) (nI (gM (mdA s ab (saB s ab β 0 t) (saB s ab β 1 t) (saB s ab β 2 t) (β 0 t) (β 1 t) (β 2 t)))) = okH s β t := fun h => canF_on (md_on i ht (off h))
  refine ⟨?_, ?_⟩
  · unfold lgA
    rw [f0.2.1, f1.2.1, f2.2.1]
    constructor
    · intro z
      simp only [Bool.and_eq_true] at z
      obtain ⟨⟨⟨z0, z1⟩, z2⟩, z3⟩ := z
      have h3 : plL s ab β 0 t = true ∧ plL s ab β 1 t = true ∧ plL s ab β 2 t = true := ⟨z0, z1, z2⟩
      exact ⟨z0, z1, z2, by rw [← cn h3]; exact z3⟩
    · rintro ⟨z0, z1, z2, z3⟩
      rw [cn ⟨z0, z1, z2⟩, z3]
      unfold plL at z0 z1 z2
      rw [z0, z1, z2]
      rfl
  · rintro ⟨z0, z1, z2, z3⟩
    have h3 : plL s ab β 0 t = true ∧ plL s ab β 1 t = true ∧ plL s ab β 2 t = true := ⟨z0, z1, z2⟩
    unfold dlA coA ccB hcM
    rw [cn h3, if_pos z3, f0.2.2.2.2, f1.2.2.2.2, f2.2.2.2.2]
    have e : coE (nP s) (s 1) (pfS s) (s (4 + t)) (s (9 + t)) (hasB (nI (sM (mdA s ab (saB s ab β 0 t) (saB s ab β 1 t) (saB s ab β 2 t) (β 0 t) (β 1 t) (β 2 t))))) (hasB (nI (gM (mdA s ab (saB s ab β 0 t) (saB s ab β 1 t) (saB s ab β 2 t) (β 0 t) (β 1 t) (β 2 t))))) = hvE s β t := coE_on (md_on i ht (off h3))
    rw [e]
    rfl
theorem nx_step {dm rm : Nat} {s : Nat → Int32} (i : InL dm rm s) {ab p t : Nat} {β : Nat → Nat → Bool} (ht : t ≤ 5) (h : plL s ab β p t = true) : nxP s ab p (saB s ab β p t) (β p t) = saB s ab β p (t + 1) := by
  have f := saB_f i (ab := ab) (p := p) (β := β) ht (β p t)
  rw [f.2.2.1 (f.2.1.trans h)]
  rfl
/-- a plan's prefix is a path -/
theorem lgB_rc {dm rm : Nat} {s : Nat → Int32} (i : InL dm rm s) {ab : Nat} {β : Nat → Nat → Bool} : ∀ t, t ≤ 5 → lgB s ab t β → rcA s ab t (saB s ab β 0 t) (saB s ab β 1 t) (saB s ab β 2 t) (kyB s ab β t)
  | 0, _, _ => ⟨rfl, rfl, rfl, rfl⟩
  | t + 1, ht, h => by
    obtain ⟨l0, l1, l2, l3⟩ := h t (by omega)
    have ls := lg_step i (ab := ab) (β := β) (show t ≤ 5 by omega)
    exact ⟨_, _, _, _, β 0 t, β 1 t, β 2 t, (saB_f i (by omega) true).1, (saB_f i (by omega) true).1, (saB_f i (by omega) true).1, lgB_rc i t (by omega) (fun k hk => h k (by omega)), ls.1.mpr ⟨l0, l1, l2, l3⟩, (nx_step i (by omega) l0).symm, (nx_step i (by omega) l1).symm, (nx_step i (by omega) l2).symm, by rw [ls.2 ⟨l0, l1, l2, l3⟩]; rfl⟩
/-- bits alike up to t: all alike -/
theorem ext_all {s : Nat → Int32} {ab t : Nat} {β β' : Nat → Nat → Bool} (h : ∀ p k, k < t → β p k = β' p k) : (∀ p k, k ≤ t → saB s ab β p k = saB s ab β' p k) ∧ (∀ k, k < t → (∀ p, plL s ab β p k = plL s ab β' p k) ∧ okH s β k = okH s β' k ∧ ccB s ab β k = ccB s ab β' k) ∧ (∀ k, k ≤ t → kyB s ab β k = kyB s ab β' k) := by
  have ag : ∀ p k, k ≤ t → agS (pfS s p 9) (β p) k = agS (pfS s p 9) (β' p) k := fun p k hk => agS_ext k (fun j hj => h p j (by omega))
  have fr : ∀ p k, k < t → frS (pfS s p) (β p) k = frS (pfS s p) (β' p) k := fun p k hk => by
    unfold frS
    rw [h p k hk, ag p k (by omega)]
  have ok : ∀ k, k < t → (∀ p, plL s ab β p k = plL s ab β' p k) ∧ okH s β k = okH s β' k ∧ ccB s ab β k = ccB s ab β' k := fun k hk => by
    have e1 : (fun p => β p k) = (fun p => β' p k) := funext fun p => h p k hk
    have e2 : (fun p => frS (pfS s p) (β p) k) = (fun p => frS (pfS s p) (β' p) k) := funext fun p => fr p k hk
    refine ⟨fun p => ?_, ?_, ?_⟩
    · unfold plL
      rw [h p k hk, ag p k (by omega)]
    · unfold okH
      rw [e1, e2]
    · unfold ccB hvE tvB ssT
      rw [e1, e2, fr 0 k hk, fr 1 k hk, fr 2 k hk, ag 0 k (by omega), ag 1 k (by omega), ag 2 k (by omega)]
  refine ⟨fun p k hk => ?_, ok, fun k => ?_⟩
  · unfold saB
    rw [ag p k hk]
  · induction k with
    | zero => intro _; rfl
    | succ k ih =>
      intro hk
      unfold kyB
      rw [ih (by omega), (ok k (by omega)).2.2, h 0 k (by omega), h 1 k (by omega), h 2 k (by omega)]
/-- a path is a plan's prefix -/
theorem rc_lgB {dm rm : Nat} {s : Nat → Int32} (i : InL dm rm s) {ab : Nat} : ∀ t, t ≤ 5 → ∀ a b c K, rcA s ab t a b c K → ∃ β : Nat → Nat → Bool, lgB s ab t β ∧ a = saB s ab β 0 t ∧ b = saB s ab β 1 t ∧ c = saB s ab β 2 t ∧ K = kyB s ab β t
  | 0, _, a, b, c, K, h => ⟨fun _ _ => false, fun k hk => by omega, h.1, h.2.1, h.2.2.1, h.2.2.2⟩
  | t + 1, ht, a2, b2, c2, K2, h => by
    obtain ⟨a, b, c, K, x, y, z, ha, hb, hc, hr, hl, e0, e1, e2, eK⟩ := h
    obtain ⟨β, l, f0, f1, f2, fK⟩ := rc_lgB i t (by omega) a b c K hr
    have ex : ∀ p k, k < t → β p k = (fun p k => if k = t then (if p = 0 then x else if p = 1 then y else z) else β p k) p k := fun p k hk => (if_neg (by omega)).symm
    obtain ⟨g1, g2, g3⟩ := ext_all (s := s) (ab := ab) ex
    refine ⟨fun p k => if k = t then (if p = 0 then x else if p = 1 then y else z) else β p k, ?_⟩
    have b0 : (fun p k => if k = t then (if p = 0 then x else if p = 1 then y else z) else β p k) 0 t = x := by simp
    have b1 : (fun p k => if k = t then (if p = 0 then x else if p = 1 then y else z) else β p k) 1 t = y := by simp
    have b2 : (fun p k => if k = t then (if p = 0 then x else if p = 1 then y else z) else β p k) 2 t = z := by simp
    generalize (fun p k => if k = t then (if p = 0 then x else if p = 1 then y else z) else β p k) = β' at g1 g2 g3 b0 b1 b2
    rw [g1 0 t (Nat.le_refl _)] at f0
    rw [g1 1 t (Nat.le_refl _)] at f1
    rw [g1 2 t (Nat.le_refl _)] at f2
    rw [g3 t (Nat.le_refl _)] at fK
    have ls := lg_step i (ab := ab) (β := β') (show t ≤ 5 by omega)
    rw [← f0, ← f1, ← f2, b0, b1, b2] at ls
    have lg := ls.1.mp hl
    have n0 := nx_step i (by omega) lg.1
    have n1 := nx_step i (by omega) lg.2.1
    have n2 := nx_step i (by omega) lg.2.2.1
    rw [← f0, b0] at n0
    rw [← f1, b1] at n1
    rw [← f2, b2] at n2
    refine ⟨fun k hk => ?_, e0.trans n0, e1.trans n1, e2.trans n2, ?_⟩
    · by_cases q : k = t
      · rw [q]
        exact lg
      · obtain ⟨o1, o2, -⟩ := g2 k (by omega)
        rw [← o1 0, ← o1 1, ← o1 2, ← o2]
        exact l k (by omega)
    · rw [eK, ls.2 lg, fK]
      show _ = kyB s ab β' t + (ccB s ab β' t * 32768 + biA (β' 0 t) (β' 1 t) (β' 2 t) * 2 ^ t)
      rw [b0, b1, b2]
/-- the key: what the plan costs, its rows -/
def csB (s : Nat → Int32) (ab : Nat) (β : Nat → Nat → Bool) : Nat → Nat
  | 0 => 0
  | t + 1 => csB s ab β t + ccB s ab β t
theorem bits_up (g : Nat → Bool) (t : Nat) : bitsN g (t + 1) = bitsN g t + (g t).toNat * 2 ^ t := by
  rw [bitsN]
  cases g t with
  | false => rw [if_neg Bool.false_ne_true]; simp
  | true => rw [if_pos rfl]; simp
theorem kyB_eq (s : Nat → Int32) (ab : Nat) (β : Nat → Nat → Bool) : ∀ t, kyB s ab β t = csB s ab β t * 32768 + (bitsN (β 0) t * 1024 + bitsN (β 1) t * 32 + bitsN (β 2) t)
  | 0 => by simp [kyB, csB, bitsN]
  | t + 1 => by
    rw [kyB, kyB_eq s ab β t, csB, bits_up, bits_up, bits_up]
    unfold biA
    rw [Nat.add_mul (csB s ab β t), Nat.add_mul (bitsN (β 0) t), Nat.add_mul (bitsN (β 1) t), Nat.add_mul, Nat.add_mul, Nat.mul_right_comm, Nat.mul_right_comm _ 32 _]
    omega
