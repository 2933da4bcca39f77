/-! ===== the least key is the reference's best plan ===== -/
abbrev bR (r : Nat → Nat) (p : Nat) : Nat → Bool := hasB (nI (r p))
theorem bn_id : ∀ H, H < 6 → ∀ x, x < 2 ^ H → bitsN (hasB (nI x)) H = x := by decide +kernel
theorem has0 : ∀ k, k < 5 → hasB (nI 0) k = false := by decide
theorem bits0 {g : Nat → Bool} : ∀ n, (∀ k, k < n → g k = false) → bitsN g n = 0
  | 0, _ => rfl
  | n + 1, h => by rw [bitsN, bits0 n (fun k hk => h k (by omega)), h n (by omega)]; rfl
/-- the rows that the search looks at -/
abbrev rwA (s : Nat → Int32) (ab : Nat) (r : Nat → Nat) : Prop := rwS (okS s ab (nH s)) (2 ^ nH s) (nP s) 0 (fun _ => 0) r
def feA (s : Nat → Int32) (r : Nat → Nat) : Prop := ∀ t, t < nH s → okH s (bR r) t = true
theorem rw_0 {s : Nat → Int32} {ab p : Nat} {r : Nat → Nat} (hr : rwA s ab r) (hp : prs s ab p = false) : r p = 0 := by
  by_cases c : p < nP s
  · have ok := (hr.2 p (Nat.zero_le _) (by omega)).2
    unfold prs at hp
    rw [decide_eq_true c, Bool.true_and] at hp
    have hb : hasB (nI ab) p = true := by
      cases hh : hasB (nI ab) p with
      | true => rfl
      | false =>
        rw [hh] at hp
        cases hp
    unfold okS at ok
    rw [if_pos hb] at ok
    exact of_decide_eq_true ok
  · exact hr.1 p (Or.inr (by omega))
theorem rw_pl {s : Nat → Int32} {ab : Nat} (hH : nH s ≤ 5) {r : Nat → Nat} (hr : rwA s ab r) (p k : Nat) (hk : k < nH s) : plL s ab (bR r) p k = true := by
  unfold plL
  cases hp : prs s ab p with
  | true =>
    have c := prs_lt hp
    have ok := (hr.2 p (Nat.zero_le _) (by omega)).2
    have hb : ¬ hasB (nI ab) p = true := by
      unfold prs at hp
      rw [Bool.and_eq_true] at hp
      intro z
      rw [z] at hp
      cases hp.2
    unfold okS at ok
    rw [if_neg hb] at ok
    rw [if_pos rfl]
    exact List.all_eq_true.mp ok k (List.mem_range.mpr hk)
  | false =>
    rw [if_neg Bool.false_ne_true, show bR r p k = hasB (nI (r p)) k from rfl, rw_0 hr hp, has0 k (by omega)]
    rfl
/-- plans as bits are rows -/
theorem lg_rw {s : Nat → Int32} {ab : Nat} (hH : nH s ≤ 5) {β : Nat → Nat → Bool} (h : lgB s ab (nH s) β) (h3 : nP s ≤ 3) : rwA s ab (fun p => if p < 3 then bitsN (β p) (nH s) else 0) ∧ ∀ p k, p < 3 → k < nH s → bR (fun p => if p < 3 then bitsN (β p) (nH s) else 0) p k = β p k := by
  have pl : ∀ p k, p < 3 → k < nH s → plL s ab β p k = true := fun p k hp hk => by
    obtain ⟨a, b, c, -⟩ := h k hk
    match p, hp with
    | 0, _ => exact a
    | 1, _ => exact b
    | 2, _ => exact c
  have off : ∀ p k, p < 3 → k < nH s → prs s ab p = false → β p k = false := fun p k hp hk hn => by
    have := pl p k hp hk
    unfold plL at this
    rw [hn, if_neg Bool.false_ne_true] at this
    cases hb : β p k with
    | false => rfl
    | true =>
      rw [hb] at this
      cases this
  have bt : ∀ p k, p < 3 → k < nH s → bR (fun p => if p < 3 then bitsN (β p) (nH s) else 0) p k = β p k := fun p k hp hk => by
    show hasB (nI (if p < 3 then bitsN (β p) (nH s) else 0)) k = β p k
    rw [if_pos hp]
    exact hasB_bits hH hk
  refine ⟨⟨fun q hq => ?_, fun q h1 h2 => ?_⟩, bt⟩
  · dsimp only
    by_cases c : q < 3
    · rw [if_pos c]
      refine bits0 _ (fun k hk => off q k c hk ?_)
      unfold prs
      rw [decide_eq_false (by omega)]
      rfl
    · rw [if_neg c]
  · have q3 : q < 3 := by omega
    dsimp only
    rw [if_pos q3]
    refine ⟨bitsN_lt _ _, ?_⟩
    unfold okS
    cases hb : hasB (nI ab) q with
    | true =>
      rw [if_pos rfl]
      refine decide_eq_true (bits0 _ (fun k hk => off q k q3 hk ?_))
      unfold prs
      rw [hb, Bool.not_true, Bool.and_false]
    | false =>
      rw [if_neg Bool.false_ne_true]
      have pr : prs s ab q = true := by
        unfold prs
        rw [hb, decide_eq_true (by omega)]
        rfl
      refine List.all_eq_true.mpr (fun k hk => ?_)
      have hk := List.mem_range.mp hk
      have := pl q k q3 hk
      unfold plL at this
      rw [pr, if_pos rfl] at this
      rw [agS_ext (b' := β q) k (fun j hj => hasB_bits hH (by omega)), hasB_bits hH hk]
      exact this
/-! ===== costs of rows ===== -/
def sumN (g : Nat → Nat) : Nat → Nat
  | 0 => 0
  | n + 1 => sumN g n + g n
theorem sumI_nI {g : Nat → Int32} {g' : Nat → Nat} : ∀ n, (∀ k, k < n → g k = nI (g' k)) → sumI g n = nI (sumN g' n)
  | 0, _ => rfl
  | n + 1, h => by rw [sumI, sumN, sumI_nI n (fun k hk => h k (by omega)), h n (by omega), nI_add]
theorem sumN_le {g : Nat → Nat} {B : Nat} : ∀ n, (∀ k, k < n → g k ≤ B) → sumN g n ≤ B * n
  | 0, _ => Nat.zero_le _
  | n + 1, h => by
    have := sumN_le (g := g) (B := B) n (fun k hk => h k (by omega))
    have := h n (by omega)
    rw [sumN, Nat.mul_succ]
    omega
theorem csB_sum (s : Nat → Int32) (ab : Nat) (β : Nat → Nat → Bool) : ∀ t, csB s ab β t = sumN (fun k => (hvE s β k).toNatClampNeg) t + (sumN (tvB s ab β 0) t + sumN (tvB s ab β 1) t + sumN (tvB s ab β 2) t)
  | 0 => rfl
  | t + 1 => by
    rw [csB, csB_sum s ab β t, sumN, sumN, sumN, sumN]
    unfold ccB
    omega
theorem hcR_hv {s : Nat → Int32} (hP : nP s ≤ 3) (r : Nat → Nat) (t : Nat) : hcR s (nP s) r t = hvE s (bR r) t := by
  unfold hcR enT hvE
  exact coE_on (fun p hp => ⟨hasB_bits (by omega) hp, hasB_bits (by omega) hp⟩)
theorem hv_b {dm rm : Nat} (hdm : dm ≤ 500) {s : Nat → Int32} (i : InL dm rm s) {β : Nat → Nat → Bool} {t : Nat} (ht : t < 5) : (okH s β t = true → ∃ v : Nat, v ≤ 1710 ∧ hvE s β t = nI v) ∧ (okH s β t = false → hvE s β t = FAR) := by
  refine ⟨fun h => ?_, fun h => coE_no h⟩
  obtain ⟨D, hD, eD⟩ := i.dn ht
  unfold hvE
  unfold okH at h
  rw [eD] at h ⊢
  exact coE_b hdm i hD h
theorem tv_b {dm rm : Nat} {s : Nat → Int32} (i : InL dm rm s) {ab p : Nat} {r : Nat → Nat} (hr : rwA s ab r) (hp : p < nP s) {t : Nat} (ht : t < 5) : tvB s ab (bR r) p t ≤ 100 ∧ ssT (pfS s p) (hasB (nI (r p))) t = nI (tvB s ab (bR r) p t) := by
  unfold tvB
  cases h : prs s ab p with
  | true =>
    rw [if_pos rfl]
    show (ssT (pfS s p) (hasB (nI (r p))) t).toNatClampNeg ≤ 100 ∧ _ = nI (ssT (pfS s p) (hasB (nI (r p))) t).toNatClampNeg
    have hf := i.f hp
    unfold ssT
    by_cases c : frS (pfS s p) (hasB (nI (r p))) t = true
    · rw [if_pos c]
      have hn : agS (pfS s p 9) (hasB (nI (r p))) t < 0 := by
        unfold frS at c
        rw [Bool.and_eq_true] at c
        exact of_decide_eq_true c.2
      obtain ⟨v, hv, ev⟩ := st_b hf (m := 9) (by decide) ((aR_ag (plI_age hf) _ t (by omega)).mono (by omega)) hn
      rw [ev, nI_clamp (by omega)]
      exact ⟨hv, rfl⟩
    · rw [if_neg c]
      exact ⟨by decide, by decide⟩
  | false =>
    rw [if_neg Bool.false_ne_true]
    refine ⟨by omega, ?_⟩
    rw [rw_0 hr h]
    unfold ssT frS
    rw [has0 t ht]
    rfl
theorem plR_ok {hc : Nat → Int32} {hv : Nat → Nat} (T : Nat) : ∀ n t, (∀ k, t ≤ k → k < t + n → hc k = nI (hv k) ∧ hv k ≤ 1710) → plR hc n t (nI (T + sumN hv t)) = nI (T + sumN hv (t + n))
  | 0, t, _ => rfl
  | n + 1, t, h => by
    obtain ⟨e, b⟩ := h t (Nat.le_refl _) (by omega)
    have ne : ¬ hc t = FAR := fun z => by
      rw [e, FAR_nI] at z
      have := (nI_eq (by omega) (by omega)).mp z
      omega
    have ih := plR_ok (hc := hc) (hv := hv) T n (t + 1) (fun k h1 h2 => h k (by omega) (by omega))
    rw [plR, if_neg ne, e, nI_add, Nat.add_assoc T]
    rw [sumN] at ih
    rw [ih, show t + 1 + n = t + (n + 1) by omega]
theorem plR_far {hc : Nat → Int32} : ∀ n t acc k, t ≤ k → k < t + n → hc k = FAR → plR hc n t acc = FAR
  | 0, t, _, k, h1, h2, _ => by omega
  | n + 1, t, acc, k, h1, h2, e => by
    rw [plR]
    by_cases c : hc t = FAR
    · rw [if_pos c]
    · rw [if_neg c]
      have : k ≠ t := fun z => c (by rw [← z]; exact e)
      exact plR_far n (t + 1) _ k (by omega) (by omega) e
theorem three {f : Nat → Nat} {P : Nat} (hP : P ≤ 3) (h : ∀ p, P ≤ p → p < 3 → f p = 0) : sumN f P = f 0 + f 1 + f 2 := by
  match P, hP with
  | 0, _ =>
    have a := h 0 (by omega) (by omega)
    have b := h 1 (by omega) (by omega)
    have c := h 2 (by omega) (by omega)
    simp [sumN, a, b, c]
  | 1, _ =>
    have b := h 1 (by omega) (by omega)
    have c := h 2 (by omega) (by omega)
    simp [sumN, b, c]
  | 2, _ =>
    have c := h 2 (by omega) (by omega)
    simp [sumN, c]
  | 3, _ => simp [sumN]
theorem plC_ok {dm rm : Nat} (hdm : dm ≤ 500) {s : Nat → Int32} (i : InL dm rm s) {ab : Nat} {r : Nat → Nat} (hr : rwA s ab r) (hf : feA s r) : plC s (nH s) (nP s) r = nI (csB s ab (bR r) (nH s)) ∧ csB s ab (bR r) (nH s) ≤ 11000 := by
  have hP := i.o.hP
  have hH := i.o.hH
  have hv : ∀ k, k < nH s → hcR s (nP s) r k = nI (hvE s (bR r) k).toNatClampNeg ∧ (hvE s (bR r) k).toNatClampNeg ≤ 1710 := fun k hk => by
    obtain ⟨v, h1, h2⟩ := (hv_b hdm i (show k < 5 by omega)).1 (hf k hk)
    rw [hcR_hv hP, h2, nI_clamp (by omega)]
    exact ⟨rfl, h1⟩
  have st : ∀ p, p < nP s → stR s (nH s) r p = nI (sumN (tvB s ab (bR r) p) (nH s)) := fun p hp => sumI_nI _ (fun k hk => (tv_b i hr hp (by omega)).2)
  have sb : ∀ p, sumN (tvB s ab (bR r) p) (nH s) ≤ 500 ∧ (nP s ≤ p → sumN (tvB s ab (bR r) p) (nH s) = 0) := fun p => by
    by_cases c : p < nP s
    · have := sumN_le (g := tvB s ab (bR r) p) (B := 100) (nH s) (fun k hk => (tv_b i hr c (by omega)).1)
      exact ⟨by omega, fun z => by omega⟩
    · have z : sumN (tvB s ab (bR r) p) (nH s) ≤ 0 * nH s := sumN_le (B := 0) (nH s) (fun k hk => by
        have pr : prs s ab p = false := by
          unfold prs
          rw [decide_eq_false c]
          rfl
        unfold tvB
        rw [pr]
        exact Nat.le_refl _)
      rw [Nat.zero_mul] at z
      exact ⟨by omega, fun _ => by omega⟩
  have tot : sumI (stR s (nH s) r) (nP s) = nI (sumN (tvB s ab (bR r) 0) (nH s) + sumN (tvB s ab (bR r) 1) (nH s) + sumN (tvB s ab (bR r) 2) (nH s)) := by
    rw [sumI_nI (g' := fun p => sumN (tvB s ab (bR r) p) (nH s)) _ st, three hP (fun p h1 _ => (sb p).2 h1)]
  have pk := plR_ok (hc := hcR s (nP s) r) (hv := fun k => (hvE s (bR r) k).toNatClampNeg) (sumN (tvB s ab (bR r) 0) (nH s) + sumN (tvB s ab (bR r) 1) (nH s) + sumN (tvB s ab (bR r) 2) (nH s)) (nH s) 0 (fun k _ h2 => hv k (by omega))
  have sv := sumN_le (g := fun k => (hvE s (bR r) k).toNatClampNeg) (B := 1710) (nH s) (fun k hk => (hv k hk).2)
  have s0 := (sb 0).1
  have s1 := (sb 1).1
  have s2 := (sb 2).1
  refine ⟨?_, ?_⟩
  · rw [plC, tot]
    refine pk.trans ?_
    rw [csB_sum, Nat.zero_add, Nat.add_comm]
  · rw [csB_sum]
    omega
theorem plC_no {dm rm : Nat} (hdm : dm ≤ 500) {s : Nat → Int32} (i : InL dm rm s) {r : Nat → Nat} (hf : ¬ feA s r) : plC s (nH s) (nP s) r = FAR := by
  have hP := i.o.hP
  have hH := i.o.hH
  have ex : ∃ t, t < nH s ∧ okH s (bR r) t = false := by
    apply Classical.byContradiction
    intro z
    refine hf (fun t ht => ?_)
    cases h : okH s (bR r) t with
    | true => rfl
    | false => exact absurd ⟨t, ht, h⟩ z
  obtain ⟨t, ht, e⟩ := ex
  exact plR_far _ _ _ t (Nat.zero_le _) (by omega) (by rw [hcR_hv hP]; exact (hv_b hdm i (by omega)).2 e)
/-- the key of rows -/
def keR (s : Nat → Int32) (ab : Nat) (r : Nat → Nat) : Nat := csB s ab (bR r) (nH s) * 32768 + rKey r
theorem ky_ke {s : Nat → Int32} {ab : Nat} (hH : nH s ≤ 5) (h3 : nP s ≤ 3) {r : Nat → Nat} (hr : rwA s ab r) : kyB s ab (bR r) (nH s) = keR s ab r := by
  have b : ∀ p, bitsN (bR r p) (nH s) = r p := fun p => by
    refine bn_id _ (by omega) _ ?_
    by_cases c : p < nP s
    · exact (hr.2 p (Nat.zero_le _) (by omega)).1
    · rw [hr.1 p (Or.inr (by omega))]
      exact Nat.two_pow_pos _
  rw [kyB_eq, b 0, b 1, b 2]
  rfl
theorem fi_ke {dm rm : Nat} {s : Nat → Int32} (i : InL dm rm s) (ab k : Nat) : fiA s ab k ↔ ∃ r, rwA s ab r ∧ feA s r ∧ k = keR s ab r := by
  have hP := i.o.hP
  have hH := i.o.hH
  constructor
  · rintro ⟨a, b, c, -, -, -, hr⟩
    obtain ⟨β, l, -, -, -, ek⟩ := rc_lgB i (nH s) hH a b c k hr
    obtain ⟨h1, h2⟩ := lg_rw hH l hP
    have ex : ∀ p k, k < nH s → (fun p k => if p < 3 then β p k else bR (fun p => if p < 3 then bitsN (β p) (nH s) else 0) p k) p k = bR (fun p => if p < 3 then bitsN (β p) (nH s) else 0) p k := fun p k hk => by
      dsimp only
      by_cases c : p < 3
      · rw [if_pos c, h2 p k c hk]
      · rw [if_neg c]
    -- bits beyond the third plant don't count
    have ex0 : ∀ t, t ≤ nH s → kyB s ab β t = kyB s ab (bR (fun p => if p < 3 then bitsN (β p) (nH s) else 0)) t ∧ ∀ k, k < t → okH s β k = okH s (bR (fun p => if p < 3 then bitsN (β p) (nH s) else 0)) k := by
      have cv : ∀ p k, p < 3 → k < nH s → frS (pfS s p) (β p) k = frS (pfS s p) (bR (fun p => if p < 3 then bitsN (β p) (nH s) else 0) p) k := fun p k hp hk => by
        unfold frS
        rw [h2 p k hp hk, agS_ext k (fun j hj => (h2 p j hp (by omega)).symm)]
      have ag : ∀ p k, p < 3 → k < nH s → agS (pfS s p 9) (β p) k = agS (pfS s p 9) (bR (fun p => if p < 3 then bitsN (β p) (nH s) else 0) p) k := fun p k hp hk => agS_ext k (fun j hj => (h2 p j hp (by omega)).symm)
      have on : ∀ k, k < nH s → okH s β k = okH s (bR (fun p => if p < 3 then bitsN (β p) (nH s) else 0)) k ∧ hvE s β k = hvE s (bR (fun p => if p < 3 then bitsN (β p) (nH s) else 0)) k := fun k hk => ⟨canF_on (fun p hp => ⟨(h2 p k (by omega) hk).symm, cv p k (by omega) hk⟩), coE_on (fun p hp => ⟨(h2 p k (by omega) hk).symm, cv p k (by omega) hk⟩)⟩
      have tv : ∀ p k, p < 3 → k < nH s → tvB s ab β p k = tvB s ab (bR (fun p => if p < 3 then bitsN (β p) (nH s) else 0)) p k := fun p k hp hk => by
        unfold tvB ssT
        rw [cv p k hp hk, ag p k hp hk]
      intro t
      induction t with
      | zero => exact fun _ => ⟨rfl, fun k hk => by omega⟩
      | succ t ih =>
        intro ht
        obtain ⟨e1, e2⟩ := ih (by omega)
        refine ⟨?_, fun k hk => (on k (by omega)).1⟩
        rw [kyB, kyB, e1]
        unfold ccB
        rw [(on t (by omega)).2, tv 0 t (by omega) (by omega), tv 1 t (by omega) (by omega), tv 2 t (by omega) (by omega), h2 0 t (by omega) (by omega), h2 1 t (by omega) (by omega), h2 2 t (by omega) (by omega)]
    obtain ⟨e1, e2⟩ := ex0 (nH s) (Nat.le_refl _)
    refine ⟨_, h1, fun t ht => ?_, ?_⟩
    · rw [← e2 t ht]
      exact (l t ht).2.2.2
    · rw [ek, e1, ky_ke hH hP h1]
  · rintro ⟨r, hr, hf, ek⟩
    have l : lgB s ab (nH s) (bR r) := fun k hk => ⟨rw_pl hH hr 0 k hk, rw_pl hH hr 1 k hk, rw_pl hH hr 2 k hk, hf k hk⟩
    have := lgB_rc i (nH s) hH l
    rw [ky_ke hH hP hr, ← ek] at this
    exact ⟨_, _, _, (saB_f i hH true).1, (saB_f i hH true).1, (saB_f i hH true).1, this⟩
theorem key_le {C1 C2 R1 R2 k : Nat} (e : k = C2 * 32768 + R2) (kl : k ≤ C1 * 32768 + R1) (eq : C1 = C2) (kr : R1 ≤ R2) : k = C1 * 32768 + R1 := by
  subst eq
  omega
theorem dig3 {C a b c k : Nat} (h0 : a < 32) (h1 : b < 32) (h2 : c < 32) (e : k = C * 32768 + (a * 1024 + b * 32 + c)) : k / 32768 = C ∧ k / 1024 % 32 = a ∧ k / 32 % 32 = b ∧ k % 32 = c := ⟨by omega, by omega, by omega, by omega⟩
/-- what the least key says is the reference's answer -/
theorem sol_eq {dm rm : Nat} (hdm : dm ≤ 500) {s : Nat → Int32} (i : InL dm rm s) {ab : Nat} {x : Int32} (m : mnS (fiA s ab) x) : (x = 2147483647 → beV s ab = -9) ∧ (∀ k : Nat, k < 2147483647 → x = nI k → beV s ab = nI (k / 32768) ∧ k / 32768 ≤ 11000 ∧ (beX s ab).1 ≠ FAR ∧ rwA s ab (beX s ab).2 ∧ ∀ p, p < 3 → (beX s ab).2 p = k / 2 ^ (5 * (2 - p)) % 32) := by
  have hP := i.o.hP
  have hH := i.o.hH
  have hpow := pow_le hH
  have sp : fsP (plC s (nH s) (nP s)) (rwA s ab) (FAR, fun _ => 0) (beX s ab) := foT_spec (okS s ab (nH s)) (plC s (nH s) (nP s)) hpow (nP s) 0 (by omega) (fun _ => 0) (FAR, fun _ => 0) (fun _ => by omega)
  obtain ⟨s1, s2, s3⟩ := sp
  have lt : ∀ n, n ≤ 11000 → nI n < FAR := fun n hn => by
    rw [FAR_nI]
    exact nI_lt (by omega) (by omega)
  refine ⟨fun ex => ?_, fun k hk ex => ?_⟩
  · have no : ∀ j, ¬ fiA s ab j := by
      rcases m with ⟨-, n⟩ | ⟨k, hk, e, -⟩
      · exact n
      · rw [ex] at e
        have := (nI_eq (a := 2147483647) (b := k) (by omega) (by omega)).mp e
        omega
    unfold beV beA
    rcases s3 with z | ⟨c1, c2, c3, c4⟩
    · rw [z]
      exact if_pos rfl
    · by_cases f : feA s (beX s ab).2
      · exact absurd ((fi_ke i ab _).mpr ⟨_, c1, f, rfl⟩) (no _)
      · rw [plC_no hdm i f] at c2
        rw [← c2] at c3
        exact absurd c3 Int32.lt_irrefl
  · have mk : fiA s ab k ∧ ∀ j, fiA s ab j → k ≤ j := by
      rcases m with ⟨e, -⟩ | ⟨k', hk', e, m1, m2⟩
      · rw [ex] at e
        have := (nI_eq (a := k) (b := 2147483647) (by omega) (by omega)).mp e
        omega
      · rw [ex] at e
        have := (nI_eq (a := k) (b := k') (by omega) (by omega)).mp e
        subst this
        exact ⟨m1, m2⟩
    obtain ⟨r, hr, hf, ek⟩ := (fi_ke i ab k).mp mk.1
    obtain ⟨e1, e2⟩ := plC_ok hdm i hr hf
    have le := s2 r hr
    rw [e1] at le
    have ltF := Int32.lt_of_le_of_lt le (lt _ e2)
    rcases s3 with z | ⟨c1, c2, c3, c4⟩
    · rw [z] at ltF
      exact absurd ltF Int32.lt_irrefl
    · have f : feA s (beX s ab).2 := Classical.byContradiction fun f => by
        rw [plC_no hdm i f] at c2
        rw [← c2] at c3
        exact Int32.lt_irrefl c3
      obtain ⟨d1, d2⟩ := plC_ok hdm i c1 f
      have kl := mk.2 _ ((fi_ke i ab _).mpr ⟨_, c1, f, rfl⟩)
      rw [d1] at c2
      rw [← c2, nI_leI (by omega) (by omega)] at le
      have rl : ∀ r, rwA s ab r → ∀ q, r q < 32 := fun r hr => rwS_lt hpow (fun _ => by omega) hr
      have g0 := rl _ hr 0
      have g1 := rl _ hr 1
      have g2 := rl _ hr 2
      have h0 := rl _ c1 0
      have h1 := rl _ c1 1
      have h2 := rl _ c1 2
      have eq : csB s ab (bR (beX s ab).2) (nH s) = csB s ab (bR r) (nH s) := by
        unfold keR rKey at ek kl
        omega
      have kr := c4 r hr (by rw [e1, ← c2, eq])
      have kk : k = csB s ab (bR (beX s ab).2) (nH s) * 32768 + ((beX s ab).2 0 * 1024 + (beX s ab).2 1 * 32 + (beX s ab).2 2) := key_le (R1 := rKey (beX s ab).2) (R2 := rKey r) ek kl eq kr
      obtain ⟨k15, g0', g1', g2'⟩ := dig3 h0 h1 h2 kk
      have nF : (beX s ab).1 ≠ FAR := fun z => by
        rw [z] at c3
        exact Int32.lt_irrefl c3
      refine ⟨?_, by omega, nF, c1, fun p hp => ?_⟩
      · unfold beV beA
        rw [if_neg nF, k15, c2]
      · match p, hp with
        | 0, _ => exact g0'.symm
        | 1, _ => exact g1'.symm
        | 2, _ =>
          show _ = k / 1 % 32
          rw [Nat.div_one]
          exact g2'.symm
/-- the class solves what the reference seeks -/
theorem ct_solve {ab r1 r2 : Nat} (h : Hp) (s0 s : Nat → Int32) (c : sC 1 s0 h) (i0 : InS s0) (i : InL 100 80 s) (e : svE s s0) (hd : ∀ t, t < 5 → h.1 39 t = s (4 + t) ∧ h.1 40 t = s (9 + t)) (th : thI s ab h) (dy : dyI r1 r2 h) : CtI 4 mX7_solve [.ref 38] h (fun v g => v = beV s ab ∧ Fr scC h g ∧ (∃ r1 r2, dyI r1 r2 g) ∧ (v = -9 ∨ ∃ n : Nat, n ≤ 11000 ∧ v = nI n) ∧ (¬ v = -9 → (beX s ab).1 ≠ FAR ∧ rwA s ab (beX s ab).2 ∧ ∀ p, p < 3 → g.1 41 p = nI ((beX s ab).2 p))) := by
  refine (ct_solve0 h s0 s c i0 i e hd th dy).mono (fun v g q => ?_)
  obtain ⟨⟨x, mx, q1⟩, q2, q3⟩ := q
  obtain ⟨t1, t2⟩ := sol_eq (by decide) i mx
  rcases q1 with ⟨ex, ev⟩ | ⟨k, hk, ex, ev, er⟩
  · exact ⟨ev.trans (t1 ex).symm, q2, q3, Or.inl ev, fun z => absurd ev z⟩
  · obtain ⟨u1, u2, u3, u4, u5⟩ := t2 k hk ex
    exact ⟨ev.trans u1.symm, q2, q3, Or.inr ⟨_, u2, ev⟩, fun _ => ⟨u3, u4, fun p hp => by rw [er p hp, u5 p hp]⟩⟩
