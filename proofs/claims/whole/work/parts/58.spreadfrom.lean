/-! ===== least of a set; the moving rows ===== -/
/-- v is the least of S, or stands for none -/
def mnS (S : Nat → Prop) (v : Int32) : Prop := (v = 2147483647 ∧ ∀ k, ¬ S k) ∨ ∃ k : Nat, k < 2147483647 ∧ v = nI k ∧ S k ∧ ∀ j, S j → k ≤ j
theorem mnS_congr {S T : Nat → Prop} {v : Int32} (h : ∀ k, S k ↔ T k) (m : mnS S v) : mnS T v := by
  rcases m with ⟨e, n⟩ | ⟨k, hk, e, m1, m2⟩
  · exact Or.inl ⟨e, fun k hk => n k ((h k).mpr hk)⟩
  · exact Or.inr ⟨k, hk, e, (h k).mp m1, fun j hj => m2 j ((h j).mpr hj)⟩
theorem free_nI : (2147483647 : Int32) = nI 2147483647 := rfl
theorem mnS_add {S : Nat → Prop} {v : Int32} (m : mnS S v) {n : Nat} (hn : n < 2147483647) : mnS (fun j => S j ∨ j = n) (imin v (nI n)) := by
  rcases m with ⟨e, no⟩ | ⟨k, hk, e, m1, m2⟩
  · refine Or.inr ⟨n, hn, ?_, Or.inr rfl, fun j hj => ?_⟩
    · rw [e, free_nI, imin_nI (by omega) (by omega), Nat.min_eq_right (by omega)]
    · rcases hj with z | z
      · exact absurd z (no j)
      · omega
  · refine Or.inr ⟨min k n, by omega, ?_, ?_, fun j hj => ?_⟩
    · rw [e, imin_nI (by omega) (by omega)]
    · by_cases c : k ≤ n
      · rw [Nat.min_eq_left c]
        exact Or.inl m1
      · rw [Nat.min_eq_right (by omega)]
        exact Or.inr rfl
    · rcases hj with z | z
      · have := m2 j z
        omega
      · omega
/-- now and then, which of them is which -/
def dyR (r1 r2 : Nat) : Prop := (r1 = 56 ∧ r2 = 57) ∨ (r1 = 57 ∧ r2 = 56)
def dyI (r1 r2 : Nat) (h : Hp) : Prop := dyR r1 r2 ∧ h.1 38 11 = nI (r1 + 1) ∧ h.1 38 12 = nI (r2 + 1)
theorem dyR.c {r1 r2 : Nat} (d : dyR r1 r2) : w0.2[r1]? = some (100, 343) ∧ w0.2[r2]? = some (100, 343) ∧ r1 < 1000 ∧ r2 < 1000 ∧ r1 ≠ r2 := by
  rcases d with ⟨a, b⟩ | ⟨a, b⟩ <;> subst a <;> subst b
  · exact ⟨c_56, c_57, by decide, by decide, by decide⟩
  · exact ⟨c_57, c_56, by decide, by decide, by decide⟩
theorem rfo_d {h : Hp} {i r : Nat} (hd : w0.1 38 i = none) (hr : r < 1000) (e : h.1 38 i = nI (r + 1)) : rfo w0 h 38 i = some r := by
  unfold rfo
  rw [hd]
  show (if h.1 38 i = 0 then none else some ((h.1 38 i).toNatClampNeg - 1)) = some r
  rw [e, if_neg (nI_ne0 (by omega) (by omega)), nI_clamp (by omega)]
  rfl
theorem dyI.n {r1 r2 : Nat} {h : Hp} (d : dyI r1 r2 h) : rfo w0 h 38 11 = some r1 := rfo_d dyn_38_11 d.1.c.2.2.1 d.2.1
theorem dyI.t {r1 r2 : Nat} {h : Hp} (d : dyI r1 r2 h) : rfo w0 h 38 12 = some r2 := rfo_d dyn_38_12 d.1.c.2.2.2.1 d.2.2
/-! ===== the class: one state spread ===== -/
/-- tables, hour costs and rows stand -/
def spH (s : Nat → Int32) (ab t r1 r2 : Nat) (h : Hp) : Prop := tbP s ab 0 (nsP s ab 2 * nsP s ab 1) h ∧ tbP s ab 1 (nsP s ab 2) h ∧ tbP s ab 2 1 h ∧ hcI s ab t 27 h ∧ dyI r1 r2 h
theorem tbP.fr {s : Nat → Int32} {ab p σ : Nat} {X : List Nat} {h g : Hp} (hp : p < 3) (a : tbP s ab p σ h) (f : Fr X h g) (hx : ∀ k, k ∈ tcs → k ∉ X) : tbP s ab p σ g := by
  have m1 : ∀ p, p < 3 → 44 + p ∈ tcs ∧ 48 + p ∈ tcs ∧ 52 + p ∈ tcs := by decide
  obtain ⟨x, y, z⟩ := m1 p hp
  obtain ⟨a1, a2⟩ := a
  refine ⟨?_, fun st hs b => ?_⟩
  · rw [f.1 42 (hx _ (by decide))]
    exact a1
  · rw [f.1 _ (hx _ x), f.1 _ (hx _ y), f.1 _ (hx _ z)]
    exact a2 st hs b
theorem hcI.fr {s : Nat → Int32} {ab t n : Nat} {X : List Nat} {h g : Hp} (a : hcI s ab t n h) (f : Fr X h g) (hx : 55 ∉ X) : hcI s ab t n g := fun m hm hp => by
  rw [f.1 55 hx]
  exact a m hm hp
theorem dyI.fr {r1 r2 : Nat} {X : List Nat} {h g : Hp} (a : dyI r1 r2 h) (f : Fr X h g) (hx : 38 ∉ X) : dyI r1 r2 g := ⟨a.1, by rw [f.1 38 hx]; exact a.2.1, by rw [f.1 38 hx]; exact a.2.2⟩
theorem spH.fr {s : Nat → Int32} {ab t r1 r2 : Nat} {h g : Hp} (a : spH s ab t r1 r2 h) (f : Fr [r2] h g) : spH s ab t r1 r2 g := by
  obtain ⟨a0, a1, a2, a3, a4⟩ := a
  have hr : r2 = 56 ∨ r2 = 57 := by
    rcases a4.1 with ⟨-, e⟩ | ⟨-, e⟩
    · exact Or.inr e
    · exact Or.inl e
  have hx : ∀ k, k ∈ tcs → k ∉ [r2] := by
    rcases hr with e | e <;> subst e <;> decide
  have h55 : 55 ∉ [r2] := by
    rcases hr with e | e <;> subst e <;> decide
  have h38 : 38 ∉ [r2] := by
    rcases hr with e | e <;> subst e <;> decide
  exact ⟨a0.fr (by decide) f hx, a1.fr (by decide) f hx, a2.fr (by decide) f hx, a3.fr f h55, a4.fr f h38⟩
/-- keys at place q: those of S, and those that moves of D bring there -/
def spS (s : Nat → Int32) (ab t a b c K : Nat) (S : Nat → Nat → Prop) (D : Bool → Bool → Bool → Prop) (q k : Nat) : Prop := S q k ∨ ∃ x y z : Bool, D x y z ∧ lgA s ab t a b c x y z = true ∧ q = plA s ab (nxP s ab 0 a x) (nxP s ab 1 b y) (nxP s ab 2 c z) ∧ k = K + dlA s ab t a b c x y z
def spI (s : Nat → Int32) (ab t a b c K r2 : Nat) (S : Nat → Nat → Prop) (D : Bool → Bool → Bool → Prop) (g : Hp) : Prop := ∀ q, q < totA s ab → mnS (spS s ab t a b c K S D q) (g.1 r2 q)
theorem spI_mono {s : Nat → Int32} {ab t a b c K r2 : Nat} {S : Nat → Nat → Prop} {D E : Bool → Bool → Bool → Prop} {g : Hp} (h : spI s ab t a b c K r2 S D g) (hd : ∀ x y z, lgA s ab t a b c x y z = true → (D x y z ↔ E x y z)) : spI s ab t a b c K r2 S E g := fun q hq => by
  refine mnS_congr (fun k => ?_) (h q hq)
  unfold spS
  constructor
  · rintro (z | ⟨x, y, z, h1, h2, h3⟩)
    · exact Or.inl z
    · exact Or.inr ⟨x, y, z, (hd x y z h2).mp h1, h2, h3⟩
  · rintro (z | ⟨x, y, z, h1, h2, h3⟩)
    · exact Or.inl z
    · exact Or.inr ⟨x, y, z, (hd x y z h2).mpr h1, h2, h3⟩
theorem bits_nI (x y z : Bool) : ∀ t, t < 5 → (((nI x.toNat <<< (nI 10 &&& 31)) ||| (nI y.toNat <<< (nI 5 &&& 31))) ||| nI z.toNat) <<< (nI t &&& 31) = nI (biA x y z * 2 ^ t) := by
  cases x <;> cases y <;> cases z <;> decide +kernel
theorem and1_nI (a : Nat) (ha : a < 1000) (x : Bool) : nI (2 * a + x.toNat) &&& 1 = nI x.toNat := by
  rw [pk_andN (by cases x <;> simp <;> omega) 1 (by decide)]
  congr 1
  cases x <;> simp <;> omega
theorem lg_nI {b : Bool} {n : Nat} (hn : n < 2 ^ 31) : ((if b then nI n else -1) < 0) ↔ b = false := by
  cases b with
  | true =>
    rw [if_pos rfl]
    exact ⟨fun z => absurd z (nI_pos hn), fun z => by cases z⟩
  | false =>
    rw [if_neg Bool.false_ne_true]
    exact ⟨fun _ => rfl, fun _ => by decide⟩
set_option maxHeartbeats 8000000 in
theorem ct_spreadFrom {dm rm ab t a b c K r1 r2 : Nat} (hdm : dm ≤ 500) (ht : t < 5) (hK : K ≤ 350000000) (h : Hp) (s : Nat → Int32) (i : InL dm rm s) (I : spH s ab t r1 r2 h) (ha : a < nsP s ab 0) (hb : b < nsP s ab 1) (hc : c < nsP s ab 2) (S : Nat → Nat → Prop) (hS : ∀ q, q < totA s ab → mnS (S q) (h.1 r2 q)) : CtV 1 mX7_spreadFrom [.ref 38, .int (nI K), .int (nI t), .int (nI (2 * a)), .int (nI (2 * b)), .int (nI (2 * c))] h (fun g => Fr [r2] h g ∧ spI s ab t a b c K r2 S (fun _ _ _ => True) g) := by
  obtain ⟨a1, a7⟩ := nsP_b i ab 0
  obtain ⟨b1, b7⟩ := nsP_b i ab 1
  obtain ⟨c1, c7⟩ := nsP_b i ab 2
  obtain ⟨-, tot⟩ := totA_b i ab
  have tn : ∀ x : Bool, x.toNat ≤ 1 := fun x => by cases x <;> decide
  -- one move more
  have stepZ : ∀ (x y z : Bool) (D : Bool → Bool → Bool → Prop) (g : Hp), Fr [r2] h g → spI s ab t a b c K r2 S D g → lgP s ab 0 a x = true → lgP s ab 1 b y = true →
      (∀ g' : Hp, Fr [r2] h g' → spI s ab t a b c K r2 S (fun x' y' z' => D x' y' z' ∨ (x' = x ∧ y' = y ∧ z' = z)) g' → GoV 1 mX7_spreadFrom 55 [(0, .ref 38), (1, .int (nI K)), (2, .int (nI t)), (3, .int (nI (2 * a))), (4, .int (nI (2 * b))), (5, .int (nI (2 * c))), (6, .int (nI (2 * a + x.toNat))), (7, .int (nI (2 * b + y.toNat))), (8, .int (nI (2 * c + z.toNat + 1)))] [] g' (fun g => Fr [r2] h g ∧ spI s ab t a b c K r2 S (fun _ _ _ => True) g)) →
      GoV 1 mX7_spreadFrom 55 [(0, .ref 38), (1, .int (nI K)), (2, .int (nI t)), (3, .int (nI (2 * a))), (4, .int (nI (2 * b))), (5, .int (nI (2 * c))), (6, .int (nI (2 * a + x.toNat))), (7, .int (nI (2 * b + y.toNat))), (8, .int (nI (2 * c + z.toNat)))] [] g (fun g => Fr [r2] h g ∧ spI s ab t a b c K r2 S (fun _ _ _ => True) g) := by
    intro x y z D g f sp lx ly k
    have hx := tn x
    have hy := tn y
    have hz := tn z
    obtain ⟨t0, t1, t2, hh, dd⟩ := I.fr f
    obtain ⟨u1, u2, u3⟩ := t0.2 a ha x
    obtain ⟨v1, v2, v3⟩ := t1.2 b hb y
    obtain ⟨w1, w2, w3⟩ := t2.2 c hc z
    have u1 : g.1 44 (2 * a + x.toNat) = nI (nxP s ab 0 a x * (nsP s ab 2 * nsP s ab 1)) := by rw [lx, if_pos rfl] at u1; exact u1
    have u2 : g.1 48 (2 * a + x.toNat) = nI (mdP s ab 0 a x) := u2
    have u3 : g.1 52 (2 * a + x.toNat) = nI (tlP s ab 0 a x * 32768) := u3
    have v1 : g.1 45 (2 * b + y.toNat) = nI (nxP s ab 1 b y * nsP s ab 2) := by rw [ly, if_pos rfl] at v1; exact v1
    have v2 : g.1 49 (2 * b + y.toNat) = nI (mdP s ab 1 b y) := v2
    have v3 : g.1 53 (2 * b + y.toNat) = nI (tlP s ab 1 b y * 32768) := v3
    have w1 : g.1 46 (2 * c + z.toNat) = if lgP s ab 2 c z then nI (nxP s ab 2 c z * 1) else -1 := w1
    have w2 : g.1 50 (2 * c + z.toNat) = nI (mdP s ab 2 c z) := w2
    have w3 : g.1 54 (2 * c + z.toNat) = nI (tlP s ab 2 c z * 32768) := w3
    have vx : vp_in (nI (2 * a + x.toNat)) 14 := vp_in_nI (by omega) (by omega)
    have vy : vp_in (nI (2 * b + y.toNat)) 14 := vp_in_nI (by omega) (by omega)
    have vz : vp_in (nI (2 * c + z.toNat)) 14 := vp_in_nI (by omega) (by omega)
    have cx : (nI (2 * a + x.toNat)).toNatClampNeg = 2 * a + x.toNat := nI_clamp (by omega)
    have cy : (nI (2 * b + y.toNat)).toNatClampNeg = 2 * b + y.toNat := nI_clamp (by omega)
    have cz : (nI (2 * c + z.toNat)).toNatClampNeg = 2 * c + z.toNat := nI_clamp (by omega)
    obtain ⟨m27, -⟩ := mdA_d s ab a b c x y z
    have em : ((9 * nI (mdP s ab 0 a x)) + (3 * nI (mdP s ab 1 b y))) + nI (mdP s ab 2 c z) = nI (mdA s ab a b c x y z) := by
      rw [show (9 : Int32) = nI 9 from rfl, show (3 : Int32) = nI 3 from rfl, pk_mul, pk_mul, nI_add, nI_add]
      rfl
    have cm : (nI (mdA s ab a b c x y z)).toNatClampNeg = mdA s ab a b c x y z := nI_clamp (by omega)
    have e55 : g.1 55 (mdA s ab a b c x y z) = hcM s t (mdA s ab a b c x y z) := hh _ m27 (mdA_p s ab a b c x y z)
    have nx2 := nxP_lt i (b := z) hc
    -- nothing new
    have skip : lgA s ab t a b c x y z = false → GoV 1 mX7_spreadFrom 245 [(0, .ref 38), (1, .int (nI K)), (2, .int (nI t)), (3, .int (nI (2 * a))), (4, .int (nI (2 * b))), (5, .int (nI (2 * c))), (6, .int (nI (2 * a + x.toNat))), (7, .int (nI (2 * b + y.toNat))), (8, .int (nI (2 * c + z.toNat)))] [] g (fun g => Fr [r2] h g ∧ spI s ab t a b c K r2 S (fun _ _ _ => True) g) := by
      intro lf
      refine b_X7_spreadFrom_245 ?_
      rw [nI_1]
      refine k g f (spI_mono sp (fun x' y' z' lg => ⟨Or.inl, fun q => ?_⟩))
      rcases q with q | ⟨e1, e2, e3⟩
      · exact q
      · subst e1
        subst e2
        subst e3
        rw [lf] at lg
        cases lg
    have i2 : nI (2 * c) + 2 = nI (2 * c + 2) := nI_add _ 2
    refine b_X7_spreadFrom_55 ?_
    rw [i2, cx, cy, cz, u2, v2, w2, em, cm, e55, w1]
    refine ⟨fun q => absurd q (fun q => absurd ((nI_leI (by omega) (by omega)).mp q) (by omega)), fun _ => ⟨vx, vy, vz, vp_in_nI m27 (by omega), vz, fun q => skip ?_, fun q => ⟨fun q2 => ?_, fun q2 => skip ?_⟩⟩⟩
    · rw [lg_nI (by omega)] at q
      unfold lgA
      rw [q, Bool.and_false]
      rfl
    · have lz : lgP s ab 2 c z = true := by
        rw [lg_nI (by omega)] at q
        cases hl : lgP s ab 2 c z with
        | true => rfl
        | false => exact absurd hl q
      have lc : cnP s (s (4 + t)) (s (9 + t)) (nI (sM (mdA s ab a b c x y z))) (nI (gM (mdA s ab a b c x y z))) = true := by
        cases hl : cnP s (s (4 + t)) (s (9 + t)) (nI (sM (mdA s ab a b c x y z))) (nI (gM (mdA s ab a b c x y z))) with
        | true => rfl
        | false =>
          unfold hcM at q2
          rw [hl, if_neg Bool.false_ne_true] at q2
          exact absurd q2 (by decide)
      have lg : lgA s ab t a b c x y z = true := by
        unfold lgA
        rw [lx, ly, lz, lc]
        rfl
      obtain ⟨v, hv, ev⟩ := hcM_b hdm i ht lc
      have nx0 := nxP_lt i (b := x) ha
      have nx1 := nxP_lt i (b := y) hb
      have pl := plA_lt (s := s) (ab := ab) nx0 nx1 nx2
      refine pc (ct_rowShift (p := 0) (by decide) g) (pc (ct_rowShift (p := 1) (by decide) g) ⟨vx, vy, vz, vx, vy, vz, r2, dd.t, dd.1.c.2.1, r2, dd.t, dd.1.c.2.1, ?_⟩)
      rw [u1, v1, w1, lz, if_pos rfl, nI_add, nI_add, plA_sum, nI_clamp (show plA s ab (nxP s ab 0 a x) (nxP s ab 1 b y) (nxP s ab 2 c z) < 2 ^ 31 by omega), u3, v3, w3, ev, shl15 v (by omega), and1_nI a (by omega) x, and1_nI b (by omega) y, and1_nI c (by omega) z]
      have eb := bits_nI x y z t ht
      rw [show 5 * (2 - 0) = 10 from rfl, show 5 * (2 - 1) = 5 from rfl, eb, nI_add, nI_add, nI_add, nI_add, nI_add]
      have ed : K + v * 32768 + tlP s ab 0 a x * 32768 + tlP s ab 1 b y * 32768 + tlP s ab 2 c z * 32768 + biA x y z * 2 ^ t = K + dlA s ab t a b c x y z := by
        unfold dlA coA
        rw [ev, nI_clamp (by omega)]
        omega
      rw [ed]
      have kb : K + dlA s ab t a b c x y z < 2147483647 := by
        have h1 := coA_b hdm i ht ha hb hc lg
        have h2 := biA_b x y z
        have h3 : 2 ^ t ≤ 2 ^ 4 := Nat.pow_le_pow_right (by decide) (by omega)
        have h4 : biA x y z * 2 ^ t ≤ 1057 * 16 := Nat.mul_le_mul h2 h3
        unfold dlA
        omega
      refine ⟨vp_in_nI (by omega) (by omega), pc (ct_min _ _ g) ⟨vp_in_nI (by omega) (by omega), fun g35 e35 => b_X7_spreadFrom_245 ?_⟩⟩
      rw [nI_1]
      refine k g35 ?_ (fun q hq => ?_)
      · rw [e35]
        exact f.tr (Fr.ui (List.mem_cons_self ..))
      · rw [e35, ui_get]
        by_cases y0 : q = plA s ab (nxP s ab 0 a x) (nxP s ab 1 b y) (nxP s ab 2 c z)
        · subst y0
          rw [if_pos ⟨rfl, rfl⟩]
          refine mnS_congr (fun k => ?_) (mnS_add (sp _ pl) kb)
          unfold spS
          constructor
          · rintro ((z1 | ⟨x', y', z', h1, h2⟩) | z1)
            · exact Or.inl z1
            · exact Or.inr ⟨x', y', z', Or.inl h1, h2⟩
            · exact Or.inr ⟨x, y, z, Or.inr ⟨rfl, rfl, rfl⟩, lg, rfl, z1⟩
          · rintro (z1 | ⟨x', y', z', h1 | ⟨r1, r2, r3⟩, h2, h3, h4⟩)
            · exact Or.inl (Or.inl z1)
            · exact Or.inl (Or.inr ⟨x', y', z', h1, h2, h3, h4⟩)
            · subst r1
              subst r2
              subst r3
              exact Or.inr h4
        · rw [if_neg (fun z => y0 z.2)]
          refine mnS_congr (fun k => ?_) (sp q hq)
          unfold spS
          constructor
          · rintro (z1 | ⟨x', y', z', h1, h2⟩)
            · exact Or.inl z1
            · exact Or.inr ⟨x', y', z', Or.inl h1, h2⟩
          · rintro (z1 | ⟨x', y', z', h1 | ⟨r1, r2, r3⟩, h2, h3, h4⟩)
            · exact Or.inl z1
            · exact Or.inr ⟨x', y', z', h1, h2, h3, h4⟩
            · subst r1
              subst r2
              subst r3
              exact absurd h3 y0
    · have lc : cnP s (s (4 + t)) (s (9 + t)) (nI (sM (mdA s ab a b c x y z))) (nI (gM (mdA s ab a b c x y z))) = false := by
        cases hl : cnP s (s (4 + t)) (s (9 + t)) (nI (sM (mdA s ab a b c x y z))) (nI (gM (mdA s ab a b c x y z))) with
        | false => rfl
        | true =>
          obtain ⟨v, hv, ev⟩ := hcM_b hdm i ht hl
          rw [ev] at q2
          exact absurd (Int32.not_lt.mp (nI_pos (by omega))) q2
      unfold lgA
      rw [lc, Bool.and_false]
  -- one row of moves more
  have stepY : ∀ (x y : Bool) (D : Bool → Bool → Bool → Prop) (g : Hp), Fr [r2] h g → spI s ab t a b c K r2 S D g →
      (∀ g' : Hp, Fr [r2] h g' → spI s ab t a b c K r2 S (fun x' y' z' => D x' y' z' ∨ (x' = x ∧ y' = y)) g' → GoV 1 mX7_spreadFrom 15 [(0, .ref 38), (1, .int (nI K)), (2, .int (nI t)), (3, .int (nI (2 * a))), (4, .int (nI (2 * b))), (5, .int (nI (2 * c))), (6, .int (nI (2 * a + x.toNat))), (7, .int (nI (2 * b + y.toNat + 1)))] [] g' (fun g => Fr [r2] h g ∧ spI s ab t a b c K r2 S (fun _ _ _ => True) g)) →
      GoV 1 mX7_spreadFrom 15 [(0, .ref 38), (1, .int (nI K)), (2, .int (nI t)), (3, .int (nI (2 * a))), (4, .int (nI (2 * b))), (5, .int (nI (2 * c))), (6, .int (nI (2 * a + x.toNat))), (7, .int (nI (2 * b + y.toNat)))] [] g (fun g => Fr [r2] h g ∧ spI s ab t a b c K r2 S (fun _ _ _ => True) g) := by
    intro x y D g f sp k
    have hx := tn x
    have hy := tn y
    obtain ⟨t0, t1, t2, hh, dd⟩ := I.fr f
    have u1 : g.1 44 (2 * a + x.toNat) = if lgP s ab 0 a x then nI (nxP s ab 0 a x * (nsP s ab 2 * nsP s ab 1)) else -1 := (t0.2 a ha x).1
    have v1 : g.1 45 (2 * b + y.toNat) = if lgP s ab 1 b y then nI (nxP s ab 1 b y * nsP s ab 2) else -1 := (t1.2 b hb y).1
    have nx0 := nxP_lt i (b := x) ha
    have nx1 := nxP_lt i (b := y) hb
    have bo : nxP s ab 0 a x * (nsP s ab 2 * nsP s ab 1) < 2 ^ 31 := by
      have h1 : nsP s ab 2 * nsP s ab 1 ≤ 7 * 7 := Nat.mul_le_mul c7 b7
      have h2 : nxP s ab 0 a x * (nsP s ab 2 * nsP s ab 1) ≤ 7 * (7 * 7) := Nat.mul_le_mul (by omega) h1
      omega
    have bo1 : nxP s ab 1 b y * nsP s ab 2 < 2 ^ 31 := by
      have h2 : nxP s ab 1 b y * nsP s ab 2 ≤ 7 * 7 := Nat.mul_le_mul (by omega) c7
      omega
    have i2 : nI (2 * b) + 2 = nI (2 * b + 2) := nI_add _ 2
    have s251 : ∀ g' : Hp, Fr [r2] h g' → spI s ab t a b c K r2 S (fun x' y' z' => D x' y' z' ∨ (x' = x ∧ y' = y)) g' → GoV 1 mX7_spreadFrom 251 [(0, .ref 38), (1, .int (nI K)), (2, .int (nI t)), (3, .int (nI (2 * a))), (4, .int (nI (2 * b))), (5, .int (nI (2 * c))), (6, .int (nI (2 * a + x.toNat))), (7, .int (nI (2 * b + y.toNat)))] [] g' (fun g => Fr [r2] h g ∧ spI s ab t a b c K r2 S (fun _ _ _ => True) g) := by
      intro g' f' sp'
      refine b_X7_spreadFrom_251 ?_
      rw [nI_1]
      exact k g' f' sp'
    have skip : (lgP s ab 0 a x && lgP s ab 1 b y) = false → spI s ab t a b c K r2 S (fun x' y' z' => D x' y' z' ∨ (x' = x ∧ y' = y)) g := by
      intro lf
      refine spI_mono sp (fun x' y' z' lg => ⟨Or.inl, fun q => ?_⟩)
      rcases q with q | ⟨e1, e2⟩
      · exact q
      · subst e1
        subst e2
        unfold lgA at lg
        rw [lf] at lg
        cases lg
    refine b_X7_spreadFrom_15 ?_
    rw [i2, nI_clamp (show 2 * a + x.toNat < 2 ^ 31 by omega), nI_clamp (show 2 * b + y.toNat < 2 ^ 31 by omega), u1, v1]
    refine ⟨fun q => absurd q (fun q => absurd ((nI_leI (by omega) (by omega)).mp q) (by omega)), fun _ => ⟨vp_in_nI (by omega) (by omega), fun q => s251 g f (skip ?_), fun q => ⟨vp_in_nI (by omega) (by omega), fun q2 => ?_, fun q2 => s251 g f (skip ?_)⟩⟩⟩
    · rw [lg_nI bo] at q
      rw [q]
      rfl
    · have lx : lgP s ab 0 a x = true := by
        rw [lg_nI bo] at q
        cases hl : lgP s ab 0 a x with
        | true => rfl
        | false => exact absurd hl q
      have ly : lgP s ab 1 b y = true := by
        have q2 := Int32.not_lt.mpr q2
        rw [lg_nI bo1] at q2
        cases hl : lgP s ab 1 b y with
        | true => rfl
        | false => exact absurd hl q2
      refine stepZ x y false D g f sp lx ly (fun g1 f1 sp1 => stepZ x y true _ g1 f1 sp1 lx ly (fun g2 f2 sp2 => ?_))
      have i2c : nI (2 * c) + 2 = nI (2 * c + 2) := nI_add _ 2
      refine b_X7_spreadFrom_55 ?_
      rw [i2c]
      refine ⟨fun _ => s251 g2 f2 (spI_mono sp2 (fun x' y' z' _ => ?_)), fun q => absurd ((nI_leI (by omega) (by omega)).mpr (Nat.le_refl _)) q⟩
      constructor
      · rintro ((q | ⟨e1, e2, e3⟩) | ⟨e1, e2, e3⟩)
        · exact Or.inl q
        · exact Or.inr ⟨e1, e2⟩
        · exact Or.inr ⟨e1, e2⟩
      · rintro (q | ⟨e1, e2⟩)
        · exact Or.inl (Or.inl q)
        · cases z' with
          | false => exact Or.inl (Or.inr ⟨e1, e2, rfl⟩)
          | true => exact Or.inr ⟨e1, e2, rfl⟩
    · have ly : lgP s ab 1 b y = false := (lg_nI bo1).mp (Int32.not_le.mp q2)
      rw [ly, Bool.and_false]
  have stepX : ∀ (x : Bool) (D : Bool → Bool → Bool → Prop) (g : Hp), Fr [r2] h g → spI s ab t a b c K r2 S D g →
      (∀ g' : Hp, Fr [r2] h g' → spI s ab t a b c K r2 S (fun x' y' z' => D x' y' z' ∨ x' = x) g' → GoV 1 mX7_spreadFrom 3 [(0, .ref 38), (1, .int (nI K)), (2, .int (nI t)), (3, .int (nI (2 * a))), (4, .int (nI (2 * b))), (5, .int (nI (2 * c))), (6, .int (nI (2 * a + x.toNat + 1)))] [] g' (fun g => Fr [r2] h g ∧ spI s ab t a b c K r2 S (fun _ _ _ => True) g)) →
      GoV 1 mX7_spreadFrom 3 [(0, .ref 38), (1, .int (nI K)), (2, .int (nI t)), (3, .int (nI (2 * a))), (4, .int (nI (2 * b))), (5, .int (nI (2 * c))), (6, .int (nI (2 * a + x.toNat)))] [] g (fun g => Fr [r2] h g ∧ spI s ab t a b c K r2 S (fun _ _ _ => True) g) := by
    intro x D g f sp k
    have hx := tn x
    have i2 : nI (2 * a) + 2 = nI (2 * a + 2) := nI_add _ 2
    have i2b : nI (2 * b) + 2 = nI (2 * b + 2) := nI_add _ 2
    refine b_X7_spreadFrom_3 ?_
    rw [i2]
    refine ⟨fun q => absurd q (fun q => absurd ((nI_leI (by omega) (by omega)).mp q) (by omega)), fun _ => stepY x false D g f sp (fun g1 f1 sp1 => stepY x true _ g1 f1 sp1 (fun g2 f2 sp2 => b_X7_spreadFrom_15 ?_))⟩
    rw [i2b]
    refine ⟨fun _ => ?_, fun q => absurd ((nI_leI (by omega) (by omega)).mpr (Nat.le_refl _)) q⟩
    rw [nI_1]
    refine k g2 f2 (spI_mono sp2 (fun x' y' z' _ => ?_))
    constructor
    · rintro ((q | ⟨e1, e2⟩) | ⟨e1, e2⟩)
      · exact Or.inl q
      · exact Or.inr e1
      · exact Or.inr e1
    · rintro (q | e1)
      · exact Or.inl (Or.inl q)
      · cases y' with
        | false => exact Or.inl (Or.inr ⟨e1, rfl⟩)
        | true => exact Or.inr ⟨e1, rfl⟩
  refine e_X7_spreadFrom (stepX false (fun _ _ _ => False) h Fr.rf (fun q hq => mnS_congr (fun k => ?_) (hS q hq)) (fun g1 f1 sp1 => stepX true _ g1 f1 sp1 (fun g2 f2 sp2 => b_X7_spreadFrom_3 ?_)))
  · unfold spS
    exact ⟨Or.inl, fun q => q.elim id (fun ⟨_, _, _, z, _⟩ => z.elim)⟩
  · have i2 : nI (2 * a) + 2 = nI (2 * a + 2) := nI_add _ 2
    rw [i2]
    refine ⟨fun _ => ⟨f2, spI_mono sp2 (fun x' y' z' _ => ⟨fun _ => trivial, fun _ => ?_⟩)⟩, fun q => absurd ((nI_leI (by omega) (by omega)).mpr (Nat.le_refl _)) q⟩
    cases x' with
    | false => exact Or.inl (Or.inr rfl)
    | true => exact Or.inr rfl
