/-! ===== the start: what holds of the machine at the law's entry ===== -/
theorem hS_lo {X : Nat → Int32} {L c k : Nat} (hk : k < 2000) : (hS X L c).1 k = (hI hz (IV.drop c)).1 k := hI_same (by rw [hB_0 hk]; rfl) _
theorem hS_hi {X : Nat → Int32} {L c : Nat} (h : lowI c 136 = true) : (hS X L c).1 2000 = X ∧ (hS X L c).1 2001 0 = nI L := by
  unfold hS
  rw [hI_low h 2000 (by decide), hI_low h 2001 (by decide)]
  exact ⟨rfl, rfl⟩
/-- the world behind the two constructors -/
theorem rfL_some : ∀ {l : List (Nat × Nat × Nat)} {k i r : Nat}, rfL l k i = some r → (k, i, r) ∈ l
  | [], _, _, _, h => by cases h
  | e :: t, k, i, r, h => by
    have h : u2 (rfL t) e.1 e.2.1 (some e.2.2) k i = some r := h
    by_cases hk : k = e.1
    · subst hk
      rw [u2_eq] at h
      by_cases hi : i = e.2.1
      · subst hi
        rw [if_pos rfl] at h
        cases h
        exact List.mem_cons_self
      · rw [if_neg hi] at h
        exact List.mem_cons_of_mem _ (rfL_some h)
    · rw [u2_ne hk] at h
      exact List.mem_cons_of_mem _ (rfL_some h)
theorem rfL_no : ∀ {l : List (Nat × Nat × Nat)} {k i : Nat}, rfL l k i = none → ∀ e ∈ l, e.1 ≠ k ∨ e.2.1 ≠ i
  | [], _, _, _, _, he => by cases he
  | e :: t, k, i, h, q, hq => by
    have h : u2 (rfL t) e.1 e.2.1 (some e.2.2) k i = none := h
    by_cases hk : k = e.1
    · subst hk
      rw [u2_eq] at h
      by_cases hi : i = e.2.1
      · rw [if_pos hi] at h
        cases h
      · rw [if_neg hi] at h
        rcases List.mem_cons.mp hq with rfl | hq
        · exact Or.inr (fun z => hi z.symm)
        · exact rfL_no h q hq
    · rw [u2_ne hk] at h
      rcases List.mem_cons.mp hq with rfl | hq
      · exact Or.inl (fun z => hk z.symm)
      · exact rfL_no h q hq
theorem rft_none {k i : Nat} (h : ∀ e ∈ RFT, e.1 ≠ k ∨ e.2.1 ≠ i) : rft k i = none := by
  unfold rft
  rw [List.find?_eq_none.mpr (fun e he => ?_)]
  · rfl
  · rcases h e he with q | q
    · simp [q]
    · simp [q]
theorem rv_in : (RV.all fun e => decide (rft e.1 e.2.1 = some e.2.2)) = true := by decide +kernel
theorem rv_all : (RFT.all fun e => RV.any fun q => Nat.beq q.1 e.1 && Nat.beq q.2.1 e.2.1) = true := by decide +kernel
theorem w0_end : Wab 0 136 = w0 := by
  refine Prod.ext ?_ ?_
  · funext k i
    show rfL RV k i = rft k i
    cases h : rfL RV k i with
    | some r => exact (of_decide_eq_true (List.all_eq_true.mp rv_in _ (rfL_some h))).symm
    | none =>
      refine (rft_none (fun e he => ?_)).symm
      obtain ⟨q, h1, h2⟩ := List.any_eq_true.mp (List.all_eq_true.mp rv_all e he)
      rw [Bool.and_eq_true] at h2
      have e1 := Nat.eq_of_beq_eq_true h2.1
      have e2 := Nat.eq_of_beq_eq_true h2.2
      rcases rfL_no h q h1 with z | z
      · exact Or.inl (fun w => z (e1.trans w))
      · exact Or.inr (fun w => z (e2.trans w))
  · show SHP.take 136 = SHP
    exact List.take_of_length_le (by decide +kernel)
theorem st_cls {args : Array Value} {s : State} (hts : ∀ x ∈ lw_gd, x.before args s = true) : ∃ D : va_G, ∀ (c : Nat) (q : vw_C), vwCl[c]? = some q → u_Kn s q.1 q.2.1 q.2.2 (D.1 c) (D.2 c) := by
  have h0 : ∀ c : Nat, ∃ y : ClassId × (Nat → Nat), ∀ q : vw_C, vwCl[c]? = some q → u_Kn s q.1 q.2.1 q.2.2 y.1 y.2 := fun c => by
    match c with
    | 0 =>
      obtain ⟨a, b, h⟩ := u_known (C := RX0) (T := TX0) (N := 8) hts inX0 (hts _ w_178)
      exact ⟨(a, b), fun q hq => by cases hq; exact h⟩
    | 1 =>
      obtain ⟨a, b, h⟩ := u_known (C := RX1) (T := TX1) (N := 2) hts inX1 (hts _ w_331)
      exact ⟨(a, b), fun q hq => by cases hq; exact h⟩
    | 2 =>
      obtain ⟨a, b, h⟩ := u_known (C := RX2) (T := TX2) (N := 6) hts inX2 (hts _ w_278)
      exact ⟨(a, b), fun q hq => by cases hq; exact h⟩
    | 3 =>
      obtain ⟨a, b, h⟩ := u_known (C := RX3) (T := TX3) (N := 10) hts inX3 (hts _ w_39)
      exact ⟨(a, b), fun q hq => by cases hq; exact h⟩
    | 4 =>
      obtain ⟨a, b, h⟩ := u_known (C := RX4) (T := TX4) (N := 4) hts inX4 (hts _ w_308)
      exact ⟨(a, b), fun q hq => by cases hq; exact h⟩
    | 5 =>
      obtain ⟨a, b, h⟩ := u_known (C := RX5) (T := TX5) (N := 9) hts inX5 (hts _ w_32)
      exact ⟨(a, b), fun q hq => by cases hq; exact h⟩
    | 6 =>
      obtain ⟨a, b, h⟩ := u_known (C := RX6) (T := TX6) (N := 4) hts inX6 (hts _ w_344)
      exact ⟨(a, b), fun q hq => by cases hq; exact h⟩
    | 7 =>
      obtain ⟨a, b, h⟩ := u_known (C := RX7) (T := TX7) (N := 13) hts inX7 (hts _ w_226)
      exact ⟨(a, b), fun q hq => by cases hq; exact h⟩
    | 8 =>
      obtain ⟨a, b, h⟩ := u_known (C := RX8) (T := TX8) (N := 5) hts inX8 (hts _ w_155)
      exact ⟨(a, b), fun q hq => by cases hq; exact h⟩
    | 9 =>
      obtain ⟨a, b, h⟩ := u_known (C := RX9) (T := TX9) (N := 3) hts inX9 (hts _ w_210)
      exact ⟨(a, b), fun q hq => by cases hq; exact h⟩
    | 10 =>
      obtain ⟨a, b, h⟩ := u_known (C := RX10) (T := TX10) (N := 13) hts inX10 (hts _ w_24)
      exact ⟨(a, b), fun q hq => by cases hq; exact h⟩
    | 11 =>
      obtain ⟨a, b, h⟩ := u_known (C := RX11) (T := TX11) (N := 31) hts inX11 (hts _ w_1051)
      exact ⟨(a, b), fun q hq => by cases hq; exact h⟩
    | c + 12 => exact ⟨(0, fun _ => 0), fun q hq => by rw [List.getElem?_eq_none (by show 12 ≤ c + 12; omega)] at hq; cases hq⟩
  obtain ⟨f, hf⟩ := Classical.axiomOfChoice h0
  exact ⟨(fun c => (f c).1, fun c => (f c).2), fun c q hq => hf c q hq⟩
theorem st_ai {args : Array Value} {s : State} (h : (Cond.arrayClass .int).before args s = true) : ∃ c : ClassId, ArrOfT s c .int ∧ va_RA s c .int := by
  obtain ⟨c, k, comp, h1, h2, h3⟩ := Cond.arrayClass_spec h
  exact ⟨c, fun n z => ⟨fun q hq => (by cases hq), k, h2, comp, h3⟩, h1⟩
theorem st_az {args : Array Value} {s : State} (h : (Cond.arrayClass .boolean).before args s = true) : ∃ c : ClassId, ArrOfT s c .boolean ∧ va_RA s c .boolean := by
  obtain ⟨c, k, comp, h1, h2, h3⟩ := Cond.arrayClass_spec h
  exact ⟨c, fun n z => ⟨fun q hq => (by cases hq), k, h2, comp, h3⟩, h1⟩
theorem st_ao {args : Array Value} {s : State} {C : String} (h : (Cond.arrayOver (.object C)).before args s = true) : ∃ c : ClassId, ArrOfT s c (.object C) ∧ va_RA s c (.object C) := by
  obtain ⟨comp, c, k, h1, h2, h3, h4, h5⟩ := Cond.arrayOver_spec h
  exact ⟨c, fun n z => ⟨fun q hq => (by cases hq), k, h3, comp, h4⟩, k, comp, h3, h4, h1, h5⟩
theorem st_aa {args : Array Value} {s : State} (h : (Cond.arrayOver (.array .int)).before args s = true) : ∃ c : ClassId, ArrOfT s c (.array .int) ∧ va_RA s c (.array .int) := by
  obtain ⟨comp, c, k, h1, h2, h3, h4, h5⟩ := arrayOverA_spec h
  exact ⟨c, fun n z => ⟨fun q hq => (by cases hq), k, h3, comp, h4⟩, h5⟩
theorem st_nst {args : Array Value} {s : State} (hts : ∀ w ∈ lw_tbl, w.before args s = true) : ∀ x ∈ lw_nst, va_Nw x s := fun x hx => by
  obtain ⟨h0, h1⟩ := List.mem_filter.mp hx
  have h2 := hts x h0
  cases x <;> first | exact va_Nw.of rfl h2 | cases h1
/-- where things lie -/
def adr (n b t z : Nat) (K V : Nat → Nat) (k : Nat) : Nat := if k < 900 then n + k else if k = 900 then t else if k = 901 then z else if k < 1100 then K (k - 1000) else if k < 2000 then V (k - 1100) else b
theorem st_str {N : Nat} {len : List Nat} {byt : List (List Int32)} {K V K' V' : Nat → Nat} {A : Nat → Prop} {U : State} {H : Heap} (h : vk_S N len byt K V A U H) (e1 : ∀ i, i < N → K' i = K i) (e2 : ∀ i, i < N → V' i = V i) : vk_S N len byt K' V' A U H := by
  refine ⟨fun i hi => ?_, fun i j hi hj e => ?_⟩
  · rw [e1 i hi, e2 i hi]
    exact h.1 i hi
  · rw [e1 i hi, e1 j hj] at e
    exact h.2 i j hi hj e
theorem st_E {s : State} {b L : Nat} {xs : Nat → Int32} (hbl : b < s.heap.size) (hts : ∀ w ∈ lw_tbl, w.before #[Value.ref b] s = true) (hX : va_X b L xs s s.heap) (hgv : (Jvm.Cond.and given_1 narrow_1).before #[Value.ref b] s = true) : ∃ E : En, EOk E s s.heap ∧ eB E = s.heap.size ∧ eA E 2000 = b ∧ eL E = L ∧ eX E = xs := by
  have hA : ∀ a : Nat, a < s.heap.size → ¬ (fun q : Nat => s.heap.size ≤ q) a := fun a h => Nat.not_le.mpr h
  have hs := flat_of_before _ hgv
  have hgd : ∀ x ∈ lw_gd, x.before #[Value.ref b] s = true := fun x hx => hts x (List.mem_filter.mp hx).1
  obtain ⟨D, hD⟩ := st_cls hgd
  obtain ⟨y0, hy0⟩ := st_ai (hgd _ w_96)
  obtain ⟨y1, hy1⟩ := st_az (hgd _ w_368)
  obtain ⟨y2, hy2⟩ := st_ao (C := RX3) (hts _ w_38)
  obtain ⟨y3, hy3⟩ := st_ao (C := RX1) (hts _ w_328)
  obtain ⟨y4, hy4⟩ := st_ao (C := RX6) (hts _ w_330)
  obtain ⟨y5, hy5⟩ := st_aa (hts _ w_232)
  obtain ⟨t, ht, hT⟩ := va_Tof (s := s) (args := #[Value.ref b]) (tm := .static RX10 "KIND_ABOVE" "[I") (ty := .int) (N := 6) (f := fun j => .int (kaf j)) (A := fun q : Nat => s.heap.size ≤ q) (by decide) (hs _ (by decide +kernel)) (va_eqt (hs _ (by decide +kernel))) (fun j hj => va_eqt (hs _ ((by decide +kernel : ∀ j, j < 6 → Cond.eq (.elem (.static RX10 "KIND_ABOVE" "[I") (.int (Int32.ofNat j))) (.int (kaf j)) ∈ flatC (Jvm.Cond.and given_1 narrow_1)) j hj))) hA
  obtain ⟨aK, aV, hStr, hev⟩ := vk_Sof (s := s) (args := #[Value.ref b]) (N := 6) (tm := fun i => Term.string RX8 (st_idx i)) (len := st_len) (byt := st_byt) (A := fun q : Nat => s.heap.size ≤ q) (by decide)
    (fun i hi => hs _ ((by decide +kernel : ∀ i, i < 6 → Cond.exactly (Term.string RX8 (st_idx i)) "java/lang/String" ∈ flatC (Jvm.Cond.and given_1 narrow_1)) i hi))
    (fun i hi => hs _ ((by decide +kernel : ∀ i, i < 6 → Cond.eq (.field (Term.string RX8 (st_idx i)) "java/lang/String" "coder" "B") (.int 0) ∈ flatC (Jvm.Cond.and given_1 narrow_1)) i hi))
    (fun i hi => hs _ ((by decide +kernel : ∀ i, i < 6 → Cond.arrayOf (.field (Term.string RX8 (st_idx i)) "java/lang/String" "value" "[B") .byte ∈ flatC (Jvm.Cond.and given_1 narrow_1)) i hi))
    (fun i hi => hs _ ((by decide +kernel : ∀ i, i < 6 → Cond.eq (.length (.field (Term.string RX8 (st_idx i)) "java/lang/String" "value" "[B")) (.int (Int32.ofNat (st_len.getD i 0))) ∈ flatC (Jvm.Cond.and given_1 narrow_1)) i hi))
    (fun i hi j hj => hs _ ((by decide +kernel : ∀ i, i < 6 → ∀ j, j < st_len.getD i 0 → Cond.eq (.elem (.field (Term.string RX8 (st_idx i)) "java/lang/String" "value" "[B") (.int (Int32.ofNat j))) (.int ((st_byt.getD i []).getD j 0)) ∈ flatC (Jvm.Cond.and given_1 narrow_1)) i hi j hj))
    (fun i j hi hj hij => by
      rcases (by decide +kernel : ∀ i, i < 6 → ∀ j, j < 6 → i ≠ j → Cond.not (Cond.eq (Term.string RX8 (st_idx i)) (Term.string RX8 (st_idx j))) ∈ flatC (Jvm.Cond.and given_1 narrow_1) ∨ Cond.not (Cond.eq (Term.string RX8 (st_idx j)) (Term.string RX8 (st_idx i))) ∈ flatC (Jvm.Cond.and given_1 narrow_1)) i hi j hj hij with q | q
      · exact Or.inl (hs _ q)
      · exact Or.inr (hs _ q)) hA
  have hZ : ∃ z : Nat, va_Z RJ3 "SIOOBE_FORMATTER" "Ljava/util/function/BiFunction;" (.ref z) (fun q : Nat => s.heap.size ≤ q) s s.heap ∨ va_Z RJ3 "SIOOBE_FORMATTER" "Ljava/util/function/BiFunction;" .null (fun q : Nat => s.heap.size ≤ q) s s.heap := by
    rcases va_Zqof (C := RJ3) (n := "SIOOBE_FORMATTER") (d := "Ljava/util/function/BiFunction;") (A := fun q : Nat => s.heap.size ≤ q) (hts _ w_486) (hgd _ w_16) (hs _ (by decide +kernel)) hA with q | ⟨z, q⟩
    · exact ⟨0, Or.inr q⟩
    · exact ⟨z, Or.inl q⟩
  obtain ⟨z, hZ⟩ := hZ
  have hC : va_Z RJ0 "COMPACT_STRINGS" "Z" (.int 1) (fun q : Nat => s.heap.size ≤ q) s s.heap := va_Zof (C := RJ0) (hts _ w_470) (hgd _ w_14) (va_eqi (hs _ (by decide +kernel))) hA
  have hKA : va_Z RX10 "KIND_ABOVE" "[I" (.ref t) (fun q : Nat => s.heap.size ≤ q) s s.heap := va_Zref (C := RX10) (hts _ w_638) (hgd _ w_1) ht hA
  have e0 : ∀ k, k < 900 → adr s.heap.size b t z aK aV k = s.heap.size + k := fun k hk => if_pos hk
  have e9 : adr s.heap.size b t z aK aV 900 = t := by simp [adr]
  have e91 : adr s.heap.size b t z aK aV 901 = z := by simp [adr]
  have eK : ∀ i, i < 6 → adr s.heap.size b t z aK aV (1000 + i) = aK i := fun i hi => by
    unfold adr
    rw [if_neg (by omega), if_neg (by omega), if_neg (by omega), if_pos (by omega), show 1000 + i - 1000 = i by omega]
  have eV : ∀ i, i < 6 → adr s.heap.size b t z aK aV (1100 + i) = aV i := fun i hi => by
    unfold adr
    rw [if_neg (by omega), if_neg (by omega), if_neg (by omega), if_neg (by omega), if_pos (by omega), show 1100 + i - 1100 = i by omega]
  have e2 : adr s.heap.size b t z aK aV 2000 = b := by simp [adr]
  refine ⟨(D, adr s.heap.size b t z aK aV, s.heap.size, fun k => if k = 0 then y0 else if k = 1 then y1 else if k = 2 then y2 else if k = 3 then y3 else if k = 4 then y4 else y5, L, xs), ⟨⟨⟨hD, fun k q hk => ?_⟩, st_nst hts, va_AO.of (hts _ w_38), va_AO.of (hts _ w_328), va_AO.of (hts _ w_330), fun i hi => ?_, hts _ w_232⟩, e0, ?_, ?_, hC, st_str hStr eK eV, ?_, ?_, ?_⟩, rfl, e2, rfl, rfl⟩
  · match k, hk with
    | 0, hk => cases hk; exact hy0
    | 1, hk => cases hk; exact hy1
    | 2, hk => cases hk; exact hy2
    | 3, hk => cases hk; exact hy3
    | 4, hk => cases hk; exact hy4
    | 5, hk => cases hk; exact hy5
    | k + 6, hk => rw [List.getElem?_eq_none (by show 6 ≤ k + 6; omega)] at hk; cases hk
  · show vk_R RX8 (st_idx i) (st_tx i) (adr s.heap.size b t z aK aV (1000 + i)) s
    rw [eK i hi]
    refine vk_R.of ?_ (hev i hi)
    match i, hi with
    | 0, _ => exact hts _ w_451
    | 1, _ => exact hts _ w_452
    | 2, _ => exact hts _ w_453
    | 3, _ => exact hts _ w_454
    | 4, _ => exact hts _ w_455
    | 5, _ => exact hts _ w_456
    | i + 6, h => omega
  · show va_Z RX10 "KIND_ABOVE" "[I" (.ref (adr s.heap.size b t z aK aV 900)) (fun q : Nat => s.heap.size ≤ q) s s.heap
    rw [e9]
    exact hKA
  · show va_T .int (adr s.heap.size b t z aK aV 900) 6 (fun j => .int (kaf j)) (fun q : Nat => s.heap.size ≤ q) s s.heap
    rw [e9]
    exact hT
  · show va_X (adr s.heap.size b t z aK aV 2000) L xs s s.heap
    rw [e2]
    exact hX
  · show ¬ s.heap.size ≤ adr s.heap.size b t z aK aV 2000
    rw [e2]
    omega
  · show va_Z RJ3 "SIOOBE_FORMATTER" "Ljava/util/function/BiFunction;" (.ref (adr s.heap.size b t z aK aV 901)) (fun q : Nat => s.heap.size ≤ q) s s.heap ∨ _
    rw [e91]
    exact hZ
