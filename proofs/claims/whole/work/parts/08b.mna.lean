/-! ===== new int[n][k] ===== -/
theorem mn_outer (c : ClassId) (N h0 : Nat) : ∀ i : Nat, Jvm.Free.Multi.outerC c N h0 i = arrV c N (fun j => va_rf (if j < i then some (h0 + 1 + j) else none))
  | 0 => by
    show ({ cls := c, slots := Array.replicate N .null, vm := .none } : Cell) = _
    rw [arrV_new]
    refine congrArg (arrV c N) (funext fun j => ?_)
    simp [va_rf]
  | i + 1 => by
    show (Jvm.Free.Multi.outerC c N h0 i).setSlot i (.ref (h0 + 1 + i)) = _
    rw [mn_outer c N h0 i, arrV_store]
    refine congrArg (arrV c N) (funext fun j => ?_)
    by_cases e : j = i
    · subst e
      simp [updV, va_rf]
    · by_cases h : j < i
      · simp [updV, e, h, Nat.lt_succ_of_lt h]
      · simp [updV, e, h, show ¬ j < i + 1 by omega]
theorem Rp.more {E : En} {U : State} {H2 : Heap} {w : Wd} {h : Hp} {H H1 : Heap} {R' : Nat → Nat → Option Nat} {L : List Cel} (hE : EOk E U H2) (hP : Rp E w h H) (hlen : w.2.length + L.length ≤ 900) (hz : H1.size = H.size + L.length) (o1 : ∀ q : Nat, q < H.size → H1[q]? = H[q]?) (hsz : H.size = eB E + w.2.length) (hR : ∀ a, a < w.2.length → R' a = w.1 a) (ha : ∀ (j : Nat) (c : Cel), L[j]? = some c → va_at (eD E) vwCl (eA E (w.2.length + j), cel E (R', w.2 ++ L) h (w.2.length + j) c) H1) : Rp E (R', w.2 ++ L) h H1 := by
  refine ⟨⟨fun _ => by simp only [List.length_append]; omega, hP.1.2⟩, by simp only [List.length_append]; omega, fun k q hk => ?_⟩
  have hk1 : va_P (eD E) vwCl (wld E w h) H1 := hP.2.2.kept (fun k x hx => o1 x.1 ((hP.2.2 k x hx).lt))
  obtain ⟨c, h1, rfl⟩ := wld_inv hk
  have h1 : (w.2 ++ L)[k]? = some c := h1
  by_cases hl : k < w.2.length
  · rw [List.getElem?_append_left hl] at h1
    have hold := hk1 k _ (wld_get E w h h1)
    have e : cel E (R', w.2 ++ L) h k c = cel E w h k c := cel_congr c (hR k hl) rfl rfl
    rw [e]
    exact hold
  · rw [List.getElem?_append_right (by omega)] at h1
    have := ha _ c h1
    rwa [show w.2.length + (k - w.2.length) = k by omega] at this
theorem go_mna {w : Wd} {d bc bs : Nat} {M : Mth} {pc pc2 : Nat} {ls : List (Nat × Value)} {st : List Value} {h : Hp} {Q : Option Value → Wd → Hp → Prop} {own : String} {index n0 N K : Nat} {n k : Int32} {R' : Nat → Nat → Option Nat} (hM : (my M).cls = own) (hd : decode (mc M) pc = .ok (.multianewarray index 2, 4)) (hp : pc + 4 = pc2) (hn0 : w.2.length = n0) (hlen : n0 < fin_) (hlen2 : n0 + 1 + N ≤ 900) (hw : Cond.classLink own index "[[I" ∈ lw_gd) (hw2 : Cond.arrayClass .int ∈ lw_gd) (hn : ¬ n < 0) (hk : ¬ k < 0) (hN : n.toNatClampNeg = N) (hK : k.toNatClampNeg = K) (hN2 : N ≤ 1000) (hK2 : K ≤ 1000) (hz0 : ∀ j i, j ≤ N → h.1 (n0 + j) i = 0) (hR : ∀ a, a < n0 → R' a = w.1 a) (hR1 : ∀ j, R' n0 j = if j < N then some (n0 + 1 + j) else none) (kk : Go (R', w.2 ++ ((105, N) :: List.replicate N (100, K))) (d, bc, bs) M pc2 ls (.ref n0 :: st) h Q) : Go w (d, bc + (1 + N), bs + (N + N * K)) M pc ls (.int k :: .int n :: st) h Q := by
  subst hp
  subst hn0
  subst hN
  subst hK
  intro E p l e R s m args below meth c H locs cells slots Mc Ms Z lsA C r1 r2 r3 r4 r5 r6 hP hS hL hR'
  have hE := C.2.2.2.2.2.2
  have had := Rp.adr hE hP hlen
  have hnm : s.vm.findClass ("[" ++ (FieldType.array .int).toString) = some (eC E 5) := (hE.1.1.2 5 _ (ety_at E (t := 5) (by decide))).2
  have hci : s.vm.findClass (FieldType.array .int).toString = some (eC E 0) := (hE.1.1.2 0 _ (ety_at E (t := 0) (by decide))).2
  intro T hT Xs
  simp only at r3 r4
  obtain ⟨vm₁, cA, comp, -, fA, fC, -, -, X', step⟩ := Xs.multianewarray2F (own := own) (index := index) (ty := .int) C.1 (by rw [← hM]; exact C.2.2.2.1) (C.2.2.2.2.1 _ hw) (va_Ov.use hE.1.2.2.2.2.2.2) (C.2.2.2.2.1 _ hw2) (g := F0 m pc lsA (.int k :: .int n :: st.map (cv E))) rfl (by rw [C.2.1]; exact hd) rfl hn hk (by omega) (Nat.le_trans (Nat.mul_le_mul hK2 (Nat.le_refl 4)) (by decide)) (by omega) rfl rfl (by omega) (by omega)
  have ec : eC E 5 = cA := Option.some.inj (hnm.symm.trans fA)
  have ed : eC E 0 = comp := Option.some.inj (hci.symm.trans fC)
  subst ec
  subst ed
  generalize hF : Jvm.Free.Multi.fill (T.setVm vm₁) (eC E 5) (eC E 0) n.toNatClampNeg k.toNatClampNeg (defaultValue .int) n.toNatClampNeg = F at X' step
  have hTh : (T.setVm vm₁).heap = H := hT
  obtain ⟨f1, f2, -, -⟩ := Jvm.Free.Multi.fill_facts (T.setVm vm₁) (eC E 5) (eC E 0) n.toNatClampNeg k.toNatClampNeg (defaultValue .int) n.toNatClampNeg
  rw [hF, hTh] at f1 f2
  have hold : ∀ x : Nat, x < H.size → F.heap[x]? = H[x]? := fun x hx => by
    have := Jvm.Free.Multi.fill_old (T.setVm vm₁) (eC E 5) (eC E 0) n.toNatClampNeg k.toNatClampNeg (defaultValue .int) (a := x) (by rw [hTh]; exact hx) n.toNatClampNeg
    rw [hF, hTh] at this
    exact this
  have hrow : ∀ j : Nat, j < n.toNatClampNeg → F.heap[H.size + 1 + j]? = some (arrV (eC E 0) k.toNatClampNeg (fun _ => .int 0)) := fun j hj => by
    have := Jvm.Free.Multi.fill_inner (T.setVm vm₁) (eC E 5) (eC E 0) n.toNatClampNeg k.toNatClampNeg (defaultValue .int) n.toNatClampNeg j hj
    rw [hF, hTh] at this
    rw [this]
    exact congrArg some (arrV_new _ _ _)
  rw [mn_outer] at f2
  have hsz := hP.1.1 hlen
  have hlenL : ((105, n.toNatClampNeg) :: List.replicate n.toNatClampNeg ((100, k.toNatClampNeg) : Cel)).length = 1 + n.toNatClampNeg := by simp; omega
  have hP1 : Rp E (R', w.2 ++ ((105, n.toNatClampNeg) :: List.replicate n.toNatClampNeg (100, k.toNatClampNeg))) h F.heap := by
    refine Rp.more hE hP (by rw [hlenL]; omega) (by rw [f1, hlenL]; omega) hold hsz hR (fun j c hj => ?_)
    have hjl := (List.getElem?_eq_some_iff.mp hj).1
    rw [hlenL] at hjl
    have haj : eA E (w.2.length + j) = H.size + j := by
      rw [hE.2.1 _ (by omega), hsz]
      omega
    rw [haj]
    match j, hj, hjl with
    | 0, hj, _ =>
      cases hj
      rw [show (105 : Nat) = 102 + 3 from rfl, cel_q]
      show F.heap[H.size]? = some (vp_cell _ _)
      rw [f2, vp_cell_q]
      refine congrArg (fun g => some (arrV (eC E 5) n.toNatClampNeg g)) (funext fun i => ?_)
      have hr : rfo (R', w.2 ++ ((105, n.toNatClampNeg) :: List.replicate n.toNatClampNeg (100, k.toNatClampNeg))) h w.2.length i = (if i < n.toNatClampNeg then some (w.2.length + 1 + i) else none) := by
        have h0 := hz0 0 i (Nat.zero_le _)
        rw [Nat.add_zero] at h0
        have h1 := hR1 i
        unfold rfo
        by_cases hi : i < n.toNatClampNeg
        · rw [if_pos hi] at h1 ⊢
          simp only [h1]
        · rw [if_neg hi] at h1 ⊢
          simp only [h1, h0, if_true]
      show va_rf _ = va_rf ((rfo (R', w.2 ++ ((105, n.toNatClampNeg) :: List.replicate n.toNatClampNeg (100, k.toNatClampNeg))) h w.2.length i).map (eA E))
      rw [hr]
      by_cases hi : i < n.toNatClampNeg
      · rw [if_pos hi, if_pos hi]
        show va_rf (some (H.size + 1 + i)) = va_rf (some (eA E (w.2.length + 1 + i)))
        rw [hE.2.1 _ (by omega), hsz]
        congr 2
        omega
      · rw [if_neg hi, if_neg hi]
        rfl
    | j + 1, hj, hjl =>
      have hc : c = (100, k.toNatClampNeg) := by
        rw [List.getElem?_cons_succ, List.getElem?_replicate, if_pos (by omega)] at hj
        exact (Option.some.inj hj).symm
      subst hc
      rw [cel_i]
      show F.heap[H.size + (j + 1)]? = some (vp_cell _ _)
      rw [show H.size + (j + 1) = H.size + 1 + j by omega, hrow j (by omega), vp_cell_i]
      refine congrArg (fun g => some (arrV (eC E 0) k.toNatClampNeg g)) (funext fun i => ?_)
      show Value.int 0 = Value.int _
      rw [hz0 (j + 1) i (by omega)]
  have hS1 : va_S (eF E) s.heap F.heap locs := ⟨Nat.le_trans hS.1 (by omega), fun x h1 h2 => (hold x (Nat.lt_of_lt_of_le h1 hS.1)).trans (hS.2.1 x h1 h2), hS.2.2⟩
  have kf := kk E p l e R s m args below meth c F.heap locs (cells + 1 + n.toNatClampNeg) (slots + n.toNatClampNeg + n.toNatClampNeg * k.toNatClampNeg) Mc Ms Z lsA C r1 r2 (by simp only; omega) (by simp only; omega) r5 r6 hP1 hS1 hL hR'
  have e2 : (List.map (cv E) (.ref w.2.length :: st)) = .ref T.heap.size :: st.map (cv E) := by rw [hT, ← had]; rfl
  rw [e2] at kf
  obtain ⟨t, a1, b1⟩ := kf F rfl X'
  exact ⟨t, step t a1, b1⟩
