/-! ===== new things ===== -/
theorem Rp.push {E : En} {U : State} {H2 : Heap} {w : Wd} {h : Hp} {H H1 : Heap} {c : Cel} (hE : EOk E U H2) (hP : Rp E w h H) (hlen : w.2.length < 900) (hz : H1.size = H.size + 1) (o1 : ∀ q : Nat, q < H.size → H1[q]? = H[q]?) (hsz : H.size = eB E + w.2.length) (ha : va_at (eD E) vwCl (eA E w.2.length, cel E w h w.2.length c) H1) : Rp E (w.1, w.2 ++ [c]) h H1 := by
  refine ⟨⟨fun _ => by simp only [List.length_append, List.length_singleton]; omega, hP.1.2⟩, by simp only [List.length_append, List.length_singleton]; omega, ?_⟩
  have hk : va_P (eD E) vwCl (wld E w h) H1 := hP.2.2.kept (fun k x hx => o1 x.1 ((hP.2.2 k x hx).lt))
  have he : wld E (w.1, w.2 ++ [c]) h = wld E w h ++ [(eA E w.2.length, cel E w h w.2.length c)] := by
    unfold wld
    rw [List.mapIdx_concat]
    rfl
  rw [he]
  refine hk.app (fun k x hx => ?_)
  have h0 : k < 1 := (List.getElem?_eq_some_iff.mp hx).1
  rw [show k = 0 by omega] at hx
  cases hx
  exact ha
theorem va_S_push {A : Nat → Prop} {H0 H H1 : Heap} {locs : List Loc} (hS : va_S A H0 H locs) (hz : H1.size = H.size + 1) (o1 : ∀ q : Nat, q < H.size → H1[q]? = H[q]?) : va_S A H0 H1 locs :=
  ⟨Nat.le_trans hS.1 (by omega), fun x h1 h2 => (o1 x (Nat.lt_of_lt_of_le h1 hS.1)).trans (hS.2.1 x h1 h2), hS.2.2⟩
theorem Rp.adr {E : En} {U : State} {H2 : Heap} {w : Wd} {h : Hp} {H : Heap} (hE : EOk E U H2) (hP : Rp E w h H) (hlen : w.2.length < fin_) : eA E w.2.length = H.size := by
  rw [hE.2.1 _ (Nat.lt_of_lt_of_le hlen (by decide)), hP.1.1 hlen]
def dv (kd : Nat) : Value := if kd = 0 then .int 0 else if kd = 1 then .long 0 else .null
theorem go_new {w : Wd} {d bc bs : Nat} {M : Mth} {pc pc2 : Nat} {ls : List (Nat × Value)} {st : List Value} {h : Hp} {Q : Option Value → Wd → Hp → Prop} {own C1 : String} {T : u_T} {N ci index n0 : Nat} (ty : Nat → FieldType) (hty : ∀ k, k < N → parseFieldDescriptor (T k).2.2.1 = some (ty k)) (hdv : ∀ j, j < N → ∃ kd, (fk ci)[j]? = some kd ∧ defaultValue (ty j) = dv kd) (hM : (my M).cls = own) (hd : decode (mc M) pc = .ok (.new index, 3)) (hp : pc + 3 = pc2) (hn0 : w.2.length = n0) (hlen : n0 < fin_) (hci : ci < 100) (hcl : vwCl[ci]? = some (C1, T, N)) (hin : ∀ x ∈ u_ws C1 T N, x ∈ lw_gd) (hw : Cond.classLink own index C1 ∈ lw_gd) (hw2 : Cond.instantiable C1 N ∈ lw_gd) (hw3 : Cond.initialized C1 ∈ lw_gd) (hz0 : ∀ i, h.1 n0 i = 0 ∧ h.2 n0 i = 0 ∧ w.1 n0 i = none) (kk : Go (w.1, w.2 ++ [(ci, 0)]) (d, bc, bs) M pc2 ls (.ref n0 :: st) h Q) : Go w (d, bc + 1, bs + N) M pc ls st h Q := by
  subst hp
  subst hn0
  intro E p l e R s m args below meth c H locs cells slots Mc Ms Z lsA C r1 r2 r3 r4 r5 r6 hP hS hL hR
  have hE := C.2.2.2.2.2.2
  have hKn := hE.1.1.1 ci _ hcl
  have had := Rp.adr hE hP hlen
  refine W.newcK C.1 C.2.1 (by rw [← hM]; exact C.2.2.2.1) (C.2.2.2.2.1 _ hw) (C.2.2.2.2.1 _ hw2) (C.2.2.2.2.1 _ hw3) rfl hd (by simp only at r3; omega) (by simp only at r4; omega) hKn.2.1 rfl fun H1 kC hkC e1 z1 o1 => ?_
  have hP1 : Rp E (w.1, w.2 ++ [(ci, 0)]) h H1 := by
    refine Rp.push hE hP (Nat.lt_of_lt_of_le hlen (by decide)) z1 o1 (hP.1.1 hlen) ?_
    rw [cel_obj hci, had]
    refine ⟨_, hcl, (u_born ty C.2.2.2.2.1 hin hKn hkC e1 hty).to (fun j hj => ?_)⟩
    obtain ⟨kd, q1, q2⟩ := hdv j hj
    rw [q2]
    show _ = List.getD _ _ _
    rw [List.getD_eq_getElem?_getD, List.getElem?_mapIdx, q1]
    obtain ⟨y1, y2, y3⟩ := hz0 j
    simp only [Option.map_some, Option.getD_some, fv, rfo, y1, y2, y3, dv]
    split
    · rfl
    · split <;> rfl
  have k := kk E p l e R s m args below meth c H1 locs (cells + 1) (slots + N) Mc Ms Z lsA C r1 r2 (by simp only at r3 ⊢; omega) (by simp only at r4 ⊢; omega) r5 r6 hP1 (va_S_push hS z1 o1) hL hR
  have e2 : (List.map (cv E) (.ref w.2.length :: st)) = .ref H.size :: st.map (cv E) := by rw [← had]; rfl
  rw [e2] at k
  exact k
theorem go_newarr {w : Wd} {d bc bs : Nat} {M : Mth} {pc pc2 : Nat} {ls : List (Nat × Value)} {st : List Value} {h : Hp} {Q : Option Value → Wd → Hp → Prop} {atype : ArrayType} {n0 N t : Nat} {n : Int32} (ht : t < 2) (hat : newarray.typeOf atype = aty t) (hd : decode (mc M) pc = .ok (.newarray atype, 2)) (hp : pc + 2 = pc2) (hn0 : w.2.length = n0) (hlen : n0 < fin_) (hw : Cond.arrayClass (newarray.typeOf atype) ∈ lw_gd) (hn : ¬ n < 0) (hN : n.toNatClampNeg = N) (hN2 : N ≤ 1000) (hz0 : ∀ i, h.1 n0 i = 0) (kk : Go (w.1, w.2 ++ [(100 + t, N)]) (d, bc, bs) M pc2 ls (.ref n0 :: st) h Q) : Go w (d, bc + 1, bs + N) M pc ls (.int n :: st) h Q := by
  subst hp
  subst hn0
  intro E p l e R s m args below meth c H locs cells slots Mc Ms Z lsA C r1 r2 r3 r4 r5 r6 hP hS hL hR
  have hE := C.2.2.2.2.2.2
  have had := Rp.adr hE hP hlen
  have hdf : ∀ j, defaultValue (newarray.typeOf atype) = .int (h.1 w.2.length j) := fun j => by
    rw [hz0 j, hat]
    match t, ht with
    | 0, _ => rfl
    | 1, _ => rfl
  have hcb : componentBytes (newarray.typeOf atype) ≤ 4 := by
    rw [hat]
    match t, ht with
    | 0, _ => decide
    | 1, _ => decide
  refine va_newaK C.1 C.2.1 (C.2.2.2.2.1 _ hw) rfl hd rfl hn hN (Nat.le_trans (Nat.mul_le_mul hN2 hcb) (by decide)) (by simp only at r3; omega) (by simp only at r4; omega) rfl fun H1 cA e1 z1 o1 _ hNm => ?_
  have hcA : cA = eC E t := by
    have hA := (hE.1.1.2 t _ (ety_at E (by omega))).2
    rw [hat] at hNm
    match t, ht, hA, hNm with
    | 0, _, hA, hNm => exact Option.some.inj (hNm.symm.trans hA)
    | 1, _, hA, hNm => exact Option.some.inj (hNm.symm.trans hA)
  have hP1 : Rp E (w.1, w.2 ++ [(100 + t, N)]) h H1 := by
    refine Rp.push hE hP (Nat.lt_of_lt_of_le hlen (by decide)) z1 o1 (hP.1.1 hlen) ?_
    rw [had]
    have hc : cel E w h w.2.length (100 + t, N) = .inl (eC E t, N, .inl (h.1 w.2.length)) := by
      match t, ht with
      | 0, _ => exact cel_i
      | 1, _ => exact cel_z
    rw [hc]
    show H1[H.size]? = some (vp_cell _ _)
    rw [e1, vp_cell_i, hcA]
    exact congrArg (fun g => some (arrV (eC E t) N g)) (funext hdf)
  have k := kk E p l e R s m args below meth c H1 locs (cells + 1) (slots + N) Mc Ms Z lsA C r1 r2 (by simp only at r3 ⊢; omega) (by simp only at r4 ⊢; omega) r5 r6 hP1 (va_S_push hS z1 o1) hL hR
  have e2 : (List.map (cv E) (.ref w.2.length :: st)) = .ref H.size :: st.map (cv E) := by rw [← had]; rfl
  rw [e2] at k
  exact k
theorem go_anewarr {w : Wd} {d bc bs : Nat} {M : Mth} {pc pc2 : Nat} {ls : List (Nat × Value)} {st : List Value} {h : Hp} {Q : Option Value → Wd → Hp → Prop} {own C1 : String} {index n0 N t : Nat} {n : Int32} (ht : t < 3) (hat : aty (2 + t) = .object C1) (hM : (my M).cls = own) (hd : decode (mc M) pc = .ok (.anewarray index, 3)) (hp : pc + 3 = pc2) (hn0 : w.2.length = n0) (hlen : n0 < fin_) (hw : Cond.classLink own index C1 ∈ lw_gd) (hn : ¬ n < 0) (hN : n.toNatClampNeg = N) (hN2 : N ≤ 1000) (hz0 : ∀ i, h.1 n0 i = 0 ∧ w.1 n0 i = none) (kk : Go (w.1, w.2 ++ [(102 + t, N)]) (d, bc, bs) M pc2 ls (.ref n0 :: st) h Q) : Go w (d, bc + 1, bs + N) M pc ls (.int n :: st) h Q := by
  subst hp
  subst hn0
  subst hN
  intro E p l e R s m args below meth c H locs cells slots Mc Ms Z lsA C r1 r2 r3 r4 r5 r6 hP hS hL hR
  have hE := C.2.2.2.2.2.2
  have had := Rp.adr hE hP hlen
  have hover : va_AO C1 s := by
    match t, ht, hat with
    | 0, _, hat => cases hat; exact hE.1.2.2.1
    | 1, _, hat => cases hat; exact hE.1.2.2.2.1
    | 2, _, hat => cases hat; exact hE.1.2.2.2.2.1
  refine W.anew C.1 C.2.1 (by rw [← hM]; exact C.2.2.2.1) (C.2.2.2.2.1 _ hw) (va_AO.use hover) rfl hd rfl hn (Nat.le_trans (Nat.mul_le_mul hN2 (Nat.le_refl 4)) (by decide)) (by simp only at r3; omega) (by simp only at r4; omega) fun cA kA comp f1 f2 f3 f4 => ?_
  generalize hH1 : H.push ({ cls := cA, slots := Array.replicate n.toNatClampNeg .null, vm := .none } : Cell) = H1
  have z1 : H1.size = H.size + 1 := by rw [← hH1, Array.size_push]
  have e1 : H1[H.size]? = some (arrV cA n.toNatClampNeg (fun _ => .null)) := by rw [← hH1, Array.getElem?_push_size, ← arrV_new]
  have o1 : ∀ q : Nat, q < H.size → H1[q]? = H[q]? := fun q hq => by rw [← hH1, Array.getElem?_push, if_neg (Nat.ne_of_lt hq)]
  have hcA : cA = eC E (2 + t) := by
    have hA := (hE.1.1.2 (2 + t) _ (ety_at E (by omega))).2
    dsimp only at hA
    rw [hat] at hA
    obtain ⟨_, _, _, _, _, hA⟩ := hA
    exact Option.some.inj (f1.symm.trans hA)
  have hP1 : Rp E (w.1, w.2 ++ [(102 + t, n.toNatClampNeg)]) h H1 := by
    refine Rp.push hE hP (Nat.lt_of_lt_of_le hlen (by decide)) z1 o1 (hP.1.1 hlen) ?_
    rw [had, cel_q]
    show H1[H.size]? = some (vp_cell _ _)
    rw [e1, vp_cell_q, hcA]
    refine congrArg (fun g => some (arrV (eC E (2 + t)) n.toNatClampNeg g)) (funext fun j => ?_)
    simp [rfo, (hz0 j).1, (hz0 j).2, va_rf]
  have k := kk E p l e R s m args below meth c H1 locs (cells + 1) (slots + n.toNatClampNeg) Mc Ms Z lsA C r1 r2 (by simp only at r3 ⊢; omega) (by simp only at r4 ⊢; omega) r5 r6 hP1 (va_S_push hS z1 o1) hL hR
  have e2 : (List.map (cv E) (.ref w.2.length :: st)) = .ref H.size :: st.map (cv E) := by rw [← had]; rfl
  rw [e2] at k
  exact k
/-! ===== statics, texts, natives ===== -/
theorem go_ka {w : Wd} {rm : Rm} {M : Mth} {pc pc2 : Nat} {ls : List (Nat × Value)} {st : List Value} {h : Hp} {Q : Option Value → Wd → Hp → Prop} {own : String} {index : Nat} (hM : (my M).cls = own) (hd : decode (mc M) pc = .ok (.getstatic index, 3)) (hp : pc + 3 = pc2) (hw : Cond.fieldLinkNest own index RX10 "KIND_ABOVE" "[I" RX10 ∈ lw_nst) (kk : Go w rm M pc2 ls (.ref 900 :: st) h Q) : Go w rm M pc ls st h Q := by
  subst hp
  intro E p l e R s m args below meth c H locs cells slots Mc Ms Z lsA C r1 r2 r3 r4 r5 r6 hP hS hL hR
  exact va_getsN (C := RX10) (n := "KIND_ABOVE") (d := "[I") (A := eF E) C.1 C.2.1 C.2.2.2.2.2.2.2.2.1 hS (by rw [← hM]; exact C.2.2.2.1) (nst_use hw (C.2.2.2.2.2.2.1.2.1 _ hw)) (fun _ h => h) hd (kk E p l e R s m args below meth c H locs cells slots Mc Ms Z lsA C r1 r2 r3 r4 r5 r6 hP hS hL hR)
theorem go_kald {w : Wd} {rm : Rm} {M : Mth} {pc pc2 : Nat} {ls : List (Nat × Value)} {st : List Value} {h : Hp} {Q : Option Value → Wd → Hp → Prop} {i : Int32} {j : Nat} (hd : decode (mc M) pc = .ok (.iaload, 1)) (hp : pc + 1 = pc2) (hin : vp_in i 6) (hj : i.toNatClampNeg = j) (kk : Go w rm M pc2 ls (.int (kaf j) :: st) h Q) : Go w rm M pc ls (.int i :: .ref 900 :: st) h Q := by
  subst hp
  subst hj
  intro E p l e R s m args below meth c H locs cells slots Mc Ms Z lsA C r1 r2 r3 r4 r5 r6 hP hS hL hR
  exact va_ti C.1 C.2.1 C.2.2.2.2.2.2.2.2.2.1 hS hin rfl hd (kk E p l e R s m args below meth c H locs cells slots Mc Ms Z lsA C r1 r2 r3 r4 r5 r6 hP hS hL hR)
theorem go_compact {w : Wd} {rm : Rm} {M : Mth} {pc pc2 : Nat} {ls : List (Nat × Value)} {st : List Value} {h : Hp} {Q : Option Value → Wd → Hp → Prop} {own : String} {index : Nat} (hM : (my M).cls = own) (hd : decode (mc M) pc = .ok (.getstatic index, 3)) (hp : pc + 3 = pc2) (hw : Cond.fieldLink own index RJ0 "COMPACT_STRINGS" "Z" ∈ lw_gd) (kk : Go w rm M pc2 ls (.int 1 :: st) h Q) : Go w rm M pc ls st h Q := by
  subst hp
  intro E p l e R s m args below meth c H locs cells slots Mc Ms Z lsA C r1 r2 r3 r4 r5 r6 hP hS hL hR
  exact va_gets (C := RJ0) (n := "COMPACT_STRINGS") (d := "Z") (A := eF E) C.1 C.2.1 C.2.2.2.2.2.2.2.2.2.2.1 hS (by rw [← hM]; exact C.2.2.2.1) (C.2.2.2.2.1 _ hw) (fun _ h => h) hd (kk E p l e R s m args below meth c H locs cells slots Mc Ms Z lsA C r1 r2 r3 r4 r5 r6 hP hS hL hR)
theorem go_sioobe {w : Wd} {rm : Rm} {M : Mth} {pc pc2 : Nat} {ls : List (Nat × Value)} {st : List Value} {h : Hp} {Q : Option Value → Wd → Hp → Prop} {own : String} {index : Nat} (hM : (my M).cls = own) (hd : decode (mc M) pc = .ok (.getstatic index, 3)) (hp : pc + 3 = pc2) (hw : Cond.fieldLink own index RJ3 "SIOOBE_FORMATTER" "Ljava/util/function/BiFunction;" ∈ lw_gd) (kk : Go w rm M pc2 ls (.ref 901 :: st) h Q) (kn : Go w rm M pc2 ls (.null :: st) h Q) : Go w rm M pc ls st h Q := by
  subst hp
  intro E p l e R s m args below meth c H locs cells slots Mc Ms Z lsA C r1 r2 r3 r4 r5 r6 hP hS hL hR
  rcases C.2.2.2.2.2.2.2.2.2.2.2.2.2.2 with hZ | hZ
  · exact va_gets (C := RJ3) (n := "SIOOBE_FORMATTER") (d := "Ljava/util/function/BiFunction;") (A := eF E) C.1 C.2.1 hZ hS (by rw [← hM]; exact C.2.2.2.1) (C.2.2.2.2.1 _ hw) (fun _ h => h) hd (kk E p l e R s m args below meth c H locs cells slots Mc Ms Z lsA C r1 r2 r3 r4 r5 r6 hP hS hL hR)
  · exact va_gets (C := RJ3) (n := "SIOOBE_FORMATTER") (d := "Ljava/util/function/BiFunction;") (A := eF E) C.1 C.2.1 hZ hS (by rw [← hM]; exact C.2.2.2.1) (C.2.2.2.2.1 _ hw) (fun _ h => h) hd (kn E p l e R s m args below meth c H locs cells slots Mc Ms Z lsA C r1 r2 r3 r4 r5 r6 hP hS hL hR)
theorem go_ldcS {w : Wd} {rm : Rm} {M : Mth} {pc pc2 : Nat} {ls : List (Nat × Value)} {st : List Value} {h : Hp} {Q : Option Value → Wd → Hp → Prop} {i index : Nat} (hi : i < 6) (hix : index = st_idx i) (hM : (my M).cls = RX8) (hd : decode (mc M) pc = .ok (.ldc index, 2)) (hp : pc + 2 = pc2) (kk : Go w rm M pc2 ls (.ref (1000 + i) :: st) h Q) : Go w rm M pc ls st h Q := by
  subst hp
  subst hix
  intro E p l e R s m args below meth c H locs cells slots Mc Ms Z lsA C r1 r2 r3 r4 r5 r6 hP hS hL hR
  exact va_ldcS C.1 C.2.1 (own := RX8) (by rw [← hM]; exact C.2.2.2.1) (C.2.2.2.2.2.2.1.2.2.2.2.2.1 i hi) hd (kk E p l e R s m args below meth c H locs cells slots Mc Ms Z lsA C r1 r2 r3 r4 r5 r6 hP hS hL hR)
theorem go_sval {w : Wd} {rm : Rm} {M : Mth} {pc pc2 : Nat} {ls : List (Nat × Value)} {st : List Value} {h : Hp} {Q : Option Value → Wd → Hp → Prop} {own : String} {i index : Nat} (hi : i < 6) (hM : (my M).cls = own) (hd : decode (mc M) pc = .ok (.getfield index, 3)) (hp : pc + 3 = pc2) (hw : Cond.fieldLink own index RJ0 "value" "[B" ∈ lw_gd) (kk : Go w rm M pc2 ls (.ref (1100 + i) :: st) h Q) : Go w rm M pc ls (.ref (1000 + i) :: st) h Q := by
  subst hp
  intro E p l e R s m args below meth c H locs cells slots Mc Ms Z lsA C r1 r2 r3 r4 r5 r6 hP hS hL hR
  exact vk_getf C.1 C.2.1 (C.2.2.2.2.2.2.2.2.2.2.2.1.1 i hi).2.2.1 hS (by rw [← hM]; exact C.2.2.2.1) (C.2.2.2.2.1 _ hw) (fun _ h => h) hd (kk E p l e R s m args below meth c H locs cells slots Mc Ms Z lsA C r1 r2 r3 r4 r5 r6 hP hS hL hR)
theorem go_scod {w : Wd} {rm : Rm} {M : Mth} {pc pc2 : Nat} {ls : List (Nat × Value)} {st : List Value} {h : Hp} {Q : Option Value → Wd → Hp → Prop} {own : String} {i index : Nat} (hi : i < 6) (hM : (my M).cls = own) (hd : decode (mc M) pc = .ok (.getfield index, 3)) (hp : pc + 3 = pc2) (hw : Cond.fieldLink own index RJ0 "coder" "B" ∈ lw_gd) (kk : Go w rm M pc2 ls (.int 0 :: st) h Q) : Go w rm M pc ls (.ref (1000 + i) :: st) h Q := by
  subst hp
  intro E p l e R s m args below meth c H locs cells slots Mc Ms Z lsA C r1 r2 r3 r4 r5 r6 hP hS hL hR
  exact vk_getf C.1 C.2.1 (C.2.2.2.2.2.2.2.2.2.2.2.1.1 i hi).2.1 hS (by rw [← hM]; exact C.2.2.2.1) (C.2.2.2.2.1 _ hw) (fun _ h => h) hd (kk E p l e R s m args below meth c H locs cells slots Mc Ms Z lsA C r1 r2 r3 r4 r5 r6 hP hS hL hR)
theorem go_slen {w : Wd} {rm : Rm} {M : Mth} {pc pc2 : Nat} {ls : List (Nat × Value)} {st : List Value} {h : Hp} {Q : Option Value → Wd → Hp → Prop} {i : Nat} (hi : i < 6) (hd : decode (mc M) pc = .ok (.arraylength, 1)) (hp : pc + 1 = pc2) (kk : Go w rm M pc2 ls (.int (nI (st_len.getD i 0)) :: st) h Q) : Go w rm M pc ls (.ref (1100 + i) :: st) h Q := by
  subst hp
  intro E p l e R s m args below meth c H locs cells slots Mc Ms Z lsA C r1 r2 r3 r4 r5 r6 hP hS hL hR
  exact va_tlen C.1 C.2.1 (C.2.2.2.2.2.2.2.2.2.2.2.1.1 i hi).2.2.2 hS (v := nI (st_len.getD i 0)) rfl hd (kk E p l e R s m args below meth c H locs cells slots Mc Ms Z lsA C r1 r2 r3 r4 r5 r6 hP hS hL hR)
theorem go_sbld {w : Wd} {rm : Rm} {M : Mth} {pc pc2 : Nat} {ls : List (Nat × Value)} {st : List Value} {h : Hp} {Q : Option Value → Wd → Hp → Prop} {i j : Nat} {x : Int32} (hi : i < 6) (hd : decode (mc M) pc = .ok (.baload, 1)) (hp : pc + 1 = pc2) (hin : vp_in x (st_len.getD i 0)) (hj : x.toNatClampNeg = j) (kk : Go w rm M pc2 ls (.int ((st_byt.getD i []).getD j 0) :: st) h Q) : Go w rm M pc ls (.int x :: .ref (1100 + i) :: st) h Q := by
  subst hp
  subst hj
  intro E p l e R s m args below meth c H locs cells slots Mc Ms Z lsA C r1 r2 r3 r4 r5 r6 hP hS hL hR
  exact va_tb C.1 C.2.1 (C.2.2.2.2.2.2.2.2.2.2.2.1.1 i hi).2.2.2 hS hin rfl hd (kk E p l e R s m args below meth c H locs cells slots Mc Ms Z lsA C r1 r2 r3 r4 r5 r6 hP hS hL hR)
/-- the script's numbers -/
theorem go_sld {w : Wd} {rm : Rm} {M : Mth} {pc pc2 : Nat} {ls : List (Nat × Value)} {st : List Value} {h : Hp} {Q : Option Value → Wd → Hp → Prop} {x : Int32} {j : Nat} (hd : decode (mc M) pc = .ok (.iaload, 1)) (hp : pc + 1 = pc2) (hin : vp_in x (h.1 2001 0).toNatClampNeg) (hj : x.toNatClampNeg = j) (kk : Go w rm M pc2 ls (.int (h.1 2000 j) :: st) h Q) : Go w rm M pc ls (.int x :: .ref 2000 :: st) h Q := by
  subst hp
  subst hj
  intro E p l e R s m args below meth c H locs cells slots Mc Ms Z lsA C r1 r2 r3 r4 r5 r6 hP hS hL hR
  have hX := C.2.2.2.2.2.2.2.2.2.2.2.2
  have hs := hP.1.2
  have k := (kk E p l e R s m args below meth c H locs cells slots Mc Ms Z lsA C r1 r2 r3 r4 r5 r6 hP hS hL hR)
  rw [hs.1] at k
  rw [hs.2.1, nI_clamp hs.2.2] at hin
  exact va_sld C.1 C.2.1 hX.1 (va_X_lt hX.1) hX.2.1 hS hin hd k
theorem go_salen {w : Wd} {rm : Rm} {M : Mth} {pc pc2 : Nat} {ls : List (Nat × Value)} {st : List Value} {h : Hp} {Q : Option Value → Wd → Hp → Prop} (hd : decode (mc M) pc = .ok (.arraylength, 1)) (hp : pc + 1 = pc2) (kk : Go w rm M pc2 ls (.int (h.1 2001 0) :: st) h Q) : Go w rm M pc ls (.ref 2000 :: st) h Q := by
  subst hp
  intro E p l e R s m args below meth c H locs cells slots Mc Ms Z lsA C r1 r2 r3 r4 r5 r6 hP hS hL hR
  have hX := C.2.2.2.2.2.2.2.2.2.2.2.2
  have hs := hP.1.2
  have k := (kk E p l e R s m args below meth c H locs cells slots Mc Ms Z lsA C r1 r2 r3 r4 r5 r6 hP hS hL hR)
  rw [hs.2.1] at k
  exact va_slen C.1 C.2.1 hX.1 (va_X_lt hX.1) hX.2.1 hS hd k
theorem cpy_one {h : Hp} {a b : Nat} {sp dp n : Nat} : ∃ h' : Hp, h'.1 a = va_cpy (h.1 b) (h.1 a) sp dp n ∧ (∀ q, q ≠ a → h'.1 q = h.1 q) ∧ h'.2 = h.2 := ⟨(fun q => if q = a then va_cpy (h.1 b) (h.1 a) sp dp n else h.1 q, h.2), by simp, fun q hq => by simp [hq], rfl⟩
def uc (h : Hp) (a : Nat) (f : Nat → Int32) : Hp := (fun q => if q = a then f else h.1 q, h.2)
theorem uc_at (h : Hp) (a : Nat) (f : Nat → Int32) : (uc h a f).1 a = f := by simp [uc]
theorem uc_ne (h : Hp) (f : Nat → Int32) {a q : Nat} (hq : q ≠ a) : (uc h a f).1 q = h.1 q := by simp [uc, hq]
theorem go_copyi {w : Wd} {rm : Rm} {M : Mth} {pc pc2 : Nat} {ls : List (Nat × Value)} {st : List Value} {h : Hp} {Q : Option Value → Wd → Hp → Prop} {own : String} {index a0 a n0 n1 sn dn nn : Nat} {sp dp n : Int32} (hM : (my M).cls = own) (hd : decode (mc M) pc = .ok (.invokestatic index, 3)) (hp : pc + 3 = pc2) (hfin : fin_ ≤ w.2.length) (hw : Cond.methodLink own index arraycopyName ∈ lw_gd) (hw2 : Cond.native arraycopyName ∈ lw_gd) (hw3 : Cond.static arraycopyName ∈ lw_gd) (hw4 : Cond.initialized RJ10 ∈ lw_gd) (hrm : 1 ≤ rm.1) (hst : (st.map fun v => v.category).sum ≤ 8) (h0 : w.2[a0]? = some (100, n0)) (h1 : w.2[a]? = some (100, n1)) (hs : ¬ sp < 0) (hdd : ¬ dp < 0) (hn : ¬ n < 0) (es : sp.toNatClampNeg = sn) (ed : dp.toNatClampNeg = dn) (en : n.toNatClampNeg = nn) (l0 : sn + nn ≤ n0) (l1 : dn + nn ≤ n1) (kk : Go w rm M pc2 ls st (uc h a (va_cpy (h.1 a0) (h.1 a) sn dn nn)) Q) : Go w rm M pc ls (.int n :: .int dp :: .ref a :: .int sp :: .ref a0 :: st) h Q := by
  subst hp
  subst es
  subst ed
  subst en
  intro E p l e R s m args below meth c H locs cells slots Mc Ms Z lsA C r1 r2 r3 r4 r5 r6 hP hS hL hR
  have hE := C.2.2.2.2.2.2
  refine va_copyi (D := eD E) (cl := vwCl) (tys := etys E) (ws := wld E w h) (A := eF E) (H0 := s.heap) C.1 C.2.1 (by rw [hL.1]; exact C.2.2.1) (by rw [← hM]; exact C.2.2.2.1) (C.2.2.2.2.1 _ hw) (C.2.2.2.2.1 _ hw2) (C.2.2.2.2.1 _ hw3) (C.2.2.2.2.1 _ hw4) hE.1.1 hP.2.2 (Rp.D hE hP) hS a0 a 0 0 (by rw [wld_get E w h h0, cel_i]) (by rw [wld_get E w h h1, cel_i]) (ty := .int) rfl rfl rfl hs hdd hn l0 l1 (fun i _ => rfl) (Nat.le_trans hrm r1) ?_ hd (fun H1 locs1 hP1 hD1 hS1 => ?_)
  · have hw5 : nativeFrameWords "java/lang/System" "arraycopy" 5 ≤ 40 := by decide
    rw [cv_sum]
    omega
  · have e9 : (wld E w h).set a (eA E a, .inl (eC E 0, n1, .inl (va_cpy (h.1 a0) (h.1 a) sp.toNatClampNeg dp.toNatClampNeg n.toNatClampNeg))) = wld E w (uc h a (va_cpy (h.1 a0) (h.1 a) sp.toNatClampNeg dp.toNatClampNeg n.toNatClampNeg)) := wld_set rfl h1 (by rw [cel_i, uc_at]) (fun q hq => ⟨rfl, uc_ne _ _ hq, rfl⟩)
    rw [e9] at hP1
    have hlt1 := (List.getElem?_eq_some_iff.mp h1).1
    have hle1 := hP.2.1
    exact (kk E p l e R s m args below meth c H1 locs1 cells slots Mc Ms Z lsA C r1 r2 r3 r4 r5 r6 ⟨⟨fun hlt => absurd hlt (by omega), by rw [Scr, uc_ne _ _ (by omega), uc_ne _ _ (by omega)]; exact hP.1.2⟩, hP.2.1, hP1⟩ hS1 hL hR)
theorem go_f2raw {w : Wd} {rm : Rm} {M : Mth} {pc pc2 : Nat} {ls : List (Nat × Value)} {st : List Value} {h : Hp} {Q : Option Value → Wd → Hp → Prop} {own : String} {index : Nat} {x : UInt32} (hM : (my M).cls = own) (hd : decode (mc M) pc = .ok (.invokestatic index, 3)) (hp : pc + 3 = pc2) (hw : Cond.methodLink own index ⟨"java/lang/Float", "floatToRawIntBits", "(F)I"⟩ ∈ lw_gd) (hw2 : Cond.native ⟨"java/lang/Float", "floatToRawIntBits", "(F)I"⟩ ∈ lw_gd) (hw3 : Cond.static ⟨"java/lang/Float", "floatToRawIntBits", "(F)I"⟩ ∈ lw_gd) (hw4 : Cond.initialized RJxf58ca ∈ lw_gd) (hrm : 1 ≤ rm.1) (hst : (st.map fun v => v.category).sum ≤ 8) (kk : Go w rm M pc2 ls (.int x.toInt32 :: st) h Q) : Go w rm M pc ls (.float x :: st) h Q := by
  subst hp
  intro E p l e R s m args below meth c H locs cells slots Mc Ms Z lsA C r1 r2 r3 r4 r5 r6 hP hS hL hR
  exact vn_f2i C.1 C.2.1 (by rw [hL.1]; exact C.2.2.1) (by rw [← hM]; exact C.2.2.2.1) (C.2.2.2.2.1 _ hw) (C.2.2.2.2.1 _ hw2) (C.2.2.2.2.1 _ hw3) (C.2.2.2.2.1 _ hw4) (Nat.le_trans hrm r1) (by rw [cv_sum]; omega) hd (kk E p l e R s m args below meth c H locs cells slots Mc Ms Z lsA C r1 r2 r3 r4 r5 r6 hP hS hL hR)
/-! ===== calls ===== -/
def MOK (M : Mth) (n : Nat) : Prop := Cond.code (my M) (mc M) (mL M) (mr M) ∈ lw_gd ∧ Cond.initialized (my M).cls ∈ lw_gd ∧ ((my M).cls ≠ "java/lang/invoke/MethodHandle" ∧ (my M).cls ≠ "java/lang/invoke/VarHandle" ∧ (parseMethodDescriptor (my M).desc).map (fun d => d.parameters.length) = some n) ∧ mL M ≤ 45
def MVi (M : Mth) : Prop := Cond.instanceMethod (my M) ∈ lw_gd ∧ Cond.selects (my M).cls (my M) (my M) ∈ lw_gd
theorem good_ws {M : Mth} {n : Nat} (h : MOK M n) : GoodIn lw_gd (wsM M) := fun w hw => by
  have hm : w ∈ lw_gd := by
    rcases List.mem_cons.mp hw with rfl | hw
    · exact h.1
    · exact hw
  exact ⟨hm, good_of_word (List.mem_filter.mp hm).2⟩
theorem PcG_blind (E : En) (w : Wd) (as : List Value) (h : Hp) : FrameBlind (PcG E w as h) := by
  intro a U g mk hp
  obtain ⟨h1, h2, h3⟩ := hp
  exact ⟨h1, h2, Tab.same (s := U) (U := U.calling g mk a) rfl h3.1, h3.2.1, h3.2.2.moved (U := U.calling g mk a) (Vm.Alike.refl U.vm)⟩
theorem PcG_to {E : En} {w : Wd} {as : List Value} {h : Hp} {s U : State} {H : Heap} {locs : List Loc} (hE : EOk E s s.heap) (hP : Rp E w h H) (hS : va_S (eF E) s.heap H locs) (hU : U.heap = H) (hW : s.WarmedH U.vm) : PcG E w as h (as.map (cv E)).toArray U := ⟨rfl, by rw [hU]; exact hP, by rw [hU]; exact hE.next hS hW⟩
section
variable {p : Program} {l : Launch} {e : Env} {R : Room} {s : State} {m : MethodId} {args : Array Value} {below : List Frame} {meth : Method} {c : Code}
theorem call_core {E : En} {H : Heap} {locs : List Loc} {cells slots mc' ms' : Nat} {Z : State → Prop} {lsA : Array Slot} {pc : Nat} {stk rest : List Value} {a : Array Value} {Qc : Option Value → Wd → Hp → Prop} (hr : va_Run p l e R s m args below meth c H locs cells slots mc' ms' (F0 m pc lsA stk) rest (QcG E Qc a) (eF E)) (hS : va_S (eF E) s.heap H locs)
    (kk : ∀ (r : Option Value) (w' : Wd) (h' : Hp) (H1 : Heap) (locs1 : List Loc), Qc r w' h' → Rp E w' h' H1 → va_S (eF E) s.heap H1 locs1 → W p l e R s m args below meth c H1 locs1 (cells + mc') (slots + ms') Z (F0 m (pc + 3) lsA ((r.map (cv E)).toList ++ rest))) : W p l e R s m args below meth c H locs cells slots Z (F0 m pc lsA stk) := by
  intro T hT X
  obtain ⟨v, st₀, t, T', L, h0, X', hL, e1, e2, ⟨⟨r, w', h', hv, hq, hP⟩, hz, hk⟩, st⟩ := hr T hT X
  cases hv
  rw [h0] at hz hk
  obtain ⟨t2, a1, b1⟩ := kk r w' h' T'.heap (locs ++ L) hq (by rw [e1]; exact hP)
    ⟨Nat.le_trans hS.1 (by rw [e1]; exact hz), fun q h1 h2 => by rw [e1, hk q (Nat.lt_of_lt_of_le h1 hS.1) h2]; exact hS.2.1 q h1 h2, fun q hq => by
      rcases List.mem_append.mp hq with h | h
      · exact hS.2.2 q h
      · exact hL q h⟩ T' rfl X'
  exact ⟨t2, st t2 a1, b1⟩
end
def pushR (r : Option Value) (st : List Value) : List Value := match r with
  | none => st
  | some v => v :: st
theorem pushR_cv (E : En) (r : Option Value) (st : List Value) : (pushR r st).map (cv E) = (r.map (cv E)).toList ++ st.map (cv E) := by cases r <;> rfl
theorem Rp.recv {E : En} {s : State} {w : Wd} {h : Hp} {H : Heap} {k ci n : Nat} {q : vw_C} (hE : EOk E s s.heap) (hP : Rp E w h H) (hk : w.2[k]? = some (ci, n)) (hci : ci < 100) (hcl : vwCl[ci]? = some q) : ∃ cell : Cell, H[eA E k]? = some cell ∧ cell.vm.isStatics = false ∧ s.vm.findClass q.1 = some cell.cls :=
  va_recv (q0 := k) (ci := ci) hE.1.1 hP.2.2 hcl (by rw [wld_get E w h hk, cel_obj hci])
theorem go_callVS {w : Wd} {dC bC sC d b0 s0 : Nat} {M : Mth} {pc pc2 : Nat} {ls : List (Nat × Value)} {st : List Value} {h : Hp} {Q : Option Value → Wd → Hp → Prop} {Mc : Mth} {own : String} {index i : Nat} {As stk : List Value} {Qc : Option Value → Wd → Hp → Prop} (hi : i < 6) (hM : (my M).cls = own) (hd : decode (mc M) pc = .ok (.invokevirtual index, 3)) (hp : pc + 3 = pc2) (hlink : Cond.methodLink own index (my Mc) ∈ lw_gd) (hok : MOK Mc As.length) (hv : MVi Mc) (hq : RJ0 = (my Mc).cls) (hst : stk = As.reverse ++ .ref (1000 + i) :: st) (hrm : dC + 1 ≤ d) (hroom : (st.map fun v => v.category).sum ≤ 8) (hC : Ct w (dC, bC, sC) Mc (.ref (1000 + i) :: As) h Qc) (kk : ∀ (r : Option Value) (w' : Wd) (h' : Hp), Qc r w' h' → Go w' (d, b0, s0) M pc2 ls (pushR r st) h' Q) : Go w (d, b0 + bC, s0 + sC) M pc ls stk h Q := by
  subst hp
  intro E p l e R s m args below meth c H locs cells slots Mc_ Ms Z lsA C r1 r2 r3 r4 r5 r6 hP hS hL hR
  have hrc := vk_recv C.2.2.2.2.2.2.2.2.2.2.2.1 hi hS
  rw [show "java/lang/String" = RJ0 from rfl, hq] at hrc
  have hf : cells + bC ≤ R.cells ∧ slots + sC ≤ R.slots := ⟨by simp only at r3; omega, by simp only at r4; omega⟩
  refine call_core (va_runV (nL := mL M) (As := As.map (cv E)) (b := eA E (1000 + i)) (rest := st.map (cv E)) ⟨C.1, C.2.1, C.2.2.1, by rw [← hM]; exact C.2.2.2.1, C.2.2.2.2.1⟩ (hC E l) ⟨callB_of As.length C.2.2.2.2.1 (good_ws hok) rfl rfl rfl (C.2.2.2.2.1 _ hok.2.1) (C.2.2.2.2.1 _ hlink) hok.2.2.1 ⟨by simp only [rmR]; simp only at r1; omega, by simp only [rmR]; have := hok.2.2.2; simp only at r2; omega⟩, C.2.2.2.2.1 _ hv.1, C.2.2.2.2.1 _ hv.2⟩ ⟨PcG_blind E w _ h, hrc, fun U hU hW => PcG_to C.2.2.2.2.2.2 hP hS hU hW⟩ rfl (List.length_map _) hL.1 (by rw [hst, List.map_append, List.map_reverse]; rfl) (lv_room (by rw [cv_sum]; exact hroom)) hd hf) hS (fun r w' h' H1 locs1 hq2 hP1 hS1 => ?_)
  have k := kk r w' h' hq2 E p l e R s m args below meth c H1 locs1 (cells + bC) (slots + sC) Mc_ Ms Z lsA C r1 r2 (by simp only at r3 ⊢; omega) (by simp only at r4 ⊢; omega) r5 r6 hP1 hS1 hL hR
  rw [pushR_cv] at k
  exact k
theorem go_callV {w : Wd} {dC bC sC d b0 s0 : Nat} {M : Mth} {pc pc2 : Nat} {ls : List (Nat × Value)} {st : List Value} {h : Hp} {Q : Option Value → Wd → Hp → Prop} {Mc : Mth} {own : String} {index : Nat} {As stk : List Value} {Qc : Option Value → Wd → Hp → Prop} {k ci n2 : Nat} {q : vw_C} (hM : (my M).cls = own) (hd : decode (mc M) pc = .ok (.invokevirtual index, 3)) (hp : pc + 3 = pc2) (hlink : Cond.methodLink own index (my Mc) ∈ lw_gd) (hok : MOK Mc As.length) (hv : MVi Mc) (hk : w.2[k]? = some (ci, n2)) (hci : ci < 100) (hcl : vwCl[ci]? = some q) (hq : q.1 = (my Mc).cls) (hst : stk = As.reverse ++ .ref k :: st) (hrm : dC + 1 ≤ d) (hroom : (st.map fun v => v.category).sum ≤ 8) (hC : Ct w (dC, bC, sC) Mc (.ref k :: As) h Qc) (kk : ∀ (r : Option Value) (w' : Wd) (h' : Hp), Qc r w' h' → Go w' (d, b0, s0) M pc2 ls (pushR r st) h' Q) : Go w (d, b0 + bC, s0 + sC) M pc ls stk h Q := by
  subst hp
  intro E p l e R s m args below meth c H locs cells slots Mc_ Ms Z lsA C r1 r2 r3 r4 r5 r6 hP hS hL hR
  have hrc := Rp.recv C.2.2.2.2.2.2 hP hk hci hcl
  rw [hq] at hrc
  have hf : cells + bC ≤ R.cells ∧ slots + sC ≤ R.slots := ⟨by simp only at r3; omega, by simp only at r4; omega⟩
  refine call_core (va_runV (nL := mL M) (As := As.map (cv E)) (b := eA E k) (rest := st.map (cv E)) ⟨C.1, C.2.1, C.2.2.1, by rw [← hM]; exact C.2.2.2.1, C.2.2.2.2.1⟩ (hC E l) ⟨callB_of As.length C.2.2.2.2.1 (good_ws hok) rfl rfl rfl (C.2.2.2.2.1 _ hok.2.1) (C.2.2.2.2.1 _ hlink) hok.2.2.1 ⟨by simp only [rmR]; simp only at r1; omega, by simp only [rmR]; have := hok.2.2.2; simp only at r2; omega⟩, C.2.2.2.2.1 _ hv.1, C.2.2.2.2.1 _ hv.2⟩ ⟨PcG_blind E w _ h, hrc, fun U hU hW => PcG_to C.2.2.2.2.2.2 hP hS hU hW⟩ rfl (List.length_map _) hL.1 (by rw [hst, List.map_append, List.map_reverse]; rfl) (lv_room (by rw [cv_sum]; exact hroom)) hd hf) hS (fun r w' h' H1 locs1 hq hP1 hS1 => ?_)
  have k := kk r w' h' hq E p l e R s m args below meth c H1 locs1 (cells + bC) (slots + sC) Mc_ Ms Z lsA C r1 r2 (by simp only at r3 ⊢; omega) (by simp only at r4 ⊢; omega) r5 r6 hP1 hS1 hL hR
  rw [pushR_cv] at k
  exact k
theorem go_callVN {w : Wd} {dC bC sC d b0 s0 : Nat} {M : Mth} {pc pc2 : Nat} {ls : List (Nat × Value)} {st : List Value} {h : Hp} {Q : Option Value → Wd → Hp → Prop} {Mc : Mth} {own : String} {host : String} {index : Nat} {As stk : List Value} {Qc : Option Value → Wd → Hp → Prop} {k ci n2 : Nat} {q : vw_C} (hM : (my M).cls = own) (hd : decode (mc M) pc = .ok (.invokevirtual index, 3)) (hp : pc + 3 = pc2) (hlink : Cond.methodLinkNest own index (my Mc) host ∈ lw_nst) (hok : MOK Mc As.length) (hv : MVi Mc) (hk : w.2[k]? = some (ci, n2)) (hci : ci < 100) (hcl : vwCl[ci]? = some q) (hq : q.1 = (my Mc).cls) (hst : stk = As.reverse ++ .ref k :: st) (hrm : dC + 1 ≤ d) (hroom : (st.map fun v => v.category).sum ≤ 8) (hC : Ct w (dC, bC, sC) Mc (.ref k :: As) h Qc) (kk : ∀ (r : Option Value) (w' : Wd) (h' : Hp), Qc r w' h' → Go w' (d, b0, s0) M pc2 ls (pushR r st) h' Q) : Go w (d, b0 + bC, s0 + sC) M pc ls stk h Q := by
  subst hp
  intro E p l e R s m args below meth c H locs cells slots Mc_ Ms Z lsA C r1 r2 r3 r4 r5 r6 hP hS hL hR
  have hrc := Rp.recv C.2.2.2.2.2.2 hP hk hci hcl
  rw [hq] at hrc
  have hf : cells + bC ≤ R.cells ∧ slots + sC ≤ R.slots := ⟨by simp only at r3; omega, by simp only at r4; omega⟩
  refine call_core (va_runVN (nL := mL M) (As := As.map (cv E)) (b := eA E k) (rest := st.map (cv E)) ⟨C.1, C.2.1, C.2.2.1, by rw [← hM]; exact C.2.2.2.1, C.2.2.2.2.1⟩ (hC E l) ⟨va_cnB As.length C.2.2.2.2.1 (good_ws hok) rfl rfl rfl (C.2.2.2.2.2.2.1.2.1 _ hlink) (C.2.2.2.2.1 _ hok.2.1) hok.2.2.1 ⟨by simp only [rmR]; simp only at r1; omega, by simp only [rmR]; have := hok.2.2.2; simp only at r2; omega⟩, C.2.2.2.2.1 _ hv.1, C.2.2.2.2.1 _ hv.2⟩ ⟨PcG_blind E w _ h, hrc, fun U hU hW => PcG_to C.2.2.2.2.2.2 hP hS hU hW⟩ rfl (List.length_map _) hL.1 (by rw [hst, List.map_append, List.map_reverse]; rfl) (lv_room (by rw [cv_sum]; exact hroom)) hd hf) hS (fun r w' h' H1 locs1 hq hP1 hS1 => ?_)
  have k := kk r w' h' hq E p l e R s m args below meth c H1 locs1 (cells + bC) (slots + sC) Mc_ Ms Z lsA C r1 r2 (by simp only at r3 ⊢; omega) (by simp only at r4 ⊢; omega) r5 r6 hP1 hS1 hL hR
  rw [pushR_cv] at k
  exact k
theorem go_callS {w : Wd} {dC bC sC d b0 s0 : Nat} {M : Mth} {pc pc2 : Nat} {ls : List (Nat × Value)} {st : List Value} {h : Hp} {Q : Option Value → Wd → Hp → Prop} {Mc : Mth} {own : String} {index : Nat} {As stk : List Value} {Qc : Option Value → Wd → Hp → Prop} (hM : (my M).cls = own) (hd : decode (mc M) pc = .ok (.invokestatic index, 3)) (hp : pc + 3 = pc2) (hlink : Cond.methodLink own index (my Mc) ∈ lw_gd) (hok : MOK Mc As.length) (hv : Cond.static (my Mc) ∈ lw_gd) (hst : stk = As.reverse ++ st) (hrm : dC + 1 ≤ d) (hroom : (st.map fun v => v.category).sum ≤ 8) (hC : Ct w (dC, bC, sC) Mc As h Qc) (kk : ∀ (r : Option Value) (w' : Wd) (h' : Hp), Qc r w' h' → Go w' (d, b0, s0) M pc2 ls (pushR r st) h' Q) : Go w (d, b0 + bC, s0 + sC) M pc ls stk h Q := by
  subst hp
  intro E p l e R s m args below meth c H locs cells slots Mc_ Ms Z lsA C r1 r2 r3 r4 r5 r6 hP hS hL hR
  have hf : cells + bC ≤ R.cells ∧ slots + sC ≤ R.slots := ⟨by simp only at r3; omega, by simp only at r4; omega⟩
  refine call_core (va_runS (nL := mL M) (As := As.map (cv E)) (rest := st.map (cv E)) ⟨C.1, C.2.1, C.2.2.1, by rw [← hM]; exact C.2.2.2.1, C.2.2.2.2.1⟩ (hC E l) ⟨callB_of As.length C.2.2.2.2.1 (good_ws hok) rfl rfl rfl (C.2.2.2.2.1 _ hok.2.1) (C.2.2.2.2.1 _ hlink) hok.2.2.1 ⟨by simp only [rmR]; simp only at r1; omega, by simp only [rmR]; have := hok.2.2.2; simp only at r2; omega⟩, C.2.2.2.2.1 _ hv⟩ ⟨PcG_blind E w _ h, fun U hU hW => PcG_to C.2.2.2.2.2.2 hP hS hU hW⟩ rfl (List.length_map _) hL.1 (by rw [hst, List.map_append, List.map_reverse]) (lv_room (by rw [cv_sum]; exact hroom)) hd hf) hS (fun r w' h' H1 locs1 hq hP1 hS1 => ?_)
  have k := kk r w' h' hq E p l e R s m args below meth c H1 locs1 (cells + bC) (slots + sC) Mc_ Ms Z lsA C r1 r2 (by simp only at r3 ⊢; omega) (by simp only at r4 ⊢; omega) r5 r6 hP1 hS1 hL hR
  rw [pushR_cv] at k
  exact k
theorem go_callSN {w : Wd} {dC bC sC d b0 s0 : Nat} {M : Mth} {pc pc2 : Nat} {ls : List (Nat × Value)} {st : List Value} {h : Hp} {Q : Option Value → Wd → Hp → Prop} {Mc : Mth} {own : String} {host : String} {index : Nat} {As stk : List Value} {Qc : Option Value → Wd → Hp → Prop} (hM : (my M).cls = own) (hd : decode (mc M) pc = .ok (.invokestatic index, 3)) (hp : pc + 3 = pc2) (hlink : Cond.methodLinkNest own index (my Mc) host ∈ lw_nst) (hok : MOK Mc As.length) (hv : Cond.static (my Mc) ∈ lw_gd) (hst : stk = As.reverse ++ st) (hrm : dC + 1 ≤ d) (hroom : (st.map fun v => v.category).sum ≤ 8) (hC : Ct w (dC, bC, sC) Mc As h Qc) (kk : ∀ (r : Option Value) (w' : Wd) (h' : Hp), Qc r w' h' → Go w' (d, b0, s0) M pc2 ls (pushR r st) h' Q) : Go w (d, b0 + bC, s0 + sC) M pc ls stk h Q := by
  subst hp
  intro E p l e R s m args below meth c H locs cells slots Mc_ Ms Z lsA C r1 r2 r3 r4 r5 r6 hP hS hL hR
  have hf : cells + bC ≤ R.cells ∧ slots + sC ≤ R.slots := ⟨by simp only at r3; omega, by simp only at r4; omega⟩
  refine call_core (va_runSN (nL := mL M) (As := As.map (cv E)) (rest := st.map (cv E)) ⟨C.1, C.2.1, C.2.2.1, by rw [← hM]; exact C.2.2.2.1, C.2.2.2.2.1⟩ (hC E l) ⟨va_cnB As.length C.2.2.2.2.1 (good_ws hok) rfl rfl rfl (C.2.2.2.2.2.2.1.2.1 _ hlink) (C.2.2.2.2.1 _ hok.2.1) hok.2.2.1 ⟨by simp only [rmR]; simp only at r1; omega, by simp only [rmR]; have := hok.2.2.2; simp only at r2; omega⟩, C.2.2.2.2.1 _ hv, trivial⟩ ⟨PcG_blind E w _ h, fun U hU hW => PcG_to C.2.2.2.2.2.2 hP hS hU hW⟩ rfl (List.length_map _) hL.1 (by rw [hst, List.map_append, List.map_reverse]) (lv_room (by rw [cv_sum]; exact hroom)) hd hf) hS (fun r w' h' H1 locs1 hq hP1 hS1 => ?_)
  have k := kk r w' h' hq E p l e R s m args below meth c H1 locs1 (cells + bC) (slots + sC) Mc_ Ms Z lsA C r1 r2 (by simp only at r3 ⊢; omega) (by simp only at r4 ⊢; omega) r5 r6 hP1 hS1 hL hR
  rw [pushR_cv] at k
  exact k
theorem go_callI {w : Wd} {dC bC sC d b0 s0 : Nat} {M : Mth} {pc pc2 : Nat} {ls : List (Nat × Value)} {st : List Value} {h : Hp} {Q : Option Value → Wd → Hp → Prop} {Mc : Mth} {own : String} {index : Nat} {As stk : List Value} {Qc : Option Value → Wd → Hp → Prop} {k : Nat} (hM : (my M).cls = own) (hd : decode (mc M) pc = .ok (.invokespecial index, 3)) (hp : pc + 3 = pc2) (hlink : Cond.methodLink own index (my Mc) ∈ lw_gd) (hok : MOK Mc As.length) (hv : Cond.instanceMethod (my Mc) ∈ lw_gd) (hin : (my Mc).name = "<init>") (hret : mr Mc = none) (hst : stk = As.reverse ++ .ref k :: st) (hrm : dC + 1 ≤ d) (hroom : (st.map fun v => v.category).sum ≤ 8) (hC : Ct w (dC, bC, sC) Mc (.ref k :: As) h Qc) (kk : ∀ (r : Option Value) (w' : Wd) (h' : Hp), Qc r w' h' → Go w' (d, b0, s0) M pc2 ls (pushR r st) h' Q) : Go w (d, b0 + bC, s0 + sC) M pc ls stk h Q := by
  subst hp
  intro E p l e R s m args below meth c H locs cells slots Mc_ Ms Z lsA C r1 r2 r3 r4 r5 r6 hP hS hL hR
  have hf : cells + bC ≤ R.cells ∧ slots + sC ≤ R.slots := ⟨by simp only at r3; omega, by simp only at r4; omega⟩
  refine call_core (va_runI (nL := mL M) (As := As.map (cv E)) (b := eA E k) (rest := st.map (cv E)) ⟨C.1, C.2.1, C.2.2.1, by rw [← hM]; exact C.2.2.2.1, C.2.2.2.2.1⟩ (hC E l) ⟨callB_of (ret := none) (bytes := mc Mc) (maxL := mL Mc) As.length C.2.2.2.2.1 (good_ws hok) (by rw [← hret]; rfl) rfl rfl (C.2.2.2.2.1 _ hok.2.1) (C.2.2.2.2.1 _ hlink) hok.2.2.1 ⟨by simp only [rmR]; simp only at r1; omega, by simp only [rmR]; have := hok.2.2.2; simp only at r2; omega⟩, hin, C.2.2.2.2.1 _ hv⟩ ⟨PcG_blind E w _ h, fun U hU hW => PcG_to C.2.2.2.2.2.2 hP hS hU hW⟩ rfl (List.length_map _) hL.1 (by rw [hst, List.map_append, List.map_reverse]; rfl) (lv_room (by rw [cv_sum]; exact hroom)) hd hf) hS (fun r w' h' H1 locs1 hq hP1 hS1 => ?_)
  have k := kk r w' h' hq E p l e R s m args below meth c H1 locs1 (cells + bC) (slots + sC) Mc_ Ms Z lsA C r1 r2 (by simp only at r3 ⊢; omega) (by simp only at r4 ⊢; omega) r5 r6 hP1 hS1 hL hR
  rw [pushR_cv] at k
  exact k
theorem go_callIN {w : Wd} {dC bC sC d b0 s0 : Nat} {M : Mth} {pc pc2 : Nat} {ls : List (Nat × Value)} {st : List Value} {h : Hp} {Q : Option Value → Wd → Hp → Prop} {Mc : Mth} {own : String} {host : String} {index : Nat} {As stk : List Value} {Qc : Option Value → Wd → Hp → Prop} {k : Nat} (hM : (my M).cls = own) (hd : decode (mc M) pc = .ok (.invokespecial index, 3)) (hp : pc + 3 = pc2) (hlink : Cond.methodLinkNest own index (my Mc) host ∈ lw_nst) (hok : MOK Mc As.length) (hv : Cond.instanceMethod (my Mc) ∈ lw_gd) (hin : (my Mc).name = "<init>") (hret : mr Mc = none) (hst : stk = As.reverse ++ .ref k :: st) (hrm : dC + 1 ≤ d) (hroom : (st.map fun v => v.category).sum ≤ 8) (hC : Ct w (dC, bC, sC) Mc (.ref k :: As) h Qc) (kk : ∀ (r : Option Value) (w' : Wd) (h' : Hp), Qc r w' h' → Go w' (d, b0, s0) M pc2 ls (pushR r st) h' Q) : Go w (d, b0 + bC, s0 + sC) M pc ls stk h Q := by
  subst hp
  intro E p l e R s m args below meth c H locs cells slots Mc_ Ms Z lsA C r1 r2 r3 r4 r5 r6 hP hS hL hR
  have hf : cells + bC ≤ R.cells ∧ slots + sC ≤ R.slots := ⟨by simp only at r3; omega, by simp only at r4; omega⟩
  refine call_core (va_runIN (nL := mL M) (As := As.map (cv E)) (b := eA E k) (rest := st.map (cv E)) ⟨C.1, C.2.1, C.2.2.1, by rw [← hM]; exact C.2.2.2.1, C.2.2.2.2.1⟩ (hC E l) ⟨va_cnB (ret := none) (bytes := mc Mc) (maxL := mL Mc) As.length C.2.2.2.2.1 (good_ws hok) (by rw [← hret]; rfl) rfl rfl (C.2.2.2.2.2.2.1.2.1 _ hlink) (C.2.2.2.2.1 _ hok.2.1) hok.2.2.1 ⟨by simp only [rmR]; simp only at r1; omega, by simp only [rmR]; have := hok.2.2.2; simp only at r2; omega⟩, hin, C.2.2.2.2.1 _ hv⟩ ⟨PcG_blind E w _ h, fun U hU hW => PcG_to C.2.2.2.2.2.2 hP hS hU hW⟩ rfl (List.length_map _) hL.1 (by rw [hst, List.map_append, List.map_reverse]; rfl) (lv_room (by rw [cv_sum]; exact hroom)) hd hf) hS (fun r w' h' H1 locs1 hq hP1 hS1 => ?_)
  have k := kk r w' h' hq E p l e R s m args below meth c H1 locs1 (cells + bC) (slots + sC) Mc_ Ms Z lsA C r1 r2 (by simp only at r3 ⊢; omega) (by simp only at r4 ⊢; omega) r5 r6 hP1 hS1 hL hR
  rw [pushR_cv] at k
  exact k
