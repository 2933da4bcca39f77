/-! ===== the instructions ===== -/
def lk : List (Nat × Value) → Nat → Option Value
  | [], _ => none
  | (j, x) :: t, i => bif Nat.beq j i then some x else lk t i
theorem lk_mem : ∀ {ls : List (Nat × Value)} {i : Nat} {v : Value}, lk ls i = some v → (i, v) ∈ ls
  | [], _, _, h => by cases h
  | (j, x) :: t, i, v, h => by
    unfold lk at h
    cases hb : Nat.beq j i with
    | true =>
      rw [hb] at h
      cases h
      have := Nat.eq_of_beq_eq_true hb
      subst this
      exact List.mem_cons_self
    | false =>
      rw [hb] at h
      exact List.mem_cons_of_mem _ (lk_mem h)
def upL : List (Nat × Value) → Nat → Value → List (Nat × Value)
  | [], i, v => [(i, v)]
  | (j, x) :: t, i, v => bif Nat.beq j i then (i, v) :: t else bif Nat.blt i j then (i, v) :: (j, x) :: t else (j, x) :: upL t i v
/-- places of a list of locals rise -/
def asc : List (Nat × Value) → Bool
  | [] => true
  | [_] => true
  | (j, _) :: (i, y) :: t => Nat.blt j i && asc ((i, y) :: t)
def c2 (v : Value) : Bool := match v with
  | .long _ => true
  | .double _ => true
  | _ => false
theorem c2_cat (v : Value) : (v.category == 2) = c2 v := by cases v <;> rfl
/-- a store of one word at i hurts no pair -/
def nc1 (ls : List (Nat × Value)) (i : Nat) : Bool := ls.all fun q => !(Nat.beq (q.1 + 1) i && c2 q.2)
def nc2 (ls : List (Nat × Value)) (i : Nat) : Bool := ls.all fun q => !(Nat.beq (q.1 + 1) i && c2 q.2) && !(Nat.beq q.1 (i + 1))
theorem upL_mem : ∀ {ls : List (Nat × Value)} {i : Nat} {v : Value}, asc ls = true → ∀ q ∈ upL ls i v, q = (i, v) ∨ (q ∈ ls ∧ q.1 ≠ i)
  | [], i, v, _, q, hq => by
    simp only [upL, List.mem_singleton] at hq
    exact Or.inl hq
  | (j, x) :: t, i, v, ha, q, hq => by
    have hgt : ∀ y ∈ t, j < y.1 := by
      clear hq
      induction t generalizing j x with
      | nil => intro y hy; cases hy
      | cons a t ih =>
        obtain ⟨a1, a2⟩ := a
        simp only [asc, Bool.and_eq_true, Nat.blt_eq] at ha
        intro y hy
        rcases List.mem_cons.mp hy with rfl | hy
        · exact ha.1
        · exact Nat.lt_trans ha.1 (ih a1 a2 ha.2 y hy)
    unfold upL at hq
    cases hb : Nat.beq j i with
    | true =>
      rw [hb] at hq
      have e := Nat.eq_of_beq_eq_true hb
      subst e
      rcases List.mem_cons.mp hq with rfl | hq
      · exact Or.inl rfl
      · exact Or.inr ⟨List.mem_cons_of_mem _ hq, fun e => by have := hgt q hq; omega⟩
    | false =>
      rw [hb] at hq
      have ne : j ≠ i := fun e => by subst e; simp at hb
      cases hc : Nat.blt i j with
      | true =>
        rw [hc] at hq
        have hlt := (Nat.blt_eq).mp hc
        rcases List.mem_cons.mp hq with rfl | hq
        · exact Or.inl rfl
        · refine Or.inr ⟨hq, fun e => ?_⟩
          rcases List.mem_cons.mp hq with rfl | hq
          · exact ne e
          · have := hgt q hq; omega
      | false =>
        rw [hc] at hq
        rcases List.mem_cons.mp hq with rfl | hq
        · exact Or.inr ⟨List.mem_cons_self, ne⟩
        · have ha2 : asc t = true := by
            cases t with
            | nil => rfl
            | cons a t =>
              obtain ⟨a1, a2⟩ := a
              simp only [asc, Bool.and_eq_true] at ha
              exact ha.2
          rcases upL_mem ha2 q hq with h | ⟨h1, h2⟩
          · exact Or.inl h
          · exact Or.inr ⟨List.mem_cons_of_mem _ h1, h2⟩
theorem lk_at {E : En} {lsA : Array Slot} {nL : Nat} {ls : List (Nat × Value)} (hL : lv_has lsA nL (ls.map fun q => (q.1, cv E q.2))) {i : Nat} {v : Value} (hl : lk ls i = some v) : lsA[i]? = some (.val (cv E v)) := hL.2.2 (i, cv E v) (List.mem_map.mpr ⟨(i, v), lk_mem hl, rfl⟩)
theorem up_has1 {E : En} {lsA : Array Slot} {nL : Nat} {ls : List (Nat × Value)} {i : Nat} {v : Value} (ha : asc ls = true) (hn : nc1 ls i = true) (h : lv_has lsA nL ((i, cv E v) :: (ls.map fun q => (q.1, cv E q.2)).filter (fun q => !(q.1 == i) && !(q.1 + 1 == i && q.2.category == 2)))) : lv_has lsA nL ((upL ls i v).map fun q => (q.1, cv E q.2)) := by
  refine ⟨h.1, h.2.1, fun q hq => h.2.2 q ?_⟩
  obtain ⟨q0, h0, rfl⟩ := List.mem_map.mp hq
  rcases upL_mem ha q0 h0 with rfl | ⟨h1, h2⟩
  · exact List.mem_cons_self
  · refine List.mem_cons_of_mem _ (List.mem_filter.mpr ⟨List.mem_map.mpr ⟨q0, h1, rfl⟩, ?_⟩)
    have h3 := List.all_eq_true.mp hn q0 h1
    simp only [cv_cat, c2_cat, Bool.and_eq_true, Bool.not_eq_true', beq_eq_false_iff_ne]
    refine ⟨h2, ?_⟩
    cases h4 : (q0.1 + 1 == i) with
    | false => rfl
    | true =>
      have : Nat.beq (q0.1 + 1) i = true := by have := beq_iff_eq.mp h4; subst this; simp
      rw [this] at h3
      simpa using h3
theorem up_has2 {E : En} {lsA : Array Slot} {nL : Nat} {ls : List (Nat × Value)} {i : Nat} {v : Value} (ha : asc ls = true) (hn : nc2 ls i = true) (h : lv_has lsA nL ((i, cv E v) :: (ls.map fun q => (q.1, cv E q.2)).filter (fun q => !(q.1 == i) && (!(q.1 == i + 1) && !(q.1 + 1 == i && q.2.category == 2))))) : lv_has lsA nL ((upL ls i v).map fun q => (q.1, cv E q.2)) := by
  refine ⟨h.1, h.2.1, fun q hq => h.2.2 q ?_⟩
  obtain ⟨q0, h0, rfl⟩ := List.mem_map.mp hq
  rcases upL_mem ha q0 h0 with rfl | ⟨h1, h2⟩
  · exact List.mem_cons_self
  · refine List.mem_cons_of_mem _ (List.mem_filter.mpr ⟨List.mem_map.mpr ⟨q0, h1, rfl⟩, ?_⟩)
    have h3 := List.all_eq_true.mp hn q0 h1
    simp only [Bool.and_eq_true] at h3
    obtain ⟨h3, h5⟩ := h3
    simp only [cv_cat, c2_cat, Bool.and_eq_true, Bool.not_eq_true', beq_eq_false_iff_ne]
    refine ⟨h2, fun e => by rw [e] at h5; simp at h5, ?_⟩
    cases h4 : (q0.1 + 1 == i) with
    | false => rfl
    | true =>
      have : Nat.beq (q0.1 + 1) i = true := by have := beq_iff_eq.mp h4; subst this; simp
      rw [this] at h3
      simpa using h3
theorem Go.pick {w : Wd} {rm : Rm} {M : Mth} {pc : Nat} {ls : List (Nat × Value)} {st : List Value} {h : Hp} {Q : Option Value → Wd → Hp → Prop} {ls2 : List (Nat × Value)} (ks : List Nat) (hs : lv_pick ls ks = ls2) (k : Go w rm M pc ls2 st h Q) : Go w rm M pc ls st h Q := by
  intro E p l e R s m args below meth c H locs cells slots Mc Ms Z lsA C r1 r2 r3 r4 r5 r6 hP hS hL hR
  refine k E p l e R s m args below meth c H locs cells slots Mc Ms Z lsA C r1 r2 r3 r4 r5 r6 hP hS ⟨hL.1, hL.2.1, fun q hq => ?_⟩ hR
  obtain ⟨q0, h1, rfl⟩ := List.mem_map.mp hq
  subst hs
  obtain ⟨i, -, hi⟩ := List.mem_filterMap.mp h1
  exact hL.2.2 _ (List.mem_map.mpr ⟨q0, List.mem_of_getElem? hi, rfl⟩)
theorem go_iadd {w : Wd} {rm : Rm} {M : Mth} {pc pc2 : Nat} {ls : List (Nat × Value)} {st : List Value} {h : Hp} {Q : Option Value → Wd → Hp → Prop} {x y : Int32} (hd : decode (mc M) pc = .ok (.iadd, 1)) (hp : pc + 1 = pc2) (k : Go w rm M pc2 ls (.int (x + y) :: st) h Q) : Go w rm M pc ls (.int y :: .int x :: st) h Q := by
  subst hp
  intro E p l e R s m args below meth c H locs cells slots Mc Ms Z lsA C r1 r2 r3 r4 r5 r6 hP hS hL hR
  exact lv_iadd C.1 C.2.1 hd (k E p l e R s m args below meth c H locs cells slots Mc Ms Z lsA C r1 r2 r3 r4 r5 r6 hP hS hL hR)
theorem go_isub {w : Wd} {rm : Rm} {M : Mth} {pc pc2 : Nat} {ls : List (Nat × Value)} {st : List Value} {h : Hp} {Q : Option Value → Wd → Hp → Prop} {x y : Int32} (hd : decode (mc M) pc = .ok (.isub, 1)) (hp : pc + 1 = pc2) (k : Go w rm M pc2 ls (.int (x - y) :: st) h Q) : Go w rm M pc ls (.int y :: .int x :: st) h Q := by
  subst hp
  intro E p l e R s m args below meth c H locs cells slots Mc Ms Z lsA C r1 r2 r3 r4 r5 r6 hP hS hL hR
  exact lv_isub C.1 C.2.1 hd (k E p l e R s m args below meth c H locs cells slots Mc Ms Z lsA C r1 r2 r3 r4 r5 r6 hP hS hL hR)
theorem go_imul {w : Wd} {rm : Rm} {M : Mth} {pc pc2 : Nat} {ls : List (Nat × Value)} {st : List Value} {h : Hp} {Q : Option Value → Wd → Hp → Prop} {x y : Int32} (hd : decode (mc M) pc = .ok (.imul, 1)) (hp : pc + 1 = pc2) (k : Go w rm M pc2 ls (.int (x * y) :: st) h Q) : Go w rm M pc ls (.int y :: .int x :: st) h Q := by
  subst hp
  intro E p l e R s m args below meth c H locs cells slots Mc Ms Z lsA C r1 r2 r3 r4 r5 r6 hP hS hL hR
  exact lv_imul C.1 C.2.1 hd (k E p l e R s m args below meth c H locs cells slots Mc Ms Z lsA C r1 r2 r3 r4 r5 r6 hP hS hL hR)
theorem go_iand {w : Wd} {rm : Rm} {M : Mth} {pc pc2 : Nat} {ls : List (Nat × Value)} {st : List Value} {h : Hp} {Q : Option Value → Wd → Hp → Prop} {x y : Int32} (hd : decode (mc M) pc = .ok (.iand, 1)) (hp : pc + 1 = pc2) (k : Go w rm M pc2 ls (.int (x &&& y) :: st) h Q) : Go w rm M pc ls (.int y :: .int x :: st) h Q := by
  subst hp
  intro E p l e R s m args below meth c H locs cells slots Mc Ms Z lsA C r1 r2 r3 r4 r5 r6 hP hS hL hR
  exact lv_iand C.1 C.2.1 hd (k E p l e R s m args below meth c H locs cells slots Mc Ms Z lsA C r1 r2 r3 r4 r5 r6 hP hS hL hR)
theorem go_ior {w : Wd} {rm : Rm} {M : Mth} {pc pc2 : Nat} {ls : List (Nat × Value)} {st : List Value} {h : Hp} {Q : Option Value → Wd → Hp → Prop} {x y : Int32} (hd : decode (mc M) pc = .ok (.ior, 1)) (hp : pc + 1 = pc2) (k : Go w rm M pc2 ls (.int (x ||| y) :: st) h Q) : Go w rm M pc ls (.int y :: .int x :: st) h Q := by
  subst hp
  intro E p l e R s m args below meth c H locs cells slots Mc Ms Z lsA C r1 r2 r3 r4 r5 r6 hP hS hL hR
  exact lv_ior C.1 C.2.1 hd (k E p l e R s m args below meth c H locs cells slots Mc Ms Z lsA C r1 r2 r3 r4 r5 r6 hP hS hL hR)
theorem go_ixor {w : Wd} {rm : Rm} {M : Mth} {pc pc2 : Nat} {ls : List (Nat × Value)} {st : List Value} {h : Hp} {Q : Option Value → Wd → Hp → Prop} {x y : Int32} (hd : decode (mc M) pc = .ok (.ixor, 1)) (hp : pc + 1 = pc2) (k : Go w rm M pc2 ls (.int (x ^^^ y) :: st) h Q) : Go w rm M pc ls (.int y :: .int x :: st) h Q := by
  subst hp
  intro E p l e R s m args below meth c H locs cells slots Mc Ms Z lsA C r1 r2 r3 r4 r5 r6 hP hS hL hR
  exact lv_ixor C.1 C.2.1 hd (k E p l e R s m args below meth c H locs cells slots Mc Ms Z lsA C r1 r2 r3 r4 r5 r6 hP hS hL hR)
theorem go_ishl {w : Wd} {rm : Rm} {M : Mth} {pc pc2 : Nat} {ls : List (Nat × Value)} {st : List Value} {h : Hp} {Q : Option Value → Wd → Hp → Prop} {x y : Int32} (hd : decode (mc M) pc = .ok (.ishl, 1)) (hp : pc + 1 = pc2) (k : Go w rm M pc2 ls (.int (x <<< (y &&& 31)) :: st) h Q) : Go w rm M pc ls (.int y :: .int x :: st) h Q := by
  subst hp
  intro E p l e R s m args below meth c H locs cells slots Mc Ms Z lsA C r1 r2 r3 r4 r5 r6 hP hS hL hR
  exact lv_ishl C.1 C.2.1 hd (k E p l e R s m args below meth c H locs cells slots Mc Ms Z lsA C r1 r2 r3 r4 r5 r6 hP hS hL hR)
theorem go_ishr {w : Wd} {rm : Rm} {M : Mth} {pc pc2 : Nat} {ls : List (Nat × Value)} {st : List Value} {h : Hp} {Q : Option Value → Wd → Hp → Prop} {x y : Int32} (hd : decode (mc M) pc = .ok (.ishr, 1)) (hp : pc + 1 = pc2) (k : Go w rm M pc2 ls (.int (x >>> (y &&& 31)) :: st) h Q) : Go w rm M pc ls (.int y :: .int x :: st) h Q := by
  subst hp
  intro E p l e R s m args below meth c H locs cells slots Mc Ms Z lsA C r1 r2 r3 r4 r5 r6 hP hS hL hR
  exact lv_ishr C.1 C.2.1 hd (k E p l e R s m args below meth c H locs cells slots Mc Ms Z lsA C r1 r2 r3 r4 r5 r6 hP hS hL hR)
theorem go_ladd {w : Wd} {rm : Rm} {M : Mth} {pc pc2 : Nat} {ls : List (Nat × Value)} {st : List Value} {h : Hp} {Q : Option Value → Wd → Hp → Prop} {x y : Int64} (hd : decode (mc M) pc = .ok (.ladd, 1)) (hp : pc + 1 = pc2) (k : Go w rm M pc2 ls (.long (x + y) :: st) h Q) : Go w rm M pc ls (.long y :: .long x :: st) h Q := by
  subst hp
  intro E p l e R s m args below meth c H locs cells slots Mc Ms Z lsA C r1 r2 r3 r4 r5 r6 hP hS hL hR
  exact lv_ladd C.1 C.2.1 hd (k E p l e R s m args below meth c H locs cells slots Mc Ms Z lsA C r1 r2 r3 r4 r5 r6 hP hS hL hR)
theorem go_lsub {w : Wd} {rm : Rm} {M : Mth} {pc pc2 : Nat} {ls : List (Nat × Value)} {st : List Value} {h : Hp} {Q : Option Value → Wd → Hp → Prop} {x y : Int64} (hd : decode (mc M) pc = .ok (.lsub, 1)) (hp : pc + 1 = pc2) (k : Go w rm M pc2 ls (.long (x - y) :: st) h Q) : Go w rm M pc ls (.long y :: .long x :: st) h Q := by
  subst hp
  intro E p l e R s m args below meth c H locs cells slots Mc Ms Z lsA C r1 r2 r3 r4 r5 r6 hP hS hL hR
  exact lv_lsub C.1 C.2.1 hd (k E p l e R s m args below meth c H locs cells slots Mc Ms Z lsA C r1 r2 r3 r4 r5 r6 hP hS hL hR)
theorem go_lmul {w : Wd} {rm : Rm} {M : Mth} {pc pc2 : Nat} {ls : List (Nat × Value)} {st : List Value} {h : Hp} {Q : Option Value → Wd → Hp → Prop} {x y : Int64} (hd : decode (mc M) pc = .ok (.lmul, 1)) (hp : pc + 1 = pc2) (k : Go w rm M pc2 ls (.long (x * y) :: st) h Q) : Go w rm M pc ls (.long y :: .long x :: st) h Q := by
  subst hp
  intro E p l e R s m args below meth c H locs cells slots Mc Ms Z lsA C r1 r2 r3 r4 r5 r6 hP hS hL hR
  exact lv_lmul C.1 C.2.1 hd (k E p l e R s m args below meth c H locs cells slots Mc Ms Z lsA C r1 r2 r3 r4 r5 r6 hP hS hL hR)
theorem go_land {w : Wd} {rm : Rm} {M : Mth} {pc pc2 : Nat} {ls : List (Nat × Value)} {st : List Value} {h : Hp} {Q : Option Value → Wd → Hp → Prop} {x y : Int64} (hd : decode (mc M) pc = .ok (.land, 1)) (hp : pc + 1 = pc2) (k : Go w rm M pc2 ls (.long (x &&& y) :: st) h Q) : Go w rm M pc ls (.long y :: .long x :: st) h Q := by
  subst hp
  intro E p l e R s m args below meth c H locs cells slots Mc Ms Z lsA C r1 r2 r3 r4 r5 r6 hP hS hL hR
  exact lv_land C.1 C.2.1 hd (k E p l e R s m args below meth c H locs cells slots Mc Ms Z lsA C r1 r2 r3 r4 r5 r6 hP hS hL hR)
theorem go_lor {w : Wd} {rm : Rm} {M : Mth} {pc pc2 : Nat} {ls : List (Nat × Value)} {st : List Value} {h : Hp} {Q : Option Value → Wd → Hp → Prop} {x y : Int64} (hd : decode (mc M) pc = .ok (.lor, 1)) (hp : pc + 1 = pc2) (k : Go w rm M pc2 ls (.long (x ||| y) :: st) h Q) : Go w rm M pc ls (.long y :: .long x :: st) h Q := by
  subst hp
  intro E p l e R s m args below meth c H locs cells slots Mc Ms Z lsA C r1 r2 r3 r4 r5 r6 hP hS hL hR
  exact lv_lor C.1 C.2.1 hd (k E p l e R s m args below meth c H locs cells slots Mc Ms Z lsA C r1 r2 r3 r4 r5 r6 hP hS hL hR)
theorem go_lxor {w : Wd} {rm : Rm} {M : Mth} {pc pc2 : Nat} {ls : List (Nat × Value)} {st : List Value} {h : Hp} {Q : Option Value → Wd → Hp → Prop} {x y : Int64} (hd : decode (mc M) pc = .ok (.lxor, 1)) (hp : pc + 1 = pc2) (k : Go w rm M pc2 ls (.long (x ^^^ y) :: st) h Q) : Go w rm M pc ls (.long y :: .long x :: st) h Q := by
  subst hp
  intro E p l e R s m args below meth c H locs cells slots Mc Ms Z lsA C r1 r2 r3 r4 r5 r6 hP hS hL hR
  exact lv_lxor C.1 C.2.1 hd (k E p l e R s m args below meth c H locs cells slots Mc Ms Z lsA C r1 r2 r3 r4 r5 r6 hP hS hL hR)
theorem go_idiv {w : Wd} {rm : Rm} {M : Mth} {pc pc2 : Nat} {ls : List (Nat × Value)} {st : List Value} {h : Hp} {Q : Option Value → Wd → Hp → Prop} {x y : Int32} (hd : decode (mc M) pc = .ok (.idiv, 1)) (hp : pc + 1 = pc2) (hne : ¬ y = 0) (k : Go w rm M pc2 ls (.int (x / y) :: st) h Q) : Go w rm M pc ls (.int y :: .int x :: st) h Q := by
  subst hp
  intro E p l e R s m args below meth c H locs cells slots Mc Ms Z lsA C r1 r2 r3 r4 r5 r6 hP hS hL hR
  exact lv_idiv C.1 C.2.1 hd hne (k E p l e R s m args below meth c H locs cells slots Mc Ms Z lsA C r1 r2 r3 r4 r5 r6 hP hS hL hR)
theorem go_irem {w : Wd} {rm : Rm} {M : Mth} {pc pc2 : Nat} {ls : List (Nat × Value)} {st : List Value} {h : Hp} {Q : Option Value → Wd → Hp → Prop} {x y : Int32} (hd : decode (mc M) pc = .ok (.irem, 1)) (hp : pc + 1 = pc2) (hne : ¬ y = 0) (k : Go w rm M pc2 ls (.int (x - x / y * y) :: st) h Q) : Go w rm M pc ls (.int y :: .int x :: st) h Q := by
  subst hp
  intro E p l e R s m args below meth c H locs cells slots Mc Ms Z lsA C r1 r2 r3 r4 r5 r6 hP hS hL hR
  exact lv_irem C.1 C.2.1 hd hne (k E p l e R s m args below meth c H locs cells slots Mc Ms Z lsA C r1 r2 r3 r4 r5 r6 hP hS hL hR)
theorem go_ldiv {w : Wd} {rm : Rm} {M : Mth} {pc pc2 : Nat} {ls : List (Nat × Value)} {st : List Value} {h : Hp} {Q : Option Value → Wd → Hp → Prop} {x y : Int64} (hd : decode (mc M) pc = .ok (.ldiv, 1)) (hp : pc + 1 = pc2) (hne : ¬ y = 0) (k : Go w rm M pc2 ls (.long (x / y) :: st) h Q) : Go w rm M pc ls (.long y :: .long x :: st) h Q := by
  subst hp
  intro E p l e R s m args below meth c H locs cells slots Mc Ms Z lsA C r1 r2 r3 r4 r5 r6 hP hS hL hR
  exact lv_ldiv C.1 C.2.1 hd hne (k E p l e R s m args below meth c H locs cells slots Mc Ms Z lsA C r1 r2 r3 r4 r5 r6 hP hS hL hR)
theorem go_lrem {w : Wd} {rm : Rm} {M : Mth} {pc pc2 : Nat} {ls : List (Nat × Value)} {st : List Value} {h : Hp} {Q : Option Value → Wd → Hp → Prop} {x y : Int64} (hd : decode (mc M) pc = .ok (.lrem, 1)) (hp : pc + 1 = pc2) (hne : ¬ y = 0) (k : Go w rm M pc2 ls (.long (x - x / y * y) :: st) h Q) : Go w rm M pc ls (.long y :: .long x :: st) h Q := by
  subst hp
  intro E p l e R s m args below meth c H locs cells slots Mc Ms Z lsA C r1 r2 r3 r4 r5 r6 hP hS hL hR
  exact lv_lrem C.1 C.2.1 hd hne (k E p l e R s m args below meth c H locs cells slots Mc Ms Z lsA C r1 r2 r3 r4 r5 r6 hP hS hL hR)
theorem go_ineg {w : Wd} {rm : Rm} {M : Mth} {pc pc2 : Nat} {ls : List (Nat × Value)} {st : List Value} {h : Hp} {Q : Option Value → Wd → Hp → Prop} {x : Int32} (hd : decode (mc M) pc = .ok (.ineg, 1)) (hp : pc + 1 = pc2) (k : Go w rm M pc2 ls (.int (-x) :: st) h Q) : Go w rm M pc ls (.int x :: st) h Q := by
  subst hp
  intro E p l e R s m args below meth c H locs cells slots Mc Ms Z lsA C r1 r2 r3 r4 r5 r6 hP hS hL hR
  exact lv_ineg C.1 C.2.1 hd (k E p l e R s m args below meth c H locs cells slots Mc Ms Z lsA C r1 r2 r3 r4 r5 r6 hP hS hL hR)
theorem go_lneg {w : Wd} {rm : Rm} {M : Mth} {pc pc2 : Nat} {ls : List (Nat × Value)} {st : List Value} {h : Hp} {Q : Option Value → Wd → Hp → Prop} {x : Int64} (hd : decode (mc M) pc = .ok (.lneg, 1)) (hp : pc + 1 = pc2) (k : Go w rm M pc2 ls (.long (-x) :: st) h Q) : Go w rm M pc ls (.long x :: st) h Q := by
  subst hp
  intro E p l e R s m args below meth c H locs cells slots Mc Ms Z lsA C r1 r2 r3 r4 r5 r6 hP hS hL hR
  exact lv_lneg C.1 C.2.1 hd (k E p l e R s m args below meth c H locs cells slots Mc Ms Z lsA C r1 r2 r3 r4 r5 r6 hP hS hL hR)
theorem go_iushr {w : Wd} {rm : Rm} {M : Mth} {pc pc2 : Nat} {ls : List (Nat × Value)} {st : List Value} {h : Hp} {Q : Option Value → Wd → Hp → Prop} {x y v : Int32} (hd : decode (mc M) pc = .ok (.iushr, 1)) (hp : pc + 1 = pc2) (hv : (x.toUInt32 >>> (y.toUInt32 &&& Int32.toUInt32 31)).toInt32 = v) (k : Go w rm M pc2 ls (.int v :: st) h Q) : Go w rm M pc ls (.int y :: .int x :: st) h Q := by
  subst hp
  intro E p l e R s m args below meth c H locs cells slots Mc Ms Z lsA C r1 r2 r3 r4 r5 r6 hP hS hL hR
  exact lv_iushr C.1 C.2.1 hd hv (k E p l e R s m args below meth c H locs cells slots Mc Ms Z lsA C r1 r2 r3 r4 r5 r6 hP hS hL hR)
theorem go_lshl {w : Wd} {rm : Rm} {M : Mth} {pc pc2 : Nat} {ls : List (Nat × Value)} {st : List Value} {h : Hp} {Q : Option Value → Wd → Hp → Prop} {x v : Int64} {y : Int32} (hd : decode (mc M) pc = .ok (.lshl, 1)) (hp : pc + 1 = pc2) (hv : x <<< (y.toInt64 &&& 63) = v) (k : Go w rm M pc2 ls (.long v :: st) h Q) : Go w rm M pc ls (.int y :: .long x :: st) h Q := by
  subst hp
  intro E p l e R s m args below meth c H locs cells slots Mc Ms Z lsA C r1 r2 r3 r4 r5 r6 hP hS hL hR
  exact lv_lshl C.1 C.2.1 hd hv (k E p l e R s m args below meth c H locs cells slots Mc Ms Z lsA C r1 r2 r3 r4 r5 r6 hP hS hL hR)
theorem go_lcmp {w : Wd} {rm : Rm} {M : Mth} {pc pc2 : Nat} {ls : List (Nat × Value)} {st : List Value} {h : Hp} {Q : Option Value → Wd → Hp → Prop} {x y : Int64} (hd : decode (mc M) pc = .ok (.lcmp, 1)) (hp : pc + 1 = pc2) (k : Go w rm M pc2 ls (.int (lg_cmp x y) :: st) h Q) : Go w rm M pc ls (.long y :: .long x :: st) h Q := by
  subst hp
  intro E p l e R s m args below meth c H locs cells slots Mc Ms Z lsA C r1 r2 r3 r4 r5 r6 hP hS hL hR
  exact W.lcmp C.1 C.2.1 hd (k E p l e R s m args below meth c H locs cells slots Mc Ms Z lsA C r1 r2 r3 r4 r5 r6 hP hS hL hR)
theorem go_i2l {w : Wd} {rm : Rm} {M : Mth} {pc pc2 : Nat} {ls : List (Nat × Value)} {st : List Value} {h : Hp} {Q : Option Value → Wd → Hp → Prop} {x : Int32} (hd : decode (mc M) pc = .ok (.i2l, 1)) (hp : pc + 1 = pc2) (k : Go w rm M pc2 ls (.long x.toInt64 :: st) h Q) : Go w rm M pc ls (.int x :: st) h Q := by
  subst hp
  intro E p l e R s m args below meth c H locs cells slots Mc Ms Z lsA C r1 r2 r3 r4 r5 r6 hP hS hL hR
  exact lv_i2l C.1 C.2.1 hd rfl (k E p l e R s m args below meth c H locs cells slots Mc Ms Z lsA C r1 r2 r3 r4 r5 r6 hP hS hL hR)
theorem go_i2c {w : Wd} {rm : Rm} {M : Mth} {pc pc2 : Nat} {ls : List (Nat × Value)} {st : List Value} {h : Hp} {Q : Option Value → Wd → Hp → Prop} {x v : Int32} (hd : decode (mc M) pc = .ok (.i2c, 1)) (hp : pc + 1 = pc2) (hv : (x.toUInt32 % 65536).toInt32 = v) (k : Go w rm M pc2 ls (.int v :: st) h Q) : Go w rm M pc ls (.int x :: st) h Q := by
  subst hp
  intro E p l e R s m args below meth c H locs cells slots Mc Ms Z lsA C r1 r2 r3 r4 r5 r6 hP hS hL hR
  exact lv_i2c C.1 C.2.1 hd hv (k E p l e R s m args below meth c H locs cells slots Mc Ms Z lsA C r1 r2 r3 r4 r5 r6 hP hS hL hR)
theorem go_i2f {w : Wd} {rm : Rm} {M : Mth} {pc pc2 : Nat} {ls : List (Nat × Value)} {st : List Value} {h : Hp} {Q : Option Value → Wd → Hp → Prop} {x : Int32} (hd : decode (mc M) pc = .ok (.i2f, 1)) (hp : pc + 1 = pc2) (k : Go w rm M pc2 ls (.float (FP.i2f x) :: st) h Q) : Go w rm M pc ls (.int x :: st) h Q := by
  subst hp
  intro E p l e R s m args below meth c H locs cells slots Mc Ms Z lsA C r1 r2 r3 r4 r5 r6 hP hS hL hR
  exact lv_i2f C.1 C.2.1 hd (k E p l e R s m args below meth c H locs cells slots Mc Ms Z lsA C r1 r2 r3 r4 r5 r6 hP hS hL hR)
theorem go_f2i {w : Wd} {rm : Rm} {M : Mth} {pc pc2 : Nat} {ls : List (Nat × Value)} {st : List Value} {h : Hp} {Q : Option Value → Wd → Hp → Prop} {x : UInt32} (hd : decode (mc M) pc = .ok (.f2i, 1)) (hp : pc + 1 = pc2) (k : Go w rm M pc2 ls (.int (FP.f2i x) :: st) h Q) : Go w rm M pc ls (.float x :: st) h Q := by
  subst hp
  intro E p l e R s m args below meth c H locs cells slots Mc Ms Z lsA C r1 r2 r3 r4 r5 r6 hP hS hL hR
  exact lv_f2i C.1 C.2.1 hd (k E p l e R s m args below meth c H locs cells slots Mc Ms Z lsA C r1 r2 r3 r4 r5 r6 hP hS hL hR)
theorem go_fadd {w : Wd} {rm : Rm} {M : Mth} {pc pc2 : Nat} {ls : List (Nat × Value)} {st : List Value} {h : Hp} {Q : Option Value → Wd → Hp → Prop} {x y : UInt32} (hd : decode (mc M) pc = .ok (.fadd, 1)) (hp : pc + 1 = pc2) (hne : vf_n32 (FP.fadd x y)) (k : Go w rm M pc2 ls (.float (FP.fadd x y) :: st) h Q) : Go w rm M pc ls (.float y :: .float x :: st) h Q := by
  subst hp
  intro E p l e R s m args below meth c H locs cells slots Mc Ms Z lsA C r1 r2 r3 r4 r5 r6 hP hS hL hR
  exact lv_fadd C.1 C.2.1 hd hne (k E p l e R s m args below meth c H locs cells slots Mc Ms Z lsA C r1 r2 r3 r4 r5 r6 hP hS hL hR)
theorem go_fmul {w : Wd} {rm : Rm} {M : Mth} {pc pc2 : Nat} {ls : List (Nat × Value)} {st : List Value} {h : Hp} {Q : Option Value → Wd → Hp → Prop} {x y : UInt32} (hd : decode (mc M) pc = .ok (.fmul, 1)) (hp : pc + 1 = pc2) (hne : vf_n32 (FP.fmul x y)) (k : Go w rm M pc2 ls (.float (FP.fmul x y) :: st) h Q) : Go w rm M pc ls (.float y :: .float x :: st) h Q := by
  subst hp
  intro E p l e R s m args below meth c H locs cells slots Mc Ms Z lsA C r1 r2 r3 r4 r5 r6 hP hS hL hR
  exact lv_fmul C.1 C.2.1 hd hne (k E p l e R s m args below meth c H locs cells slots Mc Ms Z lsA C r1 r2 r3 r4 r5 r6 hP hS hL hR)
theorem go_fdiv {w : Wd} {rm : Rm} {M : Mth} {pc pc2 : Nat} {ls : List (Nat × Value)} {st : List Value} {h : Hp} {Q : Option Value → Wd → Hp → Prop} {x y : UInt32} (hd : decode (mc M) pc = .ok (.fdiv, 1)) (hp : pc + 1 = pc2) (hne : vf_n32 (FP.fdiv x y)) (k : Go w rm M pc2 ls (.float (FP.fdiv x y) :: st) h Q) : Go w rm M pc ls (.float y :: .float x :: st) h Q := by
  subst hp
  intro E p l e R s m args below meth c H locs cells slots Mc Ms Z lsA C r1 r2 r3 r4 r5 r6 hP hS hL hR
  exact lv_fdiv C.1 C.2.1 hd hne (k E p l e R s m args below meth c H locs cells slots Mc Ms Z lsA C r1 r2 r3 r4 r5 r6 hP hS hL hR)
theorem go_fcmp {w : Wd} {rm : Rm} {M : Mth} {pc pc2 : Nat} {ls : List (Nat × Value)} {st : List Value} {h : Hp} {Q : Option Value → Wd → Hp → Prop} {x y : UInt32} {op : CmpOp} (hd : decode (mc M) pc = .ok (.fcmp op, 1)) (hp : pc + 1 = pc2) (k : Go w rm M pc2 ls (.int (Op.cmpValue (FP.fcmp x y) op) :: st) h Q) : Go w rm M pc ls (.float y :: .float x :: st) h Q := by
  subst hp
  intro E p l e R s m args below meth c H locs cells slots Mc Ms Z lsA C r1 r2 r3 r4 r5 r6 hP hS hL hR
  exact lv_fcmp C.1 C.2.1 hd (k E p l e R s m args below meth c H locs cells slots Mc Ms Z lsA C r1 r2 r3 r4 r5 r6 hP hS hL hR)
theorem go_fconst0 {w : Wd} {rm : Rm} {M : Mth} {pc pc2 : Nat} {ls : List (Nat × Value)} {st : List Value} {h : Hp} {Q : Option Value → Wd → Hp → Prop}  (hd : decode (mc M) pc = .ok (.fconst 0, 1)) (hp : pc + 1 = pc2) (k : Go w rm M pc2 ls (.float FP.fconst0 :: st) h Q) : Go w rm M pc ls (st) h Q := by
  subst hp
  intro E p l e R s m args below meth c H locs cells slots Mc Ms Z lsA C r1 r2 r3 r4 r5 r6 hP hS hL hR
  exact lv_fconst0 C.1 C.2.1 hd (k E p l e R s m args below meth c H locs cells slots Mc Ms Z lsA C r1 r2 r3 r4 r5 r6 hP hS hL hR)
theorem go_fconst1 {w : Wd} {rm : Rm} {M : Mth} {pc pc2 : Nat} {ls : List (Nat × Value)} {st : List Value} {h : Hp} {Q : Option Value → Wd → Hp → Prop}  (hd : decode (mc M) pc = .ok (.fconst 1, 1)) (hp : pc + 1 = pc2) (k : Go w rm M pc2 ls (.float FP.fconst1 :: st) h Q) : Go w rm M pc ls (st) h Q := by
  subst hp
  intro E p l e R s m args below meth c H locs cells slots Mc Ms Z lsA C r1 r2 r3 r4 r5 r6 hP hS hL hR
  exact lv_fconst1 C.1 C.2.1 hd (k E p l e R s m args below meth c H locs cells slots Mc Ms Z lsA C r1 r2 r3 r4 r5 r6 hP hS hL hR)
theorem go_fconst2 {w : Wd} {rm : Rm} {M : Mth} {pc pc2 : Nat} {ls : List (Nat × Value)} {st : List Value} {h : Hp} {Q : Option Value → Wd → Hp → Prop}  (hd : decode (mc M) pc = .ok (.fconst 2, 1)) (hp : pc + 1 = pc2) (k : Go w rm M pc2 ls (.float FP.fconst2 :: st) h Q) : Go w rm M pc ls (st) h Q := by
  subst hp
  intro E p l e R s m args below meth c H locs cells slots Mc Ms Z lsA C r1 r2 r3 r4 r5 r6 hP hS hL hR
  exact lv_fconst2 C.1 C.2.1 hd (k E p l e R s m args below meth c H locs cells slots Mc Ms Z lsA C r1 r2 r3 r4 r5 r6 hP hS hL hR)
theorem go_iconst {w : Wd} {rm : Rm} {M : Mth} {pc pc2 : Nat} {ls : List (Nat × Value)} {st : List Value} {h : Hp} {Q : Option Value → Wd → Hp → Prop} {n : Int} {v : Int32} (hd : decode (mc M) pc = .ok (.iconst n, 1)) (hp : pc + 1 = pc2) (hv : Int32.ofInt n = v) (k : Go w rm M pc2 ls (.int v :: st) h Q) : Go w rm M pc ls (st) h Q := by
  subst hp
  intro E p l e R s m args below meth c H locs cells slots Mc Ms Z lsA C r1 r2 r3 r4 r5 r6 hP hS hL hR
  exact lv_iconst C.1 C.2.1 hd hv (k E p l e R s m args below meth c H locs cells slots Mc Ms Z lsA C r1 r2 r3 r4 r5 r6 hP hS hL hR)
theorem go_bipush {w : Wd} {rm : Rm} {M : Mth} {pc pc2 : Nat} {ls : List (Nat × Value)} {st : List Value} {h : Hp} {Q : Option Value → Wd → Hp → Prop} {n : Int} {v : Int32} (hd : decode (mc M) pc = .ok (.bipush n, 2)) (hp : pc + 2 = pc2) (hv : (Int8.ofInt n).toInt32 = v) (k : Go w rm M pc2 ls (.int v :: st) h Q) : Go w rm M pc ls (st) h Q := by
  subst hp
  intro E p l e R s m args below meth c H locs cells slots Mc Ms Z lsA C r1 r2 r3 r4 r5 r6 hP hS hL hR
  exact lv_bipush C.1 C.2.1 hd hv (k E p l e R s m args below meth c H locs cells slots Mc Ms Z lsA C r1 r2 r3 r4 r5 r6 hP hS hL hR)
theorem go_sipush {w : Wd} {rm : Rm} {M : Mth} {pc pc2 : Nat} {ls : List (Nat × Value)} {st : List Value} {h : Hp} {Q : Option Value → Wd → Hp → Prop} {n : Int} {v : Int32} (hd : decode (mc M) pc = .ok (.sipush n, 3)) (hp : pc + 3 = pc2) (hv : (Int16.ofInt n).toInt32 = v) (k : Go w rm M pc2 ls (.int v :: st) h Q) : Go w rm M pc ls (st) h Q := by
  subst hp
  intro E p l e R s m args below meth c H locs cells slots Mc Ms Z lsA C r1 r2 r3 r4 r5 r6 hP hS hL hR
  exact lv_sipush C.1 C.2.1 hd hv (k E p l e R s m args below meth c H locs cells slots Mc Ms Z lsA C r1 r2 r3 r4 r5 r6 hP hS hL hR)
theorem go_lconst {w : Wd} {rm : Rm} {M : Mth} {pc pc2 : Nat} {ls : List (Nat × Value)} {st : List Value} {h : Hp} {Q : Option Value → Wd → Hp → Prop} {n : Fin 2} {v : Int64} (hd : decode (mc M) pc = .ok (.lconst n, 1)) (hp : pc + 1 = pc2) (hv : Int64.ofNat (n : Nat) = v) (k : Go w rm M pc2 ls (.long v :: st) h Q) : Go w rm M pc ls (st) h Q := by
  subst hp
  intro E p l e R s m args below meth c H locs cells slots Mc Ms Z lsA C r1 r2 r3 r4 r5 r6 hP hS hL hR
  exact lv_lconst C.1 C.2.1 hd hv (k E p l e R s m args below meth c H locs cells slots Mc Ms Z lsA C r1 r2 r3 r4 r5 r6 hP hS hL hR)
theorem go_ldc {w : Wd} {rm : Rm} {M : Mth} {pc pc2 : Nat} {ls : List (Nat × Value)} {st : List Value} {h : Hp} {Q : Option Value → Wd → Hp → Prop} {own : String} {index : Nat} {v : Int32} (hd : decode (mc M) pc = .ok (.ldc index, 2)) (hp : pc + 2 = pc2) (hM : (my M).cls = own) (hw : Cond.constant own index v ∈ lw_gd) (k : Go w rm M pc2 ls (.int v :: st) h Q) : Go w rm M pc ls (st) h Q := by
  subst hp
  intro E p l e R s m args below meth c H locs cells slots Mc Ms Z lsA C r1 r2 r3 r4 r5 r6 hP hS hL hR
  exact lv_ldc C.1 C.2.1 (by rw [← hM]; exact C.2.2.2.1) (C.2.2.2.2.1 _ hw) hd (k E p l e R s m args below meth c H locs cells slots Mc Ms Z lsA C r1 r2 r3 r4 r5 r6 hP hS hL hR)
theorem go_ldcw {w : Wd} {rm : Rm} {M : Mth} {pc pc2 : Nat} {ls : List (Nat × Value)} {st : List Value} {h : Hp} {Q : Option Value → Wd → Hp → Prop} {own : String} {index : Nat} {v : Int32} (hd : decode (mc M) pc = .ok (.ldc_w index, 3)) (hp : pc + 3 = pc2) (hM : (my M).cls = own) (hw : Cond.constant own index v ∈ lw_gd) (k : Go w rm M pc2 ls (.int v :: st) h Q) : Go w rm M pc ls (st) h Q := by
  subst hp
  intro E p l e R s m args below meth c H locs cells slots Mc Ms Z lsA C r1 r2 r3 r4 r5 r6 hP hS hL hR
  exact lv_ldcw C.1 C.2.1 (by rw [← hM]; exact C.2.2.2.1) (C.2.2.2.2.1 _ hw) hd (k E p l e R s m args below meth c H locs cells slots Mc Ms Z lsA C r1 r2 r3 r4 r5 r6 hP hS hL hR)
theorem go_ldc2 {w : Wd} {rm : Rm} {M : Mth} {pc pc2 : Nat} {ls : List (Nat × Value)} {st : List Value} {h : Hp} {Q : Option Value → Wd → Hp → Prop} {own : String} {index : Nat} {v : Int64} (hd : decode (mc M) pc = .ok (.ldc2_w index, 3)) (hp : pc + 3 = pc2) (hM : (my M).cls = own) (hw : Cond.constantLong own index v ∈ lw_gd) (k : Go w rm M pc2 ls (.long v :: st) h Q) : Go w rm M pc ls (st) h Q := by
  subst hp
  intro E p l e R s m args below meth c H locs cells slots Mc Ms Z lsA C r1 r2 r3 r4 r5 r6 hP hS hL hR
  exact lv_ldc2 C.1 C.2.1 (by rw [← hM]; exact C.2.2.2.1) (C.2.2.2.2.1 _ hw) hd (k E p l e R s m args below meth c H locs cells slots Mc Ms Z lsA C r1 r2 r3 r4 r5 r6 hP hS hL hR)
theorem go_ldcf {w : Wd} {rm : Rm} {M : Mth} {pc pc2 : Nat} {ls : List (Nat × Value)} {st : List Value} {h : Hp} {Q : Option Value → Wd → Hp → Prop} {own : String} {index : Nat} {v : UInt32} (hd : decode (mc M) pc = .ok (.ldc index, 2)) (hp : pc + 2 = pc2) (hM : (my M).cls = own) (hw : Cond.constantFloat own index v ∈ lw_gd) (k : Go w rm M pc2 ls (.float v :: st) h Q) : Go w rm M pc ls (st) h Q := by
  subst hp
  intro E p l e R s m args below meth c H locs cells slots Mc Ms Z lsA C r1 r2 r3 r4 r5 r6 hP hS hL hR
  exact lv_ldcf C.1 C.2.1 (by rw [← hM]; exact C.2.2.2.1) (C.2.2.2.2.1 _ hw) hd (k E p l e R s m args below meth c H locs cells slots Mc Ms Z lsA C r1 r2 r3 r4 r5 r6 hP hS hL hR)
theorem go_iload_n {w : Wd} {rm : Rm} {M : Mth} {pc pc2 : Nat} {ls : List (Nat × Value)} {st : List Value} {h : Hp} {Q : Option Value → Wd → Hp → Prop} {k0 : Fin 4} {i : Nat} {x : Int32} (hd : decode (mc M) pc = .ok (.iload_n k0, 1)) (hp : pc + 1 = pc2) (hi : (k0 : Nat) = i) (hl : lk ls i = some (.int x)) (k : Go w rm M pc2 ls (.int x :: st) h Q) : Go w rm M pc ls (st) h Q := by
  subst hp
  intro E p l e R s m args below meth c H locs cells slots Mc Ms Z lsA C r1 r2 r3 r4 r5 r6 hP hS hL hR
  exact lv_iload_n C.1 C.2.1 hd hi (lk_at hL hl) (k E p l e R s m args below meth c H locs cells slots Mc Ms Z lsA C r1 r2 r3 r4 r5 r6 hP hS hL hR)
theorem go_iload {w : Wd} {rm : Rm} {M : Mth} {pc pc2 : Nat} {ls : List (Nat × Value)} {st : List Value} {h : Hp} {Q : Option Value → Wd → Hp → Prop} {i : Nat} {x : Int32} (hd : decode (mc M) pc = .ok (.iload i, 2)) (hp : pc + 2 = pc2) (hl : lk ls i = some (.int x)) (k : Go w rm M pc2 ls (.int x :: st) h Q) : Go w rm M pc ls (st) h Q := by
  subst hp
  intro E p l e R s m args below meth c H locs cells slots Mc Ms Z lsA C r1 r2 r3 r4 r5 r6 hP hS hL hR
  exact lv_iload C.1 C.2.1 hd (lk_at hL hl) (k E p l e R s m args below meth c H locs cells slots Mc Ms Z lsA C r1 r2 r3 r4 r5 r6 hP hS hL hR)
theorem go_lload_n {w : Wd} {rm : Rm} {M : Mth} {pc pc2 : Nat} {ls : List (Nat × Value)} {st : List Value} {h : Hp} {Q : Option Value → Wd → Hp → Prop} {k0 : Fin 4} {i : Nat} {x : Int64} (hd : decode (mc M) pc = .ok (.lload_n k0, 1)) (hp : pc + 1 = pc2) (hi : (k0 : Nat) = i) (hl : lk ls i = some (.long x)) (k : Go w rm M pc2 ls (.long x :: st) h Q) : Go w rm M pc ls (st) h Q := by
  subst hp
  intro E p l e R s m args below meth c H locs cells slots Mc Ms Z lsA C r1 r2 r3 r4 r5 r6 hP hS hL hR
  exact lv_lload_n C.1 C.2.1 hd hi (lk_at hL hl) (k E p l e R s m args below meth c H locs cells slots Mc Ms Z lsA C r1 r2 r3 r4 r5 r6 hP hS hL hR)
theorem go_lload {w : Wd} {rm : Rm} {M : Mth} {pc pc2 : Nat} {ls : List (Nat × Value)} {st : List Value} {h : Hp} {Q : Option Value → Wd → Hp → Prop} {i : Nat} {x : Int64} (hd : decode (mc M) pc = .ok (.lload i, 2)) (hp : pc + 2 = pc2) (hl : lk ls i = some (.long x)) (k : Go w rm M pc2 ls (.long x :: st) h Q) : Go w rm M pc ls (st) h Q := by
  subst hp
  intro E p l e R s m args below meth c H locs cells slots Mc Ms Z lsA C r1 r2 r3 r4 r5 r6 hP hS hL hR
  exact lv_lload C.1 C.2.1 hd (lk_at hL hl) (k E p l e R s m args below meth c H locs cells slots Mc Ms Z lsA C r1 r2 r3 r4 r5 r6 hP hS hL hR)
theorem go_fload_n {w : Wd} {rm : Rm} {M : Mth} {pc pc2 : Nat} {ls : List (Nat × Value)} {st : List Value} {h : Hp} {Q : Option Value → Wd → Hp → Prop} {k0 : Fin 4} {i : Nat} {x : UInt32} (hd : decode (mc M) pc = .ok (.fload_n k0, 1)) (hp : pc + 1 = pc2) (hi : (k0 : Nat) = i) (hl : lk ls i = some (.float x)) (k : Go w rm M pc2 ls (.float x :: st) h Q) : Go w rm M pc ls (st) h Q := by
  subst hp
  intro E p l e R s m args below meth c H locs cells slots Mc Ms Z lsA C r1 r2 r3 r4 r5 r6 hP hS hL hR
  exact lv_fload_n C.1 C.2.1 hd hi (lk_at hL hl) (k E p l e R s m args below meth c H locs cells slots Mc Ms Z lsA C r1 r2 r3 r4 r5 r6 hP hS hL hR)
theorem go_fload {w : Wd} {rm : Rm} {M : Mth} {pc pc2 : Nat} {ls : List (Nat × Value)} {st : List Value} {h : Hp} {Q : Option Value → Wd → Hp → Prop} {i : Nat} {x : UInt32} (hd : decode (mc M) pc = .ok (.fload i, 2)) (hp : pc + 2 = pc2) (hl : lk ls i = some (.float x)) (k : Go w rm M pc2 ls (.float x :: st) h Q) : Go w rm M pc ls (st) h Q := by
  subst hp
  intro E p l e R s m args below meth c H locs cells slots Mc Ms Z lsA C r1 r2 r3 r4 r5 r6 hP hS hL hR
  exact lv_fload C.1 C.2.1 hd (lk_at hL hl) (k E p l e R s m args below meth c H locs cells slots Mc Ms Z lsA C r1 r2 r3 r4 r5 r6 hP hS hL hR)
theorem go_aload_n {w : Wd} {rm : Rm} {M : Mth} {pc pc2 : Nat} {ls : List (Nat × Value)} {st : List Value} {h : Hp} {Q : Option Value → Wd → Hp → Prop} {k0 : Fin 4} {i : Nat} {x : Nat} (hd : decode (mc M) pc = .ok (.aload_n k0, 1)) (hp : pc + 1 = pc2) (hi : (k0 : Nat) = i) (hl : lk ls i = some (.ref x)) (k : Go w rm M pc2 ls (.ref x :: st) h Q) : Go w rm M pc ls (st) h Q := by
  subst hp
  intro E p l e R s m args below meth c H locs cells slots Mc Ms Z lsA C r1 r2 r3 r4 r5 r6 hP hS hL hR
  exact lv_aload_n C.1 C.2.1 hd hi (lk_at hL hl) (k E p l e R s m args below meth c H locs cells slots Mc Ms Z lsA C r1 r2 r3 r4 r5 r6 hP hS hL hR)
theorem go_aload {w : Wd} {rm : Rm} {M : Mth} {pc pc2 : Nat} {ls : List (Nat × Value)} {st : List Value} {h : Hp} {Q : Option Value → Wd → Hp → Prop} {i : Nat} {x : Nat} (hd : decode (mc M) pc = .ok (.aload i, 2)) (hp : pc + 2 = pc2) (hl : lk ls i = some (.ref x)) (k : Go w rm M pc2 ls (.ref x :: st) h Q) : Go w rm M pc ls (st) h Q := by
  subst hp
  intro E p l e R s m args below meth c H locs cells slots Mc Ms Z lsA C r1 r2 r3 r4 r5 r6 hP hS hL hR
  exact lv_aload C.1 C.2.1 hd (lk_at hL hl) (k E p l e R s m args below meth c H locs cells slots Mc Ms Z lsA C r1 r2 r3 r4 r5 r6 hP hS hL hR)
theorem go_istore_n {w : Wd} {rm : Rm} {M : Mth} {pc pc2 : Nat} {ls : List (Nat × Value)} {st : List Value} {h : Hp} {Q : Option Value → Wd → Hp → Prop} {ls2 : List (Nat × Value)} {k0 : Fin 4} {i : Nat} {x : Int32} (hd : decode (mc M) pc = .ok (.istore_n k0, 1)) (hp : pc + 1 = pc2) (hi : (k0 : Nat) = i) (hn : Nat.blt (i) (mL M) = true) (ha : asc ls = true) (hc : nc1 ls i = true) (hu : upL ls i (.int x) = ls2) (k : Go w rm M pc2 ls2 st h Q) : Go w rm M pc ls (.int x :: st) h Q := by
  subst hp
  subst hu
  intro E p l e R s m args below meth c H locs cells slots Mc Ms Z lsA C r1 r2 r3 r4 r5 r6 hP hS hL hR
  exact lv_istore_n (nL := mL M) C.1 C.2.1 hd hi hL ((Nat.blt_eq).mp hn) rfl (fun ls3 hL3 => (k E p l e R s m args below meth c H locs cells slots Mc Ms Z ls3 C r1 r2 r3 r4 r5 r6 hP hS (up_has1 ha hc hL3) hR))
theorem go_istore {w : Wd} {rm : Rm} {M : Mth} {pc pc2 : Nat} {ls : List (Nat × Value)} {st : List Value} {h : Hp} {Q : Option Value → Wd → Hp → Prop} {ls2 : List (Nat × Value)} {i : Nat} {x : Int32} (hd : decode (mc M) pc = .ok (.istore i, 2)) (hp : pc + 2 = pc2) (hn : Nat.blt (i) (mL M) = true) (ha : asc ls = true) (hc : nc1 ls i = true) (hu : upL ls i (.int x) = ls2) (k : Go w rm M pc2 ls2 st h Q) : Go w rm M pc ls (.int x :: st) h Q := by
  subst hp
  subst hu
  intro E p l e R s m args below meth c H locs cells slots Mc Ms Z lsA C r1 r2 r3 r4 r5 r6 hP hS hL hR
  exact lv_istore (nL := mL M) C.1 C.2.1 hd hL ((Nat.blt_eq).mp hn) rfl (fun ls3 hL3 => (k E p l e R s m args below meth c H locs cells slots Mc Ms Z ls3 C r1 r2 r3 r4 r5 r6 hP hS (up_has1 ha hc hL3) hR))
theorem go_lstore_n {w : Wd} {rm : Rm} {M : Mth} {pc pc2 : Nat} {ls : List (Nat × Value)} {st : List Value} {h : Hp} {Q : Option Value → Wd → Hp → Prop} {ls2 : List (Nat × Value)} {k0 : Fin 4} {i : Nat} {x : Int64} (hd : decode (mc M) pc = .ok (.lstore_n k0, 1)) (hp : pc + 1 = pc2) (hi : (k0 : Nat) = i) (hn : Nat.blt (i + 1) (mL M) = true) (ha : asc ls = true) (hc : nc2 ls i = true) (hu : upL ls i (.long x) = ls2) (k : Go w rm M pc2 ls2 st h Q) : Go w rm M pc ls (.long x :: st) h Q := by
  subst hp
  subst hu
  intro E p l e R s m args below meth c H locs cells slots Mc Ms Z lsA C r1 r2 r3 r4 r5 r6 hP hS hL hR
  exact lv_lstore_n (nL := mL M) C.1 C.2.1 hd hi hL ((Nat.blt_eq).mp hn) rfl (fun ls3 hL3 => (k E p l e R s m args below meth c H locs cells slots Mc Ms Z ls3 C r1 r2 r3 r4 r5 r6 hP hS (up_has2 ha hc hL3) hR))
theorem go_lstore {w : Wd} {rm : Rm} {M : Mth} {pc pc2 : Nat} {ls : List (Nat × Value)} {st : List Value} {h : Hp} {Q : Option Value → Wd → Hp → Prop} {ls2 : List (Nat × Value)} {i : Nat} {x : Int64} (hd : decode (mc M) pc = .ok (.lstore i, 2)) (hp : pc + 2 = pc2) (hn : Nat.blt (i + 1) (mL M) = true) (ha : asc ls = true) (hc : nc2 ls i = true) (hu : upL ls i (.long x) = ls2) (k : Go w rm M pc2 ls2 st h Q) : Go w rm M pc ls (.long x :: st) h Q := by
  subst hp
  subst hu
  intro E p l e R s m args below meth c H locs cells slots Mc Ms Z lsA C r1 r2 r3 r4 r5 r6 hP hS hL hR
  exact lv_lstore (nL := mL M) C.1 C.2.1 hd hL ((Nat.blt_eq).mp hn) rfl (fun ls3 hL3 => (k E p l e R s m args below meth c H locs cells slots Mc Ms Z ls3 C r1 r2 r3 r4 r5 r6 hP hS (up_has2 ha hc hL3) hR))
theorem go_fstore_n {w : Wd} {rm : Rm} {M : Mth} {pc pc2 : Nat} {ls : List (Nat × Value)} {st : List Value} {h : Hp} {Q : Option Value → Wd → Hp → Prop} {ls2 : List (Nat × Value)} {k0 : Fin 4} {i : Nat} {x : UInt32} (hd : decode (mc M) pc = .ok (.fstore_n k0, 1)) (hp : pc + 1 = pc2) (hi : (k0 : Nat) = i) (hn : Nat.blt (i) (mL M) = true) (ha : asc ls = true) (hc : nc1 ls i = true) (hu : upL ls i (.float x) = ls2) (k : Go w rm M pc2 ls2 st h Q) : Go w rm M pc ls (.float x :: st) h Q := by
  subst hp
  subst hu
  intro E p l e R s m args below meth c H locs cells slots Mc Ms Z lsA C r1 r2 r3 r4 r5 r6 hP hS hL hR
  exact lv_fstore_n (nL := mL M) C.1 C.2.1 hd hi hL ((Nat.blt_eq).mp hn) rfl (fun ls3 hL3 => (k E p l e R s m args below meth c H locs cells slots Mc Ms Z ls3 C r1 r2 r3 r4 r5 r6 hP hS (up_has1 ha hc hL3) hR))
theorem go_fstore {w : Wd} {rm : Rm} {M : Mth} {pc pc2 : Nat} {ls : List (Nat × Value)} {st : List Value} {h : Hp} {Q : Option Value → Wd → Hp → Prop} {ls2 : List (Nat × Value)} {i : Nat} {x : UInt32} (hd : decode (mc M) pc = .ok (.fstore i, 2)) (hp : pc + 2 = pc2) (hn : Nat.blt (i) (mL M) = true) (ha : asc ls = true) (hc : nc1 ls i = true) (hu : upL ls i (.float x) = ls2) (k : Go w rm M pc2 ls2 st h Q) : Go w rm M pc ls (.float x :: st) h Q := by
  subst hp
  subst hu
  intro E p l e R s m args below meth c H locs cells slots Mc Ms Z lsA C r1 r2 r3 r4 r5 r6 hP hS hL hR
  exact lv_fstore (nL := mL M) C.1 C.2.1 hd hL ((Nat.blt_eq).mp hn) rfl (fun ls3 hL3 => (k E p l e R s m args below meth c H locs cells slots Mc Ms Z ls3 C r1 r2 r3 r4 r5 r6 hP hS (up_has1 ha hc hL3) hR))
theorem go_astore_n {w : Wd} {rm : Rm} {M : Mth} {pc pc2 : Nat} {ls : List (Nat × Value)} {st : List Value} {h : Hp} {Q : Option Value → Wd → Hp → Prop} {ls2 : List (Nat × Value)} {k0 : Fin 4} {i : Nat} {x : Nat} (hd : decode (mc M) pc = .ok (.astore_n k0, 1)) (hp : pc + 1 = pc2) (hi : (k0 : Nat) = i) (hn : Nat.blt (i) (mL M) = true) (ha : asc ls = true) (hc : nc1 ls i = true) (hu : upL ls i (.ref x) = ls2) (k : Go w rm M pc2 ls2 st h Q) : Go w rm M pc ls (.ref x :: st) h Q := by
  subst hp
  subst hu
  intro E p l e R s m args below meth c H locs cells slots Mc Ms Z lsA C r1 r2 r3 r4 r5 r6 hP hS hL hR
  exact lv_astore_n (nL := mL M) C.1 C.2.1 hd hi hL ((Nat.blt_eq).mp hn) rfl (fun ls3 hL3 => (k E p l e R s m args below meth c H locs cells slots Mc Ms Z ls3 C r1 r2 r3 r4 r5 r6 hP hS (up_has1 ha hc hL3) hR))
theorem go_astore {w : Wd} {rm : Rm} {M : Mth} {pc pc2 : Nat} {ls : List (Nat × Value)} {st : List Value} {h : Hp} {Q : Option Value → Wd → Hp → Prop} {ls2 : List (Nat × Value)} {i : Nat} {x : Nat} (hd : decode (mc M) pc = .ok (.astore i, 2)) (hp : pc + 2 = pc2) (hn : Nat.blt (i) (mL M) = true) (ha : asc ls = true) (hc : nc1 ls i = true) (hu : upL ls i (.ref x) = ls2) (k : Go w rm M pc2 ls2 st h Q) : Go w rm M pc ls (.ref x :: st) h Q := by
  subst hp
  subst hu
  intro E p l e R s m args below meth c H locs cells slots Mc Ms Z lsA C r1 r2 r3 r4 r5 r6 hP hS hL hR
  exact lv_astore (nL := mL M) C.1 C.2.1 hd hL ((Nat.blt_eq).mp hn) rfl (fun ls3 hL3 => (k E p l e R s m args below meth c H locs cells slots Mc Ms Z ls3 C r1 r2 r3 r4 r5 r6 hP hS (up_has1 ha hc hL3) hR))
theorem go_iinc {w : Wd} {rm : Rm} {M : Mth} {pc pc2 : Nat} {ls : List (Nat × Value)} {st : List Value} {h : Hp} {Q : Option Value → Wd → Hp → Prop} {ls2 : List (Nat × Value)} {i : Nat} {n : Int} {x v : Int32} (hd : decode (mc M) pc = .ok (.iinc i n, 3)) (hp : pc + 3 = pc2) (hl : lk ls i = some (.int x)) (hv : x + Int32.ofInt n = v) (hn : Nat.blt i (mL M) = true) (ha : asc ls = true) (hc : nc1 ls i = true) (hu : upL ls i (.int v) = ls2) (k : Go w rm M pc2 ls2 st h Q) : Go w rm M pc ls st h Q := by
  subst hp
  subst hu
  intro E p l e R s m args below meth c H locs cells slots Mc Ms Z lsA C r1 r2 r3 r4 r5 r6 hP hS hL hR
  obtain ⟨j, hj⟩ := List.getElem?_of_mem (lk_mem hl)
  have hj2 : (ls.map fun q => (q.1, cv E q.2))[j]? = some (i, .int x) := by rw [List.getElem?_map, hj]; rfl
  exact lv_iinc (nL := mL M) C.1 C.2.1 hd hL hj2 hv ((Nat.blt_eq).mp hn) rfl (fun ls3 hL3 => (k E p l e R s m args below meth c H locs cells slots Mc Ms Z ls3 C r1 r2 r3 r4 r5 r6 hP hS (up_has1 (v := .int v) ha hc hL3) hR))
theorem go_dup {w : Wd} {rm : Rm} {M : Mth} {pc pc2 : Nat} {ls : List (Nat × Value)} {st : List Value} {h : Hp} {Q : Option Value → Wd → Hp → Prop} {va : Value} (hd : decode (mc M) pc = .ok (.dup, 1)) (hp : pc + 1 = pc2) (hv : va.category = 1) (k : Go w rm M pc2 ls (va :: va :: st) h Q) : Go w rm M pc ls (va :: st) h Q := by
  subst hp
  intro E p l e R s m args below meth c H locs cells slots Mc Ms Z lsA C r1 r2 r3 r4 r5 r6 hP hS hL hR
  exact lv_dup C.1 C.2.1 hd ((cv_cat E va).trans hv) (k E p l e R s m args below meth c H locs cells slots Mc Ms Z lsA C r1 r2 r3 r4 r5 r6 hP hS hL hR)
theorem go_pop {w : Wd} {rm : Rm} {M : Mth} {pc pc2 : Nat} {ls : List (Nat × Value)} {st : List Value} {h : Hp} {Q : Option Value → Wd → Hp → Prop} {va : Value} (hd : decode (mc M) pc = .ok (.pop, 1)) (hp : pc + 1 = pc2) (hv : va.category = 1) (k : Go w rm M pc2 ls (st) h Q) : Go w rm M pc ls (va :: st) h Q := by
  subst hp
  intro E p l e R s m args below meth c H locs cells slots Mc Ms Z lsA C r1 r2 r3 r4 r5 r6 hP hS hL hR
  exact lv_pop C.1 C.2.1 hd ((cv_cat E va).trans hv) (k E p l e R s m args below meth c H locs cells slots Mc Ms Z lsA C r1 r2 r3 r4 r5 r6 hP hS hL hR)
theorem go_dup2 {w : Wd} {rm : Rm} {M : Mth} {pc pc2 : Nat} {ls : List (Nat × Value)} {st : List Value} {h : Hp} {Q : Option Value → Wd → Hp → Prop} {va vb : Value} (hd : decode (mc M) pc = .ok (.dup2, 1)) (hp : pc + 1 = pc2) (hv : va.category = 1) (hv2 : vb.category = 1) (k : Go w rm M pc2 ls (va :: vb :: va :: vb :: st) h Q) : Go w rm M pc ls (va :: vb :: st) h Q := by
  subst hp
  intro E p l e R s m args below meth c H locs cells slots Mc Ms Z lsA C r1 r2 r3 r4 r5 r6 hP hS hL hR
  exact lv_dup2_11 C.1 C.2.1 hd ((cv_cat E va).trans hv) ((cv_cat E vb).trans hv2) (k E p l e R s m args below meth c H locs cells slots Mc Ms Z lsA C r1 r2 r3 r4 r5 r6 hP hS hL hR)
theorem go_if_eq {w : Wd} {rm : Rm} {M : Mth} {pc pc2 : Nat} {ls : List (Nat × Value)} {st : List Value} {h : Hp} {Q : Option Value → Wd → Hp → Prop} {x : Int32} {off : Int} {tgt : Nat} (hd : decode (mc M) pc = .ok (.ifCond .eq off, 3)) (hp : pc + 3 = pc2) (ht : (pc : Int) + off = (tgt : Int)) (kt : x = 0 → Go w rm M tgt ls st h Q) (kf : ¬ (x = 0) → Go w rm M pc2 ls st h Q) : Go w rm M pc ls (.int x :: st) h Q := by
  subst hp
  intro E p l e R s m args below meth c H locs cells slots Mc Ms Z lsA C r1 r2 r3 r4 r5 r6 hP hS hL hR
  exact lv_if_eq C.1 C.2.1 hd ht (fun q => ((kt q) E p l e R s m args below meth c H locs cells slots Mc Ms Z lsA C r1 r2 r3 r4 r5 r6 hP hS hL hR)) (fun q => ((kf q) E p l e R s m args below meth c H locs cells slots Mc Ms Z lsA C r1 r2 r3 r4 r5 r6 hP hS hL hR))
theorem go_icmp_eq {w : Wd} {rm : Rm} {M : Mth} {pc pc2 : Nat} {ls : List (Nat × Value)} {st : List Value} {h : Hp} {Q : Option Value → Wd → Hp → Prop} {x y : Int32} {off : Int} {tgt : Nat} (hd : decode (mc M) pc = .ok (.if_icmp .eq off, 3)) (hp : pc + 3 = pc2) (ht : (pc : Int) + off = (tgt : Int)) (kt : x = y → Go w rm M tgt ls st h Q) (kf : ¬ (x = y) → Go w rm M pc2 ls st h Q) : Go w rm M pc ls (.int y :: .int x :: st) h Q := by
  subst hp
  intro E p l e R s m args below meth c H locs cells slots Mc Ms Z lsA C r1 r2 r3 r4 r5 r6 hP hS hL hR
  exact lv_icmp_eq C.1 C.2.1 hd ht (fun q => ((kt q) E p l e R s m args below meth c H locs cells slots Mc Ms Z lsA C r1 r2 r3 r4 r5 r6 hP hS hL hR)) (fun q => ((kf q) E p l e R s m args below meth c H locs cells slots Mc Ms Z lsA C r1 r2 r3 r4 r5 r6 hP hS hL hR))
theorem go_if_ne {w : Wd} {rm : Rm} {M : Mth} {pc pc2 : Nat} {ls : List (Nat × Value)} {st : List Value} {h : Hp} {Q : Option Value → Wd → Hp → Prop} {x : Int32} {off : Int} {tgt : Nat} (hd : decode (mc M) pc = .ok (.ifCond .ne off, 3)) (hp : pc + 3 = pc2) (ht : (pc : Int) + off = (tgt : Int)) (kt : ¬ x = 0 → Go w rm M tgt ls st h Q) (kf : x = 0 → Go w rm M pc2 ls st h Q) : Go w rm M pc ls (.int x :: st) h Q := by
  subst hp
  intro E p l e R s m args below meth c H locs cells slots Mc Ms Z lsA C r1 r2 r3 r4 r5 r6 hP hS hL hR
  exact lv_if_ne C.1 C.2.1 hd ht (fun q => ((kt q) E p l e R s m args below meth c H locs cells slots Mc Ms Z lsA C r1 r2 r3 r4 r5 r6 hP hS hL hR)) (fun q => ((kf q) E p l e R s m args below meth c H locs cells slots Mc Ms Z lsA C r1 r2 r3 r4 r5 r6 hP hS hL hR))
theorem go_icmp_ne {w : Wd} {rm : Rm} {M : Mth} {pc pc2 : Nat} {ls : List (Nat × Value)} {st : List Value} {h : Hp} {Q : Option Value → Wd → Hp → Prop} {x y : Int32} {off : Int} {tgt : Nat} (hd : decode (mc M) pc = .ok (.if_icmp .ne off, 3)) (hp : pc + 3 = pc2) (ht : (pc : Int) + off = (tgt : Int)) (kt : ¬ x = y → Go w rm M tgt ls st h Q) (kf : x = y → Go w rm M pc2 ls st h Q) : Go w rm M pc ls (.int y :: .int x :: st) h Q := by
  subst hp
  intro E p l e R s m args below meth c H locs cells slots Mc Ms Z lsA C r1 r2 r3 r4 r5 r6 hP hS hL hR
  exact lv_icmp_ne C.1 C.2.1 hd ht (fun q => ((kt q) E p l e R s m args below meth c H locs cells slots Mc Ms Z lsA C r1 r2 r3 r4 r5 r6 hP hS hL hR)) (fun q => ((kf q) E p l e R s m args below meth c H locs cells slots Mc Ms Z lsA C r1 r2 r3 r4 r5 r6 hP hS hL hR))
theorem go_if_lt {w : Wd} {rm : Rm} {M : Mth} {pc pc2 : Nat} {ls : List (Nat × Value)} {st : List Value} {h : Hp} {Q : Option Value → Wd → Hp → Prop} {x : Int32} {off : Int} {tgt : Nat} (hd : decode (mc M) pc = .ok (.ifCond .lt off, 3)) (hp : pc + 3 = pc2) (ht : (pc : Int) + off = (tgt : Int)) (kt : x < 0 → Go w rm M tgt ls st h Q) (kf : ¬ (x < 0) → Go w rm M pc2 ls st h Q) : Go w rm M pc ls (.int x :: st) h Q := by
  subst hp
  intro E p l e R s m args below meth c H locs cells slots Mc Ms Z lsA C r1 r2 r3 r4 r5 r6 hP hS hL hR
  exact lv_if_lt C.1 C.2.1 hd ht (fun q => ((kt q) E p l e R s m args below meth c H locs cells slots Mc Ms Z lsA C r1 r2 r3 r4 r5 r6 hP hS hL hR)) (fun q => ((kf q) E p l e R s m args below meth c H locs cells slots Mc Ms Z lsA C r1 r2 r3 r4 r5 r6 hP hS hL hR))
theorem go_icmp_lt {w : Wd} {rm : Rm} {M : Mth} {pc pc2 : Nat} {ls : List (Nat × Value)} {st : List Value} {h : Hp} {Q : Option Value → Wd → Hp → Prop} {x y : Int32} {off : Int} {tgt : Nat} (hd : decode (mc M) pc = .ok (.if_icmp .lt off, 3)) (hp : pc + 3 = pc2) (ht : (pc : Int) + off = (tgt : Int)) (kt : x < y → Go w rm M tgt ls st h Q) (kf : ¬ (x < y) → Go w rm M pc2 ls st h Q) : Go w rm M pc ls (.int y :: .int x :: st) h Q := by
  subst hp
  intro E p l e R s m args below meth c H locs cells slots Mc Ms Z lsA C r1 r2 r3 r4 r5 r6 hP hS hL hR
  exact lv_icmp_lt C.1 C.2.1 hd ht (fun q => ((kt q) E p l e R s m args below meth c H locs cells slots Mc Ms Z lsA C r1 r2 r3 r4 r5 r6 hP hS hL hR)) (fun q => ((kf q) E p l e R s m args below meth c H locs cells slots Mc Ms Z lsA C r1 r2 r3 r4 r5 r6 hP hS hL hR))
theorem go_if_ge {w : Wd} {rm : Rm} {M : Mth} {pc pc2 : Nat} {ls : List (Nat × Value)} {st : List Value} {h : Hp} {Q : Option Value → Wd → Hp → Prop} {x : Int32} {off : Int} {tgt : Nat} (hd : decode (mc M) pc = .ok (.ifCond .ge off, 3)) (hp : pc + 3 = pc2) (ht : (pc : Int) + off = (tgt : Int)) (kt : 0 ≤ x → Go w rm M tgt ls st h Q) (kf : ¬ (0 ≤ x) → Go w rm M pc2 ls st h Q) : Go w rm M pc ls (.int x :: st) h Q := by
  subst hp
  intro E p l e R s m args below meth c H locs cells slots Mc Ms Z lsA C r1 r2 r3 r4 r5 r6 hP hS hL hR
  exact lv_if_ge C.1 C.2.1 hd ht (fun q => ((kt q) E p l e R s m args below meth c H locs cells slots Mc Ms Z lsA C r1 r2 r3 r4 r5 r6 hP hS hL hR)) (fun q => ((kf q) E p l e R s m args below meth c H locs cells slots Mc Ms Z lsA C r1 r2 r3 r4 r5 r6 hP hS hL hR))
theorem go_icmp_ge {w : Wd} {rm : Rm} {M : Mth} {pc pc2 : Nat} {ls : List (Nat × Value)} {st : List Value} {h : Hp} {Q : Option Value → Wd → Hp → Prop} {x y : Int32} {off : Int} {tgt : Nat} (hd : decode (mc M) pc = .ok (.if_icmp .ge off, 3)) (hp : pc + 3 = pc2) (ht : (pc : Int) + off = (tgt : Int)) (kt : y ≤ x → Go w rm M tgt ls st h Q) (kf : ¬ (y ≤ x) → Go w rm M pc2 ls st h Q) : Go w rm M pc ls (.int y :: .int x :: st) h Q := by
  subst hp
  intro E p l e R s m args below meth c H locs cells slots Mc Ms Z lsA C r1 r2 r3 r4 r5 r6 hP hS hL hR
  exact lv_icmp_ge C.1 C.2.1 hd ht (fun q => ((kt q) E p l e R s m args below meth c H locs cells slots Mc Ms Z lsA C r1 r2 r3 r4 r5 r6 hP hS hL hR)) (fun q => ((kf q) E p l e R s m args below meth c H locs cells slots Mc Ms Z lsA C r1 r2 r3 r4 r5 r6 hP hS hL hR))
theorem go_if_gt {w : Wd} {rm : Rm} {M : Mth} {pc pc2 : Nat} {ls : List (Nat × Value)} {st : List Value} {h : Hp} {Q : Option Value → Wd → Hp → Prop} {x : Int32} {off : Int} {tgt : Nat} (hd : decode (mc M) pc = .ok (.ifCond .gt off, 3)) (hp : pc + 3 = pc2) (ht : (pc : Int) + off = (tgt : Int)) (kt : 0 < x → Go w rm M tgt ls st h Q) (kf : ¬ (0 < x) → Go w rm M pc2 ls st h Q) : Go w rm M pc ls (.int x :: st) h Q := by
  subst hp
  intro E p l e R s m args below meth c H locs cells slots Mc Ms Z lsA C r1 r2 r3 r4 r5 r6 hP hS hL hR
  exact lv_if_gt C.1 C.2.1 hd ht (fun q => ((kt q) E p l e R s m args below meth c H locs cells slots Mc Ms Z lsA C r1 r2 r3 r4 r5 r6 hP hS hL hR)) (fun q => ((kf q) E p l e R s m args below meth c H locs cells slots Mc Ms Z lsA C r1 r2 r3 r4 r5 r6 hP hS hL hR))
theorem go_icmp_gt {w : Wd} {rm : Rm} {M : Mth} {pc pc2 : Nat} {ls : List (Nat × Value)} {st : List Value} {h : Hp} {Q : Option Value → Wd → Hp → Prop} {x y : Int32} {off : Int} {tgt : Nat} (hd : decode (mc M) pc = .ok (.if_icmp .gt off, 3)) (hp : pc + 3 = pc2) (ht : (pc : Int) + off = (tgt : Int)) (kt : y < x → Go w rm M tgt ls st h Q) (kf : ¬ (y < x) → Go w rm M pc2 ls st h Q) : Go w rm M pc ls (.int y :: .int x :: st) h Q := by
  subst hp
  intro E p l e R s m args below meth c H locs cells slots Mc Ms Z lsA C r1 r2 r3 r4 r5 r6 hP hS hL hR
  exact lv_icmp_gt C.1 C.2.1 hd ht (fun q => ((kt q) E p l e R s m args below meth c H locs cells slots Mc Ms Z lsA C r1 r2 r3 r4 r5 r6 hP hS hL hR)) (fun q => ((kf q) E p l e R s m args below meth c H locs cells slots Mc Ms Z lsA C r1 r2 r3 r4 r5 r6 hP hS hL hR))
theorem go_if_le {w : Wd} {rm : Rm} {M : Mth} {pc pc2 : Nat} {ls : List (Nat × Value)} {st : List Value} {h : Hp} {Q : Option Value → Wd → Hp → Prop} {x : Int32} {off : Int} {tgt : Nat} (hd : decode (mc M) pc = .ok (.ifCond .le off, 3)) (hp : pc + 3 = pc2) (ht : (pc : Int) + off = (tgt : Int)) (kt : x ≤ 0 → Go w rm M tgt ls st h Q) (kf : ¬ (x ≤ 0) → Go w rm M pc2 ls st h Q) : Go w rm M pc ls (.int x :: st) h Q := by
  subst hp
  intro E p l e R s m args below meth c H locs cells slots Mc Ms Z lsA C r1 r2 r3 r4 r5 r6 hP hS hL hR
  exact lv_if_le C.1 C.2.1 hd ht (fun q => ((kt q) E p l e R s m args below meth c H locs cells slots Mc Ms Z lsA C r1 r2 r3 r4 r5 r6 hP hS hL hR)) (fun q => ((kf q) E p l e R s m args below meth c H locs cells slots Mc Ms Z lsA C r1 r2 r3 r4 r5 r6 hP hS hL hR))
theorem go_icmp_le {w : Wd} {rm : Rm} {M : Mth} {pc pc2 : Nat} {ls : List (Nat × Value)} {st : List Value} {h : Hp} {Q : Option Value → Wd → Hp → Prop} {x y : Int32} {off : Int} {tgt : Nat} (hd : decode (mc M) pc = .ok (.if_icmp .le off, 3)) (hp : pc + 3 = pc2) (ht : (pc : Int) + off = (tgt : Int)) (kt : x ≤ y → Go w rm M tgt ls st h Q) (kf : ¬ (x ≤ y) → Go w rm M pc2 ls st h Q) : Go w rm M pc ls (.int y :: .int x :: st) h Q := by
  subst hp
  intro E p l e R s m args below meth c H locs cells slots Mc Ms Z lsA C r1 r2 r3 r4 r5 r6 hP hS hL hR
  exact lv_icmp_le C.1 C.2.1 hd ht (fun q => ((kt q) E p l e R s m args below meth c H locs cells slots Mc Ms Z lsA C r1 r2 r3 r4 r5 r6 hP hS hL hR)) (fun q => ((kf q) E p l e R s m args below meth c H locs cells slots Mc Ms Z lsA C r1 r2 r3 r4 r5 r6 hP hS hL hR))
theorem go_goto {w : Wd} {rm : Rm} {M : Mth} {pc : Nat} {ls : List (Nat × Value)} {st : List Value} {h : Hp} {Q : Option Value → Wd → Hp → Prop} {off : Int} {tgt : Nat} (hd : decode (mc M) pc = .ok (.goto off, 3)) (ht : (pc : Int) + off = (tgt : Int)) (k : Go w rm M tgt ls st h Q) : Go w rm M pc ls st h Q := by
  intro E p l e R s m args below meth c H locs cells slots Mc Ms Z lsA C r1 r2 r3 r4 r5 r6 hP hS hL hR
  exact lv_goto C.1 C.2.1 hd ht (k E p l e R s m args below meth c H locs cells slots Mc Ms Z lsA C r1 r2 r3 r4 r5 r6 hP hS hL hR)
theorem go_tsIn {w : Wd} {rm : Rm} {M : Mth} {pc : Nat} {ls : List (Nat × Value)} {st : List Value} {h : Hp} {Q : Option Value → Wd → Hp → Prop} {dflt lo hi : Int} {offs : Array Int} {len : Nat} {x : Int32} {off : Int} {tgt : Nat} (hd : decode (mc M) pc = .ok (.tableswitch dflt lo hi offs, len)) (h1 : ¬ x.toInt < lo) (h2 : ¬ hi < x.toInt) (ho : offs[(x.toInt - lo).toNat]? = some off) (ht : (pc : Int) + off = (tgt : Int)) (k : Go w rm M tgt ls st h Q) : Go w rm M pc ls (.int x :: st) h Q := by
  intro E p l e R s m args below meth c H locs cells slots Mc Ms Z lsA C r1 r2 r3 r4 r5 r6 hP hS hL hR
  exact lv_tableIn C.1 C.2.1 hd h1 h2 ho ht (k E p l e R s m args below meth c H locs cells slots Mc Ms Z lsA C r1 r2 r3 r4 r5 r6 hP hS hL hR)
theorem go_tsOut {w : Wd} {rm : Rm} {M : Mth} {pc : Nat} {ls : List (Nat × Value)} {st : List Value} {h : Hp} {Q : Option Value → Wd → Hp → Prop} {dflt lo hi : Int} {offs : Array Int} {len : Nat} {x : Int32} {tgt : Nat} (hd : decode (mc M) pc = .ok (.tableswitch dflt lo hi offs, len)) (h1 : x.toInt < lo ∨ hi < x.toInt) (ht : (pc : Int) + dflt = (tgt : Int)) (k : Go w rm M tgt ls st h Q) : Go w rm M pc ls (.int x :: st) h Q := by
  intro E p l e R s m args below meth c H locs cells slots Mc Ms Z lsA C r1 r2 r3 r4 r5 r6 hP hS hL hR
  exact lv_tableOut C.1 C.2.1 hd h1 ht (k E p l e R s m args below meth c H locs cells slots Mc Ms Z lsA C r1 r2 r3 r4 r5 r6 hP hS hL hR)
theorem go_ret {w : Wd} {rm : Rm} {M : Mth} {pc : Nat} {ls : List (Nat × Value)} {h : Hp} {Q : Option Value → Wd → Hp → Prop}  (hd : decode (mc M) pc = .ok (.return_, 1)) (hok : retOK (mr M) none) (hQ : Q none w h) : Go w rm M pc ls [] h Q := by
  intro E p l e R s m args below meth c H locs cells slots Mc Ms Z lsA C r1 r2 r3 r4 r5 r6 hP hS hL hR
  have k := hR none w h pc H locs lsA hQ hP hS hd hok
  exact W.widen (by omega) (by omega) k
theorem go_iret {w : Wd} {rm : Rm} {M : Mth} {pc : Nat} {ls : List (Nat × Value)} {h : Hp} {Q : Option Value → Wd → Hp → Prop} {v : Int32} (hd : decode (mc M) pc = .ok (.ireturn, 1)) (hok : retOK (mr M) (some (.int v))) (hQ : Q (some (.int v)) w h) : Go w rm M pc ls [.int v] h Q := by
  intro E p l e R s m args below meth c H locs cells slots Mc Ms Z lsA C r1 r2 r3 r4 r5 r6 hP hS hL hR
  have k := hR (some (.int v)) w h pc H locs lsA hQ hP hS hd hok
  exact W.widen (by omega) (by omega) k
theorem go_lret {w : Wd} {rm : Rm} {M : Mth} {pc : Nat} {ls : List (Nat × Value)} {h : Hp} {Q : Option Value → Wd → Hp → Prop} {v : Int64} (hd : decode (mc M) pc = .ok (.lreturn, 1)) (hok : retOK (mr M) (some (.long v))) (hQ : Q (some (.long v)) w h) : Go w rm M pc ls [.long v] h Q := by
  intro E p l e R s m args below meth c H locs cells slots Mc Ms Z lsA C r1 r2 r3 r4 r5 r6 hP hS hL hR
  have k := hR (some (.long v)) w h pc H locs lsA hQ hP hS hd hok
  exact W.widen (by omega) (by omega) k
theorem go_fret {w : Wd} {rm : Rm} {M : Mth} {pc : Nat} {ls : List (Nat × Value)} {h : Hp} {Q : Option Value → Wd → Hp → Prop} {v : UInt32} (hd : decode (mc M) pc = .ok (.freturn, 1)) (hok : retOK (mr M) (some (.float v))) (hQ : Q (some (.float v)) w h) : Go w rm M pc ls [.float v] h Q := by
  intro E p l e R s m args below meth c H locs cells slots Mc Ms Z lsA C r1 r2 r3 r4 r5 r6 hP hS hL hR
  have k := hR (some (.float v)) w h pc H locs lsA hQ hP hS hd hok
  exact W.widen (by omega) (by omega) k
theorem go_aret {w : Wd} {rm : Rm} {M : Mth} {pc : Nat} {ls : List (Nat × Value)} {h : Hp} {Q : Option Value → Wd → Hp → Prop} {v : Nat} (hd : decode (mc M) pc = .ok (.areturn, 1)) (hok : retOK (mr M) (some (.ref v))) (hQ : Q (some (.ref v)) w h) : Go w rm M pc ls [.ref v] h Q := by
  intro E p l e R s m args below meth c H locs cells slots Mc Ms Z lsA C r1 r2 r3 r4 r5 r6 hP hS hL hR
  have k := hR (some (.ref v)) w h pc H locs lsA hQ hP hS hd hok
  exact W.widen (by omega) (by omega) k
