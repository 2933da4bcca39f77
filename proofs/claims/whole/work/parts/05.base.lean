/-! ===== the abstract heap: cells by number, refs by number, ints in one table ===== -/
/-- what ints (and booleans, and moving refs as number + 1) the cells hold; what longs -/
abbrev Hp : Type := (Nat → Nat → Int32) × (Nat → Nat → Int64)
/-- a cell: below 100 an object of that class; 100 an int row, 101 a boolean row, 102 .. rows of refs; how long -/
abbrev Cel : Type := Nat × Nat
/-- the refs that stay, and the cells -/
abbrev Wd : Type := (Nat → Nat → Option Nat) × List Cel
/-- the classes' ids and slots, the addresses of the numbers, the first of them, the rows' classes, the script -/
abbrev En : Type := va_G × (Nat → Nat) × Nat × (Nat → ClassId) × Nat × (Nat → Int32)
abbrev eD (E : En) : va_G := E.1
abbrev eA (E : En) : Nat → Nat := E.2.1
abbrev eB (E : En) : Nat := E.2.2.1
abbrev eC (E : En) : Nat → ClassId := E.2.2.2.1
abbrev eL (E : En) : Nat := E.2.2.2.2.1
abbrev eX (E : En) : Nat → Int32 := E.2.2.2.2.2
abbrev eF (E : En) : Nat → Prop := fun q => eB E ≤ q
/-- the kinds of the fields: 0 int, 1 long, 2 ref -/
def fk (c : Nat) : List Nat := match c with
  | 0 => [2, 2, 2, 2, 2, 2, 2, 0]
  | 1 => [2, 0]
  | 2 => [2, 2, 2, 2, 2, 2]
  | 3 => [0, 0, 0, 0, 0, 0, 0, 0, 0, 0]
  | 4 => [2, 2, 2, 2]
  | 5 => [0, 2, 2, 2, 2, 0, 0, 0, 1]
  | 6 => [2, 2, 0, 0]
  | 7 => [2, 2, 2, 2, 0, 2, 2, 2, 2, 2, 2, 2, 2]
  | 8 => [2, 0, 0, 0, 2]
  | 9 => [2, 2, 2]
  | 10 => [2, 2, 2, 0, 2, 2, 2, 2, 2, 2, 2, 2, 2]
  | 11 => [2, 2, 2, 0, 1, 1, 2, 2, 0, 2, 2, 2, 2, 2, 2, 0, 2, 2, 2, 2, 2, 2, 2, 2, 2, 2, 0, 0, 0, 0, 2]
  | _ => []
def aty (t : Nat) : FieldType := match t with
  | 0 => .int
  | 1 => .boolean
  | 2 => .object RX3
  | 3 => .object RX1
  | 4 => .object RX6
  | _ => .array .int
abbrev etys (E : En) : List (ClassId × FieldType) := [(eC E 0, aty 0), (eC E 1, aty 1), (eC E 2, aty 2), (eC E 3, aty 3), (eC E 4, aty 4), (eC E 5, aty 5)]
def cv (E : En) (v : Value) : Value := match v with
  | .ref a => .ref (eA E a)
  | v => v
def rfo (w : Wd) (h : Hp) (k i : Nat) : Option Nat := match w.1 k i with
  | some r => some r
  | none => if h.1 k i = 0 then none else some ((h.1 k i).toNatClampNeg - 1)
def fv (E : En) (w : Wd) (h : Hp) (k i kd : Nat) : Value := if kd = 0 then .int (h.1 k i) else if kd = 1 then .long (h.2 k i) else va_rf ((rfo w h k i).map (eA E))
def cel (E : En) (w : Wd) (h : Hp) (k : Nat) (c : Cel) : va_E :=
  if c.1 < 100 then .inr (c.1, (fk c.1).mapIdx (fun i kd => fv E w h k i kd))
  else .inl (eC E (c.1 - 100), c.2, if c.1 < 102 then .inl (h.1 k) else .inr (.inr (.inr (.inr (fun i => (rfo w h k i).map (eA E))))))
def wld (E : En) (w : Wd) (h : Hp) : va_W := w.2.mapIdx (fun k c => (eA E k, cel E w h k c))
theorem wld_get (E : En) (w : Wd) (h : Hp) {k : Nat} {c : Cel} (hk : w.2[k]? = some c) : (wld E w h)[k]? = some (eA E k, cel E w h k c) := by
  simp [wld, List.getElem?_mapIdx, hk]
theorem wld_inv {E : En} {w : Wd} {h : Hp} {k : Nat} {q : Nat × va_E} (hk : (wld E w h)[k]? = some q) : ∃ c, w.2[k]? = some c ∧ q = (eA E k, cel E w h k c) := by
  simp only [wld, List.getElem?_mapIdx, Option.map_eq_some_iff] at hk
  obtain ⟨c, h1, h2⟩ := hk
  exact ⟨c, h1, h2.symm⟩
/-- the static row KIND_ABOVE -/
def kaf (j : Nat) : Int32 := match j with
  | 0 => -1
  | 1 => 0
  | 2 => 0
  | 3 => 2
  | 4 => 1
  | _ => 3
def st_len : List Nat := [4, 6, 8, 4, 2, 0]
def st_byt : List (List Int32) := [[110, 44, 110, 59], [110, 61, 110, 44, 110, 59], [110, 61, 110, 44, 110, 44, 110, 59], [110, 63, 110, 59], [110, 59], []]
def st_idx (i : Nat) : Nat := 36 + 2 * i
def st_tx (i : Nat) : String := match i with
  | 0 => "n,n;"
  | 1 => "n=n,n;"
  | 2 => "n=n,n,n;"
  | 3 => "n?n;"
  | 4 => "n;"
  | _ => ""
/-- what lies outside and stays: statics, texts, the script -/
def Ext (E : En) (U : State) (H : Heap) : Prop :=
  va_Z RX10 "KIND_ABOVE" "[I" (.ref (eA E 900)) (eF E) U H ∧ va_T .int (eA E 900) 6 (fun j => .int (kaf j)) (eF E) U H ∧
  va_Z RJ0 "COMPACT_STRINGS" "Z" (.int 1) (eF E) U H ∧ vk_S 6 st_len st_byt (fun i => eA E (1000 + i)) (fun i => eA E (1100 + i)) (eF E) U H ∧
  va_X (eA E 2000) (eL E) (eX E) U H ∧ ¬ eF E (eA E 2000) ∧ (va_Z RJ3 "SIOOBE_FORMATTER" "Ljava/util/function/BiFunction;" (.ref (eA E 901)) (eF E) U H ∨ va_Z RJ3 "SIOOBE_FORMATTER" "Ljava/util/function/BiFunction;" .null (eF E) U H)
/-- rows of rows of ints can be made -/
def va_Ov (U : State) : Prop := (Cond.arrayOver (.array .int)).before #[] U = true
theorem va_Ov.use {A : Array Value} {U : State} (h : va_Ov U) : (Cond.arrayOver (.array .int)).before A U = true := h
theorem va_Ov.moved {u U : State} (hvm : u.vm.Alike U.vm) (h : va_Ov u) : va_Ov U := Jvm.Stand.arrayOver_alikeB hvm h
def Tab (E : En) (U : State) : Prop :=
  va_K (eD E) vwCl (etys E) U ∧ (∀ x ∈ lw_nst, va_Nw x U) ∧ va_AO RX3 U ∧ va_AO RX1 U ∧ va_AO RX6 U ∧ (∀ i, i < 6 → vk_R RX8 (st_idx i) (st_tx i) (eA E (1000 + i)) U) ∧ va_Ov U
def EOk (E : En) (U : State) (H : Heap) : Prop := Tab E U ∧ (∀ k, k < 900 → eA E k = eB E + k) ∧ Ext E U H
theorem nst_warm {s U : State} (hW : s.WarmedH U.vm) {x : Cond} (hx : x ∈ lw_nst) (h : va_Nw x s) : va_Nw x U := by
  have h1 : nstWord x = true := (List.mem_filter.mp hx).2
  cases x <;> first | exact va_Nw.warmF hW h | exact va_Nw.warmM hW h | cases h1
theorem nst_use {s : State} {A : Array Value} {x : Cond} (hx : x ∈ lw_nst) (h : va_Nw x s) : x.before A s = true := by
  have h1 : nstWord x = true := (List.mem_filter.mp hx).2
  cases x <;> first | exact va_Nw.use rfl h | cases h1
theorem nst_same {s U : State} (hv : s.vm = U.vm) {x : Cond} (hx : x ∈ lw_nst) (h : va_Nw x s) : va_Nw x U := by
  have h1 : nstWord x = true := (List.mem_filter.mp hx).2
  cases x <;> first | exact va_Nw.same rfl hv h | cases h1
theorem Tab.warm {E : En} {s U : State} (hW : s.WarmedH U.vm) (h : Tab E s) : Tab E U :=
  ⟨va_K.moved hW.alike h.1, fun x hx => nst_warm hW hx (h.2.1 x hx), h.2.2.1.moved hW.alike, h.2.2.2.1.moved hW.alike, h.2.2.2.2.1.moved hW.alike, fun i hi => vk_R.warm hW (h.2.2.2.2.2.1 i hi), h.2.2.2.2.2.2.moved hW.alike⟩
theorem Tab.same {E : En} {s U : State} (hv : U.vm = s.vm) (h : Tab E s) : Tab E U := by
  have ha : s.vm.Alike U.vm := by rw [hv]; exact Vm.Alike.refl _
  exact ⟨va_K.moved ha h.1, fun x hx => nst_same hv.symm hx (h.2.1 x hx), h.2.2.1.moved ha, h.2.2.2.1.moved ha, h.2.2.2.2.1.moved ha, fun i hi => vk_R.same hv (h.2.2.2.2.2.1 i hi), h.2.2.2.2.2.2.moved ha⟩
theorem Ext.moved {E : En} {s U : State} {H : Heap} (ha : s.vm.Alike U.vm) (h : Ext E s H) : Ext E U H :=
  ⟨va_Z.moved ha h.1, va_T.moved ha h.2.1, va_Z.moved ha h.2.2.1, vk_S.moved ha h.2.2.2.1, va_X.moved ha h.2.2.2.2.1, h.2.2.2.2.2.1, h.2.2.2.2.2.2.elim (fun h => Or.inl (va_Z.moved ha h)) (fun h => Or.inr (va_Z.moved ha h))⟩
theorem va_X_lt {b L : Nat} {xs : Nat → Int32} {U : State} {H : Heap} (h : va_X b L xs U H) : b < H.size := by
  obtain ⟨scr, h1, -⟩ := h
  exact (Array.getElem?_eq_some_iff.mp h1).1
theorem Ext.kept {E : En} {U : State} {H H1 : Heap} (h : Ext E U H) (hq : ∀ a : Nat, a < H.size → ¬ eF E a → H1[a]? = H[a]?) : Ext E U H1 :=
  ⟨h.1.kept hq, h.2.1.kept hq, h.2.2.1.kept hq, h.2.2.2.1.kept hq, h.2.2.2.2.1.kept (hq _ (va_X_lt h.2.2.2.2.1) h.2.2.2.2.2.1), h.2.2.2.2.2.1, h.2.2.2.2.2.2.elim (fun h => Or.inl (h.kept hq)) (fun h => Or.inr (h.kept hq))⟩
theorem EOk.next {E : En} {s U : State} {H : Heap} {locs : List Loc} (h : EOk E s s.heap) (hS : va_S (eF E) s.heap H locs) (hW : s.WarmedH U.vm) : EOk E U H :=
  ⟨h.1.warm hW, h.2.1, (h.2.2.moved hW.alike).kept hS.2.1⟩
/-- how many cells there are in the end -/
def fin_ : Nat := 136
-- the heap holds the cells
/-- the script's numbers stand in the table too, at 2000; how many, at 2001 -/
def Scr (E : En) (h : Hp) : Prop := h.1 2000 = eX E ∧ h.1 2001 0 = nI (eL E) ∧ eL E < 2 ^ 31
def Rp (E : En) (w : Wd) (h : Hp) (H : Heap) : Prop := ((w.2.length < fin_ → H.size = eB E + w.2.length) ∧ Scr E h) ∧ w.2.length ≤ 900 ∧ va_P (eD E) vwCl (wld E w h) H
theorem Rp.D {E : En} {w : Wd} {h : Hp} {H : Heap} {U : State} {H2 : Heap} (hE : EOk E U H2) (hP : Rp E w h H) : va_D (eF E) (wld E w h) := by
  refine ⟨fun i j p q hi hj hpq => ?_, fun k q hk => ?_⟩
  · obtain ⟨c, h1, rfl⟩ := wld_inv hi
    obtain ⟨d, h2, rfl⟩ := wld_inv hj
    have l1 := (List.getElem?_eq_some_iff.mp h1).1
    have l2 := (List.getElem?_eq_some_iff.mp h2).1
    have e1 := hE.2.1 i (Nat.lt_of_lt_of_le l1 hP.2.1)
    have e2 := hE.2.1 j (Nat.lt_of_lt_of_le l2 hP.2.1)
    dsimp only at hpq
    omega
  · obtain ⟨c, h1, rfl⟩ := wld_inv hk
    have l1 := (List.getElem?_eq_some_iff.mp h1).1
    have e1 := hE.2.1 k (Nat.lt_of_lt_of_le l1 hP.2.1)
    show eB E ≤ eA E k
    omega
/-- the instruction that returns such a value -/
def retI (r : Option Value) : Instr := match r with
  | none => .return_
  | some (.int _) => .ireturn
  | some (.long _) => .lreturn
  | some (.float _) => .freturn
  | some _ => .areturn
def retOK (t : Option FieldType) (r : Option Value) : Prop := match r with
  | none => t = none
  | some (.int v) => ∃ ty, t = some ty ∧ narrow ty (.int v) = .int v
  | some (.long _) => t = some .long
  | some (.float _) => t = some .float
  | some (.ref _) => ∃ C, t = some (.object C)
  | some _ => False
def wsM (M : Mth) : List Cond := Cond.code (my M) (mc M) (mL M) (mr M) :: lw_gd
abbrev Rm : Type := Nat × Nat × Nat
def rmR (r : Rm) : Room := { frames := r.1, cells := r.2.1, slots := r.2.2, locals := r.1 * 64 }
def Cx (E : En) (M : Mth) (p : Program) (s : State) (m : MethodId) (args : Array Value) (meth : Method) (c : Code) : Prop :=
  p.tables.exec = Jvm.exec ∧ c.code = mc M ∧ c.maxLocals = mL M ∧ s.vm.findClass (my M).cls = some m.cls ∧ (∀ x ∈ lw_gd, x.before args s = true) ∧ ((my M).name = "<init>" → meth.name = "<init>") ∧ EOk E s s.heap
def Rt (E : En) (M : Mth) (Q : Option Value → Wd → Hp → Prop) (p : Program) (l : Launch) (e : Env) (R : Room) (s : State) (m : MethodId) (args : Array Value) (below : List Frame) (meth : Method) (c : Code) (Mc Ms : Nat) (Z : State → Prop) : Prop :=
  ∀ (r : Option Value) (w' : Wd) (h' : Hp) (pc' : Nat) (H' : Heap) (locs' : List Loc) (ls' : Array Slot), Q r w' h' → Rp E w' h' H' → va_S (eF E) s.heap H' locs' → decode (mc M) pc' = .ok (retI r, 1) → retOK (mr M) r →
    W p l e R s m args below meth c H' locs' Mc Ms Z (F0 m pc' ls' (r.map (cv E)).toList)
/-- FROM HERE the method returns, and Q holds of its answer and of the heap then -/
def Go (w : Wd) (rm : Rm) (M : Mth) (pc : Nat) (ls : List (Nat × Value)) (st : List Value) (h : Hp) (Q : Option Value → Wd → Hp → Prop) : Prop :=
  ∀ (E : En) (p : Program) (l : Launch) (e : Env) (R : Room) (s : State) (m : MethodId) (args : Array Value) (below : List Frame) (meth : Method) (c : Code) (H : Heap) (locs : List Loc) (cells slots Mc Ms : Nat) (Z : State → Prop) (lsA : Array Slot),
    Cx E M p s m args meth c → rm.1 ≤ R.frames → rm.1 * 64 ≤ R.locals → cells + rm.2.1 ≤ Mc → slots + rm.2.2 ≤ Ms → Mc ≤ R.cells → Ms ≤ R.slots →
    Rp E w h H → va_S (eF E) s.heap H locs → lv_has lsA (mL M) (ls.map fun q => (q.1, cv E q.2)) → Rt E M Q p l e R s m args below meth c Mc Ms Z →
    W p l e R s m args below meth c H locs cells slots Z (F0 m pc lsA (st.map (cv E)))
def QcG (E : En) (Q : Option Value → Wd → Hp → Prop) : Array Value → State → Outcome → State → Prop := fun _ st oc t =>
  (∃ (r : Option Value) (w' : Wd) (h' : Hp), oc = .returned (r.map (cv E)) ∧ Q r w' h' ∧ Rp E w' h' t.heap) ∧ va_F (eF E) st t
def PcG (E : En) (w : Wd) (args : List Value) (h : Hp) : Array Value → State → Prop := va_Pc (args.map (cv E)) (fun U => Rp E w h U.heap ∧ EOk E U U.heap)
/-- A CONTRACT: from such arguments and such a heap the method returns, and Q holds -/
def Ct (w : Wd) (rm : Rm) (M : Mth) (args : List Value) (h : Hp) (Q : Option Value → Wd → Hp → Prop) : Prop :=
  ∀ (E : En) (l : Launch), Met l (my M) (wsM M) (rmR rm) (PcG E w args h) (QcG E Q) rm.2.1 rm.2.2 (eF E)
theorem cv_cat (E : En) (v : Value) : (cv E v).category = v.category := by cases v <;> rfl
theorem cv_sum (E : En) (st : List Value) : ((st.map (cv E)).map fun v => v.category).sum = (st.map fun v => v.category).sum := by
  rw [List.map_map]
  exact congrArg List.sum (List.map_congr_left fun v _ => cv_cat E v)
theorem cv_sl (E : En) (vs : List Value) : (lg_sl (vs.map (cv E))).length = (lg_sl vs).length := by
  induction vs with
  | nil => rfl
  | cons v t ih =>
    simp only [List.map_cons, lg_sl, List.flatMap_cons, List.length_append, cv_cat] at ih ⊢
    rw [ih]
    congr 1
    split <;> rfl
theorem cv_args (E : En) : ∀ (i : Nat) (vs : List Value), lv_args i (vs.map (cv E)) = (lv_args i vs).map fun q => (q.1, cv E q.2)
  | _, [] => rfl
  | i, v :: t => by
    simp only [List.map_cons, lv_args, cv_cat]
    exact congrArg _ (cv_args E _ t)
theorem Rt.met {E : En} {M : Mth} {Q : Option Value → Wd → Hp → Prop} {p : Program} {l : Launch} {e : Env} {R : Room} {s : State} {m : MethodId} {args : Array Value} {below : List Frame} {meth : Method} {c : Code} {mc' ms' : Nat} (C : Cx E M p s m args meth c) (hr : meth.sig.returnType = mr M) (hlocks : meth.locks = false) : Rt E M Q p l e R s m args below meth c mc' ms' (MQ below (QcG E Q) args s mc' ms' (eF E)) := by
  intro r w' h' pc' H' locs' ls' hQ hP hS hd hok
  have key : ∀ t : State, t.heap = H' → s.WarmedH t.vm → QcG E Q args s (.returned (r.map (cv E))) t := fun t ht hW => ⟨⟨r, w', h', rfl, hQ, by rw [ht]; exact hP⟩, hS.F ht⟩
  cases r with
  | none => exact W.vret C.1 C.2.1 (hr.trans hok) key hS.2.2 hd hlocks
  | some v =>
    cases v with
    | int x =>
      obtain ⟨ty, h1, h2⟩ := hok
      exact W.zret C.1 C.2.1 (hr.trans h1) h2 key hS.2.2 hd hlocks
    | long x => exact W.lret C.1 C.2.1 (hr.trans hok) key hS.2.2 hd hlocks
    | float x => exact W.fret C.1 C.2.1 (hr.trans hok) key hS.2.2 hd hlocks
    | double x => exact absurd hok (fun h => h)
    | null => exact absurd hok (fun h => h)
    | ref x =>
      obtain ⟨n, h1⟩ := hok
      exact W.aret C.1 C.2.1 (hr.trans h1) (Or.inl ⟨n, rfl⟩) (Or.inr ⟨_, rfl⟩) key hS.2.2 hd hlocks
    | retAddr x => exact absurd hok (fun h => h)
/-- a contract out of the walk of the body -/
theorem Ct.of {w : Wd} {rm : Rm} {M : Mth} {args : List Value} {h : Hp} {Q : Option Value → Wd → Hp → Prop} (hn : plainName (my M).cls = true) (hl : (lg_sl args).length ≤ mL M) (hg : Go w rm M 0 (lv_args 0 args) [] h Q) : Ct w rm M args h Q := by
  intro E l
  refine Met.ofW (cc := mc M) (maxL := mL M) (ret := mr M) hn rfl ?_
  intro p e s m av below meth c s₁ B hml hv
  obtain ⟨rfl, hP, hE⟩ := hv
  have hts : ∀ x ∈ wsM M, x.before ((args.map (cv E)).toArray) s = true := atoms_spec (ws := wsM M) B.pre
  have C : Cx E M p s m (args.map (cv E)).toArray meth c := ⟨B.exec, B.bytes, hml, findClass_of_methodNamed B.named, fun x hx => hts x (List.mem_cons_of_mem _ hx), (fun e => (name_of_methodNamed B.named B.method).1.trans e), hE⟩
  rw [lg_entry_eq]
  have hl2 := lv_entry (args.map (cv E)) (n := mL M) (by rw [cv_sl]; exact hl)
  rw [cv_args] at hl2
  exact hg E p l e _ s m _ below meth c s.heap [] 0 0 rm.2.1 rm.2.2 _ _ C (Nat.le_refl _) (Nat.le_refl _) (by simp) (by simp) (Nat.le_refl _) (Nat.le_refl _) hP va_S.rf hl2 (Rt.met C B.returns B.notSynchronized)
/-! ===== plain facts ===== -/
theorem Go.mono {w : Wd} {rm : Rm} {M : Mth} {pc : Nat} {ls : List (Nat × Value)} {st : List Value} {h : Hp} {Q Q' : Option Value → Wd → Hp → Prop} (hq : ∀ r w h, Q r w h → Q' r w h) (k : Go w rm M pc ls st h Q) : Go w rm M pc ls st h Q' := by
  intro E p l e R s m args below meth c H locs cells slots Mc Ms Z lsA C r1 r2 r3 r4 r5 r6 hP hS hL hR
  exact k E p l e R s m args below meth c H locs cells slots Mc Ms Z lsA C r1 r2 r3 r4 r5 r6 hP hS hL (fun r w' h' pc' H' locs' ls' hQ => hR r w' h' pc' H' locs' ls' (hq r w' h' hQ))
theorem Ct.mono {w : Wd} {rm : Rm} {M : Mth} {args : List Value} {h : Hp} {Q Q' : Option Value → Wd → Hp → Prop} (hq : ∀ r w h, Q r w h → Q' r w h) (k : Ct w rm M args h Q) : Ct w rm M args h Q' := by
  intro E l p e ha hc hk s m av below hf happ hp ht
  obtain ⟨t, o, h1, h2, h3, ⟨⟨⟨r, w', h', g1, g2, g3⟩, g4⟩, h5⟩⟩ := k E l p e ha hc hk s m av below hf happ hp ht
  exact ⟨t, o, h1, h2, h3, ⟨⟨⟨r, w', h', g1, hq r w' h' g2, g3⟩, g4⟩, h5⟩⟩
theorem Go.sub {w : Wd} {rm : Rm} {M : Mth} {pc : Nat} {ls ls' : List (Nat × Value)} {st : List Value} {h : Hp} {Q : Option Value → Wd → Hp → Prop} (hs : ls'.all (fun q => decide (q ∈ ls)) = true) (k : Go w rm M pc ls' st h Q) : Go w rm M pc ls st h Q := by
  intro E p l e R s m args below meth c H locs cells slots Mc Ms Z lsA C r1 r2 r3 r4 r5 r6 hP hS hL hR
  refine k E p l e R s m args below meth c H locs cells slots Mc Ms Z lsA C r1 r2 r3 r4 r5 r6 hP hS ⟨hL.1, hL.2.1, fun q hq => ?_⟩ hR
  obtain ⟨q0, h1, rfl⟩ := List.mem_map.mp hq
  have := List.all_eq_true.mp hs q0 h1
  exact hL.2.2 _ (List.mem_map.mpr ⟨q0, of_decide_eq_true this, rfl⟩)

