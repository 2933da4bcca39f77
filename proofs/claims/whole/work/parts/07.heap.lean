/-! ===== the heap's instructions ===== -/
def u2 {α : Type} (f : Nat → Nat → α) (k i : Nat) (v : α) : Nat → Nat → α := fun a => if a = k then (fun j => if j = i then v else f k j) else f a
theorem u2_ne {α : Type} {f : Nat → Nat → α} {k i : Nat} {v : α} {a : Nat} (h : a ≠ k) : u2 f k i v a = f a := if_neg h
theorem u2_eq {α : Type} (f : Nat → Nat → α) (k i : Nat) (v : α) (j : Nat) : u2 f k i v k j = if j = i then v else f k j := by simp [u2]
theorem u2_at {α : Type} (f : Nat → Nat → α) (k i : Nat) (v : α) : u2 f k i v k i = v := by simp [u2]
theorem u2_nj {α : Type} {f : Nat → Nat → α} {k i : Nat} {v : α} {j : Nat} (h : j ≠ i) : u2 f k i v k j = f k j := by simp [u2, h]
def ui (h : Hp) (k i : Nat) (v : Int32) : Hp := (u2 h.1 k i v, h.2)
def ul (h : Hp) (k i : Nat) (v : Int64) : Hp := (h.1, u2 h.2 k i v)
def ut (w : Wd) (k i r : Nat) : Wd := (u2 w.1 k i (some r), w.2)
theorem rfo_congr {w w' : Wd} {h h' : Hp} {k i : Nat} (h1 : w'.1 k i = w.1 k i) (h2 : h'.1 k i = h.1 k i) : rfo w' h' k i = rfo w h k i := by
  unfold rfo
  rw [h1, h2]
theorem fv_congr {E : En} {w w' : Wd} {h h' : Hp} {k i : Nat} (kd : Nat) (h1 : w'.1 k i = w.1 k i) (h2 : h'.1 k i = h.1 k i) (h3 : h'.2 k i = h.2 k i) : fv E w' h' k i kd = fv E w h k i kd := by
  unfold fv
  rw [rfo_congr h1 h2, h2, h3]
theorem cel_congr {E : En} {w w' : Wd} {h h' : Hp} {k : Nat} (c : Cel) (h1 : w'.1 k = w.1 k) (h2 : h'.1 k = h.1 k) (h3 : h'.2 k = h.2 k) : cel E w' h' k c = cel E w h k c := by
  have e : ∀ i, rfo w' h' k i = rfo w h k i := fun i => rfo_congr (by rw [h1]) (by rw [h2])
  have e2 : ∀ i kd, fv E w' h' k i kd = fv E w h k i kd := fun i kd => fv_congr kd (by rw [h1]) (by rw [h2]) (by rw [h3])
  unfold cel
  simp only [e, e2, h2]
theorem mapIdx_set {α β : Type} (l : List α) (f g : Nat → α → β) (k : Nat) (c : α) (hk : l[k]? = some c) (ho : ∀ a, a ≠ k → ∀ c, g a c = f a c) : (l.mapIdx f).set k (g k c) = l.mapIdx g := by
  apply List.ext_getElem?
  intro i
  by_cases hi : i = k
  · subst hi
    have hlt := (List.getElem?_eq_some_iff.mp hk).1
    rw [List.getElem?_set_self (by rw [List.length_mapIdx]; exact hlt), List.getElem?_mapIdx, hk]
    rfl
  · rw [List.getElem?_set_ne (Ne.symm hi), List.getElem?_mapIdx, List.getElem?_mapIdx]
    cases l[i]? with
    | none => rfl
    | some d => simp only [Option.map_some, ho i hi d]
theorem wld_set {E : En} {w w' : Wd} {h h' : Hp} {k : Nat} {c : Cel} {e : va_E} (hl : w'.2 = w.2) (hk : w.2[k]? = some c) (he : cel E w' h' k c = e) (ho : ∀ a, a ≠ k → w'.1 a = w.1 a ∧ h'.1 a = h.1 a ∧ h'.2 a = h.2 a) : (wld E w h).set k (eA E k, e) = wld E w' h' := by
  subst he
  have := mapIdx_set w.2 (fun k c => (eA E k, cel E w h k c)) (fun k c => (eA E k, cel E w' h' k c)) k c hk (fun a ha d => congrArg (Prod.mk (eA E a)) (cel_congr d (ho a ha).1 (ho a ha).2.1 (ho a ha).2.2))
  unfold wld
  rw [hl]
  exact this
/-- an object's fields are the places of its list -/
theorem cel_obj {E : En} {w : Wd} {h : Hp} {k : Nat} {c : Cel} (hc : c.1 < 100) : cel E w h k c = .inr (c.1, (fk c.1).mapIdx (fun i kd => fv E w h k i kd)) := if_pos hc

theorem go_get {w : Wd} {rm : Rm} {M : Mth} {pc pc2 : Nat} {ls : List (Nat × Value)} {st : List Value} {h : Hp} {Q : Option Value → Wd → Hp → Prop} {own ref C1 : String} {T : u_T} {N ci n kd index i k : Nat} {v : Value} (hM : (my M).cls = own) (hd : decode (mc M) pc = .ok (.getfield index, 3)) (hp : pc + 3 = pc2) (hk : w.2[k]? = some (ci, n)) (hci : ci < 100) (hcl : vwCl[ci]? = some (C1, T, N)) (hin : ∀ x ∈ u_ws C1 T N, x ∈ lw_gd) (hi : i < N) (hw : Cond.fieldLink own index ref (T i).2.1 (T i).2.2.1 ∈ lw_gd) (hs : (T i).1 = ref) (hkd : (fk ci)[i]? = some kd) (hv : ∀ E : En, fv E w h k i kd = cv E v) (kk : Go w rm M pc2 ls (v :: st) h Q) : Go w rm M pc ls (.ref k :: st) h Q := by
  subst hp
  intro E p l e R s m args below meth c H locs cells slots Mc Ms Z lsA C r1 r2 r3 r4 r5 r6 hP hS hL hR
  refine va_get (D := eD E) (cl := vwCl) (tys := etys E) (ws := wld E w h) (Ts := lw_gd) (own := own) (ref := ref) C.1 C.2.1 C.2.2.2.2.1 hin (by rw [← hM]; exact C.2.2.2.1) C.2.2.2.2.2.2.1.1 hP.2.2 k (by rw [wld_get E w h hk, cel_obj hci]) hcl i hi (C.2.2.2.2.1 _ hw) (fun x hx => by rw [← hs]; exact hx) (v := cv E v) (by rw [List.getElem?_mapIdx, hkd, Option.map_some, hv E]) hd ?_
  exact (kk E p l e R s m args below meth c H locs cells slots Mc Ms Z lsA C r1 r2 r3 r4 r5 r6 hP hS hL hR)
theorem go_getN {w : Wd} {rm : Rm} {M : Mth} {pc pc2 : Nat} {ls : List (Nat × Value)} {st : List Value} {h : Hp} {Q : Option Value → Wd → Hp → Prop} {own ref C1 : String} {host : String} {T : u_T} {N ci n kd index i k : Nat} {v : Value} (hM : (my M).cls = own) (hd : decode (mc M) pc = .ok (.getfield index, 3)) (hp : pc + 3 = pc2) (hk : w.2[k]? = some (ci, n)) (hci : ci < 100) (hcl : vwCl[ci]? = some (C1, T, N)) (hin : ∀ x ∈ u_ws C1 T N, x ∈ lw_gd) (hi : i < N) (hw : Cond.fieldLinkNest own index ref (T i).2.1 (T i).2.2.1 host ∈ lw_nst) (hs : (T i).1 = ref) (hkd : (fk ci)[i]? = some kd) (hv : ∀ E : En, fv E w h k i kd = cv E v) (kk : Go w rm M pc2 ls (v :: st) h Q) : Go w rm M pc ls (.ref k :: st) h Q := by
  subst hp
  intro E p l e R s m args below meth c H locs cells slots Mc Ms Z lsA C r1 r2 r3 r4 r5 r6 hP hS hL hR
  refine va_getN (D := eD E) (cl := vwCl) (tys := etys E) (ws := wld E w h) (Ts := lw_gd) (own := own) (ref := ref) C.1 C.2.1 C.2.2.2.2.1 hin (by rw [← hM]; exact C.2.2.2.1) C.2.2.2.2.2.2.1.1 hP.2.2 k (by rw [wld_get E w h hk, cel_obj hci]) hcl i hi (nst_use hw (C.2.2.2.2.2.2.1.2.1 _ hw)) (fun x hx => by rw [← hs]; exact hx) (v := cv E v) (by rw [List.getElem?_mapIdx, hkd, Option.map_some, hv E]) hd ?_
  exact (kk E p l e R s m args below meth c H locs cells slots Mc Ms Z lsA C r1 r2 r3 r4 r5 r6 hP hS hL hR)
theorem fs_set {E : En} {w w' : Wd} {h h' : Hp} {k ci i kd : Nat} {v : Value} (hkd : (fk ci)[i]? = some kd) (h1 : fv E w' h' k i kd = v) (h2 : ∀ j kd', j ≠ i → fv E w' h' k j kd' = fv E w h k j kd') : ((fk ci).mapIdx (fun j d => fv E w h k j d)).set i v = (fk ci).mapIdx (fun j d => fv E w' h' k j d) := by
  subst h1
  exact mapIdx_set (fk ci) (fun j d => fv E w h k j d) (fun j d => fv E w' h' k j d) i kd hkd (fun a ha d => h2 a d ha)
theorem va_K_len {fs : List Nat} {i kd : Nat} (h : fs[i]? = some kd) : i < fs.length := (List.getElem?_eq_some_iff.mp h).1
theorem Rp.step {E : En} {U : State} {H2 : Heap} {w w' : Wd} {h h' : Hp} {H H1 : Heap} {k : Nat} {c : Cel} (hE : EOk E U H2) (hP : Rp E w h H) (hl : w'.2 = w.2) (hk : w.2[k]? = some c) (hz : H1.size = H.size) (oq : ∀ q : Nat, q ≠ eA E k → H1[q]? = H[q]?) (ha : va_at (eD E) vwCl (eA E k, cel E w' h' k c) H1) (ho : ∀ a, a ≠ k → w'.1 a = w.1 a ∧ h'.1 a = h.1 a ∧ h'.2 a = h.2 a) : Rp E w' h' H1 := by
  have hD := Rp.D hE hP
  have hlt := (List.getElem?_eq_some_iff.mp hk).1
  have hle := hP.2.1
  refine ⟨⟨by rw [hz, hl]; exact hP.1.1, by rw [Scr, (ho 2000 (by omega)).2.1, (ho 2001 (by omega)).2.1]; exact hP.1.2⟩, by rw [hl]; exact hP.2.1, ?_⟩
  have := va_P.set hP.2.2 hD (wld_get E w h hk) ha oq
  rwa [wld_set hl hk rfl ho] at this
theorem Rp.in {E : En} {U : State} {H2 : Heap} {w : Wd} {h : Hp} {H : Heap} {k : Nat} {c : Cel} (hE : EOk E U H2) (hP : Rp E w h H) (hk : w.2[k]? = some c) : eF E (eA E k) := (Rp.D hE hP).2 k _ (wld_get E w h hk)
theorem put_at {E : En} {s : State} {args : Array Value} {w w' : Wd} {h h' : Hp} {H : Heap} {C1 : String} {T : u_T} {N ci n kd i k : Nat} {v : Value} (hE : EOk E s s.heap) (hts : ∀ x ∈ lw_gd, x.before args s = true) (hP : Rp E w h H) (ty0 : Nat → FieldType) (hty : ∀ k, k < N → parseFieldDescriptor (T k).2.2.1 = some (ty0 k)) (hnm : ∀ a, a < N → ∀ b, b < N → a ≠ b → (T a).2.1 ≠ (T b).2.1) (hk : w.2[k]? = some (ci, n)) (hci : ci < 100) (hcl : vwCl[ci]? = some (C1, T, N)) (hin : ∀ x ∈ u_ws C1 T N, x ∈ lw_gd) (hi : i < N) (hkd : (fk ci)[i]? = some kd)
    (hl : w'.2 = w.2) (hv : ∀ E : En, fv E w' h' k i kd = cv E v) (hj : ∀ j, j ≠ i → w'.1 k j = w.1 k j ∧ h'.1 k j = h.1 k j ∧ h'.2 k j = h.2 k j) (ho : ∀ a, a ≠ k → w'.1 a = w.1 a ∧ h'.1 a = h.1 a ∧ h'.2 a = h.2 a) :
    ∃ (cf : ClassId) (kf : Class) (fi : Nat) (f : Field) (cell : Cell) (kC : Class), s.fieldFound? (T i).1 (T i).2.1 (T i).2.2.1 = some (cf, kf, fi, f) ∧ f.isStatic = false ∧ H[eA E k]? = some cell ∧ cell.vm = .none ∧ f.slot < cell.slots.size ∧ s.vm.findClass C1 = some cell.cls ∧ s.vm.classes[cell.cls]? = some kC ∧ kC.kind = .ordinary ∧
      ∀ H1 : Heap, H1[eA E k]? = some (cell.setSlot f.slot (cv E v)) → H1.size = H.size → (∀ q : Nat, q ≠ eA E k → H1[q]? = H[q]?) → Rp E w' h' H1 := by
  have hK := hE.1.1
  have hap := va_apart (own := C1) hts hin ty0 hty hnm hK hcl
  have he := wld_get E w h hk
  rw [cel_obj hci] at he
  obtain ⟨r, h1, cell, q1, q2, q3, q4⟩ := hP.2.2 k _ he
  have hr : r = (C1, T, N) := Option.some.inj (h1.symm.trans hcl)
  subst hr
  obtain ⟨hS, hfc, kC, hkC, hkind⟩ := hK.1 ci _ hcl
  obtain ⟨cf, kf, fi, f, hf, hsl⟩ := hS i hi
  refine ⟨cf, kf, fi, f, cell, kC, hf, (u_facts hfc hkC (u_lays hts hin hi) hf).1, q1, q3, by rw [hsl]; exact k2_hasslot (q4 i hi), by rw [q2]; exact hfc, by rw [q2]; exact hkC, hkind, fun H1 e1 e2 e3 => ?_⟩
  refine Rp.step hE hP hl hk e2 e3 ?_ ho
  rw [cel_obj hci, ← fs_set hkd (hv E) (fun j kd' hne => fv_congr kd' (hj j hne).1 (hj j hne).2.1 (hj j hne).2.2)]
  rw [hsl] at e1
  exact ⟨_, hcl, t_OB.to (V := updV (vp_V ((fk ci).mapIdx (fun i kd => fv E w h k i kd))) i (cv E v)) ⟨_, e1, q2, q3, t_set q4 hap hi _⟩ (fun j _ => vp_updV_set (by simpa using va_K_len hkd) _ j)⟩
theorem go_put {w : Wd} {rm : Rm} {M : Mth} {pc pc2 : Nat} {ls : List (Nat × Value)} {st : List Value} {h : Hp} {Q : Option Value → Wd → Hp → Prop} {own ref C1 : String} {T : u_T} {N ci n kd index i k : Nat} {v : Value} {w' : Wd} {h' : Hp} (ty0 : Nat → FieldType) (hty : ∀ k, k < N → parseFieldDescriptor (T k).2.2.1 = some (ty0 k)) (hnm : ∀ a, a < N → ∀ b, b < N → a ≠ b → (T a).2.1 ≠ (T b).2.1) (hM : (my M).cls = own) (hd : decode (mc M) pc = .ok (.putfield index, 3)) (hp : pc + 3 = pc2) (hk : w.2[k]? = some (ci, n)) (hci : ci < 100) (hcl : vwCl[ci]? = some (C1, T, N)) (hin : ∀ x ∈ u_ws C1 T N, x ∈ lw_gd) (hi : i < N) (hw : Cond.fieldLink own index ref (T i).2.1 (T i).2.2.1 ∈ lw_gd) (hs : (T i).1 = ref) (hkd : (fk ci)[i]? = some kd) (hfin : (T i).2.2.2 = false) (hn : ∀ E : En, narrow (ty0 i) (cv E v) = cv E v) (hf : ∀ E : En, fits (ty0 i) (cv E v) = true)
    (hl : w'.2 = w.2) (hv : ∀ E : En, fv E w' h' k i kd = cv E v) (hj : ∀ j, j ≠ i → w'.1 k j = w.1 k j ∧ h'.1 k j = h.1 k j ∧ h'.2 k j = h.2 k j) (ho : ∀ a, a ≠ k → w'.1 a = w.1 a ∧ h'.1 a = h.1 a ∧ h'.2 a = h.2 a) (kk : Go w' rm M pc2 ls st h' Q) : Go w rm M pc ls (v :: .ref k :: st) h Q := by
  subst hp
  intro E p l e R s m args below meth c H locs cells slots Mc Ms Z lsA C r1 r2 r3 r4 r5 r6 hP hS hL hR
  obtain ⟨cf, kf, fi, f, cell, kC, g1, g2, g3, g4, g5, g6, g7, g8, g9⟩ := put_at C.2.2.2.2.2.2 C.2.2.2.2.1 hP ty0 hty hnm hk hci hcl hin hi hkd hl hv hj ho
  have hlay := C.2.2.2.2.1 _ (hin _ (u_in_lay hi))
  unfold u_lay at hlay
  rw [if_neg (by rw [hfin]; decide)] at hlay
  have h6 := u_store g6 g7 g8 hlay g1 (hty i hi) (hn E) (hf E)
  exact W.putK C.1 C.2.1 (f := f) ⟨by rw [← hM]; exact C.2.2.2.1, (C.2.2.2.2.1 _ hw), ⟨_, _, _, by rw [← hs]; exact g1⟩, g2⟩ h6 g3 g4 g5 rfl rfl hd fun H1 e1 e2 e3 => (kk E p l e R s m args below meth c H1 _ cells slots Mc Ms Z lsA C r1 r2 r3 r4 r5 r6 (g9 H1 e1 e2 e3) (hS.put e2 e3 (Rp.in C.2.2.2.2.2.2 hP hk)) hL hR)
theorem go_putF {w : Wd} {rm : Rm} {M : Mth} {pc pc2 : Nat} {ls : List (Nat × Value)} {st : List Value} {h : Hp} {Q : Option Value → Wd → Hp → Prop} {own ref C1 : String} {T : u_T} {N ci n kd index i k : Nat} {v : Value} {w' : Wd} {h' : Hp} (ty0 : Nat → FieldType) (hty : ∀ k, k < N → parseFieldDescriptor (T k).2.2.1 = some (ty0 k)) (hnm : ∀ a, a < N → ∀ b, b < N → a ≠ b → (T a).2.1 ≠ (T b).2.1) (hM : (my M).cls = own) (hd : decode (mc M) pc = .ok (.putfield index, 3)) (hp : pc + 3 = pc2) (hk : w.2[k]? = some (ci, n)) (hci : ci < 100) (hcl : vwCl[ci]? = some (C1, T, N)) (hin : ∀ x ∈ u_ws C1 T N, x ∈ lw_gd) (hi : i < N) (hw : Cond.fieldLink own index ref (T i).2.1 (T i).2.2.1 ∈ lw_gd) (hs : (T i).1 = ref) (hkd : (fk ci)[i]? = some kd) (hfin : (T i).2.2.2 = true) (hin2 : (my M).name = "<init>") (hdecl : (T i).1 = own) (hn : ∀ E : En, narrow (ty0 i) (cv E v) = cv E v) (hf : ∀ E : En, fits (ty0 i) (cv E v) = true)
    (hl : w'.2 = w.2) (hv : ∀ E : En, fv E w' h' k i kd = cv E v) (hj : ∀ j, j ≠ i → w'.1 k j = w.1 k j ∧ h'.1 k j = h.1 k j ∧ h'.2 k j = h.2 k j) (ho : ∀ a, a ≠ k → w'.1 a = w.1 a ∧ h'.1 a = h.1 a ∧ h'.2 a = h.2 a) (kk : Go w' rm M pc2 ls st h' Q) : Go w rm M pc ls (v :: .ref k :: st) h Q := by
  subst hp
  intro E p l e R s m args below meth c H locs cells slots Mc Ms Z lsA C r1 r2 r3 r4 r5 r6 hP hS hL hR
  obtain ⟨cf, kf, fi, f, cell, kC, g1, g2, g3, g4, g5, g6, g7, g8, g9⟩ := put_at C.2.2.2.2.2.2 C.2.2.2.2.1 hP ty0 hty hnm hk hci hcl hin hi hkd hl hv hj ho
  have hlay := C.2.2.2.2.1 _ (hin _ (u_in_lay hi))
  unfold u_lay at hlay
  rw [if_pos hfin] at hlay
  have hown : s.vm.findClass own = some m.cls := by rw [← hM]; exact C.2.2.2.1
  have hcf : m.cls = cf := by
    obtain ⟨_, _, c', _, _, _, -, -, hf', -, -, -, hown2, -⟩ := Cond.laysFinal_spec hlay
    have e1 : c' = cf := by have := g1.symm.trans hf'; simp at this; exact this.1.symm
    rw [hdecl] at hown2
    rw [← e1]; exact Option.some.inj (hown.symm.trans hown2)
  have h6 := u_fits g6 g7 g8 (Or.inr hlay) g1 (hty i hi) (hn E) (hf E)
  exact W.putFinK C.1 C.2.1 hown (C.2.2.2.2.1 _ hw) (by rw [← hs]; exact g1) g2 hcf (C.2.2.2.2.2.1 hin2) h6 g3 g4 g5 rfl rfl hd fun H1 e1 e2 e3 => (kk E p l e R s m args below meth c H1 _ cells slots Mc Ms Z lsA C r1 r2 r3 r4 r5 r6 (g9 H1 e1 e2 e3) (hS.put e2 e3 (Rp.in C.2.2.2.2.2.2 hP hk)) hL hR)
theorem go_putN {w : Wd} {rm : Rm} {M : Mth} {pc pc2 : Nat} {ls : List (Nat × Value)} {st : List Value} {h : Hp} {Q : Option Value → Wd → Hp → Prop} {own ref C1 : String} {host : String} {T : u_T} {N ci n kd index i k : Nat} {v : Value} {w' : Wd} {h' : Hp} (ty0 : Nat → FieldType) (hty : ∀ k, k < N → parseFieldDescriptor (T k).2.2.1 = some (ty0 k)) (hnm : ∀ a, a < N → ∀ b, b < N → a ≠ b → (T a).2.1 ≠ (T b).2.1) (hM : (my M).cls = own) (hd : decode (mc M) pc = .ok (.putfield index, 3)) (hp : pc + 3 = pc2) (hk : w.2[k]? = some (ci, n)) (hci : ci < 100) (hcl : vwCl[ci]? = some (C1, T, N)) (hin : ∀ x ∈ u_ws C1 T N, x ∈ lw_gd) (hi : i < N) (hw : Cond.fieldLinkNest own index ref (T i).2.1 (T i).2.2.1 host ∈ lw_nst) (hs : (T i).1 = ref) (hkd : (fk ci)[i]? = some kd) (hfin : (T i).2.2.2 = false) (hn : ∀ E : En, narrow (ty0 i) (cv E v) = cv E v) (hf : ∀ E : En, fits (ty0 i) (cv E v) = true)
    (hl : w'.2 = w.2) (hv : ∀ E : En, fv E w' h' k i kd = cv E v) (hj : ∀ j, j ≠ i → w'.1 k j = w.1 k j ∧ h'.1 k j = h.1 k j ∧ h'.2 k j = h.2 k j) (ho : ∀ a, a ≠ k → w'.1 a = w.1 a ∧ h'.1 a = h.1 a ∧ h'.2 a = h.2 a) (kk : Go w' rm M pc2 ls st h' Q) : Go w rm M pc ls (v :: .ref k :: st) h Q := by
  subst hp
  intro E p l e R s m args below meth c H locs cells slots Mc Ms Z lsA C r1 r2 r3 r4 r5 r6 hP hS hL hR
  obtain ⟨cf, kf, fi, f, cell, kC, g1, g2, g3, g4, g5, g6, g7, g8, g9⟩ := put_at C.2.2.2.2.2.2 C.2.2.2.2.1 hP ty0 hty hnm hk hci hcl hin hi hkd hl hv hj ho
  have hlay := C.2.2.2.2.1 _ (hin _ (u_in_lay hi))
  unfold u_lay at hlay
  rw [if_neg (by rw [hfin]; decide)] at hlay
  have h6 := u_store g6 g7 g8 hlay g1 (hty i hi) (hn E) (hf E)
  exact va_WputK C.1 C.2.1 (by rw [← hM]; exact C.2.2.2.1) (nst_use hw (C.2.2.2.2.2.2.1.2.1 _ hw)) (by rw [← hs]; exact g1) g2 h6 g3 g4 g5 rfl rfl hd fun H1 e1 e2 e3 => (kk E p l e R s m args below meth c H1 _ cells slots Mc Ms Z lsA C r1 r2 r3 r4 r5 r6 (g9 H1 e1 e2 e3) (hS.put e2 e3 (Rp.in C.2.2.2.2.2.2 hP hk)) hL hR)
theorem cel_i {E : En} {w : Wd} {h : Hp} {k n : Nat} : cel E w h k (100, n) = .inl (eC E 0, n, .inl (h.1 k)) := rfl
theorem cel_z {E : En} {w : Wd} {h : Hp} {k n : Nat} : cel E w h k (101, n) = .inl (eC E 1, n, .inl (h.1 k)) := rfl
theorem cel_q {E : En} {w : Wd} {h : Hp} {k n t : Nat} : cel E w h k (102 + t, n) = .inl (eC E (2 + t), n, .inr (.inr (.inr (.inr (fun i => (rfo w h k i).map (eA E)))))) := by
  unfold cel
  rw [if_neg (by omega), if_neg (by show ¬ 102 + t < 102; omega)]
  show Sum.inl (eC E (102 + t - 100), _, _) = _
  rw [show 102 + t - 100 = 2 + t by omega]
theorem ety_at (E : En) {t : Nat} (ht : t < 6) : (etys E)[t]? = some (eC E t, aty t) := by
  match t, ht with
  | 0, _ => rfl
  | 1, _ => rfl
  | 2, _ => rfl
  | 3, _ => rfl
  | 4, _ => rfl
  | 5, _ => rfl
  | t + 6, h => omega
theorem aty_ref {t : Nat} : (aty (2 + t)).isReference = true := by
  match t with
  | 0 => rfl
  | 1 => rfl
  | 2 => rfl
  | t + 3 => rw [show 2 + (t + 3) = t + 5 by omega]; rfl
theorem ui_at (h : Hp) (k i : Nat) (v : Int32) : (ui h k i v).1 k = upd (h.1 k) i v := by
  funext j
  simp [ui, u2, upd]
theorem go_iaload {w : Wd} {rm : Rm} {M : Mth} {pc pc2 : Nat} {ls : List (Nat × Value)} {st : List Value} {h : Hp} {Q : Option Value → Wd → Hp → Prop} {a n j : Nat} {i : Int32} (hd : decode (mc M) pc = .ok (.iaload, 1)) (hp : pc + 1 = pc2) (hc : w.2[a]? = some (100, n)) (hin : vp_in i n) (hj : i.toNatClampNeg = j) (kk : Go w rm M pc2 ls (.int (h.1 a j) :: st) h Q) : Go w rm M pc ls (.int i :: .ref a :: st) h Q := by
  subst hp
  subst hj
  intro E p l e R s m args below meth c H locs cells slots Mc Ms Z lsA C r1 r2 r3 r4 r5 r6 hP hS hL hR
  exact va_iald (D := eD E) (cl := vwCl) (tys := etys E) (ws := wld E w h) C.1 C.2.1 C.2.2.2.2.2.2.1.1 hP.2.2 a 0 (by rw [wld_get E w h hc, cel_i]) rfl hin hd (kk E p l e R s m args below meth c H locs cells slots Mc Ms Z lsA C r1 r2 r3 r4 r5 r6 hP hS hL hR)
theorem go_baload {w : Wd} {rm : Rm} {M : Mth} {pc pc2 : Nat} {ls : List (Nat × Value)} {st : List Value} {h : Hp} {Q : Option Value → Wd → Hp → Prop} {a n j : Nat} {i : Int32} (hd : decode (mc M) pc = .ok (.baload, 1)) (hp : pc + 1 = pc2) (hc : w.2[a]? = some (101, n)) (hin : vp_in i n) (hj : i.toNatClampNeg = j) (kk : Go w rm M pc2 ls (.int (h.1 a j) :: st) h Q) : Go w rm M pc ls (.int i :: .ref a :: st) h Q := by
  subst hp
  subst hj
  intro E p l e R s m args below meth c H locs cells slots Mc Ms Z lsA C r1 r2 r3 r4 r5 r6 hP hS hL hR
  exact va_zald (D := eD E) (cl := vwCl) (tys := etys E) (ws := wld E w h) C.1 C.2.1 C.2.2.2.2.2.2.1.1 hP.2.2 a 1 (by rw [wld_get E w h hc, cel_z]) rfl hin hd (kk E p l e R s m args below meth c H locs cells slots Mc Ms Z lsA C r1 r2 r3 r4 r5 r6 hP hS hL hR)
theorem go_aaload {w : Wd} {rm : Rm} {M : Mth} {pc pc2 : Nat} {ls : List (Nat × Value)} {st : List Value} {h : Hp} {Q : Option Value → Wd → Hp → Prop} {a n j r t : Nat} {i : Int32} (hd : decode (mc M) pc = .ok (.aaload, 1)) (hp : pc + 1 = pc2) (ht : t < 4) (hc : w.2[a]? = some (102 + t, n)) (hin : vp_in i n) (hj : i.toNatClampNeg = j) (hr : rfo w h a j = some r) (kk : Go w rm M pc2 ls (.ref r :: st) h Q) : Go w rm M pc ls (.int i :: .ref a :: st) h Q := by
  subst hp
  subst hj
  intro E p l e R s m args below meth c H locs cells slots Mc Ms Z lsA C r1 r2 r3 r4 r5 r6 hP hS hL hR
  have ha := hP.2.2 a _ (wld_get E w h hc)
  rw [cel_q] at ha
  have hlt : i.toNatClampNeg < n := Nat.not_le.mp fun q => hin (Or.inr q)
  have k := (kk E p l e R s m args below meth c H locs cells slots Mc Ms Z lsA C r1 r2 r3 r4 r5 r6 hP hS hL hR)
  exact W.aald (v := .ref (eA E r)) (ty := aty (2 + t)) C.1 C.2.1 ha ((C.2.2.2.2.2.2.1.1.2 (2 + t) _ (ety_at E (by omega))).1 n _) aty_ref (fun q => by cases q) (by show ¬ (i < 0 ∨ (arrV _ _ _).slots.size ≤ _); rw [arrV_size]; exact hin) (by show (arrV _ _ _).slots[_]? = _; rw [arrV_read _ _ hlt]; show some (va_rf ((rfo w h a i.toNatClampNeg).map (eA E))) = _; rw [hr]; rfl) rfl rfl hd k
theorem go_alen {w : Wd} {rm : Rm} {M : Mth} {pc pc2 : Nat} {ls : List (Nat × Value)} {st : List Value} {h : Hp} {Q : Option Value → Wd → Hp → Prop} {a n c0 : Nat} (hd : decode (mc M) pc = .ok (.arraylength, 1)) (hp : pc + 1 = pc2) (hc : w.2[a]? = some (100, n)) (kk : Go w rm M pc2 ls (.int (nI n) :: st) h Q) : Go w rm M pc ls (.ref a :: st) h Q := by
  subst hp
  intro E p l e R s m args below meth c H locs cells slots Mc Ms Z lsA C r1 r2 r3 r4 r5 r6 hP hS hL hR
  exact va_alen (D := eD E) (cl := vwCl) (tys := etys E) (ws := wld E w h) C.1 C.2.1 C.2.2.2.2.2.2.1.1 hP.2.2 a 0 (x := (n, .inl (h.1 a))) (by rw [wld_get E w h hc, cel_i]) (ty := .int) rfl (v := nI n) rfl hd (kk E p l e R s m args below meth c H locs cells slots Mc Ms Z lsA C r1 r2 r3 r4 r5 r6 hP hS hL hR)
theorem go_iastore {w : Wd} {rm : Rm} {M : Mth} {pc pc2 : Nat} {ls : List (Nat × Value)} {st : List Value} {h : Hp} {Q : Option Value → Wd → Hp → Prop} {a n j : Nat} {i x : Int32} (hd : decode (mc M) pc = .ok (.iastore, 1)) (hp : pc + 1 = pc2) (hc : w.2[a]? = some (100, n)) (hin : vp_in i n) (hj : i.toNatClampNeg = j) (kk : Go w rm M pc2 ls st (ui h a j x) Q) : Go w rm M pc ls (.int x :: .int i :: .ref a :: st) h Q := by
  subst hp
  subst hj
  intro E p l e R s m args below meth c H locs cells slots Mc Ms Z lsA C r1 r2 r3 r4 r5 r6 hP hS hL hR
  have ha := hP.2.2 a _ (wld_get E w h hc)
  rw [cel_i] at ha
  refine W.iast C.1 C.2.1 ha ((C.2.2.2.2.2.2.1.1.2 0 _ rfl).1 n (fun j => .int (h.1 a j))) (fun q => by cases q) (by show ¬ (i < 0 ∨ (arrV _ _ _).slots.size ≤ _); rw [arrV_size]; exact hin) rfl rfl hd fun H1 e1 e2 e3 => ?_
  have hP1 : Rp E w (ui h a i.toNatClampNeg x) H1 := by
    refine Rp.step C.2.2.2.2.2.2 hP rfl hc e2 e3 ?_ (fun b hb => ⟨rfl, u2_ne hb, rfl⟩)
    rw [cel_i]
    show H1[eA E a]? = some (vp_cell _ _)
    rw [e1, vp_cell_i, vp_cell_i, arrV_store, ui_at]
    refine congrArg (fun g => some (arrV (eC E 0) n g)) (funext fun q => ?_)
    by_cases hq : q = i.toNatClampNeg <;> simp [updV, upd, hq]
  exact (kk E p l e R s m args below meth c H1 _ cells slots Mc Ms Z lsA C r1 r2 r3 r4 r5 r6 hP1 (hS.put e2 e3 (Rp.in C.2.2.2.2.2.2 hP hc)) hL hR)
theorem go_bastore {w : Wd} {rm : Rm} {M : Mth} {pc pc2 : Nat} {ls : List (Nat × Value)} {st : List Value} {h : Hp} {Q : Option Value → Wd → Hp → Prop} {a n j : Nat} {i x : Int32} (hd : decode (mc M) pc = .ok (.bastore, 1)) (hp : pc + 1 = pc2) (hc : w.2[a]? = some (101, n)) (hin : vp_in i n) (hj : i.toNatClampNeg = j) (hx : x &&& 1 = x) (kk : Go w rm M pc2 ls st (ui h a j x) Q) : Go w rm M pc ls (.int x :: .int i :: .ref a :: st) h Q := by
  subst hp
  subst hj
  intro E p l e R s m args below meth c H locs cells slots Mc Ms Z lsA C r1 r2 r3 r4 r5 r6 hP hS hL hR
  have ha := hP.2.2 a _ (wld_get E w h hc)
  rw [cel_z] at ha
  refine W.zast C.1 C.2.1 ha ((C.2.2.2.2.2.2.1.1.2 1 _ rfl).1 n (fun j => .int (h.1 a j))) (fun q => by cases q) (by show ¬ (i < 0 ∨ (arrV _ _ _).slots.size ≤ _); rw [arrV_size]; exact hin) rfl rfl hd fun H1 e1 e2 e3 => ?_
  have hP1 : Rp E w (ui h a i.toNatClampNeg x) H1 := by
    refine Rp.step C.2.2.2.2.2.2 hP rfl hc e2 e3 ?_ (fun b hb => ⟨rfl, u2_ne hb, rfl⟩)
    rw [cel_z]
    show H1[eA E a]? = some (vp_cell _ _)
    rw [e1, vp_cell_i, vp_cell_i, arrV_store, ui_at]
    refine congrArg (fun g => some (arrV (eC E 1) n g)) (funext fun q => ?_)
    by_cases hq : q = i.toNatClampNeg <;> simp [updV, upd, hq, narrow, hx]
  exact (kk E p l e R s m args below meth c H1 _ cells slots Mc Ms Z lsA C r1 r2 r3 r4 r5 r6 hP1 (hS.put e2 e3 (Rp.in C.2.2.2.2.2.2 hP hc)) hL hR)
theorem go_aastore {w : Wd} {rm : Rm} {M : Mth} {pc pc2 : Nat} {ls : List (Nat × Value)} {st : List Value} {h : Hp} {Q : Option Value → Wd → Hp → Prop} {a n j v t ci n2 : Nat} {i : Int32} {r : vw_C} (hd : decode (mc M) pc = .ok (.aastore, 1)) (hp : pc + 1 = pc2) (ht : t < 4) (hc : w.2[a]? = some (102 + t, n)) (hv : w.2[v]? = some (ci, n2)) (hci : ci < 100) (hcl : vwCl[ci]? = some r) (hty : aty (2 + t) = .object r.1) (hin : vp_in i n) (hj : i.toNatClampNeg = j) (kk : Go (ut w a j v) rm M pc2 ls st h Q) : Go w rm M pc ls (.ref v :: .int i :: .ref a :: st) h Q := by
  subst hp
  subst hj
  intro E p l e R s m args below meth c H locs cells slots Mc Ms Z lsA C r1 r2 r3 r4 r5 r6 hP hS hL hR
  have ha := hP.2.2 a _ (wld_get E w h hc)
  rw [cel_q] at ha
  have hlt : i.toNatClampNeg < n := Nat.not_le.mp fun q => hin (Or.inr q)
  have h0 : ¬ i < 0 := fun q => hin (Or.inl q)
  have hv2 := wld_get E w h hv
  rw [cel_obj hci] at hv2
  obtain ⟨r', hr', cellV, g1, g2, g3, -⟩ := hP.2.2 v _ hv2
  have hK := C.2.2.2.2.2.2.1.1
  have hcls := (hK.1 ci r hcl).2
  have hA := (hK.2 (2 + t) _ (ety_at E (by omega))).2
  dsimp only at hA
  rw [hty] at hA
  obtain ⟨kA, comp, k1, k2, k3, -⟩ := hA
  have hcomp : comp = (eD E).1 ci := Option.some.inj (k3.symm.trans hcls.1)
  subst hcomp
  obtain ⟨kC, hkC, -⟩ := hcls.2
  refine W.aast C.1 C.2.1 ha (fun q h => by cases h) (fun h => by cases h) k1 k2 rfl hkC ⟨h0, by show _ < (arrV _ _ _).slots.size; rw [arrV_size]; exact hlt⟩ g1 (fun q h => by rw [g3] at h; cases h) (by rw [g2]; exact hkC) (by rw [g2]; exact va_assign hcls) rfl rfl hd fun H1 e1 e2 e3 => ?_
  have hP1 : Rp E (ut w a i.toNatClampNeg v) h H1 := by
    refine Rp.step C.2.2.2.2.2.2 hP rfl hc e2 e3 ?_ (fun b hb => ⟨u2_ne hb, rfl, rfl⟩)
    rw [cel_q]
    show H1[eA E a]? = some (vp_cell _ _)
    rw [e1, vp_cell_q, vp_cell_q, arrV_store]
    refine congrArg (fun g => some (arrV (eC E (2 + t)) n g)) (funext fun q => ?_)
    by_cases hq : q = i.toNatClampNeg
    · subst hq
      simp [updV, rfo, ut, u2, va_rf]
    · simp [updV, rfo, ut, u2, hq]
  exact (kk E p l e R s m args below meth c H1 _ cells slots Mc Ms Z lsA C r1 r2 r3 r4 r5 r6 hP1 (hS.put e2 e3 (Rp.in C.2.2.2.2.2.2 hP hc)) hL hR)
