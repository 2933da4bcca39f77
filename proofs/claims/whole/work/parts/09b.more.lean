theorem go_ldcwf {w : Wd} {rm : Rm} {M : Mth} {pc pc2 : Nat} {ls : List (Nat × Value)} {st : List Value} {h : Hp} {Q : Option Value → Wd → Hp → Prop} {own : String} {index : Nat} {v : UInt32} (hd : decode (mc M) pc = .ok (.ldc_w index, 3)) (hp : pc + 3 = pc2) (hM : (my M).cls = own) (hw : Cond.constantFloat own index v ∈ lw_gd) (k : Go w rm M pc2 ls (.float v :: st) h Q) : Go w rm M pc ls st h Q := by
  subst hp
  intro E p l e R s m args below meth c H locs cells slots Mc Ms Z lsA C r1 r2 r3 r4 r5 r6 hP hS hL hR
  have k2 := (k E p l e R s m args below meth c H locs cells slots Mc Ms Z lsA C r1 r2 r3 r4 r5 r6 hP hS hL hR)
  intro T hT X
  obtain ⟨t, a1, b1⟩ := k2 T hT X
  refine ⟨t, ?_, b1⟩
  have hown : s.vm.findClass own = some m.cls := by rw [← hM]; exact C.2.2.2.1
  obtain ⟨k0, cf, hk0, hcf, hcp⟩ := Cond.constantFloat_spec hown (C.2.2.2.2.1 _ hw)
  obtain ⟨k', hk', he⟩ := X.warmed.alike.2.2 _ _ hk0
  have hx := C.1
  have hb := C.2.1
  jvm_step X.here [X.here.top, hx, hb, hd, ldc_w.wp_float (s := T) (f := F0 m pc lsA (st.map (cv E))) X.here.top hk' (by rw [he]; exact hcf) hcp]
  exact a1
