theorem go_ldcwf {w : Wd} {rm : Rm} {M : Mth} {pc pc2 : Nat} {ls : List (Nat × Value)} {st : List Value} {h : Hp} {Q : Option Value → Wd → Hp → Prop} {own : String} {index : Nat} {v : UInt32} (hd : decode (mc M) pc = .ok (.ldc_w index, 3)) (hp : pc + 3 = pc2) (hM : (my M).cls = own) (hw : Cond.constantFloat own index v ∈ lw_gd) (k : Go w rm M pc2 ls (.float v :: st) h Q) : Go w rm M pc ls st h Q := by
  subst hp
  intro E p l e R s m args below meth c H locs cells slots Mc Ms Z lsA C r1 r2 r3 r4 r5 r6 hP hS hL hR
  have k2 := (k E p l e R s m args below meth c H locs cells slots Mc Ms Z lsA C r1 r2 r3 r4 r5 r6 hP hS hL hR)
  intro T hT X
  obtain ⟨t, a1, b1⟩ := k2 T hT X
  refine ⟨t, ?_, b1⟩
  have hown : s.vm.findClass own = some m.cls := by rw [← hM]; exact C.2.2.2.1
  obtain ⟨k0, cf, hk0, hcf, hcp⟩ := Cond.constantFloat_spec hown (C.2.2.2.2.1 _ hw)
  obtain ⟨k', hk', he⟩ := X.warmed.alike.2.2 _ _ hk0
  have hx := C.1
  have hb := C.2.1
  jvm_step X.here [X.here.top, hx, hb, hd, ldc_w.wp_float (s := T) (f := F0 m pc lsA (st.map (cv E))) X.here.top hk' (by rw [he]; exact hcf) hcp]
  exact a1
theorem go_tsEq {w : Wd} {rm : Rm} {M : Mth} {pc : Nat} {ls : List (Nat × Value)} {st : List Value} {h : Hp} {Q : Option Value → Wd → Hp → Prop} {dflt lo hi : Int} {offs : Array Int} {len : Nat} {x v : Int32} {off : Int} {tgt : Nat} (hd : decode (mc M) pc = .ok (.tableswitch dflt lo hi offs, len)) (hx : x = v) (h1 : ¬ v.toInt < lo) (h2 : ¬ hi < v.toInt) (ho : offs[(v.toInt - lo).toNat]? = some off) (ht : (pc : Int) + off = (tgt : Int)) (k : Go w rm M tgt ls st h Q) : Go w rm M pc ls (.int x :: st) h Q := by
  subst hx
  exact go_tsIn hd h1 h2 ho ht k
theorem Met_ofWF {l : Launch} {y : MethodName} {ws ws1 : List Cond} {rm : Room} {Pc : Array Value → State → Prop} {Qc : Array Value → State → Outcome → State → Prop} {mc' ms' : Nat} {free : Addr → Prop} {cc : ByteArray} {maxL : Nat} {ret : Option FieldType}
    (hy : plainFor y = true) (hw : ws = Cond.code y cc maxL ret :: ws1)
    (body : ∀ p e s m args below meth c s₁, BodyLoose p l y (headSpec ws rm) cc maxL ret e s m args below meth c s₁ → c.maxLocals = maxL → Pc args s →
      W p l e (headSpec ws rm).room s m args below meth c s.heap [] 0 0 (MQ below Qc args s mc' ms' free) (entryFrame m args maxL)) : Met l y ws rm Pc Qc mc' ms' free := by
  refine MetFree.of_bodySF (code := cc) (maxLocals := maxL) (ret := ret) hy (fun args s m h hn => ?_) (fun p e s m args below meth c s₁ B hml hP _ => ?_)
  · obtain ⟨meth, c, h1, h2, h3, h4, h5, h6, -, -⟩ := Cond.code_spec hn (atoms_spec (ws := ws) h _ (by rw [hw]; exact List.mem_cons_self))
    exact ⟨meth, c, h1, h2, h3, h4, h5, h6⟩
  · obtain ⟨t, a1, o, b1, b2, b3⟩ := body p e s m args below meth c s₁ B hml hP s₁ (by rw [B.state]; rfl) (Stand.of_body B)
    exact ⟨t, o, a1, b1, b2, b3⟩
theorem Ct.ofF {w : Wd} {rm : Rm} {M : Mth} {args : List Value} {h : Hp} {Q : Option Value → Wd → Hp → Prop} (hn : plainFor (my M) = true) (hl : (lg_sl args).length ≤ mL M) (hg : Go w rm M 0 (lv_args 0 args) [] h Q) : Ct w rm M args h Q := by
  intro E l
  refine Met_ofWF (cc := mc M) (maxL := mL M) (ret := mr M) hn rfl ?_
  intro p e s m av below meth c s₁ B hml hv
  obtain ⟨rfl, hP, hE⟩ := hv
  have hts : ∀ x ∈ wsM M, x.before ((args.map (cv E)).toArray) s = true := atoms_spec (ws := wsM M) B.pre
  have C : Cx E M p s m (args.map (cv E)).toArray meth c := ⟨B.exec, B.bytes, hml, findClass_of_methodNamed B.named, fun x hx => hts x (List.mem_cons_of_mem _ hx), (fun e => (name_of_methodNamed B.named B.method).1.trans e), hE⟩
  rw [lg_entry_eq]
  have hl2 := lv_entry (args.map (cv E)) (n := mL M) (by rw [cv_sl]; exact hl)
  rw [cv_args] at hl2
  exact hg E p l e _ s m _ below meth c s.heap [] 0 0 rm.2.1 rm.2.2 _ _ C (Nat.le_refl _) (Nat.le_refl _) (by simp) (by simp) (Nat.le_refl _) (Nat.le_refl _) hP va_S.rf hl2 (Rt.met C B.returns B.notSynchronized)
theorem pf_min : plainFor (my mJ9_min_7cf53) = true := by decide +kernel
theorem pf_max : plainFor (my mJ9_max_7cf53) = true := by decide +kernel
theorem pf_f2i : plainFor (my mJxf58ca_floatToIntBits_5c35a) = true := by decide +kernel
theorem pf_nan : plainFor (my mJxf58ca_isNaN_12338) = true := by decide +kernel
