/-! ===== the two constructors as they run: the world grows cell by cell ===== -/
/-- the refs as they are set, the last one first -/
def RV : List (Nat × Nat × Nat) := [(113, 30, 135), (113, 25, 134), (113, 24, 133), (113, 23, 132), (113, 22, 131), (113, 21, 130), (113, 20, 129), (113, 19, 128), (113, 18, 127), (113, 17, 126), (113, 16, 125), (113, 14, 124), (113, 13, 123), (113, 12, 122), (113, 11, 121), (113, 10, 120), (113, 9, 119), (113, 7, 118), (113, 6, 117), (113, 2, 116), (113, 1, 115), (113, 0, 114), (67, 2, 101), (102, 8, 112), (102, 7, 111), (102, 6, 110), (102, 5, 109), (102, 4, 108), (102, 3, 107), (102, 2, 106), (102, 1, 105), (102, 0, 104), (101, 1, 103), (101, 0, 102), (67, 1, 89), (90, 8, 100), (90, 7, 99), (90, 6, 98), (90, 5, 97), (90, 4, 96), (90, 3, 95), (90, 2, 94), (90, 1, 93), (90, 0, 92), (89, 1, 91), (89, 0, 90), (67, 0, 77), (78, 8, 88), (78, 7, 87), (78, 6, 86), (78, 5, 85), (78, 4, 84), (78, 3, 83), (78, 2, 82), (78, 1, 81), (78, 0, 80), (77, 1, 79), (77, 0, 78), (66, 3, 75), (75, 0, 76), (66, 2, 73), (73, 0, 74), (66, 1, 71), (71, 0, 72), (66, 0, 69), (69, 0, 70), (0, 12, 68), (0, 11, 67), (0, 10, 66), (0, 9, 64), (64, 2, 36), (64, 1, 58), (64, 0, 1), (64, 3, 65), (0, 8, 58), (58, 0, 1), (58, 5, 63), (58, 4, 62), (58, 3, 61), (58, 2, 60), (58, 1, 59), (0, 7, 38), (38, 0, 28), (38, 1, 1), (38, 10, 55), (38, 9, 51), (51, 2, 54), (51, 1, 53), (51, 0, 52), (38, 8, 47), (47, 2, 50), (47, 1, 49), (47, 0, 48), (38, 7, 43), (43, 2, 46), (43, 1, 45), (43, 0, 44), (38, 6, 42), (38, 5, 41), (38, 3, 40), (38, 2, 39), (0, 6, 36), (36, 0, 28), (36, 1, 1), (36, 2, 37), (0, 5, 28), (28, 6, 35), (28, 5, 34), (28, 4, 33), (28, 3, 32), (28, 2, 31), (28, 1, 30), (28, 0, 29), (0, 4, 25), (25, 4, 27), (25, 0, 26), (0, 2, 17), (21, 2, 24), (21, 1, 23), (21, 0, 22), (17, 4, 21), (17, 3, 20), (17, 2, 19), (17, 1, 18), (0, 1, 9), (13, 2, 16), (13, 1, 15), (13, 0, 14), (9, 4, 13), (9, 3, 12), (9, 2, 11), (9, 1, 10), (0, 0, 1), (5, 2, 8), (5, 1, 7), (5, 0, 6), (1, 4, 5), (1, 3, 4), (1, 2, 3), (1, 1, 2)]
/-- the numbers as they are set, the last one first -/
def IV : List (Nat × Nat × Int32) := [(114, 2, 1), (114, 0, 4), (131, 2, -9), (131, 1, -9), (131, 0, -9), (129, 3, -9), (129, 2, -9), (129, 1, -9), (129, 0, -9), (101, 3, -1), (101, 2, 0), (89, 3, -1), (89, 2, 0), (77, 3, -1), (77, 2, 0), (75, 1, -1), (73, 1, -1), (71, 1, -1), (69, 1, -1), (38, 12, nI 58), (38, 11, nI 57), (38, 4, 0), (28, 7, 0), (25, 3, 1), (25, 2, 0), (25, 1, 0), (0, 3, 0), (17, 7, 1), (17, 6, 0), (17, 5, 0), (17, 0, 4), (9, 7, 1), (9, 6, 0), (9, 5, 0), (9, 0, 4), (1, 7, 1), (1, 6, 0), (1, 5, 0), (1, 0, 4)]
def rfL : List (Nat × Nat × Nat) → Nat → Nat → Option Nat
  | [] => fun _ _ => none
  | e :: t => u2 (rfL t) e.1 e.2.1 (some e.2.2)
def hI (hb : Hp) : List (Nat × Nat × Int32) → Hp
  | [] => hb
  | e :: t => ui (hI hb t) e.1 e.2.1 e.2.2
/-- nothing but the script -/
def hB (X : Nat → Int32) (L : Nat) : Hp := (fun k i => if k = 2000 then X i else if k = 2001 then nI L else 0, fun _ _ => 0)
def hz : Hp := (fun _ _ => 0, fun _ _ => 0)
def wR (a : Nat) : Nat → Nat → Option Nat := rfL (RV.drop a)
def Wab (a b : Nat) : Wd := (wR a, SHP.take b)
def hS (X : Nat → Int32) (L : Nat) (c : Nat) : Hp := hI (hB X L) (IV.drop c)
def qW (X : Nat → Int32) (L : Nat) (a b c : Nat) : Option Value → Wd → Hp → Prop := fun r w h => r = none ∧ w = Wab a b ∧ h = hS X L c
theorem wR_s {a k i r : Nat} (h : RV[a]? = some (k, i, r)) : wR a = u2 (wR (a + 1)) k i (some r) := by
  obtain ⟨hl, he⟩ := List.getElem?_eq_some_iff.mp h
  unfold wR
  rw [List.drop_eq_getElem_cons hl, he]
  rfl
theorem Wab_s {a b k i r : Nat} (h : RV[a]? = some (k, i, r)) : ut (Wab (a + 1) b) k i r = Wab a b := by
  unfold ut Wab
  rw [wR_s h]
theorem hS_s {X : Nat → Int32} {L c k i : Nat} {v : Int32} (h : IV[c]? = some (k, i, v)) : ui (hS X L (c + 1)) k i v = hS X L c := by
  obtain ⟨hl, he⟩ := List.getElem?_eq_some_iff.mp h
  unfold hS
  rw [List.drop_eq_getElem_cons hl, he]
  rfl
theorem Wab_n {a b : Nat} {c0 : Cel} (h : w0.2[b]? = some c0) : ((Wab a b).1, (Wab a b).2 ++ [c0]) = Wab a (b + 1) := by
  have h : SHP[b]? = some c0 := h
  refine Prod.ext rfl ?_
  show SHP.take b ++ [c0] = SHP.take (b + 1)
  rw [List.take_add_one, h]
  rfl
theorem Wab_c {a b k : Nat} {c0 : Cel} (hb : k < b) (h : w0.2[k]? = some c0) : (Wab a b).2[k]? = some c0 := by
  show (SHP.take b)[k]? = some c0
  rw [List.getElem?_take, if_pos hb]
  exact h
theorem Wab_l {a b : Nat} (hb : b < 136) : (Wab a b).2.length = b := by
  show (SHP.take b).length = b
  have : SHP.length = 136 := by decide +kernel
  rw [List.length_take]
  omega
def lowR (a b : Nat) : Bool := (RV.drop a).all fun e => Nat.blt e.1 b
def lowI (c b : Nat) : Bool := (IV.drop c).all fun e => Nat.blt e.1 b
theorem rfL_low : ∀ {l : List (Nat × Nat × Nat)} {b : Nat}, (l.all fun e => Nat.blt e.1 b) = true → ∀ k i, b ≤ k → rfL l k i = none
  | [], _, _, _, _, _ => rfl
  | e :: t, b, h, k, i, hk => by
    rw [List.all_cons, Bool.and_eq_true] at h
    have h1 : e.1 < b := (Nat.blt_eq).mp h.1
    show u2 (rfL t) e.1 e.2.1 (some e.2.2) k i = none
    rw [u2_ne (by omega)]
    exact rfL_low h.2 k i hk
theorem hI_low {hb : Hp} : ∀ {l : List (Nat × Nat × Int32)} {b : Nat}, (l.all fun e => Nat.blt e.1 b) = true → ∀ k, b ≤ k → (hI hb l).1 k = hb.1 k
  | [], _, _, _, _ => rfl
  | e :: t, b, h, k, hk => by
    rw [List.all_cons, Bool.and_eq_true] at h
    have h1 : e.1 < b := (Nat.blt_eq).mp h.1
    show u2 (hI hb t).1 e.1 e.2.1 e.2.2 k = hb.1 k
    rw [u2_ne (by omega)]
    exact hI_low h.2 k hk
theorem hI_2 {hb : Hp} : ∀ l : List (Nat × Nat × Int32), (hI hb l).2 = hb.2
  | [] => rfl
  | _ :: t => hI_2 (hb := hb) t
theorem hI_same {hb hb' : Hp} {k : Nat} (e : hb.1 k = hb'.1 k) : ∀ l : List (Nat × Nat × Int32), (hI hb l).1 k = (hI hb' l).1 k
  | [] => e
  | q :: t => by
    show u2 (hI hb t).1 q.1 q.2.1 q.2.2 k = u2 (hI hb' t).1 q.1 q.2.1 q.2.2 k
    by_cases h : k = q.1
    · subst h
      funext j
      rw [u2_eq, u2_eq, hI_same e t]
    · rw [u2_ne h, u2_ne h, hI_same e t]
theorem hB_0 {X : Nat → Int32} {L k : Nat} (hk : k < 2000) : (hB X L).1 k = fun _ => 0 := by
  funext i
  show (if k = 2000 then X i else if k = 2001 then nI L else 0) = 0
  rw [if_neg (by omega), if_neg (by omega)]
theorem hS_low {X : Nat → Int32} {L c b : Nat} (h : lowI c b = true) (hb : b < 136) (i : Nat) : (hS X L c).1 b i = 0 := by
  unfold hS
  rw [hI_low h b (Nat.le_refl b), hB_0 (by omega)]
theorem hS_2 {X : Nat → Int32} {L c : Nat} (b i : Nat) : (hS X L c).2 b i = 0 := by
  unfold hS
  rw [hI_2]
  rfl
theorem hS_l {X : Nat → Int32} {L c k i : Nat} : ul (hS X L c) k i 0 = hS X L c := by
  refine Prod.ext rfl ?_
  funext a j
  show u2 (hS X L c).2 k i 0 a j = _
  by_cases h : a = k
  · subst h
    rw [u2_eq]
    by_cases hj : j = i
    · rw [if_pos hj, hS_2]
    · rw [if_neg hj]
  · rw [u2_ne h]
theorem goW {w w' : Wd} {rm : Rm} {M : Mth} {pc : Nat} {ls : List (Nat × Value)} {st : List Value} {h : Hp} {Q : Option Value → Wd → Hp → Prop} (e : w' = w) (k : Go w rm M pc ls st h Q) : Go w' rm M pc ls st h Q := by
  subst e
  exact k
theorem goH {w : Wd} {rm : Rm} {M : Mth} {pc : Nat} {ls : List (Nat × Value)} {st : List Value} {h h' : Hp} {Q : Option Value → Wd → Hp → Prop} (e : h' = h) (k : Go w rm M pc ls st h Q) : Go w rm M pc ls st h' Q := by
  subst e
  exact k
theorem go_obj {w : Wd} {rm : Rm} {M : Mth} {pc pc2 : Nat} {ls : List (Nat × Value)} {st : List Value} {h : Hp} {Q : Option Value → Wd → Hp → Prop} {own : String} {index k : Nat} (hM : (my M).cls = own) (hd : decode (mc M) pc = .ok (.invokespecial index, 3)) (hp : pc + 3 = pc2) (hw : Cond.methodLink own index ⟨"java/lang/Object", "<init>", "()V"⟩ ∈ lw_gd) (hrm : 1 ≤ rm.1) (hst : (st.map fun v => v.category).sum ≤ 8) (kk : Go w rm M pc2 ls st h Q) : Go w rm M pc ls (.ref k :: st) h Q := by
  subst hp
  intro E p l e R s m args below meth c H locs cells slots Mc Ms Z lsA C r1 r2 r3 r4 r5 r6 hP hS hL hR
  refine W.objInit C.1 C.2.1 (own := own) (by rw [← hM]; exact C.2.2.2.1) (C.2.2.2.2.1 _ hw) (C.2.2.2.2.1 _ w_29) (C.2.2.2.2.1 _ w_30) rfl (hL.1.trans C.2.2.1.symm) rfl hd (Nat.le_trans hrm r1) ?_ (kk E p l e R s m args below meth c H locs cells slots Mc Ms Z lsA C r1 r2 r3 r4 r5 r6 hP hS hL hR)
  show 2 * 0 + ((st.map (cv E)).map fun v => v.category).sum + 12 ≤ R.locals
  rw [cv_sum]
  omega
theorem n_new {X : Nat → Int32} {L a b c d bc bs : Nat} {M : Mth} {pc pc2 : Nat} {ls : List (Nat × Value)} {st : List Value} {Q : Option Value → Wd → Hp → Prop} {own C1 : String} {T : u_T} {N ci index : Nat} (ty : Nat → FieldType) (hty : ∀ k, k < N → parseFieldDescriptor (T k).2.2.1 = some (ty k)) (hdv : ∀ j, j < N → ∃ kd, (fk ci)[j]? = some kd ∧ defaultValue (ty j) = dv kd) (hM : (my M).cls = own) (hd : decode (mc M) pc = .ok (.new index, 3)) (hp : pc + 3 = pc2) (hb : b < 136) (hci : ci < 100) (hcl : vwCl[ci]? = some (C1, T, N)) (hin : ∀ x ∈ u_ws C1 T N, x ∈ lw_gd) (hw : Cond.classLink own index C1 ∈ lw_gd) (hw2 : Cond.instantiable C1 N ∈ lw_gd) (hw3 : Cond.initialized C1 ∈ lw_gd) (hc : w0.2[b]? = some (ci, 0)) (hr : lowR a b = true) (hi : lowI c b = true) (kk : Go (Wab a (b + 1)) (d, bc, bs) M pc2 ls (.ref b :: st) (hS X L c) Q) : Go (Wab a b) (d, bc + 1, bs + N) M pc ls st (hS X L c) Q :=
  go_new ty hty hdv hM hd hp (Wab_l hb) hb hci hcl hin hw hw2 hw3 (fun i => ⟨hS_low hi hb i, hS_2 b i, rfL_low hr b i (Nat.le_refl b)⟩) (goW (Wab_n hc) kk)
theorem n_arr {X : Nat → Int32} {L a b c d bc bs : Nat} {M : Mth} {pc pc2 : Nat} {ls : List (Nat × Value)} {st : List Value} {Q : Option Value → Wd → Hp → Prop} {atype : ArrayType} {N t : Nat} {n : Int32} (ht : t < 2) (hat : newarray.typeOf atype = aty t) (hd : decode (mc M) pc = .ok (.newarray atype, 2)) (hp : pc + 2 = pc2) (hb : b < 136) (hw : Cond.arrayClass (newarray.typeOf atype) ∈ lw_gd) (hn : ¬ n < 0) (hN : n.toNatClampNeg = N) (hN2 : N ≤ 1000) (hc : w0.2[b]? = some (100 + t, N)) (hi : lowI c b = true) (kk : Go (Wab a (b + 1)) (d, bc, bs) M pc2 ls (.ref b :: st) (hS X L c) Q) : Go (Wab a b) (d, bc + 1, bs + N) M pc ls (.int n :: st) (hS X L c) Q :=
  go_newarr ht hat hd hp (Wab_l hb) hb hw hn hN hN2 (fun i => hS_low hi hb i) (goW (Wab_n hc) kk)
theorem n_aarr {X : Nat → Int32} {L a b c d bc bs : Nat} {M : Mth} {pc pc2 : Nat} {ls : List (Nat × Value)} {st : List Value} {Q : Option Value → Wd → Hp → Prop} {own C1 : String} {index N t : Nat} {n : Int32} (ht : t < 3) (hat : aty (2 + t) = .object C1) (hM : (my M).cls = own) (hd : decode (mc M) pc = .ok (.anewarray index, 3)) (hp : pc + 3 = pc2) (hb : b < 136) (hw : Cond.classLink own index C1 ∈ lw_gd) (hn : ¬ n < 0) (hN : n.toNatClampNeg = N) (hN2 : N ≤ 1000) (hc : w0.2[b]? = some (102 + t, N)) (hr : lowR a b = true) (hi : lowI c b = true) (kk : Go (Wab a (b + 1)) (d, bc, bs) M pc2 ls (.ref b :: st) (hS X L c) Q) : Go (Wab a b) (d, bc + 1, bs + N) M pc ls (.int n :: st) (hS X L c) Q :=
  go_anewarr ht hat hM hd hp (Wab_l hb) hb hw hn hN hN2 (fun i => ⟨hS_low hi hb i, rfL_low hr b i (Nat.le_refl b)⟩) (goW (Wab_n hc) kk)
theorem n_mna {X : Nat → Int32} {L a b c d bc bs : Nat} {M : Mth} {pc pc2 : Nat} {ls : List (Nat × Value)} {st : List Value} {Q : Option Value → Wd → Hp → Prop} {own : String} {index K : Nat} {n k : Int32} (hM : (my M).cls = own) (hd : decode (mc M) pc = .ok (.multianewarray index 2, 4)) (hp : pc + 4 = pc2) (hw : Cond.classLink own index "[[I" ∈ lw_gd) (hw2 : Cond.arrayClass .int ∈ lw_gd) (c0 : w0.2[b]? = some (105, 3)) (c1 : w0.2[b + 1]? = some (100, K)) (c2 : w0.2[b + 2]? = some (100, K)) (c3 : w0.2[b + 3]? = some (100, K)) (e0 : RV[a]? = some (b, 2, b + 3)) (e1 : RV[a + 1]? = some (b, 1, b + 2)) (e2 : RV[a + 2]? = some (b, 0, b + 1)) (hr : lowR (a + 3) b = true) (hi : lowI c b = true) (hn : n = 3 ∧ ¬ k < 0 ∧ k.toNatClampNeg = K) (hb : b + 4 ≤ 136 ∧ K ≤ 1000) (kk : Go (Wab a (b + 4)) (d, bc, bs) M pc2 ls (.ref b :: st) (hS X L c) Q) : Go (Wab (a + 3) b) (d, bc + 4, bs + (3 + 3 * K)) M pc ls (.int k :: .int n :: st) (hS X L c) Q := by
  obtain ⟨rfl, hk, hK⟩ := hn
  obtain ⟨hb, hK2⟩ := hb
  have hz : ∀ j i, j ≤ 3 → (hS X L c).1 (b + j) i = 0 := fun j i hj => by
    unfold hS
    rw [hI_low hi (b + j) (by omega), hB_0 (by omega)]
  have ew : (wR a, (Wab (a + 3) b).2 ++ ((105, 3) :: List.replicate 3 (100, K))) = Wab a (b + 4) := by
    refine Prod.ext rfl ?_
    have c0 : SHP[b]? = some (105, 3) := c0
    have c1 : SHP[b + 1]? = some (100, K) := c1
    have c2 : SHP[b + 2]? = some (100, K) := c2
    have c3 : SHP[b + 3]? = some (100, K) := c3
    show SHP.take b ++ [(105, 3), (100, K), (100, K), (100, K)] = SHP.take (b + 3 + 1)
    rw [List.take_add_one, List.take_add_one, List.take_add_one, List.take_add_one, c0, c1, c2, c3]
    simp
  refine go_mna (N := 3) (K := K) (n0 := b) (R' := wR a) (bc := bc) (bs := bs) hM hd hp (Wab_l (by omega)) (by show b < 136; omega) (by omega) hw hw2 (by decide) hk (by decide) hK (by decide) hK2 hz (fun x hx => ?_) (fun j => ?_) (goW ew kk)
  · rw [wR_s e0, wR_s e1, wR_s e2, u2_ne (by omega), u2_ne (by omega), u2_ne (by omega)]
    rfl
  · have hl : wR (a + 3) b = fun _ => none := funext fun i => rfL_low hr b i (Nat.le_refl b)
    rw [wR_s e0, wR_s e1, wR_s e2]
    rw [u2_eq, u2_eq, u2_eq, show a + 2 + 1 = a + 3 from rfl, hl]
    by_cases h2 : j = 2
    · subst h2
      rfl
    · by_cases h1 : j = 1
      · subst h1
        rfl
      · by_cases h0 : j = 0
        · subst h0
          rfl
        · rw [if_neg h2, if_neg h1, if_neg h0, if_neg (by omega)]
theorem n_call {X : Nat → Int32} {L a b c a' b' c' dC bC sC d b0 s0 : Nat} {M : Mth} {pc pc2 : Nat} {ls : List (Nat × Value)} {st : List Value} {Q : Option Value → Wd → Hp → Prop} {Mc : Mth} {own : String} {index : Nat} {As stk : List Value} {k : Nat} (hM : (my M).cls = own) (hd : decode (mc M) pc = .ok (.invokespecial index, 3)) (hp : pc + 3 = pc2) (hlink : Cond.methodLink own index (my Mc) ∈ lw_gd) (hok : MOK Mc As.length) (hv : Cond.instanceMethod (my Mc) ∈ lw_gd) (hin : (my Mc).name = "<init>") (hret : mr Mc = none) (hst : stk = As.reverse ++ .ref k :: st) (hrm : dC + 1 ≤ d) (hroom : (st.map fun v => v.category).sum ≤ 8) (hC : Ct (Wab a b) (dC, bC, sC) Mc (.ref k :: As) (hS X L c) (qW X L a' b' c')) (kk : Go (Wab a' b') (d, b0, s0) M pc2 ls st (hS X L c') Q) : Go (Wab a b) (d, b0 + bC, s0 + sC) M pc ls stk (hS X L c) Q :=
  go_callI hM hd hp hlink hok hv hin hret hst hrm hroom hC (fun r w' h' q => by
    obtain ⟨rfl, rfl, rfl⟩ := q
    exact kk)
theorem n_callN {X : Nat → Int32} {L a b c a' b' c' dC bC sC d b0 s0 : Nat} {M : Mth} {pc pc2 : Nat} {ls : List (Nat × Value)} {st : List Value} {Q : Option Value → Wd → Hp → Prop} {Mc : Mth} {own host : String} {index : Nat} {As stk : List Value} {k : Nat} (hM : (my M).cls = own) (hd : decode (mc M) pc = .ok (.invokespecial index, 3)) (hp : pc + 3 = pc2) (hlink : Cond.methodLinkNest own index (my Mc) host ∈ lw_nst) (hok : MOK Mc As.length) (hv : Cond.instanceMethod (my Mc) ∈ lw_gd) (hin : (my Mc).name = "<init>") (hret : mr Mc = none) (hst : stk = As.reverse ++ .ref k :: st) (hrm : dC + 1 ≤ d) (hroom : (st.map fun v => v.category).sum ≤ 8) (hC : Ct (Wab a b) (dC, bC, sC) Mc (.ref k :: As) (hS X L c) (qW X L a' b' c')) (kk : Go (Wab a' b') (d, b0, s0) M pc2 ls st (hS X L c') Q) : Go (Wab a b) (d, b0 + bC, s0 + sC) M pc ls stk (hS X L c) Q :=
  go_callIN hM hd hp hlink hok hv hin hret hst hrm hroom hC (fun r w' h' q => by
    obtain ⟨rfl, rfl, rfl⟩ := q
    exact kk)
theorem ct_X3i {w : Wd} {h : Hp} {k : Nat} : Ct w (1, 0, 0) mX3_init [.ref k] h (fun r w' h' => r = none ∧ w' = w ∧ h' = h) := by
  refine Ct.of (by decide +kernel) (Nat.le_of_ble_eq_true rfl) ?_
  show Go w (1, 0, 0) mX3_init 0 [(0, .ref k)] [] h _
  refine go_aload_n (pc2 := 1) dX3_init_0 rfl rfl rfl ?_
  refine go_obj (pc2 := 4) rfl dX3_init_1 rfl w_43 (by decide) (Nat.le_of_ble_eq_true rfl) ?_
  exact go_ret dX3_init_4 rfl ⟨rfl, rfl, rfl⟩
theorem dvX0 : ∀ j, j < 8 → ∃ kd, (fk 0)[j]? = some kd ∧ defaultValue (tyX0 j) = dv kd := fun j hj => by
  match j, hj with
  | 0, _ => exact ⟨_, rfl, rfl⟩
  | 1, _ => exact ⟨_, rfl, rfl⟩
  | 2, _ => exact ⟨_, rfl, rfl⟩
  | 3, _ => exact ⟨_, rfl, rfl⟩
  | 4, _ => exact ⟨_, rfl, rfl⟩
  | 5, _ => exact ⟨_, rfl, rfl⟩
  | 6, _ => exact ⟨_, rfl, rfl⟩
  | 7, _ => exact ⟨_, rfl, rfl⟩
  | n + 8, h => omega
theorem dvX1 : ∀ j, j < 2 → ∃ kd, (fk 1)[j]? = some kd ∧ defaultValue (tyX1 j) = dv kd := fun j hj => by
  match j, hj with
  | 0, _ => exact ⟨_, rfl, rfl⟩
  | 1, _ => exact ⟨_, rfl, rfl⟩
  | n + 2, h => omega
theorem dvX2 : ∀ j, j < 6 → ∃ kd, (fk 2)[j]? = some kd ∧ defaultValue (tyX2 j) = dv kd := fun j hj => by
  match j, hj with
  | 0, _ => exact ⟨_, rfl, rfl⟩
  | 1, _ => exact ⟨_, rfl, rfl⟩
  | 2, _ => exact ⟨_, rfl, rfl⟩
  | 3, _ => exact ⟨_, rfl, rfl⟩
  | 4, _ => exact ⟨_, rfl, rfl⟩
  | 5, _ => exact ⟨_, rfl, rfl⟩
  | n + 6, h => omega
theorem dvX3 : ∀ j, j < 10 → ∃ kd, (fk 3)[j]? = some kd ∧ defaultValue (tyX3 j) = dv kd := fun j hj => by
  match j, hj with
  | 0, _ => exact ⟨_, rfl, rfl⟩
  | 1, _ => exact ⟨_, rfl, rfl⟩
  | 2, _ => exact ⟨_, rfl, rfl⟩
  | 3, _ => exact ⟨_, rfl, rfl⟩
  | 4, _ => exact ⟨_, rfl, rfl⟩
  | 5, _ => exact ⟨_, rfl, rfl⟩
  | 6, _ => exact ⟨_, rfl, rfl⟩
  | 7, _ => exact ⟨_, rfl, rfl⟩
  | 8, _ => exact ⟨_, rfl, rfl⟩
  | 9, _ => exact ⟨_, rfl, rfl⟩
  | n + 10, h => omega
theorem dvX4 : ∀ j, j < 4 → ∃ kd, (fk 4)[j]? = some kd ∧ defaultValue (tyX4 j) = dv kd := fun j hj => by
  match j, hj with
  | 0, _ => exact ⟨_, rfl, rfl⟩
  | 1, _ => exact ⟨_, rfl, rfl⟩
  | 2, _ => exact ⟨_, rfl, rfl⟩
  | 3, _ => exact ⟨_, rfl, rfl⟩
  | n + 4, h => omega
theorem dvX5 : ∀ j, j < 9 → ∃ kd, (fk 5)[j]? = some kd ∧ defaultValue (tyX5 j) = dv kd := fun j hj => by
  match j, hj with
  | 0, _ => exact ⟨_, rfl, rfl⟩
  | 1, _ => exact ⟨_, rfl, rfl⟩
  | 2, _ => exact ⟨_, rfl, rfl⟩
  | 3, _ => exact ⟨_, rfl, rfl⟩
  | 4, _ => exact ⟨_, rfl, rfl⟩
  | 5, _ => exact ⟨_, rfl, rfl⟩
  | 6, _ => exact ⟨_, rfl, rfl⟩
  | 7, _ => exact ⟨_, rfl, rfl⟩
  | 8, _ => exact ⟨_, rfl, rfl⟩
  | n + 9, h => omega
theorem dvX6 : ∀ j, j < 4 → ∃ kd, (fk 6)[j]? = some kd ∧ defaultValue (tyX6 j) = dv kd := fun j hj => by
  match j, hj with
  | 0, _ => exact ⟨_, rfl, rfl⟩
  | 1, _ => exact ⟨_, rfl, rfl⟩
  | 2, _ => exact ⟨_, rfl, rfl⟩
  | 3, _ => exact ⟨_, rfl, rfl⟩
  | n + 4, h => omega
theorem dvX7 : ∀ j, j < 13 → ∃ kd, (fk 7)[j]? = some kd ∧ defaultValue (tyX7 j) = dv kd := fun j hj => by
  match j, hj with
  | 0, _ => exact ⟨_, rfl, rfl⟩
  | 1, _ => exact ⟨_, rfl, rfl⟩
  | 2, _ => exact ⟨_, rfl, rfl⟩
  | 3, _ => exact ⟨_, rfl, rfl⟩
  | 4, _ => exact ⟨_, rfl, rfl⟩
  | 5, _ => exact ⟨_, rfl, rfl⟩
  | 6, _ => exact ⟨_, rfl, rfl⟩
  | 7, _ => exact ⟨_, rfl, rfl⟩
  | 8, _ => exact ⟨_, rfl, rfl⟩
  | 9, _ => exact ⟨_, rfl, rfl⟩
  | 10, _ => exact ⟨_, rfl, rfl⟩
  | 11, _ => exact ⟨_, rfl, rfl⟩
  | 12, _ => exact ⟨_, rfl, rfl⟩
  | n + 13, h => omega
theorem dvX8 : ∀ j, j < 5 → ∃ kd, (fk 8)[j]? = some kd ∧ defaultValue (tyX8 j) = dv kd := fun j hj => by
  match j, hj with
  | 0, _ => exact ⟨_, rfl, rfl⟩
  | 1, _ => exact ⟨_, rfl, rfl⟩
  | 2, _ => exact ⟨_, rfl, rfl⟩
  | 3, _ => exact ⟨_, rfl, rfl⟩
  | 4, _ => exact ⟨_, rfl, rfl⟩
  | n + 5, h => omega
theorem dvX9 : ∀ j, j < 3 → ∃ kd, (fk 9)[j]? = some kd ∧ defaultValue (tyX9 j) = dv kd := fun j hj => by
  match j, hj with
  | 0, _ => exact ⟨_, rfl, rfl⟩
  | 1, _ => exact ⟨_, rfl, rfl⟩
  | 2, _ => exact ⟨_, rfl, rfl⟩
  | n + 3, h => omega
theorem dvX10 : ∀ j, j < 13 → ∃ kd, (fk 10)[j]? = some kd ∧ defaultValue (tyX10 j) = dv kd := fun j hj => by
  match j, hj with
  | 0, _ => exact ⟨_, rfl, rfl⟩
  | 1, _ => exact ⟨_, rfl, rfl⟩
  | 2, _ => exact ⟨_, rfl, rfl⟩
  | 3, _ => exact ⟨_, rfl, rfl⟩
  | 4, _ => exact ⟨_, rfl, rfl⟩
  | 5, _ => exact ⟨_, rfl, rfl⟩
  | 6, _ => exact ⟨_, rfl, rfl⟩
  | 7, _ => exact ⟨_, rfl, rfl⟩
  | 8, _ => exact ⟨_, rfl, rfl⟩
  | 9, _ => exact ⟨_, rfl, rfl⟩
  | 10, _ => exact ⟨_, rfl, rfl⟩
  | 11, _ => exact ⟨_, rfl, rfl⟩
  | 12, _ => exact ⟨_, rfl, rfl⟩
  | n + 13, h => omega
theorem dvX11 : ∀ j, j < 31 → ∃ kd, (fk 11)[j]? = some kd ∧ defaultValue (tyX11 j) = dv kd := fun j hj => by
  match j, hj with
  | 0, _ => exact ⟨_, rfl, rfl⟩
  | 1, _ => exact ⟨_, rfl, rfl⟩
  | 2, _ => exact ⟨_, rfl, rfl⟩
  | 3, _ => exact ⟨_, rfl, rfl⟩
  | 4, _ => exact ⟨_, rfl, rfl⟩
  | 5, _ => exact ⟨_, rfl, rfl⟩
  | 6, _ => exact ⟨_, rfl, rfl⟩
  | 7, _ => exact ⟨_, rfl, rfl⟩
  | 8, _ => exact ⟨_, rfl, rfl⟩
  | 9, _ => exact ⟨_, rfl, rfl⟩
  | 10, _ => exact ⟨_, rfl, rfl⟩
  | 11, _ => exact ⟨_, rfl, rfl⟩
  | 12, _ => exact ⟨_, rfl, rfl⟩
  | 13, _ => exact ⟨_, rfl, rfl⟩
  | 14, _ => exact ⟨_, rfl, rfl⟩
  | 15, _ => exact ⟨_, rfl, rfl⟩
  | 16, _ => exact ⟨_, rfl, rfl⟩
  | 17, _ => exact ⟨_, rfl, rfl⟩
  | 18, _ => exact ⟨_, rfl, rfl⟩
  | 19, _ => exact ⟨_, rfl, rfl⟩
  | 20, _ => exact ⟨_, rfl, rfl⟩
  | 21, _ => exact ⟨_, rfl, rfl⟩
  | 22, _ => exact ⟨_, rfl, rfl⟩
  | 23, _ => exact ⟨_, rfl, rfl⟩
  | 24, _ => exact ⟨_, rfl, rfl⟩
  | 25, _ => exact ⟨_, rfl, rfl⟩
  | 26, _ => exact ⟨_, rfl, rfl⟩
  | 27, _ => exact ⟨_, rfl, rfl⟩
  | 28, _ => exact ⟨_, rfl, rfl⟩
  | 29, _ => exact ⟨_, rfl, rfl⟩
  | 30, _ => exact ⟨_, rfl, rfl⟩
  | n + 31, h => omega
theorem ci_X5_init_1 {X : Nat → Int32} {L : Nat} : Ct (Wab 140 2) (2, 7, 48) mX5_init [.ref 1] (hS X L 39) (qW X L 133 9 35) := by
  refine Ct.of (by decide +kernel) (Nat.le_of_ble_eq_true rfl) ?_
  show Go (Wab 140 2) (2, 7, 48) mX5_init 0 [(0, .ref 1)] [] (hS X L 39) (qW X L 133 9 35)
  refine go_aload_n (pc2 := 1) dX5_init_0 rfl rfl rfl ?_
  refine go_obj (pc2 := 4) rfl dX5_init_1 rfl w_36 (by decide) (Nat.le_of_ble_eq_true rfl) ?_
  refine go_aload_n (pc2 := 5) dX5_init_4 rfl rfl rfl ?_
  refine go_iconst (pc2 := 6) (v := (4 : Int32)) dX5_init_5 rfl (by decide) ?_
  refine pf_97 (pc2 := 9) rfl dX5_init_6 rfl (Wab_c (by decide) c_1) (goH (hS_s (c := 38) rfl) ?_)
  refine go_aload_n (pc2 := 10) dX5_init_9 rfl rfl rfl ?_
  refine go_iconst (pc2 := 11) (v := (5 : Int32)) dX5_init_10 rfl (by decide) ?_
  refine n_arr (a := 140) (b := 2) (c := 38) (d := 2) (bc := 6) (bs := 43) (pc2 := 13) (t := 0) (N := 5) (by decide) rfl dX5_init_11 rfl (by decide) w_96 (by decide) (by decide) (by decide) c_2 (by decide +kernel) ?_
  refine ps_102 (pc2 := 16) rfl rfl dX5_init_13 rfl (Wab_c (by decide) c_1) (goW (Wab_s (a := 139) rfl) ?_)
  refine go_aload_n (pc2 := 17) dX5_init_16 rfl rfl rfl ?_
  refine go_iconst (pc2 := 18) (v := (5 : Int32)) dX5_init_17 rfl (by decide) ?_
  refine n_arr (a := 139) (b := 3) (c := 38) (d := 2) (bc := 5) (bs := 38) (pc2 := 20) (t := 0) (N := 5) (by decide) rfl dX5_init_18 rfl (by decide) w_96 (by decide) (by decide) (by decide) c_3 (by decide +kernel) ?_
  refine ps_107 (pc2 := 23) rfl rfl dX5_init_20 rfl (Wab_c (by decide) c_1) (goW (Wab_s (a := 138) rfl) ?_)
  refine go_aload_n (pc2 := 24) dX5_init_23 rfl rfl rfl ?_
  refine go_iconst (pc2 := 25) (v := (5 : Int32)) dX5_init_24 rfl (by decide) ?_
  refine n_arr (a := 138) (b := 4) (c := 38) (d := 2) (bc := 4) (bs := 33) (pc2 := 27) (t := 0) (N := 5) (by decide) rfl dX5_init_25 rfl (by decide) w_96 (by decide) (by decide) (by decide) c_4 (by decide +kernel) ?_
  refine ps_111 (pc2 := 30) rfl rfl dX5_init_27 rfl (Wab_c (by decide) c_1) (goW (Wab_s (a := 137) rfl) ?_)
  refine go_aload_n (pc2 := 31) dX5_init_30 rfl rfl rfl ?_
  refine go_iconst (pc2 := 32) (v := (3 : Int32)) dX5_init_31 rfl (by decide) ?_
  refine n_aarr (a := 137) (b := 5) (c := 38) (d := 2) (bc := 3) (bs := 30) (pc2 := 35) (t := 0) (N := 3) (by decide) rfl rfl dX5_init_32 rfl (by decide) w_37 (by decide) (by decide) (by decide) c_5 (by decide +kernel) (by decide +kernel) ?_
  refine ps_114 (pc2 := 38) rfl rfl dX5_init_35 rfl (Wab_c (by decide) c_1) (goW (Wab_s (a := 136) rfl) ?_)
  refine go_aload_n (pc2 := 39) dX5_init_38 rfl rfl rfl ?_
  refine go_iconst (pc2 := 40) (v := (0 : Int32)) dX5_init_39 rfl (by decide) ?_
  refine pf_120 (pc2 := 43) rfl dX5_init_40 rfl (Wab_c (by decide) c_1) (goH (hS_s (c := 37) rfl) ?_)
  refine go_aload_n (pc2 := 44) dX5_init_43 rfl rfl rfl ?_
  refine go_iconst (pc2 := 45) (v := (0 : Int32)) dX5_init_44 rfl (by decide) ?_
  refine pf_127 (pc2 := 48) rfl dX5_init_45 rfl (Wab_c (by decide) c_1) (goH (hS_s (c := 36) rfl) ?_)
  refine go_aload_n (pc2 := 49) dX5_init_48 rfl rfl rfl ?_
  refine go_iconst (pc2 := 50) (v := (1 : Int32)) dX5_init_49 rfl (by decide) ?_
  refine pf_130 (pc2 := 53) rfl dX5_init_50 rfl (Wab_c (by decide) c_1) (goH (hS_s (c := 35) rfl) ?_)
  refine go_aload_n (pc2 := 54) dX5_init_53 rfl rfl rfl ?_
  refine go_lconst (pc2 := 55) (v := (0 : Int64)) dX5_init_54 rfl (by decide) ?_
  refine pf_133 (pc2 := 58) rfl dX5_init_55 rfl (Wab_c (by decide) c_1) (goH hS_l ?_)
  refine go_iconst (pc2 := 59) (v := (0 : Int32)) dX5_init_58 rfl (by decide) ?_
  refine go_istore_n (pc2 := 60) (ls2 := [(0, .ref 1), (1, .int (0 : Int32))]) dX5_init_59 rfl rfl rfl rfl rfl rfl ?_
  refine go_iload_n (pc2 := 61) dX5_init_60 rfl rfl rfl ?_
  refine go_iconst (pc2 := 62) (v := (3 : Int32)) dX5_init_61 rfl (by decide) ?_
  refine go_icmp_ge (pc2 := 65) (tgt := 84) dX5_init_62 rfl (by decide) (fun q => absurd q (by decide)) (fun _ => ?_)
  refine go_aload_n (pc2 := 66) dX5_init_65 rfl rfl rfl ?_
  refine gf_114 (pc2 := 69) (v := .ref 5) rfl dX5_init_66 rfl (Wab_c (by decide) c_1) (fvs (by decide +kernel)) ?_
  refine go_iload_n (pc2 := 70) dX5_init_69 rfl rfl rfl ?_
  refine n_new (a := 136) (b := 6) (c := 35) (d := 2) (bc := 2) (bs := 20) (pc2 := 73) (ci := 3) (T := TX3) (N := 10) (C1 := RX3) tyX3 tyX3_ok dvX3 rfl dX5_init_70 rfl (by decide) (by decide) rfl inX3 w_37 w_39 w_3 c_6 (by decide +kernel) (by decide +kernel) ?_
  refine go_dup (pc2 := 74) dX5_init_73 rfl rfl ?_
  refine n_callN (a := 136) (b := 7) (c := 35) (a' := 136) (b' := 7) (c' := 35) (d := 2) (dC := 1) (bC := 0) (sC := 0) (b0 := 2) (s0 := 20) (pc2 := 77) (As := []) (st := [.ref 6, .int (0 : Int32), .ref 5]) rfl dX5_init_74 rfl w_40 ok_X3_init w_41 rfl rfl rfl (by decide) (Nat.le_of_ble_eq_true rfl) ct_X3i ?_
  refine go_aastore (pc2 := 78) (t := 0) (j := 0) dX5_init_77 rfl (by decide) (Wab_c (by decide) c_5) (Wab_c (by decide) c_6) (by decide) rfl rfl (vp_c rfl) rfl (goW (Wab_s (a := 135) rfl) ?_)
  refine go_iinc (pc2 := 81) (ls2 := [(0, .ref 1), (1, .int (1 : Int32))]) (v := (1 : Int32)) dX5_init_78 rfl rfl (by decide) rfl rfl rfl rfl ?_
  refine go_goto (tgt := 60) dX5_init_81 (by decide) ?_
  refine go_iload_n (pc2 := 61) dX5_init_60 rfl rfl rfl ?_
  refine go_iconst (pc2 := 62) (v := (3 : Int32)) dX5_init_61 rfl (by decide) ?_
  refine go_icmp_ge (pc2 := 65) (tgt := 84) dX5_init_62 rfl (by decide) (fun q => absurd q (by decide)) (fun _ => ?_)
  refine go_aload_n (pc2 := 66) dX5_init_65 rfl rfl rfl ?_
  refine gf_114 (pc2 := 69) (v := .ref 5) rfl dX5_init_66 rfl (Wab_c (by decide) c_1) (fvs (by decide +kernel)) ?_
  refine go_iload_n (pc2 := 70) dX5_init_69 rfl rfl rfl ?_
  refine n_new (a := 135) (b := 7) (c := 35) (d := 2) (bc := 1) (bs := 10) (pc2 := 73) (ci := 3) (T := TX3) (N := 10) (C1 := RX3) tyX3 tyX3_ok dvX3 rfl dX5_init_70 rfl (by decide) (by decide) rfl inX3 w_37 w_39 w_3 c_7 (by decide +kernel) (by decide +kernel) ?_
  refine go_dup (pc2 := 74) dX5_init_73 rfl rfl ?_
  refine n_callN (a := 135) (b := 8) (c := 35) (a' := 135) (b' := 8) (c' := 35) (d := 2) (dC := 1) (bC := 0) (sC := 0) (b0 := 1) (s0 := 10) (pc2 := 77) (As := []) (st := [.ref 7, .int (1 : Int32), .ref 5]) rfl dX5_init_74 rfl w_40 ok_X3_init w_41 rfl rfl rfl (by decide) (Nat.le_of_ble_eq_true rfl) ct_X3i ?_
  refine go_aastore (pc2 := 78) (t := 0) (j := 1) dX5_init_77 rfl (by decide) (Wab_c (by decide) c_5) (Wab_c (by decide) c_7) (by decide) rfl rfl (vp_c rfl) rfl (goW (Wab_s (a := 134) rfl) ?_)
  refine go_iinc (pc2 := 81) (ls2 := [(0, .ref 1), (1, .int (2 : Int32))]) (v := (2 : Int32)) dX5_init_78 rfl rfl (by decide) rfl rfl rfl rfl ?_
  refine go_goto (tgt := 60) dX5_init_81 (by decide) ?_
  refine go_iload_n (pc2 := 61) dX5_init_60 rfl rfl rfl ?_
  refine go_iconst (pc2 := 62) (v := (3 : Int32)) dX5_init_61 rfl (by decide) ?_
  refine go_icmp_ge (pc2 := 65) (tgt := 84) dX5_init_62 rfl (by decide) (fun q => absurd q (by decide)) (fun _ => ?_)
  refine go_aload_n (pc2 := 66) dX5_init_65 rfl rfl rfl ?_
  refine gf_114 (pc2 := 69) (v := .ref 5) rfl dX5_init_66 rfl (Wab_c (by decide) c_1) (fvs (by decide +kernel)) ?_
  refine go_iload_n (pc2 := 70) dX5_init_69 rfl rfl rfl ?_
  refine n_new (a := 134) (b := 8) (c := 35) (d := 2) (bc := 0) (bs := 0) (pc2 := 73) (ci := 3) (T := TX3) (N := 10) (C1 := RX3) tyX3 tyX3_ok dvX3 rfl dX5_init_70 rfl (by decide) (by decide) rfl inX3 w_37 w_39 w_3 c_8 (by decide +kernel) (by decide +kernel) ?_
  refine go_dup (pc2 := 74) dX5_init_73 rfl rfl ?_
  refine n_callN (a := 134) (b := 9) (c := 35) (a' := 134) (b' := 9) (c' := 35) (d := 2) (dC := 1) (bC := 0) (sC := 0) (b0 := 0) (s0 := 0) (pc2 := 77) (As := []) (st := [.ref 8, .int (2 : Int32), .ref 5]) rfl dX5_init_74 rfl w_40 ok_X3_init w_41 rfl rfl rfl (by decide) (Nat.le_of_ble_eq_true rfl) ct_X3i ?_
  refine go_aastore (pc2 := 78) (t := 0) (j := 2) dX5_init_77 rfl (by decide) (Wab_c (by decide) c_5) (Wab_c (by decide) c_8) (by decide) rfl rfl (vp_c rfl) rfl (goW (Wab_s (a := 133) rfl) ?_)
  refine go_iinc (pc2 := 81) (ls2 := [(0, .ref 1), (1, .int (3 : Int32))]) (v := (3 : Int32)) dX5_init_78 rfl rfl (by decide) rfl rfl rfl rfl ?_
  refine go_goto (tgt := 60) dX5_init_81 (by decide) ?_
  refine go_iload_n (pc2 := 61) dX5_init_60 rfl rfl rfl ?_
  refine go_iconst (pc2 := 62) (v := (3 : Int32)) dX5_init_61 rfl (by decide) ?_
  refine go_icmp_ge (pc2 := 65) (tgt := 84) dX5_init_62 rfl (by decide) (fun _ => ?_) (fun q => absurd (by decide) q)
  exact go_ret dX5_init_84 rfl ⟨rfl, rfl, rfl⟩
theorem ci_X5_init_9 {X : Nat → Int32} {L : Nat} : Ct (Wab 132 10) (2, 7, 48) mX5_init [.ref 9] (hS X L 35) (qW X L 125 17 31) := by
  refine Ct.of (by decide +kernel) (Nat.le_of_ble_eq_true rfl) ?_
  show Go (Wab 132 10) (2, 7, 48) mX5_init 0 [(0, .ref 9)] [] (hS X L 35) (qW X L 125 17 31)
  refine go_aload_n (pc2 := 1) dX5_init_0 rfl rfl rfl ?_
  refine go_obj (pc2 := 4) rfl dX5_init_1 rfl w_36 (by decide) (Nat.le_of_ble_eq_true rfl) ?_
  refine go_aload_n (pc2 := 5) dX5_init_4 rfl rfl rfl ?_
  refine go_iconst (pc2 := 6) (v := (4 : Int32)) dX5_init_5 rfl (by decide) ?_
  refine pf_97 (pc2 := 9) rfl dX5_init_6 rfl (Wab_c (by decide) c_9) (goH (hS_s (c := 34) rfl) ?_)
  refine go_aload_n (pc2 := 10) dX5_init_9 rfl rfl rfl ?_
  refine go_iconst (pc2 := 11) (v := (5 : Int32)) dX5_init_10 rfl (by decide) ?_
  refine n_arr (a := 132) (b := 10) (c := 34) (d := 2) (bc := 6) (bs := 43) (pc2 := 13) (t := 0) (N := 5) (by decide) rfl dX5_init_11 rfl (by decide) w_96 (by decide) (by decide) (by decide) c_10 (by decide +kernel) ?_
  refine ps_102 (pc2 := 16) rfl rfl dX5_init_13 rfl (Wab_c (by decide) c_9) (goW (Wab_s (a := 131) rfl) ?_)
  refine go_aload_n (pc2 := 17) dX5_init_16 rfl rfl rfl ?_
  refine go_iconst (pc2 := 18) (v := (5 : Int32)) dX5_init_17 rfl (by decide) ?_
  refine n_arr (a := 131) (b := 11) (c := 34) (d := 2) (bc := 5) (bs := 38) (pc2 := 20) (t := 0) (N := 5) (by decide) rfl dX5_init_18 rfl (by decide) w_96 (by decide) (by decide) (by decide) c_11 (by decide +kernel) ?_
  refine ps_107 (pc2 := 23) rfl rfl dX5_init_20 rfl (Wab_c (by decide) c_9) (goW (Wab_s (a := 130) rfl) ?_)
  refine go_aload_n (pc2 := 24) dX5_init_23 rfl rfl rfl ?_
  refine go_iconst (pc2 := 25) (v := (5 : Int32)) dX5_init_24 rfl (by decide) ?_
  refine n_arr (a := 130) (b := 12) (c := 34) (d := 2) (bc := 4) (bs := 33) (pc2 := 27) (t := 0) (N := 5) (by decide) rfl dX5_init_25 rfl (by decide) w_96 (by decide) (by decide) (by decide) c_12 (by decide +kernel) ?_
  refine ps_111 (pc2 := 30) rfl rfl dX5_init_27 rfl (Wab_c (by decide) c_9) (goW (Wab_s (a := 129) rfl) ?_)
  refine go_aload_n (pc2 := 31) dX5_init_30 rfl rfl rfl ?_
  refine go_iconst (pc2 := 32) (v := (3 : Int32)) dX5_init_31 rfl (by decide) ?_
  refine n_aarr (a := 129) (b := 13) (c := 34) (d := 2) (bc := 3) (bs := 30) (pc2 := 35) (t := 0) (N := 3) (by decide) rfl rfl dX5_init_32 rfl (by decide) w_37 (by decide) (by decide) (by decide) c_13 (by decide +kernel) (by decide +kernel) ?_
  refine ps_114 (pc2 := 38) rfl rfl dX5_init_35 rfl (Wab_c (by decide) c_9) (goW (Wab_s (a := 128) rfl) ?_)
  refine go_aload_n (pc2 := 39) dX5_init_38 rfl rfl rfl ?_
  refine go_iconst (pc2 := 40) (v := (0 : Int32)) dX5_init_39 rfl (by decide) ?_
  refine pf_120 (pc2 := 43) rfl dX5_init_40 rfl (Wab_c (by decide) c_9) (goH (hS_s (c := 33) rfl) ?_)
  refine go_aload_n (pc2 := 44) dX5_init_43 rfl rfl rfl ?_
  refine go_iconst (pc2 := 45) (v := (0 : Int32)) dX5_init_44 rfl (by decide) ?_
  refine pf_127 (pc2 := 48) rfl dX5_init_45 rfl (Wab_c (by decide) c_9) (goH (hS_s (c := 32) rfl) ?_)
  refine go_aload_n (pc2 := 49) dX5_init_48 rfl rfl rfl ?_
  refine go_iconst (pc2 := 50) (v := (1 : Int32)) dX5_init_49 rfl (by decide) ?_
  refine pf_130 (pc2 := 53) rfl dX5_init_50 rfl (Wab_c (by decide) c_9) (goH (hS_s (c := 31) rfl) ?_)
  refine go_aload_n (pc2 := 54) dX5_init_53 rfl rfl rfl ?_
  refine go_lconst (pc2 := 55) (v := (0 : Int64)) dX5_init_54 rfl (by decide) ?_
  refine pf_133 (pc2 := 58) rfl dX5_init_55 rfl (Wab_c (by decide) c_9) (goH hS_l ?_)
  refine go_iconst (pc2 := 59) (v := (0 : Int32)) dX5_init_58 rfl (by decide) ?_
  refine go_istore_n (pc2 := 60) (ls2 := [(0, .ref 9), (1, .int (0 : Int32))]) dX5_init_59 rfl rfl rfl rfl rfl rfl ?_
  refine go_iload_n (pc2 := 61) dX5_init_60 rfl rfl rfl ?_
  refine go_iconst (pc2 := 62) (v := (3 : Int32)) dX5_init_61 rfl (by decide) ?_
  refine go_icmp_ge (pc2 := 65) (tgt := 84) dX5_init_62 rfl (by decide) (fun q => absurd q (by decide)) (fun _ => ?_)
  refine go_aload_n (pc2 := 66) dX5_init_65 rfl rfl rfl ?_
  refine gf_114 (pc2 := 69) (v := .ref 13) rfl dX5_init_66 rfl (Wab_c (by decide) c_9) (fvs (by decide +kernel)) ?_
  refine go_iload_n (pc2 := 70) dX5_init_69 rfl rfl rfl ?_
  refine n_new (a := 128) (b := 14) (c := 31) (d := 2) (bc := 2) (bs := 20) (pc2 := 73) (ci := 3) (T := TX3) (N := 10) (C1 := RX3) tyX3 tyX3_ok dvX3 rfl dX5_init_70 rfl (by decide) (by decide) rfl inX3 w_37 w_39 w_3 c_14 (by decide +kernel) (by decide +kernel) ?_
  refine go_dup (pc2 := 74) dX5_init_73 rfl rfl ?_
  refine n_callN (a := 128) (b := 15) (c := 31) (a' := 128) (b' := 15) (c' := 31) (d := 2) (dC := 1) (bC := 0) (sC := 0) (b0 := 2) (s0 := 20) (pc2 := 77) (As := []) (st := [.ref 14, .int (0 : Int32), .ref 13]) rfl dX5_init_74 rfl w_40 ok_X3_init w_41 rfl rfl rfl (by decide) (Nat.le_of_ble_eq_true rfl) ct_X3i ?_
  refine go_aastore (pc2 := 78) (t := 0) (j := 0) dX5_init_77 rfl (by decide) (Wab_c (by decide) c_13) (Wab_c (by decide) c_14) (by decide) rfl rfl (vp_c rfl) rfl (goW (Wab_s (a := 127) rfl) ?_)
  refine go_iinc (pc2 := 81) (ls2 := [(0, .ref 9), (1, .int (1 : Int32))]) (v := (1 : Int32)) dX5_init_78 rfl rfl (by decide) rfl rfl rfl rfl ?_
  refine go_goto (tgt := 60) dX5_init_81 (by decide) ?_
  refine go_iload_n (pc2 := 61) dX5_init_60 rfl rfl rfl ?_
  refine go_iconst (pc2 := 62) (v := (3 : Int32)) dX5_init_61 rfl (by decide) ?_
  refine go_icmp_ge (pc2 := 65) (tgt := 84) dX5_init_62 rfl (by decide) (fun q => absurd q (by decide)) (fun _ => ?_)
  refine go_aload_n (pc2 := 66) dX5_init_65 rfl rfl rfl ?_
  refine gf_114 (pc2 := 69) (v := .ref 13) rfl dX5_init_66 rfl (Wab_c (by decide) c_9) (fvs (by decide +kernel)) ?_
  refine go_iload_n (pc2 := 70) dX5_init_69 rfl rfl rfl ?_
  refine n_new (a := 127) (b := 15) (c := 31) (d := 2) (bc := 1) (bs := 10) (pc2 := 73) (ci := 3) (T := TX3) (N := 10) (C1 := RX3) tyX3 tyX3_ok dvX3 rfl dX5_init_70 rfl (by decide) (by decide) rfl inX3 w_37 w_39 w_3 c_15 (by decide +kernel) (by decide +kernel) ?_
  refine go_dup (pc2 := 74) dX5_init_73 rfl rfl ?_
  refine n_callN (a := 127) (b := 16) (c := 31) (a' := 127) (b' := 16) (c' := 31) (d := 2) (dC := 1) (bC := 0) (sC := 0) (b0 := 1) (s0 := 10) (pc2 := 77) (As := []) (st := [.ref 15, .int (1 : Int32), .ref 13]) rfl dX5_init_74 rfl w_40 ok_X3_init w_41 rfl rfl rfl (by decide) (Nat.le_of_ble_eq_true rfl) ct_X3i ?_
  refine go_aastore (pc2 := 78) (t := 0) (j := 1) dX5_init_77 rfl (by decide) (Wab_c (by decide) c_13) (Wab_c (by decide) c_15) (by decide) rfl rfl (vp_c rfl) rfl (goW (Wab_s (a := 126) rfl) ?_)
  refine go_iinc (pc2 := 81) (ls2 := [(0, .ref 9), (1, .int (2 : Int32))]) (v := (2 : Int32)) dX5_init_78 rfl rfl (by decide) rfl rfl rfl rfl ?_
  refine go_goto (tgt := 60) dX5_init_81 (by decide) ?_
  refine go_iload_n (pc2 := 61) dX5_init_60 rfl rfl rfl ?_
  refine go_iconst (pc2 := 62) (v := (3 : Int32)) dX5_init_61 rfl (by decide) ?_
  refine go_icmp_ge (pc2 := 65) (tgt := 84) dX5_init_62 rfl (by decide) (fun q => absurd q (by decide)) (fun _ => ?_)
  refine go_aload_n (pc2 := 66) dX5_init_65 rfl rfl rfl ?_
  refine gf_114 (pc2 := 69) (v := .ref 13) rfl dX5_init_66 rfl (Wab_c (by decide) c_9) (fvs (by decide +kernel)) ?_
  refine go_iload_n (pc2 := 70) dX5_init_69 rfl rfl rfl ?_
  refine n_new (a := 126) (b := 16) (c := 31) (d := 2) (bc := 0) (bs := 0) (pc2 := 73) (ci := 3) (T := TX3) (N := 10) (C1 := RX3) tyX3 tyX3_ok dvX3 rfl dX5_init_70 rfl (by decide) (by decide) rfl inX3 w_37 w_39 w_3 c_16 (by decide +kernel) (by decide +kernel) ?_
  refine go_dup (pc2 := 74) dX5_init_73 rfl rfl ?_
  refine n_callN (a := 126) (b := 17) (c := 31) (a' := 126) (b' := 17) (c' := 31) (d := 2) (dC := 1) (bC := 0) (sC := 0) (b0 := 0) (s0 := 0) (pc2 := 77) (As := []) (st := [.ref 16, .int (2 : Int32), .ref 13]) rfl dX5_init_74 rfl w_40 ok_X3_init w_41 rfl rfl rfl (by decide) (Nat.le_of_ble_eq_true rfl) ct_X3i ?_
  refine go_aastore (pc2 := 78) (t := 0) (j := 2) dX5_init_77 rfl (by decide) (Wab_c (by decide) c_13) (Wab_c (by decide) c_16) (by decide) rfl rfl (vp_c rfl) rfl (goW (Wab_s (a := 125) rfl) ?_)
  refine go_iinc (pc2 := 81) (ls2 := [(0, .ref 9), (1, .int (3 : Int32))]) (v := (3 : Int32)) dX5_init_78 rfl rfl (by decide) rfl rfl rfl rfl ?_
  refine go_goto (tgt := 60) dX5_init_81 (by decide) ?_
  refine go_iload_n (pc2 := 61) dX5_init_60 rfl rfl rfl ?_
  refine go_iconst (pc2 := 62) (v := (3 : Int32)) dX5_init_61 rfl (by decide) ?_
  refine go_icmp_ge (pc2 := 65) (tgt := 84) dX5_init_62 rfl (by decide) (fun _ => ?_) (fun q => absurd (by decide) q)
  exact go_ret dX5_init_84 rfl ⟨rfl, rfl, rfl⟩
theorem ci_X5_init_17 {X : Nat → Int32} {L : Nat} : Ct (Wab 124 18) (2, 7, 48) mX5_init [.ref 17] (hS X L 31) (qW X L 117 25 27) := by
  refine Ct.of (by decide +kernel) (Nat.le_of_ble_eq_true rfl) ?_
  show Go (Wab 124 18) (2, 7, 48) mX5_init 0 [(0, .ref 17)] [] (hS X L 31) (qW X L 117 25 27)
  refine go_aload_n (pc2 := 1) dX5_init_0 rfl rfl rfl ?_
  refine go_obj (pc2 := 4) rfl dX5_init_1 rfl w_36 (by decide) (Nat.le_of_ble_eq_true rfl) ?_
  refine go_aload_n (pc2 := 5) dX5_init_4 rfl rfl rfl ?_
  refine go_iconst (pc2 := 6) (v := (4 : Int32)) dX5_init_5 rfl (by decide) ?_
  refine pf_97 (pc2 := 9) rfl dX5_init_6 rfl (Wab_c (by decide) c_17) (goH (hS_s (c := 30) rfl) ?_)
  refine go_aload_n (pc2 := 10) dX5_init_9 rfl rfl rfl ?_
  refine go_iconst (pc2 := 11) (v := (5 : Int32)) dX5_init_10 rfl (by decide) ?_
  refine n_arr (a := 124) (b := 18) (c := 30) (d := 2) (bc := 6) (bs := 43) (pc2 := 13) (t := 0) (N := 5) (by decide) rfl dX5_init_11 rfl (by decide) w_96 (by decide) (by decide) (by decide) c_18 (by decide +kernel) ?_
  refine ps_102 (pc2 := 16) rfl rfl dX5_init_13 rfl (Wab_c (by decide) c_17) (goW (Wab_s (a := 123) rfl) ?_)
  refine go_aload_n (pc2 := 17) dX5_init_16 rfl rfl rfl ?_
  refine go_iconst (pc2 := 18) (v := (5 : Int32)) dX5_init_17 rfl (by decide) ?_
  refine n_arr (a := 123) (b := 19) (c := 30) (d := 2) (bc := 5) (bs := 38) (pc2 := 20) (t := 0) (N := 5) (by decide) rfl dX5_init_18 rfl (by decide) w_96 (by decide) (by decide) (by decide) c_19 (by decide +kernel) ?_
  refine ps_107 (pc2 := 23) rfl rfl dX5_init_20 rfl (Wab_c (by decide) c_17) (goW (Wab_s (a := 122) rfl) ?_)
  refine go_aload_n (pc2 := 24) dX5_init_23 rfl rfl rfl ?_
  refine go_iconst (pc2 := 25) (v := (5 : Int32)) dX5_init_24 rfl (by decide) ?_
  refine n_arr (a := 122) (b := 20) (c := 30) (d := 2) (bc := 4) (bs := 33) (pc2 := 27) (t := 0) (N := 5) (by decide) rfl dX5_init_25 rfl (by decide) w_96 (by decide) (by decide) (by decide) c_20 (by decide +kernel) ?_
  refine ps_111 (pc2 := 30) rfl rfl dX5_init_27 rfl (Wab_c (by decide) c_17) (goW (Wab_s (a := 121) rfl) ?_)
  refine go_aload_n (pc2 := 31) dX5_init_30 rfl rfl rfl ?_
  refine go_iconst (pc2 := 32) (v := (3 : Int32)) dX5_init_31 rfl (by decide) ?_
  refine n_aarr (a := 121) (b := 21) (c := 30) (d := 2) (bc := 3) (bs := 30) (pc2 := 35) (t := 0) (N := 3) (by decide) rfl rfl dX5_init_32 rfl (by decide) w_37 (by decide) (by decide) (by decide) c_21 (by decide +kernel) (by decide +kernel) ?_
  refine ps_114 (pc2 := 38) rfl rfl dX5_init_35 rfl (Wab_c (by decide) c_17) (goW (Wab_s (a := 120) rfl) ?_)
  refine go_aload_n (pc2 := 39) dX5_init_38 rfl rfl rfl ?_
  refine go_iconst (pc2 := 40) (v := (0 : Int32)) dX5_init_39 rfl (by decide) ?_
  refine pf_120 (pc2 := 43) rfl dX5_init_40 rfl (Wab_c (by decide) c_17) (goH (hS_s (c := 29) rfl) ?_)
  refine go_aload_n (pc2 := 44) dX5_init_43 rfl rfl rfl ?_
  refine go_iconst (pc2 := 45) (v := (0 : Int32)) dX5_init_44 rfl (by decide) ?_
  refine pf_127 (pc2 := 48) rfl dX5_init_45 rfl (Wab_c (by decide) c_17) (goH (hS_s (c := 28) rfl) ?_)
  refine go_aload_n (pc2 := 49) dX5_init_48 rfl rfl rfl ?_
  refine go_iconst (pc2 := 50) (v := (1 : Int32)) dX5_init_49 rfl (by decide) ?_
  refine pf_130 (pc2 := 53) rfl dX5_init_50 rfl (Wab_c (by decide) c_17) (goH (hS_s (c := 27) rfl) ?_)
  refine go_aload_n (pc2 := 54) dX5_init_53 rfl rfl rfl ?_
  refine go_lconst (pc2 := 55) (v := (0 : Int64)) dX5_init_54 rfl (by decide) ?_
  refine pf_133 (pc2 := 58) rfl dX5_init_55 rfl (Wab_c (by decide) c_17) (goH hS_l ?_)
  refine go_iconst (pc2 := 59) (v := (0 : Int32)) dX5_init_58 rfl (by decide) ?_
  refine go_istore_n (pc2 := 60) (ls2 := [(0, .ref 17), (1, .int (0 : Int32))]) dX5_init_59 rfl rfl rfl rfl rfl rfl ?_
  refine go_iload_n (pc2 := 61) dX5_init_60 rfl rfl rfl ?_
  refine go_iconst (pc2 := 62) (v := (3 : Int32)) dX5_init_61 rfl (by decide) ?_
  refine go_icmp_ge (pc2 := 65) (tgt := 84) dX5_init_62 rfl (by decide) (fun q => absurd q (by decide)) (fun _ => ?_)
  refine go_aload_n (pc2 := 66) dX5_init_65 rfl rfl rfl ?_
  refine gf_114 (pc2 := 69) (v := .ref 21) rfl dX5_init_66 rfl (Wab_c (by decide) c_17) (fvs (by decide +kernel)) ?_
  refine go_iload_n (pc2 := 70) dX5_init_69 rfl rfl rfl ?_
  refine n_new (a := 120) (b := 22) (c := 27) (d := 2) (bc := 2) (bs := 20) (pc2 := 73) (ci := 3) (T := TX3) (N := 10) (C1 := RX3) tyX3 tyX3_ok dvX3 rfl dX5_init_70 rfl (by decide) (by decide) rfl inX3 w_37 w_39 w_3 c_22 (by decide +kernel) (by decide +kernel) ?_
  refine go_dup (pc2 := 74) dX5_init_73 rfl rfl ?_
  refine n_callN (a := 120) (b := 23) (c := 27) (a' := 120) (b' := 23) (c' := 27) (d := 2) (dC := 1) (bC := 0) (sC := 0) (b0 := 2) (s0 := 20) (pc2 := 77) (As := []) (st := [.ref 22, .int (0 : Int32), .ref 21]) rfl dX5_init_74 rfl w_40 ok_X3_init w_41 rfl rfl rfl (by decide) (Nat.le_of_ble_eq_true rfl) ct_X3i ?_
  refine go_aastore (pc2 := 78) (t := 0) (j := 0) dX5_init_77 rfl (by decide) (Wab_c (by decide) c_21) (Wab_c (by decide) c_22) (by decide) rfl rfl (vp_c rfl) rfl (goW (Wab_s (a := 119) rfl) ?_)
  refine go_iinc (pc2 := 81) (ls2 := [(0, .ref 17), (1, .int (1 : Int32))]) (v := (1 : Int32)) dX5_init_78 rfl rfl (by decide) rfl rfl rfl rfl ?_
  refine go_goto (tgt := 60) dX5_init_81 (by decide) ?_
  refine go_iload_n (pc2 := 61) dX5_init_60 rfl rfl rfl ?_
  refine go_iconst (pc2 := 62) (v := (3 : Int32)) dX5_init_61 rfl (by decide) ?_
  refine go_icmp_ge (pc2 := 65) (tgt := 84) dX5_init_62 rfl (by decide) (fun q => absurd q (by decide)) (fun _ => ?_)
  refine go_aload_n (pc2 := 66) dX5_init_65 rfl rfl rfl ?_
  refine gf_114 (pc2 := 69) (v := .ref 21) rfl dX5_init_66 rfl (Wab_c (by decide) c_17) (fvs (by decide +kernel)) ?_
  refine go_iload_n (pc2 := 70) dX5_init_69 rfl rfl rfl ?_
  refine n_new (a := 119) (b := 23) (c := 27) (d := 2) (bc := 1) (bs := 10) (pc2 := 73) (ci := 3) (T := TX3) (N := 10) (C1 := RX3) tyX3 tyX3_ok dvX3 rfl dX5_init_70 rfl (by decide) (by decide) rfl inX3 w_37 w_39 w_3 c_23 (by decide +kernel) (by decide +kernel) ?_
  refine go_dup (pc2 := 74) dX5_init_73 rfl rfl ?_
  refine n_callN (a := 119) (b := 24) (c := 27) (a' := 119) (b' := 24) (c' := 27) (d := 2) (dC := 1) (bC := 0) (sC := 0) (b0 := 1) (s0 := 10) (pc2 := 77) (As := []) (st := [.ref 23, .int (1 : Int32), .ref 21]) rfl dX5_init_74 rfl w_40 ok_X3_init w_41 rfl rfl rfl (by decide) (Nat.le_of_ble_eq_true rfl) ct_X3i ?_
  refine go_aastore (pc2 := 78) (t := 0) (j := 1) dX5_init_77 rfl (by decide) (Wab_c (by decide) c_21) (Wab_c (by decide) c_23) (by decide) rfl rfl (vp_c rfl) rfl (goW (Wab_s (a := 118) rfl) ?_)
  refine go_iinc (pc2 := 81) (ls2 := [(0, .ref 17), (1, .int (2 : Int32))]) (v := (2 : Int32)) dX5_init_78 rfl rfl (by decide) rfl rfl rfl rfl ?_
  refine go_goto (tgt := 60) dX5_init_81 (by decide) ?_
  refine go_iload_n (pc2 := 61) dX5_init_60 rfl rfl rfl ?_
  refine go_iconst (pc2 := 62) (v := (3 : Int32)) dX5_init_61 rfl (by decide) ?_
  refine go_icmp_ge (pc2 := 65) (tgt := 84) dX5_init_62 rfl (by decide) (fun q => absurd q (by decide)) (fun _ => ?_)
  refine go_aload_n (pc2 := 66) dX5_init_65 rfl rfl rfl ?_
  refine gf_114 (pc2 := 69) (v := .ref 21) rfl dX5_init_66 rfl (Wab_c (by decide) c_17) (fvs (by decide +kernel)) ?_
  refine go_iload_n (pc2 := 70) dX5_init_69 rfl rfl rfl ?_
  refine n_new (a := 118) (b := 24) (c := 27) (d := 2) (bc := 0) (bs := 0) (pc2 := 73) (ci := 3) (T := TX3) (N := 10) (C1 := RX3) tyX3 tyX3_ok dvX3 rfl dX5_init_70 rfl (by decide) (by decide) rfl inX3 w_37 w_39 w_3 c_24 (by decide +kernel) (by decide +kernel) ?_
  refine go_dup (pc2 := 74) dX5_init_73 rfl rfl ?_
  refine n_callN (a := 118) (b := 25) (c := 27) (a' := 118) (b' := 25) (c' := 27) (d := 2) (dC := 1) (bC := 0) (sC := 0) (b0 := 0) (s0 := 0) (pc2 := 77) (As := []) (st := [.ref 24, .int (2 : Int32), .ref 21]) rfl dX5_init_74 rfl w_40 ok_X3_init w_41 rfl rfl rfl (by decide) (Nat.le_of_ble_eq_true rfl) ct_X3i ?_
  refine go_aastore (pc2 := 78) (t := 0) (j := 2) dX5_init_77 rfl (by decide) (Wab_c (by decide) c_21) (Wab_c (by decide) c_24) (by decide) rfl rfl (vp_c rfl) rfl (goW (Wab_s (a := 117) rfl) ?_)
  refine go_iinc (pc2 := 81) (ls2 := [(0, .ref 17), (1, .int (3 : Int32))]) (v := (3 : Int32)) dX5_init_78 rfl rfl (by decide) rfl rfl rfl rfl ?_
  refine go_goto (tgt := 60) dX5_init_81 (by decide) ?_
  refine go_iload_n (pc2 := 61) dX5_init_60 rfl rfl rfl ?_
  refine go_iconst (pc2 := 62) (v := (3 : Int32)) dX5_init_61 rfl (by decide) ?_
  refine go_icmp_ge (pc2 := 65) (tgt := 84) dX5_init_62 rfl (by decide) (fun _ => ?_) (fun q => absurd (by decide) q)
  exact go_ret dX5_init_84 rfl ⟨rfl, rfl, rfl⟩
theorem ci_X8_init_25 {X : Nat → Int32} {L : Nat} : Ct (Wab 116 26) (1, 2, 124) mX8_init [.ref 25] (hS X L 26) (qW X L 114 28 23) := by
  refine Ct.of (by decide +kernel) (Nat.le_of_ble_eq_true rfl) ?_
  show Go (Wab 116 26) (1, 2, 124) mX8_init 0 [(0, .ref 25)] [] (hS X L 26) (qW X L 114 28 23)
  refine go_aload_n (pc2 := 1) dX8_init_0 rfl rfl rfl ?_
  refine go_obj (pc2 := 4) rfl dX8_init_1 rfl w_159 (by decide) (Nat.le_of_ble_eq_true rfl) ?_
  refine go_aload_n (pc2 := 5) dX8_init_4 rfl rfl rfl ?_
  refine go_bipush (pc2 := 7) (v := (120 : Int32)) dX8_init_5 rfl (by decide) ?_
  refine n_arr (a := 116) (b := 26) (c := 26) (d := 1) (bc := 1) (bs := 4) (pc2 := 9) (t := 0) (N := 120) (by decide) rfl dX8_init_7 rfl (by decide) w_96 (by decide) (by decide) (by decide) c_26 (by decide +kernel) ?_
  refine ps_160 (pc2 := 12) rfl rfl dX8_init_9 rfl (Wab_c (by decide) c_25) (goW (Wab_s (a := 115) rfl) ?_)
  refine go_aload_n (pc2 := 13) dX8_init_12 rfl rfl rfl ?_
  refine go_iconst (pc2 := 14) (v := (0 : Int32)) dX8_init_13 rfl (by decide) ?_
  refine pf_161 (pc2 := 17) rfl dX8_init_14 rfl (Wab_c (by decide) c_25) (goH (hS_s (c := 25) rfl) ?_)
  refine go_aload_n (pc2 := 18) dX8_init_17 rfl rfl rfl ?_
  refine go_iconst (pc2 := 19) (v := (0 : Int32)) dX8_init_18 rfl (by decide) ?_
  refine pf_163 (pc2 := 22) rfl dX8_init_19 rfl (Wab_c (by decide) c_25) (goH (hS_s (c := 24) rfl) ?_)
  refine go_aload_n (pc2 := 23) dX8_init_22 rfl rfl rfl ?_
  refine go_iconst (pc2 := 24) (v := (1 : Int32)) dX8_init_23 rfl (by decide) ?_
  refine pf_164 (pc2 := 27) rfl dX8_init_24 rfl (Wab_c (by decide) c_25) (goH (hS_s (c := 23) rfl) ?_)
  refine go_aload_n (pc2 := 28) dX8_init_27 rfl rfl rfl ?_
  refine go_iconst (pc2 := 29) (v := (4 : Int32)) dX8_init_28 rfl (by decide) ?_
  refine n_arr (a := 115) (b := 27) (c := 23) (d := 1) (bc := 0) (bs := 0) (pc2 := 31) (t := 0) (N := 4) (by decide) rfl dX8_init_29 rfl (by decide) w_96 (by decide) (by decide) (by decide) c_27 (by decide +kernel) ?_
  refine ps_165 (pc2 := 34) rfl rfl dX8_init_31 rfl (Wab_c (by decide) c_25) (goW (Wab_s (a := 114) rfl) ?_)
  exact go_ret dX8_init_34 rfl ⟨rfl, rfl, rfl⟩
theorem ci_X0_init_28 {X : Nat → Int32} {L : Nat} : Ct (Wab 113 29) (1, 7, 21) mX0_init [.ref 28] (hS X L 23) (qW X L 106 36 22) := by
  refine Ct.of (by decide +kernel) (Nat.le_of_ble_eq_true rfl) ?_
  show Go (Wab 113 29) (1, 7, 21) mX0_init 0 [(0, .ref 28)] [] (hS X L 23) (qW X L 106 36 22)
  refine go_aload_n (pc2 := 1) dX0_init_0 rfl rfl rfl ?_
  refine go_obj (pc2 := 4) rfl dX0_init_1 rfl w_182 (by decide) (Nat.le_of_ble_eq_true rfl) ?_
  refine go_aload_n (pc2 := 5) dX0_init_4 rfl rfl rfl ?_
  refine go_iconst (pc2 := 6) (v := (3 : Int32)) dX0_init_5 rfl (by decide) ?_
  refine n_arr (a := 113) (b := 29) (c := 23) (d := 1) (bc := 6) (bs := 18) (pc2 := 8) (t := 0) (N := 3) (by decide) rfl dX0_init_6 rfl (by decide) w_96 (by decide) (by decide) (by decide) c_29 (by decide +kernel) ?_
  refine ps_183 (pc2 := 11) rfl rfl dX0_init_8 rfl (Wab_c (by decide) c_28) (goW (Wab_s (a := 112) rfl) ?_)
  refine go_aload_n (pc2 := 12) dX0_init_11 rfl rfl rfl ?_
  refine go_iconst (pc2 := 13) (v := (3 : Int32)) dX0_init_12 rfl (by decide) ?_
  refine n_arr (a := 112) (b := 30) (c := 23) (d := 1) (bc := 5) (bs := 15) (pc2 := 15) (t := 0) (N := 3) (by decide) rfl dX0_init_13 rfl (by decide) w_96 (by decide) (by decide) (by decide) c_30 (by decide +kernel) ?_
  refine ps_184 (pc2 := 18) rfl rfl dX0_init_15 rfl (Wab_c (by decide) c_28) (goW (Wab_s (a := 111) rfl) ?_)
  refine go_aload_n (pc2 := 19) dX0_init_18 rfl rfl rfl ?_
  refine go_iconst (pc2 := 20) (v := (3 : Int32)) dX0_init_19 rfl (by decide) ?_
  refine n_arr (a := 111) (b := 31) (c := 23) (d := 1) (bc := 4) (bs := 12) (pc2 := 22) (t := 0) (N := 3) (by decide) rfl dX0_init_20 rfl (by decide) w_96 (by decide) (by decide) (by decide) c_31 (by decide +kernel) ?_
  refine ps_185 (pc2 := 25) rfl rfl dX0_init_22 rfl (Wab_c (by decide) c_28) (goW (Wab_s (a := 110) rfl) ?_)
  refine go_aload_n (pc2 := 26) dX0_init_25 rfl rfl rfl ?_
  refine go_iconst (pc2 := 27) (v := (3 : Int32)) dX0_init_26 rfl (by decide) ?_
  refine n_arr (a := 110) (b := 32) (c := 23) (d := 1) (bc := 3) (bs := 9) (pc2 := 29) (t := 0) (N := 3) (by decide) rfl dX0_init_27 rfl (by decide) w_96 (by decide) (by decide) (by decide) c_32 (by decide +kernel) ?_
  refine ps_186 (pc2 := 32) rfl rfl dX0_init_29 rfl (Wab_c (by decide) c_28) (goW (Wab_s (a := 109) rfl) ?_)
  refine go_aload_n (pc2 := 33) dX0_init_32 rfl rfl rfl ?_
  refine go_iconst (pc2 := 34) (v := (3 : Int32)) dX0_init_33 rfl (by decide) ?_
  refine n_arr (a := 109) (b := 33) (c := 23) (d := 1) (bc := 2) (bs := 6) (pc2 := 36) (t := 0) (N := 3) (by decide) rfl dX0_init_34 rfl (by decide) w_96 (by decide) (by decide) (by decide) c_33 (by decide +kernel) ?_
  refine ps_187 (pc2 := 39) rfl rfl dX0_init_36 rfl (Wab_c (by decide) c_28) (goW (Wab_s (a := 108) rfl) ?_)
  refine go_aload_n (pc2 := 40) dX0_init_39 rfl rfl rfl ?_
  refine go_iconst (pc2 := 41) (v := (3 : Int32)) dX0_init_40 rfl (by decide) ?_
  refine n_arr (a := 108) (b := 34) (c := 23) (d := 1) (bc := 1) (bs := 3) (pc2 := 43) (t := 0) (N := 3) (by decide) rfl dX0_init_41 rfl (by decide) w_96 (by decide) (by decide) (by decide) c_34 (by decide +kernel) ?_
  refine ps_188 (pc2 := 46) rfl rfl dX0_init_43 rfl (Wab_c (by decide) c_28) (goW (Wab_s (a := 107) rfl) ?_)
  refine go_aload_n (pc2 := 47) dX0_init_46 rfl rfl rfl ?_
  refine go_iconst (pc2 := 48) (v := (3 : Int32)) dX0_init_47 rfl (by decide) ?_
  refine n_arr (a := 107) (b := 35) (c := 23) (d := 1) (bc := 0) (bs := 0) (pc2 := 50) (t := 0) (N := 3) (by decide) rfl dX0_init_48 rfl (by decide) w_96 (by decide) (by decide) (by decide) c_35 (by decide +kernel) ?_
  refine ps_189 (pc2 := 53) rfl rfl dX0_init_50 rfl (Wab_c (by decide) c_28) (goW (Wab_s (a := 106) rfl) ?_)
  refine go_aload_n (pc2 := 54) dX0_init_53 rfl rfl rfl ?_
  refine go_iconst (pc2 := 55) (v := (0 : Int32)) dX0_init_54 rfl (by decide) ?_
  refine pf_191 (pc2 := 58) rfl dX0_init_55 rfl (Wab_c (by decide) c_28) (goH (hS_s (c := 22) rfl) ?_)
  exact go_ret dX0_init_58 rfl ⟨rfl, rfl, rfl⟩
theorem ci_X9_init_36 {X : Nat → Int32} {L : Nat} : Ct (Wab 105 37) (1, 1, 3) mX9_init [.ref 36, .ref 1, .ref 28] (hS X L 22) (qW X L 102 38 22) := by
  refine Ct.of (by decide +kernel) (Nat.le_of_ble_eq_true rfl) ?_
  show Go (Wab 105 37) (1, 1, 3) mX9_init 0 [(0, .ref 36), (1, .ref 1), (2, .ref 28)] [] (hS X L 22) (qW X L 102 38 22)
  refine go_aload_n (pc2 := 1) dX9_init_0 rfl rfl rfl ?_
  refine go_obj (pc2 := 4) rfl dX9_init_1 rfl w_214 (by decide) (Nat.le_of_ble_eq_true rfl) ?_
  refine go_aload_n (pc2 := 5) dX9_init_4 rfl rfl rfl ?_
  refine go_iconst (pc2 := 6) (v := (3 : Int32)) dX9_init_5 rfl (by decide) ?_
  refine n_arr (a := 105) (b := 37) (c := 22) (d := 1) (bc := 0) (bs := 0) (pc2 := 8) (t := 0) (N := 3) (by decide) rfl dX9_init_6 rfl (by decide) w_96 (by decide) (by decide) (by decide) c_37 (by decide +kernel) ?_
  refine ps_217 (pc2 := 11) rfl rfl dX9_init_8 rfl (Wab_c (by decide) c_36) (goW (Wab_s (a := 104) rfl) ?_)
  refine go_aload_n (pc2 := 12) dX9_init_11 rfl rfl rfl ?_
  refine go_aload_n (pc2 := 13) dX9_init_12 rfl rfl rfl ?_
  refine ps_216 (pc2 := 16) rfl rfl dX9_init_13 rfl (Wab_c (by decide) c_36) (goW (Wab_s (a := 103) rfl) ?_)
  refine go_aload_n (pc2 := 17) dX9_init_16 rfl rfl rfl ?_
  refine go_aload_n (pc2 := 18) dX9_init_17 rfl rfl rfl ?_
  refine ps_215 (pc2 := 21) rfl rfl dX9_init_18 rfl (Wab_c (by decide) c_36) (goW (Wab_s (a := 102) rfl) ?_)
  exact go_ret dX9_init_21 rfl ⟨rfl, rfl, rfl⟩
theorem ci_X7_init_38 {X : Nat → Int32} {L : Nat} : Ct (Wab 101 39) (1, 19, 864) mX7_init [.ref 38, .ref 1, .ref 28] (hS X L 22) (qW X L 82 58 19) := by
  refine Ct.of (by decide +kernel) (Nat.le_of_ble_eq_true rfl) ?_
  show Go (Wab 101 39) (1, 19, 864) mX7_init 0 [(0, .ref 38), (1, .ref 1), (2, .ref 28)] [] (hS X L 22) (qW X L 82 58 19)
  refine go_aload_n (pc2 := 1) dX7_init_0 rfl rfl rfl ?_
  refine go_obj (pc2 := 4) rfl dX7_init_1 rfl w_230 (by decide) (Nat.le_of_ble_eq_true rfl) ?_
  refine go_aload_n (pc2 := 5) dX7_init_4 rfl rfl rfl ?_
  refine go_iconst (pc2 := 6) (v := (5 : Int32)) dX7_init_5 rfl (by decide) ?_
  refine n_arr (a := 101) (b := 39) (c := 22) (d := 1) (bc := 18) (bs := 859) (pc2 := 8) (t := 0) (N := 5) (by decide) rfl dX7_init_6 rfl (by decide) w_96 (by decide) (by decide) (by decide) c_39 (by decide +kernel) ?_
  refine ps_235 (pc2 := 11) rfl rfl dX7_init_8 rfl (Wab_c (by decide) c_38) (goW (Wab_s (a := 100) rfl) ?_)
  refine go_aload_n (pc2 := 12) dX7_init_11 rfl rfl rfl ?_
  refine go_iconst (pc2 := 13) (v := (5 : Int32)) dX7_init_12 rfl (by decide) ?_
  refine n_arr (a := 100) (b := 40) (c := 22) (d := 1) (bc := 17) (bs := 854) (pc2 := 15) (t := 0) (N := 5) (by decide) rfl dX7_init_13 rfl (by decide) w_96 (by decide) (by decide) (by decide) c_40 (by decide +kernel) ?_
  refine ps_237 (pc2 := 18) rfl rfl dX7_init_15 rfl (Wab_c (by decide) c_38) (goW (Wab_s (a := 99) rfl) ?_)
  refine go_aload_n (pc2 := 19) dX7_init_18 rfl rfl rfl ?_
  refine go_iconst (pc2 := 20) (v := (0 : Int32)) dX7_init_19 rfl (by decide) ?_
  refine pf_239 (pc2 := 23) rfl dX7_init_20 rfl (Wab_c (by decide) c_38) (goH (hS_s (c := 21) rfl) ?_)
  refine go_aload_n (pc2 := 24) dX7_init_23 rfl rfl rfl ?_
  refine go_iconst (pc2 := 25) (v := (3 : Int32)) dX7_init_24 rfl (by decide) ?_
  refine n_arr (a := 99) (b := 41) (c := 21) (d := 1) (bc := 16) (bs := 851) (pc2 := 27) (t := 0) (N := 3) (by decide) rfl dX7_init_25 rfl (by decide) w_96 (by decide) (by decide) (by decide) c_41 (by decide +kernel) ?_
  refine ps_241 (pc2 := 30) rfl rfl dX7_init_27 rfl (Wab_c (by decide) c_38) (goW (Wab_s (a := 98) rfl) ?_)
  refine go_aload_n (pc2 := 31) dX7_init_30 rfl rfl rfl ?_
  refine go_iconst (pc2 := 32) (v := (3 : Int32)) dX7_init_31 rfl (by decide) ?_
  refine n_arr (a := 98) (b := 42) (c := 21) (d := 1) (bc := 15) (bs := 848) (pc2 := 34) (t := 0) (N := 3) (by decide) rfl dX7_init_32 rfl (by decide) w_96 (by decide) (by decide) (by decide) c_42 (by decide +kernel) ?_
  refine ps_243 (pc2 := 37) rfl rfl dX7_init_34 rfl (Wab_c (by decide) c_38) (goW (Wab_s (a := 97) rfl) ?_)
  refine go_aload_n (pc2 := 38) dX7_init_37 rfl rfl rfl ?_
  refine go_iconst (pc2 := 39) (v := (3 : Int32)) dX7_init_38 rfl (by decide) ?_
  refine go_bipush (pc2 := 41) (v := (14 : Int32)) dX7_init_39 rfl (by decide) ?_
  refine n_mna (a := 94) (b := 43) (c := 21) (d := 1) (bc := 11) (bs := 803) (pc2 := 45) rfl dX7_init_41 rfl w_231 w_96 c_43 c_44 c_45 c_46 rfl rfl rfl (by decide +kernel) (by decide +kernel) (by decide) (by decide) ?_
  refine ps_244 (pc2 := 48) rfl rfl dX7_init_45 rfl (Wab_c (by decide) c_38) (goW (Wab_s (a := 93) rfl) ?_)
  refine go_aload_n (pc2 := 49) dX7_init_48 rfl rfl rfl ?_
  refine go_iconst (pc2 := 50) (v := (3 : Int32)) dX7_init_49 rfl (by decide) ?_
  refine go_bipush (pc2 := 52) (v := (14 : Int32)) dX7_init_50 rfl (by decide) ?_
  refine n_mna (a := 90) (b := 47) (c := 21) (d := 1) (bc := 7) (bs := 758) (pc2 := 56) rfl dX7_init_52 rfl w_231 w_96 c_47 c_48 c_49 c_50 rfl rfl rfl (by decide +kernel) (by decide +kernel) (by decide) (by decide) ?_
  refine ps_245 (pc2 := 59) rfl rfl dX7_init_56 rfl (Wab_c (by decide) c_38) (goW (Wab_s (a := 89) rfl) ?_)
  refine go_aload_n (pc2 := 60) dX7_init_59 rfl rfl rfl ?_
  refine go_iconst (pc2 := 61) (v := (3 : Int32)) dX7_init_60 rfl (by decide) ?_
  refine go_bipush (pc2 := 63) (v := (14 : Int32)) dX7_init_61 rfl (by decide) ?_
  refine n_mna (a := 86) (b := 51) (c := 21) (d := 1) (bc := 3) (bs := 713) (pc2 := 67) rfl dX7_init_63 rfl w_231 w_96 c_51 c_52 c_53 c_54 rfl rfl rfl (by decide +kernel) (by decide +kernel) (by decide) (by decide) ?_
  refine ps_246 (pc2 := 70) rfl rfl dX7_init_67 rfl (Wab_c (by decide) c_38) (goW (Wab_s (a := 85) rfl) ?_)
  refine go_aload_n (pc2 := 71) dX7_init_70 rfl rfl rfl ?_
  refine go_bipush (pc2 := 73) (v := (27 : Int32)) dX7_init_71 rfl (by decide) ?_
  refine n_arr (a := 85) (b := 55) (c := 21) (d := 1) (bc := 2) (bs := 686) (pc2 := 75) (t := 0) (N := 27) (by decide) rfl dX7_init_73 rfl (by decide) w_96 (by decide) (by decide) (by decide) c_55 (by decide +kernel) ?_
  refine ps_247 (pc2 := 78) rfl rfl dX7_init_75 rfl (Wab_c (by decide) c_38) (goW (Wab_s (a := 84) rfl) ?_)
  refine go_aload_n (pc2 := 79) dX7_init_78 rfl rfl rfl ?_
  refine go_sipush (pc2 := 82) (v := (343 : Int32)) dX7_init_79 rfl (by decide) ?_
  refine n_arr (a := 84) (b := 56) (c := 21) (d := 1) (bc := 1) (bs := 343) (pc2 := 84) (t := 0) (N := 343) (by decide) rfl dX7_init_82 rfl (by decide) w_96 (by decide) (by decide) (by decide) c_56 (by decide +kernel) ?_
  refine pd_248 (pc2 := 87) rfl dX7_init_84 rfl (Wab_c (by decide) c_38) (by decide +kernel) (by decide) (goH (hS_s (c := 20) rfl) ?_)
  refine go_aload_n (pc2 := 88) dX7_init_87 rfl rfl rfl ?_
  refine go_sipush (pc2 := 91) (v := (343 : Int32)) dX7_init_88 rfl (by decide) ?_
  refine n_arr (a := 84) (b := 57) (c := 20) (d := 1) (bc := 0) (bs := 0) (pc2 := 93) (t := 0) (N := 343) (by decide) rfl dX7_init_91 rfl (by decide) w_96 (by decide) (by decide) (by decide) c_57 (by decide +kernel) ?_
  refine pd_249 (pc2 := 96) rfl dX7_init_93 rfl (Wab_c (by decide) c_38) (by decide +kernel) (by decide) (goH (hS_s (c := 19) rfl) ?_)
  refine go_aload_n (pc2 := 97) dX7_init_96 rfl rfl rfl ?_
  refine go_aload_n (pc2 := 98) dX7_init_97 rfl rfl rfl ?_
  refine ps_234 (pc2 := 101) rfl rfl dX7_init_98 rfl (Wab_c (by decide) c_38) (goW (Wab_s (a := 83) rfl) ?_)
  refine go_aload_n (pc2 := 102) dX7_init_101 rfl rfl rfl ?_
  refine go_aload_n (pc2 := 103) dX7_init_102 rfl rfl rfl ?_
  refine ps_233 (pc2 := 106) rfl rfl dX7_init_103 rfl (Wab_c (by decide) c_38) (goW (Wab_s (a := 82) rfl) ?_)
  exact go_ret dX7_init_106 rfl ⟨rfl, rfl, rfl⟩
theorem ci_X2_init_58 {X : Nat → Int32} {L : Nat} : Ct (Wab 81 59) (1, 5, 19) mX2_init [.ref 58, .ref 1] (hS X L 19) (qW X L 75 64 19) := by
  refine Ct.of (by decide +kernel) (Nat.le_of_ble_eq_true rfl) ?_
  show Go (Wab 81 59) (1, 5, 19) mX2_init 0 [(0, .ref 58), (1, .ref 1)] [] (hS X L 19) (qW X L 75 64 19)
  refine go_aload_n (pc2 := 1) dX2_init_0 rfl rfl rfl ?_
  refine go_obj (pc2 := 4) rfl dX2_init_1 rfl w_282 (by decide) (Nat.le_of_ble_eq_true rfl) ?_
  refine go_aload_n (pc2 := 5) dX2_init_4 rfl rfl rfl ?_
  refine go_iconst (pc2 := 6) (v := (5 : Int32)) dX2_init_5 rfl (by decide) ?_
  refine n_arr (a := 81) (b := 59) (c := 19) (d := 1) (bc := 4) (bs := 14) (pc2 := 8) (t := 0) (N := 5) (by decide) rfl dX2_init_6 rfl (by decide) w_96 (by decide) (by decide) (by decide) c_59 (by decide +kernel) ?_
  refine ps_284 (pc2 := 11) rfl rfl dX2_init_8 rfl (Wab_c (by decide) c_58) (goW (Wab_s (a := 80) rfl) ?_)
  refine go_aload_n (pc2 := 12) dX2_init_11 rfl rfl rfl ?_
  refine go_iconst (pc2 := 13) (v := (5 : Int32)) dX2_init_12 rfl (by decide) ?_
  refine n_arr (a := 80) (b := 60) (c := 19) (d := 1) (bc := 3) (bs := 9) (pc2 := 15) (t := 0) (N := 5) (by decide) rfl dX2_init_13 rfl (by decide) w_96 (by decide) (by decide) (by decide) c_60 (by decide +kernel) ?_
  refine ps_286 (pc2 := 18) rfl rfl dX2_init_15 rfl (Wab_c (by decide) c_58) (goW (Wab_s (a := 79) rfl) ?_)
  refine go_aload_n (pc2 := 19) dX2_init_18 rfl rfl rfl ?_
  refine go_iconst (pc2 := 20) (v := (3 : Int32)) dX2_init_19 rfl (by decide) ?_
  refine n_arr (a := 79) (b := 61) (c := 19) (d := 1) (bc := 2) (bs := 6) (pc2 := 22) (t := 0) (N := 3) (by decide) rfl dX2_init_20 rfl (by decide) w_96 (by decide) (by decide) (by decide) c_61 (by decide +kernel) ?_
  refine ps_287 (pc2 := 25) rfl rfl dX2_init_22 rfl (Wab_c (by decide) c_58) (goW (Wab_s (a := 78) rfl) ?_)
  refine go_aload_n (pc2 := 26) dX2_init_25 rfl rfl rfl ?_
  refine go_iconst (pc2 := 27) (v := (3 : Int32)) dX2_init_26 rfl (by decide) ?_
  refine n_arr (a := 78) (b := 62) (c := 19) (d := 1) (bc := 1) (bs := 3) (pc2 := 29) (t := 0) (N := 3) (by decide) rfl dX2_init_27 rfl (by decide) w_96 (by decide) (by decide) (by decide) c_62 (by decide +kernel) ?_
  refine ps_290 (pc2 := 32) rfl rfl dX2_init_29 rfl (Wab_c (by decide) c_58) (goW (Wab_s (a := 77) rfl) ?_)
  refine go_aload_n (pc2 := 33) dX2_init_32 rfl rfl rfl ?_
  refine go_iconst (pc2 := 34) (v := (3 : Int32)) dX2_init_33 rfl (by decide) ?_
  refine n_arr (a := 77) (b := 63) (c := 19) (d := 1) (bc := 0) (bs := 0) (pc2 := 36) (t := 0) (N := 3) (by decide) rfl dX2_init_34 rfl (by decide) w_96 (by decide) (by decide) (by decide) c_63 (by decide +kernel) ?_
  refine ps_292 (pc2 := 39) rfl rfl dX2_init_36 rfl (Wab_c (by decide) c_58) (goW (Wab_s (a := 76) rfl) ?_)
  refine go_aload_n (pc2 := 40) dX2_init_39 rfl rfl rfl ?_
  refine go_aload_n (pc2 := 41) dX2_init_40 rfl rfl rfl ?_
  refine ps_283 (pc2 := 44) rfl rfl dX2_init_41 rfl (Wab_c (by decide) c_58) (goW (Wab_s (a := 75) rfl) ?_)
  exact go_ret dX2_init_44 rfl ⟨rfl, rfl, rfl⟩
theorem ci_X4_init_64 {X : Nat → Int32} {L : Nat} : Ct (Wab 74 65) (1, 1, 3) mX4_init [.ref 64, .ref 1, .ref 58, .ref 36] (hS X L 19) (qW X L 70 66 19) := by
  refine Ct.of (by decide +kernel) (Nat.le_of_ble_eq_true rfl) ?_
  show Go (Wab 74 65) (1, 1, 3) mX4_init 0 [(0, .ref 64), (1, .ref 1), (2, .ref 58), (3, .ref 36)] [] (hS X L 19) (qW X L 70 66 19)
  refine go_aload_n (pc2 := 1) dX4_init_0 rfl rfl rfl ?_
  refine go_obj (pc2 := 4) rfl dX4_init_1 rfl w_312 (by decide) (Nat.le_of_ble_eq_true rfl) ?_
  refine go_aload_n (pc2 := 5) dX4_init_4 rfl rfl rfl ?_
  refine go_iconst (pc2 := 6) (v := (3 : Int32)) dX4_init_5 rfl (by decide) ?_
  refine n_arr (a := 74) (b := 65) (c := 19) (d := 1) (bc := 0) (bs := 0) (pc2 := 8) (t := 0) (N := 3) (by decide) rfl dX4_init_6 rfl (by decide) w_96 (by decide) (by decide) (by decide) c_65 (by decide +kernel) ?_
  refine ps_316 (pc2 := 11) rfl rfl dX4_init_8 rfl (Wab_c (by decide) c_64) (goW (Wab_s (a := 73) rfl) ?_)
  refine go_aload_n (pc2 := 12) dX4_init_11 rfl rfl rfl ?_
  refine go_aload_n (pc2 := 13) dX4_init_12 rfl rfl rfl ?_
  refine ps_313 (pc2 := 16) rfl rfl dX4_init_13 rfl (Wab_c (by decide) c_64) (goW (Wab_s (a := 72) rfl) ?_)
  refine go_aload_n (pc2 := 17) dX4_init_16 rfl rfl rfl ?_
  refine go_aload_n (pc2 := 18) dX4_init_17 rfl rfl rfl ?_
  refine ps_314 (pc2 := 21) rfl rfl dX4_init_18 rfl (Wab_c (by decide) c_64) (goW (Wab_s (a := 71) rfl) ?_)
  refine go_aload_n (pc2 := 22) dX4_init_21 rfl rfl rfl ?_
  refine go_aload_n (pc2 := 23) dX4_init_22 rfl rfl rfl ?_
  refine ps_315 (pc2 := 26) rfl rfl dX4_init_23 rfl (Wab_c (by decide) c_64) (goW (Wab_s (a := 70) rfl) ?_)
  exact go_ret dX4_init_26 rfl ⟨rfl, rfl, rfl⟩
theorem ci_X1_init_69 {X : Nat → Int32} {L : Nat} : Ct (Wab 66 70) (1, 1, 20) mX1_init [.ref 69] (hS X L 19) (qW X L 65 71 18) := by
  refine Ct.of (by decide +kernel) (Nat.le_of_ble_eq_true rfl) ?_
  show Go (Wab 66 70) (1, 1, 20) mX1_init 0 [(0, .ref 69)] [] (hS X L 19) (qW X L 65 71 18)
  refine go_aload_n (pc2 := 1) dX1_init_0 rfl rfl rfl ?_
  refine go_obj (pc2 := 4) rfl dX1_init_1 rfl w_335 (by decide) (Nat.le_of_ble_eq_true rfl) ?_
  refine go_aload_n (pc2 := 5) dX1_init_4 rfl rfl rfl ?_
  refine go_bipush (pc2 := 7) (v := (20 : Int32)) dX1_init_5 rfl (by decide) ?_
  refine n_arr (a := 66) (b := 70) (c := 19) (d := 1) (bc := 0) (bs := 0) (pc2 := 9) (t := 0) (N := 20) (by decide) rfl dX1_init_7 rfl (by decide) w_96 (by decide) (by decide) (by decide) c_70 (by decide +kernel) ?_
  refine ps_336 (pc2 := 12) rfl rfl dX1_init_9 rfl (Wab_c (by decide) c_69) (goW (Wab_s (a := 65) rfl) ?_)
  refine go_aload_n (pc2 := 13) dX1_init_12 rfl rfl rfl ?_
  refine go_iconst (pc2 := 14) (v := (-1 : Int32)) dX1_init_13 rfl (by decide) ?_
  refine pf_337 (pc2 := 17) rfl dX1_init_14 rfl (Wab_c (by decide) c_69) (goH (hS_s (c := 18) rfl) ?_)
  exact go_ret dX1_init_17 rfl ⟨rfl, rfl, rfl⟩
theorem ci_X1_init_71 {X : Nat → Int32} {L : Nat} : Ct (Wab 64 72) (1, 1, 20) mX1_init [.ref 71] (hS X L 18) (qW X L 63 73 17) := by
  refine Ct.of (by decide +kernel) (Nat.le_of_ble_eq_true rfl) ?_
  show Go (Wab 64 72) (1, 1, 20) mX1_init 0 [(0, .ref 71)] [] (hS X L 18) (qW X L 63 73 17)
  refine go_aload_n (pc2 := 1) dX1_init_0 rfl rfl rfl ?_
  refine go_obj (pc2 := 4) rfl dX1_init_1 rfl w_335 (by decide) (Nat.le_of_ble_eq_true rfl) ?_
  refine go_aload_n (pc2 := 5) dX1_init_4 rfl rfl rfl ?_
  refine go_bipush (pc2 := 7) (v := (20 : Int32)) dX1_init_5 rfl (by decide) ?_
  refine n_arr (a := 64) (b := 72) (c := 18) (d := 1) (bc := 0) (bs := 0) (pc2 := 9) (t := 0) (N := 20) (by decide) rfl dX1_init_7 rfl (by decide) w_96 (by decide) (by decide) (by decide) c_72 (by decide +kernel) ?_
  refine ps_336 (pc2 := 12) rfl rfl dX1_init_9 rfl (Wab_c (by decide) c_71) (goW (Wab_s (a := 63) rfl) ?_)
  refine go_aload_n (pc2 := 13) dX1_init_12 rfl rfl rfl ?_
  refine go_iconst (pc2 := 14) (v := (-1 : Int32)) dX1_init_13 rfl (by decide) ?_
  refine pf_337 (pc2 := 17) rfl dX1_init_14 rfl (Wab_c (by decide) c_71) (goH (hS_s (c := 17) rfl) ?_)
  exact go_ret dX1_init_17 rfl ⟨rfl, rfl, rfl⟩
theorem ci_X1_init_73 {X : Nat → Int32} {L : Nat} : Ct (Wab 62 74) (1, 1, 20) mX1_init [.ref 73] (hS X L 17) (qW X L 61 75 16) := by
  refine Ct.of (by decide +kernel) (Nat.le_of_ble_eq_true rfl) ?_
  show Go (Wab 62 74) (1, 1, 20) mX1_init 0 [(0, .ref 73)] [] (hS X L 17) (qW X L 61 75 16)
  refine go_aload_n (pc2 := 1) dX1_init_0 rfl rfl rfl ?_
  refine go_obj (pc2 := 4) rfl dX1_init_1 rfl w_335 (by decide) (Nat.le_of_ble_eq_true rfl) ?_
  refine go_aload_n (pc2 := 5) dX1_init_4 rfl rfl rfl ?_
  refine go_bipush (pc2 := 7) (v := (20 : Int32)) dX1_init_5 rfl (by decide) ?_
  refine n_arr (a := 62) (b := 74) (c := 17) (d := 1) (bc := 0) (bs := 0) (pc2 := 9) (t := 0) (N := 20) (by decide) rfl dX1_init_7 rfl (by decide) w_96 (by decide) (by decide) (by decide) c_74 (by decide +kernel) ?_
  refine ps_336 (pc2 := 12) rfl rfl dX1_init_9 rfl (Wab_c (by decide) c_73) (goW (Wab_s (a := 61) rfl) ?_)
  refine go_aload_n (pc2 := 13) dX1_init_12 rfl rfl rfl ?_
  refine go_iconst (pc2 := 14) (v := (-1 : Int32)) dX1_init_13 rfl (by decide) ?_
  refine pf_337 (pc2 := 17) rfl dX1_init_14 rfl (Wab_c (by decide) c_73) (goH (hS_s (c := 16) rfl) ?_)
  exact go_ret dX1_init_17 rfl ⟨rfl, rfl, rfl⟩
theorem ci_X1_init_75 {X : Nat → Int32} {L : Nat} : Ct (Wab 60 76) (1, 1, 20) mX1_init [.ref 75] (hS X L 16) (qW X L 59 77 15) := by
  refine Ct.of (by decide +kernel) (Nat.le_of_ble_eq_true rfl) ?_
  show Go (Wab 60 76) (1, 1, 20) mX1_init 0 [(0, .ref 75)] [] (hS X L 16) (qW X L 59 77 15)
  refine go_aload_n (pc2 := 1) dX1_init_0 rfl rfl rfl ?_
  refine go_obj (pc2 := 4) rfl dX1_init_1 rfl w_335 (by decide) (Nat.le_of_ble_eq_true rfl) ?_
  refine go_aload_n (pc2 := 5) dX1_init_4 rfl rfl rfl ?_
  refine go_bipush (pc2 := 7) (v := (20 : Int32)) dX1_init_5 rfl (by decide) ?_
  refine n_arr (a := 60) (b := 76) (c := 16) (d := 1) (bc := 0) (bs := 0) (pc2 := 9) (t := 0) (N := 20) (by decide) rfl dX1_init_7 rfl (by decide) w_96 (by decide) (by decide) (by decide) c_76 (by decide +kernel) ?_
  refine ps_336 (pc2 := 12) rfl rfl dX1_init_9 rfl (Wab_c (by decide) c_75) (goW (Wab_s (a := 59) rfl) ?_)
  refine go_aload_n (pc2 := 13) dX1_init_12 rfl rfl rfl ?_
  refine go_iconst (pc2 := 14) (v := (-1 : Int32)) dX1_init_13 rfl (by decide) ?_
  refine pf_337 (pc2 := 17) rfl dX1_init_14 rfl (Wab_c (by decide) c_75) (goH (hS_s (c := 15) rfl) ?_)
  exact go_ret dX1_init_17 rfl ⟨rfl, rfl, rfl⟩
theorem ci_X6_init_77 {X : Nat → Int32} {L : Nat} : Ct (Wab 58 78) (2, 11, 108) mX6_init [.ref 77] (hS X L 15) (qW X L 47 89 13) := by
  refine Ct.of (by decide +kernel) (Nat.le_of_ble_eq_true rfl) ?_
  show Go (Wab 58 78) (2, 11, 108) mX6_init 0 [(0, .ref 77)] [] (hS X L 15) (qW X L 47 89 13)
  refine go_aload_n (pc2 := 1) dX6_init_0 rfl rfl rfl ?_
  refine go_obj (pc2 := 4) rfl dX6_init_1 rfl w_348 (by decide) (Nat.le_of_ble_eq_true rfl) ?_
  refine go_aload_n (pc2 := 5) dX6_init_4 rfl rfl rfl ?_
  refine go_bipush (pc2 := 7) (v := (9 : Int32)) dX6_init_5 rfl (by decide) ?_
  refine n_aarr (a := 58) (b := 78) (c := 15) (d := 2) (bc := 10) (bs := 99) (pc2 := 10) (t := 0) (N := 9) (by decide) rfl rfl dX6_init_7 rfl (by decide) w_349 (by decide) (by decide) (by decide) c_78 (by decide +kernel) (by decide +kernel) ?_
  refine ps_351 (pc2 := 13) rfl rfl dX6_init_10 rfl (Wab_c (by decide) c_77) (goW (Wab_s (a := 57) rfl) ?_)
  refine go_aload_n (pc2 := 14) dX6_init_13 rfl rfl rfl ?_
  refine go_bipush (pc2 := 16) (v := (9 : Int32)) dX6_init_14 rfl (by decide) ?_
  refine n_arr (a := 57) (b := 79) (c := 15) (d := 2) (bc := 9) (bs := 90) (pc2 := 18) (t := 1) (N := 9) (by decide) rfl dX6_init_16 rfl (by decide) w_368 (by decide) (by decide) (by decide) c_79 (by decide +kernel) ?_
  refine ps_353 (pc2 := 21) rfl rfl dX6_init_18 rfl (Wab_c (by decide) c_77) (goW (Wab_s (a := 56) rfl) ?_)
  refine go_aload_n (pc2 := 22) dX6_init_21 rfl rfl rfl ?_
  refine go_iconst (pc2 := 23) (v := (0 : Int32)) dX6_init_22 rfl (by decide) ?_
  refine pf_355 (pc2 := 26) rfl dX6_init_23 rfl (Wab_c (by decide) c_77) (goH (hS_s (c := 14) rfl) ?_)
  refine go_aload_n (pc2 := 27) dX6_init_26 rfl rfl rfl ?_
  refine go_iconst (pc2 := 28) (v := (-1 : Int32)) dX6_init_27 rfl (by decide) ?_
  refine pf_357 (pc2 := 31) rfl dX6_init_28 rfl (Wab_c (by decide) c_77) (goH (hS_s (c := 13) rfl) ?_)
  refine go_iconst (pc2 := 32) (v := (0 : Int32)) dX6_init_31 rfl (by decide) ?_
  refine go_istore_n (pc2 := 33) (ls2 := [(0, .ref 77), (1, .int (0 : Int32))]) dX6_init_32 rfl rfl rfl rfl rfl rfl ?_
  refine go_iload_n (pc2 := 34) dX6_init_33 rfl rfl rfl ?_
  refine go_bipush (pc2 := 36) (v := (9 : Int32)) dX6_init_34 rfl (by decide) ?_
  refine go_icmp_ge (pc2 := 39) (tgt := 58) dX6_init_36 rfl (by decide) (fun q => absurd q (by decide)) (fun _ => ?_)
  refine go_aload_n (pc2 := 40) dX6_init_39 rfl rfl rfl ?_
  refine gf_351 (pc2 := 43) (v := .ref 78) rfl dX6_init_40 rfl (Wab_c (by decide) c_77) (fvs (by decide +kernel)) ?_
  refine go_iload_n (pc2 := 44) dX6_init_43 rfl rfl rfl ?_
  refine n_new (a := 56) (b := 80) (c := 13) (d := 2) (bc := 8) (bs := 80) (pc2 := 47) (ci := 3) (T := TX3) (N := 10) (C1 := RX3) tyX3 tyX3_ok dvX3 rfl dX6_init_44 rfl (by decide) (by decide) rfl inX3 w_349 w_39 w_3 c_80 (by decide +kernel) (by decide +kernel) ?_
  refine go_dup (pc2 := 48) dX6_init_47 rfl rfl ?_
  refine n_callN (a := 56) (b := 81) (c := 13) (a' := 56) (b' := 81) (c' := 13) (d := 2) (dC := 1) (bC := 0) (sC := 0) (b0 := 8) (s0 := 80) (pc2 := 51) (As := []) (st := [.ref 80, .int (0 : Int32), .ref 78]) rfl dX6_init_48 rfl w_350 ok_X3_init w_41 rfl rfl rfl (by decide) (Nat.le_of_ble_eq_true rfl) ct_X3i ?_
  refine go_aastore (pc2 := 52) (t := 0) (j := 0) dX6_init_51 rfl (by decide) (Wab_c (by decide) c_78) (Wab_c (by decide) c_80) (by decide) rfl rfl (vp_c rfl) rfl (goW (Wab_s (a := 55) rfl) ?_)
  refine go_iinc (pc2 := 55) (ls2 := [(0, .ref 77), (1, .int (1 : Int32))]) (v := (1 : Int32)) dX6_init_52 rfl rfl (by decide) rfl rfl rfl rfl ?_
  refine go_goto (tgt := 33) dX6_init_55 (by decide) ?_
  refine go_iload_n (pc2 := 34) dX6_init_33 rfl rfl rfl ?_
  refine go_bipush (pc2 := 36) (v := (9 : Int32)) dX6_init_34 rfl (by decide) ?_
  refine go_icmp_ge (pc2 := 39) (tgt := 58) dX6_init_36 rfl (by decide) (fun q => absurd q (by decide)) (fun _ => ?_)
  refine go_aload_n (pc2 := 40) dX6_init_39 rfl rfl rfl ?_
  refine gf_351 (pc2 := 43) (v := .ref 78) rfl dX6_init_40 rfl (Wab_c (by decide) c_77) (fvs (by decide +kernel)) ?_
  refine go_iload_n (pc2 := 44) dX6_init_43 rfl rfl rfl ?_
  refine n_new (a := 55) (b := 81) (c := 13) (d := 2) (bc := 7) (bs := 70) (pc2 := 47) (ci := 3) (T := TX3) (N := 10) (C1 := RX3) tyX3 tyX3_ok dvX3 rfl dX6_init_44 rfl (by decide) (by decide) rfl inX3 w_349 w_39 w_3 c_81 (by decide +kernel) (by decide +kernel) ?_
  refine go_dup (pc2 := 48) dX6_init_47 rfl rfl ?_
  refine n_callN (a := 55) (b := 82) (c := 13) (a' := 55) (b' := 82) (c' := 13) (d := 2) (dC := 1) (bC := 0) (sC := 0) (b0 := 7) (s0 := 70) (pc2 := 51) (As := []) (st := [.ref 81, .int (1 : Int32), .ref 78]) rfl dX6_init_48 rfl w_350 ok_X3_init w_41 rfl rfl rfl (by decide) (Nat.le_of_ble_eq_true rfl) ct_X3i ?_
  refine go_aastore (pc2 := 52) (t := 0) (j := 1) dX6_init_51 rfl (by decide) (Wab_c (by decide) c_78) (Wab_c (by decide) c_81) (by decide) rfl rfl (vp_c rfl) rfl (goW (Wab_s (a := 54) rfl) ?_)
  refine go_iinc (pc2 := 55) (ls2 := [(0, .ref 77), (1, .int (2 : Int32))]) (v := (2 : Int32)) dX6_init_52 rfl rfl (by decide) rfl rfl rfl rfl ?_
  refine go_goto (tgt := 33) dX6_init_55 (by decide) ?_
  refine go_iload_n (pc2 := 34) dX6_init_33 rfl rfl rfl ?_
  refine go_bipush (pc2 := 36) (v := (9 : Int32)) dX6_init_34 rfl (by decide) ?_
  refine go_icmp_ge (pc2 := 39) (tgt := 58) dX6_init_36 rfl (by decide) (fun q => absurd q (by decide)) (fun _ => ?_)
  refine go_aload_n (pc2 := 40) dX6_init_39 rfl rfl rfl ?_
  refine gf_351 (pc2 := 43) (v := .ref 78) rfl dX6_init_40 rfl (Wab_c (by decide) c_77) (fvs (by decide +kernel)) ?_
  refine go_iload_n (pc2 := 44) dX6_init_43 rfl rfl rfl ?_
  refine n_new (a := 54) (b := 82) (c := 13) (d := 2) (bc := 6) (bs := 60) (pc2 := 47) (ci := 3) (T := TX3) (N := 10) (C1 := RX3) tyX3 tyX3_ok dvX3 rfl dX6_init_44 rfl (by decide) (by decide) rfl inX3 w_349 w_39 w_3 c_82 (by decide +kernel) (by decide +kernel) ?_
  refine go_dup (pc2 := 48) dX6_init_47 rfl rfl ?_
  refine n_callN (a := 54) (b := 83) (c := 13) (a' := 54) (b' := 83) (c' := 13) (d := 2) (dC := 1) (bC := 0) (sC := 0) (b0 := 6) (s0 := 60) (pc2 := 51) (As := []) (st := [.ref 82, .int (2 : Int32), .ref 78]) rfl dX6_init_48 rfl w_350 ok_X3_init w_41 rfl rfl rfl (by decide) (Nat.le_of_ble_eq_true rfl) ct_X3i ?_
  refine go_aastore (pc2 := 52) (t := 0) (j := 2) dX6_init_51 rfl (by decide) (Wab_c (by decide) c_78) (Wab_c (by decide) c_82) (by decide) rfl rfl (vp_c rfl) rfl (goW (Wab_s (a := 53) rfl) ?_)
  refine go_iinc (pc2 := 55) (ls2 := [(0, .ref 77), (1, .int (3 : Int32))]) (v := (3 : Int32)) dX6_init_52 rfl rfl (by decide) rfl rfl rfl rfl ?_
  refine go_goto (tgt := 33) dX6_init_55 (by decide) ?_
  refine go_iload_n (pc2 := 34) dX6_init_33 rfl rfl rfl ?_
  refine go_bipush (pc2 := 36) (v := (9 : Int32)) dX6_init_34 rfl (by decide) ?_
  refine go_icmp_ge (pc2 := 39) (tgt := 58) dX6_init_36 rfl (by decide) (fun q => absurd q (by decide)) (fun _ => ?_)
  refine go_aload_n (pc2 := 40) dX6_init_39 rfl rfl rfl ?_
  refine gf_351 (pc2 := 43) (v := .ref 78) rfl dX6_init_40 rfl (Wab_c (by decide) c_77) (fvs (by decide +kernel)) ?_
  refine go_iload_n (pc2 := 44) dX6_init_43 rfl rfl rfl ?_
  refine n_new (a := 53) (b := 83) (c := 13) (d := 2) (bc := 5) (bs := 50) (pc2 := 47) (ci := 3) (T := TX3) (N := 10) (C1 := RX3) tyX3 tyX3_ok dvX3 rfl dX6_init_44 rfl (by decide) (by decide) rfl inX3 w_349 w_39 w_3 c_83 (by decide +kernel) (by decide +kernel) ?_
  refine go_dup (pc2 := 48) dX6_init_47 rfl rfl ?_
  refine n_callN (a := 53) (b := 84) (c := 13) (a' := 53) (b' := 84) (c' := 13) (d := 2) (dC := 1) (bC := 0) (sC := 0) (b0 := 5) (s0 := 50) (pc2 := 51) (As := []) (st := [.ref 83, .int (3 : Int32), .ref 78]) rfl dX6_init_48 rfl w_350 ok_X3_init w_41 rfl rfl rfl (by decide) (Nat.le_of_ble_eq_true rfl) ct_X3i ?_
  refine go_aastore (pc2 := 52) (t := 0) (j := 3) dX6_init_51 rfl (by decide) (Wab_c (by decide) c_78) (Wab_c (by decide) c_83) (by decide) rfl rfl (vp_c rfl) rfl (goW (Wab_s (a := 52) rfl) ?_)
  refine go_iinc (pc2 := 55) (ls2 := [(0, .ref 77), (1, .int (4 : Int32))]) (v := (4 : Int32)) dX6_init_52 rfl rfl (by decide) rfl rfl rfl rfl ?_
  refine go_goto (tgt := 33) dX6_init_55 (by decide) ?_
  refine go_iload_n (pc2 := 34) dX6_init_33 rfl rfl rfl ?_
  refine go_bipush (pc2 := 36) (v := (9 : Int32)) dX6_init_34 rfl (by decide) ?_
  refine go_icmp_ge (pc2 := 39) (tgt := 58) dX6_init_36 rfl (by decide) (fun q => absurd q (by decide)) (fun _ => ?_)
  refine go_aload_n (pc2 := 40) dX6_init_39 rfl rfl rfl ?_
  refine gf_351 (pc2 := 43) (v := .ref 78) rfl dX6_init_40 rfl (Wab_c (by decide) c_77) (fvs (by decide +kernel)) ?_
  refine go_iload_n (pc2 := 44) dX6_init_43 rfl rfl rfl ?_
  refine n_new (a := 52) (b := 84) (c := 13) (d := 2) (bc := 4) (bs := 40) (pc2 := 47) (ci := 3) (T := TX3) (N := 10) (C1 := RX3) tyX3 tyX3_ok dvX3 rfl dX6_init_44 rfl (by decide) (by decide) rfl inX3 w_349 w_39 w_3 c_84 (by decide +kernel) (by decide +kernel) ?_
  refine go_dup (pc2 := 48) dX6_init_47 rfl rfl ?_
  refine n_callN (a := 52) (b := 85) (c := 13) (a' := 52) (b' := 85) (c' := 13) (d := 2) (dC := 1) (bC := 0) (sC := 0) (b0 := 4) (s0 := 40) (pc2 := 51) (As := []) (st := [.ref 84, .int (4 : Int32), .ref 78]) rfl dX6_init_48 rfl w_350 ok_X3_init w_41 rfl rfl rfl (by decide) (Nat.le_of_ble_eq_true rfl) ct_X3i ?_
  refine go_aastore (pc2 := 52) (t := 0) (j := 4) dX6_init_51 rfl (by decide) (Wab_c (by decide) c_78) (Wab_c (by decide) c_84) (by decide) rfl rfl (vp_c rfl) rfl (goW (Wab_s (a := 51) rfl) ?_)
  refine go_iinc (pc2 := 55) (ls2 := [(0, .ref 77), (1, .int (5 : Int32))]) (v := (5 : Int32)) dX6_init_52 rfl rfl (by decide) rfl rfl rfl rfl ?_
  refine go_goto (tgt := 33) dX6_init_55 (by decide) ?_
  refine go_iload_n (pc2 := 34) dX6_init_33 rfl rfl rfl ?_
  refine go_bipush (pc2 := 36) (v := (9 : Int32)) dX6_init_34 rfl (by decide) ?_
  refine go_icmp_ge (pc2 := 39) (tgt := 58) dX6_init_36 rfl (by decide) (fun q => absurd q (by decide)) (fun _ => ?_)
  refine go_aload_n (pc2 := 40) dX6_init_39 rfl rfl rfl ?_
  refine gf_351 (pc2 := 43) (v := .ref 78) rfl dX6_init_40 rfl (Wab_c (by decide) c_77) (fvs (by decide +kernel)) ?_
  refine go_iload_n (pc2 := 44) dX6_init_43 rfl rfl rfl ?_
  refine n_new (a := 51) (b := 85) (c := 13) (d := 2) (bc := 3) (bs := 30) (pc2 := 47) (ci := 3) (T := TX3) (N := 10) (C1 := RX3) tyX3 tyX3_ok dvX3 rfl dX6_init_44 rfl (by decide) (by decide) rfl inX3 w_349 w_39 w_3 c_85 (by decide +kernel) (by decide +kernel) ?_
  refine go_dup (pc2 := 48) dX6_init_47 rfl rfl ?_
  refine n_callN (a := 51) (b := 86) (c := 13) (a' := 51) (b' := 86) (c' := 13) (d := 2) (dC := 1) (bC := 0) (sC := 0) (b0 := 3) (s0 := 30) (pc2 := 51) (As := []) (st := [.ref 85, .int (5 : Int32), .ref 78]) rfl dX6_init_48 rfl w_350 ok_X3_init w_41 rfl rfl rfl (by decide) (Nat.le_of_ble_eq_true rfl) ct_X3i ?_
  refine go_aastore (pc2 := 52) (t := 0) (j := 5) dX6_init_51 rfl (by decide) (Wab_c (by decide) c_78) (Wab_c (by decide) c_85) (by decide) rfl rfl (vp_c rfl) rfl (goW (Wab_s (a := 50) rfl) ?_)
  refine go_iinc (pc2 := 55) (ls2 := [(0, .ref 77), (1, .int (6 : Int32))]) (v := (6 : Int32)) dX6_init_52 rfl rfl (by decide) rfl rfl rfl rfl ?_
  refine go_goto (tgt := 33) dX6_init_55 (by decide) ?_
  refine go_iload_n (pc2 := 34) dX6_init_33 rfl rfl rfl ?_
  refine go_bipush (pc2 := 36) (v := (9 : Int32)) dX6_init_34 rfl (by decide) ?_
  refine go_icmp_ge (pc2 := 39) (tgt := 58) dX6_init_36 rfl (by decide) (fun q => absurd q (by decide)) (fun _ => ?_)
  refine go_aload_n (pc2 := 40) dX6_init_39 rfl rfl rfl ?_
  refine gf_351 (pc2 := 43) (v := .ref 78) rfl dX6_init_40 rfl (Wab_c (by decide) c_77) (fvs (by decide +kernel)) ?_
  refine go_iload_n (pc2 := 44) dX6_init_43 rfl rfl rfl ?_
  refine n_new (a := 50) (b := 86) (c := 13) (d := 2) (bc := 2) (bs := 20) (pc2 := 47) (ci := 3) (T := TX3) (N := 10) (C1 := RX3) tyX3 tyX3_ok dvX3 rfl dX6_init_44 rfl (by decide) (by decide) rfl inX3 w_349 w_39 w_3 c_86 (by decide +kernel) (by decide +kernel) ?_
  refine go_dup (pc2 := 48) dX6_init_47 rfl rfl ?_
  refine n_callN (a := 50) (b := 87) (c := 13) (a' := 50) (b' := 87) (c' := 13) (d := 2) (dC := 1) (bC := 0) (sC := 0) (b0 := 2) (s0 := 20) (pc2 := 51) (As := []) (st := [.ref 86, .int (6 : Int32), .ref 78]) rfl dX6_init_48 rfl w_350 ok_X3_init w_41 rfl rfl rfl (by decide) (Nat.le_of_ble_eq_true rfl) ct_X3i ?_
  refine go_aastore (pc2 := 52) (t := 0) (j := 6) dX6_init_51 rfl (by decide) (Wab_c (by decide) c_78) (Wab_c (by decide) c_86) (by decide) rfl rfl (vp_c rfl) rfl (goW (Wab_s (a := 49) rfl) ?_)
  refine go_iinc (pc2 := 55) (ls2 := [(0, .ref 77), (1, .int (7 : Int32))]) (v := (7 : Int32)) dX6_init_52 rfl rfl (by decide) rfl rfl rfl rfl ?_
  refine go_goto (tgt := 33) dX6_init_55 (by decide) ?_
  refine go_iload_n (pc2 := 34) dX6_init_33 rfl rfl rfl ?_
  refine go_bipush (pc2 := 36) (v := (9 : Int32)) dX6_init_34 rfl (by decide) ?_
  refine go_icmp_ge (pc2 := 39) (tgt := 58) dX6_init_36 rfl (by decide) (fun q => absurd q (by decide)) (fun _ => ?_)
  refine go_aload_n (pc2 := 40) dX6_init_39 rfl rfl rfl ?_
  refine gf_351 (pc2 := 43) (v := .ref 78) rfl dX6_init_40 rfl (Wab_c (by decide) c_77) (fvs (by decide +kernel)) ?_
  refine go_iload_n (pc2 := 44) dX6_init_43 rfl rfl rfl ?_
  refine n_new (a := 49) (b := 87) (c := 13) (d := 2) (bc := 1) (bs := 10) (pc2 := 47) (ci := 3) (T := TX3) (N := 10) (C1 := RX3) tyX3 tyX3_ok dvX3 rfl dX6_init_44 rfl (by decide) (by decide) rfl inX3 w_349 w_39 w_3 c_87 (by decide +kernel) (by decide +kernel) ?_
  refine go_dup (pc2 := 48) dX6_init_47 rfl rfl ?_
  refine n_callN (a := 49) (b := 88) (c := 13) (a' := 49) (b' := 88) (c' := 13) (d := 2) (dC := 1) (bC := 0) (sC := 0) (b0 := 1) (s0 := 10) (pc2 := 51) (As := []) (st := [.ref 87, .int (7 : Int32), .ref 78]) rfl dX6_init_48 rfl w_350 ok_X3_init w_41 rfl rfl rfl (by decide) (Nat.le_of_ble_eq_true rfl) ct_X3i ?_
  refine go_aastore (pc2 := 52) (t := 0) (j := 7) dX6_init_51 rfl (by decide) (Wab_c (by decide) c_78) (Wab_c (by decide) c_87) (by decide) rfl rfl (vp_c rfl) rfl (goW (Wab_s (a := 48) rfl) ?_)
  refine go_iinc (pc2 := 55) (ls2 := [(0, .ref 77), (1, .int (8 : Int32))]) (v := (8 : Int32)) dX6_init_52 rfl rfl (by decide) rfl rfl rfl rfl ?_
  refine go_goto (tgt := 33) dX6_init_55 (by decide) ?_
  refine go_iload_n (pc2 := 34) dX6_init_33 rfl rfl rfl ?_
  refine go_bipush (pc2 := 36) (v := (9 : Int32)) dX6_init_34 rfl (by decide) ?_
  refine go_icmp_ge (pc2 := 39) (tgt := 58) dX6_init_36 rfl (by decide) (fun q => absurd q (by decide)) (fun _ => ?_)
  refine go_aload_n (pc2 := 40) dX6_init_39 rfl rfl rfl ?_
  refine gf_351 (pc2 := 43) (v := .ref 78) rfl dX6_init_40 rfl (Wab_c (by decide) c_77) (fvs (by decide +kernel)) ?_
  refine go_iload_n (pc2 := 44) dX6_init_43 rfl rfl rfl ?_
  refine n_new (a := 48) (b := 88) (c := 13) (d := 2) (bc := 0) (bs := 0) (pc2 := 47) (ci := 3) (T := TX3) (N := 10) (C1 := RX3) tyX3 tyX3_ok dvX3 rfl dX6_init_44 rfl (by decide) (by decide) rfl inX3 w_349 w_39 w_3 c_88 (by decide +kernel) (by decide +kernel) ?_
  refine go_dup (pc2 := 48) dX6_init_47 rfl rfl ?_
  refine n_callN (a := 48) (b := 89) (c := 13) (a' := 48) (b' := 89) (c' := 13) (d := 2) (dC := 1) (bC := 0) (sC := 0) (b0 := 0) (s0 := 0) (pc2 := 51) (As := []) (st := [.ref 88, .int (8 : Int32), .ref 78]) rfl dX6_init_48 rfl w_350 ok_X3_init w_41 rfl rfl rfl (by decide) (Nat.le_of_ble_eq_true rfl) ct_X3i ?_
  refine go_aastore (pc2 := 52) (t := 0) (j := 8) dX6_init_51 rfl (by decide) (Wab_c (by decide) c_78) (Wab_c (by decide) c_88) (by decide) rfl rfl (vp_c rfl) rfl (goW (Wab_s (a := 47) rfl) ?_)
  refine go_iinc (pc2 := 55) (ls2 := [(0, .ref 77), (1, .int (9 : Int32))]) (v := (9 : Int32)) dX6_init_52 rfl rfl (by decide) rfl rfl rfl rfl ?_
  refine go_goto (tgt := 33) dX6_init_55 (by decide) ?_
  refine go_iload_n (pc2 := 34) dX6_init_33 rfl rfl rfl ?_
  refine go_bipush (pc2 := 36) (v := (9 : Int32)) dX6_init_34 rfl (by decide) ?_
  refine go_icmp_ge (pc2 := 39) (tgt := 58) dX6_init_36 rfl (by decide) (fun _ => ?_) (fun q => absurd (by decide) q)
  exact go_ret dX6_init_58 rfl ⟨rfl, rfl, rfl⟩
theorem ci_X6_init_89 {X : Nat → Int32} {L : Nat} : Ct (Wab 46 90) (2, 11, 108) mX6_init [.ref 89] (hS X L 13) (qW X L 35 101 11) := by
  refine Ct.of (by decide +kernel) (Nat.le_of_ble_eq_true rfl) ?_
  show Go (Wab 46 90) (2, 11, 108) mX6_init 0 [(0, .ref 89)] [] (hS X L 13) (qW X L 35 101 11)
  refine go_aload_n (pc2 := 1) dX6_init_0 rfl rfl rfl ?_
  refine go_obj (pc2 := 4) rfl dX6_init_1 rfl w_348 (by decide) (Nat.le_of_ble_eq_true rfl) ?_
  refine go_aload_n (pc2 := 5) dX6_init_4 rfl rfl rfl ?_
  refine go_bipush (pc2 := 7) (v := (9 : Int32)) dX6_init_5 rfl (by decide) ?_
  refine n_aarr (a := 46) (b := 90) (c := 13) (d := 2) (bc := 10) (bs := 99) (pc2 := 10) (t := 0) (N := 9) (by decide) rfl rfl dX6_init_7 rfl (by decide) w_349 (by decide) (by decide) (by decide) c_90 (by decide +kernel) (by decide +kernel) ?_
  refine ps_351 (pc2 := 13) rfl rfl dX6_init_10 rfl (Wab_c (by decide) c_89) (goW (Wab_s (a := 45) rfl) ?_)
  refine go_aload_n (pc2 := 14) dX6_init_13 rfl rfl rfl ?_
  refine go_bipush (pc2 := 16) (v := (9 : Int32)) dX6_init_14 rfl (by decide) ?_
  refine n_arr (a := 45) (b := 91) (c := 13) (d := 2) (bc := 9) (bs := 90) (pc2 := 18) (t := 1) (N := 9) (by decide) rfl dX6_init_16 rfl (by decide) w_368 (by decide) (by decide) (by decide) c_91 (by decide +kernel) ?_
  refine ps_353 (pc2 := 21) rfl rfl dX6_init_18 rfl (Wab_c (by decide) c_89) (goW (Wab_s (a := 44) rfl) ?_)
  refine go_aload_n (pc2 := 22) dX6_init_21 rfl rfl rfl ?_
  refine go_iconst (pc2 := 23) (v := (0 : Int32)) dX6_init_22 rfl (by decide) ?_
  refine pf_355 (pc2 := 26) rfl dX6_init_23 rfl (Wab_c (by decide) c_89) (goH (hS_s (c := 12) rfl) ?_)
  refine go_aload_n (pc2 := 27) dX6_init_26 rfl rfl rfl ?_
  refine go_iconst (pc2 := 28) (v := (-1 : Int32)) dX6_init_27 rfl (by decide) ?_
  refine pf_357 (pc2 := 31) rfl dX6_init_28 rfl (Wab_c (by decide) c_89) (goH (hS_s (c := 11) rfl) ?_)
  refine go_iconst (pc2 := 32) (v := (0 : Int32)) dX6_init_31 rfl (by decide) ?_
  refine go_istore_n (pc2 := 33) (ls2 := [(0, .ref 89), (1, .int (0 : Int32))]) dX6_init_32 rfl rfl rfl rfl rfl rfl ?_
  refine go_iload_n (pc2 := 34) dX6_init_33 rfl rfl rfl ?_
  refine go_bipush (pc2 := 36) (v := (9 : Int32)) dX6_init_34 rfl (by decide) ?_
  refine go_icmp_ge (pc2 := 39) (tgt := 58) dX6_init_36 rfl (by decide) (fun q => absurd q (by decide)) (fun _ => ?_)
  refine go_aload_n (pc2 := 40) dX6_init_39 rfl rfl rfl ?_
  refine gf_351 (pc2 := 43) (v := .ref 90) rfl dX6_init_40 rfl (Wab_c (by decide) c_89) (fvs (by decide +kernel)) ?_
  refine go_iload_n (pc2 := 44) dX6_init_43 rfl rfl rfl ?_
  refine n_new (a := 44) (b := 92) (c := 11) (d := 2) (bc := 8) (bs := 80) (pc2 := 47) (ci := 3) (T := TX3) (N := 10) (C1 := RX3) tyX3 tyX3_ok dvX3 rfl dX6_init_44 rfl (by decide) (by decide) rfl inX3 w_349 w_39 w_3 c_92 (by decide +kernel) (by decide +kernel) ?_
  refine go_dup (pc2 := 48) dX6_init_47 rfl rfl ?_
  refine n_callN (a := 44) (b := 93) (c := 11) (a' := 44) (b' := 93) (c' := 11) (d := 2) (dC := 1) (bC := 0) (sC := 0) (b0 := 8) (s0 := 80) (pc2 := 51) (As := []) (st := [.ref 92, .int (0 : Int32), .ref 90]) rfl dX6_init_48 rfl w_350 ok_X3_init w_41 rfl rfl rfl (by decide) (Nat.le_of_ble_eq_true rfl) ct_X3i ?_
  refine go_aastore (pc2 := 52) (t := 0) (j := 0) dX6_init_51 rfl (by decide) (Wab_c (by decide) c_90) (Wab_c (by decide) c_92) (by decide) rfl rfl (vp_c rfl) rfl (goW (Wab_s (a := 43) rfl) ?_)
  refine go_iinc (pc2 := 55) (ls2 := [(0, .ref 89), (1, .int (1 : Int32))]) (v := (1 : Int32)) dX6_init_52 rfl rfl (by decide) rfl rfl rfl rfl ?_
  refine go_goto (tgt := 33) dX6_init_55 (by decide) ?_
  refine go_iload_n (pc2 := 34) dX6_init_33 rfl rfl rfl ?_
  refine go_bipush (pc2 := 36) (v := (9 : Int32)) dX6_init_34 rfl (by decide) ?_
  refine go_icmp_ge (pc2 := 39) (tgt := 58) dX6_init_36 rfl (by decide) (fun q => absurd q (by decide)) (fun _ => ?_)
  refine go_aload_n (pc2 := 40) dX6_init_39 rfl rfl rfl ?_
  refine gf_351 (pc2 := 43) (v := .ref 90) rfl dX6_init_40 rfl (Wab_c (by decide) c_89) (fvs (by decide +kernel)) ?_
  refine go_iload_n (pc2 := 44) dX6_init_43 rfl rfl rfl ?_
  refine n_new (a := 43) (b := 93) (c := 11) (d := 2) (bc := 7) (bs := 70) (pc2 := 47) (ci := 3) (T := TX3) (N := 10) (C1 := RX3) tyX3 tyX3_ok dvX3 rfl dX6_init_44 rfl (by decide) (by decide) rfl inX3 w_349 w_39 w_3 c_93 (by decide +kernel) (by decide +kernel) ?_
  refine go_dup (pc2 := 48) dX6_init_47 rfl rfl ?_
  refine n_callN (a := 43) (b := 94) (c := 11) (a' := 43) (b' := 94) (c' := 11) (d := 2) (dC := 1) (bC := 0) (sC := 0) (b0 := 7) (s0 := 70) (pc2 := 51) (As := []) (st := [.ref 93, .int (1 : Int32), .ref 90]) rfl dX6_init_48 rfl w_350 ok_X3_init w_41 rfl rfl rfl (by decide) (Nat.le_of_ble_eq_true rfl) ct_X3i ?_
  refine go_aastore (pc2 := 52) (t := 0) (j := 1) dX6_init_51 rfl (by decide) (Wab_c (by decide) c_90) (Wab_c (by decide) c_93) (by decide) rfl rfl (vp_c rfl) rfl (goW (Wab_s (a := 42) rfl) ?_)
  refine go_iinc (pc2 := 55) (ls2 := [(0, .ref 89), (1, .int (2 : Int32))]) (v := (2 : Int32)) dX6_init_52 rfl rfl (by decide) rfl rfl rfl rfl ?_
  refine go_goto (tgt := 33) dX6_init_55 (by decide) ?_
  refine go_iload_n (pc2 := 34) dX6_init_33 rfl rfl rfl ?_
  refine go_bipush (pc2 := 36) (v := (9 : Int32)) dX6_init_34 rfl (by decide) ?_
  refine go_icmp_ge (pc2 := 39) (tgt := 58) dX6_init_36 rfl (by decide) (fun q => absurd q (by decide)) (fun _ => ?_)
  refine go_aload_n (pc2 := 40) dX6_init_39 rfl rfl rfl ?_
  refine gf_351 (pc2 := 43) (v := .ref 90) rfl dX6_init_40 rfl (Wab_c (by decide) c_89) (fvs (by decide +kernel)) ?_
  refine go_iload_n (pc2 := 44) dX6_init_43 rfl rfl rfl ?_
  refine n_new (a := 42) (b := 94) (c := 11) (d := 2) (bc := 6) (bs := 60) (pc2 := 47) (ci := 3) (T := TX3) (N := 10) (C1 := RX3) tyX3 tyX3_ok dvX3 rfl dX6_init_44 rfl (by decide) (by decide) rfl inX3 w_349 w_39 w_3 c_94 (by decide +kernel) (by decide +kernel) ?_
  refine go_dup (pc2 := 48) dX6_init_47 rfl rfl ?_
  refine n_callN (a := 42) (b := 95) (c := 11) (a' := 42) (b' := 95) (c' := 11) (d := 2) (dC := 1) (bC := 0) (sC := 0) (b0 := 6) (s0 := 60) (pc2 := 51) (As := []) (st := [.ref 94, .int (2 : Int32), .ref 90]) rfl dX6_init_48 rfl w_350 ok_X3_init w_41 rfl rfl rfl (by decide) (Nat.le_of_ble_eq_true rfl) ct_X3i ?_
  refine go_aastore (pc2 := 52) (t := 0) (j := 2) dX6_init_51 rfl (by decide) (Wab_c (by decide) c_90) (Wab_c (by decide) c_94) (by decide) rfl rfl (vp_c rfl) rfl (goW (Wab_s (a := 41) rfl) ?_)
  refine go_iinc (pc2 := 55) (ls2 := [(0, .ref 89), (1, .int (3 : Int32))]) (v := (3 : Int32)) dX6_init_52 rfl rfl (by decide) rfl rfl rfl rfl ?_
  refine go_goto (tgt := 33) dX6_init_55 (by decide) ?_
  refine go_iload_n (pc2 := 34) dX6_init_33 rfl rfl rfl ?_
  refine go_bipush (pc2 := 36) (v := (9 : Int32)) dX6_init_34 rfl (by decide) ?_
  refine go_icmp_ge (pc2 := 39) (tgt := 58) dX6_init_36 rfl (by decide) (fun q => absurd q (by decide)) (fun _ => ?_)
  refine go_aload_n (pc2 := 40) dX6_init_39 rfl rfl rfl ?_
  refine gf_351 (pc2 := 43) (v := .ref 90) rfl dX6_init_40 rfl (Wab_c (by decide) c_89) (fvs (by decide +kernel)) ?_
  refine go_iload_n (pc2 := 44) dX6_init_43 rfl rfl rfl ?_
  refine n_new (a := 41) (b := 95) (c := 11) (d := 2) (bc := 5) (bs := 50) (pc2 := 47) (ci := 3) (T := TX3) (N := 10) (C1 := RX3) tyX3 tyX3_ok dvX3 rfl dX6_init_44 rfl (by decide) (by decide) rfl inX3 w_349 w_39 w_3 c_95 (by decide +kernel) (by decide +kernel) ?_
  refine go_dup (pc2 := 48) dX6_init_47 rfl rfl ?_
  refine n_callN (a := 41) (b := 96) (c := 11) (a' := 41) (b' := 96) (c' := 11) (d := 2) (dC := 1) (bC := 0) (sC := 0) (b0 := 5) (s0 := 50) (pc2 := 51) (As := []) (st := [.ref 95, .int (3 : Int32), .ref 90]) rfl dX6_init_48 rfl w_350 ok_X3_init w_41 rfl rfl rfl (by decide) (Nat.le_of_ble_eq_true rfl) ct_X3i ?_
  refine go_aastore (pc2 := 52) (t := 0) (j := 3) dX6_init_51 rfl (by decide) (Wab_c (by decide) c_90) (Wab_c (by decide) c_95) (by decide) rfl rfl (vp_c rfl) rfl (goW (Wab_s (a := 40) rfl) ?_)
  refine go_iinc (pc2 := 55) (ls2 := [(0, .ref 89), (1, .int (4 : Int32))]) (v := (4 : Int32)) dX6_init_52 rfl rfl (by decide) rfl rfl rfl rfl ?_
  refine go_goto (tgt := 33) dX6_init_55 (by decide) ?_
  refine go_iload_n (pc2 := 34) dX6_init_33 rfl rfl rfl ?_
  refine go_bipush (pc2 := 36) (v := (9 : Int32)) dX6_init_34 rfl (by decide) ?_
  refine go_icmp_ge (pc2 := 39) (tgt := 58) dX6_init_36 rfl (by decide) (fun q => absurd q (by decide)) (fun _ => ?_)
  refine go_aload_n (pc2 := 40) dX6_init_39 rfl rfl rfl ?_
  refine gf_351 (pc2 := 43) (v := .ref 90) rfl dX6_init_40 rfl (Wab_c (by decide) c_89) (fvs (by decide +kernel)) ?_
  refine go_iload_n (pc2 := 44) dX6_init_43 rfl rfl rfl ?_
  refine n_new (a := 40) (b := 96) (c := 11) (d := 2) (bc := 4) (bs := 40) (pc2 := 47) (ci := 3) (T := TX3) (N := 10) (C1 := RX3) tyX3 tyX3_ok dvX3 rfl dX6_init_44 rfl (by decide) (by decide) rfl inX3 w_349 w_39 w_3 c_96 (by decide +kernel) (by decide +kernel) ?_
  refine go_dup (pc2 := 48) dX6_init_47 rfl rfl ?_
  refine n_callN (a := 40) (b := 97) (c := 11) (a' := 40) (b' := 97) (c' := 11) (d := 2) (dC := 1) (bC := 0) (sC := 0) (b0 := 4) (s0 := 40) (pc2 := 51) (As := []) (st := [.ref 96, .int (4 : Int32), .ref 90]) rfl dX6_init_48 rfl w_350 ok_X3_init w_41 rfl rfl rfl (by decide) (Nat.le_of_ble_eq_true rfl) ct_X3i ?_
  refine go_aastore (pc2 := 52) (t := 0) (j := 4) dX6_init_51 rfl (by decide) (Wab_c (by decide) c_90) (Wab_c (by decide) c_96) (by decide) rfl rfl (vp_c rfl) rfl (goW (Wab_s (a := 39) rfl) ?_)
  refine go_iinc (pc2 := 55) (ls2 := [(0, .ref 89), (1, .int (5 : Int32))]) (v := (5 : Int32)) dX6_init_52 rfl rfl (by decide) rfl rfl rfl rfl ?_
  refine go_goto (tgt := 33) dX6_init_55 (by decide) ?_
  refine go_iload_n (pc2 := 34) dX6_init_33 rfl rfl rfl ?_
  refine go_bipush (pc2 := 36) (v := (9 : Int32)) dX6_init_34 rfl (by decide) ?_
  refine go_icmp_ge (pc2 := 39) (tgt := 58) dX6_init_36 rfl (by decide) (fun q => absurd q (by decide)) (fun _ => ?_)
  refine go_aload_n (pc2 := 40) dX6_init_39 rfl rfl rfl ?_
  refine gf_351 (pc2 := 43) (v := .ref 90) rfl dX6_init_40 rfl (Wab_c (by decide) c_89) (fvs (by decide +kernel)) ?_
  refine go_iload_n (pc2 := 44) dX6_init_43 rfl rfl rfl ?_
  refine n_new (a := 39) (b := 97) (c := 11) (d := 2) (bc := 3) (bs := 30) (pc2 := 47) (ci := 3) (T := TX3) (N := 10) (C1 := RX3) tyX3 tyX3_ok dvX3 rfl dX6_init_44 rfl (by decide) (by decide) rfl inX3 w_349 w_39 w_3 c_97 (by decide +kernel) (by decide +kernel) ?_
  refine go_dup (pc2 := 48) dX6_init_47 rfl rfl ?_
  refine n_callN (a := 39) (b := 98) (c := 11) (a' := 39) (b' := 98) (c' := 11) (d := 2) (dC := 1) (bC := 0) (sC := 0) (b0 := 3) (s0 := 30) (pc2 := 51) (As := []) (st := [.ref 97, .int (5 : Int32), .ref 90]) rfl dX6_init_48 rfl w_350 ok_X3_init w_41 rfl rfl rfl (by decide) (Nat.le_of_ble_eq_true rfl) ct_X3i ?_
  refine go_aastore (pc2 := 52) (t := 0) (j := 5) dX6_init_51 rfl (by decide) (Wab_c (by decide) c_90) (Wab_c (by decide) c_97) (by decide) rfl rfl (vp_c rfl) rfl (goW (Wab_s (a := 38) rfl) ?_)
  refine go_iinc (pc2 := 55) (ls2 := [(0, .ref 89), (1, .int (6 : Int32))]) (v := (6 : Int32)) dX6_init_52 rfl rfl (by decide) rfl rfl rfl rfl ?_
  refine go_goto (tgt := 33) dX6_init_55 (by decide) ?_
  refine go_iload_n (pc2 := 34) dX6_init_33 rfl rfl rfl ?_
  refine go_bipush (pc2 := 36) (v := (9 : Int32)) dX6_init_34 rfl (by decide) ?_
  refine go_icmp_ge (pc2 := 39) (tgt := 58) dX6_init_36 rfl (by decide) (fun q => absurd q (by decide)) (fun _ => ?_)
  refine go_aload_n (pc2 := 40) dX6_init_39 rfl rfl rfl ?_
  refine gf_351 (pc2 := 43) (v := .ref 90) rfl dX6_init_40 rfl (Wab_c (by decide) c_89) (fvs (by decide +kernel)) ?_
  refine go_iload_n (pc2 := 44) dX6_init_43 rfl rfl rfl ?_
  refine n_new (a := 38) (b := 98) (c := 11) (d := 2) (bc := 2) (bs := 20) (pc2 := 47) (ci := 3) (T := TX3) (N := 10) (C1 := RX3) tyX3 tyX3_ok dvX3 rfl dX6_init_44 rfl (by decide) (by decide) rfl inX3 w_349 w_39 w_3 c_98 (by decide +kernel) (by decide +kernel) ?_
  refine go_dup (pc2 := 48) dX6_init_47 rfl rfl ?_
  refine n_callN (a := 38) (b := 99) (c := 11) (a' := 38) (b' := 99) (c' := 11) (d := 2) (dC := 1) (bC := 0) (sC := 0) (b0 := 2) (s0 := 20) (pc2 := 51) (As := []) (st := [.ref 98, .int (6 : Int32), .ref 90]) rfl dX6_init_48 rfl w_350 ok_X3_init w_41 rfl rfl rfl (by decide) (Nat.le_of_ble_eq_true rfl) ct_X3i ?_
  refine go_aastore (pc2 := 52) (t := 0) (j := 6) dX6_init_51 rfl (by decide) (Wab_c (by decide) c_90) (Wab_c (by decide) c_98) (by decide) rfl rfl (vp_c rfl) rfl (goW (Wab_s (a := 37) rfl) ?_)
  refine go_iinc (pc2 := 55) (ls2 := [(0, .ref 89), (1, .int (7 : Int32))]) (v := (7 : Int32)) dX6_init_52 rfl rfl (by decide) rfl rfl rfl rfl ?_
  refine go_goto (tgt := 33) dX6_init_55 (by decide) ?_
  refine go_iload_n (pc2 := 34) dX6_init_33 rfl rfl rfl ?_
  refine go_bipush (pc2 := 36) (v := (9 : Int32)) dX6_init_34 rfl (by decide) ?_
  refine go_icmp_ge (pc2 := 39) (tgt := 58) dX6_init_36 rfl (by decide) (fun q => absurd q (by decide)) (fun _ => ?_)
  refine go_aload_n (pc2 := 40) dX6_init_39 rfl rfl rfl ?_
  refine gf_351 (pc2 := 43) (v := .ref 90) rfl dX6_init_40 rfl (Wab_c (by decide) c_89) (fvs (by decide +kernel)) ?_
  refine go_iload_n (pc2 := 44) dX6_init_43 rfl rfl rfl ?_
  refine n_new (a := 37) (b := 99) (c := 11) (d := 2) (bc := 1) (bs := 10) (pc2 := 47) (ci := 3) (T := TX3) (N := 10) (C1 := RX3) tyX3 tyX3_ok dvX3 rfl dX6_init_44 rfl (by decide) (by decide) rfl inX3 w_349 w_39 w_3 c_99 (by decide +kernel) (by decide +kernel) ?_
  refine go_dup (pc2 := 48) dX6_init_47 rfl rfl ?_
  refine n_callN (a := 37) (b := 100) (c := 11) (a' := 37) (b' := 100) (c' := 11) (d := 2) (dC := 1) (bC := 0) (sC := 0) (b0 := 1) (s0 := 10) (pc2 := 51) (As := []) (st := [.ref 99, .int (7 : Int32), .ref 90]) rfl dX6_init_48 rfl w_350 ok_X3_init w_41 rfl rfl rfl (by decide) (Nat.le_of_ble_eq_true rfl) ct_X3i ?_
  refine go_aastore (pc2 := 52) (t := 0) (j := 7) dX6_init_51 rfl (by decide) (Wab_c (by decide) c_90) (Wab_c (by decide) c_99) (by decide) rfl rfl (vp_c rfl) rfl (goW (Wab_s (a := 36) rfl) ?_)
  refine go_iinc (pc2 := 55) (ls2 := [(0, .ref 89), (1, .int (8 : Int32))]) (v := (8 : Int32)) dX6_init_52 rfl rfl (by decide) rfl rfl rfl rfl ?_
  refine go_goto (tgt := 33) dX6_init_55 (by decide) ?_
  refine go_iload_n (pc2 := 34) dX6_init_33 rfl rfl rfl ?_
  refine go_bipush (pc2 := 36) (v := (9 : Int32)) dX6_init_34 rfl (by decide) ?_
  refine go_icmp_ge (pc2 := 39) (tgt := 58) dX6_init_36 rfl (by decide) (fun q => absurd q (by decide)) (fun _ => ?_)
  refine go_aload_n (pc2 := 40) dX6_init_39 rfl rfl rfl ?_
  refine gf_351 (pc2 := 43) (v := .ref 90) rfl dX6_init_40 rfl (Wab_c (by decide) c_89) (fvs (by decide +kernel)) ?_
  refine go_iload_n (pc2 := 44) dX6_init_43 rfl rfl rfl ?_
  refine n_new (a := 36) (b := 100) (c := 11) (d := 2) (bc := 0) (bs := 0) (pc2 := 47) (ci := 3) (T := TX3) (N := 10) (C1 := RX3) tyX3 tyX3_ok dvX3 rfl dX6_init_44 rfl (by decide) (by decide) rfl inX3 w_349 w_39 w_3 c_100 (by decide +kernel) (by decide +kernel) ?_
  refine go_dup (pc2 := 48) dX6_init_47 rfl rfl ?_
  refine n_callN (a := 36) (b := 101) (c := 11) (a' := 36) (b' := 101) (c' := 11) (d := 2) (dC := 1) (bC := 0) (sC := 0) (b0 := 0) (s0 := 0) (pc2 := 51) (As := []) (st := [.ref 100, .int (8 : Int32), .ref 90]) rfl dX6_init_48 rfl w_350 ok_X3_init w_41 rfl rfl rfl (by decide) (Nat.le_of_ble_eq_true rfl) ct_X3i ?_
  refine go_aastore (pc2 := 52) (t := 0) (j := 8) dX6_init_51 rfl (by decide) (Wab_c (by decide) c_90) (Wab_c (by decide) c_100) (by decide) rfl rfl (vp_c rfl) rfl (goW (Wab_s (a := 35) rfl) ?_)
  refine go_iinc (pc2 := 55) (ls2 := [(0, .ref 89), (1, .int (9 : Int32))]) (v := (9 : Int32)) dX6_init_52 rfl rfl (by decide) rfl rfl rfl rfl ?_
  refine go_goto (tgt := 33) dX6_init_55 (by decide) ?_
  refine go_iload_n (pc2 := 34) dX6_init_33 rfl rfl rfl ?_
  refine go_bipush (pc2 := 36) (v := (9 : Int32)) dX6_init_34 rfl (by decide) ?_
  refine go_icmp_ge (pc2 := 39) (tgt := 58) dX6_init_36 rfl (by decide) (fun _ => ?_) (fun q => absurd (by decide) q)
  exact go_ret dX6_init_58 rfl ⟨rfl, rfl, rfl⟩
theorem ci_X6_init_101 {X : Nat → Int32} {L : Nat} : Ct (Wab 34 102) (2, 11, 108) mX6_init [.ref 101] (hS X L 11) (qW X L 23 113 9) := by
  refine Ct.of (by decide +kernel) (Nat.le_of_ble_eq_true rfl) ?_
  show Go (Wab 34 102) (2, 11, 108) mX6_init 0 [(0, .ref 101)] [] (hS X L 11) (qW X L 23 113 9)
  refine go_aload_n (pc2 := 1) dX6_init_0 rfl rfl rfl ?_
  refine go_obj (pc2 := 4) rfl dX6_init_1 rfl w_348 (by decide) (Nat.le_of_ble_eq_true rfl) ?_
  refine go_aload_n (pc2 := 5) dX6_init_4 rfl rfl rfl ?_
  refine go_bipush (pc2 := 7) (v := (9 : Int32)) dX6_init_5 rfl (by decide) ?_
  refine n_aarr (a := 34) (b := 102) (c := 11) (d := 2) (bc := 10) (bs := 99) (pc2 := 10) (t := 0) (N := 9) (by decide) rfl rfl dX6_init_7 rfl (by decide) w_349 (by decide) (by decide) (by decide) c_102 (by decide +kernel) (by decide +kernel) ?_
  refine ps_351 (pc2 := 13) rfl rfl dX6_init_10 rfl (Wab_c (by decide) c_101) (goW (Wab_s (a := 33) rfl) ?_)
  refine go_aload_n (pc2 := 14) dX6_init_13 rfl rfl rfl ?_
  refine go_bipush (pc2 := 16) (v := (9 : Int32)) dX6_init_14 rfl (by decide) ?_
  refine n_arr (a := 33) (b := 103) (c := 11) (d := 2) (bc := 9) (bs := 90) (pc2 := 18) (t := 1) (N := 9) (by decide) rfl dX6_init_16 rfl (by decide) w_368 (by decide) (by decide) (by decide) c_103 (by decide +kernel) ?_
  refine ps_353 (pc2 := 21) rfl rfl dX6_init_18 rfl (Wab_c (by decide) c_101) (goW (Wab_s (a := 32) rfl) ?_)
  refine go_aload_n (pc2 := 22) dX6_init_21 rfl rfl rfl ?_
  refine go_iconst (pc2 := 23) (v := (0 : Int32)) dX6_init_22 rfl (by decide) ?_
  refine pf_355 (pc2 := 26) rfl dX6_init_23 rfl (Wab_c (by decide) c_101) (goH (hS_s (c := 10) rfl) ?_)
  refine go_aload_n (pc2 := 27) dX6_init_26 rfl rfl rfl ?_
  refine go_iconst (pc2 := 28) (v := (-1 : Int32)) dX6_init_27 rfl (by decide) ?_
  refine pf_357 (pc2 := 31) rfl dX6_init_28 rfl (Wab_c (by decide) c_101) (goH (hS_s (c := 9) rfl) ?_)
  refine go_iconst (pc2 := 32) (v := (0 : Int32)) dX6_init_31 rfl (by decide) ?_
  refine go_istore_n (pc2 := 33) (ls2 := [(0, .ref 101), (1, .int (0 : Int32))]) dX6_init_32 rfl rfl rfl rfl rfl rfl ?_
  refine go_iload_n (pc2 := 34) dX6_init_33 rfl rfl rfl ?_
  refine go_bipush (pc2 := 36) (v := (9 : Int32)) dX6_init_34 rfl (by decide) ?_
  refine go_icmp_ge (pc2 := 39) (tgt := 58) dX6_init_36 rfl (by decide) (fun q => absurd q (by decide)) (fun _ => ?_)
  refine go_aload_n (pc2 := 40) dX6_init_39 rfl rfl rfl ?_
  refine gf_351 (pc2 := 43) (v := .ref 102) rfl dX6_init_40 rfl (Wab_c (by decide) c_101) (fvs (by decide +kernel)) ?_
  refine go_iload_n (pc2 := 44) dX6_init_43 rfl rfl rfl ?_
  refine n_new (a := 32) (b := 104) (c := 9) (d := 2) (bc := 8) (bs := 80) (pc2 := 47) (ci := 3) (T := TX3) (N := 10) (C1 := RX3) tyX3 tyX3_ok dvX3 rfl dX6_init_44 rfl (by decide) (by decide) rfl inX3 w_349 w_39 w_3 c_104 (by decide +kernel) (by decide +kernel) ?_
  refine go_dup (pc2 := 48) dX6_init_47 rfl rfl ?_
  refine n_callN (a := 32) (b := 105) (c := 9) (a' := 32) (b' := 105) (c' := 9) (d := 2) (dC := 1) (bC := 0) (sC := 0) (b0 := 8) (s0 := 80) (pc2 := 51) (As := []) (st := [.ref 104, .int (0 : Int32), .ref 102]) rfl dX6_init_48 rfl w_350 ok_X3_init w_41 rfl rfl rfl (by decide) (Nat.le_of_ble_eq_true rfl) ct_X3i ?_
  refine go_aastore (pc2 := 52) (t := 0) (j := 0) dX6_init_51 rfl (by decide) (Wab_c (by decide) c_102) (Wab_c (by decide) c_104) (by decide) rfl rfl (vp_c rfl) rfl (goW (Wab_s (a := 31) rfl) ?_)
  refine go_iinc (pc2 := 55) (ls2 := [(0, .ref 101), (1, .int (1 : Int32))]) (v := (1 : Int32)) dX6_init_52 rfl rfl (by decide) rfl rfl rfl rfl ?_
  refine go_goto (tgt := 33) dX6_init_55 (by decide) ?_
  refine go_iload_n (pc2 := 34) dX6_init_33 rfl rfl rfl ?_
  refine go_bipush (pc2 := 36) (v := (9 : Int32)) dX6_init_34 rfl (by decide) ?_
  refine go_icmp_ge (pc2 := 39) (tgt := 58) dX6_init_36 rfl (by decide) (fun q => absurd q (by decide)) (fun _ => ?_)
  refine go_aload_n (pc2 := 40) dX6_init_39 rfl rfl rfl ?_
  refine gf_351 (pc2 := 43) (v := .ref 102) rfl dX6_init_40 rfl (Wab_c (by decide) c_101) (fvs (by decide +kernel)) ?_
  refine go_iload_n (pc2 := 44) dX6_init_43 rfl rfl rfl ?_
  refine n_new (a := 31) (b := 105) (c := 9) (d := 2) (bc := 7) (bs := 70) (pc2 := 47) (ci := 3) (T := TX3) (N := 10) (C1 := RX3) tyX3 tyX3_ok dvX3 rfl dX6_init_44 rfl (by decide) (by decide) rfl inX3 w_349 w_39 w_3 c_105 (by decide +kernel) (by decide +kernel) ?_
  refine go_dup (pc2 := 48) dX6_init_47 rfl rfl ?_
  refine n_callN (a := 31) (b := 106) (c := 9) (a' := 31) (b' := 106) (c' := 9) (d := 2) (dC := 1) (bC := 0) (sC := 0) (b0 := 7) (s0 := 70) (pc2 := 51) (As := []) (st := [.ref 105, .int (1 : Int32), .ref 102]) rfl dX6_init_48 rfl w_350 ok_X3_init w_41 rfl rfl rfl (by decide) (Nat.le_of_ble_eq_true rfl) ct_X3i ?_
  refine go_aastore (pc2 := 52) (t := 0) (j := 1) dX6_init_51 rfl (by decide) (Wab_c (by decide) c_102) (Wab_c (by decide) c_105) (by decide) rfl rfl (vp_c rfl) rfl (goW (Wab_s (a := 30) rfl) ?_)
  refine go_iinc (pc2 := 55) (ls2 := [(0, .ref 101), (1, .int (2 : Int32))]) (v := (2 : Int32)) dX6_init_52 rfl rfl (by decide) rfl rfl rfl rfl ?_
  refine go_goto (tgt := 33) dX6_init_55 (by decide) ?_
  refine go_iload_n (pc2 := 34) dX6_init_33 rfl rfl rfl ?_
  refine go_bipush (pc2 := 36) (v := (9 : Int32)) dX6_init_34 rfl (by decide) ?_
  refine go_icmp_ge (pc2 := 39) (tgt := 58) dX6_init_36 rfl (by decide) (fun q => absurd q (by decide)) (fun _ => ?_)
  refine go_aload_n (pc2 := 40) dX6_init_39 rfl rfl rfl ?_
  refine gf_351 (pc2 := 43) (v := .ref 102) rfl dX6_init_40 rfl (Wab_c (by decide) c_101) (fvs (by decide +kernel)) ?_
  refine go_iload_n (pc2 := 44) dX6_init_43 rfl rfl rfl ?_
  refine n_new (a := 30) (b := 106) (c := 9) (d := 2) (bc := 6) (bs := 60) (pc2 := 47) (ci := 3) (T := TX3) (N := 10) (C1 := RX3) tyX3 tyX3_ok dvX3 rfl dX6_init_44 rfl (by decide) (by decide) rfl inX3 w_349 w_39 w_3 c_106 (by decide +kernel) (by decide +kernel) ?_
  refine go_dup (pc2 := 48) dX6_init_47 rfl rfl ?_
  refine n_callN (a := 30) (b := 107) (c := 9) (a' := 30) (b' := 107) (c' := 9) (d := 2) (dC := 1) (bC := 0) (sC := 0) (b0 := 6) (s0 := 60) (pc2 := 51) (As := []) (st := [.ref 106, .int (2 : Int32), .ref 102]) rfl dX6_init_48 rfl w_350 ok_X3_init w_41 rfl rfl rfl (by decide) (Nat.le_of_ble_eq_true rfl) ct_X3i ?_
  refine go_aastore (pc2 := 52) (t := 0) (j := 2) dX6_init_51 rfl (by decide) (Wab_c (by decide) c_102) (Wab_c (by decide) c_106) (by decide) rfl rfl (vp_c rfl) rfl (goW (Wab_s (a := 29) rfl) ?_)
  refine go_iinc (pc2 := 55) (ls2 := [(0, .ref 101), (1, .int (3 : Int32))]) (v := (3 : Int32)) dX6_init_52 rfl rfl (by decide) rfl rfl rfl rfl ?_
  refine go_goto (tgt := 33) dX6_init_55 (by decide) ?_
  refine go_iload_n (pc2 := 34) dX6_init_33 rfl rfl rfl ?_
  refine go_bipush (pc2 := 36) (v := (9 : Int32)) dX6_init_34 rfl (by decide) ?_
  refine go_icmp_ge (pc2 := 39) (tgt := 58) dX6_init_36 rfl (by decide) (fun q => absurd q (by decide)) (fun _ => ?_)
  refine go_aload_n (pc2 := 40) dX6_init_39 rfl rfl rfl ?_
  refine gf_351 (pc2 := 43) (v := .ref 102) rfl dX6_init_40 rfl (Wab_c (by decide) c_101) (fvs (by decide +kernel)) ?_
  refine go_iload_n (pc2 := 44) dX6_init_43 rfl rfl rfl ?_
  refine n_new (a := 29) (b := 107) (c := 9) (d := 2) (bc := 5) (bs := 50) (pc2 := 47) (ci := 3) (T := TX3) (N := 10) (C1 := RX3) tyX3 tyX3_ok dvX3 rfl dX6_init_44 rfl (by decide) (by decide) rfl inX3 w_349 w_39 w_3 c_107 (by decide +kernel) (by decide +kernel) ?_
  refine go_dup (pc2 := 48) dX6_init_47 rfl rfl ?_
  refine n_callN (a := 29) (b := 108) (c := 9) (a' := 29) (b' := 108) (c' := 9) (d := 2) (dC := 1) (bC := 0) (sC := 0) (b0 := 5) (s0 := 50) (pc2 := 51) (As := []) (st := [.ref 107, .int (3 : Int32), .ref 102]) rfl dX6_init_48 rfl w_350 ok_X3_init w_41 rfl rfl rfl (by decide) (Nat.le_of_ble_eq_true rfl) ct_X3i ?_
  refine go_aastore (pc2 := 52) (t := 0) (j := 3) dX6_init_51 rfl (by decide) (Wab_c (by decide) c_102) (Wab_c (by decide) c_107) (by decide) rfl rfl (vp_c rfl) rfl (goW (Wab_s (a := 28) rfl) ?_)
  refine go_iinc (pc2 := 55) (ls2 := [(0, .ref 101), (1, .int (4 : Int32))]) (v := (4 : Int32)) dX6_init_52 rfl rfl (by decide) rfl rfl rfl rfl ?_
  refine go_goto (tgt := 33) dX6_init_55 (by decide) ?_
  refine go_iload_n (pc2 := 34) dX6_init_33 rfl rfl rfl ?_
  refine go_bipush (pc2 := 36) (v := (9 : Int32)) dX6_init_34 rfl (by decide) ?_
  refine go_icmp_ge (pc2 := 39) (tgt := 58) dX6_init_36 rfl (by decide) (fun q => absurd q (by decide)) (fun _ => ?_)
  refine go_aload_n (pc2 := 40) dX6_init_39 rfl rfl rfl ?_
  refine gf_351 (pc2 := 43) (v := .ref 102) rfl dX6_init_40 rfl (Wab_c (by decide) c_101) (fvs (by decide +kernel)) ?_
  refine go_iload_n (pc2 := 44) dX6_init_43 rfl rfl rfl ?_
  refine n_new (a := 28) (b := 108) (c := 9) (d := 2) (bc := 4) (bs := 40) (pc2 := 47) (ci := 3) (T := TX3) (N := 10) (C1 := RX3) tyX3 tyX3_ok dvX3 rfl dX6_init_44 rfl (by decide) (by decide) rfl inX3 w_349 w_39 w_3 c_108 (by decide +kernel) (by decide +kernel) ?_
  refine go_dup (pc2 := 48) dX6_init_47 rfl rfl ?_
  refine n_callN (a := 28) (b := 109) (c := 9) (a' := 28) (b' := 109) (c' := 9) (d := 2) (dC := 1) (bC := 0) (sC := 0) (b0 := 4) (s0 := 40) (pc2 := 51) (As := []) (st := [.ref 108, .int (4 : Int32), .ref 102]) rfl dX6_init_48 rfl w_350 ok_X3_init w_41 rfl rfl rfl (by decide) (Nat.le_of_ble_eq_true rfl) ct_X3i ?_
  refine go_aastore (pc2 := 52) (t := 0) (j := 4) dX6_init_51 rfl (by decide) (Wab_c (by decide) c_102) (Wab_c (by decide) c_108) (by decide) rfl rfl (vp_c rfl) rfl (goW (Wab_s (a := 27) rfl) ?_)
  refine go_iinc (pc2 := 55) (ls2 := [(0, .ref 101), (1, .int (5 : Int32))]) (v := (5 : Int32)) dX6_init_52 rfl rfl (by decide) rfl rfl rfl rfl ?_
  refine go_goto (tgt := 33) dX6_init_55 (by decide) ?_
  refine go_iload_n (pc2 := 34) dX6_init_33 rfl rfl rfl ?_
  refine go_bipush (pc2 := 36) (v := (9 : Int32)) dX6_init_34 rfl (by decide) ?_
  refine go_icmp_ge (pc2 := 39) (tgt := 58) dX6_init_36 rfl (by decide) (fun q => absurd q (by decide)) (fun _ => ?_)
  refine go_aload_n (pc2 := 40) dX6_init_39 rfl rfl rfl ?_
  refine gf_351 (pc2 := 43) (v := .ref 102) rfl dX6_init_40 rfl (Wab_c (by decide) c_101) (fvs (by decide +kernel)) ?_
  refine go_iload_n (pc2 := 44) dX6_init_43 rfl rfl rfl ?_
  refine n_new (a := 27) (b := 109) (c := 9) (d := 2) (bc := 3) (bs := 30) (pc2 := 47) (ci := 3) (T := TX3) (N := 10) (C1 := RX3) tyX3 tyX3_ok dvX3 rfl dX6_init_44 rfl (by decide) (by decide) rfl inX3 w_349 w_39 w_3 c_109 (by decide +kernel) (by decide +kernel) ?_
  refine go_dup (pc2 := 48) dX6_init_47 rfl rfl ?_
  refine n_callN (a := 27) (b := 110) (c := 9) (a' := 27) (b' := 110) (c' := 9) (d := 2) (dC := 1) (bC := 0) (sC := 0) (b0 := 3) (s0 := 30) (pc2 := 51) (As := []) (st := [.ref 109, .int (5 : Int32), .ref 102]) rfl dX6_init_48 rfl w_350 ok_X3_init w_41 rfl rfl rfl (by decide) (Nat.le_of_ble_eq_true rfl) ct_X3i ?_
  refine go_aastore (pc2 := 52) (t := 0) (j := 5) dX6_init_51 rfl (by decide) (Wab_c (by decide) c_102) (Wab_c (by decide) c_109) (by decide) rfl rfl (vp_c rfl) rfl (goW (Wab_s (a := 26) rfl) ?_)
  refine go_iinc (pc2 := 55) (ls2 := [(0, .ref 101), (1, .int (6 : Int32))]) (v := (6 : Int32)) dX6_init_52 rfl rfl (by decide) rfl rfl rfl rfl ?_
  refine go_goto (tgt := 33) dX6_init_55 (by decide) ?_
  refine go_iload_n (pc2 := 34) dX6_init_33 rfl rfl rfl ?_
  refine go_bipush (pc2 := 36) (v := (9 : Int32)) dX6_init_34 rfl (by decide) ?_
  refine go_icmp_ge (pc2 := 39) (tgt := 58) dX6_init_36 rfl (by decide) (fun q => absurd q (by decide)) (fun _ => ?_)
  refine go_aload_n (pc2 := 40) dX6_init_39 rfl rfl rfl ?_
  refine gf_351 (pc2 := 43) (v := .ref 102) rfl dX6_init_40 rfl (Wab_c (by decide) c_101) (fvs (by decide +kernel)) ?_
  refine go_iload_n (pc2 := 44) dX6_init_43 rfl rfl rfl ?_
  refine n_new (a := 26) (b := 110) (c := 9) (d := 2) (bc := 2) (bs := 20) (pc2 := 47) (ci := 3) (T := TX3) (N := 10) (C1 := RX3) tyX3 tyX3_ok dvX3 rfl dX6_init_44 rfl (by decide) (by decide) rfl inX3 w_349 w_39 w_3 c_110 (by decide +kernel) (by decide +kernel) ?_
  refine go_dup (pc2 := 48) dX6_init_47 rfl rfl ?_
  refine n_callN (a := 26) (b := 111) (c := 9) (a' := 26) (b' := 111) (c' := 9) (d := 2) (dC := 1) (bC := 0) (sC := 0) (b0 := 2) (s0 := 20) (pc2 := 51) (As := []) (st := [.ref 110, .int (6 : Int32), .ref 102]) rfl dX6_init_48 rfl w_350 ok_X3_init w_41 rfl rfl rfl (by decide) (Nat.le_of_ble_eq_true rfl) ct_X3i ?_
  refine go_aastore (pc2 := 52) (t := 0) (j := 6) dX6_init_51 rfl (by decide) (Wab_c (by decide) c_102) (Wab_c (by decide) c_110) (by decide) rfl rfl (vp_c rfl) rfl (goW (Wab_s (a := 25) rfl) ?_)
  refine go_iinc (pc2 := 55) (ls2 := [(0, .ref 101), (1, .int (7 : Int32))]) (v := (7 : Int32)) dX6_init_52 rfl rfl (by decide) rfl rfl rfl rfl ?_
  refine go_goto (tgt := 33) dX6_init_55 (by decide) ?_
  refine go_iload_n (pc2 := 34) dX6_init_33 rfl rfl rfl ?_
  refine go_bipush (pc2 := 36) (v := (9 : Int32)) dX6_init_34 rfl (by decide) ?_
  refine go_icmp_ge (pc2 := 39) (tgt := 58) dX6_init_36 rfl (by decide) (fun q => absurd q (by decide)) (fun _ => ?_)
  refine go_aload_n (pc2 := 40) dX6_init_39 rfl rfl rfl ?_
  refine gf_351 (pc2 := 43) (v := .ref 102) rfl dX6_init_40 rfl (Wab_c (by decide) c_101) (fvs (by decide +kernel)) ?_
  refine go_iload_n (pc2 := 44) dX6_init_43 rfl rfl rfl ?_
  refine n_new (a := 25) (b := 111) (c := 9) (d := 2) (bc := 1) (bs := 10) (pc2 := 47) (ci := 3) (T := TX3) (N := 10) (C1 := RX3) tyX3 tyX3_ok dvX3 rfl dX6_init_44 rfl (by decide) (by decide) rfl inX3 w_349 w_39 w_3 c_111 (by decide +kernel) (by decide +kernel) ?_
  refine go_dup (pc2 := 48) dX6_init_47 rfl rfl ?_
  refine n_callN (a := 25) (b := 112) (c := 9) (a' := 25) (b' := 112) (c' := 9) (d := 2) (dC := 1) (bC := 0) (sC := 0) (b0 := 1) (s0 := 10) (pc2 := 51) (As := []) (st := [.ref 111, .int (7 : Int32), .ref 102]) rfl dX6_init_48 rfl w_350 ok_X3_init w_41 rfl rfl rfl (by decide) (Nat.le_of_ble_eq_true rfl) ct_X3i ?_
  refine go_aastore (pc2 := 52) (t := 0) (j := 7) dX6_init_51 rfl (by decide) (Wab_c (by decide) c_102) (Wab_c (by decide) c_111) (by decide) rfl rfl (vp_c rfl) rfl (goW (Wab_s (a := 24) rfl) ?_)
  refine go_iinc (pc2 := 55) (ls2 := [(0, .ref 101), (1, .int (8 : Int32))]) (v := (8 : Int32)) dX6_init_52 rfl rfl (by decide) rfl rfl rfl rfl ?_
  refine go_goto (tgt := 33) dX6_init_55 (by decide) ?_
  refine go_iload_n (pc2 := 34) dX6_init_33 rfl rfl rfl ?_
  refine go_bipush (pc2 := 36) (v := (9 : Int32)) dX6_init_34 rfl (by decide) ?_
  refine go_icmp_ge (pc2 := 39) (tgt := 58) dX6_init_36 rfl (by decide) (fun q => absurd q (by decide)) (fun _ => ?_)
  refine go_aload_n (pc2 := 40) dX6_init_39 rfl rfl rfl ?_
  refine gf_351 (pc2 := 43) (v := .ref 102) rfl dX6_init_40 rfl (Wab_c (by decide) c_101) (fvs (by decide +kernel)) ?_
  refine go_iload_n (pc2 := 44) dX6_init_43 rfl rfl rfl ?_
  refine n_new (a := 24) (b := 112) (c := 9) (d := 2) (bc := 0) (bs := 0) (pc2 := 47) (ci := 3) (T := TX3) (N := 10) (C1 := RX3) tyX3 tyX3_ok dvX3 rfl dX6_init_44 rfl (by decide) (by decide) rfl inX3 w_349 w_39 w_3 c_112 (by decide +kernel) (by decide +kernel) ?_
  refine go_dup (pc2 := 48) dX6_init_47 rfl rfl ?_
  refine n_callN (a := 24) (b := 113) (c := 9) (a' := 24) (b' := 113) (c' := 9) (d := 2) (dC := 1) (bC := 0) (sC := 0) (b0 := 0) (s0 := 0) (pc2 := 51) (As := []) (st := [.ref 112, .int (8 : Int32), .ref 102]) rfl dX6_init_48 rfl w_350 ok_X3_init w_41 rfl rfl rfl (by decide) (Nat.le_of_ble_eq_true rfl) ct_X3i ?_
  refine go_aastore (pc2 := 52) (t := 0) (j := 8) dX6_init_51 rfl (by decide) (Wab_c (by decide) c_102) (Wab_c (by decide) c_112) (by decide) rfl rfl (vp_c rfl) rfl (goW (Wab_s (a := 23) rfl) ?_)
  refine go_iinc (pc2 := 55) (ls2 := [(0, .ref 101), (1, .int (9 : Int32))]) (v := (9 : Int32)) dX6_init_52 rfl rfl (by decide) rfl rfl rfl rfl ?_
  refine go_goto (tgt := 33) dX6_init_55 (by decide) ?_
  refine go_iload_n (pc2 := 34) dX6_init_33 rfl rfl rfl ?_
  refine go_bipush (pc2 := 36) (v := (9 : Int32)) dX6_init_34 rfl (by decide) ?_
  refine go_icmp_ge (pc2 := 39) (tgt := 58) dX6_init_36 rfl (by decide) (fun _ => ?_) (fun q => absurd (by decide) q)
  exact go_ret dX6_init_58 rfl ⟨rfl, rfl, rfl⟩
theorem ci_X10_init_0 {X : Nat → Int32} {L : Nat} : Ct (Wab 140 1) (3, 112, 1682) mX10_init [.ref 0] (hS X L 39) (qW X L 22 113 9) := by
  refine Ct.of (by decide +kernel) (Nat.le_of_ble_eq_true rfl) ?_
  show Go (Wab 140 1) (3, 112, 1682) mX10_init 0 [(0, .ref 0)] [] (hS X L 39) (qW X L 22 113 9)
  refine go_aload_n (pc2 := 1) dX10_init_0 rfl rfl rfl ?_
  refine go_obj (pc2 := 4) rfl dX10_init_1 rfl w_28 (by decide) (Nat.le_of_ble_eq_true rfl) ?_
  refine go_aload_n (pc2 := 5) dX10_init_4 rfl rfl rfl ?_
  refine n_new (a := 140) (b := 1) (c := 39) (d := 3) (bc := 111) (bs := 1673) (pc2 := 8) (ci := 5) (T := TX5) (N := 9) (C1 := RX5) tyX5 tyX5_ok dvX5 rfl dX10_init_5 rfl (by decide) (by decide) rfl inX5 w_31 w_32 w_2 c_1 (by decide +kernel) (by decide +kernel) ?_
  refine go_dup (pc2 := 9) dX10_init_8 rfl rfl ?_
  refine n_callN (a := 140) (b := 2) (c := 39) (a' := 133) (b' := 9) (c' := 35) (d := 3) (dC := 2) (bC := 7) (sC := 48) (b0 := 104) (s0 := 1625) (pc2 := 12) (As := []) (st := [.ref 1, .ref 0]) rfl dX10_init_9 rfl w_33 ok_X5_init w_34 rfl rfl rfl (by decide) (Nat.le_of_ble_eq_true rfl) ci_X5_init_1 ?_
  refine ps_369 (pc2 := 15) rfl rfl dX10_init_12 rfl (Wab_c (by decide) c_0) (goW (Wab_s (a := 132) rfl) ?_)
  refine go_aload_n (pc2 := 16) dX10_init_15 rfl rfl rfl ?_
  refine n_new (a := 132) (b := 9) (c := 35) (d := 3) (bc := 103) (bs := 1616) (pc2 := 19) (ci := 5) (T := TX5) (N := 9) (C1 := RX5) tyX5 tyX5_ok dvX5 rfl dX10_init_16 rfl (by decide) (by decide) rfl inX5 w_31 w_32 w_2 c_9 (by decide +kernel) (by decide +kernel) ?_
  refine go_dup (pc2 := 20) dX10_init_19 rfl rfl ?_
  refine n_callN (a := 132) (b := 10) (c := 35) (a' := 125) (b' := 17) (c' := 31) (d := 3) (dC := 2) (bC := 7) (sC := 48) (b0 := 96) (s0 := 1568) (pc2 := 23) (As := []) (st := [.ref 9, .ref 0]) rfl dX10_init_20 rfl w_33 ok_X5_init w_34 rfl rfl rfl (by decide) (Nat.le_of_ble_eq_true rfl) ci_X5_init_9 ?_
  refine ps_370 (pc2 := 26) rfl rfl dX10_init_23 rfl (Wab_c (by decide) c_0) (goW (Wab_s (a := 124) rfl) ?_)
  refine go_aload_n (pc2 := 27) dX10_init_26 rfl rfl rfl ?_
  refine n_new (a := 124) (b := 17) (c := 31) (d := 3) (bc := 95) (bs := 1559) (pc2 := 30) (ci := 5) (T := TX5) (N := 9) (C1 := RX5) tyX5 tyX5_ok dvX5 rfl dX10_init_27 rfl (by decide) (by decide) rfl inX5 w_31 w_32 w_2 c_17 (by decide +kernel) (by decide +kernel) ?_
  refine go_dup (pc2 := 31) dX10_init_30 rfl rfl ?_
  refine n_callN (a := 124) (b := 18) (c := 31) (a' := 117) (b' := 25) (c' := 27) (d := 3) (dC := 2) (bC := 7) (sC := 48) (b0 := 88) (s0 := 1511) (pc2 := 34) (As := []) (st := [.ref 17, .ref 0]) rfl dX10_init_31 rfl w_33 ok_X5_init w_34 rfl rfl rfl (by decide) (Nat.le_of_ble_eq_true rfl) ci_X5_init_17 ?_
  refine ps_371 (pc2 := 37) rfl rfl dX10_init_34 rfl (Wab_c (by decide) c_0) (goW (Wab_s (a := 116) rfl) ?_)
  refine go_aload_n (pc2 := 38) dX10_init_37 rfl rfl rfl ?_
  refine go_iconst (pc2 := 39) (v := (0 : Int32)) dX10_init_38 rfl (by decide) ?_
  refine pf_372 (pc2 := 42) rfl dX10_init_39 rfl (Wab_c (by decide) c_0) rfl rfl (goH (hS_s (c := 26) rfl) ?_)
  refine go_aload_n (pc2 := 43) dX10_init_42 rfl rfl rfl ?_
  refine n_new (a := 116) (b := 25) (c := 26) (d := 3) (bc := 87) (bs := 1506) (pc2 := 46) (ci := 8) (T := TX8) (N := 5) (C1 := RX8) tyX8 tyX8_ok dvX8 rfl dX10_init_43 rfl (by decide) (by decide) rfl inX8 w_154 w_155 w_4 c_25 (by decide +kernel) (by decide +kernel) ?_
  refine go_dup (pc2 := 47) dX10_init_46 rfl rfl ?_
  refine n_callN (a := 116) (b := 26) (c := 26) (a' := 114) (b' := 28) (c' := 23) (d := 3) (dC := 1) (bC := 2) (sC := 124) (b0 := 85) (s0 := 1382) (pc2 := 50) (As := []) (st := [.ref 25, .ref 0]) rfl dX10_init_47 rfl w_156 ok_X8_init w_157 rfl rfl rfl (by decide) (Nat.le_of_ble_eq_true rfl) ci_X8_init_25 ?_
  refine ps_373 (pc2 := 53) rfl rfl dX10_init_50 rfl (Wab_c (by decide) c_0) (goW (Wab_s (a := 113) rfl) ?_)
  refine go_aload_n (pc2 := 54) dX10_init_53 rfl rfl rfl ?_
  refine n_new (a := 113) (b := 28) (c := 23) (d := 3) (bc := 84) (bs := 1374) (pc2 := 57) (ci := 0) (T := TX0) (N := 8) (C1 := RX0) tyX0 tyX0_ok dvX0 rfl dX10_init_54 rfl (by decide) (by decide) rfl inX0 w_177 w_178 w_5 c_28 (by decide +kernel) (by decide +kernel) ?_
  refine go_dup (pc2 := 58) dX10_init_57 rfl rfl ?_
  refine n_callN (a := 113) (b := 29) (c := 23) (a' := 106) (b' := 36) (c' := 22) (d := 3) (dC := 1) (bC := 7) (sC := 21) (b0 := 77) (s0 := 1353) (pc2 := 61) (As := []) (st := [.ref 28, .ref 0]) rfl dX10_init_58 rfl w_179 ok_X0_init w_180 rfl rfl rfl (by decide) (Nat.le_of_ble_eq_true rfl) ci_X0_init_28 ?_
  refine ps_374 (pc2 := 64) rfl rfl dX10_init_61 rfl (Wab_c (by decide) c_0) (goW (Wab_s (a := 105) rfl) ?_)
  refine go_aload_n (pc2 := 65) dX10_init_64 rfl rfl rfl ?_
  refine n_new (a := 105) (b := 36) (c := 22) (d := 3) (bc := 76) (bs := 1350) (pc2 := 68) (ci := 9) (T := TX9) (N := 3) (C1 := RX9) tyX9 tyX9_ok dvX9 rfl dX10_init_65 rfl (by decide) (by decide) rfl inX9 w_209 w_210 w_6 c_36 (by decide +kernel) (by decide +kernel) ?_
  refine go_dup (pc2 := 69) dX10_init_68 rfl rfl ?_
  refine go_aload_n (pc2 := 70) dX10_init_69 rfl rfl rfl ?_
  refine gf_369 (pc2 := 73) (v := .ref 1) rfl dX10_init_70 rfl (Wab_c (by decide) c_0) (fvs (by decide +kernel)) ?_
  refine go_aload_n (pc2 := 74) dX10_init_73 rfl rfl rfl ?_
  refine gf_374 (pc2 := 77) (v := .ref 28) rfl dX10_init_74 rfl (Wab_c (by decide) c_0) (fvs (by decide +kernel)) ?_
  refine n_callN (a := 105) (b := 37) (c := 22) (a' := 102) (b' := 38) (c' := 22) (d := 3) (dC := 1) (bC := 1) (sC := 3) (b0 := 75) (s0 := 1347) (pc2 := 80) (As := [.ref 1, .ref 28]) (st := [.ref 36, .ref 0]) rfl dX10_init_77 rfl w_211 ok_X9_init w_212 rfl rfl rfl (by decide) (Nat.le_of_ble_eq_true rfl) ci_X9_init_36 ?_
  refine ps_375 (pc2 := 83) rfl rfl dX10_init_80 rfl (Wab_c (by decide) c_0) (goW (Wab_s (a := 101) rfl) ?_)
  refine go_aload_n (pc2 := 84) dX10_init_83 rfl rfl rfl ?_
  refine n_new (a := 101) (b := 38) (c := 22) (d := 3) (bc := 74) (bs := 1334) (pc2 := 87) (ci := 7) (T := TX7) (N := 13) (C1 := RX7) tyX7 tyX7_ok dvX7 rfl dX10_init_84 rfl (by decide) (by decide) rfl inX7 w_225 w_226 w_7 c_38 (by decide +kernel) (by decide +kernel) ?_
  refine go_dup (pc2 := 88) dX10_init_87 rfl rfl ?_
  refine go_aload_n (pc2 := 89) dX10_init_88 rfl rfl rfl ?_
  refine gf_369 (pc2 := 92) (v := .ref 1) rfl dX10_init_89 rfl (Wab_c (by decide) c_0) (fvs (by decide +kernel)) ?_
  refine go_aload_n (pc2 := 93) dX10_init_92 rfl rfl rfl ?_
  refine gf_374 (pc2 := 96) (v := .ref 28) rfl dX10_init_93 rfl (Wab_c (by decide) c_0) (fvs (by decide +kernel)) ?_
  refine n_callN (a := 101) (b := 39) (c := 22) (a' := 82) (b' := 58) (c' := 19) (d := 3) (dC := 1) (bC := 19) (sC := 864) (b0 := 55) (s0 := 470) (pc2 := 99) (As := [.ref 1, .ref 28]) (st := [.ref 38, .ref 0]) rfl dX10_init_96 rfl w_227 ok_X7_init w_228 rfl rfl rfl (by decide) (Nat.le_of_ble_eq_true rfl) ci_X7_init_38 ?_
  refine ps_376 (pc2 := 102) rfl rfl dX10_init_99 rfl (Wab_c (by decide) c_0) (goW (Wab_s (a := 81) rfl) ?_)
  refine go_aload_n (pc2 := 103) dX10_init_102 rfl rfl rfl ?_
  refine n_new (a := 81) (b := 58) (c := 19) (d := 3) (bc := 54) (bs := 464) (pc2 := 106) (ci := 2) (T := TX2) (N := 6) (C1 := RX2) tyX2 tyX2_ok dvX2 rfl dX10_init_103 rfl (by decide) (by decide) rfl inX2 w_277 w_278 w_8 c_58 (by decide +kernel) (by decide +kernel) ?_
  refine go_dup (pc2 := 107) dX10_init_106 rfl rfl ?_
  refine go_aload_n (pc2 := 108) dX10_init_107 rfl rfl rfl ?_
  refine gf_369 (pc2 := 111) (v := .ref 1) rfl dX10_init_108 rfl (Wab_c (by decide) c_0) (fvs (by decide +kernel)) ?_
  refine n_callN (a := 81) (b := 59) (c := 19) (a' := 75) (b' := 64) (c' := 19) (d := 3) (dC := 1) (bC := 5) (sC := 19) (b0 := 49) (s0 := 445) (pc2 := 114) (As := [.ref 1]) (st := [.ref 58, .ref 0]) rfl dX10_init_111 rfl w_279 ok_X2_init w_280 rfl rfl rfl (by decide) (Nat.le_of_ble_eq_true rfl) ci_X2_init_58 ?_
  refine ps_377 (pc2 := 117) rfl rfl dX10_init_114 rfl (Wab_c (by decide) c_0) (goW (Wab_s (a := 74) rfl) ?_)
  refine go_aload_n (pc2 := 118) dX10_init_117 rfl rfl rfl ?_
  refine n_new (a := 74) (b := 64) (c := 19) (d := 3) (bc := 48) (bs := 441) (pc2 := 121) (ci := 4) (T := TX4) (N := 4) (C1 := RX4) tyX4 tyX4_ok dvX4 rfl dX10_init_118 rfl (by decide) (by decide) rfl inX4 w_307 w_308 w_9 c_64 (by decide +kernel) (by decide +kernel) ?_
  refine go_dup (pc2 := 122) dX10_init_121 rfl rfl ?_
  refine go_aload_n (pc2 := 123) dX10_init_122 rfl rfl rfl ?_
  refine gf_369 (pc2 := 126) (v := .ref 1) rfl dX10_init_123 rfl (Wab_c (by decide) c_0) (fvs (by decide +kernel)) ?_
  refine go_aload_n (pc2 := 127) dX10_init_126 rfl rfl rfl ?_
  refine gf_377 (pc2 := 130) (v := .ref 58) rfl dX10_init_127 rfl (Wab_c (by decide) c_0) (fvs (by decide +kernel)) ?_
  refine go_aload_n (pc2 := 131) dX10_init_130 rfl rfl rfl ?_
  refine gf_375 (pc2 := 134) (v := .ref 36) rfl dX10_init_131 rfl (Wab_c (by decide) c_0) (fvs (by decide +kernel)) ?_
  refine n_callN (a := 74) (b := 65) (c := 19) (a' := 70) (b' := 66) (c' := 19) (d := 3) (dC := 1) (bC := 1) (sC := 3) (b0 := 47) (s0 := 438) (pc2 := 137) (As := [.ref 1, .ref 58, .ref 36]) (st := [.ref 64, .ref 0]) rfl dX10_init_134 rfl w_309 ok_X4_init w_310 rfl rfl rfl (by decide) (Nat.le_of_ble_eq_true rfl) ci_X4_init_64 ?_
  refine ps_378 (pc2 := 140) rfl rfl dX10_init_137 rfl (Wab_c (by decide) c_0) (goW (Wab_s (a := 69) rfl) ?_)
  refine go_aload_n (pc2 := 141) dX10_init_140 rfl rfl rfl ?_
  refine go_iconst (pc2 := 142) (v := (4 : Int32)) dX10_init_141 rfl (by decide) ?_
  refine n_aarr (a := 69) (b := 66) (c := 19) (d := 3) (bc := 46) (bs := 434) (pc2 := 145) (t := 1) (N := 4) (by decide) rfl rfl dX10_init_142 rfl (by decide) w_327 (by decide) (by decide) (by decide) c_66 (by decide +kernel) (by decide +kernel) ?_
  refine ps_379 (pc2 := 148) rfl rfl dX10_init_145 rfl (Wab_c (by decide) c_0) (goW (Wab_s (a := 68) rfl) ?_)
  refine go_aload_n (pc2 := 149) dX10_init_148 rfl rfl rfl ?_
  refine go_iconst (pc2 := 150) (v := (3 : Int32)) dX10_init_149 rfl (by decide) ?_
  refine n_aarr (a := 68) (b := 67) (c := 19) (d := 3) (bc := 45) (bs := 431) (pc2 := 153) (t := 2) (N := 3) (by decide) rfl rfl dX10_init_150 rfl (by decide) w_329 (by decide) (by decide) (by decide) c_67 (by decide +kernel) (by decide +kernel) ?_
  refine ps_380 (pc2 := 156) rfl rfl dX10_init_153 rfl (Wab_c (by decide) c_0) (goW (Wab_s (a := 67) rfl) ?_)
  refine go_aload_n (pc2 := 157) dX10_init_156 rfl rfl rfl ?_
  refine go_bipush (pc2 := 159) (v := (7 : Int32)) dX10_init_157 rfl (by decide) ?_
  refine n_arr (a := 67) (b := 68) (c := 19) (d := 3) (bc := 44) (bs := 424) (pc2 := 161) (t := 0) (N := 7) (by decide) rfl dX10_init_159 rfl (by decide) w_96 (by decide) (by decide) (by decide) c_68 (by decide +kernel) ?_
  refine ps_381 (pc2 := 164) rfl rfl dX10_init_161 rfl (Wab_c (by decide) c_0) (goW (Wab_s (a := 66) rfl) ?_)
  refine go_iconst (pc2 := 165) (v := (0 : Int32)) dX10_init_164 rfl (by decide) ?_
  refine go_istore_n (pc2 := 166) (ls2 := [(0, .ref 0), (1, .int (0 : Int32))]) dX10_init_165 rfl rfl rfl rfl rfl rfl ?_
  refine go_iload_n (pc2 := 167) dX10_init_166 rfl rfl rfl ?_
  refine go_iconst (pc2 := 168) (v := (4 : Int32)) dX10_init_167 rfl (by decide) ?_
  refine go_icmp_ge (pc2 := 171) (tgt := 190) dX10_init_168 rfl (by decide) (fun q => absurd q (by decide)) (fun _ => ?_)
  refine go_aload_n (pc2 := 172) dX10_init_171 rfl rfl rfl ?_
  refine gf_379 (pc2 := 175) (v := .ref 66) rfl dX10_init_172 rfl (Wab_c (by decide) c_0) (fvs (by decide +kernel)) ?_
  refine go_iload_n (pc2 := 176) dX10_init_175 rfl rfl rfl ?_
  refine n_new (a := 66) (b := 69) (c := 19) (d := 3) (bc := 43) (bs := 422) (pc2 := 179) (ci := 1) (T := TX1) (N := 2) (C1 := RX1) tyX1 tyX1_ok dvX1 rfl dX10_init_176 rfl (by decide) (by decide) rfl inX1 w_327 w_331 w_10 c_69 (by decide +kernel) (by decide +kernel) ?_
  refine go_dup (pc2 := 180) dX10_init_179 rfl rfl ?_
  refine n_callN (a := 66) (b := 70) (c := 19) (a' := 65) (b' := 71) (c' := 18) (d := 3) (dC := 1) (bC := 1) (sC := 20) (b0 := 42) (s0 := 402) (pc2 := 183) (As := []) (st := [.ref 69, .int (0 : Int32), .ref 66]) rfl dX10_init_180 rfl w_332 ok_X1_init w_333 rfl rfl rfl (by decide) (Nat.le_of_ble_eq_true rfl) ci_X1_init_69 ?_
  refine go_aastore (pc2 := 184) (t := 1) (j := 0) dX10_init_183 rfl (by decide) (Wab_c (by decide) c_66) (Wab_c (by decide) c_69) (by decide) rfl rfl (vp_c rfl) rfl (goW (Wab_s (a := 64) rfl) ?_)
  refine go_iinc (pc2 := 187) (ls2 := [(0, .ref 0), (1, .int (1 : Int32))]) (v := (1 : Int32)) dX10_init_184 rfl rfl (by decide) rfl rfl rfl rfl ?_
  refine go_goto (tgt := 166) dX10_init_187 (by decide) ?_
  refine go_iload_n (pc2 := 167) dX10_init_166 rfl rfl rfl ?_
  refine go_iconst (pc2 := 168) (v := (4 : Int32)) dX10_init_167 rfl (by decide) ?_
  refine go_icmp_ge (pc2 := 171) (tgt := 190) dX10_init_168 rfl (by decide) (fun q => absurd q (by decide)) (fun _ => ?_)
  refine go_aload_n (pc2 := 172) dX10_init_171 rfl rfl rfl ?_
  refine gf_379 (pc2 := 175) (v := .ref 66) rfl dX10_init_172 rfl (Wab_c (by decide) c_0) (fvs (by decide +kernel)) ?_
  refine go_iload_n (pc2 := 176) dX10_init_175 rfl rfl rfl ?_
  refine n_new (a := 64) (b := 71) (c := 18) (d := 3) (bc := 41) (bs := 400) (pc2 := 179) (ci := 1) (T := TX1) (N := 2) (C1 := RX1) tyX1 tyX1_ok dvX1 rfl dX10_init_176 rfl (by decide) (by decide) rfl inX1 w_327 w_331 w_10 c_71 (by decide +kernel) (by decide +kernel) ?_
  refine go_dup (pc2 := 180) dX10_init_179 rfl rfl ?_
  refine n_callN (a := 64) (b := 72) (c := 18) (a' := 63) (b' := 73) (c' := 17) (d := 3) (dC := 1) (bC := 1) (sC := 20) (b0 := 40) (s0 := 380) (pc2 := 183) (As := []) (st := [.ref 71, .int (1 : Int32), .ref 66]) rfl dX10_init_180 rfl w_332 ok_X1_init w_333 rfl rfl rfl (by decide) (Nat.le_of_ble_eq_true rfl) ci_X1_init_71 ?_
  refine go_aastore (pc2 := 184) (t := 1) (j := 1) dX10_init_183 rfl (by decide) (Wab_c (by decide) c_66) (Wab_c (by decide) c_71) (by decide) rfl rfl (vp_c rfl) rfl (goW (Wab_s (a := 62) rfl) ?_)
  refine go_iinc (pc2 := 187) (ls2 := [(0, .ref 0), (1, .int (2 : Int32))]) (v := (2 : Int32)) dX10_init_184 rfl rfl (by decide) rfl rfl rfl rfl ?_
  refine go_goto (tgt := 166) dX10_init_187 (by decide) ?_
  refine go_iload_n (pc2 := 167) dX10_init_166 rfl rfl rfl ?_
  refine go_iconst (pc2 := 168) (v := (4 : Int32)) dX10_init_167 rfl (by decide) ?_
  refine go_icmp_ge (pc2 := 171) (tgt := 190) dX10_init_168 rfl (by decide) (fun q => absurd q (by decide)) (fun _ => ?_)
  refine go_aload_n (pc2 := 172) dX10_init_171 rfl rfl rfl ?_
  refine gf_379 (pc2 := 175) (v := .ref 66) rfl dX10_init_172 rfl (Wab_c (by decide) c_0) (fvs (by decide +kernel)) ?_
  refine go_iload_n (pc2 := 176) dX10_init_175 rfl rfl rfl ?_
  refine n_new (a := 62) (b := 73) (c := 17) (d := 3) (bc := 39) (bs := 378) (pc2 := 179) (ci := 1) (T := TX1) (N := 2) (C1 := RX1) tyX1 tyX1_ok dvX1 rfl dX10_init_176 rfl (by decide) (by decide) rfl inX1 w_327 w_331 w_10 c_73 (by decide +kernel) (by decide +kernel) ?_
  refine go_dup (pc2 := 180) dX10_init_179 rfl rfl ?_
  refine n_callN (a := 62) (b := 74) (c := 17) (a' := 61) (b' := 75) (c' := 16) (d := 3) (dC := 1) (bC := 1) (sC := 20) (b0 := 38) (s0 := 358) (pc2 := 183) (As := []) (st := [.ref 73, .int (2 : Int32), .ref 66]) rfl dX10_init_180 rfl w_332 ok_X1_init w_333 rfl rfl rfl (by decide) (Nat.le_of_ble_eq_true rfl) ci_X1_init_73 ?_
  refine go_aastore (pc2 := 184) (t := 1) (j := 2) dX10_init_183 rfl (by decide) (Wab_c (by decide) c_66) (Wab_c (by decide) c_73) (by decide) rfl rfl (vp_c rfl) rfl (goW (Wab_s (a := 60) rfl) ?_)
  refine go_iinc (pc2 := 187) (ls2 := [(0, .ref 0), (1, .int (3 : Int32))]) (v := (3 : Int32)) dX10_init_184 rfl rfl (by decide) rfl rfl rfl rfl ?_
  refine go_goto (tgt := 166) dX10_init_187 (by decide) ?_
  refine go_iload_n (pc2 := 167) dX10_init_166 rfl rfl rfl ?_
  refine go_iconst (pc2 := 168) (v := (4 : Int32)) dX10_init_167 rfl (by decide) ?_
  refine go_icmp_ge (pc2 := 171) (tgt := 190) dX10_init_168 rfl (by decide) (fun q => absurd q (by decide)) (fun _ => ?_)
  refine go_aload_n (pc2 := 172) dX10_init_171 rfl rfl rfl ?_
  refine gf_379 (pc2 := 175) (v := .ref 66) rfl dX10_init_172 rfl (Wab_c (by decide) c_0) (fvs (by decide +kernel)) ?_
  refine go_iload_n (pc2 := 176) dX10_init_175 rfl rfl rfl ?_
  refine n_new (a := 60) (b := 75) (c := 16) (d := 3) (bc := 37) (bs := 356) (pc2 := 179) (ci := 1) (T := TX1) (N := 2) (C1 := RX1) tyX1 tyX1_ok dvX1 rfl dX10_init_176 rfl (by decide) (by decide) rfl inX1 w_327 w_331 w_10 c_75 (by decide +kernel) (by decide +kernel) ?_
  refine go_dup (pc2 := 180) dX10_init_179 rfl rfl ?_
  refine n_callN (a := 60) (b := 76) (c := 16) (a' := 59) (b' := 77) (c' := 15) (d := 3) (dC := 1) (bC := 1) (sC := 20) (b0 := 36) (s0 := 336) (pc2 := 183) (As := []) (st := [.ref 75, .int (3 : Int32), .ref 66]) rfl dX10_init_180 rfl w_332 ok_X1_init w_333 rfl rfl rfl (by decide) (Nat.le_of_ble_eq_true rfl) ci_X1_init_75 ?_
  refine go_aastore (pc2 := 184) (t := 1) (j := 3) dX10_init_183 rfl (by decide) (Wab_c (by decide) c_66) (Wab_c (by decide) c_75) (by decide) rfl rfl (vp_c rfl) rfl (goW (Wab_s (a := 58) rfl) ?_)
  refine go_iinc (pc2 := 187) (ls2 := [(0, .ref 0), (1, .int (4 : Int32))]) (v := (4 : Int32)) dX10_init_184 rfl rfl (by decide) rfl rfl rfl rfl ?_
  refine go_goto (tgt := 166) dX10_init_187 (by decide) ?_
  refine go_iload_n (pc2 := 167) dX10_init_166 rfl rfl rfl ?_
  refine go_iconst (pc2 := 168) (v := (4 : Int32)) dX10_init_167 rfl (by decide) ?_
  refine go_icmp_ge (pc2 := 171) (tgt := 190) dX10_init_168 rfl (by decide) (fun _ => ?_) (fun q => absurd (by decide) q)
  refine go_iconst (pc2 := 191) (v := (0 : Int32)) dX10_init_190 rfl (by decide) ?_
  refine go_istore_n (pc2 := 192) (ls2 := [(0, .ref 0), (1, .int (0 : Int32))]) dX10_init_191 rfl rfl rfl rfl rfl rfl ?_
  refine go_iload_n (pc2 := 193) dX10_init_192 rfl rfl rfl ?_
  refine go_iconst (pc2 := 194) (v := (3 : Int32)) dX10_init_193 rfl (by decide) ?_
  refine go_icmp_ge (pc2 := 197) (tgt := 216) dX10_init_194 rfl (by decide) (fun q => absurd q (by decide)) (fun _ => ?_)
  refine go_aload_n (pc2 := 198) dX10_init_197 rfl rfl rfl ?_
  refine gf_380 (pc2 := 201) (v := .ref 67) rfl dX10_init_198 rfl (Wab_c (by decide) c_0) (fvs (by decide +kernel)) ?_
  refine go_iload_n (pc2 := 202) dX10_init_201 rfl rfl rfl ?_
  refine n_new (a := 58) (b := 77) (c := 15) (d := 3) (bc := 35) (bs := 332) (pc2 := 205) (ci := 6) (T := TX6) (N := 4) (C1 := RX6) tyX6 tyX6_ok dvX6 rfl dX10_init_202 rfl (by decide) (by decide) rfl inX6 w_329 w_344 w_11 c_77 (by decide +kernel) (by decide +kernel) ?_
  refine go_dup (pc2 := 206) dX10_init_205 rfl rfl ?_
  refine n_callN (a := 58) (b := 78) (c := 15) (a' := 47) (b' := 89) (c' := 13) (d := 3) (dC := 2) (bC := 11) (sC := 108) (b0 := 24) (s0 := 224) (pc2 := 209) (As := []) (st := [.ref 77, .int (0 : Int32), .ref 67]) rfl dX10_init_206 rfl w_345 ok_X6_init w_346 rfl rfl rfl (by decide) (Nat.le_of_ble_eq_true rfl) ci_X6_init_77 ?_
  refine go_aastore (pc2 := 210) (t := 2) (j := 0) dX10_init_209 rfl (by decide) (Wab_c (by decide) c_67) (Wab_c (by decide) c_77) (by decide) rfl rfl (vp_c rfl) rfl (goW (Wab_s (a := 46) rfl) ?_)
  refine go_iinc (pc2 := 213) (ls2 := [(0, .ref 0), (1, .int (1 : Int32))]) (v := (1 : Int32)) dX10_init_210 rfl rfl (by decide) rfl rfl rfl rfl ?_
  refine go_goto (tgt := 192) dX10_init_213 (by decide) ?_
  refine go_iload_n (pc2 := 193) dX10_init_192 rfl rfl rfl ?_
  refine go_iconst (pc2 := 194) (v := (3 : Int32)) dX10_init_193 rfl (by decide) ?_
  refine go_icmp_ge (pc2 := 197) (tgt := 216) dX10_init_194 rfl (by decide) (fun q => absurd q (by decide)) (fun _ => ?_)
  refine go_aload_n (pc2 := 198) dX10_init_197 rfl rfl rfl ?_
  refine gf_380 (pc2 := 201) (v := .ref 67) rfl dX10_init_198 rfl (Wab_c (by decide) c_0) (fvs (by decide +kernel)) ?_
  refine go_iload_n (pc2 := 202) dX10_init_201 rfl rfl rfl ?_
  refine n_new (a := 46) (b := 89) (c := 13) (d := 3) (bc := 23) (bs := 220) (pc2 := 205) (ci := 6) (T := TX6) (N := 4) (C1 := RX6) tyX6 tyX6_ok dvX6 rfl dX10_init_202 rfl (by decide) (by decide) rfl inX6 w_329 w_344 w_11 c_89 (by decide +kernel) (by decide +kernel) ?_
  refine go_dup (pc2 := 206) dX10_init_205 rfl rfl ?_
  refine n_callN (a := 46) (b := 90) (c := 13) (a' := 35) (b' := 101) (c' := 11) (d := 3) (dC := 2) (bC := 11) (sC := 108) (b0 := 12) (s0 := 112) (pc2 := 209) (As := []) (st := [.ref 89, .int (1 : Int32), .ref 67]) rfl dX10_init_206 rfl w_345 ok_X6_init w_346 rfl rfl rfl (by decide) (Nat.le_of_ble_eq_true rfl) ci_X6_init_89 ?_
  refine go_aastore (pc2 := 210) (t := 2) (j := 1) dX10_init_209 rfl (by decide) (Wab_c (by decide) c_67) (Wab_c (by decide) c_89) (by decide) rfl rfl (vp_c rfl) rfl (goW (Wab_s (a := 34) rfl) ?_)
  refine go_iinc (pc2 := 213) (ls2 := [(0, .ref 0), (1, .int (2 : Int32))]) (v := (2 : Int32)) dX10_init_210 rfl rfl (by decide) rfl rfl rfl rfl ?_
  refine go_goto (tgt := 192) dX10_init_213 (by decide) ?_
  refine go_iload_n (pc2 := 193) dX10_init_192 rfl rfl rfl ?_
  refine go_iconst (pc2 := 194) (v := (3 : Int32)) dX10_init_193 rfl (by decide) ?_
  refine go_icmp_ge (pc2 := 197) (tgt := 216) dX10_init_194 rfl (by decide) (fun q => absurd q (by decide)) (fun _ => ?_)
  refine go_aload_n (pc2 := 198) dX10_init_197 rfl rfl rfl ?_
  refine gf_380 (pc2 := 201) (v := .ref 67) rfl dX10_init_198 rfl (Wab_c (by decide) c_0) (fvs (by decide +kernel)) ?_
  refine go_iload_n (pc2 := 202) dX10_init_201 rfl rfl rfl ?_
  refine n_new (a := 34) (b := 101) (c := 11) (d := 3) (bc := 11) (bs := 108) (pc2 := 205) (ci := 6) (T := TX6) (N := 4) (C1 := RX6) tyX6 tyX6_ok dvX6 rfl dX10_init_202 rfl (by decide) (by decide) rfl inX6 w_329 w_344 w_11 c_101 (by decide +kernel) (by decide +kernel) ?_
  refine go_dup (pc2 := 206) dX10_init_205 rfl rfl ?_
  refine n_callN (a := 34) (b := 102) (c := 11) (a' := 23) (b' := 113) (c' := 9) (d := 3) (dC := 2) (bC := 11) (sC := 108) (b0 := 0) (s0 := 0) (pc2 := 209) (As := []) (st := [.ref 101, .int (2 : Int32), .ref 67]) rfl dX10_init_206 rfl w_345 ok_X6_init w_346 rfl rfl rfl (by decide) (Nat.le_of_ble_eq_true rfl) ci_X6_init_101 ?_
  refine go_aastore (pc2 := 210) (t := 2) (j := 2) dX10_init_209 rfl (by decide) (Wab_c (by decide) c_67) (Wab_c (by decide) c_101) (by decide) rfl rfl (vp_c rfl) rfl (goW (Wab_s (a := 22) rfl) ?_)
  refine go_iinc (pc2 := 213) (ls2 := [(0, .ref 0), (1, .int (3 : Int32))]) (v := (3 : Int32)) dX10_init_210 rfl rfl (by decide) rfl rfl rfl rfl ?_
  refine go_goto (tgt := 192) dX10_init_213 (by decide) ?_
  refine go_iload_n (pc2 := 193) dX10_init_192 rfl rfl rfl ?_
  refine go_iconst (pc2 := 194) (v := (3 : Int32)) dX10_init_193 rfl (by decide) ?_
  refine go_icmp_ge (pc2 := 197) (tgt := 216) dX10_init_194 rfl (by decide) (fun _ => ?_) (fun q => absurd (by decide) q)
  exact go_ret dX10_init_216 rfl ⟨rfl, rfl, rfl⟩
theorem ci_X11_init_113 {X : Nat → Int32} {L : Nat} : Ct (Wab 22 114) (1, 22, 1080) mX11_init [.ref 113] (hS X L 9) (qW X L 0 136 0) := by
  refine Ct.of (by decide +kernel) (Nat.le_of_ble_eq_true rfl) ?_
  show Go (Wab 22 114) (1, 22, 1080) mX11_init 0 [(0, .ref 113)] [] (hS X L 9) (qW X L 0 136 0)
  refine go_aload_n (pc2 := 1) dX11_init_0 rfl rfl rfl ?_
  refine go_obj (pc2 := 4) rfl dX11_init_1 rfl w_1055 (by decide) (Nat.le_of_ble_eq_true rfl) ?_
  refine go_aload_n (pc2 := 5) dX11_init_4 rfl rfl rfl ?_
  refine go_bipush (pc2 := 7) (v := (49 : Int32)) dX11_init_5 rfl (by decide) ?_
  refine n_arr (a := 22) (b := 114) (c := 9) (d := 1) (bc := 21) (bs := 1031) (pc2 := 9) (t := 0) (N := 49) (by decide) rfl dX11_init_7 rfl (by decide) w_96 (by decide) (by decide) (by decide) c_114 (by decide +kernel) ?_
  refine ps_1056 (pc2 := 12) rfl rfl dX11_init_9 rfl (Wab_c (by decide) c_113) (goW (Wab_s (a := 21) rfl) ?_)
  refine go_aload_n (pc2 := 13) dX11_init_12 rfl rfl rfl ?_
  refine go_bipush (pc2 := 15) (v := (49 : Int32)) dX11_init_13 rfl (by decide) ?_
  refine n_arr (a := 21) (b := 115) (c := 9) (d := 1) (bc := 20) (bs := 982) (pc2 := 17) (t := 0) (N := 49) (by decide) rfl dX11_init_15 rfl (by decide) w_96 (by decide) (by decide) (by decide) c_115 (by decide +kernel) ?_
  refine ps_1057 (pc2 := 20) rfl rfl dX11_init_17 rfl (Wab_c (by decide) c_113) (goW (Wab_s (a := 20) rfl) ?_)
  refine go_aload_n (pc2 := 21) dX11_init_20 rfl rfl rfl ?_
  refine go_bipush (pc2 := 23) (v := (49 : Int32)) dX11_init_21 rfl (by decide) ?_
  refine n_arr (a := 20) (b := 116) (c := 9) (d := 1) (bc := 19) (bs := 933) (pc2 := 25) (t := 0) (N := 49) (by decide) rfl dX11_init_23 rfl (by decide) w_96 (by decide) (by decide) (by decide) c_116 (by decide +kernel) ?_
  refine ps_1058 (pc2 := 28) rfl rfl dX11_init_25 rfl (Wab_c (by decide) c_113) (goW (Wab_s (a := 19) rfl) ?_)
  refine go_aload_n (pc2 := 29) dX11_init_28 rfl rfl rfl ?_
  refine go_bipush (pc2 := 31) (v := (7 : Int32)) dX11_init_29 rfl (by decide) ?_
  refine n_arr (a := 19) (b := 117) (c := 9) (d := 1) (bc := 18) (bs := 926) (pc2 := 33) (t := 0) (N := 7) (by decide) rfl dX11_init_31 rfl (by decide) w_96 (by decide) (by decide) (by decide) c_117 (by decide +kernel) ?_
  refine ps_1062 (pc2 := 36) rfl rfl dX11_init_33 rfl (Wab_c (by decide) c_113) (goW (Wab_s (a := 18) rfl) ?_)
  refine go_aload_n (pc2 := 37) dX11_init_36 rfl rfl rfl ?_
  refine go_iconst (pc2 := 38) (v := (3 : Int32)) dX11_init_37 rfl (by decide) ?_
  refine n_arr (a := 18) (b := 118) (c := 9) (d := 1) (bc := 17) (bs := 923) (pc2 := 40) (t := 0) (N := 3) (by decide) rfl dX11_init_38 rfl (by decide) w_96 (by decide) (by decide) (by decide) c_118 (by decide +kernel) ?_
  refine ps_1063 (pc2 := 43) rfl rfl dX11_init_40 rfl (Wab_c (by decide) c_113) (goW (Wab_s (a := 17) rfl) ?_)
  refine go_aload_n (pc2 := 44) dX11_init_43 rfl rfl rfl ?_
  refine go_sipush (pc2 := 47) (v := (320 : Int32)) dX11_init_44 rfl (by decide) ?_
  refine n_arr (a := 17) (b := 119) (c := 9) (d := 1) (bc := 16) (bs := 603) (pc2 := 49) (t := 0) (N := 320) (by decide) rfl dX11_init_47 rfl (by decide) w_96 (by decide) (by decide) (by decide) c_119 (by decide +kernel) ?_
  refine ps_1065 (pc2 := 52) rfl rfl dX11_init_49 rfl (Wab_c (by decide) c_113) (goW (Wab_s (a := 16) rfl) ?_)
  refine go_aload_n (pc2 := 53) dX11_init_52 rfl rfl rfl ?_
  refine go_bipush (pc2 := 55) (v := (96 : Int32)) dX11_init_53 rfl (by decide) ?_
  refine n_arr (a := 16) (b := 120) (c := 9) (d := 1) (bc := 15) (bs := 507) (pc2 := 57) (t := 1) (N := 96) (by decide) rfl dX11_init_55 rfl (by decide) w_368 (by decide) (by decide) (by decide) c_120 (by decide +kernel) ?_
  refine ps_1066 (pc2 := 60) rfl rfl dX11_init_57 rfl (Wab_c (by decide) c_113) (goW (Wab_s (a := 15) rfl) ?_)
  refine go_aload_n (pc2 := 61) dX11_init_60 rfl rfl rfl ?_
  refine go_bipush (pc2 := 63) (v := (96 : Int32)) dX11_init_61 rfl (by decide) ?_
  refine n_arr (a := 15) (b := 121) (c := 9) (d := 1) (bc := 14) (bs := 411) (pc2 := 65) (t := 0) (N := 96) (by decide) rfl dX11_init_63 rfl (by decide) w_96 (by decide) (by decide) (by decide) c_121 (by decide +kernel) ?_
  refine ps_1067 (pc2 := 68) rfl rfl dX11_init_65 rfl (Wab_c (by decide) c_113) (goW (Wab_s (a := 14) rfl) ?_)
  refine go_aload_n (pc2 := 69) dX11_init_68 rfl rfl rfl ?_
  refine go_bipush (pc2 := 71) (v := (96 : Int32)) dX11_init_69 rfl (by decide) ?_
  refine n_arr (a := 14) (b := 122) (c := 9) (d := 1) (bc := 13) (bs := 315) (pc2 := 73) (t := 0) (N := 96) (by decide) rfl dX11_init_71 rfl (by decide) w_96 (by decide) (by decide) (by decide) c_122 (by decide +kernel) ?_
  refine ps_1068 (pc2 := 76) rfl rfl dX11_init_73 rfl (Wab_c (by decide) c_113) (goW (Wab_s (a := 13) rfl) ?_)
  refine go_aload_n (pc2 := 77) dX11_init_76 rfl rfl rfl ?_
  refine go_iconst (pc2 := 78) (v := (3 : Int32)) dX11_init_77 rfl (by decide) ?_
  refine n_arr (a := 13) (b := 123) (c := 9) (d := 1) (bc := 12) (bs := 312) (pc2 := 80) (t := 0) (N := 3) (by decide) rfl dX11_init_78 rfl (by decide) w_96 (by decide) (by decide) (by decide) c_123 (by decide +kernel) ?_
  refine ps_1069 (pc2 := 83) rfl rfl dX11_init_80 rfl (Wab_c (by decide) c_113) (goW (Wab_s (a := 12) rfl) ?_)
  refine go_aload_n (pc2 := 84) dX11_init_83 rfl rfl rfl ?_
  refine go_iconst (pc2 := 85) (v := (3 : Int32)) dX11_init_84 rfl (by decide) ?_
  refine n_arr (a := 12) (b := 124) (c := 9) (d := 1) (bc := 11) (bs := 309) (pc2 := 87) (t := 0) (N := 3) (by decide) rfl dX11_init_85 rfl (by decide) w_96 (by decide) (by decide) (by decide) c_124 (by decide +kernel) ?_
  refine ps_1070 (pc2 := 90) rfl rfl dX11_init_87 rfl (Wab_c (by decide) c_113) (goW (Wab_s (a := 11) rfl) ?_)
  refine go_aload_n (pc2 := 91) dX11_init_90 rfl rfl rfl ?_
  refine go_iconst (pc2 := 92) (v := (3 : Int32)) dX11_init_91 rfl (by decide) ?_
  refine n_arr (a := 11) (b := 125) (c := 9) (d := 1) (bc := 10) (bs := 306) (pc2 := 94) (t := 0) (N := 3) (by decide) rfl dX11_init_92 rfl (by decide) w_96 (by decide) (by decide) (by decide) c_125 (by decide +kernel) ?_
  refine ps_1072 (pc2 := 97) rfl rfl dX11_init_94 rfl (Wab_c (by decide) c_113) (goW (Wab_s (a := 10) rfl) ?_)
  refine go_aload_n (pc2 := 98) dX11_init_97 rfl rfl rfl ?_
  refine go_iconst (pc2 := 99) (v := (5 : Int32)) dX11_init_98 rfl (by decide) ?_
  refine n_arr (a := 10) (b := 126) (c := 9) (d := 1) (bc := 9) (bs := 301) (pc2 := 101) (t := 0) (N := 5) (by decide) rfl dX11_init_99 rfl (by decide) w_96 (by decide) (by decide) (by decide) c_126 (by decide +kernel) ?_
  refine ps_1073 (pc2 := 104) rfl rfl dX11_init_101 rfl (Wab_c (by decide) c_113) (goW (Wab_s (a := 9) rfl) ?_)
  refine go_aload_n (pc2 := 105) dX11_init_104 rfl rfl rfl ?_
  refine go_iconst (pc2 := 106) (v := (3 : Int32)) dX11_init_105 rfl (by decide) ?_
  refine n_arr (a := 9) (b := 127) (c := 9) (d := 1) (bc := 8) (bs := 298) (pc2 := 108) (t := 0) (N := 3) (by decide) rfl dX11_init_106 rfl (by decide) w_96 (by decide) (by decide) (by decide) c_127 (by decide +kernel) ?_
  refine ps_1074 (pc2 := 111) rfl rfl dX11_init_108 rfl (Wab_c (by decide) c_113) (goW (Wab_s (a := 8) rfl) ?_)
  refine go_aload_n (pc2 := 112) dX11_init_111 rfl rfl rfl ?_
  refine go_iconst (pc2 := 113) (v := (3 : Int32)) dX11_init_112 rfl (by decide) ?_
  refine n_arr (a := 8) (b := 128) (c := 9) (d := 1) (bc := 7) (bs := 295) (pc2 := 115) (t := 0) (N := 3) (by decide) rfl dX11_init_113 rfl (by decide) w_96 (by decide) (by decide) (by decide) c_128 (by decide +kernel) ?_
  refine ps_1075 (pc2 := 118) rfl rfl dX11_init_115 rfl (Wab_c (by decide) c_113) (goW (Wab_s (a := 7) rfl) ?_)
  refine go_aload_n (pc2 := 119) dX11_init_118 rfl rfl rfl ?_
  refine go_iconst (pc2 := 120) (v := (4 : Int32)) dX11_init_119 rfl (by decide) ?_
  refine n_arr (a := 7) (b := 129) (c := 9) (d := 1) (bc := 6) (bs := 291) (pc2 := 122) (t := 0) (N := 4) (by decide) rfl dX11_init_120 rfl (by decide) w_96 (by decide) (by decide) (by decide) c_129 (by decide +kernel) ?_
  refine go_dup (pc2 := 123) dX11_init_122 rfl rfl ?_
  refine go_iconst (pc2 := 124) (v := (0 : Int32)) dX11_init_123 rfl (by decide) ?_
  refine go_bipush (pc2 := 126) (v := (-9 : Int32)) dX11_init_124 rfl (by decide) ?_
  refine go_iastore (pc2 := 127) (j := 0) dX11_init_126 rfl (Wab_c (by decide) c_129) (vp_c rfl) rfl (goH (hS_s (c := 8) rfl) ?_)
  refine go_dup (pc2 := 128) dX11_init_127 rfl rfl ?_
  refine go_iconst (pc2 := 129) (v := (1 : Int32)) dX11_init_128 rfl (by decide) ?_
  refine go_bipush (pc2 := 131) (v := (-9 : Int32)) dX11_init_129 rfl (by decide) ?_
  refine go_iastore (pc2 := 132) (j := 1) dX11_init_131 rfl (Wab_c (by decide) c_129) (vp_c rfl) rfl (goH (hS_s (c := 7) rfl) ?_)
  refine go_dup (pc2 := 133) dX11_init_132 rfl rfl ?_
  refine go_iconst (pc2 := 134) (v := (2 : Int32)) dX11_init_133 rfl (by decide) ?_
  refine go_bipush (pc2 := 136) (v := (-9 : Int32)) dX11_init_134 rfl (by decide) ?_
  refine go_iastore (pc2 := 137) (j := 2) dX11_init_136 rfl (Wab_c (by decide) c_129) (vp_c rfl) rfl (goH (hS_s (c := 6) rfl) ?_)
  refine go_dup (pc2 := 138) dX11_init_137 rfl rfl ?_
  refine go_iconst (pc2 := 139) (v := (3 : Int32)) dX11_init_138 rfl (by decide) ?_
  refine go_bipush (pc2 := 141) (v := (-9 : Int32)) dX11_init_139 rfl (by decide) ?_
  refine go_iastore (pc2 := 142) (j := 3) dX11_init_141 rfl (Wab_c (by decide) c_129) (vp_c rfl) rfl (goH (hS_s (c := 5) rfl) ?_)
  refine ps_1076 (pc2 := 145) rfl rfl dX11_init_142 rfl (Wab_c (by decide) c_113) (goW (Wab_s (a := 6) rfl) ?_)
  refine go_aload_n (pc2 := 146) dX11_init_145 rfl rfl rfl ?_
  refine go_bipush (pc2 := 148) (v := (80 : Int32)) dX11_init_146 rfl (by decide) ?_
  refine n_arr (a := 6) (b := 130) (c := 5) (d := 1) (bc := 5) (bs := 211) (pc2 := 150) (t := 0) (N := 80) (by decide) rfl dX11_init_148 rfl (by decide) w_96 (by decide) (by decide) (by decide) c_130 (by decide +kernel) ?_
  refine ps_1077 (pc2 := 153) rfl rfl dX11_init_150 rfl (Wab_c (by decide) c_113) (goW (Wab_s (a := 5) rfl) ?_)
  refine go_aload_n (pc2 := 154) dX11_init_153 rfl rfl rfl ?_
  refine go_iconst (pc2 := 155) (v := (3 : Int32)) dX11_init_154 rfl (by decide) ?_
  refine n_arr (a := 5) (b := 131) (c := 5) (d := 1) (bc := 4) (bs := 208) (pc2 := 157) (t := 0) (N := 3) (by decide) rfl dX11_init_155 rfl (by decide) w_96 (by decide) (by decide) (by decide) c_131 (by decide +kernel) ?_
  refine go_dup (pc2 := 158) dX11_init_157 rfl rfl ?_
  refine go_iconst (pc2 := 159) (v := (0 : Int32)) dX11_init_158 rfl (by decide) ?_
  refine go_bipush (pc2 := 161) (v := (-9 : Int32)) dX11_init_159 rfl (by decide) ?_
  refine go_iastore (pc2 := 162) (j := 0) dX11_init_161 rfl (Wab_c (by decide) c_131) (vp_c rfl) rfl (goH (hS_s (c := 4) rfl) ?_)
  refine go_dup (pc2 := 163) dX11_init_162 rfl rfl ?_
  refine go_iconst (pc2 := 164) (v := (1 : Int32)) dX11_init_163 rfl (by decide) ?_
  refine go_bipush (pc2 := 166) (v := (-9 : Int32)) dX11_init_164 rfl (by decide) ?_
  refine go_iastore (pc2 := 167) (j := 1) dX11_init_166 rfl (Wab_c (by decide) c_131) (vp_c rfl) rfl (goH (hS_s (c := 3) rfl) ?_)
  refine go_dup (pc2 := 168) dX11_init_167 rfl rfl ?_
  refine go_iconst (pc2 := 169) (v := (2 : Int32)) dX11_init_168 rfl (by decide) ?_
  refine go_bipush (pc2 := 171) (v := (-9 : Int32)) dX11_init_169 rfl (by decide) ?_
  refine go_iastore (pc2 := 172) (j := 2) dX11_init_171 rfl (Wab_c (by decide) c_131) (vp_c rfl) rfl (goH (hS_s (c := 2) rfl) ?_)
  refine ps_1078 (pc2 := 175) rfl rfl dX11_init_172 rfl (Wab_c (by decide) c_113) (goW (Wab_s (a := 4) rfl) ?_)
  refine go_aload_n (pc2 := 176) dX11_init_175 rfl rfl rfl ?_
  refine go_iconst (pc2 := 177) (v := (3 : Int32)) dX11_init_176 rfl (by decide) ?_
  refine n_arr (a := 4) (b := 132) (c := 2) (d := 1) (bc := 3) (bs := 205) (pc2 := 179) (t := 0) (N := 3) (by decide) rfl dX11_init_177 rfl (by decide) w_96 (by decide) (by decide) (by decide) c_132 (by decide +kernel) ?_
  refine ps_1079 (pc2 := 182) rfl rfl dX11_init_179 rfl (Wab_c (by decide) c_113) (goW (Wab_s (a := 3) rfl) ?_)
  refine go_aload_n (pc2 := 183) dX11_init_182 rfl rfl rfl ?_
  refine go_bipush (pc2 := 185) (v := (81 : Int32)) dX11_init_183 rfl (by decide) ?_
  refine n_arr (a := 3) (b := 133) (c := 2) (d := 1) (bc := 2) (bs := 124) (pc2 := 187) (t := 0) (N := 81) (by decide) rfl dX11_init_185 rfl (by decide) w_96 (by decide) (by decide) (by decide) c_133 (by decide +kernel) ?_
  refine ps_1080 (pc2 := 190) rfl rfl dX11_init_187 rfl (Wab_c (by decide) c_113) (goW (Wab_s (a := 2) rfl) ?_)
  refine go_aload_n (pc2 := 191) dX11_init_190 rfl rfl rfl ?_
  refine go_bipush (pc2 := 193) (v := (120 : Int32)) dX11_init_191 rfl (by decide) ?_
  refine n_arr (a := 2) (b := 134) (c := 2) (d := 1) (bc := 1) (bs := 4) (pc2 := 195) (t := 0) (N := 120) (by decide) rfl dX11_init_193 rfl (by decide) w_96 (by decide) (by decide) (by decide) c_134 (by decide +kernel) ?_
  refine ps_1081 (pc2 := 198) rfl rfl dX11_init_195 rfl (Wab_c (by decide) c_113) (goW (Wab_s (a := 1) rfl) ?_)
  refine go_aload_n (pc2 := 199) dX11_init_198 rfl rfl rfl ?_
  refine go_iconst (pc2 := 200) (v := (4 : Int32)) dX11_init_199 rfl (by decide) ?_
  refine n_arr (a := 1) (b := 135) (c := 2) (d := 1) (bc := 0) (bs := 0) (pc2 := 202) (t := 0) (N := 4) (by decide) rfl dX11_init_200 rfl (by decide) w_96 (by decide) (by decide) (by decide) c_135 (by decide +kernel) ?_
  refine ps_1086 (pc2 := 205) rfl rfl dX11_init_202 rfl (Wab_c (by decide) c_113) (goW (Wab_s (a := 0) rfl) ?_)
  refine go_aload_n (pc2 := 206) dX11_init_205 rfl rfl rfl ?_
  refine gf_1056 (pc2 := 209) (v := .ref 114) rfl dX11_init_206 rfl (Wab_c (by decide) c_113) (fvs (by decide +kernel)) ?_
  refine go_iconst (pc2 := 210) (v := (0 : Int32)) dX11_init_209 rfl (by decide) ?_
  refine go_iconst (pc2 := 211) (v := (4 : Int32)) dX11_init_210 rfl (by decide) ?_
  refine go_iastore (pc2 := 212) (j := 0) dX11_init_211 rfl (Wab_c (by decide) c_114) (vp_c rfl) rfl (goH (hS_s (c := 1) rfl) ?_)
  refine go_aload_n (pc2 := 213) dX11_init_212 rfl rfl rfl ?_
  refine gf_1056 (pc2 := 216) (v := .ref 114) rfl dX11_init_213 rfl (Wab_c (by decide) c_113) (fvs (by decide +kernel)) ?_
  refine go_iconst (pc2 := 217) (v := (2 : Int32)) dX11_init_216 rfl (by decide) ?_
  refine go_iconst (pc2 := 218) (v := (1 : Int32)) dX11_init_217 rfl (by decide) ?_
  refine go_iastore (pc2 := 219) (j := 2) dX11_init_218 rfl (Wab_c (by decide) c_114) (vp_c rfl) rfl (goH (hS_s (c := 0) rfl) ?_)
  exact go_ret dX11_init_219 rfl ⟨rfl, rfl, rfl⟩
theorem lw_in {X : Nat → Int32} {L : Nat} {Q : Option Value → Wd → Hp → Prop} (k : Go (Wab 0 136) (10, 0, 0) mL_law 18 [(0, .ref 2000), (1, .ref 0), (2, .ref 113), (3, .int (0 : Int32))] [] (hS X L 0) Q) : Go (Wab 140 0) (10, 136, 2806) mL_law 0 [(0, .ref 2000)] [] (hS X L 39) Q := by
  refine n_new (a := 140) (b := 0) (c := 39) (d := 10) (bc := 135) (bs := 2793) (pc2 := 3) (ci := 10) (T := TX10) (N := 13) (C1 := RX10) tyX10 tyX10_ok dvX10 rfl dL_law_0 rfl (by decide) (by decide) rfl inX10 w_23 w_24 w_1 c_0 (by decide +kernel) (by decide +kernel) ?_
  refine go_dup (pc2 := 4) dL_law_3 rfl rfl ?_
  refine n_call (a := 140) (b := 1) (c := 39) (a' := 22) (b' := 113) (c' := 9) (d := 10) (dC := 3) (bC := 112) (sC := 1682) (b0 := 23) (s0 := 1111) (pc2 := 7) (As := []) (st := [.ref 0]) rfl dL_law_4 rfl w_25 ok_X10_init w_26 rfl rfl rfl (by decide) (Nat.le_of_ble_eq_true rfl) ci_X10_init_0 ?_
  refine go_astore_n (pc2 := 8) (ls2 := [(0, .ref 2000), (1, .ref 0)]) dL_law_7 rfl rfl rfl rfl rfl rfl ?_
  refine n_new (a := 22) (b := 113) (c := 9) (d := 10) (bc := 22) (bs := 1080) (pc2 := 11) (ci := 11) (T := TX11) (N := 31) (C1 := RX11) tyX11 tyX11_ok dvX11 rfl dL_law_8 rfl (by decide) (by decide) rfl inX11 w_1050 w_1051 w_12 c_113 (by decide +kernel) (by decide +kernel) ?_
  refine go_dup (pc2 := 12) dL_law_11 rfl rfl ?_
  refine n_call (a := 22) (b := 114) (c := 9) (a' := 0) (b' := 136) (c' := 0) (d := 10) (dC := 1) (bC := 22) (sC := 1080) (b0 := 0) (s0 := 0) (pc2 := 15) (As := []) (st := [.ref 113]) rfl dL_law_12 rfl w_1052 ok_X11_init w_1053 rfl rfl rfl (by decide) (Nat.le_of_ble_eq_true rfl) ci_X11_init_113 ?_
  refine go_astore_n (pc2 := 16) (ls2 := [(0, .ref 2000), (1, .ref 0), (2, .ref 113)]) dL_law_15 rfl rfl rfl rfl rfl rfl ?_
  refine go_iconst (pc2 := 17) (v := (0 : Int32)) dL_law_16 rfl (by decide) ?_
  refine go_istore_n (pc2 := 18) (ls2 := [(0, .ref 2000), (1, .ref 0), (2, .ref 113), (3, .int (0 : Int32))]) dL_law_17 rfl rfl rfl rfl rfl rfl ?_
  exact k
