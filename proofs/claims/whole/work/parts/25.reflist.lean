/-! ===== the reference: told lists ===== -/
theorem nIm1 : ∀ n, n < 21 → (nI n - 1).toInt = (n : Int) - 1 := by decide +kernel
theorem inR_nIw {n : Nat} (hn : n ≤ 20) {x : Int32} (hx : inR x 0 (nI n - 1) = true) : ∃ t, x = nI t ∧ t < n := by
  unfold inR at hx
  have h := of_decide_eq_true hx
  have h0 : 0 ≤ x.toInt := by have := Int32.le_iff_toInt_le.mp h.1; simpa using this
  have h1 : x.toInt ≤ (n : Int) - 1 := by have := Int32.le_iff_toInt_le.mp h.2; rw [nIm1 n (by omega)] at this; exact this
  refine ⟨x.toInt.toNat, ?_, by omega⟩
  apply Int32.toInt_inj.mp
  rw [nI_toInt (by omega)]
  omega
theorem isL_nI {x : Int32} (hx : inR x 0 3 = true) : ∃ t, x = nI t ∧ t < 4 := inR_nI 4 (by decide) x hx
theorem ct_isList (x : Int32) (h : Hp) : CtI 1 mX11_isList [.int x] h (pq (bI (inR x 0 3)) h) := e_X11_isList (pc (ct_isInI x 0 3 h) ⟨bI_and _, rfl, rfl⟩)
theorem ix20 (l k : Nat) : ((20 : Int32) * nI l) + nI k = nI (20 * l + k) := by rw [show (20 : Int32) = nI 20 from rfl, pk_mul, nI_add]
/-- the items of a list are 0 up to k -/
def itZ (f : Nat → Int32) (l k : Nat) : Nat → Int32 := fun i => if 20 * l ≤ i ∧ i < 20 * l + k then 0 else f i
theorem itZ_up (f : Nat → Int32) (l k : Nat) : upd (itZ f l k) (20 * l + k) 0 = itZ f l (k + 1) := by
  funext i
  by_cases e : i = 20 * l + k
  · subst e
    rw [upd_at]
    unfold itZ
    rw [if_pos (by omega)]
  · rw [upd_ne _ _ e]
    unfold itZ
    by_cases e2 : 20 * l ≤ i ∧ i < 20 * l + k
    · rw [if_pos e2, if_pos (by omega)]
    · rw [if_neg e2, if_neg (by omega)]
def liW (l n : Int32) : Int32 := if inR l 0 3 then (if n ≤ 20 then 0 else -6) else -1
theorem ct_list (l n : Int32) (h : Hp) : CtI 2 mX11_list [.ref 113, .int l, .int n] h (okw (liW l n) h (fun v h' => (0 ≤ n → v = 1 ∧ Fr [129, 130] h h' ∧ h'.1 129 = upd (h.1 129) l.toNatClampNeg n ∧ h'.1 130 = itZ (h.1 130) l.toNatClampNeg 20) ∧ (¬ 0 ≤ n → v = -14 ∧ h' = h))) := by
  refine e_X11_list (pc (ct_isList l h) ⟨fun c => ⟨fun c2 => ⟨fun c3 => ?_, fun c3 => ?_⟩, fun c2 => ⟨_, ct_noW (w := -6) ⟨6, by decide, by decide⟩ h, fun v h' q => ?_⟩⟩, fun c => ⟨_, ct_noW isW_1 h, fun v h' q => ?_⟩⟩)
  · have ew : liW l n = 0 := by
      unfold liW
      rw [if_pos (bI_t c), if_pos c2]
    obtain ⟨t, et, ht⟩ := isL_nI (bI_t c)
    subst et
    refine ⟨vp_in_nI (by omega) (by omega), fun g7 e7 => ?_⟩
    rw [nI_clamp (show t < 2 ^ 31 by omega)] at e7
    rw [nI_clamp (show t < 2 ^ 31 by omega)]
    have lp : ∀ m k : Nat, m + k = 20 → ∀ g : Hp, Fr [129, 130] h g → g.1 129 = upd (h.1 129) t n → g.1 130 = itZ (h.1 130) t k → GoI 2 mX11_list 42 [(0, .ref 113), (1, .int (nI t)), (3, .int (nI k))] [] g (okw (liW (nI t) n) h (fun v h' => (0 ≤ n → v = 1 ∧ Fr [129, 130] h h' ∧ h'.1 129 = upd (h.1 129) t n ∧ h'.1 130 = itZ (h.1 130) t 20) ∧ (¬ 0 ≤ n → v = -14 ∧ h' = h))) := by
      intro m
      induction m with
      | zero =>
        intro k hk g f e1 e2
        have hk : k = 20 := by omega
        subst hk
        refine b_X11_list_42 ⟨fun _ => okw_t ew ⟨fun _ => ⟨rfl, f, e1, e2⟩, fun c4 => absurd c3 c4⟩, fun c4 => absurd ?_ c4⟩
        exact nI_le (a := 20) (by omega) (by omega)
      | succ m ih =>
        intro k hk g f e1 e2
        refine b_X11_list_42 ⟨fun c4 => absurd c4 (nI_ge (b := 20) (by omega) (by omega)), fun _ => ?_⟩
        rw [ix20, nI_clamp (show 20 * t + k < 2 ^ 31 by omega), nI_1]
        refine ⟨vp_in_nI (by omega) (by omega), fun g2 e3 => ih (k + 1) (by omega) g2 ?_ ?_ ?_⟩
        · rw [e3]
          exact f.tr (Fr.ui (by decide))
        · rw [e3, ui_ne (by decide)]
          exact e1
        · rw [e3, ui_up, e2]
          exact itZ_up _ t k
    refine lp 20 0 rfl g7 ?_ ?_ ?_
    · rw [e7]
      exact Fr.ui (by decide)
    · rw [e7, ui_up]
    · rw [e7, ui_ne (by decide)]
      funext i
      unfold itZ
      rw [if_neg (by omega)]
  · have ew : liW l n = 0 := by
      unfold liW
      rw [if_pos (bI_t c), if_pos c2]
    exact okw_t ew ⟨fun z => absurd z c3, fun _ => ⟨rfl, rfl⟩⟩
  · have ew : liW l n = -6 := by
      unfold liW
      rw [if_pos (bI_t c), if_neg c2]
    rw [ew]
    exact okw_f (by decide) q
  · have ew : liW l n = -1 := by
      unfold liW
      rw [if_neg (by rw [bI_0.mp c]; decide)]
    rw [ew]
    exact okw_f (by decide) q
/-- sizes of lists as they may be -/
def okZ (z : Nat → Int32) : Prop := ∀ l, l < 4 → z l = -9 ∨ ∃ k, k ≤ 20 ∧ z l = nI k
/-- what put answers -/
def puV (z : Nat → Int32) (l : Nat) (i : Int32) : Int32 := if z l = -9 then -11 else if inR i 0 (z l - 1) then 1 else -13
theorem ct_put (l i v : Int32) (h : Hp) (hz : okZ (h.1 129)) : CtI 2 mX11_put [.ref 113, .int l, .int i, .int v] h (okw (if inR l 0 3 then 0 else -1) h (fun w h' => w = puV (h.1 129) l.toNatClampNeg i ∧ h' = if puV (h.1 129) l.toNatClampNeg i = 1 then ui h 130 (20 * l.toNatClampNeg + i.toNatClampNeg) v else h)) := by
  refine e_X11_put (pc (ct_isList l h) ⟨fun c => ?_, fun c => ⟨_, ct_noW isW_1 h, fun w h' q => ?_⟩⟩)
  · obtain ⟨t, et, ht⟩ := isL_nI (bI_t c)
    subst et
    rw [nI_clamp (show t < 2 ^ 31 by omega)]
    refine ⟨vp_in_nI (by omega) (by omega), fun c2 => ⟨vp_in_nI (by omega) (by omega), pc (ct_isInI i 0 (h.1 129 t - 1) h) ⟨fun c3 => ?_, fun c3 => okw_t (if_pos (bI_t c)) ?_⟩⟩, fun c2 => okw_t (if_pos (bI_t c)) ?_⟩
    · have ev : puV (h.1 129) t i = 1 := by
        unfold puV
        rw [if_neg c2, if_pos (bI_t c3)]
      rcases hz t ht with z | ⟨k, hk, z⟩
      · exact absurd z c2
      · obtain ⟨j, ej, hj⟩ := inR_nIw hk (by rw [← z]; exact bI_t c3)
        subst ej
        rw [ix20, nI_clamp (show 20 * t + j < 2 ^ 31 by omega), nI_clamp (show j < 2 ^ 31 by omega)]
        refine ⟨vp_in_nI (by omega) (by omega), fun g e => okw_t (if_pos (bI_t c)) ⟨ev.symm, ?_⟩⟩
        rw [if_pos ev]
        exact e
    · have ev : puV (h.1 129) t i = -13 := by
        unfold puV
        rw [if_neg c2, if_neg (by rw [bI_0.mp c3]; decide)]
      rw [ev]
      exact ⟨rfl, (if_neg (by decide)).symm⟩
    · have ev : puV (h.1 129) t i = -11 := by
        unfold puV
        rw [if_pos c2]
      rw [ev]
      exact ⟨rfl, (if_neg (by decide)).symm⟩
  · rw [if_neg (by rw [bI_0.mp c]; decide)]
    exact okw_f (by decide) q
