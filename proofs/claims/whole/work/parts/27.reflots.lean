/-! ===== the reference: whatIs, lots ===== -/
theorem orX : ∀ t, t < 10 → ∀ a, a < 2 ^ t → nI a ||| ((1 : Int32) <<< (nI t &&& 31)) = nI (a + 2 ^ t) := by decide +kernel
theorem bitsN_or3 {g : Nat → Bool} {t : Nat} (ht : t < 10) (z : Int32) (hz : z = if g t then (1 : Int32) <<< (nI t &&& 31) else 0) : nI (bitsN g t) ||| z = nI (bitsN g (t + 1)) := by
  rw [hz, bitsN]
  by_cases c : g t = true
  · rw [if_pos c, if_pos c]
    exact orX t ht _ (bitsN_lt g t)
  · rw [if_neg c, if_neg c]
    exact Int32.or_zero
theorem in01 {x : Int32} (h : inR x 0 1 = true) : x = 0 ∨ x = 1 := by
  obtain ⟨t, e, ht⟩ := inR_nI 2 (by decide) x h
  match t, ht with
  | 0, _ => exact Or.inl e
  | 1, _ => exact Or.inr e
/-- what may be there: kinds, or figures -/
def wiG (s it : Nat → Int32) (l p : Nat) (what : Int32) (k : Nat) (j : Nat) : Bool := if what = 0 then soR it l (nI j) (pfS s p 1) (pfS s p 6) k else soR it l (pfS s p 0) (nI j) (pfS s p 6) k
def wiK (what : Int32) : Nat := if what = 0 then 6 else 10
def wiV (s z it : Nat → Int32) (l p : Nat) (what : Int32) : Int32 := if z l = -9 then -11 else nI (bitsN (wiG s it l p what (z l).toNatClampNeg) (wiK what))
def wiW (s : Nat → Int32) (l p what : Int32) : Int32 := if inR l 0 3 then (if inR p 0 (s 3 - 1) then (if inR what 0 1 then 0 else -2) else -1) else -1
set_option maxHeartbeats 4000000 in
theorem ct_whatIs (l p what : Int32) (h : Hp) (s : Nat → Int32) (hs : h.1 114 = s) (o : OKs s) (hz : okZ (h.1 129)) : CtI 2 mX11_whatIs [.ref 113, .int l, .int p, .int what] h (okw (wiW s l p what) h (fun v h' => v = wiV s (h.1 129) (h.1 130) l.toNatClampNeg p.toNatClampNeg what ∧ h' = h)) := by
  have hP := o.hP
  refine e_X11_whatIs (pc (ct_isList l h) ⟨fun c => ⟨_, ct_noW isW_1 h, fun v h' q => ?_⟩, fun c => pc (ct_isPlant p h) ⟨fun c2 => pc (ct_isInI what 0 1 h) ⟨fun c3 => ?_, fun c3 => ⟨_, ct_noW isW_2 h, fun v h' q => ?_⟩⟩, fun c2 => ⟨_, ct_noW isW_1 h, fun v h' q => ?_⟩⟩⟩)
  · have ew : wiW s l p what = -1 := by
      unfold wiW
      rw [if_neg (by rw [bI_0.mp c]; decide)]
    rw [ew]
    exact okw_f (by decide) q
  · rw [hs] at c2
    have ew : wiW s l p what = 0 := by
      unfold wiW
      rw [if_pos (bI_t c), if_pos (bI_t c2), if_pos (bI_t c3)]
    obtain ⟨L, eL, hL⟩ := isL_nI (bI_t c)
    obtain ⟨t, et, ht⟩ := isP_nI o (bI_t c2)
    subst eL
    subst et
    rw [nI_clamp (show L < 2 ^ 31 by omega), nI_clamp (show t < 2 ^ 31 by omega)]
    refine ⟨vp_in_nI (by omega) (by omega), fun c4 => ?_, fun c4 => okw_t ew ⟨?_, rfl⟩⟩
    · rcases hz L hL with z | ⟨k, hk, z⟩
      · exact absurd z c4
      · have eV : wiV s (h.1 129) (h.1 130) L t what = nI (bitsN (wiG s (h.1 130) L t what k) (wiK what)) := by
          unfold wiV
          rw [if_neg c4, z, nI_clamp (show k < 2 ^ 31 by omega)]
        rw [eV]
        have eK : (if what = 0 then (6 : Int32) else 10) = nI (wiK what) := by
          unfold wiK
          by_cases y : what = 0
          · rw [if_pos y, if_pos y]
            rfl
          · rw [if_neg y, if_neg y]
            rfl
        have hK : wiK what ≤ 10 := by
          unfold wiK
          by_cases y : what = 0
          · rw [if_pos y]
            decide
          · rw [if_neg y]
            decide
        have lp : ∀ n j : Nat, n + j = wiK what → GoI 2 mX11_whatIs 58 [(0, .ref 113), (1, .int (nI L)), (2, .int (nI t)), (3, .int what), (4, .int (nI (bitsN (wiG s (h.1 130) L t what k) j))), (5, .int (nI j))] [] h (okw (wiW s (nI L) (nI t) what) h (fun v h' => v = nI (bitsN (wiG s (h.1 130) L t what k) (wiK what)) ∧ h' = h)) := by
          intro n
          induction n with
          | zero =>
            intro j hj
            have hj : j = wiK what := by omega
            subst hj
            refine b_X11_whatIs_58 ⟨fun _ => okw_t ew ⟨rfl, rfl⟩, fun c5 => absurd ?_ c5⟩
            rw [eK]
            exact nI_le (by omega) (by omega)
          | succ n ih =>
            intro j hj
            have ih2 := ih (j + 1) (by omega)
            have s138 : ∀ z : Int32, (z = if wiG s (h.1 130) L t what k j then (1 : Int32) <<< (nI j &&& 31) else 0) → GoI 2 mX11_whatIs 138 [(0, .ref 113), (1, .int (nI L)), (2, .int (nI t)), (3, .int what), (5, .int (nI j))] [.int z, .int (nI (bitsN (wiG s (h.1 130) L t what k) j))] h (okw (wiW s (nI L) (nI t) what) h (fun v h' => v = nI (bitsN (wiG s (h.1 130) L t what k) (wiK what)) ∧ h' = h)) := by
              intro z hz
              refine b_X11_whatIs_138 ?_
              rw [bitsN_or3 (by omega) z hz, nI_1]
              exact ih2
            have s121 : ∀ b : Bool, b = wiG s (h.1 130) L t what k j → GoI 2 mX11_whatIs 121 [(0, .ref 113), (1, .int (nI L)), (2, .int (nI t)), (3, .int what), (4, .int (nI (bitsN (wiG s (h.1 130) L t what k) j))), (5, .int (nI j))] [.int (bI b)] h (okw (wiW s (nI L) (nI t) what) h (fun v h' => v = nI (bitsN (wiG s (h.1 130) L t what k) (wiK what)) ∧ h' = h)) := by
              intro b hb
              refine b_X11_whatIs_121 ⟨fun c5 => s138 0 ?_, fun c5 => s138 _ ?_⟩
              · rw [← hb, bI_0.mp c5]
                rfl
              · rw [← hb, if_pos (bI_t c5)]
            refine b_X11_whatIs_58 ⟨fun c5 => absurd c5 ?_, fun _ => ⟨fun c5 => pc (ct_of1 (w := 0) (by omega) (by decide) h) (pc (ct_of1 (w := 6) (by omega) (by decide) h) (pc (ct_isSo hL hk _ _ _ h _ rfl z) (s121 _ ?_))), fun c5 => pc (ct_of1 (w := 1) (by omega) (by decide) h) (pc (ct_of1 (w := 6) (by omega) (by decide) h) (pc (ct_isSo hL hk _ _ _ h _ rfl z) (s121 _ ?_)))⟩⟩
            · rw [eK]
              exact nI_ge (by omega) (by omega)
            · unfold wiG
              rw [if_neg c5, hs]
            · unfold wiG
              rw [if_pos c5, hs]
        exact lp (wiK what) 0 rfl
    · unfold wiV
      rw [if_pos c4]
  · rw [hs] at c2
    have ew : wiW s l p what = -2 := by
      unfold wiW
      rw [if_pos (bI_t c), if_pos (bI_t c2), if_neg (by rw [bI_0.mp c3]; decide)]
    rw [ew]
    exact okw_f (by decide) q
  · rw [hs] at c2
    have ew : wiW s l p what = -1 := by
      unfold wiW
      rw [if_pos (bI_t c), if_neg (by rw [bI_0.mp c2]; decide)]
    rw [ew]
    exact okw_f (by decide) q
