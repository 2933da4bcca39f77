/-! ===== the reference: lays ===== -/
theorem nIsub : ∀ k, k < 21 → ∀ p, p < 3 → (nI k - nI p).toInt = (k : Int) - (p : Int) := by decide +kernel
/-- an item's place within a list of k, p of them ahead at its end -/
theorem lay_in {x : Int32} {k p : Nat} (hk : k ≤ 20) (hp : p < 3) (h0 : ¬ x < 0) (h1 : x < nI k - nI p) : ∃ j : Nat, x = nI j ∧ j + p < k := by
  have a0 : 0 ≤ x.toInt := by have := Int32.le_iff_toInt_le.mp (Int32.not_lt.mp h0); simpa using this
  have a1 := Int32.lt_iff_toInt_lt.mp h1
  rw [nIsub k (by omega) p hp] at a1
  refine ⟨x.toInt.toNat, ?_, by omega⟩
  apply Int32.toInt_inj.mp
  rw [nI_toInt (by omega)]
  omega
/-- items behind p rows laid from place j on -/
def laI (r : Nat → Int32) (f : Nat → Int32) (at_ : Nat) : Nat → (Nat → Int32)
  | 0 => f
  | p + 1 => upd (laI r f at_ p) (at_ + p) (r p)
/-- what lays answers; the items -/
def laR (P : Nat) (z : Int32) (x : Int32) (r : Nat → Int32) (f : Nat → Int32) (l : Nat) : Nat → Nat → Int32 × (Nat → Int32)
  | 0, p => (nI P, laI r f (20 * l + x.toNatClampNeg) p)
  | n + 1, p => if ¬ x < 0 ∧ x < z - nI p then laR P z x r f l n (p + 1) else (-13, laI r f (20 * l + x.toNatClampNeg) p)
def laW (s : Nat → Int32) (l : Int32) : Int32 := if inR l 0 3 then (if beV s 0 = -9 then -3 else 0) else -1
/-- what lays does: list l, place x -/
def laV (s : Nat → Int32) (z it : Nat → Int32) (l : Nat) (x : Int32) : Int32 × (Nat → Int32) := if z l = -9 then (-11, it) else laR (nP s) (z l) x (fun p => nI ((beX s 0).2 p)) it l (nP s) 0
set_option maxHeartbeats 4000000 in
theorem ct_lays (l x : Int32) (h : Hp) (s : Nat → Int32) (hs : h.1 114 = s) (o : OKs s) (hab : h.1 113 8 = 0) (hz : okZ (h.1 129)) : CtI 8 mX11_lays [.ref 113, .int l, .int x] h (fun v h' => (laW s l = 0 → v = (laV s (h.1 129) (h.1 130) l.toNatClampNeg x).1 ∧ triI (130 :: scr) h h' ∧ h'.1 130 = (laV s (h.1 129) (h.1 130) l.toNatClampNeg x).2) ∧ (¬ laW s l = 0 → v = laW s l ∧ ∃ g : Hp, triI scr h g ∧ h' = noS g (-(laW s l)).toNatClampNeg)) := by
  have hP := o.hP
  refine e_X11_lays (pc (ct_isList l h) ⟨fun c => ⟨_, ct_bestsX (ab := 0) h s hs o hab, fun v h9 q => ?_⟩, fun c => ⟨_, ct_noW isW_1 h, fun v h' q => ?_⟩⟩)
  · obtain ⟨q1, q2, q3⟩ := q
    obtain ⟨L, eL, hL⟩ := isL_nI (bI_t c)
    subst eL
    rw [nI_clamp (show L < 2 ^ 31 by omega), q1]
    have e9 : h9.1 129 = h.1 129 := q2.1.1 129 (by decide)
    have e93 : h9.1 130 = h.1 130 := q2.1.1 130 (by decide)
    refine ⟨fun c2 => ?_, fun c2 => ⟨_, ct_noW isW_3 h9, fun v h' q => ?_⟩⟩
    · have ew : laW s (nI L) = 0 := by rw [laW, if_pos (bI_t c), if_neg c2]
      have r3 := q3 (beV_far c2)
      rw [e9]
      refine ⟨vp_in_nI (by omega) (by omega), fun c3 => ?_, fun c3 => ⟨fun _ => ?_, fun z => absurd ew z⟩⟩
      · rcases hz L hL with z | ⟨k, hk, z⟩
        · exact absurd z c3
        · have lp : ∀ n p : Nat, n + p = nP s → ∀ g : Hp, triI (130 :: scr) h g → g.1 129 = h.1 129 → (∀ q, q < nP s → g.1 123 q = nI ((beX s 0).2 q)) → g.1 130 = laI (fun p => nI ((beX s 0).2 p)) (h.1 130) (20 * L + x.toNatClampNeg) p → laR (nP s) (h.1 129 L) x (fun p => nI ((beX s 0).2 p)) (h.1 130) L n p = laV s (h.1 129) (h.1 130) L x → GoI 8 mX11_lays 45 [(0, .ref 113), (1, .int (nI L)), (2, .int x), (3, .int (nI p))] [] g (fun v h' => (laW s (nI L) = 0 → v = (laV s (h.1 129) (h.1 130) L x).1 ∧ triI (130 :: scr) h h' ∧ h'.1 130 = (laV s (h.1 129) (h.1 130) L x).2) ∧ (¬ laW s (nI L) = 0 → v = laW s (nI L) ∧ ∃ g : Hp, triI scr h g ∧ h' = noS g (-(laW s (nI L))).toNatClampNeg)) := by
            intro n
            induction n with
            | zero =>
              intro p hp g t a1 a2 a3 er
              have e := (t.1.1 114 (by decide)).trans hs
              rw [laR] at er
              refine b_X11_lays_45 ⟨fun _ => ⟨fun _ => ⟨?_, t, ?_⟩, fun z => absurd ew z⟩, fun c4 => absurd ?_ c4⟩
              · rw [e, o.eP, ← er]
              · rw [a3, ← er]
              · rw [e, o.eP]
                exact nI_le (by omega) (by omega)
            | succ n ih =>
              intro p hp g t a1 a2 a3 er
              have e := (t.1.1 114 (by decide)).trans hs
              rw [laR] at er
              refine b_X11_lays_45 ⟨fun c4 => absurd c4 ?_, fun _ => ⟨fun c4 => ⟨fun _ => ⟨?_, t, ?_⟩, fun z => absurd ew z⟩, fun c4 => ⟨vp_in_nI (by omega) (by omega), ?_⟩⟩⟩
              · rw [e, o.eP]
                exact nI_ge (by omega) (by omega)
              · rw [← er, if_neg (fun z => z.1 c4)]
              · rw [a3, ← er, if_neg (fun z => z.1 c4)]
              · rw [nI_clamp (show L < 2 ^ 31 by omega), a1]
                refine ⟨fun c5 => ?_, fun c5 => ⟨fun _ => ⟨?_, t, ?_⟩, fun z => absurd ew z⟩⟩
                · rw [if_pos ⟨c4, c5⟩] at er
                  have c6 := c5
                  rw [z] at c6
                  obtain ⟨j, ej, hj⟩ := lay_in hk (by omega) c4 c6
                  have cj : x.toNatClampNeg = j := by rw [ej, nI_clamp (show j < 2 ^ 31 by omega)]
                  have ix : ((20 * nI L) + x) + nI p = nI (20 * L + j + p) := by rw [ej, ix20, nI_add]
                  rw [ix, nI_clamp (show 20 * L + j + p < 2 ^ 31 by omega), nI_clamp (show p < 2 ^ 31 by omega), a2 p (by omega), nI_1]
                  refine ⟨vp_in_nI (by omega) (by omega), vp_in_nI (by omega) (by omega), fun g4 e4 => ih (p + 1) (by omega) g4 ?_ ?_ ?_ ?_ er⟩
                  · rw [e4]
                    exact t.tr (triI.ui (by decide) (by decide))
                  · rw [e4, ui_ne (by decide)]
                    exact a1
                  · intro q hq
                    rw [e4, ui_ne (by decide)]
                    exact a2 q hq
                  · rw [e4, ui_up, a3, cj]
                    rfl
                · rw [← er, if_neg (fun z => c5 z.2)]
                · rw [a3, ← er, if_neg (fun z => c5 z.2)]
          refine lp (nP s) 0 rfl h9 (q2.mono (by decide)) e9 r3 (by rw [e93]; rfl) ?_
          rw [laV, if_neg c3]
      · rw [laV, if_pos c3]
        exact ⟨rfl, q2.mono (by decide), e93⟩
    · have ew : laW s (nI L) = -3 := by rw [laW, if_pos (bI_t c), if_pos c2]
      rw [ew]
      exact ⟨fun z => absurd z (by decide), fun _ => ⟨q.1, h9, q2, q.2⟩⟩
  · have ew : laW s l = -1 := by rw [laW, if_neg (by rw [bI_0.mp c]; decide)]
    rw [ew]
    exact ⟨fun z => absurd z (by decide), fun _ => ⟨q.1, h, triI.rf, q.2⟩⟩
