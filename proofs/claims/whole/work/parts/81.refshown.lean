/-! ===== the reference: what is shown ===== -/
set_option maxHeartbeats 1000000 in
theorem ct_shown (what : Int32) (h : Hp) (s : Nat → Int32) (hs : h.1 114 = s) (i : InS s) (hab : h.1 113 8 = 0) : CtL 8 mX11_shown [.ref 113, .int what] h (fun v g => (snW s what = 0 → v = snV s what ∧ triI scr h g) ∧ (¬ snW s what = 0 → v = 4000000000000000000 - (snW s what).toInt64 ∧ ∃ h1 : Hp, triI scr h h1 ∧ g = noS h1 (-(snW s what)).toNatClampNeg)) := by
  have o := i.o
  have hP := o.hP
  have hH := o.hH
  have rf : ∀ (x : Int32) (h1 : Hp), isW x → ¬ x = 0 → snW s what = x → triI scr h h1 → ∃ Q, CtL 1 mX11_noWide [.ref 113, .int x] h1 Q ∧ ∀ v g, Q v g → (fun v g => (snW s what = 0 → v = snV s what ∧ triI scr h g) ∧ (¬ snW s what = 0 → v = 4000000000000000000 - (snW s what).toInt64 ∧ ∃ h1 : Hp, triI scr h h1 ∧ g = noS h1 (-(snW s what)).toNatClampNeg)) v g := by
    intro x h1 wx x0 ew f
    refine ⟨_, ct_noWideW wx h1, fun v g q => ?_⟩
    simp only
    rw [ew]
    exact ⟨fun z => absurd z x0, fun _ => ⟨q.1, h1, f, q.2⟩⟩
  refine e_X11_shown (pc (ct_isInI what 0 2 h) ⟨fun c => ⟨_, ct_bestsX (ab := 0) h s hs o hab, fun v8 h9 q => ?_⟩, fun c => rf (-2) h isW_2 (by decide) (ite_f (bI_0.mp c)) triI.rf⟩)
  have ci := bI_t c
  have ew : snW s what = if beV s 0 = -9 then -3 else if what = 0 then (if akD s = 0 then -3 else 0) else 0 := if_pos ci
  obtain ⟨q1, q2, q3⟩ := q
  have e9 : h9.1 114 = s := (q2.1.1 114 (by decide)).trans hs
  refine ⟨fun c3 => ?_, fun c3 => ?_⟩
  · rw [q1] at c3
    exact rf (-3) h9 isW_3 (by decide) (by rw [ew, if_pos c3]) q2
  · have n9 := c3
    rw [q1] at n9
    have ew2 : snW s what = if what = 0 then (if akD s = 0 then -3 else 0) else 0 := by rw [ew, if_neg n9]
    have hrows := q3 (beV_far n9)
    have s48 : snW s what = 0 → (what = 0 → ¬ akD s = 0) → GoL 8 mX11_shown 48 [(0, .ref 113), (1, .int what), (2, .int v8)] [] h9 (fun v g => (snW s what = 0 → v = snV s what ∧ triI scr h g) ∧ (¬ snW s what = 0 → v = 4000000000000000000 - (snW s what).toInt64 ∧ ∃ h1 : Hp, triI scr h h1 ∧ g = noS h1 (-(snW s what)).toNatClampNeg)) := by
      intro w0 hk
      have I := (ln_b i n9 (nH s) (Nat.le_refl _)).1
      refine b_X11_shown_48 ⟨fun d => ?_, fun d => ?_⟩
      · have lp : ∀ n t : Nat, n + t = nH s → ∀ g : Hp, triI scr h g → (∀ q, q < nP s → g.1 123 q = nI ((beX s 0).2 q)) → GoL 8 mX11_shown 70 [(0, .ref 113), (1, .int what), (3, .float (lnS s t)), (4, .int (nI t))] [] g (fun v g => (snW s what = 0 → v = snV s what ∧ triI scr h g) ∧ (¬ snW s what = 0 → v = 4000000000000000000 - (snW s what).toInt64 ∧ ∃ h1 : Hp, triI scr h h1 ∧ g = noS h1 (-(snW s what)).toNatClampNeg)) := by
          intro n
          induction n with
          | zero =>
            intro t ht g f rr
            have ht : t = nH s := by omega
            subst ht
            have e : g.1 114 = s := (f.1.1 114 (by decide)).trans hs
            refine b_X11_shown_70 ⟨fun _ => ⟨fun d1 => ⟨fun _ => ⟨?_, f⟩, fun z => absurd w0 z⟩, fun d1 => pc (ct_f2ib (by omega) (by omega) I g) ⟨fun _ => ⟨?_, f⟩, fun z => absurd w0 z⟩⟩, fun y => absurd ?_ y⟩
            · rw [snV, if_neg d, if_neg d1]
            · rw [snV, if_neg d, if_pos d1]
            · rw [e, o.eH]
              exact nI_le (by omega) (by omega)
          | succ n ih =>
            intro t ht g f rr
            have e : g.1 114 = s := (f.1.1 114 (by decide)).trans hs
            obtain ⟨I1, I2⟩ := ln_b i n9 t (by omega)
            have J := (ln_b i n9 (t + 1) (by omega)).1
            refine b_X11_shown_70 ⟨fun y => absurd y ?_, fun _ => ⟨_, ct_hourBest hP (by omega) g s e o.eP _ rr, fun v g9 q => ?_⟩⟩
            · rw [e, o.eH]
              exact nI_ge (by omega) (by omega)
            · obtain ⟨p1, p2⟩ := q
              rw [p1]
              refine ⟨(I2 (by omega)).vf (by omega), J.vf (by omega), ?_⟩
              rw [nI_1]
              refine ih (t + 1) (by omega) g9 (f.fr p2 (by decide)) (fun p hp => ?_)
              rw [p2.1 123 (by decide)]
              exact rr p hp
        exact lp (nH s) 0 rfl h9 q2 hrows
      · have Q := qu_b i n9 (hk d)
        refine pc (ct_allDemand h9 s e9 o) ?_
        rw [q1]
        refine ⟨Q.vf (by decide), pc (ct_f2ib (by decide) (by decide) Q h9) ⟨fun _ => ⟨?_, q2⟩, fun z => absurd w0 z⟩⟩
        rw [snV, if_pos d]
    refine ⟨fun d => s48 (by rw [ew2, if_neg d]) (fun z => absurd z d), fun d => pc (ct_allDemand h9 s e9 o) ⟨fun d2 => s48 ?_ (fun _ => d2), fun d2 => rf (-3) h9 isW_3 (by decide) ?_ q2⟩⟩
    · rw [ew2, if_pos d]
      exact if_neg d2
    · rw [ew2, if_pos d]
      exact if_pos d2
