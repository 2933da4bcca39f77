/-! ===== the law's loop ===== -/
theorem lw_cmp {N i : Nat} (hN : N < 2 ^ 31) (hi : i ≤ N) : (nI N - 5 < nI i) ↔ N < i + 5 := by
  rw [Int32.lt_iff_toInt_lt, Int32.toInt_sub, nI_toInt hN, nI_toInt (by omega), show (5 : Int32).toInt = 5 by decide, Int.bmod_def]
  split <;> omega
set_option maxHeartbeats 1000000 in
theorem lw_loop {N : Nat} (hN : N < 2 ^ 31) : ∀ n i : Nat, N - i < n → i ≤ N → ∀ h : Hp, Jn h → h.1 2001 0 = nI N → GoI 10 mL_law 18 (lwL (nI i)) [] h (fun v _ => v = 1) := by
  intro n
  induction n with
  | zero => intro i hn; omega
  | succ n ih =>
    intro i hn hi h j e
    have cN : (h.1 2001 0).toNatClampNeg = N := by rw [e, nI_clamp hN]
    by_cases c : N < i + 5
    · refine b_L_law_18 ⟨fun _ => rfl, fun d => absurd ?_ d⟩
      rw [e]
      exact (lw_cmp hN hi).mpr c
    · have nn : scN (nI i) h := fun k hk => by
        rw [cN, nI_add]
        exact vp_in_nI (by omega) (by omega)
      have kk : ∀ g, Jn g → Sk h g → GoI 10 mL_law 1729 (lwL (nI i)) [] g (fun v _ => v = 1) := fun g jg sg => by
        refine b_L_law_1729 ?_
        have e5 : nI i + 5 = nI (i + 5) := nI_add i 5
        rw [e5]
        exact ih (i + 5) (by omega) (by omega) g jg (by rw [sg.2]; exact e)
      refine b_L_law_18 ⟨fun d => absurd d ?_, fun _ => ⟨by rw [cN]; exact vp_in_nI (by omega) (by omega), ?_⟩⟩
      · rw [e]
        exact fun z => c ((lw_cmp hN hi).mp z)
      · exact ⟨fun _ => lw_240 j nn kk, fun _ => ⟨fun _ => lw_263 j nn kk, fun _ => ⟨fun _ => lw_276 j nn kk, fun _ => ⟨fun _ => lw_299 j nn kk, fun _ => ⟨fun _ => lw_342 j nn kk, fun _ => ⟨fun _ => lw_375 j nn kk, fun _ => ⟨fun _ => lw_418 j nn kk, fun _ => ⟨fun _ => lw_471 j nn kk, fun _ => ⟨fun _ => lw_514 j nn kk, fun _ => ⟨fun _ => lw_547 j nn kk, fun _ => ⟨fun _ => lw_570 j nn kk, fun _ => ⟨fun _ => lw_603 j nn kk, fun _ => ⟨fun _ => lw_636 j nn kk, fun _ => ⟨fun _ => lw_669 j nn kk, fun _ => ⟨fun _ => lw_702 j nn kk, fun _ => ⟨fun _ => lw_735 j nn kk, fun _ => ⟨fun _ => lw_778 j nn kk, fun _ => ⟨fun _ => lw_791 j nn kk, fun _ => ⟨fun _ => lw_814 j nn kk, fun _ => ⟨fun _ => lw_837 j nn kk, fun _ => ⟨fun _ => lw_860 j nn kk, fun _ => ⟨fun _ => lw_883 j nn kk, fun _ => ⟨fun _ => lw_896 j nn kk, fun _ => ⟨fun _ => lw_930 j nn kk, fun _ => ⟨fun _ => lw_954 j nn kk, fun _ => ⟨fun _ => lw_987 j nn kk, fun _ => ⟨fun _ => lw_1010 j nn kk, fun _ => ⟨fun _ => lw_1044 j nn kk, fun _ => ⟨fun _ => lw_1057 j nn kk, fun _ => ⟨fun _ => lw_1091 j nn kk, fun _ => ⟨fun _ => lw_1114 j nn kk, fun _ => ⟨fun _ => lw_1137 j nn kk, fun _ => ⟨fun _ => lw_1160 j nn kk, fun _ => ⟨fun _ => lw_1203 j nn kk, fun _ => ⟨fun _ => lw_1246 j nn kk, fun _ => ⟨fun _ => lw_1279 j nn kk, fun _ => ⟨fun _ => lw_1322 j nn kk, fun _ => ⟨fun _ => lw_1355 j nn kk, fun _ => ⟨fun _ => lw_1448 j nn kk, fun _ => ⟨fun _ => lw_1462 j nn kk, fun _ => ⟨fun _ => lw_1485 j nn kk, fun _ => ⟨fun _ => lw_1528 j nn kk, fun _ => ⟨fun _ => lw_1571 j nn kk, fun _ => ⟨fun _ => lw_1614 j nn kk, fun _ => ⟨fun _ => lw_1647 j nn kk, fun _ => ⟨fun _ => lw_1660 j nn kk, fun _ => ⟨fun _ => lw_1673 j nn kk, fun _ => ⟨fun _ => lw_1696 j nn kk, fun _ => kk h j ⟨rfl, rfl⟩⟩⟩⟩⟩⟩⟩⟩⟩⟩⟩⟩⟩⟩⟩⟩⟩⟩⟩⟩⟩⟩⟩⟩⟩⟩⟩⟩⟩⟩⟩⟩⟩⟩⟩⟩⟩⟩⟩⟩⟩⟩⟩⟩⟩⟩⟩⟩⟩
