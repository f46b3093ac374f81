/-! the class: the assembler -/
theorem up_other {Z : ZW} {k : Nat} {i v : Int} (h : ¬ (k = 3 ∧ (i = 1 ∨ i = 2))) : up Z 3 2 v k i = Z k i := by
  unfold up
  rw [if_neg (fun q => h ⟨q.1, Or.inr q.2⟩)]
theorem up_other1 {Z : ZW} {k : Nat} {i v : Int} (h : ¬ (k = 3 ∧ (i = 1 ∨ i = 2))) : up Z 3 1 v k i = Z k i := by
  unfold up
  rw [if_neg (fun q => h ⟨q.1, Or.inl q.2⟩)]
set_option maxHeartbeats 4000000 in
theorem l_readN {Z : ZW} {J : Int64} {most p2 : Int} {sg ng : Bool} {q : Bool × Int × Int} (ht : TXT Z) (hw : Z 3 2 = -1) (hm : 0 ≤ most ∧ most ≤ 99) (hp : 0 ≤ p2 ∧ p2 ≤ Z 1 0) (hq : q = PD (cuF (Z 2) (Z 1 0)) most ng p2) : OkZ none 7 47 [some (.ref 1), some (.int (I most)), some (bI sg), some (bI ng), none, none, none] [] (up Z 3 1 p2) J (fun r Z' J' => J' = J ∧ (∃ x, r = some (.int (I x)) ∧ RG x ∧ (q.1 = true → x = q.2.1)) ∧ (0 ≤ Z' 3 1 ∧ Z' 3 1 ≤ Z 1 0) ∧ (if q.1 = true then Z' 3 1 = q.2.2 ∧ Z' 3 2 = -1 else Z' 3 2 = q.2.2 ∧ 0 ≤ q.2.2 ∧ q.2.2 ≤ Z 1 0) ∧ ∀ (k : Nat) (j : Int), ¬ (k = 3 ∧ (j = 1 ∨ j = 2)) → Z' k j = Z k j) := by
  have hl := ht.1
  have K161 : ∀ (val : Int) (Z' : ZW) (x6 : Option Value), (0 ≤ val ∧ val ≤ 999) → (0 ≤ Z' 3 1 ∧ Z' 3 1 ≤ Z 1 0) → (q.1 = true → (if ng then -val else val) = q.2.1) → (if q.1 = true then Z' 3 1 = q.2.2 ∧ Z' 3 2 = -1 else Z' 3 2 = q.2.2 ∧ 0 ≤ q.2.2 ∧ q.2.2 ≤ Z 1 0) → (∀ (k : Nat) (j : Int), ¬ (k = 3 ∧ (j = 1 ∨ j = 2)) → Z' k j = Z k j) → OkZ none 7 161 [some (.ref 1), some (.int (I most)), some (bI sg), some (bI ng), some (.int (I p2)), some (.int (I val)), x6] [] Z' J (fun r Z' J' => J' = J ∧ (∃ x, r = some (.int (I x)) ∧ RG x ∧ (q.1 = true → x = q.2.1)) ∧ (0 ≤ Z' 3 1 ∧ Z' 3 1 ≤ Z 1 0) ∧ (if q.1 = true then Z' 3 1 = q.2.2 ∧ Z' 3 2 = -1 else Z' 3 2 = q.2.2 ∧ 0 ≤ q.2.2 ∧ q.2.2 ≤ Z 1 0) ∧ ∀ (k : Nat) (j : Int), ¬ (k = 3 ∧ (j = 1 ∨ j = 2)) → Z' k j = Z k j) := by
    intro val Z' x6 hv h1 h2 h3 h4
    refine z_iload_n rfl rfl ?_
    refine z_ifb_eq rfl (fun h162 => ?_) (fun h162 => ?_)
    · refine z_iload rfl rfl ?_
      rw [h162] at h2
      exact z_iret rfl rfl ⟨rfl, ⟨_, rfl, ⟨by omega, by omega⟩, h2⟩, h1, h3, h4⟩
    · refine z_iload rfl rfl ?_
      refine z_ineg rfl ?_
      refine z_goto rfl ?_
      rw [h162] at h2
      exact z_iret rfl rfl ⟨rfl, ⟨_, rfl, ⟨by omega, by omega⟩, h2⟩, h1, h3, h4⟩
  have K105 : ∀ (j val : Int), (0 ≤ j ∧ j ≤ 3) → (0 ≤ val ∧ val ≤ 999) → p2 + j ≤ Z 1 0 → (j = 0 → q = (false, 0, p2)) → (j = 3 → q = (false, 0, p2 + 2)) → (j = 1 ∨ j = 2 → q = PV most ng val p2 (p2 + j)) → OkZ none 7 105 [some (.ref 1), some (.int (I most)), some (bI sg), some (bI ng), some (.int (I p2)), some (.int (I val)), none] [] (up Z 3 1 (p2 + j)) J (fun r Z' J' => J' = J ∧ (∃ x, r = some (.int (I x)) ∧ RG x ∧ (q.1 = true → x = q.2.1)) ∧ (0 ≤ Z' 3 1 ∧ Z' 3 1 ≤ Z 1 0) ∧ (if q.1 = true then Z' 3 1 = q.2.2 ∧ Z' 3 2 = -1 else Z' 3 2 = q.2.2 ∧ 0 ≤ q.2.2 ∧ q.2.2 ≤ Z 1 0) ∧ ∀ (k : Nat) (j : Int), ¬ (k = 3 ∧ (j = 1 ∨ j = 2)) → Z' k j = Z k j) := by
    intro j val hj hv hjl c0 c3 c12
    refine z_aload_n rfl rfl ?_
    refine z_getS (bi := 1) rfl rfl rfl (by decide) ?_
    rw [up_eq]
    refine z_iload rfl rfl ?_
    refine z_isub rfl ?_
    refine z_istore rfl rfl rfl ?_
    refine z_iload rfl rfl ?_
    refine z_if_ne rfl (by omega) (fun h116 => ?_) (fun h116 => ?_)
    · refine z_iload rfl rfl ?_
      refine z_iconst rfl ?_
      refine z_icmp_ne rfl (by omega) (by omega) (fun h133 => ?_) (fun h133 => ?_)
      · refine z_iload rfl rfl ?_
        refine z_iload_n rfl rfl ?_
        refine z_icmp_le rfl (by omega) (by omega) (fun h152 => ?_) (fun h152 => ?_)
        · have eq := c12 (by omega)
          rw [PV, if_neg (by omega)] at eq
          refine K161 _ _ _ hv (by rw [up_eq]; omega) (by rw [eq]; intro z; rfl) ?_ (fun k i hk => by rw [up_other1 hk])
          rw [eq]
          exact ⟨by rw [up_eq], by rw [up_nj (by decide)]; exact hw⟩
        · refine z_aload_n rfl rfl ?_
          refine z_iload rfl rfl ?_
          refine z_putS (bi := 2) rfl rfl rfl rfl (by decide) ?_
          have eq := c12 (by omega)
          rw [PV, if_pos (by omega)] at eq
          refine K161 _ _ _ hv (by rw [up_nj (by decide), up_eq]; omega) (by rw [eq]; intro z; cases z) ?_ (fun k i hk => by rw [up_other hk, up_other1 hk])
          rw [eq]
          exact ⟨by rw [up_eq], hp.1, hp.2⟩
      · refine z_aload_n rfl rfl ?_
        refine z_aload_n rfl rfl ?_
        refine z_getS (bi := 1) rfl rfl rfl (by decide) ?_
        rw [up_eq]
        refine z_iconst rfl ?_
        refine z_isub rfl ?_
        refine z_putS (bi := 2) rfl rfl rfl rfl (by decide) ?_
        refine z_goto rfl ?_
        have eq := c3 (by omega)
        refine K161 _ _ _ hv (by rw [up_nj (by decide), up_eq]; omega) (by rw [eq]; intro z; cases z) ?_ (fun k i hk => by rw [up_other hk, up_other1 hk])
        rw [eq]
        refine ⟨?_, by show 0 ≤ p2 + 2; omega, by show p2 + 2 ≤ _; omega⟩
        rw [up_eq]
        show p2 + j - 1 = p2 + 2
        omega
    · refine z_aload_n rfl rfl ?_
      refine z_aload_n rfl rfl ?_
      refine z_getS (bi := 1) rfl rfl rfl (by decide) ?_
      rw [up_eq]
      refine z_putS (bi := 2) rfl rfl rfl rfl (by decide) ?_
      refine z_goto rfl ?_
      have e0 : j = 0 := by omega
      have eq := c0 e0
      refine K161 _ _ _ hv (by rw [up_nj (by decide), up_eq]; omega) (by rw [eq]; intro z; cases z) ?_ (fun k i hk => by rw [up_other hk, up_other1 hk])
      rw [eq]
      refine ⟨?_, hp.1, hp.2⟩
      rw [up_eq, e0, Int.add_zero]
  have K56_3 : ∀ val, (0 ≤ val ∧ val ≤ 999) → p2 + 3 ≤ Z 1 0 → q = (false, 0, p2 + 2) → OkZ none 7 56 [some (.ref 1), some (.int (I most)), some (bI sg), some (bI ng), some (.int (I p2)), some (.int (I val)), none] [] (up Z 3 1 (p2 + 3)) J (fun r Z' J' => J' = J ∧ (∃ x, r = some (.int (I x)) ∧ RG x ∧ (q.1 = true → x = q.2.1)) ∧ (0 ≤ Z' 3 1 ∧ Z' 3 1 ≤ Z 1 0) ∧ (if q.1 = true then Z' 3 1 = q.2.2 ∧ Z' 3 2 = -1 else Z' 3 2 = q.2.2 ∧ 0 ≤ q.2.2 ∧ q.2.2 ≤ Z 1 0) ∧ ∀ (k : Nat) (j : Int), ¬ (k = 3 ∧ (j = 1 ∨ j = 2)) → Z' k j = Z k j) := by
    intro val hv hlen hqq
    have ec : cuF (up Z 3 1 (p2 + 3) 2) (up Z 3 1 (p2 + 3) 1 0) (up Z 3 1 (p2 + 3) 3 1) = (cuF (Z 2) (Z 1 0)) (p2 + 3) := by
      show (cuF (Z 2) (Z 1 0)) (up Z 3 1 (p2 + 3) 3 1) = _
      rw [up_eq]
    have hcu := cu_in ht (p2 + 3)
    refine z_aload_n rfl rfl ?_
    refine z_getS (bi := 1) rfl rfl rfl (by decide) ?_
    rw [up_eq]
    refine z_iload rfl rfl ?_
    refine z_iconst rfl ?_
    refine z_iadd rfl ?_
    refine z_icmp_ge rfl (by omega) (by omega) (fun h64 => ?_) (fun h64 => ?_)
    · exact K105 3 val (by omega) (by omega) hlen (fun z => absurd z (by omega)) (fun _ => hqq) (fun z => by omega)
    · refine z_aload_n rfl rfl ?_
      refine z_callV0 rfl rfl rfl rfl rfl rfl (s_cur (by rw [up_eq]; omega) (TXT_up (by decide) ht)) ?_
      rw [ec]
      refine z_callS1 rfl rfl rfl rfl (s_isDigit (by omega)) ?_
      refine z_ifb_eq rfl (fun h74 => ?_) (fun h74 => ?_)
      · exfalso; omega
      · refine z_bipush rfl (by decide) ?_
        refine z_iload rfl rfl ?_
        refine z_imul rfl ?_
        refine z_aload_n rfl rfl ?_
        refine z_callV0 rfl rfl rfl rfl rfl rfl (s_cur (by rw [up_eq]; omega) (TXT_up (by decide) ht)) ?_
        rw [ec]
        refine z_bipush rfl (by decide) ?_
        refine z_isub rfl ?_
        refine z_iadd rfl ?_
        refine z_istore rfl rfl rfl ?_
        refine z_aload_n rfl rfl ?_
        refine z_dup rfl rfl ?_
        refine z_getS (bi := 1) rfl rfl rfl (by decide) ?_
        rw [up_eq]
        refine z_iconst rfl ?_
        refine z_iadd rfl ?_
        refine z_putS (bi := 1) rfl rfl rfl rfl (by decide) ?_
        refine z_goto rfl ?_
        exfalso; omega
  have K56_2 : ∀ val, (0 ≤ val ∧ val ≤ 99) → p2 + 2 ≤ Z 1 0 → dgB (cuF (Z 2) (Z 1 0)) p2 = true → dgB (cuF (Z 2) (Z 1 0)) (p2 + 1) = true → val = 10 * ((cuF (Z 2) (Z 1 0)) p2 - 48) + ((cuF (Z 2) (Z 1 0)) (p2 + 1) - 48) → OkZ none 7 56 [some (.ref 1), some (.int (I most)), some (bI sg), some (bI ng), some (.int (I p2)), some (.int (I val)), none] [] (up Z 3 1 (p2 + 2)) J (fun r Z' J' => J' = J ∧ (∃ x, r = some (.int (I x)) ∧ RG x ∧ (q.1 = true → x = q.2.1)) ∧ (0 ≤ Z' 3 1 ∧ Z' 3 1 ≤ Z 1 0) ∧ (if q.1 = true then Z' 3 1 = q.2.2 ∧ Z' 3 2 = -1 else Z' 3 2 = q.2.2 ∧ 0 ≤ q.2.2 ∧ q.2.2 ≤ Z 1 0) ∧ ∀ (k : Nat) (j : Int), ¬ (k = 3 ∧ (j = 1 ∨ j = 2)) → Z' k j = Z k j) := by
    intro val hv hlen d0 d1 hval
    have ec : cuF (up Z 3 1 (p2 + 2) 2) (up Z 3 1 (p2 + 2) 1 0) (up Z 3 1 (p2 + 2) 3 1) = (cuF (Z 2) (Z 1 0)) (p2 + 2) := by
      show (cuF (Z 2) (Z 1 0)) (up Z 3 1 (p2 + 2) 3 1) = _
      rw [up_eq]
    have hcu := cu_in ht (p2 + 2)
    refine z_aload_n rfl rfl ?_
    refine z_getS (bi := 1) rfl rfl rfl (by decide) ?_
    rw [up_eq]
    refine z_iload rfl rfl ?_
    refine z_iconst rfl ?_
    refine z_iadd rfl ?_
    refine z_icmp_ge rfl (by omega) (by omega) (fun h64 => ?_) (fun h64 => ?_)
    · exfalso; omega
    · refine z_aload_n rfl rfl ?_
      refine z_callV0 rfl rfl rfl rfl rfl rfl (s_cur (by rw [up_eq]; omega) (TXT_up (by decide) ht)) ?_
      rw [ec]
      refine z_callS1 rfl rfl rfl rfl (s_isDigit (by omega)) ?_
      refine z_ifb_eq rfl (fun h74 => ?_) (fun h74 => ?_)
      · have nd : dgB (cuF (Z 2) (Z 1 0)) (p2 + 2) = false := h74
        exact K105 2 val (by omega) (by omega) hlen (fun z => absurd z (by omega)) (fun z => absurd z (by omega)) (fun _ => by rw [hq, PD, if_neg (by rw [d0]; decide), if_neg (by rw [d1]; decide), if_pos nd, hval])
      · refine z_bipush rfl (by decide) ?_
        refine z_iload rfl rfl ?_
        refine z_imul rfl ?_
        refine z_aload_n rfl rfl ?_
        refine z_callV0 rfl rfl rfl rfl rfl rfl (s_cur (by rw [up_eq]; omega) (TXT_up (by decide) ht)) ?_
        rw [ec]
        refine z_bipush rfl (by decide) ?_
        refine z_isub rfl ?_
        refine z_iadd rfl ?_
        refine z_istore rfl rfl rfl ?_
        refine z_aload_n rfl rfl ?_
        refine z_dup rfl rfl ?_
        refine z_getS (bi := 1) rfl rfl rfl (by decide) ?_
        rw [up_eq]
        refine z_iconst rfl ?_
        refine z_iadd rfl ?_
        refine z_putS (bi := 1) rfl rfl rfl rfl (by decide) ?_
        refine z_goto rfl ?_
        have dd := of_decide_eq_true h74
        have hlt := cu_some (bt := Z 2) (len := Z 1 0) (p := p2 + 2) (by omega)
        rw [up_up]
        rw [show p2 + 2 + 1 = p2 + 3 by omega]
        exact K56_3 _ (by omega) (by omega) (by rw [hq, PD, if_neg (by rw [d0]; decide), if_neg (by rw [d1]; decide), if_neg (by rw [show dgB (cuF (Z 2) (Z 1 0)) (p2 + 2) = true from h74]; decide)])
  have K56_1 : ∀ val, (0 ≤ val ∧ val ≤ 9) → p2 + 1 ≤ Z 1 0 → dgB (cuF (Z 2) (Z 1 0)) p2 = true → val = (cuF (Z 2) (Z 1 0)) p2 - 48 → OkZ none 7 56 [some (.ref 1), some (.int (I most)), some (bI sg), some (bI ng), some (.int (I p2)), some (.int (I val)), none] [] (up Z 3 1 (p2 + 1)) J (fun r Z' J' => J' = J ∧ (∃ x, r = some (.int (I x)) ∧ RG x ∧ (q.1 = true → x = q.2.1)) ∧ (0 ≤ Z' 3 1 ∧ Z' 3 1 ≤ Z 1 0) ∧ (if q.1 = true then Z' 3 1 = q.2.2 ∧ Z' 3 2 = -1 else Z' 3 2 = q.2.2 ∧ 0 ≤ q.2.2 ∧ q.2.2 ≤ Z 1 0) ∧ ∀ (k : Nat) (j : Int), ¬ (k = 3 ∧ (j = 1 ∨ j = 2)) → Z' k j = Z k j) := by
    intro val hv hlen d0 hval
    have ec : cuF (up Z 3 1 (p2 + 1) 2) (up Z 3 1 (p2 + 1) 1 0) (up Z 3 1 (p2 + 1) 3 1) = (cuF (Z 2) (Z 1 0)) (p2 + 1) := by
      show (cuF (Z 2) (Z 1 0)) (up Z 3 1 (p2 + 1) 3 1) = _
      rw [up_eq]
    have hcu := cu_in ht (p2 + 1)
    refine z_aload_n rfl rfl ?_
    refine z_getS (bi := 1) rfl rfl rfl (by decide) ?_
    rw [up_eq]
    refine z_iload rfl rfl ?_
    refine z_iconst rfl ?_
    refine z_iadd rfl ?_
    refine z_icmp_ge rfl (by omega) (by omega) (fun h64 => ?_) (fun h64 => ?_)
    · exfalso; omega
    · refine z_aload_n rfl rfl ?_
      refine z_callV0 rfl rfl rfl rfl rfl rfl (s_cur (by rw [up_eq]; omega) (TXT_up (by decide) ht)) ?_
      rw [ec]
      refine z_callS1 rfl rfl rfl rfl (s_isDigit (by omega)) ?_
      refine z_ifb_eq rfl (fun h74 => ?_) (fun h74 => ?_)
      · have nd : dgB (cuF (Z 2) (Z 1 0)) (p2 + 1) = false := h74
        exact K105 1 val (by omega) (by omega) hlen (fun z => absurd z (by omega)) (fun z => absurd z (by omega)) (fun _ => by rw [hq, PD, if_neg (by rw [d0]; decide), if_pos nd, hval])
      · refine z_bipush rfl (by decide) ?_
        refine z_iload rfl rfl ?_
        refine z_imul rfl ?_
        refine z_aload_n rfl rfl ?_
        refine z_callV0 rfl rfl rfl rfl rfl rfl (s_cur (by rw [up_eq]; omega) (TXT_up (by decide) ht)) ?_
        rw [ec]
        refine z_bipush rfl (by decide) ?_
        refine z_isub rfl ?_
        refine z_iadd rfl ?_
        refine z_istore rfl rfl rfl ?_
        refine z_aload_n rfl rfl ?_
        refine z_dup rfl rfl ?_
        refine z_getS (bi := 1) rfl rfl rfl (by decide) ?_
        rw [up_eq]
        refine z_iconst rfl ?_
        refine z_iadd rfl ?_
        refine z_putS (bi := 1) rfl rfl rfl rfl (by decide) ?_
        refine z_goto rfl ?_
        have dd := of_decide_eq_true h74
        have hlt := cu_some (bt := Z 2) (len := Z 1 0) (p := p2 + 1) (by omega)
        rw [up_up]
        rw [show p2 + 1 + 1 = p2 + 2 by omega]
        exact K56_2 _ (by omega) (by omega) d0 h74 (by rw [hval])
  have K56_0 : ∀ val, (0 ≤ val ∧ val ≤ 0) → p2 + 0 ≤ Z 1 0 → val = 0 → OkZ none 7 56 [some (.ref 1), some (.int (I most)), some (bI sg), some (bI ng), some (.int (I p2)), some (.int (I val)), none] [] (up Z 3 1 (p2 + 0)) J (fun r Z' J' => J' = J ∧ (∃ x, r = some (.int (I x)) ∧ RG x ∧ (q.1 = true → x = q.2.1)) ∧ (0 ≤ Z' 3 1 ∧ Z' 3 1 ≤ Z 1 0) ∧ (if q.1 = true then Z' 3 1 = q.2.2 ∧ Z' 3 2 = -1 else Z' 3 2 = q.2.2 ∧ 0 ≤ q.2.2 ∧ q.2.2 ≤ Z 1 0) ∧ ∀ (k : Nat) (j : Int), ¬ (k = 3 ∧ (j = 1 ∨ j = 2)) → Z' k j = Z k j) := by
    intro val hv hlen hval
    have ec : cuF (up Z 3 1 (p2 + 0) 2) (up Z 3 1 (p2 + 0) 1 0) (up Z 3 1 (p2 + 0) 3 1) = (cuF (Z 2) (Z 1 0)) (p2 + 0) := by
      show (cuF (Z 2) (Z 1 0)) (up Z 3 1 (p2 + 0) 3 1) = _
      rw [up_eq]
    have hcu := cu_in ht (p2 + 0)
    refine z_aload_n rfl rfl ?_
    refine z_getS (bi := 1) rfl rfl rfl (by decide) ?_
    rw [up_eq]
    refine z_iload rfl rfl ?_
    refine z_iconst rfl ?_
    refine z_iadd rfl ?_
    refine z_icmp_ge rfl (by omega) (by omega) (fun h64 => ?_) (fun h64 => ?_)
    · exfalso; omega
    · refine z_aload_n rfl rfl ?_
      refine z_callV0 rfl rfl rfl rfl rfl rfl (s_cur (by rw [up_eq]; omega) (TXT_up (by decide) ht)) ?_
      rw [ec]
      refine z_callS1 rfl rfl rfl rfl (s_isDigit (by omega)) ?_
      refine z_ifb_eq rfl (fun h74 => ?_) (fun h74 => ?_)
      · have nd : dgB (cuF (Z 2) (Z 1 0)) (p2 + 0) = false := h74
        rw [Int.add_zero] at nd
        exact K105 0 val (by omega) (by omega) hlen (fun _ => by rw [hq, PD, if_pos nd]) (fun z => absurd z (by omega)) (fun z => by omega)
      · refine z_bipush rfl (by decide) ?_
        refine z_iload rfl rfl ?_
        refine z_imul rfl ?_
        refine z_aload_n rfl rfl ?_
        refine z_callV0 rfl rfl rfl rfl rfl rfl (s_cur (by rw [up_eq]; omega) (TXT_up (by decide) ht)) ?_
        rw [ec]
        refine z_bipush rfl (by decide) ?_
        refine z_isub rfl ?_
        refine z_iadd rfl ?_
        refine z_istore rfl rfl rfl ?_
        refine z_aload_n rfl rfl ?_
        refine z_dup rfl rfl ?_
        refine z_getS (bi := 1) rfl rfl rfl (by decide) ?_
        rw [up_eq]
        refine z_iconst rfl ?_
        refine z_iadd rfl ?_
        refine z_putS (bi := 1) rfl rfl rfl rfl (by decide) ?_
        refine z_goto rfl ?_
        have dd := of_decide_eq_true h74
        have hlt := cu_some (bt := Z 2) (len := Z 1 0) (p := p2 + 0) (by omega)
        rw [up_up]
        rw [show p2 + 0 + 1 = p2 + 1 by omega]
        rw [Int.add_zero] at h74 dd hlt
        rw [show (10 : Int) * val + (cuF (Z 2) (Z 1 0) (p2 + 0) - 48) = cuF (Z 2) (Z 1 0) p2 - 48 by rw [hval, Int.add_zero]; omega]
        exact K56_1 _ (by omega) (by omega) h74 rfl
  refine z_aload_n rfl rfl ?_
  refine z_getS (bi := 1) rfl rfl rfl (by decide) ?_
  rw [up_eq]
  refine z_istore rfl rfl rfl ?_
  refine z_iconst rfl ?_
  refine z_istore rfl rfl rfl ?_
  have k0 := K56_0 0 (by omega) (by omega) rfl
  rw [Int.add_zero] at k0
  exact k0
theorem s_readN {Z : ZW} {J : Int64} {most p : Int} {sg : Bool} (ht : TXT Z) (hw : Z 3 2 = -1) (hm : 0 ≤ most ∧ most ≤ 99) (he : Z 3 1 = p) (hp : 0 ≤ p ∧ p ≤ Z 1 0) : Mz 7 [.ref 1, .int (I most), bI sg] Z J (fun r Z' J' => J' = J ∧ (∃ x, r = some (.int (I x)) ∧ RG x ∧ ((PN (cuF (Z 2) (Z 1 0)) (Z 1 0) most sg p).1 = true → x = (PN (cuF (Z 2) (Z 1 0)) (Z 1 0) most sg p).2.1)) ∧ (0 ≤ Z' 3 1 ∧ Z' 3 1 ≤ Z 1 0) ∧ (if (PN (cuF (Z 2) (Z 1 0)) (Z 1 0) most sg p).1 = true then Z' 3 1 = (PN (cuF (Z 2) (Z 1 0)) (Z 1 0) most sg p).2.2 ∧ Z' 3 2 = -1 else Z' 3 2 = (PN (cuF (Z 2) (Z 1 0)) (Z 1 0) most sg p).2.2 ∧ 0 ≤ (PN (cuF (Z 2) (Z 1 0)) (Z 1 0) most sg p).2.2 ∧ (PN (cuF (Z 2) (Z 1 0)) (Z 1 0) most sg p).2.2 ≤ Z 1 0) ∧ ∀ (k : Nat) (j : Int), ¬ (k = 3 ∧ (j = 1 ∨ j = 2)) → Z' k j = Z k j) := by
  unfold Mz
  have hl := ht.1
  have hsk := skp_in (bt := Z 2) hl.1 hp.1 hp.2
  obtain ⟨p1, e1⟩ : ∃ p1, p1 = skp (cuF (Z 2) (Z 1 0)) (Z 1 0) p := ⟨_, rfl⟩
  rw [← e1] at hsk
  obtain ⟨q, hq⟩ : ∃ q, q = PN (cuF (Z 2) (Z 1 0)) (Z 1 0) most sg p := ⟨_, rfl⟩
  rw [← hq]
  unfold PN at hq
  rw [← e1] at hq
  have ec : cuF (up Z 3 1 p1 2) (up Z 3 1 p1 1 0) (up Z 3 1 p1 3 1) = (cuF (Z 2) (Z 1 0)) p1 := by
    show (cuF (Z 2) (Z 1 0)) (up Z 3 1 p1 3 1) = _
    rw [up_eq]
  have hcu := cu_in ht p1
  have K33 : ∀ ng : Bool, ng = (sg && decide ((cuF (Z 2) (Z 1 0)) p1 = 45)) → OkZ none 7 33 [some (.ref 1), some (.int (I most)), some (bI sg), some (bI ng), none, none, none] [] (up Z 3 1 p1) J (fun r Z' J' => J' = J ∧ (∃ x, r = some (.int (I x)) ∧ RG x ∧ (q.1 = true → x = q.2.1)) ∧ (0 ≤ Z' 3 1 ∧ Z' 3 1 ≤ Z 1 0) ∧ (if q.1 = true then Z' 3 1 = q.2.2 ∧ Z' 3 2 = -1 else Z' 3 2 = q.2.2 ∧ 0 ≤ q.2.2 ∧ q.2.2 ≤ Z 1 0) ∧ ∀ (k : Nat) (j : Int), ¬ (k = 3 ∧ (j = 1 ∨ j = 2)) → Z' k j = Z k j) := by
    intro ng hng
    rw [← hng] at hq
    refine z_iload_n rfl rfl ?_
    refine z_ifb_eq rfl (fun h34 => ?_) (fun h34 => ?_)
    · rw [h34, if_neg (by decide)] at hq
      rw [h34]
      exact l_readN ht hw hm (by omega) hq
    · refine z_aload_n rfl rfl ?_
      refine z_dup rfl rfl ?_
      refine z_getS (bi := 1) rfl rfl rfl (by decide) ?_
      rw [up_eq]
      refine z_iconst rfl ?_
      refine z_iadd rfl ?_
      refine z_putS (bi := 1) rfl rfl rfl rfl (by decide) ?_
      rw [h34, if_pos rfl] at hq
      rw [h34] at hng
      have h45 : (cuF (Z 2) (Z 1 0)) p1 = 45 := by cases sg with | false => cases hng | true => exact of_decide_eq_true hng.symm
      have hlt := cu_some (bt := Z 2) (len := Z 1 0) (p := p1) (by omega)
      rw [up_up, h34]
      exact l_readN ht hw hm (by omega) hq
  refine z_aload_n rfl rfl ?_
  refine z_getS (bi := 2) rfl rfl rfl (by decide) ?_
  refine z_iconst rfl ?_
  refine z_icmp_eq rfl (by omega) (by omega) (fun h5 => ?_) (fun h5 => ?_)
  · refine z_aload_n rfl rfl ?_
    refine z_callV0v rfl rfl rfl rfl rfl rfl (s_skip ht hp he) ?_
    rw [← e1]
    refine z_iload_n rfl rfl ?_
    refine z_ifb_eq rfl (fun h15 => ?_) (fun h15 => ?_)
    · refine z_iconst rfl ?_
      refine z_istore_n rfl rfl rfl ?_
      exact K33 false (by rw [h15]; rfl)
    · refine z_aload_n rfl rfl ?_
      refine z_callV0 rfl rfl rfl rfl rfl rfl (s_cur (by rw [up_eq]; omega) (TXT_up (by decide) ht)) ?_
      rw [ec]
      refine z_bipush rfl (by decide) ?_
      refine z_icmp_ne rfl (by omega) (by omega) (fun h24 => ?_) (fun h24 => ?_)
      · refine z_iconst rfl ?_
        refine z_istore_n rfl rfl rfl ?_
        exact K33 false (by rw [decide_eq_false h24, Bool.and_false])
      · refine z_iconst rfl ?_
        refine z_goto rfl ?_
        refine z_istore_n rfl rfl rfl ?_
        exact K33 true (by rw [h15, decide_eq_true h24]; rfl)
  · exact absurd hw h5
theorem s_readN0 {Z : ZW} {J : Int64} {most : Int} {sg : Bool} (hr : RG (Z 3 2)) (hw : Z 3 2 ≠ -1) : D 7 [.ref 1, .int (I most), bI sg] Z J (some (.int (I 0))) Z J := by
  unfold D Mz
  refine z_aload_n rfl rfl ?_
  refine z_getS (bi := 2) rfl rfl rfl (by decide) ?_
  refine z_iconst rfl ?_
  refine z_icmp_eq rfl (by omega) (by omega) (fun h5 => ?_) (fun h5 => ?_)
  · exact absurd h5 hw
  · refine z_iconst rfl ?_
    exact z_iret rfl rfl ⟨rfl, rfl, rfl⟩
theorem s_semi0 {Z : ZW} {J : Int64} (hr : RG (Z 3 2)) (hw : Z 3 2 ≠ -1) : D 9 [.ref 1] Z J none Z J := by
  unfold D Mz
  refine z_aload_n rfl rfl ?_
  refine z_getS (bi := 2) rfl rfl rfl (by decide) ?_
  refine z_iconst rfl ?_
  refine z_icmp_eq rfl (by omega) (by omega) (fun h5 => ?_) (fun h5 => ?_)
  · exact absurd h5 hw
  · exact z_vret rfl rfl ⟨rfl, rfl, rfl⟩
theorem s_semi {Z : ZW} {J : Int64} {p : Int} (ht : TXT Z) (hw : Z 3 2 = -1) (he : Z 3 1 = p) (hp : 0 ≤ p ∧ p ≤ Z 1 0) : D 9 [.ref 1] Z J none (if (cuF (Z 2) (Z 1 0)) (skp (cuF (Z 2) (Z 1 0)) (Z 1 0) p) = 59 then up Z 3 1 (skp (cuF (Z 2) (Z 1 0)) (Z 1 0) p + 1) else up (up Z 3 1 (skp (cuF (Z 2) (Z 1 0)) (Z 1 0) p)) 3 2 (skp (cuF (Z 2) (Z 1 0)) (Z 1 0) p)) J := by
  unfold D Mz
  have hl := ht.1
  have hsk := skp_in (bt := Z 2) hl.1 hp.1 hp.2
  obtain ⟨p1, e1⟩ : ∃ p1, p1 = skp (cuF (Z 2) (Z 1 0)) (Z 1 0) p := ⟨_, rfl⟩
  rw [← e1] at hsk
  rw [← e1]
  have ec : cuF (up Z 3 1 p1 2) (up Z 3 1 p1 1 0) (up Z 3 1 p1 3 1) = (cuF (Z 2) (Z 1 0)) p1 := by
    show (cuF (Z 2) (Z 1 0)) (up Z 3 1 p1 3 1) = _
    rw [up_eq]
  have hcu := cu_in ht p1
  refine z_aload_n rfl rfl ?_
  refine z_getS (bi := 2) rfl rfl rfl (by decide) ?_
  refine z_iconst rfl ?_
  refine z_icmp_eq rfl (by omega) (by omega) (fun h5 => ?_) (fun h5 => ?_)
  · refine z_aload_n rfl rfl ?_
    refine z_callV0v rfl rfl rfl rfl rfl rfl (s_skip ht hp he) ?_
    rw [← e1]
    refine z_aload_n rfl rfl ?_
    refine z_callV0 rfl rfl rfl rfl rfl rfl (s_cur (by rw [up_eq]; omega) (TXT_up (by decide) ht)) ?_
    rw [ec]
    refine z_bipush rfl (by decide) ?_
    refine z_icmp_ne rfl (by omega) (by omega) (fun h19 => ?_) (fun h19 => ?_)
    · refine z_aload_n rfl rfl ?_
      refine z_aload_n rfl rfl ?_
      refine z_getS (bi := 1) rfl rfl rfl (by decide) ?_
      rw [up_eq]
      refine z_putS (bi := 2) rfl rfl rfl rfl (by decide) ?_
      exact z_vret rfl rfl ⟨rfl, by rw [if_neg h19], rfl⟩
    · refine z_aload_n rfl rfl ?_
      refine z_dup rfl rfl ?_
      refine z_getS (bi := 1) rfl rfl rfl (by decide) ?_
      rw [up_eq]
      refine z_iconst rfl ?_
      refine z_iadd rfl ?_
      refine z_putS (bi := 1) rfl rfl rfl rfl (by decide) ?_
      refine z_goto rfl ?_
      exact z_vret rfl rfl ⟨rfl, by rw [if_pos h19, up_up], rfl⟩
  · exact absurd hw h5
