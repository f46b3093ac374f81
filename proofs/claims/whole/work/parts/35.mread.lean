/-! the reference: it reads -/
def MTX (Z : ZW) : Prop := (0 ≤ Z 64 6 ∧ Z 64 6 ≤ 150) ∧ ∀ j, 0 ≤ j → j < Z 64 6 → 0 ≤ Z 69 j ∧ Z 69 j ≤ 127
theorem mcu_in {Z : ZW} (h : MTX Z) (p : Int) : -1 ≤ cuF (Z 69) (Z 64 6) p ∧ cuF (Z 69) (Z 64 6) p ≤ 127 := by
  unfold cuF
  split
  · next hp => have := h.2 p hp.1 hp.2; omega
  · omega
theorem MTX_up {Z : ZW} {j v : Int} {k : Nat} (hk : k ≠ 69 ∧ ¬ (k = 64 ∧ j = 6)) (h : MTX Z) : MTX (up Z k j v) := by
  unfold MTX
  have e : up Z k j v 64 6 = Z 64 6 := by unfold up; rw [if_neg (fun q => hk.2 ⟨q.1.symm, q.2.symm⟩)]
  rw [e]
  refine ⟨h.1, fun i i0 i1 => ?_⟩
  rw [up_ne (fun q => hk.1 q.symm)]
  exact h.2 i i0 i1
theorem mp_other {Z : ZW} {k : Nat} {i v : Int} (h : ¬ (k = 64 ∧ (i = 7 ∨ i = 8))) : up Z 64 8 v k i = Z k i := by
  unfold up
  rw [if_neg (fun q => h ⟨q.1, Or.inr q.2⟩)]
theorem mp_other1 {Z : ZW} {k : Nat} {i v : Int} (h : ¬ (k = 64 ∧ (i = 7 ∨ i = 8))) : up Z 64 7 v k i = Z k i := by
  unfold up
  rw [if_neg (fun q => h ⟨q.1, Or.inl q.2⟩)]
theorem m_here {Z : ZW} {J : Int64} (hx : 0 ≤ Z 64 7 ∧ Z 64 7 ≤ 200) (ht : MTX Z) : D 106 [.ref 64] Z J (some (.int (I ((cuF (Z 69) (Z 64 6)) (Z 64 7))))) Z J := by
  have h1 := ht.1
  unfold D Mz
  refine z_aload_n rfl rfl ?_
  refine z_getI (bi := 7) rfl rfl rfl rfl ?_
  refine z_aload_n rfl rfl ?_
  refine z_getI (bi := 6) rfl rfl rfl rfl ?_
  refine z_icmp_ge rfl (by omega) (by omega) (fun h8 => ?_) (fun h8 => ?_)
  · refine z_iconst rfl ?_
    exact z_iret rfl rfl ⟨by rw [cuF, if_neg (by omega)], rfl, rfl⟩
  · refine z_aload_n rfl rfl ?_
    refine z_getR rfl rfl rfl rfl ?_
    refine z_aload_n rfl rfl ?_
    refine z_getI (bi := 7) rfl rfl rfl rfl ?_
    refine z_iald rfl rfl (by omega) ?_
    refine z_goto rfl ?_
    exact z_iret rfl rfl ⟨by rw [cuF, if_pos (by omega)], rfl, rfl⟩
theorem l_mskip {Z : ZW} {J : Int64} {v : Int} (ht : MTX Z) : ∀ (d : Nat) (p : Int), 0 ≤ p → p ≤ Z 64 6 → (Z 64 6 - p).toNat = d → v = sk (cuF (Z 69) (Z 64 6)) d p → OkZ none 107 0 [some (.ref 64)] [] (up Z 64 7 p) J (fun r Z' J' => r = none ∧ Z' = up Z 64 7 v ∧ J' = J) := by
  have hl := ht.1
  intro d
  induction d with
  | zero =>
    intro p h0 h1 hd hv
    have hv : v = p := hv
    have ec : cuF (up Z 64 7 p 69) (up Z 64 7 p 64 6) (up Z 64 7 p 64 7) = (cuF (Z 69) (Z 64 6)) p := by
      show (cuF (Z 69) (Z 64 6)) (up Z 64 7 p 64 7) = _
      rw [up_eq]
    have hcu := mcu_in ht p
    have hcn : (cuF (Z 69) (Z 64 6)) p = -1 := by unfold cuF; rw [if_neg (by omega)]
    refine z_aload_n rfl rfl ?_
    refine z_callV0 rfl rfl rfl rfl rfl rfl (m_here (by rw [up_eq]; omega) (MTX_up (by decide) ht)) ?_
    rw [ec]
    refine z_bipush rfl (by decide) ?_
    refine z_icmp_ne rfl (by omega) (by omega) (fun h6 => ?_) (fun h6 => ?_)
    · exact z_vret rfl rfl ⟨rfl, by rw [hv], rfl⟩
    · exfalso; omega
  | succ d ih =>
    intro p h0 h1 hd hv
    have hv2 : v = if (cuF (Z 69) (Z 64 6)) p = 32 then sk (cuF (Z 69) (Z 64 6)) d (p + 1) else p := hv
    have ec : cuF (up Z 64 7 p 69) (up Z 64 7 p 64 6) (up Z 64 7 p 64 7) = (cuF (Z 69) (Z 64 6)) p := by
      show (cuF (Z 69) (Z 64 6)) (up Z 64 7 p 64 7) = _
      rw [up_eq]
    have hcu := mcu_in ht p
    refine z_aload_n rfl rfl ?_
    refine z_callV0 rfl rfl rfl rfl rfl rfl (m_here (by rw [up_eq]; omega) (MTX_up (by decide) ht)) ?_
    rw [ec]
    refine z_bipush rfl (by decide) ?_
    refine z_icmp_ne rfl (by omega) (by omega) (fun h6 => ?_) (fun h6 => ?_)
    · rw [if_neg h6] at hv2
      exact z_vret rfl rfl ⟨rfl, by rw [hv2], rfl⟩
    · refine z_aload_n rfl rfl ?_
      refine z_dup rfl rfl ?_
      refine z_getI (bi := 7) rfl rfl rfl rfl ?_
      rw [up_eq]
      refine z_iconst rfl ?_
      refine z_iadd rfl ?_
      refine z_putI (bi := 7) rfl rfl rfl rfl rfl ?_
      refine z_goto rfl ?_
      rw [if_pos h6] at hv2
      rw [up_up]
      exact ih (p + 1) (by omega) (by omega) (by omega) hv2
theorem m_skips {Z : ZW} {J : Int64} {p : Int} (ht : MTX Z) (hp : 0 ≤ p ∧ p ≤ Z 64 6) (he : Z 64 7 = p) : D 107 [.ref 64] Z J none (up Z 64 7 (skp (cuF (Z 69) (Z 64 6)) (Z 64 6) p)) J := by
  have q := l_mskip (J := J) ht _ p hp.1 hp.2 rfl rfl
  rw [← he, up_self, he] at q
  exact q
set_option maxHeartbeats 4000000 in
theorem l_mpass {Z : ZW} {J : Int64} {most p2 : Int} {sg ng : Bool} {q : Bool × Int × Int} (ht : MTX Z) (hm : 0 ≤ most ∧ most ≤ 99) (hp : 0 ≤ p2 ∧ p2 ≤ Z 64 6) (hq : q = PD (cuF (Z 69) (Z 64 6)) most ng p2) : OkZ none 109 50 [some (.ref 64), some (.int (I most)), some (bI sg), some (bI ng), some (.int (I p2)), some (.int (I 0))] [] (up Z 64 7 p2) J (fun r Z' J' => J' = J ∧ r = some (bI q.1) ∧ Z' 64 7 = q.2.2 ∧ (q.1 = true → Z' 64 8 = q.2.1) ∧ (0 ≤ q.2.2 ∧ q.2.2 ≤ Z 64 6) ∧ ∀ (k : Nat) (j : Int), ¬ (k = 64 ∧ (j = 7 ∨ j = 8)) → Z' k j = Z k j) := by
  have hl := ht.1
  have K103 : ∀ (j val : Int), (0 ≤ j ∧ j ≤ 2) → (0 ≤ val ∧ val ≤ 99) → p2 + j ≤ Z 64 6 → (j = 0 → q = (false, 0, p2)) → (j ≠ 0 → dgB (cuF (Z 69) (Z 64 6)) (p2 + j) = true → q = (false, 0, p2 + j)) → (j ≠ 0 → dgB (cuF (Z 69) (Z 64 6)) (p2 + j) = false → q = PV most ng val p2 (p2 + j)) → OkZ none 109 103 [some (.ref 64), some (.int (I most)), some (bI sg), some (bI ng), some (.int (I p2)), some (.int (I val))] [] (up Z 64 7 (p2 + j)) J (fun r Z' J' => J' = J ∧ r = some (bI q.1) ∧ Z' 64 7 = q.2.2 ∧ (q.1 = true → Z' 64 8 = q.2.1) ∧ (0 ≤ q.2.2 ∧ q.2.2 ≤ Z 64 6) ∧ ∀ (k : Nat) (j : Int), ¬ (k = 64 ∧ (j = 7 ∨ j = 8)) → Z' k j = Z k j) := by
    intro j val hj hv hjl c0 c1 c2
    have ec : cuF (up Z 64 7 (p2 + j) 69) (up Z 64 7 (p2 + j) 64 6) (up Z 64 7 (p2 + j) 64 7) = (cuF (Z 69) (Z 64 6)) (p2 + j) := by
      show (cuF (Z 69) (Z 64 6)) (up Z 64 7 (p2 + j) 64 7) = _
      rw [up_eq]
    have hcu := mcu_in ht (p2 + j)
    refine z_aload_n rfl rfl ?_
    refine z_getI (bi := 7) rfl rfl rfl rfl ?_
    rw [up_eq]
    refine z_iload rfl rfl ?_
    refine z_icmp_eq rfl (by omega) (by omega) (fun h109 => ?_) (fun h109 => ?_)
    · refine z_iconst rfl ?_
      have eq := c0 (by omega)
      rw [eq]
      exact z_bret0 rfl rfl ⟨rfl, rfl, by rw [up_eq]; show p2 + j = p2; omega, fun z => (by cases z), hp, fun k i hk => mp_other1 hk⟩
    · refine z_aload_n rfl rfl ?_
      refine z_callV0 rfl rfl rfl rfl rfl rfl (m_here (by rw [up_eq]; omega) (MTX_up (by decide) ht)) ?_
      refine z_bipush rfl (by decide) ?_
      refine z_bipush rfl (by decide) ?_
      rw [ec]
      refine z_callS3 rfl rfl rfl rfl (m_within (by omega) (by omega) (by omega)) ?_
      refine z_ifb_eq rfl (fun h123 => ?_) (fun h123 => ?_)
      · refine z_aload_n rfl rfl ?_
        refine z_iload_n rfl rfl ?_
        refine z_ifb_eq rfl (fun h130 => ?_) (fun h130 => ?_)
        · refine z_iload rfl rfl ?_
          refine z_putI (bi := 8) rfl rfl rfl rfl rfl ?_
          refine z_aload_n rfl rfl ?_
          refine z_iload rfl rfl ?_
          refine z_iload_n rfl rfl ?_
          refine z_icmp_le rfl (by omega) (by omega) (fun h148 => ?_) (fun h148 => ?_)
          · refine z_aload_n rfl rfl ?_
            refine z_getI (bi := 7) rfl rfl rfl rfl ?_
            rw [up_nj (by decide), up_eq]
            refine z_putI (bi := 7) rfl rfl rfl rfl rfl ?_
            refine z_iload rfl rfl ?_
            refine z_iload_n rfl rfl ?_
            refine z_icmp_gt rfl (by omega) (by omega) (fun h166 => ?_) (fun h166 => ?_)
            · refine z_iconst rfl ?_
              exfalso; omega
            · refine z_iconst rfl ?_
              refine z_goto rfl ?_
              have eq := c2 (by omega) h123
              rw [PV, if_neg (by omega), h130] at eq
              rw [eq]
              exact z_bret1 rfl rfl ⟨rfl, rfl, by rw [up_eq], fun _ => by rw [up_nj (by decide), up_eq]; rfl, ⟨by show 0 ≤ p2 + j; omega, hjl⟩, fun k i hk => by rw [mp_other1 hk, mp_other hk, mp_other1 hk]⟩
          · refine z_iload rfl rfl ?_
            refine z_goto rfl ?_
            refine z_putI (bi := 7) rfl rfl rfl rfl rfl ?_
            refine z_iload rfl rfl ?_
            refine z_iload_n rfl rfl ?_
            refine z_icmp_gt rfl (by omega) (by omega) (fun h166 => ?_) (fun h166 => ?_)
            · refine z_iconst rfl ?_
              have eq := c2 (by omega) h123
              rw [PV, if_pos (by omega)] at eq
              rw [eq]
              exact z_bret0 rfl rfl ⟨rfl, rfl, by rw [up_eq], fun z => (by cases z), hp, fun k i hk => by rw [mp_other1 hk, mp_other hk, mp_other1 hk]⟩
            · refine z_iconst rfl ?_
              refine z_goto rfl ?_
              exfalso; omega
        · refine z_iload rfl rfl ?_
          refine z_ineg rfl ?_
          refine z_goto rfl ?_
          refine z_putI (bi := 8) rfl rfl rfl rfl rfl ?_
          refine z_aload_n rfl rfl ?_
          refine z_iload rfl rfl ?_
          refine z_iload_n rfl rfl ?_
          refine z_icmp_le rfl (by omega) (by omega) (fun h148 => ?_) (fun h148 => ?_)
          · refine z_aload_n rfl rfl ?_
            refine z_getI (bi := 7) rfl rfl rfl rfl ?_
            rw [up_nj (by decide), up_eq]
            refine z_putI (bi := 7) rfl rfl rfl rfl rfl ?_
            refine z_iload rfl rfl ?_
            refine z_iload_n rfl rfl ?_
            refine z_icmp_gt rfl (by omega) (by omega) (fun h166 => ?_) (fun h166 => ?_)
            · refine z_iconst rfl ?_
              exfalso; omega
            · refine z_iconst rfl ?_
              refine z_goto rfl ?_
              have eq := c2 (by omega) h123
              rw [PV, if_neg (by omega), h130] at eq
              rw [eq]
              exact z_bret1 rfl rfl ⟨rfl, rfl, by rw [up_eq], fun _ => by rw [up_nj (by decide), up_eq]; rfl, ⟨by show 0 ≤ p2 + j; omega, hjl⟩, fun k i hk => by rw [mp_other1 hk, mp_other hk, mp_other1 hk]⟩
          · refine z_iload rfl rfl ?_
            refine z_goto rfl ?_
            refine z_putI (bi := 7) rfl rfl rfl rfl rfl ?_
            refine z_iload rfl rfl ?_
            refine z_iload_n rfl rfl ?_
            refine z_icmp_gt rfl (by omega) (by omega) (fun h166 => ?_) (fun h166 => ?_)
            · refine z_iconst rfl ?_
              have eq := c2 (by omega) h123
              rw [PV, if_pos (by omega)] at eq
              rw [eq]
              exact z_bret0 rfl rfl ⟨rfl, rfl, by rw [up_eq], fun z => (by cases z), hp, fun k i hk => by rw [mp_other1 hk, mp_other hk, mp_other1 hk]⟩
            · refine z_iconst rfl ?_
              refine z_goto rfl ?_
              exfalso; omega
      · refine z_iconst rfl ?_
        have eq := c1 (by omega) h123
        rw [eq]
        exact z_bret0 rfl rfl ⟨rfl, rfl, by rw [up_eq], fun z => (by cases z), ⟨by show 0 ≤ p2 + j; omega, hjl⟩, fun k i hk => mp_other1 hk⟩
  have K50_2 : ∀ val, (0 ≤ val ∧ val ≤ 99) → p2 + 2 ≤ Z 64 6 → dgB (cuF (Z 69) (Z 64 6)) p2 = true → dgB (cuF (Z 69) (Z 64 6)) (p2 + 1) = true → val = 10 * ((cuF (Z 69) (Z 64 6)) p2 - 48) + ((cuF (Z 69) (Z 64 6)) (p2 + 1) - 48) → OkZ none 109 50 [some (.ref 64), some (.int (I most)), some (bI sg), some (bI ng), some (.int (I p2)), some (.int (I val))] [] (up Z 64 7 (p2 + 2)) J (fun r Z' J' => J' = J ∧ r = some (bI q.1) ∧ Z' 64 7 = q.2.2 ∧ (q.1 = true → Z' 64 8 = q.2.1) ∧ (0 ≤ q.2.2 ∧ q.2.2 ≤ Z 64 6) ∧ ∀ (k : Nat) (j : Int), ¬ (k = 64 ∧ (j = 7 ∨ j = 8)) → Z' k j = Z k j) := by
    intro val hv hlen d0 d1 hval
    have ec : cuF (up Z 64 7 (p2 + 2) 69) (up Z 64 7 (p2 + 2) 64 6) (up Z 64 7 (p2 + 2) 64 7) = (cuF (Z 69) (Z 64 6)) (p2 + 2) := by
      show (cuF (Z 69) (Z 64 6)) (up Z 64 7 (p2 + 2) 64 7) = _
      rw [up_eq]
    have hcu := mcu_in ht (p2 + 2)
    refine z_aload_n rfl rfl ?_
    refine z_callV0 rfl rfl rfl rfl rfl rfl (m_here (by rw [up_eq]; omega) (MTX_up (by decide) ht)) ?_
    rw [ec]
    refine z_bipush rfl (by decide) ?_
    refine z_bipush rfl (by decide) ?_
    refine z_callS3 rfl rfl rfl rfl (m_within (by omega) (by omega) (by omega)) ?_
    refine z_ifb_eq rfl (fun h61 => ?_) (fun h61 => ?_)
    · have nd : dgB (cuF (Z 69) (Z 64 6)) (p2 + 2) = false := h61
      exact K103 2 val (by omega) (by omega) hlen (fun z => absurd z (by decide)) (fun _ z => by rw [nd] at z; cases z) (fun _ _ => by rw [hq, PD, if_neg (by rw [d0]; decide), if_neg (by rw [d1]; decide), if_pos nd, hval])
    · refine z_aload_n rfl rfl ?_
      refine z_getI (bi := 7) rfl rfl rfl rfl ?_
      rw [up_eq]
      refine z_iload rfl rfl ?_
      refine z_iconst rfl ?_
      refine z_iadd rfl ?_
      refine z_icmp_ge rfl (by omega) (by omega) (fun h72 => ?_) (fun h72 => ?_)
      · have yd : dgB (cuF (Z 69) (Z 64 6)) (p2 + 2) = true := h61
        exact K103 2 val (by omega) (by omega) hlen (fun z => absurd z (by decide)) (fun _ _ => by rw [hq, PD, if_neg (by rw [d0]; decide), if_neg (by rw [d1]; decide), if_neg (by rw [yd]; decide)]) (fun _ z => by rw [yd] at z; cases z)
      · refine z_bipush rfl (by decide) ?_
        refine z_iload rfl rfl ?_
        refine z_imul rfl ?_
        refine z_aload_n rfl rfl ?_
        refine z_callV0 rfl rfl rfl rfl rfl rfl (m_here (by rw [up_eq]; omega) (MTX_up (by decide) ht)) ?_
        rw [ec]
        refine z_iadd rfl ?_
        refine z_bipush rfl (by decide) ?_
        refine z_isub rfl ?_
        refine z_istore rfl rfl rfl ?_
        refine z_aload_n rfl rfl ?_
        refine z_dup rfl rfl ?_
        refine z_getI (bi := 7) rfl rfl rfl rfl ?_
        rw [up_eq]
        refine z_iconst rfl ?_
        refine z_iadd rfl ?_
        refine z_putI (bi := 7) rfl rfl rfl rfl rfl ?_
        refine z_goto rfl ?_
        exfalso; omega
  have K50_1 : ∀ val, (0 ≤ val ∧ val ≤ 9) → p2 + 1 ≤ Z 64 6 → dgB (cuF (Z 69) (Z 64 6)) p2 = true → val = (cuF (Z 69) (Z 64 6)) p2 - 48 → OkZ none 109 50 [some (.ref 64), some (.int (I most)), some (bI sg), some (bI ng), some (.int (I p2)), some (.int (I val))] [] (up Z 64 7 (p2 + 1)) J (fun r Z' J' => J' = J ∧ r = some (bI q.1) ∧ Z' 64 7 = q.2.2 ∧ (q.1 = true → Z' 64 8 = q.2.1) ∧ (0 ≤ q.2.2 ∧ q.2.2 ≤ Z 64 6) ∧ ∀ (k : Nat) (j : Int), ¬ (k = 64 ∧ (j = 7 ∨ j = 8)) → Z' k j = Z k j) := by
    intro val hv hlen d0 hval
    have ec : cuF (up Z 64 7 (p2 + 1) 69) (up Z 64 7 (p2 + 1) 64 6) (up Z 64 7 (p2 + 1) 64 7) = (cuF (Z 69) (Z 64 6)) (p2 + 1) := by
      show (cuF (Z 69) (Z 64 6)) (up Z 64 7 (p2 + 1) 64 7) = _
      rw [up_eq]
    have hcu := mcu_in ht (p2 + 1)
    refine z_aload_n rfl rfl ?_
    refine z_callV0 rfl rfl rfl rfl rfl rfl (m_here (by rw [up_eq]; omega) (MTX_up (by decide) ht)) ?_
    rw [ec]
    refine z_bipush rfl (by decide) ?_
    refine z_bipush rfl (by decide) ?_
    refine z_callS3 rfl rfl rfl rfl (m_within (by omega) (by omega) (by omega)) ?_
    refine z_ifb_eq rfl (fun h61 => ?_) (fun h61 => ?_)
    · have nd : dgB (cuF (Z 69) (Z 64 6)) (p2 + 1) = false := h61
      exact K103 1 val (by omega) (by omega) hlen (fun z => absurd z (by decide)) (fun _ z => by rw [nd] at z; cases z) (fun _ _ => by rw [hq, PD, if_neg (by rw [d0]; decide), if_pos nd, hval])
    · refine z_aload_n rfl rfl ?_
      refine z_getI (bi := 7) rfl rfl rfl rfl ?_
      rw [up_eq]
      refine z_iload rfl rfl ?_
      refine z_iconst rfl ?_
      refine z_iadd rfl ?_
      refine z_icmp_ge rfl (by omega) (by omega) (fun h72 => ?_) (fun h72 => ?_)
      · exfalso; omega
      · refine z_bipush rfl (by decide) ?_
        refine z_iload rfl rfl ?_
        refine z_imul rfl ?_
        refine z_aload_n rfl rfl ?_
        refine z_callV0 rfl rfl rfl rfl rfl rfl (m_here (by rw [up_eq]; omega) (MTX_up (by decide) ht)) ?_
        rw [ec]
        refine z_iadd rfl ?_
        refine z_bipush rfl (by decide) ?_
        refine z_isub rfl ?_
        refine z_istore rfl rfl rfl ?_
        refine z_aload_n rfl rfl ?_
        refine z_dup rfl rfl ?_
        refine z_getI (bi := 7) rfl rfl rfl rfl ?_
        rw [up_eq]
        refine z_iconst rfl ?_
        refine z_iadd rfl ?_
        refine z_putI (bi := 7) rfl rfl rfl rfl rfl ?_
        refine z_goto rfl ?_
        have dd := of_decide_eq_true h61
        have hlt := cu_some (bt := Z 69) (len := Z 64 6) (p := p2 + 1) (by omega)
        rw [up_up]
        rw [show p2 + 1 + 1 = p2 + 2 by omega]
        exact K50_2 _ (by omega) (by omega) d0 h61 (by rw [hval]; omega)
  have K50_0 : ∀ val, (0 ≤ val ∧ val ≤ 0) → p2 + 0 ≤ Z 64 6 → val = 0 → OkZ none 109 50 [some (.ref 64), some (.int (I most)), some (bI sg), some (bI ng), some (.int (I p2)), some (.int (I val))] [] (up Z 64 7 (p2 + 0)) J (fun r Z' J' => J' = J ∧ r = some (bI q.1) ∧ Z' 64 7 = q.2.2 ∧ (q.1 = true → Z' 64 8 = q.2.1) ∧ (0 ≤ q.2.2 ∧ q.2.2 ≤ Z 64 6) ∧ ∀ (k : Nat) (j : Int), ¬ (k = 64 ∧ (j = 7 ∨ j = 8)) → Z' k j = Z k j) := by
    intro val hv hlen hval
    have ec : cuF (up Z 64 7 (p2 + 0) 69) (up Z 64 7 (p2 + 0) 64 6) (up Z 64 7 (p2 + 0) 64 7) = (cuF (Z 69) (Z 64 6)) (p2 + 0) := by
      show (cuF (Z 69) (Z 64 6)) (up Z 64 7 (p2 + 0) 64 7) = _
      rw [up_eq]
    have hcu := mcu_in ht (p2 + 0)
    refine z_aload_n rfl rfl ?_
    refine z_callV0 rfl rfl rfl rfl rfl rfl (m_here (by rw [up_eq]; omega) (MTX_up (by decide) ht)) ?_
    rw [ec]
    refine z_bipush rfl (by decide) ?_
    refine z_bipush rfl (by decide) ?_
    refine z_callS3 rfl rfl rfl rfl (m_within (by omega) (by omega) (by omega)) ?_
    refine z_ifb_eq rfl (fun h61 => ?_) (fun h61 => ?_)
    · have nd : dgB (cuF (Z 69) (Z 64 6)) (p2 + 0) = false := h61
      rw [Int.add_zero] at nd
      exact K103 0 val (by omega) (by omega) hlen (fun _ => by rw [hq, PD, if_pos nd]) (fun z => absurd rfl z) (fun z => absurd rfl z)
    · refine z_aload_n rfl rfl ?_
      refine z_getI (bi := 7) rfl rfl rfl rfl ?_
      rw [up_eq]
      refine z_iload rfl rfl ?_
      refine z_iconst rfl ?_
      refine z_iadd rfl ?_
      refine z_icmp_ge rfl (by omega) (by omega) (fun h72 => ?_) (fun h72 => ?_)
      · exfalso; omega
      · refine z_bipush rfl (by decide) ?_
        refine z_iload rfl rfl ?_
        refine z_imul rfl ?_
        refine z_aload_n rfl rfl ?_
        refine z_callV0 rfl rfl rfl rfl rfl rfl (m_here (by rw [up_eq]; omega) (MTX_up (by decide) ht)) ?_
        rw [ec]
        refine z_iadd rfl ?_
        refine z_bipush rfl (by decide) ?_
        refine z_isub rfl ?_
        refine z_istore rfl rfl rfl ?_
        refine z_aload_n rfl rfl ?_
        refine z_dup rfl rfl ?_
        refine z_getI (bi := 7) rfl rfl rfl rfl ?_
        rw [up_eq]
        refine z_iconst rfl ?_
        refine z_iadd rfl ?_
        refine z_putI (bi := 7) rfl rfl rfl rfl rfl ?_
        refine z_goto rfl ?_
        have dd := of_decide_eq_true h61
        have hlt := cu_some (bt := Z 69) (len := Z 64 6) (p := p2 + 0) (by omega)
        rw [up_up]
        rw [show p2 + 0 + 1 = p2 + 1 by omega]
        rw [Int.add_zero] at h61 dd hlt
        rw [show (10 : Int) * val + (cuF (Z 69) (Z 64 6)) (p2 + 0) - 48 = (cuF (Z 69) (Z 64 6)) p2 - 48 by rw [hval, Int.add_zero]; omega]
        exact K50_1 _ (by omega) (by omega) h61 rfl
  have k0 := K50_0 0 (by omega) (by omega) rfl
  rw [Int.add_zero] at k0
  exact k0
set_option maxHeartbeats 1000000 in
theorem m_passes {Z : ZW} {J : Int64} {most p : Int} {sg : Bool} (ht : MTX Z) (hm : 0 ≤ most ∧ most ≤ 99) (he : Z 64 7 = p) (hp : 0 ≤ p ∧ p ≤ Z 64 6) : Mz 109 [.ref 64, .int (I most), bI sg] Z J (fun r Z' J' => J' = J ∧ r = some (bI (PN (cuF (Z 69) (Z 64 6)) (Z 64 6) most sg p).1) ∧ Z' 64 7 = (PN (cuF (Z 69) (Z 64 6)) (Z 64 6) most sg p).2.2 ∧ ((PN (cuF (Z 69) (Z 64 6)) (Z 64 6) most sg p).1 = true → Z' 64 8 = (PN (cuF (Z 69) (Z 64 6)) (Z 64 6) most sg p).2.1) ∧ (0 ≤ (PN (cuF (Z 69) (Z 64 6)) (Z 64 6) most sg p).2.2 ∧ (PN (cuF (Z 69) (Z 64 6)) (Z 64 6) most sg p).2.2 ≤ Z 64 6) ∧ ∀ (k : Nat) (j : Int), ¬ (k = 64 ∧ (j = 7 ∨ j = 8)) → Z' k j = Z k j) := by
  unfold Mz
  have hl := ht.1
  have hsk := skp_in (bt := Z 69) hl.1 hp.1 hp.2
  obtain ⟨p1, e1⟩ : ∃ p1, p1 = skp (cuF (Z 69) (Z 64 6)) (Z 64 6) p := ⟨_, rfl⟩
  rw [← e1] at hsk
  obtain ⟨q, hq⟩ : ∃ q, q = PN (cuF (Z 69) (Z 64 6)) (Z 64 6) most sg p := ⟨_, rfl⟩
  rw [← hq]
  unfold PN at hq
  rw [← e1] at hq
  have ec : cuF (up Z 64 7 p1 69) (up Z 64 7 p1 64 6) (up Z 64 7 p1 64 7) = (cuF (Z 69) (Z 64 6)) p1 := by
    show (cuF (Z 69) (Z 64 6)) (up Z 64 7 p1 64 7) = _
    rw [up_eq]
  have hcu := mcu_in ht p1
  have K22 : ∀ ng : Bool, ng = (sg && decide ((cuF (Z 69) (Z 64 6)) p1 = 45)) → OkZ none 109 22 [some (.ref 64), some (.int (I most)), some (bI sg), none, none, none] [bI ng] (up Z 64 7 p1) J (fun r Z' J' => J' = J ∧ r = some (bI q.1) ∧ Z' 64 7 = q.2.2 ∧ (q.1 = true → Z' 64 8 = q.2.1) ∧ (0 ≤ q.2.2 ∧ q.2.2 ≤ Z 64 6) ∧ ∀ (k : Nat) (j : Int), ¬ (k = 64 ∧ (j = 7 ∨ j = 8)) → Z' k j = Z k j) := by
    intro ng hng
    rw [← hng] at hq
    refine z_istore_n rfl rfl rfl ?_
    refine z_aload_n rfl rfl ?_
    refine z_dup rfl rfl ?_
    refine z_getI (bi := 7) rfl rfl rfl rfl ?_
    rw [up_eq]
    refine z_iload_n rfl rfl ?_
    refine z_ifb_eq rfl (fun h29 => ?_) (fun h29 => ?_)
    · refine z_iconst rfl ?_
      refine z_iadd rfl ?_
      refine z_putI (bi := 7) rfl rfl rfl rfl rfl ?_
      refine z_aload_n rfl rfl ?_
      refine z_getI (bi := 7) rfl rfl rfl rfl ?_
      rw [up_eq]
      refine z_istore rfl rfl rfl ?_
      refine z_iconst rfl ?_
      refine z_istore rfl rfl rfl ?_
      rw [h29, if_neg (by decide)] at hq
      rw [up_up, Int.add_zero, h29]
      exact l_mpass ht hm (by omega) hq
    · refine z_iconst rfl ?_
      refine z_goto rfl ?_
      refine z_iadd rfl ?_
      refine z_putI (bi := 7) rfl rfl rfl rfl rfl ?_
      refine z_aload_n rfl rfl ?_
      refine z_getI (bi := 7) rfl rfl rfl rfl ?_
      rw [up_eq]
      refine z_istore rfl rfl rfl ?_
      refine z_iconst rfl ?_
      refine z_istore rfl rfl rfl ?_
      rw [h29, if_pos rfl] at hq
      rw [h29] at hng
      have h45 : (cuF (Z 69) (Z 64 6)) p1 = 45 := by cases sg with | false => cases hng | true => exact of_decide_eq_true hng.symm
      have hlt := cu_some (bt := Z 69) (len := Z 64 6) (p := p1) (by omega)
      rw [up_up, h29]
      exact l_mpass ht hm (by omega) hq
  refine z_aload_n rfl rfl ?_
  refine z_callV0v rfl rfl rfl rfl rfl rfl (m_skips ht hp he) ?_
  rw [← e1]
  refine z_iload_n rfl rfl ?_
  refine z_ifb_eq rfl (fun h5 => ?_) (fun h5 => ?_)
  · refine z_iconst rfl ?_
    exact K22 false (by rw [h5]; rfl)
  · refine z_aload_n rfl rfl ?_
    refine z_callV0 rfl rfl rfl rfl rfl rfl (m_here (by rw [up_eq]; omega) (MTX_up (by decide) ht)) ?_
    rw [ec]
    refine z_bipush rfl (by decide) ?_
    refine z_icmp_ne rfl (by omega) (by omega) (fun h14 => ?_) (fun h14 => ?_)
    · refine z_iconst rfl ?_
      exact K22 false (by rw [decide_eq_false h14, Bool.and_false])
    · refine z_iconst rfl ?_
      refine z_goto rfl ?_
      exact K22 true (by rw [h5, decide_eq_true h14]; rfl)
