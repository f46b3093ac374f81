/-! the reference: the cost of a chain -/
theorem l_chainC {Z : ZW} {J : Int64} {nb : Nat} {b : Int} (hnb : Z 64 9 = nb) (hnb2 : nb ≤ 24) (hb : 0 ≤ b ∧ b < nb) (hH : ∀ t, 0 ≤ t → t < (nb : Int) → RG (Z 76 t)) : ∀ (d t : Nat), t + d = nb → OkZ none 125 4 [some (.ref 64), some (.int (I b)), some (.int (I (ccF (Z 76) (Z 74) t (Z 76 b)))), some (.int (I (t : Int)))] [] Z J (fun r Z' J' => r = some (.int (I (ccF (Z 76) (Z 74) nb (Z 76 b)))) ∧ Z' = Z ∧ J' = J) := by
  have hbh := hH b hb.1 hb.2
  intro d
  induction d with
  | zero =>
    intro t ht
    have et : t = nb := by omega
    refine z_iload_n rfl rfl ?_
    refine z_aload_n rfl rfl ?_
    refine z_getI (bi := 9) rfl rfl rfl rfl ?_
    rw [hnb]
    refine z_icmp_ge rfl (by omega) (by omega) (fun h9 => ?_) (fun h9 => ?_)
    · refine z_iload_n rfl rfl ?_
      exact z_iret rfl rfl ⟨by rw [et], rfl, rfl⟩
    · exfalso; omega
  | succ d ih =>
    intro t ht
    have hth := hH (t : Int) (by omega) (by omega)
    have e : ccF (Z 76) (Z 74) (t + 1) (Z 76 b) = if Z 76 (t : Int) = Z 76 b then ccF (Z 76) (Z 74) t (Z 76 b) + Z 74 (t : Int) else ccF (Z 76) (Z 74) t (Z 76 b) := rfl
    have hi := ih (t + 1) (by omega)
    refine z_iload_n rfl rfl ?_
    refine z_aload_n rfl rfl ?_
    refine z_getI (bi := 9) rfl rfl rfl rfl ?_
    rw [hnb]
    refine z_icmp_ge rfl (by omega) (by omega) (fun h9 => ?_) (fun h9 => ?_)
    · exfalso; omega
    · refine z_iload_n rfl rfl ?_
      refine z_aload_n rfl rfl ?_
      refine z_getR rfl rfl rfl rfl ?_
      refine z_iload_n rfl rfl ?_
      refine z_iald rfl rfl (by omega) ?_
      refine z_aload_n rfl rfl ?_
      refine z_getR rfl rfl rfl rfl ?_
      refine z_iload_n rfl rfl ?_
      refine z_iald rfl rfl (by omega) ?_
      refine z_icmp_ne rfl (by omega) (by omega) (fun h25 => ?_) (fun h25 => ?_)
      · refine z_iconst rfl ?_
        refine z_iadd rfl ?_
        refine z_istore_n rfl rfl rfl ?_
        refine z_iinc rfl rfl rfl rfl ?_
        refine z_goto rfl ?_
        rw [if_neg h25] at e
        rw [e] at hi
        rw [Int.add_zero]
        exact hi
      · refine z_aload_n rfl rfl ?_
        refine z_getR rfl rfl rfl rfl ?_
        refine z_iload_n rfl rfl ?_
        refine z_iald rfl rfl (by omega) ?_
        refine z_goto rfl ?_
        refine z_iadd rfl ?_
        refine z_istore_n rfl rfl rfl ?_
        refine z_iinc rfl rfl rfl rfl ?_
        refine z_goto rfl ?_
        rw [if_pos h25] at e
        rw [e] at hi
        exact hi
theorem m_chainCostOf {Z : ZW} {J : Int64} {nb : Nat} {b : Int} (hnb : Z 64 9 = nb) (hnb2 : nb ≤ 24) (hb : 0 ≤ b ∧ b < nb) (hH : ∀ t, 0 ≤ t → t < (nb : Int) → RG (Z 76 t)) : D 125 [.ref 64, .int (I b)] Z J (some (.int (I (ccF (Z 76) (Z 74) nb (Z 76 b))))) Z J := by
  unfold D Mz
  refine z_iconst rfl ?_
  refine z_istore_n rfl rfl rfl ?_
  refine z_iconst rfl ?_
  refine z_istore_n rfl rfl rfl ?_
  exact l_chainC hnb hnb2 hb hH nb 0 (by omega)
