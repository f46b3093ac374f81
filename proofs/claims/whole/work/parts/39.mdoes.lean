/-! the reference: it does an instruction -/
theorem m_does {Z : ZW} {J : Int64} {x o a b : Int} (e1 : Z 65 (1 + x) = o) (e2 : Z 65 (25 + x) = a) (e3 : Z 65 (49 + x) = b) (hx : 0 ≤ x ∧ x < 24) (ho : 0 ≤ o ∧ o ≤ 7) (ha : 0 ≤ a ∧ a ≤ 3) (hb : o = 2 ∨ o = 3 → 0 ≤ b ∧ b ≤ 3) : Mz 137 [.ref 64, .int (I x)] Z J (fun r Z' J' => J' = J ∧ r = some (.int (I (nA o a b (Z 79) x))) ∧ Z' 79 = nR o a b (Z 79) ∧ ∀ (k : Nat) (j : Int), k ≠ 79 → Z' k j = Z k j) := by
  unfold Mz
  have hc : o = 0 ∨ o = 1 ∨ o = 2 ∨ o = 3 ∨ o = 4 ∨ o = 5 ∨ o = 6 ∨ 7 ≤ o := by omega
  refine z_aload_n rfl rfl ?_
  refine z_getR rfl rfl rfl rfl ?_
  refine z_bipush rfl (by decide) ?_
  refine z_iload_n rfl rfl ?_
  refine z_iadd rfl ?_
  refine z_iald rfl rfl (by omega) ?_
  rw [e2]
  refine z_istore_n rfl rfl rfl ?_
  refine z_aload_n rfl rfl ?_
  refine z_getR rfl rfl rfl rfl ?_
  refine z_bipush rfl (by decide) ?_
  refine z_iload_n rfl rfl ?_
  refine z_iadd rfl ?_
  refine z_iald rfl rfl (by omega) ?_
  rw [e3]
  refine z_istore_n rfl rfl rfl ?_
  refine z_aload_n rfl rfl ?_
  refine z_getR rfl rfl rfl rfl ?_
  refine z_iconst rfl ?_
  refine z_iload_n rfl rfl ?_
  refine z_iadd rfl ?_
  refine z_iald rfl rfl (by omega) ?_
  rw [e1]
  rcases hc with rfl | rfl | rfl | rfl | rfl | rfl | rfl | h
  · refine z_swIn (tgt := 72) rfl (by decide) (by decide) (by decide) rfl rfl ?_
    refine z_aload_n rfl rfl ?_
    refine z_getR rfl rfl rfl rfl ?_
    refine z_iload_n rfl rfl ?_
    refine z_dup2 rfl rfl rfl ?_
    refine z_iald rfl rfl (by omega) ?_
    refine z_iload_n rfl rfl ?_
    refine z_iadd rfl ?_
    refine z_iast rfl rfl (by omega) ?_
    refine z_iload_n rfl rfl ?_
    refine z_iconst rfl ?_
    refine z_iadd rfl ?_
    exact z_iret rfl rfl ⟨rfl, rfl, by rw [up_upd]; rfl, fun k j hk => up_ne hk⟩
  · refine z_swIn (tgt := 86) rfl (by decide) (by decide) (by decide) rfl rfl ?_
    refine z_aload_n rfl rfl ?_
    refine z_getR rfl rfl rfl rfl ?_
    refine z_iload_n rfl rfl ?_
    refine z_iload_n rfl rfl ?_
    refine z_iast rfl rfl (by omega) ?_
    refine z_iload_n rfl rfl ?_
    refine z_iconst rfl ?_
    refine z_iadd rfl ?_
    exact z_iret rfl rfl ⟨rfl, rfl, by rw [up_upd]; rfl, fun k j hk => up_ne hk⟩
  · refine z_swIn (tgt := 97) rfl (by decide) (by decide) (by decide) rfl rfl ?_
    have hbb := hb (by decide)
    refine z_aload_n rfl rfl ?_
    refine z_getR rfl rfl rfl rfl ?_
    refine z_iload_n rfl rfl ?_
    refine z_aload_n rfl rfl ?_
    refine z_getR rfl rfl rfl rfl ?_
    refine z_iload_n rfl rfl ?_
    refine z_iald rfl rfl (by omega) ?_
    refine z_iast rfl rfl (by omega) ?_
    refine z_iload_n rfl rfl ?_
    refine z_iconst rfl ?_
    refine z_iadd rfl ?_
    exact z_iret rfl rfl ⟨rfl, rfl, by rw [up_upd]; rfl, fun k j hk => up_ne hk⟩
  · refine z_swIn (tgt := 113) rfl (by decide) (by decide) (by decide) rfl rfl ?_
    have hbb := hb (by decide)
    refine z_aload_n rfl rfl ?_
    refine z_getR rfl rfl rfl rfl ?_
    refine z_iload_n rfl rfl ?_
    refine z_dup2 rfl rfl rfl ?_
    refine z_iald rfl rfl (by omega) ?_
    refine z_aload_n rfl rfl ?_
    refine z_getR rfl rfl rfl rfl ?_
    refine z_iload_n rfl rfl ?_
    refine z_iald rfl rfl (by omega) ?_
    refine z_isub rfl ?_
    refine z_iast rfl rfl (by omega) ?_
    refine z_iload_n rfl rfl ?_
    refine z_iconst rfl ?_
    refine z_iadd rfl ?_
    exact z_iret rfl rfl ⟨rfl, rfl, by rw [up_upd]; rfl, fun k j hk => up_ne hk⟩
  · refine z_swIn (tgt := 132) rfl (by decide) (by decide) (by decide) rfl rfl ?_
    refine z_iload_n rfl rfl ?_
    exact z_iret rfl rfl ⟨rfl, rfl, rfl, fun _ _ _ => rfl⟩
  · refine z_swIn (tgt := 134) rfl (by decide) (by decide) (by decide) rfl rfl ?_
    refine z_aload_n rfl rfl ?_
    refine z_getR rfl rfl rfl rfl ?_
    refine z_iload_n rfl rfl ?_
    refine z_iald rfl rfl (by omega) ?_
    refine z_rif_ne rfl (fun h140 => ?_) (fun h140 => ?_)
    · refine z_iload_n rfl rfl ?_
      refine z_iconst rfl ?_
      refine z_iadd rfl ?_
      refine z_iret rfl rfl ⟨rfl, ?_, rfl, fun _ _ _ => rfl⟩
      unfold nA; rw [if_neg (by decide), if_neg (by decide), if_pos rfl, if_neg h140]
    · refine z_iload_n rfl rfl ?_
      refine z_goto rfl ?_
      refine z_iret rfl rfl ⟨rfl, ?_, rfl, fun _ _ _ => rfl⟩
      unfold nA; rw [if_neg (by decide), if_neg (by decide), if_pos rfl, if_pos h140]
  · refine z_swIn (tgt := 151) rfl (by decide) (by decide) (by decide) rfl rfl ?_
    refine z_aload_n rfl rfl ?_
    refine z_getR rfl rfl rfl rfl ?_
    refine z_iload_n rfl rfl ?_
    refine z_iald rfl rfl (by omega) ?_
    refine z_rif_ge rfl (fun h157 => ?_) (fun h157 => ?_)
    · refine z_iload_n rfl rfl ?_
      refine z_iconst rfl ?_
      refine z_iadd rfl ?_
      refine z_iret rfl rfl ⟨rfl, ?_, rfl, fun _ _ _ => rfl⟩
      unfold nA; rw [if_neg (by decide), if_neg (by decide), if_neg (by decide), if_pos rfl, if_neg (Int32.not_lt.mpr h157)]
    · refine z_iload_n rfl rfl ?_
      refine z_goto rfl ?_
      refine z_iret rfl rfl ⟨rfl, ?_, rfl, fun _ _ _ => rfl⟩
      unfold nA; rw [if_neg (by decide), if_neg (by decide), if_neg (by decide), if_pos rfl, if_pos (Int32.not_le.mp h157)]
  · refine z_swOut (tgt := 168) rfl (by omega) (by omega) rfl ?_
    have o7 : o = 7 := by omega
    refine z_bipush rfl (by decide) ?_
    subst o7
    exact z_iret rfl rfl ⟨rfl, rfl, rfl, fun _ _ _ => rfl⟩
