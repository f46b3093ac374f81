/-! the reference: blocks are laid, fourth loop -/
theorem l_blk4 {Z : ZW} {J : Int64} {nb : Nat} {H : FI} {Φ : ZΦ} {u : Option Value} (hnb : Z 64 9 = nb) (hnb2 : nb ≤ 24) (hj : JOk (Z 75) nb) (hH : ∀ b, 0 ≤ b → b < (nb : Int) → Hd (Z 75) b (H b)) (hk : ∀ Z', JnI H 76 Z Z' nb → OkZ none 123 235 [some (.ref 64), some (.int (I ((nb : Nat) : Int))), u] [] Z' J Φ) : ∀ (d t : Nat) (Z' : ZW), t + d = nb → JnI H 76 Z Z' t → OkZ none 123 210 [some (.ref 64), some (.int (I ((t : Nat) : Int))), u] [] Z' J Φ := by
  intro d
  induction d with
  | zero =>
    intro t Z' ht hI
    have et : t = nb := by omega
    have g9 : Z' 64 9 = nb := by rw [hI.2 64 9 (by decide)]; exact hnb
    refine z_iload_n rfl rfl ?_
    refine z_aload_n rfl rfl ?_
    refine z_getI (bi := 9) rfl rfl rfl rfl ?_
    rw [g9]
    refine z_icmp_ge rfl (by omega) (by omega) (fun h215 => ?_) (fun h215 => ?_)
    · rw [et] at hI ⊢
      exact hk _ hI
    · exfalso; omega
  | succ d ih =>
    intro t Z' ht hI
    have g9 : Z' 64 9 = nb := by rw [hI.2 64 9 (by decide)]; exact hnb
    have e75 : Z' 75 = Z 75 := funext fun j => hI.2 75 j (by decide)
    have mh : D 122 [.ref 64, .int (I (t : Int))] Z' J (some (.int (I (H t)))) Z' J := m_headOf (nb := nb) (by rw [e75]; exact hj) hnb2 (by omega) (by omega) (by rw [e75]; exact hH t (by omega) (by omega))
    have hi := ih (t + 1) (up Z' 76 t (H t)) (by omega) ⟨fun b b0 b1 => by
        by_cases hb : b = (t : Int)
        · rw [hb, up_eq]
        · rw [up_nj hb]; exact hI.1 b b0 (by omega), fun k j hk => by rw [up_ne hk]; exact hI.2 k j hk⟩
    refine z_iload_n rfl rfl ?_
    refine z_aload_n rfl rfl ?_
    refine z_getI (bi := 9) rfl rfl rfl rfl ?_
    rw [g9]
    refine z_icmp_ge rfl (by omega) (by omega) (fun h215 => ?_) (fun h215 => ?_)
    · exfalso; omega
    · refine z_aload_n rfl rfl ?_
      refine z_getR rfl rfl rfl rfl ?_
      refine z_iload_n rfl rfl ?_
      refine z_aload_n rfl rfl ?_
      refine z_iload_n rfl rfl ?_
      refine z_callV1 rfl rfl rfl rfl rfl rfl (mh) ?_
      refine z_iast rfl rfl (by omega) ?_
      refine z_iinc rfl rfl rfl rfl ?_
      refine z_goto rfl ?_
      rw [show ((t : Nat) : Int) + 1 = ((t + 1 : Nat) : Int) by omega]
      exact hi
