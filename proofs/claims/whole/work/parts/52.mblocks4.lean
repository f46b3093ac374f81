/-! the reference: blocks are laid, third loop, outer; fourth loop -/
def JnI (jo : FI) (c : Nat) (Z Z' : ZW) (t : Nat) : Prop := (∀ b : Int, 0 ≤ b → b < t → Z' c b = jo b) ∧ ∀ (k : Nat) (j : Int), k ≠ c → Z' k j = Z k j
theorem l_blk3 {Z : ZW} {J : Int64} {nb : Nat} {Φ : ZΦ} (hnb : Z 64 9 = nb) (hnb2 : nb ≤ 24) (hS : ∀ b, 0 ≤ b → b < (nb : Int) → RG (Z 72 b) ∧ (Z 73 b = 0 ∨ Z 73 b = 1)) (hk : ∀ (u : Option Value) Z', (u = none ∨ ∃ z, u = some (.int z)) → JnI (joF (fun q p => decide (q ≠ 0 ∧ q ≠ p ∧ Z 73 p = 0 ∧ Z 72 p = bitv q ∧ cmF (Z 72) nb q = bitv p)) nb) 75 Z Z' nb → OkZ none 123 208 [some (.ref 64), some (.int (I ((nb : Nat) : Int))), u] [] Z' J Φ) : ∀ (d t : Nat) (u : Option Value) (Z' : ZW), t + d = nb → (u = none ∨ ∃ z, u = some (.int z)) → JnI (joF (fun q p => decide (q ≠ 0 ∧ q ≠ p ∧ Z 73 p = 0 ∧ Z 72 p = bitv q ∧ cmF (Z 72) nb q = bitv p)) nb) 75 Z Z' t → OkZ none 123 146 [some (.ref 64), some (.int (I ((t : Nat) : Int))), u] [] Z' J Φ := by
  intro d
  induction d with
  | zero =>
    intro t u Z' ht hu hI
    have et : t = nb := by omega
    have g9 : Z' 64 9 = nb := by rw [hI.2 64 9 (by decide)]; exact hnb
    refine z_iload_n rfl rfl ?_
    refine z_aload_n rfl rfl ?_
    refine z_getI (bi := 9) rfl rfl rfl rfl ?_
    rw [g9]
    refine z_icmp_ge rfl (by omega) (by omega) (fun h151 => ?_) (fun h151 => ?_)
    · rw [et] at hI ⊢
      exact hk _ _ hu hI
    · exfalso; omega
  | succ d ih =>
    intro t u Z' ht hu hI
    have g9 : Z' 64 9 = nb := by rw [hI.2 64 9 (by decide)]; exact hnb
    have e72 : Z' 72 = Z 72 := funext fun j => hI.2 72 j (by decide)
    have e73 : Z' 73 = Z 73 := funext fun j => hI.2 73 j (by decide)
    have hin := l_blk3i (Z := Z') (J := J) (q := (t : Int)) (Φ := Φ) g9 hnb2 (by omega) (fun b b0 b1 => by rw [e72, e73]; exact hS b b0 b1)
    rw [e72, e73] at hin
    have hgo := hin (fun w => by
      have hi := ih (t + 1) (some (.int (I w))) (up Z' 75 t (joF (fun q p => decide (q ≠ 0 ∧ q ≠ p ∧ Z 73 p = 0 ∧ Z 72 p = bitv q ∧ cmF (Z 72) nb q = bitv p)) nb t)) (by omega) (Or.inr ⟨_, rfl⟩) ⟨fun b b0 b1 => by
        by_cases hb : b = (t : Int)
        · rw [hb, up_eq]
        · rw [up_nj hb]; exact hI.1 b b0 (by omega), fun k j hk => by rw [up_ne hk]; exact hI.2 k j hk⟩
      refine z_iinc rfl rfl rfl rfl ?_
      refine z_goto rfl ?_
      rw [show ((t : Nat) : Int) + 1 = ((t + 1 : Nat) : Int) by omega]
      exact hi)
      nb 0 (by omega)
    refine z_iload_n rfl rfl ?_
    refine z_aload_n rfl rfl ?_
    refine z_getI (bi := 9) rfl rfl rfl rfl ?_
    rw [g9]
    refine z_icmp_ge rfl (by omega) (by omega) (fun h151 => ?_) (fun h151 => ?_)
    · exfalso; omega
    · refine z_aload_n rfl rfl ?_
      refine z_getR rfl rfl rfl rfl ?_
      refine z_iload_n rfl rfl ?_
      refine z_iconst rfl ?_
      refine z_iast rfl rfl (by omega) ?_
      refine z_iconst rfl ?_
      refine z_istore_n rfl rfl (by rcases hu with rfl | ⟨z, rfl⟩ <;> rfl) ?_
      exact hgo
