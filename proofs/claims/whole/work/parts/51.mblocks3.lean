/-! the reference: blocks are laid, third and fourth loop -/
theorem l_blk3i {Z : ZW} {J : Int64} {nb : Nat} {q : Int} {Φ : ZΦ} (hnb : Z 64 9 = nb) (hnb2 : nb ≤ 24) (hq : 0 ≤ q ∧ q < nb) (hS : ∀ b, 0 ≤ b → b < (nb : Int) → RG (Z 72 b) ∧ (Z 73 b = 0 ∨ Z 73 b = 1)) (hk : ∀ u, OkZ none 123 202 [some (.ref 64), some (.int (I (q : Int))), some (.int (I u))] [] (up Z 75 q (joF (fun q p => decide (q ≠ 0 ∧ q ≠ p ∧ Z 73 p = 0 ∧ Z 72 p = bitv q ∧ cmF (Z 72) nb q = bitv p)) nb q)) J Φ) : ∀ (d t : Nat), t + d = nb → OkZ none 123 163 [some (.ref 64), some (.int (I (q : Int))), some (.int (I (t : Int)))] [] (up Z 75 q (joF (fun q p => decide (q ≠ 0 ∧ q ≠ p ∧ Z 73 p = 0 ∧ Z 72 p = bitv q ∧ cmF (Z 72) nb q = bitv p)) t q)) J Φ := by
  intro d
  induction d with
  | zero =>
    intro t ht
    have et : t = nb := by omega
    have g9 : up Z 75 q (joF (fun q p => decide (q ≠ 0 ∧ q ≠ p ∧ Z 73 p = 0 ∧ Z 72 p = bitv q ∧ cmF (Z 72) nb q = bitv p)) t q) 64 9 = nb := by rw [up_ne (by decide)]; exact hnb
    refine z_iload_n rfl rfl ?_
    refine z_aload_n rfl rfl ?_
    refine z_getI (bi := 9) rfl rfl rfl rfl ?_
    rw [g9]
    refine z_icmp_ge rfl (by omega) (by omega) (fun h168 => ?_) (fun h168 => ?_)
    · rw [et]
      exact hk _
    · exfalso; omega
  | succ d ih =>
    intro t ht
    have g9 : up Z 75 q (joF (fun q p => decide (q ≠ 0 ∧ q ≠ p ∧ Z 73 p = 0 ∧ Z 72 p = bitv q ∧ cmF (Z 72) nb q = bitv p)) t q) 64 9 = nb := by rw [up_ne (by decide)]; exact hnb
    have hi := ih (t + 1) (by omega)
    have hst := hS (t : Int) (by omega) (by omega)
    have mj : D 121 [.ref 64, .int (I q), .int (I (t : Int))] (up Z 75 q (joF (fun q p => decide (q ≠ 0 ∧ q ≠ p ∧ Z 73 p = 0 ∧ Z 72 p = bitv q ∧ cmF (Z 72) nb q = bitv p)) t q)) J (some (bI ((fun q p => decide (q ≠ 0 ∧ q ≠ p ∧ Z 73 p = 0 ∧ Z 72 p = bitv q ∧ cmF (Z 72) nb q = bitv p)) q (t : Int)))) (up Z 75 q (joF (fun q p => decide (q ≠ 0 ∧ q ≠ p ∧ Z 73 p = 0 ∧ Z 72 p = bitv q ∧ cmF (Z 72) nb q = bitv p)) t q)) J :=
      m_isJoined (Z := up Z 75 q (joF (fun q p => decide (q ≠ 0 ∧ q ≠ p ∧ Z 73 p = 0 ∧ Z 72 p = bitv q ∧ cmF (Z 72) nb q = bitv p)) t q)) (nb := nb) g9 hnb2 (by omega) (by omega) hst.1 hst.2
    have ej : joF (fun q p => decide (q ≠ 0 ∧ q ≠ p ∧ Z 73 p = 0 ∧ Z 72 p = bitv q ∧ cmF (Z 72) nb q = bitv p)) (t + 1) q = if (fun q p => decide (q ≠ 0 ∧ q ≠ p ∧ Z 73 p = 0 ∧ Z 72 p = bitv q ∧ cmF (Z 72) nb q = bitv p)) q (t : Int) = true then (t : Int) else joF (fun q p => decide (q ≠ 0 ∧ q ≠ p ∧ Z 73 p = 0 ∧ Z 72 p = bitv q ∧ cmF (Z 72) nb q = bitv p)) t q := rfl
    refine z_iload_n rfl rfl ?_
    refine z_aload_n rfl rfl ?_
    refine z_getI (bi := 9) rfl rfl rfl rfl ?_
    rw [g9]
    refine z_icmp_ge rfl (by omega) (by omega) (fun h168 => ?_) (fun h168 => ?_)
    · exfalso; omega
    · refine z_aload_n rfl rfl ?_
      refine z_getR rfl rfl rfl rfl ?_
      refine z_iload_n rfl rfl ?_
      refine z_aload_n rfl rfl ?_
      refine z_iload_n rfl rfl ?_
      refine z_iload_n rfl rfl ?_
      refine z_callV2 rfl rfl rfl rfl rfl rfl (mj) ?_
      refine z_ifb_eq rfl (fun h182 => ?_) (fun h182 => ?_)
      · refine z_aload_n rfl rfl ?_
        refine z_getR rfl rfl rfl rfl ?_
        refine z_iload_n rfl rfl ?_
        refine z_iald rfl rfl (by omega) ?_
        refine z_iast rfl rfl (by omega) ?_
        refine z_iinc rfl rfl rfl rfl ?_
        refine z_goto rfl ?_
        rw [if_neg (by rw [h182]; decide)] at ej
        rw [ej] at hi
        rw [up_eq, up_up]
        exact hi
      · refine z_iload_n rfl rfl ?_
        refine z_goto rfl ?_
        refine z_iast rfl rfl (by omega) ?_
        refine z_iinc rfl rfl rfl rfl ?_
        refine z_goto rfl ?_
        rw [if_pos h182] at ej
        rw [ej] at hi
        rw [up_up]
        exact hi
