/-! the reference: which blocks are joined -/
def cmF (S : FI) : Nat → Int → Int
  | 0, _ => 0
  | t + 1, q => orI (cmF S t q) (if tbI (S t) q then bitv t else 0)
theorem cmF_RG (S : FI) (q : Int) : ∀ t, RG (cmF S t q) := by
  intro t
  cases t with
  | zero => exact ⟨by show (-2147483648 : Int) ≤ 0; decide, by show (0 : Int) ≤ 2147483647; decide⟩
  | succ t => exact orI_RG _ _
theorem l_coming {Z : ZW} {J : Int64} {nb : Nat} {q : Int} (hnb : Z 64 9 = nb) (hnb2 : nb ≤ 24) (hq : 0 ≤ q ∧ q < 24) : ∀ (d t : Nat), t + d = nb → OkZ none 120 4 [some (.ref 64), some (.int (I q)), some (.int (I (cmF (Z 72) t q))), some (.int (I (t : Int)))] [] Z J (fun r Z' J' => r = some (.int (I (cmF (Z 72) nb q))) ∧ Z' = Z ∧ J' = J) := by
  intro d
  induction d with
  | zero =>
    intro t ht
    have et : t = nb := by omega
    refine z_iload_n rfl rfl ?_
    refine z_aload_n rfl rfl ?_
    refine z_getI (bi := 9) rfl rfl rfl rfl ?_
    rw [hnb]
    refine z_icmp_ge rfl (by omega) (by omega) (fun h9 => ?_) (fun h9 => ?_)
    · refine z_iload_n rfl rfl ?_
      exact z_iret rfl rfl ⟨by rw [et], rfl, rfl⟩
    · exfalso; omega
  | succ d ih =>
    intro t ht
    refine z_iload_n rfl rfl ?_
    refine z_aload_n rfl rfl ?_
    refine z_getI (bi := 9) rfl rfl rfl rfl ?_
    rw [hnb]
    refine z_icmp_ge rfl (by omega) (by omega) (fun h9 => ?_) (fun h9 => ?_)
    · exfalso; omega
    · refine z_iload_n rfl rfl ?_
      refine z_aload_n rfl rfl ?_
      refine z_getR rfl rfl rfl rfl ?_
      refine z_iload_n rfl rfl ?_
      refine z_iald rfl rfl (by omega) ?_
      refine z_iload_n rfl rfl ?_
      refine z_ishr (v := (I (Z 72 (t : Int)) >>> (I q &&& 31)).toInt) rfl (I_of _).symm ?_
      refine z_iconst rfl ?_
      refine z_iand rfl (shr_and hq (I_of _).symm) ?_
      refine z_iload_n rfl rfl ?_
      refine z_ishl rfl (tb1_shl (by omega)) ?_
      refine z_ior rfl (I_orI _ _) ?_
      refine z_istore_n rfl rfl rfl ?_
      refine z_iinc rfl rfl rfl rfl ?_
      refine z_goto rfl ?_
      exact ih (t + 1) (by omega)
theorem m_comingTo {Z : ZW} {J : Int64} {nb : Nat} {q : Int} (hnb : Z 64 9 = nb) (hnb2 : nb ≤ 24) (hq : 0 ≤ q ∧ q < 24) : D 120 [.ref 64, .int (I q)] Z J (some (.int (I (cmF (Z 72) nb q)))) Z J := by
  unfold D Mz
  refine z_iconst rfl ?_
  refine z_istore_n rfl rfl rfl ?_
  refine z_iconst rfl ?_
  refine z_istore_n rfl rfl rfl ?_
  exact l_coming hnb hnb2 hq nb 0 (by omega)
theorem m_isJoined {Z : ZW} {J : Int64} {nb : Nat} {q p : Int} (hnb : Z 64 9 = nb) (hnb2 : nb ≤ 24) (hq : 0 ≤ q ∧ q < 24) (hp : 0 ≤ p ∧ p < 24) (hS : RG (Z 72 p)) (hE : Z 73 p = 0 ∨ Z 73 p = 1) : D 121 [.ref 64, .int (I q), .int (I p)] Z J (some (bI (decide (q ≠ 0 ∧ q ≠ p ∧ Z 73 p = 0 ∧ Z 72 p = bitv q ∧ cmF (Z 72) nb q = bitv p)))) Z J := by
  unfold D Mz
  have r1 := (bitv_RG q).1
  have r2 := (bitv_RG p).1
  have r3 := cmF_RG (Z 72) q nb
  refine z_aload_n rfl rfl ?_
  refine z_getR rfl rfl rfl rfl ?_
  refine z_iload_n rfl rfl ?_
  refine z_iald rfl rfl (by omega) ?_
  refine z_iconst rfl ?_
  refine z_iload_n rfl rfl ?_
  refine z_ishl rfl (bitv_shl hq) ?_
  refine z_icmp_ne rfl (by omega) (by omega) (fun h9 => ?_) (fun h9 => ?_)
  · refine z_iconst rfl ?_
    exact z_bret0 rfl rfl ⟨bz0 (decide_eq_false (fun q => h9 q.2.2.2.1)), rfl, rfl⟩
  · refine z_aload_n rfl rfl ?_
    refine z_getR rfl rfl rfl rfl ?_
    refine z_iload_n rfl rfl ?_
    refine z_zald rfl rfl (by omega) ?_
    refine z_if_ne rfl (by omega) (fun h18 => ?_) (fun h18 => ?_)
    · refine z_iconst rfl ?_
      exact z_bret0 rfl rfl ⟨bz0 (decide_eq_false (fun q => h18 q.2.2.1)), rfl, rfl⟩
    · refine z_aload_n rfl rfl ?_
      refine z_iload_n rfl rfl ?_
      refine z_callV1 rfl rfl rfl rfl rfl rfl (m_comingTo hnb hnb2 hq) ?_
      refine z_iconst rfl ?_
      refine z_iload_n rfl rfl ?_
      refine z_ishl rfl (bitv_shl hp) ?_
      refine z_icmp_ne rfl (by omega) (by omega) (fun h29 => ?_) (fun h29 => ?_)
      · refine z_iconst rfl ?_
        exact z_bret0 rfl rfl ⟨bz0 (decide_eq_false (fun q => h29 q.2.2.2.2)), rfl, rfl⟩
      · refine z_iload_n rfl rfl ?_
        refine z_if_eq rfl (by omega) (fun h33 => ?_) (fun h33 => ?_)
        · refine z_iconst rfl ?_
          exact z_bret0 rfl rfl ⟨bz0 (decide_eq_false (fun q => q.1 h33)), rfl, rfl⟩
        · refine z_iload_n rfl rfl ?_
          refine z_iload_n rfl rfl ?_
          refine z_icmp_eq rfl (by omega) (by omega) (fun h38 => ?_) (fun h38 => ?_)
          · refine z_iconst rfl ?_
            exact z_bret0 rfl rfl ⟨bz0 (decide_eq_false (fun q => q.2.1 h38)), rfl, rfl⟩
          · refine z_iconst rfl ?_
            refine z_goto rfl ?_
            exact z_bret1 rfl rfl ⟨bz1 (decide_eq_true ⟨h33, h38, h18, h9, h29⟩), rfl, rfl⟩
