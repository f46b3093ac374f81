/-! the reference: blocks are laid, second loop -/
def FoI (n : Nat) (op rb bl la : FI) (Z Z' : ZW) (t : Nat) : Prop := (∀ b : Int, 0 ≤ b → b < t → Z' 72 b = lfM bl n (la b) (op (la b)) (rb (la b)) ∧ Z' 73 b = lfE n (la b) (op (la b)) (rb (la b))) ∧ ∀ (k : Nat) (j : Int), k ≠ 72 → k ≠ 73 → Z' k j = Z k j
theorem Fo_step {n : Nat} {op rb bl la : FI} {Z Z' : ZW} {t : Nat} (h71 : Z 71 = bl) (h65 : Z 65 0 = n) (h : FoI n op rb bl la Z Z' t) : FoI n op rb bl la Z (LF Z' t (la t) (op (la t)) (rb (la t))) (t + 1) := by
  obtain ⟨h1, h2⟩ := h
  have e71 : Z' 71 = bl := by rw [← h71]; exact funext fun j => h2 71 j (by decide) (by decide)
  have e65 : Z' 65 0 = n := by rw [h2 65 0 (by decide) (by decide)]; exact h65
  obtain ⟨r1, r2, r3, r4⟩ := LF_rows (Z := Z') (b := (t : Int)) (l := la t) (o := op (la t)) (t := rb (la t))
  refine ⟨fun b b0 b1 => ?_, fun k j k1 k2 => by rw [r4 k j k1 k2]; exact h2 k j k1 k2⟩
  by_cases hb : b = (t : Int)
  · rw [hb, r1, r2, e71, e65]; exact ⟨rfl, rfl⟩
  · rw [(r3 b hb).1, (r3 b hb).2]; exact h1 b b0 (by omega)
theorem l_blk2 {Z : ZW} {J : Int64} {n nb : Nat} {la : FI} {Φ : ZΦ} (hn : Z 65 0 = n) (hn2 : n ≤ 24) (hnb : Z 64 9 = nb) (hnb2 : nb ≤ 24) (hw : WFP (mO Z) (mA Z) (mB Z) n) (hla : ∀ b, 0 ≤ b → b < (nb : Int) → (0 ≤ la b ∧ la b < n) ∧ la b = (if b = (nb : Int) - 1 then (n : Int) - 1 else Z 70 (b + 1) - 1)) (hbl : ∀ x, 0 ≤ x → x < (n : Int) → 0 ≤ Z 71 x ∧ Z 71 x < 24) (hk : ∀ Z', FoI n (mO Z) (mB Z) (Z 71) la Z Z' nb → OkZ none 123 144 [some (.ref 64), some (.int (I ((nb : Nat) : Int))), none] [] Z' J Φ) : ∀ (d t : Nat) (Z' : ZW), t + d = nb → FoI n (mO Z) (mB Z) (Z 71) la Z Z' t → OkZ none 123 94 [some (.ref 64), some (.int (I ((t : Nat) : Int))), none] [] Z' J Φ := by
  intro d
  induction d with
  | zero =>
    intro t Z' ht hI
    have et : t = nb := by omega
    have g9 : Z' 64 9 = nb := by rw [hI.2 64 9 (by decide) (by decide)]; exact hnb
    refine z_iload_n rfl rfl ?_
    refine z_aload_n rfl rfl ?_
    refine z_getI (bi := 9) rfl rfl rfl rfl ?_
    rw [g9]
    refine z_icmp_ge rfl (by omega) (by omega) (fun h99 => ?_) (fun h99 => ?_)
    · rw [et] at hI ⊢
      exact hk _ hI
    · exfalso; omega
  | succ d ih =>
    intro t Z' ht hI
    have g9 : Z' 64 9 = nb := by rw [hI.2 64 9 (by decide) (by decide)]; exact hnb
    have e0 : Z' 65 0 = n := by rw [hI.2 65 0 (by decide) (by decide)]; exact hn
    obtain ⟨hl1, hl2⟩ := hla (t : Int) (by omega) (by omega)
    have hi := ih (t + 1) _ (by omega) (Fo_step rfl hn hI)
    have hwt := hw (la t) hl1.1 hl1.2
    have mf : D 119 [.ref 64, .int (I (t : Int)), .int (I (la t))] Z' J none (LF Z' t (la t) (mO Z (la t)) (mB Z (la t))) J := by
      refine m_laysF (by rw [e0]; omega) (by omega) (by omega) (hI.2 65 _ (by decide) (by decide)) (hI.2 65 _ (by decide) (by decide)) hwt.1 (fun q => hwt.2.2.2.2 (by have := of_decide_eq_true q; omega)) (fun x x0 x1 => ?_)
      rw [hI.2 71 x (by decide) (by decide)]
      exact hbl x x0 (by omega)
    refine z_iload_n rfl rfl ?_
    refine z_aload_n rfl rfl ?_
    refine z_getI (bi := 9) rfl rfl rfl rfl ?_
    rw [g9]
    refine z_icmp_ge rfl (by omega) (by omega) (fun h99 => ?_) (fun h99 => ?_)
    · exfalso; omega
    · refine z_aload_n rfl rfl ?_
      refine z_iload_n rfl rfl ?_
      refine z_iload_n rfl rfl ?_
      refine z_aload_n rfl rfl ?_
      refine z_getI (bi := 9) rfl rfl rfl rfl ?_
      rw [g9]
      refine z_iconst rfl ?_
      refine z_isub rfl ?_
      refine z_icmp_ne rfl (by omega) (by omega) (fun h111 => ?_) (fun h111 => ?_)
      · refine z_aload_n rfl rfl ?_
        refine z_getR rfl rfl rfl rfl ?_
        refine z_iload_n rfl rfl ?_
        refine z_iconst rfl ?_
        refine z_iadd rfl ?_
        refine z_iald rfl rfl (by omega) ?_
        rw [hI.2 70 _ (by decide) (by decide)]
        refine z_iconst rfl ?_
        refine z_isub rfl ?_
        rw [if_neg (by omega)] at hl2
        rw [← hl2]
        refine z_callV2v rfl rfl rfl rfl rfl rfl mf ?_
        refine z_iinc rfl rfl rfl rfl ?_
        refine z_goto rfl ?_
        rw [show ((t : Nat) : Int) + 1 = ((t + 1 : Nat) : Int) by omega]
        exact hi
      · refine z_aload_n rfl rfl ?_
        refine z_getR rfl rfl rfl rfl ?_
        refine z_iconst rfl ?_
        refine z_iald rfl rfl (by omega) ?_
        rw [e0]
        refine z_iconst rfl ?_
        refine z_isub rfl ?_
        refine z_goto rfl ?_
        rw [if_pos (by omega)] at hl2
        rw [← hl2]
        refine z_callV2v rfl rfl rfl rfl rfl rfl mf ?_
        refine z_iinc rfl rfl rfl rfl ?_
        refine z_goto rfl ?_
        rw [show ((t : Nat) : Int) + 1 = ((t + 1 : Nat) : Int) by omega]
        exact hi
