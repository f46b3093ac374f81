/-! the reference: blocks are laid, first loop, walked -/
theorem l_blk1 {Z : ZW} {J : Int64} {n : Nat} {Φ : ZΦ} (hn : Z 65 0 = n) (hn2 : n ≤ 24) (hw : WFP (mO Z) (mA Z) (mB Z) n) (hk : ∀ Z', BkI (mLd (mO Z) (mB Z) n) (fun j => mC Z (mO Z j)) Z Z' n n → OkZ none 123 92 [some (.ref 64), some (.int (I ((n : Nat) : Int))), none] [] Z' J Φ) : ∀ (d t : Nat) (Z' : ZW), t + d = n → BkI (mLd (mO Z) (mB Z) n) (fun j => mC Z (mO Z j)) Z Z' t t → OkZ none 123 7 [some (.ref 64), some (.int (I ((t : Nat) : Int))), none] [] Z' J Φ := by
  have hl0 : (mLd (mO Z) (mB Z) n) 0 = true := by unfold mLd; rw [decide_eq_true (Or.inl rfl)]; rfl
  intro d
  induction d with
  | zero =>
    intro t Z' ht hI
    have et : t = n := by omega
    have e0 : Z' 65 0 = n := by rw [hI.2.2.2 65 0 (by decide) (by decide) (by decide) (by decide)]; exact hn
    refine z_iload_n rfl rfl ?_
    refine z_aload_n rfl rfl ?_
    refine z_getR rfl rfl rfl rfl ?_
    refine z_iconst rfl ?_
    refine z_iald rfl rfl (by omega) ?_
    rw [e0]
    refine z_icmp_ge rfl (by omega) (by omega) (fun h14 => ?_) (fun h14 => ?_)
    · rw [et] at hI ⊢
      exact hk _ hI
    · exfalso; omega
  | succ d ih =>
    intro t Z' ht hI
    have e65 : Z' 65 = Z 65 := funext fun j => hI.2.2.2 65 j (by decide) (by decide) (by decide) (fun q => absurd q.1 (by decide))
    have e0 : Z' 65 0 = n := by rw [e65]; exact hn
    have eO : mO Z' = mO Z := by unfold mO; rw [e65]
    have eA : mA Z' = mA Z := by unfold mA; rw [e65]
    have eB : mB Z' = mB Z := by unfold mB; rw [e65]
    have hc24 := cnt_le (mLd (mO Z) (mB Z) n) t
    have hop := (hw (t : Int) (by omega) (by omega)).1
    have mlead : D 117 [.ref 64, .int (I (t : Int))] Z' J (some (bI ((mLd (mO Z) (mB Z) n) (t : Int)))) Z' J := by
      have q := m_isLeader (Z := Z') (J := J) (x := (t : Int)) e0 hn2 (by omega) (by rw [eO, eA, eB]; exact hw)
      rw [eO, eB] at q
      exact q
    have K55 : ∀ Z2, BkI (mLd (mO Z) (mB Z) n) (fun j => mC Z (mO Z j)) Z Z2 t (t + 1) → OkZ none 123 55 [some (.ref 64), some (.int (I ((t : Nat) : Int))), none] [] Z2 J Φ := by
      intro Z2 h2
      have hc1 := cnt_le (mLd (mO Z) (mB Z) n) (t + 1)
      have hc2 := cnt_pos (l := (mLd (mO Z) (mB Z) n)) hl0 (show 0 < t + 1 by omega)
      have g9 : Z2 64 9 = (cnt (mLd (mO Z) (mB Z) n) (t + 1) : Int) := h2.1
      have g65 : Z2 65 = Z 65 := funext fun j => h2.2.2.2 65 j (by decide) (by decide) (by decide) (fun q => absurd q.1 (by decide))
      have ha := Bk_add h2 rfl
      refine z_aload_n rfl rfl ?_
      refine z_getR rfl rfl rfl rfl ?_
      refine z_iload_n rfl rfl ?_
      refine z_aload_n rfl rfl ?_
      refine z_getI (bi := 9) rfl rfl rfl rfl ?_
      rw [g9]
      refine z_iconst rfl ?_
      refine z_isub rfl ?_
      refine z_iast rfl rfl (by omega) ?_
      refine z_aload_n rfl rfl ?_
      refine z_getR rfl rfl rfl rfl ?_
      refine z_aload_n rfl rfl ?_
      refine z_getI (bi := 9) rfl rfl rfl rfl ?_
      rw [up_ne (by decide), g9]
      refine z_iconst rfl ?_
      refine z_isub rfl ?_
      refine z_dup2 rfl rfl rfl ?_
      refine z_iald rfl rfl (by omega) ?_
      rw [up_ne (by decide)]
      refine z_aload_n rfl rfl ?_
      refine z_iload_n rfl rfl ?_
      refine z_callV1 rfl rfl rfl rfl rfl rfl (m_costAt (by omega) (by rw [up_ne (by decide), g65]; exact hop)) ?_
      rw [up_ne (by decide), up_ne (by decide), g65]
      refine z_iadd rfl ?_
      refine z_iast rfl rfl (by omega) ?_
      refine z_iinc rfl rfl rfl rfl ?_
      refine z_goto rfl ?_
      rw [show ((t : Nat) : Int) + 1 = ((t + 1 : Nat) : Int) by omega]
      exact ih (t + 1) _ (by omega) ha
    refine z_iload_n rfl rfl ?_
    refine z_aload_n rfl rfl ?_
    refine z_getR rfl rfl rfl rfl ?_
    refine z_iconst rfl ?_
    refine z_iald rfl rfl (by omega) ?_
    rw [e0]
    refine z_icmp_ge rfl (by omega) (by omega) (fun h14 => ?_) (fun h14 => ?_)
    · exfalso; omega
    · refine z_aload_n rfl rfl ?_
      refine z_iload_n rfl rfl ?_
      refine z_callV1 rfl rfl rfl rfl rfl rfl (mlead) ?_
      refine z_ifb_eq rfl (fun h22 => ?_) (fun h22 => ?_)
      · exact K55 _ (Bk_stay hI h22)
      · refine z_aload_n rfl rfl ?_
        refine z_getR rfl rfl rfl rfl ?_
        refine z_aload_n rfl rfl ?_
        refine z_getI (bi := 9) rfl rfl rfl rfl ?_
        rw [hI.1]
        refine z_iload_n rfl rfl ?_
        refine z_iast rfl rfl (by omega) ?_
        refine z_aload_n rfl rfl ?_
        refine z_getR rfl rfl rfl rfl ?_
        refine z_aload_n rfl rfl ?_
        refine z_getI (bi := 9) rfl rfl rfl rfl ?_
        rw [up_ne (by decide), hI.1]
        refine z_iconst rfl ?_
        refine z_iast rfl rfl (by omega) ?_
        refine z_aload_n rfl rfl ?_
        refine z_dup rfl rfl ?_
        refine z_getI (bi := 9) rfl rfl rfl rfl ?_
        rw [up_ne (by decide), up_ne (by decide), hI.1]
        refine z_iconst rfl ?_
        refine z_iadd rfl ?_
        refine z_putI (bi := 9) rfl rfl rfl rfl rfl ?_
        exact K55 _ (Bk_new hl0 hI h22)
