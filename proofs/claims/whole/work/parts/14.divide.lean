/-! the class: leaders and blocks -/
theorem l_leaders {Z : ZW} {J : Int64} {n : Nat} (hn : Z 4 0 = n) (hop : ∀ i, 0 ≤ i → i < (n : Int) → RG (Z 5 i) ∧ RG (Z 7 i)) (hn2 : n ≤ 24) : ∀ (d : Nat) (t m : Int) (x3 : Option Value), 0 ≤ t → t + d = n → m = lm (Z 5) (Z 7) t.toNat → stG [some (.ref 3), some (.int (I m)), some (.int (I t)), x3] 3 = true →
    OkZ none 26 7 [some (.ref 3), some (.int (I m)), some (.int (I t)), x3] [] Z J (fun r Z' J' => r = some (.int (I (lm (Z 5) (Z 7) n))) ∧ Z' = Z ∧ J' = J) := by
  intro d
  induction d with
  | zero =>
    intro t m x3 h0 ht hm hg
    refine z_iload_n rfl rfl ?_
    refine z_aload_n rfl rfl ?_
    refine z_getI (bi := 0) rfl rfl rfl rfl ?_
    refine z_icmp_ge rfl (by omega) (by omega) (fun h12 => ?_) (fun h12 => ?_)
    · refine z_iload_n rfl rfl ?_
      exact z_iret rfl rfl ⟨by rw [hm, show t.toNat = n by omega], rfl, rfl⟩
    · omega
  | succ d ih =>
    intro t m x3 h0 ht hm hg
    have hr := hop t h0 (by omega)
    have hs : lm (Z 5) (Z 7) (t + 1).toNat = (if jmB (Z 5 t) || decide (Z 5 t = 7) then orI (if jmB (Z 5 t) then orI m (bitv (Z 7 t)) else m) (bitv (t + 1)) else (if jmB (Z 5 t) then orI m (bitv (Z 7 t)) else m)) := by
      rw [show (t + 1).toNat = t.toNat + 1 by omega, hm]
      show (if jmB (Z 5 (t.toNat : Int)) || decide (Z 5 (t.toNat : Int) = 7) then _ else _) = _
      rw [Int.toNat_of_nonneg h0]
    refine z_iload_n rfl rfl ?_
    refine z_aload_n rfl rfl ?_
    refine z_getI (bi := 0) rfl rfl rfl rfl ?_
    refine z_icmp_ge rfl (by omega) (by omega) (fun h12 => ?_) (fun h12 => ?_)
    · omega
    · refine z_aload_n rfl rfl ?_
      refine z_getR rfl rfl rfl rfl ?_
      refine z_iload_n rfl rfl ?_
      refine z_iald rfl rfl (by omega) ?_
      refine z_istore_n rfl rfl rfl ?_
      refine z_iload_n rfl rfl ?_
      refine z_callS1 rfl rfl rfl rfl (s_jumps (by omega)) ?_
      refine z_ifb_eq rfl (fun h26 => ?_) (fun h26 => ?_)
      · refine z_iload_n rfl rfl ?_
        refine z_callS1 rfl rfl rfl rfl (s_jumps (by omega)) ?_
        refine z_ifb_ne rfl (fun h45 => ?_) (fun h45 => ?_)
        · refine z_iload_n rfl rfl ?_
          refine z_iload_n rfl rfl ?_
          refine z_iconst rfl ?_
          refine z_iadd rfl ?_
          refine z_callS1 rfl rfl rfl rfl (s_bit (by omega)) ?_
          refine z_ior rfl (I_orI _ _) ?_
          refine z_istore_n rfl rfl rfl ?_
          refine z_iinc rfl rfl rfl rfl ?_
          refine z_goto rfl ?_
          exact ih (t + 1) _ _ (by omega) (by omega) (by rw [hs]; first | (rw [h26] at h45; cases h45; done) | (simp [h26]; done) | (simp [h26, decide_eq_true h51]; done) | (simp [h26, decide_eq_false h51]; done)) rfl
        · refine z_iload_n rfl rfl ?_
          refine z_bipush rfl (by decide) ?_
          refine z_icmp_ne rfl (by omega) (by omega) (fun h51 => ?_) (fun h51 => ?_)
          · refine z_iinc rfl rfl rfl rfl ?_
            refine z_goto rfl ?_
            exact ih (t + 1) _ _ (by omega) (by omega) (by rw [hs]; first | (rw [h26] at h45; cases h45; done) | (simp [h26]; done) | (simp [h26, decide_eq_true h51]; done) | (simp [h26, decide_eq_false h51]; done)) rfl
          · refine z_iload_n rfl rfl ?_
            refine z_iload_n rfl rfl ?_
            refine z_iconst rfl ?_
            refine z_iadd rfl ?_
            refine z_callS1 rfl rfl rfl rfl (s_bit (by omega)) ?_
            refine z_ior rfl (I_orI _ _) ?_
            refine z_istore_n rfl rfl rfl ?_
            refine z_iinc rfl rfl rfl rfl ?_
            refine z_goto rfl ?_
            exact ih (t + 1) _ _ (by omega) (by omega) (by rw [hs]; first | (rw [h26] at h45; cases h45; done) | (simp [h26]; done) | (simp [h26, decide_eq_true h51]; done) | (simp [h26, decide_eq_false h51]; done)) rfl
      · refine z_iload_n rfl rfl ?_
        refine z_aload_n rfl rfl ?_
        refine z_getR rfl rfl rfl rfl ?_
        refine z_iload_n rfl rfl ?_
        refine z_iald rfl rfl (by omega) ?_
        refine z_callS1 rfl rfl rfl rfl (s_bit (by omega)) ?_
        refine z_ior rfl (I_orI _ _) ?_
        refine z_istore_n rfl rfl rfl ?_
        refine z_iload_n rfl rfl ?_
        refine z_callS1 rfl rfl rfl rfl (s_jumps (by omega)) ?_
        refine z_ifb_ne rfl (fun h45 => ?_) (fun h45 => ?_)
        · refine z_iload_n rfl rfl ?_
          refine z_iload_n rfl rfl ?_
          refine z_iconst rfl ?_
          refine z_iadd rfl ?_
          refine z_callS1 rfl rfl rfl rfl (s_bit (by omega)) ?_
          refine z_ior rfl (I_orI _ _) ?_
          refine z_istore_n rfl rfl rfl ?_
          refine z_iinc rfl rfl rfl rfl ?_
          refine z_goto rfl ?_
          exact ih (t + 1) _ _ (by omega) (by omega) (by rw [hs]; first | (rw [h26] at h45; cases h45; done) | (simp [h26]; done) | (simp [h26, decide_eq_true h51]; done) | (simp [h26, decide_eq_false h51]; done)) rfl
        · refine z_iload_n rfl rfl ?_
          refine z_bipush rfl (by decide) ?_
          refine z_icmp_ne rfl (by omega) (by omega) (fun h51 => ?_) (fun h51 => ?_)
          · refine z_iinc rfl rfl rfl rfl ?_
            refine z_goto rfl ?_
            exact ih (t + 1) _ _ (by omega) (by omega) (by rw [hs]; first | (rw [h26] at h45; cases h45; done) | (simp [h26]; done) | (simp [h26, decide_eq_true h51]; done) | (simp [h26, decide_eq_false h51]; done)) rfl
          · refine z_iload_n rfl rfl ?_
            refine z_iload_n rfl rfl ?_
            refine z_iconst rfl ?_
            refine z_iadd rfl ?_
            refine z_callS1 rfl rfl rfl rfl (s_bit (by omega)) ?_
            refine z_ior rfl (I_orI _ _) ?_
            refine z_istore_n rfl rfl rfl ?_
            refine z_iinc rfl rfl rfl rfl ?_
            refine z_goto rfl ?_
            exact ih (t + 1) _ _ (by omega) (by omega) (by rw [hs]; first | (rw [h26] at h45; cases h45; done) | (simp [h26]; done) | (simp [h26, decide_eq_true h51]; done) | (simp [h26, decide_eq_false h51]; done)) rfl
theorem s_leaders {Z : ZW} {J : Int64} {n : Nat} (hn : Z 4 0 = n) (hop : ∀ i, 0 ≤ i → i < (n : Int) → RG (Z 5 i) ∧ RG (Z 7 i)) (hn2 : n ≤ 24) : D 26 [.ref 3] Z J (some (.int (I (lm (Z 5) (Z 7) n)))) Z J := by
  unfold D Mz
  refine z_iconst rfl ?_
  refine z_callS1 rfl rfl rfl rfl (s_bit (by omega)) ?_
  refine z_istore_n rfl rfl rfl ?_
  refine z_iconst rfl ?_
  refine z_istore_n rfl rfl rfl ?_
  exact l_leaders hn hop hn2 n 0 _ _ (by omega) (by omega) rfl rfl
def DvI (l : Int → Bool) (Z Z' : ZW) (t : Nat) (b : Int) : Prop := Z' 14 0 = cnt l t ∧ (0 < t → b = cnt l t - 1) ∧ (∀ j : Int, 0 ≤ j → j < t → Z' 15 j = cnt l (j.toNat + 1) - 1) ∧ (∀ c : Int, 0 ≤ c → c < cnt l t → Z' 16 c = stF l t c) ∧ (∀ c : Int, 0 ≤ c → c < cnt l t → Z' 21 c = laF l t c) ∧ (∀ (k : Nat) (j : Int), k ≠ 15 → k ≠ 16 → k ≠ 21 → ¬ (k = 14 ∧ j = 0) → Z' k j = Z k j)
theorem DvI_step {l : Int → Bool} {Z Z' : ZW} {t : Nat} {b : Int} (h0 : l 0 = true) (h : DvI l Z Z' t b) (hl : l t = true) : DvI l Z (up (up (up (up Z' 16 (Z' 14 0) t) 14 0 (Z' 14 0 + 1)) 15 t (Z' 14 0)) 21 (Z' 14 0) t) (t + 1) (Z' 14 0) := by
  rw [h.1]
  obtain ⟨a1, a2, a3, a4, a5, a6⟩ := h
  have hc : cnt l (t + 1) = cnt l t + 1 := by simp [cnt, hl]
  refine ⟨?_, ?_, ?_, ?_, ?_, ?_⟩
  · simp [up, hc]
  · intro _; rw [hc]; omega
  · intro j j0 j1
    by_cases hj : j = t
    · subst hj; simp [up, hc]
    · have := a3 j j0 (by omega)
      simp [up, hj, this]
  · intro c c0 c1
    rw [hc] at c1
    unfold stF
    by_cases hcc : c = cnt l t
    · subst hcc; simp [up, hl]
    · have := a4 c c0 (by omega)
      rw [if_neg (fun q => hcc q.2.symm)]
      simp [up, hcc, this]
  · intro c c0 c1
    rw [hc] at c1
    unfold laF
    rw [hc]
    by_cases hcc : c = cnt l t
    · subst hcc; rw [if_pos (by omega)]; simp [up]
    · have := a5 c c0 (by omega)
      rw [if_neg (by omega)]
      simp [up, hcc, this]
  · intro k j k1 k2 k3 k4
    have := a6 k j k1 k2 k3 k4
    simp [up, k1, k2, k3, k4, this]
theorem DvI_stay {l : Int → Bool} {Z Z' : ZW} {t : Nat} {b : Int} (ht : 0 < t) (h0 : l 0 = true) (h : DvI l Z Z' t b) (hl : l t = false) : DvI l Z (up (up Z' 15 t b) 21 b t) (t + 1) b := by
  obtain ⟨a1, a2, a3, a4, a5, a6⟩ := h
  have hc : cnt l (t + 1) = cnt l t := by simp [cnt, hl]
  have hp := cnt_pos h0 ht
  have hb := a2 ht
  refine ⟨?_, ?_, ?_, ?_, ?_, ?_⟩
  · rw [hc, ← a1]; simp [up]
  · intro _; rw [hc]; exact hb
  · intro j j0 j1
    by_cases hj : j = t
    · subst hj; simp [up, hc, hb]
    · have := a3 j j0 (by omega)
      simp [up, hj, this]
  · intro c c0 c1
    rw [hc] at c1
    unfold stF
    have := a4 c c0 (by omega)
    simp [up, hl, this]
  · intro c c0 c1
    rw [hc] at c1
    unfold laF
    rw [hc]
    by_cases hcc : c = b
    · subst hcc; rw [if_pos (by omega)]; simp [up]
    · have := a5 c c0 (by omega)
      rw [if_neg (by omega)]
      simp [up, hcc, this]
  · intro k j k1 k2 k3 k4
    have := a6 k j k1 k2 k3 k4
    simp [up, k1, k3, this]
theorem l_divide {Z : ZW} {J : Int64} {n : Nat} {m : Int} (hn : Z 4 0 = n) (hn2 : n ≤ 24) (h00 : tbI m 0 = true) : ∀ (d t : Nat) (Z' : ZW) (b : Int), t + d = n → DvI (fun x => tbI m x) Z Z' t b → (0 ≤ b ∧ b < 24) →
    OkZ none 28 10 [some (.ref 13), some (.ref 3), some (.int (I m)), some (.int (I b)), some (.int (I t))] [] Z' J (fun r Z' J' => r = none ∧ J' = J ∧ ∃ b, DvI (fun x => tbI m x) Z Z' n b) := by
  intro d
  induction d with
  | zero =>
    intro t Z' b ht hI hb
    have e4 : Z' 4 0 = n := by rw [hI.2.2.2.2.2 4 0 (by decide) (by decide) (by decide) (by decide)]; exact hn
    refine z_iload rfl rfl ?_
    refine z_aload_n rfl rfl ?_
    refine z_getI (bi := 0) rfl rfl rfl rfl ?_
    refine z_icmp_ge rfl (by omega) (by omega) (fun h16 => ?_) (fun h16 => ?_)
    · exact z_vret rfl rfl ⟨rfl, rfl, b, by have e : t = n := (by omega); rw [← e]; exact hI⟩
    · omega
  | succ d ih =>
    intro t Z' b ht hI hb
    have e4 : Z' 4 0 = n := by rw [hI.2.2.2.2.2 4 0 (by decide) (by decide) (by decide) (by decide)]; exact hn
    have e14 : Z' 14 0 = cnt (fun x => tbI m x) t := hI.1
    have hcl := cnt_le (fun x => tbI m x) t
    have hhb : hbB m t = tbI m t := by unfold hbB; rw [decide_eq_true (by omega), Bool.true_and]
    refine z_iload rfl rfl ?_
    refine z_aload_n rfl rfl ?_
    refine z_getI (bi := 0) rfl rfl rfl rfl ?_
    refine z_icmp_ge rfl (by omega) (by omega) (fun h16 => ?_) (fun h16 => ?_)
    · omega
    · refine z_iload_n rfl rfl ?_
      refine z_iload rfl rfl ?_
      refine z_callS2 rfl rfl rfl rfl (s_contains (by omega)) ?_
      refine z_ifb_eq rfl (fun h25 => ?_) (fun h25 => ?_)
      · rw [hhb] at h25
        have htp : 0 < t := (Nat.eq_zero_or_pos t).elim (fun h => by rw [h] at h25; exact absurd (h00.symm.trans h25) (by decide)) id
        have hst := DvI_stay htp h00 hI h25
        refine z_aload_n rfl rfl ?_
        refine z_getR rfl rfl rfl rfl ?_
        refine z_iload rfl rfl ?_
        refine z_iload_n rfl rfl ?_
        refine z_iast rfl rfl (by omega) ?_
        refine z_aload_n rfl rfl ?_
        refine z_getR rfl rfl rfl rfl ?_
        refine z_iload_n rfl rfl ?_
        refine z_iload rfl rfl ?_
        refine z_iast rfl rfl (by omega) ?_
        refine z_iinc rfl rfl rfl rfl ?_
        refine z_goto rfl ?_
        exact ih (t + 1) _ _ (by omega) hst hb
      · rw [hhb] at h25
        have hst := DvI_step h00 hI h25
        refine z_aload_n rfl rfl ?_
        refine z_getI (bi := 0) rfl rfl rfl rfl ?_
        refine z_istore_n rfl rfl rfl ?_
        refine z_aload_n rfl rfl ?_
        refine z_getR rfl rfl rfl rfl ?_
        refine z_iload_n rfl rfl ?_
        refine z_iload rfl rfl ?_
        refine z_iast rfl rfl (by omega) ?_
        refine z_aload_n rfl rfl ?_
        refine z_dup rfl rfl ?_
        refine z_getI (bi := 0) rfl rfl rfl rfl ?_
        refine z_iconst rfl ?_
        refine z_iadd rfl ?_
        refine z_putI (bi := 0) rfl rfl rfl rfl rfl ?_
        refine z_aload_n rfl rfl ?_
        refine z_getR rfl rfl rfl rfl ?_
        refine z_iload rfl rfl ?_
        refine z_iload_n rfl rfl ?_
        refine z_iast rfl rfl (by omega) ?_
        refine z_aload_n rfl rfl ?_
        refine z_getR rfl rfl rfl rfl ?_
        refine z_iload_n rfl rfl ?_
        refine z_iload rfl rfl ?_
        refine z_iast rfl rfl (by omega) ?_
        refine z_iinc rfl rfl rfl rfl ?_
        refine z_goto rfl ?_
        exact ih (t + 1) _ _ (by omega) hst (by omega)
theorem s_divide {Z : ZW} {J : Int64} {n : Nat} {m : Int} (hn : Z 4 0 = n) (hn2 : n ≤ 24) (h00 : tbI m 0 = true) : Mz 28 [.ref 13, .ref 3, .int (I m)] Z J (fun r Z' J' => r = none ∧ J' = J ∧ ∃ b, DvI (fun x => tbI m x) Z Z' n b) := by
  unfold Mz
  refine z_aload_n rfl rfl ?_
  refine z_iconst rfl ?_
  refine z_putI (bi := 0) rfl rfl rfl rfl rfl ?_
  refine z_iconst rfl ?_
  refine z_istore_n rfl rfl rfl ?_
  refine z_iconst rfl ?_
  refine z_istore rfl rfl rfl ?_
  refine l_divide hn hn2 h00 n 0 _ 0 (by omega) ⟨?_, ?_, ?_, ?_, ?_, ?_⟩ (by omega)
  · simp [up, cnt]
  · intro h; exact absurd h (by omega)
  · intro j j0 j1; exact absurd j1 (by omega)
  · intro c c0 c1; simp [cnt] at c1; omega
  · intro c c0 c1; simp [cnt] at c1; omega
  · intro k j k1 k2 k3 k4; simp [up, k4]
