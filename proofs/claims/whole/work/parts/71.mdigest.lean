/-! the reference: the digest -/
theorem m_mix {Z : ZW} {J : Int64} {x : Int} : D 150 [.ref 64, .int (I x)] Z J none Z (mx J x) := by
  unfold D Mz
  refine z_aload_n rfl rfl ?_
  refine z_ldc2 rfl ?_
  refine z_aload_n rfl rfl ?_
  refine z_getL rfl rfl rfl ?_
  refine z_lmul rfl ?_
  refine z_iload_n rfl rfl ?_
  refine z_i2l rfl ?_
  refine z_ladd rfl ?_
  refine z_putL rfl rfl rfl rfl ?_
  exact z_vret rfl rfl ⟨rfl, rfl, rfl⟩
theorem l_mr {Z : ZW} {Φ : ZΦ} {n : Nat} (hn : n = 4) {v : Int64} : ∀ (d : Nat) (t : Int) (J : Int64), 0 ≤ t → t + d = n → v = mxU (fun t h => mx h (Z 78 t)) d t J → OkZ none 152 55 [some (.ref 64), some (.int (I ((n : Int))))] [] Z v Φ → OkZ none 152 34 [some (.ref 64), some (.int (I (t)))] [] Z J Φ := by
  intro d
  induction d with
  | zero =>
    intro t J t0 t1 hv hk
    have et : t = (n : Int) := by omega
    have hv : v = J := hv
    rw [← et, hv] at hk
    refine z_iload_n rfl rfl ?_
    refine z_iconst rfl ?_
    refine z_icmp_ge rfl (by omega) (by omega) (fun h36 => ?_) (fun h36 => ?_)
    · exact hk
    · exfalso; omega
  | succ d ih =>
    intro t J t0 t1 hv hk
    refine z_iload_n rfl rfl ?_
    refine z_iconst rfl ?_
    refine z_icmp_ge rfl (by omega) (by omega) (fun h36 => ?_) (fun h36 => ?_)
    · exfalso; omega
    · refine z_aload_n rfl rfl ?_
      refine z_aload_n rfl rfl ?_
      refine z_getR rfl rfl rfl rfl ?_
      refine z_iload_n rfl rfl ?_
      refine z_iald rfl rfl (by omega) ?_
      refine z_callV1v rfl rfl rfl rfl rfl rfl (m_mix) ?_
      refine z_iinc rfl rfl rfl rfl ?_
      refine z_goto rfl ?_
      exact ih (t + 1) _ (by omega) (by omega) hv hk
theorem m_mixRun {Z : ZW} {J : Int64} : D 152 [.ref 64] Z J none Z (ML J (Z 64 18) (Z 64 19) (Z 64 20) (Z 64 21) (Z 78) (Z 64 22)) := by
  unfold D Mz
  refine z_aload_n rfl rfl ?_
  refine z_aload_n rfl rfl ?_
  refine z_getI (bi := 18) rfl rfl rfl rfl ?_
  refine z_callV1v rfl rfl rfl rfl rfl rfl (m_mix) ?_
  refine z_aload_n rfl rfl ?_
  refine z_aload_n rfl rfl ?_
  refine z_getI (bi := 19) rfl rfl rfl rfl ?_
  refine z_callV1v rfl rfl rfl rfl rfl rfl (m_mix) ?_
  refine z_aload_n rfl rfl ?_
  refine z_aload_n rfl rfl ?_
  refine z_getI (bi := 20) rfl rfl rfl rfl ?_
  refine z_callV1v rfl rfl rfl rfl rfl rfl (m_mix) ?_
  refine z_aload_n rfl rfl ?_
  refine z_aload_n rfl rfl ?_
  refine z_getI (bi := 21) rfl rfl rfl rfl ?_
  refine z_callV1v rfl rfl rfl rfl rfl rfl (m_mix) ?_
  refine z_iconst rfl ?_
  refine z_istore_n rfl rfl rfl ?_
  refine l_mr (n := 4) rfl 4 0 _ (by omega) (by omega) rfl ?_
  refine z_aload_n rfl rfl ?_
  refine z_aload_n rfl rfl ?_
  refine z_getI (bi := 22) rfl rfl rfl rfl ?_
  refine z_callV1v rfl rfl rfl rfl rfl rfl (m_mix) ?_
  exact z_vret rfl rfl ⟨rfl, rfl, rfl⟩
theorem l_mb {Z : ZW} {nb : Nat} (hnb : Z 64 9 = nb) (hnb2 : nb ≤ 24) (hH : ∀ t, 0 ≤ t → t < (nb : Int) → RG (Z 76 t)) {v : Int64} : ∀ (d : Nat) (t : Int) (J : Int64), 0 ≤ t → t + d = nb → v = mxU (MB (Z 72) (Z 74) (Z 76) (fun b => ccF (Z 76) (Z 74) nb (Z 76 b))) d t J → OkZ none 151 14 [some (.ref 64), some (.int (I (t)))] [] Z J (fun r Z' J' => r = none ∧ Z' = Z ∧ J' = v) := by
  intro d
  induction d with
  | zero =>
    intro t J t0 t1 hv
    have et : t = (nb : Int) := by omega
    have hv : v = J := hv
    refine z_iload_n rfl rfl ?_
    refine z_aload_n rfl rfl ?_
    refine z_getI (bi := 9) rfl rfl rfl rfl ?_
    rw [hnb]
    refine z_icmp_ge rfl (by omega) (by omega) (fun h19 => ?_) (fun h19 => ?_)
    · exact z_vret rfl rfl ⟨rfl, rfl, hv.symm⟩
    · exfalso; omega
  | succ d ih =>
    intro t J t0 t1 hv
    refine z_iload_n rfl rfl ?_
    refine z_aload_n rfl rfl ?_
    refine z_getI (bi := 9) rfl rfl rfl rfl ?_
    rw [hnb]
    refine z_icmp_ge rfl (by omega) (by omega) (fun h19 => ?_) (fun h19 => ?_)
    · exfalso; omega
    · refine z_aload_n rfl rfl ?_
      refine z_aload_n rfl rfl ?_
      refine z_getR rfl rfl rfl rfl ?_
      refine z_iload_n rfl rfl ?_
      refine z_iald rfl rfl (by omega) ?_
      refine z_callV1v rfl rfl rfl rfl rfl rfl (m_mix) ?_
      refine z_aload_n rfl rfl ?_
      refine z_aload_n rfl rfl ?_
      refine z_getR rfl rfl rfl rfl ?_
      refine z_iload_n rfl rfl ?_
      refine z_iald rfl rfl (by omega) ?_
      refine z_callV1v rfl rfl rfl rfl rfl rfl (m_mix) ?_
      refine z_aload_n rfl rfl ?_
      refine z_aload_n rfl rfl ?_
      refine z_getR rfl rfl rfl rfl ?_
      refine z_iload_n rfl rfl ?_
      refine z_iald rfl rfl (by omega) ?_
      refine z_callV1v rfl rfl rfl rfl rfl rfl (m_mix) ?_
      refine z_aload_n rfl rfl ?_
      refine z_aload_n rfl rfl ?_
      refine z_iload_n rfl rfl ?_
      refine z_callV1 rfl rfl rfl rfl rfl rfl (m_chainCostOf hnb hnb2 (by omega) hH) ?_
      refine z_callV1v rfl rfl rfl rfl rfl rfl (m_mix) ?_
      refine z_iinc rfl rfl rfl rfl ?_
      refine z_goto rfl ?_
      exact ih (t + 1) _ (by omega) (by omega) hv
theorem m_mixBlocks {Z : ZW} {J : Int64} {n : Nat} (hn : Z 65 0 = n) (hn2 : n ≤ 24) (hw : WFP (mO Z) (mA Z) (mB Z) n) : Mz 151 [.ref 64] Z J (fun r Z' J' => r = none ∧ J' = mxU (MB (gS (mO Z) (mB Z) n) (gC (mC Z) (mO Z) (mB Z) n) (gH (mO Z) (mB Z) n) (fun b => gK (mC Z) (mO Z) (mB Z) n (gH (mO Z) (mB Z) n b))) (gnb (mO Z) (mB Z) n) 0 (mx J (gnb (mO Z) (mB Z) n)) ∧ LBf Z Z') := by
  have hg := gnb_le (mO Z) (mB Z) n
  unfold Mz
  refine z_aload_n rfl rfl ?_
  refine z_callV0g rfl rfl rfl rfl rfl rfl (m_laysBlocks hn hn2 hw) (fun r1 Z1 J1 q1 => ?_)
  obtain ⟨rfl, rfl, hL, hF⟩ := q1
  show OkZ none 151 4 _ [] _ _ _
  refine z_aload_n rfl rfl ?_
  refine z_aload_n rfl rfl ?_
  refine z_getI (bi := 9) rfl rfl rfl rfl ?_
  rw [hL.1]
  refine z_callV1v rfl rfl rfl rfl rfl rfl (m_mix) ?_
  refine z_iconst rfl ?_
  refine z_istore_n rfl rfl rfl ?_
  refine z_weaken (l_mb hL.1 (by omega) (LB_H hn2 hL) (gnb (mO Z) (mB Z) n) 0 _ (by omega) (by omega) rfl) ?_
  rintro r' Z' J' ⟨rfl, rfl, rfl⟩
  refine ⟨rfl, ?_, hF⟩
  refine mxU_congr _ _ _ (fun j h j0 j1 => ?_)
  obtain ⟨c1, c2, c3, c4, c5⟩ := hL.2.2 j j0 (by omega)
  unfold MB
  dsimp only
  rw [c2, c4, cc_gK hL j0 (by omega), c5]
theorem l_md1 {Z : ZW} {Φ : ZΦ} {n : Nat} (hn : n = 3) {v : Int64} : ∀ (d : Nat) (t : Int) (J : Int64), 0 ≤ t → t + d = n → v = mxU (fun t h => mx h (Z 68 t)) d t J → OkZ none 153 30 [some (.ref 64), some (.int (I ((n : Int))))] [] Z v Φ → OkZ none 153 9 [some (.ref 64), some (.int (I (t)))] [] Z J Φ := by
  intro d
  induction d with
  | zero =>
    intro t J t0 t1 hv hk
    have et : t = (n : Int) := by omega
    have hv : v = J := hv
    rw [← et, hv] at hk
    refine z_iload_n rfl rfl ?_
    refine z_iconst rfl ?_
    refine z_icmp_ge rfl (by omega) (by omega) (fun h11 => ?_) (fun h11 => ?_)
    · exact hk
    · exfalso; omega
  | succ d ih =>
    intro t J t0 t1 hv hk
    refine z_iload_n rfl rfl ?_
    refine z_iconst rfl ?_
    refine z_icmp_ge rfl (by omega) (by omega) (fun h11 => ?_) (fun h11 => ?_)
    · exfalso; omega
    · refine z_aload_n rfl rfl ?_
      refine z_aload_n rfl rfl ?_
      refine z_getR rfl rfl rfl rfl ?_
      refine z_iload_n rfl rfl ?_
      refine z_iald rfl rfl (by omega) ?_
      refine z_callV1v rfl rfl rfl rfl rfl rfl (m_mix) ?_
      refine z_iinc rfl rfl rfl rfl ?_
      refine z_goto rfl ?_
      exact ih (t + 1) _ (by omega) (by omega) hv hk
theorem l_md2 {Z : ZW} {Φ : ZΦ} {n : Nat} (hn : n = 8) {v : Int64} : ∀ (d : Nat) (t : Int) (J : Int64), 0 ≤ t → t + d = n → v = mxU (fun t h => mx h (mC Z t)) d t J → OkZ none 153 65 [some (.ref 64), some (.int (I ((n : Int))))] [] Z v Φ → OkZ none 153 40 [some (.ref 64), some (.int (I (t)))] [] Z J Φ := by
  intro d
  induction d with
  | zero =>
    intro t J t0 t1 hv hk
    have et : t = (n : Int) := by omega
    have hv : v = J := hv
    rw [← et, hv] at hk
    refine z_iload_n rfl rfl ?_
    refine z_bipush rfl (by decide) ?_
    refine z_icmp_ge rfl (by omega) (by omega) (fun h43 => ?_) (fun h43 => ?_)
    · exact hk
    · exfalso; omega
  | succ d ih =>
    intro t J t0 t1 hv hk
    refine z_iload_n rfl rfl ?_
    refine z_bipush rfl (by decide) ?_
    refine z_icmp_ge rfl (by omega) (by omega) (fun h43 => ?_) (fun h43 => ?_)
    · exfalso; omega
    · refine z_aload_n rfl rfl ?_
      refine z_aload_n rfl rfl ?_
      refine z_getR rfl rfl rfl rfl ?_
      refine z_bipush rfl (by decide) ?_
      refine z_iload_n rfl rfl ?_
      refine z_iadd rfl ?_
      refine z_iald rfl rfl (by omega) ?_
      refine z_callV1v rfl rfl rfl rfl rfl rfl (m_mix) ?_
      refine z_iinc rfl rfl rfl rfl ?_
      refine z_goto rfl ?_
      exact ih (t + 1) _ (by omega) (by omega) hv hk
theorem l_md3 {Z : ZW} {Φ : ZΦ} {n : Nat} (hn : Z 65 0 = n) (hn2 : n ≤ 24) {v : Int64} : ∀ (d : Nat) (t : Int) (J : Int64), 0 ≤ t → t + d = n → v = mxU (fun t h => mx h (mO Z t)) d t J → OkZ none 153 105 [some (.ref 64), some (.int (I ((n : Int))))] [] Z v Φ → OkZ none 153 77 [some (.ref 64), some (.int (I (t)))] [] Z J Φ := by
  intro d
  induction d with
  | zero =>
    intro t J t0 t1 hv hk
    have et : t = (n : Int) := by omega
    have hv : v = J := hv
    rw [← et, hv] at hk
    refine z_iload_n rfl rfl ?_
    refine z_aload_n rfl rfl ?_
    refine z_getR rfl rfl rfl rfl ?_
    refine z_iconst rfl ?_
    refine z_iald rfl rfl (by omega) ?_
    rw [hn]
    refine z_icmp_ge rfl (by omega) (by omega) (fun h84 => ?_) (fun h84 => ?_)
    · exact hk
    · exfalso; omega
  | succ d ih =>
    intro t J t0 t1 hv hk
    refine z_iload_n rfl rfl ?_
    refine z_aload_n rfl rfl ?_
    refine z_getR rfl rfl rfl rfl ?_
    refine z_iconst rfl ?_
    refine z_iald rfl rfl (by omega) ?_
    rw [hn]
    refine z_icmp_ge rfl (by omega) (by omega) (fun h84 => ?_) (fun h84 => ?_)
    · exfalso; omega
    · refine z_aload_n rfl rfl ?_
      refine z_aload_n rfl rfl ?_
      refine z_getR rfl rfl rfl rfl ?_
      refine z_iconst rfl ?_
      refine z_iload_n rfl rfl ?_
      refine z_iadd rfl ?_
      refine z_iald rfl rfl (by omega) ?_
      refine z_callV1v rfl rfl rfl rfl rfl rfl (m_mix) ?_
      refine z_iinc rfl rfl rfl rfl ?_
      refine z_goto rfl ?_
      exact ih (t + 1) _ (by omega) (by omega) hv hk
theorem z_to {sc : Option (Nat × (Nat → Int32))} {i pc : Nat} {lv lv' : List (Option Value)} {st : List Value} {Z : ZW} {J : Int64} {Φ : ZΦ} (h : OkZ sc i pc lv st Z J Φ) (e : lv' = lv) : OkZ sc i pc lv' st Z J Φ := by rw [e]; exact h
theorem keep_all {Z Z1 : ZW} {n : Nat} (h : ∀ (k : Nat) (j : Int), (k < 70 ∨ 77 < k) → ¬ (k = 64 ∧ j = 9) → Z1 k j = Z k j) : Z1 65 = Z 65 ∧ mO Z1 = mO Z ∧ mA Z1 = mA Z ∧ mB Z1 = mB Z ∧ mC Z1 = mC Z := by
  have e65 : Z1 65 = Z 65 := funext fun j => h 65 j (by omega) (by omega)
  refine ⟨e65, ?_, ?_, ?_, ?_⟩
  · unfold mO; rw [e65]
  · unfold mA; rw [e65]
  · unfold mB; rw [e65]
  · unfold mC; rw [e65]
/-- the digest of the program and its flow, out of the picture -/
def DGf (h : Int64) (co op rb : FI) (n : Nat) : Int64 := MF (MS h co n op) (gnb op rb n) (gS op rb n) (gC co op rb n) (gH op rb n) (fun b => gK co op rb n (gH op rb n b)) (gR op rb n) (gG co op rb n) (gL co op rb n)
set_option maxHeartbeats 2000000 in
theorem m_digest {Z : ZW} {J : Int64} {n : Nat} (hn : Z 65 0 = n) (hn2 : n ≤ 24) (hw : WFP (mO Z) (mA Z) (mB Z) n) (hco : COk (mC Z)) : Mz 153 [.ref 64] Z J (fun r Z' J' => r = some (.long (mx (ML (DGf (mx (mxs (Z 68) 3 h0) (Z 64 6)) (mC Z) (mO Z) (mB Z) n) (Z 64 18) (Z 64 19) (Z 64 20) (Z 64 21) (Z 78) (Z 64 22)) (Z 64 3))) ∧ ∀ (k : Nat) (j : Int), (k < 70 ∨ 77 < k) → ¬ (k = 64 ∧ j = 9) → Z' k j = Z k j) := by
  have hg := gnb_le (mO Z) (mB Z) n
  have hop := OP_of hw
  obtain ⟨v, ev⟩ : ∃ v, v = (mx (ML (DGf (mx (mxs (Z 68) 3 h0) (Z 64 6)) (mC Z) (mO Z) (mB Z) n) (Z 64 18) (Z 64 19) (Z 64 20) (Z 64 21) (Z 78) (Z 64 22)) (Z 64 3)) := ⟨_, rfl⟩
  rw [← ev]
  obtain ⟨hA, eA⟩ : ∃ h, h = MS (mx (mxs (Z 68) 3 h0) (Z 64 6)) (mC Z) n (mO Z) := ⟨_, rfl⟩
  have K105 : OkZ none 153 105 [some (.ref 64), some (.int (I ((n : Int))))] [] Z hA (fun r Z' J' => r = some (.long v) ∧ ∀ (k : Nat) (j : Int), (k < 70 ∨ 77 < k) → ¬ (k = 64 ∧ j = 9) → Z' k j = Z k j) := by
    refine z_aload_n rfl rfl ?_
    refine z_callV0g rfl rfl rfl rfl rfl rfl (m_mixBlocks hn hn2 hw) (fun r106 Z106 J106 q106 => ?_)
    obtain ⟨rfl, rfl, hF1⟩ := q106
    obtain ⟨hB, eB⟩ : ∃ h, h = mxU (MB (gS (mO Z) (mB Z) n) (gC (mC Z) (mO Z) (mB Z) n) (gH (mO Z) (mB Z) n) (fun b => gK (mC Z) (mO Z) (mB Z) n (gH (mO Z) (mB Z) n b))) (gnb (mO Z) (mB Z) n) 0 (mx hA (gnb (mO Z) (mB Z) n)) := ⟨_, rfl⟩
    rw [← eB]
    have f1 : ∀ (k : Nat) (j : Int), (k < 70 ∨ 77 < k) → ¬ (k = 64 ∧ j = 9) → Z106 k j = Z k j := fun k j hk h9 => hF1 k j (by omega) h9
    obtain ⟨k65, kO, kA, kB, kC⟩ := keep_all (n := n) f1
    have hr1 := m_reachable (Z := Z106) (J := hB) (n := n) (by rw [k65]; exact hn) hn2 (by rw [kO, kA, kB]; exact hw)
    rw [kO, kB] at hr1
    show OkZ none 153 109 _ [] _ _ _
    refine z_aload_n rfl rfl ?_
    refine z_aload_n rfl rfl ?_
    refine z_callV0g rfl rfl rfl rfl rfl rfl (hr1) (fun r111 Z111 J111 q111 => ?_)
    obtain ⟨rfl, rfl, hF2⟩ := q111
    have f2 : ∀ (k : Nat) (j : Int), (k < 70 ∨ 77 < k) → ¬ (k = 64 ∧ j = 9) → Z111 k j = Z k j := fun k j hk h9 => (hF2 k j (by omega) h9).trans (f1 k j hk h9)
    obtain ⟨l65, lO, lA, lB, lC⟩ := keep_all (n := n) f2
    have hr2 := m_greatestCost (Z := Z111) (J := mx J111 (gR (mO Z) (mB Z) n)) (n := n) (by rw [l65]; exact hn) hn2 (by rw [lO, lA, lB]; exact hw) (by rw [lC]; exact hco) (bw_great hn2 (by rw [lO, lB]; exact hop) (by rw [lC]; exact hco))
    rw [lO, lB, lC] at hr2
    have eG : (if (gnb (mO Z) (mB Z) n) = 0 then 0 else _) = gG (mC Z) (mO Z) (mB Z) n := rfl
    rw [eG] at hr2
    show OkZ none 153 114 _ [.int (I (gR (mO Z) (mB Z) n)), .ref 64] _ _ _
    refine z_callV1v rfl rfl rfl rfl rfl rfl (m_mix) ?_
    refine z_aload_n rfl rfl ?_
    refine z_aload_n rfl rfl ?_
    refine z_callV0g rfl rfl rfl rfl rfl rfl (hr2) (fun r119 Z119 J119 q119 => ?_)
    obtain ⟨rfl, rfl, hF3⟩ := q119
    have f3 : ∀ (k : Nat) (j : Int), (k < 70 ∨ 77 < k) → ¬ (k = 64 ∧ j = 9) → Z119 k j = Z k j := fun k j hk h9 => (hF3 k j hk h9).trans (f2 k j hk h9)
    obtain ⟨p65, pO, pA, pB, pC⟩ := keep_all (n := n) f3
    have hr3 := m_leastCost (Z := Z119) (J := mx (mx J111 (gR (mO Z) (mB Z) n)) (gG (mC Z) (mO Z) (mB Z) n)) (n := n) (by rw [p65]; exact hn) hn2 (by rw [pO, pA, pB]; exact hw) (by rw [pC]; exact hco) (bw_least hn2 (by rw [pO, pB]; exact hop) (by rw [pC]; exact hco))
    rw [pO, pB, pC] at hr3
    have eL : (if (gnb (mO Z) (mB Z) n) = 0 then 0 else _) = gL (mC Z) (mO Z) (mB Z) n := rfl
    rw [eL] at hr3
    show OkZ none 153 122 _ [.int (I (gG (mC Z) (mO Z) (mB Z) n)), .ref 64] _ _ _
    refine z_callV1v rfl rfl rfl rfl rfl rfl (m_mix) ?_
    refine z_aload_n rfl rfl ?_
    refine z_aload_n rfl rfl ?_
    refine z_callV0g rfl rfl rfl rfl rfl rfl (hr3) (fun r127 Z127 J127 q127 => ?_)
    obtain ⟨rfl, rfl, hF4⟩ := q127
    have f4 : ∀ (k : Nat) (j : Int), (k < 70 ∨ 77 < k) → ¬ (k = 64 ∧ j = 9) → Z127 k j = Z k j := fun k j hk h9 => (hF4 k j hk h9).trans (f3 k j hk h9)
    show OkZ none 153 130 _ [.int (I (gL (mC Z) (mO Z) (mB Z) n)), .ref 64] _ _ _
    refine z_callV1v rfl rfl rfl rfl rfl rfl (m_mix) ?_
    refine z_aload_n rfl rfl ?_
    refine z_callV0v rfl rfl rfl rfl rfl rfl (m_mixRun) ?_
    refine z_aload_n rfl rfl ?_
    refine z_aload_n rfl rfl ?_
    refine z_getI (bi := 3) rfl rfl rfl rfl ?_
    refine z_callV1v rfl rfl rfl rfl rfl rfl (m_mix) ?_
    refine z_aload_n rfl rfl ?_
    refine z_getL rfl rfl rfl ?_
    have g3 : Z127 64 3 = Z 64 3 := f4 64 3 (by omega) (by omega)
    have g18 : Z127 64 18 = Z 64 18 := f4 64 18 (by omega) (by omega)
    have g19 : Z127 64 19 = Z 64 19 := f4 64 19 (by omega) (by omega)
    have g20 : Z127 64 20 = Z 64 20 := f4 64 20 (by omega) (by omega)
    have g21 : Z127 64 21 = Z 64 21 := f4 64 21 (by omega) (by omega)
    have g22 : Z127 64 22 = Z 64 22 := f4 64 22 (by omega) (by omega)
    have g78 : Z127 78 = Z 78 := funext fun j => f4 78 j (by omega) (by omega)
    rw [g3, g18, g19, g20, g21, g22, g78]
    refine z_lret rfl rfl ⟨?_, f4⟩
    rw [ev, eB, eA]
    rfl
  unfold Mz
  refine z_aload_n rfl rfl ?_
  refine z_ldc2 rfl ?_
  refine z_putL rfl rfl rfl rfl ?_
  refine z_iconst rfl ?_
  refine z_istore_n rfl rfl rfl ?_
  refine l_md1 (n := 3) rfl 3 0 _ (by omega) (by omega) rfl ?_
  refine z_aload_n rfl rfl ?_
  refine z_aload_n rfl rfl ?_
  refine z_getI (bi := 6) rfl rfl rfl rfl ?_
  refine z_callV1v rfl rfl rfl rfl rfl rfl (m_mix) ?_
  refine z_iconst rfl ?_
  refine z_istore_n rfl rfl rfl ?_
  refine l_md2 (n := 8) rfl 8 0 _ (by omega) (by omega) rfl ?_
  refine z_aload_n rfl rfl ?_
  refine z_aload_n rfl rfl ?_
  refine z_getR rfl rfl rfl rfl ?_
  refine z_iconst rfl ?_
  refine z_iald rfl rfl (by omega) ?_
  rw [hn]
  refine z_callV1v rfl rfl rfl rfl rfl rfl (m_mix) ?_
  refine z_iconst rfl ?_
  refine z_istore_n rfl rfl rfl ?_
  refine l_md3 (n := n) hn hn2 n 0 _ (by omega) (by omega) rfl ?_
  rw [eA] at K105
  exact K105
