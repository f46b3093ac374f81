/-! the reference: run and neededBudget -/
theorem rn_stop {n : Nat} {op ra rb ic en : FI} : ∀ (d s : Nat) (a : Int) (p : Bool) (r c : Int) (v : FI), (fun q : RES => q.1 = 0 → q.2.2.2.2.1 = -1) (rn n op ra rb ic en d s a p r c v) := by
  intro d
  induction d with
  | zero =>
    intro s a p r c v
    unfold rn
    exact if_P (P := fun q : RES => q.1 = 0 → q.2.2.2.2.1 = -1) (fun h => absurd h (show ¬ (2 : Int) = 0 by decide)) (fun _ => rfl)
  | succ d ih =>
    intro s a p r c v
    unfold rn
    exact if_P (P := fun q : RES => q.1 = 0 → q.2.2.2.2.1 = -1) (if_P (P := fun q : RES => q.1 = 0 → q.2.2.2.2.1 = -1) (ih _ _ _ _ _ _) (if_P (P := fun q : RES => q.1 = 0 → q.2.2.2.2.1 = -1) (ih _ _ _ _ _ _) (fun h => absurd h (show ¬ (1 : Int) = 0 by decide)))) (fun _ => rfl)
/-- what a call leaves of the reference: all but its scratch -/
def MFr (Z Z' : ZW) : Prop := ∀ (k : Nat) (j : Int), (k < 70 ∨ k = 78 ∨ 79 < k) → ¬ (k = 64 ∧ (j = 9 ∨ (25 ≤ j ∧ j ≤ 29))) → Z' k j = Z k j
def MRs (Z Z' : ZW) (q : RES) : Prop := Z' 64 18 = q.1 ∧ Z' 64 19 = q.2.1 ∧ Z' 64 20 = q.2.2.1 ∧ Z' 64 21 = q.2.2.2.1 ∧ Z' 64 22 = q.2.2.2.2.1 ∧ (∀ r, 0 ≤ r → r < (4 : Int) → Z' 78 r = q.2.2.2.2.2 r) ∧ ∀ (k : Nat) (j : Int), (k < 70 ∨ 79 < k) → ¬ (k = 64 ∧ (j = 9 ∨ (18 ≤ j ∧ j ≤ 22) ∨ (25 ≤ j ∧ j ≤ 29))) → Z' k j = Z k j
theorem m_run_bad {Z : ZW} {J : Int64} {m bu : Int} (hm : RG m) (hb : RG bu) (h : ¬ ((0 ≤ m ∧ m ≤ 2) ∧ 0 ≤ bu ∧ bu ≤ 30000)) : D 139 [.ref 64, .int (I m), .int (I bu)] Z J (some (.int (I (-2)))) (mf Z (-2)) J := by
  unfold D Mz
  refine z_iload_n rfl rfl ?_
  refine z_iconst rfl ?_
  refine z_iconst rfl ?_
  refine z_callS3 rfl rfl rfl rfl (m_within (by omega) (by omega) (by omega)) ?_
  refine z_ifb_eq rfl (fun h6 => ?_) (fun h6 => ?_)
  · refine z_aload_n rfl rfl ?_
    refine z_bipush rfl (by decide) ?_
    refine z_callV1 rfl rfl rfl rfl rfl rfl (m_counts (by omega)) ?_
    exact z_iret rfl rfl ⟨rfl, rfl, rfl⟩
  · refine z_iload_n rfl rfl ?_
    refine z_iconst rfl ?_
    refine z_sipush rfl (by decide) ?_
    refine z_callS3 rfl rfl rfl rfl (m_within (by omega) (by omega) (by omega)) ?_
    refine z_ifb_ne rfl (fun h17 => ?_) (fun h17 => ?_)
    · have h1 := of_decide_eq_true h6
      have h2 := of_decide_eq_true h17
      exact absurd ⟨h1, h2⟩ h
    · refine z_aload_n rfl rfl ?_
      refine z_bipush rfl (by decide) ?_
      refine z_callV1 rfl rfl rfl rfl rfl rfl (m_counts (by omega)) ?_
      exact z_iret rfl rfl ⟨rfl, rfl, rfl⟩
theorem l_regs {Z : ZW} {J : Int64} {x1 : Option Value} {y2 : Int32} {Φ : ZΦ} (hk : ∀ Z', (∀ r, 0 ≤ r → r < (4 : Int) → Z' 78 r = Z 79 r) → (∀ (k : Nat) (j : Int), k ≠ 78 → Z' k j = Z k j) → OkZ none 139 109 [some (.ref 64), x1, some (.int y2), some (.int (I 4))] [] Z' J Φ) : ∀ (d t : Nat) (Z' : ZW), t + d = 4 → (∀ r, 0 ≤ r → r < (t : Int) → Z' 78 r = Z 79 r) → (∀ (k : Nat) (j : Int), k ≠ 78 → Z' k j = Z k j) → OkZ none 139 86 [some (.ref 64), x1, some (.int y2), some (.int (I ((t : Nat) : Int)))] [] Z' J Φ := by
  intro d
  induction d with
  | zero =>
    intro t Z' ht h1 ho
    have et : t = 4 := by omega
    refine z_iload_n rfl rfl ?_
    refine z_iconst rfl ?_
    refine z_icmp_ge rfl (by omega) (by omega) (fun h88 => ?_) (fun h88 => ?_)
    · rw [et] at h1 ⊢
      exact hk Z' h1 ho
    · exfalso; omega
  | succ d ih =>
    intro t Z' ht h1 ho
    refine z_iload_n rfl rfl ?_
    refine z_iconst rfl ?_
    refine z_icmp_ge rfl (by omega) (by omega) (fun h88 => ?_) (fun h88 => ?_)
    · exfalso; omega
    · refine z_aload_n rfl rfl ?_
      refine z_getR rfl rfl rfl rfl ?_
      refine z_iload_n rfl rfl ?_
      refine z_aload_n rfl rfl ?_
      refine z_getR rfl rfl rfl rfl ?_
      refine z_iload_n rfl rfl ?_
      refine z_iald rfl rfl (by omega) ?_
      refine z_iast rfl rfl (by omega) ?_
      refine z_iinc rfl rfl rfl rfl ?_
      refine z_goto rfl ?_
      exact ih (t + 1) (up Z' 78 t (Z' 79 t)) (by omega) (fun r r0 r1 => by
        by_cases z : r = (t : Int)
        · rw [z, up_eq]; exact ho 79 t (by decide)
        · rw [up_nj z]; exact h1 r r0 (by omega)) (fun k j hk => by rw [up_ne hk]; exact ho k j hk)
set_option maxHeartbeats 1000000 in
theorem m_run {Z : ZW} {J : Int64} {n : Nat} {m bu : Int} (hn : Z 65 0 = n) (hn2 : n ≤ 24) (hw : WFP (mO Z) (mA Z) (mB Z) n) (hco : COk (mC Z)) (hm : 0 ≤ m ∧ m ≤ 2) (hb : 0 ≤ bu ∧ bu ≤ 30000) : Mz 139 [.ref 64, .int (I m), .int (I bu)] Z J (fun r Z' J' => J' = J ∧ r = some (.int (I (RN (mC Z) (mO Z) (mA Z) (mB Z) n m bu).1)) ∧ MRs Z Z' (RN (mC Z) (mO Z) (mA Z) (mB Z) n m bu)) := by
  have hst : 0 ≤ (RN (mC Z) (mO Z) (mA Z) (mB Z) n m bu).1 ∧ (RN (mC Z) (mO Z) (mA Z) (mB Z) n m bu).1 ≤ 2 := rn_st 3000 0 0 false bu 0 (fun _ => 0)
  have hsp : (RN (mC Z) (mO Z) (mA Z) (mB Z) n m bu).1 = 0 → (RN (mC Z) (mO Z) (mA Z) (mB Z) n m bu).2.2.2.2.1 = -1 := rn_stop 3000 0 0 false bu 0 (fun _ => 0)
  have hrs := m_runs (J := J) hn hn2 hw hco hm hb
  generalize (RN (mC Z) (mO Z) (mA Z) (mB Z) n m bu) = q at hst hsp hrs ⊢
  obtain ⟨q1, q2, q3, q4, q5, qv⟩ := q
  have hst : 0 ≤ q1 ∧ q1 ≤ 2 := hst
  have hsp : q1 = 0 → q5 = -1 := hsp
  unfold Mz
  refine z_iload_n rfl rfl ?_
  refine z_iconst rfl ?_
  refine z_iconst rfl ?_
  refine z_callS3 rfl rfl rfl rfl (m_within (by omega) (by omega) (by omega)) ?_
  refine z_ifb_eq rfl (fun h6 => ?_) (fun h6 => ?_)
  · exfalso
    first | exact absurd hm (of_decide_eq_false h6) | exact absurd hb (of_decide_eq_false h17)
  · refine z_iload_n rfl rfl ?_
    refine z_iconst rfl ?_
    refine z_sipush rfl (by decide) ?_
    refine z_callS3 rfl rfl rfl rfl (m_within (by omega) (by omega) (by omega)) ?_
    refine z_ifb_ne rfl (fun h17 => ?_) (fun h17 => ?_)
    · refine z_aload_n rfl rfl ?_
      refine z_iload_n rfl rfl ?_
      refine z_iload_n rfl rfl ?_
      refine z_callV2g rfl rfl rfl rfl rfl rfl (hrs) (fun r30 Z30 J30 q30 => ?_)
      obtain ⟨rfl, rfl, Z1, hF, hR⟩ := q30
      obtain ⟨⟨a1, a2, a3, a4, a5, a6⟩, a7⟩ := hR
      have a1 : Z30 64 25 = q1 := a1
      have a2 : Z30 64 26 = q2 := a2
      have a3 : Z30 64 27 = q3 := a3
      have a4 : Z30 64 28 = q4 := a4
      show OkZ none 139 33 _ [] _ _ _
      refine z_aload_n rfl rfl ?_
      refine z_aload_n rfl rfl ?_
      refine z_getI (bi := 25) rfl rfl rfl rfl ?_
      rw [a1]
      refine z_putI (bi := 18) rfl rfl rfl rfl rfl ?_
      refine z_aload_n rfl rfl ?_
      refine z_aload_n rfl rfl ?_
      refine z_getI (bi := 26) rfl rfl rfl rfl ?_
      rw [up_nj (by decide), a2]
      refine z_putI (bi := 19) rfl rfl rfl rfl rfl ?_
      refine z_aload_n rfl rfl ?_
      refine z_aload_n rfl rfl ?_
      refine z_getI (bi := 27) rfl rfl rfl rfl ?_
      rw [up_nj (by decide), up_nj (by decide), a3]
      refine z_putI (bi := 20) rfl rfl rfl rfl rfl ?_
      refine z_aload_n rfl rfl ?_
      refine z_aload_n rfl rfl ?_
      refine z_getI (bi := 28) rfl rfl rfl rfl ?_
      rw [up_nj (by decide), up_nj (by decide), up_nj (by decide), a4]
      refine z_putI (bi := 21) rfl rfl rfl rfl rfl ?_
      refine z_aload_n rfl rfl ?_
      refine z_aload_n rfl rfl ?_
      refine z_getI (bi := 18) rfl rfl rfl rfl ?_
      rw [up_nj (by decide), up_nj (by decide), up_nj (by decide), up_eq]
      refine z_if_ne rfl (by omega) (fun h70 => ?_) (fun h70 => ?_)
      · refine z_aload_n rfl rfl ?_
        refine z_getI (bi := 29) rfl rfl rfl rfl ?_
        rw [up_nj (by decide), up_nj (by decide), up_nj (by decide), up_nj (by decide)]
        refine z_putI (bi := 22) rfl rfl rfl rfl rfl ?_
        refine z_iconst rfl ?_
        refine z_istore_n rfl rfl rfl ?_
        have h5 : Z30 64 29 = q5 := a7 h70
        obtain ⟨Z3, eZ3⟩ : ∃ Z3, Z3 = up (up (up (up (up Z30 64 18 q1) 64 19 q2) 64 20 q3) 64 21 q4) 64 22 (Z30 64 29) := ⟨_, rfl⟩
        rw [← eZ3]
        refine l_regs (Z := Z3) ?_ 4 0 Z3 (by omega) (fun r r0 r1 => by omega) (fun _ _ _ => rfl)
        intro Z4 h78 ho
        have e18 : Z4 64 18 = q1 := by rw [ho 64 18 (by decide), eZ3, up_nj (by decide), up_nj (by decide), up_nj (by decide), up_nj (by decide), up_eq]
        refine z_aload_n rfl rfl ?_
        refine z_getI (bi := 18) rfl rfl rfl rfl ?_
        rw [e18]
        refine z_iret rfl rfl ⟨rfl, rfl, e18, ?_, ?_, ?_, ?_, fun r r0 r1 => ?_, fun k j hk hj => ?_⟩
        · rw [ho 64 19 (by decide), eZ3, up_nj (by decide), up_nj (by decide), up_nj (by decide), up_eq]
        · rw [ho 64 20 (by decide), eZ3, up_nj (by decide), up_nj (by decide), up_eq]
        · rw [ho 64 21 (by decide), eZ3, up_nj (by decide), up_eq]
        · rw [ho 64 22 (by decide), eZ3, up_eq]; exact h5
        · rw [h78 r r0 r1, eZ3, up_ne (by decide), up_ne (by decide), up_ne (by decide), up_ne (by decide), up_ne (by decide)]; exact a5 r r0 r1
        · rw [ho k j (by omega), eZ3]
          unfold up
          rw [if_neg (by omega), if_neg (by omega), if_neg (by omega), if_neg (by omega), if_neg (by omega), a6 k j (by omega) (by omega)]
          exact hF k j (by omega) (by omega)
      · refine z_iconst rfl ?_
        refine z_goto rfl ?_
        refine z_putI (bi := 22) rfl rfl rfl rfl rfl ?_
        refine z_iconst rfl ?_
        refine z_istore_n rfl rfl rfl ?_
        have h5 : (-1) = q5 := (hsp h70).symm
        obtain ⟨Z3, eZ3⟩ : ∃ Z3, Z3 = up (up (up (up (up Z30 64 18 q1) 64 19 q2) 64 20 q3) 64 21 q4) 64 22 ((-1)) := ⟨_, rfl⟩
        rw [← eZ3]
        refine l_regs (Z := Z3) ?_ 4 0 Z3 (by omega) (fun r r0 r1 => by omega) (fun _ _ _ => rfl)
        intro Z4 h78 ho
        have e18 : Z4 64 18 = q1 := by rw [ho 64 18 (by decide), eZ3, up_nj (by decide), up_nj (by decide), up_nj (by decide), up_nj (by decide), up_eq]
        refine z_aload_n rfl rfl ?_
        refine z_getI (bi := 18) rfl rfl rfl rfl ?_
        rw [e18]
        refine z_iret rfl rfl ⟨rfl, rfl, e18, ?_, ?_, ?_, ?_, fun r r0 r1 => ?_, fun k j hk hj => ?_⟩
        · rw [ho 64 19 (by decide), eZ3, up_nj (by decide), up_nj (by decide), up_nj (by decide), up_eq]
        · rw [ho 64 20 (by decide), eZ3, up_nj (by decide), up_nj (by decide), up_eq]
        · rw [ho 64 21 (by decide), eZ3, up_nj (by decide), up_eq]
        · rw [ho 64 22 (by decide), eZ3, up_eq]; exact h5
        · rw [h78 r r0 r1, eZ3, up_ne (by decide), up_ne (by decide), up_ne (by decide), up_ne (by decide), up_ne (by decide)]; exact a5 r r0 r1
        · rw [ho k j (by omega), eZ3]
          unfold up
          rw [if_neg (by omega), if_neg (by omega), if_neg (by omega), if_neg (by omega), if_neg (by omega), a6 k j (by omega) (by omega)]
          exact hF k j (by omega) (by omega)
    · exfalso
      first | exact absurd hm (of_decide_eq_false h6) | exact absurd hb (of_decide_eq_false h17)
theorem m_needed {Z : ZW} {J : Int64} {n : Nat} (hn : Z 65 0 = n) (hn2 : n ≤ 24) (hw : WFP (mO Z) (mA Z) (mB Z) n) (hco : COk (mC Z)) : Mz 148 [.ref 64] Z J (fun r Z' J' => J' = J ∧ r = some (.int (I (if (RN (mC Z) (mO Z) (mA Z) (mB Z) n 0 30000).1 = 0 then 30000 - (RN (mC Z) (mO Z) (mA Z) (mB Z) n 0 30000).2.2.1 else -1))) ∧ MFr Z Z') := by
  have hst : 0 ≤ (RN (mC Z) (mO Z) (mA Z) (mB Z) n 0 30000).1 ∧ (RN (mC Z) (mO Z) (mA Z) (mB Z) n 0 30000).1 ≤ 2 := rn_st 3000 0 0 false 30000 0 (fun _ => 0)
  have hrs := m_runs (J := J) (m := 0) (bu := 30000) hn hn2 hw hco (by omega) (by omega)
  generalize (RN (mC Z) (mO Z) (mA Z) (mB Z) n 0 30000) = q at hst hrs ⊢
  obtain ⟨q1, q2, q3, q4, q5, qv⟩ := q
  have hst : 0 ≤ q1 ∧ q1 ≤ 2 := hst
  unfold Mz
  refine z_aload_n rfl rfl ?_
  refine z_iconst rfl ?_
  refine z_sipush rfl (by decide) ?_
  refine z_callV2g rfl rfl rfl rfl rfl rfl (hrs) (fun r5 Z5 J5 q5 => ?_)
  obtain ⟨rfl, rfl, Z1, hF, hR⟩ := q5
  obtain ⟨⟨a1, a2, a3, a4, a5, a6⟩, a7⟩ := hR
  have a1 : Z5 64 25 = q1 := a1
  have a3 : Z5 64 27 = q3 := a3
  have hfr : MFr Z Z5 := fun k j hk hj => by
    rw [a6 k j (by omega) (by omega)]
    exact hF k j (by omega) (by omega)
  show OkZ none 148 8 _ [] _ _ _
  refine z_aload_n rfl rfl ?_
  refine z_getI (bi := 25) rfl rfl rfl rfl ?_
  rw [a1]
  refine z_if_ne rfl (by omega) (fun h12 => ?_) (fun h12 => ?_)
  · refine z_iconst rfl ?_
    exact z_iret rfl rfl ⟨rfl, by rw [if_neg h12], hfr⟩
  · refine z_sipush rfl (by decide) ?_
    refine z_aload_n rfl rfl ?_
    refine z_getI (bi := 27) rfl rfl rfl rfl ?_
    rw [a3]
    refine z_isub rfl ?_
    refine z_goto rfl ?_
    exact z_iret rfl rfl ⟨rfl, by rw [if_pos h12], hfr⟩
