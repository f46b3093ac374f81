/-! the reference: saves, undo, setCost -/
def MSV (Z Z' : ZW) : Prop := Z' 64 3 = (if Z 64 3 < 5 then Z 64 3 + 1 else 5) ∧ (∀ j, 0 ≤ j → j < (81 : Int) → Z' 67 (81 * (if Z 64 3 < 5 then Z 64 3 else 4) + j) = Z 65 j) ∧ (∀ x, 0 ≤ x → x < 81 * (if Z 64 3 < 5 then Z 64 3 else 4) → Z' 67 x = Z 67 (if Z 64 3 < 5 then x else x + 81)) ∧ ∀ (k : Nat) (j : Int), k ≠ 67 → ¬ (k = 64 ∧ j = 3) → Z' k j = Z k j
set_option maxHeartbeats 1000000 in
theorem m_saves {Z : ZW} {J : Int64} (hs : 0 ≤ Z 64 3 ∧ Z 64 3 ≤ 5) : Mz 102 [.ref 64] Z J (fun r Z' J' => r = none ∧ J' = J ∧ MSV Z Z') := by
  unfold Mz
  obtain ⟨t, et⟩ : ∃ t, t = (if Z 64 3 < 5 then Z 64 3 else 4) := ⟨_, rfl⟩
  have ht : 0 ≤ t ∧ t ≤ 4 := by rw [et]; split <;> omega
  have ht2 : t + 1 = (if Z 64 3 < 5 then Z 64 3 + 1 else 5) := by rw [et]; split <;> omega
  have KB : ∀ (d : Nat) (c : Int) (Z' : ZW), 0 ≤ c → c + d = 81 → Z' 64 3 = t → (∀ (k : Nat) (j : Int), k ≠ 67 → ¬ (k = 64 ∧ j = 3) → Z' k j = Z k j) → (∀ j, 0 ≤ j → j < c → Z' 67 (81 * t + j) = Z 65 j) → (∀ x, 0 ≤ x → x < 81 * t → Z' 67 x = Z 67 (if Z 64 3 < 5 then x else x + 81)) → OkZ none 102 50 [some (.ref 64), some (.int (I c))] [] Z' J (fun r Z' J' => r = none ∧ J' = J ∧ MSV Z Z') := by
    intro d
    induction d with
    | zero =>
      intro c Z' c0 c1 h3 hf hj hx
      refine z_iload_n rfl rfl ?_
      refine z_bipush rfl (by decide) ?_
      refine z_icmp_ge rfl (by omega) (by omega) (fun h53 => ?_) (fun h53 => ?_)
      · refine z_aload_n rfl rfl ?_
        refine z_dup rfl rfl ?_
        refine z_getI (bi := 3) rfl rfl rfl rfl ?_
        rw [h3]
        refine z_iconst rfl ?_
        refine z_iadd rfl ?_
        refine z_putI (bi := 3) rfl rfl rfl rfl rfl ?_
        refine z_vret rfl rfl ⟨rfl, rfl, ?_, ?_, ?_, fun k j hk hk2 => ?_⟩
        · rw [up_eq]; exact ht2
        · intro j j0 j1; rw [← et, up_ne (by decide)]; exact hj j j0 (by omega)
        · intro x x0 x1; rw [← et] at x1; rw [up_ne (by decide)]; exact hx x x0 x1
        · unfold up; rw [if_neg hk2]; exact hf k j hk hk2
      · exfalso; omega
    | succ d ih =>
      intro c Z' c0 c1 h3 hf hj hx
      refine z_iload_n rfl rfl ?_
      refine z_bipush rfl (by decide) ?_
      refine z_icmp_ge rfl (by omega) (by omega) (fun h53 => ?_) (fun h53 => ?_)
      · exfalso; omega
      · refine z_aload_n rfl rfl ?_
        refine z_getR rfl rfl rfl rfl ?_
        refine z_bipush rfl (by decide) ?_
        refine z_aload_n rfl rfl ?_
        refine z_getI (bi := 3) rfl rfl rfl rfl ?_
        rw [h3]
        refine z_imul rfl ?_
        refine z_iload_n rfl rfl ?_
        refine z_iadd rfl ?_
        refine z_aload_n rfl rfl ?_
        refine z_getR rfl rfl rfl rfl ?_
        refine z_iload_n rfl rfl ?_
        refine z_iald rfl rfl (by omega) ?_
        refine z_iast rfl rfl (by omega) ?_
        refine z_iinc rfl rfl rfl rfl ?_
        refine z_goto rfl ?_
        refine ih (c + 1) _ (by omega) (by omega) (by rw [up_ne (by decide)]; exact h3) (fun k j hk hk2 => by rw [up_ne hk]; exact hf k j hk hk2) (fun j j0 j1 => ?_) (fun x x0 x1 => ?_)
        · by_cases hjc : j = c
          · rw [hjc, up_eq]; exact hf 65 c (by decide) (fun q => absurd q.1 (by decide))
          · rw [up_nj (by omega)]; exact hj j j0 (by omega)
        · rw [up_nj (by omega)]; exact hx x x0 x1
  have KA : ∀ (d : Nat) (c : Int) (Z' : ZW), Z 64 3 = 5 → 0 ≤ c → c + d = 324 → (∀ (k : Nat) (j : Int), k ≠ 67 → ¬ (k = 64 ∧ j = 3) → Z' k j = Z k j) → Z' 64 3 = 5 → (∀ x, 0 ≤ x → x < c → Z' 67 x = Z 67 (x + 81)) → (∀ x, c ≤ x → Z' 67 x = Z 67 x) → OkZ none 102 10 [some (.ref 64), some (.int (I c))] [] Z' J (fun r Z' J' => r = none ∧ J' = J ∧ MSV Z Z') := by
    intro d
    induction d with
    | zero =>
      intro c Z' h5 c0 c1 hf h3 hx hy
      refine z_iload_n rfl rfl ?_
      refine z_sipush rfl (by decide) ?_
      refine z_icmp_ge rfl (by omega) (by omega) (fun h14 => ?_) (fun h14 => ?_)
      · refine z_aload_n rfl rfl ?_
        refine z_dup rfl rfl ?_
        refine z_getI (bi := 3) rfl rfl rfl rfl ?_
        rw [h3]
        refine z_iconst rfl ?_
        refine z_isub rfl ?_
        refine z_putI (bi := 3) rfl rfl rfl rfl rfl ?_
        refine z_iconst rfl ?_
        refine z_istore_n rfl rfl rfl ?_
        have t4 : t = 4 := by rw [et, if_neg (by omega)]
        refine KB 81 0 _ (by decide) (by decide) (by rw [up_eq, t4]; rfl) (fun k j hk hk2 => by unfold up; rw [if_neg hk2]; exact hf k j hk hk2) (fun j j0 j1 => absurd j1 (by omega)) (fun x x0 x1 => ?_)
        rw [up_ne (by decide), if_neg (by omega)]
        exact hx x x0 (by omega)
      · exfalso; omega
    | succ d ih =>
      intro c Z' h5 c0 c1 hf h3 hx hy
      refine z_iload_n rfl rfl ?_
      refine z_sipush rfl (by decide) ?_
      refine z_icmp_ge rfl (by omega) (by omega) (fun h14 => ?_) (fun h14 => ?_)
      · exfalso; omega
      · refine z_aload_n rfl rfl ?_
        refine z_getR rfl rfl rfl rfl ?_
        refine z_iload_n rfl rfl ?_
        refine z_aload_n rfl rfl ?_
        refine z_getR rfl rfl rfl rfl ?_
        refine z_iload_n rfl rfl ?_
        refine z_bipush rfl (by decide) ?_
        refine z_iadd rfl ?_
        refine z_iald rfl rfl (by omega) ?_
        refine z_iast rfl rfl (by omega) ?_
        refine z_iinc rfl rfl rfl rfl ?_
        refine z_goto rfl ?_
        refine ih (c + 1) _ h5 (by omega) (by omega) (fun k j hk hk2 => by rw [up_ne hk]; exact hf k j hk hk2) (by rw [up_ne (by decide)]; exact h3) (fun x x0 x1 => ?_) (fun x x0 => ?_)
        · by_cases hxc : x = c
          · rw [hxc, up_eq]; exact hy (c + 81) (by omega)
          · rw [up_nj hxc]; exact hx x x0 (by omega)
        · rw [up_nj (by omega)]; exact hy x (by omega)
  refine z_aload_n rfl rfl ?_
  refine z_getI (bi := 3) rfl rfl rfl rfl ?_
  refine z_iconst rfl ?_
  refine z_icmp_ne rfl (by omega) (by omega) (fun h5 => ?_) (fun h5 => ?_)
  · refine z_iconst rfl ?_
    refine z_istore_n rfl rfl rfl ?_
    exact KB 81 0 Z (by decide) (by decide) (by rw [et, if_pos (by omega)]) (fun _ _ _ _ => rfl) (fun j j0 j1 => absurd j1 (by omega)) (fun x x0 x1 => by rw [if_pos (by omega)])
  · refine z_iconst rfl ?_
    refine z_istore_n rfl rfl rfl ?_
    exact KA 324 0 Z (by omega) (by decide) (by decide) (fun _ _ _ _ => rfl) (by omega) (fun x x0 x1 => absurd x1 (by omega)) (fun _ _ => rfl)
theorem m_undo0 {Z : ZW} {J : Int64} (h : Z 64 3 = 0) : D 103 [.ref 64] Z J (some (.int (I (-4)))) (mf Z (-4)) J := by
  unfold D Mz
  refine z_aload_n rfl rfl ?_
  refine z_getI (bi := 3) rfl rfl rfl rfl ?_
  rw [h]
  refine z_if_ne rfl (by omega) (fun h4 => ?_) (fun h4 => ?_)
  · exact absurd rfl h4
  · refine z_aload_n rfl rfl ?_
    refine z_bipush rfl (by decide) ?_
    refine z_callV1 rfl rfl rfl rfl rfl rfl (m_counts (by omega)) ?_
    exact z_iret rfl rfl ⟨rfl, rfl, rfl⟩
theorem m_undo {Z : ZW} {J : Int64} (hs : 0 < Z 64 3 ∧ Z 64 3 ≤ 5) : Mz 103 [.ref 64] Z J (fun r Z' J' => J' = J ∧ r = (some (.int (I (Z 64 3 - 1)))) ∧ Z' 64 3 = Z 64 3 - 1 ∧ (∀ j, 0 ≤ j → j < (81 : Int) → Z' 65 j = Z 67 (81 * (Z 64 3 - 1) + j)) ∧ ∀ (k : Nat) (j : Int), k ≠ 65 → ¬ (k = 64 ∧ j = 3) → Z' k j = Z k j) := by
  unfold Mz
  have KB : ∀ (d : Nat) (c : Int) (Z' : ZW), 0 ≤ c → c + d = 81 → Z' 64 3 = Z 64 3 - 1 → (∀ j, 0 ≤ j → j < c → Z' 65 j = Z 67 (81 * (Z 64 3 - 1) + j)) → (∀ (k : Nat) (j : Int), k ≠ 65 → ¬ (k = 64 ∧ j = 3) → Z' k j = Z k j) → OkZ none 103 26 [some (.ref 64), some (.int (I c))] [] Z' J (fun r Z' J' => J' = J ∧ r = (some (.int (I (Z 64 3 - 1)))) ∧ Z' 64 3 = Z 64 3 - 1 ∧ (∀ j, 0 ≤ j → j < (81 : Int) → Z' 65 j = Z 67 (81 * (Z 64 3 - 1) + j)) ∧ ∀ (k : Nat) (j : Int), k ≠ 65 → ¬ (k = 64 ∧ j = 3) → Z' k j = Z k j) := by
    intro d
    induction d with
    | zero =>
      intro c Z' c0 c1 h3 hj hf
      refine z_iload_n rfl rfl ?_
      refine z_bipush rfl (by decide) ?_
      refine z_icmp_ge rfl (by omega) (by omega) (fun h29 => ?_) (fun h29 => ?_)
      · refine z_aload_n rfl rfl ?_
        refine z_getI (bi := 3) rfl rfl rfl rfl ?_
        rw [h3]
        exact z_iret rfl rfl ⟨rfl, rfl, h3, fun j j0 j1 => hj j j0 (by omega), hf⟩
      · exfalso; omega
    | succ d ih =>
      intro c Z' c0 c1 h3 hj hf
      refine z_iload_n rfl rfl ?_
      refine z_bipush rfl (by decide) ?_
      refine z_icmp_ge rfl (by omega) (by omega) (fun h29 => ?_) (fun h29 => ?_)
      · exfalso; omega
      · refine z_aload_n rfl rfl ?_
        refine z_getR rfl rfl rfl rfl ?_
        refine z_iload_n rfl rfl ?_
        refine z_aload_n rfl rfl ?_
        refine z_getR rfl rfl rfl rfl ?_
        refine z_bipush rfl (by decide) ?_
        refine z_aload_n rfl rfl ?_
        refine z_getI (bi := 3) rfl rfl rfl rfl ?_
        rw [h3]
        refine z_imul rfl ?_
        refine z_iload_n rfl rfl ?_
        refine z_iadd rfl ?_
        refine z_iald rfl rfl (by omega) ?_
        refine z_iast rfl rfl (by omega) ?_
        refine z_iinc rfl rfl rfl rfl ?_
        refine z_goto rfl ?_
        refine ih (c + 1) _ (by omega) (by omega) (by rw [up_ne (by decide)]; exact h3) (fun j j0 j1 => ?_) (fun k j hk hk2 => by rw [up_ne hk]; exact hf k j hk hk2)
        by_cases hjc : j = c
        · rw [hjc, up_eq]; exact hf 67 _ (by decide) (fun q => absurd q.1 (by decide))
        · rw [up_nj hjc]; exact hj j j0 (by omega)
  refine z_aload_n rfl rfl ?_
  refine z_getI (bi := 3) rfl rfl rfl rfl ?_
  refine z_if_ne rfl (by omega) (fun h4 => ?_) (fun h4 => ?_)
  · refine z_aload_n rfl rfl ?_
    refine z_dup rfl rfl ?_
    refine z_getI (bi := 3) rfl rfl rfl rfl ?_
    refine z_iconst rfl ?_
    refine z_isub rfl ?_
    refine z_putI (bi := 3) rfl rfl rfl rfl rfl ?_
    refine z_iconst rfl ?_
    refine z_istore_n rfl rfl rfl ?_
    exact KB 81 0 _ (by decide) (by decide) (by rw [up_eq]) (fun j j0 j1 => absurd j1 (by omega)) (fun k j hk hk2 => by unfold up; rw [if_neg hk2])
  · exfalso; omega
theorem m_setCost_bad {Z : ZW} {J : Int64} {x c : Int} (hx : RG x) (hc : RG c) (h : ¬ ((0 ≤ x ∧ x ≤ 7) ∧ 1 ≤ c ∧ c ≤ 9)) : D 112 [.ref 64, .int (I x), .int (I c)] Z J (some (.int (I (-2)))) (mf Z (-2)) J := by
  unfold D Mz
  refine z_iload_n rfl rfl ?_
  refine z_iconst rfl ?_
  refine z_bipush rfl (by decide) ?_
  refine z_callS3 rfl rfl rfl rfl (m_within (by omega) (by omega) (by omega)) ?_
  refine z_ifb_eq rfl (fun h7 => ?_) (fun h7 => ?_)
  · refine z_aload_n rfl rfl ?_
    refine z_bipush rfl (by decide) ?_
    refine z_callV1 rfl rfl rfl rfl rfl rfl (m_counts (by omega)) ?_
    exact z_iret rfl rfl ⟨rfl, rfl, rfl⟩
  · refine z_iload_n rfl rfl ?_
    refine z_iconst rfl ?_
    refine z_bipush rfl (by decide) ?_
    refine z_callS3 rfl rfl rfl rfl (m_within (by omega) (by omega) (by omega)) ?_
    refine z_ifb_ne rfl (fun h17 => ?_) (fun h17 => ?_)
    · exact absurd ⟨of_decide_eq_true h7, of_decide_eq_true h17⟩ h
    · refine z_aload_n rfl rfl ?_
      refine z_bipush rfl (by decide) ?_
      refine z_callV1 rfl rfl rfl rfl rfl rfl (m_counts (by omega)) ?_
      exact z_iret rfl rfl ⟨rfl, rfl, rfl⟩
theorem m_setCost {Z : ZW} {J : Int64} {x c : Int} (hs : 0 ≤ Z 64 3 ∧ Z 64 3 ≤ 5) (hx : 0 ≤ x ∧ x ≤ 7) (hc : 1 ≤ c ∧ c ≤ 9) : Mz 112 [.ref 64, .int (I x), .int (I c)] Z J (fun r Z' J' => J' = J ∧ r = (some (.int (I (Z 65 (73 + x))))) ∧ ∃ Z1, MSV Z Z1 ∧ Z' = up Z1 65 (73 + x) c) := by
  unfold Mz
  refine z_iload_n rfl rfl ?_
  refine z_iconst rfl ?_
  refine z_bipush rfl (by decide) ?_
  refine z_callS3 rfl rfl rfl rfl (m_within (by omega) (by omega) (by omega)) ?_
  refine z_ifb_eq rfl (fun h7 => ?_) (fun h7 => ?_)
  · exact absurd hx (of_decide_eq_false h7)
  · refine z_iload_n rfl rfl ?_
    refine z_iconst rfl ?_
    refine z_bipush rfl (by decide) ?_
    refine z_callS3 rfl rfl rfl rfl (m_within (by omega) (by omega) (by omega)) ?_
    refine z_ifb_ne rfl (fun h17 => ?_) (fun h17 => ?_)
    · refine z_aload_n rfl rfl ?_
      refine z_callV0g rfl rfl rfl rfl rfl rfl (m_saves hs) (fun r28 Z28 J28 q28 => ?_)
      obtain ⟨rfl, rfl, w⟩ := q28
      show OkZ none 112 31 _ [] _ _ _
      refine z_aload_n rfl rfl ?_
      refine z_getR rfl rfl rfl rfl ?_
      refine z_bipush rfl (by decide) ?_
      refine z_iload_n rfl rfl ?_
      refine z_iadd rfl ?_
      refine z_iald rfl rfl (by omega) ?_
      rw [w.2.2.2 65 _ (by decide) (fun q => absurd q.1 (by decide))]
      refine z_istore_n rfl rfl rfl ?_
      refine z_aload_n rfl rfl ?_
      refine z_getR rfl rfl rfl rfl ?_
      refine z_bipush rfl (by decide) ?_
      refine z_iload_n rfl rfl ?_
      refine z_iadd rfl ?_
      refine z_iload_n rfl rfl ?_
      refine z_iast rfl rfl (by omega) ?_
      refine z_iload_n rfl rfl ?_
      exact z_iret rfl rfl ⟨rfl, rfl, _, w, rfl⟩
    · exact absurd hc (of_decide_eq_false h17)
