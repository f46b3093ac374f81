/-! the reference: what follows a block -/
def GT (Z : ZW) (b x : Int) : ZW := if x < Z 65 0 then up Z 72 b (orI (Z 72 b) (bitv (Z 71 x))) else up Z 73 b 1
theorem m_goesTo {Z : ZW} {J : Int64} {b x : Int} (hn : 0 ≤ Z 65 0 ∧ Z 65 0 ≤ 24) (hb : 0 ≤ b ∧ b < 24) (hx : 0 ≤ x ∧ x ≤ 24) (hbl : x < Z 65 0 → 0 ≤ Z 71 x ∧ Z 71 x < 24) : D 118 [.ref 64, .int (I b), .int (I x)] Z J none (GT Z b x) J := by
  unfold D Mz
  refine z_iload_n rfl rfl ?_
  refine z_aload_n rfl rfl ?_
  refine z_getR rfl rfl rfl rfl ?_
  refine z_iconst rfl ?_
  refine z_iald rfl rfl (by omega) ?_
  refine z_icmp_ge rfl (by omega) (by omega) (fun h7 => ?_) (fun h7 => ?_)
  · refine z_aload_n rfl rfl ?_
    refine z_getR rfl rfl rfl rfl ?_
    refine z_iload_n rfl rfl ?_
    refine z_iconst rfl ?_
    refine z_zast rfl rfl (by omega) (by omega) ?_
    exact z_vret rfl rfl ⟨rfl, by rw [GT, if_neg (by omega)], rfl⟩
  · refine z_aload_n rfl rfl ?_
    refine z_getR rfl rfl rfl rfl ?_
    refine z_iload_n rfl rfl ?_
    refine z_dup2 rfl rfl rfl ?_
    refine z_iald rfl rfl (by omega) ?_
    refine z_iconst rfl ?_
    refine z_aload_n rfl rfl ?_
    refine z_getR rfl rfl rfl rfl ?_
    refine z_iload_n rfl rfl ?_
    refine z_iald rfl rfl (by omega) ?_
    refine z_ishl rfl (bitv_shl (hbl (by omega))) ?_
    refine z_ior rfl (I_orI _ _) ?_
    refine z_iast rfl rfl (by omega) ?_
    refine z_goto rfl ?_
    exact z_vret rfl rfl ⟨rfl, by rw [GT, if_pos (by omega)], rfl⟩
def LF (Z : ZW) (b l o t : Int) : ZW := if goB o = true then GT (if jmB o = true then GT (up (up Z 72 b 0) 73 b (if o = 7 then 1 else 0)) b t else (up (up Z 72 b 0) 73 b (if o = 7 then 1 else 0))) b (l + 1) else (if jmB o = true then GT (up (up Z 72 b 0) 73 b (if o = 7 then 1 else 0)) b t else (up (up Z 72 b 0) 73 b (if o = 7 then 1 else 0)))
theorem GT_65 {Z : ZW} {b x j : Int} {k : Nat} (hk : k ≠ 72 ∧ k ≠ 73) : GT Z b x k j = Z k j := by
  unfold GT
  split
  · rw [up_ne hk.1]
  · rw [up_ne hk.2]
theorem m_laysF {Z : ZW} {J : Int64} {b l o t : Int} (hn : 0 ≤ Z 65 0 ∧ Z 65 0 ≤ 24) (hb : 0 ≤ b ∧ b < 24) (hl : 0 ≤ l ∧ l < 24) (e1 : Z 65 (1 + l) = o) (e2 : Z 65 (49 + l) = t) (ho : 0 ≤ o ∧ o ≤ 7) (ht : jmB o = true → 0 ≤ t ∧ t ≤ 24) (hbl : ∀ x, 0 ≤ x → x < Z 65 0 → 0 ≤ Z 71 x ∧ Z 71 x < 24) : D 119 [.ref 64, .int (I b), .int (I l)] Z J none (LF Z b l o t) J := by
  unfold D Mz
  obtain ⟨Z1, h1⟩ : ∃ Z1, Z1 = (up (up Z 72 b 0) 73 b (if o = 7 then 1 else 0)) := ⟨_, rfl⟩
  have f1 : ∀ (k : Nat) (j : Int), k ≠ 72 → k ≠ 73 → Z1 k j = Z k j := fun k j k1 k2 => by rw [h1, up_ne k2, up_ne k1]
  obtain ⟨Z2, h2⟩ : ∃ Z2, Z2 = (if jmB o = true then GT Z1 b t else Z1) := ⟨_, rfl⟩
  have f2 : ∀ (k : Nat) (j : Int), k ≠ 72 → k ≠ 73 → Z2 k j = Z k j := fun k j k1 k2 => by
    rw [h2]
    split
    · rw [GT_65 ⟨k1, k2⟩]; exact f1 k j k1 k2
    · exact f1 k j k1 k2
  have hLF : LF Z b l o t = (if goB o = true then GT Z2 b (l + 1) else Z2) := by rw [h2, h1]; rfl
  rw [hLF]
  have K65 : OkZ none 119 65 [some (.ref 64), some (.int (I b)), some (.int (I l))] [] Z2 J (fun r Z' J' => r = none ∧ Z' = (if goB o = true then GT Z2 b (l + 1) else Z2) ∧ J' = J) := by
    have g1 : Z2 65 (1 + l) = o := by rw [f2 65 _ (by decide) (by decide)]; exact e1
    have gn : Z2 65 0 = Z 65 0 := f2 65 0 (by decide) (by decide)
    refine z_aload_n rfl rfl ?_
    refine z_getR rfl rfl rfl rfl ?_
    refine z_iconst rfl ?_
    refine z_iload_n rfl rfl ?_
    refine z_iadd rfl ?_
    refine z_iald rfl rfl (by omega) ?_
    rw [g1]
    refine z_iconst rfl ?_
    refine z_icmp_eq rfl (by omega) (by omega) (fun h74 => ?_) (fun h74 => ?_)
    · exact z_vret rfl rfl ⟨rfl, by rw [if_neg (fun q => by have := of_decide_eq_true q; omega)], rfl⟩
    · refine z_aload_n rfl rfl ?_
      refine z_getR rfl rfl rfl rfl ?_
      refine z_iconst rfl ?_
      refine z_iload_n rfl rfl ?_
      refine z_iadd rfl ?_
      refine z_iald rfl rfl (by omega) ?_
      rw [g1]
      refine z_bipush rfl (by decide) ?_
      refine z_icmp_eq rfl (by omega) (by omega) (fun h87 => ?_) (fun h87 => ?_)
      · exact z_vret rfl rfl ⟨rfl, by rw [if_neg (fun q => by have := of_decide_eq_true q; omega)], rfl⟩
      · refine z_aload_n rfl rfl ?_
        refine z_iload_n rfl rfl ?_
        refine z_iload_n rfl rfl ?_
        refine z_iconst rfl ?_
        refine z_iadd rfl ?_
        refine z_callV2v rfl rfl rfl rfl rfl rfl (m_goesTo (by rw [gn]; exact hn) hb (by omega) (fun q => by rw [f2 71 _ (by decide) (by decide)]; exact hbl _ (by omega) (by omega))) ?_
        exact z_vret rfl rfl ⟨rfl, by rw [if_pos (show goB o = true from decide_eq_true (by omega))], rfl⟩
  have K31 : OkZ none 119 31 [some (.ref 64), some (.int (I b)), some (.int (I l))] [] Z1 J (fun r Z' J' => r = none ∧ Z' = (if goB o = true then GT Z2 b (l + 1) else Z2) ∧ J' = J) := by
    have g1 : Z1 65 (1 + l) = o := by rw [f1 65 _ (by decide) (by decide)]; exact e1
    have g2 : Z1 65 (49 + l) = t := by rw [f1 65 _ (by decide) (by decide)]; exact e2
    have gn : Z1 65 0 = Z 65 0 := f1 65 0 (by decide) (by decide)
    refine z_aload_n rfl rfl ?_
    refine z_getR rfl rfl rfl rfl ?_
    refine z_iconst rfl ?_
    refine z_iload_n rfl rfl ?_
    refine z_iadd rfl ?_
    refine z_iald rfl rfl (by omega) ?_
    rw [g1]
    refine z_iconst rfl ?_
    refine z_icmp_eq rfl (by omega) (by omega) (fun h40 => ?_) (fun h40 => ?_)
    · have hjm : jmB o = true := decide_eq_true (by omega)
      have ht2 := ht hjm
      refine z_aload_n rfl rfl ?_
      refine z_iload_n rfl rfl ?_
      refine z_aload_n rfl rfl ?_
      refine z_getR rfl rfl rfl rfl ?_
      refine z_bipush rfl (by decide) ?_
      refine z_iload_n rfl rfl ?_
      refine z_iadd rfl ?_
      refine z_iald rfl rfl (by omega) ?_
      rw [g2]
      refine z_callV2v rfl rfl rfl rfl rfl rfl (m_goesTo (by rw [gn]; exact hn) hb ht2 (fun q => by rw [f1 71 _ (by decide) (by decide)]; exact hbl _ (by omega) (by omega))) ?_
      rw [if_pos hjm] at h2
      rw [← h2]
      exact K65
    · refine z_aload_n rfl rfl ?_
      refine z_iload_n rfl rfl ?_
      refine z_callV1 rfl rfl rfl rfl rfl rfl (m_isBranch (by omega) (by rw [g1]; exact ho)) ?_
      refine z_ifb_eq rfl (fun h48 => ?_) (fun h48 => ?_)
      · have hb2 := of_decide_eq_false h48
        rw [g1] at hb2
        rw [if_neg (fun q => by have := of_decide_eq_true q; omega)] at h2
        rw [← h2]
        exact K65
      · have hb2 := of_decide_eq_true h48
        rw [g1] at hb2
        have hjm : jmB o = true := decide_eq_true (by omega)
        have ht2 := ht hjm
        refine z_aload_n rfl rfl ?_
        refine z_iload_n rfl rfl ?_
        refine z_aload_n rfl rfl ?_
        refine z_getR rfl rfl rfl rfl ?_
        refine z_bipush rfl (by decide) ?_
        refine z_iload_n rfl rfl ?_
        refine z_iadd rfl ?_
        refine z_iald rfl rfl (by omega) ?_
        rw [g2]
        refine z_callV2v rfl rfl rfl rfl rfl rfl (m_goesTo (by rw [gn]; exact hn) hb ht2 (fun q => by rw [f1 71 _ (by decide) (by decide)]; exact hbl _ (by omega) (by omega))) ?_
        rw [if_pos hjm] at h2
        rw [← h2]
        exact K65
  refine z_aload_n rfl rfl ?_
  refine z_getR rfl rfl rfl rfl ?_
  refine z_iload_n rfl rfl ?_
  refine z_iconst rfl ?_
  refine z_iast rfl rfl (by omega) ?_
  refine z_aload_n rfl rfl ?_
  refine z_getR rfl rfl rfl rfl ?_
  refine z_iload_n rfl rfl ?_
  refine z_aload_n rfl rfl ?_
  refine z_getR rfl rfl rfl rfl ?_
  refine z_iconst rfl ?_
  refine z_iload_n rfl rfl ?_
  refine z_iadd rfl ?_
  refine z_iald rfl rfl (by omega) ?_
  rw [up_ne (by decide), e1]
  refine z_bipush rfl (by decide) ?_
  refine z_icmp_ne rfl (by omega) (by omega) (fun h22 => ?_) (fun h22 => ?_)
  · refine z_iconst rfl ?_
    refine z_zast rfl rfl (by omega) (by omega) ?_
    rw [if_neg h22] at h1
    rw [← h1]
    exact K31
  · refine z_iconst rfl ?_
    refine z_goto rfl ?_
    refine z_zast rfl rfl (by omega) (by omega) ?_
    rw [if_pos h22] at h1
    rw [← h1]
    exact K31
