/-! the reference: assemble -/
def MSH (Z Z' : ZW) : Prop := Z' 64 3 = (if Z 64 3 < 5 then Z 64 3 + 1 else 5) ∧ (∀ j, 0 ≤ j → j < (81 : Int) → Z' 67 (81 * (if Z 64 3 < 5 then Z 64 3 else 4) + j) = Z 65 j) ∧ (∀ x, 0 ≤ x → x < 81 * (if Z 64 3 < 5 then Z 64 3 else 4) → Z' 67 x = Z 67 (if Z 64 3 < 5 then x else x + 81))
theorem mcu_end {Z : ZW} (h : MTX Z) {p : Int} (hp : 0 ≤ p) : cuF (Z 69) (Z 64 6) p = -1 ↔ Z 64 6 ≤ p := by
  constructor
  · intro q
    by_cases hl : p < Z 64 6
    · have := h.2 p hp hl
      rw [cuF, if_pos ⟨hp, hl⟩] at q
      omega
    · omega
  · intro q
    rw [cuF, if_neg (by omega)]
set_option maxHeartbeats 2000000 in
theorem m_assemble {Z : ZW} {J : Int64} (ht : MTX Z) (hs : 0 ≤ Z 64 3 ∧ Z 64 3 ≤ 5) : Mz 111 [.ref 64] Z J (fun r Z' J' => J' = J ∧ ((∃ e, (0 ≤ e ∧ e ≤ Z 64 6) ∧ r = (some (.int (I (-10 - e)))) ∧ TRbad (cuF (Z 69) (Z 64 6)) (Z 64 6) e ∧ (∀ (k : Nat) (j : Int), k ≠ 66 → ¬ (k = 64 ∧ (j = 7 ∨ j = 8)) → Z' k j = Z k j)) ∨ ∃ n : Nat, r = (some (.int (I ((n : Int))))) ∧ n ≤ 24 ∧ TRok (cuF (Z 69) (Z 64 6)) (Z 64 6) n ∧ Z' 65 0 = n ∧ (∀ j : Int, 0 ≤ j → j < ((n : Nat) : Int) → Z' 65 (1 + j) = prO (cuF (Z 69) (Z 64 6)) (Z 64 6) j ∧ Z' 65 (25 + j) = prA (cuF (Z 69) (Z 64 6)) (Z 64 6) j ∧ Z' 65 (49 + j) = prB (cuF (Z 69) (Z 64 6)) (Z 64 6) j) ∧ (∀ j : Int, 73 ≤ j → j < 81 → Z' 65 j = Z 65 j) ∧ MSH Z Z' ∧ ∀ (k : Nat) (j : Int), k ≠ 65 → k ≠ 66 → k ≠ 67 → ¬ (k = 64 ∧ (j = 3 ∨ j = 7 ∨ j = 8)) → Z' k j = Z k j)) := by
  unfold Mz
  have hl := ht.1
  have KC : ∀ (n : Nat) (d : Nat) (c : Int) (W Z' : ZW), n ≤ 24 → TRok (cuF (Z 69) (Z 64 6)) (Z 64 6) n → W 66 0 = n → (∀ j : Int, 0 ≤ j → j < ((n : Nat) : Int) → W 66 (1 + j) = prO (cuF (Z 69) (Z 64 6)) (Z 64 6) j ∧ W 66 (25 + j) = prA (cuF (Z 69) (Z 64 6)) (Z 64 6) j ∧ W 66 (49 + j) = prB (cuF (Z 69) (Z 64 6)) (Z 64 6) j) → (∀ j : Int, 73 ≤ j → j < 81 → W 66 j = Z 65 j) → 0 ≤ c → c + d = 81 → (∀ j, 0 ≤ j → j < c → Z' 65 j = W 66 j) → Z' 66 = W 66 → MSH Z Z' → (∀ (k : Nat) (j : Int), k ≠ 65 → k ≠ 66 → k ≠ 67 → ¬ (k = 64 ∧ (j = 3 ∨ j = 7 ∨ j = 8)) → Z' k j = Z k j) → OkZ none 111 77 [some (.ref 64), some (.int (I c))] [] Z' J (fun r Z' J' => J' = J ∧ ((∃ e, (0 ≤ e ∧ e ≤ Z 64 6) ∧ r = (some (.int (I (-10 - e)))) ∧ TRbad (cuF (Z 69) (Z 64 6)) (Z 64 6) e ∧ (∀ (k : Nat) (j : Int), k ≠ 66 → ¬ (k = 64 ∧ (j = 7 ∨ j = 8)) → Z' k j = Z k j)) ∨ ∃ n : Nat, r = (some (.int (I ((n : Int))))) ∧ n ≤ 24 ∧ TRok (cuF (Z 69) (Z 64 6)) (Z 64 6) n ∧ Z' 65 0 = n ∧ (∀ j : Int, 0 ≤ j → j < ((n : Nat) : Int) → Z' 65 (1 + j) = prO (cuF (Z 69) (Z 64 6)) (Z 64 6) j ∧ Z' 65 (25 + j) = prA (cuF (Z 69) (Z 64 6)) (Z 64 6) j ∧ Z' 65 (49 + j) = prB (cuF (Z 69) (Z 64 6)) (Z 64 6) j) ∧ (∀ j : Int, 73 ≤ j → j < 81 → Z' 65 j = Z 65 j) ∧ MSH Z Z' ∧ ∀ (k : Nat) (j : Int), k ≠ 65 → k ≠ 66 → k ≠ 67 → ¬ (k = 64 ∧ (j = 3 ∨ j = 7 ∨ j = 8)) → Z' k j = Z k j)) := by
    intro n d
    induction d with
    | zero =>
      intro c W Z' hn htr h0 hro hco c0 c1 hj h66 hm hf
      have e0 : Z' 65 0 = n := by rw [hj 0 (by decide) (by omega)]; exact h0
      refine z_iload_n rfl rfl ?_
      refine z_bipush rfl (by decide) ?_
      refine z_icmp_ge rfl (by omega) (by omega) (fun h80 => ?_) (fun h80 => ?_)
      · refine z_aload_n rfl rfl ?_
        refine z_getR rfl rfl rfl rfl ?_
        refine z_iconst rfl ?_
        refine z_iald rfl rfl (by omega) ?_
        rw [e0]
        refine z_iret rfl rfl ⟨rfl, Or.inr ⟨n, rfl, hn, htr, e0, fun j j0 j1 => ?_, fun j j0 j1 => ?_, hm, hf⟩⟩
        · rw [hj (1 + j) (by omega) (by omega), hj (25 + j) (by omega) (by omega), hj (49 + j) (by omega) (by omega)]; exact hro j j0 j1
        · rw [hj j (by omega) (by omega)]; exact hco j j0 j1
      · exfalso; omega
    | succ d ih =>
      intro c W Z' hn htr h0 hro hco c0 c1 hj h66 hm hf
      refine z_iload_n rfl rfl ?_
      refine z_bipush rfl (by decide) ?_
      refine z_icmp_ge rfl (by omega) (by omega) (fun h80 => ?_) (fun h80 => ?_)
      · exfalso; omega
      · refine z_aload_n rfl rfl ?_
        refine z_getR rfl rfl rfl rfl ?_
        refine z_iload_n rfl rfl ?_
        refine z_aload_n rfl rfl ?_
        refine z_getR rfl rfl rfl rfl ?_
        refine z_iload_n rfl rfl ?_
        refine z_iald rfl rfl (by omega) ?_
        refine z_iast rfl rfl (by omega) ?_
        refine z_iinc rfl rfl rfl rfl ?_
        refine z_goto rfl ?_
        refine ih (c + 1) W _ hn htr h0 hro hco (by omega) (by omega) (fun j j0 j1 => ?_) h66 ⟨by rw [up_ne (by decide)]; exact hm.1, fun j j0 j1 => by rw [up_ne (by decide)]; exact hm.2.1 j j0 j1, fun x x0 x1 => by rw [up_ne (by decide)]; exact hm.2.2 x x0 x1⟩ (fun k j k1 k2 k3 k4 => by rw [up_ne k1]; exact hf k j k1 k2 k3 k4)
        by_cases hjc : j = c
        · rw [hjc, up_eq, h66]
        · rw [up_nj hjc]; exact hj j j0 (by omega)
  have KL : ∀ (d n : Nat) (x1 : Int) (Z' : ZW), n + d = 24 → (∀ (k : Nat) (j : Int), k ≠ 66 → ¬ (k = 64 ∧ (j = 7 ∨ j = 8)) → Z' k j = Z k j) → Z' 64 7 = pos (cuF (Z 69) (Z 64 6)) (Z 64 6) n → (0 ≤ Z' 64 7 ∧ Z' 64 7 ≤ Z 64 6) → Z' 66 0 = n → TRp (cuF (Z 69) (Z 64 6)) (Z 64 6) n → (∀ j : Int, 0 ≤ j → j < ((n : Nat) : Int) → Z' 66 (1 + j) = prO (cuF (Z 69) (Z 64 6)) (Z 64 6) j ∧ Z' 66 (25 + j) = prA (cuF (Z 69) (Z 64 6)) (Z 64 6) j ∧ Z' 66 (49 + j) = prB (cuF (Z 69) (Z 64 6)) (Z 64 6) j) → (∀ j : Int, 73 ≤ j → j < 81 → Z' 66 j = Z 65 j) → OkZ none 111 45 [some (.ref 64), some (.int (I x1))] [] Z' J (fun r Z' J' => J' = J ∧ ((∃ e, (0 ≤ e ∧ e ≤ Z 64 6) ∧ r = (some (.int (I (-10 - e)))) ∧ TRbad (cuF (Z 69) (Z 64 6)) (Z 64 6) e ∧ (∀ (k : Nat) (j : Int), k ≠ 66 → ¬ (k = 64 ∧ (j = 7 ∨ j = 8)) → Z' k j = Z k j)) ∨ ∃ n : Nat, r = (some (.int (I ((n : Int))))) ∧ n ≤ 24 ∧ TRok (cuF (Z 69) (Z 64 6)) (Z 64 6) n ∧ Z' 65 0 = n ∧ (∀ j : Int, 0 ≤ j → j < ((n : Nat) : Int) → Z' 65 (1 + j) = prO (cuF (Z 69) (Z 64 6)) (Z 64 6) j ∧ Z' 65 (25 + j) = prA (cuF (Z 69) (Z 64 6)) (Z 64 6) j ∧ Z' 65 (49 + j) = prB (cuF (Z 69) (Z 64 6)) (Z 64 6) j) ∧ (∀ j : Int, 73 ≤ j → j < 81 → Z' 65 j = Z 65 j) ∧ MSH Z Z' ∧ ∀ (k : Nat) (j : Int), k ≠ 65 → k ≠ 66 → k ≠ 67 → ¬ (k = 64 ∧ (j = 3 ∨ j = 7 ∨ j = 8)) → Z' k j = Z k j)) := by
    intro d
    induction d with
    | zero =>
      intro n x1 Z' hd hf hp hp2 hn hpr hro hco
      obtain ⟨m1, m2, m3⟩ := MTX_of ht hf
      have hce := mcu_end ht hp2.1
      refine z_aload_n rfl rfl ?_
      refine z_getI (bi := 7) rfl rfl rfl rfl ?_
      refine z_aload_n rfl rfl ?_
      refine z_getI (bi := 6) rfl rfl rfl rfl ?_
      rw [m2]
      refine z_icmp_ge rfl (by omega) (by omega) (fun h53 => ?_) (fun h53 => ?_)
      · have hend := hce.mpr (by omega)
        rw [hp] at hend
        have g3 : Z' 64 3 = Z 64 3 := hf 64 3 (by decide) (by decide)
        have g65 : Z' 65 = Z 65 := funext fun j => hf 65 j (by decide) (fun q => absurd q.1 (by decide))
        have g67 : Z' 67 = Z 67 := funext fun j => hf 67 j (by decide) (fun q => absurd q.1 (by decide))
        refine z_aload_n rfl rfl ?_
        refine z_callV0g rfl rfl rfl rfl rfl rfl (m_saves (Z := Z') (by rw [g3]; exact hs)) (fun r72 Z72 J72 q72 => ?_)
        obtain ⟨rfl, rfl, w⟩ := q72
        show OkZ none 111 75 _ [] _ _ _
        refine z_iconst rfl ?_
        refine z_istore_n rfl rfl rfl ?_
        obtain ⟨b1, b2, b3, b4⟩ := w
        rw [g3] at b1 b2 b3
        rw [g65] at b2
        rw [g67] at b3
        refine KC n 81 0 Z' Z72 (by omega) ⟨hpr, hend⟩ hn hro hco (by decide) (by decide) (fun j j0 j1 => absurd j1 (by omega)) (funext fun j => b4 66 j (by decide) (fun q => absurd q.1 (by decide))) ⟨b1, b2, b3⟩ (fun k j k1 k2 k3 k4 => ?_)
        rw [b4 k j k3 (fun q => k4 ⟨q.1, Or.inl q.2⟩)]
        exact hf k j k2 (fun q => k4 ⟨q.1, Or.inr q.2⟩)
      · refine z_aload_n rfl rfl ?_
        refine z_callV0g rfl rfl rfl rfl rfl rfl (m_passI m1 rfl (by rw [m2]; exact hp2) hn (by omega)) (fun r57 Z57 J57 q57 => ?_)
        obtain ⟨rfl, rfl, v1, v2, v3⟩ := q57
        rw [m2] at v1 v3
        rw [m3] at v1 v3
        rw [m2, m3]
        obtain ⟨qi, ei⟩ : ∃ qi, qi = QI (cuF (Z 69) (Z 64 6)) (Z 64 6) n (Z' 64 7) := ⟨_, rfl⟩
        rw [← ei] at v1 v3
        rw [← ei]
        have hcm : (cuF (Z 69) (Z 64 6)) (Z' 64 7) ≠ -1 := fun q => by have := hce.mp q; omega
        show OkZ none 111 60 _ [_] _ _ _
        refine z_ifb_ne rfl (fun h60 => ?_) (fun h60 => ?_)
        · exfalso
          rw [QI_in (Or.inr (by omega))] at ei
          rw [ei] at h60
          cases h60
        · rw [if_neg (by rw [h60]; decide)] at v3
          refine z_bipush rfl (by decide) ?_
          refine z_aload_n rfl rfl ?_
          refine z_getI (bi := 7) rfl rfl rfl rfl ?_
          rw [v3]
          refine z_isub rfl ?_
          refine z_iret rfl rfl ⟨rfl, Or.inl ⟨qi.2, v1, rfl, ⟨n, hpr, ?_⟩, fun k j k1 k2 => by rw [v2 k j k1 k2]; exact hf k j k1 k2⟩⟩
          rw [← hp]
          refine ⟨hcm, ?_⟩
          rw [← ei]
          cases qi with
          | mk a b => cases a with
            | true => cases h60
            | false => rfl
    | succ d ih =>
      intro n x1 Z' hd hf hp hp2 hn hpr hro hco
      obtain ⟨m1, m2, m3⟩ := MTX_of ht hf
      have hce := mcu_end ht hp2.1
      refine z_aload_n rfl rfl ?_
      refine z_getI (bi := 7) rfl rfl rfl rfl ?_
      refine z_aload_n rfl rfl ?_
      refine z_getI (bi := 6) rfl rfl rfl rfl ?_
      rw [m2]
      refine z_icmp_ge rfl (by omega) (by omega) (fun h53 => ?_) (fun h53 => ?_)
      · have hend := hce.mpr (by omega)
        rw [hp] at hend
        have g3 : Z' 64 3 = Z 64 3 := hf 64 3 (by decide) (by decide)
        have g65 : Z' 65 = Z 65 := funext fun j => hf 65 j (by decide) (fun q => absurd q.1 (by decide))
        have g67 : Z' 67 = Z 67 := funext fun j => hf 67 j (by decide) (fun q => absurd q.1 (by decide))
        refine z_aload_n rfl rfl ?_
        refine z_callV0g rfl rfl rfl rfl rfl rfl (m_saves (Z := Z') (by rw [g3]; exact hs)) (fun r72 Z72 J72 q72 => ?_)
        obtain ⟨rfl, rfl, w⟩ := q72
        show OkZ none 111 75 _ [] _ _ _
        refine z_iconst rfl ?_
        refine z_istore_n rfl rfl rfl ?_
        obtain ⟨b1, b2, b3, b4⟩ := w
        rw [g3] at b1 b2 b3
        rw [g65] at b2
        rw [g67] at b3
        refine KC n 81 0 Z' Z72 (by omega) ⟨hpr, hend⟩ hn hro hco (by decide) (by decide) (fun j j0 j1 => absurd j1 (by omega)) (funext fun j => b4 66 j (by decide) (fun q => absurd q.1 (by decide))) ⟨b1, b2, b3⟩ (fun k j k1 k2 k3 k4 => ?_)
        rw [b4 k j k3 (fun q => k4 ⟨q.1, Or.inl q.2⟩)]
        exact hf k j k2 (fun q => k4 ⟨q.1, Or.inr q.2⟩)
      · refine z_aload_n rfl rfl ?_
        refine z_callV0g rfl rfl rfl rfl rfl rfl (m_passI m1 rfl (by rw [m2]; exact hp2) hn (by omega)) (fun r57 Z57 J57 q57 => ?_)
        obtain ⟨rfl, rfl, v1, v2, v3⟩ := q57
        rw [m2] at v1 v3
        rw [m3] at v1 v3
        rw [m2, m3]
        obtain ⟨qi, ei⟩ : ∃ qi, qi = QI (cuF (Z 69) (Z 64 6)) (Z 64 6) n (Z' 64 7) := ⟨_, rfl⟩
        rw [← ei] at v1 v3
        rw [← ei]
        have hcm : (cuF (Z 69) (Z 64 6)) (Z' 64 7) ≠ -1 := fun q => by have := hce.mp q; omega
        show OkZ none 111 60 _ [_] _ _ _
        refine z_ifb_ne rfl (fun h60 => ?_) (fun h60 => ?_)
        · rw [if_pos h60] at v3
          obtain ⟨y1, ⟨y2, y3, y4, y5⟩, y6⟩ := v3
          have hsk := skp_in (bt := Z 69) hl.1 v1.1 v1.2
          have f57 : ∀ (k : Nat) (j : Int), k ≠ 66 → ¬ (k = 64 ∧ (j = 7 ∨ j = 8)) → Z57 k j = Z k j := fun k j k1 k2 => by rw [v2 k j k1 k2]; exact hf k j k1 k2
          refine ih (n + 1) _ Z57 (by omega) f57 (by rw [y1, ei, hp]; rfl) (by rw [y1]; omega) (by rw [y2]; omega) (fun m hm => ?_) (fun j j0 j1 => ?_) (fun j j0 j1 => ?_)
          · by_cases hmn : m = n
            · rw [hmn, ← hp]; exact ⟨hcm, by rw [← ei]; exact h60⟩
            · exact hpr m (by omega)
          · by_cases hjn : j = (n : Int)
            · rw [hjn, y3, y4, y5, hp]; exact ⟨rfl, rfl, rfl⟩
            · rw [y6 (1 + j) (by omega) (by omega) (by omega) (by omega), y6 (25 + j) (by omega) (by omega) (by omega) (by omega), y6 (49 + j) (by omega) (by omega) (by omega) (by omega)]; exact hro j j0 (by omega)
          · rw [y6 j (by omega) (by omega) (by omega) (by omega)]; exact hco j j0 j1
        · rw [if_neg (by rw [h60]; decide)] at v3
          refine z_bipush rfl (by decide) ?_
          refine z_aload_n rfl rfl ?_
          refine z_getI (bi := 7) rfl rfl rfl rfl ?_
          rw [v3]
          refine z_isub rfl ?_
          refine z_iret rfl rfl ⟨rfl, Or.inl ⟨qi.2, v1, rfl, ⟨n, hpr, ?_⟩, fun k j k1 k2 => by rw [v2 k j k1 k2]; exact hf k j k1 k2⟩⟩
          rw [← hp]
          refine ⟨hcm, ?_⟩
          rw [← ei]
          cases qi with
          | mk a b => cases a with
            | true => cases h60
            | false => rfl
  have KZ : ∀ (d : Nat) (c : Int) (Z' : ZW), 0 ≤ c → c + d = 81 → (∀ (k : Nat) (j : Int), k ≠ 66 → Z' k j = Z k j) → (∀ j, 0 ≤ j → j < c → Z' 66 j = if 73 ≤ j then Z 65 j else 0) → OkZ none 111 2 [some (.ref 64), some (.int (I c))] [] Z' J (fun r Z' J' => J' = J ∧ ((∃ e, (0 ≤ e ∧ e ≤ Z 64 6) ∧ r = (some (.int (I (-10 - e)))) ∧ TRbad (cuF (Z 69) (Z 64 6)) (Z 64 6) e ∧ (∀ (k : Nat) (j : Int), k ≠ 66 → ¬ (k = 64 ∧ (j = 7 ∨ j = 8)) → Z' k j = Z k j)) ∨ ∃ n : Nat, r = (some (.int (I ((n : Int))))) ∧ n ≤ 24 ∧ TRok (cuF (Z 69) (Z 64 6)) (Z 64 6) n ∧ Z' 65 0 = n ∧ (∀ j : Int, 0 ≤ j → j < ((n : Nat) : Int) → Z' 65 (1 + j) = prO (cuF (Z 69) (Z 64 6)) (Z 64 6) j ∧ Z' 65 (25 + j) = prA (cuF (Z 69) (Z 64 6)) (Z 64 6) j ∧ Z' 65 (49 + j) = prB (cuF (Z 69) (Z 64 6)) (Z 64 6) j) ∧ (∀ j : Int, 73 ≤ j → j < 81 → Z' 65 j = Z 65 j) ∧ MSH Z Z' ∧ ∀ (k : Nat) (j : Int), k ≠ 65 → k ≠ 66 → k ≠ 67 → ¬ (k = 64 ∧ (j = 3 ∨ j = 7 ∨ j = 8)) → Z' k j = Z k j)) := by
    intro d
    induction d with
    | zero =>
      intro c Z' c0 c1 hf hj
      have e6 : Z' 64 6 = Z 64 6 := hf 64 6 (by decide)
      have e69 : Z' 69 = Z 69 := funext fun j => hf 69 j (by decide)
      have hsk := skp_in (bt := Z 69) hl.1 (Int.le_refl 0) hl.1
      have m0 : MTX Z' := ⟨by rw [e6]; exact ht.1, by rw [e6, e69]; exact ht.2⟩
      refine z_iload_n rfl rfl ?_
      refine z_bipush rfl (by decide) ?_
      refine z_icmp_ge rfl (by omega) (by omega) (fun h5 => ?_) (fun h5 => ?_)
      · refine z_aload_n rfl rfl ?_
        refine z_iconst rfl ?_
        refine z_putI (bi := 7) rfl rfl rfl rfl rfl ?_
        refine z_aload_n rfl rfl ?_
        refine z_callV0v rfl rfl rfl rfl rfl rfl (m_skips (p := 0) (MTX_up (by decide) m0) (by show 0 ≤ 0 ∧ 0 ≤ Z' 64 6; rw [e6]; omega) (by rw [up_eq])) ?_
        refine KL 24 0 _ _ rfl (fun k j k1 k2 => by rw [mp_other1 k2, mp_other1 k2]; exact hf k j k1) ?_ ?_ ?_ (fun m hm => absurd hm (Nat.not_lt_zero _)) (fun j j0 j1 => absurd j1 (by omega)) (fun j j0 j1 => ?_)
        · rw [up_eq]; show skp (cuF (Z' 69) (Z' 64 6)) (Z' 64 6) 0 = _; rw [e6, e69]; rfl
        · rw [up_eq]; show 0 ≤ skp (cuF (Z' 69) (Z' 64 6)) (Z' 64 6) 0 ∧ skp (cuF (Z' 69) (Z' 64 6)) (Z' 64 6) 0 ≤ _; rw [e6, e69]; exact hsk
        · rw [up_ne (by decide), up_ne (by decide), hj 0 (by decide) (by omega)]; rfl
        · rw [up_ne (by decide), up_ne (by decide), hj j (by omega) (by omega), if_pos j0]
      · exfalso; omega
    | succ d ih =>
      intro c Z' c0 c1 hf hj
      refine z_iload_n rfl rfl ?_
      refine z_bipush rfl (by decide) ?_
      refine z_icmp_ge rfl (by omega) (by omega) (fun h5 => ?_) (fun h5 => ?_)
      · exfalso; omega
      · refine z_aload_n rfl rfl ?_
        refine z_getR rfl rfl rfl rfl ?_
        refine z_iload_n rfl rfl ?_
        refine z_iload_n rfl rfl ?_
        refine z_bipush rfl (by decide) ?_
        refine z_icmp_ge rfl (by omega) (by omega) (fun h16 => ?_) (fun h16 => ?_)
        · refine z_aload_n rfl rfl ?_
          refine z_getR rfl rfl rfl rfl ?_
          refine z_iload_n rfl rfl ?_
          refine z_iald rfl rfl (by omega) ?_
          refine z_iast rfl rfl (by omega) ?_
          refine z_iinc rfl rfl rfl rfl ?_
          refine z_goto rfl ?_
          refine ih (c + 1) _ (by omega) (by omega) (fun k j hk => by rw [up_ne hk]; exact hf k j hk) (fun j j0 j1 => ?_)
          by_cases hjc : j = c
          · rw [hjc, up_eq, if_pos (by omega)]; exact hf 65 c (by decide)
          · rw [up_nj hjc]; exact hj j j0 (by omega)
        · refine z_iconst rfl ?_
          refine z_goto rfl ?_
          refine z_iast rfl rfl (by omega) ?_
          refine z_iinc rfl rfl rfl rfl ?_
          refine z_goto rfl ?_
          refine ih (c + 1) _ (by omega) (by omega) (fun k j hk => by rw [up_ne hk]; exact hf k j hk) (fun j j0 j1 => ?_)
          by_cases hjc : j = c
          · rw [hjc, up_eq, if_neg (by omega)]
          · rw [up_nj hjc]; exact hj j j0 (by omega)
  refine z_iconst rfl ?_
  refine z_istore_n rfl rfl rfl ?_
  exact KZ 81 0 Z (by decide) (by decide) (fun _ _ _ => rfl) (fun j j0 j1 => absurd j1 (by omega))
