/-! the class: Prices, sums and entries -/
def bcF (ic bl : FI) : Nat → Int → Int
  | 0, _ => 0
  | t + 1, b => if bl t = b then bcF ic bl t b + ic t else bcF ic bl t b
def ccF (H C : FI) : Nat → Int → Int
  | 0, _ => 0
  | t + 1, h => if H t = h then ccF H C t h + C t else ccF H C t h
def beF (st V : FI) : Nat → Int → Int
  | 0, _ => 0
  | t + 1, i => if st t = i then V t else beF st V t i
theorem s_costAt {Z : ZW} {J : Int64} {x : Int} (hs : 0 ≤ Z 4 0 ∧ Z 4 0 ≤ 24) (hx : 0 ≤ x ∧ x < Z 4 0) (ho : 0 ≤ Z 5 x ∧ Z 5 x ≤ 7) : D 50 [.ref 3, .int (I x)] Z J (some (.int (I (Z 8 (Z 5 x))))) Z J := by
  unfold D Mz
  refine z_aload_n rfl rfl ?_
  refine z_iload_n rfl rfl ?_
  refine z_callV1 rfl rfl rfl rfl rfl rfl (s_has (by omega) hs) ?_
  refine z_ifb_eq rfl (fun h5 => ?_) (fun h5 => ?_)
  · exact absurd hx (of_decide_eq_false h5)
  · refine z_aload_n rfl rfl ?_
    refine z_getR rfl rfl rfl rfl ?_
    refine z_iload_n rfl rfl ?_
    refine z_iald rfl rfl (by omega) ?_
    refine z_goto rfl ?_
    refine z_istore_n rfl rfl rfl ?_
    refine z_iload_n rfl rfl ?_
    refine z_if_lt rfl (by omega) (fun h20 => ?_) (fun h20 => ?_)
    · exfalso; omega
    · refine z_iload_n rfl rfl ?_
      refine z_bipush rfl (by decide) ?_
      refine z_icmp_ge rfl (by omega) (by omega) (fun h26 => ?_) (fun h26 => ?_)
      · exfalso; omega
      · refine z_aload_n rfl rfl ?_
        refine z_getR rfl rfl rfl rfl ?_
        refine z_iload_n rfl rfl ?_
        refine z_iald rfl rfl (by omega) ?_
        refine z_goto rfl ?_
        exact z_iret rfl rfl ⟨rfl, rfl, rfl⟩
theorem s_wayFrom {Z : ZW} {J : Int64} {x : Int} (hx : RG x) (hs : 0 ≤ Z 14 0 ∧ Z 14 0 ≤ 24) : D 55 [.ref 24, .ref 13, .int (I x)] Z J (some (.int (I (if 0 ≤ x ∧ x < Z 14 0 then Z 31 x else -1)))) Z J := by
  unfold D Mz
  refine z_aload_n rfl rfl ?_
  refine z_iload_n rfl rfl ?_
  refine z_callV1 rfl rfl rfl rfl rfl rfl (s_ghas hx hs) ?_
  refine z_ifb_eq rfl (fun h5 => ?_) (fun h5 => ?_)
  · refine z_iconst rfl ?_
    exact z_iret rfl rfl ⟨by rw [if_neg (of_decide_eq_false h5)], rfl, rfl⟩
  · refine z_aload_n rfl rfl ?_
    refine z_getR rfl rfl rfl rfl ?_
    refine z_iload_n rfl rfl ?_
    refine z_iald rfl rfl (by have := of_decide_eq_true h5; omega) ?_
    refine z_goto rfl ?_
    exact z_iret rfl rfl ⟨by rw [if_pos (of_decide_eq_true h5)], rfl, rfl⟩
theorem s_entries0 {Z : ZW} {J : Int64} : D 14 [.ref 24, .int (I 0)] Z J (some (.ref 28)) Z J := by
  unfold D Mz
  refine z_iload_n rfl rfl ?_
  refine z_iconst rfl ?_
  refine z_icmp_ne rfl (by omega) (by omega) (fun h2 => ?_) (fun h2 => ?_)
  · refine z_iload_n rfl rfl ?_
    refine z_iconst rfl ?_
    refine z_icmp_ne rfl (by omega) (by omega) (fun h12 => ?_) (fun h12 => ?_)
    · refine z_aload_n rfl rfl ?_
      refine z_getR rfl rfl rfl rfl ?_
      first | exact z_aret rfl rfl (Or.inr ⟨_, rfl⟩) ⟨rfl, rfl, rfl⟩ | (exfalso; omega)
    · refine z_aload_n rfl rfl ?_
      refine z_getR rfl rfl rfl rfl ?_
      refine z_goto rfl ?_
      first | exact z_aret rfl rfl (Or.inr ⟨_, rfl⟩) ⟨rfl, rfl, rfl⟩ | (exfalso; omega)
  · refine z_aload_n rfl rfl ?_
    refine z_getR rfl rfl rfl rfl ?_
    first | exact z_aret rfl rfl (Or.inr ⟨_, rfl⟩) ⟨rfl, rfl, rfl⟩ | (exfalso; omega)
theorem s_entries1 {Z : ZW} {J : Int64} : D 14 [.ref 24, .int (I 1)] Z J (some (.ref 29)) Z J := by
  unfold D Mz
  refine z_iload_n rfl rfl ?_
  refine z_iconst rfl ?_
  refine z_icmp_ne rfl (by omega) (by omega) (fun h2 => ?_) (fun h2 => ?_)
  · refine z_iload_n rfl rfl ?_
    refine z_iconst rfl ?_
    refine z_icmp_ne rfl (by omega) (by omega) (fun h12 => ?_) (fun h12 => ?_)
    · refine z_aload_n rfl rfl ?_
      refine z_getR rfl rfl rfl rfl ?_
      first | exact z_aret rfl rfl (Or.inr ⟨_, rfl⟩) ⟨rfl, rfl, rfl⟩ | (exfalso; omega)
    · refine z_aload_n rfl rfl ?_
      refine z_getR rfl rfl rfl rfl ?_
      refine z_goto rfl ?_
      first | exact z_aret rfl rfl (Or.inr ⟨_, rfl⟩) ⟨rfl, rfl, rfl⟩ | (exfalso; omega)
  · refine z_aload_n rfl rfl ?_
    refine z_getR rfl rfl rfl rfl ?_
    first | exact z_aret rfl rfl (Or.inr ⟨_, rfl⟩) ⟨rfl, rfl, rfl⟩ | (exfalso; omega)
theorem s_entries2 {Z : ZW} {J : Int64} : D 14 [.ref 24, .int (I 2)] Z J (some (.ref 30)) Z J := by
  unfold D Mz
  refine z_iload_n rfl rfl ?_
  refine z_iconst rfl ?_
  refine z_icmp_ne rfl (by omega) (by omega) (fun h2 => ?_) (fun h2 => ?_)
  · refine z_iload_n rfl rfl ?_
    refine z_iconst rfl ?_
    refine z_icmp_ne rfl (by omega) (by omega) (fun h12 => ?_) (fun h12 => ?_)
    · refine z_aload_n rfl rfl ?_
      refine z_getR rfl rfl rfl rfl ?_
      first | exact z_aret rfl rfl (Or.inr ⟨_, rfl⟩) ⟨rfl, rfl, rfl⟩ | (exfalso; omega)
    · refine z_aload_n rfl rfl ?_
      refine z_getR rfl rfl rfl rfl ?_
      refine z_goto rfl ?_
      first | exact z_aret rfl rfl (Or.inr ⟨_, rfl⟩) ⟨rfl, rfl, rfl⟩ | (exfalso; omega)
  · refine z_aload_n rfl rfl ?_
    refine z_getR rfl rfl rfl rfl ?_
    first | exact z_aret rfl rfl (Or.inr ⟨_, rfl⟩) ⟨rfl, rfl, rfl⟩ | (exfalso; omega)
theorem l_sumI2 {Z : ZW} {J : Int64} {n nb : Nat} (hn : Z 4 0 = n) (hn2 : n ≤ 24) (hnb : Z 14 0 = nb) (hnb2 : nb ≤ 24) (hop : ∀ i, 0 ≤ i → i < (n : Int) → 0 ≤ Z 5 i ∧ Z 5 i ≤ 7) (hbl : ∀ i, 0 ≤ i → i < (n : Int) → 0 ≤ Z 15 i ∧ Z 15 i < nb) : ∀ (d t : Nat) (x4 : Option Value) (Z' : ZW), t + d = n → (∀ i, 0 ≤ i → i < (t : Int) → Z' 27 i = Z 8 (Z 5 i)) → (∀ b, 0 ≤ b → b < (nb : Int) → Z' 25 b = bcF (fun i => Z 8 (Z 5 i)) (Z 15) t b) → (∀ (k : Nat) (j : Int), k ≠ 25 → k ≠ 27 → Z' k j = Z k j) → OkZ none 51 25 [some (.ref 24), some (.ref 3), some (.ref 13), some (.int (I t)), x4] [] Z' J (fun r Z' J' => r = none ∧ J' = J ∧ (∀ i, 0 ≤ i → i < (n : Int) → Z' 27 i = Z 8 (Z 5 i)) ∧ (∀ b, 0 ≤ b → b < (nb : Int) → Z' 25 b = bcF (fun i => Z 8 (Z 5 i)) (Z 15) n b) ∧ ∀ (k : Nat) (j : Int), k ≠ 25 → k ≠ 27 → Z' k j = Z k j) := by
  intro d
  induction d with
  | zero =>
    intro t x4 Z' ht h1 h2 hf
    have e4 : Z' 4 0 = n := by rw [hf 4 0 (by decide) (by decide)]; exact hn
    have e : t = n := by omega
    subst e
    refine z_iload_n rfl rfl ?_
    refine z_aload_n rfl rfl ?_
    refine z_getI (bi := 0) rfl rfl rfl rfl ?_
    refine z_icmp_ge rfl (by omega) (by omega) (fun h30 => ?_) (fun h30 => ?_)
    · exact z_vret rfl rfl ⟨rfl, rfl, h1, h2, hf⟩
    · omega
  | succ d ih =>
    intro t x4 Z' ht h1 h2 hf
    have e4 : Z' 4 0 = n := by rw [hf 4 0 (by decide) (by decide)]; exact hn
    have e14 : Z' 14 0 = nb := by rw [hf 14 0 (by decide) (by decide)]; exact hnb
    have e5 : Z' 5 t = Z 5 t := hf 5 _ (by decide) (by decide)
    have e8 : Z' 8 (Z 5 t) = Z 8 (Z 5 t) := hf 8 _ (by decide) (by decide)
    have e15 : Z' 15 t = Z 15 t := hf 15 _ (by decide) (by decide)
    have ho := hop t (by omega) (by omega)
    have hb := hbl t (by omega) (by omega)
    have hco : D 50 [.ref 3, .int (I (t : Int))] Z' J (some (.int (I (Z 8 (Z 5 t))))) Z' J := by
      have := s_costAt (Z := Z') (J := J) (x := t) (by omega) (by omega) (by rw [e5]; exact ho)
      rwa [e5, e8] at this
    obtain ⟨Z1, hZ1⟩ : ∃ Z1, Z1 = up Z' 27 t (Z 8 (Z 5 t)) := ⟨_, rfl⟩
    have f14 : Z1 14 0 = nb := by rw [hZ1]; simpa [up] using e14
    have f27 : Z1 27 t = Z 8 (Z 5 t) := by rw [hZ1]; simp [up]
    have f25 : ∀ b, Z1 25 b = Z' 25 b := by intro b; rw [hZ1]; simp [up]
    refine z_iload_n rfl rfl ?_
    refine z_aload_n rfl rfl ?_
    refine z_getI (bi := 0) rfl rfl rfl rfl ?_
    refine z_icmp_ge rfl (by omega) (by omega) (fun h30 => ?_) (fun h30 => ?_)
    · omega
    · refine z_aload_n rfl rfl ?_
      refine z_getR rfl rfl rfl rfl ?_
      refine z_iload_n rfl rfl ?_
      refine z_iald rfl rfl (by omega) ?_
      refine z_istore rfl rfl rfl ?_
      refine z_aload_n rfl rfl ?_
      refine z_getR rfl rfl rfl rfl ?_
      refine z_iload_n rfl rfl ?_
      refine z_aload_n rfl rfl ?_
      refine z_iload_n rfl rfl ?_
      refine z_callV1 rfl rfl rfl rfl rfl rfl (hco) ?_
      refine z_iast rfl rfl (by omega) ?_
      rw [← hZ1]
      refine z_aload_n rfl rfl ?_
      refine z_iload rfl rfl ?_
      refine z_callV1 rfl rfl rfl rfl rfl rfl (s_ghas (by omega) (by omega)) ?_
      refine z_ifb_eq rfl (fun h58 => ?_) (fun h58 => ?_)
      · refine z_iinc rfl rfl rfl rfl ?_
        refine z_goto rfl ?_
        exact absurd hb (by rw [← e15, ← f14]; exact of_decide_eq_false h58)
      · refine z_aload_n rfl rfl ?_
        refine z_getR rfl rfl rfl rfl ?_
        refine z_iload rfl rfl ?_
        refine z_dup2 rfl rfl rfl ?_
        refine z_iald rfl rfl (by omega) ?_
        refine z_aload_n rfl rfl ?_
        refine z_getR rfl rfl rfl rfl ?_
        refine z_iload_n rfl rfl ?_
        refine z_iald rfl rfl (by omega) ?_
        refine z_iadd rfl ?_
        refine z_iast rfl rfl (by omega) ?_
        refine z_iinc rfl rfl rfl rfl ?_
        refine z_goto rfl ?_
        refine ih (t + 1) _ _ (by omega) ?_ ?_ ?_
        · intro i i0 i1
          by_cases hi : i = t
          · rw [hi]; simpa [up] using f27
          · have := h1 i i0 (by omega)
            rw [hZ1]; simp [up, hi, this]
        · intro b b0 b1
          show _ = if _ then _ else _
          by_cases hbb : Z 15 t = b
          · rw [if_pos hbb, ← h2 b b0 b1, ← hbb]
            simp [up, f25, f27, e15]
          · rw [if_neg hbb, ← h2 b b0 b1, ← f25]
            simp only [up]; rw [if_neg (fun z => hbb (by rw [← e15]; exact z.2.symm))]
        · intro k j k1 k2
          rw [hZ1]; simp only [up]; rw [if_neg (fun z => k1 z.1), if_neg (fun z => k2 z.1)]; exact hf k j k1 k2
theorem l_sumI1 {Z : ZW} {J : Int64} {n nb : Nat} (hn : Z 4 0 = n) (hn2 : n ≤ 24) (hnb : Z 14 0 = nb) (hnb2 : nb ≤ 24) (hop : ∀ i, 0 ≤ i → i < (n : Int) → 0 ≤ Z 5 i ∧ Z 5 i ≤ 7) (hbl : ∀ i, 0 ≤ i → i < (n : Int) → 0 ≤ Z 15 i ∧ Z 15 i < nb) : ∀ (d t : Nat) (Z' : ZW), t + d = nb → (∀ q, 0 ≤ q → q < (t : Int) → Z' 25 q = 0) → (∀ (k : Nat) (j : Int), k ≠ 25 → Z' k j = Z k j) → OkZ none 51 2 [some (.ref 24), some (.ref 3), some (.ref 13), some (.int (I t)), none] [] Z' J (fun r Z' J' => r = none ∧ J' = J ∧ (∀ i, 0 ≤ i → i < (n : Int) → Z' 27 i = Z 8 (Z 5 i)) ∧ (∀ b, 0 ≤ b → b < (nb : Int) → Z' 25 b = bcF (fun i => Z 8 (Z 5 i)) (Z 15) n b) ∧ ∀ (k : Nat) (j : Int), k ≠ 25 → k ≠ 27 → Z' k j = Z k j) := by
  intro d
  induction d with
  | zero =>
    intro t Z' ht h1 hf
    have e14 : Z' 14 0 = nb := by rw [hf 14 0 (by decide)]; exact hnb
    have e : t = nb := by omega
    subst e
    refine z_iload_n rfl rfl ?_
    refine z_aload_n rfl rfl ?_
    refine z_getI (bi := 0) rfl rfl rfl rfl ?_
    refine z_icmp_ge rfl (by omega) (by omega) (fun h7 => ?_) (fun h7 => ?_)
    · refine z_iconst rfl ?_
      refine z_istore_n rfl rfl rfl ?_
      exact l_sumI2 hn hn2 hnb hnb2 hop hbl n 0 _ Z' (by omega) (fun i i0 i1 => absurd i1 (by omega)) h1 (fun k j k1 _ => hf k j k1)
    · omega
  | succ d ih =>
    intro t Z' ht h1 hf
    have e14 : Z' 14 0 = nb := by rw [hf 14 0 (by decide)]; exact hnb
    refine z_iload_n rfl rfl ?_
    refine z_aload_n rfl rfl ?_
    refine z_getI (bi := 0) rfl rfl rfl rfl ?_
    refine z_icmp_ge rfl (by omega) (by omega) (fun h7 => ?_) (fun h7 => ?_)
    · omega
    · refine z_aload_n rfl rfl ?_
      refine z_getR rfl rfl rfl rfl ?_
      refine z_iload_n rfl rfl ?_
      refine z_iconst rfl ?_
      refine z_iast rfl rfl (by omega) ?_
      refine z_iinc rfl rfl rfl rfl ?_
      refine z_goto rfl ?_
      refine ih (t + 1) _ (by omega) ?_ ?_
      · intro q q0 q1
        by_cases hq : q = t
        · simp [up, hq]
        · simp only [up]; rw [if_neg (fun z => hq z.2)]; exact h1 q q0 (by omega)
      · intro k j hk
        simp only [up]; rw [if_neg (fun q => hk q.1)]; exact hf k j hk
theorem s_sumI {Z : ZW} {J : Int64} {n nb : Nat} (hn : Z 4 0 = n) (hn2 : n ≤ 24) (hnb : Z 14 0 = nb) (hnb2 : nb ≤ 24) (hop : ∀ i, 0 ≤ i → i < (n : Int) → 0 ≤ Z 5 i ∧ Z 5 i ≤ 7) (hbl : ∀ i, 0 ≤ i → i < (n : Int) → 0 ≤ Z 15 i ∧ Z 15 i < nb) : Mz 51 [.ref 24, .ref 3, .ref 13] Z J (fun r Z' J' => r = none ∧ J' = J ∧ (∀ i, 0 ≤ i → i < (n : Int) → Z' 27 i = Z 8 (Z 5 i)) ∧ (∀ b, 0 ≤ b → b < (nb : Int) → Z' 25 b = bcF (fun i => Z 8 (Z 5 i)) (Z 15) n b) ∧ ∀ (k : Nat) (j : Int), k ≠ 25 → k ≠ 27 → Z' k j = Z k j) := by
  unfold Mz
  refine z_iconst rfl ?_
  refine z_istore_n rfl rfl rfl ?_
  exact l_sumI1 hn hn2 hnb hnb2 hop hbl nb 0 Z (by omega) (fun q q0 q1 => absurd q1 (by omega)) (fun _ _ _ => rfl)
theorem l_sumC3 {Z : ZW} {J : Int64} {nb : Nat} (hnb : Z 14 0 = nb) (hnb2 : nb ≤ 24) (hH : ∀ b, 0 ≤ b → b < (nb : Int) → 0 ≤ Z 20 b ∧ Z 20 b < nb) (hHH : ∀ b, 0 ≤ b → b < (nb : Int) → Z 20 (Z 20 b) = Z 20 b) : ∀ (d t : Nat) (x3 : Option Value) (Z' : ZW), t + d = nb → (∀ b, 0 ≤ b → b < (t : Int) → Z' 26 b = ccF (Z 20) (Z 25) nb (Z 20 b)) → (∀ b, 0 ≤ b → b < (nb : Int) → (Z 20 b = b ∨ (t : Int) ≤ b) → Z' 26 b = ccF (Z 20) (Z 25) nb b) → (∀ (k : Nat) (j : Int), k ≠ 26 → Z' k j = Z k j) → OkZ none 52 71 [some (.ref 24), some (.ref 13), some (.int (I t)), x3] [] Z' J (fun r Z' J' => r = none ∧ J' = J ∧ (∀ b, 0 ≤ b → b < (nb : Int) → Z' 26 b = ccF (Z 20) (Z 25) nb (Z 20 b)) ∧ ∀ (k : Nat) (j : Int), k ≠ 26 → Z' k j = Z k j) := by
  intro d
  induction d with
  | zero =>
    intro t x3 Z' ht h1 h2 hf
    have e14 : Z' 14 0 = nb := by rw [hf 14 0 (by decide)]; exact hnb
    have e : t = nb := by omega
    subst e
    refine z_iload_n rfl rfl ?_
    refine z_aload_n rfl rfl ?_
    refine z_getI (bi := 0) rfl rfl rfl rfl ?_
    refine z_icmp_ge rfl (by omega) (by omega) (fun h76 => ?_) (fun h76 => ?_)
    · exact z_vret rfl rfl ⟨rfl, rfl, h1, hf⟩
    · omega
  | succ d ih =>
    intro t x3 Z' ht h1 h2 hf
    have e14 : Z' 14 0 = nb := by rw [hf 14 0 (by decide)]; exact hnb
    have e20 : Z' 20 t = Z 20 t := hf 20 _ (by decide)
    have hh := hH t (by omega) (by omega)
    have hhh := hHH t (by omega) (by omega)
    have hv : Z' 26 (Z 20 t) = ccF (Z 20) (Z 25) nb (Z 20 t) := h2 _ hh.1 hh.2 (Or.inl hhh)
    refine z_iload_n rfl rfl ?_
    refine z_aload_n rfl rfl ?_
    refine z_getI (bi := 0) rfl rfl rfl rfl ?_
    refine z_icmp_ge rfl (by omega) (by omega) (fun h76 => ?_) (fun h76 => ?_)
    · omega
    · refine z_aload_n rfl rfl ?_
      refine z_getR rfl rfl rfl rfl ?_
      refine z_iload_n rfl rfl ?_
      refine z_iald rfl rfl (by omega) ?_
      refine z_istore_n rfl rfl rfl ?_
      refine z_aload_n rfl rfl ?_
      refine z_getR rfl rfl rfl rfl ?_
      refine z_iload_n rfl rfl ?_
      refine z_aload_n rfl rfl ?_
      refine z_iload_n rfl rfl ?_
      refine z_callV1 rfl rfl rfl rfl rfl rfl (s_ghas (by rw [e20]; omega) (by omega)) ?_
      refine z_ifb_eq rfl (fun h96 => ?_) (fun h96 => ?_)
      · exact absurd hh (by rw [← e20, ← e14]; exact of_decide_eq_false h96)
      · refine z_aload_n rfl rfl ?_
        refine z_getR rfl rfl rfl rfl ?_
        refine z_iload_n rfl rfl ?_
        refine z_iald rfl rfl (by rw [e20]; omega) ?_
        refine z_goto rfl ?_
        refine z_iast rfl rfl (by omega) ?_
        refine z_iinc rfl rfl rfl rfl ?_
        refine z_goto rfl ?_
        refine ih (t + 1) _ _ (by omega) ?_ ?_ ?_
        · intro b b0 b1
          by_cases hb : b = t
          · rw [hb]; simp only [up]; rw [if_pos ⟨trivial, trivial⟩, e20]; exact hv
          · simp only [up]; rw [if_neg (fun z => hb z.2)]; exact h1 b b0 (by omega)
        · intro b b0 b1 hc
          by_cases hb : b = t
          · have hc2 : Z 20 b = b := hc.elim id (fun h => absurd h (by omega))
            rw [hb] at hc2 ⊢
            simp only [up]; rw [if_pos ⟨trivial, trivial⟩, e20, hc2]; rw [hc2] at hv; exact hv
          · simp only [up]; rw [if_neg (fun z => hb z.2)]; exact h2 b b0 b1 (hc.elim Or.inl (fun h => Or.inr (by omega)))
        · intro k j hk
          simp only [up]; rw [if_neg (fun q => hk q.1)]; exact hf k j hk
theorem l_sumC2 {Z : ZW} {J : Int64} {nb : Nat} (hnb : Z 14 0 = nb) (hnb2 : nb ≤ 24) (hH : ∀ b, 0 ≤ b → b < (nb : Int) → 0 ≤ Z 20 b ∧ Z 20 b < nb) (hHH : ∀ b, 0 ≤ b → b < (nb : Int) → Z 20 (Z 20 b) = Z 20 b) : ∀ (d t : Nat) (x3 : Option Value) (Z' : ZW), t + d = nb → (∀ b, 0 ≤ b → b < (nb : Int) → Z' 26 b = ccF (Z 20) (Z 25) t b) → (∀ (k : Nat) (j : Int), k ≠ 26 → Z' k j = Z k j) → OkZ none 52 25 [some (.ref 24), some (.ref 13), some (.int (I t)), x3] [] Z' J (fun r Z' J' => r = none ∧ J' = J ∧ (∀ b, 0 ≤ b → b < (nb : Int) → Z' 26 b = ccF (Z 20) (Z 25) nb (Z 20 b)) ∧ ∀ (k : Nat) (j : Int), k ≠ 26 → Z' k j = Z k j) := by
  intro d
  induction d with
  | zero =>
    intro t x3 Z' ht h1 hf
    have e14 : Z' 14 0 = nb := by rw [hf 14 0 (by decide)]; exact hnb
    have e : t = nb := by omega
    subst e
    refine z_iload_n rfl rfl ?_
    refine z_aload_n rfl rfl ?_
    refine z_getI (bi := 0) rfl rfl rfl rfl ?_
    refine z_icmp_ge rfl (by omega) (by omega) (fun h30 => ?_) (fun h30 => ?_)
    · refine z_iconst rfl ?_
      refine z_istore_n rfl rfl rfl ?_
      exact l_sumC3 hnb hnb2 hH hHH t 0 _ Z' (by omega) (fun b b0 b1 => absurd b1 (by omega)) (fun b b0 b1 _ => h1 b b0 b1) hf
    · omega
  | succ d ih =>
    intro t x3 Z' ht h1 hf
    have e14 : Z' 14 0 = nb := by rw [hf 14 0 (by decide)]; exact hnb
    have e20 : Z' 20 t = Z 20 t := hf 20 _ (by decide)
    have e25 : Z' 25 t = Z 25 t := hf 25 _ (by decide)
    have hh := hH t (by omega) (by omega)
    refine z_iload_n rfl rfl ?_
    refine z_aload_n rfl rfl ?_
    refine z_getI (bi := 0) rfl rfl rfl rfl ?_
    refine z_icmp_ge rfl (by omega) (by omega) (fun h30 => ?_) (fun h30 => ?_)
    · omega
    · refine z_aload_n rfl rfl ?_
      refine z_getR rfl rfl rfl rfl ?_
      refine z_iload_n rfl rfl ?_
      refine z_iald rfl rfl (by omega) ?_
      refine z_istore_n rfl rfl rfl ?_
      refine z_aload_n rfl rfl ?_
      refine z_iload_n rfl rfl ?_
      refine z_callV1 rfl rfl rfl rfl rfl rfl (s_ghas (by rw [e20]; omega) (by omega)) ?_
      refine z_ifb_eq rfl (fun h45 => ?_) (fun h45 => ?_)
      · refine z_iinc rfl rfl rfl rfl ?_
        refine z_goto rfl ?_
        exact absurd hh (by rw [← e20, ← e14]; exact of_decide_eq_false h45)
      · refine z_aload_n rfl rfl ?_
        refine z_getR rfl rfl rfl rfl ?_
        refine z_iload_n rfl rfl ?_
        refine z_dup2 rfl rfl rfl ?_
        refine z_iald rfl rfl (by rw [e20]; omega) ?_
        refine z_aload_n rfl rfl ?_
        refine z_getR rfl rfl rfl rfl ?_
        refine z_iload_n rfl rfl ?_
        refine z_iald rfl rfl (by omega) ?_
        refine z_iadd rfl ?_
        refine z_iast rfl rfl (by rw [e20]; omega) ?_
        refine z_iinc rfl rfl rfl rfl ?_
        refine z_goto rfl ?_
        refine ih (t + 1) _ _ (by omega) ?_ ?_
        · intro b b0 b1
          show _ = if _ then _ else _
          by_cases hb : Z 20 t = b
          · rw [if_pos hb, ← h1 b b0 b1, ← hb, ← e25, ← e20]
            simp [up]
          · rw [if_neg hb, ← h1 b b0 b1]
            simp only [up]; rw [if_neg (fun z => hb (by rw [← e20]; exact z.2.symm))]
        · intro k j hk
          simp only [up]; rw [if_neg (fun q => hk q.1)]; exact hf k j hk
theorem l_sumC1 {Z : ZW} {J : Int64} {nb : Nat} (hnb : Z 14 0 = nb) (hnb2 : nb ≤ 24) (hH : ∀ b, 0 ≤ b → b < (nb : Int) → 0 ≤ Z 20 b ∧ Z 20 b < nb) (hHH : ∀ b, 0 ≤ b → b < (nb : Int) → Z 20 (Z 20 b) = Z 20 b) : ∀ (d t : Nat) (Z' : ZW), t + d = nb → (∀ q, 0 ≤ q → q < (t : Int) → Z' 26 q = 0) → (∀ (k : Nat) (j : Int), k ≠ 26 → Z' k j = Z k j) → OkZ none 52 2 [some (.ref 24), some (.ref 13), some (.int (I t)), none] [] Z' J (fun r Z' J' => r = none ∧ J' = J ∧ (∀ b, 0 ≤ b → b < (nb : Int) → Z' 26 b = ccF (Z 20) (Z 25) nb (Z 20 b)) ∧ ∀ (k : Nat) (j : Int), k ≠ 26 → Z' k j = Z k j) := by
  intro d
  induction d with
  | zero =>
    intro t Z' ht h1 hf
    have e14 : Z' 14 0 = nb := by rw [hf 14 0 (by decide)]; exact hnb
    have e : t = nb := by omega
    subst e
    refine z_iload_n rfl rfl ?_
    refine z_aload_n rfl rfl ?_
    refine z_getI (bi := 0) rfl rfl rfl rfl ?_
    refine z_icmp_ge rfl (by omega) (by omega) (fun h7 => ?_) (fun h7 => ?_)
    · refine z_iconst rfl ?_
      refine z_istore_n rfl rfl rfl ?_
      exact l_sumC2 hnb hnb2 hH hHH t 0 _ Z' (by omega) h1 hf
    · omega
  | succ d ih =>
    intro t Z' ht h1 hf
    have e14 : Z' 14 0 = nb := by rw [hf 14 0 (by decide)]; exact hnb
    refine z_iload_n rfl rfl ?_
    refine z_aload_n rfl rfl ?_
    refine z_getI (bi := 0) rfl rfl rfl rfl ?_
    refine z_icmp_ge rfl (by omega) (by omega) (fun h7 => ?_) (fun h7 => ?_)
    · omega
    · refine z_aload_n rfl rfl ?_
      refine z_getR rfl rfl rfl rfl ?_
      refine z_iload_n rfl rfl ?_
      refine z_iconst rfl ?_
      refine z_iast rfl rfl (by omega) ?_
      refine z_iinc rfl rfl rfl rfl ?_
      refine z_goto rfl ?_
      refine ih (t + 1) _ (by omega) ?_ ?_
      · intro q q0 q1
        by_cases hq : q = t
        · simp [up, hq]
        · simp only [up]; rw [if_neg (fun z => hq z.2)]; exact h1 q q0 (by omega)
      · intro k j hk
        simp only [up]; rw [if_neg (fun q => hk q.1)]; exact hf k j hk
theorem s_sumC {Z : ZW} {J : Int64} {nb : Nat} (hnb : Z 14 0 = nb) (hnb2 : nb ≤ 24) (hH : ∀ b, 0 ≤ b → b < (nb : Int) → 0 ≤ Z 20 b ∧ Z 20 b < nb) (hHH : ∀ b, 0 ≤ b → b < (nb : Int) → Z 20 (Z 20 b) = Z 20 b) : Mz 52 [.ref 24, .ref 13] Z J (fun r Z' J' => r = none ∧ J' = J ∧ (∀ b, 0 ≤ b → b < (nb : Int) → Z' 26 b = ccF (Z 20) (Z 25) nb (Z 20 b)) ∧ ∀ (k : Nat) (j : Int), k ≠ 26 → Z' k j = Z k j) := by
  unfold Mz
  refine z_iconst rfl ?_
  refine z_istore_n rfl rfl rfl ?_
  exact l_sumC1 hnb hnb2 hH hHH nb 0 Z (by omega) (fun q q0 q1 => absurd q1 (by omega)) (fun _ _ _ => rfl)
theorem l_mark2 {Z : ZW} {J : Int64} {n nb : Nat} (hn : Z 4 0 = n) (hn2 : n ≤ 24) (hnb : Z 14 0 = nb) (hnb2 : nb ≤ 24) (hst : ∀ b, 0 ≤ b → b < (nb : Int) → 0 ≤ Z 16 b ∧ Z 16 b < n ∧ RG (Z 20 b)) : ∀ (d t : Nat) (x4 : Option Value) (Z' : ZW), t + d = nb → (∀ i, 0 ≤ i → i < (n : Int) → Z' 29 i = beF (Z 16) (Z 25) t i ∧ Z' 30 i = beF (Z 16) (fun b => if Z 20 b = b then Z 26 b else 0) t i) → (∀ (k : Nat) (j : Int), k ≠ 29 → k ≠ 30 → Z' k j = Z k j) → OkZ none 53 32 [some (.ref 24), some (.ref 3), some (.ref 13), some (.int (I t)), x4] [] Z' J (fun r Z' J' => r = none ∧ J' = J ∧ (∀ i, 0 ≤ i → i < (n : Int) → Z' 29 i = beF (Z 16) (Z 25) nb i ∧ Z' 30 i = beF (Z 16) (fun b => if Z 20 b = b then Z 26 b else 0) nb i) ∧ ∀ (k : Nat) (j : Int), k ≠ 29 → k ≠ 30 → Z' k j = Z k j) := by
  intro d
  induction d with
  | zero =>
    intro t x4 Z' ht h1 hf
    have e14 : Z' 14 0 = nb := by rw [hf 14 0 (by decide) (by decide)]; exact hnb
    have e : t = nb := by omega
    subst e
    refine z_iload_n rfl rfl ?_
    refine z_aload_n rfl rfl ?_
    refine z_getI (bi := 0) rfl rfl rfl rfl ?_
    refine z_icmp_ge rfl (by omega) (by omega) (fun h37 => ?_) (fun h37 => ?_)
    · exact z_vret rfl rfl ⟨rfl, rfl, h1, hf⟩
    · omega
  | succ d ih =>
    intro t x4 Z' ht h1 hf
    have e14 : Z' 14 0 = nb := by rw [hf 14 0 (by decide) (by decide)]; exact hnb
    have e4 : Z' 4 0 = n := by rw [hf 4 0 (by decide) (by decide)]; exact hn
    have e16 : Z' 16 t = Z 16 t := hf 16 _ (by decide) (by decide)
    have e20 : Z' 20 t = Z 20 t := hf 20 _ (by decide) (by decide)
    have e25 : Z' 25 t = Z 25 t := hf 25 _ (by decide) (by decide)
    have e26 : Z' 26 t = Z 26 t := hf 26 _ (by decide) (by decide)
    have hs := hst t (by omega) (by omega)
    obtain ⟨Z1, hZ1⟩ : ∃ Z1, Z1 = up Z' 29 (Z 16 t) (Z 25 t) := ⟨_, rfl⟩
    have g20 : Z1 20 t = Z 20 t := by rw [hZ1]; simpa [up] using e20
    have g26 : Z1 26 t = Z 26 t := by rw [hZ1]; simpa [up] using e26
    have go : ∀ v, v = (fun b => if Z 20 b = b then Z 26 b else 0) t → OkZ none 53 97 [some (.ref 24), some (.ref 3), some (.ref 13), some (.int (I t)), some (.int (I (Z 16 t)))] [] (up Z1 30 (Z 16 t) v) J (fun r Z' J' => r = none ∧ J' = J ∧ (∀ i, 0 ≤ i → i < (n : Int) → Z' 29 i = beF (Z 16) (Z 25) nb i ∧ Z' 30 i = beF (Z 16) (fun b => if Z 20 b = b then Z 26 b else 0) nb i) ∧ ∀ (k : Nat) (j : Int), k ≠ 29 → k ≠ 30 → Z' k j = Z k j) := by
      intro v hv
      refine z_iinc rfl rfl rfl rfl ?_
      refine z_goto rfl ?_
      refine ih (t + 1) _ _ (by omega) ?_ ?_
      · intro i i0 i1
        have hi := h1 i i0 i1
        show _ = (if _ then _ else _) ∧ _ = (if _ then _ else _)
        by_cases hc : Z 16 t = i
        · rw [if_pos hc, if_pos hc, hZ1]
          refine ⟨?_, ?_⟩
          · simp [up, hc]
          · rw [← hv]; simp [up, hc]
        · rw [if_neg hc, if_neg hc, hZ1]
          have hc2 : ¬ i = Z 16 t := fun z => hc z.symm
          simp [up, hc2, hi]
      · intro k j k1 k2
        rw [hZ1]; simp only [up]; rw [if_neg (fun z => k2 z.1), if_neg (fun z => k1 z.1)]; exact hf k j k1 k2
    refine z_iload_n rfl rfl ?_
    refine z_aload_n rfl rfl ?_
    refine z_getI (bi := 0) rfl rfl rfl rfl ?_
    refine z_icmp_ge rfl (by omega) (by omega) (fun h37 => ?_) (fun h37 => ?_)
    · omega
    · refine z_aload_n rfl rfl ?_
      refine z_getR rfl rfl rfl rfl ?_
      refine z_iload_n rfl rfl ?_
      refine z_iald rfl rfl (by omega) ?_
      refine z_istore rfl rfl rfl ?_
      refine z_aload_n rfl rfl ?_
      refine z_iload rfl rfl ?_
      refine z_callV1 rfl rfl rfl rfl rfl rfl (s_has (by rw [e16]; omega) (by omega)) ?_
      refine z_ifb_eq rfl (fun h54 => ?_) (fun h54 => ?_)
      · exact absurd (show 0 ≤ Z 16 t ∧ Z 16 t < (n : Int) from ⟨hs.1, hs.2.1⟩) (by rw [← e16, ← e4]; exact of_decide_eq_false h54)
      · refine z_aload_n rfl rfl ?_
        refine z_getR rfl rfl rfl rfl ?_
        refine z_iload rfl rfl ?_
        refine z_aload_n rfl rfl ?_
        refine z_getR rfl rfl rfl rfl ?_
        refine z_iload_n rfl rfl ?_
        refine z_iald rfl rfl (by omega) ?_
        refine z_iast rfl rfl (by rw [e16]; omega) ?_
        refine z_aload_n rfl rfl ?_
        refine z_getR rfl rfl rfl rfl ?_
        refine z_iload rfl rfl ?_
        refine z_aload_n rfl rfl ?_
        refine z_getR rfl rfl rfl rfl ?_
        refine z_iload_n rfl rfl ?_
        have hr := hs.2.2
        rw [← e20] at hr
        refine z_iald rfl rfl (by omega) ?_
        rw [show up Z' 29 (Z' 16 t) (Z' 25 t) 20 t = Z' 20 t by simp [up]]
        refine z_iload_n rfl rfl ?_
        refine z_icmp_ne rfl (by omega) (by omega) (fun h83 => ?_) (fun h83 => ?_)
        · refine z_iconst rfl ?_
          refine z_iast rfl rfl (by rw [e16]; omega) ?_
          rw [e16, e25, ← hZ1]
          exact go 0 (by dsimp only; rw [if_neg (by rw [← e20]; exact h83)])
        · refine z_aload_n rfl rfl ?_
          refine z_getR rfl rfl rfl rfl ?_
          refine z_iload_n rfl rfl ?_
          refine z_iald rfl rfl (by omega) ?_
          refine z_goto rfl ?_
          refine z_iast rfl rfl (by rw [e16]; omega) ?_
          rw [e16, e25, ← hZ1, g26]
          exact go _ (by dsimp only; rw [if_pos (by rw [← e20]; exact h83)])
theorem l_mark1 {Z : ZW} {J : Int64} {n nb : Nat} (hn : Z 4 0 = n) (hn2 : n ≤ 24) (hnb : Z 14 0 = nb) (hnb2 : nb ≤ 24) (hst : ∀ b, 0 ≤ b → b < (nb : Int) → 0 ≤ Z 16 b ∧ Z 16 b < n ∧ RG (Z 20 b)) : ∀ (d t : Nat) (Z' : ZW), t + d = n → (∀ i, 0 ≤ i → i < (t : Int) → Z' 29 i = 0 ∧ Z' 30 i = 0) → (∀ (k : Nat) (j : Int), k ≠ 29 → k ≠ 30 → Z' k j = Z k j) → OkZ none 53 2 [some (.ref 24), some (.ref 3), some (.ref 13), some (.int (I t)), none] [] Z' J (fun r Z' J' => r = none ∧ J' = J ∧ (∀ i, 0 ≤ i → i < (n : Int) → Z' 29 i = beF (Z 16) (Z 25) nb i ∧ Z' 30 i = beF (Z 16) (fun b => if Z 20 b = b then Z 26 b else 0) nb i) ∧ ∀ (k : Nat) (j : Int), k ≠ 29 → k ≠ 30 → Z' k j = Z k j) := by
  intro d
  induction d with
  | zero =>
    intro t Z' ht h1 hf
    have e4 : Z' 4 0 = n := by rw [hf 4 0 (by decide) (by decide)]; exact hn
    have e : t = n := by omega
    subst e
    refine z_iload_n rfl rfl ?_
    refine z_aload_n rfl rfl ?_
    refine z_getI (bi := 0) rfl rfl rfl rfl ?_
    refine z_icmp_ge rfl (by omega) (by omega) (fun h7 => ?_) (fun h7 => ?_)
    · refine z_iconst rfl ?_
      refine z_istore_n rfl rfl rfl ?_
      exact l_mark2 hn hn2 hnb hnb2 hst nb 0 _ Z' (by omega) h1 hf
    · omega
  | succ d ih =>
    intro t Z' ht h1 hf
    have e4 : Z' 4 0 = n := by rw [hf 4 0 (by decide) (by decide)]; exact hn
    refine z_iload_n rfl rfl ?_
    refine z_aload_n rfl rfl ?_
    refine z_getI (bi := 0) rfl rfl rfl rfl ?_
    refine z_icmp_ge rfl (by omega) (by omega) (fun h7 => ?_) (fun h7 => ?_)
    · omega
    · refine z_aload_n rfl rfl ?_
      refine z_getR rfl rfl rfl rfl ?_
      refine z_iload_n rfl rfl ?_
      refine z_iconst rfl ?_
      refine z_iast rfl rfl (by omega) ?_
      refine z_aload_n rfl rfl ?_
      refine z_getR rfl rfl rfl rfl ?_
      refine z_iload_n rfl rfl ?_
      refine z_iconst rfl ?_
      refine z_iast rfl rfl (by omega) ?_
      refine z_iinc rfl rfl rfl rfl ?_
      refine z_goto rfl ?_
      refine ih (t + 1) _ (by omega) ?_ ?_
      · intro q q0 q1
        by_cases hq : q = t
        · simp [up, hq]
        · have := h1 q q0 (by omega)
          simp [up, hq, this]
      · intro k j k1 k2
        simp only [up]; rw [if_neg (fun z => k2 z.1), if_neg (fun z => k1 z.1)]; exact hf k j k1 k2
theorem s_mark {Z : ZW} {J : Int64} {n nb : Nat} (hn : Z 4 0 = n) (hn2 : n ≤ 24) (hnb : Z 14 0 = nb) (hnb2 : nb ≤ 24) (hst : ∀ b, 0 ≤ b → b < (nb : Int) → 0 ≤ Z 16 b ∧ Z 16 b < n ∧ RG (Z 20 b)) : Mz 53 [.ref 24, .ref 3, .ref 13] Z J (fun r Z' J' => r = none ∧ J' = J ∧ (∀ i, 0 ≤ i → i < (n : Int) → Z' 29 i = beF (Z 16) (Z 25) nb i ∧ Z' 30 i = beF (Z 16) (fun b => if Z 20 b = b then Z 26 b else 0) nb i) ∧ ∀ (k : Nat) (j : Int), k ≠ 29 → k ≠ 30 → Z' k j = Z k j) := by
  unfold Mz
  refine z_iconst rfl ?_
  refine z_istore_n rfl rfl rfl ?_
  exact l_mark1 hn hn2 hnb hnb2 hst n 0 Z (by omega) (fun q q0 q1 => absurd q1 (by omega)) (fun _ _ _ _ => rfl)
