/-! the class: predecessors, joins, heads, reach -/
theorem s_min {Z : ZW} {J : Int64} {x y : Int} (hx : RG x) (hy : RG y) : D 38 [.int (I x), .int (I y)] Z J (some (.int (I (if y < x then y else x)))) Z J := by
  unfold D Mz
  refine z_iload_n rfl rfl ?_
  refine z_iload_n rfl rfl ?_
  refine z_icmp_gt rfl (by omega) (by omega) (fun h2 => ?_) (fun h2 => ?_)
  · refine z_iload_n rfl rfl ?_
    exact z_iret rfl rfl ⟨by rw [if_pos h2], rfl, rfl⟩
  · refine z_iload_n rfl rfl ?_
    refine z_goto rfl ?_
    exact z_iret rfl rfl ⟨by rw [if_neg h2], rfl, rfl⟩
theorem s_max {Z : ZW} {J : Int64} {x y : Int} (hx : RG x) (hy : RG y) : D 56 [.int (I x), .int (I y)] Z J (some (.int (I (if x < y then y else x)))) Z J := by
  unfold D Mz
  refine z_iload_n rfl rfl ?_
  refine z_iload_n rfl rfl ?_
  refine z_icmp_lt rfl (by omega) (by omega) (fun h2 => ?_) (fun h2 => ?_)
  · refine z_iload_n rfl rfl ?_
    exact z_iret rfl rfl ⟨by rw [if_pos h2], rfl, rfl⟩
  · refine z_iload_n rfl rfl ?_
    refine z_goto rfl ?_
    exact z_iret rfl rfl ⟨by rw [if_neg h2], rfl, rfl⟩
theorem pm_step {Z Z' : ZW} {nb : Nat} {t : Nat} (hnb : Z 14 0 = nb) (ht : t < nb) (h1 : ∀ q, 0 ≤ q → q < (nb : Int) → Z' 22 q = pmF (Z 17) (Z 18) t q) (hf : ∀ (k : Nat) (j : Int), k ≠ 22 → Z' k j = Z k j) :
    ∀ Z1 Z2 : ZW, Z1 = (if 0 ≤ Z' 17 t ∧ Z' 17 t < Z' 14 0 then up Z' 22 (Z' 17 t) (orI (Z' 22 (Z' 17 t)) (bitv t)) else Z') → Z2 = (if 0 ≤ Z1 18 t ∧ Z1 18 t < Z1 14 0 then up Z1 22 (Z1 18 t) (orI (Z1 22 (Z1 18 t)) (bitv t)) else Z1) → (∀ q, 0 ≤ q → q < (nb : Int) → Z2 22 q = pmF (Z 17) (Z 18) (t + 1) q) ∧ ∀ (k : Nat) (j : Int), k ≠ 22 → Z2 k j = Z k j := by
  intro Z1 Z2 e1 e2
  have f1 : ∀ (k : Nat) (j : Int), k ≠ 22 → Z1 k j = Z k j := by
    intro k j hk
    rw [e1]
    split
    · simp only [up]; rw [if_neg (fun q => hk q.1)]; exact hf k j hk
    · exact hf k j hk
  have g1 : ∀ q, 0 ≤ q → q < (nb : Int) → Z1 22 q = if Z 17 t = q then orI (pmF (Z 17) (Z 18) t q) (bitv t) else pmF (Z 17) (Z 18) t q := by
    intro q q0 q1
    rw [e1, hf 17 _ (by decide), hf 14 _ (by decide), hnb]
    by_cases hq : Z 17 t = q
    · rw [if_pos hq, hq, if_pos ⟨q0, q1⟩]
      simp only [up]
      rw [if_pos ⟨trivial, trivial⟩, h1 q q0 q1]
    · rw [if_neg hq]
      split
      · simp only [up]; rw [if_neg (fun z => hq z.2.symm)]; exact h1 q q0 q1
      · exact h1 q q0 q1
  refine ⟨?_, ?_⟩
  · intro q q0 q1
    rw [e2, f1 18 _ (by decide), f1 14 _ (by decide), hnb]
    show _ = if Z 18 t = q then _ else _
    by_cases hq : Z 18 t = q
    · rw [if_pos hq, hq, if_pos ⟨q0, q1⟩]
      simp only [up]
      rw [if_pos ⟨trivial, trivial⟩, g1 q q0 q1]
    · rw [if_neg hq]
      split
      · simp only [up]; rw [if_neg (fun z => hq z.2.symm)]; exact g1 q q0 q1
      · exact g1 q q0 q1
  · intro k j hk
    rw [e2]
    split
    · simp only [up]; rw [if_neg (fun q => hk q.1)]; exact f1 k j hk
    · exact f1 k j hk
theorem l_coll2 {Z : ZW} {J : Int64} {nb : Nat} (hnb : Z 14 0 = nb) (hnb2 : nb ≤ 24) (hFT : ∀ p, 0 ≤ p → p < (nb : Int) → RG (Z 17 p) ∧ RG (Z 18 p)) : ∀ (d t : Nat) (Z' : ZW), t + d = nb → (∀ q, 0 ≤ q → q < (nb : Int) → Z' 22 q = pmF (Z 17) (Z 18) t q) → (∀ (k : Nat) (j : Int), k ≠ 22 → Z' k j = Z k j) → OkZ none 34 25 [some (.ref 13), some (.int (I t))] [] Z' J (fun r Z' J' => r = none ∧ J' = J ∧ (∀ q, 0 ≤ q → q < (nb : Int) → Z' 22 q = pmF (Z 17) (Z 18) nb q) ∧ ∀ (k : Nat) (j : Int), k ≠ 22 → Z' k j = Z k j) := by
  intro d
  induction d with
  | zero =>
    intro t Z' ht h1 hf
    have e14 : Z' 14 0 = nb := by rw [hf 14 0 (by decide)]; exact hnb
    have e : t = nb := by omega
    subst e
    refine z_iload_n rfl rfl ?_
    refine z_aload_n rfl rfl ?_
    refine z_getI (bi := 0) rfl rfl rfl rfl ?_
    refine z_icmp_ge rfl (by omega) (by omega) (fun h30 => ?_) (fun h30 => ?_)
    · exact z_vret rfl rfl ⟨rfl, rfl, h1, hf⟩
    · omega
  | succ d ih =>
    intro t Z' ht h1 hf
    have e14 : Z' 14 0 = nb := by rw [hf 14 0 (by decide)]; exact hnb
    have r17 : RG (Z' 17 t) := by rw [hf 17 _ (by decide)]; exact (hFT t (by omega) (by omega)).1
    obtain ⟨Z1, e1⟩ : ∃ Z1, Z1 = (if 0 ≤ Z' 17 t ∧ Z' 17 t < Z' 14 0 then up Z' 22 (Z' 17 t) (orI (Z' 22 (Z' 17 t)) (bitv t)) else Z') := ⟨_, rfl⟩
    obtain ⟨Z2, e2⟩ : ∃ Z2, Z2 = (if 0 ≤ Z1 18 t ∧ Z1 18 t < Z1 14 0 then up Z1 22 (Z1 18 t) (orI (Z1 22 (Z1 18 t)) (bitv t)) else Z1) := ⟨_, rfl⟩
    have f1 : ∀ (k : Nat) (j : Int), k ≠ 22 → Z1 k j = Z k j := by
      intro k j hk
      rw [e1]
      split
      · simp only [up]; rw [if_neg (fun q => hk q.1)]; exact hf k j hk
      · exact hf k j hk
    have r18 : RG (Z1 18 t) := by rw [f1 18 _ (by decide)]; exact (hFT t (by omega) (by omega)).2
    have e14' : Z1 14 0 = nb := by rw [f1 14 0 (by decide)]; exact hnb
    obtain ⟨g1, g2⟩ := pm_step hnb (by omega) h1 hf Z1 Z2 e1 e2
    refine z_iload_n rfl rfl ?_
    refine z_aload_n rfl rfl ?_
    refine z_getI (bi := 0) rfl rfl rfl rfl ?_
    refine z_icmp_ge rfl (by omega) (by omega) (fun h30 => ?_) (fun h30 => ?_)
    · omega
    · refine z_aload_n rfl rfl ?_
      refine z_aload_n rfl rfl ?_
      refine z_getR rfl rfl rfl rfl ?_
      refine z_iload_n rfl rfl ?_
      refine z_iald rfl rfl (by omega) ?_
      refine z_iload_n rfl rfl ?_
      refine z_callV2v rfl rfl rfl rfl rfl rfl (s_addPred r17 (by omega) (by omega)) ?_
      rw [← e1]
      refine z_aload_n rfl rfl ?_
      refine z_aload_n rfl rfl ?_
      refine z_getR rfl rfl rfl rfl ?_
      refine z_iload_n rfl rfl ?_
      refine z_iald rfl rfl (by omega) ?_
      refine z_iload_n rfl rfl ?_
      refine z_callV2v rfl rfl rfl rfl rfl rfl (s_addPred r18 (by omega) (by omega)) ?_
      refine z_iinc rfl rfl rfl rfl ?_
      refine z_goto rfl ?_
      rw [← e2]
      exact ih (t + 1) Z2 (by omega) g1 g2
theorem l_coll1 {Z : ZW} {J : Int64} {nb : Nat} (hnb : Z 14 0 = nb) (hnb2 : nb ≤ 24) (hFT : ∀ p, 0 ≤ p → p < (nb : Int) → RG (Z 17 p) ∧ RG (Z 18 p)) : ∀ (d t : Nat) (Z' : ZW), t + d = nb → (∀ q, 0 ≤ q → q < (t : Int) → Z' 22 q = 0) → (∀ (k : Nat) (j : Int), k ≠ 22 → Z' k j = Z k j) → OkZ none 34 2 [some (.ref 13), some (.int (I t))] [] Z' J (fun r Z' J' => r = none ∧ J' = J ∧ (∀ q, 0 ≤ q → q < (nb : Int) → Z' 22 q = pmF (Z 17) (Z 18) nb q) ∧ ∀ (k : Nat) (j : Int), k ≠ 22 → Z' k j = Z k j) := by
  intro d
  induction d with
  | zero =>
    intro t Z' ht h1 hf
    have e14 : Z' 14 0 = nb := by rw [hf 14 0 (by decide)]; exact hnb
    have e : t = nb := by omega
    subst e
    refine z_iload_n rfl rfl ?_
    refine z_aload_n rfl rfl ?_
    refine z_getI (bi := 0) rfl rfl rfl rfl ?_
    refine z_icmp_ge rfl (by omega) (by omega) (fun h7 => ?_) (fun h7 => ?_)
    · refine z_iconst rfl ?_
      refine z_istore_n rfl rfl rfl ?_
      exact l_coll2 hnb hnb2 hFT t 0 Z' (by omega) h1 hf
    · omega
  | succ d ih =>
    intro t Z' ht h1 hf
    have e14 : Z' 14 0 = nb := by rw [hf 14 0 (by decide)]; exact hnb
    refine z_iload_n rfl rfl ?_
    refine z_aload_n rfl rfl ?_
    refine z_getI (bi := 0) rfl rfl rfl rfl ?_
    refine z_icmp_ge rfl (by omega) (by omega) (fun h7 => ?_) (fun h7 => ?_)
    · omega
    · refine z_aload_n rfl rfl ?_
      refine z_getR rfl rfl rfl rfl ?_
      refine z_iload_n rfl rfl ?_
      refine z_iconst rfl ?_
      refine z_iast rfl rfl (by omega) ?_
      refine z_iinc rfl rfl rfl rfl ?_
      refine z_goto rfl ?_
      refine ih (t + 1) _ (by omega) ?_ ?_
      · intro q q0 q1
        by_cases hq : q = t
        · simp [up, hq]
        · simp only [up]; rw [if_neg (fun z => hq z.2)]; exact h1 q q0 (by omega)
      · intro k j hk
        simp only [up]; rw [if_neg (fun q => hk q.1)]; exact hf k j hk
theorem s_coll {Z : ZW} {J : Int64} {nb : Nat} (hnb : Z 14 0 = nb) (hnb2 : nb ≤ 24) (hFT : ∀ p, 0 ≤ p → p < (nb : Int) → RG (Z 17 p) ∧ RG (Z 18 p)) : Mz 34 [.ref 13] Z J (fun r Z' J' => r = none ∧ J' = J ∧ (∀ q, 0 ≤ q → q < (nb : Int) → Z' 22 q = pmF (Z 17) (Z 18) nb q) ∧ ∀ (k : Nat) (j : Int), k ≠ 22 → Z' k j = Z k j) := by
  unfold Mz
  refine z_iconst rfl ?_
  refine z_istore_n rfl rfl rfl ?_
  exact l_coll1 hnb hnb2 hFT nb 0 Z (by omega) (fun q q0 q1 => absurd q1 (by omega)) (fun _ _ _ => rfl)
theorem l_join2 {Z : ZW} {J : Int64} {nb : Nat} (hnb : Z 14 0 = nb) (hnb2 : nb ≤ 24) (hFT : ∀ p, 0 ≤ p → p < (nb : Int) → RG (Z 17 p) ∧ RG (Z 18 p) ∧ RG (Z 19 p) ∧ RG (Z 22 p)) (hnx : ∀ q p, 0 ≤ q → q < (nb : Int) → 0 ≤ p → p < (nb : Int) → (jnB (enB Z) (Z 19) (Z 22)) q p = true → q = (if Z 17 p = -1 then Z 18 p else Z 17 p)) : ∀ (d t : Nat) (x2 : Option Value) (Z' : ZW), t + d = nb → (∀ q, 0 ≤ q → q < (nb : Int) → Z' 23 q = joF (jnB (enB Z) (Z 19) (Z 22)) t q) → (∀ (k : Nat) (j : Int), k ≠ 23 → Z' k j = Z k j) → OkZ none 37 25 [some (.ref 13), some (.int (I t)), x2] [] Z' J (fun r Z' J' => r = none ∧ J' = J ∧ (∀ q, 0 ≤ q → q < (nb : Int) → Z' 23 q = joF (jnB (enB Z) (Z 19) (Z 22)) nb q) ∧ ∀ (k : Nat) (j : Int), k ≠ 23 → Z' k j = Z k j) := by
  intro d
  induction d with
  | zero =>
    intro t x2 Z' ht h1 hf
    have e14 : Z' 14 0 = nb := by rw [hf 14 0 (by decide)]; exact hnb
    have e : t = nb := by omega
    subst e
    refine z_iload_n rfl rfl ?_
    refine z_aload_n rfl rfl ?_
    refine z_getI (bi := 0) rfl rfl rfl rfl ?_
    refine z_icmp_ge rfl (by omega) (by omega) (fun h30 => ?_) (fun h30 => ?_)
    · exact z_vret rfl rfl ⟨rfl, rfl, h1, hf⟩
    · omega
  | succ d ih =>
    intro t x2 Z' ht h1 hf
    have e14 : Z' 14 0 = nb := by rw [hf 14 0 (by decide)]; exact hnb
    obtain ⟨r1, r2, r3, r4⟩ := hFT t (by omega) (by omega)
    rw [← hf 17 _ (by decide)] at r1
    rw [← hf 18 _ (by decide)] at r2
    obtain ⟨N, hN⟩ : ∃ N, N = (if Z 17 t = -1 then Z 18 t else Z 17 t) := ⟨_, rfl⟩
    have hNr : RG N := by
      rw [hN]
      rw [hf 17 _ (by decide)] at r1
      rw [hf 18 _ (by decide)] at r2
      split
      · exact r2
      · exact r1
    have hno : ∀ q, 0 ≤ q → q < (nb : Int) → q ≠ N → joF (jnB (enB Z) (Z 19) (Z 22)) (t + 1) q = joF (jnB (enB Z) (Z 19) (Z 22)) t q := by
      intro q q0 q1 hq
      show (if (jnB (enB Z) (Z 19) (Z 22)) q t = true then (t : Int) else joF (jnB (enB Z) (Z 19) (Z 22)) t q) = _
      split
      · next hj => exact absurd (hnx q t q0 q1 (by omega) (by omega) hj) (by rw [← hN]; exact hq)
      · rfl
    have K58 : OkZ none 37 59 [some (.ref 13), some (.int (I t)), some (.int (I N))] [] Z' J (fun r Z' J' => r = none ∧ J' = J ∧ (∀ q, 0 ≤ q → q < (nb : Int) → Z' 23 q = joF (jnB (enB Z) (Z 19) (Z 22)) nb q) ∧ ∀ (k : Nat) (j : Int), k ≠ 23 → Z' k j = Z k j) := by
      refine z_aload_n rfl rfl ?_
      refine z_iload_n rfl rfl ?_
      refine z_callV1 rfl rfl rfl rfl rfl rfl (s_ghas hNr (by omega)) ?_
      refine z_ifb_eq rfl (fun h64 => ?_) (fun h64 => ?_)
      · refine z_iinc rfl rfl rfl rfl ?_
        refine z_goto rfl ?_
        have hNo : ¬ (0 ≤ N ∧ N < (nb : Int)) := by rw [← e14]; exact of_decide_eq_false h64
        refine ih (t + 1) _ _ (by omega) ?_ hf
        intro q q0 q1
        rw [hno q q0 q1 (fun z => hNo (by rw [← z]; exact ⟨q0, q1⟩))]
        exact h1 q q0 q1
      · refine z_aload_n rfl rfl ?_
        refine z_iload_n rfl rfl ?_
        refine z_iload_n rfl rfl ?_
        have hNin : 0 ≤ N ∧ N < (nb : Int) := by rw [← e14]; exact of_decide_eq_true h64
        have hjN : (jnB (enB Z) (Z 19) (Z 22)) N t = decide (N ≠ 0 ∧ N ≠ (t : Int) ∧ enB Z' t = false ∧ Z' 19 t = bitv N ∧ Z' 22 N = bitv t) := by unfold jnB; rw [enB_congr (hf 14 (8 + (t : Int)) (by decide)), hf 19 _ (by decide), hf 22 _ (by decide)]
        have r3b : RG (Z' 19 t) := by rw [hf 19 _ (by decide)]; exact r3
        have r4b : RG (Z' 22 N) := by rw [hf 22 _ (by decide)]; exact (hFT N hNin.1 hNin.2).2.2.2
        refine z_callV2 rfl rfl rfl rfl rfl rfl (s_isJoined (by omega) (by omega) (by omega) r3b r4b) ?_
        refine z_ifb_eq rfl (fun h73 => ?_) (fun h73 => ?_)
        · refine z_iinc rfl rfl rfl rfl ?_
          refine z_goto rfl ?_
          refine ih (t + 1) _ _ (by omega) ?_ hf
          intro q q0 q1
          by_cases hq : q = N
          · rw [h1 q q0 q1]
            show _ = if _ then _ else _
            rw [hq, hjN, h73]
            rfl
          · rw [hno q q0 q1 hq]
            exact h1 q q0 q1
        · refine z_aload_n rfl rfl ?_
          refine z_getR rfl rfl rfl rfl ?_
          refine z_iload_n rfl rfl ?_
          refine z_iload_n rfl rfl ?_
          refine z_iast rfl rfl (by omega) ?_
          refine z_iinc rfl rfl rfl rfl ?_
          refine z_goto rfl ?_
          refine ih (t + 1) _ _ (by omega) ?_ ?_
          · intro q q0 q1
            by_cases hq : q = N
            · show _ = if _ then _ else _
              rw [hq, hjN, h73]
              simp [up]
            · rw [hno q q0 q1 hq]
              simp only [up]
              rw [if_neg (fun z => hq z.2)]
              exact h1 q q0 q1
          · intro k j hk
            simp only [up]; rw [if_neg (fun q => hk q.1)]; exact hf k j hk
    refine z_iload_n rfl rfl ?_
    refine z_aload_n rfl rfl ?_
    refine z_getI (bi := 0) rfl rfl rfl rfl ?_
    refine z_icmp_ge rfl (by omega) (by omega) (fun h30 => ?_) (fun h30 => ?_)
    · omega
    · refine z_aload_n rfl rfl ?_
      refine z_getR rfl rfl rfl rfl ?_
      refine z_iload_n rfl rfl ?_
      refine z_iald rfl rfl (by omega) ?_
      refine z_iconst rfl ?_
      refine z_icmp_eq rfl (by omega) (by omega) (fun h40 => ?_) (fun h40 => ?_)
      · refine z_aload_n rfl rfl ?_
        refine z_getR rfl rfl rfl rfl ?_
        refine z_iload_n rfl rfl ?_
        refine z_iald rfl rfl (by omega) ?_
        refine z_istore_n rfl rfl rfl ?_
        have e9 : N = Z' 18 t := by rw [hN, if_pos (by rw [← hf 17 _ (by decide)]; exact h40), hf 18 _ (by decide)]
        rw [e9] at K58
        exact K58
      · refine z_aload_n rfl rfl ?_
        refine z_getR rfl rfl rfl rfl ?_
        refine z_iload_n rfl rfl ?_
        refine z_iald rfl rfl (by omega) ?_
        refine z_goto rfl ?_
        refine z_istore_n rfl rfl rfl ?_
        have e9 : N = Z' 17 t := by rw [hN, if_neg (by rw [← hf 17 _ (by decide)]; exact h40), hf 17 _ (by decide)]
        rw [e9] at K58
        exact K58
theorem l_join1 {Z : ZW} {J : Int64} {nb : Nat} (hnb : Z 14 0 = nb) (hnb2 : nb ≤ 24) (hFT : ∀ p, 0 ≤ p → p < (nb : Int) → RG (Z 17 p) ∧ RG (Z 18 p) ∧ RG (Z 19 p) ∧ RG (Z 22 p)) (hnx : ∀ q p, 0 ≤ q → q < (nb : Int) → 0 ≤ p → p < (nb : Int) → (jnB (enB Z) (Z 19) (Z 22)) q p = true → q = (if Z 17 p = -1 then Z 18 p else Z 17 p)) : ∀ (d t : Nat) (Z' : ZW), t + d = nb → (∀ q, 0 ≤ q → q < (t : Int) → Z' 23 q = -1) → (∀ (k : Nat) (j : Int), k ≠ 23 → Z' k j = Z k j) → OkZ none 37 2 [some (.ref 13), some (.int (I t)), none] [] Z' J (fun r Z' J' => r = none ∧ J' = J ∧ (∀ q, 0 ≤ q → q < (nb : Int) → Z' 23 q = joF (jnB (enB Z) (Z 19) (Z 22)) nb q) ∧ ∀ (k : Nat) (j : Int), k ≠ 23 → Z' k j = Z k j) := by
  intro d
  induction d with
  | zero =>
    intro t Z' ht h1 hf
    have e14 : Z' 14 0 = nb := by rw [hf 14 0 (by decide)]; exact hnb
    have e : t = nb := by omega
    subst e
    refine z_iload_n rfl rfl ?_
    refine z_aload_n rfl rfl ?_
    refine z_getI (bi := 0) rfl rfl rfl rfl ?_
    refine z_icmp_ge rfl (by omega) (by omega) (fun h7 => ?_) (fun h7 => ?_)
    · refine z_iconst rfl ?_
      refine z_istore_n rfl rfl rfl ?_
      exact l_join2 hnb hnb2 hFT hnx t 0 _ Z' (by omega) h1 hf
    · omega
  | succ d ih =>
    intro t Z' ht h1 hf
    have e14 : Z' 14 0 = nb := by rw [hf 14 0 (by decide)]; exact hnb
    refine z_iload_n rfl rfl ?_
    refine z_aload_n rfl rfl ?_
    refine z_getI (bi := 0) rfl rfl rfl rfl ?_
    refine z_icmp_ge rfl (by omega) (by omega) (fun h7 => ?_) (fun h7 => ?_)
    · omega
    · refine z_aload_n rfl rfl ?_
      refine z_getR rfl rfl rfl rfl ?_
      refine z_iload_n rfl rfl ?_
      refine z_iconst rfl ?_
      refine z_iast rfl rfl (by omega) ?_
      refine z_iinc rfl rfl rfl rfl ?_
      refine z_goto rfl ?_
      refine ih (t + 1) _ (by omega) ?_ ?_
      · intro q q0 q1
        by_cases hq : q = t
        · simp [up, hq]
        · simp only [up]; rw [if_neg (fun z => hq z.2)]; exact h1 q q0 (by omega)
      · intro k j hk
        simp only [up]; rw [if_neg (fun q => hk q.1)]; exact hf k j hk
theorem s_join {Z : ZW} {J : Int64} {nb : Nat} (hnb : Z 14 0 = nb) (hnb2 : nb ≤ 24) (hFT : ∀ p, 0 ≤ p → p < (nb : Int) → RG (Z 17 p) ∧ RG (Z 18 p) ∧ RG (Z 19 p) ∧ RG (Z 22 p)) (hnx : ∀ q p, 0 ≤ q → q < (nb : Int) → 0 ≤ p → p < (nb : Int) → (jnB (enB Z) (Z 19) (Z 22)) q p = true → q = (if Z 17 p = -1 then Z 18 p else Z 17 p)) : Mz 37 [.ref 13] Z J (fun r Z' J' => r = none ∧ J' = J ∧ (∀ q, 0 ≤ q → q < (nb : Int) → Z' 23 q = joF (jnB (enB Z) (Z 19) (Z 22)) nb q) ∧ ∀ (k : Nat) (j : Int), k ≠ 23 → Z' k j = Z k j) := by
  unfold Mz
  refine z_iconst rfl ?_
  refine z_istore_n rfl rfl rfl ?_
  exact l_join1 hnb hnb2 hFT hnx nb 0 Z (by omega) (fun q q0 q1 => absurd q1 (by omega)) (fun _ _ _ => rfl)
theorem l_headOf {Z : ZW} {J : Int64} {nb : Nat} {b : Int} (hnb : Z 14 0 = nb) (hnb2 : nb ≤ 24) (hJ : ∀ p, 0 ≤ p → p < (nb : Int) → -1 ≤ Z 23 p ∧ Z 23 p < nb) : ∀ (d t : Nat) (h lo v : Int), t + d = nb → (0 ≤ h ∧ h < 24) → (0 ≤ lo ∧ lo < 24) → v = hdW (Z 23) nb d h lo → OkZ none 39 7 [some (.ref 13), some (.int (I b)), some (.int (I h)), some (.int (I lo)), some (.int (I t))] [] Z J (fun r Z' J' => r = some (.int (I v)) ∧ Z' = Z ∧ J' = J) := by
  intro d
  induction d with
  | zero =>
    intro t h lo v ht hh hlo hv
    refine z_iload rfl rfl ?_
    refine z_aload_n rfl rfl ?_
    refine z_getI (bi := 0) rfl rfl rfl rfl ?_
    refine z_icmp_ge rfl (by omega) (by omega) (fun h13 => ?_) (fun h13 => ?_)
    · refine z_iload_n rfl rfl ?_
      exact z_iret rfl rfl ⟨by rw [hv]; rfl, rfl, rfl⟩
    · omega
  | succ d ih =>
    intro t h lo v ht hh hlo hv
    have hw : v = if 0 ≤ h ∧ h < nb ∧ Z 23 h ≠ -1 then hdW (Z 23) nb d (Z 23 h) (if Z 23 h < lo then Z 23 h else lo) else h := hv
    refine z_iload rfl rfl ?_
    refine z_aload_n rfl rfl ?_
    refine z_getI (bi := 0) rfl rfl rfl rfl ?_
    refine z_icmp_ge rfl (by omega) (by omega) (fun h13 => ?_) (fun h13 => ?_)
    · omega
    · refine z_aload_n rfl rfl ?_
      refine z_iload_n rfl rfl ?_
      refine z_callV1 rfl rfl rfl rfl rfl rfl (s_ghas (by omega) (by omega)) ?_
      refine z_ifb_eq rfl (fun h21 => ?_) (fun h21 => ?_)
      · refine z_iload_n rfl rfl ?_
        exact z_iret rfl rfl ⟨by rw [hw, if_neg (fun q => of_decide_eq_false h21 ⟨q.1, by omega⟩)], rfl, rfl⟩
      · have hin := of_decide_eq_true h21
        have hz := hJ h hin.1 (by omega)
        refine z_aload_n rfl rfl ?_
        refine z_getR rfl rfl rfl rfl ?_
        refine z_iload_n rfl rfl ?_
        refine z_iald rfl rfl (by have := of_decide_eq_true h21; omega) ?_
        refine z_iconst rfl ?_
        refine z_icmp_ne rfl (by omega) (by omega) (fun h31 => ?_) (fun h31 => ?_)
        · rw [if_pos ⟨hin.1, by omega, h31⟩] at hw
          refine z_aload_n rfl rfl ?_
          refine z_getR rfl rfl rfl rfl ?_
          refine z_iload_n rfl rfl ?_
          refine z_iald rfl rfl (by omega) ?_
          refine z_istore_n rfl rfl rfl ?_
          refine z_iload_n rfl rfl ?_
          refine z_iload_n rfl rfl ?_
          refine z_callS2 rfl rfl rfl rfl (s_min (by omega) (by omega)) ?_
          refine z_istore_n rfl rfl rfl ?_
          refine z_iinc rfl rfl rfl rfl ?_
          refine z_goto rfl ?_
          exact ih (t + 1) _ _ v (by omega) (by omega) (by split <;> omega) hw
        · refine z_iload_n rfl rfl ?_
          exact z_iret rfl rfl ⟨by rw [hw, if_neg (fun q => q.2.2 h31)], rfl, rfl⟩
theorem s_headOf {Z : ZW} {J : Int64} {nb : Nat} {b : Int} (hnb : Z 14 0 = nb) (hnb2 : nb ≤ 24) (hJ : ∀ p, 0 ≤ p → p < (nb : Int) → -1 ≤ Z 23 p ∧ Z 23 p < nb) (hb : 0 ≤ b ∧ b < 24) : D 39 [.ref 13, .int (I b)] Z J (some (.int (I (hdW (Z 23) nb nb b b)))) Z J := by
  unfold D Mz
  refine z_iload_n rfl rfl ?_
  refine z_istore_n rfl rfl rfl ?_
  refine z_iload_n rfl rfl ?_
  refine z_istore_n rfl rfl rfl ?_
  refine z_iconst rfl ?_
  refine z_istore rfl rfl rfl ?_
  exact l_headOf hnb hnb2 hJ nb 0 b b _ (by omega) hb hb rfl
theorem rcI_RG {S : FI} {m : Int} (hm : RG m) : ∀ t, RG (rcI S t m) := by
  intro t
  induction t with
  | zero => exact hm
  | succ t ih =>
    unfold rcI
    split
    · exact orI_RG _ _
    · exact ih
theorem l_reach_in {Z : ZW} {J : Int64} {nb : Nat} (hnb : Z 14 0 = nb) (hnb2 : nb ≤ 24) (hS : ∀ p, 0 ≤ p → p < (nb : Int) → RG (Z 19 p)) {Φ : ZΦ} {m : Int} {x2 x3 : Option Value} (hk : OkZ none 40 66 [some (.ref 13), some (.int (I (rcI (Z 19) nb m))), x2, x3, some (.int (I (nb : Int)))] [] Z J Φ) (hx : x3.map (fun v => v.category) = some 1) : ∀ (d t : Nat) (v : Int), t + d = nb → v = rcI (Z 19) t m → OkZ none 40 32 [some (.ref 13), some (.int (I v)), x2, x3, some (.int (I t))] [] Z J Φ := by
  intro d
  induction d with
  | zero =>
    intro t v ht hv
    have e : t = nb := by omega
    subst e
    subst hv
    refine z_iload rfl rfl ?_
    refine z_aload_n rfl rfl ?_
    refine z_getI (bi := 0) rfl rfl rfl rfl ?_
    refine z_icmp_ge rfl (by omega) (by omega) (fun h38 => ?_) (fun h38 => ?_)
    · exact hk
    · omega
  | succ d ih =>
    intro t v ht hv
    have hhb : hbB v t = tbI v t := by unfold hbB; rw [decide_eq_true (by omega), Bool.true_and]
    have hs : rcI (Z 19) (t + 1) m = if tbI v t then orI v (Z 19 t) else v := by rw [hv]; rfl
    have hg4 : stG [some (.ref 13), some (.int (I v)), x2, x3, some (.int (I t))] 4 = true := by
      cases x3 with
      | none => simp at hx
      | some z => simpa [stG] using hx
    refine z_iload rfl rfl ?_
    refine z_aload_n rfl rfl ?_
    refine z_getI (bi := 0) rfl rfl rfl rfl ?_
    refine z_icmp_ge rfl (by omega) (by omega) (fun h38 => ?_) (fun h38 => ?_)
    · omega
    · refine z_iload_n rfl rfl ?_
      refine z_iload rfl rfl ?_
      refine z_callS2 rfl rfl rfl rfl (s_contains (by omega)) ?_
      refine z_ifb_eq rfl (fun h47 => ?_) (fun h47 => ?_)
      · refine z_iinc rfl rfl rfl hg4 ?_
        refine z_goto rfl ?_
        exact ih (t + 1) _ (by omega) (by rw [hs, ← hhb, h47]; rfl)
      · refine z_iload_n rfl rfl ?_
        refine z_aload_n rfl rfl ?_
        refine z_getR rfl rfl rfl rfl ?_
        refine z_iload rfl rfl ?_
        refine z_iald rfl rfl (by omega) ?_
        refine z_ior rfl (I_orI _ _) ?_
        refine z_istore_n rfl rfl rfl ?_
        refine z_iinc rfl rfl rfl hg4 ?_
        refine z_goto rfl ?_
        exact ih (t + 1) _ (by omega) (by rw [hs, ← hhb, h47]; rfl)
theorem l_reach {Z : ZW} {J : Int64} {nb : Nat} (hnb : Z 14 0 = nb) (hnb2 : nb ≤ 24) (hS : ∀ p, 0 ≤ p → p < (nb : Int) → RG (Z 19 p)) : ∀ (d t : Nat) (m v : Int) (x3 x4 : Option Value), t + d = nb → RG m → v = rcR (Z 19) nb d m → (x3 = none ∨ ∃ z, x3 = some (.int z)) → OkZ none 40 19 [some (.ref 13), some (.int (I m)), some (.int (I t)), x3, x4] [] Z J (fun r Z' J' => r = some (.int (I v)) ∧ Z' = Z ∧ J' = J) := by
  intro d
  induction d with
  | zero =>
    intro t m v x3 x4 ht hm hv hx
    refine z_iload_n rfl rfl ?_
    refine z_aload_n rfl rfl ?_
    refine z_getI (bi := 0) rfl rfl rfl rfl ?_
    refine z_icmp_ge rfl (by omega) (by omega) (fun h24 => ?_) (fun h24 => ?_)
    · refine z_iload_n rfl rfl ?_
      exact z_iret rfl rfl ⟨by rw [hv]; rfl, rfl, rfl⟩
    · omega
  | succ d ih =>
    intro t m v x3 x4 ht hm hv hx
    have hw : v = if rcI (Z 19) nb m = m then m else rcR (Z 19) nb d (rcI (Z 19) nb m) := hv
    have hr := rcI_RG (S := Z 19) hm nb
    have hin : OkZ none 40 66 [some (.ref 13), some (.int (I (rcI (Z 19) nb m))), some (.int (I t)), some (.int (I m)), some (.int (I (nb : Int)))] [] Z J (fun r Z' J' => r = some (.int (I v)) ∧ Z' = Z ∧ J' = J) := by
      refine z_iload_n rfl rfl ?_
      refine z_iload_n rfl rfl ?_
      refine z_icmp_ne rfl (by omega) (by omega) (fun h68 => ?_) (fun h68 => ?_)
      · refine z_iinc rfl rfl rfl rfl ?_
        refine z_goto rfl ?_
        exact ih (t + 1) _ v _ _ (by omega) hr (by rw [hw, if_neg h68]) (Or.inr ⟨_, rfl⟩)
      · refine z_iload_n rfl rfl ?_
        exact z_iret rfl rfl ⟨by rw [hw, if_pos h68, h68], rfl, rfl⟩
    refine z_iload_n rfl rfl ?_
    refine z_aload_n rfl rfl ?_
    refine z_getI (bi := 0) rfl rfl rfl rfl ?_
    refine z_icmp_ge rfl (by omega) (by omega) (fun h24 => ?_) (fun h24 => ?_)
    · omega
    · refine z_iload_n rfl rfl ?_
      refine z_istore_n rfl rfl rfl ?_
      refine z_iconst rfl ?_
      refine z_istore rfl rfl rfl ?_
      exact l_reach_in hnb hnb2 hS hin rfl nb 0 m (by omega) rfl
theorem s_reach {Z : ZW} {J : Int64} {nb : Nat} (hnb : Z 14 0 = nb) (hnb2 : nb ≤ 24) (hS : ∀ p, 0 ≤ p → p < (nb : Int) → RG (Z 19 p)) : D 40 [.ref 13] Z J (some (.int (I (rcR (Z 19) nb nb (if nb = 0 then 0 else bitv 0))))) Z J := by
  unfold D Mz
  refine z_aload_n rfl rfl ?_
  refine z_iconst rfl ?_
  refine z_callV1 rfl rfl rfl rfl rfl rfl (s_ghas (by omega) (by omega)) ?_
  refine z_ifb_eq rfl (fun h5 => ?_) (fun h5 => ?_)
  · refine z_iconst rfl ?_
    refine z_istore_n rfl rfl rfl ?_
    refine z_iconst rfl ?_
    refine z_istore_n rfl rfl rfl ?_
    have e0 : ¬ (nb = 0) → False := fun q => of_decide_eq_false h5 ⟨by omega, by omega⟩
    exact l_reach hnb hnb2 hS nb 0 0 _ _ _ (by omega) (by omega) (by rw [if_pos (Decidable.byContradiction e0)]) (Or.inl rfl)
  · refine z_iconst rfl ?_
    refine z_callS1 rfl rfl rfl rfl (s_bit (by omega)) ?_
    refine z_goto rfl ?_
    refine z_istore_n rfl rfl rfl ?_
    refine z_iconst rfl ?_
    refine z_istore_n rfl rfl rfl ?_
    have e0 := of_decide_eq_true h5
    exact l_reach hnb hnb2 hS nb 0 (bitv 0) _ _ _ (by omega) (bitv_RG 0).1 (by rw [if_neg (by omega)]) (Or.inl rfl)
