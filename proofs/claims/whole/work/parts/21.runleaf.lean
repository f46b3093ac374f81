/-! the class: runs -/
def nR (o a b : Int) (v : FI) : FI := if o = 0 then updF v a (v a + b) else if o = 1 then updF v a b else if o = 2 then updF v a (v b) else if o = 3 then updF v a (v a - v b) else v
def nA (o a b : Int) (v : FI) (i : Int) : Int := if o < 4 then i + 1 else if o = 4 then b else if o = 5 then (if I (v a) = 0 then b else i + 1) else if o = 6 then (if I (v a) < 0 then b else i + 1) else 24
/-- a run's result: status, steps, remaining, charges, stop, registers -/
abbrev RES : Type := Int × Int × Int × Int × Int × FI
def rn (n : Nat) (op ra rb ic en : FI) : Nat → Nat → Int → Bool → Int → Int → FI → RES
  | 0, s, at_, _, rem, ch, v => if 0 ≤ at_ ∧ at_ < n then (2, s, rem, ch, at_, v) else (0, s, rem, ch, -1, v)
  | d + 1, s, at_, paid, rem, ch, v =>
    if 0 ≤ at_ ∧ at_ < n then
      let paid1 := if 0 < en at_ then decide (en at_ ≤ rem) else paid
      let rem1 := if 0 < en at_ ∧ en at_ ≤ rem then rem - en at_ else rem
      let ch1 := if 0 < en at_ ∧ en at_ ≤ rem then ch + 1 else ch
      if paid1 then rn n op ra rb ic en d (s + 1) (nA (op at_) (ra at_) (rb at_) v at_) paid1 rem1 ch1 (nR (op at_) (ra at_) (rb at_) v)
      else if ic at_ ≤ rem1 then rn n op ra rb ic en d (s + 1) (nA (op at_) (ra at_) (rb at_) v at_) paid1 (rem1 - ic at_) (ch1 + 1) (nR (op at_) (ra at_) (rb at_) v)
      else (1, s, rem1, ch1, at_, v)
    else (0, s, rem, ch, -1, v)
def WFP (op ra rb : FI) (n : Nat) : Prop := ∀ i, 0 ≤ i → i < (n : Int) → (0 ≤ op i ∧ op i ≤ 7) ∧ (0 ≤ ra i ∧ ra i ≤ 3) ∧ (-99 ≤ rb i ∧ rb i ≤ 99) ∧ ((op i = 2 ∨ op i = 3) → 0 ≤ rb i ∧ rb i ≤ 3) ∧ (4 ≤ op i → 0 ≤ rb i ∧ rb i ≤ 24)
theorem nA_in {op ra rb : FI} {n : Nat} (h : WFP op ra rb n) (hn : n ≤ 24) {i : Int} (h0 : 0 ≤ i) (h1 : i < n) (v : FI) : 0 ≤ nA (op i) (ra i) (rb i) v i ∧ nA (op i) (ra i) (rb i) v i ≤ 24 := by
  obtain ⟨a1, a2, a3, a4, a5⟩ := h i h0 h1
  unfold nA
  split
  · omega
  · have := a5 (by omega)
    split
    · omega
    · split
      · split <;> omega
      · split
        · split <;> omega
        · omega
theorem s_valueOf_59 {Z : ZW} {J : Int64} {r : Int} (hr : RG r) : D 19 [.ref 59, .int (I r)] Z J (some (.int (I (if 0 ≤ r ∧ r < 4 then Z 60 r else 0)))) Z J := by
  unfold D Mz
  refine z_iload_n rfl rfl ?_
  refine z_if_lt rfl (by omega) (fun h1 => ?_) (fun h1 => ?_)
  · refine z_iconst rfl ?_
    exact z_iret rfl rfl ⟨by rw [if_neg (by omega)], rfl, rfl⟩
  · refine z_iload_n rfl rfl ?_
    refine z_iconst rfl ?_
    refine z_icmp_ge rfl (by omega) (by omega) (fun h6 => ?_) (fun h6 => ?_)
    · refine z_iconst rfl ?_
      exact z_iret rfl rfl ⟨by rw [if_neg (by omega)], rfl, rfl⟩
    · refine z_aload_n rfl rfl ?_
      refine z_getR rfl rfl rfl rfl ?_
      refine z_iload_n rfl rfl ?_
      refine z_iald rfl rfl (by omega) ?_
      refine z_goto rfl ?_
      exact z_iret rfl rfl ⟨by rw [if_pos (by omega)], rfl, rfl⟩
theorem s_put_59 {Z : ZW} {J : Int64} {r w : Int} (hr : 0 ≤ r ∧ r < 4) : D 20 [.ref 59, .int (I r), .int (I w)] Z J none (up Z 60 r w) J := by
  unfold D Mz
  refine z_iload_n rfl rfl ?_
  refine z_if_lt rfl (by omega) (fun h1 => ?_) (fun h1 => ?_)
  · exfalso; omega
  · refine z_iload_n rfl rfl ?_
    refine z_iconst rfl ?_
    refine z_icmp_ge rfl (by omega) (by omega) (fun h6 => ?_) (fun h6 => ?_)
    · exfalso; omega
    · refine z_aload_n rfl rfl ?_
      refine z_getR rfl rfl rfl rfl ?_
      refine z_iload_n rfl rfl ?_
      refine z_iload_n rfl rfl ?_
      refine z_iast rfl rfl (by omega) ?_
      exact z_vret rfl rfl ⟨rfl, rfl, rfl⟩
theorem s_finish_59 {Z : ZW} {J : Int64} {a b : Int} : D 18 [.ref 59, .int (I a), .int (I b)] Z J none (up (up Z 59 0 a) 59 4 b) J := by
  unfold D Mz
  refine z_aload_n rfl rfl ?_
  refine z_iload_n rfl rfl ?_
  refine z_putI (bi := 0) rfl rfl rfl rfl rfl ?_
  refine z_aload_n rfl rfl ?_
  refine z_iload_n rfl rfl ?_
  refine z_putI (bi := 4) rfl rfl rfl rfl rfl ?_
  exact z_vret rfl rfl ⟨rfl, rfl, rfl⟩
theorem s_pay_59 {Z : ZW} {J : Int64} {p : Int} (hp : RG p) (hz : RG (Z 59 2)) : D 17 [.ref 59, .int (I p)] Z J (some (bI (decide (p ≤ Z 59 2)))) (if p ≤ Z 59 2 then up (up Z 59 2 (Z 59 2 - p)) 59 3 (Z 59 3 + 1) else Z) J := by
  unfold D Mz
  refine z_aload_n rfl rfl ?_
  refine z_getI (bi := 2) rfl rfl rfl rfl ?_
  refine z_iload_n rfl rfl ?_
  refine z_icmp_ge rfl (by omega) (by omega) (fun h5 => ?_) (fun h5 => ?_)
  · refine z_aload_n rfl rfl ?_
    refine z_dup rfl rfl ?_
    refine z_getI (bi := 2) rfl rfl rfl rfl ?_
    refine z_iload_n rfl rfl ?_
    refine z_isub rfl ?_
    refine z_putI (bi := 2) rfl rfl rfl rfl rfl ?_
    refine z_aload_n rfl rfl ?_
    refine z_dup rfl rfl ?_
    refine z_getI (bi := 3) rfl rfl rfl rfl ?_
    refine z_iconst rfl ?_
    refine z_iadd rfl ?_
    refine z_putI (bi := 3) rfl rfl rfl rfl rfl ?_
    refine z_iconst rfl ?_
    exact z_bret1 rfl rfl ⟨bz1 (decide_eq_true h5), by rw [if_pos h5]; rfl, rfl⟩
  · refine z_iconst rfl ?_
    exact z_bret0 rfl rfl ⟨bz0 (decide_eq_false h5), by rw [if_neg h5], rfl⟩
theorem s_begin_59 {Z : ZW} {J : Int64} {bu : Int} : Mz 15 [.ref 59, .int (I bu)] Z J (fun r Z' J' => r = none ∧ J' = J ∧ Z' 59 0 = 0 ∧ Z' 59 2 = bu ∧ Z' 59 3 = 0 ∧ Z' 59 4 = -1 ∧ (∀ q, 0 ≤ q → q < (4 : Int) → Z' 60 q = 0) ∧ ∀ (k : Nat) (j : Int), k ≠ 59 → k ≠ 60 → Z' k j = Z k j) := by
  unfold Mz
  refine z_aload_n rfl rfl ?_
  refine z_iconst rfl ?_
  refine z_putI (bi := 0) rfl rfl rfl rfl rfl ?_
  refine z_aload_n rfl rfl ?_
  refine z_iload_n rfl rfl ?_
  refine z_putI (bi := 2) rfl rfl rfl rfl rfl ?_
  refine z_aload_n rfl rfl ?_
  refine z_iconst rfl ?_
  refine z_putI (bi := 3) rfl rfl rfl rfl rfl ?_
  refine z_aload_n rfl rfl ?_
  refine z_iconst rfl ?_
  refine z_putI (bi := 4) rfl rfl rfl rfl rfl ?_
  refine z_iconst rfl ?_
  refine z_istore_n rfl rfl rfl ?_
  refine z_iload_n rfl rfl ?_
  refine z_iconst rfl ?_
  refine z_icmp_ge rfl (by omega) (by omega) (fun h24 => ?_) (fun h24 => ?_)
  · exfalso; omega
  · refine z_aload_n rfl rfl ?_
    refine z_getR rfl rfl rfl rfl ?_
    refine z_iload_n rfl rfl ?_
    refine z_iconst rfl ?_
    refine z_iast rfl rfl (by omega) ?_
    refine z_iinc rfl rfl rfl rfl ?_
    refine z_goto rfl ?_
    refine z_iload_n rfl rfl ?_
    refine z_iconst rfl ?_
    refine z_icmp_ge rfl (by omega) (by omega) (fun h24 => ?_) (fun h24 => ?_)
    · exfalso; omega
    · refine z_aload_n rfl rfl ?_
      refine z_getR rfl rfl rfl rfl ?_
      refine z_iload_n rfl rfl ?_
      refine z_iconst rfl ?_
      refine z_iast rfl rfl (by omega) ?_
      refine z_iinc rfl rfl rfl rfl ?_
      refine z_goto rfl ?_
      refine z_iload_n rfl rfl ?_
      refine z_iconst rfl ?_
      refine z_icmp_ge rfl (by omega) (by omega) (fun h24 => ?_) (fun h24 => ?_)
      · exfalso; omega
      · refine z_aload_n rfl rfl ?_
        refine z_getR rfl rfl rfl rfl ?_
        refine z_iload_n rfl rfl ?_
        refine z_iconst rfl ?_
        refine z_iast rfl rfl (by omega) ?_
        refine z_iinc rfl rfl rfl rfl ?_
        refine z_goto rfl ?_
        refine z_iload_n rfl rfl ?_
        refine z_iconst rfl ?_
        refine z_icmp_ge rfl (by omega) (by omega) (fun h24 => ?_) (fun h24 => ?_)
        · exfalso; omega
        · refine z_aload_n rfl rfl ?_
          refine z_getR rfl rfl rfl rfl ?_
          refine z_iload_n rfl rfl ?_
          refine z_iconst rfl ?_
          refine z_iast rfl rfl (by omega) ?_
          refine z_iinc rfl rfl rfl rfl ?_
          refine z_goto rfl ?_
          refine z_iload_n rfl rfl ?_
          refine z_iconst rfl ?_
          refine z_icmp_ge rfl (by omega) (by omega) (fun h24 => ?_) (fun h24 => ?_)
          · refine z_vret rfl rfl ⟨rfl, rfl, by simp [up], by simp [up], by simp [up], by simp [up], fun q q0 q1 => ?_, fun k j k1 k2 => by simp [up, k1, k2]⟩
            have hq : q = 0 ∨ q = 1 ∨ q = 2 ∨ q = 3 := by omega
            rcases hq with rfl | rfl | rfl | rfl <;> simp [up]
          · exfalso; omega
set_option maxHeartbeats 4000000 in
theorem s_perform_59 {Z : ZW} {J : Int64} {n : Nat} {i : Int} (hn2 : n ≤ 24) (hw : WFP (Z 5) (Z 6) (Z 7) n) (h0 : 0 ≤ i ∧ i < n) : Mz 21 [.ref 59, .ref 3, .int (I i)] Z J (fun r Z' J' => r = some (.int (I (nA (Z 5 i) (Z 6 i) (Z 7 i) (Z 60) i))) ∧ J' = J ∧ (∀ q, 0 ≤ q → q < (4 : Int) → Z' 60 q = nR (Z 5 i) (Z 6 i) (Z 7 i) (Z 60) q) ∧ ∀ (k : Nat) (j : Int), k ≠ 60 → Z' k j = Z k j) := by
  unfold Mz
  obtain ⟨a1, a2, a3, a4, a5⟩ := hw i h0.1 h0.2
  have ev : (if 0 ≤ Z 6 i ∧ Z 6 i < 4 then Z 60 (Z 6 i) else 0) = Z 60 (Z 6 i) := if_pos (by omega)
  have hc : Z 5 i = 0 ∨ Z 5 i = 1 ∨ Z 5 i = 2 ∨ Z 5 i = 3 ∨ Z 5 i = 4 ∨ Z 5 i = 5 ∨ Z 5 i = 6 ∨ Z 5 i = 7 := by omega
  refine z_aload_n rfl rfl ?_
  refine z_getR rfl rfl rfl rfl ?_
  refine z_iload_n rfl rfl ?_
  refine z_iald rfl rfl (by omega) ?_
  refine z_istore_n rfl rfl rfl ?_
  refine z_aload_n rfl rfl ?_
  refine z_getR rfl rfl rfl rfl ?_
  refine z_iload_n rfl rfl ?_
  refine z_iald rfl rfl (by omega) ?_
  refine z_istore rfl rfl rfl ?_
  refine z_aload_n rfl rfl ?_
  refine z_iload_n rfl rfl ?_
  refine z_callV1 rfl rfl rfl rfl rfl rfl (s_valueOf_59 (by omega)) ?_
  rw [ev]
  refine z_istore rfl rfl rfl ?_
  refine z_aload_n rfl rfl ?_
  refine z_getR rfl rfl rfl rfl ?_
  refine z_iload_n rfl rfl ?_
  refine z_iald rfl rfl (by omega) ?_
  rcases hc with h | h | h | h | h | h | h | h <;> rw [h]
  · refine z_swIn (tgt := 72) rfl (by decide) (by decide) (by decide) rfl rfl ?_
    refine z_aload_n rfl rfl ?_
    refine z_iload_n rfl rfl ?_
    refine z_iload rfl rfl ?_
    refine z_iload rfl rfl ?_
    refine z_iadd rfl ?_
    refine z_callV2v rfl rfl rfl rfl rfl rfl (s_put_59 (by omega)) ?_
    refine z_iload_n rfl rfl ?_
    refine z_iconst rfl ?_
    refine z_iadd rfl ?_
    exact z_iret rfl rfl ⟨by simp [nA], rfl, fun q q0 q1 => by simp [nR, updF, up], fun k j hk => by simp [up, hk]⟩
  · refine z_swIn (tgt := 86) rfl (by decide) (by decide) (by decide) rfl rfl ?_
    refine z_aload_n rfl rfl ?_
    refine z_iload_n rfl rfl ?_
    refine z_iload rfl rfl ?_
    refine z_callV2v rfl rfl rfl rfl rfl rfl (s_put_59 (by omega)) ?_
    refine z_iload_n rfl rfl ?_
    refine z_iconst rfl ?_
    refine z_iadd rfl ?_
    exact z_iret rfl rfl ⟨by simp [nA], rfl, fun q q0 q1 => by simp [nR, updF, up], fun k j hk => by simp [up, hk]⟩
  · refine z_swIn (tgt := 97) rfl (by decide) (by decide) (by decide) rfl rfl ?_
    have hb := a4 (by omega)
    have eb : (if 0 ≤ Z 7 i ∧ Z 7 i < 4 then Z 60 (Z 7 i) else 0) = Z 60 (Z 7 i) := if_pos (by omega)
    refine z_aload_n rfl rfl ?_
    refine z_iload_n rfl rfl ?_
    refine z_aload_n rfl rfl ?_
    refine z_iload rfl rfl ?_
    refine z_callV1 rfl rfl rfl rfl rfl rfl (s_valueOf_59 (by omega)) ?_
    rw [eb]
    refine z_callV2v rfl rfl rfl rfl rfl rfl (s_put_59 (by omega)) ?_
    refine z_iload_n rfl rfl ?_
    refine z_iconst rfl ?_
    refine z_iadd rfl ?_
    exact z_iret rfl rfl ⟨by simp [nA], rfl, fun q q0 q1 => by simp [nR, updF, up], fun k j hk => by simp [up, hk]⟩
  · refine z_swIn (tgt := 112) rfl (by decide) (by decide) (by decide) rfl rfl ?_
    have hb := a4 (by omega)
    have eb : (if 0 ≤ Z 7 i ∧ Z 7 i < 4 then Z 60 (Z 7 i) else 0) = Z 60 (Z 7 i) := if_pos (by omega)
    refine z_aload_n rfl rfl ?_
    refine z_iload_n rfl rfl ?_
    refine z_iload rfl rfl ?_
    refine z_aload_n rfl rfl ?_
    refine z_iload rfl rfl ?_
    refine z_callV1 rfl rfl rfl rfl rfl rfl (s_valueOf_59 (by omega)) ?_
    rw [eb]
    refine z_isub rfl ?_
    refine z_callV2v rfl rfl rfl rfl rfl rfl (s_put_59 (by omega)) ?_
    refine z_iload_n rfl rfl ?_
    refine z_iconst rfl ?_
    refine z_iadd rfl ?_
    exact z_iret rfl rfl ⟨by simp [nA], rfl, fun q q0 q1 => by simp [nR, updF, up], fun k j hk => by simp [up, hk]⟩
  · refine z_swIn (tgt := 130) rfl (by decide) (by decide) (by decide) rfl rfl ?_
    refine z_iload rfl rfl ?_
    exact z_iret rfl rfl ⟨by simp [nA], rfl, fun q q0 q1 => by simp [nR], fun k j hk => rfl⟩
  · refine z_swIn (tgt := 133) rfl (by decide) (by decide) (by decide) rfl rfl ?_
    refine z_iload rfl rfl ?_
    refine z_rif_ne rfl (fun h135 => ?_) (fun h135 => ?_)
    · refine z_iload_n rfl rfl ?_
      refine z_iconst rfl ?_
      refine z_iadd rfl ?_
      exact z_iret rfl rfl ⟨by simp [nA, h135], rfl, fun q q0 q1 => by simp [nR], fun k j hk => rfl⟩
    · refine z_iload rfl rfl ?_
      refine z_goto rfl ?_
      exact z_iret rfl rfl ⟨by simp [nA, h135], rfl, fun q q0 q1 => by simp [nR], fun k j hk => rfl⟩
  · refine z_swIn (tgt := 147) rfl (by decide) (by decide) (by decide) rfl rfl ?_
    refine z_iload rfl rfl ?_
    refine z_rif_ge rfl (fun h149 => ?_) (fun h149 => ?_)
    · refine z_iload_n rfl rfl ?_
      refine z_iconst rfl ?_
      refine z_iadd rfl ?_
      exact z_iret rfl rfl ⟨by simp [nA, Int32.not_lt.mpr h149], rfl, fun q q0 q1 => by simp [nR], fun k j hk => rfl⟩
    · refine z_iload rfl rfl ?_
      refine z_goto rfl ?_
      exact z_iret rfl rfl ⟨by simp [nA, Int32.not_le.mp h149], rfl, fun q q0 q1 => by simp [nR], fun k j hk => rfl⟩
  · refine z_swOut (tgt := 161) rfl (by decide) (by decide) rfl ?_
    refine z_bipush rfl (by decide) ?_
    exact z_iret rfl rfl ⟨by simp [nA], rfl, fun q q0 q1 => by simp [nR], fun k j hk => rfl⟩
theorem s_valueOf_61 {Z : ZW} {J : Int64} {r : Int} (hr : RG r) : D 19 [.ref 61, .int (I r)] Z J (some (.int (I (if 0 ≤ r ∧ r < 4 then Z 62 r else 0)))) Z J := by
  unfold D Mz
  refine z_iload_n rfl rfl ?_
  refine z_if_lt rfl (by omega) (fun h1 => ?_) (fun h1 => ?_)
  · refine z_iconst rfl ?_
    exact z_iret rfl rfl ⟨by rw [if_neg (by omega)], rfl, rfl⟩
  · refine z_iload_n rfl rfl ?_
    refine z_iconst rfl ?_
    refine z_icmp_ge rfl (by omega) (by omega) (fun h6 => ?_) (fun h6 => ?_)
    · refine z_iconst rfl ?_
      exact z_iret rfl rfl ⟨by rw [if_neg (by omega)], rfl, rfl⟩
    · refine z_aload_n rfl rfl ?_
      refine z_getR rfl rfl rfl rfl ?_
      refine z_iload_n rfl rfl ?_
      refine z_iald rfl rfl (by omega) ?_
      refine z_goto rfl ?_
      exact z_iret rfl rfl ⟨by rw [if_pos (by omega)], rfl, rfl⟩
theorem s_put_61 {Z : ZW} {J : Int64} {r w : Int} (hr : 0 ≤ r ∧ r < 4) : D 20 [.ref 61, .int (I r), .int (I w)] Z J none (up Z 62 r w) J := by
  unfold D Mz
  refine z_iload_n rfl rfl ?_
  refine z_if_lt rfl (by omega) (fun h1 => ?_) (fun h1 => ?_)
  · exfalso; omega
  · refine z_iload_n rfl rfl ?_
    refine z_iconst rfl ?_
    refine z_icmp_ge rfl (by omega) (by omega) (fun h6 => ?_) (fun h6 => ?_)
    · exfalso; omega
    · refine z_aload_n rfl rfl ?_
      refine z_getR rfl rfl rfl rfl ?_
      refine z_iload_n rfl rfl ?_
      refine z_iload_n rfl rfl ?_
      refine z_iast rfl rfl (by omega) ?_
      exact z_vret rfl rfl ⟨rfl, rfl, rfl⟩
theorem s_finish_61 {Z : ZW} {J : Int64} {a b : Int} : D 18 [.ref 61, .int (I a), .int (I b)] Z J none (up (up Z 61 0 a) 61 4 b) J := by
  unfold D Mz
  refine z_aload_n rfl rfl ?_
  refine z_iload_n rfl rfl ?_
  refine z_putI (bi := 0) rfl rfl rfl rfl rfl ?_
  refine z_aload_n rfl rfl ?_
  refine z_iload_n rfl rfl ?_
  refine z_putI (bi := 4) rfl rfl rfl rfl rfl ?_
  exact z_vret rfl rfl ⟨rfl, rfl, rfl⟩
theorem s_pay_61 {Z : ZW} {J : Int64} {p : Int} (hp : RG p) (hz : RG (Z 61 2)) : D 17 [.ref 61, .int (I p)] Z J (some (bI (decide (p ≤ Z 61 2)))) (if p ≤ Z 61 2 then up (up Z 61 2 (Z 61 2 - p)) 61 3 (Z 61 3 + 1) else Z) J := by
  unfold D Mz
  refine z_aload_n rfl rfl ?_
  refine z_getI (bi := 2) rfl rfl rfl rfl ?_
  refine z_iload_n rfl rfl ?_
  refine z_icmp_ge rfl (by omega) (by omega) (fun h5 => ?_) (fun h5 => ?_)
  · refine z_aload_n rfl rfl ?_
    refine z_dup rfl rfl ?_
    refine z_getI (bi := 2) rfl rfl rfl rfl ?_
    refine z_iload_n rfl rfl ?_
    refine z_isub rfl ?_
    refine z_putI (bi := 2) rfl rfl rfl rfl rfl ?_
    refine z_aload_n rfl rfl ?_
    refine z_dup rfl rfl ?_
    refine z_getI (bi := 3) rfl rfl rfl rfl ?_
    refine z_iconst rfl ?_
    refine z_iadd rfl ?_
    refine z_putI (bi := 3) rfl rfl rfl rfl rfl ?_
    refine z_iconst rfl ?_
    exact z_bret1 rfl rfl ⟨bz1 (decide_eq_true h5), by rw [if_pos h5]; rfl, rfl⟩
  · refine z_iconst rfl ?_
    exact z_bret0 rfl rfl ⟨bz0 (decide_eq_false h5), by rw [if_neg h5], rfl⟩
theorem s_begin_61 {Z : ZW} {J : Int64} {bu : Int} : Mz 15 [.ref 61, .int (I bu)] Z J (fun r Z' J' => r = none ∧ J' = J ∧ Z' 61 0 = 0 ∧ Z' 61 2 = bu ∧ Z' 61 3 = 0 ∧ Z' 61 4 = -1 ∧ (∀ q, 0 ≤ q → q < (4 : Int) → Z' 62 q = 0) ∧ ∀ (k : Nat) (j : Int), k ≠ 61 → k ≠ 62 → Z' k j = Z k j) := by
  unfold Mz
  refine z_aload_n rfl rfl ?_
  refine z_iconst rfl ?_
  refine z_putI (bi := 0) rfl rfl rfl rfl rfl ?_
  refine z_aload_n rfl rfl ?_
  refine z_iload_n rfl rfl ?_
  refine z_putI (bi := 2) rfl rfl rfl rfl rfl ?_
  refine z_aload_n rfl rfl ?_
  refine z_iconst rfl ?_
  refine z_putI (bi := 3) rfl rfl rfl rfl rfl ?_
  refine z_aload_n rfl rfl ?_
  refine z_iconst rfl ?_
  refine z_putI (bi := 4) rfl rfl rfl rfl rfl ?_
  refine z_iconst rfl ?_
  refine z_istore_n rfl rfl rfl ?_
  refine z_iload_n rfl rfl ?_
  refine z_iconst rfl ?_
  refine z_icmp_ge rfl (by omega) (by omega) (fun h24 => ?_) (fun h24 => ?_)
  · exfalso; omega
  · refine z_aload_n rfl rfl ?_
    refine z_getR rfl rfl rfl rfl ?_
    refine z_iload_n rfl rfl ?_
    refine z_iconst rfl ?_
    refine z_iast rfl rfl (by omega) ?_
    refine z_iinc rfl rfl rfl rfl ?_
    refine z_goto rfl ?_
    refine z_iload_n rfl rfl ?_
    refine z_iconst rfl ?_
    refine z_icmp_ge rfl (by omega) (by omega) (fun h24 => ?_) (fun h24 => ?_)
    · exfalso; omega
    · refine z_aload_n rfl rfl ?_
      refine z_getR rfl rfl rfl rfl ?_
      refine z_iload_n rfl rfl ?_
      refine z_iconst rfl ?_
      refine z_iast rfl rfl (by omega) ?_
      refine z_iinc rfl rfl rfl rfl ?_
      refine z_goto rfl ?_
      refine z_iload_n rfl rfl ?_
      refine z_iconst rfl ?_
      refine z_icmp_ge rfl (by omega) (by omega) (fun h24 => ?_) (fun h24 => ?_)
      · exfalso; omega
      · refine z_aload_n rfl rfl ?_
        refine z_getR rfl rfl rfl rfl ?_
        refine z_iload_n rfl rfl ?_
        refine z_iconst rfl ?_
        refine z_iast rfl rfl (by omega) ?_
        refine z_iinc rfl rfl rfl rfl ?_
        refine z_goto rfl ?_
        refine z_iload_n rfl rfl ?_
        refine z_iconst rfl ?_
        refine z_icmp_ge rfl (by omega) (by omega) (fun h24 => ?_) (fun h24 => ?_)
        · exfalso; omega
        · refine z_aload_n rfl rfl ?_
          refine z_getR rfl rfl rfl rfl ?_
          refine z_iload_n rfl rfl ?_
          refine z_iconst rfl ?_
          refine z_iast rfl rfl (by omega) ?_
          refine z_iinc rfl rfl rfl rfl ?_
          refine z_goto rfl ?_
          refine z_iload_n rfl rfl ?_
          refine z_iconst rfl ?_
          refine z_icmp_ge rfl (by omega) (by omega) (fun h24 => ?_) (fun h24 => ?_)
          · refine z_vret rfl rfl ⟨rfl, rfl, by simp [up], by simp [up], by simp [up], by simp [up], fun q q0 q1 => ?_, fun k j k1 k2 => by simp [up, k1, k2]⟩
            have hq : q = 0 ∨ q = 1 ∨ q = 2 ∨ q = 3 := by omega
            rcases hq with rfl | rfl | rfl | rfl <;> simp [up]
          · exfalso; omega
set_option maxHeartbeats 4000000 in
theorem s_perform_61 {Z : ZW} {J : Int64} {n : Nat} {i : Int} (hn2 : n ≤ 24) (hw : WFP (Z 5) (Z 6) (Z 7) n) (h0 : 0 ≤ i ∧ i < n) : Mz 21 [.ref 61, .ref 3, .int (I i)] Z J (fun r Z' J' => r = some (.int (I (nA (Z 5 i) (Z 6 i) (Z 7 i) (Z 62) i))) ∧ J' = J ∧ (∀ q, 0 ≤ q → q < (4 : Int) → Z' 62 q = nR (Z 5 i) (Z 6 i) (Z 7 i) (Z 62) q) ∧ ∀ (k : Nat) (j : Int), k ≠ 62 → Z' k j = Z k j) := by
  unfold Mz
  obtain ⟨a1, a2, a3, a4, a5⟩ := hw i h0.1 h0.2
  have ev : (if 0 ≤ Z 6 i ∧ Z 6 i < 4 then Z 62 (Z 6 i) else 0) = Z 62 (Z 6 i) := if_pos (by omega)
  have hc : Z 5 i = 0 ∨ Z 5 i = 1 ∨ Z 5 i = 2 ∨ Z 5 i = 3 ∨ Z 5 i = 4 ∨ Z 5 i = 5 ∨ Z 5 i = 6 ∨ Z 5 i = 7 := by omega
  refine z_aload_n rfl rfl ?_
  refine z_getR rfl rfl rfl rfl ?_
  refine z_iload_n rfl rfl ?_
  refine z_iald rfl rfl (by omega) ?_
  refine z_istore_n rfl rfl rfl ?_
  refine z_aload_n rfl rfl ?_
  refine z_getR rfl rfl rfl rfl ?_
  refine z_iload_n rfl rfl ?_
  refine z_iald rfl rfl (by omega) ?_
  refine z_istore rfl rfl rfl ?_
  refine z_aload_n rfl rfl ?_
  refine z_iload_n rfl rfl ?_
  refine z_callV1 rfl rfl rfl rfl rfl rfl (s_valueOf_61 (by omega)) ?_
  rw [ev]
  refine z_istore rfl rfl rfl ?_
  refine z_aload_n rfl rfl ?_
  refine z_getR rfl rfl rfl rfl ?_
  refine z_iload_n rfl rfl ?_
  refine z_iald rfl rfl (by omega) ?_
  rcases hc with h | h | h | h | h | h | h | h <;> rw [h]
  · refine z_swIn (tgt := 72) rfl (by decide) (by decide) (by decide) rfl rfl ?_
    refine z_aload_n rfl rfl ?_
    refine z_iload_n rfl rfl ?_
    refine z_iload rfl rfl ?_
    refine z_iload rfl rfl ?_
    refine z_iadd rfl ?_
    refine z_callV2v rfl rfl rfl rfl rfl rfl (s_put_61 (by omega)) ?_
    refine z_iload_n rfl rfl ?_
    refine z_iconst rfl ?_
    refine z_iadd rfl ?_
    exact z_iret rfl rfl ⟨by simp [nA], rfl, fun q q0 q1 => by simp [nR, updF, up], fun k j hk => by simp [up, hk]⟩
  · refine z_swIn (tgt := 86) rfl (by decide) (by decide) (by decide) rfl rfl ?_
    refine z_aload_n rfl rfl ?_
    refine z_iload_n rfl rfl ?_
    refine z_iload rfl rfl ?_
    refine z_callV2v rfl rfl rfl rfl rfl rfl (s_put_61 (by omega)) ?_
    refine z_iload_n rfl rfl ?_
    refine z_iconst rfl ?_
    refine z_iadd rfl ?_
    exact z_iret rfl rfl ⟨by simp [nA], rfl, fun q q0 q1 => by simp [nR, updF, up], fun k j hk => by simp [up, hk]⟩
  · refine z_swIn (tgt := 97) rfl (by decide) (by decide) (by decide) rfl rfl ?_
    have hb := a4 (by omega)
    have eb : (if 0 ≤ Z 7 i ∧ Z 7 i < 4 then Z 62 (Z 7 i) else 0) = Z 62 (Z 7 i) := if_pos (by omega)
    refine z_aload_n rfl rfl ?_
    refine z_iload_n rfl rfl ?_
    refine z_aload_n rfl rfl ?_
    refine z_iload rfl rfl ?_
    refine z_callV1 rfl rfl rfl rfl rfl rfl (s_valueOf_61 (by omega)) ?_
    rw [eb]
    refine z_callV2v rfl rfl rfl rfl rfl rfl (s_put_61 (by omega)) ?_
    refine z_iload_n rfl rfl ?_
    refine z_iconst rfl ?_
    refine z_iadd rfl ?_
    exact z_iret rfl rfl ⟨by simp [nA], rfl, fun q q0 q1 => by simp [nR, updF, up], fun k j hk => by simp [up, hk]⟩
  · refine z_swIn (tgt := 112) rfl (by decide) (by decide) (by decide) rfl rfl ?_
    have hb := a4 (by omega)
    have eb : (if 0 ≤ Z 7 i ∧ Z 7 i < 4 then Z 62 (Z 7 i) else 0) = Z 62 (Z 7 i) := if_pos (by omega)
    refine z_aload_n rfl rfl ?_
    refine z_iload_n rfl rfl ?_
    refine z_iload rfl rfl ?_
    refine z_aload_n rfl rfl ?_
    refine z_iload rfl rfl ?_
    refine z_callV1 rfl rfl rfl rfl rfl rfl (s_valueOf_61 (by omega)) ?_
    rw [eb]
    refine z_isub rfl ?_
    refine z_callV2v rfl rfl rfl rfl rfl rfl (s_put_61 (by omega)) ?_
    refine z_iload_n rfl rfl ?_
    refine z_iconst rfl ?_
    refine z_iadd rfl ?_
    exact z_iret rfl rfl ⟨by simp [nA], rfl, fun q q0 q1 => by simp [nR, updF, up], fun k j hk => by simp [up, hk]⟩
  · refine z_swIn (tgt := 130) rfl (by decide) (by decide) (by decide) rfl rfl ?_
    refine z_iload rfl rfl ?_
    exact z_iret rfl rfl ⟨by simp [nA], rfl, fun q q0 q1 => by simp [nR], fun k j hk => rfl⟩
  · refine z_swIn (tgt := 133) rfl (by decide) (by decide) (by decide) rfl rfl ?_
    refine z_iload rfl rfl ?_
    refine z_rif_ne rfl (fun h135 => ?_) (fun h135 => ?_)
    · refine z_iload_n rfl rfl ?_
      refine z_iconst rfl ?_
      refine z_iadd rfl ?_
      exact z_iret rfl rfl ⟨by simp [nA, h135], rfl, fun q q0 q1 => by simp [nR], fun k j hk => rfl⟩
    · refine z_iload rfl rfl ?_
      refine z_goto rfl ?_
      exact z_iret rfl rfl ⟨by simp [nA, h135], rfl, fun q q0 q1 => by simp [nR], fun k j hk => rfl⟩
  · refine z_swIn (tgt := 147) rfl (by decide) (by decide) (by decide) rfl rfl ?_
    refine z_iload rfl rfl ?_
    refine z_rif_ge rfl (fun h149 => ?_) (fun h149 => ?_)
    · refine z_iload_n rfl rfl ?_
      refine z_iconst rfl ?_
      refine z_iadd rfl ?_
      exact z_iret rfl rfl ⟨by simp [nA, Int32.not_lt.mpr h149], rfl, fun q q0 q1 => by simp [nR], fun k j hk => rfl⟩
    · refine z_iload rfl rfl ?_
      refine z_goto rfl ?_
      exact z_iret rfl rfl ⟨by simp [nA, Int32.not_le.mp h149], rfl, fun q q0 q1 => by simp [nR], fun k j hk => rfl⟩
  · refine z_swOut (tgt := 161) rfl (by decide) (by decide) rfl ?_
    refine z_bipush rfl (by decide) ?_
    exact z_iret rfl rfl ⟨by simp [nA], rfl, fun q q0 q1 => by simp [nR], fun k j hk => rfl⟩
