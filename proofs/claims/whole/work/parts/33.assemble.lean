/-! the class: undo, assemble -/
def WFs (Z : ZW) (a n : Nat) : Prop := n ≤ 24 ∧ Z a 0 = n ∧ WFP (Z (a + 1)) (Z (a + 2)) (Z (a + 3)) n ∧ COk (Z (a + 4))
theorem WFP_congr {op ra rb op' ra' rb' : FI} {n : Nat} (h : WFP op ra rb n) (e : ∀ i, 0 ≤ i → i < (n : Int) → op' i = op i ∧ ra' i = ra i ∧ rb' i = rb i) : WFP op' ra' rb' n := by
  intro i i0 i1
  obtain ⟨e1, e2, e3⟩ := e i i0 i1
  rw [e1, e2, e3]
  exact h i i0 i1
theorem WFs_of {Z Z' : ZW} {a b n : Nat} (h : WFs Z b n) (c : Cp Z Z' a b) : WFs Z' a n := by
  obtain ⟨h1, h2, h3, h4⟩ := h
  obtain ⟨c1, c2, c3⟩ := c
  refine ⟨h1, by rw [c1]; exact h2, WFP_congr h3 (fun i i0 i1 => c2 i i0 (by omega)), fun y y0 y1 => ?_⟩
  rw [c3 y y0 y1]
  exact h4 y y0 y1
theorem s_undo0 {Z : ZW} {J : Int64} (h : Z 32 0 = 0) : D 91 [.ref 0] Z J (some (.int (I (-4)))) (rf Z (-4)) J := by
  unfold D Mz
  refine z_aload_n rfl rfl ?_
  refine z_getR rfl rfl rfl rfl ?_
  refine z_getI (bi := 0) rfl rfl rfl rfl ?_
  rw [h]
  refine z_if_ne rfl (by omega) (fun h7 => ?_) (fun h7 => ?_)
  · exact absurd rfl h7
  · refine z_aload_n rfl rfl ?_
    refine z_bipush rfl (by decide) ?_
    refine z_callV1 rfl rfl rfl rfl rfl rfl (s_refuse (by omega)) ?_
    exact z_iret rfl rfl ⟨rfl, rfl, rfl⟩
theorem s_undo {Z : ZW} {J : Int64} {n : Nat} {w : Int} (h28 : ∀ i, 0 ≤ i → i < (24 : Int) → Z 28 i = 0) (hh : HB Z) (h : 0 < Z 32 0) (hw : w = (if 0 < Z 32 1 then Z 32 1 - 1 else 4)) (hs : WFs Z (34 + 5 * w.toNat) n) : Mz 91 [.ref 0] Z J (fun r Z' J' => J' = J ∧ r = (some (.int (I (Z 32 0 - 1)))) ∧ Cp Z Z' 4 (34 + 5 * w.toNat) ∧ Z' 32 0 = Z 32 0 - 1 ∧ Z' 32 1 = w ∧ CP Z' n ∧ ∀ (k : Nat) (j : Int), (k < 4 ∨ 8 < k) → (k < 14 ∨ 31 < k) → k ≠ 32 → Z' k j = Z k j) := by
  unfold Mz
  have hh2 := hh.2
  refine z_aload_n rfl rfl ?_
  refine z_getR rfl rfl rfl rfl ?_
  refine z_getI (bi := 0) rfl rfl rfl rfl ?_
  refine z_if_ne rfl (by omega) (fun h7 => ?_) (fun h7 => ?_)
  · refine z_aload_n rfl rfl ?_
    refine z_getR rfl rfl rfl rfl ?_
    refine z_aload_n rfl rfl ?_
    refine z_getR rfl rfl rfl rfl ?_
    refine z_callV1g rfl rfl rfl rfl rfl rfl (s_restore hh.1 ⟨h, hh.2.2⟩ hw) (fun r25 Z25 J25 q25 => ?_)
    obtain ⟨rfl, rfl, w1, w2, w3, w4⟩ := q25
    have hz := WFs_of hs w1
    obtain ⟨z1, z2, z3, z4⟩ := hz
    show OkZ none 91 28 _ [] _ _ _
    refine z_aload_n rfl rfl ?_
    refine z_callV0g rfl rfl rfl rfl rfl rfl (s_analyse z2 z1 (OP_of z3) (gok z1 (OP_of z3) z4)) (fun r29 Z29 J29 q29 => ?_)
    obtain ⟨rfl, rfl, v1, v2, v3⟩ := q29
    show OkZ none 91 32 _ [] _ _ _
    refine z_aload_n rfl rfl ?_
    refine z_getR rfl rfl rfl rfl ?_
    refine z_getI (bi := 0) rfl rfl rfl rfl ?_
    rw [v3 32 0 (by decide), w2]
    have u : ∀ k, k < 14 ∨ k = 28 ∨ 31 < k → Z29 k = Z25 k := fun k hk => funext fun j => v3 k j hk
    refine z_iret rfl rfl ⟨rfl, rfl, ⟨?_, fun j j0 j1 => ?_, fun j j0 j1 => ?_⟩, ?_, ?_, ⟨z1, ?_, ?_, ?_, ?_, ?_, ?_⟩, fun k j k1 k2 k3 => ?_⟩
    · rw [u 4 (by decide)]; exact w1.1
    · rw [u (4 + 1) (by decide), u (4 + 2) (by decide), u (4 + 3) (by decide)]; exact w1.2.1 j j0 j1
    · rw [u (4 + 4) (by decide)]; exact w1.2.2 j j0 j1
    · rw [u 32 (by decide)]; exact w2
    · rw [u 32 (by decide)]; exact w3
    · rw [u 4 (by decide)]; exact z2
    · rw [u 5 (by decide), u 6 (by decide), u 7 (by decide)]; exact z3
    · rw [u 8 (by decide)]; exact z4
    · rw [u 5 (by decide), u 7 (by decide)]; exact v1
    · rw [u 5 (by decide), u 7 (by decide), u 8 (by decide)]; exact v2
    · intro y y0 y1; rw [u 28 (by decide), w4 28 y (by decide) (by decide)]; exact h28 y y0 y1
    · rw [u k (by omega)]; exact w4 k j k3 k1
  · exfalso; omega
set_option maxHeartbeats 1000000 in
theorem s_assemble {Z : ZW} {J : Int64} {n0 : Nat} (ht : TXT Z) (hp : CP Z n0) (hh : HB Z) : Mz 70 [.ref 0] Z J (fun r Z' J' => J' = J ∧ ((∃ e, (0 ≤ e ∧ e ≤ Z 1 0) ∧ r = (some (.int (I (-10 - e)))) ∧ TRbad (cuF (Z 2) (Z 1 0)) (Z 1 0) e ∧ ∀ (k : Nat) (j : Int), (k < 9 ∨ 12 < k) → ¬ (k = 3 ∧ (j = 1 ∨ j = 2)) → Z' k j = Z k j) ∨ ∃ n : Nat, r = (some (.int (I ((n : Int))))) ∧ TRok (cuF (Z 2) (Z 1 0)) (Z 1 0) n ∧ CP Z' n ∧ (∀ j : Int, 0 ≤ j → j < (n : Int) → Z' 5 j = prO (cuF (Z 2) (Z 1 0)) (Z 1 0) j ∧ Z' 6 j = prA (cuF (Z 2) (Z 1 0)) (Z 1 0) j ∧ Z' 7 j = prB (cuF (Z 2) (Z 1 0)) (Z 1 0) j) ∧ Z' 8 = Z 8 ∧ SV Z Z' ∧ ∀ (k : Nat) (j : Int), (k < 4 ∨ 7 < k) → (k < 9 ∨ 12 < k) → (k < 14 ∨ 31 < k) → ¬ (k = 3 ∧ (j = 1 ∨ j = 2)) → k ≠ 32 → (k < 34 + 5 * (Z 32 1).toNat ∨ 38 + 5 * (Z 32 1).toNat < k) → Z' k j = Z k j)) := by
  unfold Mz
  have hl := ht.1
  obtain ⟨p1, p2, p3, p4, p5, p6, p7⟩ := hp
  refine z_aload_n rfl rfl ?_
  refine z_getR rfl rfl rfl rfl ?_
  refine z_aload_n rfl rfl ?_
  refine z_getR rfl rfl rfl rfl ?_
  refine z_callV1g rfl rfl rfl rfl rfl rfl (s_translate ht) (fun r8 Z8 J8 q8 => ?_)
  obtain ⟨rfl, w1, hz | hz⟩ := q8
  · obtain ⟨rfl, n, n1, n2, n3, n4⟩ := hz
    show OkZ none 70 11 _ [_] _ _ _
    refine z_istore_n rfl rfl rfl ?_
    refine z_iload_n rfl rfl ?_
    refine z_iconst rfl ?_
    refine z_icmp_eq rfl (by omega) (by omega) (fun h14 => ?_) (fun h14 => ?_)
    · refine z_aload_n rfl rfl ?_
      refine z_getR rfl rfl rfl rfl ?_
      refine z_aload_n rfl rfl ?_
      refine z_getR rfl rfl rfl rfl ?_
      have e32 : ∀ j, Z8 32 j = Z 32 j := fun j => w1 32 j (by decide) (fun q => absurd q.1 (by decide))
      have hh8 : HB Z8 := by unfold HB; rw [e32, e32]; exact hh
      refine z_callV1g rfl rfl rfl rfl rfl rfl (s_save hh8.1 hh8.2) (fun r30 Z30 J30 q30 => ?_)
      obtain ⟨rfl, rfl, v1, v2, v3, v4⟩ := q30
      show OkZ none 70 33 _ [] _ _ _
      refine z_aload_n rfl rfl ?_
      refine z_getR rfl rfl rfl rfl ?_
      refine z_aload_n rfl rfl ?_
      refine z_getR rfl rfl rfl rfl ?_
      refine z_callV1v rfl rfl rfl rfl rfl rfl (s_takeP SC4 SC9) ?_
      refine z_aload_n rfl rfl ?_
      obtain ⟨Z3, h3⟩ : ∃ Z3, Z3 = tkP Z30 4 9 := ⟨_, rfl⟩
      rw [← h3]
      have y4 : Z3 4 0 = n := by rw [h3]; unfold tkP; rw [cpy_ne (by decide), cpy_ne (by decide), cpy_ne (by decide), up_eq, v4 9 0 (by decide) (by omega)]; exact n2
      have y5 : ∀ j : Int, 0 ≤ j → j < 24 → Z3 5 j = Z8 10 j ∧ Z3 6 j = Z8 11 j ∧ Z3 7 j = Z8 12 j := by
        intro j j0 j1
        rw [← v4 10 j (by decide) (by omega), ← v4 11 j (by decide) (by omega), ← v4 12 j (by decide) (by omega), h3]
        unfold tkP
        refine ⟨?_, ?_, ?_⟩
        · rw [cpy_ne (by decide), cpy_ne (by decide), cpy_eq j0 j1, up_ne (by decide)]
        · rw [cpy_ne (by decide), cpy_eq j0 j1, cpy_ne (by decide), up_ne (by decide)]
        · rw [cpy_eq j0 j1, cpy_ne (by decide), cpy_ne (by decide), up_ne (by decide)]
      have yo : ∀ (k : Nat) (j : Int), (k < 4 ∨ 7 < k) → Z3 k j = Z30 k j := by
        intro k j hk
        rw [h3]
        unfold tkP
        rw [cpy_ne (by omega), cpy_ne (by omega), cpy_ne (by omega), up_ne (by omega)]
      have y8 : Z3 8 = Z 8 := funext fun j => by rw [yo 8 j (by decide), v4 8 j (by decide) (by omega), w1 8 j (by decide) (fun q => absurd q.1 (by decide))]
      have yr : ∀ j : Int, 0 ≤ j → j < (n : Int) → Z3 5 j = prO (cuF (Z 2) (Z 1 0)) (Z 1 0) j ∧ Z3 6 j = prA (cuF (Z 2) (Z 1 0)) (Z 1 0) j ∧ Z3 7 j = prB (cuF (Z 2) (Z 1 0)) (Z 1 0) j := fun j j0 j1 => by
        obtain ⟨q1, q2, q3⟩ := y5 j j0 (by omega)
        rw [q1, q2, q3]
        exact n4 j j0 j1
      have yw := TR_wf n3.1 yr
      have yc : COk (Z3 8) := by rw [y8]; exact p4
      refine z_callV0g rfl rfl rfl rfl rfl rfl (s_analyse y4 n1 (OP_of yw) (gok n1 (OP_of yw) yc)) (fun r45 Z45 J45 q45 => ?_)
      obtain ⟨rfl, rfl, x1, x2, x3⟩ := q45
      show OkZ none 70 48 _ [] _ _ _
      refine z_aload_n rfl rfl ?_
      refine z_getR rfl rfl rfl rfl ?_
      refine z_getI (bi := 0) rfl rfl rfl rfl ?_
      rw [x3 4 0 (by decide), y4]
      have u : ∀ k, k < 14 ∨ k = 28 ∨ 31 < k → Z45 k = Z3 k := fun k hk => funext fun j => x3 k j hk
      have uo : ∀ (k : Nat) (j : Int), 31 < k → Z45 k j = Z30 k j := fun k j hk => by rw [u k (by omega), yo k j (by omega)]
      rw [e32] at v1 v2 v3 v4
      skip
      refine z_iret rfl rfl ⟨rfl, Or.inr ⟨n, rfl, n3, ⟨n1, ?_, ?_, ?_, ?_, ?_, ?_⟩, ?_, ?_, ⟨⟨?_, fun j j0 j1 => ?_, fun j j0 j1 => ?_⟩, ?_, ?_⟩, fun k j k1 k2 k3 k4 k5 k6 => ?_⟩⟩
      · rw [u 4 (by decide)]; exact y4
      · rw [u 5 (by decide), u 6 (by decide), u 7 (by decide)]; exact yw
      · rw [u 8 (by decide)]; exact yc
      · rw [u 5 (by decide), u 7 (by decide)]; exact x1
      · rw [u 5 (by decide), u 7 (by decide), u 8 (by decide)]; exact x2
      · intro y y0 y1; rw [u 28 (by decide), yo 28 y (by decide), v4 28 y (by decide) (by omega), w1 28 y (by decide) (by omega)]; exact p7 y y0 y1
      · rw [u 5 (by decide), u 6 (by decide), u 7 (by decide)]; exact yr
      · rw [u 8 (by decide)]; exact y8
      · rw [uo _ _ (by omega), v1.1]; exact w1 4 0 (by decide) (by decide)
      · obtain ⟨q1, q2, q3⟩ := v1.2.1 j j0 j1
        rw [uo _ _ (by omega), uo _ _ (by omega), uo _ _ (by omega), q1, q2, q3]
        exact ⟨w1 5 j (by decide) (fun q => absurd q.1 (by decide)), w1 6 j (by decide) (fun q => absurd q.1 (by decide)), w1 7 j (by decide) (fun q => absurd q.1 (by decide))⟩
      · rw [uo _ _ (by omega), v1.2.2 j j0 j1]; exact w1 8 j (by decide) (fun q => absurd q.1 (by decide))
      · rw [uo _ _ (by omega), v2]
      · rw [uo _ _ (by omega), v3]
      · rw [u k (by omega), yo k j (by omega), v4 k j k5 k6]; exact w1 k j k2 k4
    · exfalso; omega
  · obtain ⟨e, rfl, e1, e2⟩ := hz
    show OkZ none 70 11 _ [_] _ _ _
    refine z_istore_n rfl rfl rfl ?_
    refine z_iload_n rfl rfl ?_
    refine z_iconst rfl ?_
    refine z_icmp_eq rfl (by omega) (by omega) (fun h14 => ?_) (fun h14 => ?_)
    · exfalso; omega
    · refine z_bipush rfl (by decide) ?_
      refine z_iload_n rfl rfl ?_
      refine z_isub rfl ?_
      exact z_iret rfl rfl ⟨rfl, Or.inl ⟨e, e1, rfl, e2, w1⟩⟩
