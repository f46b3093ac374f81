/-! the reference: the head of a chain -/
theorem l_mhead {Z : ZW} {J : Int64} {nb : Nat} {b v : Int} (hj : JOk (Z 75) nb) (hnb : nb ≤ 24) (h0 : 0 ≤ b) (h1 : b < nb) (hv : Hd (Z 75) b v) : ∀ (d k : Nat) (h lo : Int), k + d = nb → h = itJ (Z 75) k b → Live (Z 75) k b → (∀ i, 0 < i → i ≤ k → itJ (Z 75) i b ≠ b) → (∃ i, lo = itJ (Z 75) i b) → (∀ i, i ≤ k → lo ≤ itJ (Z 75) i b) → (0 ≤ lo ∧ lo < nb) → OkZ none 122 4 [some (.ref 64), some (.int (I b)), some (.int (I h)), some (.int (I lo))] [] Z J (fun r Z' J' => r = some (.int (I v)) ∧ Z' = Z ∧ J' = J) := by
  intro d
  induction d with
  | zero =>
    intro k h lo hk hh hl hne hi hm hlo
    exfalso
    rw [show k = nb by omega] at hl hne
    obtain ⟨m, m0, m1, e⟩ := ring hj h0 h1 hl
    exact hne m m0 m1 e
  | succ d ih =>
    intro k h lo hk hh hl hne hi hm hlo
    have hin := it_in hj h0 h1 k hl
    rw [← hh] at hin
    have hjo := hj.1 h hin.1 hin.2
    have es : itJ (Z 75) (k + 1) b = Z 75 h := by rw [hh]; rfl
    have hl2 : Z 75 h ≠ -1 → Live (Z 75) (k + 1) b := fun hz j hjk => by
      by_cases q : j = k
      · rw [q, ← hh]; exact hz
      · exact hl j (by omega)
    refine z_aload_n rfl rfl ?_
    refine z_getR rfl rfl rfl rfl ?_
    refine z_iload_n rfl rfl ?_
    refine z_iald rfl rfl (by omega) ?_
    refine z_iconst rfl ?_
    refine z_icmp_eq rfl (by omega) (by omega) (fun h11 => ?_) (fun h11 => ?_)
    · refine z_aload_n rfl rfl ?_
      refine z_getR rfl rfl rfl rfl ?_
      refine z_iload_n rfl rfl ?_
      refine z_iald rfl rfl (by omega) ?_
      refine z_iconst rfl ?_
      refine z_icmp_ne rfl (by omega) (by omega) (fun h52 => ?_) (fun h52 => ?_)
      · exfalso; omega
      · refine z_iload_n rfl rfl ?_
        refine z_goto rfl ?_
        have e : v = h := Hd_unique hv (Or.inl ⟨k, hl, hh.symm, h11⟩)
        exact z_iret rfl rfl ⟨by rw [e], rfl, rfl⟩
    · refine z_aload_n rfl rfl ?_
      refine z_getR rfl rfl rfl rfl ?_
      refine z_iload_n rfl rfl ?_
      refine z_iald rfl rfl (by omega) ?_
      refine z_iload_n rfl rfl ?_
      refine z_icmp_eq rfl (by omega) (by omega) (fun h21 => ?_) (fun h21 => ?_)
      · refine z_aload_n rfl rfl ?_
        refine z_getR rfl rfl rfl rfl ?_
        refine z_iload_n rfl rfl ?_
        refine z_iald rfl rfl (by omega) ?_
        refine z_iconst rfl ?_
        refine z_icmp_ne rfl (by omega) (by omega) (fun h52 => ?_) (fun h52 => ?_)
        · refine z_iload_n rfl rfl ?_
          have hll := hl2 h11
          have er : itJ (Z 75) (k + 1) b = b := by rw [es]; exact h21
          obtain ⟨i0, hi⟩ := hi
          have e : v = lo := Hd_unique hv (Or.inr ⟨fun _ j _ => ring_all (nb := k + 1) (by omega) (Nat.le_refl _) er (fun z => Z 75 z ≠ -1) hll j, ⟨i0, hi.symm⟩, ring_all (nb := k + 1) (by omega) (Nat.le_refl _) er (fun z => lo ≤ z) (fun j hj => hm j (by omega))⟩)
          exact z_iret rfl rfl ⟨by rw [e], rfl, rfl⟩
        · exfalso; omega
      · refine z_aload_n rfl rfl ?_
        refine z_getR rfl rfl rfl rfl ?_
        refine z_iload_n rfl rfl ?_
        refine z_iald rfl rfl (by omega) ?_
        refine z_istore_n rfl rfl rfl ?_
        refine z_iload_n rfl rfl ?_
        refine z_iload_n rfl rfl ?_
        refine z_icmp_ge rfl (by omega) (by omega) (fun h33 => ?_) (fun h33 => ?_)
        · refine z_iload_n rfl rfl ?_
          refine z_istore_n rfl rfl rfl ?_
          refine z_goto rfl ?_
          refine ih (k + 1) (Z 75 h) lo (by omega) es.symm (hl2 h11) (fun j j0 j1 => ?_) hi (fun j j1 => ?_) (by omega)
          · by_cases q : j = k + 1
            · rw [q, es]; exact h21
            · exact hne j j0 (by omega)
          · by_cases q : j = k + 1
            · rw [q, es]; omega
            · have := hm j (by omega); omega
        · refine z_iload_n rfl rfl ?_
          refine z_goto rfl ?_
          refine z_istore_n rfl rfl rfl ?_
          refine z_goto rfl ?_
          refine ih (k + 1) (Z 75 h) (Z 75 h) (by omega) es.symm (hl2 h11) (fun j j0 j1 => ?_) ⟨k + 1, es.symm⟩ (fun j j1 => ?_) (by omega)
          · by_cases q : j = k + 1
            · rw [q, es]; exact h21
            · exact hne j j0 (by omega)
          · by_cases q : j = k + 1
            · rw [q, es]; omega
            · have := hm j (by omega); omega
theorem m_headOf {Z : ZW} {J : Int64} {nb : Nat} {b v : Int} (hj : JOk (Z 75) nb) (hnb : nb ≤ 24) (h0 : 0 ≤ b) (h1 : b < nb) (hv : Hd (Z 75) b v) : D 122 [.ref 64, .int (I b)] Z J (some (.int (I v))) Z J := by
  unfold D Mz
  refine z_iload_n rfl rfl ?_
  refine z_istore_n rfl rfl rfl ?_
  refine z_iload_n rfl rfl ?_
  refine z_istore_n rfl rfl rfl ?_
  exact l_mhead hj hnb h0 h1 hv nb 0 b b (by omega) rfl (fun j hj => absurd hj (Nat.not_lt_zero _)) (fun j j0 j1 => absurd j0 (by omega)) ⟨0, rfl⟩ (fun j j1 => by rw [show j = 0 by omega]; exact Int.le_refl _) ⟨h0, h1⟩
