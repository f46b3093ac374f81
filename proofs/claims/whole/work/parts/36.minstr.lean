/-! the reference: it reads an instruction -/
theorem MTX_of {Z Z' : ZW} (h : MTX Z) (e : ∀ (k : Nat) (j : Int), k ≠ 66 → ¬ (k = 64 ∧ (j = 7 ∨ j = 8)) → Z' k j = Z k j) : MTX Z' ∧ Z' 64 6 = Z 64 6 ∧ Z' 69 = Z 69 := by
  have e1 : Z' 64 6 = Z 64 6 := e 64 6 (by decide) (by decide)
  have e2 : Z' 69 = Z 69 := funext fun j => e 69 j (by decide) (fun q => absurd q.1 (by decide))
  refine ⟨⟨?_, ?_⟩, e1, e2⟩
  · rw [e1]; exact h.1
  · rw [e1, e2]; exact h.2
set_option maxHeartbeats 4000000 in
theorem m_passI {Z : ZW} {J : Int64} {n p : Int} (ht : MTX Z) (he : Z 64 7 = p) (hp : 0 ≤ p ∧ p ≤ Z 64 6) (hn : Z 66 0 = n) (hn2 : 0 ≤ n ∧ n ≤ 24) : Mz 110 [.ref 64] Z J (fun r Z' J' => J' = J ∧ r = some (bI (QI (cuF (Z 69) (Z 64 6)) (Z 64 6) n p).1) ∧ (0 ≤ (QI (cuF (Z 69) (Z 64 6)) (Z 64 6) n p).2 ∧ (QI (cuF (Z 69) (Z 64 6)) (Z 64 6) n p).2 ≤ Z 64 6) ∧ (∀ (k : Nat) (j : Int), k ≠ 66 → ¬ (k = 64 ∧ (j = 7 ∨ j = 8)) → Z' k j = Z k j) ∧ (if (QI (cuF (Z 69) (Z 64 6)) (Z 64 6) n p).1 = true then Z' 64 7 = skp (cuF (Z 69) (Z 64 6)) (Z 64 6) (QI (cuF (Z 69) (Z 64 6)) (Z 64 6) n p).2 ∧ (Z' 66 0 = n + 1 ∧ Z' 66 (1 + n) = opc ((cuF (Z 69) (Z 64 6)) p) ∧ Z' 66 (25 + n) = (QA (cuF (Z 69) (Z 64 6)) (Z 64 6) p).2.1 ∧ Z' 66 (49 + n) = (QB (cuF (Z 69) (Z 64 6)) (Z 64 6) p).2.1) ∧ (∀ j, j ≠ 0 → j ≠ 1 + n → j ≠ 25 + n → j ≠ 49 + n → Z' 66 j = Z 66 j) else Z' 64 7 = (QI (cuF (Z 69) (Z 64 6)) (Z 64 6) n p).2)) := by
  unfold Mz
  have hl := ht.1
  have hcp := mcu_in ht p
  have ho := opc_in ((cuF (Z 69) (Z 64 6)) p)
  obtain ⟨q, hq⟩ : ∃ q, q = QI (cuF (Z 69) (Z 64 6)) (Z 64 6) n p := ⟨_, rfl⟩
  rw [← hq]
  unfold QI at hq
  obtain ⟨op, eo⟩ : ∃ op, op = opc ((cuF (Z 69) (Z 64 6)) p) := ⟨_, rfl⟩
  rw [← eo] at ho hq
  obtain ⟨qa, ea⟩ : ∃ qa, qa = QA (cuF (Z 69) (Z 64 6)) (Z 64 6) p := ⟨_, rfl⟩
  obtain ⟨qb, eb⟩ : ∃ qb, qb = QB (cuF (Z 69) (Z 64 6)) (Z 64 6) p := ⟨_, rfl⟩
  have eb2 := eb
  have ea2 := ea
  unfold QB at eb2
  unfold QA at ea2
  rw [← ea, ← eo] at eb2
  rw [← eo] at ea2
  unfold QC at hq
  rw [← eb] at hq
  rw [← ea, ← eb, ← eo]
  have K168 : ¬ (op = -1 ∨ 24 ≤ n) → qb.1 = true → ∀ (t x4 x5 : Option Value) (Z' : ZW), (∀ (k : Nat) (j : Int), k ≠ 66 → ¬ (k = 64 ∧ (j = 7 ∨ j = 8)) → Z' k j = Z k j) → Z' 64 7 = qb.2.2 → (0 ≤ qb.2.2 ∧ qb.2.2 ≤ Z 64 6) → (op = 7 → qb.2.1 = 0) → (op ≠ 7 → Z' 64 8 = qb.2.1) → (Z' 66 (1 + n) = op ∧ Z' 66 (25 + n) = qa.2.1) → (∀ j, j ≠ 1 + n → j ≠ 25 + n → Z' 66 j = Z 66 j) → OkZ none 110 168 [some (.ref 64), some (.int (I n)), some (.int (I op)), t, x4, x5] [] Z' J (fun r Z' J' => J' = J ∧ r = some (bI q.1) ∧ (0 ≤ q.2 ∧ q.2 ≤ Z 64 6) ∧ (∀ (k : Nat) (j : Int), k ≠ 66 → ¬ (k = 64 ∧ (j = 7 ∨ j = 8)) → Z' k j = Z k j) ∧ (if q.1 = true then Z' 64 7 = skp (cuF (Z 69) (Z 64 6)) (Z 64 6) q.2 ∧ (Z' 66 0 = n + 1 ∧ Z' 66 (1 + n) = op ∧ Z' 66 (25 + n) = qa.2.1 ∧ Z' 66 (49 + n) = qb.2.1) ∧ (∀ j, j ≠ 0 → j ≠ 1 + n → j ≠ 25 + n → j ≠ 49 + n → Z' 66 j = Z 66 j) else Z' 64 7 = q.2)) := by
    intro hgo hb t x4 x5 Z' hf hat hpp h7 h8 hr hro
    rw [if_neg hgo, if_pos hb] at hq
    have hsk := skp_in (bt := Z 69) hl.1 hpp.1 hpp.2
    obtain ⟨s1, es⟩ : ∃ s1, s1 = skp (cuF (Z 69) (Z 64 6)) (Z 64 6) qb.2.2 := ⟨_, rfl⟩
    rw [← es] at hq hsk
    have hcs := mcu_in ht s1
    have K191 : ∀ v, v = qb.2.1 → OkZ none 110 191 [some (.ref 64), some (.int (I n)), some (.int (I op)), t, x4, x5] [] (up Z' 66 (49 + n) v) J (fun r Z' J' => J' = J ∧ r = some (bI q.1) ∧ (0 ≤ q.2 ∧ q.2 ≤ Z 64 6) ∧ (∀ (k : Nat) (j : Int), k ≠ 66 → ¬ (k = 64 ∧ (j = 7 ∨ j = 8)) → Z' k j = Z k j) ∧ (if q.1 = true then Z' 64 7 = skp (cuF (Z 69) (Z 64 6)) (Z 64 6) q.2 ∧ (Z' 66 0 = n + 1 ∧ Z' 66 (1 + n) = op ∧ Z' 66 (25 + n) = qa.2.1 ∧ Z' 66 (49 + n) = qb.2.1) ∧ (∀ j, j ≠ 0 → j ≠ 1 + n → j ≠ 25 + n → j ≠ 49 + n → Z' 66 j = Z 66 j) else Z' 64 7 = q.2)) := by
      intro v hv
      rw [hv]
      obtain ⟨W, hW⟩ : ∃ W, W = up Z' 66 (49 + n) qb.2.1 := ⟨_, rfl⟩
      rw [← hW]
      have f1 : (∀ (k : Nat) (j : Int), k ≠ 66 → ¬ (k = 64 ∧ (j = 7 ∨ j = 8)) → W k j = Z k j) := fun k j hk hk2 => by rw [hW, up_ne hk]; exact hf k j hk hk2
      obtain ⟨m1, m2, m3⟩ := MTX_of ht f1
      have w7 : W 64 7 = qb.2.2 := by rw [hW, up_ne (by decide)]; exact hat
      have wr : W 66 0 = n ∧ W 66 (1 + n) = op ∧ W 66 (25 + n) = qa.2.1 ∧ W 66 (49 + n) = qb.2.1 := by
        rw [hW, up_nj (by omega), up_nj (by omega), up_nj (by omega), up_eq, hro 0 (by omega) (by omega)]
        exact ⟨hn, hr.1, hr.2, rfl⟩
      have wo : ∀ j, j ≠ 0 → j ≠ 1 + n → j ≠ 25 + n → j ≠ 49 + n → W 66 j = Z 66 j := fun j j0 j1 j2 j3 => by rw [hW, up_nj j3]; exact hro j j1 j2
      have ec : cuF (up W 64 7 s1 69) (up W 64 7 s1 64 6) (up W 64 7 s1 64 7) = (cuF (Z 69) (Z 64 6)) s1 := by
        show cuF (W 69) (W 64 6) (up W 64 7 s1 64 7) = _
        rw [up_eq, m2, m3]
      refine z_aload_n rfl rfl ?_
      refine z_callV0v rfl rfl rfl rfl rfl rfl (m_skips m1 (by rw [m2]; exact hpp) w7) ?_
      refine z_aload_n rfl rfl ?_
      rw [m2, m3, ← es]
      refine z_callV0 rfl rfl rfl rfl rfl rfl (m_here (by rw [up_eq]; omega) (MTX_up (by decide) m1)) ?_
      rw [ec]
      refine z_bipush rfl (by decide) ?_
      refine z_icmp_eq rfl (by omega) (by omega) (fun h201 => ?_) (fun h201 => ?_)
      · refine z_aload_n rfl rfl ?_
        refine z_dup rfl rfl ?_
        refine z_getI (bi := 7) rfl rfl rfl rfl ?_
        rw [up_eq]
        refine z_iconst rfl ?_
        refine z_iadd rfl ?_
        refine z_putI (bi := 7) rfl rfl rfl rfl rfl ?_
        refine z_aload_n rfl rfl ?_
        refine z_callV0v rfl rfl rfl rfl rfl rfl (m_skips (p := s1 + 1) (MTX_up (by decide) (MTX_up (by decide) m1)) (by show 0 ≤ s1 + 1 ∧ s1 + 1 ≤ W 64 6; rw [m2]; have hlt := cu_some (bt := Z 69) (len := Z 64 6) (p := s1) (by omega); omega) (by rw [up_eq])) ?_
        rw [if_pos h201] at hq
        have hlt := cu_some (bt := Z 69) (len := Z 64 6) (p := s1) (by omega)
        obtain ⟨s2, es2⟩ : ∃ s2, s2 = skp (cuF (up (up W 64 7 s1) 64 7 (s1 + 1) 69) (up (up W 64 7 s1) 64 7 (s1 + 1) 64 6)) (up (up W 64 7 s1) 64 7 (s1 + 1) 64 6) (s1 + 1) := ⟨_, rfl⟩
        have es3 : s2 = skp (cuF (Z 69) (Z 64 6)) (Z 64 6) (s1 + 1) := by rw [← m2, ← m3]; exact es2
        rw [← es2, up_up, up_up]
        have v0 : up W 64 7 s2 66 0 = n := by rw [up_ne (by decide)]; exact wr.1
        refine z_aload_n rfl rfl ?_
        refine z_getR rfl rfl rfl rfl ?_
        refine z_iconst rfl ?_
        refine z_dup2 rfl rfl rfl ?_
        refine z_iald rfl rfl (by omega) ?_
        refine z_iconst rfl ?_
        refine z_iadd rfl ?_
        refine z_iast rfl rfl (by omega) ?_
        refine z_iconst rfl ?_
        rw [hq]
        refine z_bret1 rfl rfl ⟨rfl, rfl, ⟨by show 0 ≤ s1 + 1; omega, by show s1 + 1 ≤ _; omega⟩, fun k j hk hk2 => by rw [up_ne hk, mp_other1 hk2]; exact f1 k j hk hk2, ?_⟩
        show _ ∧ (_ ∧ _) ∧ _
        refine ⟨by rw [up_ne (by decide), up_eq]; exact es3, ⟨by rw [up_eq, v0], ?_, ?_, ?_⟩, fun j j0 j1 j2 j3 => ?_⟩
        · rw [up_nj (by omega), up_ne (by decide)]; exact wr.2.1
        · rw [up_nj (by omega), up_ne (by decide)]; exact wr.2.2.1
        · rw [up_nj (by omega), up_ne (by decide)]; exact wr.2.2.2
        · rw [up_nj j0, up_ne (by decide)]; exact wo j j0 j1 j2 j3
      · refine z_iconst rfl ?_
        rw [if_neg h201] at hq
        rw [hq]
        exact z_bret0 rfl rfl ⟨rfl, rfl, ⟨by show 0 ≤ s1; omega, by show s1 ≤ _; omega⟩, fun k j hk hk2 => by rw [mp_other1 hk2]; exact f1 k j hk hk2, by show _ = s1; rw [up_eq]⟩
    refine z_aload_n rfl rfl ?_
    refine z_getR rfl rfl rfl rfl ?_
    refine z_bipush rfl (by decide) ?_
    refine z_iload_n rfl rfl ?_
    refine z_iadd rfl ?_
    refine z_iload_n rfl rfl ?_
    refine z_bipush rfl (by decide) ?_
    refine z_icmp_ne rfl (by omega) (by omega) (fun h179 => ?_) (fun h179 => ?_)
    · refine z_aload_n rfl rfl ?_
      refine z_getI (bi := 8) rfl rfl rfl rfl ?_
      refine z_iast rfl rfl (by omega) ?_
      exact K191 _ (h8 (by omega))
    · refine z_iconst rfl ?_
      refine z_goto rfl ?_
      refine z_iast rfl rfl (by omega) ?_
      exact K191 _ (h7 (by omega)).symm
  have K160 : ¬ (op = -1 ∨ 24 ≤ n) → op ≠ 7 → qa.1 = true → ∀ (mo : Int) (sg : Bool) (t x4 x5 : Option Value) (Z' : ZW), mo = mostO op → sg = decide (op ≤ 1) → (∀ (k : Nat) (j : Int), k ≠ 66 → ¬ (k = 64 ∧ (j = 7 ∨ j = 8)) → Z' k j = Z k j) → Z' 64 7 = qa.2.2 → (0 ≤ qa.2.2 ∧ qa.2.2 ≤ Z 64 6) → (Z' 66 (1 + n) = op ∧ Z' 66 (25 + n) = qa.2.1) → (∀ j, j ≠ 1 + n → j ≠ 25 + n → Z' 66 j = Z 66 j) → OkZ none 110 160 [some (.ref 64), some (.int (I n)), some (.int (I op)), t, x4, x5] [bI sg, .int (I mo), .ref 64] Z' J (fun r Z' J' => J' = J ∧ r = some (bI q.1) ∧ (0 ≤ q.2 ∧ q.2 ≤ Z 64 6) ∧ (∀ (k : Nat) (j : Int), k ≠ 66 → ¬ (k = 64 ∧ (j = 7 ∨ j = 8)) → Z' k j = Z k j) ∧ (if q.1 = true then Z' 64 7 = skp (cuF (Z 69) (Z 64 6)) (Z 64 6) q.2 ∧ (Z' 66 0 = n + 1 ∧ Z' 66 (1 + n) = op ∧ Z' 66 (25 + n) = qa.2.1 ∧ Z' 66 (49 + n) = qb.2.1) ∧ (∀ j, j ≠ 0 → j ≠ 1 + n → j ≠ 25 + n → j ≠ 49 + n → Z' 66 j = Z 66 j) else Z' 64 7 = q.2)) := by
    intro hgo h7 ha mo sg t x4 x5 Z' hmo hsg hf hat hpp hr hro
    obtain ⟨m1, m2, m3⟩ := MTX_of ht hf
    rw [if_pos ha, if_neg h7, ← hmo, ← hsg] at eb2
    have hmo2 : 0 ≤ mo ∧ mo ≤ 99 := by rw [hmo]; unfold mostO; repeat' split; all_goals omega
    refine z_callV2g rfl rfl rfl rfl rfl rfl (m_passes m1 hmo2 hat (by rw [m2]; exact hpp)) (fun r160 Z160 J160 q160 => ?_)
    obtain ⟨rfl, rfl, v1, v2, v3, v4⟩ := q160
    rw [m2, m3, ← eb2] at v1 v2 v3
    rw [m2, m3, ← eb2]
    show OkZ none 110 163 _ [_] _ _ _
    refine z_ifb_ne rfl (fun h163 => ?_) (fun h163 => ?_)
    · refine K168 hgo h163 _ _ _ Z160 (fun k j hk hk2 => by rw [v4 k j hk2]; exact hf k j hk hk2) v1 v3 (fun z => absurd z h7) (fun _ => v2 h163) ?_ (fun j j1 j2 => ?_)
      · rw [v4 66 _ (by omega), v4 66 _ (by omega)]; exact hr
      · rw [v4 66 _ (by omega)]; exact hro j j1 j2
    · refine z_iconst rfl ?_
      rw [if_neg hgo, if_neg (by rw [h163]; decide)] at hq
      rw [hq]
      exact z_bret0 rfl rfl ⟨rfl, rfl, v3, fun k j hk hk2 => by rw [v4 k j hk2]; exact hf k j hk hk2, v1⟩
  have K75 : ¬ (op = -1 ∨ 24 ≤ n) → qa.1 = true → ∀ (tv : Int) (Z' : ZW), (∀ (k : Nat) (j : Int), k ≠ 66 → ¬ (k = 64 ∧ (j = 7 ∨ j = 8)) → Z' k j = Z k j) → Z' 66 = Z 66 → Z' 64 7 = qa.2.2 → Z' 64 8 = qa.2.1 → (0 ≤ qa.2.2 ∧ qa.2.2 ≤ Z 64 6) → OkZ none 110 75 [some (.ref 64), some (.int (I n)), some (.int (I op)), some (.int (I tv)), none, none] [] Z' J (fun r Z' J' => J' = J ∧ r = some (bI q.1) ∧ (0 ≤ q.2 ∧ q.2 ≤ Z 64 6) ∧ (∀ (k : Nat) (j : Int), k ≠ 66 → ¬ (k = 64 ∧ (j = 7 ∨ j = 8)) → Z' k j = Z k j) ∧ (if q.1 = true then Z' 64 7 = skp (cuF (Z 69) (Z 64 6)) (Z 64 6) q.2 ∧ (Z' 66 0 = n + 1 ∧ Z' 66 (1 + n) = op ∧ Z' 66 (25 + n) = qa.2.1 ∧ Z' 66 (49 + n) = qb.2.1) ∧ (∀ j, j ≠ 0 → j ≠ 1 + n → j ≠ 25 + n → j ≠ 49 + n → Z' 66 j = Z 66 j) else Z' 64 7 = q.2)) := by
    intro hgo ha tv Z' hf h66 hat hnu hpp
    obtain ⟨W, hW⟩ : ∃ W, W = up (up Z' 66 (1 + n) op) 66 (25 + n) qa.2.1 := ⟨_, rfl⟩
    have f1 : (∀ (k : Nat) (j : Int), k ≠ 66 → ¬ (k = 64 ∧ (j = 7 ∨ j = 8)) → W k j = Z k j) := fun k j hk hk2 => by rw [hW, up_ne hk, up_ne hk]; exact hf k j hk hk2
    have w7 : W 64 7 = qa.2.2 := by rw [hW, up_ne (by decide), up_ne (by decide)]; exact hat
    have wr : W 66 (1 + n) = op ∧ W 66 (25 + n) = qa.2.1 := by
      rw [hW, up_eq, up_nj (by omega), up_eq]; exact ⟨rfl, rfl⟩
    have wo : ∀ j, j ≠ 1 + n → j ≠ 25 + n → W 66 j = Z 66 j := fun j j1 j2 => by rw [hW, up_nj j2, up_nj j1, h66]
    refine z_aload_n rfl rfl ?_
    refine z_getR rfl rfl rfl rfl ?_
    refine z_iconst rfl ?_
    refine z_iload_n rfl rfl ?_
    refine z_iadd rfl ?_
    refine z_iload_n rfl rfl ?_
    refine z_iast rfl rfl (by omega) ?_
    refine z_aload_n rfl rfl ?_
    refine z_getR rfl rfl rfl rfl ?_
    refine z_bipush rfl (by decide) ?_
    refine z_iload_n rfl rfl ?_
    refine z_iadd rfl ?_
    refine z_aload_n rfl rfl ?_
    refine z_getI (bi := 8) rfl rfl rfl rfl ?_
    rw [up_ne (by decide), hnu]
    refine z_iast rfl rfl (by omega) ?_
    rw [← hW]
    refine z_iload_n rfl rfl ?_
    refine z_if_eq rfl (by omega) (fun h98 => ?_) (fun h98 => ?_)
    · refine z_iconst rfl ?_
      refine z_goto rfl ?_
      refine z_istore rfl rfl rfl ?_
      refine z_iload_n rfl rfl ?_
      refine z_iconst rfl ?_
      refine z_icmp_eq rfl (by omega) (by omega) (fun h115 => ?_) (fun h115 => ?_)
      · refine z_iconst rfl ?_
        refine z_goto rfl ?_
        refine z_istore rfl rfl rfl ?_
        refine z_iload_n rfl rfl ?_
        refine z_bipush rfl (by decide) ?_
        refine z_icmp_eq rfl (by omega) (by omega) (fun h133 => ?_) (fun h133 => ?_)
        · exfalso; omega
        · refine z_aload_n rfl rfl ?_
          refine z_iload rfl rfl ?_
          refine z_if_eq rfl (by omega) (fun h139 => ?_) (fun h139 => ?_)
          · refine z_iload rfl rfl ?_
            refine z_if_eq rfl (by omega) (fun h149 => ?_) (fun h149 => ?_)
            · refine z_bipush rfl (by decide) ?_
              refine z_iload rfl rfl ?_
              exfalso; omega
            · refine z_iconst rfl ?_
              refine z_goto rfl ?_
              refine z_iload rfl rfl ?_
              exfalso; omega
          · refine z_bipush rfl (by decide) ?_
            refine z_goto rfl ?_
            refine z_iload rfl rfl ?_
            exfalso; omega
      · refine z_iload_n rfl rfl ?_
        refine z_iconst rfl ?_
        refine z_icmp_ne rfl (by omega) (by omega) (fun h120 => ?_) (fun h120 => ?_)
        · refine z_iconst rfl ?_
          refine z_istore rfl rfl rfl ?_
          refine z_iload_n rfl rfl ?_
          refine z_bipush rfl (by decide) ?_
          refine z_icmp_eq rfl (by omega) (by omega) (fun h133 => ?_) (fun h133 => ?_)
          · exfalso; omega
          · refine z_aload_n rfl rfl ?_
            refine z_iload rfl rfl ?_
            refine z_if_eq rfl (by omega) (fun h139 => ?_) (fun h139 => ?_)
            · refine z_iload rfl rfl ?_
              refine z_if_eq rfl (by omega) (fun h149 => ?_) (fun h149 => ?_)
              · refine z_bipush rfl (by decide) ?_
                refine z_iload rfl rfl ?_
                exfalso; omega
              · refine z_iconst rfl ?_
                refine z_goto rfl ?_
                refine z_iload rfl rfl ?_
                exfalso; omega
            · refine z_bipush rfl (by decide) ?_
              refine z_goto rfl ?_
              refine z_iload rfl rfl ?_
              exact K160 hgo (by omega) ha 99 true _ _ _ W (by unfold mostO; rw [if_pos (by omega)]) (decide_eq_true (by omega)).symm f1 w7 hpp wr wo
        · refine z_iconst rfl ?_
          refine z_goto rfl ?_
          refine z_istore rfl rfl rfl ?_
          refine z_iload_n rfl rfl ?_
          refine z_bipush rfl (by decide) ?_
          refine z_icmp_eq rfl (by omega) (by omega) (fun h133 => ?_) (fun h133 => ?_)
          · exfalso; omega
          · refine z_aload_n rfl rfl ?_
            refine z_iload rfl rfl ?_
            refine z_if_eq rfl (by omega) (fun h139 => ?_) (fun h139 => ?_)
            · refine z_iload rfl rfl ?_
              refine z_if_eq rfl (by omega) (fun h149 => ?_) (fun h149 => ?_)
              · refine z_bipush rfl (by decide) ?_
                refine z_iload rfl rfl ?_
                exfalso; omega
              · refine z_iconst rfl ?_
                refine z_goto rfl ?_
                refine z_iload rfl rfl ?_
                exfalso; omega
            · refine z_bipush rfl (by decide) ?_
              refine z_goto rfl ?_
              refine z_iload rfl rfl ?_
              exfalso; omega
    · refine z_iload_n rfl rfl ?_
      refine z_iconst rfl ?_
      refine z_icmp_ne rfl (by omega) (by omega) (fun h103 => ?_) (fun h103 => ?_)
      · refine z_iconst rfl ?_
        refine z_istore rfl rfl rfl ?_
        refine z_iload_n rfl rfl ?_
        refine z_iconst rfl ?_
        refine z_icmp_eq rfl (by omega) (by omega) (fun h115 => ?_) (fun h115 => ?_)
        · refine z_iconst rfl ?_
          refine z_goto rfl ?_
          refine z_istore rfl rfl rfl ?_
          refine z_iload_n rfl rfl ?_
          refine z_bipush rfl (by decide) ?_
          refine z_icmp_eq rfl (by omega) (by omega) (fun h133 => ?_) (fun h133 => ?_)
          · exfalso; omega
          · refine z_aload_n rfl rfl ?_
            refine z_iload rfl rfl ?_
            refine z_if_eq rfl (by omega) (fun h139 => ?_) (fun h139 => ?_)
            · refine z_iload rfl rfl ?_
              refine z_if_eq rfl (by omega) (fun h149 => ?_) (fun h149 => ?_)
              · refine z_bipush rfl (by decide) ?_
                refine z_iload rfl rfl ?_
                exfalso; omega
              · refine z_iconst rfl ?_
                refine z_goto rfl ?_
                refine z_iload rfl rfl ?_
                exact K160 hgo (by omega) ha 3 false _ _ _ W (by unfold mostO; rw [if_neg (by omega), if_pos (by omega)]) (decide_eq_false (by omega)).symm f1 w7 hpp wr wo
            · refine z_bipush rfl (by decide) ?_
              refine z_goto rfl ?_
              refine z_iload rfl rfl ?_
              exfalso; omega
        · refine z_iload_n rfl rfl ?_
          refine z_iconst rfl ?_
          refine z_icmp_ne rfl (by omega) (by omega) (fun h120 => ?_) (fun h120 => ?_)
          · refine z_iconst rfl ?_
            refine z_istore rfl rfl rfl ?_
            refine z_iload_n rfl rfl ?_
            refine z_bipush rfl (by decide) ?_
            refine z_icmp_eq rfl (by omega) (by omega) (fun h133 => ?_) (fun h133 => ?_)
            · rw [if_pos ha, if_pos (by omega)] at eb2
              exact K168 hgo (by rw [eb2]) _ _ _ W f1 (by rw [eb2]; exact w7) (by rw [eb2]; exact hpp) (fun _ => by rw [eb2]) (fun z => absurd (by omega) z) wr wo
            · refine z_aload_n rfl rfl ?_
              refine z_iload rfl rfl ?_
              refine z_if_eq rfl (by omega) (fun h139 => ?_) (fun h139 => ?_)
              · refine z_iload rfl rfl ?_
                refine z_if_eq rfl (by omega) (fun h149 => ?_) (fun h149 => ?_)
                · refine z_bipush rfl (by decide) ?_
                  refine z_iload rfl rfl ?_
                  exact K160 hgo (by omega) ha 24 false _ _ _ W (by unfold mostO; rw [if_neg (by omega), if_neg (by omega)]) (decide_eq_false (by omega)).symm f1 w7 hpp wr wo
                · refine z_iconst rfl ?_
                  refine z_goto rfl ?_
                  refine z_iload rfl rfl ?_
                  exfalso; omega
              · refine z_bipush rfl (by decide) ?_
                refine z_goto rfl ?_
                refine z_iload rfl rfl ?_
                exfalso; omega
          · refine z_iconst rfl ?_
            refine z_goto rfl ?_
            refine z_istore rfl rfl rfl ?_
            refine z_iload_n rfl rfl ?_
            refine z_bipush rfl (by decide) ?_
            refine z_icmp_eq rfl (by omega) (by omega) (fun h133 => ?_) (fun h133 => ?_)
            · exfalso; omega
            · refine z_aload_n rfl rfl ?_
              refine z_iload rfl rfl ?_
              refine z_if_eq rfl (by omega) (fun h139 => ?_) (fun h139 => ?_)
              · refine z_iload rfl rfl ?_
                refine z_if_eq rfl (by omega) (fun h149 => ?_) (fun h149 => ?_)
                · refine z_bipush rfl (by decide) ?_
                  refine z_iload rfl rfl ?_
                  exfalso; omega
                · refine z_iconst rfl ?_
                  refine z_goto rfl ?_
                  refine z_iload rfl rfl ?_
                  exact K160 hgo (by omega) ha 3 false _ _ _ W (by unfold mostO; rw [if_neg (by omega), if_pos (by omega)]) (decide_eq_false (by omega)).symm f1 w7 hpp wr wo
              · refine z_bipush rfl (by decide) ?_
                refine z_goto rfl ?_
                refine z_iload rfl rfl ?_
                exfalso; omega
      · refine z_iconst rfl ?_
        refine z_goto rfl ?_
        refine z_istore rfl rfl rfl ?_
        refine z_iload_n rfl rfl ?_
        refine z_iconst rfl ?_
        refine z_icmp_eq rfl (by omega) (by omega) (fun h115 => ?_) (fun h115 => ?_)
        · refine z_iconst rfl ?_
          refine z_goto rfl ?_
          refine z_istore rfl rfl rfl ?_
          refine z_iload_n rfl rfl ?_
          refine z_bipush rfl (by decide) ?_
          refine z_icmp_eq rfl (by omega) (by omega) (fun h133 => ?_) (fun h133 => ?_)
          · exfalso; omega
          · refine z_aload_n rfl rfl ?_
            refine z_iload rfl rfl ?_
            refine z_if_eq rfl (by omega) (fun h139 => ?_) (fun h139 => ?_)
            · refine z_iload rfl rfl ?_
              refine z_if_eq rfl (by omega) (fun h149 => ?_) (fun h149 => ?_)
              · refine z_bipush rfl (by decide) ?_
                refine z_iload rfl rfl ?_
                exfalso; omega
              · refine z_iconst rfl ?_
                refine z_goto rfl ?_
                refine z_iload rfl rfl ?_
                exfalso; omega
            · refine z_bipush rfl (by decide) ?_
              refine z_goto rfl ?_
              refine z_iload rfl rfl ?_
              exfalso; omega
        · refine z_iload_n rfl rfl ?_
          refine z_iconst rfl ?_
          refine z_icmp_ne rfl (by omega) (by omega) (fun h120 => ?_) (fun h120 => ?_)
          · refine z_iconst rfl ?_
            refine z_istore rfl rfl rfl ?_
            refine z_iload_n rfl rfl ?_
            refine z_bipush rfl (by decide) ?_
            refine z_icmp_eq rfl (by omega) (by omega) (fun h133 => ?_) (fun h133 => ?_)
            · exfalso; omega
            · refine z_aload_n rfl rfl ?_
              refine z_iload rfl rfl ?_
              refine z_if_eq rfl (by omega) (fun h139 => ?_) (fun h139 => ?_)
              · refine z_iload rfl rfl ?_
                refine z_if_eq rfl (by omega) (fun h149 => ?_) (fun h149 => ?_)
                · refine z_bipush rfl (by decide) ?_
                  refine z_iload rfl rfl ?_
                  exfalso; omega
                · refine z_iconst rfl ?_
                  refine z_goto rfl ?_
                  refine z_iload rfl rfl ?_
                  exfalso; omega
              · refine z_bipush rfl (by decide) ?_
                refine z_goto rfl ?_
                refine z_iload rfl rfl ?_
                exact K160 hgo (by omega) ha 99 true _ _ _ W (by unfold mostO; rw [if_pos (by omega)]) (decide_eq_true (by omega)).symm f1 w7 hpp wr wo
          · refine z_iconst rfl ?_
            refine z_goto rfl ?_
            refine z_istore rfl rfl rfl ?_
            refine z_iload_n rfl rfl ?_
            refine z_bipush rfl (by decide) ?_
            refine z_icmp_eq rfl (by omega) (by omega) (fun h133 => ?_) (fun h133 => ?_)
            · exfalso; omega
            · refine z_aload_n rfl rfl ?_
              refine z_iload rfl rfl ?_
              refine z_if_eq rfl (by omega) (fun h139 => ?_) (fun h139 => ?_)
              · refine z_iload rfl rfl ?_
                refine z_if_eq rfl (by omega) (fun h149 => ?_) (fun h149 => ?_)
                · refine z_bipush rfl (by decide) ?_
                  refine z_iload rfl rfl ?_
                  exfalso; omega
                · refine z_iconst rfl ?_
                  refine z_goto rfl ?_
                  refine z_iload rfl rfl ?_
                  exfalso; omega
              · refine z_bipush rfl (by decide) ?_
                refine z_goto rfl ?_
                refine z_iload rfl rfl ?_
                exfalso; omega
  refine z_aload_n rfl rfl ?_
  refine z_getR rfl rfl rfl rfl ?_
  refine z_iconst rfl ?_
  refine z_iald rfl rfl (by omega) ?_
  rw [hn]
  refine z_istore_n rfl rfl rfl ?_
  refine z_aload_n rfl rfl ?_
  refine z_callV0 rfl rfl rfl rfl rfl rfl (m_here (by omega) ht) ?_
  rw [he]
  refine z_callS1 rfl rfl rfl rfl (s_opcX8 (by omega)) ?_
  rw [← eo]
  refine z_istore_n rfl rfl rfl ?_
  refine z_iload_n rfl rfl ?_
  refine z_iconst rfl ?_
  refine z_icmp_eq rfl (by omega) (by omega) (fun h17 => ?_) (fun h17 => ?_)
  · refine z_iconst rfl ?_
    rw [if_pos (by omega)] at hq
    rw [hq]
    exact z_bret0 rfl rfl ⟨rfl, rfl, hp, fun k j _ _ => rfl, he⟩
  · refine z_iload_n rfl rfl ?_
    refine z_bipush rfl (by decide) ?_
    refine z_icmp_ne rfl (by omega) (by omega) (fun h23 => ?_) (fun h23 => ?_)
    · have hlt := cu_some (bt := Z 69) (len := Z 64 6) (p := p) (opc_some (by omega))
      refine z_aload_n rfl rfl ?_
      refine z_dup rfl rfl ?_
      refine z_getI (bi := 7) rfl rfl rfl rfl ?_
      refine z_iconst rfl ?_
      refine z_iadd rfl ?_
      refine z_putI (bi := 7) rfl rfl rfl rfl rfl ?_
      refine z_iload_n rfl rfl ?_
      refine z_iconst rfl ?_
      refine z_icmp_eq rfl (by omega) (by omega) (fun h40 => ?_) (fun h40 => ?_)
      · refine z_iconst rfl ?_
        refine z_istore_n rfl rfl rfl ?_
        refine z_aload_n rfl rfl ?_
        refine z_iconst rfl ?_
        refine z_putI (bi := 8) rfl rfl rfl rfl rfl ?_
        refine z_iload_n rfl rfl ?_
        refine z_if_eq rfl (by omega) (fun h61 => ?_) (fun h61 => ?_)
        · rw [if_pos (by omega)] at ea2
          refine K75 (by omega) (by rw [ea2]) 0 (up (up Z 64 7 (Z 64 7 + 1)) 64 8 0) (fun k j hk hk2 => by rw [mp_other hk2, mp_other1 hk2]) rfl (by rw [ea2, up_nj (by decide), up_eq, he]) (by rw [ea2, up_eq]) (by rw [ea2]; show 0 ≤ p + 1 ∧ p + 1 ≤ _; omega)
        · exfalso; omega
      · refine z_iload_n rfl rfl ?_
        refine z_bipush rfl (by decide) ?_
        refine z_icmp_eq rfl (by omega) (by omega) (fun h46 => ?_) (fun h46 => ?_)
        · refine z_iconst rfl ?_
          refine z_istore_n rfl rfl rfl ?_
          refine z_aload_n rfl rfl ?_
          refine z_iconst rfl ?_
          refine z_putI (bi := 8) rfl rfl rfl rfl rfl ?_
          refine z_iload_n rfl rfl ?_
          refine z_if_eq rfl (by omega) (fun h61 => ?_) (fun h61 => ?_)
          · rw [if_pos (by omega)] at ea2
            refine K75 (by omega) (by rw [ea2]) 0 (up (up Z 64 7 (Z 64 7 + 1)) 64 8 0) (fun k j hk hk2 => by rw [mp_other hk2, mp_other1 hk2]) rfl (by rw [ea2, up_nj (by decide), up_eq, he]) (by rw [ea2, up_eq]) (by rw [ea2]; show 0 ≤ p + 1 ∧ p + 1 ≤ _; omega)
          · exfalso; omega
        · refine z_iconst rfl ?_
          refine z_goto rfl ?_
          refine z_istore_n rfl rfl rfl ?_
          refine z_aload_n rfl rfl ?_
          refine z_iconst rfl ?_
          refine z_putI (bi := 8) rfl rfl rfl rfl rfl ?_
          refine z_iload_n rfl rfl ?_
          refine z_if_eq rfl (by omega) (fun h61 => ?_) (fun h61 => ?_)
          · exfalso; omega
          · refine z_aload_n rfl rfl ?_
            refine z_iconst rfl ?_
            refine z_iconst rfl ?_
            refine z_callV2g rfl rfl rfl rfl rfl rfl (m_passes (most := 3) (p := p + 1) (sg := false) (MTX_up (by decide) (MTX_up (by decide) ht)) (by decide) (by rw [up_nj (by decide), up_eq, he]) (by show 0 ≤ p + 1 ∧ p + 1 ≤ Z 64 6; omega)) (fun r67 Z67 J67 q67 => ?_)
            obtain ⟨rfl, rfl, v1, v2, v3, v4⟩ := q67
            have ea3 : qa = PN (cuF (up (up Z 64 7 (Z 64 7 + 1)) 64 8 0 69) (up (up Z 64 7 (Z 64 7 + 1)) 64 8 0 64 6)) (up (up Z 64 7 (Z 64 7 + 1)) 64 8 0 64 6) 3 false (p + 1) := by rw [if_neg (by omega)] at ea2; exact ea2
            rw [← ea3] at v1 v2 v3
            rw [← ea3]
            show OkZ none 110 70 _ [_] _ _ _
            refine z_ifb_ne rfl (fun h70 => ?_) (fun h70 => ?_)
            · refine K75 (by omega) h70 1 Z67 (fun k j hk hk2 => by rw [v4 k j hk2, mp_other hk2, mp_other1 hk2]) (funext fun j => by rw [v4 66 j (by omega), up_ne (by decide), up_ne (by decide)]) v1 (v2 h70) v3
            · refine z_iconst rfl ?_
              rw [if_neg (by rw [h70]; decide)] at eb2
              rw [if_neg (by omega), if_neg (by rw [eb2]; exact Bool.false_ne_true)] at hq
              rw [hq, eb2]
              exact z_bret0 rfl rfl ⟨rfl, rfl, v3, fun k j hk hk2 => by rw [v4 k j hk2, mp_other hk2, mp_other1 hk2], v1⟩
    · refine z_iconst rfl ?_
      rw [if_pos (by omega)] at hq
      rw [hq]
      exact z_bret0 rfl rfl ⟨rfl, rfl, hp, fun k j _ _ => rfl, he⟩
