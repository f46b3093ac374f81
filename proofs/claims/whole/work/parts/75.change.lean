/-! the calls that change: class and reference answer alike -/
theorem rp_new {x s x' s' t : Int} (hx : 0 ≤ x ∧ x < 5) (hs : 0 ≤ s ∧ s ≤ 5) (es : s' = if s < 5 then s + 1 else 5) (ex : x' = if x + 1 < 5 then x + 1 else 0) (et : t = if s < 5 then s else 4) : rp x' s' t = x.toNat := by
  unfold rp
  by_cases h1 : s < 5
  · rw [if_pos h1] at es et
    by_cases h2 : x + 1 < 5
    · rw [if_pos h2] at ex; omega
    · rw [if_neg h2] at ex; omega
  · rw [if_neg h1] at es et
    by_cases h2 : x + 1 < 5
    · rw [if_pos h2] at ex; omega
    · rw [if_neg h2] at ex; omega
theorem rp_old {x s x' s' t k : Int} (hx : 0 ≤ x ∧ x < 5) (hs : 0 ≤ s ∧ s ≤ 5) (es : s' = if s < 5 then s + 1 else 5) (ex : x' = if x + 1 < 5 then x + 1 else 0) (et : t = if s < 5 then s else 4) (hk : 0 ≤ k ∧ k < t) : ∃ κ : Int, κ = (if s < 5 then k else k + 1) ∧ rp x' s' k = rp x s κ ∧ (0 ≤ κ ∧ κ < s) ∧ rp x s κ ≠ x.toNat := by
  refine ⟨_, rfl, ?_⟩
  unfold rp
  by_cases h1 : s < 5
  · rw [if_pos h1] at es et ⊢
    by_cases h2 : x + 1 < 5
    · rw [if_pos h2] at ex; omega
    · rw [if_neg h2] at ex; omega
  · rw [if_neg h1] at es et ⊢
    by_cases h2 : x + 1 < 5
    · rw [if_pos h2] at ex; omega
    · rw [if_neg h2] at ex; omega
theorem hist_save {Z Z2 : ZW} {n : Nat} (hH : I_H Z) (hse : SE Z 4 n (Z 65)) (a1 : Z2 32 0 = (if Z 32 0 < 5 then Z 32 0 + 1 else 5)) (a2 : Z2 32 1 = (if Z 32 1 + 1 < 5 then Z 32 1 + 1 else 0)) (b : Cp Z Z2 (34 + 5 * (Z 32 1).toNat) 4) (c : ∀ (k : Nat) (j : Int), (34 ≤ k ∧ k ≤ 58) → (k < 34 + 5 * (Z 32 1).toNat ∨ 38 + 5 * (Z 32 1).toNat < k) → Z2 k j = Z k j) (d : Z2 64 3 = (if Z 32 0 < 5 then Z 32 0 + 1 else 5)) (e : ∀ j, 0 ≤ j → j < (81 : Int) → Z2 67 (81 * (if Z 32 0 < 5 then Z 32 0 else 4) + j) = Z 65 j) (f : ∀ x, 0 ≤ x → x < 81 * (if Z 32 0 < 5 then Z 32 0 else 4) → Z2 67 x = Z 67 (if Z 32 0 < 5 then x else x + 81)) : I_H Z2 := by
  obtain ⟨⟨hx, hs⟩, h2, h3⟩ := hH
  obtain ⟨s, es0⟩ : ∃ s, s = Z 32 0 := ⟨_, rfl⟩
  obtain ⟨x, ex0⟩ : ∃ x, x = Z 32 1 := ⟨_, rfl⟩
  rw [← es0] at a1 d e f hs h2 h3
  rw [← ex0] at a2 b c hx h3
  obtain ⟨t, et⟩ : ∃ t, t = (if s < 5 then s else 4) := ⟨_, rfl⟩
  rw [← et] at e f
  obtain ⟨s', es⟩ : ∃ s', s' = (if s < 5 then s + 1 else 5) := ⟨_, rfl⟩
  obtain ⟨x', ex⟩ : ∃ x', x' = (if x + 1 < 5 then x + 1 else 0) := ⟨_, rfl⟩
  rw [← es] at a1 d
  rw [← ex] at a2
  have ts : s' = t + 1 := by
    rw [es, et]
    split <;> omega
  have hs' : 0 ≤ s' ∧ s' ≤ 5 := by rw [es]; split <;> omega
  have hx' : 0 ≤ x' ∧ x' < 5 := by rw [ex]; split <;> omega
  refine ⟨?_, ?_, ?_⟩
  · unfold HB
    rw [a1, a2]
    exact ⟨hx', hs'⟩
  · rw [a1, d]
  · rw [a1, a2]
    intro k k0 k1
    by_cases hk : k = t
    · rw [hk, rp_new hx hs es ex et]
      exact ⟨n, SE_Cp hse b e⟩
    · obtain ⟨κ, eκ, r1, r2, r3⟩ := rp_old hx hs es ex et (k := k) (by omega)
      obtain ⟨m, hm⟩ := h3 κ r2.1 r2.2
      rw [r1]
      have hlt := rp_lt x s κ
      refine ⟨m, SE_of hm (fun k' j hk' => c k' j (by omega) (by omega)) (fun j j0 j1 => ?_)⟩
      show Z2 67 (81 * k + j) = Z 67 (81 * κ + j)
      rw [f (81 * k + j) (by omega) (by omega), eκ]
      by_cases h5 : s < 5
      · rw [if_pos h5, if_pos h5]
      · rw [if_neg h5, if_neg h5, show 81 * k + j + 81 = 81 * (k + 1) + j by omega]
theorem p_append {Z : ZW} {J : Int64} {x : Int} (h : INV Z) (hx : RG x) : PairI 67 104 [.int (I x)] Z J := by
  have h0 := h
  obtain ⟨n, hP, hT, hE, hH, hR⟩ := h
  obtain ⟨⟨t1, t2⟩, t3, t4⟩ := hT
  have hs := s_append (Z := Z) (J := J) hx t1
  by_cases hin : 0 ≤ x ∧ x ≤ 127
  · by_cases hl : Z 1 0 < 150
    · simp only [if_pos hin, if_pos hl] at hs
      refine d_weaken hs ⟨_, rfl, ?_⟩
      obtain ⟨Z1, e1⟩ : ∃ Z1, Z1 = up (up Z 2 (Z 1 0) x) 1 0 (Z 1 0 + 1) := ⟨_, rfl⟩
      rw [← e1]
      have f6 : Z1 64 6 = Z 1 0 := by rw [e1, up_ne (by decide), up_ne (by decide)]; exact t3
      have hm := m_append (Z := Z1) (J := J) hx (by omega)
      simp only [if_pos hin, if_pos (show Z1 64 6 < 150 by omega)] at hm
      refine d_weaken hm ⟨by rw [f6], ?_⟩
      rw [f6]
      obtain ⟨Z2, e2⟩ : ∃ Z2, Z2 = up (up Z1 69 (Z 1 0) x) 64 6 (Z 1 0 + 1) := ⟨_, rfl⟩
      rw [← e2]
      have g : ∀ (k : Nat) (j : Int), k ≠ 1 → k ≠ 2 → k ≠ 69 → ¬ (k = 64 ∧ j = 6) → Z2 k j = Z k j := fun k j h1 h2 h3 h4 => by
        rw [e2]
        unfold up
        rw [if_neg h4, if_neg (fun q => h3 q.1), e1]
        unfold up
        rw [if_neg (fun q => h1 q.1), if_neg (fun q => h2 q.1)]
      have g1 : Z2 1 0 = Z 1 0 + 1 := by rw [e2, up_ne (by decide), up_ne (by decide), e1, up_eq]
      have g6 : Z2 64 6 = Z 1 0 + 1 := by rw [e2, up_eq]
      have g2 : ∀ j, Z2 2 j = if j = Z 1 0 then x else Z 2 j := fun j => by
        rw [e2, up_ne (by decide), up_ne (by decide), e1, up_ne (by decide)]
        split
        · next q => rw [q, up_eq]
        · next q => rw [up_nj q]
      have g9 : ∀ j, Z2 69 j = if j = Z 1 0 then x else Z 69 j := fun j => by
        rw [e2, up_ne (by decide)]
        split
        · next q => rw [q, up_eq]
        · next q => rw [up_nj q, e1, up_ne (by decide), up_ne (by decide)]
      refine ⟨n, I_P_of hP (fun k j hk => g k j (by omega) (by omega) (by omega) (by omega)) (fun _ _ _ => trivial), ⟨⟨by omega, fun j j0 j1 => ?_⟩, by omega, fun j j0 j1 => ?_⟩, I_E_of hE (fun k j hk => g k j (by omega) (by omega) (by omega) (by omega)), I_H_of hH (fun k j hk => g k j (by omega) (by omega) (by omega) (by omega)), I_R_of hR (fun k j hk => g k j (by omega) (by omega) (by omega) (by omega))⟩
      · rw [g2]
        split
        · exact hin
        · exact t2 j j0 (by omega)
      · rw [g2, g9]
        split
        · rfl
        · exact t4 j j0 (by omega)
    · simp only [if_pos hin, if_neg hl] at hs
      refine d_weaken hs ⟨_, rfl, ?_⟩
      have f6 : rf Z (-3) 64 6 = Z 1 0 := by rw [rf_ne (by decide)]; exact t3
      have hm := m_append (Z := rf Z (-3)) (J := J) hx (by omega)
      simp only [if_pos hin, if_neg (show ¬ rf Z (-3) 64 6 < 150 by omega)] at hm
      exact d_weaken hm ⟨rfl, INV_bad h0 (by omega)⟩
  · simp only [if_neg hin] at hs
    refine d_weaken hs ⟨_, rfl, ?_⟩
    have f6 : rf Z (-2) 64 6 = Z 1 0 := by rw [rf_ne (by decide)]; exact t3
    have hm := m_append (Z := rf Z (-2)) (J := J) hx (by omega)
    simp only [if_neg hin] at hm
    exact d_weaken hm ⟨rfl, INV_bad h0 (by omega)⟩
theorem p_clearText {Z : ZW} {J : Int64} (h : INV Z) : PairI 68 105 [] Z J := by
  obtain ⟨n, hP, hT, hE, hH, hR⟩ := h
  obtain ⟨⟨t1, t2⟩, t3, t4⟩ := hT
  refine d_weaken (s_clearText (Z := Z) (J := J)) ⟨_, rfl, d_weaken (m_clearText (Z := up Z 1 0 0) (J := J)) ⟨?_, ?_⟩⟩
  · rw [up_ne (by decide), t3]
  · have g : ∀ (k : Nat) (j : Int), k ≠ 1 → ¬ (k = 64 ∧ j = 6) → up (up Z 1 0 0) 64 6 0 k j = Z k j := fun k j h1 h2 => by
      unfold up
      rw [if_neg h2, if_neg (fun q => h1 q.1)]
    have g1 : up (up Z 1 0 0) 64 6 0 1 0 = 0 := by rw [up_ne (by decide), up_eq]
    have g6 : up (up Z 1 0 0) 64 6 0 64 6 = 0 := up_eq
    exact ⟨n, I_P_of hP (fun k j hk => g k j (by omega) (by omega)) (fun _ _ _ => trivial), ⟨⟨by omega, fun j j0 j1 => by omega⟩, by omega, fun j j0 j1 => by omega⟩, I_E_of hE (fun k j hk => g k j (by omega) (by omega)), I_H_of hH (fun k j hk => g k j (by omega) (by omega)), I_R_of hR (fun k j hk => g k j (by omega) (by omega))⟩
theorem p_setCost {Z : ZW} {J : Int64} {x c : Int} (h : INV Z) (hx : RG x) (hc : RG c) : PairI 71 112 [.int (I x), .int (I c)] Z J := by
  have h0 := h
  obtain ⟨n, hP, hT, hE, hH, hR⟩ := h
  by_cases hin : (0 ≤ x ∧ x < 8) ∧ 1 ≤ c ∧ c ≤ 9
  · obtain ⟨hx2, hc2⟩ := hin
    have hHB := hH.1
    refine mz_weaken (s_setCost (Z := Z) (J := J) hP.1 hHB hx2 hc2) ?_
    rintro r Z1 J1 ⟨rfl, rfl, hsv, hcp, e5, e6, e7, e8, hf⟩
    have hx1 := hHB.1
    have k64 : ∀ (k : Nat) (j : Int), 58 < k → Z1 k j = Z k j := fun k j hk => hf k j (by omega) (by omega) (by omega) (by omega)
    refine ⟨_, rfl, mz_weaken (m_setCost (Z := Z1) (J := J1) (x := x) (c := c) (by rw [k64 64 3 (by decide), hH.2.1]; exact hHB.2) (by omega) hc2) ?_⟩
    rintro r2 Z2 J2 ⟨rfl, rfl, Z1', ⟨w1, w2, w3, w4⟩, rfl⟩
    rw [k64 64 3 (by decide), hH.2.1] at w1 w2 w3
    have low : ∀ (k : Nat) (j : Int), k < 64 → up Z1' 65 (73 + x) c k j = Z1 k j := fun k j hk => by rw [up_ne (by omega)]; exact w4 k j (by omega) (by omega)
    have se := hP.2
    obtain ⟨s1, s2, s3, s4⟩ := se
    have hcp2 : CP (up Z1' 65 (73 + x) c) n := CP_of hcp (fun k j hk => low k j (by omega))
    refine ⟨?_, n, ⟨hcp2, ⟨hcp2.1, hcp2.2.1, hcp2.2.2.1, hcp2.2.2.2.1⟩, ?_, fun i i0 i1 => ?_, fun k k0 k1 => ?_⟩, I_T_of hT (fun k j hk => ?_), I_E_of hE (fun k j hk => ?_), ?_, I_R_of hR (fun k j hk => ?_)⟩
    · rw [k64 65 _ (by decide), s4 x hx2.1 hx2.2]
    · rw [up_nj (by omega), w4 65 0 (by decide) (by decide), k64 65 0 (by decide)]; exact s2
    · have hn := s1.1
      have a : ∀ y, y ≠ 73 + x → up Z1' 65 (73 + x) c 65 y = Z 65 y := fun y hy => by rw [up_nj hy, w4 65 y (by decide) (by omega), k64 65 y (by decide)]
      have l5 : up Z1' 65 (73 + x) c 5 i = Z 5 i := by rw [low 5 i (by decide), e5]
      have l6 : up Z1' 65 (73 + x) c 6 i = Z 6 i := by rw [low 6 i (by decide), e6]
      have l7 : up Z1' 65 (73 + x) c 7 i = Z 7 i := by rw [low 7 i (by decide), e7]
      obtain ⟨b1, b2, b3⟩ := s3 i i0 i1
      exact ⟨(a _ (by omega)).trans (b1.trans l5.symm), (a _ (by omega)).trans (b2.trans l6.symm), (a _ (by omega)).trans (b3.trans l7.symm)⟩
    · rw [low 8 k (by decide), e8]
      unfold updF
      by_cases hk : k = x
      · rw [if_pos hk, hk, up_eq]
      · rw [if_neg hk, up_nj (by omega), w4 65 _ (by decide) (by omega), k64 65 _ (by decide)]
        exact s4 k k0 k1
    · have h65 : k ≠ 65 := by omega
      rw [up_ne h65, w4 k j (by omega) (by omega)]
      exact hf k j (by omega) (by omega) (by omega) (by omega)
    · rw [up_ne (by omega), w4 k j (by omega) (by omega)]
      exact hf k j (by omega) (by omega) (by omega) (by omega)
    · obtain ⟨v1, v2, v3⟩ := hsv
      refine hist_save hH hP.2 ?_ ?_ ?_ (fun k j hk hk2 => ?_) ?_ (fun j j0 j1 => ?_) (fun y y0 y1 => ?_)
      · rw [low 32 0 (by decide)]; exact v2
      · rw [low 32 1 (by decide)]; exact v3
      · obtain ⟨d1, d2, d3⟩ := v1
        refine ⟨by rw [low _ _ (by omega)]; exact d1, fun j j0 j1 => ?_, fun j j0 j1 => by rw [low _ _ (by omega)]; exact d3 j j0 j1⟩
        rw [low _ _ (by omega), low _ _ (by omega), low _ _ (by omega)]
        exact d2 j j0 j1
      · rw [low k j (by omega)]; exact hf k j (by omega) (by omega) (by omega) hk2
      · rw [up_ne (by decide)]; exact w1
      · rw [up_ne (by decide), w2 j j0 j1, k64 65 _ (by decide)]
      · rw [up_ne (by decide), w3 y y0 y1, k64 67 _ (by decide)]
    · rw [up_ne (by omega), w4 k j (by omega) (by omega)]
      exact hf k j (by omega) (by omega) (by omega) (by omega)
  · refine d_weaken (s_setCost_bad (Z := Z) (J := J) hx hc hin) ⟨_, rfl, ?_⟩
    exact d_weaken (m_setCost_bad (Z := rf Z (-2)) (J := J) hx hc (by omega)) ⟨rfl, INV_bad h0 (by omega)⟩
theorem p_undo {Z : ZW} {J : Int64} (h : INV Z) : PairI 91 103 [] Z J := by
  have h0 := h
  obtain ⟨n, hP, hT, hE, hH, hR⟩ := h
  have hHB := hH.1
  have hx1 := hHB.1
  have hs1 := hHB.2
  by_cases hz : Z 32 0 = 0
  · refine d_weaken (s_undo0 (Z := Z) (J := J) hz) ⟨_, rfl, d_weaken (m_undo0 (Z := rf Z (-4)) (J := J) ?_) ⟨rfl, INV_bad h0 (by omega)⟩⟩
    rw [rf_ne (by decide), hH.2.1]; exact hz
  · obtain ⟨w, ew⟩ : ∃ w, w = (if 0 < Z 32 1 then Z 32 1 - 1 else 4) := ⟨_, rfl⟩
    have hw : (0 < Z 32 1 ∧ w = Z 32 1 - 1) ∨ (Z 32 1 = 0 ∧ w = 4) := by
      by_cases q : 0 < Z 32 1
      · rw [if_pos q] at ew; exact Or.inl ⟨q, ew⟩
      · rw [if_neg q] at ew; exact Or.inr ⟨by omega, ew⟩
    have ep : rp (Z 32 1) (Z 32 0) (Z 32 0 - 1) = w.toNat := by unfold rp; omega
    obtain ⟨m, hm⟩ := hH.2.2 (Z 32 0 - 1) (by omega) (by omega)
    rw [ep] at hm
    refine mz_weaken (s_undo (Z := Z) (J := J) hP.1.2.2.2.2.2.2 hHB (by omega) ew hm.1) ?_
    rintro r Z1 J1 ⟨rfl, rfl, hcp, u1, u2, hcpp, hf⟩
    have k64 : ∀ (k : Nat) (j : Int), 32 < k → Z1 k j = Z k j := fun k j hk => hf k j (by omega) (by omega) (by omega)
    refine ⟨_, rfl, mz_weaken (m_undo (Z := Z1) (J := J1) (by rw [k64 64 3 (by decide), hH.2.1]; omega)) ?_⟩
    rintro r2 Z2 J2 ⟨rfl, rfl, v1, v2, v3⟩
    rw [k64 64 3 (by decide), hH.2.1] at v1 v2
    have low : ∀ (k : Nat) (j : Int), k < 64 → Z2 k j = Z1 k j := fun k j hk => v3 k j (by omega) (by omega)
    have hcp2 : CP Z2 m := CP_of hcpp (fun k j hk => low k j (by omega))
    refine ⟨by rw [k64 64 3 (by decide), hH.2.1], m, ⟨hcp2, SE_Cp hm ?_ (fun j j0 j1 => ?_)⟩, I_T_of hT (fun k j hk => ?_), I_E_of hE (fun k j hk => ?_), ⟨?_, ?_, ?_⟩, I_R_of hR (fun k j hk => ?_)⟩
    · obtain ⟨d1, d2, d3⟩ := hcp
      refine ⟨by rw [low _ _ (by omega)]; exact d1, fun j j0 j1 => ?_, fun j j0 j1 => by rw [low _ _ (by omega)]; exact d3 j j0 j1⟩
      rw [low _ _ (by omega), low _ _ (by omega), low _ _ (by omega)]
      exact d2 j j0 j1
    · rw [v2 j j0 j1, k64 67 _ (by decide)]
    · rw [v3 k j (by omega) (by omega)]; exact hf k j (by omega) (by omega) (by omega)
    · rw [v3 k j (by omega) (by omega)]; exact hf k j (by omega) (by omega) (by omega)
    · unfold HB
      rw [low 32 0 (by decide), low 32 1 (by decide), u1, u2]
      omega
    · rw [low 32 0 (by decide), u1, v1]
    · rw [low 32 0 (by decide), low 32 1 (by decide), u1, u2]
      intro k k0 k1
      have er : rp w (Z 32 0 - 1) k = rp (Z 32 1) (Z 32 0) k := by unfold rp; omega
      rw [er]
      obtain ⟨q, hq⟩ := hH.2.2 k k0 (by omega)
      have hlt := rp_lt (Z 32 1) (Z 32 0) k
      refine ⟨q, SE_of hq (fun k' j hk' => ?_) (fun j j0 j1 => ?_)⟩
      · rw [v3 k' j (by omega) (by omega)]; exact hf k' j (by omega) (by omega) (by omega)
      · show Z2 67 _ = Z 67 _
        rw [v3 67 _ (by decide) (by omega), k64 67 _ (by decide)]
    · rw [v3 k j (by omega) (by omega)]; exact hf k j (by omega) (by omega) (by omega)
theorem cu_same {Z Z1 : ZW} (h : I_T Z) (e1 : Z1 69 = Z 69) (e2 : Z1 64 6 = Z 64 6) : cuF (Z1 69) (Z1 64 6) = cuF (Z 2) (Z 1 0) := by
  obtain ⟨_, t3, t4⟩ := h
  funext p
  rw [e1, e2, t3]
  unfold cuF
  split
  · next q => exact t4 p q.1 q.2
  · rfl
theorem p_assemble {Z : ZW} {J : Int64} (h : INV Z) : PairI 70 111 [] Z J := by
  have h0 := h
  obtain ⟨n0, hP, hT, hE, hH, hR⟩ := h
  have hHB := hH.1
  have hx1 := hHB.1
  refine mz_weaken (s_assemble (Z := Z) (J := J) hT.1 hP.1 hHB) ?_
  rintro r Z1 J1 ⟨rfl, hq⟩
  have k64 : ∀ (k : Nat) (j : Int), 58 < k → Z1 k j = Z k j := by
    intro k j hk
    rcases hq with ⟨e, _, _, _, hf⟩ | ⟨n, _, _, _, _, _, _, hf⟩
    · exact hf k j (by omega) (by omega)
    · exact hf k j (by omega) (by omega) (by omega) (by omega) (by omega) (by omega)
  have e69 : Z1 69 = Z 69 := funext fun j => k64 69 j (by decide)
  have e6 : Z1 64 6 = Z 64 6 := k64 64 6 (by decide)
  have ecu := cu_same hT e69 e6
  have elen : Z1 64 6 = Z 1 0 := e6.trans hT.2.1
  have hmt : MTX Z1 := by
    refine ⟨by rw [elen]; exact hT.1.1, fun j j0 j1 => ?_⟩
    rw [elen] at j1
    rw [k64 69 j (by decide), hT.2.2 j j0 j1]
    exact hT.1.2 j j0 j1
  have hma := m_assemble (Z := Z1) (J := J1) hmt (by rw [k64 64 3 (by decide), hH.2.1]; exact hHB.2)
  rw [ecu, elen] at hma
  rcases hq with ⟨e, he, rfl, hbad, hf⟩ | ⟨n, rfl, hok, hcp, hrow, e8, hsv, hf⟩
  · refine ⟨_, rfl, mz_weaken hma ?_⟩
    rintro r2 Z2 J2 ⟨rfl, hq2⟩
    rcases hq2 with ⟨e', he', rfl, hbad', hf'⟩ | ⟨n, rfl, _, hok', _⟩
    · refine ⟨by rw [TR_bad2 hbad hbad'], INV_of h0 (fun k j hk => ?_)⟩
      unfold Rlv at hk
      rw [hf' k j (by omega) (by omega)]
      exact hf k j (by omega) (by omega)
    · exact absurd hbad (fun z => TR_bad hok' z)
  · refine ⟨_, rfl, mz_weaken hma ?_⟩
    rintro r2 Z2 J2 ⟨rfl, hq2⟩
    rcases hq2 with ⟨e', he', rfl, hbad', hf'⟩ | ⟨n', rfl, hn24, hok', g0, grow, gco, ⟨w1, w2, w3⟩, hf'⟩
    · exact absurd hbad' (fun z => TR_bad hok z)
    · have en : n' = n := TR_unique hok' hok
      subst en
      rw [k64 64 3 (by decide), hH.2.1] at w1 w2 w3
      have low : ∀ (k : Nat) (j : Int), k < 64 → Z2 k j = Z1 k j := fun k j hk => hf' k j (by omega) (by omega) (by omega) (by omega)
      have hcp2 : CP Z2 n' := CP_of hcp (fun k j hk => low k j (by omega))
      refine ⟨rfl, n', ⟨hcp2, ⟨hcp2.1, hcp2.2.1, hcp2.2.2.1, hcp2.2.2.2.1⟩, g0, fun i i0 i1 => ?_, fun c c0 c1 => ?_⟩, I_T_of hT (fun k j hk => ?_), I_E_of hE (fun k j hk => ?_), ?_, I_R_of hR (fun k j hk => ?_)⟩
      · obtain ⟨a1, a2, a3⟩ := grow i i0 i1
        obtain ⟨b1, b2, b3⟩ := hrow i i0 i1
        rw [a1, a2, a3, low 5 i (by decide), low 6 i (by decide), low 7 i (by decide), b1, b2, b3]
        exact ⟨rfl, rfl, rfl⟩
      · rw [gco (73 + c) (by omega) (by omega), k64 65 _ (by decide), low 8 c (by decide), e8]
        exact hP.2.2.2.2 c c0 c1
      · rw [hf' k j (by omega) (by omega) (by omega) (by omega)]
        exact hf k j (by omega) (by omega) (by omega) (by omega) (by omega) (by omega)
      · rw [hf' k j (by omega) (by omega) (by omega) (by omega)]
        exact hf k j (by omega) (by omega) (by omega) (by omega) (by omega) (by omega)
      · obtain ⟨v1, v2, v3⟩ := hsv
        refine hist_save hH hP.2 ?_ ?_ ?_ (fun k j hk hk2 => ?_) w1 (fun j j0 j1 => ?_) (fun y y0 y1 => ?_)
        · rw [low 32 0 (by decide)]; exact v2
        · rw [low 32 1 (by decide)]; exact v3
        · obtain ⟨d1, d2, d3⟩ := v1
          refine ⟨by rw [low _ _ (by omega)]; exact d1, fun j j0 j1 => ?_, fun j j0 j1 => by rw [low _ _ (by omega)]; exact d3 j j0 j1⟩
          rw [low _ _ (by omega), low _ _ (by omega), low _ _ (by omega)]
          exact d2 j j0 j1
        · rw [low k j (by omega)]; exact hf k j (by omega) (by omega) (by omega) (by omega) (by omega) hk2
        · rw [w2 j j0 j1, k64 65 _ (by decide)]
        · rw [w3 y y0 y1, k64 67 _ (by decide)]
      · rw [hf' k j (by omega) (by omega) (by omega) (by omega)]
        exact hf k j (by omega) (by omega) (by omega) (by omega) (by omega) (by omega)
theorem p_run {Z : ZW} {J : Int64} {m bu : Int} (h : INV Z) (hm : RG m) (hb : RG bu) : PairI 82 139 [.int (I m), .int (I bu)] Z J := by
  have h0 := h
  obtain ⟨n, hP, hT, hE, hH, hR⟩ := h
  obtain ⟨m1, m2, m3, m4, m5, m6, m7, m8⟩ := I_P_m hP
  by_cases hin : (0 ≤ m ∧ m ≤ 2) ∧ 0 ≤ bu ∧ bu ≤ 30000
  · obtain ⟨hm2, hb2⟩ := hin
    have hch := RN_ch (Z 8) (Z 5) (Z 6) (Z 7) n m bu
    have erun := RN_congr m5 m8 m7 m6 m bu
    refine mz_weaken (s_run (Z := Z) (J := J) hP.1 hm2 hb2) ?_
    rintro r Z1 J1 ⟨rfl, rfl, c0, c1, c2, c3, c4, c5, hf⟩
    have e65 : Z1 65 = Z 65 := funext fun j => hf 65 j (by decide) (by decide)
    obtain ⟨k1, k2, k3, k4⟩ := keep64 e65
    have hmr := m_run (Z := Z1) (J := J1) (m := m) (bu := bu) (by rw [e65]; exact m1) m2 (by rw [k1, k2, k3]; exact m3) (by rw [k4]; exact m4) hm2 hb2
    rw [k1, k2, k3, k4, ← erun] at hmr
    refine ⟨_, rfl, mz_weaken hmr ?_⟩
    rintro r2 Z2 J2 ⟨rfl, rfl, d0, d1, d2, d3, d4, d5, hf2⟩
    have g : ∀ (k : Nat) (j : Int), (k < 70 ∨ 79 < k) → k ≠ 59 → k ≠ 60 → ¬ (k = 64 ∧ (j = 9 ∨ (18 ≤ j ∧ j ≤ 22) ∨ (25 ≤ j ∧ j ≤ 29))) → Z2 k j = Z k j := fun k j h1 h2 h3 h4 => (hf2 k j h1 h4).trans (hf k j h2 h3)
    have e59 : ∀ j, Z2 59 j = Z1 59 j := fun j => hf2 59 j (by omega) (by omega)
    have e60 : ∀ j, Z2 60 j = Z1 60 j := fun j => hf2 60 j (by omega) (by omega)
    refine ⟨rfl, n, I_P_of hP (fun k j hk => g k j (by omega) (by omega) (by omega) (by omega)) (fun _ _ _ => trivial), I_T_of hT (fun k j hk => g k j (by omega) (by omega) (by omega) (by omega)), I_E_of hE (fun k j hk => g k j (by omega) (by omega) (by omega) (by omega)), I_H_of hH (fun k j hk => g k j (by omega) (by omega) (by omega) (by omega)), ?_⟩
    refine ⟨by rw [d0, e59, c0], by rw [d1, e59, c1], by rw [d2, e59, c2], by rw [d3, e59, c3], by rw [d4, e59, c4], fun x x0 x1 => by rw [d5 x x0 x1, e60, c5 x x0 x1], ?_⟩
    rw [e59, e59, c1, c3]
    exact hch
  · refine d_weaken (s_run_bad (Z := Z) (J := J) hm hb hin) ⟨_, rfl, ?_⟩
    exact d_weaken (m_run_bad (Z := rf Z (-2)) (J := J) hm hb hin) ⟨rfl, INV_bad h0 (by omega)⟩
theorem p_needed {Z : ZW} {J : Int64} (h : INV Z) : PairI 90 148 [] Z J := by
  have h0 := h
  obtain ⟨n, hP, hT, hE, hH, hR⟩ := h
  obtain ⟨m1, m2, m3, m4, m5, m6, m7, m8⟩ := I_P_m hP
  have erun := RN_congr m5 m8 m7 m6 0 30000
  refine mz_weaken (s_needed (Z := Z) (J := J) hP.1) ?_
  rintro r Z1 J1 ⟨rfl, rfl, c0, c1, c2, c3, c4, c5, hf⟩
  have e65 : Z1 65 = Z 65 := funext fun j => hf 65 j (by decide) (by decide)
  obtain ⟨k1, k2, k3, k4⟩ := keep64 e65
  have hmr := m_needed (Z := Z1) (J := J1) (by rw [e65]; exact m1) m2 (by rw [k1, k2, k3]; exact m3) (by rw [k4]; exact m4)
  rw [k1, k2, k3, k4, ← erun] at hmr
  refine ⟨_, rfl, mz_weaken hmr ?_⟩
  rintro r2 Z2 J2 ⟨rfl, rfl, hf2⟩
  refine ⟨rfl, INV_of h0 (fun k j hk => ?_)⟩
  unfold Rlv at hk
  rw [hf2 k j (by omega) (by omega)]
  exact hf k j (by omega) (by omega)
