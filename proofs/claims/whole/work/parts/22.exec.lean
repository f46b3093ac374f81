/-! the class: Execution.execute is rn -/
theorem nR_congr {o a b : Int} {v v' : FI} (h : ∀ q, 0 ≤ q → q < (4 : Int) → v q = v' q) (ha : 0 ≤ a ∧ a < 4) (hb : (o = 2 ∨ o = 3) → 0 ≤ b ∧ b < 4) : ∀ q, 0 ≤ q → q < (4 : Int) → nR o a b v q = nR o a b v' q := by
  intro q q0 q1
  have h1 := h q q0 q1
  have h2 := h a ha.1 ha.2
  unfold nR
  by_cases c0 : o = 0
  · simp [c0, updF, h1, h2]
  · by_cases c1 : o = 1
    · simp [c1, updF, h1]
    · by_cases c2 : o = 2
      · have h3 := h b (hb (Or.inl c2)).1 (hb (Or.inl c2)).2
        simp [c2, updF, h1, h3]
      · by_cases c3 : o = 3
        · have h3 := h b (hb (Or.inr c3)).1 (hb (Or.inr c3)).2
          simp [c3, updF, h1, h2, h3]
        · simp [c0, c1, c2, c3, h1]
theorem nA_congr {o a b i : Int} {v v' : FI} (h : v a = v' a) : nA o a b v i = nA o a b v' i := by
  unfold nA
  rw [h]
def PX_59 (Z : ZW) (q : RES) (Z' : ZW) : Prop := Z' 59 0 = q.1 ∧ Z' 59 1 = q.2.1 ∧ Z' 59 2 = q.2.2.1 ∧ Z' 59 3 = q.2.2.2.1 ∧ Z' 59 4 = q.2.2.2.2.1 ∧ (∀ r, 0 ≤ r → r < (4 : Int) → Z' 60 r = q.2.2.2.2.2 r) ∧ ∀ (k : Nat) (j : Int), k ≠ 59 → k ≠ 60 → Z' k j = Z k j
set_option maxHeartbeats 4000000 in
theorem l_exec_59_0 {Z : ZW} {J : Int64} {n : Nat} {bu : Int} {q : RES} (hn : Z 4 0 = n) (hn2 : n ≤ 24) (hw : WFP (Z 5) (Z 6) (Z 7) n) (hc : ∀ i, 0 ≤ i → i < (n : Int) → (0 ≤ Z 27 i ∧ Z 27 i ≤ 9) ∧ (0 ≤ Z 28 i ∧ Z 28 i ≤ 10000)) : ∀ (d t : Nat) (a : Int) (paid : Bool) (rem ch : Int) (v : FI) (Z' : ZW), t + d = 3000 → (0 ≤ a ∧ a ≤ 24) → (0 ≤ rem ∧ rem ≤ 30000) → PX_59 Z (0, t, rem, ch, -1, v) Z' → q = rn n (Z 5) (Z 6) (Z 7) (Z 27) (Z 28) d t a paid rem ch v → OkZ none 22 24 [some (.ref 59), some (.ref 3), some (.ref 24), some (.int (I 0)), some (.int (I bu)), some (.ref 28), some (bI paid), some (.int (I a))] [] Z' J (fun r Z' J' => r = none ∧ J' = J ∧ PX_59 Z q Z') := by
  intro d
  induction d with
  | zero =>
    intro t a paid rem ch v Z' ht ha hrem hP hq
    obtain ⟨p0, p1, p2, p3, p4, p5, p6⟩ := id hP
    have e4 : Z' 4 0 = n := by rw [p6 4 0 (by decide) (by decide)]; exact hn
    have p1 : Z' 59 1 = t := p1
    have hq2 : q = if 0 ≤ a ∧ a < (n : Int) then (2, (t : Int), rem, ch, a, v) else (0, (t : Int), rem, ch, -1, v) := hq
    refine z_aload_n rfl rfl ?_
    refine z_getI (bi := 1) rfl rfl rfl rfl ?_
    refine z_sipush rfl (by decide) ?_
    refine z_icmp_ge rfl (by omega) (by omega) (fun h31 => ?_) (fun h31 => ?_)
    · refine z_aload_n rfl rfl ?_
      refine z_iload rfl rfl ?_
      refine z_callV1 rfl rfl rfl rfl rfl rfl (s_has (by omega) (by omega)) ?_
      refine z_ifb_eq rfl (fun h117 => ?_) (fun h117 => ?_)
      · have hno := of_decide_eq_false h117
        rw [if_neg (by rw [← e4]; exact hno)] at hq2
        exact z_vret rfl rfl ⟨rfl, rfl, by rw [hq2]; exact hP⟩
      · refine z_aload_n rfl rfl ?_
        refine z_iconst rfl ?_
        refine z_iload rfl rfl ?_
        refine z_callV2v rfl rfl rfl rfl rfl rfl (s_finish_59) ?_
        have hyes := of_decide_eq_true h117
        rw [if_pos (by rw [← e4]; exact hyes)] at hq2
        refine z_vret rfl rfl ⟨rfl, rfl, ?_⟩
        rw [hq2]
        refine ⟨by simp [up], by simp [up, p1], by simpa [up] using p2, by simpa [up] using p3, by simp [up], fun r r0 r1 => by simpa [up] using p5 r r0 r1, fun k j k1 k2 => by simpa [up, k1] using p6 k j k1 k2⟩
    · exfalso; omega
  | succ d ih =>
    intro t a paid rem ch v Z' ht ha hrem hP hq
    obtain ⟨p0, p1, p2, p3, p4, p5, p6⟩ := id hP
    have e4 : Z' 4 0 = n := by rw [p6 4 0 (by decide) (by decide)]; exact hn
    have p1 : Z' 59 1 = t := p1
    by_cases hin : 0 ≤ a ∧ a < (n : Int)
    rotate_left
    · have hq2 : q = (0, (t : Int), rem, ch, -1, v) := by rw [hq]; unfold rn; rw [if_neg hin]
      refine z_aload_n rfl rfl ?_
      refine z_getI (bi := 1) rfl rfl rfl rfl ?_
      refine z_sipush rfl (by decide) ?_
      refine z_icmp_ge rfl (by omega) (by omega) (fun h31 => ?_) (fun h31 => ?_)
      · refine z_aload_n rfl rfl ?_
        refine z_iload rfl rfl ?_
        refine z_callV1 rfl rfl rfl rfl rfl rfl (s_has (by omega) (by omega)) ?_
        refine z_ifb_eq rfl (fun h117 => ?_) (fun h117 => ?_)
        · exact z_vret rfl rfl ⟨rfl, rfl, by rw [hq2]; exact hP⟩
        · exact absurd (of_decide_eq_true h117) (by rw [e4]; exact hin)
      · refine z_aload_n rfl rfl ?_
        refine z_iload rfl rfl ?_
        refine z_callV1 rfl rfl rfl rfl rfl rfl (s_has (by omega) (by omega)) ?_
        refine z_ifb_eq rfl (fun h40 => ?_) (fun h40 => ?_)
        · refine z_aload_n rfl rfl ?_
          refine z_iload rfl rfl ?_
          refine z_callV1 rfl rfl rfl rfl rfl rfl (s_has (by omega) (by omega)) ?_
          refine z_ifb_eq rfl (fun h117 => ?_) (fun h117 => ?_)
          · exact z_vret rfl rfl ⟨rfl, rfl, by rw [hq2]; exact hP⟩
          · exact absurd (of_decide_eq_true h117) (by rw [e4]; exact hin)
        · exact absurd (of_decide_eq_true h40) (by rw [e4]; exact hin)
    have hca := hc a hin.1 hin.2
    have e27 : Z' 27 a = Z 27 a := p6 27 _ (by decide) (by decide)
    have een : Z' 28 a = Z 28 a := p6 28 _ (by decide) (by decide)
    obtain ⟨w1, w2, w3, w4, w5⟩ := hw a hin.1 hin.2
    obtain ⟨b, eb⟩ : ∃ b, b = (if 0 < Z 28 a then decide (Z 28 a ≤ rem) else paid) := ⟨_, rfl⟩
    obtain ⟨m, em⟩ : ∃ m, m = (if 0 < Z 28 a ∧ Z 28 a ≤ rem then rem - Z 28 a else rem) := ⟨_, rfl⟩
    obtain ⟨g, eg⟩ : ∃ g, g = (if 0 < Z 28 a ∧ Z 28 a ≤ rem then ch + 1 else ch) := ⟨_, rfl⟩
    have hm : 0 ≤ m ∧ m ≤ 30000 := by rw [em]; split <;> omega
    have hq2 : q = if b then rn n (Z 5) (Z 6) (Z 7) (Z 27) (Z 28) d (t + 1) (nA (Z 5 a) (Z 6 a) (Z 7 a) v a) b m g (nR (Z 5 a) (Z 6 a) (Z 7 a) v) else if Z 27 a ≤ m then rn n (Z 5) (Z 6) (Z 7) (Z 27) (Z 28) d (t + 1) (nA (Z 5 a) (Z 6 a) (Z 7 a) v a) b (m - Z 27 a) (g + 1) (nR (Z 5 a) (Z 6 a) (Z 7 a) v) else (1, (t : Int), m, g, a, v) := by
      rw [hq, eb, em, eg]
      show (if 0 ≤ a ∧ a < (n : Int) then _ else _) = _
      rw [if_pos hin]
    have K89 : ∀ (m2 g2 : Int) (Z2 : ZW), (0 ≤ m2 ∧ m2 ≤ 30000) → PX_59 Z (0, t, m2, g2, -1, v) Z2 → q = rn n (Z 5) (Z 6) (Z 7) (Z 27) (Z 28) d (t + 1) (nA (Z 5 a) (Z 6 a) (Z 7 a) v a) b m2 g2 (nR (Z 5 a) (Z 6 a) (Z 7 a) v) → OkZ none 22 89 [some (.ref 59), some (.ref 3), some (.ref 24), some (.int (I 0)), some (.int (I bu)), some (.ref 28), some (bI b), some (.int (I a))] [] Z2 J (fun r Z' J' => r = none ∧ J' = J ∧ PX_59 Z q Z') := by
      intro m2 g2 Z2 hm2 hP2 hq3
      obtain ⟨r0, r1, r2, r3, r4, r5, r6⟩ := hP2
      have f5 : Z2 5 = Z 5 := by funext j; exact r6 5 j (by decide) (by decide)
      have f6 : Z2 6 = Z 6 := by funext j; exact r6 6 j (by decide) (by decide)
      have f7 : Z2 7 = Z 7 := by funext j; exact r6 7 j (by decide) (by decide)
      have hpf := s_perform_59 (Z := Z2) (J := J) (n := n) (i := a) hn2 (by rw [f5, f6, f7]; exact hw) hin
      rw [f5, f6, f7, nA_congr (r5 (Z 6 a) (by omega) (by omega))] at hpf
      have hna := nA_in hw hn2 hin.1 hin.2 v
      refine z_aload_n rfl rfl ?_
      refine z_aload_n rfl rfl ?_
      refine z_iload rfl rfl ?_
      refine z_callV2g rfl rfl rfl rfl rfl rfl (hpf) (fun r93 Z93 J93 q93 => ?_)
      obtain ⟨rfl, rfl, y1, y2⟩ := q93
      show OkZ none 22 96 _ (.int (I (nA (Z 5 a) (Z 6 a) (Z 7 a) v a)) :: []) _ _ _
      refine z_istore rfl rfl rfl ?_
      refine z_aload_n rfl rfl ?_
      refine z_dup rfl rfl ?_
      refine z_getI (bi := 1) rfl rfl rfl rfl ?_
      refine z_iconst rfl ?_
      refine z_iadd rfl ?_
      refine z_putI (bi := 1) rfl rfl rfl rfl rfl ?_
      refine z_goto rfl ?_
      refine ih (t + 1) _ b m2 g2 _ _ (by omega) hna hm2 ?_ hq3
      refine ⟨by simp only [up]; rw [if_neg (fun z => absurd z.2 (by decide)), y2 59 0 (by decide)]; exact r0, ?_, by simp only [up]; rw [if_neg (fun z => absurd z.2 (by decide)), y2 59 2 (by decide)]; exact r2, by simp only [up]; rw [if_neg (fun z => absurd z.2 (by decide)), y2 59 3 (by decide)]; exact r3, by simp only [up]; rw [if_neg (fun z => absurd z.2 (by decide)), y2 59 4 (by decide)]; exact r4, fun r z0 z1 => ?_, fun k j k1 k2 => ?_⟩
      · have r1 : Z2 59 1 = t := r1
        have : Z93 59 1 = t := by rw [y2 59 1 (by decide)]; exact r1
        simp only [up]; rw [if_pos ⟨trivial, trivial⟩, this]; rfl
      · simp only [up]; rw [if_neg (fun z => absurd z.1 (by decide)), y1 r z0 z1]; exact nR_congr r5 (by omega) (fun z => by have := w4 z; omega) r z0 z1
      · simp only [up]; rw [if_neg (fun z => k1 z.1), y2 k j k2]; exact r6 k j k1 k2
    have K62 : ∀ (Z2 : ZW), PX_59 Z (0, t, m, g, -1, v) Z2 → OkZ none 22 62 [some (.ref 59), some (.ref 3), some (.ref 24), some (.int (I 0)), some (.int (I bu)), some (.ref 28), some (bI b), some (.int (I a))] [] Z2 J (fun r Z' J' => r = none ∧ J' = J ∧ PX_59 Z q Z') := by
      intro Z2 hP2
      obtain ⟨r0, r1, r2, r3, r4, r5, r6⟩ := id hP2
      have r2 : Z2 59 2 = m := r2
      have r3 : Z2 59 3 = g := r3
      have r1 : Z2 59 1 = t := r1
      have f27 : Z2 27 a = Z 27 a := r6 27 _ (by decide) (by decide)
      refine z_iload rfl rfl ?_
      refine z_ifb_ne rfl (fun h64 => ?_) (fun h64 => ?_)
      · rw [h64, if_pos rfl] at hq2
        exact K89 m g Z2 hm hP2 (by rw [hq2, h64])
      · refine z_aload_n rfl rfl ?_
        refine z_aload_n rfl rfl ?_
        refine z_getR rfl rfl rfl rfl ?_
        refine z_iload rfl rfl ?_
        refine z_iald rfl rfl (by omega) ?_
        refine z_callV1 rfl rfl rfl rfl rfl rfl (s_pay_59 (by rw [f27]; omega) (by rw [r2]; omega)) ?_
        refine z_ifb_ne rfl (fun h78 => ?_) (fun h78 => ?_)
        · have hle := of_decide_eq_true h78
          rw [f27, r2] at hle
          rw [h64, if_neg (by decide), if_pos hle] at hq2
          rw [f27, r2, if_pos hle, r3]
          refine K89 (m - Z 27 a) (g + 1) _ (by omega) ?_ (by rw [hq2, h64])
          exact ⟨by simpa [up] using r0, by simpa [up] using r1, by simp [up], by simp [up], by simpa [up] using r4, fun r z0 z1 => by simpa [up] using r5 r z0 z1, fun k j k1 k2 => by simpa [up, k1] using r6 k j k1 k2⟩
        · refine z_aload_n rfl rfl ?_
          refine z_iconst rfl ?_
          refine z_iload rfl rfl ?_
          refine z_callV2v rfl rfl rfl rfl rfl rfl (s_finish_59) ?_
          have hgt := of_decide_eq_false h78
          rw [f27, r2] at hgt
          rw [h64, if_neg (by decide), if_neg hgt] at hq2
          rw [f27, r2, if_neg hgt]
          refine z_vret rfl rfl ⟨rfl, rfl, ?_⟩
          rw [hq2]
          exact ⟨by simp [up], by simpa [up] using r1, by simpa [up] using r2, by simpa [up] using r3, by simp [up], fun r z0 z1 => by simpa [up] using r5 r z0 z1, fun k j k1 k2 => by simpa [up, k1] using r6 k j k1 k2⟩
    have p2 : Z' 59 2 = rem := p2
    have p3 : Z' 59 3 = ch := p3
    refine z_aload_n rfl rfl ?_
    refine z_getI (bi := 1) rfl rfl rfl rfl ?_
    refine z_sipush rfl (by decide) ?_
    refine z_icmp_ge rfl (by omega) (by omega) (fun h31 => ?_) (fun h31 => ?_)
    · exfalso; omega
    · refine z_aload_n rfl rfl ?_
      refine z_iload rfl rfl ?_
      refine z_callV1 rfl rfl rfl rfl rfl rfl (s_has (by omega) (by omega)) ?_
      refine z_ifb_eq rfl (fun h40 => ?_) (fun h40 => ?_)
      · exact absurd (show 0 ≤ a ∧ a < Z' 4 0 by omega) (of_decide_eq_false h40)
      · refine z_aload rfl rfl ?_
        refine z_iload rfl rfl ?_
        refine z_iald rfl rfl (by omega) ?_
        refine z_if_le rfl (by omega) (fun h48 => ?_) (fun h48 => ?_)
        · have hno : ¬ 0 < Z 28 a := by rw [← een]; omega
          rw [if_neg hno] at eb
          rw [if_neg (fun z => hno z.1)] at em eg
          rw [eb, em, eg] at K62
          exact K62 Z' hP
        · refine z_aload_n rfl rfl ?_
          refine z_aload rfl rfl ?_
          refine z_iload rfl rfl ?_
          refine z_iald rfl rfl (by omega) ?_
          refine z_callV1 rfl rfl rfl rfl rfl rfl (s_pay_59 (by rw [een]; omega) (by rw [p2]; omega)) ?_
          refine z_istore rfl rfl rfl ?_
          have hpos : 0 < Z 28 a := by rw [← een]; omega
          rw [if_pos hpos] at eb
          rw [een, p2, p3, ← eb]
          by_cases hle : Z 28 a ≤ rem
          · rw [if_pos ⟨hpos, hle⟩] at em eg
            rw [if_pos hle]
            refine K62 _ ?_
            rw [em, eg]
            exact ⟨by simpa [up] using p0, by simpa [up] using p1, by simp [up], by simp [up], by simpa [up] using p4, fun r z0 z1 => by simpa [up] using p5 r z0 z1, fun k j k1 k2 => by simpa [up, k1] using p6 k j k1 k2⟩
          · rw [if_neg (fun z => hle z.2)] at em eg
            rw [if_neg hle]
            refine K62 _ ?_
            rw [em, eg]
            exact hP
theorem s_exec_59_0 {Z : ZW} {J : Int64} {n : Nat} {bu : Int} (hn : Z 4 0 = n) (hn2 : n ≤ 24) (hw : WFP (Z 5) (Z 6) (Z 7) n) (hc : ∀ i, 0 ≤ i → i < (n : Int) → (0 ≤ Z 27 i ∧ Z 27 i ≤ 9) ∧ (0 ≤ Z 28 i ∧ Z 28 i ≤ 10000)) (hbu : 0 ≤ bu ∧ bu ≤ 30000) : Mz 22 [.ref 59, .ref 3, .ref 24, .int (I 0), .int (I bu)] Z J (fun r Z' J' => r = none ∧ J' = J ∧ PX_59 Z (rn n (Z 5) (Z 6) (Z 7) (Z 27) (Z 28) 3000 0 0 false bu 0 (fun _ => 0)) Z') := by
  unfold Mz
  refine z_aload_n rfl rfl ?_
  refine z_iload_n rfl rfl ?_
  refine z_callV1 rfl rfl rfl rfl rfl rfl (s_entries0) ?_
  refine z_astore rfl rfl rfl ?_
  refine z_aload_n rfl rfl ?_
  refine z_iload rfl rfl ?_
  refine z_callV1g rfl rfl rfl rfl rfl rfl (s_begin_59) (fun r10 Z10 J10 q10 => ?_)
  obtain ⟨rfl, rfl, b0, b2, b3, b4, b5, b6⟩ := q10
  show OkZ none 22 13 _ [] _ _ _
  refine z_iconst rfl ?_
  refine z_istore rfl rfl rfl ?_
  refine z_iconst rfl ?_
  refine z_istore rfl rfl rfl ?_
  refine z_aload_n rfl rfl ?_
  refine z_iconst rfl ?_
  refine z_putI (bi := 1) rfl rfl rfl rfl rfl ?_
  obtain ⟨Z1, hZ1⟩ : ∃ Z1, Z1 = up Z10 59 1 0 := ⟨_, rfl⟩
  rw [← hZ1]
  have g6 : ∀ (k : Nat) (j : Int), k ≠ 59 → k ≠ 60 → Z1 k j = Z k j := by intro k j k1 k2; rw [hZ1]; simp only [up]; rw [if_neg (fun z => k1 z.1)]; exact b6 k j k1 k2
  exact l_exec_59_0 (Z := Z) hn hn2 hw hc 3000 0 0 false bu 0 (fun _ => 0) Z1 (by omega) (by omega) hbu ⟨by rw [hZ1]; simpa [up] using b0, by rw [hZ1]; simp [up], by rw [hZ1]; simpa [up] using b2, by rw [hZ1]; simpa [up] using b3, by rw [hZ1]; simpa [up] using b4, fun r z0 z1 => by rw [hZ1]; simpa [up] using b5 r z0 z1, g6⟩ rfl
set_option maxHeartbeats 4000000 in
theorem l_exec_59_1 {Z : ZW} {J : Int64} {n : Nat} {bu : Int} {q : RES} (hn : Z 4 0 = n) (hn2 : n ≤ 24) (hw : WFP (Z 5) (Z 6) (Z 7) n) (hc : ∀ i, 0 ≤ i → i < (n : Int) → (0 ≤ Z 27 i ∧ Z 27 i ≤ 9) ∧ (0 ≤ Z 29 i ∧ Z 29 i ≤ 10000)) : ∀ (d t : Nat) (a : Int) (paid : Bool) (rem ch : Int) (v : FI) (Z' : ZW), t + d = 3000 → (0 ≤ a ∧ a ≤ 24) → (0 ≤ rem ∧ rem ≤ 30000) → PX_59 Z (0, t, rem, ch, -1, v) Z' → q = rn n (Z 5) (Z 6) (Z 7) (Z 27) (Z 29) d t a paid rem ch v → OkZ none 22 24 [some (.ref 59), some (.ref 3), some (.ref 24), some (.int (I 1)), some (.int (I bu)), some (.ref 29), some (bI paid), some (.int (I a))] [] Z' J (fun r Z' J' => r = none ∧ J' = J ∧ PX_59 Z q Z') := by
  intro d
  induction d with
  | zero =>
    intro t a paid rem ch v Z' ht ha hrem hP hq
    obtain ⟨p0, p1, p2, p3, p4, p5, p6⟩ := id hP
    have e4 : Z' 4 0 = n := by rw [p6 4 0 (by decide) (by decide)]; exact hn
    have p1 : Z' 59 1 = t := p1
    have hq2 : q = if 0 ≤ a ∧ a < (n : Int) then (2, (t : Int), rem, ch, a, v) else (0, (t : Int), rem, ch, -1, v) := hq
    refine z_aload_n rfl rfl ?_
    refine z_getI (bi := 1) rfl rfl rfl rfl ?_
    refine z_sipush rfl (by decide) ?_
    refine z_icmp_ge rfl (by omega) (by omega) (fun h31 => ?_) (fun h31 => ?_)
    · refine z_aload_n rfl rfl ?_
      refine z_iload rfl rfl ?_
      refine z_callV1 rfl rfl rfl rfl rfl rfl (s_has (by omega) (by omega)) ?_
      refine z_ifb_eq rfl (fun h117 => ?_) (fun h117 => ?_)
      · have hno := of_decide_eq_false h117
        rw [if_neg (by rw [← e4]; exact hno)] at hq2
        exact z_vret rfl rfl ⟨rfl, rfl, by rw [hq2]; exact hP⟩
      · refine z_aload_n rfl rfl ?_
        refine z_iconst rfl ?_
        refine z_iload rfl rfl ?_
        refine z_callV2v rfl rfl rfl rfl rfl rfl (s_finish_59) ?_
        have hyes := of_decide_eq_true h117
        rw [if_pos (by rw [← e4]; exact hyes)] at hq2
        refine z_vret rfl rfl ⟨rfl, rfl, ?_⟩
        rw [hq2]
        refine ⟨by simp [up], by simp [up, p1], by simpa [up] using p2, by simpa [up] using p3, by simp [up], fun r r0 r1 => by simpa [up] using p5 r r0 r1, fun k j k1 k2 => by simpa [up, k1] using p6 k j k1 k2⟩
    · exfalso; omega
  | succ d ih =>
    intro t a paid rem ch v Z' ht ha hrem hP hq
    obtain ⟨p0, p1, p2, p3, p4, p5, p6⟩ := id hP
    have e4 : Z' 4 0 = n := by rw [p6 4 0 (by decide) (by decide)]; exact hn
    have p1 : Z' 59 1 = t := p1
    by_cases hin : 0 ≤ a ∧ a < (n : Int)
    rotate_left
    · have hq2 : q = (0, (t : Int), rem, ch, -1, v) := by rw [hq]; unfold rn; rw [if_neg hin]
      refine z_aload_n rfl rfl ?_
      refine z_getI (bi := 1) rfl rfl rfl rfl ?_
      refine z_sipush rfl (by decide) ?_
      refine z_icmp_ge rfl (by omega) (by omega) (fun h31 => ?_) (fun h31 => ?_)
      · refine z_aload_n rfl rfl ?_
        refine z_iload rfl rfl ?_
        refine z_callV1 rfl rfl rfl rfl rfl rfl (s_has (by omega) (by omega)) ?_
        refine z_ifb_eq rfl (fun h117 => ?_) (fun h117 => ?_)
        · exact z_vret rfl rfl ⟨rfl, rfl, by rw [hq2]; exact hP⟩
        · exact absurd (of_decide_eq_true h117) (by rw [e4]; exact hin)
      · refine z_aload_n rfl rfl ?_
        refine z_iload rfl rfl ?_
        refine z_callV1 rfl rfl rfl rfl rfl rfl (s_has (by omega) (by omega)) ?_
        refine z_ifb_eq rfl (fun h40 => ?_) (fun h40 => ?_)
        · refine z_aload_n rfl rfl ?_
          refine z_iload rfl rfl ?_
          refine z_callV1 rfl rfl rfl rfl rfl rfl (s_has (by omega) (by omega)) ?_
          refine z_ifb_eq rfl (fun h117 => ?_) (fun h117 => ?_)
          · exact z_vret rfl rfl ⟨rfl, rfl, by rw [hq2]; exact hP⟩
          · exact absurd (of_decide_eq_true h117) (by rw [e4]; exact hin)
        · exact absurd (of_decide_eq_true h40) (by rw [e4]; exact hin)
    have hca := hc a hin.1 hin.2
    have e27 : Z' 27 a = Z 27 a := p6 27 _ (by decide) (by decide)
    have een : Z' 29 a = Z 29 a := p6 29 _ (by decide) (by decide)
    obtain ⟨w1, w2, w3, w4, w5⟩ := hw a hin.1 hin.2
    obtain ⟨b, eb⟩ : ∃ b, b = (if 0 < Z 29 a then decide (Z 29 a ≤ rem) else paid) := ⟨_, rfl⟩
    obtain ⟨m, em⟩ : ∃ m, m = (if 0 < Z 29 a ∧ Z 29 a ≤ rem then rem - Z 29 a else rem) := ⟨_, rfl⟩
    obtain ⟨g, eg⟩ : ∃ g, g = (if 0 < Z 29 a ∧ Z 29 a ≤ rem then ch + 1 else ch) := ⟨_, rfl⟩
    have hm : 0 ≤ m ∧ m ≤ 30000 := by rw [em]; split <;> omega
    have hq2 : q = if b then rn n (Z 5) (Z 6) (Z 7) (Z 27) (Z 29) d (t + 1) (nA (Z 5 a) (Z 6 a) (Z 7 a) v a) b m g (nR (Z 5 a) (Z 6 a) (Z 7 a) v) else if Z 27 a ≤ m then rn n (Z 5) (Z 6) (Z 7) (Z 27) (Z 29) d (t + 1) (nA (Z 5 a) (Z 6 a) (Z 7 a) v a) b (m - Z 27 a) (g + 1) (nR (Z 5 a) (Z 6 a) (Z 7 a) v) else (1, (t : Int), m, g, a, v) := by
      rw [hq, eb, em, eg]
      show (if 0 ≤ a ∧ a < (n : Int) then _ else _) = _
      rw [if_pos hin]
    have K89 : ∀ (m2 g2 : Int) (Z2 : ZW), (0 ≤ m2 ∧ m2 ≤ 30000) → PX_59 Z (0, t, m2, g2, -1, v) Z2 → q = rn n (Z 5) (Z 6) (Z 7) (Z 27) (Z 29) d (t + 1) (nA (Z 5 a) (Z 6 a) (Z 7 a) v a) b m2 g2 (nR (Z 5 a) (Z 6 a) (Z 7 a) v) → OkZ none 22 89 [some (.ref 59), some (.ref 3), some (.ref 24), some (.int (I 1)), some (.int (I bu)), some (.ref 29), some (bI b), some (.int (I a))] [] Z2 J (fun r Z' J' => r = none ∧ J' = J ∧ PX_59 Z q Z') := by
      intro m2 g2 Z2 hm2 hP2 hq3
      obtain ⟨r0, r1, r2, r3, r4, r5, r6⟩ := hP2
      have f5 : Z2 5 = Z 5 := by funext j; exact r6 5 j (by decide) (by decide)
      have f6 : Z2 6 = Z 6 := by funext j; exact r6 6 j (by decide) (by decide)
      have f7 : Z2 7 = Z 7 := by funext j; exact r6 7 j (by decide) (by decide)
      have hpf := s_perform_59 (Z := Z2) (J := J) (n := n) (i := a) hn2 (by rw [f5, f6, f7]; exact hw) hin
      rw [f5, f6, f7, nA_congr (r5 (Z 6 a) (by omega) (by omega))] at hpf
      have hna := nA_in hw hn2 hin.1 hin.2 v
      refine z_aload_n rfl rfl ?_
      refine z_aload_n rfl rfl ?_
      refine z_iload rfl rfl ?_
      refine z_callV2g rfl rfl rfl rfl rfl rfl (hpf) (fun r93 Z93 J93 q93 => ?_)
      obtain ⟨rfl, rfl, y1, y2⟩ := q93
      show OkZ none 22 96 _ (.int (I (nA (Z 5 a) (Z 6 a) (Z 7 a) v a)) :: []) _ _ _
      refine z_istore rfl rfl rfl ?_
      refine z_aload_n rfl rfl ?_
      refine z_dup rfl rfl ?_
      refine z_getI (bi := 1) rfl rfl rfl rfl ?_
      refine z_iconst rfl ?_
      refine z_iadd rfl ?_
      refine z_putI (bi := 1) rfl rfl rfl rfl rfl ?_
      refine z_goto rfl ?_
      refine ih (t + 1) _ b m2 g2 _ _ (by omega) hna hm2 ?_ hq3
      refine ⟨by simp only [up]; rw [if_neg (fun z => absurd z.2 (by decide)), y2 59 0 (by decide)]; exact r0, ?_, by simp only [up]; rw [if_neg (fun z => absurd z.2 (by decide)), y2 59 2 (by decide)]; exact r2, by simp only [up]; rw [if_neg (fun z => absurd z.2 (by decide)), y2 59 3 (by decide)]; exact r3, by simp only [up]; rw [if_neg (fun z => absurd z.2 (by decide)), y2 59 4 (by decide)]; exact r4, fun r z0 z1 => ?_, fun k j k1 k2 => ?_⟩
      · have r1 : Z2 59 1 = t := r1
        have : Z93 59 1 = t := by rw [y2 59 1 (by decide)]; exact r1
        simp only [up]; rw [if_pos ⟨trivial, trivial⟩, this]; rfl
      · simp only [up]; rw [if_neg (fun z => absurd z.1 (by decide)), y1 r z0 z1]; exact nR_congr r5 (by omega) (fun z => by have := w4 z; omega) r z0 z1
      · simp only [up]; rw [if_neg (fun z => k1 z.1), y2 k j k2]; exact r6 k j k1 k2
    have K62 : ∀ (Z2 : ZW), PX_59 Z (0, t, m, g, -1, v) Z2 → OkZ none 22 62 [some (.ref 59), some (.ref 3), some (.ref 24), some (.int (I 1)), some (.int (I bu)), some (.ref 29), some (bI b), some (.int (I a))] [] Z2 J (fun r Z' J' => r = none ∧ J' = J ∧ PX_59 Z q Z') := by
      intro Z2 hP2
      obtain ⟨r0, r1, r2, r3, r4, r5, r6⟩ := id hP2
      have r2 : Z2 59 2 = m := r2
      have r3 : Z2 59 3 = g := r3
      have r1 : Z2 59 1 = t := r1
      have f27 : Z2 27 a = Z 27 a := r6 27 _ (by decide) (by decide)
      refine z_iload rfl rfl ?_
      refine z_ifb_ne rfl (fun h64 => ?_) (fun h64 => ?_)
      · rw [h64, if_pos rfl] at hq2
        exact K89 m g Z2 hm hP2 (by rw [hq2, h64])
      · refine z_aload_n rfl rfl ?_
        refine z_aload_n rfl rfl ?_
        refine z_getR rfl rfl rfl rfl ?_
        refine z_iload rfl rfl ?_
        refine z_iald rfl rfl (by omega) ?_
        refine z_callV1 rfl rfl rfl rfl rfl rfl (s_pay_59 (by rw [f27]; omega) (by rw [r2]; omega)) ?_
        refine z_ifb_ne rfl (fun h78 => ?_) (fun h78 => ?_)
        · have hle := of_decide_eq_true h78
          rw [f27, r2] at hle
          rw [h64, if_neg (by decide), if_pos hle] at hq2
          rw [f27, r2, if_pos hle, r3]
          refine K89 (m - Z 27 a) (g + 1) _ (by omega) ?_ (by rw [hq2, h64])
          exact ⟨by simpa [up] using r0, by simpa [up] using r1, by simp [up], by simp [up], by simpa [up] using r4, fun r z0 z1 => by simpa [up] using r5 r z0 z1, fun k j k1 k2 => by simpa [up, k1] using r6 k j k1 k2⟩
        · refine z_aload_n rfl rfl ?_
          refine z_iconst rfl ?_
          refine z_iload rfl rfl ?_
          refine z_callV2v rfl rfl rfl rfl rfl rfl (s_finish_59) ?_
          have hgt := of_decide_eq_false h78
          rw [f27, r2] at hgt
          rw [h64, if_neg (by decide), if_neg hgt] at hq2
          rw [f27, r2, if_neg hgt]
          refine z_vret rfl rfl ⟨rfl, rfl, ?_⟩
          rw [hq2]
          exact ⟨by simp [up], by simpa [up] using r1, by simpa [up] using r2, by simpa [up] using r3, by simp [up], fun r z0 z1 => by simpa [up] using r5 r z0 z1, fun k j k1 k2 => by simpa [up, k1] using r6 k j k1 k2⟩
    have p2 : Z' 59 2 = rem := p2
    have p3 : Z' 59 3 = ch := p3
    refine z_aload_n rfl rfl ?_
    refine z_getI (bi := 1) rfl rfl rfl rfl ?_
    refine z_sipush rfl (by decide) ?_
    refine z_icmp_ge rfl (by omega) (by omega) (fun h31 => ?_) (fun h31 => ?_)
    · exfalso; omega
    · refine z_aload_n rfl rfl ?_
      refine z_iload rfl rfl ?_
      refine z_callV1 rfl rfl rfl rfl rfl rfl (s_has (by omega) (by omega)) ?_
      refine z_ifb_eq rfl (fun h40 => ?_) (fun h40 => ?_)
      · exact absurd (show 0 ≤ a ∧ a < Z' 4 0 by omega) (of_decide_eq_false h40)
      · refine z_aload rfl rfl ?_
        refine z_iload rfl rfl ?_
        refine z_iald rfl rfl (by omega) ?_
        refine z_if_le rfl (by omega) (fun h48 => ?_) (fun h48 => ?_)
        · have hno : ¬ 0 < Z 29 a := by rw [← een]; omega
          rw [if_neg hno] at eb
          rw [if_neg (fun z => hno z.1)] at em eg
          rw [eb, em, eg] at K62
          exact K62 Z' hP
        · refine z_aload_n rfl rfl ?_
          refine z_aload rfl rfl ?_
          refine z_iload rfl rfl ?_
          refine z_iald rfl rfl (by omega) ?_
          refine z_callV1 rfl rfl rfl rfl rfl rfl (s_pay_59 (by rw [een]; omega) (by rw [p2]; omega)) ?_
          refine z_istore rfl rfl rfl ?_
          have hpos : 0 < Z 29 a := by rw [← een]; omega
          rw [if_pos hpos] at eb
          rw [een, p2, p3, ← eb]
          by_cases hle : Z 29 a ≤ rem
          · rw [if_pos ⟨hpos, hle⟩] at em eg
            rw [if_pos hle]
            refine K62 _ ?_
            rw [em, eg]
            exact ⟨by simpa [up] using p0, by simpa [up] using p1, by simp [up], by simp [up], by simpa [up] using p4, fun r z0 z1 => by simpa [up] using p5 r z0 z1, fun k j k1 k2 => by simpa [up, k1] using p6 k j k1 k2⟩
          · rw [if_neg (fun z => hle z.2)] at em eg
            rw [if_neg hle]
            refine K62 _ ?_
            rw [em, eg]
            exact hP
theorem s_exec_59_1 {Z : ZW} {J : Int64} {n : Nat} {bu : Int} (hn : Z 4 0 = n) (hn2 : n ≤ 24) (hw : WFP (Z 5) (Z 6) (Z 7) n) (hc : ∀ i, 0 ≤ i → i < (n : Int) → (0 ≤ Z 27 i ∧ Z 27 i ≤ 9) ∧ (0 ≤ Z 29 i ∧ Z 29 i ≤ 10000)) (hbu : 0 ≤ bu ∧ bu ≤ 30000) : Mz 22 [.ref 59, .ref 3, .ref 24, .int (I 1), .int (I bu)] Z J (fun r Z' J' => r = none ∧ J' = J ∧ PX_59 Z (rn n (Z 5) (Z 6) (Z 7) (Z 27) (Z 29) 3000 0 0 false bu 0 (fun _ => 0)) Z') := by
  unfold Mz
  refine z_aload_n rfl rfl ?_
  refine z_iload_n rfl rfl ?_
  refine z_callV1 rfl rfl rfl rfl rfl rfl (s_entries1) ?_
  refine z_astore rfl rfl rfl ?_
  refine z_aload_n rfl rfl ?_
  refine z_iload rfl rfl ?_
  refine z_callV1g rfl rfl rfl rfl rfl rfl (s_begin_59) (fun r10 Z10 J10 q10 => ?_)
  obtain ⟨rfl, rfl, b0, b2, b3, b4, b5, b6⟩ := q10
  show OkZ none 22 13 _ [] _ _ _
  refine z_iconst rfl ?_
  refine z_istore rfl rfl rfl ?_
  refine z_iconst rfl ?_
  refine z_istore rfl rfl rfl ?_
  refine z_aload_n rfl rfl ?_
  refine z_iconst rfl ?_
  refine z_putI (bi := 1) rfl rfl rfl rfl rfl ?_
  obtain ⟨Z1, hZ1⟩ : ∃ Z1, Z1 = up Z10 59 1 0 := ⟨_, rfl⟩
  rw [← hZ1]
  have g6 : ∀ (k : Nat) (j : Int), k ≠ 59 → k ≠ 60 → Z1 k j = Z k j := by intro k j k1 k2; rw [hZ1]; simp only [up]; rw [if_neg (fun z => k1 z.1)]; exact b6 k j k1 k2
  exact l_exec_59_1 (Z := Z) hn hn2 hw hc 3000 0 0 false bu 0 (fun _ => 0) Z1 (by omega) (by omega) hbu ⟨by rw [hZ1]; simpa [up] using b0, by rw [hZ1]; simp [up], by rw [hZ1]; simpa [up] using b2, by rw [hZ1]; simpa [up] using b3, by rw [hZ1]; simpa [up] using b4, fun r z0 z1 => by rw [hZ1]; simpa [up] using b5 r z0 z1, g6⟩ rfl
set_option maxHeartbeats 4000000 in
theorem l_exec_59_2 {Z : ZW} {J : Int64} {n : Nat} {bu : Int} {q : RES} (hn : Z 4 0 = n) (hn2 : n ≤ 24) (hw : WFP (Z 5) (Z 6) (Z 7) n) (hc : ∀ i, 0 ≤ i → i < (n : Int) → (0 ≤ Z 27 i ∧ Z 27 i ≤ 9) ∧ (0 ≤ Z 30 i ∧ Z 30 i ≤ 10000)) : ∀ (d t : Nat) (a : Int) (paid : Bool) (rem ch : Int) (v : FI) (Z' : ZW), t + d = 3000 → (0 ≤ a ∧ a ≤ 24) → (0 ≤ rem ∧ rem ≤ 30000) → PX_59 Z (0, t, rem, ch, -1, v) Z' → q = rn n (Z 5) (Z 6) (Z 7) (Z 27) (Z 30) d t a paid rem ch v → OkZ none 22 24 [some (.ref 59), some (.ref 3), some (.ref 24), some (.int (I 2)), some (.int (I bu)), some (.ref 30), some (bI paid), some (.int (I a))] [] Z' J (fun r Z' J' => r = none ∧ J' = J ∧ PX_59 Z q Z') := by
  intro d
  induction d with
  | zero =>
    intro t a paid rem ch v Z' ht ha hrem hP hq
    obtain ⟨p0, p1, p2, p3, p4, p5, p6⟩ := id hP
    have e4 : Z' 4 0 = n := by rw [p6 4 0 (by decide) (by decide)]; exact hn
    have p1 : Z' 59 1 = t := p1
    have hq2 : q = if 0 ≤ a ∧ a < (n : Int) then (2, (t : Int), rem, ch, a, v) else (0, (t : Int), rem, ch, -1, v) := hq
    refine z_aload_n rfl rfl ?_
    refine z_getI (bi := 1) rfl rfl rfl rfl ?_
    refine z_sipush rfl (by decide) ?_
    refine z_icmp_ge rfl (by omega) (by omega) (fun h31 => ?_) (fun h31 => ?_)
    · refine z_aload_n rfl rfl ?_
      refine z_iload rfl rfl ?_
      refine z_callV1 rfl rfl rfl rfl rfl rfl (s_has (by omega) (by omega)) ?_
      refine z_ifb_eq rfl (fun h117 => ?_) (fun h117 => ?_)
      · have hno := of_decide_eq_false h117
        rw [if_neg (by rw [← e4]; exact hno)] at hq2
        exact z_vret rfl rfl ⟨rfl, rfl, by rw [hq2]; exact hP⟩
      · refine z_aload_n rfl rfl ?_
        refine z_iconst rfl ?_
        refine z_iload rfl rfl ?_
        refine z_callV2v rfl rfl rfl rfl rfl rfl (s_finish_59) ?_
        have hyes := of_decide_eq_true h117
        rw [if_pos (by rw [← e4]; exact hyes)] at hq2
        refine z_vret rfl rfl ⟨rfl, rfl, ?_⟩
        rw [hq2]
        refine ⟨by simp [up], by simp [up, p1], by simpa [up] using p2, by simpa [up] using p3, by simp [up], fun r r0 r1 => by simpa [up] using p5 r r0 r1, fun k j k1 k2 => by simpa [up, k1] using p6 k j k1 k2⟩
    · exfalso; omega
  | succ d ih =>
    intro t a paid rem ch v Z' ht ha hrem hP hq
    obtain ⟨p0, p1, p2, p3, p4, p5, p6⟩ := id hP
    have e4 : Z' 4 0 = n := by rw [p6 4 0 (by decide) (by decide)]; exact hn
    have p1 : Z' 59 1 = t := p1
    by_cases hin : 0 ≤ a ∧ a < (n : Int)
    rotate_left
    · have hq2 : q = (0, (t : Int), rem, ch, -1, v) := by rw [hq]; unfold rn; rw [if_neg hin]
      refine z_aload_n rfl rfl ?_
      refine z_getI (bi := 1) rfl rfl rfl rfl ?_
      refine z_sipush rfl (by decide) ?_
      refine z_icmp_ge rfl (by omega) (by omega) (fun h31 => ?_) (fun h31 => ?_)
      · refine z_aload_n rfl rfl ?_
        refine z_iload rfl rfl ?_
        refine z_callV1 rfl rfl rfl rfl rfl rfl (s_has (by omega) (by omega)) ?_
        refine z_ifb_eq rfl (fun h117 => ?_) (fun h117 => ?_)
        · exact z_vret rfl rfl ⟨rfl, rfl, by rw [hq2]; exact hP⟩
        · exact absurd (of_decide_eq_true h117) (by rw [e4]; exact hin)
      · refine z_aload_n rfl rfl ?_
        refine z_iload rfl rfl ?_
        refine z_callV1 rfl rfl rfl rfl rfl rfl (s_has (by omega) (by omega)) ?_
        refine z_ifb_eq rfl (fun h40 => ?_) (fun h40 => ?_)
        · refine z_aload_n rfl rfl ?_
          refine z_iload rfl rfl ?_
          refine z_callV1 rfl rfl rfl rfl rfl rfl (s_has (by omega) (by omega)) ?_
          refine z_ifb_eq rfl (fun h117 => ?_) (fun h117 => ?_)
          · exact z_vret rfl rfl ⟨rfl, rfl, by rw [hq2]; exact hP⟩
          · exact absurd (of_decide_eq_true h117) (by rw [e4]; exact hin)
        · exact absurd (of_decide_eq_true h40) (by rw [e4]; exact hin)
    have hca := hc a hin.1 hin.2
    have e27 : Z' 27 a = Z 27 a := p6 27 _ (by decide) (by decide)
    have een : Z' 30 a = Z 30 a := p6 30 _ (by decide) (by decide)
    obtain ⟨w1, w2, w3, w4, w5⟩ := hw a hin.1 hin.2
    obtain ⟨b, eb⟩ : ∃ b, b = (if 0 < Z 30 a then decide (Z 30 a ≤ rem) else paid) := ⟨_, rfl⟩
    obtain ⟨m, em⟩ : ∃ m, m = (if 0 < Z 30 a ∧ Z 30 a ≤ rem then rem - Z 30 a else rem) := ⟨_, rfl⟩
    obtain ⟨g, eg⟩ : ∃ g, g = (if 0 < Z 30 a ∧ Z 30 a ≤ rem then ch + 1 else ch) := ⟨_, rfl⟩
    have hm : 0 ≤ m ∧ m ≤ 30000 := by rw [em]; split <;> omega
    have hq2 : q = if b then rn n (Z 5) (Z 6) (Z 7) (Z 27) (Z 30) d (t + 1) (nA (Z 5 a) (Z 6 a) (Z 7 a) v a) b m g (nR (Z 5 a) (Z 6 a) (Z 7 a) v) else if Z 27 a ≤ m then rn n (Z 5) (Z 6) (Z 7) (Z 27) (Z 30) d (t + 1) (nA (Z 5 a) (Z 6 a) (Z 7 a) v a) b (m - Z 27 a) (g + 1) (nR (Z 5 a) (Z 6 a) (Z 7 a) v) else (1, (t : Int), m, g, a, v) := by
      rw [hq, eb, em, eg]
      show (if 0 ≤ a ∧ a < (n : Int) then _ else _) = _
      rw [if_pos hin]
    have K89 : ∀ (m2 g2 : Int) (Z2 : ZW), (0 ≤ m2 ∧ m2 ≤ 30000) → PX_59 Z (0, t, m2, g2, -1, v) Z2 → q = rn n (Z 5) (Z 6) (Z 7) (Z 27) (Z 30) d (t + 1) (nA (Z 5 a) (Z 6 a) (Z 7 a) v a) b m2 g2 (nR (Z 5 a) (Z 6 a) (Z 7 a) v) → OkZ none 22 89 [some (.ref 59), some (.ref 3), some (.ref 24), some (.int (I 2)), some (.int (I bu)), some (.ref 30), some (bI b), some (.int (I a))] [] Z2 J (fun r Z' J' => r = none ∧ J' = J ∧ PX_59 Z q Z') := by
      intro m2 g2 Z2 hm2 hP2 hq3
      obtain ⟨r0, r1, r2, r3, r4, r5, r6⟩ := hP2
      have f5 : Z2 5 = Z 5 := by funext j; exact r6 5 j (by decide) (by decide)
      have f6 : Z2 6 = Z 6 := by funext j; exact r6 6 j (by decide) (by decide)
      have f7 : Z2 7 = Z 7 := by funext j; exact r6 7 j (by decide) (by decide)
      have hpf := s_perform_59 (Z := Z2) (J := J) (n := n) (i := a) hn2 (by rw [f5, f6, f7]; exact hw) hin
      rw [f5, f6, f7, nA_congr (r5 (Z 6 a) (by omega) (by omega))] at hpf
      have hna := nA_in hw hn2 hin.1 hin.2 v
      refine z_aload_n rfl rfl ?_
      refine z_aload_n rfl rfl ?_
      refine z_iload rfl rfl ?_
      refine z_callV2g rfl rfl rfl rfl rfl rfl (hpf) (fun r93 Z93 J93 q93 => ?_)
      obtain ⟨rfl, rfl, y1, y2⟩ := q93
      show OkZ none 22 96 _ (.int (I (nA (Z 5 a) (Z 6 a) (Z 7 a) v a)) :: []) _ _ _
      refine z_istore rfl rfl rfl ?_
      refine z_aload_n rfl rfl ?_
      refine z_dup rfl rfl ?_
      refine z_getI (bi := 1) rfl rfl rfl rfl ?_
      refine z_iconst rfl ?_
      refine z_iadd rfl ?_
      refine z_putI (bi := 1) rfl rfl rfl rfl rfl ?_
      refine z_goto rfl ?_
      refine ih (t + 1) _ b m2 g2 _ _ (by omega) hna hm2 ?_ hq3
      refine ⟨by simp only [up]; rw [if_neg (fun z => absurd z.2 (by decide)), y2 59 0 (by decide)]; exact r0, ?_, by simp only [up]; rw [if_neg (fun z => absurd z.2 (by decide)), y2 59 2 (by decide)]; exact r2, by simp only [up]; rw [if_neg (fun z => absurd z.2 (by decide)), y2 59 3 (by decide)]; exact r3, by simp only [up]; rw [if_neg (fun z => absurd z.2 (by decide)), y2 59 4 (by decide)]; exact r4, fun r z0 z1 => ?_, fun k j k1 k2 => ?_⟩
      · have r1 : Z2 59 1 = t := r1
        have : Z93 59 1 = t := by rw [y2 59 1 (by decide)]; exact r1
        simp only [up]; rw [if_pos ⟨trivial, trivial⟩, this]; rfl
      · simp only [up]; rw [if_neg (fun z => absurd z.1 (by decide)), y1 r z0 z1]; exact nR_congr r5 (by omega) (fun z => by have := w4 z; omega) r z0 z1
      · simp only [up]; rw [if_neg (fun z => k1 z.1), y2 k j k2]; exact r6 k j k1 k2
    have K62 : ∀ (Z2 : ZW), PX_59 Z (0, t, m, g, -1, v) Z2 → OkZ none 22 62 [some (.ref 59), some (.ref 3), some (.ref 24), some (.int (I 2)), some (.int (I bu)), some (.ref 30), some (bI b), some (.int (I a))] [] Z2 J (fun r Z' J' => r = none ∧ J' = J ∧ PX_59 Z q Z') := by
      intro Z2 hP2
      obtain ⟨r0, r1, r2, r3, r4, r5, r6⟩ := id hP2
      have r2 : Z2 59 2 = m := r2
      have r3 : Z2 59 3 = g := r3
      have r1 : Z2 59 1 = t := r1
      have f27 : Z2 27 a = Z 27 a := r6 27 _ (by decide) (by decide)
      refine z_iload rfl rfl ?_
      refine z_ifb_ne rfl (fun h64 => ?_) (fun h64 => ?_)
      · rw [h64, if_pos rfl] at hq2
        exact K89 m g Z2 hm hP2 (by rw [hq2, h64])
      · refine z_aload_n rfl rfl ?_
        refine z_aload_n rfl rfl ?_
        refine z_getR rfl rfl rfl rfl ?_
        refine z_iload rfl rfl ?_
        refine z_iald rfl rfl (by omega) ?_
        refine z_callV1 rfl rfl rfl rfl rfl rfl (s_pay_59 (by rw [f27]; omega) (by rw [r2]; omega)) ?_
        refine z_ifb_ne rfl (fun h78 => ?_) (fun h78 => ?_)
        · have hle := of_decide_eq_true h78
          rw [f27, r2] at hle
          rw [h64, if_neg (by decide), if_pos hle] at hq2
          rw [f27, r2, if_pos hle, r3]
          refine K89 (m - Z 27 a) (g + 1) _ (by omega) ?_ (by rw [hq2, h64])
          exact ⟨by simpa [up] using r0, by simpa [up] using r1, by simp [up], by simp [up], by simpa [up] using r4, fun r z0 z1 => by simpa [up] using r5 r z0 z1, fun k j k1 k2 => by simpa [up, k1] using r6 k j k1 k2⟩
        · refine z_aload_n rfl rfl ?_
          refine z_iconst rfl ?_
          refine z_iload rfl rfl ?_
          refine z_callV2v rfl rfl rfl rfl rfl rfl (s_finish_59) ?_
          have hgt := of_decide_eq_false h78
          rw [f27, r2] at hgt
          rw [h64, if_neg (by decide), if_neg hgt] at hq2
          rw [f27, r2, if_neg hgt]
          refine z_vret rfl rfl ⟨rfl, rfl, ?_⟩
          rw [hq2]
          exact ⟨by simp [up], by simpa [up] using r1, by simpa [up] using r2, by simpa [up] using r3, by simp [up], fun r z0 z1 => by simpa [up] using r5 r z0 z1, fun k j k1 k2 => by simpa [up, k1] using r6 k j k1 k2⟩
    have p2 : Z' 59 2 = rem := p2
    have p3 : Z' 59 3 = ch := p3
    refine z_aload_n rfl rfl ?_
    refine z_getI (bi := 1) rfl rfl rfl rfl ?_
    refine z_sipush rfl (by decide) ?_
    refine z_icmp_ge rfl (by omega) (by omega) (fun h31 => ?_) (fun h31 => ?_)
    · exfalso; omega
    · refine z_aload_n rfl rfl ?_
      refine z_iload rfl rfl ?_
      refine z_callV1 rfl rfl rfl rfl rfl rfl (s_has (by omega) (by omega)) ?_
      refine z_ifb_eq rfl (fun h40 => ?_) (fun h40 => ?_)
      · exact absurd (show 0 ≤ a ∧ a < Z' 4 0 by omega) (of_decide_eq_false h40)
      · refine z_aload rfl rfl ?_
        refine z_iload rfl rfl ?_
        refine z_iald rfl rfl (by omega) ?_
        refine z_if_le rfl (by omega) (fun h48 => ?_) (fun h48 => ?_)
        · have hno : ¬ 0 < Z 30 a := by rw [← een]; omega
          rw [if_neg hno] at eb
          rw [if_neg (fun z => hno z.1)] at em eg
          rw [eb, em, eg] at K62
          exact K62 Z' hP
        · refine z_aload_n rfl rfl ?_
          refine z_aload rfl rfl ?_
          refine z_iload rfl rfl ?_
          refine z_iald rfl rfl (by omega) ?_
          refine z_callV1 rfl rfl rfl rfl rfl rfl (s_pay_59 (by rw [een]; omega) (by rw [p2]; omega)) ?_
          refine z_istore rfl rfl rfl ?_
          have hpos : 0 < Z 30 a := by rw [← een]; omega
          rw [if_pos hpos] at eb
          rw [een, p2, p3, ← eb]
          by_cases hle : Z 30 a ≤ rem
          · rw [if_pos ⟨hpos, hle⟩] at em eg
            rw [if_pos hle]
            refine K62 _ ?_
            rw [em, eg]
            exact ⟨by simpa [up] using p0, by simpa [up] using p1, by simp [up], by simp [up], by simpa [up] using p4, fun r z0 z1 => by simpa [up] using p5 r z0 z1, fun k j k1 k2 => by simpa [up, k1] using p6 k j k1 k2⟩
          · rw [if_neg (fun z => hle z.2)] at em eg
            rw [if_neg hle]
            refine K62 _ ?_
            rw [em, eg]
            exact hP
theorem s_exec_59_2 {Z : ZW} {J : Int64} {n : Nat} {bu : Int} (hn : Z 4 0 = n) (hn2 : n ≤ 24) (hw : WFP (Z 5) (Z 6) (Z 7) n) (hc : ∀ i, 0 ≤ i → i < (n : Int) → (0 ≤ Z 27 i ∧ Z 27 i ≤ 9) ∧ (0 ≤ Z 30 i ∧ Z 30 i ≤ 10000)) (hbu : 0 ≤ bu ∧ bu ≤ 30000) : Mz 22 [.ref 59, .ref 3, .ref 24, .int (I 2), .int (I bu)] Z J (fun r Z' J' => r = none ∧ J' = J ∧ PX_59 Z (rn n (Z 5) (Z 6) (Z 7) (Z 27) (Z 30) 3000 0 0 false bu 0 (fun _ => 0)) Z') := by
  unfold Mz
  refine z_aload_n rfl rfl ?_
  refine z_iload_n rfl rfl ?_
  refine z_callV1 rfl rfl rfl rfl rfl rfl (s_entries2) ?_
  refine z_astore rfl rfl rfl ?_
  refine z_aload_n rfl rfl ?_
  refine z_iload rfl rfl ?_
  refine z_callV1g rfl rfl rfl rfl rfl rfl (s_begin_59) (fun r10 Z10 J10 q10 => ?_)
  obtain ⟨rfl, rfl, b0, b2, b3, b4, b5, b6⟩ := q10
  show OkZ none 22 13 _ [] _ _ _
  refine z_iconst rfl ?_
  refine z_istore rfl rfl rfl ?_
  refine z_iconst rfl ?_
  refine z_istore rfl rfl rfl ?_
  refine z_aload_n rfl rfl ?_
  refine z_iconst rfl ?_
  refine z_putI (bi := 1) rfl rfl rfl rfl rfl ?_
  obtain ⟨Z1, hZ1⟩ : ∃ Z1, Z1 = up Z10 59 1 0 := ⟨_, rfl⟩
  rw [← hZ1]
  have g6 : ∀ (k : Nat) (j : Int), k ≠ 59 → k ≠ 60 → Z1 k j = Z k j := by intro k j k1 k2; rw [hZ1]; simp only [up]; rw [if_neg (fun z => k1 z.1)]; exact b6 k j k1 k2
  exact l_exec_59_2 (Z := Z) hn hn2 hw hc 3000 0 0 false bu 0 (fun _ => 0) Z1 (by omega) (by omega) hbu ⟨by rw [hZ1]; simpa [up] using b0, by rw [hZ1]; simp [up], by rw [hZ1]; simpa [up] using b2, by rw [hZ1]; simpa [up] using b3, by rw [hZ1]; simpa [up] using b4, fun r z0 z1 => by rw [hZ1]; simpa [up] using b5 r z0 z1, g6⟩ rfl
def PX_61 (Z : ZW) (q : RES) (Z' : ZW) : Prop := Z' 61 0 = q.1 ∧ Z' 61 1 = q.2.1 ∧ Z' 61 2 = q.2.2.1 ∧ Z' 61 3 = q.2.2.2.1 ∧ Z' 61 4 = q.2.2.2.2.1 ∧ (∀ r, 0 ≤ r → r < (4 : Int) → Z' 62 r = q.2.2.2.2.2 r) ∧ ∀ (k : Nat) (j : Int), k ≠ 61 → k ≠ 62 → Z' k j = Z k j
set_option maxHeartbeats 4000000 in
theorem l_exec_61_0 {Z : ZW} {J : Int64} {n : Nat} {bu : Int} {q : RES} (hn : Z 4 0 = n) (hn2 : n ≤ 24) (hw : WFP (Z 5) (Z 6) (Z 7) n) (hc : ∀ i, 0 ≤ i → i < (n : Int) → (0 ≤ Z 27 i ∧ Z 27 i ≤ 9) ∧ (0 ≤ Z 28 i ∧ Z 28 i ≤ 10000)) : ∀ (d t : Nat) (a : Int) (paid : Bool) (rem ch : Int) (v : FI) (Z' : ZW), t + d = 3000 → (0 ≤ a ∧ a ≤ 24) → (0 ≤ rem ∧ rem ≤ 30000) → PX_61 Z (0, t, rem, ch, -1, v) Z' → q = rn n (Z 5) (Z 6) (Z 7) (Z 27) (Z 28) d t a paid rem ch v → OkZ none 22 24 [some (.ref 61), some (.ref 3), some (.ref 24), some (.int (I 0)), some (.int (I bu)), some (.ref 28), some (bI paid), some (.int (I a))] [] Z' J (fun r Z' J' => r = none ∧ J' = J ∧ PX_61 Z q Z') := by
  intro d
  induction d with
  | zero =>
    intro t a paid rem ch v Z' ht ha hrem hP hq
    obtain ⟨p0, p1, p2, p3, p4, p5, p6⟩ := id hP
    have e4 : Z' 4 0 = n := by rw [p6 4 0 (by decide) (by decide)]; exact hn
    have p1 : Z' 61 1 = t := p1
    have hq2 : q = if 0 ≤ a ∧ a < (n : Int) then (2, (t : Int), rem, ch, a, v) else (0, (t : Int), rem, ch, -1, v) := hq
    refine z_aload_n rfl rfl ?_
    refine z_getI (bi := 1) rfl rfl rfl rfl ?_
    refine z_sipush rfl (by decide) ?_
    refine z_icmp_ge rfl (by omega) (by omega) (fun h31 => ?_) (fun h31 => ?_)
    · refine z_aload_n rfl rfl ?_
      refine z_iload rfl rfl ?_
      refine z_callV1 rfl rfl rfl rfl rfl rfl (s_has (by omega) (by omega)) ?_
      refine z_ifb_eq rfl (fun h117 => ?_) (fun h117 => ?_)
      · have hno := of_decide_eq_false h117
        rw [if_neg (by rw [← e4]; exact hno)] at hq2
        exact z_vret rfl rfl ⟨rfl, rfl, by rw [hq2]; exact hP⟩
      · refine z_aload_n rfl rfl ?_
        refine z_iconst rfl ?_
        refine z_iload rfl rfl ?_
        refine z_callV2v rfl rfl rfl rfl rfl rfl (s_finish_61) ?_
        have hyes := of_decide_eq_true h117
        rw [if_pos (by rw [← e4]; exact hyes)] at hq2
        refine z_vret rfl rfl ⟨rfl, rfl, ?_⟩
        rw [hq2]
        refine ⟨by simp [up], by simp [up, p1], by simpa [up] using p2, by simpa [up] using p3, by simp [up], fun r r0 r1 => by simpa [up] using p5 r r0 r1, fun k j k1 k2 => by simpa [up, k1] using p6 k j k1 k2⟩
    · exfalso; omega
  | succ d ih =>
    intro t a paid rem ch v Z' ht ha hrem hP hq
    obtain ⟨p0, p1, p2, p3, p4, p5, p6⟩ := id hP
    have e4 : Z' 4 0 = n := by rw [p6 4 0 (by decide) (by decide)]; exact hn
    have p1 : Z' 61 1 = t := p1
    by_cases hin : 0 ≤ a ∧ a < (n : Int)
    rotate_left
    · have hq2 : q = (0, (t : Int), rem, ch, -1, v) := by rw [hq]; unfold rn; rw [if_neg hin]
      refine z_aload_n rfl rfl ?_
      refine z_getI (bi := 1) rfl rfl rfl rfl ?_
      refine z_sipush rfl (by decide) ?_
      refine z_icmp_ge rfl (by omega) (by omega) (fun h31 => ?_) (fun h31 => ?_)
      · refine z_aload_n rfl rfl ?_
        refine z_iload rfl rfl ?_
        refine z_callV1 rfl rfl rfl rfl rfl rfl (s_has (by omega) (by omega)) ?_
        refine z_ifb_eq rfl (fun h117 => ?_) (fun h117 => ?_)
        · exact z_vret rfl rfl ⟨rfl, rfl, by rw [hq2]; exact hP⟩
        · exact absurd (of_decide_eq_true h117) (by rw [e4]; exact hin)
      · refine z_aload_n rfl rfl ?_
        refine z_iload rfl rfl ?_
        refine z_callV1 rfl rfl rfl rfl rfl rfl (s_has (by omega) (by omega)) ?_
        refine z_ifb_eq rfl (fun h40 => ?_) (fun h40 => ?_)
        · refine z_aload_n rfl rfl ?_
          refine z_iload rfl rfl ?_
          refine z_callV1 rfl rfl rfl rfl rfl rfl (s_has (by omega) (by omega)) ?_
          refine z_ifb_eq rfl (fun h117 => ?_) (fun h117 => ?_)
          · exact z_vret rfl rfl ⟨rfl, rfl, by rw [hq2]; exact hP⟩
          · exact absurd (of_decide_eq_true h117) (by rw [e4]; exact hin)
        · exact absurd (of_decide_eq_true h40) (by rw [e4]; exact hin)
    have hca := hc a hin.1 hin.2
    have e27 : Z' 27 a = Z 27 a := p6 27 _ (by decide) (by decide)
    have een : Z' 28 a = Z 28 a := p6 28 _ (by decide) (by decide)
    obtain ⟨w1, w2, w3, w4, w5⟩ := hw a hin.1 hin.2
    obtain ⟨b, eb⟩ : ∃ b, b = (if 0 < Z 28 a then decide (Z 28 a ≤ rem) else paid) := ⟨_, rfl⟩
    obtain ⟨m, em⟩ : ∃ m, m = (if 0 < Z 28 a ∧ Z 28 a ≤ rem then rem - Z 28 a else rem) := ⟨_, rfl⟩
    obtain ⟨g, eg⟩ : ∃ g, g = (if 0 < Z 28 a ∧ Z 28 a ≤ rem then ch + 1 else ch) := ⟨_, rfl⟩
    have hm : 0 ≤ m ∧ m ≤ 30000 := by rw [em]; split <;> omega
    have hq2 : q = if b then rn n (Z 5) (Z 6) (Z 7) (Z 27) (Z 28) d (t + 1) (nA (Z 5 a) (Z 6 a) (Z 7 a) v a) b m g (nR (Z 5 a) (Z 6 a) (Z 7 a) v) else if Z 27 a ≤ m then rn n (Z 5) (Z 6) (Z 7) (Z 27) (Z 28) d (t + 1) (nA (Z 5 a) (Z 6 a) (Z 7 a) v a) b (m - Z 27 a) (g + 1) (nR (Z 5 a) (Z 6 a) (Z 7 a) v) else (1, (t : Int), m, g, a, v) := by
      rw [hq, eb, em, eg]
      show (if 0 ≤ a ∧ a < (n : Int) then _ else _) = _
      rw [if_pos hin]
    have K89 : ∀ (m2 g2 : Int) (Z2 : ZW), (0 ≤ m2 ∧ m2 ≤ 30000) → PX_61 Z (0, t, m2, g2, -1, v) Z2 → q = rn n (Z 5) (Z 6) (Z 7) (Z 27) (Z 28) d (t + 1) (nA (Z 5 a) (Z 6 a) (Z 7 a) v a) b m2 g2 (nR (Z 5 a) (Z 6 a) (Z 7 a) v) → OkZ none 22 89 [some (.ref 61), some (.ref 3), some (.ref 24), some (.int (I 0)), some (.int (I bu)), some (.ref 28), some (bI b), some (.int (I a))] [] Z2 J (fun r Z' J' => r = none ∧ J' = J ∧ PX_61 Z q Z') := by
      intro m2 g2 Z2 hm2 hP2 hq3
      obtain ⟨r0, r1, r2, r3, r4, r5, r6⟩ := hP2
      have f5 : Z2 5 = Z 5 := by funext j; exact r6 5 j (by decide) (by decide)
      have f6 : Z2 6 = Z 6 := by funext j; exact r6 6 j (by decide) (by decide)
      have f7 : Z2 7 = Z 7 := by funext j; exact r6 7 j (by decide) (by decide)
      have hpf := s_perform_61 (Z := Z2) (J := J) (n := n) (i := a) hn2 (by rw [f5, f6, f7]; exact hw) hin
      rw [f5, f6, f7, nA_congr (r5 (Z 6 a) (by omega) (by omega))] at hpf
      have hna := nA_in hw hn2 hin.1 hin.2 v
      refine z_aload_n rfl rfl ?_
      refine z_aload_n rfl rfl ?_
      refine z_iload rfl rfl ?_
      refine z_callV2g rfl rfl rfl rfl rfl rfl (hpf) (fun r93 Z93 J93 q93 => ?_)
      obtain ⟨rfl, rfl, y1, y2⟩ := q93
      show OkZ none 22 96 _ (.int (I (nA (Z 5 a) (Z 6 a) (Z 7 a) v a)) :: []) _ _ _
      refine z_istore rfl rfl rfl ?_
      refine z_aload_n rfl rfl ?_
      refine z_dup rfl rfl ?_
      refine z_getI (bi := 1) rfl rfl rfl rfl ?_
      refine z_iconst rfl ?_
      refine z_iadd rfl ?_
      refine z_putI (bi := 1) rfl rfl rfl rfl rfl ?_
      refine z_goto rfl ?_
      refine ih (t + 1) _ b m2 g2 _ _ (by omega) hna hm2 ?_ hq3
      refine ⟨by simp only [up]; rw [if_neg (fun z => absurd z.2 (by decide)), y2 61 0 (by decide)]; exact r0, ?_, by simp only [up]; rw [if_neg (fun z => absurd z.2 (by decide)), y2 61 2 (by decide)]; exact r2, by simp only [up]; rw [if_neg (fun z => absurd z.2 (by decide)), y2 61 3 (by decide)]; exact r3, by simp only [up]; rw [if_neg (fun z => absurd z.2 (by decide)), y2 61 4 (by decide)]; exact r4, fun r z0 z1 => ?_, fun k j k1 k2 => ?_⟩
      · have r1 : Z2 61 1 = t := r1
        have : Z93 61 1 = t := by rw [y2 61 1 (by decide)]; exact r1
        simp only [up]; rw [if_pos ⟨trivial, trivial⟩, this]; rfl
      · simp only [up]; rw [if_neg (fun z => absurd z.1 (by decide)), y1 r z0 z1]; exact nR_congr r5 (by omega) (fun z => by have := w4 z; omega) r z0 z1
      · simp only [up]; rw [if_neg (fun z => k1 z.1), y2 k j k2]; exact r6 k j k1 k2
    have K62 : ∀ (Z2 : ZW), PX_61 Z (0, t, m, g, -1, v) Z2 → OkZ none 22 62 [some (.ref 61), some (.ref 3), some (.ref 24), some (.int (I 0)), some (.int (I bu)), some (.ref 28), some (bI b), some (.int (I a))] [] Z2 J (fun r Z' J' => r = none ∧ J' = J ∧ PX_61 Z q Z') := by
      intro Z2 hP2
      obtain ⟨r0, r1, r2, r3, r4, r5, r6⟩ := id hP2
      have r2 : Z2 61 2 = m := r2
      have r3 : Z2 61 3 = g := r3
      have r1 : Z2 61 1 = t := r1
      have f27 : Z2 27 a = Z 27 a := r6 27 _ (by decide) (by decide)
      refine z_iload rfl rfl ?_
      refine z_ifb_ne rfl (fun h64 => ?_) (fun h64 => ?_)
      · rw [h64, if_pos rfl] at hq2
        exact K89 m g Z2 hm hP2 (by rw [hq2, h64])
      · refine z_aload_n rfl rfl ?_
        refine z_aload_n rfl rfl ?_
        refine z_getR rfl rfl rfl rfl ?_
        refine z_iload rfl rfl ?_
        refine z_iald rfl rfl (by omega) ?_
        refine z_callV1 rfl rfl rfl rfl rfl rfl (s_pay_61 (by rw [f27]; omega) (by rw [r2]; omega)) ?_
        refine z_ifb_ne rfl (fun h78 => ?_) (fun h78 => ?_)
        · have hle := of_decide_eq_true h78
          rw [f27, r2] at hle
          rw [h64, if_neg (by decide), if_pos hle] at hq2
          rw [f27, r2, if_pos hle, r3]
          refine K89 (m - Z 27 a) (g + 1) _ (by omega) ?_ (by rw [hq2, h64])
          exact ⟨by simpa [up] using r0, by simpa [up] using r1, by simp [up], by simp [up], by simpa [up] using r4, fun r z0 z1 => by simpa [up] using r5 r z0 z1, fun k j k1 k2 => by simpa [up, k1] using r6 k j k1 k2⟩
        · refine z_aload_n rfl rfl ?_
          refine z_iconst rfl ?_
          refine z_iload rfl rfl ?_
          refine z_callV2v rfl rfl rfl rfl rfl rfl (s_finish_61) ?_
          have hgt := of_decide_eq_false h78
          rw [f27, r2] at hgt
          rw [h64, if_neg (by decide), if_neg hgt] at hq2
          rw [f27, r2, if_neg hgt]
          refine z_vret rfl rfl ⟨rfl, rfl, ?_⟩
          rw [hq2]
          exact ⟨by simp [up], by simpa [up] using r1, by simpa [up] using r2, by simpa [up] using r3, by simp [up], fun r z0 z1 => by simpa [up] using r5 r z0 z1, fun k j k1 k2 => by simpa [up, k1] using r6 k j k1 k2⟩
    have p2 : Z' 61 2 = rem := p2
    have p3 : Z' 61 3 = ch := p3
    refine z_aload_n rfl rfl ?_
    refine z_getI (bi := 1) rfl rfl rfl rfl ?_
    refine z_sipush rfl (by decide) ?_
    refine z_icmp_ge rfl (by omega) (by omega) (fun h31 => ?_) (fun h31 => ?_)
    · exfalso; omega
    · refine z_aload_n rfl rfl ?_
      refine z_iload rfl rfl ?_
      refine z_callV1 rfl rfl rfl rfl rfl rfl (s_has (by omega) (by omega)) ?_
      refine z_ifb_eq rfl (fun h40 => ?_) (fun h40 => ?_)
      · exact absurd (show 0 ≤ a ∧ a < Z' 4 0 by omega) (of_decide_eq_false h40)
      · refine z_aload rfl rfl ?_
        refine z_iload rfl rfl ?_
        refine z_iald rfl rfl (by omega) ?_
        refine z_if_le rfl (by omega) (fun h48 => ?_) (fun h48 => ?_)
        · have hno : ¬ 0 < Z 28 a := by rw [← een]; omega
          rw [if_neg hno] at eb
          rw [if_neg (fun z => hno z.1)] at em eg
          rw [eb, em, eg] at K62
          exact K62 Z' hP
        · refine z_aload_n rfl rfl ?_
          refine z_aload rfl rfl ?_
          refine z_iload rfl rfl ?_
          refine z_iald rfl rfl (by omega) ?_
          refine z_callV1 rfl rfl rfl rfl rfl rfl (s_pay_61 (by rw [een]; omega) (by rw [p2]; omega)) ?_
          refine z_istore rfl rfl rfl ?_
          have hpos : 0 < Z 28 a := by rw [← een]; omega
          rw [if_pos hpos] at eb
          rw [een, p2, p3, ← eb]
          by_cases hle : Z 28 a ≤ rem
          · rw [if_pos ⟨hpos, hle⟩] at em eg
            rw [if_pos hle]
            refine K62 _ ?_
            rw [em, eg]
            exact ⟨by simpa [up] using p0, by simpa [up] using p1, by simp [up], by simp [up], by simpa [up] using p4, fun r z0 z1 => by simpa [up] using p5 r z0 z1, fun k j k1 k2 => by simpa [up, k1] using p6 k j k1 k2⟩
          · rw [if_neg (fun z => hle z.2)] at em eg
            rw [if_neg hle]
            refine K62 _ ?_
            rw [em, eg]
            exact hP
theorem s_exec_61_0 {Z : ZW} {J : Int64} {n : Nat} {bu : Int} (hn : Z 4 0 = n) (hn2 : n ≤ 24) (hw : WFP (Z 5) (Z 6) (Z 7) n) (hc : ∀ i, 0 ≤ i → i < (n : Int) → (0 ≤ Z 27 i ∧ Z 27 i ≤ 9) ∧ (0 ≤ Z 28 i ∧ Z 28 i ≤ 10000)) (hbu : 0 ≤ bu ∧ bu ≤ 30000) : Mz 22 [.ref 61, .ref 3, .ref 24, .int (I 0), .int (I bu)] Z J (fun r Z' J' => r = none ∧ J' = J ∧ PX_61 Z (rn n (Z 5) (Z 6) (Z 7) (Z 27) (Z 28) 3000 0 0 false bu 0 (fun _ => 0)) Z') := by
  unfold Mz
  refine z_aload_n rfl rfl ?_
  refine z_iload_n rfl rfl ?_
  refine z_callV1 rfl rfl rfl rfl rfl rfl (s_entries0) ?_
  refine z_astore rfl rfl rfl ?_
  refine z_aload_n rfl rfl ?_
  refine z_iload rfl rfl ?_
  refine z_callV1g rfl rfl rfl rfl rfl rfl (s_begin_61) (fun r10 Z10 J10 q10 => ?_)
  obtain ⟨rfl, rfl, b0, b2, b3, b4, b5, b6⟩ := q10
  show OkZ none 22 13 _ [] _ _ _
  refine z_iconst rfl ?_
  refine z_istore rfl rfl rfl ?_
  refine z_iconst rfl ?_
  refine z_istore rfl rfl rfl ?_
  refine z_aload_n rfl rfl ?_
  refine z_iconst rfl ?_
  refine z_putI (bi := 1) rfl rfl rfl rfl rfl ?_
  obtain ⟨Z1, hZ1⟩ : ∃ Z1, Z1 = up Z10 61 1 0 := ⟨_, rfl⟩
  rw [← hZ1]
  have g6 : ∀ (k : Nat) (j : Int), k ≠ 61 → k ≠ 62 → Z1 k j = Z k j := by intro k j k1 k2; rw [hZ1]; simp only [up]; rw [if_neg (fun z => k1 z.1)]; exact b6 k j k1 k2
  exact l_exec_61_0 (Z := Z) hn hn2 hw hc 3000 0 0 false bu 0 (fun _ => 0) Z1 (by omega) (by omega) hbu ⟨by rw [hZ1]; simpa [up] using b0, by rw [hZ1]; simp [up], by rw [hZ1]; simpa [up] using b2, by rw [hZ1]; simpa [up] using b3, by rw [hZ1]; simpa [up] using b4, fun r z0 z1 => by rw [hZ1]; simpa [up] using b5 r z0 z1, g6⟩ rfl
