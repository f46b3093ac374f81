/-! the class: assemble, setCost, undo -/
theorem b_nf {b : Bool} (h : ¬ b = false) : b = true := by
  cases b
  · exact absurd rfl h
  · rfl
theorem up_upd {Z : ZW} {k : Nat} {x c : Int} : up Z k x c k = updF (Z k) x c := by
  funext j
  unfold up updF
  by_cases h : j = x
  · rw [if_pos ⟨rfl, h⟩, if_pos h]
  · rw [if_neg (fun q => h q.2), if_neg h]
theorem PV_in {most v p2 nx : Int} {ng : Bool} (hv : 0 ≤ v) (h : (PV most ng v p2 nx).1 = true) : (-most ≤ (PV most ng v p2 nx).2.1 ∧ (PV most ng v p2 nx).2.1 ≤ most) ∧ (ng = false → 0 ≤ (PV most ng v p2 nx).2.1) := by
  unfold PV at h ⊢
  by_cases hm : most < v
  · rw [if_pos hm] at h; cases h
  · rw [if_neg hm]
    show (-most ≤ (if ng then -v else v) ∧ (if ng then -v else v) ≤ most) ∧ (ng = false → 0 ≤ (if ng then -v else v))
    cases ng with
    | true => exact ⟨by simp only [if_true]; omega, fun q => by cases q⟩
    | false => exact ⟨by simp only [Bool.false_eq_true, if_false]; omega, fun _ => hv⟩
theorem PD_in {cu : FI} {most p : Int} {ng : Bool} (h : (PD cu most ng p).1 = true) : (-most ≤ (PD cu most ng p).2.1 ∧ (PD cu most ng p).2.1 ≤ most) ∧ (ng = false → 0 ≤ (PD cu most ng p).2.1) := by
  unfold PD at h ⊢
  by_cases d0 : dgB cu p = false
  · rw [if_pos d0] at h; cases h
  · rw [if_neg d0] at h ⊢
    have e0 := of_decide_eq_true (b_nf d0)
    by_cases d1 : dgB cu (p + 1) = false
    · rw [if_pos d1] at h ⊢
      exact PV_in (by omega) h
    · rw [if_neg d1] at h ⊢
      have e1 := of_decide_eq_true (b_nf d1)
      by_cases d2 : dgB cu (p + 2) = false
      · rw [if_pos d2] at h ⊢
        exact PV_in (by omega) h
      · rw [if_neg d2] at h; cases h
theorem PN_in {cu : FI} {len most p : Int} {sg : Bool} (h : (PN cu len most sg p).1 = true) : (-most ≤ (PN cu len most sg p).2.1 ∧ (PN cu len most sg p).2.1 ≤ most) ∧ (sg = false → 0 ≤ (PN cu len most sg p).2.1) := by
  unfold PN at h ⊢
  by_cases hs : (sg && decide (cu (skp cu len p) = 45)) = true
  · rw [if_pos hs] at h ⊢
    refine ⟨(PD_in h).1, fun q => ?_⟩
    rw [q] at hs
    cases hs
  · rw [if_neg hs] at h ⊢
    exact ⟨(PD_in h).1, fun _ => (PD_in h).2 rfl⟩
theorem QI_ok {cu : FI} {len n p : Int} (h : (QI cu len n p).1 = true) : (0 ≤ opc (cu p) ∧ opc (cu p) ≤ 7) ∧ n < 24 ∧ (0 ≤ (QA cu len p).2.1 ∧ (QA cu len p).2.1 ≤ 3) ∧ (-99 ≤ (QB cu len p).2.1 ∧ (QB cu len p).2.1 ≤ 99) ∧ ((opc (cu p) = 2 ∨ opc (cu p) = 3) → 0 ≤ (QB cu len p).2.1 ∧ (QB cu len p).2.1 ≤ 3) ∧ (4 ≤ opc (cu p) → 0 ≤ (QB cu len p).2.1 ∧ (QB cu len p).2.1 ≤ 24) := by
  have ho := opc_in (cu p)
  unfold QI at h
  by_cases h1 : opc (cu p) = -1 ∨ 24 ≤ n
  · rw [if_pos h1] at h; cases h
  · rw [if_neg h1] at h
    unfold QC at h
    by_cases hb : (QB cu len p).1 = true
    · have hb' := hb
      unfold QB at hb'
      by_cases ha : (QA cu len p).1 = true
      · have hA : 0 ≤ (QA cu len p).2.1 ∧ (QA cu len p).2.1 ≤ 3 := by
          unfold QA at ha ⊢
          by_cases hj : opc (cu p) = 4 ∨ opc (cu p) = 7
          · rw [if_pos hj]; exact ⟨Int.le_refl _, show (0 : Int) ≤ 3 by decide⟩
          · rw [if_neg hj] at ha ⊢
            exact ⟨(PN_in ha).2 rfl, (PN_in ha).1.2⟩
        rw [if_pos ha] at hb'
        have hB : (QB cu len p).2.1 = (if opc (cu p) = 7 then (true, 0, (QA cu len p).2.2) else PN cu len (mostO (opc (cu p))) (decide (opc (cu p) ≤ 1)) (QA cu len p).2.2).2.1 := by
          rw [QB, if_pos ha]
        rw [hB]
        by_cases h7 : opc (cu p) = 7
        · rw [if_pos h7]
          exact ⟨by omega, by omega, hA, ⟨show (-99 : Int) ≤ 0 by decide, show (0 : Int) ≤ 99 by decide⟩, fun q => ⟨Int.le_refl _, show (0 : Int) ≤ 3 by decide⟩, fun q => ⟨Int.le_refl _, show (0 : Int) ≤ 24 by decide⟩⟩
        · rw [if_neg h7] at hb' ⊢
          have q := PN_in hb'
          have hmo : mostO (opc (cu p)) = (if opc (cu p) ≤ 1 then 99 else if opc (cu p) ≤ 3 then 3 else 24) := rfl
          by_cases h2 : opc (cu p) ≤ 1
          · rw [if_pos h2] at hmo
            exact ⟨by omega, by omega, hA, by omega, fun z => by omega, fun z => by omega⟩
          · rw [if_neg h2] at hmo
            have q2 := q.2 (decide_eq_false h2)
            by_cases h3 : opc (cu p) ≤ 3
            · rw [if_pos h3] at hmo
              exact ⟨by omega, by omega, hA, by omega, fun z => by omega, fun z => by omega⟩
            · rw [if_neg h3] at hmo
              exact ⟨by omega, by omega, hA, by omega, fun z => by omega, fun z => by omega⟩
      · rw [if_neg ha] at hb'; cases hb'
    · rw [if_neg hb] at h; cases h
theorem TR_wf {cu : FI} {len : Int} {n : Nat} (h : TRp cu len n) {op ra rb : FI} (he : ∀ j : Int, 0 ≤ j → j < (n : Int) → op j = prO cu len j ∧ ra j = prA cu len j ∧ rb j = prB cu len j) : WFP op ra rb n := by
  intro j j0 j1
  obtain ⟨e1, e2, e3⟩ := he j j0 j1
  obtain ⟨q1, q2, q3, q4, q5, q6⟩ := QI_ok (h j.toNat (by omega)).2
  rw [e1, e2, e3]
  exact ⟨q1, q3, q4, q5, q6⟩
theorem TR_unique {cu : FI} {len : Int} {n m : Nat} (h1 : TRok cu len n) (h2 : TRok cu len m) : n = m := by
  rcases Nat.lt_trichotomy n m with q | q | q
  · exact absurd h1.2 (h2.1 n q).1
  · exact q
  · exact absurd h2.2 (h1.1 m q).1
theorem TR_bad {cu : FI} {len e : Int} {n : Nat} (h1 : TRok cu len n) (h2 : TRbad cu len e) : False := by
  obtain ⟨m, a1, a2, a3⟩ := h2
  rcases Nat.lt_trichotomy n m with q | q | q
  · exact absurd h1.2 (a1 n q).1
  · rw [q] at h1; exact a2 h1.2
  · have := (h1.1 m q).2
    rw [a3] at this
    cases this
theorem TR_bad2 {cu : FI} {len e f : Int} (h1 : TRbad cu len e) (h2 : TRbad cu len f) : e = f := by
  obtain ⟨n, a1, a2, a3⟩ := h1
  obtain ⟨m, b1, b2, b3⟩ := h2
  rcases Nat.lt_trichotomy n m with q | q | q
  · have := (b1 n q).2
    rw [a3] at this
    cases this
  · rw [q, b3] at a3
    exact (congrArg Prod.snd a3).symm
  · have := (a1 m q).2
    rw [b3] at this
    cases this
def SV (Z Z' : ZW) : Prop := Cp Z Z' (34 + 5 * (Z 32 1).toNat) 4 ∧ Z' 32 0 = (if Z 32 0 < 5 then Z 32 0 + 1 else 5) ∧ Z' 32 1 = (if Z 32 1 + 1 < 5 then Z 32 1 + 1 else 0)
def HB (Z : ZW) : Prop := (0 ≤ Z 32 1 ∧ Z 32 1 < 5) ∧ 0 ≤ Z 32 0 ∧ Z 32 0 ≤ 5
theorem GP_of {op rb : FI} {n : Nat} {Z Z' : ZW} (h : GP op rb n Z) (e : ∀ (k : Nat) (j : Int), (14 ≤ k ∧ k ≤ 20) → Z' k j = Z k j) : GP op rb n Z' := by
  unfold GP
  rw [e 14 0 (by decide), e 14 1 (by decide)]
  refine ⟨h.1, h.2.1, fun i i0 i1 => ?_, fun b b0 b1 => ?_⟩
  · rw [e 15 i (by decide)]; exact h.2.2.1 i i0 i1
  · rw [e 16 b (by decide), e 17 b (by decide), e 18 b (by decide), e 19 b (by decide), e 20 b (by decide), enB_congr (e 14 (8 + b) (by decide))]; exact h.2.2.2 b b0 b1
theorem s_setCost_bad {Z : ZW} {J : Int64} {x c : Int} (hx : RG x) (hc : RG c) (h : ¬ ((0 ≤ x ∧ x < 8) ∧ 1 ≤ c ∧ c ≤ 9)) : D 71 [.ref 0, .int (I x), .int (I c)] Z J (some (.int (I (-2)))) (rf Z (-2)) J := by
  unfold D Mz
  refine z_iload_n rfl rfl ?_
  refine z_if_lt rfl (by omega) (fun h1 => ?_) (fun h1 => ?_)
  · refine z_aload_n rfl rfl ?_
    refine z_bipush rfl (by decide) ?_
    refine z_callV1 rfl rfl rfl rfl rfl rfl (s_refuse (by omega)) ?_
    exact z_iret rfl rfl ⟨rfl, rfl, rfl⟩
  · refine z_iload_n rfl rfl ?_
    refine z_bipush rfl (by decide) ?_
    refine z_icmp_ge rfl (by omega) (by omega) (fun h7 => ?_) (fun h7 => ?_)
    · refine z_aload_n rfl rfl ?_
      refine z_bipush rfl (by decide) ?_
      refine z_callV1 rfl rfl rfl rfl rfl rfl (s_refuse (by omega)) ?_
      exact z_iret rfl rfl ⟨rfl, rfl, rfl⟩
    · refine z_iload_n rfl rfl ?_
      refine z_iconst rfl ?_
      refine z_icmp_lt rfl (by omega) (by omega) (fun h12 => ?_) (fun h12 => ?_)
      · refine z_aload_n rfl rfl ?_
        refine z_bipush rfl (by decide) ?_
        refine z_callV1 rfl rfl rfl rfl rfl rfl (s_refuse (by omega)) ?_
        exact z_iret rfl rfl ⟨rfl, rfl, rfl⟩
      · refine z_iload_n rfl rfl ?_
        refine z_bipush rfl (by decide) ?_
        refine z_icmp_le rfl (by omega) (by omega) (fun h18 => ?_) (fun h18 => ?_)
        · exfalso; omega
        · refine z_aload_n rfl rfl ?_
          refine z_bipush rfl (by decide) ?_
          refine z_callV1 rfl rfl rfl rfl rfl rfl (s_refuse (by omega)) ?_
          exact z_iret rfl rfl ⟨rfl, rfl, rfl⟩
theorem s_setCost {Z : ZW} {J : Int64} {n : Nat} {x c : Int} (hp : CP Z n) (hh : HB Z) (hx : 0 ≤ x ∧ x < 8) (hc : 1 ≤ c ∧ c ≤ 9) : Mz 71 [.ref 0, .int (I x), .int (I c)] Z J (fun r Z' J' => J' = J ∧ r = (some (.int (I (Z 8 x)))) ∧ SV Z Z' ∧ CP Z' n ∧ Z' 5 = Z 5 ∧ Z' 6 = Z 6 ∧ Z' 7 = Z 7 ∧ Z' 8 = updF (Z 8) x c ∧ ∀ (k : Nat) (j : Int), (k < 4 ∨ 8 < k) → (k < 24 ∨ 31 < k) → k ≠ 32 → (k < 34 + 5 * (Z 32 1).toNat ∨ 38 + 5 * (Z 32 1).toNat < k) → Z' k j = Z k j) := by
  unfold Mz
  obtain ⟨p1, p2, p3, p4, p5, p6, p7⟩ := hp
  obtain ⟨a, ea⟩ : ∃ a, a = 34 + 5 * (Z 32 1).toNat := ⟨_, rfl⟩
  have hco : COk (updF (Z 8) x c) := by
    intro y y0 y1
    unfold updF
    split
    · exact hc
    · exact p4 y y0 y1
  refine z_iload_n rfl rfl ?_
  refine z_if_lt rfl (by omega) (fun h1 => ?_) (fun h1 => ?_)
  · exfalso; omega
  · refine z_iload_n rfl rfl ?_
    refine z_bipush rfl (by decide) ?_
    refine z_icmp_ge rfl (by omega) (by omega) (fun h7 => ?_) (fun h7 => ?_)
    · exfalso; omega
    · refine z_iload_n rfl rfl ?_
      refine z_iconst rfl ?_
      refine z_icmp_lt rfl (by omega) (by omega) (fun h12 => ?_) (fun h12 => ?_)
      · exfalso; omega
      · refine z_iload_n rfl rfl ?_
        refine z_bipush rfl (by decide) ?_
        refine z_icmp_le rfl (by omega) (by omega) (fun h18 => ?_) (fun h18 => ?_)
        · refine z_aload_n rfl rfl ?_
          refine z_getR rfl rfl rfl rfl ?_
          refine z_aload_n rfl rfl ?_
          refine z_getR rfl rfl rfl rfl ?_
          refine z_callV1g rfl rfl rfl rfl rfl rfl (s_save hh.1 hh.2) (fun r36 Z36 J36 q36 => ?_)
          obtain ⟨rfl, rfl, w1, w2, w3, w4⟩ := q36
          have f : ∀ k, 4 ≤ k ∧ k ≤ 31 → Z36 k = Z k := fun k hk => funext fun j => w4 k j (by omega) (by omega)
          show OkZ none 71 39 _ [] _ _ _
          refine z_aload_n rfl rfl ?_
          refine z_getR rfl rfl rfl rfl ?_
          refine z_getR rfl rfl rfl rfl ?_
          refine z_iload_n rfl rfl ?_
          refine z_iald rfl rfl (by omega) ?_
          rw [f 8 (by decide)]
          refine z_istore_n rfl rfl rfl ?_
          refine z_aload_n rfl rfl ?_
          refine z_getR rfl rfl rfl rfl ?_
          refine z_getR rfl rfl rfl rfl ?_
          refine z_iload_n rfl rfl ?_
          refine z_iload_n rfl rfl ?_
          refine z_iast rfl rfl (by omega) ?_
          refine z_aload_n rfl rfl ?_
          refine z_getR rfl rfl rfl rfl ?_
          refine z_aload_n rfl rfl ?_
          refine z_getR rfl rfl rfl rfl ?_
          refine z_aload_n rfl rfl ?_
          refine z_getR rfl rfl rfl rfl ?_
          have g8 : up Z36 8 x c 8 = updF (Z 8) x c := by rw [up_upd, f 8 (by decide)]
          have gk : ∀ k, k ≠ 8 → 4 ≤ k ∧ k ≤ 31 → up Z36 8 x c k = Z k := fun k hk hk2 => by rw [← f k hk2]; exact funext fun j => up_ne hk
          refine z_callV2g rfl rfl rfl rfl rfl rfl (s_pupdate (op := Z 5) (rb := Z 7) (co := updF (Z 8) x c) (gk 5 (by decide) (by decide)) g8 (by rw [gk 4 (by decide) (by decide)]; exact p2) p1 (OP_of p3) (GP_of p5 (fun k j hk => by rw [gk k (by omega) (by omega)])) (gok p1 (OP_of p3) hco)) (fun r71 Z71 J71 q71 => ?_)
          obtain ⟨rfl, rfl, v1, v2⟩ := q71
          show OkZ none 71 74 _ [] _ _ _
          refine z_iload_n rfl rfl ?_
          have u : ∀ k, k ≠ 8 → 4 ≤ k ∧ k < 24 ∨ k = 28 → Z71 k = Z k := fun k h1 h2 => by rw [← gk k h1 (by omega)]; exact funext fun j => v2 k j (by omega)
          have u8 : Z71 8 = updF (Z 8) x c := by rw [← g8]; exact funext fun j => v2 8 j (by decide)
          have uo : ∀ (k : Nat) (j : Int), 31 < k → Z71 k j = Z36 k j := fun k j hk => by rw [v2 k j (by omega), up_ne (by omega)]
          refine z_iret rfl rfl ⟨rfl, rfl, ⟨⟨?_, fun j j0 j1 => ?_, fun j j0 j1 => ?_⟩, ?_, ?_⟩, ⟨p1, ?_, ?_, ?_, ?_, ?_, ?_⟩, ?_, ?_, ?_, u8, fun k j k1 k2 k3 k4 => ?_⟩
          · rw [uo _ _ (by omega)]; exact w1.1
          · rw [uo _ _ (by omega), uo _ _ (by omega), uo _ _ (by omega)]; exact w1.2.1 j j0 j1
          · rw [uo _ _ (by omega)]; exact w1.2.2 j j0 j1
          · rw [uo _ _ (by omega)]; exact w2
          · rw [uo _ _ (by omega)]; exact w3
          · rw [u 4 (by decide) (by decide)]; exact p2
          · rw [u 5 (by decide) (by decide), u 6 (by decide) (by decide), u 7 (by decide) (by decide)]; exact p3
          · rw [u8]; exact hco
          · rw [u 5 (by decide) (by decide), u 7 (by decide) (by decide)]; exact GP_of p5 (fun k j hk => by rw [u k (by omega) (by omega)])
          · rw [u8, u 5 (by decide) (by decide), u 7 (by decide) (by decide)]; exact v1
          · intro y y0 y1; rw [u 28 (by decide) (by decide)]; exact p7 y y0 y1
          · exact u 5 (by decide) (by decide)
          · exact u 6 (by decide) (by decide)
          · exact u 7 (by decide) (by decide)
          · rw [v2 k j (by omega), up_ne (by omega)]; exact w4 k j k3 k4
        · exfalso; omega
