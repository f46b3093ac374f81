/-! the reference: what can be reached, walked -/
theorem z_weaken {sc : Option (Nat × (Nat → Int32))} {i pc : Nat} {lv : List (Option Value)} {st : List Value} {Z : ZW} {J : Int64} {Φ Ψ : ZΦ} (h : OkZ sc i pc lv st Z J Φ) (hi : ∀ r Z' J', Φ r Z' J' → Ψ r Z' J') : OkZ sc i pc lv st Z J Ψ := Ok.weaken h (fun r w' q => by
  obtain ⟨Z', J', e, p⟩ := q
  exact ⟨Z', J', e, hi r Z' J' p⟩)
theorem Clo_congr {S S' : FI} {nb : Nat} {m : Int} (h : ∀ t : Nat, t < nb → S t = S' t) (hc : Clo S nb m) : Clo S' nb m := fun b hb ht => by rw [← h b hb]; exact hc b hb ht
theorem IsR_congr {S S' : FI} {nb : Nat} {m v : Int} (h : ∀ t : Nat, t < nb → S t = S' t) (hr : IsR S nb m v) : IsR S' nb m v := ⟨hr.1, hr.2.1, Clo_congr h hr.2.2.1, fun c hc hm => hr.2.2.2 c (Clo_congr (fun t ht => (h t ht).symm) hc) hm⟩
theorem tb1_1 {s q : Int} : tb1 s q = 1 ↔ tbI s q = true := by
  unfold tb1
  cases tbI s q <;> simp
theorem l_mreach_in {Z : ZW} {J : Int64} {nb : Nat} {s : Int} {Φ : ZΦ} (hnb : Z 64 9 = nb) (hnb2 : nb ≤ 24) (hk : OkZ none 132 67 [some (.ref 64), some (.int (I s)), some (.int (I 1)), some (.int (I (rjI (Z 72) s (nb : Nat)))), some (.int (I ((nb : Nat) : Int)))] [] Z J Φ) : ∀ (d t : Nat), t + d = nb → OkZ none 132 28 [some (.ref 64), some (.int (I s)), some (.int (I 1)), some (.int (I (rjI (Z 72) s (t : Nat)))), some (.int (I ((t : Nat) : Int)))] [] Z J Φ := by
  intro d
  induction d with
  | zero =>
    intro t ht
    have et : t = nb := by omega
    refine z_iload rfl rfl ?_
    refine z_aload_n rfl rfl ?_
    refine z_getI (bi := 9) rfl rfl rfl rfl ?_
    rw [hnb]
    refine z_icmp_ge rfl (by omega) (by omega) (fun h34 => ?_) (fun h34 => ?_)
    · rw [et]
      exact hk
    · exfalso; omega
  | succ d ih =>
    intro t ht
    have hi := ih (t + 1) (by omega)
    have er : rjI (Z 72) s (t + 1) = orI (rjI (Z 72) s t) (if tbI s t then Z 72 t else 0) := rfl
    refine z_iload rfl rfl ?_
    refine z_aload_n rfl rfl ?_
    refine z_getI (bi := 9) rfl rfl rfl rfl ?_
    rw [hnb]
    refine z_icmp_ge rfl (by omega) (by omega) (fun h34 => ?_) (fun h34 => ?_)
    · exfalso; omega
    · refine z_iload_n rfl rfl ?_
      refine z_iload_n rfl rfl ?_
      refine z_iload rfl rfl ?_
      refine z_ishr (v := (I s >>> (I (t : Int) &&& 31)).toInt) rfl (I_of _).symm ?_
      refine z_iconst rfl ?_
      refine z_iand rfl (shr_and (by omega) (I_of _).symm) ?_
      have htb : -2147483648 ≤ tb1 s (t : Int) ∧ tb1 s (t : Int) ≤ 2147483647 := by unfold tb1; split <;> omega
      refine z_iconst rfl ?_
      refine z_icmp_ne rfl (by omega) (by omega) (fun h45 => ?_) (fun h45 => ?_)
      · refine z_iconst rfl ?_
        refine z_ior rfl (I_orI _ _) ?_
        refine z_istore_n rfl rfl rfl ?_
        refine z_iinc rfl rfl rfl rfl ?_
        refine z_goto rfl ?_
        rw [if_neg (fun q => h45 (tb1_1.mpr q))] at er
        rw [er] at hi
        exact hi
      · refine z_aload_n rfl rfl ?_
        refine z_getR rfl rfl rfl rfl ?_
        refine z_iload rfl rfl ?_
        refine z_iald rfl rfl (by omega) ?_
        refine z_goto rfl ?_
        refine z_ior rfl (I_orI _ _) ?_
        refine z_istore_n rfl rfl rfl ?_
        refine z_iinc rfl rfl rfl rfl ?_
        refine z_goto rfl ?_
        rw [if_pos (tb1_1.mp h45)] at er
        rw [er] at hi
        exact hi
theorem l_mreach {Z : ZW} {J : Int64} {nb : Nat} {m0 v : Int} (hnb : Z 64 9 = nb) (hnb2 : nb ≤ 24) (hS : ∀ b : Nat, b < nb → OnB nb (Z 72 b)) (hv : IsR (Z 72) nb m0 v) : ∀ (d : Nat) (s : Int) (x3 x4 : Option Value), RG s → OnB nb s → sbB m0 s → (∀ c, Clo (Z 72) nb c → sbB m0 c → sbB s c) → nb + 1 ≤ cnt (fun x => tbI s x) nb + d → OkZ none 132 19 [some (.ref 64), some (.int (I s)), some (.int (I 1)), x3, x4] [] Z J (fun r Z' J' => r = some (.int (I v)) ∧ Z' = Z ∧ J' = J) := by
  intro d
  induction d with
  | zero =>
    intro s x3 x4 _ _ _ _ h
    have := cnt_le (fun x => tbI s x) nb
    omega
  | succ d ih =>
    intro s x3 x4 r ho h0 hmin hc
    have r2 := rj_RG (S := Z 72) r nb
    have K67 : OkZ none 132 67 [some (.ref 64), some (.int (I s)), some (.int (I 1)), some (.int (I (rjI (Z 72) s (nb : Nat)))), some (.int (I ((nb : Nat) : Int)))] [] Z J (fun r Z' J' => r = some (.int (I v)) ∧ Z' = Z ∧ J' = J) := by
      refine z_iload_n rfl rfl ?_
      refine z_iload_n rfl rfl ?_
      refine z_icmp_eq rfl (by omega) (by omega) (fun h69 => ?_) (fun h69 => ?_)
      · refine z_iconst rfl ?_
        refine z_istore_n rfl rfl rfl ?_
        refine z_iload_n rfl rfl ?_
        refine z_istore_n rfl rfl rfl ?_
        refine z_goto rfl ?_
        refine z_iload_n rfl rfl ?_
        refine z_if_eq rfl (by decide) (fun _ => ?_) (fun q => absurd rfl q)
        refine z_iload_n rfl rfl ?_
        have hs : IsR (Z 72) nb m0 s := ⟨r, h0, rj_fix h69, hmin⟩
        rw [h69, IsR_one hs hv]
        exact z_iret rfl rfl ⟨rfl, rfl, rfl⟩
      · have ho2 := OnB_rj hS ho nb (Nat.le_refl _)
        have hg := cnt_grow hnb2 r r2 (rj_ext (Z 72) s nb) ho2 (fun q => h69 q.symm)
        have hgo := ih (rjI (Z 72) s nb) (some (.int (I (rjI (Z 72) s nb)))) (some (.int (I ((nb : Nat) : Int)))) r2 ho2 (sb_trans h0 (rj_ext (Z 72) s nb)) (fun c hc h => rj_min hnb2 hc (hmin c hc h) nb (Nat.le_refl _)) (by omega)
        refine z_iconst rfl ?_
        refine z_goto rfl ?_
        refine z_istore_n rfl rfl rfl ?_
        refine z_iload_n rfl rfl ?_
        refine z_istore_n rfl rfl rfl ?_
        refine z_goto rfl ?_
        exact hgo
    refine z_iload_n rfl rfl ?_
    refine z_if_eq rfl (by omega) (fun h20 => ?_) (fun h20 => ?_)
    · exfalso; omega
    · refine z_iload_n rfl rfl ?_
      refine z_istore_n rfl rfl rfl ?_
      refine z_iconst rfl ?_
      refine z_istore rfl rfl rfl ?_
      exact l_mreach_in hnb hnb2 K67 nb 0 (by omega)
theorem m_reachable {Z : ZW} {J : Int64} {n : Nat} (hn : Z 65 0 = n) (hn2 : n ≤ 24) (hw : WFP (mO Z) (mA Z) (mB Z) n) : Mz 132 [.ref 64] Z J (fun r Z' J' => J' = J ∧ r = some (.int (I (gR (mO Z) (mB Z) n))) ∧ LBf Z Z') := by
  have hg := gnb_le (mO Z) (mB Z) n
  have hop := OP_of hw
  obtain ⟨k1, k2, k3⟩ := rMk_ok (nb := gnb (mO Z) (mB Z) n)
  unfold Mz
  refine z_aload_n rfl rfl ?_
  refine z_callV0g rfl rfl rfl rfl rfl rfl (m_laysBlocks hn hn2 hw) (fun r1 Z1 J1 q1 => ?_)
  obtain ⟨rfl, rfl, hL, hF⟩ := q1
  show OkZ none 132 4 _ [] _ _ _
  refine z_aload_n rfl rfl ?_
  refine z_getI (bi := 9) rfl rfl rfl rfl ?_
  rw [hL.1]
  refine z_if_ne rfl (by omega) (fun h8 => ?_) (fun h8 => ?_)
  · refine z_iconst rfl ?_
    refine z_istore_n rfl rfl rfl ?_
    refine z_iconst rfl ?_
    refine z_istore_n rfl rfl rfl ?_
    have em : rMk (gnb (mO Z) (mB Z) n) = 1 := by unfold rMk; rw [if_neg (by omega)]; rfl
    have k5 := k1
    have hgo := (l_mreach (J := J1) (nb := gnb (mO Z) (mB Z) n) hL.1 (by omega) (fun b hb => by rw [(hL.2.2 b (by omega) (by omega)).2.1]; exact OnB_gS hop b hb) (IsR_congr (fun t ht => ((hL.2.2 t (by omega) (by omega)).2.1).symm) (gR_R hn2 hop)) (gnb (mO Z) (mB Z) n + 1) _ none none k1 k2 (sb_refl _) (fun c _ hc => hc) (by omega))
    rw [em] at hgo
    refine z_weaken hgo ?_
    rintro r' Z' J' ⟨rfl, rfl, rfl⟩
    exact ⟨rfl, rfl, hF⟩
  · refine z_iconst rfl ?_
    refine z_goto rfl ?_
    refine z_istore_n rfl rfl rfl ?_
    refine z_iconst rfl ?_
    refine z_istore_n rfl rfl rfl ?_
    have em : rMk (gnb (mO Z) (mB Z) n) = 0 := by unfold rMk; rw [if_pos (by omega)]
    have k5 := k1
    have hgo := (l_mreach (J := J1) (nb := gnb (mO Z) (mB Z) n) hL.1 (by omega) (fun b hb => by rw [(hL.2.2 b (by omega) (by omega)).2.1]; exact OnB_gS hop b hb) (IsR_congr (fun t ht => ((hL.2.2 t (by omega) (by omega)).2.1).symm) (gR_R hn2 hop)) (gnb (mO Z) (mB Z) n + 1) _ none none k1 k2 (sb_refl _) (fun c _ hc => hc) (by omega))
    rw [em] at hgo
    refine z_weaken hgo ?_
    rintro r' Z' J' ⟨rfl, rfl, rfl⟩
    exact ⟨rfl, rfl, hF⟩
