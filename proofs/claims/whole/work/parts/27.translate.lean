/-! the class: a text is translated -/
def pos (cu : FI) (len : Int) : Nat → Int
  | 0 => skp cu len 0
  | n + 1 => skp cu len (QI cu len n (pos cu len n)).2
def TRp (cu : FI) (len : Int) (n : Nat) : Prop := ∀ i : Nat, i < n → cu (pos cu len i) ≠ -1 ∧ (QI cu len i (pos cu len i)).1 = true
def TRok (cu : FI) (len : Int) (n : Nat) : Prop := TRp cu len n ∧ cu (pos cu len n) = -1
def TRbad (cu : FI) (len e : Int) : Prop := ∃ n, TRp cu len n ∧ cu (pos cu len n) ≠ -1 ∧ QI cu len n (pos cu len n) = (false, e)
def prO (cu : FI) (len : Int) : FI := fun i => opc (cu (pos cu len i.toNat))
def prA (cu : FI) (len : Int) : FI := fun i => (QA cu len (pos cu len i.toNat)).2.1
def prB (cu : FI) (len : Int) : FI := fun i => (QB cu len (pos cu len i.toNat)).2.1
theorem ADD_i {Z : ZW} {n a b c i : Int} (h : i < n) : ADD Z n a b c 10 i = Z 10 i ∧ ADD Z n a b c 11 i = Z 11 i ∧ ADD Z n a b c 12 i = Z 12 i := by
  unfold ADD
  refine ⟨?_, ?_, ?_⟩
  · rw [up_ne (by decide), up_ne (by decide), up_ne (by decide), up_nj (by omega)]
  · rw [up_ne (by decide), up_ne (by decide), up_nj (by omega), up_ne (by decide)]
  · rw [up_ne (by decide), up_nj (by omega), up_ne (by decide), up_ne (by decide)]
theorem ADD_n {Z : ZW} {n a b c : Int} : ADD Z n a b c 10 n = a ∧ ADD Z n a b c 11 n = b ∧ ADD Z n a b c 12 n = c ∧ ADD Z n a b c 9 0 = n + 1 := by
  unfold ADD
  refine ⟨?_, ?_, ?_, ?_⟩
  · rw [up_ne (by decide), up_ne (by decide), up_ne (by decide), up_eq]
  · rw [up_ne (by decide), up_ne (by decide), up_eq]
  · rw [up_ne (by decide), up_eq]
  · rw [up_eq]
theorem ADD_ne {Z : ZW} {n a b c j : Int} {k : Nat} (h : k < 9 ∨ 12 < k) : ADD Z n a b c k j = Z k j := by
  unfold ADD
  rw [up_ne (by omega), up_ne (by omega), up_ne (by omega), up_ne (by omega)]
theorem QI_in {bt : FI} {len n p : Int} (h : cuF bt len p = -1 ∨ 24 ≤ n) : QI (cuF bt len) len n p = (false, p) := by
  unfold QI
  refine if_pos ?_
  rcases h with h | h
  · left; rw [h]; rfl
  · exact Or.inr h
set_option maxHeartbeats 1000000 in
theorem s_translate {Z : ZW} {J : Int64} (ht : TXT Z) : Mz 12 [.ref 1, .ref 8] Z J (fun r Z' J' => J' = J ∧ (∀ (k : Nat) (j : Int), (k < 9 ∨ 12 < k) → ¬ (k = 3 ∧ (j = 1 ∨ j = 2)) → Z' k j = Z k j) ∧ ((r = some (.int (I (-1))) ∧ ∃ n : Nat, n ≤ 24 ∧ Z' 9 0 = n ∧ TRok (cuF (Z 2) (Z 1 0)) (Z 1 0) n ∧ (∀ j : Int, 0 ≤ j → j < ((n : Nat) : Int) → Z' 10 j = prO (cuF (Z 2) (Z 1 0)) (Z 1 0) j ∧ Z' 11 j = prA (cuF (Z 2) (Z 1 0)) (Z 1 0) j ∧ Z' 12 j = prB (cuF (Z 2) (Z 1 0)) (Z 1 0) j)) ∨ ∃ e, r = some (.int (I e)) ∧ (0 ≤ e ∧ e ≤ Z 1 0) ∧ TRbad (cuF (Z 2) (Z 1 0)) (Z 1 0) e)) := by
  unfold Mz
  have hl := ht.1
  have KE : ∀ (c e : Int) (Z' : ZW), (0 ≤ c ∧ c ≤ 25) → (∀ (k : Nat) (j : Int), (k < 9 ∨ 12 < k) → ¬ (k = 3 ∧ (j = 1 ∨ j = 2)) → Z' k j = Z k j) → Z' 3 2 = e → (0 ≤ e ∧ e ≤ Z 1 0) → TRbad (cuF (Z 2) (Z 1 0)) (Z 1 0) e → OkZ none 12 21 [some (.ref 1), some (.ref 8), some (.int (I c))] [] Z' J (fun r Z' J' => J' = J ∧ (∀ (k : Nat) (j : Int), (k < 9 ∨ 12 < k) → ¬ (k = 3 ∧ (j = 1 ∨ j = 2)) → Z' k j = Z k j) ∧ ((r = some (.int (I (-1))) ∧ ∃ n : Nat, n ≤ 24 ∧ Z' 9 0 = n ∧ TRok (cuF (Z 2) (Z 1 0)) (Z 1 0) n ∧ (∀ j : Int, 0 ≤ j → j < ((n : Nat) : Int) → Z' 10 j = prO (cuF (Z 2) (Z 1 0)) (Z 1 0) j ∧ Z' 11 j = prA (cuF (Z 2) (Z 1 0)) (Z 1 0) j ∧ Z' 12 j = prB (cuF (Z 2) (Z 1 0)) (Z 1 0) j)) ∨ ∃ e, r = some (.int (I e)) ∧ (0 ≤ e ∧ e ≤ Z 1 0) ∧ TRbad (cuF (Z 2) (Z 1 0)) (Z 1 0) e)) := by
    intro c e Z' hc hf hw he hb
    refine z_iload_n rfl rfl ?_
    refine z_bipush rfl (by decide) ?_
    refine z_icmp_gt rfl (by omega) (by omega) (fun h24 => ?_) (fun h24 => ?_)
    · refine z_aload_n rfl rfl ?_
      refine z_getS (bi := 2) rfl rfl rfl (by decide) ?_
      rw [hw]
      exact z_iret rfl rfl ⟨rfl, hf, Or.inr ⟨e, rfl, he, hb⟩⟩
    · refine z_aload_n rfl rfl ?_
      refine z_getS (bi := 2) rfl rfl rfl (by decide) ?_
      rw [hw]
      refine z_iconst rfl ?_
      refine z_icmp_ne rfl (by omega) (by omega) (fun h32 => ?_) (fun h32 => ?_)
      · refine z_aload_n rfl rfl ?_
        refine z_getS (bi := 2) rfl rfl rfl (by decide) ?_
        rw [hw]
        exact z_iret rfl rfl ⟨rfl, hf, Or.inr ⟨e, rfl, he, hb⟩⟩
      · exfalso; omega
  have KL : ∀ (d n : Nat) (Z' : ZW), n + d = 24 → (∀ (k : Nat) (j : Int), (k < 9 ∨ 12 < k) → ¬ (k = 3 ∧ (j = 1 ∨ j = 2)) → Z' k j = Z k j) → Z' 3 2 = -1 → Z' 3 1 = pos (cuF (Z 2) (Z 1 0)) (Z 1 0) n → (0 ≤ Z' 3 1 ∧ Z' 3 1 ≤ Z 1 0) → Z' 9 0 = n → TRp (cuF (Z 2) (Z 1 0)) (Z 1 0) n → (∀ j : Int, 0 ≤ j → j < ((n : Nat) : Int) → Z' 10 j = prO (cuF (Z 2) (Z 1 0)) (Z 1 0) j ∧ Z' 11 j = prA (cuF (Z 2) (Z 1 0)) (Z 1 0) j ∧ Z' 12 j = prB (cuF (Z 2) (Z 1 0)) (Z 1 0) j) → OkZ none 12 21 [some (.ref 1), some (.ref 8), some (.int (I ((n : Nat) : Int)))] [] Z' J (fun r Z' J' => J' = J ∧ (∀ (k : Nat) (j : Int), (k < 9 ∨ 12 < k) → ¬ (k = 3 ∧ (j = 1 ∨ j = 2)) → Z' k j = Z k j) ∧ ((r = some (.int (I (-1))) ∧ ∃ n : Nat, n ≤ 24 ∧ Z' 9 0 = n ∧ TRok (cuF (Z 2) (Z 1 0)) (Z 1 0) n ∧ (∀ j : Int, 0 ≤ j → j < ((n : Nat) : Int) → Z' 10 j = prO (cuF (Z 2) (Z 1 0)) (Z 1 0) j ∧ Z' 11 j = prA (cuF (Z 2) (Z 1 0)) (Z 1 0) j ∧ Z' 12 j = prB (cuF (Z 2) (Z 1 0)) (Z 1 0) j)) ∨ ∃ e, r = some (.int (I e)) ∧ (0 ≤ e ∧ e ≤ Z 1 0) ∧ TRbad (cuF (Z 2) (Z 1 0)) (Z 1 0) e)) := by
    intro d
    induction d with
    | zero =>
      intro n Z' hd hf hw hp hp2 hn hpr hro
      have e1 : Z' 1 0 = Z 1 0 := hf 1 0 (by decide) (by decide)
      have e2 : Z' 2 = Z 2 := funext fun j => hf 2 j (by decide) (fun q => absurd q.1 (by decide))
      have ht' : TXT Z' := ⟨by rw [e1]; exact ht.1, by rw [e1, e2]; exact ht.2⟩
      have hcu := cu_in ht' (Z' 3 1)
      refine z_iload_n rfl rfl ?_
      refine z_bipush rfl (by decide) ?_
      refine z_icmp_gt rfl (by omega) (by omega) (fun h24 => ?_) (fun h24 => ?_)
      · exfalso; omega
      · refine z_aload_n rfl rfl ?_
        refine z_getS (bi := 2) rfl rfl rfl (by decide) ?_
        refine z_iconst rfl ?_
        refine z_icmp_ne rfl (by omega) (by omega) (fun h32 => ?_) (fun h32 => ?_)
        · exfalso; omega
        · refine z_aload_n rfl rfl ?_
          refine z_callV0 rfl rfl rfl rfl rfl rfl (s_atEnd (by omega) ht') ?_
          refine z_ifb_ne rfl (fun h39 => ?_) (fun h39 => ?_)
          · have hce := of_decide_eq_true h39
            rw [e1, e2, hp] at hce
            refine z_aload_n rfl rfl ?_
            refine z_getS (bi := 2) rfl rfl rfl (by decide) ?_
            rw [hw]
            exact z_iret rfl rfl ⟨rfl, hf, Or.inl ⟨rfl, n, by omega, hn, ⟨hpr, hce⟩, hro⟩⟩
          · refine z_aload_n rfl rfl ?_
            refine z_aload_n rfl rfl ?_
            refine z_callV1g rfl rfl rfl rfl rfl rfl (s_readI ht' hw rfl (by rw [e1]; exact hp2) hn (by omega)) (fun r44 Z44 J44 q44 => ?_)
            have hcm : cuF (Z 2) (Z 1 0) (Z' 3 1) ≠ -1 := by have := of_decide_eq_false h39; rw [e1, e2] at this; exact this
            obtain ⟨rfl, rfl, h1, h2⟩ := q44
            rw [e1] at h1 h2
            rw [e2] at h2
            obtain ⟨qi, ei⟩ : ∃ qi, qi = QI (cuF (Z 2) (Z 1 0)) (Z 1 0) n (Z' 3 1) := ⟨_, rfl⟩
            rw [← ei] at h2
            show OkZ none 12 47 _ [] _ _ _
            refine z_aload_n rfl rfl ?_
            by_cases hi : qi.1 = true
            · exfalso
              rw [QI_in (Or.inr (by omega))] at ei
              rw [ei] at hi
              cases hi
            · rw [if_neg hi] at h2
              obtain ⟨⟨w1, w2, w3⟩, w4⟩ := h2
              have f1 : Z44 1 0 = Z 1 0 := by rw [w4 1 0 (by decide)]; exact e1
              have f2 : Z44 2 = Z 2 := funext fun j => by rw [w4 2 j (fun q => absurd q.1 (by decide)), e2]
              have ht2 : TXT Z44 := ⟨by rw [f1]; exact ht.1, by rw [f1, f2]; exact ht.2⟩
              refine z_callV0v rfl rfl rfl rfl rfl rfl (s_skip ht2 (by rw [f1]; exact h1) rfl) ?_
              refine z_iinc rfl rfl rfl rfl ?_
              refine z_goto rfl ?_
              refine KE _ qi.2 _ (by omega) (fun k j k1 k2 => by rw [up_other1 k2, w4 k j k2]; exact hf k j k1 k2) (by rw [up_nj (by decide)]; exact w1) ⟨w2, w3⟩ ⟨n, hpr, ?_⟩
              rw [← hp]
              refine ⟨hcm, ?_⟩
              rw [← ei]
              cases qi with
              | mk a b => cases a with
                | true => exact absurd rfl hi
                | false => rfl
    | succ d ih =>
      intro n Z' hd hf hw hp hp2 hn hpr hro
      have e1 : Z' 1 0 = Z 1 0 := hf 1 0 (by decide) (by decide)
      have e2 : Z' 2 = Z 2 := funext fun j => hf 2 j (by decide) (fun q => absurd q.1 (by decide))
      have ht' : TXT Z' := ⟨by rw [e1]; exact ht.1, by rw [e1, e2]; exact ht.2⟩
      have hcu := cu_in ht' (Z' 3 1)
      refine z_iload_n rfl rfl ?_
      refine z_bipush rfl (by decide) ?_
      refine z_icmp_gt rfl (by omega) (by omega) (fun h24 => ?_) (fun h24 => ?_)
      · exfalso; omega
      · refine z_aload_n rfl rfl ?_
        refine z_getS (bi := 2) rfl rfl rfl (by decide) ?_
        refine z_iconst rfl ?_
        refine z_icmp_ne rfl (by omega) (by omega) (fun h32 => ?_) (fun h32 => ?_)
        · exfalso; omega
        · refine z_aload_n rfl rfl ?_
          refine z_callV0 rfl rfl rfl rfl rfl rfl (s_atEnd (by omega) ht') ?_
          refine z_ifb_ne rfl (fun h39 => ?_) (fun h39 => ?_)
          · have hce := of_decide_eq_true h39
            rw [e1, e2, hp] at hce
            refine z_aload_n rfl rfl ?_
            refine z_getS (bi := 2) rfl rfl rfl (by decide) ?_
            rw [hw]
            exact z_iret rfl rfl ⟨rfl, hf, Or.inl ⟨rfl, n, by omega, hn, ⟨hpr, hce⟩, hro⟩⟩
          · refine z_aload_n rfl rfl ?_
            refine z_aload_n rfl rfl ?_
            refine z_callV1g rfl rfl rfl rfl rfl rfl (s_readI ht' hw rfl (by rw [e1]; exact hp2) hn (by omega)) (fun r44 Z44 J44 q44 => ?_)
            have hcm : cuF (Z 2) (Z 1 0) (Z' 3 1) ≠ -1 := by have := of_decide_eq_false h39; rw [e1, e2] at this; exact this
            obtain ⟨rfl, rfl, h1, h2⟩ := q44
            rw [e1] at h1 h2
            rw [e2] at h2
            obtain ⟨qi, ei⟩ : ∃ qi, qi = QI (cuF (Z 2) (Z 1 0)) (Z 1 0) n (Z' 3 1) := ⟨_, rfl⟩
            rw [← ei] at h2
            show OkZ none 12 47 _ [] _ _ _
            refine z_aload_n rfl rfl ?_
            by_cases hi : qi.1 = true
            · rw [if_pos hi] at h2
              obtain ⟨w1, w2, ⟨w3, w4, w5⟩, w6⟩ := h2
              have f1 : Z44 1 0 = Z 1 0 := by rw [w6 1 0 (by decide), ADD_ne (by decide)]; exact e1
              have f2 : Z44 2 = Z 2 := funext fun j => by rw [w6 2 j (fun q => absurd q.1 (by decide)), ADD_ne (by decide), e2]
              have ht2 : TXT Z44 := ⟨by rw [f1]; exact ht.1, by rw [f1, f2]; exact ht.2⟩
              have hq2 : 0 ≤ qi.2 ∧ qi.2 ≤ Z 1 0 := by omega
              have hsk := skp_in (bt := Z 2) hl.1 hq2.1 hq2.2
              refine z_callV0v rfl rfl rfl rfl rfl rfl (s_skip ht2 (by rw [f1]; exact hq2) w2) ?_
              rw [f1, f2]
              refine z_iinc rfl rfl rfl rfl ?_
              refine z_goto rfl ?_
              have en : ((n : Nat) : Int) + 1 = ((n + 1 : Nat) : Int) := by omega
              rw [en]
              refine ih (n + 1) _ (by omega) (fun k j k1 k2 => ?_) (by rw [up_nj (by decide)]; exact w1) ?_ (by rw [up_eq]; omega) ?_ (fun m hm => ?_) (fun j j0 j1 => ?_)
              · rw [up_other1 k2, w6 k j k2, ADD_ne k1]; exact hf k j k1 k2
              · rw [up_eq, ei, hp]; rfl
              · rw [up_ne (by decide), w6 9 0 (by decide), ADD_n.2.2.2]; exact en
              · by_cases hmn : m = n
                · rw [hmn, ← hp]; exact ⟨hcm, by rw [← ei]; exact hi⟩
                · exact hpr m (by omega)
              · rw [up_ne (by decide), up_ne (by decide), up_ne (by decide), w6 10 j (fun q => absurd q.1 (by decide)), w6 11 j (fun q => absurd q.1 (by decide)), w6 12 j (fun q => absurd q.1 (by decide))]
                by_cases hjn : j = (n : Int)
                · rw [hjn, ADD_n.1, ADD_n.2.1, ADD_n.2.2.1, hp]; exact ⟨rfl, rfl, rfl⟩
                · rw [(ADD_i (by omega)).1, (ADD_i (by omega)).2.1, (ADD_i (by omega)).2.2]; exact hro j j0 (by omega)
            · rw [if_neg hi] at h2
              obtain ⟨⟨w1, w2, w3⟩, w4⟩ := h2
              have f1 : Z44 1 0 = Z 1 0 := by rw [w4 1 0 (by decide)]; exact e1
              have f2 : Z44 2 = Z 2 := funext fun j => by rw [w4 2 j (fun q => absurd q.1 (by decide)), e2]
              have ht2 : TXT Z44 := ⟨by rw [f1]; exact ht.1, by rw [f1, f2]; exact ht.2⟩
              refine z_callV0v rfl rfl rfl rfl rfl rfl (s_skip ht2 (by rw [f1]; exact h1) rfl) ?_
              refine z_iinc rfl rfl rfl rfl ?_
              refine z_goto rfl ?_
              refine KE _ qi.2 _ (by omega) (fun k j k1 k2 => by rw [up_other1 k2, w4 k j k2]; exact hf k j k1 k2) (by rw [up_nj (by decide)]; exact w1) ⟨w2, w3⟩ ⟨n, hpr, ?_⟩
              rw [← hp]
              refine ⟨hcm, ?_⟩
              rw [← ei]
              cases qi with
              | mk a b => cases a with
                | true => exact absurd rfl hi
                | false => rfl
  have hsk := skp_in (bt := Z 2) hl.1 (Int.le_refl 0) hl.1
  refine z_aload_n rfl rfl ?_
  refine z_iconst rfl ?_
  refine z_putS (bi := 1) rfl rfl rfl rfl (by decide) ?_
  refine z_aload_n rfl rfl ?_
  refine z_iconst rfl ?_
  refine z_putS (bi := 2) rfl rfl rfl rfl (by decide) ?_
  refine z_aload_n rfl rfl ?_
  refine z_iconst rfl ?_
  refine z_putI (bi := 0) rfl rfl rfl rfl rfl ?_
  refine z_aload_n rfl rfl ?_
  refine z_callV0v rfl rfl rfl rfl rfl rfl (s_skip (p := 0) (TXT_up (by decide) (TXT_up (by decide) (TXT_up (by decide) ht))) (by show 0 ≤ 0 ∧ 0 ≤ Z 1 0; omega) (by rw [up_ne (by decide), up_nj (by decide), up_eq])) ?_
  refine z_iconst rfl ?_
  refine z_istore_n rfl rfl rfl ?_
  refine KL 24 0 _ rfl (fun k j k1 k2 => ?_) ?_ (by rw [up_eq]; rfl) (by rw [up_eq]; exact hsk) (by rw [up_ne (by decide), up_eq]; rfl) (fun m hm => absurd hm (Nat.not_lt_zero _)) (fun j j0 j1 => absurd j1 (by omega))
  · rw [up_other1 k2, up_ne (by omega), up_other k2, up_other1 k2]
  · rw [up_nj (by decide), up_ne (by decide), up_eq]
