/-! the law: its loop -/
section SC
variable {i pc nx a b : Nat} {ws : List Nat} {cv : Value} {lv : List (Option Value)} {st : List Value} {Z : ZW} {J : Int64} {Φ : ZΦ} {L : Nat} {xs : Nat → Int32}
theorem z_slen (hf : fetch i pc = some (.arraylength, nx, a, b, ws, cv)) (h : OkZ (some (L, xs)) i nx lv (.int (I (L : Int)) :: st) Z J Φ) : OkZ (some (L, xs)) i pc lv (.ref 1000 :: st) Z J Φ := by
  intro p l e R s m args below meth c H locs cells slots Q D aC o ls C hsc ho hR hS hl hc hk
  obtain ⟨hd, rfl, -⟩ := ck_dec hf rfl
  have hsc2 := hsc
  obtain ⟨hX, hb1, hb2⟩ := hsc2
  have e2 : tr o (.ref 1000) = .ref o.2 := by simp [tr]
  show W p l e R s m args below meth c H locs cells slots Q (F0 m pc ls (tr o (.ref 1000) :: st.map (tr o)))
  rw [e2]
  exact va_slen C.1 C.2.1 hX hb1 (show ¬ Up o o.2 by unfold Up; omega) hS hd (h p l e R s m args below meth c H locs cells slots Q D aC o ls C hsc ho hR hS hl hc hk)
theorem z_sld {x : Int} (hL : L < 2147483648) (hf : fetch i pc = some (.iaload, nx, a, b, ws, cv)) (hx : 0 ≤ x ∧ x < L) (h : OkZ (some (L, xs)) i nx lv (.int (I (xs x.toNat).toInt) :: st) Z J Φ) : OkZ (some (L, xs)) i pc lv (.int (I x) :: .ref 1000 :: st) Z J Φ := by
  intro p l e R s m args below meth c H locs cells slots Q D aC o ls C hsc ho hR hS hl hc hk
  obtain ⟨hd, rfl, -⟩ := ck_dec hf rfl
  have hsc2 := hsc
  obtain ⟨hX, hb1, hb2⟩ := hsc2
  have e2 : tr o (.ref 1000) = .ref o.2 := by simp [tr]
  show W p l e R s m args below meth c H locs cells slots Q (F0 m pc ls (.int (I x) :: tr o (.ref 1000) :: st.map (tr o)))
  rw [e2]
  refine va_sld C.1 C.2.1 hX hb1 (show ¬ Up o o.2 by unfold Up; omega) hS (I_in hx.1 hx.2 hL) hd ?_
  rw [I_nat hx.1 (by omega), ← I_of (xs x.toNat)]
  exact h p l e R s m args below meth c H locs cells slots Q D aC o ls C hsc ho hR hS hl hc hk
end SC
theorem and31 (x : Int32) : ∃ v : Int, x &&& I 31 = I v ∧ 0 ≤ v ∧ v ≤ 31 := by
  refine ⟨(x &&& I 31).toInt, (I_of _).symm, ?_⟩
  have e : (x &&& I 31).toBitVec.toNat ≤ 31 := by
    rw [Int32.toBitVec_and, BitVec.toNat_and]
    exact Nat.and_le_right
  have h : (x &&& I 31).toInt = ((x &&& I 31).toBitVec.toNat : Int) := by
    show (x &&& I 31).toBitVec.toInt = _
    exact BitVec.toInt_eq_toNat_of_lt (by omega)
  omega
theorem lcmp_same (v : Int64) : lg_cmp v v = 0 := by
  unfold lg_cmp
  rw [if_neg Int64.lt_irrefl, if_pos rfl]
theorem law_0 {Z : ZW} {J : Int64} {Φ : ZΦ} {L : Nat} {xs : Nat → Int32} {t : Int} (hL : L ≤ 1536) (ht : 0 ≤ t ∧ t ≤ (L : Int) - 3) (hI : INV Z) (hk : ∀ Z' J', INV Z' → OkZ (some (L, xs)) 154 604 [some (.ref 1000), some (.ref 0), some (.ref 64), some (.int (I t))] [] Z' J' Φ) : OkZ (some (L, xs)) 154 148 [some (.ref 1000), some (.ref 0), some (.ref 64), some (.int (I t))] [] Z J Φ := by
  have hp := p_append (J := J) (x := (xs (t + 1).toNat).toInt) hI (RG_of _)
  refine z_aload_n rfl rfl ?_
  refine z_aload_n rfl rfl ?_
  refine z_iload_n rfl rfl ?_
  refine z_iconst rfl ?_
  refine z_iadd rfl ?_
  refine z_sld (by omega) rfl (by omega) ?_
  refine z_callV1g rfl rfl rfl rfl rfl rfl hp (fun r Z1 J1 q => ?_)
  obtain ⟨v, rfl, hM⟩ := q
  show OkZ (some (L, xs)) 154 157 _ [.int v] _ _ _
  refine z_aload_n rfl rfl ?_
  refine z_aload_n rfl rfl ?_
  refine z_iload_n rfl rfl ?_
  refine z_iconst rfl ?_
  refine z_iadd rfl ?_
  refine z_sld (by omega) rfl (by omega) ?_
  refine z_callV1g rfl rfl rfl rfl rfl rfl hM (fun r2 Z2 J2 q2 => ?_)
  obtain ⟨rfl, hI2⟩ := q2
  show OkZ (some (L, xs)) 154 166 _ [.int v, .int v] _ _ _
  refine z_rcmp_eq rfl (fun _ => ?_) (fun h => absurd rfl h)
  exact hk _ _ hI2
theorem law_1 {Z : ZW} {J : Int64} {Φ : ZΦ} {L : Nat} {xs : Nat → Int32} {t : Int} (hL : L ≤ 1536) (ht : 0 ≤ t ∧ t ≤ (L : Int) - 3) (hI : INV Z) (hk : ∀ Z' J', INV Z' → OkZ (some (L, xs)) 154 604 [some (.ref 1000), some (.ref 0), some (.ref 64), some (.int (I t))] [] Z' J' Φ) : OkZ (some (L, xs)) 154 171 [some (.ref 1000), some (.ref 0), some (.ref 64), some (.int (I t))] [] Z J Φ := by
  have hp := p_clearText (J := J) hI
  refine z_aload_n rfl rfl ?_
  refine z_callV0g rfl rfl rfl rfl rfl rfl hp (fun r Z1 J1 q => ?_)
  obtain ⟨v, rfl, hM⟩ := q
  show OkZ (some (L, xs)) 154 175 _ [.int v] _ _ _
  refine z_aload_n rfl rfl ?_
  refine z_callV0g rfl rfl rfl rfl rfl rfl hM (fun r2 Z2 J2 q2 => ?_)
  obtain ⟨rfl, hI2⟩ := q2
  show OkZ (some (L, xs)) 154 179 _ [.int v, .int v] _ _ _
  refine z_rcmp_eq rfl (fun _ => ?_) (fun h => absurd rfl h)
  exact hk _ _ hI2
theorem law_2 {Z : ZW} {J : Int64} {Φ : ZΦ} {L : Nat} {xs : Nat → Int32} {t : Int} (hL : L ≤ 1536) (ht : 0 ≤ t ∧ t ≤ (L : Int) - 3) (hI : INV Z) (hk : ∀ Z' J', INV Z' → OkZ (some (L, xs)) 154 604 [some (.ref 1000), some (.ref 0), some (.ref 64), some (.int (I t))] [] Z' J' Φ) : OkZ (some (L, xs)) 154 184 [some (.ref 1000), some (.ref 0), some (.ref 64), some (.int (I t))] [] Z J Φ := by
  have hp := p_assemble (J := J) hI
  refine z_aload_n rfl rfl ?_
  refine z_callV0g rfl rfl rfl rfl rfl rfl hp (fun r Z1 J1 q => ?_)
  obtain ⟨v, rfl, hM⟩ := q
  show OkZ (some (L, xs)) 154 188 _ [.int v] _ _ _
  refine z_aload_n rfl rfl ?_
  refine z_callV0g rfl rfl rfl rfl rfl rfl hM (fun r2 Z2 J2 q2 => ?_)
  obtain ⟨rfl, hI2⟩ := q2
  show OkZ (some (L, xs)) 154 192 _ [.int v, .int v] _ _ _
  refine z_rcmp_eq rfl (fun _ => ?_) (fun h => absurd rfl h)
  exact hk _ _ hI2
theorem law_3 {Z : ZW} {J : Int64} {Φ : ZΦ} {L : Nat} {xs : Nat → Int32} {t : Int} (hL : L ≤ 1536) (ht : 0 ≤ t ∧ t ≤ (L : Int) - 3) (hI : INV Z) (hk : ∀ Z' J', INV Z' → OkZ (some (L, xs)) 154 604 [some (.ref 1000), some (.ref 0), some (.ref 64), some (.int (I t))] [] Z' J' Φ) : OkZ (some (L, xs)) 154 197 [some (.ref 1000), some (.ref 0), some (.ref 64), some (.int (I t))] [] Z J Φ := by
  have hp := p_setCost (J := J) (x := (xs (t + 1).toNat).toInt) (c := (xs (t + 2).toNat).toInt) hI (RG_of _) (RG_of _)
  refine z_aload_n rfl rfl ?_
  refine z_aload_n rfl rfl ?_
  refine z_iload_n rfl rfl ?_
  refine z_iconst rfl ?_
  refine z_iadd rfl ?_
  refine z_sld (by omega) rfl (by omega) ?_
  refine z_aload_n rfl rfl ?_
  refine z_iload_n rfl rfl ?_
  refine z_iconst rfl ?_
  refine z_iadd rfl ?_
  refine z_sld (by omega) rfl (by omega) ?_
  refine z_callV2g rfl rfl rfl rfl rfl rfl hp (fun r Z1 J1 q => ?_)
  obtain ⟨v, rfl, hM⟩ := q
  show OkZ (some (L, xs)) 154 211 _ [.int v] _ _ _
  refine z_aload_n rfl rfl ?_
  refine z_aload_n rfl rfl ?_
  refine z_iload_n rfl rfl ?_
  refine z_iconst rfl ?_
  refine z_iadd rfl ?_
  refine z_sld (by omega) rfl (by omega) ?_
  refine z_aload_n rfl rfl ?_
  refine z_iload_n rfl rfl ?_
  refine z_iconst rfl ?_
  refine z_iadd rfl ?_
  refine z_sld (by omega) rfl (by omega) ?_
  refine z_callV2g rfl rfl rfl rfl rfl rfl hM (fun r2 Z2 J2 q2 => ?_)
  obtain ⟨rfl, hI2⟩ := q2
  show OkZ (some (L, xs)) 154 225 _ [.int v, .int v] _ _ _
  refine z_rcmp_eq rfl (fun _ => ?_) (fun h => absurd rfl h)
  exact hk _ _ hI2
theorem law_4 {Z : ZW} {J : Int64} {Φ : ZΦ} {L : Nat} {xs : Nat → Int32} {t : Int} (hL : L ≤ 1536) (ht : 0 ≤ t ∧ t ≤ (L : Int) - 3) (hI : INV Z) (hk : ∀ Z' J', INV Z' → OkZ (some (L, xs)) 154 604 [some (.ref 1000), some (.ref 0), some (.ref 64), some (.int (I t))] [] Z' J' Φ) : OkZ (some (L, xs)) 154 230 [some (.ref 1000), some (.ref 0), some (.ref 64), some (.int (I t))] [] Z J Φ := by
  have hp := p_opcode (J := J) (x := (xs (t + 1).toNat).toInt) hI (RG_of _)
  refine z_aload_n rfl rfl ?_
  refine z_aload_n rfl rfl ?_
  refine z_iload_n rfl rfl ?_
  refine z_iconst rfl ?_
  refine z_iadd rfl ?_
  refine z_sld (by omega) rfl (by omega) ?_
  refine z_callV1g rfl rfl rfl rfl rfl rfl hp (fun r Z1 J1 q => ?_)
  obtain ⟨v, rfl, hM⟩ := q
  show OkZ (some (L, xs)) 154 239 _ [.int v] _ _ _
  refine z_aload_n rfl rfl ?_
  refine z_aload_n rfl rfl ?_
  refine z_iload_n rfl rfl ?_
  refine z_iconst rfl ?_
  refine z_iadd rfl ?_
  refine z_sld (by omega) rfl (by omega) ?_
  refine z_callV1g rfl rfl rfl rfl rfl rfl hM (fun r2 Z2 J2 q2 => ?_)
  obtain ⟨rfl, hI2⟩ := q2
  show OkZ (some (L, xs)) 154 248 _ [.int v, .int v] _ _ _
  refine z_rcmp_eq rfl (fun _ => ?_) (fun h => absurd rfl h)
  exact hk _ _ hI2
theorem law_5 {Z : ZW} {J : Int64} {Φ : ZΦ} {L : Nat} {xs : Nat → Int32} {t : Int} (hL : L ≤ 1536) (ht : 0 ≤ t ∧ t ≤ (L : Int) - 3) (hI : INV Z) (hk : ∀ Z' J', INV Z' → OkZ (some (L, xs)) 154 604 [some (.ref 1000), some (.ref 0), some (.ref 64), some (.int (I t))] [] Z' J' Φ) : OkZ (some (L, xs)) 154 253 [some (.ref 1000), some (.ref 0), some (.ref 64), some (.int (I t))] [] Z J Φ := by
  have hp := p_blocks (J := J) hI
  refine z_aload_n rfl rfl ?_
  refine z_callV0g rfl rfl rfl rfl rfl rfl hp (fun r Z1 J1 q => ?_)
  obtain ⟨v, rfl, hM⟩ := q
  show OkZ (some (L, xs)) 154 257 _ [.int v] _ _ _
  refine z_aload_n rfl rfl ?_
  refine z_callV0g rfl rfl rfl rfl rfl rfl hM (fun r2 Z2 J2 q2 => ?_)
  obtain ⟨rfl, hI2⟩ := q2
  show OkZ (some (L, xs)) 154 261 _ [.int v, .int v] _ _ _
  refine z_rcmp_eq rfl (fun _ => ?_) (fun h => absurd rfl h)
  exact hk _ _ hI2
theorem law_6 {Z : ZW} {J : Int64} {Φ : ZΦ} {L : Nat} {xs : Nat → Int32} {t : Int} (hL : L ≤ 1536) (ht : 0 ≤ t ∧ t ≤ (L : Int) - 3) (hI : INV Z) (hk : ∀ Z' J', INV Z' → OkZ (some (L, xs)) 154 604 [some (.ref 1000), some (.ref 0), some (.ref 64), some (.int (I t))] [] Z' J' Φ) : OkZ (some (L, xs)) 154 266 [some (.ref 1000), some (.ref 0), some (.ref 64), some (.int (I t))] [] Z J Φ := by
  have hp := p_blockOf (J := J) (x := (xs (t + 1).toNat).toInt) hI (RG_of _)
  refine z_aload_n rfl rfl ?_
  refine z_aload_n rfl rfl ?_
  refine z_iload_n rfl rfl ?_
  refine z_iconst rfl ?_
  refine z_iadd rfl ?_
  refine z_sld (by omega) rfl (by omega) ?_
  refine z_callV1g rfl rfl rfl rfl rfl rfl hp (fun r Z1 J1 q => ?_)
  obtain ⟨v, rfl, hM⟩ := q
  show OkZ (some (L, xs)) 154 275 _ [.int v] _ _ _
  refine z_aload_n rfl rfl ?_
  refine z_aload_n rfl rfl ?_
  refine z_iload_n rfl rfl ?_
  refine z_iconst rfl ?_
  refine z_iadd rfl ?_
  refine z_sld (by omega) rfl (by omega) ?_
  refine z_callV1g rfl rfl rfl rfl rfl rfl hM (fun r2 Z2 J2 q2 => ?_)
  obtain ⟨rfl, hI2⟩ := q2
  show OkZ (some (L, xs)) 154 284 _ [.int v, .int v] _ _ _
  refine z_rcmp_eq rfl (fun _ => ?_) (fun h => absurd rfl h)
  exact hk _ _ hI2
theorem law_7 {Z : ZW} {J : Int64} {Φ : ZΦ} {L : Nat} {xs : Nat → Int32} {t : Int} (hL : L ≤ 1536) (ht : 0 ≤ t ∧ t ≤ (L : Int) - 3) (hI : INV Z) (hk : ∀ Z' J', INV Z' → OkZ (some (L, xs)) 154 604 [some (.ref 1000), some (.ref 0), some (.ref 64), some (.int (I t))] [] Z' J' Φ) : OkZ (some (L, xs)) 154 289 [some (.ref 1000), some (.ref 0), some (.ref 64), some (.int (I t))] [] Z J Φ := by
  have hp := p_successors (J := J) (x := (xs (t + 1).toNat).toInt) hI (RG_of _)
  refine z_aload_n rfl rfl ?_
  refine z_aload_n rfl rfl ?_
  refine z_iload_n rfl rfl ?_
  refine z_iconst rfl ?_
  refine z_iadd rfl ?_
  refine z_sld (by omega) rfl (by omega) ?_
  refine z_callV1g rfl rfl rfl rfl rfl rfl hp (fun r Z1 J1 q => ?_)
  obtain ⟨v, rfl, hM⟩ := q
  show OkZ (some (L, xs)) 154 298 _ [.int v] _ _ _
  refine z_aload_n rfl rfl ?_
  refine z_aload_n rfl rfl ?_
  refine z_iload_n rfl rfl ?_
  refine z_iconst rfl ?_
  refine z_iadd rfl ?_
  refine z_sld (by omega) rfl (by omega) ?_
  refine z_callV1g rfl rfl rfl rfl rfl rfl hM (fun r2 Z2 J2 q2 => ?_)
  obtain ⟨rfl, hI2⟩ := q2
  show OkZ (some (L, xs)) 154 307 _ [.int v, .int v] _ _ _
  refine z_rcmp_eq rfl (fun _ => ?_) (fun h => absurd rfl h)
  exact hk _ _ hI2
theorem law_8 {Z : ZW} {J : Int64} {Φ : ZΦ} {L : Nat} {xs : Nat → Int32} {t : Int} (hL : L ≤ 1536) (ht : 0 ≤ t ∧ t ≤ (L : Int) - 3) (hI : INV Z) (hk : ∀ Z' J', INV Z' → OkZ (some (L, xs)) 154 604 [some (.ref 1000), some (.ref 0), some (.ref 64), some (.int (I t))] [] Z' J' Φ) : OkZ (some (L, xs)) 154 312 [some (.ref 1000), some (.ref 0), some (.ref 64), some (.int (I t))] [] Z J Φ := by
  have hp := p_blockCost (J := J) (x := (xs (t + 1).toNat).toInt) hI (RG_of _)
  refine z_aload_n rfl rfl ?_
  refine z_aload_n rfl rfl ?_
  refine z_iload_n rfl rfl ?_
  refine z_iconst rfl ?_
  refine z_iadd rfl ?_
  refine z_sld (by omega) rfl (by omega) ?_
  refine z_callV1g rfl rfl rfl rfl rfl rfl hp (fun r Z1 J1 q => ?_)
  obtain ⟨v, rfl, hM⟩ := q
  show OkZ (some (L, xs)) 154 321 _ [.int v] _ _ _
  refine z_aload_n rfl rfl ?_
  refine z_aload_n rfl rfl ?_
  refine z_iload_n rfl rfl ?_
  refine z_iconst rfl ?_
  refine z_iadd rfl ?_
  refine z_sld (by omega) rfl (by omega) ?_
  refine z_callV1g rfl rfl rfl rfl rfl rfl hM (fun r2 Z2 J2 q2 => ?_)
  obtain ⟨rfl, hI2⟩ := q2
  show OkZ (some (L, xs)) 154 330 _ [.int v, .int v] _ _ _
  refine z_rcmp_eq rfl (fun _ => ?_) (fun h => absurd rfl h)
  exact hk _ _ hI2
theorem law_9 {Z : ZW} {J : Int64} {Φ : ZΦ} {L : Nat} {xs : Nat → Int32} {t : Int} (hL : L ≤ 1536) (ht : 0 ≤ t ∧ t ≤ (L : Int) - 3) (hI : INV Z) (hk : ∀ Z' J', INV Z' → OkZ (some (L, xs)) 154 604 [some (.ref 1000), some (.ref 0), some (.ref 64), some (.int (I t))] [] Z' J' Φ) : OkZ (some (L, xs)) 154 335 [some (.ref 1000), some (.ref 0), some (.ref 64), some (.int (I t))] [] Z J Φ := by
  have hp := p_chainHead (J := J) (x := (xs (t + 1).toNat).toInt) hI (RG_of _)
  refine z_aload_n rfl rfl ?_
  refine z_aload_n rfl rfl ?_
  refine z_iload_n rfl rfl ?_
  refine z_iconst rfl ?_
  refine z_iadd rfl ?_
  refine z_sld (by omega) rfl (by omega) ?_
  refine z_callV1g rfl rfl rfl rfl rfl rfl hp (fun r Z1 J1 q => ?_)
  obtain ⟨v, rfl, hM⟩ := q
  show OkZ (some (L, xs)) 154 344 _ [.int v] _ _ _
  refine z_aload_n rfl rfl ?_
  refine z_aload_n rfl rfl ?_
  refine z_iload_n rfl rfl ?_
  refine z_iconst rfl ?_
  refine z_iadd rfl ?_
  refine z_sld (by omega) rfl (by omega) ?_
  refine z_callV1g rfl rfl rfl rfl rfl rfl hM (fun r2 Z2 J2 q2 => ?_)
  obtain ⟨rfl, hI2⟩ := q2
  show OkZ (some (L, xs)) 154 353 _ [.int v, .int v] _ _ _
  refine z_rcmp_eq rfl (fun _ => ?_) (fun h => absurd rfl h)
  exact hk _ _ hI2
theorem law_10 {Z : ZW} {J : Int64} {Φ : ZΦ} {L : Nat} {xs : Nat → Int32} {t : Int} (hL : L ≤ 1536) (ht : 0 ≤ t ∧ t ≤ (L : Int) - 3) (hI : INV Z) (hk : ∀ Z' J', INV Z' → OkZ (some (L, xs)) 154 604 [some (.ref 1000), some (.ref 0), some (.ref 64), some (.int (I t))] [] Z' J' Φ) : OkZ (some (L, xs)) 154 358 [some (.ref 1000), some (.ref 0), some (.ref 64), some (.int (I t))] [] Z J Φ := by
  have hp := p_chainCost (J := J) (x := (xs (t + 1).toNat).toInt) hI (RG_of _)
  refine z_aload_n rfl rfl ?_
  refine z_aload_n rfl rfl ?_
  refine z_iload_n rfl rfl ?_
  refine z_iconst rfl ?_
  refine z_iadd rfl ?_
  refine z_sld (by omega) rfl (by omega) ?_
  refine z_callV1g rfl rfl rfl rfl rfl rfl hp (fun r Z1 J1 q => ?_)
  obtain ⟨v, rfl, hM⟩ := q
  show OkZ (some (L, xs)) 154 367 _ [.int v] _ _ _
  refine z_aload_n rfl rfl ?_
  refine z_aload_n rfl rfl ?_
  refine z_iload_n rfl rfl ?_
  refine z_iconst rfl ?_
  refine z_iadd rfl ?_
  refine z_sld (by omega) rfl (by omega) ?_
  refine z_callV1g rfl rfl rfl rfl rfl rfl hM (fun r2 Z2 J2 q2 => ?_)
  obtain ⟨rfl, hI2⟩ := q2
  show OkZ (some (L, xs)) 154 376 _ [.int v, .int v] _ _ _
  refine z_rcmp_eq rfl (fun _ => ?_) (fun h => absurd rfl h)
  exact hk _ _ hI2
theorem law_11 {Z : ZW} {J : Int64} {Φ : ZΦ} {L : Nat} {xs : Nat → Int32} {t : Int} (hL : L ≤ 1536) (ht : 0 ≤ t ∧ t ≤ (L : Int) - 3) (hI : INV Z) (hk : ∀ Z' J', INV Z' → OkZ (some (L, xs)) 154 604 [some (.ref 1000), some (.ref 0), some (.ref 64), some (.int (I t))] [] Z' J' Φ) : OkZ (some (L, xs)) 154 381 [some (.ref 1000), some (.ref 0), some (.ref 64), some (.int (I t))] [] Z J Φ := by
  have hp := p_reachable (J := J) hI
  refine z_aload_n rfl rfl ?_
  refine z_callV0g rfl rfl rfl rfl rfl rfl hp (fun r Z1 J1 q => ?_)
  obtain ⟨v, rfl, hM⟩ := q
  show OkZ (some (L, xs)) 154 385 _ [.int v] _ _ _
  refine z_aload_n rfl rfl ?_
  refine z_callV0g rfl rfl rfl rfl rfl rfl hM (fun r2 Z2 J2 q2 => ?_)
  obtain ⟨rfl, hI2⟩ := q2
  show OkZ (some (L, xs)) 154 389 _ [.int v, .int v] _ _ _
  refine z_rcmp_eq rfl (fun _ => ?_) (fun h => absurd rfl h)
  exact hk _ _ hI2
theorem law_12 {Z : ZW} {J : Int64} {Φ : ZΦ} {L : Nat} {xs : Nat → Int32} {t : Int} (hL : L ≤ 1536) (ht : 0 ≤ t ∧ t ≤ (L : Int) - 3) (hI : INV Z) (hk : ∀ Z' J', INV Z' → OkZ (some (L, xs)) 154 604 [some (.ref 1000), some (.ref 0), some (.ref 64), some (.int (I t))] [] Z' J' Φ) : OkZ (some (L, xs)) 154 394 [some (.ref 1000), some (.ref 0), some (.ref 64), some (.int (I t))] [] Z J Φ := by
  have hp := p_greatest (J := J) hI
  refine z_aload_n rfl rfl ?_
  refine z_callV0g rfl rfl rfl rfl rfl rfl hp (fun r Z1 J1 q => ?_)
  obtain ⟨v, rfl, hM⟩ := q
  show OkZ (some (L, xs)) 154 398 _ [.int v] _ _ _
  refine z_aload_n rfl rfl ?_
  refine z_callV0g rfl rfl rfl rfl rfl rfl hM (fun r2 Z2 J2 q2 => ?_)
  obtain ⟨rfl, hI2⟩ := q2
  show OkZ (some (L, xs)) 154 402 _ [.int v, .int v] _ _ _
  refine z_rcmp_eq rfl (fun _ => ?_) (fun h => absurd rfl h)
  exact hk _ _ hI2
theorem law_13 {Z : ZW} {J : Int64} {Φ : ZΦ} {L : Nat} {xs : Nat → Int32} {t : Int} (hL : L ≤ 1536) (ht : 0 ≤ t ∧ t ≤ (L : Int) - 3) (hI : INV Z) (hk : ∀ Z' J', INV Z' → OkZ (some (L, xs)) 154 604 [some (.ref 1000), some (.ref 0), some (.ref 64), some (.int (I t))] [] Z' J' Φ) : OkZ (some (L, xs)) 154 407 [some (.ref 1000), some (.ref 0), some (.ref 64), some (.int (I t))] [] Z J Φ := by
  have hp := p_least (J := J) hI
  refine z_aload_n rfl rfl ?_
  refine z_callV0g rfl rfl rfl rfl rfl rfl hp (fun r Z1 J1 q => ?_)
  obtain ⟨v, rfl, hM⟩ := q
  show OkZ (some (L, xs)) 154 411 _ [.int v] _ _ _
  refine z_aload_n rfl rfl ?_
  refine z_callV0g rfl rfl rfl rfl rfl rfl hM (fun r2 Z2 J2 q2 => ?_)
  obtain ⟨rfl, hI2⟩ := q2
  show OkZ (some (L, xs)) 154 415 _ [.int v, .int v] _ _ _
  refine z_rcmp_eq rfl (fun _ => ?_) (fun h => absurd rfl h)
  exact hk _ _ hI2
theorem law_14 {Z : ZW} {J : Int64} {Φ : ZΦ} {L : Nat} {xs : Nat → Int32} {t : Int} (hL : L ≤ 1536) (ht : 0 ≤ t ∧ t ≤ (L : Int) - 3) (hI : INV Z) (hk : ∀ Z' J', INV Z' → OkZ (some (L, xs)) 154 604 [some (.ref 1000), some (.ref 0), some (.ref 64), some (.int (I t))] [] Z' J' Φ) : OkZ (some (L, xs)) 154 420 [some (.ref 1000), some (.ref 0), some (.ref 64), some (.int (I t))] [] Z J Φ := by
  have hp := p_run (J := J) (m := (xs (t + 1).toNat).toInt) (bu := (xs (t + 2).toNat).toInt) hI (RG_of _) (RG_of _)
  refine z_aload_n rfl rfl ?_
  refine z_aload_n rfl rfl ?_
  refine z_iload_n rfl rfl ?_
  refine z_iconst rfl ?_
  refine z_iadd rfl ?_
  refine z_sld (by omega) rfl (by omega) ?_
  refine z_aload_n rfl rfl ?_
  refine z_iload_n rfl rfl ?_
  refine z_iconst rfl ?_
  refine z_iadd rfl ?_
  refine z_sld (by omega) rfl (by omega) ?_
  refine z_callV2g rfl rfl rfl rfl rfl rfl hp (fun r Z1 J1 q => ?_)
  obtain ⟨v, rfl, hM⟩ := q
  show OkZ (some (L, xs)) 154 434 _ [.int v] _ _ _
  refine z_aload_n rfl rfl ?_
  refine z_aload_n rfl rfl ?_
  refine z_iload_n rfl rfl ?_
  refine z_iconst rfl ?_
  refine z_iadd rfl ?_
  refine z_sld (by omega) rfl (by omega) ?_
  refine z_aload_n rfl rfl ?_
  refine z_iload_n rfl rfl ?_
  refine z_iconst rfl ?_
  refine z_iadd rfl ?_
  refine z_sld (by omega) rfl (by omega) ?_
  refine z_callV2g rfl rfl rfl rfl rfl rfl hM (fun r2 Z2 J2 q2 => ?_)
  obtain ⟨rfl, hI2⟩ := q2
  show OkZ (some (L, xs)) 154 448 _ [.int v, .int v] _ _ _
  refine z_rcmp_eq rfl (fun _ => ?_) (fun h => absurd rfl h)
  exact hk _ _ hI2
theorem law_15 {Z : ZW} {J : Int64} {Φ : ZΦ} {L : Nat} {xs : Nat → Int32} {t : Int} (hL : L ≤ 1536) (ht : 0 ≤ t ∧ t ≤ (L : Int) - 3) (hI : INV Z) (hk : ∀ Z' J', INV Z' → OkZ (some (L, xs)) 154 604 [some (.ref 1000), some (.ref 0), some (.ref 64), some (.int (I t))] [] Z' J' Φ) : OkZ (some (L, xs)) 154 453 [some (.ref 1000), some (.ref 0), some (.ref 64), some (.int (I t))] [] Z J Φ := by
  have hp := p_steps (J := J) hI
  refine z_aload_n rfl rfl ?_
  refine z_callV0g rfl rfl rfl rfl rfl rfl hp (fun r Z1 J1 q => ?_)
  obtain ⟨v, rfl, hM⟩ := q
  show OkZ (some (L, xs)) 154 457 _ [.int v] _ _ _
  refine z_aload_n rfl rfl ?_
  refine z_callV0g rfl rfl rfl rfl rfl rfl hM (fun r2 Z2 J2 q2 => ?_)
  obtain ⟨rfl, hI2⟩ := q2
  show OkZ (some (L, xs)) 154 461 _ [.int v, .int v] _ _ _
  refine z_rcmp_eq rfl (fun _ => ?_) (fun h => absurd rfl h)
  exact hk _ _ hI2
theorem law_16 {Z : ZW} {J : Int64} {Φ : ZΦ} {L : Nat} {xs : Nat → Int32} {t : Int} (hL : L ≤ 1536) (ht : 0 ≤ t ∧ t ≤ (L : Int) - 3) (hI : INV Z) (hk : ∀ Z' J', INV Z' → OkZ (some (L, xs)) 154 604 [some (.ref 1000), some (.ref 0), some (.ref 64), some (.int (I t))] [] Z' J' Φ) : OkZ (some (L, xs)) 154 466 [some (.ref 1000), some (.ref 0), some (.ref 64), some (.int (I t))] [] Z J Φ := by
  have hp := p_remaining (J := J) hI
  refine z_aload_n rfl rfl ?_
  refine z_callV0g rfl rfl rfl rfl rfl rfl hp (fun r Z1 J1 q => ?_)
  obtain ⟨v, rfl, hM⟩ := q
  show OkZ (some (L, xs)) 154 470 _ [.int v] _ _ _
  refine z_aload_n rfl rfl ?_
  refine z_callV0g rfl rfl rfl rfl rfl rfl hM (fun r2 Z2 J2 q2 => ?_)
  obtain ⟨rfl, hI2⟩ := q2
  show OkZ (some (L, xs)) 154 474 _ [.int v, .int v] _ _ _
  refine z_rcmp_eq rfl (fun _ => ?_) (fun h => absurd rfl h)
  exact hk _ _ hI2
theorem law_17 {Z : ZW} {J : Int64} {Φ : ZΦ} {L : Nat} {xs : Nat → Int32} {t : Int} (hL : L ≤ 1536) (ht : 0 ≤ t ∧ t ≤ (L : Int) - 3) (hI : INV Z) (hk : ∀ Z' J', INV Z' → OkZ (some (L, xs)) 154 604 [some (.ref 1000), some (.ref 0), some (.ref 64), some (.int (I t))] [] Z' J' Φ) : OkZ (some (L, xs)) 154 479 [some (.ref 1000), some (.ref 0), some (.ref 64), some (.int (I t))] [] Z J Φ := by
  have hp := p_charges (J := J) hI
  refine z_aload_n rfl rfl ?_
  refine z_callV0g rfl rfl rfl rfl rfl rfl hp (fun r Z1 J1 q => ?_)
  obtain ⟨v, rfl, hM⟩ := q
  show OkZ (some (L, xs)) 154 483 _ [.int v] _ _ _
  refine z_aload_n rfl rfl ?_
  refine z_callV0g rfl rfl rfl rfl rfl rfl hM (fun r2 Z2 J2 q2 => ?_)
  obtain ⟨rfl, hI2⟩ := q2
  show OkZ (some (L, xs)) 154 487 _ [.int v, .int v] _ _ _
  refine z_rcmp_eq rfl (fun _ => ?_) (fun h => absurd rfl h)
  exact hk _ _ hI2
theorem law_18 {Z : ZW} {J : Int64} {Φ : ZΦ} {L : Nat} {xs : Nat → Int32} {t : Int} (hL : L ≤ 1536) (ht : 0 ≤ t ∧ t ≤ (L : Int) - 3) (hI : INV Z) (hk : ∀ Z' J', INV Z' → OkZ (some (L, xs)) 154 604 [some (.ref 1000), some (.ref 0), some (.ref 64), some (.int (I t))] [] Z' J' Φ) : OkZ (some (L, xs)) 154 492 [some (.ref 1000), some (.ref 0), some (.ref 64), some (.int (I t))] [] Z J Φ := by
  have hp := p_register (J := J) (x := (xs (t + 1).toNat).toInt) hI (RG_of _)
  refine z_aload_n rfl rfl ?_
  refine z_aload_n rfl rfl ?_
  refine z_iload_n rfl rfl ?_
  refine z_iconst rfl ?_
  refine z_iadd rfl ?_
  refine z_sld (by omega) rfl (by omega) ?_
  refine z_callV1g rfl rfl rfl rfl rfl rfl hp (fun r Z1 J1 q => ?_)
  obtain ⟨v, rfl, hM⟩ := q
  show OkZ (some (L, xs)) 154 501 _ [.int v] _ _ _
  refine z_aload_n rfl rfl ?_
  refine z_aload_n rfl rfl ?_
  refine z_iload_n rfl rfl ?_
  refine z_iconst rfl ?_
  refine z_iadd rfl ?_
  refine z_sld (by omega) rfl (by omega) ?_
  refine z_callV1g rfl rfl rfl rfl rfl rfl hM (fun r2 Z2 J2 q2 => ?_)
  obtain ⟨rfl, hI2⟩ := q2
  show OkZ (some (L, xs)) 154 510 _ [.int v, .int v] _ _ _
  refine z_rcmp_eq rfl (fun _ => ?_) (fun h => absurd rfl h)
  exact hk _ _ hI2
theorem law_19 {Z : ZW} {J : Int64} {Φ : ZΦ} {L : Nat} {xs : Nat → Int32} {t : Int} (hL : L ≤ 1536) (ht : 0 ≤ t ∧ t ≤ (L : Int) - 3) (hI : INV Z) (hk : ∀ Z' J', INV Z' → OkZ (some (L, xs)) 154 604 [some (.ref 1000), some (.ref 0), some (.ref 64), some (.int (I t))] [] Z' J' Φ) : OkZ (some (L, xs)) 154 515 [some (.ref 1000), some (.ref 0), some (.ref 64), some (.int (I t))] [] Z J Φ := by
  have hp := p_stoppedAt (J := J) hI
  refine z_aload_n rfl rfl ?_
  refine z_callV0g rfl rfl rfl rfl rfl rfl hp (fun r Z1 J1 q => ?_)
  obtain ⟨v, rfl, hM⟩ := q
  show OkZ (some (L, xs)) 154 519 _ [.int v] _ _ _
  refine z_aload_n rfl rfl ?_
  refine z_callV0g rfl rfl rfl rfl rfl rfl hM (fun r2 Z2 J2 q2 => ?_)
  obtain ⟨rfl, hI2⟩ := q2
  show OkZ (some (L, xs)) 154 523 _ [.int v, .int v] _ _ _
  refine z_rcmp_eq rfl (fun _ => ?_) (fun h => absurd rfl h)
  exact hk _ _ hI2
theorem law_20 {Z : ZW} {J : Int64} {Φ : ZΦ} {L : Nat} {xs : Nat → Int32} {t : Int} (hL : L ≤ 1536) (ht : 0 ≤ t ∧ t ≤ (L : Int) - 3) (hI : INV Z) (hk : ∀ Z' J', INV Z' → OkZ (some (L, xs)) 154 604 [some (.ref 1000), some (.ref 0), some (.ref 64), some (.int (I t))] [] Z' J' Φ) : OkZ (some (L, xs)) 154 528 [some (.ref 1000), some (.ref 0), some (.ref 64), some (.int (I t))] [] Z J Φ := by
  have hp := p_chargeRate (J := J) hI
  refine z_aload_n rfl rfl ?_
  refine z_callV0g rfl rfl rfl rfl rfl rfl hp (fun r Z1 J1 q => ?_)
  obtain ⟨v, rfl, hM⟩ := q
  show OkZ (some (L, xs)) 154 532 _ [.int v] _ _ _
  refine z_aload_n rfl rfl ?_
  refine z_callV0g rfl rfl rfl rfl rfl rfl hM (fun r2 Z2 J2 q2 => ?_)
  obtain ⟨rfl, hI2⟩ := q2
  show OkZ (some (L, xs)) 154 536 _ [.int v, .int v] _ _ _
  refine z_rcmp_eq rfl (fun _ => ?_) (fun h => absurd rfl h)
  exact hk _ _ hI2
theorem law_21 {Z : ZW} {J : Int64} {Φ : ZΦ} {L : Nat} {xs : Nat → Int32} {t : Int} (hL : L ≤ 1536) (ht : 0 ≤ t ∧ t ≤ (L : Int) - 3) (hI : INV Z) (hk : ∀ Z' J', INV Z' → OkZ (some (L, xs)) 154 604 [some (.ref 1000), some (.ref 0), some (.ref 64), some (.int (I t))] [] Z' J' Φ) : OkZ (some (L, xs)) 154 541 [some (.ref 1000), some (.ref 0), some (.ref 64), some (.int (I t))] [] Z J Φ := by
  have hp := p_needed (J := J) hI
  refine z_aload_n rfl rfl ?_
  refine z_callV0g rfl rfl rfl rfl rfl rfl hp (fun r Z1 J1 q => ?_)
  obtain ⟨v, rfl, hM⟩ := q
  show OkZ (some (L, xs)) 154 545 _ [.int v] _ _ _
  refine z_aload_n rfl rfl ?_
  refine z_callV0g rfl rfl rfl rfl rfl rfl hM (fun r2 Z2 J2 q2 => ?_)
  obtain ⟨rfl, hI2⟩ := q2
  show OkZ (some (L, xs)) 154 549 _ [.int v, .int v] _ _ _
  refine z_rcmp_eq rfl (fun _ => ?_) (fun h => absurd rfl h)
  exact hk _ _ hI2
theorem law_22 {Z : ZW} {J : Int64} {Φ : ZΦ} {L : Nat} {xs : Nat → Int32} {t : Int} (hL : L ≤ 1536) (ht : 0 ≤ t ∧ t ≤ (L : Int) - 3) (hI : INV Z) (hk : ∀ Z' J', INV Z' → OkZ (some (L, xs)) 154 604 [some (.ref 1000), some (.ref 0), some (.ref 64), some (.int (I t))] [] Z' J' Φ) : OkZ (some (L, xs)) 154 554 [some (.ref 1000), some (.ref 0), some (.ref 64), some (.int (I t))] [] Z J Φ := by
  have hp := p_undo (J := J) hI
  refine z_aload_n rfl rfl ?_
  refine z_callV0g rfl rfl rfl rfl rfl rfl hp (fun r Z1 J1 q => ?_)
  obtain ⟨v, rfl, hM⟩ := q
  show OkZ (some (L, xs)) 154 558 _ [.int v] _ _ _
  refine z_aload_n rfl rfl ?_
  refine z_callV0g rfl rfl rfl rfl rfl rfl hM (fun r2 Z2 J2 q2 => ?_)
  obtain ⟨rfl, hI2⟩ := q2
  show OkZ (some (L, xs)) 154 562 _ [.int v, .int v] _ _ _
  refine z_rcmp_eq rfl (fun _ => ?_) (fun h => absurd rfl h)
  exact hk _ _ hI2
theorem law_23 {Z : ZW} {J : Int64} {Φ : ZΦ} {L : Nat} {xs : Nat → Int32} {t : Int} (hL : L ≤ 1536) (ht : 0 ≤ t ∧ t ≤ (L : Int) - 3) (hI : INV Z) (hk : ∀ Z' J', INV Z' → OkZ (some (L, xs)) 154 604 [some (.ref 1000), some (.ref 0), some (.ref 64), some (.int (I t))] [] Z' J' Φ) : OkZ (some (L, xs)) 154 567 [some (.ref 1000), some (.ref 0), some (.ref 64), some (.int (I t))] [] Z J Φ := by
  have hp := p_errorCount (J := J) (x := (xs (t + 1).toNat).toInt) hI (RG_of _)
  refine z_aload_n rfl rfl ?_
  refine z_aload_n rfl rfl ?_
  refine z_iload_n rfl rfl ?_
  refine z_iconst rfl ?_
  refine z_iadd rfl ?_
  refine z_sld (by omega) rfl (by omega) ?_
  refine z_callV1g rfl rfl rfl rfl rfl rfl hp (fun r Z1 J1 q => ?_)
  obtain ⟨v, rfl, hM⟩ := q
  show OkZ (some (L, xs)) 154 576 _ [.int v] _ _ _
  refine z_aload_n rfl rfl ?_
  refine z_aload_n rfl rfl ?_
  refine z_iload_n rfl rfl ?_
  refine z_iconst rfl ?_
  refine z_iadd rfl ?_
  refine z_sld (by omega) rfl (by omega) ?_
  refine z_callV1g rfl rfl rfl rfl rfl rfl hM (fun r2 Z2 J2 q2 => ?_)
  obtain ⟨rfl, hI2⟩ := q2
  show OkZ (some (L, xs)) 154 585 _ [.int v, .int v] _ _ _
  refine z_rcmp_eq rfl (fun _ => ?_) (fun h => absurd rfl h)
  exact hk _ _ hI2
theorem law_24 {Z : ZW} {J : Int64} {Φ : ZΦ} {L : Nat} {xs : Nat → Int32} {t : Int} (hL : L ≤ 1536) (ht : 0 ≤ t ∧ t ≤ (L : Int) - 3) (hI : INV Z) (hk : ∀ Z' J', INV Z' → OkZ (some (L, xs)) 154 604 [some (.ref 1000), some (.ref 0), some (.ref 64), some (.int (I t))] [] Z' J' Φ) : OkZ (some (L, xs)) 154 590 [some (.ref 1000), some (.ref 0), some (.ref 64), some (.int (I t))] [] Z J Φ := by
  have hp := p_digest (J := J) hI
  refine z_aload_n rfl rfl ?_
  refine z_callV0g rfl rfl rfl rfl rfl rfl hp (fun r Z1 J1 q => ?_)
  obtain ⟨v, rfl, hM⟩ := q
  show OkZ (some (L, xs)) 154 594 _ [.long v] _ _ _
  refine z_aload_n rfl rfl ?_
  refine z_callV0g rfl rfl rfl rfl rfl rfl hM (fun r2 Z2 J2 q2 => ?_)
  obtain ⟨rfl, hI2⟩ := q2
  show OkZ (some (L, xs)) 154 598 _ [.long v, .long v] _ _ _
  refine z_lcmp rfl ?_
  rw [lcmp_same]
  refine z_rif_eq rfl (fun _ => ?_) (fun h => absurd rfl h)
  exact hk _ _ hI2
theorem law_loop {L : Nat} {xs : Nat → Int32} (hL : L ≤ 1536) : ∀ (d : Nat) (t : Int) (Z : ZW) (J : Int64), 0 ≤ t → t ≤ (L : Int) + 2 → (L : Int) + 3 ≤ t + 3 * d → INV Z → OkZ (some (L, xs)) 154 18 [some (.ref 1000), some (.ref 0), some (.ref 64), some (.int (I t))] [] Z J (fun r _ _ => r = some (.int (I 1))) := by
  intro d
  induction d with
  | zero => intro t Z J h0 h1 h2; omega
  | succ d ih =>
    intro t Z J h0 h1 h2 hI
    refine z_iload_n rfl rfl ?_
    refine z_aload_n rfl rfl ?_
    refine z_slen rfl ?_
    refine z_iconst rfl ?_
    refine z_isub rfl ?_
    refine z_icmp_gt rfl (by omega) (by omega) (fun h => ?_) (fun h => ?_)
    · refine z_iconst rfl ?_
      exact z_bret1 rfl rfl rfl
    · have hk : ∀ Z' J', INV Z' → OkZ (some (L, xs)) 154 604 [some (.ref 1000), some (.ref 0), some (.ref 64), some (.int (I t))] [] Z' J' (fun r _ _ => r = some (.int (I 1))) := by
        intro Z' J' hI'
        refine z_iinc rfl rfl rfl rfl ?_
        refine z_goto rfl ?_
        exact ih (t + 3) Z' J' (by omega) (by omega) (by omega) hI'
      have ht : 0 ≤ t ∧ t ≤ (L : Int) - 3 := by omega
      refine z_aload_n rfl rfl ?_
      refine z_iload_n rfl rfl ?_
      refine z_sld (by omega) rfl (by omega) ?_
      refine z_bipush rfl (by decide) ?_
      obtain ⟨v, ev, v0, v1⟩ := and31 (I (xs t.toNat).toInt)
      refine z_iand rfl ev ?_
      by_cases hv : v ≤ 24
      · have hcs : v = 0 ∨ v = 1 ∨ v = 2 ∨ v = 3 ∨ v = 4 ∨ v = 5 ∨ v = 6 ∨ v = 7 ∨ v = 8 ∨ v = 9 ∨ v = 10 ∨ v = 11 ∨ v = 12 ∨ v = 13 ∨ v = 14 ∨ v = 15 ∨ v = 16 ∨ v = 17 ∨ v = 18 ∨ v = 19 ∨ v = 20 ∨ v = 21 ∨ v = 22 ∨ v = 23 ∨ v = 24 := by omega
        rcases hcs with rfl | rfl | rfl | rfl | rfl | rfl | rfl | rfl | rfl | rfl | rfl | rfl | rfl | rfl | rfl | rfl | rfl | rfl | rfl | rfl | rfl | rfl | rfl | rfl | rfl
        · exact z_swIn (off := 116) (tgt := 148) rfl (by decide) (by decide) (by decide) rfl rfl (law_0 hL ht hI hk)
        · exact z_swIn (off := 139) (tgt := 171) rfl (by decide) (by decide) (by decide) rfl rfl (law_1 hL ht hI hk)
        · exact z_swIn (off := 152) (tgt := 184) rfl (by decide) (by decide) (by decide) rfl rfl (law_2 hL ht hI hk)
        · exact z_swIn (off := 165) (tgt := 197) rfl (by decide) (by decide) (by decide) rfl rfl (law_3 hL ht hI hk)
        · exact z_swIn (off := 198) (tgt := 230) rfl (by decide) (by decide) (by decide) rfl rfl (law_4 hL ht hI hk)
        · exact z_swIn (off := 221) (tgt := 253) rfl (by decide) (by decide) (by decide) rfl rfl (law_5 hL ht hI hk)
        · exact z_swIn (off := 234) (tgt := 266) rfl (by decide) (by decide) (by decide) rfl rfl (law_6 hL ht hI hk)
        · exact z_swIn (off := 257) (tgt := 289) rfl (by decide) (by decide) (by decide) rfl rfl (law_7 hL ht hI hk)
        · exact z_swIn (off := 280) (tgt := 312) rfl (by decide) (by decide) (by decide) rfl rfl (law_8 hL ht hI hk)
        · exact z_swIn (off := 303) (tgt := 335) rfl (by decide) (by decide) (by decide) rfl rfl (law_9 hL ht hI hk)
        · exact z_swIn (off := 326) (tgt := 358) rfl (by decide) (by decide) (by decide) rfl rfl (law_10 hL ht hI hk)
        · exact z_swIn (off := 349) (tgt := 381) rfl (by decide) (by decide) (by decide) rfl rfl (law_11 hL ht hI hk)
        · exact z_swIn (off := 362) (tgt := 394) rfl (by decide) (by decide) (by decide) rfl rfl (law_12 hL ht hI hk)
        · exact z_swIn (off := 375) (tgt := 407) rfl (by decide) (by decide) (by decide) rfl rfl (law_13 hL ht hI hk)
        · exact z_swIn (off := 388) (tgt := 420) rfl (by decide) (by decide) (by decide) rfl rfl (law_14 hL ht hI hk)
        · exact z_swIn (off := 421) (tgt := 453) rfl (by decide) (by decide) (by decide) rfl rfl (law_15 hL ht hI hk)
        · exact z_swIn (off := 434) (tgt := 466) rfl (by decide) (by decide) (by decide) rfl rfl (law_16 hL ht hI hk)
        · exact z_swIn (off := 447) (tgt := 479) rfl (by decide) (by decide) (by decide) rfl rfl (law_17 hL ht hI hk)
        · exact z_swIn (off := 460) (tgt := 492) rfl (by decide) (by decide) (by decide) rfl rfl (law_18 hL ht hI hk)
        · exact z_swIn (off := 483) (tgt := 515) rfl (by decide) (by decide) (by decide) rfl rfl (law_19 hL ht hI hk)
        · exact z_swIn (off := 496) (tgt := 528) rfl (by decide) (by decide) (by decide) rfl rfl (law_20 hL ht hI hk)
        · exact z_swIn (off := 509) (tgt := 541) rfl (by decide) (by decide) (by decide) rfl rfl (law_21 hL ht hI hk)
        · exact z_swIn (off := 522) (tgt := 554) rfl (by decide) (by decide) (by decide) rfl rfl (law_22 hL ht hI hk)
        · exact z_swIn (off := 535) (tgt := 567) rfl (by decide) (by decide) (by decide) rfl rfl (law_23 hL ht hI hk)
        · exact z_swIn (off := 558) (tgt := 590) rfl (by decide) (by decide) (by decide) rfl rfl (law_24 hL ht hI hk)
      · exact z_swOut (tgt := 604) rfl (by omega) (Or.inr (by omega)) rfl (hk Z J hI)
