/-! the class: connect, predecessors, joins, heads, reach -/
def connF (Z : ZW) (n : Nat) (b : Int) : Int := if goB (Z 5 (Z 21 b)) = true ∧ Z 21 b + 1 < n then Z 15 (Z 21 b + 1) else -1
def connT (Z : ZW) (n : Nat) (b : Int) : Int := if jmB (Z 5 (Z 21 b)) = true ∧ Z 7 (Z 21 b) < n then Z 15 (Z 7 (Z 21 b)) else -1
def connE (Z : ZW) (n : Nat) (b : Int) : Bool := decide (Z 5 (Z 21 b) = 7) || (goB (Z 5 (Z 21 b)) && decide (connF Z n b = -1)) || (jmB (Z 5 (Z 21 b)) && decide (connT Z n b = -1))
def connZ (Z : ZW) (n : Nat) (b : Int) : ZW := up (up (up (up Z 17 b (connF Z n b)) 18 b (connT Z n b)) 19 b (orI (bitv (connF Z n b)) (bitv (connT Z n b)))) 14 (8 + b) (if connE Z n b then 1 else 0)
set_option maxHeartbeats 4000000 in
theorem s_connect {Z : ZW} {J : Int64} {n : Nat} {b : Int} (hn : Z 4 0 = n) (hn2 : n ≤ 24) (hb : 0 ≤ b ∧ b < 24) (hla : 0 ≤ Z 21 b ∧ Z 21 b < n) (hop : 0 ≤ Z 5 (Z 21 b) ∧ Z 5 (Z 21 b) ≤ 7) (hrb : RG (Z 7 (Z 21 b))) (hrb0 : jmB (Z 5 (Z 21 b)) = true → 0 ≤ Z 7 (Z 21 b)) (hbl : ∀ i, 0 ≤ i → i < (n : Int) → 0 ≤ Z 15 i ∧ Z 15 i < 24) : D 31 [.ref 13, .ref 3, .int (I b)] Z J none (connZ Z n b) J := by
  unfold D Mz
  have hla4 : 0 ≤ Z 21 b ∧ Z 21 b < Z 4 0 := by omega
  have hs4 : 0 ≤ Z 4 0 ∧ Z 4 0 ≤ 24 := by omega
  obtain ⟨F, hF⟩ : ∃ F, F = connF Z n b := ⟨_, rfl⟩
  obtain ⟨T, hT⟩ : ∃ T, T = connT Z n b := ⟨_, rfl⟩
  have hFr : -1 ≤ F ∧ F < 24 := by
    rw [hF]; unfold connF
    split
    · next h => have := hbl (Z 21 b + 1) (by omega) h.2; omega
    · omega
  have hTr : -1 ≤ T ∧ T < 24 := by
    rw [hT]; unfold connT
    split
    · next h => have := hbl (Z 7 (Z 21 b)) (hrb0 h.1) h.2; omega
    · omega
  have eZ : connZ Z n b = up (up (up (up Z 17 b F) 18 b T) 19 b (orI (bitv F) (bitv T))) 14 (8 + b) (if connE Z n b then 1 else 0) := by rw [hF, hT]; rfl
  have eE : connE Z n b = (decide (Z 5 (Z 21 b) = 7) || (goB (Z 5 (Z 21 b)) && decide (F = -1)) || (jmB (Z 5 (Z 21 b)) && decide (T = -1))) := by rw [hF, hT]; rfl
  have eF : up (up Z 17 b F) 18 b T 17 b = F := by simp [up]
  have eT : up (up Z 17 b F) 18 b T 18 b = T := by simp [up]
  obtain ⟨Z3, hZ3⟩ : ∃ Z3, Z3 = up (up (up Z 17 b F) 18 b T) 19 b (orI (bitv F) (bitv T)) := ⟨_, rfl⟩
  have eF3 : Z3 17 b = F := by rw [hZ3]; simp [up]
  have eT3 : Z3 18 b = T := by rw [hZ3]; simp [up]
  have K174 : ∀ v u : Bool, v = (goB (Z 5 (Z 21 b)) && decide (F = -1)) → u = (jmB (Z 5 (Z 21 b)) && decide (T = -1)) → OkZ none 31 174 [some (.ref 13), some (.ref 3), some (.int (I b)), some (.int (I (Z 21 b))), some (.int (I (Z 5 (Z 21 b)))), some (.int (I (Z 7 (Z 21 b)))), some (bI v), some (bI u)] [] Z3 J (fun r Z' J' => r = none ∧ Z' = connZ Z n b ∧ J' = J) := by
    intro v u hv hu
    refine z_aload_n rfl rfl ?_
    refine z_getR rfl rfl rfl rfl ?_
    refine z_iload_n rfl rfl ?_
    refine z_iload rfl rfl ?_
    refine z_bipush rfl (by decide) ?_
    refine z_icmp_eq rfl (by omega) (by omega) (fun h183 => ?_) (fun h183 => ?_)
    · refine z_iconst rfl ?_
      refine z_goto rfl ?_
      refine z_east rfl (by omega) (by omega) ?_
      have hc : connE Z n b = true := by rw [eE, decide_eq_true h183]; rfl
      exact z_vret rfl rfl ⟨rfl, by rw [eZ, hc, if_pos rfl, ← hZ3], rfl⟩
    · refine z_iload rfl rfl ?_
      refine z_ifb_ne rfl (fun h188 => ?_) (fun h188 => ?_)
      · refine z_iconst rfl ?_
        refine z_goto rfl ?_
        refine z_east rfl (by omega) (by omega) ?_
        have hc : connE Z n b = true := by rw [eE, ← hv, h188]; simp
        exact z_vret rfl rfl ⟨rfl, by rw [eZ, hc, if_pos rfl, ← hZ3], rfl⟩
      · refine z_iload rfl rfl ?_
        refine z_ifb_eq rfl (fun h193 => ?_) (fun h193 => ?_)
        · refine z_iconst rfl ?_
          refine z_east rfl (by omega) (by omega) ?_
          have hc : connE Z n b = false := by rw [eE, ← hv, ← hu, h188, h193, decide_eq_false h183]; rfl
          exact z_vret rfl rfl ⟨rfl, by rw [eZ, hc, if_neg (by decide), ← hZ3], rfl⟩
        · refine z_iconst rfl ?_
          refine z_goto rfl ?_
          refine z_east rfl (by omega) (by omega) ?_
          have hc : connE Z n b = true := by rw [eE, ← hv, ← hu, h188, h193]; simp
          exact z_vret rfl rfl ⟨rfl, by rw [eZ, hc, if_pos rfl, ← hZ3], rfl⟩
  have K149 : ∀ v : Bool, v = (goB (Z 5 (Z 21 b)) && decide (F = -1)) → OkZ none 31 149 [some (.ref 13), some (.ref 3), some (.int (I b)), some (.int (I (Z 21 b))), some (.int (I (Z 5 (Z 21 b)))), some (.int (I (Z 7 (Z 21 b)))), some (bI v), none] [] Z3 J (fun r Z' J' => r = none ∧ Z' = connZ Z n b ∧ J' = J) := by
    intro v hv
    refine z_iload rfl rfl ?_
    refine z_callS1 rfl rfl rfl rfl (s_jumps (by omega)) ?_
    refine z_ifb_eq rfl (fun h154 => ?_) (fun h154 => ?_)
    · refine z_iconst rfl ?_
      refine z_istore rfl rfl rfl ?_
      exact K174 v false hv (by rw [h154]; rfl)
    · refine z_aload_n rfl rfl ?_
      refine z_getR rfl rfl rfl rfl ?_
      refine z_iload_n rfl rfl ?_
      refine z_iald rfl rfl (by omega) ?_
      rw [eT3]
      refine z_iconst rfl ?_
      refine z_icmp_ne rfl (by omega) (by omega) (fun h164 => ?_) (fun h164 => ?_)
      · refine z_iconst rfl ?_
        refine z_istore rfl rfl rfl ?_
        exact K174 v false hv (by rw [decide_eq_false h164, Bool.and_false])
      · refine z_iconst rfl ?_
        refine z_goto rfl ?_
        refine z_istore rfl rfl rfl ?_
        exact K174 v true hv (by rw [h154, decide_eq_true h164]; rfl)
  have K99 : OkZ none 31 99 [some (.ref 13), some (.ref 3), some (.int (I b)), some (.int (I (Z 21 b))), some (.int (I (Z 5 (Z 21 b)))), some (.int (I (Z 7 (Z 21 b)))), none, none] [] (up (up Z 17 b F) 18 b T) J (fun r Z' J' => r = none ∧ Z' = connZ Z n b ∧ J' = J) := by
    refine z_aload_n rfl rfl ?_
    refine z_getR rfl rfl rfl rfl ?_
    refine z_iload_n rfl rfl ?_
    refine z_aload_n rfl rfl ?_
    refine z_getR rfl rfl rfl rfl ?_
    refine z_iload_n rfl rfl ?_
    refine z_iald rfl rfl (by omega) ?_
    rw [eF]
    refine z_callS1 rfl rfl rfl rfl (s_bit (by omega)) ?_
    refine z_aload_n rfl rfl ?_
    refine z_getR rfl rfl rfl rfl ?_
    refine z_iload_n rfl rfl ?_
    refine z_iald rfl rfl (by omega) ?_
    rw [eT]
    refine z_callS1 rfl rfl rfl rfl (s_bit (by omega)) ?_
    refine z_ior rfl (I_orI _ _) ?_
    refine z_iast rfl rfl (by omega) ?_
    rw [← hZ3]
    skip
    refine z_iload rfl rfl ?_
    refine z_callS1 rfl rfl rfl rfl (s_goesOn (by omega)) ?_
    refine z_ifb_eq rfl (fun h129 => ?_) (fun h129 => ?_)
    · refine z_iconst rfl ?_
      refine z_istore rfl rfl rfl ?_
      exact K149 false (by rw [h129]; rfl)
    · refine z_aload_n rfl rfl ?_
      refine z_getR rfl rfl rfl rfl ?_
      refine z_iload_n rfl rfl ?_
      refine z_iald rfl rfl (by omega) ?_
      rw [eF3]
      refine z_iconst rfl ?_
      refine z_icmp_ne rfl (by omega) (by omega) (fun h139 => ?_) (fun h139 => ?_)
      · refine z_iconst rfl ?_
        refine z_istore rfl rfl rfl ?_
        exact K149 false (by rw [decide_eq_false h139, Bool.and_false])
      · refine z_iconst rfl ?_
        refine z_goto rfl ?_
        refine z_istore rfl rfl rfl ?_
        exact K149 true (by rw [h129, decide_eq_true h139]; rfl)
  have K74 : OkZ none 31 74 [some (.ref 13), some (.ref 3), some (.int (I b)), some (.int (I (Z 21 b))), some (.int (I (Z 5 (Z 21 b)))), some (.int (I (Z 7 (Z 21 b)))), none, none] [] (up Z 17 b F) J (fun r Z' J' => r = none ∧ Z' = connZ Z n b ∧ J' = J) := by
    refine z_aload_n rfl rfl ?_
    refine z_getR rfl rfl rfl rfl ?_
    refine z_iload_n rfl rfl ?_
    refine z_iload rfl rfl ?_
    refine z_callS1 rfl rfl rfl rfl (s_jumps (by omega)) ?_
    refine z_ifb_eq rfl (fun h84 => ?_) (fun h84 => ?_)
    · refine z_iconst rfl ?_
      refine z_iast rfl rfl (by omega) ?_
      have e9 : T = -1 := by rw [hT, connT, if_neg (fun q => by rw [h84] at q; exact absurd q.1 (by decide))]
      rw [e9] at K99
      exact K99
    · refine z_aload_n rfl rfl ?_
      refine z_aload_n rfl rfl ?_
      refine z_iload rfl rfl ?_
      refine z_callV2 rfl rfl rfl rfl rfl rfl (s_blockFrom hrb hs4) ?_
      refine z_goto rfl ?_
      refine z_iast rfl rfl (by omega) ?_
      have e9 : T = (if 0 ≤ Z 7 (Z 21 b) ∧ Z 7 (Z 21 b) < Z 4 0 then Z 15 (Z 7 (Z 21 b)) else -1) := by rw [hT, connT, hn]; simp [h84, hrb0 h84]
      rw [e9] at K99
      exact K99
  refine z_aload_n rfl rfl ?_
  refine z_getR rfl rfl rfl rfl ?_
  refine z_iload_n rfl rfl ?_
  refine z_iald rfl rfl (by omega) ?_
  refine z_istore_n rfl rfl rfl ?_
  refine z_aload_n rfl rfl ?_
  refine z_iload_n rfl rfl ?_
  refine z_callV1 rfl rfl rfl rfl rfl rfl (s_has (by omega) hs4) ?_
  refine z_ifb_eq rfl (fun h12 => ?_) (fun h12 => ?_)
  · exact absurd hla4 (of_decide_eq_false h12)
  · refine z_aload_n rfl rfl ?_
    refine z_getR rfl rfl rfl rfl ?_
    refine z_iload_n rfl rfl ?_
    refine z_iald rfl rfl (by omega) ?_
    refine z_goto rfl ?_
    refine z_istore rfl rfl rfl ?_
    refine z_aload_n rfl rfl ?_
    refine z_iload_n rfl rfl ?_
    refine z_callV1 rfl rfl rfl rfl rfl rfl (s_has (by omega) hs4) ?_
    refine z_ifb_eq rfl (fun h33 => ?_) (fun h33 => ?_)
    · exact absurd hla4 (of_decide_eq_false h33)
    · refine z_aload_n rfl rfl ?_
      refine z_getR rfl rfl rfl rfl ?_
      refine z_iload_n rfl rfl ?_
      refine z_iald rfl rfl (by omega) ?_
      refine z_goto rfl ?_
      refine z_istore rfl rfl rfl ?_
      refine z_aload_n rfl rfl ?_
      refine z_getR rfl rfl rfl rfl ?_
      refine z_iload_n rfl rfl ?_
      refine z_iload rfl rfl ?_
      refine z_callS1 rfl rfl rfl rfl (s_goesOn (by omega)) ?_
      refine z_ifb_eq rfl (fun h58 => ?_) (fun h58 => ?_)
      · refine z_iconst rfl ?_
        refine z_iast rfl rfl (by omega) ?_
        have e9 : F = -1 := by rw [hF, connF, if_neg (fun q => by rw [h58] at q; exact absurd q.1 (by decide))]
        rw [e9] at K74
        exact K74
      · refine z_aload_n rfl rfl ?_
        refine z_aload_n rfl rfl ?_
        refine z_iload_n rfl rfl ?_
        refine z_iconst rfl ?_
        refine z_iadd rfl ?_
        refine z_callV2 rfl rfl rfl rfl rfl rfl (s_blockFrom (by omega) hs4) ?_
        refine z_goto rfl ?_
        refine z_iast rfl rfl (by omega) ?_
        have e9 : F = (if 0 ≤ Z 21 b + 1 ∧ Z 21 b + 1 < Z 4 0 then Z 15 (Z 21 b + 1) else -1) := by rw [hF, connF, hn]; simp [h58, show 0 ≤ Z 21 b + 1 by omega]
        rw [e9] at K74
        exact K74
