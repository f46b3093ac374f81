/-! the class: the assembler, leaves and numbers -/
def cuF (bt : FI) (len : Int) : FI := fun p => if 0 ≤ p ∧ p < len then bt p else -1
def sk (cu : FI) : Nat → Int → Int
  | 0, p => p
  | d + 1, p => if cu p = 32 then sk cu d (p + 1) else p
def skp (cu : FI) (len p : Int) : Int := sk cu (len - p).toNat p
def dgB (cu : FI) (p : Int) : Bool := decide (48 ≤ cu p ∧ cu p ≤ 57)
def opc (x : Int) : Int := if x = 97 then 0 else if x = 115 then 1 else if x = 99 then 2 else if x = 100 then 3 else if x = 106 then 4 else if x = 122 then 5 else if x = 110 then 6 else if x = 104 then 7 else -1
def PV (most : Int) (ng : Bool) (v p2 nx : Int) : Bool × Int × Int := if most < v then (false, 0, p2) else (true, if ng then -v else v, nx)
def PD (cu : FI) (most : Int) (ng : Bool) (p : Int) : Bool × Int × Int := if dgB cu p = false then (false, 0, p) else if dgB cu (p + 1) = false then PV most ng (cu p - 48) p (p + 1) else if dgB cu (p + 2) = false then PV most ng (10 * (cu p - 48) + (cu (p + 1) - 48)) p (p + 2) else (false, 0, p + 2)
def PN (cu : FI) (len most : Int) (sg : Bool) (p : Int) : Bool × Int × Int := if (sg && decide (cu (skp cu len p) = 45)) = true then PD cu most true (skp cu len p + 1) else PD cu most false (skp cu len p)
def TXT (Z : ZW) : Prop := (0 ≤ Z 1 0 ∧ Z 1 0 ≤ 150) ∧ ∀ j, 0 ≤ j → j < Z 1 0 → 0 ≤ Z 2 j ∧ Z 2 j ≤ 127
theorem cu_in {Z : ZW} (h : TXT Z) (p : Int) : -1 ≤ cuF (Z 2) (Z 1 0) p ∧ cuF (Z 2) (Z 1 0) p ≤ 127 := by
  unfold cuF
  split
  · next hp => have := h.2 p hp.1 hp.2; omega
  · omega
theorem cu_some {bt : FI} {len p : Int} (h : cuF bt len p ≠ -1) : 0 ≤ p ∧ p < len := by
  unfold cuF at h
  split at h
  · next hp => exact hp
  · exact absurd rfl h
theorem sk_in {bt : FI} {len : Int} (hl : 0 ≤ len) : ∀ (d : Nat) (p : Int), 0 ≤ p → p ≤ len → (len - p).toNat = d → p ≤ sk (cuF bt len) d p ∧ sk (cuF bt len) d p ≤ len := by
  intro d
  induction d with
  | zero => intro p h0 h1 hd; exact ⟨Int.le_refl _, h1⟩
  | succ d ih =>
    intro p h0 h1 hd
    unfold sk
    split
    · next hc =>
      have := cu_some (bt := bt) (len := len) (p := p) (by omega)
      have := ih (p + 1) (by omega) (by omega) (by omega)
      omega
    · exact ⟨Int.le_refl _, h1⟩
theorem skp_in {bt : FI} {len p : Int} (hl : 0 ≤ len) (h0 : 0 ≤ p) (h1 : p ≤ len) : p ≤ skp (cuF bt len) len p ∧ skp (cuF bt len) len p ≤ len := sk_in hl _ p h0 h1 rfl
theorem s_cur {Z : ZW} {J : Int64} (hx : RG (Z 3 1)) (ht : TXT Z) : D 2 [.ref 1] Z J (some (.int (I (cuF (Z 2) (Z 1 0) (Z 3 1))))) Z J := by
  have h1 := ht.1
  unfold D Mz
  refine z_aload_n rfl rfl ?_
  refine z_getS (bi := 1) rfl rfl rfl (by decide) ?_
  refine z_if_lt rfl (by omega) (fun h4 => ?_) (fun h4 => ?_)
  · refine z_iconst rfl ?_
    exact z_iret rfl rfl ⟨by rw [cuF, if_neg (by omega)], rfl, rfl⟩
  · refine z_aload_n rfl rfl ?_
    refine z_getS (bi := 1) rfl rfl rfl (by decide) ?_
    refine z_aload_n rfl rfl ?_
    refine z_getI (bi := 0) rfl rfl rfl rfl ?_
    refine z_icmp_ge rfl (by omega) (by omega) (fun h15 => ?_) (fun h15 => ?_)
    · refine z_iconst rfl ?_
      exact z_iret rfl rfl ⟨by rw [cuF, if_neg (by omega)], rfl, rfl⟩
    · refine z_aload_n rfl rfl ?_
      refine z_getS (bi := 1) rfl rfl rfl (by decide) ?_
      refine z_aload_n rfl rfl ?_
      refine z_getR rfl rfl rfl rfl ?_
      refine z_alen (ni := 150) rfl rfl rfl ?_
      refine z_icmp_ge rfl (by omega) (by omega) (fun h27 => ?_) (fun h27 => ?_)
      · refine z_iconst rfl ?_
        exact z_iret rfl rfl ⟨by rw [cuF, if_neg (by omega)], rfl, rfl⟩
      · refine z_aload_n rfl rfl ?_
        refine z_getR rfl rfl rfl rfl ?_
        refine z_aload_n rfl rfl ?_
        refine z_getS (bi := 1) rfl rfl rfl (by decide) ?_
        refine z_iald rfl rfl (by omega) ?_
        refine z_goto rfl ?_
        exact z_iret rfl rfl ⟨by rw [cuF, if_pos (by omega)], rfl, rfl⟩
theorem s_atEnd {Z : ZW} {J : Int64} (hx : RG (Z 3 1)) (ht : TXT Z) : D 4 [.ref 1] Z J (some (bI (decide (cuF (Z 2) (Z 1 0) (Z 3 1) = -1)))) Z J := by
  have hc := cu_in ht (Z 3 1)
  unfold D Mz
  refine z_aload_n rfl rfl ?_
  refine z_callV0 rfl rfl rfl rfl rfl rfl (s_cur hx ht) ?_
  refine z_iconst rfl ?_
  refine z_icmp_ne rfl (by omega) (by omega) (fun h5 => ?_) (fun h5 => ?_)
  · refine z_iconst rfl ?_
    first | exact z_bret0 rfl rfl ⟨bz0 (decide_eq_false (by omega)), rfl, rfl⟩ | exact z_bret1 rfl rfl ⟨bz1 (decide_eq_true (by omega)), rfl, rfl⟩
  · refine z_iconst rfl ?_
    refine z_goto rfl ?_
    first | exact z_bret0 rfl rfl ⟨bz0 (decide_eq_false (by omega)), rfl, rfl⟩ | exact z_bret1 rfl rfl ⟨bz1 (decide_eq_true (by omega)), rfl, rfl⟩
theorem s_isDigit {Z : ZW} {J : Int64} {x : Int} (hx : RG x) : D 6 [.int (I x)] Z J (some (bI (decide (48 ≤ x ∧ x ≤ 57)))) Z J := by
  unfold D Mz
  refine z_iload_n rfl rfl ?_
  refine z_bipush rfl (by decide) ?_
  refine z_icmp_lt rfl (by omega) (by omega) (fun h3 => ?_) (fun h3 => ?_)
  · refine z_iconst rfl ?_
    first | exact z_bret0 rfl rfl ⟨bz0 (decide_eq_false (by omega)), rfl, rfl⟩ | exact z_bret1 rfl rfl ⟨bz1 (decide_eq_true (by omega)), rfl, rfl⟩
  · refine z_iload_n rfl rfl ?_
    refine z_bipush rfl (by decide) ?_
    refine z_icmp_gt rfl (by omega) (by omega) (fun h9 => ?_) (fun h9 => ?_)
    · refine z_iconst rfl ?_
      first | exact z_bret0 rfl rfl ⟨bz0 (decide_eq_false (by omega)), rfl, rfl⟩ | exact z_bret1 rfl rfl ⟨bz1 (decide_eq_true (by omega)), rfl, rfl⟩
    · refine z_iconst rfl ?_
      refine z_goto rfl ?_
      first | exact z_bret0 rfl rfl ⟨bz0 (decide_eq_false (by omega)), rfl, rfl⟩ | exact z_bret1 rfl rfl ⟨bz1 (decide_eq_true (by omega)), rfl, rfl⟩
theorem s_greatest {Z : ZW} {J : Int64} {x : Int} (hx : 0 ≤ x ∧ x ≤ 7) : D 8 [.int (I x)] Z J (some (.int (I (if x ≤ 1 then 99 else if x ≤ 3 then 3 else 24)))) Z J := by
  unfold D Mz
  have hc : x = 0 ∨ x = 1 ∨ x = 2 ∨ x = 3 ∨ 4 ≤ x := by omega
  refine z_iload_n rfl rfl ?_
  rcases hc with rfl | rfl | rfl | rfl | h
  · refine z_swIn (tgt := 32) rfl (by decide) (by decide) (by decide) rfl rfl ?_
    refine z_bipush rfl (by decide) ?_
    exact z_iret rfl rfl ⟨rfl, rfl, rfl⟩
  · refine z_swIn (tgt := 32) rfl (by decide) (by decide) (by decide) rfl rfl ?_
    refine z_bipush rfl (by decide) ?_
    exact z_iret rfl rfl ⟨rfl, rfl, rfl⟩
  · refine z_swIn (tgt := 35) rfl (by decide) (by decide) (by decide) rfl rfl ?_
    refine z_iconst rfl ?_
    exact z_iret rfl rfl ⟨rfl, rfl, rfl⟩
  · refine z_swIn (tgt := 35) rfl (by decide) (by decide) (by decide) rfl rfl ?_
    refine z_iconst rfl ?_
    exact z_iret rfl rfl ⟨rfl, rfl, rfl⟩
  · refine z_swOut (tgt := 37) rfl (by omega) (by omega) rfl ?_
    refine z_bipush rfl (by decide) ?_
    exact z_iret rfl rfl ⟨by rw [if_neg (by omega), if_neg (by omega)], rfl, rfl⟩
set_option maxHeartbeats 4000000 in
theorem s_opcX0 {Z : ZW} {J : Int64} {x : Int} (hx : RG x) : D 5 [.int (I x)] Z J (some (.int (I (opc x)))) Z J := by
  unfold D Mz
  have hc : (x < 97 ∨ 122 < x) ∨ x = 97 ∨ x = 98 ∨ x = 99 ∨ x = 100 ∨ x = 101 ∨ x = 102 ∨ x = 103 ∨ x = 104 ∨ x = 105 ∨ x = 106 ∨ x = 107 ∨ x = 108 ∨ x = 109 ∨ x = 110 ∨ x = 111 ∨ x = 112 ∨ x = 113 ∨ x = 114 ∨ x = 115 ∨ x = 116 ∨ x = 117 ∨ x = 118 ∨ x = 119 ∨ x = 120 ∨ x = 121 ∨ x = 122 := by omega
  refine z_iload_n rfl rfl ?_
  rcases hc with h | rfl | rfl | rfl | rfl | rfl | rfl | rfl | rfl | rfl | rfl | rfl | rfl | rfl | rfl | rfl | rfl | rfl | rfl | rfl | rfl | rfl | rfl | rfl | rfl | rfl | rfl
  · refine z_swOut (tgt := 138) rfl hx (by omega) rfl ?_
    refine z_iconst rfl ?_
    exact z_iret rfl rfl ⟨by rw [opc, if_neg (by omega), if_neg (by omega), if_neg (by omega), if_neg (by omega), if_neg (by omega), if_neg (by omega), if_neg (by omega), if_neg (by omega)], rfl, rfl⟩
  · refine z_swIn (tgt := 120) rfl (by decide) (by decide) (by decide) rfl rfl ?_
    refine z_iconst rfl ?_
    exact z_iret rfl rfl ⟨rfl, rfl, rfl⟩
  · refine z_swIn (tgt := 138) rfl (by decide) (by decide) (by decide) rfl rfl ?_
    refine z_iconst rfl ?_
    exact z_iret rfl rfl ⟨rfl, rfl, rfl⟩
  · refine z_swIn (tgt := 124) rfl (by decide) (by decide) (by decide) rfl rfl ?_
    refine z_iconst rfl ?_
    exact z_iret rfl rfl ⟨rfl, rfl, rfl⟩
  · refine z_swIn (tgt := 126) rfl (by decide) (by decide) (by decide) rfl rfl ?_
    refine z_iconst rfl ?_
    exact z_iret rfl rfl ⟨rfl, rfl, rfl⟩
  · refine z_swIn (tgt := 138) rfl (by decide) (by decide) (by decide) rfl rfl ?_
    refine z_iconst rfl ?_
    exact z_iret rfl rfl ⟨rfl, rfl, rfl⟩
  · refine z_swIn (tgt := 138) rfl (by decide) (by decide) (by decide) rfl rfl ?_
    refine z_iconst rfl ?_
    exact z_iret rfl rfl ⟨rfl, rfl, rfl⟩
  · refine z_swIn (tgt := 138) rfl (by decide) (by decide) (by decide) rfl rfl ?_
    refine z_iconst rfl ?_
    exact z_iret rfl rfl ⟨rfl, rfl, rfl⟩
  · refine z_swIn (tgt := 135) rfl (by decide) (by decide) (by decide) rfl rfl ?_
    refine z_bipush rfl (by decide) ?_
    exact z_iret rfl rfl ⟨rfl, rfl, rfl⟩
  · refine z_swIn (tgt := 138) rfl (by decide) (by decide) (by decide) rfl rfl ?_
    refine z_iconst rfl ?_
    exact z_iret rfl rfl ⟨rfl, rfl, rfl⟩
  · refine z_swIn (tgt := 128) rfl (by decide) (by decide) (by decide) rfl rfl ?_
    refine z_iconst rfl ?_
    exact z_iret rfl rfl ⟨rfl, rfl, rfl⟩
  · refine z_swIn (tgt := 138) rfl (by decide) (by decide) (by decide) rfl rfl ?_
    refine z_iconst rfl ?_
    exact z_iret rfl rfl ⟨rfl, rfl, rfl⟩
  · refine z_swIn (tgt := 138) rfl (by decide) (by decide) (by decide) rfl rfl ?_
    refine z_iconst rfl ?_
    exact z_iret rfl rfl ⟨rfl, rfl, rfl⟩
  · refine z_swIn (tgt := 138) rfl (by decide) (by decide) (by decide) rfl rfl ?_
    refine z_iconst rfl ?_
    exact z_iret rfl rfl ⟨rfl, rfl, rfl⟩
  · refine z_swIn (tgt := 132) rfl (by decide) (by decide) (by decide) rfl rfl ?_
    refine z_bipush rfl (by decide) ?_
    exact z_iret rfl rfl ⟨rfl, rfl, rfl⟩
  · refine z_swIn (tgt := 138) rfl (by decide) (by decide) (by decide) rfl rfl ?_
    refine z_iconst rfl ?_
    exact z_iret rfl rfl ⟨rfl, rfl, rfl⟩
  · refine z_swIn (tgt := 138) rfl (by decide) (by decide) (by decide) rfl rfl ?_
    refine z_iconst rfl ?_
    exact z_iret rfl rfl ⟨rfl, rfl, rfl⟩
  · refine z_swIn (tgt := 138) rfl (by decide) (by decide) (by decide) rfl rfl ?_
    refine z_iconst rfl ?_
    exact z_iret rfl rfl ⟨rfl, rfl, rfl⟩
  · refine z_swIn (tgt := 138) rfl (by decide) (by decide) (by decide) rfl rfl ?_
    refine z_iconst rfl ?_
    exact z_iret rfl rfl ⟨rfl, rfl, rfl⟩
  · refine z_swIn (tgt := 122) rfl (by decide) (by decide) (by decide) rfl rfl ?_
    refine z_iconst rfl ?_
    exact z_iret rfl rfl ⟨rfl, rfl, rfl⟩
  · refine z_swIn (tgt := 138) rfl (by decide) (by decide) (by decide) rfl rfl ?_
    refine z_iconst rfl ?_
    exact z_iret rfl rfl ⟨rfl, rfl, rfl⟩
  · refine z_swIn (tgt := 138) rfl (by decide) (by decide) (by decide) rfl rfl ?_
    refine z_iconst rfl ?_
    exact z_iret rfl rfl ⟨rfl, rfl, rfl⟩
  · refine z_swIn (tgt := 138) rfl (by decide) (by decide) (by decide) rfl rfl ?_
    refine z_iconst rfl ?_
    exact z_iret rfl rfl ⟨rfl, rfl, rfl⟩
  · refine z_swIn (tgt := 138) rfl (by decide) (by decide) (by decide) rfl rfl ?_
    refine z_iconst rfl ?_
    exact z_iret rfl rfl ⟨rfl, rfl, rfl⟩
  · refine z_swIn (tgt := 138) rfl (by decide) (by decide) (by decide) rfl rfl ?_
    refine z_iconst rfl ?_
    exact z_iret rfl rfl ⟨rfl, rfl, rfl⟩
  · refine z_swIn (tgt := 138) rfl (by decide) (by decide) (by decide) rfl rfl ?_
    refine z_iconst rfl ?_
    exact z_iret rfl rfl ⟨rfl, rfl, rfl⟩
  · refine z_swIn (tgt := 130) rfl (by decide) (by decide) (by decide) rfl rfl ?_
    refine z_iconst rfl ?_
    exact z_iret rfl rfl ⟨rfl, rfl, rfl⟩
set_option maxHeartbeats 4000000 in
theorem s_opcX8 {Z : ZW} {J : Int64} {x : Int} (hx : RG x) : D 108 [.int (I x)] Z J (some (.int (I (opc x)))) Z J := by
  unfold D Mz
  have hc : (x < 97 ∨ 122 < x) ∨ x = 97 ∨ x = 98 ∨ x = 99 ∨ x = 100 ∨ x = 101 ∨ x = 102 ∨ x = 103 ∨ x = 104 ∨ x = 105 ∨ x = 106 ∨ x = 107 ∨ x = 108 ∨ x = 109 ∨ x = 110 ∨ x = 111 ∨ x = 112 ∨ x = 113 ∨ x = 114 ∨ x = 115 ∨ x = 116 ∨ x = 117 ∨ x = 118 ∨ x = 119 ∨ x = 120 ∨ x = 121 ∨ x = 122 := by omega
  refine z_iload_n rfl rfl ?_
  rcases hc with h | rfl | rfl | rfl | rfl | rfl | rfl | rfl | rfl | rfl | rfl | rfl | rfl | rfl | rfl | rfl | rfl | rfl | rfl | rfl | rfl | rfl | rfl | rfl | rfl | rfl | rfl
  · refine z_swOut (tgt := 138) rfl hx (by omega) rfl ?_
    refine z_iconst rfl ?_
    exact z_iret rfl rfl ⟨by rw [opc, if_neg (by omega), if_neg (by omega), if_neg (by omega), if_neg (by omega), if_neg (by omega), if_neg (by omega), if_neg (by omega), if_neg (by omega)], rfl, rfl⟩
  · refine z_swIn (tgt := 120) rfl (by decide) (by decide) (by decide) rfl rfl ?_
    refine z_iconst rfl ?_
    exact z_iret rfl rfl ⟨rfl, rfl, rfl⟩
  · refine z_swIn (tgt := 138) rfl (by decide) (by decide) (by decide) rfl rfl ?_
    refine z_iconst rfl ?_
    exact z_iret rfl rfl ⟨rfl, rfl, rfl⟩
  · refine z_swIn (tgt := 124) rfl (by decide) (by decide) (by decide) rfl rfl ?_
    refine z_iconst rfl ?_
    exact z_iret rfl rfl ⟨rfl, rfl, rfl⟩
  · refine z_swIn (tgt := 126) rfl (by decide) (by decide) (by decide) rfl rfl ?_
    refine z_iconst rfl ?_
    exact z_iret rfl rfl ⟨rfl, rfl, rfl⟩
  · refine z_swIn (tgt := 138) rfl (by decide) (by decide) (by decide) rfl rfl ?_
    refine z_iconst rfl ?_
    exact z_iret rfl rfl ⟨rfl, rfl, rfl⟩
  · refine z_swIn (tgt := 138) rfl (by decide) (by decide) (by decide) rfl rfl ?_
    refine z_iconst rfl ?_
    exact z_iret rfl rfl ⟨rfl, rfl, rfl⟩
  · refine z_swIn (tgt := 138) rfl (by decide) (by decide) (by decide) rfl rfl ?_
    refine z_iconst rfl ?_
    exact z_iret rfl rfl ⟨rfl, rfl, rfl⟩
  · refine z_swIn (tgt := 135) rfl (by decide) (by decide) (by decide) rfl rfl ?_
    refine z_bipush rfl (by decide) ?_
    exact z_iret rfl rfl ⟨rfl, rfl, rfl⟩
  · refine z_swIn (tgt := 138) rfl (by decide) (by decide) (by decide) rfl rfl ?_
    refine z_iconst rfl ?_
    exact z_iret rfl rfl ⟨rfl, rfl, rfl⟩
  · refine z_swIn (tgt := 128) rfl (by decide) (by decide) (by decide) rfl rfl ?_
    refine z_iconst rfl ?_
    exact z_iret rfl rfl ⟨rfl, rfl, rfl⟩
  · refine z_swIn (tgt := 138) rfl (by decide) (by decide) (by decide) rfl rfl ?_
    refine z_iconst rfl ?_
    exact z_iret rfl rfl ⟨rfl, rfl, rfl⟩
  · refine z_swIn (tgt := 138) rfl (by decide) (by decide) (by decide) rfl rfl ?_
    refine z_iconst rfl ?_
    exact z_iret rfl rfl ⟨rfl, rfl, rfl⟩
  · refine z_swIn (tgt := 138) rfl (by decide) (by decide) (by decide) rfl rfl ?_
    refine z_iconst rfl ?_
    exact z_iret rfl rfl ⟨rfl, rfl, rfl⟩
  · refine z_swIn (tgt := 132) rfl (by decide) (by decide) (by decide) rfl rfl ?_
    refine z_bipush rfl (by decide) ?_
    exact z_iret rfl rfl ⟨rfl, rfl, rfl⟩
  · refine z_swIn (tgt := 138) rfl (by decide) (by decide) (by decide) rfl rfl ?_
    refine z_iconst rfl ?_
    exact z_iret rfl rfl ⟨rfl, rfl, rfl⟩
  · refine z_swIn (tgt := 138) rfl (by decide) (by decide) (by decide) rfl rfl ?_
    refine z_iconst rfl ?_
    exact z_iret rfl rfl ⟨rfl, rfl, rfl⟩
  · refine z_swIn (tgt := 138) rfl (by decide) (by decide) (by decide) rfl rfl ?_
    refine z_iconst rfl ?_
    exact z_iret rfl rfl ⟨rfl, rfl, rfl⟩
  · refine z_swIn (tgt := 138) rfl (by decide) (by decide) (by decide) rfl rfl ?_
    refine z_iconst rfl ?_
    exact z_iret rfl rfl ⟨rfl, rfl, rfl⟩
  · refine z_swIn (tgt := 122) rfl (by decide) (by decide) (by decide) rfl rfl ?_
    refine z_iconst rfl ?_
    exact z_iret rfl rfl ⟨rfl, rfl, rfl⟩
  · refine z_swIn (tgt := 138) rfl (by decide) (by decide) (by decide) rfl rfl ?_
    refine z_iconst rfl ?_
    exact z_iret rfl rfl ⟨rfl, rfl, rfl⟩
  · refine z_swIn (tgt := 138) rfl (by decide) (by decide) (by decide) rfl rfl ?_
    refine z_iconst rfl ?_
    exact z_iret rfl rfl ⟨rfl, rfl, rfl⟩
  · refine z_swIn (tgt := 138) rfl (by decide) (by decide) (by decide) rfl rfl ?_
    refine z_iconst rfl ?_
    exact z_iret rfl rfl ⟨rfl, rfl, rfl⟩
  · refine z_swIn (tgt := 138) rfl (by decide) (by decide) (by decide) rfl rfl ?_
    refine z_iconst rfl ?_
    exact z_iret rfl rfl ⟨rfl, rfl, rfl⟩
  · refine z_swIn (tgt := 138) rfl (by decide) (by decide) (by decide) rfl rfl ?_
    refine z_iconst rfl ?_
    exact z_iret rfl rfl ⟨rfl, rfl, rfl⟩
  · refine z_swIn (tgt := 138) rfl (by decide) (by decide) (by decide) rfl rfl ?_
    refine z_iconst rfl ?_
    exact z_iret rfl rfl ⟨rfl, rfl, rfl⟩
  · refine z_swIn (tgt := 130) rfl (by decide) (by decide) (by decide) rfl rfl ?_
    refine z_iconst rfl ?_
    exact z_iret rfl rfl ⟨rfl, rfl, rfl⟩
theorem up_up {Z : ZW} {k : Nat} {j a b : Int} : up (up Z k j a) k j b = up Z k j b := by
  funext q i
  unfold up
  split <;> rfl
theorem up_self {Z : ZW} {k : Nat} {j : Int} : up Z k j (Z k j) = Z := by
  funext q i
  unfold up
  split
  · next h => rw [h.1, h.2]
  · rfl
theorem TXT_up {Z : ZW} {j v : Int} {k : Nat} (hk : k ≠ 1 ∧ k ≠ 2) (h : TXT Z) : TXT (up Z k j v) := by
  unfold TXT
  rw [up_ne (fun q => hk.1 q.symm)]
  refine ⟨h.1, fun i i0 i1 => ?_⟩
  rw [up_ne (fun q => hk.2 q.symm)]
  exact h.2 i i0 i1
theorem l_skip {Z : ZW} {J : Int64} {v : Int} (ht : TXT Z) : ∀ (d : Nat) (p : Int), 0 ≤ p → p ≤ Z 1 0 → (Z 1 0 - p).toNat = d → v = sk (cuF (Z 2) (Z 1 0)) d p → OkZ none 3 0 [some (.ref 1)] [] (up Z 3 1 p) J (fun r Z' J' => r = none ∧ Z' = up Z 3 1 v ∧ J' = J) := by
  have hl := ht.1
  intro d
  induction d with
  | zero =>
    intro p h0 h1 hd hv
    have hv : v = p := hv
    have ec : cuF (up Z 3 1 p 2) (up Z 3 1 p 1 0) (up Z 3 1 p 3 1) = cuF (Z 2) (Z 1 0) p := by
      show cuF (Z 2) (Z 1 0) (up Z 3 1 p 3 1) = _
      rw [up_eq]
    have hcu := cu_in ht p
    have hcn : cuF (Z 2) (Z 1 0) p = -1 := by unfold cuF; rw [if_neg (by omega)]
    refine z_aload_n rfl rfl ?_
    refine z_getS (bi := 1) rfl rfl rfl (by decide) ?_
    rw [up_eq]
    refine z_sipush rfl (by decide) ?_
    refine z_icmp_ge rfl (by omega) (by omega) (fun h7 => ?_) (fun h7 => ?_)
    · exact z_vret rfl rfl ⟨rfl, by rw [hv], rfl⟩
    · refine z_aload_n rfl rfl ?_
      refine z_callV0 rfl rfl rfl rfl rfl rfl (s_cur (by rw [up_eq]; omega) (TXT_up (by decide) ht)) ?_
      rw [ec]
      refine z_bipush rfl (by decide) ?_
      refine z_icmp_ne rfl (by omega) (by omega) (fun h16 => ?_) (fun h16 => ?_)
      · exact z_vret rfl rfl ⟨rfl, by rw [hv], rfl⟩
      · exfalso; omega
  | succ d ih =>
    intro p h0 h1 hd hv
    have hv2 : v = if cuF (Z 2) (Z 1 0) p = 32 then sk (cuF (Z 2) (Z 1 0)) d (p + 1) else p := hv
    have ec : cuF (up Z 3 1 p 2) (up Z 3 1 p 1 0) (up Z 3 1 p 3 1) = cuF (Z 2) (Z 1 0) p := by
      show cuF (Z 2) (Z 1 0) (up Z 3 1 p 3 1) = _
      rw [up_eq]
    have hcu := cu_in ht p
    refine z_aload_n rfl rfl ?_
    refine z_getS (bi := 1) rfl rfl rfl (by decide) ?_
    rw [up_eq]
    refine z_sipush rfl (by decide) ?_
    refine z_icmp_ge rfl (by omega) (by omega) (fun h7 => ?_) (fun h7 => ?_)
    · exfalso; omega
    · refine z_aload_n rfl rfl ?_
      refine z_callV0 rfl rfl rfl rfl rfl rfl (s_cur (by rw [up_eq]; omega) (TXT_up (by decide) ht)) ?_
      rw [ec]
      refine z_bipush rfl (by decide) ?_
      refine z_icmp_ne rfl (by omega) (by omega) (fun h16 => ?_) (fun h16 => ?_)
      · rw [if_neg h16] at hv2
        exact z_vret rfl rfl ⟨rfl, by rw [hv2], rfl⟩
      · refine z_aload_n rfl rfl ?_
        refine z_dup rfl rfl ?_
        refine z_getS (bi := 1) rfl rfl rfl (by decide) ?_
        rw [up_eq]
        refine z_iconst rfl ?_
        refine z_iadd rfl ?_
        refine z_putS (bi := 1) rfl rfl rfl rfl (by decide) ?_
        refine z_goto rfl ?_
        rw [if_pos h16] at hv2
        rw [up_up]
        exact ih (p + 1) (by omega) (by omega) (by omega) hv2
theorem s_skip {Z : ZW} {J : Int64} {p : Int} (ht : TXT Z) (hp : 0 ≤ p ∧ p ≤ Z 1 0) (he : Z 3 1 = p) : D 3 [.ref 1] Z J none (up Z 3 1 (skp (cuF (Z 2) (Z 1 0)) (Z 1 0) p)) J := by
  have q := l_skip (J := J) ht _ p hp.1 hp.2 rfl rfl
  rw [← he, up_self, he] at q
  exact q
