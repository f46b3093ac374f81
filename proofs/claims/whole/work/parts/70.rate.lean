/-! chargeRateBits, both sides -/
theorem shl23 : ∀ e : Nat, e < 128 → I (e : Int) <<< (I 23 &&& 31) = I ((e * 8388608 : Nat) : Int) := by decide +kernel
theorem fb_bits {m : Nat} {q : Int} (hm : 8388608 ≤ m ∧ m < 16777216) (hq : -50 ≤ q ∧ q ≤ -23) : (FB m q).toInt32 = I ((((q + 150).toNat * 8388608 : Nat) : Int) + ((m - 8388608 : Nat) : Int)) := by
  rw [fb_toNat hm (by omega), u_i32]
  congr 1
theorem l_fbits {Z : ZW} {J : Int64} {m : Nat} {q0 : Int} {x : UInt32} (hm : 8388608 ≤ m ∧ m < 16777216) (h0 : -35 ≤ q0 ∧ q0 ≤ -23) : ∀ (d : Nat) (q : Int), q + d = -23 → q0 ≤ q → OkZ none 88 5 [some (.float x), some (.float (FB m q)), some (.int (I (127 + q0 - q))), none] [] Z J (fun r Z' J' => r = some (.int (FB m q0).toInt32) ∧ Z' = Z ∧ J' = J) := by
  intro d
  induction d with
  | zero =>
    intro q hd hq
    have eq : q = -23 := by omega
    rw [eq]
    obtain ⟨f1, f2, f3⟩ := fb_frac hm
    have hsh : I (127 + q0 - -23) <<< (I 23 &&& 31) = I (((q0 + 150).toNat * 8388608 : Nat) : Int) := by
      rw [show 127 + q0 - -23 = (((q0 + 150).toNat : Nat) : Int) by omega]
      exact shl23 _ (by omega)
    refine z_iload_n rfl rfl ?_
    refine z_if_le rfl (by omega) (fun h6 => by exfalso; omega) (fun h6 => ?_)
    refine z_fload_n rfl rfl ?_
    refine z_fconst1 rfl ?_
    refine z_fcmp rfl ?_
    rcases fb_ge hm with hc | hc
    · rw [hc]
      refine z_rif_ge rfl (fun _ => ?_) (fun z => absurd (by decide) z)
      refine z_fload_n rfl rfl ?_
      refine z_fconst1 rfl ?_
      refine z_fsub rfl f1 ?_
      refine z_ldcf rfl ?_
      refine z_fmul rfl f2 ?_
      refine z_f2i rfl ?_
      rw [f3]
      refine z_istore_n rfl rfl rfl ?_
      refine z_iload_n rfl rfl ?_
      refine z_bipush rfl (by decide) ?_
      refine z_ishl rfl hsh ?_
      refine z_iload_n rfl rfl ?_
      refine z_iadd rfl ?_
      exact z_iret rfl rfl ⟨by rw [fb_bits hm (by omega)], rfl, rfl⟩
    · rw [hc]
      refine z_rif_ge rfl (fun _ => ?_) (fun z => absurd (by decide) z)
      refine z_fload_n rfl rfl ?_
      refine z_fconst1 rfl ?_
      refine z_fsub rfl f1 ?_
      refine z_ldcf rfl ?_
      refine z_fmul rfl f2 ?_
      refine z_f2i rfl ?_
      rw [f3]
      refine z_istore_n rfl rfl rfl ?_
      refine z_iload_n rfl rfl ?_
      refine z_bipush rfl (by decide) ?_
      refine z_ishl rfl hsh ?_
      refine z_iload_n rfl rfl ?_
      refine z_iadd rfl ?_
      exact z_iret rfl rfl ⟨by rw [fb_bits hm (by omega)], rfl, rfl⟩
  | succ d ih =>
    intro q hd hq
    have hc := fb_lt hm (q := q) (by omega)
    have h2 := fb_twice hm (q := q) (by omega)
    have hn2 : vf_n32 (FP.fmul (FB m q) FP.fconst2) := by rw [h2]; exact n32_of (fb_val hm (q := q + 1) (by omega))
    have hi := ih (q + 1) (by omega) (by omega)
    refine z_iload_n rfl rfl ?_
    refine z_if_le rfl (by omega) (fun h6 => by exfalso; omega) (fun h6 => ?_)
    refine z_fload_n rfl rfl ?_
    refine z_fconst1 rfl ?_
    refine z_fcmp rfl ?_
    rw [hc]
    refine z_rif_ge rfl (fun z => absurd z (by decide)) (fun _ => ?_)
    refine z_fload_n rfl rfl ?_
    refine z_fconst2 rfl ?_
    refine z_fmul rfl hn2 ?_
    rw [h2]
    refine z_fstore_n rfl rfl rfl ?_
    refine z_iinc rfl rfl rfl rfl ?_
    refine z_goto rfl ?_
    rw [show 127 + q0 - (q + 1) = 127 + q0 - q + -1 by omega] at hi
    exact hi
theorem s_floatBits {Z : ZW} {J : Int64} {m : Nat} {q : Int} (hm : 8388608 ≤ m ∧ m < 16777216) (h0 : -35 ≤ q ∧ q ≤ -23) : D 88 [.float (FB m q)] Z J (some (.int (FB m q).toInt32)) Z J := by
  unfold D Mz
  have hg := l_fbits (Z := Z) (J := J) (x := FB m q) hm h0 (-23 - q).toNat q (by omega) (Int.le_refl _)
  rw [show 127 + q - q = 127 by omega] at hg
  refine z_fload_n rfl rfl ?_
  refine z_fstore_n rfl rfl rfl ?_
  refine z_bipush rfl (by decide) ?_
  refine z_istore_n rfl rfl rfl ?_
  exact hg
/-- steps and charges of a run -/
def CR (s c : Int) : Prop := (0 ≤ s ∧ s ≤ 3000) ∧ (0 ≤ c ∧ c ≤ s) ∧ (1 ≤ s → 1 ≤ c)
theorem rate_fb {s c : Int} (h : CR s c) (hs : 1 ≤ s) : ∃ (m : Nat) (q : Int), FP.fdiv (FP.i2f (I c)) (FP.i2f (I s)) = FB m q ∧ (8388608 ≤ m ∧ m < 16777216) ∧ -35 ≤ q ∧ q ≤ -23 := by
  have hc := h.2.2 hs
  have h1 := h.1
  have h2 := h.2.1
  obtain ⟨m, q, e, hm, hq⟩ := ratio_val (c := c.toNat) (s := s.toNat) (by omega) (by omega)
  have hv := fdiv_val (c := c) (s := s) (by omega) (by omega)
  rw [e] at hv
  refine ⟨m, q, ?_, hm, hq⟩
  exact FP.Core.val32_inj (by rw [hv]; intro z; cases z) (hv.trans (fb_val hm (by omega)).symm)
def rbits (s c : Int) : Int32 := if s = 0 then I 0 else (FP.fdiv (FP.i2f (I c)) (FP.i2f (I s))).toInt32
theorem s_chargeRate {Z : ZW} {J : Int64} (h : CR (Z 59 1) (Z 59 3)) : D 89 [.ref 0] Z J (some (.int (rbits (Z 59 1) (Z 59 3)))) Z J := by
  unfold D Mz
  have h1 := h.1
  unfold rbits
  by_cases hs : Z 59 1 = 0
  · rw [if_pos hs]
    refine z_aload_n rfl rfl ?_
    refine z_getR rfl rfl rfl rfl ?_
    refine z_getI (bi := 1) rfl rfl rfl rfl ?_
    refine z_if_ne rfl (by omega) (fun h7 => ?_) (fun h7 => ?_)
    · exact absurd hs h7
    · refine z_iconst rfl ?_
      exact z_iret rfl rfl ⟨rfl, rfl, rfl⟩
  · rw [if_neg hs]
    obtain ⟨m, q, e, hm, hq⟩ := rate_fb h (by omega)
    have hn : vf_n32 (FP.fdiv (FP.i2f (I (Z 59 3))) (FP.i2f (I (Z 59 1)))) := by rw [e]; exact n32_of (fb_val hm (by omega))
    rw [e]
    refine z_aload_n rfl rfl ?_
    refine z_getR rfl rfl rfl rfl ?_
    refine z_getI (bi := 1) rfl rfl rfl rfl ?_
    refine z_if_ne rfl (by omega) (fun h7 => ?_) (fun h7 => ?_)
    · refine z_aload_n rfl rfl ?_
      refine z_getR rfl rfl rfl rfl ?_
      refine z_getI (bi := 3) rfl rfl rfl rfl ?_
      refine z_i2f rfl ?_
      refine z_aload_n rfl rfl ?_
      refine z_getR rfl rfl rfl rfl ?_
      refine z_getI (bi := 1) rfl rfl rfl rfl ?_
      refine z_i2f rfl ?_
      refine z_fdiv rfl hn ?_
      rw [e]
      refine z_callS1 rfl rfl rfl rfl (s_floatBits hm hq) ?_
      exact z_iret rfl rfl ⟨rfl, rfl, rfl⟩
    · exact absurd h7 hs
theorem s_isNaN {Z : ZW} {J : Int64} {x : UInt32} (h : FP.fcmp x x = some .eq) : D 145 [.float x] Z J (some (bI false)) Z J := by
  unfold D Mz
  refine z_fload_n rfl rfl ?_
  refine z_fload_n rfl rfl ?_
  refine z_fcmp rfl ?_
  rw [h]
  refine z_rif_eq rfl (fun _ => ?_) (fun z => absurd (by decide) z)
  refine z_iconst rfl ?_
  exact z_bret0 rfl rfl ⟨rfl, rfl, rfl⟩
theorem s_f2bits {Z : ZW} {J : Int64} {x : UInt32} (h : FP.fcmp x x = some .eq) : D 146 [.float x] Z J (some (.int x.toInt32)) Z J := by
  unfold D Mz
  refine z_fload_n rfl rfl ?_
  refine z_callS1 rfl rfl rfl rfl (s_isNaN h) ?_
  refine z_ifb_ne rfl (fun h4 => ?_) (fun h4 => ?_)
  · exact absurd h4 (by decide)
  · refine z_fload_n rfl rfl ?_
    refine z_raw rfl (Nat.le_of_ble_eq_true rfl) ?_
    exact z_iret rfl rfl ⟨rfl, rfl, rfl⟩
theorem m_chargeRate {Z : ZW} {J : Int64} (h : CR (Z 64 19) (Z 64 21)) : D 147 [.ref 64] Z J (some (.int (rbits (Z 64 19) (Z 64 21)))) Z J := by
  unfold D Mz
  have h1 := h.1
  unfold rbits
  by_cases hs : Z 64 19 = 0
  · rw [if_pos hs]
    refine z_aload_n rfl rfl ?_
    refine z_getI (bi := 19) rfl rfl rfl rfl ?_
    refine z_if_ne rfl (by omega) (fun h4 => ?_) (fun h4 => ?_)
    · exact absurd hs h4
    · refine z_fconst0 rfl ?_
      refine z_callS1 rfl rfl rfl rfl (s_f2bits (by decide +kernel)) ?_
      refine z_goto rfl ?_
      exact z_iret rfl rfl ⟨rfl, rfl, rfl⟩
  · rw [if_neg hs]
    obtain ⟨m, q, e, hm, hq⟩ := rate_fb h (by omega)
    have hn : vf_n32 (FP.fdiv (FP.i2f (I (Z 64 21))) (FP.i2f (I (Z 64 19)))) := by rw [e]; exact n32_of (fb_val hm (by omega))
    rw [e]
    refine z_aload_n rfl rfl ?_
    refine z_getI (bi := 19) rfl rfl rfl rfl ?_
    refine z_if_ne rfl (by omega) (fun h4 => ?_) (fun h4 => ?_)
    · refine z_aload_n rfl rfl ?_
      refine z_getI (bi := 21) rfl rfl rfl rfl ?_
      refine z_i2f rfl ?_
      refine z_aload_n rfl rfl ?_
      refine z_getI (bi := 19) rfl rfl rfl rfl ?_
      refine z_i2f rfl ?_
      refine z_fdiv rfl hn ?_
      rw [e]
      refine z_callS1 rfl rfl rfl rfl (s_f2bits (fb_self hm (by omega))) ?_
      exact z_iret rfl rfl ⟨rfl, rfl, rfl⟩
    · exact absurd h4 hs
theorem rn_ch {n : Nat} {op ra rb ic en : FI} : ∀ (d s : Nat) (a : Int) (p : Bool) (r c : Int) (v : FI), s + d = 3000 → (0 ≤ c ∧ c ≤ s) → (1 ≤ s → 1 ≤ c) → (p = true → 1 ≤ c) → (fun q : RES => CR q.2.1 q.2.2.2.1) (rn n op ra rb ic en d s a p r c v) := by
  intro d
  induction d with
  | zero =>
    intro s a p r c v hs hc h1 _
    unfold rn
    have hcr : CR (s : Int) c := ⟨by omega, hc, fun z => h1 (by omega)⟩
    exact if_P (P := fun q : RES => CR q.2.1 q.2.2.2.1) hcr hcr
  | succ d ih =>
    intro s a p r c v hs hc h1 hp
    have hcr : CR (s : Int) c := ⟨by omega, hc, fun z => h1 (by omega)⟩
    by_cases hin : 0 ≤ a ∧ a < (n : Int)
    · have key : ∀ (p1 : Bool) (r1 : Int) (c1 : Int), (c1 = c ∨ (c1 = c + 1 ∧ p1 = true)) → (p1 = true → 1 ≤ c1) → (fun q : RES => CR q.2.1 q.2.2.2.1) (rnX n op ra rb ic en d s a p1 r1 c1 v) := by
        intro p1 r1 c1 hc1 hp1
        unfold rnX
        by_cases h : p1 = true
        · rw [if_pos h]
          exact ih (s + 1) _ _ _ _ _ (by omega) (by have := hp1 h; omega) (fun _ => hp1 h) hp1
        · rw [if_neg h]
          have e : c1 = c := by rcases hc1 with z | z; exact z; exact absurd z.2 h
          refine if_P (P := fun q : RES => CR q.2.1 q.2.2.2.1) (ih (s + 1) _ _ _ _ _ (by omega) (by omega) (fun _ => by omega) (fun _ => by omega)) ?_
          rw [e]
          exact hcr
      by_cases h0 : 0 < en a
      · by_cases h2 : en a ≤ r
        · rw [rn_e1 hin h0 h2]
          exact key true _ _ (Or.inr ⟨rfl, rfl⟩) (fun _ => by omega)
        · rw [rn_e2 hin h0 h2]
          exact key false _ _ (Or.inl rfl) (fun z => by cases z)
      · rw [rn_e3 hin h0]
        exact key p _ _ (Or.inl rfl) hp
    · rw [rn_out hin]
      exact hcr
theorem RN_ch (co op ra rb : FI) (n : Nat) (m bu : Int) : CR (RN co op ra rb n m bu).2.1 (RN co op ra rb n m bu).2.2.2.1 := rn_ch 3000 0 0 false bu 0 (fun _ => 0) (by omega) (by omega) (by omega) (fun z => by cases z)
