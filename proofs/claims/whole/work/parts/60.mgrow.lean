/-! the reference: a round of ways -/
def gwc (sg : Bool) (S C W : FI) (k : Nat) : Bool := decide (W ((k / 24 : Nat) : Int) ≠ -1 ∧ tbI (S ((k / 24 : Nat) : Int)) ((k % 24 : Nat) : Int) = true ∧ (W ((k % 24 : Nat) : Int) = -1 ∨ (if sg = true then W ((k % 24 : Nat) : Int) < W ((k / 24 : Nat) : Int) + C ((k % 24 : Nat) : Int) else W ((k / 24 : Nat) : Int) + C ((k % 24 : Nat) : Int) < W ((k % 24 : Nat) : Int))))
def gw (sg : Bool) (S C W : FI) (k : Nat) : FI := if gwc sg S C W k then updF W ((k % 24 : Nat) : Int) (W ((k / 24 : Nat) : Int) + C ((k % 24 : Nat) : Int)) else W
def gwI (sg : Bool) (S C : FI) : Nat → FI → FI
  | 0, W => W
  | m + 1, W => gw sg S C (gwI sg S C m W) m
def gwB (sg : Bool) (S C : FI) : Nat → FI → Bool
  | 0, _ => false
  | m + 1, W => gwB sg S C m W || gwc sg S C (gwI sg S C m W) m
theorem gw_no {sg : Bool} {S C W : FI} {m : Nat} (h : gwc sg S C (gwI sg S C m W) m = false) : gwI sg S C (m + 1) W = gwI sg S C m W ∧ gwB sg S C (m + 1) W = gwB sg S C m W := by
  refine ⟨?_, ?_⟩
  · show gw sg S C (gwI sg S C m W) m = _
    unfold gw
    rw [h, if_neg (by decide)]
  · show (gwB sg S C m W || gwc sg S C (gwI sg S C m W) m) = _
    rw [h, Bool.or_false]
theorem gw_yes {sg : Bool} {S C W : FI} {m : Nat} (h : gwc sg S C (gwI sg S C m W) m = true) : gwI sg S C (m + 1) W = updF (gwI sg S C m W) ((m % 24 : Nat) : Int) (gwI sg S C m W ((m / 24 : Nat) : Int) + C ((m % 24 : Nat) : Int)) ∧ gwB sg S C (m + 1) W = true := by
  refine ⟨?_, ?_⟩
  · show gw sg S C (gwI sg S C m W) m = _
    unfold gw
    rw [if_pos h]
  · show (gwB sg S C m W || gwc sg S C (gwI sg S C m W) m) = true
    rw [h, Bool.or_true]
theorem dv_tab : ∀ k : Nat, k < 576 → I (k : Int) / I 24 = I ((k / 24 : Nat) : Int) ∧ I (k : Int) - I (k : Int) / I 24 * I 24 = I ((k % 24 : Nat) : Int) := by decide +kernel
def COn (C : FI) (nb : Nat) : Prop := ∀ b, 0 ≤ b → b < (nb : Int) → 1 ≤ C b ∧ C b ≤ 216
theorem OnB_lt {nb : Nat} {m : Int} {t : Nat} (h : OnB nb m) (ht : t < 24) (hb : tbI m t = true) : t < nb := by
  refine Classical.byContradiction fun q => ?_
  have := h t (by omega) (by omega)
  rw [show tbI m t = bt (I m) t from rfl] at hb
  rw [this] at hb
  cases hb
theorem gw_wB {sg : Bool} {S C : FI} {nb : Nat} {B : Int} {W : FI} {m : Nat} (hC : COn C nb) (hS : ∀ b : Nat, b < nb → OnB nb (S b)) (hm : m < 24 * nb) (h : wB nb B W) (hB : 0 ≤ B) : wB nb (B + 216) (gw sg S C W m) := by
  unfold gw
  split
  · next q =>
    have q := of_decide_eq_true q
    have hb : m / 24 < nb := by omega
    have ht := OnB_lt (hS _ hb) (by omega : m % 24 < 24) q.2.1
    have h1 := h ((m / 24 : Nat) : Int) (by omega) (by omega)
    have h2 := hC ((m % 24 : Nat) : Int) (by omega) (by omega)
    exact wB_up h ⟨by omega, by omega⟩
  · exact wB_mono h (by omega)
theorem gwI_wB {sg : Bool} {S C : FI} {nb : Nat} {B : Int} {W : FI} (hC : COn C nb) (hS : ∀ b : Nat, b < nb → OnB nb (S b)) (h : wB nb B W) (hB : 0 ≤ B) : ∀ m : Nat, m ≤ 24 * nb → wB nb (B + 216 * m) (gwI sg S C m W) := by
  intro m
  induction m with
  | zero => intro _; exact wB_mono h (by omega)
  | succ m ih =>
    intro hm
    have := gw_wB (sg := sg) hC hS (show m < 24 * nb by omega) (ih (by omega)) (by omega)
    exact wB_mono this (by omega)
set_option maxHeartbeats 1000000 in
theorem l_wg {Z : ZW} {J : Int64} {nb : Nat} {B : Int} {sg : Bool} (hnb : Z 64 9 = nb) (hnb2 : nb ≤ 24) (hC : COn (Z 74) nb) (hS : ∀ b : Nat, b < nb → OnB nb (Z 72 b)) (hB : 0 ≤ B ∧ B ≤ 10000000) (hW : wB nb B (Z 77)) : ∀ (d m : Nat) (x4 x5 x6 : Option Value) (Z' : ZW), m + d = 24 * nb → Z' 77 = gwI sg (Z 72) (Z 74) m (Z 77) → (∀ (k : Nat) (j : Int), k ≠ 77 → Z' k j = Z k j) → OkZ none 133 4 [some (.ref 64), some (bI sg), some (bI (gwB sg (Z 72) (Z 74) m (Z 77))), some (.int (I ((m : Nat) : Int))), x4, x5, x6] [] Z' J (fun r Z' J' => J' = J ∧ r = some (bI (gwB sg (Z 72) (Z 74) (24 * nb) (Z 77))) ∧ Z' 77 = gwI sg (Z 72) (Z 74) (24 * nb) (Z 77) ∧ ∀ (k : Nat) (j : Int), k ≠ 77 → Z' k j = Z k j) := by
  intro d
  induction d with
  | zero =>
    intro m x4 x5 x6 Z' hm h77 ho
    have em : m = 24 * nb := by omega
    have g9 : Z' 64 9 = nb := by rw [ho 64 9 (by decide)]; exact hnb
    rw [em] at h77
    refine z_iload_n rfl rfl ?_
    refine z_bipush rfl (by decide) ?_
    refine z_aload_n rfl rfl ?_
    refine z_getI (bi := 9) rfl rfl rfl rfl ?_
    rw [g9]
    refine z_imul rfl ?_
    refine z_icmp_ge rfl (by omega) (by omega) (fun h12 => ?_) (fun h12 => ?_)
    · refine z_iload_n rfl rfl ?_
      rw [em]
      exact z_bret rfl rfl ⟨rfl, rfl, h77, ho⟩
    · exfalso; omega
  | succ d ih =>
    intro m x4 x5 x6 Z' hm h77 ho
    have g9 : Z' 64 9 = nb := by rw [ho 64 9 (by decide)]; exact hnb
    have e72 : Z' 72 = Z 72 := funext fun j => ho 72 j (by decide)
    have e74 : Z' 74 = Z 74 := funext fun j => ho 74 j (by decide)
    have hwb := gwI_wB (sg := sg) hC hS hW hB.1 m (by omega)
    rw [← h77] at hwb
    obtain ⟨b, eb⟩ : ∃ b : Int, b = ((m / 24 : Nat) : Int) := ⟨_, rfl⟩
    obtain ⟨t, et⟩ : ∃ t : Int, t = ((m % 24 : Nat) : Int) := ⟨_, rfl⟩
    have hdv : I (m : Int) / I 24 = I b := by rw [eb]; exact (dv_tab m (by omega)).1
    have hrm : I (m : Int) - I (m : Int) / I 24 * I 24 = I t := by rw [et]; exact (dv_tab m (by omega)).2
    have hbr : 0 ≤ b ∧ b < nb := by omega
    have htr : 0 ≤ t ∧ t < 24 := by omega
    have hWb := hwb b hbr.1 hbr.2
    have htn : tbI (Z 72 b) t = true → t < nb := fun q => by
      have := OnB_lt (t := m % 24) (hS (m / 24) (by omega)) (by omega) (by rw [← eb, ← et]; exact q)
      omega
    have ec : gwc sg (Z 72) (Z 74) (gwI sg (Z 72) (Z 74) m (Z 77)) m = decide (Z' 77 b ≠ -1 ∧ tbI (Z 72 b) t = true ∧ (Z' 77 t = -1 ∨ (if sg = true then Z' 77 t < Z' 77 b + Z 74 t else Z' 77 b + Z 74 t < Z' 77 t))) := by
      unfold gwc
      rw [← eb, ← et, h77]
    have hi : ∀ (y4 y5 y6 : Option Value) (Z2 : ZW), Z2 77 = gwI sg (Z 72) (Z 74) (m + 1) (Z 77) → (∀ (k : Nat) (j : Int), k ≠ 77 → Z2 k j = Z k j) → _ := fun y4 y5 y6 Z2 => ih (m + 1) y4 y5 y6 Z2 (by omega)
    refine z_iload_n rfl rfl ?_
    refine z_bipush rfl (by decide) ?_
    refine z_aload_n rfl rfl ?_
    refine z_getI (bi := 9) rfl rfl rfl rfl ?_
    rw [g9]
    refine z_imul rfl ?_
    refine z_icmp_ge rfl (by omega) (by omega) (fun h12 => ?_) (fun h12 => ?_)
    · exfalso; omega
    · refine z_iload_n rfl rfl ?_
      refine z_bipush rfl (by decide) ?_
      refine z_idiv rfl (by decide) hdv ?_
      refine z_istore rfl rfl rfl ?_
      refine z_iload_n rfl rfl ?_
      refine z_bipush rfl (by decide) ?_
      refine z_irem rfl (by decide) hrm ?_
      refine z_istore rfl rfl rfl ?_
      refine z_aload_n rfl rfl ?_
      refine z_getR rfl rfl rfl rfl ?_
      refine z_iload rfl rfl ?_
      refine z_iald rfl rfl (by omega) ?_
      refine z_iconst rfl ?_
      refine z_icmp_eq rfl (by omega) (by omega) (fun h35 => ?_) (fun h35 => ?_)
      · refine z_iinc rfl rfl rfl rfl ?_
        refine z_goto rfl ?_
        have hc := gw_no (ec.trans (decide_eq_false (fun q => q.1 h35)))
        have hj := hi (some (.int (I b))) (some (.int (I t))) (x6) Z' (h77.trans hc.1.symm) ho
        rw [hc.2] at hj
        exact hj
      · refine z_aload_n rfl rfl ?_
        refine z_getR rfl rfl rfl rfl ?_
        refine z_iload rfl rfl ?_
        refine z_iald rfl rfl (by omega) ?_
        rw [e72]
        refine z_iload rfl rfl ?_
        refine z_ishr (v := (I (Z 72 b) >>> (I t &&& 31)).toInt) rfl (I_of _).symm ?_
        refine z_iconst rfl ?_
        refine z_iand rfl (shr_and htr (I_of _).symm) ?_
        have htq : -2147483648 ≤ tb1 (Z 72 b) t ∧ tb1 (Z 72 b) t ≤ 2147483647 := by unfold tb1; split <;> omega
        refine z_iconst rfl ?_
        refine z_icmp_ne rfl (by omega) (by omega) (fun h51 => ?_) (fun h51 => ?_)
        · refine z_iinc rfl rfl rfl rfl ?_
          refine z_goto rfl ?_
          have hc := gw_no (ec.trans (decide_eq_false (fun q => h51 (tb1_1.mpr q.2.1))))
          have hj := hi (some (.int (I b))) (some (.int (I t))) (x6) Z' (h77.trans hc.1.symm) ho
          rw [hc.2] at hj
          exact hj
        · have htb := tb1_1.mp h51
          have htn := htn htb
          have hWt := hwb t htr.1 htn
          have hCt := hC t htr.1 htn
          refine z_aload_n rfl rfl ?_
          refine z_getR rfl rfl rfl rfl ?_
          refine z_iload rfl rfl ?_
          refine z_iald rfl rfl (by omega) ?_
          refine z_aload_n rfl rfl ?_
          refine z_getR rfl rfl rfl rfl ?_
          refine z_iload rfl rfl ?_
          refine z_iald rfl rfl (by omega) ?_
          rw [e74]
          refine z_iadd rfl ?_
          refine z_istore rfl rfl rfl ?_
          refine z_aload_n rfl rfl ?_
          refine z_getR rfl rfl rfl rfl ?_
          refine z_iload rfl rfl ?_
          refine z_iald rfl rfl (by omega) ?_
          refine z_iconst rfl ?_
          refine z_icmp_eq rfl (by omega) (by omega) (fun h79 => ?_) (fun h79 => ?_)
          · refine z_aload_n rfl rfl ?_
            refine z_getR rfl rfl rfl rfl ?_
            refine z_iload rfl rfl ?_
            refine z_iload rfl rfl ?_
            refine z_iast rfl rfl (by omega) ?_
            refine z_iconst rfl ?_
            refine z_istore_n rfl rfl rfl ?_
            refine z_iinc rfl rfl rfl rfl ?_
            refine z_goto rfl ?_
            have hc := gw_yes (ec.trans (decide_eq_true ⟨h35, htb, Or.inl h79⟩))
            have hj := hi (some (.int (I b))) (some (.int (I t))) (some (.int (I (Z' 77 b + Z 74 t)))) (up Z' 77 t (Z' 77 b + Z 74 t)) (by rw [up_upd, hc.1, ← h77, ← eb, ← et]) (fun k j hk => by rw [up_ne hk]; exact ho k j hk)
            rw [hc.2] at hj
            exact hj
          · refine z_iload_n rfl rfl ?_
            refine z_ifb_eq rfl (fun h83 => ?_) (fun h83 => ?_)
            · refine z_iload rfl rfl ?_
              refine z_aload_n rfl rfl ?_
              refine z_getR rfl rfl rfl rfl ?_
              refine z_iload rfl rfl ?_
              refine z_iald rfl rfl (by omega) ?_
              refine z_icmp_ge rfl (by omega) (by omega) (fun h110 => ?_) (fun h110 => ?_)
              · refine z_iinc rfl rfl rfl rfl ?_
                refine z_goto rfl ?_
                have hc := gw_no (ec.trans (decide_eq_false (fun q => by have := q.2.2; rw [h83, if_neg (by decide)] at this; omega)))
                have hj := hi (some (.int (I b))) (some (.int (I t))) (some (.int (I (Z' 77 b + Z 74 t)))) Z' (h77.trans hc.1.symm) ho
                rw [hc.2] at hj
                exact hj
              · refine z_aload_n rfl rfl ?_
                refine z_getR rfl rfl rfl rfl ?_
                refine z_iload rfl rfl ?_
                refine z_iload rfl rfl ?_
                refine z_iast rfl rfl (by omega) ?_
                refine z_iconst rfl ?_
                refine z_istore_n rfl rfl rfl ?_
                refine z_iinc rfl rfl rfl rfl ?_
                refine z_goto rfl ?_
                have hc := gw_yes (ec.trans (decide_eq_true ⟨h35, htb, Or.inr (by rw [h83, if_neg (by decide)]; omega)⟩))
                have hj := hi (some (.int (I b))) (some (.int (I t))) (some (.int (I (Z' 77 b + Z 74 t)))) (up Z' 77 t (Z' 77 b + Z 74 t)) (by rw [up_upd, hc.1, ← h77, ← eb, ← et]) (fun k j hk => by rw [up_ne hk]; exact ho k j hk)
                rw [hc.2] at hj
                exact hj
            · refine z_iload rfl rfl ?_
              refine z_aload_n rfl rfl ?_
              refine z_getR rfl rfl rfl rfl ?_
              refine z_iload rfl rfl ?_
              refine z_iald rfl rfl (by omega) ?_
              refine z_icmp_le rfl (by omega) (by omega) (fun h95 => ?_) (fun h95 => ?_)
              · refine z_iinc rfl rfl rfl rfl ?_
                refine z_goto rfl ?_
                have hc := gw_no (ec.trans (decide_eq_false (fun q => by have := q.2.2; rw [h83, if_pos rfl] at this; omega)))
                have hj := hi (some (.int (I b))) (some (.int (I t))) (some (.int (I (Z' 77 b + Z 74 t)))) Z' (h77.trans hc.1.symm) ho
                rw [hc.2] at hj
                exact hj
              · refine z_goto rfl ?_
                refine z_aload_n rfl rfl ?_
                refine z_getR rfl rfl rfl rfl ?_
                refine z_iload rfl rfl ?_
                refine z_iload rfl rfl ?_
                refine z_iast rfl rfl (by omega) ?_
                refine z_iconst rfl ?_
                refine z_istore_n rfl rfl rfl ?_
                refine z_iinc rfl rfl rfl rfl ?_
                refine z_goto rfl ?_
                have hc := gw_yes (ec.trans (decide_eq_true ⟨h35, htb, Or.inr (by rw [h83, if_pos rfl]; omega)⟩))
                have hj := hi (some (.int (I b))) (some (.int (I t))) (some (.int (I (Z' 77 b + Z 74 t)))) (up Z' 77 t (Z' 77 b + Z 74 t)) (by rw [up_upd, hc.1, ← h77, ← eb, ← et]) (fun k j hk => by rw [up_ne hk]; exact ho k j hk)
                rw [hc.2] at hj
                exact hj
theorem m_waysGrow {Z : ZW} {J : Int64} {nb : Nat} {B : Int} {sg : Bool} (hnb : Z 64 9 = nb) (hnb2 : nb ≤ 24) (hC : COn (Z 74) nb) (hS : ∀ b : Nat, b < nb → OnB nb (Z 72 b)) (hB : 0 ≤ B ∧ B ≤ 10000000) (hW : wB nb B (Z 77)) : Mz 133 [.ref 64, bI sg] Z J (fun r Z' J' => J' = J ∧ r = some (bI (gwB sg (Z 72) (Z 74) (24 * nb) (Z 77))) ∧ Z' 77 = gwI sg (Z 72) (Z 74) (24 * nb) (Z 77) ∧ ∀ (k : Nat) (j : Int), k ≠ 77 → Z' k j = Z k j) := by
  unfold Mz
  refine z_iconst rfl ?_
  refine z_istore_n rfl rfl rfl ?_
  refine z_iconst rfl ?_
  refine z_istore_n rfl rfl rfl ?_
  exact l_wg hnb hnb2 hC hS hB hW (24 * nb) 0 none none none Z (by omega) rfl (fun _ _ _ => rfl)
