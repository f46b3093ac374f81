/-! the reference: leaders -/
def anyT (tg : FI) : Nat → Int → Bool
  | 0, _ => false
  | t + 1, x => anyT tg t x || decide (tg t = x)
def mO (Z : ZW) : FI := fun j => Z 65 (1 + j)
def mA (Z : ZW) : FI := fun j => Z 65 (25 + j)
def mB (Z : ZW) : FI := fun j => Z 65 (49 + j)
def mC (Z : ZW) : FI := fun j => Z 65 (73 + j)
def tgF (op rb : FI) : FI := fun j => if jmB (op j) = true then rb j else 24
def mLd (op rb : FI) (n : Nat) (x : Int) : Bool := decide (x = 0 ∨ 4 ≤ op (x - 1)) || anyT (tgF op rb) n x
theorem tg_in {op ra rb : FI} {n : Nat} (h : WFP op ra rb n) {j : Int} (h0 : 0 ≤ j) (h1 : j < n) : 0 ≤ tgF op rb j ∧ tgF op rb j ≤ 24 := by
  unfold tgF
  split
  · next q =>
    have := of_decide_eq_true q
    exact (h j h0 h1).2.2.2.2 (by omega)
  · decide
theorem l_isLeader {Z : ZW} {J : Int64} {n : Nat} {x : Int} {B v : Bool} (hn : Z 65 0 = n) (hn2 : n ≤ 24) (hx : 0 ≤ x ∧ x < 24) (hw : WFP (mO Z) (mA Z) (mB Z) n) : ∀ (d t : Nat) (b : Bool), t + d = n → b = (B || anyT (tgF (mO Z) (mB Z)) t x) → v = (B || anyT (tgF (mO Z) (mB Z)) n x) → OkZ none 117 26 [some (.ref 64), some (.int (I x)), some (bI b), some (.int (I (t : Int)))] [] Z J (fun r Z' J' => r = some (bI v) ∧ Z' = Z ∧ J' = J) := by
  intro d
  induction d with
  | zero =>
    intro t b ht hb hv
    have et : t = n := by omega
    rw [et, ← hv] at hb
    refine z_iload_n rfl rfl ?_
    refine z_aload_n rfl rfl ?_
    refine z_getR rfl rfl rfl rfl ?_
    refine z_iconst rfl ?_
    refine z_iald rfl rfl (by omega) ?_
    rw [hn]
    refine z_icmp_ge rfl (by omega) (by omega) (fun h33 => ?_) (fun h33 => ?_)
    · refine z_iload_n rfl rfl ?_
      rw [hb]
      exact z_bret rfl rfl ⟨rfl, rfl, rfl⟩
    · exfalso; omega
  | succ d ih =>
    intro t b ht hb hv
    have htg := tg_in hw (j := (t : Int)) (by omega) (by omega)
    have hop := (hw (t : Int) (by omega) (by omega)).1
    have hst : ∀ c : Bool, c = (b || decide (tgF (mO Z) (mB Z) t = x)) → c = (B || anyT (tgF (mO Z) (mB Z)) (t + 1) x) := fun c hc => by
      rw [hc, hb, Bool.or_assoc]
      rfl
    refine z_iload_n rfl rfl ?_
    refine z_aload_n rfl rfl ?_
    refine z_getR rfl rfl rfl rfl ?_
    refine z_iconst rfl ?_
    refine z_iald rfl rfl (by omega) ?_
    rw [hn]
    refine z_icmp_ge rfl (by omega) (by omega) (fun h33 => ?_) (fun h33 => ?_)
    · exfalso; omega
    · refine z_iload_n rfl rfl ?_
      refine z_ifb_ne rfl (fun h37 => ?_) (fun h37 => ?_)
      · refine z_iconst rfl ?_
        refine z_goto rfl ?_
        refine z_istore_n rfl rfl rfl ?_
        refine z_iinc rfl rfl rfl rfl ?_
        refine z_goto rfl ?_
        rw [show ((t : Nat) : Int) + 1 = ((t + 1 : Nat) : Int) by omega]
        exact ih (t + 1) true (by omega) (hst true (by rw [h37]; rfl)) hv
      · refine z_aload_n rfl rfl ?_
        refine z_iload_n rfl rfl ?_
        refine z_callV1 rfl rfl rfl rfl rfl rfl (m_targetOf (by omega) hop) ?_
        rw [show (if jmB (Z 65 (1 + (t : Int))) = true then Z 65 (49 + (t : Int)) else 24) = tgF (mO Z) (mB Z) t from rfl]
        refine z_iload_n rfl rfl ?_
        refine z_icmp_ne rfl (by omega) (by omega) (fun h46 => ?_) (fun h46 => ?_)
        · refine z_iconst rfl ?_
          refine z_istore_n rfl rfl rfl ?_
          refine z_iinc rfl rfl rfl rfl ?_
          refine z_goto rfl ?_
          rw [show ((t : Nat) : Int) + 1 = ((t + 1 : Nat) : Int) by omega]
          exact ih (t + 1) false (by omega) (hst false (by rw [h37, Bool.false_or]; exact (decide_eq_false h46).symm)) hv
        · refine z_iconst rfl ?_
          refine z_goto rfl ?_
          refine z_istore_n rfl rfl rfl ?_
          refine z_iinc rfl rfl rfl rfl ?_
          refine z_goto rfl ?_
          rw [show ((t : Nat) : Int) + 1 = ((t + 1 : Nat) : Int) by omega]
          exact ih (t + 1) true (by omega) (hst true (by rw [h37, Bool.false_or]; exact (decide_eq_true h46).symm)) hv
theorem m_isLeader {Z : ZW} {J : Int64} {n : Nat} {x : Int} (hn : Z 65 0 = n) (hn2 : n ≤ 24) (hx : 0 ≤ x ∧ x < n) (hw : WFP (mO Z) (mA Z) (mB Z) n) : D 117 [.ref 64, .int (I x)] Z J (some (bI (mLd (mO Z) (mB Z) n x))) Z J := by
  unfold D Mz
  have go : ∀ B : Bool, B = decide (x = 0 ∨ 4 ≤ mO Z (x - 1)) → OkZ none 117 26 [some (.ref 64), some (.int (I x)), some (bI B), some (.int (I 0))] [] Z J (fun r Z' J' => r = some (bI (mLd (mO Z) (mB Z) n x)) ∧ Z' = Z ∧ J' = J) := fun B hB =>
    l_isLeader (B := B) hn hn2 (by omega) hw n 0 B (by omega) (by show B = (B || false); rw [Bool.or_false]) (by rw [hB]; rfl)
  refine z_iload_n rfl rfl ?_
  refine z_if_eq rfl (by omega) (fun h1 => ?_) (fun h1 => ?_)
  · refine z_iconst rfl ?_
    refine z_goto rfl ?_
    refine z_istore_n rfl rfl rfl ?_
    refine z_iconst rfl ?_
    refine z_istore_n rfl rfl rfl ?_
    exact go true (decide_eq_true (Or.inl h1)).symm
  · have hop := (hw (x - 1) (by omega) (by omega)).1
    have hidx : mO Z (x - 1) = Z 65 (1 + x - 1) := by show Z 65 (1 + (x - 1)) = _; congr 1; omega
    rw [hidx] at hop
    refine z_aload_n rfl rfl ?_
    refine z_getR rfl rfl rfl rfl ?_
    refine z_iconst rfl ?_
    refine z_iload_n rfl rfl ?_
    refine z_iadd rfl ?_
    refine z_iconst rfl ?_
    refine z_isub rfl ?_
    refine z_iald rfl rfl (by omega) ?_
    refine z_iconst rfl ?_
    refine z_icmp_lt rfl (by omega) (by omega) (fun h15 => ?_) (fun h15 => ?_)
    · refine z_iconst rfl ?_
      refine z_istore_n rfl rfl rfl ?_
      refine z_iconst rfl ?_
      refine z_istore_n rfl rfl rfl ?_
      exact go false (decide_eq_false (by rw [hidx]; omega)).symm
    · refine z_iconst rfl ?_
      refine z_goto rfl ?_
      refine z_istore_n rfl rfl rfl ?_
      refine z_iconst rfl ?_
      refine z_istore_n rfl rfl rfl ?_
      exact go true (decide_eq_true (by rw [hidx]; omega)).symm
