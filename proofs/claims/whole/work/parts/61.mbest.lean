/-! the reference: the best way, walked -/
def bfc (sg : Bool) (E : Int → Bool) (W : FI) (m t : Int) : Bool := decide (E t = true ∧ W t ≠ -1 ∧ (m = -1 ∨ (if sg = true then m < W t else W t < m)))
def bf (sg : Bool) (E : Int → Bool) (W : FI) : Nat → Int
  | 0 => -1
  | t + 1 => if bfc sg E W (bf sg E W t) t then W t else bf sg E W t
def wl (sg : Bool) (S C : FI) (nb : Nat) : Nat → FI → Option FI
  | 0, W => if gwB sg S C (24 * nb) W then none else some (gwI sg S C (24 * nb) W)
  | d + 1, W => if gwB sg S C (24 * nb) W then wl sg S C nb d (gwI sg S C (24 * nb) W) else some (gwI sg S C (24 * nb) W)
def bwv (sg : Bool) (E : Int → Bool) (nb : Nat) : Option FI → Int
  | none => -1
  | some V => bf sg E V nb
theorem bf_in {sg : Bool} {E : Int → Bool} {W : FI} {nb : Nat} {B : Int} (h : wB nb B W) (hB : 0 ≤ B) : ∀ t : Nat, t ≤ nb → -1 ≤ bf sg E W t ∧ bf sg E W t ≤ B := by
  intro t
  induction t with
  | zero => intro _; exact ⟨by show (-1 : Int) ≤ -1; omega, by show (-1 : Int) ≤ B; omega⟩
  | succ t ih =>
    intro ht
    unfold bf
    split
    · exact h t (by omega) (by omega)
    · exact ih (by omega)
set_option maxHeartbeats 1000000 in
theorem l_best {Z : ZW} {J : Int64} {nb : Nat} {B : Int} {sg : Bool} {E : Int → Bool} {y : Int} (hnb : Z 64 9 = nb) (hnb2 : nb ≤ 24) (hE : ∀ b, 0 ≤ b → b < (nb : Int) → Z 73 b = if E b then 1 else 0) (hB : 0 ≤ B ∧ B ≤ 100000000) (hW : wB nb B (Z 77)) : ∀ (d t : Nat) (x5 : Option Value), t + d = nb → OkZ none 134 77 [some (.ref 64), some (bI sg), some (.int (I y)), some (.int (I (bf sg E (Z 77) t))), some (.int (I ((t : Nat) : Int))), x5] [] Z J (fun r Z' J' => r = some (.int (I (bf sg E (Z 77) nb))) ∧ Z' = Z ∧ J' = J) := by
  intro d
  induction d with
  | zero =>
    intro t x5 ht
    have et : t = nb := by omega
    refine z_iload rfl rfl ?_
    refine z_aload_n rfl rfl ?_
    refine z_getI (bi := 9) rfl rfl rfl rfl ?_
    rw [hnb]
    refine z_icmp_ge rfl (by omega) (by omega) (fun h83 => ?_) (fun h83 => ?_)
    · refine z_iload_n rfl rfl ?_
      rw [et]
      exact z_iret rfl rfl ⟨rfl, rfl, rfl⟩
    · exfalso; omega
  | succ d ih =>
    intro t x5 ht
    have hm := bf_in (sg := sg) (E := E) hW hB.1 t (by omega)
    have hWt := hW (t : Int) (by omega) (by omega)
    have hEt := hE (t : Int) (by omega) (by omega)
    have ec : bf sg E (Z 77) (t + 1) = if bfc sg E (Z 77) (bf sg E (Z 77) t) t then Z 77 t else bf sg E (Z 77) t := rfl
    have hi := fun u => ih (t + 1) u (by omega)
    refine z_iload rfl rfl ?_
    refine z_aload_n rfl rfl ?_
    refine z_getI (bi := 9) rfl rfl rfl rfl ?_
    rw [hnb]
    refine z_icmp_ge rfl (by omega) (by omega) (fun h83 => ?_) (fun h83 => ?_)
    · exfalso; omega
    · refine z_aload_n rfl rfl ?_
      refine z_getR rfl rfl rfl rfl ?_
      refine z_iload rfl rfl ?_
      refine z_zald rfl rfl (by omega) ?_
      rw [hEt]
      refine z_ifb_eq rfl (fun h93 => ?_) (fun h93 => ?_)
      · refine z_iconst rfl ?_
        refine z_istore rfl rfl rfl ?_
        refine z_iload rfl rfl ?_
        refine z_if_eq rfl (by omega) (fun h150 => ?_) (fun h150 => ?_)
        · refine z_iload_n rfl rfl ?_
          refine z_istore_n rfl rfl rfl ?_
          refine z_iinc rfl rfl rfl rfl ?_
          refine z_goto rfl ?_
          have hq : bfc sg E (Z 77) (bf sg E (Z 77) t) t = false := decide_eq_false (fun q => by rw [h93] at q; cases q.1)
          rw [if_neg (by rw [hq]; decide)] at ec
          have hj := hi (some (.int (I 0)))
          rw [ec] at hj
          exact hj
        · refine z_aload_n rfl rfl ?_
          refine z_getR rfl rfl rfl rfl ?_
          refine z_iload rfl rfl ?_
          refine z_iald rfl rfl (by omega) ?_
          refine z_goto rfl ?_
          refine z_istore_n rfl rfl rfl ?_
          refine z_iinc rfl rfl rfl rfl ?_
          refine z_goto rfl ?_
          exfalso; omega
      · refine z_aload_n rfl rfl ?_
        refine z_getR rfl rfl rfl rfl ?_
        refine z_iload rfl rfl ?_
        refine z_iald rfl rfl (by omega) ?_
        refine z_iconst rfl ?_
        refine z_icmp_eq rfl (by omega) (by omega) (fun h104 => ?_) (fun h104 => ?_)
        · refine z_iconst rfl ?_
          refine z_istore rfl rfl rfl ?_
          refine z_iload rfl rfl ?_
          refine z_if_eq rfl (by omega) (fun h150 => ?_) (fun h150 => ?_)
          · refine z_iload_n rfl rfl ?_
            refine z_istore_n rfl rfl rfl ?_
            refine z_iinc rfl rfl rfl rfl ?_
            refine z_goto rfl ?_
            have hq : bfc sg E (Z 77) (bf sg E (Z 77) t) t = false := decide_eq_false (fun q => q.2.1 h104)
            rw [if_neg (by rw [hq]; decide)] at ec
            have hj := hi (some (.int (I 0)))
            rw [ec] at hj
            exact hj
          · refine z_aload_n rfl rfl ?_
            refine z_getR rfl rfl rfl rfl ?_
            refine z_iload rfl rfl ?_
            refine z_iald rfl rfl (by omega) ?_
            refine z_goto rfl ?_
            refine z_istore_n rfl rfl rfl ?_
            refine z_iinc rfl rfl rfl rfl ?_
            refine z_goto rfl ?_
            exfalso; omega
        · refine z_iload_n rfl rfl ?_
          refine z_iconst rfl ?_
          refine z_icmp_eq rfl (by omega) (by omega) (fun h109 => ?_) (fun h109 => ?_)
          · refine z_iconst rfl ?_
            refine z_goto rfl ?_
            refine z_istore rfl rfl rfl ?_
            refine z_iload rfl rfl ?_
            refine z_if_eq rfl (by omega) (fun h150 => ?_) (fun h150 => ?_)
            · refine z_iload_n rfl rfl ?_
              refine z_istore_n rfl rfl rfl ?_
              refine z_iinc rfl rfl rfl rfl ?_
              refine z_goto rfl ?_
              exfalso; omega
            · refine z_aload_n rfl rfl ?_
              refine z_getR rfl rfl rfl rfl ?_
              refine z_iload rfl rfl ?_
              refine z_iald rfl rfl (by omega) ?_
              refine z_goto rfl ?_
              refine z_istore_n rfl rfl rfl ?_
              refine z_iinc rfl rfl rfl rfl ?_
              refine z_goto rfl ?_
              have hq : bfc sg E (Z 77) (bf sg E (Z 77) t) t = true := decide_eq_true ⟨h93, h104, Or.inl h109⟩
              rw [if_pos hq] at ec
              have hj := hi (some (.int (I 1)))
              rw [ec] at hj
              exact hj
          · refine z_iload_n rfl rfl ?_
            refine z_ifb_eq rfl (fun h113 => ?_) (fun h113 => ?_)
            · refine z_aload_n rfl rfl ?_
              refine z_getR rfl rfl rfl rfl ?_
              refine z_iload rfl rfl ?_
              refine z_iald rfl rfl (by omega) ?_
              refine z_iload_n rfl rfl ?_
              refine z_icmp_ge rfl (by omega) (by omega) (fun h138 => ?_) (fun h138 => ?_)
              · refine z_iconst rfl ?_
                refine z_istore rfl rfl rfl ?_
                refine z_iload rfl rfl ?_
                refine z_if_eq rfl (by omega) (fun h150 => ?_) (fun h150 => ?_)
                · refine z_iload_n rfl rfl ?_
                  refine z_istore_n rfl rfl rfl ?_
                  refine z_iinc rfl rfl rfl rfl ?_
                  refine z_goto rfl ?_
                  have hq : bfc sg E (Z 77) (bf sg E (Z 77) t) t = false := decide_eq_false (fun q => by rcases q.2.2 with z | z; exact h109 z; rw [if_neg (by rw [h113]; decide)] at z; omega)
                  rw [if_neg (by rw [hq]; decide)] at ec
                  have hj := hi (some (.int (I 0)))
                  rw [ec] at hj
                  exact hj
                · refine z_aload_n rfl rfl ?_
                  refine z_getR rfl rfl rfl rfl ?_
                  refine z_iload rfl rfl ?_
                  refine z_iald rfl rfl (by omega) ?_
                  refine z_goto rfl ?_
                  refine z_istore_n rfl rfl rfl ?_
                  refine z_iinc rfl rfl rfl rfl ?_
                  refine z_goto rfl ?_
                  exfalso; omega
              · refine z_iconst rfl ?_
                refine z_goto rfl ?_
                refine z_istore rfl rfl rfl ?_
                refine z_iload rfl rfl ?_
                refine z_if_eq rfl (by omega) (fun h150 => ?_) (fun h150 => ?_)
                · refine z_iload_n rfl rfl ?_
                  refine z_istore_n rfl rfl rfl ?_
                  refine z_iinc rfl rfl rfl rfl ?_
                  refine z_goto rfl ?_
                  exfalso; omega
                · refine z_aload_n rfl rfl ?_
                  refine z_getR rfl rfl rfl rfl ?_
                  refine z_iload rfl rfl ?_
                  refine z_iald rfl rfl (by omega) ?_
                  refine z_goto rfl ?_
                  refine z_istore_n rfl rfl rfl ?_
                  refine z_iinc rfl rfl rfl rfl ?_
                  refine z_goto rfl ?_
                  have hq : bfc sg E (Z 77) (bf sg E (Z 77) t) t = true := decide_eq_true ⟨h93, h104, Or.inr (by rw [if_neg (by rw [h113]; decide)]; omega)⟩
                  rw [if_pos hq] at ec
                  have hj := hi (some (.int (I 1)))
                  rw [ec] at hj
                  exact hj
            · refine z_aload_n rfl rfl ?_
              refine z_getR rfl rfl rfl rfl ?_
              refine z_iload rfl rfl ?_
              refine z_iald rfl rfl (by omega) ?_
              refine z_iload_n rfl rfl ?_
              refine z_icmp_le rfl (by omega) (by omega) (fun h124 => ?_) (fun h124 => ?_)
              · refine z_iconst rfl ?_
                refine z_istore rfl rfl rfl ?_
                refine z_iload rfl rfl ?_
                refine z_if_eq rfl (by omega) (fun h150 => ?_) (fun h150 => ?_)
                · refine z_iload_n rfl rfl ?_
                  refine z_istore_n rfl rfl rfl ?_
                  refine z_iinc rfl rfl rfl rfl ?_
                  refine z_goto rfl ?_
                  have hq : bfc sg E (Z 77) (bf sg E (Z 77) t) t = false := decide_eq_false (fun q => by rcases q.2.2 with z | z; exact h109 z; rw [if_pos h113] at z; omega)
                  rw [if_neg (by rw [hq]; decide)] at ec
                  have hj := hi (some (.int (I 0)))
                  rw [ec] at hj
                  exact hj
                · refine z_aload_n rfl rfl ?_
                  refine z_getR rfl rfl rfl rfl ?_
                  refine z_iload rfl rfl ?_
                  refine z_iald rfl rfl (by omega) ?_
                  refine z_goto rfl ?_
                  refine z_istore_n rfl rfl rfl ?_
                  refine z_iinc rfl rfl rfl rfl ?_
                  refine z_goto rfl ?_
                  exfalso; omega
              · refine z_goto rfl ?_
                refine z_iconst rfl ?_
                refine z_goto rfl ?_
                refine z_istore rfl rfl rfl ?_
                refine z_iload rfl rfl ?_
                refine z_if_eq rfl (by omega) (fun h150 => ?_) (fun h150 => ?_)
                · refine z_iload_n rfl rfl ?_
                  refine z_istore_n rfl rfl rfl ?_
                  refine z_iinc rfl rfl rfl rfl ?_
                  refine z_goto rfl ?_
                  exfalso; omega
                · refine z_aload_n rfl rfl ?_
                  refine z_getR rfl rfl rfl rfl ?_
                  refine z_iload rfl rfl ?_
                  refine z_iald rfl rfl (by omega) ?_
                  refine z_goto rfl ?_
                  refine z_istore_n rfl rfl rfl ?_
                  refine z_iinc rfl rfl rfl rfl ?_
                  refine z_goto rfl ?_
                  have hq : bfc sg E (Z 77) (bf sg E (Z 77) t) t = true := decide_eq_true ⟨h93, h104, Or.inr (by rw [if_pos h113]; omega)⟩
                  rw [if_pos hq] at ec
                  have hj := hi (some (.int (I 1)))
                  rw [ec] at hj
                  exact hj
theorem l_rounds {Z : ZW} {J : Int64} {nb : Nat} {sg : Bool} {E : Int → Bool} {v : Int} (hnb : Z 64 9 = nb) (hnb2 : nb ≤ 24) (hC : COn (Z 74) nb) (hS : ∀ b : Nat, b < nb → OnB nb (Z 72 b)) (hE : ∀ b, 0 ≤ b → b < (nb : Int) → Z 73 b = if E b then 1 else 0) : ∀ (d r : Nat) (B : Int) (Z' : ZW), r + d = nb → wB nb B (Z' 77) → 0 ≤ B → B + 124416 * (d + 1) ≤ 10000000 → (∀ (k : Nat) (j : Int), k ≠ 77 → Z' k j = Z k j) → v = bwv sg E nb (wl sg (Z 72) (Z 74) nb d (Z' 77)) → OkZ none 134 51 [some (.ref 64), some (bI sg), some (.int (I ((r : Nat) : Int))), none, none, none] [] Z' J (fun r Z' J' => r = some (.int (I v)) ∧ J' = J ∧ ∀ (k : Nat) (j : Int), k ≠ 77 → Z' k j = Z k j) := by
  intro d
  induction d with
  | zero =>
    intro r B Z' hr hW hB hB2 ho hv
    have g9 : Z' 64 9 = nb := by rw [ho 64 9 (by decide)]; exact hnb
    have e72 : Z' 72 = Z 72 := funext fun j => ho 72 j (by decide)
    have e73 : Z' 73 = Z 73 := funext fun j => ho 73 j (by decide)
    have e74 : Z' 74 = Z 74 := funext fun j => ho 74 j (by decide)
    have hgr := m_waysGrow (Z := Z') (J := J) (sg := sg) g9 hnb2 (by rw [e74]; exact hC) (by rw [e72]; exact hS) ⟨hB, by omega⟩ hW
    rw [e72, e74] at hgr
    have hwb := gwI_wB (sg := sg) hC hS hW hB (24 * nb) (Nat.le_refl _)
    have hwb : wB nb (B + 124416) (gwI sg (Z 72) (Z 74) (24 * nb) (Z' 77)) := wB_mono hwb (by omega)
    refine z_aload_n rfl rfl ?_
    refine z_iload_n rfl rfl ?_
    refine z_callV1g rfl rfl rfl rfl rfl rfl (hgr) (fun r53 Z53 J53 q53 => ?_)
    obtain ⟨rfl, rfl, h77, hoo⟩ := q53
    have g9b : Z53 64 9 = nb := by rw [hoo 64 9 (by decide)]; exact g9
    have ho2 : ∀ (k : Nat) (j : Int), k ≠ 77 → Z53 k j = Z k j := fun k j hk => (hoo k j hk).trans (ho k j hk)
    show OkZ none 134 56 _ [bI (gwB sg (Z 72) (Z 74) (24 * nb) (Z' 77))] _ _ _
    refine z_ifb_eq rfl (fun h56 => ?_) (fun h56 => ?_)
    · refine z_iconst rfl ?_
      refine z_istore_n rfl rfl rfl ?_
      refine z_iconst rfl ?_
      refine z_istore rfl rfl rfl ?_
      have ev : v = bf sg E (Z53 77) nb := by rw [hv, h77]; unfold wl; rw [h56]; rfl
      have hb := l_best (Z := Z53) (J := J53) (nb := nb) (B := B + 124416) (sg := sg) (E := E) (y := ((r : Nat) : Int)) g9b hnb2 (fun b b0 b1 => by rw [ho2 73 b (by decide)]; exact hE b b0 b1) ⟨by omega, by omega⟩ (by rw [h77]; exact hwb) nb 0 none (by omega)
      refine z_weaken hb ?_
      rintro r' Z2 J2 ⟨rfl, rfl, rfl⟩
      exact ⟨by rw [ev], rfl, ho2⟩
    · refine z_iinc rfl rfl rfl rfl ?_
      refine z_iload_n rfl rfl ?_
      refine z_aload_n rfl rfl ?_
      refine z_getI (bi := 9) rfl rfl rfl rfl ?_
      rw [g9b]
      refine z_icmp_le rfl (by omega) (by omega) (fun h67 => ?_) (fun h67 => ?_)
      · exfalso; omega
      · refine z_iconst rfl ?_
        exact z_iret rfl rfl ⟨by rw [hv]; unfold wl; rw [h56]; rfl, rfl, ho2⟩
  | succ d ih =>
    intro r B Z' hr hW hB hB2 ho hv
    have g9 : Z' 64 9 = nb := by rw [ho 64 9 (by decide)]; exact hnb
    have e72 : Z' 72 = Z 72 := funext fun j => ho 72 j (by decide)
    have e73 : Z' 73 = Z 73 := funext fun j => ho 73 j (by decide)
    have e74 : Z' 74 = Z 74 := funext fun j => ho 74 j (by decide)
    have hgr := m_waysGrow (Z := Z') (J := J) (sg := sg) g9 hnb2 (by rw [e74]; exact hC) (by rw [e72]; exact hS) ⟨hB, by omega⟩ hW
    rw [e72, e74] at hgr
    have hwb := gwI_wB (sg := sg) hC hS hW hB (24 * nb) (Nat.le_refl _)
    have hwb : wB nb (B + 124416) (gwI sg (Z 72) (Z 74) (24 * nb) (Z' 77)) := wB_mono hwb (by omega)
    refine z_aload_n rfl rfl ?_
    refine z_iload_n rfl rfl ?_
    refine z_callV1g rfl rfl rfl rfl rfl rfl (hgr) (fun r53 Z53 J53 q53 => ?_)
    obtain ⟨rfl, rfl, h77, hoo⟩ := q53
    have g9b : Z53 64 9 = nb := by rw [hoo 64 9 (by decide)]; exact g9
    have ho2 : ∀ (k : Nat) (j : Int), k ≠ 77 → Z53 k j = Z k j := fun k j hk => (hoo k j hk).trans (ho k j hk)
    show OkZ none 134 56 _ [bI (gwB sg (Z 72) (Z 74) (24 * nb) (Z' 77))] _ _ _
    refine z_ifb_eq rfl (fun h56 => ?_) (fun h56 => ?_)
    · refine z_iconst rfl ?_
      refine z_istore_n rfl rfl rfl ?_
      refine z_iconst rfl ?_
      refine z_istore rfl rfl rfl ?_
      have ev : v = bf sg E (Z53 77) nb := by rw [hv, h77]; unfold wl; rw [h56]; rfl
      have hb := l_best (Z := Z53) (J := J53) (nb := nb) (B := B + 124416) (sg := sg) (E := E) (y := ((r : Nat) : Int)) g9b hnb2 (fun b b0 b1 => by rw [ho2 73 b (by decide)]; exact hE b b0 b1) ⟨by omega, by omega⟩ (by rw [h77]; exact hwb) nb 0 none (by omega)
      refine z_weaken hb ?_
      rintro r' Z2 J2 ⟨rfl, rfl, rfl⟩
      exact ⟨by rw [ev], rfl, ho2⟩
    · refine z_iinc rfl rfl rfl rfl ?_
      refine z_iload_n rfl rfl ?_
      refine z_aload_n rfl rfl ?_
      refine z_getI (bi := 9) rfl rfl rfl rfl ?_
      rw [g9b]
      refine z_icmp_le rfl (by omega) (by omega) (fun h67 => ?_) (fun h67 => ?_)
      · have hj := ih (r + 1) (B + 124416) Z53 (by omega) (by rw [h77]; exact hwb) (by omega) (by omega) ho2 (by rw [hv, h77, show wl sg (Z 72) (Z 74) nb (d + 1) (Z' 77) = if gwB sg (Z 72) (Z 74) (24 * nb) (Z' 77) = true then wl sg (Z 72) (Z 74) nb d (gwI sg (Z 72) (Z 74) (24 * nb) (Z' 77)) else some (gwI sg (Z 72) (Z 74) (24 * nb) (Z' 77)) from rfl, if_pos h56])
        exact hj
      · refine z_iconst rfl ?_
        exfalso; omega
def W0ok (C W : FI) (nb : Nat) : Prop := ∀ b, 0 ≤ b → b < (nb : Int) → W b = if b = 0 then C 0 else -1
theorem l_way0 {Z : ZW} {J : Int64} {nb : Nat} {sg : Bool} {Φ : ZΦ} (hnb : Z 64 9 = nb) (hnb2 : nb ≤ 24) (hC : COn (Z 74) nb) (hk : ∀ Z', W0ok (Z 74) (Z' 77) nb → (∀ (k : Nat) (j : Int), k ≠ 77 → Z' k j = Z k j) → OkZ none 134 49 [some (.ref 64), some (bI sg), some (.int (I ((nb : Nat) : Int))), none, none, none] [] Z' J Φ) : ∀ (d t : Nat) (Z' : ZW), t + d = nb → (∀ b, 0 ≤ b → b < (t : Int) → Z' 77 b = if b = 0 then Z 74 0 else -1) → (∀ (k : Nat) (j : Int), k ≠ 77 → Z' k j = Z k j) → OkZ none 134 15 [some (.ref 64), some (bI sg), some (.int (I ((t : Nat) : Int))), none, none, none] [] Z' J Φ := by
  intro d
  induction d with
  | zero =>
    intro t Z' ht h1 ho
    have et : t = nb := by omega
    have g9 : Z' 64 9 = nb := by rw [ho 64 9 (by decide)]; exact hnb
    refine z_iload_n rfl rfl ?_
    refine z_aload_n rfl rfl ?_
    refine z_getI (bi := 9) rfl rfl rfl rfl ?_
    rw [g9]
    refine z_icmp_ge rfl (by omega) (by omega) (fun h20 => ?_) (fun h20 => ?_)
    · rw [et] at h1 ⊢
      exact hk _ h1 ho
    · exfalso; omega
  | succ d ih =>
    intro t Z' ht h1 ho
    have g9 : Z' 64 9 = nb := by rw [ho 64 9 (by decide)]; exact hnb
    have hi : ∀ v, v = (if (t : Int) = 0 then Z 74 0 else -1) → _ := fun v ev => ih (t + 1) (up Z' 77 t v) (by omega) (fun b b0 b1 => by
      by_cases hb : b = (t : Int)
      · rw [hb, up_eq]; exact ev
      · rw [up_nj hb]; exact h1 b b0 (by omega)) (fun k j hk => by rw [up_ne hk]; exact ho k j hk)
    refine z_iload_n rfl rfl ?_
    refine z_aload_n rfl rfl ?_
    refine z_getI (bi := 9) rfl rfl rfl rfl ?_
    rw [g9]
    refine z_icmp_ge rfl (by omega) (by omega) (fun h20 => ?_) (fun h20 => ?_)
    · exfalso; omega
    · refine z_aload_n rfl rfl ?_
      refine z_getR rfl rfl rfl rfl ?_
      refine z_iload_n rfl rfl ?_
      refine z_iload_n rfl rfl ?_
      refine z_if_ne rfl (by omega) (fun h29 => ?_) (fun h29 => ?_)
      · refine z_iconst rfl ?_
        refine z_iast rfl rfl (by omega) ?_
        refine z_iinc rfl rfl rfl rfl ?_
        refine z_goto rfl ?_
        exact hi _ (by rw [if_neg h29])
      · refine z_aload_n rfl rfl ?_
        refine z_getR rfl rfl rfl rfl ?_
        refine z_iconst rfl ?_
        refine z_iald rfl rfl (by omega) ?_
        refine z_goto rfl ?_
        refine z_iast rfl rfl (by omega) ?_
        refine z_iinc rfl rfl rfl rfl ?_
        refine z_goto rfl ?_
        exact hi _ (by rw [if_pos h29]; exact ho 74 0 (by decide))
/-- the ways' result does not hang on what lies beyond the blocks -/
def BWok (sg : Bool) (co op rb : FI) (n : Nat) (v : Int) : Prop := ∀ (S C W : FI) (E : Int → Bool), (∀ b, 0 ≤ b → b < (gnb op rb n : Int) → S b = gS op rb n b ∧ C b = gC co op rb n b ∧ E b = gE op rb n b) → W0ok C W (gnb op rb n) → v = bwv sg E (gnb op rb n) (wl sg S C (gnb op rb n) (gnb op rb n) W)
theorem m_bestWay {Z : ZW} {J : Int64} {n : Nat} {sg : Bool} {v : Int} (hn : Z 65 0 = n) (hn2 : n ≤ 24) (hw : WFP (mO Z) (mA Z) (mB Z) n) (hco : COk (mC Z)) (hv : BWok sg (mC Z) (mO Z) (mB Z) n v) : Mz 134 [.ref 64, bI sg] Z J (fun r Z' J' => J' = J ∧ r = some (.int (I (if (gnb (mO Z) (mB Z) n) = 0 then 0 else v))) ∧ ∀ (k : Nat) (j : Int), (k < 70 ∨ 77 < k) → ¬ (k = 64 ∧ j = 9) → Z' k j = Z k j) := by
  have hg := gnb_le (mO Z) (mB Z) n
  have hop := OP_of hw
  have hgk := gok hn2 hop hco
  unfold Mz
  refine z_aload_n rfl rfl ?_
  refine z_callV0g rfl rfl rfl rfl rfl rfl (m_laysBlocks hn hn2 hw) (fun r1 Z1 J1 q1 => ?_)
  obtain ⟨rfl, rfl, hL, hF⟩ := q1
  have hC : COn (Z1 74) (gnb (mO Z) (mB Z) n) := fun b b0 b1 => by rw [(hL.2.2 b b0 b1).2.2.2.1]; exact (hgk b b0 b1).2.2
  have hS : ∀ b : Nat, b < (gnb (mO Z) (mB Z) n) → OnB (gnb (mO Z) (mB Z) n) (Z1 72 b) := fun b hb => by rw [(hL.2.2 b (by omega) (by omega)).2.1]; exact OnB_gS hop b hb
  show OkZ none 134 4 _ [] _ _ _
  refine z_aload_n rfl rfl ?_
  refine z_getI (bi := 9) rfl rfl rfl rfl ?_
  rw [hL.1]
  refine z_if_ne rfl (by omega) (fun h8 => ?_) (fun h8 => ?_)
  · refine z_iconst rfl ?_
    refine z_istore_n rfl rfl rfl ?_
    refine l_way0 (nb := (gnb (mO Z) (mB Z) n)) hL.1 (by omega) hC ?_ (gnb (mO Z) (mB Z) n) 0 Z1 (by omega) (fun b b0 b1 => by omega) (fun _ _ _ => rfl)
    intro Z2 h0 ho
    have ev := hv (Z1 72) (Z1 74) (Z2 77) (gE (mO Z) (mB Z) n) (fun b b0 b1 => ⟨(hL.2.2 b b0 b1).2.1, (hL.2.2 b b0 b1).2.2.2.1, rfl⟩) h0
    refine z_iconst rfl ?_
    refine z_istore_n rfl rfl rfl ?_
    have hW0 : wB (gnb (mO Z) (mB Z) n) 216 (Z2 77) := fun b b0 b1 => by
      have := hC 0 (by omega) (by omega)
      rw [h0 b b0 b1]
      split <;> omega
    have hr := l_rounds (J := J1) (E := gE (mO Z) (mB Z) n) hL.1 (by omega) hC hS (fun b b0 b1 => (hL.2.2 b b0 b1).2.2.1) (gnb (mO Z) (mB Z) n) 0 216 Z2 (by omega) hW0 (by omega) (by omega) ho ev
    refine z_weaken hr ?_
    rintro r' Z3 J3 ⟨rfl, rfl, hf⟩
    exact ⟨rfl, by rw [if_neg (by omega)], fun k j hk h9 => (hf k j (by omega)).trans (hF k j (by omega) h9)⟩
  · refine z_iconst rfl ?_
    exact z_iret rfl rfl ⟨rfl, by rw [if_pos (by omega)], fun k j hk h9 => hF k j (by omega) h9⟩
theorem m_greatestCost {Z : ZW} {J : Int64} {n : Nat} {v : Int} (hn : Z 65 0 = n) (hn2 : n ≤ 24) (hw : WFP (mO Z) (mA Z) (mB Z) n) (hco : COk (mC Z)) (hv : BWok true (mC Z) (mO Z) (mB Z) n v) : Mz 135 [.ref 64] Z J (fun r Z' J' => J' = J ∧ r = some (.int (I (if (gnb (mO Z) (mB Z) n) = 0 then 0 else v))) ∧ ∀ (k : Nat) (j : Int), (k < 70 ∨ 77 < k) → ¬ (k = 64 ∧ j = 9) → Z' k j = Z k j) := by
  have hb := m_bestWay (J := J) (sg := true) hn hn2 hw hco hv
  unfold Mz
  refine z_aload_n rfl rfl ?_
  refine z_iconst rfl ?_
  refine z_callV1g rfl rfl rfl rfl rfl rfl (hb) (fun r2 Z2 J2 q2 => ?_)
  obtain ⟨rfl, rfl, hF⟩ := q2
  show OkZ none 135 5 _ [.int (I (if (gnb (mO Z) (mB Z) n) = 0 then 0 else v))] _ _ _
  exact z_iret rfl rfl ⟨rfl, rfl, hF⟩
theorem m_leastCost {Z : ZW} {J : Int64} {n : Nat} {v : Int} (hn : Z 65 0 = n) (hn2 : n ≤ 24) (hw : WFP (mO Z) (mA Z) (mB Z) n) (hco : COk (mC Z)) (hv : BWok false (mC Z) (mO Z) (mB Z) n v) : Mz 136 [.ref 64] Z J (fun r Z' J' => J' = J ∧ r = some (.int (I (if (gnb (mO Z) (mB Z) n) = 0 then 0 else v))) ∧ ∀ (k : Nat) (j : Int), (k < 70 ∨ 77 < k) → ¬ (k = 64 ∧ j = 9) → Z' k j = Z k j) := by
  have hb := m_bestWay (J := J) (sg := false) hn hn2 hw hco hv
  unfold Mz
  refine z_aload_n rfl rfl ?_
  refine z_iconst rfl ?_
  refine z_callV1g rfl rfl rfl rfl rfl rfl (hb) (fun r2 Z2 J2 q2 => ?_)
  obtain ⟨rfl, rfl, hF⟩ := q2
  show OkZ none 136 5 _ [.int (I (if (gnb (mO Z) (mB Z) n) = 0 then 0 else v))] _ _ _
  exact z_iret rfl rfl ⟨rfl, rfl, hF⟩
