/-! the reference: runs -/
def RQ (Z Z' : ZW) (st s rem ch : Int) (v : FI) : Prop := Z' 64 25 = st ∧ Z' 64 26 = s ∧ Z' 64 27 = rem ∧ Z' 64 28 = ch ∧ (∀ r, 0 ≤ r → r < (4 : Int) → Z' 79 r = v r) ∧ ∀ (k : Nat) (j : Int), k ≠ 79 → ¬ (k = 64 ∧ 25 ≤ j ∧ j ≤ 29) → Z' k j = Z k j
def RF (Z Z' : ZW) (q : RES) : Prop := RQ Z Z' q.1 q.2.1 q.2.2.1 q.2.2.2.1 q.2.2.2.2.2 ∧ (q.1 ≠ 0 → Z' 64 29 = q.2.2.2.2.1)
theorem RQ_up {Z Z' : ZW} {st s rem ch w : Int} {v : FI} (h : RQ Z Z' st s rem ch v) : RQ Z (up Z' 64 29 w) st s rem ch v ∧ RQ Z (up Z' 64 25 w) w s rem ch v ∧ RQ Z (up Z' 64 26 w) st w rem ch v ∧ RQ Z (up Z' 64 27 w) st s w ch v ∧ RQ Z (up Z' 64 28 w) st s rem w v := by
  obtain ⟨a1, a2, a3, a4, a5, a6⟩ := h
  refine ⟨⟨?_, ?_, ?_, ?_, ?_, ?_⟩, ⟨?_, ?_, ?_, ?_, ?_, ?_⟩, ⟨?_, ?_, ?_, ?_, ?_, ?_⟩, ⟨?_, ?_, ?_, ?_, ?_, ?_⟩, ⟨?_, ?_, ?_, ?_, ?_, ?_⟩⟩
  all_goals first
    | exact up_eq
    | (rw [up_nj (by decide)]; assumption)
    | (intro r r0 r1; rw [up_ne (by decide)]; exact a5 r r0 r1)
    | (intro k j h1 h2; unfold up; rw [if_neg (by omega)]; exact a6 k j h1 h2)
theorem l_runend {Z : ZW} {J : Int64} {st : Int} {tl : List (Option Value)} {Φ : ZΦ} (h : Z 64 25 = st) (hs : st ≠ -1) (hr : RG st) (hΦ : Φ none Z J) : OkZ none 138 49 (some (.ref 64) :: tl) [] Z J Φ := by
  refine z_aload_n rfl rfl ?_
  refine z_getI (bi := 25) rfl rfl rfl rfl ?_
  rw [h]
  refine z_iconst rfl ?_
  refine z_icmp_ne rfl hr (by omega) (fun _ => ?_) (fun q => absurd q hs)
  exact z_vret rfl rfl hΦ
set_option maxHeartbeats 1000000 in
theorem l_run2 {Z : ZW} {J : Int64} {n d s : Nat} {m bu a : Int} {q : RES} (hn : Z 65 0 = n) (hn2 : n ≤ 24) (hw : WFP (mO Z) (mA Z) (mB Z) n) (hco : COk (mC Z)) (ih : ∀ (s' : Nat) (a' : Int) (paid' : Bool) (rem' ch' : Int) (v' : FI) (x5 x6 x7 : Option Value) (Z' : ZW), s' = s + 1 → (0 ≤ a' ∧ a' ≤ 24) → (0 ≤ rem' ∧ rem' ≤ 30000) → RQ Z Z' (-1) s' rem' ch' v' → q = rn n (mO Z) (mA Z) (mB Z) (fun j => mC Z (mO Z j)) (ent (mC Z) (mO Z) (mB Z) n m) d s' a' paid' rem' ch' v' → OkZ none 138 49 [some (.ref 64), some (.int (I m)), some (.int (I bu)), some (.int (I a')), some (bI paid'), x5, x6, x7] [] Z' J (fun r Z' J' => r = none ∧ J' = J ∧ RF Z Z' q)) (ha : 0 ≤ a ∧ a < (n : Int)) (p1 : Bool) (rem1 ch1 : Int) (v : FI) (x5 x6 x7 : Option Value) (Z2 : ZW) (hrem : 0 ≤ rem1 ∧ rem1 ≤ 30000) (hQ : RQ Z Z2 (-1) s rem1 ch1 v) (h29 : Z2 64 29 = a) (hq : q = rnX n (mO Z) (mA Z) (mB Z) (fun j => mC Z (mO Z j)) (ent (mC Z) (mO Z) (mB Z) n m) d s a p1 rem1 ch1 v) : OkZ none 138 229 [some (.ref 64), some (.int (I m)), some (.int (I bu)), some (.int (I a)), some (bI p1), x5, x6, x7] [] Z2 J (fun r Z' J' => r = none ∧ J' = J ∧ RF Z Z' q) := by
  have g25 := hQ.1
  have g26 := hQ.2.1
  have g27 := hQ.2.2.1
  have g28 := hQ.2.2.2.1
  have hwa := hw a ha.1 ha.2
  have e65 : Z2 65 = Z 65 := funext fun j => hQ.2.2.2.2.2 65 j (by decide) (by omega)
  have hcb := hco (mO Z a) hwa.1.1 (by omega)
  have mcost : D 114 [.ref 64, .int (I a)] Z2 J (some (.int (I (mC Z (mO Z a))))) Z2 J := by
    have z := m_costAt (Z := Z2) (J := J) (x := a) (by omega) (by rw [e65]; exact hwa.1)
    rw [e65] at z
    exact z
  have fin : ∀ (Z3 : ZW) (rem2 ch2 : Int) (p2 : Bool), 0 ≤ rem2 ∧ rem2 ≤ 30000 → RQ Z Z3 (-1) (s + 1 : Nat) rem2 ch2 v → q = rn n (mO Z) (mA Z) (mB Z) (fun j => mC Z (mO Z j)) (ent (mC Z) (mO Z) (mB Z) n m) d (s + 1) (nA (mO Z a) (mA Z a) (mB Z a) v a) p2 rem2 ch2 (nR (mO Z a) (mA Z a) (mB Z a) v) → OkZ none 138 306 [some (.ref 64), some (.int (I m)), some (.int (I bu)), some (.int (I a)), some (bI p2), x5, x6, x7] [] Z3 J (fun r Z' J' => r = none ∧ J' = J ∧ RF Z Z' q) := by
    intro Z3 rem2 ch2 p2 hr2 hQ3 hq3
    have f65 : Z3 65 = Z 65 := funext fun j => hQ3.2.2.2.2.2 65 j (by decide) (by omega)
    have f79 := hQ3.2.2.2.2.1
    have md := m_does (Z := Z3) (J := J) (x := a) (o := mO Z a) (a := mA Z a) (b := mB Z a) (by rw [f65]; rfl) (by rw [f65]; rfl) (by rw [f65]; rfl) (by omega) hwa.1 hwa.2.1 hwa.2.2.2.1
    have en : nA (mO Z a) (mA Z a) (mB Z a) (Z3 79) a = nA (mO Z a) (mA Z a) (mB Z a) v a := nA_congr (f79 _ hwa.2.1.1 (by omega))
    have er := nR_congr (o := mO Z a) (a := mA Z a) (b := mB Z a) f79 ⟨hwa.2.1.1, by omega⟩ (fun z => ⟨(hwa.2.2.2.1 z).1, by have := (hwa.2.2.2.1 z).2; omega⟩)
    have hin := nA_in hw hn2 ha.1 ha.2 v
    rw [en] at md
    refine z_aload_n rfl rfl ?_
    refine z_iload_n rfl rfl ?_
    refine z_callV1g rfl rfl rfl rfl rfl rfl (md) (fun r308 Z308 J308 q308 => ?_)
    obtain ⟨rfl, rfl, q79, qf⟩ := q308
    show OkZ none 138 311 _ [.int (I (nA (mO Z a) (mA Z a) (mB Z a) v a))] _ _ _
    refine z_istore_n rfl rfl rfl ?_
    refine z_goto rfl ?_
    obtain ⟨b1, b2, b3, b4, b5, b6⟩ := hQ3
    exact ih (s + 1) _ p2 rem2 ch2 _ x5 x6 x7 Z308 rfl hin hr2 ⟨by rw [qf 64 25 (by decide)]; exact b1, by rw [qf 64 26 (by decide)]; exact b2, by rw [qf 64 27 (by decide)]; exact b3, by rw [qf 64 28 (by decide)]; exact b4, fun r r0 r1 => by rw [q79]; exact er r r0 r1, fun k j h1 h2 => by rw [qf k j h1]; exact b6 k j h1 h2⟩ hq3
  refine z_iload rfl rfl ?_
  refine z_ifb_ne rfl (fun h231 => ?_) (fun h231 => ?_)
  · refine z_aload_n rfl rfl ?_
    refine z_dup rfl rfl ?_
    refine z_getI (bi := 27) rfl rfl rfl rfl ?_
    rw [g27]
    refine z_iload rfl rfl ?_
    refine z_ifb_eq rfl (fun h261 => ?_) (fun h261 => ?_)
    · exact absurd (h231.symm.trans h261) (by decide)
    · refine z_iconst rfl ?_
      refine z_goto rfl ?_
      refine z_isub rfl ?_
      refine z_putI (bi := 27) rfl rfl rfl rfl rfl ?_
      refine z_aload_n rfl rfl ?_
      refine z_dup rfl rfl ?_
      refine z_getI (bi := 28) rfl rfl rfl rfl ?_
      rw [up_nj (by decide), g28]
      refine z_iload rfl rfl ?_
      refine z_ifb_eq rfl (fun h284 => ?_) (fun h284 => ?_)
      · exact absurd (h231.symm.trans h284) (by decide)
      · refine z_iconst rfl ?_
        refine z_goto rfl ?_
        refine z_iadd rfl ?_
        refine z_putI (bi := 28) rfl rfl rfl rfl rfl ?_
        refine z_aload_n rfl rfl ?_
        refine z_dup rfl rfl ?_
        refine z_getI (bi := 26) rfl rfl rfl rfl ?_
        rw [up_nj (by decide), up_nj (by decide), g26]
        refine z_iconst rfl ?_
        refine z_iadd rfl ?_
        refine z_putI (bi := 26) rfl rfl rfl rfl rfl ?_
        have hqq : q = rn n (mO Z) (mA Z) (mB Z) (fun j => mC Z (mO Z j)) (ent (mC Z) (mO Z) (mB Z) n m) d (s + 1) (nA (mO Z a) (mA Z a) (mB Z a) v a) p1 rem1 ch1 (nR (mO Z a) (mA Z a) (mB Z a) v) := by rw [hq]; unfold rnX; rw [if_pos h231]
        exact fin _ (rem1 - 0) (ch1 + 0) p1 (by omega) ((RQ_up ((RQ_up ((RQ_up hQ).2.2.2.1)).2.2.2.2)).2.2.1) (by rw [show rem1 - 0 = rem1 by omega, show ch1 + 0 = ch1 by omega]; exact hqq)
  · refine z_aload_n rfl rfl ?_
    refine z_getI (bi := 27) rfl rfl rfl rfl ?_
    rw [g27]
    refine z_aload_n rfl rfl ?_
    refine z_iload_n rfl rfl ?_
    refine z_callV1 rfl rfl rfl rfl rfl rfl (mcost) ?_
    refine z_icmp_ge rfl (by omega) (by omega) (fun h243 => ?_) (fun h243 => ?_)
    · refine z_aload_n rfl rfl ?_
      refine z_dup rfl rfl ?_
      refine z_getI (bi := 27) rfl rfl rfl rfl ?_
      rw [g27]
      refine z_iload rfl rfl ?_
      refine z_ifb_eq rfl (fun h261 => ?_) (fun h261 => ?_)
      · refine z_aload_n rfl rfl ?_
        refine z_iload_n rfl rfl ?_
        refine z_callV1 rfl rfl rfl rfl rfl rfl (mcost) ?_
        refine z_isub rfl ?_
        refine z_putI (bi := 27) rfl rfl rfl rfl rfl ?_
        refine z_aload_n rfl rfl ?_
        refine z_dup rfl rfl ?_
        refine z_getI (bi := 28) rfl rfl rfl rfl ?_
        rw [up_nj (by decide), g28]
        refine z_iload rfl rfl ?_
        refine z_ifb_eq rfl (fun h284 => ?_) (fun h284 => ?_)
        · refine z_iconst rfl ?_
          refine z_iadd rfl ?_
          refine z_putI (bi := 28) rfl rfl rfl rfl rfl ?_
          refine z_aload_n rfl rfl ?_
          refine z_dup rfl rfl ?_
          refine z_getI (bi := 26) rfl rfl rfl rfl ?_
          rw [up_nj (by decide), up_nj (by decide), g26]
          refine z_iconst rfl ?_
          refine z_iadd rfl ?_
          refine z_putI (bi := 26) rfl rfl rfl rfl rfl ?_
          have hqq : q = rn n (mO Z) (mA Z) (mB Z) (fun j => mC Z (mO Z j)) (ent (mC Z) (mO Z) (mB Z) n m) d (s + 1) (nA (mO Z a) (mA Z a) (mB Z a) v a) p1 (rem1 - mC Z (mO Z a)) (ch1 + 1) (nR (mO Z a) (mA Z a) (mB Z a) v) := by rw [hq]; unfold rnX; rw [if_neg (by rw [h231]; decide), if_pos h243]
          exact fin _ (rem1 - mC Z (mO Z a)) (ch1 + 1) p1 (by omega) ((RQ_up ((RQ_up ((RQ_up hQ).2.2.2.1)).2.2.2.2)).2.2.1) hqq
        · exact absurd (h231.symm.trans h284) (by decide)
      · exact absurd (h231.symm.trans h261) (by decide)
    · refine z_aload_n rfl rfl ?_
      refine z_iconst rfl ?_
      refine z_putI (bi := 25) rfl rfl rfl rfl rfl ?_
      refine z_goto rfl ?_
      refine z_goto rfl ?_
      have hqq : q = ((1 : Int), (s : Int), rem1, ch1, a, v) := by rw [hq]; unfold rnX; rw [if_neg (by rw [h231]; decide), if_neg h243]
      refine l_runend (st := 1) up_eq (by decide) (by omega) ⟨rfl, rfl, ?_⟩
      rw [hqq]
      exact ⟨(RQ_up hQ).2.1, fun _ => by rw [up_nj (by decide)]; exact h29⟩
set_option maxHeartbeats 1000000 in
theorem l_runs {Z : ZW} {J : Int64} {n : Nat} {m bu : Int} {q : RES} (hn : Z 65 0 = n) (hn2 : n ≤ 24) (hw : WFP (mO Z) (mA Z) (mB Z) n) (hco : COk (mC Z)) (hL : LB (mC Z) (mO Z) (mB Z) n Z) (hm : 0 ≤ m ∧ m ≤ 2) : ∀ (d s : Nat) (a : Int) (paid : Bool) (rem ch : Int) (v : FI) (x5 x6 x7 : Option Value) (Z' : ZW), s + d = 3000 → (0 ≤ a ∧ a ≤ 24) → (0 ≤ rem ∧ rem ≤ 30000) → RQ Z Z' (-1) s rem ch v → q = rn n (mO Z) (mA Z) (mB Z) (fun j => mC Z (mO Z j)) (ent (mC Z) (mO Z) (mB Z) n m) d s a paid rem ch v → OkZ none 138 49 [some (.ref 64), some (.int (I m)), some (.int (I bu)), some (.int (I a)), some (bI paid), x5, x6, x7] [] Z' J (fun r Z' J' => r = none ∧ J' = J ∧ RF Z Z' q) := by
  have hg := gnb_le (mO Z) (mB Z) n
  have hop := OP_of hw
  intro d
  induction d with
  | zero =>
    intro s a paid rem ch v x5 x6 x7 Z' hs ha hrem hQ hq
    have g26 : up Z' 64 29 a 64 26 = (s : Int) := by rw [up_nj (by decide)]; exact hQ.2.1
    have e0 : up Z' 64 29 a 65 0 = n := by rw [up_ne (by decide), hQ.2.2.2.2.2 65 0 (by decide) (by omega)]; exact hn
    refine z_aload_n rfl rfl ?_
    refine z_getI (bi := 25) rfl rfl rfl rfl ?_
    rw [hQ.1]
    refine z_iconst rfl ?_
    refine z_icmp_ne rfl (by omega) (by omega) (fun h54 => ?_) (fun h54 => ?_)
    · exfalso; omega
    · refine z_aload_n rfl rfl ?_
      refine z_iload_n rfl rfl ?_
      refine z_putI (bi := 29) rfl rfl rfl rfl rfl ?_
      refine z_iload_n rfl rfl ?_
      refine z_aload_n rfl rfl ?_
      refine z_getR rfl rfl rfl rfl ?_
      refine z_iconst rfl ?_
      refine z_iald rfl rfl (by omega) ?_
      rw [e0]
      refine z_icmp_lt rfl (by omega) (by omega) (fun h69 => ?_) (fun h69 => ?_)
      · refine z_aload_n rfl rfl ?_
        refine z_getI (bi := 26) rfl rfl rfl rfl ?_
        rw [g26]
        refine z_sipush rfl (by decide) ?_
        refine z_icmp_ne rfl (by omega) (by omega) (fun h87 => ?_) (fun h87 => ?_)
        · exfalso; omega
        · refine z_aload_n rfl rfl ?_
          refine z_iconst rfl ?_
          refine z_putI (bi := 25) rfl rfl rfl rfl rfl ?_
          refine z_goto rfl ?_
          rw [rn_zero ⟨ha.1, by omega⟩] at hq
          refine l_runend (st := 2) up_eq (by decide) (by omega) ⟨rfl, rfl, ?_⟩
          rw [hq]
          exact ⟨(RQ_up (RQ_up hQ).1).2.1, fun z => by rw [up_nj (by decide), up_eq]⟩
      · refine z_aload_n rfl rfl ?_
        refine z_iconst rfl ?_
        refine z_putI (bi := 25) rfl rfl rfl rfl rfl ?_
        refine z_goto rfl ?_
        rw [rn_out (by omega)] at hq
        refine l_runend (st := 0) up_eq (by decide) (by omega) ⟨rfl, rfl, ?_⟩
        rw [hq]
        exact ⟨(RQ_up (RQ_up hQ).1).2.1, fun z => absurd rfl z⟩
  | succ d ih =>
    intro s a paid rem ch v x5 x6 x7 Z' hs ha hrem hQ hq
    have g26 : up Z' 64 29 a 64 26 = (s : Int) := by rw [up_nj (by decide)]; exact hQ.2.1
    have e0 : up Z' 64 29 a 65 0 = n := by rw [up_ne (by decide), hQ.2.2.2.2.2 65 0 (by decide) (by omega)]; exact hn
    obtain ⟨Z1, eZ1⟩ : ∃ Z1, Z1 = up Z' 64 29 a := ⟨_, rfl⟩
    have hQ1 : RQ Z Z1 (-1) s rem ch v := by rw [eZ1]; exact (RQ_up hQ).1
    have h29 : Z1 64 29 = a := by rw [eZ1]; exact up_eq
    have f71 : Z1 71 = Z 71 := funext fun j => hQ1.2.2.2.2.2 71 j (by decide) (by omega)
    have f70 : Z1 70 = Z 70 := funext fun j => hQ1.2.2.2.2.2 70 j (by decide) (by omega)
    have f76 : Z1 76 = Z 76 := funext fun j => hQ1.2.2.2.2.2 76 j (by decide) (by omega)
    have f74 : Z1 74 = Z 74 := funext fun j => hQ1.2.2.2.2.2 74 j (by decide) (by omega)
    have f9 : Z1 64 9 = gnb (mO Z) (mB Z) n := by rw [hQ1.2.2.2.2.2 64 9 (by decide) (by omega)]; exact hL.1
    have g27 := hQ1.2.2.1
    have g28 := hQ1.2.2.2.1
    have K98 : a < (n : Int) → OkZ none 138 98 [some (.ref 64), some (.int (I m)), some (.int (I bu)), some (.int (I a)), some (bI paid), x5, x6, x7] [] Z1 J (fun r Z' J' => r = none ∧ J' = J ∧ RF Z Z' q) := by
      intro han
      have hin : 0 ≤ a ∧ a < (n : Int) := ⟨ha.1, han⟩
      obtain ⟨b, eb⟩ : ∃ b, b = gblk (mO Z) (mB Z) n a := ⟨_, rfl⟩
      have hb := gblk_in (op := mO Z) (rb := mB Z) hin.1 hin.2
      rw [← eb] at hb
      obtain ⟨c1, c2, c3, c4, c5⟩ := hL.2.2 b hb.1 hb.2
      have c0 := hL.2.1 a hin.1 hin.2
      rw [← eb] at c0
      have hst := gst_in (op := mO Z) (rb := mB Z) (n := n) hb.1 hb.2
      have hhd := Hd_in (gJ_ok (mO Z) (mB Z) hn2) hb.1 hb.2 (gH_hd (mO Z) (mB Z) hn2 hb.1 hb.2)
      have hek := ent_in hn2 hop hco m a
      have mch : D 125 [.ref 64, .int (I b)] Z1 J (some (.int (I (gK (mC Z) (mO Z) (mB Z) n (gH (mO Z) (mB Z) n b))))) Z1 J := by
        have z := m_chainCostOf (Z := Z1) (J := J) f9 (by omega) hb (by rw [f76]; exact LB_H hn2 hL)
        rw [f76, f74, cc_gK hL hb.1 hb.2] at z
        exact z
      refine z_aload_n rfl rfl ?_
      refine z_getR rfl rfl rfl rfl ?_
      refine z_iload_n rfl rfl ?_
      refine z_iald rfl rfl (by omega) ?_
      rw [f71, c0]
      refine z_istore rfl rfl rfl ?_
      refine z_aload_n rfl rfl ?_
      refine z_getR rfl rfl rfl rfl ?_
      refine z_iload rfl rfl ?_
      refine z_iald rfl rfl (by omega) ?_
      rw [f70, c1]
      refine z_iload_n rfl rfl ?_
      refine z_icmp_ne rfl (by omega) (by omega) (fun h114 => ?_) (fun h114 => ?_)
      · refine z_iconst rfl ?_
        refine z_istore rfl rfl rfl ?_
        refine z_iload rfl rfl ?_
        refine z_if_eq rfl (by omega) (fun h148 => ?_) (fun h148 => ?_)
        · have he : (ent (mC Z) (mO Z) (mB Z) n m) a = 0 := ent_no hm hin.1 hin.2 (by rw [← eb]; exact fun z => h114 z.1)
          have hq2 := hq.trans (rn_e3 hin (by rw [he]; decide))
          exact l_run2 hn hn2 hw hco (fun s' a' paid' rem' ch' v' y5 y6 y7 Z3 es ha' hr' hQ' hq' => ih s' a' paid' rem' ch' v' y5 y6 y7 Z3 (by omega) ha' hr' hQ' hq') hin paid (rem) (ch) v (some (.int (I b))) (some (.int (I 0))) (x7) _ (by omega) hQ1 h29 hq2
        · exfalso; omega
      · refine z_iload_n rfl rfl ?_
        refine z_iconst rfl ?_
        refine z_icmp_eq rfl (by omega) (by omega) (fun h119 => ?_) (fun h119 => ?_)
        · refine z_iconst rfl ?_
          refine z_goto rfl ?_
          refine z_istore rfl rfl rfl ?_
          refine z_iload rfl rfl ?_
          refine z_if_eq rfl (by omega) (fun h148 => ?_) (fun h148 => ?_)
          · exfalso; omega
          · refine z_iload_n rfl rfl ?_
            refine z_iconst rfl ?_
            refine z_icmp_ne rfl (by omega) (by omega) (fun h153 => ?_) (fun h153 => ?_)
            · exfalso; omega
            · refine z_aload_n rfl rfl ?_
              refine z_getR rfl rfl rfl rfl ?_
              refine z_iload rfl rfl ?_
              have hey := ent_yes hn2 hop hco hin.1 hin.2 (by rw [← eb]; exact h114) (m := m) (Or.inl h119)
              rw [← eb] at hey
              have hev : (ent (mC Z) (mO Z) (mB Z) n m) a = gC (mC Z) (mO Z) (mB Z) n b := by rw [hey.1, if_pos h119]
              rw [hev] at hey
              refine z_iald rfl rfl (by omega) ?_
              rw [f74, c4]
              refine z_goto rfl ?_
              refine z_istore rfl rfl rfl ?_
              refine z_aload_n rfl rfl ?_
              refine z_getI (bi := 27) rfl rfl rfl rfl ?_
              rw [g27]
              refine z_iload rfl rfl ?_
              refine z_icmp_lt rfl (by omega) (by omega) (fun h180 => ?_) (fun h180 => ?_)
              · refine z_iconst rfl ?_
                refine z_istore rfl rfl rfl ?_
                refine z_aload_n rfl rfl ?_
                refine z_dup rfl rfl ?_
                refine z_getI (bi := 27) rfl rfl rfl rfl ?_
                rw [g27]
                refine z_iload rfl rfl ?_
                refine z_if_eq rfl (by omega) (fun h197 => ?_) (fun h197 => ?_)
                · refine z_iconst rfl ?_
                  refine z_isub rfl ?_
                  refine z_putI (bi := 27) rfl rfl rfl rfl rfl ?_
                  refine z_aload_n rfl rfl ?_
                  refine z_dup rfl rfl ?_
                  refine z_getI (bi := 28) rfl rfl rfl rfl ?_
                  rw [up_nj (by decide), g28]
                  refine z_iload rfl rfl ?_
                  refine z_if_eq rfl (by omega) (fun h217 => ?_) (fun h217 => ?_)
                  · refine z_iconst rfl ?_
                    refine z_iadd rfl ?_
                    refine z_putI (bi := 28) rfl rfl rfl rfl rfl ?_
                    have hq1 := hq.trans (rn_e2 hin (by omega) (by omega))
                    have hq2 : q = rnX n (mO Z) (mA Z) (mB Z) (fun j => mC Z (mO Z j)) (ent (mC Z) (mO Z) (mB Z) n m) d s a false (rem - 0) (ch + 0) v := by rw [show rem - 0 = rem by omega, show ch + 0 = ch by omega]; exact hq1
                    exact l_run2 hn hn2 hw hco (fun s' a' paid' rem' ch' v' y5 y6 y7 Z3 es ha' hr' hQ' hq' => ih s' a' paid' rem' ch' v' y5 y6 y7 Z3 (by omega) ha' hr' hQ' hq') hin false (rem - 0) (ch + 0) v (some (.int (I b))) (some (.int (I 1))) (some (.int (I (gC (mC Z) (mO Z) (mB Z) n b)))) _ (by omega) ((RQ_up (RQ_up hQ1).2.2.2.1).2.2.2.2) (by rw [up_nj (by decide), up_nj (by decide)]; exact h29) hq2
                  · exfalso; omega
                · exfalso; omega
              · refine z_iconst rfl ?_
                refine z_goto rfl ?_
                refine z_istore rfl rfl rfl ?_
                refine z_aload_n rfl rfl ?_
                refine z_dup rfl rfl ?_
                refine z_getI (bi := 27) rfl rfl rfl rfl ?_
                rw [g27]
                refine z_iload rfl rfl ?_
                refine z_if_eq rfl (by omega) (fun h197 => ?_) (fun h197 => ?_)
                · exfalso; omega
                · refine z_iload rfl rfl ?_
                  refine z_goto rfl ?_
                  refine z_isub rfl ?_
                  refine z_putI (bi := 27) rfl rfl rfl rfl rfl ?_
                  refine z_aload_n rfl rfl ?_
                  refine z_dup rfl rfl ?_
                  refine z_getI (bi := 28) rfl rfl rfl rfl ?_
                  rw [up_nj (by decide), g28]
                  refine z_iload rfl rfl ?_
                  refine z_if_eq rfl (by omega) (fun h217 => ?_) (fun h217 => ?_)
                  · exfalso; omega
                  · refine z_iconst rfl ?_
                    refine z_goto rfl ?_
                    refine z_iadd rfl ?_
                    refine z_putI (bi := 28) rfl rfl rfl rfl rfl ?_
                    have hq1 := hq.trans (rn_e1 hin (by omega) (by omega))
                    rw [hev] at hq1
                    exact l_run2 hn hn2 hw hco (fun s' a' paid' rem' ch' v' y5 y6 y7 Z3 es ha' hr' hQ' hq' => ih s' a' paid' rem' ch' v' y5 y6 y7 Z3 (by omega) ha' hr' hQ' hq') hin true (rem - gC (mC Z) (mO Z) (mB Z) n b) (ch + 1) v (some (.int (I b))) (some (.int (I 1))) (some (.int (I (gC (mC Z) (mO Z) (mB Z) n b)))) _ (by omega) ((RQ_up (RQ_up hQ1).2.2.2.1).2.2.2.2) (by rw [up_nj (by decide), up_nj (by decide)]; exact h29) hq1
        · refine z_iload_n rfl rfl ?_
          refine z_iconst rfl ?_
          refine z_icmp_ne rfl (by omega) (by omega) (fun h124 => ?_) (fun h124 => ?_)
          · refine z_iconst rfl ?_
            refine z_istore rfl rfl rfl ?_
            refine z_iload rfl rfl ?_
            refine z_if_eq rfl (by omega) (fun h148 => ?_) (fun h148 => ?_)
            · have he : (ent (mC Z) (mO Z) (mB Z) n m) a = 0 := ent_no hm hin.1 hin.2 (by rw [← eb]; exact fun z => by rcases z.2 with z | z; exact h119 z; exact h124 z.1)
              have hq2 := hq.trans (rn_e3 hin (by rw [he]; decide))
              exact l_run2 hn hn2 hw hco (fun s' a' paid' rem' ch' v' y5 y6 y7 Z3 es ha' hr' hQ' hq' => ih s' a' paid' rem' ch' v' y5 y6 y7 Z3 (by omega) ha' hr' hQ' hq') hin paid (rem) (ch) v (some (.int (I b))) (some (.int (I 0))) (x7) _ (by omega) hQ1 h29 hq2
            · exfalso; omega
          · refine z_aload_n rfl rfl ?_
            refine z_getR rfl rfl rfl rfl ?_
            refine z_iload rfl rfl ?_
            refine z_iald rfl rfl (by omega) ?_
            rw [f76, c5]
            refine z_iload rfl rfl ?_
            refine z_icmp_ne rfl (by omega) (by omega) (fun h136 => ?_) (fun h136 => ?_)
            · refine z_iconst rfl ?_
              refine z_istore rfl rfl rfl ?_
              refine z_iload rfl rfl ?_
              refine z_if_eq rfl (by omega) (fun h148 => ?_) (fun h148 => ?_)
              · have he : (ent (mC Z) (mO Z) (mB Z) n m) a = 0 := ent_no hm hin.1 hin.2 (by rw [← eb]; exact fun z => by rcases z.2 with z | z; exact h119 z; exact h136 z.2)
                have hq2 := hq.trans (rn_e3 hin (by rw [he]; decide))
                exact l_run2 hn hn2 hw hco (fun s' a' paid' rem' ch' v' y5 y6 y7 Z3 es ha' hr' hQ' hq' => ih s' a' paid' rem' ch' v' y5 y6 y7 Z3 (by omega) ha' hr' hQ' hq') hin paid (rem) (ch) v (some (.int (I b))) (some (.int (I 0))) (x7) _ (by omega) hQ1 h29 hq2
              · exfalso; omega
            · refine z_iconst rfl ?_
              refine z_goto rfl ?_
              refine z_istore rfl rfl rfl ?_
              refine z_iload rfl rfl ?_
              refine z_if_eq rfl (by omega) (fun h148 => ?_) (fun h148 => ?_)
              · exfalso; omega
              · refine z_iload_n rfl rfl ?_
                refine z_iconst rfl ?_
                refine z_icmp_ne rfl (by omega) (by omega) (fun h153 => ?_) (fun h153 => ?_)
                · refine z_aload_n rfl rfl ?_
                  refine z_iload rfl rfl ?_
                  have hey := ent_yes hn2 hop hco hin.1 hin.2 (by rw [← eb]; exact h114) (m := m) (Or.inr (by rw [← eb]; exact ⟨h124, h136⟩))
                  rw [← eb] at hey
                  have hev : (ent (mC Z) (mO Z) (mB Z) n m) a = gK (mC Z) (mO Z) (mB Z) n (gH (mO Z) (mB Z) n b) := by rw [hey.1, if_neg h119]
                  rw [hev] at hey
                  refine z_callV1 rfl rfl rfl rfl rfl rfl (mch) ?_
                  refine z_istore rfl rfl rfl ?_
                  refine z_aload_n rfl rfl ?_
                  refine z_getI (bi := 27) rfl rfl rfl rfl ?_
                  rw [g27]
                  refine z_iload rfl rfl ?_
                  refine z_icmp_lt rfl (by omega) (by omega) (fun h180 => ?_) (fun h180 => ?_)
                  · refine z_iconst rfl ?_
                    refine z_istore rfl rfl rfl ?_
                    refine z_aload_n rfl rfl ?_
                    refine z_dup rfl rfl ?_
                    refine z_getI (bi := 27) rfl rfl rfl rfl ?_
                    rw [g27]
                    refine z_iload rfl rfl ?_
                    refine z_if_eq rfl (by omega) (fun h197 => ?_) (fun h197 => ?_)
                    · refine z_iconst rfl ?_
                      refine z_isub rfl ?_
                      refine z_putI (bi := 27) rfl rfl rfl rfl rfl ?_
                      refine z_aload_n rfl rfl ?_
                      refine z_dup rfl rfl ?_
                      refine z_getI (bi := 28) rfl rfl rfl rfl ?_
                      rw [up_nj (by decide), g28]
                      refine z_iload rfl rfl ?_
                      refine z_if_eq rfl (by omega) (fun h217 => ?_) (fun h217 => ?_)
                      · refine z_iconst rfl ?_
                        refine z_iadd rfl ?_
                        refine z_putI (bi := 28) rfl rfl rfl rfl rfl ?_
                        have hq1 := hq.trans (rn_e2 hin (by omega) (by omega))
                        have hq2 : q = rnX n (mO Z) (mA Z) (mB Z) (fun j => mC Z (mO Z j)) (ent (mC Z) (mO Z) (mB Z) n m) d s a false (rem - 0) (ch + 0) v := by rw [show rem - 0 = rem by omega, show ch + 0 = ch by omega]; exact hq1
                        exact l_run2 hn hn2 hw hco (fun s' a' paid' rem' ch' v' y5 y6 y7 Z3 es ha' hr' hQ' hq' => ih s' a' paid' rem' ch' v' y5 y6 y7 Z3 (by omega) ha' hr' hQ' hq') hin false (rem - 0) (ch + 0) v (some (.int (I b))) (some (.int (I 1))) (some (.int (I (gK (mC Z) (mO Z) (mB Z) n (gH (mO Z) (mB Z) n b))))) _ (by omega) ((RQ_up (RQ_up hQ1).2.2.2.1).2.2.2.2) (by rw [up_nj (by decide), up_nj (by decide)]; exact h29) hq2
                      · exfalso; omega
                    · exfalso; omega
                  · refine z_iconst rfl ?_
                    refine z_goto rfl ?_
                    refine z_istore rfl rfl rfl ?_
                    refine z_aload_n rfl rfl ?_
                    refine z_dup rfl rfl ?_
                    refine z_getI (bi := 27) rfl rfl rfl rfl ?_
                    rw [g27]
                    refine z_iload rfl rfl ?_
                    refine z_if_eq rfl (by omega) (fun h197 => ?_) (fun h197 => ?_)
                    · exfalso; omega
                    · refine z_iload rfl rfl ?_
                      refine z_goto rfl ?_
                      refine z_isub rfl ?_
                      refine z_putI (bi := 27) rfl rfl rfl rfl rfl ?_
                      refine z_aload_n rfl rfl ?_
                      refine z_dup rfl rfl ?_
                      refine z_getI (bi := 28) rfl rfl rfl rfl ?_
                      rw [up_nj (by decide), g28]
                      refine z_iload rfl rfl ?_
                      refine z_if_eq rfl (by omega) (fun h217 => ?_) (fun h217 => ?_)
                      · exfalso; omega
                      · refine z_iconst rfl ?_
                        refine z_goto rfl ?_
                        refine z_iadd rfl ?_
                        refine z_putI (bi := 28) rfl rfl rfl rfl rfl ?_
                        have hq1 := hq.trans (rn_e1 hin (by omega) (by omega))
                        rw [hev] at hq1
                        exact l_run2 hn hn2 hw hco (fun s' a' paid' rem' ch' v' y5 y6 y7 Z3 es ha' hr' hQ' hq' => ih s' a' paid' rem' ch' v' y5 y6 y7 Z3 (by omega) ha' hr' hQ' hq') hin true (rem - gK (mC Z) (mO Z) (mB Z) n (gH (mO Z) (mB Z) n b)) (ch + 1) v (some (.int (I b))) (some (.int (I 1))) (some (.int (I (gK (mC Z) (mO Z) (mB Z) n (gH (mO Z) (mB Z) n b))))) _ (by omega) ((RQ_up (RQ_up hQ1).2.2.2.1).2.2.2.2) (by rw [up_nj (by decide), up_nj (by decide)]; exact h29) hq1
                · exfalso; omega
    refine z_aload_n rfl rfl ?_
    refine z_getI (bi := 25) rfl rfl rfl rfl ?_
    rw [hQ.1]
    refine z_iconst rfl ?_
    refine z_icmp_ne rfl (by omega) (by omega) (fun h54 => ?_) (fun h54 => ?_)
    · exfalso; omega
    · refine z_aload_n rfl rfl ?_
      refine z_iload_n rfl rfl ?_
      refine z_putI (bi := 29) rfl rfl rfl rfl rfl ?_
      refine z_iload_n rfl rfl ?_
      refine z_aload_n rfl rfl ?_
      refine z_getR rfl rfl rfl rfl ?_
      refine z_iconst rfl ?_
      refine z_iald rfl rfl (by omega) ?_
      rw [e0]
      refine z_icmp_lt rfl (by omega) (by omega) (fun h69 => ?_) (fun h69 => ?_)
      · refine z_aload_n rfl rfl ?_
        refine z_getI (bi := 26) rfl rfl rfl rfl ?_
        rw [g26]
        refine z_sipush rfl (by decide) ?_
        refine z_icmp_ne rfl (by omega) (by omega) (fun h87 => ?_) (fun h87 => ?_)
        · rw [← eZ1]
          exact K98 h69
        · exfalso; omega
      · refine z_aload_n rfl rfl ?_
        refine z_iconst rfl ?_
        refine z_putI (bi := 25) rfl rfl rfl rfl rfl ?_
        refine z_goto rfl ?_
        rw [rn_out (by omega)] at hq
        refine l_runend (st := 0) up_eq (by decide) (by omega) ⟨rfl, rfl, ?_⟩
        rw [hq]
        exact ⟨(RQ_up (RQ_up hQ).1).2.1, fun z => absurd rfl z⟩
theorem l_clr {Z : ZW} {J : Int64} {m bu : Int} {Φ : ZΦ} (hk : ∀ Z', (∀ r, 0 ≤ r → r < (4 : Int) → Z' 79 r = 0) → (∀ (k : Nat) (j : Int), k ≠ 79 → Z' k j = Z k j) → OkZ none 138 24 [some (.ref 64), some (.int (I m)), some (.int (I bu)), some (.int (I 4)), none, none, none, none] [] Z' J Φ) : ∀ (d t : Nat) (Z' : ZW), t + d = 4 → (∀ r, 0 ≤ r → r < (t : Int) → Z' 79 r = 0) → (∀ (k : Nat) (j : Int), k ≠ 79 → Z' k j = Z k j) → OkZ none 138 6 [some (.ref 64), some (.int (I m)), some (.int (I bu)), some (.int (I ((t : Nat) : Int))), none, none, none, none] [] Z' J Φ := by
  intro d
  induction d with
  | zero =>
    intro t Z' ht h1 ho
    have et : t = 4 := by omega
    refine z_iload_n rfl rfl ?_
    refine z_iconst rfl ?_
    refine z_icmp_ge rfl (by omega) (by omega) (fun h8 => ?_) (fun h8 => ?_)
    · rw [et] at h1 ⊢
      exact hk Z' h1 ho
    · exfalso; omega
  | succ d ih =>
    intro t Z' ht h1 ho
    refine z_iload_n rfl rfl ?_
    refine z_iconst rfl ?_
    refine z_icmp_ge rfl (by omega) (by omega) (fun h8 => ?_) (fun h8 => ?_)
    · exfalso; omega
    · refine z_aload_n rfl rfl ?_
      refine z_getR rfl rfl rfl rfl ?_
      refine z_iload_n rfl rfl ?_
      refine z_iconst rfl ?_
      refine z_iast rfl rfl (by omega) ?_
      refine z_iinc rfl rfl rfl rfl ?_
      refine z_goto rfl ?_
      exact ih (t + 1) (up Z' 79 t 0) (by omega) (fun r r0 r1 => by
        by_cases z : r = (t : Int)
        · rw [z, up_eq]
        · rw [up_nj z]; exact h1 r r0 (by omega)) (fun k j hk => by rw [up_ne hk]; exact ho k j hk)
theorem m_runs {Z : ZW} {J : Int64} {n : Nat} {m bu : Int} (hn : Z 65 0 = n) (hn2 : n ≤ 24) (hw : WFP (mO Z) (mA Z) (mB Z) n) (hco : COk (mC Z)) (hm : 0 ≤ m ∧ m ≤ 2) (hb : 0 ≤ bu ∧ bu ≤ 30000) : Mz 138 [.ref 64, .int (I m), .int (I bu)] Z J (fun r Z' J' => r = none ∧ J' = J ∧ ∃ Z1, LBf Z Z1 ∧ RF Z1 Z' (RN (mC Z) (mO Z) (mA Z) (mB Z) n m bu)) := by
  unfold Mz
  refine z_aload_n rfl rfl ?_
  refine z_callV0g rfl rfl rfl rfl rfl rfl (m_laysBlocks hn hn2 hw) (fun r1 Z1 J1 q1 => ?_)
  obtain ⟨rfl, rfl, hL, hF⟩ := q1
  show OkZ none 138 4 _ [] _ _ _
  refine z_iconst rfl ?_
  refine z_istore_n rfl rfl rfl ?_
  refine l_clr (Z := Z1) (m := m) (bu := bu) ?_ 4 0 Z1 (by omega) (fun r r0 r1 => by omega) (fun _ _ _ => rfl)
  intro Z2 h79 ho
  have e65 : Z1 65 = Z 65 := funext fun j => hF 65 j (by omega) (by omega)
  have eO : mO Z1 = mO Z := by unfold mO; rw [e65]
  have eA : mA Z1 = mA Z := by unfold mA; rw [e65]
  have eB : mB Z1 = mB Z := by unfold mB; rw [e65]
  have eC : mC Z1 = mC Z := by unfold mC; rw [e65]
  refine z_iconst rfl ?_
  refine z_istore_n rfl rfl rfl ?_
  refine z_iconst rfl ?_
  refine z_istore rfl rfl rfl ?_
  refine z_aload_n rfl rfl ?_
  refine z_iconst rfl ?_
  refine z_putI (bi := 25) rfl rfl rfl rfl rfl ?_
  refine z_aload_n rfl rfl ?_
  refine z_iconst rfl ?_
  refine z_putI (bi := 26) rfl rfl rfl rfl rfl ?_
  refine z_aload_n rfl rfl ?_
  refine z_iload_n rfl rfl ?_
  refine z_putI (bi := 27) rfl rfl rfl rfl rfl ?_
  refine z_aload_n rfl rfl ?_
  refine z_iconst rfl ?_
  refine z_putI (bi := 28) rfl rfl rfl rfl rfl ?_
  have hL1 : LB (mC Z1) (mO Z1) (mB Z1) n Z1 := by rw [eC, eO, eB]; exact hL
  have hQ0 : RQ Z1 (up (up (up (up Z2 64 25 (-1)) 64 26 0) 64 27 bu) 64 28 0) (-1) (0 : Nat) bu 0 (fun _ => 0) := by
    refine ⟨?_, ?_, ?_, ?_, ?_, ?_⟩
    · rw [up_nj (by decide), up_nj (by decide), up_nj (by decide), up_eq]
    · rw [up_nj (by decide), up_nj (by decide), up_eq]; rfl
    · rw [up_nj (by decide), up_eq]
    · rw [up_eq]
    · intro r r0 r1; rw [up_ne (by decide), up_ne (by decide), up_ne (by decide), up_ne (by decide)]; exact h79 r r0 r1
    · intro k j h1 h2; unfold up; rw [if_neg (by omega), if_neg (by omega), if_neg (by omega), if_neg (by omega)]; exact ho k j h1
  have hgo := l_runs (Z := Z1) (J := J1) (bu := bu) (q := RN (mC Z) (mO Z) (mA Z) (mB Z) n m bu) (by rw [e65]; exact hn) hn2 (by rw [eO, eA, eB]; exact hw) (by rw [eC]; exact hco) hL1 hm 3000 0 0 false bu 0 (fun _ => 0) none none none (up (up (up (up Z2 64 25 (-1)) 64 26 0) 64 27 bu) 64 28 0) (by omega) (by omega) hb hQ0 (by rw [eC, eO, eA, eB]; rfl)
  refine z_weaken hgo ?_
  rintro r' Z3 J3 ⟨rfl, rfl, hR⟩
  exact ⟨rfl, rfl, Z1, hF, hR⟩
