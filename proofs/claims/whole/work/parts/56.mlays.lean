/-! the reference: blocks are laid, the whole of it -/
theorem it_congr {jo jo' : FI} {nb : Nat} {b : Int} (hj : JOk jo nb) (h : ∀ p, 0 ≤ p → p < (nb : Int) → jo p = jo' p) (h0 : 0 ≤ b) (h1 : b < nb) : ∀ k, Live jo k b → itJ jo k b = itJ jo' k b := by
  intro k
  induction k with
  | zero => intro _; rfl
  | succ k ih =>
    intro hl
    have hl' : Live jo k b := fun i hi => hl i (by omega)
    have hi := it_in hj h0 h1 k hl'
    show jo (itJ jo k b) = jo' (itJ jo' k b)
    rw [← ih hl']
    exact h _ hi.1 hi.2
theorem Live_congr {jo jo' : FI} {nb : Nat} {b : Int} (hj : JOk jo nb) (h : ∀ p, 0 ≤ p → p < (nb : Int) → jo p = jo' p) (h0 : 0 ≤ b) (h1 : b < nb) {k : Nat} (hl : Live jo k b) : Live jo' k b := by
  intro i hi
  have hl' : Live jo i b := fun j hj => hl j (by omega)
  have hin := it_in hj h0 h1 i hl'
  rw [← it_congr hj h h0 h1 i hl', ← h _ hin.1 hin.2]
  exact hl i hi
theorem Hd_congr {jo jo' : FI} {nb : Nat} {b v : Int} (hj : JOk jo nb) (h : ∀ p, 0 ≤ p → p < (nb : Int) → jo p = jo' p) (h0 : 0 ≤ b) (h1 : b < nb) (hd : Hd jo b v) : Hd jo' b v := by
  have hv := Hd_in hj h0 h1 hd
  rcases hd with ⟨k, hl, e, en⟩ | ⟨hl, ⟨k, e⟩, hm⟩
  · refine Or.inl ⟨k, Live_congr hj h h0 h1 hl, ?_, ?_⟩
    · rw [← it_congr hj h h0 h1 k hl]; exact e
    · rw [← h v hv.1 hv.2]; exact en
  · refine Or.inr ⟨fun k => Live_congr hj h h0 h1 (hl k), ⟨k, ?_⟩, fun k => ?_⟩
    · rw [← it_congr hj h h0 h1 k (hl k)]; exact e
    · rw [← it_congr hj h h0 h1 k (hl k)]; exact hm k
theorem JOk_congr {jo jo' : FI} {nb : Nat} (h : ∀ p, 0 ≤ p → p < (nb : Int) → jo p = jo' p) (hj : JOk jo nb) : JOk jo' nb := by
  refine ⟨fun p p0 p1 => by rw [← h p p0 p1]; exact hj.1 p p0 p1, fun p q p0 p1 q0 q1 hn he => ?_⟩
  rw [← h p p0 p1] at hn he
  rw [← h q q0 q1] at he
  exact hj.2 p q p0 p1 q0 q1 hn he
/-- what lies in the reference's rows behind laysBlocks -/
def LB (co op rb : FI) (n : Nat) (Z' : ZW) : Prop := Z' 64 9 = gnb op rb n ∧ (∀ i, 0 ≤ i → i < (n : Int) → Z' 71 i = gblk op rb n i) ∧ ∀ b, 0 ≤ b → b < (gnb op rb n : Int) → Z' 70 b = gst op rb n b ∧ Z' 72 b = gS op rb n b ∧ Z' 73 b = (if gE op rb n b then 1 else 0) ∧ Z' 74 b = gC co op rb n b ∧ Z' 76 b = gH op rb n b
def LBf (Z Z' : ZW) : Prop := ∀ (k : Nat) (j : Int), (k < 70 ∨ 76 < k) → ¬ (k = 64 ∧ j = 9) → Z' k j = Z k j
set_option maxHeartbeats 1000000 in
theorem m_laysBlocks {Z : ZW} {J : Int64} {n : Nat} (hn : Z 65 0 = n) (hn2 : n ≤ 24) (hw : WFP (mO Z) (mA Z) (mB Z) n) : Mz 123 [.ref 64] Z J (fun r Z' J' => r = none ∧ J' = J ∧ LB (mC Z) (mO Z) (mB Z) n Z' ∧ LBf Z Z') := by
  unfold Mz
  obtain ⟨Φ, eΦ⟩ : ∃ Φ : ZΦ, Φ = (fun r Z' J' => r = none ∧ J' = J ∧ LB (mC Z) (mO Z) (mB Z) n Z' ∧ LBf Z Z') := ⟨_, rfl⟩
  rw [← eΦ]
  have hop : OPok (mO Z) (mB Z) n := OP_of hw
  have hld : ∀ i : Nat, i < n → mLd (mO Z) (mB Z) n i = ldr (mO Z) (mB Z) n i := fun i hi => (ld_eq hw hn2 ⟨by omega, by omega⟩).symm
  have ecn : ∀ t, t ≤ n → cnt (mLd (mO Z) (mB Z) n) t = cnt (ldr (mO Z) (mB Z) n) t := fun t ht => cnt_congr t (fun i hi => hld i (by omega))
  have enb : cnt (mLd (mO Z) (mB Z) n) n = gnb (mO Z) (mB Z) n := ecn n (Nat.le_refl _)
  have ebl : ∀ i, 0 ≤ i → i < (n : Int) → blF (mLd (mO Z) (mB Z) n) i = gblk (mO Z) (mB Z) n i := fun i i0 i1 => by
    unfold blF gblk
    rw [ecn _ (by omega)]
  have hg := gnb_le (mO Z) (mB Z) n
  have K1 : ∀ Z1, BkI (mLd (mO Z) (mB Z) n) (fun j => mC Z (mO Z j)) Z Z1 n n → OkZ none 123 92 [some (.ref 64), some (.int (I ((n : Nat) : Int))), none] [] Z1 J Φ := by
    intro Z1 h1
    obtain ⟨a1, a2, a3, a4⟩ := h1
    have e65 : Z1 65 = Z 65 := funext fun j => a4 65 j (by decide) (by decide) (by decide) (fun q => absurd q.1 (by decide))
    have e0 : Z1 65 0 = n := by rw [e65]; exact hn
    have eO : mO Z1 = mO Z := by unfold mO; rw [e65]
    have eA : mA Z1 = mA Z := by unfold mA; rw [e65]
    have eB : mB Z1 = mB Z := by unfold mB; rw [e65]
    have e9 : Z1 64 9 = gnb (mO Z) (mB Z) n := by rw [a1, enb]
    rw [enb] at a3
    have b71 : ∀ i, 0 ≤ i → i < (n : Int) → Z1 71 i = gblk (mO Z) (mB Z) n i := fun i i0 i1 => (a2 i i0 i1).trans (ebl i i0 i1)
    have b70 : ∀ b, 0 ≤ b → b < (gnb (mO Z) (mB Z) n : Int) → Z1 70 b = gst (mO Z) (mB Z) n b ∧ Z1 74 b = gC (mC Z) (mO Z) (mB Z) n b := fun b b0 b1 => by
      obtain ⟨c1, c2⟩ := a3 b b0 b1
      refine ⟨c1.trans (stF_congr b n (fun i hi => hld i hi)), c2.trans (bcF_congr (fun t ht => ⟨rfl, ebl t (by omega) (by omega)⟩) b)⟩
    refine z_iconst rfl ?_
    refine z_istore_n rfl rfl rfl ?_
    refine l_blk2 (n := n) (nb := gnb (mO Z) (mB Z) n) (la := gla (mO Z) (mB Z) n) e0 hn2 e9 (by omega) (by rw [eO, eA, eB]; exact hw) (fun b b0 b1 => ⟨gla_in b0 b1, ?_⟩) (fun x x0 x1 => ?_) ?_ (gnb (mO Z) (mB Z) n) 0 Z1 (by omega) ⟨fun b b0 b1 => by omega, fun _ _ _ _ => rfl⟩
    · have q := ls_la (l := ldr (mO Z) (mB Z) n) (lm0 (mO Z) (mB Z) n) n b b0 b1
      show laF (ldr (mO Z) (mB Z) n) n b = _
      rw [q]
      unfold lsF
      show (if b = (gnb (mO Z) (mB Z) n : Int) - 1 then _ else _) = _
      by_cases hb : b = (gnb (mO Z) (mB Z) n : Int) - 1
      · rw [if_pos hb, if_pos hb]
      · rw [if_neg hb, if_neg hb, (b70 (b + 1) (by omega) (by omega)).1]
        rfl
    · have q := gblk_in (op := mO Z) (rb := mB Z) (n := n) x0 x1
      rw [b71 x x0 x1]
      omega
    · intro Z2 h2
      rw [eO, eB] at h2
      obtain ⟨c1, c2⟩ := h2
      have d9 : Z2 64 9 = gnb (mO Z) (mB Z) n := by rw [c2 64 9 (by decide) (by decide)]; exact e9
      have d72 : ∀ b, 0 ≤ b → b < (gnb (mO Z) (mB Z) n : Int) → Z2 72 b = gS (mO Z) (mB Z) n b ∧ Z2 73 b = (if gE (mO Z) (mB Z) n b then 1 else 0) := fun b b0 b1 =>
        ⟨(c1 b b0 b1).1.trans (lfM_gS hop b0 b1 b71), (c1 b b0 b1).2.trans (lfE_gE hop b0 b1)⟩
      have ecm : ∀ q, 0 ≤ q → q < (gnb (mO Z) (mB Z) n : Int) → cmF (Z2 72) (gnb (mO Z) (mB Z) n) q = gP (mO Z) (mB Z) n q := fun q q0 q1 =>
        cm_pm (by omega) (fun t ht => (d72 t (by omega) (by omega)).1)
      have ejo : ∀ q, 0 ≤ q → q < (gnb (mO Z) (mB Z) n : Int) → joF (fun q p => decide (q ≠ 0 ∧ q ≠ p ∧ Z2 73 p = 0 ∧ Z2 72 p = bitv q ∧ cmF (Z2 72) (gnb (mO Z) (mB Z) n) q = bitv p)) (gnb (mO Z) (mB Z) n) q = gJ (mO Z) (mB Z) n q := fun q q0 q1 => by
        refine joF_congr q (fun t ht => ?_)
        obtain ⟨f1, f2⟩ := d72 t (by omega) (by omega)
        show decide (q ≠ 0 ∧ q ≠ (t : Int) ∧ Z2 73 t = 0 ∧ Z2 72 t = bitv q ∧ cmF (Z2 72) (gnb (mO Z) (mB Z) n) q = bitv t) = decide (q ≠ 0 ∧ q ≠ (t : Int) ∧ gE (mO Z) (mB Z) n t = false ∧ gS (mO Z) (mB Z) n t = bitv q ∧ gP (mO Z) (mB Z) n q = bitv t)
        rw [f1, f2, ecm q q0 q1]
        cases gE (mO Z) (mB Z) n t <;> simp
      refine z_iconst rfl ?_
      refine z_istore_n rfl rfl rfl ?_
      refine l_blk3 (nb := gnb (mO Z) (mB Z) n) d9 (by omega) (fun b b0 b1 => ?_) ?_ (gnb (mO Z) (mB Z) n) 0 none Z2 (by omega) (Or.inl rfl) ⟨fun b b0 b1 => by omega, fun _ _ _ => rfl⟩
      · obtain ⟨f1, f2⟩ := d72 b b0 b1
        rw [f1, f2]
        refine ⟨orI_RG _ _, ?_⟩
        cases gE (mO Z) (mB Z) n b
        · exact Or.inl rfl
        · exact Or.inr rfl
      · intro u Z3 hu h3
        obtain ⟨g1, g2⟩ := h3
        have g75 : ∀ q, 0 ≤ q → q < (gnb (mO Z) (mB Z) n : Int) → gJ (mO Z) (mB Z) n q = Z3 75 q := fun q q0 q1 => ((g1 q q0 q1).trans (ejo q q0 q1)).symm
        have hjo := gJ_ok (mO Z) (mB Z) hn2
        refine z_iconst rfl ?_
        refine z_istore_n rfl rfl rfl ?_
        refine l_blk4 (nb := gnb (mO Z) (mB Z) n) (H := gH (mO Z) (mB Z) n) (by rw [g2 64 9 (by decide)]; exact d9) (by omega) (JOk_congr g75 hjo) (fun b b0 b1 => Hd_congr hjo g75 b0 b1 (gH_hd (mO Z) (mB Z) hn2 b0 b1)) ?_ (gnb (mO Z) (mB Z) n) 0 Z3 (by omega) ⟨fun b b0 b1 => by omega, fun _ _ _ => rfl⟩
        intro Z4 h4
        obtain ⟨k1, k2⟩ := h4
        have hfin : Φ none Z4 J := by
          rw [eΦ]
          refine ⟨rfl, rfl, ⟨?_, fun i i0 i1 => ?_, fun b b0 b1 => ⟨?_, ?_, ?_, ?_, k1 b b0 b1⟩⟩, fun k j hk hk9 => ?_⟩
          · rw [k2 64 9 (by decide), g2 64 9 (by decide)]; exact d9
          · rw [k2 71 i (by decide), g2 71 i (by decide), c2 71 i (by decide) (by decide)]; exact b71 i i0 i1
          · rw [k2 70 b (by decide), g2 70 b (by decide), c2 70 b (by decide) (by decide)]; exact (b70 b b0 b1).1
          · rw [k2 72 b (by decide), g2 72 b (by decide)]; exact (d72 b b0 b1).1
          · rw [k2 73 b (by decide), g2 73 b (by decide)]; exact (d72 b b0 b1).2
          · rw [k2 74 b (by decide), g2 74 b (by decide), c2 74 b (by decide) (by decide)]; exact (b70 b b0 b1).2
          · rw [k2 k j (by omega), g2 k j (by omega), c2 k j (by omega) (by omega)]
            exact a4 k j (by omega) (by omega) (by omega) hk9
        exact z_vret rfl rfl hfin
  refine z_aload_n rfl rfl ?_
  refine z_iconst rfl ?_
  refine z_putI (bi := 9) rfl rfl rfl rfl rfl ?_
  refine z_iconst rfl ?_
  refine z_istore_n rfl rfl rfl ?_
  refine l_blk1 hn hn2 hw K1 n 0 (up Z 64 9 0) (by omega) ⟨up_eq, fun j j0 j1 => by omega, fun c c0 c1 => ?_, fun k j k1 k2 k3 k4 => ?_⟩
  · have : cnt (mLd (mO Z) (mB Z) n) 0 = 0 := rfl
    omega
  · unfold up
    rw [if_neg k4]
