/-! the class: Graph.update; what it leaves is the control flow of the program -/
theorem lm0 (op rb : FI) : ∀ t, tbI (lm op rb t) 0 = true := by
  intro t
  induction t with
  | zero => show tbI (bitv 0) 0 = true; rw [tb_bitv (by omega)]; rfl
  | succ t ih =>
    show tbI (if jmB (op t) || decide (op t = 7) then orI (if jmB (op t) then orI (lm op rb t) (bitv (rb t)) else lm op rb t) (bitv (t + 1)) else (if jmB (op t) then orI (lm op rb t) (bitv (rb t)) else lm op rb t)) 0 = true
    split <;> split <;> simp [tb_or, ih]
theorem pmF_congr {F T F' T' : FI} {nb : Nat} (h : ∀ t : Nat, t < nb → F t = F' t ∧ T t = T' t) (q : Int) : pmF F T nb q = pmF F' T' nb q := by
  induction nb with
  | zero => rfl
  | succ t ih =>
    have h1 := h t (by omega)
    have h2 := ih (fun s hs => h s (by omega))
    simp only [pmF, h1.1, h1.2, h2]
theorem joF_congr {j j' : Int → Int → Bool} {nb : Nat} (q : Int) (h : ∀ t : Nat, t < nb → j q t = j' q t) : joF j nb q = joF j' nb q := by
  induction nb with
  | zero => rfl
  | succ t ih =>
    have h1 := h t (by omega)
    have h2 := ih (fun s hs => h s (by omega))
    simp only [joF, h1, h2]
theorem hdW_congr {jo jo' : FI} {nb : Nat} (h : ∀ p, 0 ≤ p → p < (nb : Int) → jo p = jo' p) : ∀ (d : Nat) (b lo : Int), hdW jo nb d b lo = hdW jo' nb d b lo := by
  intro d
  induction d with
  | zero => intro b lo; rfl
  | succ d ih =>
    intro b lo
    unfold hdW
    by_cases hb : 0 ≤ b ∧ b < (nb : Int)
    · rw [h b hb.1 hb.2, ih]
    · rw [if_neg (fun q => hb ⟨q.1, q.2.1⟩), if_neg (fun q => hb ⟨q.1, q.2.1⟩)]
theorem rcI_congr {S S' : FI} {nb : Nat} (h : ∀ t : Nat, t < nb → S t = S' t) (m : Int) : rcI S nb m = rcI S' nb m := by
  induction nb with
  | zero => rfl
  | succ t ih =>
    have h1 := h t (by omega)
    have h2 := ih (fun s hs => h s (by omega))
    simp only [rcI, h1, h2]
theorem rcR_congr {S S' : FI} {nb : Nat} (h : ∀ t : Nat, t < nb → S t = S' t) : ∀ (d : Nat) (m : Int), rcR S nb d m = rcR S' nb d m := by
  intro d
  induction d with
  | zero => intro m; rfl
  | succ d ih =>
    intro m
    unfold rcR
    rw [rcI_congr h, ih]
theorem joF_in (jn : Int → Int → Bool) (q : Int) : ∀ t : Nat, -1 ≤ joF jn t q ∧ joF jn t q < t := by
  intro t
  induction t with
  | zero => exact ⟨by show -1 ≤ (-1 : Int); omega, by show (-1 : Int) < (0 : Nat); omega⟩
  | succ t ih =>
    unfold joF
    split <;> omega
theorem gblk_in {op rb : FI} {n : Nat} {i : Int} (h0 : 0 ≤ i) (h1 : i < n) : 0 ≤ gblk op rb n i ∧ gblk op rb n i < gnb op rb n := by
  unfold gblk gnb
  have a1 := cnt_pos (l := ldr op rb n) (lm0 op rb n) (t := i.toNat + 1) (by omega)
  have a2 := cnt_mono (ldr op rb n) (show i.toNat + 1 ≤ n by omega)
  omega
theorem gnb_le (op rb : FI) (n : Nat) : gnb op rb n ≤ n := cnt_le _ _
theorem gla_in {op rb : FI} {n : Nat} {b : Int} (h0 : 0 ≤ b) (h1 : b < gnb op rb n) : 0 ≤ gla op rb n b ∧ gla op rb n b < n := laF_in (lm0 op rb n) n b h0 h1
theorem gst_in {op rb : FI} {n : Nat} {b : Int} (h0 : 0 ≤ b) (h1 : b < gnb op rb n) : 0 ≤ gst op rb n b ∧ gst op rb n b < n := stF_in (lm0 op rb n) n b h0 h1
def OPok (op rb : FI) (n : Nat) : Prop := ∀ i, 0 ≤ i → i < (n : Int) → 0 ≤ op i ∧ op i ≤ 7 ∧ RG (rb i) ∧ (jmB (op i) = true → 0 ≤ rb i ∧ rb i ≤ 24)
theorem gF_in {op rb : FI} {n : Nat} {b : Int} (h0 : 0 ≤ b) (h1 : b < gnb op rb n) : -1 ≤ gF op rb n b ∧ gF op rb n b < gnb op rb n := by
  have := gla_in h0 h1
  unfold gF
  split
  · next h => have := gblk_in (op := op) (rb := rb) (n := n) (i := gla op rb n b + 1) (by omega) h.2; omega
  · omega
theorem gT_in {op rb : FI} {n : Nat} {b : Int} (hop : OPok op rb n) (h0 : 0 ≤ b) (h1 : b < gnb op rb n) : -1 ≤ gT op rb n b ∧ gT op rb n b < gnb op rb n := by
  have h2 := gla_in h0 h1
  unfold gT
  split
  · next h => have := gblk_in (op := op) (rb := rb) (n := n) (i := rb (gla op rb n b)) (((hop _ h2.1 h2.2).2.2.2 h.1).1) h.2; omega
  · omega
theorem one_bit {F T q : Int} (hq : 0 ≤ q ∧ q < 24) (hF : -1 ≤ F ∧ F < 24) (h : orI (bitv F) (bitv T) = bitv q) : q = (if F = -1 then T else F) := by
  have key : ∀ x, 0 ≤ x → x < 24 → (decide (x = F) || decide (x = T)) = decide (x = q) := by
    intro x x0 x1
    have := congrArg (fun z => tbI z x) h
    simp only [tb_or] at this
    rwa [tb_bitv ⟨x0, x1⟩, tb_bitv ⟨x0, x1⟩, tb_bitv ⟨x0, x1⟩] at this
  split
  · next hm =>
    have := key q hq.1 hq.2
    rw [decide_eq_true (rfl : q = q), decide_eq_false (by omega), Bool.false_or] at this
    exact of_decide_eq_true this
  · next hm =>
    have := key F (by omega) hF.2
    rw [decide_eq_true (rfl : F = F), Bool.true_or] at this
    exact (of_decide_eq_true this.symm).symm
theorem hb_or {m b x : Int} (hx : 0 ≤ x ∧ x < 24) : hbB (orI m (bitv b)) x = (hbB m x || decide (x = b)) := by
  unfold hbB
  rw [tb_or, tb_bitv hx, decide_eq_true hx]
  simp
def GP (op rb : FI) (n : Nat) (Z : ZW) : Prop := Z 14 0 = gnb op rb n ∧ Z 14 1 = gR op rb n ∧ (∀ i, 0 ≤ i → i < (n : Int) → Z 15 i = gblk op rb n i) ∧ ∀ b, 0 ≤ b → b < (gnb op rb n : Int) → Z 16 b = gst op rb n b ∧ Z 17 b = gF op rb n b ∧ Z 18 b = gT op rb n b ∧ Z 19 b = gS op rb n b ∧ Z 20 b = gH op rb n b ∧ enB Z b = gE op rb n b

def CnI (op rb : FI) (n : Nat) (Z0 Z' : ZW) (t : Nat) : Prop := (∀ b, 0 ≤ b → b < (t : Int) → Z' 17 b = gF op rb n b ∧ Z' 18 b = gT op rb n b ∧ Z' 19 b = gS op rb n b) ∧ (∀ b, 0 ≤ b → b < (t : Int) → enB Z' b = gE op rb n b) ∧ ∀ (k : Nat) (j : Int), k ≠ 17 → k ≠ 18 → k ≠ 19 → ¬ (k = 14 ∧ 8 ≤ j) → Z' k j = Z0 k j
theorem CnI_step {op rb : FI} {n : Nat} {Z0 Z' : ZW} {t : Nat} (h5 : Z0 5 = op) (h7 : Z0 7 = rb) (ht : t < gnb op rb n) (hn2 : n ≤ 24) (hop : OPok op rb n) (h15 : ∀ i, 0 ≤ i → i < (n : Int) → Z0 15 i = gblk op rb n i) (h21 : Z0 21 t = gla op rb n t) (h : CnI op rb n Z0 Z' t) : CnI op rb n Z0 (connZ Z' n t) (t + 1) := by
  obtain ⟨a1, a2, a3⟩ := h
  have hg := gnb_le op rb n
  have e5 : Z' 5 = op := by rw [← h5]; funext j; exact a3 5 j (by decide) (by decide) (by decide) (by omega)
  have e7 : Z' 7 = rb := by rw [← h7]; funext j; exact a3 7 j (by decide) (by decide) (by decide) (by omega)
  have e15 : ∀ i, 0 ≤ i → i < (n : Int) → Z' 15 i = gblk op rb n i := fun i i0 i1 => by rw [a3 15 i (by decide) (by decide) (by decide) (by omega)]; exact h15 i i0 i1
  have e21 : Z' 21 t = gla op rb n t := by rw [a3 21 _ (by decide) (by decide) (by decide) (by omega)]; exact h21
  have hla := gla_in (op := op) (rb := rb) (n := n) (b := t) (by omega) (by omega)
  have eF : connF Z' n t = gF op rb n t := by
    unfold connF gF
    rw [e21, e5]
    by_cases hc : goB (op (gla op rb n t)) = true ∧ gla op rb n t + 1 < n
    · rw [if_pos hc, if_pos hc, e15 _ (by omega) hc.2]
    · rw [if_neg hc, if_neg hc]
  have eT : connT Z' n t = gT op rb n t := by
    unfold connT gT
    rw [e21, e5, e7]
    by_cases hc : jmB (op (gla op rb n t)) = true ∧ rb (gla op rb n t) < n
    · rw [if_pos hc, if_pos hc, e15 _ (((hop _ hla.1 hla.2).2.2.2 hc.1).1) hc.2]
    · rw [if_neg hc, if_neg hc]
  have eE : connE Z' n t = gE op rb n t := by
    unfold connE gE
    rw [eF, eT, e21, e5]
  unfold connZ
  rw [eE, eF, eT]
  have key : ∀ Z3 : ZW, Z3 = up (up (up Z' 17 t (gF op rb n t)) 18 t (gT op rb n t)) 19 t (orI (bitv (gF op rb n t)) (bitv (gT op rb n t))) → (∀ b, 0 ≤ b → b < ((t + 1 : Nat) : Int) → Z3 17 b = gF op rb n b ∧ Z3 18 b = gT op rb n b ∧ Z3 19 b = gS op rb n b) ∧ (∀ (k : Nat) (j : Int), k ≠ 17 → k ≠ 18 → k ≠ 19 → Z3 k j = Z' k j) := by
    intro Z3 e3
    refine ⟨fun b b0 b1 => ?_, fun k j k1 k2 k3 => ?_⟩
    · rw [e3]
      by_cases hb : b = t
      · subst hb
        simp [up, gS]
      · have := a1 b b0 (by omega)
        simp [up, hb, this]
    · rw [e3]
      simp [up, k1, k2, k3]
  obtain ⟨Z3, e3⟩ : ∃ Z3, Z3 = up (up (up Z' 17 t (gF op rb n t)) 18 t (gT op rb n t)) 19 t (orI (bitv (gF op rb n t)) (bitv (gT op rb n t))) := ⟨_, rfl⟩
  obtain ⟨k1, k2⟩ := key Z3 e3
  rw [← e3]
  refine ⟨fun b b0 b1 => ?_, fun b b0 b1 => ?_, fun k j q1 q2 q3 q4 => ?_⟩
  · have := k1 b b0 b1
    simpa [up] using this
  · by_cases hb : b = t
    · subst hb
      exact enB_of (by simp [up])
    · rw [← a2 b b0 (by omega)]
      refine enB_congr ?_
      simp only [up]
      rw [if_neg (fun q => hb (by omega)), k2 14 _ (by decide) (by decide) (by decide)]
  · simp only [up]
    rw [if_neg (fun q => q4 ⟨q.1, by omega⟩), k2 k j q1 q2 q3]
    exact a3 k j q1 q2 q3 q4
theorem l_upd1 {J : Int64} {op rb : FI} {n : Nat} {Z0 : ZW} {Φ : ZΦ} (h5 : Z0 5 = op) (h7 : Z0 7 = rb) (hn : Z0 4 0 = n) (hnb : Z0 14 0 = gnb op rb n) (hn2 : n ≤ 24) (hop : OPok op rb n) (h15 : ∀ i, 0 ≤ i → i < (n : Int) → Z0 15 i = gblk op rb n i) (h21 : ∀ b, 0 ≤ b → b < (gnb op rb n : Int) → Z0 21 b = gla op rb n b)
    (hk : ∀ (Z' : ZW) (x : Int), CnI op rb n Z0 Z' (gnb op rb n) → OkZ none 41 31 [some (.ref 13), some (.ref 3), some (.int (I x))] [] Z' J Φ) : ∀ (d t : Nat) (Z' : ZW), t + d = gnb op rb n → CnI op rb n Z0 Z' t → OkZ none 41 11 [some (.ref 13), some (.ref 3), some (.int (I t))] [] Z' J Φ := by
  have hg := gnb_le op rb n
  intro d
  induction d with
  | zero =>
    intro t Z' ht hI
    have e14 : Z' 14 0 = gnb op rb n := by rw [hI.2.2 14 0 (by decide) (by decide) (by decide) (by omega)]; exact hnb
    have e : t = gnb op rb n := by omega
    subst e
    refine z_iload_n rfl rfl ?_
    refine z_aload_n rfl rfl ?_
    refine z_getI (bi := 0) rfl rfl rfl rfl ?_
    refine z_icmp_ge rfl (by omega) (by omega) (fun h16 => ?_) (fun h16 => ?_)
    · exact hk _ _ hI
    · omega
  | succ d ih =>
    intro t Z' ht hI
    have hf := hI.2.2
    have e14 : Z' 14 0 = gnb op rb n := by rw [hf 14 0 (by decide) (by decide) (by decide) (by omega)]; exact hnb
    have e4 : Z' 4 0 = n := by rw [hf 4 0 (by decide) (by decide) (by decide) (by omega)]; exact hn
    have e21 : Z' 21 t = gla op rb n t := by rw [hf 21 _ (by decide) (by decide) (by decide) (by omega)]; exact h21 t (by omega) (by omega)
    have hla := gla_in (op := op) (rb := rb) (n := n) (b := t) (by omega) (by omega)
    have e5 : Z' 5 (gla op rb n t) = op (gla op rb n t) := by rw [hf 5 _ (by decide) (by decide) (by decide) (by omega), h5]
    have e7 : Z' 7 (gla op rb n t) = rb (gla op rb n t) := by rw [hf 7 _ (by decide) (by decide) (by decide) (by omega), h7]
    have ho := hop _ hla.1 hla.2
    have hst := CnI_step h5 h7 (by omega) hn2 hop h15 (h21 t (by omega) (by omega)) hI
    have hcon : D 31 [.ref 13, .ref 3, .int (I (t : Int))] Z' J none (connZ Z' n t) J := by
      refine s_connect e4 hn2 (by omega) (by rw [e21]; exact hla) (by rw [e21, e5]; exact ⟨ho.1, ho.2.1⟩) (by rw [e21, e7]; exact ho.2.2.1) (by rw [e21, e5, e7]; exact fun q => (ho.2.2.2 q).1) ?_
      intro i i0 i1
      have := gblk_in (op := op) (rb := rb) i0 i1
      rw [hf 15 i (by decide) (by decide) (by decide) (by omega), h15 i i0 i1]
      omega
    refine z_iload_n rfl rfl ?_
    refine z_aload_n rfl rfl ?_
    refine z_getI (bi := 0) rfl rfl rfl rfl ?_
    refine z_icmp_ge rfl (by omega) (by omega) (fun h16 => ?_) (fun h16 => ?_)
    · omega
    · refine z_aload_n rfl rfl ?_
      refine z_aload_n rfl rfl ?_
      refine z_iload_n rfl rfl ?_
      refine z_callV2v rfl rfl rfl rfl rfl rfl (hcon) ?_
      refine z_iinc rfl rfl rfl rfl ?_
      refine z_goto rfl ?_
      exact ih (t + 1) _ (by omega) hst
theorem l_upd2 {J : Int64} {jo : FI} {nb : Nat} {Z0 : ZW} {Φ : ZΦ} (hnb : Z0 14 0 = nb) (hnb2 : nb ≤ 24) (hj : Z0 23 = jo) (hJ : ∀ p, 0 ≤ p → p < (nb : Int) → -1 ≤ jo p ∧ jo p < nb)
    (hk : ∀ (Z' : ZW) (x : Int), (∀ b, 0 ≤ b → b < (nb : Int) → Z' 20 b = hdW jo nb nb b b) → (∀ (k : Nat) (j : Int), k ≠ 20 → Z' k j = Z0 k j) → OkZ none 41 66 [some (.ref 13), some (.ref 3), some (.int (I x))] [] Z' J Φ) : ∀ (d t : Nat) (Z' : ZW), t + d = nb → (∀ b, 0 ≤ b → b < (t : Int) → Z' 20 b = hdW jo nb nb b b) → (∀ (k : Nat) (j : Int), k ≠ 20 → Z' k j = Z0 k j) → OkZ none 41 41 [some (.ref 13), some (.ref 3), some (.int (I t))] [] Z' J Φ := by
  intro d
  induction d with
  | zero =>
    intro t Z' ht h1 hf
    have e14 : Z' 14 0 = nb := by rw [hf 14 0 (by decide)]; exact hnb
    have e : t = nb := by omega
    subst e
    refine z_iload_n rfl rfl ?_
    refine z_aload_n rfl rfl ?_
    refine z_getI (bi := 0) rfl rfl rfl rfl ?_
    refine z_icmp_ge rfl (by omega) (by omega) (fun h46 => ?_) (fun h46 => ?_)
    · exact hk _ _ h1 hf
    · omega
  | succ d ih =>
    intro t Z' ht h1 hf
    have e14 : Z' 14 0 = nb := by rw [hf 14 0 (by decide)]; exact hnb
    have e23 : Z' 23 = jo := by rw [← hj]; funext j; exact hf 23 j (by decide)
    have hh : D 39 [.ref 13, .int (I (t : Int))] Z' J (some (.int (I (hdW jo nb nb t t)))) Z' J := by
      have := s_headOf (Z := Z') (J := J) (nb := nb) (b := t) e14 hnb2 (by rw [e23]; exact hJ) (by omega)
      rwa [e23] at this
    refine z_iload_n rfl rfl ?_
    refine z_aload_n rfl rfl ?_
    refine z_getI (bi := 0) rfl rfl rfl rfl ?_
    refine z_icmp_ge rfl (by omega) (by omega) (fun h46 => ?_) (fun h46 => ?_)
    · omega
    · refine z_aload_n rfl rfl ?_
      refine z_getR rfl rfl rfl rfl ?_
      refine z_iload_n rfl rfl ?_
      refine z_aload_n rfl rfl ?_
      refine z_iload_n rfl rfl ?_
      refine z_callV1 rfl rfl rfl rfl rfl rfl (hh) ?_
      refine z_iast rfl rfl (by omega) ?_
      refine z_iinc rfl rfl rfl rfl ?_
      refine z_goto rfl ?_
      refine ih (t + 1) _ (by omega) ?_ ?_
      · intro b b0 b1
        by_cases hb : b = t
        · simp [up, hb]
        · simp only [up]; rw [if_neg (fun z => hb z.2)]; exact h1 b b0 (by omega)
      · intro k j hk
        simp only [up]; rw [if_neg (fun q => hk q.1)]; exact hf k j hk
theorem pmF_RG (F T : FI) (nb : Nat) (q : Int) : RG (pmF F T nb q) := by
  induction nb with
  | zero => exact ⟨by show (-2147483648 : Int) ≤ 0; omega, by show (0 : Int) ≤ 2147483647; omega⟩
  | succ t ih =>
    simp only [pmF]
    split
    · exact orI_RG _ _
    · split
      · exact orI_RG _ _
      · exact ih
set_option maxHeartbeats 4000000 in
theorem s_gupdate {Z : ZW} {J : Int64} {n : Nat} (hn : Z 4 0 = n) (hn2 : n ≤ 24) (hop : OPok (Z 5) (Z 7) n) : Mz 41 [.ref 13, .ref 3] Z J (fun r Z' J' => r = none ∧ J' = J ∧ GP (Z 5) (Z 7) n Z' ∧ ∀ (k : Nat) (j : Int), (k < 14 ∨ 23 < k) → Z' k j = Z k j) := by
  unfold Mz
  have hg := gnb_le (Z 5) (Z 7) n
  obtain ⟨op, hop5⟩ : ∃ op, op = Z 5 := ⟨_, rfl⟩
  obtain ⟨rb, hrb7⟩ : ∃ rb, rb = Z 7 := ⟨_, rfl⟩
  rw [← hop5, ← hrb7] at hop hg ⊢
  refine z_aload_n rfl rfl ?_
  refine z_aload_n rfl rfl ?_
  refine z_aload_n rfl rfl ?_
  refine z_callS1 rfl rfl rfl rfl (s_leaders hn (fun i i0 i1 => by have := hop i i0 i1; rw [hop5, hrb7] at this; exact ⟨by unfold RG; omega, this.2.2.1⟩) hn2) ?_
  refine z_callV2g rfl rfl rfl rfl rfl rfl (s_divide hn hn2 (lm0 _ _ n)) (fun r6 Z6 J6 q6 => ?_)
  obtain ⟨rfl, rfl, bb, hD⟩ := q6
  obtain ⟨d1, d2, d3, d4, d5, d6⟩ := hD
  show OkZ none 41 9 _ [] _ _ _
  rw [← hop5, ← hrb7] at d1 d3 d4 d5
  refine z_iconst rfl ?_
  refine z_istore_n rfl rfl rfl ?_
  obtain ⟨Z0, hZ0⟩ : ∃ Z0, Z0 = Z6 := ⟨_, rfl⟩
  rw [← hZ0]
  have z5 : Z0 5 = op := by rw [hop5, hZ0]; funext j; exact d6 5 j (by decide) (by decide) (by decide) (by simp)
  have z7 : Z0 7 = rb := by rw [hrb7, hZ0]; funext j; exact d6 7 j (by decide) (by decide) (by decide) (by simp)
  have z4 : Z0 4 0 = n := by rw [hZ0, d6 4 0 (by decide) (by decide) (by decide) (by simp)]; exact hn
  have z14 : Z0 14 0 = gnb op rb n := by rw [hZ0]; exact d1
  have z15 : ∀ i, 0 ≤ i → i < (n : Int) → Z0 15 i = gblk op rb n i := by intro i i0 i1; rw [hZ0]; exact d3 i i0 i1
  have z16 : ∀ b, 0 ≤ b → b < (gnb op rb n : Int) → Z0 16 b = gst op rb n b := by intro i i0 i1; rw [hZ0]; exact d4 i i0 i1
  have z21 : ∀ b, 0 ≤ b → b < (gnb op rb n : Int) → Z0 21 b = gla op rb n b := by intro i i0 i1; rw [hZ0]; exact d5 i i0 i1
  have zf : ∀ (k : Nat) (j : Int), (k < 14 ∨ 23 < k) → Z0 k j = Z k j := by intro k j hk; rw [hZ0]; exact d6 k j (by omega) (by omega) (by omega) (by omega)
  refine l_upd1 z5 z7 z4 z14 hn2 hop z15 z21 (fun Z1 x1 hC => ?_) (gnb op rb n) 0 Z0 (by omega) ⟨fun b b0 b1 => absurd b1 (by omega), fun b b0 b1 => absurd b1 (by omega), fun _ _ _ _ _ _ => rfl⟩
  obtain ⟨c1, c2, c3⟩ := hC
  have y14 : Z1 14 0 = gnb op rb n := by rw [c3 14 0 (by decide) (by decide) (by decide) (by simp)]; exact z14
  have yF : ∀ p, 0 ≤ p → p < (gnb op rb n : Int) → RG (Z1 17 p) ∧ RG (Z1 18 p) := by intro p p0 p1; obtain ⟨e1, e2, -⟩ := c1 p p0 p1; rw [e1, e2]; have q1 := gF_in (op := op) (rb := rb) (n := n) p0 p1; have q2 := gT_in hop p0 p1; unfold RG; omega
  refine z_aload_n rfl rfl ?_
  refine z_callV0g rfl rfl rfl rfl rfl rfl (s_coll y14 (by omega) yF) (fun r32 Z32 J32 q32 => ?_)
  obtain ⟨rfl, rfl, p1, p2⟩ := q32
  show OkZ none 41 35 _ [] _ _ _
  have x14 : Z32 14 0 = gnb op rb n := by rw [p2 14 0 (by decide)]; exact y14
  have xP : ∀ q, 0 ≤ q → q < (gnb op rb n : Int) → Z32 22 q = gP op rb n q := by intro q q0 q1; rw [p1 q q0 q1]; exact pmF_congr (fun t ht => ⟨(c1 t (by omega) (by omega)).1, (c1 t (by omega) (by omega)).2.1⟩) q
  have xR : ∀ p, 0 ≤ p → p < (gnb op rb n : Int) → RG (Z32 17 p) ∧ RG (Z32 18 p) ∧ RG (Z32 19 p) ∧ RG (Z32 22 p) := by intro p p0 p1; have q1 := yF p p0 p1; refine ⟨by rw [p2 17 _ (by decide)]; exact q1.1, by rw [p2 18 _ (by decide)]; exact q1.2, (by rw [p2 19 _ (by decide), (c1 p p0 p1).2.2]; exact orI_RG _ _), (by rw [xP p p0 p1]; exact pmF_RG _ _ _ _)⟩
  have xJ : ∀ q p, 0 ≤ q → q < (gnb op rb n : Int) → 0 ≤ p → p < (gnb op rb n : Int) → jnB (enB Z32) (Z32 19) (Z32 22) q p = jnB (gE op rb n) (gS op rb n) (gP op rb n) q p := by intro q p q0 q1 p0 p1; unfold jnB; apply decide_eq_decide.mpr; rw [xP q q0 q1, enB_congr (p2 14 (8 + p) (by decide)), p2 19 _ (by decide), (c1 p p0 p1).2.2, c2 p p0 p1]
  have xN : ∀ q p, 0 ≤ q → q < (gnb op rb n : Int) → 0 ≤ p → p < (gnb op rb n : Int) → jnB (enB Z32) (Z32 19) (Z32 22) q p = true → q = (if Z32 17 p = -1 then Z32 18 p else Z32 17 p) := by intro q p q0 q1 p0 p1 hj; unfold jnB at hj; have hj2 := (of_decide_eq_true hj).2.2.2.1; rw [p2 19 _ (by decide), (c1 p p0 p1).2.2] at hj2; rw [p2 17 _ (by decide), p2 18 _ (by decide), (c1 p p0 p1).1, (c1 p p0 p1).2.1]; have f1 := gF_in (op := op) (rb := rb) (n := n) p0 p1; exact one_bit (by omega) (by omega) hj2
  refine z_aload_n rfl rfl ?_
  refine z_callV0g rfl rfl rfl rfl rfl rfl (s_join x14 (by omega) xR xN) (fun r36 Z36 J36 q36 => ?_)
  obtain ⟨rfl, rfl, w1, w2⟩ := q36
  show OkZ none 41 39 _ [] _ _ _
  refine z_iconst rfl ?_
  refine z_istore_n rfl rfl rfl ?_
  have v14 : Z36 14 0 = gnb op rb n := by rw [w2 14 0 (by decide)]; exact x14
  have vJ : ∀ q, 0 ≤ q → q < (gnb op rb n : Int) → Z36 23 q = gJ op rb n q := by intro q q0 q1; rw [w1 q q0 q1]; exact joF_congr q (fun t ht => xJ q t q0 q1 (by omega) (by omega))
  refine l_upd2 v14 (by omega) rfl (fun p p0 p1 => by rw [vJ p p0 p1]; exact joF_in _ _ _) (fun Z2 x2 u1 u2 => ?_) (gnb op rb n) 0 Z36 (by omega) (fun b b0 b1 => absurd b1 (by omega)) (fun _ _ _ => rfl)
  have t14 : Z2 14 0 = gnb op rb n := by rw [u2 14 0 (by decide)]; exact v14
  have tS : ∀ p, 0 ≤ p → p < (gnb op rb n : Int) → Z2 19 p = gS op rb n p := by intro p p0 p1; rw [u2 19 _ (by decide), w2 19 _ (by decide), p2 19 _ (by decide)]; exact (c1 p p0 p1).2.2
  have hre : D 40 [.ref 13] Z2 J36 (some (.int (I (gR op rb n)))) Z2 J36 := by have q := s_reach (Z := Z2) (J := J36) t14 (by omega) (fun p p0 p1 => by rw [tS p p0 p1]; exact orI_RG _ _); rw [rcR_congr (fun t ht => tS t (by omega) (by omega))] at q; exact q
  refine z_aload_n rfl rfl ?_
  refine z_aload_n rfl rfl ?_
  refine z_callV0 rfl rfl rfl rfl rfl rfl (hre) ?_
  refine z_putI (bi := 1) rfl rfl rfl rfl rfl ?_
  refine z_vret rfl rfl ⟨rfl, rfl, ⟨?_, ?_, ?_, ?_⟩, ?_⟩
  · simp only [up]; rw [if_neg (fun q => absurd q.2 (by decide))]; exact t14
  · simp [up]
  · intro i i0 i1; simp only [up]; rw [if_neg (fun q => absurd q.1 (by decide)), u2 15 _ (by decide), w2 15 _ (by decide), p2 15 _ (by decide), c3 15 _ (by decide) (by decide) (by decide) (by simp)]; exact z15 i i0 i1
  · intro b b0 b1
    have g16 : ∀ (k : Nat), k ≠ 14 → up Z2 14 1 (gR op rb n) k b = Z2 k b := by intro k hk; simp only [up]; rw [if_neg (fun q => hk q.1)]
    have g8 : up Z2 14 1 (gR op rb n) 14 (8 + b) = Z2 14 (8 + b) := by simp only [up]; rw [if_neg (fun q => absurd q.2 (by omega))]
    refine ⟨?_, ?_, ?_, ?_, ?_, ?_⟩
    · rw [g16 16 (by decide), u2 16 _ (by decide), w2 16 _ (by decide), p2 16 _ (by decide), c3 16 _ (by decide) (by decide) (by decide) (by simp)]; exact z16 b b0 b1
    · rw [g16 17 (by decide), u2 17 _ (by decide), w2 17 _ (by decide), p2 17 _ (by decide)]; exact (c1 b b0 b1).1
    · rw [g16 18 (by decide), u2 18 _ (by decide), w2 18 _ (by decide), p2 18 _ (by decide)]; exact (c1 b b0 b1).2.1
    · rw [g16 19 (by decide)]; exact tS b b0 b1
    · rw [g16 20 (by decide), u1 b b0 b1]; exact hdW_congr vJ _ _ _
    · rw [enB_congr g8, enB_congr (u2 14 (8 + b) (by decide)), enB_congr (w2 14 (8 + b) (by decide)), enB_congr (p2 14 (8 + b) (by decide)), c2 b b0 b1]
  · intro k j hk; simp only [up]; rw [if_neg (fun q => by omega), u2 k j (by omega), w2 k j (by omega), p2 k j (by omega), c3 k j (by omega) (by omega) (by omega) (by omega)]; exact zf k j hk
