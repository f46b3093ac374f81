/-! where a block or a chain is entered -/
theorem stF_cnt {l : Int → Bool} : ∀ (t : Nat) (b : Int), 0 ≤ b → b < cnt l t → (cnt l (stF l t b).toNat : Int) = b ∧ l (stF l t b) = true ∧ 0 ≤ stF l t b := by
  intro t
  induction t with
  | zero => intro b h0 h1; simp [cnt] at h1; omega
  | succ t ih =>
    intro b h0 h1
    have hc : cnt l (t + 1) = cnt l t + if l t then 1 else 0 := rfl
    have hs : stF l (t + 1) b = if l t = true ∧ (cnt l t : Int) = b then (t : Int) else stF l t b := rfl
    rw [hs]
    by_cases h : l t = true ∧ (cnt l t : Int) = b
    · rw [if_pos h, Int.toNat_natCast]
      exact ⟨h.2, h.1, by omega⟩
    · rw [if_neg h]
      refine ih b h0 ?_
      by_cases hl : l t = true
      · rw [if_pos hl] at hc
        have : ¬ ((cnt l t : Int) = b) := fun q => h ⟨hl, q⟩
        omega
      · rw [if_neg hl] at hc; omega
theorem gblk_gst {op rb : FI} {n : Nat} {b : Int} (h0 : 0 ≤ b) (h1 : b < gnb op rb n) : gblk op rb n (gst op rb n b) = b := by
  obtain ⟨a1, a2, a3⟩ := stF_cnt (l := ldr op rb n) n b h0 h1
  have a3 : 0 ≤ gst op rb n b := a3
  have a2 : ldr op rb n (gst op rb n b) = true := a2
  have a1 : (cnt (ldr op rb n) (gst op rb n b).toNat : Int) = b := a1
  unfold gblk
  have e : cnt (ldr op rb n) ((gst op rb n b).toNat + 1) = cnt (ldr op rb n) (gst op rb n b).toNat + if ldr op rb n ((gst op rb n b).toNat : Int) then 1 else 0 := rfl
  rw [show (((gst op rb n b).toNat : Nat) : Int) = gst op rb n b by omega, a2, if_pos rfl] at e
  rw [e]
  omega
theorem beF_at {st V : FI} {b i : Int} {nb : Nat} (h : ∀ t : Nat, t < nb → st t = i → (t : Int) = b) : ∀ t : Nat, t ≤ nb → beF st V t i = if 0 ≤ b ∧ b < (t : Int) ∧ st b = i then V b else 0 := by
  intro t
  induction t with
  | zero => intro _; rw [if_neg (by omega)]; rfl
  | succ t ih =>
    intro ht
    unfold beF
    by_cases hs : st t = i
    · have e := h t (by omega) hs
      rw [if_pos hs, ← e, if_pos ⟨by omega, by omega, hs⟩]
    · rw [if_neg hs, ih (by omega)]
      by_cases hb : 0 ≤ b ∧ b < (t : Int) ∧ st b = i
      · rw [if_pos hb, if_pos ⟨hb.1, by omega, hb.2.2⟩]
      · rw [if_neg hb, if_neg (fun q => ?_)]
        by_cases z : b = (t : Int)
        · rw [z] at q; exact hs q.2.2
        · exact hb ⟨q.1, by omega, q.2.2⟩
theorem beF_blk {op rb V : FI} {n : Nat} {i : Int} (h0 : 0 ≤ i) (h1 : i < (n : Int)) : beF (gst op rb n) V (gnb op rb n) i = if gst op rb n (gblk op rb n i) = i then V (gblk op rb n i) else 0 := by
  have hb := gblk_in (op := op) (rb := rb) h0 h1
  rw [beF_at (b := gblk op rb n i) (fun t ht hs => by rw [← hs, gblk_gst (by omega) (by omega)]) _ (Nat.le_refl _)]
  by_cases h : gst op rb n (gblk op rb n i) = i
  · rw [if_pos h, if_pos ⟨hb.1, hb.2, h⟩]
  · rw [if_neg h, if_neg (fun q => h q.2.2)]
theorem ccF_pos {H C : FI} {h : Int} : ∀ (t : Nat), (∀ i : Nat, i < t → 1 ≤ C i ∧ C i ≤ 216) → (∃ i : Nat, i < t ∧ H i = h) → 1 ≤ ccF H C t h := by
  intro t
  induction t with
  | zero => intro _ q; obtain ⟨i, hi, _⟩ := q; omega
  | succ t ih =>
    intro hC q
    obtain ⟨i, hi, he⟩ := q
    have c0 := ccF_in (H := H) (h := h) t (fun i hi => hC i (by omega))
    have ct := hC t (by omega)
    unfold ccF
    by_cases hs : H t = h
    · rw [if_pos hs]; omega
    · rw [if_neg hs]
      refine ih (fun i hi => hC i (by omega)) ⟨i, ?_, he⟩
      by_cases z : i = t
      · rw [z] at he; exact absurd he hs
      · omega
/-- what is charged as a whole at instruction i -/
theorem ent_yes {co op rb : FI} {n : Nat} {m i : Int} (hn : n ≤ 24) (hop : OPok op rb n) (hco : COk co) (h0 : 0 ≤ i) (h1 : i < (n : Int)) (hs : gst op rb n (gblk op rb n i) = i) (hm : m = 1 ∨ (m = 2 ∧ gH op rb n (gblk op rb n i) = gblk op rb n i)) : ent co op rb n m i = (if m = 1 then gC co op rb n (gblk op rb n i) else gK co op rb n (gH op rb n (gblk op rb n i))) ∧ 1 ≤ ent co op rb n m i ∧ ent co op rb n m i ≤ 10000 := by
  have hb := gblk_in (op := op) (rb := rb) h0 h1
  have hk := gok hn hop hco
  have hin := ent_in hn hop hco m i
  have e : ent co op rb n m i = (if m = 1 then gC co op rb n (gblk op rb n i) else gK co op rb n (gH op rb n (gblk op rb n i))) := by
    unfold ent
    rcases hm with hm | ⟨hm, hh⟩
    · rw [if_neg (by omega), if_pos hm, if_pos hm]
      unfold gBE
      rw [beF_blk h0 h1, if_pos hs]
    · rw [if_neg (by omega), if_neg (by omega), if_neg (by omega)]
      unfold gCE
      rw [beF_blk h0 h1, if_pos hs, if_pos hh]
  refine ⟨e, ?_, hin.2⟩
  rw [e]
  split
  · exact (hk _ hb.1 hb.2).2.2.1
  · rcases hm with hm | ⟨hm, hh⟩
    · omega
    · rw [hh]
      unfold gK
      exact ccF_pos _ (fun i hi => (hk i (by omega) (by omega)).2.2) ⟨(gblk op rb n i).toNat, by omega, by rw [show (((gblk op rb n i).toNat : Nat) : Int) = gblk op rb n i by omega]; exact hh⟩
theorem ent_no {co op rb : FI} {n : Nat} {m i : Int} (hm : 0 ≤ m ∧ m ≤ 2) (h0 : 0 ≤ i) (h1 : i < (n : Int)) (h : ¬ (gst op rb n (gblk op rb n i) = i ∧ (m = 1 ∨ (m = 2 ∧ gH op rb n (gblk op rb n i) = gblk op rb n i)))) : ent co op rb n m i = 0 := by
  unfold ent
  by_cases m0 : m = 0
  · rw [if_pos m0]
  · rw [if_neg m0]
    by_cases m1 : m = 1
    · rw [if_pos m1]
      unfold gBE
      rw [beF_blk h0 h1, if_neg (fun q => h ⟨q, Or.inl m1⟩)]
    · rw [if_neg m1]
      unfold gCE
      rw [beF_blk h0 h1]
      by_cases hs : gst op rb n (gblk op rb n i) = i
      · rw [if_pos hs, if_neg (fun q => h ⟨hs, Or.inr ⟨by omega, q⟩⟩)]
      · rw [if_neg hs]
def rnX (n : Nat) (op ra rb ic en : FI) (d s : Nat) (i : Int) (p1 : Bool) (rem1 ch1 : Int) (v : FI) : RES :=
  if p1 = true then rn n op ra rb ic en d (s + 1) (nA (op i) (ra i) (rb i) v i) p1 rem1 ch1 (nR (op i) (ra i) (rb i) v)
  else if ic i ≤ rem1 then rn n op ra rb ic en d (s + 1) (nA (op i) (ra i) (rb i) v i) p1 (rem1 - ic i) (ch1 + 1) (nR (op i) (ra i) (rb i) v)
  else (1, s, rem1, ch1, i, v)
theorem rn_e1 {n : Nat} {op ra rb ic en : FI} {d s : Nat} {i rem ch : Int} {paid : Bool} {v : FI} (h : 0 ≤ i ∧ i < (n : Int)) (h1 : 0 < en i) (h2 : en i ≤ rem) : rn n op ra rb ic en (d + 1) s i paid rem ch v = rnX n op ra rb ic en d s i true (rem - en i) (ch + 1) v := by
  unfold rn rnX
  simp only [if_pos h, if_pos h1, if_pos (And.intro h1 h2), decide_eq_true h2]
theorem rn_e2 {n : Nat} {op ra rb ic en : FI} {d s : Nat} {i rem ch : Int} {paid : Bool} {v : FI} (h : 0 ≤ i ∧ i < (n : Int)) (h1 : 0 < en i) (h2 : ¬ en i ≤ rem) : rn n op ra rb ic en (d + 1) s i paid rem ch v = rnX n op ra rb ic en d s i false rem ch v := by
  unfold rn rnX
  simp only [if_pos h, if_pos h1, if_neg (fun q : 0 < en i ∧ en i ≤ rem => h2 q.2), decide_eq_false h2]
theorem rn_e3 {n : Nat} {op ra rb ic en : FI} {d s : Nat} {i rem ch : Int} {paid : Bool} {v : FI} (h : 0 ≤ i ∧ i < (n : Int)) (h1 : ¬ 0 < en i) : rn n op ra rb ic en (d + 1) s i paid rem ch v = rnX n op ra rb ic en d s i paid rem ch v := by
  unfold rn rnX
  simp only [if_pos h, if_neg h1, if_neg (fun q : 0 < en i ∧ en i ≤ rem => h1 q.1)]
theorem rn_out {n : Nat} {op ra rb ic en : FI} {d s : Nat} {i rem ch : Int} {paid : Bool} {v : FI} (h : ¬ (0 ≤ i ∧ i < (n : Int))) : rn n op ra rb ic en d s i paid rem ch v = ((0 : Int), (s : Int), rem, ch, (-1 : Int), v) := by
  cases d with
  | zero => unfold rn; rw [if_neg h]
  | succ d => unfold rn; rw [if_neg h]
theorem rn_zero {n : Nat} {op ra rb ic en : FI} {s : Nat} {i rem ch : Int} {paid : Bool} {v : FI} (h : 0 ≤ i ∧ i < (n : Int)) : rn n op ra rb ic en 0 s i paid rem ch v = ((2 : Int), (s : Int), rem, ch, i, v) := by
  unfold rn
  rw [if_pos h]
