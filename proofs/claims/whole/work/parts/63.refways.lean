/-! the reference's ways: sound, and complete for ever longer walks -/
def edS (S : FI) (nb : Nat) (a b : Int) : Prop := (0 ≤ a ∧ a < (nb : Int)) ∧ (0 ≤ b ∧ b < 24) ∧ tbI (S a) b = true
def btr (sg : Bool) (x c : Int) : Prop := x ≠ -1 ∧ (if sg = true then c ≤ x else x ≤ c)
abbrev VF (S C : FI) (nb : Nat) : Nat → Int → Int → Prop := Vw (fun b => b = 0) (edS S nb) C nb
def NNw (nb : Nat) (W : FI) : Prop := ∀ b, 0 ≤ b → b < (nb : Int) → -1 ≤ W b
def SndR (S C : FI) (nb : Nat) (W : FI) : Prop := ∀ b, 0 ≤ b → b < (nb : Int) → W b ≠ -1 → ∃ k, VF S C nb k b (W b)
def CovR (sg : Bool) (S C : FI) (nb r : Nat) (W : FI) : Prop := ∀ (k : Nat) (b c : Int), k ≤ r → VF S C nb k b c → btr sg (W b) c
/-- what is taken of the graph -/
def GrS (S C : FI) (nb : Nat) : Prop := nb ≤ 24 ∧ (∀ b, 0 ≤ b → b < (nb : Int) → 1 ≤ C b) ∧ ∀ b : Nat, b < nb → OnB nb (S b)
theorem btr_refl {sg : Bool} {x : Int} (h : x ≠ -1) : btr sg x x := ⟨h, by split <;> exact Int.le_refl _⟩
theorem btr_trans {sg : Bool} {x y z : Int} (h1 : btr sg x y) (h2 : if sg = true then z ≤ y else y ≤ z) : btr sg x z := by
  obtain ⟨a, b⟩ := h1
  refine ⟨a, ?_⟩
  cases sg
  · rw [if_neg (by decide)] at b h2 ⊢; omega
  · rw [if_pos rfl] at b h2 ⊢; omega
theorem btr_add {sg : Bool} {x y z : Int} (h1 : btr sg x y) : if sg = true then y + z ≤ x + z else x + z ≤ y + z := by
  obtain ⟨a, b⟩ := h1
  cases sg
  · rw [if_neg (by decide)] at b ⊢; omega
  · rw [if_pos rfl] at b ⊢; omega
theorem ed_in {S C : FI} {nb : Nat} (hg : GrS S C nb) {a b : Int} (h : edS S nb a b) : 0 ≤ b ∧ b < (nb : Int) := by
  obtain ⟨h1, h2, h3⟩ := h
  obtain ⟨a', rfl⟩ : ∃ k : Nat, a = k := ⟨a.toNat, by omega⟩
  obtain ⟨b', rfl⟩ : ∃ k : Nat, b = k := ⟨b.toNat, by omega⟩
  have := OnB_lt (hg.2.2 a' (by omega)) (by omega) h3
  omega
theorem gwc_ed {sg : Bool} {S C W : FI} {nb m : Nat} (hm : m < 24 * nb) (h : gwc sg S C W m = true) : edS S nb ((m / 24 : Nat) : Int) ((m % 24 : Nat) : Int) ∧ W ((m / 24 : Nat) : Int) ≠ -1 := by
  have q := of_decide_eq_true h
  exact ⟨⟨by omega, by omega, q.2.1⟩, q.1⟩
theorem gw_NN {sg : Bool} {S C W : FI} {nb m : Nat} (hg : GrS S C nb) (hm : m < 24 * nb) (h : NNw nb W) : NNw nb (gw sg S C W m) := by
  unfold gw
  split
  · next q =>
    obtain ⟨q1, q2⟩ := gwc_ed hm q
    have ht := ed_in hg q1
    have h1 := h _ q1.1.1 q1.1.2
    have h2 := hg.2.1 _ ht.1 ht.2
    intro b b0 b1
    unfold updF
    split
    · omega
    · exact h b b0 b1
  · exact h
theorem gw_Snd {sg : Bool} {S C W : FI} {nb m : Nat} (hg : GrS S C nb) (hm : m < 24 * nb) (h : SndR S C nb W) : SndR S C nb (gw sg S C W m) := by
  unfold gw
  split
  · next q =>
    obtain ⟨q1, q2⟩ := gwc_ed hm q
    have ht := ed_in hg q1
    intro b b0 b1
    unfold updF
    by_cases hb : b = ((m % 24 : Nat) : Int)
    · rw [if_pos hb]
      intro _
      obtain ⟨k, hk⟩ := h _ q1.1.1 q1.1.2 q2
      refine ⟨k + 1, ⟨b0, b1⟩, _, by rw [hb]; exact q1, ?_⟩
      rw [hb, show W ((m / 24 : Nat) : Int) + C ((m % 24 : Nat) : Int) - C ((m % 24 : Nat) : Int) = W ((m / 24 : Nat) : Int) by omega]
      exact hk
    · rw [if_neg hb]
      exact h b b0 b1
  · exact h
theorem gw_Low {sg : Bool} {S C W : FI} {nb m : Nat} (hg : GrS S C nb) (hm : m < 24 * nb) (h : NNw nb W) {b : Int} (hb : W b ≠ -1) : btr sg (gw sg S C W m b) (W b) := by
  unfold gw
  split
  · next q =>
    obtain ⟨q1, q2⟩ := gwc_ed hm q
    have ht := ed_in hg q1
    have h1 := h _ q1.1.1 q1.1.2
    have h2 := hg.2.1 _ ht.1 ht.2
    have q := (of_decide_eq_true q).2.2
    unfold updF
    by_cases he : b = ((m % 24 : Nat) : Int)
    · rw [if_pos he]
      rw [he] at hb ⊢
      refine ⟨by omega, ?_⟩
      rcases q with q | q
      · exact absurd q hb
      · cases sg
        · rw [if_neg (by decide)] at q ⊢; omega
        · rw [if_pos rfl] at q ⊢; omega
    · rw [if_neg he]; exact btr_refl hb
  · exact btr_refl hb
theorem gw_edge {sg : Bool} {S C W : FI} {nb m : Nat} (hg : GrS S C nb) (hm : m < 24 * nb) (h : NNw nb W) (hW : W ((m / 24 : Nat) : Int) ≠ -1) (he : tbI (S ((m / 24 : Nat) : Int)) ((m % 24 : Nat) : Int) = true) : btr sg (gw sg S C W m ((m % 24 : Nat) : Int)) (W ((m / 24 : Nat) : Int) + C ((m % 24 : Nat) : Int)) := by
  have q1 : edS S nb ((m / 24 : Nat) : Int) ((m % 24 : Nat) : Int) := ⟨by omega, by omega, he⟩
  have ht := ed_in hg q1
  have h1 := h _ q1.1.1 q1.1.2
  have h2 := hg.2.1 _ ht.1 ht.2
  unfold gw
  by_cases q : gwc sg S C W m = true
  · rw [if_pos q]
    unfold updF
    rw [if_pos rfl]
    exact btr_refl (by omega)
  · rw [if_neg q]
    have q := of_decide_eq_false (Bool.eq_false_iff.mpr q)
    refine ⟨fun z => q ⟨hW, he, Or.inl z⟩, ?_⟩
    cases sg
    · rw [if_neg (by decide)]
      refine Classical.byContradiction fun z => q ⟨hW, he, Or.inr ?_⟩
      rw [if_neg (by decide)]; omega
    · rw [if_pos rfl]
      refine Classical.byContradiction fun z => q ⟨hW, he, Or.inr ?_⟩
      rw [if_pos rfl]; omega
theorem gwI_ok {sg : Bool} {S C W : FI} {nb : Nat} (hg : GrS S C nb) (h : NNw nb W) (hs : SndR S C nb W) : ∀ m, m ≤ 24 * nb → NNw nb (gwI sg S C m W) ∧ SndR S C nb (gwI sg S C m W) := by
  intro m
  induction m with
  | zero => intro _; exact ⟨h, hs⟩
  | succ m ih =>
    intro hm
    obtain ⟨a, b⟩ := ih (by omega)
    exact ⟨gw_NN hg (by omega) a, gw_Snd hg (by omega) b⟩
theorem gwI_Low {sg : Bool} {S C W : FI} {nb : Nat} (hg : GrS S C nb) (h : NNw nb W) (hs : SndR S C nb W) {m : Nat} {b : Int} (hb : gwI sg S C m W b ≠ -1) : ∀ d, m + d ≤ 24 * nb → btr sg (gwI sg S C (m + d) W b) (gwI sg S C m W b) := by
  intro d
  induction d with
  | zero => intro _; exact btr_refl hb
  | succ d ih =>
    intro hm
    have i := ih (by omega)
    have s := gw_Low (sg := sg) (m := m + d) hg (by omega) (gwI_ok (sg := sg) hg h hs (m + d) (by omega)).1 i.1
    exact btr_trans s i.2
theorem gwI_edge {sg : Bool} {S C W : FI} {nb : Nat} (hg : GrS S C nb) (h : NNw nb W) (hs : SndR S C nb W) {a b : Int} (he : edS S nb a b) (ha : W a ≠ -1) : btr sg (gwI sg S C (24 * nb) W b) (W a + C b) := by
  have hb := ed_in hg he
  obtain ⟨h1, h2, h3⟩ := he
  obtain ⟨a', rfl⟩ : ∃ k : Nat, a = k := ⟨a.toNat, by omega⟩
  obtain ⟨b', rfl⟩ : ∃ k : Nat, b = k := ⟨b.toNat, by omega⟩
  obtain ⟨m, em⟩ : ∃ m, m = 24 * a' + b' := ⟨_, rfl⟩
  have hm : m < 24 * nb := by omega
  have e1 : m / 24 = a' := by omega
  have e2 : m % 24 = b' := by omega
  have l1 := gwI_Low (sg := sg) (m := 0) hg h hs ha m (by omega)
  rw [Nat.zero_add] at l1
  have l2 := gw_edge (sg := sg) (S := S) (C := C) (W := gwI sg S C m W) (nb := nb) (m := m) hg hm (gwI_ok (sg := sg) hg h hs m (by omega)).1 (by rw [e1]; exact l1.1) (by rw [e1, e2]; exact h3)
  rw [e1, e2] at l2
  have l3 := gwI_Low (sg := sg) (m := m + 1) (b := (b' : Int)) hg h hs l2.1 (24 * nb - (m + 1)) (by omega)
  rw [show m + 1 + (24 * nb - (m + 1)) = 24 * nb by omega] at l3
  exact btr_trans (btr_trans l3 l2.2) (btr_add l1)
theorem Cov_step {sg : Bool} {S C W : FI} {nb r : Nat} (hg : GrS S C nb) (h : NNw nb W) (hs : SndR S C nb W) (hc : CovR sg S C nb r W) : CovR sg S C nb (r + 1) (gwI sg S C (24 * nb) W) := by
  intro k b c hk hv
  by_cases hr : k ≤ r
  · have q := hc k b c hr hv
    have l := gwI_Low (sg := sg) (m := 0) hg h hs q.1 (24 * nb) (by omega)
    rw [Nat.zero_add] at l
    exact btr_trans l q.2
  · obtain ⟨k', rfl⟩ : ∃ k', k = k' + 1 := ⟨k - 1, by omega⟩
    obtain ⟨h1, a, h2, h3⟩ := hv
    have q := hc k' a _ (by omega) h3
    have l := gwI_edge (sg := sg) hg h hs h2 q.1
    refine btr_trans l ?_
    have := btr_add (z := C b) q
    rw [show c - C b + C b = c by omega] at this
    exact this
theorem gwB_no {sg : Bool} {S C W : FI} : ∀ m, gwB sg S C m W = false → gwI sg S C m W = W ∧ ∀ j, j < m → gwc sg S C W j = false := by
  intro m
  induction m with
  | zero => intro _; exact ⟨rfl, fun j hj => by omega⟩
  | succ m ih =>
    intro h
    have h : (gwB sg S C m W || gwc sg S C (gwI sg S C m W) m) = false := h
    obtain ⟨h1, h2⟩ := Bool.or_eq_false_iff.mp h
    obtain ⟨i1, i2⟩ := ih h1
    refine ⟨by rw [(gw_no h2).1]; exact i1, fun j hj => ?_⟩
    by_cases e : j = m
    · rw [e, ← h2, i1]
    · exact i2 j (by omega)
theorem gwB_full {sg : Bool} {S C W : FI} {nb : Nat} (hg : GrS S C nb) (hs : SndR S C nb W) (hc : ∀ r, CovR sg S C nb r W) : ∀ m, m ≤ 24 * nb → gwB sg S C m W = false ∧ gwI sg S C m W = W := by
  intro m
  induction m with
  | zero => intro _; exact ⟨rfl, rfl⟩
  | succ m ih =>
    intro hm
    obtain ⟨i1, i2⟩ := ih (by omega)
    have hn : gwc sg S C (gwI sg S C m W) m = false := by
      rw [i2]
      refine Bool.eq_false_iff.mpr fun q => ?_
      obtain ⟨q1, q2⟩ := gwc_ed (nb := nb) (by omega) q
      have ht := ed_in hg q1
      obtain ⟨k, hk⟩ := hs _ q1.1.1 q1.1.2 q2
      have hv : VF S C nb (k + 1) ((m % 24 : Nat) : Int) (W ((m / 24 : Nat) : Int) + C ((m % 24 : Nat) : Int)) := by
        refine ⟨ht, _, q1, ?_⟩
        rw [show W ((m / 24 : Nat) : Int) + C ((m % 24 : Nat) : Int) - C ((m % 24 : Nat) : Int) = W ((m / 24 : Nat) : Int) by omega]
        exact hk
      have b := hc (k + 1) (k + 1) _ _ (Nat.le_refl _) hv
      rcases (of_decide_eq_true q).2.2 with z | z
      · exact b.1 z
      · have b2 := b.2
        cases sg
        · rw [if_neg (by decide)] at z b2; omega
        · rw [if_pos rfl] at z b2; omega
    exact ⟨by rw [(gw_no hn).2]; exact i1, by rw [(gw_no hn).1]; exact i2⟩
def FixR (sg : Bool) (S C : FI) (nb : Nat) (V : FI) : Prop := ∀ a b, edS S nb a b → V a ≠ -1 → btr sg (V b) (V a + C b)
theorem Fix_of {sg : Bool} {S C V : FI} {nb : Nat} (h : gwB sg S C (24 * nb) V = false) : FixR sg S C nb V := by
  intro a b he ha
  obtain ⟨h1, h2, h3⟩ := he
  obtain ⟨a', rfl⟩ : ∃ k : Nat, a = k := ⟨a.toNat, by omega⟩
  obtain ⟨b', rfl⟩ : ∃ k : Nat, b = k := ⟨b.toNat, by omega⟩
  have q := of_decide_eq_false ((gwB_no _ h).2 (24 * a' + b') (by omega))
  rw [show (24 * a' + b') / 24 = a' by omega, show (24 * a' + b') % 24 = b' by omega] at q
  refine ⟨fun z => q ⟨ha, h3, Or.inl z⟩, ?_⟩
  cases sg
  · rw [if_neg (by decide)]
    refine Classical.byContradiction fun z => q ⟨ha, h3, Or.inr ?_⟩
    rw [if_neg (by decide)]; omega
  · rw [if_pos rfl]
    refine Classical.byContradiction fun z => q ⟨ha, h3, Or.inr ?_⟩
    rw [if_pos rfl]; omega
def WlP (sg : Bool) (S C : FI) (nb : Nat) (V : FI) : Prop := NNw nb V ∧ SndR S C nb V ∧ CovR sg S C nb 0 V ∧ FixR sg S C nb V
theorem wl_ok {sg : Bool} {S C : FI} {nb : Nat} (hg : GrS S C nb) : ∀ (d r : Nat) (W : FI), r + d = nb → NNw nb W → SndR S C nb W → CovR sg S C nb r W → (∀ V, wl sg S C nb d W = some V → WlP sg S C nb V) ∧ ((∀ V, CovR sg S C nb nb V → ∀ r, CovR sg S C nb r V) → wl sg S C nb d W ≠ none) := by
  intro d
  induction d with
  | zero =>
    intro r W hr hn hs hc
    have e : wl sg S C nb 0 W = if gwB sg S C (24 * nb) W = true then none else some (gwI sg S C (24 * nb) W) := rfl
    rw [e]
    refine ⟨fun V hV => ?_, fun hf => ?_⟩
    · by_cases hb : gwB sg S C (24 * nb) W = true
      · rw [if_pos hb] at hV; cases hV
      · rw [if_neg hb] at hV
        have hb := Bool.eq_false_iff.mpr hb
        rw [(gwB_no _ hb).1] at hV
        cases hV
        exact ⟨hn, hs, fun k b c hk => hc k b c (by omega), Fix_of hb⟩
    · rw [(gwB_full hg hs (hf W (by rw [show nb = r by omega]; rw [show nb = r by omega] at hc; exact hc)) (24 * nb) (Nat.le_refl _)).1]
      intro q
      cases q
  | succ d ih =>
    intro r W hr hn hs hc
    have e : wl sg S C nb (d + 1) W = if gwB sg S C (24 * nb) W = true then wl sg S C nb d (gwI sg S C (24 * nb) W) else some (gwI sg S C (24 * nb) W) := rfl
    rw [e]
    by_cases hb : gwB sg S C (24 * nb) W = true
    · rw [if_pos hb]
      have g := gwI_ok (sg := sg) hg hn hs (24 * nb) (Nat.le_refl _)
      exact ih (r + 1) _ (by omega) g.1 g.2 (Cov_step hg hn hs hc)
    · rw [if_neg hb]
      have hb := Bool.eq_false_iff.mpr hb
      rw [(gwB_no _ hb).1]
      refine ⟨fun V hV => ?_, fun _ q => by cases q⟩
      cases hV
      exact ⟨hn, hs, fun k b c hk => hc k b c (by omega), Fix_of hb⟩
theorem W0_ok {sg : Bool} {S C W : FI} {nb : Nat} (hg : GrS S C nb) (h : W0ok C W nb) : NNw nb W ∧ SndR S C nb W ∧ CovR sg S C nb 0 W := by
  refine ⟨fun b b0 b1 => ?_, fun b b0 b1 hb => ?_, fun k b c hk hv => ?_⟩
  · rw [h b b0 b1]
    split
    · have := hg.2.1 0 (by omega) (by omega)
      omega
    · omega
  · rw [h b b0 b1] at hb ⊢
    by_cases e : b = 0
    · rw [if_pos e]
      exact ⟨0, ⟨b0, b1⟩, e, by rw [e]⟩
    · rw [if_neg e] at hb
      exact absurd rfl hb
  · have e : k = 0 := by omega
    subst e
    obtain ⟨v1, v2, v3⟩ := hv
    have v2 : b = 0 := v2
    rw [h b v1.1 v1.2, if_pos v2, v3, v2]
    have := hg.2.1 0 (by omega) (by omega)
    exact btr_refl (by omega)
/-- the best of the ways that end -/
theorem bf_spec {sg : Bool} {E : Int → Bool} {V : FI} : ∀ t : Nat, (bf sg E V t = -1 ∧ ∀ e, 0 ≤ e → e < (t : Int) → E e = true → V e = -1) ∨ (∃ e, (0 ≤ e ∧ e < (t : Int)) ∧ E e = true ∧ bf sg E V t = V e ∧ V e ≠ -1 ∧ ∀ e', 0 ≤ e' → e' < (t : Int) → E e' = true → V e' ≠ -1 → (if sg = true then V e' ≤ V e else V e ≤ V e')) := by
  intro t
  induction t with
  | zero => exact Or.inl ⟨rfl, fun e h0 h1 => by omega⟩
  | succ t ih =>
    have e : bf sg E V (t + 1) = if bfc sg E V (bf sg E V t) t = true then V t else bf sg E V t := rfl
    rw [e]
    by_cases hc : bfc sg E V (bf sg E V t) t = true
    · rw [if_pos hc]
      obtain ⟨c1, c2, c3⟩ := of_decide_eq_true hc
      refine Or.inr ⟨t, by omega, c1, rfl, c2, fun e' h0 h1 he hv => ?_⟩
      by_cases et : e' = (t : Int)
      · rw [et]; split <;> exact Int.le_refl _
      · rcases ih with ⟨i1, i2⟩ | ⟨x, i1, i2, i3, i4, i5⟩
        · exact absurd (i2 e' h0 (by omega) he) hv
        · have i6 := i5 e' h0 (by omega) he hv
          rcases c3 with z | z
          · rw [i3] at z; exact absurd z i4
          · rw [i3] at z
            cases sg
            · rw [if_neg (by decide)] at z i6 ⊢; omega
            · rw [if_pos rfl] at z i6 ⊢; omega
    · rw [if_neg hc]
      have hc := of_decide_eq_false (Bool.eq_false_iff.mpr hc)
      rcases ih with ⟨i1, i2⟩ | ⟨x, i1, i2, i3, i4, i5⟩
      · refine Or.inl ⟨i1, fun e' h0 h1 he => ?_⟩
        by_cases et : e' = (t : Int)
        · rw [et] at he ⊢
          refine Classical.byContradiction fun z => hc ⟨he, z, Or.inl i1⟩
        · exact i2 e' h0 (by omega) he
      · refine Or.inr ⟨x, by omega, i2, i3, i4, fun e' h0 h1 he hv => ?_⟩
        by_cases et : e' = (t : Int)
        · rw [et] at he hv ⊢
          rw [i3] at hc
          cases sg
          · rw [if_neg (by decide)]
            refine Classical.byContradiction fun z => hc ⟨he, hv, Or.inr ?_⟩
            rw [if_neg (by decide)]; omega
          · rw [if_pos rfl]
            refine Classical.byContradiction fun z => hc ⟨he, hv, Or.inr ?_⟩
            rw [if_pos rfl]; omega
        · exact i5 e' h0 (by omega) he hv
