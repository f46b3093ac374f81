/-! the class's ways: what comes out is a fixed point -/
def edC (F T : FI) (nb : Nat) (a b : Int) : Prop := (0 ≤ a ∧ a < (nb : Int)) ∧ (F b = a ∨ T b = a)
abbrev VB (C F T : FI) (E : Int → Bool) (nb : Nat) : Nat → Int → Int → Prop := Vw (fun b => E b = true) (edC F T nb) C nb
theorem wy_at {nb : Nat} {W : FI} {c : Int} (h : 0 ≤ c ∧ c < (nb : Int)) : wy nb W c = W c := if_pos h
theorem wy_ge {nb : Nat} {W : FI} (h : NNw nb W) (c : Int) : -1 ≤ wy nb W c := by
  unfold wy
  split
  · next q => exact h c q.1 q.2
  · omega
theorem wy_yes {nb : Nat} {W : FI} {c : Int} (h : wy nb W c ≠ -1) : (0 ≤ c ∧ c < (nb : Int)) ∧ W c ≠ -1 ∧ wy nb W c = W c := by
  unfold wy at h ⊢
  by_cases q : 0 ≤ c ∧ c < (nb : Int)
  · rw [if_pos q] at h ⊢; exact ⟨q, h, rfl⟩
  · rw [if_neg q] at h; exact absurd rfl h
theorem lfr_E {C F T : FI} {E : Int → Bool} {nb : Nat} {W : FI} {b : Int} (h : E b = true) : lfr C F T E nb W b = C b := by
  unfold lfr
  rw [if_pos h]
theorem lfr_A {C F T : FI} {E : Int → Bool} {nb : Nat} {W : FI} {b : Int} (hn : NNw nb W) (h : lfr C F T E nb W b ≠ -1) : (E b = true ∧ lfr C F T E nb W b = C b) ∨ (E b = false ∧ ∃ a, edC F T nb a b ∧ W a ≠ -1 ∧ lfr C F T E nb W b = C b + W a) := by
  by_cases hE : E b = true
  · exact Or.inl ⟨hE, lfr_E hE⟩
  · refine Or.inr ⟨Bool.eq_false_iff.mpr hE, ?_⟩
    have h1 := wy_ge hn (F b)
    have h2 := wy_ge hn (T b)
    unfold lfr at h ⊢
    rw [if_neg hE] at h ⊢
    by_cases hb : wy nb W (F b) = -1 ∧ wy nb W (T b) = -1
    · rw [if_pos hb] at h; exact absurd rfl h
    · rw [if_neg hb]
      by_cases hx : wy nb W (F b) = -1
      · have hy : wy nb W (T b) ≠ -1 := fun q => hb ⟨hx, q⟩
        obtain ⟨q1, q2, q3⟩ := wy_yes hy
        refine ⟨T b, ⟨q1, Or.inr rfl⟩, q2, ?_⟩
        rw [if_pos (Or.inl hx), if_pos (by omega), q3]
      · obtain ⟨q1, q2, q3⟩ := wy_yes hx
        by_cases hy : wy nb W (T b) = -1
        · refine ⟨F b, ⟨q1, Or.inl rfl⟩, q2, ?_⟩
          rw [if_pos (Or.inr hy), if_neg (by omega), q3]
        · obtain ⟨r1, r2, r3⟩ := wy_yes hy
          rw [if_neg (fun z => z.elim hx hy)]
          by_cases hl : wy nb W (T b) < wy nb W (F b)
          · exact ⟨T b, ⟨r1, Or.inr rfl⟩, r2, by rw [if_pos hl, r3]⟩
          · exact ⟨F b, ⟨q1, Or.inl rfl⟩, q2, by rw [if_neg hl, q3]⟩
theorem lfr_C {C F T : FI} {E : Int → Bool} {nb : Nat} {W : FI} {a b : Int} (hn : NNw nb W) (hb : 1 ≤ C b) (he : edC F T nb a b) (ha : W a ≠ -1) : lfr C F T E nb W b ≠ -1 ∧ lfr C F T E nb W b ≤ C b + W a := by
  obtain ⟨h0, h1⟩ := he
  have h2 := hn a h0.1 h0.2
  have hx := wy_ge hn (F b)
  have hy := wy_ge hn (T b)
  unfold lfr
  by_cases hE : E b = true
  · rw [if_pos hE]; omega
  · rw [if_neg hE]
    rcases h1 with h1 | h1
    · have e : wy nb W (F b) = W a := by rw [h1]; exact wy_at h0
      rw [e] at hx ⊢
      rw [if_neg (fun q => ha q.1)]
      by_cases hyy : wy nb W (T b) = -1
      · rw [if_pos (Or.inr hyy), if_neg (by omega)]; omega
      · rw [if_neg (fun z => z.elim ha hyy)]
        split <;> omega
    · have e : wy nb W (T b) = W a := by rw [h1]; exact wy_at h0
      rw [e] at hy ⊢
      rw [if_neg (fun q => ha q.2)]
      by_cases hxx : wy nb W (F b) = -1
      · rw [if_pos (Or.inl hxx), if_pos (by omega)]; omega
      · rw [if_neg (fun z => z.elim hxx ha)]
        split <;> omega
def SndC (C F T : FI) (E : Int → Bool) (nb : Nat) (W : FI) : Prop := ∀ b, 0 ≤ b → b < (nb : Int) → W b ≠ -1 → ∃ k, VB C F T E nb k b (W b)
def CovC (C F T : FI) (E : Int → Bool) (nb d : Nat) (W : FI) : Prop := ∀ (k : Nat) (b c : Int), k < d → VB C F T E nb k b c → W b ≠ -1 ∧ W b ≤ c
theorem lfr_snd {C F T : FI} {E : Int → Bool} {nb : Nat} {W : FI} {b : Int} (hn : NNw nb W) (hs : SndC C F T E nb W) (hb : 0 ≤ b ∧ b < (nb : Int)) (h : lfr C F T E nb W b ≠ -1) : ∃ k, VB C F T E nb k b (lfr C F T E nb W b) := by
  rcases lfr_A hn h with ⟨h1, h2⟩ | ⟨h1, a, h2, h3, h4⟩
  · exact ⟨0, hb, h1, h2⟩
  · obtain ⟨k, hk⟩ := hs a h2.1.1 h2.1.2 h3
    refine ⟨k + 1, hb, a, h2, ?_⟩
    rw [h4, show C b + W a - C b = W a by omega]
    exact hk
theorem lfr_cov {C F T : FI} {E : Int → Bool} {nb d : Nat} {W : FI} (hC : ∀ b, 0 ≤ b → b < (nb : Int) → 1 ≤ C b) (hn : NNw nb W) (hc : CovC C F T E nb d W) (k : Nat) (b c : Int) (hk : k < d + 1) (hv : VB C F T E nb k b c) : lfr C F T E nb W b ≠ -1 ∧ lfr C F T E nb W b ≤ c := by
  have hb := Vw_in hv
  have hCb := hC b hb.1 hb.2
  cases k with
  | zero =>
    obtain ⟨h1, h2, h3⟩ := hv
    rw [lfr_E h2, h3]
    omega
  | succ k =>
    obtain ⟨h1, a, h2, h3⟩ := hv
    have q := hc k a _ (by omega) h3
    have r := lfr_C (E := E) hn hCb h2 q.1
    omega
theorem ls_eq {f : FI → FI} {W : FI} {k : Int} : ls f W k = updF W k (f W k) := by
  unfold ls lsB
  by_cases h : f W k ≠ W k
  · rw [if_pos (decide_eq_true h)]
  · rw [if_neg (by rw [decide_eq_false h]; decide)]
    funext j
    unfold updF
    split
    · next q => rw [q]; exact (Classical.not_not.mp h).symm
    · rfl
theorem l_round {C F T : FI} {E : Int → Bool} {nb d : Nat} (hC : ∀ b, 0 ≤ b → b < (nb : Int) → 1 ≤ C b) : ∀ (k : Nat) (W : FI), k ≤ nb → NNw nb W → SndC C F T E nb W → CovC C F T E nb d W → (∀ (k' : Nat) (b c : Int), (k : Int) ≤ b → k' < d + 1 → VB C F T E nb k' b c → W b ≠ -1 ∧ W b ≤ c) → NNw nb (wI (ls (lfr C F T E nb)) k W) ∧ SndC C F T E nb (wI (ls (lfr C F T E nb)) k W) ∧ CovC C F T E nb (d + 1) (wI (ls (lfr C F T E nb)) k W) := by
  intro k
  induction k with
  | zero =>
    intro W _ hn hs hc hx
    exact ⟨hn, hs, fun k b c hk hv => hx k b c (by have := (Vw_in hv).1; omega) hk hv⟩
  | succ k ih =>
    intro W hk hn hs hc hx
    have e : wI (ls (lfr C F T E nb)) (k + 1) W = wI (ls (lfr C F T E nb)) k (updF W k (lfr C F T E nb W k)) := by rw [← ls_eq]; rfl
    rw [e]
    have hkr : 0 ≤ (k : Int) ∧ (k : Int) < nb := by omega
    refine ih _ (by omega) (fun b b0 b1 => ?_) (fun b b0 b1 => ?_) (fun k' b c hk' hv => ?_) (fun k' b c hb hk' hv => ?_)
    · unfold updF
      split
      · by_cases z : lfr C F T E nb W k = -1
        · omega
        · rcases lfr_A hn z with ⟨_, h2⟩ | ⟨_, a, h2, h3, h4⟩
          · have := hC k hkr.1 hkr.2
            omega
          · have := hC k hkr.1 hkr.2
            have := hn a h2.1.1 h2.1.2
            omega
      · exact hn b b0 b1
    · unfold updF
      by_cases z : b = (k : Int)
      · rw [if_pos z, z]
        exact lfr_snd hn hs hkr
      · rw [if_neg z]
        exact hs b b0 b1
    · unfold updF
      by_cases z : b = (k : Int)
      · rw [if_pos z]
        rw [z] at hv
        exact lfr_cov hC hn hc k' _ c (by omega) hv
      · rw [if_neg z]
        exact hc k' b c hk' hv
    · unfold updF
      by_cases z : b = (k : Int)
      · rw [if_pos z]
        rw [z] at hv
        exact lfr_cov hC hn hc k' _ c hk' hv
      · rw [if_neg z]
        exact hx k' b c (by omega) hk' hv
theorem wC_false {st : FI → Int → FI} {sb : FI → Int → Bool} (hst : ∀ W k, sb W k = false → st W k = W) : ∀ (k : Nat) (W : FI) (c : Bool), wC st sb k W c = false → c = false ∧ wI st k W = W ∧ ∀ j : Nat, j < k → sb W j = false := by
  intro k
  induction k with
  | zero => intro W c h; exact ⟨h, rfl, fun j hj => by omega⟩
  | succ k ih =>
    intro W c h
    have h : wC st sb k (st W k) (c || sb W k) = false := h
    obtain ⟨h1, h2, h3⟩ := ih _ _ h
    obtain ⟨h4, h5⟩ := Bool.or_eq_false_iff.mp h1
    have e := hst W k h5
    rw [e] at h2 h3
    refine ⟨h4, ?_, fun j hj => ?_⟩
    · show wI st k (st W k) = W
      rw [e]; exact h2
    · by_cases z : j = k
      · rw [z]; exact h5
      · exact h3 j (by omega)
def FixL (C F T : FI) (E : Int → Bool) (nb : Nat) (W : FI) : Prop := ∀ b, 0 ≤ b → b < (nb : Int) → lfr C F T E nb W b = W b
theorem wRl_ok {C F T : FI} {E : Int → Bool} {nb : Nat} (hC : ∀ b, 0 ≤ b → b < (nb : Int) → 1 ≤ C b) : ∀ (d r : Nat) (W : FI) (c : Bool), r + d = nb → NNw nb W → SndC C F T E nb W → CovC C F T E nb r W → (c = false → FixL C F T E nb W) → NNw nb (wR (ls (lfr C F T E nb)) (lsB (lfr C F T E nb)) nb d W c) ∧ SndC C F T E nb (wR (ls (lfr C F T E nb)) (lsB (lfr C F T E nb)) nb d W c) ∧ (CovC C F T E nb nb (wR (ls (lfr C F T E nb)) (lsB (lfr C F T E nb)) nb d W c) ∨ FixL C F T E nb (wR (ls (lfr C F T E nb)) (lsB (lfr C F T E nb)) nb d W c)) := by
  intro d
  induction d with
  | zero =>
    intro r W c hr hn hs hc _
    have e : r = nb := by omega
    rw [e] at hc
    exact ⟨hn, hs, Or.inl hc⟩
  | succ d ih =>
    intro r W c hr hn hs hc hf
    have e : wR (ls (lfr C F T E nb)) (lsB (lfr C F T E nb)) nb (d + 1) W c = if c = true then wR (ls (lfr C F T E nb)) (lsB (lfr C F T E nb)) nb d (wI (ls (lfr C F T E nb)) nb W) (wC (ls (lfr C F T E nb)) (lsB (lfr C F T E nb)) nb W false) else W := rfl
    rw [e]
    by_cases hcc : c = true
    · rw [if_pos hcc]
      obtain ⟨g1, g2, g3⟩ := l_round (E := E) hC nb W (Nat.le_refl _) hn hs hc (fun k' b c hb _ hv => by have := (Vw_in hv).2; omega)
      refine ih (r + 1) _ _ (by omega) g1 g2 g3 (fun hq => ?_)
      obtain ⟨_, q2, q3⟩ := wC_false (fun W k hz => by unfold ls; rw [hz]; rfl) nb W false hq
      rw [q2]
      intro b b0 b1
      have := q3 b.toNat (by omega)
      rw [show ((b.toNat : Nat) : Int) = b by omega] at this
      exact Classical.not_not.mp (of_decide_eq_false this)
    · rw [if_neg hcc]
      exact ⟨hn, hs, Or.inr (hf (Bool.eq_false_iff.mpr hcc))⟩
theorem FixL_of {C F T : FI} {E : Int → Bool} {nb : Nat} {W : FI} (hC : ∀ b, 0 ≤ b → b < (nb : Int) → 1 ≤ C b) (hn : NNw nb W) (hs : SndC C F T E nb W) (hc : CovC C F T E nb nb W) : FixL C F T E nb W := by
  have hall : ∀ d, CovC C F T E nb d W := fun d k b c hk hv => by
    obtain ⟨k', c', q1, q2, q3⟩ := Vw_short hC k k b c (Nat.le_refl _) hv
    have := hc k' b c' q1 q3
    omega
  intro b b0 b1
  by_cases h1 : lfr C F T E nb W b = -1
  · rw [h1]
    refine (Classical.byContradiction fun z => ?_)
    obtain ⟨k, hk⟩ := hs b b0 b1 (fun q => z q.symm)
    exact (lfr_cov hC hn (hall (k + 1)) k b _ (by omega) hk).1 h1
  · obtain ⟨k, hk⟩ := lfr_snd hn hs ⟨b0, b1⟩ h1
    have q := hall (k + 1) k b _ (by omega) hk
    obtain ⟨k2, hk2⟩ := hs b b0 b1 q.1
    have q2 := lfr_cov hC hn (hall (k2 + 1)) k2 b _ (by omega) hk2
    omega
theorem leastW {C F T : FI} {E : Int → Bool} {nb : Nat} (hC : ∀ b, 0 ≤ b → b < (nb : Int) → 1 ≤ C b) : NNw nb (wR (ls (lfr C F T E nb)) (lsB (lfr C F T E nb)) nb nb (fun _ => -1) true) ∧ FixL C F T E nb (wR (ls (lfr C F T E nb)) (lsB (lfr C F T E nb)) nb nb (fun _ => -1) true) := by
  obtain ⟨h1, h2, h3⟩ := wRl_ok (F := F) (T := T) (E := E) hC nb 0 (fun _ => -1) true (by omega) (fun _ _ _ => Int.le_refl _) (fun _ _ _ h => absurd rfl h) (fun k _ _ hk => by omega) (fun h => by cases h)
  refine ⟨h1, ?_⟩
  rcases h3 with h3 | h3
  · exact FixL_of hC h1 h2 h3
  · exact h3
/-! greatest -/
theorem gf1_up {F : FI} {nb : Nat} {W : FI} {b k v : Int} (h : gf1 F nb W b ≠ -1) (hk : W k = -1) : gf1 F nb (updF W k v) b = gf1 F nb W b := by
  unfold gf1 at h ⊢
  by_cases hF : F b = -1
  · rw [if_pos hF, if_pos hF]
  · rw [if_neg hF] at h ⊢
    rw [if_neg hF]
    obtain ⟨q1, q2, q3⟩ := wy_yes h
    rw [wy_at q1, wy_at q1]
    unfold updF
    rw [if_neg (fun z => q2 (by rw [z]; exact hk))]
theorem gfr_up {C F T : FI} {nb : Nat} {W : FI} {b k v : Int} (h : gfr C F T nb W b ≠ -1) (hk : W k = -1) : gfr C F T nb (updF W k v) b = gfr C F T nb W b := by
  have h1 : gf1 F nb W b ≠ -1 := fun q => h (by unfold gfr; rw [if_pos (Or.inl q)])
  have h2 : gf1 T nb W b ≠ -1 := fun q => h (by unfold gfr; rw [if_pos (Or.inr q)])
  unfold gfr
  rw [gf1_up h1 hk, gf1_up h2 hk]
theorem gf1_ge {F : FI} {nb : Nat} {W : FI} (h : NNw nb W) (b : Int) : -1 ≤ gf1 F nb W b := by
  unfold gf1
  split
  · omega
  · exact wy_ge h _
theorem gfr_ge {C F T : FI} {nb : Nat} {W : FI} {b : Int} (h : NNw nb W) (hb : 1 ≤ C b) : gfr C F T nb W b = -1 ∨ C b ≤ gfr C F T nb W b := by
  have h1 := gf1_ge (F := F) h b
  have h2 := gf1_ge (F := T) h b
  unfold gfr
  by_cases q : gf1 F nb W b = -1 ∨ gf1 T nb W b = -1
  · rw [if_pos q]; exact Or.inl rfl
  · rw [if_neg q]
    refine Or.inr ?_
    split <;> omega
def GI (C F T : FI) (nb : Nat) (W : FI) : Prop := ∀ b, 0 ≤ b → b < (nb : Int) → W b ≠ -1 → gfr C F T nb W b = W b
theorem gs_ok {C F T : FI} {nb : Nat} {W : FI} {k : Int} (hC : ∀ b, 0 ≤ b → b < (nb : Int) → 1 ≤ C b) (hn : NNw nb W) (hk : 0 ≤ k ∧ k < (nb : Int)) (h : GI C F T nb W) : NNw nb (gs (gfr C F T nb) W k) ∧ GI C F T nb (gs (gfr C F T nb) W k) := by
  unfold gs
  by_cases q : gsB (gfr C F T nb) W k = true
  · rw [if_pos q]
    obtain ⟨q1, q2⟩ := of_decide_eq_true q
    refine ⟨fun b b0 b1 => ?_, fun b b0 b1 hb => ?_⟩
    · unfold updF
      split
      · have := gfr_ge (F := F) (T := T) hn (hC k hk.1 hk.2)
        have := hC k hk.1 hk.2
        omega
      · exact hn b b0 b1
    · by_cases z : b = k
      · rw [z, gfr_up q2 q1]
        unfold updF
        rw [if_pos rfl]
      · have e : updF W k (gfr C F T nb W k) b = W b := if_neg z
        rw [e] at hb ⊢
        have g := h b b0 b1 hb
        rw [gfr_up (by rw [g]; exact hb) q1, g]
  · rw [if_neg q]
    exact ⟨hn, h⟩
theorem gs_mono {f : FI → FI} {W : FI} {k b : Int} (h : W b ≠ -1) : gs f W k b ≠ -1 := by
  unfold gs
  by_cases q : gsB f W k = true
  · rw [if_pos q]
    obtain ⟨q1, q2⟩ := of_decide_eq_true q
    unfold updF
    split
    · exact q2
    · exact h
  · rw [if_neg q]; exact h
theorem wIg_ok {C F T : FI} {nb : Nat} (hC : ∀ b, 0 ≤ b → b < (nb : Int) → 1 ≤ C b) : ∀ (k : Nat) (W : FI), k ≤ nb → NNw nb W → GI C F T nb W → NNw nb (wI (gs (gfr C F T nb)) k W) ∧ GI C F T nb (wI (gs (gfr C F T nb)) k W) := by
  intro k
  induction k with
  | zero => intro W _ h1 h2; exact ⟨h1, h2⟩
  | succ k ih =>
    intro W hk h1 h2
    have g := gs_ok (k := (k : Int)) hC h1 (by omega) h2
    exact ih _ (by omega) g.1 g.2
theorem wIg_mono {f : FI → FI} {b : Int} : ∀ (k : Nat) (W : FI), W b ≠ -1 → wI (gs f) k W b ≠ -1 := by
  intro k
  induction k with
  | zero => intro W h; exact h
  | succ k ih => intro W h; exact ih _ (gs_mono h)
theorem wCg_true {f : FI → FI} : ∀ (k : Nat) (W : FI) (c : Bool), wC (gs f) (gsB f) k W c = true → c = true ∨ ∃ j : Nat, j < k ∧ W j = -1 ∧ wI (gs f) k W j ≠ -1 := by
  intro k
  induction k with
  | zero => intro W c h; exact Or.inl h
  | succ k ih =>
    intro W c h
    have h : wC (gs f) (gsB f) k (gs f W k) (c || gsB f W k) = true := h
    rcases ih _ _ h with q | ⟨j, j1, j2, j3⟩
    · rcases Bool.or_eq_true_iff.mp q with q | q
      · exact Or.inl q
      · obtain ⟨q1, q2⟩ := of_decide_eq_true q
        refine Or.inr ⟨k, by omega, q1, ?_⟩
        show wI (gs f) k (gs f W k) k ≠ -1
        refine wIg_mono k _ ?_
        unfold gs
        rw [if_pos q]
        unfold updF
        rw [if_pos rfl]
        exact q2
    · refine Or.inr ⟨j, by omega, Classical.byContradiction fun z => gs_mono z j2, j3⟩
theorem cnt_full {l : Int → Bool} : ∀ t : Nat, cnt l t = t → ∀ i : Nat, i < t → l i = true := by
  intro t
  induction t with
  | zero => intro _ i hi; omega
  | succ t ih =>
    intro h i hi
    have hc : cnt l (t + 1) = cnt l t + if l t then 1 else 0 := rfl
    have := cnt_le l t
    cases e : l t with
    | false => rw [e, if_neg (by decide)] at hc; omega
    | true =>
      rw [e, if_pos rfl] at hc
      by_cases z : i = t
      · rw [z]; exact e
      · exact ih (by omega) i (by omega)
def FixG (C F T : FI) (nb : Nat) (W : FI) : Prop := ∀ b, 0 ≤ b → b < (nb : Int) → gfr C F T nb W b = W b
theorem wRg_ok {C F T : FI} {nb : Nat} (hC : ∀ b, 0 ≤ b → b < (nb : Int) → 1 ≤ C b) : ∀ (d : Nat) (W : FI), NNw nb W → GI C F T nb W → nb ≤ cnt (fun b => decide (W b ≠ -1)) nb + d → NNw nb (wR (gs (gfr C F T nb)) (gsB (gfr C F T nb)) nb d W true) ∧ FixG C F T nb (wR (gs (gfr C F T nb)) (gsB (gfr C F T nb)) nb d W true) := by
  intro d
  induction d with
  | zero =>
    intro W hn hg hc
    have := cnt_le (fun b => decide (W b ≠ -1)) nb
    refine ⟨hn, fun b b0 b1 => hg b b0 b1 ?_⟩
    have q := cnt_full (l := fun b => decide (W b ≠ -1)) nb (by omega) b.toNat (by omega)
    rw [show ((b.toNat : Nat) : Int) = b by omega] at q
    exact of_decide_eq_true q
  | succ d ih =>
    intro W hn hg hc
    have e : wR (gs (gfr C F T nb)) (gsB (gfr C F T nb)) nb (d + 1) W true = wR (gs (gfr C F T nb)) (gsB (gfr C F T nb)) nb d (wI (gs (gfr C F T nb)) nb W) (wC (gs (gfr C F T nb)) (gsB (gfr C F T nb)) nb W false) := rfl
    rw [e]
    obtain ⟨g1, g2⟩ := wIg_ok hC nb W (Nat.le_refl _) hn hg
    cases hcc : wC (gs (gfr C F T nb)) (gsB (gfr C F T nb)) nb W false with
    | true =>
      rcases wCg_true nb W false hcc with q | ⟨j, j1, j2, j3⟩
      · cases q
      · refine ih _ g1 g2 ?_
        have := cnt_sub_lt (l := fun b => decide (W b ≠ -1)) (l' := fun b => decide (wI (gs (gfr C F T nb)) nb W b ≠ -1)) (i := j) (decide_eq_false (fun z => z j2)) (decide_eq_true j3) nb j1 (fun i hi h => decide_eq_true (wIg_mono nb W (of_decide_eq_true h)))
        omega
    | false =>
      obtain ⟨_, q2, q3⟩ := wC_false (fun W k hz => by unfold gs; rw [hz]; rfl) nb W false hcc
      have ew : wR (gs (gfr C F T nb)) (gsB (gfr C F T nb)) nb d (wI (gs (gfr C F T nb)) nb W) false = wI (gs (gfr C F T nb)) nb W := by cases d <;> rfl
      rw [ew, q2]
      refine ⟨hn, fun b b0 b1 => ?_⟩
      by_cases z : W b = -1
      · have := q3 b.toNat (by omega)
        rw [show ((b.toNat : Nat) : Int) = b by omega] at this
        have := of_decide_eq_false this
        rw [z]
        exact Classical.byContradiction fun y => this ⟨z, y⟩
      · exact hg b b0 b1 z
theorem greatW {C F T : FI} {nb : Nat} (hC : ∀ b, 0 ≤ b → b < (nb : Int) → 1 ≤ C b) : NNw nb (wR (gs (gfr C F T nb)) (gsB (gfr C F T nb)) nb nb (fun _ => -1) true) ∧ FixG C F T nb (wR (gs (gfr C F T nb)) (gsB (gfr C F T nb)) nb nb (fun _ => -1) true) :=
  wRg_ok hC nb _ (fun _ _ _ => Int.le_refl _) (fun _ _ _ h => absurd rfl h) (by omega)
