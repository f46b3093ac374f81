/-! the reference: blocks are laid, first loop -/
def blF (l : Int → Bool) : FI := fun i => (cnt l (i.toNat + 1) : Int) - 1
theorem bcF_new {l : Int → Bool} {ic : FI} (h0 : l 0 = true) : ∀ (t : Nat) (c : Int), (cnt l t : Int) ≤ c → bcF ic (blF l) t c = 0 := by
  intro t
  induction t with
  | zero => intro c _; rfl
  | succ t ih =>
    intro c hc
    have hm := cnt_mono l (show t ≤ t + 1 by omega)
    have hb : blF l t = (cnt l (t + 1) : Int) - 1 := by unfold blF; rw [Int.toNat_natCast]
    unfold bcF
    rw [if_neg (by rw [hb]; omega)]
    exact ih c (by omega)
def BkI (l : Int → Bool) (ic : FI) (Z Z' : ZW) (s t : Nat) : Prop := Z' 64 9 = cnt l t ∧ (∀ j : Int, 0 ≤ j → j < s → Z' 71 j = blF l j) ∧ (∀ c : Int, 0 ≤ c → c < cnt l t → Z' 70 c = stF l t c ∧ Z' 74 c = bcF ic (blF l) s c) ∧ ∀ (k : Nat) (j : Int), k ≠ 70 → k ≠ 71 → k ≠ 74 → ¬ (k = 64 ∧ j = 9) → Z' k j = Z k j
theorem Bk_stay {l : Int → Bool} {ic : FI} {Z Z' : ZW} {t : Nat} (h : BkI l ic Z Z' t t) (hl : l t = false) : BkI l ic Z Z' t (t + 1) := by
  have hc : cnt l (t + 1) = cnt l t := by show cnt l t + (if l t then 1 else 0) = _; rw [hl]; rfl
  obtain ⟨h1, h2, h3, h4⟩ := h
  refine ⟨by rw [hc]; exact h1, h2, fun c c0 c1 => ?_, h4⟩
  rw [hc] at c1
  unfold stF
  rw [if_neg (fun q => by rw [hl] at q; cases q.1)]
  exact h3 c c0 c1
theorem Bk_new {l : Int → Bool} {ic : FI} {Z Z' : ZW} {t : Nat} (h0 : l 0 = true) (h : BkI l ic Z Z' t t) (hl : l t = true) : BkI l ic Z (up (up (up Z' 70 (cnt l t) t) 74 (cnt l t) 0) 64 9 (cnt l t + 1)) t (t + 1) := by
  have hc : cnt l (t + 1) = cnt l t + 1 := by show cnt l t + (if l t then 1 else 0) = _; rw [hl]; rfl
  obtain ⟨h1, h2, h3, h4⟩ := h
  refine ⟨by rw [up_eq, hc]; rfl, fun j j0 j1 => ?_, fun c c0 c1 => ?_, fun k j k1 k2 k3 k4 => ?_⟩
  · rw [up_ne (by decide), up_ne (by decide), up_ne (by decide)]; exact h2 j j0 j1
  · unfold stF
    by_cases hcc : c = (cnt l t : Int)
    · rw [if_pos ⟨hl, hcc.symm⟩, hcc, bcF_new h0 t _ (Int.le_refl _), up_ne (by decide), up_ne (by decide), up_eq, up_ne (by decide), up_eq]
      exact ⟨rfl, rfl⟩
    · rw [if_neg (fun q => hcc q.2.symm), up_ne (by decide), up_ne (by decide), up_nj hcc, up_ne (by decide), up_nj hcc, up_ne (by decide)]
      exact h3 c c0 (by omega)
  · unfold up
    rw [if_neg k4, if_neg (fun q => k3 q.1), if_neg (fun q => k1 q.1)]
    exact h4 k j k1 k2 k3 k4
theorem Bk_add {l : Int → Bool} {ic : FI} {Z Z' : ZW} {t : Nat} (h : BkI l ic Z Z' t (t + 1)) {w : Int} (hw : w = (cnt l (t + 1) : Int) - 1) : BkI l ic Z (up (up Z' 71 t w) 74 w (Z' 74 w + ic t)) (t + 1) (t + 1) := by
  obtain ⟨h1, h2, h3, h4⟩ := h
  have hb : blF l t = w := by rw [hw]; unfold blF; rw [Int.toNat_natCast]
  refine ⟨by rw [up_ne (by decide), up_ne (by decide)]; exact h1, fun j j0 j1 => ?_, fun c c0 c1 => ?_, fun k j k1 k2 k3 k4 => ?_⟩
  · rw [up_ne (by decide)]
    by_cases hjt : j = (t : Int)
    · rw [hjt, up_eq, hb]
    · rw [up_nj hjt]; exact h2 j j0 (by omega)
  · rw [up_ne (by decide), up_ne (by decide)]
    refine ⟨(h3 c c0 c1).1, ?_⟩
    unfold bcF
    by_cases hcw : c = w
    · rw [if_pos (by rw [hb]; exact hcw.symm), ← (h3 c c0 c1).2, hcw, up_eq]
    · rw [if_neg (fun q => hcw (by rw [← q, hb])), up_nj hcw, up_ne (by decide)]
      exact (h3 c c0 c1).2
  · rw [up_ne k3, up_ne k2]; exact h4 k j k1 k2 k3 k4
