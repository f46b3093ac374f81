/-! what follows a block: the rows that laysFollowing leaves -/
def gtM (bl : FI) (n m x : Int) : Int := if x < n then orI m (bitv (bl x)) else m
def gtE (n e x : Int) : Int := if x < n then e else 1
def lfM (bl : FI) (n l o t : Int) : Int := if goB o = true then gtM bl n (if jmB o = true then gtM bl n 0 t else 0) (l + 1) else (if jmB o = true then gtM bl n 0 t else 0)
def lfE (n l o t : Int) : Int := if goB o = true then gtE n (if jmB o = true then gtE n (if o = 7 then 1 else 0) t else (if o = 7 then 1 else 0)) (l + 1) else (if jmB o = true then gtE n (if o = 7 then 1 else 0) t else (if o = 7 then 1 else 0))
theorem GT_rows {Z : ZW} {b x : Int} : GT Z b x 72 b = gtM (Z 71) (Z 65 0) (Z 72 b) x ∧ GT Z b x 73 b = gtE (Z 65 0) (Z 73 b) x ∧ ∀ j, j ≠ b → GT Z b x 72 j = Z 72 j ∧ GT Z b x 73 j = Z 73 j := by
  unfold GT gtM gtE
  by_cases h : x < Z 65 0
  · rw [if_pos h, if_pos h, if_pos h]
    refine ⟨by rw [up_eq], by rw [up_ne (by decide)], fun j hj => ⟨by rw [up_nj hj], by rw [up_ne (by decide)]⟩⟩
  · rw [if_neg h, if_neg h, if_neg h]
    refine ⟨by rw [up_ne (by decide)], by rw [up_eq], fun j hj => ⟨by rw [up_ne (by decide)], by rw [up_nj hj]⟩⟩
theorem LF_rows {Z : ZW} {b l o t : Int} : LF Z b l o t 72 b = lfM (Z 71) (Z 65 0) l o t ∧ LF Z b l o t 73 b = lfE (Z 65 0) l o t ∧ (∀ j, j ≠ b → LF Z b l o t 72 j = Z 72 j ∧ LF Z b l o t 73 j = Z 73 j) ∧ ∀ (k : Nat) (j : Int), k ≠ 72 → k ≠ 73 → LF Z b l o t k j = Z k j := by
  obtain ⟨Z1, h1⟩ : ∃ Z1, Z1 = (up (up Z 72 b 0) 73 b (if o = 7 then 1 else 0)) := ⟨_, rfl⟩
  have f1 : ∀ (k : Nat) (j : Int), k ≠ 72 → k ≠ 73 → Z1 k j = Z k j := fun k j k1 k2 => by rw [h1, up_ne k2, up_ne k1]
  have a1 : Z1 72 b = 0 := by rw [h1, up_ne (by decide), up_eq]
  have a2 : Z1 73 b = (if o = 7 then 1 else 0) := by rw [h1, up_eq]
  have a3 : ∀ j, j ≠ b → Z1 72 j = Z 72 j ∧ Z1 73 j = Z 73 j := fun j hj => by
    rw [h1, up_ne (by decide), up_nj hj, up_nj hj, up_ne (by decide)]
    exact ⟨rfl, rfl⟩
  obtain ⟨Z2, h2⟩ : ∃ Z2, Z2 = (if jmB o = true then GT Z1 b t else Z1) := ⟨_, rfl⟩
  have e71 : Z1 71 = Z 71 := funext fun j => f1 71 j (by decide) (by decide)
  have e65 : Z1 65 0 = Z 65 0 := f1 65 0 (by decide) (by decide)
  have f2 : ∀ (k : Nat) (j : Int), k ≠ 72 → k ≠ 73 → Z2 k j = Z k j := fun k j k1 k2 => by
    rw [h2]
    split
    · rw [GT_65 ⟨k1, k2⟩]; exact f1 k j k1 k2
    · exact f1 k j k1 k2
  have b1 : Z2 72 b = (if jmB o = true then gtM (Z 71) (Z 65 0) 0 t else 0) := by
    rw [h2]
    split
    · rw [GT_rows.1, a1, e71, e65]
    · exact a1
  have b2 : Z2 73 b = (if jmB o = true then gtE (Z 65 0) (if o = 7 then 1 else 0) t else (if o = 7 then 1 else 0)) := by
    rw [h2]
    by_cases hj : jmB o = true
    · rw [if_pos hj, if_pos hj, GT_rows.2.1, a2, e65]
    · rw [if_neg hj, if_neg hj]; exact a2
  have b3 : ∀ j, j ≠ b → Z2 72 j = Z 72 j ∧ Z2 73 j = Z 73 j := fun j hj => by
    rw [h2]
    split
    · rw [(GT_rows.2.2 j hj).1, (GT_rows.2.2 j hj).2]; exact a3 j hj
    · exact a3 j hj
  have g71 : Z2 71 = Z 71 := funext fun j => f2 71 j (by decide) (by decide)
  have g65 : Z2 65 0 = Z 65 0 := f2 65 0 (by decide) (by decide)
  have hLF : LF Z b l o t = (if goB o = true then GT Z2 b (l + 1) else Z2) := by rw [h2, h1]; rfl
  rw [hLF]
  unfold lfM lfE
  rw [← b1, ← b2]
  by_cases hg : goB o = true
  · rw [if_pos hg, if_pos hg, if_pos hg]
    refine ⟨by rw [GT_rows.1, g71, g65], by rw [GT_rows.2.1, g65], fun j hj => ?_, fun k j k1 k2 => ?_⟩
    · rw [(GT_rows.2.2 j hj).1, (GT_rows.2.2 j hj).2]; exact b3 j hj
    · rw [GT_65 ⟨k1, k2⟩]; exact f2 k j k1 k2
  · rw [if_neg hg, if_neg hg, if_neg hg]
    exact ⟨rfl, rfl, b3, f2⟩
