/-! what holds between two calls of the law -/
def I_T (Z : ZW) : Prop := TXT Z ∧ Z 64 6 = Z 1 0 ∧ ∀ j, 0 ≤ j → j < Z 1 0 → Z 69 j = Z 2 j
def I_E (Z : ZW) : Prop := ∀ x, 0 ≤ x → x < (3 : Int) → Z 68 x = Z 63 x
def SE (Z : ZW) (a n : Nat) (f : FI) : Prop := WFs Z a n ∧ f 0 = n ∧ (∀ i, 0 ≤ i → i < (n : Int) → f (1 + i) = Z (a + 1) i ∧ f (25 + i) = Z (a + 2) i ∧ f (49 + i) = Z (a + 3) i) ∧ ∀ c, 0 ≤ c → c < (8 : Int) → f (73 + c) = Z (a + 4) c
def I_P (Z : ZW) (n : Nat) : Prop := CP Z n ∧ SE Z 4 n (Z 65)
def rp (x s k : Int) : Nat := ((x - s + k) % 5).toNat
def I_H (Z : ZW) : Prop := HB Z ∧ Z 64 3 = Z 32 0 ∧ ∀ k, 0 ≤ k → k < Z 32 0 → ∃ n, SE Z (34 + 5 * rp (Z 32 1) (Z 32 0) k) n (fun j => Z 67 (81 * k + j))
def I_R (Z : ZW) : Prop := Z 64 18 = Z 59 0 ∧ Z 64 19 = Z 59 1 ∧ Z 64 20 = Z 59 2 ∧ Z 64 21 = Z 59 3 ∧ Z 64 22 = Z 59 4 ∧ (∀ r, 0 ≤ r → r < (4 : Int) → Z 78 r = Z 60 r) ∧ CR (Z 59 1) (Z 59 3)
def INV (Z : ZW) : Prop := ∃ n, I_P Z n ∧ I_T Z ∧ I_E Z ∧ I_H Z ∧ I_R Z
theorem I_T_of {Z Z' : ZW} (h : I_T Z) (e : ∀ (k : Nat) (j : Int), (k = 1 ∨ k = 2 ∨ k = 69 ∨ (k = 64 ∧ j = 6)) → Z' k j = Z k j) : I_T Z' := by
  unfold I_T TXT
  rw [e 1 0 (by omega), e 64 6 (by omega), show Z' 2 = Z 2 from funext fun j => e 2 j (by omega), show Z' 69 = Z 69 from funext fun j => e 69 j (by omega)]
  exact h
theorem I_E_of {Z Z' : ZW} (h : I_E Z) (e : ∀ (k : Nat) (j : Int), (k = 63 ∨ k = 68) → Z' k j = Z k j) : I_E Z' := fun x x0 x1 => by rw [e 68 x (by omega), e 63 x (by omega)]; exact h x x0 x1
theorem CP_of {Z Z' : ZW} {n : Nat} (h : CP Z n) (e : ∀ (k : Nat) (j : Int), (4 ≤ k ∧ k ≤ 31) → Z' k j = Z k j) : CP Z' n := by
  have f : ∀ k, 4 ≤ k → k ≤ 31 → Z' k = Z k := fun k h1 h2 => funext fun j => e k j ⟨h1, h2⟩
  unfold CP GP PP
  rw [show enB Z' = enB Z from funext fun b => enB_congr (e 14 (8 + b) (by omega)), f 4 (by decide) (by decide), f 5 (by decide) (by decide), f 6 (by decide) (by decide), f 7 (by decide) (by decide), f 8 (by decide) (by decide), f 14 (by decide) (by decide), f 15 (by decide) (by decide), f 16 (by decide) (by decide), f 17 (by decide) (by decide), f 18 (by decide) (by decide), f 19 (by decide) (by decide), f 20 (by decide) (by decide), f 24 (by decide) (by decide), f 25 (by decide) (by decide), f 26 (by decide) (by decide), f 27 (by decide) (by decide), f 28 (by decide) (by decide), f 29 (by decide) (by decide), f 30 (by decide) (by decide)]
  exact h
theorem SE_of {Z Z' : ZW} {a n : Nat} {f g : FI} (h : SE Z a n f) (e : ∀ (k : Nat) (j : Int), (a ≤ k ∧ k ≤ a + 4) → Z' k j = Z k j) (hf : ∀ j, 0 ≤ j → j < (81 : Int) → g j = f j) : SE Z' a n g := by
  have q : ∀ k, a ≤ k → k ≤ a + 4 → Z' k = Z k := fun k h1 h2 => funext fun j => e k j ⟨h1, h2⟩
  obtain ⟨h1, h2, h3, h4⟩ := h
  have hn := h1.1
  unfold SE WFs
  rw [q a (by omega) (by omega), q (a + 1) (by omega) (by omega), q (a + 2) (by omega) (by omega), q (a + 3) (by omega) (by omega), q (a + 4) (by omega) (by omega)]
  refine ⟨h1, by rw [hf 0 (by omega) (by omega)]; exact h2, fun i i0 i1 => ?_, fun c c0 c1 => by rw [hf (73 + c) (by omega) (by omega)]; exact h4 c c0 c1⟩
  rw [hf (1 + i) (by omega) (by omega), hf (25 + i) (by omega) (by omega), hf (49 + i) (by omega) (by omega)]
  exact h3 i i0 i1
theorem SE_Cp {Z Z' : ZW} {a b n : Nat} {f g : FI} (h : SE Z b n f) (c : Cp Z Z' a b) (hf : ∀ j, 0 ≤ j → j < (81 : Int) → g j = f j) : SE Z' a n g := by
  obtain ⟨h1, h2, h3, h4⟩ := h
  have hn := h1.1
  obtain ⟨c1, c2, c3⟩ := c
  refine ⟨WFs_of h1 ⟨c1, c2, c3⟩, by rw [hf 0 (by omega) (by omega)]; exact h2, fun i i0 i1 => ?_, fun k k0 k1 => by rw [hf (73 + k) (by omega) (by omega), h4 k k0 k1]; exact (c3 k k0 k1).symm⟩
  obtain ⟨d1, d2, d3⟩ := c2 i i0 (by omega)
  obtain ⟨g1, g2, g3⟩ := h3 i i0 i1
  rw [hf (1 + i) (by omega) (by omega), hf (25 + i) (by omega) (by omega), hf (49 + i) (by omega) (by omega), d1, d2, d3]
  exact ⟨g1, g2, g3⟩
theorem rp_lt (x s k : Int) : rp x s k < 5 := by unfold rp; omega
theorem I_P_of {Z Z' : ZW} {n : Nat} (h : I_P Z n) (e : ∀ (k : Nat) (j : Int), ((4 ≤ k ∧ k ≤ 8) ∨ (14 ≤ k ∧ k ≤ 31) ∨ k = 65) → Z' k j = Z k j) (e2 : ∀ (k : Nat) (j : Int), (9 ≤ k ∧ k ≤ 13) → True) : I_P Z' n := by
  have f : ∀ k, ((4 ≤ k ∧ k ≤ 8) ∨ (14 ≤ k ∧ k ≤ 31)) → Z' k = Z k := fun k h1 => funext fun j => e k j (by omega)
  refine ⟨?_, ?_⟩
  · have hc := h.1
    unfold CP GP PP at hc ⊢
    rw [show enB Z' = enB Z from funext fun b => enB_congr (e 14 (8 + b) (by omega)), f 4 (by decide), f 5 (by decide), f 6 (by decide), f 7 (by decide), f 8 (by decide), f 14 (by decide), f 15 (by decide), f 16 (by decide), f 17 (by decide), f 18 (by decide), f 19 (by decide), f 20 (by decide), f 24 (by decide), f 25 (by decide), f 26 (by decide), f 27 (by decide), f 28 (by decide), f 29 (by decide), f 30 (by decide)]
    exact hc
  · exact SE_of h.2 (fun k j hk => e k j (by omega)) (fun j _ _ => e 65 j (by omega))
theorem I_H_of {Z Z' : ZW} (h : I_H Z) (e : ∀ (k : Nat) (j : Int), ((32 ≤ k ∧ k ≤ 58) ∨ k = 67 ∨ (k = 64 ∧ j = 3)) → Z' k j = Z k j) : I_H Z' := by
  obtain ⟨h1, h2, h3⟩ := h
  refine ⟨?_, ?_, ?_⟩
  · unfold HB
    rw [e 32 0 (by omega), e 32 1 (by omega)]
    exact h1
  · rw [e 32 0 (by omega), e 64 3 (by omega)]; exact h2
  · rw [e 32 0 (by omega), e 32 1 (by omega)]
    intro k k0 k1
    obtain ⟨n, hn⟩ := h3 k k0 k1
    have := rp_lt (Z 32 1) (Z 32 0) k
    exact ⟨n, SE_of hn (fun k j hk => e k j (by omega)) (fun j _ _ => e 67 _ (by omega))⟩
theorem I_R_of {Z Z' : ZW} (h : I_R Z) (e : ∀ (k : Nat) (j : Int), (k = 59 ∨ k = 60 ∨ k = 78 ∨ (k = 64 ∧ 18 ≤ j ∧ j ≤ 22)) → Z' k j = Z k j) : I_R Z' := by
  unfold I_R
  rw [e 64 18 (by omega), e 64 19 (by omega), e 64 20 (by omega), e 64 21 (by omega), e 64 22 (by omega), show Z' 59 = Z 59 from funext fun j => e 59 j (by omega), show Z' 60 = Z 60 from funext fun j => e 60 j (by omega), show Z' 78 = Z 78 from funext fun j => e 78 j (by omega)]
  exact h
def Rlv (k : Nat) (j : Int) : Prop := k = 1 ∨ k = 2 ∨ (4 ≤ k ∧ k ≤ 8) ∨ (14 ≤ k ∧ k ≤ 60) ∨ k = 65 ∨ k = 67 ∨ k = 69 ∨ k = 78 ∨ (k = 64 ∧ (j = 3 ∨ j = 6 ∨ (18 ≤ j ∧ j ≤ 22)))
theorem INV_E {Z Z' : ZW} (h : INV Z) (e : ∀ (k : Nat) (j : Int), Rlv k j → Z' k j = Z k j) (hE : I_E Z') : INV Z' := by
  obtain ⟨n, h1, h2, h3, h4, h5⟩ := h
  exact ⟨n, I_P_of h1 (fun k j hk => e k j (by unfold Rlv; omega)) (fun _ _ _ => trivial), I_T_of h2 (fun k j hk => e k j (by unfold Rlv; omega)), hE, I_H_of h4 (fun k j hk => e k j (by unfold Rlv; omega)), I_R_of h5 (fun k j hk => e k j (by unfold Rlv; omega))⟩
theorem INV_of {Z Z' : ZW} (h : INV Z) (e : ∀ (k : Nat) (j : Int), (Rlv k j ∨ k = 63 ∨ k = 68) → Z' k j = Z k j) : INV Z' :=
  INV_E h (fun k j hk => e k j (Or.inl hk)) (by obtain ⟨n, _, _, h3, _⟩ := h; exact I_E_of h3 (fun k j hk => e k j (Or.inr hk)))
/-- both counted one error of the same kind -/
theorem INV_err {Z Z' : ZW} {x : Int} (h : INV Z) (hx : 0 ≤ -2 - x ∧ -2 - x < 3) (e : ∀ (k : Nat) (j : Int), Rlv k j → Z' k j = Z k j) (e1 : ∀ j, Z' 63 j = rf Z x 63 j) (e2 : ∀ j, Z' 68 j = mf Z x 68 j) : INV Z' := by
  refine INV_E h e ?_
  obtain ⟨n, _, _, h3, _⟩ := h
  intro y y0 y1
  rw [e1, e2]
  unfold rf mf
  by_cases hy : y = -2 - x
  · rw [hy, up_eq, up_eq, h3 _ hx.1 hx.2]
  · rw [up_nj hy, up_nj hy]; exact h3 y y0 y1
/-- the program, as the reference has it -/
theorem I_P_m {Z : ZW} {n : Nat} (h : I_P Z n) : Z 65 0 = n ∧ n ≤ 24 ∧ WFP (mO Z) (mA Z) (mB Z) n ∧ COk (mC Z) ∧ PEq n (Z 5) (Z 7) (mO Z) (mB Z) ∧ (∀ i, 0 ≤ i → i < (n : Int) → Z 6 i = mA Z i) ∧ CEq (Z 8) (mC Z) ∧ OPok (Z 5) (Z 7) n := by
  obtain ⟨⟨p1, p2, p3, p4, p5, p6, p7⟩, s1, s2, s3, s4⟩ := h
  refine ⟨s2, p1, WFP_congr p3 (fun i i0 i1 => ?_), fun x x0 x1 => ?_, fun i i0 i1 => ?_, fun i i0 i1 => ?_, fun c c0 c1 => ?_, OP_of p3⟩
  · obtain ⟨a1, a2, a3⟩ := s3 i i0 i1
    exact ⟨a1, a2, a3⟩
  · have := p4 x x0 x1
    have e : mC Z x = Z 8 x := s4 x x0 x1
    rw [e]; exact this
  · obtain ⟨a1, a2, a3⟩ := s3 i i0 i1
    exact ⟨a1.symm, a3.symm⟩
  · exact (s3 i i0 i1).2.1.symm
  · exact (s4 c c0 c1).symm
/-- the reference's rows keep, where only the class was at work -/
theorem keep64 {Z Z1 : ZW} (e : Z1 65 = Z 65) : mO Z1 = mO Z ∧ mA Z1 = mA Z ∧ mB Z1 = mB Z ∧ mC Z1 = mC Z := by
  refine ⟨?_, ?_, ?_, ?_⟩
  · unfold mO; rw [e]
  · unfold mA; rw [e]
  · unfold mB; rw [e]
  · unfold mC; rw [e]
theorem mz_weaken {a : Nat} {vs : List Value} {Z : ZW} {J : Int64} {Φ Ψ : ZΦ} (h : Mz a vs Z J Φ) (hi : ∀ r Z' J', Φ r Z' J' → Ψ r Z' J') : Mz a vs Z J Ψ := z_weaken h hi
theorem d_weaken {a : Nat} {vs : List Value} {Z Z1 : ZW} {J J1 : Int64} {r : Option Value} {Ψ : ZΦ} (h : D a vs Z J r Z1 J1) (hi : Ψ r Z1 J1) : Mz a vs Z J Ψ := z_weaken h (by
  rintro r' Z' J' ⟨rfl, rfl, rfl⟩
  exact hi)
/-- a call of the class and the same of the reference: one answer, and all holds again -/
def PairI (a b : Nat) (vs : List Value) (Z : ZW) (J : Int64) : Prop := Mz a (.ref 0 :: vs) Z J (fun r Z1 J1 => ∃ v : Int32, r = some (.int v) ∧ Mz b (.ref 64 :: vs) Z1 J1 (fun r2 Z2 _ => r2 = some (.int v) ∧ INV Z2))
def PairL (a b : Nat) (vs : List Value) (Z : ZW) (J : Int64) : Prop := Mz a (.ref 0 :: vs) Z J (fun r Z1 J1 => ∃ v : Int64, r = some (.long v) ∧ Mz b (.ref 64 :: vs) Z1 J1 (fun r2 Z2 _ => r2 = some (.long v) ∧ INV Z2))
