/-! walks: k edges, ending at b, of cost c -/
def Vw (src : Int → Prop) (ed : Int → Int → Prop) (C : FI) (nb : Nat) : Nat → Int → Int → Prop
  | 0, b, c => (0 ≤ b ∧ b < (nb : Int)) ∧ src b ∧ c = C b
  | k + 1, b, c => (0 ≤ b ∧ b < (nb : Int)) ∧ ∃ a, ed a b ∧ Vw src ed C nb k a (c - C b)
def smC (C : FI) (p : Nat → Int) : Nat → Int
  | 0 => C (p 0)
  | k + 1 => smC C p k + C (p (k + 1))
def WSeq (src : Int → Prop) (ed : Int → Int → Prop) (nb k : Nat) (p : Nat → Int) : Prop := (∀ i, i ≤ k → 0 ≤ p i ∧ p i < (nb : Int)) ∧ src (p 0) ∧ ∀ i, i < k → ed (p i) (p (i + 1))
theorem sm_congr {C : FI} {p q : Nat → Int} : ∀ k, (∀ i, i ≤ k → p i = q i) → smC C p k = smC C q k := by
  intro k
  induction k with
  | zero => intro h; show C (p 0) = C (q 0); rw [h 0 (Nat.le_refl _)]
  | succ k ih =>
    intro h
    show smC C p k + C (p (k + 1)) = smC C q k + C (q (k + 1))
    rw [ih (fun i hi => h i (by omega)), h (k + 1) (Nat.le_refl _)]
theorem Vw_in {src : Int → Prop} {ed : Int → Int → Prop} {C : FI} {nb : Nat} {k : Nat} {b c : Int} (h : Vw src ed C nb k b c) : 0 ≤ b ∧ b < (nb : Int) := by
  cases k with
  | zero => exact h.1
  | succ k => exact h.1
theorem Vw_pos {src : Int → Prop} {ed : Int → Int → Prop} {C : FI} {nb : Nat} (hC : ∀ b, 0 ≤ b → b < (nb : Int) → 1 ≤ C b) : ∀ (k : Nat) (b c : Int), Vw src ed C nb k b c → C b ≤ c := by
  intro k
  induction k with
  | zero => intro b c h; rw [h.2.2]; exact Int.le_refl _
  | succ k ih =>
    intro b c h
    obtain ⟨h1, a, h2, h3⟩ := h
    have := ih a _ h3
    have ha := Vw_in h3
    have := hC a ha.1 ha.2
    omega
theorem Vw_seq {src : Int → Prop} {ed : Int → Int → Prop} {C : FI} {nb : Nat} : ∀ (k : Nat) (b c : Int), Vw src ed C nb k b c → ∃ p, WSeq src ed nb k p ∧ p k = b ∧ smC C p k = c := by
  intro k
  induction k with
  | zero =>
    intro b c h
    exact ⟨fun _ => b, ⟨fun i _ => h.1, h.2.1, fun i hi => by omega⟩, rfl, h.2.2.symm⟩
  | succ k ih =>
    intro b c h
    obtain ⟨h1, a, h2, h3⟩ := h
    obtain ⟨p, ⟨p1, p2, p3⟩, p4, p5⟩ := ih a _ h3
    have e1 : ∀ i, i ≤ k → (fun i => if i ≤ k then p i else b) i = p i := fun i hi => if_pos hi
    refine ⟨fun i => if i ≤ k then p i else b, ⟨fun i hi => ?_, ?_, fun i hi => ?_⟩, ?_, ?_⟩
    · by_cases hk : i ≤ k
      · rw [e1 i hk]; exact p1 i hk
      · show 0 ≤ (if i ≤ k then p i else b) ∧ (if i ≤ k then p i else b) < (nb : Int)
        rw [if_neg hk]; exact h1
    · rw [e1 0 (by omega)]; exact p2
    · show ed (if i ≤ k then p i else b) (if i + 1 ≤ k then p (i + 1) else b)
      rw [if_pos (by omega)]
      by_cases hk : i + 1 ≤ k
      · rw [if_pos hk]; exact p3 i (by omega)
      · rw [if_neg hk, show i = k by omega, p4]; exact h2
    · show (if k + 1 ≤ k then p (k + 1) else b) = b
      rw [if_neg (by omega)]
    · show smC C (fun i => if i ≤ k then p i else b) k + C (if k + 1 ≤ k then p (k + 1) else b) = c
      rw [if_neg (by omega), sm_congr k e1, p5]
      omega
theorem Vw_of {src : Int → Prop} {ed : Int → Int → Prop} {C : FI} {nb k : Nat} {p : Nat → Int} (h : WSeq src ed nb k p) : ∀ i, i ≤ k → Vw src ed C nb i (p i) (smC C p i) := by
  intro i
  induction i with
  | zero => intro _; exact ⟨h.1 0 (by omega), h.2.1, rfl⟩
  | succ i ih =>
    intro hi
    refine ⟨h.1 _ hi, p i, h.2.2 i (by omega), ?_⟩
    show Vw src ed C nb i (p i) (smC C p i + C (p (i + 1)) - C (p (i + 1)))
    rw [show smC C p i + C (p (i + 1)) - C (p (i + 1)) = smC C p i by omega]
    exact ih (by omega)
theorem Vw_ext {src : Int → Prop} {ed : Int → Int → Prop} {C : FI} {nb k : Nat} {p : Nat → Int} (h : WSeq src ed nb k p) {i j : Nat} {x : Int} (hv : Vw src ed C nb i (p j) x) : ∀ m, j + m ≤ k → Vw src ed C nb (i + m) (p (j + m)) (x + smC C p (j + m) - smC C p j) := by
  intro m
  induction m with
  | zero =>
    intro _
    show Vw src ed C nb i (p j) (x + smC C p j - smC C p j)
    rw [show x + smC C p j - smC C p j = x by omega]
    exact hv
  | succ m ih =>
    intro hm
    refine ⟨h.1 _ hm, p (j + m), h.2.2 (j + m) (by omega), ?_⟩
    have e : smC C p (j + (m + 1)) = smC C p (j + m) + C (p (j + (m + 1))) := rfl
    rw [show x + smC C p (j + (m + 1)) - smC C p j - C (p (j + (m + 1))) = x + smC C p (j + m) - smC C p j by rw [e]; omega]
    exact ih (by omega)
theorem sm_lt {C : FI} {nb k : Nat} {p : Nat → Int} (hC : ∀ b, 0 ≤ b → b < (nb : Int) → 1 ≤ C b) (hp : ∀ i, i ≤ k → 0 ≤ p i ∧ p i < (nb : Int)) {i : Nat} : ∀ j, i < j → j ≤ k → smC C p i < smC C p j := by
  intro j
  induction j with
  | zero => intro h; omega
  | succ j ih =>
    intro h hk
    have e : smC C p (j + 1) = smC C p j + C (p (j + 1)) := rfl
    have := hp (j + 1) hk
    have := hC _ this.1 this.2
    by_cases hj : i = j
    · subst hj; omega
    · have := ih (by omega) (by omega)
      omega
theorem seq_twice {nb k : Nat} {p : Nat → Int} (hp : ∀ i, i ≤ k → 0 ≤ p i ∧ p i < (nb : Int)) (hk : nb ≤ k) : ∃ i j, i < j ∧ j ≤ k ∧ p i = p j := by
  obtain ⟨i, j, h1, h2, h3⟩ := pigeon nb (fun i => (p i).toNat) (fun i hi => by
    have := hp i (by omega)
    show (p i).toNat < nb
    omega)
  have a1 := hp i (by omega)
  have a2 := hp j (by omega)
  have h3 : (p i).toNat = (p j).toNat := h3
  exact ⟨i, j, h1, by omega, by omega⟩
theorem Vw_short {src : Int → Prop} {ed : Int → Int → Prop} {C : FI} {nb : Nat} (hC : ∀ b, 0 ≤ b → b < (nb : Int) → 1 ≤ C b) : ∀ (n k : Nat) (b c : Int), k ≤ n → Vw src ed C nb k b c → ∃ (k' : Nat) (c' : Int), k' < nb ∧ c' ≤ c ∧ Vw src ed C nb k' b c' := by
  intro n
  induction n with
  | zero =>
    intro k b c hk h
    have := Vw_in h
    exact ⟨k, c, by omega, Int.le_refl _, h⟩
  | succ n ih =>
    intro k b c hk h
    by_cases hlt : k < nb
    · exact ⟨k, c, hlt, Int.le_refl _, h⟩
    · obtain ⟨p, hp, e1, e2⟩ := Vw_seq k b c h
      obtain ⟨i, j, h1, h2, h3⟩ := seq_twice hp.1 (by omega)
      have v1 := Vw_of (C := C) hp i (by omega)
      rw [h3] at v1
      have v2 := Vw_ext hp v1 (k - j) (by omega)
      rw [show j + (k - j) = k by omega, e1, e2] at v2
      have hs := sm_lt hC hp.1 j h1 h2
      obtain ⟨k', c', q1, q2, q3⟩ := ih (i + (k - j)) b _ (by omega) v2
      exact ⟨k', c', q1, by omega, q3⟩
/-- a walk along which U falls is short -/
theorem Vw_acyc {src : Int → Prop} {ed : Int → Int → Prop} {C U : FI} {nb : Nat} {P : Int → Prop} (hs : ∀ b, src b → P b) (he : ∀ a b, 0 ≤ a → a < (nb : Int) → 0 ≤ b → b < (nb : Int) → ed a b → P a → P b ∧ U b < U a) {k : Nat} {b c : Int} (h : Vw src ed C nb k b c) : k < nb := by
  refine Classical.byContradiction fun hn => ?_
  obtain ⟨p, ⟨p1, p2, p3⟩, -, -⟩ := Vw_seq k b c h
  have hP : ∀ i, i ≤ k → P (p i) := by
    intro i
    induction i with
    | zero => intro _; exact hs _ p2
    | succ i ih =>
      intro hi
      have a1 := p1 i (by omega)
      have a2 := p1 (i + 1) hi
      exact (he _ _ a1.1 a1.2 a2.1 a2.2 (p3 i (by omega)) (ih (by omega))).1
  have hU : ∀ i j, i < j → j ≤ k → U (p j) < U (p i) := by
    intro i j
    induction j with
    | zero => intro h; omega
    | succ j ih =>
      intro hij hj
      have a1 := p1 j (by omega)
      have a2 := p1 (j + 1) hj
      have := (he _ _ a1.1 a1.2 a2.1 a2.2 (p3 j (by omega)) (hP j (by omega))).2
      by_cases e : i = j
      · subst e; exact this
      · have := ih (by omega) (by omega)
        omega
  obtain ⟨i, j, h1, h2, h3⟩ := seq_twice p1 (by omega)
  have := hU i j h1 h2
  rw [h3] at this
  omega
