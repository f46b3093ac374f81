/-! the control flow as functions of the program: n instructions, op, rb (operand) -/
abbrev FI : Type := Int → Int
def lm (op rb : FI) : Nat → Int
  | 0 => bitv 0
  | t + 1 =>
    let m := if jmB (op t) then orI (lm op rb t) (bitv (rb t)) else lm op rb t
    if jmB (op t) || decide (op t = 7) then orI m (bitv (t + 1)) else m
def cnt (l : Int → Bool) : Nat → Nat
  | 0 => 0
  | t + 1 => cnt l t + if l t then 1 else 0
def stF (l : Int → Bool) : Nat → Int → Int
  | 0, _ => 0
  | t + 1, b => if l t = true ∧ (cnt l t : Int) = b then t else stF l t b
def laF (l : Int → Bool) : Nat → Int → Int
  | 0, _ => 0
  | t + 1, b => if (cnt l (t + 1) : Int) - 1 = b then t else laF l t b
def ldr (op rb : FI) (n : Nat) : Int → Bool := fun i => tbI (lm op rb n) i
def gnb (op rb : FI) (n : Nat) : Nat := cnt (ldr op rb n) n
def gblk (op rb : FI) (n : Nat) (i : Int) : Int := (cnt (ldr op rb n) (i.toNat + 1) : Int) - 1
def gst (op rb : FI) (n : Nat) (b : Int) : Int := stF (ldr op rb n) n b
def gla (op rb : FI) (n : Nat) (b : Int) : Int := laF (ldr op rb n) n b
def gF (op rb : FI) (n : Nat) (b : Int) : Int := if goB (op (gla op rb n b)) = true ∧ gla op rb n b + 1 < n then gblk op rb n (gla op rb n b + 1) else -1
def gT (op rb : FI) (n : Nat) (b : Int) : Int := if jmB (op (gla op rb n b)) = true ∧ rb (gla op rb n b) < n then gblk op rb n (rb (gla op rb n b)) else -1
def gS (op rb : FI) (n : Nat) (b : Int) : Int := orI (bitv (gF op rb n b)) (bitv (gT op rb n b))
def gE (op rb : FI) (n : Nat) (b : Int) : Bool := decide (op (gla op rb n b) = 7) || (goB (op (gla op rb n b)) && decide (gF op rb n b = -1)) || (jmB (op (gla op rb n b)) && decide (gT op rb n b = -1))
def pmF (F T : FI) : Nat → Int → Int
  | 0, _ => 0
  | t + 1, q =>
    let m := if F t = q then orI (pmF F T t q) (bitv t) else pmF F T t q
    if T t = q then orI m (bitv t) else m
def jnB (E : Int → Bool) (S P : FI) (q p : Int) : Bool := decide (q ≠ 0 ∧ q ≠ p ∧ E p = false ∧ S p = bitv q ∧ P q = bitv p)
def joF (jn : Int → Int → Bool) : Nat → Int → Int
  | 0, _ => -1
  | t + 1, q => if jn q t then t else joF jn t q
def hdW (jo : FI) (nb : Nat) : Nat → Int → Int → Int
  | 0, _, lo => lo
  | d + 1, h, lo => if 0 ≤ h ∧ h < nb ∧ jo h ≠ -1 then hdW jo nb d (jo h) (if jo h < lo then jo h else lo) else h
def rcI (S : FI) : Nat → Int → Int
  | 0, m => m
  | t + 1, m => if tbI (rcI S t m) t then orI (rcI S t m) (S t) else rcI S t m
def rcR (S : FI) (nb : Nat) : Nat → Int → Int
  | 0, m => m
  | d + 1, m => if rcI S nb m = m then m else rcR S nb d (rcI S nb m)
def gP (op rb : FI) (n : Nat) : FI := pmF (gF op rb n) (gT op rb n) (gnb op rb n)
def gJ (op rb : FI) (n : Nat) : FI := joF (jnB (gE op rb n) (gS op rb n) (gP op rb n)) (gnb op rb n)
def gH (op rb : FI) (n : Nat) (b : Int) : Int := hdW (gJ op rb n) (gnb op rb n) (gnb op rb n) b b
def gR (op rb : FI) (n : Nat) : Int := rcR (gS op rb n) (gnb op rb n) (gnb op rb n) (if gnb op rb n = 0 then 0 else bitv 0)
theorem cnt_le (l : Int → Bool) (t : Nat) : cnt l t ≤ t := by
  induction t with
  | zero => exact Nat.le_refl _
  | succ t ih =>
    unfold cnt
    split <;> omega
theorem cnt_mono (l : Int → Bool) {s t : Nat} (h : s ≤ t) : cnt l s ≤ cnt l t := by
  induction h with
  | refl => exact Nat.le_refl _
  | step _ ih => exact Nat.le_trans ih (Nat.le_add_right _ _)
theorem cnt_pos {l : Int → Bool} (h0 : l 0 = true) {t : Nat} (ht : 0 < t) : 0 < cnt l t := by
  have h1 : cnt l 1 = 1 := by simp [cnt, h0]
  have := cnt_mono l (show 1 ≤ t from ht)
  omega
theorem laF_in {l : Int → Bool} (h0 : l 0 = true) : ∀ (t : Nat) (b : Int), 0 ≤ b → b < cnt l t → 0 ≤ laF l t b ∧ laF l t b < t := by
  intro t
  induction t with
  | zero => intro b h1 h2; simp [cnt] at h2; omega
  | succ t ih =>
    intro b h1 h2
    unfold laF
    split
    · omega
    · next hne =>
      have hc : cnt l (t + 1) = cnt l t + if l t then 1 else 0 := rfl
      have hb : b < cnt l t := by
        rcases Nat.eq_zero_or_pos t with rfl | hp
        · simp [cnt, h0] at h2 hne
          omega
        · have := cnt_pos h0 hp
          split at hc <;> omega
      have := ih b h1 hb
      omega
theorem stF_in {l : Int → Bool} (h0 : l 0 = true) : ∀ (t : Nat) (b : Int), 0 ≤ b → b < cnt l t → 0 ≤ stF l t b ∧ stF l t b < t := by
  intro t
  induction t with
  | zero => intro b h1 h2; simp [cnt] at h2; omega
  | succ t ih =>
    intro b h1 h2
    unfold stF
    split
    · omega
    · next hne =>
      have hc : cnt l (t + 1) = cnt l t + if l t then 1 else 0 := rfl
      have hb : b < cnt l t := by
        split at hc
        · next hl => 
          have : ¬ ((cnt l t : Int) = b) := fun h => hne ⟨hl, h⟩
          omega
        · omega
      have := ih b h1 hb
      omega
