/-! chains: heads lie among the blocks and are their own; block costs are small -/
theorem pigeon : ∀ (m : Nat) (f : Nat → Nat), (∀ k, k ≤ m → f k < m) → ∃ i j, i < j ∧ j ≤ m ∧ f i = f j := by
  intro m
  induction m with
  | zero => intro f h; exact absurd (h 0 (Nat.le_refl _)) (Nat.not_lt_zero _)
  | succ m ih =>
    intro f h
    by_cases hc : ∃ i, i ≤ m ∧ f i = f (m + 1)
    · obtain ⟨i, i1, i2⟩ := hc
      exact ⟨i, m + 1, by omega, Nat.le_refl _, i2⟩
    · have hn : ∀ i, i ≤ m → f i ≠ f (m + 1) := fun i hi e => hc ⟨i, hi, e⟩
      have hcm := h (m + 1) (Nat.le_refl _)
      obtain ⟨i, j, ij, jm, e⟩ := ih (fun k => if f k = m then f (m + 1) else f k) (by
        intro k hk
        have := h k (by omega)
        have := hn k hk
        show (if f k = m then f (m + 1) else f k) < m
        split <;> omega)
      refine ⟨i, j, ij, by omega, ?_⟩
      have n1 := hn i (by omega)
      have n2 := hn j jm
      have e : (if f i = m then f (m + 1) else f i) = (if f j = m then f (m + 1) else f j) := e
      split at e <;> split at e <;> omega
def itJ (jo : FI) : Nat → Int → Int
  | 0, b => b
  | k + 1, b => jo (itJ jo k b)
def Live (jo : FI) (k : Nat) (b : Int) : Prop := ∀ i, i < k → jo (itJ jo i b) ≠ -1
/-- v is the head of the chain of b -/
def Hd (jo : FI) (b v : Int) : Prop := (∃ k, Live jo k b ∧ itJ jo k b = v ∧ jo v = -1) ∨ ((∀ k, Live jo k b) ∧ (∃ k, itJ jo k b = v) ∧ ∀ k, v ≤ itJ jo k b)
def JOk (jo : FI) (nb : Nat) : Prop := (∀ p, 0 ≤ p → p < (nb : Int) → -1 ≤ jo p ∧ jo p < nb) ∧ ∀ p q, 0 ≤ p → p < (nb : Int) → 0 ≤ q → q < (nb : Int) → jo p ≠ -1 → jo p = jo q → p = q
theorem it_add (jo : FI) (b : Int) (i : Nat) : ∀ k, itJ jo k (itJ jo i b) = itJ jo (i + k) b := by
  intro k
  induction k with
  | zero => rfl
  | succ k ih => show jo (itJ jo k (itJ jo i b)) = jo (itJ jo (i + k) b); rw [ih]
theorem it_in {jo : FI} {nb : Nat} {b : Int} (h : JOk jo nb) (h0 : 0 ≤ b) (h1 : b < nb) : ∀ k, Live jo k b → 0 ≤ itJ jo k b ∧ itJ jo k b < nb := by
  intro k
  induction k with
  | zero => intro _; exact ⟨h0, h1⟩
  | succ k ih =>
    intro hl
    have a := ih (fun i hi => hl i (by omega))
    have c := hl k (by omega)
    have e := h.1 _ a.1 a.2
    show 0 ≤ jo (itJ jo k b) ∧ jo (itJ jo k b) < nb
    omega
theorem Hd_unique {jo : FI} {b v w : Int} (h1 : Hd jo b v) (h2 : Hd jo b w) : v = w := by
  rcases h1 with ⟨k, l1, e1, z1⟩ | ⟨l1, ⟨k, e1⟩, m1⟩ <;> rcases h2 with ⟨k2, l2, e2, z2⟩ | ⟨l2, ⟨k2, e2⟩, m2⟩
  · rcases Nat.lt_trichotomy k k2 with q | q | q
    · exact absurd (by rw [e1]; exact z1) (l2 k q)
    · rw [← e1, ← e2, q]
    · exact absurd (by rw [e2]; exact z2) (l1 k2 q)
  · exact absurd (by rw [e1]; exact z1) (l2 (k + 1) k (by omega))
  · exact absurd (by rw [e2]; exact z2) (l1 (k2 + 1) k2 (by omega))
  · have a := m1 k2
    have c := m2 k
    rw [e2] at a
    rw [e1] at c
    omega
theorem Hd_self {jo : FI} {b v : Int} (h : Hd jo b v) : Hd jo v v := by
  rcases h with ⟨k, l, e, z⟩ | ⟨l, ⟨k, e⟩, m⟩
  · exact Or.inl ⟨0, fun i hi => absurd hi (Nat.not_lt_zero _), rfl, z⟩
  · right
    refine ⟨fun j i hi => ?_, ⟨0, rfl⟩, fun j => ?_⟩
    · rw [← e, it_add]; exact l (k + i + 1) (k + i) (by omega)
    · have := m (k + j)
      rw [← it_add, e] at this
      exact this
theorem Hd_in {jo : FI} {nb : Nat} {b v : Int} (hj : JOk jo nb) (h0 : 0 ≤ b) (h1 : b < nb) (h : Hd jo b v) : 0 ≤ v ∧ v < nb := by
  rcases h with ⟨k, l, e, z⟩ | ⟨l, ⟨k, e⟩, m⟩
  · rw [← e]; exact it_in hj h0 h1 k l
  · rw [← e]; exact it_in hj h0 h1 k (l k)
/-- a walk as long as there are blocks comes back -/
theorem ring {jo : FI} {nb : Nat} {b : Int} (hj : JOk jo nb) (h0 : 0 ≤ b) (h1 : b < nb) (hl : Live jo nb b) : ∃ m, 0 < m ∧ m ≤ nb ∧ itJ jo m b = b := by
  have hin : ∀ k, k ≤ nb → 0 ≤ itJ jo k b ∧ itJ jo k b < nb := fun k hk => it_in hj h0 h1 k (fun i hi => hl i (by omega))
  obtain ⟨i, j, ij, jn, e⟩ := pigeon nb (fun k => (itJ jo k b).toNat) (by
    intro k hk
    have := hin k hk
    show (itJ jo k b).toNat < nb
    omega)
  have e : (itJ jo i b).toNat = (itJ jo j b).toNat := e
  have ei := hin i (by omega)
  have ej := hin j jn
  have e2 : itJ jo i b = itJ jo j b := by omega
  have back : ∀ i j, i < j → j ≤ nb → itJ jo i b = itJ jo j b → itJ jo (j - i) b = b := by
    intro i
    induction i with
    | zero => intro j _ _ e; exact e.symm
    | succ i ih =>
      intro j ij jn e
      obtain ⟨j', rfl⟩ : ∃ j', j = j' + 1 := ⟨j - 1, by omega⟩
      have a := hin i (by omega)
      have c := hin j' (by omega)
      have e' : itJ jo i b = itJ jo j' b := hj.2 _ _ a.1 a.2 c.1 c.2 (hl i (by omega)) e
      have := ih j' (by omega) (by omega) e'
      rw [show j' + 1 - (i + 1) = j' - i by omega]
      exact this
  exact ⟨j - i, by omega, by omega, back i j ij jn e2⟩
theorem ring_per {jo : FI} {b : Int} {m : Nat} (e : itJ jo m b = b) (x : Nat) : itJ jo (m + x) b = itJ jo x b := by
  rw [← it_add, e]
theorem ring_all {jo : FI} {nb : Nat} {b : Int} {m : Nat} (h0 : 0 < m) (h1 : m ≤ nb) (e : itJ jo m b = b) (P : Int → Prop) (hP : ∀ k, k < nb → P (itJ jo k b)) : ∀ k, P (itJ jo k b) := by
  intro k
  induction k using Nat.strongRecOn with
  | ind k ih =>
    by_cases hk : k < nb
    · exact hP k hk
    · have := ih (k - m) (by omega)
      rw [← ring_per e, show m + (k - m) = k by omega] at this
      exact this
theorem hd_comp {jo : FI} {nb : Nat} {b : Int} (hj : JOk jo nb) (h0 : 0 ≤ b) (h1 : b < nb) : ∀ (d k : Nat) (lo : Int), k + d = nb → Live jo k b → (∃ i, lo = itJ jo i b) → (∀ i, i ≤ k → lo ≤ itJ jo i b) → Hd jo b (hdW jo nb d (itJ jo k b) lo) := by
  intro d
  induction d with
  | zero =>
    intro k lo hk hl hi hm
    have hk : k = nb := by omega
    subst hk
    obtain ⟨m, m0, m1, e⟩ := ring hj h0 h1 hl
    obtain ⟨i, hi⟩ := hi
    refine Or.inr ⟨fun k i _ => ring_all m0 m1 e (fun z => jo z ≠ -1) hl i, ⟨i, hi.symm⟩, ?_⟩
    exact ring_all m0 m1 e (fun z => lo ≤ z) (fun i hi => hm i (by omega))
  | succ d ih =>
    intro k lo hk hl hi hm
    have hin := it_in hj h0 h1 k hl
    unfold hdW
    by_cases hz : jo (itJ jo k b) = -1
    · rw [if_neg (fun q => q.2.2 hz)]
      exact Or.inl ⟨k, hl, rfl, hz⟩
    · rw [if_pos ⟨hin.1, hin.2, hz⟩]
      refine ih (k + 1) _ (by omega) ?_ ?_ ?_
      · intro i hi
        by_cases hik : i = k
        · rw [hik]; exact hz
        · exact hl i (by omega)
      · split
        · exact ⟨k + 1, rfl⟩
        · exact hi
      · intro i hi
        have e1 : itJ jo (k + 1) b = jo (itJ jo k b) := rfl
        by_cases hik : i = k + 1
        · rw [hik, e1]; split <;> omega
        · have := hm i (by omega)
          split <;> omega
theorem joF_spec {jn : Int → Int → Bool} {q : Int} : ∀ t : Nat, joF jn t q ≠ -1 → jn q (joF jn t q) = true := by
  intro t
  induction t with
  | zero => intro h; exact absurd rfl h
  | succ t ih =>
    unfold joF
    split
    · next h => intro _; exact h
    · exact ih
theorem bitv_inj {x y : Int} (hx : 0 ≤ x ∧ x < 24) (h : bitv x = bitv y) : x = y := by
  have a := tb_bitv (x := x) (y := x) hx
  rw [h, tb_bitv hx] at a
  rw [decide_eq_true rfl] at a
  exact of_decide_eq_true a
theorem gJ_ok (op rb : FI) {n : Nat} (hn : n ≤ 24) : JOk (gJ op rb n) (gnb op rb n) := by
  have hnb := gnb_le op rb n
  refine ⟨fun p _ _ => joF_in _ p _, fun p q p0 p1 q0 q1 hne e => ?_⟩
  have a : jnB _ _ _ p (gJ op rb n p) = true := joF_spec _ hne
  have c : jnB _ _ _ q (gJ op rb n q) = true := joF_spec _ (by show gJ op rb n q ≠ -1; rw [← e]; exact hne)
  have a := (of_decide_eq_true a).2.2.2.1
  have c := (of_decide_eq_true c).2.2.2.1
  rw [← e, a] at c
  exact bitv_inj ⟨p0, by omega⟩ c
theorem gH_hd (op rb : FI) {n : Nat} (hn : n ≤ 24) {b : Int} (h0 : 0 ≤ b) (h1 : b < gnb op rb n) : Hd (gJ op rb n) b (gH op rb n b) :=
  hd_comp (gJ_ok op rb hn) h0 h1 (gnb op rb n) 0 b (by omega) (fun i hi => absurd hi (Nat.not_lt_zero _)) ⟨0, rfl⟩ (fun i hi => by rw [show i = 0 by omega]; exact Int.le_refl _)
theorem laF_cnt {l : Int → Bool} (h0 : l 0 = true) : ∀ (t : Nat) (b : Int), 0 ≤ b → b < cnt l t → (cnt l ((laF l t b).toNat + 1) : Int) - 1 = b := by
  intro t
  induction t with
  | zero => intro b h1 h2; simp [cnt] at h2; omega
  | succ t ih =>
    intro b h1 h2
    unfold laF
    split
    · next he => rw [Int.toNat_natCast]; exact he
    · next hne =>
      have hc : cnt l (t + 1) = cnt l t + if l t then 1 else 0 := rfl
      have hb : b < cnt l t := by
        rcases Nat.eq_zero_or_pos t with rfl | hp
        · simp [cnt, h0] at h2 hne
          omega
        · have := cnt_pos h0 hp
          split at hc <;> omega
      exact ih b h1 hb
theorem bcF_in {ic bl : FI} {b : Int} : ∀ (t : Nat), (∀ i : Nat, i < t → 1 ≤ ic i ∧ ic i ≤ 9) → 0 ≤ bcF ic bl t b ∧ bcF ic bl t b ≤ 9 * t := by
  intro t
  induction t with
  | zero => intro _; exact ⟨Int.le_refl _, Int.le_refl _⟩
  | succ t ih =>
    intro h
    have a := ih (fun i hi => h i (by omega))
    have c := h t (by omega)
    unfold bcF
    split <;> omega
theorem bcF_pos {ic bl : FI} {b : Int} : ∀ (t : Nat), (∀ i : Nat, i < t → 1 ≤ ic i ∧ ic i ≤ 9) → (∃ i : Nat, i < t ∧ bl i = b) → 1 ≤ bcF ic bl t b := by
  intro t
  induction t with
  | zero => intro _ h; obtain ⟨i, hi, _⟩ := h; exact absurd hi (Nat.not_lt_zero _)
  | succ t ih =>
    intro h hx
    have a := bcF_in (bl := bl) (b := b) t (fun i hi => h i (by omega))
    have c := h t (by omega)
    unfold bcF
    split
    · omega
    · next hne =>
      obtain ⟨i, hi, e⟩ := hx
      have : i ≠ t := fun q => hne (by rw [← q]; exact e)
      exact ih (fun i hi => h i (by omega)) ⟨i, by omega, e⟩
def COk (co : FI) : Prop := ∀ x, 0 ≤ x → x < (8 : Int) → 1 ≤ co x ∧ co x ≤ 9
theorem gok {co op rb : FI} {n : Nat} (hn : n ≤ 24) (hop : OPok op rb n) (hco : COk co) : GOK co op rb n := by
  intro b h0 h1
  have hj := gJ_ok op rb hn
  have hh := gH_hd op rb hn h0 h1
  have hin := Hd_in hj h0 h1 hh
  have hic : ∀ i : Nat, i < n → 1 ≤ co (op i) ∧ co (op i) ≤ 9 := fun i hi => by
    have := hop i (by omega) (by omega)
    exact hco _ (by omega) (by omega)
  refine ⟨hin, Hd_unique (gH_hd op rb hn hin.1 hin.2) (Hd_self hh), ?_, ?_⟩
  · refine bcF_pos n hic ⟨(gla op rb n b).toNat, ?_, ?_⟩
    · have := gla_in h0 h1; omega
    · have a := gla_in h0 h1
      rw [Int.toNat_of_nonneg a.1]
      exact laF_cnt (lm0 op rb n) n b h0 h1
  · have := (bcF_in (ic := fun i => co (op i)) (bl := gblk op rb n) (b := b) n hic).2
    show bcF (fun i => co (op i)) _ n b ≤ 216
    omega
