/-! the world behind the constructors: 80 cells; what may change are ints (Z cell place, by labels) and one long (J) -/
abbrev I (x : Int) : Int32 := Int32.ofInt x
abbrev ZW : Type := Nat → Int → Int
abbrev LCell : Type := Bool × Nat × Nat × List (Option Nat)
def LAYC : List LCell := [(false, 7, 0, [some 1, some 3, some 8, some 13, some 24, some 32, some 59, some 61, some 63]),
  (false, 6, 1, [none, some 2, some 4000, some 4000]),
  (true, 0, 2, List.replicate 150 none),
  (false, 5, 4, [none, some 4, some 5, some 6, some 7]),
  (true, 0, 5, List.replicate 24 none),
  (true, 0, 6, List.replicate 24 none),
  (true, 0, 7, List.replicate 24 none),
  (true, 0, 8, List.replicate 8 none),
  (false, 5, 9, [none, some 9, some 10, some 11, some 12]),
  (true, 0, 10, List.replicate 24 none),
  (true, 0, 11, List.replicate 24 none),
  (true, 0, 12, List.replicate 24 none),
  (true, 0, 13, List.replicate 8 none),
  (false, 2, 14, [none, none, some 14, some 15, some 16, some 17, some 18, some 19, some 20, some 21, some 22, some 23]),
  (true, 0, 15, List.replicate 24 none),
  (true, 0, 16, List.replicate 24 none),
  (true, 0, 17, List.replicate 24 none),
  (true, 0, 18, List.replicate 24 none),
  (true, 0, 19, List.replicate 24 none),
  (true, 0, 20, List.replicate 24 none),
  (true, 1, 14, List.replicate 24 (some 4000)),
  (true, 0, 21, List.replicate 24 none),
  (true, 0, 22, List.replicate 24 none),
  (true, 0, 23, List.replicate 24 none),
  (false, 4, 24, [none, none, some 25, some 26, some 27, some 28, some 29, some 30, some 31]),
  (true, 0, 25, List.replicate 24 none),
  (true, 0, 26, List.replicate 24 none),
  (true, 0, 27, List.replicate 24 none),
  (true, 0, 28, List.replicate 24 none),
  (true, 0, 29, List.replicate 24 none),
  (true, 0, 30, List.replicate 24 none),
  (true, 0, 31, List.replicate 24 none),
  (false, 3, 32, [none, none, some 33]),
  (true, 2, 33, [some 34, some 39, some 44, some 49, some 54]),
  (false, 5, 34, [none, some 35, some 36, some 37, some 38]),
  (true, 0, 35, List.replicate 24 none),
  (true, 0, 36, List.replicate 24 none),
  (true, 0, 37, List.replicate 24 none),
  (true, 0, 38, List.replicate 8 none),
  (false, 5, 39, [none, some 40, some 41, some 42, some 43]),
  (true, 0, 40, List.replicate 24 none),
  (true, 0, 41, List.replicate 24 none),
  (true, 0, 42, List.replicate 24 none),
  (true, 0, 43, List.replicate 8 none),
  (false, 5, 44, [none, some 45, some 46, some 47, some 48]),
  (true, 0, 45, List.replicate 24 none),
  (true, 0, 46, List.replicate 24 none),
  (true, 0, 47, List.replicate 24 none),
  (true, 0, 48, List.replicate 8 none),
  (false, 5, 49, [none, some 50, some 51, some 52, some 53]),
  (true, 0, 50, List.replicate 24 none),
  (true, 0, 51, List.replicate 24 none),
  (true, 0, 52, List.replicate 24 none),
  (true, 0, 53, List.replicate 8 none),
  (false, 5, 54, [none, some 55, some 56, some 57, some 58]),
  (true, 0, 55, List.replicate 24 none),
  (true, 0, 56, List.replicate 24 none),
  (true, 0, 57, List.replicate 24 none),
  (true, 0, 58, List.replicate 8 none),
  (false, 1, 59, [none, none, none, none, none, some 60]),
  (true, 0, 60, List.replicate 4 none),
  (false, 1, 61, [none, none, none, none, none, some 62]),
  (true, 0, 62, List.replicate 4 none),
  (true, 0, 63, List.replicate 3 none),
  (false, 8, 64, [some 65, some 66, some 67, none, some 68, some 69, none, none, none, none, some 70, some 71, some 72, some 73, some 74, some 75, some 76, some 77, none, none, none, none, none, some 78, some 79, none, none, none, none, none, some 2000]),
  (true, 0, 65, List.replicate 81 none),
  (true, 0, 66, List.replicate 81 none),
  (true, 0, 67, List.replicate 405 none),
  (true, 0, 68, List.replicate 3 none),
  (true, 0, 69, List.replicate 150 none),
  (true, 0, 70, List.replicate 24 none),
  (true, 0, 71, List.replicate 24 none),
  (true, 0, 72, List.replicate 24 none),
  (true, 1, 73, List.replicate 24 none),
  (true, 0, 74, List.replicate 24 none),
  (true, 0, 75, List.replicate 24 none),
  (true, 0, 76, List.replicate 24 none),
  (true, 0, 77, List.replicate 24 none),
  (true, 0, 78, List.replicate 4 none),
  (true, 0, 79, List.replicate 4 none)]
def layV (Z : ZW) (J : Int64) (k j : Nat) : Option Nat → Value
  | none => .int (I (Z k j))
  | some r => if r = 2000 then .long J else if r = 4000 then .int (I (Z k j)) else .ref r
def layC (Z : ZW) (J : Int64) (k : Nat) (c : LCell) : MCell := (c.1, c.2.1, c.2.2.2.mapIdx (fun j q => layV Z J k j q))
def lay0 (Z : ZW) (J : Int64) : MW := LAYC.mapIdx (fun k c => layC Z J k c)
def up (Z : ZW) (k : Nat) (j v : Int) : ZW := fun k' j' => if k' = k ∧ j' = j then v else Z k' j'
theorem lay0_get {Z : ZW} {J : Int64} {k : Nat} {c : LCell} (h : LAYC[k]? = some c) : (lay0 Z J)[k]? = some (layC Z J k c) := by
  simp [lay0, List.getElem?_mapIdx, h]
theorem lay0_len (Z : ZW) (J : Int64) : (lay0 Z J).length = 80 := by
  unfold lay0
  rw [List.length_mapIdx]
  rfl
theorem wsz_mapIdx (Z : ZW) (J : Int64) (l : List LCell) (f : Nat → Nat) : (((l.mapIdx (fun k c => layC Z J (f k) c)).map (fun c => c.2.2.length)).sum) = ((l.map (fun c => c.2.2.2.length)).sum) := by
  induction l generalizing f with
  | nil => rfl
  | cons x t ih =>
    rw [List.mapIdx_cons, List.map_cons, List.map_cons, List.sum_cons, List.sum_cons, ih (fun k => f (k + 1))]
    simp [layC]
theorem lay0_sz (Z : ZW) (J : Int64) : wsz (lay0 Z J) = 2169 := by
  unfold wsz lay0
  rw [wsz_mapIdx Z J LAYC (fun k => k)]
  decide +kernel
/-- a slot that holds an int -/
def isI (s : Option Nat) : Bool := match s with
  | none => true
  | some r => decide (r = 4000)
theorem layV_I {Z : ZW} {J : Int64} {k j : Nat} {s : Option Nat} (h : isI s = true) : layV Z J k j s = .int (I (Z k j)) := by
  cases s with
  | none => rfl
  | some r =>
    have h1 : r = 4000 := of_decide_eq_true h
    subst h1
    rfl
theorem layV_N {Z Z' : ZW} {J : Int64} {k j : Nat} {s : Option Nat} (h : isI s = false) : layV Z J k j s = layV Z' J k j s := by
  cases s with
  | none => cases h
  | some r =>
    have h1 : r ≠ 4000 := of_decide_eq_false h
    simp [layV, h1]
theorem layC_set {Z : ZW} {J : Int64} {k j : Nat} {v : Int} {t : Bool} {a l : Nat} {ss : List (Option Nat)} {s : Option Nat} (hs : ss[j]? = some s) (hi : isI s = true) : layC (up Z k j v) J k (t, a, l, ss) = (t, a, (layC Z J k (t, a, l, ss)).2.2.set j (.int (I v))) := by
  unfold layC
  dsimp only
  congr 2
  apply List.ext_getElem?
  intro q
  rw [List.getElem?_mapIdx, List.getElem?_set, List.getElem?_mapIdx, List.length_mapIdx]
  by_cases hq : j = q
  · subst hq
    have hlt := (List.getElem?_eq_some_iff.mp hs).1
    rw [if_pos rfl, if_pos hlt, hs]
    simp only [Option.map_some]
    rw [layV_I hi]
    simp [up]
  · rw [if_neg hq]
    cases hz : ss[q]? with
    | none => rfl
    | some s =>
      simp only [Option.map_some]
      congr 1
      cases hb : isI s with
      | true =>
        have : ¬ ((q : Int) = (j : Int)) := by omega
        rw [layV_I hb, layV_I hb]
        simp [up, this]
      | false => exact layV_N hb
theorem layC_other {Z : ZW} {J : Int64} {k k' : Nat} {j v : Int} {c : LCell} (hk : k' ≠ k) : layC (up Z k j v) J k' c = layC Z J k' c := by
  refine Prod.ext rfl (Prod.ext rfl ?_)
  show c.2.2.2.mapIdx _ = c.2.2.2.mapIdx _
  apply List.ext_getElem?
  intro q
  rw [List.getElem?_mapIdx, List.getElem?_mapIdx]
  cases c.2.2.2[q]? with
  | none => rfl
  | some s =>
    simp only [Option.map_some]
    cases hb : isI s with
    | true => rw [layV_I hb, layV_I hb]; simp [up, hk]
    | false => rw [layV_N hb]
theorem lay0_set {Z : ZW} {J : Int64} {k j : Nat} {v : Int} {t : Bool} {a l : Nat} {ss : List (Option Nat)} {s : Option Nat} (hl : LAYC[k]? = some (t, a, l, ss)) (hs : ss[j]? = some s) (hi : isI s = true) : (lay0 Z J).set k (t, a, (layC Z J k (t, a, l, ss)).2.2.set j (.int (I v))) = lay0 (up Z k j v) J := by
  apply List.ext_getElem?
  intro q
  rw [List.getElem?_set, lay0_len]
  by_cases hq : k = q
  · subst hq
    have hlt : k < 80 := (List.getElem?_eq_some_iff.mp hl).1
    rw [if_pos rfl, if_pos hlt, lay0_get hl, layC_set hs hi]
  · rw [if_neg hq]
    unfold lay0
    rw [List.getElem?_mapIdx, List.getElem?_mapIdx]
    cases LAYC[q]? with
    | none => rfl
    | some c => simp only [Option.map_some]; rw [layC_other (fun h => hq h.symm)]
theorem layC_J {Z : ZW} {J x : Int64} {k : Nat} {c : LCell} (h : ∀ z ∈ c.2.2.2, z ≠ some 2000) : layC Z J k c = layC Z x k c := by
  refine Prod.ext rfl (Prod.ext rfl ?_)
  show c.2.2.2.mapIdx _ = c.2.2.2.mapIdx _
  apply List.ext_getElem?
  intro q
  rw [List.getElem?_mapIdx, List.getElem?_mapIdx]
  cases hq : c.2.2.2[q]? with
  | none => rfl
  | some s =>
    have h3 := h s (List.mem_of_getElem? hq)
    cases s with
    | none => rfl
    | some r =>
      have h4 : r ≠ 2000 := fun h => h3 (by rw [h])
      simp [layV, h4]
theorem key_J : ∀ k, k < 80 → k ≠ 64 → ((LAYC.getD k (false, 0, 0, [])).2.2.2.all (fun z => decide (z ≠ some 2000))) = true := by decide +kernel
theorem key_J2 : ∀ j, j < 31 → ((LAYC.getD 64 (false, 0, 0, [])).2.2.2[j]? = some (some 2000) ↔ j = 30) := by decide +kernel
theorem key_J3 : (LAYC.getD 64 (false, 0, 0, [])).2.2.2.length = 31 := by decide +kernel
theorem lay0_J {Z : ZW} {J x : Int64} {t : Bool} {a l : Nat} {ss : List (Option Nat)} (hl : LAYC[64]? = some (t, a, l, ss)) : (lay0 Z J).set 64 (t, a, (layC Z J 64 (t, a, l, ss)).2.2.set 30 (.long x)) = lay0 Z x := by
  have h64 : LAYC.getD 64 (false, 0, 0, []) = (t, a, l, ss) := by rw [List.getD_eq_getElem?_getD, hl]; rfl
  apply List.ext_getElem?
  intro q
  rw [List.getElem?_set, lay0_len]
  by_cases hq : 64 = q
  · subst hq
    rw [if_pos rfl, if_pos (by omega), lay0_get hl]
    congr 1
    refine Prod.ext rfl (Prod.ext rfl ?_)
    show (ss.mapIdx _).set 30 _ = ss.mapIdx _
    have k3 := key_J3
    rw [h64] at k3
    apply List.ext_getElem?
    intro j
    rw [List.getElem?_set, List.length_mapIdx, List.getElem?_mapIdx, List.getElem?_mapIdx]
    by_cases hj : 30 = j
    · subst hj
      have k2 := (key_J2 30 (by omega)).mpr rfl
      rw [h64] at k2
      have k2 : ss[30]? = some (some 2000) := k2
      have k3 : ss.length = 31 := k3
      rw [if_pos rfl, if_pos (by omega), k2]
      rfl
    · rw [if_neg hj]
      cases hz : ss[j]? with
      | none => rfl
      | some s =>
        have hlt : j < ss.length := (List.getElem?_eq_some_iff.mp hz).1
        have k3 : ss.length = 31 := k3
        have k2 := key_J2 j (by omega)
        rw [h64] at k2
        have k2 : ss[j]? = some (some 2000) ↔ j = 30 := k2
        cases s with
        | none => rfl
        | some r =>
          have h4 : r ≠ 2000 := fun h => hj (k2.mp (by rw [hz, h])).symm
          simp [layV, h4]
  · rw [if_neg hq]
    unfold lay0
    rw [List.getElem?_mapIdx, List.getElem?_mapIdx]
    cases hz : LAYC[q]? with
    | none => rfl
    | some c =>
      have hlt : q < 80 := (List.getElem?_eq_some_iff.mp hz).1
      have h1 := key_J q hlt (fun h => hq h.symm)
      have h2 : LAYC.getD q (false, 0, 0, []) = c := by rw [List.getD_eq_getElem?_getD, hz]; rfl
      rw [h2] at h1
      simp only [Option.map_some]
      rw [layC_J (x := x) (fun z hz => by simpa using List.all_eq_true.mp h1 z hz)]
/-- labels: where the int of a place of a cell stands in Z -/
def lbN (k : Nat) : Nat := if 3 ≤ k ∧ k ≤ 19 then k + 1 else if 80 ≤ k then k + 2 else k
def lab (k : Nat) (j : Int) : Nat × Int :=
  if k = 20 then (if 0 ≤ j then (14, 8 + j) else (80, j))
  else if k = 13 ∧ 8 ≤ j then (81, j)
  else if k = 1 ∧ 2 ≤ j then (3, j - 1)
  else (lbN k, j)
theorem lab_inj {k k' : Nat} {j j' : Int} (h : lab k j = lab k' j') : k = k' ∧ j = j' := by
  unfold lab lbN at h
  repeat' split at h
  all_goals (obtain ⟨h1, h2⟩ := Prod.mk.inj h; omega)
def V (Z : ZW) : ZW := fun k j => Z (lab k j).1 (lab k j).2
def lay (Z : ZW) (J : Int64) : MW := lay0 (V Z) J
theorem lay_get {Z : ZW} {J : Int64} {k : Nat} {c : LCell} (h : LAYC[k]? = some c) : (lay Z J)[k]? = some (layC (V Z) J k c) := lay0_get h
theorem lay_len (Z : ZW) (J : Int64) : (lay Z J).length = 80 := lay0_len (V Z) J
theorem lay_sz (Z : ZW) (J : Int64) : wsz (lay Z J) = 2169 := lay0_sz (V Z) J
theorem V_up {Z : ZW} {k c : Nat} {j b v : Int} (h : lab k j = (c, b)) : up (V Z) k j v = V (up Z c b v) := by
  funext k' j'
  show (if k' = k ∧ j' = j then v else Z (lab k' j').1 (lab k' j').2) = (if (lab k' j').1 = c ∧ (lab k' j').2 = b then v else Z (lab k' j').1 (lab k' j').2)
  by_cases hk : k' = k ∧ j' = j
  · rw [if_pos hk, hk.1, hk.2, h, if_pos ⟨rfl, rfl⟩]
  · rw [if_neg hk, if_neg (fun q => hk (lab_inj (by rw [h]; exact Prod.ext q.1 q.2)))]
theorem V_at {Z : ZW} {k c : Nat} {j b : Int} (h : lab k j = (c, b)) : V Z k j = Z c b := by
  unfold V
  rw [h]
theorem lay_set {Z : ZW} {J : Int64} {k j c : Nat} {b v : Int} {t : Bool} {a l : Nat} {ss : List (Option Nat)} {s : Option Nat} (hl : LAYC[k]? = some (t, a, l, ss)) (hs : ss[j]? = some s) (hi : isI s = true) (hb : lab k j = (c, b)) : (lay Z J).set k (t, a, (layC (V Z) J k (t, a, l, ss)).2.2.set j (.int (I v))) = lay (up Z c b v) J := by
  unfold lay
  rw [lay0_set hl hs hi, V_up hb]
theorem lay_J {Z : ZW} {J x : Int64} {t : Bool} {a l : Nat} {ss : List (Option Nat)} (hl : LAYC[64]? = some (t, a, l, ss)) : (lay Z J).set 64 (t, a, (layC (V Z) J 64 (t, a, l, ss)).2.2.set 30 (.long x)) = lay Z x := lay0_J hl
theorem key_lb : ∀ k, k < 80 → k ≠ 20 → (LAYC.getD k (false, 0, 0, [])).2.2.1 = lbN k := by decide +kernel
theorem key_13 : ∀ j : Nat, 8 ≤ j → (LAYC.getD 13 (false, 0, 0, [])).2.2.2[j]? ≠ some none := by
  intro j hj
  by_cases h : j < 12
  · have : ∀ j, j < 12 → 8 ≤ j → (LAYC.getD 13 (false, 0, 0, [])).2.2.2[j]? ≠ some none := by decide +kernel
    exact this j h hj
  · rw [List.getElem?_eq_none (by show 12 ≤ j; omega)]
    intro q; cases q
theorem key_1 : ∀ j : Nat, 2 ≤ j → (LAYC.getD 1 (false, 0, 0, [])).2.2.2[j]? ≠ some none := by
  intro j hj
  by_cases h : j < 4
  · have : ∀ j, j < 4 → 2 ≤ j → (LAYC.getD 1 (false, 0, 0, [])).2.2.2[j]? ≠ some none := by decide +kernel
    exact this j h hj
  · rw [List.getElem?_eq_none (by show 4 ≤ j; omega)]
    intro q; cases q
theorem key_20 : ∀ j : Nat, (LAYC.getD 20 (false, 0, 0, [])).2.2.2[j]? ≠ some none := by
  intro j
  show (List.replicate 24 (some 4000))[j]? ≠ some none
  rw [List.getElem?_replicate]
  split
  · intro q; cases q
  · intro q; cases q
/-- an int that is no special one stands at the label of its cell -/
theorem lab_norm {k j l a : Nat} {t : Bool} {ss : List (Option Nat)} (hl : LAYC[k]? = some (t, a, l, ss)) (hs : ss[j]? = some none) : lab k j = (l, (j : Int)) := by
  have hk : k < 80 := (List.getElem?_eq_some_iff.mp hl).1
  have hg : LAYC.getD k (false, 0, 0, []) = (t, a, l, ss) := by rw [List.getD_eq_getElem?_getD, hl]; rfl
  have n20 : k ≠ 20 := by
    intro e
    subst e
    have := key_20 j
    rw [hg] at this
    exact this hs
  have n13 : ¬ (k = 13 ∧ (8 : Int) ≤ j) := by
    intro e
    obtain ⟨rfl, e2⟩ := e
    have := key_13 j (by omega)
    rw [hg] at this
    exact this hs
  have n1 : ¬ (k = 1 ∧ (2 : Int) ≤ j) := by
    intro e
    obtain ⟨rfl, e2⟩ := e
    have := key_1 j (by omega)
    rw [hg] at this
    exact this hs
  have h1 := key_lb k hk n20
  rw [hg] at h1
  have h1 : l = lbN k := h1
  unfold lab
  rw [if_neg n20, if_neg n13, if_neg n1, h1]
theorem key_ob : ∀ k, k < 80 → (LAYC.getD k (false, 0, 0, [])).1 = true → k ≠ 1 ∧ k ≠ 13 := by decide +kernel
/-- in an array of ints every place, also one that is not there -/
theorem lab_arr {k n l a : Nat} (hn : 0 < n) (hl : LAYC[k]? = some (true, a, l, List.replicate n none)) (j : Int) : lab k j = (l, j) := by
  have hk : k < 80 := (List.getElem?_eq_some_iff.mp hl).1
  have hg : LAYC.getD k (false, 0, 0, []) = (true, a, l, List.replicate n none) := by rw [List.getD_eq_getElem?_getD, hl]; rfl
  have n20 : k ≠ 20 := by
    intro e
    subst e
    have := key_20 0
    rw [hg] at this
    exact this (by show (List.replicate n none)[0]? = some none; rw [List.getElem?_replicate, if_pos hn])
  obtain ⟨n1, n13⟩ := key_ob k hk (by rw [hg])
  have h1 := key_lb k hk n20
  rw [hg] at h1
  have h1 : l = lbN k := h1
  unfold lab
  rw [if_neg n20, if_neg (fun q => n13 q.1), if_neg (fun q => n1 q.1), h1]
theorem I_in {x : Int} {n : Nat} (h0 : 0 ≤ x) (h1 : x < n) (hn : n < 2147483648) : vp_in (I x) n := by
  rw [vp_in_iff, Int32.toInt_ofInt_of_le (by omega) (by omega)]
  exact ⟨h0, h1⟩
theorem I_nat {x : Int} (h0 : 0 ≤ x) (h1 : x < 2147483648) : (I x).toNatClampNeg = x.toNat := by
  show (Int32.ofInt x).toInt.toNat = _
  rw [Int32.toInt_ofInt_of_le (by omega) (by omega)]
theorem I_int {x : Int} (h0 : -2147483648 ≤ x) (h1 : x ≤ 2147483647) : (I x).toInt = x := Int32.toInt_ofInt_of_le (by omega) (by omega)
theorem I_lt {x y : Int} (hx : -2147483648 ≤ x ∧ x ≤ 2147483647) (hy : -2147483648 ≤ y ∧ y ≤ 2147483647) : I x < I y ↔ x < y := by
  rw [Int32.lt_iff_toInt_lt, I_int hx.1 hx.2, I_int hy.1 hy.2]
theorem I_le {x y : Int} (hx : -2147483648 ≤ x ∧ x ≤ 2147483647) (hy : -2147483648 ≤ y ∧ y ≤ 2147483647) : I x ≤ I y ↔ x ≤ y := by
  rw [Int32.le_iff_toInt_le, I_int hx.1 hx.2, I_int hy.1 hy.2]
theorem I_eq {x y : Int} (hx : -2147483648 ≤ x ∧ x ≤ 2147483647) (hy : -2147483648 ≤ y ∧ y ≤ 2147483647) : I x = I y ↔ x = y := by
  constructor
  · intro h
    have := congrArg Int32.toInt h
    rwa [I_int hx.1 hx.2, I_int hy.1 hy.2] at this
  · intro h; rw [h]
theorem I_add (x y : Int) : I x + I y = I (x + y) := (Int32.ofInt_add x y).symm
theorem I_sub (x y : Int) : I x - I y = I (x - y) := (Int32.ofInt_sub x y).symm
theorem I_mul (x y : Int) : I x * I y = I (x * y) := (Int32.ofInt_mul x y).symm
theorem I_neg (x : Int) : -(I x) = I (-x) := (Int32.ofInt_neg x).symm
theorem I_of (x : Int32) : I x.toInt = x := Int32.ofInt_toInt x
theorem I_bi {n : Int} (h : -128 ≤ n ∧ n ≤ 127) : (Int8.ofInt n).toInt32 = I n := by
  apply Int32.toInt_inj.mp
  rw [Int8.toInt_toInt32, Int8.toInt_ofInt_of_le (by omega) (by omega), I_int (by omega) (by omega)]
theorem I_si {n : Int} (h : -32768 ≤ n ∧ n ≤ 32767) : (Int16.ofInt n).toInt32 = I n := by
  apply Int32.toInt_inj.mp
  rw [Int16.toInt_toInt32, Int16.toInt_ofInt_of_le (by omega) (by omega), I_int (by omega) (by omega)]
