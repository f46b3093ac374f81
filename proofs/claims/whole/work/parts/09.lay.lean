/-! the world behind the constructors: 80 cells; what may change are ints (Z cell place) and one long (J) -/
abbrev I (x : Int) : Int32 := Int32.ofInt x
abbrev ZW : Type := Nat → Int → Int
abbrev LCell : Type := Bool × Nat × List (Option Nat)
def LAYC : List LCell := [(false, 7, [some 1, some 3, some 4, some 9, some 14, some 24, some 32, some 59, some 61, some 63]),
  (false, 6, [none, some 2]),
  (true, 0, List.replicate 150 none),
  (false, 0, [some 1, none, none]),
  (false, 5, [none, some 5, some 6, some 7, some 8]),
  (true, 0, List.replicate 24 none),
  (true, 0, List.replicate 24 none),
  (true, 0, List.replicate 24 none),
  (true, 0, List.replicate 8 none),
  (false, 5, [none, some 10, some 11, some 12, some 13]),
  (true, 0, List.replicate 24 none),
  (true, 0, List.replicate 24 none),
  (true, 0, List.replicate 24 none),
  (true, 0, List.replicate 8 none),
  (false, 2, [none, none, some 15, some 16, some 17, some 18, some 19, some 20, none, some 21, some 22, some 23]),
  (true, 0, List.replicate 24 none),
  (true, 0, List.replicate 24 none),
  (true, 0, List.replicate 24 none),
  (true, 0, List.replicate 24 none),
  (true, 0, List.replicate 24 none),
  (true, 0, List.replicate 24 none),
  (true, 0, List.replicate 24 none),
  (true, 0, List.replicate 24 none),
  (true, 0, List.replicate 24 none),
  (false, 4, [none, none, some 25, some 26, some 27, some 28, some 29, some 30, some 31]),
  (true, 0, List.replicate 24 none),
  (true, 0, List.replicate 24 none),
  (true, 0, List.replicate 24 none),
  (true, 0, List.replicate 24 none),
  (true, 0, List.replicate 24 none),
  (true, 0, List.replicate 24 none),
  (true, 0, List.replicate 24 none),
  (false, 3, [none, none, some 33]),
  (true, 2, [some 34, some 39, some 44, some 49, some 54]),
  (false, 5, [none, some 35, some 36, some 37, some 38]),
  (true, 0, List.replicate 24 none),
  (true, 0, List.replicate 24 none),
  (true, 0, List.replicate 24 none),
  (true, 0, List.replicate 8 none),
  (false, 5, [none, some 40, some 41, some 42, some 43]),
  (true, 0, List.replicate 24 none),
  (true, 0, List.replicate 24 none),
  (true, 0, List.replicate 24 none),
  (true, 0, List.replicate 8 none),
  (false, 5, [none, some 45, some 46, some 47, some 48]),
  (true, 0, List.replicate 24 none),
  (true, 0, List.replicate 24 none),
  (true, 0, List.replicate 24 none),
  (true, 0, List.replicate 8 none),
  (false, 5, [none, some 50, some 51, some 52, some 53]),
  (true, 0, List.replicate 24 none),
  (true, 0, List.replicate 24 none),
  (true, 0, List.replicate 24 none),
  (true, 0, List.replicate 8 none),
  (false, 5, [none, some 55, some 56, some 57, some 58]),
  (true, 0, List.replicate 24 none),
  (true, 0, List.replicate 24 none),
  (true, 0, List.replicate 24 none),
  (true, 0, List.replicate 8 none),
  (false, 1, [none, none, none, none, none, some 60]),
  (true, 0, List.replicate 4 none),
  (false, 1, [none, none, none, none, none, some 62]),
  (true, 0, List.replicate 4 none),
  (true, 0, List.replicate 3 none),
  (false, 8, [some 65, some 66, some 67, none, some 68, some 69, none, none, none, none, some 70, some 71, some 72, some 73, some 74, some 75, some 76, some 77, none, none, none, none, none, some 78, some 79, none, none, none, none, none, some 2000]),
  (true, 0, List.replicate 81 none),
  (true, 0, List.replicate 81 none),
  (true, 0, List.replicate 405 none),
  (true, 0, List.replicate 3 none),
  (true, 0, List.replicate 150 none),
  (true, 0, List.replicate 24 none),
  (true, 0, List.replicate 24 none),
  (true, 0, List.replicate 24 none),
  (true, 1, List.replicate 24 none),
  (true, 0, List.replicate 24 none),
  (true, 0, List.replicate 24 none),
  (true, 0, List.replicate 24 none),
  (true, 0, List.replicate 24 none),
  (true, 0, List.replicate 4 none),
  (true, 0, List.replicate 4 none)]
def layV (Z : ZW) (J : Int64) (k j : Nat) : Option Nat → Value
  | none => .int (I (Z k j))
  | some r => if r = 2000 then .long J else .ref r
def layC (Z : ZW) (J : Int64) (k : Nat) (c : LCell) : MCell := (c.1, c.2.1, c.2.2.mapIdx (fun j q => layV Z J k j q))
def lay (Z : ZW) (J : Int64) : MW := LAYC.mapIdx (fun k c => layC Z J k c)
def up (Z : ZW) (k : Nat) (j v : Int) : ZW := fun k' j' => if k' = k ∧ j' = j then v else Z k' j'
theorem lay_get {Z : ZW} {J : Int64} {k : Nat} {c : LCell} (h : LAYC[k]? = some c) : (lay Z J)[k]? = some (layC Z J k c) := by
  simp [lay, List.getElem?_mapIdx, h]
theorem lay_len (Z : ZW) (J : Int64) : (lay Z J).length = 80 := by
  unfold lay
  rw [List.length_mapIdx]
  rfl
theorem wsz_mapIdx (Z : ZW) (J : Int64) (l : List LCell) (f : Nat → Nat) : (((l.mapIdx (fun k c => layC Z J (f k) c)).map (fun c => c.2.2.length)).sum) = ((l.map (fun c => c.2.2.length)).sum) := by
  induction l generalizing f with
  | nil => rfl
  | cons x t ih =>
    rw [List.mapIdx_cons, List.map_cons, List.map_cons, List.sum_cons, List.sum_cons, ih (fun k => f (k + 1))]
    simp [layC]
theorem lay_sz (Z : ZW) (J : Int64) : wsz (lay Z J) = 2147 := by
  unfold wsz lay
  rw [wsz_mapIdx Z J LAYC (fun k => k)]
  decide +kernel
theorem layC_set {Z : ZW} {J : Int64} {k j : Nat} {v : Int} {t : Bool} {a : Nat} {ss : List (Option Nat)} (hs : ss[j]? = some none) : layC (up Z k j v) J k (t, a, ss) = (t, a, (layC Z J k (t, a, ss)).2.2.set j (.int (I v))) := by
  unfold layC
  dsimp only
  congr 2
  apply List.ext_getElem?
  intro q
  rw [List.getElem?_mapIdx, List.getElem?_set, List.getElem?_mapIdx, List.length_mapIdx]
  by_cases hq : j = q
  · subst hq
    have hlt := (List.getElem?_eq_some_iff.mp hs).1
    rw [if_pos rfl, if_pos hlt, hs]
    simp [layV, up]
  · rw [if_neg hq]
    cases hz : ss[q]? with
    | none => rfl
    | some s =>
      simp only [Option.map_some]
      congr 1
      cases s with
      | none =>
        have : ¬ ((q : Int) = (j : Int)) := by omega
        simp [layV, up, this]
      | some r => rfl
theorem layC_other {Z : ZW} {J : Int64} {k k' : Nat} {j v : Int} {c : LCell} (hk : k' ≠ k) : layC (up Z k j v) J k' c = layC Z J k' c := by
  refine Prod.ext rfl (Prod.ext rfl ?_)
  show c.2.2.mapIdx _ = c.2.2.mapIdx _
  apply List.ext_getElem?
  intro q
  rw [List.getElem?_mapIdx, List.getElem?_mapIdx]
  cases c.2.2[q]? with
  | none => rfl
  | some s =>
    cases s with
    | none => simp [layV, up, hk]
    | some r => rfl
theorem lay_set {Z : ZW} {J : Int64} {k j : Nat} {v : Int} {t : Bool} {a : Nat} {ss : List (Option Nat)} (hl : LAYC[k]? = some (t, a, ss)) (hs : ss[j]? = some none) : (lay Z J).set k (t, a, (layC Z J k (t, a, ss)).2.2.set j (.int (I v))) = lay (up Z k j v) J := by
  apply List.ext_getElem?
  intro q
  rw [List.getElem?_set, lay_len]
  by_cases hq : k = q
  · subst hq
    have hlt : k < 80 := (List.getElem?_eq_some_iff.mp hl).1
    rw [if_pos rfl, if_pos hlt, lay_get hl, layC_set hs]
  · rw [if_neg hq]
    unfold lay
    rw [List.getElem?_mapIdx, List.getElem?_mapIdx]
    cases LAYC[q]? with
    | none => rfl
    | some c => simp only [Option.map_some]; rw [layC_other (fun h => hq h.symm)]
theorem layC_J {Z : ZW} {J x : Int64} {k : Nat} {c : LCell} (h : ∀ z ∈ c.2.2, z ≠ some 2000) : layC Z J k c = layC Z x k c := by
  refine Prod.ext rfl (Prod.ext rfl ?_)
  show c.2.2.mapIdx _ = c.2.2.mapIdx _
  apply List.ext_getElem?
  intro q
  rw [List.getElem?_mapIdx, List.getElem?_mapIdx]
  cases hq : c.2.2[q]? with
  | none => rfl
  | some s =>
    have h3 := h s (List.mem_of_getElem? hq)
    cases s with
    | none => rfl
    | some r =>
      have h4 : r ≠ 2000 := fun h => h3 (by rw [h])
      simp [layV, h4]
theorem key_J : ∀ k, k < 80 → k ≠ 64 → ((LAYC.getD k (false, 0, [])).2.2.all (fun z => decide (z ≠ some 2000))) = true := by decide +kernel
theorem key_J2 : ∀ j, j < 31 → ((LAYC.getD 64 (false, 0, [])).2.2[j]? = some (some 2000) ↔ j = 30) := by decide +kernel
theorem key_J3 : (LAYC.getD 64 (false, 0, [])).2.2.length = 31 := by decide +kernel
theorem lay_J {Z : ZW} {J x : Int64} {t : Bool} {a : Nat} {ss : List (Option Nat)} (hl : LAYC[64]? = some (t, a, ss)) : (lay Z J).set 64 (t, a, (layC Z J 64 (t, a, ss)).2.2.set 30 (.long x)) = lay Z x := by
  have h64 : LAYC.getD 64 (false, 0, []) = (t, a, ss) := by rw [List.getD_eq_getElem?_getD, hl]; rfl
  apply List.ext_getElem?
  intro q
  rw [List.getElem?_set, lay_len]
  by_cases hq : 64 = q
  · subst hq
    rw [if_pos rfl, if_pos (by omega), lay_get hl]
    congr 1
    refine Prod.ext rfl (Prod.ext rfl ?_)
    show (ss.mapIdx _).set 30 _ = ss.mapIdx _
    have k3 := key_J3
    rw [h64] at k3
    apply List.ext_getElem?
    intro j
    rw [List.getElem?_set, List.length_mapIdx, List.getElem?_mapIdx, List.getElem?_mapIdx]
    by_cases hj : 30 = j
    · subst hj
      have k2 := (key_J2 30 (by omega)).mpr rfl
      rw [h64] at k2
      have k2 : ss[30]? = some (some 2000) := k2
      have k3 : ss.length = 31 := k3
      rw [if_pos rfl, if_pos (by omega), k2]
      rfl
    · rw [if_neg hj]
      cases hz : ss[j]? with
      | none => rfl
      | some s =>
        have hlt : j < ss.length := (List.getElem?_eq_some_iff.mp hz).1
        have k3 : ss.length = 31 := k3
        have k2 := key_J2 j (by omega)
        rw [h64] at k2
        have k2 : ss[j]? = some (some 2000) ↔ j = 30 := k2
        cases s with
        | none => rfl
        | some r =>
          have h4 : r ≠ 2000 := fun h => hj (k2.mp (by rw [hz, h])).symm
          simp [layV, h4]
  · rw [if_neg hq]
    unfold lay
    rw [List.getElem?_mapIdx, List.getElem?_mapIdx]
    cases hz : LAYC[q]? with
    | none => rfl
    | some c =>
      have hlt : q < 80 := (List.getElem?_eq_some_iff.mp hz).1
      have h1 := key_J q hlt (fun h => hq h.symm)
      have h2 : LAYC.getD q (false, 0, []) = c := by rw [List.getD_eq_getElem?_getD, hz]; rfl
      rw [h2] at h1
      simp only [Option.map_some]
      rw [layC_J (x := x) (fun z hz => by simpa using List.all_eq_true.mp h1 z hz)]
theorem I_in {x : Int} {n : Nat} (h0 : 0 ≤ x) (h1 : x < n) (hn : n < 2147483648) : vp_in (I x) n := by
  rw [vp_in_iff, Int32.toInt_ofInt_of_le (by omega) (by omega)]
  exact ⟨h0, h1⟩
theorem I_nat {x : Int} (h0 : 0 ≤ x) (h1 : x < 2147483648) : (I x).toNatClampNeg = x.toNat := by
  show (Int32.ofInt x).toInt.toNat = _
  rw [Int32.toInt_ofInt_of_le (by omega) (by omega)]
theorem I_int {x : Int} (h0 : -2147483648 ≤ x) (h1 : x ≤ 2147483647) : (I x).toInt = x := Int32.toInt_ofInt_of_le (by omega) (by omega)
theorem I_lt {x y : Int} (hx : -2147483648 ≤ x ∧ x ≤ 2147483647) (hy : -2147483648 ≤ y ∧ y ≤ 2147483647) : I x < I y ↔ x < y := by
  rw [Int32.lt_iff_toInt_lt, I_int hx.1 hx.2, I_int hy.1 hy.2]
theorem I_le {x y : Int} (hx : -2147483648 ≤ x ∧ x ≤ 2147483647) (hy : -2147483648 ≤ y ∧ y ≤ 2147483647) : I x ≤ I y ↔ x ≤ y := by
  rw [Int32.le_iff_toInt_le, I_int hx.1 hx.2, I_int hy.1 hy.2]
theorem I_eq {x y : Int} (hx : -2147483648 ≤ x ∧ x ≤ 2147483647) (hy : -2147483648 ≤ y ∧ y ≤ 2147483647) : I x = I y ↔ x = y := by
  constructor
  · intro h
    have := congrArg Int32.toInt h
    rwa [I_int hx.1 hx.2, I_int hy.1 hy.2] at this
  · intro h; rw [h]
theorem I_add (x y : Int) : I x + I y = I (x + y) := (Int32.ofInt_add x y).symm
theorem I_sub (x y : Int) : I x - I y = I (x - y) := (Int32.ofInt_sub x y).symm
theorem I_mul (x y : Int) : I x * I y = I (x * y) := (Int32.ofInt_mul x y).symm
theorem I_neg (x : Int) : -(I x) = I (-x) := (Int32.ofInt_neg x).symm
theorem I_of (x : Int32) : I x.toInt = x := Int32.ofInt_toInt x
theorem I_bi {n : Int} (h : -128 ≤ n ∧ n ≤ 127) : (Int8.ofInt n).toInt32 = I n := by
  apply Int32.toInt_inj.mp
  rw [Int8.toInt_toInt32, Int8.toInt_ofInt_of_le (by omega) (by omega), I_int (by omega) (by omega)]
theorem I_si {n : Int} (h : -32768 ≤ n ∧ n ≤ 32767) : (Int16.ofInt n).toInt32 = I n := by
  apply Int32.toInt_inj.mp
  rw [Int16.toInt_toInt32, Int16.toInt_ofInt_of_le (by omega) (by omega), I_int (by omega) (by omega)]
