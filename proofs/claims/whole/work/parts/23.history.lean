/-! the class: setups are copied, saved and restored -/
/-- a setup at cell r, its ints at the labels a, a + 1 .. -/
def SC (r a : Nat) : Prop := LAYC[r]? = some (false, 5, a, [none, some (r + 1), some (r + 2), some (r + 3), some (r + 4)]) ∧ LAYC[r + 1]? = some (true, 0, a + 1, List.replicate 24 none) ∧ LAYC[r + 2]? = some (true, 0, a + 2, List.replicate 24 none) ∧ LAYC[r + 3]? = some (true, 0, a + 3, List.replicate 24 none) ∧ LAYC[r + 4]? = some (true, 0, a + 4, List.replicate 8 none)
theorem SC4 : SC 3 4 := ⟨rfl, rfl, rfl, rfl, rfl⟩
theorem SC9 : SC 8 9 := ⟨rfl, rfl, rfl, rfl, rfl⟩
theorem SCp : ∀ k, k < 5 → SC (34 + 5 * k) (34 + 5 * k) := by
  intro k hk
  match k, hk with
  | 0, _ => exact ⟨rfl, rfl, rfl, rfl, rfl⟩
  | 1, _ => exact ⟨rfl, rfl, rfl, rfl, rfl⟩
  | 2, _ => exact ⟨rfl, rfl, rfl, rfl, rfl⟩
  | 3, _ => exact ⟨rfl, rfl, rfl, rfl, rfl⟩
  | 4, _ => exact ⟨rfl, rfl, rfl, rfl, rfl⟩
theorem SC_lt {r a : Nat} (h : SC r a) : r < 80 := (List.getElem?_eq_some_iff.mp h.1).1
theorem blt_of {a b : Nat} (h : a < b) : Nat.blt a b = true := by simpa [Nat.blt] using Nat.ble_eq_true_of_le h
def tkP (Z : ZW) (a b : Nat) : ZW := cpy (cpy (cpy (up Z a 0 (Z b 0)) (b + 1) (a + 1) 24) (b + 2) (a + 2) 24) (b + 3) (a + 3) 24
def tkA (Z : ZW) (a b : Nat) : ZW := cpy (tkP Z a b) (b + 4) (a + 4) 8
theorem s_takeP {Z : ZW} {J : Int64} {r s a b : Nat} (ha : SC r a) (hb : SC s b) : D 45 [.ref r, .ref s] Z J none (tkP Z a b) J := by
  unfold D Mz
  have la := SC_lt ha
  have lb := SC_lt hb
  refine z_aload_n rfl rfl ?_
  refine z_aload_n rfl rfl ?_
  refine z_getI (bi := 0) rfl hb.1 rfl rfl ?_
  refine z_putI (bi := 0) rfl ha.1 rfl rfl rfl ?_
  refine z_aload_n rfl rfl ?_
  refine z_getR rfl hb.1 rfl (blt_of (by omega)) ?_
  refine z_iconst rfl ?_
  refine z_aload_n rfl rfl ?_
  refine z_getR rfl ha.1 rfl (blt_of (by omega)) ?_
  refine z_iconst rfl ?_
  refine z_bipush rfl (by decide) ?_
  refine z_copy rfl hb.2.1 ha.2.1 (by decide) (by decide) (by decide) (Nat.le_of_ble_eq_true rfl) ?_
  refine z_aload_n rfl rfl ?_
  refine z_getR rfl hb.1 rfl (blt_of (by omega)) ?_
  refine z_iconst rfl ?_
  refine z_aload_n rfl rfl ?_
  refine z_getR rfl ha.1 rfl (blt_of (by omega)) ?_
  refine z_iconst rfl ?_
  refine z_bipush rfl (by decide) ?_
  refine z_copy rfl hb.2.2.1 ha.2.2.1 (by decide) (by decide) (by decide) (Nat.le_of_ble_eq_true rfl) ?_
  refine z_aload_n rfl rfl ?_
  refine z_getR rfl hb.1 rfl (blt_of (by omega)) ?_
  refine z_iconst rfl ?_
  refine z_aload_n rfl rfl ?_
  refine z_getR rfl ha.1 rfl (blt_of (by omega)) ?_
  refine z_iconst rfl ?_
  refine z_bipush rfl (by decide) ?_
  refine z_copy rfl hb.2.2.2.1 ha.2.2.2.1 (by decide) (by decide) (by decide) (Nat.le_of_ble_eq_true rfl) ?_
  exact z_vret rfl rfl ⟨rfl, rfl, rfl⟩
theorem s_takeA {Z : ZW} {J : Int64} {r s a b : Nat} (ha : SC r a) (hb : SC s b) : D 46 [.ref r, .ref s] Z J none (tkA Z a b) J := by
  unfold D Mz
  have la := SC_lt ha
  have lb := SC_lt hb
  refine z_aload_n rfl rfl ?_
  refine z_aload_n rfl rfl ?_
  refine z_callV1v rfl rfl ha.1 rfl rfl rfl (s_takeP ha hb) ?_
  refine z_aload_n rfl rfl ?_
  refine z_getR rfl hb.1 rfl (blt_of (by omega)) ?_
  refine z_iconst rfl ?_
  refine z_aload_n rfl rfl ?_
  refine z_getR rfl ha.1 rfl (blt_of (by omega)) ?_
  refine z_iconst rfl ?_
  refine z_bipush rfl (by decide) ?_
  refine z_copy rfl hb.2.2.2.2 ha.2.2.2.2 (by decide) (by decide) (by decide) (Nat.le_of_ble_eq_true rfl) ?_
  exact z_vret rfl rfl ⟨rfl, rfl, rfl⟩
theorem cpy_eq {Z : ZW} {k0 k1 : Nat} {n j : Int} (h0 : 0 ≤ j) (h1 : j < n) : cpy Z k0 k1 n k1 j = Z k0 j := by
  unfold cpy
  rw [if_pos ⟨rfl, h0, h1⟩]
theorem cpy_ne {Z : ZW} {k0 k1 k : Nat} {n j : Int} (h : k ≠ k1) : cpy Z k0 k1 n k j = Z k j := by
  unfold cpy
  rw [if_neg (fun q => h q.1)]
theorem up_eq {Z : ZW} {k : Nat} {j v : Int} : up Z k j v k j = v := by simp [up]
theorem up_ne {Z : ZW} {k k' : Nat} {j j' v : Int} (h : k' ≠ k) : up Z k j v k' j' = Z k' j' := by
  unfold up
  rw [if_neg (fun q => h q.1)]
theorem up_nj {Z : ZW} {k k' : Nat} {j j' v : Int} (h : j' ≠ j) : up Z k j v k' j' = Z k' j' := by
  unfold up
  rw [if_neg (fun q => h q.2)]
/-- the setup at a is that which stood at b -/
def Cp (Z Z' : ZW) (a b : Nat) : Prop := Z' a 0 = Z b 0 ∧ (∀ j, 0 ≤ j → j < (24 : Int) → Z' (a + 1) j = Z (b + 1) j ∧ Z' (a + 2) j = Z (b + 2) j ∧ Z' (a + 3) j = Z (b + 3) j) ∧ (∀ j, 0 ≤ j → j < (8 : Int) → Z' (a + 4) j = Z (b + 4) j)
theorem tkA_ok {Z : ZW} {a b : Nat} (h : a + 4 < b ∨ b + 4 < a) : Cp Z (tkA Z a b) a b ∧ ∀ (k : Nat) (j : Int), (k < a ∨ a + 4 < k) → tkA Z a b k j = Z k j := by
  unfold tkA tkP
  refine ⟨⟨?_, fun j j0 j1 => ⟨?_, ?_, ?_⟩, fun j j0 j1 => ?_⟩, fun k j hk => ?_⟩
  · rw [cpy_ne (by omega), cpy_ne (by omega), cpy_ne (by omega), cpy_ne (by omega), up_eq]
  · rw [cpy_ne (by omega), cpy_ne (by omega), cpy_ne (by omega), cpy_eq j0 j1, up_ne (by omega)]
  · rw [cpy_ne (by omega), cpy_ne (by omega), cpy_eq j0 j1, cpy_ne (by omega), up_ne (by omega)]
  · rw [cpy_ne (by omega), cpy_eq j0 j1, cpy_ne (by omega), cpy_ne (by omega), up_ne (by omega)]
  · rw [cpy_eq j0 j1, cpy_ne (by omega), cpy_ne (by omega), cpy_ne (by omega), up_ne (by omega)]
  · rw [cpy_ne (by omega), cpy_ne (by omega), cpy_ne (by omega), cpy_ne (by omega), up_ne (by omega)]
theorem s_placeAt {Z : ZW} {J : Int64} {x : Int} (hx : 0 ≤ x ∧ x < 5) : D 44 [.ref 32, .int (I x)] Z J (some (.ref (34 + 5 * x.toNat))) Z J := by
  unfold D Mz
  refine z_iload_n rfl rfl ?_
  refine z_if_lt rfl (by omega) (fun h1 => ?_) (fun h1 => ?_)
  · exfalso; omega
  · refine z_iload_n rfl rfl ?_
    refine z_iconst rfl ?_
    refine z_icmp_ge rfl (by omega) (by omega) (fun h6 => ?_) (fun h6 => ?_)
    · exfalso; omega
    · refine z_aload_n rfl rfl ?_
      refine z_getR rfl rfl rfl rfl ?_
      refine z_iload_n rfl rfl ?_
      refine z_place rfl (by omega) ?_
      refine z_goto rfl ?_
      exact z_aret rfl rfl (Or.inl ⟨_, rfl⟩) ⟨rfl, rfl, rfl⟩
theorem s_save {Z : ZW} {J : Int64} (hx : 0 ≤ Z 32 1 ∧ Z 32 1 < 5) (hs : 0 ≤ Z 32 0 ∧ Z 32 0 ≤ 5) : Mz 47 [.ref 32, .ref 3] Z J (fun r Z' J' => r = none ∧ J' = J ∧ Cp Z Z' (34 + 5 * (Z 32 1).toNat) 4 ∧ Z' 32 0 = (if Z 32 0 < 5 then Z 32 0 + 1 else 5) ∧ Z' 32 1 = (if Z 32 1 + 1 < 5 then Z 32 1 + 1 else 0) ∧ ∀ (k : Nat) (j : Int), k ≠ 32 → (k < 34 + 5 * (Z 32 1).toNat ∨ 38 + 5 * (Z 32 1).toNat < k) → Z' k j = Z k j) := by
  unfold Mz
  obtain ⟨a, ea⟩ : ∃ a, a = 34 + 5 * (Z 32 1).toNat := ⟨_, rfl⟩
  have ha : SC a a := by rw [ea]; exact SCp _ (by omega)
  have la := SC_lt ha
  obtain ⟨t1, t2⟩ := tkA_ok (Z := Z) (a := a) (b := 4) (by omega)
  obtain ⟨Z1, hZ1⟩ : ∃ Z1, Z1 = tkA Z a 4 := ⟨_, rfl⟩
  rw [← hZ1] at t1 t2
  have e32 : ∀ j, Z1 32 j = Z 32 j := fun j => t2 32 j (by omega)
  have K65 : ∀ (lv : List (Option Value)) (u w : Int), u = (if Z 32 1 + 1 < 5 then Z 32 1 + 1 else 0) → w = (if Z 32 0 < 5 then Z 32 0 + 1 else 5) → OkZ none 47 65 lv [] (up (up Z1 32 1 u) 32 0 w) J (fun r Z' J' => r = none ∧ J' = J ∧ Cp Z Z' (34 + 5 * (Z 32 1).toNat) 4 ∧ Z' 32 0 = (if Z 32 0 < 5 then Z 32 0 + 1 else 5) ∧ Z' 32 1 = (if Z 32 1 + 1 < 5 then Z 32 1 + 1 else 0) ∧ ∀ (k : Nat) (j : Int), k ≠ 32 → (k < 34 + 5 * (Z 32 1).toNat ∨ 38 + 5 * (Z 32 1).toNat < k) → Z' k j = Z k j) := by
    intro lv u w hu hw
    obtain ⟨c1, c2, c3⟩ := t1
    rw [← ea]
    refine z_vret rfl rfl ⟨rfl, rfl, ⟨?_, fun j j0 j1 => ⟨?_, ?_, ?_⟩, fun j j0 j1 => ?_⟩, ?_, ?_, fun k j k1 k2 => ?_⟩
    · rw [up_ne (by omega), up_ne (by omega)]; exact c1
    · rw [up_ne (by omega), up_ne (by omega)]; exact (c2 j j0 j1).1
    · rw [up_ne (by omega), up_ne (by omega)]; exact (c2 j j0 j1).2.1
    · rw [up_ne (by omega), up_ne (by omega)]; exact (c2 j j0 j1).2.2
    · rw [up_ne (by omega), up_ne (by omega)]; exact c3 j j0 j1
    · rw [up_eq]; exact hw
    · rw [up_nj (by omega), up_eq]; exact hu
    · rw [up_ne k1, up_ne k1]; exact t2 k j (by omega)
  refine z_aload_n rfl rfl ?_
  refine z_aload_n rfl rfl ?_
  refine z_getI (bi := 1) rfl rfl rfl rfl ?_
  refine z_callV1 rfl rfl rfl rfl rfl rfl (s_placeAt hx) ?_
  rw [← ea] at K65
  rw [← ea]
  refine z_astore_n rfl rfl rfl ?_
  refine z_aload_n rfl rfl ?_
  refine z_ifnonnull rfl ?_
  refine z_aload_n rfl rfl ?_
  refine z_aload_n rfl rfl ?_
  refine z_callV1v rfl rfl ha.1 rfl rfl rfl (s_takeA ha SC4) ?_
  rw [← hZ1]
  have r1 := e32 1
  have r0 := e32 0
  refine z_aload_n rfl rfl ?_
  refine z_aload_n rfl rfl ?_
  refine z_getI (bi := 1) rfl rfl rfl rfl ?_
  refine z_iconst rfl ?_
  refine z_iadd rfl ?_
  refine z_iconst rfl ?_
  refine z_icmp_ge rfl (by omega) (by omega) (fun h27 => ?_) (fun h27 => ?_)
  · refine z_iconst rfl ?_
    refine z_putI (bi := 1) rfl rfl rfl rfl rfl ?_
    refine z_aload_n rfl rfl ?_
    refine z_aload_n rfl rfl ?_
    refine z_getI (bi := 0) rfl rfl rfl rfl ?_
    rw [up_nj (by omega)]
    refine z_iconst rfl ?_
    refine z_icmp_ge rfl (by omega) (by omega) (fun h49 => ?_) (fun h49 => ?_)
    · refine z_iconst rfl ?_
      refine z_putI (bi := 0) rfl rfl rfl rfl rfl ?_
      refine K65 _ _ _ ?_ ?_
      · rw [if_neg (by rw [← e32]; omega)]
      · rw [if_neg (by rw [← e32]; omega)]
    · refine z_aload_n rfl rfl ?_
      refine z_getI (bi := 0) rfl rfl rfl rfl ?_
      rw [up_nj (by omega)]
      refine z_iconst rfl ?_
      refine z_iadd rfl ?_
      refine z_goto rfl ?_
      refine z_putI (bi := 0) rfl rfl rfl rfl rfl ?_
      refine K65 _ _ _ ?_ ?_
      · rw [if_neg (by rw [← e32]; omega)]
      · rw [if_pos (by rw [← e32]; omega), e32]
  · refine z_aload_n rfl rfl ?_
    refine z_getI (bi := 1) rfl rfl rfl rfl ?_
    refine z_iconst rfl ?_
    refine z_iadd rfl ?_
    refine z_goto rfl ?_
    refine z_putI (bi := 1) rfl rfl rfl rfl rfl ?_
    refine z_aload_n rfl rfl ?_
    refine z_aload_n rfl rfl ?_
    refine z_getI (bi := 0) rfl rfl rfl rfl ?_
    rw [up_nj (by omega)]
    refine z_iconst rfl ?_
    refine z_icmp_ge rfl (by omega) (by omega) (fun h49 => ?_) (fun h49 => ?_)
    · refine z_iconst rfl ?_
      refine z_putI (bi := 0) rfl rfl rfl rfl rfl ?_
      refine K65 _ _ _ ?_ ?_
      · rw [if_pos (by rw [← e32]; omega), e32]
      · rw [if_neg (by rw [← e32]; omega)]
    · refine z_aload_n rfl rfl ?_
      refine z_getI (bi := 0) rfl rfl rfl rfl ?_
      rw [up_nj (by omega)]
      refine z_iconst rfl ?_
      refine z_iadd rfl ?_
      refine z_goto rfl ?_
      refine z_putI (bi := 0) rfl rfl rfl rfl rfl ?_
      refine K65 _ _ _ ?_ ?_
      · rw [if_pos (by rw [← e32]; omega), e32]
      · rw [if_pos (by rw [← e32]; omega), e32]
theorem s_restore {Z : ZW} {J : Int64} {w : Int} (hx : 0 ≤ Z 32 1 ∧ Z 32 1 < 5) (hs : 0 < Z 32 0 ∧ Z 32 0 ≤ 5) (hw : w = (if 0 < Z 32 1 then Z 32 1 - 1 else 4)) : Mz 48 [.ref 32, .ref 3] Z J (fun r Z' J' => r = none ∧ J' = J ∧ Cp Z Z' 4 (34 + 5 * w.toNat) ∧ Z' 32 0 = Z 32 0 - 1 ∧ Z' 32 1 = w ∧ ∀ (k : Nat) (j : Int), k ≠ 32 → (k < 4 ∨ 8 < k) → Z' k j = Z k j) := by
  unfold Mz
  have hw5 : 0 ≤ w ∧ w < 5 := by rw [hw]; split <;> omega
  obtain ⟨a, ea⟩ : ∃ a, a = 34 + 5 * w.toNat := ⟨_, rfl⟩
  have ha : SC a a := by rw [ea]; exact SCp _ (by omega)
  have la := SC_lt ha
  rw [← ea]
  obtain ⟨t1, t2⟩ := tkA_ok (Z := Z) (a := 4) (b := a) (by omega)
  obtain ⟨Z1, hZ1⟩ : ∃ Z1, Z1 = tkA Z 4 a := ⟨_, rfl⟩
  rw [← hZ1] at t1 t2
  have e32 : ∀ j, Z1 32 j = Z 32 j := fun j => t2 32 j (by omega)
  have K18 : OkZ none 48 18 [some (.ref 32), some (.ref 3), some (.int (I w)), none] [] Z J (fun r Z' J' => r = none ∧ J' = J ∧ Cp Z Z' 4 a ∧ Z' 32 0 = Z 32 0 - 1 ∧ Z' 32 1 = w ∧ ∀ (k : Nat) (j : Int), k ≠ 32 → (k < 4 ∨ 8 < k) → Z' k j = Z k j) := by
    refine z_aload_n rfl rfl ?_
    refine z_iload_n rfl rfl ?_
    refine z_callV1 rfl rfl rfl rfl rfl rfl (s_placeAt hw5) ?_
    rw [← ea]
    refine z_astore_n rfl rfl rfl ?_
    refine z_aload_n rfl rfl ?_
    refine z_getI (bi := 0) rfl rfl rfl rfl ?_
    refine z_if_eq rfl (by omega) (fun h28 => ?_) (fun h28 => ?_)
    · exfalso; omega
    · refine z_aload_n rfl rfl ?_
      refine z_ifnonnull rfl ?_
      refine z_aload_n rfl rfl ?_
      refine z_aload_n rfl rfl ?_
      refine z_callV1v rfl rfl rfl rfl rfl rfl (s_takeA SC4 ha) ?_
      rw [← hZ1]
      refine z_aload_n rfl rfl ?_
      refine z_iload_n rfl rfl ?_
      refine z_putI (bi := 1) rfl rfl rfl rfl rfl ?_
      refine z_aload_n rfl rfl ?_
      refine z_dup rfl rfl ?_
      refine z_getI (bi := 0) rfl rfl rfl rfl ?_
      refine z_iconst rfl ?_
      refine z_isub rfl ?_
      refine z_putI (bi := 0) rfl rfl rfl rfl rfl ?_
      obtain ⟨c1, c2, c3⟩ := t1
      refine z_vret rfl rfl ⟨rfl, rfl, ⟨?_, fun j j0 j1 => ⟨?_, ?_, ?_⟩, fun j j0 j1 => ?_⟩, ?_, ?_, fun k j k1 k2 => ?_⟩
      · rw [up_ne (by omega), up_ne (by omega)]; exact c1
      · rw [up_ne (by omega), up_ne (by omega)]; exact (c2 j j0 j1).1
      · rw [up_ne (by omega), up_ne (by omega)]; exact (c2 j j0 j1).2.1
      · rw [up_ne (by omega), up_ne (by omega)]; exact (c2 j j0 j1).2.2
      · rw [up_ne (by omega), up_ne (by omega)]; exact c3 j j0 j1
      · rw [up_eq, up_nj (by omega), e32]
      · rw [up_nj (by omega), up_eq]
      · rw [up_ne k1, up_ne k1]; exact t2 k j (by omega)
  refine z_aload_n rfl rfl ?_
  refine z_getI (bi := 1) rfl rfl rfl rfl ?_
  refine z_if_le rfl (by omega) (fun h4 => ?_) (fun h4 => ?_)
  · refine z_iconst rfl ?_
    refine z_istore_n rfl rfl rfl ?_
    rw [if_neg (by omega)] at hw
    subst hw
    exact K18
  · refine z_aload_n rfl rfl ?_
    refine z_getI (bi := 1) rfl rfl rfl rfl ?_
    refine z_iconst rfl ?_
    refine z_isub rfl ?_
    refine z_goto rfl ?_
    refine z_istore_n rfl rfl rfl ?_
    rw [if_pos (by omega)] at hw
    subst hw
    exact K18
