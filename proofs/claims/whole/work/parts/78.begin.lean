/-! the world behind the constructors, and the law from its first instruction -/
def Z0 : ZW := fun k j => if k = 3 ∧ j = 2 then -1 else if k = 8 ∨ k = 13 ∨ k = 38 ∨ k = 43 ∨ k = 48 ∨ k = 53 ∨ k = 58 then 1 else if (k = 59 ∨ k = 61) ∧ j = 4 then -1 else if k = 64 ∧ j = 22 then -1 else if k = 65 ∧ 73 ≤ j then 1 else 0
def w64 : MW := (lay Z0 0).take 64
theorem ev7 : ex 3000 64 0 (padL 64 [.ref 0]) [] [(false, 7, dfl 7)] = some w64 := by decide +kernel
theorem ev8 : ex 3000 98 0 (padL 98 [.ref 64]) [] (w64 ++ [(false, 8, dfl 8)]) = some (lay Z0 0) := by decide +kernel
theorem len64 : w64.length = 64 := by decide +kernel
theorem wsz64 : wsz w64 = 1218 := by decide +kernel
theorem INV0 : INV Z0 := by
  have e8 : ∀ c, Z0 8 c = 1 := fun c => rfl
  have e65 : ∀ c, 0 ≤ c → Z0 65 (73 + c) = 1 := fun c h => by
    show (if 65 = 65 ∧ 73 ≤ 73 + c then (1 : Int) else 0) = 1
    rw [if_pos ⟨rfl, by omega⟩]
  have e650 : Z0 65 0 = 0 := rfl
  have hw : WFP (Z0 5) (Z0 6) (Z0 7) 0 := fun i i0 i1 => by omega
  have hco : COk (Z0 8) := fun x _ _ => by rw [e8]; omega
  refine ⟨0, ⟨⟨by omega, rfl, hw, hco, ⟨rfl, rfl, fun i i0 i1 => by omega, fun b b0 b1 => ?_⟩, ⟨fun i i0 i1 => by omega, fun b b0 b1 => ?_, rfl, rfl⟩, fun i _ _ => rfl⟩, ⟨by omega, rfl, hw, hco⟩, rfl, fun i i0 i1 => by omega, fun c c0 c1 => ?_⟩, ⟨⟨⟨Int.le_refl _, by decide⟩, fun j j0 j1 => ?_⟩, rfl, fun j j0 j1 => ?_⟩, fun x _ _ => rfl, ⟨⟨⟨Int.le_refl _, by decide⟩, Int.le_refl _, by decide⟩, rfl, fun k k0 k1 => ?_⟩, rfl, rfl, rfl, rfl, rfl, fun r _ _ => rfl, ⟨Int.le_refl _, by decide⟩, ⟨Int.le_refl _, Int.le_refl _⟩, fun h => ?_⟩
  · have : (gnb (Z0 5) (Z0 7) 0 : Int) = 0 := rfl
    omega
  · have : (gnb (Z0 5) (Z0 7) 0 : Int) = 0 := rfl
    omega
  · rw [e65 c c0]
    exact (e8 c).symm
  · have : Z0 1 0 = 0 := rfl
    omega
  · have : Z0 1 0 = 0 := rfl
    omega
  · have : Z0 32 0 = 0 := rfl
    omega
  · have : Z0 59 1 = 0 := rfl
    omega
theorem law_ok {L : Nat} {xs : Nat → Int32} (hL : L ≤ 1536) : Ok (some (L, xs)) 154 0 [some (.ref 1000), none, none, none] [] [] 80 2169 (fun r w' => r = some (.int (I 1)) ∧ w'.length = 80 ∧ wsz w' = 2169) := by
  obtain ⟨g7, k7⟩ := ex_ok _ _ _ _ _ _ _ ev7
  obtain ⟨g8, k8⟩ := ex_ok _ _ _ _ _ _ _ ev8
  have l80 := lay_len Z0 0
  have s80 := lay_sz Z0 0
  have l65 : (w64 ++ [(false, 8, dfl 8)]).length = 65 := by rw [List.length_append, len64]; rfl
  have d7 : (dfl 7).length = 9 := by decide +kernel
  have d8 : (dfl 8).length = 31 := by decide +kernel
  have s65 : wsz (w64 ++ [(false, 8, dfl 8)]) = 1249 := by rw [wsz_app, wsz64, d8]
  have s1 : wsz [(false, 7, dfl 7)] = 9 := by decide +kernel
  refine r_new rfl (by decide) (by decide) (by rw [d7]; decide) ?_
  show Ok (some (L, xs)) 154 3 [some (.ref 1000), none, none, none] [.ref 0] [(false, 7, dfl 7)] 80 2169 _
  refine r_dup rfl rfl ?_
  refine r_callI (As := []) (k := 0) (dc := 63) (ds := 1209) (Ψ := fun r v => r = none ∧ v = w64) rfl (by decide) (w := [(false, 7, dfl 7)]) rfl rfl (by decide) (by decide) (Ok.pad (k7 none _ _ (by rw [len64]; exact Nat.le_refl _) (by rw [wsz64, s1]; exact Nat.le_refl _))) (fun r v z => by rw [z.2, len64, wsz64, s1]; exact ⟨rfl, rfl⟩) (by decide) (by rw [s1]; decide) (fun r v z => ?_)
  obtain ⟨z1, z2⟩ := z
  rw [z1, z2]
  show Ok (some (L, xs)) 154 7 [some (.ref 1000), none, none, none] [.ref 0] w64 80 2169 _
  refine r_astore_n rfl (by decide) rfl ?_
  refine r_new rfl (by rw [len64]; decide) (by rw [len64]; decide) (by rw [wsz64, d8]; decide) ?_
  rw [len64]
  show Ok (some (L, xs)) 154 11 [some (.ref 1000), some (.ref 0), none, none] [.ref 64] (w64 ++ [(false, 8, dfl 8)]) 80 2169 _
  refine r_dup rfl rfl ?_
  refine r_callI (As := []) (k := 64) (c0 := (false, 8, dfl 8)) (dc := 15) (ds := 920) (Ψ := fun r v => r = none ∧ v = lay Z0 0) rfl (by decide) (by rw [List.getElem?_append_right (by rw [len64]; exact Nat.le_refl _), len64]; rfl) rfl (by decide) (by decide) (Ok.pad (k8 none _ _ (by rw [l80, l65]; exact Nat.le_refl _) (by rw [s80, s65]; exact Nat.le_refl _))) (fun r v z => by rw [z.2, l80, s80, l65, s65]; exact ⟨rfl, rfl⟩) (by rw [l65]; decide) (by rw [s65]; decide) (fun r v z => ?_)
  obtain ⟨z1, z2⟩ := z
  rw [z1, z2]
  show Ok (some (L, xs)) 154 15 [some (.ref 1000), some (.ref 0), none, none] [.ref 64] (lay Z0 0) 80 2169 _
  refine r_astore_n rfl (by decide) rfl ?_
  refine r_iconst rfl ?_
  refine r_istore_n rfl (by decide) rfl ?_
  have hgo := law_loop (L := L) (xs := xs) hL (L + 3) 0 Z0 0 (by omega) (by omega) (by omega) INV0
  refine Ok.weaken hgo (fun r w' q => ?_)
  obtain ⟨Z', J', e, hr⟩ := q
  exact ⟨hr, by rw [e]; exact lay_len Z' J', by rw [e]; exact lay_sz Z' J'⟩
