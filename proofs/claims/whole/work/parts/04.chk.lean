/-! every row of the tables is as the bytes and the words say -/
set_option maxRecDepth 100000 in
theorem chk_0 : ∀ j, j < 12 → okM (0 + j) = true := by decide +kernel
set_option maxRecDepth 100000 in
theorem chk_12 : ∀ j, j < 12 → okM (12 + j) = true := by decide +kernel
set_option maxRecDepth 100000 in
theorem chk_24 : ∀ j, j < 12 → okM (24 + j) = true := by decide +kernel
set_option maxRecDepth 100000 in
theorem chk_36 : ∀ j, j < 12 → okM (36 + j) = true := by decide +kernel
set_option maxRecDepth 100000 in
theorem chk_48 : ∀ j, j < 12 → okM (48 + j) = true := by decide +kernel
set_option maxRecDepth 100000 in
theorem chk_60 : ∀ j, j < 12 → okM (60 + j) = true := by decide +kernel
set_option maxRecDepth 100000 in
theorem chk_72 : ∀ j, j < 12 → okM (72 + j) = true := by decide +kernel
set_option maxRecDepth 100000 in
theorem chk_84 : ∀ j, j < 12 → okM (84 + j) = true := by decide +kernel
set_option maxRecDepth 100000 in
theorem chk_96 : ∀ j, j < 12 → okM (96 + j) = true := by decide +kernel
set_option maxRecDepth 100000 in
theorem chk_108 : ∀ j, j < 12 → okM (108 + j) = true := by decide +kernel
set_option maxRecDepth 100000 in
theorem chk_120 : ∀ j, j < 12 → okM (120 + j) = true := by decide +kernel
set_option maxRecDepth 100000 in
theorem chk_132 : ∀ j, j < 12 → okM (132 + j) = true := by decide +kernel
set_option maxRecDepth 100000 in
theorem chk_144 : ∀ j, j < 11 → okM (144 + j) = true := by decide +kernel
theorem chk_at (i : Nat) : okM i = true := by
  by_cases h0 : i < 12
  · have h := chk_0 (i - 0) (by omega)
    rwa [show 0 + (i - 0) = i by omega] at h
  by_cases h12 : i < 24
  · have h := chk_12 (i - 12) (by omega)
    rwa [show 12 + (i - 12) = i by omega] at h
  by_cases h24 : i < 36
  · have h := chk_24 (i - 24) (by omega)
    rwa [show 24 + (i - 24) = i by omega] at h
  by_cases h36 : i < 48
  · have h := chk_36 (i - 36) (by omega)
    rwa [show 36 + (i - 36) = i by omega] at h
  by_cases h48 : i < 60
  · have h := chk_48 (i - 48) (by omega)
    rwa [show 48 + (i - 48) = i by omega] at h
  by_cases h60 : i < 72
  · have h := chk_60 (i - 60) (by omega)
    rwa [show 60 + (i - 60) = i by omega] at h
  by_cases h72 : i < 84
  · have h := chk_72 (i - 72) (by omega)
    rwa [show 72 + (i - 72) = i by omega] at h
  by_cases h84 : i < 96
  · have h := chk_84 (i - 84) (by omega)
    rwa [show 84 + (i - 84) = i by omega] at h
  by_cases h96 : i < 108
  · have h := chk_96 (i - 96) (by omega)
    rwa [show 96 + (i - 96) = i by omega] at h
  by_cases h108 : i < 120
  · have h := chk_108 (i - 108) (by omega)
    rwa [show 108 + (i - 108) = i by omega] at h
  by_cases h120 : i < 132
  · have h := chk_120 (i - 120) (by omega)
    rwa [show 120 + (i - 120) = i by omega] at h
  by_cases h132 : i < 144
  · have h := chk_132 (i - 132) (by omega)
    rwa [show 132 + (i - 132) = i by omega] at h
  by_cases h144 : i < 155
  · have h := chk_144 (i - 144) (by omega)
    rwa [show 144 + (i - 144) = i by omega] at h
  have hn : mOps i = [] := by
    have h2 : METHS[i]? = none := List.getElem?_eq_none (by show 155 ≤ i; omega)
    simp [mOps, mRow, List.getD, h2]
  simp [okM, hn]
def CODEIX : List Nat := [422, 422, 341, 337, 345, 352, 359, 356, 362, 366, 370, 349, 333, 253, 574, 578, 422, 583, 587, 595, 599, 591, 570, 139, 404, 407, 401, 414, 411, 425, 429, 418, 441, 437, 433, 453, 449, 445, 460, 457, 464, 398, 106, 233, 378, 386, 382, 374, 640, 194, 476, 472, 482, 486, 495, 503, 506, 499, 491, 514, 510, 468, 85, 321, 77, 317, 314, 310, 325, 394, 329, 520, 524, 529, 533, 537, 542, 546, 550, 554, 558, 562, 566, 603, 607, 611, 615, 620, 627, 624, 632, 636, 644, 652, 657, 661, 665, 648, 670, 780, 773, 823, 811, 769, 777, 784, 796, 792, 803, 807, 800, 788, 815, 819, 847, 843, 839, 835, 855, 851, 863, 859, 867, 831, 879, 895, 827, 871, 875, 883, 887, 891, 899, 911, 907, 903, 915, 927, 923, 919, 931, 935, 939, 943, 947, 957, 954, 951, 965, 969, 978, 983, 990, 973]
set_option maxRecDepth 100000 in
theorem cix : ∀ i, i < 154 → lw_tbl[(CODEIX.getD i 0)]? = some (Cond.code (mName i) (mCode i) (mMax i) (mRet i)) := by
  intro i hi
  match i, hi with
  | 0, _ => rfl
  | 1, _ => rfl
  | 2, _ => rfl
  | 3, _ => rfl
  | 4, _ => rfl
  | 5, _ => rfl
  | 6, _ => rfl
  | 7, _ => rfl
  | 8, _ => rfl
  | 9, _ => rfl
  | 10, _ => rfl
  | 11, _ => rfl
  | 12, _ => rfl
  | 13, _ => rfl
  | 14, _ => rfl
  | 15, _ => rfl
  | 16, _ => rfl
  | 17, _ => rfl
  | 18, _ => rfl
  | 19, _ => rfl
  | 20, _ => rfl
  | 21, _ => rfl
  | 22, _ => rfl
  | 23, _ => rfl
  | 24, _ => rfl
  | 25, _ => rfl
  | 26, _ => rfl
  | 27, _ => rfl
  | 28, _ => rfl
  | 29, _ => rfl
  | 30, _ => rfl
  | 31, _ => rfl
  | 32, _ => rfl
  | 33, _ => rfl
  | 34, _ => rfl
  | 35, _ => rfl
  | 36, _ => rfl
  | 37, _ => rfl
  | 38, _ => rfl
  | 39, _ => rfl
  | 40, _ => rfl
  | 41, _ => rfl
  | 42, _ => rfl
  | 43, _ => rfl
  | 44, _ => rfl
  | 45, _ => rfl
  | 46, _ => rfl
  | 47, _ => rfl
  | 48, _ => rfl
  | 49, _ => rfl
  | 50, _ => rfl
  | 51, _ => rfl
  | 52, _ => rfl
  | 53, _ => rfl
  | 54, _ => rfl
  | 55, _ => rfl
  | 56, _ => rfl
  | 57, _ => rfl
  | 58, _ => rfl
  | 59, _ => rfl
  | 60, _ => rfl
  | 61, _ => rfl
  | 62, _ => rfl
  | 63, _ => rfl
  | 64, _ => rfl
  | 65, _ => rfl
  | 66, _ => rfl
  | 67, _ => rfl
  | 68, _ => rfl
  | 69, _ => rfl
  | 70, _ => rfl
  | 71, _ => rfl
  | 72, _ => rfl
  | 73, _ => rfl
  | 74, _ => rfl
  | 75, _ => rfl
  | 76, _ => rfl
  | 77, _ => rfl
  | 78, _ => rfl
  | 79, _ => rfl
  | 80, _ => rfl
  | 81, _ => rfl
  | 82, _ => rfl
  | 83, _ => rfl
  | 84, _ => rfl
  | 85, _ => rfl
  | 86, _ => rfl
  | 87, _ => rfl
  | 88, _ => rfl
  | 89, _ => rfl
  | 90, _ => rfl
  | 91, _ => rfl
  | 92, _ => rfl
  | 93, _ => rfl
  | 94, _ => rfl
  | 95, _ => rfl
  | 96, _ => rfl
  | 97, _ => rfl
  | 98, _ => rfl
  | 99, _ => rfl
  | 100, _ => rfl
  | 101, _ => rfl
  | 102, _ => rfl
  | 103, _ => rfl
  | 104, _ => rfl
  | 105, _ => rfl
  | 106, _ => rfl
  | 107, _ => rfl
  | 108, _ => rfl
  | 109, _ => rfl
  | 110, _ => rfl
  | 111, _ => rfl
  | 112, _ => rfl
  | 113, _ => rfl
  | 114, _ => rfl
  | 115, _ => rfl
  | 116, _ => rfl
  | 117, _ => rfl
  | 118, _ => rfl
  | 119, _ => rfl
  | 120, _ => rfl
  | 121, _ => rfl
  | 122, _ => rfl
  | 123, _ => rfl
  | 124, _ => rfl
  | 125, _ => rfl
  | 126, _ => rfl
  | 127, _ => rfl
  | 128, _ => rfl
  | 129, _ => rfl
  | 130, _ => rfl
  | 131, _ => rfl
  | 132, _ => rfl
  | 133, _ => rfl
  | 134, _ => rfl
  | 135, _ => rfl
  | 136, _ => rfl
  | 137, _ => rfl
  | 138, _ => rfl
  | 139, _ => rfl
  | 140, _ => rfl
  | 141, _ => rfl
  | 142, _ => rfl
  | 143, _ => rfl
  | 144, _ => rfl
  | 145, _ => rfl
  | 146, _ => rfl
  | 147, _ => rfl
  | 148, _ => rfl
  | 149, _ => rfl
  | 150, _ => rfl
  | 151, _ => rfl
  | 152, _ => rfl
  | 153, _ => rfl
  | j + 154, h => exact absurd h (by omega)
theorem ck {i pc : Nat} {q : MOp} (h : fetch i pc = some q) : okOp i pc q = true := by
  obtain ⟨z, hz, rfl⟩ := Option.map_eq_some_iff.mp h
  have h1 := List.mem_of_find?_eq_some hz
  have h2 := List.find?_some hz
  have h3 := List.all_eq_true.mp (chk_at i) z h1
  have h4 : z.1 = pc := by simpa using h2
  rw [← h4]
  exact h3
theorem ck_dec {i pc : Nat} {ins : Instr} {nx a b : Nat} {ws : List Nat} {cv : Value} (h : fetch i pc = some (ins, nx, a, b, ws, cv)) (hs : isSw ins = false) : decode (mCode i) pc = .ok (ins, ilen ins) ∧ nx = pc + ilen ins ∧ okAt i pc ins a b ws cv = true := by
  have h1 := ck h
  simp only [okOp, Bool.and_eq_true, decide_eq_true_eq, hs, Bool.false_or] at h1
  obtain ⟨⟨h1, h2⟩, h3⟩ := h1
  subst h2
  rw [Nat.add_sub_cancel_left] at h1
  exact ⟨h1, rfl, h3⟩
theorem ck_sw {i pc : Nat} {ins : Instr} {nx a b : Nat} {ws : List Nat} {cv : Value} (h : fetch i pc = some (ins, nx, a, b, ws, cv)) : decode (mCode i) pc = .ok (ins, nx - pc) := by
  have h1 := ck h
  simp only [okOp, Bool.and_eq_true, decide_eq_true_eq] at h1
  exact h1.1.1
theorem code_mem : ∀ i, i < 154 → Cond.code (mName i) (mCode i) (mMax i) (mRet i) ∈ GW := by
  intro i hi
  exact List.mem_filter.mpr ⟨List.mem_of_getElem? (cix i hi), rfl⟩
theorem gw_good : ∀ w ∈ GW, (w.onTables && w.keeps) = true ∨ ∃ ty, w = .arrayClass ty := fun w h => good_of_word (List.mem_filter.mp h).2
theorem gw_in {i j : Nat} (hj : j < 154) : GoodIn (Cond.code (mName i) (mCode i) (mMax i) (mRet i) :: GW) (Cond.code (mName j) (mCode j) (mMax j) (mRet j) :: GW) := by
  intro w hw
  rcases List.mem_cons.mp hw with rfl | h
  · exact ⟨List.mem_cons_of_mem _ (code_mem j hj), Or.inl rfl⟩
  · exact ⟨List.mem_cons_of_mem _ h, gw_good w h⟩
set_option maxRecDepth 100000 in
theorem inX0 : ∀ w ∈ u_ws RX0 TX0 6, w ∈ GW := by
  have h : (u_ws RX0 TX0 6).all (fun w => decide (w ∈ lw_tbl) && goodWord w) = true := by decide +kernel
  intro w hw
  have h1 := List.all_eq_true.mp h w hw
  simp only [Bool.and_eq_true, decide_eq_true_eq] at h1
  exact List.mem_filter.mpr h1
set_option maxRecDepth 100000 in
theorem inX1 : ∀ w ∈ u_ws RX1 TX1 6, w ∈ GW := by
  have h : (u_ws RX1 TX1 6).all (fun w => decide (w ∈ lw_tbl) && goodWord w) = true := by decide +kernel
  intro w hw
  have h1 := List.all_eq_true.mp h w hw
  simp only [Bool.and_eq_true, decide_eq_true_eq] at h1
  exact List.mem_filter.mpr h1
set_option maxRecDepth 100000 in
theorem inX2 : ∀ w ∈ u_ws RX2 TX2 12, w ∈ GW := by
  have h : (u_ws RX2 TX2 12).all (fun w => decide (w ∈ lw_tbl) && goodWord w) = true := by decide +kernel
  intro w hw
  have h1 := List.all_eq_true.mp h w hw
  simp only [Bool.and_eq_true, decide_eq_true_eq] at h1
  exact List.mem_filter.mpr h1
set_option maxRecDepth 100000 in
theorem inX3 : ∀ w ∈ u_ws RX3 TX3 3, w ∈ GW := by
  have h : (u_ws RX3 TX3 3).all (fun w => decide (w ∈ lw_tbl) && goodWord w) = true := by decide +kernel
  intro w hw
  have h1 := List.all_eq_true.mp h w hw
  simp only [Bool.and_eq_true, decide_eq_true_eq] at h1
  exact List.mem_filter.mpr h1
set_option maxRecDepth 100000 in
theorem inX4 : ∀ w ∈ u_ws RX4 TX4 9, w ∈ GW := by
  have h : (u_ws RX4 TX4 9).all (fun w => decide (w ∈ lw_tbl) && goodWord w) = true := by decide +kernel
  intro w hw
  have h1 := List.all_eq_true.mp h w hw
  simp only [Bool.and_eq_true, decide_eq_true_eq] at h1
  exact List.mem_filter.mpr h1
set_option maxRecDepth 100000 in
theorem inX5 : ∀ w ∈ u_ws RX5 TX5 5, w ∈ GW := by
  have h : (u_ws RX5 TX5 5).all (fun w => decide (w ∈ lw_tbl) && goodWord w) = true := by decide +kernel
  intro w hw
  have h1 := List.all_eq_true.mp h w hw
  simp only [Bool.and_eq_true, decide_eq_true_eq] at h1
  exact List.mem_filter.mpr h1
set_option maxRecDepth 100000 in
theorem inX6 : ∀ w ∈ u_ws RX6 TX6 4, w ∈ GW := by
  have h : (u_ws RX6 TX6 4).all (fun w => decide (w ∈ lw_tbl) && goodWord w) = true := by decide +kernel
  intro w hw
  have h1 := List.all_eq_true.mp h w hw
  simp only [Bool.and_eq_true, decide_eq_true_eq] at h1
  exact List.mem_filter.mpr h1
set_option maxRecDepth 100000 in
theorem inX7 : ∀ w ∈ u_ws RX7 TX7 9, w ∈ GW := by
  have h : (u_ws RX7 TX7 9).all (fun w => decide (w ∈ lw_tbl) && goodWord w) = true := by decide +kernel
  intro w hw
  have h1 := List.all_eq_true.mp h w hw
  simp only [Bool.and_eq_true, decide_eq_true_eq] at h1
  exact List.mem_filter.mpr h1
set_option maxRecDepth 100000 in
theorem inX8 : ∀ w ∈ u_ws RX8 TX8 31, w ∈ GW := by
  have h : (u_ws RX8 TX8 31).all (fun w => decide (w ∈ lw_tbl) && goodWord w) = true := by decide +kernel
  intro w hw
  have h1 := List.all_eq_true.mp h w hw
  simp only [Bool.and_eq_true, decide_eq_true_eq] at h1
  exact List.mem_filter.mpr h1
