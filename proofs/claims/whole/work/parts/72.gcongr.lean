/-! the picture hangs on the program alone -/
def PEq (n : Nat) (op rb op' rb' : FI) : Prop := ∀ i, 0 ≤ i → i < (n : Int) → op i = op' i ∧ rb i = rb' i
def CEq (co co' : FI) : Prop := ∀ c, 0 ≤ c → c < (8 : Int) → co c = co' c
theorem lm_congr {op rb op' rb' : FI} {n : Nat} (h : PEq n op rb op' rb') : ∀ t, t ≤ n → lm op rb t = lm op' rb' t := by
  intro t
  induction t with
  | zero => intro _; rfl
  | succ t ih =>
    intro ht
    have e := h t (by omega) (by omega)
    unfold lm
    rw [ih (by omega), e.1, e.2]
theorem ldr_congr {op rb op' rb' : FI} {n : Nat} (h : PEq n op rb op' rb') : ldr op rb n = ldr op' rb' n := by
  unfold ldr
  rw [lm_congr h n (Nat.le_refl _)]
theorem gnb_congr {op rb op' rb' : FI} {n : Nat} (h : PEq n op rb op' rb') : gnb op rb n = gnb op' rb' n := by
  unfold gnb
  rw [ldr_congr h]
theorem gblk_congr {op rb op' rb' : FI} {n : Nat} (h : PEq n op rb op' rb') : gblk op rb n = gblk op' rb' n := by
  funext b
  unfold gblk
  rw [ldr_congr h]
theorem gst_congr {op rb op' rb' : FI} {n : Nat} (h : PEq n op rb op' rb') : gst op rb n = gst op' rb' n := by
  funext b
  unfold gst
  rw [ldr_congr h]
theorem gla_congr {op rb op' rb' : FI} {n : Nat} (h : PEq n op rb op' rb') : gla op rb n = gla op' rb' n := by
  funext b
  unfold gla
  rw [ldr_congr h]
theorem gFT_congr {op rb op' rb' : FI} {n : Nat} (h : PEq n op rb op' rb') {b : Int} (h0 : 0 ≤ b) (h1 : b < gnb op rb n) : gF op rb n b = gF op' rb' n b ∧ gT op rb n b = gT op' rb' n b := by
  have hl := gla_in h0 h1
  have e := h _ hl.1 hl.2
  unfold gF gT
  rw [← gla_congr h, ← gblk_congr h, ← e.1, ← e.2]
  exact ⟨rfl, rfl⟩
theorem gS_congr {op rb op' rb' : FI} {n : Nat} (h : PEq n op rb op' rb') {b : Int} (h0 : 0 ≤ b) (h1 : b < gnb op rb n) : gS op rb n b = gS op' rb' n b ∧ gE op rb n b = gE op' rb' n b := by
  have hl := gla_in h0 h1
  have e := h _ hl.1 hl.2
  obtain ⟨f1, f2⟩ := gFT_congr h h0 h1
  unfold gS gE
  rw [← gla_congr h, ← e.1, ← f1, ← f2]
  exact ⟨rfl, rfl⟩
theorem gP_congr {op rb op' rb' : FI} {n : Nat} (h : PEq n op rb op' rb') : gP op rb n = gP op' rb' n := by
  funext q
  unfold gP
  rw [← gnb_congr h]
  exact pmF_congr (fun t ht => gFT_congr h (by omega) (by omega)) q
theorem gJ_congr {op rb op' rb' : FI} {n : Nat} (h : PEq n op rb op' rb') : gJ op rb n = gJ op' rb' n := by
  funext q
  unfold gJ
  rw [← gnb_congr h, ← gP_congr h]
  refine joF_congr q (fun t ht => ?_)
  obtain ⟨s1, s2⟩ := gS_congr h (b := (t : Int)) (by omega) (by omega)
  unfold jnB
  rw [s1, s2]
theorem gH_congr {op rb op' rb' : FI} {n : Nat} (h : PEq n op rb op' rb') : gH op rb n = gH op' rb' n := by
  funext b
  unfold gH
  rw [← gnb_congr h, ← gJ_congr h]
theorem gR_congr {op rb op' rb' : FI} {n : Nat} (h : PEq n op rb op' rb') : gR op rb n = gR op' rb' n := by
  unfold gR
  rw [← gnb_congr h]
  exact rcR_congr (fun t ht => (gS_congr h (by omega) (by omega)).1) _ _
theorem gC_congr {co co' op rb op' rb' : FI} {n : Nat} (h : PEq n op rb op' rb') (hop : OPok op rb n) (hc : CEq co co') (b : Int) : gC co op rb n b = gC co' op' rb' n b := by
  unfold gC
  rw [← gblk_congr h]
  refine bcF_congr (fun t ht => ⟨?_, rfl⟩) b
  have e := h t (by omega) (by omega)
  have o := hop t (by omega) (by omega)
  show co (op t) = co' (op' t)
  rw [← e.1]
  exact hc _ o.1 (by omega)
theorem gK_congr {co co' op rb op' rb' : FI} {n : Nat} (h : PEq n op rb op' rb') (hop : OPok op rb n) (hc : CEq co co') (b : Int) : gK co op rb n b = gK co' op' rb' n b := by
  unfold gK
  rw [← gnb_congr h, ← gH_congr h]
  exact ccF_congr (fun t ht => ⟨rfl, gC_congr h hop hc t⟩) b
theorem gG_congr {co co' op rb op' rb' : FI} {n : Nat} (h : PEq n op rb op' rb') (hop : OPok op rb n) (hc : CEq co co') : gG co op rb n = gG co' op' rb' n := by
  unfold gG
  rw [← gnb_congr h, wRg_congr (C := gC co op rb n) (F := gF op rb n) (T := gT op rb n) (fun b b0 b1 => ⟨gC_congr h hop hc b, (gFT_congr h b0 b1).1, (gFT_congr h b0 b1).2⟩)]
theorem gL_congr {co co' op rb op' rb' : FI} {n : Nat} (h : PEq n op rb op' rb') (hop : OPok op rb n) (hc : CEq co co') : gL co op rb n = gL co' op' rb' n := by
  unfold gL
  rw [← gnb_congr h, wRl_congr (C := gC co op rb n) (F := gF op rb n) (T := gT op rb n) (E := gE op rb n) (fun b b0 b1 => ⟨gC_congr h hop hc b, (gFT_congr h b0 b1).1, (gFT_congr h b0 b1).2, (gS_congr h b0 b1).2⟩)]
theorem ent_congr {co co' op rb op' rb' : FI} {n : Nat} (h : PEq n op rb op' rb') (hop : OPok op rb n) (hc : CEq co co') (m i : Int) : ent co op rb n m i = ent co' op' rb' n m i := by
  unfold ent
  split
  · rfl
  · split
    · unfold gBE
      rw [← gnb_congr h, ← gst_congr h]
      exact beF_congr (fun t ht => ⟨rfl, gC_congr h hop hc t⟩) i
    · unfold gCE
      rw [← gnb_congr h, ← gst_congr h, ← gH_congr h]
      refine beF_congr (fun t ht => ⟨rfl, ?_⟩) i
      show (if _ then gK co op rb n _ else 0) = (if _ then gK co' op' rb' n _ else 0)
      rw [gK_congr h hop hc]
theorem RN_congr {co co' op ra rb op' ra' rb' : FI} {n : Nat} (h : PEq n op rb op' rb') (hop : OPok op rb n) (hc : CEq co co') (ha : ∀ i, 0 ≤ i → i < (n : Int) → ra i = ra' i) (m bu : Int) : RN co op ra rb n m bu = RN co' op' ra' rb' n m bu := by
  unfold RN
  refine rn_congr (fun i i0 i1 => ⟨(h i i0 i1).1, ha i i0 i1, (h i i0 i1).2, ?_, ent_congr h hop hc m i⟩) 3000 0 0 false bu 0 (fun _ => 0)
  have o := hop i i0 i1
  rw [← (h i i0 i1).1]
  exact hc _ o.1 (by omega)
theorem mxs_congr {f f' : FI} {n : Nat} {h : Int64} (e : ∀ j, 0 ≤ j → j < (n : Int) → f j = f' j) : mxs f n h = mxs f' n h :=
  mxU_congr n 0 h (fun j x j0 j1 => by rw [e j j0 (by omega)])
theorem DGf_congr {co co' op rb op' rb' : FI} {n : Nat} {x : Int64} (h : PEq n op rb op' rb') (hop : OPok op rb n) (hc : CEq co co') : DGf x co op rb n = DGf x co' op' rb' n := by
  unfold DGf MF MS
  rw [← gnb_congr h, ← gR_congr h, ← gG_congr h hop hc, ← gL_congr h hop hc, mxs_congr (f := co) (f' := co') (n := 8) hc, mxs_congr (f := op) (f' := op') (n := n) (fun j j0 j1 => (h j j0 j1).1)]
  have e : ∀ y, mxU (MB (gS op rb n) (gC co op rb n) (gH op rb n) (fun b => gK co op rb n (gH op rb n b))) (gnb op rb n) 0 y = mxU (MB (gS op' rb' n) (gC co' op' rb' n) (gH op' rb' n) (fun b => gK co' op' rb' n (gH op' rb' n b))) (gnb op rb n) 0 y := fun y =>
    mxU_congr _ 0 y (fun j z j0 j1 => by
      unfold MB
      dsimp only
      rw [(gS_congr h j0 (by omega)).1, gC_congr h hop hc, gH_congr h, gK_congr h hop hc])
  rw [e]
