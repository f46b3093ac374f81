/-! the class: Prices.update, analyse -/
def gC (co op rb : FI) (n : Nat) (b : Int) : Int := bcF (fun i => co (op i)) (gblk op rb n) n b
def gK (co op rb : FI) (n : Nat) (h : Int) : Int := ccF (gH op rb n) (gC co op rb n) (gnb op rb n) h
def gG (co op rb : FI) (n : Nat) : Int := if gnb op rb n = 0 then 0 else wR (gs (gfr (gC co op rb n) (gF op rb n) (gT op rb n) (gnb op rb n))) (gsB (gfr (gC co op rb n) (gF op rb n) (gT op rb n) (gnb op rb n))) (gnb op rb n) (gnb op rb n) (fun _ => -1) true 0
def gL (co op rb : FI) (n : Nat) : Int := if gnb op rb n = 0 then 0 else wR (ls (lfr (gC co op rb n) (gF op rb n) (gT op rb n) (gE op rb n) (gnb op rb n))) (lsB (lfr (gC co op rb n) (gF op rb n) (gT op rb n) (gE op rb n) (gnb op rb n))) (gnb op rb n) (gnb op rb n) (fun _ => -1) true 0
def gBE (co op rb : FI) (n : Nat) : FI := beF (gst op rb n) (gC co op rb n) (gnb op rb n)
def gCE (co op rb : FI) (n : Nat) : FI := beF (gst op rb n) (fun b => if gH op rb n b = b then gK co op rb n (gH op rb n b) else 0) (gnb op rb n)
theorem bcF_congr {ic bl ic' bl' : FI} {n : Nat} (h : ∀ t : Nat, t < n → ic t = ic' t ∧ bl t = bl' t) (b : Int) : bcF ic bl n b = bcF ic' bl' n b := by
  induction n with
  | zero => rfl
  | succ t ih =>
    have h1 := h t (by omega)
    have h2 := ih (fun s hs => h s (by omega))
    simp only [bcF, h1.1, h1.2, h2]
theorem ccF_congr {H C H' C' : FI} {n : Nat} (h : ∀ t : Nat, t < n → H t = H' t ∧ C t = C' t) (b : Int) : ccF H C n b = ccF H' C' n b := by
  induction n with
  | zero => rfl
  | succ t ih =>
    have h1 := h t (by omega)
    have h2 := ih (fun s hs => h s (by omega))
    simp only [ccF, h1.1, h1.2, h2]
theorem beF_congr {H C H' C' : FI} {n : Nat} (h : ∀ t : Nat, t < n → H t = H' t ∧ C t = C' t) (b : Int) : beF H C n b = beF H' C' n b := by
  induction n with
  | zero => rfl
  | succ t ih =>
    have h1 := h t (by omega)
    have h2 := ih (fun s hs => h s (by omega))
    simp only [beF, h1.1, h1.2, h2]
theorem wI_congr {st st' : FI → Int → FI} {nb : Nat} (h : ∀ (W : FI) (t : Nat), t < nb → st W t = st' W t) : ∀ (k : Nat) (W : FI), k ≤ nb → wI st k W = wI st' k W := by
  intro k
  induction k with
  | zero => intro W _; rfl
  | succ k ih => intro W hk; simp only [wI]; rw [h W k (by omega), ih _ (by omega)]
theorem wC_congr {st st' : FI → Int → FI} {sb sb' : FI → Int → Bool} {nb : Nat} (h : ∀ (W : FI) (t : Nat), t < nb → st W t = st' W t ∧ sb W t = sb' W t) : ∀ (k : Nat) (W : FI) (c : Bool), k ≤ nb → wC st sb k W c = wC st' sb' k W c := by
  intro k
  induction k with
  | zero => intro W c _; rfl
  | succ k ih => intro W c hk; simp only [wC]; rw [(h W k (by omega)).1, (h W k (by omega)).2, ih _ _ (by omega)]
theorem wR_congr {st st' : FI → Int → FI} {sb sb' : FI → Int → Bool} {nb : Nat} (h : ∀ (W : FI) (t : Nat), t < nb → st W t = st' W t ∧ sb W t = sb' W t) : ∀ (d : Nat) (W : FI) (c : Bool), wR st sb nb d W c = wR st' sb' nb d W c := by
  intro d
  induction d with
  | zero => intro W c; rfl
  | succ d ih => intro W c; simp only [wR]; rw [wI_congr (fun W t ht => (h W t ht).1) nb W (Nat.le_refl _), wC_congr h nb W false (Nat.le_refl _), ih]
theorem gs_congr {f f' : FI → FI} {W : FI} {k : Int} (h : f W k = f' W k) : gs f W k = gs f' W k ∧ gsB f W k = gsB f' W k := by
  have e : gsB f W k = gsB f' W k := by unfold gsB; rw [h]
  exact ⟨by unfold gs; rw [e, h], e⟩
theorem ls_congr {f f' : FI → FI} {W : FI} {k : Int} (h : f W k = f' W k) : ls f W k = ls f' W k ∧ lsB f W k = lsB f' W k := by
  have e : lsB f W k = lsB f' W k := by unfold lsB; rw [h]
  exact ⟨by unfold ls; rw [e, h], e⟩
theorem gfr_at {C F T C' F' T' : FI} {nb : Nat} {W : FI} {b : Int} (h1 : C b = C' b) (h2 : F b = F' b) (h3 : T b = T' b) : gfr C F T nb W b = gfr C' F' T' nb W b := by
  unfold gfr gf1
  rw [h1, h2, h3]
theorem lfr_at {C F T C' F' T' : FI} {E E' : Int → Bool} {nb : Nat} {W : FI} {b : Int} (h1 : C b = C' b) (h2 : F b = F' b) (h3 : T b = T' b) (h4 : E b = E' b) : lfr C F T E nb W b = lfr C' F' T' E' nb W b := by
  unfold lfr
  rw [h1, h2, h3]
  simp only [h4]
theorem wRg_congr {C F T C' F' T' : FI} {nb : Nat} (h : ∀ b, 0 ≤ b → b < (nb : Int) → C b = C' b ∧ F b = F' b ∧ T b = T' b) (d : Nat) (W : FI) (c : Bool) : wR (gs (gfr C F T nb)) (gsB (gfr C F T nb)) nb d W c = wR (gs (gfr C' F' T' nb)) (gsB (gfr C' F' T' nb)) nb d W c :=
  wR_congr (fun W t ht => gs_congr (gfr_at (h t (by omega) (by omega)).1 (h t (by omega) (by omega)).2.1 (h t (by omega) (by omega)).2.2)) d W c
theorem wRl_congr {C F T C' F' T' : FI} {E E' : Int → Bool} {nb : Nat} (h : ∀ b, 0 ≤ b → b < (nb : Int) → C b = C' b ∧ F b = F' b ∧ T b = T' b ∧ E b = E' b) (d : Nat) (W : FI) (c : Bool) : wR (ls (lfr C F T E nb)) (lsB (lfr C F T E nb)) nb d W c = wR (ls (lfr C' F' T' E' nb)) (lsB (lfr C' F' T' E' nb)) nb d W c :=
  wR_congr (fun W t ht => ls_congr (lfr_at (h t (by omega) (by omega)).1 (h t (by omega) (by omega)).2.1 (h t (by omega) (by omega)).2.2.1 (h t (by omega) (by omega)).2.2.2)) d W c
def PP (co op rb : FI) (n : Nat) (Z : ZW) : Prop := (∀ i, 0 ≤ i → i < (n : Int) → Z 27 i = co (op i) ∧ Z 29 i = gBE co op rb n i ∧ Z 30 i = gCE co op rb n i) ∧ (∀ b, 0 ≤ b → b < (gnb op rb n : Int) → Z 25 b = gC co op rb n b ∧ Z 26 b = gK co op rb n (gH op rb n b)) ∧ Z 24 0 = gG co op rb n ∧ Z 24 1 = gL co op rb n
/-- what is owed of the control flow itself: heads lie among the blocks and are their own; block costs are small -/
def GOK (co op rb : FI) (n : Nat) : Prop := ∀ b, 0 ≤ b → b < (gnb op rb n : Int) → (0 ≤ gH op rb n b ∧ gH op rb n b < gnb op rb n) ∧ gH op rb n (gH op rb n b) = gH op rb n b ∧ 1 ≤ gC co op rb n b ∧ gC co op rb n b ≤ 216
set_option maxHeartbeats 4000000 in
theorem s_pupdate {Z : ZW} {J : Int64} {n : Nat} {co op rb : FI} (h5 : Z 5 = op) (h8 : Z 8 = co) (hn : Z 4 0 = n) (hn2 : n ≤ 24) (hop : OPok op rb n) (hG : GP op rb n Z) (hK : GOK co op rb n) : Mz 61 [.ref 24, .ref 3, .ref 13] Z J (fun r Z' J' => r = none ∧ J' = J ∧ PP co op rb n Z' ∧ ∀ (k : Nat) (j : Int), (k < 24 ∨ k = 28 ∨ 31 < k) → Z' k j = Z k j) := by
  unfold Mz
  obtain ⟨g1, g2, g3, g4⟩ := hG
  have hg := gnb_le op rb n
  obtain ⟨nb, enb⟩ : ∃ nb, nb = gnb op rb n := ⟨_, rfl⟩
  rw [← enb] at g1 g4 hg
  refine z_aload_n rfl rfl ?_
  refine z_aload_n rfl rfl ?_
  refine z_aload_n rfl rfl ?_
  refine z_callV2g rfl rfl rfl rfl rfl rfl (s_sumI hn hn2 g1 (by omega) (fun i i0 i1 => by rw [h5]; exact ⟨(hop i i0 i1).1, (hop i i0 i1).2.1⟩) (fun i i0 i1 => by rw [g3 i i0 i1, enb]; exact gblk_in i0 i1)) (fun r3 Z3 J3 q3 => ?_)
  obtain ⟨rfl, rfl, a1, a2, a3⟩ := q3
  show OkZ none 61 6 _ [] _ _ _
  have b25 : ∀ b, 0 ≤ b → b < (nb : Int) → Z3 25 b = gC co op rb n b := by intro b b0 b1; rw [a2 b b0 b1]; exact bcF_congr (fun t ht => ⟨by rw [h5, h8], g3 t (by omega) (by omega)⟩) b
  have b27 : ∀ i, 0 ≤ i → i < (n : Int) → Z3 27 i = co (op i) := by intro i i0 i1; rw [a1 i i0 i1, h5, h8]
  have b14 : Z3 14 0 = nb := by rw [a3 14 0 (by decide) (by decide)]; exact g1
  have b20 : ∀ b, 0 ≤ b → b < (nb : Int) → Z3 20 b = gH op rb n b := by intro b b0 b1; rw [a3 20 _ (by decide) (by decide)]; exact (g4 b b0 b1).2.2.2.2.1
  refine z_aload_n rfl rfl ?_
  refine z_aload_n rfl rfl ?_
  refine z_callV1g rfl rfl rfl rfl rfl rfl (s_sumC b14 (by omega) (fun b b0 b1 => by rw [b20 b b0 b1, enb]; exact (hK b b0 (by rw [← enb]; exact b1)).1) (fun b b0 b1 => by have q := hK b b0 (by rw [← enb]; exact b1); rw [b20 b b0 b1, b20 _ q.1.1 (by rw [enb]; exact q.1.2)]; exact q.2.1)) (fun r8 Z8 J8 q8 => ?_)
  obtain ⟨rfl, rfl, c1, c2⟩ := q8
  show OkZ none 61 11 _ [] _ _ _
  have c26 : ∀ b, 0 ≤ b → b < (nb : Int) → Z8 26 b = gK co op rb n (gH op rb n b) := by intro b b0 b1; rw [c1 b b0 b1, b20 b b0 b1, gK, ← enb]; exact ccF_congr (fun t ht => ⟨b20 t (by omega) (by omega), b25 t (by omega) (by omega)⟩) _
  have c4 : Z8 4 0 = n := by rw [c2 4 0 (by decide), a3 4 0 (by decide) (by decide)]; exact hn
  have c14 : Z8 14 0 = nb := by rw [c2 14 0 (by decide)]; exact b14
  have c16 : ∀ b, 0 ≤ b → b < (nb : Int) → Z8 16 b = gst op rb n b := by intro b b0 b1; rw [c2 16 _ (by decide), a3 16 _ (by decide) (by decide)]; exact (g4 b b0 b1).1
  have c20 : ∀ b, 0 ≤ b → b < (nb : Int) → Z8 20 b = gH op rb n b := by intro b b0 b1; rw [c2 20 _ (by decide)]; exact b20 b b0 b1
  have c25 : ∀ b, 0 ≤ b → b < (nb : Int) → Z8 25 b = gC co op rb n b := by intro b b0 b1; rw [c2 25 _ (by decide)]; exact b25 b b0 b1
  refine z_aload_n rfl rfl ?_
  refine z_aload_n rfl rfl ?_
  refine z_aload_n rfl rfl ?_
  refine z_callV2g rfl rfl rfl rfl rfl rfl (s_mark c4 hn2 c14 (by omega) (fun b b0 b1 => by have q := gst_in (op := op) (rb := rb) (n := n) b0 (by rw [← enb]; exact b1); have q2 := hK b b0 (by rw [← enb]; exact b1); rw [c16 b b0 b1, c20 b b0 b1]; unfold RG; omega)) (fun r14 Z14 J14 q14 => ?_)
  obtain ⟨rfl, rfl, d1, d2⟩ := q14
  show OkZ none 61 17 _ [] _ _ _
  have d29 : ∀ i, 0 ≤ i → i < (n : Int) → Z14 29 i = gBE co op rb n i ∧ Z14 30 i = gCE co op rb n i := by intro i i0 i1; rw [(d1 i i0 i1).1, (d1 i i0 i1).2, gBE, gCE, ← enb]; exact ⟨beF_congr (fun t ht => ⟨c16 t (by omega) (by omega), c25 t (by omega) (by omega)⟩) i, beF_congr (fun t ht => ⟨c16 t (by omega) (by omega), by rw [c20 t (by omega) (by omega), c26 t (by omega) (by omega)]⟩) i⟩
  have e14 : Z14 14 0 = nb := by rw [d2 14 0 (by decide) (by decide)]; exact c14
  have eF : ∀ b, 0 ≤ b → b < (nb : Int) → Z14 25 b = gC co op rb n b ∧ Z14 17 b = gF op rb n b ∧ Z14 18 b = gT op rb n b ∧ enB Z14 b = gE op rb n b := by intro b b0 b1; refine ⟨by rw [d2 25 _ (by decide) (by decide)]; exact c25 b b0 b1, ?_, ?_, by rw [enB_congr (d2 14 (8 + b) (by decide) (by decide)), enB_congr (c2 14 (8 + b) (by decide)), enB_congr (a3 14 (8 + b) (by decide) (by decide))]; exact (g4 b b0 b1).2.2.2.2.2⟩ <;> rw [d2 _ _ (by decide) (by decide), c2 _ _ (by decide), a3 _ _ (by decide) (by decide)] <;> simp only [g4 b b0 b1]
  have eFT : FTok (Z14 17) (Z14 18) (Z14 25) nb := by
    intro b b0 b1
    have q := eF b b0 b1
    have b2 : b < (gnb op rb n : Int) := by rw [← enb]; exact b1
    have q1 := gF_in (op := op) (rb := rb) (n := n) b0 b2
    have q2 := gT_in hop b0 b2
    have q3 := hK b b0 b2
    rw [q.1, q.2.1, q.2.2.1, enb]
    exact ⟨q1, q2, q3.2.2⟩
  refine z_aload_n rfl rfl ?_
  refine z_aload_n rfl rfl ?_
  refine z_aload_n rfl rfl ?_
  refine z_callV1g rfl rfl rfl rfl rfl rfl (s_gway e14 (by omega) eFT) (fun r20 Z20 J20 q20 => ?_)
  obtain ⟨rfl, rfl, f1⟩ := q20
  have vG : (if nb = 0 then 0 else wR (gs (gfr (Z14 25) (Z14 17) (Z14 18) nb)) (gsB (gfr (Z14 25) (Z14 17) (Z14 18) nb)) nb nb (fun _ => -1) true 0) = gG co op rb n := by rw [gG, ← enb, wRg_congr (fun b b0 b1 => ⟨(eF b b0 b1).1, (eF b b0 b1).2.1, (eF b b0 b1).2.2.1⟩)]
  rw [vG]
  show OkZ none 61 23 _ (.int (I (gG co op rb n)) :: _) _ _ _
  refine z_putI (bi := 0) rfl rfl rfl rfl rfl ?_
  refine z_aload_n rfl rfl ?_
  refine z_aload_n rfl rfl ?_
  refine z_aload_n rfl rfl ?_
  obtain ⟨Z1, hZ1⟩ : ∃ Z1, Z1 = up Z20 24 0 (gG co op rb n) := ⟨_, rfl⟩
  rw [← hZ1]
  have u1 : ∀ (k : Nat) (j : Int), k ≠ 24 → k ≠ 31 → Z1 k j = Z14 k j := by intro k j k1 k2; rw [hZ1]; simp only [up]; rw [if_neg (fun z => k1 z.1)]; exact f1 k j k2
  refine z_callV1g rfl rfl rfl rfl rfl rfl (s_lway (by rw [u1 14 0 (by decide) (by decide)]; exact e14) (by omega) (by rw [show Z1 17 = Z14 17 from by funext j; exact u1 17 j (by decide) (by decide), show Z1 18 = Z14 18 from by funext j; exact u1 18 j (by decide) (by decide), show Z1 25 = Z14 25 from by funext j; exact u1 25 j (by decide) (by decide)]; exact eFT)) (fun r29 Z29 J29 q29 => ?_)
  obtain ⟨rfl, rfl, k1⟩ := q29
  have vL : (if nb = 0 then 0 else wR (ls (lfr (Z1 25) (Z1 17) (Z1 18) (enB Z1) nb)) (lsB (lfr (Z1 25) (Z1 17) (Z1 18) (enB Z1) nb)) nb nb (fun _ => -1) true 0) = gL co op rb n := by rw [gL, ← enb, wRl_congr (C' := gC co op rb n) (F' := gF op rb n) (T' := gT op rb n) (E' := gE op rb n) (fun b b0 b1 => ⟨by rw [u1 25 _ (by decide) (by decide)]; exact (eF b b0 b1).1, by rw [u1 17 _ (by decide) (by decide)]; exact (eF b b0 b1).2.1, by rw [u1 18 _ (by decide) (by decide)]; exact (eF b b0 b1).2.2.1, by rw [enB_congr (u1 14 (8 + b) (by decide) (by decide))]; exact (eF b b0 b1).2.2.2⟩)]
  rw [vL]
  show OkZ none 61 32 _ (.int (I (gL co op rb n)) :: _) _ _ _
  refine z_putI (bi := 1) rfl rfl rfl rfl rfl ?_
  have w1 : ∀ (k : Nat) (j : Int), k ≠ 24 → k ≠ 31 → up Z29 24 1 (gL co op rb n) k j = Z14 k j := by intro k j q1 q2; simp only [up]; rw [if_neg (fun z => q1 z.1), k1 k j q2]; exact u1 k j q1 q2
  refine z_vret rfl rfl ⟨rfl, rfl, ⟨fun i i0 i1 => ?_, fun b b0 b1 => ?_, ?_, ?_⟩, fun k j hk => ?_⟩
  · rw [w1 27 _ (by decide) (by decide), w1 29 _ (by decide) (by decide), w1 30 _ (by decide) (by decide), d2 27 _ (by decide) (by decide), c2 27 _ (by decide)]; exact ⟨b27 i i0 i1, d29 i i0 i1⟩
  · rw [← enb] at b1; rw [w1 25 _ (by decide) (by decide), w1 26 _ (by decide) (by decide), d2 26 _ (by decide) (by decide)]; exact ⟨(eF b b0 b1).1, c26 b b0 b1⟩
  · simp only [up]; rw [if_neg (fun z => absurd z.2 (by decide)), k1 24 0 (by decide), hZ1]; simp [up]
  · simp [up]
  · rw [w1 k j (by omega) (by omega), d2 k j (by omega) (by omega), c2 k j (by omega)]; exact a3 k j (by omega) (by omega)
theorem s_analyse {Z : ZW} {J : Int64} {n : Nat} (hn : Z 4 0 = n) (hn2 : n ≤ 24) (hop : OPok (Z 5) (Z 7) n) (hK : GOK (Z 8) (Z 5) (Z 7) n) : Mz 69 [.ref 0] Z J (fun r Z' J' => r = none ∧ J' = J ∧ GP (Z 5) (Z 7) n Z' ∧ PP (Z 8) (Z 5) (Z 7) n Z' ∧ ∀ (k : Nat) (j : Int), (k < 14 ∨ k = 28 ∨ 31 < k) → Z' k j = Z k j) := by
  unfold Mz
  refine z_aload_n rfl rfl ?_
  refine z_getR rfl rfl rfl rfl ?_
  refine z_aload_n rfl rfl ?_
  refine z_getR rfl rfl rfl rfl ?_
  refine z_callV1g rfl rfl rfl rfl rfl rfl (s_gupdate hn hn2 hop) (fun r8 Z8 J8 q8 => ?_)
  obtain ⟨rfl, rfl, hG, hf⟩ := q8
  show OkZ none 69 11 _ [] _ _ _
  refine z_aload_n rfl rfl ?_
  refine z_getR rfl rfl rfl rfl ?_
  refine z_aload_n rfl rfl ?_
  refine z_getR rfl rfl rfl rfl ?_
  refine z_aload_n rfl rfl ?_
  refine z_getR rfl rfl rfl rfl ?_
  have e5 : Z8 5 = Z 5 := by funext j; exact hf 5 j (by omega)
  have e8 : Z8 8 = Z 8 := by funext j; exact hf 8 j (by omega)
  refine z_callV2g rfl rfl rfl rfl rfl rfl (s_pupdate e5 e8 (by rw [hf 4 0 (by omega)]; exact hn) hn2 hop hG hK) (fun r23 Z23 J23 q23 => ?_)
  obtain ⟨rfl, rfl, hP, hf2⟩ := q23
  show OkZ none 69 26 _ [] _ _ _
  refine z_vret rfl rfl ⟨rfl, rfl, ?_, hP, fun k j hk => ?_⟩
  · obtain ⟨g1, g2, g3, g4⟩ := hG
    refine ⟨by rw [hf2 14 0 (by omega)]; exact g1, by rw [hf2 14 1 (by omega)]; exact g2, fun i i0 i1 => by rw [hf2 15 _ (by omega)]; exact g3 i i0 i1, fun b b0 b1 => ?_⟩
    rw [hf2 16 _ (by omega), hf2 17 _ (by omega), hf2 18 _ (by omega), hf2 19 _ (by omega), hf2 20 _ (by omega), enB_congr (hf2 14 (8 + b) (by omega))]
    exact g4 b b0 b1
  · rw [hf2 k j (by omega)]; exact hf k j (by omega)
