/-! what can be reached: both closures are the least one -/
def sbB (a b : Int) : Prop := ∀ j, j < 32 → bt (I a) j = true → bt (I b) j = true
theorem bt_orI (a b : Int) (j : Nat) : bt (I (orI a b)) j = (bt (I a) j || bt (I b) j) := by rw [← I_orI, b_or]
theorem sb_refl (a : Int) : sbB a a := fun _ _ h => h
theorem sb_trans {a b c : Int} (h1 : sbB a b) (h2 : sbB b c) : sbB a c := fun j hj h => h2 j hj (h1 j hj h)
theorem sb_or1 (a b : Int) : sbB a (orI a b) := fun j _ h => by rw [bt_orI, h]; rfl
theorem sb_or2 (a b : Int) : sbB b (orI a b) := fun j _ h => by rw [bt_orI, h, Bool.or_true]
theorem sb_orI {a b c : Int} (h1 : sbB a c) (h2 : sbB b c) : sbB (orI a b) c := fun j hj h => by
  rw [bt_orI] at h
  rcases Bool.or_eq_true_iff.mp h with q | q
  · exact h1 j hj q
  · exact h2 j hj q
theorem sb_anti {a b : Int} (ha : RG a) (hb : RG b) (h1 : sbB a b) (h2 : sbB b a) : a = b := mask_ext ha hb (fun j hj => by
  cases e : bt (I a) j with
  | true => exact (h1 j hj e).symm
  | false =>
    cases e2 : bt (I b) j with
    | true => rw [h2 j hj e2] at e; cases e
    | false => rfl)
theorem sb_zero (a : Int) : sbB 0 a := fun j _ h => by rw [show I 0 = (0 : Int32) from rfl, b_0] at h; cases h
def Clo (S : FI) (nb : Nat) (m : Int) : Prop := ∀ b : Nat, b < nb → tbI m b = true → sbB (S b) m
theorem tb_sub {a b : Int} (h : sbB a b) {t : Nat} (ht : t < 32) (hb : tbI a t = true) : tbI b t = true := h t ht hb
theorem rcI_ext (S : FI) (m : Int) : ∀ t, sbB m (rcI S t m) := by
  intro t
  induction t with
  | zero => exact sb_refl _
  | succ t ih =>
    unfold rcI
    split
    · exact sb_trans ih (sb_or1 _ _)
    · exact ih
theorem rcI_mono (S : FI) (m : Int) {t s : Nat} (h : t ≤ s) : sbB (rcI S t m) (rcI S s m) := by
  induction h with
  | refl => exact sb_refl _
  | step _ ih =>
    refine sb_trans ih ?_
    rw [rcI]
    split
    · exact sb_or1 _ _
    · exact sb_refl _
theorem rcI_min {S : FI} {nb : Nat} {m c : Int} (hnb : nb ≤ 24) (hc : Clo S nb c) (hm : sbB m c) : ∀ t, t ≤ nb → sbB (rcI S t m) c := by
  intro t
  induction t with
  | zero => intro _; exact hm
  | succ t ih =>
    intro ht
    have h := ih (by omega)
    unfold rcI
    split
    · next q => exact sb_orI h (hc t (by omega) (tb_sub h (by omega) q))
    · exact h
theorem rcI_fix {S : FI} {nb : Nat} {m : Int} (hnb : nb ≤ 24) (h : rcI S nb m = m) : Clo S nb m := by
  intro b hb ht
  have h1 : tbI (rcI S b m) b = true := tb_sub (rcI_ext S m b) (by omega) ht
  have h2 : rcI S (b + 1) m = orI (rcI S b m) (S b) := by
    rw [rcI, if_pos h1]
  have h3 : sbB (S b) (rcI S (b + 1) m) := by rw [h2]; exact sb_or2 _ _
  have h4 := sb_trans h3 (rcI_mono S m (show b + 1 ≤ nb from hb))
  rw [h] at h4
  exact h4
def OnB (nb : Nat) (m : Int) : Prop := ∀ j, nb ≤ j → j < 32 → bt (I m) j = false
def IsR (S : FI) (nb : Nat) (m0 v : Int) : Prop := RG v ∧ sbB m0 v ∧ Clo S nb v ∧ ∀ c, Clo S nb c → sbB m0 c → sbB v c
theorem IsR_one {S : FI} {nb : Nat} {m0 v w : Int} (h1 : IsR S nb m0 v) (h2 : IsR S nb m0 w) : v = w :=
  sb_anti h1.1 h2.1 (h1.2.2.2 w h2.2.2.1 h2.2.1) (h2.2.2.2 v h1.2.2.1 h1.2.1)
theorem cnt_sub {l l' : Int → Bool} : ∀ t : Nat, (∀ i : Nat, i < t → l i = true → l' i = true) → cnt l t ≤ cnt l' t := by
  intro t
  induction t with
  | zero => intro _; exact Nat.le_refl _
  | succ t ih =>
    intro h
    have h1 := ih (fun i hi => h i (by omega))
    have h2 := h t (by omega)
    unfold cnt
    cases e : l t with
    | true => rw [h2 e]; simp; exact h1
    | false => simp; omega
theorem cnt_sub_lt {l l' : Int → Bool} {i : Nat} (h0 : l i = false) (h1 : l' i = true) : ∀ t : Nat, i < t → (∀ i : Nat, i < t → l i = true → l' i = true) → cnt l t < cnt l' t := by
  intro t
  induction t with
  | zero => intro h; omega
  | succ t ih =>
    intro hi h
    have h2 := cnt_sub t (fun i hi => h i (by omega))
    have h3 := h t (by omega)
    unfold cnt
    by_cases e : i = t
    · subst e
      rw [h0, h1]
      simp
      omega
    · have := ih (by omega) (fun i hi => h i (by omega))
      cases e : l t with
      | true => rw [h3 e]; simp; exact this
      | false => simp; omega
theorem cnt_grow {nb : Nat} {m m' : Int} (hnb : nb ≤ 24) (r : RG m) (r' : RG m') (h : sbB m m') (ho : OnB nb m') (hne : m ≠ m') : cnt (fun x => tbI m x) nb < cnt (fun x => tbI m' x) nb := by
  have hex : ∃ i : Nat, i < nb ∧ tbI m i = false ∧ tbI m' i = true := by
    refine Classical.byContradiction fun hn => hne (sb_anti r r' h (fun j hj hb => ?_))
    by_cases hj2 : j < nb
    · cases e : bt (I m) j with
      | true => rfl
      | false => exact absurd ⟨j, hj2, e, hb⟩ hn
    · rw [ho j (by omega) hj] at hb; cases hb
  obtain ⟨i, hi, h0, h1⟩ := hex
  exact cnt_sub_lt (l := fun x => tbI m x) (l' := fun x => tbI m' x) h0 h1 nb hi (fun k hk hb => tb_sub h (by omega) hb)
theorem OnB_or {nb : Nat} {a b : Int} (h1 : OnB nb a) (h2 : OnB nb b) : OnB nb (orI a b) := fun j hj h => by rw [bt_orI, h1 j hj h, h2 j hj h]; rfl
theorem OnB_rcI {S : FI} {nb : Nat} {m : Int} (hS : ∀ b : Nat, b < nb → OnB nb (S b)) (hm : OnB nb m) : ∀ t, t ≤ nb → OnB nb (rcI S t m) := by
  intro t
  induction t with
  | zero => intro _; exact hm
  | succ t ih =>
    intro ht
    unfold rcI
    split
    · exact OnB_or (ih (by omega)) (hS t (by omega))
    · exact ih (by omega)
theorem rcR_R {S : FI} {nb : Nat} {m0 : Int} (hnb : nb ≤ 24) (hS : ∀ b : Nat, b < nb → OnB nb (S b)) : ∀ (d : Nat) (m : Int), RG m → OnB nb m → sbB m0 m → (∀ c, Clo S nb c → sbB m0 c → sbB m c) → nb + 1 ≤ cnt (fun x => tbI m x) nb + d → IsR S nb m0 (rcR S nb d m) := by
  intro d
  induction d with
  | zero =>
    intro m _ _ _ _ h
    have := cnt_le (fun x => tbI m x) nb
    omega
  | succ d ih =>
    intro m r ho h0 hmin hc
    unfold rcR
    by_cases hf : rcI S nb m = m
    · rw [if_pos hf]
      exact ⟨r, h0, rcI_fix hnb hf, hmin⟩
    · rw [if_neg hf]
      have ho2 := OnB_rcI hS ho nb (Nat.le_refl _)
      have hg := cnt_grow hnb r (rcI_RG r nb) (rcI_ext S m nb) ho2 (fun q => hf q.symm)
      exact ih _ (rcI_RG r nb) ho2 (sb_trans h0 (rcI_ext S m nb)) (fun c hc h => rcI_min hnb hc (hmin c hc h) nb (Nat.le_refl _)) (by omega)
/-- the reference's round: all from the old set -/
def rjI (S : FI) (s : Int) : Nat → Int
  | 0 => s
  | t + 1 => orI (rjI S s t) (if tbI s t then S t else 0)
theorem rj_RG {S : FI} {s : Int} (h : RG s) : ∀ t, RG (rjI S s t) := by
  intro t
  cases t with
  | zero => exact h
  | succ t => exact orI_RG _ _
theorem rj_ext (S : FI) (s : Int) : ∀ t, sbB s (rjI S s t) := by
  intro t
  induction t with
  | zero => exact sb_refl _
  | succ t ih => exact sb_trans ih (sb_or1 _ _)
theorem rj_mono (S : FI) (m : Int) {t s : Nat} (h : t ≤ s) : sbB (rjI S m t) (rjI S m s) := by
  induction h with
  | refl => exact sb_refl _
  | step _ ih => exact sb_trans ih (sb_or1 _ _)
theorem rj_min {S : FI} {nb : Nat} {m c : Int} (hnb : nb ≤ 24) (hc : Clo S nb c) (hm : sbB m c) : ∀ t, t ≤ nb → sbB (rjI S m t) c := by
  intro t
  induction t with
  | zero => intro _; exact hm
  | succ t ih =>
    intro ht
    unfold rjI
    refine sb_orI (ih (by omega)) ?_
    split
    · next q => exact hc t (by omega) (tb_sub hm (by omega) q)
    · exact sb_zero _
theorem rj_fix {S : FI} {nb : Nat} {m : Int} (h : rjI S m nb = m) : Clo S nb m := by
  intro b hb ht
  have h2 : rjI S m (b + 1) = orI (rjI S m b) (S b) := by
    rw [rjI, if_pos ht]
  have h3 : sbB (S b) (rjI S m (b + 1)) := by rw [h2]; exact sb_or2 _ _
  have h4 := sb_trans h3 (rj_mono S m (show b + 1 ≤ nb from hb))
  rw [h] at h4
  exact h4
theorem OnB_0 (nb : Nat) : OnB nb 0 := fun j _ _ => by rw [show I 0 = (0 : Int32) from rfl, b_0]
theorem OnB_rj {S : FI} {nb : Nat} {m : Int} (hS : ∀ b : Nat, b < nb → OnB nb (S b)) (hm : OnB nb m) : ∀ t, t ≤ nb → OnB nb (rjI S m t) := by
  intro t
  induction t with
  | zero => intro _; exact hm
  | succ t ih =>
    intro ht
    unfold rjI
    refine OnB_or (ih (by omega)) ?_
    split
    · exact hS t (by omega)
    · exact OnB_0 nb
theorem rj_congr {S S' : FI} {m : Int} : ∀ nb : Nat, (∀ t : Nat, t < nb → S t = S' t) → rjI S m nb = rjI S' m nb := by
  intro nb
  induction nb with
  | zero => intro _; rfl
  | succ t ih =>
    intro h
    unfold rjI
    rw [ih (fun s hs => h s (by omega)), h t (by omega)]
theorem OnB_bitv {nb : Nat} {x : Int} (h : x < nb) : OnB nb (bitv x) := fun j hj h32 => by
  rw [bt_bitv x h32]
  exact decide_eq_false (by omega)
theorem OnB_gS {op rb : FI} {n : Nat} (hop : OPok op rb n) : ∀ b : Nat, b < gnb op rb n → OnB (gnb op rb n) (gS op rb n b) := by
  intro b hb
  have h1 := gF_in (op := op) (rb := rb) (n := n) (b := (b : Int)) (by omega) (by omega)
  have h2 := gT_in (b := (b : Int)) hop (by omega) (by omega)
  exact OnB_or (OnB_bitv (by omega)) (OnB_bitv (by omega))
def rMk (nb : Nat) : Int := if nb = 0 then 0 else bitv 0
theorem rMk_ok {nb : Nat} : RG (rMk nb) ∧ OnB nb (rMk nb) ∧ (nb ≠ 0 → 1 ≤ cnt (fun x => tbI (rMk nb) x) nb) := by
  unfold rMk
  by_cases h : nb = 0
  · rw [if_pos h]
    exact ⟨⟨by decide, by decide⟩, OnB_0 nb, fun q => absurd h q⟩
  · rw [if_neg h]
    exact ⟨(bitv_RG 0).1, OnB_bitv (by omega), fun _ => cnt_pos (by show tbI (bitv 0) 0 = true; rw [tb_bitv (by omega)]; rfl) (by omega)⟩
theorem gR_R {op rb : FI} {n : Nat} (hn : n ≤ 24) (hop : OPok op rb n) : IsR (gS op rb n) (gnb op rb n) (rMk (gnb op rb n)) (gR op rb n) := by
  have hg := gnb_le op rb n
  obtain ⟨k1, k2, k3⟩ := rMk_ok (nb := gnb op rb n)
  by_cases h : gnb op rb n = 0
  · have e : gR op rb n = 0 := by unfold gR; rw [h]; rfl
    rw [e]
    unfold rMk
    rw [if_pos h]
    exact ⟨⟨by decide, by decide⟩, sb_refl _, fun b hb => by omega, fun c _ hc => hc⟩
  · exact rcR_R (by omega) (OnB_gS hop) _ _ k1 k2 (sb_refl _) (fun c _ hc => hc) (by have := k3 h; unfold rMk at this; omega)
