/-! the class: greatest and least ways -/
def wy (nb : Nat) (W : FI) (c : Int) : Int := if 0 ≤ c ∧ c < nb then W c else -1
def updF (W : FI) (k v : Int) : FI := fun j => if j = k then v else W j
def gf1 (F : FI) (nb : Nat) (W : FI) (b : Int) : Int := if F b = -1 then 0 else wy nb W (F b)
def gfr (C F T : FI) (nb : Nat) (W : FI) (b : Int) : Int := if gf1 F nb W b = -1 ∨ gf1 T nb W b = -1 then -1 else C b + (if gf1 F nb W b < gf1 T nb W b then gf1 T nb W b else gf1 F nb W b)
def lfr (C F T : FI) (E : Int → Bool) (nb : Nat) (W : FI) (b : Int) : Int := if E b then C b else if wy nb W (F b) = -1 ∧ wy nb W (T b) = -1 then -1 else if wy nb W (F b) = -1 ∨ wy nb W (T b) = -1 then C b + (if wy nb W (F b) < wy nb W (T b) then wy nb W (T b) else wy nb W (F b)) else C b + (if wy nb W (T b) < wy nb W (F b) then wy nb W (T b) else wy nb W (F b))
def gsB (fr : FI → FI) (W : FI) (k : Int) : Bool := decide (W k = -1 ∧ fr W k ≠ -1)
def gs (fr : FI → FI) (W : FI) (k : Int) : FI := if gsB fr W k then updF W k (fr W k) else W
def lsB (fr : FI → FI) (W : FI) (k : Int) : Bool := decide (fr W k ≠ W k)
def ls (fr : FI → FI) (W : FI) (k : Int) : FI := if lsB fr W k then updF W k (fr W k) else W
/-- a round over the blocks k - 1 .. 0, and whether it changed something -/
def wI (st : FI → Int → FI) : Nat → FI → FI
  | 0, W => W
  | k + 1, W => wI st k (st W k)
def wC (st : FI → Int → FI) (sb : FI → Int → Bool) : Nat → FI → Bool → Bool
  | 0, _, c => c
  | k + 1, W, c => wC st sb k (st W k) (c || sb W k)
def wR (st : FI → Int → FI) (sb : FI → Int → Bool) (nb : Nat) : Nat → FI → Bool → FI
  | 0, W, _ => W
  | d + 1, W, c => if c then wR st sb nb d (wI st nb W) (wC st sb nb W false) else W
def wB (nb : Nat) (B : Int) (W : FI) : Prop := ∀ b, 0 ≤ b → b < (nb : Int) → -1 ≤ W b ∧ W b ≤ B
def RelW (Z0 Z' : ZW) (W : FI) (nb : Nat) : Prop := (∀ b, 0 ≤ b → b < (nb : Int) → Z' 31 b = W b) ∧ ∀ (k : Nat) (j : Int), k ≠ 31 → Z' k j = Z0 k j
def FTok (F T C : FI) (nb : Nat) : Prop := ∀ b, 0 ≤ b → b < (nb : Int) → (-1 ≤ F b ∧ F b < nb) ∧ (-1 ≤ T b ∧ T b < nb) ∧ 1 ≤ C b ∧ C b ≤ 216
theorem wy_in {nb : Nat} {B : Int} {W : FI} (h : wB nb B W) (hB : 0 ≤ B) (c : Int) : -1 ≤ wy nb W c ∧ wy nb W c ≤ B := by
  unfold wy
  split
  · next hc => exact h c hc.1 hc.2
  · omega
theorem gf1_in {F : FI} {nb : Nat} {B : Int} {W : FI} (h : wB nb B W) (hB : 0 ≤ B) (b : Int) : -1 ≤ gf1 F nb W b ∧ gf1 F nb W b ≤ B := by
  unfold gf1
  split
  · omega
  · exact wy_in h hB _
theorem gfr_in {F T C : FI} {nb : Nat} {B b : Int} {W : FI} (hFT : FTok F T C nb) (h : wB nb B W) (hB : 0 ≤ B) (h0 : 0 ≤ b) (h1 : b < nb) : -1 ≤ gfr C F T nb W b ∧ gfr C F T nb W b ≤ B + 216 := by
  have := hFT b h0 h1
  have h2 := gf1_in (F := F) h hB b
  have h3 := gf1_in (F := T) h hB b
  unfold gfr
  split
  · omega
  · split <;> omega
theorem lfr_in {F T C : FI} {E : Int → Bool} {nb : Nat} {B b : Int} {W : FI} (hFT : FTok F T C nb) (h : wB nb B W) (hB : 0 ≤ B) (h0 : 0 ≤ b) (h1 : b < nb) : -1 ≤ lfr C F T E nb W b ∧ lfr C F T E nb W b ≤ B + 216 := by
  have := hFT b h0 h1
  have h2 := wy_in h hB (F b)
  have h3 := wy_in h hB (T b)
  unfold lfr
  split
  · omega
  · split
    · omega
    · split <;> split <;> omega
theorem wB_up {nb : Nat} {B k v : Int} {W : FI} (h : wB nb B W) (hv : -1 ≤ v ∧ v ≤ B + 216) : wB nb (B + 216) (updF W k v) := by
  intro b b0 b1
  unfold updF
  split
  · exact hv
  · have := h b b0 b1; omega
theorem wB_mono {nb : Nat} {B B' : Int} {W : FI} (h : wB nb B W) (hB : B ≤ B') : wB nb B' W := fun b b0 b1 => by have := h b b0 b1; omega
theorem wy_rel {Z0 Z' : ZW} {W : FI} {nb : Nat} (h : RelW Z0 Z' W nb) (c : Int) : wy nb (Z' 31) c = wy nb W c := by
  unfold wy
  split
  · next hc => exact h.1 c hc.1 hc.2
  · rfl
theorem RelW_up {Z0 Z' : ZW} {W : FI} {nb : Nat} (h : RelW Z0 Z' W nb) (k v : Int) : RelW Z0 (up Z' 31 k v) (updF W k v) nb := by
  refine ⟨fun b b0 b1 => ?_, fun q j hq => ?_⟩
  · unfold updF
    by_cases hb : b = k
    · simp [up, hb]
    · have := h.1 b b0 b1
      simp [up, hb, this]
  · simp only [up]
    rw [if_neg (fun z => hq z.1)]
    exact h.2 q j hq
theorem s_gfrom {Z : ZW} {J : Int64} {nb : Nat} {B b : Int} (hnb : Z 14 0 = nb) (hnb2 : nb ≤ 24) (hFT : FTok (Z 17) (Z 18) (Z 25) nb) (hB : 0 ≤ B ∧ B ≤ 1000000) (hW : wB nb B (Z 31)) (hb : 0 ≤ b ∧ b < nb) : D 57 [.ref 24, .ref 13, .int (I b)] Z J (some (.int (I (gfr (Z 25) (Z 17) (Z 18) nb (Z 31) b)))) Z J := by
  unfold D Mz
  have hq := hFT b hb.1 hb.2
  have hf := gf1_in (F := Z 17) hW hB.1 b
  have ht := gf1_in (F := Z 18) hW hB.1 b
  obtain ⟨f, ef⟩ : ∃ f, f = gf1 (Z 17) nb (Z 31) b := ⟨_, rfl⟩
  obtain ⟨t, et⟩ : ∃ t, t = gf1 (Z 18) nb (Z 31) b := ⟨_, rfl⟩
  have eg : gfr (Z 25) (Z 17) (Z 18) nb (Z 31) b = if f = -1 ∨ t = -1 then -1 else Z 25 b + (if f < t then t else f) := by rw [ef, et]; rfl
  rw [← ef] at hf
  rw [← et] at ht
  have K51 : OkZ none 57 51 [some (.ref 24), some (.ref 13), some (.int (I b)), some (.int (I (Z 17 b))), some (.int (I (Z 18 b))), some (.int (I f)), some (.int (I t))] [] Z J (fun r Z' J' => r = some (.int (I (gfr (Z 25) (Z 17) (Z 18) nb (Z 31) b))) ∧ Z' = Z ∧ J' = J) := by
    refine z_iload rfl rfl ?_
    refine z_iconst rfl ?_
    refine z_icmp_eq rfl (by omega) (by omega) (fun h54 => ?_) (fun h54 => ?_)
    · refine z_iconst rfl ?_
      exact z_iret rfl rfl ⟨by rw [eg, if_pos (Or.inl h54)], rfl, rfl⟩
    · refine z_iload rfl rfl ?_
      refine z_iconst rfl ?_
      refine z_icmp_ne rfl (by omega) (by omega) (fun h60 => ?_) (fun h60 => ?_)
      · refine z_aload_n rfl rfl ?_
        refine z_getR rfl rfl rfl rfl ?_
        refine z_iload_n rfl rfl ?_
        refine z_iald rfl rfl (by omega) ?_
        refine z_iload rfl rfl ?_
        refine z_iload rfl rfl ?_
        refine z_callS2 rfl rfl rfl rfl (s_max (by omega) (by omega)) ?_
        refine z_iadd rfl ?_
        rw [if_neg (fun z => z.elim h54 h60)] at eg
        exact z_iret rfl rfl ⟨by rw [eg], rfl, rfl⟩
      · refine z_iconst rfl ?_
        exact z_iret rfl rfl ⟨by rw [eg, if_pos (Or.inr h60)], rfl, rfl⟩
  have K32 : OkZ none 57 32 [some (.ref 24), some (.ref 13), some (.int (I b)), some (.int (I (Z 17 b))), some (.int (I (Z 18 b))), some (.int (I f)), none] [] Z J (fun r Z' J' => r = some (.int (I (gfr (Z 25) (Z 17) (Z 18) nb (Z 31) b))) ∧ Z' = Z ∧ J' = J) := by
    refine z_iload rfl rfl ?_
    refine z_iconst rfl ?_
    refine z_icmp_ne rfl (by omega) (by omega) (fun h35 => ?_) (fun h35 => ?_)
    · refine z_aload_n rfl rfl ?_
      refine z_aload_n rfl rfl ?_
      refine z_iload rfl rfl ?_
      refine z_callV2 rfl rfl rfl rfl rfl rfl (s_wayFrom (by omega) (by omega)) ?_
      refine z_istore rfl rfl rfl ?_
      rw [show t = (if 0 ≤ Z 18 b ∧ Z 18 b < Z 14 0 then Z 31 (Z 18 b) else -1) by rw [et, gf1, if_neg h35, wy, hnb]] at K51
      exact K51
    · refine z_iconst rfl ?_
      refine z_goto rfl ?_
      refine z_istore rfl rfl rfl ?_
      rw [show t = 0 by rw [et, gf1, if_pos h35]] at K51
      exact K51
  refine z_aload_n rfl rfl ?_
  refine z_getR rfl rfl rfl rfl ?_
  refine z_iload_n rfl rfl ?_
  refine z_iald rfl rfl (by omega) ?_
  refine z_istore_n rfl rfl rfl ?_
  refine z_aload_n rfl rfl ?_
  refine z_getR rfl rfl rfl rfl ?_
  refine z_iload_n rfl rfl ?_
  refine z_iald rfl rfl (by omega) ?_
  refine z_istore rfl rfl rfl ?_
  refine z_iload_n rfl rfl ?_
  refine z_iconst rfl ?_
  refine z_icmp_ne rfl (by omega) (by omega) (fun h17 => ?_) (fun h17 => ?_)
  · refine z_aload_n rfl rfl ?_
    refine z_aload_n rfl rfl ?_
    refine z_iload_n rfl rfl ?_
    refine z_callV2 rfl rfl rfl rfl rfl rfl (s_wayFrom (by omega) (by omega)) ?_
    refine z_istore rfl rfl rfl ?_
    rw [show f = (if 0 ≤ Z 17 b ∧ Z 17 b < Z 14 0 then Z 31 (Z 17 b) else -1) by rw [ef, gf1, if_neg h17, wy, hnb]] at K32
    exact K32
  · refine z_iconst rfl ?_
    refine z_goto rfl ?_
    refine z_istore rfl rfl rfl ?_
    rw [show f = 0 by rw [ef, gf1, if_pos h17]] at K32
    exact K32
theorem s_lfrom {Z : ZW} {J : Int64} {nb : Nat} {B b : Int} (hnb : Z 14 0 = nb) (hnb2 : nb ≤ 24) (hFT : FTok (Z 17) (Z 18) (Z 25) nb) (hB : 0 ≤ B ∧ B ≤ 1000000) (hW : wB nb B (Z 31)) (hb : 0 ≤ b ∧ b < nb) : D 59 [.ref 24, .ref 13, .int (I b)] Z J (some (.int (I (lfr (Z 25) (Z 17) (Z 18) (enB Z) nb (Z 31) b)))) Z J := by
  unfold D Mz
  have hq := hFT b hb.1 hb.2
  have hf := wy_in hW hB.1 (Z 17 b)
  have ht := wy_in hW hB.1 (Z 18 b)
  obtain ⟨f, ef⟩ : ∃ f, f = wy nb (Z 31) (Z 17 b) := ⟨_, rfl⟩
  obtain ⟨t, et⟩ : ∃ t, t = wy nb (Z 31) (Z 18 b) := ⟨_, rfl⟩
  have eg : lfr (Z 25) (Z 17) (Z 18) (enB Z) nb (Z 31) b = if enB Z b then Z 25 b else if f = -1 ∧ t = -1 then -1 else if f = -1 ∨ t = -1 then Z 25 b + (if f < t then t else f) else Z 25 b + (if t < f then t else f) := by rw [ef, et]; rfl
  have ef2 : (if 0 ≤ Z 17 b ∧ Z 17 b < Z 14 0 then Z 31 (Z 17 b) else -1) = f := by rw [ef, wy, hnb]
  have et2 : (if 0 ≤ Z 18 b ∧ Z 18 b < Z 14 0 then Z 31 (Z 18 b) else -1) = t := by rw [et, wy, hnb]
  rw [← ef] at hf
  rw [← et] at ht
  refine z_aload_n rfl rfl ?_
  refine z_iload_n rfl rfl ?_
  refine z_callV1 rfl rfl rfl rfl rfl rfl (s_canEnd (by omega) (by omega)) ?_
  refine z_ifb_eq rfl (fun h5 => ?_) (fun h5 => ?_)
  · refine z_aload_n rfl rfl ?_
    refine z_aload_n rfl rfl ?_
    refine z_aload_n rfl rfl ?_
    refine z_getR rfl rfl rfl rfl ?_
    refine z_iload_n rfl rfl ?_
    refine z_iald rfl rfl (by omega) ?_
    refine z_callV2 rfl rfl rfl rfl rfl rfl (s_wayFrom (by omega) (by omega)) ?_
    rw [ef2]
    refine z_istore_n rfl rfl rfl ?_
    refine z_aload_n rfl rfl ?_
    refine z_aload_n rfl rfl ?_
    refine z_aload_n rfl rfl ?_
    refine z_getR rfl rfl rfl rfl ?_
    refine z_iload_n rfl rfl ?_
    refine z_iald rfl rfl (by omega) ?_
    refine z_callV2 rfl rfl rfl rfl rfl rfl (s_wayFrom (by omega) (by omega)) ?_
    rw [et2]
    refine z_istore rfl rfl rfl ?_
    refine z_iload_n rfl rfl ?_
    refine z_iconst rfl ?_
    refine z_icmp_ne rfl (by omega) (by omega) (fun h42 => ?_) (fun h42 => ?_)
    · refine z_iload_n rfl rfl ?_
      refine z_iconst rfl ?_
      refine z_icmp_eq rfl (by omega) (by omega) (fun h55 => ?_) (fun h55 => ?_)
      · refine z_aload_n rfl rfl ?_
        refine z_getR rfl rfl rfl rfl ?_
        refine z_iload_n rfl rfl ?_
        refine z_iald rfl rfl (by omega) ?_
        refine z_iload_n rfl rfl ?_
        refine z_iload rfl rfl ?_
        refine z_callS2 rfl rfl rfl rfl (s_max (by omega) (by omega)) ?_
        refine z_iadd rfl ?_
        exfalso; omega
      · refine z_iload rfl rfl ?_
        refine z_iconst rfl ?_
        refine z_icmp_ne rfl (by omega) (by omega) (fun h61 => ?_) (fun h61 => ?_)
        · refine z_aload_n rfl rfl ?_
          refine z_getR rfl rfl rfl rfl ?_
          refine z_iload_n rfl rfl ?_
          refine z_iald rfl rfl (by omega) ?_
          refine z_iload_n rfl rfl ?_
          refine z_iload rfl rfl ?_
          refine z_callS2 rfl rfl rfl rfl (s_min (by omega) (by omega)) ?_
          refine z_iadd rfl ?_
          rw [h5, if_neg (by decide), if_neg (fun z => h55 z.1), if_neg (fun z => z.elim h55 h61)] at eg
          exact z_iret rfl rfl ⟨by rw [eg], rfl, rfl⟩
        · refine z_aload_n rfl rfl ?_
          refine z_getR rfl rfl rfl rfl ?_
          refine z_iload_n rfl rfl ?_
          refine z_iald rfl rfl (by omega) ?_
          refine z_iload_n rfl rfl ?_
          refine z_iload rfl rfl ?_
          refine z_callS2 rfl rfl rfl rfl (s_max (by omega) (by omega)) ?_
          refine z_iadd rfl ?_
          rw [h5, if_neg (by decide), if_neg (fun z => h42 z.1), if_pos (Or.inr h61)] at eg
          exact z_iret rfl rfl ⟨by rw [eg], rfl, rfl⟩
    · refine z_iload rfl rfl ?_
      refine z_iconst rfl ?_
      refine z_icmp_ne rfl (by omega) (by omega) (fun h48 => ?_) (fun h48 => ?_)
      · refine z_iload_n rfl rfl ?_
        refine z_iconst rfl ?_
        refine z_icmp_eq rfl (by omega) (by omega) (fun h55 => ?_) (fun h55 => ?_)
        · refine z_aload_n rfl rfl ?_
          refine z_getR rfl rfl rfl rfl ?_
          refine z_iload_n rfl rfl ?_
          refine z_iald rfl rfl (by omega) ?_
          refine z_iload_n rfl rfl ?_
          refine z_iload rfl rfl ?_
          refine z_callS2 rfl rfl rfl rfl (s_max (by omega) (by omega)) ?_
          refine z_iadd rfl ?_
          rw [h5, if_neg (by decide), if_neg (fun z => h48 z.2), if_pos (Or.inl h55)] at eg
          exact z_iret rfl rfl ⟨by rw [eg], rfl, rfl⟩
        · refine z_iload rfl rfl ?_
          refine z_iconst rfl ?_
          refine z_icmp_ne rfl (by omega) (by omega) (fun h61 => ?_) (fun h61 => ?_)
          · refine z_aload_n rfl rfl ?_
            refine z_getR rfl rfl rfl rfl ?_
            refine z_iload_n rfl rfl ?_
            refine z_iald rfl rfl (by omega) ?_
            refine z_iload_n rfl rfl ?_
            refine z_iload rfl rfl ?_
            refine z_callS2 rfl rfl rfl rfl (s_min (by omega) (by omega)) ?_
            refine z_iadd rfl ?_
            rw [h5, if_neg (by decide), if_neg (fun z => h55 z.1), if_neg (fun z => z.elim h55 h61)] at eg
            exact z_iret rfl rfl ⟨by rw [eg], rfl, rfl⟩
          · refine z_aload_n rfl rfl ?_
            refine z_getR rfl rfl rfl rfl ?_
            refine z_iload_n rfl rfl ?_
            refine z_iald rfl rfl (by omega) ?_
            refine z_iload_n rfl rfl ?_
            refine z_iload rfl rfl ?_
            refine z_callS2 rfl rfl rfl rfl (s_max (by omega) (by omega)) ?_
            refine z_iadd rfl ?_
            rw [h5, if_neg (by decide), if_neg (fun z => h48 z.2), if_pos (Or.inr h61)] at eg
            exact z_iret rfl rfl ⟨by rw [eg], rfl, rfl⟩
      · refine z_iconst rfl ?_
        rw [h5, if_neg (by decide), if_pos ⟨h42, h48⟩] at eg
        exact z_iret rfl rfl ⟨by rw [eg], rfl, rfl⟩
  · refine z_aload_n rfl rfl ?_
    refine z_getR rfl rfl rfl rfl ?_
    refine z_iload_n rfl rfl ?_
    refine z_iald rfl rfl (by omega) ?_
    rw [h5, if_pos rfl] at eg
    exact z_iret rfl rfl ⟨by rw [eg], rfl, rfl⟩
theorem l_forget {Z : ZW} {J : Int64} {nb : Nat} (hnb : Z 14 0 = nb) (hnb2 : nb ≤ 24) : ∀ (d t : Nat) (Z' : ZW), t + d = nb → (∀ q, 0 ≤ q → q < (t : Int) → Z' 31 q = -1) → (∀ (k : Nat) (j : Int), k ≠ 31 → Z' k j = Z k j) → OkZ none 54 2 [some (.ref 24), some (.ref 13), some (.int (I t))] [] Z' J (fun r Z' J' => r = none ∧ J' = J ∧ RelW Z Z' (fun _ => -1) nb) := by
  intro d
  induction d with
  | zero =>
    intro t Z' ht h1 hf
    have e14 : Z' 14 0 = nb := by rw [hf 14 0 (by decide)]; exact hnb
    have e : t = nb := by omega
    subst e
    refine z_iload_n rfl rfl ?_
    refine z_aload_n rfl rfl ?_
    refine z_getI (bi := 0) rfl rfl rfl rfl ?_
    refine z_icmp_ge rfl (by omega) (by omega) (fun h7 => ?_) (fun h7 => ?_)
    · exact z_vret rfl rfl ⟨rfl, rfl, h1, hf⟩
    · omega
  | succ d ih =>
    intro t Z' ht h1 hf
    have e14 : Z' 14 0 = nb := by rw [hf 14 0 (by decide)]; exact hnb
    refine z_iload_n rfl rfl ?_
    refine z_aload_n rfl rfl ?_
    refine z_getI (bi := 0) rfl rfl rfl rfl ?_
    refine z_icmp_ge rfl (by omega) (by omega) (fun h7 => ?_) (fun h7 => ?_)
    · omega
    · refine z_aload_n rfl rfl ?_
      refine z_getR rfl rfl rfl rfl ?_
      refine z_iload_n rfl rfl ?_
      refine z_iconst rfl ?_
      refine z_iast rfl rfl (by omega) ?_
      refine z_iinc rfl rfl rfl rfl ?_
      refine z_goto rfl ?_
      refine ih (t + 1) _ (by omega) ?_ ?_
      · intro q q0 q1
        by_cases hq : q = t
        · simp [up, hq]
        · simp only [up]; rw [if_neg (fun z => hq z.2)]; exact h1 q q0 (by omega)
      · intro k j hk
        simp only [up]; rw [if_neg (fun q => hk q.1)]; exact hf k j hk
theorem s_forget {Z : ZW} {J : Int64} {nb : Nat} (hnb : Z 14 0 = nb) (hnb2 : nb ≤ 24) : Mz 54 [.ref 24, .ref 13] Z J (fun r Z' J' => r = none ∧ J' = J ∧ RelW Z Z' (fun _ => -1) nb) := by
  unfold Mz
  refine z_iconst rfl ?_
  refine z_istore_n rfl rfl rfl ?_
  exact l_forget hnb hnb2 nb 0 Z (by omega) (fun q q0 q1 => absurd q1 (by omega)) (fun _ _ _ => rfl)
theorem stg_in {Z0 : ZW} {nb : Nat} {B k : Int} {W : FI} (hFT : FTok (Z0 17) (Z0 18) (Z0 25) nb) (h : wB nb B W) (hB : 0 ≤ B) (h0 : 0 ≤ k) (h1 : k < nb) : wB nb (B + 216) ((gs (gfr (Z0 25) (Z0 17) (Z0 18) nb)) W k) := by
  unfold gs
  split
  · exact wB_up h (gfr_in hFT h hB h0 h1)
  · exact wB_mono h (by omega)
theorem wIg_in {Z0 : ZW} {nb : Nat} (hFT : FTok (Z0 17) (Z0 18) (Z0 25) nb) : ∀ (k : Nat) (B : Int) (W : FI), k ≤ nb → wB nb B W → 0 ≤ B → wB nb (B + 216 * k) (wI (gs (gfr (Z0 25) (Z0 17) (Z0 18) nb)) k W) := by
  intro k
  induction k with
  | zero => intro B W _ h _; exact wB_mono h (by omega)
  | succ k ih =>
    intro B W hk h hB
    exact wB_mono (ih (B + 216) _ (by omega) (stg_in hFT h hB (by omega) (by omega)) (by omega)) (by omega)
set_option maxHeartbeats 4000000 in
theorem l_gin {Z0 : ZW} {J : Int64} {nb : Nat} {Φ : ZΦ} {x3 : Int} (hnb : Z0 14 0 = nb) (hnb2 : nb ≤ 24) (hFT : FTok (Z0 17) (Z0 18) (Z0 25) nb) : ∀ (k : Nat) (W : FI) (c : Bool) (B : Int) (x5 : Option Value) (Z' : ZW), k ≤ nb → wB nb B W → 0 ≤ B → B + 216 * k ≤ 1000000 → RelW Z0 Z' W nb →
    (∀ (Z2 : ZW) (y5 : Option Value), RelW Z0 Z2 (wI (gs (gfr (Z0 25) (Z0 17) (Z0 18) nb)) k W) nb → OkZ none 58 83 [some (.ref 24), some (.ref 13), some (bI (wC (gs (gfr (Z0 25) (Z0 17) (Z0 18) nb)) (gsB (gfr (Z0 25) (Z0 17) (Z0 18) nb)) k W c)), some (.int (I x3)), some (.int (I (-1))), y5] [] Z2 J Φ) →
    OkZ none 58 31 [some (.ref 24), some (.ref 13), some (bI c), some (.int (I x3)), some (.int (I ((k : Int) - 1))), x5] [] Z' J Φ := by
  intro k
  induction k with
  | zero =>
    intro W c B x5 Z' _ _ _ _ hR hk
    refine z_iload rfl rfl ?_
    refine z_if_lt rfl (by omega) (fun h33 => ?_) (fun h33 => ?_)
    · exact hk Z' x5 hR
    · exfalso; omega
  | succ k ih =>
    intro W c B x5 Z' hkn hW hB0 hB hR hk
    have e14 : Z' 14 0 = nb := by rw [hR.2 14 0 (by decide)]; exact hnb
    have ek : ((k + 1 : Nat) : Int) - 1 = k := by omega
    rw [ek]
    have e17 : Z' 17 = Z0 17 := by funext j; exact hR.2 17 j (by decide)
    have e18 : Z' 18 = Z0 18 := by funext j; exact hR.2 18 j (by decide)
    have e25 : Z' 25 = Z0 25 := by funext j; exact hR.2 25 j (by decide)
    have e8 : enB Z' = enB Z0 := by funext p; exact enB_congr (hR.2 14 _ (by decide))
    have e31 : Z' 31 k = W k := hR.1 k (by omega) (by omega)
    have hWk := hW k (by omega) (by omega)
    have hfr := gfr_in  hFT hW hB0 (show (0 : Int) ≤ k by omega) (show (k : Int) < nb by omega)
    obtain ⟨v, ev⟩ : ∃ v, v = (gfr (Z0 25) (Z0 17) (Z0 18) nb) W k := ⟨_, rfl⟩
    rw [← ev] at hfr
    have hcall : D 57 [.ref 24, .ref 13, .int (I (k : Int))] Z' J (some (.int (I v))) Z' J := by
      have hW' : wB nb B (Z' 31) := fun b b0 b1 => by rw [hR.1 b b0 b1]; exact hW b b0 b1
      have := s_gfrom (Z := Z') (J := J) (nb := nb) (B := B) (b := k) e14 hnb2 (by rw [e17, e18, e25]; exact hFT) (by omega) hW' (by omega)
      rw [e17, e18, e25] at this
      have e9 : (gfr (Z0 25) (Z0 17) (Z0 18) nb) (Z' 31) k = (gfr (Z0 25) (Z0 17) (Z0 18) nb) W k := by
        unfold gfr gf1
        rw [wy_rel hR, wy_rel hR]
      rwa [e9, ← ev] at this
    have hin := stg_in (k := (k : Int)) hFT hW hB0 (by omega) (by omega)
    have K60 : ∀ u, u = (if W k = -1 then v else -1) → OkZ none 58 60 [some (.ref 24), some (.ref 13), some (bI c), some (.int (I x3)), some (.int (I (k : Int))), some (.int (I u))] [] Z' J Φ := by
      intro u hu
      have hur : RG u := by rw [hu]; unfold RG; split <;> omega
      refine z_iload rfl rfl ?_
      refine z_iconst rfl ?_
      refine z_icmp_eq rfl (by omega) (by omega) (fun h63 => ?_) (fun h63 => ?_)
      · refine z_iinc rfl rfl rfl rfl ?_
        refine z_goto rfl ?_
        have hsb : gsB (gfr (Z0 25) (Z0 17) (Z0 18) nb) W k = false := by unfold gsB; rw [← ev]; apply decide_eq_false; intro z; rw [if_pos z.1] at hu; exact z.2 (by rw [← hu]; exact h63)
        have hst : gs (gfr (Z0 25) (Z0 17) (Z0 18) nb) W k = W := by unfold gs; rw [hsb]; rfl
        rw [hst] at hin
        have hk2 : ∀ (Z2 : ZW) (y5 : Option Value), RelW Z0 Z2 (wI (gs (gfr (Z0 25) (Z0 17) (Z0 18) nb)) k W) nb → OkZ none 58 83 [some (.ref 24), some (.ref 13), some (bI (wC (gs (gfr (Z0 25) (Z0 17) (Z0 18) nb)) (gsB (gfr (Z0 25) (Z0 17) (Z0 18) nb)) k W c)), some (.int (I x3)), some (.int (I (-1))), y5] [] Z2 J Φ := by
          intro Z2 y5 h2
          have q := hk Z2 y5
          rw [show wI (gs (gfr (Z0 25) (Z0 17) (Z0 18) nb)) (k + 1) W = wI (gs (gfr (Z0 25) (Z0 17) (Z0 18) nb)) k ((gs (gfr (Z0 25) (Z0 17) (Z0 18) nb)) W k) from rfl, show wC (gs (gfr (Z0 25) (Z0 17) (Z0 18) nb)) (gsB (gfr (Z0 25) (Z0 17) (Z0 18) nb)) (k + 1) W c = wC (gs (gfr (Z0 25) (Z0 17) (Z0 18) nb)) (gsB (gfr (Z0 25) (Z0 17) (Z0 18) nb)) k ((gs (gfr (Z0 25) (Z0 17) (Z0 18) nb)) W k) (c || (gsB (gfr (Z0 25) (Z0 17) (Z0 18) nb)) W k) from rfl, hst, hsb, Bool.or_false] at q
          exact q h2
        exact ih W c (B + 216) _ Z' (by omega) hin (by omega) (by omega) hR hk2
      · refine z_aload_n rfl rfl ?_
        refine z_getR rfl rfl rfl rfl ?_
        refine z_iload rfl rfl ?_
        refine z_iload rfl rfl ?_
        refine z_iast rfl rfl (by omega) ?_
        refine z_iconst rfl ?_
        refine z_istore_n rfl rfl rfl ?_
        refine z_iinc rfl rfl rfl rfl ?_
        refine z_goto rfl ?_
        have hW1 : W k = -1 := Decidable.byContradiction (fun z => h63 (by rw [hu, if_neg z]))
        rw [if_pos hW1] at hu
        have hsb : gsB (gfr (Z0 25) (Z0 17) (Z0 18) nb) W k = true := by unfold gsB; rw [← ev, ← hu]; exact decide_eq_true ⟨hW1, h63⟩
        have hst : gs (gfr (Z0 25) (Z0 17) (Z0 18) nb) W k = updF W k v := by unfold gs; rw [hsb, ← ev]; rfl
        rw [hst] at hin
        rw [hu]
        have hk2 : ∀ (Z2 : ZW) (y5 : Option Value), RelW Z0 Z2 (wI (gs (gfr (Z0 25) (Z0 17) (Z0 18) nb)) k (updF W k v)) nb → OkZ none 58 83 [some (.ref 24), some (.ref 13), some (bI (wC (gs (gfr (Z0 25) (Z0 17) (Z0 18) nb)) (gsB (gfr (Z0 25) (Z0 17) (Z0 18) nb)) k (updF W k v) true)), some (.int (I x3)), some (.int (I (-1))), y5] [] Z2 J Φ := by
          intro Z2 y5 h2
          have q := hk Z2 y5
          rw [show wI (gs (gfr (Z0 25) (Z0 17) (Z0 18) nb)) (k + 1) W = wI (gs (gfr (Z0 25) (Z0 17) (Z0 18) nb)) k ((gs (gfr (Z0 25) (Z0 17) (Z0 18) nb)) W k) from rfl, show wC (gs (gfr (Z0 25) (Z0 17) (Z0 18) nb)) (gsB (gfr (Z0 25) (Z0 17) (Z0 18) nb)) (k + 1) W c = wC (gs (gfr (Z0 25) (Z0 17) (Z0 18) nb)) (gsB (gfr (Z0 25) (Z0 17) (Z0 18) nb)) k ((gs (gfr (Z0 25) (Z0 17) (Z0 18) nb)) W k) (c || (gsB (gfr (Z0 25) (Z0 17) (Z0 18) nb)) W k) from rfl, hst, hsb, Bool.or_true] at q
          exact q h2
        exact ih (updF W k v) true (B + 216) _ _ (by omega) hin (by omega) (by omega) (RelW_up hR k v) hk2
    refine z_iload rfl rfl ?_
    refine z_if_lt rfl (by omega) (fun h33 => ?_) (fun h33 => ?_)
    · exfalso; omega
    · refine z_aload_n rfl rfl ?_
      refine z_getR rfl rfl rfl rfl ?_
      refine z_iload rfl rfl ?_
      refine z_iald rfl rfl (by omega) ?_
      refine z_iconst rfl ?_
      refine z_icmp_ne rfl (by omega) (by omega) (fun h44 => ?_) (fun h44 => ?_)
      · refine z_iconst rfl ?_
        refine z_istore rfl rfl rfl ?_
        exact K60 _ (by rw [if_neg (by rw [← e31]; exact h44)])
      · refine z_aload_n rfl rfl ?_
        refine z_aload_n rfl rfl ?_
        refine z_iload rfl rfl ?_
        refine z_callV2 rfl rfl rfl rfl rfl rfl (hcall) ?_
        refine z_goto rfl ?_
        refine z_istore rfl rfl rfl ?_
        exact K60 _ (by rw [if_pos (by rw [← e31]; exact h44)])
theorem l_gout {Z0 : ZW} {J : Int64} {nb : Nat} {R : FI} (hnb : Z0 14 0 = nb) (hnb2 : nb ≤ 24) (hFT : FTok (Z0 17) (Z0 18) (Z0 25) nb) : ∀ (d t : Nat) (W : FI) (c : Bool) (B : Int) (x4 x5 : Option Value) (Z' : ZW), t + d = nb → wB nb B W → 0 ≤ B → B + 5184 * d ≤ 900000 → RelW Z0 Z' W nb → R = wR (gs (gfr (Z0 25) (Z0 17) (Z0 18) nb)) (gsB (gfr (Z0 25) (Z0 17) (Z0 18) nb)) nb d W c →
    OkZ none 58 9 [some (.ref 24), some (.ref 13), some (bI c), some (.int (I t)), x4, x5] [] Z' J (fun r Z' J' => J' = J ∧ r = some (.int (I (if nb = 0 then 0 else R 0))) ∧ ∀ (k : Nat) (j : Int), k ≠ 31 → Z' k j = Z0 k j) := by
  have hend : ∀ (W : FI) (Z' : ZW) (c : Bool) (t : Int) (x4 x5 : Option Value), RelW Z0 Z' W nb → R = W → OkZ none 58 89 [some (.ref 24), some (.ref 13), some (bI c), some (.int (I t)), x4, x5] [] Z' J (fun r Z' J' => J' = J ∧ r = some (.int (I (if nb = 0 then 0 else R 0))) ∧ ∀ (k : Nat) (j : Int), k ≠ 31 → Z' k j = Z0 k j) := by
    intro W Z' c t x4 x5 hR hRW
    have e14 : Z' 14 0 = nb := by rw [hR.2 14 0 (by decide)]; exact hnb
    refine z_aload_n rfl rfl ?_
    refine z_iconst rfl ?_
    refine z_callV1 rfl rfl rfl rfl rfl rfl (s_ghas (by omega) (by omega)) ?_
    refine z_ifb_eq rfl (fun h94 => ?_) (fun h94 => ?_)
    · refine z_iconst rfl ?_
      exact z_iret rfl rfl ⟨rfl, by rw [if_pos (Decidable.byContradiction (fun z => of_decide_eq_false h94 ⟨by omega, by omega⟩))], hR.2⟩
    · refine z_aload_n rfl rfl ?_
      refine z_getR rfl rfl rfl rfl ?_
      refine z_iconst rfl ?_
      refine z_iald rfl rfl (by omega) ?_
      refine z_goto rfl ?_
      exact z_iret rfl rfl ⟨rfl, by rw [if_neg (by have := of_decide_eq_true h94; omega), hRW, hR.1 0 (by omega) (by have := of_decide_eq_true h94; omega)], hR.2⟩
  intro d
  induction d with
  | zero =>
    intro t W c B x4 x5 Z' ht hW hB0 hB hR hRW
    have e14 : Z' 14 0 = nb := by rw [hR.2 14 0 (by decide)]; exact hnb
    refine z_iload_n rfl rfl ?_
    refine z_aload_n rfl rfl ?_
    refine z_getI (bi := 0) rfl rfl rfl rfl ?_
    refine z_icmp_ge rfl (by omega) (by omega) (fun h14 => ?_) (fun h14 => ?_)
    · exact hend W Z' c t x4 x5 hR hRW
    · exfalso; omega
  | succ d ih =>
    intro t W c B x4 x5 Z' ht hW hB0 hB hR hRW
    have e14 : Z' 14 0 = nb := by rw [hR.2 14 0 (by decide)]; exact hnb
    have hRW2 : R = if c then wR (gs (gfr (Z0 25) (Z0 17) (Z0 18) nb)) (gsB (gfr (Z0 25) (Z0 17) (Z0 18) nb)) nb d (wI (gs (gfr (Z0 25) (Z0 17) (Z0 18) nb)) nb W) (wC (gs (gfr (Z0 25) (Z0 17) (Z0 18) nb)) (gsB (gfr (Z0 25) (Z0 17) (Z0 18) nb)) nb W false) else W := hRW
    have hin := wIg_in (Z0 := Z0) hFT nb B W (Nat.le_refl _) hW hB0
    refine z_iload_n rfl rfl ?_
    refine z_aload_n rfl rfl ?_
    refine z_getI (bi := 0) rfl rfl rfl rfl ?_
    refine z_icmp_ge rfl (by omega) (by omega) (fun h14 => ?_) (fun h14 => ?_)
    · exfalso; omega
    · refine z_iload_n rfl rfl ?_
      refine z_ifb_eq rfl (fun h18 => ?_) (fun h18 => ?_)
      · rw [h18] at hRW2
        have hh := hend W Z' c t x4 x5 hR (by rw [hRW2]; rfl)
        exact hh
      · refine z_iconst rfl ?_
        refine z_istore_n rfl rfl rfl ?_
        refine z_aload_n rfl rfl ?_
        refine z_getI (bi := 0) rfl rfl rfl rfl ?_
        refine z_iconst rfl ?_
        refine z_isub rfl ?_
        refine z_istore rfl rfl rfl ?_
        rw [h18] at hRW2
        rw [e14]
        refine l_gin hnb hnb2 hFT nb W false B x5 Z' (Nat.le_refl _) hW hB0 (by omega) hR (fun Z2 y5 h2 => ?_)
        refine z_iinc rfl rfl rfl rfl ?_
        refine z_goto rfl ?_
        exact ih (t + 1) _ _ (B + 216 * nb) _ _ Z2 (by omega) hin (by omega) (by omega) h2 (by rw [hRW2]; rfl)
theorem s_gway {Z : ZW} {J : Int64} {nb : Nat} (hnb : Z 14 0 = nb) (hnb2 : nb ≤ 24) (hFT : FTok (Z 17) (Z 18) (Z 25) nb) : Mz 58 [.ref 24, .ref 13] Z J (fun r Z' J' => J' = J ∧ r = some (.int (I (if nb = 0 then 0 else wR (gs (gfr (Z 25) (Z 17) (Z 18) nb)) (gsB (gfr (Z 25) (Z 17) (Z 18) nb)) nb nb (fun _ => -1) true 0))) ∧ ∀ (k : Nat) (j : Int), k ≠ 31 → Z' k j = Z k j) := by
  unfold Mz
  refine z_aload_n rfl rfl ?_
  refine z_aload_n rfl rfl ?_
  refine z_callV1g rfl rfl rfl rfl rfl rfl (s_forget hnb hnb2) (fun r2 Z2 J2 q2 => ?_)
  obtain ⟨rfl, rfl, hR⟩ := q2
  show OkZ none 58 5 _ [] _ _ _
  refine z_iconst rfl ?_
  refine z_istore_n rfl rfl rfl ?_
  refine z_iconst rfl ?_
  refine z_istore_n rfl rfl rfl ?_
  exact l_gout hnb hnb2 hFT nb 0 (fun _ => -1) true 0 _ _ Z2 (by omega) (fun b _ _ => by dsimp only; omega) (by omega) (by omega) hR rfl
theorem stl_in {Z0 : ZW} {nb : Nat} {B k : Int} {W : FI} (hFT : FTok (Z0 17) (Z0 18) (Z0 25) nb) (h : wB nb B W) (hB : 0 ≤ B) (h0 : 0 ≤ k) (h1 : k < nb) : wB nb (B + 216) ((ls (lfr (Z0 25) (Z0 17) (Z0 18) (enB Z0) nb)) W k) := by
  unfold ls
  split
  · exact wB_up h (lfr_in hFT h hB h0 h1)
  · exact wB_mono h (by omega)
theorem wIl_in {Z0 : ZW} {nb : Nat} (hFT : FTok (Z0 17) (Z0 18) (Z0 25) nb) : ∀ (k : Nat) (B : Int) (W : FI), k ≤ nb → wB nb B W → 0 ≤ B → wB nb (B + 216 * k) (wI (ls (lfr (Z0 25) (Z0 17) (Z0 18) (enB Z0) nb)) k W) := by
  intro k
  induction k with
  | zero => intro B W _ h _; exact wB_mono h (by omega)
  | succ k ih =>
    intro B W hk h hB
    exact wB_mono (ih (B + 216) _ (by omega) (stl_in hFT h hB (by omega) (by omega)) (by omega)) (by omega)
set_option maxHeartbeats 4000000 in
theorem l_lin {Z0 : ZW} {J : Int64} {nb : Nat} {Φ : ZΦ} {x3 : Int} (hnb : Z0 14 0 = nb) (hnb2 : nb ≤ 24) (hFT : FTok (Z0 17) (Z0 18) (Z0 25) nb) : ∀ (k : Nat) (W : FI) (c : Bool) (B : Int) (x5 : Option Value) (Z' : ZW), k ≤ nb → wB nb B W → 0 ≤ B → B + 216 * k ≤ 1000000 → RelW Z0 Z' W nb →
    (∀ (Z2 : ZW) (y5 : Option Value), RelW Z0 Z2 (wI (ls (lfr (Z0 25) (Z0 17) (Z0 18) (enB Z0) nb)) k W) nb → OkZ none 60 74 [some (.ref 24), some (.ref 13), some (bI (wC (ls (lfr (Z0 25) (Z0 17) (Z0 18) (enB Z0) nb)) (lsB (lfr (Z0 25) (Z0 17) (Z0 18) (enB Z0) nb)) k W c)), some (.int (I x3)), some (.int (I (-1))), y5] [] Z2 J Φ) →
    OkZ none 60 31 [some (.ref 24), some (.ref 13), some (bI c), some (.int (I x3)), some (.int (I ((k : Int) - 1))), x5] [] Z' J Φ := by
  intro k
  induction k with
  | zero =>
    intro W c B x5 Z' _ _ _ _ hR hk
    refine z_iload rfl rfl ?_
    refine z_if_lt rfl (by omega) (fun h33 => ?_) (fun h33 => ?_)
    · exact hk Z' x5 hR
    · exfalso; omega
  | succ k ih =>
    intro W c B x5 Z' hkn hW hB0 hB hR hk
    have e14 : Z' 14 0 = nb := by rw [hR.2 14 0 (by decide)]; exact hnb
    have ek : ((k + 1 : Nat) : Int) - 1 = k := by omega
    rw [ek]
    have e17 : Z' 17 = Z0 17 := by funext j; exact hR.2 17 j (by decide)
    have e18 : Z' 18 = Z0 18 := by funext j; exact hR.2 18 j (by decide)
    have e25 : Z' 25 = Z0 25 := by funext j; exact hR.2 25 j (by decide)
    have e8 : enB Z' = enB Z0 := by funext p; exact enB_congr (hR.2 14 _ (by decide))
    have e31 : Z' 31 k = W k := hR.1 k (by omega) (by omega)
    have hWk := hW k (by omega) (by omega)
    have hfr := lfr_in (E := enB Z0) hFT hW hB0 (show (0 : Int) ≤ k by omega) (show (k : Int) < nb by omega)
    obtain ⟨v, ev⟩ : ∃ v, v = (lfr (Z0 25) (Z0 17) (Z0 18) (enB Z0) nb) W k := ⟨_, rfl⟩
    rw [← ev] at hfr
    have hcall : D 59 [.ref 24, .ref 13, .int (I (k : Int))] Z' J (some (.int (I v))) Z' J := by
      have hW' : wB nb B (Z' 31) := fun b b0 b1 => by rw [hR.1 b b0 b1]; exact hW b b0 b1
      have := s_lfrom (Z := Z') (J := J) (nb := nb) (B := B) (b := k) e14 hnb2 (by rw [e17, e18, e25]; exact hFT) (by omega) hW' (by omega)
      rw [e17, e18, e25, e8] at this
      have e9 : (lfr (Z0 25) (Z0 17) (Z0 18) (enB Z0) nb) (Z' 31) k = (lfr (Z0 25) (Z0 17) (Z0 18) (enB Z0) nb) W k := by
        unfold lfr
        rw [wy_rel hR, wy_rel hR]
      rwa [e9, ← ev] at this
    have hin := stl_in (k := (k : Int)) hFT hW hB0 (by omega) (by omega)
    refine z_iload rfl rfl ?_
    refine z_if_lt rfl (by omega) (fun h33 => ?_) (fun h33 => ?_)
    · exfalso; omega
    · refine z_aload_n rfl rfl ?_
      refine z_aload_n rfl rfl ?_
      refine z_iload rfl rfl ?_
      refine z_callV2 rfl rfl rfl rfl rfl rfl (hcall) ?_
      refine z_istore rfl rfl rfl ?_
      refine z_iload rfl rfl ?_
      refine z_aload_n rfl rfl ?_
      refine z_getR rfl rfl rfl rfl ?_
      refine z_iload rfl rfl ?_
      refine z_iald rfl rfl (by omega) ?_
      refine z_icmp_eq rfl (by omega) (by omega) (fun h54 => ?_) (fun h54 => ?_)
      · refine z_iinc rfl rfl rfl rfl ?_
        refine z_goto rfl ?_
        have hsb : lsB (lfr (Z0 25) (Z0 17) (Z0 18) (enB Z0) nb) W k = false := by unfold lsB; rw [← ev]; exact decide_eq_false (fun z => z (by rw [← e31]; exact h54))
        have hst : ls (lfr (Z0 25) (Z0 17) (Z0 18) (enB Z0) nb) W k = W := by unfold ls; rw [hsb]; rfl
        rw [hst] at hin
        have hk2 : ∀ (Z2 : ZW) (y5 : Option Value), RelW Z0 Z2 (wI (ls (lfr (Z0 25) (Z0 17) (Z0 18) (enB Z0) nb)) k W) nb → OkZ none 60 74 [some (.ref 24), some (.ref 13), some (bI (wC (ls (lfr (Z0 25) (Z0 17) (Z0 18) (enB Z0) nb)) (lsB (lfr (Z0 25) (Z0 17) (Z0 18) (enB Z0) nb)) k W c)), some (.int (I x3)), some (.int (I (-1))), y5] [] Z2 J Φ := by
          intro Z2 y5 h2
          have q := hk Z2 y5
          rw [show wI (ls (lfr (Z0 25) (Z0 17) (Z0 18) (enB Z0) nb)) (k + 1) W = wI (ls (lfr (Z0 25) (Z0 17) (Z0 18) (enB Z0) nb)) k ((ls (lfr (Z0 25) (Z0 17) (Z0 18) (enB Z0) nb)) W k) from rfl, show wC (ls (lfr (Z0 25) (Z0 17) (Z0 18) (enB Z0) nb)) (lsB (lfr (Z0 25) (Z0 17) (Z0 18) (enB Z0) nb)) (k + 1) W c = wC (ls (lfr (Z0 25) (Z0 17) (Z0 18) (enB Z0) nb)) (lsB (lfr (Z0 25) (Z0 17) (Z0 18) (enB Z0) nb)) k ((ls (lfr (Z0 25) (Z0 17) (Z0 18) (enB Z0) nb)) W k) (c || (lsB (lfr (Z0 25) (Z0 17) (Z0 18) (enB Z0) nb)) W k) from rfl, hst, hsb, Bool.or_false] at q
          exact q h2
        exact ih W c (B + 216) _ Z' (by omega) hin (by omega) (by omega) hR hk2
      · refine z_aload_n rfl rfl ?_
        refine z_getR rfl rfl rfl rfl ?_
        refine z_iload rfl rfl ?_
        refine z_iload rfl rfl ?_
        refine z_iast rfl rfl (by omega) ?_
        refine z_iconst rfl ?_
        refine z_istore_n rfl rfl rfl ?_
        refine z_iinc rfl rfl rfl rfl ?_
        refine z_goto rfl ?_
        have hsb : lsB (lfr (Z0 25) (Z0 17) (Z0 18) (enB Z0) nb) W k = true := by unfold lsB; rw [← ev]; exact decide_eq_true (fun z => h54 (by rw [e31]; exact z))
        have hst : ls (lfr (Z0 25) (Z0 17) (Z0 18) (enB Z0) nb) W k = updF W k v := by unfold ls; rw [hsb, ← ev]; rfl
        rw [hst] at hin
        have hk2 : ∀ (Z2 : ZW) (y5 : Option Value), RelW Z0 Z2 (wI (ls (lfr (Z0 25) (Z0 17) (Z0 18) (enB Z0) nb)) k (updF W k v)) nb → OkZ none 60 74 [some (.ref 24), some (.ref 13), some (bI (wC (ls (lfr (Z0 25) (Z0 17) (Z0 18) (enB Z0) nb)) (lsB (lfr (Z0 25) (Z0 17) (Z0 18) (enB Z0) nb)) k (updF W k v) true)), some (.int (I x3)), some (.int (I (-1))), y5] [] Z2 J Φ := by
          intro Z2 y5 h2
          have q := hk Z2 y5
          rw [show wI (ls (lfr (Z0 25) (Z0 17) (Z0 18) (enB Z0) nb)) (k + 1) W = wI (ls (lfr (Z0 25) (Z0 17) (Z0 18) (enB Z0) nb)) k ((ls (lfr (Z0 25) (Z0 17) (Z0 18) (enB Z0) nb)) W k) from rfl, show wC (ls (lfr (Z0 25) (Z0 17) (Z0 18) (enB Z0) nb)) (lsB (lfr (Z0 25) (Z0 17) (Z0 18) (enB Z0) nb)) (k + 1) W c = wC (ls (lfr (Z0 25) (Z0 17) (Z0 18) (enB Z0) nb)) (lsB (lfr (Z0 25) (Z0 17) (Z0 18) (enB Z0) nb)) k ((ls (lfr (Z0 25) (Z0 17) (Z0 18) (enB Z0) nb)) W k) (c || (lsB (lfr (Z0 25) (Z0 17) (Z0 18) (enB Z0) nb)) W k) from rfl, hst, hsb, Bool.or_true] at q
          exact q h2
        exact ih (updF W k v) true (B + 216) _ _ (by omega) hin (by omega) (by omega) (RelW_up hR k v) hk2
theorem l_lout {Z0 : ZW} {J : Int64} {nb : Nat} {R : FI} (hnb : Z0 14 0 = nb) (hnb2 : nb ≤ 24) (hFT : FTok (Z0 17) (Z0 18) (Z0 25) nb) : ∀ (d t : Nat) (W : FI) (c : Bool) (B : Int) (x4 x5 : Option Value) (Z' : ZW), t + d = nb → wB nb B W → 0 ≤ B → B + 5184 * d ≤ 900000 → RelW Z0 Z' W nb → R = wR (ls (lfr (Z0 25) (Z0 17) (Z0 18) (enB Z0) nb)) (lsB (lfr (Z0 25) (Z0 17) (Z0 18) (enB Z0) nb)) nb d W c →
    OkZ none 60 9 [some (.ref 24), some (.ref 13), some (bI c), some (.int (I t)), x4, x5] [] Z' J (fun r Z' J' => J' = J ∧ r = some (.int (I (if nb = 0 then 0 else R 0))) ∧ ∀ (k : Nat) (j : Int), k ≠ 31 → Z' k j = Z0 k j) := by
  have hend : ∀ (W : FI) (Z' : ZW) (c : Bool) (t : Int) (x4 x5 : Option Value), RelW Z0 Z' W nb → R = W → OkZ none 60 80 [some (.ref 24), some (.ref 13), some (bI c), some (.int (I t)), x4, x5] [] Z' J (fun r Z' J' => J' = J ∧ r = some (.int (I (if nb = 0 then 0 else R 0))) ∧ ∀ (k : Nat) (j : Int), k ≠ 31 → Z' k j = Z0 k j) := by
    intro W Z' c t x4 x5 hR hRW
    have e14 : Z' 14 0 = nb := by rw [hR.2 14 0 (by decide)]; exact hnb
    refine z_aload_n rfl rfl ?_
    refine z_iconst rfl ?_
    refine z_callV1 rfl rfl rfl rfl rfl rfl (s_ghas (by omega) (by omega)) ?_
    refine z_ifb_eq rfl (fun h85 => ?_) (fun h85 => ?_)
    · refine z_iconst rfl ?_
      exact z_iret rfl rfl ⟨rfl, by rw [if_pos (Decidable.byContradiction (fun z => of_decide_eq_false h85 ⟨by omega, by omega⟩))], hR.2⟩
    · refine z_aload_n rfl rfl ?_
      refine z_getR rfl rfl rfl rfl ?_
      refine z_iconst rfl ?_
      refine z_iald rfl rfl (by omega) ?_
      refine z_goto rfl ?_
      exact z_iret rfl rfl ⟨rfl, by rw [if_neg (by have := of_decide_eq_true h85; omega), hRW, hR.1 0 (by omega) (by have := of_decide_eq_true h85; omega)], hR.2⟩
  intro d
  induction d with
  | zero =>
    intro t W c B x4 x5 Z' ht hW hB0 hB hR hRW
    have e14 : Z' 14 0 = nb := by rw [hR.2 14 0 (by decide)]; exact hnb
    refine z_iload_n rfl rfl ?_
    refine z_aload_n rfl rfl ?_
    refine z_getI (bi := 0) rfl rfl rfl rfl ?_
    refine z_icmp_ge rfl (by omega) (by omega) (fun h14 => ?_) (fun h14 => ?_)
    · exact hend W Z' c t x4 x5 hR hRW
    · exfalso; omega
  | succ d ih =>
    intro t W c B x4 x5 Z' ht hW hB0 hB hR hRW
    have e14 : Z' 14 0 = nb := by rw [hR.2 14 0 (by decide)]; exact hnb
    have hRW2 : R = if c then wR (ls (lfr (Z0 25) (Z0 17) (Z0 18) (enB Z0) nb)) (lsB (lfr (Z0 25) (Z0 17) (Z0 18) (enB Z0) nb)) nb d (wI (ls (lfr (Z0 25) (Z0 17) (Z0 18) (enB Z0) nb)) nb W) (wC (ls (lfr (Z0 25) (Z0 17) (Z0 18) (enB Z0) nb)) (lsB (lfr (Z0 25) (Z0 17) (Z0 18) (enB Z0) nb)) nb W false) else W := hRW
    have hin := wIl_in (Z0 := Z0) hFT nb B W (Nat.le_refl _) hW hB0
    refine z_iload_n rfl rfl ?_
    refine z_aload_n rfl rfl ?_
    refine z_getI (bi := 0) rfl rfl rfl rfl ?_
    refine z_icmp_ge rfl (by omega) (by omega) (fun h14 => ?_) (fun h14 => ?_)
    · exfalso; omega
    · refine z_iload_n rfl rfl ?_
      refine z_ifb_eq rfl (fun h18 => ?_) (fun h18 => ?_)
      · rw [h18] at hRW2
        have hh := hend W Z' c t x4 x5 hR (by rw [hRW2]; rfl)
        exact hh
      · refine z_iconst rfl ?_
        refine z_istore_n rfl rfl rfl ?_
        refine z_aload_n rfl rfl ?_
        refine z_getI (bi := 0) rfl rfl rfl rfl ?_
        refine z_iconst rfl ?_
        refine z_isub rfl ?_
        refine z_istore rfl rfl rfl ?_
        rw [h18] at hRW2
        rw [e14]
        refine l_lin hnb hnb2 hFT nb W false B x5 Z' (Nat.le_refl _) hW hB0 (by omega) hR (fun Z2 y5 h2 => ?_)
        refine z_iinc rfl rfl rfl rfl ?_
        refine z_goto rfl ?_
        exact ih (t + 1) _ _ (B + 216 * nb) _ _ Z2 (by omega) hin (by omega) (by omega) h2 (by rw [hRW2]; rfl)
theorem s_lway {Z : ZW} {J : Int64} {nb : Nat} (hnb : Z 14 0 = nb) (hnb2 : nb ≤ 24) (hFT : FTok (Z 17) (Z 18) (Z 25) nb) : Mz 60 [.ref 24, .ref 13] Z J (fun r Z' J' => J' = J ∧ r = some (.int (I (if nb = 0 then 0 else wR (ls (lfr (Z 25) (Z 17) (Z 18) (enB Z) nb)) (lsB (lfr (Z 25) (Z 17) (Z 18) (enB Z) nb)) nb nb (fun _ => -1) true 0))) ∧ ∀ (k : Nat) (j : Int), k ≠ 31 → Z' k j = Z k j) := by
  unfold Mz
  refine z_aload_n rfl rfl ?_
  refine z_aload_n rfl rfl ?_
  refine z_callV1g rfl rfl rfl rfl rfl rfl (s_forget hnb hnb2) (fun r2 Z2 J2 q2 => ?_)
  obtain ⟨rfl, rfl, hR⟩ := q2
  show OkZ none 60 5 _ [] _ _ _
  refine z_iconst rfl ?_
  refine z_istore_n rfl rfl rfl ?_
  refine z_iconst rfl ?_
  refine z_istore_n rfl rfl rfl ?_
  exact l_lout hnb hnb2 hFT nb 0 (fun _ => -1) true 0 _ _ Z2 (by omega) (fun b _ _ => by dsimp only; omega) (by omega) (by omega) hR rfl
