/-! backward and forward ways have one best -/
def EdI (S F T : FI) (nb : Nat) : Prop := ∀ a b, edS S nb a b ↔ ((0 ≤ a ∧ a < (nb : Int)) ∧ (0 ≤ b ∧ b < (nb : Int)) ∧ (F a = b ∨ T a = b))
theorem V0_ok {sg : Bool} {S C V : FI} {nb : Nat} (h0 : 0 < nb) (h : WlP sg S C nb V) : btr sg (V 0) (C 0) := h.2.2.1 0 0 (C 0) (Nat.le_refl _) ⟨by omega, rfl, rfl⟩
theorem dual_least {S C F T V R : FI} {E : Int → Bool} {nb : Nat} (h0 : 0 < nb) (hC : ∀ b, 0 ≤ b → b < (nb : Int) → 1 ≤ C b) (hed : EdI S F T nb) (hV : WlP false S C nb V) (hn : NNw nb R) (hf : FixL C F T E nb R) : bf false E V nb = R 0 := by
  have up : ∀ (k : Nat) (b c : Int), VF S C nb k b c → R b ≠ -1 → R 0 ≠ -1 ∧ R 0 ≤ c - C b + R b := by
    intro k
    induction k with
    | zero =>
      intro b c h hb
      obtain ⟨h1, h2, h3⟩ := h
      have h2 : b = 0 := h2
      rw [h2] at hb h3 ⊢
      omega
    | succ k ih =>
      intro b c h hb
      obtain ⟨h1, a, h2, h3⟩ := h
      obtain ⟨e1, e2, e3⟩ := (hed a b).mp h2
      have q := lfr_C (E := E) (b := a) hn (hC a e1.1 e1.2) ⟨e2, e3⟩ hb
      rw [hf a e1.1 e1.2] at q
      have i := ih a _ h3 q.1
      omega
  have down : ∀ (N : Nat) (b : Int), (R b).toNat ≤ N → 0 ≤ b → b < (nb : Int) → V b ≠ -1 → R b ≠ -1 → ∃ e, (0 ≤ e ∧ e < (nb : Int)) ∧ E e = true ∧ V e ≠ -1 ∧ V e ≤ V b - C b + R b := by
    intro N
    induction N with
    | zero =>
      intro b hN b0 b1 hb hr
      have hCb := hC b b0 b1
      have g := hf b b0 b1
      rcases lfr_A (E := E) hn (by rw [g]; exact hr) with ⟨_, q⟩ | ⟨_, a, q1, q2, q⟩
      · rw [g] at q; omega
      · have := hn a q1.1.1 q1.1.2
        rw [g] at q; omega
    | succ N ih =>
      intro b hN b0 b1 hb hr
      have hCb := hC b b0 b1
      have g := hf b b0 b1
      rcases lfr_A (E := E) hn (by rw [g]; exact hr) with ⟨p, q⟩ | ⟨_, a, q1, q2, q⟩
      · rw [g] at q
        exact ⟨b, ⟨b0, b1⟩, p, hb, by omega⟩
      · have ha := hn a q1.1.1 q1.1.2
        rw [g] at q
        have v := hV.2.2.2 b a ((hed b a).mpr ⟨⟨b0, b1⟩, q1.1, q1.2⟩) hb
        have v2 := v.2
        rw [if_neg (by decide)] at v2
        obtain ⟨e, r1, r2, r3, r4⟩ := ih a (by omega) q1.1.1 q1.1.2 v.1 q2
        exact ⟨e, r1, r2, r3, by omega⟩
  have v0 := V0_ok h0 hV
  have v02 := v0.2
  rw [if_neg (by decide)] at v02
  rcases bf_spec (sg := false) (E := E) (V := V) nb with ⟨s1, s2⟩ | ⟨e, s1, s2, s3, s4, s5⟩
  · rw [s1]
    refine Classical.byContradiction fun z => ?_
    obtain ⟨e, r1, r2, r3, r4⟩ := down _ 0 (Nat.le_refl _) (by omega) (by omega) v0.1 (fun q => z q.symm)
    exact r3 (s2 e r1.1 r1.2 r2)
  · obtain ⟨k, hk⟩ := hV.2.1 e s1.1 s1.2 s4
    have ge := hf e s1.1 s1.2
    rw [lfr_E s2] at ge
    have hCe := hC e s1.1 s1.2
    have u := up k e _ hk (by omega)
    obtain ⟨e', r1, r2, r3, r4⟩ := down _ 0 (Nat.le_refl _) (by omega) (by omega) v0.1 u.1
    have := s5 e' r1.1 r1.2 r2 r3
    rw [if_neg (by decide)] at this
    omega
theorem gfr_G1 {C F T R : FI} {nb : Nat} {a b : Int} (hf : gfr C F T nb R a = R a) (ha : R a ≠ -1) (hb : 0 ≤ b ∧ b < (nb : Int)) (he : F a = b ∨ T a = b) : R b ≠ -1 ∧ C a + R b ≤ R a := by
  have h1 : gf1 F nb R a ≠ -1 := fun q => ha (by rw [← hf]; unfold gfr; rw [if_pos (Or.inl q)])
  have h2 : gf1 T nb R a ≠ -1 := fun q => ha (by rw [← hf]; unfold gfr; rw [if_pos (Or.inr q)])
  rw [← hf]
  unfold gfr
  rw [if_neg (fun z => z.elim h1 h2)]
  rcases he with he | he
  · have e : gf1 F nb R a = R b := by unfold gf1; rw [he, if_neg (by omega)]; exact wy_at hb
    rw [e] at h1 ⊢
    refine ⟨h1, ?_⟩
    split <;> omega
  · have e : gf1 T nb R a = R b := by unfold gf1; rw [he, if_neg (by omega)]; exact wy_at hb
    rw [e] at h2 ⊢
    refine ⟨h2, ?_⟩
    split <;> omega
theorem gf1_yes {F R : FI} {nb : Nat} {b : Int} (h : gf1 F nb R b ≠ -1) : (F b = -1 ∧ gf1 F nb R b = 0) ∨ ((0 ≤ F b ∧ F b < (nb : Int)) ∧ R (F b) ≠ -1 ∧ gf1 F nb R b = R (F b)) := by
  unfold gf1 at h ⊢
  by_cases z : F b = -1
  · rw [if_pos z]; exact Or.inl ⟨z, rfl⟩
  · rw [if_neg z] at h ⊢
    exact Or.inr (wy_yes h)
theorem gfr_G2 {C F T R : FI} {nb : Nat} {b : Int} (hC : ∀ b, 0 ≤ b → b < (nb : Int) → 1 ≤ C b) (hn : NNw nb R) (hfx : FixG C F T nb R) (hb : 0 ≤ b ∧ b < (nb : Int)) (hr : R b ≠ -1) : (F b = -1 ∧ T b = -1 ∧ R b = C b) ∨ ∃ a, (0 ≤ a ∧ a < (nb : Int)) ∧ (F b = a ∨ T b = a) ∧ R a ≠ -1 ∧ R b = C b + R a := by
  have hf := hfx b hb.1 hb.2
  have h1 : gf1 F nb R b ≠ -1 := fun q => hr (by rw [← hf]; unfold gfr; rw [if_pos (Or.inl q)])
  have h2 : gf1 T nb R b ≠ -1 := fun q => hr (by rw [← hf]; unfold gfr; rw [if_pos (Or.inr q)])
  have e : R b = C b + (if gf1 F nb R b < gf1 T nb R b then gf1 T nb R b else gf1 F nb R b) := by
    rw [← hf]
    unfold gfr
    rw [if_neg (fun z => z.elim h1 h2)]
  have pos : ∀ a, 0 ≤ a → a < (nb : Int) → R a ≠ -1 → 1 ≤ R a := fun a a0 a1 ha => by
    have := gfr_ge (F := F) (T := T) hn (hC a a0 a1)
    rw [hfx a a0 a1] at this
    have := hC a a0 a1
    omega
  rcases gf1_yes h1 with ⟨x1, x2⟩ | ⟨x1, x2, x3⟩
  · rcases gf1_yes h2 with ⟨y1, y2⟩ | ⟨y1, y2, y3⟩
    · refine Or.inl ⟨x1, y1, ?_⟩
      rw [e, x2, y2]
      simp
    · have := pos _ y1.1 y1.2 y2
      refine Or.inr ⟨T b, y1, Or.inr rfl, y2, ?_⟩
      rw [e, x2, y3, if_pos (by omega)]
  · rcases gf1_yes h2 with ⟨y1, y2⟩ | ⟨y1, y2, y3⟩
    · have := pos _ x1.1 x1.2 x2
      refine Or.inr ⟨F b, x1, Or.inl rfl, x2, ?_⟩
      rw [e, y2, x3, if_neg (by omega)]
    · rw [x3, y3] at e
      by_cases z : R (F b) < R (T b)
      · rw [if_pos z] at e
        exact Or.inr ⟨T b, y1, Or.inr rfl, y2, e⟩
      · rw [if_neg z] at e
        exact Or.inr ⟨F b, x1, Or.inl rfl, x2, e⟩
theorem gfr_G3 {C F T R : FI} {nb : Nat} {b : Int} (hC : ∀ b, 0 ≤ b → b < (nb : Int) → 1 ≤ C b) (hn : NNw nb R) (hfx : FixG C F T nb R) (hF : ∀ b, 0 ≤ b → b < (nb : Int) → (-1 ≤ F b ∧ F b < (nb : Int)) ∧ -1 ≤ T b ∧ T b < (nb : Int)) (hb : 0 ≤ b ∧ b < (nb : Int)) (hr : R b = -1) : ∃ a, (0 ≤ a ∧ a < (nb : Int)) ∧ (F b = a ∨ T b = a) ∧ R a = -1 := by
  have hf := hfx b hb.1 hb.2
  have hCb := hC b hb.1 hb.2
  have hFb := hF b hb.1 hb.2
  have g1 := gf1_ge (F := F) hn b
  have g2 := gf1_ge (F := T) hn b
  rw [hr] at hf
  by_cases h : gf1 F nb R b = -1 ∨ gf1 T nb R b = -1
  · rcases h with h | h
    · unfold gf1 at h
      by_cases z : F b = -1
      · rw [if_pos z] at h; omega
      · rw [if_neg z, wy_at (by omega)] at h
        exact ⟨F b, by omega, Or.inl rfl, h⟩
    · unfold gf1 at h
      by_cases z : T b = -1
      · rw [if_pos z] at h; omega
      · rw [if_neg z, wy_at (by omega)] at h
        exact ⟨T b, by omega, Or.inr rfl, h⟩
  · exfalso
    unfold gfr at hf
    rw [if_neg h] at hf
    have n1 : gf1 F nb R b ≠ -1 := fun q => h (Or.inl q)
    have n2 : gf1 T nb R b ≠ -1 := fun q => h (Or.inr q)
    split at hf <;> omega
theorem fi_bound (V : FI) : ∀ nb : Nat, ∃ B : Int, ∀ b, 0 ≤ b → b < (nb : Int) → V b ≤ B := by
  intro nb
  induction nb with
  | zero => exact ⟨0, fun b h0 h1 => by omega⟩
  | succ t ih =>
    obtain ⟨B, hB⟩ := ih
    refine ⟨if B < V t then V t else B, fun b h0 h1 => ?_⟩
    by_cases z : b = (t : Int)
    · rw [z]; split <;> omega
    · have := hB b h0 (by omega)
      split <;> omega
theorem dual_great {S C F T R W : FI} {E : Int → Bool} {nb : Nat} (hg : GrS S C nb) (h0 : 0 < nb) (hed : EdI S F T nb) (hF : ∀ b, 0 ≤ b → b < (nb : Int) → (-1 ≤ F b ∧ F b < (nb : Int)) ∧ -1 ≤ T b ∧ T b < (nb : Int)) (hE : ∀ b, 0 ≤ b → b < (nb : Int) → F b = -1 → T b = -1 → E b = true) (hn : NNw nb R) (hf : FixG C F T nb R) (hW : W0ok C W nb) : bwv true E nb (wl true S C nb nb W) = R 0 := by
  have hC := hg.2.1
  obtain ⟨w1, w2, w3⟩ := W0_ok (sg := true) hg hW
  obtain ⟨l1, l2⟩ := wl_ok (sg := true) hg nb 0 W (by omega) w1 w2 w3
  have g1 : ∀ a b, edS S nb a b → R a ≠ -1 → R b ≠ -1 ∧ C a + R b ≤ R a := fun a b he ha => by
    obtain ⟨e1, e2, e3⟩ := (hed a b).mp he
    exact gfr_G1 (hf a e1.1 e1.2) ha e2 e3
  by_cases hr : R 0 = -1
  · cases hw : wl true S C nb nb W with
    | none => exact hr.symm
    | some V =>
      exfalso
      have hV := l1 V hw
      have v0 := V0_ok h0 hV
      obtain ⟨B, hB⟩ := fi_bound V nb
      have key : ∀ (N : Nat) (b : Int), (B - V b).toNat ≤ N → 0 ≤ b → b < (nb : Int) → V b ≠ -1 → R b = -1 → False := by
        intro N
        induction N with
        | zero =>
          intro b hN b0 b1 hb hrb
          obtain ⟨a, q1, q2, q3⟩ := gfr_G3 hC hn hf hF ⟨b0, b1⟩ hrb
          have v := hV.2.2.2 b a ((hed b a).mpr ⟨⟨b0, b1⟩, q1, q2⟩) hb
          have v2 := v.2
          rw [if_pos rfl] at v2
          have := hB a q1.1 q1.2
          have := hB b b0 b1
          have := hC a q1.1 q1.2
          omega
        | succ N ih =>
          intro b hN b0 b1 hb hrb
          obtain ⟨a, q1, q2, q3⟩ := gfr_G3 hC hn hf hF ⟨b0, b1⟩ hrb
          have v := hV.2.2.2 b a ((hed b a).mpr ⟨⟨b0, b1⟩, q1, q2⟩) hb
          have v2 := v.2
          rw [if_pos rfl] at v2
          have := hB a q1.1 q1.2
          have := hC a q1.1 q1.2
          exact ih a (by omega) q1.1 q1.2 v.1 q3
      exact key _ 0 (Nat.le_refl _) (by omega) (by omega) v0.1 hr
  · have hfull : ∀ V, CovR true S C nb nb V → ∀ r, CovR true S C nb r V := fun V hc r k b c _ hv => by
      have hk := Vw_acyc (U := R) (P := fun b => R b ≠ -1) (fun b hb => by have hb : b = 0 := hb; rw [hb]; exact hr) (fun a b a0 a1 b0 b1 he ha => by
        have := g1 a b he ha
        have := hC a a0 a1
        exact ⟨by omega, by omega⟩) hv
      exact hc k b c (by omega) hv
    cases hw : wl true S C nb nb W with
    | none => exact absurd hw (l2 hfull)
    | some V =>
      have hV := l1 V hw
      have v0 := V0_ok h0 hV
      have v02 := v0.2
      rw [if_pos rfl] at v02
      show bf true E V nb = R 0
      have up : ∀ (k : Nat) (b c : Int), VF S C nb k b c → R b ≠ -1 ∧ c - C b + R b ≤ R 0 := by
        intro k
        induction k with
        | zero =>
          intro b c h
          obtain ⟨h1, h2, h3⟩ := h
          have h2 : b = 0 := h2
          rw [h2] at h3 ⊢
          exact ⟨hr, by omega⟩
        | succ k ih =>
          intro b c h
          obtain ⟨h1, a, h2, h3⟩ := h
          have i := ih a _ h3
          have q := g1 a b h2 i.1
          exact ⟨q.1, by omega⟩
      have down : ∀ (N : Nat) (b : Int), (R b).toNat ≤ N → 0 ≤ b → b < (nb : Int) → V b ≠ -1 → R b ≠ -1 → ∃ e, (0 ≤ e ∧ e < (nb : Int)) ∧ E e = true ∧ V e ≠ -1 ∧ V b - C b + R b ≤ V e := by
        intro N
        induction N with
        | zero =>
          intro b hN b0 b1 hb hrb
          have hCb := hC b b0 b1
          rcases gfr_G2 hC hn hf ⟨b0, b1⟩ hrb with ⟨_, _, q⟩ | ⟨a, q1, q2, q3, q4⟩
          · omega
          · have := hn a q1.1 q1.2
            omega
        | succ N ih =>
          intro b hN b0 b1 hb hrb
          have hCb := hC b b0 b1
          rcases gfr_G2 hC hn hf ⟨b0, b1⟩ hrb with ⟨q1, q2, q⟩ | ⟨a, q1, q2, q3, q4⟩
          · exact ⟨b, ⟨b0, b1⟩, hE b b0 b1 q1 q2, hb, by omega⟩
          · have ha := hn a q1.1 q1.2
            have v := hV.2.2.2 b a ((hed b a).mpr ⟨⟨b0, b1⟩, q1, q2⟩) hb
            have v2 := v.2
            rw [if_pos rfl] at v2
            obtain ⟨e, r1, r2, r3, r4⟩ := ih a (by omega) q1.1 q1.2 v.1 q3
            exact ⟨e, r1, r2, r3, by omega⟩
      obtain ⟨e', r1, r2, r3, r4⟩ := down _ 0 (Nat.le_refl _) (by omega) (by omega) v0.1 hr
      rcases bf_spec (sg := true) (E := E) (V := V) nb with ⟨s1, s2⟩ | ⟨e, s1, s2, s3, s4, s5⟩
      · exact absurd (s2 e' r1.1 r1.2 r2) r3
      · obtain ⟨k, hk⟩ := hV.2.1 e s1.1 s1.2 s4
        have u := up k e _ hk
        have ge := gfr_ge (F := F) (T := T) hn (hC e s1.1 s1.2)
        rw [hf e s1.1 s1.2] at ge
        have := s5 e' r1.1 r1.2 r2 r3
        rw [if_pos rfl] at this
        have := hC e s1.1 s1.2
        rcases ge with ge | ge
        · exact absurd ge u.1
        · omega
/-! of the program's own graph -/
theorem gS_edge {op rb : FI} {n : Nat} (hn : n ≤ 24) (hop : OPok op rb n) {S : FI} (hS : ∀ b, 0 ≤ b → b < (gnb op rb n : Int) → S b = gS op rb n b) : EdI S (gF op rb n) (gT op rb n) (gnb op rb n) := by
  have hg := gnb_le op rb n
  intro a b
  constructor
  · rintro ⟨h1, h2, h3⟩
    rw [hS a h1.1 h1.2] at h3
    unfold gS at h3
    rw [tb_or, tb_bitv h2, tb_bitv h2] at h3
    have f := gF_in (op := op) (rb := rb) (n := n) h1.1 h1.2
    have t := gT_in hop h1.1 h1.2
    rcases Bool.or_eq_true_iff.mp h3 with q | q
    · have q := of_decide_eq_true q
      exact ⟨h1, by omega, Or.inl q.symm⟩
    · have q := of_decide_eq_true q
      exact ⟨h1, by omega, Or.inr q.symm⟩
  · rintro ⟨h1, h2, h3⟩
    refine ⟨h1, by omega, ?_⟩
    rw [hS a h1.1 h1.2]
    unfold gS
    rw [tb_or, tb_bitv (by omega), tb_bitv (by omega)]
    rcases h3 with q | q
    · rw [decide_eq_true q.symm]; rfl
    · rw [decide_eq_true q.symm, Bool.or_true]
theorem gE_end {op rb : FI} {n : Nat} {b : Int} (h1 : gF op rb n b = -1) (h2 : gT op rb n b = -1) : gE op rb n b = true := by
  unfold gE
  rw [decide_eq_true h1, decide_eq_true h2, Bool.and_true, Bool.and_true]
  unfold goB jmB
  by_cases h7 : op (gla op rb n b) = 7
  · rw [decide_eq_true h7]; rfl
  · by_cases h4 : op (gla op rb n b) = 4
    · rw [decide_eq_true (Or.inl h4), Bool.or_true]
    · rw [decide_eq_true (show op (gla op rb n b) ≠ 4 ∧ op (gla op rb n b) ≠ 7 from ⟨h4, h7⟩), Bool.or_true]
      rfl
theorem bwv_nil (sg : Bool) (S C W : FI) (E : Int → Bool) : bwv sg E 0 (wl sg S C 0 0 W) = -1 := rfl
theorem GrS_of {co op rb S C : FI} {n : Nat} (hn : n ≤ 24) (hop : OPok op rb n) (hco : COk co) (h : ∀ b, 0 ≤ b → b < (gnb op rb n : Int) → S b = gS op rb n b ∧ C b = gC co op rb n b) : GrS S C (gnb op rb n) := by
  have hg := gnb_le op rb n
  have hk := gok hn hop hco
  refine ⟨by omega, fun b b0 b1 => ?_, fun b hb => ?_⟩
  · rw [(h b b0 b1).2]; exact (hk b b0 b1).2.2.1
  · rw [(h b (by omega) (by omega)).1]; exact OnB_gS hop b hb
theorem bw_great {co op rb : FI} {n : Nat} (hn : n ≤ 24) (hop : OPok op rb n) (hco : COk co) : BWok true co op rb n (wR (gs (gfr (gC co op rb n) (gF op rb n) (gT op rb n) (gnb op rb n))) (gsB (gfr (gC co op rb n) (gF op rb n) (gT op rb n) (gnb op rb n))) (gnb op rb n) (gnb op rb n) (fun _ => -1) true 0) := by
  intro S C W E h hW
  by_cases h0 : gnb op rb n = 0
  · rw [h0]
    exact (bwv_nil true S C W E).symm
  · have hgr := GrS_of hn hop hco (fun b b0 b1 => ⟨(h b b0 b1).1, (h b b0 b1).2.1⟩)
    rw [← wRg_congr (C := C) (F := gF op rb n) (T := gT op rb n) (fun b b0 b1 => ⟨(h b b0 b1).2.1, rfl, rfl⟩)]
    obtain ⟨g1, g2⟩ := greatW (F := gF op rb n) (T := gT op rb n) hgr.2.1
    exact (dual_great hgr (by omega) (gS_edge hn hop (fun b b0 b1 => (h b b0 b1).1)) (fun b b0 b1 => ⟨gF_in b0 b1, gT_in hop b0 b1⟩) (fun b b0 b1 e1 e2 => by rw [(h b b0 b1).2.2]; exact gE_end e1 e2) g1 g2 hW).symm
theorem bw_least {co op rb : FI} {n : Nat} (hn : n ≤ 24) (hop : OPok op rb n) (hco : COk co) : BWok false co op rb n (wR (ls (lfr (gC co op rb n) (gF op rb n) (gT op rb n) (gE op rb n) (gnb op rb n))) (lsB (lfr (gC co op rb n) (gF op rb n) (gT op rb n) (gE op rb n) (gnb op rb n))) (gnb op rb n) (gnb op rb n) (fun _ => -1) true 0) := by
  intro S C W E h hW
  by_cases h0 : gnb op rb n = 0
  · rw [h0]
    exact (bwv_nil false S C W E).symm
  · have hgr := GrS_of hn hop hco (fun b b0 b1 => ⟨(h b b0 b1).1, (h b b0 b1).2.1⟩)
    rw [← wRl_congr (C := C) (F := gF op rb n) (T := gT op rb n) (E := E) (fun b b0 b1 => ⟨(h b b0 b1).2.1, rfl, rfl, (h b b0 b1).2.2⟩)]
    obtain ⟨g1, g2⟩ := leastW (F := gF op rb n) (T := gT op rb n) (E := E) hgr.2.1
    obtain ⟨w1, w2, w3⟩ := W0_ok (sg := false) hgr hW
    obtain ⟨l1, l2⟩ := wl_ok (sg := false) hgr (gnb op rb n) 0 W (by omega) w1 w2 w3
    have hfull : ∀ V, CovR false S C (gnb op rb n) (gnb op rb n) V → ∀ r, CovR false S C (gnb op rb n) r V := fun V hc r k b c _ hv => by
      obtain ⟨k', c', q1, q2, q3⟩ := Vw_short hgr.2.1 k k b c (Nat.le_refl _) hv
      exact btr_trans (hc k' b c' (by omega) q3) (by rw [if_neg (by decide)]; exact q2)
    cases hw : wl false S C (gnb op rb n) (gnb op rb n) W with
    | none => exact absurd hw (l2 hfull)
    | some V => exact (dual_least (by omega) hgr.2.1 (gS_edge hn hop (fun b b0 b1 => (h b b0 b1).1)) (l1 V hw) g1 g2).symm
