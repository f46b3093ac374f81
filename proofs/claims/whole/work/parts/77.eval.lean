/-! closed evaluation: what the constructors do -/
abbrev XS : Type := Nat × List (Option Value) × List Value × MW
def sx (i : Nat) (q : MOp) (lv : List (Option Value)) (st : List Value) (w : MW) : Option XS := match q with
  | (.aload_n k, nx, _, _, _, _) => (match lv[(k : Nat)]? with
    | some (some (.ref x)) => some (nx, lv, .ref x :: st, w)
    | _ => none)
  | (.iload_n k, nx, _, _, _, _) => (match lv[(k : Nat)]? with
    | some (some (.int x)) => some (nx, lv, .int x :: st, w)
    | _ => none)
  | (.iconst n, nx, _, _, _, _) => some (nx, lv, .int (Int32.ofInt n) :: st, w)
  | (.bipush n, nx, _, _, _, _) => some (nx, lv, .int (Int8.ofInt n).toInt32 :: st, w)
  | (.sipush n, nx, _, _, _, _) => some (nx, lv, .int (Int16.ofInt n).toInt32 :: st, w)
  | (.dup, nx, _, _, _, _) => (match st with
    | v :: t => if v.category = 1 then some (nx, lv, v :: v :: t, w) else none
    | _ => none)
  | (.istore_n k, nx, _, _, _, _) => (match st with
    | .int x :: t => if (k : Nat) < mMax i ∧ stG lv (k : Nat) = true then some (nx, lv.set (k : Nat) (some (.int x)), t, w) else none
    | _ => none)
  | (.iinc k n, nx, _, _, _, _) => (match lv[k]? with
    | some (some (.int x)) => if k < mMax i ∧ stG lv k = true then some (nx, lv.set k (some (.int (x + Int32.ofInt n))), st, w) else none
    | _ => none)
  | (.goto _, _, a, _, _, _) => some (a, lv, st, w)
  | (.if_icmp .ge _, nx, a, _, _, _) => (match st with
    | .int y :: .int x :: t => if y ≤ x then some (a, lv, t, w) else some (nx, lv, t, w)
    | _ => none)
  | (.iadd, nx, _, _, _, _) => (match st with
    | .int y :: .int x :: t => some (nx, lv, .int (x + y) :: t, w)
    | _ => none)
  | (.getfield _, nx, a, b, [_], _) => (match st with
    | .ref k :: t => (match w[k]? with
      | some (false, a', fs) => if a' = a then (match fs[b]? with
          | some v => some (nx, lv, v :: t, w)
          | none => none)
        else none
      | _ => none)
    | _ => none)
  | (.putfield _, nx, a, b, [_], _) => (match st with
    | v :: .ref k :: t => (match w[k]? with
      | some (false, a', fs) => if a' = a ∧ fitV (tyOf a b) v = true ∧ b < fs.length then some (nx, lv, t, w.set k (false, a, fs.set b v)) else none
      | _ => none)
    | _ => none)
  | (.newarray _, nx, a, _, [_], _) => (match st with
    | .int x :: t => if ¬ x < 0 ∧ x.toNatClampNeg ≤ 1000 ∧ w.length < 999 then some (nx, lv, .ref w.length :: t, w ++ [(true, a, List.replicate x.toNatClampNeg (.int 0))]) else none
    | _ => none)
  | (.anewarray _, nx, _, _, [_], _) => (match st with
    | .int x :: t => if ¬ x < 0 ∧ x.toNatClampNeg ≤ 1000 ∧ w.length < 999 then some (nx, lv, .ref w.length :: t, w ++ [(true, 2, List.replicate x.toNatClampNeg .null)]) else none
    | _ => none)
  | (.new _, nx, a, _, [_, _, _], _) => if w.length < 999 then some (nx, lv, .ref w.length :: st, w ++ [(false, a, dfl a)]) else none
  | (.invokespecial _, nx, _, _, [_, _], cv) => if cv = .int 2 then (match st with
    | .ref _ :: t => if (t.map fun v => v.category).sum ≤ 8 then some (nx, lv, t, w) else none
    | _ => none) else none
  | (.iastore, nx, _, _, _, _) => (match st with
    | .int y :: .int x :: .ref k :: t => (match w[k]? with
      | some (true, 0, fs) => if 0 ≤ x.toInt ∧ x.toInt < (fs.length : Int) then some (nx, lv, t, w.set k (true, 0, fs.set x.toNatClampNeg (.int y))) else none
      | _ => none)
    | _ => none)
  | (.aastore, nx, _, _, _, _) => (match st with
    | .ref y :: .int x :: .ref k :: t => (match w[k]? with
      | some (true, 2, fs) => (match w[y]? with
        | some (false, 5, _) => if 0 ≤ x.toInt ∧ x.toInt < (fs.length : Int) then some (nx, lv, t, w.set k (true, 2, fs.set x.toNatClampNeg (.ref y))) else none
        | _ => none)
      | _ => none)
    | _ => none)
  | _ => none
def grows (w w' : MW) : Prop := w.length ≤ w'.length ∧ wsz w ≤ wsz w'
theorem grows_rf (w : MW) : grows w w := ⟨Nat.le_refl _, Nat.le_refl _⟩
theorem grows_tr {a b c : MW} (h1 : grows a b) (h2 : grows b c) : grows a c := ⟨Nat.le_trans h1.1 h2.1, Nat.le_trans h1.2 h2.2⟩
theorem grows_set {w : MW} {k : Nat} {c c' : MCell} (h : w[k]? = some c) (hl : c'.2.2.length = c.2.2.length) : grows w (w.set k c') := ⟨by rw [List.length_set]; exact Nat.le_refl _, by rw [wsz_set h hl]; exact Nat.le_refl _⟩
theorem grows_app (w : MW) (c : MCell) : grows w (w ++ [c]) := ⟨by rw [List.length_append]; omega, by rw [wsz_app]; omega⟩
theorem sx_ok {sc : Option (Nat × (Nat → Int32))} {i pc pc' : Nat} {q : MOp} {lv lv' : List (Option Value)} {st st' : List Value} {w w' : MW} (hf : fetch i pc = some q) (h : sx i q lv st w = some (pc', lv', st', w')) : grows w w' ∧ ∀ (cap scap : Nat) (Φ : Option Value → MW → Prop), w'.length ≤ cap → wsz w' ≤ scap → Ok sc i pc' lv' st' w' cap scap Φ → Ok sc i pc lv st w cap scap Φ := by
  unfold sx at h
  split at h
  · split at h
    · next hv => cases h; exact ⟨grows_rf _, fun _ _ _ _ _ k => r_aload_n hf hv k⟩
    · cases h
  · split at h
    · next hv => cases h; exact ⟨grows_rf _, fun _ _ _ _ _ k => r_iload_n hf hv k⟩
    · cases h
  · cases h; exact ⟨grows_rf _, fun _ _ _ _ _ k => r_iconst hf k⟩
  · cases h; exact ⟨grows_rf _, fun _ _ _ _ _ k => r_bipush hf rfl k⟩
  · cases h; exact ⟨grows_rf _, fun _ _ _ _ _ k => r_sipush hf rfl k⟩
  · split at h
    · split at h
      · next hv => cases h; exact ⟨grows_rf _, fun _ _ _ _ _ k => r_dup hf hv k⟩
      · cases h
    · cases h
  · split at h
    · split at h
      · next hv => cases h; exact ⟨grows_rf _, fun _ _ _ _ _ k => r_istore_n hf hv.1 hv.2 k⟩
      · cases h
    · cases h
  · split at h
    · next hx =>
      split at h
      · next hv => cases h; exact ⟨grows_rf _, fun _ _ _ _ _ k => r_iinc hf hx hv.1 hv.2 k⟩
      · cases h
    · cases h
  · cases h; exact ⟨grows_rf _, fun _ _ _ _ _ k => r_goto hf k⟩
  · split at h
    · split at h
      · next hv => cases h; exact ⟨grows_rf _, fun _ _ _ _ _ k => r_icmp_ge hf (fun _ => k) (fun z => absurd hv z)⟩
      · next hv => cases h; exact ⟨grows_rf _, fun _ _ _ _ _ k => r_icmp_ge hf (fun z => absurd z hv) (fun _ => k)⟩
    · cases h
  · split at h
    · cases h; exact ⟨grows_rf _, fun _ _ _ _ _ k => r_iadd hf k⟩
    · cases h
  · split at h
    · split at h
      · next hw =>
        split at h
        · next ha =>
          subst ha
          split at h
          · next hv => cases h; exact ⟨grows_rf _, fun _ _ _ _ _ k => r_getf hf hw hv k⟩
          · cases h
        · cases h
      · cases h
    · cases h
  · split at h
    · split at h
      · next hw =>
        split at h
        · next ha =>
          obtain ⟨rfl, h2, h3⟩ := ha
          cases h
          exact ⟨grows_set hw (by rw [List.length_set]), fun _ _ _ _ _ k => r_putf hf hw h2 h3 k⟩
        · cases h
      · cases h
    · cases h
  · split at h
    · split at h
      · next hv =>
        cases h
        refine ⟨grows_app _ _, fun cap scap Φ h1 h2 k => r_newa hf hv.1 rfl hv.2.1 hv.2.2 ?_ ?_ k⟩
        · rw [List.length_append] at h1; exact h1
        · rw [wsz_app, List.length_replicate] at h2; exact h2
      · cases h
    · cases h
  · split at h
    · split at h
      · next hv =>
        cases h
        refine ⟨grows_app _ _, fun cap scap Φ h1 h2 k => r_anew hf hv.1 rfl hv.2.1 hv.2.2 ?_ ?_ k⟩
        · rw [List.length_append] at h1; exact h1
        · rw [wsz_app, List.length_replicate] at h2; exact h2
      · cases h
    · cases h
  · split at h
    · next hv =>
      cases h
      refine ⟨grows_app _ _, fun cap scap Φ h1 h2 k => r_new hf hv ?_ ?_ k⟩
      · rw [List.length_append] at h1; exact h1
      · rw [wsz_app] at h2; exact h2
    · cases h
  · split at h
    · next hcv =>
      subst hcv
      split at h
      · split at h
        · next hv => cases h; exact ⟨grows_rf _, fun _ _ _ _ _ k => r_objI hf hv k⟩
        · cases h
      · cases h
    · cases h
  · split at h
    · split at h
      · next hw =>
        split at h
        · next hv =>
          cases h
          exact ⟨grows_set hw (by rw [List.length_set]), fun _ _ _ _ _ k => r_iast hf hw (vp_in_iff.mpr hv) k⟩
        · cases h
      · cases h
    · cases h
  · split at h
    · split at h
      · next hw =>
        split at h
        · next hy =>
          split at h
          · next hv =>
            cases h
            exact ⟨grows_set hw (by rw [List.length_set]), fun _ _ _ _ _ k => r_aast hf hw (vp_in_iff.mpr hv) hy k⟩
          · cases h
        · cases h
      · cases h
    · cases h
  · cases h
def cl (q : MOp) : Option (Nat × Nat × Nat) := match q with
  | (.invokespecial _, nx, a, b, [_, _, _], _) => some (nx, a, b)
  | (.invokespecial _, nx, a, b, [_, _], cv) => if cv = .int 1 then some (nx, a, b) else none
  | _ => none
def spl (b : Nat) (st : List Value) : Option (List Value × Nat × List Value) := match b, st with
  | 0, .ref k :: t => some ([], k, t)
  | 1, x :: .ref k :: t => some ([x], k, t)
  | _, _ => none
theorem spl_ok {b k : Nat} {st As t : List Value} (h : spl b st = some (As, k, t)) : st = As.reverse ++ .ref k :: t ∧ As.length = b := by
  unfold spl at h
  split at h
  · cases h; exact ⟨rfl, rfl⟩
  · cases h; exact ⟨rfl, rfl⟩
  · cases h
theorem cl_ok {sc : Option (Nat × (Nat → Int32))} {i pc nx a b k dc ds : Nat} {q : MOp} {lv : List (Option Value)} {As t : List Value} {w : MW} {c0 : MCell} {cap scap : Nat} {Φ Ψ : Option Value → MW → Prop} (hf : fetch i pc = some q) (hcl : cl q = some (nx, a, b)) (ha : a < 154) (hw : w[k]? = some c0) (hn : As.length = b) (hlen : (argL (.ref k :: As)).length ≤ mMax a) (hrest : (t.map fun v => v.category).sum ≤ 8)
    (hM : Ok none a 0 (argL (.ref k :: As)) [] w (w.length + dc) (wsz w + ds) Ψ) (hΨ : ∀ r w', Ψ r w' → w'.length = w.length + dc ∧ wsz w' = wsz w + ds) (hcap : w.length + dc ≤ cap) (hscap : wsz w + ds ≤ scap) (h : ∀ r w', Ψ r w' → Ok sc i nx lv (r.toList ++ t) w' cap scap Φ) : Ok sc i pc lv (As.reverse ++ .ref k :: t) w cap scap Φ := by
  unfold cl at hcl
  split at hcl
  · cases hcl; exact r_callI hf ha hw hn hlen hrest hM hΨ hcap hscap h
  · split at hcl
    · next hcv => subst hcv; cases hcl; exact r_callIN hf ha hw hn hlen hrest hM hΨ hcap hscap h
    · cases hcl
  · cases hcl
def ex : Nat → Nat → Nat → List (Option Value) → List Value → MW → Option MW
  | 0, _, _, _, _, _ => none
  | f + 1, i, pc, lv, st, w => match fetch i pc with
    | none => none
    | some q => match cl q with
      | some (nx, a, b) => (match spl b st with
        | some (As, k, t) => if a < 154 ∧ (argL (.ref k :: As)).length ≤ mMax a ∧ (t.map fun v => v.category).sum ≤ 8 ∧ k < w.length then (match ex f a 0 (padL a (.ref k :: As)) [] w with
            | some w1 => ex f i nx lv t w1
            | none => none) else none
        | none => none)
      | none => (match sx i q lv st w with
        | some (pc', lv', st', w') => ex f i pc' lv' st' w'
        | none => if q.1 = .return_ ∧ mRet i = none ∧ st = [] then some w else none)
theorem ex_ok : ∀ (f i pc : Nat) (lv : List (Option Value)) (st : List Value) (w w' : MW), ex f i pc lv st w = some w' → grows w w' ∧ ∀ (sc : Option (Nat × (Nat → Int32))) (cap scap : Nat), w'.length ≤ cap → wsz w' ≤ scap → Ok sc i pc lv st w cap scap (fun r v => r = none ∧ v = w') := by
  intro f
  induction f with
  | zero => intro i pc lv st w w' h; cases h
  | succ f ih =>
    intro i pc lv st w w' h
    unfold ex at h
    split at h
    · cases h
    · next q hf =>
      split at h
      · next nx a b hcl =>
        split at h
        · next As k t hs =>
          obtain ⟨e1, e2⟩ := spl_ok hs
          split at h
          · next hc =>
            split at h
            · next w1 h1 =>
              obtain ⟨g1, k1⟩ := ih _ _ _ _ _ _ h1
              obtain ⟨g2, k2⟩ := ih _ _ _ _ _ _ h
              refine ⟨grows_tr g1 g2, fun sc cap scap l1 l2 => ?_⟩
              rw [e1]
              have a1 := g1.1
              have a2 := g1.2
              have b1 := g2.1
              have b2 := g2.2
              refine cl_ok (dc := w1.length - w.length) (ds := wsz w1 - wsz w) (Ψ := fun r v => r = none ∧ v = w1) hf hcl hc.1 (List.getElem?_eq_getElem hc.2.2.2) e2 hc.2.1 hc.2.2.1 (Ok.pad (k1 none _ _ (by omega) (by omega))) (fun r v z => ?_) (by omega) (by omega) (fun r v z => ?_)
              · rw [z.2]; omega
              · obtain ⟨z1, z2⟩ := z
                rw [z1, z2]
                exact k2 sc cap scap l1 l2
            · cases h
          · cases h
        · cases h
      · split at h
        · next hsx =>
          obtain ⟨g1, k1⟩ := sx_ok (sc := none) hf hsx
          obtain ⟨g2, k2⟩ := ih _ _ _ _ _ _ h
          refine ⟨grows_tr g1 g2, fun sc cap scap l1 l2 => ?_⟩
          have b1 := g2.1
          have b2 := g2.2
          exact (sx_ok hf hsx).2 cap scap _ (by omega) (by omega) (k2 sc cap scap l1 l2)
        · split at h
          · next hc =>
            cases h
            obtain ⟨ins, q2, q3, q4, q5, q6⟩ := q
            obtain ⟨c1, c2, c3⟩ := hc
            have c1 : ins = .return_ := c1
            subst c1
            subst c3
            exact ⟨grows_rf _, fun sc cap scap _ _ => r_vret hf c2 ⟨rfl, rfl⟩⟩
          · cases h
