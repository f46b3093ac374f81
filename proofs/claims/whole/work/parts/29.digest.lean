/-! the class: the digest -/
def mx (h : Int64) (x : Int) : Int64 := 31 * h + (I x).toInt64
def h0 : Int64 := 2663
def mxU (g : Int → Int64 → Int64) : Nat → Int → Int64 → Int64
  | 0, _, h => h
  | d + 1, t, h => mxU g d (t + 1) (g t h)
def mxs (f : FI) (n : Nat) (h : Int64) : Int64 := mxU (fun t h => mx h (f t)) n 0 h
def MS (h : Int64) (co : FI) (n : Nat) (op : FI) : Int64 := mxs op n (mx (mxs co 8 h) n)
def MB (S C H K : FI) (t : Int) (h : Int64) : Int64 := mx (mx (mx (mx h (S t)) (C t)) (H t)) (K t)
def MF (h : Int64) (nb : Nat) (S C H K : FI) (R G L : Int) : Int64 := mx (mx (mx (mxU (MB S C H K) nb 0 (mx h nb)) R) G) L
def ML (h : Int64) (a b c d : Int) (v : FI) (e : Int) : Int64 := mx (mxs v 4 (mx (mx (mx (mx h a) b) c) d)) e
theorem mxU_congr {g g' : Int → Int64 → Int64} : ∀ (d : Nat) (t : Int) (h : Int64), (∀ j h, t ≤ j → j < t + d → g j h = g' j h) → mxU g d t h = mxU g' d t h := by
  intro d
  induction d with
  | zero => intro t h e; rfl
  | succ d ih =>
    intro t h e
    show mxU g d (t + 1) (g t h) = mxU g' d (t + 1) (g' t h)
    rw [e t h (Int.le_refl _) (by omega)]
    exact ih _ _ (fun j h j0 j1 => e j h (by omega) (by omega))
theorem s_mix {Z : ZW} {J : Int64} {h : Int64} {x : Int} : D 93 [.long h, .int (I x)] Z J (some (.long (mx h x))) Z J := by
  unfold D Mz
  refine z_ldc2 rfl ?_
  refine z_lload_n rfl rfl ?_
  refine z_lmul rfl ?_
  refine z_iload_n rfl rfl ?_
  refine z_i2l rfl ?_
  refine z_ladd rfl ?_
  exact z_lret rfl rfl ⟨rfl, rfl, rfl⟩
theorem l_ms1 {Z : ZW} {J : Int64} {h1 : Int64} {Φ : ZΦ} {n : Nat} (hn2 : n ≤ 24) (hn : n = 8) {v : Int64} : ∀ (d : Nat) (t : Int) (h : Int64), 0 ≤ t → t + d = n → v = mxU (fun t h => mx h (Z 8 t)) d t h → OkZ none 94 33 [some (.ref 0), some (.long h1), none, some (.long v), none, some (.int (I (n : Int)))] [] Z J Φ → OkZ none 94 5 [some (.ref 0), some (.long h1), none, some (.long h), none, some (.int (I t))] [] Z J Φ := by
  intro d
  induction d with
  | zero =>
    intro t h t0 t1 hv hk
    have et : t = (n : Int) := by omega
    have hv : v = h := hv
    rw [← et, hv] at hk
    refine z_iload rfl rfl ?_
    refine z_bipush rfl (by decide) ?_
    refine z_icmp_ge rfl (by omega) (by omega) (fun h9 => ?_) (fun h9 => ?_)
    · exact hk
    · exfalso; omega
  | succ d ih =>
    intro t h t0 t1 hv hk
    refine z_iload rfl rfl ?_
    refine z_bipush rfl (by decide) ?_
    refine z_icmp_ge rfl (by omega) (by omega) (fun h9 => ?_) (fun h9 => ?_)
    · exfalso; omega
    · refine z_lload_n rfl rfl ?_
      refine z_aload_n rfl rfl ?_
      refine z_getR rfl rfl rfl rfl ?_
      refine z_getR rfl rfl rfl rfl ?_
      refine z_iload rfl rfl ?_
      refine z_iald rfl rfl (by omega) ?_
      refine z_callS2 rfl rfl rfl rfl (s_mix) ?_
      refine z_lstore_n rfl rfl rfl ?_
      refine z_iinc rfl rfl rfl rfl ?_
      refine z_goto rfl ?_
      exact ih (t + 1) _ (by omega) (by omega) hv hk
theorem l_ms2 {Z : ZW} {J : Int64} {h1 : Int64} {Φ : ZΦ} {n : Nat} (hn2 : n ≤ 24) (hn : Z 4 0 = n) {v : Int64} : ∀ (d : Nat) (t : Int) (h : Int64), 0 ≤ t → t + d = n → v = mxU (fun t h => mx h (Z 5 t)) d t h → OkZ none 94 81 [some (.ref 0), some (.long h1), none, some (.long v), none, some (.int (I (n : Int)))] [] Z J Φ → OkZ none 94 48 [some (.ref 0), some (.long h1), none, some (.long h), none, some (.int (I t))] [] Z J Φ := by
  intro d
  induction d with
  | zero =>
    intro t h t0 t1 hv hk
    have et : t = (n : Int) := by omega
    have hv : v = h := hv
    rw [← et, hv] at hk
    refine z_iload rfl rfl ?_
    refine z_aload_n rfl rfl ?_
    refine z_getR rfl rfl rfl rfl ?_
    refine z_getI (bi := 0) rfl rfl rfl rfl ?_
    rw [hn]
    refine z_icmp_ge rfl (by omega) (by omega) (fun h57 => ?_) (fun h57 => ?_)
    · exact hk
    · exfalso; omega
  | succ d ih =>
    intro t h t0 t1 hv hk
    refine z_iload rfl rfl ?_
    refine z_aload_n rfl rfl ?_
    refine z_getR rfl rfl rfl rfl ?_
    refine z_getI (bi := 0) rfl rfl rfl rfl ?_
    rw [hn]
    refine z_icmp_ge rfl (by omega) (by omega) (fun h57 => ?_) (fun h57 => ?_)
    · exfalso; omega
    · refine z_lload_n rfl rfl ?_
      refine z_aload_n rfl rfl ?_
      refine z_getR rfl rfl rfl rfl ?_
      refine z_getR rfl rfl rfl rfl ?_
      refine z_iload rfl rfl ?_
      refine z_iald rfl rfl (by omega) ?_
      refine z_callS2 rfl rfl rfl rfl (s_mix) ?_
      refine z_lstore_n rfl rfl rfl ?_
      refine z_iinc rfl rfl rfl rfl ?_
      refine z_goto rfl ?_
      exact ih (t + 1) _ (by omega) (by omega) hv hk
theorem s_mixSetup {Z : ZW} {J : Int64} {n : Nat} {h : Int64} (hn : Z 4 0 = n) (hn2 : n ≤ 24) : D 94 [.ref 0, .long h] Z J (some (.long (MS h (Z 8) n (Z 5)))) Z J := by
  unfold D Mz
  refine z_lload_n rfl rfl ?_
  refine z_lstore_n rfl rfl rfl ?_
  refine z_iconst rfl ?_
  refine z_istore rfl rfl rfl ?_
  refine l_ms1 (n := 8) (by decide) rfl 8 0 _ (by decide) (by decide) rfl ?_
  refine z_lload_n rfl rfl ?_
  refine z_aload_n rfl rfl ?_
  refine z_getR rfl rfl rfl rfl ?_
  refine z_getI (bi := 0) rfl rfl rfl rfl ?_
  refine z_callS2 rfl rfl rfl rfl (s_mix) ?_
  refine z_lstore_n rfl rfl rfl ?_
  refine z_iconst rfl ?_
  refine z_istore rfl rfl rfl ?_
  rw [hn]
  refine l_ms2 hn2 hn n 0 _ (by decide) (by omega) rfl ?_
  refine z_lload_n rfl rfl ?_
  exact z_lret rfl rfl ⟨rfl, rfl, rfl⟩
theorem l_mf {Z : ZW} {J : Int64} {h1 : Int64} {Φ : ZΦ} {n : Nat} (hn2 : n ≤ 24) (hn : Z 14 0 = n) {v : Int64} : ∀ (d : Nat) (t : Int) (h : Int64), 0 ≤ t → t + d = n → v = mxU (MB (Z 19) (Z 25) (Z 20) (Z 26)) d t h → OkZ none 95 93 [some (.ref 0), some (.long h1), none, some (.long v), none, some (.int (I (n : Int)))] [] Z J Φ → OkZ none 95 15 [some (.ref 0), some (.long h1), none, some (.long h), none, some (.int (I t))] [] Z J Φ := by
  intro d
  induction d with
  | zero =>
    intro t h t0 t1 hv hk
    have et : t = (n : Int) := by omega
    have hv : v = h := hv
    rw [← et, hv] at hk
    refine z_iload rfl rfl ?_
    refine z_aload_n rfl rfl ?_
    refine z_getR rfl rfl rfl rfl ?_
    refine z_getI (bi := 0) rfl rfl rfl rfl ?_
    rw [hn]
    refine z_icmp_ge rfl (by omega) (by omega) (fun h24 => ?_) (fun h24 => ?_)
    · exact hk
    · exfalso; omega
  | succ d ih =>
    intro t h t0 t1 hv hk
    refine z_iload rfl rfl ?_
    refine z_aload_n rfl rfl ?_
    refine z_getR rfl rfl rfl rfl ?_
    refine z_getI (bi := 0) rfl rfl rfl rfl ?_
    rw [hn]
    refine z_icmp_ge rfl (by omega) (by omega) (fun h24 => ?_) (fun h24 => ?_)
    · exfalso; omega
    · refine z_lload_n rfl rfl ?_
      refine z_aload_n rfl rfl ?_
      refine z_getR rfl rfl rfl rfl ?_
      refine z_getR rfl rfl rfl rfl ?_
      refine z_iload rfl rfl ?_
      refine z_iald rfl rfl (by omega) ?_
      refine z_callS2 rfl rfl rfl rfl (s_mix) ?_
      refine z_lstore_n rfl rfl rfl ?_
      refine z_lload_n rfl rfl ?_
      refine z_aload_n rfl rfl ?_
      refine z_getR rfl rfl rfl rfl ?_
      refine z_getR rfl rfl rfl rfl ?_
      refine z_iload rfl rfl ?_
      refine z_iald rfl rfl (by omega) ?_
      refine z_callS2 rfl rfl rfl rfl (s_mix) ?_
      refine z_lstore_n rfl rfl rfl ?_
      refine z_lload_n rfl rfl ?_
      refine z_aload_n rfl rfl ?_
      refine z_getR rfl rfl rfl rfl ?_
      refine z_getR rfl rfl rfl rfl ?_
      refine z_iload rfl rfl ?_
      refine z_iald rfl rfl (by omega) ?_
      refine z_callS2 rfl rfl rfl rfl (s_mix) ?_
      refine z_lstore_n rfl rfl rfl ?_
      refine z_lload_n rfl rfl ?_
      refine z_aload_n rfl rfl ?_
      refine z_getR rfl rfl rfl rfl ?_
      refine z_getR rfl rfl rfl rfl ?_
      refine z_iload rfl rfl ?_
      refine z_iald rfl rfl (by omega) ?_
      refine z_callS2 rfl rfl rfl rfl (s_mix) ?_
      refine z_lstore_n rfl rfl rfl ?_
      refine z_iinc rfl rfl rfl rfl ?_
      refine z_goto rfl ?_
      exact ih (t + 1) _ (by omega) (by omega) hv hk
theorem s_mixFlow {Z : ZW} {J : Int64} {n : Nat} {h : Int64} (hn : Z 14 0 = n) (hn2 : n ≤ 24) : D 95 [.ref 0, .long h] Z J (some (.long (MF h n (Z 19) (Z 25) (Z 20) (Z 26) (Z 14 1) (Z 24 0) (Z 24 1)))) Z J := by
  unfold D Mz
  refine z_lload_n rfl rfl ?_
  refine z_aload_n rfl rfl ?_
  refine z_getR rfl rfl rfl rfl ?_
  refine z_getI (bi := 0) rfl rfl rfl rfl ?_
  refine z_callS2 rfl rfl rfl rfl (s_mix) ?_
  refine z_lstore_n rfl rfl rfl ?_
  refine z_iconst rfl ?_
  refine z_istore rfl rfl rfl ?_
  rw [hn]
  refine l_mf hn2 hn n 0 _ (by decide) (by omega) rfl ?_
  refine z_lload_n rfl rfl ?_
  refine z_aload_n rfl rfl ?_
  refine z_getR rfl rfl rfl rfl ?_
  refine z_getI (bi := 1) rfl rfl rfl rfl ?_
  refine z_callS2 rfl rfl rfl rfl (s_mix) ?_
  refine z_lstore_n rfl rfl rfl ?_
  refine z_lload_n rfl rfl ?_
  refine z_aload_n rfl rfl ?_
  refine z_getR rfl rfl rfl rfl ?_
  refine z_getI (bi := 0) rfl rfl rfl rfl ?_
  refine z_callS2 rfl rfl rfl rfl (s_mix) ?_
  refine z_lstore_n rfl rfl rfl ?_
  refine z_lload_n rfl rfl ?_
  refine z_aload_n rfl rfl ?_
  refine z_getR rfl rfl rfl rfl ?_
  refine z_getI (bi := 1) rfl rfl rfl rfl ?_
  refine z_callS2 rfl rfl rfl rfl (s_mix) ?_
  exact z_lret rfl rfl ⟨rfl, rfl, rfl⟩
theorem l_ml {Z : ZW} {J : Int64} {h1 : Int64} {Φ : ZΦ} {n : Nat} (hn2 : n ≤ 24) (hn : n = 4) {v : Int64} : ∀ (d : Nat) (t : Int) (h : Int64), 0 ≤ t → t + d = n → v = mxU (fun t h => mx h (Z 60 t)) d t h → OkZ none 96 77 [some (.ref 0), some (.long h1), none, some (.long v), none, some (.int (I (n : Int)))] [] Z J Φ → OkZ none 96 51 [some (.ref 0), some (.long h1), none, some (.long h), none, some (.int (I t))] [] Z J Φ := by
  intro d
  induction d with
  | zero =>
    intro t h t0 t1 hv hk
    have et : t = (n : Int) := by omega
    have hv : v = h := hv
    rw [← et, hv] at hk
    refine z_iload rfl rfl ?_
    refine z_iconst rfl ?_
    refine z_icmp_ge rfl (by omega) (by omega) (fun h54 => ?_) (fun h54 => ?_)
    · exact hk
    · exfalso; omega
  | succ d ih =>
    intro t h t0 t1 hv hk
    refine z_iload rfl rfl ?_
    refine z_iconst rfl ?_
    refine z_icmp_ge rfl (by omega) (by omega) (fun h54 => ?_) (fun h54 => ?_)
    · exfalso; omega
    · refine z_lload_n rfl rfl ?_
      refine z_aload_n rfl rfl ?_
      refine z_getR rfl rfl rfl rfl ?_
      refine z_iload rfl rfl ?_
      refine z_callV1 rfl rfl rfl rfl rfl rfl (s_valueOf_59 (by omega)) ?_
      rw [if_pos (by omega)]
      refine z_callS2 rfl rfl rfl rfl (s_mix) ?_
      refine z_lstore_n rfl rfl rfl ?_
      refine z_iinc rfl rfl rfl rfl ?_
      refine z_goto rfl ?_
      exact ih (t + 1) _ (by omega) (by omega) hv hk
theorem s_mixLatest {Z : ZW} {J : Int64} {h : Int64} : D 96 [.ref 0, .long h] Z J (some (.long (ML h (Z 59 0) (Z 59 1) (Z 59 2) (Z 59 3) (Z 60) (Z 59 4)))) Z J := by
  unfold D Mz
  refine z_lload_n rfl rfl ?_
  refine z_aload_n rfl rfl ?_
  refine z_getR rfl rfl rfl rfl ?_
  refine z_getI (bi := 0) rfl rfl rfl rfl ?_
  refine z_callS2 rfl rfl rfl rfl (s_mix) ?_
  refine z_lstore_n rfl rfl rfl ?_
  refine z_lload_n rfl rfl ?_
  refine z_aload_n rfl rfl ?_
  refine z_getR rfl rfl rfl rfl ?_
  refine z_getI (bi := 1) rfl rfl rfl rfl ?_
  refine z_callS2 rfl rfl rfl rfl (s_mix) ?_
  refine z_lstore_n rfl rfl rfl ?_
  refine z_lload_n rfl rfl ?_
  refine z_aload_n rfl rfl ?_
  refine z_getR rfl rfl rfl rfl ?_
  refine z_getI (bi := 2) rfl rfl rfl rfl ?_
  refine z_callS2 rfl rfl rfl rfl (s_mix) ?_
  refine z_lstore_n rfl rfl rfl ?_
  refine z_lload_n rfl rfl ?_
  refine z_aload_n rfl rfl ?_
  refine z_getR rfl rfl rfl rfl ?_
  refine z_getI (bi := 3) rfl rfl rfl rfl ?_
  refine z_callS2 rfl rfl rfl rfl (s_mix) ?_
  refine z_lstore_n rfl rfl rfl ?_
  refine z_iconst rfl ?_
  refine z_istore rfl rfl rfl ?_
  refine l_ml (n := 4) (by decide) rfl 4 0 _ (by decide) (by decide) rfl ?_
  refine z_lload_n rfl rfl ?_
  refine z_aload_n rfl rfl ?_
  refine z_getR rfl rfl rfl rfl ?_
  refine z_getI (bi := 4) rfl rfl rfl rfl ?_
  refine z_callS2 rfl rfl rfl rfl (s_mix) ?_
  exact z_lret rfl rfl ⟨rfl, rfl, rfl⟩
theorem l_dg {Z : ZW} {J : Int64}  {Φ : ZΦ} {n : Nat} (hn2 : n ≤ 24) (hn : n = 3) {v : Int64} : ∀ (d : Nat) (t : Int) (h : Int64), 0 ≤ t → t + d = n → v = mxU (fun t h => mx h (Z 63 t)) d t h → OkZ none 97 32 [some (.ref 0), some (.long v), none, some (.int (I (n : Int)))] [] Z J Φ → OkZ none 97 6 [some (.ref 0), some (.long h), none, some (.int (I t))] [] Z J Φ := by
  intro d
  induction d with
  | zero =>
    intro t h t0 t1 hv hk
    have et : t = (n : Int) := by omega
    have hv : v = h := hv
    rw [← et, hv] at hk
    refine z_iload_n rfl rfl ?_
    refine z_aload_n rfl rfl ?_
    refine z_getR rfl rfl rfl rfl ?_
    refine z_alen (ni := 3) rfl rfl rfl ?_
    refine z_icmp_ge rfl (by omega) (by omega) (fun h12 => ?_) (fun h12 => ?_)
    · exact hk
    · exfalso; omega
  | succ d ih =>
    intro t h t0 t1 hv hk
    refine z_iload_n rfl rfl ?_
    refine z_aload_n rfl rfl ?_
    refine z_getR rfl rfl rfl rfl ?_
    refine z_alen (ni := 3) rfl rfl rfl ?_
    refine z_icmp_ge rfl (by omega) (by omega) (fun h12 => ?_) (fun h12 => ?_)
    · exfalso; omega
    · refine z_lload_n rfl rfl ?_
      refine z_aload_n rfl rfl ?_
      refine z_getR rfl rfl rfl rfl ?_
      refine z_iload_n rfl rfl ?_
      refine z_iald rfl rfl (by omega) ?_
      refine z_callS2 rfl rfl rfl rfl (s_mix) ?_
      refine z_lstore_n rfl rfl rfl ?_
      refine z_iinc rfl rfl rfl rfl ?_
      refine z_goto rfl ?_
      exact ih (t + 1) _ (by omega) (by omega) hv hk
theorem s_digest {Z : ZW} {J : Int64} {n m : Nat} (hn : Z 4 0 = n) (hn2 : n ≤ 24) (hm : Z 14 0 = m) (hm2 : m ≤ 24) : D 97 [.ref 0] Z J (some (.long (mx (ML (MF (MS (mx (mxs (Z 63) 3 h0) (Z 1 0)) (Z 8) n (Z 5)) m (Z 19) (Z 25) (Z 20) (Z 26) (Z 14 1) (Z 24 0) (Z 24 1)) (Z 59 0) (Z 59 1) (Z 59 2) (Z 59 3) (Z 60) (Z 59 4)) (Z 32 0)))) Z J := by
  unfold D Mz
  refine z_ldc2 rfl ?_
  refine z_lstore_n rfl rfl rfl ?_
  refine z_iconst rfl ?_
  refine z_istore_n rfl rfl rfl ?_
  refine l_dg (n := 3) (by decide) rfl 3 0 _ (by decide) (by decide) rfl ?_
  refine z_lload_n rfl rfl ?_
  refine z_aload_n rfl rfl ?_
  refine z_getR rfl rfl rfl rfl ?_
  refine z_getI (bi := 0) rfl rfl rfl rfl ?_
  refine z_callS2 rfl rfl rfl rfl (s_mix) ?_
  refine z_lstore_n rfl rfl rfl ?_
  refine z_aload_n rfl rfl ?_
  refine z_lload_n rfl rfl ?_
  refine z_callV1 rfl rfl rfl rfl rfl rfl (s_mixSetup hn hn2) ?_
  refine z_lstore_n rfl rfl rfl ?_
  refine z_aload_n rfl rfl ?_
  refine z_lload_n rfl rfl ?_
  refine z_callV1 rfl rfl rfl rfl rfl rfl (s_mixFlow hm hm2) ?_
  refine z_lstore_n rfl rfl rfl ?_
  refine z_aload_n rfl rfl ?_
  refine z_lload_n rfl rfl ?_
  refine z_callV1 rfl rfl rfl rfl rfl rfl (s_mixLatest) ?_
  refine z_lstore_n rfl rfl rfl ?_
  refine z_lload_n rfl rfl ?_
  refine z_aload_n rfl rfl ?_
  refine z_getR rfl rfl rfl rfl ?_
  refine z_getI (bi := 0) rfl rfl rfl rfl ?_
  refine z_callS2 rfl rfl rfl rfl (s_mix) ?_
  exact z_lret rfl rfl ⟨rfl, rfl, rfl⟩
