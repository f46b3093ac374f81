/-! the class: an instruction is read, a text is translated -/
def mostO (x : Int) : Int := if x ≤ 1 then 99 else if x ≤ 3 then 3 else 24
def QA (cu : FI) (len p : Int) : Bool × Int × Int := if opc (cu p) = 4 ∨ opc (cu p) = 7 then (true, 0, p + 1) else PN cu len 3 false (p + 1)
def QB (cu : FI) (len p : Int) : Bool × Int × Int := if (QA cu len p).1 = true then (if opc (cu p) = 7 then (true, 0, (QA cu len p).2.2) else PN cu len (mostO (opc (cu p))) (decide (opc (cu p) ≤ 1)) (QA cu len p).2.2) else (false, 0, (QA cu len p).2.2)
def QC (cu : FI) (len p : Int) : Bool × Int := if (QB cu len p).1 = true then (if cu (skp cu len (QB cu len p).2.2) = 59 then (true, skp cu len (QB cu len p).2.2 + 1) else (false, skp cu len (QB cu len p).2.2)) else (false, (QB cu len p).2.2)
def QI (cu : FI) (len n p : Int) : Bool × Int := if opc (cu p) = -1 ∨ 24 ≤ n then (false, p) else QC cu len p
def ADD (Z : ZW) (n a b c : Int) : ZW := up (up (up (up Z 10 n a) 11 n b) 12 n c) 9 0 (n + 1)
theorem opc_in (x : Int) : -1 ≤ opc x ∧ opc x ≤ 7 := by
  unfold opc
  repeat' split
  all_goals omega
theorem opc_some {x : Int} (h : opc x ≠ -1) : x ≠ -1 := by
  intro q
  rw [q] at h
  exact h rfl
theorem TXT_of {Z Z' : ZW} (h : TXT Z) (e : ∀ (k : Nat) (j : Int), ¬ (k = 3 ∧ (j = 1 ∨ j = 2)) → Z' k j = Z k j) : TXT Z' ∧ Z' 1 0 = Z 1 0 ∧ Z' 2 = Z 2 := by
  have e1 : Z' 1 0 = Z 1 0 := e 1 0 (by decide)
  have e2 : Z' 2 = Z 2 := funext fun j => e 2 j (fun q => absurd q.1 (by decide))
  refine ⟨⟨?_, ?_⟩, e1, e2⟩
  · rw [e1]; exact h.1
  · rw [e1, e2]; exact h.2
theorem s_add {Z : ZW} {J : Int64} {n a b c : Int} (he : Z 9 0 = n) (hn : 0 ≤ n ∧ n < 24) : D 10 [.ref 8, .int (I a), .int (I b), .int (I c)] Z J none (ADD Z n a b c) J := by
  unfold D Mz
  refine z_aload_n rfl rfl ?_
  refine z_getI (bi := 0) rfl rfl rfl rfl ?_
  rw [he]
  refine z_if_lt rfl (by omega) (fun h4 => ?_) (fun h4 => ?_)
  · exfalso; omega
  · refine z_aload_n rfl rfl ?_
    refine z_getI (bi := 0) rfl rfl rfl rfl ?_
    rw [he]
    refine z_bipush rfl (by decide) ?_
    refine z_icmp_ge rfl (by omega) (by omega) (fun h13 => ?_) (fun h13 => ?_)
    · exfalso; omega
    · refine z_aload_n rfl rfl ?_
      refine z_getR rfl rfl rfl rfl ?_
      refine z_aload_n rfl rfl ?_
      refine z_getI (bi := 0) rfl rfl rfl rfl ?_
      rw [he]
      refine z_iload_n rfl rfl ?_
      refine z_iast rfl rfl (by omega) ?_
      refine z_aload_n rfl rfl ?_
      refine z_getR rfl rfl rfl rfl ?_
      refine z_aload_n rfl rfl ?_
      refine z_getI (bi := 0) rfl rfl rfl rfl ?_
      rw [up_ne (by decide), he]
      refine z_iload_n rfl rfl ?_
      refine z_iast rfl rfl (by omega) ?_
      refine z_aload_n rfl rfl ?_
      refine z_getR rfl rfl rfl rfl ?_
      refine z_aload_n rfl rfl ?_
      refine z_getI (bi := 0) rfl rfl rfl rfl ?_
      rw [up_ne (by decide), up_ne (by decide), he]
      refine z_iload_n rfl rfl ?_
      refine z_iast rfl rfl (by omega) ?_
      refine z_aload_n rfl rfl ?_
      refine z_dup rfl rfl ?_
      refine z_getI (bi := 0) rfl rfl rfl rfl ?_
      rw [up_ne (by decide), up_ne (by decide), up_ne (by decide), he]
      refine z_iconst rfl ?_
      refine z_iadd rfl ?_
      refine z_putI (bi := 0) rfl rfl rfl rfl rfl ?_
      exact z_vret rfl rfl ⟨rfl, rfl, rfl⟩
theorem ADD_congr {Z Z' : ZW} {n a b c : Int} {k : Nat} {j : Int} (e : Z' k j = Z k j) : ADD Z' n a b c k j = ADD Z n a b c k j := by
  unfold ADD up
  split
  · rfl
  · split
    · rfl
    · split
      · rfl
      · split
        · rfl
        · exact e
set_option maxHeartbeats 4000000 in
theorem s_readI {Z : ZW} {J : Int64} {n p : Int} (ht : TXT Z) (hw : Z 3 2 = -1) (he : Z 3 1 = p) (hp : 0 ≤ p ∧ p ≤ Z 1 0) (hn : Z 9 0 = n) (hn2 : 0 ≤ n ∧ n ≤ 24) : Mz 11 [.ref 1, .ref 8] Z J (fun r Z' J' => r = none ∧ J' = J ∧ (0 ≤ Z' 3 1 ∧ Z' 3 1 ≤ Z 1 0) ∧ (if (QI (cuF (Z 2) (Z 1 0)) (Z 1 0) n p).1 = true then (Z' 3 2 = -1 ∧ Z' 3 1 = (QI (cuF (Z 2) (Z 1 0)) (Z 1 0) n p).2 ∧ (n < 24 ∧ 0 ≤ opc ((cuF (Z 2) (Z 1 0)) p) ∧ (QB (cuF (Z 2) (Z 1 0)) (Z 1 0) p).1 = true) ∧ ∀ (k : Nat) (j : Int), ¬ (k = 3 ∧ (j = 1 ∨ j = 2)) → Z' k j = ADD Z n (opc ((cuF (Z 2) (Z 1 0)) p)) (QA (cuF (Z 2) (Z 1 0)) (Z 1 0) p).2.1 (QB (cuF (Z 2) (Z 1 0)) (Z 1 0) p).2.1 k j) else (Z' 3 2 = (QI (cuF (Z 2) (Z 1 0)) (Z 1 0) n p).2 ∧ 0 ≤ (QI (cuF (Z 2) (Z 1 0)) (Z 1 0) n p).2 ∧ (QI (cuF (Z 2) (Z 1 0)) (Z 1 0) n p).2 ≤ Z 1 0) ∧ (∀ (k : Nat) (j : Int), ¬ (k = 3 ∧ (j = 1 ∨ j = 2)) → Z' k j = Z k j))) := by
  unfold Mz
  have hl := ht.1
  have hcp := cu_in ht p
  have ho := opc_in ((cuF (Z 2) (Z 1 0)) p)
  obtain ⟨q, hq⟩ : ∃ q, q = QI (cuF (Z 2) (Z 1 0)) (Z 1 0) n p := ⟨_, rfl⟩
  rw [← hq]
  unfold QI at hq
  obtain ⟨op, eo⟩ : ∃ op, op = opc ((cuF (Z 2) (Z 1 0)) p) := ⟨_, rfl⟩
  rw [← eo] at ho hq
  obtain ⟨qa, ea⟩ : ∃ qa, qa = QA (cuF (Z 2) (Z 1 0)) (Z 1 0) p := ⟨_, rfl⟩
  obtain ⟨qb, eb⟩ : ∃ qb, qb = QB (cuF (Z 2) (Z 1 0)) (Z 1 0) p := ⟨_, rfl⟩
  have eb2 := eb
  have ea2 := ea
  unfold QB at eb2
  unfold QA at ea2
  rw [← ea, ← eo] at eb2
  rw [← eo] at ea2
  unfold QC at hq
  rw [← eb] at hq
  rw [← ea, ← eb, ← eo]
  have K94 : ¬ (op = -1 ∨ 24 ≤ n) → ∀ (r1 r2 : Int) (Z' : ZW), (qa.1 = true → r1 = qa.2.1) → (qb.1 = true → r2 = qb.2.1) → (qb.1 = true → qa.1 = true) → (0 ≤ Z' 3 1 ∧ Z' 3 1 ≤ Z 1 0) → (if qb.1 = true then Z' 3 1 = qb.2.2 ∧ Z' 3 2 = -1 else Z' 3 2 = qb.2.2 ∧ 0 ≤ qb.2.2 ∧ qb.2.2 ≤ Z 1 0) → (∀ (k : Nat) (j : Int), ¬ (k = 3 ∧ (j = 1 ∨ j = 2)) → Z' k j = Z k j) → OkZ none 11 94 [some (.ref 1), some (.ref 8), some (.int (I op)), some (.int (I r1)), some (.int (I r2))] [] Z' J (fun r Z' J' => r = none ∧ J' = J ∧ (0 ≤ Z' 3 1 ∧ Z' 3 1 ≤ Z 1 0) ∧ (if q.1 = true then (Z' 3 2 = -1 ∧ Z' 3 1 = q.2 ∧ (n < 24 ∧ 0 ≤ op ∧ qb.1 = true) ∧ ∀ (k : Nat) (j : Int), ¬ (k = 3 ∧ (j = 1 ∨ j = 2)) → Z' k j = ADD Z n (op) qa.2.1 qb.2.1 k j) else (Z' 3 2 = q.2 ∧ 0 ≤ q.2 ∧ q.2 ≤ Z 1 0) ∧ (∀ (k : Nat) (j : Int), ¬ (k = 3 ∧ (j = 1 ∨ j = 2)) → Z' k j = Z k j))) := by
    intro hgo r1 r2 Z' hr1 hr2 hab hat hst hsame
    obtain ⟨ht', e1, e2⟩ := TXT_of ht hsame
    rw [if_neg hgo] at hq
    refine z_aload_n rfl rfl ?_
    by_cases hb : qb.1 = true
    · rw [if_pos hb] at hst hq
      obtain ⟨a1, a2⟩ := hst
      have hpp : 0 ≤ qb.2.2 ∧ qb.2.2 ≤ Z 1 0 := by omega
      have hsk := skp_in (bt := Z 2) hl.1 hpp.1 hpp.2
      have e3 : Z' 9 0 = n := by rw [hsame 9 0 (by decide), hn]
      refine z_callV0v rfl rfl rfl rfl rfl rfl (s_semi ht' a2 a1 (by rw [e1]; exact hpp)) ?_
      rw [e1, e2]
      by_cases hc : (cuF (Z 2) (Z 1 0)) (skp (cuF (Z 2) (Z 1 0)) (Z 1 0) qb.2.2) = 59
      · rw [if_pos hc] at hq
        rw [if_pos hc]
        have hlt := cu_some (bt := Z 2) (len := Z 1 0) (p := skp (cuF (Z 2) (Z 1 0)) (Z 1 0) qb.2.2) (by omega)
        refine z_aload_n rfl rfl ?_
        refine z_getS (bi := 2) rfl rfl rfl (by decide) ?_
        rw [up_nj (by decide), a2]
        refine z_iconst rfl ?_
        refine z_icmp_ne rfl (by omega) (by omega) (fun h103 => ?_) (fun h103 => ?_)
        · exfalso; omega
        · refine z_aload_n rfl rfl ?_
          refine z_iload_n rfl rfl ?_
          refine z_iload_n rfl rfl ?_
          refine z_iload rfl rfl ?_
          refine z_callV3v rfl rfl rfl rfl rfl rfl (s_add (n := n) (by rw [up_ne (by decide)]; exact e3) (by omega)) ?_
          refine z_vret rfl rfl ⟨rfl, rfl, ?_, ?_⟩
          · show 0 ≤ ADD _ _ _ _ _ 3 1 ∧ _
            unfold ADD
            rw [up_ne (by decide), up_ne (by decide), up_ne (by decide), up_ne (by decide), up_eq]
            omega
          · rw [hq, if_pos rfl]
            refine ⟨?_, ?_, ⟨by omega, by omega, hb⟩, ?_⟩
            · unfold ADD; rw [up_ne (by decide), up_ne (by decide), up_ne (by decide), up_ne (by decide), up_nj (by decide)]; exact a2
            · unfold ADD; rw [up_ne (by decide), up_ne (by decide), up_ne (by decide), up_ne (by decide), up_eq]
            · intro k j hk
              rw [← hr1 (hab hb), ← hr2 hb]
              exact ADD_congr (by rw [up_other1 hk]; exact hsame k j hk)
      · rw [if_neg hc] at hq
        rw [if_neg hc]
        refine z_aload_n rfl rfl ?_
        refine z_getS (bi := 2) rfl rfl rfl (by decide) ?_
        rw [up_eq]
        refine z_iconst rfl ?_
        refine z_icmp_ne rfl (by omega) (by omega) (fun h103 => ?_) (fun h103 => ?_)
        · refine z_vret rfl rfl ⟨rfl, rfl, ?_, ?_⟩
          · rw [up_nj (by decide), up_eq]; omega
          · rw [hq]
            exact ⟨⟨by rw [up_eq], by omega, by omega⟩, fun k j hk => by rw [up_other hk, up_other1 hk]; exact hsame k j hk⟩
        · exfalso; omega
    · rw [if_neg hb] at hst hq
      refine z_callV0v rfl rfl rfl rfl rfl rfl (s_semi0 (by omega) (by omega)) ?_
      refine z_aload_n rfl rfl ?_
      refine z_getS (bi := 2) rfl rfl rfl (by decide) ?_
      refine z_iconst rfl ?_
      refine z_icmp_ne rfl (by omega) (by omega) (fun h103 => ?_) (fun h103 => ?_)
      · refine z_vret rfl rfl ⟨rfl, rfl, hat, ?_⟩
        rw [hq]
        exact ⟨hst, hsame⟩
      · exfalso; omega
  have K64 : ¬ (op = -1 ∨ 24 ≤ n) → ∀ (r1 : Int) (Z' : ZW), (qa.1 = true → r1 = qa.2.1) → (0 ≤ Z' 3 1 ∧ Z' 3 1 ≤ Z 1 0) → (if qa.1 = true then Z' 3 1 = qa.2.2 ∧ Z' 3 2 = -1 else Z' 3 2 = qa.2.2 ∧ 0 ≤ qa.2.2 ∧ qa.2.2 ≤ Z 1 0) → (∀ (k : Nat) (j : Int), ¬ (k = 3 ∧ (j = 1 ∨ j = 2)) → Z' k j = Z k j) → OkZ none 11 64 [some (.ref 1), some (.ref 8), some (.int (I op)), some (.int (I r1)), some (.int (I 0))] [] Z' J (fun r Z' J' => r = none ∧ J' = J ∧ (0 ≤ Z' 3 1 ∧ Z' 3 1 ≤ Z 1 0) ∧ (if q.1 = true then (Z' 3 2 = -1 ∧ Z' 3 1 = q.2 ∧ (n < 24 ∧ 0 ≤ op ∧ qb.1 = true) ∧ ∀ (k : Nat) (j : Int), ¬ (k = 3 ∧ (j = 1 ∨ j = 2)) → Z' k j = ADD Z n (op) qa.2.1 qb.2.1 k j) else (Z' 3 2 = q.2 ∧ 0 ≤ q.2 ∧ q.2 ≤ Z 1 0) ∧ (∀ (k : Nat) (j : Int), ¬ (k = 3 ∧ (j = 1 ∨ j = 2)) → Z' k j = Z k j))) := by
    intro hgo r1 Z' hr1 hat hst hsame
    obtain ⟨ht', e1, e2⟩ := TXT_of ht hsame
    by_cases ha : qa.1 = true
    · rw [if_pos ha] at hst eb2
      obtain ⟨a1, a2⟩ := hst
      refine z_iload_n rfl rfl ?_
      refine z_bipush rfl (by decide) ?_
      refine z_icmp_eq rfl (by omega) (by omega) (fun h67 => ?_) (fun h67 => ?_)
      · rw [if_pos h67] at eb2
        exact K94 hgo r1 0 Z' hr1 (fun _ => by rw [eb2]) (fun _ => ha) hat (by rw [eb2]; exact ⟨a1, a2⟩) hsame
      · refine z_aload_n rfl rfl ?_
        refine z_iload_n rfl rfl ?_
        refine z_callS1 rfl rfl rfl rfl (s_greatest (by omega)) ?_
        refine z_iload_n rfl rfl ?_
        refine z_if_eq rfl (by omega) (fun h76 => ?_) (fun h76 => ?_)
        · refine z_iconst rfl ?_
          refine z_goto rfl ?_
          refine z_callV2g rfl rfl rfl rfl rfl rfl (s_readN (most := mostO op) (p := qa.2.2) (sg := true) ht' a2 (by unfold mostO; repeat' split; all_goals omega) a1 (by rw [e1]; omega)) (fun r89 Z89 J89 q89 => ?_)
          obtain ⟨rfl, ⟨x, rfl, hx, hx2⟩, h1, h2, h3⟩ := q89
          rw [e1] at h1 h2 hx2
          rw [e2] at h2 hx2
          rw [if_neg (by omega), show decide (op ≤ 1) = true from decide_eq_true (by omega), ] at eb2
          rw [← eb2] at h2 hx2
          show OkZ none 11 92 _ [_] _ _ _
          refine z_istore rfl rfl rfl ?_
          exact K94 hgo r1 x Z89 hr1 hx2 (fun _ => ha) h1 h2 (fun k j hk => by rw [h3 k j hk]; exact hsame k j hk)
        · refine z_iload_n rfl rfl ?_
          refine z_iconst rfl ?_
          refine z_icmp_ne rfl (by omega) (by omega) (fun h81 => ?_) (fun h81 => ?_)
          · refine z_iconst rfl ?_
            refine z_callV2g rfl rfl rfl rfl rfl rfl (s_readN (most := mostO op) (p := qa.2.2) (sg := false) ht' a2 (by unfold mostO; repeat' split; all_goals omega) a1 (by rw [e1]; omega)) (fun r89 Z89 J89 q89 => ?_)
            obtain ⟨rfl, ⟨x, rfl, hx, hx2⟩, h1, h2, h3⟩ := q89
            rw [e1] at h1 h2 hx2
            rw [e2] at h2 hx2
            rw [if_neg (by omega), show decide (op ≤ 1) = false from decide_eq_false (by omega), ] at eb2
            rw [← eb2] at h2 hx2
            show OkZ none 11 92 _ [_] _ _ _
            refine z_istore rfl rfl rfl ?_
            exact K94 hgo r1 x Z89 hr1 hx2 (fun _ => ha) h1 h2 (fun k j hk => by rw [h3 k j hk]; exact hsame k j hk)
          · refine z_iconst rfl ?_
            refine z_goto rfl ?_
            refine z_callV2g rfl rfl rfl rfl rfl rfl (s_readN (most := mostO op) (p := qa.2.2) (sg := true) ht' a2 (by unfold mostO; repeat' split; all_goals omega) a1 (by rw [e1]; omega)) (fun r89 Z89 J89 q89 => ?_)
            obtain ⟨rfl, ⟨x, rfl, hx, hx2⟩, h1, h2, h3⟩ := q89
            rw [e1] at h1 h2 hx2
            rw [e2] at h2 hx2
            rw [if_neg (by omega), show decide (op ≤ 1) = true from decide_eq_true (by omega), ] at eb2
            rw [← eb2] at h2 hx2
            show OkZ none 11 92 _ [_] _ _ _
            refine z_istore rfl rfl rfl ?_
            exact K94 hgo r1 x Z89 hr1 hx2 (fun _ => ha) h1 h2 (fun k j hk => by rw [h3 k j hk]; exact hsame k j hk)
    · rw [if_neg ha] at hst eb2
      refine z_iload_n rfl rfl ?_
      refine z_bipush rfl (by decide) ?_
      refine z_icmp_eq rfl (by omega) (by omega) (fun h67 => ?_) (fun h67 => ?_)
      · exact K94 hgo r1 0 Z' hr1 (fun z => by rw [eb2] at z; cases z) (fun z => by rw [eb2] at z; cases z) hat (by rw [eb2]; exact hst) hsame
      · refine z_aload_n rfl rfl ?_
        refine z_iload_n rfl rfl ?_
        refine z_callS1 rfl rfl rfl rfl (s_greatest (by omega)) ?_
        refine z_iload_n rfl rfl ?_
        refine z_if_eq rfl (by omega) (fun h76 => ?_) (fun h76 => ?_)
        · refine z_iconst rfl ?_
          refine z_goto rfl ?_
          refine z_callV2 rfl rfl rfl rfl rfl rfl (s_readN0 (most := mostO op) (sg := true) (by omega) (by omega)) ?_
          refine z_istore rfl rfl rfl ?_
          exact K94 hgo r1 0 Z' hr1 (fun z => by rw [eb2] at z; cases z) (fun z => by rw [eb2] at z; cases z) hat (by rw [eb2]; exact hst) hsame
        · refine z_iload_n rfl rfl ?_
          refine z_iconst rfl ?_
          refine z_icmp_ne rfl (by omega) (by omega) (fun h81 => ?_) (fun h81 => ?_)
          · refine z_iconst rfl ?_
            refine z_callV2 rfl rfl rfl rfl rfl rfl (s_readN0 (most := mostO op) (sg := false) (by omega) (by omega)) ?_
            refine z_istore rfl rfl rfl ?_
            exact K94 hgo r1 0 Z' hr1 (fun z => by rw [eb2] at z; cases z) (fun z => by rw [eb2] at z; cases z) hat (by rw [eb2]; exact hst) hsame
          · refine z_iconst rfl ?_
            refine z_goto rfl ?_
            refine z_callV2 rfl rfl rfl rfl rfl rfl (s_readN0 (most := mostO op) (sg := true) (by omega) (by omega)) ?_
            refine z_istore rfl rfl rfl ?_
            exact K94 hgo r1 0 Z' hr1 (fun z => by rw [eb2] at z; cases z) (fun z => by rw [eb2] at z; cases z) hat (by rw [eb2]; exact hst) hsame
  refine z_aload_n rfl rfl ?_
  refine z_callV0 rfl rfl rfl rfl rfl rfl (s_cur (by omega) ht) ?_
  rw [he]
  refine z_callS1 rfl rfl rfl rfl (s_opcX0 (by omega)) ?_
  rw [← eo]
  refine z_istore_n rfl rfl rfl ?_
  refine z_iload_n rfl rfl ?_
  refine z_iconst rfl ?_
  refine z_icmp_eq rfl (by omega) (by omega) (fun h10 => ?_) (fun h10 => ?_)
  · refine z_aload_n rfl rfl ?_
    refine z_aload_n rfl rfl ?_
    refine z_getS (bi := 1) rfl rfl rfl (by decide) ?_
    refine z_putS (bi := 2) rfl rfl rfl rfl (by decide) ?_
    rw [if_pos (by omega)] at hq
    refine z_vret rfl rfl ⟨rfl, rfl, by rw [up_nj (by decide)]; omega, ?_⟩
    rw [hq]
    exact ⟨⟨by rw [up_eq, he], hp.1, hp.2⟩, fun k j hk => up_other hk⟩
  · refine z_aload_n rfl rfl ?_
    refine z_getI (bi := 0) rfl rfl rfl rfl ?_
    rw [hn]
    refine z_bipush rfl (by decide) ?_
    refine z_icmp_lt rfl (by omega) (by omega) (fun h19 => ?_) (fun h19 => ?_)
    · have hlt := cu_some (bt := Z 2) (len := Z 1 0) (p := p) (opc_some (by omega))
      refine z_aload_n rfl rfl ?_
      refine z_dup rfl rfl ?_
      refine z_getS (bi := 1) rfl rfl rfl (by decide) ?_
      refine z_iconst rfl ?_
      refine z_iadd rfl ?_
      refine z_putS (bi := 1) rfl rfl rfl rfl (by decide) ?_
      refine z_iconst rfl ?_
      refine z_istore_n rfl rfl rfl ?_
      refine z_iconst rfl ?_
      refine z_istore rfl rfl rfl ?_
      refine z_iload_n rfl rfl ?_
      refine z_iconst rfl ?_
      refine z_icmp_eq rfl (by omega) (by omega) (fun h48 => ?_) (fun h48 => ?_)
      · rw [if_pos (by omega)] at ea2
        refine K64 (by omega) 0 _ (fun _ => by rw [ea2]) (by rw [up_eq]; omega) ?_ (fun k j hk => up_other1 hk)
        rw [ea2, if_pos rfl]
        exact ⟨by rw [up_eq, he], by rw [up_nj (by decide)]; exact hw⟩
      · refine z_iload_n rfl rfl ?_
        refine z_bipush rfl (by decide) ?_
        refine z_icmp_eq rfl (by omega) (by omega) (fun h54 => ?_) (fun h54 => ?_)
        · rw [if_pos (by omega)] at ea2
          refine K64 (by omega) 0 _ (fun _ => by rw [ea2]) (by rw [up_eq]; omega) ?_ (fun k j hk => up_other1 hk)
          rw [ea2, if_pos rfl]
          exact ⟨by rw [up_eq, he], by rw [up_nj (by decide)]; exact hw⟩
        · refine z_aload_n rfl rfl ?_
          refine z_iconst rfl ?_
          refine z_iconst rfl ?_
          refine z_callV2g rfl rfl rfl rfl rfl rfl (s_readN (most := 3) (p := p + 1) (sg := false) (TXT_up (by decide) ht) (by rw [up_nj (by decide)]; exact hw) (by omega) (by rw [up_eq, he]) (by show 0 ≤ p + 1 ∧ p + 1 ≤ Z 1 0; omega)) (fun r60 Z60 J60 q60 => ?_)
          obtain ⟨rfl, ⟨x, rfl, hx, hx2⟩, h1, h2, h3⟩ := q60
          rw [if_neg (by omega)] at ea2
          have ea3 : qa = PN (cuF (up Z 3 1 (Z 3 1 + 1) 2) (up Z 3 1 (Z 3 1 + 1) 1 0)) (up Z 3 1 (Z 3 1 + 1) 1 0) 3 false (p + 1) := ea2
          rw [← ea3] at h2 hx2
          show OkZ none 11 63 _ [_] _ _ _
          refine z_istore_n rfl rfl rfl ?_
          exact K64 (by omega) x Z60 hx2 h1 h2 (fun k j hk => by rw [h3 k j hk]; exact up_other1 hk)
    · refine z_aload_n rfl rfl ?_
      refine z_aload_n rfl rfl ?_
      refine z_getS (bi := 1) rfl rfl rfl (by decide) ?_
      refine z_putS (bi := 2) rfl rfl rfl rfl (by decide) ?_
      rw [if_pos (by omega)] at hq
      refine z_vret rfl rfl ⟨rfl, rfl, by rw [up_nj (by decide)]; omega, ?_⟩
      rw [hq]
      exact ⟨⟨by rw [up_eq, he], hp.1, hp.2⟩, fun k j hk => up_other hk⟩
