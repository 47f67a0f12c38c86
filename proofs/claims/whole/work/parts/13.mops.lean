/-! what the reference's methods do, as they are written -/
def ml (M : Tb) (j : Nat) (how : Int32) : Tb := sU (sU M 6 j (M 6 j + 1)) 7 j how
def ml2 (M : Tb) (i j : Nat) (how : Int32) : Tb := sU (sU (sU (sU M 6 i (M 6 i + 1)) 6 j (sU M 6 i (M 6 i + 1) 6 j + 1)) 7 j how) 7 i how
theorem nlt_le {x y : Int32} (h : ¬ y < x) : x ≤ y := by
  rw [Int32.lt_iff_toInt_lt] at h
  rw [Int32.le_iff_toInt_le]
  omega
theorem lt_nle {x y : Int32} (h : y < x) : ¬ x ≤ y := by
  rw [Int32.lt_iff_toInt_lt] at h
  rw [Int32.le_iff_toInt_le]
  omega
def om_mount (M : Tb) (p1 p2 p3 : Int32) : Int32 × Tb := if isH p1 = true then (if isWt p2 = true then (if M 0 p1.toNatClampNeg = 0 then (1, sU (sU (sU (sU (sU (sU (sU (sU M 0 p1.toNatClampNeg 1) 1 p1.toNatClampNeg p2) 2 p1.toNatClampNeg p3) 3 p1.toNatClampNeg 0) 4 p1.toNatClampNeg 0) 5 p1.toNatClampNeg 0) 6 p1.toNatClampNeg 0) 7 p1.toNatClampNeg 0) else (-5, M)) else (-1, M)) else (-1, M)
def mj_unmount (M : Tb) (j : Nat) : Int32 × Tb := if M 0 j = 0 then (-2, M) else if M 5 j ≤ 0 then (M 6 j + 1, ml (sU M 0 j 0) j 1) else (-6, ml M j 2)
def om_unmount (M : Tb) (p1 : Int32) : Int32 × Tb := if isH p1 = true then mj_unmount (sU M 9 0 (M 9 0 + 1)) p1.toNatClampNeg else (-1, M)
def mj_open (M : Tb) (j : Nat) (c : Int32) : Int32 × Tb := if M 0 j = 0 then (-2, M) else if M 4 j = 3 then (-4, ml M j 2) else if c = M 2 j then (1, ml (sU (sU M 3 j 1) 4 j 0) j 1) else (-7, ml (sU M 4 j (M 4 j + 1)) j 4)
def om_open (M : Tb) (p1 p2 : Int32) : Int32 × Tb := if isH p1 = true then mj_open M p1.toNatClampNeg p2 else (-1, M)
def mj_shut (M : Tb) (j : Nat) : Int32 × Tb := if M 0 j = 0 then (-2, M) else if M 3 j = 0 then (-3, ml M j 2) else (1, ml (sU M 3 j 0) j 1)
def om_shut (M : Tb) (p1 : Int32) : Int32 × Tb := if isH p1 = true then mj_shut M p1.toNatClampNeg else (-1, M)
def mj_put (M : Tb) (j : Nat) (w : Int32) : Int32 × Tb := if M 0 j = 0 then (-2, M) else if M 3 j = 0 then (-3, ml M j 2) else if okA M j w = true then (acS M j w 5 j, ml (acS M j w) j 1) else (-5, ml M j 4)
def om_put (M : Tb) (p1 p2 : Int32) : Int32 × Tb := if isH p1 = true then (if isWt p2 = true then mj_put M p1.toNatClampNeg p2 else (-1, M)) else (-1, M)
def mj_take (M : Tb) (j : Nat) : Int32 × Tb := if M 0 j = 0 then (-2, M) else if M 3 j = 0 then (-3, ml M j 2) else if M 5 j = 0 then (-6, ml M j 4) else (rmV M j, ml (rmS M j) j 1)
def om_take (M : Tb) (p1 : Int32) : Int32 × Tb := if isH p1 = true then mj_take M p1.toNatClampNeg else (-1, M)
def mj_move (M : Tb) (i j : Nat) : Int32 × Tb := if M 0 i = 0 then (-2, M) else if M 0 j = 0 then (-2, ml M i 4) else if M 3 i = 0 then (-3, ml2 M i j 2) else if M 3 j = 0 then (-3, ml2 M i j 2) else if M 5 i = 0 then (-6, ml2 M i j 4) else if okA (rmS M i) j (rmV M i) = true then (rmV M i, ml2 (acS (rmS M i) j (rmV M i)) i j 1) else (-5, ml2 (acS (rmS M i) i (rmV M i)) i j 4)
def om_move (M : Tb) (p1 p2 : Int32) : Int32 × Tb := if isH p1 = true then (if isH p2 = true then mj_move M p1.toNatClampNeg p2.toNatClampNeg else (-1, M)) else (-1, M)
def of_sw (i j : Nat) : Nat → Nat → Tb → Tb
  | 0, _, M => M
  | d + 1, k, M => of_sw i j d (k + 1) (sU (sU M 8 (10 * i + k) (M 8 (10 * j + k))) 8 (10 * j + k) (M 8 (10 * i + k)))
def swM (M : Tb) (i j : Nat) : Tb := sU (sU (of_sw i j 10 0 M) 5 i (of_sw i j 10 0 M 5 j)) 5 j (of_sw i j 10 0 M 5 i)
def mj_swap (M : Tb) (i j : Nat) : Int32 × Tb := if M 0 i = 0 then (-2, M) else if M 0 j = 0 then (-2, ml M i 4) else if M 3 i = 0 then (-3, ml2 M i j 2) else if M 3 j = 0 then (-3, ml2 M i j 2) else if M 1 j < wt M i then (-5, ml2 M i j 4) else if wt M j ≤ M 1 i then (swM M i j 5 i + swM M i j 5 j, ml2 (swM M i j) i j 1) else (-5, ml2 M i j 4)
def om_swap (M : Tb) (p1 p2 : Int32) : Int32 × Tb := if isH p1 = true then (if isH p2 = true then mj_swap M p1.toNatClampNeg p2.toNatClampNeg else (-1, M)) else (-1, M)
def mf_find (w : Int32) : Nat → Nat → Tb → Int32 × Tb
  | 0, _, M => (-8, M)
  | d + 1, h, M => if M 0 h = 0 then mf_find w d (h + 1) M else if M 3 h = 0 then mf_find w d (h + 1) (ml M h 3) else if has M h w = true then (nI h, ml M h 3) else mf_find w d (h + 1) (ml M h 1)
def om_find (M : Tb) (p1 : Int32) : Int32 × Tb := if isWt p1 = true then mf_find p1 24 0 M else (-1, M)
def mf_first (w : Int32) : Nat → Nat → Tb → Int32 × Tb
  | 0, _, M => (-8, M)
  | d + 1, h, M => if M 0 h = 0 then mf_first w d (h + 1) M else if wt M h < w then mf_first w d (h + 1) (ml M h 1) else (nI h, ml M h 2)
def om_first (M : Tb) (p1 : Int32) : Int32 × Tb := if 0 ≤ p1 then mf_first p1 24 0 M else (-1, M)
def mf_tally : Nat → Nat → Int64 → Tb → Int64 × Tb
  | 0, _, z, M => (z, M)
  | d + 1, h, z, M => if M 0 h = 0 then mf_tally d (h + 1) z M else mf_tally d (h + 1) (z + (wt M h).toInt64 * (nI h + 1).toInt64) (ml M h 1)
def om_tally (M : Tb) : Int64 × Tb := mf_tally 24 0 0 (sU M 9 0 (M 9 0 + 1))
def mf_cnt (i : Nat) (M : Tb) : Nat → Nat → Int32 → Nat × Int32
  | 0, k, z => (k, z)
  | d + 1, k, z => if M 0 ((i + k) % 24) = 0 then (k, z) else mf_cnt i M d (k + 1) (z + wt M ((i + k) % 24))
def mf_let (i : Nat) (how : Int32) : Nat → Tb → Tb
  | 0, M => M
  | k + 1, M => mf_let i how k (ml M ((i + k) % 24) how)
def mj_weigh (M : Tb) (i n : Nat) : Int32 × Tb := if nI n ≤ nI (mf_cnt i M n 0 0).1 then ((mf_cnt i M n 0 0).2, mf_let i 2 (mf_cnt i M n 0 0).1 M) else (-2, mf_let i 4 (mf_cnt i M n 0 0).1 M)
def om_weigh (M : Tb) (p1 p2 : Int32) : Int32 × Tb := if isH p1 = true then (if p2 < 0 then (-1, M) else if p2 ≤ 12 then mj_weigh (sU M 9 0 (M 9 0 + 1)) p1.toNatClampNeg p2.toNatClampNeg else (-1, M)) else (-1, M)
def mj_drop (M : Tb) (j n : Nat) (m : Int32) : Int32 × Tb := if M 0 j = 0 then (-2, M) else if M 3 j = 0 then (-3, ml M j 2) else ((of_drop j m n 0 M).1, ml (of_drop j m n 0 M).2 j 1)
def om_drop (M : Tb) (p1 p2 p3 : Int32) : Int32 × Tb := if isH p1 = true then (if p2 < 1 then (-1, M) else if p2 ≤ 10 then mj_drop M p1.toNatClampNeg p2.toNatClampNeg p3 else (-1, M)) else (-1, M)
def mj_recode (M : Tb) (j : Nat) (c : Int32) : Int32 × Tb := if M 0 j = 0 then (-2, M) else if M 3 j = 0 then (-7, sU (sU M 6 j (M 6 j + 3)) 7 j 4) else (1, sU (sU (sU M 6 j (M 6 j + 3)) 7 j 2) 2 j c)
def om_recode (M : Tb) (p1 p2 : Int32) : Int32 × Tb := if isH p1 = true then mj_recode M p1.toNatClampNeg p2 else (-1, M)
def om_told (M : Tb) (p1 p2 : Int32) : Int32 × Tb := if isH p1 = true then (if p2 < 0 then (-1, M) else if p2 ≤ 8 then (if p2 = 0 then (if M 0 p1.toNatClampNeg = 0 then (0, M) else (1, M)) else (if M 0 p1.toNatClampNeg = 0 then (-2, M) else (factS M p1.toNatClampNeg p2.toNatClampNeg, M))) else (-1, M)) else (-1, M)
def om_item (M : Tb) (p1 p2 : Int32) : Int32 × Tb := if isH p1 = true then (if M 0 p1.toNatClampNeg = 0 then (-2, M) else (wOf M p1.toNatClampNeg p2, M)) else (-1, M)
theorem leafM {f : Nat → Option Nat} {wa : Nat → Nat} {S M' : Tb} {r : Int32} {o : Int32 × Tb} (h : o = (r, M')) : r = o.1 ∧ ((f, wa, S, M') : WT) = (f, wa, S, o.2) := by
  subst h
  exact ⟨rfl, rfl⟩
theorem leafML {f : Nat → Option Nat} {wa : Nat → Nat} {S M' : Tb} {r : Int64} {o : Int64 × Tb} (h : o = (r, M')) : r = o.1 ∧ ((f, wa, S, M') : WT) = (f, wa, S, o.2) := by
  subst h
  exact ⟨rfl, rfl⟩
theorem mf_cnt_le (i : Nat) (M : Tb) : ∀ (d k : Nat) (z : Int32), (mf_cnt i M d k z).1 ≤ k + d
  | 0, k, z => Nat.le_refl _
  | d + 1, k, z => by
    unfold mf_cnt
    split
    · exact Nat.le_add_right _ _
    · exact Nat.le_trans (mf_cnt_le i M d (k + 1) _) (by omega)
