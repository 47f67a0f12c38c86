/-! what the wall's methods do, as they are written -/
def hd (S : Tb) (j : Nat) : Tb := sU S 6 j (S 6 j + 1)
def lg (S : Tb) (j : Nat) (how : Int32) : Tb := sU S 7 j how
def lg2 (S : Tb) (i j : Nat) (how : Int32) : Tb := sU (sU S 7 j how) 7 i how
def Inv (S : Tb) : Prop := ∀ i, i < 24 → ∃ n : Nat, n ≤ 10 ∧ S 5 i = nI n
def factS (S : Tb) (i : Nat) : Nat → Int32
  | 0 => 1
  | 1 => S 1 i
  | 2 => S 2 i
  | 3 => if S 3 i = 0 then 0 else 1
  | 4 => S 4 i
  | 5 => S 5 i
  | 6 => wt S i
  | 7 => S 6 i
  | _ => S 7 i
def oj_open (S : Tb) (j : Nat) (c : Int32) : Int32 × Tb := if S 0 j = 0 then (-2, S) else if S 4 j < 3 then (if S 2 j = c then (1, lg (sU (sU (hd S j) 3 j 1) 4 j 0) j 1) else (-7, lg (sU (hd S j) 4 j (S 4 j + 1)) j 4)) else (-4, lg (hd S j) j 2)
def oc_open (S : Tb) (p1 p2 : Int32) : Int32 × Tb := if isH p1 = true then oj_open S p1.toNatClampNeg p2 else (-1, S)
def oj_shut (S : Tb) (j : Nat) : Int32 × Tb := if S 0 j = 0 then (-2, S) else if S 3 j = 0 then (-3, lg (hd S j) j 2) else (1, lg (sU (hd S j) 3 j 0) j 1)
def oc_shut (S : Tb) (p1 : Int32) : Int32 × Tb := if isH p1 = true then oj_shut S p1.toNatClampNeg else (-1, S)
def oj_put (S : Tb) (j : Nat) (w : Int32) : Int32 × Tb := if S 0 j = 0 then (-2, S) else if S 3 j = 0 then (-3, lg (hd S j) j 2) else if okA (hd S j) j w = true then (acS (hd S j) j w 5 j, lg (acS (hd S j) j w) j 1) else (-5, lg (hd S j) j 4)
def oc_put (S : Tb) (p1 p2 : Int32) : Int32 × Tb := if isH p1 = true then (if isWt p2 = true then oj_put S p1.toNatClampNeg p2 else (-1, S)) else (-1, S)
def oj_take (S : Tb) (j : Nat) : Int32 × Tb := if S 0 j = 0 then (-2, S) else if S 3 j = 0 then (-3, lg (hd S j) j 2) else if S 5 j = 0 then (-6, lg (hd S j) j 4) else (rmV (hd S j) j, lg (rmS (hd S j) j) j 1)
def oc_take (S : Tb) (p1 : Int32) : Int32 × Tb := if isH p1 = true then oj_take S p1.toNatClampNeg else (-1, S)
def omv (S : Tb) (i j : Nat) : Int32 × Tb := if S 5 i = 0 then (-6, lg2 S i j 4) else if okA (rmS S i) j (rmV S i) = true then (rmV S i, lg2 (acS (rmS S i) j (rmV S i)) i j 1) else (-5, lg2 (if okA (rmS S i) i (rmV S i) = true then acS (rmS S i) i (rmV S i) else rmS S i) i j 4)
/-- the items of two rows change places -/
def exS (S : Tb) (i j : Nat) : Tb := fun c r => if c = 5 then (if r = i then S 5 j else if r = j then S 5 i else S c r) else if c = 8 then (if r / 10 = i then S 8 (10 * j + r % 10) else if r / 10 = j then S 8 (10 * i + r % 10) else S c r) else S c r
def oex (S : Tb) (i j : Nat) : Int32 × Tb := if S 1 j < wt S i then (-5, lg2 S i j 4) else if wt S j ≤ S 1 i then (exS S i j 5 i + exS S i j 5 j, lg2 (exS S i j) i j 1) else (-5, lg2 S i j 4)
def oj_act (S : Tb) (i j : Nat) (x : Int32) : Int32 × Tb := if S 0 i = 0 then (-2, S) else if S 0 j = 0 then (-2, lg (hd S i) i 4) else if S 3 i = 0 then (-3, lg2 (hd (hd S i) j) i j 2) else if S 3 j = 0 then (-3, lg2 (hd (hd S i) j) i j 2) else if x = 0 then omv (hd (hd S i) j) i j else oex (hd (hd S i) j) i j
def oc_act (S : Tb) (p1 p2 x : Int32) : Int32 × Tb := if isH p1 = true then (if isH p2 = true then oj_act S p1.toNatClampNeg p2.toNatClampNeg x else (-1, S)) else (-1, S)
def oj_recode (S : Tb) (j : Nat) (c : Int32) : Int32 × Tb := if S 0 j = 0 then (-2, S) else if S 3 j = 0 then (-7, lg (lg (lg (hd (hd (hd S j) j) j) j 4) j 4) j 4) else (1, lg (lg (lg (sU (hd (hd (hd S j) j) j) 2 j c) j 2) j 2) j 2)
def oc_recode (S : Tb) (p1 p2 : Int32) : Int32 × Tb := if isH p1 = true then oj_recode S p1.toNatClampNeg p2 else (-1, S)
def oc_told (S : Tb) (p1 p2 : Int32) : Int32 × Tb := if isH p1 = true then (if p2 < 0 then (-1, S) else if p2 ≤ 8 then (if S 0 p1.toNatClampNeg = 0 then (if p2 = 0 then (0, S) else (-2, S)) else (factS S p1.toNatClampNeg p2.toNatClampNeg, S)) else (-1, S)) else (-1, S)
def oc_item (S : Tb) (p1 p2 : Int32) : Int32 × Tb := if isH p1 = true then (if S 0 p1.toNatClampNeg = 0 then (-2, S) else (wOf S p1.toNatClampNeg p2, S)) else (-1, S)
/-- find: from hook h on, d hooks left -/
def of_find (w : Int32) : Nat → Nat → Tb → Int32 × Tb
  | 0, _, S => (-8, S)
  | d + 1, h, S => if S 0 h = 0 then of_find w d (h + 1) S else if S 3 h = 0 then of_find w d (h + 1) (lg (hd S h) h 3) else if has (hd S h) h w = true then (nI h, lg (hd S h) h 3) else of_find w d (h + 1) (lg (hd S h) h 1)
def oc_find (S : Tb) (p1 : Int32) : Int32 × Tb := if isWt p1 = true then of_find p1 24 0 S else (-1, S)
def of_first (w : Int32) : Nat → Nat → Tb → Int32 × Tb
  | 0, _, S => (-8, S)
  | d + 1, h, S => if S 0 h = 0 then of_first w d (h + 1) S else if wt (hd S h) h < w then of_first w d (h + 1) (lg (hd S h) h 1) else (nI h, lg (hd S h) h 2)
def oc_first (S : Tb) (p1 : Int32) : Int32 × Tb := if 0 ≤ p1 then of_first p1 24 0 S else (-1, S)
def of_tally : Nat → Nat → Int64 → Tb → Int64 × Tb
  | 0, _, z, S => (z, S)
  | d + 1, h, z, S => if S 0 h = 0 then of_tally d (h + 1) z S else of_tally d (h + 1) (z + ((nI h).toInt64 + 1) * (wt (hd S h) h).toInt64) (lg (hd S h) h 1)
def oc_tally (S : Tb) : Int64 × Tb := of_tally 24 0 0 (sU S 9 0 (S 9 0 + 1))
/-- rows of hooks from i on -/
def of_hold (i : Nat) : Nat → Nat → Tb → Nat × Tb
  | 0, k, S => (k, S)
  | d + 1, k, S => if S 0 ((i + k) % 24) = 0 then (k, S) else of_hold i d (k + 1) (hd S ((i + k) % 24))
def of_let (i : Nat) (how : Int32) : Nat → Int32 → Tb → Int32 × Tb
  | 0, z, S => (z, S)
  | k + 1, z, S => if S 0 ((i + k) % 24) = 0 then of_let i how k z S else of_let i how k (z + wt S ((i + k) % 24)) (lg S ((i + k) % 24) how)
def oj_weigh (S : Tb) (i n : Nat) : Int32 × Tb := if nI n ≤ nI (of_hold i n 0 S).1 then of_let i 2 n 0 (of_hold i n 0 S).2 else (-2, (of_let i 4 (of_hold i n 0 S).1 0 (of_hold i n 0 S).2).2)
def oc_weigh (S : Tb) (p1 p2 : Int32) : Int32 × Tb := if isH p1 = true then (if p2 < 0 then (-1, S) else if p2 ≤ 12 then oj_weigh (sU S 9 0 (S 9 0 + 1)) p1.toNatClampNeg p2.toNatClampNeg else (-1, S)) else (-1, S)
def of_drop (j : Nat) (m : Int32) : Nat → Int32 → Tb → Int32 × Tb
  | 0, g, S => (g, S)
  | d + 1, g, S => if S 5 j ≤ 0 then (g, S) else if g + rmV S j < m then of_drop j m d (g + rmV S j) (rmS S j) else (g + rmV S j, rmS S j)
def oj_drop (S : Tb) (j n : Nat) (m : Int32) : Int32 × Tb := if S 0 j = 0 then (-2, S) else if S 3 j = 0 then (-3, lg (hd S j) j 2) else ((of_drop j m n 0 (hd S j)).1, lg (of_drop j m n 0 (hd S j)).2 j 1)
def oc_drop (S : Tb) (p1 p2 p3 : Int32) : Int32 × Tb := if isH p1 = true then (if p2 < 1 then (-1, S) else if p2 ≤ 10 then oj_drop S p1.toNatClampNeg p2.toNatClampNeg p3 else (-1, S)) else (-1, S)
theorem leafC {f : Nat → Option Nat} {wa : Nat → Nat} {M S' : Tb} {r : Int32} {o : Int32 × Tb} (h : o = (r, S')) : r = o.1 ∧ ∃ (f' : Nat → Option Nat) (wa' : Nat → Nat), ((f, wa, S', M) : WT) = (f', wa', o.2, M) := by
  subst h
  exact ⟨rfl, _, _, rfl⟩
theorem leafE {f : Nat → Option Nat} {wa : Nat → Nat} {M S' : Tb} {r : Int32} {o : Int32 × Tb} (h : o = (r, S')) : r = o.1 ∧ ((f, wa, S', M) : WT) = (f, wa, o.2, M) := by
  subst h
  exact ⟨rfl, rfl⟩
theorem Inv.rm {S : Tb} {i n : Nat} (h : Inv S) (hn : S 5 i = nI (n + 1)) (h10 : n < 10) : Inv (rmS S i) := by
  intro j hj
  by_cases hji : j = i
  · subst hji
    refine ⟨n, by omega, ?_⟩
    rw [rmS, sU_self, hn, nI_pred]
  · obtain ⟨q, h1, h2⟩ := h j hj
    exact ⟨q, h1, by rw [rmS, sU_oj S 5 5 _ hji]; exact h2⟩
theorem n_succ {x : Int32} {n : Nat} (hn : x = nI n) (h10 : n ≤ 10) (h0 : ¬ x = 0) : ∃ q : Nat, q < 10 ∧ x = nI (q + 1) := by
  rcases n with _ | q
  · exact absurd (by rw [hn]; exact nI_0) h0
  · exact ⟨q, by omega, hn⟩
theorem oN_s (a : Nat) : ¬ oN (some a) = 0 := by show ¬ (1 : Int32) = 0; decide
