/-! numbers and small words -/
abbrev rk (k : Nat) : Room := { frames := k, cells := 0, slots := 0, locals := 30 * k }
theorem ix10 (i k : Nat) : (10 : Int32) * nI i + nI k = nI (10 * i + k) := by
  rw [show (10 : Int32) = nI 10 from rfl, pk_mul, nI_add]
theorem ix24 {a : Nat} (h : a < 2 ^ 31) : nI a - nI a / 24 * 24 = nI (a % 24) := by
  have := pk_rem (a := a) (d := 24) h (by decide) (by decide)
  exact this
def b2i (b : Bool) : Int32 := if b then 1 else 0
def isH (i : Int32) : Bool := !decide (i < 0) && !decide (24 ≤ i)
def isWt (w : Int32) : Bool := !decide (w < 1) && !decide (1000 < w)
theorem isH_nI {j : Nat} (h : j < 24) : isH (nI j) = true := by
  have h1 : ¬ nI j < 0 := nI_pos (by omega)
  have h2 : ¬ (24 : Int32) ≤ nI j := nI_ge (b := 24) h (by decide)
  simp [isH, h1, h2]
theorem isH_of {i : Int32} (h : isH i = true) : ∃ j : Nat, j < 24 ∧ i = nI j := by
  have hh : ¬ i < 0 ∧ ¬ (24 : Int32) ≤ i := by simpa [isH] using h
  rcases pk_ix i (n := 24) (by decide) with h1 | h1 | h1
  · exact absurd h1 hh.1
  · exact absurd h1 hh.2
  · exact h1
theorem cl24 {j : Nat} (h : j < 24) : (nI j).toNatClampNeg = j := nI_clamp (by omega)
/-- what the items of row i weigh -/
def wt (S : Tb) (i : Nat) : Int32 := l_sum (fun k => S 8 (10 * i + k)) (S 5 i).toNatClampNeg
theorem wt_n {S : Tb} {i n : Nat} (hn : S 5 i = nI n) (h10 : n ≤ 10) : wt S i = l_sum (fun k => S 8 (10 * i + k)) n := by
  rw [wt, hn, nI_clamp (by omega)]
/-- row i has an item of just w -/
def hasI (S : Tb) (i : Nat) (w : Int32) : Nat → Bool
  | 0 => false
  | k + 1 => hasI S i w k || decide (S 8 (10 * i + k) = w)
def has (S : Tb) (i : Nat) (w : Int32) : Bool := hasI S i w (S 5 i).toNatClampNeg
theorem has_n {S : Tb} {i n : Nat} {w : Int32} (hn : S 5 i = nI n) (h10 : n ≤ 10) : has S i w = hasI S i w n := by
  rw [has, hn, nI_clamp (by omega)]
theorem hasI_up {S : Tb} {i : Nat} {w : Int32} {k : Nat} (h : hasI S i w k = true) : ∀ d, hasI S i w (k + d) = true
  | 0 => h
  | d + 1 => by show (hasI S i w (k + d) || _) = true; rw [hasI_up h d]; rfl
def okA (S : Tb) (i : Nat) (w : Int32) : Bool := !decide (10 ≤ S 5 i) && decide (wt S i + w ≤ S 1 i)
def acS (S : Tb) (i : Nat) (w : Int32) : Tb := sU (sU S 8 (10 * i + (S 5 i).toNatClampNeg) w) 5 i (S 5 i + 1)
def rmS (S : Tb) (i : Nat) : Tb := sU S 5 i (S 5 i - 1)
def rmV (S : Tb) (i : Nat) : Int32 := S 8 (10 * i + (S 5 i - 1).toNatClampNeg)
theorem Wi.col0 {G : GT} {f : Nat → Option Nat} {wa : Nat → Nat} {S M : Tb} {s : State} {H : Heap} {locs : List Loc} (h : Wi G (f, wa, S, M) s H locs) {i : Nat} (hi : i < 25) : S 0 i = oN (f i) := by
  obtain ⟨⟨L, ev, hP, hD, ⟨-, -, -, -, -, c6⟩, -⟩, -⟩ := h
  exact c6 i hi
def wOf (S : Tb) (i : Nat) (k : Int32) : Int32 := if k < 0 then (-8) else if S 5 i ≤ k then (-8) else S 8 (10 * i + k.toNatClampNeg)
