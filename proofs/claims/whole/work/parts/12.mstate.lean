/-! the reference's state: thrown, n, r, off, latest, base; now, kept, written, lost, marks, were, rotten, first, last, places, says, tells, journal, inJournal -/
abbrev FF : Type := Nat → Int32
abbrev MT : Type := Int32 × Int32 × Int32 × Int32 × Int32 × Int32 × FF × FF × FF × FF × FF × FF × FF × FF × FF × FF × FF × FF × FF × FF
theorem cnt_t2 {p : Nat → Bool} {n : Nat} (h : p n = true) : nI (cnt p (n + 1)) = nI (cnt p n) + 1 := (cnt_t h).symm
theorem cnt_f2 {p : Nat → Bool} {n : Nat} (h : p n = false) : nI (cnt p (n + 1)) = nI (cnt p n) + 0 := by rw [cnt_f h, Int32.add_zero]
def nz (x : Int32) : Bool := !decide (x = 0)
theorem nz_t {x : Int32} (h : ¬ x = 0) : nz x = true := by unfold nz; rw [decide_eq_false h]; rfl
theorem nz_f {x : Int32} (h : x = 0) : nz x = false := by unfold nz; rw [decide_eq_true h]; rfl
/-- a disk is gone in a row -/
def mGone (fL fM fR : FF) (d t : Nat) : Bool := nz (fL d) || (decide (fM d ≤ nI t) || nz (fR (40 * d + t)))
def mHas1 (fF fS : FF) (s : Nat) (x : Int32) : Int32 := if fF s = fS s ∧ x < fF s then fF s else x
/-- the latest label that a disk has, or 0 -/
def mHas (fL fF fS : FF) (d : Nat) : Int32 := if fL d = 0 then mHas1 fF fS (2 * d + 1) (mHas1 fF fS (2 * d) 0) else 0
def mBits (bits : Int64) (k : Nat) : Int32 := ((bits >>> ((2 * nI k).toInt64 &&& 63)) &&& 3).toInt32
/-- marks of the first d disks told by a label -/
def mTell (fM : FF) (x : Nat) (f : FF) : Nat → FF
  | 0 => f
  | d + 1 => upd (mTell fM x f d) (8 * x + d) (fM d)
/-- a block copied, the first k bytes of it -/
def mCopy (g : FF) (f : FF) (a : Nat) : Nat → FF
  | 0 => f
  | k + 1 => upd (mCopy g f a k) (a + k) (vp_nar .byte (g (a + k)))
def mInRow (fG : FF) (n t : Nat) (b : Nat) : Bool := nz (fG b) && decide (6 + nI b / (nI n - 2) = nI t)
def mRows (fG : FF) (n B : Nat) (t : Nat) : Bool := decide (¬ nI (cnt (mInRow fG n (6 + t)) B) ≤ 0)
def mUse (fW : FF) (n r : Nat) : Int32 := if nI (cnt (fun b => nz (fW b)) ((n - 2) * (r - 6))) = 0 then 0 else 1 + nI (cnt (fun b => nz (fW b)) ((n - 2) * (r - 6))) + 2 * nI (cnt (mRows fW n ((n - 2) * (r - 6))) (r - 6))
theorem ix {e : Int32} {k : Nat} (h : e = nI k) : e = nI k := h
theorem blk_nI {X Y : Int32} {n r : Nat} (hX : X = nI n) (hY : Y = nI r) (h4 : 4 ≤ n) (h12 : 12 ≤ r) : (X - 2) * (Y - 6) = nI ((n - 2) * (r - 6)) := by
  rw [hX, hY, show (nI n - 2) = nI (n - 2) from pk_sub (a := n) (b := 2) (by omega), show (nI r - 6) = nI (r - 6) from pk_sub (a := r) (b := 6) (by omega)]
  exact pk_mul _ _
theorem blk_le {n r : Nat} (h8 : n ≤ 8) (h40 : r ≤ 40) : (n - 2) * (r - 6) ≤ 204 := Nat.le_trans (Nat.mul_le_mul (show n - 2 ≤ 6 by omega) (show r - 6 ≤ 34 by omega)) (by decide)
