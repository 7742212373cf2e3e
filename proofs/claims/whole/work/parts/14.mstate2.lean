def mHow (fl : Int32) (bits : Int64) (k : Nat) : Int32 := if fl = 0 then 1 else mBits bits k
def mPut1 (how : Int32) (x : Nat) (f : FF) (p : Nat) : FF := upd f p (if how = 1 ∨ how = 2 then nI x else f p)
def mPut2 (how : Int32) (x : Nat) (f : FF) (p : Nat) : FF := upd f p (if how = 1 ∨ how = 3 then nI x else f p)
theorem mPut1_t {how : Int32} {x p : Nat} {f : FF} (h : how = 1 ∨ how = 2) : mPut1 how x f p = upd f p (nI x) := by unfold mPut1; rw [if_pos h]
theorem mPut1_f {how : Int32} {x p : Nat} {f : FF} (h : ¬ (how = 1 ∨ how = 2)) : mPut1 how x f p = upd f p (f p) := by unfold mPut1; rw [if_neg h]
theorem mPut2_t {how : Int32} {x p : Nat} {f : FF} (h : how = 1 ∨ how = 3) : mPut2 how x f p = upd f p (nI x) := by unfold mPut2; rw [if_pos h]
theorem mPut2_f {how : Int32} {x p : Nat} {f : FF} (h : ¬ (how = 1 ∨ how = 3)) : mPut2 how x f p = upd f p (f p) := by unfold mPut2; rw [if_neg h]
/-- a label x written on the first d disks: both halves, and how many were under way -/
def mSp (fL : FF) (x p : Nat) (sm fl : Int32) (bits : Int64) (fF fS : FF) : Nat → FF × FF × Nat
  | 0 => (fF, fS, 0)
  | d + 1 => if fL d = 0 ∧ (sm = 0 ∨ ¬ mHas fL (mSp fL x p sm fl bits fF fS d).1 (mSp fL x p sm fl bits fF fS d).2.1 d ≤ 0) then
      (mPut1 (mHow fl bits (mSp fL x p sm fl bits fF fS d).2.2) x (mSp fL x p sm fl bits fF fS d).1 (2 * d + p), mPut2 (mHow fl bits (mSp fL x p sm fl bits fF fS d).2.2) x (mSp fL x p sm fl bits fF fS d).2.1 (2 * d + p), (mSp fL x p sm fl bits fF fS d).2.2 + 1)
    else mSp fL x p sm fl bits fF fS d
theorem mSp_k (fL : FF) (x p : Nat) (sm fl : Int32) (bits : Int64) (fF fS : FF) : ∀ d, (mSp fL x p sm fl bits fF fS d).2.2 ≤ d
  | 0 => Nat.le_refl 0
  | d + 1 => by
    have := mSp_k fL x p sm fl bits fF fS d
    rw [mSp]
    split
    · exact Nat.succ_le_succ this
    · omega
def mPlace (fI fJ fK : FF) : Nat → FF
  | 0 => fK
  | q + 1 => if fI q = 0 then mPlace fI fJ fK q else mCopy fJ (mPlace fI fJ fK q) (64 * q) 64
def mAll (g f : FF) : Nat → FF
  | 0 => f
  | q + 1 => mCopy g (mAll g f q) (64 * q) 64
def mSame (g f : FF) : Nat → FF
  | 0 => f
  | q + 1 => upd (mSame g f q) q (g q)
def mW (fL fM : FF) (n e t : Nat) : Int32 := if fL (e % n) = 0 then (if nI t < fM (e % n) then 1 else 0) else 0
def mPl1 (fL fM fI : FF) (n B : Nat) : Nat → Int32
  | 0 => 0
  | t + 1 => if nI (cnt (mInRow fI n (6 + t)) B) ≤ 0 then mPl1 fL fM fI n B t else mPl1 fL fM fI n B t + (mW fL fM n (6 + t) (6 + t) + mW fL fM n (6 + t + 1) (6 + t))
def mPl2 (fL fM fI : FF) (n : Nat) (s : Int32) : Nat → Int32
  | 0 => s
  | q + 1 => if fI q = 0 then mPl2 fL fM fI n s q + 0 else mPl2 fL fM fI n s q + mW fL fM n (6 + q / (n - 2) + 2 + q % (n - 2)) (6 + q / (n - 2))
theorem row_nI {n q : Nat} (h4 : 4 ≤ n) (hn : n ≤ 8) (hq : q < 1000) : 6 + nI q / (nI n - 2) = nI (6 + q / (n - 2)) := by
  rw [show (nI n - 2) = nI (n - 2) from pk_sub (a := n) (b := 2) (by omega), pk_div (by omega) (by omega) (by omega)]
  exact nI_add 6 _
