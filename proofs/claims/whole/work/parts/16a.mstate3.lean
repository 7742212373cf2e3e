theorem rw_t {x Y : Int32} {r : Nat} (h1 : ¬ x < 2) (h2 : x < Y) (hY : Y = nI r) (hr : r < 2147483648) : x = nI x.toNatClampNeg ∧ 2 ≤ x.toNatClampNeg ∧ x.toNatClampNeg < r := by
  have h0 : ¬ x < 0 := fun z => h1 (Int32.lt_trans z (by decide))
  obtain ⟨j, hj, e⟩ := nI_of h0
  have ej : (nI j).toNatClampNeg = j := nI_clamp hj
  rw [e, ej]
  rw [e] at h1
  rw [e, hY] at h2
  refine ⟨rfl, Nat.not_lt.mp (fun z => h1 (nI_lt (b := 2) z (by omega))), ?_⟩
  exact Nat.not_le.mp (fun z => absurd h2 (nI_nlt z hj))
theorem noD {d x : Int32} {n : Nat} (h : bI (decide (d < 0 ∨ ¬ d < x)) = 0) (hx : x = nI n) (hn : n < 2147483648) : d = nI d.toNatClampNeg ∧ d.toNatClampNeg < n := by
  have h := of_decide_eq_false (bI_f h)
  have h0 : ¬ d < 0 := fun z => h (Or.inl z)
  have h1 : d < x := Classical.not_not.mp (fun z => h (Or.inr z))
  exact ⟨clamp_nI h0, clamp_lt h0 (Int32.not_le.mpr (by rw [← hx]; exact h1)) hn⟩
theorem i40 {d t : Int32} {k s : Nat} (hd : d = nI k) (ht : t = nI s) : 40 * d + t = nI (40 * k + s) := by
  rw [hd, ht, show (40 : Int32) * nI k = nI (40 * k) from pk_mul 40 k]; exact nI_add _ _
theorem i64 {b t : Int32} {k s : Nat} (hd : b = nI k) (ht : t = nI s) : 64 * b + t = nI (64 * k + s) := by
  rw [hd, ht, show (64 : Int32) * nI k = nI (64 * k) from pk_mul 64 k]; exact nI_add _ _
theorem narZ {x : Int32} (h : x = 0 ∨ x = 1) : vp_nar .boolean x = x := by rcases h with rfl | rfl <;> rfl
/-- whether no row of the first m (from 2 on) lacks just two others -/
def mMiss (fL fM fR : FF) (d n : Nat) : Nat → Bool
  | 0 => true
  | m + 1 => mMiss fL fM fR d n m && (mGone fL fM fR d (2 + m) || !decide (nI (cnt (fun q => mGone fL fM fR q (2 + m)) n) = 2))
theorem mMiss_f {fL fM fR : FF} {d n m : Nat} (h : mMiss fL fM fR d n m = false) : ∀ k, m ≤ k → mMiss fL fM fR d n k = false
  | 0, hk => by
    have e : m = 0 := by omega
    rw [e] at h; exact h
  | k + 1, hk => by
    rcases Nat.lt_or_ge k m with q | q
    · have e : m = k + 1 := by omega
      rw [e] at h; exact h
    · rw [mMiss, mMiss_f h k q]; rfl
def mWipes (f : FF) : Nat → FF
  | 0 => f
  | d + 1 => upd (upd (mWipes f d) (2 * d) 0) (2 * d + 1) 0
/-- rotten places of a row cleared on the first d disks -/
def mScrub (f : FF) (t : Nat) : Nat → FF
  | 0 => f
  | d + 1 => upd (mScrub f t d) (40 * d + t) 0
/-- the latest label that any of the first d disks has -/
def mMax (fL fF fS : FF) : Nat → Int32
  | 0 => 0
  | d + 1 => if mHas fL fF fS d ≤ mMax fL fF fS d then mMax fL fF fS d else mHas fL fF fS d
/-- marks as a label tells them -/
def mMk (fL fF fS fT : FF) (x : Nat) (f : FF) : Nat → FF
  | 0 => f
  | d + 1 => upd (mMk fL fF fS fT x f d) d (if fL d = 0 then (if mHas fL fF fS d = 0 then 0 else fT (8 * x + d)) else mMk fL fF fS fT x f d d)
